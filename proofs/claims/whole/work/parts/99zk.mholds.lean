/-! the reference: toBound, partOf, holds, allHold -/
def R14 (s : Int) : Prop := s = 0 ∨ s = 14
theorem p_Mo_toBound {g : cw_G} {M : cw_M} {p b w x : Int} (hS : Sh M) (hp : 0 ≤ p ∧ p < 7) (hb : 0 ≤ b ∧ b ≤ 10000) (hw : M 336 p = w) (hwb : 0 < w ∧ w ≤ 13254776280841401) (hx : RM M (16 + p) x) :
    mC g y_Mo_toBound [.inr (.inr 319), .inl p, .inl b] M (fun q M' => q = some (.inl (cw_cm (cw_ab x) (b * w))) ∧ cw_rf R14 M M') := by
  have b32 : in32 b := by unfold in32; omega
  refine cw_C_of (L := [.inr (.inr 319), .inl p, .inl b]) ok_Mo_toBound (Nat.le_refl _) (Nat.le_of_ble_eq_true rfl) rfl ?_
  refine cw_J_hide ?_
  refine k_Mo_toBound_0 _ _ _ _ _ _ _ _ ?_
  simp (disch := omega) only [↓w_nil, ↓w_cons, ↓w_ald0, ↓w_ic, ↓w_gf2_17, ↓w_ild1, ↓w_lald, ↓w_cv2, true_and, and_true, true_implies, false_implies, not_true_eq_false, not_false_eq_true, Int.reduceEq, Int.reduceLT, Int.reduceLE, Int.reduceNeg, w_c80, w_c8I, w_c8L, w_c8R, w_up1, w_up2, w_up3, hw, c_k319, c_k320, c_k321, c_k322, c_k323, c_k324, c_k325, c_k326, c_k327, c_k328, c_k329, c_k330, c_k331, c_k332, c_k333, c_k334, c_k335, c_k336, c_k337, c_k338, c_k339, c_k340, c_k341, c_k342, c_k343, c_k344, c_k345, c_k346, c_k347, hS.r319_0, hS.r319_1, hS.r319_2, hS.r319_3, hS.r319_4, hS.r319_5, hS.r319_6, hS.r319_8, hS.r319_9, hS.r319_10, hS.r319_11, hS.r319_12, hS.r319_13, hS.r319_14, hS.r319_15, hS.r319_16, hS.r319_17, hS.r319_20, hS.r319_21, hS.r319_22, hS.r319_23, hS.r319_24, hS.r319_25, hS.r319_26, hS.r319_29, hS.r319_30, hS.r319_31, hS.r319_32, w_sf1, w_sf3]
  repeat refine And.intro (by first | assumption | exact IsW.kt (by assumption) | omega | (unfold in32; omega) | (unfold in64; omega) | exact True.intro | exact Or.inl True.intro | exact Or.inr True.intro | rfl | exact Nat.le_of_ble_eq_true rfl) ?_
  try first | done | assumption | (unfold in32; omega) | (unfold in64; omega)
  refine ⟨_, p_Mo_sets hS (r := 0) (v := w) ⟨by omega, by omega⟩ (by omega), ?_⟩
  rintro q M1 ⟨rfl, g1, r1⟩
  have hS1 := hS.rf r1
  refine k_Mo_toBound_11 _ _ _ _ _ _ _ _ ?_
  simp (disch := omega) only [↓w_nil, ↓w_cons, ↓w_ald0, ↓w_ic, ↓w_ild2, ↓w_i2l, ↓w_cv3, true_and, and_true, true_implies, false_implies, not_true_eq_false, not_false_eq_true, Int.reduceEq, Int.reduceLT, Int.reduceLE, Int.reduceNeg, w_c80, w_c8I, w_c8L, w_c8R, w_up1, w_up2, w_up3, w_tl0]
  repeat refine And.intro (by first | assumption | exact IsW.kt (by assumption) | omega | (unfold in32; omega) | (unfold in64; omega) | exact True.intro | exact Or.inl True.intro | exact Or.inr True.intro | rfl | exact Nat.le_of_ble_eq_true rfl) ?_
  try first | done | assumption | (unfold in32; omega) | (unfold in64; omega)
  refine ⟨_, p_Mo_timesLong (va := w) (ia := 3) hS1 ⟨by omega, by omega⟩ ⟨by omega, by omega⟩ (by omega) g1 (b24 (by omega)) (by omega) (by omega), ?_⟩
  rintro q M2 ⟨rfl, g2, r2⟩
  have hS2 := hS1.rf r2
  refine k_Mo_toBound_19 _ _ _ _ _ _ _ _ ?_
  simp (disch := omega) only [↓w_nil, ↓w_cons, ↓w_ald0, ↓w_ic, ↓w_ild1, ↓w_iadd, ↓w_cv2, true_and, and_true, true_implies, false_implies, not_true_eq_false, not_false_eq_true, Int.reduceEq, Int.reduceLT, Int.reduceLE, Int.reduceNeg, w_c80, w_c8I, w_c8L, w_c8R, w_up1, w_up2, w_up3, w_tl0]
  repeat refine And.intro (by first | assumption | exact IsW.kt (by assumption) | omega | (unfold in32; omega) | (unfold in64; omega) | exact True.intro | exact Or.inl True.intro | exact Or.inr True.intro | rfl | exact Nat.le_of_ble_eq_true rfl) ?_
  try first | done | assumption | (unfold in32; omega) | (unfold in64; omega)
  refine ⟨_, p_Mo_against (va := x) hS2 ⟨by omega, by omega⟩ ⟨by omega, by omega⟩ ((hx.rf r1 ⟨by omega, by omega⟩ (by omega)).rf r2 ⟨by omega, by omega⟩ (by omega)) g2, ?_⟩
  rintro q M3 ⟨rfl, rfl⟩
  refine k_Mo_toBound_28 _ _ _ _ _ _ _ _ ?_
  simp (disch := omega) only [↓w_nil, ↓w_iret, true_and, and_true, true_implies, false_implies, not_true_eq_false, not_false_eq_true, Int.reduceEq, Int.reduceLT, Int.reduceLE, Int.reduceNeg, w_up1, w_up2, w_up3, w_tl1]
  repeat refine And.intro (by first | assumption | exact IsW.kt (by assumption) | omega | (unfold in32; omega) | (unfold in64; omega) | exact True.intro | exact Or.inl True.intro | exact Or.inr True.intro | rfl | exact Nat.le_of_ble_eq_true rfl) ?_
  try first | done | assumption | (unfold in32; omega) | (unfold in64; omega)
  have e : cw_ab (w * b) = b * w := by
    have := Int.mul_nonneg (show 0 ≤ w by omega) hb.1
    unfold cw_ab; rw [if_pos this, Int.mul_comm]
  rw [e]
  exact ⟨rfl, rf_tr (rf_mo r1 (fun s y => Or.inl y)) (rf_mo r2 (fun s y => y))⟩
/-- what solving left of a piece -/
def m_px (M : cw_M) (p x w : Int) : Prop := RM M (16 + p) x ∧ M 336 p = w ∧ 0 < w ∧ w ≤ 13254776280841401
theorem px_rf {M M1 : cw_M} {p x w : Int} {R : Int → Prop} (h : m_px M p x w) (r : cw_rf R M M1) (hp : 0 ≤ p ∧ p < 7) (hR : ∀ s, R s → s = 0 ∨ s = 14) : m_px M1 p x w := ⟨h.1.rf r ⟨by omega, by omega⟩ (fun y => by have := hR _ y; omega), by rw [r.1 336 (by omega)]; exact h.2.1, h.2.2⟩
theorem cm_le {a b : Int} : cw_cm a b ≤ 0 ↔ a ≤ b := by unfold cw_cm; split <;> (try split) <;> omega
theorem cm_ge {a b : Int} : 0 ≤ cw_cm a b ↔ b ≤ a := by unfold cw_cm; split <;> (try split) <;> omega
theorem p_Mo_partOf {g : cw_G} {M : cw_M} {p x w : Int} {fl : Int → Int} {n : Int} (hS : Sh M) (hW : WF n (M 324) fl) (hp : 0 ≤ p ∧ p < M 324 0) (h : m_px M p x w) :
    mC g y_Mo_partOf [.inr (.inr 319), .inl p] M (fun q M' => q = some (.inl (c_pt (M 324) p w x)) ∧ cw_rf R14 M M') := by
  have w0 := hW.1
  have p7 : p < 7 := by omega
  have g01 := gap_1 hW hp
  have rb := row_b hW hp.1 hp.2
  have g32 : in32 (M 324 (10 + 12 * p)) := by unfold in32; omega
  refine cw_C_of (L := [.inr (.inr 319), .inl p]) ok_Mo_partOf (Nat.le_refl _) (Nat.le_of_ble_eq_true rfl) rfl ?_
  refine cw_J_hide ?_
  have ret : ∀ (v : Int) (M1 : cw_M), v = c_pt (M 324) p w x → cw_rf R14 M M1 → mJ g y_Mo_partOf 47 [.inr (.inr 319), .inl p] [.inl v] M1 (cw_hide (fun q M' => q = some (.inl (c_pt (M 324) p w x)) ∧ cw_rf R14 M M')) := by
    rintro v M1 rfl r
    refine k_Mo_partOf_47 _ _ _ _ _ _ _ _ ?_
    simp (disch := omega) only [↓w_nil, ↓w_iret, true_and, and_true, true_implies, false_implies, not_true_eq_false, not_false_eq_true, Int.reduceEq, Int.reduceLT, Int.reduceLE, Int.reduceNeg, w_up1, w_up2, w_up3]
    repeat refine And.intro (by first | assumption | exact IsW.kt (by assumption) | omega | (unfold in32; omega) | (unfold in64; omega) | exact True.intro | exact Or.inl True.intro | exact Or.inr True.intro | rfl | exact Nat.le_of_ble_eq_true rfl) ?_
    try first | done | assumption | (unfold in32; omega) | (unfold in64; omega)
    all_goals exact r
  refine k_Mo_partOf_0 _ _ _ _ _ _ _ _ ?_
  simp (disch := omega) only [↓w_nil, ↓w_cons, ↓w_ald0, ↓w_ild1, ↓w_ic, ↓w_cv2, true_and, and_true, true_implies, false_implies, not_true_eq_false, not_false_eq_true, Int.reduceEq, Int.reduceLT, Int.reduceLE, Int.reduceNeg, w_c80, w_c8I, w_c8L, w_c8R, w_up1, w_up2, w_up3]
  repeat refine And.intro (by first | assumption | exact IsW.kt (by assumption) | omega | (unfold in32; omega) | (unfold in64; omega) | exact True.intro | exact Or.inl True.intro | exact Or.inr True.intro | rfl | exact Nat.le_of_ble_eq_true rfl) ?_
  try first | done | assumption | (unfold in32; omega) | (unfold in64; omega)
  refine ⟨_, p_Mo_of hS ⟨hp.1, p7⟩ (w := 0) (by omega), ?_⟩
  rintro q M9 ⟨rfl, rfl⟩
  rw [show 10 + 12 * p + 0 = 10 + 12 * p by omega]
  refine k_Mo_partOf_6 _ _ _ _ _ _ _ _ ?_
  simp (disch := omega) only [↓w_nil, ↓w_cons, ↓w_ic, ↓w_iceq, true_and, and_true, true_implies, false_implies, not_true_eq_false, not_false_eq_true, Int.reduceEq, Int.reduceLT, Int.reduceLE, Int.reduceNeg, w_up1, w_up2, w_up3, w_tl1]
  repeat refine And.intro (by first | assumption | exact IsW.kt (by assumption) | omega | (unfold in32; omega) | (unfold in64; omega) | exact True.intro | exact Or.inl True.intro | exact Or.inr True.intro | rfl | exact Nat.le_of_ble_eq_true rfl) ?_
  try first | done | assumption | (unfold in32; omega) | (unfold in64; omega)
  refine ⟨fun hc => ?_, fun hc => ?_⟩
  · refine k_Mo_partOf_24 _ _ _ _ _ _ _ _ ?_
    simp (disch := omega) only [↓w_nil, ↓w_cons, ↓w_ic, ↓w_goto, true_and, and_true, true_implies, false_implies, not_true_eq_false, not_false_eq_true, Int.reduceEq, Int.reduceLT, Int.reduceLE, Int.reduceNeg, w_up1, w_up2, w_up3]
    exact ret 0 _ (by unfold c_pt; rw [if_neg (by omega)]) rf_rf
  · have g0 : M9 324 (10 + 12 * p) = 0 := by omega
    have gi : cw_ir (M9 324) p := (hW.2.1 p hp.1 hp.2).resolve_left (fun z => by have := z.1; omega)
    unfold cw_ir at gi
    have b14 : M9 324 (12 + 12 * p) * w ≤ M9 324 (14 + 12 * p) * w := Int.mul_le_mul_of_nonneg_right (by omega) (by have := h.2.2.1; omega)
    refine k_Mo_partOf_10 _ _ _ _ _ _ _ _ ?_
    simp (disch := omega) only [↓w_nil, ↓w_cons, ↓w_ald0, ↓w_ild1, ↓w_ic, ↓w_cv2, true_and, and_true, true_implies, false_implies, not_true_eq_false, not_false_eq_true, Int.reduceEq, Int.reduceLT, Int.reduceLE, Int.reduceNeg, w_c80, w_c8I, w_c8L, w_c8R, w_up1, w_up2, w_up3]
    repeat refine And.intro (by first | assumption | exact IsW.kt (by assumption) | omega | (unfold in32; omega) | (unfold in64; omega) | exact True.intro | exact Or.inl True.intro | exact Or.inr True.intro | rfl | exact Nat.le_of_ble_eq_true rfl) ?_
    try first | done | assumption | (unfold in32; omega) | (unfold in64; omega)
    refine ⟨_, p_Mo_of hS ⟨hp.1, p7⟩ (w := 2) (by omega), ?_⟩
    rintro q M8 ⟨rfl, rfl⟩
    rw [show 10 + 12 * p + 2 = 12 + 12 * p by omega]
    refine k_Mo_partOf_18 _ _ _ _ _ _ _ _ ?_
    simp (disch := omega) only [↓w_nil, ↓w_cv2, true_and, and_true, true_implies, false_implies, not_true_eq_false, not_false_eq_true, Int.reduceEq, Int.reduceLT, Int.reduceLE, Int.reduceNeg, w_c80, w_c8I, w_c8L, w_c8R, w_up1, w_up2, w_up3, w_tl1]
    repeat refine And.intro (by first | assumption | exact IsW.kt (by assumption) | omega | (unfold in32; omega) | (unfold in64; omega) | exact True.intro | exact Or.inl True.intro | exact Or.inr True.intro | rfl | exact Nat.le_of_ble_eq_true rfl) ?_
    try first | done | assumption | (unfold in32; omega) | (unfold in64; omega)
    refine ⟨_, p_Mo_toBound hS ⟨hp.1, p7⟩ (by omega) h.2.1 h.2.2 h.1, ?_⟩
    rintro q M1 ⟨rfl, r1⟩
    have hS1 := hS.rf r1
    have c1 := cm_gt (a := cw_ab x) (b := M8 324 (12 + 12 * p) * w)
    have c32 := cm_32 (a := cw_ab x) (b := M8 324 (12 + 12 * p) * w)
    refine k_Mo_partOf_21 _ _ _ _ _ _ _ _ ?_
    simp (disch := omega) only [↓w_nil, ↓w_ifgt, true_and, and_true, true_implies, false_implies, not_true_eq_false, not_false_eq_true, Int.reduceEq, Int.reduceLT, Int.reduceLE, Int.reduceNeg, w_up1, w_up2, w_up3, w_tl1]
    repeat refine And.intro (by first | assumption | exact IsW.kt (by assumption) | omega | (unfold in32; omega) | (unfold in64; omega) | exact True.intro | exact Or.inl True.intro | exact Or.inr True.intro | rfl | exact Nat.le_of_ble_eq_true rfl) ?_
    try first | done | assumption | (unfold in32; omega) | (unfold in64; omega)
    refine ⟨fun hd => ?_, fun hd => ?_⟩
    · have h2 := px_rf h r1 ⟨hp.1, p7⟩ (fun s y => y)
      have e4 : M1 324 = M8 324 := r1.1 324 (by omega)
      refine k_Mo_partOf_28 _ _ _ _ _ _ _ _ ?_
      simp (disch := omega) only [↓w_nil, ↓w_cons, ↓w_ald0, ↓w_ild1, ↓w_ic, ↓w_cv2, true_and, and_true, true_implies, false_implies, not_true_eq_false, not_false_eq_true, Int.reduceEq, Int.reduceLT, Int.reduceLE, Int.reduceNeg, w_c80, w_c8I, w_c8L, w_c8R, w_up1, w_up2, w_up3]
      repeat refine And.intro (by first | assumption | exact IsW.kt (by assumption) | omega | (unfold in32; omega) | (unfold in64; omega) | exact True.intro | exact Or.inl True.intro | exact Or.inr True.intro | rfl | exact Nat.le_of_ble_eq_true rfl) ?_
      try first | done | assumption | (unfold in32; omega) | (unfold in64; omega)
      refine ⟨_, p_Mo_of hS1 ⟨hp.1, p7⟩ (w := 4) (by omega), ?_⟩
      rintro q M7 ⟨rfl, rfl⟩
      rw [show 10 + 12 * p + 4 = 14 + 12 * p by omega, e4]
      refine k_Mo_partOf_36 _ _ _ _ _ _ _ _ ?_
      simp (disch := omega) only [↓w_nil, ↓w_cv2, true_and, and_true, true_implies, false_implies, not_true_eq_false, not_false_eq_true, Int.reduceEq, Int.reduceLT, Int.reduceLE, Int.reduceNeg, w_c80, w_c8I, w_c8L, w_c8R, w_up1, w_up2, w_up3, w_tl1]
      repeat refine And.intro (by first | assumption | exact IsW.kt (by assumption) | omega | (unfold in32; omega) | (unfold in64; omega) | exact True.intro | exact Or.inl True.intro | exact Or.inr True.intro | rfl | exact Nat.le_of_ble_eq_true rfl) ?_
      try first | done | assumption | (unfold in32; omega) | (unfold in64; omega)
      refine ⟨_, p_Mo_toBound hS1 ⟨hp.1, p7⟩ (by omega) h2.2.1 h2.2.2 h2.1, ?_⟩
      rintro q M2 ⟨rfl, r2⟩
      have c2 := cm_gt (a := cw_ab x) (b := M8 324 (14 + 12 * p) * w)
      have d32 := cm_32 (a := cw_ab x) (b := M8 324 (14 + 12 * p) * w)
      refine k_Mo_partOf_39 _ _ _ _ _ _ _ _ ?_
      simp (disch := omega) only [↓w_nil, ↓w_ifgt, true_and, and_true, true_implies, false_implies, not_true_eq_false, not_false_eq_true, Int.reduceEq, Int.reduceLT, Int.reduceLE, Int.reduceNeg, w_up1, w_up2, w_up3, w_tl1]
      repeat refine And.intro (by first | assumption | exact IsW.kt (by assumption) | omega | (unfold in32; omega) | (unfold in64; omega) | exact True.intro | exact Or.inl True.intro | exact Or.inr True.intro | rfl | exact Nat.le_of_ble_eq_true rfl) ?_
      try first | done | assumption | (unfold in32; omega) | (unfold in64; omega)
      refine ⟨fun hf => ?_, fun hf => ?_⟩
      · refine k_Mo_partOf_46 _ _ _ _ _ _ _ _ ?_
        simp (disch := omega) only [↓w_nil, ↓w_cons, ↓w_ic, ↓w_fall, true_and, and_true, true_implies, false_implies, not_true_eq_false, not_false_eq_true, Int.reduceEq, Int.reduceLT, Int.reduceLE, Int.reduceNeg, w_up1, w_up2, w_up3]
        exact ret 2 _ (by unfold c_pt; rw [if_pos g0, if_pos (by omega), if_pos (by omega)]; rfl) (rf_tr r1 r2)
      · refine k_Mo_partOf_42 _ _ _ _ _ _ _ _ ?_
        simp (disch := omega) only [↓w_nil, ↓w_cons, ↓w_ic, ↓w_goto, true_and, and_true, true_implies, false_implies, not_true_eq_false, not_false_eq_true, Int.reduceEq, Int.reduceLT, Int.reduceLE, Int.reduceNeg, w_up1, w_up2, w_up3]
        exact ret 1 _ (by unfold c_pt; rw [if_pos g0, if_pos (by omega), if_neg (by omega)]; rfl) (rf_tr r1 r2)
    · refine k_Mo_partOf_24 _ _ _ _ _ _ _ _ ?_
      simp (disch := omega) only [↓w_nil, ↓w_cons, ↓w_ic, ↓w_goto, true_and, and_true, true_implies, false_implies, not_true_eq_false, not_false_eq_true, Int.reduceEq, Int.reduceLT, Int.reduceLE, Int.reduceNeg, w_up1, w_up2, w_up3]
      exact ret 0 _ (by unfold c_pt; rw [if_pos g0, if_neg (by omega), if_neg (by omega)]; rfl) r1
/-- whether a piece is within its part -/
def l_hd (f : Int → Int) (p k w x : Int) : Prop := f (10 + 12 * p) = 1 ∨ l_in f p k w x
theorem p_Mo_holds {g : cw_G} {M : cw_M} {p x w k : Int} {fl : Int → Int} {n : Int} (hS : Sh M) (hW : WF n (M 324) fl) (hp : 0 ≤ p ∧ p < M 324 0) (h : m_px M p x w) (hk : M 334 p = k) (hkb : -2 ≤ k ∧ k ≤ 2) :
    mC g y_Mo_holds [.inr (.inr 319), .inl p] M (fun q M' => (∃ c : Int, q = some (.inl c) ∧ (c = 0 ∨ c = 1) ∧ (c = 1 ↔ l_hd (M 324) p k w x)) ∧ cw_rf R14 M M') := by
  have w0 := hW.1
  have p7 : p < 7 := by omega
  have g01 := gap_1 hW hp
  have rb := row_b hW hp.1 hp.2
  have g32 : in32 (M 324 (10 + 12 * p)) := by unfold in32; omega
  have k32 : in32 k := by unfold in32; omega
  have sx : M 322 (16 + p) = cw_sg x := by obtain ⟨_, _, _, _, _, _, e⟩ := h.1; exact e
  have s32 := sg32 x
  refine cw_C_of (L := [.inr (.inr 319), .inl p, cU, cU, cU, cU]) ok_Mo_holds (Nat.le_refl _) (Nat.le_of_ble_eq_true rfl) rfl ?_
  refine cw_J_hide ?_
  refine k_Mo_holds_0 _ _ _ _ _ _ _ _ ?_
  simp (disch := omega) only [↓w_nil, ↓w_cons, ↓w_ald0, ↓w_ild1, ↓w_ic, ↓w_cv2, true_and, and_true, true_implies, false_implies, not_true_eq_false, not_false_eq_true, Int.reduceEq, Int.reduceLT, Int.reduceLE, Int.reduceNeg, w_c80, w_c8I, w_c8L, w_c8R, w_up1, w_up2, w_up3]
  repeat refine And.intro (by first | assumption | exact IsW.kt (by assumption) | omega | (unfold in32; omega) | (unfold in64; omega) | exact True.intro | exact Or.inl True.intro | exact Or.inr True.intro | rfl | exact Nat.le_of_ble_eq_true rfl) ?_
  try first | done | assumption | (unfold in32; omega) | (unfold in64; omega)
  refine ⟨_, p_Mo_of hS ⟨hp.1, p7⟩ (w := 0) (by omega), ?_⟩
  rintro q M9 ⟨rfl, rfl⟩
  rw [show 10 + 12 * p + 0 = 10 + 12 * p by omega]
  refine k_Mo_holds_6 _ _ _ _ _ _ _ _ ?_
  simp (disch := omega) only [↓w_nil, ↓w_cons, ↓w_ic, ↓w_icne, true_and, and_true, true_implies, false_implies, not_true_eq_false, not_false_eq_true, Int.reduceEq, Int.reduceLT, Int.reduceLE, Int.reduceNeg, w_up1, w_up2, w_up3, w_tl1]
  repeat refine And.intro (by first | assumption | exact IsW.kt (by assumption) | omega | (unfold in32; omega) | (unfold in64; omega) | exact True.intro | exact Or.inl True.intro | exact Or.inr True.intro | rfl | exact Nat.le_of_ble_eq_true rfl) ?_
  try first | done | assumption | (unfold in32; omega) | (unfold in64; omega)
  refine ⟨fun hc => ?_, fun hc => ?_⟩
  · have g0 : M9 324 (10 + 12 * p) = 0 := by omega
    have gi : cw_ir (M9 324) p := (hW.2.1 p hp.1 hp.2).resolve_left (fun z => by have := z.1; omega)
    unfold cw_ir at gi
    have w1 := h.2.2.1
    have b12 : 0 < M9 324 (12 + 12 * p) * w := Int.mul_pos (by omega) w1
    have b14 : M9 324 (12 + 12 * p) * w ≤ M9 324 (14 + 12 * p) * w := Int.mul_le_mul_of_nonneg_right (by omega) (by omega)
    have ax := sg_ab x
    -- the three questions
    have a2 : 0 ≤ cw_ab k ∧ cw_ab k ≤ 2 := ⟨ab_nn _, ab_rng hkb⟩
    have last : ∀ (sd lw hh : Int) (M1 : cw_M), (sd = 0 ∨ sd = 1) → (sd = 1 ↔ (k = 0 ∨ cw_sg x = if k < 0 then -1 else 1)) → (lw = 0 ∨ lw = 1) → (lw = 1 ↔ (k = 0 ∨ M9 324 (10 + 12 * p + 2 * cw_ab k) * w ≤ cw_ab x)) → (hh = 0 ∨ hh = 1) → (hh = 1 ↔ (cw_ab k = 2 ∨ cw_ab x ≤ M9 324 (10 + 12 * p + (2 + 2 * cw_ab k)) * w)) → cw_rf R14 M9 M1 → ∀ z : cw_V,
        mJ g y_Mo_holds 134 [.inr (.inr 319), .inl p, .inl (cw_ab k), .inl sd, .inl lw, z] [.inl hh] M1 (cw_hide (fun q M' => (∃ c : Int, q = some (.inl c) ∧ (c = 0 ∨ c = 1) ∧ (c = 1 ↔ l_hd (M9 324) p k w x)) ∧ cw_rf R14 M9 M')) := by
      intro sd lw hh M1 s1 s2 l1 l2 h1 h2 r z
      have sd32 : in32 sd := by unfold in32; omega
      have lw32 : in32 lw := by unfold in32; omega
      have hh32 : in32 hh := by unfold in32; omega
      have all : (sd = 1 ∧ lw = 1 ∧ hh = 1) ↔ l_hd (M9 324) p k w x := by
        rw [s2, l2, h2]
        unfold l_hd l_in
        rcases (show k = -2 ∨ k = -1 ∨ k = 0 ∨ k = 1 ∨ k = 2 by omega) with rfl | rfl | rfl | rfl | rfl
        · rw [show cw_ab (-2) = 2 from rfl, show 10 + 12 * p + 2 * 2 = 14 + 12 * p by omega, if_pos (by omega)]
          omega
        · rw [show cw_ab (-1) = 1 from rfl, show 10 + 12 * p + 2 * 1 = 12 + 12 * p by omega, show 10 + 12 * p + (2 + 2 * 1) = 14 + 12 * p by omega, if_pos (by omega)]
          omega
        · rw [show cw_ab 0 = 0 from rfl, show 10 + 12 * p + 2 * 0 = 10 + 12 * p by omega, show 10 + 12 * p + (2 + 2 * 0) = 12 + 12 * p by omega, if_neg (by omega)]
          omega
        · rw [show cw_ab 1 = 1 from rfl, show 10 + 12 * p + 2 * 1 = 12 + 12 * p by omega, show 10 + 12 * p + (2 + 2 * 1) = 14 + 12 * p by omega, if_neg (by omega)]
          omega
        · rw [show cw_ab 2 = 2 from rfl, show 10 + 12 * p + 2 * 2 = 14 + 12 * p by omega, if_neg (by omega)]
          omega
      have no : ¬ (sd = 1 ∧ lw = 1 ∧ hh = 1) → ∀ z : cw_V, mJ g y_Mo_holds 154 [.inr (.inr 319), .inl p, .inl (cw_ab k), .inl sd, .inl lw, z] [] M1 (cw_hide (fun q M' => (∃ c : Int, q = some (.inl c) ∧ (c = 0 ∨ c = 1) ∧ (c = 1 ↔ l_hd (M9 324) p k w x)) ∧ cw_rf R14 M9 M')) := by
        intro hn z
        refine k_Mo_holds_154 _ _ _ _ _ _ _ _ ?_
        simp (disch := omega) only [↓w_nil, ↓w_cons, ↓w_ic, ↓w_fall, true_and, and_true, true_implies, false_implies, not_true_eq_false, not_false_eq_true, Int.reduceEq, Int.reduceLT, Int.reduceLE, Int.reduceNeg, w_up1, w_up2, w_up3]
        refine k_Mo_holds_155 _ _ _ _ _ _ _ _ ?_
        simp (disch := omega) only [↓w_nil, ↓w_zret, true_and, and_true, true_implies, false_implies, not_true_eq_false, not_false_eq_true, Int.reduceEq, Int.reduceLT, Int.reduceLE, Int.reduceNeg, w_up1, w_up2, w_up3]
        repeat refine And.intro (by first | assumption | exact IsW.kt (by assumption) | omega | (unfold in32; omega) | (unfold in64; omega) | exact True.intro | exact Or.inl True.intro | exact Or.inr True.intro | rfl | exact Nat.le_of_ble_eq_true rfl) ?_
        try first | done | assumption | (unfold in32; omega) | (unfold in64; omega)
        refine ⟨⟨0, rfl, Or.inl rfl, fun z => absurd z (by omega), fun z => absurd (all.mpr z) hn⟩, r⟩
      refine k_Mo_holds_134 _ _ _ _ _ _ _ _ ?_
      simp (disch := omega) only [↓w_nil, ↓w_cons, ↓w_ist5, ↓w_ild3, ↓w_ifeq, true_and, and_true, true_implies, false_implies, not_true_eq_false, not_false_eq_true, Int.reduceEq, Int.reduceLT, Int.reduceLE, Int.reduceNeg, w_nlI, w_nlL, w_nlR, w_up1, w_up2, w_up3]
      repeat refine And.intro (by first | assumption | exact IsW.kt (by assumption) | omega | (unfold in32; omega) | (unfold in64; omega) | exact True.intro | exact Or.inl True.intro | exact Or.inr True.intro | rfl | exact Nat.le_of_ble_eq_true rfl) ?_
      try first | done | assumption | (unfold in32; omega) | (unfold in64; omega)
      refine ⟨fun q1 => ?_, fun q1 => ?_⟩
      · exact no (fun z => by omega) _
      · refine k_Mo_holds_140 _ _ _ _ _ _ _ _ ?_
        simp (disch := omega) only [↓w_nil, ↓w_cons, ↓w_ild4, ↓w_ifeq, true_and, and_true, true_implies, false_implies, not_true_eq_false, not_false_eq_true, Int.reduceEq, Int.reduceLT, Int.reduceLE, Int.reduceNeg, w_up1, w_up2, w_up3]
        repeat refine And.intro (by first | assumption | exact IsW.kt (by assumption) | omega | (unfold in32; omega) | (unfold in64; omega) | exact True.intro | exact Or.inl True.intro | exact Or.inr True.intro | rfl | exact Nat.le_of_ble_eq_true rfl) ?_
        try first | done | assumption | (unfold in32; omega) | (unfold in64; omega)
        refine ⟨fun q2 => ?_, fun q2 => ?_⟩
        · exact no (fun z => by omega) _
        · refine k_Mo_holds_145 _ _ _ _ _ _ _ _ ?_
          simp (disch := omega) only [↓w_nil, ↓w_cons, ↓w_ild5, ↓w_ifeq, true_and, and_true, true_implies, false_implies, not_true_eq_false, not_false_eq_true, Int.reduceEq, Int.reduceLT, Int.reduceLE, Int.reduceNeg, w_up1, w_up2, w_up3]
          repeat refine And.intro (by first | assumption | exact IsW.kt (by assumption) | omega | (unfold in32; omega) | (unfold in64; omega) | exact True.intro | exact Or.inl True.intro | exact Or.inr True.intro | rfl | exact Nat.le_of_ble_eq_true rfl) ?_
          try first | done | assumption | (unfold in32; omega) | (unfold in64; omega)
          refine ⟨fun q3 => ?_, fun q3 => ?_⟩
          · exact no (fun z => by omega) _
          · refine k_Mo_holds_150 _ _ _ _ _ _ _ _ ?_
            simp (disch := omega) only [↓w_nil, ↓w_cons, ↓w_ic, ↓w_goto, true_and, and_true, true_implies, false_implies, not_true_eq_false, not_false_eq_true, Int.reduceEq, Int.reduceLT, Int.reduceLE, Int.reduceNeg, w_up1, w_up2, w_up3]
            refine k_Mo_holds_155 _ _ _ _ _ _ _ _ ?_
            simp (disch := omega) only [↓w_nil, ↓w_zret, true_and, and_true, true_implies, false_implies, not_true_eq_false, not_false_eq_true, Int.reduceEq, Int.reduceLT, Int.reduceLE, Int.reduceNeg, w_up1, w_up2, w_up3]
            repeat refine And.intro (by first | assumption | exact IsW.kt (by assumption) | omega | (unfold in32; omega) | (unfold in64; omega) | exact True.intro | exact Or.inl True.intro | exact Or.inr True.intro | rfl | exact Nat.le_of_ble_eq_true rfl) ?_
            try first | done | assumption | (unfold in32; omega) | (unfold in64; omega)
            refine ⟨⟨1, rfl, Or.inr rfl, fun _ => all.mp (by omega), fun _ => rfl⟩, r⟩
    have high : ∀ (sd lw : Int) (M1 : cw_M), (sd = 0 ∨ sd = 1) → (sd = 1 ↔ (k = 0 ∨ cw_sg x = if k < 0 then -1 else 1)) → (lw = 0 ∨ lw = 1) → (lw = 1 ↔ (k = 0 ∨ M9 324 (10 + 12 * p + 2 * cw_ab k) * w ≤ cw_ab x)) → cw_rf R14 M9 M1 → ∀ z z' : cw_V,
        mJ g y_Mo_holds 104 [.inr (.inr 319), .inl p, .inl (cw_ab k), .inl sd, z, z'] [.inl lw] M1 (cw_hide (fun q M' => (∃ c : Int, q = some (.inl c) ∧ (c = 0 ∨ c = 1) ∧ (c = 1 ↔ l_hd (M9 324) p k w x)) ∧ cw_rf R14 M9 M')) := by
      intro sd lw M1 s1 s2 l1 l2 r z z'
      have hS1 := hS.rf r
      have e4 : M1 324 = M9 324 := r.1 324 (by omega)
      have a32 : in32 (cw_ab k) := by unfold in32; omega
      refine k_Mo_holds_104 _ _ _ _ _ _ _ _ ?_
      simp (disch := omega) only [↓w_nil, ↓w_cons, ↓w_ist4, ↓w_ild2, ↓w_ic, ↓w_iceq, true_and, and_true, true_implies, false_implies, not_true_eq_false, not_false_eq_true, Int.reduceEq, Int.reduceLT, Int.reduceLE, Int.reduceNeg, w_nlI, w_nlL, w_nlR, w_up1, w_up2, w_up3]
      repeat refine And.intro (by first | assumption | exact IsW.kt (by assumption) | omega | (unfold in32; omega) | (unfold in64; omega) | exact True.intro | exact Or.inl True.intro | exact Or.inr True.intro | rfl | exact Nat.le_of_ble_eq_true rfl) ?_
      try first | done | assumption | (unfold in32; omega) | (unfold in64; omega)
      refine ⟨fun q1 => ?_, fun q1 => ?_⟩
      · refine k_Mo_holds_129 _ _ _ _ _ _ _ _ ?_
        simp (disch := omega) only [↓w_nil, ↓w_cons, ↓w_ic, ↓w_goto, true_and, and_true, true_implies, false_implies, not_true_eq_false, not_false_eq_true, Int.reduceEq, Int.reduceLT, Int.reduceLE, Int.reduceNeg, w_up1, w_up2, w_up3]
        exact last sd lw 1 M1 s1 s2 l1 l2 (Or.inr rfl) ⟨fun _ => Or.inl q1, fun _ => rfl⟩ r _
      · have h2 := px_rf h r ⟨hp.1, p7⟩ (fun s y => y)
        have bb : 0 ≤ M9 324 (10 + 12 * p + (2 + 2 * cw_ab k)) ∧ M9 324 (10 + 12 * p + (2 + 2 * cw_ab k)) ≤ 10000 := by
          rcases (show cw_ab k = 0 ∨ cw_ab k = 1 by omega) with e | e <;> rw [e]
          · rw [show 10 + 12 * p + (2 + 2 * 0) = 12 + 12 * p by omega]; omega
          · rw [show 10 + 12 * p + (2 + 2 * 1) = 14 + 12 * p by omega]; omega
        refine k_Mo_holds_111 _ _ _ _ _ _ _ _ ?_
        simp (disch := omega) only [↓w_nil, ↓w_cons, ↓w_ald0, ↓w_ild1, ↓w_ic, ↓w_ild2, ↓w_imul, ↓w_iadd, ↓w_cv2, true_and, and_true, true_implies, false_implies, not_true_eq_false, not_false_eq_true, Int.reduceEq, Int.reduceLT, Int.reduceLE, Int.reduceNeg, w_c80, w_c8I, w_c8L, w_c8R, w_up1, w_up2, w_up3]
        repeat refine And.intro (by first | assumption | exact IsW.kt (by assumption) | omega | (unfold in32; omega) | (unfold in64; omega) | exact True.intro | exact Or.inl True.intro | exact Or.inr True.intro | rfl | exact Nat.le_of_ble_eq_true rfl) ?_
        try first | done | assumption | (unfold in32; omega) | (unfold in64; omega)
        refine ⟨_, p_Mo_of hS1 ⟨hp.1, p7⟩ (w := 2 + 2 * cw_ab k) (by omega), ?_⟩
        rintro q M7 ⟨rfl, rfl⟩
        rw [e4]
        refine k_Mo_holds_123 _ _ _ _ _ _ _ _ ?_
        simp (disch := omega) only [↓w_nil, ↓w_cv2, true_and, and_true, true_implies, false_implies, not_true_eq_false, not_false_eq_true, Int.reduceEq, Int.reduceLT, Int.reduceLE, Int.reduceNeg, w_c80, w_c8I, w_c8L, w_c8R, w_up1, w_up2, w_up3, w_tl1]
        repeat refine And.intro (by first | assumption | exact IsW.kt (by assumption) | omega | (unfold in32; omega) | (unfold in64; omega) | exact True.intro | exact Or.inl True.intro | exact Or.inr True.intro | rfl | exact Nat.le_of_ble_eq_true rfl) ?_
        try first | done | assumption | (unfold in32; omega) | (unfold in64; omega)
        refine ⟨_, p_Mo_toBound hS1 ⟨hp.1, p7⟩ bb h2.2.1 h2.2.2 h2.1, ?_⟩
        rintro q M2 ⟨rfl, r2⟩
        have c1 := cm_gt (a := cw_ab x) (b := M9 324 (10 + 12 * p + (2 + 2 * cw_ab k)) * w)
        have c32 := cm_32 (a := cw_ab x) (b := M9 324 (10 + 12 * p + (2 + 2 * cw_ab k)) * w)
        refine k_Mo_holds_126 _ _ _ _ _ _ _ _ ?_
        simp (disch := omega) only [↓w_nil, ↓w_ifgt, true_and, and_true, true_implies, false_implies, not_true_eq_false, not_false_eq_true, Int.reduceEq, Int.reduceLT, Int.reduceLE, Int.reduceNeg, w_up1, w_up2, w_up3, w_tl1]
        repeat refine And.intro (by first | assumption | exact IsW.kt (by assumption) | omega | (unfold in32; omega) | (unfold in64; omega) | exact True.intro | exact Or.inl True.intro | exact Or.inr True.intro | rfl | exact Nat.le_of_ble_eq_true rfl) ?_
        try first | done | assumption | (unfold in32; omega) | (unfold in64; omega)
        refine ⟨fun q2 => ?_, fun q2 => ?_⟩
        · refine k_Mo_holds_133 _ _ _ _ _ _ _ _ ?_
          simp (disch := omega) only [↓w_nil, ↓w_cons, ↓w_ic, ↓w_fall, true_and, and_true, true_implies, false_implies, not_true_eq_false, not_false_eq_true, Int.reduceEq, Int.reduceLT, Int.reduceLE, Int.reduceNeg, w_up1, w_up2, w_up3]
          exact last sd lw 0 M2 s1 s2 l1 l2 (Or.inl rfl) ⟨fun z => absurd z (by omega), fun z => by omega⟩ (rf_tr r r2) _
        · refine k_Mo_holds_129 _ _ _ _ _ _ _ _ ?_
          simp (disch := omega) only [↓w_nil, ↓w_cons, ↓w_ic, ↓w_goto, true_and, and_true, true_implies, false_implies, not_true_eq_false, not_false_eq_true, Int.reduceEq, Int.reduceLT, Int.reduceLE, Int.reduceNeg, w_up1, w_up2, w_up3]
          exact last sd lw 1 M2 s1 s2 l1 l2 (Or.inr rfl) ⟨fun _ => Or.inr (by omega), fun _ => rfl⟩ (rf_tr r r2) _
    have low : ∀ (sd : Int), (sd = 0 ∨ sd = 1) → (sd = 1 ↔ (k = 0 ∨ cw_sg x = if k < 0 then -1 else 1)) → ∀ z z' z'' : cw_V,
        mJ g y_Mo_holds 78 [.inr (.inr 319), .inl p, .inl (cw_ab k), z, z', z''] [.inl sd] M9 (cw_hide (fun q M' => (∃ c : Int, q = some (.inl c) ∧ (c = 0 ∨ c = 1) ∧ (c = 1 ↔ l_hd (M9 324) p k w x)) ∧ cw_rf R14 M9 M')) := by
      intro sd s1 s2 z z' z''
      have a32 : in32 (cw_ab k) := by unfold in32; omega
      have k0 : cw_ab k = 0 ↔ k = 0 := by unfold cw_ab; split <;> omega
      refine k_Mo_holds_78 _ _ _ _ _ _ _ _ ?_
      simp (disch := omega) only [↓w_nil, ↓w_cons, ↓w_ist3, ↓w_ild2, ↓w_ifeq, true_and, and_true, true_implies, false_implies, not_true_eq_false, not_false_eq_true, Int.reduceEq, Int.reduceLT, Int.reduceLE, Int.reduceNeg, w_nlI, w_nlL, w_nlR, w_up1, w_up2, w_up3]
      repeat refine And.intro (by first | assumption | exact IsW.kt (by assumption) | omega | (unfold in32; omega) | (unfold in64; omega) | exact True.intro | exact Or.inl True.intro | exact Or.inr True.intro | rfl | exact Nat.le_of_ble_eq_true rfl) ?_
      try first | done | assumption | (unfold in32; omega) | (unfold in64; omega)
      refine ⟨fun q1 => ?_, fun q1 => ?_⟩
      · refine k_Mo_holds_99 _ _ _ _ _ _ _ _ ?_
        simp (disch := omega) only [↓w_nil, ↓w_cons, ↓w_ic, ↓w_goto, true_and, and_true, true_implies, false_implies, not_true_eq_false, not_false_eq_true, Int.reduceEq, Int.reduceLT, Int.reduceLE, Int.reduceNeg, w_up1, w_up2, w_up3]
        exact high sd 1 M9 s1 s2 (Or.inr rfl) ⟨fun _ => Or.inl (k0.mp q1), fun _ => rfl⟩ rf_rf _ _
      · have bb : 0 ≤ M9 324 (10 + 12 * p + 2 * cw_ab k) ∧ M9 324 (10 + 12 * p + 2 * cw_ab k) ≤ 10000 := by
          rcases (show cw_ab k = 1 ∨ cw_ab k = 2 by omega) with e | e <;> rw [e]
          · rw [show 10 + 12 * p + 2 * 1 = 12 + 12 * p by omega]; omega
          · rw [show 10 + 12 * p + 2 * 2 = 14 + 12 * p by omega]; omega
        refine k_Mo_holds_83 _ _ _ _ _ _ _ _ ?_
        simp (disch := omega) only [↓w_nil, ↓w_cons, ↓w_ald0, ↓w_ild1, ↓w_ic, ↓w_ild2, ↓w_imul, ↓w_cv2, true_and, and_true, true_implies, false_implies, not_true_eq_false, not_false_eq_true, Int.reduceEq, Int.reduceLT, Int.reduceLE, Int.reduceNeg, w_c80, w_c8I, w_c8L, w_c8R, w_up1, w_up2, w_up3]
        repeat refine And.intro (by first | assumption | exact IsW.kt (by assumption) | omega | (unfold in32; omega) | (unfold in64; omega) | exact True.intro | exact Or.inl True.intro | exact Or.inr True.intro | rfl | exact Nat.le_of_ble_eq_true rfl) ?_
        try first | done | assumption | (unfold in32; omega) | (unfold in64; omega)
        refine ⟨_, p_Mo_of hS ⟨hp.1, p7⟩ (w := 2 * cw_ab k) (by omega), ?_⟩
        rintro q M7 ⟨rfl, rfl⟩
        refine k_Mo_holds_93 _ _ _ _ _ _ _ _ ?_
        simp (disch := omega) only [↓w_nil, ↓w_cv2, true_and, and_true, true_implies, false_implies, not_true_eq_false, not_false_eq_true, Int.reduceEq, Int.reduceLT, Int.reduceLE, Int.reduceNeg, w_c80, w_c8I, w_c8L, w_c8R, w_up1, w_up2, w_up3, w_tl1]
        repeat refine And.intro (by first | assumption | exact IsW.kt (by assumption) | omega | (unfold in32; omega) | (unfold in64; omega) | exact True.intro | exact Or.inl True.intro | exact Or.inr True.intro | rfl | exact Nat.le_of_ble_eq_true rfl) ?_
        try first | done | assumption | (unfold in32; omega) | (unfold in64; omega)
        refine ⟨_, p_Mo_toBound hS ⟨hp.1, p7⟩ bb h.2.1 h.2.2 h.1, ?_⟩
        rintro q M2 ⟨rfl, r2⟩
        have c1 := cm_ge (a := cw_ab x) (b := M7 324 (10 + 12 * p + 2 * cw_ab k) * w)
        have c32 := cm_32 (a := cw_ab x) (b := M7 324 (10 + 12 * p + 2 * cw_ab k) * w)
        refine k_Mo_holds_96 _ _ _ _ _ _ _ _ ?_
        simp (disch := omega) only [↓w_nil, ↓w_iflt, true_and, and_true, true_implies, false_implies, not_true_eq_false, not_false_eq_true, Int.reduceEq, Int.reduceLT, Int.reduceLE, Int.reduceNeg, w_up1, w_up2, w_up3, w_tl1]
        repeat refine And.intro (by first | assumption | exact IsW.kt (by assumption) | omega | (unfold in32; omega) | (unfold in64; omega) | exact True.intro | exact Or.inl True.intro | exact Or.inr True.intro | rfl | exact Nat.le_of_ble_eq_true rfl) ?_
        try first | done | assumption | (unfold in32; omega) | (unfold in64; omega)
        refine ⟨fun q2 => ?_, fun q2 => ?_⟩
        · refine k_Mo_holds_103 _ _ _ _ _ _ _ _ ?_
          simp (disch := omega) only [↓w_nil, ↓w_cons, ↓w_ic, ↓w_fall, true_and, and_true, true_implies, false_implies, not_true_eq_false, not_false_eq_true, Int.reduceEq, Int.reduceLT, Int.reduceLE, Int.reduceNeg, w_up1, w_up2, w_up3]
          exact high sd 0 M2 s1 s2 (Or.inl rfl) ⟨fun z => absurd z (by omega), fun z => by omega⟩ r2 _ _
        · refine k_Mo_holds_99 _ _ _ _ _ _ _ _ ?_
          simp (disch := omega) only [↓w_nil, ↓w_cons, ↓w_ic, ↓w_goto, true_and, and_true, true_implies, false_implies, not_true_eq_false, not_false_eq_true, Int.reduceEq, Int.reduceLT, Int.reduceLE, Int.reduceNeg, w_up1, w_up2, w_up3]
          exact high sd 1 M2 s1 s2 (Or.inr rfl) ⟨fun _ => Or.inr (by omega), fun _ => rfl⟩ r2 _ _
    have side : mJ g y_Mo_holds 37 [.inr (.inr 319), .inl p, cU, cU, cU, cU] [.inl (cw_ab k)] M9 (cw_hide (fun q M' => (∃ c : Int, q = some (.inl c) ∧ (c = 0 ∨ c = 1) ∧ (c = 1 ↔ l_hd (M9 324) p k w x)) ∧ cw_rf R14 M9 M')) := by
      have cmp : ∀ v : Int, v = (if k < 0 then -1 else 1) → k ≠ 0 → mJ g y_Mo_holds 70 [.inr (.inr 319), .inl p, .inl (cw_ab k), cU, cU, cU] [.inl v, .inl (cw_sg x)] M9 (cw_hide (fun q M' => (∃ c : Int, q = some (.inl c) ∧ (c = 0 ∨ c = 1) ∧ (c = 1 ↔ l_hd (M9 324) p k w x)) ∧ cw_rf R14 M9 M')) := by
        intro v hv hk0
        have v32 : in32 v := by unfold in32; rw [hv]; split <;> omega
        refine k_Mo_holds_70 _ _ _ _ _ _ _ _ ?_
        simp (disch := omega) only [↓w_nil, ↓w_icne, true_and, and_true, true_implies, false_implies, not_true_eq_false, not_false_eq_true, Int.reduceEq, Int.reduceLT, Int.reduceLE, Int.reduceNeg, w_up1, w_up2, w_up3]
        repeat refine And.intro (by first | assumption | exact IsW.kt (by assumption) | omega | (unfold in32; omega) | (unfold in64; omega) | exact True.intro | exact Or.inl True.intro | exact Or.inr True.intro | rfl | exact Nat.le_of_ble_eq_true rfl) ?_
        try first | done | assumption | (unfold in32; omega) | (unfold in64; omega)
        refine ⟨fun q2 => ?_, fun q2 => ?_⟩
        · refine k_Mo_holds_77 _ _ _ _ _ _ _ _ ?_
          simp (disch := omega) only [↓w_nil, ↓w_cons, ↓w_ic, ↓w_fall, true_and, and_true, true_implies, false_implies, not_true_eq_false, not_false_eq_true, Int.reduceEq, Int.reduceLT, Int.reduceLE, Int.reduceNeg, w_up1, w_up2, w_up3]
          exact low 0 (Or.inl rfl) ⟨fun z => absurd z (by omega), fun z => by omega⟩ _ _ _
        · refine k_Mo_holds_73 _ _ _ _ _ _ _ _ ?_
          simp (disch := omega) only [↓w_nil, ↓w_cons, ↓w_ic, ↓w_goto, true_and, and_true, true_implies, false_implies, not_true_eq_false, not_false_eq_true, Int.reduceEq, Int.reduceLT, Int.reduceLE, Int.reduceNeg, w_up1, w_up2, w_up3]
          exact low 1 (Or.inr rfl) ⟨fun _ => Or.inr (by omega), fun _ => rfl⟩ _ _ _
      refine k_Mo_holds_37 _ _ _ _ _ _ _ _ ?_
      simp (disch := omega) only [↓w_nil, ↓w_cons, ↓w_ist2, ↓w_ald0, ↓w_gf2_15, ↓w_ild1, ↓w_iald, ↓w_ifeq, true_and, and_true, true_implies, false_implies, not_true_eq_false, not_false_eq_true, Int.reduceEq, Int.reduceLT, Int.reduceLE, Int.reduceNeg, w_nlI, w_nlL, w_nlR, w_up1, w_up2, w_up3, hk, c_k319, c_k320, c_k321, c_k322, c_k323, c_k324, c_k325, c_k326, c_k327, c_k328, c_k329, c_k330, c_k331, c_k332, c_k333, c_k334, c_k335, c_k336, c_k337, c_k338, c_k339, c_k340, c_k341, c_k342, c_k343, c_k344, c_k345, c_k346, c_k347, hS.r319_0, hS.r319_1, hS.r319_2, hS.r319_3, hS.r319_4, hS.r319_5, hS.r319_6, hS.r319_8, hS.r319_9, hS.r319_10, hS.r319_11, hS.r319_12, hS.r319_13, hS.r319_14, hS.r319_15, hS.r319_16, hS.r319_17, hS.r319_20, hS.r319_21, hS.r319_22, hS.r319_23, hS.r319_24, hS.r319_25, hS.r319_26, hS.r319_29, hS.r319_30, hS.r319_31, hS.r319_32, w_sf1, w_sf3]
      repeat refine And.intro (by first | assumption | exact IsW.kt (by assumption) | omega | (unfold in32; omega) | (unfold in64; omega) | exact True.intro | exact Or.inl True.intro | exact Or.inr True.intro | rfl | exact Nat.le_of_ble_eq_true rfl) ?_
      try first | done | assumption | (unfold in32; omega) | (unfold in64; omega)
      refine ⟨fun q1 => ?_, fun q1 => ?_⟩
      · refine k_Mo_holds_73 _ _ _ _ _ _ _ _ ?_
        simp (disch := omega) only [↓w_nil, ↓w_cons, ↓w_ic, ↓w_goto, true_and, and_true, true_implies, false_implies, not_true_eq_false, not_false_eq_true, Int.reduceEq, Int.reduceLT, Int.reduceLE, Int.reduceNeg, w_up1, w_up2, w_up3]
        exact low 1 (Or.inr rfl) ⟨fun _ => Or.inl q1, fun _ => rfl⟩ _ _ _
      · refine k_Mo_holds_47 _ _ _ _ _ _ _ _ ?_
        simp (disch := omega) only [↓w_nil, ↓w_cons, ↓w_ald0, ↓w_gf2_2, ↓w_ic, ↓w_ild1, ↓w_iadd, ↓w_iald, ↓w_gf2_15, ↓w_ifge, true_and, and_true, true_implies, false_implies, not_true_eq_false, not_false_eq_true, Int.reduceEq, Int.reduceLT, Int.reduceLE, Int.reduceNeg, w_up1, w_up2, w_up3, hk, sx, c_k319, c_k320, c_k321, c_k322, c_k323, c_k324, c_k325, c_k326, c_k327, c_k328, c_k329, c_k330, c_k331, c_k332, c_k333, c_k334, c_k335, c_k336, c_k337, c_k338, c_k339, c_k340, c_k341, c_k342, c_k343, c_k344, c_k345, c_k346, c_k347, hS.r319_0, hS.r319_1, hS.r319_2, hS.r319_3, hS.r319_4, hS.r319_5, hS.r319_6, hS.r319_8, hS.r319_9, hS.r319_10, hS.r319_11, hS.r319_12, hS.r319_13, hS.r319_14, hS.r319_15, hS.r319_16, hS.r319_17, hS.r319_20, hS.r319_21, hS.r319_22, hS.r319_23, hS.r319_24, hS.r319_25, hS.r319_26, hS.r319_29, hS.r319_30, hS.r319_31, hS.r319_32, w_sf1, w_sf3]
        repeat refine And.intro (by first | assumption | exact IsW.kt (by assumption) | omega | (unfold in32; omega) | (unfold in64; omega) | exact True.intro | exact Or.inl True.intro | exact Or.inr True.intro | rfl | exact Nat.le_of_ble_eq_true rfl) ?_
        try first | done | assumption | (unfold in32; omega) | (unfold in64; omega)
        refine ⟨fun q2 => ?_, fun q2 => ?_⟩
        · refine k_Mo_holds_69 _ _ _ _ _ _ _ _ ?_
          simp (disch := omega) only [↓w_nil, ↓w_cons, ↓w_ic, ↓w_fall, true_and, and_true, true_implies, false_implies, not_true_eq_false, not_false_eq_true, Int.reduceEq, Int.reduceLT, Int.reduceLE, Int.reduceNeg, w_up1, w_up2, w_up3]
          exact cmp 1 (by rw [if_neg (by omega)]) q1
        · refine k_Mo_holds_65 _ _ _ _ _ _ _ _ ?_
          simp (disch := omega) only [↓w_nil, ↓w_cons, ↓w_ic, ↓w_goto, true_and, and_true, true_implies, false_implies, not_true_eq_false, not_false_eq_true, Int.reduceEq, Int.reduceLT, Int.reduceLE, Int.reduceNeg, w_up1, w_up2, w_up3]
          exact cmp (-1) (by rw [if_pos (by omega)]) q1
    refine k_Mo_holds_12 _ _ _ _ _ _ _ _ ?_
    simp (disch := omega) only [↓w_nil, ↓w_cons, ↓w_ald0, ↓w_gf2_15, ↓w_ild1, ↓w_iald, ↓w_ifge, true_and, and_true, true_implies, false_implies, not_true_eq_false, not_false_eq_true, Int.reduceEq, Int.reduceLT, Int.reduceLE, Int.reduceNeg, w_up1, w_up2, w_up3, hk, c_k319, c_k320, c_k321, c_k322, c_k323, c_k324, c_k325, c_k326, c_k327, c_k328, c_k329, c_k330, c_k331, c_k332, c_k333, c_k334, c_k335, c_k336, c_k337, c_k338, c_k339, c_k340, c_k341, c_k342, c_k343, c_k344, c_k345, c_k346, c_k347, hS.r319_0, hS.r319_1, hS.r319_2, hS.r319_3, hS.r319_4, hS.r319_5, hS.r319_6, hS.r319_8, hS.r319_9, hS.r319_10, hS.r319_11, hS.r319_12, hS.r319_13, hS.r319_14, hS.r319_15, hS.r319_16, hS.r319_17, hS.r319_20, hS.r319_21, hS.r319_22, hS.r319_23, hS.r319_24, hS.r319_25, hS.r319_26, hS.r319_29, hS.r319_30, hS.r319_31, hS.r319_32, w_sf1, w_sf3]
    repeat refine And.intro (by first | assumption | exact IsW.kt (by assumption) | omega | (unfold in32; omega) | (unfold in64; omega) | exact True.intro | exact Or.inl True.intro | exact Or.inr True.intro | rfl | exact Nat.le_of_ble_eq_true rfl) ?_
    try first | done | assumption | (unfold in32; omega) | (unfold in64; omega)
    refine ⟨fun hc => ?_, fun hc => ?_⟩
    · refine k_Mo_holds_31 _ _ _ _ _ _ _ _ ?_
      simp (disch := omega) only [↓w_nil, ↓w_cons, ↓w_ald0, ↓w_gf2_15, ↓w_ild1, ↓w_iald, ↓w_fall, true_and, and_true, true_implies, false_implies, not_true_eq_false, not_false_eq_true, Int.reduceEq, Int.reduceLT, Int.reduceLE, Int.reduceNeg, w_up1, w_up2, w_up3, hk, c_k319, c_k320, c_k321, c_k322, c_k323, c_k324, c_k325, c_k326, c_k327, c_k328, c_k329, c_k330, c_k331, c_k332, c_k333, c_k334, c_k335, c_k336, c_k337, c_k338, c_k339, c_k340, c_k341, c_k342, c_k343, c_k344, c_k345, c_k346, c_k347, hS.r319_0, hS.r319_1, hS.r319_2, hS.r319_3, hS.r319_4, hS.r319_5, hS.r319_6, hS.r319_8, hS.r319_9, hS.r319_10, hS.r319_11, hS.r319_12, hS.r319_13, hS.r319_14, hS.r319_15, hS.r319_16, hS.r319_17, hS.r319_20, hS.r319_21, hS.r319_22, hS.r319_23, hS.r319_24, hS.r319_25, hS.r319_26, hS.r319_29, hS.r319_30, hS.r319_31, hS.r319_32, w_sf1, w_sf3]
      repeat refine And.intro (by first | assumption | exact IsW.kt (by assumption) | omega | (unfold in32; omega) | (unfold in64; omega) | exact True.intro | exact Or.inl True.intro | exact Or.inr True.intro | rfl | exact Nat.le_of_ble_eq_true rfl) ?_
      try first | done | assumption | (unfold in32; omega) | (unfold in64; omega)
      have e : k = cw_ab k := by unfold cw_ab; rw [if_pos (by omega)]
      rw [← e] at side
      exact side
    · refine k_Mo_holds_21 _ _ _ _ _ _ _ _ ?_
      simp (disch := omega) only [↓w_nil, ↓w_cons, ↓w_ald0, ↓w_gf2_15, ↓w_ild1, ↓w_iald, ↓w_ineg, ↓w_goto, true_and, and_true, true_implies, false_implies, not_true_eq_false, not_false_eq_true, Int.reduceEq, Int.reduceLT, Int.reduceLE, Int.reduceNeg, w_up1, w_up2, w_up3, hk, c_k319, c_k320, c_k321, c_k322, c_k323, c_k324, c_k325, c_k326, c_k327, c_k328, c_k329, c_k330, c_k331, c_k332, c_k333, c_k334, c_k335, c_k336, c_k337, c_k338, c_k339, c_k340, c_k341, c_k342, c_k343, c_k344, c_k345, c_k346, c_k347, hS.r319_0, hS.r319_1, hS.r319_2, hS.r319_3, hS.r319_4, hS.r319_5, hS.r319_6, hS.r319_8, hS.r319_9, hS.r319_10, hS.r319_11, hS.r319_12, hS.r319_13, hS.r319_14, hS.r319_15, hS.r319_16, hS.r319_17, hS.r319_20, hS.r319_21, hS.r319_22, hS.r319_23, hS.r319_24, hS.r319_25, hS.r319_26, hS.r319_29, hS.r319_30, hS.r319_31, hS.r319_32, w_sf1, w_sf3]
      repeat refine And.intro (by first | assumption | exact IsW.kt (by assumption) | omega | (unfold in32; omega) | (unfold in64; omega) | exact True.intro | exact Or.inl True.intro | exact Or.inr True.intro | rfl | exact Nat.le_of_ble_eq_true rfl) ?_
      try first | done | assumption | (unfold in32; omega) | (unfold in64; omega)
      have e : -k = cw_ab k := by unfold cw_ab; rw [if_neg (by omega)]
      rw [← e] at side
      exact side
  · refine k_Mo_holds_10 _ _ _ _ _ _ _ _ ?_
    simp (disch := omega) only [↓w_nil, ↓w_cons, ↓w_ic, ↓w_zret, true_and, and_true, true_implies, false_implies, not_true_eq_false, not_false_eq_true, Int.reduceEq, Int.reduceLT, Int.reduceLE, Int.reduceNeg, w_up1, w_up2, w_up3]
    repeat refine And.intro (by first | assumption | exact IsW.kt (by assumption) | omega | (unfold in32; omega) | (unfold in64; omega) | exact True.intro | exact Or.inl True.intro | exact Or.inr True.intro | rfl | exact Nat.le_of_ble_eq_true rfl) ?_
    try first | done | assumption | (unfold in32; omega) | (unfold in64; omega)
    refine ⟨⟨1, rfl, Or.inr rfl, fun _ => Or.inl (by omega), fun _ => rfl⟩, rf_rf⟩
