/-! the reference: the calls for a fraction; by program (wip/whole/gen99zx.py) -/
theorem mok_rf {f : Int → Int} {M M1 : cw_M} {R : Int → Prop} (h : m_ok f M) (r : cw_rf R M M1) (hR : ∀ s, R s → s < 16) (hk : ∀ T, g_of f = .inr T → Tk f T) : m_ok f M1 := by
  have o : ∀ a : Int, ¬ (320 ≤ a ∧ a ≤ 323) → M1 a = M a := fun a z => r.1 a z
  unfold m_ok
  rw [o 319 (by omega)]
  refine ⟨?_, h.2⟩
  rcases h.1 with h1 | ⟨h1, h2 | ⟨T, hT, h3, h4, h5, X, F, h6⟩⟩
  · exact Or.inl h1
  · exact Or.inr ⟨h1, Or.inl h2⟩
  · have tk := hk T hT
    refine Or.inr ⟨h1, Or.inr ⟨T, hT, h3, h4.cg (fun a y => o a (by omega)), by unfold m_in; rw [o 335 (by omega)]; exact h5, X, F, tp_mp T 1 (fun x j _ _ i _ hB => ?_) h6⟩⟩
    obtain ⟨w, hw, e3, hp, hr⟩ := hB
    refine ⟨w, hw, by rw [o 333 (by omega)]; exact e3, fun p q => ?_, hr⟩
    have c := tk.2.2.2 p (i p q)
    have x := hp p q
    exact ⟨⟨x.1.1.rf r ⟨by omega, by omega⟩ (fun y => by have := hR _ y; omega), x.1.2⟩, ⟨x.2.1.1.rf r ⟨by omega, by omega⟩ (fun y => by have := hR _ y; omega), x.2.1.2⟩, by rw [o 336 (by omega)]; exact x.2.2.1, by rw [o 335 (by omega)]; exact x.2.2.2⟩
/-- what a call for a fraction leaves -/
def FrM (f : Int → Int) (U : Tr → Int → Int → Prop) (M : cw_M) (r : Option cw_V) (M' : cw_M) : Prop := Gq M M' ∧ m_ok f M' ∧ ((∃ e, g_of f = .inl e ∧ r = some (.inl (-20)) ∧ sR M M' 6 ∧ sR M M' 7) ∨ ∃ T, g_of f = .inr T ∧ ∃ N D A W : Int, U T A W ∧ 0 < W ∧ 0 < D ∧ A * D = N * W ∧ r = some (.inl (cw_sg N)) ∧ RM M' 6 (N / cw_gd D N) ∧ RM M' 7 (D / cw_gd D N))
def Rt9 (s : Int) : Prop := 2 ≤ s ∧ s ≤ 9
theorem p_Mo_tellsOf1 {g : cw_G} {M : cw_M} {r p v w : Int} (hS : Sh M) (hr : 16 ≤ r ∧ r < 32) (hp : 0 ≤ p ∧ p < 7) (hv : RM M r v) (h1 : M 335 p = 1) (hw : M 336 p = w) (hwb : 0 < w ∧ w ≤ 13254776280841401) (vb : -900000000000000000000000 ≤ v ∧ v ≤ 900000000000000000000000) :
    mC g y_Mo_tellsOf [.inr (.inr 319), .inl r, .inl p] M (fun q M' => q = some (.inl (cw_sg v)) ∧ RM M' 6 (v / cw_gd w v) ∧ RM M' 7 (w / cw_gd w v) ∧ cw_rf Rt9 M M') := by
  refine cw_C_of (L := [.inr (.inr 319), .inl r, .inl p]) ok_Mo_tellsOf (Nat.le_refl _) (Nat.le_of_ble_eq_true rfl) rfl ?_
  refine cw_J_hide ?_
  refine k_Mo_tellsOf_0 _ _ _ _ _ _ _ _ ?_
  simp (disch := omega) only [↓w_nil, ↓w_cons, ↓w_ald0, ↓w_gf2_16, ↓w_ild2, ↓w_zald, ↓w_ifeq, true_and, and_true, true_implies, false_implies, not_true_eq_false, not_false_eq_true, Int.reduceEq, Int.reduceLT, Int.reduceLE, Int.reduceNeg, w_up1, w_up2, w_up3, h1, c_k319, c_k320, c_k321, c_k322, c_k323, c_k324, c_k325, c_k326, c_k327, c_k328, c_k329, c_k330, c_k331, c_k332, c_k333, c_k334, c_k335, c_k336, c_k337, c_k338, c_k339, c_k340, c_k341, c_k342, c_k343, c_k344, c_k345, c_k346, c_k347, hS.r319_0, hS.r319_1, hS.r319_2, hS.r319_3, hS.r319_4, hS.r319_5, hS.r319_6, hS.r319_8, hS.r319_9, hS.r319_10, hS.r319_11, hS.r319_12, hS.r319_13, hS.r319_14, hS.r319_15, hS.r319_16, hS.r319_17, hS.r319_20, hS.r319_21, hS.r319_22, hS.r319_23, hS.r319_24, hS.r319_25, hS.r319_26, hS.r319_29, hS.r319_30, hS.r319_31, hS.r319_32, w_sf1, w_sf3]
  repeat refine And.intro (by first | assumption | exact IsW.kt (by assumption) | omega | (unfold in32; omega) | (unfold in64; omega) | exact True.intro | exact Or.inl True.intro | exact Or.inr True.intro | rfl | exact Nat.le_of_ble_eq_true rfl) ?_
  try first | done | assumption | (unfold in32; omega) | (unfold in64; omega)
  refine k_Mo_tellsOf_9 _ _ _ _ _ _ _ _ ?_
  simp (disch := omega) only [↓w_nil, ↓w_cons, ↓w_ald0, ↓w_ic, ↓w_ild1, ↓w_cv2, true_and, and_true, true_implies, false_implies, not_true_eq_false, not_false_eq_true, Int.reduceEq, Int.reduceLT, Int.reduceLE, Int.reduceNeg, w_c80, w_c8I, w_c8L, w_c8R, w_up1, w_up2, w_up3]
  repeat refine And.intro (by first | assumption | exact IsW.kt (by assumption) | omega | (unfold in32; omega) | (unfold in64; omega) | exact True.intro | exact Or.inl True.intro | exact Or.inr True.intro | rfl | exact Nat.le_of_ble_eq_true rfl) ?_
  try first | done | assumption | (unfold in32; omega) | (unfold in64; omega)
  refine ⟨_, p_Mo_copies hS (v := v) ⟨by omega, by omega⟩ ⟨by omega, by omega⟩ hv, ?_⟩
  rintro q M1 ⟨rfl, g1, r1⟩
  have hS1 := hS.rf r1
  have e6 : M1 336 p = w := by rw [r1.1 336 (by omega)]; exact hw
  refine k_Mo_tellsOf_16 _ _ _ _ _ _ _ _ ?_
  simp (disch := omega) only [↓w_nil, ↓w_cons, ↓w_ald0, ↓w_ic, ↓w_gf2_17, ↓w_ild2, ↓w_lald, ↓w_cv2, true_and, and_true, true_implies, false_implies, not_true_eq_false, not_false_eq_true, Int.reduceEq, Int.reduceLT, Int.reduceLE, Int.reduceNeg, w_c80, w_c8I, w_c8L, w_c8R, w_up1, w_up2, w_up3, w_tl0, e6, c_k319, c_k320, c_k321, c_k322, c_k323, c_k324, c_k325, c_k326, c_k327, c_k328, c_k329, c_k330, c_k331, c_k332, c_k333, c_k334, c_k335, c_k336, c_k337, c_k338, c_k339, c_k340, c_k341, c_k342, c_k343, c_k344, c_k345, c_k346, c_k347, hS1.r319_0, hS1.r319_1, hS1.r319_2, hS1.r319_3, hS1.r319_4, hS1.r319_5, hS1.r319_6, hS1.r319_8, hS1.r319_9, hS1.r319_10, hS1.r319_11, hS1.r319_12, hS1.r319_13, hS1.r319_14, hS1.r319_15, hS1.r319_16, hS1.r319_17, hS1.r319_20, hS1.r319_21, hS1.r319_22, hS1.r319_23, hS1.r319_24, hS1.r319_25, hS1.r319_26, hS1.r319_29, hS1.r319_30, hS1.r319_31, hS1.r319_32, w_sf1, w_sf3]
  repeat refine And.intro (by first | assumption | exact IsW.kt (by assumption) | omega | (unfold in32; omega) | (unfold in64; omega) | exact True.intro | exact Or.inl True.intro | exact Or.inr True.intro | rfl | exact Nat.le_of_ble_eq_true rfl) ?_
  try first | done | assumption | (unfold in32; omega) | (unfold in64; omega)
  refine ⟨_, p_Mo_sets hS1 (r := 9) (v := w) ⟨by omega, by omega⟩ (by omega), ?_⟩
  rintro q M2 ⟨rfl, g2, r2⟩
  have hS2 := hS1.rf r2
  refine k_Mo_tellsOf_28 _ _ _ _ _ _ _ _ ?_
  simp (disch := omega) only [↓w_nil, ↓w_goto, true_and, and_true, true_implies, false_implies, not_true_eq_false, not_false_eq_true, Int.reduceEq, Int.reduceLT, Int.reduceLE, Int.reduceNeg, w_up1, w_up2, w_up3, w_tl0]
  repeat refine And.intro (by first | assumption | exact IsW.kt (by assumption) | omega | (unfold in32; omega) | (unfold in64; omega) | exact True.intro | exact Or.inl True.intro | exact Or.inr True.intro | rfl | exact Nat.le_of_ble_eq_true rfl) ?_
  try first | done | assumption | (unfold in32; omega) | (unfold in64; omega)
  refine k_Mo_tellsOf_38 _ _ _ _ _ _ _ _ ?_
  simp (disch := omega) only [↓w_nil, ↓w_cons, ↓w_ald0, ↓w_ic, ↓w_cv2, true_and, and_true, true_implies, false_implies, not_true_eq_false, not_false_eq_true, Int.reduceEq, Int.reduceLT, Int.reduceLE, Int.reduceNeg, w_c80, w_c8I, w_c8L, w_c8R, w_up1, w_up2, w_up3]
  repeat refine And.intro (by first | assumption | exact IsW.kt (by assumption) | omega | (unfold in32; omega) | (unfold in64; omega) | exact True.intro | exact Or.inl True.intro | exact Or.inr True.intro | rfl | exact Nat.le_of_ble_eq_true rfl) ?_
  try first | done | assumption | (unfold in32; omega) | (unfold in64; omega)
  refine ⟨_, p_Mo_tells' hS2 (g1.rf r2 ⟨by omega, by omega⟩ (by omega)) g2 hwb.1 (Int.lt_trans (b24 vb) (by decide)) (Int.lt_trans (b24 (by omega)) (by decide)), ?_⟩
  rintro q M3 ⟨rfl, g6, g7, r3⟩
  have s32 := sg32 v
  have rr : cw_rf Rt9 M M3 := rf_tr (rf_tr (rf_mo r1 (fun s y => by unfold Rt9; omega)) (rf_mo r2 (fun s y => by unfold Rt9; omega))) (rf_mo r3 (fun s y => by unfold A27 at y; unfold Rt9; omega))
  refine k_Mo_tellsOf_46 _ _ _ _ _ _ _ _ ?_
  simp (disch := omega) only [↓w_nil, ↓w_iret, true_and, and_true, true_implies, false_implies, not_true_eq_false, not_false_eq_true, Int.reduceEq, Int.reduceLT, Int.reduceLE, Int.reduceNeg, w_up1, w_up2, w_up3, w_tl1]
  repeat refine And.intro (by first | assumption | exact IsW.kt (by assumption) | omega | (unfold in32; omega) | (unfold in64; omega) | exact True.intro | exact Or.inl True.intro | exact Or.inr True.intro | rfl | exact Nat.le_of_ble_eq_true rfl) ?_
  try first | done | assumption | (unfold in32; omega) | (unfold in64; omega)
  all_goals first | exact rr | exact rr.2 | exact ⟨g6, g7, rr⟩
theorem p_Mo_tellsOf0 {g : cw_G} {M : cw_M} {r p : Int} (hS : Sh M) (hp : 0 ≤ p ∧ p < 7) (h1 : M 335 p = 0) :
    mC g y_Mo_tellsOf [.inr (.inr 319), .inl r, .inl p] M (fun q M' => q = some (.inl 0) ∧ RM M' 6 0 ∧ RM M' 7 1 ∧ cw_rf Rt9 M M') := by
  refine cw_C_of (L := [.inr (.inr 319), .inl r, .inl p]) ok_Mo_tellsOf (Nat.le_refl _) (Nat.le_of_ble_eq_true rfl) rfl ?_
  refine cw_J_hide ?_
  refine k_Mo_tellsOf_0 _ _ _ _ _ _ _ _ ?_
  simp (disch := omega) only [↓w_nil, ↓w_cons, ↓w_ald0, ↓w_gf2_16, ↓w_ild2, ↓w_zald, ↓w_ifeq, true_and, and_true, true_implies, false_implies, not_true_eq_false, not_false_eq_true, Int.reduceEq, Int.reduceLT, Int.reduceLE, Int.reduceNeg, w_up1, w_up2, w_up3, h1, c_k319, c_k320, c_k321, c_k322, c_k323, c_k324, c_k325, c_k326, c_k327, c_k328, c_k329, c_k330, c_k331, c_k332, c_k333, c_k334, c_k335, c_k336, c_k337, c_k338, c_k339, c_k340, c_k341, c_k342, c_k343, c_k344, c_k345, c_k346, c_k347, hS.r319_0, hS.r319_1, hS.r319_2, hS.r319_3, hS.r319_4, hS.r319_5, hS.r319_6, hS.r319_8, hS.r319_9, hS.r319_10, hS.r319_11, hS.r319_12, hS.r319_13, hS.r319_14, hS.r319_15, hS.r319_16, hS.r319_17, hS.r319_20, hS.r319_21, hS.r319_22, hS.r319_23, hS.r319_24, hS.r319_25, hS.r319_26, hS.r319_29, hS.r319_30, hS.r319_31, hS.r319_32, w_sf1, w_sf3]
  repeat refine And.intro (by first | assumption | exact IsW.kt (by assumption) | omega | (unfold in32; omega) | (unfold in64; omega) | exact True.intro | exact Or.inl True.intro | exact Or.inr True.intro | rfl | exact Nat.le_of_ble_eq_true rfl) ?_
  try first | done | assumption | (unfold in32; omega) | (unfold in64; omega)
  refine k_Mo_tellsOf_31 _ _ _ _ _ _ _ _ ?_
  simp (disch := omega) only [↓w_nil, ↓w_cons, ↓w_ald0, ↓w_ic, ↓w_lc, ↓w_cv2, true_and, and_true, true_implies, false_implies, not_true_eq_false, not_false_eq_true, Int.reduceEq, Int.reduceLT, Int.reduceLE, Int.reduceNeg, w_c80, w_c8I, w_c8L, w_c8R, w_up1, w_up2, w_up3]
  repeat refine And.intro (by first | assumption | exact IsW.kt (by assumption) | omega | (unfold in32; omega) | (unfold in64; omega) | exact True.intro | exact Or.inl True.intro | exact Or.inr True.intro | rfl | exact Nat.le_of_ble_eq_true rfl) ?_
  try first | done | assumption | (unfold in32; omega) | (unfold in64; omega)
  refine ⟨_, p_Mo_sets hS (r := 8) (v := 0) ⟨by omega, by omega⟩ (by omega), ?_⟩
  rintro q M1 ⟨rfl, g1, r1⟩
  have hS1 := hS.rf r1
  refine k_Mo_tellsOf_38 _ _ _ _ _ _ _ _ ?_
  simp (disch := omega) only [↓w_nil, ↓w_cons, ↓w_ald0, ↓w_ic, ↓w_cv2, true_and, and_true, true_implies, false_implies, not_true_eq_false, not_false_eq_true, Int.reduceEq, Int.reduceLT, Int.reduceLE, Int.reduceNeg, w_c80, w_c8I, w_c8L, w_c8R, w_up1, w_up2, w_up3, w_tl0]
  repeat refine And.intro (by first | assumption | exact IsW.kt (by assumption) | omega | (unfold in32; omega) | (unfold in64; omega) | exact True.intro | exact Or.inl True.intro | exact Or.inr True.intro | rfl | exact Nat.le_of_ble_eq_true rfl) ?_
  try first | done | assumption | (unfold in32; omega) | (unfold in64; omega)
  refine ⟨_, p_Mo_tells0 (b := 9) hS1 ⟨by omega, by omega⟩ g1, ?_⟩
  rintro q M3 ⟨rfl, g6, g7, r3⟩
  have rr : cw_rf Rt9 M M3 := rf_tr (rf_mo r1 (fun s y => by unfold Rt9; omega)) (rf_mo r3 (fun s y => by unfold A27 at y; unfold Rt9; omega))
  refine k_Mo_tellsOf_46 _ _ _ _ _ _ _ _ ?_
  simp (disch := omega) only [↓w_nil, ↓w_iret, true_and, and_true, true_implies, false_implies, not_true_eq_false, not_false_eq_true, Int.reduceEq, Int.reduceLT, Int.reduceLE, Int.reduceNeg, w_up1, w_up2, w_up3, w_tl1]
  repeat refine And.intro (by first | assumption | exact IsW.kt (by assumption) | omega | (unfold in32; omega) | (unfold in64; omega) | exact True.intro | exact Or.inl True.intro | exact Or.inr True.intro | rfl | exact Nat.le_of_ble_eq_true rfl) ?_
  try first | done | assumption | (unfold in32; omega) | (unfold in64; omega)
  all_goals first | exact rr | exact rr.2 | exact ⟨g6, g7, rr⟩
def U_fl (f : Int → Int) (p : Int) (T : Tr) (a b : Int) : Prop := ∃ X F : Int → Int, r_at f (f 3) T b X F ∧ (t_in T p → a = F p) ∧ (¬ t_in T p → a = 0)
def U_ov (f : Int → Int) (p : Int) (T : Tr) (a b : Int) : Prop := ∃ X F : Int → Int, r_at f (f 3) T b X F ∧ (t_in T p → a = X p) ∧ (¬ t_in T p → a = 0)
def U_ln (f : Int → Int) (t : Int) (T : Tr) (u A w : Int) : Prop := ∃ X F : Int → Int, r_at f t T w X F ∧ A = t_tl (fun p => F p * f (17 + 12 * p + u)) T

theorem d_flow {g : cw_G} {M : cw_M} {f fl : Int → Int} {n : Int} {p : Int} (hS : Sh M) (hf : M 324 = f) (hW : WF n f fl) (hok : m_ok f M) (hk : ∀ T, g_of f = .inr T → Tk f T) (hp : in32 p) :
    mC g y_Mo_flow [.inr (.inr 319), .inl p] M (fun r M' => (¬ (0 ≤ p ∧ p ≤ f 0 - 1) ∧ r = some (.inl (-10)) ∧ M' = M) ∨ ((0 ≤ p ∧ p ≤ f 0 - 1) ∧ FrM f (U_fl f p) M r M')) := by
  have w0 := hW.1
  have e0 : M 324 0 = f 0 := by rw [hf]
  refine cw_C_of (L := [.inr (.inr 319), .inl p]) ok_Mo_flow (Nat.le_refl _) (Nat.le_of_ble_eq_true rfl) rfl ?_
  refine cw_J_hide ?_
  refine k_Mo_flow_0 _ _ _ _ _ _ _ _ ?_
  simp (disch := omega) only [↓w_nil, ↓w_cons, ↓w_ald0, ↓w_ild1, ↓w_cv1, true_and, and_true, true_implies, false_implies, not_true_eq_false, not_false_eq_true, Int.reduceEq, Int.reduceLT, Int.reduceLE, Int.reduceNeg, w_c80, w_c8I, w_c8L, w_c8R, w_up1, w_up2, w_up3]
  repeat refine And.intro (by first | assumption | exact IsW.kt (by assumption) | omega | (unfold in32; omega) | (unfold in64; omega) | exact True.intro | exact Or.inl True.intro | exact Or.inr True.intro | rfl | exact Nat.le_of_ble_eq_true rfl) ?_
  try first | done | assumption | (unfold in32; omega) | (unfold in64; omega)
  refine ⟨_, cw_bool (p_Mo_isPiece hS hp e0 (by omega)), ?_⟩
  rintro q M9 ⟨⟨rfl, hb⟩ | ⟨rfl, hb⟩, rfl⟩
  · refine k_Mo_flow_5 _ _ _ _ _ _ _ _ ?_
    simp (disch := omega) only [↓w_nil, ↓w_ifne, true_and, and_true, true_implies, false_implies, not_true_eq_false, not_false_eq_true, Int.reduceEq, Int.reduceLT, Int.reduceLE, Int.reduceNeg, w_up1, w_up2, w_up3, w_tl1]
    repeat refine And.intro (by first | assumption | exact IsW.kt (by assumption) | omega | (unfold in32; omega) | (unfold in64; omega) | exact True.intro | exact Or.inl True.intro | exact Or.inr True.intro | rfl | exact Nat.le_of_ble_eq_true rfl) ?_
    try first | done | assumption | (unfold in32; omega) | (unfold in64; omega)
    refine k_Mo_flow_11 _ _ _ _ _ _ _ _ ?_
    simp (disch := omega) only [↓w_nil, ↓w_cons, ↓w_ald0, ↓w_cv0, true_and, and_true, true_implies, false_implies, not_true_eq_false, not_false_eq_true, Int.reduceEq, Int.reduceLT, Int.reduceLE, Int.reduceNeg, w_c80, w_c8I, w_c8L, w_c8R, w_up1, w_up2, w_up3]
    repeat refine And.intro (by first | assumption | exact IsW.kt (by assumption) | omega | (unfold in32; omega) | (unfold in64; omega) | exact True.intro | exact Or.inl True.intro | exact Or.inr True.intro | rfl | exact Nat.le_of_ble_eq_true rfl) ?_
    try first | done | assumption | (unfold in32; omega) | (unfold in64; omega)
    refine ⟨_, p_Mo_find hS hf hW hok hk, ?_⟩
    rintro q M1 ⟨G1, ok1, k1, ⟨e, he, rfl⟩ | ⟨T, hT, rfl, hat⟩⟩
    · refine k_Mo_flow_15 _ _ _ _ _ _ _ _ ?_
      simp (disch := omega) only [↓w_nil, ↓w_ifne, true_and, and_true, true_implies, false_implies, not_true_eq_false, not_false_eq_true, Int.reduceEq, Int.reduceLT, Int.reduceLE, Int.reduceNeg, w_up1, w_up2, w_up3, w_tl1]
      repeat refine And.intro (by first | assumption | exact IsW.kt (by assumption) | omega | (unfold in32; omega) | (unfold in64; omega) | exact True.intro | exact Or.inl True.intro | exact Or.inr True.intro | rfl | exact Nat.le_of_ble_eq_true rfl) ?_
      try first | done | assumption | (unfold in32; omega) | (unfold in64; omega)
      refine k_Mo_flow_18 _ _ _ _ _ _ _ _ ?_
      simp (disch := omega) only [↓w_nil, ↓w_cons, ↓w_ic, ↓w_iret, true_and, and_true, true_implies, false_implies, not_true_eq_false, not_false_eq_true, Int.reduceEq, Int.reduceLT, Int.reduceLE, Int.reduceNeg, w_up1, w_up2, w_up3]
      repeat refine And.intro (by first | assumption | exact IsW.kt (by assumption) | omega | (unfold in32; omega) | (unfold in64; omega) | exact True.intro | exact Or.inl True.intro | exact Or.inr True.intro | rfl | exact Nat.le_of_ble_eq_true rfl) ?_
      try first | done | assumption | (unfold in32; omega) | (unfold in64; omega)
      exact Or.inr ⟨hb, G1, ok1, Or.inl ⟨e, he, rfl, k1 6 (Or.inl (by omega)), k1 7 (Or.inl (by omega))⟩⟩
    · have hS1 := G1.1
      have tk := hk T hT
      obtain ⟨mt, mi, X, F, htp⟩ := id hat
      obtain ⟨ps, tr, hall⟩ := h_all mt mi tk htp
      obtain ⟨kk, w, Xr, Fr, _, hr, _, _⟩ := ex_rest (t := f 3) hW (by omega) tk
      refine k_Mo_flow_15 _ _ _ _ _ _ _ _ ?_
      simp (disch := omega) only [↓w_nil, ↓w_ifne, true_and, and_true, true_implies, false_implies, not_true_eq_false, not_false_eq_true, Int.reduceEq, Int.reduceLT, Int.reduceLE, Int.reduceNeg, w_up1, w_up2, w_up3, w_tl1]
      repeat refine And.intro (by first | assumption | exact IsW.kt (by assumption) | omega | (unfold in32; omega) | (unfold in64; omega) | exact True.intro | exact Or.inl True.intro | exact Or.inr True.intro | rfl | exact Nat.le_of_ble_eq_true rfl) ?_
      try first | done | assumption | (unfold in32; omega) | (unfold in64; omega)
      refine k_Mo_flow_21 _ _ _ _ _ _ _ _ ?_
      simp (disch := omega) only [↓w_nil, ↓w_cons, ↓w_ald0, ↓w_ic, ↓w_ild1, ↓w_iadd, ↓w_cv2, true_and, and_true, true_implies, false_implies, not_true_eq_false, not_false_eq_true, Int.reduceEq, Int.reduceLT, Int.reduceLE, Int.reduceNeg, w_c80, w_c8I, w_c8L, w_c8R, w_up1, w_up2, w_up3]
      repeat refine And.intro (by first | assumption | exact IsW.kt (by assumption) | omega | (unfold in32; omega) | (unfold in64; omega) | exact True.intro | exact Or.inl True.intro | exact Or.inr True.intro | rfl | exact Nat.le_of_ble_eq_true rfl) ?_
      try first | done | assumption | (unfold in32; omega) | (unfold in64; omega)
      by_cases z : t_in T p
      · have fb := hd_f hall z
        have i1 : M1 335 p = 1 := by rcases mi p hb.1 (by omega) with y | y; exact y.1; exact absurd z y.2
        obtain ⟨R, l, ⟨_, w', _, _, hrel⟩, hR, _⟩ := tp_ex T 1 (at_un hW (by omega) hall hr) p z
        have rel := hrel p hR
        refine ⟨_, p_Mo_tellsOf1 hS1 (by omega) ⟨hb.1, by omega⟩ fb.2.1.1 i1 rfl fb.2.2 (by omega), ?_⟩
        rintro q M2 ⟨rfl, g6, g7, r2⟩
        have s32 := sg32 (F p)
        refine k_Mo_flow_30 _ _ _ _ _ _ _ _ ?_
        simp (disch := omega) only [↓w_nil, ↓w_iret, true_and, and_true, true_implies, false_implies, not_true_eq_false, not_false_eq_true, Int.reduceEq, Int.reduceLT, Int.reduceLE, Int.reduceNeg, w_up1, w_up2, w_up3, w_tl1]
        repeat refine And.intro (by first | assumption | exact IsW.kt (by assumption) | omega | (unfold in32; omega) | (unfold in64; omega) | exact True.intro | exact Or.inl True.intro | exact Or.inr True.intro | rfl | exact Nat.le_of_ble_eq_true rfl) ?_
        try first | done | assumption | (unfold in32; omega) | (unfold in64; omega)
        refine Or.inr ⟨hb, G1.tr (gq_rf hS1 r2), mok_rf ok1 r2 (fun s y => by unfold Rt9 at y; omega) hk, Or.inr ⟨T, hT, F p, M1 336 p, Fr p, w, ⟨Xr, Fr, hr, fun _ => rfl, fun y => absurd z y⟩, hr.1, fb.2.2.1, ?_, rfl, g6, g7⟩⟩
        rw [rel.1, Int.mul_comm, rel.2.2, Int.mul_comm]
      · have i0 : M1 335 p = 0 := by rcases mi p hb.1 (by omega) with y | y; exact absurd y.2 z; exact y.1
        refine ⟨_, p_Mo_tellsOf0 hS1 ⟨hb.1, by omega⟩ i0, ?_⟩
        rintro q M2 ⟨rfl, g6, g7, r2⟩
        refine k_Mo_flow_30 _ _ _ _ _ _ _ _ ?_
        simp (disch := omega) only [↓w_nil, ↓w_iret, true_and, and_true, true_implies, false_implies, not_true_eq_false, not_false_eq_true, Int.reduceEq, Int.reduceLT, Int.reduceLE, Int.reduceNeg, w_up1, w_up2, w_up3, w_tl1]
        repeat refine And.intro (by first | assumption | exact IsW.kt (by assumption) | omega | (unfold in32; omega) | (unfold in64; omega) | exact True.intro | exact Or.inl True.intro | exact Or.inr True.intro | rfl | exact Nat.le_of_ble_eq_true rfl) ?_
        try first | done | assumption | (unfold in32; omega) | (unfold in64; omega)
        refine Or.inr ⟨hb, G1.tr (gq_rf hS1 r2), mok_rf ok1 r2 (fun s y => by unfold Rt9 at y; omega) hk, Or.inr ⟨T, hT, 0, 1, 0, w, ⟨Xr, Fr, hr, fun y => absurd y z, fun _ => rfl⟩, hr.1, by omega, by omega, rfl, g6, g7⟩⟩
  · refine k_Mo_flow_5 _ _ _ _ _ _ _ _ ?_
    simp (disch := omega) only [↓w_nil, ↓w_ifne, true_and, and_true, true_implies, false_implies, not_true_eq_false, not_false_eq_true, Int.reduceEq, Int.reduceLT, Int.reduceLE, Int.reduceNeg, w_up1, w_up2, w_up3, w_tl1]
    repeat refine And.intro (by first | assumption | exact IsW.kt (by assumption) | omega | (unfold in32; omega) | (unfold in64; omega) | exact True.intro | exact Or.inl True.intro | exact Or.inr True.intro | rfl | exact Nat.le_of_ble_eq_true rfl) ?_
    try first | done | assumption | (unfold in32; omega) | (unfold in64; omega)
    refine k_Mo_flow_8 _ _ _ _ _ _ _ _ ?_
    simp (disch := omega) only [↓w_nil, ↓w_cons, ↓w_ic, ↓w_iret, true_and, and_true, true_implies, false_implies, not_true_eq_false, not_false_eq_true, Int.reduceEq, Int.reduceLT, Int.reduceLE, Int.reduceNeg, w_up1, w_up2, w_up3]
    repeat refine And.intro (by first | assumption | exact IsW.kt (by assumption) | omega | (unfold in32; omega) | (unfold in64; omega) | exact True.intro | exact Or.inl True.intro | exact Or.inr True.intro | rfl | exact Nat.le_of_ble_eq_true rfl) ?_
    try first | done | assumption | (unfold in32; omega) | (unfold in64; omega)
    exact Or.inl ⟨hb, rfl, rfl⟩

theorem d_over {g : cw_G} {M : cw_M} {f fl : Int → Int} {n : Int} {p : Int} (hS : Sh M) (hf : M 324 = f) (hW : WF n f fl) (hok : m_ok f M) (hk : ∀ T, g_of f = .inr T → Tk f T) (hp : in32 p) :
    mC g y_Mo_over [.inr (.inr 319), .inl p] M (fun r M' => (¬ (0 ≤ p ∧ p ≤ f 0 - 1) ∧ r = some (.inl (-10)) ∧ M' = M) ∨ ((0 ≤ p ∧ p ≤ f 0 - 1) ∧ FrM f (U_ov f p) M r M')) := by
  have w0 := hW.1
  have e0 : M 324 0 = f 0 := by rw [hf]
  refine cw_C_of (L := [.inr (.inr 319), .inl p]) ok_Mo_over (Nat.le_refl _) (Nat.le_of_ble_eq_true rfl) rfl ?_
  refine cw_J_hide ?_
  refine k_Mo_over_0 _ _ _ _ _ _ _ _ ?_
  simp (disch := omega) only [↓w_nil, ↓w_cons, ↓w_ald0, ↓w_ild1, ↓w_cv1, true_and, and_true, true_implies, false_implies, not_true_eq_false, not_false_eq_true, Int.reduceEq, Int.reduceLT, Int.reduceLE, Int.reduceNeg, w_c80, w_c8I, w_c8L, w_c8R, w_up1, w_up2, w_up3]
  repeat refine And.intro (by first | assumption | exact IsW.kt (by assumption) | omega | (unfold in32; omega) | (unfold in64; omega) | exact True.intro | exact Or.inl True.intro | exact Or.inr True.intro | rfl | exact Nat.le_of_ble_eq_true rfl) ?_
  try first | done | assumption | (unfold in32; omega) | (unfold in64; omega)
  refine ⟨_, cw_bool (p_Mo_isPiece hS hp e0 (by omega)), ?_⟩
  rintro q M9 ⟨⟨rfl, hb⟩ | ⟨rfl, hb⟩, rfl⟩
  · refine k_Mo_over_5 _ _ _ _ _ _ _ _ ?_
    simp (disch := omega) only [↓w_nil, ↓w_ifne, true_and, and_true, true_implies, false_implies, not_true_eq_false, not_false_eq_true, Int.reduceEq, Int.reduceLT, Int.reduceLE, Int.reduceNeg, w_up1, w_up2, w_up3, w_tl1]
    repeat refine And.intro (by first | assumption | exact IsW.kt (by assumption) | omega | (unfold in32; omega) | (unfold in64; omega) | exact True.intro | exact Or.inl True.intro | exact Or.inr True.intro | rfl | exact Nat.le_of_ble_eq_true rfl) ?_
    try first | done | assumption | (unfold in32; omega) | (unfold in64; omega)
    refine k_Mo_over_11 _ _ _ _ _ _ _ _ ?_
    simp (disch := omega) only [↓w_nil, ↓w_cons, ↓w_ald0, ↓w_cv0, true_and, and_true, true_implies, false_implies, not_true_eq_false, not_false_eq_true, Int.reduceEq, Int.reduceLT, Int.reduceLE, Int.reduceNeg, w_c80, w_c8I, w_c8L, w_c8R, w_up1, w_up2, w_up3]
    repeat refine And.intro (by first | assumption | exact IsW.kt (by assumption) | omega | (unfold in32; omega) | (unfold in64; omega) | exact True.intro | exact Or.inl True.intro | exact Or.inr True.intro | rfl | exact Nat.le_of_ble_eq_true rfl) ?_
    try first | done | assumption | (unfold in32; omega) | (unfold in64; omega)
    refine ⟨_, p_Mo_find hS hf hW hok hk, ?_⟩
    rintro q M1 ⟨G1, ok1, k1, ⟨e, he, rfl⟩ | ⟨T, hT, rfl, hat⟩⟩
    · refine k_Mo_over_15 _ _ _ _ _ _ _ _ ?_
      simp (disch := omega) only [↓w_nil, ↓w_ifne, true_and, and_true, true_implies, false_implies, not_true_eq_false, not_false_eq_true, Int.reduceEq, Int.reduceLT, Int.reduceLE, Int.reduceNeg, w_up1, w_up2, w_up3, w_tl1]
      repeat refine And.intro (by first | assumption | exact IsW.kt (by assumption) | omega | (unfold in32; omega) | (unfold in64; omega) | exact True.intro | exact Or.inl True.intro | exact Or.inr True.intro | rfl | exact Nat.le_of_ble_eq_true rfl) ?_
      try first | done | assumption | (unfold in32; omega) | (unfold in64; omega)
      refine k_Mo_over_18 _ _ _ _ _ _ _ _ ?_
      simp (disch := omega) only [↓w_nil, ↓w_cons, ↓w_ic, ↓w_iret, true_and, and_true, true_implies, false_implies, not_true_eq_false, not_false_eq_true, Int.reduceEq, Int.reduceLT, Int.reduceLE, Int.reduceNeg, w_up1, w_up2, w_up3]
      repeat refine And.intro (by first | assumption | exact IsW.kt (by assumption) | omega | (unfold in32; omega) | (unfold in64; omega) | exact True.intro | exact Or.inl True.intro | exact Or.inr True.intro | rfl | exact Nat.le_of_ble_eq_true rfl) ?_
      try first | done | assumption | (unfold in32; omega) | (unfold in64; omega)
      exact Or.inr ⟨hb, G1, ok1, Or.inl ⟨e, he, rfl, k1 6 (Or.inl (by omega)), k1 7 (Or.inl (by omega))⟩⟩
    · have hS1 := G1.1
      have tk := hk T hT
      obtain ⟨mt, mi, X, F, htp⟩ := id hat
      obtain ⟨ps, tr, hall⟩ := h_all mt mi tk htp
      obtain ⟨kk, w, Xr, Fr, _, hr, _, _⟩ := ex_rest (t := f 3) hW (by omega) tk
      refine k_Mo_over_15 _ _ _ _ _ _ _ _ ?_
      simp (disch := omega) only [↓w_nil, ↓w_ifne, true_and, and_true, true_implies, false_implies, not_true_eq_false, not_false_eq_true, Int.reduceEq, Int.reduceLT, Int.reduceLE, Int.reduceNeg, w_up1, w_up2, w_up3, w_tl1]
      repeat refine And.intro (by first | assumption | exact IsW.kt (by assumption) | omega | (unfold in32; omega) | (unfold in64; omega) | exact True.intro | exact Or.inl True.intro | exact Or.inr True.intro | rfl | exact Nat.le_of_ble_eq_true rfl) ?_
      try first | done | assumption | (unfold in32; omega) | (unfold in64; omega)
      refine k_Mo_over_21 _ _ _ _ _ _ _ _ ?_
      simp (disch := omega) only [↓w_nil, ↓w_cons, ↓w_ald0, ↓w_ic, ↓w_ild1, ↓w_iadd, ↓w_cv2, true_and, and_true, true_implies, false_implies, not_true_eq_false, not_false_eq_true, Int.reduceEq, Int.reduceLT, Int.reduceLE, Int.reduceNeg, w_c80, w_c8I, w_c8L, w_c8R, w_up1, w_up2, w_up3]
      repeat refine And.intro (by first | assumption | exact IsW.kt (by assumption) | omega | (unfold in32; omega) | (unfold in64; omega) | exact True.intro | exact Or.inl True.intro | exact Or.inr True.intro | rfl | exact Nat.le_of_ble_eq_true rfl) ?_
      try first | done | assumption | (unfold in32; omega) | (unfold in64; omega)
      by_cases z : t_in T p
      · have fb := hd_f hall z
        have i1 : M1 335 p = 1 := by rcases mi p hb.1 (by omega) with y | y; exact y.1; exact absurd z y.2
        obtain ⟨R, l, ⟨_, w', _, _, hrel⟩, hR, _⟩ := tp_ex T 1 (at_un hW (by omega) hall hr) p z
        have rel := hrel p hR
        refine ⟨_, p_Mo_tellsOf1 hS1 (by omega) ⟨hb.1, by omega⟩ fb.1.1 i1 rfl fb.2.2 (by omega), ?_⟩
        rintro q M2 ⟨rfl, g6, g7, r2⟩
        have s32 := sg32 (X p)
        refine k_Mo_over_30 _ _ _ _ _ _ _ _ ?_
        simp (disch := omega) only [↓w_nil, ↓w_iret, true_and, and_true, true_implies, false_implies, not_true_eq_false, not_false_eq_true, Int.reduceEq, Int.reduceLT, Int.reduceLE, Int.reduceNeg, w_up1, w_up2, w_up3, w_tl1]
        repeat refine And.intro (by first | assumption | exact IsW.kt (by assumption) | omega | (unfold in32; omega) | (unfold in64; omega) | exact True.intro | exact Or.inl True.intro | exact Or.inr True.intro | rfl | exact Nat.le_of_ble_eq_true rfl) ?_
        try first | done | assumption | (unfold in32; omega) | (unfold in64; omega)
        refine Or.inr ⟨hb, G1.tr (gq_rf hS1 r2), mok_rf ok1 r2 (fun s y => by unfold Rt9 at y; omega) hk, Or.inr ⟨T, hT, X p, M1 336 p, Xr p, w, ⟨Xr, Fr, hr, fun _ => rfl, fun y => absurd z y⟩, hr.1, fb.2.2.1, ?_, rfl, g6, g7⟩⟩
        rw [rel.1, Int.mul_comm, rel.2.1, Int.mul_comm]
      · have i0 : M1 335 p = 0 := by rcases mi p hb.1 (by omega) with y | y; exact absurd y.2 z; exact y.1
        refine ⟨_, p_Mo_tellsOf0 hS1 ⟨hb.1, by omega⟩ i0, ?_⟩
        rintro q M2 ⟨rfl, g6, g7, r2⟩
        refine k_Mo_over_30 _ _ _ _ _ _ _ _ ?_
        simp (disch := omega) only [↓w_nil, ↓w_iret, true_and, and_true, true_implies, false_implies, not_true_eq_false, not_false_eq_true, Int.reduceEq, Int.reduceLT, Int.reduceLE, Int.reduceNeg, w_up1, w_up2, w_up3, w_tl1]
        repeat refine And.intro (by first | assumption | exact IsW.kt (by assumption) | omega | (unfold in32; omega) | (unfold in64; omega) | exact True.intro | exact Or.inl True.intro | exact Or.inr True.intro | rfl | exact Nat.le_of_ble_eq_true rfl) ?_
        try first | done | assumption | (unfold in32; omega) | (unfold in64; omega)
        refine Or.inr ⟨hb, G1.tr (gq_rf hS1 r2), mok_rf ok1 r2 (fun s y => by unfold Rt9 at y; omega) hk, Or.inr ⟨T, hT, 0, 1, 0, w, ⟨Xr, Fr, hr, fun y => absurd y z, fun _ => rfl⟩, hr.1, by omega, by omega, rfl, g6, g7⟩⟩
  · refine k_Mo_over_5 _ _ _ _ _ _ _ _ ?_
    simp (disch := omega) only [↓w_nil, ↓w_ifne, true_and, and_true, true_implies, false_implies, not_true_eq_false, not_false_eq_true, Int.reduceEq, Int.reduceLT, Int.reduceLE, Int.reduceNeg, w_up1, w_up2, w_up3, w_tl1]
    repeat refine And.intro (by first | assumption | exact IsW.kt (by assumption) | omega | (unfold in32; omega) | (unfold in64; omega) | exact True.intro | exact Or.inl True.intro | exact Or.inr True.intro | rfl | exact Nat.le_of_ble_eq_true rfl) ?_
    try first | done | assumption | (unfold in32; omega) | (unfold in64; omega)
    refine k_Mo_over_8 _ _ _ _ _ _ _ _ ?_
    simp (disch := omega) only [↓w_nil, ↓w_cons, ↓w_ic, ↓w_iret, true_and, and_true, true_implies, false_implies, not_true_eq_false, not_false_eq_true, Int.reduceEq, Int.reduceLT, Int.reduceLE, Int.reduceNeg, w_up1, w_up2, w_up3]
    repeat refine And.intro (by first | assumption | exact IsW.kt (by assumption) | omega | (unfold in32; omega) | (unfold in64; omega) | exact True.intro | exact Or.inl True.intro | exact Or.inr True.intro | rfl | exact Nat.le_of_ble_eq_true rfl) ?_
    try first | done | assumption | (unfold in32; omega) | (unfold in64; omega)
    exact Or.inl ⟨hb, rfl, rfl⟩

theorem d_linked {g : cw_G} {M : cw_M} {f fl : Int → Int} {n : Int} {u : Int} (hS : Sh M) (hf : M 324 = f) (hW : WF n f fl) (hok : m_ok f M) (hk : ∀ T, g_of f = .inr T → Tk f T) (hu : in32 u) :
    mC g y_Mo_linked [.inr (.inr 319), .inl u] M (fun r M' => (¬ (0 ≤ u ∧ u ≤ 3) ∧ r = some (.inl (-10)) ∧ M' = M) ∨ ((0 ≤ u ∧ u ≤ 3) ∧ FrM f (fun T => U_ln f (f 3) T u) M r M')) := by
  have w0 := hW.1
  refine cw_C_of (L := [.inr (.inr 319), .inl u]) ok_Mo_linked (Nat.le_refl _) (Nat.le_of_ble_eq_true rfl) rfl ?_
  refine cw_J_hide ?_
  refine k_Mo_linked_0 _ _ _ _ _ _ _ _ ?_
  simp (disch := omega) only [↓w_nil, ↓w_cons, ↓w_ild1, ↓w_cs1, true_and, and_true, true_implies, false_implies, not_true_eq_false, not_false_eq_true, Int.reduceEq, Int.reduceLT, Int.reduceLE, Int.reduceNeg, w_c80, w_c8I, w_c8L, w_c8R, w_up1, w_up2, w_up3]
  repeat refine And.intro (by first | assumption | exact IsW.kt (by assumption) | omega | (unfold in32; omega) | (unfold in64; omega) | exact True.intro | exact Or.inl True.intro | exact Or.inr True.intro | rfl | exact Nat.le_of_ble_eq_true rfl) ?_
  try first | done | assumption | (unfold in32; omega) | (unfold in64; omega)
  refine ⟨_, cw_bool (p_Mo_isWinding hu), ?_⟩
  rintro q M9 ⟨⟨rfl, hb⟩ | ⟨rfl, hb⟩, rfl⟩
  · refine k_Mo_linked_4 _ _ _ _ _ _ _ _ ?_
    simp (disch := omega) only [↓w_nil, ↓w_ifne, true_and, and_true, true_implies, false_implies, not_true_eq_false, not_false_eq_true, Int.reduceEq, Int.reduceLT, Int.reduceLE, Int.reduceNeg, w_up1, w_up2, w_up3, w_tl1]
    repeat refine And.intro (by first | assumption | exact IsW.kt (by assumption) | omega | (unfold in32; omega) | (unfold in64; omega) | exact True.intro | exact Or.inl True.intro | exact Or.inr True.intro | rfl | exact Nat.le_of_ble_eq_true rfl) ?_
    try first | done | assumption | (unfold in32; omega) | (unfold in64; omega)
    refine k_Mo_linked_10 _ _ _ _ _ _ _ _ ?_
    simp (disch := omega) only [↓w_nil, ↓w_cons, ↓w_ald0, ↓w_cv0, true_and, and_true, true_implies, false_implies, not_true_eq_false, not_false_eq_true, Int.reduceEq, Int.reduceLT, Int.reduceLE, Int.reduceNeg, w_c80, w_c8I, w_c8L, w_c8R, w_up1, w_up2, w_up3]
    repeat refine And.intro (by first | assumption | exact IsW.kt (by assumption) | omega | (unfold in32; omega) | (unfold in64; omega) | exact True.intro | exact Or.inl True.intro | exact Or.inr True.intro | rfl | exact Nat.le_of_ble_eq_true rfl) ?_
    try first | done | assumption | (unfold in32; omega) | (unfold in64; omega)
    refine ⟨_, p_Mo_find hS hf hW hok hk, ?_⟩
    rintro q M1 ⟨G1, ok1, k1, ⟨e, he, rfl⟩ | ⟨T, hT, rfl, hat⟩⟩
    · refine k_Mo_linked_14 _ _ _ _ _ _ _ _ ?_
      simp (disch := omega) only [↓w_nil, ↓w_ifne, true_and, and_true, true_implies, false_implies, not_true_eq_false, not_false_eq_true, Int.reduceEq, Int.reduceLT, Int.reduceLE, Int.reduceNeg, w_up1, w_up2, w_up3, w_tl1]
      repeat refine And.intro (by first | assumption | exact IsW.kt (by assumption) | omega | (unfold in32; omega) | (unfold in64; omega) | exact True.intro | exact Or.inl True.intro | exact Or.inr True.intro | rfl | exact Nat.le_of_ble_eq_true rfl) ?_
      try first | done | assumption | (unfold in32; omega) | (unfold in64; omega)
      refine k_Mo_linked_17 _ _ _ _ _ _ _ _ ?_
      simp (disch := omega) only [↓w_nil, ↓w_cons, ↓w_ic, ↓w_iret, true_and, and_true, true_implies, false_implies, not_true_eq_false, not_false_eq_true, Int.reduceEq, Int.reduceLT, Int.reduceLE, Int.reduceNeg, w_up1, w_up2, w_up3]
      repeat refine And.intro (by first | assumption | exact IsW.kt (by assumption) | omega | (unfold in32; omega) | (unfold in64; omega) | exact True.intro | exact Or.inl True.intro | exact Or.inr True.intro | rfl | exact Nat.le_of_ble_eq_true rfl) ?_
      try first | done | assumption | (unfold in32; omega) | (unfold in64; omega)
      exact Or.inr ⟨hb, G1, ok1, Or.inl ⟨e, he, rfl, k1 6 (Or.inl (by omega)), k1 7 (Or.inl (by omega))⟩⟩
    · have hS1 := G1.1
      have tk := hk T hT
      obtain ⟨mt, mi, X, F, htp⟩ := id hat
      obtain ⟨ps, tr, hall⟩ := h_all mt mi tk htp
      obtain ⟨kk, w, Xr, Fr, _, hr, _, _⟩ := ex_rest (t := f 3) hW (by omega) tk
      have f1 : M1 324 = f := by rw [G1.row (by omega) (by omega) (by omega)]; exact hf
      refine k_Mo_linked_14 _ _ _ _ _ _ _ _ ?_
      simp (disch := omega) only [↓w_nil, ↓w_ifne, true_and, and_true, true_implies, false_implies, not_true_eq_false, not_false_eq_true, Int.reduceEq, Int.reduceLT, Int.reduceLE, Int.reduceNeg, w_up1, w_up2, w_up3, w_tl1]
      repeat refine And.intro (by first | assumption | exact IsW.kt (by assumption) | omega | (unfold in32; omega) | (unfold in64; omega) | exact True.intro | exact Or.inl True.intro | exact Or.inr True.intro | rfl | exact Nat.le_of_ble_eq_true rfl) ?_
      try first | done | assumption | (unfold in32; omega) | (unfold in64; omega)
      refine k_Mo_linked_20 _ _ _ _ _ _ _ _ ?_
      simp (disch := omega) only [↓w_nil, ↓w_cons, ↓w_ald0, ↓w_ild1, ↓w_cv1, true_and, and_true, true_implies, false_implies, not_true_eq_false, not_false_eq_true, Int.reduceEq, Int.reduceLT, Int.reduceLE, Int.reduceNeg, w_c80, w_c8I, w_c8L, w_c8R, w_up1, w_up2, w_up3]
      repeat refine And.intro (by first | assumption | exact IsW.kt (by assumption) | omega | (unfold in32; omega) | (unfold in64; omega) | exact True.intro | exact Or.inl True.intro | exact Or.inr True.intro | rfl | exact Nat.le_of_ble_eq_true rfl) ?_
      try first | done | assumption | (unfold in32; omega) | (unfold in64; omega)
      refine ⟨_, p_Mo_links hS1 f1 hW (by omega) ⟨hb.1, by omega⟩ hall hr, ?_⟩
      rintro q M2 ⟨rfl, r2, N, D, a8, a9, lb, hND⟩
      have hS2 := hS1.rf r2
      have bD : cw_ab D < 1073741824 ^ 30 := Int.lt_of_le_of_lt (ab_rng (b := (201 : Int) ^ 7) ⟨by have := lb.1.1; have := z_pos 7; omega, lb.1.2⟩) (by decide)
      have bN : cw_ab N < 1073741824 ^ 30 := Int.lt_of_le_of_lt (ab_rng (b := ((7 : Nat) : Int) * C_ln * (201 : Int) ^ 7) lb.2) (by decide)
      refine k_Mo_linked_25 _ _ _ _ _ _ _ _ ?_
      simp (disch := omega) only [↓w_nil, ↓w_cons, ↓w_ald0, ↓w_ic, ↓w_cv2, true_and, and_true, true_implies, false_implies, not_true_eq_false, not_false_eq_true, Int.reduceEq, Int.reduceLT, Int.reduceLE, Int.reduceNeg, w_c80, w_c8I, w_c8L, w_c8R, w_up1, w_up2, w_up3, w_tl0]
      repeat refine And.intro (by first | assumption | exact IsW.kt (by assumption) | omega | (unfold in32; omega) | (unfold in64; omega) | exact True.intro | exact Or.inl True.intro | exact Or.inr True.intro | rfl | exact Nat.le_of_ble_eq_true rfl) ?_
      try first | done | assumption | (unfold in32; omega) | (unfold in64; omega)
      refine ⟨_, p_Mo_tells' hS2 a8 a9 lb.1.1 bN bD, ?_⟩
      rintro q M3 ⟨rfl, g6, g7, r3⟩
      have s32 := sg32 N
      refine k_Mo_linked_33 _ _ _ _ _ _ _ _ ?_
      simp (disch := omega) only [↓w_nil, ↓w_iret, true_and, and_true, true_implies, false_implies, not_true_eq_false, not_false_eq_true, Int.reduceEq, Int.reduceLT, Int.reduceLE, Int.reduceNeg, w_up1, w_up2, w_up3, w_tl1]
      repeat refine And.intro (by first | assumption | exact IsW.kt (by assumption) | omega | (unfold in32; omega) | (unfold in64; omega) | exact True.intro | exact Or.inl True.intro | exact Or.inr True.intro | rfl | exact Nat.le_of_ble_eq_true rfl) ?_
      try first | done | assumption | (unfold in32; omega) | (unfold in64; omega)
      refine Or.inr ⟨hb, G1.tr ((gq_rf hS1 r2).tr (gq_rf hS2 r3)), mok_rf (mok_rf ok1 r2 (fun s y => by unfold RL at y; omega) hk) r3 (fun s y => by unfold A27 at y; omega) hk, Or.inr ⟨T, hT, N, D, t_tl (fun p => Fr p * f (17 + 12 * p + u)) T, w, ⟨Xr, Fr, hr, rfl⟩, hr.1, lb.1.1, ?_, rfl, g6, g7⟩⟩
      rw [hND, Int.mul_comm]
  · refine k_Mo_linked_4 _ _ _ _ _ _ _ _ ?_
    simp (disch := omega) only [↓w_nil, ↓w_ifne, true_and, and_true, true_implies, false_implies, not_true_eq_false, not_false_eq_true, Int.reduceEq, Int.reduceLT, Int.reduceLE, Int.reduceNeg, w_up1, w_up2, w_up3, w_tl1]
    repeat refine And.intro (by first | assumption | exact IsW.kt (by assumption) | omega | (unfold in32; omega) | (unfold in64; omega) | exact True.intro | exact Or.inl True.intro | exact Or.inr True.intro | rfl | exact Nat.le_of_ble_eq_true rfl) ?_
    try first | done | assumption | (unfold in32; omega) | (unfold in64; omega)
    refine k_Mo_linked_7 _ _ _ _ _ _ _ _ ?_
    simp (disch := omega) only [↓w_nil, ↓w_cons, ↓w_ic, ↓w_iret, true_and, and_true, true_implies, false_implies, not_true_eq_false, not_false_eq_true, Int.reduceEq, Int.reduceLT, Int.reduceLE, Int.reduceNeg, w_up1, w_up2, w_up3]
    repeat refine And.intro (by first | assumption | exact IsW.kt (by assumption) | omega | (unfold in32; omega) | (unfold in64; omega) | exact True.intro | exact Or.inl True.intro | exact Or.inr True.intro | rfl | exact Nat.le_of_ble_eq_true rfl) ?_
    try first | done | assumption | (unfold in32; omega) | (unfold in64; omega)
    exact Or.inl ⟨hb, rfl, rfl⟩

theorem d_stored {g : cw_G} {M : cw_M} {f fl : Int → Int} {n : Int} (hS : Sh M) (hf : M 324 = f) (hW : WF n f fl) (hok : m_ok f M) (hk : ∀ T, g_of f = .inr T → Tk f T) :
    mC g y_Mo_stored [.inr (.inr 319)] M (fun r M' => FrM f (U_st f (f 3)) M r M') := by
  have w0 := hW.1
  refine cw_C_of (L := [.inr (.inr 319)]) ok_Mo_stored (Nat.le_refl _) (Nat.le_of_ble_eq_true rfl) rfl ?_
  refine cw_J_hide ?_
  refine k_Mo_stored_0 _ _ _ _ _ _ _ _ ?_
  simp (disch := omega) only [↓w_nil, ↓w_cons, ↓w_ald0, ↓w_cv0, true_and, and_true, true_implies, false_implies, not_true_eq_false, not_false_eq_true, Int.reduceEq, Int.reduceLT, Int.reduceLE, Int.reduceNeg, w_c80, w_c8I, w_c8L, w_c8R, w_up1, w_up2, w_up3]
  repeat refine And.intro (by first | assumption | exact IsW.kt (by assumption) | omega | (unfold in32; omega) | (unfold in64; omega) | exact True.intro | exact Or.inl True.intro | exact Or.inr True.intro | rfl | exact Nat.le_of_ble_eq_true rfl) ?_
  try first | done | assumption | (unfold in32; omega) | (unfold in64; omega)
  refine ⟨_, p_Mo_find hS hf hW hok hk, ?_⟩
  rintro q M1 ⟨G1, ok1, k1, ⟨e, he, rfl⟩ | ⟨T, hT, rfl, hat⟩⟩
  · refine k_Mo_stored_4 _ _ _ _ _ _ _ _ ?_
    simp (disch := omega) only [↓w_nil, ↓w_ifne, true_and, and_true, true_implies, false_implies, not_true_eq_false, not_false_eq_true, Int.reduceEq, Int.reduceLT, Int.reduceLE, Int.reduceNeg, w_up1, w_up2, w_up3, w_tl1]
    repeat refine And.intro (by first | assumption | exact IsW.kt (by assumption) | omega | (unfold in32; omega) | (unfold in64; omega) | exact True.intro | exact Or.inl True.intro | exact Or.inr True.intro | rfl | exact Nat.le_of_ble_eq_true rfl) ?_
    try first | done | assumption | (unfold in32; omega) | (unfold in64; omega)
    refine k_Mo_stored_7 _ _ _ _ _ _ _ _ ?_
    simp (disch := omega) only [↓w_nil, ↓w_cons, ↓w_ic, ↓w_iret, true_and, and_true, true_implies, false_implies, not_true_eq_false, not_false_eq_true, Int.reduceEq, Int.reduceLT, Int.reduceLE, Int.reduceNeg, w_up1, w_up2, w_up3]
    repeat refine And.intro (by first | assumption | exact IsW.kt (by assumption) | omega | (unfold in32; omega) | (unfold in64; omega) | exact True.intro | exact Or.inl True.intro | exact Or.inr True.intro | rfl | exact Nat.le_of_ble_eq_true rfl) ?_
    try first | done | assumption | (unfold in32; omega) | (unfold in64; omega)
    all_goals first | exact ⟨G1, ok1, Or.inl ⟨e, he, rfl, k1 6 (Or.inl (by omega)), k1 7 (Or.inl (by omega))⟩⟩ | exact Or.inl ⟨e, he, rfl, k1 6 (Or.inl (by omega)), k1 7 (Or.inl (by omega))⟩
  · have hS1 := G1.1
    have tk := hk T hT
    obtain ⟨mt, mi, X, F, htp⟩ := id hat
    obtain ⟨ps, tr, hall⟩ := h_all mt mi tk htp
    obtain ⟨kk, w, Xr, Fr, _, hr, _, _⟩ := ex_rest (t := f 3) hW (by omega) tk
    have f1 : M1 324 = f := by rw [G1.row (by omega) (by omega) (by omega)]; exact hf
    refine k_Mo_stored_4 _ _ _ _ _ _ _ _ ?_
    simp (disch := omega) only [↓w_nil, ↓w_ifne, true_and, and_true, true_implies, false_implies, not_true_eq_false, not_false_eq_true, Int.reduceEq, Int.reduceLT, Int.reduceLE, Int.reduceNeg, w_up1, w_up2, w_up3, w_tl1]
    repeat refine And.intro (by first | assumption | exact IsW.kt (by assumption) | omega | (unfold in32; omega) | (unfold in64; omega) | exact True.intro | exact Or.inl True.intro | exact Or.inr True.intro | rfl | exact Nat.le_of_ble_eq_true rfl) ?_
    try first | done | assumption | (unfold in32; omega) | (unfold in64; omega)
    refine k_Mo_stored_10 _ _ _ _ _ _ _ _ ?_
    simp (disch := omega) only [↓w_nil, ↓w_cons, ↓w_ald0, ↓w_cv0, true_and, and_true, true_implies, false_implies, not_true_eq_false, not_false_eq_true, Int.reduceEq, Int.reduceLT, Int.reduceLE, Int.reduceNeg, w_c80, w_c8I, w_c8L, w_c8R, w_up1, w_up2, w_up3]
    repeat refine And.intro (by first | assumption | exact IsW.kt (by assumption) | omega | (unfold in32; omega) | (unfold in64; omega) | exact True.intro | exact Or.inl True.intro | exact Or.inr True.intro | rfl | exact Nat.le_of_ble_eq_true rfl) ?_
    try first | done | assumption | (unfold in32; omega) | (unfold in64; omega)
    refine ⟨_, p_Mo_stores hS1 f1 hW hall hr, ?_⟩
    rintro q M2 ⟨rfl, r2, N, D, a8, a9, lb, hND⟩
    have hS2 := hS1.rf r2
    have bnd := lq_b lb (Nat.le_refl 7)
    have bD : cw_ab (D * 2) < 1073741824 ^ 30 := by rw [ab_mul]; exact Int.lt_trans (mul_lt2 (ab_nn _) bnd.2 (ab_nn _) (show cw_ab 2 < 3 by decide)) (by decide)
    refine k_Mo_stored_14 _ _ _ _ _ _ _ _ ?_
    simp (disch := omega) only [↓w_nil, ↓w_cons, ↓w_ald0, ↓w_ic, ↓w_cv2, true_and, and_true, true_implies, false_implies, not_true_eq_false, not_false_eq_true, Int.reduceEq, Int.reduceLT, Int.reduceLE, Int.reduceNeg, w_c80, w_c8I, w_c8L, w_c8R, w_up1, w_up2, w_up3, w_tl0]
    repeat refine And.intro (by first | assumption | exact IsW.kt (by assumption) | omega | (unfold in32; omega) | (unfold in64; omega) | exact True.intro | exact Or.inl True.intro | exact Or.inr True.intro | rfl | exact Nat.le_of_ble_eq_true rfl) ?_
    try first | done | assumption | (unfold in32; omega) | (unfold in64; omega)
    refine ⟨_, p_Mo_tells' hS2 a8 a9 (by have := lb.1.1; omega) (Int.lt_trans bnd.1 (by decide)) bD, ?_⟩
    rintro q M3 ⟨rfl, g6, g7, r3⟩
    have s32 := sg32 N
    refine k_Mo_stored_22 _ _ _ _ _ _ _ _ ?_
    simp (disch := omega) only [↓w_nil, ↓w_iret, true_and, and_true, true_implies, false_implies, not_true_eq_false, not_false_eq_true, Int.reduceEq, Int.reduceLT, Int.reduceLE, Int.reduceNeg, w_up1, w_up2, w_up3, w_tl1]
    repeat refine And.intro (by first | assumption | exact IsW.kt (by assumption) | omega | (unfold in32; omega) | (unfold in64; omega) | exact True.intro | exact Or.inl True.intro | exact Or.inr True.intro | rfl | exact Nat.le_of_ble_eq_true rfl) ?_
    try first | done | assumption | (unfold in32; omega) | (unfold in64; omega)
    unfold cw_hide
    have ww := Int.mul_pos hr.1 hr.1
    refine ⟨G1.tr ((gq_rf hS1 r2).tr (gq_rf hS2 r3)), mok_rf (mok_rf ok1 r2 (fun s y => by unfold RS at y; omega) hk) r3 (fun s y => by unfold A27 at y; omega) hk, Or.inr ⟨T, hT, N, D * 2, t_tl (fun p => c_a f (f 3) p w (Xr p)) T, w * w * 2, ⟨w, Xr, Fr, hr, rfl, rfl⟩, by omega, by have := lb.1.1; omega, ?_, rfl, g6, g7⟩⟩
    have e : N * (w * w * 2) = N * (w * w) * 2 := by grind
    rw [e, hND]; grind
