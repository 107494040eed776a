/-! the reference: fits -/
def Ge (M M' : cw_M) : Prop := Sh M' ∧ ∀ a k : Int, a ≠ 324 → ¬ (320 ≤ a ∧ a ≤ 323) → ¬ (327 ≤ a ∧ a ≤ 337) → ¬ (a = 319 ∧ (k = 7 ∨ k = 18 ∨ k = 19)) → M' a k = M a k
theorem ge_gq {M M1 : cw_M} (h : Gq M M1) : Ge M M1 := ⟨h.1, fun a k _ x y z => h.2 a k x y z⟩
theorem Ge.tr {M M1 M2 : cw_M} (h : Ge M M1) (k : Ge M1 M2) : Ge M M2 := ⟨k.1, fun a b w x y z => (k.2 a b w x y z).trans (h.2 a b w x y z)⟩
theorem Ge.q {M M1 : cw_M} (h : Ge M M1) (e : M1 324 = M 324) : Gq M M1 := ⟨h.1, fun a k x y z => by
  by_cases q : a = 324
  · rw [q, e]
  · exact h.2 a k q x y z⟩
/-- a state between, where the row is f -/
def As (f : Int → Int) (T : Tr) (M M1 : cw_M) : Prop := Ge M M1 ∧ M1 324 = f ∧ Mt M1 T ∧ M1 319 19 = M 319 19 ∧ sR M M1 6 ∧ sR M M1 7
theorem As.up {f : Int → Int} {T : Tr} {M M1 : cw_M} {k v : Int} (h : As f T M M1) : As (cw_fu f k v) T M (cw_up M1 324 k v) := by
  obtain ⟨a, b, c, d, e1, e2⟩ := h
  refine ⟨⟨a.1.up (rs_k c_k324 (by decide)), fun x y z u w q => by rw [cw_up_ne z]; exact a.2 x y z u w q⟩, ?_, c.cg (fun x y => cw_up_ne (by omega)), by rw [cw_up_ne (by omega)]; exact d, e1.tr (sr_up (by omega)), e2.tr (sr_up (by omega))⟩
  funext j
  rw [cw_up_eq, b]; rfl
theorem As.re {f : Int → Int} {T : Tr} {M M1 : cw_M} {k x v : Int} (h : As (cw_fu f k x) T M M1) : As (cw_fu f k v) T M (cw_up M1 324 k v) := by
  have := h.up (k := k) (v := v)
  rw [fu_fu] at this; exact this
theorem As.back {f : Int → Int} {T : Tr} {M M1 : cw_M} {k x : Int} (h : As (cw_fu f k x) T M M1) : As f T M (cw_up M1 324 k (f k)) := by
  have := h.up (k := k) (v := f k)
  rw [fu_fu, fu_id rfl] at this; exact this
theorem p_seen {g : cw_G} {M0 M : cw_M} {f fl : Int → Int} {n : Int} {T : Tr} (h : As f T M0 M) (hW : WF n f fl) (hfl : M0 338 = fl) (hk : Tk f T) :
    mC g y_Mo_allSeen [.inr (.inr 319)] M (fun q M' => q = some (.inl (p_b (AllF f fl T))) ∧ As f T M0 M' ∧ M' 319 18 = 0) := by
  obtain ⟨a, b, c, d, e1, e2⟩ := h
  refine cw_C_mono (p_Mo_allSeen a.1 b hW (by funext k; rw [a.2 338 k (by omega) (by omega) (by omega) (by omega), hfl]) c hk) ?_
  rintro q M' ⟨rfl, g1, g2, g3, g4, g5, g6, g7⟩
  exact ⟨rfl, ⟨a.tr (ge_gq g1), g2, g3, by rw [g5]; exact d, e1.tr g6, e2.tr g7⟩, g4⟩
theorem wbt_32 {f fl : Int → Int} {T : Tr} {b0 : Int} (h : in32 b0) (n : Nat) : in32 (w_bt f fl T b0 n) := by
  cases n with
  | zero => exact h
  | succ n => exact or_32
theorem mbt_32 {f fl : Int → Int} {T : Tr} {b0 : Int} (h : in32 b0) (n : Nat) : in32 (m_bt' f fl T b0 n) := by
  cases n with
  | zero => exact h
  | succ n => exact or_32
theorem pb_32 {P : Prop} : in32 (p_b P) := by have := pb_c P; unfold in32; omega
theorem tk_fu {f : Int → Int} {T : Tr} {k v : Int} (hk : k ≠ 0) (h : Tk f T) : Tk (cw_fu f k v) T := ⟨h.1, h.2.1, h.2.2.1, fun q hq => by rw [fu_o (by omega)]; exact h.2.2.2 q hq⟩
theorem d_fits {g : cw_G} {M : cw_M} {f fl : Int → Int} {n : Int} (hS : Sh M) (hf : M 324 = f) (hfl : M 338 = fl) (hW : WF n f fl) (hok : m_ok f M) (hk : ∀ T, g_of f = .inr T → Tk f T) :
    mC g y_Mo_fits [.inr (.inr 319)] M (fun r M' => FrJ f (fun T v => v = v_ft f fl T) M r M') := by
  have w0 := hW.1.1
  refine cw_C_of (L := [.inr (.inr 319), cU, cU, cU, cU]) ok_Mo_fits (Nat.le_refl _) (Nat.le_of_ble_eq_true rfl) rfl ?_
  refine cw_J_hide ?_
  refine k_Mo_fits_0 _ _ _ _ _ _ _ _ ?_
  simp (disch := omega) only [↓w_nil, ↓w_cons, ↓w_ald0, ↓w_cv0, true_and, and_true, true_implies, false_implies, not_true_eq_false, not_false_eq_true, Int.reduceEq, Int.reduceLT, Int.reduceLE, Int.reduceNeg, w_c80, w_c8I, w_c8L, w_c8R, w_up1, w_up2, w_up3]
  repeat refine And.intro (by first | assumption | exact IsW.kt (by assumption) | omega | (unfold in32; omega) | (unfold in64; omega) | exact True.intro | exact Or.inl True.intro | exact Or.inr True.intro | rfl | exact Nat.le_of_ble_eq_true rfl) ?_
  try first | done | assumption | (unfold in32; omega) | (unfold in64; omega)
  refine ⟨_, p_Mo_find hS hf hW hok hk, ?_⟩
  rintro q M1 ⟨G1, ok1, k1, ⟨e, he, rfl⟩ | ⟨T, hT, rfl, hat⟩⟩
  · refine k_Mo_fits_4 _ _ _ _ _ _ _ _ ?_
    simp (disch := omega) only [↓w_nil, ↓w_ifne, true_and, and_true, true_implies, false_implies, not_true_eq_false, not_false_eq_true, Int.reduceEq, Int.reduceLT, Int.reduceLE, Int.reduceNeg, w_up1, w_up2, w_up3, w_tl1]
    repeat refine And.intro (by first | assumption | exact IsW.kt (by assumption) | omega | (unfold in32; omega) | (unfold in64; omega) | exact True.intro | exact Or.inl True.intro | exact Or.inr True.intro | rfl | exact Nat.le_of_ble_eq_true rfl) ?_
    try first | done | assumption | (unfold in32; omega) | (unfold in64; omega)
    refine k_Mo_fits_7 _ _ _ _ _ _ _ _ ?_
    simp (disch := omega) only [↓w_nil, ↓w_cons, ↓w_ic, ↓w_iret, true_and, and_true, true_implies, false_implies, not_true_eq_false, not_false_eq_true, Int.reduceEq, Int.reduceLT, Int.reduceLE, Int.reduceNeg, w_up1, w_up2, w_up3]
    unfold cw_hide
    exact ⟨G1, ok1, ⟨k1 6 (Or.inl (by omega)), k1 7 (Or.inl (by omega))⟩, Or.inl ⟨e, he, rfl⟩⟩
  · have hS1 := G1.1
    have tk := hk T hT
    have f1 : M1 324 = f := by rw [G1.row (by omega) (by omega) (by omega)]; exact hf
    have fl1 : M1 338 = fl := by rw [G1.row (by omega) (by omega) (by omega)]; exact hfl
    have as1 : As f T M1 M1 := ⟨ge_gq (Gq.rf hS1), f1, hat.1, rfl, sR.rf, sR.rf⟩
    have goM : ∀ (d i : Nat) (b b0 : Int) (M3 : cw_M) (z3 z4 : cw_V), i + d = (f 0).toNat → b = m_bt' f fl T b0 i → As f T M1 M3 → M3 319 18 = 0 → b0 = w_bt f fl T (p_b (AllF f fl T)) 4 →
        mJ g y_Mo_fits 119 [.inr (.inr 319), .inl b, .inl (i : Int), z3, z4] [] M3 (cw_hide (fun r M' => FrJ f (fun T v => v = v_ft f fl T) M r M')) := by
      intro d
      induction d with
      | zero =>
        intro i b b0 M3 z3 z4 hi hb as3 z18 h0
        have ei : i = (f 0).toNat := by omega
        have hS3 := as3.1.1
        have e0 : M3 324 0 = f 0 := by rw [as3.2.1]
        have b032 : in32 b0 := by rw [h0]; exact wbt_32 pb_32 4
        have b32 : in32 b := by rw [hb]; exact mbt_32 b032 i
        refine k_Mo_fits_119 _ _ _ _ _ _ _ _ ?_
        simp (disch := omega) only [↓w_nil, ↓w_cons, ↓w_ild2, ↓w_ald0, ↓w_gf2_4, ↓w_ic, ↓w_iald, ↓w_icge, true_and, and_true, true_implies, false_implies, not_true_eq_false, not_false_eq_true, Int.reduceEq, Int.reduceLT, Int.reduceLE, Int.reduceNeg, w_up1, w_up2, w_up3, e0, c_k319, c_k320, c_k321, c_k322, c_k323, c_k324, c_k325, c_k326, c_k327, c_k328, c_k329, c_k330, c_k331, c_k332, c_k333, c_k334, c_k335, c_k336, c_k337, c_k338, c_k339, c_k340, c_k341, c_k342, c_k343, c_k344, c_k345, c_k346, c_k347, hS3.r319_0, hS3.r319_1, hS3.r319_2, hS3.r319_3, hS3.r319_4, hS3.r319_5, hS3.r319_6, hS3.r319_8, hS3.r319_9, hS3.r319_10, hS3.r319_11, hS3.r319_12, hS3.r319_13, hS3.r319_14, hS3.r319_15, hS3.r319_16, hS3.r319_17, hS3.r319_20, hS3.r319_21, hS3.r319_22, hS3.r319_23, hS3.r319_24, hS3.r319_25, hS3.r319_26, hS3.r319_29, hS3.r319_30, hS3.r319_31, hS3.r319_32, w_sf1, w_sf3]
        repeat refine And.intro (by first | assumption | exact IsW.kt (by assumption) | omega | (unfold in32; omega) | (unfold in64; omega) | exact True.intro | exact Or.inl True.intro | exact Or.inr True.intro | rfl | exact Nat.le_of_ble_eq_true rfl) ?_
        try first | done | assumption | (unfold in32; omega) | (unfold in64; omega)
        refine ⟨fun _ => ?_, fun h => absurd h (by omega)⟩
        have Gz : Gq M M3 := G1.tr (as3.1.q (by rw [as3.2.1, f1]))
        have okz : m_ok f M3 := ⟨Or.inl z18, by rw [as3.2.2.2.1]; exact ok1.2⟩
        have sz : sR M M3 6 ∧ sR M M3 7 := ⟨(k1 6 (Or.inl (by omega))).tr as3.2.2.2.2.1, (k1 7 (Or.inl (by omega))).tr as3.2.2.2.2.2⟩
        refine k_Mo_fits_188 _ _ _ _ _ _ _ _ ?_
        simp (disch := omega) only [↓w_nil, ↓w_cons, ↓w_ild1, ↓w_iret, true_and, and_true, true_implies, false_implies, not_true_eq_false, not_false_eq_true, Int.reduceEq, Int.reduceLT, Int.reduceLE, Int.reduceNeg, w_up1, w_up2, w_up3]
        unfold cw_hide
        exact ⟨Gz, okz, sz, Or.inr ⟨T, hT, b, by rw [hb, ei, h0]; rfl, b32, rfl⟩⟩
      | succ d ih =>
        intro i b b0 M3 z3 z4 hi hb as3 z18 h0
        have hS3 := as3.1.1
        have e0 : M3 324 0 = f 0 := by rw [as3.2.1]
        have i0 : (0 : Int) ≤ i := by omega
        have i1 : (i : Int) < f 0 := by omega
        have mb := hW.2.2.2.2.2.1 i i0 (by omega)
        have e6 : 10 + 12 * (i : Int) + 6 = 16 + 12 * i := by omega
        have e1 : M3 324 (16 + 12 * i) = f (16 + 12 * i) := by rw [as3.2.1]
        have c32 : in32 (f (16 + 12 * i)) := by unfold in32; omega
        have sm : m_bt' f fl T b0 (i + 1) = cw_or32 (m_bt' f fl T b0 i) (if p_b (AllF (cw_fu f (16 + 12 * i) 0) fl T) = 1 then 512 * 2 ^ (i : Int).toNat else 0) := rfl
        refine k_Mo_fits_119 _ _ _ _ _ _ _ _ ?_
        simp (disch := omega) only [↓w_nil, ↓w_cons, ↓w_ild2, ↓w_ald0, ↓w_gf2_4, ↓w_ic, ↓w_iald, ↓w_icge, true_and, and_true, true_implies, false_implies, not_true_eq_false, not_false_eq_true, Int.reduceEq, Int.reduceLT, Int.reduceLE, Int.reduceNeg, w_up1, w_up2, w_up3, e0, c_k319, c_k320, c_k321, c_k322, c_k323, c_k324, c_k325, c_k326, c_k327, c_k328, c_k329, c_k330, c_k331, c_k332, c_k333, c_k334, c_k335, c_k336, c_k337, c_k338, c_k339, c_k340, c_k341, c_k342, c_k343, c_k344, c_k345, c_k346, c_k347, hS3.r319_0, hS3.r319_1, hS3.r319_2, hS3.r319_3, hS3.r319_4, hS3.r319_5, hS3.r319_6, hS3.r319_8, hS3.r319_9, hS3.r319_10, hS3.r319_11, hS3.r319_12, hS3.r319_13, hS3.r319_14, hS3.r319_15, hS3.r319_16, hS3.r319_17, hS3.r319_20, hS3.r319_21, hS3.r319_22, hS3.r319_23, hS3.r319_24, hS3.r319_25, hS3.r319_26, hS3.r319_29, hS3.r319_30, hS3.r319_31, hS3.r319_32, w_sf1, w_sf3]
        repeat refine And.intro (by first | assumption | exact IsW.kt (by assumption) | omega | (unfold in32; omega) | (unfold in64; omega) | exact True.intro | exact Or.inl True.intro | exact Or.inr True.intro | rfl | exact Nat.le_of_ble_eq_true rfl) ?_
        try first | done | assumption | (unfold in32; omega) | (unfold in64; omega)
        intro _
        refine k_Mo_fits_129 _ _ _ _ _ _ _ _ ?_
        simp (disch := omega) only [↓w_nil, ↓w_cons, ↓w_ic, ↓w_ild2, ↓w_imul, ↓w_iadd, ↓w_ist3, ↓w_ald0, ↓w_gf2_4, ↓w_ild3, ↓w_iald, ↓w_ist4, ↓w_iast, ↓w_ild1, ↓w_cv0, true_and, and_true, true_implies, false_implies, not_true_eq_false, not_false_eq_true, Int.reduceEq, Int.reduceLT, Int.reduceLE, Int.reduceNeg, w_nlI, w_nlL, w_nlR, w_c80, w_c8I, w_c8L, w_c8R, w_up1, w_up2, w_up3, e6, e1, c_k319, c_k320, c_k321, c_k322, c_k323, c_k324, c_k325, c_k326, c_k327, c_k328, c_k329, c_k330, c_k331, c_k332, c_k333, c_k334, c_k335, c_k336, c_k337, c_k338, c_k339, c_k340, c_k341, c_k342, c_k343, c_k344, c_k345, c_k346, c_k347, hS3.r319_0, hS3.r319_1, hS3.r319_2, hS3.r319_3, hS3.r319_4, hS3.r319_5, hS3.r319_6, hS3.r319_8, hS3.r319_9, hS3.r319_10, hS3.r319_11, hS3.r319_12, hS3.r319_13, hS3.r319_14, hS3.r319_15, hS3.r319_16, hS3.r319_17, hS3.r319_20, hS3.r319_21, hS3.r319_22, hS3.r319_23, hS3.r319_24, hS3.r319_25, hS3.r319_26, hS3.r319_29, hS3.r319_30, hS3.r319_31, hS3.r319_32, w_sf1, w_sf3]
        repeat refine And.intro (by first | assumption | exact IsW.kt (by assumption) | omega | (unfold in32; omega) | (unfold in64; omega) | exact True.intro | exact Or.inl True.intro | exact Or.inr True.intro | rfl | exact Nat.le_of_ble_eq_true rfl) ?_
        try first | done | assumption | (unfold in32; omega) | (unfold in64; omega)
        refine ⟨_, p_seen (as3.up (k := 16 + 12 * i) (v := 0)) (wf_mg ⟨i0, i1⟩ (by omega) hW) fl1 (tk_fu (by omega) tk), ?_⟩
        rintro r M4 ⟨rfl, as4, y18⟩
        have hS4 := as4.1.1
        have d01 := pb_c (AllF (cw_fu f (16 + 12 * (i : Int)) 0) fl T)
        have d32 := pb_32 (P := AllF (cw_fu f (16 + 12 * (i : Int)) 0) fl T)
        have fin : ∀ v : Int, v = (if p_b (AllF (cw_fu f (16 + 12 * (i : Int)) 0) fl T) = 1 then 512 * 2 ^ (i : Int).toNat else 0) → mJ g y_Mo_fits 172 [.inr (.inr 319), .inl b, .inl (i : Int), .inl (16 + 12 * i), .inl (f (16 + 12 * i))] [.inl v, .inl b] M4 (cw_hide (fun r M' => FrJ f (fun T v => v = v_ft f fl T) M r M')) := by
          intro v hv
          refine k_Mo_fits_172 _ _ _ _ _ _ _ _ ?_
          simp (disch := omega) only [↓w_nil, ↓w_cons, ↓w_ior, ↓w_ist1, ↓w_ald0, ↓w_gf2_4, ↓w_ild3, ↓w_ild4, ↓w_iast, ↓w_inc2, ↓w_goto, true_and, and_true, true_implies, false_implies, not_true_eq_false, not_false_eq_true, Int.reduceEq, Int.reduceLT, Int.reduceLE, Int.reduceNeg, w_nlI, w_nlL, w_nlR, w_up1, w_up2, w_up3, c_k319, c_k320, c_k321, c_k322, c_k323, c_k324, c_k325, c_k326, c_k327, c_k328, c_k329, c_k330, c_k331, c_k332, c_k333, c_k334, c_k335, c_k336, c_k337, c_k338, c_k339, c_k340, c_k341, c_k342, c_k343, c_k344, c_k345, c_k346, c_k347, hS4.r319_0, hS4.r319_1, hS4.r319_2, hS4.r319_3, hS4.r319_4, hS4.r319_5, hS4.r319_6, hS4.r319_8, hS4.r319_9, hS4.r319_10, hS4.r319_11, hS4.r319_12, hS4.r319_13, hS4.r319_14, hS4.r319_15, hS4.r319_16, hS4.r319_17, hS4.r319_20, hS4.r319_21, hS4.r319_22, hS4.r319_23, hS4.r319_24, hS4.r319_25, hS4.r319_26, hS4.r319_29, hS4.r319_30, hS4.r319_31, hS4.r319_32, w_sf1, w_sf3]
          repeat refine And.intro (by first | assumption | exact IsW.kt (by assumption) | omega | (unfold in32; omega) | (unfold in64; omega) | exact True.intro | exact Or.inl True.intro | exact Or.inr True.intro | rfl | exact Nat.le_of_ble_eq_true rfl) ?_
          try first | done | assumption | (unfold in32; omega) | (unfold in64; omega)
          exact ih (i + 1) _ b0 _ _ _ (by omega) (by rw [sm, hv, hb]) as4.back (by rw [cw_up_ne (by omega)]; exact y18) h0
        refine k_Mo_fits_160 _ _ _ _ _ _ _ _ ?_
        simp (disch := omega) only [↓w_nil, ↓w_ifeq, true_and, and_true, true_implies, false_implies, not_true_eq_false, not_false_eq_true, Int.reduceEq, Int.reduceLT, Int.reduceLE, Int.reduceNeg, w_up1, w_up2, w_up3, w_tl1]
        repeat refine And.intro (by first | assumption | exact IsW.kt (by assumption) | omega | (unfold in32; omega) | (unfold in64; omega) | exact True.intro | exact Or.inl True.intro | exact Or.inr True.intro | rfl | exact Nat.le_of_ble_eq_true rfl) ?_
        try first | done | assumption | (unfold in32; omega) | (unfold in64; omega)
        refine ⟨fun hz => ?_, fun hz => ?_⟩
        · refine k_Mo_fits_171 _ _ _ _ _ _ _ _ ?_
          simp (disch := omega) only [↓w_nil, ↓w_cons, ↓w_ic, ↓w_fall, true_and, and_true, true_implies, false_implies, not_true_eq_false, not_false_eq_true, Int.reduceEq, Int.reduceLT, Int.reduceLE, Int.reduceNeg, w_up1, w_up2, w_up3]
          exact fin 0 (by rw [if_neg (by omega)])
        · refine k_Mo_fits_163 _ _ _ _ _ _ _ _ ?_
          simp (disch := omega) only [↓w_nil, ↓w_cons, ↓w_ic, ↓w_ild2, ↓w_ishl, ↓w_goto, true_and, and_true, true_implies, false_implies, not_true_eq_false, not_false_eq_true, Int.reduceEq, Int.reduceLT, Int.reduceLE, Int.reduceNeg, w_up1, w_up2, w_up3]
          repeat refine And.intro (by first | assumption | exact IsW.kt (by assumption) | omega | (unfold in32; omega) | (unfold in64; omega) | exact True.intro | exact Or.inl True.intro | exact Or.inr True.intro | rfl | exact Nat.le_of_ble_eq_true rfl) ?_
          try first | done | assumption | (unfold in32; omega) | (unfold in64; omega)
          exact fin _ (by rw [if_pos (by omega)])
    have goW : ∀ (d i : Nat) (b : Int) (M3 : cw_M) (z3 z4 : cw_V), i + d = 4 → b = w_bt f fl T (p_b (AllF f fl T)) i → As f T M1 M3 → M3 319 18 = 0 →
        mJ g y_Mo_fits 25 [.inr (.inr 319), .inl b, .inl (i : Int), z3, z4] [] M3 (cw_hide (fun r M' => FrJ f (fun T v => v = v_ft f fl T) M r M')) := by
      intro d
      induction d with
      | zero =>
        intro i b M3 z3 z4 hi hb as3 z18
        have ei : i = 4 := by omega
        subst ei
        refine k_Mo_fits_25 _ _ _ _ _ _ _ _ ?_
        simp (disch := omega) only [↓w_nil, ↓w_cons, ↓w_ild2, ↓w_ic, ↓w_icge, true_and, and_true, true_implies, false_implies, not_true_eq_false, not_false_eq_true, Int.reduceEq, Int.reduceLT, Int.reduceLE, Int.reduceNeg, w_up1, w_up2, w_up3]
        repeat refine And.intro (by first | assumption | exact IsW.kt (by assumption) | omega | (unfold in32; omega) | (unfold in64; omega) | exact True.intro | exact Or.inl True.intro | exact Or.inr True.intro | rfl | exact Nat.le_of_ble_eq_true rfl) ?_
        try first | done | assumption | (unfold in32; omega) | (unfold in64; omega)
        refine ⟨fun _ => ?_, fun h => absurd h (by omega)⟩
        refine k_Mo_fits_117 _ _ _ _ _ _ _ _ ?_
        simp (disch := omega) only [↓w_nil, ↓w_cons, ↓w_ic, ↓w_ist2, ↓w_fall, true_and, and_true, true_implies, false_implies, not_true_eq_false, not_false_eq_true, Int.reduceEq, Int.reduceLT, Int.reduceLE, Int.reduceNeg, w_nlI, w_nlL, w_nlR, w_up1, w_up2, w_up3]
        repeat refine And.intro (by first | assumption | exact IsW.kt (by assumption) | omega | (unfold in32; omega) | (unfold in64; omega) | exact True.intro | exact Or.inl True.intro | exact Or.inr True.intro | rfl | exact Nat.le_of_ble_eq_true rfl) ?_
        try first | done | assumption | (unfold in32; omega) | (unfold in64; omega)
        exact goM (f 0).toNat 0 b b M3 _ _ (by omega) rfl as3 z18 hb
      | succ d ih =>
        intro i b M3 z3 z4 hi hb as3 z18
        have hS3 := as3.1.1
        have i0 : (0 : Int) ≤ i := by omega
        have i1 : (i : Int) < 4 := by omega
        have cb := hW.2.2.2.2.2.2.2.1 i i0 i1
        have e1 : M3 324 (268 + i) = f (268 + i) := by rw [as3.2.1]
        have c32 : in32 (f (268 + i)) := by unfold in32; omega
        have hb2 := half_b (x := f (268 + i)) ⟨by omega, by omega⟩
        have sm : w_bt f fl T (p_b (AllF f fl T)) (i + 1) = cw_or32 (cw_or32 (w_bt f fl T (p_b (AllF f fl T)) i) (if p_b (AllF (cw_fu f (268 + i) 0) fl T) = 1 then 2 * 2 ^ (i : Int).toNat else 0)) (if p_b (AllF (cw_fu f (268 + i) ((f (268 + i)).tdiv 2)) fl T) = 1 then 32 * 2 ^ (i : Int).toNat else 0) := rfl
        refine k_Mo_fits_25 _ _ _ _ _ _ _ _ ?_
        simp (disch := omega) only [↓w_nil, ↓w_cons, ↓w_ild2, ↓w_ic, ↓w_icge, true_and, and_true, true_implies, false_implies, not_true_eq_false, not_false_eq_true, Int.reduceEq, Int.reduceLT, Int.reduceLE, Int.reduceNeg, w_up1, w_up2, w_up3]
        repeat refine And.intro (by first | assumption | exact IsW.kt (by assumption) | omega | (unfold in32; omega) | (unfold in64; omega) | exact True.intro | exact Or.inl True.intro | exact Or.inr True.intro | rfl | exact Nat.le_of_ble_eq_true rfl) ?_
        try first | done | assumption | (unfold in32; omega) | (unfold in64; omega)
        intro _
        refine k_Mo_fits_30 _ _ _ _ _ _ _ _ ?_
        simp (disch := omega) only [↓w_nil, ↓w_cons, ↓w_ald0, ↓w_gf2_4, ↓w_ic, ↓w_ild2, ↓w_iadd, ↓w_iald, ↓w_ist3, ↓w_iast, ↓w_ild1, ↓w_cv0, true_and, and_true, true_implies, false_implies, not_true_eq_false, not_false_eq_true, Int.reduceEq, Int.reduceLT, Int.reduceLE, Int.reduceNeg, w_nlI, w_nlL, w_nlR, w_c80, w_c8I, w_c8L, w_c8R, w_up1, w_up2, w_up3, e1, c_k319, c_k320, c_k321, c_k322, c_k323, c_k324, c_k325, c_k326, c_k327, c_k328, c_k329, c_k330, c_k331, c_k332, c_k333, c_k334, c_k335, c_k336, c_k337, c_k338, c_k339, c_k340, c_k341, c_k342, c_k343, c_k344, c_k345, c_k346, c_k347, hS3.r319_0, hS3.r319_1, hS3.r319_2, hS3.r319_3, hS3.r319_4, hS3.r319_5, hS3.r319_6, hS3.r319_8, hS3.r319_9, hS3.r319_10, hS3.r319_11, hS3.r319_12, hS3.r319_13, hS3.r319_14, hS3.r319_15, hS3.r319_16, hS3.r319_17, hS3.r319_20, hS3.r319_21, hS3.r319_22, hS3.r319_23, hS3.r319_24, hS3.r319_25, hS3.r319_26, hS3.r319_29, hS3.r319_30, hS3.r319_31, hS3.r319_32, w_sf1, w_sf3]
        repeat refine And.intro (by first | assumption | exact IsW.kt (by assumption) | omega | (unfold in32; omega) | (unfold in64; omega) | exact True.intro | exact Or.inl True.intro | exact Or.inr True.intro | rfl | exact Nat.le_of_ble_eq_true rfl) ?_
        try first | done | assumption | (unfold in32; omega) | (unfold in64; omega)
        refine ⟨_, p_seen (as3.up (k := 268 + i) (v := 0)) (wf_cu ⟨i0, i1⟩ (by omega) hW) fl1 (tk_fu (by omega) tk), ?_⟩
        rintro r M4 ⟨rfl, as4, y18⟩
        have hS4 := as4.1.1
        have d01 := pb_c (AllF (cw_fu f (268 + (i : Int)) 0) fl T)
        have d32 := pb_32 (P := AllF (cw_fu f (268 + (i : Int)) 0) fl T)
        have rear : ∀ v : Int, v = (if p_b (AllF (cw_fu f (268 + i) 0) fl T) = 1 then 2 * 2 ^ (i : Int).toNat else 0) → mJ g y_Mo_fits 67 [.inr (.inr 319), .inl b, .inl (i : Int), .inl (f (268 + i)), z4] [.inl v, .inl b] M4 (cw_hide (fun r M' => FrJ f (fun T v => v = v_ft f fl T) M r M')) := by
          intro v hv
          refine k_Mo_fits_67 _ _ _ _ _ _ _ _ ?_
          simp (disch := omega) only [↓w_nil, ↓w_cons, ↓w_ior, ↓w_ist1, ↓w_ald0, ↓w_gf2_4, ↓w_ic, ↓w_ild2, ↓w_iadd, ↓w_ild3, ↓w_idiv, ↓w_iast, ↓w_ild1, ↓w_cv0, true_and, and_true, true_implies, false_implies, not_true_eq_false, not_false_eq_true, Int.reduceEq, Int.reduceLT, Int.reduceLE, Int.reduceNeg, w_nlI, w_nlL, w_nlR, w_c80, w_c8I, w_c8L, w_c8R, w_up1, w_up2, w_up3, c_k319, c_k320, c_k321, c_k322, c_k323, c_k324, c_k325, c_k326, c_k327, c_k328, c_k329, c_k330, c_k331, c_k332, c_k333, c_k334, c_k335, c_k336, c_k337, c_k338, c_k339, c_k340, c_k341, c_k342, c_k343, c_k344, c_k345, c_k346, c_k347, hS4.r319_0, hS4.r319_1, hS4.r319_2, hS4.r319_3, hS4.r319_4, hS4.r319_5, hS4.r319_6, hS4.r319_8, hS4.r319_9, hS4.r319_10, hS4.r319_11, hS4.r319_12, hS4.r319_13, hS4.r319_14, hS4.r319_15, hS4.r319_16, hS4.r319_17, hS4.r319_20, hS4.r319_21, hS4.r319_22, hS4.r319_23, hS4.r319_24, hS4.r319_25, hS4.r319_26, hS4.r319_29, hS4.r319_30, hS4.r319_31, hS4.r319_32, w_sf1, w_sf3]
          repeat refine And.intro (by first | assumption | exact IsW.kt (by assumption) | omega | (unfold in32; omega) | (unfold in64; omega) | exact True.intro | exact Or.inl True.intro | exact Or.inr True.intro | rfl | exact Nat.le_of_ble_eq_true rfl) ?_
          try first | done | assumption | (unfold in32; omega) | (unfold in64; omega)
          refine ⟨_, p_seen (as4.re (v := (f (268 + i)).tdiv 2)) (wf_cu ⟨i0, i1⟩ (by omega) hW) fl1 (tk_fu (by omega) tk), ?_⟩
          rintro r M5 ⟨rfl, as5, x18⟩
          have hS5 := as5.1.1
          have e01 := pb_c (AllF (cw_fu f (268 + (i : Int)) ((f (268 + i)).tdiv 2)) fl T)
          have e32 := pb_32 (P := AllF (cw_fu f (268 + (i : Int)) ((f (268 + i)).tdiv 2)) fl T)
          have fin : ∀ x : Int, x = (if p_b (AllF (cw_fu f (268 + i) ((f (268 + i)).tdiv 2)) fl T) = 1 then 32 * 2 ^ (i : Int).toNat else 0) → mJ g y_Mo_fits 98 [.inr (.inr 319), .inl (cw_or32 b v), .inl (i : Int), .inl (f (268 + i)), z4] [.inl x, .inl (cw_or32 b v)] M5 (cw_hide (fun r M' => FrJ f (fun T v => v = v_ft f fl T) M r M')) := by
            intro x hv2
            refine k_Mo_fits_98 _ _ _ _ _ _ _ _ ?_
            simp (disch := omega) only [↓w_nil, ↓w_cons, ↓w_ior, ↓w_ist1, ↓w_ald0, ↓w_gf2_4, ↓w_ic, ↓w_ild2, ↓w_iadd, ↓w_ild3, ↓w_iast, ↓w_inc2, ↓w_goto, true_and, and_true, true_implies, false_implies, not_true_eq_false, not_false_eq_true, Int.reduceEq, Int.reduceLT, Int.reduceLE, Int.reduceNeg, w_nlI, w_nlL, w_nlR, w_up1, w_up2, w_up3, c_k319, c_k320, c_k321, c_k322, c_k323, c_k324, c_k325, c_k326, c_k327, c_k328, c_k329, c_k330, c_k331, c_k332, c_k333, c_k334, c_k335, c_k336, c_k337, c_k338, c_k339, c_k340, c_k341, c_k342, c_k343, c_k344, c_k345, c_k346, c_k347, hS5.r319_0, hS5.r319_1, hS5.r319_2, hS5.r319_3, hS5.r319_4, hS5.r319_5, hS5.r319_6, hS5.r319_8, hS5.r319_9, hS5.r319_10, hS5.r319_11, hS5.r319_12, hS5.r319_13, hS5.r319_14, hS5.r319_15, hS5.r319_16, hS5.r319_17, hS5.r319_20, hS5.r319_21, hS5.r319_22, hS5.r319_23, hS5.r319_24, hS5.r319_25, hS5.r319_26, hS5.r319_29, hS5.r319_30, hS5.r319_31, hS5.r319_32, w_sf1, w_sf3]
            repeat refine And.intro (by first | assumption | exact IsW.kt (by assumption) | omega | (unfold in32; omega) | (unfold in64; omega) | exact True.intro | exact Or.inl True.intro | exact Or.inr True.intro | rfl | exact Nat.le_of_ble_eq_true rfl) ?_
            try first | done | assumption | (unfold in32; omega) | (unfold in64; omega)
            exact ih (i + 1) _ _ _ _ (by omega) (by rw [sm, hv, hv2, hb]) as5.back (by rw [cw_up_ne (by omega)]; exact x18)
          refine k_Mo_fits_87 _ _ _ _ _ _ _ _ ?_
          simp (disch := omega) only [↓w_nil, ↓w_ifeq, true_and, and_true, true_implies, false_implies, not_true_eq_false, not_false_eq_true, Int.reduceEq, Int.reduceLT, Int.reduceLE, Int.reduceNeg, w_up1, w_up2, w_up3, w_tl1]
          repeat refine And.intro (by first | assumption | exact IsW.kt (by assumption) | omega | (unfold in32; omega) | (unfold in64; omega) | exact True.intro | exact Or.inl True.intro | exact Or.inr True.intro | rfl | exact Nat.le_of_ble_eq_true rfl) ?_
          try first | done | assumption | (unfold in32; omega) | (unfold in64; omega)
          refine ⟨fun hz => ?_, fun hz => ?_⟩
          · refine k_Mo_fits_97 _ _ _ _ _ _ _ _ ?_
            simp (disch := omega) only [↓w_nil, ↓w_cons, ↓w_ic, ↓w_fall, true_and, and_true, true_implies, false_implies, not_true_eq_false, not_false_eq_true, Int.reduceEq, Int.reduceLT, Int.reduceLE, Int.reduceNeg, w_up1, w_up2, w_up3]
            exact fin 0 (by rw [if_neg (by omega)])
          · refine k_Mo_fits_90 _ _ _ _ _ _ _ _ ?_
            simp (disch := omega) only [↓w_nil, ↓w_cons, ↓w_ic, ↓w_ild2, ↓w_ishl, ↓w_goto, true_and, and_true, true_implies, false_implies, not_true_eq_false, not_false_eq_true, Int.reduceEq, Int.reduceLT, Int.reduceLE, Int.reduceNeg, w_up1, w_up2, w_up3]
            repeat refine And.intro (by first | assumption | exact IsW.kt (by assumption) | omega | (unfold in32; omega) | (unfold in64; omega) | exact True.intro | exact Or.inl True.intro | exact Or.inr True.intro | rfl | exact Nat.le_of_ble_eq_true rfl) ?_
            try first | done | assumption | (unfold in32; omega) | (unfold in64; omega)
            exact fin _ (by rw [if_pos (by omega)])
        refine k_Mo_fits_57 _ _ _ _ _ _ _ _ ?_
        simp (disch := omega) only [↓w_nil, ↓w_ifeq, true_and, and_true, true_implies, false_implies, not_true_eq_false, not_false_eq_true, Int.reduceEq, Int.reduceLT, Int.reduceLE, Int.reduceNeg, w_up1, w_up2, w_up3, w_tl1]
        repeat refine And.intro (by first | assumption | exact IsW.kt (by assumption) | omega | (unfold in32; omega) | (unfold in64; omega) | exact True.intro | exact Or.inl True.intro | exact Or.inr True.intro | rfl | exact Nat.le_of_ble_eq_true rfl) ?_
        try first | done | assumption | (unfold in32; omega) | (unfold in64; omega)
        refine ⟨fun hz => ?_, fun hz => ?_⟩
        · refine k_Mo_fits_66 _ _ _ _ _ _ _ _ ?_
          simp (disch := omega) only [↓w_nil, ↓w_cons, ↓w_ic, ↓w_fall, true_and, and_true, true_implies, false_implies, not_true_eq_false, not_false_eq_true, Int.reduceEq, Int.reduceLT, Int.reduceLE, Int.reduceNeg, w_up1, w_up2, w_up3]
          exact rear 0 (by rw [if_neg (by omega)])
        · refine k_Mo_fits_60 _ _ _ _ _ _ _ _ ?_
          simp (disch := omega) only [↓w_nil, ↓w_cons, ↓w_ic, ↓w_ild2, ↓w_ishl, ↓w_goto, true_and, and_true, true_implies, false_implies, not_true_eq_false, not_false_eq_true, Int.reduceEq, Int.reduceLT, Int.reduceLE, Int.reduceNeg, w_up1, w_up2, w_up3]
          repeat refine And.intro (by first | assumption | exact IsW.kt (by assumption) | omega | (unfold in32; omega) | (unfold in64; omega) | exact True.intro | exact Or.inl True.intro | exact Or.inr True.intro | rfl | exact Nat.le_of_ble_eq_true rfl) ?_
          try first | done | assumption | (unfold in32; omega) | (unfold in64; omega)
          exact rear _ (by rw [if_pos (by omega)])
    refine k_Mo_fits_4 _ _ _ _ _ _ _ _ ?_
    simp (disch := omega) only [↓w_nil, ↓w_ifne, true_and, and_true, true_implies, false_implies, not_true_eq_false, not_false_eq_true, Int.reduceEq, Int.reduceLT, Int.reduceLE, Int.reduceNeg, w_up1, w_up2, w_up3, w_tl1]
    repeat refine And.intro (by first | assumption | exact IsW.kt (by assumption) | omega | (unfold in32; omega) | (unfold in64; omega) | exact True.intro | exact Or.inl True.intro | exact Or.inr True.intro | rfl | exact Nat.le_of_ble_eq_true rfl) ?_
    try first | done | assumption | (unfold in32; omega) | (unfold in64; omega)
    refine k_Mo_fits_10 _ _ _ _ _ _ _ _ ?_
    simp (disch := omega) only [↓w_nil, ↓w_cons, ↓w_ald0, ↓w_cv0, true_and, and_true, true_implies, false_implies, not_true_eq_false, not_false_eq_true, Int.reduceEq, Int.reduceLT, Int.reduceLE, Int.reduceNeg, w_c80, w_c8I, w_c8L, w_c8R, w_up1, w_up2, w_up3]
    repeat refine And.intro (by first | assumption | exact IsW.kt (by assumption) | omega | (unfold in32; omega) | (unfold in64; omega) | exact True.intro | exact Or.inl True.intro | exact Or.inr True.intro | rfl | exact Nat.le_of_ble_eq_true rfl) ?_
    try first | done | assumption | (unfold in32; omega) | (unfold in64; omega)
    refine ⟨_, p_seen as1 hW fl1 tk, ?_⟩
    rintro r M2 ⟨rfl, as2, z18⟩
    have a01 := pb_c (AllF f fl T)
    have a32 := pb_32 (P := AllF f fl T)
    have start : ∀ b : Int, b = p_b (AllF f fl T) → mJ g y_Mo_fits 22 [.inr (.inr 319), cU, cU, cU, cU] [.inl b] M2 (cw_hide (fun r M' => FrJ f (fun T v => v = v_ft f fl T) M r M')) := by
      intro b hb
      refine k_Mo_fits_22 _ _ _ _ _ _ _ _ ?_
      simp (disch := omega) only [↓w_nil, ↓w_cons, ↓w_ist1, ↓w_ic, ↓w_ist2, ↓w_fall, true_and, and_true, true_implies, false_implies, not_true_eq_false, not_false_eq_true, Int.reduceEq, Int.reduceLT, Int.reduceLE, Int.reduceNeg, w_nlI, w_nlL, w_nlR, w_up1, w_up2, w_up3]
      repeat refine And.intro (by first | assumption | exact IsW.kt (by assumption) | omega | (unfold in32; omega) | (unfold in64; omega) | exact True.intro | exact Or.inl True.intro | exact Or.inr True.intro | rfl | exact Nat.le_of_ble_eq_true rfl) ?_
      try first | done | assumption | (unfold in32; omega) | (unfold in64; omega)
      exact goW 4 0 b M2 _ _ rfl hb as2 z18
    refine k_Mo_fits_14 _ _ _ _ _ _ _ _ ?_
    simp (disch := omega) only [↓w_nil, ↓w_ifeq, true_and, and_true, true_implies, false_implies, not_true_eq_false, not_false_eq_true, Int.reduceEq, Int.reduceLT, Int.reduceLE, Int.reduceNeg, w_up1, w_up2, w_up3, w_tl1]
    repeat refine And.intro (by first | assumption | exact IsW.kt (by assumption) | omega | (unfold in32; omega) | (unfold in64; omega) | exact True.intro | exact Or.inl True.intro | exact Or.inr True.intro | rfl | exact Nat.le_of_ble_eq_true rfl) ?_
    try first | done | assumption | (unfold in32; omega) | (unfold in64; omega)
    refine ⟨fun hz => ?_, fun hz => ?_⟩
    · refine k_Mo_fits_21 _ _ _ _ _ _ _ _ ?_
      simp (disch := omega) only [↓w_nil, ↓w_cons, ↓w_ic, ↓w_fall, true_and, and_true, true_implies, false_implies, not_true_eq_false, not_false_eq_true, Int.reduceEq, Int.reduceLT, Int.reduceLE, Int.reduceNeg, w_up1, w_up2, w_up3]
      exact start 0 hz.symm
    · refine k_Mo_fits_17 _ _ _ _ _ _ _ _ ?_
      simp (disch := omega) only [↓w_nil, ↓w_cons, ↓w_ic, ↓w_goto, true_and, and_true, true_implies, false_implies, not_true_eq_false, not_false_eq_true, Int.reduceEq, Int.reduceLT, Int.reduceLE, Int.reduceNeg, w_up1, w_up2, w_up3]
      exact start 1 (by omega)
