/-! Whole: copy, dropSign, isOne, isShort, asLong, compareSizes -/
theorem fr_cp {A : Int → Prop} {M M1 : cw_M} {a0 sp a dp n : Int} (h : cw_fr A M M1) (ha : A a) (hr : ∀ k, cw_rs a k = false) : cw_fr A M (cw_cp M1 a0 sp a dp n) := by
  refine ⟨fun b hb => ?_, fun b i hi => ?_⟩
  · rw [show cw_cp M1 a0 sp a dp n b = M1 b from if_neg (fun q => hb (by rw [q]; exact ha))]
    exact h.1 b hb
  · by_cases hba : b = a
    · subst hba
      rw [hr i] at hi
      cases hi
    · rw [show cw_cp M1 a0 sp a dp n b = M1 b from if_neg hba]
      exact h.2 _ _ hi
theorem w_cpne {M : cw_M} {a0 sp a dp n b : Int} (h : ¬ b = a) : cw_cp M a0 sp a dp n b = M b := if_neg h
theorem w_cpat {M : cw_M} {a0 sp a dp n k : Int} : cw_cp M a0 sp a dp n a k = if dp ≤ k ∧ k < dp + n then M a0 (sp + (k - dp)) else M a k := by
  rw [show cw_cp M a0 sp a dp n a = (fun k => if dp ≤ k ∧ k < dp + n then M a0 (sp + (k - dp)) else M a k) from if_pos rfl]
theorem p_Wh_copy {g : cw_G} {M : cw_M} {w o v : Int} (hS : Sh M) (hw : IsW w) (ho : IsW o) (hne : w ≠ o) (hne1 : w + 1 ≠ o) (hne2 : o + 1 ≠ w) (hv : RW M o v) :
    mC g y_Wh_copy [.inr (.inr w), .inr (.inr o)] M (fun r M' => r = none ∧ RW M' w v ∧ cw_fr (Aw w) M M') := by
  obtain ⟨k1, k2, k3, k4⟩ := id hw
  obtain ⟨q1, q2, q3, q4⟩ := id ho
  have hl := hw.limb hS
  have hlo := ho.limb hS
  obtain ⟨n, a1, a2, a3, a4, a5, a6⟩ := hv
  refine cw_C_of (L := [.inr (.inr w), .inr (.inr o)]) ok_Wh_copy (Nat.le_refl _) (Nat.le_of_ble_eq_true rfl) rfl ?_
  have e1 : cw_cp M (o + 1) 0 (w + 1) 0 n o = M o := w_cpne (by omega)
  have e2 : ∀ x : Int, cw_up (cw_cp M (o + 1) 0 (w + 1) 0 n) w 1 x o = M o := fun x => by rw [cw_up_ne (by omega)]; exact e1
  refine k_Wh_copy_0 _ _ _ _ _ _ _ _ ?_
  simp only [↓w_nil, ↓w_cons, ↓w_ald1, ↓w_gf2_0, ↓w_ic, ↓w_ald0, ↓w_gf0_1, ↓w_cp1, ↓w_pfI_1, ↓w_gf0_2, ↓w_pfI_2, ↓w_vret, true_and, and_true, true_implies, false_implies, not_true_eq_false, not_false_eq_true, Int.reduceEq, Int.reduceLT, Int.reduceLE, Int.reduceNeg, w_c80, w_c8I, w_c8L, w_c8R, hl, hlo, a2, a6, e1, e2, k2, q2]
  repeat refine And.intro (by first | assumption | exact IsW.kt (by assumption) | omega | (unfold in32; omega) | (unfold in64; omega) | trivial | rfl | exact Nat.le_of_ble_eq_true rfl) ?_
  try first | done | assumption | (unfold in32; omega) | (unfold in64; omega)
  refine ⟨⟨n, a1, ?_, ?_, ?_, ?_, ?_⟩, fr_up (fr_up (fr_cp fr_rf (Or.inr rfl) hw.rsl) (Or.inl rfl) hw.rs1) (Or.inl rfl) hw.rs2⟩
  · rw [w_up2 (by omega), w_up1]
  all_goals first | rw [cw_up_ne (show w + 1 ≠ w by omega), cw_up_ne (show w + 1 ≠ w by omega)] | skip
  · intro j hj
    rw [w_cpat, if_pos (by omega), show (0 : Int) + ((j : Int) - 0) = (j : Int) by omega]
    exact a3 j hj
  · intro h
    rw [w_cpat, if_pos (by omega), show (0 : Int) + ((n : Int) - 1 - 0) = (n : Int) - 1 by omega]
    exact a4 h
  · rw [← a5]
    refine mg_cg n fun j hj => ?_
    rw [w_cpat, if_pos (by omega), show (0 : Int) + ((j : Int) - 0) = (j : Int) by omega]
  · rw [w_up1]
theorem p_Wh_dropSign {g : cw_G} {M : cw_M} {w v : Int} (hw : IsW w) (hv : RW M w v) :
    mC g y_Wh_dropSign [.inr (.inr w)] M (fun r M' => r = none ∧ RW M' w (cw_ab v) ∧ cw_fr (Aw w) M M') := by
  obtain ⟨k1, k2, k3, k4⟩ := id hw
  obtain ⟨n, a1, a2, a3, a4, a5, a6⟩ := hv
  have hs : cw_ab (cw_sg v) = cw_sg (cw_ab v) ∧ in32 (cw_sg v) ∧ cw_ab (cw_ab v) = cw_ab v := by
    have := ab_nn v
    refine ⟨?_, ?_, ?_⟩
    · unfold cw_ab cw_sg; split <;> split <;> (try split) <;> (try split) <;> (try split) <;> omega
    · unfold in32 cw_sg; split <;> (try split) <;> omega
    · rw [show cw_ab (cw_ab v) = (if 0 ≤ cw_ab v then cw_ab v else -(cw_ab v)) from rfl, if_pos this]
  refine cw_C_of (L := [.inr (.inr w)]) ok_Wh_dropSign (Nat.le_refl _) (Nat.le_of_ble_eq_true rfl) rfl ?_
  refine k_Wh_dropSign_0 _ _ _ _ _ _ _ _ ?_
  simp only [↓w_nil, ↓w_cons, ↓w_ald0, ↓w_gf0_2, ↓w_absI, ↓w_pfI_2, ↓w_vret, true_and, and_true, true_implies, false_implies, not_true_eq_false, not_false_eq_true, Int.reduceEq, Int.reduceLT, Int.reduceLE, Int.reduceNeg, w_c80, w_c8I, w_c8L, w_c8R, a6]
  obtain ⟨s1, s2, s3⟩ := hs
  repeat refine And.intro (by first | assumption | exact IsW.kt (by assumption) | omega | (unfold in32; omega) | (unfold in64; omega) | trivial | rfl | exact Nat.le_of_ble_eq_true rfl) ?_
  try first | done | assumption | (unfold in32; omega) | (unfold in64; omega)
  refine ⟨⟨n, a1, ?_, ?_, ?_, ?_, ?_⟩, fr_up fr_rf (Or.inl rfl) hw.rs2⟩
  · rw [w_up2 (by omega)]; exact a2
  · rw [cw_up_ne (by omega)]; exact a3
  · rw [cw_up_ne (by omega)]; exact a4
  · rw [cw_up_ne (by omega), s3]; exact a5
  · rw [w_up1]; exact s1
theorem p_Wh_isOne {g : cw_G} {M : cw_M} {w v : Int} (hS : Sh M) (hw : IsW w) (hv : RW M w v) :
    mC g y_Wh_isOne [.inr (.inr w)] M (fun r M' => r = some (.inl (if v = 1 then 1 else 0)) ∧ M' = M) := by
  obtain ⟨k1, k2, k3, k4⟩ := id hw
  have hl := hw.limb hS
  obtain ⟨n, a1, a2, a3, a4, a5, a6⟩ := hv
  have no : v ≠ 1 → mJ g y_Wh_isOne 31 [.inr (.inr w)] [] M (fun r M' => r = some (.inl (if v = 1 then 1 else 0)) ∧ M' = M) := by
    intro h
    refine k_Wh_isOne_31 _ _ _ _ _ _ _ _ ?_
    simp only [↓w_nil, ↓w_cons, ↓w_ic, ↓w_fall, true_and, and_true, true_implies, false_implies, not_true_eq_false, not_false_eq_true, Int.reduceEq, Int.reduceLT, Int.reduceLE, Int.reduceNeg]
    refine k_Wh_isOne_32 _ _ _ _ _ _ _ _ ?_
    simp only [↓w_nil, ↓w_zret, true_and, and_true, true_implies, false_implies, not_true_eq_false, not_false_eq_true, Int.reduceEq, Int.reduceLT, Int.reduceLE, Int.reduceNeg]
    repeat refine And.intro (by first | assumption | exact IsW.kt (by assumption) | omega | (unfold in32; omega) | (unfold in64; omega) | trivial | rfl | exact Nat.le_of_ble_eq_true rfl) ?_
    try first | done | assumption | (unfold in32; omega) | (unfold in64; omega)
    rw [if_neg h]
  have one : v = 1 → n = 1 ∧ M (w + 1) 0 = 1 := by
    intro h
    subst h
    have h1 : n ≤ 1 := RW.nle a3 a4 a5 (by show (1 : Int) < 1073741824 ^ 1; decide)
    by_cases q : n = 0
    · subst q
      rw [mg_0] at a5
      exact absurd a5 (by decide)
    · have q1 : n = 1 := by omega
      subst q1
      refine ⟨rfl, ?_⟩
      rw [mg_s, mg_0] at a5
      have e : cw_ab 1 = 1 := rfl
      have e2 : (1073741824 : Int) ^ 0 = 1 := rfl
      rw [e, e2] at a5
      show M (w + 1) ((0 : Nat) : Int) = 1
      omega
  refine cw_C_of (L := [.inr (.inr w)]) ok_Wh_isOne (Nat.le_refl _) (Nat.le_of_ble_eq_true rfl) rfl ?_
  refine k_Wh_isOne_0 _ _ _ _ _ _ _ _ ?_
  simp only [↓w_nil, ↓w_cons, ↓w_ald0, ↓w_gf0_1, ↓w_ic, ↓w_icne, true_and, and_true, true_implies, false_implies, not_true_eq_false, not_false_eq_true, Int.reduceEq, Int.reduceLT, Int.reduceLE, Int.reduceNeg, a2]
  repeat refine And.intro (by first | assumption | exact IsW.kt (by assumption) | omega | (unfold in32; omega) | (unfold in64; omega) | trivial | rfl | exact Nat.le_of_ble_eq_true rfl) ?_
  try first | done | assumption | (unfold in32; omega) | (unfold in64; omega)
  refine ⟨fun h => no fun h1 => h (by have := (one h1).1; omega), fun h => ?_⟩
  have hn1 : n = 1 := by omega
  subst hn1
  have d0 := a3 0 (by omega)
  rw [mg_s, mg_0] at a5
  have e2 : (1073741824 : Int) ^ 0 = 1 := rfl
  rw [e2] at a5
  have d0' : 0 ≤ M (w + 1) 0 ∧ M (w + 1) 0 < 1073741824 := d0
  have a5' : 0 + M (w + 1) 0 * 1 = cw_ab v := a5
  refine k_Wh_isOne_8 _ _ _ _ _ _ _ _ ?_
  simp only [↓w_nil, ↓w_cons, ↓w_ald0, ↓w_gf2_0, ↓w_ic, ↓w_lald, ↓w_lc, ↓w_lcne, true_and, and_true, true_implies, false_implies, not_true_eq_false, not_false_eq_true, Int.reduceEq, Int.reduceLT, Int.reduceLE, Int.reduceNeg, hl, k2]
  repeat refine And.intro (by first | assumption | exact IsW.kt (by assumption) | omega | (unfold in32; omega) | (unfold in64; omega) | trivial | rfl | exact Nat.le_of_ble_eq_true rfl) ?_
  try first | done | assumption | (unfold in32; omega) | (unfold in64; omega)
  refine ⟨fun h => no fun h1 => h (one h1).2, fun h => ?_⟩
  have hv1 : v = 1 ∨ v = -1 := by unfold cw_ab at a5'; split at a5' <;> omega
  refine k_Wh_isOne_19 _ _ _ _ _ _ _ _ ?_
  simp only [↓w_nil, ↓w_cons, ↓w_ald0, ↓w_gf0_2, ↓w_ic, ↓w_icne, true_and, and_true, true_implies, false_implies, not_true_eq_false, not_false_eq_true, Int.reduceEq, Int.reduceLT, Int.reduceLE, Int.reduceNeg, a6]
  have s32 : in32 (cw_sg v) := by unfold in32 cw_sg; split <;> (try split) <;> omega
  repeat refine And.intro (by first | assumption | exact IsW.kt (by assumption) | omega | (unfold in32; omega) | (unfold in64; omega) | trivial | rfl | exact Nat.le_of_ble_eq_true rfl) ?_
  try first | done | assumption | (unfold in32; omega) | (unfold in64; omega)
  refine ⟨fun h => no fun h1 => h (by rw [h1]; rfl), fun h => ?_⟩
  have hv2 : v = 1 := by
    rcases hv1 with h1 | h1
    · exact h1
    · rw [h1] at h; exact absurd h (by decide)
  refine k_Wh_isOne_27 _ _ _ _ _ _ _ _ ?_
  simp only [↓w_nil, ↓w_cons, ↓w_ic, ↓w_goto, true_and, and_true, true_implies, false_implies, not_true_eq_false, not_false_eq_true, Int.reduceEq, Int.reduceLT, Int.reduceLE, Int.reduceNeg]
  refine k_Wh_isOne_32 _ _ _ _ _ _ _ _ ?_
  simp only [↓w_nil, ↓w_zret, true_and, and_true, true_implies, false_implies, not_true_eq_false, not_false_eq_true, Int.reduceEq, Int.reduceLT, Int.reduceLE, Int.reduceNeg]
  repeat refine And.intro (by first | assumption | exact IsW.kt (by assumption) | omega | (unfold in32; omega) | (unfold in64; omega) | trivial | rfl | exact Nat.le_of_ble_eq_true rfl) ?_
  try first | done | assumption | (unfold in32; omega) | (unfold in64; omega)
  rw [if_pos hv2]
theorem p_Wh_isShort {g : cw_G} {M : cw_M} {w v : Int} (hw : IsW w) (hv : RW M w v) :
    mC g y_Wh_isShort [.inr (.inr w)] M (fun r M' => r = some (.inl (if cw_ab v < 1152921504606846976 then 1 else 0)) ∧ M' = M) := by
  obtain ⟨k1, k2, k3, k4⟩ := id hw
  obtain ⟨n, a1, a2, a3, a4, a5, a6⟩ := hv
  have e60 : (1073741824 : Int) ^ 2 = 1152921504606846976 := by decide
  refine cw_C_of (L := [.inr (.inr w)]) ok_Wh_isShort (Nat.le_refl _) (Nat.le_of_ble_eq_true rfl) rfl ?_
  refine k_Wh_isShort_0 _ _ _ _ _ _ _ _ ?_
  simp only [↓w_nil, ↓w_cons, ↓w_ald0, ↓w_gf0_1, ↓w_ic, ↓w_icgt, true_and, and_true, true_implies, false_implies, not_true_eq_false, not_false_eq_true, Int.reduceEq, Int.reduceLT, Int.reduceLE, Int.reduceNeg, a2]
  repeat refine And.intro (by first | assumption | exact IsW.kt (by assumption) | omega | (unfold in32; omega) | (unfold in64; omega) | trivial | rfl | exact Nat.le_of_ble_eq_true rfl) ?_
  try first | done | assumption | (unfold in32; omega) | (unfold in64; omega)
  refine ⟨fun h => ?_, fun h => ?_⟩
  · refine k_Wh_isShort_12 _ _ _ _ _ _ _ _ ?_
    simp only [↓w_nil, ↓w_cons, ↓w_ic, ↓w_fall, true_and, and_true, true_implies, false_implies, not_true_eq_false, not_false_eq_true, Int.reduceEq, Int.reduceLT, Int.reduceLE, Int.reduceNeg]
    refine k_Wh_isShort_13 _ _ _ _ _ _ _ _ ?_
    simp only [↓w_nil, ↓w_zret, true_and, and_true, true_implies, false_implies, not_true_eq_false, not_false_eq_true, Int.reduceEq, Int.reduceLT, Int.reduceLE, Int.reduceNeg]
    repeat refine And.intro (by first | assumption | exact IsW.kt (by assumption) | omega | (unfold in32; omega) | (unfold in64; omega) | trivial | rfl | exact Nat.le_of_ble_eq_true rfl) ?_
    try first | done | assumption | (unfold in32; omega) | (unfold in64; omega)
    rw [if_neg]
    intro q
    have := RW.nle a3 a4 a5 (i := 2) (by rw [e60]; exact q)
    omega
  · refine k_Wh_isShort_8 _ _ _ _ _ _ _ _ ?_
    simp only [↓w_nil, ↓w_cons, ↓w_ic, ↓w_goto, true_and, and_true, true_implies, false_implies, not_true_eq_false, not_false_eq_true, Int.reduceEq, Int.reduceLT, Int.reduceLE, Int.reduceNeg]
    refine k_Wh_isShort_13 _ _ _ _ _ _ _ _ ?_
    simp only [↓w_nil, ↓w_zret, true_and, and_true, true_implies, false_implies, not_true_eq_false, not_false_eq_true, Int.reduceEq, Int.reduceLT, Int.reduceLE, Int.reduceNeg]
    repeat refine And.intro (by first | assumption | exact IsW.kt (by assumption) | omega | (unfold in32; omega) | (unfold in64; omega) | trivial | rfl | exact Nat.le_of_ble_eq_true rfl) ?_
    try first | done | assumption | (unfold in32; omega) | (unfold in64; omega)
    rw [if_pos]
    have h1 := RW.lt a3 a5
    have h2 := bt_mono (show n ≤ 2 by omega)
    omega
theorem p_Wh_asLong {g : cw_G} {M : cw_M} {w v : Int} (hS : Sh M) (hw : IsW w) (hv : RW M w v) (hs : cw_ab v < 1152921504606846976) :
    mC g y_Wh_asLong [.inr (.inr w)] M (fun r M' => r = some (.inr (.inl v)) ∧ M' = M) := by
  obtain ⟨k1, k2, k3, k4⟩ := id hw
  have hl := hw.limb hS
  obtain ⟨n, a1, a2, a3, a4, a5, a6⟩ := hv
  have e60 : (1073741824 : Int) ^ 2 = 1152921504606846976 := by decide
  have hn := RW.nle a3 a4 a5 (i := 2) (by rw [e60]; exact hs)
  have s32 : in32 (cw_sg v) := by unfold in32 cw_sg; split <;> (try split) <;> omega
  have sv : cw_sg v * cw_ab v = v := by unfold cw_sg cw_ab; split <;> (try split) <;> (try split) <;> omega
  have p30 : (2 : Int) ^ (30 : Int).toNat = 1073741824 := by decide
  have fin : ∀ x : Int, x = cw_ab v → mJ g y_Wh_asLong 38 [.inr (.inr w), .inr (.inl x), cU] [] M (fun r M' => r = some (.inr (.inl v)) ∧ M' = M) := by
    intro x hx
    subst hx
    refine k_Wh_asLong_38 _ _ _ _ _ _ _ _ ?_
    simp only [↓w_nil, ↓w_cons, ↓w_ald0, ↓w_gf0_2, ↓w_i2l, ↓w_lld1, ↓w_lmul, ↓w_lret, true_and, and_true, true_implies, false_implies, not_true_eq_false, not_false_eq_true, Int.reduceEq, Int.reduceLT, Int.reduceLE, Int.reduceNeg, a6, sv]
    repeat refine And.intro (by first | assumption | exact IsW.kt (by assumption) | omega | (unfold in32; omega) | (unfold in64; omega) | trivial | rfl | exact Nat.le_of_ble_eq_true rfl) ?_
    try first | done | assumption | (unfold in32; omega) | (unfold in64; omega)
  have l0 : n = 0 → cw_ab v = 0 := fun h => by subst h; rw [← a5]; rfl
  have l1 : n = 1 → cw_ab v = M (w + 1) 0 := fun h => by subst h; rw [← a5]; show 0 + M (w + 1) 0 * 1 = _; omega
  have l2 : n = 2 → cw_ab v = M (w + 1) 0 + M (w + 1) 1 * 1073741824 := fun h => by subst h; rw [← a5]; show 0 + M (w + 1) 0 * 1 + M (w + 1) 1 * 1073741824 = _; omega
  have mid : ∀ x : Int, x = (if n = 0 then 0 else M (w + 1) 0) → mJ g y_Wh_asLong 17 [.inr (.inr w), cU, cU] [.inr (.inl x)] M (fun r M' => r = some (.inr (.inl v)) ∧ M' = M) := by
    intro x hx
    refine k_Wh_asLong_17 _ _ _ _ _ _ _ _ ?_
    simp only [↓w_nil, ↓w_cons, ↓w_lst1, ↓w_ald0, ↓w_gf0_1, ↓w_ic, ↓w_icle, true_and, and_true, true_implies, false_implies, not_true_eq_false, not_false_eq_true, Int.reduceEq, Int.reduceLT, Int.reduceLE, Int.reduceNeg, w_nlI, w_nlL, w_nlR, a2]
    repeat refine And.intro (by first | assumption | exact IsW.kt (by assumption) | omega | (unfold in32; omega) | (unfold in64; omega) | trivial | rfl | exact Nat.le_of_ble_eq_true rfl) ?_
    try first | done | assumption | (unfold in32; omega) | (unfold in64; omega)
    refine ⟨fun h => ?_, fun h => ?_⟩
    · refine fin x ?_
      by_cases q : n = 0
      · rw [hx, if_pos q, l0 q]
      · rw [hx, if_neg q, l1 (by omega)]
    · have q : n = 2 := by omega
      rw [if_neg (by omega)] at hx
      refine k_Wh_asLong_26 _ _ _ _ _ _ _ _ ?_
      simp only [↓w_nil, ↓w_cons, ↓w_lld1, ↓w_ald0, ↓w_gf2_0, ↓w_ic, ↓w_lald, ↓w_lshl, ↓w_ladd, ↓w_lst1, ↓w_fall, true_and, and_true, true_implies, false_implies, not_true_eq_false, not_false_eq_true, Int.reduceEq, Int.reduceLT, Int.reduceLE, Int.reduceNeg, w_nlI, w_nlL, w_nlR, hl, k2, p30]
      repeat refine And.intro (by first | assumption | exact IsW.kt (by assumption) | omega | (unfold in32; omega) | (unfold in64; omega) | trivial | rfl | exact Nat.le_of_ble_eq_true rfl) ?_
      try first | done | assumption | (unfold in32; omega) | (unfold in64; omega)
      exact fin _ (by rw [hx, l2 q])
  refine cw_C_of (L := [.inr (.inr w), cU, cU]) ok_Wh_asLong (Nat.le_refl _) (Nat.le_of_ble_eq_true rfl) rfl ?_
  refine k_Wh_asLong_0 _ _ _ _ _ _ _ _ ?_
  simp only [↓w_nil, ↓w_cons, ↓w_ald0, ↓w_gf0_1, ↓w_ifle, true_and, and_true, true_implies, false_implies, not_true_eq_false, not_false_eq_true, Int.reduceEq, Int.reduceLT, Int.reduceLE, Int.reduceNeg, a2]
  repeat refine And.intro (by first | assumption | exact IsW.kt (by assumption) | omega | (unfold in32; omega) | (unfold in64; omega) | trivial | rfl | exact Nat.le_of_ble_eq_true rfl) ?_
  try first | done | assumption | (unfold in32; omega) | (unfold in64; omega)
  refine ⟨fun h => ?_, fun h => ?_⟩
  · refine k_Wh_asLong_16 _ _ _ _ _ _ _ _ ?_
    simp only [↓w_nil, ↓w_cons, ↓w_lc, ↓w_fall, true_and, and_true, true_implies, false_implies, not_true_eq_false, not_false_eq_true, Int.reduceEq, Int.reduceLT, Int.reduceLE, Int.reduceNeg]
    exact mid 0 (by rw [if_pos (by omega)])
  · refine k_Wh_asLong_7 _ _ _ _ _ _ _ _ ?_
    simp only [↓w_nil, ↓w_cons, ↓w_ald0, ↓w_gf2_0, ↓w_ic, ↓w_lald, ↓w_goto, true_and, and_true, true_implies, false_implies, not_true_eq_false, not_false_eq_true, Int.reduceEq, Int.reduceLT, Int.reduceLE, Int.reduceNeg, hl, k2]
    repeat refine And.intro (by first | assumption | exact IsW.kt (by assumption) | omega | (unfold in32; omega) | (unfold in64; omega) | trivial | rfl | exact Nat.le_of_ble_eq_true rfl) ?_
    try first | done | assumption | (unfold in32; omega) | (unfold in64; omega)
    exact mid _ (by rw [if_neg (by omega)])
theorem p_Wh_compareSizes {g : cw_G} {M : cw_M} {a b va vb : Int} (hS : Sh M) (ha : IsW a) (hb : IsW b) (hva : RW M a va) (hvb : RW M b vb) :
    mC g y_Wh_compareSizes [.inr (.inr a), .inr (.inr b)] M (fun r M' => r = some (.inl (cw_cm (cw_ab va) (cw_ab vb))) ∧ M' = M) := by
  obtain ⟨k1, k2, k3, k4⟩ := id ha
  obtain ⟨q1, q2, q3, q4⟩ := id hb
  have hla := ha.limb hS
  have hlb := hb.limb hS
  obtain ⟨n, a1, a2, a3, a4, a5, a6⟩ := hva
  obtain ⟨m, b1, b2, b3, b4, b5, b6⟩ := hvb
  refine cw_C_of (L := [.inr (.inr a), .inr (.inr b), cU]) ok_Wh_compareSizes (Nat.le_refl _) (Nat.le_of_ble_eq_true rfl) rfl ?_
  refine k_Wh_compareSizes_0 _ _ _ _ _ _ _ _ ?_
  simp only [↓w_nil, ↓w_cons, ↓w_ald0, ↓w_gf0_1, ↓w_ald1, ↓w_iceq, true_and, and_true, true_implies, false_implies, not_true_eq_false, not_false_eq_true, Int.reduceEq, Int.reduceLT, Int.reduceLE, Int.reduceNeg, a2, b2]
  repeat refine And.intro (by first | assumption | exact IsW.kt (by assumption) | omega | (unfold in32; omega) | (unfold in64; omega) | trivial | rfl | exact Nat.le_of_ble_eq_true rfl) ?_
  try first | done | assumption | (unfold in32; omega) | (unfold in64; omega)
  refine ⟨fun h => ?_, fun h => ?_⟩
  · have hnm : m = n := by omega
    subst hnm
    have loop : ∀ (Q : Option cw_V → cw_M → Prop), Q (some (.inl (cw_cm (cw_ab va) (cw_ab vb)))) M → ∀ i : Nat, i ≤ m → (∀ j : Nat, i ≤ j → j < m → M (a + 1) j = M (b + 1) j) →
        mJ g y_Wh_compareSizes 35 [.inr (.inr a), .inr (.inr b), .inl ((i : Int) - 1)] [] M Q := by
      intro Q hq i
      have dif : ∀ k : Nat, k ≤ m → (∀ j : Nat, k ≤ j → j < m → M (a + 1) j = M (b + 1) j) → cw_ab va - cw_mg (M (a + 1)) k = cw_ab vb - cw_mg (M (b + 1)) k := by
        intro k hk hj
        rw [← a5, ← b5]
        clear a5 b5 a4 b4 a2 b2 a3 b3 b1 a1 h
        induction m with
        | zero => have : k = 0 := by omega
                  subst this; simp [mg_0]
        | succ m ih =>
          by_cases q : k = m + 1
          · subst q; omega
          · have := ih (by omega) (fun j h1 h2 => hj j h1 (by omega))
            have e := hj m (by omega) (by omega)
            rw [mg_s, mg_s, e]
            omega
      induction i with
      | zero =>
        intro hi hj
        refine k_Wh_compareSizes_35 _ _ _ _ _ _ _ _ ?_
        simp only [↓w_nil, ↓w_cons, ↓w_ild2, ↓w_iflt, true_and, and_true, true_implies, false_implies, not_true_eq_false, not_false_eq_true, Int.reduceEq, Int.reduceLT, Int.reduceLE, Int.reduceNeg]
        repeat refine And.intro (by first | assumption | exact IsW.kt (by assumption) | omega | (unfold in32; omega) | (unfold in64; omega) | trivial | rfl | exact Nat.le_of_ble_eq_true rfl) ?_
        try first | done | assumption | (unfold in32; omega) | (unfold in64; omega)
        refine ⟨fun _ => ?_, fun h => absurd h (by omega)⟩
        refine k_Wh_compareSizes_83 _ _ _ _ _ _ _ _ ?_
        simp only [↓w_nil, ↓w_cons, ↓w_ic, ↓w_iret, true_and, and_true, true_implies, false_implies, not_true_eq_false, not_false_eq_true, Int.reduceEq, Int.reduceLT, Int.reduceLE, Int.reduceNeg]
        have e := dif 0 (by omega) hj
        rw [mg_0, mg_0] at e
        have e2 : cw_cm (cw_ab va) (cw_ab vb) = 0 := by unfold cw_cm; rw [if_neg (by omega), if_pos (by omega)]
        rw [e2] at hq
        exact hq
      | succ i ih =>
        intro hi hj
        have da := a3 i (by omega)
        have db := b3 i (by omega)
        have e1 : ((i + 1 : Nat) : Int) - 1 = (i : Int) := by omega
        rw [e1]
        refine k_Wh_compareSizes_35 _ _ _ _ _ _ _ _ ?_
        simp only [↓w_nil, ↓w_cons, ↓w_ild2, ↓w_iflt, true_and, and_true, true_implies, false_implies, not_true_eq_false, not_false_eq_true, Int.reduceEq, Int.reduceLT, Int.reduceLE, Int.reduceNeg]
        repeat refine And.intro (by first | assumption | exact IsW.kt (by assumption) | omega | (unfold in32; omega) | (unfold in64; omega) | trivial | rfl | exact Nat.le_of_ble_eq_true rfl) ?_
        try first | done | assumption | (unfold in32; omega) | (unfold in64; omega)
        intro _
        refine k_Wh_compareSizes_39 _ _ _ _ _ _ _ _ ?_
        simp only [↓w_nil, ↓w_cons, ↓w_ald0, ↓w_gf2_0, ↓w_ild2, ↓w_lald, ↓w_ald1, ↓w_lceq, true_and, and_true, true_implies, false_implies, not_true_eq_false, not_false_eq_true, Int.reduceEq, Int.reduceLT, Int.reduceLE, Int.reduceNeg, hla, hlb, k2, q2]
        repeat refine And.intro (by first | assumption | exact IsW.kt (by assumption) | omega | (unfold in32; omega) | (unfold in64; omega) | trivial | rfl | exact Nat.le_of_ble_eq_true rfl) ?_
        try first | done | assumption | (unfold in32; omega) | (unfold in64; omega)
        have hd := dif (i + 1) (by omega) hj
        rw [mg_s, mg_s] at hd
        have l1 := mg_lt i (dg_le a3 (by omega))
        have l2 := mg_lt i (dg_le b3 (by omega))
        have hp := bt_pos i
        refine ⟨fun h => ?_, fun h => ?_⟩
        · refine k_Wh_compareSizes_77 _ _ _ _ _ _ _ _ ?_
          simp only [↓w_nil, ↓w_cons, ↓w_inc2, ↓w_goto, true_and, and_true, true_implies, false_implies, not_true_eq_false, not_false_eq_true, Int.reduceEq, Int.reduceLT, Int.reduceLE, Int.reduceNeg, w_nlI, w_nlL, w_nlR]
          refine ih (by omega) (fun j h1 h2 => ?_)
          by_cases q : j = i
          · rw [q]; exact h
          · exact hj j (by omega) h2
        · refine k_Wh_compareSizes_55 _ _ _ _ _ _ _ _ ?_
          simp only [↓w_nil, ↓w_cons, ↓w_ald0, ↓w_gf2_0, ↓w_ild2, ↓w_lald, ↓w_ald1, ↓w_lcge, true_and, and_true, true_implies, false_implies, not_true_eq_false, not_false_eq_true, Int.reduceEq, Int.reduceLT, Int.reduceLE, Int.reduceNeg, hla, hlb, k2, q2]
          repeat refine And.intro (by first | assumption | exact IsW.kt (by assumption) | omega | (unfold in32; omega) | (unfold in64; omega) | trivial | rfl | exact Nat.le_of_ble_eq_true rfl) ?_
          try first | done | assumption | (unfold in32; omega) | (unfold in64; omega)
          generalize (1073741824 : Int) ^ i = p at *
          refine ⟨fun h2 => ?_, fun h2 => ?_⟩
          · refine k_Wh_compareSizes_75 _ _ _ _ _ _ _ _ ?_
            simp only [↓w_nil, ↓w_cons, ↓w_ic, ↓w_fall, true_and, and_true, true_implies, false_implies, not_true_eq_false, not_false_eq_true, Int.reduceEq, Int.reduceLT, Int.reduceLE, Int.reduceNeg]
            refine k_Wh_compareSizes_76 _ _ _ _ _ _ _ _ ?_
            simp only [↓w_nil, ↓w_iret, true_and, and_true, true_implies, false_implies, not_true_eq_false, not_false_eq_true, Int.reduceEq, Int.reduceLT, Int.reduceLE, Int.reduceNeg]
            have e3 : (M (b + 1) i + 1) * p ≤ M (a + 1) i * p := Int.mul_le_mul_of_nonneg_right (by omega) (by omega)
            rw [Int.add_mul] at e3
            have e2 : cw_cm (cw_ab va) (cw_ab vb) = 1 := by unfold cw_cm; rw [if_pos (by omega)]
            rw [e2] at hq
            exact hq
          · refine k_Wh_compareSizes_71 _ _ _ _ _ _ _ _ ?_
            simp only [↓w_nil, ↓w_cons, ↓w_ic, ↓w_goto, true_and, and_true, true_implies, false_implies, not_true_eq_false, not_false_eq_true, Int.reduceEq, Int.reduceLT, Int.reduceLE, Int.reduceNeg]
            refine k_Wh_compareSizes_76 _ _ _ _ _ _ _ _ ?_
            simp only [↓w_nil, ↓w_iret, true_and, and_true, true_implies, false_implies, not_true_eq_false, not_false_eq_true, Int.reduceEq, Int.reduceLT, Int.reduceLE, Int.reduceNeg]
            have e3 : (M (a + 1) i + 1) * p ≤ M (b + 1) i * p := Int.mul_le_mul_of_nonneg_right (by omega) (by omega)
            rw [Int.add_mul] at e3
            have e2 : cw_cm (cw_ab va) (cw_ab vb) = -1 := by unfold cw_cm; rw [if_neg (by omega), if_neg (by omega)]
            rw [e2] at hq
            exact hq
    refine k_Wh_compareSizes_28 _ _ _ _ _ _ _ _ ?_
    simp only [↓w_nil, ↓w_cons, ↓w_ald0, ↓w_gf0_1, ↓w_ic, ↓w_isub, ↓w_ist2, ↓w_fall, true_and, and_true, true_implies, false_implies, not_true_eq_false, not_false_eq_true, Int.reduceEq, Int.reduceLT, Int.reduceLE, Int.reduceNeg, w_nlI, w_nlL, w_nlR, a2]
    repeat refine And.intro (by first | assumption | exact IsW.kt (by assumption) | omega | (unfold in32; omega) | (unfold in64; omega) | trivial | rfl | exact Nat.le_of_ble_eq_true rfl) ?_
    try first | done | assumption | (unfold in32; omega) | (unfold in64; omega)
    exact loop _ ⟨rfl, rfl⟩ m (Nat.le_refl _) (fun j h1 h2 => by omega)
  · refine k_Wh_compareSizes_11 _ _ _ _ _ _ _ _ ?_
    simp only [↓w_nil, ↓w_cons, ↓w_ald0, ↓w_gf0_1, ↓w_ald1, ↓w_icge, true_and, and_true, true_implies, false_implies, not_true_eq_false, not_false_eq_true, Int.reduceEq, Int.reduceLT, Int.reduceLE, Int.reduceNeg, a2, b2]
    repeat refine And.intro (by first | assumption | exact IsW.kt (by assumption) | omega | (unfold in32; omega) | (unfold in64; omega) | trivial | rfl | exact Nat.le_of_ble_eq_true rfl) ?_
    try first | done | assumption | (unfold in32; omega) | (unfold in64; omega)
    refine ⟨fun h2 => ?_, fun h2 => ?_⟩
    · refine k_Wh_compareSizes_26 _ _ _ _ _ _ _ _ ?_
      simp only [↓w_nil, ↓w_cons, ↓w_ic, ↓w_fall, true_and, and_true, true_implies, false_implies, not_true_eq_false, not_false_eq_true, Int.reduceEq, Int.reduceLT, Int.reduceLE, Int.reduceNeg]
      refine k_Wh_compareSizes_27 _ _ _ _ _ _ _ _ ?_
      simp only [↓w_nil, ↓w_iret, true_and, and_true, true_implies, false_implies, not_true_eq_false, not_false_eq_true, Int.reduceEq, Int.reduceLT, Int.reduceLE, Int.reduceNeg]
      obtain ⟨n', rfl⟩ : ∃ n', n = n' + 1 := ⟨n - 1, by omega⟩
      have e1 := RW.ge a3 (a4 (by omega)) a5
      have e2 := RW.lt b3 b5
      have e3 := bt_mono (show m ≤ n' by omega)
      have e4 : cw_cm (cw_ab va) (cw_ab vb) = 1 := by unfold cw_cm; rw [if_pos (by omega)]
      rw [e4]
    · refine k_Wh_compareSizes_22 _ _ _ _ _ _ _ _ ?_
      simp only [↓w_nil, ↓w_cons, ↓w_ic, ↓w_goto, true_and, and_true, true_implies, false_implies, not_true_eq_false, not_false_eq_true, Int.reduceEq, Int.reduceLT, Int.reduceLE, Int.reduceNeg]
      refine k_Wh_compareSizes_27 _ _ _ _ _ _ _ _ ?_
      simp only [↓w_nil, ↓w_iret, true_and, and_true, true_implies, false_implies, not_true_eq_false, not_false_eq_true, Int.reduceEq, Int.reduceLT, Int.reduceLE, Int.reduceNeg]
      obtain ⟨m', rfl⟩ : ∃ m', m = m' + 1 := ⟨m - 1, by omega⟩
      have e1 := RW.ge b3 (b4 (by omega)) b5
      have e2 := RW.lt a3 a5
      have e3 := bt_mono (show n ≤ m' by omega)
      have e4 : cw_cm (cw_ab va) (cw_ab vb) = -1 := by unfold cw_cm; rw [if_neg (by omega), if_neg (by omega)]
      rw [e4]
