/-! the reference's small questions -/
theorem m_k4 : cw_kt cw_NX 324 = (20, 402) := by decide +kernel
theorem Sh.d4 {M : cw_M} (h : Sh M) : M 319 4 = 324 := (h _ _ (by decide +kernel)).trans (by decide +kernel)
theorem p_Mo_in {g : cw_G} {M : cw_M} {v lo hi : Int} (hv : in64 v) (hl : in64 lo) (hh : in64 hi) :
    mC g y_Mo_in [.inr (.inl v), .inr (.inl lo), .inr (.inl hi)] M (fun q M' => q = some (.inl (if lo ≤ v ∧ v ≤ hi then 1 else 0)) ∧ M' = M) := by
  refine cw_C_of (L := [.inr (.inl v), cU, .inr (.inl lo), cU, .inr (.inl hi), cU]) ok_Mo_in (Nat.le_refl _) (Nat.le_of_ble_eq_true rfl) rfl ?_
  refine k_Mo_in_0 _ _ _ _ _ _ _ _ ?_
  simp only [↓w_nil, ↓w_cons, ↓w_lld0, ↓w_lld2, ↓w_lclt, true_and, and_true, true_implies, false_implies, not_true_eq_false, not_false_eq_true, Int.reduceEq, Int.reduceLT, Int.reduceLE, Int.reduceNeg]
  repeat refine And.intro (by first | assumption | exact IsW.kt (by assumption) | omega | (unfold in32; omega) | (unfold in64; omega) | exact True.intro | exact Or.inl True.intro | rfl | exact Nat.le_of_ble_eq_true rfl) ?_
  try first | done | assumption | (unfold in32; omega) | (unfold in64; omega)
  refine ⟨fun h => ?_, fun h => ?_⟩
  · refine k_Mo_in_17 _ _ _ _ _ _ _ _ ?_
    simp only [↓w_nil, ↓w_cons, ↓w_ic, ↓w_fall, true_and, and_true, true_implies, false_implies, not_true_eq_false, not_false_eq_true, Int.reduceEq, Int.reduceLT, Int.reduceLE, Int.reduceNeg]
    refine k_Mo_in_18 _ _ _ _ _ _ _ _ ?_
    simp only [↓w_nil, ↓w_zret, true_and, and_true, true_implies, false_implies, not_true_eq_false, not_false_eq_true, Int.reduceEq, Int.reduceLT, Int.reduceLE, Int.reduceNeg]
    repeat refine And.intro (by first | assumption | exact IsW.kt (by assumption) | omega | (unfold in32; omega) | (unfold in64; omega) | exact True.intro | exact Or.inl True.intro | rfl | exact Nat.le_of_ble_eq_true rfl) ?_
    try first | done | assumption | (unfold in32; omega) | (unfold in64; omega)
    rw [if_neg (by omega)]
  · refine k_Mo_in_6 _ _ _ _ _ _ _ _ ?_
    simp only [↓w_nil, ↓w_cons, ↓w_lld0, ↓w_lld4, ↓w_lcgt, true_and, and_true, true_implies, false_implies, not_true_eq_false, not_false_eq_true, Int.reduceEq, Int.reduceLT, Int.reduceLE, Int.reduceNeg]
    repeat refine And.intro (by first | assumption | exact IsW.kt (by assumption) | omega | (unfold in32; omega) | (unfold in64; omega) | exact True.intro | exact Or.inl True.intro | rfl | exact Nat.le_of_ble_eq_true rfl) ?_
    try first | done | assumption | (unfold in32; omega) | (unfold in64; omega)
    refine ⟨fun h2 => ?_, fun h2 => ?_⟩
    · refine k_Mo_in_17 _ _ _ _ _ _ _ _ ?_
      simp only [↓w_nil, ↓w_cons, ↓w_ic, ↓w_fall, true_and, and_true, true_implies, false_implies, not_true_eq_false, not_false_eq_true, Int.reduceEq, Int.reduceLT, Int.reduceLE, Int.reduceNeg]
      refine k_Mo_in_18 _ _ _ _ _ _ _ _ ?_
      simp only [↓w_nil, ↓w_zret, true_and, and_true, true_implies, false_implies, not_true_eq_false, not_false_eq_true, Int.reduceEq, Int.reduceLT, Int.reduceLE, Int.reduceNeg]
      repeat refine And.intro (by first | assumption | exact IsW.kt (by assumption) | omega | (unfold in32; omega) | (unfold in64; omega) | exact True.intro | exact Or.inl True.intro | rfl | exact Nat.le_of_ble_eq_true rfl) ?_
      try first | done | assumption | (unfold in32; omega) | (unfold in64; omega)
      rw [if_neg (by omega)]
    · refine k_Mo_in_13 _ _ _ _ _ _ _ _ ?_
      simp only [↓w_nil, ↓w_cons, ↓w_ic, ↓w_goto, true_and, and_true, true_implies, false_implies, not_true_eq_false, not_false_eq_true, Int.reduceEq, Int.reduceLT, Int.reduceLE, Int.reduceNeg]
      refine k_Mo_in_18 _ _ _ _ _ _ _ _ ?_
      simp only [↓w_nil, ↓w_zret, true_and, and_true, true_implies, false_implies, not_true_eq_false, not_false_eq_true, Int.reduceEq, Int.reduceLT, Int.reduceLE, Int.reduceNeg]
      repeat refine And.intro (by first | assumption | exact IsW.kt (by assumption) | omega | (unfold in32; omega) | (unfold in64; omega) | exact True.intro | exact Or.inl True.intro | rfl | exact Nat.le_of_ble_eq_true rfl) ?_
      try first | done | assumption | (unfold in32; omega) | (unfold in64; omega)
      rw [if_pos (by omega)]
      exact ⟨Or.inr True.intro, rfl⟩
theorem i64 {v : Int} (h : in32 v) : in64 v := by unfold in32 at h; unfold in64; omega
theorem p_Mo_isCarry {g : cw_G} {M : cw_M} {v : Int} (hv : in32 v) :
    mC g y_Mo_isCarry [.inl v] M (fun q M' => q = some (.inl (if 1 ≤ v ∧ v ≤ 200 then 1 else 0)) ∧ M' = M) := by
  refine cw_C_of (L := [.inl v]) ok_Mo_isCarry (Nat.le_refl _) (Nat.le_of_ble_eq_true rfl) rfl ?_
  refine k_Mo_isCarry_0 _ _ _ _ _ _ _ _ ?_
  simp only [↓w_nil, ↓w_cons, ↓w_ild0, ↓w_i2l, ↓w_lc, ↓w_cs3, true_and, and_true, true_implies, false_implies, not_true_eq_false, not_false_eq_true, Int.reduceEq, Int.reduceLT, Int.reduceLE, Int.reduceNeg, w_c80, w_c8I, w_c8L, w_c8R]
  repeat refine And.intro (by first | assumption | exact IsW.kt (by assumption) | omega | (unfold in32; omega) | (unfold in64; omega) | exact True.intro | exact Or.inl True.intro | rfl | exact Nat.le_of_ble_eq_true rfl) ?_
  try first | done | assumption | (unfold in32; omega) | (unfold in64; omega)
  refine ⟨_, p_Mo_in (i64 hv) (by unfold in64; omega) (by unfold in64; omega), ?_⟩
  rintro q M1 ⟨rfl, rfl⟩
  refine k_Mo_isCarry_9 _ _ _ _ _ _ _ _ ?_
  simp only [↓w_nil, ↓w_zret, true_and, and_true, true_implies, false_implies, not_true_eq_false, not_false_eq_true, Int.reduceEq, Int.reduceLT, Int.reduceLE, Int.reduceNeg, w_tl1]
  repeat refine And.intro (by first | assumption | exact IsW.kt (by assumption) | omega | (unfold in32; omega) | (unfold in64; omega) | exact True.intro | exact Or.inl True.intro | rfl | exact Nat.le_of_ble_eq_true rfl) ?_
  try first | done | assumption | (unfold in32; omega) | (unfold in64; omega)
  split
  · exact Or.inr rfl
  · exact Or.inl rfl
theorem p_Mo_isTurn {g : cw_G} {M : cw_M} {v : Int} (hv : in32 v) :
    mC g y_Mo_isTurn [.inl v] M (fun q M' => q = some (.inl (if 0 ≤ v ∧ v ≤ 23 then 1 else 0)) ∧ M' = M) := by
  refine cw_C_of (L := [.inl v]) ok_Mo_isTurn (Nat.le_refl _) (Nat.le_of_ble_eq_true rfl) rfl ?_
  refine k_Mo_isTurn_0 _ _ _ _ _ _ _ _ ?_
  simp only [↓w_nil, ↓w_cons, ↓w_ild0, ↓w_i2l, ↓w_lc, ↓w_cs3, true_and, and_true, true_implies, false_implies, not_true_eq_false, not_false_eq_true, Int.reduceEq, Int.reduceLT, Int.reduceLE, Int.reduceNeg, w_c80, w_c8I, w_c8L, w_c8R]
  repeat refine And.intro (by first | assumption | exact IsW.kt (by assumption) | omega | (unfold in32; omega) | (unfold in64; omega) | exact True.intro | exact Or.inl True.intro | rfl | exact Nat.le_of_ble_eq_true rfl) ?_
  try first | done | assumption | (unfold in32; omega) | (unfold in64; omega)
  refine ⟨_, p_Mo_in (i64 hv) (by unfold in64; omega) (by unfold in64; omega), ?_⟩
  rintro q M1 ⟨rfl, rfl⟩
  refine k_Mo_isTurn_9 _ _ _ _ _ _ _ _ ?_
  simp only [↓w_nil, ↓w_zret, true_and, and_true, true_implies, false_implies, not_true_eq_false, not_false_eq_true, Int.reduceEq, Int.reduceLT, Int.reduceLE, Int.reduceNeg, w_tl1]
  repeat refine And.intro (by first | assumption | exact IsW.kt (by assumption) | omega | (unfold in32; omega) | (unfold in64; omega) | exact True.intro | exact Or.inl True.intro | rfl | exact Nat.le_of_ble_eq_true rfl) ?_
  try first | done | assumption | (unfold in32; omega) | (unfold in64; omega)
  split
  · exact Or.inr rfl
  · exact Or.inl rfl
theorem p_Mo_isWinding {g : cw_G} {M : cw_M} {v : Int} (hv : in32 v) :
    mC g y_Mo_isWinding [.inl v] M (fun q M' => q = some (.inl (if 0 ≤ v ∧ v ≤ 3 then 1 else 0)) ∧ M' = M) := by
  refine cw_C_of (L := [.inl v]) ok_Mo_isWinding (Nat.le_refl _) (Nat.le_of_ble_eq_true rfl) rfl ?_
  refine k_Mo_isWinding_0 _ _ _ _ _ _ _ _ ?_
  simp only [↓w_nil, ↓w_cons, ↓w_ild0, ↓w_i2l, ↓w_lc, ↓w_cs3, true_and, and_true, true_implies, false_implies, not_true_eq_false, not_false_eq_true, Int.reduceEq, Int.reduceLT, Int.reduceLE, Int.reduceNeg, w_c80, w_c8I, w_c8L, w_c8R]
  repeat refine And.intro (by first | assumption | exact IsW.kt (by assumption) | omega | (unfold in32; omega) | (unfold in64; omega) | exact True.intro | exact Or.inl True.intro | rfl | exact Nat.le_of_ble_eq_true rfl) ?_
  try first | done | assumption | (unfold in32; omega) | (unfold in64; omega)
  refine ⟨_, p_Mo_in (i64 hv) (by unfold in64; omega) (by unfold in64; omega), ?_⟩
  rintro q M1 ⟨rfl, rfl⟩
  refine k_Mo_isWinding_9 _ _ _ _ _ _ _ _ ?_
  simp only [↓w_nil, ↓w_zret, true_and, and_true, true_implies, false_implies, not_true_eq_false, not_false_eq_true, Int.reduceEq, Int.reduceLT, Int.reduceLE, Int.reduceNeg, w_tl1]
  repeat refine And.intro (by first | assumption | exact IsW.kt (by assumption) | omega | (unfold in32; omega) | (unfold in64; omega) | exact True.intro | exact Or.inl True.intro | rfl | exact Nat.le_of_ble_eq_true rfl) ?_
  try first | done | assumption | (unfold in32; omega) | (unfold in64; omega)
  split
  · exact Or.inr rfl
  · exact Or.inl rfl
theorem p_Mo_isPiece {g : cw_G} {M : cw_M} {v n : Int} (hS : Sh M) (hv : in32 v) (hn : M 324 0 = n) (hn7 : 0 ≤ n ∧ n ≤ 7) :
    mC g y_Mo_isPiece [.inr (.inr 319), .inl v] M (fun q M' => q = some (.inl (if 0 ≤ v ∧ v ≤ n - 1 then 1 else 0)) ∧ M' = M) := by
  refine cw_C_of (L := [.inr (.inr 319), .inl v]) ok_Mo_isPiece (Nat.le_refl _) (Nat.le_of_ble_eq_true rfl) rfl ?_
  refine k_Mo_isPiece_0 _ _ _ _ _ _ _ _ ?_
  simp only [↓w_nil, ↓w_cons, ↓w_ild1, ↓w_i2l, ↓w_lc, ↓w_ald0, ↓w_gf2_4, ↓w_ic, ↓w_iald, ↓w_isub, ↓w_cs3, true_and, and_true, true_implies, false_implies, not_true_eq_false, not_false_eq_true, Int.reduceEq, Int.reduceLT, Int.reduceLE, Int.reduceNeg, w_c80, w_c8I, w_c8L, w_c8R, m_k9, m_k4, hS.d4, hn]
  repeat refine And.intro (by first | assumption | exact IsW.kt (by assumption) | omega | (unfold in32; omega) | (unfold in64; omega) | exact True.intro | exact Or.inl True.intro | rfl | exact Nat.le_of_ble_eq_true rfl) ?_
  try first | done | assumption | (unfold in32; omega) | (unfold in64; omega)
  refine ⟨_, p_Mo_in (i64 hv) (by unfold in64; omega) (by unfold in64; omega), ?_⟩
  rintro q M1 ⟨rfl, rfl⟩
  refine k_Mo_isPiece_15 _ _ _ _ _ _ _ _ ?_
  simp only [↓w_nil, ↓w_zret, true_and, and_true, true_implies, false_implies, not_true_eq_false, not_false_eq_true, Int.reduceEq, Int.reduceLT, Int.reduceLE, Int.reduceNeg, w_tl1]
  repeat refine And.intro (by first | assumption | exact IsW.kt (by assumption) | omega | (unfold in32; omega) | (unfold in64; omega) | exact True.intro | exact Or.inl True.intro | rfl | exact Nat.le_of_ble_eq_true rfl) ?_
  try first | done | assumption | (unfold in32; omega) | (unfold in64; omega)
  split
  · exact Or.inr rfl
  · exact Or.inl rfl
theorem p_Mo_of {g : cw_G} {M : cw_M} {p w : Int} (hS : Sh M) (hp : 0 ≤ p ∧ p < 7) (hw : 0 ≤ w ∧ w < 12) :
    mC g y_Mo_of [.inr (.inr 319), .inl p, .inl w] M (fun q M' => q = some (.inl (M 324 (10 + 12 * p + w))) ∧ M' = M) := by
  refine cw_C_of (L := [.inr (.inr 319), .inl p, .inl w]) ok_Mo_of (Nat.le_refl _) (Nat.le_of_ble_eq_true rfl) rfl ?_
  refine k_Mo_of_0 _ _ _ _ _ _ _ _ ?_
  simp only [↓w_nil, ↓w_cons, ↓w_ald0, ↓w_gf2_4, ↓w_ic, ↓w_ild1, ↓w_imul, ↓w_iadd, ↓w_ild2, ↓w_iald, ↓w_iret, true_and, and_true, true_implies, false_implies, not_true_eq_false, not_false_eq_true, Int.reduceEq, Int.reduceLT, Int.reduceLE, Int.reduceNeg, m_k9, m_k4, hS.d4]
  repeat refine And.intro (by first | assumption | exact IsW.kt (by assumption) | omega | (unfold in32; omega) | (unfold in64; omega) | exact True.intro | exact Or.inl True.intro | rfl | exact Nat.le_of_ble_eq_true rfl) ?_
  try first | done | assumption | (unfold in32; omega) | (unfold in64; omega)
  omega
