/-! changes, sourceOf, source on the reference's side -/
theorem p_Mo_changes {g : cw_G} {M : cw_M} :
    mC g y_Mo_changes [.inr (.inr 319)] M (fun q M' => q = none ∧ M' = cw_up M 319 18 0) := by
  refine cw_C_of (L := [.inr (.inr 319)]) ok_Mo_changes (Nat.le_refl _) (Nat.le_of_ble_eq_true rfl) rfl ?_
  refine k_Mo_changes_0 _ _ _ _ _ _ _ _ ?_
  simp only [↓w_nil, ↓w_cons, ↓w_ald0, ↓w_ic, ↓w_pfZ_18, ↓w_vret, true_and, and_true, true_implies, false_implies, not_true_eq_false, not_false_eq_true, Int.reduceEq, Int.reduceLT, Int.reduceLE, Int.reduceNeg, m_k9]
  refine ⟨Or.inl True.intro, ?_⟩
  first | done | exact Or.inl True.intro | exact Or.inr True.intro | exact ⟨Or.inl True.intro, rfl⟩ | exact Or.inl rfl
def cw_so (f : Int → Int) (p : Int) : Nat → Int := fun k => match k with
  | 0 => f (10 + 12 * p + 6)
  | k + 1 => cw_so f p k + f (10 + 12 * p + (7 + k)) * f (268 + k)
theorem p_Mo_sourceOf {g : cw_G} {M : cw_M} {p : Int} (hS : Sh M) (hp : 0 ≤ p ∧ p < 7) :
    mC g y_Mo_sourceOf [.inr (.inr 319), .inl p] M (fun q M' => q = some (.inl (cw_so (M 324) p 4)) ∧ M' = M) := by
  have loop : ∀ d k : Nat, d + k = 4 → mJ g y_Mo_sourceOf 10 [.inr (.inr 319), .inl p, .inl (cw_so (M 324) p k), .inl k] [] M (fun q M' => q = some (.inl (cw_so (M 324) p 4)) ∧ M' = M) := by
    intro d
    induction d with
    | zero =>
      intro k hk
      have hk4 : k = 4 := by omega
      subst hk4
      refine k_Mo_sourceOf_10 _ _ _ _ _ _ _ _ ?_
      simp only [↓w_nil, ↓w_cons, ↓w_ild3, ↓w_ic, ↓w_icge, true_and, and_true, true_implies, false_implies, not_true_eq_false, not_false_eq_true, Int.reduceEq, Int.reduceLT, Int.reduceLE, Int.reduceNeg]
      repeat refine And.intro (by first | assumption | exact IsW.kt (by assumption) | omega | (unfold in32; omega) | (unfold in64; omega) | trivial | rfl | exact Nat.le_of_ble_eq_true rfl) ?_
      try first | done | assumption | (unfold in32; omega) | (unfold in64; omega)
      refine ⟨fun _ => ?_, fun h => absurd h (by omega)⟩
      refine k_Mo_sourceOf_44 _ _ _ _ _ _ _ _ ?_
      simp only [↓w_nil, ↓w_cons, ↓w_ild2, ↓w_iret, true_and, and_true, true_implies, false_implies, not_true_eq_false, not_false_eq_true, Int.reduceEq, Int.reduceLT, Int.reduceLE, Int.reduceNeg]
    | succ d ih =>
      intro k hk
      refine k_Mo_sourceOf_10 _ _ _ _ _ _ _ _ ?_
      simp only [↓w_nil, ↓w_cons, ↓w_ild3, ↓w_ic, ↓w_icge, true_and, and_true, true_implies, false_implies, not_true_eq_false, not_false_eq_true, Int.reduceEq, Int.reduceLT, Int.reduceLE, Int.reduceNeg]
      repeat refine And.intro (by first | assumption | exact IsW.kt (by assumption) | omega | (unfold in32; omega) | (unfold in64; omega) | trivial | rfl | exact Nat.le_of_ble_eq_true rfl) ?_
      try first | done | assumption | (unfold in32; omega) | (unfold in64; omega)
      intro _
      refine k_Mo_sourceOf_15 _ _ _ _ _ _ _ _ ?_
      simp only [↓w_nil, ↓w_cons, ↓w_ild2, ↓w_ald0, ↓w_ild1, ↓w_ic, ↓w_ild3, ↓w_iadd, ↓w_cv2, true_and, and_true, true_implies, false_implies, not_true_eq_false, not_false_eq_true, Int.reduceEq, Int.reduceLT, Int.reduceLE, Int.reduceNeg, w_c80, w_c8I, w_c8L, w_c8R, m_k9]
      repeat refine And.intro (by first | assumption | exact IsW.kt (by assumption) | omega | (unfold in32; omega) | (unfold in64; omega) | trivial | rfl | exact Nat.le_of_ble_eq_true rfl) ?_
      try first | done | assumption | (unfold in32; omega) | (unfold in64; omega)
      refine ⟨_, p_Mo_of hS hp (by omega), ?_⟩
      rintro q M1 ⟨rfl, rfl⟩
      refine k_Mo_sourceOf_25 _ _ _ _ _ _ _ _ ?_
      simp only [↓w_nil, ↓w_cons, ↓w_ald0, ↓w_gf2_4, ↓w_ic, ↓w_ild3, ↓w_iadd, ↓w_iald, ↓w_imul, ↓w_ist2, ↓w_inc3, ↓w_goto, true_and, and_true, true_implies, false_implies, not_true_eq_false, not_false_eq_true, Int.reduceEq, Int.reduceLT, Int.reduceLE, Int.reduceNeg, w_nlI, w_nlL, w_nlR, w_tl1, m_k9, m_k4, hS.d4]
      repeat refine And.intro (by first | assumption | exact IsW.kt (by assumption) | omega | (unfold in32; omega) | (unfold in64; omega) | trivial | rfl | exact Nat.le_of_ble_eq_true rfl) ?_
      try first | done | assumption | (unfold in32; omega) | (unfold in64; omega)
      exact ih (k + 1) (by omega)
  refine cw_C_of (L := [.inr (.inr 319), .inl p, cU, cU]) ok_Mo_sourceOf (Nat.le_refl _) (Nat.le_of_ble_eq_true rfl) rfl ?_
  refine k_Mo_sourceOf_0 _ _ _ _ _ _ _ _ ?_
  simp only [↓w_nil, ↓w_cons, ↓w_ald0, ↓w_ild1, ↓w_ic, ↓w_cv2, true_and, and_true, true_implies, false_implies, not_true_eq_false, not_false_eq_true, Int.reduceEq, Int.reduceLT, Int.reduceLE, Int.reduceNeg, w_c80, w_c8I, w_c8L, w_c8R, m_k9]
  repeat refine And.intro (by first | assumption | exact IsW.kt (by assumption) | omega | (unfold in32; omega) | (unfold in64; omega) | trivial | rfl | exact Nat.le_of_ble_eq_true rfl) ?_
  try first | done | assumption | (unfold in32; omega) | (unfold in64; omega)
  refine ⟨_, p_Mo_of hS hp (by omega), ?_⟩
  rintro q M1 ⟨rfl, rfl⟩
  refine k_Mo_sourceOf_7 _ _ _ _ _ _ _ _ ?_
  simp only [↓w_nil, ↓w_cons, ↓w_ist2, ↓w_ic, ↓w_ist3, ↓w_fall, true_and, and_true, true_implies, false_implies, not_true_eq_false, not_false_eq_true, Int.reduceEq, Int.reduceLT, Int.reduceLE, Int.reduceNeg, w_nlI, w_nlL, w_nlR, w_tl1]
  exact loop 4 0 rfl
