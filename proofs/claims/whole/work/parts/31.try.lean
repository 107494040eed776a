theorem p_Co_within {g : cw_G} {M : cw_M} {v a b : Int} (hv : in32 v) (ha : in32 a) (hb : in32 b) :
    mC g y_Co_within [.inl v, .inl a, .inl b] M (fun r M' => r = some (.inl (if a ≤ v ∧ v ≤ b then 1 else 0)) ∧ M' = M) := by
  refine cw_C_of (L := [.inl v, .inl a, .inl b]) ok_Co_within (Nat.le_refl _) (Nat.le_of_ble_eq_true rfl) rfl ?_
  refine k_Co_within_0 _ _ _ _ _ _ _ _ ?_
  simp only [↓w_nil, ↓w_cons, ↓w_ild0, ↓w_ild1, ↓w_iclt]
  refine ⟨hv, ha, fun h => ?_, fun h => ?_⟩
  · refine k_Co_within_10 _ _ _ _ _ _ _ _ ?_
    simp only [↓w_nil, ↓w_cons, ↓w_ic, ↓w_goto]
    sorry
  · refine k_Co_within_5 _ _ _ _ _ _ _ _ ?_
    simp only [↓w_nil, ↓w_cons, ↓w_ild0, ↓w_ild2, ↓w_icgt]
    sorry
