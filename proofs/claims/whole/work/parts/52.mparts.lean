/-! parts: division by a long -/
theorem l_par51 {g : cw_G} {Mk : cw_M} {r a sg n k : Int} {D r0 x : Nat} {Q : Option cw_V → cw_M → Prop} (hD : D < 4611686018427387904) (hx : x < 1073741824) (hr0 : r0 < D)
    (K : ∀ (q rest : Nat), rest < D → r0 * 1073741824 + x = D * q + rest → q < 1073741824 → mJ g y_Mo_parts 101 [.inr (.inr 319), .inl r, .inl a, .inr (.inl D), cU, .inr (.inl rest), cU, .inl n, .inl sg, .inl k, .inl x, .inl q, .inl (-1)] [] Mk Q) :
    ∀ (s u rest : Nat), s ≤ 30 → rest < D → r0 * 2 ^ (30 - s) + x / 2 ^ s = D * u + rest →
      mJ g y_Mo_parts 51 [.inr (.inr 319), .inl r, .inl a, .inr (.inl D), cU, .inr (.inl rest), cU, .inl n, .inl sg, .inl k, .inl x, .inl ((u * 2 ^ s : Nat) : Int), .inl ((s : Int) - 1)] [] Mk Q := by
  intro s
  induction s with
  | zero =>
    intro u rest hs hr he
    refine k_Mo_parts_51 _ _ _ _ _ _ _ _ ?_
    simp only [↓w_nil, ↓w_cons, ↓w_ild12, ↓w_iflt, true_and, and_true, true_implies, false_implies, not_true_eq_false, not_false_eq_true, Int.reduceEq, Int.reduceLT, Int.reduceLE, Int.reduceNeg]
    repeat refine And.intro (by first | assumption | exact IsW.kt (by assumption) | omega | (unfold in32; omega) | (unfold in64; omega) | exact True.intro | exact Or.inl True.intro | rfl | exact Nat.le_of_ble_eq_true rfl) ?_
    try first | done | assumption | (unfold in32; omega) | (unfold in64; omega)
    refine ⟨fun _ => ?_, fun h => absurd h (by omega)⟩
    rw [Nat.pow_zero, Nat.div_one, Nat.sub_zero] at he
    have e31 : (2 : Nat) ^ 30 = 1073741824 := by decide
    rw [e31] at he
    rw [Nat.pow_zero, Nat.mul_one]
    refine K u rest hr he ?_
    by_cases q : u < 1073741824
    · exact q
    · have q1 : D * 1073741824 ≤ D * u := Nat.mul_le_mul_left _ (by omega)
      have q2 : (r0 + 1) * 1073741824 ≤ D * 1073741824 := Nat.mul_le_mul_right _ (by omega)
      omega
  | succ t ih =>
    intro u rest hs hr he
    have e1 : ((t + 1 : Nat) : Int) - 1 = (t : Int) := by omega
    have e1t : (0 : Int) ≤ (t : Int) ∧ (t : Int) < 32 := by omega
    have x32 : in32 (x : Int) := by unfold in32; omega
    have hbs := bit_s he
    rw [show 2 ^ (30 - (t + 1)) * 2 = 2 ^ (30 - t) by rw [← Nat.pow_succ]; congr 1; omega] at hbs
    have hu : u < 2 ^ (29 - t) := by
      by_cases q : u < 2 ^ (29 - t)
      · exact q
      · have p2 : 2 ^ (29 - t) * 2 ^ (t + 1) = 1073741824 := by rw [← Nat.pow_add, show 29 - t + (t + 1) = 30 by omega]
        have q0 : x / 2 ^ (t + 1) < 2 ^ (29 - t) := (Nat.div_lt_iff_lt_mul (Nat.pow_pos (by decide))).mpr (by omega)
        have q1 : D * 2 ^ (29 - t) ≤ D * u := Nat.mul_le_mul_left _ (by omega)
        have q2 : (r0 + 1) * 2 ^ (29 - t) ≤ D * 2 ^ (29 - t) := Nat.mul_le_mul_right _ (by omega)
        rw [show 30 - (t + 1) = 29 - t by omega] at he
        rw [Nat.add_mul, Nat.one_mul] at q2
        omega
    have eb : cw_and32 ((x : Int) / 2 ^ (t : Int).toNat) 1 = ((x / 2 ^ t % 2 : Nat) : Int) := by
      rw [and1, Int.toNat_natCast]
      rw [show ((2 : Int) ^ t) = ((2 ^ t : Nat) : Int) by rw [Int.natCast_pow]; rfl]
      rfl
    have eo := or_bit t u (by omega) hu
    have eu : ∀ c : Nat, u * 2 ^ (t + 1) + c * 2 ^ t = (2 * u + c) * 2 ^ t := by
      intro c
      rw [Nat.pow_succ, Nat.add_mul, show u * (2 ^ t * 2) = 2 * u * 2 ^ t by ac_rfl]
    generalize hbit : x / 2 ^ t % 2 = bit at *
    rw [e1]
    refine k_Mo_parts_51 _ _ _ _ _ _ _ _ ?_
    simp only [↓w_nil, ↓w_cons, ↓w_ild12, ↓w_iflt, true_and, and_true, true_implies, false_implies, not_true_eq_false, not_false_eq_true, Int.reduceEq, Int.reduceLT, Int.reduceLE, Int.reduceNeg]
    repeat refine And.intro (by first | assumption | exact IsW.kt (by assumption) | omega | (unfold in32; omega) | (unfold in64; omega) | exact True.intro | exact Or.inl True.intro | rfl | exact Nat.le_of_ble_eq_true rfl) ?_
    try first | done | assumption | (unfold in32; omega) | (unfold in64; omega)
    intro _
    have r64 : in64 (2 * (rest : Int) + bit) := by unfold in64; omega
    have d64 : in64 (D : Int) := by unfold in64; omega
    refine k_Mo_parts_56 _ _ _ _ _ _ _ _ ?_
    simp only [↓w_nil, ↓w_cons, ↓w_lc, ↓w_lld5, ↓w_lmul, ↓w_ild10, ↓w_ild12, ↓w_ishr, ↓w_ic, ↓w_iand, ↓w_i2l, ↓w_ladd, ↓w_lst5, ↓w_lld3, ↓w_lclt, true_and, and_true, true_implies, false_implies, not_true_eq_false, not_false_eq_true, Int.reduceEq, Int.reduceLT, Int.reduceLE, Int.reduceNeg, w_nlI, w_nlL, w_nlR, eb]
    repeat refine And.intro (by first | assumption | exact IsW.kt (by assumption) | omega | (unfold in32; omega) | (unfold in64; omega) | exact True.intro | exact Or.inl True.intro | rfl | exact Nat.le_of_ble_eq_true rfl) ?_
    try first | done | assumption | (unfold in32; omega) | (unfold in64; omega)
    refine ⟨fun hc => ?_, fun hc => ?_⟩
    · refine k_Mo_parts_95 _ _ _ _ _ _ _ _ ?_
      simp only [↓w_nil, ↓w_cons, ↓w_inc12, ↓w_goto, true_and, and_true, true_implies, false_implies, not_true_eq_false, not_false_eq_true, Int.reduceEq, Int.reduceLT, Int.reduceLE, Int.reduceNeg, w_nlI, w_nlL, w_nlR]
      have := ih (2 * u) (2 * rest + bit) (by omega) (by omega) hbs
      have e5 := eu 0
      rw [Nat.zero_mul, Nat.add_zero, Nat.add_zero] at e5
      rw [e5]
      rw [show ((2 * rest + bit : Nat) : Int) = 2 * (rest : Int) + bit by omega] at this
      exact this
    · refine k_Mo_parts_80 _ _ _ _ _ _ _ _ ?_
      simp only [↓w_nil, ↓w_cons, ↓w_lld5, ↓w_lld3, ↓w_lsub, ↓w_lst5, ↓w_ild11, ↓w_ic, ↓w_ild12, ↓w_ishl, ↓w_ior, ↓w_ist11, ↓w_fall, true_and, and_true, true_implies, false_implies, not_true_eq_false, not_false_eq_true, Int.reduceEq, Int.reduceLT, Int.reduceLE, Int.reduceNeg, w_nlI, w_nlL, w_nlR, eo]
      repeat refine And.intro (by first | assumption | exact IsW.kt (by assumption) | omega | (unfold in32; omega) | (unfold in64; omega) | exact True.intro | exact Or.inl True.intro | rfl | exact Nat.le_of_ble_eq_true rfl) ?_
      try first | done | assumption | (unfold in32; omega) | (unfold in64; omega)
      refine k_Mo_parts_95 _ _ _ _ _ _ _ _ ?_
      simp only [↓w_nil, ↓w_cons, ↓w_inc12, ↓w_goto, true_and, and_true, true_implies, false_implies, not_true_eq_false, not_false_eq_true, Int.reduceEq, Int.reduceLT, Int.reduceLE, Int.reduceNeg, w_nlI, w_nlL, w_nlR]
      have := ih (2 * u + 1) (2 * rest + bit - D) (by omega) (by omega) (by rw [hbs, Nat.mul_add D]; omega)
      have e5 := eu 1
      rw [Nat.one_mul] at e5
      rw [e5]
      rw [show ((2 * rest + bit - D : Nat) : Int) = 2 * (rest : Int) + bit - D by omega] at this
      exact this
