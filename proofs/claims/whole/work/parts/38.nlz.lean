/-! leading zeros; the guess of a quotient's digit -/
theorem p_Ji_nlz {g : cw_G} {M : cw_M} {x : Int} (hx : 1 ≤ x ∧ x < 1073741824) :
    mC g y_Ji_numberOfLeadingZeros [.inl x] M (fun r M' => ∃ s : Nat, s < 30 ∧ r = some (.inl ((s : Int) + 2)) ∧ (536870912 ≤ x * 2 ^ s ∧ x * 2 ^ s < 1073741824) ∧ M' = M) := by
  generalize hQ : (fun (r : Option cw_V) (M' : cw_M) => ∃ s : Nat, s < 30 ∧ r = some (.inl ((s : Int) + 2)) ∧ (536870912 ≤ x * 2 ^ s ∧ x * 2 ^ s < 1073741824) ∧ M' = M) = Q
  have fin : ∀ (k : Nat) (i : Int), k ≤ 28 → (i = 1 ∨ i = 2 ∨ i = 3) → 2 ^ k * i ≤ x → x < 2 ^ k * (i + 1) → mJ g y_Ji_numberOfLeadingZeros 73 [.inl i, .inl (31 - (k : Int))] [] M Q := by
    intro k i hk hi h1 h2
    have hd : i / 2 = (if i = 1 then 0 else 1) := by rcases hi with rfl | rfl | rfl <;> rfl
    have e1 : (2 : Int) ^ (1 : Int).toNat = 2 := rfl
    refine k_Ji_numberOfLeadingZeros_73 _ _ _ _ _ _ _ _ ?_
    simp only [↓w_nil, ↓w_cons, ↓w_ild1, ↓w_ild0, ↓w_ic, ↓w_iushr, ↓w_isub, ↓w_iret, true_and, and_true, true_implies, false_implies, not_true_eq_false, not_false_eq_true, Int.reduceEq, Int.reduceLT, Int.reduceLE, Int.reduceNeg, e1]
    repeat refine And.intro (by first | assumption | exact IsW.kt (by assumption) | omega | (unfold in32; omega) | (unfold in64; omega) | trivial | rfl | exact Nat.le_of_ble_eq_true rfl) ?_
    try first | done | assumption | (unfold in32; omega) | (unfold in64; omega)
    rw [← hQ]
    have pk : ∀ a b : Nat, a + b = 29 → (2 : Int) ^ a * 2 ^ b = 536870912 := fun a b h => by rw [← Int.pow_add, h]; rfl
    by_cases q : i = 1
    · subst q
      have e := pk k (29 - k) (by omega)
      have p0 := cw_p2pos (29 - k)
      refine ⟨29 - k, by omega, by rw [hd, if_pos rfl]; congr 2; omega, ?_, rfl⟩
      have a1 := Int.mul_le_mul_of_nonneg_right h1 (show (0 : Int) ≤ 2 ^ (29 - k) by omega)
      have a2 := Int.mul_lt_mul_of_pos_right h2 (show (0 : Int) < 2 ^ (29 - k) by omega)
      have e2 : 2 ^ k * 1 * 2 ^ (29 - k) = (2 : Int) ^ k * 2 ^ (29 - k) := by rw [Int.mul_one]
      have e3 : 2 ^ k * (1 + 1) * 2 ^ (29 - k) = 2 * ((2 : Int) ^ k * 2 ^ (29 - k)) := by rw [show (1 : Int) + 1 = 2 from rfl]; ac_rfl
      omega
    · have e := pk (k + 1) (28 - k) (by omega)
      have p0 := cw_p2pos (28 - k)
      refine ⟨28 - k, by omega, by rw [hd, if_neg q]; congr 2; omega, ?_, rfl⟩
      have p1 := cw_p2pos k
      have es : (2 : Int) ^ (k + 1) = 2 ^ k * 2 := Int.pow_succ _ _
      have h3 : (2 : Int) ^ (k + 1) ≤ x := by
        have : 2 ^ k * 2 ≤ 2 ^ k * i := Int.mul_le_mul_of_nonneg_left (by omega) (by omega)
        omega
      have h4 : x < 2 * (2 : Int) ^ (k + 1) := by
        have : 2 ^ k * (i + 1) ≤ 2 ^ k * 4 := Int.mul_le_mul_of_nonneg_left (by omega) (by omega)
        omega
      have a1 := Int.mul_le_mul_of_nonneg_right h3 (show (0 : Int) ≤ 2 ^ (28 - k) by omega)
      have a2 := Int.mul_lt_mul_of_pos_right h4 (show (0 : Int) < 2 ^ (28 - k) by omega)
      have e3 : 2 * (2 : Int) ^ (k + 1) * 2 ^ (28 - k) = 2 * ((2 : Int) ^ (k + 1) * 2 ^ (28 - k)) := by ac_rfl
      omega
  -- one step: a move by e bits
  have mv : ∀ (k e : Nat) (i : Int), 0 ≤ i → 2 ^ k * i ≤ x → x < 2 ^ k * (i + 1) → 2 ^ (k + e) * (i / 2 ^ e) ≤ x ∧ x < 2 ^ (k + e) * (i / 2 ^ e + 1) := by
    intro k e i hi h1 h2
    have pk := cw_p2pos k
    have pe := cw_p2pos e
    rw [Int.pow_add]
    generalize (2 : Int) ^ k = p at *
    generalize (2 : Int) ^ e = q at *
    have e1 := Int.mul_ediv_add_emod i q
    have r1 := Int.emod_nonneg i (show q ≠ 0 by omega)
    have r2 := Int.emod_lt_of_pos i (show 0 < q by omega)
    have m1 : p * (q * (i / q)) ≤ p * i := Int.mul_le_mul_of_nonneg_left (by omega) (by omega)
    have m2 : p * (i + 1) ≤ p * (q * (i / q) + q) := Int.mul_le_mul_of_nonneg_left (by omega) (by omega)
    have m3 : q * (i / q) + q = q * (i / q + 1) := by rw [Int.mul_add, Int.mul_one]
    rw [m3] at m2
    rw [Int.mul_assoc, Int.mul_assoc]
    omega
  have e16 : (2 : Int) ^ (16 : Int).toNat = 65536 := by decide
  have e8 : (2 : Int) ^ (8 : Int).toNat = 256 := by decide
  have e4 : (2 : Int) ^ (4 : Int).toNat = 16 := by decide
  have e2 : (2 : Int) ^ (2 : Int).toNat = 4 := by decide
  have s61 : ∀ (k : Nat) (i : Int), k ≤ 26 → 1 ≤ i ∧ i < 16 → 2 ^ k * i ≤ x → x < 2 ^ k * (i + 1) → mJ g y_Ji_numberOfLeadingZeros 61 [.inl i, .inl (31 - (k : Int))] [] M Q := by
    intro k i hk hi h1 h2
    refine k_Ji_numberOfLeadingZeros_61 _ _ _ _ _ _ _ _ ?_
    simp only [↓w_nil, ↓w_cons, ↓w_ild0, ↓w_ic, ↓w_iclt, true_and, and_true, true_implies, false_implies, not_true_eq_false, not_false_eq_true, Int.reduceEq, Int.reduceLT, Int.reduceLE, Int.reduceNeg]
    repeat refine And.intro (by first | assumption | exact IsW.kt (by assumption) | omega | (unfold in32; omega) | (unfold in64; omega) | trivial | rfl | exact Nat.le_of_ble_eq_true rfl) ?_
    try first | done | assumption | (unfold in32; omega) | (unfold in64; omega)
    refine ⟨fun h => fin k i (by omega) (by omega) h1 h2, fun h => ?_⟩
    refine k_Ji_numberOfLeadingZeros_66 _ _ _ _ _ _ _ _ ?_
    simp only [↓w_nil, ↓w_cons, ↓w_inc1, ↓w_ild0, ↓w_ic, ↓w_iushr, ↓w_ist0, ↓w_fall, true_and, and_true, true_implies, false_implies, not_true_eq_false, not_false_eq_true, Int.reduceEq, Int.reduceLT, Int.reduceLE, Int.reduceNeg, w_nlI, w_nlL, w_nlR, e2]
    repeat refine And.intro (by first | assumption | exact IsW.kt (by assumption) | omega | (unfold in32; omega) | (unfold in64; omega) | trivial | rfl | exact Nat.le_of_ble_eq_true rfl) ?_
    try first | done | assumption | (unfold in32; omega) | (unfold in64; omega)
    obtain ⟨a, b⟩ := mv k 2 i (by omega) h1 h2
    have := fin (k + 2) (i / 4) (by omega) (by omega) a b
    rw [show (31 : Int) - ((k + 2 : Nat) : Int) = 31 - k + -2 by omega] at this
    exact this
  have s48 : ∀ (k : Nat) (i : Int), k ≤ 24 → 1 ≤ i ∧ i < 256 → (k ≤ 16 ∨ i < 64) → 2 ^ k * i ≤ x → x < 2 ^ k * (i + 1) → mJ g y_Ji_numberOfLeadingZeros 48 [.inl i, .inl (31 - (k : Int))] [] M Q := by
    intro k i hk hi h0 h1 h2
    refine k_Ji_numberOfLeadingZeros_48 _ _ _ _ _ _ _ _ ?_
    simp only [↓w_nil, ↓w_cons, ↓w_ild0, ↓w_ic, ↓w_iclt, true_and, and_true, true_implies, false_implies, not_true_eq_false, not_false_eq_true, Int.reduceEq, Int.reduceLT, Int.reduceLE, Int.reduceNeg]
    repeat refine And.intro (by first | assumption | exact IsW.kt (by assumption) | omega | (unfold in32; omega) | (unfold in64; omega) | trivial | rfl | exact Nat.le_of_ble_eq_true rfl) ?_
    try first | done | assumption | (unfold in32; omega) | (unfold in64; omega)
    refine ⟨fun h => s61 k i (by omega) (by omega) h1 h2, fun h => ?_⟩
    refine k_Ji_numberOfLeadingZeros_54 _ _ _ _ _ _ _ _ ?_
    simp only [↓w_nil, ↓w_cons, ↓w_inc1, ↓w_ild0, ↓w_ic, ↓w_iushr, ↓w_ist0, ↓w_fall, true_and, and_true, true_implies, false_implies, not_true_eq_false, not_false_eq_true, Int.reduceEq, Int.reduceLT, Int.reduceLE, Int.reduceNeg, w_nlI, w_nlL, w_nlR, e4]
    repeat refine And.intro (by first | assumption | exact IsW.kt (by assumption) | omega | (unfold in32; omega) | (unfold in64; omega) | trivial | rfl | exact Nat.le_of_ble_eq_true rfl) ?_
    try first | done | assumption | (unfold in32; omega) | (unfold in64; omega)
    obtain ⟨a, b⟩ := mv k 4 i (by omega) h1 h2
    have : mJ g y_Ji_numberOfLeadingZeros 61 [.inl (i / 16), .inl (31 - ((k + 4 : Nat) : Int))] [] M Q := by
      rcases Nat.lt_or_ge 22 k with q | q
      · have hi4 : i / 16 < 4 := by omega
        by_cases q2 : i / 16 < 4
        · have e5 : k = 24 ∨ k = 23 := by omega
          refine k_Ji_numberOfLeadingZeros_61 _ _ _ _ _ _ _ _ ?_
          simp only [↓w_nil, ↓w_cons, ↓w_ild0, ↓w_ic, ↓w_iclt, true_and, and_true, true_implies, false_implies, not_true_eq_false, not_false_eq_true, Int.reduceEq, Int.reduceLT, Int.reduceLE, Int.reduceNeg]
          repeat refine And.intro (by first | assumption | exact IsW.kt (by assumption) | omega | (unfold in32; omega) | (unfold in64; omega) | trivial | rfl | exact Nat.le_of_ble_eq_true rfl) ?_
          try first | done | assumption | (unfold in32; omega) | (unfold in64; omega)
          refine ⟨fun _ => fin (k + 4) (i / 16) (by omega) (by omega) a b, fun h => absurd q2 h⟩
        · exact absurd hi4 q2
      · exact s61 (k + 4) (i / 16) (by omega) (by omega) a b
    rw [show (31 : Int) - ((k + 4 : Nat) : Int) = 31 - k + -4 by omega] at this
    exact this
  have s33 : ∀ (k : Nat) (i : Int), (k = 0 ∧ 1 ≤ i ∧ i < 65536 ∨ k = 16 ∧ 1 ≤ i ∧ i < 16384) → 2 ^ k * i ≤ x → x < 2 ^ k * (i + 1) → mJ g y_Ji_numberOfLeadingZeros 33 [.inl i, .inl (31 - (k : Int))] [] M Q := by
    intro k i hk h1 h2
    refine k_Ji_numberOfLeadingZeros_33 _ _ _ _ _ _ _ _ ?_
    simp only [↓w_nil, ↓w_cons, ↓w_ild0, ↓w_ic, ↓w_iclt, true_and, and_true, true_implies, false_implies, not_true_eq_false, not_false_eq_true, Int.reduceEq, Int.reduceLT, Int.reduceLE, Int.reduceNeg]
    repeat refine And.intro (by first | assumption | exact IsW.kt (by assumption) | omega | (unfold in32; omega) | (unfold in64; omega) | trivial | rfl | exact Nat.le_of_ble_eq_true rfl) ?_
    try first | done | assumption | (unfold in32; omega) | (unfold in64; omega)
    refine ⟨fun h => s48 k i (by omega) (by omega) (by omega) h1 h2, fun h => ?_⟩
    refine k_Ji_numberOfLeadingZeros_40 _ _ _ _ _ _ _ _ ?_
    simp only [↓w_nil, ↓w_cons, ↓w_inc1, ↓w_ild0, ↓w_ic, ↓w_iushr, ↓w_ist0, ↓w_fall, true_and, and_true, true_implies, false_implies, not_true_eq_false, not_false_eq_true, Int.reduceEq, Int.reduceLT, Int.reduceLE, Int.reduceNeg, w_nlI, w_nlL, w_nlR, e8]
    repeat refine And.intro (by first | assumption | exact IsW.kt (by assumption) | omega | (unfold in32; omega) | (unfold in64; omega) | trivial | rfl | exact Nat.le_of_ble_eq_true rfl) ?_
    try first | done | assumption | (unfold in32; omega) | (unfold in64; omega)
    obtain ⟨a, b⟩ := mv k 8 i (by omega) h1 h2
    have := s48 (k + 8) (i / 256) (by omega) (by omega) (by omega) a b
    rw [show (31 : Int) - ((k + 8 : Nat) : Int) = 31 - k + -8 by omega] at this
    exact this
  refine cw_C_of (L := [.inl x, cU]) ok_Ji_numberOfLeadingZeros (Nat.le_refl _) (Nat.le_of_ble_eq_true rfl) rfl ?_
  refine k_Ji_numberOfLeadingZeros_0 _ _ _ _ _ _ _ _ ?_
  simp only [↓w_nil, ↓w_cons, ↓w_ild0, ↓w_ifgt, true_and, and_true, true_implies, false_implies, not_true_eq_false, not_false_eq_true, Int.reduceEq, Int.reduceLT, Int.reduceLE, Int.reduceNeg]
  repeat refine And.intro (by first | assumption | exact IsW.kt (by assumption) | omega | (unfold in32; omega) | (unfold in64; omega) | trivial | rfl | exact Nat.le_of_ble_eq_true rfl) ?_
  try first | done | assumption | (unfold in32; omega) | (unfold in64; omega)
  refine ⟨fun _ => ?_, fun h => absurd h (by omega)⟩
  refine k_Ji_numberOfLeadingZeros_15 _ _ _ _ _ _ _ _ ?_
  simp only [↓w_nil, ↓w_cons, ↓w_ic, ↓w_ist1, ↓w_ild0, ↓w_iclt, true_and, and_true, true_implies, false_implies, not_true_eq_false, not_false_eq_true, Int.reduceEq, Int.reduceLT, Int.reduceLE, Int.reduceNeg, w_nlI, w_nlL, w_nlR]
  repeat refine And.intro (by first | assumption | exact IsW.kt (by assumption) | omega | (unfold in32; omega) | (unfold in64; omega) | trivial | rfl | exact Nat.le_of_ble_eq_true rfl) ?_
  try first | done | assumption | (unfold in32; omega) | (unfold in64; omega)
  have x0 : 2 ^ 0 * x ≤ x ∧ x < 2 ^ 0 * (x + 1) := by rw [show (2 : Int) ^ 0 = 1 from rfl]; omega
  refine ⟨fun h => ?_, fun h => ?_⟩
  · exact s33 0 x (by omega) x0.1 x0.2
  · refine k_Ji_numberOfLeadingZeros_25 _ _ _ _ _ _ _ _ ?_
    simp only [↓w_nil, ↓w_cons, ↓w_inc1, ↓w_ild0, ↓w_ic, ↓w_iushr, ↓w_ist0, ↓w_fall, true_and, and_true, true_implies, false_implies, not_true_eq_false, not_false_eq_true, Int.reduceEq, Int.reduceLT, Int.reduceLE, Int.reduceNeg, w_nlI, w_nlL, w_nlR, e16]
    repeat refine And.intro (by first | assumption | exact IsW.kt (by assumption) | omega | (unfold in32; omega) | (unfold in64; omega) | trivial | rfl | exact Nat.le_of_ble_eq_true rfl) ?_
    try first | done | assumption | (unfold in32; omega) | (unfold in64; omega)
    obtain ⟨a, b⟩ := mv 0 16 x (by omega) x0.1 x0.2
    exact s33 16 (x / 65536) (by omega) a b
theorem p_Jl_nlz {g : cw_G} {M : cw_M} {x : Int} (hx : 1 ≤ x ∧ x < 1073741824) :
    mC g y_Jl_numberOfLeadingZeros [.inr (.inl x)] M (fun r M' => ∃ s : Nat, s < 30 ∧ r = some (.inl ((s : Int) + 34)) ∧ (536870912 ≤ x * 2 ^ s ∧ x * 2 ^ s < 1073741824) ∧ M' = M) := by
  have e32 : (2 : Int) ^ (32 : Int).toNat = 4294967296 := by decide
  have e0 : x / 4294967296 = 0 := by omega
  refine cw_C_of (L := [.inr (.inl x), cU, cU]) ok_Jl_numberOfLeadingZeros (Nat.le_refl _) (Nat.le_of_ble_eq_true rfl) rfl ?_
  refine k_Jl_numberOfLeadingZeros_0 _ _ _ _ _ _ _ _ ?_
  simp only [↓w_nil, ↓w_cons, ↓w_lld0, ↓w_ic, ↓w_lushr, ↓w_l2i, ↓w_ist2, ↓w_ild2, ↓w_ifne, true_and, and_true, true_implies, false_implies, not_true_eq_false, not_false_eq_true, Int.reduceEq, Int.reduceLT, Int.reduceLE, Int.reduceNeg, w_nlI, w_nlL, w_nlR, e32, e0]
  repeat refine And.intro (by first | assumption | exact IsW.kt (by assumption) | omega | (unfold in32; omega) | (unfold in64; omega) | trivial | rfl | exact Nat.le_of_ble_eq_true rfl) ?_
  try first | done | assumption | (unfold in32; omega) | (unfold in64; omega)
  refine k_Jl_numberOfLeadingZeros_10 _ _ _ _ _ _ _ _ ?_
  simp only [↓w_nil, ↓w_cons, ↓w_ic, ↓w_lld0, ↓w_l2i, ↓w_cs1, true_and, and_true, true_implies, false_implies, not_true_eq_false, not_false_eq_true, Int.reduceEq, Int.reduceLT, Int.reduceLE, Int.reduceNeg, w_c80, w_c8I, w_c8L, w_c8R]
  repeat refine And.intro (by first | assumption | exact IsW.kt (by assumption) | omega | (unfold in32; omega) | (unfold in64; omega) | trivial | rfl | exact Nat.le_of_ble_eq_true rfl) ?_
  try first | done | assumption | (unfold in32; omega) | (unfold in64; omega)
  refine ⟨_, p_Ji_nlz hx, ?_⟩
  rintro r M' ⟨s, h1, rfl, h2, rfl⟩
  refine k_Jl_numberOfLeadingZeros_17 _ _ _ _ _ _ _ _ ?_
  simp only [↓w_nil, ↓w_cons, ↓w_iadd, ↓w_goto, true_and, and_true, true_implies, false_implies, not_true_eq_false, not_false_eq_true, Int.reduceEq, Int.reduceLT, Int.reduceLE, Int.reduceNeg, w_tl1]
  refine k_Jl_numberOfLeadingZeros_25 _ _ _ _ _ _ _ _ ?_
  simp only [↓w_nil, ↓w_iret, true_and, and_true, true_implies, false_implies, not_true_eq_false, not_false_eq_true, Int.reduceEq, Int.reduceLT, Int.reduceLE, Int.reduceNeg]
  repeat refine And.intro (by first | assumption | exact IsW.kt (by assumption) | omega | (unfold in32; omega) | (unfold in64; omega) | trivial | rfl | exact Nat.le_of_ble_eq_true rfl) ?_
  try first | done | assumption | (unfold in32; omega) | (unfold in64; omega)
  exact ⟨s, h1, by congr 2; omega, h2⟩
/-- the guess, with the two highest limbs of both: X = v1 b + v2, T = top b + u2, V = X P + V2, U = T P + U2 -/
theorem kn_A {d X T V U P V2 U2 : Int} (hV : V = X * P + V2) (hU : U = T * P + U2) (hP : 0 ≤ P) (hV2 : 0 ≤ V2) (hU2 : U2 < P) (hd : 0 ≤ d) (h : T < d * X) : U < d * V := by
  rw [hV, hU, Int.mul_add, ← Int.mul_assoc]
  have e1 : 0 ≤ d * V2 := Int.mul_nonneg hd hV2
  have e2 : (T + 1) * P ≤ d * X * P := Int.mul_le_mul_of_nonneg_right (by omega) hP
  rw [Int.add_mul] at e2
  omega
theorem kn_B {d X T V U P V2 U2 : Int} (hV : V = X * P + V2) (hU : U = T * P + U2) (hP : 0 < P) (hV2 : 0 ≤ V2 ∧ V2 < P) (hU2 : 0 ≤ U2) (hd : 0 ≤ d ∧ d < 1073741824) (hX : 1073741824 ≤ X) (h : d * X ≤ T) : d * V < U + V := by
  have e1 : d * V2 ≤ d * P := Int.mul_le_mul_of_nonneg_left (by omega) hd.1
  have e2 : d * X * P ≤ T * P := Int.mul_le_mul_of_nonneg_right h (by omega)
  have e3 : (d + 1) * P ≤ X * P := Int.mul_le_mul_of_nonneg_right (by omega) (by omega)
  rw [Int.add_mul] at e3
  have e4 : d * V = d * X * P + d * V2 := by rw [hV, Int.mul_add, ← Int.mul_assoc]
  omega
/-- the first guess is 2 too much at most -/
theorem kn_C {d0 v1 top V U P1 V2 U2 q : Int} (hV : V = v1 * P1 + V2) (hU : U = top * P1 + U2) (hP : 0 < P1) (hV2 : 0 ≤ V2 ∧ V2 < P1) (hU2 : 0 ≤ U2) (hv : 536870912 ≤ v1) (hd : 0 ≤ d0 ∧ d0 * v1 ≤ top) (hq : U < (q + 1) * V) (hq0 : 0 ≤ q ∧ q < 1073741824) : d0 ≤ q + 2 := by
  by_cases h : d0 ≤ q + 2
  · exact h
  · exfalso
    have e1 : d0 * v1 * P1 ≤ top * P1 := Int.mul_le_mul_of_nonneg_right hd.2 (by omega)
    have e2 : (q + 1) * V < (q + 1) * ((v1 + 1) * P1) := Int.mul_lt_mul_of_pos_left (by rw [Int.add_mul]; omega) (by omega)
    have e3 : d0 * v1 * P1 < (q + 1) * (v1 + 1) * P1 := by rw [Int.mul_assoc (q + 1)]; omega
    have e4 : d0 * v1 < (q + 1) * (v1 + 1) := by
      by_cases h2 : d0 * v1 < (q + 1) * (v1 + 1)
      · exact h2
      · have := Int.mul_le_mul_of_nonneg_right (show (q + 1) * (v1 + 1) ≤ d0 * v1 by omega) (show 0 ≤ P1 by omega)
        omega
    have e5 : (q + 3) * v1 ≤ d0 * v1 := Int.mul_le_mul_of_nonneg_right (by omega) (by omega)
    have e6 : (q + 1) * (v1 + 1) = q * v1 + q + v1 + 1 := by rw [Int.add_mul, Int.mul_add]; omega
    have e7 : (q + 3) * v1 = q * v1 + 3 * v1 := Int.add_mul _ _ _
    omega
/-- the guess isn't too small -/
theorem kn_0 {v1 top V U P1 V2 U2 q : Int} (hV : V = v1 * P1 + V2) (hU : U = top * P1 + U2) (hP : 0 < P1) (hV2 : 0 ≤ V2) (hU2 : U2 < P1) (hq : q * V ≤ U) (hq0 : 0 ≤ q) : q * v1 ≤ top := by
  have e1 : q * (v1 * P1) ≤ q * V := Int.mul_le_mul_of_nonneg_left (by omega) hq0
  have e2 : q * v1 * P1 < (top + 1) * P1 := by rw [Int.mul_assoc, Int.add_mul]; omega
  by_cases h : q * v1 ≤ top
  · exact h
  · have := Int.mul_le_mul_of_nonneg_right (show top + 1 ≤ q * v1 by omega) (show 0 ≤ P1 by omega)
    omega
theorem mul_cancel {a b V : Int} (hV : 0 < V) (h : a * V < (b + 1) * V) : a ≤ b := by
  by_cases q : a ≤ b
  · exact q
  · have := Int.mul_le_mul_of_nonneg_right (show b + 1 ≤ a by omega) (show 0 ≤ V by omega)
    omega
