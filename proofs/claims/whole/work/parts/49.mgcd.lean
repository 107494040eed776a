/-! divides: the greatest common divisor in register 4 -/
theorem RM.many {M : cw_M} {r v : Int} (h : RM M r v) : ∃ n : Nat, M 321 r = n ∧ n ≤ 32 ∧ (n = 0 ↔ v = 0) := by
  obtain ⟨n, a1, a2, a3, a4, a5, a6⟩ := h
  refine ⟨n, a2, a1, fun h => ?_, fun h => ?_⟩
  · subst h
    rw [mg_0] at a5
    have := ab_3 v
    omega
  · subst h
    have e : cw_ab 0 = 0 := rfl
    rw [e] at a5
    cases n with
    | zero => rfl
    | succ n =>
      have h1 := gn_ge a3 a4 a5
      have := bt_pos n
      omega
theorem cop2 {y : Nat} (h : y % 2 = 1) : Nat.Coprime 2 y := by
  show Nat.gcd 2 y = 1
  rw [Nat.gcd_rec, h]
  rfl
theorem gcd_h {x y : Nat} (hx : x % 2 = 0) (hy : y % 2 = 1) : Nat.gcd (x / 2) y = Nat.gcd x y := by
  rw [← Nat.Coprime.gcd_mul_left_cancel (x / 2) (cop2 hy), show 2 * (x / 2) = x by omega]
theorem gcd_h' {x y : Nat} (hx : x % 2 = 0) (hy : y % 2 = 1) : Nat.gcd y (x / 2) = Nat.gcd y x := by
  rw [Nat.gcd_comm, gcd_h hx hy, Nat.gcd_comm]
def A345 : Int → Prop := fun s => s = 3 ∨ s = 4 ∨ s = 5
theorem l_div142 {g : cw_G} {M : cw_M} {a b : Int} {G t : Nat} (hS : Sh M) (ht : t < 1000) (hG : cw_ab G < 1073741824 ^ 30) :
    ∀ (d k x : Nat) (M1 : cw_M), d + k = t → cw_rf A345 M M1 → RM M1 4 x → x * 2 ^ d = G → mJ g y_Mo_divides 142 [.inr (.inr 319), .inl a, .inl b, .inl t, .inl k] [] M1 (fun q M' => q = none ∧ RM M' 4 G ∧ cw_rf A345 M M') := by
  have h4 : IR 4 := by unfold IR; omega
  intro d
  induction d with
  | zero =>
    intro k x M1 hd f1 hrm hx
    refine k_Mo_divides_142 _ _ _ _ _ _ _ _ ?_
    simp only [↓w_nil, ↓w_cons, ↓w_ild4, ↓w_ild3, ↓w_icge, true_and, and_true, true_implies, false_implies, not_true_eq_false, not_false_eq_true, Int.reduceEq, Int.reduceLT, Int.reduceLE, Int.reduceNeg]
    repeat refine And.intro (by first | assumption | exact IsW.kt (by assumption) | omega | (unfold in32; omega) | (unfold in64; omega) | exact True.intro | exact Or.inl True.intro | rfl | exact Nat.le_of_ble_eq_true rfl) ?_
    try first | done | assumption | (unfold in32; omega) | (unfold in64; omega)
    refine ⟨fun _ => ?_, fun h => absurd h (by omega)⟩
    refine k_Mo_divides_162 _ _ _ _ _ _ _ _ ?_
    simp only [↓w_nil, ↓w_vret, true_and, and_true, true_implies, false_implies, not_true_eq_false, not_false_eq_true, Int.reduceEq, Int.reduceLT, Int.reduceLE, Int.reduceNeg]
    rw [Nat.pow_zero, Nat.mul_one] at hx
    rw [← hx]
    exact ⟨hrm, f1⟩
  | succ d ih =>
    intro k x M1 hd f1 hrm hx
    have hS1 := hS.rf f1
    have hxG : x ≤ G := by
      rw [← hx]
      have := Nat.pow_pos (n := d + 1) (show 0 < 2 by decide)
      exact Nat.le_mul_of_pos_right _ this
    have bx : cw_ab (x : Int) < 1073741824 ^ 31 := by
      have e1 := ab_3 (x : Int)
      have e2 := ab_3 (G : Int)
      have e3 := bt_s 30
      have e4 := bt_pos 30
      omega
    refine k_Mo_divides_142 _ _ _ _ _ _ _ _ ?_
    simp only [↓w_nil, ↓w_cons, ↓w_ild4, ↓w_ild3, ↓w_icge, true_and, and_true, true_implies, false_implies, not_true_eq_false, not_false_eq_true, Int.reduceEq, Int.reduceLT, Int.reduceLE, Int.reduceNeg]
    repeat refine And.intro (by first | assumption | exact IsW.kt (by assumption) | omega | (unfold in32; omega) | (unfold in64; omega) | exact True.intro | exact Or.inl True.intro | rfl | exact Nat.le_of_ble_eq_true rfl) ?_
    try first | done | assumption | (unfold in32; omega) | (unfold in64; omega)
    intro _
    refine k_Mo_divides_148 _ _ _ _ _ _ _ _ ?_
    simp only [↓w_nil, ↓w_cons, ↓w_ald0, ↓w_ic, ↓w_cv4, true_and, and_true, true_implies, false_implies, not_true_eq_false, not_false_eq_true, Int.reduceEq, Int.reduceLT, Int.reduceLE, Int.reduceNeg, w_c80, w_c8I, w_c8L, w_c8R, m_k0, m_k1, m_k2, m_k3, m_k9, m_u01, m_u02, m_u03, m_u09, m_u10, m_u12, m_u13, m_u19, m_u20, m_u21, m_u23, m_u29, m_u30, m_u31, m_u32, m_u39, w_up1]
    repeat refine And.intro (by first | assumption | exact IsW.kt (by assumption) | omega | (unfold in32; omega) | (unfold in64; omega) | exact True.intro | exact Or.inl True.intro | rfl | exact Nat.le_of_ble_eq_true rfl) ?_
    try first | done | assumption | (unfold in32; omega) | (unfold in64; omega)
    refine ⟨_, p_Mo_adds hS1 h4 h4 h4 hrm hrm bx bx (Or.inl rfl), ?_⟩
    rintro q M2 ⟨rfl, h2, f2⟩
    refine k_Mo_divides_156 _ _ _ _ _ _ _ _ ?_
    simp only [↓w_nil, ↓w_cons, ↓w_inc4, ↓w_goto, true_and, and_true, true_implies, false_implies, not_true_eq_false, not_false_eq_true, Int.reduceEq, Int.reduceLT, Int.reduceLE, Int.reduceNeg, w_nlI, w_nlL, w_nlR, w_tl0]
    refine ih (k + 1) (2 * x) M2 (by omega) (rf_tr f1 (rf_mo f2 fun s h => Or.inr (Or.inl h))) ?_ (by rw [← hx, Nat.pow_succ]; ac_rfl)
    rw [show ((2 * x : Nat) : Int) = (x : Int) + 1 * x by omega]
    exact h2
theorem l_div60 {g : cw_G} {M : cw_M} {a b : Int} {G t : Nat} {z : cw_V} (hS : Sh M) (ht : t < 1000) (hG : cw_ab G < 1073741824 ^ 30) :
    ∀ (m x y : Nat) (M1 : cw_M), x + y < m → 0 < x → (x % 2 = 1 ∨ y % 2 = 1) → cw_ab x < 1073741824 ^ 31 → cw_ab y < 1073741824 ^ 31 → cw_rf A345 M M1 → RM M1 4 x → RM M1 5 y → Nat.gcd x y * 2 ^ t = G →
      mJ g y_Mo_divides 60 [.inr (.inr 319), .inl a, .inl b, .inl t, z] [] M1 (fun q M' => q = none ∧ RM M' 4 G ∧ cw_rf A345 M M') := by
  have h3 : IR 3 := by unfold IR; omega
  have h4 : IR 4 := by unfold IR; omega
  have h5 : IR 5 := by unfold IR; omega
  have sm : ∀ x y : Nat, y ≤ x → cw_ab (x : Int) < 1073741824 ^ 31 → cw_ab (y : Int) < 1073741824 ^ 31 := by
    intro x y h1 h2
    have e1 := ab_3 (x : Int)
    have e2 := ab_3 (y : Int)
    omega
  intro m
  induction m with
  | zero => intro x y M1 h; omega
  | succ m ih =>
    intro x y M1 hm hx hodd bx by' f1 r4 r5 hg
    have hS1 := hS.rf f1
    obtain ⟨n, n1, n2, n3⟩ := r5.many
    -- both odd: the difference
    have st128 : ∀ (x y : Nat) (M2 : cw_M), x + y ≤ m → 0 < x → x ≤ y → x % 2 = 1 → cw_ab (x : Int) < 1073741824 ^ 31 → cw_ab (y : Int) < 1073741824 ^ 31 → cw_rf A345 M M2 → RM M2 4 x → RM M2 5 y → Nat.gcd x y * 2 ^ t = G →
        mJ g y_Mo_divides 128 [.inr (.inr 319), .inl a, .inl b, .inl t, z] [] M2 (fun q M' => q = none ∧ RM M' 4 G ∧ cw_rf A345 M M') := by
      intro x y M2 hs hx hle ho b1 b2 f2 r4 r5 hg
      have hS2 := hS.rf f2
      refine k_Mo_divides_128 _ _ _ _ _ _ _ _ ?_
      simp only [↓w_nil, ↓w_cons, ↓w_ald0, ↓w_ic, ↓w_cv4, true_and, and_true, true_implies, false_implies, not_true_eq_false, not_false_eq_true, Int.reduceEq, Int.reduceLT, Int.reduceLE, Int.reduceNeg, w_c80, w_c8I, w_c8L, w_c8R, m_k0, m_k1, m_k2, m_k3, m_k9, m_u01, m_u02, m_u03, m_u09, m_u10, m_u12, m_u13, m_u19, m_u20, m_u21, m_u23, m_u29, m_u30, m_u31, m_u32, m_u39, w_up1]
      repeat refine And.intro (by first | assumption | exact IsW.kt (by assumption) | omega | (unfold in32; omega) | (unfold in64; omega) | exact True.intro | exact Or.inl True.intro | rfl | exact Nat.le_of_ble_eq_true rfl) ?_
      try first | done | assumption | (unfold in32; omega) | (unfold in64; omega)
      refine ⟨_, p_Mo_adds hS2 h5 h5 h4 r5 r4 b2 b1 (Or.inr rfl), ?_⟩
      rintro q M3 ⟨rfl, h3, f3⟩
      refine k_Mo_divides_136 _ _ _ _ _ _ _ _ ?_
      simp only [↓w_nil, ↓w_goto, true_and, and_true, true_implies, false_implies, not_true_eq_false, not_false_eq_true, Int.reduceEq, Int.reduceLT, Int.reduceLE, Int.reduceNeg, w_tl0]
      refine ih x (y - x) M3 (by omega) hx (Or.inl ho) b1 (sm y _ (by omega) b2) (rf_tr f2 (rf_mo f3 fun s h => Or.inr (Or.inr h))) (r4.rf f3 h4 (by decide)) ?_ (by rw [Nat.gcd_sub_self_right hle]; exact hg)
      rw [show ((y - x : Nat) : Int) = (y : Int) + -1 * x by omega]
      exact h3
    have st101 : ∀ (x y : Nat) (M2 : cw_M), x + y ≤ m → 0 < x → 0 < y → x % 2 = 1 → y % 2 = 1 → cw_ab (x : Int) < 1073741824 ^ 31 → cw_ab (y : Int) < 1073741824 ^ 31 → cw_rf A345 M M2 → RM M2 4 x → RM M2 5 y → Nat.gcd x y * 2 ^ t = G →
        mJ g y_Mo_divides 101 [.inr (.inr 319), .inl a, .inl b, .inl t, z] [] M2 (fun q M' => q = none ∧ RM M' 4 G ∧ cw_rf A345 M M') := by
      intro x y M2 hs hx hy ho hoy b1 b2 f2 r4 r5 hg
      have hS2 := hS.rf f2
      refine k_Mo_divides_101 _ _ _ _ _ _ _ _ ?_
      simp only [↓w_nil, ↓w_cons, ↓w_ald0, ↓w_ic, ↓w_cv2, true_and, and_true, true_implies, false_implies, not_true_eq_false, not_false_eq_true, Int.reduceEq, Int.reduceLT, Int.reduceLE, Int.reduceNeg, w_c80, w_c8I, w_c8L, w_c8R, m_k0, m_k1, m_k2, m_k3, m_k9, m_u01, m_u02, m_u03, m_u09, m_u10, m_u12, m_u13, m_u19, m_u20, m_u21, m_u23, m_u29, m_u30, m_u31, m_u32, m_u39, w_up1]
      repeat refine And.intro (by first | assumption | exact IsW.kt (by assumption) | omega | (unfold in32; omega) | (unfold in64; omega) | exact True.intro | exact Or.inl True.intro | rfl | exact Nat.le_of_ble_eq_true rfl) ?_
      try first | done | assumption | (unfold in32; omega) | (unfold in64; omega)
      refine ⟨_, p_Mo_against hS2 h4 h5 r4 r5, ?_⟩
      rintro q M3 ⟨rfl, rfl⟩
      have c32 : in32 (cw_cm (cw_ab (x : Int)) (cw_ab (y : Int))) := by unfold in32 cw_cm; split <;> (try split) <;> omega
      have e1 := ab_3 (x : Int)
      have e2 := ab_3 (y : Int)
      refine k_Mo_divides_107 _ _ _ _ _ _ _ _ ?_
      simp only [↓w_nil, ↓w_ifle, true_and, and_true, true_implies, false_implies, not_true_eq_false, not_false_eq_true, Int.reduceEq, Int.reduceLT, Int.reduceLE, Int.reduceNeg, w_tl1]
      repeat refine And.intro (by first | assumption | exact IsW.kt (by assumption) | omega | (unfold in32; omega) | (unfold in64; omega) | exact True.intro | exact Or.inl True.intro | rfl | exact Nat.le_of_ble_eq_true rfl) ?_
      try first | done | assumption | (unfold in32; omega) | (unfold in64; omega)
      refine ⟨fun hc => ?_, fun hc => ?_⟩
      · have hle : x ≤ y := by unfold cw_cm at hc; split at hc <;> (try split at hc) <;> omega
        exact st128 x y M3 hs hx hle ho b1 b2 f2 r4 r5 hg
      · have hle : y ≤ x := by unfold cw_cm at hc; split at hc <;> (try split at hc) <;> omega
        refine k_Mo_divides_110 _ _ _ _ _ _ _ _ ?_
        simp only [↓w_nil, ↓w_cons, ↓w_ald0, ↓w_ic, ↓w_cv2, true_and, and_true, true_implies, false_implies, not_true_eq_false, not_false_eq_true, Int.reduceEq, Int.reduceLT, Int.reduceLE, Int.reduceNeg, w_c80, w_c8I, w_c8L, w_c8R, m_k0, m_k1, m_k2, m_k3, m_k9, m_u01, m_u02, m_u03, m_u09, m_u10, m_u12, m_u13, m_u19, m_u20, m_u21, m_u23, m_u29, m_u30, m_u31, m_u32, m_u39, w_up1]
        repeat refine And.intro (by first | assumption | exact IsW.kt (by assumption) | omega | (unfold in32; omega) | (unfold in64; omega) | exact True.intro | exact Or.inl True.intro | rfl | exact Nat.le_of_ble_eq_true rfl) ?_
        try first | done | assumption | (unfold in32; omega) | (unfold in64; omega)
        refine ⟨_, p_Mo_copies hS2 h3 h4 r4, ?_⟩
        rintro q M5 ⟨rfl, g5, f5⟩
        have hS5 := hS2.rf f5
        refine k_Mo_divides_116 _ _ _ _ _ _ _ _ ?_
        simp only [↓w_nil, ↓w_cons, ↓w_ald0, ↓w_ic, ↓w_cv2, true_and, and_true, true_implies, false_implies, not_true_eq_false, not_false_eq_true, Int.reduceEq, Int.reduceLT, Int.reduceLE, Int.reduceNeg, w_c80, w_c8I, w_c8L, w_c8R, w_tl0, m_k0, m_k1, m_k2, m_k3, m_k9, m_u01, m_u02, m_u03, m_u09, m_u10, m_u12, m_u13, m_u19, m_u20, m_u21, m_u23, m_u29, m_u30, m_u31, m_u32, m_u39, w_up1]
        repeat refine And.intro (by first | assumption | exact IsW.kt (by assumption) | omega | (unfold in32; omega) | (unfold in64; omega) | exact True.intro | exact Or.inl True.intro | rfl | exact Nat.le_of_ble_eq_true rfl) ?_
        try first | done | assumption | (unfold in32; omega) | (unfold in64; omega)
        refine ⟨_, p_Mo_copies hS5 h4 h5 (r5.rf f5 h5 (by decide)), ?_⟩
        rintro q M6 ⟨rfl, g6, f6⟩
        have hS6 := hS5.rf f6
        refine k_Mo_divides_122 _ _ _ _ _ _ _ _ ?_
        simp only [↓w_nil, ↓w_cons, ↓w_ald0, ↓w_ic, ↓w_cv2, true_and, and_true, true_implies, false_implies, not_true_eq_false, not_false_eq_true, Int.reduceEq, Int.reduceLT, Int.reduceLE, Int.reduceNeg, w_c80, w_c8I, w_c8L, w_c8R, w_tl0, m_k0, m_k1, m_k2, m_k3, m_k9, m_u01, m_u02, m_u03, m_u09, m_u10, m_u12, m_u13, m_u19, m_u20, m_u21, m_u23, m_u29, m_u30, m_u31, m_u32, m_u39, w_up1]
        repeat refine And.intro (by first | assumption | exact IsW.kt (by assumption) | omega | (unfold in32; omega) | (unfold in64; omega) | exact True.intro | exact Or.inl True.intro | rfl | exact Nat.le_of_ble_eq_true rfl) ?_
        try first | done | assumption | (unfold in32; omega) | (unfold in64; omega)
        refine ⟨_, p_Mo_copies hS6 h5 h3 (g5.rf f6 h3 (by decide)), ?_⟩
        rintro q M7 ⟨rfl, g7, f7⟩
        simp only [w_tl0]
        exact st128 y x M7 (by omega) hy hle hoy b2 b1 (rf_tr f2 (rf_tr (rf_mo f5 fun s h => Or.inl h) (rf_tr (rf_mo f6 fun s h => Or.inr (Or.inl h)) (rf_mo f7 fun s h => Or.inr (Or.inr h))))) (g6.rf f7 h4 (by decide)) g7 (by rw [Nat.gcd_comm]; exact hg)
    have st85 : ∀ (j x y : Nat) (M2 : cw_M), y < j → x + y ≤ m → 0 < x → 0 < y → x % 2 = 1 → cw_ab (x : Int) < 1073741824 ^ 31 → cw_ab (y : Int) < 1073741824 ^ 31 → cw_rf A345 M M2 → RM M2 4 x → RM M2 5 y → Nat.gcd x y * 2 ^ t = G →
        mJ g y_Mo_divides 85 [.inr (.inr 319), .inl a, .inl b, .inl t, z] [] M2 (fun q M' => q = none ∧ RM M' 4 G ∧ cw_rf A345 M M') := by
      intro j
      induction j with
      | zero => intro x y M2 h; omega
      | succ j ihj =>
        intro x y M2 hj hs hx hy ho b1 b2 f2 r4 r5 hg
        have hS2 := hS.rf f2
        refine k_Mo_divides_85 _ _ _ _ _ _ _ _ ?_
        simp only [↓w_nil, ↓w_cons, ↓w_ald0, ↓w_ic, ↓w_cv1, true_and, and_true, true_implies, false_implies, not_true_eq_false, not_false_eq_true, Int.reduceEq, Int.reduceLT, Int.reduceLE, Int.reduceNeg, w_c80, w_c8I, w_c8L, w_c8R, m_k0, m_k1, m_k2, m_k3, m_k9, m_u01, m_u02, m_u03, m_u09, m_u10, m_u12, m_u13, m_u19, m_u20, m_u21, m_u23, m_u29, m_u30, m_u31, m_u32, m_u39, w_up1]
        repeat refine And.intro (by first | assumption | exact IsW.kt (by assumption) | omega | (unfold in32; omega) | (unfold in64; omega) | exact True.intro | exact Or.inl True.intro | rfl | exact Nat.le_of_ble_eq_true rfl) ?_
        try first | done | assumption | (unfold in32; omega) | (unfold in64; omega)
        refine ⟨_, p_Mo_isEven hS2 h5 r5, ?_⟩
        rintro q M3 ⟨rfl, rfl⟩
        by_cases he : (y : Int) % 2 = 0
        · rw [if_pos he]
          refine k_Mo_divides_90 _ _ _ _ _ _ _ _ ?_
          simp only [↓w_nil, ↓w_ifeq, true_and, and_true, true_implies, false_implies, not_true_eq_false, not_false_eq_true, Int.reduceEq, Int.reduceLT, Int.reduceLE, Int.reduceNeg, w_tl1]
          repeat refine And.intro (by first | assumption | exact IsW.kt (by assumption) | omega | (unfold in32; omega) | (unfold in64; omega) | exact True.intro | exact Or.inl True.intro | rfl | exact Nat.le_of_ble_eq_true rfl) ?_
          try first | done | assumption | (unfold in32; omega) | (unfold in64; omega)
          refine k_Mo_divides_93 _ _ _ _ _ _ _ _ ?_
          simp only [↓w_nil, ↓w_cons, ↓w_ald0, ↓w_ic, ↓w_cv1, true_and, and_true, true_implies, false_implies, not_true_eq_false, not_false_eq_true, Int.reduceEq, Int.reduceLT, Int.reduceLE, Int.reduceNeg, w_c80, w_c8I, w_c8L, w_c8R, m_k0, m_k1, m_k2, m_k3, m_k9, m_u01, m_u02, m_u03, m_u09, m_u10, m_u12, m_u13, m_u19, m_u20, m_u21, m_u23, m_u29, m_u30, m_u31, m_u32, m_u39, w_up1]
          repeat refine And.intro (by first | assumption | exact IsW.kt (by assumption) | omega | (unfold in32; omega) | (unfold in64; omega) | exact True.intro | exact Or.inl True.intro | rfl | exact Nat.le_of_ble_eq_true rfl) ?_
          try first | done | assumption | (unfold in32; omega) | (unfold in64; omega)
          refine ⟨_, p_Mo_halves hS2 h5 r5 (by omega), ?_⟩
          rintro q M4 ⟨rfl, g4, f4⟩
          refine k_Mo_divides_98 _ _ _ _ _ _ _ _ ?_
          simp only [↓w_nil, ↓w_goto, true_and, and_true, true_implies, false_implies, not_true_eq_false, not_false_eq_true, Int.reduceEq, Int.reduceLT, Int.reduceLE, Int.reduceNeg, w_tl0]
          exact ihj x (y / 2) M4 (by omega) (by omega) hx (by omega) ho b1 (sm y _ (by omega) b2) (rf_tr f2 (rf_mo f4 fun s h => Or.inr (Or.inr h))) (r4.rf f4 h4 (by decide)) g4 (by rw [gcd_h' (by omega) ho]; exact hg)
        · rw [if_neg he]
          refine k_Mo_divides_90 _ _ _ _ _ _ _ _ ?_
          simp only [↓w_nil, ↓w_ifeq, true_and, and_true, true_implies, false_implies, not_true_eq_false, not_false_eq_true, Int.reduceEq, Int.reduceLT, Int.reduceLE, Int.reduceNeg, w_tl1]
          repeat refine And.intro (by first | assumption | exact IsW.kt (by assumption) | omega | (unfold in32; omega) | (unfold in64; omega) | exact True.intro | exact Or.inl True.intro | rfl | exact Nat.le_of_ble_eq_true rfl) ?_
          try first | done | assumption | (unfold in32; omega) | (unfold in64; omega)
          exact st101 x y M3 hs hx hy ho (by omega) b1 b2 f2 r4 r5 hg
    have st69 : ∀ (j x y : Nat) (M2 : cw_M), x < j → x + y ≤ m → 0 < x → 0 < y → (x % 2 = 1 ∨ y % 2 = 1) → cw_ab (x : Int) < 1073741824 ^ 31 → cw_ab (y : Int) < 1073741824 ^ 31 → cw_rf A345 M M2 → RM M2 4 x → RM M2 5 y → Nat.gcd x y * 2 ^ t = G →
        mJ g y_Mo_divides 69 [.inr (.inr 319), .inl a, .inl b, .inl t, z] [] M2 (fun q M' => q = none ∧ RM M' 4 G ∧ cw_rf A345 M M') := by
      intro j
      induction j with
      | zero => intro x y M2 h; omega
      | succ j ihj =>
        intro x y M2 hj hs hx hy ho b1 b2 f2 r4 r5 hg
        have hS2 := hS.rf f2
        refine k_Mo_divides_69 _ _ _ _ _ _ _ _ ?_
        simp only [↓w_nil, ↓w_cons, ↓w_ald0, ↓w_ic, ↓w_cv1, true_and, and_true, true_implies, false_implies, not_true_eq_false, not_false_eq_true, Int.reduceEq, Int.reduceLT, Int.reduceLE, Int.reduceNeg, w_c80, w_c8I, w_c8L, w_c8R, m_k0, m_k1, m_k2, m_k3, m_k9, m_u01, m_u02, m_u03, m_u09, m_u10, m_u12, m_u13, m_u19, m_u20, m_u21, m_u23, m_u29, m_u30, m_u31, m_u32, m_u39, w_up1]
        repeat refine And.intro (by first | assumption | exact IsW.kt (by assumption) | omega | (unfold in32; omega) | (unfold in64; omega) | exact True.intro | exact Or.inl True.intro | rfl | exact Nat.le_of_ble_eq_true rfl) ?_
        try first | done | assumption | (unfold in32; omega) | (unfold in64; omega)
        refine ⟨_, p_Mo_isEven hS2 h4 r4, ?_⟩
        rintro q M3 ⟨rfl, rfl⟩
        by_cases he : (x : Int) % 2 = 0
        · rw [if_pos he]
          refine k_Mo_divides_74 _ _ _ _ _ _ _ _ ?_
          simp only [↓w_nil, ↓w_ifeq, true_and, and_true, true_implies, false_implies, not_true_eq_false, not_false_eq_true, Int.reduceEq, Int.reduceLT, Int.reduceLE, Int.reduceNeg, w_tl1]
          repeat refine And.intro (by first | assumption | exact IsW.kt (by assumption) | omega | (unfold in32; omega) | (unfold in64; omega) | exact True.intro | exact Or.inl True.intro | rfl | exact Nat.le_of_ble_eq_true rfl) ?_
          try first | done | assumption | (unfold in32; omega) | (unfold in64; omega)
          refine k_Mo_divides_77 _ _ _ _ _ _ _ _ ?_
          simp only [↓w_nil, ↓w_cons, ↓w_ald0, ↓w_ic, ↓w_cv1, true_and, and_true, true_implies, false_implies, not_true_eq_false, not_false_eq_true, Int.reduceEq, Int.reduceLT, Int.reduceLE, Int.reduceNeg, w_c80, w_c8I, w_c8L, w_c8R, m_k0, m_k1, m_k2, m_k3, m_k9, m_u01, m_u02, m_u03, m_u09, m_u10, m_u12, m_u13, m_u19, m_u20, m_u21, m_u23, m_u29, m_u30, m_u31, m_u32, m_u39, w_up1]
          repeat refine And.intro (by first | assumption | exact IsW.kt (by assumption) | omega | (unfold in32; omega) | (unfold in64; omega) | exact True.intro | exact Or.inl True.intro | rfl | exact Nat.le_of_ble_eq_true rfl) ?_
          try first | done | assumption | (unfold in32; omega) | (unfold in64; omega)
          refine ⟨_, p_Mo_halves hS2 h4 r4 (by omega), ?_⟩
          rintro q M4 ⟨rfl, g4, f4⟩
          refine k_Mo_divides_82 _ _ _ _ _ _ _ _ ?_
          simp only [↓w_nil, ↓w_goto, true_and, and_true, true_implies, false_implies, not_true_eq_false, not_false_eq_true, Int.reduceEq, Int.reduceLT, Int.reduceLE, Int.reduceNeg, w_tl0]
          exact ihj (x / 2) y M4 (by omega) (by omega) (by omega) hy (by omega) (sm x _ (by omega) b1) b2 (rf_tr f2 (rf_mo f4 fun s h => Or.inr (Or.inl h))) g4 (r5.rf f4 h5 (by decide)) (by rw [gcd_h (by omega) (by omega)]; exact hg)
        · rw [if_neg he]
          refine k_Mo_divides_74 _ _ _ _ _ _ _ _ ?_
          simp only [↓w_nil, ↓w_ifeq, true_and, and_true, true_implies, false_implies, not_true_eq_false, not_false_eq_true, Int.reduceEq, Int.reduceLT, Int.reduceLE, Int.reduceNeg, w_tl1]
          repeat refine And.intro (by first | assumption | exact IsW.kt (by assumption) | omega | (unfold in32; omega) | (unfold in64; omega) | exact True.intro | exact Or.inl True.intro | rfl | exact Nat.le_of_ble_eq_true rfl) ?_
          try first | done | assumption | (unfold in32; omega) | (unfold in64; omega)
          exact st85 (y + 1) x y M3 (by omega) hs hx hy (by omega) b1 b2 f2 r4 r5 hg
    refine k_Mo_divides_60 _ _ _ _ _ _ _ _ ?_
    simp only [↓w_nil, ↓w_cons, ↓w_ald0, ↓w_gf2_1, ↓w_ic, ↓w_iald, ↓w_ifle, true_and, and_true, true_implies, false_implies, not_true_eq_false, not_false_eq_true, Int.reduceEq, Int.reduceLT, Int.reduceLE, Int.reduceNeg, m_k0, m_k1, m_k2, m_k3, m_k9, m_u01, m_u02, m_u03, m_u09, m_u10, m_u12, m_u13, m_u19, m_u20, m_u21, m_u23, m_u29, m_u30, m_u31, m_u32, m_u39, w_up1, hS1.d1, n1]
    refine ⟨by decide, by decide, by unfold in32; omega, fun h => ?_, fun h => ?_⟩
    · have y0 : y = 0 := by omega
      subst y0
      rw [Nat.gcd_zero_right] at hg
      refine k_Mo_divides_139 _ _ _ _ _ _ _ _ ?_
      simp only [↓w_nil, ↓w_cons, ↓w_ic, ↓w_ist4, ↓w_fall, true_and, and_true, true_implies, false_implies, not_true_eq_false, not_false_eq_true, Int.reduceEq, Int.reduceLT, Int.reduceLE, Int.reduceNeg, w_nlI, w_nlL, w_nlR]
      exact l_div142 hS ht hG t 0 x M1 (by omega) f1 r4 hg
    · exact st69 (x + 1) x y M1 (by omega) (by omega) hx (by omega) hodd bx by' f1 r4 r5 hg
theorem p_Mo_divides {g : cw_G} {M : cw_M} {a b : Int} {va vb : Nat} {sa sb : Int} (hS : Sh M) (ha : IR a) (hb : IR b) (ha3 : ¬ A345 a) (hb3 : ¬ A345 b) (hva : RM M a sa) (hvb : RM M b sb) (ea : cw_ab sa = va) (eb : cw_ab sb = vb) (h0 : 0 < va) (h1 : 0 < vb) (hba : cw_ab sa < 1073741824 ^ 30) (hbb : cw_ab sb < 1073741824 ^ 30) :
    mC g y_Mo_divides [.inr (.inr 319), .inl a, .inl b] M (fun q M' => q = none ∧ RM M' 4 ((Nat.gcd va vb : Nat) : Int) ∧ cw_rf A345 M M') := by
  obtain ⟨a0, a1⟩ := id ha
  obtain ⟨b0, b1⟩ := id hb
  have h4 : IR 4 := by unfold IR; omega
  have h5 : IR 5 := by unfold IR; omega
  have na4 : a ≠ 4 := fun q => ha3 (Or.inr (Or.inl q))
  have nb4 : b ≠ 4 := fun q => hb3 (Or.inr (Or.inl q))
  have e900 : (1073741824 : Int) ^ 30 = ((2 ^ 900 : Nat) : Int) := by decide +kernel
  have hG : cw_ab ((Nat.gcd va vb : Nat) : Int) < 1073741824 ^ 30 := by
    have h : Nat.gcd va vb ≤ va := Nat.gcd_le_left _ h0
    have := ab_3 ((Nat.gcd va vb : Nat) : Int)
    omega
  have loop : ∀ (m t x y : Nat) (M1 : cw_M), x < m → 0 < x → 0 < y → x * 2 ^ t = va → y * 2 ^ t = vb → cw_rf A345 M M1 → RM M1 4 x → RM M1 5 y →
      mJ g y_Mo_divides 28 [.inr (.inr 319), .inl a, .inl b, .inl t, cU] [] M1 (fun q M' => q = none ∧ RM M' 4 ((Nat.gcd va vb : Nat) : Int) ∧ cw_rf A345 M M') := by
    intro m
    induction m with
    | zero => intro t x y M1 h; omega
    | succ m ih =>
      intro t x y M1 hm hx hy ex ey f1 r4 r5
      have hS1 := hS.rf f1
      have p2 : 0 < 2 ^ t := Nat.pow_pos (by decide)
      have xva : x ≤ va := by rw [← ex]; exact Nat.le_mul_of_pos_right _ p2
      have yvb : y ≤ vb := by rw [← ey]; exact Nat.le_mul_of_pos_right _ p2
      have ht : t < 1000 := by
        have q1 : 2 ^ t ≤ va := by rw [← ex]; exact Nat.le_mul_of_pos_left _ hx
        have q2 : va < 2 ^ 900 := by
          have : (va : Int) < ((2 ^ 900 : Nat) : Int) := by rw [← e900, ← ea]; exact hba
          exact Int.ofNat_lt.mp this
        have q3 : 2 ^ t < 2 ^ 900 := Nat.lt_of_le_of_lt q1 q2
        have := (Nat.pow_lt_pow_iff_right (show 1 < 2 by decide)).mp q3
        omega
      have bx : cw_ab (x : Int) < 1073741824 ^ 31 := by
        have e1 := ab_3 (x : Int)
        have e3 := bt_s 30
        have e4 := bt_pos 30
        omega
      have by' : cw_ab (y : Int) < 1073741824 ^ 31 := by
        have e1 := ab_3 (y : Int)
        have e3 := bt_s 30
        have e4 := bt_pos 30
        omega
      have hg : Nat.gcd x y * 2 ^ t = Nat.gcd va vb := by rw [← ex, ← ey, Nat.gcd_mul_right]
      clear e900
      have out : (x % 2 = 1 ∨ y % 2 = 1) → mJ g y_Mo_divides 60 [.inr (.inr 319), .inl a, .inl b, .inl t, cU] [] M1 (fun q M' => q = none ∧ RM M' 4 ((Nat.gcd va vb : Nat) : Int) ∧ cw_rf A345 M M') := fun ho =>
        l_div60 hS ht hG (x + y + 1) x y M1 (by omega) hx ho bx by' f1 r4 r5 hg
      refine k_Mo_divides_28 _ _ _ _ _ _ _ _ ?_
      simp only [↓w_nil, ↓w_cons, ↓w_ald0, ↓w_ic, ↓w_cv1, true_and, and_true, true_implies, false_implies, not_true_eq_false, not_false_eq_true, Int.reduceEq, Int.reduceLT, Int.reduceLE, Int.reduceNeg, w_c80, w_c8I, w_c8L, w_c8R, m_k0, m_k1, m_k2, m_k3, m_k9, m_u01, m_u02, m_u03, m_u09, m_u10, m_u12, m_u13, m_u19, m_u20, m_u21, m_u23, m_u29, m_u30, m_u31, m_u32, m_u39, w_up1]
      repeat refine And.intro (by first | assumption | exact IsW.kt (by assumption) | omega | (unfold in32; omega) | (unfold in64; omega) | exact True.intro | exact Or.inl True.intro | rfl | exact Nat.le_of_ble_eq_true rfl) ?_
      try first | done | assumption | (unfold in32; omega) | (unfold in64; omega)
      refine ⟨_, p_Mo_isEven hS1 h4 r4, ?_⟩
      rintro q M3 ⟨rfl, rfl⟩
      by_cases he : (x : Int) % 2 = 0
      · rw [if_pos he]
        refine k_Mo_divides_33 _ _ _ _ _ _ _ _ ?_
        simp only [↓w_nil, ↓w_ifeq, true_and, and_true, true_implies, false_implies, not_true_eq_false, not_false_eq_true, Int.reduceEq, Int.reduceLT, Int.reduceLE, Int.reduceNeg, w_tl1]
        repeat refine And.intro (by first | assumption | exact IsW.kt (by assumption) | omega | (unfold in32; omega) | (unfold in64; omega) | exact True.intro | exact Or.inl True.intro | rfl | exact Nat.le_of_ble_eq_true rfl) ?_
        try first | done | assumption | (unfold in32; omega) | (unfold in64; omega)
        refine k_Mo_divides_36 _ _ _ _ _ _ _ _ ?_
        simp only [↓w_nil, ↓w_cons, ↓w_ald0, ↓w_ic, ↓w_cv1, true_and, and_true, true_implies, false_implies, not_true_eq_false, not_false_eq_true, Int.reduceEq, Int.reduceLT, Int.reduceLE, Int.reduceNeg, w_c80, w_c8I, w_c8L, w_c8R, m_k0, m_k1, m_k2, m_k3, m_k9, m_u01, m_u02, m_u03, m_u09, m_u10, m_u12, m_u13, m_u19, m_u20, m_u21, m_u23, m_u29, m_u30, m_u31, m_u32, m_u39, w_up1]
        repeat refine And.intro (by first | assumption | exact IsW.kt (by assumption) | omega | (unfold in32; omega) | (unfold in64; omega) | exact True.intro | exact Or.inl True.intro | rfl | exact Nat.le_of_ble_eq_true rfl) ?_
        try first | done | assumption | (unfold in32; omega) | (unfold in64; omega)
        refine ⟨_, p_Mo_isEven hS1 h5 r5, ?_⟩
        rintro q M4 ⟨rfl, rfl⟩
        by_cases he2 : (y : Int) % 2 = 0
        · rw [if_pos he2]
          refine k_Mo_divides_41 _ _ _ _ _ _ _ _ ?_
          simp only [↓w_nil, ↓w_ifeq, true_and, and_true, true_implies, false_implies, not_true_eq_false, not_false_eq_true, Int.reduceEq, Int.reduceLT, Int.reduceLE, Int.reduceNeg, w_tl1]
          repeat refine And.intro (by first | assumption | exact IsW.kt (by assumption) | omega | (unfold in32; omega) | (unfold in64; omega) | exact True.intro | exact Or.inl True.intro | rfl | exact Nat.le_of_ble_eq_true rfl) ?_
          try first | done | assumption | (unfold in32; omega) | (unfold in64; omega)
          refine k_Mo_divides_44 _ _ _ _ _ _ _ _ ?_
          simp only [↓w_nil, ↓w_cons, ↓w_ald0, ↓w_ic, ↓w_cv1, true_and, and_true, true_implies, false_implies, not_true_eq_false, not_false_eq_true, Int.reduceEq, Int.reduceLT, Int.reduceLE, Int.reduceNeg, w_c80, w_c8I, w_c8L, w_c8R, m_k0, m_k1, m_k2, m_k3, m_k9, m_u01, m_u02, m_u03, m_u09, m_u10, m_u12, m_u13, m_u19, m_u20, m_u21, m_u23, m_u29, m_u30, m_u31, m_u32, m_u39, w_up1]
          repeat refine And.intro (by first | assumption | exact IsW.kt (by assumption) | omega | (unfold in32; omega) | (unfold in64; omega) | exact True.intro | exact Or.inl True.intro | rfl | exact Nat.le_of_ble_eq_true rfl) ?_
          try first | done | assumption | (unfold in32; omega) | (unfold in64; omega)
          refine ⟨_, p_Mo_halves hS1 h4 r4 (by omega), ?_⟩
          rintro q M5 ⟨rfl, g5, f5⟩
          refine k_Mo_divides_49 _ _ _ _ _ _ _ _ ?_
          simp only [↓w_nil, ↓w_cons, ↓w_ald0, ↓w_ic, ↓w_cv1, true_and, and_true, true_implies, false_implies, not_true_eq_false, not_false_eq_true, Int.reduceEq, Int.reduceLT, Int.reduceLE, Int.reduceNeg, w_c80, w_c8I, w_c8L, w_c8R, w_tl0, m_k0, m_k1, m_k2, m_k3, m_k9, m_u01, m_u02, m_u03, m_u09, m_u10, m_u12, m_u13, m_u19, m_u20, m_u21, m_u23, m_u29, m_u30, m_u31, m_u32, m_u39, w_up1]
          repeat refine And.intro (by first | assumption | exact IsW.kt (by assumption) | omega | (unfold in32; omega) | (unfold in64; omega) | exact True.intro | exact Or.inl True.intro | rfl | exact Nat.le_of_ble_eq_true rfl) ?_
          try first | done | assumption | (unfold in32; omega) | (unfold in64; omega)
          refine ⟨_, p_Mo_halves (hS1.rf f5) h5 (r5.rf f5 h5 (by decide)) (by omega), ?_⟩
          rintro q M6 ⟨rfl, g6, f6⟩
          refine k_Mo_divides_54 _ _ _ _ _ _ _ _ ?_
          simp only [↓w_nil, ↓w_cons, ↓w_inc3, ↓w_goto, true_and, and_true, true_implies, false_implies, not_true_eq_false, not_false_eq_true, Int.reduceEq, Int.reduceLT, Int.reduceLE, Int.reduceNeg, w_nlI, w_nlL, w_nlR, w_tl0]
          refine ih (t + 1) (x / 2) (y / 2) M6 (by omega) (by omega) (by omega) ?_ ?_ (rf_tr f1 (rf_tr (rf_mo f5 fun s h => Or.inr (Or.inl h)) (rf_mo f6 fun s h => Or.inr (Or.inr h)))) (g5.rf f6 h4 (by decide)) g6
          · rw [Nat.pow_succ, show x / 2 * (2 ^ t * 2) = (x / 2 * 2) * 2 ^ t by ac_rfl, show x / 2 * 2 = x by omega]; exact ex
          · rw [Nat.pow_succ, show y / 2 * (2 ^ t * 2) = (y / 2 * 2) * 2 ^ t by ac_rfl, show y / 2 * 2 = y by omega]; exact ey
        · rw [if_neg he2]
          refine k_Mo_divides_41 _ _ _ _ _ _ _ _ ?_
          simp only [↓w_nil, ↓w_ifeq, true_and, and_true, true_implies, false_implies, not_true_eq_false, not_false_eq_true, Int.reduceEq, Int.reduceLT, Int.reduceLE, Int.reduceNeg, w_tl1]
          repeat refine And.intro (by first | assumption | exact IsW.kt (by assumption) | omega | (unfold in32; omega) | (unfold in64; omega) | exact True.intro | exact Or.inl True.intro | rfl | exact Nat.le_of_ble_eq_true rfl) ?_
          try first | done | assumption | (unfold in32; omega) | (unfold in64; omega)
          exact out (by omega)
      · rw [if_neg he]
        refine k_Mo_divides_33 _ _ _ _ _ _ _ _ ?_
        simp only [↓w_nil, ↓w_ifeq, true_and, and_true, true_implies, false_implies, not_true_eq_false, not_false_eq_true, Int.reduceEq, Int.reduceLT, Int.reduceLE, Int.reduceNeg, w_tl1]
        repeat refine And.intro (by first | assumption | exact IsW.kt (by assumption) | omega | (unfold in32; omega) | (unfold in64; omega) | exact True.intro | exact Or.inl True.intro | rfl | exact Nat.le_of_ble_eq_true rfl) ?_
        try first | done | assumption | (unfold in32; omega) | (unfold in64; omega)
        exact out (by omega)
  clear e900
  refine cw_C_of (L := [.inr (.inr 319), .inl a, .inl b, cU, cU]) ok_Mo_divides (Nat.le_refl _) (Nat.le_of_ble_eq_true rfl) rfl ?_
  refine k_Mo_divides_0 _ _ _ _ _ _ _ _ ?_
  simp only [↓w_nil, ↓w_cons, ↓w_ald0, ↓w_ic, ↓w_ild1, ↓w_cv2, true_and, and_true, true_implies, false_implies, not_true_eq_false, not_false_eq_true, Int.reduceEq, Int.reduceLT, Int.reduceLE, Int.reduceNeg, w_c80, w_c8I, w_c8L, w_c8R, m_k0, m_k1, m_k2, m_k3, m_k9, m_u01, m_u02, m_u03, m_u09, m_u10, m_u12, m_u13, m_u19, m_u20, m_u21, m_u23, m_u29, m_u30, m_u31, m_u32, m_u39, w_up1]
  repeat refine And.intro (by first | assumption | exact IsW.kt (by assumption) | omega | (unfold in32; omega) | (unfold in64; omega) | exact True.intro | exact Or.inl True.intro | rfl | exact Nat.le_of_ble_eq_true rfl) ?_
  try first | done | assumption | (unfold in32; omega) | (unfold in64; omega)
  refine ⟨_, p_Mo_copies hS h4 ha hva, ?_⟩
  rintro q M1 ⟨rfl, g1, f1⟩
  have hS1 := hS.rf f1
  refine k_Mo_divides_6 _ _ _ _ _ _ _ _ ?_
  simp only [↓w_nil, ↓w_cons, ↓w_ald0, ↓w_ic, ↓w_ild2, ↓w_cv2, true_and, and_true, true_implies, false_implies, not_true_eq_false, not_false_eq_true, Int.reduceEq, Int.reduceLT, Int.reduceLE, Int.reduceNeg, w_c80, w_c8I, w_c8L, w_c8R, w_tl0, m_k0, m_k1, m_k2, m_k3, m_k9, m_u01, m_u02, m_u03, m_u09, m_u10, m_u12, m_u13, m_u19, m_u20, m_u21, m_u23, m_u29, m_u30, m_u31, m_u32, m_u39, w_up1]
  repeat refine And.intro (by first | assumption | exact IsW.kt (by assumption) | omega | (unfold in32; omega) | (unfold in64; omega) | exact True.intro | exact Or.inl True.intro | rfl | exact Nat.le_of_ble_eq_true rfl) ?_
  try first | done | assumption | (unfold in32; omega) | (unfold in64; omega)
  refine ⟨_, p_Mo_copies hS1 h5 hb (hvb.rf f1 hb nb4), ?_⟩
  rintro q M2 ⟨rfl, g2, f2⟩
  have hS2 := hS1.rf f2
  have g12 := g1.rf f2 h4 (by decide)
  refine k_Mo_divides_12 _ _ _ _ _ _ _ _ ?_
  simp only [↓w_nil, ↓w_cons, ↓w_ald0, ↓w_gf2_2, ↓w_ic, ↓w_iast, ↓w_ist3, ↓w_fall, true_and, and_true, true_implies, false_implies, not_true_eq_false, not_false_eq_true, Int.reduceEq, Int.reduceLT, Int.reduceLE, Int.reduceNeg, w_nlI, w_nlL, w_nlR, w_tl0, m_k0, m_k1, m_k2, m_k3, m_k9, m_u01, m_u02, m_u03, m_u09, m_u10, m_u12, m_u13, m_u19, m_u20, m_u21, m_u23, m_u29, m_u30, m_u31, m_u32, m_u39, w_up1, hS2.d2]
  refine ⟨by decide, by decide, by decide, by decide, ?_⟩
  have one : ∀ (M : cw_M) (r v : Int) (n : Nat), RM M r v → cw_ab v = n → 0 < n → ∀ k : Int, RM (cw_up M 322 r 1) r n := by
    intro M r v n h e hn k
    obtain ⟨m, c1, c2, c3, c4, c5, c6⟩ := h
    have e1 := ab_3 (n : Int)
    have e2 := sg_3 (n : Int)
    refine ⟨m, c1, ?_, ?_, ?_, ?_, ?_⟩
    · rw [m_u21]; exact c2
    · rw [rd_u2]; exact c3
    · rw [rd_u2]; exact c4
    · rw [rd_u2]; omega
    · rw [w_up1]; omega
  have f3 : cw_rf (fun s => s = 4) M2 (cw_up M2 322 4 1) := rf_u2 rf_rf rfl
  have f4 : cw_rf (fun s => s = 5) (cw_up M2 322 4 1) (cw_up (cw_up M2 322 4 1) 322 5 1) := rf_u2 rf_rf rfl
  refine loop (va + 1) 0 va vb _ (by omega) h0 h1 (by omega) (by omega) (rf_tr (rf_mo f1 fun s h => Or.inr (Or.inl h)) (rf_tr (rf_mo f2 fun s h => Or.inr (Or.inr h)) (rf_tr (rf_mo f3 fun s h => Or.inr (Or.inl h)) (rf_mo f4 fun s h => Or.inr (Or.inr h))))) ?_ ?_
  · exact (one M2 4 sa va g12 ea h0 0).rf f4 h4 (by decide)
  · exact one _ 5 sb vb (g2.rf f3 h5 (by decide)) eb h1 0
