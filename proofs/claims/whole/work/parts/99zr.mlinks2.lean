/-! the reference: links -/
def RL (s : Int) : Prop := s = 0 ∨ s = 8 ∨ s = 9 ∨ s = 12 ∨ s = 14
def Lb (n : Nat) (C N D : Int) : Prop := (0 < D ∧ D ≤ (201 : Int) ^ n) ∧ (-((n : Int) * C * (201 : Int) ^ n) ≤ N ∧ N ≤ (n : Int) * C * (201 : Int) ^ n)
theorem lb_up {n m : Nat} {C N D w S : Int} (hC : 0 ≤ C) (h : Lb n C N D) (hw : 0 < w ∧ w ≤ (201 : Int) ^ m) (hS : -((m : Int) * C) ≤ S ∧ S ≤ (m : Int) * C) : Lb (n + m) C (N * w + 1 * (S * D)) (D * w) := by
  obtain ⟨⟨d0, d1⟩, hN⟩ := h
  have zn := z_pos n
  have zm := z_pos m
  have a1 := ab_mb (b := (201 : Int) ^ m) hN ⟨by omega, hw.2⟩
  have a2 := ab_mb (b := (201 : Int) ^ n) hS ⟨by omega, d1⟩
  have a3 := Int.mul_pos d0 hw.1
  have a4 := Int.mul_le_mul d1 hw.2 (Int.le_of_lt hw.1) (Int.le_of_lt zn)
  have mc := Int.mul_nonneg (show (0 : Int) ≤ m by omega) hC
  have a5 : (m : Int) * C * (201 : Int) ^ n ≤ (m : Int) * C * (201 : Int) ^ n * (201 : Int) ^ m := by
    have := Int.mul_le_mul_of_nonneg_left (show (1 : Int) ≤ (201 : Int) ^ m by omega) (Int.mul_nonneg mc (Int.le_of_lt zn))
    rw [Int.mul_one] at this
    exact this
  have e : ((n + m : Nat) : Int) * C * (201 : Int) ^ (n + m) = (n : Int) * C * (201 : Int) ^ n * (201 : Int) ^ m + (m : Int) * C * (201 : Int) ^ n * (201 : Int) ^ m := by
    rw [Int.natCast_add, Int.pow_add]; grind
  unfold Lb
  rw [e, Int.pow_add]
  exact ⟨⟨a3, a4⟩, by omega, by omega⟩
theorem tl_b {h : Int → Int} {C : Int} (hC : 0 ≤ C) : ∀ t : Tr, (∀ p, t_in t p → -C ≤ h p ∧ h p ≤ C) → -((t_lv t : Int) * C) ≤ t_tl h t ∧ t_tl h t ≤ (t_lv t : Int) * C
  | .num p, hh => by
    have := hh p rfl
    show -(((1 : Nat) : Int) * C) ≤ h p ∧ h p ≤ ((1 : Nat) : Int) * C
    rw [Int.natCast_one, Int.one_mul]; exact this
  | .neg x, hh => tl_b hC x hh
  | .add a b, hh => by
    have ha := tl_b hC a (fun p hp => hh p (Or.inl hp))
    have hb := tl_b hC b (fun p hp => hh p (Or.inr hp))
    show -(((t_lv a + t_lv b : Nat) : Int) * C) ≤ t_tl h a + t_tl h b ∧ t_tl h a + t_tl h b ≤ ((t_lv a + t_lv b : Nat) : Int) * C
    rw [Int.natCast_add, Int.add_mul]; omega
  | .mul a b, hh => by
    have ha := tl_b hC a (fun p hp => hh p (Or.inl hp))
    have hb := tl_b hC b (fun p hp => hh p (Or.inr hp))
    show -(((t_lv a + t_lv b : Nat) : Int) * C) ≤ t_tl h a + t_tl h b ∧ t_tl h a + t_tl h b ≤ ((t_lv a + t_lv b : Nat) : Int) * C
    rw [Int.natCast_add, Int.add_mul]; omega
  | .natCast _, _ => by show -(((1 : Nat) : Int) * C) ≤ 0 ∧ 0 ≤ ((1 : Nat) : Int) * C; rw [Int.natCast_one, Int.one_mul]; omega
  | .intCast _, _ => by show -(((1 : Nat) : Int) * C) ≤ 0 ∧ 0 ≤ ((1 : Nat) : Int) * C; rw [Int.natCast_one, Int.one_mul]; omega
  | .var _, _ => by show -(((1 : Nat) : Int) * C) ≤ 0 ∧ 0 ≤ ((1 : Nat) : Int) * C; rw [Int.natCast_one, Int.one_mul]; omega
  | .sub _ _, _ => by show -(((1 : Nat) : Int) * C) ≤ 0 ∧ 0 ≤ ((1 : Nat) : Int) * C; rw [Int.natCast_one, Int.one_mul]; omega
  | .pow _ _, _ => by show -(((1 : Nat) : Int) * C) ≤ 0 ∧ 0 ≤ ((1 : Nat) : Int) * C; rw [Int.natCast_one, Int.one_mul]; omega
theorem kix_b {c h : Int → Int} {C : Int} (hC : 0 ≤ C) : ∀ n : Nat, (∀ q : Int, 0 ≤ q → q < n → (c q = 0 ∨ (c q = 1 ∧ -C ≤ h q ∧ h q ≤ C))) → -((n : Int) * C) ≤ k_ix c h n ∧ k_ix c h n ≤ (n : Int) * C
  | 0, _ => by show -(((0 : Nat) : Int) * C) ≤ 0 ∧ 0 ≤ ((0 : Nat) : Int) * C; rw [Int.natCast_zero, Int.zero_mul]; omega
  | n + 1, hh => by
    have ih := kix_b hC n (fun q a b => hh q a (by omega))
    show -(((n + 1 : Nat) : Int) * C) ≤ k_ix c h n + c n * h n ∧ k_ix c h n + c n * h n ≤ ((n + 1 : Nat) : Int) * C
    have e : ((n + 1 : Nat) : Int) * C = n * C + C := by rw [Int.natCast_add, Int.add_mul, Int.natCast_one, Int.one_mul]
    rw [e]
    rcases hh n (by omega) (by omega) with z | ⟨z, z2⟩ <;> rw [z] <;> omega
theorem p_Mo_grows {g : cw_G} {M : cw_M} {N D S w : Int} (hS : Sh M) (h8 : RM M 8 N) (h9 : RM M 9 D) (h12 : RM M 12 S) (bN : cw_ab N < 1073741824 ^ 20) (bD : cw_ab D < 1073741824 ^ 10) (bS : cw_ab S < 1073741824 ^ 10) (hw : 0 ≤ w ∧ w ≤ 13254776280841401) :
    mC g y_Mo_grows [.inr (.inr 319), .inr (.inl w)] M (fun q M' => q = none ∧ RM M' 8 (N * w + 1 * (S * D)) ∧ RM M' 9 (D * w) ∧ cw_rf RL M M') := by
  have B22 : (1073741824 : Int) ^ 22 = 1073741824 ^ 20 * 1073741824 ^ 2 := by decide
  have B20 : (1073741824 : Int) ^ 20 = 1073741824 ^ 10 * 1073741824 ^ 10 := by decide
  have bw : cw_ab w < 1073741824 ^ 2 := Int.lt_trans (ab_lt (b := 13254776280841402) (by omega)) (by decide)
  have b1 : cw_ab (N * w) < 1073741824 ^ 31 := by
    rw [ab_mul]
    exact Int.lt_trans (mul_lt2 (ab_nn _) bN (ab_nn _) bw) (by decide)
  have b2 : cw_ab (S * D) < 1073741824 ^ 31 := by
    rw [ab_mul]
    exact Int.lt_trans (mul_lt2 (ab_nn _) bS (ab_nn _) bD) (by decide)
  refine cw_C_of (L := [.inr (.inr 319), .inr (.inl w), cU]) ok_Mo_grows (Nat.le_refl _) (Nat.le_of_ble_eq_true rfl) rfl ?_
  refine cw_J_hide ?_
  refine k_Mo_grows_0 _ _ _ _ _ _ _ _ ?_
  simp (disch := omega) only [↓w_nil, ↓w_cons, ↓w_ald0, ↓w_ic, ↓w_lld1, ↓w_cv3, true_and, and_true, true_implies, false_implies, not_true_eq_false, not_false_eq_true, Int.reduceEq, Int.reduceLT, Int.reduceLE, Int.reduceNeg, w_c80, w_c8I, w_c8L, w_c8R, w_up1, w_up2, w_up3]
  repeat refine And.intro (by first | assumption | exact IsW.kt (by assumption) | omega | (unfold in32; omega) | (unfold in64; omega) | exact True.intro | exact Or.inl True.intro | exact Or.inr True.intro | rfl | exact Nat.le_of_ble_eq_true rfl) ?_
  try first | done | assumption | (unfold in32; omega) | (unfold in64; omega)
  refine ⟨_, p_Mo_timesLong (va := N) (ia := 20) hS ⟨by omega, by omega⟩ ⟨by omega, by omega⟩ (by omega) h8 bN (by omega) (by omega), ?_⟩
  rintro q M1 ⟨rfl, g1, r1⟩
  have hS1 := hS.rf r1
  refine k_Mo_grows_9 _ _ _ _ _ _ _ _ ?_
  simp (disch := omega) only [↓w_nil, ↓w_cons, ↓w_ald0, ↓w_ic, ↓w_cv3, true_and, and_true, true_implies, false_implies, not_true_eq_false, not_false_eq_true, Int.reduceEq, Int.reduceLT, Int.reduceLE, Int.reduceNeg, w_c80, w_c8I, w_c8L, w_c8R, w_up1, w_up2, w_up3, w_tl0]
  repeat refine And.intro (by first | assumption | exact IsW.kt (by assumption) | omega | (unfold in32; omega) | (unfold in64; omega) | exact True.intro | exact Or.inl True.intro | exact Or.inr True.intro | rfl | exact Nat.le_of_ble_eq_true rfl) ?_
  try first | done | assumption | (unfold in32; omega) | (unfold in64; omega)
  refine ⟨_, p_Mo_times (va := S) (vb := D) (ia := 10) (ib := 10) hS1 ⟨by omega, by omega⟩ ⟨by omega, by omega⟩ ⟨by omega, by omega⟩ (h12.rf r1 ⟨by omega, by omega⟩ (by omega)) (h9.rf r1 ⟨by omega, by omega⟩ (by omega)) bS bD (by omega), ?_⟩
  rintro q M2 ⟨rfl, g2, r2⟩
  have hS2 := hS1.rf r2
  refine k_Mo_grows_19 _ _ _ _ _ _ _ _ ?_
  simp (disch := omega) only [↓w_nil, ↓w_cons, ↓w_ald0, ↓w_ic, ↓w_cv4, true_and, and_true, true_implies, false_implies, not_true_eq_false, not_false_eq_true, Int.reduceEq, Int.reduceLT, Int.reduceLE, Int.reduceNeg, w_c80, w_c8I, w_c8L, w_c8R, w_up1, w_up2, w_up3, w_tl0]
  repeat refine And.intro (by first | assumption | exact IsW.kt (by assumption) | omega | (unfold in32; omega) | (unfold in64; omega) | exact True.intro | exact Or.inl True.intro | exact Or.inr True.intro | rfl | exact Nat.le_of_ble_eq_true rfl) ?_
  try first | done | assumption | (unfold in32; omega) | (unfold in64; omega)
  refine ⟨_, p_Mo_adds hS2 ⟨by omega, by omega⟩ ⟨by omega, by omega⟩ ⟨by omega, by omega⟩ (g1.rf r2 ⟨by omega, by omega⟩ (by omega)) g2 b1 b2 (Or.inl rfl), ?_⟩
  rintro q M3 ⟨rfl, g3, r3⟩
  have hS3 := hS2.rf r3
  refine k_Mo_grows_30 _ _ _ _ _ _ _ _ ?_
  simp (disch := omega) only [↓w_nil, ↓w_cons, ↓w_ald0, ↓w_ic, ↓w_lld1, ↓w_cv3, true_and, and_true, true_implies, false_implies, not_true_eq_false, not_false_eq_true, Int.reduceEq, Int.reduceLT, Int.reduceLE, Int.reduceNeg, w_c80, w_c8I, w_c8L, w_c8R, w_up1, w_up2, w_up3, w_tl0]
  repeat refine And.intro (by first | assumption | exact IsW.kt (by assumption) | omega | (unfold in32; omega) | (unfold in64; omega) | exact True.intro | exact Or.inl True.intro | exact Or.inr True.intro | rfl | exact Nat.le_of_ble_eq_true rfl) ?_
  try first | done | assumption | (unfold in32; omega) | (unfold in64; omega)
  refine ⟨_, p_Mo_timesLong (va := D) (ia := 10) hS3 ⟨by omega, by omega⟩ ⟨by omega, by omega⟩ (by omega) (((h9.rf r1 ⟨by omega, by omega⟩ (by omega)).rf r2 ⟨by omega, by omega⟩ (by omega)).rf r3 ⟨by omega, by omega⟩ (by omega)) bD (by omega) (by omega), ?_⟩
  rintro q M4 ⟨rfl, g4, r4⟩
  refine k_Mo_grows_39 _ _ _ _ _ _ _ _ ?_
  simp (disch := omega) only [↓w_nil, ↓w_vret, true_and, and_true, true_implies, false_implies, not_true_eq_false, not_false_eq_true, Int.reduceEq, Int.reduceLT, Int.reduceLE, Int.reduceNeg, w_up1, w_up2, w_up3, w_tl0]
  repeat refine And.intro (by first | assumption | exact IsW.kt (by assumption) | omega | (unfold in32; omega) | (unfold in64; omega) | exact True.intro | exact Or.inl True.intro | exact Or.inr True.intro | rfl | exact Nat.le_of_ble_eq_true rfl) ?_
  try first | done | assumption | (unfold in32; omega) | (unfold in64; omega)
  refine ⟨g3.rf r4 ⟨by omega, by omega⟩ (by omega), g4, rf_tr (rf_tr (rf_tr (rf_mo r1 (fun s y => ?_)) (rf_mo r2 (fun s y => ?_))) (rf_mo r3 (fun s y => ?_))) (rf_mo r4 (fun s y => ?_))⟩
  all_goals unfold RL; omega
