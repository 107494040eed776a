/-! Whole: shifted, shiftUp, shiftDown; how many zeros lead -/
theorem or_sum {a b q : Int} {s : Nat} (ha : 0 ≤ a ∧ a < 4611686018427387904) (hq : a = 2 ^ s * q) (hb : 0 ≤ b ∧ b < 2 ^ s) (hb2 : b < 4611686018427387904) : cw_or64 a b = a + b := by
  unfold cw_or64
  show ((BitVec.ofInt 64 a) ||| (BitVec.ofInt 64 b)).toInt = _
  have hp := cw_p2pos s
  have hq0 : 0 ≤ q := by
    by_cases h : 0 ≤ q
    · exact h
    · have := Int.mul_neg_of_pos_of_neg (show (0 : Int) < 2 ^ s by omega) (show q < 0 by omega)
      omega
  obtain ⟨q', rfl⟩ := Int.eq_ofNat_of_zero_le hq0
  obtain ⟨b', rfl⟩ := Int.eq_ofNat_of_zero_le hb.1
  have hb' : b' < 2 ^ s := by have := cw_p2 s; omega
  have ea : a = ((2 ^ s * q' : Nat) : Int) := by rw [hq, Int.natCast_mul, cw_p2]
  have e1 := Nat.two_pow_add_eq_or_of_lt hb' q'
  generalize 2 ^ s * q' = a' at ea e1
  have h1 : ((BitVec.ofInt 64 a) ||| (BitVec.ofInt 64 (b' : Int))).toNat = a' + b' := by
    rw [BitVec.toNat_or, BitVec.toNat_ofInt, BitVec.toNat_ofInt, e1]
    congr 1 <;> omega
  rw [BitVec.toInt_eq_toNat_of_lt (by rw [h1]; omega), h1]
  omega
/-- limb i of a number moved up by s bits -/
def cw_sd (f : Int → Int) (s : Nat) (i : Int) : Int := f i * 2 ^ s % 1073741824 + (if 0 < i then f (i - 1) / 2 ^ (30 - s) else 0)
theorem p2_30 {s : Nat} (hs : s ≤ 30) : (2 : Int) ^ s * 2 ^ (30 - s) = 1073741824 := by
  rw [← Int.pow_add, show s + (30 - s) = 30 by omega]; rfl
theorem sd_1 {x : Int} {s : Nat} (hs : s ≤ 30) (hx : 0 ≤ x ∧ x < 1073741824) : 0 ≤ x / 2 ^ (30 - s) ∧ x / 2 ^ (30 - s) < 2 ^ s ∧ x * 2 ^ s / 1073741824 = x / 2 ^ (30 - s) ∧ x * 2 ^ s % 1073741824 = 2 ^ s * (x % 2 ^ (30 - s)) ∧ x * 2 ^ s % 1073741824 ≤ 1073741824 - 2 ^ s := by
  have h1 := p2_30 hs
  have p1 := cw_p2pos s
  have p2 := cw_p2pos (30 - s)
  generalize (2 : Int) ^ s = p at *
  generalize (2 : Int) ^ (30 - s) = q at *
  have e : x = x / q * q + x % q := by
    have := Int.mul_ediv_add_emod x q
    rw [Int.mul_comm q] at this; omega
  have r1 := Int.emod_nonneg x (show q ≠ 0 by omega)
  have r2 := Int.emod_lt_of_pos x (show 0 < q by omega)
  have d1 : 0 ≤ x / q := Int.ediv_nonneg hx.1 (by omega)
  have d2 : x / q < p := Int.ediv_lt_of_lt_mul (by omega) (by rw [h1]; exact hx.2)
  have e2 : x * p = x / q * 1073741824 + p * (x % q) := by
    calc x * p = (x / q * q + x % q) * p := by rw [← e]
      _ = _ := by rw [Int.add_mul, Int.mul_assoc, Int.mul_comm q p, h1, Int.mul_comm (x % q)]
  have m1 : 0 ≤ p * (x % q) := Int.mul_nonneg (by omega) r1
  have m2 : p * (x % q) ≤ p * (q - 1) := Int.mul_le_mul_of_nonneg_left (by omega) (by omega)
  rw [Int.mul_sub, h1] at m2
  refine ⟨d1, d2, ?_, ?_, ?_⟩ <;> omega
theorem sd_rg {f : Int → Int} {s n : Nat} (hs : s ≤ 30) (hd : cw_dg f n) (j : Nat) (hj : j < n) : 0 ≤ cw_sd f s j ∧ cw_sd f s j < 1073741824 := by
  obtain ⟨a1, a2, a3, a4, a5⟩ := sd_1 hs (hd j hj)
  have p1 := cw_p2pos s
  unfold cw_sd
  by_cases q : (0 : Int) < j
  · rw [if_pos q]
    obtain ⟨b1, b2, -⟩ := sd_1 hs (hd (j - 1) (by omega))
    rw [show ((j - 1 : Nat) : Int) = (j : Int) - 1 by omega] at b1 b2
    omega
  · rw [if_neg q]; omega
theorem sd_mg {f : Int → Int} {s : Nat} (hs : s ≤ 30) : ∀ n : Nat, cw_dg f n → cw_mg (cw_sd f s) n + (if 0 < n then f ((n : Int) - 1) / 2 ^ (30 - s) else 0) * 1073741824 ^ n = cw_mg f n * 2 ^ s
  | 0, _ => by simp [mg_0]
  | n + 1, hd => by
    have ih := sd_mg hs n (dg_le hd (Nat.le_succ n))
    obtain ⟨a1, a2, a3, a4, a5⟩ := sd_1 hs (hd n (Nat.lt_succ_self n))
    rw [mg_s, mg_s, if_pos (Nat.succ_pos n), show ((n + 1 : Nat) : Int) - 1 = (n : Int) by omega, ← a3, bt_s, Int.add_mul, ← ih]
    unfold cw_sd
    rw [show (if (0 : Int) < (n : Int) then f ((n : Int) - 1) / 2 ^ (30 - s) else 0) = (if 0 < n then f ((n : Int) - 1) / 2 ^ (30 - s) else 0) by
      by_cases q : 0 < n
      · rw [if_pos q, if_pos (by omega)]
      · rw [if_neg q, if_neg (by omega)]]
    generalize (if 0 < n then f ((n : Int) - 1) / 2 ^ (30 - s) else 0) = c
    generalize (1073741824 : Int) ^ n = p
    have e1 : f n * p * 2 ^ s = f n * 2 ^ s * p := by ac_rfl
    rw [e1]
    generalize f n * 2 ^ s = x
    have e2 : x * p = x % 1073741824 * p + x / 1073741824 * (p * 1073741824) := by
      have : x = x % 1073741824 + x / 1073741824 * 1073741824 := by omega
      calc x * p = (x % 1073741824 + x / 1073741824 * 1073741824) * p := by rw [← this]
        _ = _ := by rw [Int.add_mul, Int.mul_assoc, Int.mul_comm 1073741824 p]
    rw [Int.add_mul, e2]
    omega
theorem p_Wh_shifted {g : cw_G} {M : cw_M} {w : Int} {i s : Nat} (hS : Sh M) (hw : IsW w) (hs : s < 30) (hi : i < 16) (hd : 0 ≤ M (w + 1) i ∧ M (w + 1) i < 1073741824) (hd1 : 0 < i → 0 ≤ M (w + 1) ((i : Int) - 1) ∧ M (w + 1) ((i : Int) - 1) < 1073741824) :
    mC g y_Wh_shifted [.inr (.inr w), .inl i, .inl s] M (fun r M' => r = some (.inr (.inl (cw_sd (M (w + 1)) s i))) ∧ M' = M) := by
  obtain ⟨k1, k2, k3, k4⟩ := id hw
  have hl := hw.limb hS
  have e30 : ((30 : Int) - s).toNat = 30 - s := by omega
  have es : ((s : Nat) : Int).toNat = s := Int.toNat_natCast s
  obtain ⟨a1, a2, a3, a4, a5⟩ := sd_1 (show s ≤ 30 by omega) hd
  have p1 := cw_p2pos s
  have ple : (2 : Int) ^ s ≤ 1073741824 := by
    have := p2_30 (show s ≤ 30 by omega)
    have q := cw_p2pos (30 - s)
    have := Int.mul_le_mul_of_nonneg_left q (show (0 : Int) ≤ 2 ^ s by omega)
    omega
  have fin : ∀ lo : Int, 0 ≤ lo ∧ lo < 2 ^ s → lo = (if (0 : Int) < i then M (w + 1) ((i : Int) - 1) / 2 ^ (30 - s) else 0) → mJ g y_Wh_shifted 21 [.inr (.inr w), .inl i, .inl s, cU, cU] [.inr (.inl lo)] M (fun r M' => r = some (.inr (.inl (cw_sd (M (w + 1)) s i))) ∧ M' = M) := by
    intro lo hlo he
    have eo : cw_or64 (M (w + 1) i * 2 ^ s % 1073741824) lo = cw_sd (M (w + 1)) s i := by
      rw [or_sum (by omega) a4 hlo (by omega), he]
      rfl
    refine k_Wh_shifted_21 _ _ _ _ _ _ _ _ ?_
    simp only [↓w_nil, ↓w_cons, ↓w_lst3, ↓w_ald0, ↓w_gf2_0, ↓w_ild1, ↓w_lald, ↓w_ild2, ↓w_lshl, ↓w_lc, ↓w_land, ↓w_lld3, ↓w_lor, ↓w_lret, true_and, and_true, true_implies, false_implies, not_true_eq_false, not_false_eq_true, Int.reduceEq, Int.reduceLT, Int.reduceLE, Int.reduceNeg, w_nlI, w_nlL, w_nlR, hl, k2, and30, es, eo]
    repeat refine And.intro (by first | assumption | exact IsW.kt (by assumption) | omega | (unfold in32; omega) | (unfold in64; omega) | trivial | rfl | exact Nat.le_of_ble_eq_true rfl) ?_
    try first | done | assumption | (unfold in32; omega) | (unfold in64; omega)
    omega
  refine cw_C_of (L := [.inr (.inr w), .inl i, .inl s, cU, cU]) ok_Wh_shifted (Nat.le_refl _) (Nat.le_of_ble_eq_true rfl) rfl ?_
  refine k_Wh_shifted_0 _ _ _ _ _ _ _ _ ?_
  simp only [↓w_nil, ↓w_cons, ↓w_ild1, ↓w_ifle, true_and, and_true, true_implies, false_implies, not_true_eq_false, not_false_eq_true, Int.reduceEq, Int.reduceLT, Int.reduceLE, Int.reduceNeg]
  repeat refine And.intro (by first | assumption | exact IsW.kt (by assumption) | omega | (unfold in32; omega) | (unfold in64; omega) | trivial | rfl | exact Nat.le_of_ble_eq_true rfl) ?_
  try first | done | assumption | (unfold in32; omega) | (unfold in64; omega)
  refine ⟨fun h => ?_, fun h => ?_⟩
  · refine k_Wh_shifted_20 _ _ _ _ _ _ _ _ ?_
    simp only [↓w_nil, ↓w_cons, ↓w_lc, ↓w_fall, true_and, and_true, true_implies, false_implies, not_true_eq_false, not_false_eq_true, Int.reduceEq, Int.reduceLT, Int.reduceLE, Int.reduceNeg]
    exact fin 0 (by omega) (by rw [if_neg (by omega)])
  · have d := hd1 (by omega)
    obtain ⟨b1, b2, -⟩ := sd_1 (show s ≤ 30 by omega) d
    refine k_Wh_shifted_4 _ _ _ _ _ _ _ _ ?_
    simp only [↓w_nil, ↓w_cons, ↓w_ald0, ↓w_gf2_0, ↓w_ild1, ↓w_ic, ↓w_isub, ↓w_lald, ↓w_ild2, ↓w_lushr, ↓w_goto, true_and, and_true, true_implies, false_implies, not_true_eq_false, not_false_eq_true, Int.reduceEq, Int.reduceLT, Int.reduceLE, Int.reduceNeg, hl, k2, e30]
    repeat refine And.intro (by first | assumption | exact IsW.kt (by assumption) | omega | (unfold in32; omega) | (unfold in64; omega) | trivial | rfl | exact Nat.le_of_ble_eq_true rfl) ?_
    try first | done | assumption | (unfold in32; omega) | (unfold in64; omega)
    exact fin _ ⟨b1, b2⟩ (by rw [if_pos (by omega)])
theorem p_Wh_shiftUp {g : cw_G} {M : cw_M} {w : Int} {n s : Nat} (hS : Sh M) (hw : IsW w) (hs : s < 30) (hn : n < 16) (h1 : M w 1 = n) (hd : cw_dg (M (w + 1)) n) :
    mC g y_Wh_shiftUp [.inr (.inr w), .inl s] M (fun r M' => r = none ∧ M' w 1 = ((n + 1 : Nat) : Int) ∧ M' w 2 = M w 2 ∧ cw_dg (M' (w + 1)) (n + 1) ∧ cw_mg (M' (w + 1)) (n + 1) = cw_mg (M (w + 1)) n * 2 ^ s ∧ cw_fr (Aw w) M M') := by
  obtain ⟨k1, k2, k3, k4⟩ := id hw
  have hl := hw.limb hS
  generalize hF : (fun j : Int => if j = n then 0 else M (w + 1) j) = F
  have hFd : cw_dg F (n + 1) := by
    intro j hj
    rw [← hF]
    by_cases q : (j : Int) = n
    · simp [q]
    · simp only [if_neg q]; exact hd j (by omega)
  have loop : ∀ (i : Nat) (Mi : cw_M), i ≤ n + 1 → (∀ c, c ≠ w + 1 → Mi c = M c) → (∀ j : Int, j < i → Mi (w + 1) j = F j) → (∀ j : Nat, i ≤ j → j < n + 1 → Mi (w + 1) j = cw_sd F s j) →
      mJ g y_Wh_shiftUp 15 [.inr (.inr w), .inl s, .inl ((i : Int) - 1)] [] Mi (fun r M' => r = none ∧ M' w 1 = ((n + 1 : Nat) : Int) ∧ M' w 2 = M w 2 ∧ cw_dg (M' (w + 1)) (n + 1) ∧ cw_mg (M' (w + 1)) (n + 1) = cw_mg (M (w + 1)) n * 2 ^ s ∧ cw_fr (Aw w) M M') := by
    intro i
    induction i with
    | zero =>
      intro Mi hi hM hlo hhi
      refine k_Wh_shiftUp_15 _ _ _ _ _ _ _ _ ?_
      simp only [↓w_nil, ↓w_cons, ↓w_ild2, ↓w_iflt, true_and, and_true, true_implies, false_implies, not_true_eq_false, not_false_eq_true, Int.reduceEq, Int.reduceLT, Int.reduceLE, Int.reduceNeg]
      repeat refine And.intro (by first | assumption | exact IsW.kt (by assumption) | omega | (unfold in32; omega) | (unfold in64; omega) | trivial | rfl | exact Nat.le_of_ble_eq_true rfl) ?_
      try first | done | assumption | (unfold in32; omega) | (unfold in64; omega)
      refine ⟨fun _ => ?_, fun h => absurd h (by omega)⟩
      have e1 : Mi w 1 = n := by rw [hM w (by omega)]; exact h1
      refine k_Wh_shiftUp_37 _ _ _ _ _ _ _ _ ?_
      simp only [↓w_nil, ↓w_cons, ↓w_ald0, ↓w_dupI, ↓w_dupR, ↓w_gf0_1, ↓w_ic, ↓w_iadd, ↓w_pfI_1, ↓w_vret, true_and, and_true, true_implies, false_implies, not_true_eq_false, not_false_eq_true, Int.reduceEq, Int.reduceLT, Int.reduceLE, Int.reduceNeg, e1]
      repeat refine And.intro (by first | assumption | exact IsW.kt (by assumption) | omega | (unfold in32; omega) | (unfold in64; omega) | trivial | rfl | exact Nat.le_of_ble_eq_true rfl) ?_
      try first | done | assumption | (unfold in32; omega) | (unfold in64; omega)
      refine ⟨by rw [w_up1]; omega, by rw [w_up2 (by omega), hM w (by omega)], ?_, ?_, ?_⟩
      · rw [cw_up_ne (by omega)]
        intro j hj
        rw [hhi j (by omega) hj]
        exact sd_rg (by omega) hFd j hj
      · rw [cw_up_ne (by omega), mg_cg (h := cw_sd F s) (n + 1) (fun j hj => hhi j (by omega) hj)]
        have e := sd_mg (show s ≤ 30 by omega) (n + 1) hFd
        rw [if_pos (Nat.succ_pos n), show ((n + 1 : Nat) : Int) - 1 = (n : Int) by omega] at e
        have e0 : F n = 0 := by rw [← hF]; simp
        have e2 : cw_mg F (n + 1) = cw_mg F n := by rw [mg_s, e0, Int.zero_mul]; omega
        rw [e0, Int.zero_ediv, Int.zero_mul, e2] at e
        rw [mg_cg (f := M (w + 1)) (h := F) n (fun j hj => by rw [← hF]; simp only; rw [if_neg (by omega)])]
        omega
      · refine fr_up ⟨fun a ha => hM a fun q => ha (Or.inr q), fun a k hr => ?_⟩ (Or.inl rfl) hw.rs1
        rw [hM a (fun q => by rw [q, hw.rsl] at hr; cases hr)]
    | succ i ih =>
      intro Mi hi hM hlo hhi
      have hfr : cw_fr (fun a => a = w + 1) M Mi := ⟨hM, fun a k hr => by rw [hM a (fun q => by rw [q, hw.rsl] at hr; cases hr)]⟩
      have lw := hw.limb (hS.fr hfr)
      have e1 : ((i + 1 : Nat) : Int) - 1 = (i : Int) := by omega
      rw [e1]
      refine k_Wh_shiftUp_15 _ _ _ _ _ _ _ _ ?_
      simp only [↓w_nil, ↓w_cons, ↓w_ild2, ↓w_iflt, true_and, and_true, true_implies, false_implies, not_true_eq_false, not_false_eq_true, Int.reduceEq, Int.reduceLT, Int.reduceLE, Int.reduceNeg]
      repeat refine And.intro (by first | assumption | exact IsW.kt (by assumption) | omega | (unfold in32; omega) | (unfold in64; omega) | trivial | rfl | exact Nat.le_of_ble_eq_true rfl) ?_
      try first | done | assumption | (unfold in32; omega) | (unfold in64; omega)
      intro _
      refine k_Wh_shiftUp_19 _ _ _ _ _ _ _ _ ?_
      simp only [↓w_nil, ↓w_cons, ↓w_ald0, ↓w_gf2_0, ↓w_ild2, ↓w_ild1, ↓w_cv2, true_and, and_true, true_implies, false_implies, not_true_eq_false, not_false_eq_true, Int.reduceEq, Int.reduceLT, Int.reduceLE, Int.reduceNeg, w_c80, w_c8I, w_c8L, w_c8R, lw]
      repeat refine And.intro (by first | assumption | exact IsW.kt (by assumption) | omega | (unfold in32; omega) | (unfold in64; omega) | trivial | rfl | exact Nat.le_of_ble_eq_true rfl) ?_
      try first | done | assumption | (unfold in32; omega) | (unfold in64; omega)
      refine ⟨_, p_Wh_shifted (hS.fr hfr) hw hs (by omega) (by rw [hlo i (by omega)]; exact hFd i (by omega)) (fun h => by rw [hlo _ (by omega)]; have := hFd (i - 1) (by omega); rw [show ((i - 1 : Nat) : Int) = (i : Int) - 1 by omega] at this; exact this), ?_⟩
      rintro r M' ⟨rfl, rfl⟩
      refine k_Wh_shiftUp_30 _ _ _ _ _ _ _ _ ?_
      simp only [↓w_nil, ↓w_cons, ↓w_last, ↓w_inc2, ↓w_goto, true_and, and_true, true_implies, false_implies, not_true_eq_false, not_false_eq_true, Int.reduceEq, Int.reduceLT, Int.reduceLE, Int.reduceNeg, w_nlI, w_nlL, w_nlR, w_tl1, k2]
      repeat refine And.intro (by first | assumption | exact IsW.kt (by assumption) | omega | (unfold in32; omega) | (unfold in64; omega) | trivial | rfl | exact Nat.le_of_ble_eq_true rfl) ?_
      try first | done | assumption | (unfold in32; omega) | (unfold in64; omega)
      rw [show (i : Int) + -1 = (i : Int) - 1 by omega]
      refine ih _ (by omega) (fun c hc => by rw [cw_up_ne hc]; exact hM c hc) (fun j hj => by rw [w_up2 (by omega)]; exact hlo j (by omega)) (fun j h2 h3 => ?_)
      by_cases q : j = i
      · subst q
        rw [w_up1]
        unfold cw_sd
        rw [hlo _ (by omega), hlo _ (by omega)]
      · rw [w_up2 (by omega)]
        exact hhi j (by omega) h3
  refine cw_C_of (L := [.inr (.inr w), .inl s, cU]) ok_Wh_shiftUp (Nat.le_refl _) (Nat.le_of_ble_eq_true rfl) rfl ?_
  have e0 : cw_up M (w + 1) n 0 w 1 = n := by rw [w_up3 (by omega)]; exact h1
  refine k_Wh_shiftUp_0 _ _ _ _ _ _ _ _ ?_
  simp only [↓w_nil, ↓w_cons, ↓w_ald0, ↓w_gf2_0, ↓w_gf0_1, ↓w_lc, ↓w_last, ↓w_ist2, ↓w_fall, true_and, and_true, true_implies, false_implies, not_true_eq_false, not_false_eq_true, Int.reduceEq, Int.reduceLT, Int.reduceLE, Int.reduceNeg, w_nlI, w_nlL, w_nlR, hl, h1, k2, e0]
  repeat refine And.intro (by first | assumption | exact IsW.kt (by assumption) | omega | (unfold in32; omega) | (unfold in64; omega) | trivial | rfl | exact Nat.le_of_ble_eq_true rfl) ?_
  try first | done | assumption | (unfold in32; omega) | (unfold in64; omega)
  have := loop (n + 1) (cw_up M (w + 1) n 0) (Nat.le_refl _) (fun c hc => cw_up_ne hc) (fun j hj => by rw [cw_up_eq, ← hF]) (fun j h2 h3 => by omega)
  rw [show ((n + 1 : Nat) : Int) - 1 = (n : Int) by omega] at this
  exact this
theorem p_Wh_shiftDown {g : cw_G} {M : cw_M} {w sg v : Int} {n s : Nat} (hS : Sh M) (hw : IsW w) (hs : s < 30) (hn : n < 16) (hd : cw_dg (M (w + 1)) n) (hv : cw_mg (M (w + 1)) n = cw_ab v * 2 ^ s) (hsg : v ≠ 0 → sg = cw_sg v) :
    mC g y_Wh_shiftDown [.inr (.inr w), .inl s, .inl n, .inl sg] M (fun r M' => r = none ∧ RW M' w v ∧ cw_fr (Aw w) M M') := by
  obtain ⟨k1, k2, k3, k4⟩ := id hw
  have hl := hw.limb hS
  have e30 : ((30 : Int) - s).toNat = 30 - s := by omega
  have es : ((s : Nat) : Int).toNat = s := Int.toNat_natCast s
  generalize hF : (fun j : Int => if j = n then 0 else M (w + 1) j) = F
  have hFd : cw_dg F (n + 1) := by
    intro j hj
    rw [← hF]
    by_cases q : (j : Int) = n
    · simp [q]
    · simp only [if_neg q]; exact hd j (by omega)
  have hFm : cw_mg F n = cw_mg (M (w + 1)) n := mg_cg n fun j hj => by rw [← hF]; simp only; rw [if_neg (by omega)]
  have p1 := cw_p2pos s
  have p2 := cw_p2pos (30 - s)
  have pp := p2_30 (show s ≤ 30 by omega)
  -- limb i behind the move: what is above, and below
  have lim : ∀ i : Nat, i < n → 0 ≤ F i / 2 ^ s ∧ F i / 2 ^ s < 2 ^ (30 - s) ∧ F (i + 1) * 2 ^ (30 - s) % 1073741824 = 2 ^ (30 - s) * (F (i + 1) % 2 ^ s) ∧ F (i + 1) * 2 ^ (30 - s) % 1073741824 ≤ 1073741824 - 2 ^ (30 - s) := by
    intro i hi
    have h1 := sd_1 (s := 30 - s) (by omega) (hFd i (by omega))
    have h2 := sd_1 (s := 30 - s) (by omega) (hFd (i + 1) (by omega))
    rw [show 30 - (30 - s) = s by omega] at h1 h2
    rw [show ((i + 1 : Nat) : Int) = (i : Int) + 1 by omega] at h2
    exact ⟨h1.1, h1.2.1, h2.2.2.2.1, h2.2.2.2.2⟩
  have loop : ∀ (d i : Nat) (Mi : cw_M), d + i = n → (∀ c, c ≠ w + 1 → Mi c = M c) → (∀ j : Int, i ≤ j → j ≤ n → Mi (w + 1) j = F j) → cw_dg (Mi (w + 1)) i → cw_mg (Mi (w + 1)) i * 2 ^ s + F 0 % 2 ^ s = cw_mg F i + (F i % 2 ^ s) * 1073741824 ^ i →
      mJ g y_Wh_shiftDown 10 [.inr (.inr w), .inl s, .inl n, .inl sg, .inl i] [] Mi (fun r M' => r = none ∧ RW M' w v ∧ cw_fr (Aw w) M M') := by
    intro d
    induction d with
    | zero =>
      intro i Mi hi hM hk hdi he
      have hfr : cw_fr (fun a => a = w + 1) M Mi := ⟨hM, fun a k hr => by rw [hM a (fun q => by rw [q, hw.rsl] at hr; cases hr)]⟩
      have hin : i = n := by omega
      subst hin
      refine k_Wh_shiftDown_10 _ _ _ _ _ _ _ _ ?_
      simp only [↓w_nil, ↓w_cons, ↓w_ild4, ↓w_ild2, ↓w_icge, true_and, and_true, true_implies, false_implies, not_true_eq_false, not_false_eq_true, Int.reduceEq, Int.reduceLT, Int.reduceLE, Int.reduceNeg]
      repeat refine And.intro (by first | assumption | exact IsW.kt (by assumption) | omega | (unfold in32; omega) | (unfold in64; omega) | trivial | rfl | exact Nat.le_of_ble_eq_true rfl) ?_
      try first | done | assumption | (unfold in32; omega) | (unfold in64; omega)
      refine ⟨fun _ => ?_, fun h => absurd h (by omega)⟩
      refine k_Wh_shiftDown_57 _ _ _ _ _ _ _ _ ?_
      simp only [↓w_nil, ↓w_cons, ↓w_ald0, ↓w_ild2, ↓w_ild3, ↓w_cv2, true_and, and_true, true_implies, false_implies, not_true_eq_false, not_false_eq_true, Int.reduceEq, Int.reduceLT, Int.reduceLE, Int.reduceNeg, w_c80, w_c8I, w_c8L, w_c8R]
      repeat refine And.intro (by first | assumption | exact IsW.kt (by assumption) | omega | (unfold in32; omega) | (unfold in64; omega) | trivial | rfl | exact Nat.le_of_ble_eq_true rfl) ?_
      try first | done | assumption | (unfold in32; omega) | (unfold in64; omega)
      have e0 : F i = 0 := by rw [← hF]; simp
      rw [e0, Int.zero_emod, Int.zero_mul, hFm, hv] at he
      have r1 := Int.emod_nonneg (F 0) (show (2 : Int) ^ s ≠ 0 by omega)
      have r2 := Int.emod_lt_of_pos (F 0) (show (0 : Int) < 2 ^ s by omega)
      have em : cw_mg (Mi (w + 1)) i = cw_ab v := by
        generalize (2 : Int) ^ s = p at *
        have h3 : (cw_ab v - cw_mg (Mi (w + 1)) i) * p = F 0 % p := by rw [Int.sub_mul]; omega
        rcases (show cw_ab v - cw_mg (Mi (w + 1)) i = 0 ∨ 1 ≤ cw_ab v - cw_mg (Mi (w + 1)) i ∨ cw_ab v - cw_mg (Mi (w + 1)) i ≤ -1 by omega) with h | h | h
        · omega
        · have := Int.mul_le_mul_of_nonneg_right h (show 0 ≤ p by omega)
          omega
        · have := Int.mul_le_mul_of_nonneg_right h (show 0 ≤ p by omega)
          omega
      refine ⟨_, p_Wh_finish' (n := i) (v := v) (hS.fr hfr) hw (by omega) hdi em hsg, ?_⟩
      rintro r M' ⟨rfl, h1, h2⟩
      refine k_Wh_shiftDown_63 _ _ _ _ _ _ _ _ ?_
      simp only [↓w_nil, ↓w_vret, true_and, and_true, true_implies, false_implies, not_true_eq_false, not_false_eq_true, Int.reduceEq, Int.reduceLT, Int.reduceLE, Int.reduceNeg, w_tl0]
      exact ⟨h1, fr_tr (fr_mo hfr fun a h => Or.inr h) (fr_mo h2 fun a h => Or.inl h)⟩
    | succ d ih =>
      intro i Mi hi hM hk hdi he
      have hfr : cw_fr (fun a => a = w + 1) M Mi := ⟨hM, fun a k hr => by rw [hM a (fun q => by rw [q, hw.rsl] at hr; cases hr)]⟩
      have lw := hw.limb (hS.fr hfr)
      obtain ⟨l1, l2, l3, l4⟩ := lim i (by omega)
      have f1 := hFd i (by omega)
      have f2 := hFd (i + 1) (by omega)
      rw [show ((i + 1 : Nat) : Int) = (i : Int) + 1 by omega] at f2
      have g1 : Mi (w + 1) i = F i := hk _ (by omega) (by omega)
      have g2 : Mi (w + 1) ((i : Int) + 1) = F (i + 1) := hk _ (by omega) (by omega)
      have q1 : (2 : Int) ^ (30 - s) ≤ 1073741824 := by
        have := Int.mul_le_mul_of_nonneg_right p1 (show (0 : Int) ≤ 2 ^ (30 - s) by omega)
        omega
      have eo : cw_or64 (F i / 2 ^ s) (F (i + 1) * 2 ^ (30 - s) % 1073741824) = F i / 2 ^ s + F (i + 1) * 2 ^ (30 - s) % 1073741824 := by
        have := or_sum (a := F (i + 1) * 2 ^ (30 - s) % 1073741824) (b := F i / 2 ^ s) (by omega) l3 ⟨l1, l2⟩ (by omega)
        have cm : cw_or64 (F i / 2 ^ s) (F (i + 1) * 2 ^ (30 - s) % 1073741824) = cw_or64 (F (i + 1) * 2 ^ (30 - s) % 1073741824) (F i / 2 ^ s) := by
          unfold cw_or64; rw [Int64.or_comm]
        omega
      refine k_Wh_shiftDown_10 _ _ _ _ _ _ _ _ ?_
      simp only [↓w_nil, ↓w_cons, ↓w_ild4, ↓w_ild2, ↓w_icge, true_and, and_true, true_implies, false_implies, not_true_eq_false, not_false_eq_true, Int.reduceEq, Int.reduceLT, Int.reduceLE, Int.reduceNeg]
      repeat refine And.intro (by first | assumption | exact IsW.kt (by assumption) | omega | (unfold in32; omega) | (unfold in64; omega) | trivial | rfl | exact Nat.le_of_ble_eq_true rfl) ?_
      try first | done | assumption | (unfold in32; omega) | (unfold in64; omega)
      intro _
      refine k_Wh_shiftDown_16 _ _ _ _ _ _ _ _ ?_
      simp only [↓w_nil, ↓w_cons, ↓w_ald0, ↓w_gf2_0, ↓w_ild4, ↓w_lald, ↓w_ild1, ↓w_lushr, ↓w_ic, ↓w_iadd, ↓w_isub, ↓w_lshl, ↓w_lc, ↓w_land, ↓w_lor, ↓w_last, ↓w_inc4, ↓w_goto, true_and, and_true, true_implies, false_implies, not_true_eq_false, not_false_eq_true, Int.reduceEq, Int.reduceLT, Int.reduceLE, Int.reduceNeg, w_nlI, w_nlL, w_nlR, lw, k2, g1, g2, es, e30, and30, eo]
      repeat refine And.intro (by first | assumption | exact IsW.kt (by assumption) | omega | (unfold in32; omega) | (unfold in64; omega) | trivial | rfl | exact Nat.le_of_ble_eq_true rfl) ?_
      try first | done | assumption | (unfold in32; omega) | (unfold in64; omega)
      refine ih (i + 1) _ (by omega) (fun c hc => by rw [cw_up_ne hc]; exact hM c hc) (fun j h1 h2 => by rw [w_up2 (by omega)]; exact hk j (by omega) h2) ?_ ?_
      · intro j hj
        by_cases q : j = i
        · subst q; rw [w_up1]; omega
        · rw [w_up2 (by omega)]; exact hdi j (by omega)
      · rw [mg_s, mg_s, w_up1, mg_cg (h := Mi (w + 1)) i (fun j hj => w_up2 (by omega)), bt_s, l3, show ((i + 1 : Nat) : Int) = (i : Int) + 1 by omega]
        have e3 : F i = F i / 2 ^ s * 2 ^ s + F i % 2 ^ s := by
          have := Int.mul_ediv_add_emod (F i) (2 ^ s)
          rw [Int.mul_comm] at this; omega
        generalize (1073741824 : Int) ^ i = P at *
        generalize F (i + 1) % 2 ^ s = y at *
        have e4 : (F i / 2 ^ s + 2 ^ (30 - s) * y) * P * 2 ^ s = F i / 2 ^ s * 2 ^ s * P + y * (P * (2 ^ s * 2 ^ (30 - s))) := by
          rw [Int.add_mul, Int.add_mul]
          congr 1 <;> ac_rfl
        rw [pp] at e4
        have e5 : F i * P = F i / 2 ^ s * 2 ^ s * P + F i % 2 ^ s * P := by rw [← Int.add_mul, ← e3]
        rw [Int.add_mul, e4, e5]
        omega
  refine cw_C_of (L := [.inr (.inr w), .inl s, .inl n, .inl sg, cU]) ok_Wh_shiftDown (Nat.le_refl _) (Nat.le_of_ble_eq_true rfl) rfl ?_
  refine k_Wh_shiftDown_0 _ _ _ _ _ _ _ _ ?_
  simp only [↓w_nil, ↓w_cons, ↓w_ald0, ↓w_gf2_0, ↓w_ild2, ↓w_lc, ↓w_last, ↓w_ic, ↓w_ist4, ↓w_fall, true_and, and_true, true_implies, false_implies, not_true_eq_false, not_false_eq_true, Int.reduceEq, Int.reduceLT, Int.reduceLE, Int.reduceNeg, w_nlI, w_nlL, w_nlR, hl, k2]
  repeat refine And.intro (by first | assumption | exact IsW.kt (by assumption) | omega | (unfold in32; omega) | (unfold in64; omega) | trivial | rfl | exact Nat.le_of_ble_eq_true rfl) ?_
  try first | done | assumption | (unfold in32; omega) | (unfold in64; omega)
  refine loop n 0 _ rfl (fun c hc => cw_up_ne hc) (fun j h1 h2 => ?_) (fun j hj => by omega) (by simp [mg_0])
  rw [cw_up_eq, ← hF]
