/-! Whole.divide -/
set_option maxHeartbeats 8000000 in
theorem p_Wh_divide {g : cw_G} {M : cw_M} {w a b r va vb : Int} (hS : Sh M) (hw : IsW w) (ha : IsW a) (hb : IsW b) (hr : IsW r) (hwa : w ≠ a) (hwb : w ≠ b) (hwr : w ≠ r) (hra : r ≠ a) (hrb : r ≠ b) (hva : RW M a va) (hvb : RW M b vb) (hb0 : vb ≠ 0) (h15 : cw_ab va < 1073741824 ^ 15) :
    mC g y_Wh_divide [.inr (.inr w), .inr (.inr a), .inr (.inr b), .inr (.inr r)] M (fun x M' => x = none ∧ RW M' w (va.tdiv vb) ∧ RW M' r (va.tmod vb) ∧ cw_fr (fun c => Aw w c ∨ Aw r c) M M') := by
  obtain ⟨k1, k2, k3, k4⟩ := id hw
  obtain ⟨p1, p2, p3, p4⟩ := id ha
  obtain ⟨q1, q2, q3, q4⟩ := id hb
  obtain ⟨r1, r2, r3, r4⟩ := id hr
  have x1 := isW_ne hw ha; have x2 := isW_ne hw hb; have x3 := isW_ne hw hr
  have x4 := isW_ne ha hw; have x5 := isW_ne hb hw; have x6 := isW_ne hr hw
  have x7 := isW_ne hr ha; have x8 := isW_ne hr hb; have x9 := isW_ne ha hr; have x10 := isW_ne hb hr
  refine cw_C_of (L := [.inr (.inr w), .inr (.inr a), .inr (.inr b), .inr (.inr r), cU, cU, cU, cU]) ok_Wh_divide (Nat.le_refl _) (Nat.le_of_ble_eq_true rfl) rfl ?_
  refine k_Wh_divide_0 _ _ _ _ _ _ _ _ ?_
  simp only [↓w_nil, ↓w_cons, ↓w_ald3, ↓w_ald1, ↓w_cv1, true_and, and_true, true_implies, false_implies, not_true_eq_false, not_false_eq_true, Int.reduceEq, Int.reduceLT, Int.reduceLE, Int.reduceNeg, w_c80, w_c8I, w_c8L, w_c8R]
  repeat refine And.intro (by first | assumption | exact IsW.kt (by assumption) | omega | (unfold in32; omega) | (unfold in64; omega) | trivial | rfl | exact Nat.le_of_ble_eq_true rfl) ?_
  try first | done | assumption | (unfold in32; omega) | (unfold in64; omega)
  refine ⟨_, p_Wh_copy hS hr ha hra (by omega) (by omega) hva, ?_⟩
  rintro x M1 ⟨rfl, hr1, hf1⟩
  have hS1 := hS.fr hf1
  have hva1 := hva.fr hf1 (show ¬ Aw r a by unfold Aw; omega) (show ¬ Aw r (a + 1) by unfold Aw; omega)
  have hvb1 := hvb.fr hf1 (show ¬ Aw r b by unfold Aw; omega) (show ¬ Aw r (b + 1) by unfold Aw; omega)
  obtain ⟨m, a1, a2, a3, a4, a5, a6⟩ := hva1
  obtain ⟨n, b1, b2, b3, b4, b5, b6⟩ := hvb1
  have hm : m ≤ 15 := RW.nle a3 a4 a5 h15
  have hn0 : n ≠ 0 := fun h => by
    subst h
    rw [mg_0] at b5
    apply hb0
    unfold cw_ab at b5
    split at b5 <;> omega
  -- the answer laid out as 0
  generalize hM2 : cw_up (cw_up M1 w 1 0) w 2 0 = M2
  have hf2 : cw_fr (Aw w) M1 M2 := by rw [← hM2]; exact fr_up (fr_up fr_rf (Or.inl rfl) hw.rs1) (Or.inl rfl) hw.rs2
  have hf02 : cw_fr (fun c => Aw w c ∨ Aw r c) M M2 := fr_tr (fr_mo hf1 fun c h => Or.inr h) (fr_mo hf2 fun c h => Or.inl h)
  have hS2 := hS1.fr hf2
  have e1 : M2 a = M1 a := hf2.1 _ (by unfold Aw; omega)
  have e2 : M2 b = M1 b := hf2.1 _ (by unfold Aw; omega)
  have e3 : M2 (a + 1) = M1 (a + 1) := hf2.1 _ (by unfold Aw; omega)
  have e4 : M2 (b + 1) = M1 (b + 1) := hf2.1 _ (by unfold Aw; omega)
  have e5 : M2 r = M1 r := hf2.1 _ (by unfold Aw; omega)
  have e6 : M2 (r + 1) = M1 (r + 1) := hf2.1 _ (by unfold Aw; omega)
  have g1 : M2 a 1 = m := by rw [e1]; exact a2
  have g2 : M2 b 1 = n := by rw [e2]; exact b2
  have g3 : M2 a 2 = cw_sg va := by rw [e1]; exact a6
  have g4 : M2 b 2 = cw_sg vb := by rw [e2]; exact b6
  have y1 : cw_up (cw_up M1 w 1 0) w 2 0 b 1 = n := by rw [hM2]; exact g2
  refine k_Wh_divide_5 _ _ _ _ _ _ _ _ ?_
  simp only [↓w_nil, ↓w_cons, ↓w_ald0, ↓w_ic, ↓w_pfI_1, ↓w_pfI_2, ↓w_ald2, ↓w_gf0_1, ↓w_ist4, ↓w_ild4, ↓w_ifeq, true_and, and_true, true_implies, false_implies, not_true_eq_false, not_false_eq_true, Int.reduceEq, Int.reduceLT, Int.reduceLE, Int.reduceNeg, w_nlI, w_nlL, w_nlR, w_tl0, y1, hM2]
  repeat refine And.intro (by first | assumption | exact IsW.kt (by assumption) | omega | (unfold in32; omega) | (unfold in64; omega) | trivial | rfl | exact Nat.le_of_ble_eq_true rfl) ?_
  try first | done | assumption | (unfold in32; omega) | (unfold in64; omega)
  intro _
  refine k_Wh_divide_26 _ _ _ _ _ _ _ _ ?_
  simp only [↓w_nil, ↓w_cons, ↓w_ald1, ↓w_gf0_1, ↓w_ild4, ↓w_iclt, true_and, and_true, true_implies, false_implies, not_true_eq_false, not_false_eq_true, Int.reduceEq, Int.reduceLT, Int.reduceLE, Int.reduceNeg, g1]
  repeat refine And.intro (by first | assumption | exact IsW.kt (by assumption) | omega | (unfold in32; omega) | (unfold in64; omega) | trivial | rfl | exact Nat.le_of_ble_eq_true rfl) ?_
  try first | done | assumption | (unfold in32; omega) | (unfold in64; omega)
  refine ⟨fun h => ?_, fun h => ?_⟩
  · -- too small to be divided
    refine k_Wh_divide_44 _ _ _ _ _ _ _ _ ?_
    simp only [↓w_nil, ↓w_vret, true_and, and_true, true_implies, false_implies, not_true_eq_false, not_false_eq_true, Int.reduceEq, Int.reduceLT, Int.reduceLE, Int.reduceNeg]
    obtain ⟨n', rfl⟩ : ∃ n', n = n' + 1 := ⟨n - 1, by omega⟩
    have l1 := RW.lt a3 a5
    have l2 := RW.ge b3 (b4 (by omega)) b5
    have l3 := bt_mono (show m ≤ n' by omega)
    have l4 := ab_nn va
    have t1 : va.tdiv vb = 0 := by
      have := ab_tdiv va vb
      rw [Int.ediv_eq_zero_of_lt l4 (by omega)] at this
      unfold cw_ab at this; split at this <;> omega
    have t2 : va.tmod vb = va := by
      have := Int.tmod_def va vb
      rw [t1, Int.mul_zero] at this; omega
    rw [t1, t2]
    refine ⟨⟨0, by omega, by rw [← hM2, w_up2 (by omega), w_up1]; rfl, fun j hj => by omega, fun h => by omega, rfl, by rw [← hM2, w_up1]; rfl⟩, hr1.fr hf2 (by unfold Aw; omega) (by unfold Aw; omega), hf02⟩
  refine k_Wh_divide_35 _ _ _ _ _ _ _ _ ?_
  simp only [↓w_nil, ↓w_cons, ↓w_ald1, ↓w_gf0_1, ↓w_ic, ↓w_iclt, true_and, and_true, true_implies, false_implies, not_true_eq_false, not_false_eq_true, Int.reduceEq, Int.reduceLT, Int.reduceLE, Int.reduceNeg, g1]
  repeat refine And.intro (by first | assumption | exact IsW.kt (by assumption) | omega | (unfold in32; omega) | (unfold in64; omega) | trivial | rfl | exact Nat.le_of_ble_eq_true rfl) ?_
  try first | done | assumption | (unfold in32; omega) | (unfold in64; omega)
  refine ⟨fun _ => ?_, fun h => absurd h (by omega)⟩
  -- the highest limb of the divisor
  obtain ⟨n', rfl⟩ : ∃ n', n = n' + 1 := ⟨n - 1, by omega⟩
  have en : ((n' + 1 : Nat) : Int) - 1 = (n' : Int) := by omega
  have lb := hb.limb hS2
  have bt := b4 (by omega)
  rw [en] at bt
  have bd := b3 n' (by omega)
  have eb : M2 (b + 1) n' = M1 (b + 1) n' := by rw [e4]
  have g5 : (m : Int) - ((n' + 1 : Nat) : Int) + 1 = ((m - n' : Nat) : Int) := by omega
  refine k_Wh_divide_45 _ _ _ _ _ _ _ _ ?_
  simp only [↓w_nil, ↓w_cons, ↓w_ald1, ↓w_gf0_1, ↓w_ild4, ↓w_isub, ↓w_ic, ↓w_iadd, ↓w_ist5, ↓w_ald2, ↓w_gf2_0, ↓w_lald, ↓w_cs1, true_and, and_true, true_implies, false_implies, not_true_eq_false, not_false_eq_true, Int.reduceEq, Int.reduceLT, Int.reduceLE, Int.reduceNeg, w_nlI, w_nlL, w_nlR, w_c80, w_c8I, w_c8L, w_c8R, g1, g2, lb, q2, en, eb, g5]
  repeat refine And.intro (by first | assumption | exact IsW.kt (by assumption) | omega | (unfold in32; omega) | (unfold in64; omega) | trivial | rfl | exact Nat.le_of_ble_eq_true rfl) ?_
  try first | done | assumption | (unfold in32; omega) | (unfold in64; omega)
  refine ⟨_, p_Jl_nlz (x := M1 (b + 1) n') (by omega), ?_⟩
  rintro x M2' ⟨s, hs, rfl, hnorm, rfl⟩
  rw [show (s : Int) + 34 = (s : Int) + 34 from rfl]
  have es : (s : Int) + 34 - 34 = (s : Int) := by omega
  -- the rest moved up
  have hr2 := hr1.fr hf2 (show ¬ Aw w r by unfold Aw; omega) (show ¬ Aw w (r + 1) by unfold Aw; omega)
  obtain ⟨m', c1, c2, c3, c4, c5, c6⟩ := hr2
  have hmm : m' = m := by
    have h1 : m' ≤ m := RW.nle c3 c4 c5 (RW.lt a3 a5)
    have h2 : m ≤ m' := RW.nle a3 a4 a5 (RW.lt c3 c5)
    omega
  subst hmm
  refine k_Wh_divide_68 _ _ _ _ _ _ _ _ ?_
  simp only [↓w_nil, ↓w_cons, ↓w_ic, ↓w_isub, ↓w_ist6, ↓w_ald3, ↓w_ild6, ↓w_cv1, true_and, and_true, true_implies, false_implies, not_true_eq_false, not_false_eq_true, Int.reduceEq, Int.reduceLT, Int.reduceLE, Int.reduceNeg, w_nlI, w_nlL, w_nlR, w_c80, w_c8I, w_c8L, w_c8R, w_tl1, es]
  repeat refine And.intro (by first | assumption | exact IsW.kt (by assumption) | omega | (unfold in32; omega) | (unfold in64; omega) | trivial | rfl | exact Nat.le_of_ble_eq_true rfl) ?_
  try first | done | assumption | (unfold in32; omega) | (unfold in64; omega)
  refine ⟨_, p_Wh_shiftUp hS2 hr hs (by omega) c2 c3, ?_⟩
  rintro x M3 ⟨rfl, d1, d2, d3, d4, hf3⟩
  have hS3 := hS2.fr hf3
  have f1 : M3 b = M1 b := by rw [hf3.1 b (by unfold Aw; omega), e2]
  have f2 : M3 (b + 1) = M1 (b + 1) := by rw [hf3.1 (b + 1) (by unfold Aw; omega), e4]
  have f3 : M3 a = M1 a := by rw [hf3.1 a (by unfold Aw; omega), e1]
  generalize hB : cw_mg (M1 (b + 1)) (n' + 1) = B at b5
  have Bp : 0 < B := by
    have := mg_ge b3 bt
    have := bt_pos n'
    omega
  have sp := cw_p2pos s
  have hDe : cw_mg (cw_sd (M1 (b + 1)) s) (n' + 1) = B * 2 ^ s := by
    have e := sd_mg (show s ≤ 30 by omega) (n' + 1) b3
    rw [if_pos (Nat.succ_pos n'), en, hB] at e
    have h0 := sd_1 (show s ≤ 30 by omega) bd
    have : M1 (b + 1) n' * 2 ^ s / 1073741824 = 0 := Int.ediv_eq_zero_of_lt (by omega) hnorm.2
    rw [h0.2.2.1] at this
    rw [this, Int.zero_mul] at e
    omega
  have hv1 : 536870912 ≤ cw_sd (M1 (b + 1)) s n' := by
    unfold cw_sd
    have h1 : M1 (b + 1) n' * 2 ^ s % 1073741824 = M1 (b + 1) n' * 2 ^ s := Int.emod_eq_of_lt (by omega) hnorm.2
    rw [h1]
    by_cases q : (0 : Int) < n'
    · rw [if_pos q]
      have h0 := sd_1 (s := s) (by omega) (b3 (n' - 1) (by omega))
      rw [show ((n' - 1 : Nat) : Int) = (n' : Int) - 1 by omega] at h0
      omega
    · rw [if_neg q]; omega
  generalize hD : B * 2 ^ s = D at hDe
  have Dp : 0 < D := by rw [← hD]; exact Int.mul_pos Bp (by omega)
  have gl : m' - n' - 1 + 1 = m' - n' := by omega
  -- the limbs of the quotient
  have loop := p_Wh_divl (g := g) hw ha hb hr hwa hwb hwr hra hrb hm (show n' < m' by omega) hs hS3 (fr_tr hf02 (fr_mo hf3 fun c h => Or.inr h)) f1 f2 f3 a6 b2 b3 b6 b5 hD Bp hDe hv1 en
  refine k_Wh_divide_79 _ _ _ _ _ _ _ _ ?_
  simp only [↓w_nil, ↓w_cons, ↓w_ild5, ↓w_ic, ↓w_isub, ↓w_ist7, ↓w_fall, true_and, and_true, true_implies, false_implies, not_true_eq_false, not_false_eq_true, Int.reduceEq, Int.reduceLT, Int.reduceLE, Int.reduceNeg, w_nlI, w_nlL, w_nlR, w_tl0]
  have hres := loop (m' - n') M3 (Nat.le_refl _) (fun _ _ _ => rfl) d3 (fun t h1 h2 => by omega) ?_ (fun t h1 h2 => by omega) (by rw [d4, c5, Int.sub_self, Int.mul_zero]; omega)
  · exact hres
  · -- the highest limbs are less than the divisor
    have h1 := mg_split (f := M3 (r + 1)) (m' - n') (n' + 1)
    rw [show m' - n' + (n' + 1) = m' + 1 by omega, d4, c5] at h1
    have h2 := mg_lt (m' - n') (dg_le d3 (show m' - n' ≤ m' + 1 by omega))
    have h3 := RW.lt a3 a5
    have h4 := mg_ge b3 bt
    rw [hB] at h4
    have pm := bt_pos (m' - n')
    have e7 : (1073741824 : Int) ^ m' = 1073741824 ^ (m' - n') * 1073741824 ^ n' := by rw [← bt_add]; congr 1; omega
    have h5 : cw_ab va * 2 ^ s < 1073741824 ^ (m' - n') * D := by
      have h6 : cw_ab va * 2 ^ s < 1073741824 ^ m' * 2 ^ s := Int.mul_lt_mul_of_pos_right h3 (by omega)
      have h7 : 1073741824 ^ (m' - n') * (1073741824 ^ n' * 2 ^ s) ≤ 1073741824 ^ (m' - n') * D := by
        rw [← hD]
        exact Int.mul_le_mul_of_nonneg_left (Int.mul_le_mul_of_nonneg_right h4 (by omega)) (by omega)
      rw [e7, Int.mul_assoc] at h6
      omega
    generalize cw_mg (fun t => M3 (r + 1) (((m' - n' : Nat) : Int) + t)) (n' + 1) = hi at *
    by_cases q : hi < D
    · exact q
    · have := Int.mul_le_mul_of_nonneg_left (show D ≤ hi by omega) (show (0 : Int) ≤ 1073741824 ^ (m' - n') by omega)
      omega
