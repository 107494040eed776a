/-! bits; cuts -/
theorem and1 (a : Int) : cw_and32 a 1 = a % 2 := by
  show ((BitVec.ofInt 32 a) &&& (BitVec.ofInt 32 1)).toInt = _
  have h1 : ((BitVec.ofInt 32 a) &&& (BitVec.ofInt 32 1)).toNat = (a % 4294967296).toNat % 2 := by
    rw [BitVec.toNat_and, BitVec.toNat_ofInt]
    have e : (BitVec.ofInt 32 1).toNat = 1 := by decide
    rw [e, Nat.and_one_is_mod]
    rfl
  rw [BitVec.toInt_eq_toNat_of_lt (by rw [h1]; omega), h1]
  omega
theorem or_bit (t : Nat) (u : Nat) (ht : t ≤ 29) (hu : u < 2 ^ (29 - t)) : cw_or32 ((u * 2 ^ (t + 1) : Nat) : Int) (1 * 2 ^ ((t : Nat) : Int).toNat) = ((u * 2 ^ (t + 1) + 2 ^ t : Nat) : Int) := by
  have e0 : (1 : Int) * 2 ^ ((t : Nat) : Int).toNat = ((2 ^ t : Nat) : Int) := by rw [Int.one_mul, Int.toNat_natCast, Int.natCast_pow]; rfl
  rw [e0]
  have p1 : 2 ^ t < 2 ^ (t + 1) := Nat.pow_lt_pow_right (by decide) (by omega)
  have p2 : 2 ^ (29 - t) * 2 ^ (t + 1) = 2 ^ 30 := by rw [← Nat.pow_add]; congr 1; omega
  have p3 : (u + 1) * 2 ^ (t + 1) ≤ 2 ^ (29 - t) * 2 ^ (t + 1) := Nat.mul_le_mul_right _ (by omega)
  rw [p2, Nat.add_mul, Nat.one_mul] at p3
  have p4 : (2 : Nat) ^ 30 = 1073741824 := by decide
  have p5 : u * 2 ^ (t + 1) + 2 ^ t = u * 2 ^ (t + 1) ||| 2 ^ t := by
    rw [Nat.mul_comm, Nat.two_pow_add_eq_or_of_lt p1]
  show ((BitVec.ofInt 32 _) ||| (BitVec.ofInt 32 _)).toInt = _
  generalize hx : u * 2 ^ (t + 1) = x at *
  generalize hy : 2 ^ t = y at *
  have h1 : ((BitVec.ofInt 32 (x : Int)) ||| (BitVec.ofInt 32 (y : Int))).toNat = x + y := by
    rw [BitVec.toNat_or, BitVec.toNat_ofInt, BitVec.toNat_ofInt, p5]
    congr 1 <;> omega
  rw [BitVec.toInt_eq_toNat_of_lt (by rw [h1]; omega), h1]
/-- one bit of a long division -/
theorem bit_s {r0 x D u rest s : Nat} {R : Nat} (h : r0 * R + x / 2 ^ (s + 1) = D * u + rest) : r0 * (R * 2) + x / 2 ^ s = D * (2 * u) + (2 * rest + x / 2 ^ s % 2) := by
  have e : x / 2 ^ (s + 1) = x / 2 ^ s / 2 := by rw [Nat.pow_succ, Nat.div_div_eq_div_mul]
  rw [e] at h
  generalize x / 2 ^ s = y at *
  rw [show r0 * (R * 2) = 2 * (r0 * R) by ac_rfl, show D * (2 * u) = 2 * (D * u) by ac_rfl]
  omega
theorem l_cut54 {g : cw_G} {Mk : cw_M} {r a b sg n k : Int} {D r0 x : Nat} {Q : Option cw_V → cw_M → Prop} (hS : Sh Mk) (hb : IR b) (hb2 : b ≠ 2) (hvb : RM Mk b D) (hD : cw_ab D < 1073741824 ^ 30) (hx : x < 1073741824) (hr0 : r0 < D)
    (K : ∀ (M3 : cw_M) (q rest : Nat), cw_rf (fun s => s = 2) Mk M3 → RM M3 2 rest → rest < D → r0 * 1073741824 + x = D * q + rest → q < 1073741824 → mJ g y_Mo_cuts 109 [.inr (.inr 319), .inl r, .inl a, .inl b, .inl sg, .inl n, .inl k, .inl x, .inl q, .inl (-1)] [] M3 Q) :
    ∀ (s u rest : Nat) (M2 : cw_M), s ≤ 30 → cw_rf (fun s => s = 2) Mk M2 → RM M2 2 rest → rest < D → r0 * 2 ^ (30 - s) + x / 2 ^ s = D * u + rest →
      mJ g y_Mo_cuts 54 [.inr (.inr 319), .inl r, .inl a, .inl b, .inl sg, .inl n, .inl k, .inl x, .inl ((u * 2 ^ s : Nat) : Int), .inl ((s : Int) - 1)] [] M2 Q := by
  have h2 : IR 2 := by unfold IR; omega
  obtain ⟨b0, b1⟩ := id hb
  have e30 : (1073741824 : Int) ^ 30 * 1073741824 = 1073741824 ^ 31 := by rw [← bt_s]
  have dD := ab_3 (D : Int)
  have bp := bt_pos 30
  intro s
  induction s with
  | zero =>
    intro u rest M2 hs f2 h2 hr he
    refine k_Mo_cuts_54 _ _ _ _ _ _ _ _ ?_
    simp only [↓w_nil, ↓w_cons, ↓w_ild9, ↓w_iflt, true_and, and_true, true_implies, false_implies, not_true_eq_false, not_false_eq_true, Int.reduceEq, Int.reduceLT, Int.reduceLE, Int.reduceNeg]
    repeat refine And.intro (by first | assumption | exact IsW.kt (by assumption) | omega | (unfold in32; omega) | (unfold in64; omega) | exact True.intro | exact Or.inl True.intro | rfl | exact Nat.le_of_ble_eq_true rfl) ?_
    try first | done | assumption | (unfold in32; omega) | (unfold in64; omega)
    refine ⟨fun _ => ?_, fun h => absurd h (by omega)⟩
    rw [Nat.pow_zero, Nat.div_one, Nat.sub_zero] at he
    have e31 : (2 : Nat) ^ 30 = 1073741824 := by decide
    rw [e31] at he
    rw [Nat.pow_zero, Nat.mul_one]
    refine K M2 u rest f2 h2 hr he ?_
    by_cases q : u < 1073741824
    · exact q
    · have q1 : D * 1073741824 ≤ D * u := Nat.mul_le_mul_left _ (by omega)
      have q2 : (r0 + 1) * 1073741824 ≤ D * 1073741824 := Nat.mul_le_mul_right _ (by omega)
      omega
  | succ t ih =>
    intro u rest M2 hs f2 hrm hr he
    have hS2 := hS.rf f2
    have hvb2 := hvb.rf f2 hb hb2
    have e1 : ((t + 1 : Nat) : Int) - 1 = (t : Int) := by omega
    have e1t : (0 : Int) ≤ (t : Int) ∧ (t : Int) < 32 := by omega
    have x32 : in32 (x : Int) := by unfold in32; omega
    have hbs := bit_s he
    rw [show 2 ^ (30 - (t + 1)) * 2 = 2 ^ (30 - t) by rw [← Nat.pow_succ]; congr 1; omega] at hbs
    have hu : u < 2 ^ (29 - t) := by
      by_cases q : u < 2 ^ (29 - t)
      · exact q
      · have p2 : 2 ^ (29 - t) * 2 ^ (t + 1) = 1073741824 := by rw [← Nat.pow_add, show 29 - t + (t + 1) = 30 by omega]
        have q0 : x / 2 ^ (t + 1) < 2 ^ (29 - t) := (Nat.div_lt_iff_lt_mul (Nat.pow_pos (by decide))).mpr (by omega)
        have q1 : D * 2 ^ (29 - t) ≤ D * u := Nat.mul_le_mul_left _ (by omega)
        have q2 : (r0 + 1) * 2 ^ (29 - t) ≤ D * 2 ^ (29 - t) := Nat.mul_le_mul_right _ (by omega)
        rw [show 30 - (t + 1) = 29 - t by omega] at he
        rw [Nat.add_mul, Nat.one_mul] at q2
        omega
    have eb : cw_and32 ((x : Int) / 2 ^ (t : Int).toNat) 1 = ((x / 2 ^ t % 2 : Nat) : Int) := by
      rw [and1, Int.toNat_natCast]
      rw [show ((2 : Int) ^ t) = ((2 ^ t : Nat) : Int) by rw [Int.natCast_pow]; rfl]
      rfl
    have eo := or_bit t u (by omega) hu
    have eu : ∀ c : Nat, u * 2 ^ (t + 1) + c * 2 ^ t = (2 * u + c) * 2 ^ t := by
      intro c
      rw [Nat.pow_succ, Nat.add_mul, show u * (2 ^ t * 2) = 2 * u * 2 ^ t by ac_rfl]
    generalize hbit : x / 2 ^ t % 2 = bit at *
    rw [e1]
    refine k_Mo_cuts_54 _ _ _ _ _ _ _ _ ?_
    simp only [↓w_nil, ↓w_cons, ↓w_ild9, ↓w_iflt, true_and, and_true, true_implies, false_implies, not_true_eq_false, not_false_eq_true, Int.reduceEq, Int.reduceLT, Int.reduceLE, Int.reduceNeg]
    repeat refine And.intro (by first | assumption | exact IsW.kt (by assumption) | omega | (unfold in32; omega) | (unfold in64; omega) | exact True.intro | exact Or.inl True.intro | rfl | exact Nat.le_of_ble_eq_true rfl) ?_
    try first | done | assumption | (unfold in32; omega) | (unfold in64; omega)
    intro _
    refine k_Mo_cuts_59 _ _ _ _ _ _ _ _ ?_
    simp only [↓w_nil, ↓w_cons, ↓w_ald0, ↓w_ild7, ↓w_ild9, ↓w_ishr, ↓w_ic, ↓w_iand, ↓w_cv1, true_and, and_true, true_implies, false_implies, not_true_eq_false, not_false_eq_true, Int.reduceEq, Int.reduceLT, Int.reduceLE, Int.reduceNeg, w_c80, w_c8I, w_c8L, w_c8R, m_k0, m_k1, m_k2, m_k3, m_k9, m_u01, m_u02, m_u03, m_u09, m_u10, m_u12, m_u13, m_u19, m_u20, m_u21, m_u23, m_u29, m_u30, m_u31, m_u32, m_u39, w_up1, eb]
    repeat refine And.intro (by first | assumption | exact IsW.kt (by assumption) | omega | (unfold in32; omega) | (unfold in64; omega) | exact True.intro | exact Or.inl True.intro | rfl | exact Nat.le_of_ble_eq_true rfl) ?_
    try first | done | assumption | (unfold in32; omega) | (unfold in64; omega)
    have ar := ab_3 (rest : Int)
    refine ⟨_, p_Mo_doubles hS2 hrm (by omega) (by omega) (by omega), ?_⟩
    rintro q M4 ⟨rfl, h4, f4⟩
    have hS4 := hS2.rf f4
    have hvb4 := hvb2.rf f4 hb hb2
    have f24 := rf_tr f2 f4
    have h2' : IR 2 := by unfold IR; omega
    refine k_Mo_cuts_70 _ _ _ _ _ _ _ _ ?_
    simp only [↓w_nil, ↓w_cons, ↓w_ald0, ↓w_ic, ↓w_ild3, ↓w_cv2, true_and, and_true, true_implies, false_implies, not_true_eq_false, not_false_eq_true, Int.reduceEq, Int.reduceLT, Int.reduceLE, Int.reduceNeg, w_c80, w_c8I, w_c8L, w_c8R, w_tl0, m_k0, m_k1, m_k2, m_k3, m_k9, m_u01, m_u02, m_u03, m_u09, m_u10, m_u12, m_u13, m_u19, m_u20, m_u21, m_u23, m_u29, m_u30, m_u31, m_u32, m_u39, w_up1]
    repeat refine And.intro (by first | assumption | exact IsW.kt (by assumption) | omega | (unfold in32; omega) | (unfold in64; omega) | exact True.intro | exact Or.inl True.intro | rfl | exact Nat.le_of_ble_eq_true rfl) ?_
    try first | done | assumption | (unfold in32; omega) | (unfold in64; omega)
    refine ⟨_, p_Mo_against hS4 h2' hb h4 hvb4, ?_⟩
    rintro q M5 ⟨rfl, rfl⟩
    have ar2 := ab_3 (2 * (rest : Int) + bit)
    have c32 : in32 (cw_cm (cw_ab (2 * (rest : Int) + bit)) (cw_ab D)) := by unfold in32 cw_cm; split <;> (try split) <;> omega
    refine k_Mo_cuts_76 _ _ _ _ _ _ _ _ ?_
    simp only [↓w_nil, ↓w_iflt, true_and, and_true, true_implies, false_implies, not_true_eq_false, not_false_eq_true, Int.reduceEq, Int.reduceLT, Int.reduceLE, Int.reduceNeg, w_tl1]
    repeat refine And.intro (by first | assumption | exact IsW.kt (by assumption) | omega | (unfold in32; omega) | (unfold in64; omega) | exact True.intro | exact Or.inl True.intro | rfl | exact Nat.le_of_ble_eq_true rfl) ?_
    try first | done | assumption | (unfold in32; omega) | (unfold in64; omega)
    refine ⟨fun hc => ?_, fun hc => ?_⟩
    · have hlt : 2 * rest + bit < D := by unfold cw_cm at hc; split at hc <;> (try split at hc) <;> omega
      refine k_Mo_cuts_103 _ _ _ _ _ _ _ _ ?_
      simp only [↓w_nil, ↓w_cons, ↓w_inc9, ↓w_goto, true_and, and_true, true_implies, false_implies, not_true_eq_false, not_false_eq_true, Int.reduceEq, Int.reduceLT, Int.reduceLE, Int.reduceNeg, w_nlI, w_nlL, w_nlR]
      have := ih (2 * u) (2 * rest + bit) _ (by omega) f24 (by rw [show ((2 * rest + bit : Nat) : Int) = 2 * (rest : Int) + bit by omega]; exact h4) hlt hbs
      have e5 := eu 0
      rw [Nat.zero_mul, Nat.add_zero, Nat.add_zero] at e5
      rw [e5]
      exact this
    · have hge : D ≤ 2 * rest + bit := by unfold cw_cm at hc; split at hc <;> (try split at hc) <;> omega
      refine k_Mo_cuts_79 _ _ _ _ _ _ _ _ ?_
      simp only [↓w_nil, ↓w_cons, ↓w_ald0, ↓w_gf2_2, ↓w_ic, ↓w_iast, ↓w_ild3, ↓w_cv4, true_and, and_true, true_implies, false_implies, not_true_eq_false, not_false_eq_true, Int.reduceEq, Int.reduceLT, Int.reduceLE, Int.reduceNeg, w_c80, w_c8I, w_c8L, w_c8R, m_k0, m_k1, m_k2, m_k3, m_k9, m_u01, m_u02, m_u03, m_u09, m_u10, m_u12, m_u13, m_u19, m_u20, m_u21, m_u23, m_u29, m_u30, m_u31, m_u32, m_u39, w_up1, hS4.d2]
      refine ⟨Or.inl True.intro, by decide, Or.inl True.intro, by decide, ?_⟩
      have h6 : RM (cw_up M5 322 2 1) 2 (2 * (rest : Int) + bit) := by
        have s6 : cw_sg (2 * (rest : Int) + bit) = 1 := by have := sg_3 (2 * (rest : Int) + bit); omega
        obtain ⟨m, g1, g2, g3, g4, g5, g6⟩ := h4
        refine ⟨m, g1, ?_, ?_, ?_, ?_, ?_⟩
        · rw [m_u21]; exact g2
        · rw [rd_u2]; exact g3
        · rw [rd_u2]; exact g4
        · rw [rd_u2]; exact g5
        · rw [w_up1, s6]
      have f6 : cw_rf (fun s => s = 2) M5 (cw_up M5 322 2 1) := rf_u2 rf_rf rfl
      refine ⟨_, p_Mo_adds (hS4.rf f6) h2' h2' hb h6 (hvb4.rf f6 hb hb2) (by omega) (by omega) (Or.inr rfl), ?_⟩
      rintro q M7 ⟨rfl, h7, f7⟩
      refine k_Mo_cuts_94 _ _ _ _ _ _ _ _ ?_
      simp only [↓w_nil, ↓w_cons, ↓w_ild8, ↓w_ic, ↓w_ild9, ↓w_ishl, ↓w_ior, ↓w_ist8, ↓w_fall, true_and, and_true, true_implies, false_implies, not_true_eq_false, not_false_eq_true, Int.reduceEq, Int.reduceLT, Int.reduceLE, Int.reduceNeg, w_nlI, w_nlL, w_nlR, w_tl0, eo]
      repeat refine And.intro (by first | assumption | exact IsW.kt (by assumption) | omega | (unfold in32; omega) | (unfold in64; omega) | exact True.intro | exact Or.inl True.intro | rfl | exact Nat.le_of_ble_eq_true rfl) ?_
      try first | done | assumption | (unfold in32; omega) | (unfold in64; omega)
      refine k_Mo_cuts_103 _ _ _ _ _ _ _ _ ?_
      simp only [↓w_nil, ↓w_cons, ↓w_inc9, ↓w_goto, true_and, and_true, true_implies, false_implies, not_true_eq_false, not_false_eq_true, Int.reduceEq, Int.reduceLT, Int.reduceLE, Int.reduceNeg, w_nlI, w_nlL, w_nlR]
      have := ih (2 * u + 1) (2 * rest + bit - D) _ (by omega) (rf_tr (rf_tr f24 f6) f7) (by rw [show ((2 * rest + bit - D : Nat) : Int) = 2 * (rest : Int) + bit + -1 * D by omega]; exact h7) (by omega) (by rw [hbs, Nat.mul_add D]; omega)
      have e5 := eu 1
      rw [Nat.one_mul] at e5
      rw [e5]
      exact this
set_option maxHeartbeats 8000000 in
theorem p_Mo_cuts {g : cw_G} {M : cw_M} {r a b va : Int} {D : Nat} (hS : Sh M) (hr : IR r) (ha : IR a) (hb : IR b) (hr2 : r ≠ 2) (ha2 : a ≠ 2) (hb2 : b ≠ 2) (hrb : b ≠ r) (hva : RM M a va) (hvb : RM M b D) (hD0 : 0 < D) (hD : cw_ab D < 1073741824 ^ 30) :
    mC g y_Mo_cuts [.inr (.inr 319), .inl r, .inl a, .inl b] M (fun q M' => q = none ∧ RM M' r (va.tdiv D) ∧ cw_rf (fun s => s = r ∨ s = 2) M M') := by
  obtain ⟨r0, r1⟩ := id hr
  obtain ⟨a0, a1⟩ := id ha
  obtain ⟨b0, b1⟩ := id hb
  have h2 : IR 2 := by unfold IR; omega
  obtain ⟨n, c1, c2, c3, c4, c5, c6⟩ := id hva
  have s1 := sg_3 va
  have loop : ∀ (k rest : Nat) (Mk : cw_M) (h : Int → Int) (z7 z8 z9 : cw_V), k ≤ n → cw_rf (fun s => s = r ∨ s = 2) M Mk → (∀ j : Nat, j < k → cw_rd Mk a j = cw_rd M a j) → (∀ j : Nat, k ≤ j → j < n → cw_rd Mk r j = h j) → (∀ j : Nat, j < k → h j = 0) → cw_dg h n → RM Mk 2 rest → rest < D →
      D * cw_mg h n + rest * 1073741824 ^ k + cw_mg (cw_rd M a) k = cw_ab va →
      mJ g y_Mo_cuts 28 [.inr (.inr 319), .inl r, .inl a, .inl b, .inl (cw_sg va), .inl n, .inl ((k : Int) - 1), z7, z8, z9] [] Mk (fun q M' => q = none ∧ RM M' r (va.tdiv D) ∧ cw_rf (fun s => s = r ∨ s = 2) M M') := by
    intro k
    induction k with
    | zero =>
      intro rest Mk h z7 z8 z9 hk f1 hda hh hz hdg hrm hrest he
      have hSk := hS.rf f1
      have f2 : cw_rf (fun s => s = r ∨ s = 2) M (cw_up (cw_up Mk 321 r n) 322 r (cw_sg va)) := rf_u2 (rf_u1 f1 (Or.inl rfl)) (Or.inl rfl)
      rw [mg_0, Int.pow_zero] at he
      have hm : cw_mg h n = cw_ab va / D := by
        rw [← he, Int.add_zero, Int.mul_one, Int.add_comm, Int.add_mul_ediv_left _ _ (by omega), Int.ediv_eq_zero_of_lt (by omega) (by omega)]
        omega
      have hmr : cw_mg (cw_rd Mk r) n = cw_mg h n := mg_cg n fun j hj => hh j (by omega) hj
      have eD : cw_ab (D : Int) = D := by have := ab_3 (D : Int); omega
      have sD : cw_sg (D : Int) = 1 := by have := sg_3 (D : Int); omega
      clear he
      refine k_Mo_cuts_28 _ _ _ _ _ _ _ _ ?_
      simp only [↓w_nil, ↓w_cons, ↓w_ild6, ↓w_iflt, true_and, and_true, true_implies, false_implies, not_true_eq_false, not_false_eq_true, Int.reduceEq, Int.reduceLT, Int.reduceLE, Int.reduceNeg]
      repeat refine And.intro (by first | assumption | exact IsW.kt (by assumption) | omega | (unfold in32; omega) | (unfold in64; omega) | exact True.intro | exact Or.inl True.intro | rfl | exact Nat.le_of_ble_eq_true rfl) ?_
      try first | done | assumption | (unfold in32; omega) | (unfold in64; omega)
      refine ⟨fun _ => ?_, fun h => absurd h (by omega)⟩
      refine k_Mo_cuts_129 _ _ _ _ _ _ _ _ ?_
      simp only [↓w_nil, ↓w_cons, ↓w_ald0, ↓w_gf2_1, ↓w_ild1, ↓w_ild5, ↓w_iast, ↓w_gf2_2, ↓w_ild4, ↓w_cv1, true_and, and_true, true_implies, false_implies, not_true_eq_false, not_false_eq_true, Int.reduceEq, Int.reduceLT, Int.reduceLE, Int.reduceNeg, w_c80, w_c8I, w_c8L, w_c8R, m_k0, m_k1, m_k2, m_k3, m_k9, m_u01, m_u02, m_u03, m_u09, m_u10, m_u12, m_u13, m_u19, m_u20, m_u21, m_u23, m_u29, m_u30, m_u31, m_u32, m_u39, w_up1, hSk.d1, hSk.d2]
      repeat refine And.intro (by first | assumption | exact IsW.kt (by assumption) | omega | (unfold in32; omega) | (unfold in64; omega) | exact True.intro | exact Or.inl True.intro | rfl | exact Nat.le_of_ble_eq_true rfl) ?_
      try first | done | assumption | (unfold in32; omega) | (unfold in64; omega)
      refine ⟨_, p_Mo_trims (n := n) (v := va.tdiv D) (hS.rf f2) hr c1 ?_ ?_ ?_ ?_, ?_⟩
      · rw [m_u21, w_up1]
      · rw [rd_u2, rd_u1]; intro j hj; rw [hh j (by omega) hj]; exact hdg j hj
      · rw [rd_u2, rd_u1, hmr, hm, ab_tdiv, eD]
      · intro h0; rw [w_up1, sg_tdiv h0, sD, Int.mul_one]
      · rintro q M' ⟨rfl, h1, h2⟩
        refine k_Mo_cuts_150 _ _ _ _ _ _ _ _ ?_
        simp only [↓w_nil, ↓w_vret, true_and, and_true, true_implies, false_implies, not_true_eq_false, not_false_eq_true, Int.reduceEq, Int.reduceLT, Int.reduceLE, Int.reduceNeg, w_tl0]
        exact ⟨h1, rf_tr f2 (rf_mo h2 fun s h => Or.inl h)⟩
    | succ i ih =>
      intro rest Mk h z7 z8 z9 hk f1 hda hh hz hdg hrm hrest he
      have hSk := hS.rf f1
      have e1 : ((i + 1 : Nat) : Int) - 1 = (i : Int) := by omega
      have dx := c3 i (by omega)
      have ex : Mk 320 (32 * a + (i : Int)) = cw_rd M a i := hda i (by omega)
      rw [mg_s, bt_s] at he
      obtain ⟨x, hx⟩ : ∃ x : Nat, cw_rd M a i = x := ⟨(cw_rd M a i).toNat, by omega⟩
      rw [hx] at ex dx he
      have hvb1 := hvb.rf f1 hb (by omega)
      rw [e1]
      refine k_Mo_cuts_28 _ _ _ _ _ _ _ _ ?_
      simp only [↓w_nil, ↓w_cons, ↓w_ild6, ↓w_iflt, true_and, and_true, true_implies, false_implies, not_true_eq_false, not_false_eq_true, Int.reduceEq, Int.reduceLT, Int.reduceLE, Int.reduceNeg]
      repeat refine And.intro (by first | assumption | exact IsW.kt (by assumption) | omega | (unfold in32; omega) | (unfold in64; omega) | exact True.intro | exact Or.inl True.intro | rfl | exact Nat.le_of_ble_eq_true rfl) ?_
      try first | done | assumption | (unfold in32; omega) | (unfold in64; omega)
      intro _
      refine k_Mo_cuts_33 _ _ _ _ _ _ _ _ ?_
      simp only [↓w_nil, ↓w_cons, ↓w_ald0, ↓w_gf2_0, ↓w_ic, ↓w_ild2, ↓w_imul, ↓w_ild6, ↓w_iadd, ↓w_iald, ↓w_ist7, ↓w_ist8, ↓w_ist9, ↓w_fall, true_and, and_true, true_implies, false_implies, not_true_eq_false, not_false_eq_true, Int.reduceEq, Int.reduceLT, Int.reduceLE, Int.reduceNeg, w_nlI, w_nlL, w_nlR, m_k0, m_k1, m_k2, m_k3, m_k9, m_u01, m_u02, m_u03, m_u09, m_u10, m_u12, m_u13, m_u19, m_u20, m_u21, m_u23, m_u29, m_u30, m_u31, m_u32, m_u39, w_up1, hSk.d0, ex]
      repeat refine And.intro (by first | assumption | exact IsW.kt (by assumption) | omega | (unfold in32; omega) | (unfold in64; omega) | exact True.intro | exact Or.inl True.intro | rfl | exact Nat.le_of_ble_eq_true rfl) ?_
      try first | done | assumption | (unfold in32; omega) | (unfold in64; omega)
      have key := fun K => l_cut54 (g := g) (r := r) (a := a) (sg := cw_sg va) (n := n) (k := i) (r0 := rest) (x := x) (Q := fun q M' => q = none ∧ RM M' r (va.tdiv D) ∧ cw_rf (fun s => s = r ∨ s = 2) M M') hSk hb hb2 hvb1 hD (by omega) hrest K 30 0 rest Mk (Nat.le_refl _) rf_rf hrm hrest (by rw [Nat.div_eq_of_lt (by omega)]; omega)
      simp only [Nat.zero_mul] at key
      refine key ?_
      · intro M3 q rest' f3 hr3 hlt heq hq
        have f13 := rf_tr f1 (rf_mo f3 fun s h => Or.inr h)
        have hS3 := hS.rf f13
        refine k_Mo_cuts_109 _ _ _ _ _ _ _ _ ?_
        simp only [↓w_nil, ↓w_cons, ↓w_ald0, ↓w_gf2_0, ↓w_ic, ↓w_ild1, ↓w_imul, ↓w_ild6, ↓w_iadd, ↓w_ild8, ↓w_iast, ↓w_inc6, ↓w_goto, true_and, and_true, true_implies, false_implies, not_true_eq_false, not_false_eq_true, Int.reduceEq, Int.reduceLT, Int.reduceLE, Int.reduceNeg, w_nlI, w_nlL, w_nlR, m_k0, m_k1, m_k2, m_k3, m_k9, m_u01, m_u02, m_u03, m_u09, m_u10, m_u12, m_u13, m_u19, m_u20, m_u21, m_u23, m_u29, m_u30, m_u31, m_u32, m_u39, w_up1, hS3.d0]
        repeat refine And.intro (by first | assumption | exact IsW.kt (by assumption) | omega | (unfold in32; omega) | (unfold in64; omega) | exact True.intro | exact Or.inl True.intro | rfl | exact Nat.le_of_ble_eq_true rfl) ?_
        try first | done | assumption | (unfold in32; omega) | (unfold in64; omega)
        refine ih rest' _ (fun j => if j = i then (q : Int) else h j) _ _ _ (by omega) (rf_u0 f13 (Or.inl rfl) (by omega) (by omega)) ?_ ?_ ?_ ?_ ?_ hlt ?_
        · intro j hj
          have e3 := (f3.2 a ha ha2).2.2 j (by omega) (by omega)
          by_cases q : a = r
          · rw [q, rd_up, if_neg (by omega), ← q, e3]; exact hda j (by omega)
          · rw [rd_ne q (by omega) (by omega) (by omega) (by omega), e3]; exact hda j (by omega)
        · intro j h1 h2
          have e3 := (f3.2 r hr hr2).2.2 j (by omega) (by omega)
          rw [rd_up]
          split
          · rfl
          · rw [e3]; exact hh j (by omega) h2
        · intro j hj
          rw [if_neg (by omega)]; exact hz j (by omega)
        · intro j hj
          show 0 ≤ (if (j : Int) = i then (q : Int) else h j) ∧ (if (j : Int) = i then (q : Int) else h j) < 1073741824
          split
          · omega
          · exact hdg j hj
        · exact hr3.rf (R := fun s => s = r) (rf_u0 rf_rf rfl (by omega) (by omega)) h2 (fun q => hr2 q.symm)
        · rw [mg_upd (f := h) (k := i) (v := q) (fun j => rfl) n (by omega), hz i (by omega), Int.sub_zero, ← he]
          generalize (1073741824 : Int) ^ i = p at *
          have heq' : (rest : Int) * 1073741824 + x = D * q + rest' := by
            have e9 : ((rest * 1073741824 + x : Nat) : Int) = ((D * q + rest' : Nat) : Int) := by rw [heq]
            rw [Int.natCast_add, Int.natCast_add, Int.natCast_mul, Int.natCast_mul] at e9
            exact e9
          have e4 : ((rest : Int) * 1073741824 + x) * p = (D * q + rest') * p := by rw [heq']
          rw [Int.add_mul, Int.add_mul, show (rest : Int) * 1073741824 * p = rest * (p * 1073741824) by ac_rfl, Int.mul_assoc (D : Int)] at e4
          rw [Int.mul_add]
          omega
  refine cw_C_of (L := [.inr (.inr 319), .inl r, .inl a, .inl b, cU, cU, cU, cU, cU, cU]) ok_Mo_cuts (Nat.le_refl _) (Nat.le_of_ble_eq_true rfl) rfl ?_
  refine k_Mo_cuts_0 _ _ _ _ _ _ _ _ ?_
  simp only [↓w_nil, ↓w_cons, ↓w_ald0, ↓w_gf2_2, ↓w_ild2, ↓w_iald, ↓w_ist4, ↓w_ic, ↓w_lc, ↓w_cv2, true_and, and_true, true_implies, false_implies, not_true_eq_false, not_false_eq_true, Int.reduceEq, Int.reduceLT, Int.reduceLE, Int.reduceNeg, w_nlI, w_nlL, w_nlR, w_c80, w_c8I, w_c8L, w_c8R, m_k0, m_k1, m_k2, m_k3, m_k9, m_u01, m_u02, m_u03, m_u09, m_u10, m_u12, m_u13, m_u19, m_u20, m_u21, m_u23, m_u29, m_u30, m_u31, m_u32, m_u39, w_up1, hS.d2, c6]
  repeat refine And.intro (by first | assumption | exact IsW.kt (by assumption) | omega | (unfold in32; omega) | (unfold in64; omega) | exact True.intro | exact Or.inl True.intro | rfl | exact Nat.le_of_ble_eq_true rfl) ?_
  try first | done | assumption | (unfold in32; omega) | (unfold in64; omega)
  refine ⟨_, p_Mo_sets hS h2 (by omega), ?_⟩
  rintro q M1 ⟨rfl, h1, f1⟩
  have hS1 := hS.rf f1
  have e5 : M1 321 a = n := by rw [(f1.2 a ha ha2).1]; exact c2
  refine k_Mo_cuts_14 _ _ _ _ _ _ _ _ ?_
  simp only [↓w_nil, ↓w_cons, ↓w_ald0, ↓w_gf2_1, ↓w_ild2, ↓w_iald, ↓w_ist5, ↓w_ild5, ↓w_ic, ↓w_isub, ↓w_ist6, ↓w_fall, true_and, and_true, true_implies, false_implies, not_true_eq_false, not_false_eq_true, Int.reduceEq, Int.reduceLT, Int.reduceLE, Int.reduceNeg, w_nlI, w_nlL, w_nlR, w_tl0, m_k0, m_k1, m_k2, m_k3, m_k9, m_u01, m_u02, m_u03, m_u09, m_u10, m_u12, m_u13, m_u19, m_u20, m_u21, m_u23, m_u29, m_u30, m_u31, m_u32, m_u39, w_up1, hS1.d1, e5]
  repeat refine And.intro (by first | assumption | exact IsW.kt (by assumption) | omega | (unfold in32; omega) | (unfold in64; omega) | exact True.intro | exact Or.inl True.intro | rfl | exact Nat.le_of_ble_eq_true rfl) ?_
  try first | done | assumption | (unfold in32; omega) | (unfold in64; omega)
  refine loop n 0 M1 (fun _ => 0) cU cU cU (Nat.le_refl _) (rf_mo f1 fun s h => Or.inr h) (fun j hj => (f1.2 a ha ha2).2.2 j (by omega) (by omega)) (fun j h1 h2 => by omega) (fun _ _ => rfl) (fun j hj => by show (0 : Int) ≤ 0 ∧ (0 : Int) < 1073741824; omega) h1 hD0 ?_
  rw [mg_z (k := 0) n (Nat.zero_le _) (fun j _ _ => rfl), mg_0, c5]
  omega
