/-! parts: division by a long -/
theorem l_par51 {g : cw_G} {Mk : cw_M} {r a sg n k : Int} {D r0 x : Nat} {Q : Option cw_V → cw_M → Prop} (hD : D < 4611686018427387904) (hx : x < 1073741824) (hr0 : r0 < D)
    (K : ∀ (q rest : Nat), rest < D → r0 * 1073741824 + x = D * q + rest → q < 1073741824 → mJ g y_Mo_parts 101 [.inr (.inr 319), .inl r, .inl a, .inr (.inl D), cU, .inr (.inl rest), cU, .inl n, .inl sg, .inl k, .inl x, .inl q, .inl (-1)] [] Mk Q) :
    ∀ (s u rest : Nat), s ≤ 30 → rest < D → r0 * 2 ^ (30 - s) + x / 2 ^ s = D * u + rest →
      mJ g y_Mo_parts 51 [.inr (.inr 319), .inl r, .inl a, .inr (.inl D), cU, .inr (.inl rest), cU, .inl n, .inl sg, .inl k, .inl x, .inl ((u * 2 ^ s : Nat) : Int), .inl ((s : Int) - 1)] [] Mk Q := by
  intro s
  induction s with
  | zero =>
    intro u rest hs hr he
    refine k_Mo_parts_51 _ _ _ _ _ _ _ _ ?_
    simp only [↓w_nil, ↓w_cons, ↓w_ild12, ↓w_iflt, true_and, and_true, true_implies, false_implies, not_true_eq_false, not_false_eq_true, Int.reduceEq, Int.reduceLT, Int.reduceLE, Int.reduceNeg]
    repeat refine And.intro (by first | assumption | exact IsW.kt (by assumption) | omega | (unfold in32; omega) | (unfold in64; omega) | exact True.intro | exact Or.inl True.intro | rfl | exact Nat.le_of_ble_eq_true rfl) ?_
    try first | done | assumption | (unfold in32; omega) | (unfold in64; omega)
    refine ⟨fun _ => ?_, fun h => absurd h (by omega)⟩
    rw [Nat.pow_zero, Nat.div_one, Nat.sub_zero] at he
    have e31 : (2 : Nat) ^ 30 = 1073741824 := by decide
    rw [e31] at he
    rw [Nat.pow_zero, Nat.mul_one]
    refine K u rest hr he ?_
    by_cases q : u < 1073741824
    · exact q
    · have q1 : D * 1073741824 ≤ D * u := Nat.mul_le_mul_left _ (by omega)
      have q2 : (r0 + 1) * 1073741824 ≤ D * 1073741824 := Nat.mul_le_mul_right _ (by omega)
      omega
  | succ t ih =>
    intro u rest hs hr he
    have e1 : ((t + 1 : Nat) : Int) - 1 = (t : Int) := by omega
    have e1t : (0 : Int) ≤ (t : Int) ∧ (t : Int) < 32 := by omega
    have x32 : in32 (x : Int) := by unfold in32; omega
    have hbs := bit_s he
    rw [show 2 ^ (30 - (t + 1)) * 2 = 2 ^ (30 - t) by rw [← Nat.pow_succ]; congr 1; omega] at hbs
    have hu : u < 2 ^ (29 - t) := by
      by_cases q : u < 2 ^ (29 - t)
      · exact q
      · have p2 : 2 ^ (29 - t) * 2 ^ (t + 1) = 1073741824 := by rw [← Nat.pow_add, show 29 - t + (t + 1) = 30 by omega]
        have q0 : x / 2 ^ (t + 1) < 2 ^ (29 - t) := (Nat.div_lt_iff_lt_mul (Nat.pow_pos (by decide))).mpr (by omega)
        have q1 : D * 2 ^ (29 - t) ≤ D * u := Nat.mul_le_mul_left _ (by omega)
        have q2 : (r0 + 1) * 2 ^ (29 - t) ≤ D * 2 ^ (29 - t) := Nat.mul_le_mul_right _ (by omega)
        rw [show 30 - (t + 1) = 29 - t by omega] at he
        rw [Nat.add_mul, Nat.one_mul] at q2
        omega
    have eb : cw_and32 ((x : Int) / 2 ^ (t : Int).toNat) 1 = ((x / 2 ^ t % 2 : Nat) : Int) := by
      rw [and1, Int.toNat_natCast]
      rw [show ((2 : Int) ^ t) = ((2 ^ t : Nat) : Int) by rw [Int.natCast_pow]; rfl]
      rfl
    have eo := or_bit t u (by omega) hu
    have eu : ∀ c : Nat, u * 2 ^ (t + 1) + c * 2 ^ t = (2 * u + c) * 2 ^ t := by
      intro c
      rw [Nat.pow_succ, Nat.add_mul, show u * (2 ^ t * 2) = 2 * u * 2 ^ t by ac_rfl]
    generalize hbit : x / 2 ^ t % 2 = bit at *
    rw [e1]
    refine k_Mo_parts_51 _ _ _ _ _ _ _ _ ?_
    simp only [↓w_nil, ↓w_cons, ↓w_ild12, ↓w_iflt, true_and, and_true, true_implies, false_implies, not_true_eq_false, not_false_eq_true, Int.reduceEq, Int.reduceLT, Int.reduceLE, Int.reduceNeg]
    repeat refine And.intro (by first | assumption | exact IsW.kt (by assumption) | omega | (unfold in32; omega) | (unfold in64; omega) | exact True.intro | exact Or.inl True.intro | rfl | exact Nat.le_of_ble_eq_true rfl) ?_
    try first | done | assumption | (unfold in32; omega) | (unfold in64; omega)
    intro _
    have r64 : in64 (2 * (rest : Int) + bit) := by unfold in64; omega
    have d64 : in64 (D : Int) := by unfold in64; omega
    refine k_Mo_parts_56 _ _ _ _ _ _ _ _ ?_
    simp only [↓w_nil, ↓w_cons, ↓w_lc, ↓w_lld5, ↓w_lmul, ↓w_ild10, ↓w_ild12, ↓w_ishr, ↓w_ic, ↓w_iand, ↓w_i2l, ↓w_ladd, ↓w_lst5, ↓w_lld3, ↓w_lclt, true_and, and_true, true_implies, false_implies, not_true_eq_false, not_false_eq_true, Int.reduceEq, Int.reduceLT, Int.reduceLE, Int.reduceNeg, w_nlI, w_nlL, w_nlR, eb]
    repeat refine And.intro (by first | assumption | exact IsW.kt (by assumption) | omega | (unfold in32; omega) | (unfold in64; omega) | exact True.intro | exact Or.inl True.intro | rfl | exact Nat.le_of_ble_eq_true rfl) ?_
    try first | done | assumption | (unfold in32; omega) | (unfold in64; omega)
    refine ⟨fun hc => ?_, fun hc => ?_⟩
    · refine k_Mo_parts_95 _ _ _ _ _ _ _ _ ?_
      simp only [↓w_nil, ↓w_cons, ↓w_inc12, ↓w_goto, true_and, and_true, true_implies, false_implies, not_true_eq_false, not_false_eq_true, Int.reduceEq, Int.reduceLT, Int.reduceLE, Int.reduceNeg, w_nlI, w_nlL, w_nlR]
      have := ih (2 * u) (2 * rest + bit) (by omega) (by omega) hbs
      have e5 := eu 0
      rw [Nat.zero_mul, Nat.add_zero, Nat.add_zero] at e5
      rw [e5]
      rw [show ((2 * rest + bit : Nat) : Int) = 2 * (rest : Int) + bit by omega] at this
      exact this
    · refine k_Mo_parts_80 _ _ _ _ _ _ _ _ ?_
      simp only [↓w_nil, ↓w_cons, ↓w_lld5, ↓w_lld3, ↓w_lsub, ↓w_lst5, ↓w_ild11, ↓w_ic, ↓w_ild12, ↓w_ishl, ↓w_ior, ↓w_ist11, ↓w_fall, true_and, and_true, true_implies, false_implies, not_true_eq_false, not_false_eq_true, Int.reduceEq, Int.reduceLT, Int.reduceLE, Int.reduceNeg, w_nlI, w_nlL, w_nlR, eo]
      repeat refine And.intro (by first | assumption | exact IsW.kt (by assumption) | omega | (unfold in32; omega) | (unfold in64; omega) | exact True.intro | exact Or.inl True.intro | rfl | exact Nat.le_of_ble_eq_true rfl) ?_
      try first | done | assumption | (unfold in32; omega) | (unfold in64; omega)
      refine k_Mo_parts_95 _ _ _ _ _ _ _ _ ?_
      simp only [↓w_nil, ↓w_cons, ↓w_inc12, ↓w_goto, true_and, and_true, true_implies, false_implies, not_true_eq_false, not_false_eq_true, Int.reduceEq, Int.reduceLT, Int.reduceLE, Int.reduceNeg, w_nlI, w_nlL, w_nlR]
      have := ih (2 * u + 1) (2 * rest + bit - D) (by omega) (by omega) (by rw [hbs, Nat.mul_add D]; omega)
      have e5 := eu 1
      rw [Nat.one_mul] at e5
      rw [e5]
      rw [show ((2 * rest + bit - D : Nat) : Int) = 2 * (rest : Int) + bit - D by omega] at this
      exact this
set_option maxHeartbeats 8000000 in
theorem p_Mo_parts {g : cw_G} {M : cw_M} {r a va : Int} {D : Nat} (hS : Sh M) (hr : IR r) (ha : IR a) (hva : RM M a va) (hD0 : 0 < D) (hD : D < 4611686018427387904) :
    mC g y_Mo_parts [.inr (.inr 319), .inl r, .inl a, .inr (.inl D)] M (fun q M' => q = none ∧ RM M' r (va.tdiv D) ∧ cw_rf (fun s => s = r) M M') := by
  obtain ⟨r0, r1⟩ := id hr
  obtain ⟨a0, a1⟩ := id ha
  obtain ⟨n, c1, c2, c3, c4, c5, c6⟩ := id hva
  have s1 := sg_3 va
  have loop : ∀ (k rest : Nat) (Mk : cw_M) (h : Int → Int) (z10 z11 z12 : cw_V), k ≤ n → cw_lf r k n M Mk → (∀ j : Nat, k ≤ j → j < n → cw_rd Mk r j = h j) → (∀ j : Nat, j < k → h j = 0) → cw_dg h n → rest < D →
      D * cw_mg h n + rest * 1073741824 ^ k + cw_mg (cw_rd M a) k = cw_ab va →
      mJ g y_Mo_parts 25 [.inr (.inr 319), .inl r, .inl a, .inr (.inl D), cU, .inr (.inl rest), cU, .inl n, .inl (cw_sg va), .inl ((k : Int) - 1), z10, z11, z12] [] Mk (fun q M' => q = none ∧ RM M' r (va.tdiv D) ∧ cw_rf (fun s => s = r) M M') := by
    intro k
    induction k with
    | zero =>
      intro rest Mk h z10 z11 z12 hk hl hh hz hdg hrest he
      have f1 := lf_f hl (by omega) (by omega)
      have hSk := hS.rf f1
      have f2 : cw_rf (fun s => s = r) M (cw_up (cw_up Mk 321 r n) 322 r (cw_sg va)) := rf_u2 (rf_u1 f1 rfl) rfl
      rw [mg_0, Int.pow_zero] at he
      have hm : cw_mg h n = cw_ab va / D := by
        rw [← he, Int.add_zero, Int.mul_one, Int.add_comm, Int.add_mul_ediv_left _ _ (by omega), Int.ediv_eq_zero_of_lt (by omega) (by omega)]
        omega
      have hmr : cw_mg (cw_rd Mk r) n = cw_mg h n := mg_cg n fun j hj => hh j (by omega) hj
      have eD : cw_ab (D : Int) = D := by have := ab_3 (D : Int); omega
      have sD : cw_sg (D : Int) = 1 := by have := sg_3 (D : Int); omega
      clear he
      refine k_Mo_parts_25 _ _ _ _ _ _ _ _ ?_
      simp only [↓w_nil, ↓w_cons, ↓w_ild9, ↓w_iflt, true_and, and_true, true_implies, false_implies, not_true_eq_false, not_false_eq_true, Int.reduceEq, Int.reduceLT, Int.reduceLE, Int.reduceNeg]
      repeat refine And.intro (by first | assumption | exact IsW.kt (by assumption) | omega | (unfold in32; omega) | (unfold in64; omega) | exact True.intro | exact Or.inl True.intro | rfl | exact Nat.le_of_ble_eq_true rfl) ?_
      try first | done | assumption | (unfold in32; omega) | (unfold in64; omega)
      refine ⟨fun _ => ?_, fun h => absurd h (by omega)⟩
      refine k_Mo_parts_121 _ _ _ _ _ _ _ _ ?_
      simp only [↓w_nil, ↓w_cons, ↓w_ald0, ↓w_gf2_1, ↓w_ild1, ↓w_ild7, ↓w_iast, ↓w_gf2_2, ↓w_ild8, ↓w_cv1, true_and, and_true, true_implies, false_implies, not_true_eq_false, not_false_eq_true, Int.reduceEq, Int.reduceLT, Int.reduceLE, Int.reduceNeg, w_c80, w_c8I, w_c8L, w_c8R, m_k0, m_k1, m_k2, m_k3, m_k9, m_u01, m_u02, m_u03, m_u09, m_u10, m_u12, m_u13, m_u19, m_u20, m_u21, m_u23, m_u29, m_u30, m_u31, m_u32, m_u39, w_up1, hSk.d1, hSk.d2]
      repeat refine And.intro (by first | assumption | exact IsW.kt (by assumption) | omega | (unfold in32; omega) | (unfold in64; omega) | exact True.intro | exact Or.inl True.intro | rfl | exact Nat.le_of_ble_eq_true rfl) ?_
      try first | done | assumption | (unfold in32; omega) | (unfold in64; omega)
      refine ⟨_, p_Mo_trims (n := n) (v := va.tdiv D) (hS.rf f2) hr c1 ?_ ?_ ?_ ?_, ?_⟩
      · rw [m_u21, w_up1]
      · rw [rd_u2, rd_u1]; intro j hj; rw [hh j (by omega) hj]; exact hdg j hj
      · rw [rd_u2, rd_u1, hmr, hm, ab_tdiv, eD]
      · intro h0; rw [w_up1, sg_tdiv h0, sD, Int.mul_one]
      · rintro q M' ⟨rfl, h1, h2⟩
        refine k_Mo_parts_142 _ _ _ _ _ _ _ _ ?_
        simp only [↓w_nil, ↓w_vret, true_and, and_true, true_implies, false_implies, not_true_eq_false, not_false_eq_true, Int.reduceEq, Int.reduceLT, Int.reduceLE, Int.reduceNeg, w_tl0]
        exact ⟨h1, rf_tr f2 h2⟩
    | succ i ih =>
      intro rest Mk h z10 z11 z12 hk hl hh hz hdg hrest he
      have f1 := lf_f hl (by omega) (by omega)
      have hSk := hS.rf f1
      have e1 : ((i + 1 : Nat) : Int) - 1 = (i : Int) := by omega
      have dx := c3 i (by omega)
      have ex : Mk 320 (32 * a + (i : Int)) = cw_rd M a i := lf_rd hl (by omega) (by omega) (by omega) (by omega) (Or.inr (Or.inl (by omega)))
      rw [mg_s, bt_s] at he
      obtain ⟨x, hx⟩ : ∃ x : Nat, cw_rd M a i = x := ⟨(cw_rd M a i).toNat, by omega⟩
      rw [hx] at ex dx he
      rw [e1]
      refine k_Mo_parts_25 _ _ _ _ _ _ _ _ ?_
      simp only [↓w_nil, ↓w_cons, ↓w_ild9, ↓w_iflt, true_and, and_true, true_implies, false_implies, not_true_eq_false, not_false_eq_true, Int.reduceEq, Int.reduceLT, Int.reduceLE, Int.reduceNeg]
      repeat refine And.intro (by first | assumption | exact IsW.kt (by assumption) | omega | (unfold in32; omega) | (unfold in64; omega) | exact True.intro | exact Or.inl True.intro | rfl | exact Nat.le_of_ble_eq_true rfl) ?_
      try first | done | assumption | (unfold in32; omega) | (unfold in64; omega)
      intro _
      refine k_Mo_parts_30 _ _ _ _ _ _ _ _ ?_
      simp only [↓w_nil, ↓w_cons, ↓w_ald0, ↓w_gf2_0, ↓w_ic, ↓w_ild2, ↓w_imul, ↓w_ild9, ↓w_iadd, ↓w_iald, ↓w_ist10, ↓w_ist11, ↓w_ist12, ↓w_fall, true_and, and_true, true_implies, false_implies, not_true_eq_false, not_false_eq_true, Int.reduceEq, Int.reduceLT, Int.reduceLE, Int.reduceNeg, w_nlI, w_nlL, w_nlR, m_k0, m_k1, m_k2, m_k3, m_k9, m_u01, m_u02, m_u03, m_u09, m_u10, m_u12, m_u13, m_u19, m_u20, m_u21, m_u23, m_u29, m_u30, m_u31, m_u32, m_u39, w_up1, hSk.d0, ex]
      repeat refine And.intro (by first | assumption | exact IsW.kt (by assumption) | omega | (unfold in32; omega) | (unfold in64; omega) | exact True.intro | exact Or.inl True.intro | rfl | exact Nat.le_of_ble_eq_true rfl) ?_
      try first | done | assumption | (unfold in32; omega) | (unfold in64; omega)
      have key := fun K => l_par51 (g := g) (Mk := Mk) (r := r) (a := a) (sg := cw_sg va) (n := n) (k := i) (r0 := rest) (x := x) (Q := fun q M' => q = none ∧ RM M' r (va.tdiv D) ∧ cw_rf (fun s => s = r) M M') hD (by omega) hrest K 30 0 rest (Nat.le_refl _) hrest (by rw [Nat.div_eq_of_lt (by omega)]; omega)
      simp only [Nat.zero_mul] at key
      refine key ?_
      · intro q rest' hlt heq hq
        refine k_Mo_parts_101 _ _ _ _ _ _ _ _ ?_
        simp only [↓w_nil, ↓w_cons, ↓w_ald0, ↓w_gf2_0, ↓w_ic, ↓w_ild1, ↓w_imul, ↓w_ild9, ↓w_iadd, ↓w_ild11, ↓w_iast, ↓w_inc9, ↓w_goto, true_and, and_true, true_implies, false_implies, not_true_eq_false, not_false_eq_true, Int.reduceEq, Int.reduceLT, Int.reduceLE, Int.reduceNeg, w_nlI, w_nlL, w_nlR, m_k0, m_k1, m_k2, m_k3, m_k9, m_u01, m_u02, m_u03, m_u09, m_u10, m_u12, m_u13, m_u19, m_u20, m_u21, m_u23, m_u29, m_u30, m_u31, m_u32, m_u39, w_up1, hSk.d0]
        repeat refine And.intro (by first | assumption | exact IsW.kt (by assumption) | omega | (unfold in32; omega) | (unfold in64; omega) | exact True.intro | exact Or.inl True.intro | rfl | exact Nat.le_of_ble_eq_true rfl) ?_
        try first | done | assumption | (unfold in32; omega) | (unfold in64; omega)
        refine ih rest' _ (fun j => if j = i then (q : Int) else h j) _ _ _ (by omega) (lf_u hl (by omega) (by omega) (by omega) (by omega)) ?_ ?_ ?_ hlt ?_
        · intro j h1 h2
          rw [rd_up]
          split
          · rfl
          · exact hh j (by omega) h2
        · intro j hj
          rw [if_neg (by omega)]; exact hz j (by omega)
        · intro j hj
          show 0 ≤ (if (j : Int) = i then (q : Int) else h j) ∧ (if (j : Int) = i then (q : Int) else h j) < 1073741824
          split
          · omega
          · exact hdg j hj
        · rw [mg_upd (f := h) (k := i) (v := q) (fun j => rfl) n (by omega), hz i (by omega), Int.sub_zero, ← he]
          generalize (1073741824 : Int) ^ i = p at *
          have heq' : (rest : Int) * 1073741824 + x = D * q + rest' := by
            have e9 : ((rest * 1073741824 + x : Nat) : Int) = ((D * q + rest' : Nat) : Int) := by rw [heq]
            rw [Int.natCast_add, Int.natCast_add, Int.natCast_mul, Int.natCast_mul] at e9
            exact e9
          have e4 : ((rest : Int) * 1073741824 + x) * p = (D * q + rest') * p := by rw [heq']
          rw [Int.add_mul, Int.add_mul, show (rest : Int) * 1073741824 * p = rest * (p * 1073741824) by ac_rfl, Int.mul_assoc (D : Int)] at e4
          rw [Int.mul_add]
          omega
  refine cw_C_of (L := [.inr (.inr 319), .inl r, .inl a, .inr (.inl D), cU, cU, cU, cU, cU, cU, cU, cU, cU]) ok_Mo_parts (Nat.le_refl _) (Nat.le_of_ble_eq_true rfl) rfl ?_
  refine k_Mo_parts_0 _ _ _ _ _ _ _ _ ?_
  simp only [↓w_nil, ↓w_cons, ↓w_lc, ↓w_lst5, ↓w_ald0, ↓w_gf2_1, ↓w_ild2, ↓w_iald, ↓w_ist7, ↓w_gf2_2, ↓w_ist8, ↓w_ild7, ↓w_ic, ↓w_isub, ↓w_ist9, ↓w_fall, true_and, and_true, true_implies, false_implies, not_true_eq_false, not_false_eq_true, Int.reduceEq, Int.reduceLT, Int.reduceLE, Int.reduceNeg, w_nlI, w_nlL, w_nlR, m_k0, m_k1, m_k2, m_k3, m_k9, m_u01, m_u02, m_u03, m_u09, m_u10, m_u12, m_u13, m_u19, m_u20, m_u21, m_u23, m_u29, m_u30, m_u31, m_u32, m_u39, w_up1, hS.d1, hS.d2, c2, c6]
  repeat refine And.intro (by first | assumption | exact IsW.kt (by assumption) | omega | (unfold in32; omega) | (unfold in64; omega) | exact True.intro | exact Or.inl True.intro | rfl | exact Nat.le_of_ble_eq_true rfl) ?_
  try first | done | assumption | (unfold in32; omega) | (unfold in64; omega)
  refine loop n 0 M (fun _ => 0) cU cU cU (Nat.le_refl _) lf_rf (fun j h1 h2 => by omega) (fun _ _ => rfl) (fun j hj => by show (0 : Int) ≤ 0 ∧ (0 : Int) < 1073741824; omega) hD0 ?_
  rw [mg_z (k := 0) n (Nat.zero_le _) (fun j _ _ => rfl), mg_0, c5]
  omega
