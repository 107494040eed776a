/-! against, compares -/
theorem gn_lt {f : Int → Int} {x : Int} {n : Nat} (h1 : cw_dg f n) (h3 : cw_mg f n = x) : x < 1073741824 ^ n := by
  rw [← h3]; exact (mg_lt n h1).2
theorem gn_ge {f : Int → Int} {x : Int} {n : Nat} (h1 : cw_dg f (n + 1)) (h2 : 0 < n + 1 → f (((n + 1 : Nat) : Int) - 1) ≠ 0) (h3 : cw_mg f (n + 1) = x) : 1073741824 ^ n ≤ x := by
  rw [← h3]
  refine mg_ge h1 ?_
  have := h2 (by omega)
  rw [show ((n + 1 : Nat) : Int) - 1 = (n : Int) by omega] at this
  exact this
theorem gn_nle {f : Int → Int} {x : Int} {n i : Nat} (h1 : cw_dg f n) (h2 : 0 < n → f ((n : Int) - 1) ≠ 0) (h3 : cw_mg f n = x) (hv : x < 1073741824 ^ i) : n ≤ i := by
  cases n with
  | zero => omega
  | succ n =>
    have := gn_ge h1 h2 h3
    by_cases q : n + 1 ≤ i
    · exact q
    · have := bt_mono (show i ≤ n by omega)
      omega
theorem p_Mo_against {g : cw_G} {M : cw_M} {a b va vb : Int} (hS : Sh M) (ha : IR a) (hb : IR b) (hva : RM M a va) (hvb : RM M b vb) :
    mC g y_Mo_against [.inr (.inr 319), .inl a, .inl b] M (fun r M' => r = some (.inl (cw_cm (cw_ab va) (cw_ab vb))) ∧ M' = M) := by
  obtain ⟨k1, k2⟩ := id ha
  obtain ⟨q1, q2⟩ := id hb
  obtain ⟨n, a1, a2, a3, a4, a5, a6⟩ := hva
  obtain ⟨m, b1, b2, b3, b4, b5, b6⟩ := hvb
  refine cw_C_of (L := [.inr (.inr 319), .inl a, .inl b, cU]) ok_Mo_against (Nat.le_refl _) (Nat.le_of_ble_eq_true rfl) rfl ?_
  refine k_Mo_against_0 _ _ _ _ _ _ _ _ ?_
  simp only [↓w_nil, ↓w_cons, ↓w_ald0, ↓w_gf2_1, ↓w_ild1, ↓w_iald, ↓w_ild2, ↓w_iceq, true_and, and_true, true_implies, false_implies, not_true_eq_false, not_false_eq_true, Int.reduceEq, Int.reduceLT, Int.reduceLE, Int.reduceNeg, m_k0, m_k1, m_k2, m_k3, m_k9, m_u01, m_u02, m_u03, m_u09, m_u10, m_u12, m_u13, m_u19, m_u20, m_u21, m_u23, m_u29, m_u30, m_u31, m_u32, m_u39, w_up1, hS.d1, a2, b2]
  repeat refine And.intro (by first | assumption | exact IsW.kt (by assumption) | omega | (unfold in32; omega) | (unfold in64; omega) | trivial | rfl | exact Nat.le_of_ble_eq_true rfl) ?_
  try first | done | assumption | (unfold in32; omega) | (unfold in64; omega)
  refine ⟨fun h => ?_, fun h => ?_⟩
  · have hnm : m = n := by omega
    subst hnm
    have loop : ∀ (Q : Option cw_V → cw_M → Prop), Q (some (.inl (cw_cm (cw_ab va) (cw_ab vb)))) M → ∀ i : Nat, i ≤ m → (∀ j : Nat, i ≤ j → j < m → cw_rd M a j = cw_rd M b j) →
        mJ g y_Mo_against 45 [.inr (.inr 319), .inl a, .inl b, .inl ((i : Int) - 1)] [] M Q := by
      intro Q hq i
      have dif : ∀ k : Nat, k ≤ m → (∀ j : Nat, k ≤ j → j < m → cw_rd M a j = cw_rd M b j) → cw_ab va - cw_mg (cw_rd M a) k = cw_ab vb - cw_mg (cw_rd M b) k := by
        intro k hk hj
        rw [← a5, ← b5]
        clear a5 b5 a4 b4 a2 b2 a3 b3 b1 a1 h
        induction m with
        | zero => have : k = 0 := by omega
                  subst this; simp [mg_0]
        | succ m ih =>
          by_cases q : k = m + 1
          · subst q; omega
          · have := ih (by omega) (fun j h1 h2 => hj j h1 (by omega))
            have e := hj m (by omega) (by omega)
            rw [mg_s, mg_s, e]
            omega
      induction i with
      | zero =>
        intro hi hj
        refine k_Mo_against_45 _ _ _ _ _ _ _ _ ?_
        simp only [↓w_nil, ↓w_cons, ↓w_ild3, ↓w_iflt, true_and, and_true, true_implies, false_implies, not_true_eq_false, not_false_eq_true, Int.reduceEq, Int.reduceLT, Int.reduceLE, Int.reduceNeg]
        repeat refine And.intro (by first | assumption | exact IsW.kt (by assumption) | omega | (unfold in32; omega) | (unfold in64; omega) | trivial | rfl | exact Nat.le_of_ble_eq_true rfl) ?_
        try first | done | assumption | (unfold in32; omega) | (unfold in64; omega)
        refine ⟨fun _ => ?_, fun h => absurd h (by omega)⟩
        refine k_Mo_against_111 _ _ _ _ _ _ _ _ ?_
        simp only [↓w_nil, ↓w_cons, ↓w_ic, ↓w_iret, true_and, and_true, true_implies, false_implies, not_true_eq_false, not_false_eq_true, Int.reduceEq, Int.reduceLT, Int.reduceLE, Int.reduceNeg]
        have e := dif 0 (by omega) hj
        rw [mg_0, mg_0] at e
        have e2 : cw_cm (cw_ab va) (cw_ab vb) = 0 := by unfold cw_cm; rw [if_neg (by omega), if_pos (by omega)]
        rw [e2] at hq
        exact hq
      | succ i ih =>
        intro hi hj
        have da := a3 i (by omega)
        have db := b3 i (by omega)
        have ra : M 320 (32 * a + (i : Int)) = cw_rd M a i := rfl
        have rb : M 320 (32 * b + (i : Int)) = cw_rd M b i := rfl
        have e1 : ((i + 1 : Nat) : Int) - 1 = (i : Int) := by omega
        rw [e1]
        refine k_Mo_against_45 _ _ _ _ _ _ _ _ ?_
        simp only [↓w_nil, ↓w_cons, ↓w_ild3, ↓w_iflt, true_and, and_true, true_implies, false_implies, not_true_eq_false, not_false_eq_true, Int.reduceEq, Int.reduceLT, Int.reduceLE, Int.reduceNeg]
        repeat refine And.intro (by first | assumption | exact IsW.kt (by assumption) | omega | (unfold in32; omega) | (unfold in64; omega) | trivial | rfl | exact Nat.le_of_ble_eq_true rfl) ?_
        try first | done | assumption | (unfold in32; omega) | (unfold in64; omega)
        intro _
        refine k_Mo_against_49 _ _ _ _ _ _ _ _ ?_
        simp only [↓w_nil, ↓w_cons, ↓w_ald0, ↓w_gf2_0, ↓w_ic, ↓w_ild1, ↓w_imul, ↓w_ild3, ↓w_iadd, ↓w_iald, ↓w_ild2, ↓w_iceq, true_and, and_true, true_implies, false_implies, not_true_eq_false, not_false_eq_true, Int.reduceEq, Int.reduceLT, Int.reduceLE, Int.reduceNeg, m_k0, m_k1, m_k2, m_k3, m_k9, m_u01, m_u02, m_u03, m_u09, m_u10, m_u12, m_u13, m_u19, m_u20, m_u21, m_u23, m_u29, m_u30, m_u31, m_u32, m_u39, w_up1, hS.d0, ra, rb]
        repeat refine And.intro (by first | assumption | exact IsW.kt (by assumption) | omega | (unfold in32; omega) | (unfold in64; omega) | trivial | rfl | exact Nat.le_of_ble_eq_true rfl) ?_
        try first | done | assumption | (unfold in32; omega) | (unfold in64; omega)
        have hd := dif (i + 1) (by omega) hj
        rw [mg_s, mg_s] at hd
        have l1 := mg_lt i (dg_le a3 (by omega))
        have l2 := mg_lt i (dg_le b3 (by omega))
        have hp := bt_pos i
        refine ⟨fun h => ?_, fun h => ?_⟩
        · refine k_Mo_against_105 _ _ _ _ _ _ _ _ ?_
          simp only [↓w_nil, ↓w_cons, ↓w_inc3, ↓w_goto, true_and, and_true, true_implies, false_implies, not_true_eq_false, not_false_eq_true, Int.reduceEq, Int.reduceLT, Int.reduceLE, Int.reduceNeg, w_nlI, w_nlL, w_nlR]
          refine ih (by omega) (fun j h1 h2 => ?_)
          by_cases q : j = i
          · rw [q]; exact h
          · exact hj j (by omega) h2
        · refine k_Mo_against_74 _ _ _ _ _ _ _ _ ?_
          simp only [↓w_nil, ↓w_cons, ↓w_ald0, ↓w_gf2_0, ↓w_ic, ↓w_ild1, ↓w_imul, ↓w_ild3, ↓w_iadd, ↓w_iald, ↓w_ild2, ↓w_icge, true_and, and_true, true_implies, false_implies, not_true_eq_false, not_false_eq_true, Int.reduceEq, Int.reduceLT, Int.reduceLE, Int.reduceNeg, m_k0, m_k1, m_k2, m_k3, m_k9, m_u01, m_u02, m_u03, m_u09, m_u10, m_u12, m_u13, m_u19, m_u20, m_u21, m_u23, m_u29, m_u30, m_u31, m_u32, m_u39, w_up1, hS.d0, ra, rb]
          repeat refine And.intro (by first | assumption | exact IsW.kt (by assumption) | omega | (unfold in32; omega) | (unfold in64; omega) | trivial | rfl | exact Nat.le_of_ble_eq_true rfl) ?_
          try first | done | assumption | (unfold in32; omega) | (unfold in64; omega)
          generalize (1073741824 : Int) ^ i = p at *
          refine ⟨fun h2 => ?_, fun h2 => ?_⟩
          · refine k_Mo_against_103 _ _ _ _ _ _ _ _ ?_
            simp only [↓w_nil, ↓w_cons, ↓w_ic, ↓w_fall, true_and, and_true, true_implies, false_implies, not_true_eq_false, not_false_eq_true, Int.reduceEq, Int.reduceLT, Int.reduceLE, Int.reduceNeg]
            refine k_Mo_against_104 _ _ _ _ _ _ _ _ ?_
            simp only [↓w_nil, ↓w_iret, true_and, and_true, true_implies, false_implies, not_true_eq_false, not_false_eq_true, Int.reduceEq, Int.reduceLT, Int.reduceLE, Int.reduceNeg]
            have e3 : (cw_rd M b i + 1) * p ≤ cw_rd M a i * p := Int.mul_le_mul_of_nonneg_right (by omega) (by omega)
            rw [Int.add_mul] at e3
            have e2 : cw_cm (cw_ab va) (cw_ab vb) = 1 := by unfold cw_cm; rw [if_pos (by omega)]
            rw [e2] at hq
            exact hq
          · refine k_Mo_against_99 _ _ _ _ _ _ _ _ ?_
            simp only [↓w_nil, ↓w_cons, ↓w_ic, ↓w_goto, true_and, and_true, true_implies, false_implies, not_true_eq_false, not_false_eq_true, Int.reduceEq, Int.reduceLT, Int.reduceLE, Int.reduceNeg]
            refine k_Mo_against_104 _ _ _ _ _ _ _ _ ?_
            simp only [↓w_nil, ↓w_iret, true_and, and_true, true_implies, false_implies, not_true_eq_false, not_false_eq_true, Int.reduceEq, Int.reduceLT, Int.reduceLE, Int.reduceNeg]
            have e3 : (cw_rd M a i + 1) * p ≤ cw_rd M b i * p := Int.mul_le_mul_of_nonneg_right (by omega) (by omega)
            rw [Int.add_mul] at e3
            have e2 : cw_cm (cw_ab va) (cw_ab vb) = -1 := by unfold cw_cm; rw [if_neg (by omega), if_neg (by omega)]
            rw [e2] at hq
            exact hq
    refine k_Mo_against_36 _ _ _ _ _ _ _ _ ?_
    simp only [↓w_nil, ↓w_cons, ↓w_ald0, ↓w_gf2_1, ↓w_ild1, ↓w_iald, ↓w_ic, ↓w_isub, ↓w_ist3, ↓w_fall, true_and, and_true, true_implies, false_implies, not_true_eq_false, not_false_eq_true, Int.reduceEq, Int.reduceLT, Int.reduceLE, Int.reduceNeg, w_nlI, w_nlL, w_nlR, m_k0, m_k1, m_k2, m_k3, m_k9, m_u01, m_u02, m_u03, m_u09, m_u10, m_u12, m_u13, m_u19, m_u20, m_u21, m_u23, m_u29, m_u30, m_u31, m_u32, m_u39, w_up1, hS.d1, a2]
    repeat refine And.intro (by first | assumption | exact IsW.kt (by assumption) | omega | (unfold in32; omega) | (unfold in64; omega) | trivial | rfl | exact Nat.le_of_ble_eq_true rfl) ?_
    try first | done | assumption | (unfold in32; omega) | (unfold in64; omega)
    exact loop _ ⟨rfl, rfl⟩ m (Nat.le_refl _) (fun j h1 h2 => by omega)
  · refine k_Mo_against_15 _ _ _ _ _ _ _ _ ?_
    simp only [↓w_nil, ↓w_cons, ↓w_ald0, ↓w_gf2_1, ↓w_ild1, ↓w_iald, ↓w_ild2, ↓w_icge, true_and, and_true, true_implies, false_implies, not_true_eq_false, not_false_eq_true, Int.reduceEq, Int.reduceLT, Int.reduceLE, Int.reduceNeg, m_k0, m_k1, m_k2, m_k3, m_k9, m_u01, m_u02, m_u03, m_u09, m_u10, m_u12, m_u13, m_u19, m_u20, m_u21, m_u23, m_u29, m_u30, m_u31, m_u32, m_u39, w_up1, hS.d1, a2, b2]
    repeat refine And.intro (by first | assumption | exact IsW.kt (by assumption) | omega | (unfold in32; omega) | (unfold in64; omega) | trivial | rfl | exact Nat.le_of_ble_eq_true rfl) ?_
    try first | done | assumption | (unfold in32; omega) | (unfold in64; omega)
    refine ⟨fun h2 => ?_, fun h2 => ?_⟩
    · refine k_Mo_against_34 _ _ _ _ _ _ _ _ ?_
      simp only [↓w_nil, ↓w_cons, ↓w_ic, ↓w_fall, true_and, and_true, true_implies, false_implies, not_true_eq_false, not_false_eq_true, Int.reduceEq, Int.reduceLT, Int.reduceLE, Int.reduceNeg]
      refine k_Mo_against_35 _ _ _ _ _ _ _ _ ?_
      simp only [↓w_nil, ↓w_iret, true_and, and_true, true_implies, false_implies, not_true_eq_false, not_false_eq_true, Int.reduceEq, Int.reduceLT, Int.reduceLE, Int.reduceNeg]
      obtain ⟨n', rfl⟩ : ∃ n', n = n' + 1 := ⟨n - 1, by omega⟩
      have e1 := gn_ge a3 a4 a5
      have e2 := gn_lt b3 b5
      have e3 := bt_mono (show m ≤ n' by omega)
      have e4 : cw_cm (cw_ab va) (cw_ab vb) = 1 := by unfold cw_cm; rw [if_pos (by omega)]
      rw [e4]
    · refine k_Mo_against_30 _ _ _ _ _ _ _ _ ?_
      simp only [↓w_nil, ↓w_cons, ↓w_ic, ↓w_goto, true_and, and_true, true_implies, false_implies, not_true_eq_false, not_false_eq_true, Int.reduceEq, Int.reduceLT, Int.reduceLE, Int.reduceNeg]
      refine k_Mo_against_35 _ _ _ _ _ _ _ _ ?_
      simp only [↓w_nil, ↓w_iret, true_and, and_true, true_implies, false_implies, not_true_eq_false, not_false_eq_true, Int.reduceEq, Int.reduceLT, Int.reduceLE, Int.reduceNeg]
      obtain ⟨m', rfl⟩ : ∃ m', m = m' + 1 := ⟨m - 1, by omega⟩
      have e1 := gn_ge b3 b4 b5
      have e2 := gn_lt a3 a5
      have e3 := bt_mono (show n ≤ m' by omega)
      have e4 : cw_cm (cw_ab va) (cw_ab vb) = -1 := by unfold cw_cm; rw [if_neg (by omega), if_neg (by omega)]
      rw [e4]
theorem sg_3 (v : Int) : cw_sg v = -1 ∧ v < 0 ∨ cw_sg v = 0 ∧ v = 0 ∨ cw_sg v = 1 ∧ 0 < v := by
  unfold cw_sg
  split
  · exact Or.inr (Or.inl ⟨rfl, by assumption⟩)
  · split
    · exact Or.inr (Or.inr ⟨rfl, by assumption⟩)
    · exact Or.inl ⟨rfl, by omega⟩
theorem p_Mo_compares {g : cw_G} {M : cw_M} {a b va vb : Int} (hS : Sh M) (ha : IR a) (hb : IR b) (hva : RM M a va) (hvb : RM M b vb) :
    mC g y_Mo_compares [.inr (.inr 319), .inl a, .inl b] M (fun r M' => r = some (.inl (cw_cm va vb)) ∧ M' = M) := by
  obtain ⟨k1, k2⟩ := id ha
  obtain ⟨q1, q2⟩ := id hb
  have ea : M 322 a = cw_sg va := by obtain ⟨_, _, _, _, _, _, h⟩ := hva; exact h
  have eb : M 322 b = cw_sg vb := by obtain ⟨_, _, _, _, _, _, h⟩ := hvb; exact h
  have s1 := sg_3 va
  have s2 := sg_3 vb
  have aa : ∀ x : Int, cw_ab x = if 0 ≤ x then x else -x := fun x => rfl
  refine cw_C_of (L := [.inr (.inr 319), .inl a, .inl b]) ok_Mo_compares (Nat.le_refl _) (Nat.le_of_ble_eq_true rfl) rfl ?_
  refine k_Mo_compares_0 _ _ _ _ _ _ _ _ ?_
  simp only [↓w_nil, ↓w_cons, ↓w_ald0, ↓w_gf2_2, ↓w_ild1, ↓w_iald, ↓w_ild2, ↓w_iceq, true_and, and_true, true_implies, false_implies, not_true_eq_false, not_false_eq_true, Int.reduceEq, Int.reduceLT, Int.reduceLE, Int.reduceNeg, m_k0, m_k1, m_k2, m_k3, m_k9, m_u01, m_u02, m_u03, m_u09, m_u10, m_u12, m_u13, m_u19, m_u20, m_u21, m_u23, m_u29, m_u30, m_u31, m_u32, m_u39, w_up1, hS.d2, ea, eb]
  repeat refine And.intro (by first | assumption | exact IsW.kt (by assumption) | omega | (unfold in32; omega) | (unfold in64; omega) | trivial | rfl | exact Nat.le_of_ble_eq_true rfl) ?_
  try first | done | assumption | (unfold in32; omega) | (unfold in64; omega)
  refine ⟨fun h => ?_, fun h => ?_⟩
  · refine k_Mo_compares_36 _ _ _ _ _ _ _ _ ?_
    simp only [↓w_nil, ↓w_cons, ↓w_ald0, ↓w_gf2_2, ↓w_ild1, ↓w_iald, ↓w_ifge, true_and, and_true, true_implies, false_implies, not_true_eq_false, not_false_eq_true, Int.reduceEq, Int.reduceLT, Int.reduceLE, Int.reduceNeg, m_k0, m_k1, m_k2, m_k3, m_k9, m_u01, m_u02, m_u03, m_u09, m_u10, m_u12, m_u13, m_u19, m_u20, m_u21, m_u23, m_u29, m_u30, m_u31, m_u32, m_u39, w_up1, hS.d2, ea]
    repeat refine And.intro (by first | assumption | exact IsW.kt (by assumption) | omega | (unfold in32; omega) | (unfold in64; omega) | trivial | rfl | exact Nat.le_of_ble_eq_true rfl) ?_
    try first | done | assumption | (unfold in32; omega) | (unfold in64; omega)
    refine ⟨fun h2 => ?_, fun h2 => ?_⟩
    · refine k_Mo_compares_55 _ _ _ _ _ _ _ _ ?_
      simp only [↓w_nil, ↓w_cons, ↓w_ald0, ↓w_ild1, ↓w_ild2, ↓w_cv2, true_and, and_true, true_implies, false_implies, not_true_eq_false, not_false_eq_true, Int.reduceEq, Int.reduceLT, Int.reduceLE, Int.reduceNeg, w_c80, w_c8I, w_c8L, w_c8R, m_k0, m_k1, m_k2, m_k3, m_k9, m_u01, m_u02, m_u03, m_u09, m_u10, m_u12, m_u13, m_u19, m_u20, m_u21, m_u23, m_u29, m_u30, m_u31, m_u32, m_u39, w_up1]
      repeat refine And.intro (by first | assumption | exact IsW.kt (by assumption) | omega | (unfold in32; omega) | (unfold in64; omega) | trivial | rfl | exact Nat.le_of_ble_eq_true rfl) ?_
      try first | done | assumption | (unfold in32; omega) | (unfold in64; omega)
      refine ⟨_, p_Mo_against hS ha hb hva hvb, ?_⟩
      rintro r M1 ⟨rfl, rfl⟩
      refine k_Mo_compares_61 _ _ _ _ _ _ _ _ ?_
      simp only [↓w_nil, ↓w_iret, true_and, and_true, true_implies, false_implies, not_true_eq_false, not_false_eq_true, Int.reduceEq, Int.reduceLT, Int.reduceLE, Int.reduceNeg, w_tl1]
      congr 2
      rw [aa, aa, if_pos (by omega), if_pos (by omega)]
    · refine k_Mo_compares_45 _ _ _ _ _ _ _ _ ?_
      simp only [↓w_nil, ↓w_cons, ↓w_ald0, ↓w_ild1, ↓w_ild2, ↓w_cv2, true_and, and_true, true_implies, false_implies, not_true_eq_false, not_false_eq_true, Int.reduceEq, Int.reduceLT, Int.reduceLE, Int.reduceNeg, w_c80, w_c8I, w_c8L, w_c8R, m_k0, m_k1, m_k2, m_k3, m_k9, m_u01, m_u02, m_u03, m_u09, m_u10, m_u12, m_u13, m_u19, m_u20, m_u21, m_u23, m_u29, m_u30, m_u31, m_u32, m_u39, w_up1]
      repeat refine And.intro (by first | assumption | exact IsW.kt (by assumption) | omega | (unfold in32; omega) | (unfold in64; omega) | trivial | rfl | exact Nat.le_of_ble_eq_true rfl) ?_
      try first | done | assumption | (unfold in32; omega) | (unfold in64; omega)
      refine ⟨_, p_Mo_against hS ha hb hva hvb, ?_⟩
      rintro r M1 ⟨rfl, rfl⟩
      refine k_Mo_compares_51 _ _ _ _ _ _ _ _ ?_
      simp only [↓w_nil, ↓w_cons, ↓w_ineg, ↓w_goto, true_and, and_true, true_implies, false_implies, not_true_eq_false, not_false_eq_true, Int.reduceEq, Int.reduceLT, Int.reduceLE, Int.reduceNeg, w_tl1]
      refine k_Mo_compares_61 _ _ _ _ _ _ _ _ ?_
      simp only [↓w_nil, ↓w_iret, true_and, and_true, true_implies, false_implies, not_true_eq_false, not_false_eq_true, Int.reduceEq, Int.reduceLT, Int.reduceLE, Int.reduceNeg]
      congr 2
      rw [aa, aa, if_neg (by omega), if_neg (by omega)]
      unfold cw_cm
      split <;> (try split) <;> (try split) <;> (try split) <;> omega
  · refine k_Mo_compares_15 _ _ _ _ _ _ _ _ ?_
    simp only [↓w_nil, ↓w_cons, ↓w_ald0, ↓w_gf2_2, ↓w_ild1, ↓w_iald, ↓w_ild2, ↓w_icge, true_and, and_true, true_implies, false_implies, not_true_eq_false, not_false_eq_true, Int.reduceEq, Int.reduceLT, Int.reduceLE, Int.reduceNeg, m_k0, m_k1, m_k2, m_k3, m_k9, m_u01, m_u02, m_u03, m_u09, m_u10, m_u12, m_u13, m_u19, m_u20, m_u21, m_u23, m_u29, m_u30, m_u31, m_u32, m_u39, w_up1, hS.d2, ea, eb]
    repeat refine And.intro (by first | assumption | exact IsW.kt (by assumption) | omega | (unfold in32; omega) | (unfold in64; omega) | trivial | rfl | exact Nat.le_of_ble_eq_true rfl) ?_
    try first | done | assumption | (unfold in32; omega) | (unfold in64; omega)
    refine ⟨fun h2 => ?_, fun h2 => ?_⟩
    · refine k_Mo_compares_34 _ _ _ _ _ _ _ _ ?_
      simp only [↓w_nil, ↓w_cons, ↓w_ic, ↓w_fall, true_and, and_true, true_implies, false_implies, not_true_eq_false, not_false_eq_true, Int.reduceEq, Int.reduceLT, Int.reduceLE, Int.reduceNeg]
      refine k_Mo_compares_35 _ _ _ _ _ _ _ _ ?_
      simp only [↓w_nil, ↓w_iret, true_and, and_true, true_implies, false_implies, not_true_eq_false, not_false_eq_true, Int.reduceEq, Int.reduceLT, Int.reduceLE, Int.reduceNeg]
      congr 2
      unfold cw_cm
      rw [if_pos (by omega)]
    · refine k_Mo_compares_30 _ _ _ _ _ _ _ _ ?_
      simp only [↓w_nil, ↓w_cons, ↓w_ic, ↓w_goto, true_and, and_true, true_implies, false_implies, not_true_eq_false, not_false_eq_true, Int.reduceEq, Int.reduceLT, Int.reduceLE, Int.reduceNeg]
      refine k_Mo_compares_35 _ _ _ _ _ _ _ _ ?_
      simp only [↓w_nil, ↓w_iret, true_and, and_true, true_implies, false_implies, not_true_eq_false, not_false_eq_true, Int.reduceEq, Int.reduceLT, Int.reduceLE, Int.reduceNeg]
      congr 2
      unfold cw_cm
      rw [if_neg (by omega), if_neg (by omega)]
