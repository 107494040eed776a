/-! sets, copies, digit, trims -/
theorem p_Mo_sets {g : cw_G} {M : cw_M} {r v : Int} (hS : Sh M) (hr : IR r) (hv : -9223372036854775807 ≤ v ∧ v ≤ 9223372036854775807) :
    mC g y_Mo_sets [.inr (.inr 319), .inl r, .inr (.inl v)] M (fun q M' => q = none ∧ RM M' r v ∧ cw_rf (fun s => s = r) M M') := by
  obtain ⟨r0, r1⟩ := id hr
  have hab : 0 ≤ cw_ab v ∧ cw_ab v ≤ 9223372036854775807 := by unfold cw_ab; split <;> omega
  have e3 : (1073741824 : Int) ^ 3 = 1237940039285380274899124224 := by decide
  have loop : ∀ (d k : Nat) (l : Int) (M1 : cw_M), d + k = 3 → 0 ≤ l → cw_rf (fun s => s = r) M M1 → M1 321 r = k → M1 322 r = cw_sg v → cw_dg (cw_rd M1 r) k → (l = 0 → 0 < k → cw_rd M1 r ((k : Int) - 1) ≠ 0) → cw_mg (cw_rd M1 r) k + l * 1073741824 ^ k = cw_ab v →
      mJ g y_Mo_sets 48 [.inr (.inr 319), .inl r, .inr (.inl v), cU, .inr (.inl l), cU] [] M1 (fun q M' => q = none ∧ RM M' r v ∧ cw_rf (fun s => s = r) M M') := by
    intro d
    induction d with
    | zero =>
      intro k l M1 hd hl f1 hk hs hdg hz hm
      have hl0 : l = 0 := by
        have := (mg_lt k hdg).1
        rw [show k = 3 by omega, e3] at hm
        rw [show k = 3 by omega] at this
        omega
      subst hl0
      refine k_Mo_sets_48 _ _ _ _ _ _ _ _ ?_
      simp only [↓w_nil, ↓w_cons, ↓w_lld4, ↓w_lc, ↓w_lcle, true_and, and_true, true_implies, false_implies, not_true_eq_false, not_false_eq_true, Int.reduceEq, Int.reduceLT, Int.reduceLE, Int.reduceNeg]
      repeat refine And.intro (by first | assumption | exact IsW.kt (by assumption) | omega | (unfold in32; omega) | (unfold in64; omega) | trivial | rfl | exact Nat.le_of_ble_eq_true rfl) ?_
      try first | done | assumption | (unfold in32; omega) | (unfold in64; omega)
      refine k_Mo_sets_99 _ _ _ _ _ _ _ _ ?_
      simp only [↓w_nil, ↓w_vret, true_and, and_true, true_implies, false_implies, not_true_eq_false, not_false_eq_true, Int.reduceEq, Int.reduceLT, Int.reduceLE, Int.reduceNeg]
      exact ⟨⟨k, by omega, hk, hdg, hz rfl, by rw [← hm]; omega, hs⟩, f1⟩
    | succ d ih =>
      intro k l M1 hd hl f1 hk hs hdg hz hm
      have hS1 := hS.rf f1
      have hl64 : l ≤ 9223372036854775807 := by
        have h1 := (mg_lt k hdg).1
        have h2 := bt_pos k
        have h3 : l * 1 ≤ l * 1073741824 ^ k := Int.mul_le_mul_of_nonneg_left (by omega) hl
        omega
      refine k_Mo_sets_48 _ _ _ _ _ _ _ _ ?_
      simp only [↓w_nil, ↓w_cons, ↓w_lld4, ↓w_lc, ↓w_lcle, true_and, and_true, true_implies, false_implies, not_true_eq_false, not_false_eq_true, Int.reduceEq, Int.reduceLT, Int.reduceLE, Int.reduceNeg]
      repeat refine And.intro (by first | assumption | exact IsW.kt (by assumption) | omega | (unfold in32; omega) | (unfold in64; omega) | trivial | rfl | exact Nat.le_of_ble_eq_true rfl) ?_
      try first | done | assumption | (unfold in32; omega) | (unfold in64; omega)
      refine ⟨fun h => ?_, fun h => ?_⟩
      · have hl0 : l = 0 := by omega
        subst hl0
        refine k_Mo_sets_99 _ _ _ _ _ _ _ _ ?_
        simp only [↓w_nil, ↓w_vret, true_and, and_true, true_implies, false_implies, not_true_eq_false, not_false_eq_true, Int.reduceEq, Int.reduceLT, Int.reduceLE, Int.reduceNeg]
        exact ⟨⟨k, by omega, hk, hdg, hz rfl, by rw [← hm]; omega, hs⟩, f1⟩
      · have t1 : l.tmod 1073741824 = l % 1073741824 := Int.tmod_eq_emod_of_nonneg hl
        have t2 : l.tdiv 1073741824 = l / 1073741824 := Int.tdiv_eq_ediv_of_nonneg hl
        refine k_Mo_sets_55 _ _ _ _ _ _ _ _ ?_
        simp only [↓w_nil, ↓w_cons, ↓w_ald0, ↓w_gf2_0, ↓w_ic, ↓w_ild1, ↓w_imul, ↓w_gf2_1, ↓w_iald, ↓w_iadd, ↓w_lld4, ↓w_lc, ↓w_lrem, ↓w_l2i, ↓w_iast, ↓w_ldiv, ↓w_lst4, ↓w_dup2, ↓w_dup2L, ↓w_goto, true_and, and_true, true_implies, false_implies, not_true_eq_false, not_false_eq_true, Int.reduceEq, Int.reduceLT, Int.reduceLE, Int.reduceNeg, w_nlI, w_nlL, w_nlR, m_k0, m_k1, m_k2, m_k3, m_k9, m_u01, m_u02, m_u03, m_u09, m_u10, m_u12, m_u13, m_u19, m_u20, m_u21, m_u23, m_u29, m_u30, m_u31, m_u32, m_u39, w_up1, hS1.d0, hS1.d1, hk, t1, t2]
        repeat refine And.intro (by first | assumption | exact IsW.kt (by assumption) | omega | (unfold in32; omega) | (unfold in64; omega) | trivial | rfl | exact Nat.le_of_ble_eq_true rfl) ?_
        try first | done | assumption | (unfold in32; omega) | (unfold in64; omega)
        refine ih (k + 1) (l / 1073741824) _ (by omega) (by omega) (rf_u1 (rf_u0 f1 rfl (by omega) (by omega)) rfl) ?_ ?_ ?_ ?_ ?_
        · rw [w_up1]; omega
        · rw [m_u12, m_u02]; exact hs
        · intro j hj
          rw [rd_u1, rd_up]
          split
          · omega
          · exact hdg j (by omega)
        · intro h1 _
          rw [rd_u1, rd_up, if_pos (by omega)]
          omega
        · rw [rd_u1, mg_s, rd_up, if_pos rfl, bt_s, ← hm]
          rw [mg_cg (h := cw_rd M1 r) k fun j hj => by rw [rd_up, if_neg (by omega)]]
          have := bt_pos k
          generalize (1073741824 : Int) ^ k = p at *
          have e : l * p = (l % 1073741824) * p + l / 1073741824 * (p * 1073741824) := by
            rw [show l / 1073741824 * (p * 1073741824) = (l / 1073741824 * 1073741824) * p by ac_rfl, ← Int.add_mul]
            congr 1
            omega
          omega
  have fin : ∀ s : Int, s = cw_sg v → mJ g y_Mo_sets 40 [.inr (.inr 319), .inl r, .inr (.inl v), cU, .inr (.inl (cw_ab v)), cU] [.inl s, .inl r, .inr (.inr 322)] M (fun q M' => q = none ∧ RM M' r v ∧ cw_rf (fun s => s = r) M M') := by
    intro s hs
    refine k_Mo_sets_40 _ _ _ _ _ _ _ _ ?_
    simp only [↓w_nil, ↓w_cons, ↓w_iast, ↓w_ald0, ↓w_gf2_1, ↓w_ild1, ↓w_ic, ↓w_fall, true_and, and_true, true_implies, false_implies, not_true_eq_false, not_false_eq_true, Int.reduceEq, Int.reduceLT, Int.reduceLE, Int.reduceNeg, m_k0, m_k1, m_k2, m_k3, m_k9, m_u01, m_u02, m_u03, m_u09, m_u10, m_u12, m_u13, m_u19, m_u20, m_u21, m_u23, m_u29, m_u30, m_u31, m_u32, m_u39, w_up1, hS.d1]
    repeat refine And.intro (by first | assumption | exact IsW.kt (by assumption) | omega | (unfold in32; omega) | (unfold in64; omega) | trivial | rfl | exact Nat.le_of_ble_eq_true rfl) ?_
    try first | done | assumption | (unfold in32; omega) | (unfold in64; omega)
    refine loop 3 0 (cw_ab v) _ rfl hab.1 (rf_u1 (rf_u2 rf_rf rfl) rfl) ?_ ?_ ?_ ?_ ?_
    · rw [w_up1]; rfl
    · rw [m_u12, w_up1]; exact hs
    · intro j hj; omega
    · intro _ h; omega
    · rw [mg_0, Int.pow_zero]; omega
  have go : mJ g y_Mo_sets 12 [.inr (.inr 319), .inl r, .inr (.inl v), cU, cU, cU] [.inr (.inl (cw_ab v))] M (fun q M' => q = none ∧ RM M' r v ∧ cw_rf (fun s => s = r) M M') := by
    refine k_Mo_sets_12 _ _ _ _ _ _ _ _ ?_
    simp only [↓w_nil, ↓w_cons, ↓w_lst4, ↓w_ald0, ↓w_gf2_2, ↓w_ild1, ↓w_lld2, ↓w_lc, ↓w_lcge, true_and, and_true, true_implies, false_implies, not_true_eq_false, not_false_eq_true, Int.reduceEq, Int.reduceLT, Int.reduceLE, Int.reduceNeg, w_nlI, w_nlL, w_nlR, m_k0, m_k1, m_k2, m_k3, m_k9, m_u01, m_u02, m_u03, m_u09, m_u10, m_u12, m_u13, m_u19, m_u20, m_u21, m_u23, m_u29, m_u30, m_u31, m_u32, m_u39, w_up1, hS.d2]
    repeat refine And.intro (by first | assumption | exact IsW.kt (by assumption) | omega | (unfold in32; omega) | (unfold in64; omega) | trivial | rfl | exact Nat.le_of_ble_eq_true rfl) ?_
    try first | done | assumption | (unfold in32; omega) | (unfold in64; omega)
    refine ⟨fun h => ?_, fun h => ?_⟩
    · refine k_Mo_sets_29 _ _ _ _ _ _ _ _ ?_
      simp only [↓w_nil, ↓w_cons, ↓w_lld2, ↓w_lc, ↓w_lcle, true_and, and_true, true_implies, false_implies, not_true_eq_false, not_false_eq_true, Int.reduceEq, Int.reduceLT, Int.reduceLE, Int.reduceNeg]
      repeat refine And.intro (by first | assumption | exact IsW.kt (by assumption) | omega | (unfold in32; omega) | (unfold in64; omega) | trivial | rfl | exact Nat.le_of_ble_eq_true rfl) ?_
      try first | done | assumption | (unfold in32; omega) | (unfold in64; omega)
      refine ⟨fun h2 => ?_, fun h2 => ?_⟩
      · refine k_Mo_sets_39 _ _ _ _ _ _ _ _ ?_
        simp only [↓w_nil, ↓w_cons, ↓w_ic, ↓w_fall, true_and, and_true, true_implies, false_implies, not_true_eq_false, not_false_eq_true, Int.reduceEq, Int.reduceLT, Int.reduceLE, Int.reduceNeg]
        exact fin 0 (by unfold cw_sg; rw [if_pos (by omega)])
      · refine k_Mo_sets_35 _ _ _ _ _ _ _ _ ?_
        simp only [↓w_nil, ↓w_cons, ↓w_ic, ↓w_goto, true_and, and_true, true_implies, false_implies, not_true_eq_false, not_false_eq_true, Int.reduceEq, Int.reduceLT, Int.reduceLE, Int.reduceNeg]
        exact fin 1 (by unfold cw_sg; rw [if_neg (by omega), if_pos (by omega)])
    · refine k_Mo_sets_25 _ _ _ _ _ _ _ _ ?_
      simp only [↓w_nil, ↓w_cons, ↓w_ic, ↓w_goto, true_and, and_true, true_implies, false_implies, not_true_eq_false, not_false_eq_true, Int.reduceEq, Int.reduceLT, Int.reduceLE, Int.reduceNeg]
      exact fin (-1) (by unfold cw_sg; rw [if_neg (by omega), if_neg (by omega)])
  refine cw_C_of (L := [.inr (.inr 319), .inl r, .inr (.inl v), cU, cU, cU]) ok_Mo_sets (Nat.le_refl _) (Nat.le_of_ble_eq_true rfl) rfl ?_
  refine k_Mo_sets_0 _ _ _ _ _ _ _ _ ?_
  simp only [↓w_nil, ↓w_cons, ↓w_lld2, ↓w_lc, ↓w_lcge, true_and, and_true, true_implies, false_implies, not_true_eq_false, not_false_eq_true, Int.reduceEq, Int.reduceLT, Int.reduceLE, Int.reduceNeg]
  repeat refine And.intro (by first | assumption | exact IsW.kt (by assumption) | omega | (unfold in32; omega) | (unfold in64; omega) | trivial | rfl | exact Nat.le_of_ble_eq_true rfl) ?_
  try first | done | assumption | (unfold in32; omega) | (unfold in64; omega)
  refine ⟨fun h => ?_, fun h => ?_⟩
  · refine k_Mo_sets_11 _ _ _ _ _ _ _ _ ?_
    simp only [↓w_nil, ↓w_cons, ↓w_lld2, ↓w_fall, true_and, and_true, true_implies, false_implies, not_true_eq_false, not_false_eq_true, Int.reduceEq, Int.reduceLT, Int.reduceLE, Int.reduceNeg]
    have e : cw_ab v = v := if_pos h
    rw [e] at go
    exact go
  · refine k_Mo_sets_6 _ _ _ _ _ _ _ _ ?_
    simp only [↓w_nil, ↓w_cons, ↓w_lld2, ↓w_lneg, ↓w_goto, true_and, and_true, true_implies, false_implies, not_true_eq_false, not_false_eq_true, Int.reduceEq, Int.reduceLT, Int.reduceLE, Int.reduceNeg]
    have : -v = cw_ab v := by unfold cw_ab; rw [if_neg h]
    rw [this]
    exact go
theorem p_Mo_copies {g : cw_G} {M : cw_M} {r a v : Int} (hS : Sh M) (hr : IR r) (ha : IR a) (hv : RM M a v) :
    mC g y_Mo_copies [.inr (.inr 319), .inl r, .inl a] M (fun q M' => q = none ∧ RM M' r v ∧ cw_rf (fun s => s = r) M M') := by
  obtain ⟨r0, r1⟩ := id hr
  obtain ⟨a0, a1⟩ := id ha
  obtain ⟨n, b1, b2, b3, b4, b5, b6⟩ := id hv
  have loop : ∀ (d k : Nat) (M1 : cw_M), d + k = n → cw_rf (fun s => s = r) M M1 → RM M1 a v → M1 321 a = n → (∀ j : Nat, j < n → cw_rd M1 a j = cw_rd M a j) → (∀ j : Nat, j < k → cw_rd M1 r j = cw_rd M a j) →
      mJ g y_Mo_copies 2 [.inr (.inr 319), .inl r, .inl a, .inl k] [] M1 (fun q M' => q = none ∧ RM M' r v ∧ cw_rf (fun s => s = r) M M') := by
    intro d
    induction d with
    | zero =>
      intro k M1 hd f1 ra hn hda hdr
      have hS1 := hS.rf f1
      have hs1 : M1 322 a = cw_sg v := by obtain ⟨_, _, _, _, _, _, h⟩ := ra; exact h
      have e2 : ∀ x : Int, cw_up M1 321 r x 322 a = M1 322 a := fun x => by rw [m_u12]
      refine k_Mo_copies_2 _ _ _ _ _ _ _ _ ?_
      simp only [↓w_nil, ↓w_cons, ↓w_ild3, ↓w_ald0, ↓w_gf2_1, ↓w_ild2, ↓w_iald, ↓w_icge, true_and, and_true, true_implies, false_implies, not_true_eq_false, not_false_eq_true, Int.reduceEq, Int.reduceLT, Int.reduceLE, Int.reduceNeg, m_k0, m_k1, m_k2, m_k3, m_k9, m_u01, m_u02, m_u03, m_u09, m_u10, m_u12, m_u13, m_u19, m_u20, m_u21, m_u23, m_u29, m_u30, m_u31, m_u32, m_u39, w_up1, hS1.d1, hn]
      repeat refine And.intro (by first | assumption | exact IsW.kt (by assumption) | omega | (unfold in32; omega) | (unfold in64; omega) | trivial | rfl | exact Nat.le_of_ble_eq_true rfl) ?_
      try first | done | assumption | (unfold in32; omega) | (unfold in64; omega)
      refine ⟨fun _ => ?_, fun h => absurd h (by omega)⟩
      refine k_Mo_copies_40 _ _ _ _ _ _ _ _ ?_
      simp only [↓w_nil, ↓w_cons, ↓w_ald0, ↓w_gf2_1, ↓w_ild1, ↓w_ild2, ↓w_iald, ↓w_iast, ↓w_gf2_2, ↓w_vret, true_and, and_true, true_implies, false_implies, not_true_eq_false, not_false_eq_true, Int.reduceEq, Int.reduceLT, Int.reduceLE, Int.reduceNeg, m_k0, m_k1, m_k2, m_k3, m_k9, m_u01, m_u02, m_u03, m_u09, m_u10, m_u12, m_u13, m_u19, m_u20, m_u21, m_u23, m_u29, m_u30, m_u31, m_u32, m_u39, w_up1, hS1.d1, hS1.d2, hn, hs1]
      repeat refine And.intro (by first | assumption | exact IsW.kt (by assumption) | omega | (unfold in32; omega) | (unfold in64; omega) | trivial | rfl | exact Nat.le_of_ble_eq_true rfl) ?_
      try first | done | assumption | (unfold in32; omega) | (unfold in64; omega)
      refine ⟨⟨n, b1, ?_, ?_, ?_, ?_, ?_⟩, rf_u2 (rf_u1 f1 rfl) rfl⟩
      · rw [m_u21, w_up1]
      · intro j hj
        rw [rd_u2, rd_u1, hdr j (by omega)]
        exact b3 j hj
      · intro h
        have := hdr (n - 1) (by omega)
        rw [rd_u2, rd_u1, show (n : Int) - 1 = ((n - 1 : Nat) : Int) by omega, this, show ((n - 1 : Nat) : Int) = (n : Int) - 1 by omega]
        exact b4 h
      · rw [rd_u2, rd_u1, ← b5]
        exact mg_cg n fun j hj => hdr j (by omega)
      · rw [w_up1]
    | succ d ih =>
      intro k M1 hd f1 ra hn hda hdr
      have hS1 := hS.rf f1
      have hk := hda k (by omega)
      unfold cw_rd at hk
      refine k_Mo_copies_2 _ _ _ _ _ _ _ _ ?_
      simp only [↓w_nil, ↓w_cons, ↓w_ild3, ↓w_ald0, ↓w_gf2_1, ↓w_ild2, ↓w_iald, ↓w_icge, true_and, and_true, true_implies, false_implies, not_true_eq_false, not_false_eq_true, Int.reduceEq, Int.reduceLT, Int.reduceLE, Int.reduceNeg, m_k0, m_k1, m_k2, m_k3, m_k9, m_u01, m_u02, m_u03, m_u09, m_u10, m_u12, m_u13, m_u19, m_u20, m_u21, m_u23, m_u29, m_u30, m_u31, m_u32, m_u39, w_up1, hS1.d1, hn]
      repeat refine And.intro (by first | assumption | exact IsW.kt (by assumption) | omega | (unfold in32; omega) | (unfold in64; omega) | trivial | rfl | exact Nat.le_of_ble_eq_true rfl) ?_
      try first | done | assumption | (unfold in32; omega) | (unfold in64; omega)
      intro _
      refine k_Mo_copies_12 _ _ _ _ _ _ _ _ ?_
      simp only [↓w_nil, ↓w_cons, ↓w_ald0, ↓w_gf2_0, ↓w_ic, ↓w_ild1, ↓w_imul, ↓w_ild3, ↓w_iadd, ↓w_ild2, ↓w_iald, ↓w_iast, ↓w_inc3, ↓w_goto, true_and, and_true, true_implies, false_implies, not_true_eq_false, not_false_eq_true, Int.reduceEq, Int.reduceLT, Int.reduceLE, Int.reduceNeg, w_nlI, w_nlL, w_nlR, m_k0, m_k1, m_k2, m_k3, m_k9, m_u01, m_u02, m_u03, m_u09, m_u10, m_u12, m_u13, m_u19, m_u20, m_u21, m_u23, m_u29, m_u30, m_u31, m_u32, m_u39, w_up1, hS1.d0, hk]
      repeat refine And.intro (by first | assumption | exact IsW.kt (by assumption) | omega | (unfold in32; omega) | (unfold in64; omega) | trivial | rfl | exact Nat.le_of_ble_eq_true rfl) ?_
      try first | done | assumption | (unfold in32; omega) | (unfold in64; omega)
      refine ih (k + 1) _ (by omega) (rf_u0 f1 rfl (by omega) (by omega)) ?_ ?_ ?_ ?_
      · by_cases q : a = r
        · subst q
          have e : cw_up M1 320 (32 * a + k) (M 320 (32 * a + k)) = M1 := w_upid hk
          rw [e]; exact ra
        · exact ra.rf (R := fun s => s = r) (rf_u0 rf_rf rfl (by omega) (by omega)) ha q
      · rw [m_u01]; exact hn
      · intro j hj
        by_cases q : a = r
        · subst q
          have e : cw_up M1 320 (32 * a + k) (M 320 (32 * a + k)) = M1 := w_upid hk
          rw [e]; exact hda j hj
        · rw [rd_ne q (by omega) (by omega) (by omega) (by omega)]; exact hda j hj
      · intro j hj
        rw [rd_up]
        split
        · next h => rw [h]; rfl
        · exact hdr j (by omega)
  refine cw_C_of (L := [.inr (.inr 319), .inl r, .inl a, cU]) ok_Mo_copies (Nat.le_refl _) (Nat.le_of_ble_eq_true rfl) rfl ?_
  refine k_Mo_copies_0 _ _ _ _ _ _ _ _ ?_
  simp only [↓w_nil, ↓w_cons, ↓w_ic, ↓w_ist3, ↓w_fall, true_and, and_true, true_implies, false_implies, not_true_eq_false, not_false_eq_true, Int.reduceEq, Int.reduceLT, Int.reduceLE, Int.reduceNeg, w_nlI, w_nlL, w_nlR]
  exact loop n 0 M (by omega) rf_rf hv b2 (fun _ _ => rfl) (fun j hj => by omega)
theorem p_Mo_digit {g : cw_G} {M : cw_M} {r n k : Int} (hS : Sh M) (hr : IR r) (hn : M 321 r = n) (hn1 : n ≤ 32) (hn0 : 0 ≤ n) (hk : 0 ≤ k ∧ k ≤ 32) :
    mC g y_Mo_digit [.inr (.inr 319), .inl r, .inl k] M (fun q M' => q = some (.inl (if k < n then cw_rd M r k else 0)) ∧ M' = M) := by
  obtain ⟨r0, r1⟩ := id hr
  refine cw_C_of (L := [.inr (.inr 319), .inl r, .inl k]) ok_Mo_digit (Nat.le_refl _) (Nat.le_of_ble_eq_true rfl) rfl ?_
  refine k_Mo_digit_0 _ _ _ _ _ _ _ _ ?_
  simp only [↓w_nil, ↓w_cons, ↓w_ild2, ↓w_ald0, ↓w_gf2_1, ↓w_ild1, ↓w_iald, ↓w_icge, true_and, and_true, true_implies, false_implies, not_true_eq_false, not_false_eq_true, Int.reduceEq, Int.reduceLT, Int.reduceLE, Int.reduceNeg, m_k0, m_k1, m_k2, m_k3, m_k9, m_u01, m_u02, m_u03, m_u09, m_u10, m_u12, m_u13, m_u19, m_u20, m_u21, m_u23, m_u29, m_u30, m_u31, m_u32, m_u39, w_up1, hS.d1, hn]
  repeat refine And.intro (by first | assumption | exact IsW.kt (by assumption) | omega | (unfold in32; omega) | (unfold in64; omega) | trivial | rfl | exact Nat.le_of_ble_eq_true rfl) ?_
  try first | done | assumption | (unfold in32; omega) | (unfold in64; omega)
  refine ⟨fun h => ?_, fun h => ?_⟩
  · refine k_Mo_digit_24 _ _ _ _ _ _ _ _ ?_
    simp only [↓w_nil, ↓w_cons, ↓w_ic, ↓w_fall, true_and, and_true, true_implies, false_implies, not_true_eq_false, not_false_eq_true, Int.reduceEq, Int.reduceLT, Int.reduceLE, Int.reduceNeg]
    refine k_Mo_digit_25 _ _ _ _ _ _ _ _ ?_
    simp only [↓w_nil, ↓w_iret, true_and, and_true, true_implies, false_implies, not_true_eq_false, not_false_eq_true, Int.reduceEq, Int.reduceLT, Int.reduceLE, Int.reduceNeg]
    rw [if_neg (by omega)]
  · refine k_Mo_digit_10 _ _ _ _ _ _ _ _ ?_
    simp only [↓w_nil, ↓w_cons, ↓w_ald0, ↓w_gf2_0, ↓w_ic, ↓w_ild1, ↓w_imul, ↓w_ild2, ↓w_iadd, ↓w_iald, ↓w_goto, true_and, and_true, true_implies, false_implies, not_true_eq_false, not_false_eq_true, Int.reduceEq, Int.reduceLT, Int.reduceLE, Int.reduceNeg, m_k0, m_k1, m_k2, m_k3, m_k9, m_u01, m_u02, m_u03, m_u09, m_u10, m_u12, m_u13, m_u19, m_u20, m_u21, m_u23, m_u29, m_u30, m_u31, m_u32, m_u39, w_up1, hS.d0]
    repeat refine And.intro (by first | assumption | exact IsW.kt (by assumption) | omega | (unfold in32; omega) | (unfold in64; omega) | trivial | rfl | exact Nat.le_of_ble_eq_true rfl) ?_
    try first | done | assumption | (unfold in32; omega) | (unfold in64; omega)
    refine k_Mo_digit_25 _ _ _ _ _ _ _ _ ?_
    simp only [↓w_nil, ↓w_iret, true_and, and_true, true_implies, false_implies, not_true_eq_false, not_false_eq_true, Int.reduceEq, Int.reduceLT, Int.reduceLE, Int.reduceNeg]
    rw [if_pos (by omega)]
    rfl
/-- trims: the digits that stand make the number -/
theorem p_Mo_trims {g : cw_G} {M : cw_M} {r v : Int} {n : Nat} (hS : Sh M) (hr : IR r) (hn : n ≤ 32) (h1 : M 321 r = n) (hd : cw_dg (cw_rd M r) n) (hm : cw_mg (cw_rd M r) n = cw_ab v) (hs : v ≠ 0 → M 322 r = cw_sg v) :
    mC g y_Mo_trims [.inr (.inr 319), .inl r] M (fun q M' => q = none ∧ RM M' r v ∧ cw_rf (fun s => s = r) M M') := by
  obtain ⟨r0, r1⟩ := id hr
  have fin : ∀ (k : Nat) (M1 : cw_M), k ≤ n → M1 = cw_up M 321 r k → cw_mg (cw_rd M r) k = cw_ab v → (0 < k → cw_rd M r ((k : Int) - 1) ≠ 0) →
      mJ g y_Mo_trims 43 [.inr (.inr 319), .inl r] [] M1 (fun q M' => q = none ∧ RM M' r v ∧ cw_rf (fun s => s = r) M M') := by
    intro k M1 hk e hmk ht
    subst e
    have f1 : cw_rf (fun s => s = r) M (cw_up M 321 r k) := rf_u1 rf_rf rfl
    refine k_Mo_trims_43 _ _ _ _ _ _ _ _ ?_
    simp only [↓w_nil, ↓w_cons, ↓w_ald0, ↓w_gf2_2, ↓w_ild1, ↓w_gf2_1, ↓w_iald, ↓w_ifne, true_and, and_true, true_implies, false_implies, not_true_eq_false, not_false_eq_true, Int.reduceEq, Int.reduceLT, Int.reduceLE, Int.reduceNeg, m_k0, m_k1, m_k2, m_k3, m_k9, m_u01, m_u02, m_u03, m_u09, m_u10, m_u12, m_u13, m_u19, m_u20, m_u21, m_u23, m_u29, m_u30, m_u31, m_u32, m_u39, w_up1, hS.d1, hS.d2]
    repeat refine And.intro (by first | assumption | exact IsW.kt (by assumption) | omega | (unfold in32; omega) | (unfold in64; omega) | trivial | rfl | exact Nat.le_of_ble_eq_true rfl) ?_
    try first | done | assumption | (unfold in32; omega) | (unfold in64; omega)
    have endd : ∀ s : Int, s = cw_sg v → RM (cw_up (cw_up M 321 r k) 322 r s) r v ∧ cw_rf (fun s => s = r) M (cw_up (cw_up M 321 r k) 322 r s) := by
      intro s e
      refine ⟨⟨k, by omega, ?_, ?_, ?_, ?_, ?_⟩, rf_u2 f1 rfl⟩
      · rw [m_u21, w_up1]
      · rw [rd_u2, rd_u1]; exact dg_le hd hk
      · rw [rd_u2, rd_u1]; exact ht
      · rw [rd_u2, rd_u1]; exact hmk
      · rw [w_up1]; exact e
    refine ⟨fun h => ?_, fun h => ?_⟩
    · refine k_Mo_trims_61 _ _ _ _ _ _ _ _ ?_
      simp only [↓w_nil, ↓w_cons, ↓w_ald0, ↓w_gf2_2, ↓w_ild1, ↓w_iald, ↓w_fall, true_and, and_true, true_implies, false_implies, not_true_eq_false, not_false_eq_true, Int.reduceEq, Int.reduceLT, Int.reduceLE, Int.reduceNeg, m_k0, m_k1, m_k2, m_k3, m_k9, m_u01, m_u02, m_u03, m_u09, m_u10, m_u12, m_u13, m_u19, m_u20, m_u21, m_u23, m_u29, m_u30, m_u31, m_u32, m_u39, w_up1, hS.d2]
      repeat refine And.intro (by first | assumption | exact IsW.kt (by assumption) | omega | (unfold in32; omega) | (unfold in64; omega) | trivial | rfl | exact Nat.le_of_ble_eq_true rfl) ?_
      try first | done | assumption | (unfold in32; omega) | (unfold in64; omega)
      refine k_Mo_trims_67 _ _ _ _ _ _ _ _ ?_
      simp only [↓w_nil, ↓w_cons, ↓w_iast, ↓w_vret, true_and, and_true, true_implies, false_implies, not_true_eq_false, not_false_eq_true, Int.reduceEq, Int.reduceLT, Int.reduceLE, Int.reduceNeg, m_k0, m_k1, m_k2, m_k3, m_k9, m_u01, m_u02, m_u03, m_u09, m_u10, m_u12, m_u13, m_u19, m_u20, m_u21, m_u23, m_u29, m_u30, m_u31, m_u32, m_u39, w_up1]
      repeat refine And.intro (by first | assumption | exact IsW.kt (by assumption) | omega | (unfold in32; omega) | (unfold in64; omega) | trivial | rfl | exact Nat.le_of_ble_eq_true rfl) ?_
      try first | done | assumption | (unfold in32; omega) | (unfold in64; omega)
      refine endd _ (hs fun q => ?_)
      subst q
      obtain ⟨k', rfl⟩ : ∃ k', k = k' + 1 := ⟨k - 1, by omega⟩
      have h4 := ht (by omega)
      rw [show ((k' + 1 : Nat) : Int) - 1 = (k' : Int) by omega] at h4
      have h5 := mg_ge (dg_le hd hk) h4
      have h6 := bt_pos k'
      rw [hmk] at h5
      have : cw_ab 0 = 0 := rfl
      omega
    · refine k_Mo_trims_57 _ _ _ _ _ _ _ _ ?_
      simp only [↓w_nil, ↓w_cons, ↓w_ic, ↓w_goto, true_and, and_true, true_implies, false_implies, not_true_eq_false, not_false_eq_true, Int.reduceEq, Int.reduceLT, Int.reduceLE, Int.reduceNeg]
      refine k_Mo_trims_67 _ _ _ _ _ _ _ _ ?_
      simp only [↓w_nil, ↓w_cons, ↓w_iast, ↓w_vret, true_and, and_true, true_implies, false_implies, not_true_eq_false, not_false_eq_true, Int.reduceEq, Int.reduceLT, Int.reduceLE, Int.reduceNeg, m_k0, m_k1, m_k2, m_k3, m_k9, m_u01, m_u02, m_u03, m_u09, m_u10, m_u12, m_u13, m_u19, m_u20, m_u21, m_u23, m_u29, m_u30, m_u31, m_u32, m_u39, w_up1]
      repeat refine And.intro (by first | assumption | exact IsW.kt (by assumption) | omega | (unfold in32; omega) | (unfold in64; omega) | trivial | rfl | exact Nat.le_of_ble_eq_true rfl) ?_
      try first | done | assumption | (unfold in32; omega) | (unfold in64; omega)
      refine endd _ ?_
      have k0 : k = 0 := by omega
      subst k0
      rw [mg_0] at hmk
      have : v = 0 := by unfold cw_ab at hmk; split at hmk <;> omega
      rw [this]; rfl
  have loop : ∀ (k : Nat) (M1 : cw_M), k ≤ n → M1 = cw_up M 321 r k → cw_mg (cw_rd M r) k = cw_ab v →
      mJ g y_Mo_trims 0 [.inr (.inr 319), .inl r] [] M1 (fun q M' => q = none ∧ RM M' r v ∧ cw_rf (fun s => s = r) M M') := by
    intro k
    induction k with
    | zero =>
      intro M1 hk e hmk
      have e' := e
      subst e
      refine k_Mo_trims_0 _ _ _ _ _ _ _ _ ?_
      simp only [↓w_nil, ↓w_cons, ↓w_ald0, ↓w_gf2_1, ↓w_ild1, ↓w_iald, ↓w_ifle, true_and, and_true, true_implies, false_implies, not_true_eq_false, not_false_eq_true, Int.reduceEq, Int.reduceLT, Int.reduceLE, Int.reduceNeg, m_k0, m_k1, m_k2, m_k3, m_k9, m_u01, m_u02, m_u03, m_u09, m_u10, m_u12, m_u13, m_u19, m_u20, m_u21, m_u23, m_u29, m_u30, m_u31, m_u32, m_u39, w_up1, hS.d1]
      repeat refine And.intro (by first | assumption | exact IsW.kt (by assumption) | omega | (unfold in32; omega) | (unfold in64; omega) | trivial | rfl | exact Nat.le_of_ble_eq_true rfl) ?_
      try first | done | assumption | (unfold in32; omega) | (unfold in64; omega)
      refine ⟨fun _ => fin 0 _ hk e' hmk (fun h => by omega), fun h => absurd h (by omega)⟩
    | succ k ih =>
      intro M1 hk e hmk
      have e' := e
      subst e
      have hdk := hd k (by omega)
      refine k_Mo_trims_0 _ _ _ _ _ _ _ _ ?_
      simp only [↓w_nil, ↓w_cons, ↓w_ald0, ↓w_gf2_1, ↓w_ild1, ↓w_iald, ↓w_ifle, true_and, and_true, true_implies, false_implies, not_true_eq_false, not_false_eq_true, Int.reduceEq, Int.reduceLT, Int.reduceLE, Int.reduceNeg, m_k0, m_k1, m_k2, m_k3, m_k9, m_u01, m_u02, m_u03, m_u09, m_u10, m_u12, m_u13, m_u19, m_u20, m_u21, m_u23, m_u29, m_u30, m_u31, m_u32, m_u39, w_up1, hS.d1]
      repeat refine And.intro (by first | assumption | exact IsW.kt (by assumption) | omega | (unfold in32; omega) | (unfold in64; omega) | trivial | rfl | exact Nat.le_of_ble_eq_true rfl) ?_
      try first | done | assumption | (unfold in32; omega) | (unfold in64; omega)
      intro _
      have er : M 320 (32 * r + ((k + 1 : Nat) : Int) - 1) = cw_rd M r k := by
        rw [show 32 * r + ((k + 1 : Nat) : Int) - 1 = 32 * r + (k : Int) by omega]; rfl
      refine k_Mo_trims_9 _ _ _ _ _ _ _ _ ?_
      simp only [↓w_nil, ↓w_cons, ↓w_ald0, ↓w_gf2_0, ↓w_ic, ↓w_ild1, ↓w_imul, ↓w_gf2_1, ↓w_iald, ↓w_iadd, ↓w_isub, ↓w_ifne, true_and, and_true, true_implies, false_implies, not_true_eq_false, not_false_eq_true, Int.reduceEq, Int.reduceLT, Int.reduceLE, Int.reduceNeg, m_k0, m_k1, m_k2, m_k3, m_k9, m_u01, m_u02, m_u03, m_u09, m_u10, m_u12, m_u13, m_u19, m_u20, m_u21, m_u23, m_u29, m_u30, m_u31, m_u32, m_u39, w_up1, hS.d0, hS.d1, er]
      repeat refine And.intro (by first | assumption | exact IsW.kt (by assumption) | omega | (unfold in32; omega) | (unfold in64; omega) | trivial | rfl | exact Nat.le_of_ble_eq_true rfl) ?_
      try first | done | assumption | (unfold in32; omega) | (unfold in64; omega)
      refine ⟨fun h => ?_, fun h => ?_⟩
      · refine fin (k + 1) _ hk e' hmk fun _ => ?_
        rw [show ((k + 1 : Nat) : Int) - 1 = (k : Int) by omega]
        exact h
      · refine k_Mo_trims_30 _ _ _ _ _ _ _ _ ?_
        simp only [↓w_nil, ↓w_cons, ↓w_ald0, ↓w_gf2_1, ↓w_ild1, ↓w_dup2, ↓w_dup2L, ↓w_iald, ↓w_ic, ↓w_isub, ↓w_iast, ↓w_goto, true_and, and_true, true_implies, false_implies, not_true_eq_false, not_false_eq_true, Int.reduceEq, Int.reduceLT, Int.reduceLE, Int.reduceNeg, m_k0, m_k1, m_k2, m_k3, m_k9, m_u01, m_u02, m_u03, m_u09, m_u10, m_u12, m_u13, m_u19, m_u20, m_u21, m_u23, m_u29, m_u30, m_u31, m_u32, m_u39, w_up1, hS.d1, w_upup]
        repeat refine And.intro (by first | assumption | exact IsW.kt (by assumption) | omega | (unfold in32; omega) | (unfold in64; omega) | trivial | rfl | exact Nat.le_of_ble_eq_true rfl) ?_
        try first | done | assumption | (unfold in32; omega) | (unfold in64; omega)
        refine ih _ (by omega) ?_ ?_
        · rw [show ((k + 1 : Nat) : Int) - 1 = (k : Int) by omega]
        · rw [mg_s] at hmk
          have h0 : cw_rd M r k = 0 := by omega
          rw [h0] at hmk
          omega
  refine cw_C_of (L := [.inr (.inr 319), .inl r]) ok_Mo_trims (Nat.le_refl _) (Nat.le_of_ble_eq_true rfl) rfl ?_
  exact loop n M (Nat.le_refl _) (w_upid h1).symm hm
