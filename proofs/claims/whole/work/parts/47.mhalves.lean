/-! halves, isEven, doubles -/
theorem top_ne {f : Int → Int} {n : Nat} (h : cw_dg f (n + 1)) (hm : 1073741824 ^ n ≤ cw_mg f (n + 1)) : f n ≠ 0 := by
  intro h0
  rw [mg_s, h0] at hm
  have := mg_lt n (dg_le h (Nat.le_succ n))
  omega
theorem p_Mo_halves {g : cw_G} {M : cw_M} {r v : Int} (hS : Sh M) (hr : IR r) (hv : RM M r v) (hv0 : 0 ≤ v) :
    mC g y_Mo_halves [.inr (.inr 319), .inl r] M (fun q M' => q = none ∧ RM M' r (v / 2) ∧ cw_rf (fun s => s = r) M M') := by
  obtain ⟨r0, r1⟩ := id hr
  obtain ⟨n, a1, a2, a3, a4, a5, a6⟩ := id hv
  have av := ab_3 v
  have av2 := ab_3 (v / 2)
  have s1 := sg_3 v
  have s2 := sg_3 (v / 2)
  have loop : ∀ (k : Nat) (Mk : cw_M) (carry : Int) (z : cw_V), k ≤ n → cw_lf r k n M Mk → cw_dg (cw_rd Mk r) n → 0 ≤ carry ∧ carry ≤ 1 →
      2 * (cw_mg (cw_rd Mk r) n - cw_mg (cw_rd M r) k) + carry * 1073741824 ^ k = cw_mg (cw_rd M r) n - cw_mg (cw_rd M r) k →
      mJ g y_Mo_halves 11 [.inr (.inr 319), .inl r, .inl carry, .inl ((k : Int) - 1), z] [] Mk (fun q M' => q = none ∧ RM M' r (v / 2) ∧ cw_rf (fun s => s = r) M M') := by
    intro k
    induction k with
    | zero =>
      intro Mk carry z hk hl hdg hc he
      have f1 := lf_f hl (by omega) (by omega)
      refine k_Mo_halves_11 _ _ _ _ _ _ _ _ ?_
      simp only [↓w_nil, ↓w_cons, ↓w_ild3, ↓w_iflt, true_and, and_true, true_implies, false_implies, not_true_eq_false, not_false_eq_true, Int.reduceEq, Int.reduceLT, Int.reduceLE, Int.reduceNeg]
      repeat refine And.intro (by first | assumption | exact IsW.kt (by assumption) | omega | (unfold in32; omega) | (unfold in64; omega) | trivial | rfl | exact Nat.le_of_ble_eq_true rfl) ?_
      try first | done | assumption | (unfold in32; omega) | (unfold in64; omega)
      refine ⟨fun _ => ?_, fun h => absurd h (by omega)⟩
      rw [mg_0, Int.pow_zero, a5] at he
      refine k_Mo_halves_59 _ _ _ _ _ _ _ _ ?_
      simp only [↓w_nil, ↓w_cons, ↓w_ald0, ↓w_ild1, ↓w_cv1, true_and, and_true, true_implies, false_implies, not_true_eq_false, not_false_eq_true, Int.reduceEq, Int.reduceLT, Int.reduceLE, Int.reduceNeg, w_c80, w_c8I, w_c8L, w_c8R, m_k0, m_k1, m_k2, m_k3, m_k9, m_u01, m_u02, m_u03, m_u09, m_u10, m_u12, m_u13, m_u19, m_u20, m_u21, m_u23, m_u29, m_u30, m_u31, m_u32, m_u39, w_up1]
      repeat refine And.intro (by first | assumption | exact IsW.kt (by assumption) | omega | (unfold in32; omega) | (unfold in64; omega) | trivial | rfl | exact Nat.le_of_ble_eq_true rfl) ?_
      try first | done | assumption | (unfold in32; omega) | (unfold in64; omega)
      refine ⟨_, p_Mo_trims (n := n) (v := v / 2) (hS.rf f1) hr a1 ?_ hdg ?_ ?_, ?_⟩
      · rw [lf_c hl (by decide)]; exact a2
      · omega
      · intro h; rw [lf_c hl (by decide), a6]; omega
      · rintro q M' ⟨rfl, h1, h2⟩
        refine k_Mo_halves_64 _ _ _ _ _ _ _ _ ?_
        simp only [↓w_nil, ↓w_vret, true_and, and_true, true_implies, false_implies, not_true_eq_false, not_false_eq_true, Int.reduceEq, Int.reduceLT, Int.reduceLE, Int.reduceNeg, w_tl0]
        exact ⟨h1, rf_tr f1 h2⟩
    | succ i ih =>
      intro Mk carry z hk hl hdg hc he
      have f1 := lf_f hl (by omega) (by omega)
      have hSk := hS.rf f1
      have ei : cw_rd Mk r i = cw_rd M r i := lf_rd hl (by omega) (by omega) (by omega) (by omega) (Or.inr (Or.inl (by omega)))
      have e1 : ((i + 1 : Nat) : Int) - 1 = (i : Int) := by omega
      have dx := a3 i (by omega)
      rw [mg_s, bt_s] at he
      rw [e1]
      generalize hx : cw_rd M r i = x at *
      have e2 : Mk 320 (32 * r + (i : Int)) = x := ei
      have t1 : x.tmod 2 = x % 2 := Int.tmod_eq_emod_of_nonneg (by omega)
      have t2 : x.tdiv 2 = x / 2 := Int.tdiv_eq_ediv_of_nonneg (by omega)
      refine k_Mo_halves_11 _ _ _ _ _ _ _ _ ?_
      simp only [↓w_nil, ↓w_cons, ↓w_ild3, ↓w_iflt, true_and, and_true, true_implies, false_implies, not_true_eq_false, not_false_eq_true, Int.reduceEq, Int.reduceLT, Int.reduceLE, Int.reduceNeg]
      repeat refine And.intro (by first | assumption | exact IsW.kt (by assumption) | omega | (unfold in32; omega) | (unfold in64; omega) | trivial | rfl | exact Nat.le_of_ble_eq_true rfl) ?_
      try first | done | assumption | (unfold in32; omega) | (unfold in64; omega)
      intro _
      refine k_Mo_halves_15 _ _ _ _ _ _ _ _ ?_
      simp only [↓w_nil, ↓w_cons, ↓w_ald0, ↓w_gf2_0, ↓w_ic, ↓w_ild1, ↓w_imul, ↓w_ild3, ↓w_iadd, ↓w_iald, ↓w_ist4, ↓w_ild4, ↓w_idiv, ↓w_ild2, ↓w_iast, ↓w_irem, ↓w_ist2, ↓w_inc3, ↓w_goto, true_and, and_true, true_implies, false_implies, not_true_eq_false, not_false_eq_true, Int.reduceEq, Int.reduceLT, Int.reduceLE, Int.reduceNeg, w_nlI, w_nlL, w_nlR, m_k0, m_k1, m_k2, m_k3, m_k9, m_u01, m_u02, m_u03, m_u09, m_u10, m_u12, m_u13, m_u19, m_u20, m_u21, m_u23, m_u29, m_u30, m_u31, m_u32, m_u39, w_up1, hSk.d0, e2, t1, t2]
      repeat refine And.intro (by first | assumption | exact IsW.kt (by assumption) | omega | (unfold in32; omega) | (unfold in64; omega) | trivial | rfl | exact Nat.le_of_ble_eq_true rfl) ?_
      try first | done | assumption | (unfold in32; omega) | (unfold in64; omega)
      refine ih _ _ _ (by omega) (lf_u hl (by omega) (by omega) (by omega) (by omega)) ?_ (by omega) ?_
      · intro j hj
        rw [rd_up]
        split
        · omega
        · exact hdg j (by omega)
      · rw [mg_upd (f := cw_rd Mk r) (k := i) (v := x / 2 + carry * 536870912) (fun j => rd_up) n (by omega), ei]
        generalize (1073741824 : Int) ^ i = p at *
        have e3 : (x / 2 + carry * 536870912 - x) * p * 2 = carry * (p * 1073741824) - x * p - (x % 2) * p := by
          rw [show carry * (p * 1073741824) = (carry * 1073741824) * p by ac_rfl, ← Int.sub_mul, ← Int.sub_mul, Int.mul_assoc, Int.mul_comm p 2, ← Int.mul_assoc]
          congr 1
          omega
        omega
  refine cw_C_of (L := [.inr (.inr 319), .inl r, cU, cU, cU]) ok_Mo_halves (Nat.le_refl _) (Nat.le_of_ble_eq_true rfl) rfl ?_
  refine k_Mo_halves_0 _ _ _ _ _ _ _ _ ?_
  simp only [↓w_nil, ↓w_cons, ↓w_ic, ↓w_ist2, ↓w_ald0, ↓w_gf2_1, ↓w_ild1, ↓w_iald, ↓w_isub, ↓w_ist3, ↓w_fall, true_and, and_true, true_implies, false_implies, not_true_eq_false, not_false_eq_true, Int.reduceEq, Int.reduceLT, Int.reduceLE, Int.reduceNeg, w_nlI, w_nlL, w_nlR, m_k0, m_k1, m_k2, m_k3, m_k9, m_u01, m_u02, m_u03, m_u09, m_u10, m_u12, m_u13, m_u19, m_u20, m_u21, m_u23, m_u29, m_u30, m_u31, m_u32, m_u39, w_up1, hS.d1, a2]
  repeat refine And.intro (by first | assumption | exact IsW.kt (by assumption) | omega | (unfold in32; omega) | (unfold in64; omega) | trivial | rfl | exact Nat.le_of_ble_eq_true rfl) ?_
  try first | done | assumption | (unfold in32; omega) | (unfold in64; omega)
  exact loop n M 0 cU (Nat.le_refl _) lf_rf a3 (by omega) (by omega)
theorem mg_ev {f : Int → Int} : ∀ n : Nat, cw_mg f (n + 1) % 2 = f 0 % 2
  | 0 => by rw [mg_s, mg_0, Int.pow_zero]; show (0 + f 0 * 1) % 2 = _; omega
  | n + 1 => by
    rw [mg_s, bt_s, ← mg_ev n, show f ((n + 1 : Nat) : Int) * (1073741824 ^ n * 1073741824) = f ((n + 1 : Nat) : Int) * 1073741824 ^ n * 1073741824 by ac_rfl]
    omega
theorem p_Mo_isEven {g : cw_G} {M : cw_M} {r v : Int} (hS : Sh M) (hr : IR r) (hv : RM M r v) :
    mC g y_Mo_isEven [.inr (.inr 319), .inl r] M (fun q M' => q = some (.inl (if v % 2 = 0 then 1 else 0)) ∧ M' = M) := by
  obtain ⟨r0, r1⟩ := id hr
  obtain ⟨n, a1, a2, a3, a4, a5, a6⟩ := id hv
  have av := ab_3 v
  have yes : v % 2 = 0 → mJ g y_Mo_isEven 23 [.inr (.inr 319), .inl r] [] M (fun q M' => q = some (.inl (if v % 2 = 0 then 1 else 0)) ∧ M' = M) := by
    intro h
    refine k_Mo_isEven_23 _ _ _ _ _ _ _ _ ?_
    simp only [↓w_nil, ↓w_cons, ↓w_ic, ↓w_goto, true_and, and_true, true_implies, false_implies, not_true_eq_false, not_false_eq_true, Int.reduceEq, Int.reduceLT, Int.reduceLE, Int.reduceNeg]
    refine k_Mo_isEven_28 _ _ _ _ _ _ _ _ ?_
    simp only [↓w_nil, ↓w_zret, true_and, and_true, true_implies, false_implies, not_true_eq_false, not_false_eq_true, Int.reduceEq, Int.reduceLT, Int.reduceLE, Int.reduceNeg]
    repeat refine And.intro (by first | assumption | exact IsW.kt (by assumption) | omega | (unfold in32; omega) | (unfold in64; omega) | trivial | rfl | exact Nat.le_of_ble_eq_true rfl) ?_
    try first | done | assumption | (unfold in32; omega) | (unfold in64; omega)
    rw [if_pos h]
  refine cw_C_of (L := [.inr (.inr 319), .inl r]) ok_Mo_isEven (Nat.le_refl _) (Nat.le_of_ble_eq_true rfl) rfl ?_
  refine k_Mo_isEven_0 _ _ _ _ _ _ _ _ ?_
  simp only [↓w_nil, ↓w_cons, ↓w_ald0, ↓w_gf2_1, ↓w_ild1, ↓w_iald, ↓w_ifeq, true_and, and_true, true_implies, false_implies, not_true_eq_false, not_false_eq_true, Int.reduceEq, Int.reduceLT, Int.reduceLE, Int.reduceNeg, m_k0, m_k1, m_k2, m_k3, m_k9, m_u01, m_u02, m_u03, m_u09, m_u10, m_u12, m_u13, m_u19, m_u20, m_u21, m_u23, m_u29, m_u30, m_u31, m_u32, m_u39, w_up1, hS.d1, a2]
  repeat refine And.intro (by first | assumption | exact IsW.kt (by assumption) | omega | (unfold in32; omega) | (unfold in64; omega) | trivial | rfl | exact Nat.le_of_ble_eq_true rfl) ?_
  try first | done | assumption | (unfold in32; omega) | (unfold in64; omega)
  refine ⟨fun h => ?_, fun h => ?_⟩
  · refine yes ?_
    have n0 : n = 0 := by omega
    subst n0
    rw [mg_0] at a5
    omega
  · obtain ⟨m, rfl⟩ : ∃ m, n = m + 1 := ⟨n - 1, by omega⟩
    have e := mg_ev (f := cw_rd M r) m
    have d0 := a3 0 (by omega)
    have ez : ((0 : Nat) : Int) = 0 := rfl
    rw [ez] at d0
    rw [a5] at e
    have e2 : M 320 (32 * r) = cw_rd M r 0 := by unfold cw_rd; rw [Int.add_zero]
    generalize cw_rd M r 0 = x at *
    have t1 : x.tmod 2 = x % 2 := Int.tmod_eq_emod_of_nonneg (by omega)
    refine k_Mo_isEven_9 _ _ _ _ _ _ _ _ ?_
    simp only [↓w_nil, ↓w_cons, ↓w_ald0, ↓w_gf2_0, ↓w_ic, ↓w_ild1, ↓w_imul, ↓w_iald, ↓w_irem, ↓w_ifne, true_and, and_true, true_implies, false_implies, not_true_eq_false, not_false_eq_true, Int.reduceEq, Int.reduceLT, Int.reduceLE, Int.reduceNeg, m_k0, m_k1, m_k2, m_k3, m_k9, m_u01, m_u02, m_u03, m_u09, m_u10, m_u12, m_u13, m_u19, m_u20, m_u21, m_u23, m_u29, m_u30, m_u31, m_u32, m_u39, w_up1, hS.d0, e2, t1]
    repeat refine And.intro (by first | assumption | exact IsW.kt (by assumption) | omega | (unfold in32; omega) | (unfold in64; omega) | trivial | rfl | exact Nat.le_of_ble_eq_true rfl) ?_
    try first | done | assumption | (unfold in32; omega) | (unfold in64; omega)
    refine ⟨fun h => ?_, fun h => ?_⟩
    · refine k_Mo_isEven_27 _ _ _ _ _ _ _ _ ?_
      simp only [↓w_nil, ↓w_cons, ↓w_ic, ↓w_fall, true_and, and_true, true_implies, false_implies, not_true_eq_false, not_false_eq_true, Int.reduceEq, Int.reduceLT, Int.reduceLE, Int.reduceNeg]
      refine k_Mo_isEven_28 _ _ _ _ _ _ _ _ ?_
      simp only [↓w_nil, ↓w_zret, true_and, and_true, true_implies, false_implies, not_true_eq_false, not_false_eq_true, Int.reduceEq, Int.reduceLT, Int.reduceLE, Int.reduceNeg]
      repeat refine And.intro (by first | assumption | exact IsW.kt (by assumption) | omega | (unfold in32; omega) | (unfold in64; omega) | trivial | rfl | exact Nat.le_of_ble_eq_true rfl) ?_
      try first | done | assumption | (unfold in32; omega) | (unfold in64; omega)
      rw [if_neg (by omega)]
    · exact yes (by omega)
theorem rd_2 {M : cw_M} {j : Int} : M 320 (64 + j) = cw_rd M 2 j := rfl
theorem p_Mo_doubles {g : cw_G} {M : cw_M} {v bit : Int} (hS : Sh M) (hv : RM M 2 v) (hv0 : 0 ≤ v) (hb : cw_ab v < 1073741824 ^ 31) (hbit : bit = 0 ∨ bit = 1) :
    mC g y_Mo_doubles [.inr (.inr 319), .inl bit] M (fun q M' => q = none ∧ RM M' 2 (2 * v + bit) ∧ cw_rf (fun s => s = 2) M M') := by
  obtain ⟨n, a1, a2, a3, a4, a5, a6⟩ := id hv
  have hn := gn_nle a3 a4 a5 hb
  have av := ab_3 v
  have av2 := ab_3 (2 * v + bit)
  have s2 := sg_3 (2 * v + bit)
  have fin : ∀ (m : Nat) (Mk : cw_M), m ≤ 32 → cw_rf (fun s => s = 2) M Mk → Mk 321 2 = m → cw_dg (cw_rd Mk 2) m → cw_mg (cw_rd Mk 2) m = 2 * v + bit → (0 < m → cw_rd Mk 2 ((m : Int) - 1) ≠ 0) →
      ∀ c k z : cw_V, mJ g y_Mo_doubles 84 [.inr (.inr 319), .inl bit, c, k, z] [] Mk (fun q M' => q = none ∧ RM M' 2 (2 * v + bit) ∧ cw_rf (fun s => s = 2) M M') := by
    intro m Mk hm f1 hk hdg hmg htop c k z
    have hSk := hS.rf f1
    have done' : ∀ s : Int, s = cw_sg (2 * v + bit) → RM (cw_up Mk 322 2 s) 2 (2 * v + bit) ∧ cw_rf (fun s => s = 2) M (cw_up Mk 322 2 s) := by
      intro s hs
      refine ⟨⟨m, hm, ?_, ?_, ?_, ?_, ?_⟩, rf_u2 f1 rfl⟩
      · rw [m_u21]; exact hk
      · rw [rd_u2]; exact hdg
      · rw [rd_u2]; exact htop
      · rw [rd_u2, hmg]; omega
      · rw [w_up1]; exact hs
    refine k_Mo_doubles_84 _ _ _ _ _ _ _ _ ?_
    simp only [↓w_nil, ↓w_cons, ↓w_ald0, ↓w_gf2_2, ↓w_ic, ↓w_gf2_1, ↓w_iald, ↓w_ifle, true_and, and_true, true_implies, false_implies, not_true_eq_false, not_false_eq_true, Int.reduceEq, Int.reduceLT, Int.reduceLE, Int.reduceNeg, m_k0, m_k1, m_k2, m_k3, m_k9, m_u01, m_u02, m_u03, m_u09, m_u10, m_u12, m_u13, m_u19, m_u20, m_u21, m_u23, m_u29, m_u30, m_u31, m_u32, m_u39, w_up1, hSk.d1, hSk.d2, hk]
    repeat refine And.intro (by first | assumption | exact IsW.kt (by assumption) | omega | (unfold in32; omega) | (unfold in64; omega) | trivial | rfl | exact Nat.le_of_ble_eq_true rfl) ?_
    try first | done | assumption | (unfold in32; omega) | (unfold in64; omega)
    refine ⟨fun h => ?_, fun h => ?_⟩
    · refine k_Mo_doubles_102 _ _ _ _ _ _ _ _ ?_
      simp only [↓w_nil, ↓w_cons, ↓w_ic, ↓w_fall, true_and, and_true, true_implies, false_implies, not_true_eq_false, not_false_eq_true, Int.reduceEq, Int.reduceLT, Int.reduceLE, Int.reduceNeg]
      refine k_Mo_doubles_103 _ _ _ _ _ _ _ _ ?_
      simp only [↓w_nil, ↓w_cons, ↓w_iast, ↓w_vret, true_and, and_true, true_implies, false_implies, not_true_eq_false, not_false_eq_true, Int.reduceEq, Int.reduceLT, Int.reduceLE, Int.reduceNeg, m_k0, m_k1, m_k2, m_k3, m_k9, m_u01, m_u02, m_u03, m_u09, m_u10, m_u12, m_u13, m_u19, m_u20, m_u21, m_u23, m_u29, m_u30, m_u31, m_u32, m_u39, w_up1]
      repeat refine And.intro (by first | assumption | exact IsW.kt (by assumption) | omega | (unfold in32; omega) | (unfold in64; omega) | trivial | rfl | exact Nat.le_of_ble_eq_true rfl) ?_
      try first | done | assumption | (unfold in32; omega) | (unfold in64; omega)
      refine done' _ ?_
      have m0 : m = 0 := by omega
      subst m0
      rw [mg_0] at hmg
      omega
    · refine k_Mo_doubles_98 _ _ _ _ _ _ _ _ ?_
      simp only [↓w_nil, ↓w_cons, ↓w_ic, ↓w_goto, true_and, and_true, true_implies, false_implies, not_true_eq_false, not_false_eq_true, Int.reduceEq, Int.reduceLT, Int.reduceLE, Int.reduceNeg]
      refine k_Mo_doubles_103 _ _ _ _ _ _ _ _ ?_
      simp only [↓w_nil, ↓w_cons, ↓w_iast, ↓w_vret, true_and, and_true, true_implies, false_implies, not_true_eq_false, not_false_eq_true, Int.reduceEq, Int.reduceLT, Int.reduceLE, Int.reduceNeg, m_k0, m_k1, m_k2, m_k3, m_k9, m_u01, m_u02, m_u03, m_u09, m_u10, m_u12, m_u13, m_u19, m_u20, m_u21, m_u23, m_u29, m_u30, m_u31, m_u32, m_u39, w_up1]
      repeat refine And.intro (by first | assumption | exact IsW.kt (by assumption) | omega | (unfold in32; omega) | (unfold in64; omega) | trivial | rfl | exact Nat.le_of_ble_eq_true rfl) ?_
      try first | done | assumption | (unfold in32; omega) | (unfold in64; omega)
      refine done' _ ?_
      obtain ⟨m', rfl⟩ : ∃ m', m = m' + 1 := ⟨m - 1, by omega⟩
      have := gn_ge hdg htop hmg
      have := bt_pos m'
      omega
  have loop : ∀ (d k : Nat) (Mk : cw_M) (carry : Int) (z : cw_V), d + k = n → cw_lf 2 0 k M Mk → cw_dg (cw_rd Mk 2) k → 0 ≤ carry ∧ carry ≤ 1 →
      cw_mg (cw_rd Mk 2) k + carry * 1073741824 ^ k = 2 * cw_mg (cw_rd M 2) k + bit →
      mJ g y_Mo_doubles 4 [.inr (.inr 319), .inl bit, .inl carry, .inl k, z] [] Mk (fun q M' => q = none ∧ RM M' 2 (2 * v + bit) ∧ cw_rf (fun s => s = 2) M M') := by
    intro d
    induction d with
    | zero =>
      intro k Mk carry z hd hl hdg hc he
      have hk : k = n := by omega
      subst hk
      have f1 := lf_f hl (by omega) (by omega)
      have hSk := hS.rf f1
      have e1 : Mk 321 2 = k := by rw [lf_c hl (by decide)]; exact a2
      refine k_Mo_doubles_4 _ _ _ _ _ _ _ _ ?_
      simp only [↓w_nil, ↓w_cons, ↓w_ild3, ↓w_ald0, ↓w_gf2_1, ↓w_ic, ↓w_iald, ↓w_icge, true_and, and_true, true_implies, false_implies, not_true_eq_false, not_false_eq_true, Int.reduceEq, Int.reduceLT, Int.reduceLE, Int.reduceNeg, m_k0, m_k1, m_k2, m_k3, m_k9, m_u01, m_u02, m_u03, m_u09, m_u10, m_u12, m_u13, m_u19, m_u20, m_u21, m_u23, m_u29, m_u30, m_u31, m_u32, m_u39, w_up1, hSk.d1, e1]
      repeat refine And.intro (by first | assumption | exact IsW.kt (by assumption) | omega | (unfold in32; omega) | (unfold in64; omega) | trivial | rfl | exact Nat.le_of_ble_eq_true rfl) ?_
      try first | done | assumption | (unfold in32; omega) | (unfold in64; omega)
      refine ⟨fun _ => ?_, fun h => absurd h (by omega)⟩
      refine k_Mo_doubles_55 _ _ _ _ _ _ _ _ ?_
      simp only [↓w_nil, ↓w_cons, ↓w_ild2, ↓w_ifle, true_and, and_true, true_implies, false_implies, not_true_eq_false, not_false_eq_true, Int.reduceEq, Int.reduceLT, Int.reduceLE, Int.reduceNeg]
      repeat refine And.intro (by first | assumption | exact IsW.kt (by assumption) | omega | (unfold in32; omega) | (unfold in64; omega) | trivial | rfl | exact Nat.le_of_ble_eq_true rfl) ?_
      try first | done | assumption | (unfold in32; omega) | (unfold in64; omega)
      rw [a5] at he
      refine ⟨fun h => ?_, fun h => ?_⟩
      · have c0 : carry = 0 := by omega
        subst c0
        refine fin k Mk (by omega) f1 e1 hdg (by omega) (fun h => ?_) _ _ _
        obtain ⟨k', rfl⟩ : ∃ k', k = k' + 1 := ⟨k - 1, by omega⟩
        have q1 := gn_ge a3 a4 a5
        have q2 := top_ne hdg (by have := bt_pos k'; omega)
        rw [show ((k' + 1 : Nat) : Int) - 1 = (k' : Int) by omega]
        exact q2
      · have c1 : carry = 1 := by omega
        subst c1
        refine k_Mo_doubles_59 _ _ _ _ _ _ _ _ ?_
        simp only [↓w_nil, ↓w_cons, ↓w_ald0, ↓w_gf2_0, ↓w_ic, ↓w_gf2_1, ↓w_iald, ↓w_iadd, ↓w_ild2, ↓w_iast, ↓w_dup2, ↓w_dup2L, ↓w_fall, true_and, and_true, true_implies, false_implies, not_true_eq_false, not_false_eq_true, Int.reduceEq, Int.reduceLT, Int.reduceLE, Int.reduceNeg, m_k0, m_k1, m_k2, m_k3, m_k9, m_u01, m_u02, m_u03, m_u09, m_u10, m_u12, m_u13, m_u19, m_u20, m_u21, m_u23, m_u29, m_u30, m_u31, m_u32, m_u39, w_up1, hSk.d0, hSk.d1, e1]
        repeat refine And.intro (by first | assumption | exact IsW.kt (by assumption) | omega | (unfold in32; omega) | (unfold in64; omega) | trivial | rfl | exact Nat.le_of_ble_eq_true rfl) ?_
        try first | done | assumption | (unfold in32; omega) | (unfold in64; omega)
        have e64 : (64 : Int) + (k : Int) = 32 * 2 + k := by omega
        rw [e64]
        refine fin (k + 1) _ (by omega) (rf_u1 (rf_u0 f1 rfl (by omega) (by omega)) rfl) ?_ ?_ ?_ ?_ _ _ _
        · rw [w_up1]; rfl
        · intro j hj
          rw [rd_u1, rd_up]
          split
          · decide
          · exact hdg j (by omega)
        · rw [rd_u1, mg_s, rd_up, if_pos rfl, mg_cg (h := cw_rd Mk 2) k fun j hj => by rw [rd_up, if_neg (by omega)]]
          omega
        · intro _
          rw [rd_u1, rd_up, if_pos (by omega)]
          decide
    | succ d ih =>
      intro k Mk carry z hd hl hdg hc he
      have f1 := lf_f hl (by omega) (by omega)
      have hSk := hS.rf f1
      have e1 : Mk 321 2 = n := by rw [lf_c hl (by decide)]; exact a2
      have ex : cw_rd Mk 2 k = cw_rd M 2 k := lf_rd hl (by omega) (by omega) (by omega) (by omega) (Or.inr (Or.inr (by omega)))
      have dx := a3 k (by omega)
      generalize hx : cw_rd M 2 k = x at *
      have e2 : Mk 320 (64 + (k : Int)) = x := ex
      have t1 : x.tmod 536870912 = x % 536870912 := Int.tmod_eq_emod_of_nonneg (by omega)
      have t2 : x.tdiv 536870912 = x / 536870912 := Int.tdiv_eq_ediv_of_nonneg (by omega)
      refine k_Mo_doubles_4 _ _ _ _ _ _ _ _ ?_
      simp only [↓w_nil, ↓w_cons, ↓w_ild3, ↓w_ald0, ↓w_gf2_1, ↓w_ic, ↓w_iald, ↓w_icge, true_and, and_true, true_implies, false_implies, not_true_eq_false, not_false_eq_true, Int.reduceEq, Int.reduceLT, Int.reduceLE, Int.reduceNeg, m_k0, m_k1, m_k2, m_k3, m_k9, m_u01, m_u02, m_u03, m_u09, m_u10, m_u12, m_u13, m_u19, m_u20, m_u21, m_u23, m_u29, m_u30, m_u31, m_u32, m_u39, w_up1, hSk.d1, e1]
      repeat refine And.intro (by first | assumption | exact IsW.kt (by assumption) | omega | (unfold in32; omega) | (unfold in64; omega) | trivial | rfl | exact Nat.le_of_ble_eq_true rfl) ?_
      try first | done | assumption | (unfold in32; omega) | (unfold in64; omega)
      intro _
      refine k_Mo_doubles_14 _ _ _ _ _ _ _ _ ?_
      simp only [↓w_nil, ↓w_cons, ↓w_ald0, ↓w_gf2_0, ↓w_ic, ↓w_ild3, ↓w_iadd, ↓w_iald, ↓w_ist4, ↓w_ild4, ↓w_irem, ↓w_imul, ↓w_ild2, ↓w_iast, ↓w_idiv, ↓w_ist2, ↓w_inc3, ↓w_goto, true_and, and_true, true_implies, false_implies, not_true_eq_false, not_false_eq_true, Int.reduceEq, Int.reduceLT, Int.reduceLE, Int.reduceNeg, w_nlI, w_nlL, w_nlR, m_k0, m_k1, m_k2, m_k3, m_k9, m_u01, m_u02, m_u03, m_u09, m_u10, m_u12, m_u13, m_u19, m_u20, m_u21, m_u23, m_u29, m_u30, m_u31, m_u32, m_u39, w_up1, hSk.d0, e2, t1, t2]
      repeat refine And.intro (by first | assumption | exact IsW.kt (by assumption) | omega | (unfold in32; omega) | (unfold in64; omega) | trivial | rfl | exact Nat.le_of_ble_eq_true rfl) ?_
      try first | done | assumption | (unfold in32; omega) | (unfold in64; omega)
      have e64 : (64 : Int) + (k : Int) = 32 * 2 + k := by omega
      rw [e64]
      refine ih (k + 1) _ _ _ (by omega) (lf_u hl (by omega) (by omega) (by omega) (by omega)) ?_ (by omega) ?_
      · intro j hj
        rw [rd_up]
        split
        · omega
        · exact hdg j (by omega)
      · rw [mg_s, mg_s, rd_up, if_pos rfl, hx, bt_s]
        rw [mg_cg (h := cw_rd Mk 2) k fun j hj => by rw [rd_up, if_neg (by omega)]]
        generalize (1073741824 : Int) ^ k = p at *
        have e3 : (x % 536870912 * 2 + carry) * p + x / 536870912 * (p * 1073741824) = 2 * (x * p) + carry * p := by
          rw [show x / 536870912 * (p * 1073741824) = (x / 536870912 * 1073741824) * p by ac_rfl, ← Int.add_mul, ← Int.mul_assoc, ← Int.add_mul]
          congr 1
          omega
        omega
  refine cw_C_of (L := [.inr (.inr 319), .inl bit, cU, cU, cU]) ok_Mo_doubles (Nat.le_refl _) (Nat.le_of_ble_eq_true rfl) rfl ?_
  refine k_Mo_doubles_0 _ _ _ _ _ _ _ _ ?_
  simp only [↓w_nil, ↓w_cons, ↓w_ild1, ↓w_ist2, ↓w_ic, ↓w_ist3, ↓w_fall, true_and, and_true, true_implies, false_implies, not_true_eq_false, not_false_eq_true, Int.reduceEq, Int.reduceLT, Int.reduceLE, Int.reduceNeg, w_nlI, w_nlL, w_nlR]
  exact loop n 0 M bit cU (by omega) lf_rf (fun j hj => by omega) (by omega) (by rw [mg_0, Int.pow_zero]; omega)
