/-! times, timesLong -/
def cw_pf (M M1 : cw_M) : Prop := ∀ c, c ≠ 323 → M1 c = M c
theorem pf_rf {R : Int → Prop} {M M1 : cw_M} (h : cw_pf M M1) : cw_rf R M M1 :=
  ⟨fun a ha => h a (by omega), fun s hs hn => ⟨by rw [h _ (by decide)], by rw [h _ (by decide)], fun j a b => by unfold cw_rd; rw [h _ (by decide)]⟩⟩
theorem pf_u {M M1 : cw_M} {k d : Int} (h : cw_pf M M1) : cw_pf M (cw_up M1 323 k d) := fun c hc => by rw [cw_up_ne hc]; exact h c hc
theorem pf_rd {M M1 : cw_M} {r : Int} (h : cw_pf M M1) : cw_rd M1 r = cw_rd M r := by unfold cw_rd; rw [h _ (by decide)]
theorem d_mul {x y : Int} (hx : 0 ≤ x ∧ x < 1073741824) (hy : 0 ≤ y ∧ y < 1073741824) : 0 ≤ x * y ∧ x * y ≤ 1152921502459363329 :=
  ⟨Int.mul_nonneg hx.1 hy.1, Int.le_trans (Int.mul_le_mul (show x ≤ 1073741823 by omega) (show y ≤ 1073741823 by omega) hy.1 (by decide)) (by decide)⟩
theorem l_tim168 {g : cw_G} {M M1 : cw_M} {r a b va vb : Int} {n : Nat} {z5' : Int} {z6 z8 z9 : cw_V} (hS : Sh M) (hr : IR r) (ha : IR a) (hb : IR b) (hf : cw_pf M M1) (sa : M 322 a = cw_sg va) (sb : M 322 b = cw_sg vb) (hn : n ≤ 32) (hd : cw_dg (M1 323) n) (hm : cw_mg (M1 323) n = cw_ab va * cw_ab vb) :
    mJ g y_Mo_times 168 [.inr (.inr 319), .inl r, .inl a, .inl b, .inl n, .inl z5', z6, cU, z8, z9, cU] [] M1 (fun q M' => q = none ∧ RM M' r (va * vb) ∧ cw_rf (fun s => s = r) M M') := by
  obtain ⟨r0, r1⟩ := id hr
  obtain ⟨a0, a1⟩ := id ha
  obtain ⟨b0, b1⟩ := id hb
  have hS1 := hS.rf (pf_rf (R := fun s => s = r) hf)
  have s1 := sg_3 va
  have s2 := sg_3 vb
  have sa' : M1 322 a = cw_sg va := by rw [hf _ (by decide)]; exact sa
  have sb' : M1 322 b = cw_sg vb := by rw [hf _ (by decide)]; exact sb
  have loop : ∀ (d k : Nat) (Mk : cw_M), d + k = n → cw_lf r 0 k M1 Mk → (∀ j : Nat, j < k → cw_rd Mk r j = M1 323 j) →
      mJ g y_Mo_times 186 [.inr (.inr 319), .inl r, .inl a, .inl b, .inl n, .inl (cw_sg va * cw_sg vb), .inl k, cU, z8, z9, cU] [] Mk (fun q M' => q = none ∧ RM M' r (va * vb) ∧ cw_rf (fun s => s = r) M M') := by
    intro d
    induction d with
    | zero =>
      intro k Mk hd' hl hk
      have hkn : k = n := by omega
      subst hkn
      have hSk := hS1.rf (lf_f hl (by omega) (by omega))
      have f2 : cw_rf (fun s => s = r) M (cw_up (cw_up Mk 321 r k) 322 r (cw_sg va * cw_sg vb)) := rf_u2 (rf_u1 (rf_tr (pf_rf hf) (lf_f hl (by omega) (by omega))) rfl) rfl
      refine k_Mo_times_186 _ _ _ _ _ _ _ _ ?_
      simp only [↓w_nil, ↓w_cons, ↓w_ild6, ↓w_ild4, ↓w_icge, true_and, and_true, true_implies, false_implies, not_true_eq_false, not_false_eq_true, Int.reduceEq, Int.reduceLT, Int.reduceLE, Int.reduceNeg]
      repeat refine And.intro (by first | assumption | exact IsW.kt (by assumption) | omega | (unfold in32; omega) | (unfold in64; omega) | trivial | rfl | exact Nat.le_of_ble_eq_true rfl) ?_
      try first | done | assumption | (unfold in32; omega) | (unfold in64; omega)
      refine ⟨fun _ => ?_, fun h => absurd h (by omega)⟩
      refine k_Mo_times_219 _ _ _ _ _ _ _ _ ?_
      simp only [↓w_nil, ↓w_cons, ↓w_ald0, ↓w_gf2_1, ↓w_ild1, ↓w_ild4, ↓w_iast, ↓w_gf2_2, ↓w_ild5, ↓w_cv1, true_and, and_true, true_implies, false_implies, not_true_eq_false, not_false_eq_true, Int.reduceEq, Int.reduceLT, Int.reduceLE, Int.reduceNeg, w_c80, w_c8I, w_c8L, w_c8R, m_k0, m_k1, m_k2, m_k3, m_k9, m_u01, m_u02, m_u03, m_u09, m_u10, m_u12, m_u13, m_u19, m_u20, m_u21, m_u23, m_u29, m_u30, m_u31, m_u32, m_u39, w_up1, hSk.d1, hSk.d2]
      repeat refine And.intro (by first | assumption | exact IsW.kt (by assumption) | omega | (unfold in32; omega) | (unfold in64; omega) | trivial | rfl | exact Nat.le_of_ble_eq_true rfl) ?_
      try first | done | assumption | (unfold in32; omega) | (unfold in64; omega)
      refine ⟨_, p_Mo_trims (n := k) (v := va * vb) (hS.rf f2) hr (by omega) ?_ ?_ ?_ ?_, ?_⟩
      · rw [m_u21, w_up1]
      · rw [rd_u2, rd_u1]; intro j hj; rw [hk j hj]; exact hd j hj
      · rw [rd_u2, rd_u1, ab_mul, ← hm]; exact mg_cg k fun j hj => hk j hj
      · intro _; rw [w_up1, sg_mul]
      · rintro q M' ⟨rfl, h1, h2⟩
        refine k_Mo_times_240 _ _ _ _ _ _ _ _ ?_
        simp only [↓w_nil, ↓w_vret, true_and, and_true, true_implies, false_implies, not_true_eq_false, not_false_eq_true, Int.reduceEq, Int.reduceLT, Int.reduceLE, Int.reduceNeg, w_tl0]
        exact ⟨h1, rf_tr f2 h2⟩
    | succ d ih =>
      intro k Mk hd' hl hk
      have hSk := hS1.rf (lf_f hl (by omega) (by omega))
      have e3 : Mk 323 k = M1 323 k := by rw [lf_c hl (by decide)]
      refine k_Mo_times_186 _ _ _ _ _ _ _ _ ?_
      simp only [↓w_nil, ↓w_cons, ↓w_ild6, ↓w_ild4, ↓w_icge, true_and, and_true, true_implies, false_implies, not_true_eq_false, not_false_eq_true, Int.reduceEq, Int.reduceLT, Int.reduceLE, Int.reduceNeg]
      repeat refine And.intro (by first | assumption | exact IsW.kt (by assumption) | omega | (unfold in32; omega) | (unfold in64; omega) | trivial | rfl | exact Nat.le_of_ble_eq_true rfl) ?_
      try first | done | assumption | (unfold in32; omega) | (unfold in64; omega)
      intro _
      refine k_Mo_times_193 _ _ _ _ _ _ _ _ ?_
      simp only [↓w_nil, ↓w_cons, ↓w_ald0, ↓w_gf2_0, ↓w_ic, ↓w_ild1, ↓w_imul, ↓w_ild6, ↓w_iadd, ↓w_gf2_3, ↓w_lald, ↓w_l2i, ↓w_iast, ↓w_inc6, ↓w_goto, true_and, and_true, true_implies, false_implies, not_true_eq_false, not_false_eq_true, Int.reduceEq, Int.reduceLT, Int.reduceLE, Int.reduceNeg, w_nlI, w_nlL, w_nlR, m_k0, m_k1, m_k2, m_k3, m_k9, m_u01, m_u02, m_u03, m_u09, m_u10, m_u12, m_u13, m_u19, m_u20, m_u21, m_u23, m_u29, m_u30, m_u31, m_u32, m_u39, w_up1, hSk.d0, hSk.d3, e3]
      repeat refine And.intro (by first | assumption | exact IsW.kt (by assumption) | omega | (unfold in32; omega) | (unfold in64; omega) | trivial | rfl | exact Nat.le_of_ble_eq_true rfl) ?_
      try first | done | assumption | (unfold in32; omega) | (unfold in64; omega)
      refine ih (k + 1) _ (by omega) (lf_u hl (by omega) (by omega) (by omega) (by omega)) ?_
      intro j hj
      rw [rd_up]
      split
      · next h => rw [h]
      · exact hk j (by omega)
  refine k_Mo_times_168 _ _ _ _ _ _ _ _ ?_
  simp only [↓w_nil, ↓w_cons, ↓w_ald0, ↓w_gf2_2, ↓w_ild2, ↓w_iald, ↓w_ild3, ↓w_imul, ↓w_ist5, ↓w_ic, ↓w_ist6, ↓w_fall, true_and, and_true, true_implies, false_implies, not_true_eq_false, not_false_eq_true, Int.reduceEq, Int.reduceLT, Int.reduceLE, Int.reduceNeg, w_nlI, w_nlL, w_nlR, m_k0, m_k1, m_k2, m_k3, m_k9, m_u01, m_u02, m_u03, m_u09, m_u10, m_u12, m_u13, m_u19, m_u20, m_u21, m_u23, m_u29, m_u30, m_u31, m_u32, m_u39, w_up1, hS1.d2, sa', sb']
  repeat refine And.intro (by first | assumption | exact IsW.kt (by assumption) | omega | (unfold in32; omega) | (unfold in64; omega) | trivial | rfl | exact Nat.le_of_ble_eq_true rfl) ?_
  try first | done | assumption | (unfold in32; omega) | (unfold in64; omega)
  exact loop n 0 M1 (by omega) lf_rf (fun j hj => by omega)
theorem l_tim42 {g : cw_G} {M M0 : cw_M} {r a b va vb : Int} {na nb : Nat} (hS : Sh M) (hr : IR r) (ha : IR a) (hb : IR b) (a2 : M 321 a = na) (a3 : cw_dg (cw_rd M a) na) (a5 : cw_mg (cw_rd M a) na = cw_ab va) (a6 : M 322 a = cw_sg va) (b2 : M 321 b = nb) (b3 : cw_dg (cw_rd M b) nb) (b5 : cw_mg (cw_rd M b) nb = cw_ab vb) (b6 : M 322 b = cw_sg vb)
    (hn : na + nb ≤ 32) (h0 : cw_pf M M0) (hz : ∀ j : Nat, j ≤ na + nb → M0 323 j = 0) :
    mJ g y_Mo_times 42 [.inr (.inr 319), .inl r, .inl a, .inl b, .inl ((na + nb : Nat) : Int), .inl 0, cU, cU, cU, cU, cU] [] M0 (fun q M' => q = none ∧ RM M' r (va * vb) ∧ cw_rf (fun s => s = r) M M') := by
  obtain ⟨r0, r1⟩ := id hr
  obtain ⟨a0, a1⟩ := id ha
  obtain ⟨b0, b1⟩ := id hb
  have loop : ∀ (d i : Nat) (M1 : cw_M) (z6 z8 z9 : cw_V), d + i = na → cw_pf M M1 → (∀ j : Nat, j ≤ na + nb → 0 ≤ M1 323 j ∧ M1 323 j < 1073741824) → (∀ j : Nat, i + nb ≤ j → j ≤ na + nb → M1 323 j = 0) → cw_mg (M1 323) (i + nb) = cw_mg (cw_rd M a) i * cw_ab vb →
      mJ g y_Mo_times 42 [.inr (.inr 319), .inl r, .inl a, .inl b, .inl ((na + nb : Nat) : Int), .inl i, z6, cU, z8, z9, cU] [] M1 (fun q M' => q = none ∧ RM M' r (va * vb) ∧ cw_rf (fun s => s = r) M M') := by
    intro d
    induction d with
    | zero =>
      intro i M1 z6 z8 z9 hd hf hdg hzz hm
      have hi : i = na := by omega
      subst hi
      have hS1 := hS.rf (pf_rf (R := fun s => s = r) hf)
      have e2 : M1 321 a = i := by rw [hf _ (by decide)]; exact a2
      refine k_Mo_times_42 _ _ _ _ _ _ _ _ ?_
      simp only [↓w_nil, ↓w_cons, ↓w_ild5, ↓w_ald0, ↓w_gf2_1, ↓w_ild2, ↓w_iald, ↓w_icge, true_and, and_true, true_implies, false_implies, not_true_eq_false, not_false_eq_true, Int.reduceEq, Int.reduceLT, Int.reduceLE, Int.reduceNeg, m_k0, m_k1, m_k2, m_k3, m_k9, m_u01, m_u02, m_u03, m_u09, m_u10, m_u12, m_u13, m_u19, m_u20, m_u21, m_u23, m_u29, m_u30, m_u31, m_u32, m_u39, w_up1, hS1.d1, e2]
      repeat refine And.intro (by first | assumption | exact IsW.kt (by assumption) | omega | (unfold in32; omega) | (unfold in64; omega) | trivial | rfl | exact Nat.le_of_ble_eq_true rfl) ?_
      try first | done | assumption | (unfold in32; omega) | (unfold in64; omega)
      refine ⟨fun _ => ?_, fun h => absurd h (by omega)⟩
      exact l_tim168 hS hr ha hb hf a6 b6 hn (fun j hj => hdg j (by omega)) (by rw [hm, a5])
    | succ d ih =>
      intro i M1 z6 z8 z9 hd hf hdg hzz hm
      have hS1 := hS.rf (pf_rf (R := fun s => s = r) hf)
      have e2 : M1 321 a = na := by rw [hf _ (by decide)]; exact a2
      have rai := a3 i (by omega)
      have inner : ∀ (dk k : Nat) (M2 : cw_M) (c : Int) (z9 : cw_V), dk + k = nb → cw_pf M M2 → 0 ≤ c ∧ c < 1073741824 → (∀ j : Nat, j ≤ na + nb → 0 ≤ M2 323 j ∧ M2 323 j < 1073741824) → (∀ j : Nat, i + nb ≤ j → j ≤ na + nb → M2 323 j = 0) →
          cw_mg (M2 323) (i + nb) + c * 1073741824 ^ (i + k) = cw_mg (cw_rd M a) i * cw_ab vb + cw_rd M a i * (cw_mg (cw_rd M b) k * 1073741824 ^ i) →
          mJ g y_Mo_times 59 [.inr (.inr 319), .inl r, .inl a, .inl b, .inl ((na + nb : Nat) : Int), .inl i, .inr (.inl c), cU, .inl k, z9, cU] [] M2 (fun q M' => q = none ∧ RM M' r (va * vb) ∧ cw_rf (fun s => s = r) M M') := by
        intro dk
        induction dk with
        | zero =>
          intro k M2 c z9 hdk hf2 hc hdg2 hzz2 hm2
          have hk : k = nb := by omega
          subst hk
          have hS2 := hS.rf (pf_rf (R := fun s => s = r) hf2)
          have e3 : M2 321 b = k := by rw [hf2 _ (by decide)]; exact b2
          have e4 : M2 323 ((i : Int) + k) = 0 := hzz2 (i + k) (Nat.le_refl _) (by omega)
          refine k_Mo_times_59 _ _ _ _ _ _ _ _ ?_
          simp only [↓w_nil, ↓w_cons, ↓w_ild8, ↓w_ald0, ↓w_gf2_1, ↓w_ild3, ↓w_iald, ↓w_icge, true_and, and_true, true_implies, false_implies, not_true_eq_false, not_false_eq_true, Int.reduceEq, Int.reduceLT, Int.reduceLE, Int.reduceNeg, m_k0, m_k1, m_k2, m_k3, m_k9, m_u01, m_u02, m_u03, m_u09, m_u10, m_u12, m_u13, m_u19, m_u20, m_u21, m_u23, m_u29, m_u30, m_u31, m_u32, m_u39, w_up1, hS2.d1, e3]
          repeat refine And.intro (by first | assumption | exact IsW.kt (by assumption) | omega | (unfold in32; omega) | (unfold in64; omega) | trivial | rfl | exact Nat.le_of_ble_eq_true rfl) ?_
          try first | done | assumption | (unfold in32; omega) | (unfold in64; omega)
          refine ⟨fun _ => ?_, fun h => absurd h (by omega)⟩
          refine k_Mo_times_143 _ _ _ _ _ _ _ _ ?_
          simp only [↓w_nil, ↓w_cons, ↓w_ald0, ↓w_gf2_3, ↓w_ild5, ↓w_gf2_1, ↓w_ild3, ↓w_iald, ↓w_iadd, ↓w_dup2, ↓w_dup2L, ↓w_lald, ↓w_lld6, ↓w_ladd, ↓w_last, ↓w_inc5, ↓w_goto, true_and, and_true, true_implies, false_implies, not_true_eq_false, not_false_eq_true, Int.reduceEq, Int.reduceLT, Int.reduceLE, Int.reduceNeg, w_nlI, w_nlL, w_nlR, m_k0, m_k1, m_k2, m_k3, m_k9, m_u01, m_u02, m_u03, m_u09, m_u10, m_u12, m_u13, m_u19, m_u20, m_u21, m_u23, m_u29, m_u30, m_u31, m_u32, m_u39, w_up1, hS2.d1, hS2.d3, e3, e4]
          repeat refine And.intro (by first | assumption | exact IsW.kt (by assumption) | omega | (unfold in32; omega) | (unfold in64; omega) | trivial | rfl | exact Nat.le_of_ble_eq_true rfl) ?_
          try first | done | assumption | (unfold in32; omega) | (unfold in64; omega)
          have e5 : ((i + k : Nat) : Int) = (i : Int) + k := by omega
          refine ih (i + 1) _ _ _ _ (by omega) (pf_u hf2) ?_ ?_ ?_
          · intro j hj
            by_cases q : (j : Int) = (i : Int) + k
            · rw [q, w_up1]; omega
            · rw [w_up2 q]; exact hdg2 j hj
          · intro j h1 h2
            rw [w_up2 (by omega)]
            exact hzz2 j (by omega) h2
          · rw [show i + 1 + k = (i + k) + 1 by omega, mg_s, mg_s, e5, w_up1, ← b5]
            rw [mg_cg (h := M2 323) (i + k) fun j hj => w_up2 (by omega)]
            rw [b5] at *
            rw [Int.add_mul (cw_mg (cw_rd M a) i), show cw_rd M a i * 1073741824 ^ i * cw_ab vb = cw_rd M a i * (cw_ab vb * 1073741824 ^ i) by ac_rfl, ← hm2, Int.zero_add]
        | succ dk ihk =>
          intro k M2 c z9 hdk hf2 hc hdg2 hzz2 hm2
          have hS2 := hS.rf (pf_rf (R := fun s => s = r) hf2)
          have e3 : M2 321 b = nb := by rw [hf2 _ (by decide)]; exact b2
          have ra : M2 320 (32 * a + (i : Int)) = cw_rd M a i := by rw [← pf_rd hf2]; rfl
          have rb : M2 320 (32 * b + (k : Int)) = cw_rd M b k := by rw [← pf_rd hf2]; rfl
          have rbk := b3 k (by omega)
          have pp := d_mul rai rbk
          have rp := hdg2 (i + k) (by omega)
          have e5 : ((i + k : Nat) : Int) = (i : Int) + k := by omega
          rw [e5] at rp
          generalize hx : M2 323 ((i : Int) + k) = x at *
          generalize hai : cw_rd M a i = ai at *
          generalize hbk : cw_rd M b k = bk at *
          have t1 : (x + ai * bk + c).tmod 1073741824 = (x + ai * bk + c) % 1073741824 := Int.tmod_eq_emod_of_nonneg (by omega)
          have t2 : (x + ai * bk + c).tdiv 1073741824 = (x + ai * bk + c) / 1073741824 := Int.tdiv_eq_ediv_of_nonneg (by omega)
          refine k_Mo_times_59 _ _ _ _ _ _ _ _ ?_
          simp only [↓w_nil, ↓w_cons, ↓w_ild8, ↓w_ald0, ↓w_gf2_1, ↓w_ild3, ↓w_iald, ↓w_icge, true_and, and_true, true_implies, false_implies, not_true_eq_false, not_false_eq_true, Int.reduceEq, Int.reduceLT, Int.reduceLE, Int.reduceNeg, m_k0, m_k1, m_k2, m_k3, m_k9, m_u01, m_u02, m_u03, m_u09, m_u10, m_u12, m_u13, m_u19, m_u20, m_u21, m_u23, m_u29, m_u30, m_u31, m_u32, m_u39, w_up1, hS2.d1, e3]
          repeat refine And.intro (by first | assumption | exact IsW.kt (by assumption) | omega | (unfold in32; omega) | (unfold in64; omega) | trivial | rfl | exact Nat.le_of_ble_eq_true rfl) ?_
          try first | done | assumption | (unfold in32; omega) | (unfold in64; omega)
          intro _
          refine k_Mo_times_70 _ _ _ _ _ _ _ _ ?_
          simp only [↓w_nil, ↓w_cons, ↓w_ald0, ↓w_gf2_3, ↓w_ild5, ↓w_ild8, ↓w_iadd, ↓w_lald, ↓w_gf2_0, ↓w_ic, ↓w_ild2, ↓w_imul, ↓w_iald, ↓w_i2l, ↓w_ild3, ↓w_lmul, ↓w_ladd, ↓w_lld6, ↓w_lst9, ↓w_lld9, ↓w_lc, ↓w_lrem, ↓w_last, ↓w_ldiv, ↓w_lst6, ↓w_inc8, ↓w_goto, true_and, and_true, true_implies, false_implies, not_true_eq_false, not_false_eq_true, Int.reduceEq, Int.reduceLT, Int.reduceLE, Int.reduceNeg, w_nlI, w_nlL, w_nlR, m_k0, m_k1, m_k2, m_k3, m_k9, m_u01, m_u02, m_u03, m_u09, m_u10, m_u12, m_u13, m_u19, m_u20, m_u21, m_u23, m_u29, m_u30, m_u31, m_u32, m_u39, w_up1, hS2.d0, hS2.d3, ra, rb, hx, t1, t2]
          repeat refine And.intro (by first | assumption | exact IsW.kt (by assumption) | omega | (unfold in32; omega) | (unfold in64; omega) | trivial | rfl | exact Nat.le_of_ble_eq_true rfl) ?_
          try first | done | assumption | (unfold in32; omega) | (unfold in64; omega)
          refine ihk (k + 1) _ _ _ (by omega) (pf_u hf2) (by omega) ?_ ?_ ?_
          · intro j hj
            by_cases q : (j : Int) = (i : Int) + k
            · rw [q, w_up1]; omega
            · rw [w_up2 q]; exact hdg2 j hj
          · intro j h1 h2
            rw [w_up2 (by omega)]
            exact hzz2 j h1 h2
          · rw [mg_upd (f := M2 323) (k := i + k) (v := (x + ai * bk + c) % 1073741824) (fun j => by rw [e5]; by_cases q : j = (i : Int) + k
                                                                                                     · rw [if_pos q, q, w_up1]
                                                                                                     · rw [if_neg q, w_up2 q]) (i + nb) (by omega), e5, hx, mg_s, hbk, ← Nat.add_assoc, bt_s, Int.add_mul, Int.mul_add, ← Int.add_assoc, ← hm2]
            have e6 : ai * (bk * 1073741824 ^ k * 1073741824 ^ i) = ai * bk * 1073741824 ^ (i + k) := by
              rw [Int.pow_add]; ac_rfl
            rw [e6]
            generalize (1073741824 : Int) ^ (i + k) = p at *
            have e1 : (x + ai * bk + c) * p = ((x + ai * bk + c) % 1073741824) * p + (x + ai * bk + c) / 1073741824 * (p * 1073741824) := by
              rw [show (x + ai * bk + c) / 1073741824 * (p * 1073741824) = ((x + ai * bk + c) / 1073741824 * 1073741824) * p by ac_rfl, ← Int.add_mul]
              congr 1
              omega
            rw [Int.add_mul, Int.add_mul] at e1
            rw [Int.sub_mul]
            omega
      refine k_Mo_times_42 _ _ _ _ _ _ _ _ ?_
      simp only [↓w_nil, ↓w_cons, ↓w_ild5, ↓w_ald0, ↓w_gf2_1, ↓w_ild2, ↓w_iald, ↓w_icge, true_and, and_true, true_implies, false_implies, not_true_eq_false, not_false_eq_true, Int.reduceEq, Int.reduceLT, Int.reduceLE, Int.reduceNeg, m_k0, m_k1, m_k2, m_k3, m_k9, m_u01, m_u02, m_u03, m_u09, m_u10, m_u12, m_u13, m_u19, m_u20, m_u21, m_u23, m_u29, m_u30, m_u31, m_u32, m_u39, w_up1, hS1.d1, e2]
      repeat refine And.intro (by first | assumption | exact IsW.kt (by assumption) | omega | (unfold in32; omega) | (unfold in64; omega) | trivial | rfl | exact Nat.le_of_ble_eq_true rfl) ?_
      try first | done | assumption | (unfold in32; omega) | (unfold in64; omega)
      intro _
      refine k_Mo_times_53 _ _ _ _ _ _ _ _ ?_
      simp only [↓w_nil, ↓w_cons, ↓w_lc, ↓w_lst6, ↓w_ic, ↓w_ist8, ↓w_fall, true_and, and_true, true_implies, false_implies, not_true_eq_false, not_false_eq_true, Int.reduceEq, Int.reduceLT, Int.reduceLE, Int.reduceNeg, w_nlI, w_nlL, w_nlR]
      exact inner nb 0 M1 0 _ (by omega) hf (by omega) hdg hzz (by rw [hm, mg_0]; omega)
  exact loop na 0 M0 cU cU cU (by omega) h0 (fun j hj => by rw [hz j hj]; decide) (fun j _ h2 => hz j h2) (by
    rw [mg_0, mg_z (k := 0) (0 + nb) (by omega) (fun j _ h => hz j (by omega)), mg_0]; omega)
theorem p_Mo_times {g : cw_G} {M : cw_M} {r a b va vb : Int} {ia ib : Nat} (hS : Sh M) (hr : IR r) (ha : IR a) (hb : IR b) (hva : RM M a va) (hvb : RM M b vb) (hba : cw_ab va < 1073741824 ^ ia) (hbb : cw_ab vb < 1073741824 ^ ib) (hi : ia + ib ≤ 32) :
    mC g y_Mo_times [.inr (.inr 319), .inl r, .inl a, .inl b] M (fun q M' => q = none ∧ RM M' r (va * vb) ∧ cw_rf (fun s => s = r) M M') := by
  obtain ⟨r0, r1⟩ := id hr
  obtain ⟨a0, a1⟩ := id ha
  obtain ⟨b0, b1⟩ := id hb
  obtain ⟨n, c1, c2, c3, c4, c5, c6⟩ := id hva
  obtain ⟨m, d1, d2, d3, d4, d5, d6⟩ := id hvb
  have hn := gn_nle c3 c4 c5 hba
  have hm := gn_nle d3 d4 d5 hbb
  have loop : ∀ (d k : Nat) (M1 : cw_M), d + k = n + m + 1 → cw_pf M M1 → (∀ j : Nat, j < k → M1 323 j = 0) →
      mJ g y_Mo_times 18 [.inr (.inr 319), .inl r, .inl a, .inl b, .inl ((n + m : Nat) : Int), .inl k, cU, cU, cU, cU, cU] [] M1 (fun q M' => q = none ∧ RM M' r (va * vb) ∧ cw_rf (fun s => s = r) M M') := by
    intro d
    induction d with
    | zero =>
      intro k M1 hd hf hz
      refine k_Mo_times_18 _ _ _ _ _ _ _ _ ?_
      simp only [↓w_nil, ↓w_cons, ↓w_ild5, ↓w_ild4, ↓w_icgt, true_and, and_true, true_implies, false_implies, not_true_eq_false, not_false_eq_true, Int.reduceEq, Int.reduceLT, Int.reduceLE, Int.reduceNeg]
      repeat refine And.intro (by first | assumption | exact IsW.kt (by assumption) | omega | (unfold in32; omega) | (unfold in64; omega) | trivial | rfl | exact Nat.le_of_ble_eq_true rfl) ?_
      try first | done | assumption | (unfold in32; omega) | (unfold in64; omega)
      refine ⟨fun _ => ?_, fun h => absurd h (by omega)⟩
      refine k_Mo_times_39 _ _ _ _ _ _ _ _ ?_
      simp only [↓w_nil, ↓w_cons, ↓w_ic, ↓w_ist5, ↓w_fall, true_and, and_true, true_implies, false_implies, not_true_eq_false, not_false_eq_true, Int.reduceEq, Int.reduceLT, Int.reduceLE, Int.reduceNeg, w_nlI, w_nlL, w_nlR]
      exact l_tim42 hS hr ha hb c2 c3 c5 c6 d2 d3 d5 d6 (by omega) hf (fun j hj => hz j (by omega))
    | succ d ih =>
      intro k M1 hd hf hz
      have hS1 := hS.rf (pf_rf (R := fun s => s = r) hf)
      refine k_Mo_times_18 _ _ _ _ _ _ _ _ ?_
      simp only [↓w_nil, ↓w_cons, ↓w_ild5, ↓w_ild4, ↓w_icgt, true_and, and_true, true_implies, false_implies, not_true_eq_false, not_false_eq_true, Int.reduceEq, Int.reduceLT, Int.reduceLE, Int.reduceNeg]
      repeat refine And.intro (by first | assumption | exact IsW.kt (by assumption) | omega | (unfold in32; omega) | (unfold in64; omega) | trivial | rfl | exact Nat.le_of_ble_eq_true rfl) ?_
      try first | done | assumption | (unfold in32; omega) | (unfold in64; omega)
      intro _
      refine k_Mo_times_25 _ _ _ _ _ _ _ _ ?_
      simp only [↓w_nil, ↓w_cons, ↓w_ald0, ↓w_gf2_3, ↓w_ild5, ↓w_lc, ↓w_last, ↓w_inc5, ↓w_goto, true_and, and_true, true_implies, false_implies, not_true_eq_false, not_false_eq_true, Int.reduceEq, Int.reduceLT, Int.reduceLE, Int.reduceNeg, w_nlI, w_nlL, w_nlR, m_k0, m_k1, m_k2, m_k3, m_k9, m_u01, m_u02, m_u03, m_u09, m_u10, m_u12, m_u13, m_u19, m_u20, m_u21, m_u23, m_u29, m_u30, m_u31, m_u32, m_u39, w_up1, hS1.d3]
      repeat refine And.intro (by first | assumption | exact IsW.kt (by assumption) | omega | (unfold in32; omega) | (unfold in64; omega) | trivial | rfl | exact Nat.le_of_ble_eq_true rfl) ?_
      try first | done | assumption | (unfold in32; omega) | (unfold in64; omega)
      refine ih (k + 1) _ (by omega) (pf_u hf) ?_
      intro j hj
      by_cases q : (j : Int) = k
      · rw [q, w_up1]
      · rw [w_up2 q]; exact hz j (by omega)
  refine cw_C_of (L := [.inr (.inr 319), .inl r, .inl a, .inl b, cU, cU, cU, cU, cU, cU, cU]) ok_Mo_times (Nat.le_refl _) (Nat.le_of_ble_eq_true rfl) rfl ?_
  refine k_Mo_times_0 _ _ _ _ _ _ _ _ ?_
  simp only [↓w_nil, ↓w_cons, ↓w_ald0, ↓w_gf2_1, ↓w_ild2, ↓w_iald, ↓w_ild3, ↓w_iadd, ↓w_ist4, ↓w_ic, ↓w_ist5, ↓w_fall, true_and, and_true, true_implies, false_implies, not_true_eq_false, not_false_eq_true, Int.reduceEq, Int.reduceLT, Int.reduceLE, Int.reduceNeg, w_nlI, w_nlL, w_nlR, m_k0, m_k1, m_k2, m_k3, m_k9, m_u01, m_u02, m_u03, m_u09, m_u10, m_u12, m_u13, m_u19, m_u20, m_u21, m_u23, m_u29, m_u30, m_u31, m_u32, m_u39, w_up1, hS.d1, c2, d2]
  repeat refine And.intro (by first | assumption | exact IsW.kt (by assumption) | omega | (unfold in32; omega) | (unfold in64; omega) | trivial | rfl | exact Nat.le_of_ble_eq_true rfl) ?_
  try first | done | assumption | (unfold in32; omega) | (unfold in64; omega)
  exact loop (n + m + 1) 0 M rfl (fun _ _ => rfl) (fun j hj => by omega)
theorem p_Mo_timesLong {g : cw_G} {M : cw_M} {r a v va : Int} {ia : Nat} (hS : Sh M) (hr : IR r) (ha : IR a) (ha14 : a ≠ 14) (hva : RM M a va) (hba : cw_ab va < 1073741824 ^ ia) (hi : ia ≤ 29) (hv : -9223372036854775807 ≤ v ∧ v ≤ 9223372036854775807) :
    mC g y_Mo_timesLong [.inr (.inr 319), .inl r, .inl a, .inr (.inl v)] M (fun q M' => q = none ∧ RM M' r (va * v) ∧ cw_rf (fun s => s = r ∨ s = 14) M M') := by
  obtain ⟨r0, r1⟩ := id hr
  obtain ⟨a0, a1⟩ := id ha
  have h14 : IR 14 := by unfold IR; omega
  have e3 : (1073741824 : Int) ^ 3 = 1237940039285380274899124224 := by decide
  have a3 := ab_3 v
  refine cw_C_of (L := [.inr (.inr 319), .inl r, .inl a, .inr (.inl v), cU]) ok_Mo_timesLong (Nat.le_refl _) (Nat.le_of_ble_eq_true rfl) rfl ?_
  refine k_Mo_timesLong_0 _ _ _ _ _ _ _ _ ?_
  simp only [↓w_nil, ↓w_cons, ↓w_ald0, ↓w_ic, ↓w_lld3, ↓w_cv2, true_and, and_true, true_implies, false_implies, not_true_eq_false, not_false_eq_true, Int.reduceEq, Int.reduceLT, Int.reduceLE, Int.reduceNeg, w_c80, w_c8I, w_c8L, w_c8R, m_k0, m_k1, m_k2, m_k3, m_k9, m_u01, m_u02, m_u03, m_u09, m_u10, m_u12, m_u13, m_u19, m_u20, m_u21, m_u23, m_u29, m_u30, m_u31, m_u32, m_u39, w_up1]
  repeat refine And.intro (by first | assumption | exact IsW.kt (by assumption) | omega | (unfold in32; omega) | (unfold in64; omega) | trivial | rfl | exact Nat.le_of_ble_eq_true rfl) ?_
  try first | done | assumption | (unfold in32; omega) | (unfold in64; omega)
  refine ⟨_, p_Mo_sets hS h14 hv, ?_⟩
  rintro q M1 ⟨rfl, h1, f1⟩
  refine k_Mo_timesLong_7 _ _ _ _ _ _ _ _ ?_
  simp only [↓w_nil, ↓w_cons, ↓w_ald0, ↓w_ild1, ↓w_ild2, ↓w_ic, ↓w_cv3, true_and, and_true, true_implies, false_implies, not_true_eq_false, not_false_eq_true, Int.reduceEq, Int.reduceLT, Int.reduceLE, Int.reduceNeg, w_c80, w_c8I, w_c8L, w_c8R, w_tl0, m_k0, m_k1, m_k2, m_k3, m_k9, m_u01, m_u02, m_u03, m_u09, m_u10, m_u12, m_u13, m_u19, m_u20, m_u21, m_u23, m_u29, m_u30, m_u31, m_u32, m_u39, w_up1]
  repeat refine And.intro (by first | assumption | exact IsW.kt (by assumption) | omega | (unfold in32; omega) | (unfold in64; omega) | trivial | rfl | exact Nat.le_of_ble_eq_true rfl) ?_
  try first | done | assumption | (unfold in32; omega) | (unfold in64; omega)
  refine ⟨_, p_Mo_times (ib := 3) (hS.rf f1) hr ha h14 (hva.rf f1 ha ha14) h1 hba (by rw [e3]; omega) (by omega), ?_⟩
  rintro q M2 ⟨rfl, h2, f2⟩
  refine k_Mo_timesLong_15 _ _ _ _ _ _ _ _ ?_
  simp only [↓w_nil, ↓w_vret, true_and, and_true, true_implies, false_implies, not_true_eq_false, not_false_eq_true, Int.reduceEq, Int.reduceLT, Int.reduceLE, Int.reduceNeg, w_tl0]
  exact ⟨h2, rf_tr (rf_mo f1 fun s h => Or.inr h) (rf_mo f2 fun s h => Or.inl h)⟩
