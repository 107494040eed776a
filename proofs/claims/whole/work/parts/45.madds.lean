/-! adds -/
def cw_lf (r lo hi : Int) (M M1 : cw_M) : Prop := ∀ c j, (c ≠ 320 ∨ ∀ i, lo ≤ i → i < hi → j ≠ 32 * r + i) → M1 c j = M c j
theorem lf_rf {r lo hi : Int} {M : cw_M} : cw_lf r lo hi M M := fun _ _ _ => rfl
theorem lf_u {r lo hi k d : Int} {M M1 : cw_M} (h : cw_lf r lo hi M M1) {lo' hi' : Int} (h1 : lo' ≤ lo) (h2 : hi ≤ hi') (h3 : lo' ≤ k) (h4 : k < hi') : cw_lf r lo' hi' M (cw_up M1 320 (32 * r + k) d) := by
  intro c j hj
  rcases hj with hc | hj
  · rw [w_up3 hc]; exact h c j (Or.inl hc)
  · by_cases q : c = 320
    · subst q
      rw [w_up2 (hj k h3 h4)]
      exact h _ j (Or.inr fun i a b => hj i (by omega) (by omega))
    · rw [w_up3 q]; exact h c j (Or.inl q)
theorem lf_c {r lo hi c : Int} {M M1 : cw_M} (h : cw_lf r lo hi M M1) (hc : c ≠ 320) : M1 c = M c := funext fun j => h c j (Or.inl hc)
theorem lf_rd {r lo hi s j : Int} {M M1 : cw_M} (h : cw_lf r lo hi M M1) (h0 : 0 ≤ lo) (h1 : hi ≤ 32) (h2 : 0 ≤ j) (h3 : j < 32) (h4 : s ≠ r ∨ j < lo ∨ hi ≤ j) : cw_rd M1 s j = cw_rd M s j :=
  h 320 _ (Or.inr fun i a b => by omega)
theorem lf_f {r lo hi : Int} {M M1 : cw_M} (h : cw_lf r lo hi M M1) (h0 : 0 ≤ lo) (h1 : hi ≤ 32) : cw_rf (fun s => s = r) M M1 :=
  ⟨fun a ha => lf_c h (by omega), fun s hs hn => ⟨by rw [lf_c h (by decide)], by rw [lf_c h (by decide)], fun j a b => lf_rd h h0 h1 a b (Or.inl hn)⟩⟩
theorem l_add96 {g : cw_G} {M : cw_M} {r a b v A B sg other : Int} {na nb n : Nat} (hS : Sh M) (hr : IR r) (ha : IR a) (hb : IR b) (a2 : M 321 a = na) (a3 : cw_dg (cw_rd M a) na) (a5 : cw_mg (cw_rd M a) na = A) (b2 : M 321 b = nb) (b3 : cw_dg (cw_rd M b) nb) (b5 : cw_mg (cw_rd M b) nb = B)
    (hna : na ≤ n) (hnb : nb ≤ n) (hn : n ≤ 31) (ht : A + B = cw_ab v) (hs : v ≠ 0 → other = cw_sg v) :
    mJ g y_Mo_adds 96 [.inr (.inr 319), .inl r, .inl a, .inl b, .inl sg, .inl other, .inl n, .inl 0, .inl 0, cU, cU, cU, cU, cU] [] M (fun q M' => q = none ∧ RM M' r v ∧ cw_rf (fun s => s = r) M M') := by
  obtain ⟨r0, r1⟩ := id hr
  obtain ⟨a0, a1⟩ := id ha
  obtain ⟨b0, b1⟩ := id hb
  have loop : ∀ (d k : Nat) (Mk : cw_M) (carry : Int) (z : cw_V), d + k = n + 1 → cw_lf r 0 k M Mk → cw_dg (cw_rd Mk r) k → 0 ≤ carry ∧ carry ≤ 1 →
      cw_mg (cw_rd Mk r) k + carry * 1073741824 ^ k = cw_mg (cw_zx (cw_rd M a) na) k + cw_mg (cw_zx (cw_rd M b) nb) k →
      mJ g y_Mo_adds 96 [.inr (.inr 319), .inl r, .inl a, .inl b, .inl sg, .inl other, .inl n, .inl carry, .inl k, z, cU, cU, cU, cU] [] Mk (fun q M' => q = none ∧ RM M' r v ∧ cw_rf (fun s => s = r) M M') := by
    intro d
    induction d with
    | zero =>
      intro k Mk carry z hd hl hdg hc he
      have hk : k = n + 1 := by omega
      subst hk
      have hSk := hS.rf (lf_f hl (by omega) (by omega))
      refine k_Mo_adds_96 _ _ _ _ _ _ _ _ ?_
      simp only [↓w_nil, ↓w_cons, ↓w_ild8, ↓w_ild6, ↓w_icgt, true_and, and_true, true_implies, false_implies, not_true_eq_false, not_false_eq_true, Int.reduceEq, Int.reduceLT, Int.reduceLE, Int.reduceNeg]
      repeat refine And.intro (by first | assumption | exact IsW.kt (by assumption) | omega | (unfold in32; omega) | (unfold in64; omega) | trivial | rfl | exact Nat.le_of_ble_eq_true rfl) ?_
      try first | done | assumption | (unfold in32; omega) | (unfold in64; omega)
      refine ⟨fun _ => ?_, fun h => absurd h (by omega)⟩
      rw [zx_mg (show na ≤ n + 1 by omega), zx_mg (show nb ≤ n + 1 by omega), a5, b5, ht] at he
      have l1 := mg_lt (n + 1) hdg
      have l2 := gn_lt a3 a5
      have l3 := gn_lt b3 b5
      have l4 := bt_mono hna
      have l5 := bt_mono hnb
      have l6 := bt_s n
      have l7 := bt_pos n
      have c0 : carry = 0 := by
        rcases (show carry = 0 ∨ carry = 1 by omega) with h | h
        · exact h
        · subst h; omega
      subst c0
      have f2 : cw_rf (fun s => s = r) M (cw_up (cw_up Mk 322 r other) 321 r ((n : Int) + 1)) := rf_u1 (rf_u2 (lf_f hl (by omega) (by omega)) rfl) rfl
      refine k_Mo_adds_160 _ _ _ _ _ _ _ _ ?_
      simp only [↓w_nil, ↓w_cons, ↓w_ald0, ↓w_gf2_2, ↓w_ild1, ↓w_ild5, ↓w_iast, ↓w_gf2_1, ↓w_ild6, ↓w_ic, ↓w_iadd, ↓w_cv1, true_and, and_true, true_implies, false_implies, not_true_eq_false, not_false_eq_true, Int.reduceEq, Int.reduceLT, Int.reduceLE, Int.reduceNeg, w_c80, w_c8I, w_c8L, w_c8R, m_k0, m_k1, m_k2, m_k3, m_k9, m_u01, m_u02, m_u03, m_u09, m_u10, m_u12, m_u13, m_u19, m_u20, m_u21, m_u23, m_u29, m_u30, m_u31, m_u32, m_u39, w_up1, hSk.d1, hSk.d2]
      repeat refine And.intro (by first | assumption | exact IsW.kt (by assumption) | omega | (unfold in32; omega) | (unfold in64; omega) | trivial | rfl | exact Nat.le_of_ble_eq_true rfl) ?_
      try first | done | assumption | (unfold in32; omega) | (unfold in64; omega)
      refine ⟨_, p_Mo_trims (n := n + 1) (v := v) (hS.rf f2) hr (by omega) ?_ ?_ ?_ ?_, ?_⟩
      · rw [w_up1]; rfl
      · rw [rd_u1, rd_u2]; exact hdg
      · rw [rd_u1, rd_u2]; omega
      · intro h; rw [m_u12, w_up1]; exact hs h
      · rintro q M' ⟨rfl, h1, h2⟩
        refine k_Mo_adds_183 _ _ _ _ _ _ _ _ ?_
        simp only [↓w_nil, ↓w_vret, true_and, and_true, true_implies, false_implies, not_true_eq_false, not_false_eq_true, Int.reduceEq, Int.reduceLT, Int.reduceLE, Int.reduceNeg, w_tl0]
        exact ⟨h1, rf_tr f2 h2⟩
    | succ d ih =>
      intro k Mk carry z hd hl hdg hc he
      have hSk := hS.rf (lf_f hl (by omega) (by omega))
      have za : (if (k : Int) < na then cw_rd Mk a k else 0) = cw_zx (cw_rd M a) na k := by rw [lf_rd hl (by omega) (by omega) (by omega) (by omega) (Or.inr (Or.inr (by omega)))]; rfl
      have zb : (if (k : Int) < nb then cw_rd Mk b k else 0) = cw_zx (cw_rd M b) nb k := by rw [lf_rd hl (by omega) (by omega) (by omega) (by omega) (Or.inr (Or.inr (by omega)))]; rfl
      have ra := zx_rg a3 k
      have rb := zx_rg b3 k
      refine k_Mo_adds_96 _ _ _ _ _ _ _ _ ?_
      simp only [↓w_nil, ↓w_cons, ↓w_ild8, ↓w_ild6, ↓w_icgt, true_and, and_true, true_implies, false_implies, not_true_eq_false, not_false_eq_true, Int.reduceEq, Int.reduceLT, Int.reduceLE, Int.reduceNeg]
      repeat refine And.intro (by first | assumption | exact IsW.kt (by assumption) | omega | (unfold in32; omega) | (unfold in64; omega) | trivial | rfl | exact Nat.le_of_ble_eq_true rfl) ?_
      try first | done | assumption | (unfold in32; omega) | (unfold in64; omega)
      intro _
      refine k_Mo_adds_103 _ _ _ _ _ _ _ _ ?_
      simp only [↓w_nil, ↓w_cons, ↓w_ald0, ↓w_ild2, ↓w_ild8, ↓w_cv2, true_and, and_true, true_implies, false_implies, not_true_eq_false, not_false_eq_true, Int.reduceEq, Int.reduceLT, Int.reduceLE, Int.reduceNeg, w_c80, w_c8I, w_c8L, w_c8R, m_k0, m_k1, m_k2, m_k3, m_k9, m_u01, m_u02, m_u03, m_u09, m_u10, m_u12, m_u13, m_u19, m_u20, m_u21, m_u23, m_u29, m_u30, m_u31, m_u32, m_u39, w_up1]
      repeat refine And.intro (by first | assumption | exact IsW.kt (by assumption) | omega | (unfold in32; omega) | (unfold in64; omega) | trivial | rfl | exact Nat.le_of_ble_eq_true rfl) ?_
      try first | done | assumption | (unfold in32; omega) | (unfold in64; omega)
      refine ⟨_, p_Mo_digit (n := na) (k := k) hSk ha (by rw [lf_c hl (by decide)]; exact a2) (by omega) (by omega) (by omega), ?_⟩
      rintro q M1 ⟨rfl, rfl⟩
      refine k_Mo_adds_110 _ _ _ _ _ _ _ _ ?_
      simp only [↓w_nil, ↓w_cons, ↓w_i2l, ↓w_ald0, ↓w_ild3, ↓w_ild8, ↓w_cv2, true_and, and_true, true_implies, false_implies, not_true_eq_false, not_false_eq_true, Int.reduceEq, Int.reduceLT, Int.reduceLE, Int.reduceNeg, w_c80, w_c8I, w_c8L, w_c8R, m_k0, m_k1, m_k2, m_k3, m_k9, m_u01, m_u02, m_u03, m_u09, m_u10, m_u12, m_u13, m_u19, m_u20, m_u21, m_u23, m_u29, m_u30, m_u31, m_u32, m_u39, w_up1, w_tl1]
      repeat refine And.intro (by first | assumption | exact IsW.kt (by assumption) | omega | (unfold in32; omega) | (unfold in64; omega) | trivial | rfl | exact Nat.le_of_ble_eq_true rfl) ?_
      try first | done | assumption | (unfold in32; omega) | (unfold in64; omega)
      refine ⟨_, p_Mo_digit (n := nb) (k := k) hSk hb (by rw [lf_c hl (by decide)]; exact b2) (by omega) (by omega) (by omega), ?_⟩
      rintro q M2 ⟨rfl, rfl⟩
      rw [za, zb]
      generalize hxa : cw_zx (cw_rd M a) na k = xa at *
      generalize hxb : cw_zx (cw_rd M b) nb k = xb at *
      have t1 : (xa + xb + carry).tmod 1073741824 = (xa + xb + carry) % 1073741824 := Int.tmod_eq_emod_of_nonneg (by omega)
      have t2 : (xa + xb + carry).tdiv 1073741824 = (xa + xb + carry) / 1073741824 := Int.tdiv_eq_ediv_of_nonneg (by omega)
      refine k_Mo_adds_118 _ _ _ _ _ _ _ _ ?_
      simp only [↓w_nil, ↓w_cons, ↓w_i2l, ↓w_ladd, ↓w_ild7, ↓w_lst9, ↓w_ald0, ↓w_gf2_0, ↓w_ic, ↓w_ild1, ↓w_imul, ↓w_ild8, ↓w_iadd, ↓w_lld9, ↓w_lc, ↓w_lrem, ↓w_l2i, ↓w_iast, ↓w_ldiv, ↓w_ist7, ↓w_inc8, ↓w_goto, true_and, and_true, true_implies, false_implies, not_true_eq_false, not_false_eq_true, Int.reduceEq, Int.reduceLT, Int.reduceLE, Int.reduceNeg, w_nlI, w_nlL, w_nlR, m_k0, m_k1, m_k2, m_k3, m_k9, m_u01, m_u02, m_u03, m_u09, m_u10, m_u12, m_u13, m_u19, m_u20, m_u21, m_u23, m_u29, m_u30, m_u31, m_u32, m_u39, w_up1, w_tl1, hSk.d0, t1, t2]
      repeat refine And.intro (by first | assumption | exact IsW.kt (by assumption) | omega | (unfold in32; omega) | (unfold in64; omega) | trivial | rfl | exact Nat.le_of_ble_eq_true rfl) ?_
      try first | done | assumption | (unfold in32; omega) | (unfold in64; omega)
      refine ih (k + 1) _ _ _ (by omega) (lf_u hl (by omega) (by omega) (by omega) (by omega)) ?_ (by omega) ?_
      · intro j hj
        rw [rd_up]
        split
        · omega
        · exact hdg j (by omega)
      · rw [mg_s, mg_s, mg_s, rd_up, if_pos rfl, hxa, hxb, bt_s]
        rw [mg_cg (h := cw_rd M2 r) k fun j hj => by rw [rd_up, if_neg (by omega)]]
        have hp := bt_pos k
        generalize (1073741824 : Int) ^ k = p at *
        have e1 : (xa + xb + carry) * p = ((xa + xb + carry) % 1073741824) * p + (xa + xb + carry) / 1073741824 * (p * 1073741824) := by
          rw [show (xa + xb + carry) / 1073741824 * (p * 1073741824) = ((xa + xb + carry) / 1073741824 * 1073741824) * p by ac_rfl, ← Int.add_mul]
          congr 1
          omega
        rw [Int.add_mul, Int.add_mul] at e1
        omega
  exact loop (n + 1) 0 M 0 cU rfl lf_rf (fun j hj => by omega) (by omega) (by simp [mg_0])
theorem l_add248 {g : cw_G} {M : cw_M} {r a b h l vh vl v sg other less to : Int} {nh nl : Nat} (hS : Sh M) (hr : IR r) (ha : IR h) (hb : IR l) (a2 : M 321 h = nh) (a3 : cw_dg (cw_rd M h) nh) (a5 : cw_mg (cw_rd M h) nh = vh) (b2 : M 321 l = nl) (b3 : cw_dg (cw_rd M l) nl) (b5 : cw_mg (cw_rd M l) nl = vl)
    (hnb : nl ≤ nh) (hn : nh ≤ 32) (hle : vl ≤ vh) (ht : vh - vl = cw_ab v) (hs : v ≠ 0 → to = cw_sg v) :
    mJ g y_Mo_adds 248 [.inr (.inr 319), .inl r, .inl a, .inl b, .inl sg, .inl other, .inl nh, .inl less, .inl h, .inl l, .inl to, .inl 0, .inl 0, cU] [] M (fun q M' => q = none ∧ RM M' r v ∧ cw_rf (fun s => s = r) M M') := by
  obtain ⟨r0, r1⟩ := id hr
  obtain ⟨a0, a1⟩ := id ha
  obtain ⟨b0, b1⟩ := id hb
  have loop : ∀ (d k : Nat) (Mk : cw_M) (carry : Int) (z : cw_V), d + k = nh → cw_lf r 0 k M Mk → cw_dg (cw_rd Mk r) k → 0 ≤ carry ∧ carry ≤ 1 →
      cw_mg (cw_rd Mk r) k + cw_mg (cw_zx (cw_rd M l) nl) k = cw_mg (cw_zx (cw_rd M h) nh) k + carry * 1073741824 ^ k →
      mJ g y_Mo_adds 248 [.inr (.inr 319), .inl r, .inl a, .inl b, .inl sg, .inl other, .inl nh, .inl less, .inl h, .inl l, .inl to, .inl carry, .inl k, z] [] Mk (fun q M' => q = none ∧ RM M' r v ∧ cw_rf (fun s => s = r) M M') := by
    intro d
    induction d with
    | zero =>
      intro k Mk carry z hd hl hdg hc he
      have hk : k = nh := by omega
      subst hk
      have hSk := hS.rf (lf_f hl (by omega) (by omega))
      refine k_Mo_adds_248 _ _ _ _ _ _ _ _ ?_
      simp only [↓w_nil, ↓w_cons, ↓w_ild12, ↓w_ild6, ↓w_icge, true_and, and_true, true_implies, false_implies, not_true_eq_false, not_false_eq_true, Int.reduceEq, Int.reduceLT, Int.reduceLE, Int.reduceNeg]
      repeat refine And.intro (by first | assumption | exact IsW.kt (by assumption) | omega | (unfold in32; omega) | (unfold in64; omega) | trivial | rfl | exact Nat.le_of_ble_eq_true rfl) ?_
      try first | done | assumption | (unfold in32; omega) | (unfold in64; omega)
      refine ⟨fun _ => ?_, fun h => absurd h (by omega)⟩
      rw [zx_mg (Nat.le_refl _), zx_mg hnb, a5, b5] at he
      have l1 := mg_lt k hdg
      have c0 : carry = 0 := by
        rcases (show carry = 0 ∨ carry = 1 by omega) with h | h
        · exact h
        · subst h; omega
      subst c0
      have f2 : cw_rf (fun s => s = r) M (cw_up (cw_up Mk 322 r to) 321 r k) := rf_u1 (rf_u2 (lf_f hl (by omega) (by omega)) rfl) rfl
      refine k_Mo_adds_322 _ _ _ _ _ _ _ _ ?_
      simp only [↓w_nil, ↓w_cons, ↓w_ald0, ↓w_gf2_2, ↓w_ild1, ↓w_ild10, ↓w_iast, ↓w_gf2_1, ↓w_ild6, ↓w_cv1, true_and, and_true, true_implies, false_implies, not_true_eq_false, not_false_eq_true, Int.reduceEq, Int.reduceLT, Int.reduceLE, Int.reduceNeg, w_c80, w_c8I, w_c8L, w_c8R, m_k0, m_k1, m_k2, m_k3, m_k9, m_u01, m_u02, m_u03, m_u09, m_u10, m_u12, m_u13, m_u19, m_u20, m_u21, m_u23, m_u29, m_u30, m_u31, m_u32, m_u39, w_up1, hSk.d1, hSk.d2]
      repeat refine And.intro (by first | assumption | exact IsW.kt (by assumption) | omega | (unfold in32; omega) | (unfold in64; omega) | trivial | rfl | exact Nat.le_of_ble_eq_true rfl) ?_
      try first | done | assumption | (unfold in32; omega) | (unfold in64; omega)
      refine ⟨_, p_Mo_trims (n := k) (v := v) (hS.rf f2) hr (by omega) ?_ ?_ ?_ ?_, ?_⟩
      · rw [w_up1]
      · rw [rd_u1, rd_u2]; exact hdg
      · rw [rd_u1, rd_u2]; omega
      · intro h; rw [m_u12, w_up1]; exact hs h
      · rintro q M' ⟨rfl, h1, h2⟩
        refine k_Mo_adds_343 _ _ _ _ _ _ _ _ ?_
        simp only [↓w_nil, ↓w_vret, true_and, and_true, true_implies, false_implies, not_true_eq_false, not_false_eq_true, Int.reduceEq, Int.reduceLT, Int.reduceLE, Int.reduceNeg, w_tl0]
        exact ⟨h1, rf_tr f2 h2⟩
    | succ d ih =>
      intro k Mk carry z hd hl hdg hc he
      have hSk := hS.rf (lf_f hl (by omega) (by omega))
      have za : (if (k : Int) < nh then cw_rd Mk h k else 0) = cw_zx (cw_rd M h) nh k := by rw [lf_rd hl (by omega) (by omega) (by omega) (by omega) (Or.inr (Or.inr (by omega)))]; rfl
      have zb : (if (k : Int) < nl then cw_rd Mk l k else 0) = cw_zx (cw_rd M l) nl k := by rw [lf_rd hl (by omega) (by omega) (by omega) (by omega) (Or.inr (Or.inr (by omega)))]; rfl
      have ra := zx_rg a3 k
      have rb := zx_rg b3 k
      refine k_Mo_adds_248 _ _ _ _ _ _ _ _ ?_
      simp only [↓w_nil, ↓w_cons, ↓w_ild12, ↓w_ild6, ↓w_icge, true_and, and_true, true_implies, false_implies, not_true_eq_false, not_false_eq_true, Int.reduceEq, Int.reduceLT, Int.reduceLE, Int.reduceNeg]
      repeat refine And.intro (by first | assumption | exact IsW.kt (by assumption) | omega | (unfold in32; omega) | (unfold in64; omega) | trivial | rfl | exact Nat.le_of_ble_eq_true rfl) ?_
      try first | done | assumption | (unfold in32; omega) | (unfold in64; omega)
      intro _
      refine k_Mo_adds_255 _ _ _ _ _ _ _ _ ?_
      simp only [↓w_nil, ↓w_cons, ↓w_ald0, ↓w_ild8, ↓w_ild12, ↓w_cv2, true_and, and_true, true_implies, false_implies, not_true_eq_false, not_false_eq_true, Int.reduceEq, Int.reduceLT, Int.reduceLE, Int.reduceNeg, w_c80, w_c8I, w_c8L, w_c8R, m_k0, m_k1, m_k2, m_k3, m_k9, m_u01, m_u02, m_u03, m_u09, m_u10, m_u12, m_u13, m_u19, m_u20, m_u21, m_u23, m_u29, m_u30, m_u31, m_u32, m_u39, w_up1]
      repeat refine And.intro (by first | assumption | exact IsW.kt (by assumption) | omega | (unfold in32; omega) | (unfold in64; omega) | trivial | rfl | exact Nat.le_of_ble_eq_true rfl) ?_
      try first | done | assumption | (unfold in32; omega) | (unfold in64; omega)
      refine ⟨_, p_Mo_digit (n := nh) (k := k) hSk ha (by rw [lf_c hl (by decide)]; exact a2) (by omega) (by omega) (by omega), ?_⟩
      rintro q M1 ⟨rfl, rfl⟩
      refine k_Mo_adds_263 _ _ _ _ _ _ _ _ ?_
      simp only [↓w_nil, ↓w_cons, ↓w_ald0, ↓w_ild9, ↓w_ild12, ↓w_cv2, true_and, and_true, true_implies, false_implies, not_true_eq_false, not_false_eq_true, Int.reduceEq, Int.reduceLT, Int.reduceLE, Int.reduceNeg, w_c80, w_c8I, w_c8L, w_c8R, m_k0, m_k1, m_k2, m_k3, m_k9, m_u01, m_u02, m_u03, m_u09, m_u10, m_u12, m_u13, m_u19, m_u20, m_u21, m_u23, m_u29, m_u30, m_u31, m_u32, m_u39, w_up1, w_tl1]
      repeat refine And.intro (by first | assumption | exact IsW.kt (by assumption) | omega | (unfold in32; omega) | (unfold in64; omega) | trivial | rfl | exact Nat.le_of_ble_eq_true rfl) ?_
      try first | done | assumption | (unfold in32; omega) | (unfold in64; omega)
      refine ⟨_, p_Mo_digit (n := nl) (k := k) hSk hb (by rw [lf_c hl (by decide)]; exact b2) (by omega) (by omega) (by omega), ?_⟩
      rintro q M2 ⟨rfl, rfl⟩
      rw [za, zb]
      generalize hxa : cw_zx (cw_rd M h) nh k = xa at *
      generalize hxb : cw_zx (cw_rd M l) nl k = xb at *
      have step : ∀ dd cc : Int, 0 ≤ dd → dd < 1073741824 → 0 ≤ cc → cc ≤ 1 → dd = xa - xb - carry + cc * 1073741824 →
          mJ g y_Mo_adds 248 [.inr (.inr 319), .inl r, .inl a, .inl b, .inl sg, .inl other, .inl nh, .inl less, .inl h, .inl l, .inl to, .inl cc, .inl ((k : Int) + 1), .inl (xa - xb - carry)] [] (cw_up M2 320 (32 * r + k) dd) (fun q M' => q = none ∧ RM M' r v ∧ cw_rf (fun s => s = r) M M') := by
        intro dd cc d0 d1 c0 c1 hdd
        refine ih (k + 1) _ _ _ (by omega) (lf_u hl (by omega) (by omega) (by omega) (by omega)) ?_ (by omega) ?_
        · intro j hj
          rw [rd_up]
          split
          · omega
          · exact hdg j (by omega)
        · rw [mg_s, mg_s, mg_s, rd_up, if_pos rfl, hxa, hxb, bt_s]
          rw [mg_cg (h := cw_rd M2 r) k fun j hj => by rw [rd_up, if_neg (by omega)]]
          have hp := bt_pos k
          generalize (1073741824 : Int) ^ k = p at *
          have e1 : dd * p = xa * p - xb * p - carry * p + cc * (p * 1073741824) := by
            rw [hdd, Int.add_mul, Int.sub_mul, Int.sub_mul, show cc * (p * 1073741824) = cc * 1073741824 * p by ac_rfl]
          omega
      refine k_Mo_adds_271 _ _ _ _ _ _ _ _ ?_
      simp only [↓w_nil, ↓w_cons, ↓w_isub, ↓w_ild11, ↓w_ist13, ↓w_ild13, ↓w_ifge, true_and, and_true, true_implies, false_implies, not_true_eq_false, not_false_eq_true, Int.reduceEq, Int.reduceLT, Int.reduceLE, Int.reduceNeg, w_nlI, w_nlL, w_nlR, w_tl1]
      repeat refine And.intro (by first | assumption | exact IsW.kt (by assumption) | omega | (unfold in32; omega) | (unfold in64; omega) | trivial | rfl | exact Nat.le_of_ble_eq_true rfl) ?_
      try first | done | assumption | (unfold in32; omega) | (unfold in64; omega)
      refine ⟨fun hh => ?_, fun hh => ?_⟩
      · refine k_Mo_adds_286 _ _ _ _ _ _ _ _ ?_
        simp only [↓w_nil, ↓w_cons, ↓w_ic, ↓w_fall, true_and, and_true, true_implies, false_implies, not_true_eq_false, not_false_eq_true, Int.reduceEq, Int.reduceLT, Int.reduceLE, Int.reduceNeg]
        refine k_Mo_adds_287 _ _ _ _ _ _ _ _ ?_
        simp only [↓w_nil, ↓w_cons, ↓w_ist11, ↓w_ald0, ↓w_gf2_0, ↓w_ic, ↓w_ild1, ↓w_imul, ↓w_ild12, ↓w_iadd, ↓w_ild13, ↓w_ifge, true_and, and_true, true_implies, false_implies, not_true_eq_false, not_false_eq_true, Int.reduceEq, Int.reduceLT, Int.reduceLE, Int.reduceNeg, w_nlI, w_nlL, w_nlR, m_k0, m_k1, m_k2, m_k3, m_k9, m_u01, m_u02, m_u03, m_u09, m_u10, m_u12, m_u13, m_u19, m_u20, m_u21, m_u23, m_u29, m_u30, m_u31, m_u32, m_u39, w_up1, hSk.d0]
        repeat refine And.intro (by first | assumption | exact IsW.kt (by assumption) | omega | (unfold in32; omega) | (unfold in64; omega) | trivial | rfl | exact Nat.le_of_ble_eq_true rfl) ?_
        try first | done | assumption | (unfold in32; omega) | (unfold in64; omega)
        refine ⟨fun _ => ?_, fun h => absurd hh h⟩
        refine k_Mo_adds_313 _ _ _ _ _ _ _ _ ?_
        simp only [↓w_nil, ↓w_cons, ↓w_ild13, ↓w_fall, true_and, and_true, true_implies, false_implies, not_true_eq_false, not_false_eq_true, Int.reduceEq, Int.reduceLT, Int.reduceLE, Int.reduceNeg]
        refine k_Mo_adds_315 _ _ _ _ _ _ _ _ ?_
        simp only [↓w_nil, ↓w_cons, ↓w_iast, ↓w_inc12, ↓w_goto, true_and, and_true, true_implies, false_implies, not_true_eq_false, not_false_eq_true, Int.reduceEq, Int.reduceLT, Int.reduceLE, Int.reduceNeg, w_nlI, w_nlL, w_nlR, m_k0, m_k1, m_k2, m_k3, m_k9, m_u01, m_u02, m_u03, m_u09, m_u10, m_u12, m_u13, m_u19, m_u20, m_u21, m_u23, m_u29, m_u30, m_u31, m_u32, m_u39, w_up1]
        repeat refine And.intro (by first | assumption | exact IsW.kt (by assumption) | omega | (unfold in32; omega) | (unfold in64; omega) | trivial | rfl | exact Nat.le_of_ble_eq_true rfl) ?_
        try first | done | assumption | (unfold in32; omega) | (unfold in64; omega)
        exact step _ 0 hh (by omega) (by omega) (by omega) (by omega)
      · refine k_Mo_adds_282 _ _ _ _ _ _ _ _ ?_
        simp only [↓w_nil, ↓w_cons, ↓w_ic, ↓w_goto, true_and, and_true, true_implies, false_implies, not_true_eq_false, not_false_eq_true, Int.reduceEq, Int.reduceLT, Int.reduceLE, Int.reduceNeg]
        refine k_Mo_adds_287 _ _ _ _ _ _ _ _ ?_
        simp only [↓w_nil, ↓w_cons, ↓w_ist11, ↓w_ald0, ↓w_gf2_0, ↓w_ic, ↓w_ild1, ↓w_imul, ↓w_ild12, ↓w_iadd, ↓w_ild13, ↓w_ifge, true_and, and_true, true_implies, false_implies, not_true_eq_false, not_false_eq_true, Int.reduceEq, Int.reduceLT, Int.reduceLE, Int.reduceNeg, w_nlI, w_nlL, w_nlR, m_k0, m_k1, m_k2, m_k3, m_k9, m_u01, m_u02, m_u03, m_u09, m_u10, m_u12, m_u13, m_u19, m_u20, m_u21, m_u23, m_u29, m_u30, m_u31, m_u32, m_u39, w_up1, hSk.d0]
        repeat refine And.intro (by first | assumption | exact IsW.kt (by assumption) | omega | (unfold in32; omega) | (unfold in64; omega) | trivial | rfl | exact Nat.le_of_ble_eq_true rfl) ?_
        try first | done | assumption | (unfold in32; omega) | (unfold in64; omega)
        intro _
        refine k_Mo_adds_305 _ _ _ _ _ _ _ _ ?_
        simp only [↓w_nil, ↓w_cons, ↓w_ild13, ↓w_ic, ↓w_iadd, ↓w_goto, true_and, and_true, true_implies, false_implies, not_true_eq_false, not_false_eq_true, Int.reduceEq, Int.reduceLT, Int.reduceLE, Int.reduceNeg]
        refine k_Mo_adds_315 _ _ _ _ _ _ _ _ ?_
        simp only [↓w_nil, ↓w_cons, ↓w_iast, ↓w_inc12, ↓w_goto, true_and, and_true, true_implies, false_implies, not_true_eq_false, not_false_eq_true, Int.reduceEq, Int.reduceLT, Int.reduceLE, Int.reduceNeg, w_nlI, w_nlL, w_nlR, m_k0, m_k1, m_k2, m_k3, m_k9, m_u01, m_u02, m_u03, m_u09, m_u10, m_u12, m_u13, m_u19, m_u20, m_u21, m_u23, m_u29, m_u30, m_u31, m_u32, m_u39, w_up1]
        repeat refine And.intro (by first | assumption | exact IsW.kt (by assumption) | omega | (unfold in32; omega) | (unfold in64; omega) | trivial | rfl | exact Nat.le_of_ble_eq_true rfl) ?_
        try first | done | assumption | (unfold in32; omega) | (unfold in64; omega)
        exact step _ 1 (by omega) (by omega) (by omega) (by omega) (by omega)
  exact loop nh 0 M 0 cU rfl lf_rf (fun j hj => by omega) (by omega) (by simp [mg_0])
theorem ab_3 (v : Int) : 0 ≤ v ∧ cw_ab v = v ∨ v < 0 ∧ cw_ab v = -v := by
  unfold cw_ab
  split
  · exact Or.inl ⟨by assumption, rfl⟩
  · exact Or.inr ⟨by omega, rfl⟩
theorem ad_n {va vb sg : Int} (hsg : sg = 1 ∨ sg = -1) (ha : va ≠ 0) (hb : vb ≠ 0) (h : cw_sg va ≠ sg * cw_sg vb) (hle : cw_ab vb ≤ cw_ab va) :
    cw_ab va - cw_ab vb = cw_ab (va + sg * vb) ∧ (va + sg * vb ≠ 0 → cw_sg va = cw_sg (va + sg * vb)) := by
  have a1 := ab_3 va
  have a2 := ab_3 vb
  have a3 := ab_3 (va + sg * vb)
  have s1 := sg_3 va
  have s2 := sg_3 vb
  have s3 := sg_3 (va + sg * vb)
  rcases hsg with q | q <;> subst q <;> constructor <;> omega
theorem ad_m {va vb sg : Int} (hsg : sg = 1 ∨ sg = -1) (ha : va ≠ 0) (hb : vb ≠ 0) (h : cw_sg va ≠ sg * cw_sg vb) (hle : cw_ab va ≤ cw_ab vb) :
    cw_ab vb - cw_ab va = cw_ab (va + sg * vb) ∧ (va + sg * vb ≠ 0 → sg * cw_sg vb = cw_sg (va + sg * vb)) := by
  have a1 := ab_3 va
  have a2 := ab_3 vb
  have a3 := ab_3 (va + sg * vb)
  have s1 := sg_3 va
  have s2 := sg_3 vb
  have s3 := sg_3 (va + sg * vb)
  rcases hsg with q | q <;> subst q <;> constructor <;> omega
theorem ad_p {va vb sg : Int} (hsg : sg = 1 ∨ sg = -1) (ha : va ≠ 0) (hb : vb ≠ 0) (h : cw_sg va = sg * cw_sg vb) :
    cw_ab va + cw_ab vb = cw_ab (va + sg * vb) ∧ (va + sg * vb ≠ 0 → sg * cw_sg vb = cw_sg (va + sg * vb)) := by
  have a1 := ab_3 va
  have a2 := ab_3 vb
  have a3 := ab_3 (va + sg * vb)
  have s1 := sg_3 va
  have s2 := sg_3 vb
  have s3 := sg_3 (va + sg * vb)
  rcases hsg with q | q <;> subst q <;> constructor <;> omega
theorem ad_0 {vb sg : Int} (hsg : sg = 1 ∨ sg = -1) (hb : vb ≠ 0) : cw_ab vb = cw_ab (0 + sg * vb) ∧ sg * cw_sg vb = cw_sg (0 + sg * vb) := by
  have a2 := ab_3 vb
  have a3 := ab_3 (0 + sg * vb)
  have s2 := sg_3 vb
  have s3 := sg_3 (0 + sg * vb)
  rcases hsg with q | q <;> subst q <;> constructor <;> omega
theorem p_Mo_adds {g : cw_G} {M : cw_M} {r a b va vb sg : Int} (hS : Sh M) (hr : IR r) (ha : IR a) (hb : IR b) (hva : RM M a va) (hvb : RM M b vb) (hba : cw_ab va < 1073741824 ^ 31) (hbb : cw_ab vb < 1073741824 ^ 31) (hsg : sg = 1 ∨ sg = -1) :
    mC g y_Mo_adds [.inr (.inr 319), .inl r, .inl a, .inl b, .inl sg] M (fun q M' => q = none ∧ RM M' r (va + sg * vb) ∧ cw_rf (fun s => s = r) M M') := by
  obtain ⟨r0, r1⟩ := id hr
  obtain ⟨a0, a1⟩ := id ha
  obtain ⟨b0, b1⟩ := id hb
  obtain ⟨n, c1, c2, c3, c4, c5, c6⟩ := id hva
  obtain ⟨m, d1, d2, d3, d4, d5, d6⟩ := id hvb
  have hn := gn_nle c3 c4 c5 hba
  have hm := gn_nle d3 d4 d5 hbb
  have s1 := sg_3 va
  have s2 := sg_3 vb
  have s32 : in32 (sg * cw_sg vb) := by unfold in32; rcases hsg with h | h <;> subst h <;> omega
  refine cw_C_of (L := [.inr (.inr 319), .inl r, .inl a, .inl b, .inl sg, cU, cU, cU, cU, cU, cU, cU, cU, cU]) ok_Mo_adds (Nat.le_refl _) (Nat.le_of_ble_eq_true rfl) rfl ?_
  refine k_Mo_adds_0 _ _ _ _ _ _ _ _ ?_
  simp only [↓w_nil, ↓w_cons, ↓w_ild4, ↓w_ald0, ↓w_gf2_2, ↓w_ild3, ↓w_iald, ↓w_imul, ↓w_ist5, ↓w_ild5, ↓w_ifne, true_and, and_true, true_implies, false_implies, not_true_eq_false, not_false_eq_true, Int.reduceEq, Int.reduceLT, Int.reduceLE, Int.reduceNeg, w_nlI, w_nlL, w_nlR, m_k0, m_k1, m_k2, m_k3, m_k9, m_u01, m_u02, m_u03, m_u09, m_u10, m_u12, m_u13, m_u19, m_u20, m_u21, m_u23, m_u29, m_u30, m_u31, m_u32, m_u39, w_up1, hS.d2, d6]
  repeat refine And.intro (by first | assumption | exact IsW.kt (by assumption) | omega | (unfold in32; omega) | (unfold in64; omega) | trivial | rfl | exact Nat.le_of_ble_eq_true rfl) ?_
  try first | done | assumption | (unfold in32; omega) | (unfold in64; omega)
  refine ⟨fun h0 => ?_, fun h0 => ?_⟩
  rotate_left
  · have v0 : vb = 0 := by rcases hsg with h | h <;> subst h <;> omega
    subst v0
    refine k_Mo_adds_16 _ _ _ _ _ _ _ _ ?_
    simp only [↓w_nil, ↓w_cons, ↓w_ald0, ↓w_ild1, ↓w_ild2, ↓w_cv2, true_and, and_true, true_implies, false_implies, not_true_eq_false, not_false_eq_true, Int.reduceEq, Int.reduceLT, Int.reduceLE, Int.reduceNeg, w_c80, w_c8I, w_c8L, w_c8R, m_k0, m_k1, m_k2, m_k3, m_k9, m_u01, m_u02, m_u03, m_u09, m_u10, m_u12, m_u13, m_u19, m_u20, m_u21, m_u23, m_u29, m_u30, m_u31, m_u32, m_u39, w_up1]
    repeat refine And.intro (by first | assumption | exact IsW.kt (by assumption) | omega | (unfold in32; omega) | (unfold in64; omega) | trivial | rfl | exact Nat.le_of_ble_eq_true rfl) ?_
    try first | done | assumption | (unfold in32; omega) | (unfold in64; omega)
    refine ⟨_, p_Mo_copies hS hr ha hva, ?_⟩
    rintro q M1 ⟨rfl, h1, f1⟩
    refine k_Mo_adds_22 _ _ _ _ _ _ _ _ ?_
    simp only [↓w_nil, ↓w_vret, true_and, and_true, true_implies, false_implies, not_true_eq_false, not_false_eq_true, Int.reduceEq, Int.reduceLT, Int.reduceLE, Int.reduceNeg, w_tl0]
    rw [show va + sg * 0 = va by omega]
    exact ⟨h1, f1⟩
  refine k_Mo_adds_23 _ _ _ _ _ _ _ _ ?_
  simp only [↓w_nil, ↓w_cons, ↓w_ald0, ↓w_gf2_2, ↓w_ild2, ↓w_iald, ↓w_ifne, true_and, and_true, true_implies, false_implies, not_true_eq_false, not_false_eq_true, Int.reduceEq, Int.reduceLT, Int.reduceLE, Int.reduceNeg, m_k0, m_k1, m_k2, m_k3, m_k9, m_u01, m_u02, m_u03, m_u09, m_u10, m_u12, m_u13, m_u19, m_u20, m_u21, m_u23, m_u29, m_u30, m_u31, m_u32, m_u39, w_up1, hS.d2, c6]
  repeat refine And.intro (by first | assumption | exact IsW.kt (by assumption) | omega | (unfold in32; omega) | (unfold in64; omega) | trivial | rfl | exact Nat.le_of_ble_eq_true rfl) ?_
  try first | done | assumption | (unfold in32; omega) | (unfold in64; omega)
  refine ⟨fun ha0 => ?_, fun ha0 => ?_⟩
  rotate_left
  · have v0 : va = 0 := by omega
    subst v0
    refine k_Mo_adds_32 _ _ _ _ _ _ _ _ ?_
    simp only [↓w_nil, ↓w_cons, ↓w_ald0, ↓w_ild1, ↓w_ild3, ↓w_cv2, true_and, and_true, true_implies, false_implies, not_true_eq_false, not_false_eq_true, Int.reduceEq, Int.reduceLT, Int.reduceLE, Int.reduceNeg, w_c80, w_c8I, w_c8L, w_c8R, m_k0, m_k1, m_k2, m_k3, m_k9, m_u01, m_u02, m_u03, m_u09, m_u10, m_u12, m_u13, m_u19, m_u20, m_u21, m_u23, m_u29, m_u30, m_u31, m_u32, m_u39, w_up1]
    repeat refine And.intro (by first | assumption | exact IsW.kt (by assumption) | omega | (unfold in32; omega) | (unfold in64; omega) | trivial | rfl | exact Nat.le_of_ble_eq_true rfl) ?_
    try first | done | assumption | (unfold in32; omega) | (unfold in64; omega)
    refine ⟨_, p_Mo_copies hS hr hb hvb, ?_⟩
    rintro q M1 ⟨rfl, h1, f1⟩
    have hS1 := hS.rf f1
    refine k_Mo_adds_38 _ _ _ _ _ _ _ _ ?_
    simp only [↓w_nil, ↓w_cons, ↓w_ald0, ↓w_gf2_2, ↓w_ild1, ↓w_ild5, ↓w_iast, ↓w_vret, true_and, and_true, true_implies, false_implies, not_true_eq_false, not_false_eq_true, Int.reduceEq, Int.reduceLT, Int.reduceLE, Int.reduceNeg, w_tl0, m_k0, m_k1, m_k2, m_k3, m_k9, m_u01, m_u02, m_u03, m_u09, m_u10, m_u12, m_u13, m_u19, m_u20, m_u21, m_u23, m_u29, m_u30, m_u31, m_u32, m_u39, w_up1, hS1.d2]
    repeat refine And.intro (by first | assumption | exact IsW.kt (by assumption) | omega | (unfold in32; omega) | (unfold in64; omega) | trivial | rfl | exact Nat.le_of_ble_eq_true rfl) ?_
    try first | done | assumption | (unfold in32; omega) | (unfold in64; omega)
    obtain ⟨n', q1, q2, q3, q4, q5, q6⟩ := h1
    refine ⟨⟨n', q1, ?_, ?_, ?_, ?_, ?_⟩, rf_u2 f1 rfl⟩
    · rw [m_u21]; exact q2
    · rw [rd_u2]; exact q3
    · rw [rd_u2]; exact q4
    · rw [rd_u2, q5]; exact (ad_0 hsg fun h => h0 (by rw [h]; show sg * 0 = 0; omega)).1
    · rw [w_up1]; exact (ad_0 hsg fun h => h0 (by rw [h]; show sg * 0 = 0; omega)).2
  have hva0 : va ≠ 0 := fun h => ha0 (by rw [h]; rfl)
  have hvb0 : vb ≠ 0 := fun h => h0 (by rw [h]; show sg * 0 = 0; omega)
  have more : ∀ k : Nat, n ≤ k → m ≤ k → (k = n ∨ k = m) → mJ g y_Mo_adds 77 [.inr (.inr 319), .inl r, .inl a, .inl b, .inl sg, .inl (sg * cw_sg vb), cU, cU, cU, cU, cU, cU, cU, cU] [.inl k] M (fun q M' => q = none ∧ RM M' r (va + sg * vb) ∧ cw_rf (fun s => s = r) M M') := by
    intro k k1 k2 k3
    refine k_Mo_adds_77 _ _ _ _ _ _ _ _ ?_
    simp only [↓w_nil, ↓w_cons, ↓w_ist6, ↓w_ald0, ↓w_gf2_2, ↓w_ild2, ↓w_iald, ↓w_ild5, ↓w_icne, true_and, and_true, true_implies, false_implies, not_true_eq_false, not_false_eq_true, Int.reduceEq, Int.reduceLT, Int.reduceLE, Int.reduceNeg, w_nlI, w_nlL, w_nlR, m_k0, m_k1, m_k2, m_k3, m_k9, m_u01, m_u02, m_u03, m_u09, m_u10, m_u12, m_u13, m_u19, m_u20, m_u21, m_u23, m_u29, m_u30, m_u31, m_u32, m_u39, w_up1, hS.d2, c6]
    repeat refine And.intro (by first | assumption | exact IsW.kt (by assumption) | omega | (unfold in32; omega) | (unfold in64; omega) | trivial | rfl | exact Nat.le_of_ble_eq_true rfl) ?_
    try first | done | assumption | (unfold in32; omega) | (unfold in64; omega)
    refine ⟨fun hne => ?_, fun he => ?_⟩
    · refine k_Mo_adds_184 _ _ _ _ _ _ _ _ ?_
      simp only [↓w_nil, ↓w_cons, ↓w_ald0, ↓w_ild2, ↓w_ild3, ↓w_cv2, true_and, and_true, true_implies, false_implies, not_true_eq_false, not_false_eq_true, Int.reduceEq, Int.reduceLT, Int.reduceLE, Int.reduceNeg, w_c80, w_c8I, w_c8L, w_c8R, m_k0, m_k1, m_k2, m_k3, m_k9, m_u01, m_u02, m_u03, m_u09, m_u10, m_u12, m_u13, m_u19, m_u20, m_u21, m_u23, m_u29, m_u30, m_u31, m_u32, m_u39, w_up1]
      repeat refine And.intro (by first | assumption | exact IsW.kt (by assumption) | omega | (unfold in32; omega) | (unfold in64; omega) | trivial | rfl | exact Nat.le_of_ble_eq_true rfl) ?_
      try first | done | assumption | (unfold in32; omega) | (unfold in64; omega)
      refine ⟨_, p_Mo_against hS ha hb hva hvb, ?_⟩
      rintro q M1 ⟨rfl, rfl⟩
      have c32 : in32 (cw_cm (cw_ab va) (cw_ab vb)) := by unfold in32 cw_cm; split <;> (try split) <;> omega
      refine k_Mo_adds_190 _ _ _ _ _ _ _ _ ?_
      simp only [↓w_nil, ↓w_ifge, true_and, and_true, true_implies, false_implies, not_true_eq_false, not_false_eq_true, Int.reduceEq, Int.reduceLT, Int.reduceLE, Int.reduceNeg, w_tl1]
      repeat refine And.intro (by first | assumption | exact IsW.kt (by assumption) | omega | (unfold in32; omega) | (unfold in64; omega) | trivial | rfl | exact Nat.le_of_ble_eq_true rfl) ?_
      try first | done | assumption | (unfold in32; omega) | (unfold in64; omega)
      refine ⟨fun hc => ?_, fun hc => ?_⟩
      · have hle : cw_ab vb ≤ cw_ab va := by unfold cw_cm at hc; split at hc <;> (try split at hc) <;> omega
        have hmn : m ≤ n := gn_nle d3 d4 d5 (by have := gn_lt c3 c5; omega)
        have hk : k = n := by omega
        subst hk
        refine k_Mo_adds_197 _ _ _ _ _ _ _ _ ?_
        simp only [↓w_nil, ↓w_cons, ↓w_ic, ↓w_fall, true_and, and_true, true_implies, false_implies, not_true_eq_false, not_false_eq_true, Int.reduceEq, Int.reduceLT, Int.reduceLE, Int.reduceNeg]
        refine k_Mo_adds_198 _ _ _ _ _ _ _ _ ?_
        simp only [↓w_nil, ↓w_cons, ↓w_ist7, ↓w_ild7, ↓w_ifeq, true_and, and_true, true_implies, false_implies, not_true_eq_false, not_false_eq_true, Int.reduceEq, Int.reduceLT, Int.reduceLE, Int.reduceNeg, w_nlI, w_nlL, w_nlR]
        repeat refine And.intro (by first | assumption | exact IsW.kt (by assumption) | omega | (unfold in32; omega) | (unfold in64; omega) | trivial | rfl | exact Nat.le_of_ble_eq_true rfl) ?_
        try first | done | assumption | (unfold in32; omega) | (unfold in64; omega)
        refine k_Mo_adds_209 _ _ _ _ _ _ _ _ ?_
        simp only [↓w_nil, ↓w_cons, ↓w_ild2, ↓w_fall, true_and, and_true, true_implies, false_implies, not_true_eq_false, not_false_eq_true, Int.reduceEq, Int.reduceLT, Int.reduceLE, Int.reduceNeg]
        refine k_Mo_adds_210 _ _ _ _ _ _ _ _ ?_
        simp only [↓w_nil, ↓w_cons, ↓w_ist8, ↓w_ild7, ↓w_ifeq, true_and, and_true, true_implies, false_implies, not_true_eq_false, not_false_eq_true, Int.reduceEq, Int.reduceLT, Int.reduceLE, Int.reduceNeg, w_nlI, w_nlL, w_nlR]
        repeat refine And.intro (by first | assumption | exact IsW.kt (by assumption) | omega | (unfold in32; omega) | (unfold in64; omega) | trivial | rfl | exact Nat.le_of_ble_eq_true rfl) ?_
        try first | done | assumption | (unfold in32; omega) | (unfold in64; omega)
        refine k_Mo_adds_221 _ _ _ _ _ _ _ _ ?_
        simp only [↓w_nil, ↓w_cons, ↓w_ild3, ↓w_fall, true_and, and_true, true_implies, false_implies, not_true_eq_false, not_false_eq_true, Int.reduceEq, Int.reduceLT, Int.reduceLE, Int.reduceNeg]
        refine k_Mo_adds_222 _ _ _ _ _ _ _ _ ?_
        simp only [↓w_nil, ↓w_cons, ↓w_ist9, ↓w_ild7, ↓w_ifeq, true_and, and_true, true_implies, false_implies, not_true_eq_false, not_false_eq_true, Int.reduceEq, Int.reduceLT, Int.reduceLE, Int.reduceNeg, w_nlI, w_nlL, w_nlR]
        repeat refine And.intro (by first | assumption | exact IsW.kt (by assumption) | omega | (unfold in32; omega) | (unfold in64; omega) | trivial | rfl | exact Nat.le_of_ble_eq_true rfl) ?_
        try first | done | assumption | (unfold in32; omega) | (unfold in64; omega)
        refine k_Mo_adds_234 _ _ _ _ _ _ _ _ ?_
        simp only [↓w_nil, ↓w_cons, ↓w_ald0, ↓w_gf2_2, ↓w_ild2, ↓w_iald, ↓w_fall, true_and, and_true, true_implies, false_implies, not_true_eq_false, not_false_eq_true, Int.reduceEq, Int.reduceLT, Int.reduceLE, Int.reduceNeg, m_k0, m_k1, m_k2, m_k3, m_k9, m_u01, m_u02, m_u03, m_u09, m_u10, m_u12, m_u13, m_u19, m_u20, m_u21, m_u23, m_u29, m_u30, m_u31, m_u32, m_u39, w_up1, hS.d2, c6]
        repeat refine And.intro (by first | assumption | exact IsW.kt (by assumption) | omega | (unfold in32; omega) | (unfold in64; omega) | trivial | rfl | exact Nat.le_of_ble_eq_true rfl) ?_
        try first | done | assumption | (unfold in32; omega) | (unfold in64; omega)
        refine k_Mo_adds_240 _ _ _ _ _ _ _ _ ?_
        simp only [↓w_nil, ↓w_cons, ↓w_ist10, ↓w_ic, ↓w_ist11, ↓w_ist12, ↓w_fall, true_and, and_true, true_implies, false_implies, not_true_eq_false, not_false_eq_true, Int.reduceEq, Int.reduceLT, Int.reduceLE, Int.reduceNeg, w_nlI, w_nlL, w_nlR]
        refine l_add248 (v := va + sg * vb) hS hr ha hb c2 c3 c5 d2 d3 d5 hmn (by omega) hle ?_ ?_
        · exact (ad_n hsg hva0 hvb0 hne hle).1
        · exact (ad_n hsg hva0 hvb0 hne hle).2
      · have hle : cw_ab va ≤ cw_ab vb := by unfold cw_cm at hc; split at hc <;> (try split at hc) <;> omega
        have hmn : n ≤ m := gn_nle c3 c4 c5 (by have := gn_lt d3 d5; omega)
        have hk : k = m := by omega
        subst hk
        refine k_Mo_adds_193 _ _ _ _ _ _ _ _ ?_
        simp only [↓w_nil, ↓w_cons, ↓w_ic, ↓w_goto, true_and, and_true, true_implies, false_implies, not_true_eq_false, not_false_eq_true, Int.reduceEq, Int.reduceLT, Int.reduceLE, Int.reduceNeg]
        refine k_Mo_adds_198 _ _ _ _ _ _ _ _ ?_
        simp only [↓w_nil, ↓w_cons, ↓w_ist7, ↓w_ild7, ↓w_ifeq, true_and, and_true, true_implies, false_implies, not_true_eq_false, not_false_eq_true, Int.reduceEq, Int.reduceLT, Int.reduceLE, Int.reduceNeg, w_nlI, w_nlL, w_nlR]
        repeat refine And.intro (by first | assumption | exact IsW.kt (by assumption) | omega | (unfold in32; omega) | (unfold in64; omega) | trivial | rfl | exact Nat.le_of_ble_eq_true rfl) ?_
        try first | done | assumption | (unfold in32; omega) | (unfold in64; omega)
        refine k_Mo_adds_205 _ _ _ _ _ _ _ _ ?_
        simp only [↓w_nil, ↓w_cons, ↓w_ild3, ↓w_goto, true_and, and_true, true_implies, false_implies, not_true_eq_false, not_false_eq_true, Int.reduceEq, Int.reduceLT, Int.reduceLE, Int.reduceNeg]
        refine k_Mo_adds_210 _ _ _ _ _ _ _ _ ?_
        simp only [↓w_nil, ↓w_cons, ↓w_ist8, ↓w_ild7, ↓w_ifeq, true_and, and_true, true_implies, false_implies, not_true_eq_false, not_false_eq_true, Int.reduceEq, Int.reduceLT, Int.reduceLE, Int.reduceNeg, w_nlI, w_nlL, w_nlR]
        repeat refine And.intro (by first | assumption | exact IsW.kt (by assumption) | omega | (unfold in32; omega) | (unfold in64; omega) | trivial | rfl | exact Nat.le_of_ble_eq_true rfl) ?_
        try first | done | assumption | (unfold in32; omega) | (unfold in64; omega)
        refine k_Mo_adds_217 _ _ _ _ _ _ _ _ ?_
        simp only [↓w_nil, ↓w_cons, ↓w_ild2, ↓w_goto, true_and, and_true, true_implies, false_implies, not_true_eq_false, not_false_eq_true, Int.reduceEq, Int.reduceLT, Int.reduceLE, Int.reduceNeg]
        refine k_Mo_adds_222 _ _ _ _ _ _ _ _ ?_
        simp only [↓w_nil, ↓w_cons, ↓w_ist9, ↓w_ild7, ↓w_ifeq, true_and, and_true, true_implies, false_implies, not_true_eq_false, not_false_eq_true, Int.reduceEq, Int.reduceLT, Int.reduceLE, Int.reduceNeg, w_nlI, w_nlL, w_nlR]
        repeat refine And.intro (by first | assumption | exact IsW.kt (by assumption) | omega | (unfold in32; omega) | (unfold in64; omega) | trivial | rfl | exact Nat.le_of_ble_eq_true rfl) ?_
        try first | done | assumption | (unfold in32; omega) | (unfold in64; omega)
        refine k_Mo_adds_229 _ _ _ _ _ _ _ _ ?_
        simp only [↓w_nil, ↓w_cons, ↓w_ild5, ↓w_goto, true_and, and_true, true_implies, false_implies, not_true_eq_false, not_false_eq_true, Int.reduceEq, Int.reduceLT, Int.reduceLE, Int.reduceNeg]
        refine k_Mo_adds_240 _ _ _ _ _ _ _ _ ?_
        simp only [↓w_nil, ↓w_cons, ↓w_ist10, ↓w_ic, ↓w_ist11, ↓w_ist12, ↓w_fall, true_and, and_true, true_implies, false_implies, not_true_eq_false, not_false_eq_true, Int.reduceEq, Int.reduceLT, Int.reduceLE, Int.reduceNeg, w_nlI, w_nlL, w_nlR]
        refine l_add248 (v := va + sg * vb) hS hr hb ha d2 d3 d5 c2 c3 c5 hmn (by omega) hle ?_ ?_
        · exact (ad_m hsg hva0 hvb0 hne hle).1
        · exact (ad_m hsg hva0 hvb0 hne hle).2
    · refine k_Mo_adds_90 _ _ _ _ _ _ _ _ ?_
      simp only [↓w_nil, ↓w_cons, ↓w_ic, ↓w_ist7, ↓w_ist8, ↓w_fall, true_and, and_true, true_implies, false_implies, not_true_eq_false, not_false_eq_true, Int.reduceEq, Int.reduceLT, Int.reduceLE, Int.reduceNeg, w_nlI, w_nlL, w_nlR]
      refine l_add96 (v := va + sg * vb) hS hr ha hb c2 c3 c5 d2 d3 d5 k1 k2 (by omega) ?_ ?_
      · exact (ad_p hsg hva0 hvb0 (by omega)).1
      · exact (ad_p hsg hva0 hvb0 (by omega)).2
  refine k_Mo_adds_47 _ _ _ _ _ _ _ _ ?_
  simp only [↓w_nil, ↓w_cons, ↓w_ald0, ↓w_gf2_1, ↓w_ild2, ↓w_iald, ↓w_ild3, ↓w_icle, true_and, and_true, true_implies, false_implies, not_true_eq_false, not_false_eq_true, Int.reduceEq, Int.reduceLT, Int.reduceLE, Int.reduceNeg, m_k0, m_k1, m_k2, m_k3, m_k9, m_u01, m_u02, m_u03, m_u09, m_u10, m_u12, m_u13, m_u19, m_u20, m_u21, m_u23, m_u29, m_u30, m_u31, m_u32, m_u39, w_up1, hS.d1, c2, d2]
  repeat refine And.intro (by first | assumption | exact IsW.kt (by assumption) | omega | (unfold in32; omega) | (unfold in64; omega) | trivial | rfl | exact Nat.le_of_ble_eq_true rfl) ?_
  try first | done | assumption | (unfold in32; omega) | (unfold in64; omega)
  refine ⟨fun h => ?_, fun h => ?_⟩
  · refine k_Mo_adds_71 _ _ _ _ _ _ _ _ ?_
    simp only [↓w_nil, ↓w_cons, ↓w_ald0, ↓w_gf2_1, ↓w_ild3, ↓w_iald, ↓w_fall, true_and, and_true, true_implies, false_implies, not_true_eq_false, not_false_eq_true, Int.reduceEq, Int.reduceLT, Int.reduceLE, Int.reduceNeg, m_k0, m_k1, m_k2, m_k3, m_k9, m_u01, m_u02, m_u03, m_u09, m_u10, m_u12, m_u13, m_u19, m_u20, m_u21, m_u23, m_u29, m_u30, m_u31, m_u32, m_u39, w_up1, hS.d1, d2]
    repeat refine And.intro (by first | assumption | exact IsW.kt (by assumption) | omega | (unfold in32; omega) | (unfold in64; omega) | trivial | rfl | exact Nat.le_of_ble_eq_true rfl) ?_
    try first | done | assumption | (unfold in32; omega) | (unfold in64; omega)
    exact more m (by omega) (by omega) (Or.inr rfl)
  · refine k_Mo_adds_62 _ _ _ _ _ _ _ _ ?_
    simp only [↓w_nil, ↓w_cons, ↓w_ald0, ↓w_gf2_1, ↓w_ild2, ↓w_iald, ↓w_goto, true_and, and_true, true_implies, false_implies, not_true_eq_false, not_false_eq_true, Int.reduceEq, Int.reduceLT, Int.reduceLE, Int.reduceNeg, m_k0, m_k1, m_k2, m_k3, m_k9, m_u01, m_u02, m_u03, m_u09, m_u10, m_u12, m_u13, m_u19, m_u20, m_u21, m_u23, m_u29, m_u30, m_u31, m_u32, m_u39, w_up1, hS.d1, c2]
    repeat refine And.intro (by first | assumption | exact IsW.kt (by assumption) | omega | (unfold in32; omega) | (unfold in64; omega) | trivial | rfl | exact Nat.le_of_ble_eq_true rfl) ?_
    try first | done | assumption | (unfold in32; omega) | (unfold in64; omega)
    exact more n (by omega) (by omega) (Or.inl rfl)
