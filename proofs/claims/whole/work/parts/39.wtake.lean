/-! Whole.takeOut: one limb of a quotient -/
theorem cw_J_mono {g : cw_G} {y : cw_Y} {n0 n1 nx pc : Nat} {L S : List cw_V} {M : cw_M} {Q Q' : Option cw_V → cw_M → Prop} (h : cw_J g y n0 n1 nx pc L S M Q) (hq : ∀ r M', Q r M' → Q' r M') : cw_J g y n0 n1 nx pc L S M Q' := by
  intro p e R s m args below meth c mc ms X N H locs ls hH hS hL T hT X2
  obtain ⟨t, h1, o, h2, h3, ⟨⟨r, M', e1, e2, e3⟩, e4⟩, h5⟩ := h p e R s m args below meth c mc ms X N H locs ls hH hS hL T hT X2
  exact ⟨t, h1, o, h2, h3, ⟨⟨r, M', e1, hq r M' e2, e3⟩, e4⟩, h5⟩
/-- behind the guess: what is taken out, and put back -/
theorem l_take148 {g : cw_G} {M : cw_M} {u b q d v1 top U D : Int} {n s j : Nat} {z11 z12 z13 z14 z15 : cw_V} (hS : Sh M) (hu : IsW u) (hb : IsW b) (hub : u ≠ b) (hs : s < 30) (hn : 1 ≤ n) (hjn : j + n ≤ 15)
    (hbd : cw_dg (M (b + 1)) n) (hud : cw_dg (fun t => M (u + 1) (j + t)) (n + 1)) (hU : U = cw_mg (fun t => M (u + 1) (j + t)) (n + 1)) (hD : D = cw_mg (cw_sd (M (b + 1)) s) n) (hD0 : 0 < D)
    (hq : q * D ≤ U ∧ U < (q + 1) * D) (hd : d = q ∨ d = q + 1) (hdr : 0 ≤ d ∧ d < 1073741824) :
    mJ g y_Wh_takeOut 148 [.inr (.inr u), .inr (.inr b), .inl s, .inl j, .inl n, .inr (.inl v1), cU, .inr (.inl top), cU, .inr (.inl d), cU, z11, z12, z13, z14, z15] [] M
      (fun r M' => r = some (.inr (.inl q)) ∧ (∀ c, c ≠ u + 1 → M' c = M c) ∧ (∀ t : Int, t < j ∨ (j : Int) + n < t → M' (u + 1) t = M (u + 1) t) ∧ M' (u + 1) ((j : Int) + n) = 0 ∧ cw_dg (fun t => M' (u + 1) (j + t)) n ∧ cw_mg (fun t => M' (u + 1) (j + t)) n = U - q * D) := by
  obtain ⟨k1, k2, k3, k4⟩ := id hu
  obtain ⟨q1, q2, q3, q4⟩ := id hb
  have n1 := isW_ne hu hb
  have n2 := isW_ne hb hu
  have p30 : (2 : Int) ^ (30 : Int).toNat = 1073741824 := by decide
  have keep : ∀ Mi : cw_M, (∀ c, c ≠ u + 1 → Mi c = M c) → Sh Mi ∧ Mi (b + 1) = M (b + 1) := by
    intro Mi h
    refine ⟨hS.fr (A := fun a => a = u + 1) ⟨h, fun a k hr => ?_⟩, h _ (by omega)⟩
    rw [h a (fun q => by rw [q, hu.rsl] at hr; cases hr)]
  have vr : ∀ i : Nat, i < n → 0 ≤ cw_sd (M (b + 1)) s i ∧ cw_sd (M (b + 1)) s i < 1073741824 := fun i hi => sd_rg (by omega) hbd i hi
  have Dlt : D < 1073741824 ^ n := by rw [hD]; exact (mg_lt n vr).2
  -- shifted, in any memory on the way
  have shf : ∀ (Mi : cw_M) (i : Nat), (∀ c, c ≠ u + 1 → Mi c = M c) → i < n → mC g y_Wh_shifted [.inr (.inr b), .inl i, .inl s] Mi (fun r M' => r = some (.inr (.inl (cw_sd (M (b + 1)) s i))) ∧ M' = Mi) := by
    intro Mi i hM hi
    obtain ⟨a1, a2⟩ := keep Mi hM
    have := p_Wh_shifted (g := g) (M := Mi) (w := b) (i := i) (s := s) a1 hb hs (by omega) (by rw [a2]; exact hbd i hi) (fun h => by rw [a2]; have := hbd (i - 1) (by omega); rw [show ((i - 1 : Nat) : Int) = (i : Int) - 1 by omega] at this; exact this)
    rw [a2] at this
    exact this
  -- the end: the divisor put back
  have back : ∀ (e i : Nat) (Mi : cw_M) (M1 : cw_M) (carry : Int), e + i = n → (∀ c, c ≠ u + 1 → Mi c = M c) → (∀ c, c ≠ u + 1 → M1 c = M c) → (∀ t : Int, t < j ∨ (j : Int) + i ≤ t → Mi (u + 1) t = M1 (u + 1) t) → (∀ t : Int, t < j ∨ (j : Int) + n < t → M1 (u + 1) t = M (u + 1) t) → M1 (u + 1) ((j : Int) + n) = 0 →
      cw_dg (fun t => M1 (u + 1) (j + t)) n → cw_dg (fun t => Mi (u + 1) (j + t)) n → 0 ≤ carry ∧ carry ≤ 1 → cw_mg (fun t => Mi (u + 1) (j + t)) i + carry * 1073741824 ^ i = cw_mg (fun t => M1 (u + 1) (j + t)) i + cw_mg (cw_sd (M (b + 1)) s) i → d = q + 1 → cw_mg (fun t => M1 (u + 1) (j + t)) n - 1073741824 ^ n = U - d * D →
      mJ g y_Wh_takeOut 254 [.inr (.inr u), .inr (.inr b), .inl s, .inl j, .inl n, .inr (.inl v1), cU, .inr (.inl top), cU, .inr (.inl d), cU, .inr (.inl carry), cU, .inl i, z14, z15] [] Mi
        (fun r M' => r = some (.inr (.inl q)) ∧ (∀ c, c ≠ u + 1 → M' c = M c) ∧ (∀ t : Int, t < j ∨ (j : Int) + n < t → M' (u + 1) t = M (u + 1) t) ∧ M' (u + 1) ((j : Int) + n) = 0 ∧ cw_dg (fun t => M' (u + 1) (j + t)) n ∧ cw_mg (fun t => M' (u + 1) (j + t)) n = U - q * D) := by
    intro e
    induction e with
    | zero =>
      intro i Mi M1 carry hi hM hM1 hk hk1 hz hd1 hdi hc he hdq hval
      have hin : i = n := by omega
      subst hin
      refine k_Wh_takeOut_254 _ _ _ _ _ _ _ _ ?_
      simp only [↓w_nil, ↓w_cons, ↓w_ild13, ↓w_ild4, ↓w_icge, true_and, and_true, true_implies, false_implies, not_true_eq_false, not_false_eq_true, Int.reduceEq, Int.reduceLT, Int.reduceLE, Int.reduceNeg]
      repeat refine And.intro (by first | assumption | exact IsW.kt (by assumption) | omega | (unfold in32; omega) | (unfold in64; omega) | trivial | rfl | exact Nat.le_of_ble_eq_true rfl) ?_
      try first | done | assumption | (unfold in32; omega) | (unfold in64; omega)
      refine ⟨fun _ => ?_, fun h => absurd h (by omega)⟩
      refine k_Wh_takeOut_311 _ _ _ _ _ _ _ _ ?_
      simp only [↓w_nil, ↓w_cons, ↓w_lld9, ↓w_lc, ↓w_lsub, ↓w_lret, true_and, and_true, true_implies, false_implies, not_true_eq_false, not_false_eq_true, Int.reduceEq, Int.reduceLT, Int.reduceLE, Int.reduceNeg]
      repeat refine And.intro (by first | assumption | exact IsW.kt (by assumption) | omega | (unfold in32; omega) | (unfold in64; omega) | trivial | rfl | exact Nat.le_of_ble_eq_true rfl) ?_
      try first | done | assumption | (unfold in32; omega) | (unfold in64; omega)
      have l1 := mg_lt i hdi
      rw [← hD] at he
      have l2 : d * D = q * D + D := by rw [hdq, Int.add_mul, Int.one_mul]
      rw [Int.add_mul, Int.one_mul] at hq
      have c1 : carry = 1 := by
        rcases (show carry = 0 ∨ carry = 1 by omega) with h | h
        · subst h; omega
        · exact h
      subst c1
      refine ⟨by rw [hdq]; congr 3; omega, hM, fun t ht => ?_, ?_, hdi, by omega⟩
      · rw [hk t (by omega)]; exact hk1 t ht
      · rw [hk _ (by omega)]; exact hz
    | succ e ih =>
      intro i Mi M1 carry hi hM hM1 hk hk1 hz hd1 hdi hc he hdq hval
      obtain ⟨a1, a2⟩ := keep Mi hM
      have lu := hu.limb a1
      have x1 := hdi i (by omega)
      have x2 := vr i (by omega)
      have x3 : Mi (u + 1) ((j : Int) + i) = M1 (u + 1) ((j : Int) + i) := hk _ (by omega)
      refine k_Wh_takeOut_254 _ _ _ _ _ _ _ _ ?_
      simp only [↓w_nil, ↓w_cons, ↓w_ild13, ↓w_ild4, ↓w_icge, true_and, and_true, true_implies, false_implies, not_true_eq_false, not_false_eq_true, Int.reduceEq, Int.reduceLT, Int.reduceLE, Int.reduceNeg]
      repeat refine And.intro (by first | assumption | exact IsW.kt (by assumption) | omega | (unfold in32; omega) | (unfold in64; omega) | trivial | rfl | exact Nat.le_of_ble_eq_true rfl) ?_
      try first | done | assumption | (unfold in32; omega) | (unfold in64; omega)
      intro _
      refine k_Wh_takeOut_261 _ _ _ _ _ _ _ _ ?_
      simp only [↓w_nil, ↓w_cons, ↓w_lld11, ↓w_ald0, ↓w_gf2_0, ↓w_ild13, ↓w_ild3, ↓w_iadd, ↓w_lald, ↓w_ald1, ↓w_ild2, ↓w_cv2, true_and, and_true, true_implies, false_implies, not_true_eq_false, not_false_eq_true, Int.reduceEq, Int.reduceLT, Int.reduceLE, Int.reduceNeg, w_c80, w_c8I, w_c8L, w_c8R, lu, k2]
      repeat refine And.intro (by first | assumption | exact IsW.kt (by assumption) | omega | (unfold in32; omega) | (unfold in64; omega) | trivial | rfl | exact Nat.le_of_ble_eq_true rfl) ?_
      try first | done | assumption | (unfold in32; omega) | (unfold in64; omega)
      refine ⟨_, shf Mi i hM (by omega), ?_⟩
      rintro r M' ⟨rfl, rfl⟩
      rw [Int.add_comm (i : Int) (j : Int)]
      generalize hT : carry + (M' (u + 1) ((j : Int) + i) + cw_sd (M (b + 1)) s i) = T
      have x1' : 0 ≤ M' (u + 1) ((j : Int) + i) ∧ M' (u + 1) ((j : Int) + i) < 1073741824 := x1
      have hTr : 0 ≤ T ∧ T < 2147483648 := by omega
      refine k_Wh_takeOut_279 _ _ _ _ _ _ _ _ ?_
      simp only [↓w_nil, ↓w_cons, ↓w_ladd, ↓w_lst11, ↓w_ald0, ↓w_gf2_0, ↓w_ild13, ↓w_ild3, ↓w_iadd, ↓w_lld11, ↓w_lc, ↓w_land, ↓w_last, ↓w_ic, ↓w_lshr, ↓w_inc13, ↓w_goto, true_and, and_true, true_implies, false_implies, not_true_eq_false, not_false_eq_true, Int.reduceEq, Int.reduceLT, Int.reduceLE, Int.reduceNeg, w_nlI, w_nlL, w_nlR, w_tl1, lu, k2, and30, p30, hT]
      rw [Int.add_comm (i : Int) (j : Int)]
      repeat refine And.intro (by first | assumption | exact IsW.kt (by assumption) | omega | (unfold in32; omega) | (unfold in64; omega) | trivial | rfl | exact Nat.le_of_ble_eq_true rfl) ?_
      try first | done | assumption | (unfold in32; omega) | (unfold in64; omega)
      refine ih (i + 1) _ M1 (T / 1073741824) (by omega) (fun c hc => by rw [cw_up_ne hc]; exact hM c hc) hM1 (fun t ht => by rw [w_up2 (by omega)]; exact hk t (by omega)) hk1 hz hd1 ?_ (by omega) ?_ hdq hval
      · intro t ht
        show 0 ≤ cw_up M' (u + 1) ((j : Int) + i) (T % 1073741824) (u + 1) ((j : Int) + t) ∧ cw_up M' (u + 1) ((j : Int) + i) (T % 1073741824) (u + 1) ((j : Int) + t) < _
        by_cases h : t = i
        · subst h; rw [w_up1]; omega
        · rw [w_up2 (by omega)]; exact hdi t ht
      · rw [mg_s, mg_s, mg_s, mg_cg (h := fun t => M' (u + 1) ((j : Int) + t)) i (fun t ht => w_up2 (by omega))]
        rw [w_up1, ← x3]
        have e := bt_s i
        rw [e]
        generalize (1073741824 : Int) ^ i = p at *
        have e1 : T * p = (T % 1073741824) * p + T / 1073741824 * (p * 1073741824) := by
          have : T = T % 1073741824 + T / 1073741824 * 1073741824 := by omega
          calc T * p = (T % 1073741824 + T / 1073741824 * 1073741824) * p := by rw [← this]
            _ = _ := by rw [Int.add_mul, Int.mul_assoc, Int.mul_comm 1073741824 p]
        have e2 : T * p = carry * p + M' (u + 1) ((j : Int) + i) * p + cw_sd (M (b + 1)) s i * p := by rw [← hT, Int.add_mul, Int.add_mul]; omega
        omega
  -- behind the subtraction
  have mid : ∀ (M1 : cw_M) (carry : Int), (∀ c, c ≠ u + 1 → M1 c = M c) → (∀ t : Int, t < j ∨ (j : Int) + n ≤ t → M1 (u + 1) t = M (u + 1) t) → cw_dg (fun t => M1 (u + 1) (j + t)) n → -1073741823 ≤ carry ∧ carry ≤ 0 → cw_mg (fun t => M1 (u + 1) (j + t)) n + (carry + M (u + 1) ((j : Int) + n)) * 1073741824 ^ n = U - d * D →
      mJ g y_Wh_takeOut 214 [.inr (.inr u), .inr (.inr b), .inl s, .inl j, .inl n, .inr (.inl v1), cU, .inr (.inl top), cU, .inr (.inl d), cU, .inr (.inl carry), cU, .inl n, z14, z15] [] M1
        (fun r M' => r = some (.inr (.inl q)) ∧ (∀ c, c ≠ u + 1 → M' c = M c) ∧ (∀ t : Int, t < j ∨ (j : Int) + n < t → M' (u + 1) t = M (u + 1) t) ∧ M' (u + 1) ((j : Int) + n) = 0 ∧ cw_dg (fun t => M' (u + 1) (j + t)) n ∧ cw_mg (fun t => M' (u + 1) (j + t)) n = U - q * D) := by
    intro M1 carry hM hk hd1 hc he
    obtain ⟨a1, a2⟩ := keep M1 hM
    have lu := hu.limb a1
    have x1 := hud n (by omega)
    have x1' : 0 ≤ M (u + 1) ((j : Int) + n) ∧ M (u + 1) ((j : Int) + n) < 1073741824 := x1
    have x3 : M1 (u + 1) ((j : Int) + n) = M (u + 1) ((j : Int) + n) := hk _ (by omega)
    have l1 := mg_lt n hd1
    rw [Int.add_mul, Int.one_mul] at hq
    refine k_Wh_takeOut_214 _ _ _ _ _ _ _ _ ?_
    simp only [↓w_nil, ↓w_cons, ↓w_lld11, ↓w_ald0, ↓w_gf2_0, ↓w_ild3, ↓w_ild4, ↓w_iadd, ↓w_lald, ↓w_ladd, ↓w_lst11, ↓w_lc, ↓w_last, ↓w_lclt, true_and, and_true, true_implies, false_implies, not_true_eq_false, not_false_eq_true, Int.reduceEq, Int.reduceLT, Int.reduceLE, Int.reduceNeg, w_nlI, w_nlL, w_nlR, lu, k2, x3]
    repeat refine And.intro (by first | assumption | exact IsW.kt (by assumption) | omega | (unfold in32; omega) | (unfold in64; omega) | trivial | rfl | exact Nat.le_of_ble_eq_true rfl) ?_
    try first | done | assumption | (unfold in32; omega) | (unfold in64; omega)
    generalize hC : carry + M (u + 1) ((j : Int) + n) = C at he ⊢
    have hcell : ∀ c, c ≠ u + 1 → cw_up M1 (u + 1) ((j : Int) + n) 0 c = M c := fun c hc => by rw [cw_up_ne hc]; exact hM c hc
    have hrest : ∀ t : Int, t < j ∨ (j : Int) + n < t → cw_up M1 (u + 1) ((j : Int) + n) 0 (u + 1) t = M (u + 1) t := fun t ht => by rw [w_up2 (by omega)]; exact hk t (by omega)
    have hdig : cw_dg (fun t => cw_up M1 (u + 1) ((j : Int) + n) 0 (u + 1) (j + t)) n := fun t ht => by
      show 0 ≤ cw_up M1 (u + 1) ((j : Int) + n) 0 (u + 1) ((j : Int) + t) ∧ cw_up M1 (u + 1) ((j : Int) + n) 0 (u + 1) ((j : Int) + t) < _
      rw [w_up2 (by omega)]; exact hd1 t ht
    have hmgz : ∀ i : Nat, i ≤ n → cw_mg (fun t => cw_up M1 (u + 1) ((j : Int) + n) 0 (u + 1) (j + t)) i = cw_mg (fun t => M1 (u + 1) (j + t)) i := fun i hi => mg_cg i fun t ht => w_up2 (by omega)
    refine ⟨fun h => ?_, fun h => ?_⟩
    · -- too much by one
      have hp := bt_pos n
      have hC1 : C * 1073741824 ^ n ≤ -1 * 1073741824 ^ n := Int.mul_le_mul_of_nonneg_right (by omega) (by omega)
      have hdq : d = q + 1 := by
        rcases hd with h2 | h2
        · rw [h2] at he; omega
        · exact h2
      have l2 : d * D = q * D + D := by rw [hdq, Int.add_mul, Int.one_mul]
      have hC2 : C = -1 := by
        by_cases h3 : C = -1
        · exact h3
        · have : C * 1073741824 ^ n ≤ -2 * 1073741824 ^ n := Int.mul_le_mul_of_nonneg_right (by omega) (by omega)
          omega
      rw [hC2] at he
      refine k_Wh_takeOut_248 _ _ _ _ _ _ _ _ ?_
      simp only [↓w_nil, ↓w_cons, ↓w_lc, ↓w_lst11, ↓w_ic, ↓w_ist13, ↓w_fall, true_and, and_true, true_implies, false_implies, not_true_eq_false, not_false_eq_true, Int.reduceEq, Int.reduceLT, Int.reduceLE, Int.reduceNeg, w_nlI, w_nlL, w_nlR]
      exact back n 0 _ _ 0 rfl hcell hcell (fun _ _ => rfl) hrest (by rw [w_up1]) hdig hdig (by omega) (by simp [mg_0]) hdq (by rw [hmgz n (Nat.le_refl _)]; omega)
    · have hp := bt_pos n
      have hC1 : 0 ≤ C * 1073741824 ^ n := Int.mul_nonneg (by omega) (by omega)
      have hdq : d = q := by
        rcases hd with h2 | h2
        · exact h2
        · have l2 : d * D = q * D + D := by rw [h2, Int.add_mul, Int.one_mul]
          omega
      subst hdq
      have hC2 : C = 0 := by
        by_cases h3 : C = 0
        · exact h3
        · have : 1 * 1073741824 ^ n ≤ C * 1073741824 ^ n := Int.mul_le_mul_of_nonneg_right (by omega) (by omega)
          omega
      rw [hC2] at he
      refine k_Wh_takeOut_245 _ _ _ _ _ _ _ _ ?_
      simp only [↓w_nil, ↓w_cons, ↓w_lld9, ↓w_lret, true_and, and_true, true_implies, false_implies, not_true_eq_false, not_false_eq_true, Int.reduceEq, Int.reduceLT, Int.reduceLE, Int.reduceNeg]
      repeat refine And.intro (by first | assumption | exact IsW.kt (by assumption) | omega | (unfold in32; omega) | (unfold in64; omega) | trivial | rfl | exact Nat.le_of_ble_eq_true rfl) ?_
      try first | done | assumption | (unfold in32; omega) | (unfold in64; omega)
      exact ⟨by rw [w_up1], hdig, by rw [hmgz n (Nat.le_refl _)]; omega⟩
  have loop : ∀ (e i : Nat) (Mi : cw_M) (carry : Int), e + i = n → (∀ c, c ≠ u + 1 → Mi c = M c) → (∀ t : Int, t < j ∨ (j : Int) + i ≤ t → Mi (u + 1) t = M (u + 1) t) → cw_dg (fun t => Mi (u + 1) (j + t)) i → -1073741823 ≤ carry ∧ carry ≤ 0 → cw_mg (fun t => Mi (u + 1) (j + t)) i + carry * 1073741824 ^ i = cw_mg (fun t => M (u + 1) (j + t)) i - d * cw_mg (cw_sd (M (b + 1)) s) i →
      mJ g y_Wh_takeOut 154 [.inr (.inr u), .inr (.inr b), .inl s, .inl j, .inl n, .inr (.inl v1), cU, .inr (.inl top), cU, .inr (.inl d), cU, .inr (.inl carry), cU, .inl i, z14, z15] [] Mi
        (fun r M' => r = some (.inr (.inl q)) ∧ (∀ c, c ≠ u + 1 → M' c = M c) ∧ (∀ t : Int, t < j ∨ (j : Int) + n < t → M' (u + 1) t = M (u + 1) t) ∧ M' (u + 1) ((j : Int) + n) = 0 ∧ cw_dg (fun t => M' (u + 1) (j + t)) n ∧ cw_mg (fun t => M' (u + 1) (j + t)) n = U - q * D) := by
    intro e
    induction e with
    | zero =>
      intro i Mi carry hi hM hk hdi hc he
      have hin : i = n := by omega
      subst hin
      refine k_Wh_takeOut_154 _ _ _ _ _ _ _ _ ?_
      simp only [↓w_nil, ↓w_cons, ↓w_ild13, ↓w_ild4, ↓w_icge, true_and, and_true, true_implies, false_implies, not_true_eq_false, not_false_eq_true, Int.reduceEq, Int.reduceLT, Int.reduceLE, Int.reduceNeg]
      repeat refine And.intro (by first | assumption | exact IsW.kt (by assumption) | omega | (unfold in32; omega) | (unfold in64; omega) | trivial | rfl | exact Nat.le_of_ble_eq_true rfl) ?_
      try first | done | assumption | (unfold in32; omega) | (unfold in64; omega)
      refine ⟨fun _ => ?_, fun h => absurd h (by omega)⟩
      refine mid Mi carry hM hk hdi hc ?_
      rw [hU, mg_s, hD, Int.add_mul]
      omega
    | succ e ih =>
      intro i Mi carry hi hM hk hdi hc he
      obtain ⟨a1, a2⟩ := keep Mi hM
      have lu := hu.limb a1
      have x1 := hud i (by omega)
      have x1' : 0 ≤ M (u + 1) ((j : Int) + i) ∧ M (u + 1) ((j : Int) + i) < 1073741824 := x1
      have x2 := vr i (by omega)
      have x3 : Mi (u + 1) ((j : Int) + i) = M (u + 1) ((j : Int) + i) := hk _ (by omega)
      have x4 := mulb hdr x2
      refine k_Wh_takeOut_154 _ _ _ _ _ _ _ _ ?_
      simp only [↓w_nil, ↓w_cons, ↓w_ild13, ↓w_ild4, ↓w_icge, true_and, and_true, true_implies, false_implies, not_true_eq_false, not_false_eq_true, Int.reduceEq, Int.reduceLT, Int.reduceLE, Int.reduceNeg]
      repeat refine And.intro (by first | assumption | exact IsW.kt (by assumption) | omega | (unfold in32; omega) | (unfold in64; omega) | trivial | rfl | exact Nat.le_of_ble_eq_true rfl) ?_
      try first | done | assumption | (unfold in32; omega) | (unfold in64; omega)
      intro _
      refine k_Wh_takeOut_161 _ _ _ _ _ _ _ _ ?_
      simp only [↓w_nil, ↓w_cons, ↓w_lld11, ↓w_ald0, ↓w_gf2_0, ↓w_ild13, ↓w_ild3, ↓w_iadd, ↓w_lald, ↓w_lld9, ↓w_ald1, ↓w_ild2, ↓w_cv2, true_and, and_true, true_implies, false_implies, not_true_eq_false, not_false_eq_true, Int.reduceEq, Int.reduceLT, Int.reduceLE, Int.reduceNeg, w_c80, w_c8I, w_c8L, w_c8R, lu, k2]
      repeat refine And.intro (by first | assumption | exact IsW.kt (by assumption) | omega | (unfold in32; omega) | (unfold in64; omega) | trivial | rfl | exact Nat.le_of_ble_eq_true rfl) ?_
      try first | done | assumption | (unfold in32; omega) | (unfold in64; omega)
      refine ⟨_, shf Mi i hM (by omega), ?_⟩
      rintro r M' ⟨rfl, rfl⟩
      rw [Int.add_comm (i : Int) (j : Int), x3]
      generalize hT : carry + (M (u + 1) ((j : Int) + i) - d * cw_sd (M (b + 1)) s i) = T
      have hTr : -1152921503533105152 ≤ T ∧ T < 1073741824 := by omega
      refine k_Wh_takeOut_181 _ _ _ _ _ _ _ _ ?_
      simp only [↓w_nil, ↓w_cons, ↓w_lmul, ↓w_lsub, ↓w_ladd, ↓w_lst11, ↓w_ald0, ↓w_gf2_0, ↓w_ild13, ↓w_ild3, ↓w_iadd, ↓w_lld11, ↓w_lc, ↓w_land, ↓w_last, ↓w_ic, ↓w_lshr, ↓w_inc13, ↓w_goto, true_and, and_true, true_implies, false_implies, not_true_eq_false, not_false_eq_true, Int.reduceEq, Int.reduceLT, Int.reduceLE, Int.reduceNeg, w_nlI, w_nlL, w_nlR, w_tl1, lu, k2, and30, p30, hT]
      rw [Int.add_comm (i : Int) (j : Int)]
      repeat refine And.intro (by first | assumption | exact IsW.kt (by assumption) | omega | (unfold in32; omega) | (unfold in64; omega) | trivial | rfl | exact Nat.le_of_ble_eq_true rfl) ?_
      try first | done | assumption | (unfold in32; omega) | (unfold in64; omega)
      refine ih (i + 1) _ (T / 1073741824) (by omega) (fun c hc => by rw [cw_up_ne hc]; exact hM c hc) (fun t ht => by rw [w_up2 (by omega)]; exact hk t (by omega)) ?_ (by omega) ?_
      · intro t ht
        show 0 ≤ cw_up M' (u + 1) ((j : Int) + i) (T % 1073741824) (u + 1) ((j : Int) + t) ∧ cw_up M' (u + 1) ((j : Int) + i) (T % 1073741824) (u + 1) ((j : Int) + t) < _
        by_cases h : t = i
        · subst h; rw [w_up1]; omega
        · rw [w_up2 (by omega)]; exact hdi t (by omega)
      · rw [mg_s, mg_s, mg_s, mg_cg (h := fun t => M' (u + 1) ((j : Int) + t)) i (fun t ht => w_up2 (by omega))]
        rw [w_up1]
        have e := bt_s i
        rw [e]
        generalize (1073741824 : Int) ^ i = p at *
        have e1 : T * p = (T % 1073741824) * p + T / 1073741824 * (p * 1073741824) := by
          have : T = T % 1073741824 + T / 1073741824 * 1073741824 := by omega
          calc T * p = (T % 1073741824 + T / 1073741824 * 1073741824) * p := by rw [← this]
            _ = _ := by rw [Int.add_mul, Int.mul_assoc, Int.mul_comm 1073741824 p]
        have e2 : T * p = carry * p + M (u + 1) ((j : Int) + i) * p - d * cw_sd (M (b + 1)) s i * p := by rw [← hT, Int.add_mul, Int.sub_mul]; omega
        have e3 : d * (cw_sd (M (b + 1)) s i * p) = d * cw_sd (M (b + 1)) s i * p := (Int.mul_assoc _ _ _).symm
        rw [Int.mul_add]
        omega
  refine k_Wh_takeOut_148 _ _ _ _ _ _ _ _ ?_
  simp only [↓w_nil, ↓w_cons, ↓w_lc, ↓w_lst11, ↓w_ic, ↓w_ist13, ↓w_fall, true_and, and_true, true_implies, false_implies, not_true_eq_false, not_false_eq_true, Int.reduceEq, Int.reduceLT, Int.reduceLE, Int.reduceNeg, w_nlI, w_nlL, w_nlR]
  exact loop n 0 M 0 rfl (fun _ _ => rfl) (fun _ _ => rfl) (fun t ht => by omega) (by omega) (by simp [mg_0])
theorem p_Wh_takeOut {g : cw_G} {M : cw_M} {u b U D : Int} {n s j : Nat} (hS : Sh M) (hu : IsW u) (hb : IsW b) (hub : u ≠ b) (hs : s < 30) (hn : 1 ≤ n) (hjn : j + n ≤ 15) (hbn : M b 1 = n)
    (hbd : cw_dg (M (b + 1)) n) (hud : cw_dg (fun t => M (u + 1) (j + t)) (n + 1)) (hU : U = cw_mg (fun t => M (u + 1) (j + t)) (n + 1)) (hD : D = cw_mg (cw_sd (M (b + 1)) s) n)
    (hv1 : 536870912 ≤ cw_sd (M (b + 1)) s ((n : Int) - 1)) (hUD : U < D * 1073741824) :
    mC g y_Wh_takeOut [.inr (.inr u), .inr (.inr b), .inl s, .inl j] M (fun r M' => ∃ q : Int, r = some (.inr (.inl q)) ∧ (0 ≤ q ∧ q < 1073741824) ∧ (q * D ≤ U ∧ U < (q + 1) * D) ∧ (∀ c, c ≠ u + 1 → M' c = M c) ∧ (∀ t : Int, t < j ∨ (j : Int) + n < t → M' (u + 1) t = M (u + 1) t) ∧ M' (u + 1) ((j : Int) + n) = 0 ∧ cw_dg (fun t => M' (u + 1) (j + t)) n ∧ cw_mg (fun t => M' (u + 1) (j + t)) n = U - q * D) := by
  obtain ⟨k1, k2, k3, k4⟩ := id hu
  obtain ⟨q1, q2, q3, q4⟩ := id hb
  have lu := hu.limb hS
  have p30 : (2 : Int) ^ (30 : Int).toNat = 1073741824 := by decide
  have vr : ∀ i : Nat, i < n → 0 ≤ cw_sd (M (b + 1)) s i ∧ cw_sd (M (b + 1)) s i < 1073741824 := fun i hi => sd_rg (by omega) hbd i hi
  obtain ⟨n', rfl⟩ : ∃ n', n = n' + 1 := ⟨n - 1, by omega⟩
  rw [show ((n' + 1 : Nat) : Int) - 1 = (n' : Int) by omega] at hv1
  have vn := vr n' (by omega)
  generalize hv : cw_sd (M (b + 1)) s n' = v1 at hv1 vn
  have ul := mg_lt (n' + 2) hud
  have u1 := hud (n' + 1) (by omega)
  have u2 := hud n' (by omega)
  have u1' : 0 ≤ M (u + 1) ((j : Int) + ((n' + 1 : Nat) : Int)) ∧ M (u + 1) ((j : Int) + ((n' + 1 : Nat) : Int)) < 1073741824 := u1
  have u2' : 0 ≤ M (u + 1) ((j : Int) + n') ∧ M (u + 1) ((j : Int) + n') < 1073741824 := u2
  generalize htop : M (u + 1) ((j : Int) + ((n' + 1 : Nat) : Int)) * 1073741824 + M (u + 1) ((j : Int) + n') = top
  -- both numbers by their highest limbs
  have P1 := bt_pos n'
  have Ve : D = v1 * 1073741824 ^ n' + cw_mg (cw_sd (M (b + 1)) s) n' := by rw [hD, mg_s, hv]; omega
  have Vl := mg_lt n' (fun i hi => vr i (by omega))
  have Ue : U = top * 1073741824 ^ n' + cw_mg (fun t => M (u + 1) (j + t)) n' := by
    rw [hU, mg_s, mg_s, bt_s, ← htop, Int.add_mul]
    have : M (u + 1) ((j : Int) + ((n' + 1 : Nat) : Int)) * (1073741824 ^ n' * 1073741824) = M (u + 1) ((j : Int) + ((n' + 1 : Nat) : Int)) * 1073741824 * 1073741824 ^ n' := by ac_rfl
    omega
  have Ul := mg_lt n' (dg_le hud (show n' ≤ n' + 1 + 1 by omega))
  have D0 : 0 < D := by
    have : 1 * 1073741824 ^ n' ≤ v1 * 1073741824 ^ n' := Int.mul_le_mul_of_nonneg_right (by omega) (by omega)
    omega
  have U0 : 0 ≤ U := by rw [hU]; exact ul.1
  -- the quotient
  have hq1 : U / D * D ≤ U := Int.ediv_mul_le U (by omega)
  have hq2 : U < (U / D + 1) * D := Int.lt_ediv_add_one_mul_self U D0
  have hq0 : 0 ≤ U / D := Int.ediv_nonneg U0 (by omega)
  have hq3 : U / D < 1073741824 := Int.ediv_lt_of_lt_mul D0 (by rw [Int.mul_comm]; exact hUD)
  generalize U / D = q at *
  have top0 : 0 ≤ top := by omega
  have topr : top < 1152921504606846976 := by omega
  have tv : 0 ≤ top / v1 := Int.ediv_nonneg top0 (by omega)
  have d0 : min 1073741823 (top.tdiv v1) * v1 ≤ top ∧ 0 ≤ min 1073741823 (top.tdiv v1) ∧ min 1073741823 (top.tdiv v1) < 1073741824 ∧ q ≤ min 1073741823 (top.tdiv v1) := by
    rw [Int.tdiv_eq_ediv_of_nonneg top0]
    have e1 : top / v1 * v1 ≤ top := Int.ediv_mul_le top (by omega)
    have e2 := kn_0 Ve Ue P1 Vl.1 Ul.2 hq1 hq0
    have e3 : q ≤ top / v1 := (Int.le_ediv_iff_mul_le (by omega)).mpr e2
    refine ⟨?_, by omega, by omega, by omega⟩
    by_cases h : top / v1 ≤ 1073741823
    · rw [show min 1073741823 (top / v1) = top / v1 by omega]; exact e1
    · have : 1073741823 * v1 ≤ top / v1 * v1 := Int.mul_le_mul_of_nonneg_right (by omega) (by omega)
      rw [show min 1073741823 (top / v1) = 1073741823 by omega]; omega
  have d32 : in64 (top.tdiv v1) := by rw [Int.tdiv_eq_ediv_of_nonneg top0]; have := Int.ediv_le_self v1 top0; unfold in64; omega
  generalize hdg : min 1073741823 (top.tdiv v1) = dg0 at d0
  have d2 := kn_C Ve Ue P1 ⟨Vl.1, Vl.2⟩ Ul.1 hv1 ⟨d0.2.1, d0.1⟩ hq2 ⟨hq0, hq3⟩
  have fin : ∀ (d : Int) (z11 z12 z13 z14 z15 : cw_V), d = q ∨ d = q + 1 → 0 ≤ d ∧ d < 1073741824 →
      mJ g y_Wh_takeOut 148 [.inr (.inr u), .inr (.inr b), .inl s, .inl j, .inl ((n' + 1 : Nat) : Int), .inr (.inl v1), cU, .inr (.inl top), cU, .inr (.inl d), cU, z11, z12, z13, z14, z15] [] M (fun r M' => ∃ q : Int, r = some (.inr (.inl q)) ∧ (0 ≤ q ∧ q < 1073741824) ∧ (q * D ≤ U ∧ U < (q + 1) * D) ∧ (∀ c, c ≠ u + 1 → M' c = M c) ∧ (∀ t : Int, t < j ∨ (j : Int) + ((n' + 1 : Nat) : Int) < t → M' (u + 1) t = M (u + 1) t) ∧ M' (u + 1) ((j : Int) + ((n' + 1 : Nat) : Int)) = 0 ∧ cw_dg (fun t => M' (u + 1) (j + t)) (n' + 1) ∧ cw_mg (fun t => M' (u + 1) (j + t)) (n' + 1) = U - q * D) := by
    intro d z11 z12 z13 z14 z15 h1 h2
    have := l_take148 (g := g) (v1 := v1) (top := top) (z11 := z11) (z12 := z12) (z13 := z13) (z14 := z14) (z15 := z15) hS hu hb hub hs hn hjn hbd hud hU hD D0 ⟨hq1, hq2⟩ h1 h2
    exact cw_J_mono this fun r M' h => ⟨q, h.1, ⟨hq0, hq3⟩, ⟨hq1, hq2⟩, h.2⟩
  refine cw_C_of (L := [.inr (.inr u), .inr (.inr b), .inl s, .inl j, cU, cU, cU, cU, cU, cU, cU, cU, cU, cU, cU, cU]) ok_Wh_takeOut (Nat.le_refl _) (Nat.le_of_ble_eq_true rfl) rfl ?_
  refine k_Wh_takeOut_0 _ _ _ _ _ _ _ _ ?_
  simp only [↓w_nil, ↓w_cons, ↓w_ald1, ↓w_gf0_1, ↓w_ist4, ↓w_ild4, ↓w_ic, ↓w_isub, ↓w_ild2, ↓w_cv2, true_and, and_true, true_implies, false_implies, not_true_eq_false, not_false_eq_true, Int.reduceEq, Int.reduceLT, Int.reduceLE, Int.reduceNeg, w_nlI, w_nlL, w_nlR, w_c80, w_c8I, w_c8L, w_c8R, hbn]
  repeat refine And.intro (by first | assumption | exact IsW.kt (by assumption) | omega | (unfold in32; omega) | (unfold in64; omega) | trivial | rfl | exact Nat.le_of_ble_eq_true rfl) ?_
  try first | done | assumption | (unfold in32; omega) | (unfold in64; omega)
  rw [show ((n' + 1 : Nat) : Int) - 1 = (n' : Int) by omega]
  refine ⟨_, p_Wh_shifted hS hb hs (by omega) (hbd n' (by omega)) (fun h => by have := hbd (n' - 1) (by omega); rw [show ((n' - 1 : Nat) : Int) = (n' : Int) - 1 by omega] at this; exact this), ?_⟩
  rintro r M' ⟨rfl, rfl⟩
  rw [hv]
  refine k_Wh_takeOut_15 _ _ _ _ _ _ _ _ ?_
  simp only [↓w_nil, ↓w_cons, ↓w_lst5, ↓w_lld5, ↓w_lc, ↓w_lcne, true_and, and_true, true_implies, false_implies, not_true_eq_false, not_false_eq_true, Int.reduceEq, Int.reduceLT, Int.reduceLE, Int.reduceNeg, w_nlI, w_nlL, w_nlR, w_tl1]
  repeat refine And.intro (by first | assumption | exact IsW.kt (by assumption) | omega | (unfold in32; omega) | (unfold in64; omega) | trivial | rfl | exact Nat.le_of_ble_eq_true rfl) ?_
  try first | done | assumption | (unfold in32; omega) | (unfold in64; omega)
  refine ⟨fun _ => ?_, fun h => absurd h (by omega)⟩
  have ej : (j : Int) + ((n' + 1 : Nat) : Int) - 1 = (j : Int) + n' := by omega
  refine k_Wh_takeOut_26 _ _ _ _ _ _ _ _ ?_
  simp only [↓w_nil, ↓w_cons, ↓w_ald0, ↓w_gf2_0, ↓w_ild3, ↓w_ild4, ↓w_iadd, ↓w_lald, ↓w_ic, ↓w_lshl, ↓w_isub, ↓w_ladd, ↓w_lst7, ↓w_lc, ↓w_lld7, ↓w_lld5, ↓w_ldiv, ↓w_minJ, ↓w_lst9, ↓w_icle, true_and, and_true, true_implies, false_implies, not_true_eq_false, not_false_eq_true, Int.reduceEq, Int.reduceLT, Int.reduceLE, Int.reduceNeg, w_nlI, w_nlL, w_nlR, w_c80, w_c8I, w_c8L, w_c8R, lu, k2, p30, ej, htop, hdg]
  repeat refine And.intro (by first | assumption | exact IsW.kt (by assumption) | omega | (unfold in32; omega) | (unfold in64; omega) | trivial | rfl | exact Nat.le_of_ble_eq_true rfl) ?_
  try first | done | assumption | (unfold in32; omega) | (unfold in64; omega)
  refine ⟨fun h => ?_, fun h => ?_⟩
  · -- one limb: the guess is the quotient
    have n0 : n' = 0 := by omega
    subst n0
    refine fin _ _ _ _ _ _ (Or.inl ?_) ⟨d0.2.1, d0.2.2.1⟩
    have e1 : D = v1 := by rw [Ve]; simp [mg_0]
    have e2 : U = top := by rw [Ue]; simp [mg_0]
    rw [e1, e2] at hq2
    have := mul_cancel (a := dg0) (b := q) (V := v1) (by omega) (by omega)
    omega
  · obtain ⟨m, rfl⟩ : ∃ m, n' = m + 1 := ⟨n' - 1, by omega⟩
    have vm := vr m (by omega)
    have um := hud m (by omega)
    have um' : 0 ≤ M' (u + 1) ((j : Int) + m) ∧ M' (u + 1) ((j : Int) + m) < 1073741824 := um
    refine k_Wh_takeOut_71 _ _ _ _ _ _ _ _ ?_
    simp only [↓w_nil, ↓w_cons, ↓w_ald1, ↓w_ild4, ↓w_ic, ↓w_isub, ↓w_ild2, ↓w_cv2, true_and, and_true, true_implies, false_implies, not_true_eq_false, not_false_eq_true, Int.reduceEq, Int.reduceLT, Int.reduceLE, Int.reduceNeg, w_c80, w_c8I, w_c8L, w_c8R]
    repeat refine And.intro (by first | assumption | exact IsW.kt (by assumption) | omega | (unfold in32; omega) | (unfold in64; omega) | trivial | rfl | exact Nat.le_of_ble_eq_true rfl) ?_
    try first | done | assumption | (unfold in32; omega) | (unfold in64; omega)
    rw [show ((m + 1 + 1 : Nat) : Int) - 2 = (m : Int) by omega]
    refine ⟨_, p_Wh_shifted hS hb hs (by omega) (hbd m (by omega)) (fun h => by have := hbd (m - 1) (by omega); rw [show ((m - 1 : Nat) : Int) = (m : Int) - 1 by omega] at this; exact this), ?_⟩
    rintro r M ⟨rfl, rfl⟩
    generalize hv2 : cw_sd (M (b + 1)) s m = v2 at vm
    generalize hu2 : M (u + 1) ((j : Int) + m) = u2 at um'
    have Pm := bt_pos m
    have Vm := mg_lt m (fun i hi => vr i (by omega))
    have Um := mg_lt m (dg_le hud (show m ≤ m + 1 + 1 + 1 by omega))
    have Ve2 : D = (v1 * 1073741824 + v2) * 1073741824 ^ m + cw_mg (cw_sd (M (b + 1)) s) m := by
      rw [Ve, mg_s, bt_s, hv2, Int.add_mul]
      have : v1 * (1073741824 ^ m * 1073741824) = v1 * 1073741824 * 1073741824 ^ m := by ac_rfl
      omega
    have Ue2 : U = (top * 1073741824 + u2) * 1073741824 ^ m + cw_mg (fun t => M (u + 1) (j + t)) m := by
      rw [Ue, mg_s, bt_s, hu2, Int.add_mul]
      have : top * (1073741824 ^ m * 1073741824) = top * 1073741824 * 1073741824 ^ m := by ac_rfl
      omega
    have loop : ∀ (e k : Nat) (d : Int) (z14 z15 : cw_V), e + k = 3 → q ≤ d ∧ d ≤ dg0 → (d * (v1 * 1073741824 + v2) ≤ top * 1073741824 + u2 ∨ d ≤ q + 2 - k) →
        mJ g y_Wh_takeOut 85 [.inr (.inr u), .inr (.inr b), .inl s, .inl j, .inl ((m + 1 + 1 : Nat) : Int), .inr (.inl v1), cU, .inr (.inl top), cU, .inr (.inl d), cU, .inr (.inl v2), cU, .inl k, z14, z15] [] M (fun r M' => ∃ q : Int, r = some (.inr (.inl q)) ∧ (0 ≤ q ∧ q < 1073741824) ∧ (q * D ≤ U ∧ U < (q + 1) * D) ∧ (∀ c, c ≠ u + 1 → M' c = M c) ∧ (∀ t : Int, t < j ∨ (j : Int) + ((m + 1 + 1 : Nat) : Int) < t → M' (u + 1) t = M (u + 1) t) ∧ M' (u + 1) ((j : Int) + ((m + 1 + 1 : Nat) : Int)) = 0 ∧ cw_dg (fun t => M' (u + 1) (j + t)) (m + 1 + 1) ∧ cw_mg (fun t => M' (u + 1) (j + t)) (m + 1 + 1) = U - q * D) := by
      intro e
      induction e with
      | zero =>
        intro k d z14 z15 hk hd hT
        have k3 : k = 3 := by omega
        subst k3
        refine k_Wh_takeOut_85 _ _ _ _ _ _ _ _ ?_
        simp only [↓w_nil, ↓w_cons, ↓w_ild13, ↓w_ic, ↓w_icge, true_and, and_true, true_implies, false_implies, not_true_eq_false, not_false_eq_true, Int.reduceEq, Int.reduceLT, Int.reduceLE, Int.reduceNeg]
        repeat refine And.intro (by first | assumption | exact IsW.kt (by assumption) | omega | (unfold in32; omega) | (unfold in64; omega) | trivial | rfl | exact Nat.le_of_ble_eq_true rfl) ?_
        try first | done | assumption | (unfold in32; omega) | (unfold in64; omega)
        refine ⟨fun _ => ?_, fun h => absurd h (by omega)⟩
        have hdr : 0 ≤ d ∧ d < 1073741824 := by have := d0.2.2.1; have := d0.2.1; have := hd.1; have := hd.2; constructor <;> omega
        refine fin _ _ _ _ _ _ ?_ hdr
        rcases hT with hT | hT
        · have e1 := kn_B Ve2 Ue2 Pm Vm Um.1 ⟨by omega, by omega⟩ (by omega) hT
          have e2 : (q + 1 + 1) * D = (q + 1) * D + D := by rw [Int.add_mul (q + 1), Int.one_mul]
          have e3 := mul_cancel (a := d) (b := q + 1) D0 (by omega)
          omega
        · omega
      | succ e ih =>
        intro k d z14 z15 hk hd hT
        have dv : d * v1 ≤ top := by
          have : d * v1 ≤ dg0 * v1 := Int.mul_le_mul_of_nonneg_right hd.2 (by omega)
          omega
        have dv0 : 0 ≤ d * v1 := Int.mul_nonneg (by omega) (by omega)
        have d2' := mulb (x := d) (y := v2) ⟨by omega, by omega⟩ vm
        have ek : (k : Int) + 1 = ((k + 1 : Nat) : Int) := by omega
        have eX : d * (v1 * 1073741824 + v2) = d * v1 * 1073741824 + d * v2 := by rw [Int.mul_add, Int.mul_assoc]
        have e3 : (j : Int) + ((m + 1 + 1 : Nat) : Int) - 2 = (j : Int) + m := by omega
        refine k_Wh_takeOut_85 _ _ _ _ _ _ _ _ ?_
        simp only [↓w_nil, ↓w_cons, ↓w_ild13, ↓w_ic, ↓w_icge, true_and, and_true, true_implies, false_implies, not_true_eq_false, not_false_eq_true, Int.reduceEq, Int.reduceLT, Int.reduceLE, Int.reduceNeg]
        repeat refine And.intro (by first | assumption | exact IsW.kt (by assumption) | omega | (unfold in32; omega) | (unfold in64; omega) | trivial | rfl | exact Nat.le_of_ble_eq_true rfl) ?_
        try first | done | assumption | (unfold in32; omega) | (unfold in64; omega)
        intro _
        refine k_Wh_takeOut_91 _ _ _ _ _ _ _ _ ?_
        simp only [↓w_nil, ↓w_cons, ↓w_lld7, ↓w_lld9, ↓w_lld5, ↓w_lmul, ↓w_lsub, ↓w_lst14, ↓w_lld14, ↓w_lc, ↓w_lcge, true_and, and_true, true_implies, false_implies, not_true_eq_false, not_false_eq_true, Int.reduceEq, Int.reduceLT, Int.reduceLE, Int.reduceNeg, w_nlI, w_nlL, w_nlR]
        repeat refine And.intro (by first | assumption | exact IsW.kt (by assumption) | omega | (unfold in32; omega) | (unfold in64; omega) | trivial | rfl | exact Nat.le_of_ble_eq_true rfl) ?_
        try first | done | assumption | (unfold in32; omega) | (unfold in64; omega)
        refine ⟨fun h => ?_, fun h => ?_⟩
        · refine k_Wh_takeOut_142 _ _ _ _ _ _ _ _ ?_
          simp only [↓w_nil, ↓w_cons, ↓w_inc13, ↓w_goto, true_and, and_true, true_implies, false_implies, not_true_eq_false, not_false_eq_true, Int.reduceEq, Int.reduceLT, Int.reduceLE, Int.reduceNeg, w_nlI, w_nlL, w_nlR, ek]
          exact ih (k + 1) d _ _ (by omega) hd (Or.inl (by rw [eX]; omega))
        · refine k_Wh_takeOut_110 _ _ _ _ _ _ _ _ ?_
          simp only [↓w_nil, ↓w_cons, ↓w_lld9, ↓w_lld11, ↓w_lmul, ↓w_lld14, ↓w_ic, ↓w_lshl, ↓w_ald0, ↓w_gf2_0, ↓w_ild3, ↓w_ild4, ↓w_iadd, ↓w_isub, ↓w_lald, ↓w_ladd, ↓w_lcle, true_and, and_true, true_implies, false_implies, not_true_eq_false, not_false_eq_true, Int.reduceEq, Int.reduceLT, Int.reduceLE, Int.reduceNeg, lu, k2, p30, e3, hu2]
          repeat refine And.intro (by first | assumption | exact IsW.kt (by assumption) | omega | (unfold in32; omega) | (unfold in64; omega) | trivial | rfl | exact Nat.le_of_ble_eq_true rfl) ?_
          try first | done | assumption | (unfold in32; omega) | (unfold in64; omega)
          refine ⟨fun h2 => ?_, fun h2 => ?_⟩
          · refine k_Wh_takeOut_142 _ _ _ _ _ _ _ _ ?_
            simp only [↓w_nil, ↓w_cons, ↓w_inc13, ↓w_goto, true_and, and_true, true_implies, false_implies, not_true_eq_false, not_false_eq_true, Int.reduceEq, Int.reduceLT, Int.reduceLE, Int.reduceNeg, w_nlI, w_nlL, w_nlR, ek]
            exact ih (k + 1) d _ _ (by omega) hd (Or.inl (by rw [eX]; omega))
          · have nT : top * 1073741824 + u2 < d * (v1 * 1073741824 + v2) := by rw [eX]; omega
            have e4 := kn_A Ve2 Ue2 (by omega) Vm.1 Um.2 (by omega) nT
            have e5 : q + 1 ≤ d := by
              by_cases h3 : q + 1 ≤ d
              · exact h3
              · have : d * D ≤ q * D := Int.mul_le_mul_of_nonneg_right (by omega) (by omega)
                omega
            refine k_Wh_takeOut_136 _ _ _ _ _ _ _ _ ?_
            simp only [↓w_nil, ↓w_cons, ↓w_lld9, ↓w_lc, ↓w_lsub, ↓w_lst9, ↓w_fall, true_and, and_true, true_implies, false_implies, not_true_eq_false, not_false_eq_true, Int.reduceEq, Int.reduceLT, Int.reduceLE, Int.reduceNeg, w_nlI, w_nlL, w_nlR]
            refine k_Wh_takeOut_142 _ _ _ _ _ _ _ _ ?_
            simp only [↓w_nil, ↓w_cons, ↓w_inc13, ↓w_goto, true_and, and_true, true_implies, false_implies, not_true_eq_false, not_false_eq_true, Int.reduceEq, Int.reduceLT, Int.reduceLE, Int.reduceNeg, w_nlI, w_nlL, w_nlR, ek]
            exact ih (k + 1) (d - 1) _ _ (by omega) (by omega) (Or.inr (by omega))
    refine k_Wh_takeOut_80 _ _ _ _ _ _ _ _ ?_
    simp only [↓w_nil, ↓w_cons, ↓w_lst11, ↓w_ic, ↓w_ist13, ↓w_fall, true_and, and_true, true_implies, false_implies, not_true_eq_false, not_false_eq_true, Int.reduceEq, Int.reduceLT, Int.reduceLE, Int.reduceNeg, w_nlI, w_nlL, w_nlR, w_tl1]
    exact loop 3 0 dg0 _ _ rfl ⟨d0.2.2.2, Int.le_refl _⟩ (Or.inr (by omega))
