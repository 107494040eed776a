/-! Whole.times and Whole.product -/
theorem mulb {x y : Int} (hx : 0 ≤ x ∧ x < 1073741824) (hy : 0 ≤ y ∧ y < 1073741824) : 0 ≤ x * y ∧ x * y ≤ 1152921502459363329 := by
  refine ⟨Int.mul_nonneg hx.1 hy.1, ?_⟩
  have h1 : x * y ≤ 1073741823 * y := Int.mul_le_mul_of_nonneg_right (by omega) hy.1
  omega
theorem bt_add (i j : Nat) : (1073741824 : Int) ^ (i + j) = 1073741824 ^ i * 1073741824 ^ j := Int.pow_add _ _ _
theorem mul_lt2 {x y a b : Int} (h0 : 0 ≤ x) (h1 : x < a) (h2 : 0 ≤ y) (h3 : y < b) : x * y < a * b := by
  have e1 : x * y ≤ x * b := Int.mul_le_mul_of_nonneg_left (by omega) h0
  have e2 : x * b < a * b := Int.mul_lt_mul_of_pos_right h1 (by omega)
  omega
theorem p_Wh_times {g : cw_G} {M : cw_M} {w a va m : Int} (hS : Sh M) (hw : IsW w) (ha : IsW a) (hva : RW M a va) (h14 : cw_ab va < 1073741824 ^ 14) (hm : cw_ab m < 1152921504606846976) :
    mC g y_Wh_times [.inr (.inr w), .inr (.inr a), .inr (.inl m)] M (fun r M' => r = none ∧ RW M' w (va * m) ∧ cw_fr (Aw w) M M') := by
  obtain ⟨k1, k2, k3, k4⟩ := id hw
  obtain ⟨p1, p2, p3, p4⟩ := id ha
  obtain ⟨n, a1, a2, a3, a4, a5, a6⟩ := hva
  have hn : n ≤ 14 := RW.nle a3 a4 a5 h14
  have p30 : (2 : Int) ^ (30 : Int).toNat = 1073741824 := by decide
  have hm0 := ab_nn m
  have hm64 : in64 m := by unfold in64; rcases sg_ab m with ⟨q, -, e⟩ | ⟨q, -, e⟩ | ⟨q, -, e⟩ <;> omega
  have ra : -1 ≤ cw_sg va ∧ cw_sg va ≤ 1 := by unfold cw_sg; split <;> (try split) <;> omega
  have rl : 0 ≤ cw_ab m % 1073741824 ∧ cw_ab m % 1073741824 < 1073741824 := by omega
  have rh : 0 ≤ cw_ab m / 1073741824 ∧ cw_ab m / 1073741824 < 1073741824 := by omega
  have hlh : cw_ab m = cw_ab m % 1073741824 + cw_ab m / 1073741824 * 1073741824 := by omega
  generalize hlow : cw_ab m % 1073741824 = low at rl hlh
  generalize hhigh : cw_ab m / 1073741824 = high at rh hlh
  have loop : ∀ (its : Int), (va * m ≠ 0 → its = cw_sg (va * m)) → ∀ (d i : Nat) (Mi : cw_M) (carry before : Int) (hv hv2 : cw_V), d + i = n + 2 → (∀ c j, (c ≠ w + 1 ∨ (i : Int) ≤ j) → Mi c j = M c j) → cw_dg (Mi (w + 1)) i → 0 ≤ carry ∧ carry < 2147483648 → 0 ≤ before ∧ before < 1073741824 → (n + 1 ≤ i → before = 0) →
      cw_mg (Mi (w + 1)) i + (carry + before * high) * 1073741824 ^ i = cw_ab m * cw_mg (cw_zx (M (a + 1)) n) i →
      mJ g y_Wh_times 67 [.inr (.inr w), .inr (.inr a), .inr (.inl m), cU, .inr (.inl (cw_ab m)), cU, .inr (.inl low), cU, .inr (.inl high), cU, .inl its, .inl n, .inl ((n + 2 : Nat) : Int), .inr (.inl carry), cU, .inr (.inl before), cU, .inl i, hv, hv2] [] Mi (fun r M' => r = none ∧ RW M' w (va * m) ∧ cw_fr (Aw w) M M') := by
    intro its hits d
    induction d with
    | zero =>
      intro i Mi carry before hv hv2 hi hI hd hc hb hb0 he
      have hfr := fr_of hw hI
      have hin : i = n + 2 := by omega
      subst hin
      have b0 := hb0 (by omega)
      subst b0
      refine k_Wh_times_67 _ _ _ _ _ _ _ _ ?_
      simp only [↓w_nil, ↓w_cons, ↓w_ild17, ↓w_ild12, ↓w_icge, true_and, and_true, true_implies, false_implies, not_true_eq_false, not_false_eq_true, Int.reduceEq, Int.reduceLT, Int.reduceLE, Int.reduceNeg]
      repeat refine And.intro (by first | assumption | exact IsW.kt (by assumption) | omega | (unfold in32; omega) | (unfold in64; omega) | trivial | rfl | exact Nat.le_of_ble_eq_true rfl) ?_
      try first | done | assumption | (unfold in32; omega) | (unfold in64; omega)
      refine ⟨fun _ => ?_, fun h => absurd h (by omega)⟩
      refine k_Wh_times_140 _ _ _ _ _ _ _ _ ?_
      simp only [↓w_nil, ↓w_cons, ↓w_ald0, ↓w_ild12, ↓w_ild10, ↓w_cv2, true_and, and_true, true_implies, false_implies, not_true_eq_false, not_false_eq_true, Int.reduceEq, Int.reduceLT, Int.reduceLE, Int.reduceNeg, w_c80, w_c8I, w_c8L, w_c8R]
      repeat refine And.intro (by first | assumption | exact IsW.kt (by assumption) | omega | (unfold in32; omega) | (unfold in64; omega) | trivial | rfl | exact Nat.le_of_ble_eq_true rfl) ?_
      try first | done | assumption | (unfold in32; omega) | (unfold in64; omega)
      rw [zx_mg (show n ≤ n + 2 by omega), a5] at he
      have l1 := mg_lt (n + 2) hd
      have l2 := RW.lt a3 a5
      have l6 := ab_nn va
      have l7 : cw_ab m * cw_ab va < 1152921504606846976 * 1073741824 ^ n := mul_lt2 hm0 hm l6 l2
      have l8 : (1073741824 : Int) ^ (n + 2) = 1152921504606846976 * 1073741824 ^ n := by
        rw [bt_add, Int.mul_comm]; rfl
      have l9 : carry = 0 := by
        by_cases q : carry = 0
        · exact q
        · have : 1 * 1073741824 ^ (n + 2) ≤ carry * 1073741824 ^ (n + 2) := Int.mul_le_mul_of_nonneg_right (by omega) (by have := bt_pos (n + 2); omega)
          rw [Int.add_mul] at he
          omega
      subst l9
      refine ⟨_, p_Wh_finish' (n := n + 2) (v := va * m) (hS.fr hfr) hw (by omega) hd (by rw [ab_mul, Int.mul_comm]; omega) hits, ?_⟩
      rintro r M' ⟨rfl, h1, h2⟩
      refine k_Wh_times_148 _ _ _ _ _ _ _ _ ?_
      simp only [↓w_nil, ↓w_vret, true_and, and_true, true_implies, false_implies, not_true_eq_false, not_false_eq_true, Int.reduceEq, Int.reduceLT, Int.reduceLE, Int.reduceNeg, w_tl0]
      exact ⟨h1, fr_tr (fr_mo hfr fun a h => Or.inr h) (fr_mo h2 fun a h => Or.inl h)⟩
    | succ d ih =>
      intro i Mi carry before hv hv2 hi hI hd hc hb hb0 he
      have hfr := fr_of hw hI
      have hSi := hS.fr hfr
      have la := ha.limb hSi
      have lw := hw.limb hSi
      have zf := zx_rg a3 i
      have st : ∀ c : Int, c = cw_zx (M (a + 1)) n i →
          mJ g y_Wh_times 92 [.inr (.inr w), .inr (.inr a), .inr (.inl m), cU, .inr (.inl (cw_ab m)), cU, .inr (.inl low), cU, .inr (.inl high), cU, .inl its, .inl n, .inl ((n + 2 : Nat) : Int), .inr (.inl carry), cU, .inr (.inl before), cU, .inl i, hv, hv2] [.inr (.inl c)] Mi (fun r M' => r = none ∧ RW M' w (va * m) ∧ cw_fr (Aw w) M M') := by
        intro c hcc
        have m1 := mulb (x := c) (y := low) (by rw [hcc]; exact zf) rl
        have m2 := mulb hb rh
        generalize hT : carry + (c * low + before * high) = T
        have hTr : 0 ≤ T ∧ T ≤ 2305843009213693951 := by omega
        refine k_Wh_times_92 _ _ _ _ _ _ _ _ ?_
        simp only [↓w_nil, ↓w_cons, ↓w_lst18, ↓w_lld13, ↓w_lld18, ↓w_lld6, ↓w_lmul, ↓w_lld15, ↓w_lld8, ↓w_ladd, ↓w_lst13, ↓w_ald0, ↓w_gf2_0, ↓w_ild17, ↓w_lc, ↓w_land, ↓w_last, ↓w_ic, ↓w_lushr, ↓w_lst15, ↓w_inc17, ↓w_goto, true_and, and_true, true_implies, false_implies, not_true_eq_false, not_false_eq_true, Int.reduceEq, Int.reduceLT, Int.reduceLE, Int.reduceNeg, w_nlI, w_nlL, w_nlR, lw, k2, and30, p30, hT]
        repeat refine And.intro (by first | assumption | exact IsW.kt (by assumption) | omega | (unfold in32; omega) | (unfold in64; omega) | trivial | rfl | exact Nat.le_of_ble_eq_true rfl) ?_
        try first | done | assumption | (unfold in32; omega) | (unfold in64; omega)
        refine ih (i + 1) _ (T / 1073741824) c _ _ (by omega) ?_ ?_ (by omega) (by rw [hcc]; exact zf) (fun h => by rw [hcc]; exact if_neg (by omega)) ?_
        · intro x j hj
          by_cases hx : x = w + 1
          · subst hx
            rw [w_up2 (by omega)]
            exact hI _ _ (Or.inr (by omega))
          · rw [w_up3 hx]
            exact hI _ _ (Or.inl hx)
        · intro j hj
          by_cases q : j = i
          · subst q
            rw [w_up1]; omega
          · rw [w_up2 (by omega)]
            exact hd j (by omega)
        · rw [mg_s, mg_s, w_up1, ← hcc]
          rw [mg_cg (h := Mi (w + 1)) i (fun j hj => w_up2 (by omega))]
          have e := bt_s i
          rw [e]
          generalize (1073741824 : Int) ^ i = p at *
          have e1 : T * p = (T % 1073741824) * p + T / 1073741824 * (p * 1073741824) := by
            have : T = T % 1073741824 + T / 1073741824 * 1073741824 := by omega
            calc T * p = (T % 1073741824 + T / 1073741824 * 1073741824) * p := by rw [← this]
              _ = _ := by rw [Int.add_mul, Int.mul_assoc, Int.mul_comm 1073741824 p]
          have e2 : T * p = (carry + before * high) * p + c * low * p := by
            rw [← hT, ← Int.add_mul]; congr 1; omega
          have e3 : cw_ab m * (c * p) = c * low * p + c * high * (p * 1073741824) := by
            rw [hlh, Int.add_mul]
            congr 1
            · rw [← Int.mul_assoc, Int.mul_comm low c]
            · ac_rfl
          rw [Int.mul_add, Int.add_mul]
          omega
      refine k_Wh_times_67 _ _ _ _ _ _ _ _ ?_
      simp only [↓w_nil, ↓w_cons, ↓w_ild17, ↓w_ild12, ↓w_icge, true_and, and_true, true_implies, false_implies, not_true_eq_false, not_false_eq_true, Int.reduceEq, Int.reduceLT, Int.reduceLE, Int.reduceNeg]
      repeat refine And.intro (by first | assumption | exact IsW.kt (by assumption) | omega | (unfold in32; omega) | (unfold in64; omega) | trivial | rfl | exact Nat.le_of_ble_eq_true rfl) ?_
      try first | done | assumption | (unfold in32; omega) | (unfold in64; omega)
      intro _
      refine k_Wh_times_74 _ _ _ _ _ _ _ _ ?_
      simp only [↓w_nil, ↓w_cons, ↓w_ild17, ↓w_ild11, ↓w_icge, true_and, and_true, true_implies, false_implies, not_true_eq_false, not_false_eq_true, Int.reduceEq, Int.reduceLT, Int.reduceLE, Int.reduceNeg]
      repeat refine And.intro (by first | assumption | exact IsW.kt (by assumption) | omega | (unfold in32; omega) | (unfold in64; omega) | trivial | rfl | exact Nat.le_of_ble_eq_true rfl) ?_
      try first | done | assumption | (unfold in32; omega) | (unfold in64; omega)
      refine ⟨fun h => ?_, fun h => ?_⟩
      · refine k_Wh_times_91 _ _ _ _ _ _ _ _ ?_
        simp only [↓w_nil, ↓w_cons, ↓w_lc, ↓w_fall, true_and, and_true, true_implies, false_implies, not_true_eq_false, not_false_eq_true, Int.reduceEq, Int.reduceLT, Int.reduceLE, Int.reduceNeg]
        exact st 0 (if_neg (by omega)).symm
      · have e : cw_zx (M (a + 1)) n i = M (a + 1) i := if_pos (by omega)
        have e2 : Mi (a + 1) i = M (a + 1) i := hI _ _ (Or.inr (by omega))
        refine k_Wh_times_81 _ _ _ _ _ _ _ _ ?_
        simp only [↓w_nil, ↓w_cons, ↓w_ald1, ↓w_gf2_0, ↓w_ild17, ↓w_lald, ↓w_goto, true_and, and_true, true_implies, false_implies, not_true_eq_false, not_false_eq_true, Int.reduceEq, Int.reduceLT, Int.reduceLE, Int.reduceNeg, la, p2, e2]
        repeat refine And.intro (by first | assumption | exact IsW.kt (by assumption) | omega | (unfold in32; omega) | (unfold in64; omega) | trivial | rfl | exact Nat.le_of_ble_eq_true rfl) ?_
        try first | done | assumption | (unfold in32; omega) | (unfold in64; omega)
        exact st _ e.symm
  have s39 : ∀ its : Int, (va * m ≠ 0 → its = cw_sg (va * m)) → mJ g y_Wh_times 39 [.inr (.inr w), .inr (.inr a), .inr (.inl m), cU, .inr (.inl (cw_ab m)), cU, .inr (.inl low), cU, .inr (.inl high), cU, cU, cU, cU, cU, cU, cU, cU, cU, cU, cU] [.inl its] M (fun r M' => r = none ∧ RW M' w (va * m) ∧ cw_fr (Aw w) M M') := by
    intro its hits
    refine k_Wh_times_39 _ _ _ _ _ _ _ _ ?_
    simp only [↓w_nil, ↓w_cons, ↓w_ist10, ↓w_ald1, ↓w_gf0_1, ↓w_ist11, ↓w_ic, ↓w_ild11, ↓w_iadd, ↓w_minI, ↓w_ist12, ↓w_lc, ↓w_lst13, ↓w_lst15, ↓w_ist17, ↓w_fall, true_and, and_true, true_implies, false_implies, not_true_eq_false, not_false_eq_true, Int.reduceEq, Int.reduceLT, Int.reduceLE, Int.reduceNeg, w_nlI, w_nlL, w_nlR, w_c80, w_c8I, w_c8L, w_c8R, a2]
    repeat refine And.intro (by first | assumption | exact IsW.kt (by assumption) | omega | (unfold in32; omega) | (unfold in64; omega) | trivial | rfl | exact Nat.le_of_ble_eq_true rfl) ?_
    try first | done | assumption | (unfold in32; omega) | (unfold in64; omega)
    rw [show min (16 : Int) ((n : Int) + 2) = ((n + 2 : Nat) : Int) by omega]
    exact loop its hits (n + 2) 0 M 0 0 _ _ rfl (fun _ _ _ => rfl) (fun j hj => by omega) (by omega) (by omega) (fun h => rfl) (by simp [mg_0])
  refine cw_C_of (L := [.inr (.inr w), .inr (.inr a), .inr (.inl m), cU, cU, cU, cU, cU, cU, cU, cU, cU, cU, cU, cU, cU, cU, cU, cU, cU]) ok_Wh_times (Nat.le_refl _) (Nat.le_of_ble_eq_true rfl) rfl ?_
  refine k_Wh_times_0 _ _ _ _ _ _ _ _ ?_
  simp only [↓w_nil, ↓w_cons, ↓w_lld2, ↓w_absJ, ↓w_lst4, ↓w_lld4, ↓w_lc, ↓w_land, ↓w_lst6, ↓w_ic, ↓w_lushr, ↓w_lst8, ↓w_lcge, true_and, and_true, true_implies, false_implies, not_true_eq_false, not_false_eq_true, Int.reduceEq, Int.reduceLT, Int.reduceLE, Int.reduceNeg, w_nlI, w_nlL, w_nlR, w_c80, w_c8I, w_c8L, w_c8R, and30, p30, hlow, hhigh]
  repeat refine And.intro (by first | assumption | exact IsW.kt (by assumption) | omega | (unfold in32; omega) | (unfold in64; omega) | trivial | rfl | exact Nat.le_of_ble_eq_true rfl) ?_
  try first | done | assumption | (unfold in32; omega) | (unfold in64; omega)
  refine ⟨fun h => ?_, fun h => ?_⟩
  · refine k_Wh_times_35 _ _ _ _ _ _ _ _ ?_
    simp only [↓w_nil, ↓w_cons, ↓w_ald1, ↓w_gf0_2, ↓w_fall, true_and, and_true, true_implies, false_implies, not_true_eq_false, not_false_eq_true, Int.reduceEq, Int.reduceLT, Int.reduceLE, Int.reduceNeg, a6]
    repeat refine And.intro (by first | assumption | exact IsW.kt (by assumption) | omega | (unfold in32; omega) | (unfold in64; omega) | trivial | rfl | exact Nat.le_of_ble_eq_true rfl) ?_
    try first | done | assumption | (unfold in32; omega) | (unfold in64; omega)
    refine s39 _ fun h0 => ?_
    rw [sg_mul]
    rcases sg_ab m with ⟨q, e, -⟩ | ⟨q, e, -⟩ | ⟨q, e, -⟩
    · rw [q] at h0; simp at h0
    · rw [e]; omega
    · omega
  · refine k_Wh_times_27 _ _ _ _ _ _ _ _ ?_
    simp only [↓w_nil, ↓w_cons, ↓w_ald1, ↓w_gf0_2, ↓w_ineg, ↓w_goto, true_and, and_true, true_implies, false_implies, not_true_eq_false, not_false_eq_true, Int.reduceEq, Int.reduceLT, Int.reduceLE, Int.reduceNeg, a6]
    repeat refine And.intro (by first | assumption | exact IsW.kt (by assumption) | omega | (unfold in32; omega) | (unfold in64; omega) | trivial | rfl | exact Nat.le_of_ble_eq_true rfl) ?_
    try first | done | assumption | (unfold in32; omega) | (unfold in64; omega)
    refine s39 _ fun h0 => ?_
    rw [sg_mul]
    rcases sg_ab m with ⟨q, e, -⟩ | ⟨q, e, -⟩ | ⟨q, e, -⟩
    · omega
    · omega
    · rw [e]; omega
theorem mg_upd {f h : Int → Int} {k : Nat} {v : Int} (hh : ∀ j : Int, h j = if j = k then v else f j) : ∀ n : Nat, k < n → cw_mg h n = cw_mg f n + (v - f k) * 1073741824 ^ k
  | 0, hk => by omega
  | n + 1, hk => by
    rw [mg_s, mg_s, hh n]
    by_cases q : k = n
    · subst q
      rw [if_pos rfl, mg_cg (f := h) (h := f) k (fun j hj => by rw [hh, if_neg (by omega)]), Int.sub_mul]
      omega
    · rw [if_neg (by omega), mg_upd hh n (by omega)]
      omega
theorem p_Wh_product {g : cw_G} {M : cw_M} {w a b va vb : Int} {ia ib : Nat} (hS : Sh M) (hw : IsW w) (ha : IsW a) (hb : IsW b) (hwa : w ≠ a) (hwb : w ≠ b) (hva : RW M a va) (hvb : RW M b vb) (hia : cw_ab va < 1073741824 ^ ia) (hib : cw_ab vb < 1073741824 ^ ib) (h16 : ia + ib ≤ 16) :
    mC g y_Wh_product [.inr (.inr w), .inr (.inr a), .inr (.inr b)] M (fun r M' => r = none ∧ RW M' w (va * vb) ∧ cw_fr (Aw w) M M') := by
  obtain ⟨k1, k2, k3, k4⟩ := id hw
  obtain ⟨p1, p2, p3, p4⟩ := id ha
  obtain ⟨q1, q2, q3, q4⟩ := id hb
  have n1 := isW_ne ha hw
  have n2 := isW_ne hb hw
  have n3 := isW_ne hw ha
  have n4 := isW_ne hw hb
  obtain ⟨n, a1, a2, a3, a4, a5, a6⟩ := hva
  obtain ⟨m, b1, b2, b3, b4, b5, b6⟩ := hvb
  have hn : n ≤ ia := RW.nle a3 a4 a5 hia
  have hm : m ≤ ib := RW.nle b3 b4 b5 hib
  have p30 : (2 : Int) ^ (30 : Int).toNat = 1073741824 := by decide
  have ra : -1 ≤ cw_sg va ∧ cw_sg va ≤ 1 := by unfold cw_sg; split <;> (try split) <;> omega
  have rb : -1 ≤ cw_sg vb ∧ cw_sg vb ≤ 1 := by unfold cw_sg; split <;> (try split) <;> omega
  -- what stays while the limbs of w change
  have keep : ∀ Mi : cw_M, (∀ c, c ≠ w + 1 → Mi c = M c) → cw_fr (fun a => a = w + 1) M Mi ∧ Mi a 1 = n ∧ Mi b 1 = m ∧ (∀ j, Mi (a + 1) j = M (a + 1) j) ∧ (∀ j, Mi (b + 1) j = M (b + 1) j) ∧ Mi a 2 = cw_sg va ∧ Mi b 2 = cw_sg vb := by
    intro Mi h
    refine ⟨⟨h, fun x k hr => ?_⟩, by rw [h a (by omega)]; exact a2, by rw [h b (by omega)]; exact b2, fun j => by rw [h (a + 1) (by omega)], fun j => by rw [h (b + 1) (by omega)], by rw [h a (by omega)]; exact a6, by rw [h b (by omega)]; exact b6⟩
    rw [h x (fun q => by rw [q, hw.rsl] at hr; cases hr)]
  -- the rows of a, one behind the other
  have outer : ∀ (d i : Nat) (Mi : cw_M) (v5 v7 : cw_V), d + i = n → (∀ c, c ≠ w + 1 → Mi c = M c) → cw_dg (Mi (w + 1)) (n + m) → (∀ j : Nat, i + m ≤ j → j < n + m → Mi (w + 1) j = 0) → cw_mg (Mi (w + 1)) (n + m) = cw_mg (M (a + 1)) i * cw_mg (M (b + 1)) m →
      mJ g y_Wh_product 41 [.inr (.inr w), .inr (.inr a), .inr (.inr b), .inl ((n + m : Nat) : Int), .inl i, v5, cU, v7] [] Mi (fun r M' => r = none ∧ RW M' w (va * vb) ∧ cw_fr (Aw w) M M') := by
    intro d
    induction d with
    | zero =>
      intro i Mi v5 v7 hi hM hd hz he
      obtain ⟨hfr, f1, f2, f3, f4, f5, f6⟩ := keep Mi hM
      have hin : i = n := by omega
      subst hin
      refine k_Wh_product_41 _ _ _ _ _ _ _ _ ?_
      simp only [↓w_nil, ↓w_cons, ↓w_ild4, ↓w_ald1, ↓w_gf0_1, ↓w_icge, true_and, and_true, true_implies, false_implies, not_true_eq_false, not_false_eq_true, Int.reduceEq, Int.reduceLT, Int.reduceLE, Int.reduceNeg, f1]
      repeat refine And.intro (by first | assumption | exact IsW.kt (by assumption) | omega | (unfold in32; omega) | (unfold in64; omega) | trivial | rfl | exact Nat.le_of_ble_eq_true rfl) ?_
      try first | done | assumption | (unfold in32; omega) | (unfold in64; omega)
      refine ⟨fun _ => ?_, fun h => absurd h (by omega)⟩
      refine k_Wh_product_153 _ _ _ _ _ _ _ _ ?_
      simp only [↓w_nil, ↓w_cons, ↓w_ald0, ↓w_ild3, ↓w_ald1, ↓w_gf0_2, ↓w_ald2, ↓w_imul, ↓w_cv2, true_and, and_true, true_implies, false_implies, not_true_eq_false, not_false_eq_true, Int.reduceEq, Int.reduceLT, Int.reduceLE, Int.reduceNeg, w_c80, w_c8I, w_c8L, w_c8R, f5, f6]
      repeat refine And.intro (by first | assumption | exact IsW.kt (by assumption) | omega | (unfold in32; omega) | (unfold in64; omega) | trivial | rfl | exact Nat.le_of_ble_eq_true rfl) ?_
      try first | done | assumption | (unfold in32; omega) | (unfold in64; omega)
      refine ⟨_, p_Wh_finish' (n := i + m) (v := va * vb) (hS.fr hfr) hw (by omega) hd (by rw [he, a5, b5, ab_mul]) (fun _ => (sg_mul va vb).symm), ?_⟩
      rintro r M' ⟨rfl, h1, h2⟩
      refine k_Wh_product_167 _ _ _ _ _ _ _ _ ?_
      simp only [↓w_nil, ↓w_vret, true_and, and_true, true_implies, false_implies, not_true_eq_false, not_false_eq_true, Int.reduceEq, Int.reduceLT, Int.reduceLE, Int.reduceNeg, w_tl0]
      exact ⟨h1, fr_tr (fr_mo hfr fun a h => Or.inr h) (fr_mo h2 fun a h => Or.inl h)⟩
    | succ d ih =>
      intro i P v5 v7 hi hM hd hz he
      obtain ⟨hfr, f1, f2, f3, f4, f5, f6⟩ := keep P hM
      have dai := a3 i (by omega)
      -- one row
      have inner : ∀ (e j : Nat) (Mj : cw_M) (carry : Int), e + j = m + 1 → (∀ c, c ≠ w + 1 → Mj c = M c) → cw_dg (Mj (w + 1)) (n + m) → (∀ t : Int, (i : Int) + j ≤ t → Mj (w + 1) t = P (w + 1) t) → 0 ≤ carry ∧ carry < 1073741824 → (j = m + 1 → carry = 0) →
          cw_mg (Mj (w + 1)) (n + m) + carry * 1073741824 ^ (i + j) = cw_mg (P (w + 1)) (n + m) + M (a + 1) i * cw_mg (cw_zx (M (b + 1)) m) j * 1073741824 ^ i →
          mJ g y_Wh_product 56 [.inr (.inr w), .inr (.inr a), .inr (.inr b), .inl ((n + m : Nat) : Int), .inl i, .inr (.inl carry), cU, .inl j] [] Mj (fun r M' => r = none ∧ RW M' w (va * vb) ∧ cw_fr (Aw w) M M') := by
        intro e
        induction e with
        | zero =>
          intro j Mj carry hj hM hdj hk hc hc0 hej
          obtain ⟨hfr, f1, f2, f3, f4, f5, f6⟩ := keep Mj hM
          have hjm : j = m + 1 := by omega
          subst hjm
          have c0 := hc0 rfl
          subst c0
          have next : mJ g y_Wh_product 147 [.inr (.inr w), .inr (.inr a), .inr (.inr b), .inl ((n + m : Nat) : Int), .inl i, .inr (.inl 0), cU, .inl ((m + 1 : Nat) : Int)] [] Mj (fun r M' => r = none ∧ RW M' w (va * vb) ∧ cw_fr (Aw w) M M') := by
            refine k_Wh_product_147 _ _ _ _ _ _ _ _ ?_
            simp only [↓w_nil, ↓w_cons, ↓w_inc4, ↓w_goto, true_and, and_true, true_implies, false_implies, not_true_eq_false, not_false_eq_true, Int.reduceEq, Int.reduceLT, Int.reduceLE, Int.reduceNeg, w_nlI, w_nlL, w_nlR]
            refine ih (i + 1) Mj _ _ (by omega) hM hdj (fun t h1 h2 => by rw [hk t (by omega)]; exact hz t (by omega) h2) ?_
            rw [zx_mg (show m ≤ m + 1 by omega)] at hej
            rw [mg_s, Int.add_mul]
            have : M (a + 1) i * cw_mg (M (b + 1)) m * 1073741824 ^ i = M (a + 1) i * 1073741824 ^ i * cw_mg (M (b + 1)) m := by ac_rfl
            omega
          refine k_Wh_product_56 _ _ _ _ _ _ _ _ ?_
          simp only [↓w_nil, ↓w_cons, ↓w_ild4, ↓w_ild7, ↓w_iadd, ↓w_ild3, ↓w_icge, true_and, and_true, true_implies, false_implies, not_true_eq_false, not_false_eq_true, Int.reduceEq, Int.reduceLT, Int.reduceLE, Int.reduceNeg]
          repeat refine And.intro (by first | assumption | exact IsW.kt (by assumption) | omega | (unfold in32; omega) | (unfold in64; omega) | trivial | rfl | exact Nat.le_of_ble_eq_true rfl) ?_
          try first | done | assumption | (unfold in32; omega) | (unfold in64; omega)
          refine ⟨fun _ => next, fun _ => ?_⟩
          refine k_Wh_product_65 _ _ _ _ _ _ _ _ ?_
          simp only [↓w_nil, ↓w_cons, ↓w_ild7, ↓w_ald2, ↓w_gf0_1, ↓w_icgt, true_and, and_true, true_implies, false_implies, not_true_eq_false, not_false_eq_true, Int.reduceEq, Int.reduceLT, Int.reduceLE, Int.reduceNeg, f2]
          repeat refine And.intro (by first | assumption | exact IsW.kt (by assumption) | omega | (unfold in32; omega) | (unfold in64; omega) | trivial | rfl | exact Nat.le_of_ble_eq_true rfl) ?_
          try first | done | assumption | (unfold in32; omega) | (unfold in64; omega)
          exact ⟨fun _ => next, fun h => absurd h (by omega)⟩
        | succ e ihe =>
          intro j Mj carry hj hM hdj hk hc hc0 hej
          obtain ⟨hfr, f1, f2, f3, f4, f5, f6⟩ := keep Mj hM
          have hSj := hS.fr hfr
          have la := ha.limb hSj
          have lb := hb.limb hSj
          have lw := hw.limb hSj
          have zb := zx_rg b3 j
          have hij : i + j < n + m := by omega
          have dij := hdj (i + j) hij
          rw [show ((i + j : Nat) : Int) = (i : Int) + j by omega] at dij
          have st : ∀ c : Int, c = carry + Mj (w + 1) ((i : Int) + j) + M (a + 1) i * cw_zx (M (b + 1)) m j →
              mJ g y_Wh_product 118 [.inr (.inr w), .inr (.inr a), .inr (.inr b), .inl ((n + m : Nat) : Int), .inl i, .inr (.inl c), cU, .inl j] [] Mj (fun r M' => r = none ∧ RW M' w (va * vb) ∧ cw_fr (Aw w) M M') := by
            intro c hcc
            have mb := mulb dai zb
            have hcr : 0 ≤ c ∧ c ≤ 1152921504606846975 := by omega
            have hu : ∀ t : Int, cw_up Mj (w + 1) ((i : Int) + j) (c % 1073741824) (w + 1) t = if t = ((i + j : Nat) : Int) then c % 1073741824 else Mj (w + 1) t := by
              intro t
              by_cases q : t = ((i + j : Nat) : Int)
              · rw [if_pos q, q, show ((i + j : Nat) : Int) = (i : Int) + j by omega, w_up1]
              · rw [if_neg q, w_up2 (by omega)]
            refine k_Wh_product_118 _ _ _ _ _ _ _ _ ?_
            simp only [↓w_nil, ↓w_cons, ↓w_ald0, ↓w_gf2_0, ↓w_ild4, ↓w_ild7, ↓w_iadd, ↓w_lld5, ↓w_lc, ↓w_land, ↓w_last, ↓w_ic, ↓w_lushr, ↓w_lst5, ↓w_inc7, ↓w_goto, true_and, and_true, true_implies, false_implies, not_true_eq_false, not_false_eq_true, Int.reduceEq, Int.reduceLT, Int.reduceLE, Int.reduceNeg, w_nlI, w_nlL, w_nlR, lw, k2, and30, p30]
            repeat refine And.intro (by first | assumption | exact IsW.kt (by assumption) | omega | (unfold in32; omega) | (unfold in64; omega) | trivial | rfl | exact Nat.le_of_ble_eq_true rfl) ?_
            try first | done | assumption | (unfold in32; omega) | (unfold in64; omega)
            refine ihe (j + 1) _ (c / 1073741824) (by omega) ?_ ?_ ?_ (by omega) ?_ ?_
            · intro x hx
              rw [cw_up_ne hx]
              exact hM x hx
            · intro t ht
              rw [hu]
              by_cases q : (t : Int) = ((i + j : Nat) : Int)
              · rw [if_pos q]; omega
              · rw [if_neg q]; exact hdj t ht
            · intro t ht
              rw [hu, if_neg (by omega)]
              exact hk t (by omega)
            · intro hjm
              have hjm' : j = m := by omega
              subst hjm'
              have e1 : cw_zx (M (b + 1)) j j = 0 := if_neg (by omega)
              have e2 : Mj (w + 1) ((i : Int) + j) = 0 := by
                rw [hk _ (by omega)]
                have := hz (i + j) (by omega) (by omega)
                rw [show ((i + j : Nat) : Int) = (i : Int) + j by omega] at this
                exact this
              rw [e1, e2, Int.mul_zero] at hcc
              omega
            · rw [mg_upd hu (n + m) hij, show ((i + j : Nat) : Int) = (i : Int) + j by omega, mg_s]
              have e := bt_s (i + j)
              rw [show i + (j + 1) = i + j + 1 by omega, e]
              have e5 := bt_add i j
              generalize hp : (1073741824 : Int) ^ (i + j) = p at *
              have e1 : c * p = (c % 1073741824) * p + c / 1073741824 * (p * 1073741824) := by
                have : c = c % 1073741824 + c / 1073741824 * 1073741824 := by omega
                calc c * p = (c % 1073741824 + c / 1073741824 * 1073741824) * p := by rw [← this]
                  _ = _ := by rw [Int.add_mul, Int.mul_assoc, Int.mul_comm 1073741824 p]
              have e2 : c * p = carry * p + Mj (w + 1) ((i : Int) + j) * p + M (a + 1) i * cw_zx (M (b + 1)) m j * p := by
                rw [hcc, Int.add_mul, Int.add_mul]
              have e3 : M (a + 1) i * (cw_mg (cw_zx (M (b + 1)) m) j + cw_zx (M (b + 1)) m j * 1073741824 ^ j) * 1073741824 ^ i = M (a + 1) i * cw_mg (cw_zx (M (b + 1)) m) j * 1073741824 ^ i + M (a + 1) i * cw_zx (M (b + 1)) m j * p := by
                rw [e5, Int.mul_add, Int.add_mul]
                congr 1
                ac_rfl
              rw [e3, Int.sub_mul]
              omega
          refine k_Wh_product_56 _ _ _ _ _ _ _ _ ?_
          simp only [↓w_nil, ↓w_cons, ↓w_ild4, ↓w_ild7, ↓w_iadd, ↓w_ild3, ↓w_icge, true_and, and_true, true_implies, false_implies, not_true_eq_false, not_false_eq_true, Int.reduceEq, Int.reduceLT, Int.reduceLE, Int.reduceNeg]
          repeat refine And.intro (by first | assumption | exact IsW.kt (by assumption) | omega | (unfold in32; omega) | (unfold in64; omega) | trivial | rfl | exact Nat.le_of_ble_eq_true rfl) ?_
          try first | done | assumption | (unfold in32; omega) | (unfold in64; omega)
          intro _
          refine k_Wh_product_65 _ _ _ _ _ _ _ _ ?_
          simp only [↓w_nil, ↓w_cons, ↓w_ild7, ↓w_ald2, ↓w_gf0_1, ↓w_icgt, true_and, and_true, true_implies, false_implies, not_true_eq_false, not_false_eq_true, Int.reduceEq, Int.reduceLT, Int.reduceLE, Int.reduceNeg, f2]
          repeat refine And.intro (by first | assumption | exact IsW.kt (by assumption) | omega | (unfold in32; omega) | (unfold in64; omega) | trivial | rfl | exact Nat.le_of_ble_eq_true rfl) ?_
          try first | done | assumption | (unfold in32; omega) | (unfold in64; omega)
          intro _
          refine k_Wh_product_74 _ _ _ _ _ _ _ _ ?_
          simp only [↓w_nil, ↓w_cons, ↓w_lld5, ↓w_ald0, ↓w_gf2_0, ↓w_ild4, ↓w_ild7, ↓w_iadd, ↓w_lald, ↓w_ladd, ↓w_lst5, ↓w_ald2, ↓w_gf0_1, ↓w_icge, true_and, and_true, true_implies, false_implies, not_true_eq_false, not_false_eq_true, Int.reduceEq, Int.reduceLT, Int.reduceLE, Int.reduceNeg, w_nlI, w_nlL, w_nlR, lw, k2, f2]
          repeat refine And.intro (by first | assumption | exact IsW.kt (by assumption) | omega | (unfold in32; omega) | (unfold in64; omega) | trivial | rfl | exact Nat.le_of_ble_eq_true rfl) ?_
          try first | done | assumption | (unfold in32; omega) | (unfold in64; omega)
          refine ⟨fun h => ?_, fun h => ?_⟩
          · refine st _ ?_
            have e1 : cw_zx (M (b + 1)) m j = 0 := if_neg (by omega)
            rw [e1, Int.mul_zero]; omega
          · have e1 : cw_zx (M (b + 1)) m j = M (b + 1) j := if_pos (by omega)
            refine k_Wh_product_98 _ _ _ _ _ _ _ _ ?_
            simp only [↓w_nil, ↓w_cons, ↓w_lld5, ↓w_ald1, ↓w_gf2_0, ↓w_ild4, ↓w_lald, ↓w_ald2, ↓w_ild7, ↓w_lmul, ↓w_ladd, ↓w_lst5, ↓w_fall, true_and, and_true, true_implies, false_implies, not_true_eq_false, not_false_eq_true, Int.reduceEq, Int.reduceLT, Int.reduceLE, Int.reduceNeg, w_nlI, w_nlL, w_nlR, la, lb, p2, q2, f3, f4]
            repeat refine And.intro (by first | assumption | exact IsW.kt (by assumption) | omega | (unfold in32; omega) | (unfold in64; omega) | trivial | rfl | exact Nat.le_of_ble_eq_true rfl) ?_
            try first | done | assumption | (unfold in32; omega) | (unfold in64; omega)
            exact st _ (by rw [e1])
      refine k_Wh_product_41 _ _ _ _ _ _ _ _ ?_
      simp only [↓w_nil, ↓w_cons, ↓w_ild4, ↓w_ald1, ↓w_gf0_1, ↓w_icge, true_and, and_true, true_implies, false_implies, not_true_eq_false, not_false_eq_true, Int.reduceEq, Int.reduceLT, Int.reduceLE, Int.reduceNeg, f1]
      repeat refine And.intro (by first | assumption | exact IsW.kt (by assumption) | omega | (unfold in32; omega) | (unfold in64; omega) | trivial | rfl | exact Nat.le_of_ble_eq_true rfl) ?_
      try first | done | assumption | (unfold in32; omega) | (unfold in64; omega)
      intro _
      refine k_Wh_product_50 _ _ _ _ _ _ _ _ ?_
      simp only [↓w_nil, ↓w_cons, ↓w_lc, ↓w_lst5, ↓w_ic, ↓w_ist7, ↓w_fall, true_and, and_true, true_implies, false_implies, not_true_eq_false, not_false_eq_true, Int.reduceEq, Int.reduceLT, Int.reduceLE, Int.reduceNeg, w_nlI, w_nlL, w_nlR]
      exact inner (m + 1) 0 P 0 rfl hM hd (fun _ _ => rfl) (by omega) (fun _ => rfl) (by simp [mg_0])
  -- all limbs 0 first
  have zero : ∀ (d i : Nat) (Mi : cw_M), d + i = n + m → (∀ c, c ≠ w + 1 → Mi c = M c) → (∀ j : Nat, j < i → Mi (w + 1) j = 0) →
      mJ g y_Wh_product 18 [.inr (.inr w), .inr (.inr a), .inr (.inr b), .inl ((n + m : Nat) : Int), .inl i, cU, cU, cU] [] Mi (fun r M' => r = none ∧ RW M' w (va * vb) ∧ cw_fr (Aw w) M M') := by
    intro d
    induction d with
    | zero =>
      intro i Mi hi hM hz
      refine k_Wh_product_18 _ _ _ _ _ _ _ _ ?_
      simp only [↓w_nil, ↓w_cons, ↓w_ild4, ↓w_ild3, ↓w_icge, true_and, and_true, true_implies, false_implies, not_true_eq_false, not_false_eq_true, Int.reduceEq, Int.reduceLT, Int.reduceLE, Int.reduceNeg]
      repeat refine And.intro (by first | assumption | exact IsW.kt (by assumption) | omega | (unfold in32; omega) | (unfold in64; omega) | trivial | rfl | exact Nat.le_of_ble_eq_true rfl) ?_
      try first | done | assumption | (unfold in32; omega) | (unfold in64; omega)
      refine ⟨fun _ => ?_, fun h => absurd h (by omega)⟩
      refine k_Wh_product_38 _ _ _ _ _ _ _ _ ?_
      simp only [↓w_nil, ↓w_cons, ↓w_ic, ↓w_ist4, ↓w_fall, true_and, and_true, true_implies, false_implies, not_true_eq_false, not_false_eq_true, Int.reduceEq, Int.reduceLT, Int.reduceLE, Int.reduceNeg, w_nlI, w_nlL, w_nlR]
      refine outer n 0 Mi _ _ rfl hM (fun j hj => ?_) (fun j _ hj => hz j (by omega)) ?_
      · rw [hz j (by omega)]; decide
      · rw [mg_z (k := 0) (n + m) (by omega) (fun j _ hj => hz j (by omega)), mg_0, mg_0, Int.zero_mul]
    | succ d ih =>
      intro i Mi hi hM hz
      obtain ⟨hfr, f1, f2, f3, f4, f5, f6⟩ := keep Mi hM
      have lw := hw.limb (hS.fr hfr)
      refine k_Wh_product_18 _ _ _ _ _ _ _ _ ?_
      simp only [↓w_nil, ↓w_cons, ↓w_ild4, ↓w_ild3, ↓w_icge, true_and, and_true, true_implies, false_implies, not_true_eq_false, not_false_eq_true, Int.reduceEq, Int.reduceLT, Int.reduceLE, Int.reduceNeg]
      repeat refine And.intro (by first | assumption | exact IsW.kt (by assumption) | omega | (unfold in32; omega) | (unfold in64; omega) | trivial | rfl | exact Nat.le_of_ble_eq_true rfl) ?_
      try first | done | assumption | (unfold in32; omega) | (unfold in64; omega)
      intro _
      refine k_Wh_product_24 _ _ _ _ _ _ _ _ ?_
      simp only [↓w_nil, ↓w_cons, ↓w_ald0, ↓w_gf2_0, ↓w_ild4, ↓w_lc, ↓w_last, ↓w_inc4, ↓w_goto, true_and, and_true, true_implies, false_implies, not_true_eq_false, not_false_eq_true, Int.reduceEq, Int.reduceLT, Int.reduceLE, Int.reduceNeg, w_nlI, w_nlL, w_nlR, lw, k2]
      repeat refine And.intro (by first | assumption | exact IsW.kt (by assumption) | omega | (unfold in32; omega) | (unfold in64; omega) | trivial | rfl | exact Nat.le_of_ble_eq_true rfl) ?_
      try first | done | assumption | (unfold in32; omega) | (unfold in64; omega)
      refine ih (i + 1) _ (by omega) (fun c hc => by rw [cw_up_ne hc]; exact hM c hc) (fun j hj => ?_)
      by_cases q : j = i
      · subst q; rw [w_up1]
      · rw [w_up2 (by omega)]; exact hz j (by omega)
  refine cw_C_of (L := [.inr (.inr w), .inr (.inr a), .inr (.inr b), cU, cU, cU, cU, cU]) ok_Wh_product (Nat.le_refl _) (Nat.le_of_ble_eq_true rfl) rfl ?_
  refine k_Wh_product_0 _ _ _ _ _ _ _ _ ?_
  simp only [↓w_nil, ↓w_cons, ↓w_ic, ↓w_ald1, ↓w_gf0_1, ↓w_ald2, ↓w_iadd, ↓w_minI, ↓w_ist3, ↓w_ist4, ↓w_fall, true_and, and_true, true_implies, false_implies, not_true_eq_false, not_false_eq_true, Int.reduceEq, Int.reduceLT, Int.reduceLE, Int.reduceNeg, w_nlI, w_nlL, w_nlR, w_c80, w_c8I, w_c8L, w_c8R, a2, b2]
  repeat refine And.intro (by first | assumption | exact IsW.kt (by assumption) | omega | (unfold in32; omega) | (unfold in64; omega) | trivial | rfl | exact Nat.le_of_ble_eq_true rfl) ?_
  try first | done | assumption | (unfold in32; omega) | (unfold in64; omega)
  rw [show min (16 : Int) ((n : Int) + m) = ((n + m : Nat) : Int) by omega]
  exact zero (n + m) 0 M rfl (fun _ _ => rfl) (fun j hj => by omega)
