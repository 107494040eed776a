/-! Whole.sum -/
theorem isW_ne {w a : Int} (hw : IsW w) (ha : IsW a) : w ≠ a + 1 := fun h => by
  have h1 := hw.1
  rw [h, ha.2.1] at h1
  cases h1
def cw_zx (f : Int → Int) (n : Nat) : Int → Int := fun j => if j < n then f j else 0
theorem zx_mg {f : Int → Int} {n m : Nat} (h : n ≤ m) : cw_mg (cw_zx f n) m = cw_mg f n := by
  rw [mg_z m h (fun j h1 _ => if_neg (by omega))]
  exact mg_cg n fun j hj => if_pos (by omega)
theorem zx_rg {f : Int → Int} {n : Nat} (h : cw_dg f n) (j : Nat) : 0 ≤ cw_zx f n j ∧ cw_zx f n j < 1073741824 := by
  unfold cw_zx
  by_cases q : (j : Int) < n
  · rw [if_pos q]; exact h j (by omega)
  · rw [if_neg q]; decide
theorem fr_of {w : Int} {i : Int} {M M' : cw_M} (hw : IsW w) (h : ∀ c j, (c ≠ w + 1 ∨ i ≤ j) → M' c j = M c j) : cw_fr (fun a => a = w + 1) M M' :=
  ⟨fun a ha => funext fun j => h a j (Or.inl ha), fun a k hr => h a k (Or.inl fun q => by rw [q, hw.rsl] at hr; cases hr)⟩
theorem l_sum85 {g : cw_G} {M : cw_M} {w a b s v vm vl more less its way ot am : Int} (hS : Sh M) (hw : IsW w) (hm : IsW more) (hl : IsW less) (hvm : RW M more vm) (hvl : RW M less vl) (hle : cw_ab vl ≤ cw_ab vm) (hb : cw_ab vm < 1073741824 ^ 15)
    (hway : way = 1 ∨ way = -1) (ht : cw_ab vm + way * cw_ab vl = cw_ab v) (hs : v ≠ 0 → its = cw_sg v) :
    mJ g y_Wh_sum 85 [.inr (.inr w), .inr (.inr a), .inl s, .inr (.inr b), .inl ot, .inl am, .inr (.inr more), .inr (.inr less), .inl its, cU, cU, cU, cU, cU, cU, cU] [.inl way] M (fun r M' => r = none ∧ RW M' w v ∧ cw_fr (Aw w) M M') := by
  obtain ⟨k1, k2, k3, k4⟩ := id hw
  obtain ⟨p1, p2, p3, p4⟩ := id hm
  obtain ⟨q1, q2, q3, q4⟩ := id hl
  obtain ⟨n, a1, a2, a3, a4, a5, a6⟩ := hvm
  obtain ⟨m, b1, b2, b3, b4, b5, b6⟩ := hvl
  have hn : n ≤ 15 := RW.nle a3 a4 a5 hb
  have hmn : m ≤ n := by
    cases m with
    | zero => omega
    | succ m =>
      have h1 := RW.ge b3 (b4 (by omega)) b5
      have h2 := RW.lt a3 a5
      by_cases q : m + 1 ≤ n
      · exact q
      · have := bt_mono (show n ≤ m by omega)
        omega
  have p30 : (2 : Int) ^ (30 : Int).toNat = 1073741824 := by decide
  refine k_Wh_sum_85 _ _ _ _ _ _ _ _ ?_
  simp only [↓w_nil, ↓w_cons, ↓w_ist9, ↓w_ald7, ↓w_gf0_1, ↓w_ist10, ↓w_ic, ↓w_ald6, ↓w_iadd, ↓w_minI, ↓w_ist11, ↓w_lc, ↓w_lst12, ↓w_ist14, ↓w_ist15, ↓w_fall, true_and, and_true, true_implies, false_implies, not_true_eq_false, not_false_eq_true, Int.reduceEq, Int.reduceLT, Int.reduceLE, Int.reduceNeg, w_nlI, w_nlL, w_nlR, w_c80, w_c8I, w_c8L, w_c8R, a2, b2]
  repeat refine And.intro (by first | assumption | exact IsW.kt (by assumption) | omega | (unfold in32; omega) | (unfold in64; omega) | trivial | rfl | exact Nat.le_of_ble_eq_true rfl) ?_
  try first | done | assumption | (unfold in32; omega) | (unfold in64; omega)
  rw [show min (16 : Int) ((n : Int) + 1) = ((n + 1 : Nat) : Int) by omega]
  have loop : ∀ (d i : Nat) (Mi : cw_M) (carry : Int), d + i = n + 1 → (∀ c j, (c ≠ w + 1 ∨ (i : Int) ≤ j) → Mi c j = M c j) → cw_dg (Mi (w + 1)) i → -1 ≤ carry ∧ carry ≤ 1 →
      cw_mg (Mi (w + 1)) i + carry * 1073741824 ^ i = cw_mg (cw_zx (M (more + 1)) n) i + way * cw_mg (cw_zx (M (less + 1)) m) i →
      mJ g y_Wh_sum 121 [.inr (.inr w), .inr (.inr a), .inl s, .inr (.inr b), .inl ot, .inl am, .inr (.inr more), .inr (.inr less), .inl its, .inl way, .inl m, .inl ((n + 1 : Nat) : Int), .inr (.inl carry), cU, .inl n, .inl i] [] Mi (fun r M' => r = none ∧ RW M' w v ∧ cw_fr (Aw w) M M') := by
    intro d
    induction d with
    | zero =>
      intro i Mi carry hi hI hd hc he
      have hfr := fr_of hw hI
      have hin : i = n + 1 := by omega
      subst hin
      refine k_Wh_sum_121 _ _ _ _ _ _ _ _ ?_
      simp only [↓w_nil, ↓w_cons, ↓w_ild15, ↓w_ild11, ↓w_icge, true_and, and_true, true_implies, false_implies, not_true_eq_false, not_false_eq_true, Int.reduceEq, Int.reduceLT, Int.reduceLE, Int.reduceNeg]
      repeat refine And.intro (by first | assumption | exact IsW.kt (by assumption) | omega | (unfold in32; omega) | (unfold in64; omega) | trivial | rfl | exact Nat.le_of_ble_eq_true rfl) ?_
      try first | done | assumption | (unfold in32; omega) | (unfold in64; omega)
      refine ⟨fun _ => ?_, fun h => absurd h (by omega)⟩
      refine k_Wh_sum_198 _ _ _ _ _ _ _ _ ?_
      simp only [↓w_nil, ↓w_cons, ↓w_ald0, ↓w_ild11, ↓w_ild8, ↓w_cv2, true_and, and_true, true_implies, false_implies, not_true_eq_false, not_false_eq_true, Int.reduceEq, Int.reduceLT, Int.reduceLE, Int.reduceNeg, w_c80, w_c8I, w_c8L, w_c8R]
      repeat refine And.intro (by first | assumption | exact IsW.kt (by assumption) | omega | (unfold in32; omega) | (unfold in64; omega) | trivial | rfl | exact Nat.le_of_ble_eq_true rfl) ?_
      try first | done | assumption | (unfold in32; omega) | (unfold in64; omega)
      rw [zx_mg (show n ≤ n + 1 by omega), zx_mg (show m ≤ n + 1 by omega), a5, b5, ht] at he
      have l1 := mg_lt (n + 1) hd
      have l2 := RW.lt a3 a5
      have l3 := bt_pos (n + 1)
      have l4 := bt_pos n
      have l5 := bt_s n
      have l6 := ab_nn v
      have l7 := ab_nn vl
      have l8 : cw_ab v < 1073741824 ^ (n + 1) := by rcases hway with h | h <;> subst h <;> omega
      have hc0 : carry = 0 := by
        rcases (show carry = -1 ∨ carry = 0 ∨ carry = 1 by omega) with h | h | h
        · subst h; omega
        · exact h
        · subst h; omega
      subst hc0
      refine ⟨_, p_Wh_finish' (n := n + 1) (v := v) (hS.fr hfr) hw (by omega) hd (by omega) hs, ?_⟩
      rintro r M' ⟨rfl, h1, h2⟩
      refine k_Wh_sum_206 _ _ _ _ _ _ _ _ ?_
      simp only [↓w_nil, ↓w_vret, true_and, and_true, true_implies, false_implies, not_true_eq_false, not_false_eq_true, Int.reduceEq, Int.reduceLT, Int.reduceLE, Int.reduceNeg, w_tl0]
      exact ⟨h1, fr_tr (fr_mo hfr fun a h => Or.inr h) (fr_mo h2 fun a h => Or.inl h)⟩
    | succ d ih =>
      intro i Mi carry hi hI hd hc he
      have hfr := fr_of hw hI
      have hSi := hS.fr hfr
      have ll := hl.limb hSi
      have lm := hm.limb hSi
      have lw := hw.limb hSi
      have zf := zx_rg a3 i
      have zh := zx_rg b3 i
      -- behind both digits
      have st3 : ∀ c : Int, c = carry + cw_zx (M (more + 1)) n i + way * cw_zx (M (less + 1)) m i →
          mJ g y_Wh_sum 172 [.inr (.inr w), .inr (.inr a), .inl s, .inr (.inr b), .inl ot, .inl am, .inr (.inr more), .inr (.inr less), .inl its, .inl way, .inl m, .inl ((n + 1 : Nat) : Int), .inr (.inl c), cU, .inl n, .inl i] [] Mi (fun r M' => r = none ∧ RW M' w v ∧ cw_fr (Aw w) M M') := by
        intro c hcc
        have hcr : -1073741824 ≤ c ∧ c < 2147483648 := by rcases hway with h | h <;> subst h <;> omega
        refine k_Wh_sum_172 _ _ _ _ _ _ _ _ ?_
        simp only [↓w_nil, ↓w_cons, ↓w_ald0, ↓w_gf2_0, ↓w_ild15, ↓w_lld12, ↓w_lc, ↓w_land, ↓w_last, ↓w_ic, ↓w_lshr, ↓w_lst12, ↓w_inc15, ↓w_goto, true_and, and_true, true_implies, false_implies, not_true_eq_false, not_false_eq_true, Int.reduceEq, Int.reduceLT, Int.reduceLE, Int.reduceNeg, w_nlI, w_nlL, w_nlR, lw, k2, and30, p30]
        repeat refine And.intro (by first | assumption | exact IsW.kt (by assumption) | omega | (unfold in32; omega) | (unfold in64; omega) | trivial | rfl | exact Nat.le_of_ble_eq_true rfl) ?_
        try first | done | assumption | (unfold in32; omega) | (unfold in64; omega)
        refine ih (i + 1) _ (c / 1073741824) (by omega) ?_ ?_ (by omega) ?_
        · intro x j hj
          by_cases hx : x = w + 1
          · subst hx
            rw [w_up2 (by omega)]
            exact hI _ _ (Or.inr (by omega))
          · rw [w_up3 hx]
            exact hI _ _ (Or.inl hx)
        · intro j hj
          by_cases q : j = i
          · subst q
            rw [w_up1]; omega
          · rw [w_up2 (by omega)]
            exact hd j (by omega)
        · rw [mg_s, mg_s, mg_s, w_up1]
          rw [mg_cg (h := Mi (w + 1)) i (fun j hj => w_up2 (by omega))]
          have e := bt_s i
          have hp := bt_pos i
          generalize (1073741824 : Int) ^ i = p at *
          have e1 : c * p = (c % 1073741824) * p + c / 1073741824 * (p * 1073741824) := by
            have : c = c % 1073741824 + c / 1073741824 * 1073741824 := by omega
            calc c * p = (c % 1073741824 + c / 1073741824 * 1073741824) * p := by rw [← this]
              _ = _ := by rw [Int.add_mul, Int.mul_assoc, Int.mul_comm 1073741824 p]
          have e2 : c * p = carry * p + cw_zx (M (more + 1)) n i * p + way * (cw_zx (M (less + 1)) m i * p) := by
            rw [hcc, Int.add_mul, Int.add_mul, Int.mul_assoc way]
          rw [e, Int.mul_add]
          omega
      have st2 : ∀ c : Int, c = carry + cw_zx (M (more + 1)) n i →
          mJ g y_Wh_sum 148 [.inr (.inr w), .inr (.inr a), .inl s, .inr (.inr b), .inl ot, .inl am, .inr (.inr more), .inr (.inr less), .inl its, .inl way, .inl m, .inl ((n + 1 : Nat) : Int), .inr (.inl c), cU, .inl n, .inl i] [] Mi (fun r M' => r = none ∧ RW M' w v ∧ cw_fr (Aw w) M M') := by
        intro c hcc
        refine k_Wh_sum_148 _ _ _ _ _ _ _ _ ?_
        simp only [↓w_nil, ↓w_cons, ↓w_ild15, ↓w_ild10, ↓w_icge, true_and, and_true, true_implies, false_implies, not_true_eq_false, not_false_eq_true, Int.reduceEq, Int.reduceLT, Int.reduceLE, Int.reduceNeg]
        repeat refine And.intro (by first | assumption | exact IsW.kt (by assumption) | omega | (unfold in32; omega) | (unfold in64; omega) | trivial | rfl | exact Nat.le_of_ble_eq_true rfl) ?_
        try first | done | assumption | (unfold in32; omega) | (unfold in64; omega)
        refine ⟨fun h => st3 c ?_, fun h => ?_⟩
        · have e : cw_zx (M (less + 1)) m i = 0 := if_neg (by omega)
          rw [e]; omega
        · have e : cw_zx (M (less + 1)) m i = M (less + 1) i := if_pos (by omega)
          have e2 : Mi (less + 1) i = M (less + 1) i := hI _ _ (Or.inr (by omega))
          refine k_Wh_sum_155 _ _ _ _ _ _ _ _ ?_
          simp only [↓w_nil, ↓w_cons, ↓w_lld12, ↓w_ild9, ↓w_i2l, ↓w_ald7, ↓w_gf2_0, ↓w_ild15, ↓w_lald, ↓w_lmul, ↓w_ladd, ↓w_lst12, ↓w_fall, true_and, and_true, true_implies, false_implies, not_true_eq_false, not_false_eq_true, Int.reduceEq, Int.reduceLT, Int.reduceLE, Int.reduceNeg, w_nlI, w_nlL, w_nlR, ll, q2, e2]
          repeat refine And.intro (by first | assumption | exact IsW.kt (by assumption) | omega | (unfold in32; omega) | (unfold in64; omega) | trivial | rfl | exact Nat.le_of_ble_eq_true rfl) ?_
          try first | done | assumption | (unfold in32; omega) | (unfold in64; omega)
          exact st3 _ (by rw [e, hcc])
      refine k_Wh_sum_121 _ _ _ _ _ _ _ _ ?_
      simp only [↓w_nil, ↓w_cons, ↓w_ild15, ↓w_ild11, ↓w_icge, true_and, and_true, true_implies, false_implies, not_true_eq_false, not_false_eq_true, Int.reduceEq, Int.reduceLT, Int.reduceLE, Int.reduceNeg]
      repeat refine And.intro (by first | assumption | exact IsW.kt (by assumption) | omega | (unfold in32; omega) | (unfold in64; omega) | trivial | rfl | exact Nat.le_of_ble_eq_true rfl) ?_
      try first | done | assumption | (unfold in32; omega) | (unfold in64; omega)
      intro _
      refine k_Wh_sum_128 _ _ _ _ _ _ _ _ ?_
      simp only [↓w_nil, ↓w_cons, ↓w_ild15, ↓w_ild14, ↓w_icge, true_and, and_true, true_implies, false_implies, not_true_eq_false, not_false_eq_true, Int.reduceEq, Int.reduceLT, Int.reduceLE, Int.reduceNeg]
      repeat refine And.intro (by first | assumption | exact IsW.kt (by assumption) | omega | (unfold in32; omega) | (unfold in64; omega) | trivial | rfl | exact Nat.le_of_ble_eq_true rfl) ?_
      try first | done | assumption | (unfold in32; omega) | (unfold in64; omega)
      refine ⟨fun h => st2 carry ?_, fun h => ?_⟩
      · have e : cw_zx (M (more + 1)) n i = 0 := if_neg (by omega)
        rw [e]; omega
      · have e : cw_zx (M (more + 1)) n i = M (more + 1) i := if_pos (by omega)
        have e2 : Mi (more + 1) i = M (more + 1) i := hI _ _ (Or.inr (by omega))
        refine k_Wh_sum_135 _ _ _ _ _ _ _ _ ?_
        simp only [↓w_nil, ↓w_cons, ↓w_lld12, ↓w_ald6, ↓w_gf2_0, ↓w_ild15, ↓w_lald, ↓w_ladd, ↓w_lst12, ↓w_fall, true_and, and_true, true_implies, false_implies, not_true_eq_false, not_false_eq_true, Int.reduceEq, Int.reduceLT, Int.reduceLE, Int.reduceNeg, w_nlI, w_nlL, w_nlR, lm, p2, e2]
        repeat refine And.intro (by first | assumption | exact IsW.kt (by assumption) | omega | (unfold in32; omega) | (unfold in64; omega) | trivial | rfl | exact Nat.le_of_ble_eq_true rfl) ?_
        try first | done | assumption | (unfold in32; omega) | (unfold in64; omega)
        exact st2 _ (by rw [e])
  exact loop (n + 1) 0 M 0 rfl (fun _ _ _ => rfl) (fun j hj => by omega) (by omega) (by simp [mg_0])
theorem sg_ab (v : Int) : (v = 0 ∧ cw_sg v = 0 ∧ cw_ab v = 0) ∨ (0 < v ∧ cw_sg v = 1 ∧ cw_ab v = v) ∨ (v < 0 ∧ cw_sg v = -1 ∧ cw_ab v = -v) := by
  unfold cw_sg cw_ab
  split
  · left; refine ⟨by omega, rfl, ?_⟩; split <;> omega
  · split
    · right; left; refine ⟨by omega, rfl, ?_⟩; split <;> omega
    · right; right; refine ⟨by omega, rfl, ?_⟩; split <;> omega
theorem sum_m1 {va vb s : Int} (hs : s = 1 ∨ s = -1) (h : cw_ab vb ≤ cw_ab va) :
    cw_ab va + (if cw_sg va * (s * cw_sg vb) < 0 then -1 else 1) * cw_ab vb = cw_ab (va + s * vb) ∧ (va + s * vb ≠ 0 → (if cw_sg va ≠ 0 then cw_sg va else s * cw_sg vb) = cw_sg (va + s * vb)) := by
  rcases sg_ab va with ⟨a0, a1, a2⟩ | ⟨a0, a1, a2⟩ | ⟨a0, a1, a2⟩ <;> rcases sg_ab vb with ⟨b0, b1, b2⟩ | ⟨b0, b1, b2⟩ | ⟨b0, b1, b2⟩ <;> rcases hs with rfl | rfl <;> rcases sg_ab (va + 1 * vb) with ⟨c0, c1, c2⟩ | ⟨c0, c1, c2⟩ | ⟨c0, c1, c2⟩ <;> rcases sg_ab (va + -1 * vb) with ⟨d0, d1, d2⟩ | ⟨d0, d1, d2⟩ | ⟨d0, d1, d2⟩ <;> simp only [a1, a2, b1, b2, c1, c2, d1, d2, Int.reduceMul, Int.reduceNeg, Int.reduceLT, reduceIte, ne_eq, Int.reduceEq, not_false_eq_true, not_true_eq_false] at h ⊢ <;> (repeat' first | refine And.intro ?_ ?_ | intro _) <;> first | omega | trivial
theorem sum_m2 {va vb s : Int} (hs : s = 1 ∨ s = -1) (h : cw_ab va < cw_ab vb) :
    cw_ab vb + (if cw_sg va * (s * cw_sg vb) < 0 then -1 else 1) * cw_ab va = cw_ab (va + s * vb) ∧ s * cw_sg vb = cw_sg (va + s * vb) := by
  rcases sg_ab va with ⟨a0, a1, a2⟩ | ⟨a0, a1, a2⟩ | ⟨a0, a1, a2⟩ <;> rcases sg_ab vb with ⟨b0, b1, b2⟩ | ⟨b0, b1, b2⟩ | ⟨b0, b1, b2⟩ <;> rcases hs with rfl | rfl <;> rcases sg_ab (va + 1 * vb) with ⟨c0, c1, c2⟩ | ⟨c0, c1, c2⟩ | ⟨c0, c1, c2⟩ <;> rcases sg_ab (va + -1 * vb) with ⟨d0, d1, d2⟩ | ⟨d0, d1, d2⟩ | ⟨d0, d1, d2⟩ <;> simp only [a1, a2, b1, b2, c1, c2, d1, d2, Int.reduceMul, Int.reduceNeg, Int.reduceLT, reduceIte, ne_eq, Int.reduceEq, not_false_eq_true, not_true_eq_false] at h ⊢ <;> (repeat' first | refine And.intro ?_ ?_ | intro _) <;> first | omega | trivial
theorem p_Wh_sum {g : cw_G} {M : cw_M} {w a b s va vb : Int} (hS : Sh M) (hw : IsW w) (ha : IsW a) (hb : IsW b) (hva : RW M a va) (hvb : RW M b vb) (hs : s = 1 ∨ s = -1) (h15 : cw_ab va < 1073741824 ^ 15 ∧ cw_ab vb < 1073741824 ^ 15) :
    mC g y_Wh_sum [.inr (.inr w), .inr (.inr a), .inl s, .inr (.inr b)] M (fun r M' => r = none ∧ RW M' w (va + s * vb) ∧ cw_fr (Aw w) M M') := by
  obtain ⟨k1, k2, k3, k4⟩ := id hw
  obtain ⟨p1, p2, p3, p4⟩ := id ha
  obtain ⟨q1, q2, q3, q4⟩ := id hb
  have a6 : M a 2 = cw_sg va := by obtain ⟨_, _, _, _, _, _, h⟩ := hva; exact h
  have b6 : M b 2 = cw_sg vb := by obtain ⟨_, _, _, _, _, _, h⟩ := hvb; exact h
  have ra : -1 ≤ cw_sg va ∧ cw_sg va ≤ 1 := by unfold cw_sg; split <;> (try split) <;> omega
  have rb : -1 ≤ cw_sg vb ∧ cw_sg vb ≤ 1 := by unfold cw_sg; split <;> (try split) <;> omega
  have ro : -1 ≤ s * cw_sg vb ∧ s * cw_sg vb ≤ 1 := by rcases hs with rfl | rfl <;> omega
  have rp : -1 ≤ cw_sg va * (s * cw_sg vb) ∧ cw_sg va * (s * cw_sg vb) ≤ 1 := by
    generalize s * cw_sg vb = o at ro
    rcases (show cw_sg va = -1 ∨ cw_sg va = 0 ∨ cw_sg va = 1 by omega) with h | h | h <;> rw [h] <;> omega
  have s68 : ∀ (more less vm vl its am : Int), IsW more → IsW less → RW M more vm → RW M less vl → cw_ab vl ≤ cw_ab vm → cw_ab vm < 1073741824 ^ 15 →
      cw_ab vm + (if cw_sg va * (s * cw_sg vb) < 0 then -1 else 1) * cw_ab vl = cw_ab (va + s * vb) → (va + s * vb ≠ 0 → its = cw_sg (va + s * vb)) →
      mJ g y_Wh_sum 68 [.inr (.inr w), .inr (.inr a), .inl s, .inr (.inr b), .inl (s * cw_sg vb), .inl am, .inr (.inr more), .inr (.inr less), cU, cU, cU, cU, cU, cU, cU, cU] [.inl its] M (fun r M' => r = none ∧ RW M' w (va + s * vb) ∧ cw_fr (Aw w) M M') := by
    intro more less vm vl its am hm hl hvm hvl hle h15' ht hs'
    refine k_Wh_sum_68 _ _ _ _ _ _ _ _ ?_
    simp only [↓w_nil, ↓w_cons, ↓w_ist8, ↓w_ald1, ↓w_gf0_2, ↓w_ild4, ↓w_imul, ↓w_ifge, true_and, and_true, true_implies, false_implies, not_true_eq_false, not_false_eq_true, Int.reduceEq, Int.reduceLT, Int.reduceLE, Int.reduceNeg, w_nlI, w_nlL, w_nlR, a6]
    repeat refine And.intro (by first | assumption | exact IsW.kt (by assumption) | omega | (unfold in32; omega) | (unfold in64; omega) | trivial | rfl | exact Nat.le_of_ble_eq_true rfl) ?_
    try first | done | assumption | (unfold in32; omega) | (unfold in64; omega)
    refine ⟨fun h => ?_, fun h => ?_⟩
    · refine k_Wh_sum_84 _ _ _ _ _ _ _ _ ?_
      simp only [↓w_nil, ↓w_cons, ↓w_ic, ↓w_fall, true_and, and_true, true_implies, false_implies, not_true_eq_false, not_false_eq_true, Int.reduceEq, Int.reduceLT, Int.reduceLE, Int.reduceNeg]
      rw [if_neg (by omega)] at ht
      exact l_sum85 hS hw hm hl hvm hvl hle h15' (Or.inl rfl) ht hs'
    · refine k_Wh_sum_80 _ _ _ _ _ _ _ _ ?_
      simp only [↓w_nil, ↓w_cons, ↓w_ic, ↓w_goto, true_and, and_true, true_implies, false_implies, not_true_eq_false, not_false_eq_true, Int.reduceEq, Int.reduceLT, Int.reduceLE, Int.reduceNeg]
      rw [if_pos (by omega)] at ht
      exact l_sum85 hS hw hm hl hvm hvl hle h15' (Or.inr rfl) ht hs'
  refine cw_C_of (L := [.inr (.inr w), .inr (.inr a), .inl s, .inr (.inr b), cU, cU, cU, cU, cU, cU, cU, cU, cU, cU, cU, cU]) ok_Wh_sum (Nat.le_refl _) (Nat.le_of_ble_eq_true rfl) rfl ?_
  refine k_Wh_sum_0 _ _ _ _ _ _ _ _ ?_
  simp only [↓w_nil, ↓w_cons, ↓w_ild2, ↓w_ald3, ↓w_gf0_2, ↓w_imul, ↓w_ist4, ↓w_ald1, ↓w_cs2, true_and, and_true, true_implies, false_implies, not_true_eq_false, not_false_eq_true, Int.reduceEq, Int.reduceLT, Int.reduceLE, Int.reduceNeg, w_nlI, w_nlL, w_nlR, w_c80, w_c8I, w_c8L, w_c8R, b6]
  repeat refine And.intro (by first | assumption | exact IsW.kt (by assumption) | omega | (unfold in32; omega) | (unfold in64; omega) | trivial | rfl | exact Nat.le_of_ble_eq_true rfl) ?_
  try first | done | assumption | (unfold in32; omega) | (unfold in64; omega)
  refine ⟨_, p_Wh_compareSizes hS ha hb hva hvb, ?_⟩
  rintro r M' ⟨rfl, rfl⟩
  have c32 := cw_cm32 (cw_ab va) (cw_ab vb)
  refine k_Wh_sum_13 _ _ _ _ _ _ _ _ ?_
  simp only [↓w_nil, ↓w_iflt, true_and, and_true, true_implies, false_implies, not_true_eq_false, not_false_eq_true, Int.reduceEq, Int.reduceLT, Int.reduceLE, Int.reduceNeg, w_tl1]
  repeat refine And.intro (by first | assumption | exact IsW.kt (by assumption) | omega | (unfold in32; omega) | (unfold in64; omega) | trivial | rfl | exact Nat.le_of_ble_eq_true rfl) ?_
  try first | done | assumption | (unfold in32; omega) | (unfold in64; omega)
  refine ⟨fun h => ?_, fun h => ?_⟩
  · have hlt : cw_ab va < cw_ab vb := by unfold cw_cm at h; split at h <;> (try split at h) <;> omega
    obtain ⟨e1, e2⟩ := sum_m2 hs hlt
    refine k_Wh_sum_20 _ _ _ _ _ _ _ _ ?_
    simp only [↓w_nil, ↓w_cons, ↓w_ic, ↓w_fall, true_and, and_true, true_implies, false_implies, not_true_eq_false, not_false_eq_true, Int.reduceEq, Int.reduceLT, Int.reduceLE, Int.reduceNeg]
    refine k_Wh_sum_21 _ _ _ _ _ _ _ _ ?_
    simp only [↓w_nil, ↓w_cons, ↓w_ist5, ↓w_ild5, ↓w_ifeq, true_and, and_true, true_implies, false_implies, not_true_eq_false, not_false_eq_true, Int.reduceEq, Int.reduceLT, Int.reduceLE, Int.reduceNeg, w_nlI, w_nlL, w_nlR]
    repeat refine And.intro (by first | assumption | exact IsW.kt (by assumption) | omega | (unfold in32; omega) | (unfold in64; omega) | trivial | rfl | exact Nat.le_of_ble_eq_true rfl) ?_
    try first | done | assumption | (unfold in32; omega) | (unfold in64; omega)
    refine k_Wh_sum_32 _ _ _ _ _ _ _ _ ?_
    simp only [↓w_nil, ↓w_cons, ↓w_ald3, ↓w_fall, true_and, and_true, true_implies, false_implies, not_true_eq_false, not_false_eq_true, Int.reduceEq, Int.reduceLT, Int.reduceLE, Int.reduceNeg]
    repeat refine And.intro (by first | assumption | exact IsW.kt (by assumption) | omega | (unfold in32; omega) | (unfold in64; omega) | trivial | rfl | exact Nat.le_of_ble_eq_true rfl) ?_
    try first | done | assumption | (unfold in32; omega) | (unfold in64; omega)
    refine k_Wh_sum_33 _ _ _ _ _ _ _ _ ?_
    simp only [↓w_nil, ↓w_cons, ↓w_ast6, ↓w_ild5, ↓w_ifeq, true_and, and_true, true_implies, false_implies, not_true_eq_false, not_false_eq_true, Int.reduceEq, Int.reduceLT, Int.reduceLE, Int.reduceNeg, w_nlI, w_nlL, w_nlR]
    repeat refine And.intro (by first | assumption | exact IsW.kt (by assumption) | omega | (unfold in32; omega) | (unfold in64; omega) | trivial | rfl | exact Nat.le_of_ble_eq_true rfl) ?_
    try first | done | assumption | (unfold in32; omega) | (unfold in64; omega)
    refine k_Wh_sum_44 _ _ _ _ _ _ _ _ ?_
    simp only [↓w_nil, ↓w_cons, ↓w_ald1, ↓w_fall, true_and, and_true, true_implies, false_implies, not_true_eq_false, not_false_eq_true, Int.reduceEq, Int.reduceLT, Int.reduceLE, Int.reduceNeg]
    repeat refine And.intro (by first | assumption | exact IsW.kt (by assumption) | omega | (unfold in32; omega) | (unfold in64; omega) | trivial | rfl | exact Nat.le_of_ble_eq_true rfl) ?_
    try first | done | assumption | (unfold in32; omega) | (unfold in64; omega)
    refine k_Wh_sum_45 _ _ _ _ _ _ _ _ ?_
    simp only [↓w_nil, ↓w_cons, ↓w_ast7, ↓w_ild5, ↓w_ifeq, true_and, and_true, true_implies, false_implies, not_true_eq_false, not_false_eq_true, Int.reduceEq, Int.reduceLT, Int.reduceLE, Int.reduceNeg, w_nlI, w_nlL, w_nlR]
    repeat refine And.intro (by first | assumption | exact IsW.kt (by assumption) | omega | (unfold in32; omega) | (unfold in64; omega) | trivial | rfl | exact Nat.le_of_ble_eq_true rfl) ?_
    try first | done | assumption | (unfold in32; omega) | (unfold in64; omega)
    refine k_Wh_sum_66 _ _ _ _ _ _ _ _ ?_
    simp only [↓w_nil, ↓w_cons, ↓w_ild4, ↓w_fall, true_and, and_true, true_implies, false_implies, not_true_eq_false, not_false_eq_true, Int.reduceEq, Int.reduceLT, Int.reduceLE, Int.reduceNeg]
    exact s68 b a vb va _ 0 hb ha hvb hva (by omega) h15.2 e1 (fun _ => e2)
  · have hle : cw_ab vb ≤ cw_ab va := by unfold cw_cm at h; split at h <;> (try split at h) <;> omega
    obtain ⟨e1, e2⟩ := sum_m1 hs hle
    refine k_Wh_sum_16 _ _ _ _ _ _ _ _ ?_
    simp only [↓w_nil, ↓w_cons, ↓w_ic, ↓w_goto, true_and, and_true, true_implies, false_implies, not_true_eq_false, not_false_eq_true, Int.reduceEq, Int.reduceLT, Int.reduceLE, Int.reduceNeg]
    refine k_Wh_sum_21 _ _ _ _ _ _ _ _ ?_
    simp only [↓w_nil, ↓w_cons, ↓w_ist5, ↓w_ild5, ↓w_ifeq, true_and, and_true, true_implies, false_implies, not_true_eq_false, not_false_eq_true, Int.reduceEq, Int.reduceLT, Int.reduceLE, Int.reduceNeg, w_nlI, w_nlL, w_nlR]
    repeat refine And.intro (by first | assumption | exact IsW.kt (by assumption) | omega | (unfold in32; omega) | (unfold in64; omega) | trivial | rfl | exact Nat.le_of_ble_eq_true rfl) ?_
    try first | done | assumption | (unfold in32; omega) | (unfold in64; omega)
    refine k_Wh_sum_28 _ _ _ _ _ _ _ _ ?_
    simp only [↓w_nil, ↓w_cons, ↓w_ald1, ↓w_goto, true_and, and_true, true_implies, false_implies, not_true_eq_false, not_false_eq_true, Int.reduceEq, Int.reduceLT, Int.reduceLE, Int.reduceNeg]
    repeat refine And.intro (by first | assumption | exact IsW.kt (by assumption) | omega | (unfold in32; omega) | (unfold in64; omega) | trivial | rfl | exact Nat.le_of_ble_eq_true rfl) ?_
    try first | done | assumption | (unfold in32; omega) | (unfold in64; omega)
    refine k_Wh_sum_33 _ _ _ _ _ _ _ _ ?_
    simp only [↓w_nil, ↓w_cons, ↓w_ast6, ↓w_ild5, ↓w_ifeq, true_and, and_true, true_implies, false_implies, not_true_eq_false, not_false_eq_true, Int.reduceEq, Int.reduceLT, Int.reduceLE, Int.reduceNeg, w_nlI, w_nlL, w_nlR]
    repeat refine And.intro (by first | assumption | exact IsW.kt (by assumption) | omega | (unfold in32; omega) | (unfold in64; omega) | trivial | rfl | exact Nat.le_of_ble_eq_true rfl) ?_
    try first | done | assumption | (unfold in32; omega) | (unfold in64; omega)
    refine k_Wh_sum_40 _ _ _ _ _ _ _ _ ?_
    simp only [↓w_nil, ↓w_cons, ↓w_ald3, ↓w_goto, true_and, and_true, true_implies, false_implies, not_true_eq_false, not_false_eq_true, Int.reduceEq, Int.reduceLT, Int.reduceLE, Int.reduceNeg]
    repeat refine And.intro (by first | assumption | exact IsW.kt (by assumption) | omega | (unfold in32; omega) | (unfold in64; omega) | trivial | rfl | exact Nat.le_of_ble_eq_true rfl) ?_
    try first | done | assumption | (unfold in32; omega) | (unfold in64; omega)
    refine k_Wh_sum_45 _ _ _ _ _ _ _ _ ?_
    simp only [↓w_nil, ↓w_cons, ↓w_ast7, ↓w_ild5, ↓w_ifeq, true_and, and_true, true_implies, false_implies, not_true_eq_false, not_false_eq_true, Int.reduceEq, Int.reduceLT, Int.reduceLE, Int.reduceNeg, w_nlI, w_nlL, w_nlR]
    repeat refine And.intro (by first | assumption | exact IsW.kt (by assumption) | omega | (unfold in32; omega) | (unfold in64; omega) | trivial | rfl | exact Nat.le_of_ble_eq_true rfl) ?_
    try first | done | assumption | (unfold in32; omega) | (unfold in64; omega)
    refine k_Wh_sum_52 _ _ _ _ _ _ _ _ ?_
    simp only [↓w_nil, ↓w_cons, ↓w_ald1, ↓w_gf0_2, ↓w_ifeq, true_and, and_true, true_implies, false_implies, not_true_eq_false, not_false_eq_true, Int.reduceEq, Int.reduceLT, Int.reduceLE, Int.reduceNeg, a6]
    repeat refine And.intro (by first | assumption | exact IsW.kt (by assumption) | omega | (unfold in32; omega) | (unfold in64; omega) | trivial | rfl | exact Nat.le_of_ble_eq_true rfl) ?_
    try first | done | assumption | (unfold in32; omega) | (unfold in64; omega)
    refine ⟨fun h0 => ?_, fun h0 => ?_⟩
    · refine k_Wh_sum_66 _ _ _ _ _ _ _ _ ?_
      simp only [↓w_nil, ↓w_cons, ↓w_ild4, ↓w_fall, true_and, and_true, true_implies, false_implies, not_true_eq_false, not_false_eq_true, Int.reduceEq, Int.reduceLT, Int.reduceLE, Int.reduceNeg]
      exact s68 a b va vb _ 1 ha hb hva hvb hle h15.1 e1 (fun hv => by have := e2 hv; rw [if_neg (by omega)] at this; exact this)
    · refine k_Wh_sum_59 _ _ _ _ _ _ _ _ ?_
      simp only [↓w_nil, ↓w_cons, ↓w_ald1, ↓w_gf0_2, ↓w_goto, true_and, and_true, true_implies, false_implies, not_true_eq_false, not_false_eq_true, Int.reduceEq, Int.reduceLT, Int.reduceLE, Int.reduceNeg, a6]
      repeat refine And.intro (by first | assumption | exact IsW.kt (by assumption) | omega | (unfold in32; omega) | (unfold in64; omega) | trivial | rfl | exact Nat.le_of_ble_eq_true rfl) ?_
      try first | done | assumption | (unfold in32; omega) | (unfold in64; omega)
      exact s68 a b va vb _ 1 ha hb hva hvb hle h15.1 e1 (fun hv => by have := e2 hv; rw [if_pos h0] at this; exact this)
