/-! Whole.divide -/
theorem mg_split {f : Int → Int} (a : Nat) : ∀ b : Nat, cw_mg f (a + b) = cw_mg f a + 1073741824 ^ a * cw_mg (fun t => f (a + t)) b
  | 0 => by simp [mg_0]
  | b + 1 => by
    rw [← Nat.add_assoc, mg_s, mg_s, mg_split a b, bt_add, Int.mul_add]
    have : ((a + b : Nat) : Int) = (a : Int) + b := by omega
    rw [this]
    have e : f ((a : Int) + b) * (1073741824 ^ a * 1073741824 ^ b) = 1073741824 ^ a * (f ((a : Int) + b) * 1073741824 ^ b) := by ac_rfl
    omega
theorem ab_na (v : Int) : cw_ab v = (v.natAbs : Int) := by unfold cw_ab; split <;> omega
theorem ab_tdiv (a b : Int) : cw_ab (a.tdiv b) = cw_ab a / cw_ab b := by rw [ab_na, ab_na, ab_na, Int.natAbs_tdiv]; exact Int.natCast_ediv _ _
theorem ab_tmod (a b : Int) : cw_ab (a.tmod b) = cw_ab a % cw_ab b := by rw [ab_na, ab_na, ab_na, Int.natAbs_tmod, Int.natCast_emod]
theorem sg_of_nn {x : Int} (h : 0 ≤ x) (h0 : x ≠ 0) : cw_sg x = 1 := by unfold cw_sg; rw [if_neg h0, if_pos (by omega)]
theorem sg_of_np {x : Int} (h : x ≤ 0) (h0 : x ≠ 0) : cw_sg x = -1 := by unfold cw_sg; rw [if_neg h0, if_neg (by omega)]
theorem sg_tmod {a b : Int} (h : a.tmod b ≠ 0) : cw_sg (a.tmod b) = cw_sg a := by
  by_cases ha : 0 ≤ a
  · have h1 := Int.tmod_nonneg b ha
    rw [sg_of_nn h1 h, sg_of_nn ha (fun q => h (by rw [q]; simp))]
  · have h1 := Int.tmod_nonneg b (show 0 ≤ -a by omega)
    rw [Int.neg_tmod] at h1
    rw [sg_of_np (by omega) h, sg_of_np (by omega) (by omega)]
theorem sg_tdiv {a b : Int} (h : a.tdiv b ≠ 0) : cw_sg (a.tdiv b) = cw_sg a * cw_sg b := by
  have a0 : a ≠ 0 := fun q => h (by rw [q]; simp)
  have b0 : b ≠ 0 := fun q => h (by rw [q]; simp)
  by_cases ha : 0 ≤ a <;> by_cases hb : 0 ≤ b
  · rw [sg_of_nn (Int.tdiv_nonneg ha hb) h, sg_of_nn ha a0, sg_of_nn hb b0]; rfl
  · have h1 := Int.tdiv_nonneg ha (show 0 ≤ -b by omega)
    rw [Int.tdiv_neg] at h1
    rw [sg_of_np (by omega) h, sg_of_nn ha a0, sg_of_np (by omega) b0]; rfl
  · have h1 := Int.tdiv_nonneg (show 0 ≤ -a by omega) hb
    rw [Int.neg_tdiv] at h1
    rw [sg_of_np (by omega) h, sg_of_np (by omega) a0, sg_of_nn hb b0]; rfl
  · have h1 := Int.tdiv_nonneg (show 0 ≤ -a by omega) (show 0 ≤ -b by omega)
    rw [Int.neg_tdiv, Int.tdiv_neg] at h1
    rw [sg_of_nn (by omega) h, sg_of_np (by omega) a0, sg_of_np (by omega) b0]; rfl
theorem div_of {A B Q R p : Int} (hp : 0 < p) (hB : 0 < B) (h : R + B * p * Q = A * p) (hR : 0 ≤ R ∧ R < B * p) : Q = A / B ∧ R = A % B * p := by
  have h1 : R = (A - B * Q) * p := by
    rw [Int.sub_mul]
    have : B * p * Q = B * Q * p := by ac_rfl
    omega
  have h2 : 0 ≤ A - B * Q := by
    by_cases q : 0 ≤ A - B * Q
    · exact q
    · have := Int.mul_neg_of_neg_of_pos (show A - B * Q < 0 by omega) hp
      omega
  have h3 : A - B * Q < B := by
    by_cases q : A - B * Q < B
    · exact q
    · have := Int.mul_le_mul_of_nonneg_right (show B ≤ A - B * Q by omega) (show 0 ≤ p by omega)
      omega
  have e : A / B = Q := by
    have h4 : A = (A - B * Q) + B * Q := by omega
    rw [h4, Int.add_mul_ediv_left _ _ (by omega), Int.ediv_eq_zero_of_lt h2 h3]; omega
  refine ⟨e.symm, ?_⟩
  rw [h1, Int.emod_def, e]
set_option maxHeartbeats 8000000 in
theorem p_Wh_divl {g : cw_G} {M M1 M3 : cw_M} {w a b r va vb B D : Int} {m' n' s : Nat} (hw : IsW w) (ha : IsW a) (hb : IsW b) (hr : IsW r) (hwa : w ≠ a) (hwb : w ≠ b) (hwr : w ≠ r) (hra : r ≠ a) (hrb : r ≠ b) (hm : m' ≤ 15) (hnm : n' < m') (hs : s < 30) (hS3 : Sh M3) (hf03 : cw_fr (fun c => Aw w c ∨ Aw r c) M M3)
    (f1 : M3 b = M1 b) (f2 : M3 (b + 1) = M1 (b + 1)) (f3 : M3 a = M1 a) (a6 : M1 a 2 = cw_sg va) (b2 : M1 b 1 = ((n' + 1 : Nat) : Int)) (b3 : cw_dg (M1 (b + 1)) (n' + 1)) (b6 : M1 b 2 = cw_sg vb) (b5 : B = cw_ab vb) (hD : B * 2 ^ s = D) (Bp : 0 < B)
    (hDe : cw_mg (cw_sd (M1 (b + 1)) s) (n' + 1) = D) (hv1 : 536870912 ≤ cw_sd (M1 (b + 1)) s n') (en : ((n' + 1 : Nat) : Int) - 1 = (n' : Int)) : ∀ (i : Nat) (Mi : cw_M), i ≤ m' - n' → (∀ c, c ≠ r + 1 → c ≠ w + 1 → Mi c = M3 c) → cw_dg (Mi (r + 1)) (m' + 1) → (∀ t : Nat, i + n' + 1 ≤ t → t < m' + 1 → Mi (r + 1) t = 0) → cw_mg (fun t => Mi (r + 1) (i + t)) (n' + 1) < D →
      (∀ t : Nat, i ≤ t → t < m' - n' → 0 ≤ Mi (w + 1) t ∧ Mi (w + 1) t < 1073741824) → cw_mg (Mi (r + 1)) (m' + 1) + D * (cw_mg (Mi (w + 1)) (m' - n') - cw_mg (Mi (w + 1)) i) = cw_ab va * 2 ^ s →
      mJ g y_Wh_divide 85 [.inr (.inr w), .inr (.inr a), .inr (.inr b), .inr (.inr r), .inl ((n' + 1 : Nat) : Int), .inl ((m' - n' : Nat) : Int), .inl s, .inl ((i : Int) - 1)] [] Mi (fun x M' => x = none ∧ RW M' w (va.tdiv vb) ∧ RW M' r (va.tmod vb) ∧ cw_fr (fun c => Aw w c ∨ Aw r c) M M') := by
  obtain ⟨k1, k2, k3, k4⟩ := id hw
  obtain ⟨p1, p2, p3, p4⟩ := id ha
  obtain ⟨q1, q2, q3, q4⟩ := id hb
  obtain ⟨r1, r2, r3, r4⟩ := id hr
  have x1 := isW_ne hw ha; have x2 := isW_ne hw hb; have x3 := isW_ne hw hr
  have x4 := isW_ne ha hw; have x5 := isW_ne hb hw; have x6 := isW_ne hr hw
  have x7 := isW_ne hr ha; have x8 := isW_ne hr hb; have x9 := isW_ne ha hr; have x10 := isW_ne hb hr
  have sp := cw_p2pos s
  intro i
  induction i with
  | zero =>
    intro Mi hi hM hdr hz hhi hdw he
    have hfi : cw_fr (fun c => Aw w c ∨ Aw r c) M3 Mi := ⟨fun c hc => hM c (fun q => hc (Or.inr (Or.inr q))) (fun q => hc (Or.inl (Or.inr q))), fun c k hk => by rw [hM c (fun q => by rw [q, hr.rsl] at hk; cases hk) (fun q => by rw [q, hw.rsl] at hk; cases hk)]⟩
    have hSi := hS3.fr hfi
    have hR : cw_mg (Mi (r + 1)) (m' + 1) = cw_mg (Mi (r + 1)) (n' + 1) := mg_z (m' + 1) (by omega) (fun t h1 h2 => hz t (by omega) h2)
    have hR2 : cw_mg (fun t => Mi (r + 1) (((0 : Nat) : Int) + t)) (n' + 1) = cw_mg (Mi (r + 1)) (n' + 1) := mg_cg _ fun t _ => by show Mi (r + 1) (((0 : Nat) : Int) + t) = _; rw [show ((0 : Nat) : Int) + (t : Int) = t by omega]
    rw [hR2] at hhi
    rw [hR, mg_0, Int.sub_zero] at he
    have dr : cw_dg (Mi (r + 1)) (n' + 1) := dg_le hdr (by omega)
    have r0 := mg_lt (n' + 1) dr
    obtain ⟨hQ, hρ⟩ := div_of (A := cw_ab va) (B := B) (Q := cw_mg (Mi (w + 1)) (m' - n')) (R := cw_mg (Mi (r + 1)) (n' + 1)) (p := 2 ^ s) (by omega) Bp (by rw [hD]; exact he) (by rw [hD]; exact ⟨r0.1, hhi⟩)
    refine k_Wh_divide_85 _ _ _ _ _ _ _ _ ?_
    simp only [↓w_nil, ↓w_cons, ↓w_ild7, ↓w_iflt, true_and, and_true, true_implies, false_implies, not_true_eq_false, not_false_eq_true, Int.reduceEq, Int.reduceLT, Int.reduceLE, Int.reduceNeg]
    repeat refine And.intro (by first | assumption | exact IsW.kt (by assumption) | omega | (unfold in32; omega) | (unfold in64; omega) | trivial | rfl | exact Nat.le_of_ble_eq_true rfl) ?_
    try first | done | assumption | (unfold in32; omega) | (unfold in64; omega)
    refine ⟨fun _ => ?_, fun h => absurd h (by omega)⟩
    have ga : Mi a 2 = cw_sg va := by rw [hM a (by omega) (by omega), f3]; exact a6
    refine k_Wh_divide_112 _ _ _ _ _ _ _ _ ?_
    simp only [↓w_nil, ↓w_cons, ↓w_ald3, ↓w_ild6, ↓w_ild4, ↓w_ald1, ↓w_gf0_2, ↓w_cv3, true_and, and_true, true_implies, false_implies, not_true_eq_false, not_false_eq_true, Int.reduceEq, Int.reduceLT, Int.reduceLE, Int.reduceNeg, w_c80, w_c8I, w_c8L, w_c8R, ga]
    repeat refine And.intro (by first | assumption | exact IsW.kt (by assumption) | omega | (unfold in32; omega) | (unfold in64; omega) | trivial | rfl | exact Nat.le_of_ble_eq_true rfl) ?_
    try first | done | assumption | (unfold in32; omega) | (unfold in64; omega)
    refine ⟨_, p_Wh_shiftDown (n := n' + 1) (s := s) (v := va.tmod vb) hSi hr hs (by omega) dr (by rw [hρ, ab_tmod, b5]) (fun h => (sg_tmod h).symm), ?_⟩
    rintro x M4 ⟨rfl, hr4, hf4⟩
    have h4w : M4 (w + 1) = Mi (w + 1) := hf4.1 _ (by unfold Aw; omega)
    have h4a : M4 a 2 = cw_sg va := by rw [hf4.1 a (by unfold Aw; omega)]; exact ga
    have h4b : M4 b 2 = cw_sg vb := by rw [hf4.1 b (by unfold Aw; omega), hM b (by omega) (by omega), f1]; exact b6
    refine k_Wh_divide_124 _ _ _ _ _ _ _ _ ?_
    simp only [↓w_nil, ↓w_cons, ↓w_ald0, ↓w_ild5, ↓w_ald1, ↓w_gf0_2, ↓w_ald2, ↓w_imul, ↓w_cv2, true_and, and_true, true_implies, false_implies, not_true_eq_false, not_false_eq_true, Int.reduceEq, Int.reduceLT, Int.reduceLE, Int.reduceNeg, w_c80, w_c8I, w_c8L, w_c8R, w_tl0, h4a, h4b]
    have sab : in32 (cw_sg va) ∧ in32 (cw_sg vb) := by constructor <;> (unfold in32 cw_sg; split <;> (try split) <;> omega)
    repeat refine And.intro (by first | assumption | exact IsW.kt (by assumption) | omega | (unfold in32; omega) | (unfold in64; omega) | trivial | rfl | exact Nat.le_of_ble_eq_true rfl) ?_
    try first | done | assumption | (unfold in32; omega) | (unfold in64; omega)
    refine ⟨_, p_Wh_finish' (n := m' - n') (v := va.tdiv vb) (hSi.fr hf4) hw (by omega) (by rw [h4w]; exact fun t ht => hdw t (by omega) ht) (by rw [h4w, hQ, ab_tdiv, b5]) (fun h => (sg_tdiv h).symm), ?_⟩
    rintro x M5 ⟨rfl, hw5, hf5⟩
    refine k_Wh_divide_139 _ _ _ _ _ _ _ _ ?_
    simp only [↓w_nil, ↓w_vret, true_and, and_true, true_implies, false_implies, not_true_eq_false, not_false_eq_true, Int.reduceEq, Int.reduceLT, Int.reduceLE, Int.reduceNeg, w_tl0]
    refine ⟨hw5, hr4.fr hf5 (by omega) (by omega), fr_tr hf03 (fr_tr hfi (fr_tr (fr_mo hf4 fun c h => Or.inr h) (fr_mo hf5 fun c h => Or.inl (Or.inl h))))⟩
  | succ i ih =>
    intro Mi hi hM hdr hz hhi hdw he
    have hfi : cw_fr (fun c => Aw w c ∨ Aw r c) M3 Mi := ⟨fun c hc => hM c (fun q => hc (Or.inr (Or.inr q))) (fun q => hc (Or.inl (Or.inr q))), fun c k hk => by rw [hM c (fun q => by rw [q, hr.rsl] at hk; cases hk) (fun q => by rw [q, hw.rsl] at hk; cases hk)]⟩
    have hSi := hS3.fr hfi
    have lw := hw.limb hSi
    have ei : ((i + 1 : Nat) : Int) - 1 = (i : Int) := by omega
    rw [ei]
    have hbi : Mi (b + 1) = M1 (b + 1) := by rw [hM (b + 1) (by omega) (by omega), f2]
    have hbs : Mi b 1 = ((n' + 1 : Nat) : Int) := by rw [hM b (by omega) (by omega), f1]; exact b2
    have hud : cw_dg (fun t => Mi (r + 1) (i + t)) (n' + 1 + 1) := fun t ht => by
      have := hdr (i + t) (by omega)
      rw [show ((i + t : Nat) : Int) = (i : Int) + t by omega] at this
      exact this
    have hsp : cw_mg (fun t => Mi (r + 1) (i + t)) (n' + 1 + 1) = Mi (r + 1) i + 1073741824 * cw_mg (fun t => Mi (r + 1) (((i + 1 : Nat) : Int) + t)) (n' + 1) := by
      have := mg_split (f := fun t => Mi (r + 1) (i + t)) 1 (n' + 1)
      rw [show 1 + (n' + 1) = n' + 1 + 1 by omega] at this
      rw [this]
      have e1 : cw_mg (fun t => Mi (r + 1) ((i : Int) + t)) 1 = Mi (r + 1) i := by show 0 + Mi (r + 1) ((i : Int) + ((0 : Nat) : Int)) * 1 = _; rw [show (i : Int) + ((0 : Nat) : Int) = i by omega]; omega
      rw [e1]
      congr 1
      show 1073741824 * _ = _
      congr 1
      refine mg_cg _ fun t _ => ?_
      show Mi (r + 1) ((i : Int) + (((1 : Nat) : Int) + t)) = Mi (r + 1) (((i + 1 : Nat) : Int) + t)
      congr 1; omega
    have x0 := hdr i (by omega)
    generalize hUU : cw_mg (fun t => Mi (r + 1) (i + t)) (n' + 1 + 1) = U at hsp
    refine k_Wh_divide_85 _ _ _ _ _ _ _ _ ?_
    simp only [↓w_nil, ↓w_cons, ↓w_ild7, ↓w_iflt, true_and, and_true, true_implies, false_implies, not_true_eq_false, not_false_eq_true, Int.reduceEq, Int.reduceLT, Int.reduceLE, Int.reduceNeg]
    repeat refine And.intro (by first | assumption | exact IsW.kt (by assumption) | omega | (unfold in32; omega) | (unfold in64; omega) | trivial | rfl | exact Nat.le_of_ble_eq_true rfl) ?_
    try first | done | assumption | (unfold in32; omega) | (unfold in64; omega)
    intro _
    refine k_Wh_divide_90 _ _ _ _ _ _ _ _ ?_
    simp only [↓w_nil, ↓w_cons, ↓w_ald0, ↓w_gf2_0, ↓w_ild7, ↓w_ald3, ↓w_ald2, ↓w_ild6, ↓w_cv3, true_and, and_true, true_implies, false_implies, not_true_eq_false, not_false_eq_true, Int.reduceEq, Int.reduceLT, Int.reduceLE, Int.reduceNeg, w_c80, w_c8I, w_c8L, w_c8R, lw]
    repeat refine And.intro (by first | assumption | exact IsW.kt (by assumption) | omega | (unfold in32; omega) | (unfold in64; omega) | trivial | rfl | exact Nat.le_of_ble_eq_true rfl) ?_
    try first | done | assumption | (unfold in32; omega) | (unfold in64; omega)
    refine ⟨_, p_Wh_takeOut (n := n' + 1) (s := s) (j := i) (U := U) (D := D) hSi hr hb hrb hs (by omega) (by omega) hbs (by rw [hbi]; exact b3) hud hUU.symm (by rw [hbi]; exact hDe.symm) (by rw [hbi, en]; exact hv1) (by omega), ?_⟩
    rintro x M6 ⟨q, rfl, hq1, hq2, hM6, hk6, hz6, hd6, hv6⟩
    have hw6 : M6 (w + 1) = Mi (w + 1) := hM6 _ (by omega)
    refine k_Wh_divide_105 _ _ _ _ _ _ _ _ ?_
    simp only [↓w_nil, ↓w_cons, ↓w_last, ↓w_inc7, ↓w_goto, true_and, and_true, true_implies, false_implies, not_true_eq_false, not_false_eq_true, Int.reduceEq, Int.reduceLT, Int.reduceLE, Int.reduceNeg, w_nlI, w_nlL, w_nlR, w_tl1, k2]
    repeat refine And.intro (by first | assumption | exact IsW.kt (by assumption) | omega | (unfold in32; omega) | (unfold in64; omega) | trivial | rfl | exact Nat.le_of_ble_eq_true rfl) ?_
    try first | done | assumption | (unfold in32; omega) | (unfold in64; omega)
    rw [show (i : Int) + -1 = (i : Int) - 1 by omega]
    have hrr : cw_up M6 (w + 1) i q (r + 1) = M6 (r + 1) := cw_up_ne (by omega)
    have hww : ∀ t : Int, cw_up M6 (w + 1) i q (w + 1) t = if t = (i : Int) then q else Mi (w + 1) t := fun t => by rw [cw_up_eq, hw6]
    have hlow : ∀ t : Nat, t < i → M6 (r + 1) t = Mi (r + 1) t := fun t ht => hk6 t (by omega)
    have dnew : cw_dg (M6 (r + 1)) (m' + 1) := fun t ht => by
      by_cases h1 : t < i
      · rw [hlow t h1]; exact hdr t ht
      · by_cases h2 : t < i + (n' + 1)
        · have := hd6 (t - i) (by omega)
          have e : (i : Int) + ((t - i : Nat) : Int) = t := by omega
          have this : 0 ≤ M6 (r + 1) ((i : Int) + ((t - i : Nat) : Int)) ∧ M6 (r + 1) ((i : Int) + ((t - i : Nat) : Int)) < 1073741824 := this
          rw [e] at this
          exact this
        · by_cases h3 : t = i + (n' + 1)
          · have e : (i : Int) + ((n' + 1 : Nat) : Int) = t := by omega
            rw [e] at hz6
            rw [hz6]; decide
          · rw [hk6 t (by omega)]; exact hdr t ht
    have znew : ∀ t : Nat, i + n' + 1 ≤ t → t < m' + 1 → M6 (r + 1) t = 0 := fun t h1 h2 => by
      by_cases h3 : t = i + (n' + 1)
      · have e : (i : Int) + ((n' + 1 : Nat) : Int) = t := by omega
        rw [e] at hz6
        exact hz6
      · rw [hk6 t (by omega)]; exact hz t (by omega) h2
    refine ih _ (by omega) (fun c h1 h2 => by rw [cw_up_ne h2, hM6 c h1]; exact hM c h1 h2) (by rw [hrr]; exact dnew) (by rw [hrr]; exact znew) ?_ ?_ ?_
    · rw [hrr, hv6]
      have := hq2.2
      rw [Int.add_mul, Int.one_mul] at this
      omega
    · intro t h1 h2
      rw [hww]
      by_cases h3 : (t : Int) = i
      · rw [if_pos h3]; exact hq1
      · rw [if_neg h3]; exact hdw t (by omega) h2
    · rw [hrr]
      -- the rest loses q D at place i
      have s1 : cw_mg (Mi (r + 1)) (m' + 1) = cw_mg (Mi (r + 1)) i + 1073741824 ^ i * U := by
        rw [mg_z (k := i + (n' + 1 + 1)) (m' + 1) (by omega) (fun t h1 h2 => hz t (by omega) h2), mg_split i (n' + 1 + 1), hUU]
      have s2 : cw_mg (M6 (r + 1)) (m' + 1) = cw_mg (Mi (r + 1)) i + 1073741824 ^ i * (U - q * D) := by
        rw [mg_z (k := i + (n' + 1)) (m' + 1) (by omega) (fun t h1 h2 => znew t (by omega) h2), mg_split i (n' + 1), hv6, mg_cg i hlow]
      have s3 := mg_upd (f := Mi (w + 1)) (h := cw_up M6 (w + 1) i q (w + 1)) (k := i) (v := q) hww (m' - n') (by omega)
      have s4 : cw_mg (cw_up M6 (w + 1) i q (w + 1)) i = cw_mg (Mi (w + 1)) i := mg_cg i fun t ht => by rw [hww, if_neg (by omega)]
      rw [s1, mg_s (f := Mi (w + 1)) (n := i)] at he
      rw [s2, s3, s4]
      generalize (1073741824 : Int) ^ i = P at *
      have t1 : P * (U - q * D) = P * U - D * (q * P) := by
        rw [Int.mul_sub]
        have : P * (q * D) = D * (q * P) := by ac_rfl
        omega
      have t2 : D * (cw_mg (Mi (w + 1)) (m' - n') + (q - Mi (w + 1) i) * P - cw_mg (Mi (w + 1)) i) = D * (cw_mg (Mi (w + 1)) (m' - n') - (cw_mg (Mi (w + 1)) i + Mi (w + 1) i * P)) + D * (q * P) := by
        rw [← Int.mul_add]
        congr 1
        rw [Int.sub_mul]; omega
      omega
