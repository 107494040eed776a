/-! the reference: stores -/
theorem cq_b {b x : Int} (hb : 0 ≤ b) : 0 ≤ c_q b x ∧ c_q b x ≤ x * x := by
  have sq : 0 ≤ x * x := by rw [← ab_sq]; exact Int.mul_nonneg (ab_nn x) (ab_nn x)
  unfold c_q
  split
  · omega
  · rename_i h
    have a1 := Int.mul_nonneg hb (show 0 ≤ 2 * cw_ab x - b by omega)
    have a2 := Int.mul_nonneg (show 0 ≤ cw_ab x - b by omega) (show 0 ≤ cw_ab x - b by omega)
    have e1 : b * (2 * cw_ab x - b) = 2 * b * cw_ab x - b * b := by grind
    have e2 : (cw_ab x - b) * (cw_ab x - b) = x * x - (2 * b * cw_ab x - b * b) := by rw [← ab_sq x]; grind
    omega
theorem ca_b {f fl : Int → Int} {n t p w x : Int} (hW : WF n f fl) (ht : 0 ≤ t ∧ t < 24) (hp : 0 ≤ p ∧ p < f 0) (hw : 0 ≤ w) : 0 ≤ c_a f t p w x ∧ c_a f t p w x ≤ 200 * (x * x) := by
  have sq : 0 ≤ x * x := by rw [← ab_sq]; exact Int.mul_nonneg (ab_nn x) (ab_nn x)
  have r := row_b hW hp.1 hp.2
  unfold c_a
  split
  · rename_i g
    have b := hW.2.2.2.1 p t hp.1 hp.2 ht.1 ht.2 g
    exact ⟨Int.mul_nonneg (by omega) sq, Int.mul_le_mul_of_nonneg_right (by omega) sq⟩
  · have q1 := cq_b (x := x) (Int.mul_nonneg r.2.2.2.1.1 hw)
    have q2 := cq_b (x := x) (Int.mul_nonneg r.2.1.1 hw)
    have a1 := Int.mul_nonneg r.2.2.2.2.1 sq
    have a2 := Int.mul_nonneg (show 0 ≤ f (13 + 12 * p) - f (15 + 12 * p) by omega) q1.1
    have a3 := Int.mul_nonneg (show 0 ≤ f (11 + 12 * p) - f (13 + 12 * p) by omega) q2.1
    have b2 := Int.mul_le_mul_of_nonneg_left q1.2 (show 0 ≤ f (13 + 12 * p) - f (15 + 12 * p) by omega)
    have b3 := Int.mul_le_mul_of_nonneg_left q2.2 (show 0 ≤ f (11 + 12 * p) - f (13 + 12 * p) by omega)
    have b4 := Int.mul_le_mul_of_nonneg_right r.1.2 sq
    have e : f (15 + 12 * p) * (x * x) + (f (13 + 12 * p) - f (15 + 12 * p)) * (x * x) + (f (11 + 12 * p) - f (13 + 12 * p)) * (x * x) = f (11 + 12 * p) * (x * x) := by grind
    omega
def RS (s : Int) : Prop := s = 0 ∨ s = 1 ∨ s = 2 ∨ s = 8 ∨ s = 9 ∨ (12 ≤ s ∧ s ≤ 15)
abbrev C_st : Int := 150000000000000000000000000000000000000000000000000
def Lq (n : Nat) (N D : Int) : Prop := (0 < D ∧ D ≤ (40401 : Int) ^ n) ∧ (-((n : Int) * C_st * (40401 : Int) ^ n) ≤ N ∧ N ≤ (n : Int) * C_st * (40401 : Int) ^ n)
theorem z4_pos (n : Nat) : 0 < (40401 : Int) ^ n := Int.pow_pos (by omega)
theorem z4_le {n m : Nat} (h : n ≤ m) : (40401 : Int) ^ n ≤ (40401 : Int) ^ m := by
  obtain ⟨d, hd⟩ : ∃ d, m = n + d := ⟨m - n, by omega⟩
  rw [hd, Int.pow_add]
  have := Int.mul_le_mul_of_nonneg_left (show (1 : Int) ≤ (40401 : Int) ^ d by have := z4_pos d; omega) (Int.le_of_lt (z4_pos n))
  omega
theorem lq_up {n m : Nat} {N D w S : Int} (h : Lq n N D) (hw : 0 < w ∧ w ≤ (40401 : Int) ^ m) (hS : -((m : Int) * C_st) ≤ S ∧ S ≤ (m : Int) * C_st) : Lq (n + m) (N * w + 1 * (S * D)) (D * w) := by
  obtain ⟨⟨d0, d1⟩, hN⟩ := h
  have zn := z4_pos n
  have zm := z4_pos m
  have a1 := ab_mb (b := (40401 : Int) ^ m) hN ⟨by omega, hw.2⟩
  have a2 := ab_mb (b := (40401 : Int) ^ n) hS ⟨by omega, d1⟩
  have a3 := Int.mul_pos d0 hw.1
  have a4 := Int.mul_le_mul d1 hw.2 (Int.le_of_lt hw.1) (Int.le_of_lt zn)
  have mc := Int.mul_nonneg (show (0 : Int) ≤ m by omega) (show 0 ≤ C_st by decide)
  have a5 : (m : Int) * C_st * (40401 : Int) ^ n ≤ (m : Int) * C_st * (40401 : Int) ^ n * (40401 : Int) ^ m := by
    have := Int.mul_le_mul_of_nonneg_left (show (1 : Int) ≤ (40401 : Int) ^ m by omega) (Int.mul_nonneg mc (Int.le_of_lt zn))
    rw [Int.mul_one] at this
    exact this
  have e : ((n + m : Nat) : Int) * C_st * (40401 : Int) ^ (n + m) = (n : Int) * C_st * (40401 : Int) ^ n * (40401 : Int) ^ m + (m : Int) * C_st * (40401 : Int) ^ n * (40401 : Int) ^ m := by
    rw [Int.natCast_add, Int.pow_add]; grind
  unfold Lq
  rw [e, Int.pow_add]
  exact ⟨⟨a3, a4⟩, by omega, by omega⟩
theorem lq_b {n : Nat} {N D : Int} (h : Lq n N D) (hn : n ≤ 7) : cw_ab N < 1073741824 ^ 10 ∧ cw_ab D < 1073741824 ^ 4 := by
  have z := z4_le hn
  have nC1 : (n : Int) * C_st ≤ 7 * C_st := Int.mul_le_mul_of_nonneg_right (by omega) (by decide)
  have nC : (n : Int) * C_st * (40401 : Int) ^ n ≤ 7 * C_st * (40401 : Int) ^ 7 := Int.mul_le_mul nC1 z (Int.le_of_lt (z4_pos n)) (by decide)
  exact ⟨Int.lt_of_le_of_lt (ab_rng (b := 7 * C_st * (40401 : Int) ^ 7) ⟨by have := h.2.1; omega, by have := h.2.2; omega⟩) (by decide), Int.lt_of_le_of_lt (ab_rng (b := (40401 : Int) ^ 7) ⟨by have := h.1.1; have := z4_pos 7; omega, by have := h.1.2; omega⟩) (by decide)⟩
/-- one road of the whole -/
theorem so_one {g : cw_G} {M0 M : cw_M} {f fl X F : Int → Int} {n0 l : Int} {T R : Tr} {ps : Int → Int} {tr : Int → Tr} {N D : Int} {n : Nat} {z : cw_V} {Q : Option cw_V → cw_M → Prop} (hS0 : Sh M0) (hf : M0 324 = f) (hW : WF n0 f fl) (h : H_all f (f 3) X F M0 T ps tr) (hR : H_rd f (f 3) X F M0 T ps tr R l) (r : cw_rf RS M0 M) (h8 : RM M 8 N) (h9 : RM M 9 D) (hb : Lq n N D) (hn : n + t_lv R ≤ 7)
    (nx : ∀ (M2 : cw_M) (z : cw_V), cw_rf RS M0 M2 → RM M2 8 (N * (M0 333 l * M0 333 l) + 1 * (t_tl (fun p => c_a f (f 3) p (M0 333 l) (X p)) R * D)) → RM M2 9 (D * (M0 333 l * M0 333 l)) → Lq (n + t_lv R) (N * (M0 333 l * M0 333 l) + 1 * (t_tl (fun p => c_a f (f 3) p (M0 333 l) (X p)) R * D)) (D * (M0 333 l * M0 333 l)) → mJ g y_Mo_stores 16 [.inr (.inr 319), .inl (l + (1 + (t_er R).1)), z] [] M2 Q) :
    mJ g y_Mo_stores 16 [.inr (.inr 319), .inl l, z] [] M Q := by
  have hS := hS0.rf r
  have w0 := hW.1
  have t3 : 0 ≤ f 3 ∧ f 3 < 24 := by omega
  obtain ⟨⟨w, hw, ⟨e333, hw2⟩, hx, -⟩, ⟨r1, r2, r3, r4, r5, r6⟩, -, -, t1R, RT, lv7⟩ := id hR
  have mt := h.1
  have n60 := mt.2.1
  have nn := (er_nn R).1
  have e319 : M 319 7 = 1 + (t_er T).2 := by rw [r.1 319 (by omega)]; exact mt.1
  have nr : ∀ s : Int, 16 ≤ s → ¬ RS s := fun s hs y => by unfold RS at y; omega
  have hfb : ∀ p, t_in T p → ∀ w : Int, 0 ≤ w → -C_st ≤ c_a f (f 3) p w (X p) ∧ c_a f (f 3) p w (X p) ≤ C_st := fun p hp w hw => by
    have c := h.2.2.1.2.2.2 p hp
    have b := ca_b (x := X p) hW t3 ⟨c.1, c.2.1⟩ hw
    have m := ab_mb (hd_f h hp).1.2 (hd_f h hp).1.2
    show -150000000000000000000000000000000000000000000000000 ≤ _ ∧ _ ≤ 150000000000000000000000000000000000000000000000000
    omega
  have Sb := tl_b (h := fun p => c_a f (f 3) p w (X p)) (C := C_st) (by decide) R (fun p hp => hfb p (RT p hp) w (by omega))
  have w201 : w * w ≤ (40401 : Int) ^ t_lv R := by
    have m := Int.mul_le_mul hw2 hw2 (by omega) (Int.le_of_lt (z_pos _))
    rw [← Int.mul_pow] at m
    exact m
  have ww0 : 0 < w * w := Int.mul_pos hw.1 hw.1
  have up := lq_up (S := t_tl (fun p => c_a f (f 3) p w (X p)) R) hb (w := w * w) ⟨ww0, w201⟩ Sb
  rw [e333] at nx
  have bnd := lq_b hb (by omega)
  -- nodes that are no road of the whole
  have skip : ∀ (d : Nat) (j : Int) (M2 : cw_M) (z : cw_V), j + d = l + (1 + (t_er R).1) → l < j → cw_rf RS M0 M2 → RM M2 8 (N * (w * w) + 1 * (t_tl (fun p => c_a f (f 3) p w (X p)) R * D)) → RM M2 9 (D * (w * w)) → mJ g y_Mo_stores 16 [.inr (.inr 319), .inl j, z] [] M2 Q := by
    intro d
    induction d with
    | zero =>
      intro j M2 z hj hl r2 a8 a9
      have ej : j = l + (1 + (t_er R).1) := by omega
      subst ej
      exact nx M2 z r2 a8 a9 up
    | succ d ih =>
      intro j M2 z hj hl r2 a8 a9
      have hS2 := hS0.rf r2
      have pj := r6 j hl (by omega)
      have e7 : M2 319 7 = 1 + (t_er T).2 := by rw [r2.1 319 (by omega)]; exact mt.1
      have e8 : M2 328 j = M0 328 j := by rw [r2.1 328 (by omega)]
      have p32 : in32 (M0 328 j) := by unfold in32; omega
      refine k_Mo_stores_16 _ _ _ _ _ _ _ _ ?_
      simp (disch := omega) only [↓w_nil, ↓w_cons, ↓w_ild1, ↓w_ald0, ↓w_gf0_7, ↓w_icge, true_and, and_true, true_implies, false_implies, not_true_eq_false, not_false_eq_true, Int.reduceEq, Int.reduceLT, Int.reduceLE, Int.reduceNeg, w_up1, w_up2, w_up3, e7, c_k319, c_k320, c_k321, c_k322, c_k323, c_k324, c_k325, c_k326, c_k327, c_k328, c_k329, c_k330, c_k331, c_k332, c_k333, c_k334, c_k335, c_k336, c_k337, c_k338, c_k339, c_k340, c_k341, c_k342, c_k343, c_k344, c_k345, c_k346, c_k347, hS2.r319_0, hS2.r319_1, hS2.r319_2, hS2.r319_3, hS2.r319_4, hS2.r319_5, hS2.r319_6, hS2.r319_8, hS2.r319_9, hS2.r319_10, hS2.r319_11, hS2.r319_12, hS2.r319_13, hS2.r319_14, hS2.r319_15, hS2.r319_16, hS2.r319_17, hS2.r319_20, hS2.r319_21, hS2.r319_22, hS2.r319_23, hS2.r319_24, hS2.r319_25, hS2.r319_26, hS2.r319_29, hS2.r319_30, hS2.r319_31, hS2.r319_32, w_sf1, w_sf3]
      repeat refine And.intro (by first | assumption | exact IsW.kt (by assumption) | omega | (unfold in32; omega) | (unfold in64; omega) | exact True.intro | exact Or.inl True.intro | exact Or.inr True.intro | rfl | exact Nat.le_of_ble_eq_true rfl) ?_
      try first | done | assumption | (unfold in32; omega) | (unfold in64; omega)
      intro _
      refine k_Mo_stores_24 _ _ _ _ _ _ _ _ ?_
      simp (disch := omega) only [↓w_nil, ↓w_cons, ↓w_ald0, ↓w_gf2_9, ↓w_ild1, ↓w_iald, ↓w_ifne, true_and, and_true, true_implies, false_implies, not_true_eq_false, not_false_eq_true, Int.reduceEq, Int.reduceLT, Int.reduceLE, Int.reduceNeg, w_up1, w_up2, w_up3, e8, c_k319, c_k320, c_k321, c_k322, c_k323, c_k324, c_k325, c_k326, c_k327, c_k328, c_k329, c_k330, c_k331, c_k332, c_k333, c_k334, c_k335, c_k336, c_k337, c_k338, c_k339, c_k340, c_k341, c_k342, c_k343, c_k344, c_k345, c_k346, c_k347, hS2.r319_0, hS2.r319_1, hS2.r319_2, hS2.r319_3, hS2.r319_4, hS2.r319_5, hS2.r319_6, hS2.r319_8, hS2.r319_9, hS2.r319_10, hS2.r319_11, hS2.r319_12, hS2.r319_13, hS2.r319_14, hS2.r319_15, hS2.r319_16, hS2.r319_17, hS2.r319_20, hS2.r319_21, hS2.r319_22, hS2.r319_23, hS2.r319_24, hS2.r319_25, hS2.r319_26, hS2.r319_29, hS2.r319_30, hS2.r319_31, hS2.r319_32, w_sf1, w_sf3]
      repeat refine And.intro (by first | assumption | exact IsW.kt (by assumption) | omega | (unfold in32; omega) | (unfold in64; omega) | exact True.intro | exact Or.inl True.intro | exact Or.inr True.intro | rfl | exact Nat.le_of_ble_eq_true rfl) ?_
      try first | done | assumption | (unfold in32; omega) | (unfold in64; omega)
      refine ⟨fun _ => ?_, fun hc => absurd hc (by omega)⟩
      refine k_Mo_stores_157 _ _ _ _ _ _ _ _ ?_
      simp (disch := omega) only [↓w_nil, ↓w_cons, ↓w_inc1, ↓w_goto, true_and, and_true, true_implies, false_implies, not_true_eq_false, not_false_eq_true, Int.reduceEq, Int.reduceLT, Int.reduceLE, Int.reduceNeg, w_nlI, w_nlL, w_nlR, w_up1, w_up2, w_up3]
      repeat refine And.intro (by first | assumption | exact IsW.kt (by assumption) | omega | (unfold in32; omega) | (unfold in64; omega) | exact True.intro | exact Or.inl True.intro | exact Or.inr True.intro | rfl | exact Nat.le_of_ble_eq_true rfl) ?_
      try first | done | assumption | (unfold in32; omega) | (unfold in64; omega)
      exact ih (j + 1) M2 _ (by omega) (by omega) r2 a8 a9
  -- the sum over the pieces of the road
  have sum : ∀ (d i : Nat) (M2 : cw_M), i + d = (f 0).toNat → Sh M2 → cw_rf RS M0 M2 → RM M2 8 N → RM M2 9 D → RM M2 15 (k_ix (t_ix R) (fun p => c_a f (f 3) p w (X p)) i) → mJ g y_Mo_stores 42 [.inr (.inr 319), .inl l, .inl (i : Int)] [] M2 Q := by
    intro d
    induction d with
    | zero =>
      intro i M2 hi hS2 r2 a8 a9 a15
      have ei : i = (f 0).toNat := by omega
      have e4 : M2 324 = f := by rw [r2.1 324 (by omega)]; exact hf
      have e33 : M2 333 l = w := by rw [r2.1 333 (by omega)]; exact e333
      rw [ei, kix_tl R (fun q hq => by have := h.2.2.1.2.2.2 q (RT q hq); omega)] at a15
      have lC : (t_lv R : Int) * C_st ≤ 7 * C_st := Int.mul_le_mul_of_nonneg_right (by omega) (by decide)
      have bS : cw_ab (t_tl (fun p => c_a f (f 3) p w (X p)) R) < 1073741824 ^ 6 := Int.lt_of_le_of_lt (ab_rng (b := 7 * C_st) ⟨by omega, by omega⟩) (by decide)
      have bw : cw_ab w < 1073741824 ^ 2 := Int.lt_of_le_of_lt (ab_rng (b := 13254776280841401) ⟨by omega, hw.2⟩) (by decide)
      have bww : cw_ab (w * w) < 1073741824 ^ 4 := by
        rw [ab_mul]
        exact Int.lt_of_lt_of_le (mul_lt2 (ab_nn _) bw (ab_nn _) bw) (by decide)
      have b1 : cw_ab (N * (w * w)) < 1073741824 ^ 31 := by
        rw [ab_mul]
        exact Int.lt_trans (mul_lt2 (ab_nn _) bnd.1 (ab_nn _) bww) (by decide)
      have b2 : cw_ab (t_tl (fun p => c_a f (f 3) p w (X p)) R * D) < 1073741824 ^ 31 := by
        rw [ab_mul]
        exact Int.lt_trans (mul_lt2 (ab_nn _) bS (ab_nn _) bnd.2) (by decide)
      refine k_Mo_stores_42 _ _ _ _ _ _ _ _ ?_
      simp (disch := omega) only [↓w_nil, ↓w_cons, ↓w_ild2, ↓w_ald0, ↓w_gf2_4, ↓w_ic, ↓w_iald, ↓w_icge, true_and, and_true, true_implies, false_implies, not_true_eq_false, not_false_eq_true, Int.reduceEq, Int.reduceLT, Int.reduceLE, Int.reduceNeg, w_up1, w_up2, w_up3, e4, c_k319, c_k320, c_k321, c_k322, c_k323, c_k324, c_k325, c_k326, c_k327, c_k328, c_k329, c_k330, c_k331, c_k332, c_k333, c_k334, c_k335, c_k336, c_k337, c_k338, c_k339, c_k340, c_k341, c_k342, c_k343, c_k344, c_k345, c_k346, c_k347, hS2.r319_0, hS2.r319_1, hS2.r319_2, hS2.r319_3, hS2.r319_4, hS2.r319_5, hS2.r319_6, hS2.r319_8, hS2.r319_9, hS2.r319_10, hS2.r319_11, hS2.r319_12, hS2.r319_13, hS2.r319_14, hS2.r319_15, hS2.r319_16, hS2.r319_17, hS2.r319_20, hS2.r319_21, hS2.r319_22, hS2.r319_23, hS2.r319_24, hS2.r319_25, hS2.r319_26, hS2.r319_29, hS2.r319_30, hS2.r319_31, hS2.r319_32, w_sf1, w_sf3]
      repeat refine And.intro (by first | assumption | exact IsW.kt (by assumption) | omega | (unfold in32; omega) | (unfold in64; omega) | exact True.intro | exact Or.inl True.intro | exact Or.inr True.intro | rfl | exact Nat.le_of_ble_eq_true rfl) ?_
      try first | done | assumption | (unfold in32; omega) | (unfold in64; omega)
      refine ⟨fun _ => ?_, fun h => absurd h (by omega)⟩
      refine k_Mo_stores_92 _ _ _ _ _ _ _ _ ?_
      simp (disch := omega) only [↓w_nil, ↓w_cons, ↓w_ald0, ↓w_ic, ↓w_cv2, true_and, and_true, true_implies, false_implies, not_true_eq_false, not_false_eq_true, Int.reduceEq, Int.reduceLT, Int.reduceLE, Int.reduceNeg, w_c80, w_c8I, w_c8L, w_c8R, w_up1, w_up2, w_up3]
      repeat refine And.intro (by first | assumption | exact IsW.kt (by assumption) | omega | (unfold in32; omega) | (unfold in64; omega) | exact True.intro | exact Or.inl True.intro | exact Or.inr True.intro | rfl | exact Nat.le_of_ble_eq_true rfl) ?_
      try first | done | assumption | (unfold in32; omega) | (unfold in64; omega)
      refine ⟨_, p_Mo_copies hS2 ⟨by omega, by omega⟩ ⟨by omega, by omega⟩ a15, ?_⟩
      rintro q M3 ⟨rfl, g3, q3⟩
      have hS3 := hS2.rf q3
      have e33' : M3 333 l = w := by rw [q3.1 333 (by omega)]; exact e33
      refine k_Mo_stores_100 _ _ _ _ _ _ _ _ ?_
      simp (disch := omega) only [↓w_nil, ↓w_cons, ↓w_ald0, ↓w_ic, ↓w_gf2_14, ↓w_ild1, ↓w_lald, ↓w_cv2, true_and, and_true, true_implies, false_implies, not_true_eq_false, not_false_eq_true, Int.reduceEq, Int.reduceLT, Int.reduceLE, Int.reduceNeg, w_c80, w_c8I, w_c8L, w_c8R, w_up1, w_up2, w_up3, w_tl0, e33', c_k319, c_k320, c_k321, c_k322, c_k323, c_k324, c_k325, c_k326, c_k327, c_k328, c_k329, c_k330, c_k331, c_k332, c_k333, c_k334, c_k335, c_k336, c_k337, c_k338, c_k339, c_k340, c_k341, c_k342, c_k343, c_k344, c_k345, c_k346, c_k347, hS3.r319_0, hS3.r319_1, hS3.r319_2, hS3.r319_3, hS3.r319_4, hS3.r319_5, hS3.r319_6, hS3.r319_8, hS3.r319_9, hS3.r319_10, hS3.r319_11, hS3.r319_12, hS3.r319_13, hS3.r319_14, hS3.r319_15, hS3.r319_16, hS3.r319_17, hS3.r319_20, hS3.r319_21, hS3.r319_22, hS3.r319_23, hS3.r319_24, hS3.r319_25, hS3.r319_26, hS3.r319_29, hS3.r319_30, hS3.r319_31, hS3.r319_32, w_sf1, w_sf3]
      repeat refine And.intro (by first | assumption | exact IsW.kt (by assumption) | omega | (unfold in32; omega) | (unfold in64; omega) | exact True.intro | exact Or.inl True.intro | exact Or.inr True.intro | rfl | exact Nat.le_of_ble_eq_true rfl) ?_
      try first | done | assumption | (unfold in32; omega) | (unfold in64; omega)
      refine ⟨_, p_Mo_sets hS3 (r := 2) (v := w) ⟨by omega, by omega⟩ (by omega), ?_⟩
      rintro q M4 ⟨rfl, g4, q4⟩
      have hS4 := hS3.rf q4
      refine k_Mo_stores_111 _ _ _ _ _ _ _ _ ?_
      simp (disch := omega) only [↓w_nil, ↓w_cons, ↓w_ald0, ↓w_ic, ↓w_cv3, true_and, and_true, true_implies, false_implies, not_true_eq_false, not_false_eq_true, Int.reduceEq, Int.reduceLT, Int.reduceLE, Int.reduceNeg, w_c80, w_c8I, w_c8L, w_c8R, w_up1, w_up2, w_up3, w_tl0]
      repeat refine And.intro (by first | assumption | exact IsW.kt (by assumption) | omega | (unfold in32; omega) | (unfold in64; omega) | exact True.intro | exact Or.inl True.intro | exact Or.inr True.intro | rfl | exact Nat.le_of_ble_eq_true rfl) ?_
      try first | done | assumption | (unfold in32; omega) | (unfold in64; omega)
      refine ⟨_, p_Mo_times (va := w) (vb := w) (ia := 2) (ib := 2) hS4 ⟨by omega, by omega⟩ ⟨by omega, by omega⟩ ⟨by omega, by omega⟩ g4 g4 bw bw (by omega), ?_⟩
      rintro q M5 ⟨rfl, g5, q5⟩
      have hS5 := hS4.rf q5
      refine k_Mo_stores_118 _ _ _ _ _ _ _ _ ?_
      simp (disch := omega) only [↓w_nil, ↓w_cons, ↓w_ald0, ↓w_ic, ↓w_cv3, true_and, and_true, true_implies, false_implies, not_true_eq_false, not_false_eq_true, Int.reduceEq, Int.reduceLT, Int.reduceLE, Int.reduceNeg, w_c80, w_c8I, w_c8L, w_c8R, w_up1, w_up2, w_up3, w_tl0]
      repeat refine And.intro (by first | assumption | exact IsW.kt (by assumption) | omega | (unfold in32; omega) | (unfold in64; omega) | exact True.intro | exact Or.inl True.intro | exact Or.inr True.intro | rfl | exact Nat.le_of_ble_eq_true rfl) ?_
      try first | done | assumption | (unfold in32; omega) | (unfold in64; omega)
      refine ⟨_, p_Mo_times (va := N) (vb := w * w) (ia := 10) (ib := 4) hS5 ⟨by omega, by omega⟩ ⟨by omega, by omega⟩ ⟨by omega, by omega⟩ (((a8.rf q3 ⟨by omega, by omega⟩ (by omega)).rf q4 ⟨by omega, by omega⟩ (by omega)).rf q5 ⟨by omega, by omega⟩ (by omega)) g5 bnd.1 bww (by omega), ?_⟩
      rintro q M6 ⟨rfl, g6, q6⟩
      have hS6 := hS5.rf q6
      have a96 : RM M6 9 D := (((a9.rf q3 ⟨by omega, by omega⟩ (by omega)).rf q4 ⟨by omega, by omega⟩ (by omega)).rf q5 ⟨by omega, by omega⟩ (by omega)).rf q6 ⟨by omega, by omega⟩ (by omega)
      have s6 := ((g3.rf q4 ⟨by omega, by omega⟩ (by omega)).rf q5 ⟨by omega, by omega⟩ (by omega)).rf q6 ⟨by omega, by omega⟩ (by omega)
      refine k_Mo_stores_127 _ _ _ _ _ _ _ _ ?_
      simp (disch := omega) only [↓w_nil, ↓w_cons, ↓w_ald0, ↓w_ic, ↓w_cv3, true_and, and_true, true_implies, false_implies, not_true_eq_false, not_false_eq_true, Int.reduceEq, Int.reduceLT, Int.reduceLE, Int.reduceNeg, w_c80, w_c8I, w_c8L, w_c8R, w_up1, w_up2, w_up3, w_tl0]
      repeat refine And.intro (by first | assumption | exact IsW.kt (by assumption) | omega | (unfold in32; omega) | (unfold in64; omega) | exact True.intro | exact Or.inl True.intro | exact Or.inr True.intro | rfl | exact Nat.le_of_ble_eq_true rfl) ?_
      try first | done | assumption | (unfold in32; omega) | (unfold in64; omega)
      refine ⟨_, p_Mo_times (vb := D) (ia := 6) (ib := 4) hS6 ⟨by omega, by omega⟩ ⟨by omega, by omega⟩ ⟨by omega, by omega⟩ s6 a96 bS bnd.2 (by omega), ?_⟩
      rintro q M7 ⟨rfl, g7, q7⟩
      have hS7 := hS6.rf q7
      refine k_Mo_stores_137 _ _ _ _ _ _ _ _ ?_
      simp (disch := omega) only [↓w_nil, ↓w_cons, ↓w_ald0, ↓w_ic, ↓w_cv4, true_and, and_true, true_implies, false_implies, not_true_eq_false, not_false_eq_true, Int.reduceEq, Int.reduceLT, Int.reduceLE, Int.reduceNeg, w_c80, w_c8I, w_c8L, w_c8R, w_up1, w_up2, w_up3, w_tl0]
      repeat refine And.intro (by first | assumption | exact IsW.kt (by assumption) | omega | (unfold in32; omega) | (unfold in64; omega) | exact True.intro | exact Or.inl True.intro | exact Or.inr True.intro | rfl | exact Nat.le_of_ble_eq_true rfl) ?_
      try first | done | assumption | (unfold in32; omega) | (unfold in64; omega)
      refine ⟨_, p_Mo_adds hS7 ⟨by omega, by omega⟩ ⟨by omega, by omega⟩ ⟨by omega, by omega⟩ (g6.rf q7 ⟨by omega, by omega⟩ (by omega)) g7 b1 b2 (Or.inl rfl), ?_⟩
      rintro q M8 ⟨rfl, g8, q8⟩
      have hS8 := hS7.rf q8
      refine k_Mo_stores_148 _ _ _ _ _ _ _ _ ?_
      simp (disch := omega) only [↓w_nil, ↓w_cons, ↓w_ald0, ↓w_ic, ↓w_cv3, true_and, and_true, true_implies, false_implies, not_true_eq_false, not_false_eq_true, Int.reduceEq, Int.reduceLT, Int.reduceLE, Int.reduceNeg, w_c80, w_c8I, w_c8L, w_c8R, w_up1, w_up2, w_up3, w_tl0]
      repeat refine And.intro (by first | assumption | exact IsW.kt (by assumption) | omega | (unfold in32; omega) | (unfold in64; omega) | exact True.intro | exact Or.inl True.intro | exact Or.inr True.intro | rfl | exact Nat.le_of_ble_eq_true rfl) ?_
      try first | done | assumption | (unfold in32; omega) | (unfold in64; omega)
      refine ⟨_, p_Mo_times (va := D) (vb := w * w) (ia := 4) (ib := 4) hS8 ⟨by omega, by omega⟩ ⟨by omega, by omega⟩ ⟨by omega, by omega⟩ ((a96.rf q7 ⟨by omega, by omega⟩ (by omega)).rf q8 ⟨by omega, by omega⟩ (by omega)) (((g5.rf q6 ⟨by omega, by omega⟩ (by omega)).rf q7 ⟨by omega, by omega⟩ (by omega)).rf q8 ⟨by omega, by omega⟩ (by omega)) bnd.2 bww (by omega), ?_⟩
      rintro q M9 ⟨rfl, g9, q9⟩
      have r09 : cw_rf RS M0 M9 := by
        refine rf_tr r2 (rf_tr (rf_mo q3 (fun s y => ?_)) (rf_tr (rf_mo q4 (fun s y => ?_)) (rf_tr (rf_mo q5 (fun s y => ?_)) (rf_tr (rf_mo q6 (fun s y => ?_)) (rf_tr (rf_mo q7 (fun s y => ?_)) (rf_tr (rf_mo q8 (fun s y => ?_)) (rf_mo q9 (fun s y => ?_)))))))) <;> (unfold RS; omega)
      refine k_Mo_stores_157 _ _ _ _ _ _ _ _ ?_
      simp (disch := omega) only [↓w_nil, ↓w_cons, ↓w_inc1, ↓w_goto, true_and, and_true, true_implies, false_implies, not_true_eq_false, not_false_eq_true, Int.reduceEq, Int.reduceLT, Int.reduceLE, Int.reduceNeg, w_nlI, w_nlL, w_nlR, w_up1, w_up2, w_up3, w_tl0]
      repeat refine And.intro (by first | assumption | exact IsW.kt (by assumption) | omega | (unfold in32; omega) | (unfold in64; omega) | exact True.intro | exact Or.inl True.intro | exact Or.inr True.intro | rfl | exact Nat.le_of_ble_eq_true rfl) ?_
      try first | done | assumption | (unfold in32; omega) | (unfold in64; omega)
      exact skip (t_er R).1.toNat (l + 1) M9 _ (by omega) (by omega) r09 (g8.rf q9 ⟨by omega, by omega⟩ (by omega)) g9
    | succ d ih =>
      intro i M2 hi hS2 r2 a8 a9 a15
      have i0 : (0 : Int) ≤ i := by omega
      have i7 : (i : Int) < 7 := by omega
      have if0 : (i : Int) < f 0 := by omega
      have e4 : M2 324 = f := by rw [r2.1 324 (by omega)]; exact hf
      have e5 : M2 335 i = M0 335 i := by rw [r2.1 335 (by omega)]
      have ii := h.2.1 i i0 i7
      have i32 : in32 (M0 335 i) := by unfold in32; omega
      have sm : k_ix (t_ix R) (fun p => c_a f (f 3) p w (X p)) (i + 1) = k_ix (t_ix R) (fun p => c_a f (f 3) p w (X p)) i + t_ix R i * c_a f (f 3) i w (X i) := rfl
      have ixn := ix_nn R i
      have ix1 := t1R i
      have ixi := ix_in R i
      have next : ∀ M3 : cw_M, Sh M3 → cw_rf RS M0 M3 → RM M3 8 N → RM M3 9 D → RM M3 15 (k_ix (t_ix R) (fun p => c_a f (f 3) p w (X p)) (i + 1)) → mJ g y_Mo_stores 86 [.inr (.inr 319), .inl l, .inl (i : Int)] [] M3 Q := by
        intro M3 hS3 r3 b8 b9 b12
        refine k_Mo_stores_86 _ _ _ _ _ _ _ _ ?_
        simp (disch := omega) only [↓w_nil, ↓w_cons, ↓w_inc2, ↓w_goto, true_and, and_true, true_implies, false_implies, not_true_eq_false, not_false_eq_true, Int.reduceEq, Int.reduceLT, Int.reduceLE, Int.reduceNeg, w_nlI, w_nlL, w_nlR, w_up1, w_up2, w_up3]
        repeat refine And.intro (by first | assumption | exact IsW.kt (by assumption) | omega | (unfold in32; omega) | (unfold in64; omega) | exact True.intro | exact Or.inl True.intro | exact Or.inr True.intro | rfl | exact Nat.le_of_ble_eq_true rfl) ?_
        try first | done | assumption | (unfold in32; omega) | (unfold in64; omega)
        exact ih (i + 1) M3 (by omega) hS3 r3 b8 b9 b12
      have same : ¬ t_in R i → k_ix (t_ix R) (fun p => c_a f (f 3) p w (X p)) (i + 1) = k_ix (t_ix R) (fun p => c_a f (f 3) p w (X p)) i := fun z => by
        have : t_ix R i = 0 := by have : ¬ 0 < t_ix R i := fun y => z (ixi.mp y); omega
        rw [sm, this]; omega
      refine k_Mo_stores_42 _ _ _ _ _ _ _ _ ?_
      simp (disch := omega) only [↓w_nil, ↓w_cons, ↓w_ild2, ↓w_ald0, ↓w_gf2_4, ↓w_ic, ↓w_iald, ↓w_icge, true_and, and_true, true_implies, false_implies, not_true_eq_false, not_false_eq_true, Int.reduceEq, Int.reduceLT, Int.reduceLE, Int.reduceNeg, w_up1, w_up2, w_up3, e4, c_k319, c_k320, c_k321, c_k322, c_k323, c_k324, c_k325, c_k326, c_k327, c_k328, c_k329, c_k330, c_k331, c_k332, c_k333, c_k334, c_k335, c_k336, c_k337, c_k338, c_k339, c_k340, c_k341, c_k342, c_k343, c_k344, c_k345, c_k346, c_k347, hS2.r319_0, hS2.r319_1, hS2.r319_2, hS2.r319_3, hS2.r319_4, hS2.r319_5, hS2.r319_6, hS2.r319_8, hS2.r319_9, hS2.r319_10, hS2.r319_11, hS2.r319_12, hS2.r319_13, hS2.r319_14, hS2.r319_15, hS2.r319_16, hS2.r319_17, hS2.r319_20, hS2.r319_21, hS2.r319_22, hS2.r319_23, hS2.r319_24, hS2.r319_25, hS2.r319_26, hS2.r319_29, hS2.r319_30, hS2.r319_31, hS2.r319_32, w_sf1, w_sf3]
      repeat refine And.intro (by first | assumption | exact IsW.kt (by assumption) | omega | (unfold in32; omega) | (unfold in64; omega) | exact True.intro | exact Or.inl True.intro | exact Or.inr True.intro | rfl | exact Nat.le_of_ble_eq_true rfl) ?_
      try first | done | assumption | (unfold in32; omega) | (unfold in64; omega)
      intro _
      refine k_Mo_stores_52 _ _ _ _ _ _ _ _ ?_
      simp (disch := omega) only [↓w_nil, ↓w_cons, ↓w_ald0, ↓w_gf2_16, ↓w_ild2, ↓w_zald, ↓w_ifeq, true_and, and_true, true_implies, false_implies, not_true_eq_false, not_false_eq_true, Int.reduceEq, Int.reduceLT, Int.reduceLE, Int.reduceNeg, w_up1, w_up2, w_up3, e5, c_k319, c_k320, c_k321, c_k322, c_k323, c_k324, c_k325, c_k326, c_k327, c_k328, c_k329, c_k330, c_k331, c_k332, c_k333, c_k334, c_k335, c_k336, c_k337, c_k338, c_k339, c_k340, c_k341, c_k342, c_k343, c_k344, c_k345, c_k346, c_k347, hS2.r319_0, hS2.r319_1, hS2.r319_2, hS2.r319_3, hS2.r319_4, hS2.r319_5, hS2.r319_6, hS2.r319_8, hS2.r319_9, hS2.r319_10, hS2.r319_11, hS2.r319_12, hS2.r319_13, hS2.r319_14, hS2.r319_15, hS2.r319_16, hS2.r319_17, hS2.r319_20, hS2.r319_21, hS2.r319_22, hS2.r319_23, hS2.r319_24, hS2.r319_25, hS2.r319_26, hS2.r319_29, hS2.r319_30, hS2.r319_31, hS2.r319_32, w_sf1, w_sf3]
      repeat refine And.intro (by first | assumption | exact IsW.kt (by assumption) | omega | (unfold in32; omega) | (unfold in64; omega) | exact True.intro | exact Or.inl True.intro | exact Or.inr True.intro | rfl | exact Nat.le_of_ble_eq_true rfl) ?_
      try first | done | assumption | (unfold in32; omega) | (unfold in64; omega)
      refine ⟨fun hc => ?_, fun hc => ?_⟩
      · refine next M2 hS2 r2 a8 a9 ?_
        rw [same (fun z => by rcases ii with y | y; omega; exact y.2 (RT _ z))]
        exact a15
      · have iT : t_in T i := by rcases ii with y | y; exact y.2; exact absurd y.1 hc
        have pi := ps_in h hR iT
        obtain ⟨R', l', hR', hiR', _⟩ := tp_ex T 1 h.2.2.2 i iT
        have pb : in32 (ps i) := by
          rw [hR'.2.2.2.1 i hiR']
          have := hR'.2.1.2.2.1; have := hR'.2.1.2.2.2.1; have := (er_nn R').1
          unfold in32; omega
        have lb32 : in32 l := by unfold in32; omega
        refine k_Mo_stores_61 _ _ _ _ _ _ _ _ ?_
        simp (disch := omega) only [↓w_nil, ↓w_cons, ↓w_ald0, ↓w_ild2, ↓w_cv1, true_and, and_true, true_implies, false_implies, not_true_eq_false, not_false_eq_true, Int.reduceEq, Int.reduceLT, Int.reduceLE, Int.reduceNeg, w_c80, w_c8I, w_c8L, w_c8R, w_up1, w_up2, w_up3]
        repeat refine And.intro (by first | assumption | exact IsW.kt (by assumption) | omega | (unfold in32; omega) | (unfold in64; omega) | exact True.intro | exact Or.inl True.intro | exact Or.inr True.intro | rfl | exact Nat.le_of_ble_eq_true rfl) ?_
        try first | done | assumption | (unfold in32; omega) | (unfold in64; omega)
        refine ⟨_, p_Mo_roadOf' hS2 h (fun a y => r2.1 a (by omega)) iT, ?_⟩
        rintro q M3 ⟨rfl, rfl⟩
        refine k_Mo_stores_66 _ _ _ _ _ _ _ _ ?_
        simp (disch := omega) only [↓w_nil, ↓w_cons, ↓w_ild1, ↓w_icne, true_and, and_true, true_implies, false_implies, not_true_eq_false, not_false_eq_true, Int.reduceEq, Int.reduceLT, Int.reduceLE, Int.reduceNeg, w_up1, w_up2, w_up3, w_tl1]
        repeat refine And.intro (by first | assumption | exact IsW.kt (by assumption) | omega | (unfold in32; omega) | (unfold in64; omega) | exact True.intro | exact Or.inl True.intro | exact Or.inr True.intro | rfl | exact Nat.le_of_ble_eq_true rfl) ?_
        try first | done | assumption | (unfold in32; omega) | (unfold in64; omega)
        refine ⟨fun hq => ?_, fun hq => ?_⟩
        · refine next M3 hS2 r2 a8 a9 ?_
          rw [same (fun z => hq (pi.mpr z))]
          exact a15
        · have iR := pi.mp hq
          have one : t_ix R i = 1 := by have := ixi.mpr iR; omega
          have fx := hx i iR
          have px : m_px M3 i (X i) w := ⟨fx.1.1.rf r2 ⟨by omega, by omega⟩ (nr _ (by omega)), by rw [r2.1 336 (by omega)]; exact fx.2.2.1, hw⟩
          refine k_Mo_stores_70 _ _ _ _ _ _ _ _ ?_
          simp (disch := omega) only [↓w_nil, ↓w_cons, ↓w_ald0, ↓w_ild2, ↓w_cv1, true_and, and_true, true_implies, false_implies, not_true_eq_false, not_false_eq_true, Int.reduceEq, Int.reduceLT, Int.reduceLE, Int.reduceNeg, w_c80, w_c8I, w_c8L, w_c8R, w_up1, w_up2, w_up3]
          repeat refine And.intro (by first | assumption | exact IsW.kt (by assumption) | omega | (unfold in32; omega) | (unfold in64; omega) | exact True.intro | exact Or.inl True.intro | exact Or.inr True.intro | rfl | exact Nat.le_of_ble_eq_true rfl) ?_
          try first | done | assumption | (unfold in32; omega) | (unfold in64; omega)
          refine ⟨_, p_Mo_area hS2 e4 hW ⟨i0, if0⟩ px fx.1.2, ?_⟩
          rintro q M5 ⟨rfl, g5, r5⟩
          have hS5 := hS2.rf r5
          have kb := kix_b (c := t_ix R) (h := fun p => c_a f (f 3) p w (X p)) (C := C_st) (by decide) i (fun q q0 q1 => by
            have n1 := ix_nn R q
            have n2 := t1R q
            by_cases y : 0 < t_ix R q
            · exact Or.inr ⟨by omega, hfb q (RT q ((ix_in R q).mp y)) w (by omega)⟩
            · exact Or.inl (by omega))
          have fbi := hfb i iT w (by omega)
          have iC : (i : Int) * C_st ≤ 7 * C_st := Int.mul_le_mul_of_nonneg_right (by omega) (by decide)
          have bA : cw_ab (k_ix (t_ix R) (fun p => c_a f (f 3) p w (X p)) i) < 1073741824 ^ 31 := Int.lt_of_le_of_lt (ab_rng (b := 7 * C_st) ⟨by omega, by omega⟩) (by decide)
          have bB : cw_ab (c_a f (f 3) i w (X i)) < 1073741824 ^ 31 := Int.lt_of_le_of_lt (ab_rng (b := C_st) fbi) (by decide)
          have na : ∀ s : Int, (s = 8 ∨ s = 9 ∨ s = 15) → ¬ RA s := fun s hs y => by unfold RA at y; omega
          refine k_Mo_stores_75 _ _ _ _ _ _ _ _ ?_
          simp (disch := omega) only [↓w_nil, ↓w_cons, ↓w_ald0, ↓w_ic, ↓w_cv4, true_and, and_true, true_implies, false_implies, not_true_eq_false, not_false_eq_true, Int.reduceEq, Int.reduceLT, Int.reduceLE, Int.reduceNeg, w_c80, w_c8I, w_c8L, w_c8R, w_up1, w_up2, w_up3, w_tl0]
          repeat refine And.intro (by first | assumption | exact IsW.kt (by assumption) | omega | (unfold in32; omega) | (unfold in64; omega) | exact True.intro | exact Or.inl True.intro | exact Or.inr True.intro | rfl | exact Nat.le_of_ble_eq_true rfl) ?_
          try first | done | assumption | (unfold in32; omega) | (unfold in64; omega)
          refine ⟨_, p_Mo_adds hS5 ⟨by omega, by omega⟩ ⟨by omega, by omega⟩ ⟨by omega, by omega⟩ (a15.rf r5 ⟨by omega, by omega⟩ (na 15 (by omega))) g5 bA bB (Or.inl rfl), ?_⟩
          rintro q M6 ⟨rfl, g6, r6'⟩
          simp only [w_tl0]
          refine next M6 (hS5.rf r6') (rf_tr r2 (rf_tr (rf_mo r5 (fun s y => by unfold RA at y; unfold RS; omega)) (rf_mo r6' (fun s y => by unfold RS; omega)))) ((a8.rf r5 ⟨by omega, by omega⟩ (na 8 (by omega))).rf r6' ⟨by omega, by omega⟩ (by omega)) ((a9.rf r5 ⟨by omega, by omega⟩ (na 9 (by omega))).rf r6' ⟨by omega, by omega⟩ (by omega)) ?_
          rw [sm, one]
          rw [Int.one_mul] at g6 ⊢
          exact g6
  have e328 : M 328 l = 0 := by rw [r.1 328 (by omega)]; exact r2
  refine k_Mo_stores_16 _ _ _ _ _ _ _ _ ?_
  simp (disch := omega) only [↓w_nil, ↓w_cons, ↓w_ild1, ↓w_ald0, ↓w_gf0_7, ↓w_icge, true_and, and_true, true_implies, false_implies, not_true_eq_false, not_false_eq_true, Int.reduceEq, Int.reduceLT, Int.reduceLE, Int.reduceNeg, w_up1, w_up2, w_up3, e319, c_k319, c_k320, c_k321, c_k322, c_k323, c_k324, c_k325, c_k326, c_k327, c_k328, c_k329, c_k330, c_k331, c_k332, c_k333, c_k334, c_k335, c_k336, c_k337, c_k338, c_k339, c_k340, c_k341, c_k342, c_k343, c_k344, c_k345, c_k346, c_k347, hS.r319_0, hS.r319_1, hS.r319_2, hS.r319_3, hS.r319_4, hS.r319_5, hS.r319_6, hS.r319_8, hS.r319_9, hS.r319_10, hS.r319_11, hS.r319_12, hS.r319_13, hS.r319_14, hS.r319_15, hS.r319_16, hS.r319_17, hS.r319_20, hS.r319_21, hS.r319_22, hS.r319_23, hS.r319_24, hS.r319_25, hS.r319_26, hS.r319_29, hS.r319_30, hS.r319_31, hS.r319_32, w_sf1, w_sf3]
  repeat refine And.intro (by first | assumption | exact IsW.kt (by assumption) | omega | (unfold in32; omega) | (unfold in64; omega) | exact True.intro | exact Or.inl True.intro | exact Or.inr True.intro | rfl | exact Nat.le_of_ble_eq_true rfl) ?_
  try first | done | assumption | (unfold in32; omega) | (unfold in64; omega)
  intro _
  refine k_Mo_stores_24 _ _ _ _ _ _ _ _ ?_
  simp (disch := omega) only [↓w_nil, ↓w_cons, ↓w_ald0, ↓w_gf2_9, ↓w_ild1, ↓w_iald, ↓w_ifne, true_and, and_true, true_implies, false_implies, not_true_eq_false, not_false_eq_true, Int.reduceEq, Int.reduceLT, Int.reduceLE, Int.reduceNeg, w_up1, w_up2, w_up3, e328, c_k319, c_k320, c_k321, c_k322, c_k323, c_k324, c_k325, c_k326, c_k327, c_k328, c_k329, c_k330, c_k331, c_k332, c_k333, c_k334, c_k335, c_k336, c_k337, c_k338, c_k339, c_k340, c_k341, c_k342, c_k343, c_k344, c_k345, c_k346, c_k347, hS.r319_0, hS.r319_1, hS.r319_2, hS.r319_3, hS.r319_4, hS.r319_5, hS.r319_6, hS.r319_8, hS.r319_9, hS.r319_10, hS.r319_11, hS.r319_12, hS.r319_13, hS.r319_14, hS.r319_15, hS.r319_16, hS.r319_17, hS.r319_20, hS.r319_21, hS.r319_22, hS.r319_23, hS.r319_24, hS.r319_25, hS.r319_26, hS.r319_29, hS.r319_30, hS.r319_31, hS.r319_32, w_sf1, w_sf3]
  repeat refine And.intro (by first | assumption | exact IsW.kt (by assumption) | omega | (unfold in32; omega) | (unfold in64; omega) | exact True.intro | exact Or.inl True.intro | exact Or.inr True.intro | rfl | exact Nat.le_of_ble_eq_true rfl) ?_
  try first | done | assumption | (unfold in32; omega) | (unfold in64; omega)
  refine k_Mo_stores_33 _ _ _ _ _ _ _ _ ?_
  simp (disch := omega) only [↓w_nil, ↓w_cons, ↓w_ald0, ↓w_ic, ↓w_lc, ↓w_cv2, true_and, and_true, true_implies, false_implies, not_true_eq_false, not_false_eq_true, Int.reduceEq, Int.reduceLT, Int.reduceLE, Int.reduceNeg, w_c80, w_c8I, w_c8L, w_c8R, w_up1, w_up2, w_up3]
  repeat refine And.intro (by first | assumption | exact IsW.kt (by assumption) | omega | (unfold in32; omega) | (unfold in64; omega) | exact True.intro | exact Or.inl True.intro | exact Or.inr True.intro | rfl | exact Nat.le_of_ble_eq_true rfl) ?_
  try first | done | assumption | (unfold in32; omega) | (unfold in64; omega)
  refine ⟨_, p_Mo_sets hS (r := 15) (v := 0) ⟨by omega, by omega⟩ (by omega), ?_⟩
  rintro q M1 ⟨rfl, g1, q1⟩
  refine k_Mo_stores_40 _ _ _ _ _ _ _ _ ?_
  simp (disch := omega) only [↓w_nil, ↓w_cons, ↓w_ic, ↓w_ist2, ↓w_fall, true_and, and_true, true_implies, false_implies, not_true_eq_false, not_false_eq_true, Int.reduceEq, Int.reduceLT, Int.reduceLE, Int.reduceNeg, w_nlI, w_nlL, w_nlR, w_up1, w_up2, w_up3, w_tl0]
  repeat refine And.intro (by first | assumption | exact IsW.kt (by assumption) | omega | (unfold in32; omega) | (unfold in64; omega) | exact True.intro | exact Or.inl True.intro | exact Or.inr True.intro | rfl | exact Nat.le_of_ble_eq_true rfl) ?_
  try first | done | assumption | (unfold in32; omega) | (unfold in64; omega)
  exact sum (f 0).toNat 0 M1 (by omega) (hS.rf q1) (rf_tr r (rf_mo q1 (fun s y => by unfold RS; omega))) (h8.rf q1 ⟨by omega, by omega⟩ (by omega)) (h9.rf q1 ⟨by omega, by omega⟩ (by omega)) g1
