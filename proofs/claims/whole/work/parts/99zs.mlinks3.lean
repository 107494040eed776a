/-! the reference: links, the method -/
abbrev C_ln : Int := 42415284098692483200000000
theorem hd_f {f X F : Int → Int} {t : Int} {M0 : cw_M} {T : Tr} {ps : Int → Int} {tr : Int → Tr} (h : H_all f t X F M0 T ps tr) {p : Int} (hp : t_in T p) : (RM M0 (16 + p) (X p) ∧ (-849000000000000000000000 ≤ X p ∧ X p ≤ 849000000000000000000000)) ∧ (RM M0 (24 + p) (F p) ∧ (-848305681973849664000000 ≤ F p ∧ F p ≤ 848305681973849664000000)) ∧ (0 < M0 336 p ∧ M0 336 p ≤ 13254776280841401) := by
  obtain ⟨R, l, hR, hpR, _⟩ := tp_ex T 1 h.2.2.2 p hp
  obtain ⟨⟨w, hw, _, hx, _⟩, _⟩ := hR
  have x := hx p hpR
  exact ⟨x.1, x.2.1, by rw [x.2.2.1]; exact hw⟩
/-- one road of the whole -/
theorem ln_one {g : cw_G} {M0 M : cw_M} {f fl X F : Int → Int} {n0 t u l : Int} {T R : Tr} {ps : Int → Int} {tr : Int → Tr} {N D : Int} {n : Nat} {z : cw_V} {Q : Option cw_V → cw_M → Prop} (hS : Sh M) (hf : M0 324 = f) (hW : WF n0 f fl) (hu : 0 ≤ u ∧ u < 4) (h : H_all f t X F M0 T ps tr) (hR : H_rd f t X F M0 T ps tr R l) (r : cw_rf RL M0 M) (h8 : RM M 8 N) (h9 : RM M 9 D) (hb : Lb n C_ln N D) (hn : n + t_lv R ≤ 7)
    (nx : ∀ (M2 : cw_M) (z : cw_V), cw_rf RL M0 M2 → RM M2 8 (N * M0 333 l + 1 * (t_tl (fun p => F p * f (17 + 12 * p + u)) R * D)) → RM M2 9 (D * M0 333 l) → Lb (n + t_lv R) C_ln (N * M0 333 l + 1 * (t_tl (fun p => F p * f (17 + 12 * p + u)) R * D)) (D * M0 333 l) → mJ g y_Mo_links 16 [.inr (.inr 319), .inl u, .inl (l + (1 + (t_er R).1)), z] [] M2 Q) :
    mJ g y_Mo_links 16 [.inr (.inr 319), .inl u, .inl l, z] [] M Q := by
  have w0 := hW.1
  obtain ⟨⟨w, hw, ⟨e333, hw2⟩, hx, -⟩, ⟨r1, r2, r3, r4, r5, r6⟩, -, -, t1R, RT, lv7⟩ := id hR
  have mt := h.1
  have nn := (er_nn R).1
  have e319 : M 319 7 = 1 + (t_er T).2 := by rw [r.1 319 (by omega)]; exact mt.1
  have hfb : ∀ p, t_in T p → -C_ln ≤ F p * f (17 + 12 * p + u) ∧ F p * f (17 + 12 * p + u) ≤ C_ln := fun p hp => by
    have b := hW.2.2.2.2.2.2.1 u p hu.1 hu.2 (h.2.2.1.2.2.2 p hp).1 (h.2.2.1.2.2.2 p hp).2.2
    have := ab_mb (b := 50) (hd_f h hp).2.1.2 ⟨b.1, b.2.1⟩
    show -42415284098692483200000000 ≤ _ ∧ _ ≤ 42415284098692483200000000
    omega
  have Sb := tl_b (h := fun p => F p * f (17 + 12 * p + u)) (C := C_ln) (by decide) R (fun p hp => hfb p (RT p hp))
  have up := lb_up (S := t_tl (fun p => F p * f (17 + 12 * p + u)) R) (by decide) hb (w := w) ⟨hw.1, hw2⟩ Sb
  rw [e333] at nx
  -- nodes that are no road of the whole
  have skip : ∀ (d : Nat) (j : Int) (M2 : cw_M) (z : cw_V), j + d = l + (1 + (t_er R).1) → l < j → cw_rf RL M0 M2 → RM M2 8 (N * w + 1 * (t_tl (fun p => F p * f (17 + 12 * p + u)) R * D)) → RM M2 9 (D * w) → mJ g y_Mo_links 16 [.inr (.inr 319), .inl u, .inl j, z] [] M2 Q := by
    intro d
    induction d with
    | zero =>
      intro j M2 z hj hl r2 a8 a9
      have ej : j = l + (1 + (t_er R).1) := by omega
      subst ej
      exact nx M2 z r2 a8 a9 up
    | succ d ih =>
      intro j M2 z hj hl r2 a8 a9
      have hS2 : Sh M2 := by
        have := r2
        have hS0 : Sh M0 := (hS : Sh M) |> fun _ => by
          refine fun a k hr => ?_
          have := hS a k hr
          by_cases q : 320 ≤ a ∧ a ≤ 323
          · exfalso
            rcases (show a = 320 ∨ a = 321 ∨ a = 322 ∨ a = 323 by omega) with rfl | rfl | rfl | rfl
            · rw [rs_k m_k0 (by decide)] at hr; cases hr
            · rw [rs_k m_k1 (by decide)] at hr; cases hr
            · rw [rs_k m_k2 (by decide)] at hr; cases hr
            · rw [rs_k m_k3 (by decide)] at hr; cases hr
          · rw [← r.1 a q]; exact this
        exact hS0.rf r2
      have pj := r6 j hl (by omega)
      have e7 : M2 319 7 = 1 + (t_er T).2 := by rw [r2.1 319 (by omega)]; exact mt.1
      have e8 : M2 328 j = M0 328 j := by rw [r2.1 328 (by omega)]
      have n60 := mt.2.1
      have p32 : in32 (M0 328 j) := by unfold in32; omega
      refine k_Mo_links_16 _ _ _ _ _ _ _ _ ?_
      simp (disch := omega) only [↓w_nil, ↓w_cons, ↓w_ild2, ↓w_ald0, ↓w_gf0_7, ↓w_icge, true_and, and_true, true_implies, false_implies, not_true_eq_false, not_false_eq_true, Int.reduceEq, Int.reduceLT, Int.reduceLE, Int.reduceNeg, w_up1, w_up2, w_up3, e7, c_k319, c_k320, c_k321, c_k322, c_k323, c_k324, c_k325, c_k326, c_k327, c_k328, c_k329, c_k330, c_k331, c_k332, c_k333, c_k334, c_k335, c_k336, c_k337, c_k338, c_k339, c_k340, c_k341, c_k342, c_k343, c_k344, c_k345, c_k346, c_k347, hS2.r319_0, hS2.r319_1, hS2.r319_2, hS2.r319_3, hS2.r319_4, hS2.r319_5, hS2.r319_6, hS2.r319_8, hS2.r319_9, hS2.r319_10, hS2.r319_11, hS2.r319_12, hS2.r319_13, hS2.r319_14, hS2.r319_15, hS2.r319_16, hS2.r319_17, hS2.r319_20, hS2.r319_21, hS2.r319_22, hS2.r319_23, hS2.r319_24, hS2.r319_25, hS2.r319_26, hS2.r319_29, hS2.r319_30, hS2.r319_31, hS2.r319_32, w_sf1, w_sf3]
      repeat refine And.intro (by first | assumption | exact IsW.kt (by assumption) | omega | (unfold in32; omega) | (unfold in64; omega) | exact True.intro | exact Or.inl True.intro | exact Or.inr True.intro | rfl | exact Nat.le_of_ble_eq_true rfl) ?_
      try first | done | assumption | (unfold in32; omega) | (unfold in64; omega)
      intro _
      refine k_Mo_links_24 _ _ _ _ _ _ _ _ ?_
      simp (disch := omega) only [↓w_nil, ↓w_cons, ↓w_ald0, ↓w_gf2_9, ↓w_ild2, ↓w_iald, ↓w_ifne, true_and, and_true, true_implies, false_implies, not_true_eq_false, not_false_eq_true, Int.reduceEq, Int.reduceLT, Int.reduceLE, Int.reduceNeg, w_up1, w_up2, w_up3, e8, c_k319, c_k320, c_k321, c_k322, c_k323, c_k324, c_k325, c_k326, c_k327, c_k328, c_k329, c_k330, c_k331, c_k332, c_k333, c_k334, c_k335, c_k336, c_k337, c_k338, c_k339, c_k340, c_k341, c_k342, c_k343, c_k344, c_k345, c_k346, c_k347, hS2.r319_0, hS2.r319_1, hS2.r319_2, hS2.r319_3, hS2.r319_4, hS2.r319_5, hS2.r319_6, hS2.r319_8, hS2.r319_9, hS2.r319_10, hS2.r319_11, hS2.r319_12, hS2.r319_13, hS2.r319_14, hS2.r319_15, hS2.r319_16, hS2.r319_17, hS2.r319_20, hS2.r319_21, hS2.r319_22, hS2.r319_23, hS2.r319_24, hS2.r319_25, hS2.r319_26, hS2.r319_29, hS2.r319_30, hS2.r319_31, hS2.r319_32, w_sf1, w_sf3]
      repeat refine And.intro (by first | assumption | exact IsW.kt (by assumption) | omega | (unfold in32; omega) | (unfold in64; omega) | exact True.intro | exact Or.inl True.intro | exact Or.inr True.intro | rfl | exact Nat.le_of_ble_eq_true rfl) ?_
      try first | done | assumption | (unfold in32; omega) | (unfold in64; omega)
      refine ⟨fun _ => ?_, fun hc => absurd hc (by omega)⟩
      refine k_Mo_links_115 _ _ _ _ _ _ _ _ ?_
      simp (disch := omega) only [↓w_nil, ↓w_cons, ↓w_inc2, ↓w_goto, true_and, and_true, true_implies, false_implies, not_true_eq_false, not_false_eq_true, Int.reduceEq, Int.reduceLT, Int.reduceLE, Int.reduceNeg, w_nlI, w_nlL, w_nlR, w_up1, w_up2, w_up3]
      repeat refine And.intro (by first | assumption | exact IsW.kt (by assumption) | omega | (unfold in32; omega) | (unfold in64; omega) | exact True.intro | exact Or.inl True.intro | exact Or.inr True.intro | rfl | exact Nat.le_of_ble_eq_true rfl) ?_
      try first | done | assumption | (unfold in32; omega) | (unfold in64; omega)
      exact ih (j + 1) M2 _ (by omega) (by omega) r2 a8 a9
  -- the sum over the pieces of the road
  have sum : ∀ (d i : Nat) (M2 : cw_M), i + d = (f 0).toNat → Sh M2 → cw_rf RL M0 M2 → RM M2 8 N → RM M2 9 D → RM M2 12 (k_ix (t_ix R) (fun p => F p * f (17 + 12 * p + u)) i) → mJ g y_Mo_links 42 [.inr (.inr 319), .inl u, .inl l, .inl (i : Int)] [] M2 Q := by
    intro d
    induction d with
    | zero =>
      intro i M2 hi hS2 r2 a8 a9 a12
      have ei : i = (f 0).toNat := by omega
      have n60 := mt.2.1
      have e4 : M2 324 = f := by rw [r2.1 324 (by omega)]; exact hf
      have e33 : M2 333 l = w := by rw [r2.1 333 (by omega)]; exact e333
      rw [ei, kix_tl R (fun q hq => by have := h.2.2.1.2.2.2 q (RT q hq); omega)] at a12
      have z1 : (201 : Int) ^ n ≤ 13254776280841401 := z_7 (by omega)
      have n7 : (n : Int) ≤ 7 := by omega
      have nC1 : (n : Int) * C_ln ≤ 7 * C_ln := Int.mul_le_mul_of_nonneg_right n7 (by decide)
      have nC : (n : Int) * C_ln * (201 : Int) ^ n ≤ 7 * C_ln * 13254776280841401 := Int.mul_le_mul nC1 z1 (Int.le_of_lt (z_pos n)) (by decide)
      have lC : (t_lv R : Int) * C_ln ≤ 7 * C_ln := Int.mul_le_mul_of_nonneg_right (by omega) (by decide)
      have bN : cw_ab N < 1073741824 ^ 20 := Int.lt_of_le_of_lt (ab_rng (b := 7 * C_ln * 13254776280841401) ⟨by have := hb.2.1; omega, by have := hb.2.2; omega⟩) (by decide)
      have bD : cw_ab D < 1073741824 ^ 10 := Int.lt_of_le_of_lt (ab_rng (b := 13254776280841401) ⟨by have := hb.1.1; omega, by have := hb.1.2; omega⟩) (by decide)
      have bS : cw_ab (t_tl (fun p => F p * f (17 + 12 * p + u)) R) < 1073741824 ^ 10 := Int.lt_of_le_of_lt (ab_rng (b := 7 * C_ln) ⟨by omega, by omega⟩) (by decide)
      refine k_Mo_links_42 _ _ _ _ _ _ _ _ ?_
      simp (disch := omega) only [↓w_nil, ↓w_cons, ↓w_ild3, ↓w_ald0, ↓w_gf2_4, ↓w_ic, ↓w_iald, ↓w_icge, true_and, and_true, true_implies, false_implies, not_true_eq_false, not_false_eq_true, Int.reduceEq, Int.reduceLT, Int.reduceLE, Int.reduceNeg, w_up1, w_up2, w_up3, e4, c_k319, c_k320, c_k321, c_k322, c_k323, c_k324, c_k325, c_k326, c_k327, c_k328, c_k329, c_k330, c_k331, c_k332, c_k333, c_k334, c_k335, c_k336, c_k337, c_k338, c_k339, c_k340, c_k341, c_k342, c_k343, c_k344, c_k345, c_k346, c_k347, hS2.r319_0, hS2.r319_1, hS2.r319_2, hS2.r319_3, hS2.r319_4, hS2.r319_5, hS2.r319_6, hS2.r319_8, hS2.r319_9, hS2.r319_10, hS2.r319_11, hS2.r319_12, hS2.r319_13, hS2.r319_14, hS2.r319_15, hS2.r319_16, hS2.r319_17, hS2.r319_20, hS2.r319_21, hS2.r319_22, hS2.r319_23, hS2.r319_24, hS2.r319_25, hS2.r319_26, hS2.r319_29, hS2.r319_30, hS2.r319_31, hS2.r319_32, w_sf1, w_sf3]
      repeat refine And.intro (by first | assumption | exact IsW.kt (by assumption) | omega | (unfold in32; omega) | (unfold in64; omega) | exact True.intro | exact Or.inl True.intro | exact Or.inr True.intro | rfl | exact Nat.le_of_ble_eq_true rfl) ?_
      try first | done | assumption | (unfold in32; omega) | (unfold in64; omega)
      refine ⟨fun _ => ?_, fun h => absurd h (by omega)⟩
      refine k_Mo_links_105 _ _ _ _ _ _ _ _ ?_
      simp (disch := omega) only [↓w_nil, ↓w_cons, ↓w_ald0, ↓w_gf2_14, ↓w_ild2, ↓w_lald, ↓w_cv1, true_and, and_true, true_implies, false_implies, not_true_eq_false, not_false_eq_true, Int.reduceEq, Int.reduceLT, Int.reduceLE, Int.reduceNeg, w_c80, w_c8I, w_c8L, w_c8R, w_up1, w_up2, w_up3, e33, c_k319, c_k320, c_k321, c_k322, c_k323, c_k324, c_k325, c_k326, c_k327, c_k328, c_k329, c_k330, c_k331, c_k332, c_k333, c_k334, c_k335, c_k336, c_k337, c_k338, c_k339, c_k340, c_k341, c_k342, c_k343, c_k344, c_k345, c_k346, c_k347, hS2.r319_0, hS2.r319_1, hS2.r319_2, hS2.r319_3, hS2.r319_4, hS2.r319_5, hS2.r319_6, hS2.r319_8, hS2.r319_9, hS2.r319_10, hS2.r319_11, hS2.r319_12, hS2.r319_13, hS2.r319_14, hS2.r319_15, hS2.r319_16, hS2.r319_17, hS2.r319_20, hS2.r319_21, hS2.r319_22, hS2.r319_23, hS2.r319_24, hS2.r319_25, hS2.r319_26, hS2.r319_29, hS2.r319_30, hS2.r319_31, hS2.r319_32, w_sf1, w_sf3]
      repeat refine And.intro (by first | assumption | exact IsW.kt (by assumption) | omega | (unfold in32; omega) | (unfold in64; omega) | exact True.intro | exact Or.inl True.intro | exact Or.inr True.intro | rfl | exact Nat.le_of_ble_eq_true rfl) ?_
      try first | done | assumption | (unfold in32; omega) | (unfold in64; omega)
      refine ⟨_, p_Mo_grows hS2 a8 a9 a12 bN bD bS ⟨by omega, hw.2⟩, ?_⟩
      rintro q M3 ⟨rfl, g8, g9, r3⟩
      refine k_Mo_links_115 _ _ _ _ _ _ _ _ ?_
      simp (disch := omega) only [↓w_nil, ↓w_cons, ↓w_inc2, ↓w_goto, true_and, and_true, true_implies, false_implies, not_true_eq_false, not_false_eq_true, Int.reduceEq, Int.reduceLT, Int.reduceLE, Int.reduceNeg, w_nlI, w_nlL, w_nlR, w_up1, w_up2, w_up3, w_tl0]
      repeat refine And.intro (by first | assumption | exact IsW.kt (by assumption) | omega | (unfold in32; omega) | (unfold in64; omega) | exact True.intro | exact Or.inl True.intro | exact Or.inr True.intro | rfl | exact Nat.le_of_ble_eq_true rfl) ?_
      try first | done | assumption | (unfold in32; omega) | (unfold in64; omega)
      exact skip (t_er R).1.toNat (l + 1) M3 _ (by omega) (by omega) (rf_tr r2 r3) g8 g9
    | succ d ih =>
      intro i M2 hi hS2 r2 a8 a9 a12
      have i0 : (0 : Int) ≤ i := by omega
      have i7 : (i : Int) < 7 := by omega
      have if0 : (i : Int) < f 0 := by omega
      have e4 : M2 324 = f := by rw [r2.1 324 (by omega)]; exact hf
      have e5 : M2 335 i = M0 335 i := by rw [r2.1 335 (by omega)]
      have ii := h.2.1 i i0 i7
      have i32 : in32 (M0 335 i) := by unfold in32; omega
      have sm : k_ix (t_ix R) (fun p => F p * f (17 + 12 * p + u)) (i + 1) = k_ix (t_ix R) (fun p => F p * f (17 + 12 * p + u)) i + t_ix R i * (F i * f (17 + 12 * i + u)) := rfl
      have ixn := ix_nn R i
      have ix1 := t1R i
      have ixi := ix_in R i
      have next : ∀ M3 : cw_M, Sh M3 → cw_rf RL M0 M3 → RM M3 8 N → RM M3 9 D → RM M3 12 (k_ix (t_ix R) (fun p => F p * f (17 + 12 * p + u)) (i + 1)) → mJ g y_Mo_links 99 [.inr (.inr 319), .inl u, .inl l, .inl (i : Int)] [] M3 Q := by
        intro M3 hS3 r3 b8 b9 b12
        refine k_Mo_links_99 _ _ _ _ _ _ _ _ ?_
        simp (disch := omega) only [↓w_nil, ↓w_cons, ↓w_inc3, ↓w_goto, true_and, and_true, true_implies, false_implies, not_true_eq_false, not_false_eq_true, Int.reduceEq, Int.reduceLT, Int.reduceLE, Int.reduceNeg, w_nlI, w_nlL, w_nlR, w_up1, w_up2, w_up3]
        repeat refine And.intro (by first | assumption | exact IsW.kt (by assumption) | omega | (unfold in32; omega) | (unfold in64; omega) | exact True.intro | exact Or.inl True.intro | exact Or.inr True.intro | rfl | exact Nat.le_of_ble_eq_true rfl) ?_
        try first | done | assumption | (unfold in32; omega) | (unfold in64; omega)
        exact ih (i + 1) M3 (by omega) hS3 r3 b8 b9 b12
      have same : ¬ t_in R i → k_ix (t_ix R) (fun p => F p * f (17 + 12 * p + u)) (i + 1) = k_ix (t_ix R) (fun p => F p * f (17 + 12 * p + u)) i := fun z => by
        have : t_ix R i = 0 := by have : ¬ 0 < t_ix R i := fun y => z (ixi.mp y); omega
        rw [sm, this]; omega
      refine k_Mo_links_42 _ _ _ _ _ _ _ _ ?_
      simp (disch := omega) only [↓w_nil, ↓w_cons, ↓w_ild3, ↓w_ald0, ↓w_gf2_4, ↓w_ic, ↓w_iald, ↓w_icge, true_and, and_true, true_implies, false_implies, not_true_eq_false, not_false_eq_true, Int.reduceEq, Int.reduceLT, Int.reduceLE, Int.reduceNeg, w_up1, w_up2, w_up3, e4, c_k319, c_k320, c_k321, c_k322, c_k323, c_k324, c_k325, c_k326, c_k327, c_k328, c_k329, c_k330, c_k331, c_k332, c_k333, c_k334, c_k335, c_k336, c_k337, c_k338, c_k339, c_k340, c_k341, c_k342, c_k343, c_k344, c_k345, c_k346, c_k347, hS2.r319_0, hS2.r319_1, hS2.r319_2, hS2.r319_3, hS2.r319_4, hS2.r319_5, hS2.r319_6, hS2.r319_8, hS2.r319_9, hS2.r319_10, hS2.r319_11, hS2.r319_12, hS2.r319_13, hS2.r319_14, hS2.r319_15, hS2.r319_16, hS2.r319_17, hS2.r319_20, hS2.r319_21, hS2.r319_22, hS2.r319_23, hS2.r319_24, hS2.r319_25, hS2.r319_26, hS2.r319_29, hS2.r319_30, hS2.r319_31, hS2.r319_32, w_sf1, w_sf3]
      repeat refine And.intro (by first | assumption | exact IsW.kt (by assumption) | omega | (unfold in32; omega) | (unfold in64; omega) | exact True.intro | exact Or.inl True.intro | exact Or.inr True.intro | rfl | exact Nat.le_of_ble_eq_true rfl) ?_
      try first | done | assumption | (unfold in32; omega) | (unfold in64; omega)
      intro _
      refine k_Mo_links_52 _ _ _ _ _ _ _ _ ?_
      simp (disch := omega) only [↓w_nil, ↓w_cons, ↓w_ald0, ↓w_gf2_16, ↓w_ild3, ↓w_zald, ↓w_ifeq, true_and, and_true, true_implies, false_implies, not_true_eq_false, not_false_eq_true, Int.reduceEq, Int.reduceLT, Int.reduceLE, Int.reduceNeg, w_up1, w_up2, w_up3, e5, c_k319, c_k320, c_k321, c_k322, c_k323, c_k324, c_k325, c_k326, c_k327, c_k328, c_k329, c_k330, c_k331, c_k332, c_k333, c_k334, c_k335, c_k336, c_k337, c_k338, c_k339, c_k340, c_k341, c_k342, c_k343, c_k344, c_k345, c_k346, c_k347, hS2.r319_0, hS2.r319_1, hS2.r319_2, hS2.r319_3, hS2.r319_4, hS2.r319_5, hS2.r319_6, hS2.r319_8, hS2.r319_9, hS2.r319_10, hS2.r319_11, hS2.r319_12, hS2.r319_13, hS2.r319_14, hS2.r319_15, hS2.r319_16, hS2.r319_17, hS2.r319_20, hS2.r319_21, hS2.r319_22, hS2.r319_23, hS2.r319_24, hS2.r319_25, hS2.r319_26, hS2.r319_29, hS2.r319_30, hS2.r319_31, hS2.r319_32, w_sf1, w_sf3]
      repeat refine And.intro (by first | assumption | exact IsW.kt (by assumption) | omega | (unfold in32; omega) | (unfold in64; omega) | exact True.intro | exact Or.inl True.intro | exact Or.inr True.intro | rfl | exact Nat.le_of_ble_eq_true rfl) ?_
      try first | done | assumption | (unfold in32; omega) | (unfold in64; omega)
      refine ⟨fun hc => ?_, fun hc => ?_⟩
      · refine next M2 hS2 r2 a8 a9 ?_
        rw [same (fun z => by rcases ii with y | y; omega; exact y.2 (RT _ z))]
        exact a12
      · have iT : t_in T i := by rcases ii with y | y; exact y.2; exact absurd y.1 hc
        have pi := ps_in h hR iT
        obtain ⟨R', l', hR', hiR', _⟩ := tp_ex T 1 h.2.2.2 i iT
        have pb : in32 (ps i) := by
          rw [hR'.2.2.2.1 i hiR']
          have := hR'.2.1.2.2.1; have := hR'.2.1.2.2.2.1; have := (er_nn R').1; have := mt.2.1
          unfold in32; omega
        have lb32 : in32 l := by have := mt.2.1; unfold in32; omega
        refine k_Mo_links_61 _ _ _ _ _ _ _ _ ?_
        simp (disch := omega) only [↓w_nil, ↓w_cons, ↓w_ald0, ↓w_ild3, ↓w_cv1, true_and, and_true, true_implies, false_implies, not_true_eq_false, not_false_eq_true, Int.reduceEq, Int.reduceLT, Int.reduceLE, Int.reduceNeg, w_c80, w_c8I, w_c8L, w_c8R, w_up1, w_up2, w_up3]
        repeat refine And.intro (by first | assumption | exact IsW.kt (by assumption) | omega | (unfold in32; omega) | (unfold in64; omega) | exact True.intro | exact Or.inl True.intro | exact Or.inr True.intro | rfl | exact Nat.le_of_ble_eq_true rfl) ?_
        try first | done | assumption | (unfold in32; omega) | (unfold in64; omega)
        refine ⟨_, p_Mo_roadOf' hS2 h (fun a y => r2.1 a (by omega)) iT, ?_⟩
        rintro q M3 ⟨rfl, rfl⟩
        refine k_Mo_links_66 _ _ _ _ _ _ _ _ ?_
        simp (disch := omega) only [↓w_nil, ↓w_cons, ↓w_ild2, ↓w_icne, true_and, and_true, true_implies, false_implies, not_true_eq_false, not_false_eq_true, Int.reduceEq, Int.reduceLT, Int.reduceLE, Int.reduceNeg, w_up1, w_up2, w_up3, w_tl1]
        repeat refine And.intro (by first | assumption | exact IsW.kt (by assumption) | omega | (unfold in32; omega) | (unfold in64; omega) | exact True.intro | exact Or.inl True.intro | exact Or.inr True.intro | rfl | exact Nat.le_of_ble_eq_true rfl) ?_
        try first | done | assumption | (unfold in32; omega) | (unfold in64; omega)
        refine ⟨fun hq => ?_, fun hq => ?_⟩
        · refine next M3 hS2 r2 a8 a9 ?_
          rw [same (fun z => hq (pi.mpr z))]
          exact a12
        · have iR := pi.mp hq
          have one : t_ix R i = 1 := by have := ixi.mpr iR; omega
          have fb := (hd_f h iT).2.1
          have b := hW.2.2.2.2.2.2.1 u i hu.1 hu.2 i0 i7
          have v32 : in32 (f (17 + 12 * i + u)) := by unfold in32; omega
          have f2 : RM M3 (24 + i) (F i) := fb.1.rf r2 ⟨by omega, by omega⟩ (fun y => by have y : 24 + (i : Int) = 0 ∨ 24 + (i : Int) = 8 ∨ 24 + (i : Int) = 9 ∨ 24 + (i : Int) = 12 ∨ 24 + (i : Int) = 14 := y; omega)
          refine k_Mo_links_70 _ _ _ _ _ _ _ _ ?_
          simp (disch := omega) only [↓w_nil, ↓w_cons, ↓w_ald0, ↓w_ic, ↓w_ild3, ↓w_iadd, ↓w_ild1, ↓w_cv2, true_and, and_true, true_implies, false_implies, not_true_eq_false, not_false_eq_true, Int.reduceEq, Int.reduceLT, Int.reduceLE, Int.reduceNeg, w_c80, w_c8I, w_c8L, w_c8R, w_up1, w_up2, w_up3]
          repeat refine And.intro (by first | assumption | exact IsW.kt (by assumption) | omega | (unfold in32; omega) | (unfold in64; omega) | exact True.intro | exact Or.inl True.intro | exact Or.inr True.intro | rfl | exact Nat.le_of_ble_eq_true rfl) ?_
          try first | done | assumption | (unfold in32; omega) | (unfold in64; omega)
          refine ⟨_, p_Mo_of hS2 ⟨i0, i7⟩ (w := 7 + u) (by omega), ?_⟩
          rintro q M4 ⟨rfl, rfl⟩
          rw [e4, show 10 + 12 * (i : Int) + (7 + u) = 17 + 12 * (i : Int) + u by omega]
          refine k_Mo_links_85 _ _ _ _ _ _ _ _ ?_
          simp (disch := omega) only [↓w_nil, ↓w_cons, ↓w_i2l, ↓w_cv3, true_and, and_true, true_implies, false_implies, not_true_eq_false, not_false_eq_true, Int.reduceEq, Int.reduceLT, Int.reduceLE, Int.reduceNeg, w_c80, w_c8I, w_c8L, w_c8R, w_up1, w_up2, w_up3, w_tl1]
          repeat refine And.intro (by first | assumption | exact IsW.kt (by assumption) | omega | (unfold in32; omega) | (unfold in64; omega) | exact True.intro | exact Or.inl True.intro | exact Or.inr True.intro | rfl | exact Nat.le_of_ble_eq_true rfl) ?_
          try first | done | assumption | (unfold in32; omega) | (unfold in64; omega)
          refine ⟨_, p_Mo_timesLong (va := F i) (ia := 3) hS2 ⟨by omega, by omega⟩ ⟨by omega, by omega⟩ (by omega) f2 (b24 (by omega)) (by omega) (by omega), ?_⟩
          rintro q M5 ⟨rfl, g5, r5⟩
          have hS5 := hS2.rf r5
          have kb := kix_b (c := t_ix R) (h := fun p => F p * f (17 + 12 * p + u)) (C := C_ln) (by decide) i (fun q q0 q1 => by
            have n1 := ix_nn R q
            have n2 := t1R q
            by_cases y : 0 < t_ix R q
            · exact Or.inr ⟨by omega, hfb q (RT q ((ix_in R q).mp y))⟩
            · exact Or.inl (by omega))
          have fbi := hfb i iT
          have iC : (i : Int) * C_ln ≤ 7 * C_ln := Int.mul_le_mul_of_nonneg_right (by omega) (by decide)
          have bA : cw_ab (k_ix (t_ix R) (fun p => F p * f (17 + 12 * p + u)) i) < 1073741824 ^ 31 := Int.lt_of_le_of_lt (ab_rng (b := 7 * C_ln) ⟨by omega, by omega⟩) (by decide)
          have bB : cw_ab (F i * f (17 + 12 * i + u)) < 1073741824 ^ 31 := Int.lt_of_le_of_lt (ab_rng (b := C_ln) fbi) (by decide)
          refine k_Mo_links_89 _ _ _ _ _ _ _ _ ?_
          simp (disch := omega) only [↓w_nil, ↓w_cons, ↓w_ald0, ↓w_ic, ↓w_cv4, true_and, and_true, true_implies, false_implies, not_true_eq_false, not_false_eq_true, Int.reduceEq, Int.reduceLT, Int.reduceLE, Int.reduceNeg, w_c80, w_c8I, w_c8L, w_c8R, w_up1, w_up2, w_up3, w_tl0]
          repeat refine And.intro (by first | assumption | exact IsW.kt (by assumption) | omega | (unfold in32; omega) | (unfold in64; omega) | exact True.intro | exact Or.inl True.intro | exact Or.inr True.intro | rfl | exact Nat.le_of_ble_eq_true rfl) ?_
          try first | done | assumption | (unfold in32; omega) | (unfold in64; omega)
          refine ⟨_, p_Mo_adds hS5 ⟨by omega, by omega⟩ ⟨by omega, by omega⟩ ⟨by omega, by omega⟩ (a12.rf r5 ⟨by omega, by omega⟩ (by omega)) g5 bA bB (Or.inl rfl), ?_⟩
          rintro q M6 ⟨rfl, g6, r6'⟩
          simp only [w_tl0]
          refine next M6 (hS5.rf r6') (rf_tr r2 (rf_tr (rf_mo r5 (fun s y => by unfold RL; omega)) (rf_mo r6' (fun s y => by unfold RL; omega)))) ((a8.rf r5 ⟨by omega, by omega⟩ (by omega)).rf r6' ⟨by omega, by omega⟩ (by omega)) ((a9.rf r5 ⟨by omega, by omega⟩ (by omega)).rf r6' ⟨by omega, by omega⟩ (by omega)) ?_
          rw [sm, one]
          exact g6
  have e328 : M 328 l = 0 := by rw [r.1 328 (by omega)]; exact r2
  have n60 := mt.2.1
  refine k_Mo_links_16 _ _ _ _ _ _ _ _ ?_
  simp (disch := omega) only [↓w_nil, ↓w_cons, ↓w_ild2, ↓w_ald0, ↓w_gf0_7, ↓w_icge, true_and, and_true, true_implies, false_implies, not_true_eq_false, not_false_eq_true, Int.reduceEq, Int.reduceLT, Int.reduceLE, Int.reduceNeg, w_up1, w_up2, w_up3, e319, c_k319, c_k320, c_k321, c_k322, c_k323, c_k324, c_k325, c_k326, c_k327, c_k328, c_k329, c_k330, c_k331, c_k332, c_k333, c_k334, c_k335, c_k336, c_k337, c_k338, c_k339, c_k340, c_k341, c_k342, c_k343, c_k344, c_k345, c_k346, c_k347, hS.r319_0, hS.r319_1, hS.r319_2, hS.r319_3, hS.r319_4, hS.r319_5, hS.r319_6, hS.r319_8, hS.r319_9, hS.r319_10, hS.r319_11, hS.r319_12, hS.r319_13, hS.r319_14, hS.r319_15, hS.r319_16, hS.r319_17, hS.r319_20, hS.r319_21, hS.r319_22, hS.r319_23, hS.r319_24, hS.r319_25, hS.r319_26, hS.r319_29, hS.r319_30, hS.r319_31, hS.r319_32, w_sf1, w_sf3]
  repeat refine And.intro (by first | assumption | exact IsW.kt (by assumption) | omega | (unfold in32; omega) | (unfold in64; omega) | exact True.intro | exact Or.inl True.intro | exact Or.inr True.intro | rfl | exact Nat.le_of_ble_eq_true rfl) ?_
  try first | done | assumption | (unfold in32; omega) | (unfold in64; omega)
  intro _
  refine k_Mo_links_24 _ _ _ _ _ _ _ _ ?_
  simp (disch := omega) only [↓w_nil, ↓w_cons, ↓w_ald0, ↓w_gf2_9, ↓w_ild2, ↓w_iald, ↓w_ifne, true_and, and_true, true_implies, false_implies, not_true_eq_false, not_false_eq_true, Int.reduceEq, Int.reduceLT, Int.reduceLE, Int.reduceNeg, w_up1, w_up2, w_up3, e328, c_k319, c_k320, c_k321, c_k322, c_k323, c_k324, c_k325, c_k326, c_k327, c_k328, c_k329, c_k330, c_k331, c_k332, c_k333, c_k334, c_k335, c_k336, c_k337, c_k338, c_k339, c_k340, c_k341, c_k342, c_k343, c_k344, c_k345, c_k346, c_k347, hS.r319_0, hS.r319_1, hS.r319_2, hS.r319_3, hS.r319_4, hS.r319_5, hS.r319_6, hS.r319_8, hS.r319_9, hS.r319_10, hS.r319_11, hS.r319_12, hS.r319_13, hS.r319_14, hS.r319_15, hS.r319_16, hS.r319_17, hS.r319_20, hS.r319_21, hS.r319_22, hS.r319_23, hS.r319_24, hS.r319_25, hS.r319_26, hS.r319_29, hS.r319_30, hS.r319_31, hS.r319_32, w_sf1, w_sf3]
  repeat refine And.intro (by first | assumption | exact IsW.kt (by assumption) | omega | (unfold in32; omega) | (unfold in64; omega) | exact True.intro | exact Or.inl True.intro | exact Or.inr True.intro | rfl | exact Nat.le_of_ble_eq_true rfl) ?_
  try first | done | assumption | (unfold in32; omega) | (unfold in64; omega)
  refine k_Mo_links_33 _ _ _ _ _ _ _ _ ?_
  simp (disch := omega) only [↓w_nil, ↓w_cons, ↓w_ald0, ↓w_ic, ↓w_lc, ↓w_cv2, true_and, and_true, true_implies, false_implies, not_true_eq_false, not_false_eq_true, Int.reduceEq, Int.reduceLT, Int.reduceLE, Int.reduceNeg, w_c80, w_c8I, w_c8L, w_c8R, w_up1, w_up2, w_up3]
  repeat refine And.intro (by first | assumption | exact IsW.kt (by assumption) | omega | (unfold in32; omega) | (unfold in64; omega) | exact True.intro | exact Or.inl True.intro | exact Or.inr True.intro | rfl | exact Nat.le_of_ble_eq_true rfl) ?_
  try first | done | assumption | (unfold in32; omega) | (unfold in64; omega)
  refine ⟨_, p_Mo_sets hS (r := 12) (v := 0) ⟨by omega, by omega⟩ (by omega), ?_⟩
  rintro q M1 ⟨rfl, g1, q1⟩
  refine k_Mo_links_40 _ _ _ _ _ _ _ _ ?_
  simp (disch := omega) only [↓w_nil, ↓w_cons, ↓w_ic, ↓w_ist3, ↓w_fall, true_and, and_true, true_implies, false_implies, not_true_eq_false, not_false_eq_true, Int.reduceEq, Int.reduceLT, Int.reduceLE, Int.reduceNeg, w_nlI, w_nlL, w_nlR, w_up1, w_up2, w_up3, w_tl0]
  repeat refine And.intro (by first | assumption | exact IsW.kt (by assumption) | omega | (unfold in32; omega) | (unfold in64; omega) | exact True.intro | exact Or.inl True.intro | exact Or.inr True.intro | rfl | exact Nat.le_of_ble_eq_true rfl) ?_
  try first | done | assumption | (unfold in32; omega) | (unfold in64; omega)
  exact sum (f 0).toNat 0 M1 (by omega) (hS.rf q1) (rf_tr r (rf_mo q1 (fun s y => by unfold RL; omega))) (h8.rf q1 ⟨by omega, by omega⟩ (by omega)) (h9.rf q1 ⟨by omega, by omega⟩ (by omega)) g1
theorem ln_all {g : cw_G} {M0 : cw_M} {f fl X F : Int → Int} {n0 t u : Int} {T : Tr} {ps : Int → Int} {tr : Int → Tr} {Q : Option cw_V → cw_M → Prop} {w : Int} {Xr Fr : Int → Int} (hS0 : Sh M0) (hf : M0 324 = f) (hW : WF n0 f fl) (ht : 0 ≤ t ∧ t < 24) (hu : 0 ≤ u ∧ u < 4) (h : H_all f t X F M0 T ps tr) (hr : r_at f t T w Xr Fr) : ∀ (S : Tr) (lo : Int) (M : cw_M) (z : cw_V) (N D A : Int) (n : Nat), t_tp (fun R l => H_rd f t X F M0 T ps tr R l ∧ ∃ w', (0 < w' ∧ w' ≤ 13254776280841401 ∧ w' ≤ (201 : Int) ^ t_lv R) ∧ M0 333 l = w' ∧ ∀ p, t_in R p → M0 336 p = w' ∧ w' * Xr p = w * X p ∧ w' * Fr p = w * F p) S lo → (t_el (M0 327) (M0 328) (M0 329) S).2 0 lo → cw_rf RL M0 M → RM M 8 N → RM M 9 D → Lb n C_ln N D → n + t_lv S ≤ 7 → N * w = D * A →
    (∀ (M2 : cw_M) (z : cw_V) (N' D' : Int), cw_rf RL M0 M2 → RM M2 8 N' → RM M2 9 D' → Lb (n + t_lv S) C_ln N' D' → N' * w = D' * (A + t_tl (fun p => Fr p * f (17 + 12 * p + u)) S) → mJ g y_Mo_links 16 [.inr (.inr 319), .inl u, .inl (lo + (t_er S).2), z] [] M2 Q) →
    mJ g y_Mo_links 16 [.inr (.inr 319), .inl u, .inl lo, z] [] M Q := by
  have one : ∀ (R : Tr) (l : Int) (M : cw_M) (z : cw_V) (N D A : Int) (n : Nat), (H_rd f t X F M0 T ps tr R l ∧ ∃ w', (0 < w' ∧ w' ≤ 13254776280841401 ∧ w' ≤ (201 : Int) ^ t_lv R) ∧ M0 333 l = w' ∧ ∀ p, t_in R p → M0 336 p = w' ∧ w' * Xr p = w * X p ∧ w' * Fr p = w * F p) → cw_rf RL M0 M → RM M 8 N → RM M 9 D → Lb n C_ln N D → n + t_lv R ≤ 7 → N * w = D * A →
      (∀ (M2 : cw_M) (z : cw_V) (N' D' : Int), cw_rf RL M0 M2 → RM M2 8 N' → RM M2 9 D' → Lb (n + t_lv R) C_ln N' D' → N' * w = D' * (A + t_tl (fun p => Fr p * f (17 + 12 * p + u)) R) → mJ g y_Mo_links 16 [.inr (.inr 319), .inl u, .inl (l + (1 + (t_er R).1)), z] [] M2 Q) →
      mJ g y_Mo_links 16 [.inr (.inr 319), .inl u, .inl l, z] [] M Q := by
    rintro R l M z N D A n ⟨hR, w', hw', e333, hrel⟩ r h8 h9 hb hn hA nx
    refine ln_one (hS0.rf r) hf hW hu h hR r h8 h9 hb hn (fun M2 z2 r2 b8 b9 lb => ?_)
    rw [e333] at b8 b9 lb
    refine nx M2 z2 _ _ r2 b8 b9 lb ?_
    have e : w' * t_tl (fun p => Fr p * f (17 + 12 * p + u)) R = w * t_tl (fun p => F p * f (17 + 12 * p + u)) R := by
      rw [← tl_k, ← tl_k]
      refine tl_cg R (fun p hp => ?_)
      show w' * (Fr p * f (17 + 12 * p + u)) = w * (F p * f (17 + 12 * p + u))
      rw [← Int.mul_assoc, ← Int.mul_assoc, (hrel p hp).2.2]
    grind
  intro S
  induction S with
  | add a b iha _ =>
    intro lo M z N D A n ⟨ka, kb⟩ ⟨e1, _, _, _⟩ r h8 h9 hb hn hA nx
    have hn : n + (t_lv a + t_lv b) ≤ 7 := hn
    refine iha lo M z N D A n ka e1 r h8 h9 hb (by omega) hA (fun M2 z2 N2 D2 r2 b8 b9 lb2 hA2 => ?_)
    refine one b (lo + (t_er a).2) M2 z2 N2 D2 _ _ kb r2 b8 b9 lb2 (by omega) hA2 (fun M3 z3 N3 D3 r3 c8 c9 lb3 hA3 => ?_)
    have := nx M3 z3 N3 D3 r3 c8 c9 (by show Lb (n + (t_lv a + t_lv b)) C_ln N3 D3; rw [← Nat.add_assoc]; exact lb3) (by show N3 * w = D3 * (A + (t_tl _ a + t_tl _ b)); rw [hA3, Int.add_assoc])
    rw [show lo + (t_er a).2 + (1 + (t_er b).1) = lo + ((t_er a).2 + 1 + (t_er b).1) by omega]
    exact this
  | num p => exact fun lo M z N D A n k e r h8 h9 hb hn hA nx => one (.num p) lo M z N D A n k r h8 h9 hb hn hA nx
  | neg x _ =>
    intro lo M z N D A n k e r h8 h9 hb hn hA nx
    have q : (t_er (.neg x)).2 = 1 + (t_er (.neg x)).1 := by show 2 + (t_er x).2 = 1 + (1 + (t_er x).2); omega
    rw [q] at nx
    exact one (.neg x) lo M z N D A n k r h8 h9 hb hn hA nx
  | mul a b _ _ => exact fun lo M z N D A n k e r h8 h9 hb hn hA nx => one (.mul a b) lo M z N D A n k r h8 h9 hb hn hA nx
  | natCast _ => exact fun lo M z N D A n k => k.elim
  | intCast _ => exact fun lo M z N D A n k => k.elim
  | var _ => exact fun lo M z N D A n k => k.elim
  | sub _ _ => exact fun lo M z N D A n k => k.elim
  | pow _ _ => exact fun lo M z N D A n k => k.elim
theorem p_Mo_links {g : cw_G} {M : cw_M} {f fl X F : Int → Int} {n0 t u w : Int} {T : Tr} {ps : Int → Int} {tr : Int → Tr} {Xr Fr : Int → Int} (hS : Sh M) (hf : M 324 = f) (hW : WF n0 f fl) (ht : 0 ≤ t ∧ t < 24) (hu : 0 ≤ u ∧ u < 4) (h : H_all f t X F M T ps tr) (hr : r_at f t T w Xr Fr) :
    mC g y_Mo_links [.inr (.inr 319), .inl u] M (fun q M' => q = none ∧ cw_rf RL M M' ∧ ∃ N D : Int, RM M' 8 N ∧ RM M' 9 D ∧ Lb 7 C_ln N D ∧ N * w = D * t_tl (fun p => Fr p * f (17 + 12 * p + u)) T) := by
  refine cw_C_of (L := [.inr (.inr 319), .inl u, cU, cU]) ok_Mo_links (Nat.le_refl _) (Nat.le_of_ble_eq_true rfl) rfl ?_
  refine cw_J_hide ?_
  refine k_Mo_links_0 _ _ _ _ _ _ _ _ ?_
  simp (disch := omega) only [↓w_nil, ↓w_cons, ↓w_ald0, ↓w_ic, ↓w_lc, ↓w_cv2, true_and, and_true, true_implies, false_implies, not_true_eq_false, not_false_eq_true, Int.reduceEq, Int.reduceLT, Int.reduceLE, Int.reduceNeg, w_c80, w_c8I, w_c8L, w_c8R, w_up1, w_up2, w_up3]
  repeat refine And.intro (by first | assumption | exact IsW.kt (by assumption) | omega | (unfold in32; omega) | (unfold in64; omega) | exact True.intro | exact Or.inl True.intro | exact Or.inr True.intro | rfl | exact Nat.le_of_ble_eq_true rfl) ?_
  try first | done | assumption | (unfold in32; omega) | (unfold in64; omega)
  refine ⟨_, p_Mo_sets hS (r := 8) (v := 0) ⟨by omega, by omega⟩ (by omega), ?_⟩
  rintro q M1 ⟨rfl, g1, r1⟩
  have hS1 := hS.rf r1
  refine k_Mo_links_7 _ _ _ _ _ _ _ _ ?_
  simp (disch := omega) only [↓w_nil, ↓w_cons, ↓w_ald0, ↓w_ic, ↓w_lc, ↓w_cv2, true_and, and_true, true_implies, false_implies, not_true_eq_false, not_false_eq_true, Int.reduceEq, Int.reduceLT, Int.reduceLE, Int.reduceNeg, w_c80, w_c8I, w_c8L, w_c8R, w_up1, w_up2, w_up3, w_tl0]
  repeat refine And.intro (by first | assumption | exact IsW.kt (by assumption) | omega | (unfold in32; omega) | (unfold in64; omega) | exact True.intro | exact Or.inl True.intro | exact Or.inr True.intro | rfl | exact Nat.le_of_ble_eq_true rfl) ?_
  try first | done | assumption | (unfold in32; omega) | (unfold in64; omega)
  refine ⟨_, p_Mo_sets hS1 (r := 9) (v := 1) ⟨by omega, by omega⟩ (by omega), ?_⟩
  rintro q M2 ⟨rfl, g2, r2⟩
  have r02 : cw_rf RL M M2 := rf_tr (rf_mo r1 (fun s y => by unfold RL; omega)) (rf_mo r2 (fun s y => by unfold RL; omega))
  refine k_Mo_links_14 _ _ _ _ _ _ _ _ ?_
  simp (disch := omega) only [↓w_nil, ↓w_cons, ↓w_ic, ↓w_ist2, ↓w_fall, true_and, and_true, true_implies, false_implies, not_true_eq_false, not_false_eq_true, Int.reduceEq, Int.reduceLT, Int.reduceLE, Int.reduceNeg, w_nlI, w_nlL, w_nlR, w_up1, w_up2, w_up3, w_tl0]
  repeat refine And.intro (by first | assumption | exact IsW.kt (by assumption) | omega | (unfold in32; omega) | (unfold in64; omega) | exact True.intro | exact Or.inl True.intro | exact Or.inr True.intro | rfl | exact Nat.le_of_ble_eq_true rfl) ?_
  try first | done | assumption | (unfold in32; omega) | (unfold in64; omega)
  refine ln_all hS hf hW ht hu h hr T 1 M2 _ 0 1 0 0 (at_un hW ht h hr) h.1.2.2.2 r02 (g1.rf r2 ⟨by omega, by omega⟩ (by omega)) g2 ⟨by decide, by decide⟩ (by have := lv_7 h.2.2.1.2.2.1; omega) (by omega) (fun M3 z3 N D r3 a8 a9 lb hA => ?_)
  have hS3 := hS.rf r3
  have e7 : M3 319 7 = 1 + (t_er T).2 := by rw [r3.1 319 (by omega)]; exact h.1.1
  have n60 := h.1.2.1
  have nn := (er_nn T).2
  refine k_Mo_links_16 _ _ _ _ _ _ _ _ ?_
  simp (disch := omega) only [↓w_nil, ↓w_cons, ↓w_ild2, ↓w_ald0, ↓w_gf0_7, ↓w_icge, true_and, and_true, true_implies, false_implies, not_true_eq_false, not_false_eq_true, Int.reduceEq, Int.reduceLT, Int.reduceLE, Int.reduceNeg, w_up1, w_up2, w_up3, e7, c_k319, c_k320, c_k321, c_k322, c_k323, c_k324, c_k325, c_k326, c_k327, c_k328, c_k329, c_k330, c_k331, c_k332, c_k333, c_k334, c_k335, c_k336, c_k337, c_k338, c_k339, c_k340, c_k341, c_k342, c_k343, c_k344, c_k345, c_k346, c_k347, hS3.r319_0, hS3.r319_1, hS3.r319_2, hS3.r319_3, hS3.r319_4, hS3.r319_5, hS3.r319_6, hS3.r319_8, hS3.r319_9, hS3.r319_10, hS3.r319_11, hS3.r319_12, hS3.r319_13, hS3.r319_14, hS3.r319_15, hS3.r319_16, hS3.r319_17, hS3.r319_20, hS3.r319_21, hS3.r319_22, hS3.r319_23, hS3.r319_24, hS3.r319_25, hS3.r319_26, hS3.r319_29, hS3.r319_30, hS3.r319_31, hS3.r319_32, w_sf1, w_sf3]
  repeat refine And.intro (by first | assumption | exact IsW.kt (by assumption) | omega | (unfold in32; omega) | (unfold in64; omega) | exact True.intro | exact Or.inl True.intro | exact Or.inr True.intro | rfl | exact Nat.le_of_ble_eq_true rfl) ?_
  try first | done | assumption | (unfold in32; omega) | (unfold in64; omega)
  refine ⟨fun _ => ?_, fun h => absurd h (by omega)⟩
  refine k_Mo_links_121 _ _ _ _ _ _ _ _ ?_
  simp (disch := omega) only [↓w_nil, ↓w_vret, true_and, and_true, true_implies, false_implies, not_true_eq_false, not_false_eq_true, Int.reduceEq, Int.reduceLT, Int.reduceLE, Int.reduceNeg, w_up1, w_up2, w_up3]
  repeat refine And.intro (by first | assumption | exact IsW.kt (by assumption) | omega | (unfold in32; omega) | (unfold in64; omega) | exact True.intro | exact Or.inl True.intro | exact Or.inr True.intro | rfl | exact Nat.le_of_ble_eq_true rfl) ?_
  try first | done | assumption | (unfold in32; omega) | (unfold in64; omega)
  have l7 := lv_7 h.2.2.1.2.2.1
  rw [Nat.zero_add] at lb
  have zm : (201 : Int) ^ t_lv T ≤ (201 : Int) ^ 7 := by
    obtain ⟨d, hd⟩ : ∃ d, 7 = t_lv T + d := ⟨7 - t_lv T, by omega⟩
    rw [hd, Int.pow_add]
    have := Int.mul_le_mul_of_nonneg_left (show (1 : Int) ≤ (201 : Int) ^ d by have := z_pos d; omega) (Int.le_of_lt (z_pos (t_lv T)))
    omega
  have bm : (t_lv T : Int) * C_ln * (201 : Int) ^ t_lv T ≤ ((7 : Nat) : Int) * C_ln * (201 : Int) ^ 7 := Int.mul_le_mul (Int.mul_le_mul_of_nonneg_right (by omega) (by decide)) zm (Int.le_of_lt (z_pos _)) (by decide)
  refine ⟨N, D, a8, a9, ⟨⟨lb.1.1, Int.le_trans lb.1.2 zm⟩, by have := lb.2.1; omega, by have := lb.2.2; omega⟩, ?_⟩
  rw [hA, Int.zero_add]
