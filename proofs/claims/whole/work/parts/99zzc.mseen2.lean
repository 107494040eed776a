/-! the reference: allSeen -/
theorem p_Mo_allSeen {g : cw_G} {M : cw_M} {f fl : Int → Int} {n : Int} {T : Tr} (hS : Sh M) (hf : M 324 = f) (hW : WF n f fl) (hfl : M 338 = fl) (hT : Mt M T) (hk : Tk f T) :
    mC g y_Mo_allSeen [.inr (.inr 319)] M (fun q M' => q = some (.inl (p_b (AllF f fl T))) ∧ Gq M M' ∧ M' 324 = f ∧ Mt M' T ∧ M' 319 18 = 0 ∧ M' 319 19 = M 319 19 ∧ sR M M' 6 ∧ sR M M' 7) := by
  have w0 := hW.1
  have e3 : M 324 3 = f 3 := by rw [hf]
  have hT0 : ∀ p, t_in T p → 0 ≤ p := fun p hp => (hk.2.2.2 p hp).1
  have hT1 : ∀ p, t_in T p → 0 ≤ p ∧ p < f 0 := fun p hp => ⟨(hk.2.2.2 p hp).1, (hk.2.2.2 p hp).2.1⟩
  refine cw_C_of (L := [.inr (.inr 319), cU, cU, cU, cU, cU, cU]) ok_Mo_allSeen (Nat.le_refl _) (Nat.le_of_ble_eq_true rfl) rfl ?_
  refine cw_J_hide ?_
  have rear : ∀ (M1 : cw_M) (c i s : Int) (z4 z5 : cw_V), c = p_b (AllF f fl T) → Gq M (cw_up M1 324 3 (f 3)) → M1 324 = cw_fu f 3 s → Mt M1 T → M1 319 19 = M 319 19 → (sR M M1 6 ∧ sR M M1 7) →
      mJ g y_Mo_allSeen 126 [.inr (.inr 319), .inl c, .inl (f 3), .inl i, z4, z5, cU] [] M1 (cw_hide (fun q M' => q = some (.inl (p_b (AllF f fl T))) ∧ Gq M M' ∧ M' 324 = f ∧ Mt M' T ∧ M' 319 18 = 0 ∧ M' 319 19 = M 319 19 ∧ sR M M' 6 ∧ sR M M' 7)) := by
    intro M1 c i s z4 z5 hc G1 f1 mt1 z19 s1
    have hS1 := G1.1
    have c01 := pb_c (AllF f fl T)
    have c32 : in32 c := by unfold in32; omega
    have i324 : (cw_up M1 324 3 (f 3)) 324 = f := by
      funext j
      rw [cw_up_eq, f1]
      by_cases q : j = 3
      · rw [if_pos q, q]
      · rw [if_neg q, fu_o q]
    have r0 : M1 319 4 = 324 := by have := hS1.r319_4; rw [cw_up_ne (by omega)] at this; exact this
    refine k_Mo_allSeen_126 _ _ _ _ _ _ _ _ ?_
    simp (disch := omega) only [↓w_nil, ↓w_cons, ↓w_ald0, ↓w_gf2_4, ↓w_ic, ↓w_ild2, ↓w_iast, ↓w_cv0, true_and, and_true, true_implies, false_implies, not_true_eq_false, not_false_eq_true, Int.reduceEq, Int.reduceLT, Int.reduceLE, Int.reduceNeg, w_c80, w_c8I, w_c8L, w_c8R, w_up1, w_up2, w_up3, r0, c_k319, c_k320, c_k321, c_k322, c_k323, c_k324, c_k325, c_k326, c_k327, c_k328, c_k329, c_k330, c_k331, c_k332, c_k333, c_k334, c_k335, c_k336, c_k337, c_k338, c_k339, c_k340, c_k341, c_k342, c_k343, c_k344, c_k345, c_k346, c_k347, hS1.r319_0, hS1.r319_1, hS1.r319_2, hS1.r319_3, hS1.r319_4, hS1.r319_5, hS1.r319_6, hS1.r319_8, hS1.r319_9, hS1.r319_10, hS1.r319_11, hS1.r319_12, hS1.r319_13, hS1.r319_14, hS1.r319_15, hS1.r319_16, hS1.r319_17, hS1.r319_20, hS1.r319_21, hS1.r319_22, hS1.r319_23, hS1.r319_24, hS1.r319_25, hS1.r319_26, hS1.r319_29, hS1.r319_30, hS1.r319_31, hS1.r319_32, w_sf1, w_sf3]
    repeat refine And.intro (by first | assumption | exact IsW.kt (by assumption) | omega | (unfold in32; omega) | (unfold in64; omega) | exact True.intro | exact Or.inl True.intro | exact Or.inr True.intro | rfl | exact Nat.le_of_ble_eq_true rfl) ?_
    try first | done | assumption | (unfold in32; omega) | (unfold in64; omega)
    refine ⟨_, p_Mo_changes, ?_⟩
    rintro q M2 ⟨rfl, rfl⟩
    have ss : ∀ s : Int, sR M1 (cw_up (cw_up M1 324 3 (f 3)) 319 18 0) s := fun s => (sr_up (by omega)).tr (sr_up (by omega))
    have mt2 : Mt (cw_up (cw_up M1 324 3 (f 3)) 319 18 0) T := by
      obtain ⟨a, b, c, d⟩ := mt1
      refine ⟨by rw [w_up2 (by omega), cw_up_ne (by omega)]; exact a, b, by rw [cw_up_ne (by omega), cw_up_ne (by omega)]; exact c, ?_⟩
      rw [cw_up_ne (by omega), cw_up_ne (by omega), cw_up_ne (by omega), cw_up_ne (by omega), cw_up_ne (by omega), cw_up_ne (by omega)]; exact d
    have h1 : Gq M (cw_up (cw_up M1 324 3 (f 3)) 319 18 0) := gq_up G1 (Or.inl rfl)
    have h2 : (cw_up (cw_up M1 324 3 (f 3)) 319 18 0) 324 = f := by rw [cw_up_ne (by omega), i324]
    have h3 : (cw_up (cw_up M1 324 3 (f 3)) 319 18 0) 319 18 = 0 := w_up1
    have h4 : (cw_up (cw_up M1 324 3 (f 3)) 319 18 0) 319 19 = M 319 19 := by rw [w_up2 (by omega), cw_up_ne (by omega)]; exact z19
    have h5 : sR M (cw_up (cw_up M1 324 3 (f 3)) 319 18 0) 6 := s1.1.tr (ss 6)
    have h6 : sR M (cw_up (cw_up M1 324 3 (f 3)) 319 18 0) 7 := s1.2.tr (ss 7)
    refine k_Mo_allSeen_137 _ _ _ _ _ _ _ _ ?_
    simp (disch := omega) only [↓w_nil, ↓w_cons, ↓w_ild1, ↓w_zret, true_and, and_true, true_implies, false_implies, not_true_eq_false, not_false_eq_true, Int.reduceEq, Int.reduceLT, Int.reduceLE, Int.reduceNeg, w_up1, w_up2, w_up3, w_tl0]
    refine ⟨by omega, ?_⟩
    unfold cw_hide
    rw [hc]
    exact ⟨rfl, h1, h2, mt2, h3, h4, h5, h6⟩
  have back : ∀ (M1 : cw_M) (s : Int), Sh M1 → M1 324 = cw_fu f 3 s → (∀ a k : Int, a ≠ 324 → ¬ (320 ≤ a ∧ a ≤ 323) → ¬ (331 ≤ a ∧ a ≤ 336) → M1 a = M a) → Gq M (cw_up M1 324 3 (f 3)) := by
    intro M1 s hS1 f1 o1
    refine ⟨hS1.up (rs_k c_k324 (by decide)), fun a k x y z => ?_⟩
    by_cases q2 : a = 324
    · subst q2
      rw [cw_up_eq, f1, hf]
      by_cases q : k = 3
      · rw [if_pos q, q]
      · rw [if_neg q, fu_o q]
    · rw [cw_up_ne q2, o1 a 0 q2 x (by omega)]
  have loop : ∀ (d : Nat) (i c s : Int) (M1 : cw_M) (z4 z5 : cw_V), i + d = f 2 → 0 ≤ i → Sh M1 → M1 324 = cw_fu f 3 s → (∀ a k : Int, a ≠ 324 → ¬ (320 ≤ a ∧ a ≤ 323) → ¬ (331 ≤ a ∧ a ≤ 336) → M1 a = M a) → (sR M M1 6 ∧ sR M M1 7) → ((c = 1 ∧ ∀ j : Int, 0 ≤ j → j < i → Fit f fl T j) ∨ (c = 0 ∧ ¬ AllF f fl T)) →
      mJ g y_Mo_allSeen 11 [.inr (.inr 319), .inl c, .inl (f 3), .inl i, z4, z5, cU] [] M1 (cw_hide (fun q M' => q = some (.inl (p_b (AllF f fl T))) ∧ Gq M M' ∧ M' 324 = f ∧ Mt M' T ∧ M' 319 18 = 0 ∧ M' 319 19 = M 319 19 ∧ sR M M' 6 ∧ sR M M' 7)) := by
    intro d
    induction d with
    | zero =>
      intro i c s M1 z4 z5 hi h0 hS1 f1 o1 s1 hc
      have ei : i = f 2 := by omega
      have e2 : M1 324 2 = f 2 := by rw [f1, fu_o (by omega)]
      have cp : c = p_b (AllF f fl T) := by
        rcases hc with ⟨rfl, h⟩ | ⟨rfl, h⟩
        · rw [pb_1 (show AllF f fl T from fun j a b => h j a (by omega))]
        · rw [pb_0 h]
      refine k_Mo_allSeen_11 _ _ _ _ _ _ _ _ ?_
      simp (disch := omega) only [↓w_nil, ↓w_cons, ↓w_ild3, ↓w_ald0, ↓w_gf2_4, ↓w_ic, ↓w_iald, ↓w_icge, true_and, and_true, true_implies, false_implies, not_true_eq_false, not_false_eq_true, Int.reduceEq, Int.reduceLT, Int.reduceLE, Int.reduceNeg, w_up1, w_up2, w_up3, e2, c_k319, c_k320, c_k321, c_k322, c_k323, c_k324, c_k325, c_k326, c_k327, c_k328, c_k329, c_k330, c_k331, c_k332, c_k333, c_k334, c_k335, c_k336, c_k337, c_k338, c_k339, c_k340, c_k341, c_k342, c_k343, c_k344, c_k345, c_k346, c_k347, hS1.r319_0, hS1.r319_1, hS1.r319_2, hS1.r319_3, hS1.r319_4, hS1.r319_5, hS1.r319_6, hS1.r319_8, hS1.r319_9, hS1.r319_10, hS1.r319_11, hS1.r319_12, hS1.r319_13, hS1.r319_14, hS1.r319_15, hS1.r319_16, hS1.r319_17, hS1.r319_20, hS1.r319_21, hS1.r319_22, hS1.r319_23, hS1.r319_24, hS1.r319_25, hS1.r319_26, hS1.r319_29, hS1.r319_30, hS1.r319_31, hS1.r319_32, w_sf1, w_sf3]
      repeat refine And.intro (by first | assumption | exact IsW.kt (by assumption) | omega | (unfold in32; omega) | (unfold in64; omega) | exact True.intro | exact Or.inl True.intro | exact Or.inr True.intro | rfl | exact Nat.le_of_ble_eq_true rfl) ?_
      try first | done | assumption | (unfold in32; omega) | (unfold in64; omega)
      refine ⟨fun _ => ?_, fun h => absurd h (by omega)⟩
      exact rear M1 c i s _ _ cp (back M1 s hS1 f1 o1) f1 (hT.cg (fun a y => o1 a 0 (by omega) (by omega) (by omega))) (by rw [o1 319 0 (by omega) (by omega) (by omega)]) s1
    | succ d ih =>
      intro i c s M1 z4 z5 hi h0 hS1 f1 o1 s1 hc
      have i6 : i < 6 := by omega
      have e2 : M1 324 2 = f 2 := by rw [f1, fu_o (by omega)]
      have c32 : in32 c := by rcases hc with h | h <;> unfold in32 <;> omega
      refine k_Mo_allSeen_11 _ _ _ _ _ _ _ _ ?_
      simp (disch := omega) only [↓w_nil, ↓w_cons, ↓w_ild3, ↓w_ald0, ↓w_gf2_4, ↓w_ic, ↓w_iald, ↓w_icge, true_and, and_true, true_implies, false_implies, not_true_eq_false, not_false_eq_true, Int.reduceEq, Int.reduceLT, Int.reduceLE, Int.reduceNeg, w_up1, w_up2, w_up3, e2, c_k319, c_k320, c_k321, c_k322, c_k323, c_k324, c_k325, c_k326, c_k327, c_k328, c_k329, c_k330, c_k331, c_k332, c_k333, c_k334, c_k335, c_k336, c_k337, c_k338, c_k339, c_k340, c_k341, c_k342, c_k343, c_k344, c_k345, c_k346, c_k347, hS1.r319_0, hS1.r319_1, hS1.r319_2, hS1.r319_3, hS1.r319_4, hS1.r319_5, hS1.r319_6, hS1.r319_8, hS1.r319_9, hS1.r319_10, hS1.r319_11, hS1.r319_12, hS1.r319_13, hS1.r319_14, hS1.r319_15, hS1.r319_16, hS1.r319_17, hS1.r319_20, hS1.r319_21, hS1.r319_22, hS1.r319_23, hS1.r319_24, hS1.r319_25, hS1.r319_26, hS1.r319_29, hS1.r319_30, hS1.r319_31, hS1.r319_32, w_sf1, w_sf3]
      repeat refine And.intro (by first | assumption | exact IsW.kt (by assumption) | omega | (unfold in32; omega) | (unfold in64; omega) | exact True.intro | exact Or.inl True.intro | exact Or.inr True.intro | rfl | exact Nat.le_of_ble_eq_true rfl) ?_
      try first | done | assumption | (unfold in32; omega) | (unfold in64; omega)
      intro _
      refine k_Mo_allSeen_21 _ _ _ _ _ _ _ _ ?_
      simp (disch := omega) only [↓w_nil, ↓w_cons, ↓w_ild1, ↓w_ifeq, true_and, and_true, true_implies, false_implies, not_true_eq_false, not_false_eq_true, Int.reduceEq, Int.reduceLT, Int.reduceLE, Int.reduceNeg, w_up1, w_up2, w_up3]
      repeat refine And.intro (by first | assumption | exact IsW.kt (by assumption) | omega | (unfold in32; omega) | (unfold in64; omega) | exact True.intro | exact Or.inl True.intro | exact Or.inr True.intro | rfl | exact Nat.le_of_ble_eq_true rfl) ?_
      try first | done | assumption | (unfold in32; omega) | (unfold in64; omega)
      refine And.symm ⟨fun hz => ?_, fun hz => ?_⟩
      · have c1 : c = 1 := by rcases hc with h | h; exact h.1; exact absurd h.1 (by omega)
        have hp : ∀ j : Int, 0 ≤ j → j < i → Fit f fl T j := by rcases hc with h | h; exact h.2; exact absurd h.1 (by omega)
        have sr := hW.2.2.2.2.2.2.2.2.2.1 i h0 (by omega)
        have p7 : f (313 + 2 * i) < 7 := by omega
        have e1 : M1 324 (312 + 2 * i) = f (312 + 2 * i) := by rw [f1, fu_o (by omega)]
        have e1' : M1 324 (312 + 2 * i + 1) = f (313 + 2 * i) := by rw [f1, fu_o (by omega)]; congr 1; omega
        obtain ⟨t, ht⟩ : ∃ t, t = f (312 + 2 * i) := ⟨_, rfl⟩
        obtain ⟨p, hp'⟩ : ∃ p, p = f (313 + 2 * i) := ⟨_, rfl⟩
        rw [← ht] at e1
        rw [← hp'] at e1'
        have t24 : 0 ≤ t ∧ t < 24 := by omega
        have p07 : 0 ≤ p ∧ p < 7 := by omega
        have hS2 : Sh (cw_up M1 324 3 t) := hS1.up (rs_k c_k324 (by decide))
        have f2 : (cw_up M1 324 3 t) 324 = cw_fu f 3 t := by
          funext j
          rw [cw_up_eq, f1]
          by_cases q : j = 3
          · rw [if_pos q, q, fu_a]
          · rw [if_neg q, fu_o q, fu_o q]
        have hW1 := wf_tn (t := t) ⟨t24.1, by omega⟩ hW
        have tk1 : Tk (cw_fu f 3 t) T := ⟨hk.1, hk.2.1, hk.2.2.1, fun q hq => by rw [fu_o (by omega)]; exact hk.2.2.2 q hq⟩
        have ft : (cw_fu f 3 t) 3 = t := fu_a
        have mt2 : Mt (cw_up M1 324 3 t) T := hT.cg (fun a y => by rw [cw_up_ne (by omega), o1 a 0 (by omega) (by omega) (by omega)])
        obtain ⟨kk, w, Xr, Fr, _, hr, _, _⟩ := ex_rest (t := t) hW1 t24 tk1
        have hr' : r_at (cw_fu f 3 t) ((cw_fu f 3 t) 3) T w Xr Fr := by rw [ft]; exact hr
        have hr0 : r_at f t T w Xr Fr := at_fu (by omega) t24.1 hT0 hr
        have fi : Fit f fl T i ↔ c_ft T p (fl i) w Fr := by
          have := fit_iff (F := Fr) (X := Xr) (w := w) hW ⟨h0, show i < f 2 by omega⟩ hT1 (by rw [← ht]; exact hr0)
          rw [← hp'] at this; exact this
        have fb := r_fb hW t24 hk hr0
        have t32 : in32 t := by unfold in32; omega
        have p32 : in32 p := by unfold in32; omega
        refine k_Mo_allSeen_25 _ _ _ _ _ _ _ _ ?_
        simp (disch := omega) only [↓w_nil, ↓w_cons, ↓w_ald0, ↓w_gf2_4, ↓w_ic, ↓w_ild3, ↓w_imul, ↓w_iadd, ↓w_iald, ↓w_ist4, ↓w_iast, ↓w_cv0, true_and, and_true, true_implies, false_implies, not_true_eq_false, not_false_eq_true, Int.reduceEq, Int.reduceLT, Int.reduceLE, Int.reduceNeg, w_nlI, w_nlL, w_nlR, w_c80, w_c8I, w_c8L, w_c8R, w_up1, w_up2, w_up3, e1, e1', c_k319, c_k320, c_k321, c_k322, c_k323, c_k324, c_k325, c_k326, c_k327, c_k328, c_k329, c_k330, c_k331, c_k332, c_k333, c_k334, c_k335, c_k336, c_k337, c_k338, c_k339, c_k340, c_k341, c_k342, c_k343, c_k344, c_k345, c_k346, c_k347, hS1.r319_0, hS1.r319_1, hS1.r319_2, hS1.r319_3, hS1.r319_4, hS1.r319_5, hS1.r319_6, hS1.r319_8, hS1.r319_9, hS1.r319_10, hS1.r319_11, hS1.r319_12, hS1.r319_13, hS1.r319_14, hS1.r319_15, hS1.r319_16, hS1.r319_17, hS1.r319_20, hS1.r319_21, hS1.r319_22, hS1.r319_23, hS1.r319_24, hS1.r319_25, hS1.r319_26, hS1.r319_29, hS1.r319_30, hS1.r319_31, hS1.r319_32, w_sf1, w_sf3]
        repeat refine And.intro (by first | assumption | exact IsW.kt (by assumption) | omega | (unfold in32; omega) | (unfold in64; omega) | exact True.intro | exact Or.inl True.intro | exact Or.inr True.intro | rfl | exact Nat.le_of_ble_eq_true rfl) ?_
        try first | done | assumption | (unfold in32; omega) | (unfold in64; omega)
        refine ⟨_, p_Mo_rests hS2 f2 hW1 mt2 tk1, ?_⟩
        rintro q M3 ⟨rfl, G3, i3, X, F, htp⟩
        have hS3 := G3.1
        have f3 : M3 324 = cw_fu f 3 t := by rw [G3.2.1 324 (by omega) (by omega)]; exact f2
        have mt3 : Mt M3 T := mt2.cg (fun a y => G3.2.1 a (by omega) (by omega))
        obtain ⟨ps, tr, hall⟩ := h_all mt3 i3 tk1 htp
        have o3 : ∀ a k : Int, a ≠ 324 → ¬ (320 ≤ a ∧ a ≤ 323) → ¬ (331 ≤ a ∧ a ≤ 336) → M3 a = M a := fun a k x y z => by rw [G3.2.1 a y z, cw_up_ne x, o1 a k x y z]
        have s3 : sR M M3 6 ∧ sR M M3 7 := ⟨s1.1.tr ((sr_up (by omega)).tr (G3.2.2 6 (by omega))), s1.2.tr ((sr_up (by omega)).tr (G3.2.2 7 (by omega)))⟩
        have ii := i3 p p07.1 p07.2
        have i32 : in32 (M3 335 p) := by unfold in32; omega
        -- the end of the round
        have fin : ∀ (M4 : cw_M) (v : Int), Sh M4 → M4 324 = cw_fu f 3 t → (∀ a k : Int, a ≠ 324 → ¬ (320 ≤ a ∧ a ≤ 323) → ¬ (331 ≤ a ∧ a ≤ 336) → M4 a = M a) → (sR M M4 6 ∧ sR M M4 7) → in64 v → (c_ft T p (fl i) w Fr ↔ v = fl i) →
            mJ g y_Mo_allSeen 102 [.inr (.inr 319), .inl c, .inl (f 3), .inl i, .inl p, .inr (.inl v), cU] [] M4 (cw_hide (fun q M' => q = some (.inl (p_b (AllF f fl T))) ∧ Gq M M' ∧ M' 324 = f ∧ Mt M' T ∧ M' 319 18 = 0 ∧ M' 319 19 = M 319 19 ∧ sR M M' 6 ∧ sR M M' 7)) := by
          intro M4 v hS4 f4 o4 s4 v64 hv
          have e338 : M4 338 i = fl i := by rw [o4 338 0 (by omega) (by omega) (by omega), hfl]
          have l64 : in64 (fl i) := by unfold in64; omega
          refine k_Mo_allSeen_102 _ _ _ _ _ _ _ _ ?_
          simp (disch := omega) only [↓w_nil, ↓w_cons, ↓w_lld5, ↓w_ald0, ↓w_gf2_21, ↓w_ild3, ↓w_lald, ↓w_lcne, true_and, and_true, true_implies, false_implies, not_true_eq_false, not_false_eq_true, Int.reduceEq, Int.reduceLT, Int.reduceLE, Int.reduceNeg, w_up1, w_up2, w_up3, e338, c_k319, c_k320, c_k321, c_k322, c_k323, c_k324, c_k325, c_k326, c_k327, c_k328, c_k329, c_k330, c_k331, c_k332, c_k333, c_k334, c_k335, c_k336, c_k337, c_k338, c_k339, c_k340, c_k341, c_k342, c_k343, c_k344, c_k345, c_k346, c_k347, hS4.r319_0, hS4.r319_1, hS4.r319_2, hS4.r319_3, hS4.r319_4, hS4.r319_5, hS4.r319_6, hS4.r319_8, hS4.r319_9, hS4.r319_10, hS4.r319_11, hS4.r319_12, hS4.r319_13, hS4.r319_14, hS4.r319_15, hS4.r319_16, hS4.r319_17, hS4.r319_20, hS4.r319_21, hS4.r319_22, hS4.r319_23, hS4.r319_24, hS4.r319_25, hS4.r319_26, hS4.r319_29, hS4.r319_30, hS4.r319_31, hS4.r319_32, w_sf1, w_sf3]
          repeat refine And.intro (by first | assumption | exact IsW.kt (by assumption) | omega | (unfold in32; omega) | (unfold in64; omega) | exact True.intro | exact Or.inl True.intro | exact Or.inr True.intro | rfl | exact Nat.le_of_ble_eq_true rfl) ?_
          try first | done | assumption | (unfold in32; omega) | (unfold in64; omega)
          refine ⟨fun hn => ?_, fun hn => ?_⟩
          · refine k_Mo_allSeen_118 _ _ _ _ _ _ _ _ ?_
            simp (disch := omega) only [↓w_nil, ↓w_cons, ↓w_ic, ↓w_fall, true_and, and_true, true_implies, false_implies, not_true_eq_false, not_false_eq_true, Int.reduceEq, Int.reduceLT, Int.reduceLE, Int.reduceNeg, w_up1, w_up2, w_up3]
            refine k_Mo_allSeen_119 _ _ _ _ _ _ _ _ ?_
            simp (disch := omega) only [↓w_nil, ↓w_cons, ↓w_ist1, ↓w_inc3, ↓w_goto, true_and, and_true, true_implies, false_implies, not_true_eq_false, not_false_eq_true, Int.reduceEq, Int.reduceLT, Int.reduceLE, Int.reduceNeg, w_nlI, w_nlL, w_nlR, w_up1, w_up2, w_up3]
            repeat refine And.intro (by first | assumption | exact IsW.kt (by assumption) | omega | (unfold in32; omega) | (unfold in64; omega) | exact True.intro | exact Or.inl True.intro | exact Or.inr True.intro | rfl | exact Nat.le_of_ble_eq_true rfl) ?_
            try first | done | assumption | (unfold in32; omega) | (unfold in64; omega)
            refine ih (i + 1) 0 t M4 _ _ (by omega) (by omega) hS4 f4 o4 s4 (Or.inr ⟨rfl, fun al => ?_⟩)
            exact hn (hv.mp (fi.mp (al i h0 (by omega))))
          · refine k_Mo_allSeen_114 _ _ _ _ _ _ _ _ ?_
            simp (disch := omega) only [↓w_nil, ↓w_cons, ↓w_ic, ↓w_goto, true_and, and_true, true_implies, false_implies, not_true_eq_false, not_false_eq_true, Int.reduceEq, Int.reduceLT, Int.reduceLE, Int.reduceNeg, w_up1, w_up2, w_up3]
            refine k_Mo_allSeen_119 _ _ _ _ _ _ _ _ ?_
            simp (disch := omega) only [↓w_nil, ↓w_cons, ↓w_ist1, ↓w_inc3, ↓w_goto, true_and, and_true, true_implies, false_implies, not_true_eq_false, not_false_eq_true, Int.reduceEq, Int.reduceLT, Int.reduceLE, Int.reduceNeg, w_nlI, w_nlL, w_nlR, w_up1, w_up2, w_up3]
            repeat refine And.intro (by first | assumption | exact IsW.kt (by assumption) | omega | (unfold in32; omega) | (unfold in64; omega) | exact True.intro | exact Or.inl True.intro | exact Or.inr True.intro | rfl | exact Nat.le_of_ble_eq_true rfl) ?_
            try first | done | assumption | (unfold in32; omega) | (unfold in64; omega)
            refine ih (i + 1) 1 t M4 _ _ (by omega) (by omega) hS4 f4 o4 s4 (Or.inl ⟨rfl, fun j a b => ?_⟩)
            by_cases q : j = i
            · rw [q]; exact fi.mpr (hv.mpr hn)
            · exact hp j a (by omega)
        refine k_Mo_allSeen_63 _ _ _ _ _ _ _ _ ?_
        simp (disch := omega) only [↓w_nil, ↓w_cons, ↓w_lc, ↓w_lst5, ↓w_ald0, ↓w_gf2_16, ↓w_ild4, ↓w_zald, ↓w_ifeq, true_and, and_true, true_implies, false_implies, not_true_eq_false, not_false_eq_true, Int.reduceEq, Int.reduceLT, Int.reduceLE, Int.reduceNeg, w_nlI, w_nlL, w_nlR, w_up1, w_up2, w_up3, w_tl0, c_k319, c_k320, c_k321, c_k322, c_k323, c_k324, c_k325, c_k326, c_k327, c_k328, c_k329, c_k330, c_k331, c_k332, c_k333, c_k334, c_k335, c_k336, c_k337, c_k338, c_k339, c_k340, c_k341, c_k342, c_k343, c_k344, c_k345, c_k346, c_k347, hS3.r319_0, hS3.r319_1, hS3.r319_2, hS3.r319_3, hS3.r319_4, hS3.r319_5, hS3.r319_6, hS3.r319_8, hS3.r319_9, hS3.r319_10, hS3.r319_11, hS3.r319_12, hS3.r319_13, hS3.r319_14, hS3.r319_15, hS3.r319_16, hS3.r319_17, hS3.r319_20, hS3.r319_21, hS3.r319_22, hS3.r319_23, hS3.r319_24, hS3.r319_25, hS3.r319_26, hS3.r319_29, hS3.r319_30, hS3.r319_31, hS3.r319_32, w_sf1, w_sf3]
        repeat refine And.intro (by first | assumption | exact IsW.kt (by assumption) | omega | (unfold in32; omega) | (unfold in64; omega) | exact True.intro | exact Or.inl True.intro | exact Or.inr True.intro | rfl | exact Nat.le_of_ble_eq_true rfl) ?_
        try first | done | assumption | (unfold in32; omega) | (unfold in64; omega)
        refine And.symm ⟨fun hc0 => ?_, fun hc0 => ?_⟩
        · have pT : t_in T p := by rcases ii with y | y; exact y.2; exact absurd y.1 (by omega)
          have fbd := hd_f hall pT
          obtain ⟨R, l, ⟨_, w', _, _, hrel⟩, hR, _⟩ := tp_ex T 1 (at_un hW1 (by omega) hall hr') p pT
          have rel := hrel p hR
          have u0 : 0 < M3 336 p := fbd.2.2.1
          have k1 : M3 336 p * Fr p = w * F p := by rw [rel.1]; exact rel.2.2
          have fb2 : -(10080000 * M3 336 p) ≤ F p ∧ F p ≤ 10080000 * M3 336 p := by
            have b := fb p pT
            have a1 := Int.mul_le_mul_of_nonneg_left b.1 (show 0 ≤ M3 336 p by omega)
            have a2 := Int.mul_le_mul_of_nonneg_left b.2 (show 0 ≤ M3 336 p by omega)
            rw [k1] at a1 a2
            rw [show M3 336 p * -(10080000 * w) = w * -(10080000 * M3 336 p) by grind] at a1
            rw [show M3 336 p * (10080000 * w) = w * (10080000 * M3 336 p) by grind] at a2
            exact ⟨Int.le_of_mul_le_mul_left a1 hr0.1, Int.le_of_mul_le_mul_left a2 hr0.1⟩
          have ftf : c_ft T p (fl i) w Fr ↔ cw_fl (F p) (M3 336 p) = fl i := by
            rw [← ft_fl pT u0 fb2]
            exact ⟨ft_sc ⟨hr0.1, u0⟩ (fun _ => k1), ft_sc ⟨u0, hr0.1⟩ (fun _ => k1.symm)⟩
          refine k_Mo_allSeen_76 _ _ _ _ _ _ _ _ ?_
          simp (disch := omega) only [↓w_nil, ↓w_cons, ↓w_ald0, ↓w_ic, ↓w_gf2_17, ↓w_ild4, ↓w_lald, ↓w_cv2, true_and, and_true, true_implies, false_implies, not_true_eq_false, not_false_eq_true, Int.reduceEq, Int.reduceLT, Int.reduceLE, Int.reduceNeg, w_c80, w_c8I, w_c8L, w_c8R, w_up1, w_up2, w_up3, c_k319, c_k320, c_k321, c_k322, c_k323, c_k324, c_k325, c_k326, c_k327, c_k328, c_k329, c_k330, c_k331, c_k332, c_k333, c_k334, c_k335, c_k336, c_k337, c_k338, c_k339, c_k340, c_k341, c_k342, c_k343, c_k344, c_k345, c_k346, c_k347, hS3.r319_0, hS3.r319_1, hS3.r319_2, hS3.r319_3, hS3.r319_4, hS3.r319_5, hS3.r319_6, hS3.r319_8, hS3.r319_9, hS3.r319_10, hS3.r319_11, hS3.r319_12, hS3.r319_13, hS3.r319_14, hS3.r319_15, hS3.r319_16, hS3.r319_17, hS3.r319_20, hS3.r319_21, hS3.r319_22, hS3.r319_23, hS3.r319_24, hS3.r319_25, hS3.r319_26, hS3.r319_29, hS3.r319_30, hS3.r319_31, hS3.r319_32, w_sf1, w_sf3]
          repeat refine And.intro (by first | assumption | exact IsW.kt (by assumption) | omega | (unfold in32; omega) | (unfold in64; omega) | exact True.intro | exact Or.inl True.intro | exact Or.inr True.intro | rfl | exact Nat.le_of_ble_eq_true rfl) ?_
          try first | done | assumption | (unfold in32; omega) | (unfold in64; omega)
          refine ⟨_, p_Mo_sets hS3 (r := 9) (v := M3 336 p) ⟨by omega, by omega⟩ (by omega), ?_⟩
          rintro q M4 ⟨rfl, g4, r4⟩
          have hS4 := hS3.rf r4
          refine k_Mo_allSeen_89 _ _ _ _ _ _ _ _ ?_
          simp (disch := omega) only [↓w_nil, ↓w_cons, ↓w_ald0, ↓w_ic, ↓w_ild4, ↓w_iadd, ↓w_cv2, true_and, and_true, true_implies, false_implies, not_true_eq_false, not_false_eq_true, Int.reduceEq, Int.reduceLT, Int.reduceLE, Int.reduceNeg, w_c80, w_c8I, w_c8L, w_c8R, w_up1, w_up2, w_up3, w_tl0]
          repeat refine And.intro (by first | assumption | exact IsW.kt (by assumption) | omega | (unfold in32; omega) | (unfold in64; omega) | exact True.intro | exact Or.inl True.intro | exact Or.inr True.intro | rfl | exact Nat.le_of_ble_eq_true rfl) ?_
          try first | done | assumption | (unfold in32; omega) | (unfold in64; omega)
          refine ⟨_, p_Mo_floorOf hS4 (a := 24 + p) (b := 9) ⟨by omega, by omega⟩ ⟨by omega, by omega⟩ (by omega) (by omega) (fbd.2.1.1.rf r4 ⟨by omega, by omega⟩ (by omega)) g4 u0 (Int.lt_trans (b24 (by omega)) (by decide)), ?_⟩
          rintro q M5 ⟨rfl, r5⟩
          have o5 : ∀ a : Int, ¬ (320 ≤ a ∧ a ≤ 323) → M5 a = M3 a := fun a y => by rw [r5.1 a y, r4.1 a y]
          have v64 : in64 (cw_fl (F p) (M3 336 p)) := by unfold in64 cw_fl; omega
          have s5 : ∀ s : Int, s = 6 ∨ s = 7 → sR M3 M5 s := fun s hs => (sr_rf r4 ⟨by omega, by omega⟩ (by omega)).tr (sr_rf r5 ⟨by omega, by omega⟩ (by omega))
          refine k_Mo_allSeen_100 _ _ _ _ _ _ _ _ ?_
          simp (disch := omega) only [↓w_nil, ↓w_cons, ↓w_lst5, ↓w_fall, true_and, and_true, true_implies, false_implies, not_true_eq_false, not_false_eq_true, Int.reduceEq, Int.reduceLT, Int.reduceLE, Int.reduceNeg, w_nlI, w_nlL, w_nlR, w_up1, w_up2, w_up3, w_tl1]
          exact fin M5 _ (hS4.rf r5) (by rw [o5 324 (by omega)]; exact f3) (fun a k x y z => by rw [o5 a y]; exact o3 a k x y z) ⟨s3.1.tr (s5 6 (by omega)), s3.2.tr (s5 7 (by omega))⟩ v64 ftf
        · have nT : ¬ t_in T p := by rcases ii with y | y; exact absurd y.1 (by omega); exact y.2
          exact fin M3 0 hS3 f3 o3 s3 (by unfold in64; omega) ⟨fun h => (h.2 nT).symm, fun h => ⟨fun y => absurd y nT, fun _ => h.symm⟩⟩
      · have cp : c = p_b (AllF f fl T) := by
          rcases hc with ⟨h, _⟩ | ⟨h, h2⟩
          · omega
          · rw [pb_0 h2, h]
        exact rear M1 c i s _ _ cp (back M1 s hS1 f1 o1) f1 (hT.cg (fun a y => o1 a 0 (by omega) (by omega) (by omega))) (by rw [o1 319 0 (by omega) (by omega) (by omega)]) s1
  have f0 : M 324 = cw_fu f 3 (f 3) := by rw [fu_id rfl]; exact hf
  refine k_Mo_allSeen_0 _ _ _ _ _ _ _ _ ?_
  simp (disch := omega) only [↓w_nil, ↓w_cons, ↓w_ic, ↓w_ist1, ↓w_ald0, ↓w_gf2_4, ↓w_iald, ↓w_ist2, ↓w_ist3, ↓w_fall, true_and, and_true, true_implies, false_implies, not_true_eq_false, not_false_eq_true, Int.reduceEq, Int.reduceLT, Int.reduceLE, Int.reduceNeg, w_nlI, w_nlL, w_nlR, w_up1, w_up2, w_up3, e3, c_k319, c_k320, c_k321, c_k322, c_k323, c_k324, c_k325, c_k326, c_k327, c_k328, c_k329, c_k330, c_k331, c_k332, c_k333, c_k334, c_k335, c_k336, c_k337, c_k338, c_k339, c_k340, c_k341, c_k342, c_k343, c_k344, c_k345, c_k346, c_k347, hS.r319_0, hS.r319_1, hS.r319_2, hS.r319_3, hS.r319_4, hS.r319_5, hS.r319_6, hS.r319_8, hS.r319_9, hS.r319_10, hS.r319_11, hS.r319_12, hS.r319_13, hS.r319_14, hS.r319_15, hS.r319_16, hS.r319_17, hS.r319_20, hS.r319_21, hS.r319_22, hS.r319_23, hS.r319_24, hS.r319_25, hS.r319_26, hS.r319_29, hS.r319_30, hS.r319_31, hS.r319_32, w_sf1, w_sf3]
  repeat refine And.intro (by first | assumption | exact IsW.kt (by assumption) | omega | (unfold in32; omega) | (unfold in64; omega) | exact True.intro | exact Or.inl True.intro | exact Or.inr True.intro | rfl | exact Nat.le_of_ble_eq_true rfl) ?_
  try first | done | assumption | (unfold in32; omega) | (unfold in64; omega)
  exact loop (f 2).toNat 0 1 (f 3) M _ _ (by omega) (by omega) hS f0 (fun _ _ _ _ _ => rfl) ⟨sR.rf, sR.rf⟩ (Or.inl ⟨rfl, fun j a b => absurd b (by omega)⟩)
