/-! the reference: each, part, still -/
theorem d_each {g : cw_G} {M : cw_M} {f fl : Int → Int} {n : Int} {u v : Int} (hS : Sh M) (hf : M 324 = f) (hW : WF n f fl) (hn5 : n ≤ 512) (hok : m_ok f M) (hk : ∀ T, g_of f = .inr T → Tk f T) (hu : in32 u) (hv : in32 v) :
    mC g y_Mo_each [.inr (.inr 319), .inl u, .inl v] M (fun r M' => (¬ ((0 ≤ u ∧ u ≤ 3) ∧ (0 ≤ v ∧ v ≤ 3)) ∧ r = some (.inl (-10)) ∧ M' = M) ∨ (((0 ≤ u ∧ u ≤ 3) ∧ (0 ≤ v ∧ v ≤ 3)) ∧ FrM f (fun T => P_di (U_ln f (f 3) T u) (U_ln (cw_fu f (268 + v) (f (268 + v) + 1)) (f 3) T u)) M r M')) := by
  have w0 := hW.1
  have lbb : ∀ {N D : Int}, Lb 7 C_ln N D → cw_ab N < 1073741824 ^ 10 ∧ cw_ab D < 1073741824 ^ 5 := fun lb => ⟨Int.lt_of_le_of_lt (ab_rng (b := ((7 : Nat) : Int) * C_ln * (201 : Int) ^ 7) lb.2) (by decide), Int.lt_of_le_of_lt (ab_rng (b := (201 : Int) ^ 7) ⟨by have := lb.1.1; have := z_pos 7; omega, lb.1.2⟩) (by decide)⟩
  refine cw_C_of (L := [.inr (.inr 319), .inl u, .inl v]) ok_Mo_each (Nat.le_refl _) (Nat.le_of_ble_eq_true rfl) rfl ?_
  refine cw_J_hide ?_
  refine k_Mo_each_0 _ _ _ _ _ _ _ _ ?_
  simp (disch := omega) only [↓w_nil, ↓w_cons, ↓w_ild1, ↓w_cs1, true_and, and_true, true_implies, false_implies, not_true_eq_false, not_false_eq_true, Int.reduceEq, Int.reduceLT, Int.reduceLE, Int.reduceNeg, w_c80, w_c8I, w_c8L, w_c8R, w_up1, w_up2, w_up3]
  repeat refine And.intro (by first | assumption | exact IsW.kt (by assumption) | omega | (unfold in32; omega) | (unfold in64; omega) | exact True.intro | exact Or.inl True.intro | exact Or.inr True.intro | rfl | exact Nat.le_of_ble_eq_true rfl) ?_
  try first | done | assumption | (unfold in32; omega) | (unfold in64; omega)
  refine ⟨_, cw_bool (p_Mo_isWinding hu), ?_⟩
  rintro q M9 ⟨⟨rfl, hb⟩ | ⟨rfl, hb⟩, rfl⟩
  · refine k_Mo_each_4 _ _ _ _ _ _ _ _ ?_
    simp (disch := omega) only [↓w_nil, ↓w_ifeq, true_and, and_true, true_implies, false_implies, not_true_eq_false, not_false_eq_true, Int.reduceEq, Int.reduceLT, Int.reduceLE, Int.reduceNeg, w_up1, w_up2, w_up3, w_tl1]
    repeat refine And.intro (by first | assumption | exact IsW.kt (by assumption) | omega | (unfold in32; omega) | (unfold in64; omega) | exact True.intro | exact Or.inl True.intro | exact Or.inr True.intro | rfl | exact Nat.le_of_ble_eq_true rfl) ?_
    try first | done | assumption | (unfold in32; omega) | (unfold in64; omega)
    refine k_Mo_each_7 _ _ _ _ _ _ _ _ ?_
    simp (disch := omega) only [↓w_nil, ↓w_cons, ↓w_ild2, ↓w_cs1, true_and, and_true, true_implies, false_implies, not_true_eq_false, not_false_eq_true, Int.reduceEq, Int.reduceLT, Int.reduceLE, Int.reduceNeg, w_c80, w_c8I, w_c8L, w_c8R, w_up1, w_up2, w_up3]
    repeat refine And.intro (by first | assumption | exact IsW.kt (by assumption) | omega | (unfold in32; omega) | (unfold in64; omega) | exact True.intro | exact Or.inl True.intro | exact Or.inr True.intro | rfl | exact Nat.le_of_ble_eq_true rfl) ?_
    try first | done | assumption | (unfold in32; omega) | (unfold in64; omega)
    refine ⟨_, cw_bool (p_Mo_isWinding hv), ?_⟩
    rintro q M8 ⟨⟨rfl, hv2⟩ | ⟨rfl, hv2⟩, rfl⟩
    · refine k_Mo_each_11 _ _ _ _ _ _ _ _ ?_
      simp (disch := omega) only [↓w_nil, ↓w_ifne, true_and, and_true, true_implies, false_implies, not_true_eq_false, not_false_eq_true, Int.reduceEq, Int.reduceLT, Int.reduceLE, Int.reduceNeg, w_up1, w_up2, w_up3, w_tl1]
      repeat refine And.intro (by first | assumption | exact IsW.kt (by assumption) | omega | (unfold in32; omega) | (unfold in64; omega) | exact True.intro | exact Or.inl True.intro | exact Or.inr True.intro | rfl | exact Nat.le_of_ble_eq_true rfl) ?_
      try first | done | assumption | (unfold in32; omega) | (unfold in64; omega)
      refine k_Mo_each_17 _ _ _ _ _ _ _ _ ?_
      simp (disch := omega) only [↓w_nil, ↓w_cons, ↓w_ald0, ↓w_cv0, true_and, and_true, true_implies, false_implies, not_true_eq_false, not_false_eq_true, Int.reduceEq, Int.reduceLT, Int.reduceLE, Int.reduceNeg, w_c80, w_c8I, w_c8L, w_c8R, w_up1, w_up2, w_up3]
      repeat refine And.intro (by first | assumption | exact IsW.kt (by assumption) | omega | (unfold in32; omega) | (unfold in64; omega) | exact True.intro | exact Or.inl True.intro | exact Or.inr True.intro | rfl | exact Nat.le_of_ble_eq_true rfl) ?_
      try first | done | assumption | (unfold in32; omega) | (unfold in64; omega)
      refine ⟨_, p_Mo_find hS hf hW hok hk, ?_⟩
      rintro q M1 ⟨G1, ok1, k1, ⟨e, he, rfl⟩ | ⟨T, hT, rfl, hat⟩⟩
      · refine k_Mo_each_21 _ _ _ _ _ _ _ _ ?_
        simp (disch := omega) only [↓w_nil, ↓w_ifne, true_and, and_true, true_implies, false_implies, not_true_eq_false, not_false_eq_true, Int.reduceEq, Int.reduceLT, Int.reduceLE, Int.reduceNeg, w_up1, w_up2, w_up3, w_tl1]
        repeat refine And.intro (by first | assumption | exact IsW.kt (by assumption) | omega | (unfold in32; omega) | (unfold in64; omega) | exact True.intro | exact Or.inl True.intro | exact Or.inr True.intro | rfl | exact Nat.le_of_ble_eq_true rfl) ?_
        try first | done | assumption | (unfold in32; omega) | (unfold in64; omega)
        refine k_Mo_each_24 _ _ _ _ _ _ _ _ ?_
        simp (disch := omega) only [↓w_nil, ↓w_cons, ↓w_ic, ↓w_iret, true_and, and_true, true_implies, false_implies, not_true_eq_false, not_false_eq_true, Int.reduceEq, Int.reduceLT, Int.reduceLE, Int.reduceNeg, w_up1, w_up2, w_up3]
        repeat refine And.intro (by first | assumption | exact IsW.kt (by assumption) | omega | (unfold in32; omega) | (unfold in64; omega) | exact True.intro | exact Or.inl True.intro | exact Or.inr True.intro | rfl | exact Nat.le_of_ble_eq_true rfl) ?_
        try first | done | assumption | (unfold in32; omega) | (unfold in64; omega)
        exact Or.inr ⟨⟨hb, hv2⟩, G1, ok1, Or.inl ⟨e, he, rfl, k1 6 (Or.inl (by omega)), k1 7 (Or.inl (by omega))⟩⟩
      · have hS1 := G1.1
        have tk := hk T hT
        have f1 : M1 324 = f := by rw [G1.row (by omega) (by omega) (by omega)]; exact hf
        have fb := hW.2.2.2.2.2.2.2.1 v hv2.1 (by omega)
        obtain ⟨mt, mi, X, F, htp⟩ := id hat
        obtain ⟨ps, tr, hall⟩ := h_all mt mi tk htp
        obtain ⟨kk, w, Xr, Fr, _, hr, _, _⟩ := ex_rest (t := f 3) hW (by omega) tk
        have hW2 := wf_cu (u := v) (v := f (268 + v) + 1) ⟨hv2.1, by omega⟩ ⟨by omega, by omega, by omega⟩ (hW.mo (show n ≤ 600 by omega))
        have tk2 : Tk (cw_fu f (268 + v) (f (268 + v) + 1)) T := ⟨tk.1, tk.2.1, tk.2.2.1, fun q hq => by rw [fu_o (by omega)]; exact tk.2.2.2 q hq⟩
        have f3 : (cw_fu f (268 + v) (f (268 + v) + 1)) 3 = f 3 := fu_o (by omega)
        obtain ⟨kk2, w2, Xr2, Fr2, _, hr2, _, _⟩ := ex_rest (t := f 3) hW2 (by omega) tk2
        refine k_Mo_each_21 _ _ _ _ _ _ _ _ ?_
        simp (disch := omega) only [↓w_nil, ↓w_ifne, true_and, and_true, true_implies, false_implies, not_true_eq_false, not_false_eq_true, Int.reduceEq, Int.reduceLT, Int.reduceLE, Int.reduceNeg, w_up1, w_up2, w_up3, w_tl1]
        repeat refine And.intro (by first | assumption | exact IsW.kt (by assumption) | omega | (unfold in32; omega) | (unfold in64; omega) | exact True.intro | exact Or.inl True.intro | exact Or.inr True.intro | rfl | exact Nat.le_of_ble_eq_true rfl) ?_
        try first | done | assumption | (unfold in32; omega) | (unfold in64; omega)
        refine k_Mo_each_27 _ _ _ _ _ _ _ _ ?_
        simp (disch := omega) only [↓w_nil, ↓w_cons, ↓w_ald0, ↓w_ild1, ↓w_cv1, true_and, and_true, true_implies, false_implies, not_true_eq_false, not_false_eq_true, Int.reduceEq, Int.reduceLT, Int.reduceLE, Int.reduceNeg, w_c80, w_c8I, w_c8L, w_c8R, w_up1, w_up2, w_up3]
        repeat refine And.intro (by first | assumption | exact IsW.kt (by assumption) | omega | (unfold in32; omega) | (unfold in64; omega) | exact True.intro | exact Or.inl True.intro | exact Or.inr True.intro | rfl | exact Nat.le_of_ble_eq_true rfl) ?_
        try first | done | assumption | (unfold in32; omega) | (unfold in64; omega)
        refine ⟨_, p_Mo_links hS1 f1 hW (by omega) ⟨hb.1, by omega⟩ hall hr, ?_⟩
        rintro q M2 ⟨rfl, r2, N, D, a8, a9, lb, hND⟩
        have hS2 := hS1.rf r2
        have b2 := lbb lb
        refine k_Mo_each_32 _ _ _ _ _ _ _ _ ?_
        simp (disch := omega) only [↓w_nil, ↓w_cons, ↓w_ald0, ↓w_ic, ↓w_cv2, true_and, and_true, true_implies, false_implies, not_true_eq_false, not_false_eq_true, Int.reduceEq, Int.reduceLT, Int.reduceLE, Int.reduceNeg, w_c80, w_c8I, w_c8L, w_c8R, w_up1, w_up2, w_up3, w_tl0]
        repeat refine And.intro (by first | assumption | exact IsW.kt (by assumption) | omega | (unfold in32; omega) | (unfold in64; omega) | exact True.intro | exact Or.inl True.intro | exact Or.inr True.intro | rfl | exact Nat.le_of_ble_eq_true rfl) ?_
        try first | done | assumption | (unfold in32; omega) | (unfold in64; omega)
        refine ⟨_, p_Mo_copies hS2 (v := N) ⟨by omega, by omega⟩ ⟨by omega, by omega⟩ a8, ?_⟩
        rintro q M3 ⟨rfl, g3, r3⟩
        have hS3 := hS2.rf r3
        refine k_Mo_each_40 _ _ _ _ _ _ _ _ ?_
        simp (disch := omega) only [↓w_nil, ↓w_cons, ↓w_ald0, ↓w_ic, ↓w_cv2, true_and, and_true, true_implies, false_implies, not_true_eq_false, not_false_eq_true, Int.reduceEq, Int.reduceLT, Int.reduceLE, Int.reduceNeg, w_c80, w_c8I, w_c8L, w_c8R, w_up1, w_up2, w_up3, w_tl0]
        repeat refine And.intro (by first | assumption | exact IsW.kt (by assumption) | omega | (unfold in32; omega) | (unfold in64; omega) | exact True.intro | exact Or.inl True.intro | exact Or.inr True.intro | rfl | exact Nat.le_of_ble_eq_true rfl) ?_
        try first | done | assumption | (unfold in32; omega) | (unfold in64; omega)
        refine ⟨_, p_Mo_copies hS3 (v := D) ⟨by omega, by omega⟩ ⟨by omega, by omega⟩ (a9.rf r3 ⟨by omega, by omega⟩ (by omega)), ?_⟩
        rintro q M4 ⟨rfl, g4, r4⟩
        have hS4 := hS3.rf r4
        have o4 : ∀ a : Int, ¬ (320 ≤ a ∧ a ≤ 323) → M4 a = M1 a := fun a y => by rw [r4.1 a y, r3.1 a y, r2.1 a y]
        have f4 : M4 324 = f := by rw [o4 324 (by omega)]; exact f1
        have e4 : M4 324 (268 + v) = f (268 + v) := by rw [f4]
        have hS5 : Sh (cw_up M4 324 (268 + v) (f (268 + v) + 1)) := hS4.up (rs_k c_k324 (by decide))
        have f5 : (cw_up M4 324 (268 + v) (f (268 + v) + 1)) 324 = cw_fu f (268 + v) (f (268 + v) + 1) := by
          funext j
          rw [cw_up_eq, f4]; rfl
        have mt5 : Mt (cw_up M4 324 (268 + v) (f (268 + v) + 1)) T := mt.cg (fun a y => by rw [cw_up_ne (by omega), o4 a (by omega)])
        refine k_Mo_each_48 _ _ _ _ _ _ _ _ ?_
        simp (disch := omega) only [↓w_nil, ↓w_cons, ↓w_ald0, ↓w_gf2_4, ↓w_ic, ↓w_ild2, ↓w_iadd, ↓w_dup2, ↓w_dup2L, ↓w_iald, ↓w_iast, ↓w_cv0, true_and, and_true, true_implies, false_implies, not_true_eq_false, not_false_eq_true, Int.reduceEq, Int.reduceLT, Int.reduceLE, Int.reduceNeg, w_c80, w_c8I, w_c8L, w_c8R, w_up1, w_up2, w_up3, w_tl0, e4, c_k319, c_k320, c_k321, c_k322, c_k323, c_k324, c_k325, c_k326, c_k327, c_k328, c_k329, c_k330, c_k331, c_k332, c_k333, c_k334, c_k335, c_k336, c_k337, c_k338, c_k339, c_k340, c_k341, c_k342, c_k343, c_k344, c_k345, c_k346, c_k347, hS4.r319_0, hS4.r319_1, hS4.r319_2, hS4.r319_3, hS4.r319_4, hS4.r319_5, hS4.r319_6, hS4.r319_8, hS4.r319_9, hS4.r319_10, hS4.r319_11, hS4.r319_12, hS4.r319_13, hS4.r319_14, hS4.r319_15, hS4.r319_16, hS4.r319_17, hS4.r319_20, hS4.r319_21, hS4.r319_22, hS4.r319_23, hS4.r319_24, hS4.r319_25, hS4.r319_26, hS4.r319_29, hS4.r319_30, hS4.r319_31, hS4.r319_32, w_sf1, w_sf3]
        repeat refine And.intro (by first | assumption | exact IsW.kt (by assumption) | omega | (unfold in32; omega) | (unfold in64; omega) | exact True.intro | exact Or.inl True.intro | exact Or.inr True.intro | rfl | exact Nat.le_of_ble_eq_true rfl) ?_
        try first | done | assumption | (unfold in32; omega) | (unfold in64; omega)
        refine ⟨_, p_Mo_rests hS5 f5 hW2 mt5 tk2, ?_⟩
        rintro q M6 ⟨rfl, G6, i6, X6, F6, htp6⟩
        have hS6 := G6.1
        have f6 : M6 324 = cw_fu f (268 + v) (f (268 + v) + 1) := by rw [G6.2.1 324 (by omega) (by omega)]; exact f5
        have mt6 : Mt M6 T := mt5.cg (fun a y => G6.2.1 a (by omega) (by omega))
        rw [f3] at htp6
        obtain ⟨ps6, tr6, hall6⟩ := h_all mt6 i6 tk2 htp6
        refine k_Mo_each_66 _ _ _ _ _ _ _ _ ?_
        simp (disch := omega) only [↓w_nil, ↓w_cons, ↓w_ald0, ↓w_ild1, ↓w_cv1, true_and, and_true, true_implies, false_implies, not_true_eq_false, not_false_eq_true, Int.reduceEq, Int.reduceLT, Int.reduceLE, Int.reduceNeg, w_c80, w_c8I, w_c8L, w_c8R, w_up1, w_up2, w_up3, w_tl0]
        repeat refine And.intro (by first | assumption | exact IsW.kt (by assumption) | omega | (unfold in32; omega) | (unfold in64; omega) | exact True.intro | exact Or.inl True.intro | exact Or.inr True.intro | rfl | exact Nat.le_of_ble_eq_true rfl) ?_
        try first | done | assumption | (unfold in32; omega) | (unfold in64; omega)
        refine ⟨_, p_Mo_links hS6 f6 hW2 (by omega) ⟨hb.1, by omega⟩ hall6 hr2, ?_⟩
        rintro q M7 ⟨rfl, r7, N', D', a8', a9', lb', hND'⟩
        have hS7 := hS6.rf r7
        have b7 := lbb lb'
        have f7 : M7 324 = cw_fu f (268 + v) (f (268 + v) + 1) := by rw [r7.1 324 (by omega)]; exact f6
        have e7 : M7 324 (268 + v) = f (268 + v) + 1 := by rw [f7, fu_a]
        have g10 : RM M7 10 N := (((g3.rf r4 ⟨by omega, by omega⟩ (by omega)).sm (sr_up (by omega))).sm (G6.2.2 10 (by omega))).rf r7 ⟨by omega, by omega⟩ (by unfold RL; omega)
        have g11 : RM M7 11 D := ((g4.sm (sr_up (by omega))).sm (G6.2.2 11 (by omega))).rf r7 ⟨by omega, by omega⟩ (by unfold RL; omega)
        have o7 : ∀ a : Int, a ≠ 324 → ¬ (320 ≤ a ∧ a ≤ 323) → ¬ (331 ≤ a ∧ a ≤ 336) → M7 a = M1 a := fun a x y z => by rw [r7.1 a y, G6.2.1 a y z, cw_up_ne x, o4 a y]
        have f8 : (cw_up M7 324 (268 + v) (f (268 + v) + 1 - 1)) 324 = f := by
          funext j
          rw [cw_up_eq, f7]
          by_cases q : j = 268 + v
          · rw [if_pos q, q]; omega
          · rw [if_neg q, fu_o q]
        have hS8 : Sh (cw_up M7 324 (268 + v) (f (268 + v) + 1 - 1)) := hS7.up (rs_k c_k324 (by decide))
        refine k_Mo_each_71 _ _ _ _ _ _ _ _ ?_
        simp (disch := omega) only [↓w_nil, ↓w_cons, ↓w_ald0, ↓w_gf2_4, ↓w_ic, ↓w_ild2, ↓w_iadd, ↓w_dup2, ↓w_dup2L, ↓w_iald, ↓w_isub, ↓w_iast, ↓w_cv0, true_and, and_true, true_implies, false_implies, not_true_eq_false, not_false_eq_true, Int.reduceEq, Int.reduceLT, Int.reduceLE, Int.reduceNeg, w_c80, w_c8I, w_c8L, w_c8R, w_up1, w_up2, w_up3, w_tl0, e7, c_k319, c_k320, c_k321, c_k322, c_k323, c_k324, c_k325, c_k326, c_k327, c_k328, c_k329, c_k330, c_k331, c_k332, c_k333, c_k334, c_k335, c_k336, c_k337, c_k338, c_k339, c_k340, c_k341, c_k342, c_k343, c_k344, c_k345, c_k346, c_k347, hS7.r319_0, hS7.r319_1, hS7.r319_2, hS7.r319_3, hS7.r319_4, hS7.r319_5, hS7.r319_6, hS7.r319_8, hS7.r319_9, hS7.r319_10, hS7.r319_11, hS7.r319_12, hS7.r319_13, hS7.r319_14, hS7.r319_15, hS7.r319_16, hS7.r319_17, hS7.r319_20, hS7.r319_21, hS7.r319_22, hS7.r319_23, hS7.r319_24, hS7.r319_25, hS7.r319_26, hS7.r319_29, hS7.r319_30, hS7.r319_31, hS7.r319_32, w_sf1, w_sf3]
        repeat refine And.intro (by first | assumption | exact IsW.kt (by assumption) | omega | (unfold in32; omega) | (unfold in64; omega) | exact True.intro | exact Or.inl True.intro | exact Or.inr True.intro | rfl | exact Nat.le_of_ble_eq_true rfl) ?_
        try first | done | assumption | (unfold in32; omega) | (unfold in64; omega)
        refine ⟨_, p_Mo_changes, ?_⟩
        rintro q Ma ⟨rfl, rfl⟩
        generalize hMb : cw_up (cw_up M7 324 (268 + v) (f (268 + v) + 1 - 1)) 319 18 0 = Mb
        have hSb : Sh Mb := by rw [← hMb]; exact hS8.up (by decide +kernel)
        have sb : ∀ s, sR M7 Mb s := fun s => by rw [← hMb]; exact (sr_up (by omega)).tr (sr_up (by omega))
        have z18 : Mb 319 18 = 0 := by rw [← hMb]; exact w_up1
        have z19 : Mb 319 19 = M1 319 19 := by rw [← hMb, w_up2 (by omega), cw_up_ne (by omega), o7 319 (by omega) (by omega) (by omega)]
        have Gb : Gq M1 Mb := by
          refine ⟨hSb, fun a k x y z => ?_⟩
          rw [← hMb]
          by_cases q : a = 319
          · subst q
            rw [w_up2 (fun e => z ⟨rfl, by omega⟩), cw_up_ne (by omega), o7 319 (by omega) (by omega) (by omega)]
          · rw [cw_up_ne q]
            by_cases q2 : a = 324
            · rw [q2, f8, f1]
            · rw [cw_up_ne q2, o7 a q2 x (by omega)]
        refine k_Mo_each_89 _ _ _ _ _ _ _ _ ?_
        simp (disch := omega) only [↓w_nil, ↓w_cons, ↓w_ald0, ↓w_cv0, true_and, and_true, true_implies, false_implies, not_true_eq_false, not_false_eq_true, Int.reduceEq, Int.reduceLT, Int.reduceLE, Int.reduceNeg, w_c80, w_c8I, w_c8L, w_c8R, w_up1, w_up2, w_up3, w_tl0]
        repeat refine And.intro (by first | assumption | exact IsW.kt (by assumption) | omega | (unfold in32; omega) | (unfold in64; omega) | exact True.intro | exact Or.inl True.intro | exact Or.inr True.intro | rfl | exact Nat.le_of_ble_eq_true rfl) ?_
        try first | done | assumption | (unfold in32; omega) | (unfold in64; omega)
        refine ⟨_, p_Mo_differ hSb (a8'.sm (sb 8)) (a9'.sm (sb 9)) (g10.sm (sb 10)) (g11.sm (sb 11)) ⟨b7.1, b7.2, lb'.1.1⟩ ⟨b2.1, b2.2, lb.1.1⟩, ?_⟩
        rintro q Mc ⟨rfl, g6, g7, r6⟩
        have s32 := sg32 (N' * D + -1 * (N * D'))
        have okc : m_ok f Mc := ⟨Or.inl (by rw [r6.1 319 (by omega)]; exact z18), by rw [r6.1 319 (by omega), z19]; exact ok1.2⟩
        have ww := Int.mul_pos hr2.1 hr.1
        have dd := Int.mul_pos lb'.1.1 lb.1.1
        have hA' : t_tl (fun p => Fr2 p * (cw_fu f (268 + v) (f (268 + v) + 1)) (17 + 12 * p + u)) T = t_tl (fun p => Fr2 p * f (17 + 12 * p + u)) T := tl_cg T (fun p hp => by
          have := tk.2.2.2 p hp
          rw [fu_o (by omega)])
        obtain ⟨A, hAe⟩ : ∃ A, A = t_tl (fun p => Fr p * f (17 + 12 * p + u)) T := ⟨_, rfl⟩
        obtain ⟨A', hAe'⟩ : ∃ A', A' = t_tl (fun p => Fr2 p * (cw_fu f (268 + v) (f (268 + v) + 1)) (17 + 12 * p + u)) T := ⟨_, rfl⟩
        rw [← hAe] at hND
        rw [← hAe'] at hND'
        have rel : (A' * w - A * w2) * (D' * D) = (N' * D + -1 * (N * D')) * (w2 * w) := by
          have e1 : (A' * w - A * w2) * (D' * D) = (D' * A') * (w * D) - (D * A) * (w2 * D') := by grind
          rw [e1, ← hND, ← hND']; grind
        have U1 : U_ln f (f 3) T u A w := ⟨Xr, Fr, hr, hAe⟩
        have U2 : U_ln (cw_fu f (268 + v) (f (268 + v) + 1)) (f 3) T u A' w2 := ⟨Xr2, Fr2, hr2, hAe'⟩
        refine k_Mo_each_93 _ _ _ _ _ _ _ _ ?_
        simp (disch := omega) only [↓w_nil, ↓w_iret, true_and, and_true, true_implies, false_implies, not_true_eq_false, not_false_eq_true, Int.reduceEq, Int.reduceLT, Int.reduceLE, Int.reduceNeg, w_up1, w_up2, w_up3, w_tl1]
        repeat refine And.intro (by first | assumption | exact IsW.kt (by assumption) | omega | (unfold in32; omega) | (unfold in64; omega) | exact True.intro | exact Or.inl True.intro | exact Or.inr True.intro | rfl | exact Nat.le_of_ble_eq_true rfl) ?_
        try first | done | assumption | (unfold in32; omega) | (unfold in64; omega)
        exact Or.inr ⟨⟨hb, hv2⟩, G1.tr (Gb.tr (gq_rf hSb r6)), okc, Or.inr ⟨T, hT, _, _, _, _, ⟨A, w, A', w2, U1, U2, rfl, rfl⟩, ww, dd, rel, rfl, g6, g7⟩⟩
    · refine k_Mo_each_11 _ _ _ _ _ _ _ _ ?_
      simp (disch := omega) only [↓w_nil, ↓w_ifne, true_and, and_true, true_implies, false_implies, not_true_eq_false, not_false_eq_true, Int.reduceEq, Int.reduceLT, Int.reduceLE, Int.reduceNeg, w_up1, w_up2, w_up3, w_tl1]
      repeat refine And.intro (by first | assumption | exact IsW.kt (by assumption) | omega | (unfold in32; omega) | (unfold in64; omega) | exact True.intro | exact Or.inl True.intro | exact Or.inr True.intro | rfl | exact Nat.le_of_ble_eq_true rfl) ?_
      try first | done | assumption | (unfold in32; omega) | (unfold in64; omega)
      refine k_Mo_each_14 _ _ _ _ _ _ _ _ ?_
      simp (disch := omega) only [↓w_nil, ↓w_cons, ↓w_ic, ↓w_iret, true_and, and_true, true_implies, false_implies, not_true_eq_false, not_false_eq_true, Int.reduceEq, Int.reduceLT, Int.reduceLE, Int.reduceNeg, w_up1, w_up2, w_up3]
      repeat refine And.intro (by first | assumption | exact IsW.kt (by assumption) | omega | (unfold in32; omega) | (unfold in64; omega) | exact True.intro | exact Or.inl True.intro | exact Or.inr True.intro | rfl | exact Nat.le_of_ble_eq_true rfl) ?_
      try first | done | assumption | (unfold in32; omega) | (unfold in64; omega)
      exact Or.inl ⟨fun z => hv2 z.2, rfl, rfl⟩
  · refine k_Mo_each_4 _ _ _ _ _ _ _ _ ?_
    simp (disch := omega) only [↓w_nil, ↓w_ifeq, true_and, and_true, true_implies, false_implies, not_true_eq_false, not_false_eq_true, Int.reduceEq, Int.reduceLT, Int.reduceLE, Int.reduceNeg, w_up1, w_up2, w_up3, w_tl1]
    repeat refine And.intro (by first | assumption | exact IsW.kt (by assumption) | omega | (unfold in32; omega) | (unfold in64; omega) | exact True.intro | exact Or.inl True.intro | exact Or.inr True.intro | rfl | exact Nat.le_of_ble_eq_true rfl) ?_
    try first | done | assumption | (unfold in32; omega) | (unfold in64; omega)
    refine k_Mo_each_14 _ _ _ _ _ _ _ _ ?_
    simp (disch := omega) only [↓w_nil, ↓w_cons, ↓w_ic, ↓w_iret, true_and, and_true, true_implies, false_implies, not_true_eq_false, not_false_eq_true, Int.reduceEq, Int.reduceLT, Int.reduceLE, Int.reduceNeg, w_up1, w_up2, w_up3]
    repeat refine And.intro (by first | assumption | exact IsW.kt (by assumption) | omega | (unfold in32; omega) | (unfold in64; omega) | exact True.intro | exact Or.inl True.intro | exact Or.inr True.intro | rfl | exact Nat.le_of_ble_eq_true rfl) ?_
    try first | done | assumption | (unfold in32; omega) | (unfold in64; omega)
    exact Or.inl ⟨fun z => hb z.1, rfl, rfl⟩
/-- what a call for a plain answer leaves -/
def FrJ (f : Int → Int) (P : Tr → Int → Prop) (M : cw_M) (r : Option cw_V) (M' : cw_M) : Prop := Gq M M' ∧ m_ok f M' ∧ (sR M M' 6 ∧ sR M M' 7) ∧ ((∃ e, g_of f = .inl e ∧ r = some (.inl (-3))) ∨ ∃ T, g_of f = .inr T ∧ ∃ v : Int, P T v ∧ in32 v ∧ r = some (.inl v))
theorem d_part {g : cw_G} {M : cw_M} {f fl : Int → Int} {n : Int} {p : Int} (hS : Sh M) (hf : M 324 = f) (hW : WF n f fl) (hok : m_ok f M) (hk : ∀ T, g_of f = .inr T → Tk f T) (hp : in32 p) :
    mC g y_Mo_part [.inr (.inr 319), .inl p] M (fun r M' => (¬ (0 ≤ p ∧ p ≤ f 0 - 1) ∧ r = some (.inl (-2)) ∧ M' = M) ∨ ((0 ≤ p ∧ p ≤ f 0 - 1) ∧ FrJ f (P_pt f p) M r M')) := by
  have w0 := hW.1
  have e0 : M 324 0 = f 0 := by rw [hf]
  refine cw_C_of (L := [.inr (.inr 319), .inl p]) ok_Mo_part (Nat.le_refl _) (Nat.le_of_ble_eq_true rfl) rfl ?_
  refine cw_J_hide ?_
  refine k_Mo_part_0 _ _ _ _ _ _ _ _ ?_
  simp (disch := omega) only [↓w_nil, ↓w_cons, ↓w_ald0, ↓w_ild1, ↓w_cv1, true_and, and_true, true_implies, false_implies, not_true_eq_false, not_false_eq_true, Int.reduceEq, Int.reduceLT, Int.reduceLE, Int.reduceNeg, w_c80, w_c8I, w_c8L, w_c8R, w_up1, w_up2, w_up3]
  repeat refine And.intro (by first | assumption | exact IsW.kt (by assumption) | omega | (unfold in32; omega) | (unfold in64; omega) | exact True.intro | exact Or.inl True.intro | exact Or.inr True.intro | rfl | exact Nat.le_of_ble_eq_true rfl) ?_
  try first | done | assumption | (unfold in32; omega) | (unfold in64; omega)
  refine ⟨_, cw_bool (p_Mo_isPiece hS hp e0 (by omega)), ?_⟩
  rintro q M9 ⟨⟨rfl, hb⟩ | ⟨rfl, hb⟩, rfl⟩
  · refine k_Mo_part_5 _ _ _ _ _ _ _ _ ?_
    simp (disch := omega) only [↓w_nil, ↓w_ifne, true_and, and_true, true_implies, false_implies, not_true_eq_false, not_false_eq_true, Int.reduceEq, Int.reduceLT, Int.reduceLE, Int.reduceNeg, w_up1, w_up2, w_up3, w_tl1]
    repeat refine And.intro (by first | assumption | exact IsW.kt (by assumption) | omega | (unfold in32; omega) | (unfold in64; omega) | exact True.intro | exact Or.inl True.intro | exact Or.inr True.intro | rfl | exact Nat.le_of_ble_eq_true rfl) ?_
    try first | done | assumption | (unfold in32; omega) | (unfold in64; omega)
    refine k_Mo_part_11 _ _ _ _ _ _ _ _ ?_
    simp (disch := omega) only [↓w_nil, ↓w_cons, ↓w_ald0, ↓w_cv0, true_and, and_true, true_implies, false_implies, not_true_eq_false, not_false_eq_true, Int.reduceEq, Int.reduceLT, Int.reduceLE, Int.reduceNeg, w_c80, w_c8I, w_c8L, w_c8R, w_up1, w_up2, w_up3]
    repeat refine And.intro (by first | assumption | exact IsW.kt (by assumption) | omega | (unfold in32; omega) | (unfold in64; omega) | exact True.intro | exact Or.inl True.intro | exact Or.inr True.intro | rfl | exact Nat.le_of_ble_eq_true rfl) ?_
    try first | done | assumption | (unfold in32; omega) | (unfold in64; omega)
    refine ⟨_, p_Mo_find hS hf hW hok hk, ?_⟩
    rintro q M1 ⟨G1, ok1, k1, ⟨e, he, rfl⟩ | ⟨T, hT, rfl, hat⟩⟩
    · refine k_Mo_part_15 _ _ _ _ _ _ _ _ ?_
      simp (disch := omega) only [↓w_nil, ↓w_ifne, true_and, and_true, true_implies, false_implies, not_true_eq_false, not_false_eq_true, Int.reduceEq, Int.reduceLT, Int.reduceLE, Int.reduceNeg, w_up1, w_up2, w_up3, w_tl1]
      repeat refine And.intro (by first | assumption | exact IsW.kt (by assumption) | omega | (unfold in32; omega) | (unfold in64; omega) | exact True.intro | exact Or.inl True.intro | exact Or.inr True.intro | rfl | exact Nat.le_of_ble_eq_true rfl) ?_
      try first | done | assumption | (unfold in32; omega) | (unfold in64; omega)
      refine k_Mo_part_18 _ _ _ _ _ _ _ _ ?_
      simp (disch := omega) only [↓w_nil, ↓w_cons, ↓w_ic, ↓w_iret, true_and, and_true, true_implies, false_implies, not_true_eq_false, not_false_eq_true, Int.reduceEq, Int.reduceLT, Int.reduceLE, Int.reduceNeg, w_up1, w_up2, w_up3]
      repeat refine And.intro (by first | assumption | exact IsW.kt (by assumption) | omega | (unfold in32; omega) | (unfold in64; omega) | exact True.intro | exact Or.inl True.intro | exact Or.inr True.intro | rfl | exact Nat.le_of_ble_eq_true rfl) ?_
      try first | done | assumption | (unfold in32; omega) | (unfold in64; omega)
      exact Or.inr ⟨hb, G1, ok1, ⟨k1 6 (Or.inl (by omega)), k1 7 (Or.inl (by omega))⟩, Or.inl ⟨e, he, rfl⟩⟩
    · have hS1 := G1.1
      have tk := hk T hT
      have f1 : M1 324 = f := by rw [G1.row (by omega) (by omega) (by omega)]; exact hf
      obtain ⟨mt, mi, X, F, htp⟩ := id hat
      obtain ⟨ps, tr, hall⟩ := h_all mt mi tk htp
      obtain ⟨kk, w, Xr, Fr, _, hr, _, _⟩ := ex_rest (t := f 3) hW (by omega) tk
      have ii := mi p hb.1 (by omega)
      have i32 : in32 (M1 335 p) := by unfold in32; omega
      refine k_Mo_part_15 _ _ _ _ _ _ _ _ ?_
      simp (disch := omega) only [↓w_nil, ↓w_ifne, true_and, and_true, true_implies, false_implies, not_true_eq_false, not_false_eq_true, Int.reduceEq, Int.reduceLT, Int.reduceLE, Int.reduceNeg, w_up1, w_up2, w_up3, w_tl1]
      repeat refine And.intro (by first | assumption | exact IsW.kt (by assumption) | omega | (unfold in32; omega) | (unfold in64; omega) | exact True.intro | exact Or.inl True.intro | exact Or.inr True.intro | rfl | exact Nat.le_of_ble_eq_true rfl) ?_
      try first | done | assumption | (unfold in32; omega) | (unfold in64; omega)
      refine k_Mo_part_21 _ _ _ _ _ _ _ _ ?_
      simp (disch := omega) only [↓w_nil, ↓w_cons, ↓w_ald0, ↓w_gf2_16, ↓w_ild1, ↓w_zald, ↓w_ifeq, true_and, and_true, true_implies, false_implies, not_true_eq_false, not_false_eq_true, Int.reduceEq, Int.reduceLT, Int.reduceLE, Int.reduceNeg, w_up1, w_up2, w_up3, c_k319, c_k320, c_k321, c_k322, c_k323, c_k324, c_k325, c_k326, c_k327, c_k328, c_k329, c_k330, c_k331, c_k332, c_k333, c_k334, c_k335, c_k336, c_k337, c_k338, c_k339, c_k340, c_k341, c_k342, c_k343, c_k344, c_k345, c_k346, c_k347, hS1.r319_0, hS1.r319_1, hS1.r319_2, hS1.r319_3, hS1.r319_4, hS1.r319_5, hS1.r319_6, hS1.r319_8, hS1.r319_9, hS1.r319_10, hS1.r319_11, hS1.r319_12, hS1.r319_13, hS1.r319_14, hS1.r319_15, hS1.r319_16, hS1.r319_17, hS1.r319_20, hS1.r319_21, hS1.r319_22, hS1.r319_23, hS1.r319_24, hS1.r319_25, hS1.r319_26, hS1.r319_29, hS1.r319_30, hS1.r319_31, hS1.r319_32, w_sf1, w_sf3]
      repeat refine And.intro (by first | assumption | exact IsW.kt (by assumption) | omega | (unfold in32; omega) | (unfold in64; omega) | exact True.intro | exact Or.inl True.intro | exact Or.inr True.intro | rfl | exact Nat.le_of_ble_eq_true rfl) ?_
      try first | done | assumption | (unfold in32; omega) | (unfold in64; omega)
      refine ⟨fun hc => ?_, fun hc => ?_⟩
      · have nT : ¬ t_in T p := by rcases ii with y | y; omega; exact y.2
        refine k_Mo_part_38 _ _ _ _ _ _ _ _ ?_
        simp (disch := omega) only [↓w_nil, ↓w_cons, ↓w_ic, ↓w_fall, true_and, and_true, true_implies, false_implies, not_true_eq_false, not_false_eq_true, Int.reduceEq, Int.reduceLT, Int.reduceLE, Int.reduceNeg, w_up1, w_up2, w_up3]
        refine k_Mo_part_39 _ _ _ _ _ _ _ _ ?_
        simp (disch := omega) only [↓w_nil, ↓w_iret, true_and, and_true, true_implies, false_implies, not_true_eq_false, not_false_eq_true, Int.reduceEq, Int.reduceLT, Int.reduceLE, Int.reduceNeg, w_up1, w_up2, w_up3]
        repeat refine And.intro (by first | assumption | exact IsW.kt (by assumption) | omega | (unfold in32; omega) | (unfold in64; omega) | exact True.intro | exact Or.inl True.intro | exact Or.inr True.intro | rfl | exact Nat.le_of_ble_eq_true rfl) ?_
        try first | done | assumption | (unfold in32; omega) | (unfold in64; omega)
        exact Or.inr ⟨hb, G1, ok1, ⟨k1 6 (Or.inl (by omega)), k1 7 (Or.inl (by omega))⟩, Or.inr ⟨T, hT, 0, ⟨w, Xr, Fr, hr, fun y => absurd y nT, fun _ => rfl⟩, by unfold in32; omega, rfl⟩⟩
      · have pT : t_in T p := by rcases ii with y | y; exact y.2; exact absurd y.1 hc
        have fb := hd_f hall pT
        obtain ⟨R, l, ⟨_, w', _, _, hrel⟩, hR, _⟩ := tp_ex T 1 (at_un hW (by omega) hall hr) p pT
        have rel := hrel p hR
        refine k_Mo_part_30 _ _ _ _ _ _ _ _ ?_
        simp (disch := omega) only [↓w_nil, ↓w_cons, ↓w_ald0, ↓w_ild1, ↓w_cv1, true_and, and_true, true_implies, false_implies, not_true_eq_false, not_false_eq_true, Int.reduceEq, Int.reduceLT, Int.reduceLE, Int.reduceNeg, w_c80, w_c8I, w_c8L, w_c8R, w_up1, w_up2, w_up3]
        repeat refine And.intro (by first | assumption | exact IsW.kt (by assumption) | omega | (unfold in32; omega) | (unfold in64; omega) | exact True.intro | exact Or.inl True.intro | exact Or.inr True.intro | rfl | exact Nat.le_of_ble_eq_true rfl) ?_
        try first | done | assumption | (unfold in32; omega) | (unfold in64; omega)
        refine ⟨_, p_Mo_partOf (x := X p) (w := M1 336 p) hS1 (by rw [f1]; exact hW) (by rw [f1]; exact ⟨hb.1, by omega⟩) ⟨fb.1.1, rfl, fb.2.2⟩, ?_⟩
        rintro q M2 ⟨rfl, r2⟩
        rw [f1]
        have c2 : 0 ≤ c_pt f p (M1 336 p) (X p) ∧ c_pt f p (M1 336 p) (X p) ≤ 2 := by unfold c_pt; (repeat' split) <;> omega
        have c32 : in32 (c_pt f p (M1 336 p) (X p)) := by unfold in32; omega
        have eq : c_pt f p w (Xr p) = c_pt f p (M1 336 p) (X p) := by
          have w1 := hr.1
          have w2 := fb.2.2.1
          have rel1 : M1 336 p * Xr p = w * X p := by rw [rel.1]; exact rel.2.1
          have ab : M1 336 p * cw_ab (Xr p) = w * cw_ab (X p) := by rw [← ab_k w2, ← ab_k w1, rel1]
          have cmp : ∀ b : Int, b * w < cw_ab (Xr p) ↔ b * M1 336 p < cw_ab (X p) := fun b => by
            refine ⟨fun z => ?_, fun z => ?_⟩
            · have a := Int.mul_lt_mul_of_pos_left z w2
              rw [ab] at a
              have c : M1 336 p * (b * w) = w * (b * M1 336 p) := by grind
              rw [c] at a
              exact Int.lt_of_mul_lt_mul_left a (by omega)
            · have a := Int.mul_lt_mul_of_pos_left z w1
              rw [← ab] at a
              have c : w * (b * M1 336 p) = M1 336 p * (b * w) := by grind
              rw [c] at a
              exact Int.lt_of_mul_lt_mul_left a (by omega)
          unfold c_pt
          have q1 := cmp (f (12 + 12 * p))
          have q2 := cmp (f (14 + 12 * p))
          by_cases z1 : f (12 + 12 * p) * w < cw_ab (Xr p)
          · by_cases z2 : f (14 + 12 * p) * w < cw_ab (Xr p)
            · rw [if_pos z1, if_pos z2, if_pos (q1.mp z1), if_pos (q2.mp z2)]
            · rw [if_pos z1, if_neg z2, if_pos (q1.mp z1), if_neg (fun y => z2 (q2.mpr y))]
          · by_cases z2 : f (14 + 12 * p) * w < cw_ab (Xr p)
            · rw [if_neg z1, if_pos z2, if_neg (fun y => z1 (q1.mpr y)), if_pos (q2.mp z2)]
            · rw [if_neg z1, if_neg z2, if_neg (fun y => z1 (q1.mpr y)), if_neg (fun y => z2 (q2.mpr y))]
        have n67 : ∀ s : Int, s = 6 ∨ s = 7 → sR M9 M2 s := fun s hs => (k1 s (Or.inl (by omega))).tr (sr_rf r2 ⟨by omega, by omega⟩ (fun y => by have y : s = 0 ∨ s = 14 := y; omega))
        refine k_Mo_part_35 _ _ _ _ _ _ _ _ ?_
        simp (disch := omega) only [↓w_nil, ↓w_goto, true_and, and_true, true_implies, false_implies, not_true_eq_false, not_false_eq_true, Int.reduceEq, Int.reduceLT, Int.reduceLE, Int.reduceNeg, w_up1, w_up2, w_up3, w_tl1]
        repeat refine And.intro (by first | assumption | exact IsW.kt (by assumption) | omega | (unfold in32; omega) | (unfold in64; omega) | exact True.intro | exact Or.inl True.intro | exact Or.inr True.intro | rfl | exact Nat.le_of_ble_eq_true rfl) ?_
        try first | done | assumption | (unfold in32; omega) | (unfold in64; omega)
        refine k_Mo_part_39 _ _ _ _ _ _ _ _ ?_
        simp (disch := omega) only [↓w_nil, ↓w_iret, true_and, and_true, true_implies, false_implies, not_true_eq_false, not_false_eq_true, Int.reduceEq, Int.reduceLT, Int.reduceLE, Int.reduceNeg, w_up1, w_up2, w_up3]
        repeat refine And.intro (by first | assumption | exact IsW.kt (by assumption) | omega | (unfold in32; omega) | (unfold in64; omega) | exact True.intro | exact Or.inl True.intro | exact Or.inr True.intro | rfl | exact Nat.le_of_ble_eq_true rfl) ?_
        try first | done | assumption | (unfold in32; omega) | (unfold in64; omega)
        exact Or.inr ⟨hb, G1.tr (gq_rf hS1 r2), mok_rf ok1 r2 (fun s y => by have y : s = 0 ∨ s = 14 := y; omega) hk, ⟨n67 6 (by omega), n67 7 (by omega)⟩, Or.inr ⟨T, hT, _, ⟨w, Xr, Fr, hr, fun _ => eq.symm, fun y => absurd pT y⟩, c32, rfl⟩⟩
  · refine k_Mo_part_5 _ _ _ _ _ _ _ _ ?_
    simp (disch := omega) only [↓w_nil, ↓w_ifne, true_and, and_true, true_implies, false_implies, not_true_eq_false, not_false_eq_true, Int.reduceEq, Int.reduceLT, Int.reduceLE, Int.reduceNeg, w_up1, w_up2, w_up3, w_tl1]
    repeat refine And.intro (by first | assumption | exact IsW.kt (by assumption) | omega | (unfold in32; omega) | (unfold in64; omega) | exact True.intro | exact Or.inl True.intro | exact Or.inr True.intro | rfl | exact Nat.le_of_ble_eq_true rfl) ?_
    try first | done | assumption | (unfold in32; omega) | (unfold in64; omega)
    refine k_Mo_part_8 _ _ _ _ _ _ _ _ ?_
    simp (disch := omega) only [↓w_nil, ↓w_cons, ↓w_ic, ↓w_iret, true_and, and_true, true_implies, false_implies, not_true_eq_false, not_false_eq_true, Int.reduceEq, Int.reduceLT, Int.reduceLE, Int.reduceNeg, w_up1, w_up2, w_up3]
    repeat refine And.intro (by first | assumption | exact IsW.kt (by assumption) | omega | (unfold in32; omega) | (unfold in64; omega) | exact True.intro | exact Or.inl True.intro | exact Or.inr True.intro | rfl | exact Nat.le_of_ble_eq_true rfl) ?_
    try first | done | assumption | (unfold in32; omega) | (unfold in64; omega)
    exact Or.inl ⟨hb, rfl, rfl⟩
