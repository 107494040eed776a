/-! the reference's calls of stars: wide, star, even, span -/
theorem WF.sd {n : Int} {f fl : Int → Int} (h : WF n f fl) : ∀ j : Int, 0 ≤ j → j < 24 → -12 ≤ f (336 + j) ∧ f (336 + j) ≤ 12 := fun j a b => (h.2.2.2.2.2.2.2.2.2.2.1 j a b).1
theorem Md_at.tr {S : Int} {M M' : cw_M} (h : Md_at S M) (k : ∀ a, a = 319 ∨ a = 343 → M' a = M a) : Md_at S M' := by
  unfold Md_at
  rw [k 319 (by omega), k 343 (by omega)]; exact h
theorem d_wide {g : cw_G} {M : cw_M} {f fl : Int → Int} {n : Int} (hS : Sh M) (hf : M 324 = f) (hW : WF n f fl) (hd : Mdi M) :
    mC g y_Mo_wide [.inr (.inr 319)] M (fun q M' => q = some (.inl (y_w (f 4))) ∧ Fpw M M' ∧ Mdi M') := by
  have w4 := hW.1.2.2.2.2
  have wb := y_w_b w4
  refine cw_C_of (L := [.inr (.inr 319)]) ok_Mo_wide (Nat.le_refl _) (Nat.le_of_ble_eq_true rfl) rfl ?_
  refine cw_J_hide ?_
  refine k_Mo_wide_0 _ _ _ _ _ _ _ _ ?_
  simp (disch := omega) only [↓w_nil, ↓w_cons, ↓w_ald0, ↓w_cv0, true_and, and_true, true_implies, false_implies, not_true_eq_false, not_false_eq_true, Int.reduceEq, Int.reduceLT, Int.reduceLE, Int.reduceNeg, w_c80, w_c8I, w_c8L, w_c8R, w_up1, w_up2, w_up3]
  repeat refine And.intro (by first | assumption | exact IsW.kt (by assumption) | omega | (unfold in32; omega) | (unfold in64; omega) | exact True.intro | exact Or.inl True.intro | exact Or.inr True.intro | rfl | exact Nat.le_of_ble_eq_true rfl) ?_
  try first | done | assumption | (unfold in32; omega) | (unfold in64; omega)
  refine ⟨_, p_Mo_findPowers hS hf hW hd, ?_⟩
  rintro q M1 ⟨rfl, F1, s1⟩
  have hS1 := F1.1
  have i1 : in32 (y_w (f 4)) := by unfold in32; omega
  refine k_Mo_wide_4 _ _ _ _ _ _ _ _ ?_
  simp (disch := omega) only [↓w_nil, ↓w_cons, ↓w_ald0, ↓w_gf0_27, ↓w_iret, true_and, and_true, true_implies, false_implies, not_true_eq_false, not_false_eq_true, Int.reduceEq, Int.reduceLT, Int.reduceLE, Int.reduceNeg, w_up1, w_up2, w_up3, w_tl0, s1.2.1, c_k319, c_k320, c_k321, c_k322, c_k323, c_k324, c_k325, c_k326, c_k327, c_k328, c_k329, c_k330, c_k331, c_k332, c_k333, c_k334, c_k335, c_k336, c_k337, c_k338, c_k339, c_k340, c_k341, c_k342, c_k343, c_k344, c_k345, c_k346, c_k347, hS1.r319_0, hS1.r319_1, hS1.r319_2, hS1.r319_3, hS1.r319_4, hS1.r319_5, hS1.r319_6, hS1.r319_8, hS1.r319_9, hS1.r319_10, hS1.r319_11, hS1.r319_12, hS1.r319_13, hS1.r319_14, hS1.r319_15, hS1.r319_16, hS1.r319_17, hS1.r319_20, hS1.r319_21, hS1.r319_22, hS1.r319_23, hS1.r319_24, hS1.r319_25, hS1.r319_26, hS1.r319_29, hS1.r319_30, hS1.r319_31, hS1.r319_32, w_sf1, w_sf3]
  repeat refine And.intro (by first | assumption | exact IsW.kt (by assumption) | omega | (unfold in32; omega) | (unfold in64; omega) | exact True.intro | exact Or.inl True.intro | exact Or.inr True.intro | rfl | exact Nat.le_of_ble_eq_true rfl) ?_
  try first | done | assumption | (unfold in32; omega) | (unfold in64; omega)
  try unfold cw_hide
  first | exact mdi_at w4 s1 | exact ⟨rfl, F1, mdi_at w4 s1⟩
theorem d_star {g : cw_G} {M : cw_M} {f fl : Int → Int} {n ph k i : Int} (hS : Sh M) (hf : M 324 = f) (hW : WF n f fl) (hd : Mdi M) (hph : in32 ph) (hk : in32 k) (hi : in32 i) :
    mC g y_Mo_star [.inr (.inr 319), .inl ph, .inl k, .inl i] M (fun q M' => (Fpw M M' ∧ Mdi M') ∧ ((¬ ((0 ≤ ph ∧ ph ≤ 2) ∧ (0 ≤ k ∧ k ≤ 24) ∧ (0 ≤ i ∧ i ≤ y_w (f 4) - 1)) ∧ q = some (.inl (-1000))) ∨ (((0 ≤ ph ∧ ph ≤ 2) ∧ (0 ≤ k ∧ k ≤ 24) ∧ (0 ≤ i ∧ i ≤ y_w (f 4) - 1)) ∧ q = some (.inl (y_tt (fun j => y_sg (f (336 + j)) ph) (f 4) k 0 i (f 4)))))) := by
  have w4 := hW.1.2.2.2.2
  have wb := y_w_b w4
  refine cw_C_of (L := [.inr (.inr 319), .inl ph, .inl k, .inl i]) ok_Mo_star (Nat.le_refl _) (Nat.le_of_ble_eq_true rfl) rfl ?_
  refine cw_J_hide ?_
  refine k_Mo_star_0 _ _ _ _ _ _ _ _ ?_
  simp (disch := omega) only [↓w_nil, ↓w_cons, ↓w_ald0, ↓w_cv0, true_and, and_true, true_implies, false_implies, not_true_eq_false, not_false_eq_true, Int.reduceEq, Int.reduceLT, Int.reduceLE, Int.reduceNeg, w_c80, w_c8I, w_c8L, w_c8R, w_up1, w_up2, w_up3]
  repeat refine And.intro (by first | assumption | exact IsW.kt (by assumption) | omega | (unfold in32; omega) | (unfold in64; omega) | exact True.intro | exact Or.inl True.intro | exact Or.inr True.intro | rfl | exact Nat.le_of_ble_eq_true rfl) ?_
  try first | done | assumption | (unfold in32; omega) | (unfold in64; omega)
  refine ⟨_, p_Mo_findPowers hS hf hW hd, ?_⟩
  rintro q M1 ⟨rfl, F1, s1⟩
  have hS1 := F1.1
  have hf1 : M1 324 = f := by funext k; rw [F1.2 324 k (by omega) (by omega), hf]
  have bad : ¬ ((0 ≤ ph ∧ ph ≤ 2) ∧ (0 ≤ k ∧ k ≤ 24) ∧ (0 ≤ i ∧ i ≤ y_w (f 4) - 1)) → mJ g y_Mo_star 44 [.inr (.inr 319), .inl ph, .inl k, .inl i] [] M1 (cw_hide (fun q M' => (Fpw M M' ∧ Mdi M') ∧ ((¬ ((0 ≤ ph ∧ ph ≤ 2) ∧ (0 ≤ k ∧ k ≤ 24) ∧ (0 ≤ i ∧ i ≤ y_w (f 4) - 1)) ∧ q = some (.inl (-1000))) ∨ (((0 ≤ ph ∧ ph ≤ 2) ∧ (0 ≤ k ∧ k ≤ 24) ∧ (0 ≤ i ∧ i ≤ y_w (f 4) - 1)) ∧ q = some (.inl (y_tt (fun j => y_sg (f (336 + j)) ph) (f 4) k 0 i (f 4))))))) := by
    intro hb
    refine k_Mo_star_44 _ _ _ _ _ _ _ _ ?_
    simp (disch := omega) only [↓w_nil, ↓w_cons, ↓w_ic, ↓w_iret, true_and, and_true, true_implies, false_implies, not_true_eq_false, not_false_eq_true, Int.reduceEq, Int.reduceLT, Int.reduceLE, Int.reduceNeg, w_up1, w_up2, w_up3]
    try unfold cw_hide
    exact ⟨⟨F1, mdi_at w4 s1⟩, Or.inl ⟨hb, rfl⟩⟩
  refine k_Mo_star_4 _ _ _ _ _ _ _ _ ?_
  simp (disch := omega) only [↓w_nil, ↓w_cons, ↓w_ild1, ↓w_i2l, ↓w_lc, ↓w_cs3, true_and, and_true, true_implies, false_implies, not_true_eq_false, not_false_eq_true, Int.reduceEq, Int.reduceLT, Int.reduceLE, Int.reduceNeg, w_c80, w_c8I, w_c8L, w_c8R, w_up1, w_up2, w_up3, w_tl0]
  repeat refine And.intro (by first | assumption | exact IsW.kt (by assumption) | omega | (unfold in32; omega) | (unfold in64; omega) | exact True.intro | exact Or.inl True.intro | exact Or.inr True.intro | rfl | exact Nat.le_of_ble_eq_true rfl) ?_
  try first | done | assumption | (unfold in32; omega) | (unfold in64; omega)
  refine ⟨_, cw_bool (p_Mo_in (by first | assumption | exact i64 (by assumption) | (unfold in32; omega) | (unfold in64; omega) | omega | (simp only [in32, in64] at *; omega)) (by first | assumption | exact i64 (by assumption) | (unfold in32; omega) | (unfold in64; omega) | omega | (simp only [in32, in64] at *; omega)) (by first | assumption | exact i64 (by assumption) | (unfold in32; omega) | (unfold in64; omega) | omega | (simp only [in32, in64] at *; omega))), ?_⟩
  rintro q M5 ⟨⟨rfl, hb⟩ | ⟨rfl, hb⟩, rfl⟩
  · refine k_Mo_star_13 _ _ _ _ _ _ _ _ ?_
    simp (disch := omega) only [↓w_nil, ↓w_ifeq, true_and, and_true, true_implies, false_implies, not_true_eq_false, not_false_eq_true, Int.reduceEq, Int.reduceLT, Int.reduceLE, Int.reduceNeg, w_up1, w_up2, w_up3, w_tl1]
    repeat refine And.intro (by first | assumption | exact IsW.kt (by assumption) | omega | (unfold in32; omega) | (unfold in64; omega) | exact True.intro | exact Or.inl True.intro | exact Or.inr True.intro | rfl | exact Nat.le_of_ble_eq_true rfl) ?_
    try first | done | assumption | (unfold in32; omega) | (unfold in64; omega)
    refine k_Mo_star_16 _ _ _ _ _ _ _ _ ?_
    simp (disch := omega) only [↓w_nil, ↓w_cons, ↓w_ild2, ↓w_i2l, ↓w_lc, ↓w_cs3, true_and, and_true, true_implies, false_implies, not_true_eq_false, not_false_eq_true, Int.reduceEq, Int.reduceLT, Int.reduceLE, Int.reduceNeg, w_c80, w_c8I, w_c8L, w_c8R, w_up1, w_up2, w_up3]
    repeat refine And.intro (by first | assumption | exact IsW.kt (by assumption) | omega | (unfold in32; omega) | (unfold in64; omega) | exact True.intro | exact Or.inl True.intro | exact Or.inr True.intro | rfl | exact Nat.le_of_ble_eq_true rfl) ?_
    try first | done | assumption | (unfold in32; omega) | (unfold in64; omega)
    refine ⟨_, cw_bool (p_Mo_in (by first | assumption | exact i64 (by assumption) | (unfold in32; omega) | (unfold in64; omega) | omega | (simp only [in32, in64] at *; omega)) (by first | assumption | exact i64 (by assumption) | (unfold in32; omega) | (unfold in64; omega) | omega | (simp only [in32, in64] at *; omega)) (by first | assumption | exact i64 (by assumption) | (unfold in32; omega) | (unfold in64; omega) | omega | (simp only [in32, in64] at *; omega))), ?_⟩
    rintro q M6 ⟨⟨rfl, hb2⟩ | ⟨rfl, hb2⟩, rfl⟩
    · have i1 : in32 (y_w (f 4) - 1) := by unfold in32; omega
      refine k_Mo_star_25 _ _ _ _ _ _ _ _ ?_
      simp (disch := omega) only [↓w_nil, ↓w_ifeq, true_and, and_true, true_implies, false_implies, not_true_eq_false, not_false_eq_true, Int.reduceEq, Int.reduceLT, Int.reduceLE, Int.reduceNeg, w_up1, w_up2, w_up3, w_tl1]
      repeat refine And.intro (by first | assumption | exact IsW.kt (by assumption) | omega | (unfold in32; omega) | (unfold in64; omega) | exact True.intro | exact Or.inl True.intro | exact Or.inr True.intro | rfl | exact Nat.le_of_ble_eq_true rfl) ?_
      try first | done | assumption | (unfold in32; omega) | (unfold in64; omega)
      refine k_Mo_star_28 _ _ _ _ _ _ _ _ ?_
      simp (disch := omega) only [↓w_nil, ↓w_cons, ↓w_ild3, ↓w_i2l, ↓w_lc, ↓w_ald0, ↓w_gf0_27, ↓w_ic, ↓w_isub, ↓w_cs3, true_and, and_true, true_implies, false_implies, not_true_eq_false, not_false_eq_true, Int.reduceEq, Int.reduceLT, Int.reduceLE, Int.reduceNeg, w_c80, w_c8I, w_c8L, w_c8R, w_up1, w_up2, w_up3, s1.2.1, c_k319, c_k320, c_k321, c_k322, c_k323, c_k324, c_k325, c_k326, c_k327, c_k328, c_k329, c_k330, c_k331, c_k332, c_k333, c_k334, c_k335, c_k336, c_k337, c_k338, c_k339, c_k340, c_k341, c_k342, c_k343, c_k344, c_k345, c_k346, c_k347, hS1.r319_0, hS1.r319_1, hS1.r319_2, hS1.r319_3, hS1.r319_4, hS1.r319_5, hS1.r319_6, hS1.r319_8, hS1.r319_9, hS1.r319_10, hS1.r319_11, hS1.r319_12, hS1.r319_13, hS1.r319_14, hS1.r319_15, hS1.r319_16, hS1.r319_17, hS1.r319_20, hS1.r319_21, hS1.r319_22, hS1.r319_23, hS1.r319_24, hS1.r319_25, hS1.r319_26, hS1.r319_29, hS1.r319_30, hS1.r319_31, hS1.r319_32, w_sf1, w_sf3]
      repeat refine And.intro (by first | assumption | exact IsW.kt (by assumption) | omega | (unfold in32; omega) | (unfold in64; omega) | exact True.intro | exact Or.inl True.intro | exact Or.inr True.intro | rfl | exact Nat.le_of_ble_eq_true rfl) ?_
      try first | done | assumption | (unfold in32; omega) | (unfold in64; omega)
      refine ⟨_, cw_bool (p_Mo_in (by first | assumption | exact i64 (by assumption) | (unfold in32; omega) | (unfold in64; omega) | omega | (simp only [in32, in64] at *; omega)) (by first | assumption | exact i64 (by assumption) | (unfold in32; omega) | (unfold in64; omega) | omega | (simp only [in32, in64] at *; omega)) (by first | assumption | exact i64 (by assumption) | (unfold in32; omega) | (unfold in64; omega) | omega | (simp only [in32, in64] at *; omega))), ?_⟩
      rintro q M7 ⟨⟨rfl, hb3⟩ | ⟨rfl, hb3⟩, rfl⟩
      · refine k_Mo_star_41 _ _ _ _ _ _ _ _ ?_
        simp (disch := omega) only [↓w_nil, ↓w_ifne, true_and, and_true, true_implies, false_implies, not_true_eq_false, not_false_eq_true, Int.reduceEq, Int.reduceLT, Int.reduceLE, Int.reduceNeg, w_up1, w_up2, w_up3, w_tl1]
        repeat refine And.intro (by first | assumption | exact IsW.kt (by assumption) | omega | (unfold in32; omega) | (unfold in64; omega) | exact True.intro | exact Or.inl True.intro | exact Or.inr True.intro | rfl | exact Nat.le_of_ble_eq_true rfl) ?_
        try first | done | assumption | (unfold in32; omega) | (unfold in64; omega)
        refine k_Mo_star_48 _ _ _ _ _ _ _ _ ?_
        simp (disch := omega) only [↓w_nil, ↓w_cons, ↓w_ald0, ↓w_gf2_29, ↓w_ild1, ↓w_ild2, ↓w_ic, ↓w_cv5, true_and, and_true, true_implies, false_implies, not_true_eq_false, not_false_eq_true, Int.reduceEq, Int.reduceLT, Int.reduceLE, Int.reduceNeg, w_c80, w_c8I, w_c8L, w_c8R, w_up1, w_up2, w_up3, c_k319, c_k320, c_k321, c_k322, c_k323, c_k324, c_k325, c_k326, c_k327, c_k328, c_k329, c_k330, c_k331, c_k332, c_k333, c_k334, c_k335, c_k336, c_k337, c_k338, c_k339, c_k340, c_k341, c_k342, c_k343, c_k344, c_k345, c_k346, c_k347, hS1.r319_0, hS1.r319_1, hS1.r319_2, hS1.r319_3, hS1.r319_4, hS1.r319_5, hS1.r319_6, hS1.r319_8, hS1.r319_9, hS1.r319_10, hS1.r319_11, hS1.r319_12, hS1.r319_13, hS1.r319_14, hS1.r319_15, hS1.r319_16, hS1.r319_17, hS1.r319_20, hS1.r319_21, hS1.r319_22, hS1.r319_23, hS1.r319_24, hS1.r319_25, hS1.r319_26, hS1.r319_29, hS1.r319_30, hS1.r319_31, hS1.r319_32, w_sf1, w_sf3]
        repeat refine And.intro (by first | assumption | exact IsW.kt (by assumption) | omega | (unfold in32; omega) | (unfold in64; omega) | exact True.intro | exact Or.inl True.intro | exact Or.inr True.intro | rfl | exact Nat.le_of_ble_eq_true rfl) ?_
        try first | done | assumption | (unfold in32; omega) | (unfold in64; omega)
        refine ⟨_, p_Mo_stars hS1 w4 s1 hf1 rfl (Or.inl rfl) hb hb2 (by omega) (by omega) hW.sd, ?_⟩
        rintro q M8 ⟨rfl, F, rfl, hF⟩
        have v : F i = y_tt (fun j => y_sg (f (336 + j)) ph) (f 4) k 0 i (f 4) := by
          rw [hF i hb3.1 (by omega)]; unfold y_st; rw [if_neg (by omega)]; omega
        have vb := tt_b (f := f) (ph := ph) (k := k) (on := 0) (i := i) (n := f 4) w4 hb2.1 (by omega) ⟨hb3.1, by omega⟩ (by omega)
        have i2 : in32 (F i) := by rw [v]; unfold in32; omega
        refine k_Mo_star_60 _ _ _ _ _ _ _ _ ?_
        simp (disch := omega) only [↓w_nil, ↓w_cons, ↓w_ald0, ↓w_gf2_29, ↓w_ild3, ↓w_iald, ↓w_iret, true_and, and_true, true_implies, false_implies, not_true_eq_false, not_false_eq_true, Int.reduceEq, Int.reduceLT, Int.reduceLE, Int.reduceNeg, w_up1, w_up2, w_up3, w_tl0, c_k319, c_k320, c_k321, c_k322, c_k323, c_k324, c_k325, c_k326, c_k327, c_k328, c_k329, c_k330, c_k331, c_k332, c_k333, c_k334, c_k335, c_k336, c_k337, c_k338, c_k339, c_k340, c_k341, c_k342, c_k343, c_k344, c_k345, c_k346, c_k347, hS1.r319_0, hS1.r319_1, hS1.r319_2, hS1.r319_3, hS1.r319_4, hS1.r319_5, hS1.r319_6, hS1.r319_8, hS1.r319_9, hS1.r319_10, hS1.r319_11, hS1.r319_12, hS1.r319_13, hS1.r319_14, hS1.r319_15, hS1.r319_16, hS1.r319_17, hS1.r319_20, hS1.r319_21, hS1.r319_22, hS1.r319_23, hS1.r319_24, hS1.r319_25, hS1.r319_26, hS1.r319_29, hS1.r319_30, hS1.r319_31, hS1.r319_32, w_sf1, w_sf3]
        repeat refine And.intro (by first | assumption | exact IsW.kt (by assumption) | omega | (unfold in32; omega) | (unfold in64; omega) | exact True.intro | exact Or.inl True.intro | exact Or.inr True.intro | rfl | exact Nat.le_of_ble_eq_true rfl) ?_
        try first | done | assumption | (unfold in32; omega) | (unfold in64; omega)
        try unfold cw_hide
        exact ⟨⟨fpw_sf F1 (by omega), mdi_at w4 (s1.sf (Or.inl rfl))⟩, Or.inr ⟨⟨hb, hb2, hb3⟩, by rw [v]⟩⟩
      · refine k_Mo_star_41 _ _ _ _ _ _ _ _ ?_
        simp (disch := omega) only [↓w_nil, ↓w_ifne, true_and, and_true, true_implies, false_implies, not_true_eq_false, not_false_eq_true, Int.reduceEq, Int.reduceLT, Int.reduceLE, Int.reduceNeg, w_up1, w_up2, w_up3, w_tl1]
        repeat refine And.intro (by first | assumption | exact IsW.kt (by assumption) | omega | (unfold in32; omega) | (unfold in64; omega) | exact True.intro | exact Or.inl True.intro | exact Or.inr True.intro | rfl | exact Nat.le_of_ble_eq_true rfl) ?_
        try first | done | assumption | (unfold in32; omega) | (unfold in64; omega)
        exact bad (fun z => hb3 z.2.2)
    · refine k_Mo_star_25 _ _ _ _ _ _ _ _ ?_
      simp (disch := omega) only [↓w_nil, ↓w_ifeq, true_and, and_true, true_implies, false_implies, not_true_eq_false, not_false_eq_true, Int.reduceEq, Int.reduceLT, Int.reduceLE, Int.reduceNeg, w_up1, w_up2, w_up3, w_tl1]
      repeat refine And.intro (by first | assumption | exact IsW.kt (by assumption) | omega | (unfold in32; omega) | (unfold in64; omega) | exact True.intro | exact Or.inl True.intro | exact Or.inr True.intro | rfl | exact Nat.le_of_ble_eq_true rfl) ?_
      try first | done | assumption | (unfold in32; omega) | (unfold in64; omega)
      exact bad (fun z => hb2 z.2.1)
  · refine k_Mo_star_13 _ _ _ _ _ _ _ _ ?_
    simp (disch := omega) only [↓w_nil, ↓w_ifeq, true_and, and_true, true_implies, false_implies, not_true_eq_false, not_false_eq_true, Int.reduceEq, Int.reduceLT, Int.reduceLE, Int.reduceNeg, w_up1, w_up2, w_up3, w_tl1]
    repeat refine And.intro (by first | assumption | exact IsW.kt (by assumption) | omega | (unfold in32; omega) | (unfold in64; omega) | exact True.intro | exact Or.inl True.intro | exact Or.inr True.intro | rfl | exact Nat.le_of_ble_eq_true rfl) ?_
    try first | done | assumption | (unfold in32; omega) | (unfold in64; omega)
    exact bad (fun z => hb z.1)
theorem td_3 {k S : Int} (hk : 0 ≤ k) (hS : 0 ≤ S) (h : S.tmod 3 = 0) : (k * S).tdiv 3 = k * S.tdiv 3 := by
  rw [Int.tmod_eq_emod_of_nonneg hS] at h
  rw [Int.tdiv_eq_ediv_of_nonneg (Int.mul_nonneg hk hS), Int.tdiv_eq_ediv_of_nonneg hS]
  have e : S = 3 * (S / 3) := by omega
  generalize S / 3 = t at e
  subst e
  rw [show k * (3 * t) = 3 * (k * t) by rw [← Int.mul_assoc, Int.mul_comm k 3, Int.mul_assoc], Int.mul_ediv_cancel_left _ (by omega)]
theorem d_even {g : cw_G} {M : cw_M} {f fl : Int → Int} {n k : Int} (hS : Sh M) (hf : M 324 = f) (hW : WF n f fl) (hd : Mdi M) (hk : in32 k) :
    mC g y_Mo_even [.inr (.inr 319), .inl k] M (fun q M' => (Fpw M M' ∧ Mdi M') ∧ ((¬ (0 ≤ k ∧ k ≤ 24) ∧ q = some (.inl (-2))) ∨ ((0 ≤ k ∧ k ≤ 24) ∧ ((¬ (f 4).tmod 3 = 0 ∧ q = some (.inl 0)) ∨ ((f 4).tmod 3 = 0 ∧ ((q = some (.inl 1) ∧ Ev f k 0 1 ∧ Ev f k 1 2) ∨ (q = some (.inl 0) ∧ ¬ (Ev f k 0 1 ∧ Ev f k 1 2)))))))) := by
  have w4 := hW.1.2.2.2.2
  have wb := y_w_b w4
  have t0 : 0 ≤ (f 4).tmod 3 ∧ (f 4).tmod 3 < 3 := ⟨Int.tmod_nonneg 3 (by omega), Int.tmod_lt_of_pos _ (by omega)⟩
  have i1 : in32 ((f 4).tmod 3) := by unfold in32; omega
  have i4 : in32 (f 4) := by unfold in32; omega
  have iw : in32 (y_w (f 4)) := by unfold in32; omega
  refine cw_C_of (L := [.inr (.inr 319), .inl k, cU, cU, cU]) ok_Mo_even (Nat.le_refl _) (Nat.le_of_ble_eq_true rfl) rfl ?_
  refine cw_J_hide ?_
  refine k_Mo_even_0 _ _ _ _ _ _ _ _ ?_
  simp (disch := omega) only [↓w_nil, ↓w_cons, ↓w_ild1, ↓w_i2l, ↓w_lc, ↓w_cs3, true_and, and_true, true_implies, false_implies, not_true_eq_false, not_false_eq_true, Int.reduceEq, Int.reduceLT, Int.reduceLE, Int.reduceNeg, w_c80, w_c8I, w_c8L, w_c8R, w_up1, w_up2, w_up3]
  repeat refine And.intro (by first | assumption | exact IsW.kt (by assumption) | omega | (unfold in32; omega) | (unfold in64; omega) | exact True.intro | exact Or.inl True.intro | exact Or.inr True.intro | rfl | exact Nat.le_of_ble_eq_true rfl) ?_
  try first | done | assumption | (unfold in32; omega) | (unfold in64; omega)
  refine ⟨_, cw_bool (p_Mo_in (by first | assumption | exact i64 (by assumption) | (unfold in32; omega) | (unfold in64; omega) | omega | (simp only [in32, in64] at *; omega)) (by first | assumption | exact i64 (by assumption) | (unfold in32; omega) | (unfold in64; omega) | omega | (simp only [in32, in64] at *; omega)) (by first | assumption | exact i64 (by assumption) | (unfold in32; omega) | (unfold in64; omega) | omega | (simp only [in32, in64] at *; omega))), ?_⟩
  rintro q M9 ⟨⟨rfl, hb⟩ | ⟨rfl, hb⟩, rfl⟩
  · refine k_Mo_even_9 _ _ _ _ _ _ _ _ ?_
    simp (disch := omega) only [↓w_nil, ↓w_ifne, true_and, and_true, true_implies, false_implies, not_true_eq_false, not_false_eq_true, Int.reduceEq, Int.reduceLT, Int.reduceLE, Int.reduceNeg, w_up1, w_up2, w_up3, w_tl1]
    repeat refine And.intro (by first | assumption | exact IsW.kt (by assumption) | omega | (unfold in32; omega) | (unfold in64; omega) | exact True.intro | exact Or.inl True.intro | exact Or.inr True.intro | rfl | exact Nat.le_of_ble_eq_true rfl) ?_
    try first | done | assumption | (unfold in32; omega) | (unfold in64; omega)
    refine k_Mo_even_15 _ _ _ _ _ _ _ _ ?_
    simp (disch := omega) only [↓w_nil, ↓w_cons, ↓w_ald0, ↓w_gf2_4, ↓w_ic, ↓w_iald, ↓w_irem, ↓w_ifeq, true_and, and_true, true_implies, false_implies, not_true_eq_false, not_false_eq_true, Int.reduceEq, Int.reduceLT, Int.reduceLE, Int.reduceNeg, w_up1, w_up2, w_up3, hf, c_k319, c_k320, c_k321, c_k322, c_k323, c_k324, c_k325, c_k326, c_k327, c_k328, c_k329, c_k330, c_k331, c_k332, c_k333, c_k334, c_k335, c_k336, c_k337, c_k338, c_k339, c_k340, c_k341, c_k342, c_k343, c_k344, c_k345, c_k346, c_k347, hS.r319_0, hS.r319_1, hS.r319_2, hS.r319_3, hS.r319_4, hS.r319_5, hS.r319_6, hS.r319_8, hS.r319_9, hS.r319_10, hS.r319_11, hS.r319_12, hS.r319_13, hS.r319_14, hS.r319_15, hS.r319_16, hS.r319_17, hS.r319_20, hS.r319_21, hS.r319_22, hS.r319_23, hS.r319_24, hS.r319_25, hS.r319_26, hS.r319_29, hS.r319_30, hS.r319_31, hS.r319_32, w_sf1, w_sf3]
    repeat refine And.intro (by first | assumption | exact IsW.kt (by assumption) | omega | (unfold in32; omega) | (unfold in64; omega) | exact True.intro | exact Or.inl True.intro | exact Or.inr True.intro | rfl | exact Nat.le_of_ble_eq_true rfl) ?_
    try first | done | assumption | (unfold in32; omega) | (unfold in64; omega)
    refine ⟨fun hz => ?_, fun hz => ?_⟩
    · have td := td_3 hb.1 (show 0 ≤ f 4 by omega) hz
      have s0 : 0 ≤ (f 4).tdiv 3 ∧ (f 4).tdiv 3 ≤ 8 := by rw [Int.tdiv_eq_ediv_of_nonneg (by omega)]; omega
      have m0 : 0 ≤ k * (f 4).tdiv 3 := Int.mul_nonneg hb.1 s0.1
      have m1 : k * (f 4).tdiv 3 ≤ 24 * (f 4).tdiv 3 := Int.mul_le_mul_of_nonneg_right hb.2 s0.1
      have n0 : 0 ≤ k * f 4 := Int.mul_nonneg hb.1 (by omega)
      have n1 : k * f 4 ≤ 24 * f 4 := Int.mul_le_mul_of_nonneg_right hb.2 (by omega)
      have ik4 : in32 (k * f 4) := by unfold in32; omega
      refine k_Mo_even_28 _ _ _ _ _ _ _ _ ?_
      simp (disch := omega) only [↓w_nil, ↓w_cons, ↓w_ald0, ↓w_cv0, true_and, and_true, true_implies, false_implies, not_true_eq_false, not_false_eq_true, Int.reduceEq, Int.reduceLT, Int.reduceLE, Int.reduceNeg, w_c80, w_c8I, w_c8L, w_c8R, w_up1, w_up2, w_up3]
      repeat refine And.intro (by first | assumption | exact IsW.kt (by assumption) | omega | (unfold in32; omega) | (unfold in64; omega) | exact True.intro | exact Or.inl True.intro | exact Or.inr True.intro | rfl | exact Nat.le_of_ble_eq_true rfl) ?_
      try first | done | assumption | (unfold in32; omega) | (unfold in64; omega)
      refine ⟨_, p_Mo_findPowers hS hf hW hd, ?_⟩
      rintro q M1 ⟨rfl, F1, s1⟩
      have loop : ∀ (m : Nat) (ph b : Int) (x4 : cw_V) (M2 : cw_M), ph + m = 2 → 0 ≤ ph → (b = 0 ∨ b = 1) → (b = 1 ↔ ∀ p : Int, 0 ≤ p → p < ph → Ev f k p (p + 1)) → Fpw M9 M2 → Md_at (f 4) M2 →
          mJ g y_Mo_even 36 [.inr (.inr 319), .inl k, .inl b, .inl ph, x4] [] M2 (cw_hide (fun q M' => (Fpw M9 M' ∧ Mdi M') ∧ ((¬ (0 ≤ k ∧ k ≤ 24) ∧ q = some (.inl (-2))) ∨ ((0 ≤ k ∧ k ≤ 24) ∧ ((¬ (f 4).tmod 3 = 0 ∧ q = some (.inl 0)) ∨ ((f 4).tmod 3 = 0 ∧ ((q = some (.inl 1) ∧ Ev f k 0 1 ∧ Ev f k 1 2) ∨ (q = some (.inl 0) ∧ ¬ (Ev f k 0 1 ∧ Ev f k 1 2))))))))) := by
        intro m
        induction m with
        | zero =>
          intro ph b x4 M2 hm p0 b01 hbn F2 s2
          have e2 : ph = 2 := by omega
          subst e2
          have ib : in32 b := by unfold in32; omega
          have all : b = 1 ↔ Ev f k 0 1 ∧ Ev f k 1 2 := by
            rw [hbn]
            exact ⟨fun h => ⟨h 0 (by omega) (by omega), h 1 (by omega) (by omega)⟩, fun h p a c => by
              rcases (show p = 0 ∨ p = 1 by omega) with rfl | rfl
              · exact h.1
              · exact h.2⟩
          refine k_Mo_even_36 _ _ _ _ _ _ _ _ ?_
          simp (disch := omega) only [↓w_nil, ↓w_cons, ↓w_ild3, ↓w_ic, ↓w_icge, true_and, and_true, true_implies, false_implies, not_true_eq_false, not_false_eq_true, Int.reduceEq, Int.reduceLT, Int.reduceLE, Int.reduceNeg, w_up1, w_up2, w_up3]
          repeat refine And.intro (by first | assumption | exact IsW.kt (by assumption) | omega | (unfold in32; omega) | (unfold in64; omega) | exact True.intro | exact Or.inl True.intro | exact Or.inr True.intro | rfl | exact Nat.le_of_ble_eq_true rfl) ?_
          try first | done | assumption | (unfold in32; omega) | (unfold in64; omega)
          refine k_Mo_even_127 _ _ _ _ _ _ _ _ ?_
          simp (disch := omega) only [↓w_nil, ↓w_cons, ↓w_ild2, ↓w_ifeq, true_and, and_true, true_implies, false_implies, not_true_eq_false, not_false_eq_true, Int.reduceEq, Int.reduceLT, Int.reduceLE, Int.reduceNeg, w_up1, w_up2, w_up3]
          repeat refine And.intro (by first | assumption | exact IsW.kt (by assumption) | omega | (unfold in32; omega) | (unfold in64; omega) | exact True.intro | exact Or.inl True.intro | exact Or.inr True.intro | rfl | exact Nat.le_of_ble_eq_true rfl) ?_
          try first | done | assumption | (unfold in32; omega) | (unfold in64; omega)
          refine ⟨fun hc => ?_, fun hc => ?_⟩
          · refine k_Mo_even_135 _ _ _ _ _ _ _ _ ?_
            simp (disch := omega) only [↓w_nil, ↓w_cons, ↓w_ic, ↓w_fall, true_and, and_true, true_implies, false_implies, not_true_eq_false, not_false_eq_true, Int.reduceEq, Int.reduceLT, Int.reduceLE, Int.reduceNeg, w_up1, w_up2, w_up3]
            refine k_Mo_even_136 _ _ _ _ _ _ _ _ ?_
            simp (disch := omega) only [↓w_nil, ↓w_iret, true_and, and_true, true_implies, false_implies, not_true_eq_false, not_false_eq_true, Int.reduceEq, Int.reduceLT, Int.reduceLE, Int.reduceNeg, w_up1, w_up2, w_up3]
            try unfold cw_hide
            exact ⟨⟨F2, mdi_at w4 s2⟩, Or.inr ⟨hb, Or.inr ⟨hz, Or.inr ⟨rfl, fun z => by have := all.mpr z; omega⟩⟩⟩⟩
          · refine k_Mo_even_131 _ _ _ _ _ _ _ _ ?_
            simp (disch := omega) only [↓w_nil, ↓w_cons, ↓w_ic, ↓w_goto, true_and, and_true, true_implies, false_implies, not_true_eq_false, not_false_eq_true, Int.reduceEq, Int.reduceLT, Int.reduceLE, Int.reduceNeg, w_up1, w_up2, w_up3]
            refine k_Mo_even_136 _ _ _ _ _ _ _ _ ?_
            simp (disch := omega) only [↓w_nil, ↓w_iret, true_and, and_true, true_implies, false_implies, not_true_eq_false, not_false_eq_true, Int.reduceEq, Int.reduceLT, Int.reduceLE, Int.reduceNeg, w_up1, w_up2, w_up3]
            try unfold cw_hide
            exact ⟨⟨F2, mdi_at w4 s2⟩, Or.inr ⟨hb, Or.inr ⟨hz, Or.inl ⟨rfl, all.mp (by omega)⟩⟩⟩⟩
        | succ m im =>
          intro ph b x4 M2 hm p0 b01 hbn F2 s2
          have hS2 := F2.1
          have hf2 : M2 324 = f := by funext k; rw [F2.2 324 k (by omega) (by omega), hf]
          have iph : in32 ph := by unfold in32; omega
          refine k_Mo_even_36 _ _ _ _ _ _ _ _ ?_
          simp (disch := omega) only [↓w_nil, ↓w_cons, ↓w_ild3, ↓w_ic, ↓w_icge, true_and, and_true, true_implies, false_implies, not_true_eq_false, not_false_eq_true, Int.reduceEq, Int.reduceLT, Int.reduceLE, Int.reduceNeg, w_up1, w_up2, w_up3]
          repeat refine And.intro (by first | assumption | exact IsW.kt (by assumption) | omega | (unfold in32; omega) | (unfold in64; omega) | exact True.intro | exact Or.inl True.intro | exact Or.inr True.intro | rfl | exact Nat.le_of_ble_eq_true rfl) ?_
          try first | done | assumption | (unfold in32; omega) | (unfold in64; omega)
          intro _
          refine k_Mo_even_41 _ _ _ _ _ _ _ _ ?_
          simp (disch := omega) only [↓w_nil, ↓w_cons, ↓w_ald0, ↓w_gf2_29, ↓w_ild3, ↓w_ild1, ↓w_gf2_4, ↓w_ic, ↓w_iald, ↓w_imul, ↓w_idiv, ↓w_cv5, true_and, and_true, true_implies, false_implies, not_true_eq_false, not_false_eq_true, Int.reduceEq, Int.reduceLT, Int.reduceLE, Int.reduceNeg, w_c80, w_c8I, w_c8L, w_c8R, w_up1, w_up2, w_up3, hf2, c_k319, c_k320, c_k321, c_k322, c_k323, c_k324, c_k325, c_k326, c_k327, c_k328, c_k329, c_k330, c_k331, c_k332, c_k333, c_k334, c_k335, c_k336, c_k337, c_k338, c_k339, c_k340, c_k341, c_k342, c_k343, c_k344, c_k345, c_k346, c_k347, hS2.r319_0, hS2.r319_1, hS2.r319_2, hS2.r319_3, hS2.r319_4, hS2.r319_5, hS2.r319_6, hS2.r319_8, hS2.r319_9, hS2.r319_10, hS2.r319_11, hS2.r319_12, hS2.r319_13, hS2.r319_14, hS2.r319_15, hS2.r319_16, hS2.r319_17, hS2.r319_20, hS2.r319_21, hS2.r319_22, hS2.r319_23, hS2.r319_24, hS2.r319_25, hS2.r319_26, hS2.r319_29, hS2.r319_30, hS2.r319_31, hS2.r319_32, w_sf1, w_sf3]
          repeat refine And.intro (by first | assumption | exact IsW.kt (by assumption) | omega | (unfold in32; omega) | (unfold in64; omega) | exact True.intro | exact Or.inl True.intro | exact Or.inr True.intro | rfl | exact Nat.le_of_ble_eq_true rfl) ?_
          try first | done | assumption | (unfold in32; omega) | (unfold in64; omega)
          refine ⟨_, p_Mo_stars (on := (k * f 4).tdiv 3) hS2 w4 s2 hf2 rfl (Or.inl rfl) (by omega) hb (by rw [td]; omega) (by omega) hW.sd, ?_⟩
          rintro q M3 ⟨rfl, F, rfl, hF⟩
          have hS3 := sh_sr (F := F) hS2 (Or.inl rfl)
          have s3 := s2.sf (F := F) (Or.inl (rfl : (344 : Int) = 344))
          have hf3 : (cw_sf M2 344 F) 324 = f := by rw [sf_ne (by omega)]; exact hf2
          refine k_Mo_even_62 _ _ _ _ _ _ _ _ ?_
          simp (disch := omega) only [↓w_nil, ↓w_cons, ↓w_ald0, ↓w_gf2_30, ↓w_ild3, ↓w_ic, ↓w_iadd, ↓w_ild1, ↓w_cv5, true_and, and_true, true_implies, false_implies, not_true_eq_false, not_false_eq_true, Int.reduceEq, Int.reduceLT, Int.reduceLE, Int.reduceNeg, w_c80, w_c8I, w_c8L, w_c8R, w_up1, w_up2, w_up3, w_tl0, c_k319, c_k320, c_k321, c_k322, c_k323, c_k324, c_k325, c_k326, c_k327, c_k328, c_k329, c_k330, c_k331, c_k332, c_k333, c_k334, c_k335, c_k336, c_k337, c_k338, c_k339, c_k340, c_k341, c_k342, c_k343, c_k344, c_k345, c_k346, c_k347, hS2.r319_0, hS2.r319_1, hS2.r319_2, hS2.r319_3, hS2.r319_4, hS2.r319_5, hS2.r319_6, hS2.r319_8, hS2.r319_9, hS2.r319_10, hS2.r319_11, hS2.r319_12, hS2.r319_13, hS2.r319_14, hS2.r319_15, hS2.r319_16, hS2.r319_17, hS2.r319_20, hS2.r319_21, hS2.r319_22, hS2.r319_23, hS2.r319_24, hS2.r319_25, hS2.r319_26, hS2.r319_29, hS2.r319_30, hS2.r319_31, hS2.r319_32, w_sf1, w_sf3]
          repeat refine And.intro (by first | assumption | exact IsW.kt (by assumption) | omega | (unfold in32; omega) | (unfold in64; omega) | exact True.intro | exact Or.inl True.intro | exact Or.inr True.intro | rfl | exact Nat.le_of_ble_eq_true rfl) ?_
          try first | done | assumption | (unfold in32; omega) | (unfold in64; omega)
          refine ⟨_, p_Mo_stars hS3 w4 s3 hf3 rfl (Or.inr rfl) (show 0 ≤ ph + 1 ∧ ph + 1 ≤ 2 by omega) hb (by omega) (by omega) hW.sd, ?_⟩
          rintro q M4 ⟨rfl, G, rfl, hG⟩
          have hS4 := sh_sr (F := G) hS3 (Or.inr rfl)
          have s4 := s3.sf (F := G) (Or.inr (rfl : (345 : Int) = 345))
          have F4 : Fpw M9 (cw_sf (cw_sf M2 344 F) 345 G) := fpw_sf (fpw_sf F2 (by omega)) (by omega)
          have vF : ∀ i : Int, 0 ≤ i → i < y_w (f 4) → F i = y_tt (fun j => y_sg (f (336 + j)) ph) (f 4) k (k * (f 4).tdiv 3) i (f 4) := fun i a c => by rw [hF i a c, td]; unfold y_st; rw [if_neg (by omega)]; omega
          have vG : ∀ i : Int, 0 ≤ i → i < y_w (f 4) → G i = y_tt (fun j => y_sg (f (336 + j)) (ph + 1)) (f 4) k 0 i (f 4) := fun i a c => by rw [hG i a c]; unfold y_st; rw [if_neg (by omega)]; omega
          have ev : (∀ i : Int, 0 ≤ i → i < y_w (f 4) → F i = G i) ↔ Ev f k ph (ph + 1) := ⟨fun h i a c => by have := h i a c; rw [vF i a c, vG i a c] at this; exact this, fun h i a c => by rw [vF i a c, vG i a c]; exact h i a c⟩
          have inner : ∀ (l : Nat) (i b : Int), i + l = y_w (f 4) → 0 ≤ i → (b = 0 ∨ b = 1) → (b = 1 ↔ (∀ p : Int, 0 ≤ p → p < ph → Ev f k p (p + 1)) ∧ ∀ j : Int, 0 ≤ j → j < i → F j = G j) →
              mJ g y_Mo_even 79 [.inr (.inr 319), .inl k, .inl b, .inl ph, .inl i] [] (cw_sf (cw_sf M2 344 F) 345 G) (cw_hide (fun q M' => (Fpw M9 M' ∧ Mdi M') ∧ ((¬ (0 ≤ k ∧ k ≤ 24) ∧ q = some (.inl (-2))) ∨ ((0 ≤ k ∧ k ≤ 24) ∧ ((¬ (f 4).tmod 3 = 0 ∧ q = some (.inl 0)) ∨ ((f 4).tmod 3 = 0 ∧ ((q = some (.inl 1) ∧ Ev f k 0 1 ∧ Ev f k 1 2) ∨ (q = some (.inl 0) ∧ ¬ (Ev f k 0 1 ∧ Ev f k 1 2))))))))) := by
            intro l
            induction l with
            | zero =>
              intro i b hi i0 b01 hbn
              have ei : i = y_w (f 4) := by omega
              subst ei
              refine k_Mo_even_79 _ _ _ _ _ _ _ _ ?_
              simp (disch := omega) only [↓w_nil, ↓w_cons, ↓w_ild4, ↓w_ald0, ↓w_gf0_27, ↓w_icge, true_and, and_true, true_implies, false_implies, not_true_eq_false, not_false_eq_true, Int.reduceEq, Int.reduceLT, Int.reduceLE, Int.reduceNeg, w_up1, w_up2, w_up3, s4.2.1, s2.2.1, c_k319, c_k320, c_k321, c_k322, c_k323, c_k324, c_k325, c_k326, c_k327, c_k328, c_k329, c_k330, c_k331, c_k332, c_k333, c_k334, c_k335, c_k336, c_k337, c_k338, c_k339, c_k340, c_k341, c_k342, c_k343, c_k344, c_k345, c_k346, c_k347, hS2.r319_0, hS2.r319_1, hS2.r319_2, hS2.r319_3, hS2.r319_4, hS2.r319_5, hS2.r319_6, hS2.r319_8, hS2.r319_9, hS2.r319_10, hS2.r319_11, hS2.r319_12, hS2.r319_13, hS2.r319_14, hS2.r319_15, hS2.r319_16, hS2.r319_17, hS2.r319_20, hS2.r319_21, hS2.r319_22, hS2.r319_23, hS2.r319_24, hS2.r319_25, hS2.r319_26, hS2.r319_29, hS2.r319_30, hS2.r319_31, hS2.r319_32, w_sf1, w_sf3]
              repeat refine And.intro (by first | assumption | exact IsW.kt (by assumption) | omega | (unfold in32; omega) | (unfold in64; omega) | exact True.intro | exact Or.inl True.intro | exact Or.inr True.intro | rfl | exact Nat.le_of_ble_eq_true rfl) ?_
              try first | done | assumption | (unfold in32; omega) | (unfold in64; omega)
              refine ⟨fun _ => ?_, fun z => absurd z (by omega)⟩
              refine k_Mo_even_121 _ _ _ _ _ _ _ _ ?_
              simp (disch := omega) only [↓w_nil, ↓w_cons, ↓w_inc3, ↓w_goto, true_and, and_true, true_implies, false_implies, not_true_eq_false, not_false_eq_true, Int.reduceEq, Int.reduceLT, Int.reduceLE, Int.reduceNeg, w_nlI, w_nlL, w_nlR, w_up1, w_up2, w_up3]
              refine im (ph + 1) b _ _ (by omega) (by omega) b01 ?_ F4 s4
              rw [hbn]
              exact ⟨fun h p a c => by
                by_cases q : p = ph
                · rw [q]; exact ev.mp h.2
                · exact h.1 p a (by omega), fun h => ⟨fun p a c => h p a (by omega), ev.mpr (h ph p0 (by omega))⟩⟩
            | succ l il =>
              intro i b hi i0 b01 hbn
              have ib : in32 b := by unfold in32; omega
              have ii : in32 i := by unfold in32; omega
              have vb1 := tt_b (f := f) (ph := ph) (k := k) (on := k * (f 4).tdiv 3) (i := i) (n := f 4) w4 hb.1 m0 ⟨i0, by omega⟩ (by omega)
              have vb2 := tt_b (f := f) (ph := ph + 1) (k := k) (on := 0) (i := i) (n := f 4) w4 hb.1 (by omega) ⟨i0, by omega⟩ (by omega)
              have iF : in32 (F i) := by rw [vF i i0 (by omega)]; unfold in32; omega
              have iG : in32 (G i) := by rw [vG i i0 (by omega)]; unfold in32; omega
              have next : ∀ b2 : Int, (b2 = 0 ∨ b2 = 1) → (b2 = 1 ↔ b = 1 ∧ F i = G i) → mJ g y_Mo_even 114 [.inr (.inr 319), .inl k, .inl b, .inl ph, .inl i] [.inl b2] (cw_sf (cw_sf M2 344 F) 345 G) (cw_hide (fun q M' => (Fpw M9 M' ∧ Mdi M') ∧ ((¬ (0 ≤ k ∧ k ≤ 24) ∧ q = some (.inl (-2))) ∨ ((0 ≤ k ∧ k ≤ 24) ∧ ((¬ (f 4).tmod 3 = 0 ∧ q = some (.inl 0)) ∨ ((f 4).tmod 3 = 0 ∧ ((q = some (.inl 1) ∧ Ev f k 0 1 ∧ Ev f k 1 2) ∨ (q = some (.inl 0) ∧ ¬ (Ev f k 0 1 ∧ Ev f k 1 2))))))))) := by
                intro b2 c01 hc
                refine k_Mo_even_114 _ _ _ _ _ _ _ _ ?_
                simp (disch := omega) only [↓w_nil, ↓w_cons, ↓w_ist2, ↓w_inc4, ↓w_goto, true_and, and_true, true_implies, false_implies, not_true_eq_false, not_false_eq_true, Int.reduceEq, Int.reduceLT, Int.reduceLE, Int.reduceNeg, w_nlI, w_nlL, w_nlR, w_up1, w_up2, w_up3]
                refine il (i + 1) b2 (by omega) (by omega) c01 ?_
                rw [hc, hbn]
                exact ⟨fun h => ⟨h.1.1, fun j a c => by
                  by_cases q : j = i
                  · rw [q]; exact h.2
                  · exact h.1.2 j a (by omega)⟩, fun h => ⟨⟨h.1, fun j a c => h.2 j a (by omega)⟩, h.2 i i0 (by omega)⟩⟩
              refine k_Mo_even_79 _ _ _ _ _ _ _ _ ?_
              simp (disch := omega) only [↓w_nil, ↓w_cons, ↓w_ild4, ↓w_ald0, ↓w_gf0_27, ↓w_icge, true_and, and_true, true_implies, false_implies, not_true_eq_false, not_false_eq_true, Int.reduceEq, Int.reduceLT, Int.reduceLE, Int.reduceNeg, w_up1, w_up2, w_up3, s4.2.1, s2.2.1, c_k319, c_k320, c_k321, c_k322, c_k323, c_k324, c_k325, c_k326, c_k327, c_k328, c_k329, c_k330, c_k331, c_k332, c_k333, c_k334, c_k335, c_k336, c_k337, c_k338, c_k339, c_k340, c_k341, c_k342, c_k343, c_k344, c_k345, c_k346, c_k347, hS2.r319_0, hS2.r319_1, hS2.r319_2, hS2.r319_3, hS2.r319_4, hS2.r319_5, hS2.r319_6, hS2.r319_8, hS2.r319_9, hS2.r319_10, hS2.r319_11, hS2.r319_12, hS2.r319_13, hS2.r319_14, hS2.r319_15, hS2.r319_16, hS2.r319_17, hS2.r319_20, hS2.r319_21, hS2.r319_22, hS2.r319_23, hS2.r319_24, hS2.r319_25, hS2.r319_26, hS2.r319_29, hS2.r319_30, hS2.r319_31, hS2.r319_32, w_sf1, w_sf3]
              repeat refine And.intro (by first | assumption | exact IsW.kt (by assumption) | omega | (unfold in32; omega) | (unfold in64; omega) | exact True.intro | exact Or.inl True.intro | exact Or.inr True.intro | rfl | exact Nat.le_of_ble_eq_true rfl) ?_
              try first | done | assumption | (unfold in32; omega) | (unfold in64; omega)
              intro _
              refine k_Mo_even_88 _ _ _ _ _ _ _ _ ?_
              simp (disch := omega) only [↓w_nil, ↓w_cons, ↓w_ild2, ↓w_ifeq, true_and, and_true, true_implies, false_implies, not_true_eq_false, not_false_eq_true, Int.reduceEq, Int.reduceLT, Int.reduceLE, Int.reduceNeg, w_up1, w_up2, w_up3]
              repeat refine And.intro (by first | assumption | exact IsW.kt (by assumption) | omega | (unfold in32; omega) | (unfold in64; omega) | exact True.intro | exact Or.inl True.intro | exact Or.inr True.intro | rfl | exact Nat.le_of_ble_eq_true rfl) ?_
              try first | done | assumption | (unfold in32; omega) | (unfold in64; omega)
              refine ⟨fun hc => ?_, fun hc => ?_⟩
              · refine k_Mo_even_113 _ _ _ _ _ _ _ _ ?_
                simp (disch := omega) only [↓w_nil, ↓w_cons, ↓w_ic, ↓w_fall, true_and, and_true, true_implies, false_implies, not_true_eq_false, not_false_eq_true, Int.reduceEq, Int.reduceLT, Int.reduceLE, Int.reduceNeg, w_up1, w_up2, w_up3]
                exact next 0 (Or.inl rfl) ⟨fun z => absurd z (by omega), fun z => by omega⟩
              · refine k_Mo_even_92 _ _ _ _ _ _ _ _ ?_
                simp (disch := omega) only [↓w_nil, ↓w_cons, ↓w_ald0, ↓w_gf2_29, ↓w_ild4, ↓w_iald, ↓w_gf2_30, ↓w_icne, true_and, and_true, true_implies, false_implies, not_true_eq_false, not_false_eq_true, Int.reduceEq, Int.reduceLT, Int.reduceLE, Int.reduceNeg, w_up1, w_up2, w_up3, c_k319, c_k320, c_k321, c_k322, c_k323, c_k324, c_k325, c_k326, c_k327, c_k328, c_k329, c_k330, c_k331, c_k332, c_k333, c_k334, c_k335, c_k336, c_k337, c_k338, c_k339, c_k340, c_k341, c_k342, c_k343, c_k344, c_k345, c_k346, c_k347, hS2.r319_0, hS2.r319_1, hS2.r319_2, hS2.r319_3, hS2.r319_4, hS2.r319_5, hS2.r319_6, hS2.r319_8, hS2.r319_9, hS2.r319_10, hS2.r319_11, hS2.r319_12, hS2.r319_13, hS2.r319_14, hS2.r319_15, hS2.r319_16, hS2.r319_17, hS2.r319_20, hS2.r319_21, hS2.r319_22, hS2.r319_23, hS2.r319_24, hS2.r319_25, hS2.r319_26, hS2.r319_29, hS2.r319_30, hS2.r319_31, hS2.r319_32, w_sf1, w_sf3]
                repeat refine And.intro (by first | assumption | exact IsW.kt (by assumption) | omega | (unfold in32; omega) | (unfold in64; omega) | exact True.intro | exact Or.inl True.intro | exact Or.inr True.intro | rfl | exact Nat.le_of_ble_eq_true rfl) ?_
                try first | done | assumption | (unfold in32; omega) | (unfold in64; omega)
                refine ⟨fun hd => ?_, fun hd => ?_⟩
                · refine k_Mo_even_113 _ _ _ _ _ _ _ _ ?_
                  simp (disch := omega) only [↓w_nil, ↓w_cons, ↓w_ic, ↓w_fall, true_and, and_true, true_implies, false_implies, not_true_eq_false, not_false_eq_true, Int.reduceEq, Int.reduceLT, Int.reduceLE, Int.reduceNeg, w_up1, w_up2, w_up3]
                  exact next 0 (Or.inl rfl) ⟨fun z => absurd z (by omega), fun z => absurd z.2 hd⟩
                · refine k_Mo_even_109 _ _ _ _ _ _ _ _ ?_
                  simp (disch := omega) only [↓w_nil, ↓w_cons, ↓w_ic, ↓w_goto, true_and, and_true, true_implies, false_implies, not_true_eq_false, not_false_eq_true, Int.reduceEq, Int.reduceLT, Int.reduceLE, Int.reduceNeg, w_up1, w_up2, w_up3]
                  exact next 1 (Or.inr rfl) ⟨fun _ => ⟨by omega, hd⟩, fun _ => rfl⟩
          refine k_Mo_even_76 _ _ _ _ _ _ _ _ ?_
          simp (disch := omega) only [↓w_nil, ↓w_cons, ↓w_ic, ↓w_ist4, ↓w_fall, true_and, and_true, true_implies, false_implies, not_true_eq_false, not_false_eq_true, Int.reduceEq, Int.reduceLT, Int.reduceLE, Int.reduceNeg, w_nlI, w_nlL, w_nlR, w_up1, w_up2, w_up3, w_tl0]
          exact inner (y_w (f 4)).toNat 0 b (by omega) (by omega) b01 (by rw [hbn]; exact ⟨fun h => ⟨h, fun j a c => by omega⟩, fun h => h.1⟩)
      refine k_Mo_even_32 _ _ _ _ _ _ _ _ ?_
      simp (disch := omega) only [↓w_nil, ↓w_cons, ↓w_ic, ↓w_ist2, ↓w_ist3, ↓w_fall, true_and, and_true, true_implies, false_implies, not_true_eq_false, not_false_eq_true, Int.reduceEq, Int.reduceLT, Int.reduceLE, Int.reduceNeg, w_nlI, w_nlL, w_nlR, w_up1, w_up2, w_up3, w_tl0]
      exact loop 2 0 1 cU M1 (by omega) (by omega) (Or.inr rfl) ⟨fun _ p a c => by omega, fun _ => rfl⟩ F1 s1
    · refine k_Mo_even_26 _ _ _ _ _ _ _ _ ?_
      simp (disch := omega) only [↓w_nil, ↓w_cons, ↓w_ic, ↓w_iret, true_and, and_true, true_implies, false_implies, not_true_eq_false, not_false_eq_true, Int.reduceEq, Int.reduceLT, Int.reduceLE, Int.reduceNeg, w_up1, w_up2, w_up3]
      try unfold cw_hide
      exact ⟨⟨Fpw.rf hS, hd⟩, Or.inr ⟨hb, Or.inl ⟨hz, rfl⟩⟩⟩
  · refine k_Mo_even_9 _ _ _ _ _ _ _ _ ?_
    simp (disch := omega) only [↓w_nil, ↓w_ifne, true_and, and_true, true_implies, false_implies, not_true_eq_false, not_false_eq_true, Int.reduceEq, Int.reduceLT, Int.reduceLE, Int.reduceNeg, w_up1, w_up2, w_up3, w_tl1]
    repeat refine And.intro (by first | assumption | exact IsW.kt (by assumption) | omega | (unfold in32; omega) | (unfold in64; omega) | exact True.intro | exact Or.inl True.intro | exact Or.inr True.intro | rfl | exact Nat.le_of_ble_eq_true rfl) ?_
    try first | done | assumption | (unfold in32; omega) | (unfold in64; omega)
    refine k_Mo_even_12 _ _ _ _ _ _ _ _ ?_
    simp (disch := omega) only [↓w_nil, ↓w_cons, ↓w_ic, ↓w_iret, true_and, and_true, true_implies, false_implies, not_true_eq_false, not_false_eq_true, Int.reduceEq, Int.reduceLT, Int.reduceLE, Int.reduceNeg, w_up1, w_up2, w_up3]
    try unfold cw_hide
    exact ⟨⟨Fpw.rf hS, hd⟩, Or.inl ⟨hb, rfl⟩⟩
theorem d_span {g : cw_G} {M : cw_M} {f fl : Int → Int} {n k i : Int} (hS : Sh M) (hf : M 324 = f) (hW : WF n f fl) (hd : Mdi M) (hk : in32 k) (hi : in32 i) :
    mC g y_Mo_span [.inr (.inr 319), .inl k, .inl i] M (fun q M' => (Fpw M M' ∧ Mdi M') ∧ ((¬ ((0 ≤ k ∧ k ≤ 24) ∧ 0 ≤ i) ∧ q = some (.inl (-2))) ∨ (((0 ≤ k ∧ k ≤ 24) ∧ 0 ≤ i) ∧ q = some (.inl (sp_run (Nc f k) (f 4 - 1).toNat 1 0 i))))) := by
  have w4 := hW.1.2.2.2.2
  have wb := y_w_b w4
  have i4 : in32 (f 4) := by unfold in32; omega
  have iw : in32 (y_w (f 4)) := by unfold in32; omega
  refine cw_C_of (L := [.inr (.inr 319), .inl k, .inl i, cU, cU, cU, cU]) ok_Mo_span (Nat.le_refl _) (Nat.le_of_ble_eq_true rfl) rfl ?_
  refine cw_J_hide ?_
  have bad : ¬ ((0 ≤ k ∧ k ≤ 24) ∧ 0 ≤ i) → mJ g y_Mo_span 16 [.inr (.inr 319), .inl k, .inl i, cU, cU, cU, cU] [] M (cw_hide (fun q M' => (Fpw M M' ∧ Mdi M') ∧ ((¬ ((0 ≤ k ∧ k ≤ 24) ∧ 0 ≤ i) ∧ q = some (.inl (-2))) ∨ (((0 ≤ k ∧ k ≤ 24) ∧ 0 ≤ i) ∧ q = some (.inl (sp_run (Nc f k) (f 4 - 1).toNat 1 0 i)))))) := by
    intro hb
    refine k_Mo_span_16 _ _ _ _ _ _ _ _ ?_
    simp (disch := omega) only [↓w_nil, ↓w_cons, ↓w_ic, ↓w_iret, true_and, and_true, true_implies, false_implies, not_true_eq_false, not_false_eq_true, Int.reduceEq, Int.reduceLT, Int.reduceLE, Int.reduceNeg, w_up1, w_up2, w_up3]
    try unfold cw_hide
    exact ⟨⟨Fpw.rf hS, hd⟩, Or.inl ⟨hb, rfl⟩⟩
  refine k_Mo_span_0 _ _ _ _ _ _ _ _ ?_
  simp (disch := omega) only [↓w_nil, ↓w_cons, ↓w_ild1, ↓w_i2l, ↓w_lc, ↓w_cs3, true_and, and_true, true_implies, false_implies, not_true_eq_false, not_false_eq_true, Int.reduceEq, Int.reduceLT, Int.reduceLE, Int.reduceNeg, w_c80, w_c8I, w_c8L, w_c8R, w_up1, w_up2, w_up3]
  repeat refine And.intro (by first | assumption | exact IsW.kt (by assumption) | omega | (unfold in32; omega) | (unfold in64; omega) | exact True.intro | exact Or.inl True.intro | exact Or.inr True.intro | rfl | exact Nat.le_of_ble_eq_true rfl) ?_
  try first | done | assumption | (unfold in32; omega) | (unfold in64; omega)
  refine ⟨_, cw_bool (p_Mo_in (by first | assumption | exact i64 (by assumption) | (unfold in32; omega) | (unfold in64; omega) | omega | (simp only [in32, in64] at *; omega)) (by first | assumption | exact i64 (by assumption) | (unfold in32; omega) | (unfold in64; omega) | omega | (simp only [in32, in64] at *; omega)) (by first | assumption | exact i64 (by assumption) | (unfold in32; omega) | (unfold in64; omega) | omega | (simp only [in32, in64] at *; omega))), ?_⟩
  rintro q M9 ⟨⟨rfl, hb⟩ | ⟨rfl, hb⟩, rfl⟩
  · refine k_Mo_span_9 _ _ _ _ _ _ _ _ ?_
    simp (disch := omega) only [↓w_nil, ↓w_ifeq, true_and, and_true, true_implies, false_implies, not_true_eq_false, not_false_eq_true, Int.reduceEq, Int.reduceLT, Int.reduceLE, Int.reduceNeg, w_up1, w_up2, w_up3, w_tl1]
    repeat refine And.intro (by first | assumption | exact IsW.kt (by assumption) | omega | (unfold in32; omega) | (unfold in64; omega) | exact True.intro | exact Or.inl True.intro | exact Or.inr True.intro | rfl | exact Nat.le_of_ble_eq_true rfl) ?_
    try first | done | assumption | (unfold in32; omega) | (unfold in64; omega)
    refine k_Mo_span_12 _ _ _ _ _ _ _ _ ?_
    simp (disch := omega) only [↓w_nil, ↓w_cons, ↓w_ild2, ↓w_ifge, true_and, and_true, true_implies, false_implies, not_true_eq_false, not_false_eq_true, Int.reduceEq, Int.reduceLT, Int.reduceLE, Int.reduceNeg, w_up1, w_up2, w_up3]
    repeat refine And.intro (by first | assumption | exact IsW.kt (by assumption) | omega | (unfold in32; omega) | (unfold in64; omega) | exact True.intro | exact Or.inl True.intro | exact Or.inr True.intro | rfl | exact Nat.le_of_ble_eq_true rfl) ?_
    try first | done | assumption | (unfold in32; omega) | (unfold in64; omega)
    refine ⟨fun hi0 => ?_, fun hi0 => bad (fun z => hi0 z.2)⟩
    refine k_Mo_span_19 _ _ _ _ _ _ _ _ ?_
    simp (disch := omega) only [↓w_nil, ↓w_cons, ↓w_ald0, ↓w_cv0, true_and, and_true, true_implies, false_implies, not_true_eq_false, not_false_eq_true, Int.reduceEq, Int.reduceLT, Int.reduceLE, Int.reduceNeg, w_c80, w_c8I, w_c8L, w_c8R, w_up1, w_up2, w_up3]
    repeat refine And.intro (by first | assumption | exact IsW.kt (by assumption) | omega | (unfold in32; omega) | (unfold in64; omega) | exact True.intro | exact Or.inl True.intro | exact Or.inr True.intro | rfl | exact Nat.le_of_ble_eq_true rfl) ?_
    try first | done | assumption | (unfold in32; omega) | (unfold in64; omega)
    refine ⟨_, p_Mo_findPowers hS hf hW hd, ?_⟩
    rintro q M1 ⟨rfl, F1, s1⟩
    have loop : ∀ (d : Nat) (c many : Int) (x5 x6 : cw_V) (M2 : cw_M), c + d = f 4 → 1 ≤ c → 0 ≤ many → many ≤ c → Fpw M9 M2 → Md_at (f 4) M2 →
        mJ g y_Mo_span 28 [.inr (.inr 319), .inl k, .inl i, .inl many, .inl c, x5, x6] [] M2 (cw_hide (fun q M' => (Fpw M9 M' ∧ Mdi M') ∧ ((¬ ((0 ≤ k ∧ k ≤ 24) ∧ 0 ≤ i) ∧ q = some (.inl (-2))) ∨ (((0 ≤ k ∧ k ≤ 24) ∧ 0 ≤ i) ∧ q = some (.inl (sp_run (Nc f k) d c many i)))))) := by
      intro d
      induction d with
      | zero =>
        intro c many x5 x6 M2 hc c1 m0 m1 F2 s2
        have hS2 := F2.1
        have hf2 : M2 324 = f := by funext k; rw [F2.2 324 k (by omega) (by omega), hf]
        have ic : in32 c := by unfold in32; omega
        refine k_Mo_span_28 _ _ _ _ _ _ _ _ ?_
        simp (disch := omega) only [↓w_nil, ↓w_cons, ↓w_ild4, ↓w_ald0, ↓w_gf2_4, ↓w_ic, ↓w_iald, ↓w_icge, true_and, and_true, true_implies, false_implies, not_true_eq_false, not_false_eq_true, Int.reduceEq, Int.reduceLT, Int.reduceLE, Int.reduceNeg, w_up1, w_up2, w_up3, hf2, c_k319, c_k320, c_k321, c_k322, c_k323, c_k324, c_k325, c_k326, c_k327, c_k328, c_k329, c_k330, c_k331, c_k332, c_k333, c_k334, c_k335, c_k336, c_k337, c_k338, c_k339, c_k340, c_k341, c_k342, c_k343, c_k344, c_k345, c_k346, c_k347, hS2.r319_0, hS2.r319_1, hS2.r319_2, hS2.r319_3, hS2.r319_4, hS2.r319_5, hS2.r319_6, hS2.r319_8, hS2.r319_9, hS2.r319_10, hS2.r319_11, hS2.r319_12, hS2.r319_13, hS2.r319_14, hS2.r319_15, hS2.r319_16, hS2.r319_17, hS2.r319_20, hS2.r319_21, hS2.r319_22, hS2.r319_23, hS2.r319_24, hS2.r319_25, hS2.r319_26, hS2.r319_29, hS2.r319_30, hS2.r319_31, hS2.r319_32, w_sf1, w_sf3]
        repeat refine And.intro (by first | assumption | exact IsW.kt (by assumption) | omega | (unfold in32; omega) | (unfold in64; omega) | exact True.intro | exact Or.inl True.intro | exact Or.inr True.intro | rfl | exact Nat.le_of_ble_eq_true rfl) ?_
        try first | done | assumption | (unfold in32; omega) | (unfold in64; omega)
        refine ⟨fun _ => ?_, fun z => absurd z (by omega)⟩
        refine k_Mo_span_117 _ _ _ _ _ _ _ _ ?_
        simp (disch := omega) only [↓w_nil, ↓w_cons, ↓w_ic, ↓w_iret, true_and, and_true, true_implies, false_implies, not_true_eq_false, not_false_eq_true, Int.reduceEq, Int.reduceLT, Int.reduceLE, Int.reduceNeg, w_up1, w_up2, w_up3]
        try unfold cw_hide
        exact ⟨⟨F2, mdi_at w4 s2⟩, Or.inr ⟨⟨hb, hi0⟩, rfl⟩⟩
      | succ d ih =>
        intro c many x5 x6 M2 hc c1 m0 m1 F2 s2
        have hS2 := F2.1
        have hf2 : M2 324 = f := by funext k; rw [F2.2 324 k (by omega) (by omega), hf]
        have ic : in32 c := by unfold in32; omega
        have im : in32 many := by unfold in32; omega
        refine k_Mo_span_28 _ _ _ _ _ _ _ _ ?_
        simp (disch := omega) only [↓w_nil, ↓w_cons, ↓w_ild4, ↓w_ald0, ↓w_gf2_4, ↓w_ic, ↓w_iald, ↓w_icge, true_and, and_true, true_implies, false_implies, not_true_eq_false, not_false_eq_true, Int.reduceEq, Int.reduceLT, Int.reduceLE, Int.reduceNeg, w_up1, w_up2, w_up3, hf2, c_k319, c_k320, c_k321, c_k322, c_k323, c_k324, c_k325, c_k326, c_k327, c_k328, c_k329, c_k330, c_k331, c_k332, c_k333, c_k334, c_k335, c_k336, c_k337, c_k338, c_k339, c_k340, c_k341, c_k342, c_k343, c_k344, c_k345, c_k346, c_k347, hS2.r319_0, hS2.r319_1, hS2.r319_2, hS2.r319_3, hS2.r319_4, hS2.r319_5, hS2.r319_6, hS2.r319_8, hS2.r319_9, hS2.r319_10, hS2.r319_11, hS2.r319_12, hS2.r319_13, hS2.r319_14, hS2.r319_15, hS2.r319_16, hS2.r319_17, hS2.r319_20, hS2.r319_21, hS2.r319_22, hS2.r319_23, hS2.r319_24, hS2.r319_25, hS2.r319_26, hS2.r319_29, hS2.r319_30, hS2.r319_31, hS2.r319_32, w_sf1, w_sf3]
        repeat refine And.intro (by first | assumption | exact IsW.kt (by assumption) | omega | (unfold in32; omega) | (unfold in64; omega) | exact True.intro | exact Or.inl True.intro | exact Or.inr True.intro | rfl | exact Nat.le_of_ble_eq_true rfl) ?_
        try first | done | assumption | (unfold in32; omega) | (unfold in64; omega)
        intro _
        refine k_Mo_span_39 _ _ _ _ _ _ _ _ ?_
        simp (disch := omega) only [↓w_nil, ↓w_cons, ↓w_ald0, ↓w_gf2_29, ↓w_ic, ↓w_ild1, ↓w_ild4, ↓w_cv5, true_and, and_true, true_implies, false_implies, not_true_eq_false, not_false_eq_true, Int.reduceEq, Int.reduceLT, Int.reduceLE, Int.reduceNeg, w_c80, w_c8I, w_c8L, w_c8R, w_up1, w_up2, w_up3, c_k319, c_k320, c_k321, c_k322, c_k323, c_k324, c_k325, c_k326, c_k327, c_k328, c_k329, c_k330, c_k331, c_k332, c_k333, c_k334, c_k335, c_k336, c_k337, c_k338, c_k339, c_k340, c_k341, c_k342, c_k343, c_k344, c_k345, c_k346, c_k347, hS2.r319_0, hS2.r319_1, hS2.r319_2, hS2.r319_3, hS2.r319_4, hS2.r319_5, hS2.r319_6, hS2.r319_8, hS2.r319_9, hS2.r319_10, hS2.r319_11, hS2.r319_12, hS2.r319_13, hS2.r319_14, hS2.r319_15, hS2.r319_16, hS2.r319_17, hS2.r319_20, hS2.r319_21, hS2.r319_22, hS2.r319_23, hS2.r319_24, hS2.r319_25, hS2.r319_26, hS2.r319_29, hS2.r319_30, hS2.r319_31, hS2.r319_32, w_sf1, w_sf3]
        repeat refine And.intro (by first | assumption | exact IsW.kt (by assumption) | omega | (unfold in32; omega) | (unfold in64; omega) | exact True.intro | exact Or.inl True.intro | exact Or.inr True.intro | rfl | exact Nat.le_of_ble_eq_true rfl) ?_
        try first | done | assumption | (unfold in32; omega) | (unfold in64; omega)
        refine ⟨_, p_Mo_stars (ph := 0) hS2 w4 s2 hf2 rfl (Or.inl rfl) (by omega) hb (by omega) (show 0 ≤ c ∧ c ≤ 24 by omega) hW.sd, ?_⟩
        rintro q M3 ⟨rfl, F, rfl, hF⟩
        have hS3 := sh_sr (F := F) hS2 (Or.inl rfl)
        have s3 := s2.sf (F := F) (Or.inl (rfl : (344 : Int) = 344))
        have F3 : Fpw M9 (cw_sf M2 344 F) := fpw_sf F2 (by omega)
        have kc0 : 0 ≤ k * c := Int.mul_nonneg hb.1 (by omega)
        have vF : ∀ j : Int, 0 ≤ j → j < y_w (f 4) → F j = y_tt (fun j => y_sg (f (336 + j)) 0) (f 4) k 0 j (f 4) - y_tt (fun j => y_sg (f (336 + j)) 0) (f 4) k (k * c) j (f 4) := fun j a e => by rw [hF j a e]; unfold y_st; rw [if_pos (by omega)]
        have nc : (∀ j : Int, 0 ≤ j → j < y_w (f 4) → F j = 0) ↔ Nc f k c := ⟨fun h j a e => by have := h j a e; rw [vF j a e] at this; omega, fun h j a e => by rw [vF j a e, h j a e]; omega⟩
        have inner : ∀ (l : Nat) (j b : Int), j + l = y_w (f 4) → 0 ≤ j → (b = 0 ∨ b = 1) → (b = 1 ↔ ∀ m : Int, 0 ≤ m → m < j → F m = 0) →
            mJ g y_Mo_span 58 [.inr (.inr 319), .inl k, .inl i, .inl many, .inl c, .inl b, .inl j] [] (cw_sf M2 344 F) (cw_hide (fun q M' => (Fpw M9 M' ∧ Mdi M') ∧ ((¬ ((0 ≤ k ∧ k ≤ 24) ∧ 0 ≤ i) ∧ q = some (.inl (-2))) ∨ (((0 ≤ k ∧ k ≤ 24) ∧ 0 ≤ i) ∧ q = some (.inl (sp_run (Nc f k) (d + 1) c many i)))))) := by
          intro l
          induction l with
          | zero =>
            intro j b hj j0 b01 hbn
            have ej : j = y_w (f 4) := by omega
            subst ej
            have ib : in32 b := by unfold in32; omega
            rw [nc] at hbn
            refine k_Mo_span_58 _ _ _ _ _ _ _ _ ?_
            simp (disch := omega) only [↓w_nil, ↓w_cons, ↓w_ild6, ↓w_ald0, ↓w_gf0_27, ↓w_icge, true_and, and_true, true_implies, false_implies, not_true_eq_false, not_false_eq_true, Int.reduceEq, Int.reduceLT, Int.reduceLE, Int.reduceNeg, w_up1, w_up2, w_up3, s2.2.1, c_k319, c_k320, c_k321, c_k322, c_k323, c_k324, c_k325, c_k326, c_k327, c_k328, c_k329, c_k330, c_k331, c_k332, c_k333, c_k334, c_k335, c_k336, c_k337, c_k338, c_k339, c_k340, c_k341, c_k342, c_k343, c_k344, c_k345, c_k346, c_k347, hS2.r319_0, hS2.r319_1, hS2.r319_2, hS2.r319_3, hS2.r319_4, hS2.r319_5, hS2.r319_6, hS2.r319_8, hS2.r319_9, hS2.r319_10, hS2.r319_11, hS2.r319_12, hS2.r319_13, hS2.r319_14, hS2.r319_15, hS2.r319_16, hS2.r319_17, hS2.r319_20, hS2.r319_21, hS2.r319_22, hS2.r319_23, hS2.r319_24, hS2.r319_25, hS2.r319_26, hS2.r319_29, hS2.r319_30, hS2.r319_31, hS2.r319_32, w_sf1, w_sf3]
            repeat refine And.intro (by first | assumption | exact IsW.kt (by assumption) | omega | (unfold in32; omega) | (unfold in64; omega) | exact True.intro | exact Or.inl True.intro | exact Or.inr True.intro | rfl | exact Nat.le_of_ble_eq_true rfl) ?_
            try first | done | assumption | (unfold in32; omega) | (unfold in64; omega)
            refine ⟨fun _ => ?_, fun z => absurd z (by omega)⟩
            refine k_Mo_span_95 _ _ _ _ _ _ _ _ ?_
            simp (disch := omega) only [↓w_nil, ↓w_cons, ↓w_ild5, ↓w_ifeq, true_and, and_true, true_implies, false_implies, not_true_eq_false, not_false_eq_true, Int.reduceEq, Int.reduceLT, Int.reduceLE, Int.reduceNeg, w_up1, w_up2, w_up3]
            repeat refine And.intro (by first | assumption | exact IsW.kt (by assumption) | omega | (unfold in32; omega) | (unfold in64; omega) | exact True.intro | exact Or.inl True.intro | exact Or.inr True.intro | rfl | exact Nat.le_of_ble_eq_true rfl) ?_
            try first | done | assumption | (unfold in32; omega) | (unfold in64; omega)
            refine ⟨fun hc => ?_, fun hc => ?_⟩
            · rw [sp_3 (fun z => by have := hbn.mpr z; omega)]
              refine k_Mo_span_111 _ _ _ _ _ _ _ _ ?_
              simp (disch := omega) only [↓w_nil, ↓w_cons, ↓w_inc4, ↓w_goto, true_and, and_true, true_implies, false_implies, not_true_eq_false, not_false_eq_true, Int.reduceEq, Int.reduceLT, Int.reduceLE, Int.reduceNeg, w_nlI, w_nlL, w_nlR, w_up1, w_up2, w_up3]
              exact ih (c + 1) many _ _ _ (by omega) (by omega) (by omega) (by omega) F3 s3
            · have hn := hbn.mp (by omega)
              refine k_Mo_span_100 _ _ _ _ _ _ _ _ ?_
              simp (disch := omega) only [↓w_nil, ↓w_cons, ↓w_ild3, ↓w_ild2, ↓w_icne, true_and, and_true, true_implies, false_implies, not_true_eq_false, not_false_eq_true, Int.reduceEq, Int.reduceLT, Int.reduceLE, Int.reduceNeg, w_up1, w_up2, w_up3]
              repeat refine And.intro (by first | assumption | exact IsW.kt (by assumption) | omega | (unfold in32; omega) | (unfold in64; omega) | exact True.intro | exact Or.inl True.intro | exact Or.inr True.intro | rfl | exact Nat.le_of_ble_eq_true rfl) ?_
              try first | done | assumption | (unfold in32; omega) | (unfold in64; omega)
              refine ⟨fun hne => ?_, fun heq => ?_⟩
              · rw [sp_2 hn hne]
                refine k_Mo_span_108 _ _ _ _ _ _ _ _ ?_
                simp (disch := omega) only [↓w_nil, ↓w_cons, ↓w_inc3, ↓w_fall, true_and, and_true, true_implies, false_implies, not_true_eq_false, not_false_eq_true, Int.reduceEq, Int.reduceLT, Int.reduceLE, Int.reduceNeg, w_nlI, w_nlL, w_nlR, w_up1, w_up2, w_up3]
                refine k_Mo_span_111 _ _ _ _ _ _ _ _ ?_
                simp (disch := omega) only [↓w_nil, ↓w_cons, ↓w_inc4, ↓w_goto, true_and, and_true, true_implies, false_implies, not_true_eq_false, not_false_eq_true, Int.reduceEq, Int.reduceLT, Int.reduceLE, Int.reduceNeg, w_nlI, w_nlL, w_nlR, w_up1, w_up2, w_up3]
                exact ih (c + 1) (many + 1) _ _ _ (by omega) (by omega) (by omega) (by omega) F3 s3
              · rw [sp_1 hn heq]
                refine k_Mo_span_105 _ _ _ _ _ _ _ _ ?_
                simp (disch := omega) only [↓w_nil, ↓w_cons, ↓w_ild4, ↓w_iret, true_and, and_true, true_implies, false_implies, not_true_eq_false, not_false_eq_true, Int.reduceEq, Int.reduceLT, Int.reduceLE, Int.reduceNeg, w_up1, w_up2, w_up3]
                try unfold cw_hide
                exact ⟨⟨F3, mdi_at w4 s3⟩, Or.inr ⟨⟨hb, hi0⟩, rfl⟩⟩
          | succ l il =>
            intro j b hj j0 b01 hbn
            have ib : in32 b := by unfold in32; omega
            have ij : in32 j := by unfold in32; omega
            have vb1 := tt_b (f := f) (ph := 0) (k := k) (on := 0) (i := j) (n := f 4) w4 hb.1 (by omega) ⟨j0, by omega⟩ (by omega)
            have vb2 := tt_b (f := f) (ph := 0) (k := k) (on := k * c) (i := j) (n := f 4) w4 hb.1 kc0 ⟨j0, by omega⟩ (by omega)
            have iF : in32 (F j) := by rw [vF j j0 (by omega)]; unfold in32; omega
            have next : ∀ b2 : Int, (b2 = 0 ∨ b2 = 1) → (b2 = 1 ↔ b = 1 ∧ F j = 0) → mJ g y_Mo_span 87 [.inr (.inr 319), .inl k, .inl i, .inl many, .inl c, .inl b, .inl j] [.inl b2] (cw_sf M2 344 F) (cw_hide (fun q M' => (Fpw M9 M' ∧ Mdi M') ∧ ((¬ ((0 ≤ k ∧ k ≤ 24) ∧ 0 ≤ i) ∧ q = some (.inl (-2))) ∨ (((0 ≤ k ∧ k ≤ 24) ∧ 0 ≤ i) ∧ q = some (.inl (sp_run (Nc f k) (d + 1) c many i)))))) := by
              intro b2 c01 hc
              refine k_Mo_span_87 _ _ _ _ _ _ _ _ ?_
              simp (disch := omega) only [↓w_nil, ↓w_cons, ↓w_ist5, ↓w_inc6, ↓w_goto, true_and, and_true, true_implies, false_implies, not_true_eq_false, not_false_eq_true, Int.reduceEq, Int.reduceLT, Int.reduceLE, Int.reduceNeg, w_nlI, w_nlL, w_nlR, w_up1, w_up2, w_up3]
              refine il (j + 1) b2 (by omega) (by omega) c01 ?_
              rw [hc, hbn]
              exact ⟨fun h m a e => by
                by_cases q : m = j
                · rw [q]; exact h.2
                · exact h.1 m a (by omega), fun h => ⟨fun m a e => h m a (by omega), h j j0 (by omega)⟩⟩
            refine k_Mo_span_58 _ _ _ _ _ _ _ _ ?_
            simp (disch := omega) only [↓w_nil, ↓w_cons, ↓w_ild6, ↓w_ald0, ↓w_gf0_27, ↓w_icge, true_and, and_true, true_implies, false_implies, not_true_eq_false, not_false_eq_true, Int.reduceEq, Int.reduceLT, Int.reduceLE, Int.reduceNeg, w_up1, w_up2, w_up3, s2.2.1, c_k319, c_k320, c_k321, c_k322, c_k323, c_k324, c_k325, c_k326, c_k327, c_k328, c_k329, c_k330, c_k331, c_k332, c_k333, c_k334, c_k335, c_k336, c_k337, c_k338, c_k339, c_k340, c_k341, c_k342, c_k343, c_k344, c_k345, c_k346, c_k347, hS2.r319_0, hS2.r319_1, hS2.r319_2, hS2.r319_3, hS2.r319_4, hS2.r319_5, hS2.r319_6, hS2.r319_8, hS2.r319_9, hS2.r319_10, hS2.r319_11, hS2.r319_12, hS2.r319_13, hS2.r319_14, hS2.r319_15, hS2.r319_16, hS2.r319_17, hS2.r319_20, hS2.r319_21, hS2.r319_22, hS2.r319_23, hS2.r319_24, hS2.r319_25, hS2.r319_26, hS2.r319_29, hS2.r319_30, hS2.r319_31, hS2.r319_32, w_sf1, w_sf3]
            repeat refine And.intro (by first | assumption | exact IsW.kt (by assumption) | omega | (unfold in32; omega) | (unfold in64; omega) | exact True.intro | exact Or.inl True.intro | exact Or.inr True.intro | rfl | exact Nat.le_of_ble_eq_true rfl) ?_
            try first | done | assumption | (unfold in32; omega) | (unfold in64; omega)
            intro _
            refine k_Mo_span_67 _ _ _ _ _ _ _ _ ?_
            simp (disch := omega) only [↓w_nil, ↓w_cons, ↓w_ild5, ↓w_ifeq, true_and, and_true, true_implies, false_implies, not_true_eq_false, not_false_eq_true, Int.reduceEq, Int.reduceLT, Int.reduceLE, Int.reduceNeg, w_up1, w_up2, w_up3]
            repeat refine And.intro (by first | assumption | exact IsW.kt (by assumption) | omega | (unfold in32; omega) | (unfold in64; omega) | exact True.intro | exact Or.inl True.intro | exact Or.inr True.intro | rfl | exact Nat.le_of_ble_eq_true rfl) ?_
            try first | done | assumption | (unfold in32; omega) | (unfold in64; omega)
            refine ⟨fun hc => ?_, fun hc => ?_⟩
            · refine k_Mo_span_86 _ _ _ _ _ _ _ _ ?_
              simp (disch := omega) only [↓w_nil, ↓w_cons, ↓w_ic, ↓w_fall, true_and, and_true, true_implies, false_implies, not_true_eq_false, not_false_eq_true, Int.reduceEq, Int.reduceLT, Int.reduceLE, Int.reduceNeg, w_up1, w_up2, w_up3]
              exact next 0 (Or.inl rfl) ⟨fun z => absurd z (by omega), fun z => by omega⟩
            · refine k_Mo_span_72 _ _ _ _ _ _ _ _ ?_
              simp (disch := omega) only [↓w_nil, ↓w_cons, ↓w_ald0, ↓w_gf2_29, ↓w_ild6, ↓w_iald, ↓w_ifne, true_and, and_true, true_implies, false_implies, not_true_eq_false, not_false_eq_true, Int.reduceEq, Int.reduceLT, Int.reduceLE, Int.reduceNeg, w_up1, w_up2, w_up3, c_k319, c_k320, c_k321, c_k322, c_k323, c_k324, c_k325, c_k326, c_k327, c_k328, c_k329, c_k330, c_k331, c_k332, c_k333, c_k334, c_k335, c_k336, c_k337, c_k338, c_k339, c_k340, c_k341, c_k342, c_k343, c_k344, c_k345, c_k346, c_k347, hS2.r319_0, hS2.r319_1, hS2.r319_2, hS2.r319_3, hS2.r319_4, hS2.r319_5, hS2.r319_6, hS2.r319_8, hS2.r319_9, hS2.r319_10, hS2.r319_11, hS2.r319_12, hS2.r319_13, hS2.r319_14, hS2.r319_15, hS2.r319_16, hS2.r319_17, hS2.r319_20, hS2.r319_21, hS2.r319_22, hS2.r319_23, hS2.r319_24, hS2.r319_25, hS2.r319_26, hS2.r319_29, hS2.r319_30, hS2.r319_31, hS2.r319_32, w_sf1, w_sf3]
              repeat refine And.intro (by first | assumption | exact IsW.kt (by assumption) | omega | (unfold in32; omega) | (unfold in64; omega) | exact True.intro | exact Or.inl True.intro | exact Or.inr True.intro | rfl | exact Nat.le_of_ble_eq_true rfl) ?_
              try first | done | assumption | (unfold in32; omega) | (unfold in64; omega)
              refine ⟨fun hd => ?_, fun hd => ?_⟩
              · refine k_Mo_span_86 _ _ _ _ _ _ _ _ ?_
                simp (disch := omega) only [↓w_nil, ↓w_cons, ↓w_ic, ↓w_fall, true_and, and_true, true_implies, false_implies, not_true_eq_false, not_false_eq_true, Int.reduceEq, Int.reduceLT, Int.reduceLE, Int.reduceNeg, w_up1, w_up2, w_up3]
                exact next 0 (Or.inl rfl) ⟨fun z => absurd z (by omega), fun z => absurd z.2 hd⟩
              · refine k_Mo_span_82 _ _ _ _ _ _ _ _ ?_
                simp (disch := omega) only [↓w_nil, ↓w_cons, ↓w_ic, ↓w_goto, true_and, and_true, true_implies, false_implies, not_true_eq_false, not_false_eq_true, Int.reduceEq, Int.reduceLT, Int.reduceLE, Int.reduceNeg, w_up1, w_up2, w_up3]
                exact next 1 (Or.inr rfl) ⟨fun _ => ⟨by omega, hd⟩, fun _ => rfl⟩
        refine k_Mo_span_52 _ _ _ _ _ _ _ _ ?_
        simp (disch := omega) only [↓w_nil, ↓w_cons, ↓w_ic, ↓w_ist5, ↓w_ist6, ↓w_fall, true_and, and_true, true_implies, false_implies, not_true_eq_false, not_false_eq_true, Int.reduceEq, Int.reduceLT, Int.reduceLE, Int.reduceNeg, w_nlI, w_nlL, w_nlR, w_up1, w_up2, w_up3, w_tl0]
        exact inner (y_w (f 4)).toNat 0 1 (by omega) (by omega) (Or.inr rfl) ⟨fun _ m a e => by omega, fun _ => rfl⟩
    refine k_Mo_span_23 _ _ _ _ _ _ _ _ ?_
    simp (disch := omega) only [↓w_nil, ↓w_cons, ↓w_ic, ↓w_ist3, ↓w_ist4, ↓w_fall, true_and, and_true, true_implies, false_implies, not_true_eq_false, not_false_eq_true, Int.reduceEq, Int.reduceLT, Int.reduceLE, Int.reduceNeg, w_nlI, w_nlL, w_nlR, w_up1, w_up2, w_up3, w_tl0]
    exact loop (f 4 - 1).toNat 1 0 cU cU M1 (by omega) (by omega) (by omega) (by omega) F1 s1
  · refine k_Mo_span_9 _ _ _ _ _ _ _ _ ?_
    simp (disch := omega) only [↓w_nil, ↓w_ifeq, true_and, and_true, true_implies, false_implies, not_true_eq_false, not_false_eq_true, Int.reduceEq, Int.reduceLT, Int.reduceLE, Int.reduceNeg, w_up1, w_up2, w_up3, w_tl1]
    repeat refine And.intro (by first | assumption | exact IsW.kt (by assumption) | omega | (unfold in32; omega) | (unfold in64; omega) | exact True.intro | exact Or.inl True.intro | exact Or.inr True.intro | rfl | exact Nat.le_of_ble_eq_true rfl) ?_
    try first | done | assumption | (unfold in32; omega) | (unfold in64; omega)
    exact bad (fun z => hb z.1)
