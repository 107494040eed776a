/-! the reference: joins; by program (wip/whole/gen99zd.py) -/
theorem p_Mo_joins0 {g : cw_G} {M : cw_M} {k to : Int} {b : V3} (hS : Sh M) (hk : 0 ≤ k ∧ k < 64) (ht : M 328 k = to) (h0 : 0 ≤ to ∧ to < 64) (hz : M 332 to = 0) (hb : nv M k b) :
    mC g y_Mo_joins [.inr (.inr 319), .inl k] M (fun q M' => q = none ∧ Gu (fun j => j = to) M M' ∧ nv M' to b) := by
  refine cw_C_of (L := [.inr (.inr 319), .inl k, cU, cU, cU, cU]) ok_Mo_joins (Nat.le_refl _) (Nat.le_of_ble_eq_true rfl) rfl ?_
  refine cw_J_hide ?_
  have e1 := hb.1
  have e2 := hb.2.1
  have e3 : (cw_up M 331 to b.1) 332 = M 332 := cw_up_ne (by omega)
  refine k_Mo_joins_0 _ _ _ _ _ _ _ _ ?_
  simp (disch := omega) only [↓w_nil, ↓w_cons, ↓w_ald0, ↓w_gf2_9, ↓w_ild1, ↓w_iald, ↓w_ist2, ↓w_gf2_13, ↓w_ild2, ↓w_lald, ↓w_lc, ↓w_lcne, true_and, and_true, true_implies, false_implies, not_true_eq_false, not_false_eq_true, Int.reduceEq, Int.reduceLT, Int.reduceLE, Int.reduceNeg, w_nlI, w_nlL, w_nlR, w_up1, w_up2, w_up3, ht, hz, c_k319, c_k320, c_k321, c_k322, c_k323, c_k324, c_k325, c_k326, c_k327, c_k328, c_k329, c_k330, c_k331, c_k332, c_k333, c_k334, c_k335, c_k336, c_k337, c_k338, c_k339, c_k340, c_k341, c_k342, c_k343, c_k344, c_k345, c_k346, c_k347, hS.r319_0, hS.r319_1, hS.r319_2, hS.r319_3, hS.r319_4, hS.r319_5, hS.r319_6, hS.r319_8, hS.r319_9, hS.r319_10, hS.r319_11, hS.r319_12, hS.r319_13, hS.r319_14, hS.r319_15, hS.r319_16, hS.r319_17, hS.r319_20, hS.r319_21, hS.r319_22, hS.r319_23, hS.r319_24, hS.r319_25, hS.r319_26, hS.r319_29, hS.r319_30, hS.r319_31, hS.r319_32, w_sf1, w_sf3]
  repeat refine And.intro (by first | assumption | exact IsW.kt (by assumption) | omega | (unfold in32; omega) | (unfold in64; omega) | exact True.intro | exact Or.inl True.intro | exact Or.inr True.intro | rfl | exact Nat.le_of_ble_eq_true rfl) ?_
  try first | done | assumption | (unfold in32; omega) | (unfold in64; omega)
  refine k_Mo_joins_18 _ _ _ _ _ _ _ _ ?_
  simp (disch := omega) only [↓w_nil, ↓w_cons, ↓w_ald0, ↓w_gf2_12, ↓w_ild2, ↓w_ild1, ↓w_lald, ↓w_last, ↓w_gf2_13, ↓w_ic, ↓w_iadd, ↓w_cv2, true_and, and_true, true_implies, false_implies, not_true_eq_false, not_false_eq_true, Int.reduceEq, Int.reduceLT, Int.reduceLE, Int.reduceNeg, w_c80, w_c8I, w_c8L, w_c8R, w_up1, w_up2, w_up3, e1, e2, c_k319, c_k320, c_k321, c_k322, c_k323, c_k324, c_k325, c_k326, c_k327, c_k328, c_k329, c_k330, c_k331, c_k332, c_k333, c_k334, c_k335, c_k336, c_k337, c_k338, c_k339, c_k340, c_k341, c_k342, c_k343, c_k344, c_k345, c_k346, c_k347, hS.r319_0, hS.r319_1, hS.r319_2, hS.r319_3, hS.r319_4, hS.r319_5, hS.r319_6, hS.r319_8, hS.r319_9, hS.r319_10, hS.r319_11, hS.r319_12, hS.r319_13, hS.r319_14, hS.r319_15, hS.r319_16, hS.r319_17, hS.r319_20, hS.r319_21, hS.r319_22, hS.r319_23, hS.r319_24, hS.r319_25, hS.r319_26, hS.r319_29, hS.r319_30, hS.r319_31, hS.r319_32, w_sf1, w_sf3]
  repeat refine And.intro (by first | assumption | exact IsW.kt (by assumption) | omega | (unfold in32; omega) | (unfold in64; omega) | exact True.intro | exact Or.inl True.intro | exact Or.inr True.intro | rfl | exact Nat.le_of_ble_eq_true rfl) ?_
  try first | done | assumption | (unfold in32; omega) | (unfold in64; omega)
  have G1 : Gu (fun j => j = to) M (cw_up (cw_up M 331 to b.1) 332 to b.2.1) := gu_up (gu_up (Gu.rf hS) (Or.inl rfl) rfl) (Or.inr rfl) rfl
  have sm : ∀ s, sR M (cw_up (cw_up M 331 to b.1) 332 to b.2.1) s := fun s => ⟨by rw [cw_up_ne (by omega), cw_up_ne (by omega)], by rw [cw_up_ne (by omega), cw_up_ne (by omega)], fun j _ _ => by unfold cw_rd; rw [cw_up_ne (by omega), cw_up_ne (by omega)]⟩
  refine ⟨_, p_Mo_copies (v := b.2.2) G1.1 ⟨by omega, by omega⟩ ⟨by omega, by omega⟩ (hb.2.2.sm (sm _)), ?_⟩
  rintro q M2 ⟨rfl, g2, r2⟩
  refine k_Mo_joins_54 _ _ _ _ _ _ _ _ ?_
  simp (disch := omega) only [↓w_nil, ↓w_vret, true_and, and_true, true_implies, false_implies, not_true_eq_false, not_false_eq_true, Int.reduceEq, Int.reduceLT, Int.reduceLE, Int.reduceNeg, w_up1, w_up2, w_up3, w_tl0]
  repeat refine And.intro (by first | assumption | exact IsW.kt (by assumption) | omega | (unfold in32; omega) | (unfold in64; omega) | exact True.intro | exact Or.inl True.intro | exact Or.inr True.intro | rfl | exact Nat.le_of_ble_eq_true rfl) ?_
  try first | done | assumption | (unfold in32; omega) | (unfold in64; omega)
  refine ⟨G1.tr (gu_rf G1.1 r2 (fun s z => Or.inr (Or.inr (Or.inr ⟨to, rfl, z⟩)))), ?_, ?_, g2⟩
  · rw [r2.1 331 (by omega), cw_up_ne (by omega), w_up1]
  · rw [r2.1 332 (by omega), w_up1]
theorem p_Mo_joins1 {g : cw_G} {M : cw_M} {k to : Int} {A b : V3} {n m : Nat} (hS : Sh M) (hk : 0 ≤ k ∧ k < 64) (ht : M 328 k = to) (h0 : 0 ≤ to ∧ to < 64) (hA : nv M to A) (hb : nv M k b) (bA : Bd n A) (bb : Bd m b) (hnm : n + m ≤ 7) (hK : M 327 to = 1 ∨ M 327 to = 2) (hne : k ≠ to) :
    mC g y_Mo_joins [.inr (.inr 319), .inl k] M (fun q M' => q = none ∧ Gu (fun j => j = to) M M' ∧ nv M' to (if M 327 to = 1 then c_mu A b else c_ad A b)) := by
  have b1 := bd_7 bA (by omega)
  have b2 := bd_7 bb (by omega)
  have e331t := hA.1
  have e332t := hA.2.1
  have e331k := hb.1
  have e332k := hb.2.1
  have k32 : in32 (M 327 to) := by unfold in32; omega
  have pr : ∀ x y : Int, (-742267471727118456000000 ≤ x ∧ x ≤ 742267471727118456000000) → (0 ≤ y ∧ y ≤ 13254776280841401) → -10000000000000000000000000000000000000000 ≤ x * y ∧ x * y ≤ 10000000000000000000000000000000000000000 := fun x y hx hy => by
    have := ab_mb (a := 742267471727118456000000) (b := 13254776280841401) hx ⟨by omega, hy.2⟩
    omega
  have p1 := pr A.2.2 b.1 (by omega) (by omega)
  have p2 := pr A.2.2 b.2.1 (by omega) (by omega)
  have p3 := pr b.2.2 A.1 (by omega) (by omega)
  have p4 := pr b.2.2 A.2.1 (by omega) (by omega)
  have B3 : (1073741824 : Int) ^ 3 = 1237940039285380274899124224 := by decide
  refine cw_C_of (L := [.inr (.inr 319), .inl k, cU, cU, cU, cU]) ok_Mo_joins (Nat.le_refl _) (Nat.le_of_ble_eq_true rfl) rfl ?_
  refine cw_J_hide ?_
  refine k_Mo_joins_0 _ _ _ _ _ _ _ _ ?_
  simp (disch := omega) only [↓w_nil, ↓w_cons, ↓w_ald0, ↓w_gf2_9, ↓w_ild1, ↓w_iald, ↓w_ist2, ↓w_gf2_13, ↓w_ild2, ↓w_lald, ↓w_lc, ↓w_lcne, true_and, and_true, true_implies, false_implies, not_true_eq_false, not_false_eq_true, Int.reduceEq, Int.reduceLT, Int.reduceLE, Int.reduceNeg, w_nlI, w_nlL, w_nlR, w_up1, w_up2, w_up3, ht, e332t, c_k319, c_k320, c_k321, c_k322, c_k323, c_k324, c_k325, c_k326, c_k327, c_k328, c_k329, c_k330, c_k331, c_k332, c_k333, c_k334, c_k335, c_k336, c_k337, c_k338, c_k339, c_k340, c_k341, c_k342, c_k343, c_k344, c_k345, c_k346, c_k347, hS.r319_0, hS.r319_1, hS.r319_2, hS.r319_3, hS.r319_4, hS.r319_5, hS.r319_6, hS.r319_8, hS.r319_9, hS.r319_10, hS.r319_11, hS.r319_12, hS.r319_13, hS.r319_14, hS.r319_15, hS.r319_16, hS.r319_17, hS.r319_20, hS.r319_21, hS.r319_22, hS.r319_23, hS.r319_24, hS.r319_25, hS.r319_26, hS.r319_29, hS.r319_30, hS.r319_31, hS.r319_32, w_sf1, w_sf3]
  repeat refine And.intro (by first | assumption | exact IsW.kt (by assumption) | omega | (unfold in32; omega) | (unfold in64; omega) | exact True.intro | exact Or.inl True.intro | exact Or.inr True.intro | rfl | exact Nat.le_of_ble_eq_true rfl) ?_
  try first | done | assumption | (unfold in32; omega) | (unfold in64; omega)
  refine ⟨fun _ => ?_, fun hc => absurd hc (by omega)⟩
  refine k_Mo_joins_55 _ _ _ _ _ _ _ _ ?_
  simp (disch := omega) only [↓w_nil, ↓w_cons, ↓w_ald0, ↓w_gf2_8, ↓w_ild2, ↓w_iald, ↓w_ic, ↓w_icne, true_and, and_true, true_implies, false_implies, not_true_eq_false, not_false_eq_true, Int.reduceEq, Int.reduceLT, Int.reduceLE, Int.reduceNeg, w_up1, w_up2, w_up3, c_k319, c_k320, c_k321, c_k322, c_k323, c_k324, c_k325, c_k326, c_k327, c_k328, c_k329, c_k330, c_k331, c_k332, c_k333, c_k334, c_k335, c_k336, c_k337, c_k338, c_k339, c_k340, c_k341, c_k342, c_k343, c_k344, c_k345, c_k346, c_k347, hS.r319_0, hS.r319_1, hS.r319_2, hS.r319_3, hS.r319_4, hS.r319_5, hS.r319_6, hS.r319_8, hS.r319_9, hS.r319_10, hS.r319_11, hS.r319_12, hS.r319_13, hS.r319_14, hS.r319_15, hS.r319_16, hS.r319_17, hS.r319_20, hS.r319_21, hS.r319_22, hS.r319_23, hS.r319_24, hS.r319_25, hS.r319_26, hS.r319_29, hS.r319_30, hS.r319_31, hS.r319_32, w_sf1, w_sf3]
  repeat refine And.intro (by first | assumption | exact IsW.kt (by assumption) | omega | (unfold in32; omega) | (unfold in64; omega) | exact True.intro | exact Or.inl True.intro | exact Or.inr True.intro | rfl | exact Nat.le_of_ble_eq_true rfl) ?_
  try first | done | assumption | (unfold in32; omega) | (unfold in64; omega)
  refine ⟨fun hc => ?_, fun hc => ?_⟩
  · refine k_Mo_joins_69 _ _ _ _ _ _ _ _ ?_
    simp (disch := omega) only [↓w_nil, ↓w_cons, ↓w_ic, ↓w_fall, true_and, and_true, true_implies, false_implies, not_true_eq_false, not_false_eq_true, Int.reduceEq, Int.reduceLT, Int.reduceLE, Int.reduceNeg, w_up1, w_up2, w_up3]
    refine k_Mo_joins_70 _ _ _ _ _ _ _ _ ?_
    simp (disch := omega) only [↓w_nil, ↓w_cons, ↓w_ist3, ↓w_ald0, ↓w_ic, ↓w_ild2, ↓w_iadd, ↓w_ild3, ↓w_ifeq, true_and, and_true, true_implies, false_implies, not_true_eq_false, not_false_eq_true, Int.reduceEq, Int.reduceLT, Int.reduceLE, Int.reduceNeg, w_nlI, w_nlL, w_nlR, w_up1, w_up2, w_up3]
    repeat refine And.intro (by first | assumption | exact IsW.kt (by assumption) | omega | (unfold in32; omega) | (unfold in64; omega) | exact True.intro | exact Or.inl True.intro | exact Or.inr True.intro | rfl | exact Nat.le_of_ble_eq_true rfl) ?_
    try first | done | assumption | (unfold in32; omega) | (unfold in64; omega)
    refine k_Mo_joins_90 _ _ _ _ _ _ _ _ ?_
    simp (disch := omega) only [↓w_nil, ↓w_cons, ↓w_ald0, ↓w_gf2_13, ↓w_ild1, ↓w_lald, ↓w_fall, true_and, and_true, true_implies, false_implies, not_true_eq_false, not_false_eq_true, Int.reduceEq, Int.reduceLT, Int.reduceLE, Int.reduceNeg, w_up1, w_up2, w_up3, e331k, e332k, c_k319, c_k320, c_k321, c_k322, c_k323, c_k324, c_k325, c_k326, c_k327, c_k328, c_k329, c_k330, c_k331, c_k332, c_k333, c_k334, c_k335, c_k336, c_k337, c_k338, c_k339, c_k340, c_k341, c_k342, c_k343, c_k344, c_k345, c_k346, c_k347, hS.r319_0, hS.r319_1, hS.r319_2, hS.r319_3, hS.r319_4, hS.r319_5, hS.r319_6, hS.r319_8, hS.r319_9, hS.r319_10, hS.r319_11, hS.r319_12, hS.r319_13, hS.r319_14, hS.r319_15, hS.r319_16, hS.r319_17, hS.r319_20, hS.r319_21, hS.r319_22, hS.r319_23, hS.r319_24, hS.r319_25, hS.r319_26, hS.r319_29, hS.r319_30, hS.r319_31, hS.r319_32, w_sf1, w_sf3]
    repeat refine And.intro (by first | assumption | exact IsW.kt (by assumption) | omega | (unfold in32; omega) | (unfold in64; omega) | exact True.intro | exact Or.inl True.intro | exact Or.inr True.intro | rfl | exact Nat.le_of_ble_eq_true rfl) ?_
    try first | done | assumption | (unfold in32; omega) | (unfold in64; omega)
    refine k_Mo_joins_96 _ _ _ _ _ _ _ _ ?_
    simp (disch := omega) only [↓w_nil, ↓w_cv3, true_and, and_true, true_implies, false_implies, not_true_eq_false, not_false_eq_true, Int.reduceEq, Int.reduceLT, Int.reduceLE, Int.reduceNeg, w_c80, w_c8I, w_c8L, w_c8R, w_up1, w_up2, w_up3]
    repeat refine And.intro (by first | assumption | exact IsW.kt (by assumption) | omega | (unfold in32; omega) | (unfold in64; omega) | exact True.intro | exact Or.inl True.intro | exact Or.inr True.intro | rfl | exact Nat.le_of_ble_eq_true rfl) ?_
    try first | done | assumption | (unfold in32; omega) | (unfold in64; omega)
    refine ⟨_, p_Mo_timesLong (ia := 3) hS ⟨by omega, by omega⟩ ⟨by omega, by omega⟩ (by omega) hA.2.2 (ab_lt (by omega)) (by omega) (by omega), ?_⟩
    rintro q M2 ⟨rfl, g2, r2⟩
    have hS2 := hS.rf r2
    have k2 : ∀ a : Int, ¬ (320 ≤ a ∧ a ≤ 323) → M2 a = M a := fun a z => r2.1 a z
    have e331t2 : M2 331 to = A.1 := by rw [k2 331 (by omega)]; exact hA.1
    have e332t2 : M2 332 to = A.2.1 := by rw [k2 332 (by omega)]; exact hA.2.1
    refine k_Mo_joins_99 _ _ _ _ _ _ _ _ ?_
    simp (disch := omega) only [↓w_nil, ↓w_cons, ↓w_ald0, ↓w_ic, ↓w_ild1, ↓w_iadd, ↓w_ild3, ↓w_ifeq, true_and, and_true, true_implies, false_implies, not_true_eq_false, not_false_eq_true, Int.reduceEq, Int.reduceLT, Int.reduceLE, Int.reduceNeg, w_up1, w_up2, w_up3, w_tl0]
    repeat refine And.intro (by first | assumption | exact IsW.kt (by assumption) | omega | (unfold in32; omega) | (unfold in64; omega) | exact True.intro | exact Or.inl True.intro | exact Or.inr True.intro | rfl | exact Nat.le_of_ble_eq_true rfl) ?_
    try first | done | assumption | (unfold in32; omega) | (unfold in64; omega)
    refine k_Mo_joins_118 _ _ _ _ _ _ _ _ ?_
    simp (disch := omega) only [↓w_nil, ↓w_cons, ↓w_ald0, ↓w_gf2_13, ↓w_ild2, ↓w_lald, ↓w_fall, true_and, and_true, true_implies, false_implies, not_true_eq_false, not_false_eq_true, Int.reduceEq, Int.reduceLT, Int.reduceLE, Int.reduceNeg, w_up1, w_up2, w_up3, e331t2, e332t2, c_k319, c_k320, c_k321, c_k322, c_k323, c_k324, c_k325, c_k326, c_k327, c_k328, c_k329, c_k330, c_k331, c_k332, c_k333, c_k334, c_k335, c_k336, c_k337, c_k338, c_k339, c_k340, c_k341, c_k342, c_k343, c_k344, c_k345, c_k346, c_k347, hS2.r319_0, hS2.r319_1, hS2.r319_2, hS2.r319_3, hS2.r319_4, hS2.r319_5, hS2.r319_6, hS2.r319_8, hS2.r319_9, hS2.r319_10, hS2.r319_11, hS2.r319_12, hS2.r319_13, hS2.r319_14, hS2.r319_15, hS2.r319_16, hS2.r319_17, hS2.r319_20, hS2.r319_21, hS2.r319_22, hS2.r319_23, hS2.r319_24, hS2.r319_25, hS2.r319_26, hS2.r319_29, hS2.r319_30, hS2.r319_31, hS2.r319_32, w_sf1, w_sf3]
    repeat refine And.intro (by first | assumption | exact IsW.kt (by assumption) | omega | (unfold in32; omega) | (unfold in64; omega) | exact True.intro | exact Or.inl True.intro | exact Or.inr True.intro | rfl | exact Nat.le_of_ble_eq_true rfl) ?_
    try first | done | assumption | (unfold in32; omega) | (unfold in64; omega)
    refine k_Mo_joins_124 _ _ _ _ _ _ _ _ ?_
    simp (disch := omega) only [↓w_nil, ↓w_cv3, true_and, and_true, true_implies, false_implies, not_true_eq_false, not_false_eq_true, Int.reduceEq, Int.reduceLT, Int.reduceLE, Int.reduceNeg, w_c80, w_c8I, w_c8L, w_c8R, w_up1, w_up2, w_up3]
    repeat refine And.intro (by first | assumption | exact IsW.kt (by assumption) | omega | (unfold in32; omega) | (unfold in64; omega) | exact True.intro | exact Or.inl True.intro | exact Or.inr True.intro | rfl | exact Nat.le_of_ble_eq_true rfl) ?_
    try first | done | assumption | (unfold in32; omega) | (unfold in64; omega)
    refine ⟨_, p_Mo_timesLong (va := b.2.2) (ia := 3) hS2 ⟨by omega, by omega⟩ ⟨by omega, by omega⟩ (by omega) (hb.2.2.rf r2 ⟨by omega, by omega⟩ (by omega)) (ab_lt (by omega)) (by omega) (by omega), ?_⟩
    rintro q M3 ⟨rfl, g3, r3⟩
    have hS3 := hS2.rf r3
    refine k_Mo_joins_127 _ _ _ _ _ _ _ _ ?_
    simp (disch := omega) only [↓w_nil, ↓w_cons, ↓w_ald0, ↓w_ic, ↓w_ild2, ↓w_iadd, ↓w_cv4, true_and, and_true, true_implies, false_implies, not_true_eq_false, not_false_eq_true, Int.reduceEq, Int.reduceLT, Int.reduceLE, Int.reduceNeg, w_c80, w_c8I, w_c8L, w_c8R, w_up1, w_up2, w_up3, w_tl0]
    repeat refine And.intro (by first | assumption | exact IsW.kt (by assumption) | omega | (unfold in32; omega) | (unfold in64; omega) | exact True.intro | exact Or.inl True.intro | exact Or.inr True.intro | rfl | exact Nat.le_of_ble_eq_true rfl) ?_
    try first | done | assumption | (unfold in32; omega) | (unfold in64; omega)
    refine ⟨_, p_Mo_adds hS3 ⟨by omega, by omega⟩ ⟨by omega, by omega⟩ ⟨by omega, by omega⟩ (g2.rf r3 ⟨by omega, by omega⟩ (by omega)) g3 (Int.lt_trans (ab_lt (b := 20000000000000000000000000000000000000000) (by omega)) (by decide)) (Int.lt_trans (ab_lt (b := 20000000000000000000000000000000000000000) (by omega)) (by decide)) (Or.inl rfl), ?_⟩
    rintro q M4 ⟨rfl, g4, r4⟩
    have hS4 := hS3.rf r4
    have k4 : ∀ a : Int, ¬ (320 ≤ a ∧ a ≤ 323) → M4 a = M a := fun a z => by rw [r4.1 a z, r3.1 a z, k2 a z]
    have f331t : M4 331 to = A.1 := by rw [k4 331 (by omega)]; exact hA.1
    have f332t : M4 332 to = A.2.1 := by rw [k4 332 (by omega)]; exact hA.2.1
    have f331k : M4 331 k = b.1 := by rw [k4 331 (by omega)]; exact hb.1
    have f332k : M4 332 k = b.2.1 := by rw [k4 332 (by omega)]; exact hb.2.1
    have G4 : Gu (fun j => j = to) M M4 := ((gu_rf hS r2 (fun s z => by omega)).tr (gu_rf hS2 r3 (fun s z => by omega))).tr (gu_rf hS3 r4 (fun s z => Or.inr (Or.inr (Or.inr ⟨to, rfl, z⟩))))
    refine k_Mo_joins_138 _ _ _ _ _ _ _ _ ?_
    simp (disch := omega) only [↓w_nil, ↓w_cons, ↓w_ild3, ↓w_ifeq, true_and, and_true, true_implies, false_implies, not_true_eq_false, not_false_eq_true, Int.reduceEq, Int.reduceLT, Int.reduceLE, Int.reduceNeg, w_up1, w_up2, w_up3, w_tl0]
    repeat refine And.intro (by first | assumption | exact IsW.kt (by assumption) | omega | (unfold in32; omega) | (unfold in64; omega) | exact True.intro | exact Or.inl True.intro | exact Or.inr True.intro | rfl | exact Nat.le_of_ble_eq_true rfl) ?_
    try first | done | assumption | (unfold in32; omega) | (unfold in64; omega)
    refine k_Mo_joins_172 _ _ _ _ _ _ _ _ ?_
    simp (disch := omega) only [↓w_nil, ↓w_cons, ↓w_ald0, ↓w_gf2_12, ↓w_ild2, ↓w_lald, ↓w_gf2_13, ↓w_ild1, ↓w_lmul, ↓w_ladd, ↓w_fall, true_and, and_true, true_implies, false_implies, not_true_eq_false, not_false_eq_true, Int.reduceEq, Int.reduceLT, Int.reduceLE, Int.reduceNeg, w_up1, w_up2, w_up3, f331t, f332t, f331k, f332k, c_k319, c_k320, c_k321, c_k322, c_k323, c_k324, c_k325, c_k326, c_k327, c_k328, c_k329, c_k330, c_k331, c_k332, c_k333, c_k334, c_k335, c_k336, c_k337, c_k338, c_k339, c_k340, c_k341, c_k342, c_k343, c_k344, c_k345, c_k346, c_k347, hS4.r319_0, hS4.r319_1, hS4.r319_2, hS4.r319_3, hS4.r319_4, hS4.r319_5, hS4.r319_6, hS4.r319_8, hS4.r319_9, hS4.r319_10, hS4.r319_11, hS4.r319_12, hS4.r319_13, hS4.r319_14, hS4.r319_15, hS4.r319_16, hS4.r319_17, hS4.r319_20, hS4.r319_21, hS4.r319_22, hS4.r319_23, hS4.r319_24, hS4.r319_25, hS4.r319_26, hS4.r319_29, hS4.r319_30, hS4.r319_31, hS4.r319_32, w_sf1, w_sf3]
    repeat refine And.intro (by first | assumption | exact IsW.kt (by assumption) | omega | (unfold in32; omega) | (unfold in64; omega) | exact True.intro | exact Or.inl True.intro | exact Or.inr True.intro | rfl | exact Nat.le_of_ble_eq_true rfl) ?_
    try first | done | assumption | (unfold in32; omega) | (unfold in64; omega)
    refine k_Mo_joins_199 _ _ _ _ _ _ _ _ ?_
    simp (disch := omega) only [↓w_nil, ↓w_cons, ↓w_lst4, ↓w_ild3, ↓w_ifeq, true_and, and_true, true_implies, false_implies, not_true_eq_false, not_false_eq_true, Int.reduceEq, Int.reduceLT, Int.reduceLE, Int.reduceNeg, w_nlI, w_nlL, w_nlR, w_up1, w_up2, w_up3]
    repeat refine And.intro (by first | assumption | exact IsW.kt (by assumption) | omega | (unfold in32; omega) | (unfold in64; omega) | exact True.intro | exact Or.inl True.intro | exact Or.inr True.intro | rfl | exact Nat.le_of_ble_eq_true rfl) ?_
    try first | done | assumption | (unfold in32; omega) | (unfold in64; omega)
    have sw : ∀ x : Int, (cw_up M4 332 to x) 331 = M4 331 := fun x => cw_up_ne (by omega)
    have sw2 : ∀ x : Int, (cw_up M4 331 to x) 332 = M4 332 := fun x => cw_up_ne (by omega)
    refine k_Mo_joins_231 _ _ _ _ _ _ _ _ ?_
    simp (disch := omega) only [↓w_nil, ↓w_cons, ↓w_ald0, ↓w_gf2_13, ↓w_ild2, ↓w_dup2, ↓w_dup2L, ↓w_lald, ↓w_ild1, ↓w_lmul, ↓w_last, ↓w_gf2_12, ↓w_lld4, ↓w_fall, true_and, and_true, true_implies, false_implies, not_true_eq_false, not_false_eq_true, Int.reduceEq, Int.reduceLT, Int.reduceLE, Int.reduceNeg, w_up1, w_up2, w_up3, f331t, f332t, f331k, f332k, c_k319, c_k320, c_k321, c_k322, c_k323, c_k324, c_k325, c_k326, c_k327, c_k328, c_k329, c_k330, c_k331, c_k332, c_k333, c_k334, c_k335, c_k336, c_k337, c_k338, c_k339, c_k340, c_k341, c_k342, c_k343, c_k344, c_k345, c_k346, c_k347, hS4.r319_0, hS4.r319_1, hS4.r319_2, hS4.r319_3, hS4.r319_4, hS4.r319_5, hS4.r319_6, hS4.r319_8, hS4.r319_9, hS4.r319_10, hS4.r319_11, hS4.r319_12, hS4.r319_13, hS4.r319_14, hS4.r319_15, hS4.r319_16, hS4.r319_17, hS4.r319_20, hS4.r319_21, hS4.r319_22, hS4.r319_23, hS4.r319_24, hS4.r319_25, hS4.r319_26, hS4.r319_29, hS4.r319_30, hS4.r319_31, hS4.r319_32, w_sf1, w_sf3]
    repeat refine And.intro (by first | assumption | exact IsW.kt (by assumption) | omega | (unfold in32; omega) | (unfold in64; omega) | exact True.intro | exact Or.inl True.intro | exact Or.inr True.intro | rfl | exact Nat.le_of_ble_eq_true rfl) ?_
    try first | done | assumption | (unfold in32; omega) | (unfold in64; omega)
    refine k_Mo_joins_254 _ _ _ _ _ _ _ _ ?_
    simp (disch := omega) only [↓w_nil, ↓w_vret, true_and, and_true, true_implies, false_implies, not_true_eq_false, not_false_eq_true, Int.reduceEq, Int.reduceLT, Int.reduceLE, Int.reduceNeg, w_up1, w_up2, w_up3]
    repeat refine And.intro (by first | assumption | exact IsW.kt (by assumption) | omega | (unfold in32; omega) | (unfold in64; omega) | exact True.intro | exact Or.inl True.intro | exact Or.inr True.intro | rfl | exact Nat.le_of_ble_eq_true rfl) ?_
    try first | done | assumption | (unfold in32; omega) | (unfold in64; omega)
    refine ⟨gu_up (gu_up G4 (Or.inr rfl) rfl) (Or.inl rfl) rfl, ?_⟩
    rw [if_neg (by omega)]
    refine ⟨?_, ?_, ?_⟩
    · show (cw_up (cw_up M4 332 to (A.2.1 * b.2.1)) 331 to (A.1 * b.2.1 + b.1 * A.2.1)) 331 to = _
      rw [w_up1]
      all_goals rfl
    · show (cw_up (cw_up M4 332 to (A.2.1 * b.2.1)) 331 to (A.1 * b.2.1 + b.1 * A.2.1)) 332 to = _
      rw [cw_up_ne (by omega), w_up1]
      all_goals rfl
    · show RM (cw_up (cw_up M4 332 to (A.2.1 * b.2.1)) 331 to (A.1 * b.2.1 + b.1 * A.2.1)) (92 + to) _
      have z : (c_ad A b).2.2 = A.2.2 * b.2.1 + 1 * (b.2.2 * A.2.1) := by
        show A.2.2 * b.2.1 + b.2.2 * A.2.1 = _
        omega
      rw [z]
      refine g4.sm ⟨by rw [cw_up_ne (by omega), cw_up_ne (by omega)], by rw [cw_up_ne (by omega), cw_up_ne (by omega)], fun j _ _ => ?_⟩
      unfold cw_rd
      rw [cw_up_ne (by omega), cw_up_ne (by omega)]
  · refine k_Mo_joins_65 _ _ _ _ _ _ _ _ ?_
    simp (disch := omega) only [↓w_nil, ↓w_cons, ↓w_ic, ↓w_goto, true_and, and_true, true_implies, false_implies, not_true_eq_false, not_false_eq_true, Int.reduceEq, Int.reduceLT, Int.reduceLE, Int.reduceNeg, w_up1, w_up2, w_up3]
    refine k_Mo_joins_70 _ _ _ _ _ _ _ _ ?_
    simp (disch := omega) only [↓w_nil, ↓w_cons, ↓w_ist3, ↓w_ald0, ↓w_ic, ↓w_ild2, ↓w_iadd, ↓w_ild3, ↓w_ifeq, true_and, and_true, true_implies, false_implies, not_true_eq_false, not_false_eq_true, Int.reduceEq, Int.reduceLT, Int.reduceLE, Int.reduceNeg, w_nlI, w_nlL, w_nlR, w_up1, w_up2, w_up3]
    repeat refine And.intro (by first | assumption | exact IsW.kt (by assumption) | omega | (unfold in32; omega) | (unfold in64; omega) | exact True.intro | exact Or.inl True.intro | exact Or.inr True.intro | rfl | exact Nat.le_of_ble_eq_true rfl) ?_
    try first | done | assumption | (unfold in32; omega) | (unfold in64; omega)
    refine k_Mo_joins_81 _ _ _ _ _ _ _ _ ?_
    simp (disch := omega) only [↓w_nil, ↓w_cons, ↓w_ald0, ↓w_gf2_12, ↓w_ild1, ↓w_lald, ↓w_goto, true_and, and_true, true_implies, false_implies, not_true_eq_false, not_false_eq_true, Int.reduceEq, Int.reduceLT, Int.reduceLE, Int.reduceNeg, w_up1, w_up2, w_up3, e331k, e332k, c_k319, c_k320, c_k321, c_k322, c_k323, c_k324, c_k325, c_k326, c_k327, c_k328, c_k329, c_k330, c_k331, c_k332, c_k333, c_k334, c_k335, c_k336, c_k337, c_k338, c_k339, c_k340, c_k341, c_k342, c_k343, c_k344, c_k345, c_k346, c_k347, hS.r319_0, hS.r319_1, hS.r319_2, hS.r319_3, hS.r319_4, hS.r319_5, hS.r319_6, hS.r319_8, hS.r319_9, hS.r319_10, hS.r319_11, hS.r319_12, hS.r319_13, hS.r319_14, hS.r319_15, hS.r319_16, hS.r319_17, hS.r319_20, hS.r319_21, hS.r319_22, hS.r319_23, hS.r319_24, hS.r319_25, hS.r319_26, hS.r319_29, hS.r319_30, hS.r319_31, hS.r319_32, w_sf1, w_sf3]
    repeat refine And.intro (by first | assumption | exact IsW.kt (by assumption) | omega | (unfold in32; omega) | (unfold in64; omega) | exact True.intro | exact Or.inl True.intro | exact Or.inr True.intro | rfl | exact Nat.le_of_ble_eq_true rfl) ?_
    try first | done | assumption | (unfold in32; omega) | (unfold in64; omega)
    refine k_Mo_joins_96 _ _ _ _ _ _ _ _ ?_
    simp (disch := omega) only [↓w_nil, ↓w_cv3, true_and, and_true, true_implies, false_implies, not_true_eq_false, not_false_eq_true, Int.reduceEq, Int.reduceLT, Int.reduceLE, Int.reduceNeg, w_c80, w_c8I, w_c8L, w_c8R, w_up1, w_up2, w_up3]
    repeat refine And.intro (by first | assumption | exact IsW.kt (by assumption) | omega | (unfold in32; omega) | (unfold in64; omega) | exact True.intro | exact Or.inl True.intro | exact Or.inr True.intro | rfl | exact Nat.le_of_ble_eq_true rfl) ?_
    try first | done | assumption | (unfold in32; omega) | (unfold in64; omega)
    refine ⟨_, p_Mo_timesLong (ia := 3) hS ⟨by omega, by omega⟩ ⟨by omega, by omega⟩ (by omega) hA.2.2 (ab_lt (by omega)) (by omega) (by omega), ?_⟩
    rintro q M2 ⟨rfl, g2, r2⟩
    have hS2 := hS.rf r2
    have k2 : ∀ a : Int, ¬ (320 ≤ a ∧ a ≤ 323) → M2 a = M a := fun a z => r2.1 a z
    have e331t2 : M2 331 to = A.1 := by rw [k2 331 (by omega)]; exact hA.1
    have e332t2 : M2 332 to = A.2.1 := by rw [k2 332 (by omega)]; exact hA.2.1
    refine k_Mo_joins_99 _ _ _ _ _ _ _ _ ?_
    simp (disch := omega) only [↓w_nil, ↓w_cons, ↓w_ald0, ↓w_ic, ↓w_ild1, ↓w_iadd, ↓w_ild3, ↓w_ifeq, true_and, and_true, true_implies, false_implies, not_true_eq_false, not_false_eq_true, Int.reduceEq, Int.reduceLT, Int.reduceLE, Int.reduceNeg, w_up1, w_up2, w_up3, w_tl0]
    repeat refine And.intro (by first | assumption | exact IsW.kt (by assumption) | omega | (unfold in32; omega) | (unfold in64; omega) | exact True.intro | exact Or.inl True.intro | exact Or.inr True.intro | rfl | exact Nat.le_of_ble_eq_true rfl) ?_
    try first | done | assumption | (unfold in32; omega) | (unfold in64; omega)
    refine k_Mo_joins_109 _ _ _ _ _ _ _ _ ?_
    simp (disch := omega) only [↓w_nil, ↓w_cons, ↓w_ald0, ↓w_gf2_12, ↓w_ild2, ↓w_lald, ↓w_goto, true_and, and_true, true_implies, false_implies, not_true_eq_false, not_false_eq_true, Int.reduceEq, Int.reduceLT, Int.reduceLE, Int.reduceNeg, w_up1, w_up2, w_up3, e331t2, e332t2, c_k319, c_k320, c_k321, c_k322, c_k323, c_k324, c_k325, c_k326, c_k327, c_k328, c_k329, c_k330, c_k331, c_k332, c_k333, c_k334, c_k335, c_k336, c_k337, c_k338, c_k339, c_k340, c_k341, c_k342, c_k343, c_k344, c_k345, c_k346, c_k347, hS2.r319_0, hS2.r319_1, hS2.r319_2, hS2.r319_3, hS2.r319_4, hS2.r319_5, hS2.r319_6, hS2.r319_8, hS2.r319_9, hS2.r319_10, hS2.r319_11, hS2.r319_12, hS2.r319_13, hS2.r319_14, hS2.r319_15, hS2.r319_16, hS2.r319_17, hS2.r319_20, hS2.r319_21, hS2.r319_22, hS2.r319_23, hS2.r319_24, hS2.r319_25, hS2.r319_26, hS2.r319_29, hS2.r319_30, hS2.r319_31, hS2.r319_32, w_sf1, w_sf3]
    repeat refine And.intro (by first | assumption | exact IsW.kt (by assumption) | omega | (unfold in32; omega) | (unfold in64; omega) | exact True.intro | exact Or.inl True.intro | exact Or.inr True.intro | rfl | exact Nat.le_of_ble_eq_true rfl) ?_
    try first | done | assumption | (unfold in32; omega) | (unfold in64; omega)
    refine k_Mo_joins_124 _ _ _ _ _ _ _ _ ?_
    simp (disch := omega) only [↓w_nil, ↓w_cv3, true_and, and_true, true_implies, false_implies, not_true_eq_false, not_false_eq_true, Int.reduceEq, Int.reduceLT, Int.reduceLE, Int.reduceNeg, w_c80, w_c8I, w_c8L, w_c8R, w_up1, w_up2, w_up3]
    repeat refine And.intro (by first | assumption | exact IsW.kt (by assumption) | omega | (unfold in32; omega) | (unfold in64; omega) | exact True.intro | exact Or.inl True.intro | exact Or.inr True.intro | rfl | exact Nat.le_of_ble_eq_true rfl) ?_
    try first | done | assumption | (unfold in32; omega) | (unfold in64; omega)
    refine ⟨_, p_Mo_timesLong (va := b.2.2) (ia := 3) hS2 ⟨by omega, by omega⟩ ⟨by omega, by omega⟩ (by omega) (hb.2.2.rf r2 ⟨by omega, by omega⟩ (by omega)) (ab_lt (by omega)) (by omega) (by omega), ?_⟩
    rintro q M3 ⟨rfl, g3, r3⟩
    have hS3 := hS2.rf r3
    refine k_Mo_joins_127 _ _ _ _ _ _ _ _ ?_
    simp (disch := omega) only [↓w_nil, ↓w_cons, ↓w_ald0, ↓w_ic, ↓w_ild2, ↓w_iadd, ↓w_cv4, true_and, and_true, true_implies, false_implies, not_true_eq_false, not_false_eq_true, Int.reduceEq, Int.reduceLT, Int.reduceLE, Int.reduceNeg, w_c80, w_c8I, w_c8L, w_c8R, w_up1, w_up2, w_up3, w_tl0]
    repeat refine And.intro (by first | assumption | exact IsW.kt (by assumption) | omega | (unfold in32; omega) | (unfold in64; omega) | exact True.intro | exact Or.inl True.intro | exact Or.inr True.intro | rfl | exact Nat.le_of_ble_eq_true rfl) ?_
    try first | done | assumption | (unfold in32; omega) | (unfold in64; omega)
    refine ⟨_, p_Mo_adds hS3 ⟨by omega, by omega⟩ ⟨by omega, by omega⟩ ⟨by omega, by omega⟩ (g2.rf r3 ⟨by omega, by omega⟩ (by omega)) g3 (Int.lt_trans (ab_lt (b := 20000000000000000000000000000000000000000) (by omega)) (by decide)) (Int.lt_trans (ab_lt (b := 20000000000000000000000000000000000000000) (by omega)) (by decide)) (Or.inl rfl), ?_⟩
    rintro q M4 ⟨rfl, g4, r4⟩
    have hS4 := hS3.rf r4
    have k4 : ∀ a : Int, ¬ (320 ≤ a ∧ a ≤ 323) → M4 a = M a := fun a z => by rw [r4.1 a z, r3.1 a z, k2 a z]
    have f331t : M4 331 to = A.1 := by rw [k4 331 (by omega)]; exact hA.1
    have f332t : M4 332 to = A.2.1 := by rw [k4 332 (by omega)]; exact hA.2.1
    have f331k : M4 331 k = b.1 := by rw [k4 331 (by omega)]; exact hb.1
    have f332k : M4 332 k = b.2.1 := by rw [k4 332 (by omega)]; exact hb.2.1
    have G4 : Gu (fun j => j = to) M M4 := ((gu_rf hS r2 (fun s z => by omega)).tr (gu_rf hS2 r3 (fun s z => by omega))).tr (gu_rf hS3 r4 (fun s z => Or.inr (Or.inr (Or.inr ⟨to, rfl, z⟩))))
    refine k_Mo_joins_138 _ _ _ _ _ _ _ _ ?_
    simp (disch := omega) only [↓w_nil, ↓w_cons, ↓w_ild3, ↓w_ifeq, true_and, and_true, true_implies, false_implies, not_true_eq_false, not_false_eq_true, Int.reduceEq, Int.reduceLT, Int.reduceLE, Int.reduceNeg, w_up1, w_up2, w_up3, w_tl0]
    repeat refine And.intro (by first | assumption | exact IsW.kt (by assumption) | omega | (unfold in32; omega) | (unfold in64; omega) | exact True.intro | exact Or.inl True.intro | exact Or.inr True.intro | rfl | exact Nat.le_of_ble_eq_true rfl) ?_
    try first | done | assumption | (unfold in32; omega) | (unfold in64; omega)
    refine k_Mo_joins_142 _ _ _ _ _ _ _ _ ?_
    simp (disch := omega) only [↓w_nil, ↓w_cons, ↓w_ald0, ↓w_gf2_13, ↓w_ild2, ↓w_lald, ↓w_gf2_12, ↓w_ild1, ↓w_lmul, ↓w_ladd, ↓w_goto, true_and, and_true, true_implies, false_implies, not_true_eq_false, not_false_eq_true, Int.reduceEq, Int.reduceLT, Int.reduceLE, Int.reduceNeg, w_up1, w_up2, w_up3, f331t, f332t, f331k, f332k, c_k319, c_k320, c_k321, c_k322, c_k323, c_k324, c_k325, c_k326, c_k327, c_k328, c_k329, c_k330, c_k331, c_k332, c_k333, c_k334, c_k335, c_k336, c_k337, c_k338, c_k339, c_k340, c_k341, c_k342, c_k343, c_k344, c_k345, c_k346, c_k347, hS4.r319_0, hS4.r319_1, hS4.r319_2, hS4.r319_3, hS4.r319_4, hS4.r319_5, hS4.r319_6, hS4.r319_8, hS4.r319_9, hS4.r319_10, hS4.r319_11, hS4.r319_12, hS4.r319_13, hS4.r319_14, hS4.r319_15, hS4.r319_16, hS4.r319_17, hS4.r319_20, hS4.r319_21, hS4.r319_22, hS4.r319_23, hS4.r319_24, hS4.r319_25, hS4.r319_26, hS4.r319_29, hS4.r319_30, hS4.r319_31, hS4.r319_32, w_sf1, w_sf3]
    repeat refine And.intro (by first | assumption | exact IsW.kt (by assumption) | omega | (unfold in32; omega) | (unfold in64; omega) | exact True.intro | exact Or.inl True.intro | exact Or.inr True.intro | rfl | exact Nat.le_of_ble_eq_true rfl) ?_
    try first | done | assumption | (unfold in32; omega) | (unfold in64; omega)
    refine k_Mo_joins_199 _ _ _ _ _ _ _ _ ?_
    simp (disch := omega) only [↓w_nil, ↓w_cons, ↓w_lst4, ↓w_ild3, ↓w_ifeq, true_and, and_true, true_implies, false_implies, not_true_eq_false, not_false_eq_true, Int.reduceEq, Int.reduceLT, Int.reduceLE, Int.reduceNeg, w_nlI, w_nlL, w_nlR, w_up1, w_up2, w_up3]
    repeat refine And.intro (by first | assumption | exact IsW.kt (by assumption) | omega | (unfold in32; omega) | (unfold in64; omega) | exact True.intro | exact Or.inl True.intro | exact Or.inr True.intro | rfl | exact Nat.le_of_ble_eq_true rfl) ?_
    try first | done | assumption | (unfold in32; omega) | (unfold in64; omega)
    have sw : ∀ x : Int, (cw_up M4 332 to x) 331 = M4 331 := fun x => cw_up_ne (by omega)
    have sw2 : ∀ x : Int, (cw_up M4 331 to x) 332 = M4 332 := fun x => cw_up_ne (by omega)
    refine k_Mo_joins_205 _ _ _ _ _ _ _ _ ?_
    simp (disch := omega) only [↓w_nil, ↓w_cons, ↓w_ald0, ↓w_gf2_12, ↓w_ild2, ↓w_dup2, ↓w_dup2L, ↓w_lald, ↓w_ild1, ↓w_lmul, ↓w_last, ↓w_gf2_13, ↓w_lld4, ↓w_goto, true_and, and_true, true_implies, false_implies, not_true_eq_false, not_false_eq_true, Int.reduceEq, Int.reduceLT, Int.reduceLE, Int.reduceNeg, w_up1, w_up2, w_up3, f331t, f332t, f331k, f332k, c_k319, c_k320, c_k321, c_k322, c_k323, c_k324, c_k325, c_k326, c_k327, c_k328, c_k329, c_k330, c_k331, c_k332, c_k333, c_k334, c_k335, c_k336, c_k337, c_k338, c_k339, c_k340, c_k341, c_k342, c_k343, c_k344, c_k345, c_k346, c_k347, hS4.r319_0, hS4.r319_1, hS4.r319_2, hS4.r319_3, hS4.r319_4, hS4.r319_5, hS4.r319_6, hS4.r319_8, hS4.r319_9, hS4.r319_10, hS4.r319_11, hS4.r319_12, hS4.r319_13, hS4.r319_14, hS4.r319_15, hS4.r319_16, hS4.r319_17, hS4.r319_20, hS4.r319_21, hS4.r319_22, hS4.r319_23, hS4.r319_24, hS4.r319_25, hS4.r319_26, hS4.r319_29, hS4.r319_30, hS4.r319_31, hS4.r319_32, w_sf1, w_sf3]
    repeat refine And.intro (by first | assumption | exact IsW.kt (by assumption) | omega | (unfold in32; omega) | (unfold in64; omega) | exact True.intro | exact Or.inl True.intro | exact Or.inr True.intro | rfl | exact Nat.le_of_ble_eq_true rfl) ?_
    try first | done | assumption | (unfold in32; omega) | (unfold in64; omega)
    refine k_Mo_joins_254 _ _ _ _ _ _ _ _ ?_
    simp (disch := omega) only [↓w_nil, ↓w_vret, true_and, and_true, true_implies, false_implies, not_true_eq_false, not_false_eq_true, Int.reduceEq, Int.reduceLT, Int.reduceLE, Int.reduceNeg, w_up1, w_up2, w_up3]
    repeat refine And.intro (by first | assumption | exact IsW.kt (by assumption) | omega | (unfold in32; omega) | (unfold in64; omega) | exact True.intro | exact Or.inl True.intro | exact Or.inr True.intro | rfl | exact Nat.le_of_ble_eq_true rfl) ?_
    try first | done | assumption | (unfold in32; omega) | (unfold in64; omega)
    refine ⟨gu_up (gu_up G4 (Or.inl rfl) rfl) (Or.inr rfl) rfl, ?_⟩
    rw [if_pos (by omega)]
    refine ⟨?_, ?_, ?_⟩
    · show (cw_up (cw_up M4 331 to (A.1 * b.1)) 332 to (A.2.1 * b.1 + b.2.1 * A.1)) 331 to = _
      rw [cw_up_ne (by omega), w_up1]
      all_goals rfl
    · show (cw_up (cw_up M4 331 to (A.1 * b.1)) 332 to (A.2.1 * b.1 + b.2.1 * A.1)) 332 to = _
      rw [w_up1]
      all_goals rfl
    · show RM (cw_up (cw_up M4 331 to (A.1 * b.1)) 332 to (A.2.1 * b.1 + b.2.1 * A.1)) (92 + to) _
      have z : (c_mu A b).2.2 = A.2.2 * b.1 + 1 * (b.2.2 * A.1) := by
        show A.2.2 * b.1 + b.2.2 * A.1 = _
        omega
      rw [z]
      refine g4.sm ⟨by rw [cw_up_ne (by omega), cw_up_ne (by omega)], by rw [cw_up_ne (by omega), cw_up_ne (by omega)], fun j _ _ => ?_⟩
      unfold cw_rd
      rw [cw_up_ne (by omega), cw_up_ne (by omega)]
