/-! the reference: findPushes, still -/
def Ft (f : Int → Int) (T : Tr) (t : Int) (M : cw_M) : Prop := ∃ N D A W : Int, U_st f t T A W ∧ 0 < W ∧ 0 < D ∧ A * D = N * W ∧ RM M (32 + t) N ∧ RM M (60 + t) D ∧ cw_ab N < 1073741824 ^ 10 ∧ cw_ab D < 1073741824 ^ 5
theorem Ft.sm {f : Int → Int} {T : Tr} {t : Int} {M M1 : cw_M} (h : Ft f T t M) (s1 : sR M M1 (32 + t)) (s2 : sR M M1 (60 + t)) : Ft f T t M1 := by
  obtain ⟨N, D, A, W, h1, h2, h3, h4, h5, h6, h7⟩ := h
  exact ⟨N, D, A, W, h1, h2, h3, h4, h5.sm s1, h6.sm s2, h7⟩
def P_pv (f : Int → Int) (T : Tr) (pu : Int → Int) : Prop := ∀ t : Int, 0 ≤ t → t < 24 → ∃ A W A' W' : Int, U_st f t T A W ∧ U_st f ((t + 1).tmod 24) T A' W' ∧ pu t = cw_sg (A' * W - A * W')
theorem sg_rel {a b d w : Int} (h : a * d = b * w) (hd : 0 < d) (hw : 0 < w) : cw_sg a = cw_sg b := by
  have e : cw_sg (a * d) = cw_sg (b * w) := by rw [h]
  rw [sg_mul, sg_mul, sg_of_nn (show 0 ≤ d by omega) (by omega), sg_of_nn (show 0 ≤ w by omega) (by omega), Int.mul_one, Int.mul_one] at e
  exact e
theorem cm_sg {a b : Int} : cw_cm a b = cw_sg (a - b) := by unfold cw_cm cw_sg; (repeat' split) <;> omega
theorem p_Mo_findPushes {g : cw_G} {M : cw_M} {f fl : Int → Int} {n : Int} {T : Tr} (hS : Sh M) (hf : M 324 = f) (hW : WF n f fl) (hT : Mt M T) (hk : Tk f T) (hz : M 319 19 = 0 ∨ M 319 19 = 1) :
    mC g y_Mo_findPushes [.inr (.inr 319)] M (fun q M' => q = none ∧ P_pv f T (M' 337) ∧ Gq M M' ∧ m_ok f M' ∧ (sR M M' 6 ∧ sR M M' 7)) := by
  refine cw_C_of (L := [.inr (.inr 319), cU, cU]) ok_Mo_findPushes (Nat.le_refl _) (Nat.le_of_ble_eq_true rfl) rfl ?_
  refine cw_J_hide ?_
  have second : ∀ (d i : Nat) (M1 : cw_M) (z : cw_V), i + d = 24 → Gq M M1 → (sR M M1 6 ∧ sR M M1 7) → M1 319 18 = 0 → M1 319 19 = M 319 19 → (∀ t : Int, 0 ≤ t → t < 24 → Ft f T t M1) → (∀ t : Int, 0 ≤ t → t < i → ∃ A W A' W' : Int, U_st f t T A W ∧ U_st f ((t + 1).tmod 24) T A' W' ∧ M1 337 t = cw_sg (A' * W - A * W')) →
      mJ g y_Mo_findPushes 41 [.inr (.inr 319), .inl (i : Int), z] [] M1 (cw_hide (fun q M' => q = none ∧ P_pv f T (M' 337) ∧ Gq M M' ∧ m_ok f M' ∧ (sR M M' 6 ∧ sR M M' 7))) := by
    intro d
    induction d with
    | zero =>
      intro i M1 z hi G1 s1 z18 z19 hF hp
      have ei : i = 24 := by omega
      subst ei
      refine k_Mo_findPushes_41 _ _ _ _ _ _ _ _ ?_
      simp (disch := omega) only [↓w_nil, ↓w_cons, ↓w_ild1, ↓w_ic, ↓w_icge, true_and, and_true, true_implies, false_implies, not_true_eq_false, not_false_eq_true, Int.reduceEq, Int.reduceLT, Int.reduceLE, Int.reduceNeg, w_up1, w_up2, w_up3]
      repeat refine And.intro (by first | assumption | exact IsW.kt (by assumption) | omega | (unfold in32; omega) | (unfold in64; omega) | exact True.intro | exact Or.inl True.intro | exact Or.inr True.intro | rfl | exact Nat.le_of_ble_eq_true rfl) ?_
      try first | done | assumption | (unfold in32; omega) | (unfold in64; omega)
      refine ⟨fun _ => ?_, fun h => absurd h (by omega)⟩
      have ok1 : m_ok f M1 := ⟨Or.inl z18, by rw [z19]; exact hz⟩
      have hpv : P_pv f T (M1 337) := hp
      refine k_Mo_findPushes_98 _ _ _ _ _ _ _ _ ?_
      simp (disch := omega) only [↓w_nil, ↓w_vret, true_and, and_true, true_implies, false_implies, not_true_eq_false, not_false_eq_true, Int.reduceEq, Int.reduceLT, Int.reduceLE, Int.reduceNeg, w_up1, w_up2, w_up3]
      unfold cw_hide
      exact ⟨rfl, hpv, G1, ok1, s1⟩
    | succ d ih =>
      intro i M1 z hi G1 s1 z18 z19 hF hp
      have hS1 := G1.1
      have i24 : (i : Int) < 24 := by omega
      have i0 : (0 : Int) ≤ i := by omega
      have v0 : 0 ≤ ((i : Int) + 1).tmod 24 ∧ ((i : Int) + 1).tmod 24 < 24 := ⟨Int.tmod_nonneg 24 (by omega), Int.tmod_lt_of_pos _ (by omega)⟩
      obtain ⟨N, D, A, W, hU, W0, D0, hr, a8, a9, bN, bD⟩ := hF i i0 i24
      obtain ⟨N', D', A', W', hU', W0', D0', hr', b8, b9, bN', bD'⟩ := hF _ v0.1 v0.2
      have rel : (A' * W - A * W') * (D' * D) = (N' * D - N * D') * (W' * W) := by
        have e1 : (A' * W - A * W') * (D' * D) = (A' * D') * (W * D) - (A * D) * (W' * D') := by grind
        rw [e1, hr, hr']; grind
      have ww := Int.mul_pos W0' W0
      have dd := Int.mul_pos D0' D0
      have sg := sg_rel rel dd ww
      refine k_Mo_findPushes_41 _ _ _ _ _ _ _ _ ?_
      simp (disch := omega) only [↓w_nil, ↓w_cons, ↓w_ild1, ↓w_ic, ↓w_icge, true_and, and_true, true_implies, false_implies, not_true_eq_false, not_false_eq_true, Int.reduceEq, Int.reduceLT, Int.reduceLE, Int.reduceNeg, w_up1, w_up2, w_up3]
      repeat refine And.intro (by first | assumption | exact IsW.kt (by assumption) | omega | (unfold in32; omega) | (unfold in64; omega) | exact True.intro | exact Or.inl True.intro | exact Or.inr True.intro | rfl | exact Nat.le_of_ble_eq_true rfl) ?_
      try first | done | assumption | (unfold in32; omega) | (unfold in64; omega)
      intro _
      refine k_Mo_findPushes_47 _ _ _ _ _ _ _ _ ?_
      simp (disch := omega) only [↓w_nil, ↓w_cons, ↓w_ild1, ↓w_ic, ↓w_iadd, ↓w_irem, ↓w_ist2, ↓w_ald0, ↓w_ild2, ↓w_cv3, true_and, and_true, true_implies, false_implies, not_true_eq_false, not_false_eq_true, Int.reduceEq, Int.reduceLT, Int.reduceLE, Int.reduceNeg, w_nlI, w_nlL, w_nlR, w_c80, w_c8I, w_c8L, w_c8R, w_up1, w_up2, w_up3]
      repeat refine And.intro (by first | assumption | exact IsW.kt (by assumption) | omega | (unfold in32; omega) | (unfold in64; omega) | exact True.intro | exact Or.inl True.intro | exact Or.inr True.intro | rfl | exact Nat.le_of_ble_eq_true rfl) ?_
      try first | done | assumption | (unfold in32; omega) | (unfold in64; omega)
      refine ⟨_, p_Mo_times (va := N') (vb := D) (ia := 10) (ib := 5) hS1 ⟨by omega, by omega⟩ ⟨by omega, by omega⟩ ⟨by omega, by omega⟩ b8 a9 bN' bD (by omega), ?_⟩
      rintro q M2 ⟨rfl, g2, r2⟩
      have hS2 := hS1.rf r2
      refine k_Mo_findPushes_67 _ _ _ _ _ _ _ _ ?_
      simp (disch := omega) only [↓w_nil, ↓w_cons, ↓w_ald0, ↓w_ic, ↓w_ild1, ↓w_iadd, ↓w_ild2, ↓w_cv3, true_and, and_true, true_implies, false_implies, not_true_eq_false, not_false_eq_true, Int.reduceEq, Int.reduceLT, Int.reduceLE, Int.reduceNeg, w_c80, w_c8I, w_c8L, w_c8R, w_up1, w_up2, w_up3, w_tl0]
      repeat refine And.intro (by first | assumption | exact IsW.kt (by assumption) | omega | (unfold in32; omega) | (unfold in64; omega) | exact True.intro | exact Or.inl True.intro | exact Or.inr True.intro | rfl | exact Nat.le_of_ble_eq_true rfl) ?_
      try first | done | assumption | (unfold in32; omega) | (unfold in64; omega)
      refine ⟨_, p_Mo_times (va := N) (vb := D') (ia := 10) (ib := 5) hS2 ⟨by omega, by omega⟩ ⟨by omega, by omega⟩ ⟨by omega, by omega⟩ (a8.rf r2 ⟨by omega, by omega⟩ (by omega)) (b9.rf r2 ⟨by omega, by omega⟩ (by omega)) bN bD' (by omega), ?_⟩
      rintro q M3 ⟨rfl, g3, r3⟩
      have hS3 := hS2.rf r3
      refine k_Mo_findPushes_80 _ _ _ _ _ _ _ _ ?_
      simp (disch := omega) only [↓w_nil, ↓w_cons, ↓w_ald0, ↓w_gf2_20, ↓w_ild1, ↓w_ic, ↓w_cv2, true_and, and_true, true_implies, false_implies, not_true_eq_false, not_false_eq_true, Int.reduceEq, Int.reduceLT, Int.reduceLE, Int.reduceNeg, w_c80, w_c8I, w_c8L, w_c8R, w_up1, w_up2, w_up3, w_tl0, c_k319, c_k320, c_k321, c_k322, c_k323, c_k324, c_k325, c_k326, c_k327, c_k328, c_k329, c_k330, c_k331, c_k332, c_k333, c_k334, c_k335, c_k336, c_k337, c_k338, c_k339, c_k340, c_k341, c_k342, c_k343, c_k344, c_k345, c_k346, c_k347, hS3.r319_0, hS3.r319_1, hS3.r319_2, hS3.r319_3, hS3.r319_4, hS3.r319_5, hS3.r319_6, hS3.r319_8, hS3.r319_9, hS3.r319_10, hS3.r319_11, hS3.r319_12, hS3.r319_13, hS3.r319_14, hS3.r319_15, hS3.r319_16, hS3.r319_17, hS3.r319_20, hS3.r319_21, hS3.r319_22, hS3.r319_23, hS3.r319_24, hS3.r319_25, hS3.r319_26, hS3.r319_29, hS3.r319_30, hS3.r319_31, hS3.r319_32, w_sf1, w_sf3]
      repeat refine And.intro (by first | assumption | exact IsW.kt (by assumption) | omega | (unfold in32; omega) | (unfold in64; omega) | exact True.intro | exact Or.inl True.intro | exact Or.inr True.intro | rfl | exact Nat.le_of_ble_eq_true rfl) ?_
      try first | done | assumption | (unfold in32; omega) | (unfold in64; omega)
      refine ⟨_, p_Mo_compares hS3 ⟨by omega, by omega⟩ ⟨by omega, by omega⟩ (g2.rf r3 ⟨by omega, by omega⟩ (by omega)) g3, ?_⟩
      rintro q M4 ⟨rfl, rfl⟩
      have c32 : in32 (cw_cm (N' * D) (N * D')) := cm_32
      have o3 : ∀ a : Int, ¬ (320 ≤ a ∧ a ≤ 323) → M4 a = M1 a := fun a y => by rw [r3.1 a y, r2.1 a y]
      have s3 : ∀ s : Int, 2 ≤ s → s < 100 → sR M1 M4 s := fun s x y => (sr_rf r2 ⟨by omega, by omega⟩ (by omega)).tr (sr_rf r3 ⟨by omega, by omega⟩ (by omega))
      have G4 : Gq M (cw_up M4 337 i (cw_cm (N' * D) (N * D'))) := by
        have G3 := G1.tr ((gq_rf hS1 r2).tr (gq_rf hS2 r3))
        exact ⟨G3.1.up (rs_k c_k337 (by decide)), fun a k x y z => by rw [cw_up_ne (by omega)]; exact G3.2 a k x y z⟩
      have s4 : ∀ s : Int, 2 ≤ s → s < 100 → sR M1 (cw_up M4 337 i (cw_cm (N' * D) (N * D'))) s := fun s x y => (s3 s x y).tr (sr_up (by omega))
      refine k_Mo_findPushes_91 _ _ _ _ _ _ _ _ ?_
      simp (disch := omega) only [↓w_nil, ↓w_cons, ↓w_iast, ↓w_inc1, ↓w_goto, true_and, and_true, true_implies, false_implies, not_true_eq_false, not_false_eq_true, Int.reduceEq, Int.reduceLT, Int.reduceLE, Int.reduceNeg, w_nlI, w_nlL, w_nlR, w_up1, w_up2, w_up3, w_tl1, c_k319, c_k320, c_k321, c_k322, c_k323, c_k324, c_k325, c_k326, c_k327, c_k328, c_k329, c_k330, c_k331, c_k332, c_k333, c_k334, c_k335, c_k336, c_k337, c_k338, c_k339, c_k340, c_k341, c_k342, c_k343, c_k344, c_k345, c_k346, c_k347, hS3.r319_0, hS3.r319_1, hS3.r319_2, hS3.r319_3, hS3.r319_4, hS3.r319_5, hS3.r319_6, hS3.r319_8, hS3.r319_9, hS3.r319_10, hS3.r319_11, hS3.r319_12, hS3.r319_13, hS3.r319_14, hS3.r319_15, hS3.r319_16, hS3.r319_17, hS3.r319_20, hS3.r319_21, hS3.r319_22, hS3.r319_23, hS3.r319_24, hS3.r319_25, hS3.r319_26, hS3.r319_29, hS3.r319_30, hS3.r319_31, hS3.r319_32, w_sf1, w_sf3]
      repeat refine And.intro (by first | assumption | exact IsW.kt (by assumption) | omega | (unfold in32; omega) | (unfold in64; omega) | exact True.intro | exact Or.inl True.intro | exact Or.inr True.intro | rfl | exact Nat.le_of_ble_eq_true rfl) ?_
      try first | done | assumption | (unfold in32; omega) | (unfold in64; omega)
      refine ih (i + 1) _ _ (by omega) G4 ⟨s1.1.tr (s4 6 (by omega) (by omega)), s1.2.tr (s4 7 (by omega) (by omega))⟩ (by rw [cw_up_ne (by omega), o3 319 (by omega)]; exact z18) (by rw [cw_up_ne (by omega), o3 319 (by omega)]; exact z19) (fun t x y => (hF t x y).sm (s4 _ (by omega) (by omega)) (s4 _ (by omega) (by omega))) (fun t x y => ?_)
      by_cases q : t = i
      · subst q
        exact ⟨A, W, A', W', hU, hU', by rw [w_up1, cm_sg, sg]⟩
      · obtain ⟨a, b, c, d, e1, e2, e3⟩ := hp t x (by omega)
        exact ⟨a, b, c, d, e1, e2, by rw [w_up2 (by omega), o3 337 (by omega)]; exact e3⟩
  have first : ∀ (d i : Nat) (M1 : cw_M) (z : cw_V), i + d = 24 → Gq M M1 → (sR M M1 6 ∧ sR M M1 7) → M1 324 = f → Mt M1 T → (0 < i → M1 319 18 = 0) → M1 319 19 = M 319 19 → (∀ t : Int, 0 ≤ t → t < i → Ft f T t M1) →
      mJ g y_Mo_findPushes 2 [.inr (.inr 319), .inl (i : Int), z] [] M1 (cw_hide (fun q M' => q = none ∧ P_pv f T (M' 337) ∧ Gq M M' ∧ m_ok f M' ∧ (sR M M' 6 ∧ sR M M' 7))) := by
    intro d
    induction d with
    | zero =>
      intro i M1 z hi G1 s1 f1 mt1 z18 z19 hF
      have ei : i = 24 := by omega
      subst ei
      refine k_Mo_findPushes_2 _ _ _ _ _ _ _ _ ?_
      simp (disch := omega) only [↓w_nil, ↓w_cons, ↓w_ild1, ↓w_ic, ↓w_icge, true_and, and_true, true_implies, false_implies, not_true_eq_false, not_false_eq_true, Int.reduceEq, Int.reduceLT, Int.reduceLE, Int.reduceNeg, w_up1, w_up2, w_up3]
      repeat refine And.intro (by first | assumption | exact IsW.kt (by assumption) | omega | (unfold in32; omega) | (unfold in64; omega) | exact True.intro | exact Or.inl True.intro | exact Or.inr True.intro | rfl | exact Nat.le_of_ble_eq_true rfl) ?_
      try first | done | assumption | (unfold in32; omega) | (unfold in64; omega)
      refine ⟨fun _ => ?_, fun h => absurd h (by omega)⟩
      refine k_Mo_findPushes_39 _ _ _ _ _ _ _ _ ?_
      simp (disch := omega) only [↓w_nil, ↓w_cons, ↓w_ic, ↓w_ist1, ↓w_fall, true_and, and_true, true_implies, false_implies, not_true_eq_false, not_false_eq_true, Int.reduceEq, Int.reduceLT, Int.reduceLE, Int.reduceNeg, w_nlI, w_nlL, w_nlR, w_up1, w_up2, w_up3]
      repeat refine And.intro (by first | assumption | exact IsW.kt (by assumption) | omega | (unfold in32; omega) | (unfold in64; omega) | exact True.intro | exact Or.inl True.intro | exact Or.inr True.intro | rfl | exact Nat.le_of_ble_eq_true rfl) ?_
      try first | done | assumption | (unfold in32; omega) | (unfold in64; omega)
      exact second 24 0 M1 _ rfl G1 s1 (z18 (by omega)) z19 hF (fun t x y => absurd y (by omega))
    | succ d ih =>
      intro i M1 z hi G1 s1 f1 mt1 z18 z19 hF
      have hS1 := G1.1
      have i24 : (i : Int) < 24 := by omega
      have i0 : (0 : Int) ≤ i := by omega
      refine k_Mo_findPushes_2 _ _ _ _ _ _ _ _ ?_
      simp (disch := omega) only [↓w_nil, ↓w_cons, ↓w_ild1, ↓w_ic, ↓w_icge, true_and, and_true, true_implies, false_implies, not_true_eq_false, not_false_eq_true, Int.reduceEq, Int.reduceLT, Int.reduceLE, Int.reduceNeg, w_up1, w_up2, w_up3]
      repeat refine And.intro (by first | assumption | exact IsW.kt (by assumption) | omega | (unfold in32; omega) | (unfold in64; omega) | exact True.intro | exact Or.inl True.intro | exact Or.inr True.intro | rfl | exact Nat.le_of_ble_eq_true rfl) ?_
      try first | done | assumption | (unfold in32; omega) | (unfold in64; omega)
      intro _
      refine k_Mo_findPushes_8 _ _ _ _ _ _ _ _ ?_
      simp (disch := omega) only [↓w_nil, ↓w_cons, ↓w_ald0, ↓w_ild1, ↓w_cv1, true_and, and_true, true_implies, false_implies, not_true_eq_false, not_false_eq_true, Int.reduceEq, Int.reduceLT, Int.reduceLE, Int.reduceNeg, w_c80, w_c8I, w_c8L, w_c8R, w_up1, w_up2, w_up3]
      repeat refine And.intro (by first | assumption | exact IsW.kt (by assumption) | omega | (unfold in32; omega) | (unfold in64; omega) | exact True.intro | exact Or.inl True.intro | exact Or.inr True.intro | rfl | exact Nat.le_of_ble_eq_true rfl) ?_
      try first | done | assumption | (unfold in32; omega) | (unfold in64; omega)
      refine ⟨_, p_Mo_storesAt hS1 f1 hW mt1 hk ⟨i0, i24⟩, ?_⟩
      rintro q M2 ⟨rfl, ⟨N, D, A, W, hU, W0, D0, hr, a8, a9, bN, bD⟩, G2, f2, mt2, z2, y2, s2⟩
      have hS2 := G2.1
      refine k_Mo_findPushes_13 _ _ _ _ _ _ _ _ ?_
      simp (disch := omega) only [↓w_nil, ↓w_cons, ↓w_ald0, ↓w_ic, ↓w_ild1, ↓w_iadd, ↓w_cv2, true_and, and_true, true_implies, false_implies, not_true_eq_false, not_false_eq_true, Int.reduceEq, Int.reduceLT, Int.reduceLE, Int.reduceNeg, w_c80, w_c8I, w_c8L, w_c8R, w_up1, w_up2, w_up3, w_tl0]
      repeat refine And.intro (by first | assumption | exact IsW.kt (by assumption) | omega | (unfold in32; omega) | (unfold in64; omega) | exact True.intro | exact Or.inl True.intro | exact Or.inr True.intro | rfl | exact Nat.le_of_ble_eq_true rfl) ?_
      try first | done | assumption | (unfold in32; omega) | (unfold in64; omega)
      refine ⟨_, p_Mo_copies hS2 (v := N) ⟨by omega, by omega⟩ ⟨by omega, by omega⟩ a8, ?_⟩
      rintro q M3 ⟨rfl, g3, r3⟩
      have hS3 := hS2.rf r3
      refine k_Mo_findPushes_23 _ _ _ _ _ _ _ _ ?_
      simp (disch := omega) only [↓w_nil, ↓w_cons, ↓w_ald0, ↓w_ic, ↓w_ild1, ↓w_iadd, ↓w_cv2, true_and, and_true, true_implies, false_implies, not_true_eq_false, not_false_eq_true, Int.reduceEq, Int.reduceLT, Int.reduceLE, Int.reduceNeg, w_c80, w_c8I, w_c8L, w_c8R, w_up1, w_up2, w_up3, w_tl0]
      repeat refine And.intro (by first | assumption | exact IsW.kt (by assumption) | omega | (unfold in32; omega) | (unfold in64; omega) | exact True.intro | exact Or.inl True.intro | exact Or.inr True.intro | rfl | exact Nat.le_of_ble_eq_true rfl) ?_
      try first | done | assumption | (unfold in32; omega) | (unfold in64; omega)
      refine ⟨_, p_Mo_copies hS3 (v := D) ⟨by omega, by omega⟩ ⟨by omega, by omega⟩ (a9.rf r3 ⟨by omega, by omega⟩ (by omega)), ?_⟩
      rintro q M4 ⟨rfl, g4, r4⟩
      have o4 : ∀ a : Int, ¬ (320 ≤ a ∧ a ≤ 323) → M4 a = M2 a := fun a y => by rw [r4.1 a y, r3.1 a y]
      have sk : ∀ s : Int, Ks s → s ≠ 32 + i → s ≠ 60 + i → sR M1 M4 s := fun s hs x y => by
        have hs' : (3 ≤ s ∧ s ≤ 7) ∨ s = 10 ∨ s = 11 ∨ (32 ≤ s ∧ s < 92) := hs
        exact ((s2 s hs).tr (sr_rf r3 ⟨by omega, by omega⟩ (by omega))).tr (sr_rf r4 ⟨by omega, by omega⟩ (by omega))
      have k67 : ∀ s : Int, s = 6 ∨ s = 7 → sR M1 M4 s := fun s hs => sk s (Or.inl (by omega)) (by omega) (by omega)
      refine k_Mo_findPushes_33 _ _ _ _ _ _ _ _ ?_
      simp (disch := omega) only [↓w_nil, ↓w_cons, ↓w_inc1, ↓w_goto, true_and, and_true, true_implies, false_implies, not_true_eq_false, not_false_eq_true, Int.reduceEq, Int.reduceLT, Int.reduceLE, Int.reduceNeg, w_nlI, w_nlL, w_nlR, w_up1, w_up2, w_up3, w_tl0]
      repeat refine And.intro (by first | assumption | exact IsW.kt (by assumption) | omega | (unfold in32; omega) | (unfold in64; omega) | exact True.intro | exact Or.inl True.intro | exact Or.inr True.intro | rfl | exact Nat.le_of_ble_eq_true rfl) ?_
      try first | done | assumption | (unfold in32; omega) | (unfold in64; omega)
      refine ih (i + 1) M4 _ (by omega) (G1.tr (G2.tr ((gq_rf hS2 r3).tr (gq_rf hS3 r4)))) ⟨s1.1.tr (k67 6 (by omega)), s1.2.tr (k67 7 (by omega))⟩ (by rw [o4 324 (by omega)]; exact f2) (mt2.cg (fun a y => o4 a (by omega))) (fun _ => by rw [o4 319 (by omega)]; exact z2) (by rw [o4 319 (by omega), y2]; exact z19) (fun t x y => ?_)
      by_cases q : t = i
      · subst q
        exact ⟨N, D, A, W, hU, W0, D0, hr, g3.rf r4 ⟨by omega, by omega⟩ (by omega), g4, bN, bD⟩
      · have k1 : Ks (32 + t) := Or.inr (Or.inr (Or.inr (by omega)))
        have k2 : Ks (60 + t) := Or.inr (Or.inr (Or.inr (by omega)))
        exact (hF t x (by omega)).sm (sk _ k1 (by omega) (by omega)) (sk _ k2 (by omega) (by omega))
  refine k_Mo_findPushes_0 _ _ _ _ _ _ _ _ ?_
  simp (disch := omega) only [↓w_nil, ↓w_cons, ↓w_ic, ↓w_ist1, ↓w_fall, true_and, and_true, true_implies, false_implies, not_true_eq_false, not_false_eq_true, Int.reduceEq, Int.reduceLT, Int.reduceLE, Int.reduceNeg, w_nlI, w_nlL, w_nlR, w_up1, w_up2, w_up3]
  repeat refine And.intro (by first | assumption | exact IsW.kt (by assumption) | omega | (unfold in32; omega) | (unfold in64; omega) | exact True.intro | exact Or.inl True.intro | exact Or.inr True.intro | rfl | exact Nat.le_of_ble_eq_true rfl) ?_
  try first | done | assumption | (unfold in32; omega) | (unfold in64; omega)
  exact first 24 0 M _ rfl (Gq.rf hS) ⟨sR.rf, sR.rf⟩ hf hT (fun y => absurd y (by omega)) rfl (fun t x y => absurd y (by omega))
def P_sv (f : Int → Int) (u : Int) (T : Tr) (v : Int) : Prop := ∃ pu : Int → Int, P_pv f T pu ∧ v = k_or (s_bt u pu) 24
theorem d_still {g : cw_G} {M : cw_M} {f fl : Int → Int} {n : Int} {u : Int} (hS : Sh M) (hf : M 324 = f) (hW : WF n f fl) (hok : m_ok f M) (hk : ∀ T, g_of f = .inr T → Tk f T) (hu : in32 u) :
    mC g y_Mo_still [.inr (.inr 319), .inl u] M (fun r M' => (¬ (0 ≤ u ∧ u ≤ 1) ∧ r = some (.inl (-2)) ∧ M' = M) ∨ ((0 ≤ u ∧ u ≤ 1) ∧ FrJ f (P_sv f u) M r M')) := by
  refine cw_C_of (L := [.inr (.inr 319), .inl u, cU, cU, cU, cU]) ok_Mo_still (Nat.le_refl _) (Nat.le_of_ble_eq_true rfl) rfl ?_
  refine cw_J_hide ?_
  refine k_Mo_still_0 _ _ _ _ _ _ _ _ ?_
  simp (disch := omega) only [↓w_nil, ↓w_cons, ↓w_ild1, ↓w_i2l, ↓w_lc, ↓w_cs3, true_and, and_true, true_implies, false_implies, not_true_eq_false, not_false_eq_true, Int.reduceEq, Int.reduceLT, Int.reduceLE, Int.reduceNeg, w_c80, w_c8I, w_c8L, w_c8R, w_up1, w_up2, w_up3]
  repeat refine And.intro (by first | assumption | exact IsW.kt (by assumption) | omega | (unfold in32; omega) | (unfold in64; omega) | exact True.intro | exact Or.inl True.intro | exact Or.inr True.intro | rfl | exact Nat.le_of_ble_eq_true rfl) ?_
  try first | done | assumption | (unfold in32; omega) | (unfold in64; omega)
  refine ⟨_, cw_bool (p_Mo_in (by unfold in64; unfold in32 at hu; omega) (by unfold in64; omega) (by unfold in64; omega)), ?_⟩
  rintro q M9 ⟨⟨rfl, hb⟩ | ⟨rfl, hb⟩, rfl⟩
  · refine k_Mo_still_7 _ _ _ _ _ _ _ _ ?_
    simp (disch := omega) only [↓w_nil, ↓w_ifne, true_and, and_true, true_implies, false_implies, not_true_eq_false, not_false_eq_true, Int.reduceEq, Int.reduceLT, Int.reduceLE, Int.reduceNeg, w_up1, w_up2, w_up3, w_tl1]
    repeat refine And.intro (by first | assumption | exact IsW.kt (by assumption) | omega | (unfold in32; omega) | (unfold in64; omega) | exact True.intro | exact Or.inl True.intro | exact Or.inr True.intro | rfl | exact Nat.le_of_ble_eq_true rfl) ?_
    try first | done | assumption | (unfold in32; omega) | (unfold in64; omega)
    refine k_Mo_still_13 _ _ _ _ _ _ _ _ ?_
    simp (disch := omega) only [↓w_nil, ↓w_cons, ↓w_ald0, ↓w_cv0, true_and, and_true, true_implies, false_implies, not_true_eq_false, not_false_eq_true, Int.reduceEq, Int.reduceLT, Int.reduceLE, Int.reduceNeg, w_c80, w_c8I, w_c8L, w_c8R, w_up1, w_up2, w_up3]
    repeat refine And.intro (by first | assumption | exact IsW.kt (by assumption) | omega | (unfold in32; omega) | (unfold in64; omega) | exact True.intro | exact Or.inl True.intro | exact Or.inr True.intro | rfl | exact Nat.le_of_ble_eq_true rfl) ?_
    try first | done | assumption | (unfold in32; omega) | (unfold in64; omega)
    refine ⟨_, p_Mo_find hS hf hW hok hk, ?_⟩
    rintro q M1 ⟨G1, ok1, k1, ⟨e, he, rfl⟩ | ⟨T, hT, rfl, hat⟩⟩
    · refine k_Mo_still_17 _ _ _ _ _ _ _ _ ?_
      simp (disch := omega) only [↓w_nil, ↓w_ifne, true_and, and_true, true_implies, false_implies, not_true_eq_false, not_false_eq_true, Int.reduceEq, Int.reduceLT, Int.reduceLE, Int.reduceNeg, w_up1, w_up2, w_up3, w_tl1]
      repeat refine And.intro (by first | assumption | exact IsW.kt (by assumption) | omega | (unfold in32; omega) | (unfold in64; omega) | exact True.intro | exact Or.inl True.intro | exact Or.inr True.intro | rfl | exact Nat.le_of_ble_eq_true rfl) ?_
      try first | done | assumption | (unfold in32; omega) | (unfold in64; omega)
      refine k_Mo_still_20 _ _ _ _ _ _ _ _ ?_
      simp (disch := omega) only [↓w_nil, ↓w_cons, ↓w_ic, ↓w_iret, true_and, and_true, true_implies, false_implies, not_true_eq_false, not_false_eq_true, Int.reduceEq, Int.reduceLT, Int.reduceLE, Int.reduceNeg, w_up1, w_up2, w_up3]
      repeat refine And.intro (by first | assumption | exact IsW.kt (by assumption) | omega | (unfold in32; omega) | (unfold in64; omega) | exact True.intro | exact Or.inl True.intro | exact Or.inr True.intro | rfl | exact Nat.le_of_ble_eq_true rfl) ?_
      try first | done | assumption | (unfold in32; omega) | (unfold in64; omega)
      exact Or.inr ⟨hb, G1, ok1, ⟨k1 6 (Or.inl (by omega)), k1 7 (Or.inl (by omega))⟩, Or.inl ⟨e, he, rfl⟩⟩
    · have hS1 := G1.1
      have tk := hk T hT
      have f1 : M1 324 = f := by rw [G1.row (by omega) (by omega) (by omega)]; exact hf
      refine k_Mo_still_17 _ _ _ _ _ _ _ _ ?_
      simp (disch := omega) only [↓w_nil, ↓w_ifne, true_and, and_true, true_implies, false_implies, not_true_eq_false, not_false_eq_true, Int.reduceEq, Int.reduceLT, Int.reduceLE, Int.reduceNeg, w_up1, w_up2, w_up3, w_tl1]
      repeat refine And.intro (by first | assumption | exact IsW.kt (by assumption) | omega | (unfold in32; omega) | (unfold in64; omega) | exact True.intro | exact Or.inl True.intro | exact Or.inr True.intro | rfl | exact Nat.le_of_ble_eq_true rfl) ?_
      try first | done | assumption | (unfold in32; omega) | (unfold in64; omega)
      refine k_Mo_still_23 _ _ _ _ _ _ _ _ ?_
      simp (disch := omega) only [↓w_nil, ↓w_cons, ↓w_ald0, ↓w_cv0, true_and, and_true, true_implies, false_implies, not_true_eq_false, not_false_eq_true, Int.reduceEq, Int.reduceLT, Int.reduceLE, Int.reduceNeg, w_c80, w_c8I, w_c8L, w_c8R, w_up1, w_up2, w_up3]
      repeat refine And.intro (by first | assumption | exact IsW.kt (by assumption) | omega | (unfold in32; omega) | (unfold in64; omega) | exact True.intro | exact Or.inl True.intro | exact Or.inr True.intro | rfl | exact Nat.le_of_ble_eq_true rfl) ?_
      try first | done | assumption | (unfold in32; omega) | (unfold in64; omega)
      refine ⟨_, p_Mo_findPushes hS1 f1 hW hat.1 tk ok1.2, ?_⟩
      rintro q M2 ⟨rfl, pv, G2, ok2, k2⟩
      have hS2 := G2.1
      have p32 : ∀ t : Int, 0 ≤ t → t < 24 → in32 (M2 337 t) := fun t a b => by
        obtain ⟨_, _, _, _, _, _, e⟩ := pv t a b
        rw [e]; exact sg32 _
      have loop : ∀ (d i : Nat) (z4 z5 : cw_V), i + d = 24 →
          mJ g y_Mo_still 31 [.inr (.inr 319), .inl u, .inl (k_or (s_bt u (M2 337)) i), .inl (i : Int), z4, z5] [] M2 (cw_hide (fun r M' => (¬ (0 ≤ u ∧ u ≤ 1) ∧ r = some (.inl (-2)) ∧ M' = M9) ∨ ((0 ≤ u ∧ u ≤ 1) ∧ FrJ f (P_sv f u) M9 r M'))) := by
        intro d
        induction d with
        | zero =>
          intro i z4 z5 hi
          have ei : i = 24 := by omega
          subst ei
          have o32 := kor_32 (h := s_bt u (M2 337)) 24
          refine k_Mo_still_31 _ _ _ _ _ _ _ _ ?_
          simp (disch := omega) only [↓w_nil, ↓w_cons, ↓w_ild3, ↓w_ic, ↓w_icge, true_and, and_true, true_implies, false_implies, not_true_eq_false, not_false_eq_true, Int.reduceEq, Int.reduceLT, Int.reduceLE, Int.reduceNeg, w_up1, w_up2, w_up3]
          repeat refine And.intro (by first | assumption | exact IsW.kt (by assumption) | omega | (unfold in32; omega) | (unfold in64; omega) | exact True.intro | exact Or.inl True.intro | exact Or.inr True.intro | rfl | exact Nat.le_of_ble_eq_true rfl) ?_
          try first | done | assumption | (unfold in32; omega) | (unfold in64; omega)
          refine ⟨fun _ => ?_, fun h => absurd h (by omega)⟩
          refine k_Mo_still_119 _ _ _ _ _ _ _ _ ?_
          simp (disch := omega) only [↓w_nil, ↓w_cons, ↓w_ild2, ↓w_iret, true_and, and_true, true_implies, false_implies, not_true_eq_false, not_false_eq_true, Int.reduceEq, Int.reduceLT, Int.reduceLE, Int.reduceNeg, w_up1, w_up2, w_up3]
          repeat refine And.intro (by first | assumption | exact IsW.kt (by assumption) | omega | (unfold in32; omega) | (unfold in64; omega) | exact True.intro | exact Or.inl True.intro | exact Or.inr True.intro | rfl | exact Nat.le_of_ble_eq_true rfl) ?_
          try first | done | assumption | (unfold in32; omega) | (unfold in64; omega)
          exact Or.inr ⟨hb, G1.tr G2, ok2, ⟨(k1 6 (Or.inl (by omega))).tr k2.1, (k1 7 (Or.inl (by omega))).tr k2.2⟩, Or.inr ⟨T, hT, _, ⟨M2 337, pv, rfl⟩, o32, rfl⟩⟩
        | succ d ih =>
          intro i z4 z5 hi
          have i24 : (i : Int) < 24 := by omega
          have i0 : (0 : Int) ≤ i := by omega
          have e23 : (i : Int) + 24 - 1 = i + 23 := by omega
          have u0 : 0 ≤ ((i : Int) + 23).tmod 24 ∧ ((i : Int) + 23).tmod 24 < 24 := ⟨Int.tmod_nonneg 24 (by omega), Int.tmod_lt_of_pos _ (by omega)⟩
          have q1 := p32 i i0 i24
          have q2 := p32 _ u0.1 u0.2
          have o32 := kor_32 (h := s_bt u (M2 337)) i
          have sm : k_or (s_bt u (M2 337)) (i + 1) = cw_or32 (k_or (s_bt u (M2 337)) i) (s_bt u (M2 337) i) := rfl
          have step : ∀ (c : Int) (z5 : cw_V), c = 0 ∨ c = 1 → c = s_cd u (M2 337 i) (M2 337 (((i : Int) + 23).tmod 24)) →
              mJ g y_Mo_still 96 [.inr (.inr 319), .inl u, .inl (k_or (s_bt u (M2 337)) i), .inl (i : Int), .inl (M2 337 (((i : Int) + 23).tmod 24)), z5] [.inl c] M2 (cw_hide (fun r M' => (¬ (0 ≤ u ∧ u ≤ 1) ∧ r = some (.inl (-2)) ∧ M' = M9) ∨ ((0 ≤ u ∧ u ≤ 1) ∧ FrJ f (P_sv f u) M9 r M'))) := by
            rintro c z5 (rfl | rfl) hc
            · refine k_Mo_still_96 _ _ _ _ _ _ _ _ ?_
              simp (disch := omega) only [↓w_nil, ↓w_cons, ↓w_ist5, ↓w_ild2, ↓w_ild5, ↓w_ifeq, true_and, and_true, true_implies, false_implies, not_true_eq_false, not_false_eq_true, Int.reduceEq, Int.reduceLT, Int.reduceLE, Int.reduceNeg, w_nlI, w_nlL, w_nlR, w_up1, w_up2, w_up3]
              repeat refine And.intro (by first | assumption | exact IsW.kt (by assumption) | omega | (unfold in32; omega) | (unfold in64; omega) | exact True.intro | exact Or.inl True.intro | exact Or.inr True.intro | rfl | exact Nat.le_of_ble_eq_true rfl) ?_
              try first | done | assumption | (unfold in32; omega) | (unfold in64; omega)
              refine k_Mo_still_110 _ _ _ _ _ _ _ _ ?_
              simp (disch := omega) only [↓w_nil, ↓w_cons, ↓w_ic, ↓w_fall, true_and, and_true, true_implies, false_implies, not_true_eq_false, not_false_eq_true, Int.reduceEq, Int.reduceLT, Int.reduceLE, Int.reduceNeg, w_up1, w_up2, w_up3]
              repeat refine And.intro (by first | assumption | exact IsW.kt (by assumption) | omega | (unfold in32; omega) | (unfold in64; omega) | exact True.intro | exact Or.inl True.intro | exact Or.inr True.intro | rfl | exact Nat.le_of_ble_eq_true rfl) ?_
              try first | done | assumption | (unfold in32; omega) | (unfold in64; omega)
              refine k_Mo_still_111 _ _ _ _ _ _ _ _ ?_
              simp (disch := omega) only [↓w_nil, ↓w_cons, ↓w_ior, ↓w_ist2, ↓w_inc3, ↓w_goto, true_and, and_true, true_implies, false_implies, not_true_eq_false, not_false_eq_true, Int.reduceEq, Int.reduceLT, Int.reduceLE, Int.reduceNeg, w_nlI, w_nlL, w_nlR, w_up1, w_up2, w_up3]
              repeat refine And.intro (by first | assumption | exact IsW.kt (by assumption) | omega | (unfold in32; omega) | (unfold in64; omega) | exact True.intro | exact Or.inl True.intro | exact Or.inr True.intro | rfl | exact Nat.le_of_ble_eq_true rfl) ?_
              try first | done | assumption | (unfold in32; omega) | (unfold in64; omega)
              have e : s_bt u (M2 337) i = 0 := by unfold s_bt; rw [e23]; exact if_neg (by omega)
              have := ih (i + 1) (.inl (M2 337 (((i : Int) + 23).tmod 24))) (.inl 0) (by omega)
              rw [sm, e] at this
              exact this
            · refine k_Mo_still_96 _ _ _ _ _ _ _ _ ?_
              simp (disch := omega) only [↓w_nil, ↓w_cons, ↓w_ist5, ↓w_ild2, ↓w_ild5, ↓w_ifeq, true_and, and_true, true_implies, false_implies, not_true_eq_false, not_false_eq_true, Int.reduceEq, Int.reduceLT, Int.reduceLE, Int.reduceNeg, w_nlI, w_nlL, w_nlR, w_up1, w_up2, w_up3]
              repeat refine And.intro (by first | assumption | exact IsW.kt (by assumption) | omega | (unfold in32; omega) | (unfold in64; omega) | exact True.intro | exact Or.inl True.intro | exact Or.inr True.intro | rfl | exact Nat.le_of_ble_eq_true rfl) ?_
              try first | done | assumption | (unfold in32; omega) | (unfold in64; omega)
              refine k_Mo_still_104 _ _ _ _ _ _ _ _ ?_
              simp (disch := omega) only [↓w_nil, ↓w_cons, ↓w_ic, ↓w_ild3, ↓w_ishl, ↓w_goto, true_and, and_true, true_implies, false_implies, not_true_eq_false, not_false_eq_true, Int.reduceEq, Int.reduceLT, Int.reduceLE, Int.reduceNeg, w_up1, w_up2, w_up3]
              repeat refine And.intro (by first | assumption | exact IsW.kt (by assumption) | omega | (unfold in32; omega) | (unfold in64; omega) | exact True.intro | exact Or.inl True.intro | exact Or.inr True.intro | rfl | exact Nat.le_of_ble_eq_true rfl) ?_
              try first | done | assumption | (unfold in32; omega) | (unfold in64; omega)
              refine k_Mo_still_111 _ _ _ _ _ _ _ _ ?_
              simp (disch := omega) only [↓w_nil, ↓w_cons, ↓w_ior, ↓w_ist2, ↓w_inc3, ↓w_goto, true_and, and_true, true_implies, false_implies, not_true_eq_false, not_false_eq_true, Int.reduceEq, Int.reduceLT, Int.reduceLE, Int.reduceNeg, w_nlI, w_nlL, w_nlR, w_up1, w_up2, w_up3]
              repeat refine And.intro (by first | assumption | exact IsW.kt (by assumption) | omega | (unfold in32; omega) | (unfold in64; omega) | exact True.intro | exact Or.inl True.intro | exact Or.inr True.intro | rfl | exact Nat.le_of_ble_eq_true rfl) ?_
              try first | done | assumption | (unfold in32; omega) | (unfold in64; omega)
              have e : s_bt u (M2 337) i = 1 * 2 ^ (i : Int).toNat := by unfold s_bt; rw [e23]; exact if_pos (by omega)
              have := ih (i + 1) (.inl (M2 337 (((i : Int) + 23).tmod 24))) (.inl 1) (by omega)
              rw [sm, e] at this
              exact this
          refine k_Mo_still_31 _ _ _ _ _ _ _ _ ?_
          simp (disch := omega) only [↓w_nil, ↓w_cons, ↓w_ild3, ↓w_ic, ↓w_icge, true_and, and_true, true_implies, false_implies, not_true_eq_false, not_false_eq_true, Int.reduceEq, Int.reduceLT, Int.reduceLE, Int.reduceNeg, w_up1, w_up2, w_up3]
          repeat refine And.intro (by first | assumption | exact IsW.kt (by assumption) | omega | (unfold in32; omega) | (unfold in64; omega) | exact True.intro | exact Or.inl True.intro | exact Or.inr True.intro | rfl | exact Nat.le_of_ble_eq_true rfl) ?_
          try first | done | assumption | (unfold in32; omega) | (unfold in64; omega)
          intro _
          refine k_Mo_still_37 _ _ _ _ _ _ _ _ ?_
          simp (disch := omega) only [↓w_nil, ↓w_cons, ↓w_ald0, ↓w_gf2_20, ↓w_ild3, ↓w_ic, ↓w_iadd, ↓w_irem, ↓w_iald, ↓w_ist4, ↓w_ild1, ↓w_ifne, true_and, and_true, true_implies, false_implies, not_true_eq_false, not_false_eq_true, Int.reduceEq, Int.reduceLT, Int.reduceLE, Int.reduceNeg, w_nlI, w_nlL, w_nlR, w_up1, w_up2, w_up3, c_k319, c_k320, c_k321, c_k322, c_k323, c_k324, c_k325, c_k326, c_k327, c_k328, c_k329, c_k330, c_k331, c_k332, c_k333, c_k334, c_k335, c_k336, c_k337, c_k338, c_k339, c_k340, c_k341, c_k342, c_k343, c_k344, c_k345, c_k346, c_k347, hS2.r319_0, hS2.r319_1, hS2.r319_2, hS2.r319_3, hS2.r319_4, hS2.r319_5, hS2.r319_6, hS2.r319_8, hS2.r319_9, hS2.r319_10, hS2.r319_11, hS2.r319_12, hS2.r319_13, hS2.r319_14, hS2.r319_15, hS2.r319_16, hS2.r319_17, hS2.r319_20, hS2.r319_21, hS2.r319_22, hS2.r319_23, hS2.r319_24, hS2.r319_25, hS2.r319_26, hS2.r319_29, hS2.r319_30, hS2.r319_31, hS2.r319_32, w_sf1, w_sf3]
          repeat refine And.intro (by first | assumption | exact IsW.kt (by assumption) | omega | (unfold in32; omega) | (unfold in64; omega) | exact True.intro | exact Or.inl True.intro | exact Or.inr True.intro | rfl | exact Nat.le_of_ble_eq_true rfl) ?_
          try first | done | assumption | (unfold in32; omega) | (unfold in64; omega)
          refine ⟨fun hz => ?_, fun hz => ?_⟩
          · refine k_Mo_still_77 _ _ _ _ _ _ _ _ ?_
            simp (disch := omega) only [↓w_nil, ↓w_cons, ↓w_ald0, ↓w_gf2_20, ↓w_ild3, ↓w_iald, ↓w_ifge, true_and, and_true, true_implies, false_implies, not_true_eq_false, not_false_eq_true, Int.reduceEq, Int.reduceLT, Int.reduceLE, Int.reduceNeg, w_up1, w_up2, w_up3, c_k319, c_k320, c_k321, c_k322, c_k323, c_k324, c_k325, c_k326, c_k327, c_k328, c_k329, c_k330, c_k331, c_k332, c_k333, c_k334, c_k335, c_k336, c_k337, c_k338, c_k339, c_k340, c_k341, c_k342, c_k343, c_k344, c_k345, c_k346, c_k347, hS2.r319_0, hS2.r319_1, hS2.r319_2, hS2.r319_3, hS2.r319_4, hS2.r319_5, hS2.r319_6, hS2.r319_8, hS2.r319_9, hS2.r319_10, hS2.r319_11, hS2.r319_12, hS2.r319_13, hS2.r319_14, hS2.r319_15, hS2.r319_16, hS2.r319_17, hS2.r319_20, hS2.r319_21, hS2.r319_22, hS2.r319_23, hS2.r319_24, hS2.r319_25, hS2.r319_26, hS2.r319_29, hS2.r319_30, hS2.r319_31, hS2.r319_32, w_sf1, w_sf3]
            repeat refine And.intro (by first | assumption | exact IsW.kt (by assumption) | omega | (unfold in32; omega) | (unfold in64; omega) | exact True.intro | exact Or.inl True.intro | exact Or.inr True.intro | rfl | exact Nat.le_of_ble_eq_true rfl) ?_
            try first | done | assumption | (unfold in32; omega) | (unfold in64; omega)
            refine ⟨fun ha => ?_, fun ha => ?_⟩
            · refine k_Mo_still_95 _ _ _ _ _ _ _ _ ?_
              simp (disch := omega) only [↓w_nil, ↓w_cons, ↓w_ic, ↓w_fall, true_and, and_true, true_implies, false_implies, not_true_eq_false, not_false_eq_true, Int.reduceEq, Int.reduceLT, Int.reduceLE, Int.reduceNeg, w_up1, w_up2, w_up3]
              exact step 0 _ (Or.inl rfl) (by unfold s_cd; rw [if_neg (by omega), if_neg (by omega)])
            · refine k_Mo_still_86 _ _ _ _ _ _ _ _ ?_
              simp (disch := omega) only [↓w_nil, ↓w_cons, ↓w_ild4, ↓w_ifle, true_and, and_true, true_implies, false_implies, not_true_eq_false, not_false_eq_true, Int.reduceEq, Int.reduceLT, Int.reduceLE, Int.reduceNeg, w_up1, w_up2, w_up3]
              repeat refine And.intro (by first | assumption | exact IsW.kt (by assumption) | omega | (unfold in32; omega) | (unfold in64; omega) | exact True.intro | exact Or.inl True.intro | exact Or.inr True.intro | rfl | exact Nat.le_of_ble_eq_true rfl) ?_
              try first | done | assumption | (unfold in32; omega) | (unfold in64; omega)
              refine ⟨fun hb2 => ?_, fun hb2 => ?_⟩
              · refine k_Mo_still_95 _ _ _ _ _ _ _ _ ?_
                simp (disch := omega) only [↓w_nil, ↓w_cons, ↓w_ic, ↓w_fall, true_and, and_true, true_implies, false_implies, not_true_eq_false, not_false_eq_true, Int.reduceEq, Int.reduceLT, Int.reduceLE, Int.reduceNeg, w_up1, w_up2, w_up3]
                exact step 0 _ (Or.inl rfl) (by unfold s_cd; rw [if_neg (by omega), if_neg (by omega)])
              · refine k_Mo_still_91 _ _ _ _ _ _ _ _ ?_
                simp (disch := omega) only [↓w_nil, ↓w_cons, ↓w_ic, ↓w_goto, true_and, and_true, true_implies, false_implies, not_true_eq_false, not_false_eq_true, Int.reduceEq, Int.reduceLT, Int.reduceLE, Int.reduceNeg, w_up1, w_up2, w_up3]
                exact step 1 _ (Or.inr rfl) (by unfold s_cd; rw [if_neg (by omega), if_pos (by omega)])
          · refine k_Mo_still_55 _ _ _ _ _ _ _ _ ?_
            simp (disch := omega) only [↓w_nil, ↓w_cons, ↓w_ald0, ↓w_gf2_20, ↓w_ild3, ↓w_iald, ↓w_ifgt, true_and, and_true, true_implies, false_implies, not_true_eq_false, not_false_eq_true, Int.reduceEq, Int.reduceLT, Int.reduceLE, Int.reduceNeg, w_up1, w_up2, w_up3, c_k319, c_k320, c_k321, c_k322, c_k323, c_k324, c_k325, c_k326, c_k327, c_k328, c_k329, c_k330, c_k331, c_k332, c_k333, c_k334, c_k335, c_k336, c_k337, c_k338, c_k339, c_k340, c_k341, c_k342, c_k343, c_k344, c_k345, c_k346, c_k347, hS2.r319_0, hS2.r319_1, hS2.r319_2, hS2.r319_3, hS2.r319_4, hS2.r319_5, hS2.r319_6, hS2.r319_8, hS2.r319_9, hS2.r319_10, hS2.r319_11, hS2.r319_12, hS2.r319_13, hS2.r319_14, hS2.r319_15, hS2.r319_16, hS2.r319_17, hS2.r319_20, hS2.r319_21, hS2.r319_22, hS2.r319_23, hS2.r319_24, hS2.r319_25, hS2.r319_26, hS2.r319_29, hS2.r319_30, hS2.r319_31, hS2.r319_32, w_sf1, w_sf3]
            repeat refine And.intro (by first | assumption | exact IsW.kt (by assumption) | omega | (unfold in32; omega) | (unfold in64; omega) | exact True.intro | exact Or.inl True.intro | exact Or.inr True.intro | rfl | exact Nat.le_of_ble_eq_true rfl) ?_
            try first | done | assumption | (unfold in32; omega) | (unfold in64; omega)
            refine ⟨fun ha => ?_, fun ha => ?_⟩
            · refine k_Mo_still_73 _ _ _ _ _ _ _ _ ?_
              simp (disch := omega) only [↓w_nil, ↓w_cons, ↓w_ic, ↓w_goto, true_and, and_true, true_implies, false_implies, not_true_eq_false, not_false_eq_true, Int.reduceEq, Int.reduceLT, Int.reduceLE, Int.reduceNeg, w_up1, w_up2, w_up3]
              exact step 0 _ (Or.inl rfl) (by unfold s_cd; rw [if_pos (by omega), if_neg (by omega)])
            · refine k_Mo_still_64 _ _ _ _ _ _ _ _ ?_
              simp (disch := omega) only [↓w_nil, ↓w_cons, ↓w_ild4, ↓w_iflt, true_and, and_true, true_implies, false_implies, not_true_eq_false, not_false_eq_true, Int.reduceEq, Int.reduceLT, Int.reduceLE, Int.reduceNeg, w_up1, w_up2, w_up3]
              repeat refine And.intro (by first | assumption | exact IsW.kt (by assumption) | omega | (unfold in32; omega) | (unfold in64; omega) | exact True.intro | exact Or.inl True.intro | exact Or.inr True.intro | rfl | exact Nat.le_of_ble_eq_true rfl) ?_
              try first | done | assumption | (unfold in32; omega) | (unfold in64; omega)
              refine ⟨fun hb2 => ?_, fun hb2 => ?_⟩
              · refine k_Mo_still_73 _ _ _ _ _ _ _ _ ?_
                simp (disch := omega) only [↓w_nil, ↓w_cons, ↓w_ic, ↓w_goto, true_and, and_true, true_implies, false_implies, not_true_eq_false, not_false_eq_true, Int.reduceEq, Int.reduceLT, Int.reduceLE, Int.reduceNeg, w_up1, w_up2, w_up3]
                exact step 0 _ (Or.inl rfl) (by unfold s_cd; rw [if_pos (by omega), if_neg (by omega)])
              · refine k_Mo_still_69 _ _ _ _ _ _ _ _ ?_
                simp (disch := omega) only [↓w_nil, ↓w_cons, ↓w_ic, ↓w_goto, true_and, and_true, true_implies, false_implies, not_true_eq_false, not_false_eq_true, Int.reduceEq, Int.reduceLT, Int.reduceLE, Int.reduceNeg, w_up1, w_up2, w_up3]
                exact step 1 _ (Or.inr rfl) (by unfold s_cd; rw [if_pos (by omega), if_pos (by omega)])
      refine k_Mo_still_27 _ _ _ _ _ _ _ _ ?_
      simp (disch := omega) only [↓w_nil, ↓w_cons, ↓w_ic, ↓w_ist2, ↓w_ist3, ↓w_fall, true_and, and_true, true_implies, false_implies, not_true_eq_false, not_false_eq_true, Int.reduceEq, Int.reduceLT, Int.reduceLE, Int.reduceNeg, w_nlI, w_nlL, w_nlR, w_up1, w_up2, w_up3, w_tl0]
      repeat refine And.intro (by first | assumption | exact IsW.kt (by assumption) | omega | (unfold in32; omega) | (unfold in64; omega) | exact True.intro | exact Or.inl True.intro | exact Or.inr True.intro | rfl | exact Nat.le_of_ble_eq_true rfl) ?_
      try first | done | assumption | (unfold in32; omega) | (unfold in64; omega)
      exact loop 24 0 _ _ rfl
  · refine k_Mo_still_7 _ _ _ _ _ _ _ _ ?_
    simp (disch := omega) only [↓w_nil, ↓w_ifne, true_and, and_true, true_implies, false_implies, not_true_eq_false, not_false_eq_true, Int.reduceEq, Int.reduceLT, Int.reduceLE, Int.reduceNeg, w_up1, w_up2, w_up3, w_tl1]
    repeat refine And.intro (by first | assumption | exact IsW.kt (by assumption) | omega | (unfold in32; omega) | (unfold in64; omega) | exact True.intro | exact Or.inl True.intro | exact Or.inr True.intro | rfl | exact Nat.le_of_ble_eq_true rfl) ?_
    try first | done | assumption | (unfold in32; omega) | (unfold in64; omega)
    refine k_Mo_still_10 _ _ _ _ _ _ _ _ ?_
    simp (disch := omega) only [↓w_nil, ↓w_cons, ↓w_ic, ↓w_iret, true_and, and_true, true_implies, false_implies, not_true_eq_false, not_false_eq_true, Int.reduceEq, Int.reduceLT, Int.reduceLE, Int.reduceNeg, w_up1, w_up2, w_up3]
    repeat refine And.intro (by first | assumption | exact IsW.kt (by assumption) | omega | (unfold in32; omega) | (unfold in64; omega) | exact True.intro | exact Or.inl True.intro | exact Or.inr True.intro | rfl | exact Nat.le_of_ble_eq_true rfl) ?_
    try first | done | assumption | (unfold in32; omega) | (unfold in64; omega)
    exact Or.inl ⟨hb, rfl, rfl⟩
