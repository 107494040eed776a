/-! the reference: storesAt, differ, push, each -/
def Ks (s : Int) : Prop := (3 ≤ s ∧ s ≤ 7) ∨ s = 10 ∨ s = 11 ∨ (32 ≤ s ∧ s < 92)
theorem sr_up {M : cw_M} {a k v s : Int} (h : ¬ (320 ≤ a ∧ a ≤ 323)) : sR M (cw_up M a k v) s := ⟨by rw [cw_up_ne (by omega)], by rw [cw_up_ne (by omega)], fun j _ _ => by unfold cw_rd; rw [cw_up_ne (by omega)]⟩
theorem sr_rf {M M1 : cw_M} {R : Int → Prop} {s : Int} (h : cw_rf R M M1) (hs : IR s) (hR : ¬ R s) : sR M M1 s := h.2 s hs hR
theorem p_Mo_storesAt {g : cw_G} {M : cw_M} {f fl : Int → Int} {n t : Int} {T : Tr} (hS : Sh M) (hf : M 324 = f) (hW : WF n f fl) (hT : Mt M T) (hk : Tk f T) (ht : 0 ≤ t ∧ t < 24) :
    mC g y_Mo_storesAt [.inr (.inr 319), .inl t] M (fun q M' => q = none ∧ (∃ N D A W : Int, U_st f t T A W ∧ 0 < W ∧ 0 < D ∧ A * D = N * W ∧ RM M' 8 N ∧ RM M' 9 D ∧ cw_ab N < 1073741824 ^ 10 ∧ cw_ab D < 1073741824 ^ 5) ∧ Gq M M' ∧ M' 324 = f ∧ Mt M' T ∧ M' 319 18 = 0 ∧ M' 319 19 = M 319 19 ∧ ∀ s, Ks s → sR M M' s) := by
  have w0 := hW.1
  have e3 : M 324 3 = f 3 := by rw [hf]
  have hS1 : Sh (cw_up M 324 3 t) := hS.up (rs_k c_k324 (by decide))
  have f1 : (cw_up M 324 3 t) 324 = cw_fu f 3 t := by
    funext j
    rw [cw_up_eq, hf]; rfl
  have hW1 := wf_tn (t := t) ⟨ht.1, by omega⟩ hW
  have mt1 : Mt (cw_up M 324 3 t) T := hT.cg (fun a y => cw_up_ne (by omega))
  have tk1 : Tk (cw_fu f 3 t) T := ⟨hk.1, hk.2.1, hk.2.2.1, fun q hq => by rw [fu_o (by omega)]; exact hk.2.2.2 q hq⟩
  have ft : (cw_fu f 3 t) 3 = t := fu_a
  have hT0 : ∀ p, t_in T p → 0 ≤ p := fun p hp => (hk.2.2.2 p hp).1
  obtain ⟨kk, w, Xr, Fr, _, hr, _, _⟩ := ex_rest (t := t) hW1 ht tk1
  refine cw_C_of (L := [.inr (.inr 319), .inl t, cU]) ok_Mo_storesAt (Nat.le_refl _) (Nat.le_of_ble_eq_true rfl) rfl ?_
  refine cw_J_hide ?_
  refine k_Mo_storesAt_0 _ _ _ _ _ _ _ _ ?_
  simp (disch := omega) only [↓w_nil, ↓w_cons, ↓w_ald0, ↓w_gf2_4, ↓w_ic, ↓w_iald, ↓w_ist2, ↓w_ild1, ↓w_iast, ↓w_cv0, true_and, and_true, true_implies, false_implies, not_true_eq_false, not_false_eq_true, Int.reduceEq, Int.reduceLT, Int.reduceLE, Int.reduceNeg, w_nlI, w_nlL, w_nlR, w_c80, w_c8I, w_c8L, w_c8R, w_up1, w_up2, w_up3, e3, c_k319, c_k320, c_k321, c_k322, c_k323, c_k324, c_k325, c_k326, c_k327, c_k328, c_k329, c_k330, c_k331, c_k332, c_k333, c_k334, c_k335, c_k336, c_k337, c_k338, c_k339, c_k340, c_k341, c_k342, c_k343, c_k344, c_k345, c_k346, c_k347, hS.r319_0, hS.r319_1, hS.r319_2, hS.r319_3, hS.r319_4, hS.r319_5, hS.r319_6, hS.r319_8, hS.r319_9, hS.r319_10, hS.r319_11, hS.r319_12, hS.r319_13, hS.r319_14, hS.r319_15, hS.r319_16, hS.r319_17, hS.r319_20, hS.r319_21, hS.r319_22, hS.r319_23, hS.r319_24, hS.r319_25, hS.r319_26, hS.r319_29, hS.r319_30, hS.r319_31, hS.r319_32, w_sf1, w_sf3]
  repeat refine And.intro (by first | assumption | exact IsW.kt (by assumption) | omega | (unfold in32; omega) | (unfold in64; omega) | exact True.intro | exact Or.inl True.intro | exact Or.inr True.intro | rfl | exact Nat.le_of_ble_eq_true rfl) ?_
  try first | done | assumption | (unfold in32; omega) | (unfold in64; omega)
  refine ⟨_, p_Mo_rests hS1 f1 hW1 mt1 tk1, ?_⟩
  rintro q M2 ⟨rfl, G2, i2, X, F, htp⟩
  have hS2 := G2.1
  have f2 : M2 324 = cw_fu f 3 t := by rw [G2.2.1 324 (by omega) (by omega)]; exact f1
  have mt2 : Mt M2 T := mt1.cg (fun a y => G2.2.1 a (by omega) (by omega))
  obtain ⟨ps, tr, hall⟩ := h_all mt2 i2 tk1 htp
  have hr' : r_at (cw_fu f 3 t) ((cw_fu f 3 t) 3) T w Xr Fr := by rw [ft]; exact hr
  refine k_Mo_storesAt_18 _ _ _ _ _ _ _ _ ?_
  simp (disch := omega) only [↓w_nil, ↓w_cons, ↓w_ald0, ↓w_cv0, true_and, and_true, true_implies, false_implies, not_true_eq_false, not_false_eq_true, Int.reduceEq, Int.reduceLT, Int.reduceLE, Int.reduceNeg, w_c80, w_c8I, w_c8L, w_c8R, w_up1, w_up2, w_up3, w_tl0]
  repeat refine And.intro (by first | assumption | exact IsW.kt (by assumption) | omega | (unfold in32; omega) | (unfold in64; omega) | exact True.intro | exact Or.inl True.intro | exact Or.inr True.intro | rfl | exact Nat.le_of_ble_eq_true rfl) ?_
  try first | done | assumption | (unfold in32; omega) | (unfold in64; omega)
  refine ⟨_, p_Mo_stores hS2 f2 hW1 hall hr', ?_⟩
  rintro q M3 ⟨rfl, r3, N, D, a8, a9, lb, hND⟩
  have hS3 := hS2.rf r3
  have f3 : M3 324 = cw_fu f 3 t := by rw [r3.1 324 (by omega)]; exact f2
  have hS4 : Sh (cw_up M3 324 3 (f 3)) := hS3.up (rs_k c_k324 (by decide))
  have f4 : (cw_up M3 324 3 (f 3)) 324 = f := by
    funext j
    rw [cw_up_eq, f3]
    by_cases q : j = 3
    · rw [if_pos q, q]
    · rw [if_neg q, fu_o q]
  have o3 : ∀ a : Int, a ≠ 324 → ¬ (320 ≤ a ∧ a ≤ 323) → ¬ (331 ≤ a ∧ a ≤ 336) → M3 a = M a := fun a x y z => by rw [r3.1 a y, G2.2.1 a y z, cw_up_ne x]
  refine k_Mo_storesAt_22 _ _ _ _ _ _ _ _ ?_
  simp (disch := omega) only [↓w_nil, ↓w_cons, ↓w_ald0, ↓w_gf2_4, ↓w_ic, ↓w_ild2, ↓w_iast, ↓w_cv0, true_and, and_true, true_implies, false_implies, not_true_eq_false, not_false_eq_true, Int.reduceEq, Int.reduceLT, Int.reduceLE, Int.reduceNeg, w_c80, w_c8I, w_c8L, w_c8R, w_up1, w_up2, w_up3, w_tl0, c_k319, c_k320, c_k321, c_k322, c_k323, c_k324, c_k325, c_k326, c_k327, c_k328, c_k329, c_k330, c_k331, c_k332, c_k333, c_k334, c_k335, c_k336, c_k337, c_k338, c_k339, c_k340, c_k341, c_k342, c_k343, c_k344, c_k345, c_k346, c_k347, hS3.r319_0, hS3.r319_1, hS3.r319_2, hS3.r319_3, hS3.r319_4, hS3.r319_5, hS3.r319_6, hS3.r319_8, hS3.r319_9, hS3.r319_10, hS3.r319_11, hS3.r319_12, hS3.r319_13, hS3.r319_14, hS3.r319_15, hS3.r319_16, hS3.r319_17, hS3.r319_20, hS3.r319_21, hS3.r319_22, hS3.r319_23, hS3.r319_24, hS3.r319_25, hS3.r319_26, hS3.r319_29, hS3.r319_30, hS3.r319_31, hS3.r319_32, w_sf1, w_sf3]
  repeat refine And.intro (by first | assumption | exact IsW.kt (by assumption) | omega | (unfold in32; omega) | (unfold in64; omega) | exact True.intro | exact Or.inl True.intro | exact Or.inr True.intro | rfl | exact Nat.le_of_ble_eq_true rfl) ?_
  try first | done | assumption | (unfold in32; omega) | (unfold in64; omega)
  refine ⟨_, p_Mo_changes, ?_⟩
  rintro q M5 ⟨rfl, rfl⟩
  have bnd := lq_b lb (Nat.le_refl 7)
  have bD : cw_ab (D * 2) < 1073741824 ^ 5 := by rw [ab_mul]; exact Int.lt_trans (mul_lt2 (ab_nn _) bnd.2 (ab_nn _) (show cw_ab 2 < 3 by decide)) (by decide)
  have ww := Int.mul_pos hr.1 hr.1
  have hA : t_tl (fun p => c_a (cw_fu f 3 t) ((cw_fu f 3 t) 3) p w (Xr p)) T = t_tl (fun p => c_a f t p w (Xr p)) T := tl_cg T (fun p hp => by rw [ft]; exact ca_fu (by omega) (hT0 p hp) ht.1)
  rw [hA] at hND
  have h1 : ∃ N D A W : Int, U_st f t T A W ∧ 0 < W ∧ 0 < D ∧ A * D = N * W ∧ RM (cw_up (cw_up M3 324 3 (f 3)) 319 18 0) 8 N ∧ RM (cw_up (cw_up M3 324 3 (f 3)) 319 18 0) 9 D ∧ cw_ab N < 1073741824 ^ 10 ∧ cw_ab D < 1073741824 ^ 5 := by
    refine ⟨N, D * 2, t_tl (fun p => c_a f t p w (Xr p)) T, w * w * 2, ⟨w, Xr, Fr, at_fu (by omega) ht.1 hT0 hr, rfl, rfl⟩, by omega, by have := lb.1.1; omega, ?_, (a8.sm (sr_up (by omega))).sm (sr_up (by omega)), (a9.sm (sr_up (by omega))).sm (sr_up (by omega)), bnd.1, bD⟩
    have e : N * (w * w * 2) = N * (w * w) * 2 := by grind
    rw [e, hND]; grind
  have h2 : Gq M (cw_up (cw_up M3 324 3 (f 3)) 319 18 0) := by
    refine ⟨hS4.up (by decide +kernel), fun a k x y z => ?_⟩
    by_cases q : a = 319
    · subst q
      rw [w_up2 (fun e => z ⟨rfl, by omega⟩), cw_up_ne (by omega), o3 319 (by omega) (by omega) (by omega)]
    · rw [cw_up_ne q]
      by_cases q2 : a = 324
      · rw [q2, f4, hf]
      · rw [cw_up_ne q2, o3 a q2 x (by omega)]
  have h3 : (cw_up (cw_up M3 324 3 (f 3)) 319 18 0) 324 = f := by rw [cw_up_ne (by omega), f4]
  have h4 : Mt (cw_up (cw_up M3 324 3 (f 3)) 319 18 0) T := by
    obtain ⟨a, b, c, d⟩ := hT
    refine ⟨by rw [w_up2 (by omega), cw_up_ne (by omega), o3 319 (by omega) (by omega) (by omega)]; exact a, b, by rw [cw_up_ne (by omega), cw_up_ne (by omega), o3 327 (by omega) (by omega) (by omega)]; exact c, ?_⟩
    rw [cw_up_ne (show (327 : Int) ≠ 319 by omega), cw_up_ne (show (328 : Int) ≠ 319 by omega), cw_up_ne (show (329 : Int) ≠ 319 by omega), cw_up_ne (show (327 : Int) ≠ 324 by omega), cw_up_ne (show (328 : Int) ≠ 324 by omega), cw_up_ne (show (329 : Int) ≠ 324 by omega), o3 327 (by omega) (by omega) (by omega), o3 328 (by omega) (by omega) (by omega), o3 329 (by omega) (by omega) (by omega)]
    exact d
  have h5 : (cw_up (cw_up M3 324 3 (f 3)) 319 18 0) 319 18 = 0 := w_up1
  have h6 : (cw_up (cw_up M3 324 3 (f 3)) 319 18 0) 319 19 = M 319 19 := by rw [w_up2 (by omega), cw_up_ne (by omega), o3 319 (by omega) (by omega) (by omega)]
  have h7 : ∀ s, Ks s → sR M (cw_up (cw_up M3 324 3 (f 3)) 319 18 0) s := fun s hs => by
    have hs : (3 ≤ s ∧ s ≤ 7) ∨ s = 10 ∨ s = 11 ∨ (32 ≤ s ∧ s < 92) := hs
    exact ((((sr_up (by omega)).tr (G2.2.2 s (by omega))).tr (sr_rf r3 ⟨by omega, by omega⟩ (by unfold RS; omega))).tr (sr_up (by omega))).tr (sr_up (by omega))
  refine k_Mo_storesAt_33 _ _ _ _ _ _ _ _ ?_
  simp (disch := omega) only [↓w_nil, ↓w_vret, true_and, and_true, true_implies, false_implies, not_true_eq_false, not_false_eq_true, Int.reduceEq, Int.reduceLT, Int.reduceLE, Int.reduceNeg, w_up1, w_up2, w_up3, w_tl0]
  unfold cw_hide
  exact ⟨rfl, h1, h2, h3, h4, h5, h6, h7⟩
def Rd11 (s : Int) : Prop := (2 ≤ s ∧ s ≤ 10)
theorem p_Mo_differ {g : cw_G} {M : cw_M} {N D N' D' : Int} (hS : Sh M) (h8 : RM M 8 N') (h9 : RM M 9 D') (h10 : RM M 10 N) (h11 : RM M 11 D) (b1 : cw_ab N' < 1073741824 ^ 10 ∧ cw_ab D' < 1073741824 ^ 5 ∧ 0 < D') (b2 : cw_ab N < 1073741824 ^ 10 ∧ cw_ab D < 1073741824 ^ 5 ∧ 0 < D) :
    mC g y_Mo_differ [.inr (.inr 319)] M (fun q M' => q = some (.inl (cw_sg (N' * D + -1 * (N * D')))) ∧ RM M' 6 ((N' * D + -1 * (N * D')) / cw_gd (D' * D) (N' * D + -1 * (N * D'))) ∧ RM M' 7 ((D' * D) / cw_gd (D' * D) (N' * D + -1 * (N * D'))) ∧ cw_rf Rd11 M M') := by
  have m1 : cw_ab (N' * D) < 1073741824 ^ 15 := by
    rw [ab_mul]; exact Int.lt_of_lt_of_le (mul_lt2 (ab_nn _) b1.1 (ab_nn _) b2.2.1) (by decide)
  have m2 : cw_ab (N * D') < 1073741824 ^ 15 := by
    rw [ab_mul]; exact Int.lt_of_lt_of_le (mul_lt2 (ab_nn _) b2.1 (ab_nn _) b1.2.1) (by decide)
  have m3 : cw_ab (D' * D) < 1073741824 ^ 30 := by
    rw [ab_mul]; exact Int.lt_trans (mul_lt2 (ab_nn _) b1.2.1 (ab_nn _) b2.2.1) (by decide)
  have m4 : cw_ab (N' * D + -1 * (N * D')) < 1073741824 ^ 30 := by
    have e : (1073741824 : Int) ^ 15 + 1073741824 ^ 15 < 1073741824 ^ 30 := by decide
    have d : cw_ab (N' * D + -1 * (N * D')) ≤ cw_ab (N' * D) + cw_ab (N * D') := by unfold cw_ab; (repeat' split) <;> omega
    generalize (1073741824 : Int) ^ 15 = z at *
    generalize (1073741824 : Int) ^ 30 = y at *
    omega
  have dp := Int.mul_pos b1.2.2 b2.2.2
  refine cw_C_of (L := [.inr (.inr 319)]) ok_Mo_differ (Nat.le_refl _) (Nat.le_of_ble_eq_true rfl) rfl ?_
  refine cw_J_hide ?_
  refine k_Mo_differ_0 _ _ _ _ _ _ _ _ ?_
  simp (disch := omega) only [↓w_nil, ↓w_cons, ↓w_ald0, ↓w_ic, ↓w_cv3, true_and, and_true, true_implies, false_implies, not_true_eq_false, not_false_eq_true, Int.reduceEq, Int.reduceLT, Int.reduceLE, Int.reduceNeg, w_c80, w_c8I, w_c8L, w_c8R, w_up1, w_up2, w_up3]
  repeat refine And.intro (by first | assumption | exact IsW.kt (by assumption) | omega | (unfold in32; omega) | (unfold in64; omega) | exact True.intro | exact Or.inl True.intro | exact Or.inr True.intro | rfl | exact Nat.le_of_ble_eq_true rfl) ?_
  try first | done | assumption | (unfold in32; omega) | (unfold in64; omega)
  refine ⟨_, p_Mo_times (ia := 10) (ib := 5) hS ⟨by omega, by omega⟩ ⟨by omega, by omega⟩ ⟨by omega, by omega⟩ h8 h11 b1.1 b2.2.1 (by omega), ?_⟩
  rintro q M1 ⟨rfl, g1, r1⟩
  have hS1 := hS.rf r1
  refine k_Mo_differ_10 _ _ _ _ _ _ _ _ ?_
  simp (disch := omega) only [↓w_nil, ↓w_cons, ↓w_ald0, ↓w_ic, ↓w_cv3, true_and, and_true, true_implies, false_implies, not_true_eq_false, not_false_eq_true, Int.reduceEq, Int.reduceLT, Int.reduceLE, Int.reduceNeg, w_c80, w_c8I, w_c8L, w_c8R, w_up1, w_up2, w_up3, w_tl0]
  repeat refine And.intro (by first | assumption | exact IsW.kt (by assumption) | omega | (unfold in32; omega) | (unfold in64; omega) | exact True.intro | exact Or.inl True.intro | exact Or.inr True.intro | rfl | exact Nat.le_of_ble_eq_true rfl) ?_
  try first | done | assumption | (unfold in32; omega) | (unfold in64; omega)
  refine ⟨_, p_Mo_times (va := N) (vb := D') (ia := 10) (ib := 5) hS1 ⟨by omega, by omega⟩ ⟨by omega, by omega⟩ ⟨by omega, by omega⟩ (h10.rf r1 ⟨by omega, by omega⟩ (by omega)) (h9.rf r1 ⟨by omega, by omega⟩ (by omega)) b2.1 b1.2.1 (by omega), ?_⟩
  rintro q M2 ⟨rfl, g2, r2⟩
  have hS2 := hS1.rf r2
  refine k_Mo_differ_20 _ _ _ _ _ _ _ _ ?_
  simp (disch := omega) only [↓w_nil, ↓w_cons, ↓w_ald0, ↓w_ic, ↓w_cv4, true_and, and_true, true_implies, false_implies, not_true_eq_false, not_false_eq_true, Int.reduceEq, Int.reduceLT, Int.reduceLE, Int.reduceNeg, w_c80, w_c8I, w_c8L, w_c8R, w_up1, w_up2, w_up3, w_tl0]
  repeat refine And.intro (by first | assumption | exact IsW.kt (by assumption) | omega | (unfold in32; omega) | (unfold in64; omega) | exact True.intro | exact Or.inl True.intro | exact Or.inr True.intro | rfl | exact Nat.le_of_ble_eq_true rfl) ?_
  try first | done | assumption | (unfold in32; omega) | (unfold in64; omega)
  refine ⟨_, p_Mo_adds hS2 ⟨by omega, by omega⟩ ⟨by omega, by omega⟩ ⟨by omega, by omega⟩ (g1.rf r2 ⟨by omega, by omega⟩ (by omega)) g2 (Int.lt_trans m1 (by decide)) (Int.lt_trans m2 (by decide)) (Or.inr rfl), ?_⟩
  rintro q M3 ⟨rfl, g3, r3⟩
  have hS3 := hS2.rf r3
  refine k_Mo_differ_31 _ _ _ _ _ _ _ _ ?_
  simp (disch := omega) only [↓w_nil, ↓w_cons, ↓w_ald0, ↓w_ic, ↓w_cv3, true_and, and_true, true_implies, false_implies, not_true_eq_false, not_false_eq_true, Int.reduceEq, Int.reduceLT, Int.reduceLE, Int.reduceNeg, w_c80, w_c8I, w_c8L, w_c8R, w_up1, w_up2, w_up3, w_tl0]
  repeat refine And.intro (by first | assumption | exact IsW.kt (by assumption) | omega | (unfold in32; omega) | (unfold in64; omega) | exact True.intro | exact Or.inl True.intro | exact Or.inr True.intro | rfl | exact Nat.le_of_ble_eq_true rfl) ?_
  try first | done | assumption | (unfold in32; omega) | (unfold in64; omega)
  refine ⟨_, p_Mo_times (va := D') (vb := D) (ia := 5) (ib := 5) hS3 ⟨by omega, by omega⟩ ⟨by omega, by omega⟩ ⟨by omega, by omega⟩ (((h9.rf r1 ⟨by omega, by omega⟩ (by omega)).rf r2 ⟨by omega, by omega⟩ (by omega)).rf r3 ⟨by omega, by omega⟩ (by omega)) (((h11.rf r1 ⟨by omega, by omega⟩ (by omega)).rf r2 ⟨by omega, by omega⟩ (by omega)).rf r3 ⟨by omega, by omega⟩ (by omega)) b1.2.1 b2.2.1 (by omega), ?_⟩
  rintro q M4 ⟨rfl, g4, r4⟩
  have hS4 := hS3.rf r4
  refine k_Mo_differ_41 _ _ _ _ _ _ _ _ ?_
  simp (disch := omega) only [↓w_nil, ↓w_cons, ↓w_ald0, ↓w_ic, ↓w_cv2, true_and, and_true, true_implies, false_implies, not_true_eq_false, not_false_eq_true, Int.reduceEq, Int.reduceLT, Int.reduceLE, Int.reduceNeg, w_c80, w_c8I, w_c8L, w_c8R, w_up1, w_up2, w_up3, w_tl0]
  repeat refine And.intro (by first | assumption | exact IsW.kt (by assumption) | omega | (unfold in32; omega) | (unfold in64; omega) | exact True.intro | exact Or.inl True.intro | exact Or.inr True.intro | rfl | exact Nat.le_of_ble_eq_true rfl) ?_
  try first | done | assumption | (unfold in32; omega) | (unfold in64; omega)
  refine ⟨_, p_Mo_tells' hS4 (g3.rf r4 ⟨by omega, by omega⟩ (by omega)) g4 dp m4 m3, ?_⟩
  rintro q M5 ⟨rfl, g6, g7, r5⟩
  have s32 := sg32 (N' * D + -1 * (N * D'))
  have rr : cw_rf Rd11 M M5 := by
    refine rf_tr (rf_mo r1 (fun s y => ?_)) (rf_tr (rf_mo r2 (fun s y => ?_)) (rf_tr (rf_mo r3 (fun s y => ?_)) (rf_tr (rf_mo r4 (fun s y => ?_)) (rf_mo r5 (fun s y => by unfold A27 at y; unfold Rd11; omega))))) <;> (unfold Rd11; omega)
  refine k_Mo_differ_49 _ _ _ _ _ _ _ _ ?_
  simp (disch := omega) only [↓w_nil, ↓w_iret, true_and, and_true, true_implies, false_implies, not_true_eq_false, not_false_eq_true, Int.reduceEq, Int.reduceLT, Int.reduceLE, Int.reduceNeg, w_up1, w_up2, w_up3, w_tl1]
  repeat refine And.intro (by first | assumption | exact IsW.kt (by assumption) | omega | (unfold in32; omega) | (unfold in64; omega) | exact True.intro | exact Or.inl True.intro | exact Or.inr True.intro | rfl | exact Nat.le_of_ble_eq_true rfl) ?_
  try first | done | assumption | (unfold in32; omega) | (unfold in64; omega)
  all_goals first | exact rr | exact rr.2 | exact ⟨g6, g7, rr⟩
theorem d_push {g : cw_G} {M : cw_M} {f fl : Int → Int} {n : Int} {u : Int} (hS : Sh M) (hf : M 324 = f) (hW : WF n f fl) (hok : m_ok f M) (hk : ∀ T, g_of f = .inr T → Tk f T) (hu : in32 u) :
    mC g y_Mo_push [.inr (.inr 319), .inl u] M (fun r M' => (¬ (0 ≤ u ∧ u ≤ 23) ∧ r = some (.inl (-10)) ∧ M' = M) ∨ ((0 ≤ u ∧ u ≤ 23) ∧ FrM f (fun T => P_di (U_st f u T) (U_st f ((u + 1).tmod 24) T)) M r M')) := by
  have w0 := hW.1
  refine cw_C_of (L := [.inr (.inr 319), .inl u]) ok_Mo_push (Nat.le_refl _) (Nat.le_of_ble_eq_true rfl) rfl ?_
  refine cw_J_hide ?_
  refine k_Mo_push_0 _ _ _ _ _ _ _ _ ?_
  simp (disch := omega) only [↓w_nil, ↓w_cons, ↓w_ild1, ↓w_cs1, true_and, and_true, true_implies, false_implies, not_true_eq_false, not_false_eq_true, Int.reduceEq, Int.reduceLT, Int.reduceLE, Int.reduceNeg, w_c80, w_c8I, w_c8L, w_c8R, w_up1, w_up2, w_up3]
  repeat refine And.intro (by first | assumption | exact IsW.kt (by assumption) | omega | (unfold in32; omega) | (unfold in64; omega) | exact True.intro | exact Or.inl True.intro | exact Or.inr True.intro | rfl | exact Nat.le_of_ble_eq_true rfl) ?_
  try first | done | assumption | (unfold in32; omega) | (unfold in64; omega)
  refine ⟨_, cw_bool (p_Mo_isTurn hu), ?_⟩
  rintro q M9 ⟨⟨rfl, hb⟩ | ⟨rfl, hb⟩, rfl⟩
  · refine k_Mo_push_4 _ _ _ _ _ _ _ _ ?_
    simp (disch := omega) only [↓w_nil, ↓w_ifne, true_and, and_true, true_implies, false_implies, not_true_eq_false, not_false_eq_true, Int.reduceEq, Int.reduceLT, Int.reduceLE, Int.reduceNeg, w_up1, w_up2, w_up3, w_tl1]
    repeat refine And.intro (by first | assumption | exact IsW.kt (by assumption) | omega | (unfold in32; omega) | (unfold in64; omega) | exact True.intro | exact Or.inl True.intro | exact Or.inr True.intro | rfl | exact Nat.le_of_ble_eq_true rfl) ?_
    try first | done | assumption | (unfold in32; omega) | (unfold in64; omega)
    refine k_Mo_push_10 _ _ _ _ _ _ _ _ ?_
    simp (disch := omega) only [↓w_nil, ↓w_cons, ↓w_ald0, ↓w_cv0, true_and, and_true, true_implies, false_implies, not_true_eq_false, not_false_eq_true, Int.reduceEq, Int.reduceLT, Int.reduceLE, Int.reduceNeg, w_c80, w_c8I, w_c8L, w_c8R, w_up1, w_up2, w_up3]
    repeat refine And.intro (by first | assumption | exact IsW.kt (by assumption) | omega | (unfold in32; omega) | (unfold in64; omega) | exact True.intro | exact Or.inl True.intro | exact Or.inr True.intro | rfl | exact Nat.le_of_ble_eq_true rfl) ?_
    try first | done | assumption | (unfold in32; omega) | (unfold in64; omega)
    refine ⟨_, p_Mo_find hS hf hW hok hk, ?_⟩
    rintro q M1 ⟨G1, ok1, k1, ⟨e, he, rfl⟩ | ⟨T, hT, rfl, hat⟩⟩
    · refine k_Mo_push_14 _ _ _ _ _ _ _ _ ?_
      simp (disch := omega) only [↓w_nil, ↓w_ifne, true_and, and_true, true_implies, false_implies, not_true_eq_false, not_false_eq_true, Int.reduceEq, Int.reduceLT, Int.reduceLE, Int.reduceNeg, w_up1, w_up2, w_up3, w_tl1]
      repeat refine And.intro (by first | assumption | exact IsW.kt (by assumption) | omega | (unfold in32; omega) | (unfold in64; omega) | exact True.intro | exact Or.inl True.intro | exact Or.inr True.intro | rfl | exact Nat.le_of_ble_eq_true rfl) ?_
      try first | done | assumption | (unfold in32; omega) | (unfold in64; omega)
      refine k_Mo_push_17 _ _ _ _ _ _ _ _ ?_
      simp (disch := omega) only [↓w_nil, ↓w_cons, ↓w_ic, ↓w_iret, true_and, and_true, true_implies, false_implies, not_true_eq_false, not_false_eq_true, Int.reduceEq, Int.reduceLT, Int.reduceLE, Int.reduceNeg, w_up1, w_up2, w_up3]
      repeat refine And.intro (by first | assumption | exact IsW.kt (by assumption) | omega | (unfold in32; omega) | (unfold in64; omega) | exact True.intro | exact Or.inl True.intro | exact Or.inr True.intro | rfl | exact Nat.le_of_ble_eq_true rfl) ?_
      try first | done | assumption | (unfold in32; omega) | (unfold in64; omega)
      exact Or.inr ⟨hb, G1, ok1, Or.inl ⟨e, he, rfl, k1 6 (Or.inl (by omega)), k1 7 (Or.inl (by omega))⟩⟩
    · have hS1 := G1.1
      have tk := hk T hT
      have f1 : M1 324 = f := by rw [G1.row (by omega) (by omega) (by omega)]; exact hf
      have v0 : 0 ≤ (u + 1).tmod 24 ∧ (u + 1).tmod 24 < 24 := ⟨Int.tmod_nonneg 24 (by omega), Int.tmod_lt_of_pos (u + 1) (by omega)⟩
      refine k_Mo_push_14 _ _ _ _ _ _ _ _ ?_
      simp (disch := omega) only [↓w_nil, ↓w_ifne, true_and, and_true, true_implies, false_implies, not_true_eq_false, not_false_eq_true, Int.reduceEq, Int.reduceLT, Int.reduceLE, Int.reduceNeg, w_up1, w_up2, w_up3, w_tl1]
      repeat refine And.intro (by first | assumption | exact IsW.kt (by assumption) | omega | (unfold in32; omega) | (unfold in64; omega) | exact True.intro | exact Or.inl True.intro | exact Or.inr True.intro | rfl | exact Nat.le_of_ble_eq_true rfl) ?_
      try first | done | assumption | (unfold in32; omega) | (unfold in64; omega)
      refine k_Mo_push_20 _ _ _ _ _ _ _ _ ?_
      simp (disch := omega) only [↓w_nil, ↓w_cons, ↓w_ald0, ↓w_ild1, ↓w_cv1, true_and, and_true, true_implies, false_implies, not_true_eq_false, not_false_eq_true, Int.reduceEq, Int.reduceLT, Int.reduceLE, Int.reduceNeg, w_c80, w_c8I, w_c8L, w_c8R, w_up1, w_up2, w_up3]
      repeat refine And.intro (by first | assumption | exact IsW.kt (by assumption) | omega | (unfold in32; omega) | (unfold in64; omega) | exact True.intro | exact Or.inl True.intro | exact Or.inr True.intro | rfl | exact Nat.le_of_ble_eq_true rfl) ?_
      try first | done | assumption | (unfold in32; omega) | (unfold in64; omega)
      refine ⟨_, p_Mo_storesAt hS1 f1 hW hat.1 tk ⟨hb.1, by omega⟩, ?_⟩
      rintro q M2 ⟨rfl, ⟨N, D, A, W, hU, W0, D0, hr, a8, a9, bN, bD⟩, G2, f2, mt2, z2, y2, s2⟩
      have hS2 := G2.1
      refine k_Mo_push_25 _ _ _ _ _ _ _ _ ?_
      simp (disch := omega) only [↓w_nil, ↓w_cons, ↓w_ald0, ↓w_ic, ↓w_cv2, true_and, and_true, true_implies, false_implies, not_true_eq_false, not_false_eq_true, Int.reduceEq, Int.reduceLT, Int.reduceLE, Int.reduceNeg, w_c80, w_c8I, w_c8L, w_c8R, w_up1, w_up2, w_up3, w_tl0]
      repeat refine And.intro (by first | assumption | exact IsW.kt (by assumption) | omega | (unfold in32; omega) | (unfold in64; omega) | exact True.intro | exact Or.inl True.intro | exact Or.inr True.intro | rfl | exact Nat.le_of_ble_eq_true rfl) ?_
      try first | done | assumption | (unfold in32; omega) | (unfold in64; omega)
      refine ⟨_, p_Mo_copies hS2 (v := N) ⟨by omega, by omega⟩ ⟨by omega, by omega⟩ a8, ?_⟩
      rintro q M3 ⟨rfl, g3, r3⟩
      have hS3 := hS2.rf r3
      refine k_Mo_push_33 _ _ _ _ _ _ _ _ ?_
      simp (disch := omega) only [↓w_nil, ↓w_cons, ↓w_ald0, ↓w_ic, ↓w_cv2, true_and, and_true, true_implies, false_implies, not_true_eq_false, not_false_eq_true, Int.reduceEq, Int.reduceLT, Int.reduceLE, Int.reduceNeg, w_c80, w_c8I, w_c8L, w_c8R, w_up1, w_up2, w_up3, w_tl0]
      repeat refine And.intro (by first | assumption | exact IsW.kt (by assumption) | omega | (unfold in32; omega) | (unfold in64; omega) | exact True.intro | exact Or.inl True.intro | exact Or.inr True.intro | rfl | exact Nat.le_of_ble_eq_true rfl) ?_
      try first | done | assumption | (unfold in32; omega) | (unfold in64; omega)
      refine ⟨_, p_Mo_copies hS3 (v := D) ⟨by omega, by omega⟩ ⟨by omega, by omega⟩ (a9.rf r3 ⟨by omega, by omega⟩ (by omega)), ?_⟩
      rintro q M4 ⟨rfl, g4, r4⟩
      have hS4 := hS3.rf r4
      have f4 : M4 324 = f := by rw [r4.1 324 (by omega), r3.1 324 (by omega)]; exact f2
      have mt4 : Mt M4 T := mt2.cg (fun a y => by rw [r4.1 a (by omega), r3.1 a (by omega)])
      have e319 : M4 319 = M2 319 := by rw [r4.1 319 (by omega), r3.1 319 (by omega)]
      refine k_Mo_push_41 _ _ _ _ _ _ _ _ ?_
      simp (disch := omega) only [↓w_nil, ↓w_cons, ↓w_ald0, ↓w_ild1, ↓w_ic, ↓w_iadd, ↓w_irem, ↓w_cv1, true_and, and_true, true_implies, false_implies, not_true_eq_false, not_false_eq_true, Int.reduceEq, Int.reduceLT, Int.reduceLE, Int.reduceNeg, w_c80, w_c8I, w_c8L, w_c8R, w_up1, w_up2, w_up3, w_tl0]
      repeat refine And.intro (by first | assumption | exact IsW.kt (by assumption) | omega | (unfold in32; omega) | (unfold in64; omega) | exact True.intro | exact Or.inl True.intro | exact Or.inr True.intro | rfl | exact Nat.le_of_ble_eq_true rfl) ?_
      try first | done | assumption | (unfold in32; omega) | (unfold in64; omega)
      refine ⟨_, p_Mo_storesAt hS4 f4 hW mt4 tk v0, ?_⟩
      rintro q M5 ⟨rfl, ⟨N', D', A', W', hU', W0', D0', hr', b8, b9, bN', bD'⟩, G5, f5, mt5, z5, y5, s5⟩
      have hS5 := G5.1
      have g10 : RM M5 10 N := (g3.rf r4 ⟨by omega, by omega⟩ (by omega)).sm (s5 10 (Or.inr (Or.inl rfl)))
      have g11 : RM M5 11 D := g4.sm (s5 11 (Or.inr (Or.inr (Or.inl rfl))))
      refine k_Mo_push_51 _ _ _ _ _ _ _ _ ?_
      simp (disch := omega) only [↓w_nil, ↓w_cons, ↓w_ald0, ↓w_cv0, true_and, and_true, true_implies, false_implies, not_true_eq_false, not_false_eq_true, Int.reduceEq, Int.reduceLT, Int.reduceLE, Int.reduceNeg, w_c80, w_c8I, w_c8L, w_c8R, w_up1, w_up2, w_up3, w_tl0]
      repeat refine And.intro (by first | assumption | exact IsW.kt (by assumption) | omega | (unfold in32; omega) | (unfold in64; omega) | exact True.intro | exact Or.inl True.intro | exact Or.inr True.intro | rfl | exact Nat.le_of_ble_eq_true rfl) ?_
      try first | done | assumption | (unfold in32; omega) | (unfold in64; omega)
      refine ⟨_, p_Mo_differ hS5 b8 b9 g10 g11 ⟨bN', bD', D0'⟩ ⟨bN, bD, D0⟩, ?_⟩
      rintro q M6 ⟨rfl, g6, g7, r6⟩
      have s32 := sg32 (N' * D + -1 * (N * D'))
      have G6 : Gq M9 M6 := G1.tr (G2.tr ((gq_rf hS2 r3).tr ((gq_rf hS3 r4).tr (G5.tr (gq_rf hS5 r6)))))
      have ok6 : m_ok f M6 := ⟨Or.inl (by rw [r6.1 319 (by omega)]; exact z5), by rw [r6.1 319 (by omega), y5, e319, y2]; exact ok1.2⟩
      have ww := Int.mul_pos W0' W0
      have dd := Int.mul_pos D0' D0
      have rel : (A' * W - A * W') * (D' * D) = (N' * D + -1 * (N * D')) * (W' * W) := by
        have e1 : (A' * W - A * W') * (D' * D) = (A' * D') * (W * D) - (A * D) * (W' * D') := by grind
        rw [e1, hr, hr']; grind
      refine k_Mo_push_55 _ _ _ _ _ _ _ _ ?_
      simp (disch := omega) only [↓w_nil, ↓w_iret, true_and, and_true, true_implies, false_implies, not_true_eq_false, not_false_eq_true, Int.reduceEq, Int.reduceLT, Int.reduceLE, Int.reduceNeg, w_up1, w_up2, w_up3, w_tl1]
      repeat refine And.intro (by first | assumption | exact IsW.kt (by assumption) | omega | (unfold in32; omega) | (unfold in64; omega) | exact True.intro | exact Or.inl True.intro | exact Or.inr True.intro | rfl | exact Nat.le_of_ble_eq_true rfl) ?_
      try first | done | assumption | (unfold in32; omega) | (unfold in64; omega)
      exact Or.inr ⟨hb, G6, ok6, Or.inr ⟨T, hT, _, _, _, _, ⟨A, W, A', W', hU, hU', rfl, rfl⟩, ww, dd, rel, rfl, g6, g7⟩⟩
  · refine k_Mo_push_4 _ _ _ _ _ _ _ _ ?_
    simp (disch := omega) only [↓w_nil, ↓w_ifne, true_and, and_true, true_implies, false_implies, not_true_eq_false, not_false_eq_true, Int.reduceEq, Int.reduceLT, Int.reduceLE, Int.reduceNeg, w_up1, w_up2, w_up3, w_tl1]
    repeat refine And.intro (by first | assumption | exact IsW.kt (by assumption) | omega | (unfold in32; omega) | (unfold in64; omega) | exact True.intro | exact Or.inl True.intro | exact Or.inr True.intro | rfl | exact Nat.le_of_ble_eq_true rfl) ?_
    try first | done | assumption | (unfold in32; omega) | (unfold in64; omega)
    refine k_Mo_push_7 _ _ _ _ _ _ _ _ ?_
    simp (disch := omega) only [↓w_nil, ↓w_cons, ↓w_ic, ↓w_iret, true_and, and_true, true_implies, false_implies, not_true_eq_false, not_false_eq_true, Int.reduceEq, Int.reduceLT, Int.reduceLE, Int.reduceNeg, w_up1, w_up2, w_up3]
    repeat refine And.intro (by first | assumption | exact IsW.kt (by assumption) | omega | (unfold in32; omega) | (unfold in64; omega) | exact True.intro | exact Or.inl True.intro | exact Or.inr True.intro | rfl | exact Nat.le_of_ble_eq_true rfl) ?_
    try first | done | assumption | (unfold in32; omega) | (unfold in64; omega)
    exact Or.inl ⟨hb, rfl, rfl⟩
