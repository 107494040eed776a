/-! the constructors at their places; by program (wip/whole/genctor.py) -/
set_option maxHeartbeats 8000000 in
theorem i_Ra_279 {g : cw_G} {M : cw_M} (h0 : M 279 = cw_zr 4) : cw_C g y_Ra_init [.inr (.inr 279)] M 280 292 (fun q M' => q = none ∧ M' = cw_mx M 279 292) := by
  refine cw_C_vis ?_
  refine cw_C_of (L := [.inr (.inr 279)]) ok_Ra_init (Nat.le_of_ble_eq_true rfl) (Nat.le_of_ble_eq_true rfl) rfl ?_
  refine cw_J_hide ?_
  refine k_Ra_init_0 _ _ _ _ _ _ _ _ ?_
  simp (disch := omega) only [↓w_nil, ↓w_cons, ↓w_ald0, ↓w_oi, true_and, and_true, true_implies, false_implies, not_true_eq_false, not_false_eq_true, Int.reduceEq, Int.reduceLT, Int.reduceLE, Int.reduceNeg, w_c80, w_c8I, w_c8L, w_c8R, w_up1, w_up2, w_up3, w_up1, w_up2, w_up3, w_sf1, w_sf3, ml_o, wh_o, mx_out, mx_in, ml_0, ml_r, wh_0, wh_1, whl_o, whl_e, whl_u, whl_0, h0]
  repeat refine And.intro (by first | decide +kernel | assumption | omega | (unfold in32; omega) | (unfold in64; omega) | exact True.intro | exact Or.inl True.intro | exact Or.inr True.intro | rfl) ?_
  try first | done | assumption | omega
  refine k_Ra_init_4 _ _ _ _ _ _ _ _ ?_
  simp (disch := omega) only [↓w_nil, ↓w_cons, ↓w_ald0, ↓w_new, true_and, and_true, true_implies, false_implies, not_true_eq_false, not_false_eq_true, Int.reduceEq, Int.reduceLT, Int.reduceLE, Int.reduceNeg, w_up1, w_up2, w_up3, w_up1, w_up2, w_up3, w_sf1, w_sf3, ml_o, wh_o, mx_out, mx_in, ml_0, ml_r, wh_0, wh_1, whl_o, whl_e, whl_u, whl_0, h0]
  repeat refine And.intro (by first | decide +kernel | assumption | omega | (unfold in32; omega) | (unfold in64; omega) | exact True.intro | exact Or.inl True.intro | exact Or.inr True.intro | rfl) ?_
  try first | done | assumption | omega
  intro a9 n9 ha hn
  obtain rfl : a9 = 280 := by omega
  obtain rfl : n9 = 281 := by omega
  refine k_Ra_init_8 _ _ _ _ _ _ _ _ ?_
  simp (disch := omega) only [↓w_nil, ↓w_cons, ↓w_dupI, ↓w_dupR, ↓w_ci, true_and, and_true, true_implies, false_implies, not_true_eq_false, not_false_eq_true, Int.reduceEq, Int.reduceLT, Int.reduceLE, Int.reduceNeg, w_c80, w_c8I, w_c8L, w_c8R, w_up1, w_up2, w_up3, w_up1, w_up2, w_up3, w_sf1, w_sf3, ml_o, wh_o, mx_out, mx_in, ml_0, ml_r, wh_0, wh_1, whl_o, whl_e, whl_u, whl_0, h0]
  repeat refine And.intro (by first | decide +kernel | assumption | omega | (unfold in32; omega) | (unfold in64; omega) | exact True.intro | exact Or.inl True.intro | exact Or.inr True.intro | rfl) ?_
  try first | done | assumption | omega
  refine ⟨_, _, i_Wh (a := 280) rfl (by decide +kernel) (by decide +kernel) sf_eq, by omega, ?_⟩
  rintro r9 M9 ⟨rfl, rfl⟩
  refine k_Ra_init_12 _ _ _ _ _ _ _ _ ?_
  simp (disch := omega) only [↓w_nil, ↓w_cons, ↓w_pfR_0, ↓w_ald0, ↓w_new, true_and, and_true, true_implies, false_implies, not_true_eq_false, not_false_eq_true, Int.reduceEq, Int.reduceLT, Int.reduceLE, Int.reduceNeg, w_up1, w_up2, w_up3, w_up1, w_up2, w_up3, w_sf1, w_sf3, ml_o, wh_o, mx_out, mx_in, ml_0, ml_r, wh_0, wh_1, whl_o, whl_e, whl_u, whl_0, h0, w_tl0]
  repeat refine And.intro (by first | decide +kernel | assumption | omega | (unfold in32; omega) | (unfold in64; omega) | exact True.intro | exact Or.inl True.intro | exact Or.inr True.intro | rfl) ?_
  try first | done | assumption | omega
  intro a9 n9 ha hn
  obtain rfl : a9 = 282 := by omega
  obtain rfl : n9 = 283 := by omega
  refine k_Ra_init_19 _ _ _ _ _ _ _ _ ?_
  simp (disch := omega) only [↓w_nil, ↓w_cons, ↓w_dupI, ↓w_dupR, ↓w_ci, true_and, and_true, true_implies, false_implies, not_true_eq_false, not_false_eq_true, Int.reduceEq, Int.reduceLT, Int.reduceLE, Int.reduceNeg, w_c80, w_c8I, w_c8L, w_c8R, w_up1, w_up2, w_up3, w_up1, w_up2, w_up3, w_sf1, w_sf3, ml_o, wh_o, mx_out, mx_in, ml_0, ml_r, wh_0, wh_1, whl_o, whl_e, whl_u, whl_0, h0]
  repeat refine And.intro (by first | decide +kernel | assumption | omega | (unfold in32; omega) | (unfold in64; omega) | exact True.intro | exact Or.inl True.intro | exact Or.inr True.intro | rfl) ?_
  try first | done | assumption | omega
  refine ⟨_, _, i_Wh (a := 282) rfl (by decide +kernel) (by decide +kernel) sf_eq, by omega, ?_⟩
  rintro r9 M9 ⟨rfl, rfl⟩
  refine k_Ra_init_23 _ _ _ _ _ _ _ _ ?_
  simp (disch := omega) only [↓w_nil, ↓w_cons, ↓w_pfR_1, ↓w_ald0, ↓w_new, true_and, and_true, true_implies, false_implies, not_true_eq_false, not_false_eq_true, Int.reduceEq, Int.reduceLT, Int.reduceLE, Int.reduceNeg, w_up1, w_up2, w_up3, w_up1, w_up2, w_up3, w_sf1, w_sf3, ml_o, wh_o, mx_out, mx_in, ml_0, ml_r, wh_0, wh_1, whl_o, whl_e, whl_u, whl_0, h0, w_tl0]
  repeat refine And.intro (by first | decide +kernel | assumption | omega | (unfold in32; omega) | (unfold in64; omega) | exact True.intro | exact Or.inl True.intro | exact Or.inr True.intro | rfl) ?_
  try first | done | assumption | omega
  intro a9 n9 ha hn
  obtain rfl : a9 = 284 := by omega
  obtain rfl : n9 = 285 := by omega
  refine k_Ra_init_30 _ _ _ _ _ _ _ _ ?_
  simp (disch := omega) only [↓w_nil, ↓w_cons, ↓w_dupI, ↓w_dupR, ↓w_ci, true_and, and_true, true_implies, false_implies, not_true_eq_false, not_false_eq_true, Int.reduceEq, Int.reduceLT, Int.reduceLE, Int.reduceNeg, w_c80, w_c8I, w_c8L, w_c8R, w_up1, w_up2, w_up3, w_up1, w_up2, w_up3, w_sf1, w_sf3, ml_o, wh_o, mx_out, mx_in, ml_0, ml_r, wh_0, wh_1, whl_o, whl_e, whl_u, whl_0, h0]
  repeat refine And.intro (by first | decide +kernel | assumption | omega | (unfold in32; omega) | (unfold in64; omega) | exact True.intro | exact Or.inl True.intro | exact Or.inr True.intro | rfl) ?_
  try first | done | assumption | omega
  refine ⟨_, _, i_Wh (a := 284) rfl (by decide +kernel) (by decide +kernel) sf_eq, by omega, ?_⟩
  rintro r9 M9 ⟨rfl, rfl⟩
  refine k_Ra_init_34 _ _ _ _ _ _ _ _ ?_
  simp (disch := omega) only [↓w_nil, ↓w_cons, ↓w_pfR_2, ↓w_ald0, ↓w_new, true_and, and_true, true_implies, false_implies, not_true_eq_false, not_false_eq_true, Int.reduceEq, Int.reduceLT, Int.reduceLE, Int.reduceNeg, w_up1, w_up2, w_up3, w_up1, w_up2, w_up3, w_sf1, w_sf3, ml_o, wh_o, mx_out, mx_in, ml_0, ml_r, wh_0, wh_1, whl_o, whl_e, whl_u, whl_0, h0, w_tl0]
  repeat refine And.intro (by first | decide +kernel | assumption | omega | (unfold in32; omega) | (unfold in64; omega) | exact True.intro | exact Or.inl True.intro | exact Or.inr True.intro | rfl) ?_
  try first | done | assumption | omega
  intro a9 n9 ha hn
  obtain rfl : a9 = 286 := by omega
  obtain rfl : n9 = 287 := by omega
  refine k_Ra_init_41 _ _ _ _ _ _ _ _ ?_
  simp (disch := omega) only [↓w_nil, ↓w_cons, ↓w_dupI, ↓w_dupR, ↓w_ci, true_and, and_true, true_implies, false_implies, not_true_eq_false, not_false_eq_true, Int.reduceEq, Int.reduceLT, Int.reduceLE, Int.reduceNeg, w_c80, w_c8I, w_c8L, w_c8R, w_up1, w_up2, w_up3, w_up1, w_up2, w_up3, w_sf1, w_sf3, ml_o, wh_o, mx_out, mx_in, ml_0, ml_r, wh_0, wh_1, whl_o, whl_e, whl_u, whl_0, h0]
  repeat refine And.intro (by first | decide +kernel | assumption | omega | (unfold in32; omega) | (unfold in64; omega) | exact True.intro | exact Or.inl True.intro | exact Or.inr True.intro | rfl) ?_
  try first | done | assumption | omega
  refine ⟨_, _, i_Wh (a := 286) rfl (by decide +kernel) (by decide +kernel) sf_eq, by omega, ?_⟩
  rintro r9 M9 ⟨rfl, rfl⟩
  refine k_Ra_init_45 _ _ _ _ _ _ _ _ ?_
  simp (disch := omega) only [↓w_nil, ↓w_cons, ↓w_pfR_3, ↓w_ald0, ↓w_new, true_and, and_true, true_implies, false_implies, not_true_eq_false, not_false_eq_true, Int.reduceEq, Int.reduceLT, Int.reduceLE, Int.reduceNeg, w_up1, w_up2, w_up3, w_up1, w_up2, w_up3, w_sf1, w_sf3, ml_o, wh_o, mx_out, mx_in, ml_0, ml_r, wh_0, wh_1, whl_o, whl_e, whl_u, whl_0, h0, w_tl0]
  repeat refine And.intro (by first | decide +kernel | assumption | omega | (unfold in32; omega) | (unfold in64; omega) | exact True.intro | exact Or.inl True.intro | exact Or.inr True.intro | rfl) ?_
  try first | done | assumption | omega
  intro a9 n9 ha hn
  obtain rfl : a9 = 288 := by omega
  obtain rfl : n9 = 289 := by omega
  refine k_Ra_init_52 _ _ _ _ _ _ _ _ ?_
  simp (disch := omega) only [↓w_nil, ↓w_cons, ↓w_dupI, ↓w_dupR, ↓w_ci, true_and, and_true, true_implies, false_implies, not_true_eq_false, not_false_eq_true, Int.reduceEq, Int.reduceLT, Int.reduceLE, Int.reduceNeg, w_c80, w_c8I, w_c8L, w_c8R, w_up1, w_up2, w_up3, w_up1, w_up2, w_up3, w_sf1, w_sf3, ml_o, wh_o, mx_out, mx_in, ml_0, ml_r, wh_0, wh_1, whl_o, whl_e, whl_u, whl_0, h0]
  repeat refine And.intro (by first | decide +kernel | assumption | omega | (unfold in32; omega) | (unfold in64; omega) | exact True.intro | exact Or.inl True.intro | exact Or.inr True.intro | rfl) ?_
  try first | done | assumption | omega
  refine ⟨_, _, i_Wh (a := 288) rfl (by decide +kernel) (by decide +kernel) sf_eq, by omega, ?_⟩
  rintro r9 M9 ⟨rfl, rfl⟩
  refine k_Ra_init_56 _ _ _ _ _ _ _ _ ?_
  simp (disch := omega) only [↓w_nil, ↓w_cons, ↓w_pfR_4, ↓w_ald0, ↓w_new, true_and, and_true, true_implies, false_implies, not_true_eq_false, not_false_eq_true, Int.reduceEq, Int.reduceLT, Int.reduceLE, Int.reduceNeg, w_up1, w_up2, w_up3, w_up1, w_up2, w_up3, w_sf1, w_sf3, ml_o, wh_o, mx_out, mx_in, ml_0, ml_r, wh_0, wh_1, whl_o, whl_e, whl_u, whl_0, h0, w_tl0]
  repeat refine And.intro (by first | decide +kernel | assumption | omega | (unfold in32; omega) | (unfold in64; omega) | exact True.intro | exact Or.inl True.intro | exact Or.inr True.intro | rfl) ?_
  try first | done | assumption | omega
  intro a9 n9 ha hn
  obtain rfl : a9 = 290 := by omega
  obtain rfl : n9 = 291 := by omega
  refine k_Ra_init_63 _ _ _ _ _ _ _ _ ?_
  simp (disch := omega) only [↓w_nil, ↓w_cons, ↓w_dupI, ↓w_dupR, ↓w_ci, true_and, and_true, true_implies, false_implies, not_true_eq_false, not_false_eq_true, Int.reduceEq, Int.reduceLT, Int.reduceLE, Int.reduceNeg, w_c80, w_c8I, w_c8L, w_c8R, w_up1, w_up2, w_up3, w_up1, w_up2, w_up3, w_sf1, w_sf3, ml_o, wh_o, mx_out, mx_in, ml_0, ml_r, wh_0, wh_1, whl_o, whl_e, whl_u, whl_0, h0]
  repeat refine And.intro (by first | decide +kernel | assumption | omega | (unfold in32; omega) | (unfold in64; omega) | exact True.intro | exact Or.inl True.intro | exact Or.inr True.intro | rfl) ?_
  try first | done | assumption | omega
  refine ⟨_, _, i_Wh (a := 290) rfl (by decide +kernel) (by decide +kernel) sf_eq, by omega, ?_⟩
  rintro r9 M9 ⟨rfl, rfl⟩
  refine k_Ra_init_67 _ _ _ _ _ _ _ _ ?_
  simp (disch := omega) only [↓w_nil, ↓w_cons, ↓w_pfR_5, ↓w_ald0, ↓w_gf2_1, ↓w_lc, ↓w_cv1, true_and, and_true, true_implies, false_implies, not_true_eq_false, not_false_eq_true, Int.reduceEq, Int.reduceLT, Int.reduceLE, Int.reduceNeg, w_c80, w_c8I, w_c8L, w_c8R, w_up1, w_up2, w_up3, w_up1, w_up2, w_up3, w_sf1, w_sf3, ml_o, wh_o, mx_out, mx_in, ml_0, ml_r, wh_0, wh_1, whl_o, whl_e, whl_u, whl_0, h0, w_tl0]
  repeat refine And.intro (by first | decide +kernel | assumption | omega | (unfold in32; omega) | (unfold in64; omega) | exact True.intro | exact Or.inl True.intro | exact Or.inr True.intro | rfl) ?_
  try first | done | assumption | omega
  refine ⟨_, i_putI (w := 282) (w1 := 283) (by omega) (by omega) (by decide +kernel) (by decide +kernel) (by simp (disch := omega) only [w_up1, w_up2, w_up3, w_sf1, w_sf3, ml_o, wh_o, mx_out, mx_in, ml_0, ml_r, wh_0, wh_1, whl_o, whl_e, whl_u, whl_0, h0]; rfl), ?_⟩
  rintro r9 M9 ⟨rfl, rfl⟩
  refine k_Ra_init_78 _ _ _ _ _ _ _ _ ?_
  simp (disch := omega) only [↓w_nil, ↓w_vret, true_and, and_true, true_implies, false_implies, not_true_eq_false, not_false_eq_true, Int.reduceEq, Int.reduceLT, Int.reduceLE, Int.reduceNeg, w_up1, w_up2, w_up3, w_up1, w_up2, w_up3, w_sf1, w_sf3, ml_o, wh_o, mx_out, mx_in, ml_0, ml_r, wh_0, wh_1, whl_o, whl_e, whl_u, whl_0, h0, w_tl0]
  repeat refine And.intro (by first | decide +kernel | assumption | omega | (unfold in32; omega) | (unfold in64; omega) | exact True.intro | exact Or.inl True.intro | exact Or.inr True.intro | rfl) ?_
  try first | done | assumption | omega
  try unfold cw_hide
  try refine ⟨rfl, ?_⟩
  intro c c0 c1 k q0 q1
  by_cases e0 : (279 : Int) ≤ c ∧ c < 292
  · rw [mx_in e0]
    rcases (show c = 279 ∨ c = 280 ∨ c = 281 ∨ c = 282 ∨ c = 283 ∨ c = 284 ∨ c = 285 ∨ c = 286 ∨ c = 287 ∨ c = 288 ∨ c = 289 ∨ c = 290 ∨ c = 291 by omega) with rfl | rfl | rfl | rfl | rfl | rfl | rfl | rfl | rfl | rfl | rfl | rfl | rfl
    · rw [show cw_vs (Int.toNat 279) = 6 from by decide +kernel] at q1
      rcases (show k = 0 ∨ k = 1 ∨ k = 2 ∨ k = 3 ∨ k = 4 ∨ k = 5 by omega) with rfl | rfl | rfl | rfl | rfl | rfl
      all_goals (simp (disch := omega) only [w_up1, w_up2, w_up3, w_sf1, w_sf3, ml_o, wh_o, mx_out, mx_in, ml_0, ml_r, wh_0, wh_1, whl_o, whl_e, whl_u, whl_0, h0]; decide +kernel)
    · rw [show cw_vs (Int.toNat 280) = 3 from by decide +kernel] at q1
      rcases (show k = 0 ∨ k = 1 ∨ k = 2 by omega) with rfl | rfl | rfl
      all_goals (simp (disch := omega) only [w_up1, w_up2, w_up3, w_sf1, w_sf3, ml_o, wh_o, mx_out, mx_in, ml_0, ml_r, wh_0, wh_1, whl_o, whl_e, whl_u, whl_0, h0]; decide +kernel)
    · simp (disch := omega) only [w_up1, w_up2, w_up3, w_sf1, w_sf3, ml_o, wh_o, mx_out, mx_in, ml_0, ml_r, wh_0, wh_1, whl_o, whl_e, whl_u, whl_0, h0]; exact W_z (by decide +kernel)
    · rw [show cw_vs (Int.toNat 282) = 3 from by decide +kernel] at q1
      rcases (show k = 0 ∨ k = 1 ∨ k = 2 by omega) with rfl | rfl | rfl
      all_goals (simp (disch := omega) only [w_up1, w_up2, w_up3, w_sf1, w_sf3, ml_o, wh_o, mx_out, mx_in, ml_0, ml_r, wh_0, wh_1, whl_o, whl_e, whl_u, whl_0, h0]; decide +kernel)
    · rw [show cw_vs (Int.toNat 283) = 16 from by decide +kernel] at q1
      rcases (show k = 0 ∨ k = 1 ∨ k = 2 ∨ k = 3 ∨ k = 4 ∨ k = 5 ∨ k = 6 ∨ k = 7 ∨ k = 8 ∨ k = 9 ∨ k = 10 ∨ k = 11 ∨ k = 12 ∨ k = 13 ∨ k = 14 ∨ k = 15 by omega) with rfl | rfl | rfl | rfl | rfl | rfl | rfl | rfl | rfl | rfl | rfl | rfl | rfl | rfl | rfl | rfl
      all_goals (simp (disch := omega) only [w_up1, w_up2, w_up3, w_sf1, w_sf3, ml_o, wh_o, mx_out, mx_in, ml_0, ml_r, wh_0, wh_1, whl_o, whl_e, whl_u, whl_0, h0]; decide +kernel)
    · rw [show cw_vs (Int.toNat 284) = 3 from by decide +kernel] at q1
      rcases (show k = 0 ∨ k = 1 ∨ k = 2 by omega) with rfl | rfl | rfl
      all_goals (simp (disch := omega) only [w_up1, w_up2, w_up3, w_sf1, w_sf3, ml_o, wh_o, mx_out, mx_in, ml_0, ml_r, wh_0, wh_1, whl_o, whl_e, whl_u, whl_0, h0]; decide +kernel)
    · simp (disch := omega) only [w_up1, w_up2, w_up3, w_sf1, w_sf3, ml_o, wh_o, mx_out, mx_in, ml_0, ml_r, wh_0, wh_1, whl_o, whl_e, whl_u, whl_0, h0]; exact W_z (by decide +kernel)
    · rw [show cw_vs (Int.toNat 286) = 3 from by decide +kernel] at q1
      rcases (show k = 0 ∨ k = 1 ∨ k = 2 by omega) with rfl | rfl | rfl
      all_goals (simp (disch := omega) only [w_up1, w_up2, w_up3, w_sf1, w_sf3, ml_o, wh_o, mx_out, mx_in, ml_0, ml_r, wh_0, wh_1, whl_o, whl_e, whl_u, whl_0, h0]; decide +kernel)
    · simp (disch := omega) only [w_up1, w_up2, w_up3, w_sf1, w_sf3, ml_o, wh_o, mx_out, mx_in, ml_0, ml_r, wh_0, wh_1, whl_o, whl_e, whl_u, whl_0, h0]; exact W_z (by decide +kernel)
    · rw [show cw_vs (Int.toNat 288) = 3 from by decide +kernel] at q1
      rcases (show k = 0 ∨ k = 1 ∨ k = 2 by omega) with rfl | rfl | rfl
      all_goals (simp (disch := omega) only [w_up1, w_up2, w_up3, w_sf1, w_sf3, ml_o, wh_o, mx_out, mx_in, ml_0, ml_r, wh_0, wh_1, whl_o, whl_e, whl_u, whl_0, h0]; decide +kernel)
    · simp (disch := omega) only [w_up1, w_up2, w_up3, w_sf1, w_sf3, ml_o, wh_o, mx_out, mx_in, ml_0, ml_r, wh_0, wh_1, whl_o, whl_e, whl_u, whl_0, h0]; exact W_z (by decide +kernel)
    · rw [show cw_vs (Int.toNat 290) = 3 from by decide +kernel] at q1
      rcases (show k = 0 ∨ k = 1 ∨ k = 2 by omega) with rfl | rfl | rfl
      all_goals (simp (disch := omega) only [w_up1, w_up2, w_up3, w_sf1, w_sf3, ml_o, wh_o, mx_out, mx_in, ml_0, ml_r, wh_0, wh_1, whl_o, whl_e, whl_u, whl_0, h0]; decide +kernel)
    · simp (disch := omega) only [w_up1, w_up2, w_up3, w_sf1, w_sf3, ml_o, wh_o, mx_out, mx_in, ml_0, ml_r, wh_0, wh_1, whl_o, whl_e, whl_u, whl_0, h0]; exact W_z (by decide +kernel)
  · rw [mx_out e0]
    simp (disch := omega) only [w_up3, w_sf3, ml_o, wh_o, mx_out, whl_u]
set_option maxHeartbeats 8000000 in
theorem i_Ra_292 {g : cw_G} {M : cw_M} (h0 : M 292 = cw_zr 4) : cw_C g y_Ra_init [.inr (.inr 292)] M 293 305 (fun q M' => q = none ∧ M' = cw_mx M 292 305) := by
  refine cw_C_vis ?_
  refine cw_C_of (L := [.inr (.inr 292)]) ok_Ra_init (Nat.le_of_ble_eq_true rfl) (Nat.le_of_ble_eq_true rfl) rfl ?_
  refine cw_J_hide ?_
  refine k_Ra_init_0 _ _ _ _ _ _ _ _ ?_
  simp (disch := omega) only [↓w_nil, ↓w_cons, ↓w_ald0, ↓w_oi, true_and, and_true, true_implies, false_implies, not_true_eq_false, not_false_eq_true, Int.reduceEq, Int.reduceLT, Int.reduceLE, Int.reduceNeg, w_c80, w_c8I, w_c8L, w_c8R, w_up1, w_up2, w_up3, w_up1, w_up2, w_up3, w_sf1, w_sf3, ml_o, wh_o, mx_out, mx_in, ml_0, ml_r, wh_0, wh_1, whl_o, whl_e, whl_u, whl_0, h0]
  repeat refine And.intro (by first | decide +kernel | assumption | omega | (unfold in32; omega) | (unfold in64; omega) | exact True.intro | exact Or.inl True.intro | exact Or.inr True.intro | rfl) ?_
  try first | done | assumption | omega
  refine k_Ra_init_4 _ _ _ _ _ _ _ _ ?_
  simp (disch := omega) only [↓w_nil, ↓w_cons, ↓w_ald0, ↓w_new, true_and, and_true, true_implies, false_implies, not_true_eq_false, not_false_eq_true, Int.reduceEq, Int.reduceLT, Int.reduceLE, Int.reduceNeg, w_up1, w_up2, w_up3, w_up1, w_up2, w_up3, w_sf1, w_sf3, ml_o, wh_o, mx_out, mx_in, ml_0, ml_r, wh_0, wh_1, whl_o, whl_e, whl_u, whl_0, h0]
  repeat refine And.intro (by first | decide +kernel | assumption | omega | (unfold in32; omega) | (unfold in64; omega) | exact True.intro | exact Or.inl True.intro | exact Or.inr True.intro | rfl) ?_
  try first | done | assumption | omega
  intro a9 n9 ha hn
  obtain rfl : a9 = 293 := by omega
  obtain rfl : n9 = 294 := by omega
  refine k_Ra_init_8 _ _ _ _ _ _ _ _ ?_
  simp (disch := omega) only [↓w_nil, ↓w_cons, ↓w_dupI, ↓w_dupR, ↓w_ci, true_and, and_true, true_implies, false_implies, not_true_eq_false, not_false_eq_true, Int.reduceEq, Int.reduceLT, Int.reduceLE, Int.reduceNeg, w_c80, w_c8I, w_c8L, w_c8R, w_up1, w_up2, w_up3, w_up1, w_up2, w_up3, w_sf1, w_sf3, ml_o, wh_o, mx_out, mx_in, ml_0, ml_r, wh_0, wh_1, whl_o, whl_e, whl_u, whl_0, h0]
  repeat refine And.intro (by first | decide +kernel | assumption | omega | (unfold in32; omega) | (unfold in64; omega) | exact True.intro | exact Or.inl True.intro | exact Or.inr True.intro | rfl) ?_
  try first | done | assumption | omega
  refine ⟨_, _, i_Wh (a := 293) rfl (by decide +kernel) (by decide +kernel) sf_eq, by omega, ?_⟩
  rintro r9 M9 ⟨rfl, rfl⟩
  refine k_Ra_init_12 _ _ _ _ _ _ _ _ ?_
  simp (disch := omega) only [↓w_nil, ↓w_cons, ↓w_pfR_0, ↓w_ald0, ↓w_new, true_and, and_true, true_implies, false_implies, not_true_eq_false, not_false_eq_true, Int.reduceEq, Int.reduceLT, Int.reduceLE, Int.reduceNeg, w_up1, w_up2, w_up3, w_up1, w_up2, w_up3, w_sf1, w_sf3, ml_o, wh_o, mx_out, mx_in, ml_0, ml_r, wh_0, wh_1, whl_o, whl_e, whl_u, whl_0, h0, w_tl0]
  repeat refine And.intro (by first | decide +kernel | assumption | omega | (unfold in32; omega) | (unfold in64; omega) | exact True.intro | exact Or.inl True.intro | exact Or.inr True.intro | rfl) ?_
  try first | done | assumption | omega
  intro a9 n9 ha hn
  obtain rfl : a9 = 295 := by omega
  obtain rfl : n9 = 296 := by omega
  refine k_Ra_init_19 _ _ _ _ _ _ _ _ ?_
  simp (disch := omega) only [↓w_nil, ↓w_cons, ↓w_dupI, ↓w_dupR, ↓w_ci, true_and, and_true, true_implies, false_implies, not_true_eq_false, not_false_eq_true, Int.reduceEq, Int.reduceLT, Int.reduceLE, Int.reduceNeg, w_c80, w_c8I, w_c8L, w_c8R, w_up1, w_up2, w_up3, w_up1, w_up2, w_up3, w_sf1, w_sf3, ml_o, wh_o, mx_out, mx_in, ml_0, ml_r, wh_0, wh_1, whl_o, whl_e, whl_u, whl_0, h0]
  repeat refine And.intro (by first | decide +kernel | assumption | omega | (unfold in32; omega) | (unfold in64; omega) | exact True.intro | exact Or.inl True.intro | exact Or.inr True.intro | rfl) ?_
  try first | done | assumption | omega
  refine ⟨_, _, i_Wh (a := 295) rfl (by decide +kernel) (by decide +kernel) sf_eq, by omega, ?_⟩
  rintro r9 M9 ⟨rfl, rfl⟩
  refine k_Ra_init_23 _ _ _ _ _ _ _ _ ?_
  simp (disch := omega) only [↓w_nil, ↓w_cons, ↓w_pfR_1, ↓w_ald0, ↓w_new, true_and, and_true, true_implies, false_implies, not_true_eq_false, not_false_eq_true, Int.reduceEq, Int.reduceLT, Int.reduceLE, Int.reduceNeg, w_up1, w_up2, w_up3, w_up1, w_up2, w_up3, w_sf1, w_sf3, ml_o, wh_o, mx_out, mx_in, ml_0, ml_r, wh_0, wh_1, whl_o, whl_e, whl_u, whl_0, h0, w_tl0]
  repeat refine And.intro (by first | decide +kernel | assumption | omega | (unfold in32; omega) | (unfold in64; omega) | exact True.intro | exact Or.inl True.intro | exact Or.inr True.intro | rfl) ?_
  try first | done | assumption | omega
  intro a9 n9 ha hn
  obtain rfl : a9 = 297 := by omega
  obtain rfl : n9 = 298 := by omega
  refine k_Ra_init_30 _ _ _ _ _ _ _ _ ?_
  simp (disch := omega) only [↓w_nil, ↓w_cons, ↓w_dupI, ↓w_dupR, ↓w_ci, true_and, and_true, true_implies, false_implies, not_true_eq_false, not_false_eq_true, Int.reduceEq, Int.reduceLT, Int.reduceLE, Int.reduceNeg, w_c80, w_c8I, w_c8L, w_c8R, w_up1, w_up2, w_up3, w_up1, w_up2, w_up3, w_sf1, w_sf3, ml_o, wh_o, mx_out, mx_in, ml_0, ml_r, wh_0, wh_1, whl_o, whl_e, whl_u, whl_0, h0]
  repeat refine And.intro (by first | decide +kernel | assumption | omega | (unfold in32; omega) | (unfold in64; omega) | exact True.intro | exact Or.inl True.intro | exact Or.inr True.intro | rfl) ?_
  try first | done | assumption | omega
  refine ⟨_, _, i_Wh (a := 297) rfl (by decide +kernel) (by decide +kernel) sf_eq, by omega, ?_⟩
  rintro r9 M9 ⟨rfl, rfl⟩
  refine k_Ra_init_34 _ _ _ _ _ _ _ _ ?_
  simp (disch := omega) only [↓w_nil, ↓w_cons, ↓w_pfR_2, ↓w_ald0, ↓w_new, true_and, and_true, true_implies, false_implies, not_true_eq_false, not_false_eq_true, Int.reduceEq, Int.reduceLT, Int.reduceLE, Int.reduceNeg, w_up1, w_up2, w_up3, w_up1, w_up2, w_up3, w_sf1, w_sf3, ml_o, wh_o, mx_out, mx_in, ml_0, ml_r, wh_0, wh_1, whl_o, whl_e, whl_u, whl_0, h0, w_tl0]
  repeat refine And.intro (by first | decide +kernel | assumption | omega | (unfold in32; omega) | (unfold in64; omega) | exact True.intro | exact Or.inl True.intro | exact Or.inr True.intro | rfl) ?_
  try first | done | assumption | omega
  intro a9 n9 ha hn
  obtain rfl : a9 = 299 := by omega
  obtain rfl : n9 = 300 := by omega
  refine k_Ra_init_41 _ _ _ _ _ _ _ _ ?_
  simp (disch := omega) only [↓w_nil, ↓w_cons, ↓w_dupI, ↓w_dupR, ↓w_ci, true_and, and_true, true_implies, false_implies, not_true_eq_false, not_false_eq_true, Int.reduceEq, Int.reduceLT, Int.reduceLE, Int.reduceNeg, w_c80, w_c8I, w_c8L, w_c8R, w_up1, w_up2, w_up3, w_up1, w_up2, w_up3, w_sf1, w_sf3, ml_o, wh_o, mx_out, mx_in, ml_0, ml_r, wh_0, wh_1, whl_o, whl_e, whl_u, whl_0, h0]
  repeat refine And.intro (by first | decide +kernel | assumption | omega | (unfold in32; omega) | (unfold in64; omega) | exact True.intro | exact Or.inl True.intro | exact Or.inr True.intro | rfl) ?_
  try first | done | assumption | omega
  refine ⟨_, _, i_Wh (a := 299) rfl (by decide +kernel) (by decide +kernel) sf_eq, by omega, ?_⟩
  rintro r9 M9 ⟨rfl, rfl⟩
  refine k_Ra_init_45 _ _ _ _ _ _ _ _ ?_
  simp (disch := omega) only [↓w_nil, ↓w_cons, ↓w_pfR_3, ↓w_ald0, ↓w_new, true_and, and_true, true_implies, false_implies, not_true_eq_false, not_false_eq_true, Int.reduceEq, Int.reduceLT, Int.reduceLE, Int.reduceNeg, w_up1, w_up2, w_up3, w_up1, w_up2, w_up3, w_sf1, w_sf3, ml_o, wh_o, mx_out, mx_in, ml_0, ml_r, wh_0, wh_1, whl_o, whl_e, whl_u, whl_0, h0, w_tl0]
  repeat refine And.intro (by first | decide +kernel | assumption | omega | (unfold in32; omega) | (unfold in64; omega) | exact True.intro | exact Or.inl True.intro | exact Or.inr True.intro | rfl) ?_
  try first | done | assumption | omega
  intro a9 n9 ha hn
  obtain rfl : a9 = 301 := by omega
  obtain rfl : n9 = 302 := by omega
  refine k_Ra_init_52 _ _ _ _ _ _ _ _ ?_
  simp (disch := omega) only [↓w_nil, ↓w_cons, ↓w_dupI, ↓w_dupR, ↓w_ci, true_and, and_true, true_implies, false_implies, not_true_eq_false, not_false_eq_true, Int.reduceEq, Int.reduceLT, Int.reduceLE, Int.reduceNeg, w_c80, w_c8I, w_c8L, w_c8R, w_up1, w_up2, w_up3, w_up1, w_up2, w_up3, w_sf1, w_sf3, ml_o, wh_o, mx_out, mx_in, ml_0, ml_r, wh_0, wh_1, whl_o, whl_e, whl_u, whl_0, h0]
  repeat refine And.intro (by first | decide +kernel | assumption | omega | (unfold in32; omega) | (unfold in64; omega) | exact True.intro | exact Or.inl True.intro | exact Or.inr True.intro | rfl) ?_
  try first | done | assumption | omega
  refine ⟨_, _, i_Wh (a := 301) rfl (by decide +kernel) (by decide +kernel) sf_eq, by omega, ?_⟩
  rintro r9 M9 ⟨rfl, rfl⟩
  refine k_Ra_init_56 _ _ _ _ _ _ _ _ ?_
  simp (disch := omega) only [↓w_nil, ↓w_cons, ↓w_pfR_4, ↓w_ald0, ↓w_new, true_and, and_true, true_implies, false_implies, not_true_eq_false, not_false_eq_true, Int.reduceEq, Int.reduceLT, Int.reduceLE, Int.reduceNeg, w_up1, w_up2, w_up3, w_up1, w_up2, w_up3, w_sf1, w_sf3, ml_o, wh_o, mx_out, mx_in, ml_0, ml_r, wh_0, wh_1, whl_o, whl_e, whl_u, whl_0, h0, w_tl0]
  repeat refine And.intro (by first | decide +kernel | assumption | omega | (unfold in32; omega) | (unfold in64; omega) | exact True.intro | exact Or.inl True.intro | exact Or.inr True.intro | rfl) ?_
  try first | done | assumption | omega
  intro a9 n9 ha hn
  obtain rfl : a9 = 303 := by omega
  obtain rfl : n9 = 304 := by omega
  refine k_Ra_init_63 _ _ _ _ _ _ _ _ ?_
  simp (disch := omega) only [↓w_nil, ↓w_cons, ↓w_dupI, ↓w_dupR, ↓w_ci, true_and, and_true, true_implies, false_implies, not_true_eq_false, not_false_eq_true, Int.reduceEq, Int.reduceLT, Int.reduceLE, Int.reduceNeg, w_c80, w_c8I, w_c8L, w_c8R, w_up1, w_up2, w_up3, w_up1, w_up2, w_up3, w_sf1, w_sf3, ml_o, wh_o, mx_out, mx_in, ml_0, ml_r, wh_0, wh_1, whl_o, whl_e, whl_u, whl_0, h0]
  repeat refine And.intro (by first | decide +kernel | assumption | omega | (unfold in32; omega) | (unfold in64; omega) | exact True.intro | exact Or.inl True.intro | exact Or.inr True.intro | rfl) ?_
  try first | done | assumption | omega
  refine ⟨_, _, i_Wh (a := 303) rfl (by decide +kernel) (by decide +kernel) sf_eq, by omega, ?_⟩
  rintro r9 M9 ⟨rfl, rfl⟩
  refine k_Ra_init_67 _ _ _ _ _ _ _ _ ?_
  simp (disch := omega) only [↓w_nil, ↓w_cons, ↓w_pfR_5, ↓w_ald0, ↓w_gf2_1, ↓w_lc, ↓w_cv1, true_and, and_true, true_implies, false_implies, not_true_eq_false, not_false_eq_true, Int.reduceEq, Int.reduceLT, Int.reduceLE, Int.reduceNeg, w_c80, w_c8I, w_c8L, w_c8R, w_up1, w_up2, w_up3, w_up1, w_up2, w_up3, w_sf1, w_sf3, ml_o, wh_o, mx_out, mx_in, ml_0, ml_r, wh_0, wh_1, whl_o, whl_e, whl_u, whl_0, h0, w_tl0]
  repeat refine And.intro (by first | decide +kernel | assumption | omega | (unfold in32; omega) | (unfold in64; omega) | exact True.intro | exact Or.inl True.intro | exact Or.inr True.intro | rfl) ?_
  try first | done | assumption | omega
  refine ⟨_, i_putI (w := 295) (w1 := 296) (by omega) (by omega) (by decide +kernel) (by decide +kernel) (by simp (disch := omega) only [w_up1, w_up2, w_up3, w_sf1, w_sf3, ml_o, wh_o, mx_out, mx_in, ml_0, ml_r, wh_0, wh_1, whl_o, whl_e, whl_u, whl_0, h0]; rfl), ?_⟩
  rintro r9 M9 ⟨rfl, rfl⟩
  refine k_Ra_init_78 _ _ _ _ _ _ _ _ ?_
  simp (disch := omega) only [↓w_nil, ↓w_vret, true_and, and_true, true_implies, false_implies, not_true_eq_false, not_false_eq_true, Int.reduceEq, Int.reduceLT, Int.reduceLE, Int.reduceNeg, w_up1, w_up2, w_up3, w_up1, w_up2, w_up3, w_sf1, w_sf3, ml_o, wh_o, mx_out, mx_in, ml_0, ml_r, wh_0, wh_1, whl_o, whl_e, whl_u, whl_0, h0, w_tl0]
  repeat refine And.intro (by first | decide +kernel | assumption | omega | (unfold in32; omega) | (unfold in64; omega) | exact True.intro | exact Or.inl True.intro | exact Or.inr True.intro | rfl) ?_
  try first | done | assumption | omega
  try unfold cw_hide
  try refine ⟨rfl, ?_⟩
  intro c c0 c1 k q0 q1
  by_cases e0 : (292 : Int) ≤ c ∧ c < 305
  · rw [mx_in e0]
    rcases (show c = 292 ∨ c = 293 ∨ c = 294 ∨ c = 295 ∨ c = 296 ∨ c = 297 ∨ c = 298 ∨ c = 299 ∨ c = 300 ∨ c = 301 ∨ c = 302 ∨ c = 303 ∨ c = 304 by omega) with rfl | rfl | rfl | rfl | rfl | rfl | rfl | rfl | rfl | rfl | rfl | rfl | rfl
    · rw [show cw_vs (Int.toNat 292) = 6 from by decide +kernel] at q1
      rcases (show k = 0 ∨ k = 1 ∨ k = 2 ∨ k = 3 ∨ k = 4 ∨ k = 5 by omega) with rfl | rfl | rfl | rfl | rfl | rfl
      all_goals (simp (disch := omega) only [w_up1, w_up2, w_up3, w_sf1, w_sf3, ml_o, wh_o, mx_out, mx_in, ml_0, ml_r, wh_0, wh_1, whl_o, whl_e, whl_u, whl_0, h0]; decide +kernel)
    · rw [show cw_vs (Int.toNat 293) = 3 from by decide +kernel] at q1
      rcases (show k = 0 ∨ k = 1 ∨ k = 2 by omega) with rfl | rfl | rfl
      all_goals (simp (disch := omega) only [w_up1, w_up2, w_up3, w_sf1, w_sf3, ml_o, wh_o, mx_out, mx_in, ml_0, ml_r, wh_0, wh_1, whl_o, whl_e, whl_u, whl_0, h0]; decide +kernel)
    · simp (disch := omega) only [w_up1, w_up2, w_up3, w_sf1, w_sf3, ml_o, wh_o, mx_out, mx_in, ml_0, ml_r, wh_0, wh_1, whl_o, whl_e, whl_u, whl_0, h0]; exact W_z (by decide +kernel)
    · rw [show cw_vs (Int.toNat 295) = 3 from by decide +kernel] at q1
      rcases (show k = 0 ∨ k = 1 ∨ k = 2 by omega) with rfl | rfl | rfl
      all_goals (simp (disch := omega) only [w_up1, w_up2, w_up3, w_sf1, w_sf3, ml_o, wh_o, mx_out, mx_in, ml_0, ml_r, wh_0, wh_1, whl_o, whl_e, whl_u, whl_0, h0]; decide +kernel)
    · rw [show cw_vs (Int.toNat 296) = 16 from by decide +kernel] at q1
      rcases (show k = 0 ∨ k = 1 ∨ k = 2 ∨ k = 3 ∨ k = 4 ∨ k = 5 ∨ k = 6 ∨ k = 7 ∨ k = 8 ∨ k = 9 ∨ k = 10 ∨ k = 11 ∨ k = 12 ∨ k = 13 ∨ k = 14 ∨ k = 15 by omega) with rfl | rfl | rfl | rfl | rfl | rfl | rfl | rfl | rfl | rfl | rfl | rfl | rfl | rfl | rfl | rfl
      all_goals (simp (disch := omega) only [w_up1, w_up2, w_up3, w_sf1, w_sf3, ml_o, wh_o, mx_out, mx_in, ml_0, ml_r, wh_0, wh_1, whl_o, whl_e, whl_u, whl_0, h0]; decide +kernel)
    · rw [show cw_vs (Int.toNat 297) = 3 from by decide +kernel] at q1
      rcases (show k = 0 ∨ k = 1 ∨ k = 2 by omega) with rfl | rfl | rfl
      all_goals (simp (disch := omega) only [w_up1, w_up2, w_up3, w_sf1, w_sf3, ml_o, wh_o, mx_out, mx_in, ml_0, ml_r, wh_0, wh_1, whl_o, whl_e, whl_u, whl_0, h0]; decide +kernel)
    · simp (disch := omega) only [w_up1, w_up2, w_up3, w_sf1, w_sf3, ml_o, wh_o, mx_out, mx_in, ml_0, ml_r, wh_0, wh_1, whl_o, whl_e, whl_u, whl_0, h0]; exact W_z (by decide +kernel)
    · rw [show cw_vs (Int.toNat 299) = 3 from by decide +kernel] at q1
      rcases (show k = 0 ∨ k = 1 ∨ k = 2 by omega) with rfl | rfl | rfl
      all_goals (simp (disch := omega) only [w_up1, w_up2, w_up3, w_sf1, w_sf3, ml_o, wh_o, mx_out, mx_in, ml_0, ml_r, wh_0, wh_1, whl_o, whl_e, whl_u, whl_0, h0]; decide +kernel)
    · simp (disch := omega) only [w_up1, w_up2, w_up3, w_sf1, w_sf3, ml_o, wh_o, mx_out, mx_in, ml_0, ml_r, wh_0, wh_1, whl_o, whl_e, whl_u, whl_0, h0]; exact W_z (by decide +kernel)
    · rw [show cw_vs (Int.toNat 301) = 3 from by decide +kernel] at q1
      rcases (show k = 0 ∨ k = 1 ∨ k = 2 by omega) with rfl | rfl | rfl
      all_goals (simp (disch := omega) only [w_up1, w_up2, w_up3, w_sf1, w_sf3, ml_o, wh_o, mx_out, mx_in, ml_0, ml_r, wh_0, wh_1, whl_o, whl_e, whl_u, whl_0, h0]; decide +kernel)
    · simp (disch := omega) only [w_up1, w_up2, w_up3, w_sf1, w_sf3, ml_o, wh_o, mx_out, mx_in, ml_0, ml_r, wh_0, wh_1, whl_o, whl_e, whl_u, whl_0, h0]; exact W_z (by decide +kernel)
    · rw [show cw_vs (Int.toNat 303) = 3 from by decide +kernel] at q1
      rcases (show k = 0 ∨ k = 1 ∨ k = 2 by omega) with rfl | rfl | rfl
      all_goals (simp (disch := omega) only [w_up1, w_up2, w_up3, w_sf1, w_sf3, ml_o, wh_o, mx_out, mx_in, ml_0, ml_r, wh_0, wh_1, whl_o, whl_e, whl_u, whl_0, h0]; decide +kernel)
    · simp (disch := omega) only [w_up1, w_up2, w_up3, w_sf1, w_sf3, ml_o, wh_o, mx_out, mx_in, ml_0, ml_r, wh_0, wh_1, whl_o, whl_e, whl_u, whl_0, h0]; exact W_z (by decide +kernel)
  · rw [mx_out e0]
    simp (disch := omega) only [w_up3, w_sf3, ml_o, wh_o, mx_out, whl_u]
set_option maxHeartbeats 8000000 in
theorem i_Ra_305 {g : cw_G} {M : cw_M} (h0 : M 305 = cw_zr 4) : cw_C g y_Ra_init [.inr (.inr 305)] M 306 318 (fun q M' => q = none ∧ M' = cw_mx M 305 318) := by
  refine cw_C_vis ?_
  refine cw_C_of (L := [.inr (.inr 305)]) ok_Ra_init (Nat.le_of_ble_eq_true rfl) (Nat.le_of_ble_eq_true rfl) rfl ?_
  refine cw_J_hide ?_
  refine k_Ra_init_0 _ _ _ _ _ _ _ _ ?_
  simp (disch := omega) only [↓w_nil, ↓w_cons, ↓w_ald0, ↓w_oi, true_and, and_true, true_implies, false_implies, not_true_eq_false, not_false_eq_true, Int.reduceEq, Int.reduceLT, Int.reduceLE, Int.reduceNeg, w_c80, w_c8I, w_c8L, w_c8R, w_up1, w_up2, w_up3, w_up1, w_up2, w_up3, w_sf1, w_sf3, ml_o, wh_o, mx_out, mx_in, ml_0, ml_r, wh_0, wh_1, whl_o, whl_e, whl_u, whl_0, h0]
  repeat refine And.intro (by first | decide +kernel | assumption | omega | (unfold in32; omega) | (unfold in64; omega) | exact True.intro | exact Or.inl True.intro | exact Or.inr True.intro | rfl) ?_
  try first | done | assumption | omega
  refine k_Ra_init_4 _ _ _ _ _ _ _ _ ?_
  simp (disch := omega) only [↓w_nil, ↓w_cons, ↓w_ald0, ↓w_new, true_and, and_true, true_implies, false_implies, not_true_eq_false, not_false_eq_true, Int.reduceEq, Int.reduceLT, Int.reduceLE, Int.reduceNeg, w_up1, w_up2, w_up3, w_up1, w_up2, w_up3, w_sf1, w_sf3, ml_o, wh_o, mx_out, mx_in, ml_0, ml_r, wh_0, wh_1, whl_o, whl_e, whl_u, whl_0, h0]
  repeat refine And.intro (by first | decide +kernel | assumption | omega | (unfold in32; omega) | (unfold in64; omega) | exact True.intro | exact Or.inl True.intro | exact Or.inr True.intro | rfl) ?_
  try first | done | assumption | omega
  intro a9 n9 ha hn
  obtain rfl : a9 = 306 := by omega
  obtain rfl : n9 = 307 := by omega
  refine k_Ra_init_8 _ _ _ _ _ _ _ _ ?_
  simp (disch := omega) only [↓w_nil, ↓w_cons, ↓w_dupI, ↓w_dupR, ↓w_ci, true_and, and_true, true_implies, false_implies, not_true_eq_false, not_false_eq_true, Int.reduceEq, Int.reduceLT, Int.reduceLE, Int.reduceNeg, w_c80, w_c8I, w_c8L, w_c8R, w_up1, w_up2, w_up3, w_up1, w_up2, w_up3, w_sf1, w_sf3, ml_o, wh_o, mx_out, mx_in, ml_0, ml_r, wh_0, wh_1, whl_o, whl_e, whl_u, whl_0, h0]
  repeat refine And.intro (by first | decide +kernel | assumption | omega | (unfold in32; omega) | (unfold in64; omega) | exact True.intro | exact Or.inl True.intro | exact Or.inr True.intro | rfl) ?_
  try first | done | assumption | omega
  refine ⟨_, _, i_Wh (a := 306) rfl (by decide +kernel) (by decide +kernel) sf_eq, by omega, ?_⟩
  rintro r9 M9 ⟨rfl, rfl⟩
  refine k_Ra_init_12 _ _ _ _ _ _ _ _ ?_
  simp (disch := omega) only [↓w_nil, ↓w_cons, ↓w_pfR_0, ↓w_ald0, ↓w_new, true_and, and_true, true_implies, false_implies, not_true_eq_false, not_false_eq_true, Int.reduceEq, Int.reduceLT, Int.reduceLE, Int.reduceNeg, w_up1, w_up2, w_up3, w_up1, w_up2, w_up3, w_sf1, w_sf3, ml_o, wh_o, mx_out, mx_in, ml_0, ml_r, wh_0, wh_1, whl_o, whl_e, whl_u, whl_0, h0, w_tl0]
  repeat refine And.intro (by first | decide +kernel | assumption | omega | (unfold in32; omega) | (unfold in64; omega) | exact True.intro | exact Or.inl True.intro | exact Or.inr True.intro | rfl) ?_
  try first | done | assumption | omega
  intro a9 n9 ha hn
  obtain rfl : a9 = 308 := by omega
  obtain rfl : n9 = 309 := by omega
  refine k_Ra_init_19 _ _ _ _ _ _ _ _ ?_
  simp (disch := omega) only [↓w_nil, ↓w_cons, ↓w_dupI, ↓w_dupR, ↓w_ci, true_and, and_true, true_implies, false_implies, not_true_eq_false, not_false_eq_true, Int.reduceEq, Int.reduceLT, Int.reduceLE, Int.reduceNeg, w_c80, w_c8I, w_c8L, w_c8R, w_up1, w_up2, w_up3, w_up1, w_up2, w_up3, w_sf1, w_sf3, ml_o, wh_o, mx_out, mx_in, ml_0, ml_r, wh_0, wh_1, whl_o, whl_e, whl_u, whl_0, h0]
  repeat refine And.intro (by first | decide +kernel | assumption | omega | (unfold in32; omega) | (unfold in64; omega) | exact True.intro | exact Or.inl True.intro | exact Or.inr True.intro | rfl) ?_
  try first | done | assumption | omega
  refine ⟨_, _, i_Wh (a := 308) rfl (by decide +kernel) (by decide +kernel) sf_eq, by omega, ?_⟩
  rintro r9 M9 ⟨rfl, rfl⟩
  refine k_Ra_init_23 _ _ _ _ _ _ _ _ ?_
  simp (disch := omega) only [↓w_nil, ↓w_cons, ↓w_pfR_1, ↓w_ald0, ↓w_new, true_and, and_true, true_implies, false_implies, not_true_eq_false, not_false_eq_true, Int.reduceEq, Int.reduceLT, Int.reduceLE, Int.reduceNeg, w_up1, w_up2, w_up3, w_up1, w_up2, w_up3, w_sf1, w_sf3, ml_o, wh_o, mx_out, mx_in, ml_0, ml_r, wh_0, wh_1, whl_o, whl_e, whl_u, whl_0, h0, w_tl0]
  repeat refine And.intro (by first | decide +kernel | assumption | omega | (unfold in32; omega) | (unfold in64; omega) | exact True.intro | exact Or.inl True.intro | exact Or.inr True.intro | rfl) ?_
  try first | done | assumption | omega
  intro a9 n9 ha hn
  obtain rfl : a9 = 310 := by omega
  obtain rfl : n9 = 311 := by omega
  refine k_Ra_init_30 _ _ _ _ _ _ _ _ ?_
  simp (disch := omega) only [↓w_nil, ↓w_cons, ↓w_dupI, ↓w_dupR, ↓w_ci, true_and, and_true, true_implies, false_implies, not_true_eq_false, not_false_eq_true, Int.reduceEq, Int.reduceLT, Int.reduceLE, Int.reduceNeg, w_c80, w_c8I, w_c8L, w_c8R, w_up1, w_up2, w_up3, w_up1, w_up2, w_up3, w_sf1, w_sf3, ml_o, wh_o, mx_out, mx_in, ml_0, ml_r, wh_0, wh_1, whl_o, whl_e, whl_u, whl_0, h0]
  repeat refine And.intro (by first | decide +kernel | assumption | omega | (unfold in32; omega) | (unfold in64; omega) | exact True.intro | exact Or.inl True.intro | exact Or.inr True.intro | rfl) ?_
  try first | done | assumption | omega
  refine ⟨_, _, i_Wh (a := 310) rfl (by decide +kernel) (by decide +kernel) sf_eq, by omega, ?_⟩
  rintro r9 M9 ⟨rfl, rfl⟩
  refine k_Ra_init_34 _ _ _ _ _ _ _ _ ?_
  simp (disch := omega) only [↓w_nil, ↓w_cons, ↓w_pfR_2, ↓w_ald0, ↓w_new, true_and, and_true, true_implies, false_implies, not_true_eq_false, not_false_eq_true, Int.reduceEq, Int.reduceLT, Int.reduceLE, Int.reduceNeg, w_up1, w_up2, w_up3, w_up1, w_up2, w_up3, w_sf1, w_sf3, ml_o, wh_o, mx_out, mx_in, ml_0, ml_r, wh_0, wh_1, whl_o, whl_e, whl_u, whl_0, h0, w_tl0]
  repeat refine And.intro (by first | decide +kernel | assumption | omega | (unfold in32; omega) | (unfold in64; omega) | exact True.intro | exact Or.inl True.intro | exact Or.inr True.intro | rfl) ?_
  try first | done | assumption | omega
  intro a9 n9 ha hn
  obtain rfl : a9 = 312 := by omega
  obtain rfl : n9 = 313 := by omega
  refine k_Ra_init_41 _ _ _ _ _ _ _ _ ?_
  simp (disch := omega) only [↓w_nil, ↓w_cons, ↓w_dupI, ↓w_dupR, ↓w_ci, true_and, and_true, true_implies, false_implies, not_true_eq_false, not_false_eq_true, Int.reduceEq, Int.reduceLT, Int.reduceLE, Int.reduceNeg, w_c80, w_c8I, w_c8L, w_c8R, w_up1, w_up2, w_up3, w_up1, w_up2, w_up3, w_sf1, w_sf3, ml_o, wh_o, mx_out, mx_in, ml_0, ml_r, wh_0, wh_1, whl_o, whl_e, whl_u, whl_0, h0]
  repeat refine And.intro (by first | decide +kernel | assumption | omega | (unfold in32; omega) | (unfold in64; omega) | exact True.intro | exact Or.inl True.intro | exact Or.inr True.intro | rfl) ?_
  try first | done | assumption | omega
  refine ⟨_, _, i_Wh (a := 312) rfl (by decide +kernel) (by decide +kernel) sf_eq, by omega, ?_⟩
  rintro r9 M9 ⟨rfl, rfl⟩
  refine k_Ra_init_45 _ _ _ _ _ _ _ _ ?_
  simp (disch := omega) only [↓w_nil, ↓w_cons, ↓w_pfR_3, ↓w_ald0, ↓w_new, true_and, and_true, true_implies, false_implies, not_true_eq_false, not_false_eq_true, Int.reduceEq, Int.reduceLT, Int.reduceLE, Int.reduceNeg, w_up1, w_up2, w_up3, w_up1, w_up2, w_up3, w_sf1, w_sf3, ml_o, wh_o, mx_out, mx_in, ml_0, ml_r, wh_0, wh_1, whl_o, whl_e, whl_u, whl_0, h0, w_tl0]
  repeat refine And.intro (by first | decide +kernel | assumption | omega | (unfold in32; omega) | (unfold in64; omega) | exact True.intro | exact Or.inl True.intro | exact Or.inr True.intro | rfl) ?_
  try first | done | assumption | omega
  intro a9 n9 ha hn
  obtain rfl : a9 = 314 := by omega
  obtain rfl : n9 = 315 := by omega
  refine k_Ra_init_52 _ _ _ _ _ _ _ _ ?_
  simp (disch := omega) only [↓w_nil, ↓w_cons, ↓w_dupI, ↓w_dupR, ↓w_ci, true_and, and_true, true_implies, false_implies, not_true_eq_false, not_false_eq_true, Int.reduceEq, Int.reduceLT, Int.reduceLE, Int.reduceNeg, w_c80, w_c8I, w_c8L, w_c8R, w_up1, w_up2, w_up3, w_up1, w_up2, w_up3, w_sf1, w_sf3, ml_o, wh_o, mx_out, mx_in, ml_0, ml_r, wh_0, wh_1, whl_o, whl_e, whl_u, whl_0, h0]
  repeat refine And.intro (by first | decide +kernel | assumption | omega | (unfold in32; omega) | (unfold in64; omega) | exact True.intro | exact Or.inl True.intro | exact Or.inr True.intro | rfl) ?_
  try first | done | assumption | omega
  refine ⟨_, _, i_Wh (a := 314) rfl (by decide +kernel) (by decide +kernel) sf_eq, by omega, ?_⟩
  rintro r9 M9 ⟨rfl, rfl⟩
  refine k_Ra_init_56 _ _ _ _ _ _ _ _ ?_
  simp (disch := omega) only [↓w_nil, ↓w_cons, ↓w_pfR_4, ↓w_ald0, ↓w_new, true_and, and_true, true_implies, false_implies, not_true_eq_false, not_false_eq_true, Int.reduceEq, Int.reduceLT, Int.reduceLE, Int.reduceNeg, w_up1, w_up2, w_up3, w_up1, w_up2, w_up3, w_sf1, w_sf3, ml_o, wh_o, mx_out, mx_in, ml_0, ml_r, wh_0, wh_1, whl_o, whl_e, whl_u, whl_0, h0, w_tl0]
  repeat refine And.intro (by first | decide +kernel | assumption | omega | (unfold in32; omega) | (unfold in64; omega) | exact True.intro | exact Or.inl True.intro | exact Or.inr True.intro | rfl) ?_
  try first | done | assumption | omega
  intro a9 n9 ha hn
  obtain rfl : a9 = 316 := by omega
  obtain rfl : n9 = 317 := by omega
  refine k_Ra_init_63 _ _ _ _ _ _ _ _ ?_
  simp (disch := omega) only [↓w_nil, ↓w_cons, ↓w_dupI, ↓w_dupR, ↓w_ci, true_and, and_true, true_implies, false_implies, not_true_eq_false, not_false_eq_true, Int.reduceEq, Int.reduceLT, Int.reduceLE, Int.reduceNeg, w_c80, w_c8I, w_c8L, w_c8R, w_up1, w_up2, w_up3, w_up1, w_up2, w_up3, w_sf1, w_sf3, ml_o, wh_o, mx_out, mx_in, ml_0, ml_r, wh_0, wh_1, whl_o, whl_e, whl_u, whl_0, h0]
  repeat refine And.intro (by first | decide +kernel | assumption | omega | (unfold in32; omega) | (unfold in64; omega) | exact True.intro | exact Or.inl True.intro | exact Or.inr True.intro | rfl) ?_
  try first | done | assumption | omega
  refine ⟨_, _, i_Wh (a := 316) rfl (by decide +kernel) (by decide +kernel) sf_eq, by omega, ?_⟩
  rintro r9 M9 ⟨rfl, rfl⟩
  refine k_Ra_init_67 _ _ _ _ _ _ _ _ ?_
  simp (disch := omega) only [↓w_nil, ↓w_cons, ↓w_pfR_5, ↓w_ald0, ↓w_gf2_1, ↓w_lc, ↓w_cv1, true_and, and_true, true_implies, false_implies, not_true_eq_false, not_false_eq_true, Int.reduceEq, Int.reduceLT, Int.reduceLE, Int.reduceNeg, w_c80, w_c8I, w_c8L, w_c8R, w_up1, w_up2, w_up3, w_up1, w_up2, w_up3, w_sf1, w_sf3, ml_o, wh_o, mx_out, mx_in, ml_0, ml_r, wh_0, wh_1, whl_o, whl_e, whl_u, whl_0, h0, w_tl0]
  repeat refine And.intro (by first | decide +kernel | assumption | omega | (unfold in32; omega) | (unfold in64; omega) | exact True.intro | exact Or.inl True.intro | exact Or.inr True.intro | rfl) ?_
  try first | done | assumption | omega
  refine ⟨_, i_putI (w := 308) (w1 := 309) (by omega) (by omega) (by decide +kernel) (by decide +kernel) (by simp (disch := omega) only [w_up1, w_up2, w_up3, w_sf1, w_sf3, ml_o, wh_o, mx_out, mx_in, ml_0, ml_r, wh_0, wh_1, whl_o, whl_e, whl_u, whl_0, h0]; rfl), ?_⟩
  rintro r9 M9 ⟨rfl, rfl⟩
  refine k_Ra_init_78 _ _ _ _ _ _ _ _ ?_
  simp (disch := omega) only [↓w_nil, ↓w_vret, true_and, and_true, true_implies, false_implies, not_true_eq_false, not_false_eq_true, Int.reduceEq, Int.reduceLT, Int.reduceLE, Int.reduceNeg, w_up1, w_up2, w_up3, w_up1, w_up2, w_up3, w_sf1, w_sf3, ml_o, wh_o, mx_out, mx_in, ml_0, ml_r, wh_0, wh_1, whl_o, whl_e, whl_u, whl_0, h0, w_tl0]
  repeat refine And.intro (by first | decide +kernel | assumption | omega | (unfold in32; omega) | (unfold in64; omega) | exact True.intro | exact Or.inl True.intro | exact Or.inr True.intro | rfl) ?_
  try first | done | assumption | omega
  try unfold cw_hide
  try refine ⟨rfl, ?_⟩
  intro c c0 c1 k q0 q1
  by_cases e0 : (305 : Int) ≤ c ∧ c < 318
  · rw [mx_in e0]
    rcases (show c = 305 ∨ c = 306 ∨ c = 307 ∨ c = 308 ∨ c = 309 ∨ c = 310 ∨ c = 311 ∨ c = 312 ∨ c = 313 ∨ c = 314 ∨ c = 315 ∨ c = 316 ∨ c = 317 by omega) with rfl | rfl | rfl | rfl | rfl | rfl | rfl | rfl | rfl | rfl | rfl | rfl | rfl
    · rw [show cw_vs (Int.toNat 305) = 6 from by decide +kernel] at q1
      rcases (show k = 0 ∨ k = 1 ∨ k = 2 ∨ k = 3 ∨ k = 4 ∨ k = 5 by omega) with rfl | rfl | rfl | rfl | rfl | rfl
      all_goals (simp (disch := omega) only [w_up1, w_up2, w_up3, w_sf1, w_sf3, ml_o, wh_o, mx_out, mx_in, ml_0, ml_r, wh_0, wh_1, whl_o, whl_e, whl_u, whl_0, h0]; decide +kernel)
    · rw [show cw_vs (Int.toNat 306) = 3 from by decide +kernel] at q1
      rcases (show k = 0 ∨ k = 1 ∨ k = 2 by omega) with rfl | rfl | rfl
      all_goals (simp (disch := omega) only [w_up1, w_up2, w_up3, w_sf1, w_sf3, ml_o, wh_o, mx_out, mx_in, ml_0, ml_r, wh_0, wh_1, whl_o, whl_e, whl_u, whl_0, h0]; decide +kernel)
    · simp (disch := omega) only [w_up1, w_up2, w_up3, w_sf1, w_sf3, ml_o, wh_o, mx_out, mx_in, ml_0, ml_r, wh_0, wh_1, whl_o, whl_e, whl_u, whl_0, h0]; exact W_z (by decide +kernel)
    · rw [show cw_vs (Int.toNat 308) = 3 from by decide +kernel] at q1
      rcases (show k = 0 ∨ k = 1 ∨ k = 2 by omega) with rfl | rfl | rfl
      all_goals (simp (disch := omega) only [w_up1, w_up2, w_up3, w_sf1, w_sf3, ml_o, wh_o, mx_out, mx_in, ml_0, ml_r, wh_0, wh_1, whl_o, whl_e, whl_u, whl_0, h0]; decide +kernel)
    · rw [show cw_vs (Int.toNat 309) = 16 from by decide +kernel] at q1
      rcases (show k = 0 ∨ k = 1 ∨ k = 2 ∨ k = 3 ∨ k = 4 ∨ k = 5 ∨ k = 6 ∨ k = 7 ∨ k = 8 ∨ k = 9 ∨ k = 10 ∨ k = 11 ∨ k = 12 ∨ k = 13 ∨ k = 14 ∨ k = 15 by omega) with rfl | rfl | rfl | rfl | rfl | rfl | rfl | rfl | rfl | rfl | rfl | rfl | rfl | rfl | rfl | rfl
      all_goals (simp (disch := omega) only [w_up1, w_up2, w_up3, w_sf1, w_sf3, ml_o, wh_o, mx_out, mx_in, ml_0, ml_r, wh_0, wh_1, whl_o, whl_e, whl_u, whl_0, h0]; decide +kernel)
    · rw [show cw_vs (Int.toNat 310) = 3 from by decide +kernel] at q1
      rcases (show k = 0 ∨ k = 1 ∨ k = 2 by omega) with rfl | rfl | rfl
      all_goals (simp (disch := omega) only [w_up1, w_up2, w_up3, w_sf1, w_sf3, ml_o, wh_o, mx_out, mx_in, ml_0, ml_r, wh_0, wh_1, whl_o, whl_e, whl_u, whl_0, h0]; decide +kernel)
    · simp (disch := omega) only [w_up1, w_up2, w_up3, w_sf1, w_sf3, ml_o, wh_o, mx_out, mx_in, ml_0, ml_r, wh_0, wh_1, whl_o, whl_e, whl_u, whl_0, h0]; exact W_z (by decide +kernel)
    · rw [show cw_vs (Int.toNat 312) = 3 from by decide +kernel] at q1
      rcases (show k = 0 ∨ k = 1 ∨ k = 2 by omega) with rfl | rfl | rfl
      all_goals (simp (disch := omega) only [w_up1, w_up2, w_up3, w_sf1, w_sf3, ml_o, wh_o, mx_out, mx_in, ml_0, ml_r, wh_0, wh_1, whl_o, whl_e, whl_u, whl_0, h0]; decide +kernel)
    · simp (disch := omega) only [w_up1, w_up2, w_up3, w_sf1, w_sf3, ml_o, wh_o, mx_out, mx_in, ml_0, ml_r, wh_0, wh_1, whl_o, whl_e, whl_u, whl_0, h0]; exact W_z (by decide +kernel)
    · rw [show cw_vs (Int.toNat 314) = 3 from by decide +kernel] at q1
      rcases (show k = 0 ∨ k = 1 ∨ k = 2 by omega) with rfl | rfl | rfl
      all_goals (simp (disch := omega) only [w_up1, w_up2, w_up3, w_sf1, w_sf3, ml_o, wh_o, mx_out, mx_in, ml_0, ml_r, wh_0, wh_1, whl_o, whl_e, whl_u, whl_0, h0]; decide +kernel)
    · simp (disch := omega) only [w_up1, w_up2, w_up3, w_sf1, w_sf3, ml_o, wh_o, mx_out, mx_in, ml_0, ml_r, wh_0, wh_1, whl_o, whl_e, whl_u, whl_0, h0]; exact W_z (by decide +kernel)
    · rw [show cw_vs (Int.toNat 316) = 3 from by decide +kernel] at q1
      rcases (show k = 0 ∨ k = 1 ∨ k = 2 by omega) with rfl | rfl | rfl
      all_goals (simp (disch := omega) only [w_up1, w_up2, w_up3, w_sf1, w_sf3, ml_o, wh_o, mx_out, mx_in, ml_0, ml_r, wh_0, wh_1, whl_o, whl_e, whl_u, whl_0, h0]; decide +kernel)
    · simp (disch := omega) only [w_up1, w_up2, w_up3, w_sf1, w_sf3, ml_o, wh_o, mx_out, mx_in, ml_0, ml_r, wh_0, wh_1, whl_o, whl_e, whl_u, whl_0, h0]; exact W_z (by decide +kernel)
  · rw [mx_out e0]
    simp (disch := omega) only [w_up3, w_sf3, ml_o, wh_o, mx_out, whl_u]
set_option maxHeartbeats 8000000 in
theorem i_Sa_1 {g : cw_G} {M : cw_M} (h0 : M 1 = cw_zr 9) : cw_C g y_Sa_init [.inr (.inr 1)] M 2 47 (fun q M' => q = none ∧ M' = cw_mx M 1 47) := by
  refine cw_C_vis ?_
  refine cw_C_of (L := [.inr (.inr 1)]) ok_Sa_init (Nat.le_of_ble_eq_true rfl) (Nat.le_of_ble_eq_true rfl) rfl ?_
  refine cw_J_hide ?_
  refine k_Sa_init_0 _ _ _ _ _ _ _ _ ?_
  simp (disch := omega) only [↓w_nil, ↓w_cons, ↓w_ald0, ↓w_oi, true_and, and_true, true_implies, false_implies, not_true_eq_false, not_false_eq_true, Int.reduceEq, Int.reduceLT, Int.reduceLE, Int.reduceNeg, w_c80, w_c8I, w_c8L, w_c8R, w_up1, w_up2, w_up3, w_up1, w_up2, w_up3, w_sf1, w_sf3, ml_o, wh_o, mx_out, mx_in, ml_0, ml_r, wh_0, wh_1, whl_o, whl_e, whl_u, whl_0, h0]
  repeat refine And.intro (by first | decide +kernel | assumption | omega | (unfold in32; omega) | (unfold in64; omega) | exact True.intro | exact Or.inl True.intro | exact Or.inr True.intro | rfl) ?_
  try first | done | assumption | omega
  refine k_Sa_init_4 _ _ _ _ _ _ _ _ ?_
  simp (disch := omega) only [↓w_nil, ↓w_cons, ↓w_ald0, ↓w_new, true_and, and_true, true_implies, false_implies, not_true_eq_false, not_false_eq_true, Int.reduceEq, Int.reduceLT, Int.reduceLE, Int.reduceNeg, w_up1, w_up2, w_up3, w_up1, w_up2, w_up3, w_sf1, w_sf3, ml_o, wh_o, mx_out, mx_in, ml_0, ml_r, wh_0, wh_1, whl_o, whl_e, whl_u, whl_0, h0]
  repeat refine And.intro (by first | decide +kernel | assumption | omega | (unfold in32; omega) | (unfold in64; omega) | exact True.intro | exact Or.inl True.intro | exact Or.inr True.intro | rfl) ?_
  try first | done | assumption | omega
  intro a9 n9 ha hn
  obtain rfl : a9 = 2 := by omega
  obtain rfl : n9 = 3 := by omega
  refine k_Sa_init_8 _ _ _ _ _ _ _ _ ?_
  simp (disch := omega) only [↓w_nil, ↓w_cons, ↓w_dupI, ↓w_dupR, ↓w_ci, true_and, and_true, true_implies, false_implies, not_true_eq_false, not_false_eq_true, Int.reduceEq, Int.reduceLT, Int.reduceLE, Int.reduceNeg, w_c80, w_c8I, w_c8L, w_c8R, w_up1, w_up2, w_up3, w_up1, w_up2, w_up3, w_sf1, w_sf3, ml_o, wh_o, mx_out, mx_in, ml_0, ml_r, wh_0, wh_1, whl_o, whl_e, whl_u, whl_0, h0]
  repeat refine And.intro (by first | decide +kernel | assumption | omega | (unfold in32; omega) | (unfold in64; omega) | exact True.intro | exact Or.inl True.intro | exact Or.inr True.intro | rfl) ?_
  try first | done | assumption | omega
  refine ⟨_, _, i_Ma_2 sf_eq, by omega, ?_⟩
  rintro r9 M9 ⟨rfl, rfl⟩
  refine k_Sa_init_12 _ _ _ _ _ _ _ _ ?_
  simp (disch := omega) only [↓w_nil, ↓w_cons, ↓w_pfR_0, ↓w_ald0, ↓w_new, true_and, and_true, true_implies, false_implies, not_true_eq_false, not_false_eq_true, Int.reduceEq, Int.reduceLT, Int.reduceLE, Int.reduceNeg, w_up1, w_up2, w_up3, w_up1, w_up2, w_up3, w_sf1, w_sf3, ml_o, wh_o, mx_out, mx_in, ml_0, ml_r, wh_0, wh_1, whl_o, whl_e, whl_u, whl_0, h0, w_tl0]
  repeat refine And.intro (by first | decide +kernel | assumption | omega | (unfold in32; omega) | (unfold in64; omega) | exact True.intro | exact Or.inl True.intro | exact Or.inr True.intro | rfl) ?_
  try first | done | assumption | omega
  intro a9 n9 ha hn
  obtain rfl : a9 = 27 := by omega
  obtain rfl : n9 = 28 := by omega
  refine k_Sa_init_19 _ _ _ _ _ _ _ _ ?_
  simp (disch := omega) only [↓w_nil, ↓w_cons, ↓w_dupI, ↓w_dupR, ↓w_ci, true_and, and_true, true_implies, false_implies, not_true_eq_false, not_false_eq_true, Int.reduceEq, Int.reduceLT, Int.reduceLE, Int.reduceNeg, w_c80, w_c8I, w_c8L, w_c8R, w_up1, w_up2, w_up3, w_up1, w_up2, w_up3, w_sf1, w_sf3, ml_o, wh_o, mx_out, mx_in, ml_0, ml_r, wh_0, wh_1, whl_o, whl_e, whl_u, whl_0, h0]
  repeat refine And.intro (by first | decide +kernel | assumption | omega | (unfold in32; omega) | (unfold in64; omega) | exact True.intro | exact Or.inl True.intro | exact Or.inr True.intro | rfl) ?_
  try first | done | assumption | omega
  refine ⟨_, _, i_Se_27 sf_eq, by omega, ?_⟩
  rintro r9 M9 ⟨rfl, rfl⟩
  refine k_Sa_init_23 _ _ _ _ _ _ _ _ ?_
  simp (disch := omega) only [↓w_nil, ↓w_cons, ↓w_pfR_1, ↓w_ald0, ↓w_new, true_and, and_true, true_implies, false_implies, not_true_eq_false, not_false_eq_true, Int.reduceEq, Int.reduceLT, Int.reduceLE, Int.reduceNeg, w_up1, w_up2, w_up3, w_up1, w_up2, w_up3, w_sf1, w_sf3, ml_o, wh_o, mx_out, mx_in, ml_0, ml_r, wh_0, wh_1, whl_o, whl_e, whl_u, whl_0, h0, w_tl0]
  repeat refine And.intro (by first | decide +kernel | assumption | omega | (unfold in32; omega) | (unfold in64; omega) | exact True.intro | exact Or.inl True.intro | exact Or.inr True.intro | rfl) ?_
  try first | done | assumption | omega
  intro a9 n9 ha hn
  obtain rfl : a9 = 31 := by omega
  obtain rfl : n9 = 32 := by omega
  refine k_Sa_init_30 _ _ _ _ _ _ _ _ ?_
  simp (disch := omega) only [↓w_nil, ↓w_cons, ↓w_dupI, ↓w_dupR, ↓w_ci, true_and, and_true, true_implies, false_implies, not_true_eq_false, not_false_eq_true, Int.reduceEq, Int.reduceLT, Int.reduceLE, Int.reduceNeg, w_c80, w_c8I, w_c8L, w_c8R, w_up1, w_up2, w_up3, w_up1, w_up2, w_up3, w_sf1, w_sf3, ml_o, wh_o, mx_out, mx_in, ml_0, ml_r, wh_0, wh_1, whl_o, whl_e, whl_u, whl_0, h0]
  repeat refine And.intro (by first | decide +kernel | assumption | omega | (unfold in32; omega) | (unfold in64; omega) | exact True.intro | exact Or.inl True.intro | exact Or.inr True.intro | rfl) ?_
  try first | done | assumption | omega
  refine ⟨_, _, i_Sl_31 sf_eq, by omega, ?_⟩
  rintro r9 M9 ⟨rfl, rfl⟩
  refine k_Sa_init_34 _ _ _ _ _ _ _ _ ?_
  simp (disch := omega) only [↓w_nil, ↓w_cons, ↓w_pfR_2, ↓w_ald0, ↓w_new, true_and, and_true, true_implies, false_implies, not_true_eq_false, not_false_eq_true, Int.reduceEq, Int.reduceLT, Int.reduceLE, Int.reduceNeg, w_up1, w_up2, w_up3, w_up1, w_up2, w_up3, w_sf1, w_sf3, ml_o, wh_o, mx_out, mx_in, ml_0, ml_r, wh_0, wh_1, whl_o, whl_e, whl_u, whl_0, h0, w_tl0]
  repeat refine And.intro (by first | decide +kernel | assumption | omega | (unfold in32; omega) | (unfold in64; omega) | exact True.intro | exact Or.inl True.intro | exact Or.inr True.intro | rfl) ?_
  try first | done | assumption | omega
  intro a9 n9 ha hn
  obtain rfl : a9 = 34 := by omega
  obtain rfl : n9 = 35 := by omega
  refine k_Sa_init_41 _ _ _ _ _ _ _ _ ?_
  simp (disch := omega) only [↓w_nil, ↓w_cons, ↓w_dupI, ↓w_dupR, ↓w_ci, true_and, and_true, true_implies, false_implies, not_true_eq_false, not_false_eq_true, Int.reduceEq, Int.reduceLT, Int.reduceLE, Int.reduceNeg, w_c80, w_c8I, w_c8L, w_c8R, w_up1, w_up2, w_up3, w_up1, w_up2, w_up3, w_sf1, w_sf3, ml_o, wh_o, mx_out, mx_in, ml_0, ml_r, wh_0, wh_1, whl_o, whl_e, whl_u, whl_0, h0]
  repeat refine And.intro (by first | decide +kernel | assumption | omega | (unfold in32; omega) | (unfold in64; omega) | exact True.intro | exact Or.inl True.intro | exact Or.inr True.intro | rfl) ?_
  try first | done | assumption | omega
  refine ⟨_, _, i_Dr_34 sf_eq, by omega, ?_⟩
  rintro r9 M9 ⟨rfl, rfl⟩
  refine k_Sa_init_45 _ _ _ _ _ _ _ _ ?_
  simp (disch := omega) only [↓w_nil, ↓w_cons, ↓w_pfR_3, ↓w_ald0, ↓w_new, true_and, and_true, true_implies, false_implies, not_true_eq_false, not_false_eq_true, Int.reduceEq, Int.reduceLT, Int.reduceLE, Int.reduceNeg, w_up1, w_up2, w_up3, w_up1, w_up2, w_up3, w_sf1, w_sf3, ml_o, wh_o, mx_out, mx_in, ml_0, ml_r, wh_0, wh_1, whl_o, whl_e, whl_u, whl_0, h0, w_tl0]
  repeat refine And.intro (by first | decide +kernel | assumption | omega | (unfold in32; omega) | (unfold in64; omega) | exact True.intro | exact Or.inl True.intro | exact Or.inr True.intro | rfl) ?_
  try first | done | assumption | omega
  intro a9 n9 ha hn
  obtain rfl : a9 = 35 := by omega
  obtain rfl : n9 = 36 := by omega
  refine k_Sa_init_52 _ _ _ _ _ _ _ _ ?_
  simp (disch := omega) only [↓w_nil, ↓w_cons, ↓w_dupI, ↓w_dupR, ↓w_ci, true_and, and_true, true_implies, false_implies, not_true_eq_false, not_false_eq_true, Int.reduceEq, Int.reduceLT, Int.reduceLE, Int.reduceNeg, w_c80, w_c8I, w_c8L, w_c8R, w_up1, w_up2, w_up3, w_up1, w_up2, w_up3, w_sf1, w_sf3, ml_o, wh_o, mx_out, mx_in, ml_0, ml_r, wh_0, wh_1, whl_o, whl_e, whl_u, whl_0, h0]
  repeat refine And.intro (by first | decide +kernel | assumption | omega | (unfold in32; omega) | (unfold in64; omega) | exact True.intro | exact Or.inl True.intro | exact Or.inr True.intro | rfl) ?_
  try first | done | assumption | omega
  refine ⟨_, _, i_Bo_35 sf_eq, by omega, ?_⟩
  rintro r9 M9 ⟨rfl, rfl⟩
  refine k_Sa_init_56 _ _ _ _ _ _ _ _ ?_
  simp (disch := omega) only [↓w_nil, ↓w_cons, ↓w_pfR_4, ↓w_vret, true_and, and_true, true_implies, false_implies, not_true_eq_false, not_false_eq_true, Int.reduceEq, Int.reduceLT, Int.reduceLE, Int.reduceNeg, w_up1, w_up2, w_up3, w_up1, w_up2, w_up3, w_sf1, w_sf3, ml_o, wh_o, mx_out, mx_in, ml_0, ml_r, wh_0, wh_1, whl_o, whl_e, whl_u, whl_0, h0, w_tl0]
  repeat refine And.intro (by first | decide +kernel | assumption | omega | (unfold in32; omega) | (unfold in64; omega) | exact True.intro | exact Or.inl True.intro | exact Or.inr True.intro | rfl) ?_
  try first | done | assumption | omega
  try unfold cw_hide
  try refine ⟨rfl, ?_⟩
  intro c c0 c1 k q0 q1
  by_cases e0 : (1 : Int) ≤ c ∧ c < 47
  · rw [mx_in e0]
    rcases (show c = 1 ∨ (2 ≤ c ∧ c < 27) ∨ (27 ≤ c ∧ c < 31) ∨ (31 ≤ c ∧ c < 34) ∨ c = 34 ∨ (35 ≤ c ∧ c < 47) by omega) with rfl | h | h | h | rfl | h
    · rw [show cw_vs (Int.toNat 1) = 5 from by decide +kernel] at q1
      rcases (show k = 0 ∨ k = 1 ∨ k = 2 ∨ k = 3 ∨ k = 4 by omega) with rfl | rfl | rfl | rfl | rfl
      all_goals (simp (disch := omega) only [w_up1, w_up2, w_up3, w_sf1, w_sf3, ml_o, wh_o, mx_out, mx_in, ml_0, ml_r, wh_0, wh_1, whl_o, whl_e, whl_u, whl_0, h0]; decide +kernel)
    · simp (disch := omega) only [w_up1, w_up2, w_up3, w_sf1, w_sf3, ml_o, wh_o, mx_out, mx_in, ml_0, ml_r, wh_0, wh_1, whl_o, whl_e, whl_u, whl_0, h0]
    · simp (disch := omega) only [w_up1, w_up2, w_up3, w_sf1, w_sf3, ml_o, wh_o, mx_out, mx_in, ml_0, ml_r, wh_0, wh_1, whl_o, whl_e, whl_u, whl_0, h0]
    · simp (disch := omega) only [w_up1, w_up2, w_up3, w_sf1, w_sf3, ml_o, wh_o, mx_out, mx_in, ml_0, ml_r, wh_0, wh_1, whl_o, whl_e, whl_u, whl_0, h0]
    · simp (disch := omega) only [w_up1, w_up2, w_up3, w_sf1, w_sf3, ml_o, wh_o, mx_out, mx_in, ml_0, ml_r, wh_0, wh_1, whl_o, whl_e, whl_u, whl_0, h0]
    · simp (disch := omega) only [w_up1, w_up2, w_up3, w_sf1, w_sf3, ml_o, wh_o, mx_out, mx_in, ml_0, ml_r, wh_0, wh_1, whl_o, whl_e, whl_u, whl_0, h0]
  · rw [mx_out e0]
    simp (disch := omega) only [w_up3, w_sf3, ml_o, wh_o, mx_out, whl_u]
set_option maxHeartbeats 8000000 in
theorem i_Sa_48 {g : cw_G} {M : cw_M} (h0 : M 48 = cw_zr 9) : cw_C g y_Sa_init [.inr (.inr 48)] M 49 94 (fun q M' => q = none ∧ M' = cw_mx M 48 94) := by
  refine cw_C_vis ?_
  refine cw_C_of (L := [.inr (.inr 48)]) ok_Sa_init (Nat.le_of_ble_eq_true rfl) (Nat.le_of_ble_eq_true rfl) rfl ?_
  refine cw_J_hide ?_
  refine k_Sa_init_0 _ _ _ _ _ _ _ _ ?_
  simp (disch := omega) only [↓w_nil, ↓w_cons, ↓w_ald0, ↓w_oi, true_and, and_true, true_implies, false_implies, not_true_eq_false, not_false_eq_true, Int.reduceEq, Int.reduceLT, Int.reduceLE, Int.reduceNeg, w_c80, w_c8I, w_c8L, w_c8R, w_up1, w_up2, w_up3, w_up1, w_up2, w_up3, w_sf1, w_sf3, ml_o, wh_o, mx_out, mx_in, ml_0, ml_r, wh_0, wh_1, whl_o, whl_e, whl_u, whl_0, h0]
  repeat refine And.intro (by first | decide +kernel | assumption | omega | (unfold in32; omega) | (unfold in64; omega) | exact True.intro | exact Or.inl True.intro | exact Or.inr True.intro | rfl) ?_
  try first | done | assumption | omega
  refine k_Sa_init_4 _ _ _ _ _ _ _ _ ?_
  simp (disch := omega) only [↓w_nil, ↓w_cons, ↓w_ald0, ↓w_new, true_and, and_true, true_implies, false_implies, not_true_eq_false, not_false_eq_true, Int.reduceEq, Int.reduceLT, Int.reduceLE, Int.reduceNeg, w_up1, w_up2, w_up3, w_up1, w_up2, w_up3, w_sf1, w_sf3, ml_o, wh_o, mx_out, mx_in, ml_0, ml_r, wh_0, wh_1, whl_o, whl_e, whl_u, whl_0, h0]
  repeat refine And.intro (by first | decide +kernel | assumption | omega | (unfold in32; omega) | (unfold in64; omega) | exact True.intro | exact Or.inl True.intro | exact Or.inr True.intro | rfl) ?_
  try first | done | assumption | omega
  intro a9 n9 ha hn
  obtain rfl : a9 = 49 := by omega
  obtain rfl : n9 = 50 := by omega
  refine k_Sa_init_8 _ _ _ _ _ _ _ _ ?_
  simp (disch := omega) only [↓w_nil, ↓w_cons, ↓w_dupI, ↓w_dupR, ↓w_ci, true_and, and_true, true_implies, false_implies, not_true_eq_false, not_false_eq_true, Int.reduceEq, Int.reduceLT, Int.reduceLE, Int.reduceNeg, w_c80, w_c8I, w_c8L, w_c8R, w_up1, w_up2, w_up3, w_up1, w_up2, w_up3, w_sf1, w_sf3, ml_o, wh_o, mx_out, mx_in, ml_0, ml_r, wh_0, wh_1, whl_o, whl_e, whl_u, whl_0, h0]
  repeat refine And.intro (by first | decide +kernel | assumption | omega | (unfold in32; omega) | (unfold in64; omega) | exact True.intro | exact Or.inl True.intro | exact Or.inr True.intro | rfl) ?_
  try first | done | assumption | omega
  refine ⟨_, _, i_Ma_49 sf_eq, by omega, ?_⟩
  rintro r9 M9 ⟨rfl, rfl⟩
  refine k_Sa_init_12 _ _ _ _ _ _ _ _ ?_
  simp (disch := omega) only [↓w_nil, ↓w_cons, ↓w_pfR_0, ↓w_ald0, ↓w_new, true_and, and_true, true_implies, false_implies, not_true_eq_false, not_false_eq_true, Int.reduceEq, Int.reduceLT, Int.reduceLE, Int.reduceNeg, w_up1, w_up2, w_up3, w_up1, w_up2, w_up3, w_sf1, w_sf3, ml_o, wh_o, mx_out, mx_in, ml_0, ml_r, wh_0, wh_1, whl_o, whl_e, whl_u, whl_0, h0, w_tl0]
  repeat refine And.intro (by first | decide +kernel | assumption | omega | (unfold in32; omega) | (unfold in64; omega) | exact True.intro | exact Or.inl True.intro | exact Or.inr True.intro | rfl) ?_
  try first | done | assumption | omega
  intro a9 n9 ha hn
  obtain rfl : a9 = 74 := by omega
  obtain rfl : n9 = 75 := by omega
  refine k_Sa_init_19 _ _ _ _ _ _ _ _ ?_
  simp (disch := omega) only [↓w_nil, ↓w_cons, ↓w_dupI, ↓w_dupR, ↓w_ci, true_and, and_true, true_implies, false_implies, not_true_eq_false, not_false_eq_true, Int.reduceEq, Int.reduceLT, Int.reduceLE, Int.reduceNeg, w_c80, w_c8I, w_c8L, w_c8R, w_up1, w_up2, w_up3, w_up1, w_up2, w_up3, w_sf1, w_sf3, ml_o, wh_o, mx_out, mx_in, ml_0, ml_r, wh_0, wh_1, whl_o, whl_e, whl_u, whl_0, h0]
  repeat refine And.intro (by first | decide +kernel | assumption | omega | (unfold in32; omega) | (unfold in64; omega) | exact True.intro | exact Or.inl True.intro | exact Or.inr True.intro | rfl) ?_
  try first | done | assumption | omega
  refine ⟨_, _, i_Se_74 sf_eq, by omega, ?_⟩
  rintro r9 M9 ⟨rfl, rfl⟩
  refine k_Sa_init_23 _ _ _ _ _ _ _ _ ?_
  simp (disch := omega) only [↓w_nil, ↓w_cons, ↓w_pfR_1, ↓w_ald0, ↓w_new, true_and, and_true, true_implies, false_implies, not_true_eq_false, not_false_eq_true, Int.reduceEq, Int.reduceLT, Int.reduceLE, Int.reduceNeg, w_up1, w_up2, w_up3, w_up1, w_up2, w_up3, w_sf1, w_sf3, ml_o, wh_o, mx_out, mx_in, ml_0, ml_r, wh_0, wh_1, whl_o, whl_e, whl_u, whl_0, h0, w_tl0]
  repeat refine And.intro (by first | decide +kernel | assumption | omega | (unfold in32; omega) | (unfold in64; omega) | exact True.intro | exact Or.inl True.intro | exact Or.inr True.intro | rfl) ?_
  try first | done | assumption | omega
  intro a9 n9 ha hn
  obtain rfl : a9 = 78 := by omega
  obtain rfl : n9 = 79 := by omega
  refine k_Sa_init_30 _ _ _ _ _ _ _ _ ?_
  simp (disch := omega) only [↓w_nil, ↓w_cons, ↓w_dupI, ↓w_dupR, ↓w_ci, true_and, and_true, true_implies, false_implies, not_true_eq_false, not_false_eq_true, Int.reduceEq, Int.reduceLT, Int.reduceLE, Int.reduceNeg, w_c80, w_c8I, w_c8L, w_c8R, w_up1, w_up2, w_up3, w_up1, w_up2, w_up3, w_sf1, w_sf3, ml_o, wh_o, mx_out, mx_in, ml_0, ml_r, wh_0, wh_1, whl_o, whl_e, whl_u, whl_0, h0]
  repeat refine And.intro (by first | decide +kernel | assumption | omega | (unfold in32; omega) | (unfold in64; omega) | exact True.intro | exact Or.inl True.intro | exact Or.inr True.intro | rfl) ?_
  try first | done | assumption | omega
  refine ⟨_, _, i_Sl_78 sf_eq, by omega, ?_⟩
  rintro r9 M9 ⟨rfl, rfl⟩
  refine k_Sa_init_34 _ _ _ _ _ _ _ _ ?_
  simp (disch := omega) only [↓w_nil, ↓w_cons, ↓w_pfR_2, ↓w_ald0, ↓w_new, true_and, and_true, true_implies, false_implies, not_true_eq_false, not_false_eq_true, Int.reduceEq, Int.reduceLT, Int.reduceLE, Int.reduceNeg, w_up1, w_up2, w_up3, w_up1, w_up2, w_up3, w_sf1, w_sf3, ml_o, wh_o, mx_out, mx_in, ml_0, ml_r, wh_0, wh_1, whl_o, whl_e, whl_u, whl_0, h0, w_tl0]
  repeat refine And.intro (by first | decide +kernel | assumption | omega | (unfold in32; omega) | (unfold in64; omega) | exact True.intro | exact Or.inl True.intro | exact Or.inr True.intro | rfl) ?_
  try first | done | assumption | omega
  intro a9 n9 ha hn
  obtain rfl : a9 = 81 := by omega
  obtain rfl : n9 = 82 := by omega
  refine k_Sa_init_41 _ _ _ _ _ _ _ _ ?_
  simp (disch := omega) only [↓w_nil, ↓w_cons, ↓w_dupI, ↓w_dupR, ↓w_ci, true_and, and_true, true_implies, false_implies, not_true_eq_false, not_false_eq_true, Int.reduceEq, Int.reduceLT, Int.reduceLE, Int.reduceNeg, w_c80, w_c8I, w_c8L, w_c8R, w_up1, w_up2, w_up3, w_up1, w_up2, w_up3, w_sf1, w_sf3, ml_o, wh_o, mx_out, mx_in, ml_0, ml_r, wh_0, wh_1, whl_o, whl_e, whl_u, whl_0, h0]
  repeat refine And.intro (by first | decide +kernel | assumption | omega | (unfold in32; omega) | (unfold in64; omega) | exact True.intro | exact Or.inl True.intro | exact Or.inr True.intro | rfl) ?_
  try first | done | assumption | omega
  refine ⟨_, _, i_Dr_81 sf_eq, by omega, ?_⟩
  rintro r9 M9 ⟨rfl, rfl⟩
  refine k_Sa_init_45 _ _ _ _ _ _ _ _ ?_
  simp (disch := omega) only [↓w_nil, ↓w_cons, ↓w_pfR_3, ↓w_ald0, ↓w_new, true_and, and_true, true_implies, false_implies, not_true_eq_false, not_false_eq_true, Int.reduceEq, Int.reduceLT, Int.reduceLE, Int.reduceNeg, w_up1, w_up2, w_up3, w_up1, w_up2, w_up3, w_sf1, w_sf3, ml_o, wh_o, mx_out, mx_in, ml_0, ml_r, wh_0, wh_1, whl_o, whl_e, whl_u, whl_0, h0, w_tl0]
  repeat refine And.intro (by first | decide +kernel | assumption | omega | (unfold in32; omega) | (unfold in64; omega) | exact True.intro | exact Or.inl True.intro | exact Or.inr True.intro | rfl) ?_
  try first | done | assumption | omega
  intro a9 n9 ha hn
  obtain rfl : a9 = 82 := by omega
  obtain rfl : n9 = 83 := by omega
  refine k_Sa_init_52 _ _ _ _ _ _ _ _ ?_
  simp (disch := omega) only [↓w_nil, ↓w_cons, ↓w_dupI, ↓w_dupR, ↓w_ci, true_and, and_true, true_implies, false_implies, not_true_eq_false, not_false_eq_true, Int.reduceEq, Int.reduceLT, Int.reduceLE, Int.reduceNeg, w_c80, w_c8I, w_c8L, w_c8R, w_up1, w_up2, w_up3, w_up1, w_up2, w_up3, w_sf1, w_sf3, ml_o, wh_o, mx_out, mx_in, ml_0, ml_r, wh_0, wh_1, whl_o, whl_e, whl_u, whl_0, h0]
  repeat refine And.intro (by first | decide +kernel | assumption | omega | (unfold in32; omega) | (unfold in64; omega) | exact True.intro | exact Or.inl True.intro | exact Or.inr True.intro | rfl) ?_
  try first | done | assumption | omega
  refine ⟨_, _, i_Bo_82 sf_eq, by omega, ?_⟩
  rintro r9 M9 ⟨rfl, rfl⟩
  refine k_Sa_init_56 _ _ _ _ _ _ _ _ ?_
  simp (disch := omega) only [↓w_nil, ↓w_cons, ↓w_pfR_4, ↓w_vret, true_and, and_true, true_implies, false_implies, not_true_eq_false, not_false_eq_true, Int.reduceEq, Int.reduceLT, Int.reduceLE, Int.reduceNeg, w_up1, w_up2, w_up3, w_up1, w_up2, w_up3, w_sf1, w_sf3, ml_o, wh_o, mx_out, mx_in, ml_0, ml_r, wh_0, wh_1, whl_o, whl_e, whl_u, whl_0, h0, w_tl0]
  repeat refine And.intro (by first | decide +kernel | assumption | omega | (unfold in32; omega) | (unfold in64; omega) | exact True.intro | exact Or.inl True.intro | exact Or.inr True.intro | rfl) ?_
  try first | done | assumption | omega
  try unfold cw_hide
  try refine ⟨rfl, ?_⟩
  intro c c0 c1 k q0 q1
  by_cases e0 : (48 : Int) ≤ c ∧ c < 94
  · rw [mx_in e0]
    rcases (show c = 48 ∨ (49 ≤ c ∧ c < 74) ∨ (74 ≤ c ∧ c < 78) ∨ (78 ≤ c ∧ c < 81) ∨ c = 81 ∨ (82 ≤ c ∧ c < 94) by omega) with rfl | h | h | h | rfl | h
    · rw [show cw_vs (Int.toNat 48) = 5 from by decide +kernel] at q1
      rcases (show k = 0 ∨ k = 1 ∨ k = 2 ∨ k = 3 ∨ k = 4 by omega) with rfl | rfl | rfl | rfl | rfl
      all_goals (simp (disch := omega) only [w_up1, w_up2, w_up3, w_sf1, w_sf3, ml_o, wh_o, mx_out, mx_in, ml_0, ml_r, wh_0, wh_1, whl_o, whl_e, whl_u, whl_0, h0]; decide +kernel)
    · simp (disch := omega) only [w_up1, w_up2, w_up3, w_sf1, w_sf3, ml_o, wh_o, mx_out, mx_in, ml_0, ml_r, wh_0, wh_1, whl_o, whl_e, whl_u, whl_0, h0]
    · simp (disch := omega) only [w_up1, w_up2, w_up3, w_sf1, w_sf3, ml_o, wh_o, mx_out, mx_in, ml_0, ml_r, wh_0, wh_1, whl_o, whl_e, whl_u, whl_0, h0]
    · simp (disch := omega) only [w_up1, w_up2, w_up3, w_sf1, w_sf3, ml_o, wh_o, mx_out, mx_in, ml_0, ml_r, wh_0, wh_1, whl_o, whl_e, whl_u, whl_0, h0]
    · simp (disch := omega) only [w_up1, w_up2, w_up3, w_sf1, w_sf3, ml_o, wh_o, mx_out, mx_in, ml_0, ml_r, wh_0, wh_1, whl_o, whl_e, whl_u, whl_0, h0]
    · simp (disch := omega) only [w_up1, w_up2, w_up3, w_sf1, w_sf3, ml_o, wh_o, mx_out, mx_in, ml_0, ml_r, wh_0, wh_1, whl_o, whl_e, whl_u, whl_0, h0]
  · rw [mx_out e0]
    simp (disch := omega) only [w_up3, w_sf3, ml_o, wh_o, mx_out, whl_u]
set_option maxHeartbeats 8000000 in
theorem i_Sa_94 {g : cw_G} {M : cw_M} (h0 : M 94 = cw_zr 9) : cw_C g y_Sa_init [.inr (.inr 94)] M 95 140 (fun q M' => q = none ∧ M' = cw_mx M 94 140) := by
  refine cw_C_vis ?_
  refine cw_C_of (L := [.inr (.inr 94)]) ok_Sa_init (Nat.le_of_ble_eq_true rfl) (Nat.le_of_ble_eq_true rfl) rfl ?_
  refine cw_J_hide ?_
  refine k_Sa_init_0 _ _ _ _ _ _ _ _ ?_
  simp (disch := omega) only [↓w_nil, ↓w_cons, ↓w_ald0, ↓w_oi, true_and, and_true, true_implies, false_implies, not_true_eq_false, not_false_eq_true, Int.reduceEq, Int.reduceLT, Int.reduceLE, Int.reduceNeg, w_c80, w_c8I, w_c8L, w_c8R, w_up1, w_up2, w_up3, w_up1, w_up2, w_up3, w_sf1, w_sf3, ml_o, wh_o, mx_out, mx_in, ml_0, ml_r, wh_0, wh_1, whl_o, whl_e, whl_u, whl_0, h0]
  repeat refine And.intro (by first | decide +kernel | assumption | omega | (unfold in32; omega) | (unfold in64; omega) | exact True.intro | exact Or.inl True.intro | exact Or.inr True.intro | rfl) ?_
  try first | done | assumption | omega
  refine k_Sa_init_4 _ _ _ _ _ _ _ _ ?_
  simp (disch := omega) only [↓w_nil, ↓w_cons, ↓w_ald0, ↓w_new, true_and, and_true, true_implies, false_implies, not_true_eq_false, not_false_eq_true, Int.reduceEq, Int.reduceLT, Int.reduceLE, Int.reduceNeg, w_up1, w_up2, w_up3, w_up1, w_up2, w_up3, w_sf1, w_sf3, ml_o, wh_o, mx_out, mx_in, ml_0, ml_r, wh_0, wh_1, whl_o, whl_e, whl_u, whl_0, h0]
  repeat refine And.intro (by first | decide +kernel | assumption | omega | (unfold in32; omega) | (unfold in64; omega) | exact True.intro | exact Or.inl True.intro | exact Or.inr True.intro | rfl) ?_
  try first | done | assumption | omega
  intro a9 n9 ha hn
  obtain rfl : a9 = 95 := by omega
  obtain rfl : n9 = 96 := by omega
  refine k_Sa_init_8 _ _ _ _ _ _ _ _ ?_
  simp (disch := omega) only [↓w_nil, ↓w_cons, ↓w_dupI, ↓w_dupR, ↓w_ci, true_and, and_true, true_implies, false_implies, not_true_eq_false, not_false_eq_true, Int.reduceEq, Int.reduceLT, Int.reduceLE, Int.reduceNeg, w_c80, w_c8I, w_c8L, w_c8R, w_up1, w_up2, w_up3, w_up1, w_up2, w_up3, w_sf1, w_sf3, ml_o, wh_o, mx_out, mx_in, ml_0, ml_r, wh_0, wh_1, whl_o, whl_e, whl_u, whl_0, h0]
  repeat refine And.intro (by first | decide +kernel | assumption | omega | (unfold in32; omega) | (unfold in64; omega) | exact True.intro | exact Or.inl True.intro | exact Or.inr True.intro | rfl) ?_
  try first | done | assumption | omega
  refine ⟨_, _, i_Ma_95 sf_eq, by omega, ?_⟩
  rintro r9 M9 ⟨rfl, rfl⟩
  refine k_Sa_init_12 _ _ _ _ _ _ _ _ ?_
  simp (disch := omega) only [↓w_nil, ↓w_cons, ↓w_pfR_0, ↓w_ald0, ↓w_new, true_and, and_true, true_implies, false_implies, not_true_eq_false, not_false_eq_true, Int.reduceEq, Int.reduceLT, Int.reduceLE, Int.reduceNeg, w_up1, w_up2, w_up3, w_up1, w_up2, w_up3, w_sf1, w_sf3, ml_o, wh_o, mx_out, mx_in, ml_0, ml_r, wh_0, wh_1, whl_o, whl_e, whl_u, whl_0, h0, w_tl0]
  repeat refine And.intro (by first | decide +kernel | assumption | omega | (unfold in32; omega) | (unfold in64; omega) | exact True.intro | exact Or.inl True.intro | exact Or.inr True.intro | rfl) ?_
  try first | done | assumption | omega
  intro a9 n9 ha hn
  obtain rfl : a9 = 120 := by omega
  obtain rfl : n9 = 121 := by omega
  refine k_Sa_init_19 _ _ _ _ _ _ _ _ ?_
  simp (disch := omega) only [↓w_nil, ↓w_cons, ↓w_dupI, ↓w_dupR, ↓w_ci, true_and, and_true, true_implies, false_implies, not_true_eq_false, not_false_eq_true, Int.reduceEq, Int.reduceLT, Int.reduceLE, Int.reduceNeg, w_c80, w_c8I, w_c8L, w_c8R, w_up1, w_up2, w_up3, w_up1, w_up2, w_up3, w_sf1, w_sf3, ml_o, wh_o, mx_out, mx_in, ml_0, ml_r, wh_0, wh_1, whl_o, whl_e, whl_u, whl_0, h0]
  repeat refine And.intro (by first | decide +kernel | assumption | omega | (unfold in32; omega) | (unfold in64; omega) | exact True.intro | exact Or.inl True.intro | exact Or.inr True.intro | rfl) ?_
  try first | done | assumption | omega
  refine ⟨_, _, i_Se_120 sf_eq, by omega, ?_⟩
  rintro r9 M9 ⟨rfl, rfl⟩
  refine k_Sa_init_23 _ _ _ _ _ _ _ _ ?_
  simp (disch := omega) only [↓w_nil, ↓w_cons, ↓w_pfR_1, ↓w_ald0, ↓w_new, true_and, and_true, true_implies, false_implies, not_true_eq_false, not_false_eq_true, Int.reduceEq, Int.reduceLT, Int.reduceLE, Int.reduceNeg, w_up1, w_up2, w_up3, w_up1, w_up2, w_up3, w_sf1, w_sf3, ml_o, wh_o, mx_out, mx_in, ml_0, ml_r, wh_0, wh_1, whl_o, whl_e, whl_u, whl_0, h0, w_tl0]
  repeat refine And.intro (by first | decide +kernel | assumption | omega | (unfold in32; omega) | (unfold in64; omega) | exact True.intro | exact Or.inl True.intro | exact Or.inr True.intro | rfl) ?_
  try first | done | assumption | omega
  intro a9 n9 ha hn
  obtain rfl : a9 = 124 := by omega
  obtain rfl : n9 = 125 := by omega
  refine k_Sa_init_30 _ _ _ _ _ _ _ _ ?_
  simp (disch := omega) only [↓w_nil, ↓w_cons, ↓w_dupI, ↓w_dupR, ↓w_ci, true_and, and_true, true_implies, false_implies, not_true_eq_false, not_false_eq_true, Int.reduceEq, Int.reduceLT, Int.reduceLE, Int.reduceNeg, w_c80, w_c8I, w_c8L, w_c8R, w_up1, w_up2, w_up3, w_up1, w_up2, w_up3, w_sf1, w_sf3, ml_o, wh_o, mx_out, mx_in, ml_0, ml_r, wh_0, wh_1, whl_o, whl_e, whl_u, whl_0, h0]
  repeat refine And.intro (by first | decide +kernel | assumption | omega | (unfold in32; omega) | (unfold in64; omega) | exact True.intro | exact Or.inl True.intro | exact Or.inr True.intro | rfl) ?_
  try first | done | assumption | omega
  refine ⟨_, _, i_Sl_124 sf_eq, by omega, ?_⟩
  rintro r9 M9 ⟨rfl, rfl⟩
  refine k_Sa_init_34 _ _ _ _ _ _ _ _ ?_
  simp (disch := omega) only [↓w_nil, ↓w_cons, ↓w_pfR_2, ↓w_ald0, ↓w_new, true_and, and_true, true_implies, false_implies, not_true_eq_false, not_false_eq_true, Int.reduceEq, Int.reduceLT, Int.reduceLE, Int.reduceNeg, w_up1, w_up2, w_up3, w_up1, w_up2, w_up3, w_sf1, w_sf3, ml_o, wh_o, mx_out, mx_in, ml_0, ml_r, wh_0, wh_1, whl_o, whl_e, whl_u, whl_0, h0, w_tl0]
  repeat refine And.intro (by first | decide +kernel | assumption | omega | (unfold in32; omega) | (unfold in64; omega) | exact True.intro | exact Or.inl True.intro | exact Or.inr True.intro | rfl) ?_
  try first | done | assumption | omega
  intro a9 n9 ha hn
  obtain rfl : a9 = 127 := by omega
  obtain rfl : n9 = 128 := by omega
  refine k_Sa_init_41 _ _ _ _ _ _ _ _ ?_
  simp (disch := omega) only [↓w_nil, ↓w_cons, ↓w_dupI, ↓w_dupR, ↓w_ci, true_and, and_true, true_implies, false_implies, not_true_eq_false, not_false_eq_true, Int.reduceEq, Int.reduceLT, Int.reduceLE, Int.reduceNeg, w_c80, w_c8I, w_c8L, w_c8R, w_up1, w_up2, w_up3, w_up1, w_up2, w_up3, w_sf1, w_sf3, ml_o, wh_o, mx_out, mx_in, ml_0, ml_r, wh_0, wh_1, whl_o, whl_e, whl_u, whl_0, h0]
  repeat refine And.intro (by first | decide +kernel | assumption | omega | (unfold in32; omega) | (unfold in64; omega) | exact True.intro | exact Or.inl True.intro | exact Or.inr True.intro | rfl) ?_
  try first | done | assumption | omega
  refine ⟨_, _, i_Dr_127 sf_eq, by omega, ?_⟩
  rintro r9 M9 ⟨rfl, rfl⟩
  refine k_Sa_init_45 _ _ _ _ _ _ _ _ ?_
  simp (disch := omega) only [↓w_nil, ↓w_cons, ↓w_pfR_3, ↓w_ald0, ↓w_new, true_and, and_true, true_implies, false_implies, not_true_eq_false, not_false_eq_true, Int.reduceEq, Int.reduceLT, Int.reduceLE, Int.reduceNeg, w_up1, w_up2, w_up3, w_up1, w_up2, w_up3, w_sf1, w_sf3, ml_o, wh_o, mx_out, mx_in, ml_0, ml_r, wh_0, wh_1, whl_o, whl_e, whl_u, whl_0, h0, w_tl0]
  repeat refine And.intro (by first | decide +kernel | assumption | omega | (unfold in32; omega) | (unfold in64; omega) | exact True.intro | exact Or.inl True.intro | exact Or.inr True.intro | rfl) ?_
  try first | done | assumption | omega
  intro a9 n9 ha hn
  obtain rfl : a9 = 128 := by omega
  obtain rfl : n9 = 129 := by omega
  refine k_Sa_init_52 _ _ _ _ _ _ _ _ ?_
  simp (disch := omega) only [↓w_nil, ↓w_cons, ↓w_dupI, ↓w_dupR, ↓w_ci, true_and, and_true, true_implies, false_implies, not_true_eq_false, not_false_eq_true, Int.reduceEq, Int.reduceLT, Int.reduceLE, Int.reduceNeg, w_c80, w_c8I, w_c8L, w_c8R, w_up1, w_up2, w_up3, w_up1, w_up2, w_up3, w_sf1, w_sf3, ml_o, wh_o, mx_out, mx_in, ml_0, ml_r, wh_0, wh_1, whl_o, whl_e, whl_u, whl_0, h0]
  repeat refine And.intro (by first | decide +kernel | assumption | omega | (unfold in32; omega) | (unfold in64; omega) | exact True.intro | exact Or.inl True.intro | exact Or.inr True.intro | rfl) ?_
  try first | done | assumption | omega
  refine ⟨_, _, i_Bo_128 sf_eq, by omega, ?_⟩
  rintro r9 M9 ⟨rfl, rfl⟩
  refine k_Sa_init_56 _ _ _ _ _ _ _ _ ?_
  simp (disch := omega) only [↓w_nil, ↓w_cons, ↓w_pfR_4, ↓w_vret, true_and, and_true, true_implies, false_implies, not_true_eq_false, not_false_eq_true, Int.reduceEq, Int.reduceLT, Int.reduceLE, Int.reduceNeg, w_up1, w_up2, w_up3, w_up1, w_up2, w_up3, w_sf1, w_sf3, ml_o, wh_o, mx_out, mx_in, ml_0, ml_r, wh_0, wh_1, whl_o, whl_e, whl_u, whl_0, h0, w_tl0]
  repeat refine And.intro (by first | decide +kernel | assumption | omega | (unfold in32; omega) | (unfold in64; omega) | exact True.intro | exact Or.inl True.intro | exact Or.inr True.intro | rfl) ?_
  try first | done | assumption | omega
  try unfold cw_hide
  try refine ⟨rfl, ?_⟩
  intro c c0 c1 k q0 q1
  by_cases e0 : (94 : Int) ≤ c ∧ c < 140
  · rw [mx_in e0]
    rcases (show c = 94 ∨ (95 ≤ c ∧ c < 120) ∨ (120 ≤ c ∧ c < 124) ∨ (124 ≤ c ∧ c < 127) ∨ c = 127 ∨ (128 ≤ c ∧ c < 140) by omega) with rfl | h | h | h | rfl | h
    · rw [show cw_vs (Int.toNat 94) = 5 from by decide +kernel] at q1
      rcases (show k = 0 ∨ k = 1 ∨ k = 2 ∨ k = 3 ∨ k = 4 by omega) with rfl | rfl | rfl | rfl | rfl
      all_goals (simp (disch := omega) only [w_up1, w_up2, w_up3, w_sf1, w_sf3, ml_o, wh_o, mx_out, mx_in, ml_0, ml_r, wh_0, wh_1, whl_o, whl_e, whl_u, whl_0, h0]; decide +kernel)
    · simp (disch := omega) only [w_up1, w_up2, w_up3, w_sf1, w_sf3, ml_o, wh_o, mx_out, mx_in, ml_0, ml_r, wh_0, wh_1, whl_o, whl_e, whl_u, whl_0, h0]
    · simp (disch := omega) only [w_up1, w_up2, w_up3, w_sf1, w_sf3, ml_o, wh_o, mx_out, mx_in, ml_0, ml_r, wh_0, wh_1, whl_o, whl_e, whl_u, whl_0, h0]
    · simp (disch := omega) only [w_up1, w_up2, w_up3, w_sf1, w_sf3, ml_o, wh_o, mx_out, mx_in, ml_0, ml_r, wh_0, wh_1, whl_o, whl_e, whl_u, whl_0, h0]
    · simp (disch := omega) only [w_up1, w_up2, w_up3, w_sf1, w_sf3, ml_o, wh_o, mx_out, mx_in, ml_0, ml_r, wh_0, wh_1, whl_o, whl_e, whl_u, whl_0, h0]
    · simp (disch := omega) only [w_up1, w_up2, w_up3, w_sf1, w_sf3, ml_o, wh_o, mx_out, mx_in, ml_0, ml_r, wh_0, wh_1, whl_o, whl_e, whl_u, whl_0, h0]
  · rw [mx_out e0]
    simp (disch := omega) only [w_up3, w_sf3, ml_o, wh_o, mx_out, whl_u]
