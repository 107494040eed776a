/-! the constructors at their places; by program (wip/whole/genctor.py) -/
set_option maxHeartbeats 8000000 in
theorem i_Ma_2 {g : cw_G} {M : cw_M} (h0 : M 2 = cw_zr 2) : cw_C g y_Ma_init [.inr (.inr 2)] M 3 27 (fun q M' => q = none ∧ M' = cw_mx M 2 27) := by
  refine cw_C_vis ?_
  refine cw_C_of (L := [.inr (.inr 2)]) ok_Ma_init (Nat.le_of_ble_eq_true rfl) (Nat.le_of_ble_eq_true rfl) rfl ?_
  refine cw_J_hide ?_
  refine k_Ma_init_0 _ _ _ _ _ _ _ _ ?_
  simp (disch := omega) only [↓w_nil, ↓w_cons, ↓w_ald0, ↓w_oi, true_and, and_true, true_implies, false_implies, not_true_eq_false, not_false_eq_true, Int.reduceEq, Int.reduceLT, Int.reduceLE, Int.reduceNeg, w_c80, w_c8I, w_c8L, w_c8R, w_up1, w_up2, w_up3, w_up1, w_up2, w_up3, w_sf1, w_sf3, ml_o, wh_o, mx_out, mx_in, ml_0, ml_r, wh_0, wh_1, whl_o, whl_e, whl_u, whl_0, h0]
  repeat refine And.intro (by first | decide +kernel | assumption | omega | (unfold in32; omega) | (unfold in64; omega) | exact True.intro | exact Or.inl True.intro | exact Or.inr True.intro | rfl) ?_
  try first | done | assumption | omega
  refine k_Ma_init_4 _ _ _ _ _ _ _ _ ?_
  simp (disch := omega) only [↓w_nil, ↓w_cons, ↓w_ald0, ↓w_ic, ↓w_mn, true_and, and_true, true_implies, false_implies, not_true_eq_false, not_false_eq_true, Int.reduceEq, Int.reduceLT, Int.reduceLE, Int.reduceNeg, w_up1, w_up2, w_up3, w_up1, w_up2, w_up3, w_sf1, w_sf3, ml_o, wh_o, mx_out, mx_in, ml_0, ml_r, wh_0, wh_1, whl_o, whl_e, whl_u, whl_0, h0]
  repeat refine And.intro (by first | decide +kernel | assumption | omega | (unfold in32; omega) | (unfold in64; omega) | exact True.intro | exact Or.inl True.intro | exact Or.inr True.intro | rfl) ?_
  try first | done | assumption | omega
  intro a9 n9 ha hn
  obtain rfl : a9 = 3 := by omega
  obtain rfl : n9 = 11 := by omega
  refine k_Ma_init_12 _ _ _ _ _ _ _ _ ?_
  simp (disch := omega) only [↓w_nil, ↓w_cons, ↓w_pfR_1, ↓w_ald0, ↓w_ic, ↓w_mn, true_and, and_true, true_implies, false_implies, not_true_eq_false, not_false_eq_true, Int.reduceEq, Int.reduceLT, Int.reduceLE, Int.reduceNeg, w_up1, w_up2, w_up3, w_up1, w_up2, w_up3, w_sf1, w_sf3, ml_o, wh_o, mx_out, mx_in, ml_0, ml_r, wh_0, wh_1, whl_o, whl_e, whl_u, whl_0, h0]
  repeat refine And.intro (by first | decide +kernel | assumption | omega | (unfold in32; omega) | (unfold in64; omega) | exact True.intro | exact Or.inl True.intro | exact Or.inr True.intro | rfl) ?_
  try first | done | assumption | omega
  intro a9 n9 ha hn
  obtain rfl : a9 = 11 := by omega
  obtain rfl : n9 = 19 := by omega
  refine k_Ma_init_24 _ _ _ _ _ _ _ _ ?_
  simp (disch := omega) only [↓w_nil, ↓w_cons, ↓w_pfR_2, ↓w_ald0, ↓w_ic, ↓w_na, true_and, and_true, true_implies, false_implies, not_true_eq_false, not_false_eq_true, Int.reduceEq, Int.reduceLT, Int.reduceLE, Int.reduceNeg, w_up1, w_up2, w_up3, w_up1, w_up2, w_up3, w_sf1, w_sf3, ml_o, wh_o, mx_out, mx_in, ml_0, ml_r, wh_0, wh_1, whl_o, whl_e, whl_u, whl_0, h0]
  repeat refine And.intro (by first | decide +kernel | assumption | omega | (unfold in32; omega) | (unfold in64; omega) | exact True.intro | exact Or.inl True.intro | exact Or.inr True.intro | rfl) ?_
  try first | done | assumption | omega
  intro a9 n9 ha hn
  obtain rfl : a9 = 19 := by omega
  obtain rfl : n9 = 20 := by omega
  refine k_Ma_init_32 _ _ _ _ _ _ _ _ ?_
  simp (disch := omega) only [↓w_nil, ↓w_cons, ↓w_pfR_3, ↓w_ald0, ↓w_ic, ↓w_mn, true_and, and_true, true_implies, false_implies, not_true_eq_false, not_false_eq_true, Int.reduceEq, Int.reduceLT, Int.reduceLE, Int.reduceNeg, w_up1, w_up2, w_up3, w_up1, w_up2, w_up3, w_sf1, w_sf3, ml_o, wh_o, mx_out, mx_in, ml_0, ml_r, wh_0, wh_1, whl_o, whl_e, whl_u, whl_0, h0]
  repeat refine And.intro (by first | decide +kernel | assumption | omega | (unfold in32; omega) | (unfold in64; omega) | exact True.intro | exact Or.inl True.intro | exact Or.inr True.intro | rfl) ?_
  try first | done | assumption | omega
  intro a9 n9 ha hn
  obtain rfl : a9 = 20 := by omega
  obtain rfl : n9 = 25 := by omega
  refine k_Ma_init_43 _ _ _ _ _ _ _ _ ?_
  simp (disch := omega) only [↓w_nil, ↓w_cons, ↓w_pfR_4, ↓w_ald0, ↓w_ic, ↓w_na, true_and, and_true, true_implies, false_implies, not_true_eq_false, not_false_eq_true, Int.reduceEq, Int.reduceLT, Int.reduceLE, Int.reduceNeg, w_up1, w_up2, w_up3, w_up1, w_up2, w_up3, w_sf1, w_sf3, ml_o, wh_o, mx_out, mx_in, ml_0, ml_r, wh_0, wh_1, whl_o, whl_e, whl_u, whl_0, h0]
  repeat refine And.intro (by first | decide +kernel | assumption | omega | (unfold in32; omega) | (unfold in64; omega) | exact True.intro | exact Or.inl True.intro | exact Or.inr True.intro | rfl) ?_
  try first | done | assumption | omega
  intro a9 n9 ha hn
  obtain rfl : a9 = 25 := by omega
  obtain rfl : n9 = 26 := by omega
  refine k_Ma_init_50 _ _ _ _ _ _ _ _ ?_
  simp (disch := omega) only [↓w_nil, ↓w_cons, ↓w_pfR_5, ↓w_ald0, ↓w_ic, ↓w_na, true_and, and_true, true_implies, false_implies, not_true_eq_false, not_false_eq_true, Int.reduceEq, Int.reduceLT, Int.reduceLE, Int.reduceNeg, w_up1, w_up2, w_up3, w_up1, w_up2, w_up3, w_sf1, w_sf3, ml_o, wh_o, mx_out, mx_in, ml_0, ml_r, wh_0, wh_1, whl_o, whl_e, whl_u, whl_0, h0]
  repeat refine And.intro (by first | decide +kernel | assumption | omega | (unfold in32; omega) | (unfold in64; omega) | exact True.intro | exact Or.inl True.intro | exact Or.inr True.intro | rfl) ?_
  try first | done | assumption | omega
  intro a9 n9 ha hn
  obtain rfl : a9 = 26 := by omega
  obtain rfl : n9 = 27 := by omega
  refine k_Ma_init_58 _ _ _ _ _ _ _ _ ?_
  simp (disch := omega) only [↓w_nil, ↓w_cons, ↓w_pfR_7, ↓w_vret, true_and, and_true, true_implies, false_implies, not_true_eq_false, not_false_eq_true, Int.reduceEq, Int.reduceLT, Int.reduceLE, Int.reduceNeg, w_up1, w_up2, w_up3, w_up1, w_up2, w_up3, w_sf1, w_sf3, ml_o, wh_o, mx_out, mx_in, ml_0, ml_r, wh_0, wh_1, whl_o, whl_e, whl_u, whl_0, h0]
  repeat refine And.intro (by first | decide +kernel | assumption | omega | (unfold in32; omega) | (unfold in64; omega) | exact True.intro | exact Or.inl True.intro | exact Or.inr True.intro | rfl) ?_
  try first | done | assumption | omega
  try unfold cw_hide
  try refine ⟨rfl, ?_⟩
  intro c c0 c1 k q0 q1
  by_cases e0 : (2 : Int) ≤ c ∧ c < 27
  · rw [mx_in e0]
    rcases (show c = 2 ∨ c = 3 ∨ c = 4 ∨ c = 5 ∨ c = 6 ∨ c = 7 ∨ c = 8 ∨ c = 9 ∨ c = 10 ∨ c = 11 ∨ c = 12 ∨ c = 13 ∨ c = 14 ∨ c = 15 ∨ c = 16 ∨ c = 17 ∨ c = 18 ∨ c = 19 ∨ c = 20 ∨ c = 21 ∨ c = 22 ∨ c = 23 ∨ c = 24 ∨ c = 25 ∨ c = 26 by omega) with rfl | rfl | rfl | rfl | rfl | rfl | rfl | rfl | rfl | rfl | rfl | rfl | rfl | rfl | rfl | rfl | rfl | rfl | rfl | rfl | rfl | rfl | rfl | rfl | rfl
    · rw [show cw_vs (Int.toNat 2) = 9 from by decide +kernel] at q1
      rcases (show k = 0 ∨ k = 1 ∨ k = 2 ∨ k = 3 ∨ k = 4 ∨ k = 5 ∨ k = 6 ∨ k = 7 ∨ k = 8 by omega) with rfl | rfl | rfl | rfl | rfl | rfl | rfl | rfl | rfl
      all_goals (simp (disch := omega) only [w_up1, w_up2, w_up3, w_sf1, w_sf3, ml_o, wh_o, mx_out, mx_in, ml_0, ml_r, wh_0, wh_1, whl_o, whl_e, whl_u, whl_0, h0]; decide +kernel)
    · rw [show cw_vs (Int.toNat 3) = 7 from by decide +kernel] at q1
      rcases (show k = 0 ∨ k = 1 ∨ k = 2 ∨ k = 3 ∨ k = 4 ∨ k = 5 ∨ k = 6 by omega) with rfl | rfl | rfl | rfl | rfl | rfl | rfl
      all_goals (simp (disch := omega) only [w_up1, w_up2, w_up3, w_sf1, w_sf3, ml_o, wh_o, mx_out, mx_in, ml_0, ml_r, wh_0, wh_1, whl_o, whl_e, whl_u, whl_0, h0]; decide +kernel)
    · simp (disch := omega) only [w_up1, w_up2, w_up3, w_sf1, w_sf3, ml_o, wh_o, mx_out, mx_in, ml_0, ml_r, wh_0, wh_1, whl_o, whl_e, whl_u, whl_0, h0]; exact W_z (by decide +kernel)
    · simp (disch := omega) only [w_up1, w_up2, w_up3, w_sf1, w_sf3, ml_o, wh_o, mx_out, mx_in, ml_0, ml_r, wh_0, wh_1, whl_o, whl_e, whl_u, whl_0, h0]; exact W_z (by decide +kernel)
    · simp (disch := omega) only [w_up1, w_up2, w_up3, w_sf1, w_sf3, ml_o, wh_o, mx_out, mx_in, ml_0, ml_r, wh_0, wh_1, whl_o, whl_e, whl_u, whl_0, h0]; exact W_z (by decide +kernel)
    · simp (disch := omega) only [w_up1, w_up2, w_up3, w_sf1, w_sf3, ml_o, wh_o, mx_out, mx_in, ml_0, ml_r, wh_0, wh_1, whl_o, whl_e, whl_u, whl_0, h0]; exact W_z (by decide +kernel)
    · simp (disch := omega) only [w_up1, w_up2, w_up3, w_sf1, w_sf3, ml_o, wh_o, mx_out, mx_in, ml_0, ml_r, wh_0, wh_1, whl_o, whl_e, whl_u, whl_0, h0]; exact W_z (by decide +kernel)
    · simp (disch := omega) only [w_up1, w_up2, w_up3, w_sf1, w_sf3, ml_o, wh_o, mx_out, mx_in, ml_0, ml_r, wh_0, wh_1, whl_o, whl_e, whl_u, whl_0, h0]; exact W_z (by decide +kernel)
    · simp (disch := omega) only [w_up1, w_up2, w_up3, w_sf1, w_sf3, ml_o, wh_o, mx_out, mx_in, ml_0, ml_r, wh_0, wh_1, whl_o, whl_e, whl_u, whl_0, h0]; exact W_z (by decide +kernel)
    · rw [show cw_vs (Int.toNat 11) = 7 from by decide +kernel] at q1
      rcases (show k = 0 ∨ k = 1 ∨ k = 2 ∨ k = 3 ∨ k = 4 ∨ k = 5 ∨ k = 6 by omega) with rfl | rfl | rfl | rfl | rfl | rfl | rfl
      all_goals (simp (disch := omega) only [w_up1, w_up2, w_up3, w_sf1, w_sf3, ml_o, wh_o, mx_out, mx_in, ml_0, ml_r, wh_0, wh_1, whl_o, whl_e, whl_u, whl_0, h0]; decide +kernel)
    · simp (disch := omega) only [w_up1, w_up2, w_up3, w_sf1, w_sf3, ml_o, wh_o, mx_out, mx_in, ml_0, ml_r, wh_0, wh_1, whl_o, whl_e, whl_u, whl_0, h0]; exact W_z (by decide +kernel)
    · simp (disch := omega) only [w_up1, w_up2, w_up3, w_sf1, w_sf3, ml_o, wh_o, mx_out, mx_in, ml_0, ml_r, wh_0, wh_1, whl_o, whl_e, whl_u, whl_0, h0]; exact W_z (by decide +kernel)
    · simp (disch := omega) only [w_up1, w_up2, w_up3, w_sf1, w_sf3, ml_o, wh_o, mx_out, mx_in, ml_0, ml_r, wh_0, wh_1, whl_o, whl_e, whl_u, whl_0, h0]; exact W_z (by decide +kernel)
    · simp (disch := omega) only [w_up1, w_up2, w_up3, w_sf1, w_sf3, ml_o, wh_o, mx_out, mx_in, ml_0, ml_r, wh_0, wh_1, whl_o, whl_e, whl_u, whl_0, h0]; exact W_z (by decide +kernel)
    · simp (disch := omega) only [w_up1, w_up2, w_up3, w_sf1, w_sf3, ml_o, wh_o, mx_out, mx_in, ml_0, ml_r, wh_0, wh_1, whl_o, whl_e, whl_u, whl_0, h0]; exact W_z (by decide +kernel)
    · simp (disch := omega) only [w_up1, w_up2, w_up3, w_sf1, w_sf3, ml_o, wh_o, mx_out, mx_in, ml_0, ml_r, wh_0, wh_1, whl_o, whl_e, whl_u, whl_0, h0]; exact W_z (by decide +kernel)
    · simp (disch := omega) only [w_up1, w_up2, w_up3, w_sf1, w_sf3, ml_o, wh_o, mx_out, mx_in, ml_0, ml_r, wh_0, wh_1, whl_o, whl_e, whl_u, whl_0, h0]; exact W_z (by decide +kernel)
    · simp (disch := omega) only [w_up1, w_up2, w_up3, w_sf1, w_sf3, ml_o, wh_o, mx_out, mx_in, ml_0, ml_r, wh_0, wh_1, whl_o, whl_e, whl_u, whl_0, h0]; exact W_z (by decide +kernel)
    · rw [show cw_vs (Int.toNat 20) = 4 from by decide +kernel] at q1
      rcases (show k = 0 ∨ k = 1 ∨ k = 2 ∨ k = 3 by omega) with rfl | rfl | rfl | rfl
      all_goals (simp (disch := omega) only [w_up1, w_up2, w_up3, w_sf1, w_sf3, ml_o, wh_o, mx_out, mx_in, ml_0, ml_r, wh_0, wh_1, whl_o, whl_e, whl_u, whl_0, h0]; decide +kernel)
    · simp (disch := omega) only [w_up1, w_up2, w_up3, w_sf1, w_sf3, ml_o, wh_o, mx_out, mx_in, ml_0, ml_r, wh_0, wh_1, whl_o, whl_e, whl_u, whl_0, h0]; exact W_z (by decide +kernel)
    · simp (disch := omega) only [w_up1, w_up2, w_up3, w_sf1, w_sf3, ml_o, wh_o, mx_out, mx_in, ml_0, ml_r, wh_0, wh_1, whl_o, whl_e, whl_u, whl_0, h0]; exact W_z (by decide +kernel)
    · simp (disch := omega) only [w_up1, w_up2, w_up3, w_sf1, w_sf3, ml_o, wh_o, mx_out, mx_in, ml_0, ml_r, wh_0, wh_1, whl_o, whl_e, whl_u, whl_0, h0]; exact W_z (by decide +kernel)
    · simp (disch := omega) only [w_up1, w_up2, w_up3, w_sf1, w_sf3, ml_o, wh_o, mx_out, mx_in, ml_0, ml_r, wh_0, wh_1, whl_o, whl_e, whl_u, whl_0, h0]; exact W_z (by decide +kernel)
    · simp (disch := omega) only [w_up1, w_up2, w_up3, w_sf1, w_sf3, ml_o, wh_o, mx_out, mx_in, ml_0, ml_r, wh_0, wh_1, whl_o, whl_e, whl_u, whl_0, h0]; exact W_z (by decide +kernel)
    · simp (disch := omega) only [w_up1, w_up2, w_up3, w_sf1, w_sf3, ml_o, wh_o, mx_out, mx_in, ml_0, ml_r, wh_0, wh_1, whl_o, whl_e, whl_u, whl_0, h0]; exact W_z (by decide +kernel)
  · rw [mx_out e0]
    simp (disch := omega) only [w_up3, w_sf3, ml_o, wh_o, mx_out, whl_u]
set_option maxHeartbeats 8000000 in
theorem i_Se_27 {g : cw_G} {M : cw_M} (h0 : M 27 = cw_zr 6) : cw_C g y_Se_init [.inr (.inr 27)] M 28 31 (fun q M' => q = none ∧ M' = cw_mx M 27 31) := by
  refine cw_C_vis ?_
  refine cw_C_of (L := [.inr (.inr 27)]) ok_Se_init (Nat.le_of_ble_eq_true rfl) (Nat.le_of_ble_eq_true rfl) rfl ?_
  refine cw_J_hide ?_
  refine k_Se_init_0 _ _ _ _ _ _ _ _ ?_
  simp (disch := omega) only [↓w_nil, ↓w_cons, ↓w_ald0, ↓w_oi, true_and, and_true, true_implies, false_implies, not_true_eq_false, not_false_eq_true, Int.reduceEq, Int.reduceLT, Int.reduceLE, Int.reduceNeg, w_c80, w_c8I, w_c8L, w_c8R, w_up1, w_up2, w_up3, w_up1, w_up2, w_up3, w_sf1, w_sf3, ml_o, wh_o, mx_out, mx_in, ml_0, ml_r, wh_0, wh_1, whl_o, whl_e, whl_u, whl_0, h0]
  repeat refine And.intro (by first | decide +kernel | assumption | omega | (unfold in32; omega) | (unfold in64; omega) | exact True.intro | exact Or.inl True.intro | exact Or.inr True.intro | rfl) ?_
  try first | done | assumption | omega
  refine k_Se_init_4 _ _ _ _ _ _ _ _ ?_
  simp (disch := omega) only [↓w_nil, ↓w_cons, ↓w_ald0, ↓w_ic, ↓w_na, true_and, and_true, true_implies, false_implies, not_true_eq_false, not_false_eq_true, Int.reduceEq, Int.reduceLT, Int.reduceLE, Int.reduceNeg, w_up1, w_up2, w_up3, w_up1, w_up2, w_up3, w_sf1, w_sf3, ml_o, wh_o, mx_out, mx_in, ml_0, ml_r, wh_0, wh_1, whl_o, whl_e, whl_u, whl_0, h0]
  repeat refine And.intro (by first | decide +kernel | assumption | omega | (unfold in32; omega) | (unfold in64; omega) | exact True.intro | exact Or.inl True.intro | exact Or.inr True.intro | rfl) ?_
  try first | done | assumption | omega
  intro a9 n9 ha hn
  obtain rfl : a9 = 28 := by omega
  obtain rfl : n9 = 29 := by omega
  refine k_Se_init_9 _ _ _ _ _ _ _ _ ?_
  simp (disch := omega) only [↓w_nil, ↓w_cons, ↓w_pfR_1, ↓w_ald0, ↓w_ic, ↓w_na, true_and, and_true, true_implies, false_implies, not_true_eq_false, not_false_eq_true, Int.reduceEq, Int.reduceLT, Int.reduceLE, Int.reduceNeg, w_up1, w_up2, w_up3, w_up1, w_up2, w_up3, w_sf1, w_sf3, ml_o, wh_o, mx_out, mx_in, ml_0, ml_r, wh_0, wh_1, whl_o, whl_e, whl_u, whl_0, h0]
  repeat refine And.intro (by first | decide +kernel | assumption | omega | (unfold in32; omega) | (unfold in64; omega) | exact True.intro | exact Or.inl True.intro | exact Or.inr True.intro | rfl) ?_
  try first | done | assumption | omega
  intro a9 n9 ha hn
  obtain rfl : a9 = 29 := by omega
  obtain rfl : n9 = 30 := by omega
  refine k_Se_init_17 _ _ _ _ _ _ _ _ ?_
  simp (disch := omega) only [↓w_nil, ↓w_cons, ↓w_pfR_2, ↓w_ald0, ↓w_ic, ↓w_na, true_and, and_true, true_implies, false_implies, not_true_eq_false, not_false_eq_true, Int.reduceEq, Int.reduceLT, Int.reduceLE, Int.reduceNeg, w_up1, w_up2, w_up3, w_up1, w_up2, w_up3, w_sf1, w_sf3, ml_o, wh_o, mx_out, mx_in, ml_0, ml_r, wh_0, wh_1, whl_o, whl_e, whl_u, whl_0, h0]
  repeat refine And.intro (by first | decide +kernel | assumption | omega | (unfold in32; omega) | (unfold in64; omega) | exact True.intro | exact Or.inl True.intro | exact Or.inr True.intro | rfl) ?_
  try first | done | assumption | omega
  intro a9 n9 ha hn
  obtain rfl : a9 = 30 := by omega
  obtain rfl : n9 = 31 := by omega
  refine k_Se_init_25 _ _ _ _ _ _ _ _ ?_
  simp (disch := omega) only [↓w_nil, ↓w_cons, ↓w_pfR_3, ↓w_vret, true_and, and_true, true_implies, false_implies, not_true_eq_false, not_false_eq_true, Int.reduceEq, Int.reduceLT, Int.reduceLE, Int.reduceNeg, w_up1, w_up2, w_up3, w_up1, w_up2, w_up3, w_sf1, w_sf3, ml_o, wh_o, mx_out, mx_in, ml_0, ml_r, wh_0, wh_1, whl_o, whl_e, whl_u, whl_0, h0]
  repeat refine And.intro (by first | decide +kernel | assumption | omega | (unfold in32; omega) | (unfold in64; omega) | exact True.intro | exact Or.inl True.intro | exact Or.inr True.intro | rfl) ?_
  try first | done | assumption | omega
  try unfold cw_hide
  try refine ⟨rfl, ?_⟩
  intro c c0 c1 k q0 q1
  by_cases e0 : (27 : Int) ≤ c ∧ c < 31
  · rw [mx_in e0]
    rcases (show c = 27 ∨ c = 28 ∨ c = 29 ∨ c = 30 by omega) with rfl | rfl | rfl | rfl
    · rw [show cw_vs (Int.toNat 27) = 4 from by decide +kernel] at q1
      rcases (show k = 0 ∨ k = 1 ∨ k = 2 ∨ k = 3 by omega) with rfl | rfl | rfl | rfl
      all_goals (simp (disch := omega) only [w_up1, w_up2, w_up3, w_sf1, w_sf3, ml_o, wh_o, mx_out, mx_in, ml_0, ml_r, wh_0, wh_1, whl_o, whl_e, whl_u, whl_0, h0]; decide +kernel)
    · simp (disch := omega) only [w_up1, w_up2, w_up3, w_sf1, w_sf3, ml_o, wh_o, mx_out, mx_in, ml_0, ml_r, wh_0, wh_1, whl_o, whl_e, whl_u, whl_0, h0]; exact W_z (by decide +kernel)
    · simp (disch := omega) only [w_up1, w_up2, w_up3, w_sf1, w_sf3, ml_o, wh_o, mx_out, mx_in, ml_0, ml_r, wh_0, wh_1, whl_o, whl_e, whl_u, whl_0, h0]; exact W_z (by decide +kernel)
    · simp (disch := omega) only [w_up1, w_up2, w_up3, w_sf1, w_sf3, ml_o, wh_o, mx_out, mx_in, ml_0, ml_r, wh_0, wh_1, whl_o, whl_e, whl_u, whl_0, h0]; exact W_z (by decide +kernel)
  · rw [mx_out e0]
    simp (disch := omega) only [w_up3, w_sf3, ml_o, wh_o, mx_out, whl_u]
set_option maxHeartbeats 8000000 in
theorem i_Sl_31 {g : cw_G} {M : cw_M} (h0 : M 31 = cw_zr 7) : cw_C g y_Sl_init [.inr (.inr 31)] M 32 34 (fun q M' => q = none ∧ M' = cw_mx M 31 34) := by
  refine cw_C_vis ?_
  refine cw_C_of (L := [.inr (.inr 31)]) ok_Sl_init (Nat.le_of_ble_eq_true rfl) (Nat.le_of_ble_eq_true rfl) rfl ?_
  refine cw_J_hide ?_
  refine k_Sl_init_0 _ _ _ _ _ _ _ _ ?_
  simp (disch := omega) only [↓w_nil, ↓w_cons, ↓w_ald0, ↓w_oi, true_and, and_true, true_implies, false_implies, not_true_eq_false, not_false_eq_true, Int.reduceEq, Int.reduceLT, Int.reduceLE, Int.reduceNeg, w_c80, w_c8I, w_c8L, w_c8R, w_up1, w_up2, w_up3, w_up1, w_up2, w_up3, w_sf1, w_sf3, ml_o, wh_o, mx_out, mx_in, ml_0, ml_r, wh_0, wh_1, whl_o, whl_e, whl_u, whl_0, h0]
  repeat refine And.intro (by first | decide +kernel | assumption | omega | (unfold in32; omega) | (unfold in64; omega) | exact True.intro | exact Or.inl True.intro | exact Or.inr True.intro | rfl) ?_
  try first | done | assumption | omega
  refine k_Sl_init_4 _ _ _ _ _ _ _ _ ?_
  simp (disch := omega) only [↓w_nil, ↓w_cons, ↓w_ald0, ↓w_ic, ↓w_pfI_0, ↓w_na, true_and, and_true, true_implies, false_implies, not_true_eq_false, not_false_eq_true, Int.reduceEq, Int.reduceLT, Int.reduceLE, Int.reduceNeg, w_up1, w_up2, w_up3, w_up1, w_up2, w_up3, w_sf1, w_sf3, ml_o, wh_o, mx_out, mx_in, ml_0, ml_r, wh_0, wh_1, whl_o, whl_e, whl_u, whl_0, h0]
  repeat refine And.intro (by first | decide +kernel | assumption | omega | (unfold in32; omega) | (unfold in64; omega) | exact True.intro | exact Or.inl True.intro | exact Or.inr True.intro | rfl) ?_
  try first | done | assumption | omega
  intro a9 n9 ha hn
  obtain rfl : a9 = 32 := by omega
  obtain rfl : n9 = 33 := by omega
  refine k_Sl_init_15 _ _ _ _ _ _ _ _ ?_
  simp (disch := omega) only [↓w_nil, ↓w_cons, ↓w_pfR_1, ↓w_ald0, ↓w_ic, ↓w_na, true_and, and_true, true_implies, false_implies, not_true_eq_false, not_false_eq_true, Int.reduceEq, Int.reduceLT, Int.reduceLE, Int.reduceNeg, w_up1, w_up2, w_up3, w_up1, w_up2, w_up3, w_sf1, w_sf3, ml_o, wh_o, mx_out, mx_in, ml_0, ml_r, wh_0, wh_1, whl_o, whl_e, whl_u, whl_0, h0]
  repeat refine And.intro (by first | decide +kernel | assumption | omega | (unfold in32; omega) | (unfold in64; omega) | exact True.intro | exact Or.inl True.intro | exact Or.inr True.intro | rfl) ?_
  try first | done | assumption | omega
  intro a9 n9 ha hn
  obtain rfl : a9 = 33 := by omega
  obtain rfl : n9 = 34 := by omega
  refine k_Sl_init_23 _ _ _ _ _ _ _ _ ?_
  simp (disch := omega) only [↓w_nil, ↓w_cons, ↓w_pfR_2, ↓w_vret, true_and, and_true, true_implies, false_implies, not_true_eq_false, not_false_eq_true, Int.reduceEq, Int.reduceLT, Int.reduceLE, Int.reduceNeg, w_up1, w_up2, w_up3, w_up1, w_up2, w_up3, w_sf1, w_sf3, ml_o, wh_o, mx_out, mx_in, ml_0, ml_r, wh_0, wh_1, whl_o, whl_e, whl_u, whl_0, h0]
  repeat refine And.intro (by first | decide +kernel | assumption | omega | (unfold in32; omega) | (unfold in64; omega) | exact True.intro | exact Or.inl True.intro | exact Or.inr True.intro | rfl) ?_
  try first | done | assumption | omega
  try unfold cw_hide
  try refine ⟨rfl, ?_⟩
  intro c c0 c1 k q0 q1
  by_cases e0 : (31 : Int) ≤ c ∧ c < 34
  · rw [mx_in e0]
    rcases (show c = 31 ∨ c = 32 ∨ c = 33 by omega) with rfl | rfl | rfl
    · rw [show cw_vs (Int.toNat 31) = 3 from by decide +kernel] at q1
      rcases (show k = 0 ∨ k = 1 ∨ k = 2 by omega) with rfl | rfl | rfl
      all_goals (simp (disch := omega) only [w_up1, w_up2, w_up3, w_sf1, w_sf3, ml_o, wh_o, mx_out, mx_in, ml_0, ml_r, wh_0, wh_1, whl_o, whl_e, whl_u, whl_0, h0]; decide +kernel)
    · simp (disch := omega) only [w_up1, w_up2, w_up3, w_sf1, w_sf3, ml_o, wh_o, mx_out, mx_in, ml_0, ml_r, wh_0, wh_1, whl_o, whl_e, whl_u, whl_0, h0]; exact W_z (by decide +kernel)
    · simp (disch := omega) only [w_up1, w_up2, w_up3, w_sf1, w_sf3, ml_o, wh_o, mx_out, mx_in, ml_0, ml_r, wh_0, wh_1, whl_o, whl_e, whl_u, whl_0, h0]; exact W_z (by decide +kernel)
  · rw [mx_out e0]
    simp (disch := omega) only [w_up3, w_sf3, ml_o, wh_o, mx_out, whl_u]
set_option maxHeartbeats 8000000 in
theorem i_Dr_34 {g : cw_G} {M : cw_M} (h0 : M 34 = cw_zr 1) : cw_C g y_Dr_init [.inr (.inr 34)] M 35 35 (fun q M' => q = none ∧ M' = cw_mx M 34 35) := by
  refine cw_C_vis ?_
  refine cw_C_of (L := [.inr (.inr 34)]) ok_Dr_init (Nat.le_of_ble_eq_true rfl) (Nat.le_of_ble_eq_true rfl) rfl ?_
  refine cw_J_hide ?_
  refine k_Dr_init_0 _ _ _ _ _ _ _ _ ?_
  simp (disch := omega) only [↓w_nil, ↓w_cons, ↓w_ald0, ↓w_oi, true_and, and_true, true_implies, false_implies, not_true_eq_false, not_false_eq_true, Int.reduceEq, Int.reduceLT, Int.reduceLE, Int.reduceNeg, w_c80, w_c8I, w_c8L, w_c8R, w_up1, w_up2, w_up3, w_up1, w_up2, w_up3, w_sf1, w_sf3, ml_o, wh_o, mx_out, mx_in, ml_0, ml_r, wh_0, wh_1, whl_o, whl_e, whl_u, whl_0, h0]
  repeat refine And.intro (by first | decide +kernel | assumption | omega | (unfold in32; omega) | (unfold in64; omega) | exact True.intro | exact Or.inl True.intro | exact Or.inr True.intro | rfl) ?_
  try first | done | assumption | omega
  refine k_Dr_init_4 _ _ _ _ _ _ _ _ ?_
  simp (disch := omega) only [↓w_nil, ↓w_cons, ↓w_ald0, ↓w_ic, ↓w_pfI_2, ↓w_pfI_3, ↓w_pfI_4, ↓w_pfZ_6, ↓w_vret, true_and, and_true, true_implies, false_implies, not_true_eq_false, not_false_eq_true, Int.reduceEq, Int.reduceLT, Int.reduceLE, Int.reduceNeg, w_up1, w_up2, w_up3, w_up1, w_up2, w_up3, w_sf1, w_sf3, ml_o, wh_o, mx_out, mx_in, ml_0, ml_r, wh_0, wh_1, whl_o, whl_e, whl_u, whl_0, h0]
  repeat refine And.intro (by first | decide +kernel | assumption | omega | (unfold in32; omega) | (unfold in64; omega) | exact True.intro | exact Or.inl True.intro | exact Or.inr True.intro | rfl) ?_
  try first | done | assumption | omega
  try unfold cw_hide
  try refine ⟨rfl, ?_⟩
  intro c c0 c1 k q0 q1
  by_cases e0 : (34 : Int) ≤ c ∧ c < 35
  · rw [mx_in e0]
    obtain rfl : c = 34 := by omega
    · rw [show cw_vs (Int.toNat 34) = 9 from by decide +kernel] at q1
      rcases (show k = 0 ∨ k = 1 ∨ k = 2 ∨ k = 3 ∨ k = 4 ∨ k = 5 ∨ k = 6 ∨ k = 7 ∨ k = 8 by omega) with rfl | rfl | rfl | rfl | rfl | rfl | rfl | rfl | rfl
      all_goals (simp (disch := omega) only [w_up1, w_up2, w_up3, w_sf1, w_sf3, ml_o, wh_o, mx_out, mx_in, ml_0, ml_r, wh_0, wh_1, whl_o, whl_e, whl_u, whl_0, h0]; decide +kernel)
  · rw [mx_out e0]
    simp (disch := omega) only [w_up3, w_sf3, ml_o, wh_o, mx_out, whl_u]
set_option maxHeartbeats 8000000 in
theorem i_Bo_35 {g : cw_G} {M : cw_M} (h0 : M 35 = cw_zr 0) : cw_C g y_Bo_init [.inr (.inr 35)] M 36 47 (fun q M' => q = none ∧ M' = cw_mx M 35 47) := by
  refine cw_C_vis ?_
  refine cw_C_of (L := [.inr (.inr 35)]) ok_Bo_init (Nat.le_of_ble_eq_true rfl) (Nat.le_of_ble_eq_true rfl) rfl ?_
  refine cw_J_hide ?_
  refine k_Bo_init_0 _ _ _ _ _ _ _ _ ?_
  simp (disch := omega) only [↓w_nil, ↓w_cons, ↓w_ald0, ↓w_oi, true_and, and_true, true_implies, false_implies, not_true_eq_false, not_false_eq_true, Int.reduceEq, Int.reduceLT, Int.reduceLE, Int.reduceNeg, w_c80, w_c8I, w_c8L, w_c8R, w_up1, w_up2, w_up3, w_up1, w_up2, w_up3, w_sf1, w_sf3, ml_o, wh_o, mx_out, mx_in, ml_0, ml_r, wh_0, wh_1, whl_o, whl_e, whl_u, whl_0, h0]
  repeat refine And.intro (by first | decide +kernel | assumption | omega | (unfold in32; omega) | (unfold in64; omega) | exact True.intro | exact Or.inl True.intro | exact Or.inr True.intro | rfl) ?_
  try first | done | assumption | omega
  refine k_Bo_init_4 _ _ _ _ _ _ _ _ ?_
  simp (disch := omega) only [↓w_nil, ↓w_cons, ↓w_ald0, ↓w_ic, ↓w_na, true_and, and_true, true_implies, false_implies, not_true_eq_false, not_false_eq_true, Int.reduceEq, Int.reduceLT, Int.reduceLE, Int.reduceNeg, w_up1, w_up2, w_up3, w_up1, w_up2, w_up3, w_sf1, w_sf3, ml_o, wh_o, mx_out, mx_in, ml_0, ml_r, wh_0, wh_1, whl_o, whl_e, whl_u, whl_0, h0]
  repeat refine And.intro (by first | decide +kernel | assumption | omega | (unfold in32; omega) | (unfold in64; omega) | exact True.intro | exact Or.inl True.intro | exact Or.inr True.intro | rfl) ?_
  try first | done | assumption | omega
  intro a9 n9 ha hn
  obtain rfl : a9 = 36 := by omega
  obtain rfl : n9 = 37 := by omega
  refine k_Bo_init_8 _ _ _ _ _ _ _ _ ?_
  simp (disch := omega) only [↓w_nil, ↓w_cons, ↓w_pfR_0, ↓w_ald0, ↓w_ic, ↓w_na, true_and, and_true, true_implies, false_implies, not_true_eq_false, not_false_eq_true, Int.reduceEq, Int.reduceLT, Int.reduceLE, Int.reduceNeg, w_up1, w_up2, w_up3, w_up1, w_up2, w_up3, w_sf1, w_sf3, ml_o, wh_o, mx_out, mx_in, ml_0, ml_r, wh_0, wh_1, whl_o, whl_e, whl_u, whl_0, h0]
  repeat refine And.intro (by first | decide +kernel | assumption | omega | (unfold in32; omega) | (unfold in64; omega) | exact True.intro | exact Or.inl True.intro | exact Or.inr True.intro | rfl) ?_
  try first | done | assumption | omega
  intro a9 n9 ha hn
  obtain rfl : a9 = 37 := by omega
  obtain rfl : n9 = 38 := by omega
  refine k_Bo_init_15 _ _ _ _ _ _ _ _ ?_
  simp (disch := omega) only [↓w_nil, ↓w_cons, ↓w_dupI, ↓w_dupR, ↓w_ic, ↓w_iast, ↓w_pfR_1, ↓w_ald0, ↓w_na, true_and, and_true, true_implies, false_implies, not_true_eq_false, not_false_eq_true, Int.reduceEq, Int.reduceLT, Int.reduceLE, Int.reduceNeg, w_up1, w_up2, w_up3, w_up1, w_up2, w_up3, w_sf1, w_sf3, ml_o, wh_o, mx_out, mx_in, ml_0, ml_r, wh_0, wh_1, whl_o, whl_e, whl_u, whl_0, h0]
  repeat refine And.intro (by first | decide +kernel | assumption | omega | (unfold in32; omega) | (unfold in64; omega) | exact True.intro | exact Or.inl True.intro | exact Or.inr True.intro | rfl) ?_
  try first | done | assumption | omega
  intro a9 n9 ha hn
  obtain rfl : a9 = 38 := by omega
  obtain rfl : n9 = 39 := by omega
  refine k_Bo_init_42 _ _ _ _ _ _ _ _ ?_
  simp (disch := omega) only [↓w_nil, ↓w_cons, ↓w_pfR_2, ↓w_ald0, ↓w_ic, ↓w_na, true_and, and_true, true_implies, false_implies, not_true_eq_false, not_false_eq_true, Int.reduceEq, Int.reduceLT, Int.reduceLE, Int.reduceNeg, w_up1, w_up2, w_up3, w_up1, w_up2, w_up3, w_sf1, w_sf3, ml_o, wh_o, mx_out, mx_in, ml_0, ml_r, wh_0, wh_1, whl_o, whl_e, whl_u, whl_0, h0]
  repeat refine And.intro (by first | decide +kernel | assumption | omega | (unfold in32; omega) | (unfold in64; omega) | exact True.intro | exact Or.inl True.intro | exact Or.inr True.intro | rfl) ?_
  try first | done | assumption | omega
  intro a9 n9 ha hn
  obtain rfl : a9 = 39 := by omega
  obtain rfl : n9 = 40 := by omega
  refine k_Bo_init_49 _ _ _ _ _ _ _ _ ?_
  simp (disch := omega) only [↓w_nil, ↓w_cons, ↓w_dupI, ↓w_dupR, ↓w_ic, ↓w_iast, ↓w_pfR_3, ↓w_ald0, ↓w_mn, true_and, and_true, true_implies, false_implies, not_true_eq_false, not_false_eq_true, Int.reduceEq, Int.reduceLT, Int.reduceLE, Int.reduceNeg, w_up1, w_up2, w_up3, w_up1, w_up2, w_up3, w_sf1, w_sf3, ml_o, wh_o, mx_out, mx_in, ml_0, ml_r, wh_0, wh_1, whl_o, whl_e, whl_u, whl_0, h0]
  repeat refine And.intro (by first | decide +kernel | assumption | omega | (unfold in32; omega) | (unfold in64; omega) | exact True.intro | exact Or.inl True.intro | exact Or.inr True.intro | rfl) ?_
  try first | done | assumption | omega
  intro a9 n9 ha hn
  obtain rfl : a9 = 40 := by omega
  obtain rfl : n9 = 45 := by omega
  refine k_Bo_init_75 _ _ _ _ _ _ _ _ ?_
  simp (disch := omega) only [↓w_nil, ↓w_cons, ↓w_pfR_4, ↓w_ald0, ↓w_ic, ↓w_na, true_and, and_true, true_implies, false_implies, not_true_eq_false, not_false_eq_true, Int.reduceEq, Int.reduceLT, Int.reduceLE, Int.reduceNeg, w_up1, w_up2, w_up3, w_up1, w_up2, w_up3, w_sf1, w_sf3, ml_o, wh_o, mx_out, mx_in, ml_0, ml_r, wh_0, wh_1, whl_o, whl_e, whl_u, whl_0, h0]
  repeat refine And.intro (by first | decide +kernel | assumption | omega | (unfold in32; omega) | (unfold in64; omega) | exact True.intro | exact Or.inl True.intro | exact Or.inr True.intro | rfl) ?_
  try first | done | assumption | omega
  intro a9 n9 ha hn
  obtain rfl : a9 = 45 := by omega
  obtain rfl : n9 = 46 := by omega
  refine k_Bo_init_82 _ _ _ _ _ _ _ _ ?_
  simp (disch := omega) only [↓w_nil, ↓w_cons, ↓w_pfR_5, ↓w_ald0, ↓w_ic, ↓w_na, true_and, and_true, true_implies, false_implies, not_true_eq_false, not_false_eq_true, Int.reduceEq, Int.reduceLT, Int.reduceLE, Int.reduceNeg, w_up1, w_up2, w_up3, w_up1, w_up2, w_up3, w_sf1, w_sf3, ml_o, wh_o, mx_out, mx_in, ml_0, ml_r, wh_0, wh_1, whl_o, whl_e, whl_u, whl_0, h0]
  repeat refine And.intro (by first | decide +kernel | assumption | omega | (unfold in32; omega) | (unfold in64; omega) | exact True.intro | exact Or.inl True.intro | exact Or.inr True.intro | rfl) ?_
  try first | done | assumption | omega
  intro a9 n9 ha hn
  obtain rfl : a9 = 46 := by omega
  obtain rfl : n9 = 47 := by omega
  refine k_Bo_init_89 _ _ _ _ _ _ _ _ ?_
  simp (disch := omega) only [↓w_nil, ↓w_cons, ↓w_pfR_6, ↓w_vret, true_and, and_true, true_implies, false_implies, not_true_eq_false, not_false_eq_true, Int.reduceEq, Int.reduceLT, Int.reduceLE, Int.reduceNeg, w_up1, w_up2, w_up3, w_up1, w_up2, w_up3, w_sf1, w_sf3, ml_o, wh_o, mx_out, mx_in, ml_0, ml_r, wh_0, wh_1, whl_o, whl_e, whl_u, whl_0, h0]
  repeat refine And.intro (by first | decide +kernel | assumption | omega | (unfold in32; omega) | (unfold in64; omega) | exact True.intro | exact Or.inl True.intro | exact Or.inr True.intro | rfl) ?_
  try first | done | assumption | omega
  try unfold cw_hide
  try refine ⟨rfl, ?_⟩
  intro c c0 c1 k q0 q1
  by_cases e0 : (35 : Int) ≤ c ∧ c < 47
  · rw [mx_in e0]
    rcases (show c = 35 ∨ c = 36 ∨ c = 37 ∨ c = 38 ∨ c = 39 ∨ c = 40 ∨ c = 41 ∨ c = 42 ∨ c = 43 ∨ c = 44 ∨ c = 45 ∨ c = 46 by omega) with rfl | rfl | rfl | rfl | rfl | rfl | rfl | rfl | rfl | rfl | rfl | rfl
    · rw [show cw_vs (Int.toNat 35) = 7 from by decide +kernel] at q1
      rcases (show k = 0 ∨ k = 1 ∨ k = 2 ∨ k = 3 ∨ k = 4 ∨ k = 5 ∨ k = 6 by omega) with rfl | rfl | rfl | rfl | rfl | rfl | rfl
      all_goals (simp (disch := omega) only [w_up1, w_up2, w_up3, w_sf1, w_sf3, ml_o, wh_o, mx_out, mx_in, ml_0, ml_r, wh_0, wh_1, whl_o, whl_e, whl_u, whl_0, h0]; decide +kernel)
    · simp (disch := omega) only [w_up1, w_up2, w_up3, w_sf1, w_sf3, ml_o, wh_o, mx_out, mx_in, ml_0, ml_r, wh_0, wh_1, whl_o, whl_e, whl_u, whl_0, h0]; exact W_z (by decide +kernel)
    · rw [show cw_vs (Int.toNat 37) = 4 from by decide +kernel] at q1
      rcases (show k = 0 ∨ k = 1 ∨ k = 2 ∨ k = 3 by omega) with rfl | rfl | rfl | rfl
      all_goals (simp (disch := omega) only [w_up1, w_up2, w_up3, w_sf1, w_sf3, ml_o, wh_o, mx_out, mx_in, ml_0, ml_r, wh_0, wh_1, whl_o, whl_e, whl_u, whl_0, h0]; decide +kernel)
    · simp (disch := omega) only [w_up1, w_up2, w_up3, w_sf1, w_sf3, ml_o, wh_o, mx_out, mx_in, ml_0, ml_r, wh_0, wh_1, whl_o, whl_e, whl_u, whl_0, h0]; exact W_z (by decide +kernel)
    · rw [show cw_vs (Int.toNat 39) = 4 from by decide +kernel] at q1
      rcases (show k = 0 ∨ k = 1 ∨ k = 2 ∨ k = 3 by omega) with rfl | rfl | rfl | rfl
      all_goals (simp (disch := omega) only [w_up1, w_up2, w_up3, w_sf1, w_sf3, ml_o, wh_o, mx_out, mx_in, ml_0, ml_r, wh_0, wh_1, whl_o, whl_e, whl_u, whl_0, h0]; decide +kernel)
    · rw [show cw_vs (Int.toNat 40) = 4 from by decide +kernel] at q1
      rcases (show k = 0 ∨ k = 1 ∨ k = 2 ∨ k = 3 by omega) with rfl | rfl | rfl | rfl
      all_goals (simp (disch := omega) only [w_up1, w_up2, w_up3, w_sf1, w_sf3, ml_o, wh_o, mx_out, mx_in, ml_0, ml_r, wh_0, wh_1, whl_o, whl_e, whl_u, whl_0, h0]; decide +kernel)
    · simp (disch := omega) only [w_up1, w_up2, w_up3, w_sf1, w_sf3, ml_o, wh_o, mx_out, mx_in, ml_0, ml_r, wh_0, wh_1, whl_o, whl_e, whl_u, whl_0, h0]; exact W_z (by decide +kernel)
    · simp (disch := omega) only [w_up1, w_up2, w_up3, w_sf1, w_sf3, ml_o, wh_o, mx_out, mx_in, ml_0, ml_r, wh_0, wh_1, whl_o, whl_e, whl_u, whl_0, h0]; exact W_z (by decide +kernel)
    · simp (disch := omega) only [w_up1, w_up2, w_up3, w_sf1, w_sf3, ml_o, wh_o, mx_out, mx_in, ml_0, ml_r, wh_0, wh_1, whl_o, whl_e, whl_u, whl_0, h0]; exact W_z (by decide +kernel)
    · simp (disch := omega) only [w_up1, w_up2, w_up3, w_sf1, w_sf3, ml_o, wh_o, mx_out, mx_in, ml_0, ml_r, wh_0, wh_1, whl_o, whl_e, whl_u, whl_0, h0]; exact W_z (by decide +kernel)
    · simp (disch := omega) only [w_up1, w_up2, w_up3, w_sf1, w_sf3, ml_o, wh_o, mx_out, mx_in, ml_0, ml_r, wh_0, wh_1, whl_o, whl_e, whl_u, whl_0, h0]; exact W_z (by decide +kernel)
    · simp (disch := omega) only [w_up1, w_up2, w_up3, w_sf1, w_sf3, ml_o, wh_o, mx_out, mx_in, ml_0, ml_r, wh_0, wh_1, whl_o, whl_e, whl_u, whl_0, h0]; exact W_z (by decide +kernel)
  · rw [mx_out e0]
    simp (disch := omega) only [w_up3, w_sf3, ml_o, wh_o, mx_out, whl_u]
set_option maxHeartbeats 8000000 in
theorem i_Ma_49 {g : cw_G} {M : cw_M} (h0 : M 49 = cw_zr 2) : cw_C g y_Ma_init [.inr (.inr 49)] M 50 74 (fun q M' => q = none ∧ M' = cw_mx M 49 74) := by
  refine cw_C_vis ?_
  refine cw_C_of (L := [.inr (.inr 49)]) ok_Ma_init (Nat.le_of_ble_eq_true rfl) (Nat.le_of_ble_eq_true rfl) rfl ?_
  refine cw_J_hide ?_
  refine k_Ma_init_0 _ _ _ _ _ _ _ _ ?_
  simp (disch := omega) only [↓w_nil, ↓w_cons, ↓w_ald0, ↓w_oi, true_and, and_true, true_implies, false_implies, not_true_eq_false, not_false_eq_true, Int.reduceEq, Int.reduceLT, Int.reduceLE, Int.reduceNeg, w_c80, w_c8I, w_c8L, w_c8R, w_up1, w_up2, w_up3, w_up1, w_up2, w_up3, w_sf1, w_sf3, ml_o, wh_o, mx_out, mx_in, ml_0, ml_r, wh_0, wh_1, whl_o, whl_e, whl_u, whl_0, h0]
  repeat refine And.intro (by first | decide +kernel | assumption | omega | (unfold in32; omega) | (unfold in64; omega) | exact True.intro | exact Or.inl True.intro | exact Or.inr True.intro | rfl) ?_
  try first | done | assumption | omega
  refine k_Ma_init_4 _ _ _ _ _ _ _ _ ?_
  simp (disch := omega) only [↓w_nil, ↓w_cons, ↓w_ald0, ↓w_ic, ↓w_mn, true_and, and_true, true_implies, false_implies, not_true_eq_false, not_false_eq_true, Int.reduceEq, Int.reduceLT, Int.reduceLE, Int.reduceNeg, w_up1, w_up2, w_up3, w_up1, w_up2, w_up3, w_sf1, w_sf3, ml_o, wh_o, mx_out, mx_in, ml_0, ml_r, wh_0, wh_1, whl_o, whl_e, whl_u, whl_0, h0]
  repeat refine And.intro (by first | decide +kernel | assumption | omega | (unfold in32; omega) | (unfold in64; omega) | exact True.intro | exact Or.inl True.intro | exact Or.inr True.intro | rfl) ?_
  try first | done | assumption | omega
  intro a9 n9 ha hn
  obtain rfl : a9 = 50 := by omega
  obtain rfl : n9 = 58 := by omega
  refine k_Ma_init_12 _ _ _ _ _ _ _ _ ?_
  simp (disch := omega) only [↓w_nil, ↓w_cons, ↓w_pfR_1, ↓w_ald0, ↓w_ic, ↓w_mn, true_and, and_true, true_implies, false_implies, not_true_eq_false, not_false_eq_true, Int.reduceEq, Int.reduceLT, Int.reduceLE, Int.reduceNeg, w_up1, w_up2, w_up3, w_up1, w_up2, w_up3, w_sf1, w_sf3, ml_o, wh_o, mx_out, mx_in, ml_0, ml_r, wh_0, wh_1, whl_o, whl_e, whl_u, whl_0, h0]
  repeat refine And.intro (by first | decide +kernel | assumption | omega | (unfold in32; omega) | (unfold in64; omega) | exact True.intro | exact Or.inl True.intro | exact Or.inr True.intro | rfl) ?_
  try first | done | assumption | omega
  intro a9 n9 ha hn
  obtain rfl : a9 = 58 := by omega
  obtain rfl : n9 = 66 := by omega
  refine k_Ma_init_24 _ _ _ _ _ _ _ _ ?_
  simp (disch := omega) only [↓w_nil, ↓w_cons, ↓w_pfR_2, ↓w_ald0, ↓w_ic, ↓w_na, true_and, and_true, true_implies, false_implies, not_true_eq_false, not_false_eq_true, Int.reduceEq, Int.reduceLT, Int.reduceLE, Int.reduceNeg, w_up1, w_up2, w_up3, w_up1, w_up2, w_up3, w_sf1, w_sf3, ml_o, wh_o, mx_out, mx_in, ml_0, ml_r, wh_0, wh_1, whl_o, whl_e, whl_u, whl_0, h0]
  repeat refine And.intro (by first | decide +kernel | assumption | omega | (unfold in32; omega) | (unfold in64; omega) | exact True.intro | exact Or.inl True.intro | exact Or.inr True.intro | rfl) ?_
  try first | done | assumption | omega
  intro a9 n9 ha hn
  obtain rfl : a9 = 66 := by omega
  obtain rfl : n9 = 67 := by omega
  refine k_Ma_init_32 _ _ _ _ _ _ _ _ ?_
  simp (disch := omega) only [↓w_nil, ↓w_cons, ↓w_pfR_3, ↓w_ald0, ↓w_ic, ↓w_mn, true_and, and_true, true_implies, false_implies, not_true_eq_false, not_false_eq_true, Int.reduceEq, Int.reduceLT, Int.reduceLE, Int.reduceNeg, w_up1, w_up2, w_up3, w_up1, w_up2, w_up3, w_sf1, w_sf3, ml_o, wh_o, mx_out, mx_in, ml_0, ml_r, wh_0, wh_1, whl_o, whl_e, whl_u, whl_0, h0]
  repeat refine And.intro (by first | decide +kernel | assumption | omega | (unfold in32; omega) | (unfold in64; omega) | exact True.intro | exact Or.inl True.intro | exact Or.inr True.intro | rfl) ?_
  try first | done | assumption | omega
  intro a9 n9 ha hn
  obtain rfl : a9 = 67 := by omega
  obtain rfl : n9 = 72 := by omega
  refine k_Ma_init_43 _ _ _ _ _ _ _ _ ?_
  simp (disch := omega) only [↓w_nil, ↓w_cons, ↓w_pfR_4, ↓w_ald0, ↓w_ic, ↓w_na, true_and, and_true, true_implies, false_implies, not_true_eq_false, not_false_eq_true, Int.reduceEq, Int.reduceLT, Int.reduceLE, Int.reduceNeg, w_up1, w_up2, w_up3, w_up1, w_up2, w_up3, w_sf1, w_sf3, ml_o, wh_o, mx_out, mx_in, ml_0, ml_r, wh_0, wh_1, whl_o, whl_e, whl_u, whl_0, h0]
  repeat refine And.intro (by first | decide +kernel | assumption | omega | (unfold in32; omega) | (unfold in64; omega) | exact True.intro | exact Or.inl True.intro | exact Or.inr True.intro | rfl) ?_
  try first | done | assumption | omega
  intro a9 n9 ha hn
  obtain rfl : a9 = 72 := by omega
  obtain rfl : n9 = 73 := by omega
  refine k_Ma_init_50 _ _ _ _ _ _ _ _ ?_
  simp (disch := omega) only [↓w_nil, ↓w_cons, ↓w_pfR_5, ↓w_ald0, ↓w_ic, ↓w_na, true_and, and_true, true_implies, false_implies, not_true_eq_false, not_false_eq_true, Int.reduceEq, Int.reduceLT, Int.reduceLE, Int.reduceNeg, w_up1, w_up2, w_up3, w_up1, w_up2, w_up3, w_sf1, w_sf3, ml_o, wh_o, mx_out, mx_in, ml_0, ml_r, wh_0, wh_1, whl_o, whl_e, whl_u, whl_0, h0]
  repeat refine And.intro (by first | decide +kernel | assumption | omega | (unfold in32; omega) | (unfold in64; omega) | exact True.intro | exact Or.inl True.intro | exact Or.inr True.intro | rfl) ?_
  try first | done | assumption | omega
  intro a9 n9 ha hn
  obtain rfl : a9 = 73 := by omega
  obtain rfl : n9 = 74 := by omega
  refine k_Ma_init_58 _ _ _ _ _ _ _ _ ?_
  simp (disch := omega) only [↓w_nil, ↓w_cons, ↓w_pfR_7, ↓w_vret, true_and, and_true, true_implies, false_implies, not_true_eq_false, not_false_eq_true, Int.reduceEq, Int.reduceLT, Int.reduceLE, Int.reduceNeg, w_up1, w_up2, w_up3, w_up1, w_up2, w_up3, w_sf1, w_sf3, ml_o, wh_o, mx_out, mx_in, ml_0, ml_r, wh_0, wh_1, whl_o, whl_e, whl_u, whl_0, h0]
  repeat refine And.intro (by first | decide +kernel | assumption | omega | (unfold in32; omega) | (unfold in64; omega) | exact True.intro | exact Or.inl True.intro | exact Or.inr True.intro | rfl) ?_
  try first | done | assumption | omega
  try unfold cw_hide
  try refine ⟨rfl, ?_⟩
  intro c c0 c1 k q0 q1
  by_cases e0 : (49 : Int) ≤ c ∧ c < 74
  · rw [mx_in e0]
    rcases (show c = 49 ∨ c = 50 ∨ c = 51 ∨ c = 52 ∨ c = 53 ∨ c = 54 ∨ c = 55 ∨ c = 56 ∨ c = 57 ∨ c = 58 ∨ c = 59 ∨ c = 60 ∨ c = 61 ∨ c = 62 ∨ c = 63 ∨ c = 64 ∨ c = 65 ∨ c = 66 ∨ c = 67 ∨ c = 68 ∨ c = 69 ∨ c = 70 ∨ c = 71 ∨ c = 72 ∨ c = 73 by omega) with rfl | rfl | rfl | rfl | rfl | rfl | rfl | rfl | rfl | rfl | rfl | rfl | rfl | rfl | rfl | rfl | rfl | rfl | rfl | rfl | rfl | rfl | rfl | rfl | rfl
    · rw [show cw_vs (Int.toNat 49) = 9 from by decide +kernel] at q1
      rcases (show k = 0 ∨ k = 1 ∨ k = 2 ∨ k = 3 ∨ k = 4 ∨ k = 5 ∨ k = 6 ∨ k = 7 ∨ k = 8 by omega) with rfl | rfl | rfl | rfl | rfl | rfl | rfl | rfl | rfl
      all_goals (simp (disch := omega) only [w_up1, w_up2, w_up3, w_sf1, w_sf3, ml_o, wh_o, mx_out, mx_in, ml_0, ml_r, wh_0, wh_1, whl_o, whl_e, whl_u, whl_0, h0]; decide +kernel)
    · rw [show cw_vs (Int.toNat 50) = 7 from by decide +kernel] at q1
      rcases (show k = 0 ∨ k = 1 ∨ k = 2 ∨ k = 3 ∨ k = 4 ∨ k = 5 ∨ k = 6 by omega) with rfl | rfl | rfl | rfl | rfl | rfl | rfl
      all_goals (simp (disch := omega) only [w_up1, w_up2, w_up3, w_sf1, w_sf3, ml_o, wh_o, mx_out, mx_in, ml_0, ml_r, wh_0, wh_1, whl_o, whl_e, whl_u, whl_0, h0]; decide +kernel)
    · simp (disch := omega) only [w_up1, w_up2, w_up3, w_sf1, w_sf3, ml_o, wh_o, mx_out, mx_in, ml_0, ml_r, wh_0, wh_1, whl_o, whl_e, whl_u, whl_0, h0]; exact W_z (by decide +kernel)
    · simp (disch := omega) only [w_up1, w_up2, w_up3, w_sf1, w_sf3, ml_o, wh_o, mx_out, mx_in, ml_0, ml_r, wh_0, wh_1, whl_o, whl_e, whl_u, whl_0, h0]; exact W_z (by decide +kernel)
    · simp (disch := omega) only [w_up1, w_up2, w_up3, w_sf1, w_sf3, ml_o, wh_o, mx_out, mx_in, ml_0, ml_r, wh_0, wh_1, whl_o, whl_e, whl_u, whl_0, h0]; exact W_z (by decide +kernel)
    · simp (disch := omega) only [w_up1, w_up2, w_up3, w_sf1, w_sf3, ml_o, wh_o, mx_out, mx_in, ml_0, ml_r, wh_0, wh_1, whl_o, whl_e, whl_u, whl_0, h0]; exact W_z (by decide +kernel)
    · simp (disch := omega) only [w_up1, w_up2, w_up3, w_sf1, w_sf3, ml_o, wh_o, mx_out, mx_in, ml_0, ml_r, wh_0, wh_1, whl_o, whl_e, whl_u, whl_0, h0]; exact W_z (by decide +kernel)
    · simp (disch := omega) only [w_up1, w_up2, w_up3, w_sf1, w_sf3, ml_o, wh_o, mx_out, mx_in, ml_0, ml_r, wh_0, wh_1, whl_o, whl_e, whl_u, whl_0, h0]; exact W_z (by decide +kernel)
    · simp (disch := omega) only [w_up1, w_up2, w_up3, w_sf1, w_sf3, ml_o, wh_o, mx_out, mx_in, ml_0, ml_r, wh_0, wh_1, whl_o, whl_e, whl_u, whl_0, h0]; exact W_z (by decide +kernel)
    · rw [show cw_vs (Int.toNat 58) = 7 from by decide +kernel] at q1
      rcases (show k = 0 ∨ k = 1 ∨ k = 2 ∨ k = 3 ∨ k = 4 ∨ k = 5 ∨ k = 6 by omega) with rfl | rfl | rfl | rfl | rfl | rfl | rfl
      all_goals (simp (disch := omega) only [w_up1, w_up2, w_up3, w_sf1, w_sf3, ml_o, wh_o, mx_out, mx_in, ml_0, ml_r, wh_0, wh_1, whl_o, whl_e, whl_u, whl_0, h0]; decide +kernel)
    · simp (disch := omega) only [w_up1, w_up2, w_up3, w_sf1, w_sf3, ml_o, wh_o, mx_out, mx_in, ml_0, ml_r, wh_0, wh_1, whl_o, whl_e, whl_u, whl_0, h0]; exact W_z (by decide +kernel)
    · simp (disch := omega) only [w_up1, w_up2, w_up3, w_sf1, w_sf3, ml_o, wh_o, mx_out, mx_in, ml_0, ml_r, wh_0, wh_1, whl_o, whl_e, whl_u, whl_0, h0]; exact W_z (by decide +kernel)
    · simp (disch := omega) only [w_up1, w_up2, w_up3, w_sf1, w_sf3, ml_o, wh_o, mx_out, mx_in, ml_0, ml_r, wh_0, wh_1, whl_o, whl_e, whl_u, whl_0, h0]; exact W_z (by decide +kernel)
    · simp (disch := omega) only [w_up1, w_up2, w_up3, w_sf1, w_sf3, ml_o, wh_o, mx_out, mx_in, ml_0, ml_r, wh_0, wh_1, whl_o, whl_e, whl_u, whl_0, h0]; exact W_z (by decide +kernel)
    · simp (disch := omega) only [w_up1, w_up2, w_up3, w_sf1, w_sf3, ml_o, wh_o, mx_out, mx_in, ml_0, ml_r, wh_0, wh_1, whl_o, whl_e, whl_u, whl_0, h0]; exact W_z (by decide +kernel)
    · simp (disch := omega) only [w_up1, w_up2, w_up3, w_sf1, w_sf3, ml_o, wh_o, mx_out, mx_in, ml_0, ml_r, wh_0, wh_1, whl_o, whl_e, whl_u, whl_0, h0]; exact W_z (by decide +kernel)
    · simp (disch := omega) only [w_up1, w_up2, w_up3, w_sf1, w_sf3, ml_o, wh_o, mx_out, mx_in, ml_0, ml_r, wh_0, wh_1, whl_o, whl_e, whl_u, whl_0, h0]; exact W_z (by decide +kernel)
    · simp (disch := omega) only [w_up1, w_up2, w_up3, w_sf1, w_sf3, ml_o, wh_o, mx_out, mx_in, ml_0, ml_r, wh_0, wh_1, whl_o, whl_e, whl_u, whl_0, h0]; exact W_z (by decide +kernel)
    · rw [show cw_vs (Int.toNat 67) = 4 from by decide +kernel] at q1
      rcases (show k = 0 ∨ k = 1 ∨ k = 2 ∨ k = 3 by omega) with rfl | rfl | rfl | rfl
      all_goals (simp (disch := omega) only [w_up1, w_up2, w_up3, w_sf1, w_sf3, ml_o, wh_o, mx_out, mx_in, ml_0, ml_r, wh_0, wh_1, whl_o, whl_e, whl_u, whl_0, h0]; decide +kernel)
    · simp (disch := omega) only [w_up1, w_up2, w_up3, w_sf1, w_sf3, ml_o, wh_o, mx_out, mx_in, ml_0, ml_r, wh_0, wh_1, whl_o, whl_e, whl_u, whl_0, h0]; exact W_z (by decide +kernel)
    · simp (disch := omega) only [w_up1, w_up2, w_up3, w_sf1, w_sf3, ml_o, wh_o, mx_out, mx_in, ml_0, ml_r, wh_0, wh_1, whl_o, whl_e, whl_u, whl_0, h0]; exact W_z (by decide +kernel)
    · simp (disch := omega) only [w_up1, w_up2, w_up3, w_sf1, w_sf3, ml_o, wh_o, mx_out, mx_in, ml_0, ml_r, wh_0, wh_1, whl_o, whl_e, whl_u, whl_0, h0]; exact W_z (by decide +kernel)
    · simp (disch := omega) only [w_up1, w_up2, w_up3, w_sf1, w_sf3, ml_o, wh_o, mx_out, mx_in, ml_0, ml_r, wh_0, wh_1, whl_o, whl_e, whl_u, whl_0, h0]; exact W_z (by decide +kernel)
    · simp (disch := omega) only [w_up1, w_up2, w_up3, w_sf1, w_sf3, ml_o, wh_o, mx_out, mx_in, ml_0, ml_r, wh_0, wh_1, whl_o, whl_e, whl_u, whl_0, h0]; exact W_z (by decide +kernel)
    · simp (disch := omega) only [w_up1, w_up2, w_up3, w_sf1, w_sf3, ml_o, wh_o, mx_out, mx_in, ml_0, ml_r, wh_0, wh_1, whl_o, whl_e, whl_u, whl_0, h0]; exact W_z (by decide +kernel)
  · rw [mx_out e0]
    simp (disch := omega) only [w_up3, w_sf3, ml_o, wh_o, mx_out, whl_u]
set_option maxHeartbeats 8000000 in
theorem i_Se_74 {g : cw_G} {M : cw_M} (h0 : M 74 = cw_zr 6) : cw_C g y_Se_init [.inr (.inr 74)] M 75 78 (fun q M' => q = none ∧ M' = cw_mx M 74 78) := by
  refine cw_C_vis ?_
  refine cw_C_of (L := [.inr (.inr 74)]) ok_Se_init (Nat.le_of_ble_eq_true rfl) (Nat.le_of_ble_eq_true rfl) rfl ?_
  refine cw_J_hide ?_
  refine k_Se_init_0 _ _ _ _ _ _ _ _ ?_
  simp (disch := omega) only [↓w_nil, ↓w_cons, ↓w_ald0, ↓w_oi, true_and, and_true, true_implies, false_implies, not_true_eq_false, not_false_eq_true, Int.reduceEq, Int.reduceLT, Int.reduceLE, Int.reduceNeg, w_c80, w_c8I, w_c8L, w_c8R, w_up1, w_up2, w_up3, w_up1, w_up2, w_up3, w_sf1, w_sf3, ml_o, wh_o, mx_out, mx_in, ml_0, ml_r, wh_0, wh_1, whl_o, whl_e, whl_u, whl_0, h0]
  repeat refine And.intro (by first | decide +kernel | assumption | omega | (unfold in32; omega) | (unfold in64; omega) | exact True.intro | exact Or.inl True.intro | exact Or.inr True.intro | rfl) ?_
  try first | done | assumption | omega
  refine k_Se_init_4 _ _ _ _ _ _ _ _ ?_
  simp (disch := omega) only [↓w_nil, ↓w_cons, ↓w_ald0, ↓w_ic, ↓w_na, true_and, and_true, true_implies, false_implies, not_true_eq_false, not_false_eq_true, Int.reduceEq, Int.reduceLT, Int.reduceLE, Int.reduceNeg, w_up1, w_up2, w_up3, w_up1, w_up2, w_up3, w_sf1, w_sf3, ml_o, wh_o, mx_out, mx_in, ml_0, ml_r, wh_0, wh_1, whl_o, whl_e, whl_u, whl_0, h0]
  repeat refine And.intro (by first | decide +kernel | assumption | omega | (unfold in32; omega) | (unfold in64; omega) | exact True.intro | exact Or.inl True.intro | exact Or.inr True.intro | rfl) ?_
  try first | done | assumption | omega
  intro a9 n9 ha hn
  obtain rfl : a9 = 75 := by omega
  obtain rfl : n9 = 76 := by omega
  refine k_Se_init_9 _ _ _ _ _ _ _ _ ?_
  simp (disch := omega) only [↓w_nil, ↓w_cons, ↓w_pfR_1, ↓w_ald0, ↓w_ic, ↓w_na, true_and, and_true, true_implies, false_implies, not_true_eq_false, not_false_eq_true, Int.reduceEq, Int.reduceLT, Int.reduceLE, Int.reduceNeg, w_up1, w_up2, w_up3, w_up1, w_up2, w_up3, w_sf1, w_sf3, ml_o, wh_o, mx_out, mx_in, ml_0, ml_r, wh_0, wh_1, whl_o, whl_e, whl_u, whl_0, h0]
  repeat refine And.intro (by first | decide +kernel | assumption | omega | (unfold in32; omega) | (unfold in64; omega) | exact True.intro | exact Or.inl True.intro | exact Or.inr True.intro | rfl) ?_
  try first | done | assumption | omega
  intro a9 n9 ha hn
  obtain rfl : a9 = 76 := by omega
  obtain rfl : n9 = 77 := by omega
  refine k_Se_init_17 _ _ _ _ _ _ _ _ ?_
  simp (disch := omega) only [↓w_nil, ↓w_cons, ↓w_pfR_2, ↓w_ald0, ↓w_ic, ↓w_na, true_and, and_true, true_implies, false_implies, not_true_eq_false, not_false_eq_true, Int.reduceEq, Int.reduceLT, Int.reduceLE, Int.reduceNeg, w_up1, w_up2, w_up3, w_up1, w_up2, w_up3, w_sf1, w_sf3, ml_o, wh_o, mx_out, mx_in, ml_0, ml_r, wh_0, wh_1, whl_o, whl_e, whl_u, whl_0, h0]
  repeat refine And.intro (by first | decide +kernel | assumption | omega | (unfold in32; omega) | (unfold in64; omega) | exact True.intro | exact Or.inl True.intro | exact Or.inr True.intro | rfl) ?_
  try first | done | assumption | omega
  intro a9 n9 ha hn
  obtain rfl : a9 = 77 := by omega
  obtain rfl : n9 = 78 := by omega
  refine k_Se_init_25 _ _ _ _ _ _ _ _ ?_
  simp (disch := omega) only [↓w_nil, ↓w_cons, ↓w_pfR_3, ↓w_vret, true_and, and_true, true_implies, false_implies, not_true_eq_false, not_false_eq_true, Int.reduceEq, Int.reduceLT, Int.reduceLE, Int.reduceNeg, w_up1, w_up2, w_up3, w_up1, w_up2, w_up3, w_sf1, w_sf3, ml_o, wh_o, mx_out, mx_in, ml_0, ml_r, wh_0, wh_1, whl_o, whl_e, whl_u, whl_0, h0]
  repeat refine And.intro (by first | decide +kernel | assumption | omega | (unfold in32; omega) | (unfold in64; omega) | exact True.intro | exact Or.inl True.intro | exact Or.inr True.intro | rfl) ?_
  try first | done | assumption | omega
  try unfold cw_hide
  try refine ⟨rfl, ?_⟩
  intro c c0 c1 k q0 q1
  by_cases e0 : (74 : Int) ≤ c ∧ c < 78
  · rw [mx_in e0]
    rcases (show c = 74 ∨ c = 75 ∨ c = 76 ∨ c = 77 by omega) with rfl | rfl | rfl | rfl
    · rw [show cw_vs (Int.toNat 74) = 4 from by decide +kernel] at q1
      rcases (show k = 0 ∨ k = 1 ∨ k = 2 ∨ k = 3 by omega) with rfl | rfl | rfl | rfl
      all_goals (simp (disch := omega) only [w_up1, w_up2, w_up3, w_sf1, w_sf3, ml_o, wh_o, mx_out, mx_in, ml_0, ml_r, wh_0, wh_1, whl_o, whl_e, whl_u, whl_0, h0]; decide +kernel)
    · simp (disch := omega) only [w_up1, w_up2, w_up3, w_sf1, w_sf3, ml_o, wh_o, mx_out, mx_in, ml_0, ml_r, wh_0, wh_1, whl_o, whl_e, whl_u, whl_0, h0]; exact W_z (by decide +kernel)
    · simp (disch := omega) only [w_up1, w_up2, w_up3, w_sf1, w_sf3, ml_o, wh_o, mx_out, mx_in, ml_0, ml_r, wh_0, wh_1, whl_o, whl_e, whl_u, whl_0, h0]; exact W_z (by decide +kernel)
    · simp (disch := omega) only [w_up1, w_up2, w_up3, w_sf1, w_sf3, ml_o, wh_o, mx_out, mx_in, ml_0, ml_r, wh_0, wh_1, whl_o, whl_e, whl_u, whl_0, h0]; exact W_z (by decide +kernel)
  · rw [mx_out e0]
    simp (disch := omega) only [w_up3, w_sf3, ml_o, wh_o, mx_out, whl_u]
set_option maxHeartbeats 8000000 in
theorem i_Sl_78 {g : cw_G} {M : cw_M} (h0 : M 78 = cw_zr 7) : cw_C g y_Sl_init [.inr (.inr 78)] M 79 81 (fun q M' => q = none ∧ M' = cw_mx M 78 81) := by
  refine cw_C_vis ?_
  refine cw_C_of (L := [.inr (.inr 78)]) ok_Sl_init (Nat.le_of_ble_eq_true rfl) (Nat.le_of_ble_eq_true rfl) rfl ?_
  refine cw_J_hide ?_
  refine k_Sl_init_0 _ _ _ _ _ _ _ _ ?_
  simp (disch := omega) only [↓w_nil, ↓w_cons, ↓w_ald0, ↓w_oi, true_and, and_true, true_implies, false_implies, not_true_eq_false, not_false_eq_true, Int.reduceEq, Int.reduceLT, Int.reduceLE, Int.reduceNeg, w_c80, w_c8I, w_c8L, w_c8R, w_up1, w_up2, w_up3, w_up1, w_up2, w_up3, w_sf1, w_sf3, ml_o, wh_o, mx_out, mx_in, ml_0, ml_r, wh_0, wh_1, whl_o, whl_e, whl_u, whl_0, h0]
  repeat refine And.intro (by first | decide +kernel | assumption | omega | (unfold in32; omega) | (unfold in64; omega) | exact True.intro | exact Or.inl True.intro | exact Or.inr True.intro | rfl) ?_
  try first | done | assumption | omega
  refine k_Sl_init_4 _ _ _ _ _ _ _ _ ?_
  simp (disch := omega) only [↓w_nil, ↓w_cons, ↓w_ald0, ↓w_ic, ↓w_pfI_0, ↓w_na, true_and, and_true, true_implies, false_implies, not_true_eq_false, not_false_eq_true, Int.reduceEq, Int.reduceLT, Int.reduceLE, Int.reduceNeg, w_up1, w_up2, w_up3, w_up1, w_up2, w_up3, w_sf1, w_sf3, ml_o, wh_o, mx_out, mx_in, ml_0, ml_r, wh_0, wh_1, whl_o, whl_e, whl_u, whl_0, h0]
  repeat refine And.intro (by first | decide +kernel | assumption | omega | (unfold in32; omega) | (unfold in64; omega) | exact True.intro | exact Or.inl True.intro | exact Or.inr True.intro | rfl) ?_
  try first | done | assumption | omega
  intro a9 n9 ha hn
  obtain rfl : a9 = 79 := by omega
  obtain rfl : n9 = 80 := by omega
  refine k_Sl_init_15 _ _ _ _ _ _ _ _ ?_
  simp (disch := omega) only [↓w_nil, ↓w_cons, ↓w_pfR_1, ↓w_ald0, ↓w_ic, ↓w_na, true_and, and_true, true_implies, false_implies, not_true_eq_false, not_false_eq_true, Int.reduceEq, Int.reduceLT, Int.reduceLE, Int.reduceNeg, w_up1, w_up2, w_up3, w_up1, w_up2, w_up3, w_sf1, w_sf3, ml_o, wh_o, mx_out, mx_in, ml_0, ml_r, wh_0, wh_1, whl_o, whl_e, whl_u, whl_0, h0]
  repeat refine And.intro (by first | decide +kernel | assumption | omega | (unfold in32; omega) | (unfold in64; omega) | exact True.intro | exact Or.inl True.intro | exact Or.inr True.intro | rfl) ?_
  try first | done | assumption | omega
  intro a9 n9 ha hn
  obtain rfl : a9 = 80 := by omega
  obtain rfl : n9 = 81 := by omega
  refine k_Sl_init_23 _ _ _ _ _ _ _ _ ?_
  simp (disch := omega) only [↓w_nil, ↓w_cons, ↓w_pfR_2, ↓w_vret, true_and, and_true, true_implies, false_implies, not_true_eq_false, not_false_eq_true, Int.reduceEq, Int.reduceLT, Int.reduceLE, Int.reduceNeg, w_up1, w_up2, w_up3, w_up1, w_up2, w_up3, w_sf1, w_sf3, ml_o, wh_o, mx_out, mx_in, ml_0, ml_r, wh_0, wh_1, whl_o, whl_e, whl_u, whl_0, h0]
  repeat refine And.intro (by first | decide +kernel | assumption | omega | (unfold in32; omega) | (unfold in64; omega) | exact True.intro | exact Or.inl True.intro | exact Or.inr True.intro | rfl) ?_
  try first | done | assumption | omega
  try unfold cw_hide
  try refine ⟨rfl, ?_⟩
  intro c c0 c1 k q0 q1
  by_cases e0 : (78 : Int) ≤ c ∧ c < 81
  · rw [mx_in e0]
    rcases (show c = 78 ∨ c = 79 ∨ c = 80 by omega) with rfl | rfl | rfl
    · rw [show cw_vs (Int.toNat 78) = 3 from by decide +kernel] at q1
      rcases (show k = 0 ∨ k = 1 ∨ k = 2 by omega) with rfl | rfl | rfl
      all_goals (simp (disch := omega) only [w_up1, w_up2, w_up3, w_sf1, w_sf3, ml_o, wh_o, mx_out, mx_in, ml_0, ml_r, wh_0, wh_1, whl_o, whl_e, whl_u, whl_0, h0]; decide +kernel)
    · simp (disch := omega) only [w_up1, w_up2, w_up3, w_sf1, w_sf3, ml_o, wh_o, mx_out, mx_in, ml_0, ml_r, wh_0, wh_1, whl_o, whl_e, whl_u, whl_0, h0]; exact W_z (by decide +kernel)
    · simp (disch := omega) only [w_up1, w_up2, w_up3, w_sf1, w_sf3, ml_o, wh_o, mx_out, mx_in, ml_0, ml_r, wh_0, wh_1, whl_o, whl_e, whl_u, whl_0, h0]; exact W_z (by decide +kernel)
  · rw [mx_out e0]
    simp (disch := omega) only [w_up3, w_sf3, ml_o, wh_o, mx_out, whl_u]
set_option maxHeartbeats 8000000 in
theorem i_Dr_81 {g : cw_G} {M : cw_M} (h0 : M 81 = cw_zr 1) : cw_C g y_Dr_init [.inr (.inr 81)] M 82 82 (fun q M' => q = none ∧ M' = cw_mx M 81 82) := by
  refine cw_C_vis ?_
  refine cw_C_of (L := [.inr (.inr 81)]) ok_Dr_init (Nat.le_of_ble_eq_true rfl) (Nat.le_of_ble_eq_true rfl) rfl ?_
  refine cw_J_hide ?_
  refine k_Dr_init_0 _ _ _ _ _ _ _ _ ?_
  simp (disch := omega) only [↓w_nil, ↓w_cons, ↓w_ald0, ↓w_oi, true_and, and_true, true_implies, false_implies, not_true_eq_false, not_false_eq_true, Int.reduceEq, Int.reduceLT, Int.reduceLE, Int.reduceNeg, w_c80, w_c8I, w_c8L, w_c8R, w_up1, w_up2, w_up3, w_up1, w_up2, w_up3, w_sf1, w_sf3, ml_o, wh_o, mx_out, mx_in, ml_0, ml_r, wh_0, wh_1, whl_o, whl_e, whl_u, whl_0, h0]
  repeat refine And.intro (by first | decide +kernel | assumption | omega | (unfold in32; omega) | (unfold in64; omega) | exact True.intro | exact Or.inl True.intro | exact Or.inr True.intro | rfl) ?_
  try first | done | assumption | omega
  refine k_Dr_init_4 _ _ _ _ _ _ _ _ ?_
  simp (disch := omega) only [↓w_nil, ↓w_cons, ↓w_ald0, ↓w_ic, ↓w_pfI_2, ↓w_pfI_3, ↓w_pfI_4, ↓w_pfZ_6, ↓w_vret, true_and, and_true, true_implies, false_implies, not_true_eq_false, not_false_eq_true, Int.reduceEq, Int.reduceLT, Int.reduceLE, Int.reduceNeg, w_up1, w_up2, w_up3, w_up1, w_up2, w_up3, w_sf1, w_sf3, ml_o, wh_o, mx_out, mx_in, ml_0, ml_r, wh_0, wh_1, whl_o, whl_e, whl_u, whl_0, h0]
  repeat refine And.intro (by first | decide +kernel | assumption | omega | (unfold in32; omega) | (unfold in64; omega) | exact True.intro | exact Or.inl True.intro | exact Or.inr True.intro | rfl) ?_
  try first | done | assumption | omega
  try unfold cw_hide
  try refine ⟨rfl, ?_⟩
  intro c c0 c1 k q0 q1
  by_cases e0 : (81 : Int) ≤ c ∧ c < 82
  · rw [mx_in e0]
    obtain rfl : c = 81 := by omega
    · rw [show cw_vs (Int.toNat 81) = 9 from by decide +kernel] at q1
      rcases (show k = 0 ∨ k = 1 ∨ k = 2 ∨ k = 3 ∨ k = 4 ∨ k = 5 ∨ k = 6 ∨ k = 7 ∨ k = 8 by omega) with rfl | rfl | rfl | rfl | rfl | rfl | rfl | rfl | rfl
      all_goals (simp (disch := omega) only [w_up1, w_up2, w_up3, w_sf1, w_sf3, ml_o, wh_o, mx_out, mx_in, ml_0, ml_r, wh_0, wh_1, whl_o, whl_e, whl_u, whl_0, h0]; decide +kernel)
  · rw [mx_out e0]
    simp (disch := omega) only [w_up3, w_sf3, ml_o, wh_o, mx_out, whl_u]
set_option maxHeartbeats 8000000 in
theorem i_Bo_82 {g : cw_G} {M : cw_M} (h0 : M 82 = cw_zr 0) : cw_C g y_Bo_init [.inr (.inr 82)] M 83 94 (fun q M' => q = none ∧ M' = cw_mx M 82 94) := by
  refine cw_C_vis ?_
  refine cw_C_of (L := [.inr (.inr 82)]) ok_Bo_init (Nat.le_of_ble_eq_true rfl) (Nat.le_of_ble_eq_true rfl) rfl ?_
  refine cw_J_hide ?_
  refine k_Bo_init_0 _ _ _ _ _ _ _ _ ?_
  simp (disch := omega) only [↓w_nil, ↓w_cons, ↓w_ald0, ↓w_oi, true_and, and_true, true_implies, false_implies, not_true_eq_false, not_false_eq_true, Int.reduceEq, Int.reduceLT, Int.reduceLE, Int.reduceNeg, w_c80, w_c8I, w_c8L, w_c8R, w_up1, w_up2, w_up3, w_up1, w_up2, w_up3, w_sf1, w_sf3, ml_o, wh_o, mx_out, mx_in, ml_0, ml_r, wh_0, wh_1, whl_o, whl_e, whl_u, whl_0, h0]
  repeat refine And.intro (by first | decide +kernel | assumption | omega | (unfold in32; omega) | (unfold in64; omega) | exact True.intro | exact Or.inl True.intro | exact Or.inr True.intro | rfl) ?_
  try first | done | assumption | omega
  refine k_Bo_init_4 _ _ _ _ _ _ _ _ ?_
  simp (disch := omega) only [↓w_nil, ↓w_cons, ↓w_ald0, ↓w_ic, ↓w_na, true_and, and_true, true_implies, false_implies, not_true_eq_false, not_false_eq_true, Int.reduceEq, Int.reduceLT, Int.reduceLE, Int.reduceNeg, w_up1, w_up2, w_up3, w_up1, w_up2, w_up3, w_sf1, w_sf3, ml_o, wh_o, mx_out, mx_in, ml_0, ml_r, wh_0, wh_1, whl_o, whl_e, whl_u, whl_0, h0]
  repeat refine And.intro (by first | decide +kernel | assumption | omega | (unfold in32; omega) | (unfold in64; omega) | exact True.intro | exact Or.inl True.intro | exact Or.inr True.intro | rfl) ?_
  try first | done | assumption | omega
  intro a9 n9 ha hn
  obtain rfl : a9 = 83 := by omega
  obtain rfl : n9 = 84 := by omega
  refine k_Bo_init_8 _ _ _ _ _ _ _ _ ?_
  simp (disch := omega) only [↓w_nil, ↓w_cons, ↓w_pfR_0, ↓w_ald0, ↓w_ic, ↓w_na, true_and, and_true, true_implies, false_implies, not_true_eq_false, not_false_eq_true, Int.reduceEq, Int.reduceLT, Int.reduceLE, Int.reduceNeg, w_up1, w_up2, w_up3, w_up1, w_up2, w_up3, w_sf1, w_sf3, ml_o, wh_o, mx_out, mx_in, ml_0, ml_r, wh_0, wh_1, whl_o, whl_e, whl_u, whl_0, h0]
  repeat refine And.intro (by first | decide +kernel | assumption | omega | (unfold in32; omega) | (unfold in64; omega) | exact True.intro | exact Or.inl True.intro | exact Or.inr True.intro | rfl) ?_
  try first | done | assumption | omega
  intro a9 n9 ha hn
  obtain rfl : a9 = 84 := by omega
  obtain rfl : n9 = 85 := by omega
  refine k_Bo_init_15 _ _ _ _ _ _ _ _ ?_
  simp (disch := omega) only [↓w_nil, ↓w_cons, ↓w_dupI, ↓w_dupR, ↓w_ic, ↓w_iast, ↓w_pfR_1, ↓w_ald0, ↓w_na, true_and, and_true, true_implies, false_implies, not_true_eq_false, not_false_eq_true, Int.reduceEq, Int.reduceLT, Int.reduceLE, Int.reduceNeg, w_up1, w_up2, w_up3, w_up1, w_up2, w_up3, w_sf1, w_sf3, ml_o, wh_o, mx_out, mx_in, ml_0, ml_r, wh_0, wh_1, whl_o, whl_e, whl_u, whl_0, h0]
  repeat refine And.intro (by first | decide +kernel | assumption | omega | (unfold in32; omega) | (unfold in64; omega) | exact True.intro | exact Or.inl True.intro | exact Or.inr True.intro | rfl) ?_
  try first | done | assumption | omega
  intro a9 n9 ha hn
  obtain rfl : a9 = 85 := by omega
  obtain rfl : n9 = 86 := by omega
  refine k_Bo_init_42 _ _ _ _ _ _ _ _ ?_
  simp (disch := omega) only [↓w_nil, ↓w_cons, ↓w_pfR_2, ↓w_ald0, ↓w_ic, ↓w_na, true_and, and_true, true_implies, false_implies, not_true_eq_false, not_false_eq_true, Int.reduceEq, Int.reduceLT, Int.reduceLE, Int.reduceNeg, w_up1, w_up2, w_up3, w_up1, w_up2, w_up3, w_sf1, w_sf3, ml_o, wh_o, mx_out, mx_in, ml_0, ml_r, wh_0, wh_1, whl_o, whl_e, whl_u, whl_0, h0]
  repeat refine And.intro (by first | decide +kernel | assumption | omega | (unfold in32; omega) | (unfold in64; omega) | exact True.intro | exact Or.inl True.intro | exact Or.inr True.intro | rfl) ?_
  try first | done | assumption | omega
  intro a9 n9 ha hn
  obtain rfl : a9 = 86 := by omega
  obtain rfl : n9 = 87 := by omega
  refine k_Bo_init_49 _ _ _ _ _ _ _ _ ?_
  simp (disch := omega) only [↓w_nil, ↓w_cons, ↓w_dupI, ↓w_dupR, ↓w_ic, ↓w_iast, ↓w_pfR_3, ↓w_ald0, ↓w_mn, true_and, and_true, true_implies, false_implies, not_true_eq_false, not_false_eq_true, Int.reduceEq, Int.reduceLT, Int.reduceLE, Int.reduceNeg, w_up1, w_up2, w_up3, w_up1, w_up2, w_up3, w_sf1, w_sf3, ml_o, wh_o, mx_out, mx_in, ml_0, ml_r, wh_0, wh_1, whl_o, whl_e, whl_u, whl_0, h0]
  repeat refine And.intro (by first | decide +kernel | assumption | omega | (unfold in32; omega) | (unfold in64; omega) | exact True.intro | exact Or.inl True.intro | exact Or.inr True.intro | rfl) ?_
  try first | done | assumption | omega
  intro a9 n9 ha hn
  obtain rfl : a9 = 87 := by omega
  obtain rfl : n9 = 92 := by omega
  refine k_Bo_init_75 _ _ _ _ _ _ _ _ ?_
  simp (disch := omega) only [↓w_nil, ↓w_cons, ↓w_pfR_4, ↓w_ald0, ↓w_ic, ↓w_na, true_and, and_true, true_implies, false_implies, not_true_eq_false, not_false_eq_true, Int.reduceEq, Int.reduceLT, Int.reduceLE, Int.reduceNeg, w_up1, w_up2, w_up3, w_up1, w_up2, w_up3, w_sf1, w_sf3, ml_o, wh_o, mx_out, mx_in, ml_0, ml_r, wh_0, wh_1, whl_o, whl_e, whl_u, whl_0, h0]
  repeat refine And.intro (by first | decide +kernel | assumption | omega | (unfold in32; omega) | (unfold in64; omega) | exact True.intro | exact Or.inl True.intro | exact Or.inr True.intro | rfl) ?_
  try first | done | assumption | omega
  intro a9 n9 ha hn
  obtain rfl : a9 = 92 := by omega
  obtain rfl : n9 = 93 := by omega
  refine k_Bo_init_82 _ _ _ _ _ _ _ _ ?_
  simp (disch := omega) only [↓w_nil, ↓w_cons, ↓w_pfR_5, ↓w_ald0, ↓w_ic, ↓w_na, true_and, and_true, true_implies, false_implies, not_true_eq_false, not_false_eq_true, Int.reduceEq, Int.reduceLT, Int.reduceLE, Int.reduceNeg, w_up1, w_up2, w_up3, w_up1, w_up2, w_up3, w_sf1, w_sf3, ml_o, wh_o, mx_out, mx_in, ml_0, ml_r, wh_0, wh_1, whl_o, whl_e, whl_u, whl_0, h0]
  repeat refine And.intro (by first | decide +kernel | assumption | omega | (unfold in32; omega) | (unfold in64; omega) | exact True.intro | exact Or.inl True.intro | exact Or.inr True.intro | rfl) ?_
  try first | done | assumption | omega
  intro a9 n9 ha hn
  obtain rfl : a9 = 93 := by omega
  obtain rfl : n9 = 94 := by omega
  refine k_Bo_init_89 _ _ _ _ _ _ _ _ ?_
  simp (disch := omega) only [↓w_nil, ↓w_cons, ↓w_pfR_6, ↓w_vret, true_and, and_true, true_implies, false_implies, not_true_eq_false, not_false_eq_true, Int.reduceEq, Int.reduceLT, Int.reduceLE, Int.reduceNeg, w_up1, w_up2, w_up3, w_up1, w_up2, w_up3, w_sf1, w_sf3, ml_o, wh_o, mx_out, mx_in, ml_0, ml_r, wh_0, wh_1, whl_o, whl_e, whl_u, whl_0, h0]
  repeat refine And.intro (by first | decide +kernel | assumption | omega | (unfold in32; omega) | (unfold in64; omega) | exact True.intro | exact Or.inl True.intro | exact Or.inr True.intro | rfl) ?_
  try first | done | assumption | omega
  try unfold cw_hide
  try refine ⟨rfl, ?_⟩
  intro c c0 c1 k q0 q1
  by_cases e0 : (82 : Int) ≤ c ∧ c < 94
  · rw [mx_in e0]
    rcases (show c = 82 ∨ c = 83 ∨ c = 84 ∨ c = 85 ∨ c = 86 ∨ c = 87 ∨ c = 88 ∨ c = 89 ∨ c = 90 ∨ c = 91 ∨ c = 92 ∨ c = 93 by omega) with rfl | rfl | rfl | rfl | rfl | rfl | rfl | rfl | rfl | rfl | rfl | rfl
    · rw [show cw_vs (Int.toNat 82) = 7 from by decide +kernel] at q1
      rcases (show k = 0 ∨ k = 1 ∨ k = 2 ∨ k = 3 ∨ k = 4 ∨ k = 5 ∨ k = 6 by omega) with rfl | rfl | rfl | rfl | rfl | rfl | rfl
      all_goals (simp (disch := omega) only [w_up1, w_up2, w_up3, w_sf1, w_sf3, ml_o, wh_o, mx_out, mx_in, ml_0, ml_r, wh_0, wh_1, whl_o, whl_e, whl_u, whl_0, h0]; decide +kernel)
    · simp (disch := omega) only [w_up1, w_up2, w_up3, w_sf1, w_sf3, ml_o, wh_o, mx_out, mx_in, ml_0, ml_r, wh_0, wh_1, whl_o, whl_e, whl_u, whl_0, h0]; exact W_z (by decide +kernel)
    · rw [show cw_vs (Int.toNat 84) = 4 from by decide +kernel] at q1
      rcases (show k = 0 ∨ k = 1 ∨ k = 2 ∨ k = 3 by omega) with rfl | rfl | rfl | rfl
      all_goals (simp (disch := omega) only [w_up1, w_up2, w_up3, w_sf1, w_sf3, ml_o, wh_o, mx_out, mx_in, ml_0, ml_r, wh_0, wh_1, whl_o, whl_e, whl_u, whl_0, h0]; decide +kernel)
    · simp (disch := omega) only [w_up1, w_up2, w_up3, w_sf1, w_sf3, ml_o, wh_o, mx_out, mx_in, ml_0, ml_r, wh_0, wh_1, whl_o, whl_e, whl_u, whl_0, h0]; exact W_z (by decide +kernel)
    · rw [show cw_vs (Int.toNat 86) = 4 from by decide +kernel] at q1
      rcases (show k = 0 ∨ k = 1 ∨ k = 2 ∨ k = 3 by omega) with rfl | rfl | rfl | rfl
      all_goals (simp (disch := omega) only [w_up1, w_up2, w_up3, w_sf1, w_sf3, ml_o, wh_o, mx_out, mx_in, ml_0, ml_r, wh_0, wh_1, whl_o, whl_e, whl_u, whl_0, h0]; decide +kernel)
    · rw [show cw_vs (Int.toNat 87) = 4 from by decide +kernel] at q1
      rcases (show k = 0 ∨ k = 1 ∨ k = 2 ∨ k = 3 by omega) with rfl | rfl | rfl | rfl
      all_goals (simp (disch := omega) only [w_up1, w_up2, w_up3, w_sf1, w_sf3, ml_o, wh_o, mx_out, mx_in, ml_0, ml_r, wh_0, wh_1, whl_o, whl_e, whl_u, whl_0, h0]; decide +kernel)
    · simp (disch := omega) only [w_up1, w_up2, w_up3, w_sf1, w_sf3, ml_o, wh_o, mx_out, mx_in, ml_0, ml_r, wh_0, wh_1, whl_o, whl_e, whl_u, whl_0, h0]; exact W_z (by decide +kernel)
    · simp (disch := omega) only [w_up1, w_up2, w_up3, w_sf1, w_sf3, ml_o, wh_o, mx_out, mx_in, ml_0, ml_r, wh_0, wh_1, whl_o, whl_e, whl_u, whl_0, h0]; exact W_z (by decide +kernel)
    · simp (disch := omega) only [w_up1, w_up2, w_up3, w_sf1, w_sf3, ml_o, wh_o, mx_out, mx_in, ml_0, ml_r, wh_0, wh_1, whl_o, whl_e, whl_u, whl_0, h0]; exact W_z (by decide +kernel)
    · simp (disch := omega) only [w_up1, w_up2, w_up3, w_sf1, w_sf3, ml_o, wh_o, mx_out, mx_in, ml_0, ml_r, wh_0, wh_1, whl_o, whl_e, whl_u, whl_0, h0]; exact W_z (by decide +kernel)
    · simp (disch := omega) only [w_up1, w_up2, w_up3, w_sf1, w_sf3, ml_o, wh_o, mx_out, mx_in, ml_0, ml_r, wh_0, wh_1, whl_o, whl_e, whl_u, whl_0, h0]; exact W_z (by decide +kernel)
    · simp (disch := omega) only [w_up1, w_up2, w_up3, w_sf1, w_sf3, ml_o, wh_o, mx_out, mx_in, ml_0, ml_r, wh_0, wh_1, whl_o, whl_e, whl_u, whl_0, h0]; exact W_z (by decide +kernel)
  · rw [mx_out e0]
    simp (disch := omega) only [w_up3, w_sf3, ml_o, wh_o, mx_out, whl_u]
set_option maxHeartbeats 8000000 in
theorem i_Ma_95 {g : cw_G} {M : cw_M} (h0 : M 95 = cw_zr 2) : cw_C g y_Ma_init [.inr (.inr 95)] M 96 120 (fun q M' => q = none ∧ M' = cw_mx M 95 120) := by
  refine cw_C_vis ?_
  refine cw_C_of (L := [.inr (.inr 95)]) ok_Ma_init (Nat.le_of_ble_eq_true rfl) (Nat.le_of_ble_eq_true rfl) rfl ?_
  refine cw_J_hide ?_
  refine k_Ma_init_0 _ _ _ _ _ _ _ _ ?_
  simp (disch := omega) only [↓w_nil, ↓w_cons, ↓w_ald0, ↓w_oi, true_and, and_true, true_implies, false_implies, not_true_eq_false, not_false_eq_true, Int.reduceEq, Int.reduceLT, Int.reduceLE, Int.reduceNeg, w_c80, w_c8I, w_c8L, w_c8R, w_up1, w_up2, w_up3, w_up1, w_up2, w_up3, w_sf1, w_sf3, ml_o, wh_o, mx_out, mx_in, ml_0, ml_r, wh_0, wh_1, whl_o, whl_e, whl_u, whl_0, h0]
  repeat refine And.intro (by first | decide +kernel | assumption | omega | (unfold in32; omega) | (unfold in64; omega) | exact True.intro | exact Or.inl True.intro | exact Or.inr True.intro | rfl) ?_
  try first | done | assumption | omega
  refine k_Ma_init_4 _ _ _ _ _ _ _ _ ?_
  simp (disch := omega) only [↓w_nil, ↓w_cons, ↓w_ald0, ↓w_ic, ↓w_mn, true_and, and_true, true_implies, false_implies, not_true_eq_false, not_false_eq_true, Int.reduceEq, Int.reduceLT, Int.reduceLE, Int.reduceNeg, w_up1, w_up2, w_up3, w_up1, w_up2, w_up3, w_sf1, w_sf3, ml_o, wh_o, mx_out, mx_in, ml_0, ml_r, wh_0, wh_1, whl_o, whl_e, whl_u, whl_0, h0]
  repeat refine And.intro (by first | decide +kernel | assumption | omega | (unfold in32; omega) | (unfold in64; omega) | exact True.intro | exact Or.inl True.intro | exact Or.inr True.intro | rfl) ?_
  try first | done | assumption | omega
  intro a9 n9 ha hn
  obtain rfl : a9 = 96 := by omega
  obtain rfl : n9 = 104 := by omega
  refine k_Ma_init_12 _ _ _ _ _ _ _ _ ?_
  simp (disch := omega) only [↓w_nil, ↓w_cons, ↓w_pfR_1, ↓w_ald0, ↓w_ic, ↓w_mn, true_and, and_true, true_implies, false_implies, not_true_eq_false, not_false_eq_true, Int.reduceEq, Int.reduceLT, Int.reduceLE, Int.reduceNeg, w_up1, w_up2, w_up3, w_up1, w_up2, w_up3, w_sf1, w_sf3, ml_o, wh_o, mx_out, mx_in, ml_0, ml_r, wh_0, wh_1, whl_o, whl_e, whl_u, whl_0, h0]
  repeat refine And.intro (by first | decide +kernel | assumption | omega | (unfold in32; omega) | (unfold in64; omega) | exact True.intro | exact Or.inl True.intro | exact Or.inr True.intro | rfl) ?_
  try first | done | assumption | omega
  intro a9 n9 ha hn
  obtain rfl : a9 = 104 := by omega
  obtain rfl : n9 = 112 := by omega
  refine k_Ma_init_24 _ _ _ _ _ _ _ _ ?_
  simp (disch := omega) only [↓w_nil, ↓w_cons, ↓w_pfR_2, ↓w_ald0, ↓w_ic, ↓w_na, true_and, and_true, true_implies, false_implies, not_true_eq_false, not_false_eq_true, Int.reduceEq, Int.reduceLT, Int.reduceLE, Int.reduceNeg, w_up1, w_up2, w_up3, w_up1, w_up2, w_up3, w_sf1, w_sf3, ml_o, wh_o, mx_out, mx_in, ml_0, ml_r, wh_0, wh_1, whl_o, whl_e, whl_u, whl_0, h0]
  repeat refine And.intro (by first | decide +kernel | assumption | omega | (unfold in32; omega) | (unfold in64; omega) | exact True.intro | exact Or.inl True.intro | exact Or.inr True.intro | rfl) ?_
  try first | done | assumption | omega
  intro a9 n9 ha hn
  obtain rfl : a9 = 112 := by omega
  obtain rfl : n9 = 113 := by omega
  refine k_Ma_init_32 _ _ _ _ _ _ _ _ ?_
  simp (disch := omega) only [↓w_nil, ↓w_cons, ↓w_pfR_3, ↓w_ald0, ↓w_ic, ↓w_mn, true_and, and_true, true_implies, false_implies, not_true_eq_false, not_false_eq_true, Int.reduceEq, Int.reduceLT, Int.reduceLE, Int.reduceNeg, w_up1, w_up2, w_up3, w_up1, w_up2, w_up3, w_sf1, w_sf3, ml_o, wh_o, mx_out, mx_in, ml_0, ml_r, wh_0, wh_1, whl_o, whl_e, whl_u, whl_0, h0]
  repeat refine And.intro (by first | decide +kernel | assumption | omega | (unfold in32; omega) | (unfold in64; omega) | exact True.intro | exact Or.inl True.intro | exact Or.inr True.intro | rfl) ?_
  try first | done | assumption | omega
  intro a9 n9 ha hn
  obtain rfl : a9 = 113 := by omega
  obtain rfl : n9 = 118 := by omega
  refine k_Ma_init_43 _ _ _ _ _ _ _ _ ?_
  simp (disch := omega) only [↓w_nil, ↓w_cons, ↓w_pfR_4, ↓w_ald0, ↓w_ic, ↓w_na, true_and, and_true, true_implies, false_implies, not_true_eq_false, not_false_eq_true, Int.reduceEq, Int.reduceLT, Int.reduceLE, Int.reduceNeg, w_up1, w_up2, w_up3, w_up1, w_up2, w_up3, w_sf1, w_sf3, ml_o, wh_o, mx_out, mx_in, ml_0, ml_r, wh_0, wh_1, whl_o, whl_e, whl_u, whl_0, h0]
  repeat refine And.intro (by first | decide +kernel | assumption | omega | (unfold in32; omega) | (unfold in64; omega) | exact True.intro | exact Or.inl True.intro | exact Or.inr True.intro | rfl) ?_
  try first | done | assumption | omega
  intro a9 n9 ha hn
  obtain rfl : a9 = 118 := by omega
  obtain rfl : n9 = 119 := by omega
  refine k_Ma_init_50 _ _ _ _ _ _ _ _ ?_
  simp (disch := omega) only [↓w_nil, ↓w_cons, ↓w_pfR_5, ↓w_ald0, ↓w_ic, ↓w_na, true_and, and_true, true_implies, false_implies, not_true_eq_false, not_false_eq_true, Int.reduceEq, Int.reduceLT, Int.reduceLE, Int.reduceNeg, w_up1, w_up2, w_up3, w_up1, w_up2, w_up3, w_sf1, w_sf3, ml_o, wh_o, mx_out, mx_in, ml_0, ml_r, wh_0, wh_1, whl_o, whl_e, whl_u, whl_0, h0]
  repeat refine And.intro (by first | decide +kernel | assumption | omega | (unfold in32; omega) | (unfold in64; omega) | exact True.intro | exact Or.inl True.intro | exact Or.inr True.intro | rfl) ?_
  try first | done | assumption | omega
  intro a9 n9 ha hn
  obtain rfl : a9 = 119 := by omega
  obtain rfl : n9 = 120 := by omega
  refine k_Ma_init_58 _ _ _ _ _ _ _ _ ?_
  simp (disch := omega) only [↓w_nil, ↓w_cons, ↓w_pfR_7, ↓w_vret, true_and, and_true, true_implies, false_implies, not_true_eq_false, not_false_eq_true, Int.reduceEq, Int.reduceLT, Int.reduceLE, Int.reduceNeg, w_up1, w_up2, w_up3, w_up1, w_up2, w_up3, w_sf1, w_sf3, ml_o, wh_o, mx_out, mx_in, ml_0, ml_r, wh_0, wh_1, whl_o, whl_e, whl_u, whl_0, h0]
  repeat refine And.intro (by first | decide +kernel | assumption | omega | (unfold in32; omega) | (unfold in64; omega) | exact True.intro | exact Or.inl True.intro | exact Or.inr True.intro | rfl) ?_
  try first | done | assumption | omega
  try unfold cw_hide
  try refine ⟨rfl, ?_⟩
  intro c c0 c1 k q0 q1
  by_cases e0 : (95 : Int) ≤ c ∧ c < 120
  · rw [mx_in e0]
    rcases (show c = 95 ∨ c = 96 ∨ c = 97 ∨ c = 98 ∨ c = 99 ∨ c = 100 ∨ c = 101 ∨ c = 102 ∨ c = 103 ∨ c = 104 ∨ c = 105 ∨ c = 106 ∨ c = 107 ∨ c = 108 ∨ c = 109 ∨ c = 110 ∨ c = 111 ∨ c = 112 ∨ c = 113 ∨ c = 114 ∨ c = 115 ∨ c = 116 ∨ c = 117 ∨ c = 118 ∨ c = 119 by omega) with rfl | rfl | rfl | rfl | rfl | rfl | rfl | rfl | rfl | rfl | rfl | rfl | rfl | rfl | rfl | rfl | rfl | rfl | rfl | rfl | rfl | rfl | rfl | rfl | rfl
    · rw [show cw_vs (Int.toNat 95) = 9 from by decide +kernel] at q1
      rcases (show k = 0 ∨ k = 1 ∨ k = 2 ∨ k = 3 ∨ k = 4 ∨ k = 5 ∨ k = 6 ∨ k = 7 ∨ k = 8 by omega) with rfl | rfl | rfl | rfl | rfl | rfl | rfl | rfl | rfl
      all_goals (simp (disch := omega) only [w_up1, w_up2, w_up3, w_sf1, w_sf3, ml_o, wh_o, mx_out, mx_in, ml_0, ml_r, wh_0, wh_1, whl_o, whl_e, whl_u, whl_0, h0]; decide +kernel)
    · rw [show cw_vs (Int.toNat 96) = 7 from by decide +kernel] at q1
      rcases (show k = 0 ∨ k = 1 ∨ k = 2 ∨ k = 3 ∨ k = 4 ∨ k = 5 ∨ k = 6 by omega) with rfl | rfl | rfl | rfl | rfl | rfl | rfl
      all_goals (simp (disch := omega) only [w_up1, w_up2, w_up3, w_sf1, w_sf3, ml_o, wh_o, mx_out, mx_in, ml_0, ml_r, wh_0, wh_1, whl_o, whl_e, whl_u, whl_0, h0]; decide +kernel)
    · simp (disch := omega) only [w_up1, w_up2, w_up3, w_sf1, w_sf3, ml_o, wh_o, mx_out, mx_in, ml_0, ml_r, wh_0, wh_1, whl_o, whl_e, whl_u, whl_0, h0]; exact W_z (by decide +kernel)
    · simp (disch := omega) only [w_up1, w_up2, w_up3, w_sf1, w_sf3, ml_o, wh_o, mx_out, mx_in, ml_0, ml_r, wh_0, wh_1, whl_o, whl_e, whl_u, whl_0, h0]; exact W_z (by decide +kernel)
    · simp (disch := omega) only [w_up1, w_up2, w_up3, w_sf1, w_sf3, ml_o, wh_o, mx_out, mx_in, ml_0, ml_r, wh_0, wh_1, whl_o, whl_e, whl_u, whl_0, h0]; exact W_z (by decide +kernel)
    · simp (disch := omega) only [w_up1, w_up2, w_up3, w_sf1, w_sf3, ml_o, wh_o, mx_out, mx_in, ml_0, ml_r, wh_0, wh_1, whl_o, whl_e, whl_u, whl_0, h0]; exact W_z (by decide +kernel)
    · simp (disch := omega) only [w_up1, w_up2, w_up3, w_sf1, w_sf3, ml_o, wh_o, mx_out, mx_in, ml_0, ml_r, wh_0, wh_1, whl_o, whl_e, whl_u, whl_0, h0]; exact W_z (by decide +kernel)
    · simp (disch := omega) only [w_up1, w_up2, w_up3, w_sf1, w_sf3, ml_o, wh_o, mx_out, mx_in, ml_0, ml_r, wh_0, wh_1, whl_o, whl_e, whl_u, whl_0, h0]; exact W_z (by decide +kernel)
    · simp (disch := omega) only [w_up1, w_up2, w_up3, w_sf1, w_sf3, ml_o, wh_o, mx_out, mx_in, ml_0, ml_r, wh_0, wh_1, whl_o, whl_e, whl_u, whl_0, h0]; exact W_z (by decide +kernel)
    · rw [show cw_vs (Int.toNat 104) = 7 from by decide +kernel] at q1
      rcases (show k = 0 ∨ k = 1 ∨ k = 2 ∨ k = 3 ∨ k = 4 ∨ k = 5 ∨ k = 6 by omega) with rfl | rfl | rfl | rfl | rfl | rfl | rfl
      all_goals (simp (disch := omega) only [w_up1, w_up2, w_up3, w_sf1, w_sf3, ml_o, wh_o, mx_out, mx_in, ml_0, ml_r, wh_0, wh_1, whl_o, whl_e, whl_u, whl_0, h0]; decide +kernel)
    · simp (disch := omega) only [w_up1, w_up2, w_up3, w_sf1, w_sf3, ml_o, wh_o, mx_out, mx_in, ml_0, ml_r, wh_0, wh_1, whl_o, whl_e, whl_u, whl_0, h0]; exact W_z (by decide +kernel)
    · simp (disch := omega) only [w_up1, w_up2, w_up3, w_sf1, w_sf3, ml_o, wh_o, mx_out, mx_in, ml_0, ml_r, wh_0, wh_1, whl_o, whl_e, whl_u, whl_0, h0]; exact W_z (by decide +kernel)
    · simp (disch := omega) only [w_up1, w_up2, w_up3, w_sf1, w_sf3, ml_o, wh_o, mx_out, mx_in, ml_0, ml_r, wh_0, wh_1, whl_o, whl_e, whl_u, whl_0, h0]; exact W_z (by decide +kernel)
    · simp (disch := omega) only [w_up1, w_up2, w_up3, w_sf1, w_sf3, ml_o, wh_o, mx_out, mx_in, ml_0, ml_r, wh_0, wh_1, whl_o, whl_e, whl_u, whl_0, h0]; exact W_z (by decide +kernel)
    · simp (disch := omega) only [w_up1, w_up2, w_up3, w_sf1, w_sf3, ml_o, wh_o, mx_out, mx_in, ml_0, ml_r, wh_0, wh_1, whl_o, whl_e, whl_u, whl_0, h0]; exact W_z (by decide +kernel)
    · simp (disch := omega) only [w_up1, w_up2, w_up3, w_sf1, w_sf3, ml_o, wh_o, mx_out, mx_in, ml_0, ml_r, wh_0, wh_1, whl_o, whl_e, whl_u, whl_0, h0]; exact W_z (by decide +kernel)
    · simp (disch := omega) only [w_up1, w_up2, w_up3, w_sf1, w_sf3, ml_o, wh_o, mx_out, mx_in, ml_0, ml_r, wh_0, wh_1, whl_o, whl_e, whl_u, whl_0, h0]; exact W_z (by decide +kernel)
    · simp (disch := omega) only [w_up1, w_up2, w_up3, w_sf1, w_sf3, ml_o, wh_o, mx_out, mx_in, ml_0, ml_r, wh_0, wh_1, whl_o, whl_e, whl_u, whl_0, h0]; exact W_z (by decide +kernel)
    · rw [show cw_vs (Int.toNat 113) = 4 from by decide +kernel] at q1
      rcases (show k = 0 ∨ k = 1 ∨ k = 2 ∨ k = 3 by omega) with rfl | rfl | rfl | rfl
      all_goals (simp (disch := omega) only [w_up1, w_up2, w_up3, w_sf1, w_sf3, ml_o, wh_o, mx_out, mx_in, ml_0, ml_r, wh_0, wh_1, whl_o, whl_e, whl_u, whl_0, h0]; decide +kernel)
    · simp (disch := omega) only [w_up1, w_up2, w_up3, w_sf1, w_sf3, ml_o, wh_o, mx_out, mx_in, ml_0, ml_r, wh_0, wh_1, whl_o, whl_e, whl_u, whl_0, h0]; exact W_z (by decide +kernel)
    · simp (disch := omega) only [w_up1, w_up2, w_up3, w_sf1, w_sf3, ml_o, wh_o, mx_out, mx_in, ml_0, ml_r, wh_0, wh_1, whl_o, whl_e, whl_u, whl_0, h0]; exact W_z (by decide +kernel)
    · simp (disch := omega) only [w_up1, w_up2, w_up3, w_sf1, w_sf3, ml_o, wh_o, mx_out, mx_in, ml_0, ml_r, wh_0, wh_1, whl_o, whl_e, whl_u, whl_0, h0]; exact W_z (by decide +kernel)
    · simp (disch := omega) only [w_up1, w_up2, w_up3, w_sf1, w_sf3, ml_o, wh_o, mx_out, mx_in, ml_0, ml_r, wh_0, wh_1, whl_o, whl_e, whl_u, whl_0, h0]; exact W_z (by decide +kernel)
    · simp (disch := omega) only [w_up1, w_up2, w_up3, w_sf1, w_sf3, ml_o, wh_o, mx_out, mx_in, ml_0, ml_r, wh_0, wh_1, whl_o, whl_e, whl_u, whl_0, h0]; exact W_z (by decide +kernel)
    · simp (disch := omega) only [w_up1, w_up2, w_up3, w_sf1, w_sf3, ml_o, wh_o, mx_out, mx_in, ml_0, ml_r, wh_0, wh_1, whl_o, whl_e, whl_u, whl_0, h0]; exact W_z (by decide +kernel)
  · rw [mx_out e0]
    simp (disch := omega) only [w_up3, w_sf3, ml_o, wh_o, mx_out, whl_u]
set_option maxHeartbeats 8000000 in
theorem i_Se_120 {g : cw_G} {M : cw_M} (h0 : M 120 = cw_zr 6) : cw_C g y_Se_init [.inr (.inr 120)] M 121 124 (fun q M' => q = none ∧ M' = cw_mx M 120 124) := by
  refine cw_C_vis ?_
  refine cw_C_of (L := [.inr (.inr 120)]) ok_Se_init (Nat.le_of_ble_eq_true rfl) (Nat.le_of_ble_eq_true rfl) rfl ?_
  refine cw_J_hide ?_
  refine k_Se_init_0 _ _ _ _ _ _ _ _ ?_
  simp (disch := omega) only [↓w_nil, ↓w_cons, ↓w_ald0, ↓w_oi, true_and, and_true, true_implies, false_implies, not_true_eq_false, not_false_eq_true, Int.reduceEq, Int.reduceLT, Int.reduceLE, Int.reduceNeg, w_c80, w_c8I, w_c8L, w_c8R, w_up1, w_up2, w_up3, w_up1, w_up2, w_up3, w_sf1, w_sf3, ml_o, wh_o, mx_out, mx_in, ml_0, ml_r, wh_0, wh_1, whl_o, whl_e, whl_u, whl_0, h0]
  repeat refine And.intro (by first | decide +kernel | assumption | omega | (unfold in32; omega) | (unfold in64; omega) | exact True.intro | exact Or.inl True.intro | exact Or.inr True.intro | rfl) ?_
  try first | done | assumption | omega
  refine k_Se_init_4 _ _ _ _ _ _ _ _ ?_
  simp (disch := omega) only [↓w_nil, ↓w_cons, ↓w_ald0, ↓w_ic, ↓w_na, true_and, and_true, true_implies, false_implies, not_true_eq_false, not_false_eq_true, Int.reduceEq, Int.reduceLT, Int.reduceLE, Int.reduceNeg, w_up1, w_up2, w_up3, w_up1, w_up2, w_up3, w_sf1, w_sf3, ml_o, wh_o, mx_out, mx_in, ml_0, ml_r, wh_0, wh_1, whl_o, whl_e, whl_u, whl_0, h0]
  repeat refine And.intro (by first | decide +kernel | assumption | omega | (unfold in32; omega) | (unfold in64; omega) | exact True.intro | exact Or.inl True.intro | exact Or.inr True.intro | rfl) ?_
  try first | done | assumption | omega
  intro a9 n9 ha hn
  obtain rfl : a9 = 121 := by omega
  obtain rfl : n9 = 122 := by omega
  refine k_Se_init_9 _ _ _ _ _ _ _ _ ?_
  simp (disch := omega) only [↓w_nil, ↓w_cons, ↓w_pfR_1, ↓w_ald0, ↓w_ic, ↓w_na, true_and, and_true, true_implies, false_implies, not_true_eq_false, not_false_eq_true, Int.reduceEq, Int.reduceLT, Int.reduceLE, Int.reduceNeg, w_up1, w_up2, w_up3, w_up1, w_up2, w_up3, w_sf1, w_sf3, ml_o, wh_o, mx_out, mx_in, ml_0, ml_r, wh_0, wh_1, whl_o, whl_e, whl_u, whl_0, h0]
  repeat refine And.intro (by first | decide +kernel | assumption | omega | (unfold in32; omega) | (unfold in64; omega) | exact True.intro | exact Or.inl True.intro | exact Or.inr True.intro | rfl) ?_
  try first | done | assumption | omega
  intro a9 n9 ha hn
  obtain rfl : a9 = 122 := by omega
  obtain rfl : n9 = 123 := by omega
  refine k_Se_init_17 _ _ _ _ _ _ _ _ ?_
  simp (disch := omega) only [↓w_nil, ↓w_cons, ↓w_pfR_2, ↓w_ald0, ↓w_ic, ↓w_na, true_and, and_true, true_implies, false_implies, not_true_eq_false, not_false_eq_true, Int.reduceEq, Int.reduceLT, Int.reduceLE, Int.reduceNeg, w_up1, w_up2, w_up3, w_up1, w_up2, w_up3, w_sf1, w_sf3, ml_o, wh_o, mx_out, mx_in, ml_0, ml_r, wh_0, wh_1, whl_o, whl_e, whl_u, whl_0, h0]
  repeat refine And.intro (by first | decide +kernel | assumption | omega | (unfold in32; omega) | (unfold in64; omega) | exact True.intro | exact Or.inl True.intro | exact Or.inr True.intro | rfl) ?_
  try first | done | assumption | omega
  intro a9 n9 ha hn
  obtain rfl : a9 = 123 := by omega
  obtain rfl : n9 = 124 := by omega
  refine k_Se_init_25 _ _ _ _ _ _ _ _ ?_
  simp (disch := omega) only [↓w_nil, ↓w_cons, ↓w_pfR_3, ↓w_vret, true_and, and_true, true_implies, false_implies, not_true_eq_false, not_false_eq_true, Int.reduceEq, Int.reduceLT, Int.reduceLE, Int.reduceNeg, w_up1, w_up2, w_up3, w_up1, w_up2, w_up3, w_sf1, w_sf3, ml_o, wh_o, mx_out, mx_in, ml_0, ml_r, wh_0, wh_1, whl_o, whl_e, whl_u, whl_0, h0]
  repeat refine And.intro (by first | decide +kernel | assumption | omega | (unfold in32; omega) | (unfold in64; omega) | exact True.intro | exact Or.inl True.intro | exact Or.inr True.intro | rfl) ?_
  try first | done | assumption | omega
  try unfold cw_hide
  try refine ⟨rfl, ?_⟩
  intro c c0 c1 k q0 q1
  by_cases e0 : (120 : Int) ≤ c ∧ c < 124
  · rw [mx_in e0]
    rcases (show c = 120 ∨ c = 121 ∨ c = 122 ∨ c = 123 by omega) with rfl | rfl | rfl | rfl
    · rw [show cw_vs (Int.toNat 120) = 4 from by decide +kernel] at q1
      rcases (show k = 0 ∨ k = 1 ∨ k = 2 ∨ k = 3 by omega) with rfl | rfl | rfl | rfl
      all_goals (simp (disch := omega) only [w_up1, w_up2, w_up3, w_sf1, w_sf3, ml_o, wh_o, mx_out, mx_in, ml_0, ml_r, wh_0, wh_1, whl_o, whl_e, whl_u, whl_0, h0]; decide +kernel)
    · simp (disch := omega) only [w_up1, w_up2, w_up3, w_sf1, w_sf3, ml_o, wh_o, mx_out, mx_in, ml_0, ml_r, wh_0, wh_1, whl_o, whl_e, whl_u, whl_0, h0]; exact W_z (by decide +kernel)
    · simp (disch := omega) only [w_up1, w_up2, w_up3, w_sf1, w_sf3, ml_o, wh_o, mx_out, mx_in, ml_0, ml_r, wh_0, wh_1, whl_o, whl_e, whl_u, whl_0, h0]; exact W_z (by decide +kernel)
    · simp (disch := omega) only [w_up1, w_up2, w_up3, w_sf1, w_sf3, ml_o, wh_o, mx_out, mx_in, ml_0, ml_r, wh_0, wh_1, whl_o, whl_e, whl_u, whl_0, h0]; exact W_z (by decide +kernel)
  · rw [mx_out e0]
    simp (disch := omega) only [w_up3, w_sf3, ml_o, wh_o, mx_out, whl_u]
set_option maxHeartbeats 8000000 in
theorem i_Sl_124 {g : cw_G} {M : cw_M} (h0 : M 124 = cw_zr 7) : cw_C g y_Sl_init [.inr (.inr 124)] M 125 127 (fun q M' => q = none ∧ M' = cw_mx M 124 127) := by
  refine cw_C_vis ?_
  refine cw_C_of (L := [.inr (.inr 124)]) ok_Sl_init (Nat.le_of_ble_eq_true rfl) (Nat.le_of_ble_eq_true rfl) rfl ?_
  refine cw_J_hide ?_
  refine k_Sl_init_0 _ _ _ _ _ _ _ _ ?_
  simp (disch := omega) only [↓w_nil, ↓w_cons, ↓w_ald0, ↓w_oi, true_and, and_true, true_implies, false_implies, not_true_eq_false, not_false_eq_true, Int.reduceEq, Int.reduceLT, Int.reduceLE, Int.reduceNeg, w_c80, w_c8I, w_c8L, w_c8R, w_up1, w_up2, w_up3, w_up1, w_up2, w_up3, w_sf1, w_sf3, ml_o, wh_o, mx_out, mx_in, ml_0, ml_r, wh_0, wh_1, whl_o, whl_e, whl_u, whl_0, h0]
  repeat refine And.intro (by first | decide +kernel | assumption | omega | (unfold in32; omega) | (unfold in64; omega) | exact True.intro | exact Or.inl True.intro | exact Or.inr True.intro | rfl) ?_
  try first | done | assumption | omega
  refine k_Sl_init_4 _ _ _ _ _ _ _ _ ?_
  simp (disch := omega) only [↓w_nil, ↓w_cons, ↓w_ald0, ↓w_ic, ↓w_pfI_0, ↓w_na, true_and, and_true, true_implies, false_implies, not_true_eq_false, not_false_eq_true, Int.reduceEq, Int.reduceLT, Int.reduceLE, Int.reduceNeg, w_up1, w_up2, w_up3, w_up1, w_up2, w_up3, w_sf1, w_sf3, ml_o, wh_o, mx_out, mx_in, ml_0, ml_r, wh_0, wh_1, whl_o, whl_e, whl_u, whl_0, h0]
  repeat refine And.intro (by first | decide +kernel | assumption | omega | (unfold in32; omega) | (unfold in64; omega) | exact True.intro | exact Or.inl True.intro | exact Or.inr True.intro | rfl) ?_
  try first | done | assumption | omega
  intro a9 n9 ha hn
  obtain rfl : a9 = 125 := by omega
  obtain rfl : n9 = 126 := by omega
  refine k_Sl_init_15 _ _ _ _ _ _ _ _ ?_
  simp (disch := omega) only [↓w_nil, ↓w_cons, ↓w_pfR_1, ↓w_ald0, ↓w_ic, ↓w_na, true_and, and_true, true_implies, false_implies, not_true_eq_false, not_false_eq_true, Int.reduceEq, Int.reduceLT, Int.reduceLE, Int.reduceNeg, w_up1, w_up2, w_up3, w_up1, w_up2, w_up3, w_sf1, w_sf3, ml_o, wh_o, mx_out, mx_in, ml_0, ml_r, wh_0, wh_1, whl_o, whl_e, whl_u, whl_0, h0]
  repeat refine And.intro (by first | decide +kernel | assumption | omega | (unfold in32; omega) | (unfold in64; omega) | exact True.intro | exact Or.inl True.intro | exact Or.inr True.intro | rfl) ?_
  try first | done | assumption | omega
  intro a9 n9 ha hn
  obtain rfl : a9 = 126 := by omega
  obtain rfl : n9 = 127 := by omega
  refine k_Sl_init_23 _ _ _ _ _ _ _ _ ?_
  simp (disch := omega) only [↓w_nil, ↓w_cons, ↓w_pfR_2, ↓w_vret, true_and, and_true, true_implies, false_implies, not_true_eq_false, not_false_eq_true, Int.reduceEq, Int.reduceLT, Int.reduceLE, Int.reduceNeg, w_up1, w_up2, w_up3, w_up1, w_up2, w_up3, w_sf1, w_sf3, ml_o, wh_o, mx_out, mx_in, ml_0, ml_r, wh_0, wh_1, whl_o, whl_e, whl_u, whl_0, h0]
  repeat refine And.intro (by first | decide +kernel | assumption | omega | (unfold in32; omega) | (unfold in64; omega) | exact True.intro | exact Or.inl True.intro | exact Or.inr True.intro | rfl) ?_
  try first | done | assumption | omega
  try unfold cw_hide
  try refine ⟨rfl, ?_⟩
  intro c c0 c1 k q0 q1
  by_cases e0 : (124 : Int) ≤ c ∧ c < 127
  · rw [mx_in e0]
    rcases (show c = 124 ∨ c = 125 ∨ c = 126 by omega) with rfl | rfl | rfl
    · rw [show cw_vs (Int.toNat 124) = 3 from by decide +kernel] at q1
      rcases (show k = 0 ∨ k = 1 ∨ k = 2 by omega) with rfl | rfl | rfl
      all_goals (simp (disch := omega) only [w_up1, w_up2, w_up3, w_sf1, w_sf3, ml_o, wh_o, mx_out, mx_in, ml_0, ml_r, wh_0, wh_1, whl_o, whl_e, whl_u, whl_0, h0]; decide +kernel)
    · simp (disch := omega) only [w_up1, w_up2, w_up3, w_sf1, w_sf3, ml_o, wh_o, mx_out, mx_in, ml_0, ml_r, wh_0, wh_1, whl_o, whl_e, whl_u, whl_0, h0]; exact W_z (by decide +kernel)
    · simp (disch := omega) only [w_up1, w_up2, w_up3, w_sf1, w_sf3, ml_o, wh_o, mx_out, mx_in, ml_0, ml_r, wh_0, wh_1, whl_o, whl_e, whl_u, whl_0, h0]; exact W_z (by decide +kernel)
  · rw [mx_out e0]
    simp (disch := omega) only [w_up3, w_sf3, ml_o, wh_o, mx_out, whl_u]
set_option maxHeartbeats 8000000 in
theorem i_Dr_127 {g : cw_G} {M : cw_M} (h0 : M 127 = cw_zr 1) : cw_C g y_Dr_init [.inr (.inr 127)] M 128 128 (fun q M' => q = none ∧ M' = cw_mx M 127 128) := by
  refine cw_C_vis ?_
  refine cw_C_of (L := [.inr (.inr 127)]) ok_Dr_init (Nat.le_of_ble_eq_true rfl) (Nat.le_of_ble_eq_true rfl) rfl ?_
  refine cw_J_hide ?_
  refine k_Dr_init_0 _ _ _ _ _ _ _ _ ?_
  simp (disch := omega) only [↓w_nil, ↓w_cons, ↓w_ald0, ↓w_oi, true_and, and_true, true_implies, false_implies, not_true_eq_false, not_false_eq_true, Int.reduceEq, Int.reduceLT, Int.reduceLE, Int.reduceNeg, w_c80, w_c8I, w_c8L, w_c8R, w_up1, w_up2, w_up3, w_up1, w_up2, w_up3, w_sf1, w_sf3, ml_o, wh_o, mx_out, mx_in, ml_0, ml_r, wh_0, wh_1, whl_o, whl_e, whl_u, whl_0, h0]
  repeat refine And.intro (by first | decide +kernel | assumption | omega | (unfold in32; omega) | (unfold in64; omega) | exact True.intro | exact Or.inl True.intro | exact Or.inr True.intro | rfl) ?_
  try first | done | assumption | omega
  refine k_Dr_init_4 _ _ _ _ _ _ _ _ ?_
  simp (disch := omega) only [↓w_nil, ↓w_cons, ↓w_ald0, ↓w_ic, ↓w_pfI_2, ↓w_pfI_3, ↓w_pfI_4, ↓w_pfZ_6, ↓w_vret, true_and, and_true, true_implies, false_implies, not_true_eq_false, not_false_eq_true, Int.reduceEq, Int.reduceLT, Int.reduceLE, Int.reduceNeg, w_up1, w_up2, w_up3, w_up1, w_up2, w_up3, w_sf1, w_sf3, ml_o, wh_o, mx_out, mx_in, ml_0, ml_r, wh_0, wh_1, whl_o, whl_e, whl_u, whl_0, h0]
  repeat refine And.intro (by first | decide +kernel | assumption | omega | (unfold in32; omega) | (unfold in64; omega) | exact True.intro | exact Or.inl True.intro | exact Or.inr True.intro | rfl) ?_
  try first | done | assumption | omega
  try unfold cw_hide
  try refine ⟨rfl, ?_⟩
  intro c c0 c1 k q0 q1
  by_cases e0 : (127 : Int) ≤ c ∧ c < 128
  · rw [mx_in e0]
    obtain rfl : c = 127 := by omega
    · rw [show cw_vs (Int.toNat 127) = 9 from by decide +kernel] at q1
      rcases (show k = 0 ∨ k = 1 ∨ k = 2 ∨ k = 3 ∨ k = 4 ∨ k = 5 ∨ k = 6 ∨ k = 7 ∨ k = 8 by omega) with rfl | rfl | rfl | rfl | rfl | rfl | rfl | rfl | rfl
      all_goals (simp (disch := omega) only [w_up1, w_up2, w_up3, w_sf1, w_sf3, ml_o, wh_o, mx_out, mx_in, ml_0, ml_r, wh_0, wh_1, whl_o, whl_e, whl_u, whl_0, h0]; decide +kernel)
  · rw [mx_out e0]
    simp (disch := omega) only [w_up3, w_sf3, ml_o, wh_o, mx_out, whl_u]
set_option maxHeartbeats 8000000 in
theorem i_Bo_128 {g : cw_G} {M : cw_M} (h0 : M 128 = cw_zr 0) : cw_C g y_Bo_init [.inr (.inr 128)] M 129 140 (fun q M' => q = none ∧ M' = cw_mx M 128 140) := by
  refine cw_C_vis ?_
  refine cw_C_of (L := [.inr (.inr 128)]) ok_Bo_init (Nat.le_of_ble_eq_true rfl) (Nat.le_of_ble_eq_true rfl) rfl ?_
  refine cw_J_hide ?_
  refine k_Bo_init_0 _ _ _ _ _ _ _ _ ?_
  simp (disch := omega) only [↓w_nil, ↓w_cons, ↓w_ald0, ↓w_oi, true_and, and_true, true_implies, false_implies, not_true_eq_false, not_false_eq_true, Int.reduceEq, Int.reduceLT, Int.reduceLE, Int.reduceNeg, w_c80, w_c8I, w_c8L, w_c8R, w_up1, w_up2, w_up3, w_up1, w_up2, w_up3, w_sf1, w_sf3, ml_o, wh_o, mx_out, mx_in, ml_0, ml_r, wh_0, wh_1, whl_o, whl_e, whl_u, whl_0, h0]
  repeat refine And.intro (by first | decide +kernel | assumption | omega | (unfold in32; omega) | (unfold in64; omega) | exact True.intro | exact Or.inl True.intro | exact Or.inr True.intro | rfl) ?_
  try first | done | assumption | omega
  refine k_Bo_init_4 _ _ _ _ _ _ _ _ ?_
  simp (disch := omega) only [↓w_nil, ↓w_cons, ↓w_ald0, ↓w_ic, ↓w_na, true_and, and_true, true_implies, false_implies, not_true_eq_false, not_false_eq_true, Int.reduceEq, Int.reduceLT, Int.reduceLE, Int.reduceNeg, w_up1, w_up2, w_up3, w_up1, w_up2, w_up3, w_sf1, w_sf3, ml_o, wh_o, mx_out, mx_in, ml_0, ml_r, wh_0, wh_1, whl_o, whl_e, whl_u, whl_0, h0]
  repeat refine And.intro (by first | decide +kernel | assumption | omega | (unfold in32; omega) | (unfold in64; omega) | exact True.intro | exact Or.inl True.intro | exact Or.inr True.intro | rfl) ?_
  try first | done | assumption | omega
  intro a9 n9 ha hn
  obtain rfl : a9 = 129 := by omega
  obtain rfl : n9 = 130 := by omega
  refine k_Bo_init_8 _ _ _ _ _ _ _ _ ?_
  simp (disch := omega) only [↓w_nil, ↓w_cons, ↓w_pfR_0, ↓w_ald0, ↓w_ic, ↓w_na, true_and, and_true, true_implies, false_implies, not_true_eq_false, not_false_eq_true, Int.reduceEq, Int.reduceLT, Int.reduceLE, Int.reduceNeg, w_up1, w_up2, w_up3, w_up1, w_up2, w_up3, w_sf1, w_sf3, ml_o, wh_o, mx_out, mx_in, ml_0, ml_r, wh_0, wh_1, whl_o, whl_e, whl_u, whl_0, h0]
  repeat refine And.intro (by first | decide +kernel | assumption | omega | (unfold in32; omega) | (unfold in64; omega) | exact True.intro | exact Or.inl True.intro | exact Or.inr True.intro | rfl) ?_
  try first | done | assumption | omega
  intro a9 n9 ha hn
  obtain rfl : a9 = 130 := by omega
  obtain rfl : n9 = 131 := by omega
  refine k_Bo_init_15 _ _ _ _ _ _ _ _ ?_
  simp (disch := omega) only [↓w_nil, ↓w_cons, ↓w_dupI, ↓w_dupR, ↓w_ic, ↓w_iast, ↓w_pfR_1, ↓w_ald0, ↓w_na, true_and, and_true, true_implies, false_implies, not_true_eq_false, not_false_eq_true, Int.reduceEq, Int.reduceLT, Int.reduceLE, Int.reduceNeg, w_up1, w_up2, w_up3, w_up1, w_up2, w_up3, w_sf1, w_sf3, ml_o, wh_o, mx_out, mx_in, ml_0, ml_r, wh_0, wh_1, whl_o, whl_e, whl_u, whl_0, h0]
  repeat refine And.intro (by first | decide +kernel | assumption | omega | (unfold in32; omega) | (unfold in64; omega) | exact True.intro | exact Or.inl True.intro | exact Or.inr True.intro | rfl) ?_
  try first | done | assumption | omega
  intro a9 n9 ha hn
  obtain rfl : a9 = 131 := by omega
  obtain rfl : n9 = 132 := by omega
  refine k_Bo_init_42 _ _ _ _ _ _ _ _ ?_
  simp (disch := omega) only [↓w_nil, ↓w_cons, ↓w_pfR_2, ↓w_ald0, ↓w_ic, ↓w_na, true_and, and_true, true_implies, false_implies, not_true_eq_false, not_false_eq_true, Int.reduceEq, Int.reduceLT, Int.reduceLE, Int.reduceNeg, w_up1, w_up2, w_up3, w_up1, w_up2, w_up3, w_sf1, w_sf3, ml_o, wh_o, mx_out, mx_in, ml_0, ml_r, wh_0, wh_1, whl_o, whl_e, whl_u, whl_0, h0]
  repeat refine And.intro (by first | decide +kernel | assumption | omega | (unfold in32; omega) | (unfold in64; omega) | exact True.intro | exact Or.inl True.intro | exact Or.inr True.intro | rfl) ?_
  try first | done | assumption | omega
  intro a9 n9 ha hn
  obtain rfl : a9 = 132 := by omega
  obtain rfl : n9 = 133 := by omega
  refine k_Bo_init_49 _ _ _ _ _ _ _ _ ?_
  simp (disch := omega) only [↓w_nil, ↓w_cons, ↓w_dupI, ↓w_dupR, ↓w_ic, ↓w_iast, ↓w_pfR_3, ↓w_ald0, ↓w_mn, true_and, and_true, true_implies, false_implies, not_true_eq_false, not_false_eq_true, Int.reduceEq, Int.reduceLT, Int.reduceLE, Int.reduceNeg, w_up1, w_up2, w_up3, w_up1, w_up2, w_up3, w_sf1, w_sf3, ml_o, wh_o, mx_out, mx_in, ml_0, ml_r, wh_0, wh_1, whl_o, whl_e, whl_u, whl_0, h0]
  repeat refine And.intro (by first | decide +kernel | assumption | omega | (unfold in32; omega) | (unfold in64; omega) | exact True.intro | exact Or.inl True.intro | exact Or.inr True.intro | rfl) ?_
  try first | done | assumption | omega
  intro a9 n9 ha hn
  obtain rfl : a9 = 133 := by omega
  obtain rfl : n9 = 138 := by omega
  refine k_Bo_init_75 _ _ _ _ _ _ _ _ ?_
  simp (disch := omega) only [↓w_nil, ↓w_cons, ↓w_pfR_4, ↓w_ald0, ↓w_ic, ↓w_na, true_and, and_true, true_implies, false_implies, not_true_eq_false, not_false_eq_true, Int.reduceEq, Int.reduceLT, Int.reduceLE, Int.reduceNeg, w_up1, w_up2, w_up3, w_up1, w_up2, w_up3, w_sf1, w_sf3, ml_o, wh_o, mx_out, mx_in, ml_0, ml_r, wh_0, wh_1, whl_o, whl_e, whl_u, whl_0, h0]
  repeat refine And.intro (by first | decide +kernel | assumption | omega | (unfold in32; omega) | (unfold in64; omega) | exact True.intro | exact Or.inl True.intro | exact Or.inr True.intro | rfl) ?_
  try first | done | assumption | omega
  intro a9 n9 ha hn
  obtain rfl : a9 = 138 := by omega
  obtain rfl : n9 = 139 := by omega
  refine k_Bo_init_82 _ _ _ _ _ _ _ _ ?_
  simp (disch := omega) only [↓w_nil, ↓w_cons, ↓w_pfR_5, ↓w_ald0, ↓w_ic, ↓w_na, true_and, and_true, true_implies, false_implies, not_true_eq_false, not_false_eq_true, Int.reduceEq, Int.reduceLT, Int.reduceLE, Int.reduceNeg, w_up1, w_up2, w_up3, w_up1, w_up2, w_up3, w_sf1, w_sf3, ml_o, wh_o, mx_out, mx_in, ml_0, ml_r, wh_0, wh_1, whl_o, whl_e, whl_u, whl_0, h0]
  repeat refine And.intro (by first | decide +kernel | assumption | omega | (unfold in32; omega) | (unfold in64; omega) | exact True.intro | exact Or.inl True.intro | exact Or.inr True.intro | rfl) ?_
  try first | done | assumption | omega
  intro a9 n9 ha hn
  obtain rfl : a9 = 139 := by omega
  obtain rfl : n9 = 140 := by omega
  refine k_Bo_init_89 _ _ _ _ _ _ _ _ ?_
  simp (disch := omega) only [↓w_nil, ↓w_cons, ↓w_pfR_6, ↓w_vret, true_and, and_true, true_implies, false_implies, not_true_eq_false, not_false_eq_true, Int.reduceEq, Int.reduceLT, Int.reduceLE, Int.reduceNeg, w_up1, w_up2, w_up3, w_up1, w_up2, w_up3, w_sf1, w_sf3, ml_o, wh_o, mx_out, mx_in, ml_0, ml_r, wh_0, wh_1, whl_o, whl_e, whl_u, whl_0, h0]
  repeat refine And.intro (by first | decide +kernel | assumption | omega | (unfold in32; omega) | (unfold in64; omega) | exact True.intro | exact Or.inl True.intro | exact Or.inr True.intro | rfl) ?_
  try first | done | assumption | omega
  try unfold cw_hide
  try refine ⟨rfl, ?_⟩
  intro c c0 c1 k q0 q1
  by_cases e0 : (128 : Int) ≤ c ∧ c < 140
  · rw [mx_in e0]
    rcases (show c = 128 ∨ c = 129 ∨ c = 130 ∨ c = 131 ∨ c = 132 ∨ c = 133 ∨ c = 134 ∨ c = 135 ∨ c = 136 ∨ c = 137 ∨ c = 138 ∨ c = 139 by omega) with rfl | rfl | rfl | rfl | rfl | rfl | rfl | rfl | rfl | rfl | rfl | rfl
    · rw [show cw_vs (Int.toNat 128) = 7 from by decide +kernel] at q1
      rcases (show k = 0 ∨ k = 1 ∨ k = 2 ∨ k = 3 ∨ k = 4 ∨ k = 5 ∨ k = 6 by omega) with rfl | rfl | rfl | rfl | rfl | rfl | rfl
      all_goals (simp (disch := omega) only [w_up1, w_up2, w_up3, w_sf1, w_sf3, ml_o, wh_o, mx_out, mx_in, ml_0, ml_r, wh_0, wh_1, whl_o, whl_e, whl_u, whl_0, h0]; decide +kernel)
    · simp (disch := omega) only [w_up1, w_up2, w_up3, w_sf1, w_sf3, ml_o, wh_o, mx_out, mx_in, ml_0, ml_r, wh_0, wh_1, whl_o, whl_e, whl_u, whl_0, h0]; exact W_z (by decide +kernel)
    · rw [show cw_vs (Int.toNat 130) = 4 from by decide +kernel] at q1
      rcases (show k = 0 ∨ k = 1 ∨ k = 2 ∨ k = 3 by omega) with rfl | rfl | rfl | rfl
      all_goals (simp (disch := omega) only [w_up1, w_up2, w_up3, w_sf1, w_sf3, ml_o, wh_o, mx_out, mx_in, ml_0, ml_r, wh_0, wh_1, whl_o, whl_e, whl_u, whl_0, h0]; decide +kernel)
    · simp (disch := omega) only [w_up1, w_up2, w_up3, w_sf1, w_sf3, ml_o, wh_o, mx_out, mx_in, ml_0, ml_r, wh_0, wh_1, whl_o, whl_e, whl_u, whl_0, h0]; exact W_z (by decide +kernel)
    · rw [show cw_vs (Int.toNat 132) = 4 from by decide +kernel] at q1
      rcases (show k = 0 ∨ k = 1 ∨ k = 2 ∨ k = 3 by omega) with rfl | rfl | rfl | rfl
      all_goals (simp (disch := omega) only [w_up1, w_up2, w_up3, w_sf1, w_sf3, ml_o, wh_o, mx_out, mx_in, ml_0, ml_r, wh_0, wh_1, whl_o, whl_e, whl_u, whl_0, h0]; decide +kernel)
    · rw [show cw_vs (Int.toNat 133) = 4 from by decide +kernel] at q1
      rcases (show k = 0 ∨ k = 1 ∨ k = 2 ∨ k = 3 by omega) with rfl | rfl | rfl | rfl
      all_goals (simp (disch := omega) only [w_up1, w_up2, w_up3, w_sf1, w_sf3, ml_o, wh_o, mx_out, mx_in, ml_0, ml_r, wh_0, wh_1, whl_o, whl_e, whl_u, whl_0, h0]; decide +kernel)
    · simp (disch := omega) only [w_up1, w_up2, w_up3, w_sf1, w_sf3, ml_o, wh_o, mx_out, mx_in, ml_0, ml_r, wh_0, wh_1, whl_o, whl_e, whl_u, whl_0, h0]; exact W_z (by decide +kernel)
    · simp (disch := omega) only [w_up1, w_up2, w_up3, w_sf1, w_sf3, ml_o, wh_o, mx_out, mx_in, ml_0, ml_r, wh_0, wh_1, whl_o, whl_e, whl_u, whl_0, h0]; exact W_z (by decide +kernel)
    · simp (disch := omega) only [w_up1, w_up2, w_up3, w_sf1, w_sf3, ml_o, wh_o, mx_out, mx_in, ml_0, ml_r, wh_0, wh_1, whl_o, whl_e, whl_u, whl_0, h0]; exact W_z (by decide +kernel)
    · simp (disch := omega) only [w_up1, w_up2, w_up3, w_sf1, w_sf3, ml_o, wh_o, mx_out, mx_in, ml_0, ml_r, wh_0, wh_1, whl_o, whl_e, whl_u, whl_0, h0]; exact W_z (by decide +kernel)
    · simp (disch := omega) only [w_up1, w_up2, w_up3, w_sf1, w_sf3, ml_o, wh_o, mx_out, mx_in, ml_0, ml_r, wh_0, wh_1, whl_o, whl_e, whl_u, whl_0, h0]; exact W_z (by decide +kernel)
    · simp (disch := omega) only [w_up1, w_up2, w_up3, w_sf1, w_sf3, ml_o, wh_o, mx_out, mx_in, ml_0, ml_r, wh_0, wh_1, whl_o, whl_e, whl_u, whl_0, h0]; exact W_z (by decide +kernel)
  · rw [mx_out e0]
    simp (disch := omega) only [w_up3, w_sf3, ml_o, wh_o, mx_out, whl_u]
set_option maxHeartbeats 8000000 in
theorem i_Pa_141 {g : cw_G} {M : cw_M} (h0 : M 141 = cw_zr 3) : cw_C g y_Pa_init [.inr (.inr 141)] M 142 148 (fun q M' => q = none ∧ M' = cw_mx M 141 148) := by
  refine cw_C_vis ?_
  refine cw_C_of (L := [.inr (.inr 141)]) ok_Pa_init (Nat.le_of_ble_eq_true rfl) (Nat.le_of_ble_eq_true rfl) rfl ?_
  refine cw_J_hide ?_
  refine k_Pa_init_0 _ _ _ _ _ _ _ _ ?_
  simp (disch := omega) only [↓w_nil, ↓w_cons, ↓w_ald0, ↓w_oi, true_and, and_true, true_implies, false_implies, not_true_eq_false, not_false_eq_true, Int.reduceEq, Int.reduceLT, Int.reduceLE, Int.reduceNeg, w_c80, w_c8I, w_c8L, w_c8R, w_up1, w_up2, w_up3, w_up1, w_up2, w_up3, w_sf1, w_sf3, ml_o, wh_o, mx_out, mx_in, ml_0, ml_r, wh_0, wh_1, whl_o, whl_e, whl_u, whl_0, h0]
  repeat refine And.intro (by first | decide +kernel | assumption | omega | (unfold in32; omega) | (unfold in64; omega) | exact True.intro | exact Or.inl True.intro | exact Or.inr True.intro | rfl) ?_
  try first | done | assumption | omega
  refine k_Pa_init_4 _ _ _ _ _ _ _ _ ?_
  simp (disch := omega) only [↓w_nil, ↓w_cons, ↓w_ald0, ↓w_ic, ↓w_na, true_and, and_true, true_implies, false_implies, not_true_eq_false, not_false_eq_true, Int.reduceEq, Int.reduceLT, Int.reduceLE, Int.reduceNeg, w_up1, w_up2, w_up3, w_up1, w_up2, w_up3, w_sf1, w_sf3, ml_o, wh_o, mx_out, mx_in, ml_0, ml_r, wh_0, wh_1, whl_o, whl_e, whl_u, whl_0, h0]
  repeat refine And.intro (by first | decide +kernel | assumption | omega | (unfold in32; omega) | (unfold in64; omega) | exact True.intro | exact Or.inl True.intro | exact Or.inr True.intro | rfl) ?_
  try first | done | assumption | omega
  intro a9 n9 ha hn
  obtain rfl : a9 = 142 := by omega
  obtain rfl : n9 = 143 := by omega
  refine k_Pa_init_9 _ _ _ _ _ _ _ _ ?_
  simp (disch := omega) only [↓w_nil, ↓w_cons, ↓w_pfR_1, ↓w_ald0, ↓w_ic, ↓w_na, true_and, and_true, true_implies, false_implies, not_true_eq_false, not_false_eq_true, Int.reduceEq, Int.reduceLT, Int.reduceLE, Int.reduceNeg, w_up1, w_up2, w_up3, w_up1, w_up2, w_up3, w_sf1, w_sf3, ml_o, wh_o, mx_out, mx_in, ml_0, ml_r, wh_0, wh_1, whl_o, whl_e, whl_u, whl_0, h0]
  repeat refine And.intro (by first | decide +kernel | assumption | omega | (unfold in32; omega) | (unfold in64; omega) | exact True.intro | exact Or.inl True.intro | exact Or.inr True.intro | rfl) ?_
  try first | done | assumption | omega
  intro a9 n9 ha hn
  obtain rfl : a9 = 143 := by omega
  obtain rfl : n9 = 144 := by omega
  refine k_Pa_init_17 _ _ _ _ _ _ _ _ ?_
  simp (disch := omega) only [↓w_nil, ↓w_cons, ↓w_pfR_2, ↓w_ald0, ↓w_ic, ↓w_na, true_and, and_true, true_implies, false_implies, not_true_eq_false, not_false_eq_true, Int.reduceEq, Int.reduceLT, Int.reduceLE, Int.reduceNeg, w_up1, w_up2, w_up3, w_up1, w_up2, w_up3, w_sf1, w_sf3, ml_o, wh_o, mx_out, mx_in, ml_0, ml_r, wh_0, wh_1, whl_o, whl_e, whl_u, whl_0, h0]
  repeat refine And.intro (by first | decide +kernel | assumption | omega | (unfold in32; omega) | (unfold in64; omega) | exact True.intro | exact Or.inl True.intro | exact Or.inr True.intro | rfl) ?_
  try first | done | assumption | omega
  intro a9 n9 ha hn
  obtain rfl : a9 = 144 := by omega
  obtain rfl : n9 = 145 := by omega
  refine k_Pa_init_25 _ _ _ _ _ _ _ _ ?_
  simp (disch := omega) only [↓w_nil, ↓w_cons, ↓w_pfR_3, ↓w_ald0, ↓w_ic, ↓w_na, true_and, and_true, true_implies, false_implies, not_true_eq_false, not_false_eq_true, Int.reduceEq, Int.reduceLT, Int.reduceLE, Int.reduceNeg, w_up1, w_up2, w_up3, w_up1, w_up2, w_up3, w_sf1, w_sf3, ml_o, wh_o, mx_out, mx_in, ml_0, ml_r, wh_0, wh_1, whl_o, whl_e, whl_u, whl_0, h0]
  repeat refine And.intro (by first | decide +kernel | assumption | omega | (unfold in32; omega) | (unfold in64; omega) | exact True.intro | exact Or.inl True.intro | exact Or.inr True.intro | rfl) ?_
  try first | done | assumption | omega
  intro a9 n9 ha hn
  obtain rfl : a9 = 145 := by omega
  obtain rfl : n9 = 146 := by omega
  refine k_Pa_init_33 _ _ _ _ _ _ _ _ ?_
  simp (disch := omega) only [↓w_nil, ↓w_cons, ↓w_pfR_4, ↓w_ald0, ↓w_ic, ↓w_na, true_and, and_true, true_implies, false_implies, not_true_eq_false, not_false_eq_true, Int.reduceEq, Int.reduceLT, Int.reduceLE, Int.reduceNeg, w_up1, w_up2, w_up3, w_up1, w_up2, w_up3, w_sf1, w_sf3, ml_o, wh_o, mx_out, mx_in, ml_0, ml_r, wh_0, wh_1, whl_o, whl_e, whl_u, whl_0, h0]
  repeat refine And.intro (by first | decide +kernel | assumption | omega | (unfold in32; omega) | (unfold in64; omega) | exact True.intro | exact Or.inl True.intro | exact Or.inr True.intro | rfl) ?_
  try first | done | assumption | omega
  intro a9 n9 ha hn
  obtain rfl : a9 = 146 := by omega
  obtain rfl : n9 = 147 := by omega
  refine k_Pa_init_41 _ _ _ _ _ _ _ _ ?_
  simp (disch := omega) only [↓w_nil, ↓w_cons, ↓w_pfR_5, ↓w_ald0, ↓w_ic, ↓w_na, true_and, and_true, true_implies, false_implies, not_true_eq_false, not_false_eq_true, Int.reduceEq, Int.reduceLT, Int.reduceLE, Int.reduceNeg, w_up1, w_up2, w_up3, w_up1, w_up2, w_up3, w_sf1, w_sf3, ml_o, wh_o, mx_out, mx_in, ml_0, ml_r, wh_0, wh_1, whl_o, whl_e, whl_u, whl_0, h0]
  repeat refine And.intro (by first | decide +kernel | assumption | omega | (unfold in32; omega) | (unfold in64; omega) | exact True.intro | exact Or.inl True.intro | exact Or.inr True.intro | rfl) ?_
  try first | done | assumption | omega
  intro a9 n9 ha hn
  obtain rfl : a9 = 147 := by omega
  obtain rfl : n9 = 148 := by omega
  refine k_Pa_init_49 _ _ _ _ _ _ _ _ ?_
  simp (disch := omega) only [↓w_nil, ↓w_cons, ↓w_pfR_7, ↓w_vret, true_and, and_true, true_implies, false_implies, not_true_eq_false, not_false_eq_true, Int.reduceEq, Int.reduceLT, Int.reduceLE, Int.reduceNeg, w_up1, w_up2, w_up3, w_up1, w_up2, w_up3, w_sf1, w_sf3, ml_o, wh_o, mx_out, mx_in, ml_0, ml_r, wh_0, wh_1, whl_o, whl_e, whl_u, whl_0, h0]
  repeat refine And.intro (by first | decide +kernel | assumption | omega | (unfold in32; omega) | (unfold in64; omega) | exact True.intro | exact Or.inl True.intro | exact Or.inr True.intro | rfl) ?_
  try first | done | assumption | omega
  try unfold cw_hide
  try refine ⟨rfl, ?_⟩
  intro c c0 c1 k q0 q1
  by_cases e0 : (141 : Int) ≤ c ∧ c < 148
  · rw [mx_in e0]
    rcases (show c = 141 ∨ c = 142 ∨ c = 143 ∨ c = 144 ∨ c = 145 ∨ c = 146 ∨ c = 147 by omega) with rfl | rfl | rfl | rfl | rfl | rfl | rfl
    · rw [show cw_vs (Int.toNat 141) = 10 from by decide +kernel] at q1
      rcases (show k = 0 ∨ k = 1 ∨ k = 2 ∨ k = 3 ∨ k = 4 ∨ k = 5 ∨ k = 6 ∨ k = 7 ∨ k = 8 ∨ k = 9 by omega) with rfl | rfl | rfl | rfl | rfl | rfl | rfl | rfl | rfl | rfl
      all_goals (simp (disch := omega) only [w_up1, w_up2, w_up3, w_sf1, w_sf3, ml_o, wh_o, mx_out, mx_in, ml_0, ml_r, wh_0, wh_1, whl_o, whl_e, whl_u, whl_0, h0]; decide +kernel)
    · simp (disch := omega) only [w_up1, w_up2, w_up3, w_sf1, w_sf3, ml_o, wh_o, mx_out, mx_in, ml_0, ml_r, wh_0, wh_1, whl_o, whl_e, whl_u, whl_0, h0]; exact W_z (by decide +kernel)
    · simp (disch := omega) only [w_up1, w_up2, w_up3, w_sf1, w_sf3, ml_o, wh_o, mx_out, mx_in, ml_0, ml_r, wh_0, wh_1, whl_o, whl_e, whl_u, whl_0, h0]; exact W_z (by decide +kernel)
    · simp (disch := omega) only [w_up1, w_up2, w_up3, w_sf1, w_sf3, ml_o, wh_o, mx_out, mx_in, ml_0, ml_r, wh_0, wh_1, whl_o, whl_e, whl_u, whl_0, h0]; exact W_z (by decide +kernel)
    · simp (disch := omega) only [w_up1, w_up2, w_up3, w_sf1, w_sf3, ml_o, wh_o, mx_out, mx_in, ml_0, ml_r, wh_0, wh_1, whl_o, whl_e, whl_u, whl_0, h0]; exact W_z (by decide +kernel)
    · simp (disch := omega) only [w_up1, w_up2, w_up3, w_sf1, w_sf3, ml_o, wh_o, mx_out, mx_in, ml_0, ml_r, wh_0, wh_1, whl_o, whl_e, whl_u, whl_0, h0]; exact W_z (by decide +kernel)
    · simp (disch := omega) only [w_up1, w_up2, w_up3, w_sf1, w_sf3, ml_o, wh_o, mx_out, mx_in, ml_0, ml_r, wh_0, wh_1, whl_o, whl_e, whl_u, whl_0, h0]; exact W_z (by decide +kernel)
  · rw [mx_out e0]
    simp (disch := omega) only [w_up3, w_sf3, ml_o, wh_o, mx_out, whl_u]
set_option maxHeartbeats 8000000 in
theorem i_St_276 {g : cw_G} {M : cw_M} (h0 : M 276 = cw_zr 8) : cw_C g y_St_init [.inr (.inr 276)] M 277 279 (fun q M' => q = none ∧ M' = cw_mx M 276 279) := by
  refine cw_C_vis ?_
  refine cw_C_of (L := [.inr (.inr 276)]) ok_St_init (Nat.le_of_ble_eq_true rfl) (Nat.le_of_ble_eq_true rfl) rfl ?_
  refine cw_J_hide ?_
  refine k_St_init_0 _ _ _ _ _ _ _ _ ?_
  simp (disch := omega) only [↓w_nil, ↓w_cons, ↓w_ald0, ↓w_oi, true_and, and_true, true_implies, false_implies, not_true_eq_false, not_false_eq_true, Int.reduceEq, Int.reduceLT, Int.reduceLE, Int.reduceNeg, w_c80, w_c8I, w_c8L, w_c8R, w_up1, w_up2, w_up3, w_up1, w_up2, w_up3, w_sf1, w_sf3, ml_o, wh_o, mx_out, mx_in, ml_0, ml_r, wh_0, wh_1, whl_o, whl_e, whl_u, whl_0, h0]
  repeat refine And.intro (by first | decide +kernel | assumption | omega | (unfold in32; omega) | (unfold in64; omega) | exact True.intro | exact Or.inl True.intro | exact Or.inr True.intro | rfl) ?_
  try first | done | assumption | omega
  refine k_St_init_4 _ _ _ _ _ _ _ _ ?_
  simp (disch := omega) only [↓w_nil, ↓w_cons, ↓w_ald0, ↓w_ic, ↓w_na, true_and, and_true, true_implies, false_implies, not_true_eq_false, not_false_eq_true, Int.reduceEq, Int.reduceLT, Int.reduceLE, Int.reduceNeg, w_up1, w_up2, w_up3, w_up1, w_up2, w_up3, w_sf1, w_sf3, ml_o, wh_o, mx_out, mx_in, ml_0, ml_r, wh_0, wh_1, whl_o, whl_e, whl_u, whl_0, h0]
  repeat refine And.intro (by first | decide +kernel | assumption | omega | (unfold in32; omega) | (unfold in64; omega) | exact True.intro | exact Or.inl True.intro | exact Or.inr True.intro | rfl) ?_
  try first | done | assumption | omega
  intro a9 n9 ha hn
  obtain rfl : a9 = 277 := by omega
  obtain rfl : n9 = 278 := by omega
  refine k_St_init_9 _ _ _ _ _ _ _ _ ?_
  simp (disch := omega) only [↓w_nil, ↓w_cons, ↓w_pfR_1, ↓w_ald0, ↓w_ic, ↓w_na, true_and, and_true, true_implies, false_implies, not_true_eq_false, not_false_eq_true, Int.reduceEq, Int.reduceLT, Int.reduceLE, Int.reduceNeg, w_up1, w_up2, w_up3, w_up1, w_up2, w_up3, w_sf1, w_sf3, ml_o, wh_o, mx_out, mx_in, ml_0, ml_r, wh_0, wh_1, whl_o, whl_e, whl_u, whl_0, h0]
  repeat refine And.intro (by first | decide +kernel | assumption | omega | (unfold in32; omega) | (unfold in64; omega) | exact True.intro | exact Or.inl True.intro | exact Or.inr True.intro | rfl) ?_
  try first | done | assumption | omega
  intro a9 n9 ha hn
  obtain rfl : a9 = 278 := by omega
  obtain rfl : n9 = 279 := by omega
  refine k_St_init_17 _ _ _ _ _ _ _ _ ?_
  simp (disch := omega) only [↓w_nil, ↓w_cons, ↓w_pfR_3, ↓w_vret, true_and, and_true, true_implies, false_implies, not_true_eq_false, not_false_eq_true, Int.reduceEq, Int.reduceLT, Int.reduceLE, Int.reduceNeg, w_up1, w_up2, w_up3, w_up1, w_up2, w_up3, w_sf1, w_sf3, ml_o, wh_o, mx_out, mx_in, ml_0, ml_r, wh_0, wh_1, whl_o, whl_e, whl_u, whl_0, h0]
  repeat refine And.intro (by first | decide +kernel | assumption | omega | (unfold in32; omega) | (unfold in64; omega) | exact True.intro | exact Or.inl True.intro | exact Or.inr True.intro | rfl) ?_
  try first | done | assumption | omega
  try unfold cw_hide
  try refine ⟨rfl, ?_⟩
  intro c c0 c1 k q0 q1
  by_cases e0 : (276 : Int) ≤ c ∧ c < 279
  · rw [mx_in e0]
    rcases (show c = 276 ∨ c = 277 ∨ c = 278 by omega) with rfl | rfl | rfl
    · rw [show cw_vs (Int.toNat 276) = 4 from by decide +kernel] at q1
      rcases (show k = 0 ∨ k = 1 ∨ k = 2 ∨ k = 3 by omega) with rfl | rfl | rfl | rfl
      all_goals (simp (disch := omega) only [w_up1, w_up2, w_up3, w_sf1, w_sf3, ml_o, wh_o, mx_out, mx_in, ml_0, ml_r, wh_0, wh_1, whl_o, whl_e, whl_u, whl_0, h0]; decide +kernel)
    · simp (disch := omega) only [w_up1, w_up2, w_up3, w_sf1, w_sf3, ml_o, wh_o, mx_out, mx_in, ml_0, ml_r, wh_0, wh_1, whl_o, whl_e, whl_u, whl_0, h0]; exact W_z (by decide +kernel)
    · simp (disch := omega) only [w_up1, w_up2, w_up3, w_sf1, w_sf3, ml_o, wh_o, mx_out, mx_in, ml_0, ml_r, wh_0, wh_1, whl_o, whl_e, whl_u, whl_0, h0]; exact W_z (by decide +kernel)
  · rw [mx_out e0]
    simp (disch := omega) only [w_up3, w_sf3, ml_o, wh_o, mx_out, whl_u]
