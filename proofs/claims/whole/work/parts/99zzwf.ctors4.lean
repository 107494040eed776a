/-! the constructors at their places; by program (wip/whole/genctor.py) -/
set_option maxHeartbeats 8000000 in
theorem i_Co_0 {g : cw_G} {M : cw_M} (h0 : M 0 = cw_zr 11) : cw_C g y_Co_init [.inr (.inr 0)] M 1 319 (fun q M' => q = none ∧ M' = cw_mx M 0 319) := by
  refine cw_C_vis ?_
  refine cw_C_of (L := [.inr (.inr 0)]) ok_Co_init (Nat.le_of_ble_eq_true rfl) (Nat.le_of_ble_eq_true rfl) rfl ?_
  refine cw_J_hide ?_
  refine k_Co_init_0 _ _ _ _ _ _ _ _ ?_
  simp (disch := omega) only [↓w_nil, ↓w_cons, ↓w_ald0, ↓w_oi, true_and, and_true, true_implies, false_implies, not_true_eq_false, not_false_eq_true, Int.reduceEq, Int.reduceLT, Int.reduceLE, Int.reduceNeg, w_c80, w_c8I, w_c8L, w_c8R, w_up1, w_up2, w_up3, w_up1, w_up2, w_up3, w_sf1, w_sf3, ml_o, wh_o, mx_out, mx_in, ml_0, ml_r, wh_0, wh_1, whl_o, whl_e, whl_u, whl_0, h0]
  repeat refine And.intro (by first | decide +kernel | assumption | omega | (unfold in32; omega) | (unfold in64; omega) | exact True.intro | exact Or.inl True.intro | exact Or.inr True.intro | rfl) ?_
  try first | done | assumption | omega
  refine k_Co_init_4 _ _ _ _ _ _ _ _ ?_
  simp (disch := omega) only [↓w_nil, ↓w_cons, ↓w_ald0, ↓w_new, true_and, and_true, true_implies, false_implies, not_true_eq_false, not_false_eq_true, Int.reduceEq, Int.reduceLT, Int.reduceLE, Int.reduceNeg, w_up1, w_up2, w_up3, w_up1, w_up2, w_up3, w_sf1, w_sf3, ml_o, wh_o, mx_out, mx_in, ml_0, ml_r, wh_0, wh_1, whl_o, whl_e, whl_u, whl_0, h0]
  repeat refine And.intro (by first | decide +kernel | assumption | omega | (unfold in32; omega) | (unfold in64; omega) | exact True.intro | exact Or.inl True.intro | exact Or.inr True.intro | rfl) ?_
  try first | done | assumption | omega
  intro a9 n9 ha hn
  obtain rfl : a9 = 1 := by omega
  obtain rfl : n9 = 2 := by omega
  refine k_Co_init_8 _ _ _ _ _ _ _ _ ?_
  simp (disch := omega) only [↓w_nil, ↓w_cons, ↓w_dupI, ↓w_dupR, ↓w_ci, true_and, and_true, true_implies, false_implies, not_true_eq_false, not_false_eq_true, Int.reduceEq, Int.reduceLT, Int.reduceLE, Int.reduceNeg, w_c80, w_c8I, w_c8L, w_c8R, w_up1, w_up2, w_up3, w_up1, w_up2, w_up3, w_sf1, w_sf3, ml_o, wh_o, mx_out, mx_in, ml_0, ml_r, wh_0, wh_1, whl_o, whl_e, whl_u, whl_0, h0]
  repeat refine And.intro (by first | decide +kernel | assumption | omega | (unfold in32; omega) | (unfold in64; omega) | exact True.intro | exact Or.inl True.intro | exact Or.inr True.intro | rfl) ?_
  try first | done | assumption | omega
  refine ⟨_, _, i_Sa_1 sf_eq, by omega, ?_⟩
  rintro r9 M9 ⟨rfl, rfl⟩
  refine k_Co_init_12 _ _ _ _ _ _ _ _ ?_
  simp (disch := omega) only [↓w_nil, ↓w_cons, ↓w_pfR_0, ↓w_ald0, ↓w_ic, ↓w_an, true_and, and_true, true_implies, false_implies, not_true_eq_false, not_false_eq_true, Int.reduceEq, Int.reduceLT, Int.reduceLE, Int.reduceNeg, w_up1, w_up2, w_up3, w_up1, w_up2, w_up3, w_sf1, w_sf3, ml_o, wh_o, mx_out, mx_in, ml_0, ml_r, wh_0, wh_1, whl_o, whl_e, whl_u, whl_0, h0, w_tl0]
  repeat refine And.intro (by first | decide +kernel | assumption | omega | (unfold in32; omega) | (unfold in64; omega) | exact True.intro | exact Or.inl True.intro | exact Or.inr True.intro | rfl) ?_
  try first | done | assumption | omega
  intro a9 n9 ha hn
  obtain rfl : a9 = 47 := by omega
  obtain rfl : n9 = 48 := by omega
  refine k_Co_init_20 _ _ _ _ _ _ _ _ ?_
  simp (disch := omega) only [↓w_nil, ↓w_cons, ↓w_dupI, ↓w_dupR, ↓w_ic, ↓w_new, true_and, and_true, true_implies, false_implies, not_true_eq_false, not_false_eq_true, Int.reduceEq, Int.reduceLT, Int.reduceLE, Int.reduceNeg, w_up1, w_up2, w_up3, w_up1, w_up2, w_up3, w_sf1, w_sf3, ml_o, wh_o, mx_out, mx_in, ml_0, ml_r, wh_0, wh_1, whl_o, whl_e, whl_u, whl_0, h0]
  repeat refine And.intro (by first | decide +kernel | assumption | omega | (unfold in32; omega) | (unfold in64; omega) | exact True.intro | exact Or.inl True.intro | exact Or.inr True.intro | rfl) ?_
  try first | done | assumption | omega
  intro a9 n9 ha hn
  obtain rfl : a9 = 48 := by omega
  obtain rfl : n9 = 49 := by omega
  refine k_Co_init_25 _ _ _ _ _ _ _ _ ?_
  simp (disch := omega) only [↓w_nil, ↓w_cons, ↓w_dupI, ↓w_dupR, ↓w_ci, true_and, and_true, true_implies, false_implies, not_true_eq_false, not_false_eq_true, Int.reduceEq, Int.reduceLT, Int.reduceLE, Int.reduceNeg, w_c80, w_c8I, w_c8L, w_c8R, w_up1, w_up2, w_up3, w_up1, w_up2, w_up3, w_sf1, w_sf3, ml_o, wh_o, mx_out, mx_in, ml_0, ml_r, wh_0, wh_1, whl_o, whl_e, whl_u, whl_0, h0]
  repeat refine And.intro (by first | decide +kernel | assumption | omega | (unfold in32; omega) | (unfold in64; omega) | exact True.intro | exact Or.inl True.intro | exact Or.inr True.intro | rfl) ?_
  try first | done | assumption | omega
  refine ⟨_, _, i_Sa_48 sf_eq, by omega, ?_⟩
  rintro r9 M9 ⟨rfl, rfl⟩
  refine k_Co_init_29 _ _ _ _ _ _ _ _ ?_
  simp (disch := omega) only [↓w_nil, ↓w_cons, ↓w_aast, ↓w_dupI, ↓w_dupR, ↓w_ic, ↓w_new, true_and, and_true, true_implies, false_implies, not_true_eq_false, not_false_eq_true, Int.reduceEq, Int.reduceLT, Int.reduceLE, Int.reduceNeg, w_up1, w_up2, w_up3, w_up1, w_up2, w_up3, w_sf1, w_sf3, ml_o, wh_o, mx_out, mx_in, ml_0, ml_r, wh_0, wh_1, whl_o, whl_e, whl_u, whl_0, h0, w_tl0]
  repeat refine And.intro (by first | decide +kernel | assumption | omega | (unfold in32; omega) | (unfold in64; omega) | exact True.intro | exact Or.inl True.intro | exact Or.inr True.intro | rfl) ?_
  try first | done | assumption | omega
  intro a9 n9 ha hn
  obtain rfl : a9 = 94 := by omega
  obtain rfl : n9 = 95 := by omega
  refine k_Co_init_35 _ _ _ _ _ _ _ _ ?_
  simp (disch := omega) only [↓w_nil, ↓w_cons, ↓w_dupI, ↓w_dupR, ↓w_ci, true_and, and_true, true_implies, false_implies, not_true_eq_false, not_false_eq_true, Int.reduceEq, Int.reduceLT, Int.reduceLE, Int.reduceNeg, w_c80, w_c8I, w_c8L, w_c8R, w_up1, w_up2, w_up3, w_up1, w_up2, w_up3, w_sf1, w_sf3, ml_o, wh_o, mx_out, mx_in, ml_0, ml_r, wh_0, wh_1, whl_o, whl_e, whl_u, whl_0, h0]
  repeat refine And.intro (by first | decide +kernel | assumption | omega | (unfold in32; omega) | (unfold in64; omega) | exact True.intro | exact Or.inl True.intro | exact Or.inr True.intro | rfl) ?_
  try first | done | assumption | omega
  refine ⟨_, _, i_Sa_94 sf_eq, by omega, ?_⟩
  rintro r9 M9 ⟨rfl, rfl⟩
  refine k_Co_init_39 _ _ _ _ _ _ _ _ ?_
  simp (disch := omega) only [↓w_nil, ↓w_cons, ↓w_aast, ↓w_pfR_1, ↓w_ald0, ↓w_ic, ↓w_na, true_and, and_true, true_implies, false_implies, not_true_eq_false, not_false_eq_true, Int.reduceEq, Int.reduceLT, Int.reduceLE, Int.reduceNeg, w_up1, w_up2, w_up3, w_up1, w_up2, w_up3, w_sf1, w_sf3, ml_o, wh_o, mx_out, mx_in, ml_0, ml_r, wh_0, wh_1, whl_o, whl_e, whl_u, whl_0, h0, w_tl0]
  repeat refine And.intro (by first | decide +kernel | assumption | omega | (unfold in32; omega) | (unfold in64; omega) | exact True.intro | exact Or.inl True.intro | exact Or.inr True.intro | rfl) ?_
  try first | done | assumption | omega
  intro a9 n9 ha hn
  obtain rfl : a9 = 140 := by omega
  obtain rfl : n9 = 141 := by omega
  refine k_Co_init_47 _ _ _ _ _ _ _ _ ?_
  simp (disch := omega) only [↓w_nil, ↓w_cons, ↓w_pfR_2, ↓w_ald0, ↓w_new, true_and, and_true, true_implies, false_implies, not_true_eq_false, not_false_eq_true, Int.reduceEq, Int.reduceLT, Int.reduceLE, Int.reduceNeg, w_up1, w_up2, w_up3, w_up1, w_up2, w_up3, w_sf1, w_sf3, ml_o, wh_o, mx_out, mx_in, ml_0, ml_r, wh_0, wh_1, whl_o, whl_e, whl_u, whl_0, h0]
  repeat refine And.intro (by first | decide +kernel | assumption | omega | (unfold in32; omega) | (unfold in64; omega) | exact True.intro | exact Or.inl True.intro | exact Or.inr True.intro | rfl) ?_
  try first | done | assumption | omega
  intro a9 n9 ha hn
  obtain rfl : a9 = 141 := by omega
  obtain rfl : n9 = 142 := by omega
  refine k_Co_init_54 _ _ _ _ _ _ _ _ ?_
  simp (disch := omega) only [↓w_nil, ↓w_cons, ↓w_dupI, ↓w_dupR, ↓w_ci, true_and, and_true, true_implies, false_implies, not_true_eq_false, not_false_eq_true, Int.reduceEq, Int.reduceLT, Int.reduceLE, Int.reduceNeg, w_c80, w_c8I, w_c8L, w_c8R, w_up1, w_up2, w_up3, w_up1, w_up2, w_up3, w_sf1, w_sf3, ml_o, wh_o, mx_out, mx_in, ml_0, ml_r, wh_0, wh_1, whl_o, whl_e, whl_u, whl_0, h0]
  repeat refine And.intro (by first | decide +kernel | assumption | omega | (unfold in32; omega) | (unfold in64; omega) | exact True.intro | exact Or.inl True.intro | exact Or.inr True.intro | rfl) ?_
  try first | done | assumption | omega
  refine ⟨_, _, i_Pa_141 sf_eq, by omega, ?_⟩
  rintro r9 M9 ⟨rfl, rfl⟩
  refine k_Co_init_58 _ _ _ _ _ _ _ _ ?_
  simp (disch := omega) only [↓w_nil, ↓w_cons, ↓w_pfR_3, ↓w_ald0, ↓w_new, true_and, and_true, true_implies, false_implies, not_true_eq_false, not_false_eq_true, Int.reduceEq, Int.reduceLT, Int.reduceLE, Int.reduceNeg, w_up1, w_up2, w_up3, w_up1, w_up2, w_up3, w_sf1, w_sf3, ml_o, wh_o, mx_out, mx_in, ml_0, ml_r, wh_0, wh_1, whl_o, whl_e, whl_u, whl_0, h0, w_tl0]
  repeat refine And.intro (by first | decide +kernel | assumption | omega | (unfold in32; omega) | (unfold in64; omega) | exact True.intro | exact Or.inl True.intro | exact Or.inr True.intro | rfl) ?_
  try first | done | assumption | omega
  intro a9 n9 ha hn
  obtain rfl : a9 = 148 := by omega
  obtain rfl : n9 = 149 := by omega
  refine k_Co_init_65 _ _ _ _ _ _ _ _ ?_
  simp (disch := omega) only [↓w_nil, ↓w_cons, ↓w_dupI, ↓w_dupR, ↓w_ci, true_and, and_true, true_implies, false_implies, not_true_eq_false, not_false_eq_true, Int.reduceEq, Int.reduceLT, Int.reduceLE, Int.reduceNeg, w_c80, w_c8I, w_c8L, w_c8R, w_up1, w_up2, w_up3, w_up1, w_up2, w_up3, w_sf1, w_sf3, ml_o, wh_o, mx_out, mx_in, ml_0, ml_r, wh_0, wh_1, whl_o, whl_e, whl_u, whl_0, h0]
  repeat refine And.intro (by first | decide +kernel | assumption | omega | (unfold in32; omega) | (unfold in64; omega) | exact True.intro | exact Or.inl True.intro | exact Or.inr True.intro | rfl) ?_
  try first | done | assumption | omega
  refine ⟨_, _, i_Re_148 sf_eq, by omega, ?_⟩
  rintro r9 M9 ⟨rfl, rfl⟩
  refine k_Co_init_69 _ _ _ _ _ _ _ _ ?_
  simp (disch := omega) only [↓w_nil, ↓w_cons, ↓w_pfR_4, ↓w_ald0, ↓w_new, true_and, and_true, true_implies, false_implies, not_true_eq_false, not_false_eq_true, Int.reduceEq, Int.reduceLT, Int.reduceLE, Int.reduceNeg, w_up1, w_up2, w_up3, w_up1, w_up2, w_up3, w_sf1, w_sf3, ml_o, wh_o, mx_out, mx_in, ml_0, ml_r, wh_0, wh_1, whl_o, whl_e, whl_u, whl_0, h0, w_tl0]
  repeat refine And.intro (by first | decide +kernel | assumption | omega | (unfold in32; omega) | (unfold in64; omega) | exact True.intro | exact Or.inl True.intro | exact Or.inr True.intro | rfl) ?_
  try first | done | assumption | omega
  intro a9 n9 ha hn
  obtain rfl : a9 = 276 := by omega
  obtain rfl : n9 = 277 := by omega
  refine k_Co_init_76 _ _ _ _ _ _ _ _ ?_
  simp (disch := omega) only [↓w_nil, ↓w_cons, ↓w_dupI, ↓w_dupR, ↓w_ci, true_and, and_true, true_implies, false_implies, not_true_eq_false, not_false_eq_true, Int.reduceEq, Int.reduceLT, Int.reduceLE, Int.reduceNeg, w_c80, w_c8I, w_c8L, w_c8R, w_up1, w_up2, w_up3, w_up1, w_up2, w_up3, w_sf1, w_sf3, ml_o, wh_o, mx_out, mx_in, ml_0, ml_r, wh_0, wh_1, whl_o, whl_e, whl_u, whl_0, h0]
  repeat refine And.intro (by first | decide +kernel | assumption | omega | (unfold in32; omega) | (unfold in64; omega) | exact True.intro | exact Or.inl True.intro | exact Or.inr True.intro | rfl) ?_
  try first | done | assumption | omega
  refine ⟨_, _, i_St_276 sf_eq, by omega, ?_⟩
  rintro r9 M9 ⟨rfl, rfl⟩
  refine k_Co_init_80 _ _ _ _ _ _ _ _ ?_
  simp (disch := omega) only [↓w_nil, ↓w_cons, ↓w_pfR_5, ↓w_ald0, ↓w_new, true_and, and_true, true_implies, false_implies, not_true_eq_false, not_false_eq_true, Int.reduceEq, Int.reduceLT, Int.reduceLE, Int.reduceNeg, w_up1, w_up2, w_up3, w_up1, w_up2, w_up3, w_sf1, w_sf3, ml_o, wh_o, mx_out, mx_in, ml_0, ml_r, wh_0, wh_1, whl_o, whl_e, whl_u, whl_0, h0, w_tl0]
  repeat refine And.intro (by first | decide +kernel | assumption | omega | (unfold in32; omega) | (unfold in64; omega) | exact True.intro | exact Or.inl True.intro | exact Or.inr True.intro | rfl) ?_
  try first | done | assumption | omega
  intro a9 n9 ha hn
  obtain rfl : a9 = 279 := by omega
  obtain rfl : n9 = 280 := by omega
  refine k_Co_init_87 _ _ _ _ _ _ _ _ ?_
  simp (disch := omega) only [↓w_nil, ↓w_cons, ↓w_dupI, ↓w_dupR, ↓w_ci, true_and, and_true, true_implies, false_implies, not_true_eq_false, not_false_eq_true, Int.reduceEq, Int.reduceLT, Int.reduceLE, Int.reduceNeg, w_c80, w_c8I, w_c8L, w_c8R, w_up1, w_up2, w_up3, w_up1, w_up2, w_up3, w_sf1, w_sf3, ml_o, wh_o, mx_out, mx_in, ml_0, ml_r, wh_0, wh_1, whl_o, whl_e, whl_u, whl_0, h0]
  repeat refine And.intro (by first | decide +kernel | assumption | omega | (unfold in32; omega) | (unfold in64; omega) | exact True.intro | exact Or.inl True.intro | exact Or.inr True.intro | rfl) ?_
  try first | done | assumption | omega
  refine ⟨_, _, i_Ra_279 sf_eq, by omega, ?_⟩
  rintro r9 M9 ⟨rfl, rfl⟩
  refine k_Co_init_91 _ _ _ _ _ _ _ _ ?_
  simp (disch := omega) only [↓w_nil, ↓w_cons, ↓w_pfR_6, ↓w_ald0, ↓w_new, true_and, and_true, true_implies, false_implies, not_true_eq_false, not_false_eq_true, Int.reduceEq, Int.reduceLT, Int.reduceLE, Int.reduceNeg, w_up1, w_up2, w_up3, w_up1, w_up2, w_up3, w_sf1, w_sf3, ml_o, wh_o, mx_out, mx_in, ml_0, ml_r, wh_0, wh_1, whl_o, whl_e, whl_u, whl_0, h0, w_tl0]
  repeat refine And.intro (by first | decide +kernel | assumption | omega | (unfold in32; omega) | (unfold in64; omega) | exact True.intro | exact Or.inl True.intro | exact Or.inr True.intro | rfl) ?_
  try first | done | assumption | omega
  intro a9 n9 ha hn
  obtain rfl : a9 = 292 := by omega
  obtain rfl : n9 = 293 := by omega
  refine k_Co_init_98 _ _ _ _ _ _ _ _ ?_
  simp (disch := omega) only [↓w_nil, ↓w_cons, ↓w_dupI, ↓w_dupR, ↓w_ci, true_and, and_true, true_implies, false_implies, not_true_eq_false, not_false_eq_true, Int.reduceEq, Int.reduceLT, Int.reduceLE, Int.reduceNeg, w_c80, w_c8I, w_c8L, w_c8R, w_up1, w_up2, w_up3, w_up1, w_up2, w_up3, w_sf1, w_sf3, ml_o, wh_o, mx_out, mx_in, ml_0, ml_r, wh_0, wh_1, whl_o, whl_e, whl_u, whl_0, h0]
  repeat refine And.intro (by first | decide +kernel | assumption | omega | (unfold in32; omega) | (unfold in64; omega) | exact True.intro | exact Or.inl True.intro | exact Or.inr True.intro | rfl) ?_
  try first | done | assumption | omega
  refine ⟨_, _, i_Ra_292 sf_eq, by omega, ?_⟩
  rintro r9 M9 ⟨rfl, rfl⟩
  refine k_Co_init_102 _ _ _ _ _ _ _ _ ?_
  simp (disch := omega) only [↓w_nil, ↓w_cons, ↓w_pfR_7, ↓w_ald0, ↓w_new, true_and, and_true, true_implies, false_implies, not_true_eq_false, not_false_eq_true, Int.reduceEq, Int.reduceLT, Int.reduceLE, Int.reduceNeg, w_up1, w_up2, w_up3, w_up1, w_up2, w_up3, w_sf1, w_sf3, ml_o, wh_o, mx_out, mx_in, ml_0, ml_r, wh_0, wh_1, whl_o, whl_e, whl_u, whl_0, h0, w_tl0]
  repeat refine And.intro (by first | decide +kernel | assumption | omega | (unfold in32; omega) | (unfold in64; omega) | exact True.intro | exact Or.inl True.intro | exact Or.inr True.intro | rfl) ?_
  try first | done | assumption | omega
  intro a9 n9 ha hn
  obtain rfl : a9 = 305 := by omega
  obtain rfl : n9 = 306 := by omega
  refine k_Co_init_109 _ _ _ _ _ _ _ _ ?_
  simp (disch := omega) only [↓w_nil, ↓w_cons, ↓w_dupI, ↓w_dupR, ↓w_ci, true_and, and_true, true_implies, false_implies, not_true_eq_false, not_false_eq_true, Int.reduceEq, Int.reduceLT, Int.reduceLE, Int.reduceNeg, w_c80, w_c8I, w_c8L, w_c8R, w_up1, w_up2, w_up3, w_up1, w_up2, w_up3, w_sf1, w_sf3, ml_o, wh_o, mx_out, mx_in, ml_0, ml_r, wh_0, wh_1, whl_o, whl_e, whl_u, whl_0, h0]
  repeat refine And.intro (by first | decide +kernel | assumption | omega | (unfold in32; omega) | (unfold in64; omega) | exact True.intro | exact Or.inl True.intro | exact Or.inr True.intro | rfl) ?_
  try first | done | assumption | omega
  refine ⟨_, _, i_Ra_305 sf_eq, by omega, ?_⟩
  rintro r9 M9 ⟨rfl, rfl⟩
  refine k_Co_init_113 _ _ _ _ _ _ _ _ ?_
  simp (disch := omega) only [↓w_nil, ↓w_cons, ↓w_pfR_8, ↓w_ald0, ↓w_ic, ↓w_na, true_and, and_true, true_implies, false_implies, not_true_eq_false, not_false_eq_true, Int.reduceEq, Int.reduceLT, Int.reduceLE, Int.reduceNeg, w_up1, w_up2, w_up3, w_up1, w_up2, w_up3, w_sf1, w_sf3, ml_o, wh_o, mx_out, mx_in, ml_0, ml_r, wh_0, wh_1, whl_o, whl_e, whl_u, whl_0, h0, w_tl0]
  repeat refine And.intro (by first | decide +kernel | assumption | omega | (unfold in32; omega) | (unfold in64; omega) | exact True.intro | exact Or.inl True.intro | exact Or.inr True.intro | rfl) ?_
  try first | done | assumption | omega
  intro a9 n9 ha hn
  obtain rfl : a9 = 318 := by omega
  obtain rfl : n9 = 319 := by omega
  refine k_Co_init_121 _ _ _ _ _ _ _ _ ?_
  simp (disch := omega) only [↓w_nil, ↓w_cons, ↓w_pfR_9, ↓w_vret, true_and, and_true, true_implies, false_implies, not_true_eq_false, not_false_eq_true, Int.reduceEq, Int.reduceLT, Int.reduceLE, Int.reduceNeg, w_up1, w_up2, w_up3, w_up1, w_up2, w_up3, w_sf1, w_sf3, ml_o, wh_o, mx_out, mx_in, ml_0, ml_r, wh_0, wh_1, whl_o, whl_e, whl_u, whl_0, h0]
  repeat refine And.intro (by first | decide +kernel | assumption | omega | (unfold in32; omega) | (unfold in64; omega) | exact True.intro | exact Or.inl True.intro | exact Or.inr True.intro | rfl) ?_
  try first | done | assumption | omega
  try unfold cw_hide
  try refine ⟨rfl, ?_⟩
  intro c c0 c1 k q0 q1
  by_cases e0 : (0 : Int) ≤ c ∧ c < 319
  · rw [mx_in e0]
    rcases (show c = 0 ∨ (1 ≤ c ∧ c < 47) ∨ c = 47 ∨ (48 ≤ c ∧ c < 94) ∨ (94 ≤ c ∧ c < 140) ∨ c = 140 ∨ (141 ≤ c ∧ c < 148) ∨ (148 ≤ c ∧ c < 276) ∨ (276 ≤ c ∧ c < 279) ∨ (279 ≤ c ∧ c < 292) ∨ (292 ≤ c ∧ c < 305) ∨ (305 ≤ c ∧ c < 318) ∨ c = 318 by omega) with rfl | h | rfl | h | h | rfl | h | h | h | h | h | h | rfl
    · rw [show cw_vs (Int.toNat 0) = 10 from by decide +kernel] at q1
      rcases (show k = 0 ∨ k = 1 ∨ k = 2 ∨ k = 3 ∨ k = 4 ∨ k = 5 ∨ k = 6 ∨ k = 7 ∨ k = 8 ∨ k = 9 by omega) with rfl | rfl | rfl | rfl | rfl | rfl | rfl | rfl | rfl | rfl
      all_goals (simp (disch := omega) only [w_up1, w_up2, w_up3, w_sf1, w_sf3, ml_o, wh_o, mx_out, mx_in, ml_0, ml_r, wh_0, wh_1, whl_o, whl_e, whl_u, whl_0, h0]; decide +kernel)
    · simp (disch := omega) only [w_up1, w_up2, w_up3, w_sf1, w_sf3, ml_o, wh_o, mx_out, mx_in, ml_0, ml_r, wh_0, wh_1, whl_o, whl_e, whl_u, whl_0, h0]
    · rw [show cw_vs (Int.toNat 47) = 2 from by decide +kernel] at q1
      rcases (show k = 0 ∨ k = 1 by omega) with rfl | rfl
      all_goals (simp (disch := omega) only [w_up1, w_up2, w_up3, w_sf1, w_sf3, ml_o, wh_o, mx_out, mx_in, ml_0, ml_r, wh_0, wh_1, whl_o, whl_e, whl_u, whl_0, h0]; decide +kernel)
    · simp (disch := omega) only [w_up1, w_up2, w_up3, w_sf1, w_sf3, ml_o, wh_o, mx_out, mx_in, ml_0, ml_r, wh_0, wh_1, whl_o, whl_e, whl_u, whl_0, h0]
    · simp (disch := omega) only [w_up1, w_up2, w_up3, w_sf1, w_sf3, ml_o, wh_o, mx_out, mx_in, ml_0, ml_r, wh_0, wh_1, whl_o, whl_e, whl_u, whl_0, h0]
    · simp (disch := omega) only [w_up1, w_up2, w_up3, w_sf1, w_sf3, ml_o, wh_o, mx_out, mx_in, ml_0, ml_r, wh_0, wh_1, whl_o, whl_e, whl_u, whl_0, h0]; exact W_z (by decide +kernel)
    · simp (disch := omega) only [w_up1, w_up2, w_up3, w_sf1, w_sf3, ml_o, wh_o, mx_out, mx_in, ml_0, ml_r, wh_0, wh_1, whl_o, whl_e, whl_u, whl_0, h0]
    · simp (disch := omega) only [w_up1, w_up2, w_up3, w_sf1, w_sf3, ml_o, wh_o, mx_out, mx_in, ml_0, ml_r, wh_0, wh_1, whl_o, whl_e, whl_u, whl_0, h0]
    · simp (disch := omega) only [w_up1, w_up2, w_up3, w_sf1, w_sf3, ml_o, wh_o, mx_out, mx_in, ml_0, ml_r, wh_0, wh_1, whl_o, whl_e, whl_u, whl_0, h0]
    · simp (disch := omega) only [w_up1, w_up2, w_up3, w_sf1, w_sf3, ml_o, wh_o, mx_out, mx_in, ml_0, ml_r, wh_0, wh_1, whl_o, whl_e, whl_u, whl_0, h0]
    · simp (disch := omega) only [w_up1, w_up2, w_up3, w_sf1, w_sf3, ml_o, wh_o, mx_out, mx_in, ml_0, ml_r, wh_0, wh_1, whl_o, whl_e, whl_u, whl_0, h0]
    · simp (disch := omega) only [w_up1, w_up2, w_up3, w_sf1, w_sf3, ml_o, wh_o, mx_out, mx_in, ml_0, ml_r, wh_0, wh_1, whl_o, whl_e, whl_u, whl_0, h0]
    · simp (disch := omega) only [w_up1, w_up2, w_up3, w_sf1, w_sf3, ml_o, wh_o, mx_out, mx_in, ml_0, ml_r, wh_0, wh_1, whl_o, whl_e, whl_u, whl_0, h0]; exact W_z (by decide +kernel)
  · rw [mx_out e0]
    simp (disch := omega) only [w_up3, w_sf3, ml_o, wh_o, mx_out, whl_u]
