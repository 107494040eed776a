/-! CoilWorksModel.<init>; by program (wip/whole/genctor.py) -/
set_option maxHeartbeats 16000000 in
theorem i_Mo_319 {g : cw_G} {M : cw_M} (h0 : M 319 = cw_zr 12) (hw : ∀ c k : Int, 0 ≤ c → c < 319 → cw_W c k = M c k) : cw_C g y_Mo_init [.inr (.inr 319)] M 320 348 (fun q M' => q = none ∧ IV 0 M') := by
  refine cw_C_of (L := [.inr (.inr 319), cU]) ok_Mo_init (Nat.le_of_ble_eq_true rfl) (Nat.le_of_ble_eq_true rfl) rfl ?_
  refine cw_J_hide ?_
  refine k_Mo_init_0 _ _ _ _ _ _ _ _ ?_
  simp (disch := omega) only [↓w_nil, ↓w_cons, ↓w_ald0, ↓w_oi, true_and, and_true, true_implies, false_implies, not_true_eq_false, not_false_eq_true, Int.reduceEq, Int.reduceLT, Int.reduceLE, Int.reduceNeg, w_c80, w_c8I, w_c8L, w_c8R, w_up1, w_up2, w_up3, w_up1, w_up2, w_up3, w_sf1, w_sf3, ml_o, wh_o, mx_out, mx_in, ml_0, ml_r, wh_0, wh_1, whl_o, whl_e, whl_u, whl_0, h0]
  repeat refine And.intro (by first | decide +kernel | assumption | omega | (unfold in32; omega) | (unfold in64; omega) | exact True.intro | exact Or.inl True.intro | exact Or.inr True.intro | rfl) ?_
  try first | done | assumption | omega
  refine k_Mo_init_4 _ _ _ _ _ _ _ _ ?_
  simp (disch := omega) only [↓w_nil, ↓w_cons, ↓w_ald0, ↓w_ic, ↓w_na, true_and, and_true, true_implies, false_implies, not_true_eq_false, not_false_eq_true, Int.reduceEq, Int.reduceLT, Int.reduceLE, Int.reduceNeg, w_up1, w_up2, w_up3, w_up1, w_up2, w_up3, w_sf1, w_sf3, ml_o, wh_o, mx_out, mx_in, ml_0, ml_r, wh_0, wh_1, whl_o, whl_e, whl_u, whl_0, h0]
  repeat refine And.intro (by first | decide +kernel | assumption | omega | (unfold in32; omega) | (unfold in64; omega) | exact True.intro | exact Or.inl True.intro | exact Or.inr True.intro | rfl) ?_
  try first | done | assumption | omega
  intro a9 n9 ha hn
  obtain rfl : a9 = 320 := by omega
  obtain rfl : n9 = 321 := by omega
  refine k_Mo_init_10 _ _ _ _ _ _ _ _ ?_
  simp (disch := omega) only [↓w_nil, ↓w_cons, ↓w_pfR_0, ↓w_ald0, ↓w_ic, ↓w_na, true_and, and_true, true_implies, false_implies, not_true_eq_false, not_false_eq_true, Int.reduceEq, Int.reduceLT, Int.reduceLE, Int.reduceNeg, w_up1, w_up2, w_up3, w_up1, w_up2, w_up3, w_sf1, w_sf3, ml_o, wh_o, mx_out, mx_in, ml_0, ml_r, wh_0, wh_1, whl_o, whl_e, whl_u, whl_0, h0]
  repeat refine And.intro (by first | decide +kernel | assumption | omega | (unfold in32; omega) | (unfold in64; omega) | exact True.intro | exact Or.inl True.intro | exact Or.inr True.intro | rfl) ?_
  try first | done | assumption | omega
  intro a9 n9 ha hn
  obtain rfl : a9 = 321 := by omega
  obtain rfl : n9 = 322 := by omega
  refine k_Mo_init_19 _ _ _ _ _ _ _ _ ?_
  simp (disch := omega) only [↓w_nil, ↓w_cons, ↓w_pfR_1, ↓w_ald0, ↓w_ic, ↓w_na, true_and, and_true, true_implies, false_implies, not_true_eq_false, not_false_eq_true, Int.reduceEq, Int.reduceLT, Int.reduceLE, Int.reduceNeg, w_up1, w_up2, w_up3, w_up1, w_up2, w_up3, w_sf1, w_sf3, ml_o, wh_o, mx_out, mx_in, ml_0, ml_r, wh_0, wh_1, whl_o, whl_e, whl_u, whl_0, h0]
  repeat refine And.intro (by first | decide +kernel | assumption | omega | (unfold in32; omega) | (unfold in64; omega) | exact True.intro | exact Or.inl True.intro | exact Or.inr True.intro | rfl) ?_
  try first | done | assumption | omega
  intro a9 n9 ha hn
  obtain rfl : a9 = 322 := by omega
  obtain rfl : n9 = 323 := by omega
  refine k_Mo_init_28 _ _ _ _ _ _ _ _ ?_
  simp (disch := omega) only [↓w_nil, ↓w_cons, ↓w_pfR_2, ↓w_ald0, ↓w_ic, ↓w_na, true_and, and_true, true_implies, false_implies, not_true_eq_false, not_false_eq_true, Int.reduceEq, Int.reduceLT, Int.reduceLE, Int.reduceNeg, w_up1, w_up2, w_up3, w_up1, w_up2, w_up3, w_sf1, w_sf3, ml_o, wh_o, mx_out, mx_in, ml_0, ml_r, wh_0, wh_1, whl_o, whl_e, whl_u, whl_0, h0]
  repeat refine And.intro (by first | decide +kernel | assumption | omega | (unfold in32; omega) | (unfold in64; omega) | exact True.intro | exact Or.inl True.intro | exact Or.inr True.intro | rfl) ?_
  try first | done | assumption | omega
  intro a9 n9 ha hn
  obtain rfl : a9 = 323 := by omega
  obtain rfl : n9 = 324 := by omega
  refine k_Mo_init_36 _ _ _ _ _ _ _ _ ?_
  simp (disch := omega) only [↓w_nil, ↓w_cons, ↓w_pfR_3, ↓w_ald0, ↓w_ic, ↓w_na, true_and, and_true, true_implies, false_implies, not_true_eq_false, not_false_eq_true, Int.reduceEq, Int.reduceLT, Int.reduceLE, Int.reduceNeg, w_up1, w_up2, w_up3, w_up1, w_up2, w_up3, w_sf1, w_sf3, ml_o, wh_o, mx_out, mx_in, ml_0, ml_r, wh_0, wh_1, whl_o, whl_e, whl_u, whl_0, h0]
  repeat refine And.intro (by first | decide +kernel | assumption | omega | (unfold in32; omega) | (unfold in64; omega) | exact True.intro | exact Or.inl True.intro | exact Or.inr True.intro | rfl) ?_
  try first | done | assumption | omega
  intro a9 n9 ha hn
  obtain rfl : a9 = 324 := by omega
  obtain rfl : n9 = 325 := by omega
  refine k_Mo_init_45 _ _ _ _ _ _ _ _ ?_
  simp (disch := omega) only [↓w_nil, ↓w_cons, ↓w_pfR_4, ↓w_ald0, ↓w_ic, ↓w_na, true_and, and_true, true_implies, false_implies, not_true_eq_false, not_false_eq_true, Int.reduceEq, Int.reduceLT, Int.reduceLE, Int.reduceNeg, w_up1, w_up2, w_up3, w_up1, w_up2, w_up3, w_sf1, w_sf3, ml_o, wh_o, mx_out, mx_in, ml_0, ml_r, wh_0, wh_1, whl_o, whl_e, whl_u, whl_0, h0]
  repeat refine And.intro (by first | decide +kernel | assumption | omega | (unfold in32; omega) | (unfold in64; omega) | exact True.intro | exact Or.inl True.intro | exact Or.inr True.intro | rfl) ?_
  try first | done | assumption | omega
  intro a9 n9 ha hn
  obtain rfl : a9 = 325 := by omega
  obtain rfl : n9 = 326 := by omega
  refine k_Mo_init_54 _ _ _ _ _ _ _ _ ?_
  simp (disch := omega) only [↓w_nil, ↓w_cons, ↓w_pfR_5, ↓w_ald0, ↓w_ic, ↓w_na, true_and, and_true, true_implies, false_implies, not_true_eq_false, not_false_eq_true, Int.reduceEq, Int.reduceLT, Int.reduceLE, Int.reduceNeg, w_up1, w_up2, w_up3, w_up1, w_up2, w_up3, w_sf1, w_sf3, ml_o, wh_o, mx_out, mx_in, ml_0, ml_r, wh_0, wh_1, whl_o, whl_e, whl_u, whl_0, h0]
  repeat refine And.intro (by first | decide +kernel | assumption | omega | (unfold in32; omega) | (unfold in64; omega) | exact True.intro | exact Or.inl True.intro | exact Or.inr True.intro | rfl) ?_
  try first | done | assumption | omega
  intro a9 n9 ha hn
  obtain rfl : a9 = 326 := by omega
  obtain rfl : n9 = 327 := by omega
  refine k_Mo_init_61 _ _ _ _ _ _ _ _ ?_
  simp (disch := omega) only [↓w_nil, ↓w_cons, ↓w_pfR_6, ↓w_ald0, ↓w_ic, ↓w_na, true_and, and_true, true_implies, false_implies, not_true_eq_false, not_false_eq_true, Int.reduceEq, Int.reduceLT, Int.reduceLE, Int.reduceNeg, w_up1, w_up2, w_up3, w_up1, w_up2, w_up3, w_sf1, w_sf3, ml_o, wh_o, mx_out, mx_in, ml_0, ml_r, wh_0, wh_1, whl_o, whl_e, whl_u, whl_0, h0]
  repeat refine And.intro (by first | decide +kernel | assumption | omega | (unfold in32; omega) | (unfold in64; omega) | exact True.intro | exact Or.inl True.intro | exact Or.inr True.intro | rfl) ?_
  try first | done | assumption | omega
  intro a9 n9 ha hn
  obtain rfl : a9 = 327 := by omega
  obtain rfl : n9 = 328 := by omega
  refine k_Mo_init_69 _ _ _ _ _ _ _ _ ?_
  simp (disch := omega) only [↓w_nil, ↓w_cons, ↓w_pfR_8, ↓w_ald0, ↓w_ic, ↓w_na, true_and, and_true, true_implies, false_implies, not_true_eq_false, not_false_eq_true, Int.reduceEq, Int.reduceLT, Int.reduceLE, Int.reduceNeg, w_up1, w_up2, w_up3, w_up1, w_up2, w_up3, w_sf1, w_sf3, ml_o, wh_o, mx_out, mx_in, ml_0, ml_r, wh_0, wh_1, whl_o, whl_e, whl_u, whl_0, h0]
  repeat refine And.intro (by first | decide +kernel | assumption | omega | (unfold in32; omega) | (unfold in64; omega) | exact True.intro | exact Or.inl True.intro | exact Or.inr True.intro | rfl) ?_
  try first | done | assumption | omega
  intro a9 n9 ha hn
  obtain rfl : a9 = 328 := by omega
  obtain rfl : n9 = 329 := by omega
  refine k_Mo_init_77 _ _ _ _ _ _ _ _ ?_
  simp (disch := omega) only [↓w_nil, ↓w_cons, ↓w_pfR_9, ↓w_ald0, ↓w_ic, ↓w_na, true_and, and_true, true_implies, false_implies, not_true_eq_false, not_false_eq_true, Int.reduceEq, Int.reduceLT, Int.reduceLE, Int.reduceNeg, w_up1, w_up2, w_up3, w_up1, w_up2, w_up3, w_sf1, w_sf3, ml_o, wh_o, mx_out, mx_in, ml_0, ml_r, wh_0, wh_1, whl_o, whl_e, whl_u, whl_0, h0]
  repeat refine And.intro (by first | decide +kernel | assumption | omega | (unfold in32; omega) | (unfold in64; omega) | exact True.intro | exact Or.inl True.intro | exact Or.inr True.intro | rfl) ?_
  try first | done | assumption | omega
  intro a9 n9 ha hn
  obtain rfl : a9 = 329 := by omega
  obtain rfl : n9 = 330 := by omega
  refine k_Mo_init_85 _ _ _ _ _ _ _ _ ?_
  simp (disch := omega) only [↓w_nil, ↓w_cons, ↓w_pfR_10, ↓w_ald0, ↓w_ic, ↓w_na, true_and, and_true, true_implies, false_implies, not_true_eq_false, not_false_eq_true, Int.reduceEq, Int.reduceLT, Int.reduceLE, Int.reduceNeg, w_up1, w_up2, w_up3, w_up1, w_up2, w_up3, w_sf1, w_sf3, ml_o, wh_o, mx_out, mx_in, ml_0, ml_r, wh_0, wh_1, whl_o, whl_e, whl_u, whl_0, h0]
  repeat refine And.intro (by first | decide +kernel | assumption | omega | (unfold in32; omega) | (unfold in64; omega) | exact True.intro | exact Or.inl True.intro | exact Or.inr True.intro | rfl) ?_
  try first | done | assumption | omega
  intro a9 n9 ha hn
  obtain rfl : a9 = 330 := by omega
  obtain rfl : n9 = 331 := by omega
  refine k_Mo_init_93 _ _ _ _ _ _ _ _ ?_
  simp (disch := omega) only [↓w_nil, ↓w_cons, ↓w_pfR_11, ↓w_ald0, ↓w_ic, ↓w_na, true_and, and_true, true_implies, false_implies, not_true_eq_false, not_false_eq_true, Int.reduceEq, Int.reduceLT, Int.reduceLE, Int.reduceNeg, w_up1, w_up2, w_up3, w_up1, w_up2, w_up3, w_sf1, w_sf3, ml_o, wh_o, mx_out, mx_in, ml_0, ml_r, wh_0, wh_1, whl_o, whl_e, whl_u, whl_0, h0]
  repeat refine And.intro (by first | decide +kernel | assumption | omega | (unfold in32; omega) | (unfold in64; omega) | exact True.intro | exact Or.inl True.intro | exact Or.inr True.intro | rfl) ?_
  try first | done | assumption | omega
  intro a9 n9 ha hn
  obtain rfl : a9 = 331 := by omega
  obtain rfl : n9 = 332 := by omega
  refine k_Mo_init_101 _ _ _ _ _ _ _ _ ?_
  simp (disch := omega) only [↓w_nil, ↓w_cons, ↓w_pfR_12, ↓w_ald0, ↓w_ic, ↓w_na, true_and, and_true, true_implies, false_implies, not_true_eq_false, not_false_eq_true, Int.reduceEq, Int.reduceLT, Int.reduceLE, Int.reduceNeg, w_up1, w_up2, w_up3, w_up1, w_up2, w_up3, w_sf1, w_sf3, ml_o, wh_o, mx_out, mx_in, ml_0, ml_r, wh_0, wh_1, whl_o, whl_e, whl_u, whl_0, h0]
  repeat refine And.intro (by first | decide +kernel | assumption | omega | (unfold in32; omega) | (unfold in64; omega) | exact True.intro | exact Or.inl True.intro | exact Or.inr True.intro | rfl) ?_
  try first | done | assumption | omega
  intro a9 n9 ha hn
  obtain rfl : a9 = 332 := by omega
  obtain rfl : n9 = 333 := by omega
  refine k_Mo_init_109 _ _ _ _ _ _ _ _ ?_
  simp (disch := omega) only [↓w_nil, ↓w_cons, ↓w_pfR_13, ↓w_ald0, ↓w_ic, ↓w_na, true_and, and_true, true_implies, false_implies, not_true_eq_false, not_false_eq_true, Int.reduceEq, Int.reduceLT, Int.reduceLE, Int.reduceNeg, w_up1, w_up2, w_up3, w_up1, w_up2, w_up3, w_sf1, w_sf3, ml_o, wh_o, mx_out, mx_in, ml_0, ml_r, wh_0, wh_1, whl_o, whl_e, whl_u, whl_0, h0]
  repeat refine And.intro (by first | decide +kernel | assumption | omega | (unfold in32; omega) | (unfold in64; omega) | exact True.intro | exact Or.inl True.intro | exact Or.inr True.intro | rfl) ?_
  try first | done | assumption | omega
  intro a9 n9 ha hn
  obtain rfl : a9 = 333 := by omega
  obtain rfl : n9 = 334 := by omega
  refine k_Mo_init_117 _ _ _ _ _ _ _ _ ?_
  simp (disch := omega) only [↓w_nil, ↓w_cons, ↓w_pfR_14, ↓w_ald0, ↓w_ic, ↓w_na, true_and, and_true, true_implies, false_implies, not_true_eq_false, not_false_eq_true, Int.reduceEq, Int.reduceLT, Int.reduceLE, Int.reduceNeg, w_up1, w_up2, w_up3, w_up1, w_up2, w_up3, w_sf1, w_sf3, ml_o, wh_o, mx_out, mx_in, ml_0, ml_r, wh_0, wh_1, whl_o, whl_e, whl_u, whl_0, h0]
  repeat refine And.intro (by first | decide +kernel | assumption | omega | (unfold in32; omega) | (unfold in64; omega) | exact True.intro | exact Or.inl True.intro | exact Or.inr True.intro | rfl) ?_
  try first | done | assumption | omega
  intro a9 n9 ha hn
  obtain rfl : a9 = 334 := by omega
  obtain rfl : n9 = 335 := by omega
  refine k_Mo_init_125 _ _ _ _ _ _ _ _ ?_
  simp (disch := omega) only [↓w_nil, ↓w_cons, ↓w_pfR_15, ↓w_ald0, ↓w_ic, ↓w_na, true_and, and_true, true_implies, false_implies, not_true_eq_false, not_false_eq_true, Int.reduceEq, Int.reduceLT, Int.reduceLE, Int.reduceNeg, w_up1, w_up2, w_up3, w_up1, w_up2, w_up3, w_sf1, w_sf3, ml_o, wh_o, mx_out, mx_in, ml_0, ml_r, wh_0, wh_1, whl_o, whl_e, whl_u, whl_0, h0]
  repeat refine And.intro (by first | decide +kernel | assumption | omega | (unfold in32; omega) | (unfold in64; omega) | exact True.intro | exact Or.inl True.intro | exact Or.inr True.intro | rfl) ?_
  try first | done | assumption | omega
  intro a9 n9 ha hn
  obtain rfl : a9 = 335 := by omega
  obtain rfl : n9 = 336 := by omega
  refine k_Mo_init_133 _ _ _ _ _ _ _ _ ?_
  simp (disch := omega) only [↓w_nil, ↓w_cons, ↓w_pfR_16, ↓w_ald0, ↓w_ic, ↓w_na, true_and, and_true, true_implies, false_implies, not_true_eq_false, not_false_eq_true, Int.reduceEq, Int.reduceLT, Int.reduceLE, Int.reduceNeg, w_up1, w_up2, w_up3, w_up1, w_up2, w_up3, w_sf1, w_sf3, ml_o, wh_o, mx_out, mx_in, ml_0, ml_r, wh_0, wh_1, whl_o, whl_e, whl_u, whl_0, h0]
  repeat refine And.intro (by first | decide +kernel | assumption | omega | (unfold in32; omega) | (unfold in64; omega) | exact True.intro | exact Or.inl True.intro | exact Or.inr True.intro | rfl) ?_
  try first | done | assumption | omega
  intro a9 n9 ha hn
  obtain rfl : a9 = 336 := by omega
  obtain rfl : n9 = 337 := by omega
  refine k_Mo_init_141 _ _ _ _ _ _ _ _ ?_
  simp (disch := omega) only [↓w_nil, ↓w_cons, ↓w_pfR_17, ↓w_ald0, ↓w_ic, ↓w_na, true_and, and_true, true_implies, false_implies, not_true_eq_false, not_false_eq_true, Int.reduceEq, Int.reduceLT, Int.reduceLE, Int.reduceNeg, w_up1, w_up2, w_up3, w_up1, w_up2, w_up3, w_sf1, w_sf3, ml_o, wh_o, mx_out, mx_in, ml_0, ml_r, wh_0, wh_1, whl_o, whl_e, whl_u, whl_0, h0]
  repeat refine And.intro (by first | decide +kernel | assumption | omega | (unfold in32; omega) | (unfold in64; omega) | exact True.intro | exact Or.inl True.intro | exact Or.inr True.intro | rfl) ?_
  try first | done | assumption | omega
  intro a9 n9 ha hn
  obtain rfl : a9 = 337 := by omega
  obtain rfl : n9 = 338 := by omega
  refine k_Mo_init_149 _ _ _ _ _ _ _ _ ?_
  simp (disch := omega) only [↓w_nil, ↓w_cons, ↓w_pfR_20, ↓w_ald0, ↓w_ic, ↓w_na, true_and, and_true, true_implies, false_implies, not_true_eq_false, not_false_eq_true, Int.reduceEq, Int.reduceLT, Int.reduceLE, Int.reduceNeg, w_up1, w_up2, w_up3, w_up1, w_up2, w_up3, w_sf1, w_sf3, ml_o, wh_o, mx_out, mx_in, ml_0, ml_r, wh_0, wh_1, whl_o, whl_e, whl_u, whl_0, h0]
  repeat refine And.intro (by first | decide +kernel | assumption | omega | (unfold in32; omega) | (unfold in64; omega) | exact True.intro | exact Or.inl True.intro | exact Or.inr True.intro | rfl) ?_
  try first | done | assumption | omega
  intro a9 n9 ha hn
  obtain rfl : a9 = 338 := by omega
  obtain rfl : n9 = 339 := by omega
  refine k_Mo_init_157 _ _ _ _ _ _ _ _ ?_
  simp (disch := omega) only [↓w_nil, ↓w_cons, ↓w_pfR_21, ↓w_ald0, ↓w_ic, ↓w_na, true_and, and_true, true_implies, false_implies, not_true_eq_false, not_false_eq_true, Int.reduceEq, Int.reduceLT, Int.reduceLE, Int.reduceNeg, w_up1, w_up2, w_up3, w_up1, w_up2, w_up3, w_sf1, w_sf3, ml_o, wh_o, mx_out, mx_in, ml_0, ml_r, wh_0, wh_1, whl_o, whl_e, whl_u, whl_0, h0]
  repeat refine And.intro (by first | decide +kernel | assumption | omega | (unfold in32; omega) | (unfold in64; omega) | exact True.intro | exact Or.inl True.intro | exact Or.inr True.intro | rfl) ?_
  try first | done | assumption | omega
  intro a9 n9 ha hn
  obtain rfl : a9 = 339 := by omega
  obtain rfl : n9 = 340 := by omega
  refine k_Mo_init_165 _ _ _ _ _ _ _ _ ?_
  simp (disch := omega) only [↓w_nil, ↓w_cons, ↓w_pfR_22, ↓w_ald0, ↓w_ic, ↓w_na, true_and, and_true, true_implies, false_implies, not_true_eq_false, not_false_eq_true, Int.reduceEq, Int.reduceLT, Int.reduceLE, Int.reduceNeg, w_up1, w_up2, w_up3, w_up1, w_up2, w_up3, w_sf1, w_sf3, ml_o, wh_o, mx_out, mx_in, ml_0, ml_r, wh_0, wh_1, whl_o, whl_e, whl_u, whl_0, h0]
  repeat refine And.intro (by first | decide +kernel | assumption | omega | (unfold in32; omega) | (unfold in64; omega) | exact True.intro | exact Or.inl True.intro | exact Or.inr True.intro | rfl) ?_
  try first | done | assumption | omega
  intro a9 n9 ha hn
  obtain rfl : a9 = 340 := by omega
  obtain rfl : n9 = 341 := by omega
  refine k_Mo_init_174 _ _ _ _ _ _ _ _ ?_
  simp (disch := omega) only [↓w_nil, ↓w_cons, ↓w_pfR_23, ↓w_ald0, ↓w_ic, ↓w_na, true_and, and_true, true_implies, false_implies, not_true_eq_false, not_false_eq_true, Int.reduceEq, Int.reduceLT, Int.reduceLE, Int.reduceNeg, w_up1, w_up2, w_up3, w_up1, w_up2, w_up3, w_sf1, w_sf3, ml_o, wh_o, mx_out, mx_in, ml_0, ml_r, wh_0, wh_1, whl_o, whl_e, whl_u, whl_0, h0]
  repeat refine And.intro (by first | decide +kernel | assumption | omega | (unfold in32; omega) | (unfold in64; omega) | exact True.intro | exact Or.inl True.intro | exact Or.inr True.intro | rfl) ?_
  try first | done | assumption | omega
  intro a9 n9 ha hn
  obtain rfl : a9 = 341 := by omega
  obtain rfl : n9 = 342 := by omega
  refine k_Mo_init_182 _ _ _ _ _ _ _ _ ?_
  simp (disch := omega) only [↓w_nil, ↓w_cons, ↓w_pfR_24, ↓w_ald0, ↓w_ic, ↓w_na, true_and, and_true, true_implies, false_implies, not_true_eq_false, not_false_eq_true, Int.reduceEq, Int.reduceLT, Int.reduceLE, Int.reduceNeg, w_up1, w_up2, w_up3, w_up1, w_up2, w_up3, w_sf1, w_sf3, ml_o, wh_o, mx_out, mx_in, ml_0, ml_r, wh_0, wh_1, whl_o, whl_e, whl_u, whl_0, h0]
  repeat refine And.intro (by first | decide +kernel | assumption | omega | (unfold in32; omega) | (unfold in64; omega) | exact True.intro | exact Or.inl True.intro | exact Or.inr True.intro | rfl) ?_
  try first | done | assumption | omega
  intro a9 n9 ha hn
  obtain rfl : a9 = 342 := by omega
  obtain rfl : n9 = 343 := by omega
  refine k_Mo_init_190 _ _ _ _ _ _ _ _ ?_
  simp (disch := omega) only [↓w_nil, ↓w_cons, ↓w_pfR_25, ↓w_ald0, ↓w_ic, ↓w_na, true_and, and_true, true_implies, false_implies, not_true_eq_false, not_false_eq_true, Int.reduceEq, Int.reduceLT, Int.reduceLE, Int.reduceNeg, w_up1, w_up2, w_up3, w_up1, w_up2, w_up3, w_sf1, w_sf3, ml_o, wh_o, mx_out, mx_in, ml_0, ml_r, wh_0, wh_1, whl_o, whl_e, whl_u, whl_0, h0]
  repeat refine And.intro (by first | decide +kernel | assumption | omega | (unfold in32; omega) | (unfold in64; omega) | exact True.intro | exact Or.inl True.intro | exact Or.inr True.intro | rfl) ?_
  try first | done | assumption | omega
  intro a9 n9 ha hn
  obtain rfl : a9 = 343 := by omega
  obtain rfl : n9 = 344 := by omega
  refine k_Mo_init_199 _ _ _ _ _ _ _ _ ?_
  simp (disch := omega) only [↓w_nil, ↓w_cons, ↓w_pfR_26, ↓w_ald0, ↓w_ic, ↓w_na, true_and, and_true, true_implies, false_implies, not_true_eq_false, not_false_eq_true, Int.reduceEq, Int.reduceLT, Int.reduceLE, Int.reduceNeg, w_up1, w_up2, w_up3, w_up1, w_up2, w_up3, w_sf1, w_sf3, ml_o, wh_o, mx_out, mx_in, ml_0, ml_r, wh_0, wh_1, whl_o, whl_e, whl_u, whl_0, h0]
  repeat refine And.intro (by first | decide +kernel | assumption | omega | (unfold in32; omega) | (unfold in64; omega) | exact True.intro | exact Or.inl True.intro | exact Or.inr True.intro | rfl) ?_
  try first | done | assumption | omega
  intro a9 n9 ha hn
  obtain rfl : a9 = 344 := by omega
  obtain rfl : n9 = 345 := by omega
  refine k_Mo_init_207 _ _ _ _ _ _ _ _ ?_
  simp (disch := omega) only [↓w_nil, ↓w_cons, ↓w_pfR_29, ↓w_ald0, ↓w_ic, ↓w_na, true_and, and_true, true_implies, false_implies, not_true_eq_false, not_false_eq_true, Int.reduceEq, Int.reduceLT, Int.reduceLE, Int.reduceNeg, w_up1, w_up2, w_up3, w_up1, w_up2, w_up3, w_sf1, w_sf3, ml_o, wh_o, mx_out, mx_in, ml_0, ml_r, wh_0, wh_1, whl_o, whl_e, whl_u, whl_0, h0]
  repeat refine And.intro (by first | decide +kernel | assumption | omega | (unfold in32; omega) | (unfold in64; omega) | exact True.intro | exact Or.inl True.intro | exact Or.inr True.intro | rfl) ?_
  try first | done | assumption | omega
  intro a9 n9 ha hn
  obtain rfl : a9 = 345 := by omega
  obtain rfl : n9 = 346 := by omega
  refine k_Mo_init_215 _ _ _ _ _ _ _ _ ?_
  simp (disch := omega) only [↓w_nil, ↓w_cons, ↓w_pfR_30, ↓w_ald0, ↓w_ic, ↓w_na, true_and, and_true, true_implies, false_implies, not_true_eq_false, not_false_eq_true, Int.reduceEq, Int.reduceLT, Int.reduceLE, Int.reduceNeg, w_up1, w_up2, w_up3, w_up1, w_up2, w_up3, w_sf1, w_sf3, ml_o, wh_o, mx_out, mx_in, ml_0, ml_r, wh_0, wh_1, whl_o, whl_e, whl_u, whl_0, h0]
  repeat refine And.intro (by first | decide +kernel | assumption | omega | (unfold in32; omega) | (unfold in64; omega) | exact True.intro | exact Or.inl True.intro | exact Or.inr True.intro | rfl) ?_
  try first | done | assumption | omega
  intro a9 n9 ha hn
  obtain rfl : a9 = 346 := by omega
  obtain rfl : n9 = 347 := by omega
  refine k_Mo_init_222 _ _ _ _ _ _ _ _ ?_
  simp (disch := omega) only [↓w_nil, ↓w_cons, ↓w_pfR_31, ↓w_ald0, ↓w_ic, ↓w_na, true_and, and_true, true_implies, false_implies, not_true_eq_false, not_false_eq_true, Int.reduceEq, Int.reduceLT, Int.reduceLE, Int.reduceNeg, w_up1, w_up2, w_up3, w_up1, w_up2, w_up3, w_sf1, w_sf3, ml_o, wh_o, mx_out, mx_in, ml_0, ml_r, wh_0, wh_1, whl_o, whl_e, whl_u, whl_0, h0]
  repeat refine And.intro (by first | decide +kernel | assumption | omega | (unfold in32; omega) | (unfold in64; omega) | exact True.intro | exact Or.inl True.intro | exact Or.inr True.intro | rfl) ?_
  try first | done | assumption | omega
  intro a9 n9 ha hn
  obtain rfl : a9 = 347 := by omega
  obtain rfl : n9 = 348 := by omega
  refine k_Mo_init_229 _ _ _ _ _ _ _ _ ?_
  simp (disch := omega) only [↓w_nil, ↓w_cons, ↓w_pfR_32, ↓w_ald0, ↓w_gf2_4, ↓w_ic, ↓w_iast, ↓w_ist1, ↓w_fall, true_and, and_true, true_implies, false_implies, not_true_eq_false, not_false_eq_true, Int.reduceEq, Int.reduceLT, Int.reduceLE, Int.reduceNeg, w_nlI, w_nlL, w_nlR, w_up1, w_up2, w_up3, w_up1, w_up2, w_up3, w_sf1, w_sf3, ml_o, wh_o, mx_out, mx_in, ml_0, ml_r, wh_0, wh_1, whl_o, whl_e, whl_u, whl_0, h0]
  repeat refine And.intro (by first | decide +kernel | assumption | omega | (unfold in32; omega) | (unfold in64; omega) | exact True.intro | exact Or.inl True.intro | exact Or.inr True.intro | rfl) ?_
  try first | done | assumption | omega
  refine k_Mo_init_300 _ _ _ _ _ _ _ _ ?_
  simp (disch := omega) only [↓w_nil, ↓w_cons, ↓w_ild1, ↓w_ic, ↓w_icge, true_and, and_true, true_implies, false_implies, not_true_eq_false, not_false_eq_true, Int.reduceEq, Int.reduceLT, Int.reduceLE, Int.reduceNeg, w_up1, w_up2, w_up3, w_up1, w_up2, w_up3, w_sf1, w_sf3, ml_o, wh_o, mx_out, mx_in, ml_0, ml_r, wh_0, wh_1, whl_o, whl_e, whl_u, whl_0, h0]
  repeat refine And.intro (by first | decide +kernel | assumption | omega | (unfold in32; omega) | (unfold in64; omega) | exact True.intro | exact Or.inl True.intro | exact Or.inr True.intro | rfl) ?_
  try first | done | assumption | omega
  refine k_Mo_init_305 _ _ _ _ _ _ _ _ ?_
  simp (disch := omega) only [↓w_nil, ↓w_cons, ↓w_ald0, ↓w_gf2_4, ↓w_ic, ↓w_ild1, ↓w_imul, ↓w_iadd, ↓w_iast, ↓w_inc1, ↓w_goto, true_and, and_true, true_implies, false_implies, not_true_eq_false, not_false_eq_true, Int.reduceEq, Int.reduceLT, Int.reduceLE, Int.reduceNeg, w_nlI, w_nlL, w_nlR, w_up1, w_up2, w_up3, w_up1, w_up2, w_up3, w_sf1, w_sf3, ml_o, wh_o, mx_out, mx_in, ml_0, ml_r, wh_0, wh_1, whl_o, whl_e, whl_u, whl_0, h0, Int.reduceMul, Int.reduceAdd]
  repeat refine And.intro (by first | decide +kernel | assumption | omega | (unfold in32; omega) | (unfold in64; omega) | exact True.intro | exact Or.inl True.intro | exact Or.inr True.intro | rfl) ?_
  try first | done | assumption | omega
  refine k_Mo_init_300 _ _ _ _ _ _ _ _ ?_
  simp (disch := omega) only [↓w_nil, ↓w_cons, ↓w_ild1, ↓w_ic, ↓w_icge, true_and, and_true, true_implies, false_implies, not_true_eq_false, not_false_eq_true, Int.reduceEq, Int.reduceLT, Int.reduceLE, Int.reduceNeg, w_up1, w_up2, w_up3, w_up1, w_up2, w_up3, w_sf1, w_sf3, ml_o, wh_o, mx_out, mx_in, ml_0, ml_r, wh_0, wh_1, whl_o, whl_e, whl_u, whl_0, h0]
  repeat refine And.intro (by first | decide +kernel | assumption | omega | (unfold in32; omega) | (unfold in64; omega) | exact True.intro | exact Or.inl True.intro | exact Or.inr True.intro | rfl) ?_
  try first | done | assumption | omega
  refine k_Mo_init_305 _ _ _ _ _ _ _ _ ?_
  simp (disch := omega) only [↓w_nil, ↓w_cons, ↓w_ald0, ↓w_gf2_4, ↓w_ic, ↓w_ild1, ↓w_imul, ↓w_iadd, ↓w_iast, ↓w_inc1, ↓w_goto, true_and, and_true, true_implies, false_implies, not_true_eq_false, not_false_eq_true, Int.reduceEq, Int.reduceLT, Int.reduceLE, Int.reduceNeg, w_nlI, w_nlL, w_nlR, w_up1, w_up2, w_up3, w_up1, w_up2, w_up3, w_sf1, w_sf3, ml_o, wh_o, mx_out, mx_in, ml_0, ml_r, wh_0, wh_1, whl_o, whl_e, whl_u, whl_0, h0, Int.reduceMul, Int.reduceAdd]
  repeat refine And.intro (by first | decide +kernel | assumption | omega | (unfold in32; omega) | (unfold in64; omega) | exact True.intro | exact Or.inl True.intro | exact Or.inr True.intro | rfl) ?_
  try first | done | assumption | omega
  refine k_Mo_init_300 _ _ _ _ _ _ _ _ ?_
  simp (disch := omega) only [↓w_nil, ↓w_cons, ↓w_ild1, ↓w_ic, ↓w_icge, true_and, and_true, true_implies, false_implies, not_true_eq_false, not_false_eq_true, Int.reduceEq, Int.reduceLT, Int.reduceLE, Int.reduceNeg, w_up1, w_up2, w_up3, w_up1, w_up2, w_up3, w_sf1, w_sf3, ml_o, wh_o, mx_out, mx_in, ml_0, ml_r, wh_0, wh_1, whl_o, whl_e, whl_u, whl_0, h0]
  repeat refine And.intro (by first | decide +kernel | assumption | omega | (unfold in32; omega) | (unfold in64; omega) | exact True.intro | exact Or.inl True.intro | exact Or.inr True.intro | rfl) ?_
  try first | done | assumption | omega
  refine k_Mo_init_305 _ _ _ _ _ _ _ _ ?_
  simp (disch := omega) only [↓w_nil, ↓w_cons, ↓w_ald0, ↓w_gf2_4, ↓w_ic, ↓w_ild1, ↓w_imul, ↓w_iadd, ↓w_iast, ↓w_inc1, ↓w_goto, true_and, and_true, true_implies, false_implies, not_true_eq_false, not_false_eq_true, Int.reduceEq, Int.reduceLT, Int.reduceLE, Int.reduceNeg, w_nlI, w_nlL, w_nlR, w_up1, w_up2, w_up3, w_up1, w_up2, w_up3, w_sf1, w_sf3, ml_o, wh_o, mx_out, mx_in, ml_0, ml_r, wh_0, wh_1, whl_o, whl_e, whl_u, whl_0, h0, Int.reduceMul, Int.reduceAdd]
  repeat refine And.intro (by first | decide +kernel | assumption | omega | (unfold in32; omega) | (unfold in64; omega) | exact True.intro | exact Or.inl True.intro | exact Or.inr True.intro | rfl) ?_
  try first | done | assumption | omega
  refine k_Mo_init_300 _ _ _ _ _ _ _ _ ?_
  simp (disch := omega) only [↓w_nil, ↓w_cons, ↓w_ild1, ↓w_ic, ↓w_icge, true_and, and_true, true_implies, false_implies, not_true_eq_false, not_false_eq_true, Int.reduceEq, Int.reduceLT, Int.reduceLE, Int.reduceNeg, w_up1, w_up2, w_up3, w_up1, w_up2, w_up3, w_sf1, w_sf3, ml_o, wh_o, mx_out, mx_in, ml_0, ml_r, wh_0, wh_1, whl_o, whl_e, whl_u, whl_0, h0]
  repeat refine And.intro (by first | decide +kernel | assumption | omega | (unfold in32; omega) | (unfold in64; omega) | exact True.intro | exact Or.inl True.intro | exact Or.inr True.intro | rfl) ?_
  try first | done | assumption | omega
  refine k_Mo_init_305 _ _ _ _ _ _ _ _ ?_
  simp (disch := omega) only [↓w_nil, ↓w_cons, ↓w_ald0, ↓w_gf2_4, ↓w_ic, ↓w_ild1, ↓w_imul, ↓w_iadd, ↓w_iast, ↓w_inc1, ↓w_goto, true_and, and_true, true_implies, false_implies, not_true_eq_false, not_false_eq_true, Int.reduceEq, Int.reduceLT, Int.reduceLE, Int.reduceNeg, w_nlI, w_nlL, w_nlR, w_up1, w_up2, w_up3, w_up1, w_up2, w_up3, w_sf1, w_sf3, ml_o, wh_o, mx_out, mx_in, ml_0, ml_r, wh_0, wh_1, whl_o, whl_e, whl_u, whl_0, h0, Int.reduceMul, Int.reduceAdd]
  repeat refine And.intro (by first | decide +kernel | assumption | omega | (unfold in32; omega) | (unfold in64; omega) | exact True.intro | exact Or.inl True.intro | exact Or.inr True.intro | rfl) ?_
  try first | done | assumption | omega
  refine k_Mo_init_300 _ _ _ _ _ _ _ _ ?_
  simp (disch := omega) only [↓w_nil, ↓w_cons, ↓w_ild1, ↓w_ic, ↓w_icge, true_and, and_true, true_implies, false_implies, not_true_eq_false, not_false_eq_true, Int.reduceEq, Int.reduceLT, Int.reduceLE, Int.reduceNeg, w_up1, w_up2, w_up3, w_up1, w_up2, w_up3, w_sf1, w_sf3, ml_o, wh_o, mx_out, mx_in, ml_0, ml_r, wh_0, wh_1, whl_o, whl_e, whl_u, whl_0, h0]
  repeat refine And.intro (by first | decide +kernel | assumption | omega | (unfold in32; omega) | (unfold in64; omega) | exact True.intro | exact Or.inl True.intro | exact Or.inr True.intro | rfl) ?_
  try first | done | assumption | omega
  refine cw_J_vis (M' := cw_W) ?_ ?_
  · intro c c0 c1 k q0 q1
    by_cases e0 : c < 319
    · rw [hw c k c0 e0]
      simp (disch := omega) only [w_up3, w_sf3, ml_o, wh_o, mx_out, whl_u]
    · rcases (show c = 319 ∨ c = 320 ∨ c = 321 ∨ c = 322 ∨ c = 323 ∨ c = 324 ∨ c = 325 ∨ c = 326 ∨ c = 327 ∨ c = 328 ∨ c = 329 ∨ c = 330 ∨ c = 331 ∨ c = 332 ∨ c = 333 ∨ c = 334 ∨ c = 335 ∨ c = 336 ∨ c = 337 ∨ c = 338 ∨ c = 339 ∨ c = 340 ∨ c = 341 ∨ c = 342 ∨ c = 343 ∨ c = 344 ∨ c = 345 ∨ c = 346 ∨ c = 347 by omega) with rfl | rfl | rfl | rfl | rfl | rfl | rfl | rfl | rfl | rfl | rfl | rfl | rfl | rfl | rfl | rfl | rfl | rfl | rfl | rfl | rfl | rfl | rfl | rfl | rfl | rfl | rfl | rfl | rfl
      · rw [show cw_vs (Int.toNat 319) = 33 from by decide +kernel] at q1
        rcases (show k = 0 ∨ k = 1 ∨ k = 2 ∨ k = 3 ∨ k = 4 ∨ k = 5 ∨ k = 6 ∨ k = 7 ∨ k = 8 ∨ k = 9 ∨ k = 10 ∨ k = 11 ∨ k = 12 ∨ k = 13 ∨ k = 14 ∨ k = 15 ∨ k = 16 ∨ k = 17 ∨ k = 18 ∨ k = 19 ∨ k = 20 ∨ k = 21 ∨ k = 22 ∨ k = 23 ∨ k = 24 ∨ k = 25 ∨ k = 26 ∨ k = 27 ∨ k = 28 ∨ k = 29 ∨ k = 30 ∨ k = 31 ∨ k = 32 by omega) with rfl | rfl | rfl | rfl | rfl | rfl | rfl | rfl | rfl | rfl | rfl | rfl | rfl | rfl | rfl | rfl | rfl | rfl | rfl | rfl | rfl | rfl | rfl | rfl | rfl | rfl | rfl | rfl | rfl | rfl | rfl | rfl | rfl
        all_goals (simp (disch := omega) only [w_up1, w_up2, w_up3, w_sf1, w_sf3, ml_o, wh_o, mx_out, mx_in, ml_0, ml_r, wh_0, wh_1, whl_o, whl_e, whl_u, whl_0, h0]; decide +kernel)
      · simp (disch := omega) only [w_up1, w_up2, w_up3, w_sf1, w_sf3, ml_o, wh_o, mx_out, mx_in, ml_0, ml_r, wh_0, wh_1, whl_o, whl_e, whl_u, whl_0, h0]; exact W_z (by decide +kernel)
      · simp (disch := omega) only [w_up1, w_up2, w_up3, w_sf1, w_sf3, ml_o, wh_o, mx_out, mx_in, ml_0, ml_r, wh_0, wh_1, whl_o, whl_e, whl_u, whl_0, h0]; exact W_z (by decide +kernel)
      · simp (disch := omega) only [w_up1, w_up2, w_up3, w_sf1, w_sf3, ml_o, wh_o, mx_out, mx_in, ml_0, ml_r, wh_0, wh_1, whl_o, whl_e, whl_u, whl_0, h0]; exact W_z (by decide +kernel)
      · simp (disch := omega) only [w_up1, w_up2, w_up3, w_sf1, w_sf3, ml_o, wh_o, mx_out, mx_in, ml_0, ml_r, wh_0, wh_1, whl_o, whl_e, whl_u, whl_0, h0]; exact W_z (by decide +kernel)
      · rcases (show k = 4 ∨ k = 360 ∨ k = 361 ∨ k = 362 ∨ k = 363 ∨ k = 364 ∨ k = 366 ∨ k = 371 ∨ k = 373 ∨ k = 375 ∨ k = 377 ∨ k = 379 ∨ k = 381 ∨ k = 383 ∨ k = 385 ∨ (k ≠ 4 ∧ k ≠ 360 ∧ k ≠ 361 ∧ k ≠ 362 ∧ k ≠ 363 ∧ k ≠ 364 ∧ k ≠ 366 ∧ k ≠ 371 ∧ k ≠ 373 ∧ k ≠ 375 ∧ k ≠ 377 ∧ k ≠ 379 ∧ k ≠ 381 ∧ k ≠ 383 ∧ k ≠ 385) by omega) with rfl | rfl | rfl | rfl | rfl | rfl | rfl | rfl | rfl | rfl | rfl | rfl | rfl | rfl | rfl | h
        all_goals try (simp (disch := omega) only [w_up1, w_up2, w_up3, w_sf1, w_sf3, ml_o, wh_o, mx_out, mx_in, ml_0, ml_r, wh_0, wh_1, whl_o, whl_e, whl_u, whl_0, h0]; decide +kernel)
        simp (disch := omega) only [w_up1, w_up2, w_up3, w_sf1, w_sf3, ml_o, wh_o, mx_out, mx_in, ml_0, ml_r, wh_0, wh_1, whl_o, whl_e, whl_u, whl_0, h0]; exact W_324 (by omega)
      · simp (disch := omega) only [w_up1, w_up2, w_up3, w_sf1, w_sf3, ml_o, wh_o, mx_out, mx_in, ml_0, ml_r, wh_0, wh_1, whl_o, whl_e, whl_u, whl_0, h0]; exact W_z (by decide +kernel)
      · simp (disch := omega) only [w_up1, w_up2, w_up3, w_sf1, w_sf3, ml_o, wh_o, mx_out, mx_in, ml_0, ml_r, wh_0, wh_1, whl_o, whl_e, whl_u, whl_0, h0]; exact W_z (by decide +kernel)
      · simp (disch := omega) only [w_up1, w_up2, w_up3, w_sf1, w_sf3, ml_o, wh_o, mx_out, mx_in, ml_0, ml_r, wh_0, wh_1, whl_o, whl_e, whl_u, whl_0, h0]; exact W_z (by decide +kernel)
      · simp (disch := omega) only [w_up1, w_up2, w_up3, w_sf1, w_sf3, ml_o, wh_o, mx_out, mx_in, ml_0, ml_r, wh_0, wh_1, whl_o, whl_e, whl_u, whl_0, h0]; exact W_z (by decide +kernel)
      · simp (disch := omega) only [w_up1, w_up2, w_up3, w_sf1, w_sf3, ml_o, wh_o, mx_out, mx_in, ml_0, ml_r, wh_0, wh_1, whl_o, whl_e, whl_u, whl_0, h0]; exact W_z (by decide +kernel)
      · simp (disch := omega) only [w_up1, w_up2, w_up3, w_sf1, w_sf3, ml_o, wh_o, mx_out, mx_in, ml_0, ml_r, wh_0, wh_1, whl_o, whl_e, whl_u, whl_0, h0]; exact W_z (by decide +kernel)
      · simp (disch := omega) only [w_up1, w_up2, w_up3, w_sf1, w_sf3, ml_o, wh_o, mx_out, mx_in, ml_0, ml_r, wh_0, wh_1, whl_o, whl_e, whl_u, whl_0, h0]; exact W_z (by decide +kernel)
      · simp (disch := omega) only [w_up1, w_up2, w_up3, w_sf1, w_sf3, ml_o, wh_o, mx_out, mx_in, ml_0, ml_r, wh_0, wh_1, whl_o, whl_e, whl_u, whl_0, h0]; exact W_z (by decide +kernel)
      · simp (disch := omega) only [w_up1, w_up2, w_up3, w_sf1, w_sf3, ml_o, wh_o, mx_out, mx_in, ml_0, ml_r, wh_0, wh_1, whl_o, whl_e, whl_u, whl_0, h0]; exact W_z (by decide +kernel)
      · simp (disch := omega) only [w_up1, w_up2, w_up3, w_sf1, w_sf3, ml_o, wh_o, mx_out, mx_in, ml_0, ml_r, wh_0, wh_1, whl_o, whl_e, whl_u, whl_0, h0]; exact W_z (by decide +kernel)
      · simp (disch := omega) only [w_up1, w_up2, w_up3, w_sf1, w_sf3, ml_o, wh_o, mx_out, mx_in, ml_0, ml_r, wh_0, wh_1, whl_o, whl_e, whl_u, whl_0, h0]; exact W_z (by decide +kernel)
      · simp (disch := omega) only [w_up1, w_up2, w_up3, w_sf1, w_sf3, ml_o, wh_o, mx_out, mx_in, ml_0, ml_r, wh_0, wh_1, whl_o, whl_e, whl_u, whl_0, h0]; exact W_z (by decide +kernel)
      · simp (disch := omega) only [w_up1, w_up2, w_up3, w_sf1, w_sf3, ml_o, wh_o, mx_out, mx_in, ml_0, ml_r, wh_0, wh_1, whl_o, whl_e, whl_u, whl_0, h0]; exact W_z (by decide +kernel)
      · simp (disch := omega) only [w_up1, w_up2, w_up3, w_sf1, w_sf3, ml_o, wh_o, mx_out, mx_in, ml_0, ml_r, wh_0, wh_1, whl_o, whl_e, whl_u, whl_0, h0]; exact W_z (by decide +kernel)
      · simp (disch := omega) only [w_up1, w_up2, w_up3, w_sf1, w_sf3, ml_o, wh_o, mx_out, mx_in, ml_0, ml_r, wh_0, wh_1, whl_o, whl_e, whl_u, whl_0, h0]; exact W_z (by decide +kernel)
      · simp (disch := omega) only [w_up1, w_up2, w_up3, w_sf1, w_sf3, ml_o, wh_o, mx_out, mx_in, ml_0, ml_r, wh_0, wh_1, whl_o, whl_e, whl_u, whl_0, h0]; exact W_z (by decide +kernel)
      · simp (disch := omega) only [w_up1, w_up2, w_up3, w_sf1, w_sf3, ml_o, wh_o, mx_out, mx_in, ml_0, ml_r, wh_0, wh_1, whl_o, whl_e, whl_u, whl_0, h0]; exact W_z (by decide +kernel)
      · simp (disch := omega) only [w_up1, w_up2, w_up3, w_sf1, w_sf3, ml_o, wh_o, mx_out, mx_in, ml_0, ml_r, wh_0, wh_1, whl_o, whl_e, whl_u, whl_0, h0]; exact W_z (by decide +kernel)
      · simp (disch := omega) only [w_up1, w_up2, w_up3, w_sf1, w_sf3, ml_o, wh_o, mx_out, mx_in, ml_0, ml_r, wh_0, wh_1, whl_o, whl_e, whl_u, whl_0, h0]; exact W_z (by decide +kernel)
      · simp (disch := omega) only [w_up1, w_up2, w_up3, w_sf1, w_sf3, ml_o, wh_o, mx_out, mx_in, ml_0, ml_r, wh_0, wh_1, whl_o, whl_e, whl_u, whl_0, h0]; exact W_z (by decide +kernel)
      · simp (disch := omega) only [w_up1, w_up2, w_up3, w_sf1, w_sf3, ml_o, wh_o, mx_out, mx_in, ml_0, ml_r, wh_0, wh_1, whl_o, whl_e, whl_u, whl_0, h0]; exact W_z (by decide +kernel)
      · simp (disch := omega) only [w_up1, w_up2, w_up3, w_sf1, w_sf3, ml_o, wh_o, mx_out, mx_in, ml_0, ml_r, wh_0, wh_1, whl_o, whl_e, whl_u, whl_0, h0]; exact W_z (by decide +kernel)
      · simp (disch := omega) only [w_up1, w_up2, w_up3, w_sf1, w_sf3, ml_o, wh_o, mx_out, mx_in, ml_0, ml_r, wh_0, wh_1, whl_o, whl_e, whl_u, whl_0, h0]; exact W_z (by decide +kernel)
  refine k_Mo_init_342 _ _ _ _ _ _ _ _ ?_
  simp only [↓w_nil, ↓w_cons, ↓w_ald0, ↓w_ic, ↓w_lc, ↓w_cv2, true_and, and_true, true_implies, false_implies, not_true_eq_false, not_false_eq_true, Int.reduceEq, Int.reduceLT, Int.reduceLE, Int.reduceNeg, w_c80, w_c8I, w_c8L, w_c8R]
  repeat refine And.intro (by first | decide +kernel | assumption | omega | (unfold in32; omega) | (unfold in64; omega) | exact True.intro | exact Or.inl True.intro | exact Or.inr True.intro | rfl) ?_
  try first | done | assumption | omega
  refine ⟨_, p_Mo_sets (r := 6) (v := 0) W_sh (by unfold IR; omega) (by omega), ?_⟩
  rintro r9 M1 ⟨rfl, h6, f6⟩
  refine k_Mo_init_349 _ _ _ _ _ _ _ _ ?_
  simp only [↓w_nil, ↓w_cons, ↓w_ald0, ↓w_ic, ↓w_lc, ↓w_cv2, true_and, and_true, true_implies, false_implies, not_true_eq_false, not_false_eq_true, Int.reduceEq, Int.reduceLT, Int.reduceLE, Int.reduceNeg, w_c80, w_c8I, w_c8L, w_c8R, w_tl0]
  repeat refine And.intro (by first | decide +kernel | assumption | omega | (unfold in32; omega) | (unfold in64; omega) | exact True.intro | exact Or.inl True.intro | exact Or.inr True.intro | rfl) ?_
  try first | done | assumption | omega
  refine ⟨_, p_Mo_sets (r := 7) (v := 1) (W_sh.rf f6) (by unfold IR; omega) (by omega), ?_⟩
  rintro r9 M2 ⟨rfl, h7, f7⟩
  refine k_Mo_init_356 _ _ _ _ _ _ _ _ ?_
  simp only [↓w_nil, ↓w_vret, true_and, and_true, true_implies, false_implies, not_true_eq_false, not_false_eq_true, Int.reduceEq, Int.reduceLT, Int.reduceLE, Int.reduceNeg, w_tl0]
  repeat refine And.intro (by first | decide +kernel | assumption | omega | (unfold in32; omega) | (unfold in64; omega) | exact True.intro | exact Or.inl True.intro | exact Or.inr True.intro | rfl) ?_
  try first | done | assumption | omega
  try unfold cw_hide
  first | exact ⟨rfl, iv_begin f6 h6 f7 h7⟩ | exact iv_begin f6 h6 f7 h7
