/-! the constructors at their places; by program (wip/whole/genctor.py) -/
set_option maxHeartbeats 8000000 in
theorem i_Re_148 {g : cw_G} {M : cw_M} (h0 : M 148 = cw_zr 5) : cw_C g y_Re_init [.inr (.inr 148)] M 149 276 (fun q M' => q = none ∧ M' = cw_mx M 148 276) := by
  refine cw_C_vis ?_
  refine cw_C_of (L := [.inr (.inr 148)]) ok_Re_init (Nat.le_of_ble_eq_true rfl) (Nat.le_of_ble_eq_true rfl) rfl ?_
  refine cw_J_hide ?_
  refine k_Re_init_0 _ _ _ _ _ _ _ _ ?_
  simp (disch := omega) only [↓w_nil, ↓w_cons, ↓w_ald0, ↓w_oi, true_and, and_true, true_implies, false_implies, not_true_eq_false, not_false_eq_true, Int.reduceEq, Int.reduceLT, Int.reduceLE, Int.reduceNeg, w_c80, w_c8I, w_c8L, w_c8R, w_up1, w_up2, w_up3, w_up1, w_up2, w_up3, w_sf1, w_sf3, ml_o, wh_o, mx_out, mx_in, ml_0, ml_r, wh_0, wh_1, whl_o, whl_e, whl_u, whl_0, h0]
  repeat refine And.intro (by first | decide +kernel | assumption | omega | (unfold in32; omega) | (unfold in64; omega) | exact True.intro | exact Or.inl True.intro | exact Or.inr True.intro | rfl) ?_
  try first | done | assumption | omega
  refine k_Re_init_4 _ _ _ _ _ _ _ _ ?_
  simp (disch := omega) only [↓w_nil, ↓w_cons, ↓w_ald0, ↓w_new, true_and, and_true, true_implies, false_implies, not_true_eq_false, not_false_eq_true, Int.reduceEq, Int.reduceLT, Int.reduceLE, Int.reduceNeg, w_up1, w_up2, w_up3, w_up1, w_up2, w_up3, w_sf1, w_sf3, ml_o, wh_o, mx_out, mx_in, ml_0, ml_r, wh_0, wh_1, whl_o, whl_e, whl_u, whl_0, h0]
  repeat refine And.intro (by first | decide +kernel | assumption | omega | (unfold in32; omega) | (unfold in64; omega) | exact True.intro | exact Or.inl True.intro | exact Or.inr True.intro | rfl) ?_
  try first | done | assumption | omega
  intro a9 n9 ha hn
  obtain rfl : a9 = 149 := by omega
  obtain rfl : n9 = 150 := by omega
  refine k_Re_init_8 _ _ _ _ _ _ _ _ ?_
  simp (disch := omega) only [↓w_nil, ↓w_cons, ↓w_dupI, ↓w_dupR, ↓w_ci, true_and, and_true, true_implies, false_implies, not_true_eq_false, not_false_eq_true, Int.reduceEq, Int.reduceLT, Int.reduceLE, Int.reduceNeg, w_c80, w_c8I, w_c8L, w_c8R, w_up1, w_up2, w_up3, w_up1, w_up2, w_up3, w_sf1, w_sf3, ml_o, wh_o, mx_out, mx_in, ml_0, ml_r, wh_0, wh_1, whl_o, whl_e, whl_u, whl_0, h0]
  repeat refine And.intro (by first | decide +kernel | assumption | omega | (unfold in32; omega) | (unfold in64; omega) | exact True.intro | exact Or.inl True.intro | exact Or.inr True.intro | rfl) ?_
  try first | done | assumption | omega
  refine ⟨_, _, i_Wh (a := 149) rfl (by decide +kernel) (by decide +kernel) sf_eq, by omega, ?_⟩
  rintro r9 M9 ⟨rfl, rfl⟩
  refine k_Re_init_12 _ _ _ _ _ _ _ _ ?_
  simp (disch := omega) only [↓w_nil, ↓w_cons, ↓w_pfR_0, ↓w_ald0, ↓w_ic, ↓w_csg, true_and, and_true, true_implies, false_implies, not_true_eq_false, not_false_eq_true, Int.reduceEq, Int.reduceLT, Int.reduceLE, Int.reduceNeg, w_c80, w_c8I, w_c8L, w_c8R, w_up1, w_up2, w_up3, w_up1, w_up2, w_up3, w_sf1, w_sf3, ml_o, wh_o, mx_out, mx_in, ml_0, ml_r, wh_0, wh_1, whl_o, whl_e, whl_u, whl_0, h0, w_tl0]
  repeat refine And.intro (by first | decide +kernel | assumption | omega | (unfold in32; omega) | (unfold in64; omega) | exact True.intro | exact Or.inl True.intro | exact Or.inr True.intro | rfl) ?_
  try first | done | assumption | omega
  refine ⟨_, _, i_wholesI (nx := 151) (n := 7) (x := 151) (i := 7) rfl rfl (by decide +kernel) (by decide) (by decide +kernel), by omega, ?_⟩
  rintro r9 M9 ⟨rfl, rfl⟩
  refine k_Re_init_21 _ _ _ _ _ _ _ _ ?_
  simp (disch := omega) only [↓w_nil, ↓w_cons, ↓w_pfR_1, ↓w_ald0, ↓w_ic, ↓w_na, true_and, and_true, true_implies, false_implies, not_true_eq_false, not_false_eq_true, Int.reduceEq, Int.reduceLT, Int.reduceLE, Int.reduceNeg, w_up1, w_up2, w_up3, w_up1, w_up2, w_up3, w_sf1, w_sf3, ml_o, wh_o, mx_out, mx_in, ml_0, ml_r, wh_0, wh_1, whl_o, whl_e, whl_u, whl_0, h0, w_tl1]
  repeat refine And.intro (by first | decide +kernel | assumption | omega | (unfold in32; omega) | (unfold in64; omega) | exact True.intro | exact Or.inl True.intro | exact Or.inr True.intro | rfl) ?_
  try first | done | assumption | omega
  intro a9 n9 ha hn
  obtain rfl : a9 = 166 := by omega
  obtain rfl : n9 = 167 := by omega
  refine k_Re_init_29 _ _ _ _ _ _ _ _ ?_
  simp (disch := omega) only [↓w_nil, ↓w_cons, ↓w_pfR_3, ↓w_ald0, ↓w_ic, ↓w_na, true_and, and_true, true_implies, false_implies, not_true_eq_false, not_false_eq_true, Int.reduceEq, Int.reduceLT, Int.reduceLE, Int.reduceNeg, w_up1, w_up2, w_up3, w_up1, w_up2, w_up3, w_sf1, w_sf3, ml_o, wh_o, mx_out, mx_in, ml_0, ml_r, wh_0, wh_1, whl_o, whl_e, whl_u, whl_0, h0]
  repeat refine And.intro (by first | decide +kernel | assumption | omega | (unfold in32; omega) | (unfold in64; omega) | exact True.intro | exact Or.inl True.intro | exact Or.inr True.intro | rfl) ?_
  try first | done | assumption | omega
  intro a9 n9 ha hn
  obtain rfl : a9 = 167 := by omega
  obtain rfl : n9 = 168 := by omega
  refine k_Re_init_37 _ _ _ _ _ _ _ _ ?_
  simp (disch := omega) only [↓w_nil, ↓w_cons, ↓w_pfR_4, ↓w_ald0, ↓w_ic, ↓w_na, true_and, and_true, true_implies, false_implies, not_true_eq_false, not_false_eq_true, Int.reduceEq, Int.reduceLT, Int.reduceLE, Int.reduceNeg, w_up1, w_up2, w_up3, w_up1, w_up2, w_up3, w_sf1, w_sf3, ml_o, wh_o, mx_out, mx_in, ml_0, ml_r, wh_0, wh_1, whl_o, whl_e, whl_u, whl_0, h0]
  repeat refine And.intro (by first | decide +kernel | assumption | omega | (unfold in32; omega) | (unfold in64; omega) | exact True.intro | exact Or.inl True.intro | exact Or.inr True.intro | rfl) ?_
  try first | done | assumption | omega
  intro a9 n9 ha hn
  obtain rfl : a9 = 168 := by omega
  obtain rfl : n9 = 169 := by omega
  refine k_Re_init_45 _ _ _ _ _ _ _ _ ?_
  simp (disch := omega) only [↓w_nil, ↓w_cons, ↓w_pfR_5, ↓w_ald0, ↓w_ic, ↓w_na, true_and, and_true, true_implies, false_implies, not_true_eq_false, not_false_eq_true, Int.reduceEq, Int.reduceLT, Int.reduceLE, Int.reduceNeg, w_up1, w_up2, w_up3, w_up1, w_up2, w_up3, w_sf1, w_sf3, ml_o, wh_o, mx_out, mx_in, ml_0, ml_r, wh_0, wh_1, whl_o, whl_e, whl_u, whl_0, h0]
  repeat refine And.intro (by first | decide +kernel | assumption | omega | (unfold in32; omega) | (unfold in64; omega) | exact True.intro | exact Or.inl True.intro | exact Or.inr True.intro | rfl) ?_
  try first | done | assumption | omega
  intro a9 n9 ha hn
  obtain rfl : a9 = 169 := by omega
  obtain rfl : n9 = 170 := by omega
  refine k_Re_init_53 _ _ _ _ _ _ _ _ ?_
  simp (disch := omega) only [↓w_nil, ↓w_cons, ↓w_pfR_6, ↓w_ald0, ↓w_ic, ↓w_na, true_and, and_true, true_implies, false_implies, not_true_eq_false, not_false_eq_true, Int.reduceEq, Int.reduceLT, Int.reduceLE, Int.reduceNeg, w_up1, w_up2, w_up3, w_up1, w_up2, w_up3, w_sf1, w_sf3, ml_o, wh_o, mx_out, mx_in, ml_0, ml_r, wh_0, wh_1, whl_o, whl_e, whl_u, whl_0, h0]
  repeat refine And.intro (by first | decide +kernel | assumption | omega | (unfold in32; omega) | (unfold in64; omega) | exact True.intro | exact Or.inl True.intro | exact Or.inr True.intro | rfl) ?_
  try first | done | assumption | omega
  intro a9 n9 ha hn
  obtain rfl : a9 = 170 := by omega
  obtain rfl : n9 = 171 := by omega
  refine k_Re_init_61 _ _ _ _ _ _ _ _ ?_
  simp (disch := omega) only [↓w_nil, ↓w_cons, ↓w_pfR_7, ↓w_ald0, ↓w_ic, ↓w_na, true_and, and_true, true_implies, false_implies, not_true_eq_false, not_false_eq_true, Int.reduceEq, Int.reduceLT, Int.reduceLE, Int.reduceNeg, w_up1, w_up2, w_up3, w_up1, w_up2, w_up3, w_sf1, w_sf3, ml_o, wh_o, mx_out, mx_in, ml_0, ml_r, wh_0, wh_1, whl_o, whl_e, whl_u, whl_0, h0]
  repeat refine And.intro (by first | decide +kernel | assumption | omega | (unfold in32; omega) | (unfold in64; omega) | exact True.intro | exact Or.inl True.intro | exact Or.inr True.intro | rfl) ?_
  try first | done | assumption | omega
  intro a9 n9 ha hn
  obtain rfl : a9 = 171 := by omega
  obtain rfl : n9 = 172 := by omega
  refine k_Re_init_69 _ _ _ _ _ _ _ _ ?_
  simp (disch := omega) only [↓w_nil, ↓w_cons, ↓w_pfR_8, ↓w_ald0, ↓w_ic, ↓w_csg, true_and, and_true, true_implies, false_implies, not_true_eq_false, not_false_eq_true, Int.reduceEq, Int.reduceLT, Int.reduceLE, Int.reduceNeg, w_c80, w_c8I, w_c8L, w_c8R, w_up1, w_up2, w_up3, w_up1, w_up2, w_up3, w_sf1, w_sf3, ml_o, wh_o, mx_out, mx_in, ml_0, ml_r, wh_0, wh_1, whl_o, whl_e, whl_u, whl_0, h0]
  repeat refine And.intro (by first | decide +kernel | assumption | omega | (unfold in32; omega) | (unfold in64; omega) | exact True.intro | exact Or.inl True.intro | exact Or.inr True.intro | rfl) ?_
  try first | done | assumption | omega
  refine ⟨_, _, i_wholesI (nx := 172) (n := 13) (x := 172) (i := 13) rfl rfl (by decide +kernel) (by decide) (by decide +kernel), by omega, ?_⟩
  rintro r9 M9 ⟨rfl, rfl⟩
  refine k_Re_init_78 _ _ _ _ _ _ _ _ ?_
  simp (disch := omega) only [↓w_nil, ↓w_cons, ↓w_pfR_9, ↓w_ald0, ↓w_ic, ↓w_csg, true_and, and_true, true_implies, false_implies, not_true_eq_false, not_false_eq_true, Int.reduceEq, Int.reduceLT, Int.reduceLE, Int.reduceNeg, w_c80, w_c8I, w_c8L, w_c8R, w_up1, w_up2, w_up3, w_up1, w_up2, w_up3, w_sf1, w_sf3, ml_o, wh_o, mx_out, mx_in, ml_0, ml_r, wh_0, wh_1, whl_o, whl_e, whl_u, whl_0, h0, w_tl1]
  repeat refine And.intro (by first | decide +kernel | assumption | omega | (unfold in32; omega) | (unfold in64; omega) | exact True.intro | exact Or.inl True.intro | exact Or.inr True.intro | rfl) ?_
  try first | done | assumption | omega
  refine ⟨_, _, i_wholesI (nx := 199) (n := 13) (x := 199) (i := 13) rfl rfl (by decide +kernel) (by decide) (by decide +kernel), by omega, ?_⟩
  rintro r9 M9 ⟨rfl, rfl⟩
  refine k_Re_init_87 _ _ _ _ _ _ _ _ ?_
  simp (disch := omega) only [↓w_nil, ↓w_cons, ↓w_pfR_10, ↓w_ald0, ↓w_ic, ↓w_csg, true_and, and_true, true_implies, false_implies, not_true_eq_false, not_false_eq_true, Int.reduceEq, Int.reduceLT, Int.reduceLE, Int.reduceNeg, w_c80, w_c8I, w_c8L, w_c8R, w_up1, w_up2, w_up3, w_up1, w_up2, w_up3, w_sf1, w_sf3, ml_o, wh_o, mx_out, mx_in, ml_0, ml_r, wh_0, wh_1, whl_o, whl_e, whl_u, whl_0, h0, w_tl1]
  repeat refine And.intro (by first | decide +kernel | assumption | omega | (unfold in32; omega) | (unfold in64; omega) | exact True.intro | exact Or.inl True.intro | exact Or.inr True.intro | rfl) ?_
  try first | done | assumption | omega
  refine ⟨_, _, i_wholesI (nx := 226) (n := 13) (x := 226) (i := 13) rfl rfl (by decide +kernel) (by decide) (by decide +kernel), by omega, ?_⟩
  rintro r9 M9 ⟨rfl, rfl⟩
  refine k_Re_init_96 _ _ _ _ _ _ _ _ ?_
  simp (disch := omega) only [↓w_nil, ↓w_cons, ↓w_pfR_11, ↓w_ald0, ↓w_ic, ↓w_csg, true_and, and_true, true_implies, false_implies, not_true_eq_false, not_false_eq_true, Int.reduceEq, Int.reduceLT, Int.reduceLE, Int.reduceNeg, w_c80, w_c8I, w_c8L, w_c8R, w_up1, w_up2, w_up3, w_up1, w_up2, w_up3, w_sf1, w_sf3, ml_o, wh_o, mx_out, mx_in, ml_0, ml_r, wh_0, wh_1, whl_o, whl_e, whl_u, whl_0, h0, w_tl1]
  repeat refine And.intro (by first | decide +kernel | assumption | omega | (unfold in32; omega) | (unfold in64; omega) | exact True.intro | exact Or.inl True.intro | exact Or.inr True.intro | rfl) ?_
  try first | done | assumption | omega
  refine ⟨_, _, i_wholesI (nx := 253) (n := 7) (x := 253) (i := 7) rfl rfl (by decide +kernel) (by decide) (by decide +kernel), by omega, ?_⟩
  rintro r9 M9 ⟨rfl, rfl⟩
  refine k_Re_init_105 _ _ _ _ _ _ _ _ ?_
  simp (disch := omega) only [↓w_nil, ↓w_cons, ↓w_pfR_12, ↓w_ald0, ↓w_new, true_and, and_true, true_implies, false_implies, not_true_eq_false, not_false_eq_true, Int.reduceEq, Int.reduceLT, Int.reduceLE, Int.reduceNeg, w_up1, w_up2, w_up3, w_up1, w_up2, w_up3, w_sf1, w_sf3, ml_o, wh_o, mx_out, mx_in, ml_0, ml_r, wh_0, wh_1, whl_o, whl_e, whl_u, whl_0, h0, w_tl1]
  repeat refine And.intro (by first | decide +kernel | assumption | omega | (unfold in32; omega) | (unfold in64; omega) | exact True.intro | exact Or.inl True.intro | exact Or.inr True.intro | rfl) ?_
  try first | done | assumption | omega
  intro a9 n9 ha hn
  obtain rfl : a9 = 268 := by omega
  obtain rfl : n9 = 269 := by omega
  refine k_Re_init_112 _ _ _ _ _ _ _ _ ?_
  simp (disch := omega) only [↓w_nil, ↓w_cons, ↓w_dupI, ↓w_dupR, ↓w_ci, true_and, and_true, true_implies, false_implies, not_true_eq_false, not_false_eq_true, Int.reduceEq, Int.reduceLT, Int.reduceLE, Int.reduceNeg, w_c80, w_c8I, w_c8L, w_c8R, w_up1, w_up2, w_up3, w_up1, w_up2, w_up3, w_sf1, w_sf3, ml_o, wh_o, mx_out, mx_in, ml_0, ml_r, wh_0, wh_1, whl_o, whl_e, whl_u, whl_0, h0]
  repeat refine And.intro (by first | decide +kernel | assumption | omega | (unfold in32; omega) | (unfold in64; omega) | exact True.intro | exact Or.inl True.intro | exact Or.inr True.intro | rfl) ?_
  try first | done | assumption | omega
  refine ⟨_, _, i_Wh (a := 268) rfl (by decide +kernel) (by decide +kernel) sf_eq, by omega, ?_⟩
  rintro r9 M9 ⟨rfl, rfl⟩
  refine k_Re_init_116 _ _ _ _ _ _ _ _ ?_
  simp (disch := omega) only [↓w_nil, ↓w_cons, ↓w_pfR_13, ↓w_ald0, ↓w_new, true_and, and_true, true_implies, false_implies, not_true_eq_false, not_false_eq_true, Int.reduceEq, Int.reduceLT, Int.reduceLE, Int.reduceNeg, w_up1, w_up2, w_up3, w_up1, w_up2, w_up3, w_sf1, w_sf3, ml_o, wh_o, mx_out, mx_in, ml_0, ml_r, wh_0, wh_1, whl_o, whl_e, whl_u, whl_0, h0, w_tl0]
  repeat refine And.intro (by first | decide +kernel | assumption | omega | (unfold in32; omega) | (unfold in64; omega) | exact True.intro | exact Or.inl True.intro | exact Or.inr True.intro | rfl) ?_
  try first | done | assumption | omega
  intro a9 n9 ha hn
  obtain rfl : a9 = 270 := by omega
  obtain rfl : n9 = 271 := by omega
  refine k_Re_init_123 _ _ _ _ _ _ _ _ ?_
  simp (disch := omega) only [↓w_nil, ↓w_cons, ↓w_dupI, ↓w_dupR, ↓w_ci, true_and, and_true, true_implies, false_implies, not_true_eq_false, not_false_eq_true, Int.reduceEq, Int.reduceLT, Int.reduceLE, Int.reduceNeg, w_c80, w_c8I, w_c8L, w_c8R, w_up1, w_up2, w_up3, w_up1, w_up2, w_up3, w_sf1, w_sf3, ml_o, wh_o, mx_out, mx_in, ml_0, ml_r, wh_0, wh_1, whl_o, whl_e, whl_u, whl_0, h0]
  repeat refine And.intro (by first | decide +kernel | assumption | omega | (unfold in32; omega) | (unfold in64; omega) | exact True.intro | exact Or.inl True.intro | exact Or.inr True.intro | rfl) ?_
  try first | done | assumption | omega
  refine ⟨_, _, i_Wh (a := 270) rfl (by decide +kernel) (by decide +kernel) sf_eq, by omega, ?_⟩
  rintro r9 M9 ⟨rfl, rfl⟩
  refine k_Re_init_127 _ _ _ _ _ _ _ _ ?_
  simp (disch := omega) only [↓w_nil, ↓w_cons, ↓w_pfR_14, ↓w_ald0, ↓w_new, true_and, and_true, true_implies, false_implies, not_true_eq_false, not_false_eq_true, Int.reduceEq, Int.reduceLT, Int.reduceLE, Int.reduceNeg, w_up1, w_up2, w_up3, w_up1, w_up2, w_up3, w_sf1, w_sf3, ml_o, wh_o, mx_out, mx_in, ml_0, ml_r, wh_0, wh_1, whl_o, whl_e, whl_u, whl_0, h0, w_tl0]
  repeat refine And.intro (by first | decide +kernel | assumption | omega | (unfold in32; omega) | (unfold in64; omega) | exact True.intro | exact Or.inl True.intro | exact Or.inr True.intro | rfl) ?_
  try first | done | assumption | omega
  intro a9 n9 ha hn
  obtain rfl : a9 = 272 := by omega
  obtain rfl : n9 = 273 := by omega
  refine k_Re_init_134 _ _ _ _ _ _ _ _ ?_
  simp (disch := omega) only [↓w_nil, ↓w_cons, ↓w_dupI, ↓w_dupR, ↓w_ci, true_and, and_true, true_implies, false_implies, not_true_eq_false, not_false_eq_true, Int.reduceEq, Int.reduceLT, Int.reduceLE, Int.reduceNeg, w_c80, w_c8I, w_c8L, w_c8R, w_up1, w_up2, w_up3, w_up1, w_up2, w_up3, w_sf1, w_sf3, ml_o, wh_o, mx_out, mx_in, ml_0, ml_r, wh_0, wh_1, whl_o, whl_e, whl_u, whl_0, h0]
  repeat refine And.intro (by first | decide +kernel | assumption | omega | (unfold in32; omega) | (unfold in64; omega) | exact True.intro | exact Or.inl True.intro | exact Or.inr True.intro | rfl) ?_
  try first | done | assumption | omega
  refine ⟨_, _, i_Wh (a := 272) rfl (by decide +kernel) (by decide +kernel) sf_eq, by omega, ?_⟩
  rintro r9 M9 ⟨rfl, rfl⟩
  refine k_Re_init_138 _ _ _ _ _ _ _ _ ?_
  simp (disch := omega) only [↓w_nil, ↓w_cons, ↓w_pfR_15, ↓w_ald0, ↓w_new, true_and, and_true, true_implies, false_implies, not_true_eq_false, not_false_eq_true, Int.reduceEq, Int.reduceLT, Int.reduceLE, Int.reduceNeg, w_up1, w_up2, w_up3, w_up1, w_up2, w_up3, w_sf1, w_sf3, ml_o, wh_o, mx_out, mx_in, ml_0, ml_r, wh_0, wh_1, whl_o, whl_e, whl_u, whl_0, h0, w_tl0]
  repeat refine And.intro (by first | decide +kernel | assumption | omega | (unfold in32; omega) | (unfold in64; omega) | exact True.intro | exact Or.inl True.intro | exact Or.inr True.intro | rfl) ?_
  try first | done | assumption | omega
  intro a9 n9 ha hn
  obtain rfl : a9 = 274 := by omega
  obtain rfl : n9 = 275 := by omega
  refine k_Re_init_145 _ _ _ _ _ _ _ _ ?_
  simp (disch := omega) only [↓w_nil, ↓w_cons, ↓w_dupI, ↓w_dupR, ↓w_ci, true_and, and_true, true_implies, false_implies, not_true_eq_false, not_false_eq_true, Int.reduceEq, Int.reduceLT, Int.reduceLE, Int.reduceNeg, w_c80, w_c8I, w_c8L, w_c8R, w_up1, w_up2, w_up3, w_up1, w_up2, w_up3, w_sf1, w_sf3, ml_o, wh_o, mx_out, mx_in, ml_0, ml_r, wh_0, wh_1, whl_o, whl_e, whl_u, whl_0, h0]
  repeat refine And.intro (by first | decide +kernel | assumption | omega | (unfold in32; omega) | (unfold in64; omega) | exact True.intro | exact Or.inl True.intro | exact Or.inr True.intro | rfl) ?_
  try first | done | assumption | omega
  refine ⟨_, _, i_Wh (a := 274) rfl (by decide +kernel) (by decide +kernel) sf_eq, by omega, ?_⟩
  rintro r9 M9 ⟨rfl, rfl⟩
  refine k_Re_init_149 _ _ _ _ _ _ _ _ ?_
  simp (disch := omega) only [↓w_nil, ↓w_cons, ↓w_pfR_16, ↓w_vret, true_and, and_true, true_implies, false_implies, not_true_eq_false, not_false_eq_true, Int.reduceEq, Int.reduceLT, Int.reduceLE, Int.reduceNeg, w_up1, w_up2, w_up3, w_up1, w_up2, w_up3, w_sf1, w_sf3, ml_o, wh_o, mx_out, mx_in, ml_0, ml_r, wh_0, wh_1, whl_o, whl_e, whl_u, whl_0, h0, w_tl0]
  repeat refine And.intro (by first | decide +kernel | assumption | omega | (unfold in32; omega) | (unfold in64; omega) | exact True.intro | exact Or.inl True.intro | exact Or.inr True.intro | rfl) ?_
  try first | done | assumption | omega
  try unfold cw_hide
  try refine ⟨rfl, ?_⟩
  intro c c0 c1 k q0 q1
  by_cases e0 : (148 : Int) ≤ c ∧ c < 276
  · rw [mx_in e0]
    rcases (show c = 148 ∨ c = 149 ∨ c = 150 ∨ c = 151 ∨ c = 152 ∨ c = 153 ∨ c = 154 ∨ c = 155 ∨ c = 156 ∨ c = 157 ∨ c = 158 ∨ c = 159 ∨ c = 160 ∨ c = 161 ∨ c = 162 ∨ c = 163 ∨ c = 164 ∨ c = 165 ∨ c = 166 ∨ c = 167 ∨ c = 168 ∨ c = 169 ∨ c = 170 ∨ c = 171 ∨ c = 172 ∨ c = 173 ∨ c = 174 ∨ c = 175 ∨ c = 176 ∨ c = 177 ∨ c = 178 ∨ c = 179 ∨ c = 180 ∨ c = 181 ∨ c = 182 ∨ c = 183 ∨ c = 184 ∨ c = 185 ∨ c = 186 ∨ c = 187 ∨ c = 188 ∨ c = 189 ∨ c = 190 ∨ c = 191 ∨ c = 192 ∨ c = 193 ∨ c = 194 ∨ c = 195 ∨ c = 196 ∨ c = 197 ∨ c = 198 ∨ c = 199 ∨ c = 200 ∨ c = 201 ∨ c = 202 ∨ c = 203 ∨ c = 204 ∨ c = 205 ∨ c = 206 ∨ c = 207 ∨ c = 208 ∨ c = 209 ∨ c = 210 ∨ c = 211 ∨ c = 212 ∨ c = 213 ∨ c = 214 ∨ c = 215 ∨ c = 216 ∨ c = 217 ∨ c = 218 ∨ c = 219 ∨ c = 220 ∨ c = 221 ∨ c = 222 ∨ c = 223 ∨ c = 224 ∨ c = 225 ∨ c = 226 ∨ c = 227 ∨ c = 228 ∨ c = 229 ∨ c = 230 ∨ c = 231 ∨ c = 232 ∨ c = 233 ∨ c = 234 ∨ c = 235 ∨ c = 236 ∨ c = 237 ∨ c = 238 ∨ c = 239 ∨ c = 240 ∨ c = 241 ∨ c = 242 ∨ c = 243 ∨ c = 244 ∨ c = 245 ∨ c = 246 ∨ c = 247 ∨ c = 248 ∨ c = 249 ∨ c = 250 ∨ c = 251 ∨ c = 252 ∨ c = 253 ∨ c = 254 ∨ c = 255 ∨ c = 256 ∨ c = 257 ∨ c = 258 ∨ c = 259 ∨ c = 260 ∨ c = 261 ∨ c = 262 ∨ c = 263 ∨ c = 264 ∨ c = 265 ∨ c = 266 ∨ c = 267 ∨ c = 268 ∨ c = 269 ∨ c = 270 ∨ c = 271 ∨ c = 272 ∨ c = 273 ∨ c = 274 ∨ c = 275 by omega) with rfl | rfl | rfl | rfl | rfl | rfl | rfl | rfl | rfl | rfl | rfl | rfl | rfl | rfl | rfl | rfl | rfl | rfl | rfl | rfl | rfl | rfl | rfl | rfl | rfl | rfl | rfl | rfl | rfl | rfl | rfl | rfl | rfl | rfl | rfl | rfl | rfl | rfl | rfl | rfl | rfl | rfl | rfl | rfl | rfl | rfl | rfl | rfl | rfl | rfl | rfl | rfl | rfl | rfl | rfl | rfl | rfl | rfl | rfl | rfl | rfl | rfl | rfl | rfl | rfl | rfl | rfl | rfl | rfl | rfl | rfl | rfl | rfl | rfl | rfl | rfl | rfl | rfl | rfl | rfl | rfl | rfl | rfl | rfl | rfl | rfl | rfl | rfl | rfl | rfl | rfl | rfl | rfl | rfl | rfl | rfl | rfl | rfl | rfl | rfl | rfl | rfl | rfl | rfl | rfl | rfl | rfl | rfl | rfl | rfl | rfl | rfl | rfl | rfl | rfl | rfl | rfl | rfl | rfl | rfl | rfl | rfl | rfl | rfl | rfl | rfl | rfl | rfl
    · rw [show cw_vs (Int.toNat 148) = 17 from by decide +kernel] at q1
      rcases (show k = 0 ∨ k = 1 ∨ k = 2 ∨ k = 3 ∨ k = 4 ∨ k = 5 ∨ k = 6 ∨ k = 7 ∨ k = 8 ∨ k = 9 ∨ k = 10 ∨ k = 11 ∨ k = 12 ∨ k = 13 ∨ k = 14 ∨ k = 15 ∨ k = 16 by omega) with rfl | rfl | rfl | rfl | rfl | rfl | rfl | rfl | rfl | rfl | rfl | rfl | rfl | rfl | rfl | rfl | rfl
      all_goals (simp (disch := omega) only [w_up1, w_up2, w_up3, w_sf1, w_sf3, ml_o, wh_o, mx_out, mx_in, ml_0, ml_r, wh_0, wh_1, whl_o, whl_e, whl_u, whl_0, h0]; decide +kernel)
    · rw [show cw_vs (Int.toNat 149) = 3 from by decide +kernel] at q1
      rcases (show k = 0 ∨ k = 1 ∨ k = 2 by omega) with rfl | rfl | rfl
      all_goals (simp (disch := omega) only [w_up1, w_up2, w_up3, w_sf1, w_sf3, ml_o, wh_o, mx_out, mx_in, ml_0, ml_r, wh_0, wh_1, whl_o, whl_e, whl_u, whl_0, h0]; decide +kernel)
    · simp (disch := omega) only [w_up1, w_up2, w_up3, w_sf1, w_sf3, ml_o, wh_o, mx_out, mx_in, ml_0, ml_r, wh_0, wh_1, whl_o, whl_e, whl_u, whl_0, h0]; exact W_z (by decide +kernel)
    · rw [show cw_vs (Int.toNat 151) = 7 from by decide +kernel] at q1
      rcases (show k = 0 ∨ k = 1 ∨ k = 2 ∨ k = 3 ∨ k = 4 ∨ k = 5 ∨ k = 6 by omega) with rfl | rfl | rfl | rfl | rfl | rfl | rfl
      all_goals (simp (disch := omega) only [w_up1, w_up2, w_up3, w_sf1, w_sf3, ml_o, wh_o, mx_out, mx_in, ml_0, ml_r, wh_0, wh_1, whl_o, whl_e, whl_u, whl_0, h0]; decide +kernel)
    · rw [show cw_vs (Int.toNat 152) = 3 from by decide +kernel] at q1
      rcases (show k = 0 ∨ k = 1 ∨ k = 2 by omega) with rfl | rfl | rfl
      all_goals (simp (disch := omega) only [w_up1, w_up2, w_up3, w_sf1, w_sf3, ml_o, wh_o, mx_out, mx_in, ml_0, ml_r, wh_0, wh_1, whl_o, whl_e, whl_u, whl_0, h0]; decide +kernel)
    · simp (disch := omega) only [w_up1, w_up2, w_up3, w_sf1, w_sf3, ml_o, wh_o, mx_out, mx_in, ml_0, ml_r, wh_0, wh_1, whl_o, whl_e, whl_u, whl_0, h0]; exact W_z (by decide +kernel)
    · rw [show cw_vs (Int.toNat 154) = 3 from by decide +kernel] at q1
      rcases (show k = 0 ∨ k = 1 ∨ k = 2 by omega) with rfl | rfl | rfl
      all_goals (simp (disch := omega) only [w_up1, w_up2, w_up3, w_sf1, w_sf3, ml_o, wh_o, mx_out, mx_in, ml_0, ml_r, wh_0, wh_1, whl_o, whl_e, whl_u, whl_0, h0]; decide +kernel)
    · simp (disch := omega) only [w_up1, w_up2, w_up3, w_sf1, w_sf3, ml_o, wh_o, mx_out, mx_in, ml_0, ml_r, wh_0, wh_1, whl_o, whl_e, whl_u, whl_0, h0]; exact W_z (by decide +kernel)
    · rw [show cw_vs (Int.toNat 156) = 3 from by decide +kernel] at q1
      rcases (show k = 0 ∨ k = 1 ∨ k = 2 by omega) with rfl | rfl | rfl
      all_goals (simp (disch := omega) only [w_up1, w_up2, w_up3, w_sf1, w_sf3, ml_o, wh_o, mx_out, mx_in, ml_0, ml_r, wh_0, wh_1, whl_o, whl_e, whl_u, whl_0, h0]; decide +kernel)
    · simp (disch := omega) only [w_up1, w_up2, w_up3, w_sf1, w_sf3, ml_o, wh_o, mx_out, mx_in, ml_0, ml_r, wh_0, wh_1, whl_o, whl_e, whl_u, whl_0, h0]; exact W_z (by decide +kernel)
    · rw [show cw_vs (Int.toNat 158) = 3 from by decide +kernel] at q1
      rcases (show k = 0 ∨ k = 1 ∨ k = 2 by omega) with rfl | rfl | rfl
      all_goals (simp (disch := omega) only [w_up1, w_up2, w_up3, w_sf1, w_sf3, ml_o, wh_o, mx_out, mx_in, ml_0, ml_r, wh_0, wh_1, whl_o, whl_e, whl_u, whl_0, h0]; decide +kernel)
    · simp (disch := omega) only [w_up1, w_up2, w_up3, w_sf1, w_sf3, ml_o, wh_o, mx_out, mx_in, ml_0, ml_r, wh_0, wh_1, whl_o, whl_e, whl_u, whl_0, h0]; exact W_z (by decide +kernel)
    · rw [show cw_vs (Int.toNat 160) = 3 from by decide +kernel] at q1
      rcases (show k = 0 ∨ k = 1 ∨ k = 2 by omega) with rfl | rfl | rfl
      all_goals (simp (disch := omega) only [w_up1, w_up2, w_up3, w_sf1, w_sf3, ml_o, wh_o, mx_out, mx_in, ml_0, ml_r, wh_0, wh_1, whl_o, whl_e, whl_u, whl_0, h0]; decide +kernel)
    · simp (disch := omega) only [w_up1, w_up2, w_up3, w_sf1, w_sf3, ml_o, wh_o, mx_out, mx_in, ml_0, ml_r, wh_0, wh_1, whl_o, whl_e, whl_u, whl_0, h0]; exact W_z (by decide +kernel)
    · rw [show cw_vs (Int.toNat 162) = 3 from by decide +kernel] at q1
      rcases (show k = 0 ∨ k = 1 ∨ k = 2 by omega) with rfl | rfl | rfl
      all_goals (simp (disch := omega) only [w_up1, w_up2, w_up3, w_sf1, w_sf3, ml_o, wh_o, mx_out, mx_in, ml_0, ml_r, wh_0, wh_1, whl_o, whl_e, whl_u, whl_0, h0]; decide +kernel)
    · simp (disch := omega) only [w_up1, w_up2, w_up3, w_sf1, w_sf3, ml_o, wh_o, mx_out, mx_in, ml_0, ml_r, wh_0, wh_1, whl_o, whl_e, whl_u, whl_0, h0]; exact W_z (by decide +kernel)
    · rw [show cw_vs (Int.toNat 164) = 3 from by decide +kernel] at q1
      rcases (show k = 0 ∨ k = 1 ∨ k = 2 by omega) with rfl | rfl | rfl
      all_goals (simp (disch := omega) only [w_up1, w_up2, w_up3, w_sf1, w_sf3, ml_o, wh_o, mx_out, mx_in, ml_0, ml_r, wh_0, wh_1, whl_o, whl_e, whl_u, whl_0, h0]; decide +kernel)
    · simp (disch := omega) only [w_up1, w_up2, w_up3, w_sf1, w_sf3, ml_o, wh_o, mx_out, mx_in, ml_0, ml_r, wh_0, wh_1, whl_o, whl_e, whl_u, whl_0, h0]; exact W_z (by decide +kernel)
    · simp (disch := omega) only [w_up1, w_up2, w_up3, w_sf1, w_sf3, ml_o, wh_o, mx_out, mx_in, ml_0, ml_r, wh_0, wh_1, whl_o, whl_e, whl_u, whl_0, h0]; exact W_z (by decide +kernel)
    · simp (disch := omega) only [w_up1, w_up2, w_up3, w_sf1, w_sf3, ml_o, wh_o, mx_out, mx_in, ml_0, ml_r, wh_0, wh_1, whl_o, whl_e, whl_u, whl_0, h0]; exact W_z (by decide +kernel)
    · simp (disch := omega) only [w_up1, w_up2, w_up3, w_sf1, w_sf3, ml_o, wh_o, mx_out, mx_in, ml_0, ml_r, wh_0, wh_1, whl_o, whl_e, whl_u, whl_0, h0]; exact W_z (by decide +kernel)
    · simp (disch := omega) only [w_up1, w_up2, w_up3, w_sf1, w_sf3, ml_o, wh_o, mx_out, mx_in, ml_0, ml_r, wh_0, wh_1, whl_o, whl_e, whl_u, whl_0, h0]; exact W_z (by decide +kernel)
    · simp (disch := omega) only [w_up1, w_up2, w_up3, w_sf1, w_sf3, ml_o, wh_o, mx_out, mx_in, ml_0, ml_r, wh_0, wh_1, whl_o, whl_e, whl_u, whl_0, h0]; exact W_z (by decide +kernel)
    · simp (disch := omega) only [w_up1, w_up2, w_up3, w_sf1, w_sf3, ml_o, wh_o, mx_out, mx_in, ml_0, ml_r, wh_0, wh_1, whl_o, whl_e, whl_u, whl_0, h0]; exact W_z (by decide +kernel)
    · rw [show cw_vs (Int.toNat 172) = 13 from by decide +kernel] at q1
      rcases (show k = 0 ∨ k = 1 ∨ k = 2 ∨ k = 3 ∨ k = 4 ∨ k = 5 ∨ k = 6 ∨ k = 7 ∨ k = 8 ∨ k = 9 ∨ k = 10 ∨ k = 11 ∨ k = 12 by omega) with rfl | rfl | rfl | rfl | rfl | rfl | rfl | rfl | rfl | rfl | rfl | rfl | rfl
      all_goals (simp (disch := omega) only [w_up1, w_up2, w_up3, w_sf1, w_sf3, ml_o, wh_o, mx_out, mx_in, ml_0, ml_r, wh_0, wh_1, whl_o, whl_e, whl_u, whl_0, h0]; decide +kernel)
    · rw [show cw_vs (Int.toNat 173) = 3 from by decide +kernel] at q1
      rcases (show k = 0 ∨ k = 1 ∨ k = 2 by omega) with rfl | rfl | rfl
      all_goals (simp (disch := omega) only [w_up1, w_up2, w_up3, w_sf1, w_sf3, ml_o, wh_o, mx_out, mx_in, ml_0, ml_r, wh_0, wh_1, whl_o, whl_e, whl_u, whl_0, h0]; decide +kernel)
    · simp (disch := omega) only [w_up1, w_up2, w_up3, w_sf1, w_sf3, ml_o, wh_o, mx_out, mx_in, ml_0, ml_r, wh_0, wh_1, whl_o, whl_e, whl_u, whl_0, h0]; exact W_z (by decide +kernel)
    · rw [show cw_vs (Int.toNat 175) = 3 from by decide +kernel] at q1
      rcases (show k = 0 ∨ k = 1 ∨ k = 2 by omega) with rfl | rfl | rfl
      all_goals (simp (disch := omega) only [w_up1, w_up2, w_up3, w_sf1, w_sf3, ml_o, wh_o, mx_out, mx_in, ml_0, ml_r, wh_0, wh_1, whl_o, whl_e, whl_u, whl_0, h0]; decide +kernel)
    · simp (disch := omega) only [w_up1, w_up2, w_up3, w_sf1, w_sf3, ml_o, wh_o, mx_out, mx_in, ml_0, ml_r, wh_0, wh_1, whl_o, whl_e, whl_u, whl_0, h0]; exact W_z (by decide +kernel)
    · rw [show cw_vs (Int.toNat 177) = 3 from by decide +kernel] at q1
      rcases (show k = 0 ∨ k = 1 ∨ k = 2 by omega) with rfl | rfl | rfl
      all_goals (simp (disch := omega) only [w_up1, w_up2, w_up3, w_sf1, w_sf3, ml_o, wh_o, mx_out, mx_in, ml_0, ml_r, wh_0, wh_1, whl_o, whl_e, whl_u, whl_0, h0]; decide +kernel)
    · simp (disch := omega) only [w_up1, w_up2, w_up3, w_sf1, w_sf3, ml_o, wh_o, mx_out, mx_in, ml_0, ml_r, wh_0, wh_1, whl_o, whl_e, whl_u, whl_0, h0]; exact W_z (by decide +kernel)
    · rw [show cw_vs (Int.toNat 179) = 3 from by decide +kernel] at q1
      rcases (show k = 0 ∨ k = 1 ∨ k = 2 by omega) with rfl | rfl | rfl
      all_goals (simp (disch := omega) only [w_up1, w_up2, w_up3, w_sf1, w_sf3, ml_o, wh_o, mx_out, mx_in, ml_0, ml_r, wh_0, wh_1, whl_o, whl_e, whl_u, whl_0, h0]; decide +kernel)
    · simp (disch := omega) only [w_up1, w_up2, w_up3, w_sf1, w_sf3, ml_o, wh_o, mx_out, mx_in, ml_0, ml_r, wh_0, wh_1, whl_o, whl_e, whl_u, whl_0, h0]; exact W_z (by decide +kernel)
    · rw [show cw_vs (Int.toNat 181) = 3 from by decide +kernel] at q1
      rcases (show k = 0 ∨ k = 1 ∨ k = 2 by omega) with rfl | rfl | rfl
      all_goals (simp (disch := omega) only [w_up1, w_up2, w_up3, w_sf1, w_sf3, ml_o, wh_o, mx_out, mx_in, ml_0, ml_r, wh_0, wh_1, whl_o, whl_e, whl_u, whl_0, h0]; decide +kernel)
    · simp (disch := omega) only [w_up1, w_up2, w_up3, w_sf1, w_sf3, ml_o, wh_o, mx_out, mx_in, ml_0, ml_r, wh_0, wh_1, whl_o, whl_e, whl_u, whl_0, h0]; exact W_z (by decide +kernel)
    · rw [show cw_vs (Int.toNat 183) = 3 from by decide +kernel] at q1
      rcases (show k = 0 ∨ k = 1 ∨ k = 2 by omega) with rfl | rfl | rfl
      all_goals (simp (disch := omega) only [w_up1, w_up2, w_up3, w_sf1, w_sf3, ml_o, wh_o, mx_out, mx_in, ml_0, ml_r, wh_0, wh_1, whl_o, whl_e, whl_u, whl_0, h0]; decide +kernel)
    · simp (disch := omega) only [w_up1, w_up2, w_up3, w_sf1, w_sf3, ml_o, wh_o, mx_out, mx_in, ml_0, ml_r, wh_0, wh_1, whl_o, whl_e, whl_u, whl_0, h0]; exact W_z (by decide +kernel)
    · rw [show cw_vs (Int.toNat 185) = 3 from by decide +kernel] at q1
      rcases (show k = 0 ∨ k = 1 ∨ k = 2 by omega) with rfl | rfl | rfl
      all_goals (simp (disch := omega) only [w_up1, w_up2, w_up3, w_sf1, w_sf3, ml_o, wh_o, mx_out, mx_in, ml_0, ml_r, wh_0, wh_1, whl_o, whl_e, whl_u, whl_0, h0]; decide +kernel)
    · simp (disch := omega) only [w_up1, w_up2, w_up3, w_sf1, w_sf3, ml_o, wh_o, mx_out, mx_in, ml_0, ml_r, wh_0, wh_1, whl_o, whl_e, whl_u, whl_0, h0]; exact W_z (by decide +kernel)
    · rw [show cw_vs (Int.toNat 187) = 3 from by decide +kernel] at q1
      rcases (show k = 0 ∨ k = 1 ∨ k = 2 by omega) with rfl | rfl | rfl
      all_goals (simp (disch := omega) only [w_up1, w_up2, w_up3, w_sf1, w_sf3, ml_o, wh_o, mx_out, mx_in, ml_0, ml_r, wh_0, wh_1, whl_o, whl_e, whl_u, whl_0, h0]; decide +kernel)
    · simp (disch := omega) only [w_up1, w_up2, w_up3, w_sf1, w_sf3, ml_o, wh_o, mx_out, mx_in, ml_0, ml_r, wh_0, wh_1, whl_o, whl_e, whl_u, whl_0, h0]; exact W_z (by decide +kernel)
    · rw [show cw_vs (Int.toNat 189) = 3 from by decide +kernel] at q1
      rcases (show k = 0 ∨ k = 1 ∨ k = 2 by omega) with rfl | rfl | rfl
      all_goals (simp (disch := omega) only [w_up1, w_up2, w_up3, w_sf1, w_sf3, ml_o, wh_o, mx_out, mx_in, ml_0, ml_r, wh_0, wh_1, whl_o, whl_e, whl_u, whl_0, h0]; decide +kernel)
    · simp (disch := omega) only [w_up1, w_up2, w_up3, w_sf1, w_sf3, ml_o, wh_o, mx_out, mx_in, ml_0, ml_r, wh_0, wh_1, whl_o, whl_e, whl_u, whl_0, h0]; exact W_z (by decide +kernel)
    · rw [show cw_vs (Int.toNat 191) = 3 from by decide +kernel] at q1
      rcases (show k = 0 ∨ k = 1 ∨ k = 2 by omega) with rfl | rfl | rfl
      all_goals (simp (disch := omega) only [w_up1, w_up2, w_up3, w_sf1, w_sf3, ml_o, wh_o, mx_out, mx_in, ml_0, ml_r, wh_0, wh_1, whl_o, whl_e, whl_u, whl_0, h0]; decide +kernel)
    · simp (disch := omega) only [w_up1, w_up2, w_up3, w_sf1, w_sf3, ml_o, wh_o, mx_out, mx_in, ml_0, ml_r, wh_0, wh_1, whl_o, whl_e, whl_u, whl_0, h0]; exact W_z (by decide +kernel)
    · rw [show cw_vs (Int.toNat 193) = 3 from by decide +kernel] at q1
      rcases (show k = 0 ∨ k = 1 ∨ k = 2 by omega) with rfl | rfl | rfl
      all_goals (simp (disch := omega) only [w_up1, w_up2, w_up3, w_sf1, w_sf3, ml_o, wh_o, mx_out, mx_in, ml_0, ml_r, wh_0, wh_1, whl_o, whl_e, whl_u, whl_0, h0]; decide +kernel)
    · simp (disch := omega) only [w_up1, w_up2, w_up3, w_sf1, w_sf3, ml_o, wh_o, mx_out, mx_in, ml_0, ml_r, wh_0, wh_1, whl_o, whl_e, whl_u, whl_0, h0]; exact W_z (by decide +kernel)
    · rw [show cw_vs (Int.toNat 195) = 3 from by decide +kernel] at q1
      rcases (show k = 0 ∨ k = 1 ∨ k = 2 by omega) with rfl | rfl | rfl
      all_goals (simp (disch := omega) only [w_up1, w_up2, w_up3, w_sf1, w_sf3, ml_o, wh_o, mx_out, mx_in, ml_0, ml_r, wh_0, wh_1, whl_o, whl_e, whl_u, whl_0, h0]; decide +kernel)
    · simp (disch := omega) only [w_up1, w_up2, w_up3, w_sf1, w_sf3, ml_o, wh_o, mx_out, mx_in, ml_0, ml_r, wh_0, wh_1, whl_o, whl_e, whl_u, whl_0, h0]; exact W_z (by decide +kernel)
    · rw [show cw_vs (Int.toNat 197) = 3 from by decide +kernel] at q1
      rcases (show k = 0 ∨ k = 1 ∨ k = 2 by omega) with rfl | rfl | rfl
      all_goals (simp (disch := omega) only [w_up1, w_up2, w_up3, w_sf1, w_sf3, ml_o, wh_o, mx_out, mx_in, ml_0, ml_r, wh_0, wh_1, whl_o, whl_e, whl_u, whl_0, h0]; decide +kernel)
    · simp (disch := omega) only [w_up1, w_up2, w_up3, w_sf1, w_sf3, ml_o, wh_o, mx_out, mx_in, ml_0, ml_r, wh_0, wh_1, whl_o, whl_e, whl_u, whl_0, h0]; exact W_z (by decide +kernel)
    · rw [show cw_vs (Int.toNat 199) = 13 from by decide +kernel] at q1
      rcases (show k = 0 ∨ k = 1 ∨ k = 2 ∨ k = 3 ∨ k = 4 ∨ k = 5 ∨ k = 6 ∨ k = 7 ∨ k = 8 ∨ k = 9 ∨ k = 10 ∨ k = 11 ∨ k = 12 by omega) with rfl | rfl | rfl | rfl | rfl | rfl | rfl | rfl | rfl | rfl | rfl | rfl | rfl
      all_goals (simp (disch := omega) only [w_up1, w_up2, w_up3, w_sf1, w_sf3, ml_o, wh_o, mx_out, mx_in, ml_0, ml_r, wh_0, wh_1, whl_o, whl_e, whl_u, whl_0, h0]; decide +kernel)
    · rw [show cw_vs (Int.toNat 200) = 3 from by decide +kernel] at q1
      rcases (show k = 0 ∨ k = 1 ∨ k = 2 by omega) with rfl | rfl | rfl
      all_goals (simp (disch := omega) only [w_up1, w_up2, w_up3, w_sf1, w_sf3, ml_o, wh_o, mx_out, mx_in, ml_0, ml_r, wh_0, wh_1, whl_o, whl_e, whl_u, whl_0, h0]; decide +kernel)
    · simp (disch := omega) only [w_up1, w_up2, w_up3, w_sf1, w_sf3, ml_o, wh_o, mx_out, mx_in, ml_0, ml_r, wh_0, wh_1, whl_o, whl_e, whl_u, whl_0, h0]; exact W_z (by decide +kernel)
    · rw [show cw_vs (Int.toNat 202) = 3 from by decide +kernel] at q1
      rcases (show k = 0 ∨ k = 1 ∨ k = 2 by omega) with rfl | rfl | rfl
      all_goals (simp (disch := omega) only [w_up1, w_up2, w_up3, w_sf1, w_sf3, ml_o, wh_o, mx_out, mx_in, ml_0, ml_r, wh_0, wh_1, whl_o, whl_e, whl_u, whl_0, h0]; decide +kernel)
    · simp (disch := omega) only [w_up1, w_up2, w_up3, w_sf1, w_sf3, ml_o, wh_o, mx_out, mx_in, ml_0, ml_r, wh_0, wh_1, whl_o, whl_e, whl_u, whl_0, h0]; exact W_z (by decide +kernel)
    · rw [show cw_vs (Int.toNat 204) = 3 from by decide +kernel] at q1
      rcases (show k = 0 ∨ k = 1 ∨ k = 2 by omega) with rfl | rfl | rfl
      all_goals (simp (disch := omega) only [w_up1, w_up2, w_up3, w_sf1, w_sf3, ml_o, wh_o, mx_out, mx_in, ml_0, ml_r, wh_0, wh_1, whl_o, whl_e, whl_u, whl_0, h0]; decide +kernel)
    · simp (disch := omega) only [w_up1, w_up2, w_up3, w_sf1, w_sf3, ml_o, wh_o, mx_out, mx_in, ml_0, ml_r, wh_0, wh_1, whl_o, whl_e, whl_u, whl_0, h0]; exact W_z (by decide +kernel)
    · rw [show cw_vs (Int.toNat 206) = 3 from by decide +kernel] at q1
      rcases (show k = 0 ∨ k = 1 ∨ k = 2 by omega) with rfl | rfl | rfl
      all_goals (simp (disch := omega) only [w_up1, w_up2, w_up3, w_sf1, w_sf3, ml_o, wh_o, mx_out, mx_in, ml_0, ml_r, wh_0, wh_1, whl_o, whl_e, whl_u, whl_0, h0]; decide +kernel)
    · simp (disch := omega) only [w_up1, w_up2, w_up3, w_sf1, w_sf3, ml_o, wh_o, mx_out, mx_in, ml_0, ml_r, wh_0, wh_1, whl_o, whl_e, whl_u, whl_0, h0]; exact W_z (by decide +kernel)
    · rw [show cw_vs (Int.toNat 208) = 3 from by decide +kernel] at q1
      rcases (show k = 0 ∨ k = 1 ∨ k = 2 by omega) with rfl | rfl | rfl
      all_goals (simp (disch := omega) only [w_up1, w_up2, w_up3, w_sf1, w_sf3, ml_o, wh_o, mx_out, mx_in, ml_0, ml_r, wh_0, wh_1, whl_o, whl_e, whl_u, whl_0, h0]; decide +kernel)
    · simp (disch := omega) only [w_up1, w_up2, w_up3, w_sf1, w_sf3, ml_o, wh_o, mx_out, mx_in, ml_0, ml_r, wh_0, wh_1, whl_o, whl_e, whl_u, whl_0, h0]; exact W_z (by decide +kernel)
    · rw [show cw_vs (Int.toNat 210) = 3 from by decide +kernel] at q1
      rcases (show k = 0 ∨ k = 1 ∨ k = 2 by omega) with rfl | rfl | rfl
      all_goals (simp (disch := omega) only [w_up1, w_up2, w_up3, w_sf1, w_sf3, ml_o, wh_o, mx_out, mx_in, ml_0, ml_r, wh_0, wh_1, whl_o, whl_e, whl_u, whl_0, h0]; decide +kernel)
    · simp (disch := omega) only [w_up1, w_up2, w_up3, w_sf1, w_sf3, ml_o, wh_o, mx_out, mx_in, ml_0, ml_r, wh_0, wh_1, whl_o, whl_e, whl_u, whl_0, h0]; exact W_z (by decide +kernel)
    · rw [show cw_vs (Int.toNat 212) = 3 from by decide +kernel] at q1
      rcases (show k = 0 ∨ k = 1 ∨ k = 2 by omega) with rfl | rfl | rfl
      all_goals (simp (disch := omega) only [w_up1, w_up2, w_up3, w_sf1, w_sf3, ml_o, wh_o, mx_out, mx_in, ml_0, ml_r, wh_0, wh_1, whl_o, whl_e, whl_u, whl_0, h0]; decide +kernel)
    · simp (disch := omega) only [w_up1, w_up2, w_up3, w_sf1, w_sf3, ml_o, wh_o, mx_out, mx_in, ml_0, ml_r, wh_0, wh_1, whl_o, whl_e, whl_u, whl_0, h0]; exact W_z (by decide +kernel)
    · rw [show cw_vs (Int.toNat 214) = 3 from by decide +kernel] at q1
      rcases (show k = 0 ∨ k = 1 ∨ k = 2 by omega) with rfl | rfl | rfl
      all_goals (simp (disch := omega) only [w_up1, w_up2, w_up3, w_sf1, w_sf3, ml_o, wh_o, mx_out, mx_in, ml_0, ml_r, wh_0, wh_1, whl_o, whl_e, whl_u, whl_0, h0]; decide +kernel)
    · simp (disch := omega) only [w_up1, w_up2, w_up3, w_sf1, w_sf3, ml_o, wh_o, mx_out, mx_in, ml_0, ml_r, wh_0, wh_1, whl_o, whl_e, whl_u, whl_0, h0]; exact W_z (by decide +kernel)
    · rw [show cw_vs (Int.toNat 216) = 3 from by decide +kernel] at q1
      rcases (show k = 0 ∨ k = 1 ∨ k = 2 by omega) with rfl | rfl | rfl
      all_goals (simp (disch := omega) only [w_up1, w_up2, w_up3, w_sf1, w_sf3, ml_o, wh_o, mx_out, mx_in, ml_0, ml_r, wh_0, wh_1, whl_o, whl_e, whl_u, whl_0, h0]; decide +kernel)
    · simp (disch := omega) only [w_up1, w_up2, w_up3, w_sf1, w_sf3, ml_o, wh_o, mx_out, mx_in, ml_0, ml_r, wh_0, wh_1, whl_o, whl_e, whl_u, whl_0, h0]; exact W_z (by decide +kernel)
    · rw [show cw_vs (Int.toNat 218) = 3 from by decide +kernel] at q1
      rcases (show k = 0 ∨ k = 1 ∨ k = 2 by omega) with rfl | rfl | rfl
      all_goals (simp (disch := omega) only [w_up1, w_up2, w_up3, w_sf1, w_sf3, ml_o, wh_o, mx_out, mx_in, ml_0, ml_r, wh_0, wh_1, whl_o, whl_e, whl_u, whl_0, h0]; decide +kernel)
    · simp (disch := omega) only [w_up1, w_up2, w_up3, w_sf1, w_sf3, ml_o, wh_o, mx_out, mx_in, ml_0, ml_r, wh_0, wh_1, whl_o, whl_e, whl_u, whl_0, h0]; exact W_z (by decide +kernel)
    · rw [show cw_vs (Int.toNat 220) = 3 from by decide +kernel] at q1
      rcases (show k = 0 ∨ k = 1 ∨ k = 2 by omega) with rfl | rfl | rfl
      all_goals (simp (disch := omega) only [w_up1, w_up2, w_up3, w_sf1, w_sf3, ml_o, wh_o, mx_out, mx_in, ml_0, ml_r, wh_0, wh_1, whl_o, whl_e, whl_u, whl_0, h0]; decide +kernel)
    · simp (disch := omega) only [w_up1, w_up2, w_up3, w_sf1, w_sf3, ml_o, wh_o, mx_out, mx_in, ml_0, ml_r, wh_0, wh_1, whl_o, whl_e, whl_u, whl_0, h0]; exact W_z (by decide +kernel)
    · rw [show cw_vs (Int.toNat 222) = 3 from by decide +kernel] at q1
      rcases (show k = 0 ∨ k = 1 ∨ k = 2 by omega) with rfl | rfl | rfl
      all_goals (simp (disch := omega) only [w_up1, w_up2, w_up3, w_sf1, w_sf3, ml_o, wh_o, mx_out, mx_in, ml_0, ml_r, wh_0, wh_1, whl_o, whl_e, whl_u, whl_0, h0]; decide +kernel)
    · simp (disch := omega) only [w_up1, w_up2, w_up3, w_sf1, w_sf3, ml_o, wh_o, mx_out, mx_in, ml_0, ml_r, wh_0, wh_1, whl_o, whl_e, whl_u, whl_0, h0]; exact W_z (by decide +kernel)
    · rw [show cw_vs (Int.toNat 224) = 3 from by decide +kernel] at q1
      rcases (show k = 0 ∨ k = 1 ∨ k = 2 by omega) with rfl | rfl | rfl
      all_goals (simp (disch := omega) only [w_up1, w_up2, w_up3, w_sf1, w_sf3, ml_o, wh_o, mx_out, mx_in, ml_0, ml_r, wh_0, wh_1, whl_o, whl_e, whl_u, whl_0, h0]; decide +kernel)
    · simp (disch := omega) only [w_up1, w_up2, w_up3, w_sf1, w_sf3, ml_o, wh_o, mx_out, mx_in, ml_0, ml_r, wh_0, wh_1, whl_o, whl_e, whl_u, whl_0, h0]; exact W_z (by decide +kernel)
    · rw [show cw_vs (Int.toNat 226) = 13 from by decide +kernel] at q1
      rcases (show k = 0 ∨ k = 1 ∨ k = 2 ∨ k = 3 ∨ k = 4 ∨ k = 5 ∨ k = 6 ∨ k = 7 ∨ k = 8 ∨ k = 9 ∨ k = 10 ∨ k = 11 ∨ k = 12 by omega) with rfl | rfl | rfl | rfl | rfl | rfl | rfl | rfl | rfl | rfl | rfl | rfl | rfl
      all_goals (simp (disch := omega) only [w_up1, w_up2, w_up3, w_sf1, w_sf3, ml_o, wh_o, mx_out, mx_in, ml_0, ml_r, wh_0, wh_1, whl_o, whl_e, whl_u, whl_0, h0]; decide +kernel)
    · rw [show cw_vs (Int.toNat 227) = 3 from by decide +kernel] at q1
      rcases (show k = 0 ∨ k = 1 ∨ k = 2 by omega) with rfl | rfl | rfl
      all_goals (simp (disch := omega) only [w_up1, w_up2, w_up3, w_sf1, w_sf3, ml_o, wh_o, mx_out, mx_in, ml_0, ml_r, wh_0, wh_1, whl_o, whl_e, whl_u, whl_0, h0]; decide +kernel)
    · simp (disch := omega) only [w_up1, w_up2, w_up3, w_sf1, w_sf3, ml_o, wh_o, mx_out, mx_in, ml_0, ml_r, wh_0, wh_1, whl_o, whl_e, whl_u, whl_0, h0]; exact W_z (by decide +kernel)
    · rw [show cw_vs (Int.toNat 229) = 3 from by decide +kernel] at q1
      rcases (show k = 0 ∨ k = 1 ∨ k = 2 by omega) with rfl | rfl | rfl
      all_goals (simp (disch := omega) only [w_up1, w_up2, w_up3, w_sf1, w_sf3, ml_o, wh_o, mx_out, mx_in, ml_0, ml_r, wh_0, wh_1, whl_o, whl_e, whl_u, whl_0, h0]; decide +kernel)
    · simp (disch := omega) only [w_up1, w_up2, w_up3, w_sf1, w_sf3, ml_o, wh_o, mx_out, mx_in, ml_0, ml_r, wh_0, wh_1, whl_o, whl_e, whl_u, whl_0, h0]; exact W_z (by decide +kernel)
    · rw [show cw_vs (Int.toNat 231) = 3 from by decide +kernel] at q1
      rcases (show k = 0 ∨ k = 1 ∨ k = 2 by omega) with rfl | rfl | rfl
      all_goals (simp (disch := omega) only [w_up1, w_up2, w_up3, w_sf1, w_sf3, ml_o, wh_o, mx_out, mx_in, ml_0, ml_r, wh_0, wh_1, whl_o, whl_e, whl_u, whl_0, h0]; decide +kernel)
    · simp (disch := omega) only [w_up1, w_up2, w_up3, w_sf1, w_sf3, ml_o, wh_o, mx_out, mx_in, ml_0, ml_r, wh_0, wh_1, whl_o, whl_e, whl_u, whl_0, h0]; exact W_z (by decide +kernel)
    · rw [show cw_vs (Int.toNat 233) = 3 from by decide +kernel] at q1
      rcases (show k = 0 ∨ k = 1 ∨ k = 2 by omega) with rfl | rfl | rfl
      all_goals (simp (disch := omega) only [w_up1, w_up2, w_up3, w_sf1, w_sf3, ml_o, wh_o, mx_out, mx_in, ml_0, ml_r, wh_0, wh_1, whl_o, whl_e, whl_u, whl_0, h0]; decide +kernel)
    · simp (disch := omega) only [w_up1, w_up2, w_up3, w_sf1, w_sf3, ml_o, wh_o, mx_out, mx_in, ml_0, ml_r, wh_0, wh_1, whl_o, whl_e, whl_u, whl_0, h0]; exact W_z (by decide +kernel)
    · rw [show cw_vs (Int.toNat 235) = 3 from by decide +kernel] at q1
      rcases (show k = 0 ∨ k = 1 ∨ k = 2 by omega) with rfl | rfl | rfl
      all_goals (simp (disch := omega) only [w_up1, w_up2, w_up3, w_sf1, w_sf3, ml_o, wh_o, mx_out, mx_in, ml_0, ml_r, wh_0, wh_1, whl_o, whl_e, whl_u, whl_0, h0]; decide +kernel)
    · simp (disch := omega) only [w_up1, w_up2, w_up3, w_sf1, w_sf3, ml_o, wh_o, mx_out, mx_in, ml_0, ml_r, wh_0, wh_1, whl_o, whl_e, whl_u, whl_0, h0]; exact W_z (by decide +kernel)
    · rw [show cw_vs (Int.toNat 237) = 3 from by decide +kernel] at q1
      rcases (show k = 0 ∨ k = 1 ∨ k = 2 by omega) with rfl | rfl | rfl
      all_goals (simp (disch := omega) only [w_up1, w_up2, w_up3, w_sf1, w_sf3, ml_o, wh_o, mx_out, mx_in, ml_0, ml_r, wh_0, wh_1, whl_o, whl_e, whl_u, whl_0, h0]; decide +kernel)
    · simp (disch := omega) only [w_up1, w_up2, w_up3, w_sf1, w_sf3, ml_o, wh_o, mx_out, mx_in, ml_0, ml_r, wh_0, wh_1, whl_o, whl_e, whl_u, whl_0, h0]; exact W_z (by decide +kernel)
    · rw [show cw_vs (Int.toNat 239) = 3 from by decide +kernel] at q1
      rcases (show k = 0 ∨ k = 1 ∨ k = 2 by omega) with rfl | rfl | rfl
      all_goals (simp (disch := omega) only [w_up1, w_up2, w_up3, w_sf1, w_sf3, ml_o, wh_o, mx_out, mx_in, ml_0, ml_r, wh_0, wh_1, whl_o, whl_e, whl_u, whl_0, h0]; decide +kernel)
    · simp (disch := omega) only [w_up1, w_up2, w_up3, w_sf1, w_sf3, ml_o, wh_o, mx_out, mx_in, ml_0, ml_r, wh_0, wh_1, whl_o, whl_e, whl_u, whl_0, h0]; exact W_z (by decide +kernel)
    · rw [show cw_vs (Int.toNat 241) = 3 from by decide +kernel] at q1
      rcases (show k = 0 ∨ k = 1 ∨ k = 2 by omega) with rfl | rfl | rfl
      all_goals (simp (disch := omega) only [w_up1, w_up2, w_up3, w_sf1, w_sf3, ml_o, wh_o, mx_out, mx_in, ml_0, ml_r, wh_0, wh_1, whl_o, whl_e, whl_u, whl_0, h0]; decide +kernel)
    · simp (disch := omega) only [w_up1, w_up2, w_up3, w_sf1, w_sf3, ml_o, wh_o, mx_out, mx_in, ml_0, ml_r, wh_0, wh_1, whl_o, whl_e, whl_u, whl_0, h0]; exact W_z (by decide +kernel)
    · rw [show cw_vs (Int.toNat 243) = 3 from by decide +kernel] at q1
      rcases (show k = 0 ∨ k = 1 ∨ k = 2 by omega) with rfl | rfl | rfl
      all_goals (simp (disch := omega) only [w_up1, w_up2, w_up3, w_sf1, w_sf3, ml_o, wh_o, mx_out, mx_in, ml_0, ml_r, wh_0, wh_1, whl_o, whl_e, whl_u, whl_0, h0]; decide +kernel)
    · simp (disch := omega) only [w_up1, w_up2, w_up3, w_sf1, w_sf3, ml_o, wh_o, mx_out, mx_in, ml_0, ml_r, wh_0, wh_1, whl_o, whl_e, whl_u, whl_0, h0]; exact W_z (by decide +kernel)
    · rw [show cw_vs (Int.toNat 245) = 3 from by decide +kernel] at q1
      rcases (show k = 0 ∨ k = 1 ∨ k = 2 by omega) with rfl | rfl | rfl
      all_goals (simp (disch := omega) only [w_up1, w_up2, w_up3, w_sf1, w_sf3, ml_o, wh_o, mx_out, mx_in, ml_0, ml_r, wh_0, wh_1, whl_o, whl_e, whl_u, whl_0, h0]; decide +kernel)
    · simp (disch := omega) only [w_up1, w_up2, w_up3, w_sf1, w_sf3, ml_o, wh_o, mx_out, mx_in, ml_0, ml_r, wh_0, wh_1, whl_o, whl_e, whl_u, whl_0, h0]; exact W_z (by decide +kernel)
    · rw [show cw_vs (Int.toNat 247) = 3 from by decide +kernel] at q1
      rcases (show k = 0 ∨ k = 1 ∨ k = 2 by omega) with rfl | rfl | rfl
      all_goals (simp (disch := omega) only [w_up1, w_up2, w_up3, w_sf1, w_sf3, ml_o, wh_o, mx_out, mx_in, ml_0, ml_r, wh_0, wh_1, whl_o, whl_e, whl_u, whl_0, h0]; decide +kernel)
    · simp (disch := omega) only [w_up1, w_up2, w_up3, w_sf1, w_sf3, ml_o, wh_o, mx_out, mx_in, ml_0, ml_r, wh_0, wh_1, whl_o, whl_e, whl_u, whl_0, h0]; exact W_z (by decide +kernel)
    · rw [show cw_vs (Int.toNat 249) = 3 from by decide +kernel] at q1
      rcases (show k = 0 ∨ k = 1 ∨ k = 2 by omega) with rfl | rfl | rfl
      all_goals (simp (disch := omega) only [w_up1, w_up2, w_up3, w_sf1, w_sf3, ml_o, wh_o, mx_out, mx_in, ml_0, ml_r, wh_0, wh_1, whl_o, whl_e, whl_u, whl_0, h0]; decide +kernel)
    · simp (disch := omega) only [w_up1, w_up2, w_up3, w_sf1, w_sf3, ml_o, wh_o, mx_out, mx_in, ml_0, ml_r, wh_0, wh_1, whl_o, whl_e, whl_u, whl_0, h0]; exact W_z (by decide +kernel)
    · rw [show cw_vs (Int.toNat 251) = 3 from by decide +kernel] at q1
      rcases (show k = 0 ∨ k = 1 ∨ k = 2 by omega) with rfl | rfl | rfl
      all_goals (simp (disch := omega) only [w_up1, w_up2, w_up3, w_sf1, w_sf3, ml_o, wh_o, mx_out, mx_in, ml_0, ml_r, wh_0, wh_1, whl_o, whl_e, whl_u, whl_0, h0]; decide +kernel)
    · simp (disch := omega) only [w_up1, w_up2, w_up3, w_sf1, w_sf3, ml_o, wh_o, mx_out, mx_in, ml_0, ml_r, wh_0, wh_1, whl_o, whl_e, whl_u, whl_0, h0]; exact W_z (by decide +kernel)
    · rw [show cw_vs (Int.toNat 253) = 7 from by decide +kernel] at q1
      rcases (show k = 0 ∨ k = 1 ∨ k = 2 ∨ k = 3 ∨ k = 4 ∨ k = 5 ∨ k = 6 by omega) with rfl | rfl | rfl | rfl | rfl | rfl | rfl
      all_goals (simp (disch := omega) only [w_up1, w_up2, w_up3, w_sf1, w_sf3, ml_o, wh_o, mx_out, mx_in, ml_0, ml_r, wh_0, wh_1, whl_o, whl_e, whl_u, whl_0, h0]; decide +kernel)
    · rw [show cw_vs (Int.toNat 254) = 3 from by decide +kernel] at q1
      rcases (show k = 0 ∨ k = 1 ∨ k = 2 by omega) with rfl | rfl | rfl
      all_goals (simp (disch := omega) only [w_up1, w_up2, w_up3, w_sf1, w_sf3, ml_o, wh_o, mx_out, mx_in, ml_0, ml_r, wh_0, wh_1, whl_o, whl_e, whl_u, whl_0, h0]; decide +kernel)
    · simp (disch := omega) only [w_up1, w_up2, w_up3, w_sf1, w_sf3, ml_o, wh_o, mx_out, mx_in, ml_0, ml_r, wh_0, wh_1, whl_o, whl_e, whl_u, whl_0, h0]; exact W_z (by decide +kernel)
    · rw [show cw_vs (Int.toNat 256) = 3 from by decide +kernel] at q1
      rcases (show k = 0 ∨ k = 1 ∨ k = 2 by omega) with rfl | rfl | rfl
      all_goals (simp (disch := omega) only [w_up1, w_up2, w_up3, w_sf1, w_sf3, ml_o, wh_o, mx_out, mx_in, ml_0, ml_r, wh_0, wh_1, whl_o, whl_e, whl_u, whl_0, h0]; decide +kernel)
    · simp (disch := omega) only [w_up1, w_up2, w_up3, w_sf1, w_sf3, ml_o, wh_o, mx_out, mx_in, ml_0, ml_r, wh_0, wh_1, whl_o, whl_e, whl_u, whl_0, h0]; exact W_z (by decide +kernel)
    · rw [show cw_vs (Int.toNat 258) = 3 from by decide +kernel] at q1
      rcases (show k = 0 ∨ k = 1 ∨ k = 2 by omega) with rfl | rfl | rfl
      all_goals (simp (disch := omega) only [w_up1, w_up2, w_up3, w_sf1, w_sf3, ml_o, wh_o, mx_out, mx_in, ml_0, ml_r, wh_0, wh_1, whl_o, whl_e, whl_u, whl_0, h0]; decide +kernel)
    · simp (disch := omega) only [w_up1, w_up2, w_up3, w_sf1, w_sf3, ml_o, wh_o, mx_out, mx_in, ml_0, ml_r, wh_0, wh_1, whl_o, whl_e, whl_u, whl_0, h0]; exact W_z (by decide +kernel)
    · rw [show cw_vs (Int.toNat 260) = 3 from by decide +kernel] at q1
      rcases (show k = 0 ∨ k = 1 ∨ k = 2 by omega) with rfl | rfl | rfl
      all_goals (simp (disch := omega) only [w_up1, w_up2, w_up3, w_sf1, w_sf3, ml_o, wh_o, mx_out, mx_in, ml_0, ml_r, wh_0, wh_1, whl_o, whl_e, whl_u, whl_0, h0]; decide +kernel)
    · simp (disch := omega) only [w_up1, w_up2, w_up3, w_sf1, w_sf3, ml_o, wh_o, mx_out, mx_in, ml_0, ml_r, wh_0, wh_1, whl_o, whl_e, whl_u, whl_0, h0]; exact W_z (by decide +kernel)
    · rw [show cw_vs (Int.toNat 262) = 3 from by decide +kernel] at q1
      rcases (show k = 0 ∨ k = 1 ∨ k = 2 by omega) with rfl | rfl | rfl
      all_goals (simp (disch := omega) only [w_up1, w_up2, w_up3, w_sf1, w_sf3, ml_o, wh_o, mx_out, mx_in, ml_0, ml_r, wh_0, wh_1, whl_o, whl_e, whl_u, whl_0, h0]; decide +kernel)
    · simp (disch := omega) only [w_up1, w_up2, w_up3, w_sf1, w_sf3, ml_o, wh_o, mx_out, mx_in, ml_0, ml_r, wh_0, wh_1, whl_o, whl_e, whl_u, whl_0, h0]; exact W_z (by decide +kernel)
    · rw [show cw_vs (Int.toNat 264) = 3 from by decide +kernel] at q1
      rcases (show k = 0 ∨ k = 1 ∨ k = 2 by omega) with rfl | rfl | rfl
      all_goals (simp (disch := omega) only [w_up1, w_up2, w_up3, w_sf1, w_sf3, ml_o, wh_o, mx_out, mx_in, ml_0, ml_r, wh_0, wh_1, whl_o, whl_e, whl_u, whl_0, h0]; decide +kernel)
    · simp (disch := omega) only [w_up1, w_up2, w_up3, w_sf1, w_sf3, ml_o, wh_o, mx_out, mx_in, ml_0, ml_r, wh_0, wh_1, whl_o, whl_e, whl_u, whl_0, h0]; exact W_z (by decide +kernel)
    · rw [show cw_vs (Int.toNat 266) = 3 from by decide +kernel] at q1
      rcases (show k = 0 ∨ k = 1 ∨ k = 2 by omega) with rfl | rfl | rfl
      all_goals (simp (disch := omega) only [w_up1, w_up2, w_up3, w_sf1, w_sf3, ml_o, wh_o, mx_out, mx_in, ml_0, ml_r, wh_0, wh_1, whl_o, whl_e, whl_u, whl_0, h0]; decide +kernel)
    · simp (disch := omega) only [w_up1, w_up2, w_up3, w_sf1, w_sf3, ml_o, wh_o, mx_out, mx_in, ml_0, ml_r, wh_0, wh_1, whl_o, whl_e, whl_u, whl_0, h0]; exact W_z (by decide +kernel)
    · rw [show cw_vs (Int.toNat 268) = 3 from by decide +kernel] at q1
      rcases (show k = 0 ∨ k = 1 ∨ k = 2 by omega) with rfl | rfl | rfl
      all_goals (simp (disch := omega) only [w_up1, w_up2, w_up3, w_sf1, w_sf3, ml_o, wh_o, mx_out, mx_in, ml_0, ml_r, wh_0, wh_1, whl_o, whl_e, whl_u, whl_0, h0]; decide +kernel)
    · simp (disch := omega) only [w_up1, w_up2, w_up3, w_sf1, w_sf3, ml_o, wh_o, mx_out, mx_in, ml_0, ml_r, wh_0, wh_1, whl_o, whl_e, whl_u, whl_0, h0]; exact W_z (by decide +kernel)
    · rw [show cw_vs (Int.toNat 270) = 3 from by decide +kernel] at q1
      rcases (show k = 0 ∨ k = 1 ∨ k = 2 by omega) with rfl | rfl | rfl
      all_goals (simp (disch := omega) only [w_up1, w_up2, w_up3, w_sf1, w_sf3, ml_o, wh_o, mx_out, mx_in, ml_0, ml_r, wh_0, wh_1, whl_o, whl_e, whl_u, whl_0, h0]; decide +kernel)
    · simp (disch := omega) only [w_up1, w_up2, w_up3, w_sf1, w_sf3, ml_o, wh_o, mx_out, mx_in, ml_0, ml_r, wh_0, wh_1, whl_o, whl_e, whl_u, whl_0, h0]; exact W_z (by decide +kernel)
    · rw [show cw_vs (Int.toNat 272) = 3 from by decide +kernel] at q1
      rcases (show k = 0 ∨ k = 1 ∨ k = 2 by omega) with rfl | rfl | rfl
      all_goals (simp (disch := omega) only [w_up1, w_up2, w_up3, w_sf1, w_sf3, ml_o, wh_o, mx_out, mx_in, ml_0, ml_r, wh_0, wh_1, whl_o, whl_e, whl_u, whl_0, h0]; decide +kernel)
    · simp (disch := omega) only [w_up1, w_up2, w_up3, w_sf1, w_sf3, ml_o, wh_o, mx_out, mx_in, ml_0, ml_r, wh_0, wh_1, whl_o, whl_e, whl_u, whl_0, h0]; exact W_z (by decide +kernel)
    · rw [show cw_vs (Int.toNat 274) = 3 from by decide +kernel] at q1
      rcases (show k = 0 ∨ k = 1 ∨ k = 2 by omega) with rfl | rfl | rfl
      all_goals (simp (disch := omega) only [w_up1, w_up2, w_up3, w_sf1, w_sf3, ml_o, wh_o, mx_out, mx_in, ml_0, ml_r, wh_0, wh_1, whl_o, whl_e, whl_u, whl_0, h0]; decide +kernel)
    · simp (disch := omega) only [w_up1, w_up2, w_up3, w_sf1, w_sf3, ml_o, wh_o, mx_out, mx_in, ml_0, ml_r, wh_0, wh_1, whl_o, whl_e, whl_u, whl_0, h0]; exact W_z (by decide +kernel)
  · rw [mx_out e0]
    simp (disch := omega) only [w_up3, w_sf3, ml_o, wh_o, mx_out, whl_u]
