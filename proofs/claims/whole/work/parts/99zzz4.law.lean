/-! the law: the loop, and the whole of it; by program (wip/whole/genlaw.py) -/
set_option maxHeartbeats 8000000 in
theorem la_step {g : cw_G} {n : Int} {M : cw_M} {Q : Option cw_V → cw_M → Prop} (hi : IV n M) (n0 : 0 ≤ n) (hl : 6 * n + 6 ≤ cw_xL g) (hx : cw_xL g ≤ 3072) (ih : ∀ M', IV (n + 1) M' → cw_J g y_La_law 0 cw_NX cw_NX 1515 [.inr (.inr (-5)), .inr (.inr 0), .inr (.inr 319), .inl (6 * n)] [] M' Q) : cw_J g y_La_law 0 cw_NX cw_NX 27 [.inr (.inr (-5)), .inr (.inr 0), .inr (.inr 319), .inl (6 * n)] [] M Q := by
  have s0 := and63 (cw_sx g (6 * n))
  refine k_La_law_27 _ _ _ _ _ _ _ _ ?_
  simp only [↓w_nil, ↓w_cons, ↓w_ald0, ↓w_ild3, ↓w_sald, ↓w_ic, ↓w_iand, ↓w_sw, true_and, and_true, true_implies, false_implies, not_true_eq_false, not_false_eq_true, Int.reduceEq, Int.reduceLT, Int.reduceLE, Int.reduceNeg]
  repeat refine And.intro (by first | assumption | omega | exact sx32 _ | (unfold in32; omega) | (unfold in64; omega) | exact True.intro | exact Or.inl True.intro | exact Or.inr True.intro | exact Or.inr rfl | rfl | exact Nat.le_of_ble_eq_true rfl | decide +kernel) ?_
  try first | done | assumption
  refine ⟨fun _ => ih _ hi.mo, ?_⟩
  intro i t ht hx9
  have h45 : i < 45 := (List.getElem?_eq_some_iff.mp ht).1
  rcases (show i = 0 ∨ i = 1 ∨ i = 2 ∨ i = 3 ∨ i = 4 ∨ i = 5 ∨ i = 6 ∨ i = 7 ∨ i = 8 ∨ i = 9 ∨ i = 10 ∨ i = 11 ∨ i = 12 ∨ i = 13 ∨ i = 14 ∨ i = 15 ∨ i = 16 ∨ i = 17 ∨ i = 18 ∨ i = 19 ∨ i = 20 ∨ i = 21 ∨ i = 22 ∨ i = 23 ∨ i = 24 ∨ i = 25 ∨ i = 26 ∨ i = 27 ∨ i = 28 ∨ i = 29 ∨ i = 30 ∨ i = 31 ∨ i = 32 ∨ i = 33 ∨ i = 34 ∨ i = 35 ∨ i = 36 ∨ i = 37 ∨ i = 38 ∨ i = 39 ∨ i = 40 ∨ i = 41 ∨ i = 42 ∨ i = 43 ∨ i = 44 by omega) with rfl | rfl | rfl | rfl | rfl | rfl | rfl | rfl | rfl | rfl | rfl | rfl | rfl | rfl | rfl | rfl | rfl | rfl | rfl | rfl | rfl | rfl | rfl | rfl | rfl | rfl | rfl | rfl | rfl | rfl | rfl | rfl | rfl | rfl | rfl | rfl | rfl | rfl | rfl | rfl | rfl | rfl | rfl | rfl | rfl
  · have e : some 228 = some t := ht
    cases e
    exact la_0 hi n0 hl hx ih
  · have e : some 291 = some t := ht
    cases e
    exact la_1 hi n0 hl hx ih
  · have e : some 304 = some t := ht
    cases e
    exact la_2 hi n0 hl hx ih
  · have e : some 347 = some t := ht
    cases e
    exact la_3 hi n0 hl hx ih
  · have e : some 380 = some t := ht
    cases e
    exact la_4 hi n0 hl hx ih
  · have e : some 423 = some t := ht
    cases e
    exact la_5 hi n0 hl hx ih
  · have e : some 456 = some t := ht
    cases e
    exact la_6 hi n0 hl hx ih
  · have e : some 479 = some t := ht
    cases e
    exact la_7 hi n0 hl hx ih
  · have e : some 502 = some t := ht
    cases e
    exact la_8 hi n0 hl hx ih
  · have e : some 525 = some t := ht
    cases e
    exact la_9 hi n0 hl hx ih
  · have e : some 538 = some t := ht
    cases e
    exact la_10 hi n0 hl hx ih
  · have e : some 551 = some t := ht
    cases e
    exact la_11 hi n0 hl hx ih
  · have e : some 574 = some t := ht
    cases e
    exact la_12 hi n0 hl hx ih
  · have e : some 597 = some t := ht
    cases e
    exact la_13 hi n0 hl hx ih
  · have e : some 620 = some t := ht
    cases e
    exact la_14 hi n0 hl hx ih
  · have e : some 643 = some t := ht
    cases e
    exact la_15 hi n0 hl hx ih
  · have e : some 676 = some t := ht
    cases e
    exact la_16 hi n0 hl hx ih
  · have e : some 689 = some t := ht
    cases e
    exact la_17 hi n0 hl hx ih
  · have e : some 712 = some t := ht
    cases e
    exact la_18 hi n0 hl hx ih
  · have e : some 735 = some t := ht
    cases e
    exact la_19 hi n0 hl hx ih
  · have e : some 758 = some t := ht
    cases e
    exact la_20 hi n0 hl hx ih
  · have e : some 791 = some t := ht
    cases e
    exact la_21 hi n0 hl hx ih
  · have e : some 805 = some t := ht
    cases e
    exact la_22 hi n0 hl hx ih
  · have e : some 878 = some t := ht
    cases e
    exact la_23 hi n0 hl hx ih
  · have e : some 891 = some t := ht
    cases e
    exact la_24 hi n0 hl hx ih
  · have e : some 904 = some t := ht
    cases e
    exact la_25 hi n0 hl hx ih
  · have e : some 957 = some t := ht
    cases e
    exact la_26 hi n0 hl hx ih
  · have e : some 980 = some t := ht
    cases e
    exact la_27 hi n0 hl hx ih
  · have e : some 1023 = some t := ht
    cases e
    exact la_28 hi n0 hl hx ih
  · have e : some 1036 = some t := ht
    cases e
    exact la_29 hi n0 hl hx ih
  · have e : some 1079 = some t := ht
    cases e
    exact la_30 hi n0 hl hx ih
  · have e : some 1102 = some t := ht
    cases e
    exact la_31 hi n0 hl hx ih
  · have e : some 1135 = some t := ht
    cases e
    exact la_32 hi n0 hl hx ih
  · have e : some 1178 = some t := ht
    cases e
    exact la_33 hi n0 hl hx ih
  · have e : some 1211 = some t := ht
    cases e
    exact la_34 hi n0 hl hx ih
  · have e : some 1234 = some t := ht
    cases e
    exact la_35 hi n0 hl hx ih
  · have e : some 1257 = some t := ht
    cases e
    exact la_36 hi n0 hl hx ih
  · have e : some 1310 = some t := ht
    cases e
    exact la_37 hi n0 hl hx ih
  · have e : some 1353 = some t := ht
    cases e
    exact la_38 hi n0 hl hx ih
  · have e : some 1376 = some t := ht
    cases e
    exact la_39 hi n0 hl hx ih
  · have e : some 1399 = some t := ht
    cases e
    exact la_40 hi n0 hl hx ih
  · have e : some 1432 = some t := ht
    cases e
    exact la_41 hi n0 hl hx ih
  · have e : some 1455 = some t := ht
    cases e
    exact la_42 hi n0 hl hx ih
  · have e : some 1478 = some t := ht
    cases e
    exact la_43 hi n0 hl hx ih
  · have e : some 1501 = some t := ht
    cases e
    exact la_44 hi n0 hl hx ih
theorem la_loop {g : cw_G} (hx : cw_xL g ≤ 3072) : ∀ (d : Nat) (n : Int) (M : cw_M), 0 ≤ n → 6 * n ≤ cw_xL g → (cw_xL g : Int) ≤ 6 * n + 6 * d + 5 → IV n M → cw_J g y_La_law 0 cw_NX cw_NX 18 [.inr (.inr (-5)), .inr (.inr 0), .inr (.inr 319), .inl (6 * n)] [] M (fun q M' => q = some (.inl 1)) := by
  intro d
  have out : ∀ (n : Int) (M : cw_M), cw_J g y_La_law 0 cw_NX cw_NX 1521 [.inr (.inr (-5)), .inr (.inr 0), .inr (.inr 319), .inl (6 * n)] [] M (fun q M' => q = some (.inl 1)) := by
    intro n M
    refine k_La_law_1521 _ _ _ _ _ _ _ _ ?_
    simp only [↓w_nil, ↓w_cons, ↓w_ic, ↓w_zret, true_and, and_true, true_implies, false_implies, not_true_eq_false, not_false_eq_true, Int.reduceEq, Int.reduceLT, Int.reduceLE, Int.reduceNeg]
    repeat refine And.intro (by first | assumption | omega | exact sx32 _ | (unfold in32; omega) | (unfold in64; omega) | exact True.intro | exact Or.inl True.intro | exact Or.inr True.intro | exact Or.inr rfl | rfl | exact Nat.le_of_ble_eq_true rfl | decide +kernel) ?_
    try first | done | assumption
    first | rfl | exact Or.inr True.intro | trivial
  induction d with
  | zero =>
    intro n M n0 hn hd hi
    refine k_La_law_18 _ _ _ _ _ _ _ _ ?_
    simp only [↓w_nil, ↓w_cons, ↓w_ild3, ↓w_ald0, ↓w_slen, ↓w_ic, ↓w_isub, ↓w_icgt, true_and, and_true, true_implies, false_implies, not_true_eq_false, not_false_eq_true, Int.reduceEq, Int.reduceLT, Int.reduceLE, Int.reduceNeg]
    repeat refine And.intro (by first | assumption | omega | exact sx32 _ | (unfold in32; omega) | (unfold in64; omega) | exact True.intro | exact Or.inl True.intro | exact Or.inr True.intro | exact Or.inr rfl | rfl | exact Nat.le_of_ble_eq_true rfl | decide +kernel) ?_
    try first | done | assumption
    first | exact out n M | exact ⟨fun _ => out n M, fun h => absurd h (by omega)⟩
  | succ d ih =>
    intro n M n0 hn hd hi
    refine k_La_law_18 _ _ _ _ _ _ _ _ ?_
    simp only [↓w_nil, ↓w_cons, ↓w_ild3, ↓w_ald0, ↓w_slen, ↓w_ic, ↓w_isub, ↓w_icgt, true_and, and_true, true_implies, false_implies, not_true_eq_false, not_false_eq_true, Int.reduceEq, Int.reduceLT, Int.reduceLE, Int.reduceNeg]
    repeat refine And.intro (by first | assumption | omega | exact sx32 _ | (unfold in32; omega) | (unfold in64; omega) | exact True.intro | exact Or.inl True.intro | exact Or.inr True.intro | exact Or.inr rfl | rfl | exact Nat.le_of_ble_eq_true rfl | decide +kernel) ?_
    try first | done | assumption
    refine ⟨fun _ => out n M, fun h => ?_⟩
    refine la_step hi n0 (by omega) hx ?_
    intro M' hM
    refine k_La_law_1515 _ _ _ _ _ _ _ _ ?_
    simp only [↓w_nil, ↓w_cons, ↓w_inc3, ↓w_goto, true_and, and_true, true_implies, false_implies, not_true_eq_false, not_false_eq_true, Int.reduceEq, Int.reduceLT, Int.reduceLE, Int.reduceNeg, w_nlI, w_nlL, w_nlR]
    repeat refine And.intro (by first | assumption | omega | exact sx32 _ | (unfold in32; omega) | (unfold in64; omega) | exact True.intro | exact Or.inl True.intro | exact Or.inr True.intro | exact Or.inr rfl | rfl | exact Nat.le_of_ble_eq_true rfl | decide +kernel) ?_
    try first | done | assumption
    rw [show 6 * n + 6 = 6 * (n + 1) by omega]
    exact ih (n + 1) M' (by omega) (by omega) (by omega) hM
theorem la_start {g : cw_G} {M : cw_M} (hx : cw_xL g ≤ 3072) : cw_J g y_La_law 0 cw_NX 0 0 [.inr (.inr (-5)), cU, cU, cU] [] M (fun q M' => q = some (.inl 1)) := by
  refine k_La_law_0 _ _ _ _ _ _ _ _ ?_
  simp only [↓w_nil, ↓w_new, true_and, and_true, true_implies, false_implies, not_true_eq_false, not_false_eq_true, Int.reduceEq, Int.reduceLT, Int.reduceLE, Int.reduceNeg]
  repeat refine And.intro (by first | decide +kernel | assumption | omega | (unfold in32; omega) | (unfold in64; omega) | exact True.intro | exact Or.inl True.intro | exact Or.inr True.intro | rfl) ?_
  try first | done | assumption | omega
  intro a9 n9 ha hn
  obtain rfl : a9 = 0 := by omega
  obtain rfl : n9 = 1 := by omega
  refine k_La_law_3 _ _ _ _ _ _ _ _ ?_
  simp only [↓w_nil, ↓w_cons, ↓w_dupI, ↓w_dupR, ↓w_ci, true_and, and_true, true_implies, false_implies, not_true_eq_false, not_false_eq_true, Int.reduceEq, Int.reduceLT, Int.reduceLE, Int.reduceNeg, w_c80, w_c8I, w_c8L, w_c8R]
  repeat refine And.intro (by first | decide +kernel | assumption | omega | (unfold in32; omega) | (unfold in64; omega) | exact True.intro | exact Or.inl True.intro | exact Or.inr True.intro | rfl) ?_
  try first | done | assumption | omega
  refine ⟨_, _, i_Co_0 sf_eq, by decide, ?_⟩
  rintro r9 M9 ⟨rfl, rfl⟩
  refine k_La_law_7 _ _ _ _ _ _ _ _ ?_
  simp only [↓w_nil, ↓w_cons, ↓w_ast1, ↓w_new, true_and, and_true, true_implies, false_implies, not_true_eq_false, not_false_eq_true, Int.reduceEq, Int.reduceLT, Int.reduceLE, Int.reduceNeg, w_nlI, w_nlL, w_nlR, w_tl0]
  repeat refine And.intro (by first | decide +kernel | assumption | omega | (unfold in32; omega) | (unfold in64; omega) | exact True.intro | exact Or.inl True.intro | exact Or.inr True.intro | rfl) ?_
  try first | done | assumption | omega
  intro a9 n9 ha hn
  obtain rfl : a9 = 319 := by omega
  obtain rfl : n9 = 320 := by omega
  refine k_La_law_11 _ _ _ _ _ _ _ _ ?_
  simp only [↓w_nil, ↓w_cons, ↓w_dupI, ↓w_dupR, ↓w_ci, true_and, and_true, true_implies, false_implies, not_true_eq_false, not_false_eq_true, Int.reduceEq, Int.reduceLT, Int.reduceLE, Int.reduceNeg, w_c80, w_c8I, w_c8L, w_c8R]
  repeat refine And.intro (by first | decide +kernel | assumption | omega | (unfold in32; omega) | (unfold in64; omega) | exact True.intro | exact Or.inl True.intro | exact Or.inr True.intro | rfl) ?_
  try first | done | assumption | omega
  refine ⟨_, _, i_Mo_319 sf_eq (fun c k c0 c1 => by rw [w_sf3 (by omega), mx_in ⟨c0, c1⟩]), by decide, ?_⟩
  rintro r9 M9 ⟨rfl, hM⟩
  refine k_La_law_15 _ _ _ _ _ _ _ _ ?_
  simp only [↓w_nil, ↓w_cons, ↓w_ast2, ↓w_ic, ↓w_ist3, ↓w_fall, true_and, and_true, true_implies, false_implies, not_true_eq_false, not_false_eq_true, Int.reduceEq, Int.reduceLT, Int.reduceLE, Int.reduceNeg, w_nlI, w_nlL, w_nlR, w_tl0]
  repeat refine And.intro (by first | decide +kernel | assumption | omega | (unfold in32; omega) | (unfold in64; omega) | exact True.intro | exact Or.inl True.intro | exact Or.inr True.intro | rfl) ?_
  try first | done | assumption | omega
  exact la_loop hx (cw_xL g) 0 M9 (by omega) (by omega) (by omega) hM
