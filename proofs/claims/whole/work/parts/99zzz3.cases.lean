/-! the law's cases; by program (wip/whole/genlaw.py) -/
theorem sx32 {g : cw_G} (i : Int) : in32 (cw_sx g i) := ⟨(cw_xs g i.toNat).le_toInt, by have := (cw_xs g i.toNat).toInt_lt; show (cw_xs g i.toNat).toInt ≤ 2147483647; omega⟩
theorem or64_in {a b : Int} : in64 (cw_or64 a b) := by
  unfold cw_or64
  exact ⟨Int64.le_toInt _, by have := Int64.toInt_lt (Int64.ofInt a ||| Int64.ofInt b); omega⟩
theorem and63 (a : Int) : in32 (cw_and32 a 63) := by
  unfold cw_and32
  exact ⟨Int32.le_toInt _, by have := Int32.toInt_lt (Int32.ofInt a &&& Int32.ofInt 63); omega⟩
theorem la_0 {g : cw_G} {n : Int} {M : cw_M} {Q : Option cw_V → cw_M → Prop} (hi : IV n M) (n0 : 0 ≤ n) (hl : 6 * n + 6 ≤ cw_xL g) (hx : cw_xL g ≤ 3072) (ih : ∀ M', IV (n + 1) M' → cw_J g y_La_law 0 cw_NX cw_NX 1515 [.inr (.inr (-5)), .inr (.inr 0), .inr (.inr 319), .inl (6 * n)] [] M' Q) : cw_J g y_La_law 0 cw_NX cw_NX 228 [.inr (.inr (-5)), .inr (.inr 0), .inr (.inr 319), .inl (6 * n)] [] M Q := by
  have k0 : cw_kt cw_NX 0 = (11, 0) := by decide +kernel
  have k1 : cw_kt cw_NX 319 = (12, 0) := by decide +kernel
  refine k_La_law_228 _ _ _ _ _ _ _ _ ?_
  simp only [↓w_nil, ↓w_cons, ↓w_ald1, ↓w_ald0, ↓w_ild3, ↓w_ic, ↓w_iadd, ↓w_sald, ↓w_cv5, true_and, and_true, true_implies, false_implies, not_true_eq_false, not_false_eq_true, Int.reduceEq, Int.reduceLT, Int.reduceLE, Int.reduceNeg, w_c80, w_c8I, w_c8L, w_c8R, k0]
  repeat refine And.intro (by first | assumption | omega | exact sx32 _ | (unfold in32; omega) | (unfold in64; omega) | exact True.intro | exact Or.inl True.intro | exact Or.inr True.intro | exact Or.inr rfl | rfl | exact Nat.le_of_ble_eq_true rfl | decide +kernel) ?_
  try first | done | assumption
  refine ⟨_, o_iron hi.1 hi.2.1 ⟨by omega, by omega⟩ (sx32 _) (sx32 _) (sx32 _) (sx32 _) (sx32 _), ?_⟩
  rintro r9 M9 ⟨v, hv, rfl, hR⟩
  refine k_La_law_257 _ _ _ _ _ _ _ _ ?_
  simp only [↓w_nil, ↓w_cons, ↓w_ald2, ↓w_ald0, ↓w_ild3, ↓w_ic, ↓w_iadd, ↓w_sald, ↓w_cv5, true_and, and_true, true_implies, false_implies, not_true_eq_false, not_false_eq_true, Int.reduceEq, Int.reduceLT, Int.reduceLE, Int.reduceNeg, w_c80, w_c8I, w_c8L, w_c8R, w_tl1, k1]
  repeat refine And.intro (by first | assumption | omega | exact sx32 _ | (unfold in32; omega) | (unfold in64; omega) | exact True.intro | exact Or.inl True.intro | exact Or.inr True.intro | exact Or.inr rfl | rfl | exact Nat.le_of_ble_eq_true rfl | decide +kernel) ?_
  try first | done | assumption
  refine ⟨_, hR, ?_⟩
  rintro r8 M8 ⟨rfl, hP⟩
  refine k_La_law_286 _ _ _ _ _ _ _ _ ?_
  simp only [↓w_nil, ↓w_iceq, true_and, and_true, true_implies, false_implies, not_true_eq_false, not_false_eq_true, Int.reduceEq, Int.reduceLT, Int.reduceLE, Int.reduceNeg, w_tl1]
  repeat refine And.intro (by first | assumption | omega | exact sx32 _ | (unfold in32; omega) | (unfold in64; omega) | exact True.intro | exact Or.inl True.intro | exact Or.inr True.intro | exact Or.inr rfl | rfl | exact Nat.le_of_ble_eq_true rfl | decide +kernel) ?_
  try first | done | assumption
  first | exact ih _ (iv_nx hi hP.to2) | exact ⟨fun _ => ih _ (iv_nx hi hP.to2), fun h => absurd rfl h⟩
theorem la_1 {g : cw_G} {n : Int} {M : cw_M} {Q : Option cw_V → cw_M → Prop} (hi : IV n M) (n0 : 0 ≤ n) (hl : 6 * n + 6 ≤ cw_xL g) (hx : cw_xL g ≤ 3072) (ih : ∀ M', IV (n + 1) M' → cw_J g y_La_law 0 cw_NX cw_NX 1515 [.inr (.inr (-5)), .inr (.inr 0), .inr (.inr 319), .inl (6 * n)] [] M' Q) : cw_J g y_La_law 0 cw_NX cw_NX 291 [.inr (.inr (-5)), .inr (.inr 0), .inr (.inr 319), .inl (6 * n)] [] M Q := by
  have k0 : cw_kt cw_NX 0 = (11, 0) := by decide +kernel
  have k1 : cw_kt cw_NX 319 = (12, 0) := by decide +kernel
  refine k_La_law_291 _ _ _ _ _ _ _ _ ?_
  simp only [↓w_nil, ↓w_cons, ↓w_ald1, ↓w_cv0, true_and, and_true, true_implies, false_implies, not_true_eq_false, not_false_eq_true, Int.reduceEq, Int.reduceLT, Int.reduceLE, Int.reduceNeg, w_c80, w_c8I, w_c8L, w_c8R, k0]
  repeat refine And.intro (by first | assumption | omega | exact sx32 _ | (unfold in32; omega) | (unfold in64; omega) | exact True.intro | exact Or.inl True.intro | exact Or.inr True.intro | exact Or.inr rfl | rfl | exact Nat.le_of_ble_eq_true rfl | decide +kernel) ?_
  try first | done | assumption
  refine ⟨_, o_gap hi.1 hi.2.1 ⟨by omega, by omega⟩, ?_⟩
  rintro r9 M9 ⟨v, hv, rfl, hR⟩
  refine k_La_law_295 _ _ _ _ _ _ _ _ ?_
  simp only [↓w_nil, ↓w_cons, ↓w_ald2, ↓w_cv0, true_and, and_true, true_implies, false_implies, not_true_eq_false, not_false_eq_true, Int.reduceEq, Int.reduceLT, Int.reduceLE, Int.reduceNeg, w_c80, w_c8I, w_c8L, w_c8R, w_tl1, k1]
  repeat refine And.intro (by first | assumption | omega | exact sx32 _ | (unfold in32; omega) | (unfold in64; omega) | exact True.intro | exact Or.inl True.intro | exact Or.inr True.intro | exact Or.inr rfl | rfl | exact Nat.le_of_ble_eq_true rfl | decide +kernel) ?_
  try first | done | assumption
  refine ⟨_, hR, ?_⟩
  rintro r8 M8 ⟨rfl, hP⟩
  refine k_La_law_299 _ _ _ _ _ _ _ _ ?_
  simp only [↓w_nil, ↓w_iceq, true_and, and_true, true_implies, false_implies, not_true_eq_false, not_false_eq_true, Int.reduceEq, Int.reduceLT, Int.reduceLE, Int.reduceNeg, w_tl1]
  repeat refine And.intro (by first | assumption | omega | exact sx32 _ | (unfold in32; omega) | (unfold in64; omega) | exact True.intro | exact Or.inl True.intro | exact Or.inr True.intro | exact Or.inr rfl | rfl | exact Nat.le_of_ble_eq_true rfl | decide +kernel) ?_
  try first | done | assumption
  first | exact ih _ (iv_nx hi hP.to2) | exact ⟨fun _ => ih _ (iv_nx hi hP.to2), fun h => absurd rfl h⟩
theorem la_2 {g : cw_G} {n : Int} {M : cw_M} {Q : Option cw_V → cw_M → Prop} (hi : IV n M) (n0 : 0 ≤ n) (hl : 6 * n + 6 ≤ cw_xL g) (hx : cw_xL g ≤ 3072) (ih : ∀ M', IV (n + 1) M' → cw_J g y_La_law 0 cw_NX cw_NX 1515 [.inr (.inr (-5)), .inr (.inr 0), .inr (.inr 319), .inl (6 * n)] [] M' Q) : cw_J g y_La_law 0 cw_NX cw_NX 304 [.inr (.inr (-5)), .inr (.inr 0), .inr (.inr 319), .inl (6 * n)] [] M Q := by
  have k0 : cw_kt cw_NX 0 = (11, 0) := by decide +kernel
  have k1 : cw_kt cw_NX 319 = (12, 0) := by decide +kernel
  refine k_La_law_304 _ _ _ _ _ _ _ _ ?_
  simp only [↓w_nil, ↓w_cons, ↓w_ald1, ↓w_ald0, ↓w_ild3, ↓w_ic, ↓w_iadd, ↓w_sald, ↓w_cv3, true_and, and_true, true_implies, false_implies, not_true_eq_false, not_false_eq_true, Int.reduceEq, Int.reduceLT, Int.reduceLE, Int.reduceNeg, w_c80, w_c8I, w_c8L, w_c8R, k0]
  repeat refine And.intro (by first | assumption | omega | exact sx32 _ | (unfold in32; omega) | (unfold in64; omega) | exact True.intro | exact Or.inl True.intro | exact Or.inr True.intro | exact Or.inr rfl | rfl | exact Nat.le_of_ble_eq_true rfl | decide +kernel) ?_
  try first | done | assumption
  refine ⟨_, o_gapAt hi.1 hi.2.1 ⟨by omega, by omega⟩ (sx32 _) (sx32 _) (sx32 _), ?_⟩
  rintro r9 M9 ⟨v, hv, rfl, hR⟩
  refine k_La_law_323 _ _ _ _ _ _ _ _ ?_
  simp only [↓w_nil, ↓w_cons, ↓w_ald2, ↓w_ald0, ↓w_ild3, ↓w_ic, ↓w_iadd, ↓w_sald, ↓w_cv3, true_and, and_true, true_implies, false_implies, not_true_eq_false, not_false_eq_true, Int.reduceEq, Int.reduceLT, Int.reduceLE, Int.reduceNeg, w_c80, w_c8I, w_c8L, w_c8R, w_tl1, k1]
  repeat refine And.intro (by first | assumption | omega | exact sx32 _ | (unfold in32; omega) | (unfold in64; omega) | exact True.intro | exact Or.inl True.intro | exact Or.inr True.intro | exact Or.inr rfl | rfl | exact Nat.le_of_ble_eq_true rfl | decide +kernel) ?_
  try first | done | assumption
  refine ⟨_, hR, ?_⟩
  rintro r8 M8 ⟨rfl, hP⟩
  refine k_La_law_342 _ _ _ _ _ _ _ _ ?_
  simp only [↓w_nil, ↓w_iceq, true_and, and_true, true_implies, false_implies, not_true_eq_false, not_false_eq_true, Int.reduceEq, Int.reduceLT, Int.reduceLE, Int.reduceNeg, w_tl1]
  repeat refine And.intro (by first | assumption | omega | exact sx32 _ | (unfold in32; omega) | (unfold in64; omega) | exact True.intro | exact Or.inl True.intro | exact Or.inr True.intro | exact Or.inr rfl | rfl | exact Nat.le_of_ble_eq_true rfl | decide +kernel) ?_
  try first | done | assumption
  first | exact ih _ (iv_nx hi hP.to2) | exact ⟨fun _ => ih _ (iv_nx hi hP.to2), fun h => absurd rfl h⟩
theorem la_3 {g : cw_G} {n : Int} {M : cw_M} {Q : Option cw_V → cw_M → Prop} (hi : IV n M) (n0 : 0 ≤ n) (hl : 6 * n + 6 ≤ cw_xL g) (hx : cw_xL g ≤ 3072) (ih : ∀ M', IV (n + 1) M' → cw_J g y_La_law 0 cw_NX cw_NX 1515 [.inr (.inr (-5)), .inr (.inr 0), .inr (.inr 319), .inl (6 * n)] [] M' Q) : cw_J g y_La_law 0 cw_NX cw_NX 347 [.inr (.inr (-5)), .inr (.inr 0), .inr (.inr 319), .inl (6 * n)] [] M Q := by
  have k0 : cw_kt cw_NX 0 = (11, 0) := by decide +kernel
  have k1 : cw_kt cw_NX 319 = (12, 0) := by decide +kernel
  refine k_La_law_347 _ _ _ _ _ _ _ _ ?_
  simp only [↓w_nil, ↓w_cons, ↓w_ald1, ↓w_ald0, ↓w_ild3, ↓w_ic, ↓w_iadd, ↓w_sald, ↓w_cv2, true_and, and_true, true_implies, false_implies, not_true_eq_false, not_false_eq_true, Int.reduceEq, Int.reduceLT, Int.reduceLE, Int.reduceNeg, w_c80, w_c8I, w_c8L, w_c8R, k0]
  repeat refine And.intro (by first | assumption | omega | exact sx32 _ | (unfold in32; omega) | (unfold in64; omega) | exact True.intro | exact Or.inl True.intro | exact Or.inr True.intro | exact Or.inr rfl | rfl | exact Nat.le_of_ble_eq_true rfl | decide +kernel) ?_
  try first | done | assumption
  refine ⟨_, o_magnet hi.1 hi.2.1 ⟨by omega, by omega⟩ (sx32 _) (sx32 _), ?_⟩
  rintro r9 M9 ⟨v, hv, rfl, hR⟩
  refine k_La_law_361 _ _ _ _ _ _ _ _ ?_
  simp only [↓w_nil, ↓w_cons, ↓w_ald2, ↓w_ald0, ↓w_ild3, ↓w_ic, ↓w_iadd, ↓w_sald, ↓w_cv2, true_and, and_true, true_implies, false_implies, not_true_eq_false, not_false_eq_true, Int.reduceEq, Int.reduceLT, Int.reduceLE, Int.reduceNeg, w_c80, w_c8I, w_c8L, w_c8R, w_tl1, k1]
  repeat refine And.intro (by first | assumption | omega | exact sx32 _ | (unfold in32; omega) | (unfold in64; omega) | exact True.intro | exact Or.inl True.intro | exact Or.inr True.intro | exact Or.inr rfl | rfl | exact Nat.le_of_ble_eq_true rfl | decide +kernel) ?_
  try first | done | assumption
  refine ⟨_, hR, ?_⟩
  rintro r8 M8 ⟨rfl, hP⟩
  refine k_La_law_375 _ _ _ _ _ _ _ _ ?_
  simp only [↓w_nil, ↓w_iceq, true_and, and_true, true_implies, false_implies, not_true_eq_false, not_false_eq_true, Int.reduceEq, Int.reduceLT, Int.reduceLE, Int.reduceNeg, w_tl1]
  repeat refine And.intro (by first | assumption | omega | exact sx32 _ | (unfold in32; omega) | (unfold in64; omega) | exact True.intro | exact Or.inl True.intro | exact Or.inr True.intro | exact Or.inr rfl | rfl | exact Nat.le_of_ble_eq_true rfl | decide +kernel) ?_
  try first | done | assumption
  first | exact ih _ (iv_nx hi hP.to2) | exact ⟨fun _ => ih _ (iv_nx hi hP.to2), fun h => absurd rfl h⟩
theorem la_4 {g : cw_G} {n : Int} {M : cw_M} {Q : Option cw_V → cw_M → Prop} (hi : IV n M) (n0 : 0 ≤ n) (hl : 6 * n + 6 ≤ cw_xL g) (hx : cw_xL g ≤ 3072) (ih : ∀ M', IV (n + 1) M' → cw_J g y_La_law 0 cw_NX cw_NX 1515 [.inr (.inr (-5)), .inr (.inr 0), .inr (.inr 319), .inl (6 * n)] [] M' Q) : cw_J g y_La_law 0 cw_NX cw_NX 380 [.inr (.inr (-5)), .inr (.inr 0), .inr (.inr 319), .inl (6 * n)] [] M Q := by
  have k0 : cw_kt cw_NX 0 = (11, 0) := by decide +kernel
  have k1 : cw_kt cw_NX 319 = (12, 0) := by decide +kernel
  refine k_La_law_380 _ _ _ _ _ _ _ _ ?_
  simp only [↓w_nil, ↓w_cons, ↓w_ald1, ↓w_ald0, ↓w_ild3, ↓w_ic, ↓w_iadd, ↓w_sald, ↓w_cv3, true_and, and_true, true_implies, false_implies, not_true_eq_false, not_false_eq_true, Int.reduceEq, Int.reduceLT, Int.reduceLE, Int.reduceNeg, w_c80, w_c8I, w_c8L, w_c8R, k0]
  repeat refine And.intro (by first | assumption | omega | exact sx32 _ | (unfold in32; omega) | (unfold in64; omega) | exact True.intro | exact Or.inl True.intro | exact Or.inr True.intro | exact Or.inr rfl | rfl | exact Nat.le_of_ble_eq_true rfl | decide +kernel) ?_
  try first | done | assumption
  refine ⟨_, o_turns hi.1 hi.2.1 ⟨by omega, by omega⟩ (sx32 _) (sx32 _) (sx32 _), ?_⟩
  rintro r9 M9 ⟨v, hv, rfl, hR⟩
  refine k_La_law_399 _ _ _ _ _ _ _ _ ?_
  simp only [↓w_nil, ↓w_cons, ↓w_ald2, ↓w_ald0, ↓w_ild3, ↓w_ic, ↓w_iadd, ↓w_sald, ↓w_cv3, true_and, and_true, true_implies, false_implies, not_true_eq_false, not_false_eq_true, Int.reduceEq, Int.reduceLT, Int.reduceLE, Int.reduceNeg, w_c80, w_c8I, w_c8L, w_c8R, w_tl1, k1]
  repeat refine And.intro (by first | assumption | omega | exact sx32 _ | (unfold in32; omega) | (unfold in64; omega) | exact True.intro | exact Or.inl True.intro | exact Or.inr True.intro | exact Or.inr rfl | rfl | exact Nat.le_of_ble_eq_true rfl | decide +kernel) ?_
  try first | done | assumption
  refine ⟨_, hR, ?_⟩
  rintro r8 M8 ⟨rfl, hP⟩
  refine k_La_law_418 _ _ _ _ _ _ _ _ ?_
  simp only [↓w_nil, ↓w_iceq, true_and, and_true, true_implies, false_implies, not_true_eq_false, not_false_eq_true, Int.reduceEq, Int.reduceLT, Int.reduceLE, Int.reduceNeg, w_tl1]
  repeat refine And.intro (by first | assumption | omega | exact sx32 _ | (unfold in32; omega) | (unfold in64; omega) | exact True.intro | exact Or.inl True.intro | exact Or.inr True.intro | exact Or.inr rfl | rfl | exact Nat.le_of_ble_eq_true rfl | decide +kernel) ?_
  try first | done | assumption
  first | exact ih _ (iv_nx hi hP.to2) | exact ⟨fun _ => ih _ (iv_nx hi hP.to2), fun h => absurd rfl h⟩
theorem la_5 {g : cw_G} {n : Int} {M : cw_M} {Q : Option cw_V → cw_M → Prop} (hi : IV n M) (n0 : 0 ≤ n) (hl : 6 * n + 6 ≤ cw_xL g) (hx : cw_xL g ≤ 3072) (ih : ∀ M', IV (n + 1) M' → cw_J g y_La_law 0 cw_NX cw_NX 1515 [.inr (.inr (-5)), .inr (.inr 0), .inr (.inr 319), .inl (6 * n)] [] M' Q) : cw_J g y_La_law 0 cw_NX cw_NX 423 [.inr (.inr (-5)), .inr (.inr 0), .inr (.inr 319), .inl (6 * n)] [] M Q := by
  have k0 : cw_kt cw_NX 0 = (11, 0) := by decide +kernel
  have k1 : cw_kt cw_NX 319 = (12, 0) := by decide +kernel
  refine k_La_law_423 _ _ _ _ _ _ _ _ ?_
  simp only [↓w_nil, ↓w_cons, ↓w_ald1, ↓w_ald0, ↓w_ild3, ↓w_ic, ↓w_iadd, ↓w_sald, ↓w_cv2, true_and, and_true, true_implies, false_implies, not_true_eq_false, not_false_eq_true, Int.reduceEq, Int.reduceLT, Int.reduceLE, Int.reduceNeg, w_c80, w_c8I, w_c8L, w_c8R, k0]
  repeat refine And.intro (by first | assumption | omega | exact sx32 _ | (unfold in32; omega) | (unfold in64; omega) | exact True.intro | exact Or.inl True.intro | exact Or.inr True.intro | exact Or.inr rfl | rfl | exact Nat.le_of_ble_eq_true rfl | decide +kernel) ?_
  try first | done | assumption
  refine ⟨_, o_current hi.1 hi.2.1 ⟨by omega, by omega⟩ (sx32 _) (sx32 _), ?_⟩
  rintro r9 M9 ⟨v, hv, rfl, hR⟩
  refine k_La_law_437 _ _ _ _ _ _ _ _ ?_
  simp only [↓w_nil, ↓w_cons, ↓w_ald2, ↓w_ald0, ↓w_ild3, ↓w_ic, ↓w_iadd, ↓w_sald, ↓w_cv2, true_and, and_true, true_implies, false_implies, not_true_eq_false, not_false_eq_true, Int.reduceEq, Int.reduceLT, Int.reduceLE, Int.reduceNeg, w_c80, w_c8I, w_c8L, w_c8R, w_tl1, k1]
  repeat refine And.intro (by first | assumption | omega | exact sx32 _ | (unfold in32; omega) | (unfold in64; omega) | exact True.intro | exact Or.inl True.intro | exact Or.inr True.intro | exact Or.inr rfl | rfl | exact Nat.le_of_ble_eq_true rfl | decide +kernel) ?_
  try first | done | assumption
  refine ⟨_, hR, ?_⟩
  rintro r8 M8 ⟨rfl, hP⟩
  refine k_La_law_451 _ _ _ _ _ _ _ _ ?_
  simp only [↓w_nil, ↓w_iceq, true_and, and_true, true_implies, false_implies, not_true_eq_false, not_false_eq_true, Int.reduceEq, Int.reduceLT, Int.reduceLE, Int.reduceNeg, w_tl1]
  repeat refine And.intro (by first | assumption | omega | exact sx32 _ | (unfold in32; omega) | (unfold in64; omega) | exact True.intro | exact Or.inl True.intro | exact Or.inr True.intro | exact Or.inr rfl | rfl | exact Nat.le_of_ble_eq_true rfl | decide +kernel) ?_
  try first | done | assumption
  first | exact ih _ (iv_nx hi hP.to2) | exact ⟨fun _ => ih _ (iv_nx hi hP.to2), fun h => absurd rfl h⟩
theorem la_6 {g : cw_G} {n : Int} {M : cw_M} {Q : Option cw_V → cw_M → Prop} (hi : IV n M) (n0 : 0 ≤ n) (hl : 6 * n + 6 ≤ cw_xL g) (hx : cw_xL g ≤ 3072) (ih : ∀ M', IV (n + 1) M' → cw_J g y_La_law 0 cw_NX cw_NX 1515 [.inr (.inr (-5)), .inr (.inr 0), .inr (.inr 319), .inl (6 * n)] [] M' Q) : cw_J g y_La_law 0 cw_NX cw_NX 456 [.inr (.inr (-5)), .inr (.inr 0), .inr (.inr 319), .inl (6 * n)] [] M Q := by
  have k0 : cw_kt cw_NX 0 = (11, 0) := by decide +kernel
  have k1 : cw_kt cw_NX 319 = (12, 0) := by decide +kernel
  refine k_La_law_456 _ _ _ _ _ _ _ _ ?_
  simp only [↓w_nil, ↓w_cons, ↓w_ald1, ↓w_ald0, ↓w_ild3, ↓w_ic, ↓w_iadd, ↓w_sald, ↓w_cv1, true_and, and_true, true_implies, false_implies, not_true_eq_false, not_false_eq_true, Int.reduceEq, Int.reduceLT, Int.reduceLE, Int.reduceNeg, w_c80, w_c8I, w_c8L, w_c8R, k0]
  repeat refine And.intro (by first | assumption | omega | exact sx32 _ | (unfold in32; omega) | (unfold in64; omega) | exact True.intro | exact Or.inl True.intro | exact Or.inr True.intro | exact Or.inr rfl | rfl | exact Nat.le_of_ble_eq_true rfl | decide +kernel) ?_
  try first | done | assumption
  refine ⟨_, o_source hi.1 hi.2.1 ⟨by omega, by omega⟩ (sx32 _), ?_⟩
  rintro r9 M9 ⟨v, hv, rfl, hR⟩
  refine k_La_law_465 _ _ _ _ _ _ _ _ ?_
  simp only [↓w_nil, ↓w_cons, ↓w_ald2, ↓w_ald0, ↓w_ild3, ↓w_ic, ↓w_iadd, ↓w_sald, ↓w_cv1, true_and, and_true, true_implies, false_implies, not_true_eq_false, not_false_eq_true, Int.reduceEq, Int.reduceLT, Int.reduceLE, Int.reduceNeg, w_c80, w_c8I, w_c8L, w_c8R, w_tl1, k1]
  repeat refine And.intro (by first | assumption | omega | exact sx32 _ | (unfold in32; omega) | (unfold in64; omega) | exact True.intro | exact Or.inl True.intro | exact Or.inr True.intro | exact Or.inr rfl | rfl | exact Nat.le_of_ble_eq_true rfl | decide +kernel) ?_
  try first | done | assumption
  refine ⟨_, hR, ?_⟩
  rintro r8 M8 ⟨rfl, hP⟩
  refine k_La_law_474 _ _ _ _ _ _ _ _ ?_
  simp only [↓w_nil, ↓w_iceq, true_and, and_true, true_implies, false_implies, not_true_eq_false, not_false_eq_true, Int.reduceEq, Int.reduceLT, Int.reduceLE, Int.reduceNeg, w_tl1]
  repeat refine And.intro (by first | assumption | omega | exact sx32 _ | (unfold in32; omega) | (unfold in64; omega) | exact True.intro | exact Or.inl True.intro | exact Or.inr True.intro | exact Or.inr rfl | rfl | exact Nat.le_of_ble_eq_true rfl | decide +kernel) ?_
  try first | done | assumption
  first | exact ih _ (iv_nx hi hP.to2) | exact ⟨fun _ => ih _ (iv_nx hi hP.to2), fun h => absurd rfl h⟩
theorem la_7 {g : cw_G} {n : Int} {M : cw_M} {Q : Option cw_V → cw_M → Prop} (hi : IV n M) (n0 : 0 ≤ n) (hl : 6 * n + 6 ≤ cw_xL g) (hx : cw_xL g ≤ 3072) (ih : ∀ M', IV (n + 1) M' → cw_J g y_La_law 0 cw_NX cw_NX 1515 [.inr (.inr (-5)), .inr (.inr 0), .inr (.inr 319), .inl (6 * n)] [] M' Q) : cw_J g y_La_law 0 cw_NX cw_NX 479 [.inr (.inr (-5)), .inr (.inr 0), .inr (.inr 319), .inl (6 * n)] [] M Q := by
  have k0 : cw_kt cw_NX 0 = (11, 0) := by decide +kernel
  have k1 : cw_kt cw_NX 319 = (12, 0) := by decide +kernel
  refine k_La_law_479 _ _ _ _ _ _ _ _ ?_
  simp only [↓w_nil, ↓w_cons, ↓w_ald1, ↓w_ald0, ↓w_ild3, ↓w_ic, ↓w_iadd, ↓w_sald, ↓w_cv1, true_and, and_true, true_implies, false_implies, not_true_eq_false, not_false_eq_true, Int.reduceEq, Int.reduceLT, Int.reduceLE, Int.reduceNeg, w_c80, w_c8I, w_c8L, w_c8R, k0]
  repeat refine And.intro (by first | assumption | omega | exact sx32 _ | (unfold in32; omega) | (unfold in64; omega) | exact True.intro | exact Or.inl True.intro | exact Or.inr True.intro | exact Or.inr rfl | rfl | exact Nat.le_of_ble_eq_true rfl | decide +kernel) ?_
  try first | done | assumption
  refine ⟨_, o_turn hi.1 hi.2.1 ⟨by omega, by omega⟩ (sx32 _), ?_⟩
  rintro r9 M9 ⟨v, hv, rfl, hR⟩
  refine k_La_law_488 _ _ _ _ _ _ _ _ ?_
  simp only [↓w_nil, ↓w_cons, ↓w_ald2, ↓w_ald0, ↓w_ild3, ↓w_ic, ↓w_iadd, ↓w_sald, ↓w_cv1, true_and, and_true, true_implies, false_implies, not_true_eq_false, not_false_eq_true, Int.reduceEq, Int.reduceLT, Int.reduceLE, Int.reduceNeg, w_c80, w_c8I, w_c8L, w_c8R, w_tl1, k1]
  repeat refine And.intro (by first | assumption | omega | exact sx32 _ | (unfold in32; omega) | (unfold in64; omega) | exact True.intro | exact Or.inl True.intro | exact Or.inr True.intro | exact Or.inr rfl | rfl | exact Nat.le_of_ble_eq_true rfl | decide +kernel) ?_
  try first | done | assumption
  refine ⟨_, hR, ?_⟩
  rintro r8 M8 ⟨rfl, hP⟩
  refine k_La_law_497 _ _ _ _ _ _ _ _ ?_
  simp only [↓w_nil, ↓w_iceq, true_and, and_true, true_implies, false_implies, not_true_eq_false, not_false_eq_true, Int.reduceEq, Int.reduceLT, Int.reduceLE, Int.reduceNeg, w_tl1]
  repeat refine And.intro (by first | assumption | omega | exact sx32 _ | (unfold in32; omega) | (unfold in64; omega) | exact True.intro | exact Or.inl True.intro | exact Or.inr True.intro | exact Or.inr rfl | rfl | exact Nat.le_of_ble_eq_true rfl | decide +kernel) ?_
  try first | done | assumption
  first | exact ih _ (iv_nx hi hP.to2) | exact ⟨fun _ => ih _ (iv_nx hi hP.to2), fun h => absurd rfl h⟩
theorem la_8 {g : cw_G} {n : Int} {M : cw_M} {Q : Option cw_V → cw_M → Prop} (hi : IV n M) (n0 : 0 ≤ n) (hl : 6 * n + 6 ≤ cw_xL g) (hx : cw_xL g ≤ 3072) (ih : ∀ M', IV (n + 1) M' → cw_J g y_La_law 0 cw_NX cw_NX 1515 [.inr (.inr (-5)), .inr (.inr 0), .inr (.inr 319), .inl (6 * n)] [] M' Q) : cw_J g y_La_law 0 cw_NX cw_NX 502 [.inr (.inr (-5)), .inr (.inr 0), .inr (.inr 319), .inl (6 * n)] [] M Q := by
  have k0 : cw_kt cw_NX 0 = (11, 0) := by decide +kernel
  have k1 : cw_kt cw_NX 319 = (12, 0) := by decide +kernel
  refine k_La_law_502 _ _ _ _ _ _ _ _ ?_
  simp only [↓w_nil, ↓w_cons, ↓w_ald1, ↓w_ald0, ↓w_ild3, ↓w_ic, ↓w_iadd, ↓w_sald, ↓w_cv1, true_and, and_true, true_implies, false_implies, not_true_eq_false, not_false_eq_true, Int.reduceEq, Int.reduceLT, Int.reduceLE, Int.reduceNeg, w_c80, w_c8I, w_c8L, w_c8R, k0]
  repeat refine And.intro (by first | assumption | omega | exact sx32 _ | (unfold in32; omega) | (unfold in64; omega) | exact True.intro | exact Or.inl True.intro | exact Or.inr True.intro | exact Or.inr rfl | rfl | exact Nat.le_of_ble_eq_true rfl | decide +kernel) ?_
  try first | done | assumption
  refine ⟨_, o_write hi.1 hi.2.1 ⟨by omega, by omega⟩ (sx32 _), ?_⟩
  rintro r9 M9 ⟨v, hv, rfl, hR⟩
  refine k_La_law_511 _ _ _ _ _ _ _ _ ?_
  simp only [↓w_nil, ↓w_cons, ↓w_ald2, ↓w_ald0, ↓w_ild3, ↓w_ic, ↓w_iadd, ↓w_sald, ↓w_cv1, true_and, and_true, true_implies, false_implies, not_true_eq_false, not_false_eq_true, Int.reduceEq, Int.reduceLT, Int.reduceLE, Int.reduceNeg, w_c80, w_c8I, w_c8L, w_c8R, w_tl1, k1]
  repeat refine And.intro (by first | assumption | omega | exact sx32 _ | (unfold in32; omega) | (unfold in64; omega) | exact True.intro | exact Or.inl True.intro | exact Or.inr True.intro | exact Or.inr rfl | rfl | exact Nat.le_of_ble_eq_true rfl | decide +kernel) ?_
  try first | done | assumption
  refine ⟨_, hR, ?_⟩
  rintro r8 M8 ⟨rfl, hP⟩
  refine k_La_law_520 _ _ _ _ _ _ _ _ ?_
  simp only [↓w_nil, ↓w_iceq, true_and, and_true, true_implies, false_implies, not_true_eq_false, not_false_eq_true, Int.reduceEq, Int.reduceLT, Int.reduceLE, Int.reduceNeg, w_tl1]
  repeat refine And.intro (by first | assumption | omega | exact sx32 _ | (unfold in32; omega) | (unfold in64; omega) | exact True.intro | exact Or.inl True.intro | exact Or.inr True.intro | exact Or.inr rfl | rfl | exact Nat.le_of_ble_eq_true rfl | decide +kernel) ?_
  try first | done | assumption
  first | exact ih _ (iv_nx hi hP.to2) | exact ⟨fun _ => ih _ (iv_nx hi hP.to2), fun h => absurd rfl h⟩
theorem la_9 {g : cw_G} {n : Int} {M : cw_M} {Q : Option cw_V → cw_M → Prop} (hi : IV n M) (n0 : 0 ≤ n) (hl : 6 * n + 6 ≤ cw_xL g) (hx : cw_xL g ≤ 3072) (ih : ∀ M', IV (n + 1) M' → cw_J g y_La_law 0 cw_NX cw_NX 1515 [.inr (.inr (-5)), .inr (.inr 0), .inr (.inr 319), .inl (6 * n)] [] M' Q) : cw_J g y_La_law 0 cw_NX cw_NX 525 [.inr (.inr (-5)), .inr (.inr 0), .inr (.inr 319), .inl (6 * n)] [] M Q := by
  have k0 : cw_kt cw_NX 0 = (11, 0) := by decide +kernel
  have k1 : cw_kt cw_NX 319 = (12, 0) := by decide +kernel
  refine k_La_law_525 _ _ _ _ _ _ _ _ ?_
  simp only [↓w_nil, ↓w_cons, ↓w_ald1, ↓w_cv0, true_and, and_true, true_implies, false_implies, not_true_eq_false, not_false_eq_true, Int.reduceEq, Int.reduceLT, Int.reduceLE, Int.reduceNeg, w_c80, w_c8I, w_c8L, w_c8R, k0]
  repeat refine And.intro (by first | assumption | omega | exact sx32 _ | (unfold in32; omega) | (unfold in64; omega) | exact True.intro | exact Or.inl True.intro | exact Or.inr True.intro | exact Or.inr rfl | rfl | exact Nat.le_of_ble_eq_true rfl | decide +kernel) ?_
  try first | done | assumption
  refine ⟨_, o_erase hi.1 hi.2.1 ⟨by omega, by omega⟩, ?_⟩
  rintro r9 M9 ⟨v, hv, rfl, hR⟩
  refine k_La_law_529 _ _ _ _ _ _ _ _ ?_
  simp only [↓w_nil, ↓w_cons, ↓w_ald2, ↓w_cv0, true_and, and_true, true_implies, false_implies, not_true_eq_false, not_false_eq_true, Int.reduceEq, Int.reduceLT, Int.reduceLE, Int.reduceNeg, w_c80, w_c8I, w_c8L, w_c8R, w_tl1, k1]
  repeat refine And.intro (by first | assumption | omega | exact sx32 _ | (unfold in32; omega) | (unfold in64; omega) | exact True.intro | exact Or.inl True.intro | exact Or.inr True.intro | exact Or.inr rfl | rfl | exact Nat.le_of_ble_eq_true rfl | decide +kernel) ?_
  try first | done | assumption
  refine ⟨_, hR, ?_⟩
  rintro r8 M8 ⟨rfl, hP⟩
  refine k_La_law_533 _ _ _ _ _ _ _ _ ?_
  simp only [↓w_nil, ↓w_iceq, true_and, and_true, true_implies, false_implies, not_true_eq_false, not_false_eq_true, Int.reduceEq, Int.reduceLT, Int.reduceLE, Int.reduceNeg, w_tl1]
  repeat refine And.intro (by first | assumption | omega | exact sx32 _ | (unfold in32; omega) | (unfold in64; omega) | exact True.intro | exact Or.inl True.intro | exact Or.inr True.intro | exact Or.inr rfl | rfl | exact Nat.le_of_ble_eq_true rfl | decide +kernel) ?_
  try first | done | assumption
  first | exact ih _ (iv_nx hi hP.to2) | exact ⟨fun _ => ih _ (iv_nx hi hP.to2), fun h => absurd rfl h⟩
theorem la_10 {g : cw_G} {n : Int} {M : cw_M} {Q : Option cw_V → cw_M → Prop} (hi : IV n M) (n0 : 0 ≤ n) (hl : 6 * n + 6 ≤ cw_xL g) (hx : cw_xL g ≤ 3072) (ih : ∀ M', IV (n + 1) M' → cw_J g y_La_law 0 cw_NX cw_NX 1515 [.inr (.inr (-5)), .inr (.inr 0), .inr (.inr 319), .inl (6 * n)] [] M' Q) : cw_J g y_La_law 0 cw_NX cw_NX 538 [.inr (.inr (-5)), .inr (.inr 0), .inr (.inr 319), .inl (6 * n)] [] M Q := by
  have k0 : cw_kt cw_NX 0 = (11, 0) := by decide +kernel
  have k1 : cw_kt cw_NX 319 = (12, 0) := by decide +kernel
  refine k_La_law_538 _ _ _ _ _ _ _ _ ?_
  simp only [↓w_nil, ↓w_cons, ↓w_ald1, ↓w_cv0, true_and, and_true, true_implies, false_implies, not_true_eq_false, not_false_eq_true, Int.reduceEq, Int.reduceLT, Int.reduceLE, Int.reduceNeg, w_c80, w_c8I, w_c8L, w_c8R, k0]
  repeat refine And.intro (by first | assumption | omega | exact sx32 _ | (unfold in32; omega) | (unfold in64; omega) | exact True.intro | exact Or.inl True.intro | exact Or.inr True.intro | exact Or.inr rfl | rfl | exact Nat.le_of_ble_eq_true rfl | decide +kernel) ?_
  try first | done | assumption
  refine ⟨_, o_fault hi, ?_⟩
  rintro r9 M9 ⟨v, hv, rfl, hR⟩
  refine k_La_law_542 _ _ _ _ _ _ _ _ ?_
  simp only [↓w_nil, ↓w_cons, ↓w_ald2, ↓w_cv0, true_and, and_true, true_implies, false_implies, not_true_eq_false, not_false_eq_true, Int.reduceEq, Int.reduceLT, Int.reduceLE, Int.reduceNeg, w_c80, w_c8I, w_c8L, w_c8R, w_tl1, k1]
  repeat refine And.intro (by first | assumption | omega | exact sx32 _ | (unfold in32; omega) | (unfold in64; omega) | exact True.intro | exact Or.inl True.intro | exact Or.inr True.intro | exact Or.inr rfl | rfl | exact Nat.le_of_ble_eq_true rfl | decide +kernel) ?_
  try first | done | assumption
  refine ⟨_, hR, ?_⟩
  rintro r8 M8 ⟨rfl, hP⟩
  refine k_La_law_546 _ _ _ _ _ _ _ _ ?_
  simp only [↓w_nil, ↓w_iceq, true_and, and_true, true_implies, false_implies, not_true_eq_false, not_false_eq_true, Int.reduceEq, Int.reduceLT, Int.reduceLE, Int.reduceNeg, w_tl1]
  repeat refine And.intro (by first | assumption | omega | exact sx32 _ | (unfold in32; omega) | (unfold in64; omega) | exact True.intro | exact Or.inl True.intro | exact Or.inr True.intro | exact Or.inr rfl | rfl | exact Nat.le_of_ble_eq_true rfl | decide +kernel) ?_
  try first | done | assumption
  first | exact ih _ hP | exact ⟨fun _ => ih _ hP, fun h => absurd rfl h⟩
theorem la_11 {g : cw_G} {n : Int} {M : cw_M} {Q : Option cw_V → cw_M → Prop} (hi : IV n M) (n0 : 0 ≤ n) (hl : 6 * n + 6 ≤ cw_xL g) (hx : cw_xL g ≤ 3072) (ih : ∀ M', IV (n + 1) M' → cw_J g y_La_law 0 cw_NX cw_NX 1515 [.inr (.inr (-5)), .inr (.inr 0), .inr (.inr 319), .inl (6 * n)] [] M' Q) : cw_J g y_La_law 0 cw_NX cw_NX 551 [.inr (.inr (-5)), .inr (.inr 0), .inr (.inr 319), .inl (6 * n)] [] M Q := by
  have k0 : cw_kt cw_NX 0 = (11, 0) := by decide +kernel
  have k1 : cw_kt cw_NX 319 = (12, 0) := by decide +kernel
  refine k_La_law_551 _ _ _ _ _ _ _ _ ?_
  simp only [↓w_nil, ↓w_cons, ↓w_ald1, ↓w_ald0, ↓w_ild3, ↓w_ic, ↓w_iadd, ↓w_sald, ↓w_cv1, true_and, and_true, true_implies, false_implies, not_true_eq_false, not_false_eq_true, Int.reduceEq, Int.reduceLT, Int.reduceLE, Int.reduceNeg, w_c80, w_c8I, w_c8L, w_c8R, k0]
  repeat refine And.intro (by first | assumption | omega | exact sx32 _ | (unfold in32; omega) | (unfold in64; omega) | exact True.intro | exact Or.inl True.intro | exact Or.inr True.intro | exact Or.inr rfl | rfl | exact Nat.le_of_ble_eq_true rfl | decide +kernel) ?_
  try first | done | assumption
  refine ⟨_, o_flow hi (sx32 _), ?_⟩
  rintro r9 M9 ⟨v, hv, rfl, hR⟩
  refine k_La_law_560 _ _ _ _ _ _ _ _ ?_
  simp only [↓w_nil, ↓w_cons, ↓w_ald2, ↓w_ald0, ↓w_ild3, ↓w_ic, ↓w_iadd, ↓w_sald, ↓w_cv1, true_and, and_true, true_implies, false_implies, not_true_eq_false, not_false_eq_true, Int.reduceEq, Int.reduceLT, Int.reduceLE, Int.reduceNeg, w_c80, w_c8I, w_c8L, w_c8R, w_tl1, k1]
  repeat refine And.intro (by first | assumption | omega | exact sx32 _ | (unfold in32; omega) | (unfold in64; omega) | exact True.intro | exact Or.inl True.intro | exact Or.inr True.intro | exact Or.inr rfl | rfl | exact Nat.le_of_ble_eq_true rfl | decide +kernel) ?_
  try first | done | assumption
  refine ⟨_, hR, ?_⟩
  rintro r8 M8 ⟨rfl, hP⟩
  refine k_La_law_569 _ _ _ _ _ _ _ _ ?_
  simp only [↓w_nil, ↓w_iceq, true_and, and_true, true_implies, false_implies, not_true_eq_false, not_false_eq_true, Int.reduceEq, Int.reduceLT, Int.reduceLE, Int.reduceNeg, w_tl1]
  repeat refine And.intro (by first | assumption | omega | exact sx32 _ | (unfold in32; omega) | (unfold in64; omega) | exact True.intro | exact Or.inl True.intro | exact Or.inr True.intro | exact Or.inr rfl | rfl | exact Nat.le_of_ble_eq_true rfl | decide +kernel) ?_
  try first | done | assumption
  first | exact ih _ hP | exact ⟨fun _ => ih _ hP, fun h => absurd rfl h⟩
theorem la_12 {g : cw_G} {n : Int} {M : cw_M} {Q : Option cw_V → cw_M → Prop} (hi : IV n M) (n0 : 0 ≤ n) (hl : 6 * n + 6 ≤ cw_xL g) (hx : cw_xL g ≤ 3072) (ih : ∀ M', IV (n + 1) M' → cw_J g y_La_law 0 cw_NX cw_NX 1515 [.inr (.inr (-5)), .inr (.inr 0), .inr (.inr 319), .inl (6 * n)] [] M' Q) : cw_J g y_La_law 0 cw_NX cw_NX 574 [.inr (.inr (-5)), .inr (.inr 0), .inr (.inr 319), .inl (6 * n)] [] M Q := by
  have k0 : cw_kt cw_NX 0 = (11, 0) := by decide +kernel
  have k1 : cw_kt cw_NX 319 = (12, 0) := by decide +kernel
  refine k_La_law_574 _ _ _ _ _ _ _ _ ?_
  simp only [↓w_nil, ↓w_cons, ↓w_ald1, ↓w_ald0, ↓w_ild3, ↓w_ic, ↓w_iadd, ↓w_sald, ↓w_cv1, true_and, and_true, true_implies, false_implies, not_true_eq_false, not_false_eq_true, Int.reduceEq, Int.reduceLT, Int.reduceLE, Int.reduceNeg, w_c80, w_c8I, w_c8L, w_c8R, k0]
  repeat refine And.intro (by first | assumption | omega | exact sx32 _ | (unfold in32; omega) | (unfold in64; omega) | exact True.intro | exact Or.inl True.intro | exact Or.inr True.intro | exact Or.inr rfl | rfl | exact Nat.le_of_ble_eq_true rfl | decide +kernel) ?_
  try first | done | assumption
  refine ⟨_, o_over hi (sx32 _), ?_⟩
  rintro r9 M9 ⟨v, hv, rfl, hR⟩
  refine k_La_law_583 _ _ _ _ _ _ _ _ ?_
  simp only [↓w_nil, ↓w_cons, ↓w_ald2, ↓w_ald0, ↓w_ild3, ↓w_ic, ↓w_iadd, ↓w_sald, ↓w_cv1, true_and, and_true, true_implies, false_implies, not_true_eq_false, not_false_eq_true, Int.reduceEq, Int.reduceLT, Int.reduceLE, Int.reduceNeg, w_c80, w_c8I, w_c8L, w_c8R, w_tl1, k1]
  repeat refine And.intro (by first | assumption | omega | exact sx32 _ | (unfold in32; omega) | (unfold in64; omega) | exact True.intro | exact Or.inl True.intro | exact Or.inr True.intro | exact Or.inr rfl | rfl | exact Nat.le_of_ble_eq_true rfl | decide +kernel) ?_
  try first | done | assumption
  refine ⟨_, hR, ?_⟩
  rintro r8 M8 ⟨rfl, hP⟩
  refine k_La_law_592 _ _ _ _ _ _ _ _ ?_
  simp only [↓w_nil, ↓w_iceq, true_and, and_true, true_implies, false_implies, not_true_eq_false, not_false_eq_true, Int.reduceEq, Int.reduceLT, Int.reduceLE, Int.reduceNeg, w_tl1]
  repeat refine And.intro (by first | assumption | omega | exact sx32 _ | (unfold in32; omega) | (unfold in64; omega) | exact True.intro | exact Or.inl True.intro | exact Or.inr True.intro | exact Or.inr rfl | rfl | exact Nat.le_of_ble_eq_true rfl | decide +kernel) ?_
  try first | done | assumption
  first | exact ih _ hP | exact ⟨fun _ => ih _ hP, fun h => absurd rfl h⟩
theorem la_13 {g : cw_G} {n : Int} {M : cw_M} {Q : Option cw_V → cw_M → Prop} (hi : IV n M) (n0 : 0 ≤ n) (hl : 6 * n + 6 ≤ cw_xL g) (hx : cw_xL g ≤ 3072) (ih : ∀ M', IV (n + 1) M' → cw_J g y_La_law 0 cw_NX cw_NX 1515 [.inr (.inr (-5)), .inr (.inr 0), .inr (.inr 319), .inl (6 * n)] [] M' Q) : cw_J g y_La_law 0 cw_NX cw_NX 597 [.inr (.inr (-5)), .inr (.inr 0), .inr (.inr 319), .inl (6 * n)] [] M Q := by
  have k0 : cw_kt cw_NX 0 = (11, 0) := by decide +kernel
  have k1 : cw_kt cw_NX 319 = (12, 0) := by decide +kernel
  refine k_La_law_597 _ _ _ _ _ _ _ _ ?_
  simp only [↓w_nil, ↓w_cons, ↓w_ald1, ↓w_ald0, ↓w_ild3, ↓w_ic, ↓w_iadd, ↓w_sald, ↓w_cv1, true_and, and_true, true_implies, false_implies, not_true_eq_false, not_false_eq_true, Int.reduceEq, Int.reduceLT, Int.reduceLE, Int.reduceNeg, w_c80, w_c8I, w_c8L, w_c8R, k0]
  repeat refine And.intro (by first | assumption | omega | exact sx32 _ | (unfold in32; omega) | (unfold in64; omega) | exact True.intro | exact Or.inl True.intro | exact Or.inr True.intro | exact Or.inr rfl | rfl | exact Nat.le_of_ble_eq_true rfl | decide +kernel) ?_
  try first | done | assumption
  refine ⟨_, o_part hi (sx32 _), ?_⟩
  rintro r9 M9 ⟨v, hv, rfl, hR⟩
  refine k_La_law_606 _ _ _ _ _ _ _ _ ?_
  simp only [↓w_nil, ↓w_cons, ↓w_ald2, ↓w_ald0, ↓w_ild3, ↓w_ic, ↓w_iadd, ↓w_sald, ↓w_cv1, true_and, and_true, true_implies, false_implies, not_true_eq_false, not_false_eq_true, Int.reduceEq, Int.reduceLT, Int.reduceLE, Int.reduceNeg, w_c80, w_c8I, w_c8L, w_c8R, w_tl1, k1]
  repeat refine And.intro (by first | assumption | omega | exact sx32 _ | (unfold in32; omega) | (unfold in64; omega) | exact True.intro | exact Or.inl True.intro | exact Or.inr True.intro | exact Or.inr rfl | rfl | exact Nat.le_of_ble_eq_true rfl | decide +kernel) ?_
  try first | done | assumption
  refine ⟨_, hR, ?_⟩
  rintro r8 M8 ⟨rfl, hP⟩
  refine k_La_law_615 _ _ _ _ _ _ _ _ ?_
  simp only [↓w_nil, ↓w_iceq, true_and, and_true, true_implies, false_implies, not_true_eq_false, not_false_eq_true, Int.reduceEq, Int.reduceLT, Int.reduceLE, Int.reduceNeg, w_tl1]
  repeat refine And.intro (by first | assumption | omega | exact sx32 _ | (unfold in32; omega) | (unfold in64; omega) | exact True.intro | exact Or.inl True.intro | exact Or.inr True.intro | exact Or.inr rfl | rfl | exact Nat.le_of_ble_eq_true rfl | decide +kernel) ?_
  try first | done | assumption
  first | exact ih _ hP | exact ⟨fun _ => ih _ hP, fun h => absurd rfl h⟩
theorem la_14 {g : cw_G} {n : Int} {M : cw_M} {Q : Option cw_V → cw_M → Prop} (hi : IV n M) (n0 : 0 ≤ n) (hl : 6 * n + 6 ≤ cw_xL g) (hx : cw_xL g ≤ 3072) (ih : ∀ M', IV (n + 1) M' → cw_J g y_La_law 0 cw_NX cw_NX 1515 [.inr (.inr (-5)), .inr (.inr 0), .inr (.inr 319), .inl (6 * n)] [] M' Q) : cw_J g y_La_law 0 cw_NX cw_NX 620 [.inr (.inr (-5)), .inr (.inr 0), .inr (.inr 319), .inl (6 * n)] [] M Q := by
  have k0 : cw_kt cw_NX 0 = (11, 0) := by decide +kernel
  have k1 : cw_kt cw_NX 319 = (12, 0) := by decide +kernel
  refine k_La_law_620 _ _ _ _ _ _ _ _ ?_
  simp only [↓w_nil, ↓w_cons, ↓w_ald1, ↓w_ald0, ↓w_ild3, ↓w_ic, ↓w_iadd, ↓w_sald, ↓w_cv1, true_and, and_true, true_implies, false_implies, not_true_eq_false, not_false_eq_true, Int.reduceEq, Int.reduceLT, Int.reduceLE, Int.reduceNeg, w_c80, w_c8I, w_c8L, w_c8R, k0]
  repeat refine And.intro (by first | assumption | omega | exact sx32 _ | (unfold in32; omega) | (unfold in64; omega) | exact True.intro | exact Or.inl True.intro | exact Or.inr True.intro | exact Or.inr rfl | rfl | exact Nat.le_of_ble_eq_true rfl | decide +kernel) ?_
  try first | done | assumption
  refine ⟨_, o_linked hi (sx32 _), ?_⟩
  rintro r9 M9 ⟨v, hv, rfl, hR⟩
  refine k_La_law_629 _ _ _ _ _ _ _ _ ?_
  simp only [↓w_nil, ↓w_cons, ↓w_ald2, ↓w_ald0, ↓w_ild3, ↓w_ic, ↓w_iadd, ↓w_sald, ↓w_cv1, true_and, and_true, true_implies, false_implies, not_true_eq_false, not_false_eq_true, Int.reduceEq, Int.reduceLT, Int.reduceLE, Int.reduceNeg, w_c80, w_c8I, w_c8L, w_c8R, w_tl1, k1]
  repeat refine And.intro (by first | assumption | omega | exact sx32 _ | (unfold in32; omega) | (unfold in64; omega) | exact True.intro | exact Or.inl True.intro | exact Or.inr True.intro | exact Or.inr rfl | rfl | exact Nat.le_of_ble_eq_true rfl | decide +kernel) ?_
  try first | done | assumption
  refine ⟨_, hR, ?_⟩
  rintro r8 M8 ⟨rfl, hP⟩
  refine k_La_law_638 _ _ _ _ _ _ _ _ ?_
  simp only [↓w_nil, ↓w_iceq, true_and, and_true, true_implies, false_implies, not_true_eq_false, not_false_eq_true, Int.reduceEq, Int.reduceLT, Int.reduceLE, Int.reduceNeg, w_tl1]
  repeat refine And.intro (by first | assumption | omega | exact sx32 _ | (unfold in32; omega) | (unfold in64; omega) | exact True.intro | exact Or.inl True.intro | exact Or.inr True.intro | exact Or.inr rfl | rfl | exact Nat.le_of_ble_eq_true rfl | decide +kernel) ?_
  try first | done | assumption
  first | exact ih _ hP | exact ⟨fun _ => ih _ hP, fun h => absurd rfl h⟩
theorem la_15 {g : cw_G} {n : Int} {M : cw_M} {Q : Option cw_V → cw_M → Prop} (hi : IV n M) (n0 : 0 ≤ n) (hl : 6 * n + 6 ≤ cw_xL g) (hx : cw_xL g ≤ 3072) (ih : ∀ M', IV (n + 1) M' → cw_J g y_La_law 0 cw_NX cw_NX 1515 [.inr (.inr (-5)), .inr (.inr 0), .inr (.inr 319), .inl (6 * n)] [] M' Q) : cw_J g y_La_law 0 cw_NX cw_NX 643 [.inr (.inr (-5)), .inr (.inr 0), .inr (.inr 319), .inl (6 * n)] [] M Q := by
  have k0 : cw_kt cw_NX 0 = (11, 0) := by decide +kernel
  have k1 : cw_kt cw_NX 319 = (12, 0) := by decide +kernel
  refine k_La_law_643 _ _ _ _ _ _ _ _ ?_
  simp only [↓w_nil, ↓w_cons, ↓w_ald1, ↓w_ald0, ↓w_ild3, ↓w_ic, ↓w_iadd, ↓w_sald, ↓w_cv2, true_and, and_true, true_implies, false_implies, not_true_eq_false, not_false_eq_true, Int.reduceEq, Int.reduceLT, Int.reduceLE, Int.reduceNeg, w_c80, w_c8I, w_c8L, w_c8R, k0]
  repeat refine And.intro (by first | assumption | omega | exact sx32 _ | (unfold in32; omega) | (unfold in64; omega) | exact True.intro | exact Or.inl True.intro | exact Or.inr True.intro | exact Or.inr rfl | rfl | exact Nat.le_of_ble_eq_true rfl | decide +kernel) ?_
  try first | done | assumption
  refine ⟨_, o_each hi (by omega) (sx32 _) (sx32 _), ?_⟩
  rintro r9 M9 ⟨v, hv, rfl, hR⟩
  refine k_La_law_657 _ _ _ _ _ _ _ _ ?_
  simp only [↓w_nil, ↓w_cons, ↓w_ald2, ↓w_ald0, ↓w_ild3, ↓w_ic, ↓w_iadd, ↓w_sald, ↓w_cv2, true_and, and_true, true_implies, false_implies, not_true_eq_false, not_false_eq_true, Int.reduceEq, Int.reduceLT, Int.reduceLE, Int.reduceNeg, w_c80, w_c8I, w_c8L, w_c8R, w_tl1, k1]
  repeat refine And.intro (by first | assumption | omega | exact sx32 _ | (unfold in32; omega) | (unfold in64; omega) | exact True.intro | exact Or.inl True.intro | exact Or.inr True.intro | exact Or.inr rfl | rfl | exact Nat.le_of_ble_eq_true rfl | decide +kernel) ?_
  try first | done | assumption
  refine ⟨_, hR, ?_⟩
  rintro r8 M8 ⟨rfl, hP⟩
  refine k_La_law_671 _ _ _ _ _ _ _ _ ?_
  simp only [↓w_nil, ↓w_iceq, true_and, and_true, true_implies, false_implies, not_true_eq_false, not_false_eq_true, Int.reduceEq, Int.reduceLT, Int.reduceLE, Int.reduceNeg, w_tl1]
  repeat refine And.intro (by first | assumption | omega | exact sx32 _ | (unfold in32; omega) | (unfold in64; omega) | exact True.intro | exact Or.inl True.intro | exact Or.inr True.intro | exact Or.inr rfl | rfl | exact Nat.le_of_ble_eq_true rfl | decide +kernel) ?_
  try first | done | assumption
  first | exact ih _ hP | exact ⟨fun _ => ih _ hP, fun h => absurd rfl h⟩
theorem la_16 {g : cw_G} {n : Int} {M : cw_M} {Q : Option cw_V → cw_M → Prop} (hi : IV n M) (n0 : 0 ≤ n) (hl : 6 * n + 6 ≤ cw_xL g) (hx : cw_xL g ≤ 3072) (ih : ∀ M', IV (n + 1) M' → cw_J g y_La_law 0 cw_NX cw_NX 1515 [.inr (.inr (-5)), .inr (.inr 0), .inr (.inr 319), .inl (6 * n)] [] M' Q) : cw_J g y_La_law 0 cw_NX cw_NX 676 [.inr (.inr (-5)), .inr (.inr 0), .inr (.inr 319), .inl (6 * n)] [] M Q := by
  have k0 : cw_kt cw_NX 0 = (11, 0) := by decide +kernel
  have k1 : cw_kt cw_NX 319 = (12, 0) := by decide +kernel
  refine k_La_law_676 _ _ _ _ _ _ _ _ ?_
  simp only [↓w_nil, ↓w_cons, ↓w_ald1, ↓w_cv0, true_and, and_true, true_implies, false_implies, not_true_eq_false, not_false_eq_true, Int.reduceEq, Int.reduceLT, Int.reduceLE, Int.reduceNeg, w_c80, w_c8I, w_c8L, w_c8R, k0]
  repeat refine And.intro (by first | assumption | omega | exact sx32 _ | (unfold in32; omega) | (unfold in64; omega) | exact True.intro | exact Or.inl True.intro | exact Or.inr True.intro | exact Or.inr rfl | rfl | exact Nat.le_of_ble_eq_true rfl | decide +kernel) ?_
  try first | done | assumption
  refine ⟨_, o_stored hi, ?_⟩
  rintro r9 M9 ⟨v, hv, rfl, hR⟩
  refine k_La_law_680 _ _ _ _ _ _ _ _ ?_
  simp only [↓w_nil, ↓w_cons, ↓w_ald2, ↓w_cv0, true_and, and_true, true_implies, false_implies, not_true_eq_false, not_false_eq_true, Int.reduceEq, Int.reduceLT, Int.reduceLE, Int.reduceNeg, w_c80, w_c8I, w_c8L, w_c8R, w_tl1, k1]
  repeat refine And.intro (by first | assumption | omega | exact sx32 _ | (unfold in32; omega) | (unfold in64; omega) | exact True.intro | exact Or.inl True.intro | exact Or.inr True.intro | exact Or.inr rfl | rfl | exact Nat.le_of_ble_eq_true rfl | decide +kernel) ?_
  try first | done | assumption
  refine ⟨_, hR, ?_⟩
  rintro r8 M8 ⟨rfl, hP⟩
  refine k_La_law_684 _ _ _ _ _ _ _ _ ?_
  simp only [↓w_nil, ↓w_iceq, true_and, and_true, true_implies, false_implies, not_true_eq_false, not_false_eq_true, Int.reduceEq, Int.reduceLT, Int.reduceLE, Int.reduceNeg, w_tl1]
  repeat refine And.intro (by first | assumption | omega | exact sx32 _ | (unfold in32; omega) | (unfold in64; omega) | exact True.intro | exact Or.inl True.intro | exact Or.inr True.intro | exact Or.inr rfl | rfl | exact Nat.le_of_ble_eq_true rfl | decide +kernel) ?_
  try first | done | assumption
  first | exact ih _ hP | exact ⟨fun _ => ih _ hP, fun h => absurd rfl h⟩
theorem la_17 {g : cw_G} {n : Int} {M : cw_M} {Q : Option cw_V → cw_M → Prop} (hi : IV n M) (n0 : 0 ≤ n) (hl : 6 * n + 6 ≤ cw_xL g) (hx : cw_xL g ≤ 3072) (ih : ∀ M', IV (n + 1) M' → cw_J g y_La_law 0 cw_NX cw_NX 1515 [.inr (.inr (-5)), .inr (.inr 0), .inr (.inr 319), .inl (6 * n)] [] M' Q) : cw_J g y_La_law 0 cw_NX cw_NX 689 [.inr (.inr (-5)), .inr (.inr 0), .inr (.inr 319), .inl (6 * n)] [] M Q := by
  have k0 : cw_kt cw_NX 0 = (11, 0) := by decide +kernel
  have k1 : cw_kt cw_NX 319 = (12, 0) := by decide +kernel
  refine k_La_law_689 _ _ _ _ _ _ _ _ ?_
  simp only [↓w_nil, ↓w_cons, ↓w_ald1, ↓w_ald0, ↓w_ild3, ↓w_ic, ↓w_iadd, ↓w_sald, ↓w_cv1, true_and, and_true, true_implies, false_implies, not_true_eq_false, not_false_eq_true, Int.reduceEq, Int.reduceLT, Int.reduceLE, Int.reduceNeg, w_c80, w_c8I, w_c8L, w_c8R, k0]
  repeat refine And.intro (by first | assumption | omega | exact sx32 _ | (unfold in32; omega) | (unfold in64; omega) | exact True.intro | exact Or.inl True.intro | exact Or.inr True.intro | exact Or.inr rfl | rfl | exact Nat.le_of_ble_eq_true rfl | decide +kernel) ?_
  try first | done | assumption
  refine ⟨_, o_push hi (sx32 _), ?_⟩
  rintro r9 M9 ⟨v, hv, rfl, hR⟩
  refine k_La_law_698 _ _ _ _ _ _ _ _ ?_
  simp only [↓w_nil, ↓w_cons, ↓w_ald2, ↓w_ald0, ↓w_ild3, ↓w_ic, ↓w_iadd, ↓w_sald, ↓w_cv1, true_and, and_true, true_implies, false_implies, not_true_eq_false, not_false_eq_true, Int.reduceEq, Int.reduceLT, Int.reduceLE, Int.reduceNeg, w_c80, w_c8I, w_c8L, w_c8R, w_tl1, k1]
  repeat refine And.intro (by first | assumption | omega | exact sx32 _ | (unfold in32; omega) | (unfold in64; omega) | exact True.intro | exact Or.inl True.intro | exact Or.inr True.intro | exact Or.inr rfl | rfl | exact Nat.le_of_ble_eq_true rfl | decide +kernel) ?_
  try first | done | assumption
  refine ⟨_, hR, ?_⟩
  rintro r8 M8 ⟨rfl, hP⟩
  refine k_La_law_707 _ _ _ _ _ _ _ _ ?_
  simp only [↓w_nil, ↓w_iceq, true_and, and_true, true_implies, false_implies, not_true_eq_false, not_false_eq_true, Int.reduceEq, Int.reduceLT, Int.reduceLE, Int.reduceNeg, w_tl1]
  repeat refine And.intro (by first | assumption | omega | exact sx32 _ | (unfold in32; omega) | (unfold in64; omega) | exact True.intro | exact Or.inl True.intro | exact Or.inr True.intro | exact Or.inr rfl | rfl | exact Nat.le_of_ble_eq_true rfl | decide +kernel) ?_
  try first | done | assumption
  first | exact ih _ hP | exact ⟨fun _ => ih _ hP, fun h => absurd rfl h⟩
theorem la_18 {g : cw_G} {n : Int} {M : cw_M} {Q : Option cw_V → cw_M → Prop} (hi : IV n M) (n0 : 0 ≤ n) (hl : 6 * n + 6 ≤ cw_xL g) (hx : cw_xL g ≤ 3072) (ih : ∀ M', IV (n + 1) M' → cw_J g y_La_law 0 cw_NX cw_NX 1515 [.inr (.inr (-5)), .inr (.inr 0), .inr (.inr 319), .inl (6 * n)] [] M' Q) : cw_J g y_La_law 0 cw_NX cw_NX 712 [.inr (.inr (-5)), .inr (.inr 0), .inr (.inr 319), .inl (6 * n)] [] M Q := by
  have k0 : cw_kt cw_NX 0 = (11, 0) := by decide +kernel
  have k1 : cw_kt cw_NX 319 = (12, 0) := by decide +kernel
  refine k_La_law_712 _ _ _ _ _ _ _ _ ?_
  simp only [↓w_nil, ↓w_cons, ↓w_ald1, ↓w_ald0, ↓w_ild3, ↓w_ic, ↓w_iadd, ↓w_sald, ↓w_cv1, true_and, and_true, true_implies, false_implies, not_true_eq_false, not_false_eq_true, Int.reduceEq, Int.reduceLT, Int.reduceLE, Int.reduceNeg, w_c80, w_c8I, w_c8L, w_c8R, k0]
  repeat refine And.intro (by first | assumption | omega | exact sx32 _ | (unfold in32; omega) | (unfold in64; omega) | exact True.intro | exact Or.inl True.intro | exact Or.inr True.intro | exact Or.inr rfl | rfl | exact Nat.le_of_ble_eq_true rfl | decide +kernel) ?_
  try first | done | assumption
  refine ⟨_, o_still hi (sx32 _), ?_⟩
  rintro r9 M9 ⟨v, hv, rfl, hR⟩
  refine k_La_law_721 _ _ _ _ _ _ _ _ ?_
  simp only [↓w_nil, ↓w_cons, ↓w_ald2, ↓w_ald0, ↓w_ild3, ↓w_ic, ↓w_iadd, ↓w_sald, ↓w_cv1, true_and, and_true, true_implies, false_implies, not_true_eq_false, not_false_eq_true, Int.reduceEq, Int.reduceLT, Int.reduceLE, Int.reduceNeg, w_c80, w_c8I, w_c8L, w_c8R, w_tl1, k1]
  repeat refine And.intro (by first | assumption | omega | exact sx32 _ | (unfold in32; omega) | (unfold in64; omega) | exact True.intro | exact Or.inl True.intro | exact Or.inr True.intro | exact Or.inr rfl | rfl | exact Nat.le_of_ble_eq_true rfl | decide +kernel) ?_
  try first | done | assumption
  refine ⟨_, hR, ?_⟩
  rintro r8 M8 ⟨rfl, hP⟩
  refine k_La_law_730 _ _ _ _ _ _ _ _ ?_
  simp only [↓w_nil, ↓w_iceq, true_and, and_true, true_implies, false_implies, not_true_eq_false, not_false_eq_true, Int.reduceEq, Int.reduceLT, Int.reduceLE, Int.reduceNeg, w_tl1]
  repeat refine And.intro (by first | assumption | omega | exact sx32 _ | (unfold in32; omega) | (unfold in64; omega) | exact True.intro | exact Or.inl True.intro | exact Or.inr True.intro | exact Or.inr rfl | rfl | exact Nat.le_of_ble_eq_true rfl | decide +kernel) ?_
  try first | done | assumption
  first | exact ih _ hP | exact ⟨fun _ => ih _ hP, fun h => absurd rfl h⟩
theorem la_19 {g : cw_G} {n : Int} {M : cw_M} {Q : Option cw_V → cw_M → Prop} (hi : IV n M) (n0 : 0 ≤ n) (hl : 6 * n + 6 ≤ cw_xL g) (hx : cw_xL g ≤ 3072) (ih : ∀ M', IV (n + 1) M' → cw_J g y_La_law 0 cw_NX cw_NX 1515 [.inr (.inr (-5)), .inr (.inr 0), .inr (.inr 319), .inl (6 * n)] [] M' Q) : cw_J g y_La_law 0 cw_NX cw_NX 735 [.inr (.inr (-5)), .inr (.inr 0), .inr (.inr 319), .inl (6 * n)] [] M Q := by
  have k0 : cw_kt cw_NX 0 = (11, 0) := by decide +kernel
  have k1 : cw_kt cw_NX 319 = (12, 0) := by decide +kernel
  refine k_La_law_735 _ _ _ _ _ _ _ _ ?_
  simp only [↓w_nil, ↓w_cons, ↓w_ald1, ↓w_ald0, ↓w_ild3, ↓w_ic, ↓w_iadd, ↓w_sald, ↓w_cv1, true_and, and_true, true_implies, false_implies, not_true_eq_false, not_false_eq_true, Int.reduceEq, Int.reduceLT, Int.reduceLE, Int.reduceNeg, w_c80, w_c8I, w_c8L, w_c8R, k0]
  repeat refine And.intro (by first | assumption | omega | exact sx32 _ | (unfold in32; omega) | (unfold in64; omega) | exact True.intro | exact Or.inl True.intro | exact Or.inr True.intro | exact Or.inr rfl | rfl | exact Nat.le_of_ble_eq_true rfl | decide +kernel) ?_
  try first | done | assumption
  refine ⟨_, o_limbs hi (sx32 _), ?_⟩
  rintro r9 M9 ⟨v, hv, rfl, hR⟩
  refine k_La_law_744 _ _ _ _ _ _ _ _ ?_
  simp only [↓w_nil, ↓w_cons, ↓w_ald2, ↓w_ald0, ↓w_ild3, ↓w_ic, ↓w_iadd, ↓w_sald, ↓w_cv1, true_and, and_true, true_implies, false_implies, not_true_eq_false, not_false_eq_true, Int.reduceEq, Int.reduceLT, Int.reduceLE, Int.reduceNeg, w_c80, w_c8I, w_c8L, w_c8R, w_tl1, k1]
  repeat refine And.intro (by first | assumption | omega | exact sx32 _ | (unfold in32; omega) | (unfold in64; omega) | exact True.intro | exact Or.inl True.intro | exact Or.inr True.intro | exact Or.inr rfl | rfl | exact Nat.le_of_ble_eq_true rfl | decide +kernel) ?_
  try first | done | assumption
  refine ⟨_, hR, ?_⟩
  rintro r8 M8 ⟨rfl, hP⟩
  refine k_La_law_753 _ _ _ _ _ _ _ _ ?_
  simp only [↓w_nil, ↓w_iceq, true_and, and_true, true_implies, false_implies, not_true_eq_false, not_false_eq_true, Int.reduceEq, Int.reduceLT, Int.reduceLE, Int.reduceNeg, w_tl1]
  repeat refine And.intro (by first | assumption | omega | exact sx32 _ | (unfold in32; omega) | (unfold in64; omega) | exact True.intro | exact Or.inl True.intro | exact Or.inr True.intro | exact Or.inr rfl | rfl | exact Nat.le_of_ble_eq_true rfl | decide +kernel) ?_
  try first | done | assumption
  first | exact ih _ hP | exact ⟨fun _ => ih _ hP, fun h => absurd rfl h⟩
theorem la_20 {g : cw_G} {n : Int} {M : cw_M} {Q : Option cw_V → cw_M → Prop} (hi : IV n M) (n0 : 0 ≤ n) (hl : 6 * n + 6 ≤ cw_xL g) (hx : cw_xL g ≤ 3072) (ih : ∀ M', IV (n + 1) M' → cw_J g y_La_law 0 cw_NX cw_NX 1515 [.inr (.inr (-5)), .inr (.inr 0), .inr (.inr 319), .inl (6 * n)] [] M' Q) : cw_J g y_La_law 0 cw_NX cw_NX 758 [.inr (.inr (-5)), .inr (.inr 0), .inr (.inr 319), .inl (6 * n)] [] M Q := by
  have k0 : cw_kt cw_NX 0 = (11, 0) := by decide +kernel
  have k1 : cw_kt cw_NX 319 = (12, 0) := by decide +kernel
  refine k_La_law_758 _ _ _ _ _ _ _ _ ?_
  simp only [↓w_nil, ↓w_cons, ↓w_ald1, ↓w_ald0, ↓w_ild3, ↓w_ic, ↓w_iadd, ↓w_sald, ↓w_cv2, true_and, and_true, true_implies, false_implies, not_true_eq_false, not_false_eq_true, Int.reduceEq, Int.reduceLT, Int.reduceLE, Int.reduceNeg, w_c80, w_c8I, w_c8L, w_c8R, k0]
  repeat refine And.intro (by first | assumption | omega | exact sx32 _ | (unfold in32; omega) | (unfold in64; omega) | exact True.intro | exact Or.inl True.intro | exact Or.inr True.intro | exact Or.inr rfl | rfl | exact Nat.le_of_ble_eq_true rfl | decide +kernel) ?_
  try first | done | assumption
  refine ⟨_, o_limb hi (sx32 _) (sx32 _), ?_⟩
  rintro r9 M9 ⟨v, hv, rfl, hR⟩
  refine k_La_law_772 _ _ _ _ _ _ _ _ ?_
  simp only [↓w_nil, ↓w_cons, ↓w_ald2, ↓w_ald0, ↓w_ild3, ↓w_ic, ↓w_iadd, ↓w_sald, ↓w_cv2, true_and, and_true, true_implies, false_implies, not_true_eq_false, not_false_eq_true, Int.reduceEq, Int.reduceLT, Int.reduceLE, Int.reduceNeg, w_c80, w_c8I, w_c8L, w_c8R, w_tl1, k1]
  repeat refine And.intro (by first | assumption | omega | exact sx32 _ | (unfold in32; omega) | (unfold in64; omega) | exact True.intro | exact Or.inl True.intro | exact Or.inr True.intro | exact Or.inr rfl | rfl | exact Nat.le_of_ble_eq_true rfl | decide +kernel) ?_
  try first | done | assumption
  refine ⟨_, hR, ?_⟩
  rintro r8 M8 ⟨rfl, hP⟩
  refine k_La_law_786 _ _ _ _ _ _ _ _ ?_
  simp only [↓w_nil, ↓w_iceq, true_and, and_true, true_implies, false_implies, not_true_eq_false, not_false_eq_true, Int.reduceEq, Int.reduceLT, Int.reduceLE, Int.reduceNeg, w_tl1]
  repeat refine And.intro (by first | assumption | omega | exact sx32 _ | (unfold in32; omega) | (unfold in64; omega) | exact True.intro | exact Or.inl True.intro | exact Or.inr True.intro | exact Or.inr rfl | rfl | exact Nat.le_of_ble_eq_true rfl | decide +kernel) ?_
  try first | done | assumption
  first | exact ih _ hP | exact ⟨fun _ => ih _ hP, fun h => absurd rfl h⟩
theorem la_21 {g : cw_G} {n : Int} {M : cw_M} {Q : Option cw_V → cw_M → Prop} (hi : IV n M) (n0 : 0 ≤ n) (hl : 6 * n + 6 ≤ cw_xL g) (hx : cw_xL g ≤ 3072) (ih : ∀ M', IV (n + 1) M' → cw_J g y_La_law 0 cw_NX cw_NX 1515 [.inr (.inr (-5)), .inr (.inr 0), .inr (.inr 319), .inl (6 * n)] [] M' Q) : cw_J g y_La_law 0 cw_NX cw_NX 791 [.inr (.inr (-5)), .inr (.inr 0), .inr (.inr 319), .inl (6 * n)] [] M Q := by
  have k0 : cw_kt cw_NX 0 = (11, 0) := by decide +kernel
  have k1 : cw_kt cw_NX 319 = (12, 0) := by decide +kernel
  refine k_La_law_791 _ _ _ _ _ _ _ _ ?_
  simp only [↓w_nil, ↓w_cons, ↓w_ald1, ↓w_cv0, true_and, and_true, true_implies, false_implies, not_true_eq_false, not_false_eq_true, Int.reduceEq, Int.reduceLT, Int.reduceLE, Int.reduceNeg, w_c80, w_c8I, w_c8L, w_c8R, k0]
  repeat refine And.intro (by first | assumption | omega | exact sx32 _ | (unfold in32; omega) | (unfold in64; omega) | exact True.intro | exact Or.inl True.intro | exact Or.inr True.intro | exact Or.inr rfl | rfl | exact Nat.le_of_ble_eq_true rfl | decide +kernel) ?_
  try first | done | assumption
  refine ⟨_, o_floor hi, ?_⟩
  rintro r9 M9 ⟨v, hv, rfl, hR⟩
  refine k_La_law_795 _ _ _ _ _ _ _ _ ?_
  simp only [↓w_nil, ↓w_cons, ↓w_ald2, ↓w_cv0, true_and, and_true, true_implies, false_implies, not_true_eq_false, not_false_eq_true, Int.reduceEq, Int.reduceLT, Int.reduceLE, Int.reduceNeg, w_c80, w_c8I, w_c8L, w_c8R, w_tl1, k1]
  repeat refine And.intro (by first | assumption | omega | exact sx32 _ | (unfold in32; omega) | (unfold in64; omega) | exact True.intro | exact Or.inl True.intro | exact Or.inr True.intro | exact Or.inr rfl | rfl | exact Nat.le_of_ble_eq_true rfl | decide +kernel) ?_
  try first | done | assumption
  refine ⟨_, hR, ?_⟩
  rintro r8 M8 ⟨rfl, hP⟩
  refine k_La_law_799 _ _ _ _ _ _ _ _ ?_
  simp only [↓w_nil, ↓w_lceq, true_and, and_true, true_implies, false_implies, not_true_eq_false, not_false_eq_true, Int.reduceEq, Int.reduceLT, Int.reduceLE, Int.reduceNeg, w_tl1]
  repeat refine And.intro (by first | assumption | omega | exact sx32 _ | (unfold in32; omega) | (unfold in64; omega) | exact True.intro | exact Or.inl True.intro | exact Or.inr True.intro | exact Or.inr rfl | rfl | exact Nat.le_of_ble_eq_true rfl | decide +kernel) ?_
  try first | done | assumption
  first | exact ih _ hP | exact ⟨fun _ => ih _ hP, fun h => absurd rfl h⟩
theorem la_22 {g : cw_G} {n : Int} {M : cw_M} {Q : Option cw_V → cw_M → Prop} (hi : IV n M) (n0 : 0 ≤ n) (hl : 6 * n + 6 ≤ cw_xL g) (hx : cw_xL g ≤ 3072) (ih : ∀ M', IV (n + 1) M' → cw_J g y_La_law 0 cw_NX cw_NX 1515 [.inr (.inr (-5)), .inr (.inr 0), .inr (.inr 319), .inl (6 * n)] [] M' Q) : cw_J g y_La_law 0 cw_NX cw_NX 805 [.inr (.inr (-5)), .inr (.inr 0), .inr (.inr 319), .inl (6 * n)] [] M Q := by
  have k0 : cw_kt cw_NX 0 = (11, 0) := by decide +kernel
  have k1 : cw_kt cw_NX 319 = (12, 0) := by decide +kernel
  refine k_La_law_805 _ _ _ _ _ _ _ _ ?_
  simp only [↓w_nil, ↓w_cons, ↓w_ald1, ↓w_ald0, ↓w_ild3, ↓w_ic, ↓w_iadd, ↓w_sald, ↓w_i2l, ↓w_lshl, ↓w_lc, ↓w_land, ↓w_lor, ↓w_cv3, true_and, and_true, true_implies, false_implies, not_true_eq_false, not_false_eq_true, Int.reduceEq, Int.reduceLT, Int.reduceLE, Int.reduceNeg, w_c80, w_c8I, w_c8L, w_c8R, k0]
  repeat refine And.intro (by first | assumption | omega | exact sx32 _ | (unfold in32; omega) | (unfold in64; omega) | exact True.intro | exact Or.inl True.intro | exact Or.inr True.intro | exact Or.inr rfl | rfl | exact Nat.le_of_ble_eq_true rfl | decide +kernel) ?_
  try first | done | assumption
  refine ⟨_, o_see hi.1 hi.2.1 ⟨by omega, by omega⟩ (sx32 _) (sx32 _) or64_in, ?_⟩
  rintro r9 M9 ⟨v, hv, rfl, hR⟩
  refine k_La_law_839 _ _ _ _ _ _ _ _ ?_
  simp only [↓w_nil, ↓w_cons, ↓w_ald2, ↓w_ald0, ↓w_ild3, ↓w_ic, ↓w_iadd, ↓w_sald, ↓w_i2l, ↓w_lshl, ↓w_lc, ↓w_land, ↓w_lor, ↓w_cv3, true_and, and_true, true_implies, false_implies, not_true_eq_false, not_false_eq_true, Int.reduceEq, Int.reduceLT, Int.reduceLE, Int.reduceNeg, w_c80, w_c8I, w_c8L, w_c8R, w_tl1, k1]
  repeat refine And.intro (by first | assumption | omega | exact sx32 _ | (unfold in32; omega) | (unfold in64; omega) | exact True.intro | exact Or.inl True.intro | exact Or.inr True.intro | exact Or.inr rfl | rfl | exact Nat.le_of_ble_eq_true rfl | decide +kernel) ?_
  try first | done | assumption
  refine ⟨_, hR, ?_⟩
  rintro r8 M8 ⟨rfl, hP⟩
  refine k_La_law_873 _ _ _ _ _ _ _ _ ?_
  simp only [↓w_nil, ↓w_iceq, true_and, and_true, true_implies, false_implies, not_true_eq_false, not_false_eq_true, Int.reduceEq, Int.reduceLT, Int.reduceLE, Int.reduceNeg, w_tl1]
  repeat refine And.intro (by first | assumption | omega | exact sx32 _ | (unfold in32; omega) | (unfold in64; omega) | exact True.intro | exact Or.inl True.intro | exact Or.inr True.intro | exact Or.inr rfl | rfl | exact Nat.le_of_ble_eq_true rfl | decide +kernel) ?_
  try first | done | assumption
  first | exact ih _ (iv_nx hi hP.to2) | exact ⟨fun _ => ih _ (iv_nx hi hP.to2), fun h => absurd rfl h⟩
theorem la_23 {g : cw_G} {n : Int} {M : cw_M} {Q : Option cw_V → cw_M → Prop} (hi : IV n M) (n0 : 0 ≤ n) (hl : 6 * n + 6 ≤ cw_xL g) (hx : cw_xL g ≤ 3072) (ih : ∀ M', IV (n + 1) M' → cw_J g y_La_law 0 cw_NX cw_NX 1515 [.inr (.inr (-5)), .inr (.inr 0), .inr (.inr 319), .inl (6 * n)] [] M' Q) : cw_J g y_La_law 0 cw_NX cw_NX 878 [.inr (.inr (-5)), .inr (.inr 0), .inr (.inr 319), .inl (6 * n)] [] M Q := by
  have k0 : cw_kt cw_NX 0 = (11, 0) := by decide +kernel
  have k1 : cw_kt cw_NX 319 = (12, 0) := by decide +kernel
  refine k_La_law_878 _ _ _ _ _ _ _ _ ?_
  simp only [↓w_nil, ↓w_cons, ↓w_ald1, ↓w_cv0, true_and, and_true, true_implies, false_implies, not_true_eq_false, not_false_eq_true, Int.reduceEq, Int.reduceLT, Int.reduceLE, Int.reduceNeg, w_c80, w_c8I, w_c8L, w_c8R, k0]
  repeat refine And.intro (by first | assumption | omega | exact sx32 _ | (unfold in32; omega) | (unfold in64; omega) | exact True.intro | exact Or.inl True.intro | exact Or.inr True.intro | exact Or.inr rfl | rfl | exact Nat.le_of_ble_eq_true rfl | decide +kernel) ?_
  try first | done | assumption
  refine ⟨_, o_forget hi.1 hi.2.1 ⟨by omega, by omega⟩, ?_⟩
  rintro r9 M9 ⟨v, hv, rfl, hR⟩
  refine k_La_law_882 _ _ _ _ _ _ _ _ ?_
  simp only [↓w_nil, ↓w_cons, ↓w_ald2, ↓w_cv0, true_and, and_true, true_implies, false_implies, not_true_eq_false, not_false_eq_true, Int.reduceEq, Int.reduceLT, Int.reduceLE, Int.reduceNeg, w_c80, w_c8I, w_c8L, w_c8R, w_tl1, k1]
  repeat refine And.intro (by first | assumption | omega | exact sx32 _ | (unfold in32; omega) | (unfold in64; omega) | exact True.intro | exact Or.inl True.intro | exact Or.inr True.intro | exact Or.inr rfl | rfl | exact Nat.le_of_ble_eq_true rfl | decide +kernel) ?_
  try first | done | assumption
  refine ⟨_, hR, ?_⟩
  rintro r8 M8 ⟨rfl, hP⟩
  refine k_La_law_886 _ _ _ _ _ _ _ _ ?_
  simp only [↓w_nil, ↓w_iceq, true_and, and_true, true_implies, false_implies, not_true_eq_false, not_false_eq_true, Int.reduceEq, Int.reduceLT, Int.reduceLE, Int.reduceNeg, w_tl1]
  repeat refine And.intro (by first | assumption | omega | exact sx32 _ | (unfold in32; omega) | (unfold in64; omega) | exact True.intro | exact Or.inl True.intro | exact Or.inr True.intro | exact Or.inr rfl | rfl | exact Nat.le_of_ble_eq_true rfl | decide +kernel) ?_
  try first | done | assumption
  first | exact ih _ (iv_nx hi hP.to2) | exact ⟨fun _ => ih _ (iv_nx hi hP.to2), fun h => absurd rfl h⟩
theorem la_24 {g : cw_G} {n : Int} {M : cw_M} {Q : Option cw_V → cw_M → Prop} (hi : IV n M) (n0 : 0 ≤ n) (hl : 6 * n + 6 ≤ cw_xL g) (hx : cw_xL g ≤ 3072) (ih : ∀ M', IV (n + 1) M' → cw_J g y_La_law 0 cw_NX cw_NX 1515 [.inr (.inr (-5)), .inr (.inr 0), .inr (.inr 319), .inl (6 * n)] [] M' Q) : cw_J g y_La_law 0 cw_NX cw_NX 891 [.inr (.inr (-5)), .inr (.inr 0), .inr (.inr 319), .inl (6 * n)] [] M Q := by
  have k0 : cw_kt cw_NX 0 = (11, 0) := by decide +kernel
  have k1 : cw_kt cw_NX 319 = (12, 0) := by decide +kernel
  refine k_La_law_891 _ _ _ _ _ _ _ _ ?_
  simp only [↓w_nil, ↓w_cons, ↓w_ald1, ↓w_cv0, true_and, and_true, true_implies, false_implies, not_true_eq_false, not_false_eq_true, Int.reduceEq, Int.reduceLT, Int.reduceLE, Int.reduceNeg, w_c80, w_c8I, w_c8L, w_c8R, k0]
  repeat refine And.intro (by first | assumption | omega | exact sx32 _ | (unfold in32; omega) | (unfold in64; omega) | exact True.intro | exact Or.inl True.intro | exact Or.inr True.intro | exact Or.inr rfl | rfl | exact Nat.le_of_ble_eq_true rfl | decide +kernel) ?_
  try first | done | assumption
  refine ⟨_, o_fits hi, ?_⟩
  rintro r9 M9 ⟨v, hv, rfl, hR⟩
  refine k_La_law_895 _ _ _ _ _ _ _ _ ?_
  simp only [↓w_nil, ↓w_cons, ↓w_ald2, ↓w_cv0, true_and, and_true, true_implies, false_implies, not_true_eq_false, not_false_eq_true, Int.reduceEq, Int.reduceLT, Int.reduceLE, Int.reduceNeg, w_c80, w_c8I, w_c8L, w_c8R, w_tl1, k1]
  repeat refine And.intro (by first | assumption | omega | exact sx32 _ | (unfold in32; omega) | (unfold in64; omega) | exact True.intro | exact Or.inl True.intro | exact Or.inr True.intro | exact Or.inr rfl | rfl | exact Nat.le_of_ble_eq_true rfl | decide +kernel) ?_
  try first | done | assumption
  refine ⟨_, hR, ?_⟩
  rintro r8 M8 ⟨rfl, hP⟩
  refine k_La_law_899 _ _ _ _ _ _ _ _ ?_
  simp only [↓w_nil, ↓w_iceq, true_and, and_true, true_implies, false_implies, not_true_eq_false, not_false_eq_true, Int.reduceEq, Int.reduceLT, Int.reduceLE, Int.reduceNeg, w_tl1]
  repeat refine And.intro (by first | assumption | omega | exact sx32 _ | (unfold in32; omega) | (unfold in64; omega) | exact True.intro | exact Or.inl True.intro | exact Or.inr True.intro | exact Or.inr rfl | rfl | exact Nat.le_of_ble_eq_true rfl | decide +kernel) ?_
  try first | done | assumption
  first | exact ih _ hP | exact ⟨fun _ => ih _ hP, fun h => absurd rfl h⟩
theorem la_25 {g : cw_G} {n : Int} {M : cw_M} {Q : Option cw_V → cw_M → Prop} (hi : IV n M) (n0 : 0 ≤ n) (hl : 6 * n + 6 ≤ cw_xL g) (hx : cw_xL g ≤ 3072) (ih : ∀ M', IV (n + 1) M' → cw_J g y_La_law 0 cw_NX cw_NX 1515 [.inr (.inr (-5)), .inr (.inr 0), .inr (.inr 319), .inl (6 * n)] [] M' Q) : cw_J g y_La_law 0 cw_NX cw_NX 904 [.inr (.inr (-5)), .inr (.inr 0), .inr (.inr 319), .inl (6 * n)] [] M Q := by
  have k0 : cw_kt cw_NX 0 = (11, 0) := by decide +kernel
  have k1 : cw_kt cw_NX 319 = (12, 0) := by decide +kernel
  refine k_La_law_904 _ _ _ _ _ _ _ _ ?_
  simp only [↓w_nil, ↓w_cons, ↓w_ald1, ↓w_ald0, ↓w_ild3, ↓w_ic, ↓w_iadd, ↓w_sald, ↓w_cv4, true_and, and_true, true_implies, false_implies, not_true_eq_false, not_false_eq_true, Int.reduceEq, Int.reduceLT, Int.reduceLE, Int.reduceNeg, w_c80, w_c8I, w_c8L, w_c8R, k0]
  repeat refine And.intro (by first | assumption | omega | exact sx32 _ | (unfold in32; omega) | (unfold in64; omega) | exact True.intro | exact Or.inl True.intro | exact Or.inr True.intro | exact Or.inr rfl | rfl | exact Nat.le_of_ble_eq_true rfl | decide +kernel) ?_
  try first | done | assumption
  refine ⟨_, o_grade hi (sx32 _) (sx32 _) (sx32 _) (sx32 _), ?_⟩
  rintro r9 M9 ⟨v, hv, rfl, hR⟩
  refine k_La_law_928 _ _ _ _ _ _ _ _ ?_
  simp only [↓w_nil, ↓w_cons, ↓w_ald2, ↓w_ald0, ↓w_ild3, ↓w_ic, ↓w_iadd, ↓w_sald, ↓w_cv4, true_and, and_true, true_implies, false_implies, not_true_eq_false, not_false_eq_true, Int.reduceEq, Int.reduceLT, Int.reduceLE, Int.reduceNeg, w_c80, w_c8I, w_c8L, w_c8R, w_tl1, k1]
  repeat refine And.intro (by first | assumption | omega | exact sx32 _ | (unfold in32; omega) | (unfold in64; omega) | exact True.intro | exact Or.inl True.intro | exact Or.inr True.intro | exact Or.inr rfl | rfl | exact Nat.le_of_ble_eq_true rfl | decide +kernel) ?_
  try first | done | assumption
  refine ⟨_, hR, ?_⟩
  rintro r8 M8 ⟨rfl, hP⟩
  refine k_La_law_952 _ _ _ _ _ _ _ _ ?_
  simp only [↓w_nil, ↓w_iceq, true_and, and_true, true_implies, false_implies, not_true_eq_false, not_false_eq_true, Int.reduceEq, Int.reduceLT, Int.reduceLE, Int.reduceNeg, w_tl1]
  repeat refine And.intro (by first | assumption | omega | exact sx32 _ | (unfold in32; omega) | (unfold in64; omega) | exact True.intro | exact Or.inl True.intro | exact Or.inr True.intro | exact Or.inr rfl | rfl | exact Nat.le_of_ble_eq_true rfl | decide +kernel) ?_
  try first | done | assumption
  first | exact ih _ hP | exact ⟨fun _ => ih _ hP, fun h => absurd rfl h⟩
theorem la_26 {g : cw_G} {n : Int} {M : cw_M} {Q : Option cw_V → cw_M → Prop} (hi : IV n M) (n0 : 0 ≤ n) (hl : 6 * n + 6 ≤ cw_xL g) (hx : cw_xL g ≤ 3072) (ih : ∀ M', IV (n + 1) M' → cw_J g y_La_law 0 cw_NX cw_NX 1515 [.inr (.inr (-5)), .inr (.inr 0), .inr (.inr 319), .inl (6 * n)] [] M' Q) : cw_J g y_La_law 0 cw_NX cw_NX 957 [.inr (.inr (-5)), .inr (.inr 0), .inr (.inr 319), .inl (6 * n)] [] M Q := by
  have k0 : cw_kt cw_NX 0 = (11, 0) := by decide +kernel
  have k1 : cw_kt cw_NX 319 = (12, 0) := by decide +kernel
  refine k_La_law_957 _ _ _ _ _ _ _ _ ?_
  simp only [↓w_nil, ↓w_cons, ↓w_ald1, ↓w_ald0, ↓w_ild3, ↓w_ic, ↓w_iadd, ↓w_sald, ↓w_cv1, true_and, and_true, true_implies, false_implies, not_true_eq_false, not_false_eq_true, Int.reduceEq, Int.reduceLT, Int.reduceLE, Int.reduceNeg, w_c80, w_c8I, w_c8L, w_c8R, k0]
  repeat refine And.intro (by first | assumption | omega | exact sx32 _ | (unfold in32; omega) | (unfold in64; omega) | exact True.intro | exact Or.inl True.intro | exact Or.inr True.intro | exact Or.inr rfl | rfl | exact Nat.le_of_ble_eq_true rfl | decide +kernel) ?_
  try first | done | assumption
  refine ⟨_, o_slots hi.1 hi.2.1 ⟨by omega, by omega⟩ (sx32 _), ?_⟩
  rintro r9 M9 ⟨v, hv, rfl, hR⟩
  refine k_La_law_966 _ _ _ _ _ _ _ _ ?_
  simp only [↓w_nil, ↓w_cons, ↓w_ald2, ↓w_ald0, ↓w_ild3, ↓w_ic, ↓w_iadd, ↓w_sald, ↓w_cv1, true_and, and_true, true_implies, false_implies, not_true_eq_false, not_false_eq_true, Int.reduceEq, Int.reduceLT, Int.reduceLE, Int.reduceNeg, w_c80, w_c8I, w_c8L, w_c8R, w_tl1, k1]
  repeat refine And.intro (by first | assumption | omega | exact sx32 _ | (unfold in32; omega) | (unfold in64; omega) | exact True.intro | exact Or.inl True.intro | exact Or.inr True.intro | exact Or.inr rfl | rfl | exact Nat.le_of_ble_eq_true rfl | decide +kernel) ?_
  try first | done | assumption
  refine ⟨_, hR, ?_⟩
  rintro r8 M8 ⟨rfl, hP⟩
  refine k_La_law_975 _ _ _ _ _ _ _ _ ?_
  simp only [↓w_nil, ↓w_iceq, true_and, and_true, true_implies, false_implies, not_true_eq_false, not_false_eq_true, Int.reduceEq, Int.reduceLT, Int.reduceLE, Int.reduceNeg, w_tl1]
  repeat refine And.intro (by first | assumption | omega | exact sx32 _ | (unfold in32; omega) | (unfold in64; omega) | exact True.intro | exact Or.inl True.intro | exact Or.inr True.intro | exact Or.inr rfl | rfl | exact Nat.le_of_ble_eq_true rfl | decide +kernel) ?_
  try first | done | assumption
  first | exact ih _ (iv_nx hi hP.to2) | exact ⟨fun _ => ih _ (iv_nx hi hP.to2), fun h => absurd rfl h⟩
theorem la_27 {g : cw_G} {n : Int} {M : cw_M} {Q : Option cw_V → cw_M → Prop} (hi : IV n M) (n0 : 0 ≤ n) (hl : 6 * n + 6 ≤ cw_xL g) (hx : cw_xL g ≤ 3072) (ih : ∀ M', IV (n + 1) M' → cw_J g y_La_law 0 cw_NX cw_NX 1515 [.inr (.inr (-5)), .inr (.inr 0), .inr (.inr 319), .inl (6 * n)] [] M' Q) : cw_J g y_La_law 0 cw_NX cw_NX 980 [.inr (.inr (-5)), .inr (.inr 0), .inr (.inr 319), .inl (6 * n)] [] M Q := by
  have k0 : cw_kt cw_NX 0 = (11, 0) := by decide +kernel
  have k1 : cw_kt cw_NX 319 = (12, 0) := by decide +kernel
  refine k_La_law_980 _ _ _ _ _ _ _ _ ?_
  simp only [↓w_nil, ↓w_cons, ↓w_ald1, ↓w_ald0, ↓w_ild3, ↓w_ic, ↓w_iadd, ↓w_sald, ↓w_cv3, true_and, and_true, true_implies, false_implies, not_true_eq_false, not_false_eq_true, Int.reduceEq, Int.reduceLT, Int.reduceLE, Int.reduceNeg, w_c80, w_c8I, w_c8L, w_c8R, k0]
  repeat refine And.intro (by first | assumption | omega | exact sx32 _ | (unfold in32; omega) | (unfold in64; omega) | exact True.intro | exact Or.inl True.intro | exact Or.inr True.intro | exact Or.inr rfl | rfl | exact Nat.le_of_ble_eq_true rfl | decide +kernel) ?_
  try first | done | assumption
  refine ⟨_, o_side hi.1 hi.2.1 ⟨by omega, by omega⟩ (sx32 _) (sx32 _) (sx32 _), ?_⟩
  rintro r9 M9 ⟨v, hv, rfl, hR⟩
  refine k_La_law_999 _ _ _ _ _ _ _ _ ?_
  simp only [↓w_nil, ↓w_cons, ↓w_ald2, ↓w_ald0, ↓w_ild3, ↓w_ic, ↓w_iadd, ↓w_sald, ↓w_cv3, true_and, and_true, true_implies, false_implies, not_true_eq_false, not_false_eq_true, Int.reduceEq, Int.reduceLT, Int.reduceLE, Int.reduceNeg, w_c80, w_c8I, w_c8L, w_c8R, w_tl1, k1]
  repeat refine And.intro (by first | assumption | omega | exact sx32 _ | (unfold in32; omega) | (unfold in64; omega) | exact True.intro | exact Or.inl True.intro | exact Or.inr True.intro | exact Or.inr rfl | rfl | exact Nat.le_of_ble_eq_true rfl | decide +kernel) ?_
  try first | done | assumption
  refine ⟨_, hR, ?_⟩
  rintro r8 M8 ⟨rfl, hP⟩
  refine k_La_law_1018 _ _ _ _ _ _ _ _ ?_
  simp only [↓w_nil, ↓w_iceq, true_and, and_true, true_implies, false_implies, not_true_eq_false, not_false_eq_true, Int.reduceEq, Int.reduceLT, Int.reduceLE, Int.reduceNeg, w_tl1]
  repeat refine And.intro (by first | assumption | omega | exact sx32 _ | (unfold in32; omega) | (unfold in64; omega) | exact True.intro | exact Or.inl True.intro | exact Or.inr True.intro | exact Or.inr rfl | rfl | exact Nat.le_of_ble_eq_true rfl | decide +kernel) ?_
  try first | done | assumption
  first | exact ih _ (iv_nx hi hP.to2) | exact ⟨fun _ => ih _ (iv_nx hi hP.to2), fun h => absurd rfl h⟩
theorem la_28 {g : cw_G} {n : Int} {M : cw_M} {Q : Option cw_V → cw_M → Prop} (hi : IV n M) (n0 : 0 ≤ n) (hl : 6 * n + 6 ≤ cw_xL g) (hx : cw_xL g ≤ 3072) (ih : ∀ M', IV (n + 1) M' → cw_J g y_La_law 0 cw_NX cw_NX 1515 [.inr (.inr (-5)), .inr (.inr 0), .inr (.inr 319), .inl (6 * n)] [] M' Q) : cw_J g y_La_law 0 cw_NX cw_NX 1023 [.inr (.inr (-5)), .inr (.inr 0), .inr (.inr 319), .inl (6 * n)] [] M Q := by
  have k0 : cw_kt cw_NX 0 = (11, 0) := by decide +kernel
  have k1 : cw_kt cw_NX 319 = (12, 0) := by decide +kernel
  refine k_La_law_1023 _ _ _ _ _ _ _ _ ?_
  simp only [↓w_nil, ↓w_cons, ↓w_ald1, ↓w_cv0, true_and, and_true, true_implies, false_implies, not_true_eq_false, not_false_eq_true, Int.reduceEq, Int.reduceLT, Int.reduceLE, Int.reduceNeg, w_c80, w_c8I, w_c8L, w_c8R, k0]
  repeat refine And.intro (by first | assumption | omega | exact sx32 _ | (unfold in32; omega) | (unfold in64; omega) | exact True.intro | exact Or.inl True.intro | exact Or.inr True.intro | exact Or.inr rfl | rfl | exact Nat.le_of_ble_eq_true rfl | decide +kernel) ?_
  try first | done | assumption
  refine ⟨_, o_wide hi, ?_⟩
  rintro r9 M9 ⟨v, hv, rfl, hR⟩
  refine k_La_law_1027 _ _ _ _ _ _ _ _ ?_
  simp only [↓w_nil, ↓w_cons, ↓w_ald2, ↓w_cv0, true_and, and_true, true_implies, false_implies, not_true_eq_false, not_false_eq_true, Int.reduceEq, Int.reduceLT, Int.reduceLE, Int.reduceNeg, w_c80, w_c8I, w_c8L, w_c8R, w_tl1, k1]
  repeat refine And.intro (by first | assumption | omega | exact sx32 _ | (unfold in32; omega) | (unfold in64; omega) | exact True.intro | exact Or.inl True.intro | exact Or.inr True.intro | exact Or.inr rfl | rfl | exact Nat.le_of_ble_eq_true rfl | decide +kernel) ?_
  try first | done | assumption
  refine ⟨_, hR, ?_⟩
  rintro r8 M8 ⟨rfl, hP⟩
  refine k_La_law_1031 _ _ _ _ _ _ _ _ ?_
  simp only [↓w_nil, ↓w_iceq, true_and, and_true, true_implies, false_implies, not_true_eq_false, not_false_eq_true, Int.reduceEq, Int.reduceLT, Int.reduceLE, Int.reduceNeg, w_tl1]
  repeat refine And.intro (by first | assumption | omega | exact sx32 _ | (unfold in32; omega) | (unfold in64; omega) | exact True.intro | exact Or.inl True.intro | exact Or.inr True.intro | exact Or.inr rfl | rfl | exact Nat.le_of_ble_eq_true rfl | decide +kernel) ?_
  try first | done | assumption
  first | exact ih _ hP | exact ⟨fun _ => ih _ hP, fun h => absurd rfl h⟩
theorem la_29 {g : cw_G} {n : Int} {M : cw_M} {Q : Option cw_V → cw_M → Prop} (hi : IV n M) (n0 : 0 ≤ n) (hl : 6 * n + 6 ≤ cw_xL g) (hx : cw_xL g ≤ 3072) (ih : ∀ M', IV (n + 1) M' → cw_J g y_La_law 0 cw_NX cw_NX 1515 [.inr (.inr (-5)), .inr (.inr 0), .inr (.inr 319), .inl (6 * n)] [] M' Q) : cw_J g y_La_law 0 cw_NX cw_NX 1036 [.inr (.inr (-5)), .inr (.inr 0), .inr (.inr 319), .inl (6 * n)] [] M Q := by
  have k0 : cw_kt cw_NX 0 = (11, 0) := by decide +kernel
  have k1 : cw_kt cw_NX 319 = (12, 0) := by decide +kernel
  refine k_La_law_1036 _ _ _ _ _ _ _ _ ?_
  simp only [↓w_nil, ↓w_cons, ↓w_ald1, ↓w_ald0, ↓w_ild3, ↓w_ic, ↓w_iadd, ↓w_sald, ↓w_cv3, true_and, and_true, true_implies, false_implies, not_true_eq_false, not_false_eq_true, Int.reduceEq, Int.reduceLT, Int.reduceLE, Int.reduceNeg, w_c80, w_c8I, w_c8L, w_c8R, k0]
  repeat refine And.intro (by first | assumption | omega | exact sx32 _ | (unfold in32; omega) | (unfold in64; omega) | exact True.intro | exact Or.inl True.intro | exact Or.inr True.intro | exact Or.inr rfl | rfl | exact Nat.le_of_ble_eq_true rfl | decide +kernel) ?_
  try first | done | assumption
  refine ⟨_, o_star hi (sx32 _) (sx32 _) (sx32 _), ?_⟩
  rintro r9 M9 ⟨v, hv, rfl, hR⟩
  refine k_La_law_1055 _ _ _ _ _ _ _ _ ?_
  simp only [↓w_nil, ↓w_cons, ↓w_ald2, ↓w_ald0, ↓w_ild3, ↓w_ic, ↓w_iadd, ↓w_sald, ↓w_cv3, true_and, and_true, true_implies, false_implies, not_true_eq_false, not_false_eq_true, Int.reduceEq, Int.reduceLT, Int.reduceLE, Int.reduceNeg, w_c80, w_c8I, w_c8L, w_c8R, w_tl1, k1]
  repeat refine And.intro (by first | assumption | omega | exact sx32 _ | (unfold in32; omega) | (unfold in64; omega) | exact True.intro | exact Or.inl True.intro | exact Or.inr True.intro | exact Or.inr rfl | rfl | exact Nat.le_of_ble_eq_true rfl | decide +kernel) ?_
  try first | done | assumption
  refine ⟨_, hR, ?_⟩
  rintro r8 M8 ⟨rfl, hP⟩
  refine k_La_law_1074 _ _ _ _ _ _ _ _ ?_
  simp only [↓w_nil, ↓w_iceq, true_and, and_true, true_implies, false_implies, not_true_eq_false, not_false_eq_true, Int.reduceEq, Int.reduceLT, Int.reduceLE, Int.reduceNeg, w_tl1]
  repeat refine And.intro (by first | assumption | omega | exact sx32 _ | (unfold in32; omega) | (unfold in64; omega) | exact True.intro | exact Or.inl True.intro | exact Or.inr True.intro | exact Or.inr rfl | rfl | exact Nat.le_of_ble_eq_true rfl | decide +kernel) ?_
  try first | done | assumption
  first | exact ih _ hP | exact ⟨fun _ => ih _ hP, fun h => absurd rfl h⟩
theorem la_30 {g : cw_G} {n : Int} {M : cw_M} {Q : Option cw_V → cw_M → Prop} (hi : IV n M) (n0 : 0 ≤ n) (hl : 6 * n + 6 ≤ cw_xL g) (hx : cw_xL g ≤ 3072) (ih : ∀ M', IV (n + 1) M' → cw_J g y_La_law 0 cw_NX cw_NX 1515 [.inr (.inr (-5)), .inr (.inr 0), .inr (.inr 319), .inl (6 * n)] [] M' Q) : cw_J g y_La_law 0 cw_NX cw_NX 1079 [.inr (.inr (-5)), .inr (.inr 0), .inr (.inr 319), .inl (6 * n)] [] M Q := by
  have k0 : cw_kt cw_NX 0 = (11, 0) := by decide +kernel
  have k1 : cw_kt cw_NX 319 = (12, 0) := by decide +kernel
  refine k_La_law_1079 _ _ _ _ _ _ _ _ ?_
  simp only [↓w_nil, ↓w_cons, ↓w_ald1, ↓w_ald0, ↓w_ild3, ↓w_ic, ↓w_iadd, ↓w_sald, ↓w_cv1, true_and, and_true, true_implies, false_implies, not_true_eq_false, not_false_eq_true, Int.reduceEq, Int.reduceLT, Int.reduceLE, Int.reduceNeg, w_c80, w_c8I, w_c8L, w_c8R, k0]
  repeat refine And.intro (by first | assumption | omega | exact sx32 _ | (unfold in32; omega) | (unfold in64; omega) | exact True.intro | exact Or.inl True.intro | exact Or.inr True.intro | exact Or.inr rfl | rfl | exact Nat.le_of_ble_eq_true rfl | decide +kernel) ?_
  try first | done | assumption
  refine ⟨_, o_even hi (sx32 _), ?_⟩
  rintro r9 M9 ⟨v, hv, rfl, hR⟩
  refine k_La_law_1088 _ _ _ _ _ _ _ _ ?_
  simp only [↓w_nil, ↓w_cons, ↓w_ald2, ↓w_ald0, ↓w_ild3, ↓w_ic, ↓w_iadd, ↓w_sald, ↓w_cv1, true_and, and_true, true_implies, false_implies, not_true_eq_false, not_false_eq_true, Int.reduceEq, Int.reduceLT, Int.reduceLE, Int.reduceNeg, w_c80, w_c8I, w_c8L, w_c8R, w_tl1, k1]
  repeat refine And.intro (by first | assumption | omega | exact sx32 _ | (unfold in32; omega) | (unfold in64; omega) | exact True.intro | exact Or.inl True.intro | exact Or.inr True.intro | exact Or.inr rfl | rfl | exact Nat.le_of_ble_eq_true rfl | decide +kernel) ?_
  try first | done | assumption
  refine ⟨_, hR, ?_⟩
  rintro r8 M8 ⟨rfl, hP⟩
  refine k_La_law_1097 _ _ _ _ _ _ _ _ ?_
  simp only [↓w_nil, ↓w_iceq, true_and, and_true, true_implies, false_implies, not_true_eq_false, not_false_eq_true, Int.reduceEq, Int.reduceLT, Int.reduceLE, Int.reduceNeg, w_tl1]
  repeat refine And.intro (by first | assumption | omega | exact sx32 _ | (unfold in32; omega) | (unfold in64; omega) | exact True.intro | exact Or.inl True.intro | exact Or.inr True.intro | exact Or.inr rfl | rfl | exact Nat.le_of_ble_eq_true rfl | decide +kernel) ?_
  try first | done | assumption
  first | exact ih _ hP | exact ⟨fun _ => ih _ hP, fun h => absurd rfl h⟩
theorem la_31 {g : cw_G} {n : Int} {M : cw_M} {Q : Option cw_V → cw_M → Prop} (hi : IV n M) (n0 : 0 ≤ n) (hl : 6 * n + 6 ≤ cw_xL g) (hx : cw_xL g ≤ 3072) (ih : ∀ M', IV (n + 1) M' → cw_J g y_La_law 0 cw_NX cw_NX 1515 [.inr (.inr (-5)), .inr (.inr 0), .inr (.inr 319), .inl (6 * n)] [] M' Q) : cw_J g y_La_law 0 cw_NX cw_NX 1102 [.inr (.inr (-5)), .inr (.inr 0), .inr (.inr 319), .inl (6 * n)] [] M Q := by
  have k0 : cw_kt cw_NX 0 = (11, 0) := by decide +kernel
  have k1 : cw_kt cw_NX 319 = (12, 0) := by decide +kernel
  refine k_La_law_1102 _ _ _ _ _ _ _ _ ?_
  simp only [↓w_nil, ↓w_cons, ↓w_ald1, ↓w_ald0, ↓w_ild3, ↓w_ic, ↓w_iadd, ↓w_sald, ↓w_cv2, true_and, and_true, true_implies, false_implies, not_true_eq_false, not_false_eq_true, Int.reduceEq, Int.reduceLT, Int.reduceLE, Int.reduceNeg, w_c80, w_c8I, w_c8L, w_c8R, k0]
  repeat refine And.intro (by first | assumption | omega | exact sx32 _ | (unfold in32; omega) | (unfold in64; omega) | exact True.intro | exact Or.inl True.intro | exact Or.inr True.intro | exact Or.inr rfl | rfl | exact Nat.le_of_ble_eq_true rfl | decide +kernel) ?_
  try first | done | assumption
  refine ⟨_, o_span hi (sx32 _) (sx32 _), ?_⟩
  rintro r9 M9 ⟨v, hv, rfl, hR⟩
  refine k_La_law_1116 _ _ _ _ _ _ _ _ ?_
  simp only [↓w_nil, ↓w_cons, ↓w_ald2, ↓w_ald0, ↓w_ild3, ↓w_ic, ↓w_iadd, ↓w_sald, ↓w_cv2, true_and, and_true, true_implies, false_implies, not_true_eq_false, not_false_eq_true, Int.reduceEq, Int.reduceLT, Int.reduceLE, Int.reduceNeg, w_c80, w_c8I, w_c8L, w_c8R, w_tl1, k1]
  repeat refine And.intro (by first | assumption | omega | exact sx32 _ | (unfold in32; omega) | (unfold in64; omega) | exact True.intro | exact Or.inl True.intro | exact Or.inr True.intro | exact Or.inr rfl | rfl | exact Nat.le_of_ble_eq_true rfl | decide +kernel) ?_
  try first | done | assumption
  refine ⟨_, hR, ?_⟩
  rintro r8 M8 ⟨rfl, hP⟩
  refine k_La_law_1130 _ _ _ _ _ _ _ _ ?_
  simp only [↓w_nil, ↓w_iceq, true_and, and_true, true_implies, false_implies, not_true_eq_false, not_false_eq_true, Int.reduceEq, Int.reduceLT, Int.reduceLE, Int.reduceNeg, w_tl1]
  repeat refine And.intro (by first | assumption | omega | exact sx32 _ | (unfold in32; omega) | (unfold in64; omega) | exact True.intro | exact Or.inl True.intro | exact Or.inr True.intro | exact Or.inr rfl | rfl | exact Nat.le_of_ble_eq_true rfl | decide +kernel) ?_
  try first | done | assumption
  first | exact ih _ hP | exact ⟨fun _ => ih _ hP, fun h => absurd rfl h⟩
theorem la_32 {g : cw_G} {n : Int} {M : cw_M} {Q : Option cw_V → cw_M → Prop} (hi : IV n M) (n0 : 0 ≤ n) (hl : 6 * n + 6 ≤ cw_xL g) (hx : cw_xL g ≤ 3072) (ih : ∀ M', IV (n + 1) M' → cw_J g y_La_law 0 cw_NX cw_NX 1515 [.inr (.inr (-5)), .inr (.inr 0), .inr (.inr 319), .inl (6 * n)] [] M' Q) : cw_J g y_La_law 0 cw_NX cw_NX 1135 [.inr (.inr (-5)), .inr (.inr 0), .inr (.inr 319), .inl (6 * n)] [] M Q := by
  have k0 : cw_kt cw_NX 0 = (11, 0) := by decide +kernel
  have k1 : cw_kt cw_NX 319 = (12, 0) := by decide +kernel
  refine k_La_law_1135 _ _ _ _ _ _ _ _ ?_
  simp only [↓w_nil, ↓w_cons, ↓w_ald1, ↓w_ald0, ↓w_ild3, ↓w_ic, ↓w_iadd, ↓w_sald, ↓w_cv3, true_and, and_true, true_implies, false_implies, not_true_eq_false, not_false_eq_true, Int.reduceEq, Int.reduceLT, Int.reduceLE, Int.reduceNeg, w_c80, w_c8I, w_c8L, w_c8R, k0]
  repeat refine And.intro (by first | assumption | omega | exact sx32 _ | (unfold in32; omega) | (unfold in64; omega) | exact True.intro | exact Or.inl True.intro | exact Or.inr True.intro | exact Or.inr rfl | rfl | exact Nat.le_of_ble_eq_true rfl | decide +kernel) ?_
  try first | done | assumption
  refine ⟨_, o_feed hi.1 hi.2.1 ⟨by omega, by omega⟩ (sx32 _) (sx32 _) (sx32 _), ?_⟩
  rintro r9 M9 ⟨v, hv, rfl, hR⟩
  refine k_La_law_1154 _ _ _ _ _ _ _ _ ?_
  simp only [↓w_nil, ↓w_cons, ↓w_ald2, ↓w_ald0, ↓w_ild3, ↓w_ic, ↓w_iadd, ↓w_sald, ↓w_cv3, true_and, and_true, true_implies, false_implies, not_true_eq_false, not_false_eq_true, Int.reduceEq, Int.reduceLT, Int.reduceLE, Int.reduceNeg, w_c80, w_c8I, w_c8L, w_c8R, w_tl1, k1]
  repeat refine And.intro (by first | assumption | omega | exact sx32 _ | (unfold in32; omega) | (unfold in64; omega) | exact True.intro | exact Or.inl True.intro | exact Or.inr True.intro | exact Or.inr rfl | rfl | exact Nat.le_of_ble_eq_true rfl | decide +kernel) ?_
  try first | done | assumption
  refine ⟨_, hR, ?_⟩
  rintro r8 M8 ⟨rfl, hP⟩
  refine k_La_law_1173 _ _ _ _ _ _ _ _ ?_
  simp only [↓w_nil, ↓w_iceq, true_and, and_true, true_implies, false_implies, not_true_eq_false, not_false_eq_true, Int.reduceEq, Int.reduceLT, Int.reduceLE, Int.reduceNeg, w_tl1]
  repeat refine And.intro (by first | assumption | omega | exact sx32 _ | (unfold in32; omega) | (unfold in64; omega) | exact True.intro | exact Or.inl True.intro | exact Or.inr True.intro | exact Or.inr rfl | rfl | exact Nat.le_of_ble_eq_true rfl | decide +kernel) ?_
  try first | done | assumption
  first | exact ih _ (iv_nx hi hP.to2) | exact ⟨fun _ => ih _ (iv_nx hi hP.to2), fun h => absurd rfl h⟩
theorem la_33 {g : cw_G} {n : Int} {M : cw_M} {Q : Option cw_V → cw_M → Prop} (hi : IV n M) (n0 : 0 ≤ n) (hl : 6 * n + 6 ≤ cw_xL g) (hx : cw_xL g ≤ 3072) (ih : ∀ M', IV (n + 1) M' → cw_J g y_La_law 0 cw_NX cw_NX 1515 [.inr (.inr (-5)), .inr (.inr 0), .inr (.inr 319), .inl (6 * n)] [] M' Q) : cw_J g y_La_law 0 cw_NX cw_NX 1178 [.inr (.inr (-5)), .inr (.inr 0), .inr (.inr 319), .inl (6 * n)] [] M Q := by
  have k0 : cw_kt cw_NX 0 = (11, 0) := by decide +kernel
  have k1 : cw_kt cw_NX 319 = (12, 0) := by decide +kernel
  refine k_La_law_1178 _ _ _ _ _ _ _ _ ?_
  simp only [↓w_nil, ↓w_cons, ↓w_ald1, ↓w_ald0, ↓w_ild3, ↓w_ic, ↓w_iadd, ↓w_sald, ↓w_cv2, true_and, and_true, true_implies, false_implies, not_true_eq_false, not_false_eq_true, Int.reduceEq, Int.reduceLT, Int.reduceLE, Int.reduceNeg, w_c80, w_c8I, w_c8L, w_c8R, k0]
  repeat refine And.intro (by first | assumption | omega | exact sx32 _ | (unfold in32; omega) | (unfold in64; omega) | exact True.intro | exact Or.inl True.intro | exact Or.inr True.intro | exact Or.inr rfl | rfl | exact Nat.le_of_ble_eq_true rfl | decide +kernel) ?_
  try first | done | assumption
  refine ⟨_, o_limits hi.1 hi.2.1 ⟨by omega, by omega⟩ (sx32 _) (sx32 _), ?_⟩
  rintro r9 M9 ⟨v, hv, rfl, hR⟩
  refine k_La_law_1192 _ _ _ _ _ _ _ _ ?_
  simp only [↓w_nil, ↓w_cons, ↓w_ald2, ↓w_ald0, ↓w_ild3, ↓w_ic, ↓w_iadd, ↓w_sald, ↓w_cv2, true_and, and_true, true_implies, false_implies, not_true_eq_false, not_false_eq_true, Int.reduceEq, Int.reduceLT, Int.reduceLE, Int.reduceNeg, w_c80, w_c8I, w_c8L, w_c8R, w_tl1, k1]
  repeat refine And.intro (by first | assumption | omega | exact sx32 _ | (unfold in32; omega) | (unfold in64; omega) | exact True.intro | exact Or.inl True.intro | exact Or.inr True.intro | exact Or.inr rfl | rfl | exact Nat.le_of_ble_eq_true rfl | decide +kernel) ?_
  try first | done | assumption
  refine ⟨_, hR, ?_⟩
  rintro r8 M8 ⟨rfl, hP⟩
  refine k_La_law_1206 _ _ _ _ _ _ _ _ ?_
  simp only [↓w_nil, ↓w_iceq, true_and, and_true, true_implies, false_implies, not_true_eq_false, not_false_eq_true, Int.reduceEq, Int.reduceLT, Int.reduceLE, Int.reduceNeg, w_tl1]
  repeat refine And.intro (by first | assumption | omega | exact sx32 _ | (unfold in32; omega) | (unfold in64; omega) | exact True.intro | exact Or.inl True.intro | exact Or.inr True.intro | exact Or.inr rfl | rfl | exact Nat.le_of_ble_eq_true rfl | decide +kernel) ?_
  try first | done | assumption
  first | exact ih _ (iv_nx hi hP.to2) | exact ⟨fun _ => ih _ (iv_nx hi hP.to2), fun h => absurd rfl h⟩
theorem la_34 {g : cw_G} {n : Int} {M : cw_M} {Q : Option cw_V → cw_M → Prop} (hi : IV n M) (n0 : 0 ≤ n) (hl : 6 * n + 6 ≤ cw_xL g) (hx : cw_xL g ≤ 3072) (ih : ∀ M', IV (n + 1) M' → cw_J g y_La_law 0 cw_NX cw_NX 1515 [.inr (.inr (-5)), .inr (.inr 0), .inr (.inr 319), .inl (6 * n)] [] M' Q) : cw_J g y_La_law 0 cw_NX cw_NX 1211 [.inr (.inr (-5)), .inr (.inr 0), .inr (.inr 319), .inl (6 * n)] [] M Q := by
  have k0 : cw_kt cw_NX 0 = (11, 0) := by decide +kernel
  have k1 : cw_kt cw_NX 319 = (12, 0) := by decide +kernel
  refine k_La_law_1211 _ _ _ _ _ _ _ _ ?_
  simp only [↓w_nil, ↓w_cons, ↓w_ald1, ↓w_ald0, ↓w_ild3, ↓w_ic, ↓w_iadd, ↓w_sald, ↓w_cv1, true_and, and_true, true_implies, false_implies, not_true_eq_false, not_false_eq_true, Int.reduceEq, Int.reduceLT, Int.reduceLE, Int.reduceNeg, w_c80, w_c8I, w_c8L, w_c8R, k0]
  repeat refine And.intro (by first | assumption | omega | exact sx32 _ | (unfold in32; omega) | (unfold in64; omega) | exact True.intro | exact Or.inl True.intro | exact Or.inr True.intro | exact Or.inr rfl | rfl | exact Nat.le_of_ble_eq_true rfl | decide +kernel) ?_
  try first | done | assumption
  refine ⟨_, o_run hi.1 hi.2.1 ⟨by omega, by omega⟩ (sx32 _), ?_⟩
  rintro r9 M9 ⟨v, hv, rfl, hR⟩
  refine k_La_law_1220 _ _ _ _ _ _ _ _ ?_
  simp only [↓w_nil, ↓w_cons, ↓w_ald2, ↓w_ald0, ↓w_ild3, ↓w_ic, ↓w_iadd, ↓w_sald, ↓w_cv1, true_and, and_true, true_implies, false_implies, not_true_eq_false, not_false_eq_true, Int.reduceEq, Int.reduceLT, Int.reduceLE, Int.reduceNeg, w_c80, w_c8I, w_c8L, w_c8R, w_tl1, k1]
  repeat refine And.intro (by first | assumption | omega | exact sx32 _ | (unfold in32; omega) | (unfold in64; omega) | exact True.intro | exact Or.inl True.intro | exact Or.inr True.intro | exact Or.inr rfl | rfl | exact Nat.le_of_ble_eq_true rfl | decide +kernel) ?_
  try first | done | assumption
  refine ⟨_, hR, ?_⟩
  rintro r8 M8 ⟨rfl, hP⟩
  refine k_La_law_1229 _ _ _ _ _ _ _ _ ?_
  simp only [↓w_nil, ↓w_iceq, true_and, and_true, true_implies, false_implies, not_true_eq_false, not_false_eq_true, Int.reduceEq, Int.reduceLT, Int.reduceLE, Int.reduceNeg, w_tl1]
  repeat refine And.intro (by first | assumption | omega | exact sx32 _ | (unfold in32; omega) | (unfold in64; omega) | exact True.intro | exact Or.inl True.intro | exact Or.inr True.intro | exact Or.inr rfl | rfl | exact Nat.le_of_ble_eq_true rfl | decide +kernel) ?_
  try first | done | assumption
  first | exact ih _ (iv_nx hi hP.to2) | exact ⟨fun _ => ih _ (iv_nx hi hP.to2), fun h => absurd rfl h⟩
theorem la_35 {g : cw_G} {n : Int} {M : cw_M} {Q : Option cw_V → cw_M → Prop} (hi : IV n M) (n0 : 0 ≤ n) (hl : 6 * n + 6 ≤ cw_xL g) (hx : cw_xL g ≤ 3072) (ih : ∀ M', IV (n + 1) M' → cw_J g y_La_law 0 cw_NX cw_NX 1515 [.inr (.inr (-5)), .inr (.inr 0), .inr (.inr 319), .inl (6 * n)] [] M' Q) : cw_J g y_La_law 0 cw_NX cw_NX 1234 [.inr (.inr (-5)), .inr (.inr 0), .inr (.inr 319), .inl (6 * n)] [] M Q := by
  have k0 : cw_kt cw_NX 0 = (11, 0) := by decide +kernel
  have k1 : cw_kt cw_NX 319 = (12, 0) := by decide +kernel
  refine k_La_law_1234 _ _ _ _ _ _ _ _ ?_
  simp only [↓w_nil, ↓w_cons, ↓w_ald1, ↓w_ald0, ↓w_ild3, ↓w_ic, ↓w_iadd, ↓w_sald, ↓w_cv1, true_and, and_true, true_implies, false_implies, not_true_eq_false, not_false_eq_true, Int.reduceEq, Int.reduceLT, Int.reduceLE, Int.reduceNeg, w_c80, w_c8I, w_c8L, w_c8R, k0]
  repeat refine And.intro (by first | assumption | omega | exact sx32 _ | (unfold in32; omega) | (unfold in64; omega) | exact True.intro | exact Or.inl True.intro | exact Or.inr True.intro | exact Or.inr rfl | rfl | exact Nat.le_of_ble_eq_true rfl | decide +kernel) ?_
  try first | done | assumption
  refine ⟨_, o_ran hi.1 hi.2.1 ⟨by omega, by omega⟩ (sx32 _), ?_⟩
  rintro r9 M9 ⟨v, hv, rfl, hR⟩
  refine k_La_law_1243 _ _ _ _ _ _ _ _ ?_
  simp only [↓w_nil, ↓w_cons, ↓w_ald2, ↓w_ald0, ↓w_ild3, ↓w_ic, ↓w_iadd, ↓w_sald, ↓w_cv1, true_and, and_true, true_implies, false_implies, not_true_eq_false, not_false_eq_true, Int.reduceEq, Int.reduceLT, Int.reduceLE, Int.reduceNeg, w_c80, w_c8I, w_c8L, w_c8R, w_tl1, k1]
  repeat refine And.intro (by first | assumption | omega | exact sx32 _ | (unfold in32; omega) | (unfold in64; omega) | exact True.intro | exact Or.inl True.intro | exact Or.inr True.intro | exact Or.inr rfl | rfl | exact Nat.le_of_ble_eq_true rfl | decide +kernel) ?_
  try first | done | assumption
  refine ⟨_, hR, ?_⟩
  rintro r8 M8 ⟨rfl, hP⟩
  refine k_La_law_1252 _ _ _ _ _ _ _ _ ?_
  simp only [↓w_nil, ↓w_iceq, true_and, and_true, true_implies, false_implies, not_true_eq_false, not_false_eq_true, Int.reduceEq, Int.reduceLT, Int.reduceLE, Int.reduceNeg, w_tl1]
  repeat refine And.intro (by first | assumption | omega | exact sx32 _ | (unfold in32; omega) | (unfold in64; omega) | exact True.intro | exact Or.inl True.intro | exact Or.inr True.intro | exact Or.inr rfl | rfl | exact Nat.le_of_ble_eq_true rfl | decide +kernel) ?_
  try first | done | assumption
  first | exact ih _ (iv_nx hi hP.to2) | exact ⟨fun _ => ih _ (iv_nx hi hP.to2), fun h => absurd rfl h⟩
theorem la_36 {g : cw_G} {n : Int} {M : cw_M} {Q : Option cw_V → cw_M → Prop} (hi : IV n M) (n0 : 0 ≤ n) (hl : 6 * n + 6 ≤ cw_xL g) (hx : cw_xL g ≤ 3072) (ih : ∀ M', IV (n + 1) M' → cw_J g y_La_law 0 cw_NX cw_NX 1515 [.inr (.inr (-5)), .inr (.inr 0), .inr (.inr 319), .inl (6 * n)] [] M' Q) : cw_J g y_La_law 0 cw_NX cw_NX 1257 [.inr (.inr (-5)), .inr (.inr 0), .inr (.inr 319), .inl (6 * n)] [] M Q := by
  have k0 : cw_kt cw_NX 0 = (11, 0) := by decide +kernel
  have k1 : cw_kt cw_NX 319 = (12, 0) := by decide +kernel
  refine k_La_law_1257 _ _ _ _ _ _ _ _ ?_
  simp only [↓w_nil, ↓w_cons, ↓w_ald1, ↓w_ald0, ↓w_ild3, ↓w_ic, ↓w_iadd, ↓w_sald, ↓w_cv4, true_and, and_true, true_implies, false_implies, not_true_eq_false, not_false_eq_true, Int.reduceEq, Int.reduceLT, Int.reduceLE, Int.reduceNeg, w_c80, w_c8I, w_c8L, w_c8R, k0]
  repeat refine And.intro (by first | assumption | omega | exact sx32 _ | (unfold in32; omega) | (unfold in64; omega) | exact True.intro | exact Or.inl True.intro | exact Or.inr True.intro | exact Or.inr rfl | rfl | exact Nat.le_of_ble_eq_true rfl | decide +kernel) ?_
  try first | done | assumption
  refine ⟨_, o_body hi.1 hi.2.1 ⟨by omega, by omega⟩ (sx32 _) (sx32 _) (sx32 _) (sx32 _), ?_⟩
  rintro r9 M9 ⟨v, hv, rfl, hR⟩
  refine k_La_law_1281 _ _ _ _ _ _ _ _ ?_
  simp only [↓w_nil, ↓w_cons, ↓w_ald2, ↓w_ald0, ↓w_ild3, ↓w_ic, ↓w_iadd, ↓w_sald, ↓w_cv4, true_and, and_true, true_implies, false_implies, not_true_eq_false, not_false_eq_true, Int.reduceEq, Int.reduceLT, Int.reduceLE, Int.reduceNeg, w_c80, w_c8I, w_c8L, w_c8R, w_tl1, k1]
  repeat refine And.intro (by first | assumption | omega | exact sx32 _ | (unfold in32; omega) | (unfold in64; omega) | exact True.intro | exact Or.inl True.intro | exact Or.inr True.intro | exact Or.inr rfl | rfl | exact Nat.le_of_ble_eq_true rfl | decide +kernel) ?_
  try first | done | assumption
  refine ⟨_, hR, ?_⟩
  rintro r8 M8 ⟨rfl, hP⟩
  refine k_La_law_1305 _ _ _ _ _ _ _ _ ?_
  simp only [↓w_nil, ↓w_iceq, true_and, and_true, true_implies, false_implies, not_true_eq_false, not_false_eq_true, Int.reduceEq, Int.reduceLT, Int.reduceLE, Int.reduceNeg, w_tl1]
  repeat refine And.intro (by first | assumption | omega | exact sx32 _ | (unfold in32; omega) | (unfold in64; omega) | exact True.intro | exact Or.inl True.intro | exact Or.inr True.intro | exact Or.inr rfl | rfl | exact Nat.le_of_ble_eq_true rfl | decide +kernel) ?_
  try first | done | assumption
  first | exact ih _ (iv_nx hi hP.to2) | exact ⟨fun _ => ih _ (iv_nx hi hP.to2), fun h => absurd rfl h⟩
theorem la_37 {g : cw_G} {n : Int} {M : cw_M} {Q : Option cw_V → cw_M → Prop} (hi : IV n M) (n0 : 0 ≤ n) (hl : 6 * n + 6 ≤ cw_xL g) (hx : cw_xL g ≤ 3072) (ih : ∀ M', IV (n + 1) M' → cw_J g y_La_law 0 cw_NX cw_NX 1515 [.inr (.inr (-5)), .inr (.inr 0), .inr (.inr 319), .inl (6 * n)] [] M' Q) : cw_J g y_La_law 0 cw_NX cw_NX 1310 [.inr (.inr (-5)), .inr (.inr 0), .inr (.inr 319), .inl (6 * n)] [] M Q := by
  have k0 : cw_kt cw_NX 0 = (11, 0) := by decide +kernel
  have k1 : cw_kt cw_NX 319 = (12, 0) := by decide +kernel
  refine k_La_law_1310 _ _ _ _ _ _ _ _ ?_
  simp only [↓w_nil, ↓w_cons, ↓w_ald1, ↓w_ald0, ↓w_ild3, ↓w_ic, ↓w_iadd, ↓w_sald, ↓w_cv3, true_and, and_true, true_implies, false_implies, not_true_eq_false, not_false_eq_true, Int.reduceEq, Int.reduceLT, Int.reduceLE, Int.reduceNeg, w_c80, w_c8I, w_c8L, w_c8R, k0]
  repeat refine And.intro (by first | assumption | omega | exact sx32 _ | (unfold in32; omega) | (unfold in64; omega) | exact True.intro | exact Or.inl True.intro | exact Or.inr True.intro | exact Or.inr rfl | rfl | exact Nat.le_of_ble_eq_true rfl | decide +kernel) ?_
  try first | done | assumption
  refine ⟨_, o_joint hi.1 hi.2.1 ⟨by omega, by omega⟩ (sx32 _) (sx32 _) (sx32 _), ?_⟩
  rintro r9 M9 ⟨v, hv, rfl, hR⟩
  refine k_La_law_1329 _ _ _ _ _ _ _ _ ?_
  simp only [↓w_nil, ↓w_cons, ↓w_ald2, ↓w_ald0, ↓w_ild3, ↓w_ic, ↓w_iadd, ↓w_sald, ↓w_cv3, true_and, and_true, true_implies, false_implies, not_true_eq_false, not_false_eq_true, Int.reduceEq, Int.reduceLT, Int.reduceLE, Int.reduceNeg, w_c80, w_c8I, w_c8L, w_c8R, w_tl1, k1]
  repeat refine And.intro (by first | assumption | omega | exact sx32 _ | (unfold in32; omega) | (unfold in64; omega) | exact True.intro | exact Or.inl True.intro | exact Or.inr True.intro | exact Or.inr rfl | rfl | exact Nat.le_of_ble_eq_true rfl | decide +kernel) ?_
  try first | done | assumption
  refine ⟨_, hR, ?_⟩
  rintro r8 M8 ⟨rfl, hP⟩
  refine k_La_law_1348 _ _ _ _ _ _ _ _ ?_
  simp only [↓w_nil, ↓w_iceq, true_and, and_true, true_implies, false_implies, not_true_eq_false, not_false_eq_true, Int.reduceEq, Int.reduceLT, Int.reduceLE, Int.reduceNeg, w_tl1]
  repeat refine And.intro (by first | assumption | omega | exact sx32 _ | (unfold in32; omega) | (unfold in64; omega) | exact True.intro | exact Or.inl True.intro | exact Or.inr True.intro | exact Or.inr rfl | rfl | exact Nat.le_of_ble_eq_true rfl | decide +kernel) ?_
  try first | done | assumption
  first | exact ih _ (iv_nx hi hP.to2) | exact ⟨fun _ => ih _ (iv_nx hi hP.to2), fun h => absurd rfl h⟩
theorem la_38 {g : cw_G} {n : Int} {M : cw_M} {Q : Option cw_V → cw_M → Prop} (hi : IV n M) (n0 : 0 ≤ n) (hl : 6 * n + 6 ≤ cw_xL g) (hx : cw_xL g ≤ 3072) (ih : ∀ M', IV (n + 1) M' → cw_J g y_La_law 0 cw_NX cw_NX 1515 [.inr (.inr (-5)), .inr (.inr 0), .inr (.inr 319), .inl (6 * n)] [] M' Q) : cw_J g y_La_law 0 cw_NX cw_NX 1353 [.inr (.inr (-5)), .inr (.inr 0), .inr (.inr 319), .inl (6 * n)] [] M Q := by
  have k0 : cw_kt cw_NX 0 = (11, 0) := by decide +kernel
  have k1 : cw_kt cw_NX 319 = (12, 0) := by decide +kernel
  refine k_La_law_1353 _ _ _ _ _ _ _ _ ?_
  simp only [↓w_nil, ↓w_cons, ↓w_ald1, ↓w_ald0, ↓w_ild3, ↓w_ic, ↓w_iadd, ↓w_sald, ↓w_cv1, true_and, and_true, true_implies, false_implies, not_true_eq_false, not_false_eq_true, Int.reduceEq, Int.reduceLT, Int.reduceLE, Int.reduceNeg, w_c80, w_c8I, w_c8L, w_c8R, k0]
  repeat refine And.intro (by first | assumption | omega | exact sx32 _ | (unfold in32; omega) | (unfold in64; omega) | exact True.intro | exact Or.inl True.intro | exact Or.inr True.intro | exact Or.inr rfl | rfl | exact Nat.le_of_ble_eq_true rfl | decide +kernel) ?_
  try first | done | assumption
  refine ⟨_, o_warm hi.1 hi.2.1 ⟨by omega, by omega⟩ (sx32 _), ?_⟩
  rintro r9 M9 ⟨v, hv, rfl, hR⟩
  refine k_La_law_1362 _ _ _ _ _ _ _ _ ?_
  simp only [↓w_nil, ↓w_cons, ↓w_ald2, ↓w_ald0, ↓w_ild3, ↓w_ic, ↓w_iadd, ↓w_sald, ↓w_cv1, true_and, and_true, true_implies, false_implies, not_true_eq_false, not_false_eq_true, Int.reduceEq, Int.reduceLT, Int.reduceLE, Int.reduceNeg, w_c80, w_c8I, w_c8L, w_c8R, w_tl1, k1]
  repeat refine And.intro (by first | assumption | omega | exact sx32 _ | (unfold in32; omega) | (unfold in64; omega) | exact True.intro | exact Or.inl True.intro | exact Or.inr True.intro | exact Or.inr rfl | rfl | exact Nat.le_of_ble_eq_true rfl | decide +kernel) ?_
  try first | done | assumption
  refine ⟨_, hR, ?_⟩
  rintro r8 M8 ⟨rfl, hP⟩
  refine k_La_law_1371 _ _ _ _ _ _ _ _ ?_
  simp only [↓w_nil, ↓w_iceq, true_and, and_true, true_implies, false_implies, not_true_eq_false, not_false_eq_true, Int.reduceEq, Int.reduceLT, Int.reduceLE, Int.reduceNeg, w_tl1]
  repeat refine And.intro (by first | assumption | omega | exact sx32 _ | (unfold in32; omega) | (unfold in64; omega) | exact True.intro | exact Or.inl True.intro | exact Or.inr True.intro | exact Or.inr rfl | rfl | exact Nat.le_of_ble_eq_true rfl | decide +kernel) ?_
  try first | done | assumption
  first | exact ih _ (iv_nx hi hP) | exact ⟨fun _ => ih _ (iv_nx hi hP), fun h => absurd rfl h⟩
theorem la_39 {g : cw_G} {n : Int} {M : cw_M} {Q : Option cw_V → cw_M → Prop} (hi : IV n M) (n0 : 0 ≤ n) (hl : 6 * n + 6 ≤ cw_xL g) (hx : cw_xL g ≤ 3072) (ih : ∀ M', IV (n + 1) M' → cw_J g y_La_law 0 cw_NX cw_NX 1515 [.inr (.inr (-5)), .inr (.inr 0), .inr (.inr 319), .inl (6 * n)] [] M' Q) : cw_J g y_La_law 0 cw_NX cw_NX 1376 [.inr (.inr (-5)), .inr (.inr 0), .inr (.inr 319), .inl (6 * n)] [] M Q := by
  have k0 : cw_kt cw_NX 0 = (11, 0) := by decide +kernel
  have k1 : cw_kt cw_NX 319 = (12, 0) := by decide +kernel
  refine k_La_law_1376 _ _ _ _ _ _ _ _ ?_
  simp only [↓w_nil, ↓w_cons, ↓w_ald1, ↓w_ald0, ↓w_ild3, ↓w_ic, ↓w_iadd, ↓w_sald, ↓w_cv1, true_and, and_true, true_implies, false_implies, not_true_eq_false, not_false_eq_true, Int.reduceEq, Int.reduceLT, Int.reduceLE, Int.reduceNeg, w_c80, w_c8I, w_c8L, w_c8R, k0]
  repeat refine And.intro (by first | assumption | omega | exact sx32 _ | (unfold in32; omega) | (unfold in64; omega) | exact True.intro | exact Or.inl True.intro | exact Or.inr True.intro | exact Or.inr rfl | rfl | exact Nat.le_of_ble_eq_true rfl | decide +kernel) ?_
  try first | done | assumption
  refine ⟨_, o_warmth hi.1 hi.2.1 ⟨by omega, by omega⟩ (sx32 _), ?_⟩
  rintro r9 M9 ⟨v, hv, rfl, hR⟩
  refine k_La_law_1385 _ _ _ _ _ _ _ _ ?_
  simp only [↓w_nil, ↓w_cons, ↓w_ald2, ↓w_ald0, ↓w_ild3, ↓w_ic, ↓w_iadd, ↓w_sald, ↓w_cv1, true_and, and_true, true_implies, false_implies, not_true_eq_false, not_false_eq_true, Int.reduceEq, Int.reduceLT, Int.reduceLE, Int.reduceNeg, w_c80, w_c8I, w_c8L, w_c8R, w_tl1, k1]
  repeat refine And.intro (by first | assumption | omega | exact sx32 _ | (unfold in32; omega) | (unfold in64; omega) | exact True.intro | exact Or.inl True.intro | exact Or.inr True.intro | exact Or.inr rfl | rfl | exact Nat.le_of_ble_eq_true rfl | decide +kernel) ?_
  try first | done | assumption
  refine ⟨_, hR, ?_⟩
  rintro r8 M8 ⟨rfl, hP⟩
  refine k_La_law_1394 _ _ _ _ _ _ _ _ ?_
  simp only [↓w_nil, ↓w_iceq, true_and, and_true, true_implies, false_implies, not_true_eq_false, not_false_eq_true, Int.reduceEq, Int.reduceLT, Int.reduceLE, Int.reduceNeg, w_tl1]
  repeat refine And.intro (by first | assumption | omega | exact sx32 _ | (unfold in32; omega) | (unfold in64; omega) | exact True.intro | exact Or.inl True.intro | exact Or.inr True.intro | exact Or.inr rfl | rfl | exact Nat.le_of_ble_eq_true rfl | decide +kernel) ?_
  try first | done | assumption
  first | exact ih _ (iv_nx hi hP.to2) | exact ⟨fun _ => ih _ (iv_nx hi hP.to2), fun h => absurd rfl h⟩
theorem la_40 {g : cw_G} {n : Int} {M : cw_M} {Q : Option cw_V → cw_M → Prop} (hi : IV n M) (n0 : 0 ≤ n) (hl : 6 * n + 6 ≤ cw_xL g) (hx : cw_xL g ≤ 3072) (ih : ∀ M', IV (n + 1) M' → cw_J g y_La_law 0 cw_NX cw_NX 1515 [.inr (.inr (-5)), .inr (.inr 0), .inr (.inr 319), .inl (6 * n)] [] M' Q) : cw_J g y_La_law 0 cw_NX cw_NX 1399 [.inr (.inr (-5)), .inr (.inr 0), .inr (.inr 319), .inl (6 * n)] [] M Q := by
  have k0 : cw_kt cw_NX 0 = (11, 0) := by decide +kernel
  have k1 : cw_kt cw_NX 319 = (12, 0) := by decide +kernel
  refine k_La_law_1399 _ _ _ _ _ _ _ _ ?_
  simp only [↓w_nil, ↓w_cons, ↓w_ald1, ↓w_ald0, ↓w_ild3, ↓w_ic, ↓w_iadd, ↓w_sald, ↓w_cv2, true_and, and_true, true_implies, false_implies, not_true_eq_false, not_false_eq_true, Int.reduceEq, Int.reduceLT, Int.reduceLE, Int.reduceNeg, w_c80, w_c8I, w_c8L, w_c8R, k0]
  repeat refine And.intro (by first | assumption | omega | exact sx32 _ | (unfold in32; omega) | (unfold in64; omega) | exact True.intro | exact Or.inl True.intro | exact Or.inr True.intro | exact Or.inr rfl | rfl | exact Nat.le_of_ble_eq_true rfl | decide +kernel) ?_
  try first | done | assumption
  refine ⟨_, o_first hi.1 hi.2.1 ⟨by omega, by omega⟩ (sx32 _) (sx32 _), ?_⟩
  rintro r9 M9 ⟨v, hv, rfl, hR⟩
  refine k_La_law_1413 _ _ _ _ _ _ _ _ ?_
  simp only [↓w_nil, ↓w_cons, ↓w_ald2, ↓w_ald0, ↓w_ild3, ↓w_ic, ↓w_iadd, ↓w_sald, ↓w_cv2, true_and, and_true, true_implies, false_implies, not_true_eq_false, not_false_eq_true, Int.reduceEq, Int.reduceLT, Int.reduceLE, Int.reduceNeg, w_c80, w_c8I, w_c8L, w_c8R, w_tl1, k1]
  repeat refine And.intro (by first | assumption | omega | exact sx32 _ | (unfold in32; omega) | (unfold in64; omega) | exact True.intro | exact Or.inl True.intro | exact Or.inr True.intro | exact Or.inr rfl | rfl | exact Nat.le_of_ble_eq_true rfl | decide +kernel) ?_
  try first | done | assumption
  refine ⟨_, hR, ?_⟩
  rintro r8 M8 ⟨rfl, hP⟩
  refine k_La_law_1427 _ _ _ _ _ _ _ _ ?_
  simp only [↓w_nil, ↓w_iceq, true_and, and_true, true_implies, false_implies, not_true_eq_false, not_false_eq_true, Int.reduceEq, Int.reduceLT, Int.reduceLE, Int.reduceNeg, w_tl1]
  repeat refine And.intro (by first | assumption | omega | exact sx32 _ | (unfold in32; omega) | (unfold in64; omega) | exact True.intro | exact Or.inl True.intro | exact Or.inr True.intro | exact Or.inr rfl | rfl | exact Nat.le_of_ble_eq_true rfl | decide +kernel) ?_
  try first | done | assumption
  first | exact ih _ (iv_nx hi hP) | exact ⟨fun _ => ih _ (iv_nx hi hP), fun h => absurd rfl h⟩
theorem la_41 {g : cw_G} {n : Int} {M : cw_M} {Q : Option cw_V → cw_M → Prop} (hi : IV n M) (n0 : 0 ≤ n) (hl : 6 * n + 6 ≤ cw_xL g) (hx : cw_xL g ≤ 3072) (ih : ∀ M', IV (n + 1) M' → cw_J g y_La_law 0 cw_NX cw_NX 1515 [.inr (.inr (-5)), .inr (.inr 0), .inr (.inr 319), .inl (6 * n)] [] M' Q) : cw_J g y_La_law 0 cw_NX cw_NX 1432 [.inr (.inr (-5)), .inr (.inr 0), .inr (.inr 319), .inl (6 * n)] [] M Q := by
  have k0 : cw_kt cw_NX 0 = (11, 0) := by decide +kernel
  have k1 : cw_kt cw_NX 319 = (12, 0) := by decide +kernel
  refine k_La_law_1432 _ _ _ _ _ _ _ _ ?_
  simp only [↓w_nil, ↓w_cons, ↓w_ald1, ↓w_ald0, ↓w_ild3, ↓w_ic, ↓w_iadd, ↓w_sald, ↓w_cv1, true_and, and_true, true_implies, false_implies, not_true_eq_false, not_false_eq_true, Int.reduceEq, Int.reduceLT, Int.reduceLE, Int.reduceNeg, w_c80, w_c8I, w_c8L, w_c8R, k0]
  repeat refine And.intro (by first | assumption | omega | exact sx32 _ | (unfold in32; omega) | (unfold in64; omega) | exact True.intro | exact Or.inl True.intro | exact Or.inr True.intro | exact Or.inr rfl | rfl | exact Nat.le_of_ble_eq_true rfl | decide +kernel) ?_
  try first | done | assumption
  refine ⟨_, o_image hi (by omega) (sx32 _), ?_⟩
  rintro r9 M9 ⟨v, hv, rfl, hR⟩
  refine k_La_law_1441 _ _ _ _ _ _ _ _ ?_
  simp only [↓w_nil, ↓w_cons, ↓w_ald2, ↓w_ald0, ↓w_ild3, ↓w_ic, ↓w_iadd, ↓w_sald, ↓w_cv1, true_and, and_true, true_implies, false_implies, not_true_eq_false, not_false_eq_true, Int.reduceEq, Int.reduceLT, Int.reduceLE, Int.reduceNeg, w_c80, w_c8I, w_c8L, w_c8R, w_tl1, k1]
  repeat refine And.intro (by first | assumption | omega | exact sx32 _ | (unfold in32; omega) | (unfold in64; omega) | exact True.intro | exact Or.inl True.intro | exact Or.inr True.intro | exact Or.inr rfl | rfl | exact Nat.le_of_ble_eq_true rfl | decide +kernel) ?_
  try first | done | assumption
  refine ⟨_, hR, ?_⟩
  rintro r8 M8 ⟨rfl, hP⟩
  refine k_La_law_1450 _ _ _ _ _ _ _ _ ?_
  simp only [↓w_nil, ↓w_iceq, true_and, and_true, true_implies, false_implies, not_true_eq_false, not_false_eq_true, Int.reduceEq, Int.reduceLT, Int.reduceLE, Int.reduceNeg, w_tl1]
  repeat refine And.intro (by first | assumption | omega | exact sx32 _ | (unfold in32; omega) | (unfold in64; omega) | exact True.intro | exact Or.inl True.intro | exact Or.inr True.intro | exact Or.inr rfl | rfl | exact Nat.le_of_ble_eq_true rfl | decide +kernel) ?_
  try first | done | assumption
  first | exact ih _ hP | exact ⟨fun _ => ih _ hP, fun h => absurd rfl h⟩
theorem la_42 {g : cw_G} {n : Int} {M : cw_M} {Q : Option cw_V → cw_M → Prop} (hi : IV n M) (n0 : 0 ≤ n) (hl : 6 * n + 6 ≤ cw_xL g) (hx : cw_xL g ≤ 3072) (ih : ∀ M', IV (n + 1) M' → cw_J g y_La_law 0 cw_NX cw_NX 1515 [.inr (.inr (-5)), .inr (.inr 0), .inr (.inr 319), .inl (6 * n)] [] M' Q) : cw_J g y_La_law 0 cw_NX cw_NX 1455 [.inr (.inr (-5)), .inr (.inr 0), .inr (.inr 319), .inl (6 * n)] [] M Q := by
  have k0 : cw_kt cw_NX 0 = (11, 0) := by decide +kernel
  have k1 : cw_kt cw_NX 319 = (12, 0) := by decide +kernel
  refine k_La_law_1455 _ _ _ _ _ _ _ _ ?_
  simp only [↓w_nil, ↓w_cons, ↓w_ald1, ↓w_ald0, ↓w_ild3, ↓w_ic, ↓w_iadd, ↓w_sald, ↓w_cv1, true_and, and_true, true_implies, false_implies, not_true_eq_false, not_false_eq_true, Int.reduceEq, Int.reduceLT, Int.reduceLE, Int.reduceNeg, w_c80, w_c8I, w_c8L, w_c8R, k0]
  repeat refine And.intro (by first | assumption | omega | exact sx32 _ | (unfold in32; omega) | (unfold in64; omega) | exact True.intro | exact Or.inl True.intro | exact Or.inr True.intro | exact Or.inr rfl | rfl | exact Nat.le_of_ble_eq_true rfl | decide +kernel) ?_
  try first | done | assumption
  refine ⟨_, o_from hi (sx32 _), ?_⟩
  rintro r9 M9 ⟨v, hv, rfl, hR⟩
  refine k_La_law_1464 _ _ _ _ _ _ _ _ ?_
  simp only [↓w_nil, ↓w_cons, ↓w_ald2, ↓w_ald0, ↓w_ild3, ↓w_ic, ↓w_iadd, ↓w_sald, ↓w_cv1, true_and, and_true, true_implies, false_implies, not_true_eq_false, not_false_eq_true, Int.reduceEq, Int.reduceLT, Int.reduceLE, Int.reduceNeg, w_c80, w_c8I, w_c8L, w_c8R, w_tl1, k1]
  repeat refine And.intro (by first | assumption | omega | exact sx32 _ | (unfold in32; omega) | (unfold in64; omega) | exact True.intro | exact Or.inl True.intro | exact Or.inr True.intro | exact Or.inr rfl | rfl | exact Nat.le_of_ble_eq_true rfl | decide +kernel) ?_
  try first | done | assumption
  refine ⟨_, hR, ?_⟩
  rintro r8 M8 ⟨rfl, hP⟩
  refine k_La_law_1473 _ _ _ _ _ _ _ _ ?_
  simp only [↓w_nil, ↓w_iceq, true_and, and_true, true_implies, false_implies, not_true_eq_false, not_false_eq_true, Int.reduceEq, Int.reduceLT, Int.reduceLE, Int.reduceNeg, w_tl1]
  repeat refine And.intro (by first | assumption | omega | exact sx32 _ | (unfold in32; omega) | (unfold in64; omega) | exact True.intro | exact Or.inl True.intro | exact Or.inr True.intro | exact Or.inr rfl | rfl | exact Nat.le_of_ble_eq_true rfl | decide +kernel) ?_
  try first | done | assumption
  first | exact ih _ hP | exact ⟨fun _ => ih _ hP, fun h => absurd rfl h⟩
theorem la_43 {g : cw_G} {n : Int} {M : cw_M} {Q : Option cw_V → cw_M → Prop} (hi : IV n M) (n0 : 0 ≤ n) (hl : 6 * n + 6 ≤ cw_xL g) (hx : cw_xL g ≤ 3072) (ih : ∀ M', IV (n + 1) M' → cw_J g y_La_law 0 cw_NX cw_NX 1515 [.inr (.inr (-5)), .inr (.inr 0), .inr (.inr 319), .inl (6 * n)] [] M' Q) : cw_J g y_La_law 0 cw_NX cw_NX 1478 [.inr (.inr (-5)), .inr (.inr 0), .inr (.inr 319), .inl (6 * n)] [] M Q := by
  have k0 : cw_kt cw_NX 0 = (11, 0) := by decide +kernel
  have k1 : cw_kt cw_NX 319 = (12, 0) := by decide +kernel
  refine k_La_law_1478 _ _ _ _ _ _ _ _ ?_
  simp only [↓w_nil, ↓w_cons, ↓w_ald1, ↓w_ald0, ↓w_ild3, ↓w_ic, ↓w_iadd, ↓w_sald, ↓w_cv1, true_and, and_true, true_implies, false_implies, not_true_eq_false, not_false_eq_true, Int.reduceEq, Int.reduceLT, Int.reduceLE, Int.reduceNeg, w_c80, w_c8I, w_c8L, w_c8R, k0]
  repeat refine And.intro (by first | assumption | omega | exact sx32 _ | (unfold in32; omega) | (unfold in64; omega) | exact True.intro | exact Or.inl True.intro | exact Or.inr True.intro | exact Or.inr rfl | rfl | exact Nat.le_of_ble_eq_true rfl | decide +kernel) ?_
  try first | done | assumption
  refine ⟨_, o_count hi.1 hi.2.1 ⟨by omega, by omega⟩ (sx32 _), ?_⟩
  rintro r9 M9 ⟨v, hv, rfl, hR⟩
  refine k_La_law_1487 _ _ _ _ _ _ _ _ ?_
  simp only [↓w_nil, ↓w_cons, ↓w_ald2, ↓w_ald0, ↓w_ild3, ↓w_ic, ↓w_iadd, ↓w_sald, ↓w_cv1, true_and, and_true, true_implies, false_implies, not_true_eq_false, not_false_eq_true, Int.reduceEq, Int.reduceLT, Int.reduceLE, Int.reduceNeg, w_c80, w_c8I, w_c8L, w_c8R, w_tl1, k1]
  repeat refine And.intro (by first | assumption | omega | exact sx32 _ | (unfold in32; omega) | (unfold in64; omega) | exact True.intro | exact Or.inl True.intro | exact Or.inr True.intro | exact Or.inr rfl | rfl | exact Nat.le_of_ble_eq_true rfl | decide +kernel) ?_
  try first | done | assumption
  refine ⟨_, hR, ?_⟩
  rintro r8 M8 ⟨rfl, hP⟩
  refine k_La_law_1496 _ _ _ _ _ _ _ _ ?_
  simp only [↓w_nil, ↓w_iceq, true_and, and_true, true_implies, false_implies, not_true_eq_false, not_false_eq_true, Int.reduceEq, Int.reduceLT, Int.reduceLE, Int.reduceNeg, w_tl1]
  repeat refine And.intro (by first | assumption | omega | exact sx32 _ | (unfold in32; omega) | (unfold in64; omega) | exact True.intro | exact Or.inl True.intro | exact Or.inr True.intro | exact Or.inr rfl | rfl | exact Nat.le_of_ble_eq_true rfl | decide +kernel) ?_
  try first | done | assumption
  first | exact ih _ (iv_nx hi hP.to2) | exact ⟨fun _ => ih _ (iv_nx hi hP.to2), fun h => absurd rfl h⟩
theorem la_44 {g : cw_G} {n : Int} {M : cw_M} {Q : Option cw_V → cw_M → Prop} (hi : IV n M) (n0 : 0 ≤ n) (hl : 6 * n + 6 ≤ cw_xL g) (hx : cw_xL g ≤ 3072) (ih : ∀ M', IV (n + 1) M' → cw_J g y_La_law 0 cw_NX cw_NX 1515 [.inr (.inr (-5)), .inr (.inr 0), .inr (.inr 319), .inl (6 * n)] [] M' Q) : cw_J g y_La_law 0 cw_NX cw_NX 1501 [.inr (.inr (-5)), .inr (.inr 0), .inr (.inr 319), .inl (6 * n)] [] M Q := by
  have k0 : cw_kt cw_NX 0 = (11, 0) := by decide +kernel
  have k1 : cw_kt cw_NX 319 = (12, 0) := by decide +kernel
  refine k_La_law_1501 _ _ _ _ _ _ _ _ ?_
  simp only [↓w_nil, ↓w_cons, ↓w_ald1, ↓w_cv0, true_and, and_true, true_implies, false_implies, not_true_eq_false, not_false_eq_true, Int.reduceEq, Int.reduceLT, Int.reduceLE, Int.reduceNeg, w_c80, w_c8I, w_c8L, w_c8R, k0]
  repeat refine And.intro (by first | assumption | omega | exact sx32 _ | (unfold in32; omega) | (unfold in64; omega) | exact True.intro | exact Or.inl True.intro | exact Or.inr True.intro | exact Or.inr rfl | rfl | exact Nat.le_of_ble_eq_true rfl | decide +kernel) ?_
  try first | done | assumption
  refine ⟨_, o_digest hi (by omega), ?_⟩
  rintro r9 M9 ⟨v, hv, rfl, hR⟩
  refine k_La_law_1505 _ _ _ _ _ _ _ _ ?_
  simp only [↓w_nil, ↓w_cons, ↓w_ald2, ↓w_cv0, true_and, and_true, true_implies, false_implies, not_true_eq_false, not_false_eq_true, Int.reduceEq, Int.reduceLT, Int.reduceLE, Int.reduceNeg, w_c80, w_c8I, w_c8L, w_c8R, w_tl1, k1]
  repeat refine And.intro (by first | assumption | omega | exact sx32 _ | (unfold in32; omega) | (unfold in64; omega) | exact True.intro | exact Or.inl True.intro | exact Or.inr True.intro | exact Or.inr rfl | rfl | exact Nat.le_of_ble_eq_true rfl | decide +kernel) ?_
  try first | done | assumption
  refine ⟨_, hR, ?_⟩
  rintro r8 M8 ⟨rfl, hP⟩
  refine k_La_law_1509 _ _ _ _ _ _ _ _ ?_
  simp only [↓w_nil, ↓w_lceq, true_and, and_true, true_implies, false_implies, not_true_eq_false, not_false_eq_true, Int.reduceEq, Int.reduceLT, Int.reduceLE, Int.reduceNeg, w_tl1]
  repeat refine And.intro (by first | assumption | omega | exact sx32 _ | (unfold in32; omega) | (unfold in64; omega) | exact True.intro | exact Or.inl True.intro | exact Or.inr True.intro | exact Or.inr rfl | rfl | exact Nat.le_of_ble_eq_true rfl | decide +kernel) ?_
  try first | done | assumption
  first | exact ih _ hP | exact ⟨fun _ => ih _ hP, fun h => absurd rfl h⟩
