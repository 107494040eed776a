/-! the class: settle -/
def Ay (a : Int) : Prop := 148 ≤ a ∧ a ≤ 275
theorem at_cg {f k : Int → Int} {t w : Int} {T : Tr} {M M' : cw_M} {X F : Int → Int} (h : st_at f t T k M w X F) (h13 : t_sz T ≤ 13) (hl : ∀ p, t_in T p → 0 ≤ M 145 p ∧ M 145 p < 13) (kk : ∀ a : Int, a = 145 ∨ (149 ≤ a ∧ a ≤ 225 ∧ a ≠ 166 ∧ a ≠ 167) → M' a = M a) : st_at f t T k M' w X F := by
  obtain ⟨⟨a1, a2⟩, a3, a4, a5, a6, a7, a8, a9, a10⟩ := h
  refine ⟨⟨a1.cg (kk _ (by omega)) (kk _ (by omega)), a2⟩, fun p q0 q1 => ⟨(a3 p q0 q1).1.cg (kk _ (by omega)) (kk _ (by omega)), (a3 p q0 q1).2⟩, fun p hp => ?_, fun p q0 q1 => ?_, a6, a7, a8, a9, ?_⟩
  · rw [kk 145 (by omega)]
    have := hl p hp
    exact ⟨(a4 p hp).1.cg (kk _ (by omega)) (kk _ (by omega)), (a4 p hp).2⟩
  · rw [kk 168 (by omega), kk 169 (by omega)]; exact a5 p q0 q1
  · refine va_k (M := M) (hi := 13) (fun j j0 j1 => ?_) (Int.le_refl 0) (by omega) a10
    rw [kk 170 (by omega), kk 171 (by omega), kk _ (by omega), kk _ (by omega)]
    exact ⟨rfl, rfl, rfl, rfl⟩
theorem dc_lf {K F S V : Int → Int} : ∀ (t : Tr) (lo : Int), t_dc K F S V t lo → ∀ p, t_in t p → lo ≤ V p ∧ V p < lo + t_sz t
  | .num p, lo, ⟨_, _, _, d⟩, q, hq => by have hq : q = p := hq; subst hq; rw [d]; exact ⟨Int.le_refl _, by show lo < lo + 1; omega⟩
  | .neg x, lo, d, q, hq => dc_lf x lo d q hq
  | .add a b, lo, d, q, hq => by
    have := sz_pos a
    have := sz_pos b
    show lo ≤ V q ∧ V q < lo + (t_sz a + t_sz b + 1)
    rcases hq with hq | hq
    · have := dc_lf a _ d.1 q hq; omega
    · have := dc_lf b _ d.2.1 q hq; omega
  | .mul a b, lo, d, q, hq => by
    have := sz_pos a
    have := sz_pos b
    show lo ≤ V q ∧ V q < lo + (t_sz a + t_sz b + 1)
    rcases hq with hq | hq
    · have := dc_lf a _ d.1 q hq; omega
    · have := dc_lf b _ d.2.1 q hq; omega
theorem st_lf {f : Int → Int} {T : Tr} {M : cw_M} (h : st_ok f T M) : ∀ p, t_in T p → 0 ≤ M 145 p ∧ M 145 p < 13 := fun p hp => by
  have := dc_lf T 0 h.2.1.2.2.1 p hp
  have := h.2.1.2.1
  omega
def st_Q (f : Int → Int) (t : Int) (T : Tr) (M : cw_M) : Option cw_V → cw_M → Prop := fun q M' => q = none ∧ Fg Ay M M' ∧ ∃ (w : Int) (X F : Int → Int), st_ok f T M' ∧ st_at f t T (M' 167) M' w X F ∧ ∀ p, t_in T p → f (10 + 12 * p) = 0 → l_in f p (M' 167 p) w (X p)
/-- behind a guess -/
theorem st_guess {g : cw_G} {M0 M : cw_M} {t i w : Int} {f fl X F : Int → Int} {n : Int} {T : Tr} {z : cw_V} (hR : RelS 1 f fl M) (hW : WF n f fl) (h0 : Fg Ay M0 M) (h : st_ok f T M) (ha : st_at f t T (M 167) M w X F)
    (nx : ∀ (M2 : cw_M) (z : cw_V), Fg Ay M0 M2 → st_ok f T M2 → mJ g y_Re_settle 212 [.inr (.inr 148), .inr (.inr 2), .inr (.inr 141), .inl t, .inl i, z] [] M2 (st_Q f t T M0)) :
    mJ g y_Re_settle 166 [.inr (.inr 148), .inr (.inr 2), .inr (.inr 141), .inl t, .inl i, z] [] M (st_Q f t T M0) := by
  have hS := h0.1
  obtain ⟨⟨a1, a2⟩, a3, a4, a5, a6, a7, a8, a9, a10⟩ := id ha
  refine k_Re_settle_166 _ _ _ _ _ _ _ _ ?_
  simp (disch := omega) only [↓w_nil, ↓w_cons, ↓w_ic, ↓w_fall, true_and, and_true, true_implies, false_implies, not_true_eq_false, not_false_eq_true, Int.reduceEq, Int.reduceLT, Int.reduceLE, Int.reduceNeg, w_up1, w_up2, w_up3]
  repeat refine And.intro (by first | assumption | exact IsW.kt (by assumption) | omega | (unfold in32; omega) | (unfold in64; omega) | exact True.intro | exact Or.inl True.intro | exact Or.inr True.intro | rfl | exact Nat.le_of_ble_eq_true rfl) ?_
  try first | done | assumption | (unfold in32; omega) | (unfold in64; omega)
  refine k_Re_settle_167 _ _ _ _ _ _ _ _ ?_
  simp (disch := omega) only [↓w_nil, ↓w_cons, ↓w_ist5, ↓w_ild5, ↓w_ifeq, true_and, and_true, true_implies, false_implies, not_true_eq_false, not_false_eq_true, Int.reduceEq, Int.reduceLT, Int.reduceLE, Int.reduceNeg, w_nlI, w_nlL, w_nlR, w_up1, w_up2, w_up3]
  repeat refine And.intro (by first | assumption | exact IsW.kt (by assumption) | omega | (unfold in32; omega) | (unfold in64; omega) | exact True.intro | exact Or.inl True.intro | exact Or.inr True.intro | rfl | exact Nat.le_of_ble_eq_true rfl) ?_
  try first | done | assumption | (unfold in32; omega) | (unfold in64; omega)
  refine k_Re_settle_185 _ _ _ _ _ _ _ _ ?_
  simp (disch := omega) only [↓w_nil, ↓w_cons, ↓w_ald0, ↓w_ald1, ↓w_cv1, true_and, and_true, true_implies, false_implies, not_true_eq_false, not_false_eq_true, Int.reduceEq, Int.reduceLT, Int.reduceLE, Int.reduceNeg, w_c80, w_c8I, w_c8L, w_c8R, w_up1, w_up2, w_up3]
  repeat refine And.intro (by first | assumption | exact IsW.kt (by assumption) | omega | (unfold in32; omega) | (unfold in64; omega) | exact True.intro | exact Or.inl True.intro | exact Or.inr True.intro | rfl | exact Nat.le_of_ble_eq_true rfl) ?_
  try first | done | assumption | (unfold in32; omega) | (unfold in64; omega)
  refine ⟨_, p_Re_guess hS hR hW a1 ⟨by omega, a2.2⟩ (fun p q0 q1 => (a3 p q0 q1).1) (fun p q0 q1 => by have := h.2.2.2.2.2.1 p q0 q1; unfold in32; omega), ?_⟩
  rintro q M2 ⟨c, rfl, hc, hz, F2, h2, h2'⟩
  have k2 : ∀ a : Int, a ≠ 167 → a ≠ 268 → a ≠ 269 → M2 a = M a := fun a q q' q'' => F2.2 a (fun y => by have y : a = 167 ∨ a = 268 ∨ a = 269 := y; omega)
  have F02 : Fg Ay M0 M2 := h0.tr (F2.mo (fun a y => by have y : a = 167 ∨ a = 268 ∨ a = 269 := y; show 148 ≤ a ∧ a ≤ 275; omega))
  have ok2 : st_ok f T M2 := by
    obtain ⟨h1, ⟨p1, p2, p3, p4⟩, h3, h4, h5, h6, h7, h8⟩ := id h
    unfold st_ok Pt
    rw [k2 148 (by omega) (by omega) (by omega), k2 141 (by omega) (by omega) (by omega), k2 142 (by omega) (by omega) (by omega), k2 143 (by omega) (by omega) (by omega), k2 144 (by omega) (by omega) (by omega), k2 145 (by omega) (by omega) (by omega), k2 166 (by omega) (by omega) (by omega)]
    refine ⟨h1, ⟨p1, p2, p3, p4⟩, h3, h4, h5, fun p q0 q1 => ?_, fun p q0 q1 q => ?_, fun p q0 q1 q => (h8 p q0 q1 q).cg (k2 _ (by omega) (by omega) (by omega)) (k2 _ (by omega) (by omega) (by omega))⟩
    · by_cases q : p < f 0
      · rw [h2 p q0 q]; exact pt_b
      · rw [h2' p (by omega)]; exact h6 p q0 q1
    · by_cases c : p < f 0
      · rw [h2 p q0 c]; exact if_neg q
      · rw [h2' p (by omega)]; exact h7 p q0 q1 q
  have c32 : in32 c := by unfold in32; omega
  refine k_Re_settle_190 _ _ _ _ _ _ _ _ ?_
  simp (disch := omega) only [↓w_nil, ↓w_ifne, true_and, and_true, true_implies, false_implies, not_true_eq_false, not_false_eq_true, Int.reduceEq, Int.reduceLT, Int.reduceLE, Int.reduceNeg, w_up1, w_up2, w_up3, w_tl1]
  repeat refine And.intro (by first | assumption | exact IsW.kt (by assumption) | omega | (unfold in32; omega) | (unfold in64; omega) | exact True.intro | exact Or.inl True.intro | exact Or.inr True.intro | rfl | exact Nat.le_of_ble_eq_true rfl) ?_
  try first | done | assumption | (unfold in32; omega) | (unfold in64; omega)
  refine ⟨fun hn => ?_, fun hn => ?_⟩
  · refine k_Re_settle_194 _ _ _ _ _ _ _ _ ?_
    simp (disch := omega) only [↓w_nil, ↓w_cons, ↓w_ild5, ↓w_ifne, true_and, and_true, true_implies, false_implies, not_true_eq_false, not_false_eq_true, Int.reduceEq, Int.reduceLT, Int.reduceLE, Int.reduceNeg, w_up1, w_up2, w_up3]
    repeat refine And.intro (by first | assumption | exact IsW.kt (by assumption) | omega | (unfold in32; omega) | (unfold in64; omega) | exact True.intro | exact Or.inl True.intro | exact Or.inr True.intro | rfl | exact Nat.le_of_ble_eq_true rfl) ?_
    try first | done | assumption | (unfold in32; omega) | (unfold in64; omega)
    refine k_Re_settle_199 _ _ _ _ _ _ _ _ ?_
    simp (disch := omega) only [↓w_nil, ↓w_goto, true_and, and_true, true_implies, false_implies, not_true_eq_false, not_false_eq_true, Int.reduceEq, Int.reduceLT, Int.reduceLE, Int.reduceNeg, w_up1, w_up2, w_up3]
    repeat refine And.intro (by first | assumption | exact IsW.kt (by assumption) | omega | (unfold in32; omega) | (unfold in64; omega) | exact True.intro | exact Or.inl True.intro | exact Or.inr True.intro | rfl | exact Nat.le_of_ble_eq_true rfl) ?_
    try first | done | assumption | (unfold in32; omega) | (unfold in64; omega)
    exact nx M2 _ F02 ok2
  · have c0 : c = 0 := by omega
    have e167 : M2 167 = M 167 := by
      funext p
      by_cases q : 0 ≤ p ∧ p < f 0
      · rw [h2 p q.1 q.2]; exact hz c0 p q.1 q.2
      · exact h2' p q
    refine k_Re_settle_193 _ _ _ _ _ _ _ _ ?_
    simp (disch := omega) only [↓w_nil, ↓w_vret, true_and, and_true, true_implies, false_implies, not_true_eq_false, not_false_eq_true, Int.reduceEq, Int.reduceLT, Int.reduceLE, Int.reduceNeg, w_up1, w_up2, w_up3]
    repeat refine And.intro (by first | assumption | exact IsW.kt (by assumption) | omega | (unfold in32; omega) | (unfold in64; omega) | exact True.intro | exact Or.inl True.intro | exact Or.inr True.intro | rfl | exact Nat.le_of_ble_eq_true rfl) ?_
    try first | done | assumption | (unfold in32; omega) | (unfold in64; omega)
    refine ⟨w, X, F, ok2, ?_, fun p hp hg => ?_⟩
    · rw [e167]
      exact at_cg ha h.2.1.2.1 (st_lf h) (fun a q => k2 a (by omega) (by omega) (by omega))
    · rw [e167, ← hz c0 p (h.2.2.2.1 p hp).1 (h.2.2.2.1 p hp).2.1]
      exact pt_in hW ⟨(h.2.2.2.1 p hp).1, (h.2.2.2.1 p hp).2.1⟩ (by omega) hg
