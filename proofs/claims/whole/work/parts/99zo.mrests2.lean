/-! the reference: rests -/
def Gr (M M' : cw_M) : Prop := Sh M' ∧ (∀ a, ¬ (320 ≤ a ∧ a ≤ 323) → ¬ (331 ≤ a ∧ a ≤ 336) → M' a = M a) ∧ ∀ s, (2 ≤ s ∧ s ≤ 13) ∨ s = 15 ∨ (32 ≤ s ∧ s < 92) → sR M M' s
theorem Gr.rf {M : cw_M} (h : Sh M) : Gr M M := ⟨h, fun _ _ _ => rfl, fun _ _ => sR.rf⟩
theorem Gr.tr {M M1 M2 : cw_M} (h : Gr M M1) (k : Gr M1 M2) : Gr M M2 := ⟨k.1, fun a x y => (k.2.1 a x y).trans (h.2.1 a x y), fun s a => (h.2.2 s a).tr (k.2.2 s a)⟩
theorem gr_gz {L : Int → Prop} {M M1 : cw_M} (h : Gz L M M1) : Gr M M1 := ⟨h.1, fun a x y => h.2.1 a x (by omega) (by omega) (by omega), h.2.2.2⟩
theorem gr_14 {M M1 : cw_M} (hS : Sh M) (h : cw_rf R14 M M1) : Gr M M1 := ⟨hS.rf h, fun a x _ => h.1 a x, fun s hs => h.2 s ⟨by omega, by omega⟩ (fun y => by have y : s = 0 ∨ s = 14 := y; omega)⟩
theorem gr_up {M M1 : cw_M} {a k v : Int} (h : Gr M M1) (ha : a = 334 ∨ a = 335) : Gr M (cw_up M1 a k v) := by
  have n : ∀ c : Int, ¬ (c = 334 ∨ c = 335) → (cw_up M1 a k v) c = M1 c := fun c hc => cw_up_ne (fun z => hc (by omega))
  refine ⟨h.1.up (by rcases ha with rfl | rfl; exact rs_k c_k334 (by decide); exact rs_k c_k335 (by decide)), fun c x y => by rw [n c (by omega)]; exact h.2.1 c x y, fun s hs => ?_⟩
  have o := h.2.2 s hs
  refine ⟨by rw [n 321 (by omega)]; exact o.1, by rw [n 322 (by omega)]; exact o.2.1, fun j x y => ?_⟩
  have := o.2.2 j x y
  unfold cw_rd at this ⊢
  rw [n 320 (by omega)]; exact this
theorem sv_14 {f k X F : Int → Int} {t : Int} {M M1 : cw_M} {R : Tr} {lo : Int} (h : R_sv f t k X F M R lo) (r : cw_rf R14 M M1) (hR : ∀ p, t_in R p → 0 ≤ p ∧ p < 7) : R_sv f t k X F M1 R lo := by
  obtain ⟨w, hw, h3, hp, hn⟩ := h
  refine ⟨w, hw, by rw [r.1 333 (by omega)]; exact h3, fun p q => ?_, hn⟩
  have b := hR p q
  have x := hp p q
  have nr : ∀ s : Int, 16 ≤ s → ¬ R14 s := fun s hs y => by have y : s = 0 ∨ s = 14 := y; omega
  refine ⟨⟨x.1.1.rf r ⟨by omega, by omega⟩ (nr _ (by omega)), x.1.2⟩, ⟨x.2.1.1.rf r ⟨by omega, by omega⟩ (nr _ (by omega)), x.2.1.2⟩, ?_, ?_⟩
  · rw [r.1 336 (by omega)]; exact x.2.2.1
  · rw [r.1 335 (by omega)]; exact x.2.2.2
/-- between the rounds -/
def rs_ok (f : Int → Int) (T : Tr) (M M1 : cw_M) : Prop := Gr M M1 ∧ (∀ p : Int, 0 ≤ p → p < 7 → ¬ t_in T p → M1 335 p = 0) ∧ ∀ p : Int, 0 ≤ p → p < 7 → -2 ≤ M1 334 p ∧ M1 334 p ≤ 2
theorem Mt.cg {M M1 : cw_M} {T : Tr} (h : Mt M T) (k : ∀ a : Int, a = 319 ∨ a = 327 ∨ a = 328 ∨ a = 329 → M1 a = M a) : Mt M1 T := by
  unfold Mt
  rw [k 319 (by omega), k 327 (by omega), k 328 (by omega), k 329 (by omega)]
  exact h
theorem p_rs_solve {g : cw_G} {M M1 : cw_M} {f fl : Int → Int} {n : Int} {T : Tr} (hf : M 324 = f) (hW : WF n f fl) (hT : Mt M T) (hk : Tk f T) (h : rs_ok f T M M1) :
    mC g y_Mo_solves [.inr (.inr 319)] M1 (fun q M2 => q = none ∧ rs_ok f T M M2 ∧ m_in T M2 ∧ M2 334 = M1 334 ∧ ∃ X F : Int → Int, t_tp (R_sv f (f 3) (M1 334) X F M2) T 1) := by
  have w0 := hW.1
  have e4 : M1 324 = f := by rw [h.1.2.1 324 (by omega) (by omega)]; exact hf
  have hsp := sp_ok (t := f 3) hW (by omega) h.2.2
  have hep := ep_ok2 (t := f 3) hW (by omega) h.2.2
  refine cw_C_mono (p_Mo_solves h.1.1 e4 rfl hW (hT.cg (fun a q => h.1.2.1 a (by omega) (by omega))) h.2.2 hsp hep hk.2.1 (lv_7 hk.2.2.1) hk.1 (fun p hp => (hk.2.2.2 p hp).2.1)) ?_
  rintro q M2 ⟨h1, h2, h3⟩
  have e34 : M2 334 = M1 334 := h2.2.1 334 (by omega) (by omega) (by omega) (by omega)
  have sv : t_tp (R_sv f (f 3) (M1 334) (fun p => cw_gv M2 (16 + p)) (fun p => cw_gv M2 (24 + p)) M2) T 1 := tp_mp T 1 (fun x j o1 o2 i l hB => rd_sv hW hsp hep (o1 hk.2.1) (Nat.le_trans l (lv_7 hk.2.2.1)) (fun p hp => (hk.2.2.2 p (i p hp)).2.1) hB) h3
  refine ⟨h1, ⟨h.1.tr (gr_gz h2), fun p q0 q1 q => ?_, by rw [e34]; exact h.2.2⟩, fun p q0 q1 => ?_, e34, _, _, sv⟩
  · rw [(h2.2.2.1 p q).1]; exact h.2.1 p q0 q1 q
  · by_cases c : t_in T p
    · obtain ⟨R, j, ⟨w, _, _, hp, _⟩, hR, _⟩ := tp_ex T 1 sv p c
      exact Or.inl ⟨(hp p hR).2.2.2, c⟩
    · exact Or.inr ⟨by rw [(h2.2.2.1 p c).1]; exact h.2.1 p q0 q1 c, c⟩
theorem p_rs_hold {g : cw_G} {M M2 : cw_M} {f fl k X F : Int → Int} {n : Int} {T : Tr} (hf : M 324 = f) (hW : WF n f fl) (hk : Tk f T) (h : rs_ok f T M M2) (hi : m_in T M2) (e34 : M2 334 = k) (sv : t_tp (R_sv f (f 3) k X F M2) T 1) :
    mC g y_Mo_allHold [.inr (.inr 319)] M2 (fun q M3 => (∃ c : Int, q = some (.inl c) ∧ (c = 0 ∨ c = 1) ∧ (c = 1 ↔ ∀ p, t_in T p → l_hd f p (k p) (M3 336 p) (X p))) ∧ rs_ok f T M M3 ∧ m_in T M3 ∧ M3 334 = k ∧ t_tp (R_sv f (f 3) k X F M3) T 1) := by
  have e4 : M2 324 = f := by rw [h.1.2.1 324 (by omega) (by omega)]; exact hf
  refine cw_C_mono (p_Mo_allHold (X := X) (W := M2 336) (k := k) h.1.1 (by rw [e4]; exact hW) (fun q hq => by rw [e4]; exact ⟨(hk.2.2.2 q hq).1, (hk.2.2.2 q hq).2.1⟩) hi (fun p hp => ?_) e34 (by rw [← e34]; exact h.2.2)) ?_
  · obtain ⟨R, j, ⟨w, hw, _, hx, _⟩, hR, _⟩ := tp_ex T 1 sv p hp
    have x := hx p hR
    exact ⟨x.1.1, rfl, by rw [x.2.2.1]; exact hw⟩
  · rintro q M3 ⟨⟨c, h1, h2, h3⟩, r⟩
    rw [e4] at h3
    have o : ∀ a : Int, ¬ (320 ≤ a ∧ a ≤ 323) → M3 a = M2 a := fun a z => r.1 a z
    refine ⟨⟨c, h1, h2, by rw [o 336 (by omega)]; exact h3⟩, ⟨h.1.tr (gr_14 h.1.1 r), by rw [o 335 (by omega)]; exact h.2.1, by rw [o 334 (by omega)]; exact h.2.2⟩, by unfold m_in; rw [o 335 (by omega)]; exact hi, by rw [o 334 (by omega)]; exact e34, tp_mp T 1 (fun x j o1 o2 i l hB => sv_14 hB r (fun p hp => ⟨(hk.2.2.2 p (i p hp)).1, (hk.2.2.2 p (i p hp)).2.2⟩)) sv⟩
/-- what rests leaves -/
def rs_Q (f : Int → Int) (T : Tr) (M : cw_M) : Option cw_V → cw_M → Prop := fun q M' => q = none ∧ Gr M M' ∧ m_in T M' ∧ ∃ X F : Int → Int, t_tp (R_at f (f 3) X F M') T 1
theorem lin_sc {f : Int → Int} {p k w x w' x' : Int} (h : 0 < w) (h' : 0 < w') (e : w' * x = w * x') (l : l_in f p k w x) : l_in f p k w' x' := by
  have le : ∀ b : Int, b * w ≤ x → b * w' ≤ x' := fun b hb => by
    have a := Int.mul_le_mul_of_nonneg_left hb (Int.le_of_lt h')
    rw [e] at a
    have c : w' * (b * w) = w * (b * w') := by grind
    rw [c] at a
    exact Int.le_of_mul_le_mul_left a h
  have ge : ∀ b : Int, x ≤ b * w → x' ≤ b * w' := fun b hb => by
    have a := Int.mul_le_mul_of_nonneg_left hb (Int.le_of_lt h')
    rw [e] at a
    have c : w' * (b * w) = w * (b * w') := by grind
    rw [c] at a
    exact Int.le_of_mul_le_mul_left a h
  have len : ∀ b : Int, -(b * w) ≤ x → -(b * w') ≤ x' := fun b hb => by have := le (-b) (by rw [Int.neg_mul]; exact hb); rw [Int.neg_mul] at this; exact this
  have gen : ∀ b : Int, x ≤ -(b * w) → x' ≤ -(b * w') := fun b hb => by have := ge (-b) (by rw [Int.neg_mul]; exact hb); rw [Int.neg_mul] at this; exact this
  unfold l_in at l ⊢
  rcases l with ⟨a, l⟩ | ⟨a, l, l'⟩ | ⟨a, l, l'⟩ | ⟨a, l, l'⟩ | ⟨a, l⟩
  · exact Or.inl ⟨a, le _ l⟩
  · exact Or.inr (Or.inl ⟨a, le _ l, ge _ l'⟩)
  · exact Or.inr (Or.inr (Or.inl ⟨a, len _ l, ge _ l'⟩))
  · exact Or.inr (Or.inr (Or.inr (Or.inl ⟨a, len _ l, gen _ l'⟩)))
  · exact Or.inr (Or.inr (Or.inr (Or.inr ⟨a, gen _ l⟩)))
/-- along the lines of the parts of a rest there is just that rest -/
theorem hd_of {f fl k kk X F Xr Fr : Int → Int} {n t w : Int} {T : Tr} {M : cw_M} (hW : WF n f fl) (ht : 0 ≤ t ∧ t < 24) (hk : Tk f T) (hkb : ∀ p : Int, 0 ≤ p → p < 7 → -2 ≤ k p ∧ k p ≤ 2) (sv : t_tp (R_sv f t k X F M) T 1) (hr : r_at f t T w Xr Fr) (hl : ∀ p, t_in T p → Fr p = l_s f t p (kk p) * Xr p + l_o f p (kk p) * w) (hi : ∀ p, t_in T p → f (10 + 12 * p) = 0 → l_in f p (kk p) w (Xr p)) (he : ∀ p : Int, 0 ≤ p → p < 7 → o_A f T p → k p = kk p) : ∀ p, t_in T p → l_hd f p (k p) (M 336 p) (X p) := by
  intro p hp
  have hsp := sp_ok (t := t) hW ht hkb
  have sv2 := at_tp (B := fun R j => R_sv f t k X F M R j ∧ (t_ok T → t_ok R)) T 1 (tp_mp T 1 (fun x j o1 o2 i l hB => ⟨hB, o1⟩) sv) hr
  obtain ⟨R, j, ⟨⟨⟨w', hw', _, hx, ⟨f0, hn⟩, hF⟩, hokR⟩, hrat⟩, hR, hRT⟩ := tp_ex T 1 sv2 p hp
  obtain ⟨w1, ⟨f1, hn1⟩, _⟩ := id hrat
  have b := hk.2.2.2 p hp
  rcases gap_1 hW ⟨b.1, b.2.1⟩ with g | g
  · refine Or.inr ?_
    rw [(hx p hR).2.2.1]
    have lines : ∀ q, t_in R q → l_s f t q (kk q) = l_sp f t k q ∧ l_o f q (kk q) = l_o f q (k q) := fun q hq => by
      have c := hk.2.2.2 q (hRT q hq)
      have e1 : l_sp f t k q = l_s f t q (k q) := if_pos c.2.1
      rw [e1]
      rcases gap_1 hW ⟨c.1, c.2.1⟩ with gq | gq
      · rw [he q c.1 c.2.2 ⟨(ix_in T q).mpr (hRT q hq), gq⟩]; exact ⟨rfl, rfl⟩
      · rw [lo_gap hW ⟨c.1, c.2.1⟩ gq, lo_gap hW ⟨c.1, c.2.1⟩ gq]
        unfold l_s
        rw [if_pos gq, if_pos gq]
        exact ⟨rfl, rfl⟩
    have un := ln_un hsp (hokR hk.2.1) (nt_k (k := w') R _ _ hn1) (by
      have := nt_k (k := w) R _ _ hn
      rw [show w * 0 = w' * 0 by omega] at this
      exact this) (fun q hq => by
      have c := hk.2.2.2 q (hRT q hq)
      have l := lines q hq
      have e1 : l_sp f t k q = l_s f t q (k q) := if_pos c.2.1
      show w' * Fr q - w * F q = l_sp f t k q * (w' * (Xr q - cw_so f q 4 * w) - w * (X q - cw_so f q 4 * w'))
      rw [hl q (hRT q hq), hF q hq, l.1, l.2, ← e1]
      grind) p hR
    have un : w' * (Xr p - cw_so f p 4 * w) = w * (X p - cw_so f p 4 * w') := un
    have e : w' * Xr p = w * X p := by grind
    rw [he p b.1 b.2.2 ⟨(ix_in T p).mpr hp, g⟩]
    exact lin_sc w1 hw'.1 e (hi p hp g)
  · exact Or.inl g
/-- all within: at rest -/
theorem rs_end {f fl k X F : Int → Int} {n : Int} {T : Tr} {M M3 : cw_M} (hW : WF n f fl) (hk : Tk f T) (h : rs_ok f T M M3) (hi : m_in T M3) (sv : t_tp (R_sv f (f 3) k X F M3) T 1) (hl : ∀ p, t_in T p → l_hd f p (k p) (M3 336 p) (X p)) : rs_Q f T M none M3 :=
  ⟨rfl, h.1, hi, X, F, tp_mp T 1 (fun x j o1 o2 i l hB => sv_at hW (fun p hp => ⟨(hk.2.2.2 p (i p hp)).1, (hk.2.2.2 p (i p hp)).2.1⟩) hB (fun p hp => hl p (i p hp))) sv⟩
theorem p_Mo_rests {g : cw_G} {M : cw_M} {f fl : Int → Int} {n : Int} {T : Tr} (hS : Sh M) (hf : M 324 = f) (hW : WF n f fl) (hT : Mt M T) (hk : Tk f T) :
    mC g y_Mo_rests [.inr (.inr 319)] M (rs_Q f T M) := by
  have w0 := hW.1
  have t3 : 0 ≤ f 3 ∧ f 3 < 24 := by omega
  obtain ⟨kk, wr, Xr, Fr, kkb, hr, hrl, hri⟩ := ex_rest hW t3 hk
  have e4of : ∀ M1 : cw_M, Gr M M1 → M1 324 = f := fun M1 h => by rw [h.2.1 324 (by omega) (by omega)]; exact hf
  -- the search over all parts
  have search : ∀ (d : Nat) (M1 : cw_M) (z : cw_V), o_V f T (M1 334) 7 + d = o_V f T kk 7 → rs_ok f T M M1 → mJ g y_Mo_rests 126 [.inr (.inr 319), .inl 1, z] [] M1 (rs_Q f T M) := by
    intro d
    induction d with
    | zero =>
      intro M1 z hd h1
      refine k_Mo_rests_126 _ _ _ _ _ _ _ _ ?_
      simp (disch := omega) only [↓w_nil, ↓w_cons, ↓w_ild1, ↓w_ifeq, true_and, and_true, true_implies, false_implies, not_true_eq_false, not_false_eq_true, Int.reduceEq, Int.reduceLT, Int.reduceLE, Int.reduceNeg, w_up1, w_up2, w_up3]
      repeat refine And.intro (by first | assumption | exact IsW.kt (by assumption) | omega | (unfold in32; omega) | (unfold in64; omega) | exact True.intro | exact Or.inl True.intro | exact Or.inr True.intro | rfl | exact Nat.le_of_ble_eq_true rfl) ?_
      try first | done | assumption | (unfold in32; omega) | (unfold in64; omega)
      refine k_Mo_rests_130 _ _ _ _ _ _ _ _ ?_
      simp (disch := omega) only [↓w_nil, ↓w_cons, ↓w_ald0, ↓w_cv0, true_and, and_true, true_implies, false_implies, not_true_eq_false, not_false_eq_true, Int.reduceEq, Int.reduceLT, Int.reduceLE, Int.reduceNeg, w_c80, w_c8I, w_c8L, w_c8R, w_up1, w_up2, w_up3]
      repeat refine And.intro (by first | assumption | exact IsW.kt (by assumption) | omega | (unfold in32; omega) | (unfold in64; omega) | exact True.intro | exact Or.inl True.intro | exact Or.inr True.intro | rfl | exact Nat.le_of_ble_eq_true rfl) ?_
      try first | done | assumption | (unfold in32; omega) | (unfold in64; omega)
      refine ⟨_, p_rs_solve hf hW hT hk h1, ?_⟩
      rintro q M2 ⟨rfl, h2, i2, e2, X, F, sv⟩
      refine k_Mo_rests_134 _ _ _ _ _ _ _ _ ?_
      simp (disch := omega) only [↓w_nil, ↓w_cons, ↓w_ald0, ↓w_cv0, true_and, and_true, true_implies, false_implies, not_true_eq_false, not_false_eq_true, Int.reduceEq, Int.reduceLT, Int.reduceLE, Int.reduceNeg, w_c80, w_c8I, w_c8L, w_c8R, w_up1, w_up2, w_up3, w_tl0]
      repeat refine And.intro (by first | assumption | exact IsW.kt (by assumption) | omega | (unfold in32; omega) | (unfold in64; omega) | exact True.intro | exact Or.inl True.intro | exact Or.inr True.intro | rfl | exact Nat.le_of_ble_eq_true rfl) ?_
      try first | done | assumption | (unfold in32; omega) | (unfold in64; omega)
      refine ⟨_, p_rs_hold hf hW hk h2 i2 e2 sv, ?_⟩
      rintro q M3 ⟨⟨c, rfl, hc, hci⟩, h3, i3, e3, sv3⟩
      have hd2 := hd_of hW t3 hk h1.2.2 sv3 hr hrl hri (oV_inj 7 (fun i a b => ⟨h1.2.2 i a b, kkb i a b⟩) (by omega))
      have c1 : c = 1 := hci.mpr hd2
      subst c1
      refine k_Mo_rests_138 _ _ _ _ _ _ _ _ ?_
      simp (disch := omega) only [↓w_nil, ↓w_ifne, true_and, and_true, true_implies, false_implies, not_true_eq_false, not_false_eq_true, Int.reduceEq, Int.reduceLT, Int.reduceLE, Int.reduceNeg, w_up1, w_up2, w_up3, w_tl1]
      repeat refine And.intro (by first | assumption | exact IsW.kt (by assumption) | omega | (unfold in32; omega) | (unfold in64; omega) | exact True.intro | exact Or.inl True.intro | exact Or.inr True.intro | rfl | exact Nat.le_of_ble_eq_true rfl) ?_
      try first | done | assumption | (unfold in32; omega) | (unfold in64; omega)
      refine k_Mo_rests_152 _ _ _ _ _ _ _ _ ?_
      simp (disch := omega) only [↓w_nil, ↓w_cons, ↓w_ic, ↓w_fall, true_and, and_true, true_implies, false_implies, not_true_eq_false, not_false_eq_true, Int.reduceEq, Int.reduceLT, Int.reduceLE, Int.reduceNeg, w_up1, w_up2, w_up3]
      refine k_Mo_rests_153 _ _ _ _ _ _ _ _ ?_
      simp (disch := omega) only [↓w_nil, ↓w_cons, ↓w_ist1, ↓w_goto, true_and, and_true, true_implies, false_implies, not_true_eq_false, not_false_eq_true, Int.reduceEq, Int.reduceLT, Int.reduceLE, Int.reduceNeg, w_nlI, w_nlL, w_nlR, w_up1, w_up2, w_up3]
      repeat refine And.intro (by first | assumption | exact IsW.kt (by assumption) | omega | (unfold in32; omega) | (unfold in64; omega) | exact True.intro | exact Or.inl True.intro | exact Or.inr True.intro | rfl | exact Nat.le_of_ble_eq_true rfl) ?_
      try first | done | assumption | (unfold in32; omega) | (unfold in64; omega)
      refine k_Mo_rests_126 _ _ _ _ _ _ _ _ ?_
      simp (disch := omega) only [↓w_nil, ↓w_cons, ↓w_ild1, ↓w_ifeq, true_and, and_true, true_implies, false_implies, not_true_eq_false, not_false_eq_true, Int.reduceEq, Int.reduceLT, Int.reduceLE, Int.reduceNeg, w_up1, w_up2, w_up3]
      repeat refine And.intro (by first | assumption | exact IsW.kt (by assumption) | omega | (unfold in32; omega) | (unfold in64; omega) | exact True.intro | exact Or.inl True.intro | exact Or.inr True.intro | rfl | exact Nat.le_of_ble_eq_true rfl) ?_
      try first | done | assumption | (unfold in32; omega) | (unfold in64; omega)
      refine k_Mo_rests_157 _ _ _ _ _ _ _ _ ?_
      simp (disch := omega) only [↓w_nil, ↓w_vret, true_and, and_true, true_implies, false_implies, not_true_eq_false, not_false_eq_true, Int.reduceEq, Int.reduceLT, Int.reduceLE, Int.reduceNeg, w_up1, w_up2, w_up3]
      exact rs_end hW hk h3 i3 sv3 hd2
    | succ d ih =>
      intro M1 z hd h1
      refine k_Mo_rests_126 _ _ _ _ _ _ _ _ ?_
      simp (disch := omega) only [↓w_nil, ↓w_cons, ↓w_ild1, ↓w_ifeq, true_and, and_true, true_implies, false_implies, not_true_eq_false, not_false_eq_true, Int.reduceEq, Int.reduceLT, Int.reduceLE, Int.reduceNeg, w_up1, w_up2, w_up3]
      repeat refine And.intro (by first | assumption | exact IsW.kt (by assumption) | omega | (unfold in32; omega) | (unfold in64; omega) | exact True.intro | exact Or.inl True.intro | exact Or.inr True.intro | rfl | exact Nat.le_of_ble_eq_true rfl) ?_
      try first | done | assumption | (unfold in32; omega) | (unfold in64; omega)
      refine k_Mo_rests_130 _ _ _ _ _ _ _ _ ?_
      simp (disch := omega) only [↓w_nil, ↓w_cons, ↓w_ald0, ↓w_cv0, true_and, and_true, true_implies, false_implies, not_true_eq_false, not_false_eq_true, Int.reduceEq, Int.reduceLT, Int.reduceLE, Int.reduceNeg, w_c80, w_c8I, w_c8L, w_c8R, w_up1, w_up2, w_up3]
      repeat refine And.intro (by first | assumption | exact IsW.kt (by assumption) | omega | (unfold in32; omega) | (unfold in64; omega) | exact True.intro | exact Or.inl True.intro | exact Or.inr True.intro | rfl | exact Nat.le_of_ble_eq_true rfl) ?_
      try first | done | assumption | (unfold in32; omega) | (unfold in64; omega)
      refine ⟨_, p_rs_solve hf hW hT hk h1, ?_⟩
      rintro q M2 ⟨rfl, h2, i2, e2, X, F, sv⟩
      refine k_Mo_rests_134 _ _ _ _ _ _ _ _ ?_
      simp (disch := omega) only [↓w_nil, ↓w_cons, ↓w_ald0, ↓w_cv0, true_and, and_true, true_implies, false_implies, not_true_eq_false, not_false_eq_true, Int.reduceEq, Int.reduceLT, Int.reduceLE, Int.reduceNeg, w_c80, w_c8I, w_c8L, w_c8R, w_up1, w_up2, w_up3, w_tl0]
      repeat refine And.intro (by first | assumption | exact IsW.kt (by assumption) | omega | (unfold in32; omega) | (unfold in64; omega) | exact True.intro | exact Or.inl True.intro | exact Or.inr True.intro | rfl | exact Nat.le_of_ble_eq_true rfl) ?_
      try first | done | assumption | (unfold in32; omega) | (unfold in64; omega)
      refine ⟨_, p_rs_hold hf hW hk h2 i2 e2 sv, ?_⟩
      rintro q M3 ⟨⟨c, rfl, hc, hci⟩, h3, i3, e3, sv3⟩
      have c32 : in32 c := by unfold in32; omega
      refine k_Mo_rests_138 _ _ _ _ _ _ _ _ ?_
      simp (disch := omega) only [↓w_nil, ↓w_ifne, true_and, and_true, true_implies, false_implies, not_true_eq_false, not_false_eq_true, Int.reduceEq, Int.reduceLT, Int.reduceLE, Int.reduceNeg, w_up1, w_up2, w_up3, w_tl1]
      repeat refine And.intro (by first | assumption | exact IsW.kt (by assumption) | omega | (unfold in32; omega) | (unfold in64; omega) | exact True.intro | exact Or.inl True.intro | exact Or.inr True.intro | rfl | exact Nat.le_of_ble_eq_true rfl) ?_
      try first | done | assumption | (unfold in32; omega) | (unfold in64; omega)
      refine ⟨fun hn => ?_, fun hn => ?_⟩
      · refine k_Mo_rests_152 _ _ _ _ _ _ _ _ ?_
        simp (disch := omega) only [↓w_nil, ↓w_cons, ↓w_ic, ↓w_fall, true_and, and_true, true_implies, false_implies, not_true_eq_false, not_false_eq_true, Int.reduceEq, Int.reduceLT, Int.reduceLE, Int.reduceNeg, w_up1, w_up2, w_up3]
        refine k_Mo_rests_153 _ _ _ _ _ _ _ _ ?_
        simp (disch := omega) only [↓w_nil, ↓w_cons, ↓w_ist1, ↓w_goto, true_and, and_true, true_implies, false_implies, not_true_eq_false, not_false_eq_true, Int.reduceEq, Int.reduceLT, Int.reduceLE, Int.reduceNeg, w_nlI, w_nlL, w_nlR, w_up1, w_up2, w_up3]
        repeat refine And.intro (by first | assumption | exact IsW.kt (by assumption) | omega | (unfold in32; omega) | (unfold in64; omega) | exact True.intro | exact Or.inl True.intro | exact Or.inr True.intro | rfl | exact Nat.le_of_ble_eq_true rfl) ?_
        try first | done | assumption | (unfold in32; omega) | (unfold in64; omega)
        refine k_Mo_rests_126 _ _ _ _ _ _ _ _ ?_
        simp (disch := omega) only [↓w_nil, ↓w_cons, ↓w_ild1, ↓w_ifeq, true_and, and_true, true_implies, false_implies, not_true_eq_false, not_false_eq_true, Int.reduceEq, Int.reduceLT, Int.reduceLE, Int.reduceNeg, w_up1, w_up2, w_up3]
        repeat refine And.intro (by first | assumption | exact IsW.kt (by assumption) | omega | (unfold in32; omega) | (unfold in64; omega) | exact True.intro | exact Or.inl True.intro | exact Or.inr True.intro | rfl | exact Nat.le_of_ble_eq_true rfl) ?_
        try first | done | assumption | (unfold in32; omega) | (unfold in64; omega)
        refine k_Mo_rests_157 _ _ _ _ _ _ _ _ ?_
        simp (disch := omega) only [↓w_nil, ↓w_vret, true_and, and_true, true_implies, false_implies, not_true_eq_false, not_false_eq_true, Int.reduceEq, Int.reduceLT, Int.reduceLE, Int.reduceNeg, w_up1, w_up2, w_up3]
        exact rs_end hW hk h3 i3 sv3 (hci.mp (by omega))
      · have e4 := e4of M3 h3.1
        refine k_Mo_rests_141 _ _ _ _ _ _ _ _ ?_
        simp (disch := omega) only [↓w_nil, ↓w_cons, ↓w_ald0, ↓w_cv0, true_and, and_true, true_implies, false_implies, not_true_eq_false, not_false_eq_true, Int.reduceEq, Int.reduceLT, Int.reduceLE, Int.reduceNeg, w_c80, w_c8I, w_c8L, w_c8R, w_up1, w_up2, w_up3]
        repeat refine And.intro (by first | assumption | exact IsW.kt (by assumption) | omega | (unfold in32; omega) | (unfold in64; omega) | exact True.intro | exact Or.inl True.intro | exact Or.inr True.intro | rfl | exact Nat.le_of_ble_eq_true rfl) ?_
        try first | done | assumption | (unfold in32; omega) | (unfold in64; omega)
        refine ⟨_, p_Mo_nextParts (T := T) (k := M1 334) h3.1.1 (by rw [e4]; exact hW) i3 e3 h1.2.2, ?_⟩
        rintro q M4 ⟨⟨c', rfl, hN⟩, hS4, o4⟩
        rw [e4] at hN
        rcases hN with ⟨rfl, j, hj, hA, hk2, u1, u2, u3⟩ | ⟨rfl, hall⟩
        · have up := oV_up hj.1 hA u1 u2 u3 7
          rw [if_pos (by omega)] at up
          have h4 : rs_ok f T M M4 := by
            refine ⟨⟨hS4, fun a x y => by rw [o4 a (by omega)]; exact h3.1.2.1 a x y, fun s hs => ?_⟩, by rw [o4 335 (by omega)]; exact h3.2.1, fun p p0 p1 => ?_⟩
            · have o := h3.1.2.2 s hs
              refine ⟨by rw [o4 321 (by omega)]; exact o.1, by rw [o4 322 (by omega)]; exact o.2.1, fun i x y => ?_⟩
              have := o.2.2 i x y
              unfold cw_rd at this ⊢
              rw [o4 320 (by omega)]; exact this
            · have b := h1.2.2 p p0 p1
              by_cases q : p = j
              · rw [q, u1]; rw [q] at b; omega
              · by_cases c2 : 0 ≤ p ∧ p < j ∧ o_A f T p
                · have := u2 p c2.1 c2.2.1 c2.2.2; omega
                · rw [u3 p q c2]; exact b
          refine k_Mo_rests_145 _ _ _ _ _ _ _ _ ?_
          simp (disch := omega) only [↓w_nil, ↓w_ifeq, true_and, and_true, true_implies, false_implies, not_true_eq_false, not_false_eq_true, Int.reduceEq, Int.reduceLT, Int.reduceLE, Int.reduceNeg, w_up1, w_up2, w_up3, w_tl1]
          repeat refine And.intro (by first | assumption | exact IsW.kt (by assumption) | omega | (unfold in32; omega) | (unfold in64; omega) | exact True.intro | exact Or.inl True.intro | exact Or.inr True.intro | rfl | exact Nat.le_of_ble_eq_true rfl) ?_
          try first | done | assumption | (unfold in32; omega) | (unfold in64; omega)
          refine k_Mo_rests_148 _ _ _ _ _ _ _ _ ?_
          simp (disch := omega) only [↓w_nil, ↓w_cons, ↓w_ic, ↓w_goto, true_and, and_true, true_implies, false_implies, not_true_eq_false, not_false_eq_true, Int.reduceEq, Int.reduceLT, Int.reduceLE, Int.reduceNeg, w_up1, w_up2, w_up3]
          refine k_Mo_rests_153 _ _ _ _ _ _ _ _ ?_
          simp (disch := omega) only [↓w_nil, ↓w_cons, ↓w_ist1, ↓w_goto, true_and, and_true, true_implies, false_implies, not_true_eq_false, not_false_eq_true, Int.reduceEq, Int.reduceLT, Int.reduceLE, Int.reduceNeg, w_nlI, w_nlL, w_nlR, w_up1, w_up2, w_up3]
          repeat refine And.intro (by first | assumption | exact IsW.kt (by assumption) | omega | (unfold in32; omega) | (unfold in64; omega) | exact True.intro | exact Or.inl True.intro | exact Or.inr True.intro | rfl | exact Nat.le_of_ble_eq_true rfl) ?_
          try first | done | assumption | (unfold in32; omega) | (unfold in64; omega)
          exact ih M4 _ (by omega) h4
        · exfalso
          have m := oV_max (f := f) (T := T) (k := M1 334) 7 (fun i a b hA => hall i a (hk.2.2.2 i ((ix_in T i).mp hA.1)).2.1 hA)
          have b := oV_b (f := f) (T := T) (k := kk) 7 (fun i a b => kkb i a b)
          omega
  -- all at their lowest
  have lowest : ∀ (d : Nat) (j : Int) (M1 : cw_M) (z : cw_V), j + d = 7 → 0 ≤ j → rs_ok f T M M1 → (∀ p : Int, 0 ≤ p → p < j → M1 334 p = -2) → mJ g y_Mo_rests 104 [.inr (.inr 319), .inl j, z] [] M1 (rs_Q f T M) := by
    intro d
    induction d with
    | zero =>
      intro j M1 z hj h0 h1 hp
      have ej : j = 7 := by omega
      subst ej
      have z0 : o_V f T (M1 334) 7 = 0 := by
        have m : ∀ n : Nat, (n : Int) ≤ 7 → o_V f T (M1 334) n = 0 := by
          intro n
          induction n with
          | zero => intro _; rfl
          | succ n ih2 =>
            intro hn
            show o_V f T (M1 334) n + _ = 0
            rw [ih2 (by omega), hp n (by omega) (by omega)]
            split <;> omega
        exact m 7 (by omega)
      have b := oV_b (f := f) (T := T) (k := kk) 7 (fun i a b => kkb i a b)
      refine k_Mo_rests_104 _ _ _ _ _ _ _ _ ?_
      simp (disch := omega) only [↓w_nil, ↓w_cons, ↓w_ild1, ↓w_ic, ↓w_icge, true_and, and_true, true_implies, false_implies, not_true_eq_false, not_false_eq_true, Int.reduceEq, Int.reduceLT, Int.reduceLE, Int.reduceNeg, w_up1, w_up2, w_up3]
      repeat refine And.intro (by first | assumption | exact IsW.kt (by assumption) | omega | (unfold in32; omega) | (unfold in64; omega) | exact True.intro | exact Or.inl True.intro | exact Or.inr True.intro | rfl | exact Nat.le_of_ble_eq_true rfl) ?_
      try first | done | assumption | (unfold in32; omega) | (unfold in64; omega)
      refine k_Mo_rests_124 _ _ _ _ _ _ _ _ ?_
      simp (disch := omega) only [↓w_nil, ↓w_cons, ↓w_ic, ↓w_ist1, ↓w_fall, true_and, and_true, true_implies, false_implies, not_true_eq_false, not_false_eq_true, Int.reduceEq, Int.reduceLT, Int.reduceLE, Int.reduceNeg, w_nlI, w_nlL, w_nlR, w_up1, w_up2, w_up3]
      repeat refine And.intro (by first | assumption | exact IsW.kt (by assumption) | omega | (unfold in32; omega) | (unfold in64; omega) | exact True.intro | exact Or.inl True.intro | exact Or.inr True.intro | rfl | exact Nat.le_of_ble_eq_true rfl) ?_
      try first | done | assumption | (unfold in32; omega) | (unfold in64; omega)
      exact search (o_V f T kk 7).toNat M1 _ (by omega) h1
    | succ d ih =>
      intro j M1 z hj h0 h1 hp
      have hS1 := h1.1.1
      refine k_Mo_rests_104 _ _ _ _ _ _ _ _ ?_
      simp (disch := omega) only [↓w_nil, ↓w_cons, ↓w_ild1, ↓w_ic, ↓w_icge, true_and, and_true, true_implies, false_implies, not_true_eq_false, not_false_eq_true, Int.reduceEq, Int.reduceLT, Int.reduceLE, Int.reduceNeg, w_up1, w_up2, w_up3]
      repeat refine And.intro (by first | assumption | exact IsW.kt (by assumption) | omega | (unfold in32; omega) | (unfold in64; omega) | exact True.intro | exact Or.inl True.intro | exact Or.inr True.intro | rfl | exact Nat.le_of_ble_eq_true rfl) ?_
      try first | done | assumption | (unfold in32; omega) | (unfold in64; omega)
      intro _
      refine k_Mo_rests_110 _ _ _ _ _ _ _ _ ?_
      simp (disch := omega) only [↓w_nil, ↓w_cons, ↓w_ald0, ↓w_gf2_15, ↓w_ild1, ↓w_ic, ↓w_iast, ↓w_inc1, ↓w_goto, true_and, and_true, true_implies, false_implies, not_true_eq_false, not_false_eq_true, Int.reduceEq, Int.reduceLT, Int.reduceLE, Int.reduceNeg, w_nlI, w_nlL, w_nlR, w_up1, w_up2, w_up3, c_k319, c_k320, c_k321, c_k322, c_k323, c_k324, c_k325, c_k326, c_k327, c_k328, c_k329, c_k330, c_k331, c_k332, c_k333, c_k334, c_k335, c_k336, c_k337, c_k338, c_k339, c_k340, c_k341, c_k342, c_k343, c_k344, c_k345, c_k346, c_k347, hS1.r319_0, hS1.r319_1, hS1.r319_2, hS1.r319_3, hS1.r319_4, hS1.r319_5, hS1.r319_6, hS1.r319_8, hS1.r319_9, hS1.r319_10, hS1.r319_11, hS1.r319_12, hS1.r319_13, hS1.r319_14, hS1.r319_15, hS1.r319_16, hS1.r319_17, hS1.r319_20, hS1.r319_21, hS1.r319_22, hS1.r319_23, hS1.r319_24, hS1.r319_25, hS1.r319_26, hS1.r319_29, hS1.r319_30, hS1.r319_31, hS1.r319_32, w_sf1, w_sf3]
      repeat refine And.intro (by first | assumption | exact IsW.kt (by assumption) | omega | (unfold in32; omega) | (unfold in64; omega) | exact True.intro | exact Or.inl True.intro | exact Or.inr True.intro | rfl | exact Nat.le_of_ble_eq_true rfl) ?_
      try first | done | assumption | (unfold in32; omega) | (unfold in64; omega)
      refine ih (j + 1) _ _ (by omega) (by omega) ⟨gr_up h1.1 (Or.inl rfl), fun p p0 p1 q => by rw [cw_up_ne (by omega)]; exact h1.2.1 p p0 p1 q, fun p p0 p1 => ?_⟩ (fun p p0 p1 => ?_)
      · by_cases q : p = j
        · rw [q, w_up1]; omega
        · rw [w_up2 q]; exact h1.2.2 p p0 p1
      · by_cases q : p = j
        · rw [q, w_up1]
        · rw [w_up2 q]; exact hp p p0 (by omega)
  -- the guesses
  have guess : ∀ (d : Nat) (i : Int) (M1 : cw_M) (z : cw_V), i + d = 40 → 0 ≤ i → rs_ok f T M M1 → mJ g y_Mo_rests 30 [.inr (.inr 319), .inl i, z] [] M1 (rs_Q f T M) := by
    intro d
    induction d with
    | zero =>
      intro i M1 z hi h0 h1
      have ei : i = 40 := by omega
      subst ei
      refine k_Mo_rests_30 _ _ _ _ _ _ _ _ ?_
      simp (disch := omega) only [↓w_nil, ↓w_cons, ↓w_ild1, ↓w_ic, ↓w_icge, true_and, and_true, true_implies, false_implies, not_true_eq_false, not_false_eq_true, Int.reduceEq, Int.reduceLT, Int.reduceLE, Int.reduceNeg, w_up1, w_up2, w_up3]
      repeat refine And.intro (by first | assumption | exact IsW.kt (by assumption) | omega | (unfold in32; omega) | (unfold in64; omega) | exact True.intro | exact Or.inl True.intro | exact Or.inr True.intro | rfl | exact Nat.le_of_ble_eq_true rfl) ?_
      try first | done | assumption | (unfold in32; omega) | (unfold in64; omega)
      refine k_Mo_rests_102 _ _ _ _ _ _ _ _ ?_
      simp (disch := omega) only [↓w_nil, ↓w_cons, ↓w_ic, ↓w_ist1, ↓w_fall, true_and, and_true, true_implies, false_implies, not_true_eq_false, not_false_eq_true, Int.reduceEq, Int.reduceLT, Int.reduceLE, Int.reduceNeg, w_nlI, w_nlL, w_nlR, w_up1, w_up2, w_up3]
      repeat refine And.intro (by first | assumption | exact IsW.kt (by assumption) | omega | (unfold in32; omega) | (unfold in64; omega) | exact True.intro | exact Or.inl True.intro | exact Or.inr True.intro | rfl | exact Nat.le_of_ble_eq_true rfl) ?_
      try first | done | assumption | (unfold in32; omega) | (unfold in64; omega)
      exact lowest 7 0 M1 _ (by omega) (by omega) h1 (fun p p0 p1 => by omega)
    | succ d ih =>
      intro i M1 z hi h0 h1
      refine k_Mo_rests_30 _ _ _ _ _ _ _ _ ?_
      simp (disch := omega) only [↓w_nil, ↓w_cons, ↓w_ild1, ↓w_ic, ↓w_icge, true_and, and_true, true_implies, false_implies, not_true_eq_false, not_false_eq_true, Int.reduceEq, Int.reduceLT, Int.reduceLE, Int.reduceNeg, w_up1, w_up2, w_up3]
      repeat refine And.intro (by first | assumption | exact IsW.kt (by assumption) | omega | (unfold in32; omega) | (unfold in64; omega) | exact True.intro | exact Or.inl True.intro | exact Or.inr True.intro | rfl | exact Nat.le_of_ble_eq_true rfl) ?_
      try first | done | assumption | (unfold in32; omega) | (unfold in64; omega)
      intro _
      refine k_Mo_rests_36 _ _ _ _ _ _ _ _ ?_
      simp (disch := omega) only [↓w_nil, ↓w_cons, ↓w_ald0, ↓w_cv0, true_and, and_true, true_implies, false_implies, not_true_eq_false, not_false_eq_true, Int.reduceEq, Int.reduceLT, Int.reduceLE, Int.reduceNeg, w_c80, w_c8I, w_c8L, w_c8R, w_up1, w_up2, w_up3]
      repeat refine And.intro (by first | assumption | exact IsW.kt (by assumption) | omega | (unfold in32; omega) | (unfold in64; omega) | exact True.intro | exact Or.inl True.intro | exact Or.inr True.intro | rfl | exact Nat.le_of_ble_eq_true rfl) ?_
      try first | done | assumption | (unfold in32; omega) | (unfold in64; omega)
      refine ⟨_, p_rs_solve hf hW hT hk h1, ?_⟩
      rintro q M2 ⟨rfl, h2, i2, e2, X, F, sv⟩
      refine k_Mo_rests_40 _ _ _ _ _ _ _ _ ?_
      simp (disch := omega) only [↓w_nil, ↓w_cons, ↓w_ald0, ↓w_cv0, true_and, and_true, true_implies, false_implies, not_true_eq_false, not_false_eq_true, Int.reduceEq, Int.reduceLT, Int.reduceLE, Int.reduceNeg, w_c80, w_c8I, w_c8L, w_c8R, w_up1, w_up2, w_up3, w_tl0]
      repeat refine And.intro (by first | assumption | exact IsW.kt (by assumption) | omega | (unfold in32; omega) | (unfold in64; omega) | exact True.intro | exact Or.inl True.intro | exact Or.inr True.intro | rfl | exact Nat.le_of_ble_eq_true rfl) ?_
      try first | done | assumption | (unfold in32; omega) | (unfold in64; omega)
      refine ⟨_, p_rs_hold hf hW hk h2 i2 e2 sv, ?_⟩
      rintro q M3 ⟨⟨c, rfl, hc, hci⟩, h3, i3, e3, sv3⟩
      have c32 : in32 c := by unfold in32; omega
      refine k_Mo_rests_44 _ _ _ _ _ _ _ _ ?_
      simp (disch := omega) only [↓w_nil, ↓w_ifeq, true_and, and_true, true_implies, false_implies, not_true_eq_false, not_false_eq_true, Int.reduceEq, Int.reduceLT, Int.reduceLE, Int.reduceNeg, w_up1, w_up2, w_up3, w_tl1]
      repeat refine And.intro (by first | assumption | exact IsW.kt (by assumption) | omega | (unfold in32; omega) | (unfold in64; omega) | exact True.intro | exact Or.inl True.intro | exact Or.inr True.intro | rfl | exact Nat.le_of_ble_eq_true rfl) ?_
      try first | done | assumption | (unfold in32; omega) | (unfold in64; omega)
      refine ⟨fun hn => ?_, fun hn => ?_⟩
      · have px3 : ∀ p, t_in T p → m_px M3 p (X p) (M3 336 p) := fun p hp => by
          obtain ⟨R, j, ⟨w, hw, _, hx, _⟩, hR, _⟩ := tp_ex T 1 sv3 p hp
          have x := hx p hR
          exact ⟨x.1.1, rfl, by rw [x.2.2.1]; exact hw⟩
        have inner : ∀ (d : Nat) (j : Int) (M4 : cw_M), j + d = f 0 → 0 ≤ j → rs_ok f T M M4 → m_in T M4 → (∀ p, t_in T p → m_px M4 p (X p) (M3 336 p)) → mJ g y_Mo_rests 50 [.inr (.inr 319), .inl i, .inl j] [] M4 (rs_Q f T M) := by
          intro d
          induction d with
          | zero =>
            intro j M4 hj j0 h4 i4 x4
            have hS4 := h4.1.1
            have e4 := e4of M4 h4.1
            refine k_Mo_rests_50 _ _ _ _ _ _ _ _ ?_
            simp (disch := omega) only [↓w_nil, ↓w_cons, ↓w_ild2, ↓w_ald0, ↓w_gf2_4, ↓w_ic, ↓w_iald, ↓w_icge, true_and, and_true, true_implies, false_implies, not_true_eq_false, not_false_eq_true, Int.reduceEq, Int.reduceLT, Int.reduceLE, Int.reduceNeg, w_up1, w_up2, w_up3, e4, c_k319, c_k320, c_k321, c_k322, c_k323, c_k324, c_k325, c_k326, c_k327, c_k328, c_k329, c_k330, c_k331, c_k332, c_k333, c_k334, c_k335, c_k336, c_k337, c_k338, c_k339, c_k340, c_k341, c_k342, c_k343, c_k344, c_k345, c_k346, c_k347, hS4.r319_0, hS4.r319_1, hS4.r319_2, hS4.r319_3, hS4.r319_4, hS4.r319_5, hS4.r319_6, hS4.r319_8, hS4.r319_9, hS4.r319_10, hS4.r319_11, hS4.r319_12, hS4.r319_13, hS4.r319_14, hS4.r319_15, hS4.r319_16, hS4.r319_17, hS4.r319_20, hS4.r319_21, hS4.r319_22, hS4.r319_23, hS4.r319_24, hS4.r319_25, hS4.r319_26, hS4.r319_29, hS4.r319_30, hS4.r319_31, hS4.r319_32, w_sf1, w_sf3]
            repeat refine And.intro (by first | assumption | exact IsW.kt (by assumption) | omega | (unfold in32; omega) | (unfold in64; omega) | exact True.intro | exact Or.inl True.intro | exact Or.inr True.intro | rfl | exact Nat.le_of_ble_eq_true rfl) ?_
            try first | done | assumption | (unfold in32; omega) | (unfold in64; omega)
            refine ⟨fun _ => ?_, fun h => absurd h (by omega)⟩
            refine k_Mo_rests_96 _ _ _ _ _ _ _ _ ?_
            simp (disch := omega) only [↓w_nil, ↓w_cons, ↓w_inc1, ↓w_goto, true_and, and_true, true_implies, false_implies, not_true_eq_false, not_false_eq_true, Int.reduceEq, Int.reduceLT, Int.reduceLE, Int.reduceNeg, w_nlI, w_nlL, w_nlR, w_up1, w_up2, w_up3]
            repeat refine And.intro (by first | assumption | exact IsW.kt (by assumption) | omega | (unfold in32; omega) | (unfold in64; omega) | exact True.intro | exact Or.inl True.intro | exact Or.inr True.intro | rfl | exact Nat.le_of_ble_eq_true rfl) ?_
            try first | done | assumption | (unfold in32; omega) | (unfold in64; omega)
            exact ih (i + 1) M4 _ (by omega) (by omega) h4
          | succ d ih2 =>
            intro j M4 hj j0 h4 i4 x4
            have hS4 := h4.1.1
            have e4 := e4of M4 h4.1
            have j7 : j < 7 := by omega
            have ii := i4 j j0 j7
            have i32 : in32 (M4 335 j) := by unfold in32; omega
            refine k_Mo_rests_50 _ _ _ _ _ _ _ _ ?_
            simp (disch := omega) only [↓w_nil, ↓w_cons, ↓w_ild2, ↓w_ald0, ↓w_gf2_4, ↓w_ic, ↓w_iald, ↓w_icge, true_and, and_true, true_implies, false_implies, not_true_eq_false, not_false_eq_true, Int.reduceEq, Int.reduceLT, Int.reduceLE, Int.reduceNeg, w_up1, w_up2, w_up3, e4, c_k319, c_k320, c_k321, c_k322, c_k323, c_k324, c_k325, c_k326, c_k327, c_k328, c_k329, c_k330, c_k331, c_k332, c_k333, c_k334, c_k335, c_k336, c_k337, c_k338, c_k339, c_k340, c_k341, c_k342, c_k343, c_k344, c_k345, c_k346, c_k347, hS4.r319_0, hS4.r319_1, hS4.r319_2, hS4.r319_3, hS4.r319_4, hS4.r319_5, hS4.r319_6, hS4.r319_8, hS4.r319_9, hS4.r319_10, hS4.r319_11, hS4.r319_12, hS4.r319_13, hS4.r319_14, hS4.r319_15, hS4.r319_16, hS4.r319_17, hS4.r319_20, hS4.r319_21, hS4.r319_22, hS4.r319_23, hS4.r319_24, hS4.r319_25, hS4.r319_26, hS4.r319_29, hS4.r319_30, hS4.r319_31, hS4.r319_32, w_sf1, w_sf3]
            repeat refine And.intro (by first | assumption | exact IsW.kt (by assumption) | omega | (unfold in32; omega) | (unfold in64; omega) | exact True.intro | exact Or.inl True.intro | exact Or.inr True.intro | rfl | exact Nat.le_of_ble_eq_true rfl) ?_
            try first | done | assumption | (unfold in32; omega) | (unfold in64; omega)
            intro _
            refine k_Mo_rests_60 _ _ _ _ _ _ _ _ ?_
            simp (disch := omega) only [↓w_nil, ↓w_cons, ↓w_ald0, ↓w_gf2_16, ↓w_ild2, ↓w_zald, ↓w_ifeq, true_and, and_true, true_implies, false_implies, not_true_eq_false, not_false_eq_true, Int.reduceEq, Int.reduceLT, Int.reduceLE, Int.reduceNeg, w_up1, w_up2, w_up3, c_k319, c_k320, c_k321, c_k322, c_k323, c_k324, c_k325, c_k326, c_k327, c_k328, c_k329, c_k330, c_k331, c_k332, c_k333, c_k334, c_k335, c_k336, c_k337, c_k338, c_k339, c_k340, c_k341, c_k342, c_k343, c_k344, c_k345, c_k346, c_k347, hS4.r319_0, hS4.r319_1, hS4.r319_2, hS4.r319_3, hS4.r319_4, hS4.r319_5, hS4.r319_6, hS4.r319_8, hS4.r319_9, hS4.r319_10, hS4.r319_11, hS4.r319_12, hS4.r319_13, hS4.r319_14, hS4.r319_15, hS4.r319_16, hS4.r319_17, hS4.r319_20, hS4.r319_21, hS4.r319_22, hS4.r319_23, hS4.r319_24, hS4.r319_25, hS4.r319_26, hS4.r319_29, hS4.r319_30, hS4.r319_31, hS4.r319_32, w_sf1, w_sf3]
            repeat refine And.intro (by first | assumption | exact IsW.kt (by assumption) | omega | (unfold in32; omega) | (unfold in64; omega) | exact True.intro | exact Or.inl True.intro | exact Or.inr True.intro | rfl | exact Nat.le_of_ble_eq_true rfl) ?_
            try first | done | assumption | (unfold in32; omega) | (unfold in64; omega)
            refine ⟨fun hq => ?_, fun hq => ?_⟩
            · refine k_Mo_rests_90 _ _ _ _ _ _ _ _ ?_
              simp (disch := omega) only [↓w_nil, ↓w_cons, ↓w_inc2, ↓w_goto, true_and, and_true, true_implies, false_implies, not_true_eq_false, not_false_eq_true, Int.reduceEq, Int.reduceLT, Int.reduceLE, Int.reduceNeg, w_nlI, w_nlL, w_nlR, w_up1, w_up2, w_up3]
              repeat refine And.intro (by first | assumption | exact IsW.kt (by assumption) | omega | (unfold in32; omega) | (unfold in64; omega) | exact True.intro | exact Or.inl True.intro | exact Or.inr True.intro | rfl | exact Nat.le_of_ble_eq_true rfl) ?_
              try first | done | assumption | (unfold in32; omega) | (unfold in64; omega)
              exact ih2 (j + 1) M4 (by omega) (by omega) h4 i4 x4
            · have jT : t_in T j := by rcases ii with y | y; exact y.2; exact absurd y.1 hq
              have sx : M4 322 (16 + j) = cw_sg (X j) := by obtain ⟨_, _, _, _, _, _, e⟩ := (x4 j jT).1; exact e
              refine k_Mo_rests_69 _ _ _ _ _ _ _ _ ?_
              simp (disch := omega) only [↓w_nil, ↓w_cons, ↓w_ald0, ↓w_gf2_15, ↓w_ild2, ↓w_gf2_2, ↓w_ic, ↓w_iadd, ↓w_iald, ↓w_cv1, true_and, and_true, true_implies, false_implies, not_true_eq_false, not_false_eq_true, Int.reduceEq, Int.reduceLT, Int.reduceLE, Int.reduceNeg, w_c80, w_c8I, w_c8L, w_c8R, w_up1, w_up2, w_up3, sx, c_k319, c_k320, c_k321, c_k322, c_k323, c_k324, c_k325, c_k326, c_k327, c_k328, c_k329, c_k330, c_k331, c_k332, c_k333, c_k334, c_k335, c_k336, c_k337, c_k338, c_k339, c_k340, c_k341, c_k342, c_k343, c_k344, c_k345, c_k346, c_k347, hS4.r319_0, hS4.r319_1, hS4.r319_2, hS4.r319_3, hS4.r319_4, hS4.r319_5, hS4.r319_6, hS4.r319_8, hS4.r319_9, hS4.r319_10, hS4.r319_11, hS4.r319_12, hS4.r319_13, hS4.r319_14, hS4.r319_15, hS4.r319_16, hS4.r319_17, hS4.r319_20, hS4.r319_21, hS4.r319_22, hS4.r319_23, hS4.r319_24, hS4.r319_25, hS4.r319_26, hS4.r319_29, hS4.r319_30, hS4.r319_31, hS4.r319_32, w_sf1, w_sf3]
              repeat refine And.intro (by first | assumption | exact IsW.kt (by assumption) | omega | (unfold in32; omega) | (unfold in64; omega) | exact True.intro | exact Or.inl True.intro | exact Or.inr True.intro | rfl | exact Nat.le_of_ble_eq_true rfl) ?_
              try first | done | assumption | (unfold in32; omega) | (unfold in64; omega)
              refine ⟨_, p_Mo_partOf hS4 (by rw [e4]; exact hW) (by rw [e4]; exact ⟨j0, by omega⟩) (x4 j jT), ?_⟩
              rintro q M5 ⟨rfl, r5⟩
              rw [e4]
              have h5 : rs_ok f T M M5 := ⟨h4.1.tr (gr_14 hS4 r5), by rw [r5.1 335 (by omega)]; exact h4.2.1, by rw [r5.1 334 (by omega)]; exact h4.2.2⟩
              have hS5 := h5.1.1
              have nb : -2 ≤ cw_sg (X j) * c_pt f j (M3 336 j) (X j) ∧ cw_sg (X j) * c_pt f j (M3 336 j) (X j) ≤ 2 := by
                have c2 : 0 ≤ c_pt f j (M3 336 j) (X j) ∧ c_pt f j (M3 336 j) (X j) ≤ 2 := by unfold c_pt; (repeat' split) <;> omega
                rcases sg_3 (X j) with z | z | z <;> rw [z.1] <;> omega
              refine k_Mo_rests_88 _ _ _ _ _ _ _ _ ?_
              simp (disch := omega) only [↓w_nil, ↓w_cons, ↓w_imul, ↓w_iast, ↓w_fall, true_and, and_true, true_implies, false_implies, not_true_eq_false, not_false_eq_true, Int.reduceEq, Int.reduceLT, Int.reduceLE, Int.reduceNeg, w_up1, w_up2, w_up3, w_tl1, c_k319, c_k320, c_k321, c_k322, c_k323, c_k324, c_k325, c_k326, c_k327, c_k328, c_k329, c_k330, c_k331, c_k332, c_k333, c_k334, c_k335, c_k336, c_k337, c_k338, c_k339, c_k340, c_k341, c_k342, c_k343, c_k344, c_k345, c_k346, c_k347, hS5.r319_0, hS5.r319_1, hS5.r319_2, hS5.r319_3, hS5.r319_4, hS5.r319_5, hS5.r319_6, hS5.r319_8, hS5.r319_9, hS5.r319_10, hS5.r319_11, hS5.r319_12, hS5.r319_13, hS5.r319_14, hS5.r319_15, hS5.r319_16, hS5.r319_17, hS5.r319_20, hS5.r319_21, hS5.r319_22, hS5.r319_23, hS5.r319_24, hS5.r319_25, hS5.r319_26, hS5.r319_29, hS5.r319_30, hS5.r319_31, hS5.r319_32, w_sf1, w_sf3]
              repeat refine And.intro (by first | assumption | exact IsW.kt (by assumption) | omega | (unfold in32; omega) | (unfold in64; omega) | exact True.intro | exact Or.inl True.intro | exact Or.inr True.intro | rfl | exact Nat.le_of_ble_eq_true rfl) ?_
              try first | done | assumption | (unfold in32; omega) | (unfold in64; omega)
              refine k_Mo_rests_90 _ _ _ _ _ _ _ _ ?_
              simp (disch := omega) only [↓w_nil, ↓w_cons, ↓w_inc2, ↓w_goto, true_and, and_true, true_implies, false_implies, not_true_eq_false, not_false_eq_true, Int.reduceEq, Int.reduceLT, Int.reduceLE, Int.reduceNeg, w_nlI, w_nlL, w_nlR, w_up1, w_up2, w_up3]
              repeat refine And.intro (by first | assumption | exact IsW.kt (by assumption) | omega | (unfold in32; omega) | (unfold in64; omega) | exact True.intro | exact Or.inl True.intro | exact Or.inr True.intro | rfl | exact Nat.le_of_ble_eq_true rfl) ?_
              try first | done | assumption | (unfold in32; omega) | (unfold in64; omega)
              refine ih2 (j + 1) _ (by omega) (by omega) ⟨gr_up h5.1 (Or.inl rfl), fun p p0 p1 q => by rw [cw_up_ne (by omega)]; exact h5.2.1 p p0 p1 q, fun p p0 p1 => ?_⟩ (by unfold m_in; rw [cw_up_ne (by omega), r5.1 335 (by omega)]; exact i4) (fun p hp => ?_)
              · by_cases q : p = j
                · rw [q, w_up1]; exact nb
                · rw [w_up2 q]; exact h5.2.2 p p0 p1
              · have b := hk.2.2.2 p hp
                have x5 := px_rf (x4 p hp) r5 ⟨b.1, b.2.2⟩ (fun s y => y)
                refine ⟨x5.1.sm ⟨by rw [cw_up_ne (by omega)], by rw [cw_up_ne (by omega)], fun _ _ _ => by unfold cw_rd; rw [cw_up_ne (by omega)]⟩, by rw [cw_up_ne (by omega)]; exact x5.2.1, x5.2.2⟩
        refine k_Mo_rests_48 _ _ _ _ _ _ _ _ ?_
        simp (disch := omega) only [↓w_nil, ↓w_cons, ↓w_ic, ↓w_ist2, ↓w_fall, true_and, and_true, true_implies, false_implies, not_true_eq_false, not_false_eq_true, Int.reduceEq, Int.reduceLT, Int.reduceLE, Int.reduceNeg, w_nlI, w_nlL, w_nlR, w_up1, w_up2, w_up3]
        repeat refine And.intro (by first | assumption | exact IsW.kt (by assumption) | omega | (unfold in32; omega) | (unfold in64; omega) | exact True.intro | exact Or.inl True.intro | exact Or.inr True.intro | rfl | exact Nat.le_of_ble_eq_true rfl) ?_
        try first | done | assumption | (unfold in32; omega) | (unfold in64; omega)
        exact inner (f 0).toNat 0 M3 (by omega) (by omega) h3 i3 px3
      · refine k_Mo_rests_47 _ _ _ _ _ _ _ _ ?_
        simp (disch := omega) only [↓w_nil, ↓w_vret, true_and, and_true, true_implies, false_implies, not_true_eq_false, not_false_eq_true, Int.reduceEq, Int.reduceLT, Int.reduceLE, Int.reduceNeg, w_up1, w_up2, w_up3]
        exact rs_end hW hk h3 i3 sv3 (hci.mp (by omega))
  -- none in the path, all parts 0
  have first : ∀ (d : Nat) (j : Int) (M1 : cw_M), j + d = 7 → 0 ≤ j → Gr M M1 → (∀ p : Int, 0 ≤ p → p < j → M1 335 p = 0 ∧ M1 334 p = 0) → mJ g y_Mo_rests 2 [.inr (.inr 319), .inl j, cU] [] M1 (rs_Q f T M) := by
    intro d
    induction d with
    | zero =>
      intro j M1 hj j0 h1 hp
      have ej : j = 7 := by omega
      subst ej
      refine k_Mo_rests_2 _ _ _ _ _ _ _ _ ?_
      simp (disch := omega) only [↓w_nil, ↓w_cons, ↓w_ild1, ↓w_ic, ↓w_icge, true_and, and_true, true_implies, false_implies, not_true_eq_false, not_false_eq_true, Int.reduceEq, Int.reduceLT, Int.reduceLE, Int.reduceNeg, w_up1, w_up2, w_up3]
      repeat refine And.intro (by first | assumption | exact IsW.kt (by assumption) | omega | (unfold in32; omega) | (unfold in64; omega) | exact True.intro | exact Or.inl True.intro | exact Or.inr True.intro | rfl | exact Nat.le_of_ble_eq_true rfl) ?_
      try first | done | assumption | (unfold in32; omega) | (unfold in64; omega)
      refine k_Mo_rests_28 _ _ _ _ _ _ _ _ ?_
      simp (disch := omega) only [↓w_nil, ↓w_cons, ↓w_ic, ↓w_ist1, ↓w_fall, true_and, and_true, true_implies, false_implies, not_true_eq_false, not_false_eq_true, Int.reduceEq, Int.reduceLT, Int.reduceLE, Int.reduceNeg, w_nlI, w_nlL, w_nlR, w_up1, w_up2, w_up3]
      repeat refine And.intro (by first | assumption | exact IsW.kt (by assumption) | omega | (unfold in32; omega) | (unfold in64; omega) | exact True.intro | exact Or.inl True.intro | exact Or.inr True.intro | rfl | exact Nat.le_of_ble_eq_true rfl) ?_
      try first | done | assumption | (unfold in32; omega) | (unfold in64; omega)
      exact guess 40 0 M1 _ (by omega) (by omega) ⟨h1, fun p p0 p1 _ => (hp p p0 p1).1, fun p p0 p1 => by rw [(hp p p0 p1).2]; omega⟩
    | succ d ih =>
      intro j M1 hj j0 h1 hp
      have hS1 := h1.1
      refine k_Mo_rests_2 _ _ _ _ _ _ _ _ ?_
      simp (disch := omega) only [↓w_nil, ↓w_cons, ↓w_ild1, ↓w_ic, ↓w_icge, true_and, and_true, true_implies, false_implies, not_true_eq_false, not_false_eq_true, Int.reduceEq, Int.reduceLT, Int.reduceLE, Int.reduceNeg, w_up1, w_up2, w_up3]
      repeat refine And.intro (by first | assumption | exact IsW.kt (by assumption) | omega | (unfold in32; omega) | (unfold in64; omega) | exact True.intro | exact Or.inl True.intro | exact Or.inr True.intro | rfl | exact Nat.le_of_ble_eq_true rfl) ?_
      try first | done | assumption | (unfold in32; omega) | (unfold in64; omega)
      intro _
      refine k_Mo_rests_8 _ _ _ _ _ _ _ _ ?_
      simp (disch := omega) only [↓w_nil, ↓w_cons, ↓w_ald0, ↓w_gf2_16, ↓w_ild1, ↓w_ic, ↓w_zast, ↓w_gf2_15, ↓w_iast, ↓w_inc1, ↓w_goto, true_and, and_true, true_implies, false_implies, not_true_eq_false, not_false_eq_true, Int.reduceEq, Int.reduceLT, Int.reduceLE, Int.reduceNeg, w_nlI, w_nlL, w_nlR, w_up1, w_up2, w_up3, c_k319, c_k320, c_k321, c_k322, c_k323, c_k324, c_k325, c_k326, c_k327, c_k328, c_k329, c_k330, c_k331, c_k332, c_k333, c_k334, c_k335, c_k336, c_k337, c_k338, c_k339, c_k340, c_k341, c_k342, c_k343, c_k344, c_k345, c_k346, c_k347, hS1.r319_0, hS1.r319_1, hS1.r319_2, hS1.r319_3, hS1.r319_4, hS1.r319_5, hS1.r319_6, hS1.r319_8, hS1.r319_9, hS1.r319_10, hS1.r319_11, hS1.r319_12, hS1.r319_13, hS1.r319_14, hS1.r319_15, hS1.r319_16, hS1.r319_17, hS1.r319_20, hS1.r319_21, hS1.r319_22, hS1.r319_23, hS1.r319_24, hS1.r319_25, hS1.r319_26, hS1.r319_29, hS1.r319_30, hS1.r319_31, hS1.r319_32, w_sf1, w_sf3]
      repeat refine And.intro (by first | assumption | exact IsW.kt (by assumption) | omega | (unfold in32; omega) | (unfold in64; omega) | exact True.intro | exact Or.inl True.intro | exact Or.inr True.intro | rfl | exact Nat.le_of_ble_eq_true rfl) ?_
      try first | done | assumption | (unfold in32; omega) | (unfold in64; omega)
      refine ih (j + 1) _ (by omega) (by omega) (gr_up (gr_up h1 (Or.inr rfl)) (Or.inl rfl)) (fun p p0 p1 => ?_)
      by_cases q : p = j
      · rw [q, cw_up_ne (by omega), w_up1, w_up1]; exact ⟨rfl, rfl⟩
      · rw [cw_up_ne (by omega), w_up2 q, w_up2 q, cw_up_ne (by omega)]; exact hp p p0 (by omega)
  refine cw_C_of (L := [.inr (.inr 319), cU, cU]) ok_Mo_rests (Nat.le_refl _) (Nat.le_of_ble_eq_true rfl) rfl ?_
  refine k_Mo_rests_0 _ _ _ _ _ _ _ _ ?_
  simp (disch := omega) only [↓w_nil, ↓w_cons, ↓w_ic, ↓w_ist1, ↓w_fall, true_and, and_true, true_implies, false_implies, not_true_eq_false, not_false_eq_true, Int.reduceEq, Int.reduceLT, Int.reduceLE, Int.reduceNeg, w_nlI, w_nlL, w_nlR, w_up1, w_up2, w_up3]
  repeat refine And.intro (by first | assumption | exact IsW.kt (by assumption) | omega | (unfold in32; omega) | (unfold in64; omega) | exact True.intro | exact Or.inl True.intro | exact Or.inr True.intro | rfl | exact Nat.le_of_ble_eq_true rfl) ?_
  try first | done | assumption | (unfold in32; omega) | (unfold in64; omega)
  exact first 7 0 M (by omega) (by omega) (Gr.rf hS) (fun p p0 p1 => by omega)
