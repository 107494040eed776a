/-! the reference: solves, from the pieces up: the whole tree -/
theorem acc_cg {M M1 : cw_M} {rd : Int} {n : Nat} {A : Option V3} {p : Int → Prop} (h : accM M rd n A) (g : Gu p M M1) (hk : ¬ p rd) (k0 : 0 ≤ rd ∧ rd < 66) : accM M1 rd n A := by
  cases A with
  | none => exact (g.2.2.1 rd hk).2.trans h
  | some v => exact ⟨nv_cg h.1 g hk k0, h.2⟩
def su_E (g : cw_G) (f k K P I : Int → Int) (Q : Option cw_V → cw_M → Prop) (t : Tr) : Prop := ∀ (rd lo : Int) (M : cw_M) (z : cw_V) (A : Option V3) (n : Nat), Sh M → Su f k K P I M → (t_el K P I t).1 rd lo → 1 ≤ rd → rd < lo → lo + (t_er t).1 ≤ 64 → K rd = 1 → (∀ j, lo ≤ j → j < lo + (t_er t).1 → M 332 j = 0) → accM M rd n A → n + t_lv t ≤ 7 → t_ok t → (∀ p, t_in t p → p < f 0) →
  (∀ (M2 : cw_M) (z : cw_V), Gu (fun j => (lo ≤ j ∧ j < lo + (t_er t).1) ∨ j = rd) M M2 → (t_bv M2 (l_sp f (f 3) k) (l_ep f (f 3) k) t).1 lo → nv M2 rd (c_op 1 A (pv (l_sp f (f 3) k) (l_ep f (f 3) k) t)) → mJ g y_Mo_solves 30 [.inr (.inr 319), .inl (lo - 1), z] [] M2 Q) →
  mJ g y_Mo_solves 30 [.inr (.inr 319), .inl (lo + (t_er t).1 - 1), z] [] M Q
def su_R (g : cw_G) (f k K P I : Int → Int) (Q : Option cw_V → cw_M → Prop) (t : Tr) : Prop := ∀ (pt lo : Int) (M : cw_M) (z : cw_V) (A : Option V3) (n : Nat), Sh M → Su f k K P I M → (t_el K P I t).2 pt lo → 0 ≤ pt → pt < lo → lo + (t_er t).2 ≤ 64 → (∀ j, lo ≤ j → j < lo + (t_er t).2 → M 332 j = 0) → (pt = 0 ∨ (K pt = 2 ∧ accM M pt n A)) → n + t_lv t ≤ 7 → t_ok t → (∀ p, t_in t p → p < f 0) →
  (∀ (M2 : cw_M) (z : cw_V), Gu (fun j => (lo ≤ j ∧ j < lo + (t_er t).2) ∨ (j = pt ∧ pt ≠ 0)) M M2 → (t_bv M2 (l_sp f (f 3) k) (l_ep f (f 3) k) t).2 lo → (pt ≠ 0 → nv M2 pt (c_op 2 A (pv (l_sp f (f 3) k) (l_ep f (f 3) k) t))) → mJ g y_Mo_solves 30 [.inr (.inr 319), .inl (lo - 1), z] [] M2 Q) →
  mJ g y_Mo_solves 30 [.inr (.inr 319), .inl (lo + (t_er t).2 - 1), z] [] M Q
theorem lv_p : ∀ t : Tr, 1 ≤ t_lv t
  | .neg x => lv_p x
  | .add a b => by have := lv_p a; show 1 ≤ t_lv a + t_lv b; omega
  | .mul a b => by have := lv_p a; show 1 ≤ t_lv a + t_lv b; omega
  | .num _ => Nat.le_refl 1
  | .natCast _ => Nat.le_refl 1
  | .intCast _ => Nat.le_refl 1
  | .var _ => Nat.le_refl 1
  | .sub _ _ => Nat.le_refl 1
  | .pow _ _ => Nat.le_refl 1
/-- a road of its own -/
theorem su_road {g : cw_G} {f k K P I fl : Int → Int} {n0 : Int} {Q : Option cw_V → cw_M → Prop} {t : Tr} (hW : WF n0 f fl) (hkb : ∀ p : Int, 0 ≤ p → p < f 0 → (-2 ≤ k p ∧ k p ≤ 2)) (hs2 : s_ok (l_sp f (f 3) k)) (he2 : e_ok (l_ep f (f 3) k)) (hE : su_E g f k K P I Q t) : ∀ (pt lo : Int) (M : cw_M) (z : cw_V) (A : Option V3) (n : Nat), Sh M → Su f k K P I M → K lo = 1 → P lo = pt → (t_el K P I t).1 lo (lo + 1) → 0 ≤ pt → pt < lo → lo + (1 + (t_er t).1) ≤ 64 → (∀ j, lo ≤ j → j < lo + (1 + (t_er t).1) → M 332 j = 0) → (pt = 0 ∨ (K pt = 2 ∧ accM M pt n A)) → n + t_lv t ≤ 7 → t_ok t → (∀ p, t_in t p → p < f 0) →
    (∀ (M2 : cw_M) (z : cw_V), Gu (fun j => (lo ≤ j ∧ j < lo + (1 + (t_er t).1)) ∨ (j = pt ∧ pt ≠ 0)) M M2 → nv M2 lo (pv (l_sp f (f 3) k) (l_ep f (f 3) k) t) ∧ (t_bv M2 (l_sp f (f 3) k) (l_ep f (f 3) k) t).1 (lo + 1) → (pt ≠ 0 → nv M2 pt (c_op 2 A (pv (l_sp f (f 3) k) (l_ep f (f 3) k) t))) → mJ g y_Mo_solves 30 [.inr (.inr 319), .inl (lo - 1), z] [] M2 Q) →
    mJ g y_Mo_solves 30 [.inr (.inr 319), .inl (lo + (1 + (t_er t).1) - 1), z] [] M Q := by
  intro pt lo M z A n hS hs hK hP hel p0 plo h64 hz hA hn hk hin nx
  have nn := (er_nn t).1
  rw [show lo + (1 + (t_er t).1) - 1 = lo + 1 + (t_er t).1 - 1 by omega]
  refine hE lo (lo + 1) M z none 0 hS hs hel (by omega) (by omega) (by omega) hK (fun j a b => hz j (by omega) (by omega)) (hz lo (by omega) (by omega)) (by omega) hk hin (fun M2 z2 G2 b2 v2 => ?_)
  have hS2 := G2.1
  have hs2' := hs.gu G2
  have e327 : M2 327 lo = 1 := by rw [hs2'.2.2.1]; exact hK
  have e328 : M2 328 lo = pt := by rw [hs2'.2.2.2.1]; exact hP
  have p32 : in32 pt := by unfold in32; omega
  rw [show lo + 1 - 1 = lo by omega]
  refine k_Mo_solves_30 _ _ _ _ _ _ _ _ ?_
  simp (disch := omega) only [↓w_nil, ↓w_cons, ↓w_ild1, ↓w_ifle, true_and, and_true, true_implies, false_implies, not_true_eq_false, not_false_eq_true, Int.reduceEq, Int.reduceLT, Int.reduceLE, Int.reduceNeg, w_up1, w_up2, w_up3]
  repeat refine And.intro (by first | assumption | exact IsW.kt (by assumption) | omega | (unfold in32; omega) | (unfold in64; omega) | exact True.intro | exact Or.inl True.intro | exact Or.inr True.intro | rfl | exact Nat.le_of_ble_eq_true rfl) ?_
  try first | done | assumption | (unfold in32; omega) | (unfold in64; omega)
  intro _
  refine k_Mo_solves_34 _ _ _ _ _ _ _ _ ?_
  simp (disch := omega) only [↓w_nil, ↓w_cons, ↓w_ald0, ↓w_gf2_8, ↓w_ild1, ↓w_iald, ↓w_ifne, true_and, and_true, true_implies, false_implies, not_true_eq_false, not_false_eq_true, Int.reduceEq, Int.reduceLT, Int.reduceLE, Int.reduceNeg, w_up1, w_up2, w_up3, e327, c_k319, c_k320, c_k321, c_k322, c_k323, c_k324, c_k325, c_k326, c_k327, c_k328, c_k329, c_k330, c_k331, c_k332, c_k333, c_k334, c_k335, c_k336, c_k337, c_k338, c_k339, c_k340, c_k341, c_k342, c_k343, c_k344, c_k345, c_k346, c_k347, hS2.r319_0, hS2.r319_1, hS2.r319_2, hS2.r319_3, hS2.r319_4, hS2.r319_5, hS2.r319_6, hS2.r319_8, hS2.r319_9, hS2.r319_10, hS2.r319_11, hS2.r319_12, hS2.r319_13, hS2.r319_14, hS2.r319_15, hS2.r319_16, hS2.r319_17, hS2.r319_20, hS2.r319_21, hS2.r319_22, hS2.r319_23, hS2.r319_24, hS2.r319_25, hS2.r319_26, hS2.r319_29, hS2.r319_30, hS2.r319_31, hS2.r319_32, w_sf1, w_sf3]
  repeat refine And.intro (by first | assumption | exact IsW.kt (by assumption) | omega | (unfold in32; omega) | (unfold in64; omega) | exact True.intro | exact Or.inl True.intro | exact Or.inr True.intro | rfl | exact Nat.le_of_ble_eq_true rfl) ?_
  try first | done | assumption | (unfold in32; omega) | (unfold in64; omega)
  by_cases q : pt = 0
  · refine k_Mo_solves_97 _ _ _ _ _ _ _ _ ?_
    simp (disch := omega) only [↓w_nil, ↓w_cons, ↓w_ald0, ↓w_gf2_9, ↓w_ild1, ↓w_iald, ↓w_ifle, true_and, and_true, true_implies, false_implies, not_true_eq_false, not_false_eq_true, Int.reduceEq, Int.reduceLT, Int.reduceLE, Int.reduceNeg, w_up1, w_up2, w_up3, e328, q, c_k319, c_k320, c_k321, c_k322, c_k323, c_k324, c_k325, c_k326, c_k327, c_k328, c_k329, c_k330, c_k331, c_k332, c_k333, c_k334, c_k335, c_k336, c_k337, c_k338, c_k339, c_k340, c_k341, c_k342, c_k343, c_k344, c_k345, c_k346, c_k347, hS2.r319_0, hS2.r319_1, hS2.r319_2, hS2.r319_3, hS2.r319_4, hS2.r319_5, hS2.r319_6, hS2.r319_8, hS2.r319_9, hS2.r319_10, hS2.r319_11, hS2.r319_12, hS2.r319_13, hS2.r319_14, hS2.r319_15, hS2.r319_16, hS2.r319_17, hS2.r319_20, hS2.r319_21, hS2.r319_22, hS2.r319_23, hS2.r319_24, hS2.r319_25, hS2.r319_26, hS2.r319_29, hS2.r319_30, hS2.r319_31, hS2.r319_32, w_sf1, w_sf3]
    repeat refine And.intro (by first | assumption | exact IsW.kt (by assumption) | omega | (unfold in32; omega) | (unfold in64; omega) | exact True.intro | exact Or.inl True.intro | exact Or.inr True.intro | rfl | exact Nat.le_of_ble_eq_true rfl) ?_
    try first | done | assumption | (unfold in32; omega) | (unfold in64; omega)
    refine k_Mo_solves_111 _ _ _ _ _ _ _ _ ?_
    simp (disch := omega) only [↓w_nil, ↓w_cons, ↓w_inc1, ↓w_goto, true_and, and_true, true_implies, false_implies, not_true_eq_false, not_false_eq_true, Int.reduceEq, Int.reduceLT, Int.reduceLE, Int.reduceNeg, w_nlI, w_nlL, w_nlR, w_up1, w_up2, w_up3]
    repeat refine And.intro (by first | assumption | exact IsW.kt (by assumption) | omega | (unfold in32; omega) | (unfold in64; omega) | exact True.intro | exact Or.inl True.intro | exact Or.inr True.intro | rfl | exact Nat.le_of_ble_eq_true rfl) ?_
    try first | done | assumption | (unfold in32; omega) | (unfold in64; omega)
    rw [show lo + -1 = lo - 1 by omega]
    exact nx M2 _ (G2.mo (fun j y => Or.inl (by omega))) ⟨v2, b2⟩ (fun z => absurd q z)
  · have hA' := hA.resolve_left q
    have acc2 := acc_cg hA'.2 G2 (by omega) (by omega)
    refine su_join hS2 hs2' (by omega) hP (by omega) (Or.inr hA'.1) v2 (bd_pv hs2 he2 hk) acc2 hn (fun M3 G3 v3 => ?_)
    rw [hA'.1] at v3
    refine nx M3 _ ((G2.mo (fun j y => Or.inl (by omega))).tr (G3.mo (fun j y => Or.inr ⟨y, q⟩))) ⟨nv_cg v2 G3 (by omega) (by omega), (bv_cg G3 t).1 (lo + 1) (by omega) (by omega) (fun j a b => by omega) b2⟩ (fun _ => v3)
theorem su_all {g : cw_G} {f k K P I fl : Int → Int} {n0 : Int} {Q : Option cw_V → cw_M → Prop} (hW : WF n0 f fl) (hkb : ∀ p : Int, 0 ≤ p → p < f 0 → (-2 ≤ k p ∧ k p ≤ 2)) (hs2 : s_ok (l_sp f (f 3) k)) (he2 : e_ok (l_ep f (f 3) k)) : ∀ t : Tr, su_E g f k K P I Q t ∧ su_R g f k K P I Q t
  | .num p => by
    have hE : su_E g f k K P I Q (.num p) := by
      intro rd lo M z A n hS hs hel r1 rlo h64 hK hz hA hn hk hin nx
      obtain ⟨e1, e2, e3⟩ : K lo = 0 ∧ P lo = rd ∧ I lo = p := hel
      have h64 : lo + 1 ≤ 64 := h64
      have hn : n + 1 ≤ 7 := hn
      have w0 := hW.1
      show mJ g y_Mo_solves 30 [.inr (.inr 319), .inl (lo + 1 - 1), z] [] M Q
      rw [show lo + 1 - 1 = lo by omega]
      refine k_Mo_solves_30 _ _ _ _ _ _ _ _ ?_
      simp (disch := omega) only [↓w_nil, ↓w_cons, ↓w_ild1, ↓w_ifle, true_and, and_true, true_implies, false_implies, not_true_eq_false, not_false_eq_true, Int.reduceEq, Int.reduceLT, Int.reduceLE, Int.reduceNeg, w_up1, w_up2, w_up3]
      repeat refine And.intro (by first | assumption | exact IsW.kt (by assumption) | omega | (unfold in32; omega) | (unfold in64; omega) | exact True.intro | exact Or.inl True.intro | exact Or.inr True.intro | rfl | exact Nat.le_of_ble_eq_true rfl) ?_
      try first | done | assumption | (unfold in32; omega) | (unfold in64; omega)
      intro _
      refine su_leaf hS hW hs hkb (by omega) e1 e3 ⟨hk.1, hin p rfl⟩ (fun M2 z2 G2 v2 => ?_)
      refine su_join G2.1 (hs.gu G2) (by omega) e2 (by omega) (Or.inl hK) v2 (bd_pv hs2 he2 hk) (acc_cg hA G2 (by omega) (by omega)) hn (fun M3 G3 v3 => ?_)
      rw [hK] at v3
      refine nx M3 _ ((G2.mo (fun j y => Or.inl ?_)).tr (G3.mo (fun j y => Or.inr y))) (nv_cg v2 G3 (by omega) (by omega)) v3
      show lo ≤ j ∧ j < lo + 1
      omega
    refine ⟨hE, ?_⟩
    intro pt lo M z A n hS hs hel p0 plo h64 hz hA hn hk hin nx
    exact su_road hW hkb hs2 he2 hE pt lo M z A n hS hs hel.1 hel.2.1 hel.2.2 p0 plo h64 hz hA hn hk hin nx
  | .neg x => by
    have ih := su_all (g := g) (K := K) (P := P) (I := I) (Q := Q) hW hkb hs2 he2 x
    have nn := (er_nn x).2
    have hE : su_E g f k K P I Q (.neg x) := by
      intro rd lo M z A n hS hs hel r1 rlo h64 hK hz hA hn hk hin nx
      obtain ⟨e1, e2, e3⟩ : K lo = 2 ∧ P lo = rd ∧ (t_el K P I x).2 lo (lo + 1) := hel
      have h64 : lo + (1 + (t_er x).2) ≤ 64 := h64
      have hz : ∀ j, lo ≤ j → j < lo + (1 + (t_er x).2) → M 332 j = 0 := hz
      have hn : n + t_lv x ≤ 7 := hn
      show mJ g y_Mo_solves 30 [.inr (.inr 319), .inl (lo + (1 + (t_er x).2) - 1), z] [] M Q
      rw [show lo + (1 + (t_er x).2) - 1 = lo + 1 + (t_er x).2 - 1 by omega]
      refine ih.2 lo (lo + 1) M z none 0 hS hs e3 (by omega) (by omega) (by omega) (fun j a b => hz j (by omega) (by omega)) (Or.inr ⟨e1, hz lo (by omega) (by omega)⟩) (by omega) hk hin (fun M2 z2 G2 b2 v2 => ?_)
      have v2 := v2 (by omega)
      have hS2 := G2.1
      have e327 : M2 327 lo = 2 := by rw [(hs.gu G2).2.2.1]; exact e1
      rw [show lo + 1 - 1 = lo by omega]
      refine k_Mo_solves_30 _ _ _ _ _ _ _ _ ?_
      simp (disch := omega) only [↓w_nil, ↓w_cons, ↓w_ild1, ↓w_ifle, true_and, and_true, true_implies, false_implies, not_true_eq_false, not_false_eq_true, Int.reduceEq, Int.reduceLT, Int.reduceLE, Int.reduceNeg, w_up1, w_up2, w_up3]
      repeat refine And.intro (by first | assumption | exact IsW.kt (by assumption) | omega | (unfold in32; omega) | (unfold in64; omega) | exact True.intro | exact Or.inl True.intro | exact Or.inr True.intro | rfl | exact Nat.le_of_ble_eq_true rfl) ?_
      try first | done | assumption | (unfold in32; omega) | (unfold in64; omega)
      intro _
      refine k_Mo_solves_34 _ _ _ _ _ _ _ _ ?_
      simp (disch := omega) only [↓w_nil, ↓w_cons, ↓w_ald0, ↓w_gf2_8, ↓w_ild1, ↓w_iald, ↓w_ifne, true_and, and_true, true_implies, false_implies, not_true_eq_false, not_false_eq_true, Int.reduceEq, Int.reduceLT, Int.reduceLE, Int.reduceNeg, w_up1, w_up2, w_up3, e327, c_k319, c_k320, c_k321, c_k322, c_k323, c_k324, c_k325, c_k326, c_k327, c_k328, c_k329, c_k330, c_k331, c_k332, c_k333, c_k334, c_k335, c_k336, c_k337, c_k338, c_k339, c_k340, c_k341, c_k342, c_k343, c_k344, c_k345, c_k346, c_k347, hS2.r319_0, hS2.r319_1, hS2.r319_2, hS2.r319_3, hS2.r319_4, hS2.r319_5, hS2.r319_6, hS2.r319_8, hS2.r319_9, hS2.r319_10, hS2.r319_11, hS2.r319_12, hS2.r319_13, hS2.r319_14, hS2.r319_15, hS2.r319_16, hS2.r319_17, hS2.r319_20, hS2.r319_21, hS2.r319_22, hS2.r319_23, hS2.r319_24, hS2.r319_25, hS2.r319_26, hS2.r319_29, hS2.r319_30, hS2.r319_31, hS2.r319_32, w_sf1, w_sf3]
      repeat refine And.intro (by first | assumption | exact IsW.kt (by assumption) | omega | (unfold in32; omega) | (unfold in64; omega) | exact True.intro | exact Or.inl True.intro | exact Or.inr True.intro | rfl | exact Nat.le_of_ble_eq_true rfl) ?_
      try first | done | assumption | (unfold in32; omega) | (unfold in64; omega)
      refine su_join G2.1 (hs.gu G2) (by omega) e2 (by omega) (Or.inl hK) v2 (bd_pv hs2 he2 (t := x) hk) (acc_cg hA G2 (by omega) (by omega)) hn (fun M3 G3 v3 => ?_)
      rw [hK] at v3
      refine nx M3 _ ((G2.mo (fun j y => Or.inl ?_)).tr (G3.mo (fun j y => Or.inr y))) ⟨nv_cg v2 G3 (by omega) (by omega), (bv_cg G3 x).2 (lo + 1) (by omega) (by omega) (fun j a b => by omega) b2⟩ v3
      show lo ≤ j ∧ j < lo + (1 + (t_er x).2)
      omega
    refine ⟨hE, ?_⟩
    intro pt lo M z A n hS hs hel p0 plo h64 hz hA hn hk hin nx
    have e : (t_er (.neg x)).2 = 1 + (t_er (.neg x)).1 := by show 2 + (t_er x).2 = 1 + (1 + (t_er x).2); omega
    rw [e] at h64 hz nx ⊢
    exact su_road hW hkb hs2 he2 hE pt lo M z A n hS hs hel.1 hel.2.1 hel.2.2 p0 plo h64 hz hA hn hk hin nx
  | .mul a b => by
    have iha := su_all (g := g) (K := K) (P := P) (I := I) (Q := Q) hW hkb hs2 he2 a
    have ihb := su_all (g := g) (K := K) (P := P) (I := I) (Q := Q) hW hkb hs2 he2 b
    have na := (er_nn a).1
    have nb := (er_nn b).1
    have hE : su_E g f k K P I Q (.mul a b) := by
      intro rd lo M z A n hS hs hel r1 rlo h64 hK hz hA hn hk hin nx
      obtain ⟨e1, e2⟩ : (t_el K P I a).1 rd lo ∧ (t_el K P I b).1 rd (lo + (t_er a).1) := hel
      have h64 : lo + ((t_er a).1 + (t_er b).1) ≤ 64 := h64
      have hz : ∀ j, lo ≤ j → j < lo + ((t_er a).1 + (t_er b).1) → M 332 j = 0 := hz
      have hn : n + (t_lv a + t_lv b) ≤ 7 := hn
      show mJ g y_Mo_solves 30 [.inr (.inr 319), .inl (lo + ((t_er a).1 + (t_er b).1) - 1), z] [] M Q
      rw [show lo + ((t_er a).1 + (t_er b).1) - 1 = lo + (t_er a).1 + (t_er b).1 - 1 by omega]
      refine ihb.1 rd (lo + (t_er a).1) M z A n hS hs e2 r1 (by omega) (by omega) hK (fun j x y => hz j (by omega) (by omega)) hA (by omega) hk.2 (fun p hp => hin p (Or.inr hp)) (fun M2 z2 G2 b2 v2 => ?_)
      have bb := bd_pv hs2 he2 (t := b) hk.2
      have acc : accM M2 rd (n + t_lv b) (some (c_op 1 A (pv (l_sp f (f 3) k) (l_ep f (f 3) k) b))) ∨ A = none := by
        cases A with
        | none => exact Or.inr rfl
        | some v => exact Or.inl ⟨v2, bd_mu hA.2 bb⟩
      have fin : ∀ (n' : Nat), accM M2 rd n' (some (c_op 1 A (pv (l_sp f (f 3) k) (l_ep f (f 3) k) b))) → n' + t_lv a ≤ 7 → mJ g y_Mo_solves 30 [.inr (.inr 319), .inl (lo + (t_er a).1 - 1), z2] [] M2 Q := by
        intro n' hA' hn'
        refine iha.1 rd lo M2 z2 _ n' G2.1 (hs.gu G2) e1 r1 rlo (by omega) hK (fun j x y => ?_) hA' hn' hk.1 (fun p hp => hin p (Or.inl hp)) (fun M3 z3 G3 b3 v3 => ?_)
        · rw [(G2.2.2.1 j (by omega)).2]; exact hz j (by omega) (by omega)
        · have e : c_op 1 (some (c_op 1 A (pv (l_sp f (f 3) k) (l_ep f (f 3) k) b))) (pv (l_sp f (f 3) k) (l_ep f (f 3) k) a) = c_op 1 A (pv (l_sp f (f 3) k) (l_ep f (f 3) k) (.mul a b)) := by
            cases A with
            | none => exact mu_1
            | some v => exact mu_2
          rw [e] at v3
          refine nx M3 _ ((G2.mo (fun j y => ?_)).tr (G3.mo (fun j y => ?_))) ⟨b3, (bv_cg G3 b).1 _ (by omega) (by omega) (fun j x y => by omega) b2⟩ v3
          · show (lo ≤ j ∧ j < lo + ((t_er a).1 + (t_er b).1)) ∨ j = rd
            omega
          · show (lo ≤ j ∧ j < lo + ((t_er a).1 + (t_er b).1)) ∨ j = rd
            omega
      rcases acc with acc | acc
      · exact fin _ acc (by omega)
      · exact fin (t_lv b) (by subst acc; exact ⟨v2, bb⟩) (by omega)
    refine ⟨hE, ?_⟩
    intro pt lo M z A n hS hs hel p0 plo h64 hz hA hn hk hin nx
    exact su_road hW hkb hs2 he2 hE pt lo M z A n hS hs hel.1 hel.2.1 hel.2.2 p0 plo h64 hz hA hn hk hin nx
  | .add a b => by
    have iha := su_all (g := g) (K := K) (P := P) (I := I) (Q := Q) hW hkb hs2 he2 a
    have ihb := su_all (g := g) (K := K) (P := P) (I := I) (Q := Q) hW hkb hs2 he2 b
    have na := (er_nn a).2
    have nb := (er_nn b).1
    refine ⟨fun rd lo M z A n hS hs hel => hel.elim, ?_⟩
    intro pt lo M z A n hS hs hel p0 plo h64 hz hA hn hk hin nx
    obtain ⟨e1, e2, e3, e4⟩ : (t_el K P I a).2 pt lo ∧ K (lo + (t_er a).2) = 1 ∧ P (lo + (t_er a).2) = pt ∧ (t_el K P I b).1 (lo + (t_er a).2) (lo + (t_er a).2 + 1) := hel
    have h64 : lo + ((t_er a).2 + 1 + (t_er b).1) ≤ 64 := h64
    have hz : ∀ j, lo ≤ j → j < lo + ((t_er a).2 + 1 + (t_er b).1) → M 332 j = 0 := hz
    have hn : n + (t_lv a + t_lv b) ≤ 7 := hn
    show mJ g y_Mo_solves 30 [.inr (.inr 319), .inl (lo + ((t_er a).2 + 1 + (t_er b).1) - 1), z] [] M Q
    rw [show lo + ((t_er a).2 + 1 + (t_er b).1) - 1 = lo + (t_er a).2 + (1 + (t_er b).1) - 1 by omega]
    refine su_road hW hkb hs2 he2 ihb.1 pt (lo + (t_er a).2) M z A n hS hs e2 e3 e4 p0 (by omega) (by omega) (fun j x y => hz j (by omega) (by omega)) hA (by omega) hk.2 (fun p hp => hin p (Or.inr hp)) (fun M2 z2 G2 b2 v2 => ?_)
    have bb := bd_pv hs2 he2 (t := b) hk.2
    have fin : ∀ (n' : Nat), (pt = 0 ∨ (K pt = 2 ∧ accM M2 pt n' (some (c_op 2 A (pv (l_sp f (f 3) k) (l_ep f (f 3) k) b))))) → n' + t_lv a ≤ 7 → mJ g y_Mo_solves 30 [.inr (.inr 319), .inl (lo + (t_er a).2 - 1), z2] [] M2 Q := by
      intro n' hA' hn'
      refine iha.2 pt lo M2 z2 _ n' G2.1 (hs.gu G2) e1 p0 plo (by omega) (fun j x y => ?_) hA' hn' hk.1 (fun p hp => hin p (Or.inl hp)) (fun M3 z3 G3 b3 v3 => ?_)
      · rw [(G2.2.2.1 j (by omega)).2]; exact hz j (by omega) (by omega)
      · have e : c_op 2 (some (c_op 2 A (pv (l_sp f (f 3) k) (l_ep f (f 3) k) b))) (pv (l_sp f (f 3) k) (l_ep f (f 3) k) a) = c_op 2 A (pv (l_sp f (f 3) k) (l_ep f (f 3) k) (.add a b)) := by
          cases A with
          | none => exact ad_1
          | some v => exact ad_2
        rw [e] at v3
        refine nx M3 _ ((G2.mo (fun j y => ?_)).tr (G3.mo (fun j y => ?_))) ⟨b3, nv_cg b2.1 G3 (by omega) (by omega), (bv_cg G3 b).1 _ (by omega) (by omega) (fun j x y => by omega) b2.2⟩ v3
        · show (lo ≤ j ∧ j < lo + ((t_er a).2 + 1 + (t_er b).1)) ∨ (j = pt ∧ pt ≠ 0)
          omega
        · show (lo ≤ j ∧ j < lo + ((t_er a).2 + 1 + (t_er b).1)) ∨ (j = pt ∧ pt ≠ 0)
          omega
    by_cases q : pt = 0
    · exact fin 0 (Or.inl q) (by omega)
    · have hA' := hA.resolve_left q
      have v2 := v2 q
      cases A with
      | none => exact fin (t_lv b) (Or.inr ⟨hA'.1, v2, bb⟩) (by omega)
      | some v => exact fin (n + t_lv b) (Or.inr ⟨hA'.1, v2, bd_ad hA'.2.2 bb⟩) (by omega)
  | .natCast _ => ⟨fun _ _ _ _ _ _ _ _ h => h.elim, fun _ _ _ _ _ _ _ _ h => h.elim⟩
  | .intCast _ => ⟨fun _ _ _ _ _ _ _ _ h => h.elim, fun _ _ _ _ _ _ _ _ h => h.elim⟩
  | .var _ => ⟨fun _ _ _ _ _ _ _ _ h => h.elim, fun _ _ _ _ _ _ _ _ h => h.elim⟩
  | .sub _ _ => ⟨fun _ _ _ _ _ _ _ _ h => h.elim, fun _ _ _ _ _ _ _ _ h => h.elim⟩
  | .pow _ _ => ⟨fun _ _ _ _ _ _ _ _ h => h.elim, fun _ _ _ _ _ _ _ _ h => h.elim⟩
