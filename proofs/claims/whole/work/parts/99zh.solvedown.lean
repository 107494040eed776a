/-! the reference: solves, from the whole down -/
/-- the pieces of a tree: flows and pushes in their registers -/
def t_dl (M : cw_M) (w : Int) (s e so : Int → Int) : Tr → Int → Int → Int → Prop := fun t => match t with
  | .num p => fun al be ga => RM M (24 + p) (s p * ga + be * e p) ∧ RM M (16 + p) (ga - al * e p + w * so p) ∧ M 336 p = w ∧ M 335 p = 1
  | .neg x => fun al be ga => t_dl M w s e so x al be ga
  | .add a b => fun al be ga => t_dl M w s e so a (al * (t_pq s b).2) (be * (t_pq s b).2 + al * (t_pq s b).1) (ga * (t_pq s b).2 - al * t_r s e b) ∧ t_dl M w s e so b (al * (t_pq s a).2) (be * (t_pq s a).2 + al * (t_pq s a).1) (ga * (t_pq s a).2 - al * t_r s e a)
  | .mul a b => fun al be ga => t_dl M w s e so a (al * (t_pq s b).1 + be * (t_pq s b).2) (be * (t_pq s b).1) (ga * (t_pq s b).1 + be * t_r s e b) ∧ t_dl M w s e so b (al * (t_pq s a).1 + be * (t_pq s a).2) (be * (t_pq s a).1) (ga * (t_pq s a).1 + be * t_r s e a)
  | _ => fun _ _ _ => False
theorem dl_cg {M M1 : cw_M} {w : Int} {s e so : Int → Int} {P L : Int → Prop} (g : Gd P L M M1) (hP : ∀ j, P j → 1 ≤ j) : ∀ (t : Tr) (al be ga : Int), t_ok t → (∀ p, t_in t p → ¬ L p) → (∀ p, L p → 0 ≤ p ∧ p < 7) → t_dl M w s e so t al be ga → t_dl M1 w s e so t al be ga
  | .num p, al, be, ga, hk, h, hL, ⟨a, b, c, d⟩ => by
    have hk : 0 ≤ p ∧ p < 7 := hk
    have n := h p rfl
    have o := g.2.2.2.1 p n
    refine ⟨a.sm (g.2.2.2.2 _ ⟨by omega, by omega⟩ (by omega) (by omega) (by omega) (fun j hj => by have := hP j hj; omega) (fun q hq => ?_)), b.sm (g.2.2.2.2 _ ⟨by omega, by omega⟩ (by omega) (by omega) (by omega) (fun j hj => by have := hP j hj; omega) (fun q hq => ?_)), o.2.trans c, o.1.trans d⟩
    · have := hL q hq
      exact ⟨by omega, fun z => n (by rw [show p = q by omega]; exact hq)⟩
    · have := hL q hq
      exact ⟨fun z => n (by rw [show p = q by omega]; exact hq), by omega⟩
  | .neg x, al, be, ga, hk, h, hL, d => dl_cg g hP x al be ga hk h hL d
  | .add a b, al, be, ga, hk, h, hL, d => ⟨dl_cg g hP a _ _ _ hk.1 (fun p hp => h p (Or.inl hp)) hL d.1, dl_cg g hP b _ _ _ hk.2 (fun p hp => h p (Or.inr hp)) hL d.2⟩
  | .mul a b, al, be, ga, hk, h, hL, d => ⟨dl_cg g hP a _ _ _ hk.1 (fun p hp => h p (Or.inl hp)) hL d.1, dl_cg g hP b _ _ _ hk.2 (fun p hp => h p (Or.inr hp)) hL d.2⟩
theorem Su.gd {f k K P I : Int → Int} {M M1 : cw_M} {p l : Int → Prop} (h : Su f k K P I M) (g : Gd p l M M1) : Su f k K P I M1 := by
  obtain ⟨a, b, c, d, e⟩ := h
  exact ⟨(g.2.1 324 (by omega) (by omega) (by omega) (by omega)).trans a, (g.2.1 334 (by omega) (by omega) (by omega) (by omega)).trans b, (g.2.1 327 (by omega) (by omega) (by omega) (by omega)).trans c, (g.2.1 328 (by omega) (by omega) (by omega) (by omega)).trans d, (g.2.1 329 (by omega) (by omega) (by omega) (by omega)).trans e⟩
theorem nv_gd {P L : Int → Prop} {M M1 : cw_M} {k : Int} {v : V3} (h : nv M k v) (g : Gd P L M M1) (hP : ∀ j, P j → 0 ≤ j) (hL : ∀ p, L p → 0 ≤ p ∧ p < 7) (k0 : 0 ≤ k ∧ k < 66) : nv M1 k v :=
  ⟨by rw [g.2.1 331 (by omega) (by omega) (by omega) (by omega)]; exact h.1, by rw [g.2.1 332 (by omega) (by omega) (by omega) (by omega)]; exact h.2.1, h.2.2.sm (g.2.2.2.2 _ ⟨by omega, by omega⟩ (by omega) (by omega) (by omega) (fun j hj => by have := hP j hj; omega) (fun p hp => by have := hL p hp; omega))⟩
theorem bv_gd {M M1 : cw_M} {s e : Int → Int} {P L : Int → Prop} (g : Gd P L M M1) (hP : ∀ j, P j → 0 ≤ j) (hL : ∀ p, L p → 0 ≤ p ∧ p < 7) : ∀ t : Tr,
    (∀ lo, 0 ≤ lo → lo + (t_er t).1 ≤ 64 → (t_bv M s e t).1 lo → (t_bv M1 s e t).1 lo) ∧ (∀ lo, 0 ≤ lo → lo + (t_er t).2 ≤ 64 → (t_bv M s e t).2 lo → (t_bv M1 s e t).2 lo)
  | .num x => by
    refine ⟨fun lo l0 l1 k => ?_, fun lo l0 l1 k => ?_⟩
    · have l1 : lo + 1 ≤ 64 := l1
      exact nv_gd k g hP hL (by omega)
    · have l1 : lo + 2 ≤ 64 := l1
      exact ⟨nv_gd k.1 g hP hL (by omega), nv_gd k.2 g hP hL (by omega)⟩
  | .neg x => by
    have ih := bv_gd (s := s) (e := e) g hP hL x
    have nn := (er_nn x).2
    refine ⟨fun lo l0 l1 k => ?_, fun lo l0 l1 k => ?_⟩
    · have l1 : lo + (1 + (t_er x).2) ≤ 64 := l1
      exact ⟨nv_gd k.1 g hP hL (by omega), ih.2 (lo + 1) (by omega) (by omega) k.2⟩
    · have l1 : lo + (2 + (t_er x).2) ≤ 64 := l1
      exact ⟨nv_gd k.1 g hP hL (by omega), nv_gd k.2.1 g hP hL (by omega), ih.2 (lo + 1 + 1) (by omega) (by omega) k.2.2⟩
  | .mul a b => by
    have iha := bv_gd (s := s) (e := e) g hP hL a
    have ihb := bv_gd (s := s) (e := e) g hP hL b
    have na := (er_nn a).1
    have nb := (er_nn b).1
    refine ⟨fun lo l0 l1 k => ?_, fun lo l0 l1 k => ?_⟩
    · have l1 : lo + ((t_er a).1 + (t_er b).1) ≤ 64 := l1
      exact ⟨iha.1 lo l0 (by omega) k.1, ihb.1 _ (by omega) (by omega) k.2⟩
    · have l1 : lo + (1 + ((t_er a).1 + (t_er b).1)) ≤ 64 := l1
      exact ⟨nv_gd k.1 g hP hL (by omega), iha.1 (lo + 1) (by omega) (by omega) k.2.1, ihb.1 _ (by omega) (by omega) k.2.2⟩
  | .add a b => by
    have iha := bv_gd (s := s) (e := e) g hP hL a
    have ihb := bv_gd (s := s) (e := e) g hP hL b
    have na := (er_nn a).2
    have nb := (er_nn b).1
    refine ⟨fun lo l0 l1 k => k.elim, fun lo l0 l1 k => ?_⟩
    have l1 : lo + ((t_er a).2 + 1 + (t_er b).1) ≤ 64 := l1
    exact ⟨iha.2 lo l0 (by omega) k.1, nv_gd k.2.1 g hP hL (by omega), ihb.1 _ (by omega) (by omega) k.2.2⟩
  | .natCast _ => ⟨fun _ _ _ k => k, fun _ _ _ k => k⟩
  | .intCast _ => ⟨fun _ _ _ k => k, fun _ _ _ k => k⟩
  | .var _ => ⟨fun _ _ _ k => k, fun _ _ _ k => k⟩
  | .sub _ _ => ⟨fun _ _ _ k => k, fun _ _ _ k => k⟩
  | .pow _ _ => ⟨fun _ _ _ k => k, fun _ _ _ k => k⟩
/-- one node of the way down -/
theorem sd_node {g : cw_G} {M : cw_M} {f k K P I : Int → Int} {i rd w u x N : Int} {z : cw_V} {v : V3} {Q : Option cw_V → cw_M → Prop} (hS : Sh M) (hs : Su f k K P I M) (hN : M 319 7 = N) (hi : 1 ≤ i ∧ i < N) (hN2 : N ≤ 64) (hP : P i = rd) (hr : 1 ≤ rd ∧ rd < i) (hw : M 333 rd = w) (hwb : 0 ≤ w ∧ w ≤ 13254776280841401) (hv : nv M i v) (hb : (1 ≤ v.1 ∧ 1 ≤ v.2.1 ∧ v.1 + v.2.1 ≤ 13254776280841401) ∧ (-742267471727118456000000 ≤ v.2.2 ∧ v.2.2 ≤ 742267471727118456000000)) (hU : RM M (158 + rd) u) (ub : -848305681973849664000000 ≤ u ∧ u ≤ 848305681973849664000000) (xb : -848305681973849664000000 ≤ x ∧ x ≤ 848305681973849664000000)
    (hx : (K i = 1 ∧ u * v.1 + v.2.2 * w = v.2.1 * x) ∨ ((K i = 0 ∨ K i = 2) ∧ u * v.2.1 - v.2.2 * w = v.1 * x)) (hp : K i = 0 → (0 ≤ I i ∧ I i < 7) ∧ (-25200 ≤ cw_so f (I i) 4 ∧ cw_so f (I i) 4 ≤ 25200))
    (nx : ∀ (M2 : cw_M) (z : cw_V), Gd (fun j => j = i) (fun p => K i = 0 ∧ p = I i) M M2 → M2 333 i = w → RM M2 (158 + i) x → (K i = 0 → RM M2 (24 + I i) u ∧ RM M2 (16 + I i) (x + w * cw_so f (I i) 4) ∧ M2 336 (I i) = w ∧ M2 335 (I i) = 1) → mJ g y_Mo_solves 119 [.inr (.inr 319), .inl (i + 1), z] [] M2 Q) :
    mJ g y_Mo_solves 119 [.inr (.inr 319), .inl i, z] [] M Q := by
  have e328 : M 328 i = rd := by rw [hs.2.2.2.1]; exact hP
  have e327 : M 327 i = K i := by rw [hs.2.2.1]
  have e329 : M 329 i = I i := by rw [hs.2.2.2.2]
  have p32 : in32 rd := by unfold in32; omega
  have hS1 : Sh (cw_up M 333 i w) := hS.up (rs_k c_k333 (by decide))
  have G1 : Gd (fun j => j = i) (fun p => K i = 0 ∧ p = I i) M (cw_up M 333 i w) := gd_up (Gd.rf hS) (Or.inl ⟨rfl, rfl⟩)
  have c1 : ∀ a : Int, a ≠ 333 → (cw_up M 333 i w) a = M a := fun a q => cw_up_ne q
  have sm : ∀ s, sR M (cw_up M 333 i w) s := fun s => ⟨by rw [c1 321 (by omega)], by rw [c1 322 (by omega)], fun j _ _ => by unfold cw_rd; rw [c1 320 (by omega)]⟩
  have v1 : nv (cw_up M 333 i w) i v := ⟨by rw [c1 331 (by omega)]; exact hv.1, by rw [c1 332 (by omega)]; exact hv.2.1, hv.2.2.sm (sm _)⟩
  refine k_Mo_solves_119 _ _ _ _ _ _ _ _ ?_
  simp (disch := omega) only [↓w_nil, ↓w_cons, ↓w_ild1, ↓w_ald0, ↓w_gf0_7, ↓w_icge, true_and, and_true, true_implies, false_implies, not_true_eq_false, not_false_eq_true, Int.reduceEq, Int.reduceLT, Int.reduceLE, Int.reduceNeg, w_up1, w_up2, w_up3, hN, c_k319, c_k320, c_k321, c_k322, c_k323, c_k324, c_k325, c_k326, c_k327, c_k328, c_k329, c_k330, c_k331, c_k332, c_k333, c_k334, c_k335, c_k336, c_k337, c_k338, c_k339, c_k340, c_k341, c_k342, c_k343, c_k344, c_k345, c_k346, c_k347, hS.r319_0, hS.r319_1, hS.r319_2, hS.r319_3, hS.r319_4, hS.r319_5, hS.r319_6, hS.r319_8, hS.r319_9, hS.r319_10, hS.r319_11, hS.r319_12, hS.r319_13, hS.r319_14, hS.r319_15, hS.r319_16, hS.r319_17, hS.r319_20, hS.r319_21, hS.r319_22, hS.r319_23, hS.r319_24, hS.r319_25, hS.r319_26, hS.r319_29, hS.r319_30, hS.r319_31, hS.r319_32, w_sf1, w_sf3]
  repeat refine And.intro (by first | assumption | exact IsW.kt (by assumption) | omega | (unfold in32; omega) | (unfold in64; omega) | exact True.intro | exact Or.inl True.intro | exact Or.inr True.intro | rfl | exact Nat.le_of_ble_eq_true rfl) ?_
  try first | done | assumption | (unfold in32; omega) | (unfold in64; omega)
  intro _
  refine k_Mo_solves_127 _ _ _ _ _ _ _ _ ?_
  simp (disch := omega) only [↓w_nil, ↓w_cons, ↓w_ald0, ↓w_gf2_9, ↓w_ild1, ↓w_iald, ↓w_ist2, ↓w_ild2, ↓w_ifne, true_and, and_true, true_implies, false_implies, not_true_eq_false, not_false_eq_true, Int.reduceEq, Int.reduceLT, Int.reduceLE, Int.reduceNeg, w_nlI, w_nlL, w_nlR, w_up1, w_up2, w_up3, e328, c_k319, c_k320, c_k321, c_k322, c_k323, c_k324, c_k325, c_k326, c_k327, c_k328, c_k329, c_k330, c_k331, c_k332, c_k333, c_k334, c_k335, c_k336, c_k337, c_k338, c_k339, c_k340, c_k341, c_k342, c_k343, c_k344, c_k345, c_k346, c_k347, hS.r319_0, hS.r319_1, hS.r319_2, hS.r319_3, hS.r319_4, hS.r319_5, hS.r319_6, hS.r319_8, hS.r319_9, hS.r319_10, hS.r319_11, hS.r319_12, hS.r319_13, hS.r319_14, hS.r319_15, hS.r319_16, hS.r319_17, hS.r319_20, hS.r319_21, hS.r319_22, hS.r319_23, hS.r319_24, hS.r319_25, hS.r319_26, hS.r319_29, hS.r319_30, hS.r319_31, hS.r319_32, w_sf1, w_sf3]
  repeat refine And.intro (by first | assumption | exact IsW.kt (by assumption) | omega | (unfold in32; omega) | (unfold in64; omega) | exact True.intro | exact Or.inl True.intro | exact Or.inr True.intro | rfl | exact Nat.le_of_ble_eq_true rfl) ?_
  try first | done | assumption | (unfold in32; omega) | (unfold in64; omega)
  refine ⟨fun _ => ?_, fun hc => absurd hc (by omega)⟩
  refine k_Mo_solves_166 _ _ _ _ _ _ _ _ ?_
  simp (disch := omega) only [↓w_nil, ↓w_cons, ↓w_ald0, ↓w_gf2_14, ↓w_ild1, ↓w_ild2, ↓w_lald, ↓w_last, ↓w_cv2, true_and, and_true, true_implies, false_implies, not_true_eq_false, not_false_eq_true, Int.reduceEq, Int.reduceLT, Int.reduceLE, Int.reduceNeg, w_c80, w_c8I, w_c8L, w_c8R, w_up1, w_up2, w_up3, hw, c_k319, c_k320, c_k321, c_k322, c_k323, c_k324, c_k325, c_k326, c_k327, c_k328, c_k329, c_k330, c_k331, c_k332, c_k333, c_k334, c_k335, c_k336, c_k337, c_k338, c_k339, c_k340, c_k341, c_k342, c_k343, c_k344, c_k345, c_k346, c_k347, hS.r319_0, hS.r319_1, hS.r319_2, hS.r319_3, hS.r319_4, hS.r319_5, hS.r319_6, hS.r319_8, hS.r319_9, hS.r319_10, hS.r319_11, hS.r319_12, hS.r319_13, hS.r319_14, hS.r319_15, hS.r319_16, hS.r319_17, hS.r319_20, hS.r319_21, hS.r319_22, hS.r319_23, hS.r319_24, hS.r319_25, hS.r319_26, hS.r319_29, hS.r319_30, hS.r319_31, hS.r319_32, w_sf1, w_sf3]
  repeat refine And.intro (by first | assumption | exact IsW.kt (by assumption) | omega | (unfold in32; omega) | (unfold in64; omega) | exact True.intro | exact Or.inl True.intro | exact Or.inr True.intro | rfl | exact Nat.le_of_ble_eq_true rfl) ?_
  try first | done | assumption | (unfold in32; omega) | (unfold in64; omega)
  rcases hx with ⟨hK, hx⟩ | ⟨hK, hx⟩
  · refine ⟨_, p_Mo_flowsR (x := x) hS1 (by omega) (by omega) (by rw [c1 327 (by omega), e327]; exact hK) (by rw [w_up1]) hwb v1 hb (hU.sm (sm _)) ub hx, ?_⟩
    rintro q M2 ⟨rfl, G2, g2, w2⟩
    refine k_Mo_solves_184 _ _ _ _ _ _ _ _ ?_
    simp (disch := omega) only [↓w_nil, ↓w_cons, ↓w_inc1, ↓w_goto, true_and, and_true, true_implies, false_implies, not_true_eq_false, not_false_eq_true, Int.reduceEq, Int.reduceLT, Int.reduceLE, Int.reduceNeg, w_nlI, w_nlL, w_nlR, w_up1, w_up2, w_up3, w_tl0]
    repeat refine And.intro (by first | assumption | exact IsW.kt (by assumption) | omega | (unfold in32; omega) | (unfold in64; omega) | exact True.intro | exact Or.inl True.intro | exact Or.inr True.intro | rfl | exact Nat.le_of_ble_eq_true rfl) ?_
    try first | done | assumption | (unfold in32; omega) | (unfold in64; omega)
    exact nx M2 _ (G1.tr (G2.mo (fun j y => y) (fun p y => y.elim))) (by rw [w2, w_up1]) g2 (fun z => by omega)
  · refine ⟨_, p_Mo_flowsE (x := x) hS1 (by omega) (up := rd) (by omega) (by omega) (by rw [c1 327 (by omega), e327]; exact hK) (fun q => by rw [c1 327 (by omega), e327] at q; rw [c1 329 (by omega), e329, c1 324 (by omega), hs.1]; exact hp q) (by rw [w_up1]) hwb v1 hb (hU.sm (sm _)) ub hx xb, ?_⟩
    rintro q M2 ⟨rfl, G2, g2, w2, l2⟩
    rw [c1 327 (by omega), c1 329 (by omega), e327, e329] at G2 l2
    rw [c1 324 (by omega), hs.1] at l2
    refine k_Mo_solves_184 _ _ _ _ _ _ _ _ ?_
    simp (disch := omega) only [↓w_nil, ↓w_cons, ↓w_inc1, ↓w_goto, true_and, and_true, true_implies, false_implies, not_true_eq_false, not_false_eq_true, Int.reduceEq, Int.reduceLT, Int.reduceLE, Int.reduceNeg, w_nlI, w_nlL, w_nlR, w_up1, w_up2, w_up3, w_tl0]
    repeat refine And.intro (by first | assumption | exact IsW.kt (by assumption) | omega | (unfold in32; omega) | (unfold in64; omega) | exact True.intro | exact Or.inl True.intro | exact Or.inr True.intro | rfl | exact Nat.le_of_ble_eq_true rfl) ?_
    try first | done | assumption | (unfold in32; omega) | (unfold in64; omega)
    exact nx M2 _ (G1.tr G2) (by rw [w2, w_up1]) g2 l2
