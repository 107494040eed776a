/-! the reference: solves, from the whole down: the tree -/
def dw_E (g : cw_G) (f k K P I : Int → Int) (Q : Option cw_V → cw_M → Prop) (N w : Int) (t : Tr) : Prop := ∀ (rd lo : Int) (M : cw_M) (z : cw_V) (al be ga kk zo : Int), Sh M → Su f k K P I M → M 319 7 = N → (t_el K P I t).1 rd lo → 1 ≤ rd → rd < lo → lo + (t_er t).1 ≤ N → (t_bv M (l_sp f (f 3) k) (l_ep f (f 3) k) t).1 lo → M 333 rd = w → RM M (158 + rd) ((t_pq (l_sp f (f 3) k) t).1 * ga + be * t_r (l_sp f (f 3) k) (l_ep f (f 3) k) t) → En kk zo al be ga → zo * (201 : Int) ^ t_lv t ≤ 13254776280841401 → kk + t_lv t ≤ 8 → al * (t_pq (l_sp f (f 3) k) t).1 + be * (t_pq (l_sp f (f 3) k) t).2 = w → t_ok t → (∀ p, t_in t p → p < f 0) → t_1 t →
  (∀ (M2 : cw_M) (z : cw_V), Gd (fun j => lo ≤ j ∧ j < lo + (t_er t).1) (t_in t) M M2 → t_dl M2 w (l_sp f (f 3) k) (l_ep f (f 3) k) (fun p => cw_so f p 4) t al be ga → mJ g y_Mo_solves 119 [.inr (.inr 319), .inl (lo + (t_er t).1), z] [] M2 Q) →
  mJ g y_Mo_solves 119 [.inr (.inr 319), .inl lo, z] [] M Q
def dw_R (g : cw_G) (f k K P I : Int → Int) (Q : Option cw_V → cw_M → Prop) (N w : Int) (t : Tr) : Prop := ∀ (pt lo : Int) (M : cw_M) (z : cw_V) (al be ga kk zo : Int), Sh M → Su f k K P I M → M 319 7 = N → (t_el K P I t).2 pt lo → 1 ≤ pt → pt < lo → lo + (t_er t).2 ≤ N → (t_bv M (l_sp f (f 3) k) (l_ep f (f 3) k) t).2 lo → M 333 pt = w → RM M (158 + pt) ((t_pq (l_sp f (f 3) k) t).2 * ga - al * t_r (l_sp f (f 3) k) (l_ep f (f 3) k) t) → En kk zo al be ga → zo * (201 : Int) ^ t_lv t ≤ 13254776280841401 → kk + t_lv t ≤ 8 → al * (t_pq (l_sp f (f 3) k) t).1 + be * (t_pq (l_sp f (f 3) k) t).2 = w → t_ok t → (∀ p, t_in t p → p < f 0) → t_1 t →
  (∀ (M2 : cw_M) (z : cw_V), Gd (fun j => lo ≤ j ∧ j < lo + (t_er t).2) (t_in t) M M2 → t_dl M2 w (l_sp f (f 3) k) (l_ep f (f 3) k) (fun p => cw_so f p 4) t al be ga → mJ g y_Mo_solves 119 [.inr (.inr 319), .inl (lo + (t_er t).2), z] [] M2 Q) →
  mJ g y_Mo_solves 119 [.inr (.inr 319), .inl lo, z] [] M Q
theorem in_7 : ∀ {t : Tr}, t_ok t → ∀ p, t_in t p → 0 ≤ p ∧ p < 7
  | .num x, h, p, hp => by have hp : p = x := hp; subst hp; exact h
  | .neg x, h, p, hp => in_7 (t := x) h p hp
  | .add a b, h, p, hp => by
    rcases hp with hp | hp
    · exact in_7 h.1 p hp
    · exact in_7 h.2 p hp
  | .mul a b, h, p, hp => by
    rcases hp with hp | hp
    · exact in_7 h.1 p hp
    · exact in_7 h.2 p hp
theorem one_a {a b : Tr} (h : ∀ q, t_ix a q + t_ix b q ≤ 1) : t_1 a ∧ t_1 b ∧ ∀ p, t_in a p → ¬ t_in b p := by
  refine ⟨fun q => by have := h q; have := ix_nn b q; omega, fun q => by have := h q; have := ix_nn a q; omega, fun p ha hb => ?_⟩
  have := h p
  have := (ix_in a p).mpr ha
  have := (ix_in b p).mpr hb
  omega
theorem rm_gd {P L : Int → Prop} {M M1 : cw_M} {j v : Int} (h : RM M (158 + j) v) (g : Gd P L M M1) (hj : ¬ P j) (j0 : 0 ≤ j ∧ j < 66) (hL : ∀ p, L p → 0 ≤ p ∧ p < 7) : RM M1 (158 + j) v :=
  h.sm (g.2.2.2.2 _ ⟨by omega, by omega⟩ (by omega) (by omega) (by omega) (fun i hi z => hj (by rw [show j = i by omega]; exact hi)) (fun p hp => by have := hL p hp; omega))
/-- a road of its own, within a path that is no whole -/
theorem dw_road {g : cw_G} {f k K P I fl : Int → Int} {n0 N w : Int} {Q : Option cw_V → cw_M → Prop} {t : Tr} (hW : WF n0 f fl) (hs2 : s_ok (l_sp f (f 3) k)) (he2 : e_ok (l_ep f (f 3) k)) (hN2 : N ≤ 64) (hwb : 0 ≤ w ∧ w ≤ 13254776280841401) (hE : dw_E g f k K P I Q N w t) : ∀ (pt lo : Int) (M : cw_M) (z : cw_V) (al be ga kk zo : Int), Sh M → Su f k K P I M → M 319 7 = N → K lo = 1 → P lo = pt → (t_el K P I t).1 lo (lo + 1) → 1 ≤ pt → pt < lo → lo + (1 + (t_er t).1) ≤ N → nv M lo (pv (l_sp f (f 3) k) (l_ep f (f 3) k) t) ∧ (t_bv M (l_sp f (f 3) k) (l_ep f (f 3) k) t).1 (lo + 1) → M 333 pt = w → RM M (158 + pt) ((t_pq (l_sp f (f 3) k) t).2 * ga - al * t_r (l_sp f (f 3) k) (l_ep f (f 3) k) t) → En kk zo al be ga → zo * (201 : Int) ^ t_lv t ≤ 13254776280841401 → kk + t_lv t ≤ 8 → al * (t_pq (l_sp f (f 3) k) t).1 + be * (t_pq (l_sp f (f 3) k) t).2 = w → t_ok t → (∀ p, t_in t p → p < f 0) → t_1 t →
    (∀ (M2 : cw_M) (z : cw_V), Gd (fun j => lo ≤ j ∧ j < lo + (1 + (t_er t).1)) (t_in t) M M2 → t_dl M2 w (l_sp f (f 3) k) (l_ep f (f 3) k) (fun p => cw_so f p 4) t al be ga → mJ g y_Mo_solves 119 [.inr (.inr 319), .inl (lo + (1 + (t_er t).1)), z] [] M2 Q) →
    mJ g y_Mo_solves 119 [.inr (.inr 319), .inl lo, z] [] M Q := by
  intro pt lo M z al be ga kk zo hS hs hN hK hP hel p1 plo hlo hv hw hU hEn hz hk8 hal hk hin h1 nx
  have nn := (er_nn t).1
  have lv1 := lv_p t
  have bp := bd_pv hs2 he2 hk
  have rb := r_b hs2 he2 t hk
  have b7 := bd_7 bp (by have := hEn.2.2.2.2.2.1; omega)
  have ev := en_v hEn bp.1 bp.2.1 bp.2.2.1 rb (by omega) hz hk8
  have i7 := in_7 hk
  refine sd_node (u := (t_pq (l_sp f (f 3) k) t).2 * ga - al * t_r (l_sp f (f 3) k) (l_ep f (f 3) k) t) (x := (t_pq (l_sp f (f 3) k) t).1 * ga + be * t_r (l_sp f (f 3) k) (l_ep f (f 3) k) t) hS hs hN (by omega) hN2 hP (by omega) hw hwb hv.1 b7 hU ev.2 ev.1 (Or.inl ⟨hK, ?_⟩) (fun q => by omega) (fun M2 z2 G2 w2 g2 _ => ?_)
  · rw [← hal]
    show ((t_pq (l_sp f (f 3) k) t).2 * ga - al * t_r (l_sp f (f 3) k) (l_ep f (f 3) k) t) * (t_pq (l_sp f (f 3) k) t).1 + t_r (l_sp f (f 3) k) (l_ep f (f 3) k) t * (al * (t_pq (l_sp f (f 3) k) t).1 + be * (t_pq (l_sp f (f 3) k) t).2) = (t_pq (l_sp f (f 3) k) t).2 * ((t_pq (l_sp f (f 3) k) t).1 * ga + be * t_r (l_sp f (f 3) k) (l_ep f (f 3) k) t)
    grind
  · have G2' : Gd (fun j => j = lo) (fun _ => False) M M2 := G2.mo (fun j y => y) (fun p y => by omega)
    refine hE lo (lo + 1) M2 z2 al be ga kk zo G2.1 (hs.gd G2) (by rw [G2.2.1 319 (by omega) (by omega) (by omega) (by omega)]; exact hN) hel (by omega) (by omega) (by omega) ((bv_gd G2' (fun j y => by omega) (fun p y => y.elim) t).1 (lo + 1) (by omega) (by omega) hv.2) w2 g2 hEn hz hk8 hal hk hin h1 (fun M3 z3 G3 d3 => ?_)
    have := nx M3 z3 ((G2'.mo (fun j y => by omega) (fun p y => y.elim)).tr (G3.mo (fun j y => by omega) (fun p y => y))) d3
    rw [show lo + 1 + (t_er t).1 = lo + (1 + (t_er t).1) by omega]
    exact this
theorem dw_all {g : cw_G} {f k K P I fl : Int → Int} {n0 N w : Int} {Q : Option cw_V → cw_M → Prop} (hW : WF n0 f fl) (hs2 : s_ok (l_sp f (f 3) k)) (he2 : e_ok (l_ep f (f 3) k)) (hN2 : N ≤ 64) (hwb : 0 ≤ w ∧ w ≤ 13254776280841401) : ∀ t : Tr, dw_E g f k K P I Q N w t ∧ dw_R g f k K P I Q N w t
  | .num p => by
    have hE : dw_E g f k K P I Q N w (.num p) := by
      intro rd lo M z al be ga kk zo hS hs hN hel r1 rlo hlo hv hw hU hEn hz hk8 hal hk hin h1 nx
      obtain ⟨e1, e2, e3⟩ : K lo = 0 ∧ P lo = rd ∧ I lo = p := hel
      have hlo : lo + 1 ≤ N := hlo
      have hk7 : 0 ≤ p ∧ p < 7 := hk
      have bp := bd_pv hs2 he2 (t := .num p) hk
      have rb := r_b hs2 he2 (.num p) hk
      have b7 := bd_7 bp (by show 1 ≤ 7; omega)
      have ev := en_v hEn bp.1 bp.2.1 bp.2.2.1 rb (by omega) hz hk8
      have so := so_b hW hk7.1 hk7.2
      refine sd_node (u := (t_pq (l_sp f (f 3) k) (.num p)).1 * ga + be * t_r (l_sp f (f 3) k) (l_ep f (f 3) k) (.num p)) (x := (t_pq (l_sp f (f 3) k) (.num p)).2 * ga - al * t_r (l_sp f (f 3) k) (l_ep f (f 3) k) (.num p)) hS hs hN (by omega) hN2 e2 (by omega) hw hwb hv b7 hU ev.1 ev.2 (Or.inr ⟨Or.inl e1, ?_⟩) (fun _ => by rw [e3]; exact ⟨hk7, so⟩) (fun M2 z2 G2 w2 g2 l2 => ?_)
      · rw [← hal]
        show ((t_pq (l_sp f (f 3) k) (.num p)).1 * ga + be * t_r (l_sp f (f 3) k) (l_ep f (f 3) k) (.num p)) * (t_pq (l_sp f (f 3) k) (.num p)).2 - t_r (l_sp f (f 3) k) (l_ep f (f 3) k) (.num p) * (al * (t_pq (l_sp f (f 3) k) (.num p)).1 + be * (t_pq (l_sp f (f 3) k) (.num p)).2) = (t_pq (l_sp f (f 3) k) (.num p)).1 * ((t_pq (l_sp f (f 3) k) (.num p)).2 * ga - al * t_r (l_sp f (f 3) k) (l_ep f (f 3) k) (.num p))
        grind
      · have l := l2 e1
        rw [e3] at l
        have d : (t_pq (l_sp f (f 3) k) (.num p)).2 * ga - al * t_r (l_sp f (f 3) k) (l_ep f (f 3) k) (.num p) = ga - al * l_ep f (f 3) k p := by show 1 * ga - al * l_ep f (f 3) k p = _; omega
        rw [d] at l
        refine nx M2 z2 (G2.mo (fun j y => ?_) (fun q y => ?_)) ⟨l.1, l.2.1, l.2.2.1, l.2.2.2⟩
        · show lo ≤ j ∧ j < lo + 1
          omega
        · show q = p
          rw [y.2, e3]
    refine ⟨hE, ?_⟩
    intro pt lo M z al be ga kk zo hS hs hN hel p1 plo hlo hv hw hU hEn hz hk8 hal hk hin h1 nx
    exact dw_road hW hs2 he2 hN2 hwb hE pt lo M z al be ga kk zo hS hs hN hel.1 hel.2.1 hel.2.2 p1 plo hlo hv hw hU hEn hz hk8 hal hk hin h1 nx
  | .neg x => by
    have ih := dw_all (g := g) (K := K) (P := P) (I := I) (Q := Q) hW hs2 he2 hN2 hwb x
    have nn := (er_nn x).2
    have hE : dw_E g f k K P I Q N w (.neg x) := by
      intro rd lo M z al be ga kk zo hS hs hN hel r1 rlo hlo hv hw hU hEn hz hk8 hal hk hin h1 nx
      obtain ⟨e1, e2, e3⟩ : K lo = 2 ∧ P lo = rd ∧ (t_el K P I x).2 lo (lo + 1) := hel
      have hlo : lo + (1 + (t_er x).2) ≤ N := hlo
      have hk : t_ok x := hk
      have hz : zo * (201 : Int) ^ t_lv x ≤ 13254776280841401 := hz
      have hk8 : kk + t_lv x ≤ 8 := hk8
      have hal : al * (t_pq (l_sp f (f 3) k) x).1 + be * (t_pq (l_sp f (f 3) k) x).2 = w := hal
      have hU : RM M (158 + rd) ((t_pq (l_sp f (f 3) k) x).1 * ga + be * t_r (l_sp f (f 3) k) (l_ep f (f 3) k) x) := hU
      have bp := bd_pv hs2 he2 hk
      have rb := r_b hs2 he2 x hk
      have b7 := bd_7 bp (by have := hEn.2.2.2.2.2.1; omega)
      have ev := en_v hEn bp.1 bp.2.1 bp.2.2.1 rb (by omega) hz hk8
      refine sd_node (u := (t_pq (l_sp f (f 3) k) x).1 * ga + be * t_r (l_sp f (f 3) k) (l_ep f (f 3) k) x) (x := (t_pq (l_sp f (f 3) k) x).2 * ga - al * t_r (l_sp f (f 3) k) (l_ep f (f 3) k) x) hS hs hN (by omega) hN2 e2 (by omega) hw hwb hv.1 b7 hU ev.1 ev.2 (Or.inr ⟨Or.inr e1, ?_⟩) (fun q => by omega) (fun M2 z2 G2 w2 g2 _ => ?_)
      · rw [← hal]
        show ((t_pq (l_sp f (f 3) k) x).1 * ga + be * t_r (l_sp f (f 3) k) (l_ep f (f 3) k) x) * (t_pq (l_sp f (f 3) k) x).2 - t_r (l_sp f (f 3) k) (l_ep f (f 3) k) x * (al * (t_pq (l_sp f (f 3) k) x).1 + be * (t_pq (l_sp f (f 3) k) x).2) = (t_pq (l_sp f (f 3) k) x).1 * ((t_pq (l_sp f (f 3) k) x).2 * ga - al * t_r (l_sp f (f 3) k) (l_ep f (f 3) k) x)
        grind
      · have G2' : Gd (fun j => j = lo) (fun _ => False) M M2 := G2.mo (fun j y => y) (fun p y => by omega)
        refine ih.2 lo (lo + 1) M2 z2 al be ga kk zo G2.1 (hs.gd G2) (by rw [G2.2.1 319 (by omega) (by omega) (by omega) (by omega)]; exact hN) e3 (by omega) (by omega) (by omega) ((bv_gd G2' (fun j y => by omega) (fun p y => y.elim) x).2 (lo + 1) (by omega) (by omega) hv.2) w2 g2 hEn hz hk8 hal hk hin h1 (fun M3 z3 G3 d3 => ?_)
        have := nx M3 z3 ((G2'.mo (fun j y => by show lo ≤ j ∧ j < lo + (1 + (t_er x).2); omega) (fun p y => y.elim)).tr (G3.mo (fun j y => by show lo ≤ j ∧ j < lo + (1 + (t_er x).2); omega) (fun p y => y))) d3
        rw [show lo + 1 + (t_er x).2 = lo + (1 + (t_er x).2) by omega]
        exact this
    refine ⟨hE, ?_⟩
    intro pt lo M z al be ga kk zo hS hs hN hel p1 plo hlo hv hw hU hEn hz hk8 hal hk hin h1 nx
    have e : (t_er (.neg x)).2 = 1 + (t_er (.neg x)).1 := by show 2 + (t_er x).2 = 1 + (1 + (t_er x).2); omega
    rw [e] at hlo nx
    exact dw_road hW hs2 he2 hN2 hwb hE pt lo M z al be ga kk zo hS hs hN hel.1 hel.2.1 hel.2.2 p1 plo hlo hv hw hU hEn hz hk8 hal hk hin h1 nx
  | .mul a b => by
    have iha := dw_all (g := g) (K := K) (P := P) (I := I) (Q := Q) hW hs2 he2 hN2 hwb a
    have ihb := dw_all (g := g) (K := K) (P := P) (I := I) (Q := Q) hW hs2 he2 hN2 hwb b
    have na := (er_nn a).1
    have nb := (er_nn b).1
    have hE : dw_E g f k K P I Q N w (.mul a b) := by
      intro rd lo M z al be ga kk zo hS hs hN hel r1 rlo hlo hv hw hU hEn hz hk8 hal hk hin h1 nx
      obtain ⟨e1, e2⟩ : (t_el K P I a).1 rd lo ∧ (t_el K P I b).1 rd (lo + (t_er a).1) := hel
      have hlo : lo + ((t_er a).1 + (t_er b).1) ≤ N := hlo
      have hz : zo * (201 : Int) ^ (t_lv a + t_lv b) ≤ 13254776280841401 := hz
      rw [Int.pow_add] at hz
      have zz := zz_m hz
      have hk8 : kk + ((t_lv a + t_lv b : Nat) : Int) ≤ 8 := hk8
      rw [Int.natCast_add] at hk8
      obtain ⟨o1, o2, o3⟩ := one_a (a := a) (b := b) h1
      have pa := pq_b hs2 a hk.1
      have pb := pq_b hs2 b hk.2
      have ra := r_b hs2 he2 a hk.1
      have rb := r_b hs2 he2 b hk.2
      have ea := (en_m hEn pb.1 pb.2.1 pb.2.2 rb (by omega)).1
      have eb := (en_m hEn pa.1 pa.2.1 pa.2.2 ra (by omega)).1
      have ia := in_7 hk.1
      have ib := in_7 hk.2
      have ua : (t_pq (l_sp f (f 3) k) (.mul a b)).1 * ga + be * t_r (l_sp f (f 3) k) (l_ep f (f 3) k) (.mul a b) = (t_pq (l_sp f (f 3) k) a).1 * (ga * (t_pq (l_sp f (f 3) k) b).1 + be * t_r (l_sp f (f 3) k) (l_ep f (f 3) k) b) + be * (t_pq (l_sp f (f 3) k) b).1 * t_r (l_sp f (f 3) k) (l_ep f (f 3) k) a := by
        show (t_pq (l_sp f (f 3) k) a).1 * (t_pq (l_sp f (f 3) k) b).1 * ga + be * (t_r (l_sp f (f 3) k) (l_ep f (f 3) k) a * (t_pq (l_sp f (f 3) k) b).1 + t_r (l_sp f (f 3) k) (l_ep f (f 3) k) b * (t_pq (l_sp f (f 3) k) a).1) = _
        grind
      have ub : (t_pq (l_sp f (f 3) k) (.mul a b)).1 * ga + be * t_r (l_sp f (f 3) k) (l_ep f (f 3) k) (.mul a b) = (t_pq (l_sp f (f 3) k) b).1 * (ga * (t_pq (l_sp f (f 3) k) a).1 + be * t_r (l_sp f (f 3) k) (l_ep f (f 3) k) a) + be * (t_pq (l_sp f (f 3) k) a).1 * t_r (l_sp f (f 3) k) (l_ep f (f 3) k) b := by
        show (t_pq (l_sp f (f 3) k) a).1 * (t_pq (l_sp f (f 3) k) b).1 * ga + be * (t_r (l_sp f (f 3) k) (l_ep f (f 3) k) a * (t_pq (l_sp f (f 3) k) b).1 + t_r (l_sp f (f 3) k) (l_ep f (f 3) k) b * (t_pq (l_sp f (f 3) k) a).1) = _
        grind
      have hal : al * ((t_pq (l_sp f (f 3) k) a).1 * (t_pq (l_sp f (f 3) k) b).1) + be * ((t_pq (l_sp f (f 3) k) a).1 * (t_pq (l_sp f (f 3) k) b).2 + (t_pq (l_sp f (f 3) k) b).1 * (t_pq (l_sp f (f 3) k) a).2) = w := hal
      refine iha.1 rd lo M z _ _ _ _ _ hS hs hN e1 r1 rlo (by omega) hv.1 hw (by rw [← ua]; exact hU) ea zz.1 (by omega) (by rw [← hal]; grind) hk.1 (fun p hp => hin p (Or.inl hp)) o1 (fun M2 z2 G2 d2 => ?_)
      refine ihb.1 rd (lo + (t_er a).1) M2 z2 _ _ _ _ _ G2.1 (hs.gd G2) (by rw [G2.2.1 319 (by omega) (by omega) (by omega) (by omega)]; exact hN) e2 r1 (by omega) (by omega) ((bv_gd G2 (fun j y => by omega) ia b).1 _ (by omega) (by omega) hv.2) (by rw [G2.2.2.1 rd (by omega)]; exact hw) (by rw [← ub]; exact rm_gd hU G2 (by omega) (by omega) ia) eb zz.2 (by omega) (by rw [← hal]; grind) hk.2 (fun p hp => hin p (Or.inr hp)) o2 (fun M3 z3 G3 d3 => ?_)
      have := nx M3 z3 ((G2.mo (fun j y => by show lo ≤ j ∧ j < lo + ((t_er a).1 + (t_er b).1); omega) (fun p y => Or.inl y)).tr (G3.mo (fun j y => by show lo ≤ j ∧ j < lo + ((t_er a).1 + (t_er b).1); omega) (fun p y => Or.inr y))) ⟨dl_cg G3 (fun j y => by omega) a _ _ _ hk.1 o3 ib d2, d3⟩
      rw [show lo + (t_er a).1 + (t_er b).1 = lo + ((t_er a).1 + (t_er b).1) by omega]
      exact this
    refine ⟨hE, ?_⟩
    intro pt lo M z al be ga kk zo hS hs hN hel p1 plo hlo hv hw hU hEn hz hk8 hal hk hin h1 nx
    exact dw_road hW hs2 he2 hN2 hwb hE pt lo M z al be ga kk zo hS hs hN hel.1 hel.2.1 hel.2.2 p1 plo hlo hv hw hU hEn hz hk8 hal hk hin h1 nx
  | .add a b => by
    have iha := dw_all (g := g) (K := K) (P := P) (I := I) (Q := Q) hW hs2 he2 hN2 hwb a
    have ihb := dw_all (g := g) (K := K) (P := P) (I := I) (Q := Q) hW hs2 he2 hN2 hwb b
    have na := (er_nn a).2
    have nb := (er_nn b).1
    refine ⟨fun rd lo M z al be ga kk zo hS hs hN hel => hel.elim, ?_⟩
    intro pt lo M z al be ga kk zo hS hs hN hel p1 plo hlo hv hw hU hEn hz hk8 hal hk hin h1 nx
    obtain ⟨e1, e2, e3, e4⟩ : (t_el K P I a).2 pt lo ∧ K (lo + (t_er a).2) = 1 ∧ P (lo + (t_er a).2) = pt ∧ (t_el K P I b).1 (lo + (t_er a).2) (lo + (t_er a).2 + 1) := hel
    have hlo : lo + ((t_er a).2 + 1 + (t_er b).1) ≤ N := hlo
    have hz : zo * (201 : Int) ^ (t_lv a + t_lv b) ≤ 13254776280841401 := hz
    rw [Int.pow_add] at hz
    have zz := zz_m hz
    have hk8 : kk + ((t_lv a + t_lv b : Nat) : Int) ≤ 8 := hk8
    rw [Int.natCast_add] at hk8
    obtain ⟨o1, o2, o3⟩ := one_a (a := a) (b := b) h1
    have pa := pq_b hs2 a hk.1
    have pb := pq_b hs2 b hk.2
    have ra := r_b hs2 he2 a hk.1
    have rb := r_b hs2 he2 b hk.2
    have ea := (en_m hEn pb.1 pb.2.1 pb.2.2 rb (by omega)).2
    have eb := (en_m hEn pa.1 pa.2.1 pa.2.2 ra (by omega)).2
    have ia := in_7 hk.1
    have ib := in_7 hk.2
    have ua : (t_pq (l_sp f (f 3) k) (.add a b)).2 * ga - al * t_r (l_sp f (f 3) k) (l_ep f (f 3) k) (.add a b) = (t_pq (l_sp f (f 3) k) a).2 * (ga * (t_pq (l_sp f (f 3) k) b).2 - al * t_r (l_sp f (f 3) k) (l_ep f (f 3) k) b) - al * (t_pq (l_sp f (f 3) k) b).2 * t_r (l_sp f (f 3) k) (l_ep f (f 3) k) a := by
      show (t_pq (l_sp f (f 3) k) a).2 * (t_pq (l_sp f (f 3) k) b).2 * ga - al * (t_r (l_sp f (f 3) k) (l_ep f (f 3) k) a * (t_pq (l_sp f (f 3) k) b).2 + t_r (l_sp f (f 3) k) (l_ep f (f 3) k) b * (t_pq (l_sp f (f 3) k) a).2) = _
      grind
    have ub : (t_pq (l_sp f (f 3) k) (.add a b)).2 * ga - al * t_r (l_sp f (f 3) k) (l_ep f (f 3) k) (.add a b) = (t_pq (l_sp f (f 3) k) b).2 * (ga * (t_pq (l_sp f (f 3) k) a).2 - al * t_r (l_sp f (f 3) k) (l_ep f (f 3) k) a) - al * (t_pq (l_sp f (f 3) k) a).2 * t_r (l_sp f (f 3) k) (l_ep f (f 3) k) b := by
      show (t_pq (l_sp f (f 3) k) a).2 * (t_pq (l_sp f (f 3) k) b).2 * ga - al * (t_r (l_sp f (f 3) k) (l_ep f (f 3) k) a * (t_pq (l_sp f (f 3) k) b).2 + t_r (l_sp f (f 3) k) (l_ep f (f 3) k) b * (t_pq (l_sp f (f 3) k) a).2) = _
      grind
    have hal : al * ((t_pq (l_sp f (f 3) k) a).1 * (t_pq (l_sp f (f 3) k) b).2 + (t_pq (l_sp f (f 3) k) b).1 * (t_pq (l_sp f (f 3) k) a).2) + be * ((t_pq (l_sp f (f 3) k) a).2 * (t_pq (l_sp f (f 3) k) b).2) = w := hal
    refine iha.2 pt lo M z _ _ _ _ _ hS hs hN e1 p1 plo (by omega) hv.1 hw (by rw [← ua]; exact hU) ea zz.1 (by omega) (by rw [← hal]; grind) hk.1 (fun p hp => hin p (Or.inl hp)) o1 (fun M2 z2 G2 d2 => ?_)
    refine dw_road hW hs2 he2 hN2 hwb ihb.1 pt (lo + (t_er a).2) M2 z2 _ _ _ _ _ G2.1 (hs.gd G2) (by rw [G2.2.1 319 (by omega) (by omega) (by omega) (by omega)]; exact hN) e2 e3 e4 p1 (by omega) (by omega) ⟨nv_gd hv.2.1 G2 (fun j y => by omega) ia (by omega), (bv_gd G2 (fun j y => by omega) ia b).1 _ (by omega) (by omega) hv.2.2⟩ (by rw [G2.2.2.1 pt (by omega)]; exact hw) (by rw [← ub]; exact rm_gd hU G2 (by omega) (by omega) ia) eb zz.2 (by omega) (by rw [← hal]; grind) hk.2 (fun p hp => hin p (Or.inr hp)) o2 (fun M3 z3 G3 d3 => ?_)
    have := nx M3 z3 ((G2.mo (fun j y => by show lo ≤ j ∧ j < lo + ((t_er a).2 + 1 + (t_er b).1); omega) (fun p y => Or.inl y)).tr (G3.mo (fun j y => by show lo ≤ j ∧ j < lo + ((t_er a).2 + 1 + (t_er b).1); omega) (fun p y => Or.inr y))) ⟨dl_cg G3 (fun j y => by omega) a _ _ _ hk.1 o3 ib d2, d3⟩
    rw [show lo + (t_er a).2 + (1 + (t_er b).1) = lo + ((t_er a).2 + 1 + (t_er b).1) by omega]
    exact this
  | .natCast _ => ⟨fun _ _ _ _ _ _ _ _ _ _ _ _ h => h.elim, fun _ _ _ _ _ _ _ _ _ _ _ _ h => h.elim⟩
  | .intCast _ => ⟨fun _ _ _ _ _ _ _ _ _ _ _ _ h => h.elim, fun _ _ _ _ _ _ _ _ _ _ _ _ h => h.elim⟩
  | .var _ => ⟨fun _ _ _ _ _ _ _ _ _ _ _ _ h => h.elim, fun _ _ _ _ _ _ _ _ _ _ _ _ h => h.elim⟩
  | .sub _ _ => ⟨fun _ _ _ _ _ _ _ _ _ _ _ _ h => h.elim, fun _ _ _ _ _ _ _ _ _ _ _ _ h => h.elim⟩
  | .pow _ _ => ⟨fun _ _ _ _ _ _ _ _ _ _ _ _ h => h.elim, fun _ _ _ _ _ _ _ _ _ _ _ _ h => h.elim⟩
