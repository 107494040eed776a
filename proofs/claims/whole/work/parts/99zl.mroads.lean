/-! the reference: what the pieces' registers tell; the rest, road by road -/
def cw_gv (M : cw_M) (r : Int) : Int := M 322 r * cw_mg (cw_rd M r) (M 321 r).toNat
theorem RM.rl {M : cw_M} {r v : Int} (h : RM M r v) : cw_gv M r = v := by
  obtain ⟨n, h1, h2, h3, h4, h5, h6⟩ := h
  unfold cw_gv
  rw [h2, h6, show ((n : Nat) : Int).toNat = n by omega, h5, sgn_ab]
theorem dl_sv {M : cw_M} {w : Int} {s e so : Int → Int} : ∀ (t : Tr) (al be ga : Int), t_dl M w s e so t al be ga → t_sv s e (fun p => cw_gv M (16 + p) - w * so p) (fun p => cw_gv M (24 + p)) t al be ga
  | .num p, al, be, ga, ⟨h1, h2, _, _⟩ => by
    refine ⟨?_, ?_⟩
    · show cw_gv M (16 + p) - w * so p = _; rw [h2.rl]; omega
    · show cw_gv M (24 + p) = _; rw [h1.rl]
  | .neg x, al, be, ga, h => dl_sv x al be ga h
  | .add a b, al, be, ga, h => ⟨dl_sv a _ _ _ h.1, dl_sv b _ _ _ h.2⟩
  | .mul a b, al, be, ga, h => ⟨dl_sv a _ _ _ h.1, dl_sv b _ _ _ h.2⟩
theorem dl_px {M : cw_M} {w : Int} {s e so : Int → Int} : ∀ (t : Tr) (al be ga : Int), t_dl M w s e so t al be ga → ∀ p, t_in t p → RM M (16 + p) (cw_gv M (16 + p)) ∧ RM M (24 + p) (cw_gv M (24 + p)) ∧ M 336 p = w ∧ M 335 p = 1
  | .num p, al, be, ga, ⟨h1, h2, h3, h4⟩, q, hq => by
    have hq : q = p := hq
    subst hq
    rw [h1.rl, h2.rl]
    exact ⟨h2, h1, h3, h4⟩
  | .neg x, al, be, ga, h, q, hq => dl_px x al be ga h q hq
  | .add a b, al, be, ga, h, q, hq => by
    rcases hq with hq | hq
    · exact dl_px a _ _ _ h.1 q hq
    · exact dl_px b _ _ _ h.2 q hq
  | .mul a b, al, be, ga, h, q, hq => by
    rcases hq with hq | hq
    · exact dl_px a _ _ _ h.1 q hq
    · exact dl_px b _ _ _ h.2 q hq
theorem sv_bd {s e D F : Int → Int} (hs : s_ok s) (he : e_ok e) : ∀ (t : Tr) (al be ga k zo : Int), t_ok t → t_sv s e D F t al be ga → En k zo al be ga → zo * (201 : Int) ^ t_lv t ≤ 13254776280841401 → k + t_lv t ≤ 8 → ∀ p, t_in t p → (-848305681973849664000000 ≤ D p ∧ D p ≤ 848305681973849664000000) ∧ (-848305681973849664000000 ≤ F p ∧ F p ≤ 848305681973849664000000)
  | .num p, al, be, ga, k, zo, hk, ⟨h1, h2⟩, hE, hz, hl, q, hq => by
    have hq : q = p := hq
    subst hq
    have v := en_v hE (pq_b hs (.num q) hk).1 (pq_b hs (.num q) hk).2.1 (pq_b hs (.num q) hk).2.2 (r_b hs he (.num q) hk) (by omega) hz hl
    have e1 : (t_pq s (.num q)).2 * ga - al * t_r s e (.num q) = ga - al * e q := by show 1 * ga - al * e q = _; omega
    rw [e1] at v
    rw [h1, h2]
    exact ⟨v.2, v.1⟩
  | .neg x, al, be, ga, k, zo, hk, h, hE, hz, hl, q, hq => sv_bd hs he x al be ga k zo hk h hE hz hl q hq
  | .add a b, al, be, ga, k, zo, hk, h, hE, hz, hl, q, hq => by
    have pa := pq_b hs a hk.1
    have pb := pq_b hs b hk.2
    have ra := r_b hs he a hk.1
    have rb := r_b hs he b hk.2
    have hz : zo * (201 : Int) ^ (t_lv a + t_lv b) ≤ 13254776280841401 := hz
    rw [Int.pow_add] at hz
    have zz := zz_m hz
    have hl : k + ((t_lv a + t_lv b : Nat) : Int) ≤ 8 := hl
    rw [Int.natCast_add] at hl
    rcases hq with hq | hq
    · exact sv_bd hs he a _ _ _ _ _ hk.1 h.1 (en_m hE pb.1 pb.2.1 pb.2.2 rb (by omega)).2 zz.1 (by omega) q hq
    · exact sv_bd hs he b _ _ _ _ _ hk.2 h.2 (en_m hE pa.1 pa.2.1 pa.2.2 ra (by omega)).2 zz.2 (by omega) q hq
  | .mul a b, al, be, ga, k, zo, hk, h, hE, hz, hl, q, hq => by
    have pa := pq_b hs a hk.1
    have pb := pq_b hs b hk.2
    have ra := r_b hs he a hk.1
    have rb := r_b hs he b hk.2
    have hz : zo * (201 : Int) ^ (t_lv a + t_lv b) ≤ 13254776280841401 := hz
    rw [Int.pow_add] at hz
    have zz := zz_m hz
    have hl : k + ((t_lv a + t_lv b : Nat) : Int) ≤ 8 := hl
    rw [Int.natCast_add] at hl
    rcases hq with hq | hq
    · exact sv_bd hs he a _ _ _ _ _ hk.1 h.1 (en_m hE pb.1 pb.2.1 pb.2.2 rb (by omega)).1 zz.1 (by omega) q hq
    · exact sv_bd hs he b _ _ _ _ _ hk.2 h.2 (en_m hE pa.1 pa.2.1 pa.2.2 ra (by omega)).1 zz.2 (by omega) q hq
/-- the lines of gaps are without an offset, whatever their part -/
theorem lo_gap {f fl : Int → Int} {n p k : Int} (hW : WF n f fl) (hp : 0 ≤ p ∧ p < f 0) (hg : f (10 + 12 * p) = 1) : l_o f p k = 0 := by
  have g : cw_gp f p := (hW.2.1 p hp.1 hp.2).resolve_right (fun z => by have := z.1; omega)
  unfold cw_gp at g
  unfold l_o
  rw [g.2.1, g.2.2.1, g.2.2.2.1, g.2.2.2.2.1, g.2.2.2.2.2]
  repeat' split
  all_goals rfl
theorem ep_ok2 {f fl k : Int → Int} {n t : Int} (hW : WF n f fl) (ht : 0 ≤ t ∧ t < 24) (hk : ∀ p : Int, 0 ≤ p → p < 7 → -2 ≤ k p ∧ k p ≤ 2) : e_ok (l_ep f t k) := by
  have h := ep_ok (k := fun p => if f (10 + 12 * p) = 1 then 0 else k p) hW ht (fun p q0 q1 => by
    have := hk p q0 q1
    show -2 ≤ (if f (10 + 12 * p) = 1 then 0 else k p) ∧ (if f (10 + 12 * p) = 1 then 0 else k p) ≤ 2
    split <;> omega) (fun p q0 q1 => by
    rcases gap_1 hW ⟨q0, q1⟩ with z | z
    · exact Or.inl z
    · exact Or.inr (if_pos z))
  have e : l_ep f t (fun p => if f (10 + 12 * p) = 1 then 0 else k p) = fun p => if 0 ≤ p then l_ep f t k p else l_ep f t (fun p => if f (10 + 12 * p) = 1 then 0 else k p) p := by
    funext p
    split
    · unfold l_ep
      split
      · rename_i q0 q1
        by_cases z : f (10 + 12 * p) = 1
        · rw [lo_gap hW ⟨q0, q1⟩ z, lo_gap hW ⟨q0, q1⟩ z]
          unfold l_s
          rw [if_pos z, if_pos z]
        · show l_s f t p (if f (10 + 12 * p) = 1 then 0 else k p) * _ + l_o f p (if f (10 + 12 * p) = 1 then 0 else k p) = _
          rw [if_neg z]
      · rfl
    · rfl
  rw [e] at h
  intro p q0 q1
  have := h p q0 q1
  simp only [if_pos q0] at this
  exact this
/-- a road solved along the lines of parts k -/
def R_sv (f : Int → Int) (t : Int) (k X F : Int → Int) (M : cw_M) (R : Tr) (lo : Int) : Prop := ∃ w : Int, (0 < w ∧ w ≤ 13254776280841401) ∧ (M 333 lo = w ∧ w ≤ (201 : Int) ^ t_lv R) ∧ (∀ p, t_in R p → (RM M (16 + p) (X p) ∧ (-849000000000000000000000 ≤ X p ∧ X p ≤ 849000000000000000000000)) ∧ (RM M (24 + p) (F p) ∧ (-848305681973849664000000 ≤ F p ∧ F p ≤ 848305681973849664000000)) ∧ M 336 p = w ∧ M 335 p = 1) ∧ (∃ f0, t_nt (fun p => X p - cw_so f p 4 * w) F R 0 f0) ∧ ∀ p, t_in R p → F p = l_s f t p (k p) * X p + l_o f p (k p) * w
/-- a road at rest -/
def R_at (f : Int → Int) (t : Int) (X F : Int → Int) (M : cw_M) (R : Tr) (lo : Int) : Prop := ∃ w : Int, (0 < w ∧ w ≤ 13254776280841401) ∧ (M 333 lo = w ∧ w ≤ (201 : Int) ^ t_lv R) ∧ (∀ p, t_in R p → (RM M (16 + p) (X p) ∧ (-849000000000000000000000 ≤ X p ∧ X p ≤ 849000000000000000000000)) ∧ (RM M (24 + p) (F p) ∧ (-848305681973849664000000 ≤ F p ∧ F p ≤ 848305681973849664000000)) ∧ M 336 p = w ∧ M 335 p = 1) ∧ r_at f t R w X F
theorem rd_sv {f fl k : Int → Int} {n t : Int} {M : cw_M} {R : Tr} {lo : Int} (hW : WF n f fl) (hs : s_ok (l_sp f t k)) (he : e_ok (l_ep f t k)) (hk : t_ok R) (hlv : t_lv R ≤ 7) (hin : ∀ p, t_in R p → p < f 0) (h : m_rd M (l_sp f t k) (l_ep f t k) (fun p => cw_so f p 4) R lo) : R_sv f t k (fun p => cw_gv M (16 + p)) (fun p => cw_gv M (24 + p)) M R lo := by
  have pq := bd_7 (bd_pv hs he hk) hlv
  have pq1 : 1 ≤ (t_pq (l_sp f t k) R).2 ∧ 1 ≤ (t_pq (l_sp f t k) R).1 ∧ (t_pq (l_sp f t k) R).1 + (t_pq (l_sp f t k) R).2 ≤ 13254776280841401 := ⟨pq.1.2.1, pq.1.1, pq.1.2.2⟩
  have sv := dl_sv R _ _ _ h.2
  have px := dl_px R _ _ _ h.2
  have bd := sv_bd hs he R 0 1 0 1 1 hk sv (en_1 (Or.inl rfl)) (by rw [Int.one_mul]; exact z_7 hlv) (by omega)
  have i7 := in_7 hk
  have sp := sv_push (f := f) (s := l_sp f t k) (e := l_ep f t k) (D := fun p => cw_gv M (16 + p) - (t_pq (l_sp f t k) R).2 * cw_so f p 4) (F := fun p => cw_gv M (24 + p)) (T := R) (t := t) (k := k) (X := fun p => cw_gv M (16 + p)) (fun p hp => if_pos (hin p hp)) (fun p hp => by
    show (if p < f 0 then _ else _) = (if p < f 0 then _ else _) * _ + _
    rw [if_pos (hin p hp), if_pos (hin p hp)]) (fun p hp => by
    show cw_gv M (16 + p) = cw_gv M (16 + p) - (t_pq (l_sp f t k) R).2 * cw_so f p 4 + (t_pq (l_sp f t k) R).2 * cw_so f p 4
    omega) sv
  have w201 : (t_pq (l_sp f t k) R).2 ≤ (201 : Int) ^ t_lv R := by have := pq_b hs R hk; omega
  refine ⟨(t_pq (l_sp f t k) R).2, ⟨by omega, by omega⟩, ⟨h.1, w201⟩, fun p hp => ?_, ⟨_, sp.1⟩, fun p hp => ?_⟩
  · have x := px p hp
    have b := bd p hp
    have so := so_b hW (i7 p hp).1 (i7 p hp).2
    have m := ab_mb (x := (t_pq (l_sp f t k) R).2) (y := cw_so f p 4) (a := 13254776280841401) (b := 25200) ⟨by omega, by omega⟩ so
    have b1 : -848305681973849664000000 ≤ cw_gv M (16 + p) - (t_pq (l_sp f t k) R).2 * cw_so f p 4 ∧ cw_gv M (16 + p) - (t_pq (l_sp f t k) R).2 * cw_so f p 4 ≤ 848305681973849664000000 := b.1
    have b2 : -849000000000000000000000 ≤ cw_gv M (16 + p) ∧ cw_gv M (16 + p) ≤ 849000000000000000000000 := by omega
    exact ⟨⟨x.1, b2⟩, ⟨x.2.1, b.2⟩, x.2.2⟩
  · have l := sp.2 p hp
    have e : l_sp f t k p = l_s f t p (k p) := if_pos (hin p hp)
    rw [e] at l
    exact l
theorem sv_at {f fl k X F : Int → Int} {n t : Int} {M : cw_M} {R : Tr} {lo : Int} (hW : WF n f fl) (hin : ∀ p, t_in R p → 0 ≤ p ∧ p < f 0) (h : R_sv f t k X F M R lo) (hl : ∀ p, t_in R p → l_hd f p (k p) (M 336 p) (X p)) : R_at f t X F M R lo := by
  obtain ⟨w, hw, h3, hp, ⟨f0, hn⟩, hF⟩ := h
  refine ⟨w, hw, h3, hp, hw.1, ⟨f0, hn⟩, fun p q => ?_⟩
  have l := hl p q
  rw [(hp p q).2.2.1] at l
  rw [hF p q]
  by_cases g : f (10 + 12 * p) = 1
  · unfold c_y l_s
    rw [lo_gap hW (hin p q) g, if_pos g, if_pos g]; omega
  · have g0 := (gap_1 hW (hin p q)).resolve_right g
    exact (in_cy hW (hin p q) (by omega) g0 (l.resolve_left g)).symm
theorem tp_mp {B B' : Tr → Int → Prop} : ∀ (t : Tr) (lo : Int), (∀ (x : Tr) (j : Int), (t_ok t → t_ok x) → (t_1 t → t_1 x) → (∀ p, t_in x p → t_in t p) → t_lv x ≤ t_lv t → B x j → B' x j) → t_tp B t lo → t_tp B' t lo
  | .add a b, lo, h, k => ⟨tp_mp a lo (fun x j o1 o2 i l => h x j (fun z => o1 z.1) (fun z => o2 (fun q => by have := z q; have := ix_nn b q; show t_ix a q ≤ 1; have e : t_ix (.add a b) q = t_ix a q + t_ix b q := rfl; omega)) (fun p hp => Or.inl (i p hp)) (by show t_lv x ≤ t_lv a + t_lv b; omega)) k.1, h b _ (fun z => z.2) (fun z q => by have := z q; have := ix_nn a q; have e : t_ix (.add a b) q = t_ix a q + t_ix b q := rfl; omega) (fun p hp => Or.inr hp) (by show t_lv b ≤ t_lv a + t_lv b; omega) k.2⟩
  | .num p, lo, h, k => h _ lo (fun z => z) (fun z => z) (fun p hp => hp) (Nat.le_refl _) k
  | .neg x, lo, h, k => h _ lo (fun z => z) (fun z => z) (fun p hp => hp) (Nat.le_refl _) k
  | .mul a b, lo, h, k => h _ lo (fun z => z) (fun z => z) (fun p hp => hp) (Nat.le_refl _) k
/-- each piece stands in a road -/
theorem tp_ex {B : Tr → Int → Prop} : ∀ (t : Tr) (lo : Int), t_tp B t lo → ∀ p, t_in t p → ∃ (R : Tr) (j : Int), B R j ∧ t_in R p ∧ ∀ q, t_in R q → t_in t q
  | .add a b, lo, k, p, hp => by
    rcases hp with hp | hp
    · obtain ⟨R, j, h1, h2, h3⟩ := tp_ex a lo k.1 p hp
      exact ⟨R, j, h1, h2, fun q hq => Or.inl (h3 q hq)⟩
    · exact ⟨b, _, k.2, hp, fun q hq => Or.inr hq⟩
  | .num x, lo, k, p, hp => ⟨_, lo, k, hp, fun q hq => hq⟩
  | .neg x, lo, k, p, hp => ⟨_, lo, k, hp, fun q hq => hq⟩
  | .mul a b, lo, k, p, hp => ⟨_, lo, k, hp, fun q hq => hq⟩
/-- the rest of the whole is the rest of each road -/
theorem at_tp {f : Int → Int} {t w : Int} {X F : Int → Int} {B : Tr → Int → Prop} : ∀ (T : Tr) (lo : Int), t_tp B T lo → r_at f t T w X F → t_tp (fun R j => B R j ∧ r_at f t R w X F) T lo
  | .add a b, lo, k, ⟨h1, ⟨f0, fa, fb, e, ha, hb⟩, h3⟩ => ⟨at_tp a lo k.1 ⟨h1, ⟨fa, ha⟩, fun p hp => h3 p (Or.inl hp)⟩, k.2, h1, ⟨fb, hb⟩, fun p hp => h3 p (Or.inr hp)⟩
  | .num p, lo, k, h => ⟨k, h⟩
  | .neg x, lo, k, h => ⟨k, h⟩
  | .mul a b, lo, k, h => ⟨k, h⟩
