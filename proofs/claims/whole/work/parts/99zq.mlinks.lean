/-! the reference: links -/
theorem er_1 : ∀ {B : Tr → Int → Prop} (t : Tr) (lo : Int), t_tp B t lo → 1 ≤ (t_er t).2
  | _, .add a b, lo, k => by have := er_1 a lo k.1; have := (er_nn b).1; show 1 ≤ (t_er a).2 + 1 + (t_er b).1; omega
  | _, .num p, lo, k => by show (1 : Int) ≤ 2; omega
  | _, .neg x, lo, k => by have := (er_nn x).2; show 1 ≤ 2 + (t_er x).2; omega
  | _, .mul a b, lo, k => by have := (er_nn a).1; have := (er_nn b).1; show 1 ≤ 1 + ((t_er a).1 + (t_er b).1); omega
/-- each letter's road, each place's road -/
theorem ex_tr {B : Tr → Int → Prop} : ∀ (t : Tr) (lo : Int), t_1 t → t_tp B t lo → ∃ (ps : Int → Int) (tr : Int → Tr), t_tp (fun R l => B R l ∧ (lo ≤ l ∧ l < lo + (t_er t).2) ∧ tr l = R ∧ ∀ p, t_in R p → ps p = l) t lo
  | .add a b, lo, h1, k => by
    obtain ⟨o1, o2, o3⟩ := one_a (a := a) (b := b) h1
    have na := er_1 a lo k.1
    have nb := (er_nn b).1
    obtain ⟨ps, tr, h⟩ := ex_tr a lo o1 k.1
    refine ⟨fun p => if 0 < t_ix b p then lo + (t_er a).2 else ps p, fun l => if l = lo + (t_er a).2 then b else tr l, tp_mp a lo (fun x j _ _ i _ hB => ⟨hB.1, ?_, ?_, fun p hp => ?_⟩) h, k.2, ?_, if_pos rfl, fun p hp => if_pos ((ix_in b p).mpr hp)⟩
    · show lo ≤ j ∧ j < lo + ((t_er a).2 + 1 + (t_er b).1); have := hB.2.1; omega
    · show (if j = lo + (t_er a).2 then b else tr j) = x
      rw [if_neg (by have := hB.2.1; omega)]; exact hB.2.2.1
    · show (if 0 < t_ix b p then _ else _) = _
      rw [if_neg (fun z => o3 p (i p hp) ((ix_in b p).mp z))]; exact hB.2.2.2 p hp
    · show lo ≤ lo + (t_er a).2 ∧ lo + (t_er a).2 < lo + ((t_er a).2 + 1 + (t_er b).1); omega
  | .num p, lo, h1, k => ⟨fun _ => lo, fun _ => .num p, k, ⟨Int.le_refl _, by show lo < lo + 2; omega⟩, rfl, fun _ _ => rfl⟩
  | .neg x, lo, h1, k => ⟨fun _ => lo, fun _ => .neg x, k, ⟨Int.le_refl _, by have := (er_nn x).2; show lo < lo + (2 + (t_er x).2); omega⟩, rfl, fun _ _ => rfl⟩
  | .mul a b, lo, h1, k => ⟨fun _ => lo, fun _ => .mul a b, k, ⟨Int.le_refl _, by have := (er_nn a).1; have := (er_nn b).1; show lo < lo + (1 + ((t_er a).1 + (t_er b).1)); omega⟩, rfl, fun _ _ => rfl⟩
/-- all that is known of the rest that the reference holds -/
def H_rd (f : Int → Int) (t : Int) (X F : Int → Int) (M0 : cw_M) (T : Tr) (ps : Int → Int) (tr : Int → Tr) (R : Tr) (l : Int) : Prop := R_at f t X F M0 R l ∧ e_rd (M0 327) (M0 328) (M0 329) (1 + (t_er T).2) R l ∧ tr l = R ∧ (∀ p, t_in R p → ps p = l) ∧ t_1 R ∧ (∀ p, t_in R p → t_in T p) ∧ t_lv R ≤ 7
def H_all (f : Int → Int) (t : Int) (X F : Int → Int) (M0 : cw_M) (T : Tr) (ps : Int → Int) (tr : Int → Tr) : Prop := Mt M0 T ∧ m_in T M0 ∧ Tk f T ∧ t_tp (H_rd f t X F M0 T ps tr) T 1
theorem h_all {f X F : Int → Int} {t : Int} {M : cw_M} {T : Tr} (hT : Mt M T) (hi : m_in T M) (hk : Tk f T) (h : t_tp (R_at f t X F M) T 1) : ∃ (ps : Int → Int) (tr : Int → Tr), H_all f t X F M T ps tr := by
  have e := el_tp (N := 1 + (t_er T).2) T 1 hT.2.2.2 (Int.le_refl _) (Int.le_refl _) h
  obtain ⟨ps, tr, k⟩ := ex_tr T 1 hk.1 e
  exact ⟨ps, tr, hT, hi, hk, tp_mp T 1 (fun x j o1 o2 i l hB => ⟨hB.1.1, hB.1.2, hB.2.2.1, hB.2.2.2, o2 hk.1, i, Nat.le_trans l (lv_7 hk.2.2.1)⟩) k⟩
theorem p_Mo_roadOf' {g : cw_G} {M0 M : cw_M} {f X F : Int → Int} {t p : Int} {T : Tr} {ps : Int → Int} {tr : Int → Tr} (hS : Sh M) (h : H_all f t X F M0 T ps tr) (hM : ∀ a : Int, a = 319 ∨ a = 327 ∨ a = 328 ∨ a = 329 → M a = M0 a) (hp : t_in T p) :
    mC g y_Mo_roadOf [.inr (.inr 319), .inl p] M (fun q M' => q = some (.inl (ps p)) ∧ M' = M) := by
  obtain ⟨hT, hi, hk, ht⟩ := h
  obtain ⟨R, l, hR, hpR, _⟩ := tp_ex T 1 ht p hp
  rw [hR.2.2.2.1 p hpR]
  have b := hk.2.2.2 p hp
  refine p_Mo_roadOf (N := 0) (T := T) (R := R) hS (hT.cg hM) hk.2.1 (hM 327 (by omega)) (hM 328 (by omega)) (hM 329 (by omega)) ⟨b.1, b.2.2⟩ hR.2.1 hpR (fun j j0 j1 kj ij => ?_)
  obtain ⟨R', l', h1, h2, h3, h4, h5⟩ := tp_lf (N := 1 + (t_er T).2) T 1 hT.2.2.2 (Int.le_refl _) (Int.le_refl _) ht j j0 j1
  have pR' : t_in R' p := by rw [← ij]; exact h2.2.2.2.2.1.2 j h3 h4 kj
  have el : l' = l := by rw [← h1.2.2.2.1 p pR', hR.2.2.2.1 p hpR]
  subst el
  have eR : R' = R := by rw [← h1.2.2.1, hR.2.2.1]
  subst eR
  exact ⟨h3, h4⟩
/-- in the road at l: told by the place -/
theorem ps_in {f X F : Int → Int} {t : Int} {M0 : cw_M} {T : Tr} {ps : Int → Int} {tr : Int → Tr} {R : Tr} {l : Int} (h : H_all f t X F M0 T ps tr) (hR : H_rd f t X F M0 T ps tr R l) {p : Int} (hp : t_in T p) : ps p = l ↔ t_in R p := by
  refine ⟨fun e => ?_, fun z => hR.2.2.2.1 p z⟩
  obtain ⟨R', l', h1, h2, _⟩ := tp_ex T 1 h.2.2.2 p hp
  have el : l' = l := by rw [← h1.2.2.2.1 p h2, e]
  subst el
  have eR : R' = R := by rw [← h1.2.2.1, hR.2.2.1]
  rw [← eR]; exact h2
/-- the pieces of a road against those of a rest of the whole -/
theorem at_un {f fl X F Xr Fr : Int → Int} {n t w : Int} {T : Tr} {M0 : cw_M} {ps : Int → Int} {tr : Int → Tr} (hW : WF n f fl) (ht : 0 ≤ t ∧ t < 24) (h : H_all f t X F M0 T ps tr) (hr : r_at f t T w Xr Fr) : t_tp (fun R l => H_rd f t X F M0 T ps tr R l ∧ ∃ w', (0 < w' ∧ w' ≤ 13254776280841401 ∧ w' ≤ (201 : Int) ^ t_lv R) ∧ M0 333 l = w' ∧ ∀ p, t_in R p → M0 336 p = w' ∧ w' * Xr p = w * X p ∧ w' * Fr p = w * F p) T 1 := by
  refine tp_mp T 1 (fun x j o1 o2 i l hB => ⟨hB.1, ?_⟩) (at_tp T 1 h.2.2.2 hr)
  obtain ⟨⟨⟨w', hw, ⟨e3, hw2⟩, hp, hat⟩, _⟩, hrx⟩ := hB
  have hxT : ∀ q, t_in x q → 0 ≤ q ∧ q < f 0 := fun q hq => ⟨(h.2.2.1.2.2.2 q (i q hq)).1, (h.2.2.1.2.2.2 q (i q hq)).2.1⟩
  have un := r_un hW ht hxT hrx hat
  exact ⟨w', ⟨hw.1, hw.2, hw2⟩, e3, fun p q => ⟨(hp p q).2.2.1, (un p q).1, (un p q).2⟩⟩
