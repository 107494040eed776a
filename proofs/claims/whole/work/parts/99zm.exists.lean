/-! there is a rest; the count of the parts -/
theorem sv_cg {s e D F D' F' : Int → Int} : ∀ (t : Tr) (al be ga : Int), (∀ p, t_in t p → D' p = D p ∧ F' p = F p) → t_sv s e D F t al be ga → t_sv s e D' F' t al be ga
  | .num p, al, be, ga, h, ⟨a, b⟩ => ⟨(h p rfl).1.trans a, (h p rfl).2.trans b⟩
  | .neg x, al, be, ga, h, k => sv_cg x al be ga h k
  | .add a b, al, be, ga, h, k => ⟨sv_cg a _ _ _ (fun p hp => h p (Or.inl hp)) k.1, sv_cg b _ _ _ (fun p hp => h p (Or.inr hp)) k.2⟩
  | .mul a b, al, be, ga, h, k => ⟨sv_cg a _ _ _ (fun p hp => h p (Or.inl hp)) k.1, sv_cg b _ _ _ (fun p hp => h p (Or.inr hp)) k.2⟩
theorem ex_two {a b : Tr} (h : ∀ p, t_in a p → ¬ t_in b p) (Da Fa Db Fb : Int → Int) : ∃ D F : Int → Int, (∀ p, t_in a p → D p = Da p ∧ F p = Fa p) ∧ ∀ p, t_in b p → D p = Db p ∧ F p = Fb p := by
  refine ⟨fun p => if 0 < t_ix a p then Da p else Db p, fun p => if 0 < t_ix a p then Fa p else Fb p, fun p hp => ?_, fun p hp => ?_⟩
  · have := (ix_in a p).mpr hp
    exact ⟨if_pos this, if_pos this⟩
  · have : ¬ 0 < t_ix a p := fun z => h p ((ix_in a p).mp z) hp
    exact ⟨if_neg this, if_neg this⟩
theorem ex_sv {s e : Int → Int} : ∀ (t : Tr) (al be ga : Int), t_ok t → t_1 t → ∃ D F : Int → Int, t_sv s e D F t al be ga
  | .num p, al, be, ga, _, _ => ⟨fun _ => ga - al * e p, fun _ => s p * ga + be * e p, rfl, rfl⟩
  | .neg x, al, be, ga, hk, h1 => ex_sv x al be ga hk h1
  | .add a b, al, be, ga, hk, h1 => by
    obtain ⟨o1, o2, o3⟩ := one_a (a := a) (b := b) h1
    obtain ⟨Da, Fa, ha⟩ := ex_sv (s := s) (e := e) a (al * (t_pq s b).2) (be * (t_pq s b).2 + al * (t_pq s b).1) (ga * (t_pq s b).2 - al * t_r s e b) hk.1 o1
    obtain ⟨Db, Fb, hb⟩ := ex_sv (s := s) (e := e) b (al * (t_pq s a).2) (be * (t_pq s a).2 + al * (t_pq s a).1) (ga * (t_pq s a).2 - al * t_r s e a) hk.2 o2
    obtain ⟨D, F, h, k⟩ := ex_two o3 Da Fa Db Fb
    exact ⟨D, F, sv_cg a _ _ _ h ha, sv_cg b _ _ _ k hb⟩
  | .mul a b, al, be, ga, hk, h1 => by
    obtain ⟨o1, o2, o3⟩ := one_a (a := a) (b := b) h1
    obtain ⟨Da, Fa, ha⟩ := ex_sv (s := s) (e := e) a (al * (t_pq s b).1 + be * (t_pq s b).2) (be * (t_pq s b).1) (ga * (t_pq s b).1 + be * t_r s e b) hk.1 o1
    obtain ⟨Db, Fb, hb⟩ := ex_sv (s := s) (e := e) b (al * (t_pq s a).1 + be * (t_pq s a).2) (be * (t_pq s a).1) (ga * (t_pq s a).1 + be * t_r s e a) hk.2 o2
    obtain ⟨D, F, h, k⟩ := ex_two o3 Da Fa Db Fb
    exact ⟨D, F, sv_cg a _ _ _ h ha, sv_cg b _ _ _ k hb⟩
/-- of those that are beyond, one leaves first -/
theorem ex_bst {E D : Int → Int} : ∀ n : Nat, (∀ p : Int, 0 ≤ p → p < n → 0 < E p → 0 < D p) → (∀ p : Int, 0 ≤ p → p < n → E p ≤ 0) ∨ ∃ b : Int, (0 ≤ b ∧ b < n) ∧ 0 < E b ∧ ∀ p : Int, 0 ≤ p → p < n → 0 < E p → E p * D b ≤ E b * D p
  | 0, _ => Or.inl (fun p p0 p1 => by omega)
  | n + 1, h => by
    by_cases c : E n ≤ 0
    · rcases ex_bst n (fun p a b k => h p a (by omega) k) with ih | ⟨b, hb, hE, hm⟩
      · refine Or.inl (fun p p0 p1 => ?_)
        by_cases q : p = n
        · rw [q]; exact c
        · exact ih p p0 (by omega)
      · refine Or.inr ⟨b, by omega, hE, fun p p0 p1 k => ?_⟩
        by_cases q : p = n
        · rw [q] at k; omega
        · exact hm p p0 (by omega) k
    · have dn := h n (by omega) (by omega) (by omega)
      rcases ex_bst n (fun p a b k => h p a (by omega) k) with ih | ⟨b, hb, hE, hm⟩
      · refine Or.inr ⟨n, by omega, by omega, fun p p0 p1 k => ?_⟩
        by_cases q : p = n
        · rw [q]; omega
        · have := ih p p0 (by omega); omega
      · have db := h b hb.1 (by omega) hE
        by_cases d : E n * D b ≤ E b * D n
        · refine Or.inr ⟨b, by omega, hE, fun p p0 p1 k => ?_⟩
          by_cases q : p = n
          · rw [q]; exact d
          · exact hm p p0 (by omega) k
        · refine Or.inr ⟨n, by omega, by omega, fun p p0 p1 k => ?_⟩
          by_cases q : p = n
          · rw [q]; omega
          · exact lf_tr db (h p p0 (by omega) k) dn (hm p p0 (by omega) k) (by omega)
/-- THERE IS A REST -/
theorem ex_rest {f fl : Int → Int} {n t : Int} {T : Tr} (hW : WF n f fl) (ht : 0 ≤ t ∧ t < 24) (hT : Tk f T) : ∃ (k : Int → Int) (w : Int) (X F : Int → Int), (∀ p : Int, 0 ≤ p → p < 7 → -2 ≤ k p ∧ k p ≤ 2) ∧ r_at f t T w X F ∧ (∀ p, t_in T p → F p = l_s f t p (k p) * X p + l_o f p (k p) * w) ∧ ∀ p, t_in T p → f (10 + 12 * p) = 0 → l_in f p (k p) w (X p) := by
  obtain ⟨h1, hok, h13, hin⟩ := hT
  have w0 := hW.1.1
  have hTf : ∀ q, t_in T q → 0 ≤ q ∧ q < f 0 := fun q hq => ⟨(hin q hq).1, (hin q hq).2.1⟩
  have main : ∀ (d : Nat) (k : Int → Int), s_7 k + d = 14 → (∀ p : Int, 0 ≤ p → p < 7 → -2 ≤ k p ∧ k p ≤ 2) → (∀ p : Int, 0 ≤ p → p < f 0 → f (10 + 12 * p) = 1 → k p = 0) → l_sf f t T k → ∃ (k : Int → Int) (w : Int) (X F : Int → Int), (∀ p : Int, 0 ≤ p → p < 7 → -2 ≤ k p ∧ k p ≤ 2) ∧ r_at f t T w X F ∧ (∀ p, t_in T p → F p = l_s f t p (k p) * X p + l_o f p (k p) * w) ∧ ∀ p, t_in T p → f (10 + 12 * p) = 0 → l_in f p (k p) w (X p) := by
    intro d
    induction d with
    | zero =>
      intro k hs hk hg hc
      have hsp := sp_ok hW ht hk
      have pq := pq_b hsp T hok
      obtain ⟨D, F, sv⟩ := ex_sv (s := l_sp f t k) (e := l_ep f t k) T 0 1 0 hok h1
      have es : ∀ p, t_in T p → l_sp f t k p = l_s f t p (k p) := fun p hp => if_pos (hTf p hp).2
      obtain ⟨hX, hF⟩ := sv_push (f := f) (s := l_sp f t k) (e := l_ep f t k) (t := t) (k := k) (X := fun p => D p + (t_pq (l_sp f t k) T).2 * cw_so f p 4) es (fun p hp => by
        show (if p < f 0 then _ else _) = _
        rw [if_pos (hTf p hp).2, es p hp]) (fun p hp => rfl) sv
      have k2 : ∀ p : Int, 0 ≤ p → p < 7 → k p = 2 := fun p p0 p1 => by
        have b : ∀ q : Int, 0 ≤ q → q < 7 → k q ≤ 2 := fun q q0 q1 => (hk q q0 q1).2
        unfold s_7 at hs
        have b0 := b 0 (by omega) (by omega); have b1 := b 1 (by omega) (by omega); have b2 := b 2 (by omega) (by omega); have b3 := b 3 (by omega) (by omega); have b4 := b 4 (by omega) (by omega); have b5 := b 5 (by omega) (by omega); have b6 := b 6 (by omega) (by omega)
        rcases (show p = 0 ∨ p = 1 ∨ p = 2 ∨ p = 3 ∨ p = 4 ∨ p = 5 ∨ p = 6 by omega) with rfl | rfl | rfl | rfl | rfl | rfl | rfl <;> omega
      have dn := su_done hsp hok (show 0 < (t_pq (l_sp f t k) T).2 by omega) es hX hF hc (fun p hp _ => Or.inl (k2 p (hin p hp).1 (hin p hp).2.2))
      have hF' : ∀ p, t_in T p → F p = l_s f t p (k p) * (D p + (t_pq (l_sp f t k) T).2 * cw_so f p 4) + l_o f p (k p) * (t_pq (l_sp f t k) T).2 := fun p hp => by rw [← es p hp]; exact hF p hp
      exact ⟨k, _, _, F, hk, in_rat hW hTf (show 0 < (t_pq (l_sp f t k) T).2 by omega) hX hF' (fun p hp => hg p (hTf p hp).1 (hTf p hp).2) dn, hF', dn⟩
    | succ d ih =>
      intro k hs hk hg hc
      have hsp := sp_ok hW ht hk
      have pq := pq_b hsp T hok
      obtain ⟨D, F, sv⟩ := ex_sv (s := l_sp f t k) (e := l_ep f t k) T 0 1 0 hok h1
      have es : ∀ p, t_in T p → l_sp f t k p = l_s f t p (k p) := fun p hp => if_pos (hTf p hp).2
      obtain ⟨hX, hF⟩ := sv_push (f := f) (s := l_sp f t k) (e := l_ep f t k) (t := t) (k := k) (X := fun p => D p + (t_pq (l_sp f t k) T).2 * cw_so f p 4) es (fun p hp => by
        show (if p < f 0 then _ else _) = _
        rw [if_pos (hTf p hp).2, es p hp]) (fun p hp => rfl) sv
      obtain ⟨X, hXe⟩ : ∃ X : Int → Int, X = fun p => D p + (t_pq (l_sp f t k) T).2 * cw_so f p 4 := ⟨_, rfl⟩
      obtain ⟨w, hwe⟩ : ∃ w, w = (t_pq (l_sp f t k) T).2 := ⟨_, rfl⟩
      have w1 : 0 < w := by omega
      have hX' : t_nt (fun p => X p - cw_so f p 4 * w) F T 0 (t_r (l_sp f t k) (l_ep f t k) T) := by rw [hXe, hwe]; exact hX
      have hF' : ∀ p, t_in T p → F p = l_sp f t k p * X p + l_o f p (k p) * w := fun p hp => by rw [hXe, hwe]; exact hF p hp
      obtain ⟨Dd, Gd', sv2⟩ := ex_sv (s := l_sp f t k) (e := fun _ => 0) T 0 1 1 hok h1
      have ps := sv_pos hsp (fun _ => rfl) T 0 1 1 hok sv2 (Int.le_refl 1)
      have nt2 := sv_nt T _ _ _ sv2
      have e1 : (t_pq (l_sp f t k) T).2 * 1 - 0 * t_r (l_sp f t k) (fun _ => 0) T = w := by rw [hwe]; omega
      rw [e1] at nt2
      rcases ex_bst (E := fun p => if 0 < t_ix T p ∧ f (10 + 12 * p) = 0 ∧ k p ≠ 2 then X p - w * l_up f p (k p) else 0) (D := Dd) 7 (fun p p0 p1 q => by
        by_cases c : 0 < t_ix T p ∧ f (10 + 12 * p) = 0 ∧ k p ≠ 2
        · have := ps p ((ix_in T p).mp c.1); omega
        · simp only [if_neg c] at q; omega) with z | ⟨b, hb, hE, hm⟩
      · have dn := su_done hsp hok w1 es hX' hF' hc (fun p hp hgp => by
          by_cases c : k p = 2
          · exact Or.inl c
          · refine Or.inr ?_
            have := z p (hin p hp).1 (hin p hp).2.2
            simp only [if_pos (show 0 < t_ix T p ∧ f (10 + 12 * p) = 0 ∧ k p ≠ 2 from ⟨(ix_in T p).mpr hp, hgp, c⟩)] at this
            omega)
        have hF2 : ∀ p, t_in T p → F p = l_s f t p (k p) * X p + l_o f p (k p) * w := fun p hp => by rw [← es p hp]; exact hF' p hp
        exact ⟨k, w, X, F, hk, in_rat hW hTf w1 hX' hF2 (fun p hp => hg p (hTf p hp).1 (hTf p hp).2) dn, hF2, dn⟩
      · have cb : 0 < t_ix T b ∧ f (10 + 12 * b) = 0 ∧ k b ≠ 2 := Decidable.byContradiction (fun c => by simp only [if_neg c] at hE; omega)
        simp only [if_pos cb] at hE hm
        have bT := (ix_in T b).mp cb.1
        have kb := hk b hb.1 (by omega)
        have kn : ∀ p : Int, p ≠ b → (fun p => if p = b then k b + 1 else k p) p = k p := fun p c => if_neg c
        have cu := su_step (k' := fun p => if p = b then k b + 1 else k p) hW hTf hsp hok w1 es hX' hF' hc nt2 (fun p hp => by
          rw [sv_leaf T _ _ _ sv2 p hp]; omega) ps bT cb.2.1 ⟨kb.1, by omega⟩ hE (fun p hp hgp => by
          by_cases c : k p = 2
          · exact Or.inl c
          · refine Or.inr ?_
            have cp : 0 < t_ix T p ∧ f (10 + 12 * p) = 0 ∧ k p ≠ 2 := ⟨(ix_in T p).mpr hp, hgp, c⟩
            by_cases q2 : 0 < X p - w * l_up f p (k p)
            · have := hm p (hin p hp).1 (hin p hp).2.2 (by rw [if_pos cp]; exact q2)
              rw [if_pos cp] at this
              exact Or.inr this
            · exact Or.inl (by omega)) ⟨if_pos rfl, kn⟩
        refine ih (fun p => if p = b then k b + 1 else k p) ?_ (fun p p0 p1 => ?_) (fun p p0 p1 hgp => ?_) (Or.inr cu)
        · have := s7_up (k := k) (k' := fun p => if p = b then k b + 1 else k p) ⟨hb.1, by omega⟩ ⟨if_pos rfl, kn⟩
          omega
        · show -2 ≤ (if p = b then k b + 1 else k p) ∧ (if p = b then k b + 1 else k p) ≤ 2
          split
          · omega
          · exact hk p p0 p1
        · show (if p = b then k b + 1 else k p) = 0
          split
          · rename_i c; rw [c] at hgp; omega
          · exact hg p p0 p1 hgp
  have k0b : ∀ p : Int, -2 ≤ (if p < f 0 ∧ f (10 + 12 * p) = 0 then (-2 : Int) else 0) ∧ (if p < f 0 ∧ f (10 + 12 * p) = 0 then (-2 : Int) else 0) ≤ 2 := fun p => by split <;> omega
  have sb := s7_b (k := fun p => if p < f 0 ∧ f (10 + 12 * p) = 0 then -2 else 0) (fun p _ _ => k0b p)
  refine main (14 - s_7 (fun p => if p < f 0 ∧ f (10 + 12 * p) = 0 then -2 else 0)).toNat (fun p => if p < f 0 ∧ f (10 + 12 * p) = 0 then -2 else 0) (by omega) (fun p _ _ => k0b p) (fun p p0 p1 hg => if_neg (fun z => by have := z.2; omega)) (Or.inl (fun p hp hg => if_pos ⟨(hTf p hp).2, hg⟩))
/-- the parts as a number: each iron of the path a digit to the base 5 -/
def o_A (f : Int → Int) (T : Tr) (i : Int) : Prop := 0 < t_ix T i ∧ f (10 + 12 * i) = 0
def o_W (f : Int → Int) (T : Tr) : Nat → Int := fun n => match n with
  | 0 => 1
  | n + 1 => o_W f T n * (if 0 < t_ix T n ∧ f (10 + 12 * (n : Int)) = 0 then 5 else 1)
def o_V (f : Int → Int) (T : Tr) (k : Int → Int) : Nat → Int := fun n => match n with
  | 0 => 0
  | n + 1 => o_V f T k n + (if 0 < t_ix T n ∧ f (10 + 12 * (n : Int)) = 0 then (k n + 2) * o_W f T n else 0)
theorem oW_p {f : Int → Int} {T : Tr} : ∀ n, 0 < o_W f T n
  | 0 => by show (0 : Int) < 1; omega
  | n + 1 => by
    have := oW_p (f := f) (T := T) n
    show 0 < o_W f T n * _
    split <;> omega
theorem oV_b {f : Int → Int} {T : Tr} {k : Int → Int} : ∀ n : Nat, (∀ i : Int, 0 ≤ i → i < n → -2 ≤ k i ∧ k i ≤ 2) → 0 ≤ o_V f T k n ∧ o_V f T k n < o_W f T n
  | 0, _ => by show (0 : Int) ≤ 0 ∧ (0 : Int) < 1; omega
  | n + 1, h => by
    have ih := oV_b (f := f) (T := T) n (fun i a b => h i a (by omega))
    have p := oW_p (f := f) (T := T) n
    have b := h n (by omega) (by omega)
    show 0 ≤ o_V f T k n + _ ∧ o_V f T k n + _ < o_W f T n * _
    split
    · have a1 := Int.mul_nonneg (show 0 ≤ k n + 2 by omega) (Int.le_of_lt p)
      have a2 := Int.mul_le_mul_of_nonneg_right (show k n + 2 ≤ 4 by omega) (Int.le_of_lt p)
      omega
    · omega
theorem oV_inj {f : Int → Int} {T : Tr} {k k' : Int → Int} : ∀ n : Nat, (∀ i : Int, 0 ≤ i → i < n → (-2 ≤ k i ∧ k i ≤ 2) ∧ (-2 ≤ k' i ∧ k' i ≤ 2)) → o_V f T k n = o_V f T k' n → ∀ i : Int, 0 ≤ i → i < n → o_A f T i → k i = k' i
  | 0, _, _, i, i0, i1, _ => by omega
  | n + 1, h, e, i, i0, i1, hA => by
    have b1 := oV_b (f := f) (T := T) n (k := k) (fun i a b => (h i a (by omega)).1)
    have b2 := oV_b (f := f) (T := T) n (k := k') (fun i a b => (h i a (by omega)).2)
    have p := oW_p (f := f) (T := T) n
    have e : o_V f T k n + (if 0 < t_ix T n ∧ f (10 + 12 * (n : Int)) = 0 then (k n + 2) * o_W f T n else 0) = o_V f T k' n + (if 0 < t_ix T n ∧ f (10 + 12 * (n : Int)) = 0 then (k' n + 2) * o_W f T n else 0) := e
    have two : o_V f T k n = o_V f T k' n ∧ (o_A f T n → k n = k' n) := by
      by_cases c : 0 < t_ix T n ∧ f (10 + 12 * (n : Int)) = 0
      · rw [if_pos c, if_pos c] at e
        have q : k n = k' n := by
          rcases Int.lt_trichotomy (k n) (k' n) with q | q | q
          · have := Int.mul_le_mul_of_nonneg_right (show k n + 2 + 1 ≤ k' n + 2 by omega) (Int.le_of_lt p)
            rw [Int.add_mul, Int.one_mul] at this
            omega
          · exact q
          · have := Int.mul_le_mul_of_nonneg_right (show k' n + 2 + 1 ≤ k n + 2 by omega) (Int.le_of_lt p)
            rw [Int.add_mul, Int.one_mul] at this
            omega
        rw [q] at e
        exact ⟨by omega, fun _ => q⟩
      · rw [if_neg c, if_neg c] at e
        exact ⟨by omega, fun z => absurd z c⟩
    by_cases q : i = n
    · rw [q] at hA ⊢; exact two.2 hA
    · exact oV_inj n (fun i a b => h i a (by omega)) two.1 i i0 (by omega) hA
/-- all below at their highest; the next raised, those at their lowest: one more -/
theorem oV_up {f : Int → Int} {T : Tr} {k k' : Int → Int} {j : Int} (hj : 0 ≤ j) (hA : o_A f T j) (h1 : k' j = k j + 1) (h2 : ∀ i : Int, 0 ≤ i → i < j → o_A f T i → k i = 2 ∧ k' i = -2) (h3 : ∀ i : Int, i ≠ j → ¬ (0 ≤ i ∧ i < j ∧ o_A f T i) → k' i = k i) : ∀ n : Nat, o_V f T k' n = o_V f T k n + (if j < n then 1 else 1 - o_W f T n)
  | 0 => by rw [if_neg (by omega)]; rfl
  | n + 1 => by
    have ih := oV_up hj hA h1 h2 h3 n
    show o_V f T k' n + _ = o_V f T k n + _ + (if j < ((n + 1 : Nat) : Int) then 1 else 1 - o_W f T n * (if 0 < t_ix T n ∧ f (10 + 12 * (n : Int)) = 0 then 5 else 1))
    rw [ih]
    rcases Int.lt_trichotomy (n : Int) j with q | q | q
    · rw [if_neg (show ¬ j < (n : Int) by omega), if_neg (show ¬ j < ((n + 1 : Nat) : Int) by omega)]
      by_cases c : 0 < t_ix T n ∧ f (10 + 12 * (n : Int)) = 0
      · have := h2 n (by omega) q c
        simp only [if_pos c]
        rw [this.1, this.2]
        omega
      · simp only [if_neg c]; omega
    · have c : 0 < t_ix T n ∧ f (10 + 12 * (n : Int)) = 0 := by rw [q]; exact hA
      rw [if_neg (show ¬ j < (n : Int) by omega), if_pos (show j < ((n + 1 : Nat) : Int) by omega)]
      simp only [if_pos c]
      rw [q, h1, show k j + 1 + 2 = (k j + 2) + 1 by omega, Int.add_mul (k j + 2) 1]
      omega
    · rw [if_pos q, if_pos (show j < ((n + 1 : Nat) : Int) by omega)]
      have := h3 n (by omega) (fun z => by omega)
      rw [this]
      omega
theorem oV_max {f : Int → Int} {T : Tr} {k : Int → Int} : ∀ n : Nat, (∀ i : Int, 0 ≤ i → i < n → o_A f T i → k i = 2) → o_V f T k n = o_W f T n - 1
  | 0, _ => rfl
  | n + 1, h => by
    show o_V f T k n + _ = o_W f T n * _ - 1
    rw [oV_max n (fun i a b c => h i a (by omega) c)]
    split
    · rename_i c; rw [h n (by omega) (by omega) c]; omega
    · omega
