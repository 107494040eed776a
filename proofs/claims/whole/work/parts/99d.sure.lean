/-! the sure way: nets of straight pieces -/
theorem zero_e {s : Int → Int} : ∀ t : Tr, t_r s (fun _ => 0) t = 0 := fun t => r_zero (fun _ => rfl) t
/-- straight pieces through nothing: flow and drop are of one sign -/
theorem lin_s {s D F : Int → Int} (hs : s_ok s) {t : Tr} {d f : Int} (hk : t_ok t) (hl : ∀ p, t_in t p → F p = s p * D p) (h : t_nt D F t d f) : 0 ≤ d ↔ 0 ≤ f := by
  have r := nt_rel (s := s) (e := fun _ => 0) (w := 0) t d f (fun p hp => by rw [hl p hp]; omega) h
  rw [zero_e, Int.zero_mul, Int.add_zero] at r
  have b := pq_b hs t hk
  constructor
  · intro h0
    have := Int.mul_nonneg (show 0 ≤ (t_pq s t).1 by omega) h0
    by_cases q : 0 ≤ f
    · exact q
    · have := Int.mul_pos (show 0 < (t_pq s t).2 by omega) (show 0 < -f by omega)
      rw [Int.mul_neg] at this; omega
  · intro h0
    have := Int.mul_nonneg (show 0 ≤ (t_pq s t).2 by omega) h0
    by_cases q : 0 ≤ d
    · exact q
    · have := Int.mul_pos (show 0 < (t_pq s t).1 by omega) (show 0 < -d by omega)
      rw [Int.mul_neg] at this; omega
theorem lin_nn {s D F : Int → Int} (hs : s_ok s) : ∀ (t : Tr) (d f : Int), t_ok t → (∀ p, t_in t p → F p = s p * D p) → t_nt D F t d f → 0 ≤ d → ∀ p, t_in t p → 0 ≤ D p
  | .num p, d, f, hk, hl, ⟨h1, h2⟩, h0, q, hq => by
    have hq : q = p := hq
    subst hq; omega
  | .neg x, d, f, hk, hl, h, h0, q, hq => lin_nn hs x d f hk hl h h0 q hq
  | .add a b, d, f, hk, hl, ⟨fa, fb, h1, h2, h3⟩, h0, q, hq => by
    rcases hq with hq | hq
    · exact lin_nn hs a _ _ hk.1 (fun p hp => hl p (Or.inl hp)) h2 h0 q hq
    · exact lin_nn hs b _ _ hk.2 (fun p hp => hl p (Or.inr hp)) h3 h0 q hq
  | .mul a b, d, f, hk, hl, h, h0, q, hq => by
    have f0 := (lin_s hs hk hl h).mp h0
    obtain ⟨da, db, h1, h2, h3⟩ := h
    rcases hq with hq | hq
    · exact lin_nn hs a _ _ hk.1 (fun p hp => hl p (Or.inl hp)) h2 ((lin_s hs hk.1 (fun p hp => hl p (Or.inl hp)) h2).mpr f0) q hq
    · exact lin_nn hs b _ _ hk.2 (fun p hp => hl p (Or.inr hp)) h3 ((lin_s hs hk.2 (fun p hp => hl p (Or.inr hp)) h3).mpr f0) q hq
/-- straight pieces: a whole that drops no less, pieces that drop no less -/
theorem ln_mo {s D F D' F' : Int → Int} {t : Tr} {d f d' f' : Int} (hs : s_ok s) (hk : t_ok t) (h : t_nt D F t d f) (h' : t_nt D' F' t d' f') (hl : ∀ p, t_in t p → F p - F' p = s p * (D p - D' p)) (hd : d' ≤ d) : ∀ p, t_in t p → D' p ≤ D p := fun p hp => by
  have := lin_nn hs t _ _ hk hl (nt_d t _ _ _ _ h h') (by omega) p hp
  omega
/-- .. and there is just one of a drop -/
theorem ln_un {s D F D' F' : Int → Int} {t : Tr} {d f f' : Int} (hs : s_ok s) (hk : t_ok t) (h : t_nt D F t d f) (h' : t_nt D' F' t d f') (hl : ∀ p, t_in t p → F p - F' p = s p * (D p - D' p)) : ∀ p, t_in t p → D p = D' p := fun p hp => by
  have a := ln_mo hs hk h h' hl (Int.le_refl _) p hp
  have b := ln_mo hs hk h' h (fun q hq => by have := hl q hq; grind) (Int.le_refl _) p hp
  omega
/-- some net with all irons within their parts, the whole of which drops nothing or less -/
def l_cu (f : Int → Int) (t : Int) (T : Tr) (k : Int → Int) : Prop := ∃ (W d f0 : Int) (Y F : Int → Int), 0 < W ∧ 0 ≤ d ∧ t_nt (fun p => Y p - cw_so f p 4 * W) F T (-d) f0 ∧ ∀ p, t_in T p → F p = l_s f t p (k p) * Y p + l_o f p (k p) * W ∧ (f (10 + 12 * p) = 0 → l_in f p (k p) W (Y p))
/-- the lower end of a part -/
theorem in_lo {f : Int → Int} {p k w x y m n : Int} (hm : 0 < m) (hn : 0 < n) (h : l_in f p k n y) (hy : w * y ≤ n * x) (hw : 0 < w) (hu : k = 2 ∨ x ≤ w * l_up f p k) : l_in f p k w x := by
  have cmp : ∀ c : Int, c * n ≤ y → c * w ≤ x := fun c hc => by
    have a1 := Int.mul_le_mul_of_nonneg_left hc (Int.le_of_lt hw)
    have e1 : w * (c * n) = n * (c * w) := by grind
    exact Int.le_of_mul_le_mul_left (a := n) (by omega) hn
  unfold l_in at h ⊢
  unfold l_up at hu
  have c1 := cmp (f (14 + 12 * p))
  have c2 := cmp (f (12 + 12 * p))
  have c3 := cmp (-(f (14 + 12 * p)))
  have c4 := cmp (-(f (12 + 12 * p)))
  rw [Int.neg_mul, Int.neg_mul] at c3 c4
  rcases h with ⟨rfl, h⟩ | ⟨rfl, h, h'⟩ | ⟨rfl, h, h'⟩ | ⟨rfl, h, h'⟩ | ⟨rfl, h⟩
  · exact Or.inl ⟨rfl, c1 h⟩
  · rw [if_neg (by omega), if_neg (by omega), Int.one_mul, Int.mul_comm w] at hu
    exact Or.inr (Or.inl ⟨rfl, c2 h, by omega⟩)
  · rw [if_neg (by omega), if_pos (by omega), Int.one_mul, Int.mul_comm w] at hu
    exact Or.inr (Or.inr (Or.inl ⟨rfl, c4 h, by omega⟩))
  · rw [if_pos (by omega), if_pos (by omega), Int.mul_comm w, Int.mul_assoc, Int.neg_mul, Int.one_mul] at hu
    exact Or.inr (Or.inr (Or.inr (Or.inl ⟨rfl, c3 h, by omega⟩)))
  · rw [if_pos (by omega), if_neg (by omega), Int.mul_comm w, Int.mul_assoc, Int.neg_mul, Int.one_mul] at hu
    exact Or.inr (Or.inr (Or.inr (Or.inr ⟨rfl, by omega⟩)))
