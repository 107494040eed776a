/-! the sure way: its end and its step -/
theorem up_in {f fl : Int → Int} {n p k w x : Int} (hW : WF n f fl) (hp : 0 ≤ p ∧ p < f 0) (hw : 0 ≤ w) (hg : f (10 + 12 * p) = 0) (hk : -2 ≤ k ∧ k ≤ 1) (h : x = w * l_up f p k) : l_in f p (k + 1) w x := by
  have g : cw_ir f p := (hW.2.1 p hp.1 hp.2).resolve_left (fun z => by have := z.1; omega)
  unfold cw_ir at g
  have b1 := Int.mul_nonneg (show 0 ≤ f (12 + 12 * p) by omega) hw
  have b2 := Int.mul_le_mul_of_nonneg_right (show f (12 + 12 * p) ≤ f (14 + 12 * p) by omega) hw
  unfold l_up at h
  unfold l_in
  rcases (show k = -2 ∨ k = -1 ∨ k = 0 ∨ k = 1 by omega) with rfl | rfl | rfl | rfl
  · rw [if_pos (by omega), if_neg (by omega), Int.mul_comm w, Int.mul_assoc, Int.neg_mul, Int.one_mul] at h
    omega
  · rw [if_pos (by omega), if_pos (by omega), Int.mul_comm w, Int.mul_assoc, Int.neg_mul, Int.one_mul] at h
    omega
  · rw [if_neg (by omega), if_pos (by omega), Int.one_mul, Int.mul_comm w] at h
    omega
  · rw [if_neg (by omega), if_neg (by omega), Int.one_mul, Int.mul_comm w] at h
    omega
/-- the lowest parts have no lower end -/
theorem low_in {f : Int → Int} {p w x : Int} (h : x ≤ w * l_up f p (-2)) : l_in f p (-2) w x := by
  unfold l_up at h
  rw [if_pos (by omega), if_neg (by omega), Int.mul_comm w, Int.mul_assoc, Int.neg_mul, Int.one_mul] at h
  exact Or.inr (Or.inr (Or.inr (Or.inr ⟨rfl, h⟩)))
def l_sf (f : Int → Int) (t : Int) (T : Tr) (k : Int → Int) : Prop := (∀ p, t_in T p → f (10 + 12 * p) = 0 → k p = -2) ∨ l_cu f t T k
theorem su_done {f s k X FX : Int → Int} {t w fx : Int} {T : Tr} (hs : s_ok s) (hk : t_ok T) (hw : 0 < w) (hsl : ∀ p, t_in T p → s p = l_s f t p (k p)) (hX : t_nt (fun p => X p - cw_so f p 4 * w) FX T 0 fx) (hF : ∀ p, t_in T p → FX p = s p * X p + l_o f p (k p) * w) (hc : l_sf f t T k)
    (hu : ∀ p, t_in T p → f (10 + 12 * p) = 0 → k p = 2 ∨ X p ≤ w * l_up f p (k p)) : ∀ p, t_in T p → f (10 + 12 * p) = 0 → l_in f p (k p) w (X p) := by
  intro p hp hg
  rcases hc with hc | ⟨W, d, f0, Y, F, hW0, hd, hY, hl⟩
  · have := hc p hp hg
    have u := hu p hp hg
    rw [this] at u ⊢
    exact low_in (u.resolve_left (by omega))
  · have a1 := nt_k (k := W) T _ _ hX
    have a2 := nt_k (k := w) T _ _ hY
    have m := ln_mo hs hk a1 a2 (fun q hq => by
      show W * FX q - w * F q = s q * (W * (X q - cw_so f q 4 * w) - w * (Y q - cw_so f q 4 * W))
      rw [hF q hq, (hl q hq).1, ← hsl q hq]; grind) (by
      have := Int.mul_nonneg (Int.le_of_lt hw) hd
      rw [Int.mul_neg, Int.mul_zero]; omega) p hp
    have m' : w * (Y p - cw_so f p 4 * W) ≤ W * (X p - cw_so f p 4 * w) := m
    have e1 : w * (Y p - cw_so f p 4 * W) = w * Y p - w * (cw_so f p 4 * W) := by grind
    have e2 : W * (X p - cw_so f p 4 * w) = W * X p - w * (cw_so f p 4 * W) := by grind
    exact in_lo (m := 1) (by omega) hW0 ((hl p hp).2 hg) (by omega) hw (hu p hp hg)
theorem su_step {f fl s k k' X FX D G : Int → Int} {n t w fx gx b : Int} {T : Tr} (hWF : WF n f fl) (hT : ∀ q, t_in T q → 0 ≤ q ∧ q < f 0) (hs : s_ok s) (hk : t_ok T) (hw : 0 < w) (hsl : ∀ p, t_in T p → s p = l_s f t p (k p)) (hX : t_nt (fun p => X p - cw_so f p 4 * w) FX T 0 fx) (hF : ∀ p, t_in T p → FX p = s p * X p + l_o f p (k p) * w) (hc : l_sf f t T k)
    (hD : t_nt D G T w gx) (hG : ∀ p, t_in T p → G p = s p * D p) (hD1 : ∀ p, t_in T p → 1 ≤ D p) (hb : t_in T b) (hbg : f (10 + 12 * b) = 0) (hkb : -2 ≤ k b ∧ k b ≤ 1) (hE : 0 < X b - w * l_up f b (k b))
    (hm : ∀ p, t_in T p → f (10 + 12 * p) = 0 → k p = 2 ∨ X p ≤ w * l_up f p (k p) ∨ (X p - w * l_up f p (k p)) * D b ≤ (X b - w * l_up f b (k b)) * D p)
    (hk' : k' b = k b + 1 ∧ ∀ p, p ≠ b → k' p = k p) : l_cu f t T k' := by
  have db := hD1 b hb
  have w1 : 0 < D b * w := Int.mul_pos (by omega) hw
  have old : ∀ p, t_in T p → f (10 + 12 * p) = 0 → l_in f p (k p) (D b * w) (D b * X p - (X b - w * l_up f b (k b)) * D p) := by
    intro p hp hg
    have dp := hD1 p hp
    have up : k p = 2 ∨ D b * X p - (X b - w * l_up f b (k b)) * D p ≤ D b * w * l_up f p (k p) := by
      rcases hm p hp hg with h | h | h
      · exact Or.inl h
      · refine Or.inr ?_
        have a1 := Int.mul_le_mul_of_nonneg_left h (show 0 ≤ D b by omega)
        have a2 := Int.mul_pos hE (show 0 < D p by omega)
        rw [← Int.mul_assoc] at a1
        omega
      · refine Or.inr ?_
        have e : (X p - w * l_up f p (k p)) * D b = D b * X p - D b * w * l_up f p (k p) := by grind
        omega
    rcases hc with hc | ⟨W, d, f0, Y, F, hW0, hd, hY, hl⟩
    · have := hc p hp hg
      rw [this] at up ⊢
      exact low_in (up.resolve_left (by omega))
    · have a1 := nt_d T _ _ _ _ (nt_k (k := W) T _ _ hX) (nt_k (k := d) T _ _ hD)
      have a2 := nt_k (k := w) T _ _ hY
      have dr : W * 0 - d * w = w * -d := by grind
      rw [dr] at a1
      have m := ln_un hs hk a1 a2 (fun q hq => by
        show (W * FX q - d * G q) - w * F q = s q * ((W * (X q - cw_so f q 4 * w) - d * D q) - w * (Y q - cw_so f q 4 * W))
        rw [hF q hq, hG q hq, (hl q hq).1, ← hsl q hq]; grind)
      have mp : ∀ q, t_in T q → w * Y q = W * X q - d * D q := fun q hq => by
        have := m q hq
        have this : W * (X q - cw_so f q 4 * w) - d * D q = w * (Y q - cw_so f q 4 * W) := this
        grind
      have yb : Y b ≤ W * l_up f b (k b) := by
        have h := (hl b hb).2 hbg
        unfold l_in at h
        unfold l_up
        rcases h with ⟨h1, h⟩ | ⟨h1, h, h'⟩ | ⟨h1, h, h'⟩ | ⟨h1, h, h'⟩ | ⟨h1, h⟩
        · omega
        · rw [h1, if_neg (by omega), if_neg (by omega), Int.one_mul, Int.mul_comm W]; exact h'
        · rw [h1, if_neg (by omega), if_pos (by omega), Int.one_mul, Int.mul_comm W]; exact h'
        · rw [h1, if_pos (by omega), if_pos (by omega), Int.mul_comm W, Int.mul_assoc, Int.neg_mul, Int.one_mul]; exact h'
        · rw [h1, if_pos (by omega), if_neg (by omega), Int.mul_comm W, Int.mul_assoc, Int.neg_mul, Int.one_mul]; exact h
      have eb : W * (X b - w * l_up f b (k b)) ≤ d * D b := by
        have a3 := Int.mul_le_mul_of_nonneg_left yb (Int.le_of_lt hw)
        rw [mp b hb] at a3
        have e : W * (X b - w * l_up f b (k b)) = W * X b - w * (W * l_up f b (k b)) := by grind
        omega
      refine in_lo (m := 1) (by omega) hW0 ((hl p hp).2 hg) ?_ w1 up
      have a4 := Int.mul_le_mul_of_nonneg_right eb (show 0 ≤ D p by omega)
      have e1 : D b * w * Y p = D b * (w * Y p) := by grind
      have e2 : W * (D b * X p - (X b - w * l_up f b (k b)) * D p) = D b * (W * X p) - W * (X b - w * l_up f b (k b)) * D p := by grind
      have e3 : D b * (W * X p - d * D p) = D b * (W * X p) - d * D b * D p := by grind
      rw [e1, mp p hp, e2, e3]
      omega
  have line : ∀ p, t_in T p → D b * FX p - (X b - w * l_up f b (k b)) * G p = l_s f t p (k p) * (D b * X p - (X b - w * l_up f b (k b)) * D p) + l_o f p (k p) * (D b * w) := fun p hp => by
    rw [hF p hp, hG p hp, ← hsl p hp]; grind
  refine ⟨D b * w, (X b - w * l_up f b (k b)) * w, D b * fx - (X b - w * l_up f b (k b)) * gx, fun p => D b * X p - (X b - w * l_up f b (k b)) * D p, fun p => D b * FX p - (X b - w * l_up f b (k b)) * G p, w1, Int.le_of_lt (Int.mul_pos hE hw), ?_, fun p hp => ?_⟩
  · have a1 := nt_d T _ _ _ _ (nt_k (k := D b) T _ _ hX) (nt_k (k := X b - w * l_up f b (k b)) T _ _ hD)
    have dr : D b * 0 - (X b - w * l_up f b (k b)) * w = -((X b - w * l_up f b (k b)) * w) := by omega
    rw [dr] at a1
    refine nt_c T _ _ (fun q hq => ⟨?_, rfl⟩) a1
    show D b * X q - (X b - w * l_up f b (k b)) * D q - cw_so f q 4 * (D b * w) = D b * (X q - cw_so f q 4 * w) - (X b - w * l_up f b (k b)) * D q
    grind
  · by_cases q : p = b
    · subst q
      have h0 := old p hp hbg
      have e : D p * X p - (X p - w * l_up f p (k p)) * D p = D p * w * l_up f p (k p) := by grind
      have h1 := up_in hWF (hT p hp) (Int.le_of_lt w1) hbg hkb e
      rw [hk'.1]
      refine ⟨?_, fun _ => h1⟩
      show D p * FX p - (X p - w * l_up f p (k p)) * G p = _
      rw [line p hp, ← in_cy hWF (t := t) (hT p hp) (Int.le_of_lt w1) hbg h0, in_cy hWF (t := t) (hT p hp) (Int.le_of_lt w1) hbg h1]
    · rw [hk'.2 p q]
      exact ⟨line p hp, fun hg => old p hp hg⟩
