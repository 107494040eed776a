/-! a piece more -/
theorem now_add {M M' : cw_M} {f f' fl : Int → Int} {n gv : Int} {row : Int → Int} (hR : RelS 1 f fl M) (hW : WF n f fl) (hn : f 0 < 7)
    (F0 : f' 0 = f 0 + 1) (Fr : ∀ i : Int, 0 ≤ i → i < 12 → f' (10 + 12 * f 0 + i) = if i < 6 then row i else 0) (Fg : ∀ t : Int, 0 ≤ t → t < 24 → f' (100 + 24 * f 0 + t) = gv)
    (Fo : ∀ k : Int, 0 < k → ¬ (10 + 12 * f 0 ≤ k ∧ k < 10 + 12 * f 0 + 12) → ¬ (100 + 24 * f 0 ≤ k ∧ k < 100 + 24 * f 0 + 24) → f' k = f k)
    (M0 : M' 2 0 = f 0 + 1) (Mr : ∀ i : Int, 0 ≤ i → i < 5 → M' (4 + f 0) i = row (1 + i)) (Mg : ∀ t : Int, 0 ≤ t → t < 24 → M' (12 + f 0) t = gv)
    (Mo : ∀ a k : Int, 1 < a → a < 47 → ¬ (a = 2 ∧ k = 0) → a ≠ 4 + f 0 → a ≠ 12 + f 0 → M' a k = M a k)
    (hv : (row 0 = 1 ∧ (row 1 = 0 ∧ row 2 = 0 ∧ row 3 = 0 ∧ row 4 = 0 ∧ row 5 = 0) ∧ 1 ≤ gv ∧ gv ≤ 200) ∨ (row 0 = 0 ∧ (row 1 ≤ 200 ∧ row 3 ≤ row 1 ∧ row 5 ≤ row 3 ∧ 1 ≤ row 5 ∧ 1 ≤ row 2 ∧ row 2 < row 4 ∧ row 4 ≤ 10000) ∧ gv = 0)) :
    RelS 1 f' fl M' ∧ WF (n + 1) f' fl := by
  have w0 := hW.1
  have r0 : f' (10 + 12 * f 0) = row 0 := by have := Fr 0 (by omega) (by omega); rw [Int.add_zero, if_pos (by omega)] at this; exact this
  have r1 : f' (11 + 12 * f 0) = row 1 := by have := Fr 1 (by omega) (by omega); rw [show 10 + 12 * f 0 + 1 = 11 + 12 * f 0 by omega, if_pos (by omega)] at this; exact this
  have r2 : f' (12 + 12 * f 0) = row 2 := by have := Fr 2 (by omega) (by omega); rw [show 10 + 12 * f 0 + 2 = 12 + 12 * f 0 by omega, if_pos (by omega)] at this; exact this
  have r3 : f' (13 + 12 * f 0) = row 3 := by have := Fr 3 (by omega) (by omega); rw [show 10 + 12 * f 0 + 3 = 13 + 12 * f 0 by omega, if_pos (by omega)] at this; exact this
  have r4 : f' (14 + 12 * f 0) = row 4 := by have := Fr 4 (by omega) (by omega); rw [show 10 + 12 * f 0 + 4 = 14 + 12 * f 0 by omega, if_pos (by omega)] at this; exact this
  have r5 : f' (15 + 12 * f 0) = row 5 := by have := Fr 5 (by omega) (by omega); rw [show 10 + 12 * f 0 + 5 = 15 + 12 * f 0 by omega, if_pos (by omega)] at this; exact this
  have r6 : f' (16 + 12 * f 0) = 0 := by have := Fr 6 (by omega) (by omega); rw [show 10 + 12 * f 0 + 6 = 16 + 12 * f 0 by omega, if_neg (by omega)] at this; exact this
  have r7 : ∀ w : Int, 0 ≤ w → w < 4 → f' (17 + 12 * f 0 + w) = 0 := fun w a b => by have := Fr (7 + w) (by omega) (by omega); rw [show 10 + 12 * f 0 + (7 + w) = 17 + 12 * f 0 + w by omega, if_neg (by omega)] at this; exact this
  constructor
  · obtain ⟨⟨a1, a2, a3⟩, hB, hC, hD, hE, hF, hG, ⟨h0, h1, h2, h3⟩, ⟨i0, i1, i2, i3⟩, hJ, k1, k2, k3, k4, k5⟩ := hR
    refine ⟨⟨?_, ?_, ?_⟩, ?_, ?_, ?_, ?_, ?_, ?_, ⟨?_, ?_, ?_, ?_⟩, ⟨?_, ?_, ?_, ?_⟩, ?_, ?_, ?_, ?_, ?_, ?_⟩
    · rw [F0]; exact M0
    · rw [Mo _ _ (by omega) (by omega) (by omega) (by omega) (by omega), Fo _ (by omega) (by omega) (by omega)]; exact a2
    · rw [Mo _ _ (by omega) (by omega) (by omega) (by omega) (by omega), Fo _ (by omega) (by omega) (by omega)]; exact a3
    · intro p i q0 q1 q2 q3
      by_cases u : p = f 0
      · subst u
        have := Mr i q2 q3
        rw [show 1 + 3 + f 0 = 4 + f 0 by omega, this, show 11 + 12 * f 0 + i = 10 + 12 * f 0 + (1 + i) by omega, Fr _ (by omega) (by omega), if_pos (by omega)]
      · rw [Mo _ _ (by omega) (by omega) (by omega) (by omega) (by omega), Fo _ (by omega) (by omega) (by omega)]; exact hB p i q0 q1 q2 q3
    · intro p i q0 q1 q2 q3
      by_cases u : p = f 0
      · subst u
        rw [show 1 + 11 + f 0 = 12 + f 0 by omega, Mg i q2 q3, Fg i q2 q3]
      · rw [Mo _ _ (by omega) (by omega) (by omega) (by omega) (by omega), Fo _ (by omega) (by omega) (by omega)]; exact hC p i q0 q1 q2 q3
    · intro p q0 q1
      rw [Mo _ _ (by omega) (by omega) (by omega) (by omega) (by omega)]
      by_cases u : p = f 0
      · subst u; rw [r6, hD _ q0 q1]; exact (hW.2.2.2.2.2.1 _ q0 q1).2.2 (by omega)
      · rw [Fo _ (by omega) (by omega) (by omega)]; exact hD p q0 q1
    · intro w p q0 q1 q2 q3
      rw [Mo _ _ (by omega) (by omega) (by omega) (by omega) (by omega)]
      by_cases u : p = f 0
      · subst u; rw [r7 w q0 q1, hE _ _ q0 q1 q2 q3]; exact (hW.2.2.2.2.2.2.1 _ _ q0 q1 q2 q3).2.2 (by omega)
      · rw [Fo _ (by omega) (by omega) (by omega)]; exact hE w p q0 q1 q2 q3
    · intro p q0 q1; rw [Mo _ _ (by omega) (by omega) (by omega) (by omega) (by omega), Fo _ (by omega) (by omega) (by omega)]; exact hF p q0 q1
    · intro p q0 q1; rw [Mo _ _ (by omega) (by omega) (by omega) (by omega) (by omega), Fo _ (by omega) (by omega) (by omega)]; exact hG p q0 q1
    · rw [Mo _ _ (by omega) (by omega) (by omega) (by omega) (by omega), Fo _ (by omega) (by omega) (by omega)]; exact h0
    · intro p q0 q1; rw [Mo _ _ (by omega) (by omega) (by omega) (by omega) (by omega), Fo _ (by omega) (by omega) (by omega)]; exact h1 p q0 q1
    · intro p q0 q1; rw [Mo _ _ (by omega) (by omega) (by omega) (by omega) (by omega), Fo _ (by omega) (by omega) (by omega)]; exact h2 p q0 q1
    · intro p q0 q1; rw [Mo _ _ (by omega) (by omega) (by omega) (by omega) (by omega)]; exact h3 p q0 q1
    · rw [Mo _ _ (by omega) (by omega) (by omega) (by omega) (by omega), Fo _ (by omega) (by omega) (by omega)]; exact i0
    · intro p q0 q1; rw [Mo (1 + 32) _ (by omega) (by omega) (by omega) (by omega) (by omega), Mo (1 + 31) _ (by omega) (by omega) (by omega) (by omega) (by omega), Fo _ (by omega) (by omega) (by omega)]; exact i1 p q0 q1
    · intro p q0 q1; rw [Mo _ _ (by omega) (by omega) (by omega) (by omega) (by omega)]; exact i2 p q0 q1
    · intro p q0 q1; rw [Mo _ _ (by omega) (by omega) (by omega) (by omega) (by omega)]; exact i3 p q0 q1
    · intro p q0 q1; rw [Mo _ _ (by omega) (by omega) (by omega) (by omega) (by omega), Fo _ (by omega) (by omega) (by omega)]; exact hJ p q0 q1
    · intro p q0 q1; rw [Mo _ _ (by omega) (by omega) (by omega) (by omega) (by omega), Fo _ (by omega) (by omega) (by omega)]; exact k1 p q0 q1
    · intro p q0 q1; rw [Mo _ _ (by omega) (by omega) (by omega) (by omega) (by omega), Fo _ (by omega) (by omega) (by omega)]; exact k2 p q0 q1
    · intro p q0 q1; rw [Mo _ _ (by omega) (by omega) (by omega) (by omega) (by omega), Fo _ (by omega) (by omega) (by omega)]; exact k3 p q0 q1
    · intro p q0 q1; rw [Mo _ _ (by omega) (by omega) (by omega) (by omega) (by omega), Fo _ (by omega) (by omega) (by omega)]; exact k4 p q0 q1
    · intro p i q0 q1 q2 q3; rw [Mo _ _ (by omega) (by omega) (by omega) (by omega) (by omega), Fo _ (by omega) (by omega) (by omega)]; exact k5 p i q0 q1 q2 q3
  · obtain ⟨⟨a1, a2, a3, a4, a5⟩, hB, hC, hD, hE, hF, hG, hH, hI, hJ, hK, hL, hM, hN⟩ := hW
    have o : ∀ k : Int, 0 < k → k < 5 ∨ 268 ≤ k → f' k = f k := fun k k0 k1 => Fo k k0 (by omega) (by omega)
    have op : ∀ p i : Int, p ≠ f 0 → 0 ≤ p → p < 7 → 0 ≤ i → i < 12 → f' (10 + 12 * p + i) = f (10 + 12 * p + i) := fun p i u p0 p1 i0 i1 => Fo _ (by omega) (by omega) (by omega)
    have o6 : ∀ p : Int, p ≠ f 0 → 0 ≤ p → p < 7 → f' (10 + 12 * p) = f (10 + 12 * p) ∧ f' (11 + 12 * p) = f (11 + 12 * p) ∧ f' (12 + 12 * p) = f (12 + 12 * p) ∧ f' (13 + 12 * p) = f (13 + 12 * p) ∧ f' (14 + 12 * p) = f (14 + 12 * p) ∧ f' (15 + 12 * p) = f (15 + 12 * p) := fun p u p0 p1 =>
      ⟨Fo _ (by omega) (by omega) (by omega), Fo _ (by omega) (by omega) (by omega), Fo _ (by omega) (by omega) (by omega), Fo _ (by omega) (by omega) (by omega), Fo _ (by omega) (by omega) (by omega), Fo _ (by omega) (by omega) (by omega)⟩
    refine ⟨⟨?_, ?_, ?_, ?_, ?_⟩, ?_, ?_, ?_, ?_, ?_, ?_, ?_, ?_, ?_, ?_, ?_, ?_, ?_⟩
    · rw [F0]; omega
    · rw [o 1 (by omega) (by omega)]; exact a2
    · rw [o 2 (by omega) (by omega)]; exact a3
    · rw [o 3 (by omega) (by omega)]; exact a4
    · rw [o 4 (by omega) (by omega)]; exact a5
    · intro p q0 q1
      rw [F0] at q1
      by_cases u : p = f 0
      · subst u
        unfold cw_gp cw_ir
        rw [r0, r1, r2, r3, r4, r5]
        rcases hv with h | h
        · left; omega
        · right; omega
      · obtain ⟨e0, e1, e2, e3, e4, e5⟩ := o6 p u q0 (by omega)
        have := hB p q0 (by omega)
        unfold cw_gp cw_ir at this ⊢
        rw [e0, e1, e2, e3, e4, e5]; exact this
    · intro p q0 q1
      rw [F0] at q0
      obtain ⟨e0, e1, e2, e3, e4, e5⟩ := o6 p (by omega) (by omega) q1
      have := hC p (by omega) q1
      unfold cw_no at this ⊢
      rw [e0, e1, e2, e3, e4, e5]; exact this
    · intro p t q0 q1 q2 q3 q4
      rw [F0] at q1
      by_cases u : p = f 0
      · subst u
        rw [r0] at q4
        rw [Fg t q2 q3]; omega
      · rw [(o6 p u q0 (by omega)).1] at q4
        rw [Fo _ (by omega) (by omega) (by omega)]; exact hD p t q0 (by omega) q2 q3 q4
    · intro p t q0 q1 q2 q3 q4
      by_cases u : p = f 0
      · subst u
        rw [r0] at q4
        rw [Fg t q2 q3]; omega
      · rw [(o6 p u q0 q1).1] at q4
        rw [Fo _ (by omega) (by omega) (by omega)]; exact hE p t q0 q1 q2 q3 q4
    · intro p q0 q1
      by_cases u : p = f 0
      · subst u; rw [r6]; omega
      · rw [Fo _ (by omega) (by omega) (by omega), F0]; have := hF p q0 q1; exact ⟨this.1, this.2.1, fun q => this.2.2 (by omega)⟩
    · intro w p q0 q1 q2 q3
      by_cases u : p = f 0
      · subst u; rw [r7 w q0 q1]; omega
      · rw [Fo _ (by omega) (by omega) (by omega), F0]; have := hG w p q0 q1 q2 q3; exact ⟨this.1, this.2.1, fun q => this.2.2 (by omega)⟩
    · intro w q0 q1; rw [o _ (by omega) (by omega)]; have hh := hH w q0 q1; omega
    · intro w q0 q1; rw [o _ (by omega) (by omega)]; exact hI w q0 q1
    · intro i q0 q1
      rw [o 2 (by omega) (by omega)] at q1
      rw [o _ (by omega) (by omega), o _ (by omega) (by omega), F0]
      have := hJ i q0 q1
      exact ⟨this.1, ⟨this.2.1.1, by omega⟩, this.2.2⟩
    · intro i q0 q1; rw [o _ (by omega) (by omega), o 4 (by omega) (by omega)]; exact hK i q0 q1
    · rw [o 360 (by omega) (by omega), o 361 (by omega) (by omega), o 362 (by omega) (by omega), o 363 (by omega) (by omega), o 364 (by omega) (by omega), o 365 (by omega) (by omega), o 366 (by omega) (by omega), o 367 (by omega) (by omega), o 368 (by omega) (by omega)]
      obtain ⟨j1, j2, j3, j4, j5, j6, j7, j8, j9⟩ := hL
      exact ⟨j1, j2, j3, j4, j5, j6, j7, j8, by omega⟩
    · intro b q0 q1; rw [o _ (by omega) (by omega), o _ (by omega) (by omega), o _ (by omega) (by omega), o _ (by omega) (by omega)]; exact hM b q0 q1
    · intro a b q0 q1 q2 q3; rw [o _ (by omega) (by omega)]; exact hN a b q0 q1 q2 q3
theorem bg_r {f : Int → Int} {n gp i : Int} (hn : 0 ≤ n ∧ n < 7) (h0 : 0 ≤ i) (h1 : i < 12) : cw_bg f n gp (10 + 12 * n + i) = if i = 0 then gp else 0 := by
  unfold cw_bg
  rw [if_neg (by omega), if_neg (by omega)]
  by_cases q : i = 0
  · rw [if_pos (by omega), if_pos q]
  · rw [if_neg (by omega), if_pos (by omega), if_neg q]
theorem bg_g {f : Int → Int} {n gp t : Int} (hn : 0 ≤ n ∧ n < 7) (h0 : 0 ≤ t) (h1 : t < 24) : cw_bg f n gp (100 + 24 * n + t) = if gp = 1 then 10 else 0 := by
  unfold cw_bg
  rw [if_neg (by omega), if_pos (by omega)]
theorem bg_o {f : Int → Int} {n gp k : Int} (h0 : 0 < k) (h1 : ¬ (10 + 12 * n ≤ k ∧ k < 10 + 12 * n + 12)) (h2 : ¬ (100 + 24 * n ≤ k ∧ k < 100 + 24 * n + 24)) : cw_bg f n gp k = f k := by
  unfold cw_bg
  rw [if_neg (by omega), if_neg h2, if_neg (by omega), if_neg h1]
