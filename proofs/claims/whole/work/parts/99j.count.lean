/-! how often parts can be raised -/
def s_7 (k : Int → Int) : Int := k 0 + k 1 + k 2 + k 3 + k 4 + k 5 + k 6
theorem s7_up {k k' : Int → Int} {b : Int} (hb : 0 ≤ b ∧ b < 7) (h : k' b = k b + 1 ∧ ∀ p, p ≠ b → k' p = k p) : s_7 k' = s_7 k + 1 := by
  unfold s_7
  obtain ⟨h1, h2⟩ := h
  rcases (show b = 0 ∨ b = 1 ∨ b = 2 ∨ b = 3 ∨ b = 4 ∨ b = 5 ∨ b = 6 by omega) with rfl | rfl | rfl | rfl | rfl | rfl | rfl
  · rw [h1, h2 1 (by decide), h2 2 (by decide), h2 3 (by decide), h2 4 (by decide), h2 5 (by decide), h2 6 (by decide)]; omega
  · rw [h1, h2 0 (by decide), h2 2 (by decide), h2 3 (by decide), h2 4 (by decide), h2 5 (by decide), h2 6 (by decide)]; omega
  · rw [h1, h2 0 (by decide), h2 1 (by decide), h2 3 (by decide), h2 4 (by decide), h2 5 (by decide), h2 6 (by decide)]; omega
  · rw [h1, h2 0 (by decide), h2 1 (by decide), h2 2 (by decide), h2 4 (by decide), h2 5 (by decide), h2 6 (by decide)]; omega
  · rw [h1, h2 0 (by decide), h2 1 (by decide), h2 2 (by decide), h2 3 (by decide), h2 5 (by decide), h2 6 (by decide)]; omega
  · rw [h1, h2 0 (by decide), h2 1 (by decide), h2 2 (by decide), h2 3 (by decide), h2 4 (by decide), h2 6 (by decide)]; omega
  · rw [h1, h2 0 (by decide), h2 1 (by decide), h2 2 (by decide), h2 3 (by decide), h2 4 (by decide), h2 5 (by decide)]; omega
theorem s7_b {k : Int → Int} (h : ∀ p : Int, 0 ≤ p → p < 7 → -2 ≤ k p ∧ k p ≤ 2) : -14 ≤ s_7 k ∧ s_7 k ≤ 14 := by
  have a0 := h 0 (by decide) (by decide)
  have a1 := h 1 (by decide) (by decide)
  have a2 := h 2 (by decide) (by decide)
  have a3 := h 3 (by decide) (by decide)
  have a4 := h 4 (by decide) (by decide)
  have a5 := h 5 (by decide) (by decide)
  have a6 := h 6 (by decide) (by decide)
  unfold s_7; omega
