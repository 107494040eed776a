/-! the told state: what the class's cells hold of it, beside the reference's row; what its numbers may be -/
def RelS (s : Int) (f fl : Int → Int) (M : cw_M) : Prop :=
  (M (s + 1) 0 = f 0 ∧ M (s + 1) 8 = f 1 ∧ M (s + 1) 6 = f 3) ∧
  (∀ p i : Int, 0 ≤ p → p < 7 → 0 ≤ i → i < 5 → M (s + 3 + p) i = f (11 + 12 * p + i)) ∧
  (∀ p t : Int, 0 ≤ p → p < 7 → 0 ≤ t → t < 24 → M (s + 11 + p) t = f (100 + 24 * p + t)) ∧
  (∀ p : Int, 0 ≤ p → p < 7 → M (s + 18) p = f (16 + 12 * p)) ∧
  (∀ w p : Int, 0 ≤ w → w < 4 → 0 ≤ p → p < 7 → M (s + 20 + w) p = f (17 + 12 * p + w)) ∧
  (∀ w : Int, 0 ≤ w → w < 4 → M (s + 24) w = f (268 + w)) ∧
  (∀ i : Int, 0 ≤ i → i < 40 → M (s + 25) i = f (272 + i)) ∧
  (M (s + 26) 0 = f 2 ∧ (∀ i : Int, 0 ≤ i → i < 6 → M (s + 27) i = f (312 + 2 * i)) ∧ (∀ i : Int, 0 ≤ i → i < 6 → M (s + 28) i = f (313 + 2 * i)) ∧ (∀ i : Int, 0 ≤ i → i < 6 → M (s + 29) i = fl i)) ∧
  (M (s + 30) 0 = f 4 ∧ (∀ i : Int, 0 ≤ i → i < 24 → M (s + 32) i * (10 + M (s + 31) i) = f (336 + i)) ∧ (∀ i : Int, 0 ≤ i → i < 24 → -1 ≤ M (s + 32) i ∧ M (s + 32) i ≤ 1) ∧ (∀ i : Int, 0 ≤ i → i < 24 → 0 ≤ M (s + 31) i ∧ M (s + 31) i ≤ 2)) ∧
  (∀ i : Int, 0 ≤ i → i < 9 → M (s + 33) i = f (360 + i)) ∧
  ((∀ b : Int, 0 ≤ b → b < 4 → M (s + 35) b = f (370 + 4 * b)) ∧ (∀ b : Int, 0 ≤ b → b < 4 → M (s + 36) b = f (371 + 4 * b)) ∧ (∀ b : Int, 0 ≤ b → b < 4 → M (s + 37) b = f (372 + 4 * b)) ∧ (∀ b : Int, 0 ≤ b → b < 4 → M (s + 38) b = f (373 + 4 * b)) ∧ (∀ a b : Int, 0 ≤ a → a < 4 → 0 ≤ b → b < 4 → M (s + 40 + a) b = f (386 + 4 * a + b)))
theorem RelS.cg {s : Int} {f fl : Int → Int} {M M' : cw_M} (h : RelS s f fl M) (k : ∀ a, s < a → a < s + 46 → M' a = M a) : RelS s f fl M' := by
  obtain ⟨⟨a1, a2, a3⟩, hB, hC, hD, hE, hF, hG, ⟨h0, h1, h2, h3⟩, ⟨i0, i1, i2, i3⟩, hJ, k1, k2, k3, k4, k5⟩ := h
  refine ⟨⟨?_, ?_, ?_⟩, ?_, ?_, ?_, ?_, ?_, ?_, ⟨?_, ?_, ?_, ?_⟩, ⟨?_, ?_, ?_, ?_⟩, ?_, ?_, ?_, ?_, ?_, ?_⟩
  · rw [k _ (by omega) (by omega)]; exact a1
  · rw [k _ (by omega) (by omega)]; exact a2
  · rw [k _ (by omega) (by omega)]; exact a3
  · intro p i q0 q1 q2 q3; rw [k _ (by omega) (by omega)]; exact hB p i q0 q1 q2 q3
  · intro p i q0 q1 q2 q3; rw [k _ (by omega) (by omega)]; exact hC p i q0 q1 q2 q3
  · intro p q0 q1; rw [k _ (by omega) (by omega)]; exact hD p q0 q1
  · intro p i q0 q1 q2 q3; rw [k _ (by omega) (by omega)]; exact hE p i q0 q1 q2 q3
  · intro p q0 q1; rw [k _ (by omega) (by omega)]; exact hF p q0 q1
  · intro p q0 q1; rw [k _ (by omega) (by omega)]; exact hG p q0 q1
  · rw [k _ (by omega) (by omega)]; exact h0
  · intro p q0 q1; rw [k _ (by omega) (by omega)]; exact h1 p q0 q1
  · intro p q0 q1; rw [k _ (by omega) (by omega)]; exact h2 p q0 q1
  · intro p q0 q1; rw [k _ (by omega) (by omega)]; exact h3 p q0 q1
  · rw [k _ (by omega) (by omega)]; exact i0
  · intro p q0 q1; rw [k _ (by omega) (by omega), k (s + 31) (by omega) (by omega)]; exact i1 p q0 q1
  · intro p q0 q1; rw [k _ (by omega) (by omega)]; exact i2 p q0 q1
  · intro p q0 q1; rw [k _ (by omega) (by omega)]; exact i3 p q0 q1
  · intro p q0 q1; rw [k _ (by omega) (by omega)]; exact hJ p q0 q1
  · intro p q0 q1; rw [k _ (by omega) (by omega)]; exact k1 p q0 q1
  · intro p q0 q1; rw [k _ (by omega) (by omega)]; exact k2 p q0 q1
  · intro p q0 q1; rw [k _ (by omega) (by omega)]; exact k3 p q0 q1
  · intro p q0 q1; rw [k _ (by omega) (by omega)]; exact k4 p q0 q1
  · intro p i q0 q1 q2 q3; rw [k _ (by omega) (by omega)]; exact k5 p i q0 q1 q2 q3
/-- a row of a piece: a gap, iron, or none -/
def cw_gp (f : Int → Int) (p : Int) : Prop := f (10 + 12 * p) = 1 ∧ f (11 + 12 * p) = 0 ∧ f (12 + 12 * p) = 0 ∧ f (13 + 12 * p) = 0 ∧ f (14 + 12 * p) = 0 ∧ f (15 + 12 * p) = 0
def cw_ir (f : Int → Int) (p : Int) : Prop := f (10 + 12 * p) = 0 ∧ f (11 + 12 * p) ≤ 200 ∧ f (13 + 12 * p) ≤ f (11 + 12 * p) ∧ f (15 + 12 * p) ≤ f (13 + 12 * p) ∧ 1 ≤ f (15 + 12 * p) ∧ 1 ≤ f (12 + 12 * p) ∧ f (12 + 12 * p) < f (14 + 12 * p) ∧ f (14 + 12 * p) ≤ 10000
def cw_no (f : Int → Int) (p : Int) : Prop := f (10 + 12 * p) = 0 ∧ f (11 + 12 * p) = 0 ∧ f (12 + 12 * p) = 0 ∧ f (13 + 12 * p) = 0 ∧ f (14 + 12 * p) = 0 ∧ f (15 + 12 * p) = 0
def WF (n : Int) (f fl : Int → Int) : Prop :=
  ((0 ≤ f 0 ∧ f 0 ≤ 7) ∧ (0 ≤ f 1 ∧ f 1 ≤ 40) ∧ (0 ≤ f 2 ∧ f 2 ≤ 6) ∧ (0 ≤ f 3 ∧ f 3 ≤ 23) ∧ (6 ≤ f 4 ∧ f 4 ≤ 24)) ∧
  (∀ p : Int, 0 ≤ p → p < f 0 → cw_gp f p ∨ cw_ir f p) ∧
  (∀ p : Int, f 0 ≤ p → p < 7 → cw_no f p) ∧
  (∀ p t : Int, 0 ≤ p → p < f 0 → 0 ≤ t → t < 24 → f (10 + 12 * p) = 1 → 1 ≤ f (100 + 24 * p + t) ∧ f (100 + 24 * p + t) ≤ 200) ∧
  (∀ p t : Int, 0 ≤ p → p < 7 → 0 ≤ t → t < 24 → f (10 + 12 * p) = 0 → f (100 + 24 * p + t) = 0) ∧
  (∀ p : Int, 0 ≤ p → p < 7 → -5000 ≤ f (16 + 12 * p) ∧ f (16 + 12 * p) ≤ 5000 ∧ (f 0 ≤ p → f (16 + 12 * p) = 0)) ∧
  (∀ w p : Int, 0 ≤ w → w < 4 → 0 ≤ p → p < 7 → -50 ≤ f (17 + 12 * p + w) ∧ f (17 + 12 * p + w) ≤ 50 ∧ (f 0 ≤ p → f (17 + 12 * p + w) = 0)) ∧
  (∀ w : Int, 0 ≤ w → w < 4 → -100 ≤ f (268 + w) ∧ f (268 + w) ≤ 101 ∧ (n ≤ 512 → f (268 + w) ≤ 100)) ∧
  (∀ i : Int, 0 ≤ i → i < 40 → 0 ≤ f (272 + i) ∧ f (272 + i) ≤ 127) ∧
  (∀ i : Int, 0 ≤ i → i < f 2 → (0 ≤ f (312 + 2 * i) ∧ f (312 + 2 * i) ≤ 23) ∧ (0 ≤ f (313 + 2 * i) ∧ f (313 + 2 * i) < f 0) ∧ -1000000000000 ≤ fl i ∧ fl i ≤ 1000000000000) ∧
  (∀ i : Int, 0 ≤ i → i < 24 → (-12 ≤ f (336 + i) ∧ f (336 + i) ≤ 12) ∧ (f 4 ≤ i → f (336 + i) = 0)) ∧
  ((0 ≤ f 360 ∧ f 360 ≤ 10000) ∧ (0 ≤ f 361 ∧ f 361 ≤ 1000) ∧ (1 ≤ f 362 ∧ f 362 ≤ 100000) ∧ (0 ≤ f 363 ∧ f 363 ≤ 1000000) ∧ (0 ≤ f 364 ∧ f 364 ≤ f 363) ∧ (0 ≤ f 365 ∧ f 365 ≤ 11000000) ∧ (f 366 = 0 ∨ f 366 = 1) ∧ (0 ≤ f 367 ∧ f 367 ≤ f 368) ∧ (0 ≤ f 368 ∧ f 368 ≤ 1000 * n)) ∧
  (∀ b : Int, 0 ≤ b → b < 4 → (0 ≤ f (370 + 4 * b) ∧ f (370 + 4 * b) ≤ 1000000000) ∧ (1 ≤ f (371 + 4 * b) ∧ f (371 + 4 * b) ≤ 1000) ∧ (0 ≤ f (372 + 4 * b) ∧ f (372 + 4 * b) ≤ 100000) ∧ (0 ≤ f (373 + 4 * b) ∧ f (373 + 4 * b) ≤ 100)) ∧
  (∀ a b : Int, 0 ≤ a → a < 4 → 0 ≤ b → b < 4 → 0 ≤ f (386 + 4 * a + b) ∧ f (386 + 4 * a + b) ≤ 100)
def Now (n : Int) (M : cw_M) : Prop := RelS 1 (M 324) (M 338) M ∧ WF n (M 324) (M 338)
theorem WF.mo {n m : Int} {f fl : Int → Int} (h : WF n f fl) (k : n ≤ m) : WF m f fl := by
  obtain ⟨a, b, c, d, e, e2, e3, e4, e5, e6, e7, ⟨j1, j2, j3, j4, j5, j6, j7, j8, j9⟩, kk⟩ := h
  exact ⟨a, b, c, d, e, e2, e3, fun w q0 q1 => by have := e4 w q0 q1; omega, e5, e6, e7, ⟨j1, j2, j3, j4, j5, j6, j7, j8, ⟨j9.1, by have := j9.2; omega⟩⟩, kk⟩
theorem WF.r32 {n : Int} {f fl : Int → Int} (h : WF n f fl) (hn : n ≤ 1000) {k : Int} (h0 : 0 ≤ k) (h1 : k < 402) (h2 : k < 5 ∨ 10 ≤ k) (h3 : k ≠ 369) (h4 : ∀ p : Int, 0 ≤ p → p < 7 → k ≠ 21 + 12 * p) (h5 : ¬ (94 ≤ k ∧ k < 100)) (h6 : ¬ (312 ≤ k ∧ k < 336)) : in32 (f k) := by
  obtain ⟨a, hB, hC, hD, hE, hF, hG, hH, hI, hJ, hK, hL, hM, hN⟩ := h
  unfold in32
  by_cases c1 : k < 5
  · rcases (show k = 0 ∨ k = 1 ∨ k = 2 ∨ k = 3 ∨ k = 4 by omega) with rfl | rfl | rfl | rfl | rfl <;> omega
  by_cases c2 : k < 94
  · obtain ⟨p, i, rfl, hp0, hp1, hi0, hi1⟩ : ∃ p i : Int, k = 10 + 12 * p + i ∧ 0 ≤ p ∧ p < 7 ∧ 0 ≤ i ∧ i < 12 := ⟨(k - 10) / 12, (k - 10) % 12, by omega, by omega, by omega, by omega, by omega⟩
    by_cases ci : i < 6
    · have row : -1 ≤ f (10 + 12 * p + i) ∧ f (10 + 12 * p + i) ≤ 10000 := by
        by_cases q : p < f 0
        · rcases hB p hp0 q with r | r
          · unfold cw_gp at r
            rcases (show i = 0 ∨ i = 1 ∨ i = 2 ∨ i = 3 ∨ i = 4 ∨ i = 5 by omega) with rfl | rfl | rfl | rfl | rfl | rfl <;>
              simp only [Int.add_zero, show (10 : Int) + 12 * p + 1 = 11 + 12 * p by omega, show (10 : Int) + 12 * p + 2 = 12 + 12 * p by omega, show (10 : Int) + 12 * p + 3 = 13 + 12 * p by omega, show (10 : Int) + 12 * p + 4 = 14 + 12 * p by omega, show (10 : Int) + 12 * p + 5 = 15 + 12 * p by omega] <;> omega
          · unfold cw_ir at r
            rcases (show i = 0 ∨ i = 1 ∨ i = 2 ∨ i = 3 ∨ i = 4 ∨ i = 5 by omega) with rfl | rfl | rfl | rfl | rfl | rfl <;>
              simp only [Int.add_zero, show (10 : Int) + 12 * p + 1 = 11 + 12 * p by omega, show (10 : Int) + 12 * p + 2 = 12 + 12 * p by omega, show (10 : Int) + 12 * p + 3 = 13 + 12 * p by omega, show (10 : Int) + 12 * p + 4 = 14 + 12 * p by omega, show (10 : Int) + 12 * p + 5 = 15 + 12 * p by omega] <;> omega
        · have r := hC p (by omega) hp1
          unfold cw_no at r
          rcases (show i = 0 ∨ i = 1 ∨ i = 2 ∨ i = 3 ∨ i = 4 ∨ i = 5 by omega) with rfl | rfl | rfl | rfl | rfl | rfl <;>
            simp only [Int.add_zero, show (10 : Int) + 12 * p + 1 = 11 + 12 * p by omega, show (10 : Int) + 12 * p + 2 = 12 + 12 * p by omega, show (10 : Int) + 12 * p + 3 = 13 + 12 * p by omega, show (10 : Int) + 12 * p + 4 = 14 + 12 * p by omega, show (10 : Int) + 12 * p + 5 = 15 + 12 * p by omega] <;> omega
      omega
    · by_cases cj : i = 6
      · subst cj
        have := hF p hp0 hp1
        rw [show (10 : Int) + 12 * p + 6 = 16 + 12 * p by omega]; omega
      · by_cases ck : i < 11
        · have := hG (i - 7) p (by omega) (by omega) hp0 hp1
          rw [show 17 + 12 * p + (i - 7) = 10 + 12 * p + i by omega] at this; omega
        · have e : i = 11 := by omega
          subst e
          exact absurd (show (10 : Int) + 12 * p + 11 = 21 + 12 * p by omega) (h4 p hp0 hp1)
  by_cases c3 : k < 100
  · omega
  by_cases c4 : k < 268
  · obtain ⟨p, t, rfl, hp0, hp1, hi0, hi1⟩ : ∃ p t : Int, k = 100 + 24 * p + t ∧ 0 ≤ p ∧ p < 7 ∧ 0 ≤ t ∧ t < 24 := ⟨(k - 100) / 24, (k - 100) % 24, by omega, by omega, by omega, by omega, by omega⟩
    by_cases q : p < f 0
    · rcases hB p hp0 q with r | r
      · have := hD p t hp0 q hi0 hi1 r.1; omega
      · have := hE p t hp0 hp1 hi0 hi1 r.1; omega
    · have r := hC p (by omega) hp1
      have := hE p t hp0 hp1 hi0 hi1 r.1; omega
  by_cases c5 : k < 272
  · have := hH (k - 268) (by omega) (by omega)
    rw [show 268 + (k - 268) = k by omega] at this; omega
  by_cases c6 : k < 312
  · have := hI (k - 272) (by omega) (by omega)
    rw [show 272 + (k - 272) = k by omega] at this; omega
  by_cases c7 : k < 336
  · omega
  by_cases c8 : k < 360
  · have := (hK (k - 336) (by omega) (by omega)).1
    rw [show 336 + (k - 336) = k by omega] at this; omega
  by_cases c9 : k < 369
  · rcases (show k = 360 ∨ k = 361 ∨ k = 362 ∨ k = 363 ∨ k = 364 ∨ k = 365 ∨ k = 366 ∨ k = 367 ∨ k = 368 by omega) with rfl | rfl | rfl | rfl | rfl | rfl | rfl | rfl | rfl <;> omega
  by_cases c10 : k < 386
  · obtain ⟨b, i, rfl, hp0, hp1, hi0, hi1⟩ : ∃ b i : Int, k = 370 + 4 * b + i ∧ 0 ≤ b ∧ b < 4 ∧ 0 ≤ i ∧ i < 4 := ⟨(k - 370) / 4, (k - 370) % 4, by omega, by omega, by omega, by omega, by omega⟩
    have := hM b hp0 hp1
    rcases (show i = 0 ∨ i = 1 ∨ i = 2 ∨ i = 3 by omega) with rfl | rfl | rfl | rfl
    · rw [Int.add_zero]; omega
    · rw [show 370 + 4 * b + 1 = 371 + 4 * b by omega]; omega
    · rw [show 370 + 4 * b + 2 = 372 + 4 * b by omega]; omega
    · rw [show 370 + 4 * b + 3 = 373 + 4 * b by omega]; omega
  · obtain ⟨a, b, rfl, hp0, hp1, hi0, hi1⟩ : ∃ a b : Int, k = 386 + 4 * a + b ∧ 0 ≤ a ∧ a < 4 ∧ 0 ≤ b ∧ b < 4 := ⟨(k - 386) / 4, (k - 386) % 4, by omega, by omega, by omega, by omega, by omega⟩
    have := hN a b hp0 hp1 hi0 hi1
    omega
/-- what a call of the told state leaves -/
def Fq (M M2 : cw_M) : Prop := (∀ a k : Int, ¬ (1 ≤ a ∧ a < 48) → a ≠ 324 → a ≠ 338 → ¬ (a = 319 ∧ k = 18) → M2 a k = M a k) ∧
  (M2 319 18 = 0 ∨ (M2 319 18 = M 319 18 ∧ ∀ k : Int, k < 312 → k ≠ 2 → k ≠ 4 → M2 324 k = M 324 k))
theorem Fq.rf {M : cw_M} : Fq M M := ⟨fun _ _ _ _ _ _ => rfl, Or.inr ⟨rfl, fun _ _ _ _ => rfl⟩⟩
def OP (g : cw_G) (yC yR : cw_Y) (as : List cw_V) (M : cw_M) (P : cw_M → Prop) : Prop :=
  mC g yC (.inr (.inr 0) :: as) M (fun r M1 => ∃ v, in32 v ∧ r = some (.inl v) ∧ mC g yR (.inr (.inr 319) :: as) M1 (fun r2 M2 => r2 = some (.inl v) ∧ P M2))
def Nx (n : Int) (M M2 : cw_M) : Prop := Sh M2 ∧ Now (n + 1) M2 ∧ Fq M M2
theorem Nx.rf {n : Int} {M : cw_M} (hS : Sh M) (h : Now n M) : Nx n M M := ⟨hS, ⟨h.1, h.2.mo (by omega)⟩, Fq.rf⟩
