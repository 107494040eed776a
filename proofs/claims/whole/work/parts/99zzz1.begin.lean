/-! the beginning: what the constructors lay is in order -/
theorem bd1 {n : Nat} {P : Int → Prop} [DecidablePred P] (h : ∀ k : Nat, k < n → P k) {k : Int} (h0 : 0 ≤ k) (h1 : k < n) : P k := by
  have := h k.toNat (by omega)
  rw [show ((k.toNat : Nat) : Int) = k by omega] at this
  exact this
theorem bd2 {n m : Nat} {P : Int → Int → Prop} [∀ a b, Decidable (P a b)] (h : ∀ a : Nat, a < n → ∀ b : Nat, b < m → P a b) {a b : Int} (h0 : 0 ≤ a) (h1 : a < n) (h2 : 0 ≤ b) (h3 : b < m) : P a b := by
  have := h a.toNat (by omega) b.toNat (by omega)
  rw [show ((a.toNat : Nat) : Int) = a by omega, show ((b.toNat : Nat) : Int) = b by omega] at this
  exact this
theorem W_324 {k : Int} (h : k ≠ 4 ∧ k ≠ 362 ∧ k ≠ 363 ∧ k ≠ 364 ∧ k ≠ 366 ∧ k ≠ 371 ∧ k ≠ 373 ∧ k ≠ 375 ∧ k ≠ 377 ∧ k ≠ 379 ∧ k ≠ 381 ∧ k ≠ 383 ∧ k ≠ 385) : cw_W 324 k = 0 := by
  have hr : cw_rs 324 k = false := by
    unfold cw_rs
    rw [show cw_kt cw_NX 324 = (20, 402) from by decide +kernel, if_neg (by decide)]
    decide
  unfold cw_W
  rw [hr]
  show cw_con 324 k = 0
  unfold cw_con
  have e : cw_cs.find? (fun t => decide (t.1 = 324 ∧ t.2.1 = k)) = none := by
    refine List.find?_eq_none.mpr (fun x hx hq => ?_)
    have q := of_decide_eq_true hq
    have a : ∀ x ∈ cw_cs, x.1 = 324 → x.2.1 = 4 ∨ x.2.1 = 362 ∨ x.2.1 = 363 ∨ x.2.1 = 364 ∨ x.2.1 = 366 ∨ x.2.1 = 371 ∨ x.2.1 = 373 ∨ x.2.1 = 375 ∨ x.2.1 = 377 ∨ x.2.1 = 379 ∨ x.2.1 = 381 ∨ x.2.1 = 383 ∨ x.2.1 = 385 := by decide +kernel
    have := a x hx q.1
    omega
  rw [e]; rfl
theorem W_324b {k : Int} (h0 : 0 ≤ k) (h1 : k < 402) : 0 ≤ cw_W 324 k ∧ cw_W 324 k ≤ 1000 := bd1 (n := 402) (P := fun k => 0 ≤ cw_W 324 k ∧ cw_W 324 k ≤ 1000) (by decide +kernel) h0 h1
theorem W_338 {k : Int} : cw_W 338 k = 0 := W_z (by decide +kernel)
theorem W_0 : cw_W 324 0 = 0 := by decide +kernel
theorem W_2 : cw_W 324 2 = 0 := by decide +kernel
theorem W_4 : cw_W 324 4 = 12 := by decide +kernel
theorem w_rel : RelS 1 (cw_W 324) (cw_W 338) cw_W := by
  refine ⟨⟨by decide +kernel, by decide +kernel, by decide +kernel⟩, fun p i a b c d => ?_, fun p i a b c d => ?_, fun p a b => ?_, fun w p a b c d => ?_, fun p a b => ?_, fun p a b => ?_, ⟨by decide +kernel, fun p a b => ?_, fun p a b => ?_, fun p a b => ?_⟩, ⟨by decide +kernel, fun p a b => ?_, fun p a b => ?_, fun p a b => ?_⟩, fun p a b => ?_, fun p a b => ?_, fun p a b => ?_, fun p a b => ?_, fun p a b => ?_, fun p i a b c d => ?_⟩
  · exact bd2 (n := 7) (m := 5) (P := fun p i => cw_W (1 + 3 + p) i = cw_W 324 (11 + 12 * p + i)) (by decide +kernel) a b c d
  · exact bd2 (n := 7) (m := 24) (P := fun p t => cw_W (1 + 11 + p) t = cw_W 324 (100 + 24 * p + t)) (by decide +kernel) a b c d
  · exact bd1 (n := 7) (P := fun p => cw_W (1 + 18) p = cw_W 324 (16 + 12 * p)) (by decide +kernel) a b
  · exact bd2 (n := 4) (m := 7) (P := fun w p => cw_W (1 + 20 + w) p = cw_W 324 (17 + 12 * p + w)) (by decide +kernel) a b c d
  · exact bd1 (n := 4) (P := fun w => cw_W (1 + 24) w = cw_W 324 (268 + w)) (by decide +kernel) a b
  · exact bd1 (n := 40) (P := fun i => cw_W (1 + 25) i = cw_W 324 (272 + i)) (by decide +kernel) a b
  · exact bd1 (n := 6) (P := fun i => cw_W (1 + 27) i = cw_W 324 (312 + 2 * i)) (by decide +kernel) a b
  · exact bd1 (n := 6) (P := fun i => cw_W (1 + 28) i = cw_W 324 (313 + 2 * i)) (by decide +kernel) a b
  · exact bd1 (n := 6) (P := fun i => cw_W (1 + 29) i = cw_W 338 i) (by decide +kernel) a b
  · exact bd1 (n := 24) (P := fun i => cw_W (1 + 32) i * (10 + cw_W (1 + 31) i) = cw_W 324 (336 + i)) (by decide +kernel) a b
  · exact bd1 (n := 24) (P := fun i => -1 ≤ cw_W (1 + 32) i ∧ cw_W (1 + 32) i ≤ 1) (by decide +kernel) a b
  · exact bd1 (n := 24) (P := fun i => 0 ≤ cw_W (1 + 31) i ∧ cw_W (1 + 31) i ≤ 2) (by decide +kernel) a b
  · exact bd1 (n := 9) (P := fun i => cw_W (1 + 33) i = cw_W 324 (360 + i)) (by decide +kernel) a b
  · exact bd1 (n := 4) (P := fun b => cw_W (1 + 35) b = cw_W 324 (370 + 4 * b)) (by decide +kernel) a b
  · exact bd1 (n := 4) (P := fun b => cw_W (1 + 36) b = cw_W 324 (371 + 4 * b)) (by decide +kernel) a b
  · exact bd1 (n := 4) (P := fun b => cw_W (1 + 37) b = cw_W 324 (372 + 4 * b)) (by decide +kernel) a b
  · exact bd1 (n := 4) (P := fun b => cw_W (1 + 38) b = cw_W 324 (373 + 4 * b)) (by decide +kernel) a b
  · exact bd2 (n := 4) (m := 4) (P := fun a b => cw_W (1 + 40 + a) b = cw_W 324 (386 + 4 * a + b)) (by decide +kernel) a b c d
theorem w_wf : WF 0 (cw_W 324) (cw_W 338) := by
  have z : ∀ k : Int, 0 ≤ k → k < 360 → k ≠ 4 → cw_W 324 k = 0 := fun k a b c => W_324 (by omega)
  have e0 := W_0
  have e2 := W_2
  have e4 := W_4
  refine ⟨⟨by rw [e0]; omega, by rw [z 1 (by omega) (by omega) (by omega)]; omega, by rw [e2]; omega, by rw [z 3 (by omega) (by omega) (by omega)]; omega, by rw [e4]; omega⟩, fun p a b => by omega, fun p a b => ?_, fun p t a b => by omega, fun p t a b c d _ => z _ (by omega) (by omega) (by omega), fun p a b => ?_, fun w p a b c d => ?_, fun w a b => ?_, fun i a b => ?_, fun i a b => by omega, fun i a b => ?_, ⟨by decide +kernel, by decide +kernel, by decide +kernel, by decide +kernel, by decide +kernel, by decide +kernel, by decide +kernel, by decide +kernel, by decide +kernel⟩, fun b c d => ?_, fun a b c d e f => ?_⟩
  · exact ⟨z _ (by omega) (by omega) (by omega), z _ (by omega) (by omega) (by omega), z _ (by omega) (by omega) (by omega), z _ (by omega) (by omega) (by omega), z _ (by omega) (by omega) (by omega), z _ (by omega) (by omega) (by omega)⟩
  · rw [z _ (by omega) (by omega) (by omega)]; omega
  · rw [z _ (by omega) (by omega) (by omega)]; omega
  · rw [z _ (by omega) (by omega) (by omega)]; omega
  · rw [z _ (by omega) (by omega) (by omega)]; omega
  · rw [z _ (by omega) (by omega) (by omega)]; omega
  · exact bd1 (n := 4) (P := fun b => (0 ≤ cw_W 324 (370 + 4 * b) ∧ cw_W 324 (370 + 4 * b) ≤ 1000000000) ∧ (1 ≤ cw_W 324 (371 + 4 * b) ∧ cw_W 324 (371 + 4 * b) ≤ 1000) ∧ (0 ≤ cw_W 324 (372 + 4 * b) ∧ cw_W 324 (372 + 4 * b) ≤ 100000) ∧ (0 ≤ cw_W 324 (373 + 4 * b) ∧ cw_W 324 (373 + 4 * b) ≤ 100)) (by decide +kernel) c d
  · rw [W_324 (by omega)]; omega
theorem iv_begin {M1 M2 : cw_M} (f6 : cw_rf (fun s => s = 6) cw_W M1) (h6 : RM M1 6 0) (f7 : cw_rf (fun s => s = 7) M1 M2) (h7 : RM M2 7 1) : IV 0 M2 := by
  have r : ∀ c : Int, ¬ (320 ≤ c ∧ c ≤ 323) → M2 c = cw_W c := fun c h => (f7.1 c h).trans (f6.1 c h)
  have z : ∀ c k : Int, ¬ (320 ≤ c ∧ c ≤ 323) → cw_W c k = 0 → M2 c k = 0 := fun c k h e => by rw [r c h]; exact e
  refine ⟨(W_sh.rf f6).rf f7, ⟨?_, ?_⟩, ⟨fun p a b => ?_, ?_⟩, ⟨0, 1, ⟨?_, ?_⟩, ⟨h6.rf f7 (by unfold IR; omega) (by omega), h7⟩, by omega, by decide, by decide⟩, fun i a b => Or.inl ⟨?_, ?_⟩, ⟨fun s a b e => ?_, ?_⟩, ⟨fun s a b e => ?_, ?_⟩⟩
  · rw [r 324 (by omega), r 338 (by omega)]
    exact w_rel.cg (fun a x y => r a (by omega))
  · rw [r 324 (by omega), r 338 (by omega)]
    exact w_wf
  · rw [z 167 p (by omega) (W_z (by decide +kernel))]; omega
  · exact ⟨Or.inl (z 319 18 (by omega) (by decide +kernel)), Or.inl (z 319 19 (by omega) (by decide +kernel))⟩
  · exact ⟨0, by omega, by rw [r _ (by omega)]; decide +kernel, fun j hj => by omega, fun h => by omega, rfl, by rw [r _ (by omega)]; decide +kernel⟩
  · refine ⟨1, by omega, by rw [r _ (by omega)]; decide +kernel, fun j hj => ?_, fun _ => ?_, ?_, by rw [r _ (by omega)]; decide +kernel⟩
    · obtain rfl : j = 0 := by omega
      rw [r _ (by omega)]; decide +kernel
    · rw [r _ (by omega)]; decide +kernel
    · rw [r _ (by omega)]; decide +kernel
  · exact z 140 i (by omega) (W_z (by decide +kernel))
  · exact z 326 i (by omega) (W_z (by decide +kernel))
  · rw [z 276 2 (by omega) (by decide +kernel)] at e; omega
  · rw [z 276 2 (by omega) (by decide +kernel)]; unfold in32; omega
  · rw [z 319 28 (by omega) (by decide +kernel)] at e; omega
  · rw [z 319 28 (by omega) (by decide +kernel)]; unfold in32; omega
