/-! what is held speaks of the told state's rows alone -/
def Ek (f f' : Int → Int) : Prop := ∀ k : Int, k < 312 → k ≠ 2 → k ≠ 4 → f' k = f k
theorem Ek.rf {f : Int → Int} : Ek f f := fun _ _ _ _ => rfl
theorem so_cg {f f' : Int → Int} {p : Int} (e : Ek f f') (hp : 0 ≤ p ∧ p < 7) : cw_so f' p 4 = cw_so f p 4 := by
  unfold cw_so cw_so cw_so cw_so cw_so
  rw [e (10 + 12 * p + 6) (by omega) (by omega) (by omega), e (268 + ((0 : Nat) : Int)) (by omega) (by omega) (by omega), e (268 + ((1 : Nat) : Int)) (by omega) (by omega) (by omega), e (268 + ((2 : Nat) : Int)) (by omega) (by omega) (by omega), e (268 + ((3 : Nat) : Int)) (by omega) (by omega) (by omega), e (10 + 12 * p + (7 + ((0 : Nat) : Int))) (by omega) (by omega) (by omega), e (10 + 12 * p + (7 + ((1 : Nat) : Int))) (by omega) (by omega) (by omega), e (10 + 12 * p + (7 + ((2 : Nat) : Int))) (by omega) (by omega) (by omega), e (10 + 12 * p + (7 + ((3 : Nat) : Int))) (by omega) (by omega) (by omega)]
theorem cy_cg {f f' : Int → Int} {t p w x : Int} (e : Ek f f') (hp : 0 ≤ p ∧ p < 7) (ht : 0 ≤ t ∧ t < 24) : c_y f' t p w x = c_y f t p w x := by
  unfold c_y
  rw [e (10 + 12 * p) (by omega) (by omega) (by omega), e (100 + 24 * p + t) (by omega) (by omega) (by omega), e (15 + 12 * p) (by omega) (by omega) (by omega), e (13 + 12 * p) (by omega) (by omega) (by omega), e (14 + 12 * p) (by omega) (by omega) (by omega), e (11 + 12 * p) (by omega) (by omega) (by omega), e (12 + 12 * p) (by omega) (by omega) (by omega)]
theorem rat_cg {f f' X F : Int → Int} {t w : Int} {T : Tr} (e : Ek f f') (ht : 0 ≤ t ∧ t < 24) (hT : ∀ p, t_in T p → 0 ≤ p ∧ p < 7) (h : r_at f t T w X F) : r_at f' t T w X F := by
  obtain ⟨h1, ⟨f0, h2⟩, h3⟩ := h
  refine ⟨h1, ⟨f0, nt_c T _ _ (fun p hp => ⟨?_, rfl⟩) h2⟩, fun p hp => ?_⟩
  · show X p - cw_so f' p 4 * w = X p - cw_so f p 4 * w
    rw [so_cg e (hT p hp)]
  · rw [h3 p hp, cy_cg e (hT p hp) ht]
theorem rn_cg {np : Int} {ch ch' : Int → Int} : ∀ n : Nat, (∀ i : Int, 0 ≤ i → i < n → ch' i = ch i) → g_rn np ch' n = g_rn np ch n
  | 0, _ => rfl
  | n + 1, h => by
    unfold g_rn
    rw [rn_cg n (fun i a b => h i a (by omega)), h n (by omega) (by omega)]
theorem gof_cg {f f' : Int → Int} (e : Ek f f') (w : 0 ≤ f 1 ∧ f 1 ≤ 40) : g_of f' = g_of f := by
  unfold g_of g_path
  rw [e 0 (by omega) (by omega) (by omega), e 1 (by omega) (by omega) (by omega), rn_cg (ch := fun i => f (272 + i)) (ch' := fun i => f' (272 + i)) (f 1).toNat (fun i a b => e _ (by omega) (by omega) (by omega))]
theorem sr_of {M M' : cw_M} (h : ∀ a : Int, 320 ≤ a → a ≤ 322 → M' a = M a) (s : Int) : sR M M' s := ⟨by rw [h 321 (by omega) (by omega)], by rw [h 322 (by omega) (by omega)], fun j _ _ => by unfold cw_rd; rw [h 320 (by omega) (by omega)]⟩
def Hd (M M' : cw_M) : Prop := M' 319 7 = M 319 7 ∧ ∀ a : Int, (320 ≤ a ∧ a ≤ 323) ∨ (327 ≤ a ∧ a ≤ 336) → M' a = M a
theorem rAt_cg {f f' X F : Int → Int} {t lo : Int} {R : Tr} {M M' : cw_M} (e : Ek f f') (ht : 0 ≤ t ∧ t < 24) (hT : ∀ p, t_in R p → 0 ≤ p ∧ p < 7) (c : ∀ a : Int, (320 ≤ a ∧ a ≤ 323) ∨ (331 ≤ a ∧ a ≤ 336) → M' a = M a) (h : R_at f t X F M R lo) : R_at f' t X F M' R lo := by
  obtain ⟨w, hw, h3, hp, hr⟩ := h
  have sm : ∀ s, sR M M' s := sr_of (fun a x y => c a (by omega))
  exact ⟨w, hw, by rw [c 333 (by omega)]; exact h3, fun p q => ⟨⟨(hp p q).1.1.sm (sm _), (hp p q).1.2⟩, ⟨(hp p q).2.1.1.sm (sm _), (hp p q).2.1.2⟩, by rw [c 336 (by omega)]; exact (hp p q).2.2.1, by rw [c 335 (by omega)]; exact (hp p q).2.2.2⟩, rat_cg e ht hT hr⟩
theorem mat_cg {f f' : Int → Int} {M M' : cw_M} {T : Tr} (e : Ek f f') (ht : 0 ≤ f 3 ∧ f 3 < 24) (hT : ∀ p, t_in T p → 0 ≤ p ∧ p < 7) (c : Hd M M') (h : M_at f T M) : M_at f' T M' := by
  obtain ⟨⟨a, b, c2, d⟩, mi, X, F, tp⟩ := h
  obtain ⟨c7, cc⟩ := c
  refine ⟨⟨c7.trans a, b, by rw [cc 327 (by omega)]; exact c2, by rw [cc 327 (by omega), cc 328 (by omega), cc 329 (by omega)]; exact d⟩, fun p p0 p1 => by rw [cc 335 (by omega)]; exact mi p p0 p1, X, F, tp_mp T 1 (fun x j o1 o2 i l hB => ?_) tp⟩
  rw [e 3 (by omega) (by omega) (by omega)]
  exact rAt_cg e ht (fun p hp => hT p (i p hp)) (fun a x => cc a (by omega)) hB
theorem mok_cg {f f' fl : Int → Int} {n : Int} {M M' : cw_M} (hW : WF n f fl) (e : Ek f f') (c : Hd M M') (h18 : M' 319 18 = M 319 18) (h19 : M' 319 19 = M 319 19) (h : m_ok f M) : m_ok f' M' := by
  have w := hW.1
  have eg := gof_cg e w.2.1
  unfold m_ok
  rw [h18, h19, eg]
  refine ⟨?_, h.2⟩
  rcases h.1 with z | ⟨z, q⟩
  · exact Or.inl z
  · refine Or.inr ⟨z, ?_⟩
    rcases q with q | ⟨T, q1, q2, q3⟩
    · exact Or.inl q
    · exact Or.inr ⟨T, q1, q2, mat_cg e (by omega) (fun p hp => by have := (g_tk T q1).2.2.2 p hp; omega) c q3⟩
theorem mok_z {f : Int → Int} {M : cw_M} (h : M 319 18 = 0) (k : M 319 19 = 0 ∨ M 319 19 = 1) : m_ok f M := ⟨Or.inl h, k⟩
theorem mok_nx {n : Int} {M M2 : cw_M} (hN : Now n M) (h : m_ok (M 324) M) (q : Fq2 M M2) : m_ok (M2 324) M2 := by
  have e19 : M2 319 19 = M 319 19 := q.1 319 19 (by omega) (by omega) (by omega) (by omega) (by omega) (by omega)
  rcases q.2 with z | ⟨z, y⟩
  · exact mok_z z (by rw [e19]; exact h.2)
  · exact mok_cg hN.2 (fun k a b c => y k a b c) ⟨q.1 319 7 (by omega) (by omega) (by omega) (by omega) (by omega) (by omega), fun a x => by funext k; exact q.1 a k (by omega) (by omega) (by omega) (by omega) (by omega) (by omega)⟩ z e19 h
/-! a told state read back from an image -/
theorem RelS.cf {s : Int} {f fl f' fl' : Int → Int} {M : cw_M} (h : RelS s f fl M) (e : ∀ k : Int, 0 ≤ k → k < 402 → f' k = f k) (el : ∀ k : Int, 0 ≤ k → k < 6 → fl' k = fl k) : RelS s f' fl' M := by
  obtain ⟨⟨a1, a2, a3⟩, hB, hC, hD, hE, hF, hG, ⟨h0, h1, h2, h3⟩, ⟨i0, i1, i2, i3⟩, hJ, k1, k2, k3, k4, k5⟩ := h
  refine ⟨⟨?_, ?_, ?_⟩, ?_, ?_, ?_, ?_, ?_, ?_, ⟨?_, ?_, ?_, ?_⟩, ⟨?_, ?_, i2, i3⟩, ?_, ?_, ?_, ?_, ?_, ?_⟩
  · rw [e _ (by omega) (by omega)]; exact a1
  · rw [e _ (by omega) (by omega)]; exact a2
  · rw [e _ (by omega) (by omega)]; exact a3
  · intro p i q0 q1 q2 q3; rw [e _ (by omega) (by omega)]; exact hB p i q0 q1 q2 q3
  · intro p i q0 q1 q2 q3; rw [e _ (by omega) (by omega)]; exact hC p i q0 q1 q2 q3
  · intro p q0 q1; rw [e _ (by omega) (by omega)]; exact hD p q0 q1
  · intro p i q0 q1 q2 q3; rw [e _ (by omega) (by omega)]; exact hE p i q0 q1 q2 q3
  · intro p q0 q1; rw [e _ (by omega) (by omega)]; exact hF p q0 q1
  · intro p q0 q1; rw [e _ (by omega) (by omega)]; exact hG p q0 q1
  · rw [e _ (by omega) (by omega)]; exact h0
  · intro p q0 q1; rw [e _ (by omega) (by omega)]; exact h1 p q0 q1
  · intro p q0 q1; rw [e _ (by omega) (by omega)]; exact h2 p q0 q1
  · intro p q0 q1; rw [el _ (by omega) (by omega)]; exact h3 p q0 q1
  · rw [e _ (by omega) (by omega)]; exact i0
  · intro p q0 q1; rw [e _ (by omega) (by omega)]; exact i1 p q0 q1
  · intro p q0 q1; rw [e _ (by omega) (by omega)]; exact hJ p q0 q1
  · intro p q0 q1; rw [e _ (by omega) (by omega)]; exact k1 p q0 q1
  · intro p q0 q1; rw [e _ (by omega) (by omega)]; exact k2 p q0 q1
  · intro p q0 q1; rw [e _ (by omega) (by omega)]; exact k3 p q0 q1
  · intro p q0 q1; rw [e _ (by omega) (by omega)]; exact k4 p q0 q1
  · intro p i q0 q1 q2 q3; rw [e _ (by omega) (by omega)]; exact k5 p i q0 q1 q2 q3
theorem WF.cf {n : Int} {f fl f' fl' : Int → Int} (h : WF n f fl) (e : ∀ k : Int, 0 ≤ k → k < 402 → f' k = f k) (el : ∀ k : Int, 0 ≤ k → k < 6 → fl' k = fl k) : WF n f' fl' := by
  have e0 := e 0 (by omega) (by omega)
  have e1 := e 1 (by omega) (by omega)
  have e2 := e 2 (by omega) (by omega)
  have e3 := e 3 (by omega) (by omega)
  have e4 := e 4 (by omega) (by omega)
  obtain ⟨⟨a1, a2, a3, a4, a5⟩, hB, hC, hD, hE, hF, hG, hH, hI, hJ, hK, hL, hM, hN⟩ := h
  refine ⟨⟨by rw [e0]; exact a1, by rw [e1]; exact a2, by rw [e2]; exact a3, by rw [e3]; exact a4, by rw [e4]; exact a5⟩, ?_, ?_, ?_, ?_, ?_, ?_, ?_, ?_, ?_, ?_, ?_, ?_, ?_⟩
  · intro p q0 q1
    rw [e0] at q1
    unfold cw_gp cw_ir
    rw [e (10 + 12 * p) (by omega) (by omega), e (11 + 12 * p) (by omega) (by omega), e (12 + 12 * p) (by omega) (by omega), e (13 + 12 * p) (by omega) (by omega), e (14 + 12 * p) (by omega) (by omega), e (15 + 12 * p) (by omega) (by omega)]
    exact hB p q0 q1
  · intro p q0 q1
    rw [e0] at q0
    unfold cw_no
    rw [e (10 + 12 * p) (by omega) (by omega), e (11 + 12 * p) (by omega) (by omega), e (12 + 12 * p) (by omega) (by omega), e (13 + 12 * p) (by omega) (by omega), e (14 + 12 * p) (by omega) (by omega), e (15 + 12 * p) (by omega) (by omega)]
    exact hC p q0 q1
  · intro p t q0 q1 q2 q3 q4
    rw [e0] at q1
    rw [e (10 + 12 * p) (by omega) (by omega)] at q4
    rw [e (100 + 24 * p + t) (by omega) (by omega)]
    exact hD p t q0 q1 q2 q3 q4
  · intro p t q0 q1 q2 q3 q4
    rw [e (10 + 12 * p) (by omega) (by omega)] at q4
    rw [e (100 + 24 * p + t) (by omega) (by omega)]
    exact hE p t q0 q1 q2 q3 q4
  · intro p q0 q1
    rw [e0, e (16 + 12 * p) (by omega) (by omega)]
    exact hF p q0 q1
  · intro w p q0 q1 q2 q3
    rw [e0, e (17 + 12 * p + w) (by omega) (by omega)]
    exact hG w p q0 q1 q2 q3
  · intro w q0 q1
    rw [e (268 + w) (by omega) (by omega)]
    exact hH w q0 q1
  · intro i q0 q1
    rw [e (272 + i) (by omega) (by omega)]
    exact hI i q0 q1
  · intro i q0 q1
    rw [e2] at q1
    rw [e0, e (312 + 2 * i) (by omega) (by omega), e (313 + 2 * i) (by omega) (by omega), el i (by omega) (by omega)]
    exact hJ i q0 q1
  · intro i q0 q1
    rw [e4, e (336 + i) (by omega) (by omega)]
    exact hK i q0 q1
  · rw [e 360 (by omega) (by omega), e 361 (by omega) (by omega), e 362 (by omega) (by omega), e 363 (by omega) (by omega), e 364 (by omega) (by omega), e 365 (by omega) (by omega), e 366 (by omega) (by omega), e 367 (by omega) (by omega), e 368 (by omega) (by omega)]
    exact hL
  · intro b q0 q1
    rw [e (370 + 4 * b) (by omega) (by omega), e (371 + 4 * b) (by omega) (by omega), e (372 + 4 * b) (by omega) (by omega), e (373 + 4 * b) (by omega) (by omega)]
    exact hM b q0 q1
  · intro a b q0 q1 q2 q3
    rw [e (386 + 4 * a + b) (by omega) (by omega)]
    exact hN a b q0 q1 q2 q3
