/-! all irons within their parts: THE REST -/
theorem gap_1 {f fl : Int → Int} {n p : Int} (hW : WF n f fl) (hp : 0 ≤ p ∧ p < f 0) : f (10 + 12 * p) = 0 ∨ f (10 + 12 * p) = 1 := by
  rcases hW.2.1 p hp.1 hp.2 with h | h
  · have := h.1; omega
  · exact Or.inl h.1
theorem in_rat {f fl k X F : Int → Int} {n t w f0 : Int} {T : Tr} (hW : WF n f fl) (hT : ∀ q, t_in T q → 0 ≤ q ∧ q < f 0) (hw : 0 < w) (hX : t_nt (fun p => X p - cw_so f p 4 * w) F T 0 f0) (hF : ∀ p, t_in T p → F p = l_s f t p (k p) * X p + l_o f p (k p) * w) (hg : ∀ p, t_in T p → f (10 + 12 * p) = 1 → k p = 0) (hi : ∀ p, t_in T p → f (10 + 12 * p) = 0 → l_in f p (k p) w (X p)) : r_at f t T w X F := by
  refine ⟨hw, ⟨f0, hX⟩, fun p hp => ?_⟩
  rw [hF p hp]
  rcases gap_1 hW (hT p hp) with h | h
  · exact (in_cy hW (hT p hp) (Int.le_of_lt hw) h (hi p hp h)).symm
  · rw [hg p hp h]; exact (gap_cy h).symm
/-- what the leaves of a shared net say, as pushes -/
theorem sv_push {f s e D F X : Int → Int} {t : Int} {k : Int → Int} {T : Tr} (hs : ∀ p, t_in T p → s p = l_s f t p (k p)) (he : ∀ p, t_in T p → e p = s p * cw_so f p 4 + l_o f p (k p)) (hx : ∀ p, t_in T p → X p = D p + (t_pq s T).2 * cw_so f p 4) (h : t_sv s e D F T 0 1 0) : t_nt (fun p => X p - cw_so f p 4 * (t_pq s T).2) F T 0 (t_r s e T) ∧ ∀ p, t_in T p → F p = s p * X p + l_o f p (k p) * (t_pq s T).2 := by
  have a := sv_nt T _ _ _ h
  have e1 : (t_pq s T).2 * 0 - 0 * t_r s e T = 0 := by omega
  have e2 : (t_pq s T).1 * 0 + 1 * t_r s e T = t_r s e T := by omega
  rw [e1, e2] at a
  refine ⟨nt_c T _ _ (fun p hp => ⟨?_, rfl⟩) a, fun p hp => ?_⟩
  · show X p - cw_so f p 4 * (t_pq s T).2 = D p
    rw [hx p hp]; grind
  · rw [sv_leaf T _ _ _ h p hp, he p hp, hx p hp]; grind
