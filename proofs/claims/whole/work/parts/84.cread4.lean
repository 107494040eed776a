/-! the class reads the path: the whole row -/
/-- the class's path cells hold this tree -/
def Pt (M : cw_M) (T : Tr) : Prop := M 141 0 = t_sz T ∧ t_sz T ≤ 13 ∧ t_dc (M 142) (M 143) (M 144) (M 145) T 0 ∧ t_ok T
def t_in : Tr → Int → Prop := fun t => match t with
  | .num p => fun q => q = p
  | .neg x => fun q => t_in x q
  | .add a b => fun q => t_in a q ∨ t_in b q
  | .mul a b => fun q => t_in a q ∨ t_in b q
  | _ => fun _ => False
def o_in (o : Option Tr) (q : Int) : Prop := match o with
  | none => False
  | some t => t_in t q
def f_in : List Gf → Int → Prop := fun l q => match l with
  | [] => False
  | f :: fs => o_in f.1 q ∨ o_in f.2 q ∨ f_in fs q
def g_in (s : Gs) (q : Int) : Prop := o_in s.2.2.2.1 q ∨ o_in s.2.2.1 q ∨ o_in s.2.1 q ∨ f_in s.1 q
theorem ser_in {B : Option Tr} {t : Tr} {q : Int} : t_in (g_ser B t) q ↔ o_in B q ∨ t_in t q := by
  cases B with
  | none => exact ⟨Or.inr, fun h => h.elim False.elim id⟩
  | some b => exact Iff.rfl
theorem par_in {B : Option Tr} {t : Tr} {q : Int} : t_in (g_par B t) q ↔ o_in B q ∨ t_in t q := by
  cases B with
  | none => exact ⟨Or.inr, fun h => h.elim False.elim id⟩
  | some b => exact Iff.rfl
/-- the pieces read are those of the trees, each a piece that is there -/
def g_iv (np : Int) (s : Gs) : Prop := ∀ q : Int, (s.2.2.2.2 q = true ↔ g_in s q) ∧ (s.2.2.2.2 q = true → 0 ≤ q ∧ q < np ∧ q < 7)
theorem iv_st {np c : Int} {s s' : Gs} (h : g_iv np s) (hs : g_st np c s = .inr s') : g_iv np s' := by
  obtain ⟨fs, A, B, C, v⟩ := s
  unfold g_st at hs
  split at hs
  · cases hs; exact h
  · cases C with
    | none =>
      simp only at hs
      split at hs
      · split at hs
        · cases hs
        · cases hs
          intro q
          obtain ⟨h1, h2⟩ := h q
          refine ⟨?_, h2⟩
          show v q = true ↔ (False ∨ False ∨ False ∨ (o_in A q ∨ o_in B q ∨ f_in fs q))
          have h1' : v q = true ↔ (False ∨ o_in B q ∨ o_in A q ∨ f_in fs q) := h1
          rw [h1']
          constructor
          · rintro (h | h | h | h)
            · exact h.elim
            · exact Or.inr (Or.inr (Or.inr (Or.inr (Or.inl h))))
            · exact Or.inr (Or.inr (Or.inr (Or.inl h)))
            · exact Or.inr (Or.inr (Or.inr (Or.inr (Or.inr h))))
          · rintro (h | h | h | h | h | h)
            · exact h.elim
            · exact h.elim
            · exact h.elim
            · exact Or.inr (Or.inr (Or.inl h))
            · exact Or.inr (Or.inl h)
            · exact Or.inr (Or.inr (Or.inr h))
      · split at hs
        · cases hs
        · split at hs
          · cases hs
          · split at hs
            · cases hs
            · cases hs
              rename_i n1 n2 n3 n4
              intro q
              obtain ⟨h1, h2⟩ := h q
              show ((if q = c - 97 then true else v q) = true ↔ (q = c - 97 ∨ o_in B q ∨ o_in A q ∨ f_in fs q)) ∧ ((if q = c - 97 then true else v q) = true → _)
              have h1' : v q = true ↔ (False ∨ o_in B q ∨ o_in A q ∨ f_in fs q) := h1
              by_cases hq : q = c - 97
              · rw [if_pos hq]
                exact ⟨⟨fun _ => Or.inl hq, fun _ => rfl⟩, fun _ => by omega⟩
              · rw [if_neg hq, h1']
                refine ⟨⟨fun h => Or.inr (h.elim False.elim id), fun h => h.elim (fun z => absurd z hq) Or.inr⟩, fun h => h2 (h1'.mpr h)⟩
    | some t =>
      simp only at hs
      split at hs
      · cases fs with
        | nil => cases hs
        | cons f fs =>
          cases hs
          intro q
          obtain ⟨h1, h2⟩ := h q
          refine ⟨?_, h2⟩
          show v q = true ↔ (t_in (g_par A (g_ser B t)) q ∨ o_in f.2 q ∨ o_in f.1 q ∨ f_in fs q)
          have h1' : v q = true ↔ (t_in t q ∨ o_in B q ∨ o_in A q ∨ (o_in f.1 q ∨ o_in f.2 q ∨ f_in fs q)) := h1
          rw [h1', par_in, ser_in]
          constructor
          · rintro (h | h | h | h | h | h)
            · exact Or.inl (Or.inr (Or.inr h))
            · exact Or.inl (Or.inr (Or.inl h))
            · exact Or.inl (Or.inl h)
            · exact Or.inr (Or.inr (Or.inl h))
            · exact Or.inr (Or.inl h)
            · exact Or.inr (Or.inr (Or.inr h))
          · rintro ((h | h | h) | h | h | h)
            · exact Or.inr (Or.inr (Or.inl h))
            · exact Or.inr (Or.inl h)
            · exact Or.inl h
            · exact Or.inr (Or.inr (Or.inr (Or.inr (Or.inl h))))
            · exact Or.inr (Or.inr (Or.inr (Or.inl h)))
            · exact Or.inr (Or.inr (Or.inr (Or.inr (Or.inr h))))
      · split at hs
        · cases hs
          intro q
          obtain ⟨h1, h2⟩ := h q
          refine ⟨?_, h2⟩
          show v q = true ↔ (False ∨ t_in (g_ser B t) q ∨ o_in A q ∨ f_in fs q)
          have h1' : v q = true ↔ (t_in t q ∨ o_in B q ∨ o_in A q ∨ f_in fs q) := h1
          rw [h1', ser_in]
          constructor
          · rintro (h | h | h)
            · exact Or.inr (Or.inl (Or.inr h))
            · exact Or.inr (Or.inl (Or.inl h))
            · exact Or.inr (Or.inr h)
          · rintro (h | (h | h) | h)
            · exact h.elim
            · exact Or.inr (Or.inl h)
            · exact Or.inl h
            · exact Or.inr (Or.inr h)
        · split at hs
          · cases hs
            intro q
            obtain ⟨h1, h2⟩ := h q
            refine ⟨?_, h2⟩
            show v q = true ↔ (False ∨ False ∨ t_in (g_par A (g_ser B t)) q ∨ f_in fs q)
            have h1' : v q = true ↔ (t_in t q ∨ o_in B q ∨ o_in A q ∨ f_in fs q) := h1
            rw [h1', par_in, ser_in]
            constructor
            · rintro (h | h | h | h)
              · exact Or.inr (Or.inr (Or.inl (Or.inr (Or.inr h))))
              · exact Or.inr (Or.inr (Or.inl (Or.inr (Or.inl h))))
              · exact Or.inr (Or.inr (Or.inl (Or.inl h)))
              · exact Or.inr (Or.inr (Or.inr h))
            · rintro (h | h | (h | h | h) | h)
              · exact h.elim
              · exact h.elim
              · exact Or.inr (Or.inr (Or.inl h))
              · exact Or.inr (Or.inl h)
              · exact Or.inl h
              · exact Or.inr (Or.inr (Or.inr h))
          · cases hs
theorem iv_rn {np : Int} {ch : Int → Int} : ∀ (n : Nat) (s : Gs), g_rn np ch n = .inr s → g_iv np s
  | 0, s, h => by
    cases h
    intro q
    exact ⟨⟨fun h => absurd (show false = true from h) (by decide), fun h => by rcases h with h | h | h | h <;> exact h.elim⟩, fun h => absurd (show false = true from h) (by decide)⟩
  | n + 1, s, h => by
    unfold g_rn at h
    cases hr : g_rn np ch n with
    | inl e => rw [hr] at h; cases h
    | inr s0 =>
      rw [hr] at h
      simp only at h
      cases hs : g_st np (ch n) s0 with
      | inl e => rw [hs] at h; cases h
      | inr s1 => rw [hs] at h; cases h; exact iv_st (iv_rn n s0 hr) hs
/-- what is wrong with a beginning is wrong with the whole -/
theorem rn_er {np : Int} {ch : Int → Int} {e : Int} : ∀ (d n : Nat), g_rn np ch n = .inl e → g_rn np ch (n + d) = .inl e
  | 0, n, h => h
  | d + 1, n, h => by
    show g_rn np ch (n + d + 1) = _
    unfold g_rn
    rw [rn_er d n h]
theorem path_in {np : Int} {ch : Int → Int} {n : Int} {T : Tr} {s : Gs} {t : Tr} (h : g_rn np ch n.toNat = .inr s) (hC : s.2.2.2.1 = some t) (hl : s.1.length = 0) (hT : T = g_par s.2.1 (g_ser s.2.2.1 t)) : ∀ q : Int, (s.2.2.2.2 q = true ↔ t_in T q) ∧ (t_in T q → 0 ≤ q ∧ q < np ∧ q < 7) := by
  intro q
  obtain ⟨h1, h2⟩ := iv_rn n.toNat s h q
  have e : g_in s q ↔ t_in T q := by
    unfold g_in
    rw [hT, hC, par_in, ser_in]
    have hf : s.1 = [] := List.length_eq_zero_iff.mp hl
    rw [hf]
    constructor
    · rintro (h | h | h | h)
      · exact Or.inr (Or.inr h)
      · exact Or.inr (Or.inl h)
      · exact Or.inl h
      · exact h.elim
    · rintro (h | h | h)
      · exact Or.inr (Or.inr (Or.inl h))
      · exact Or.inr (Or.inl h)
      · exact Or.inl h
  exact ⟨h1.trans e, fun k => h2 (h1.mpr (e.mpr k))⟩
