/-! a tree that was read: each letter once, no more than seven -/
def l_ix : List Tr → Int → Int := fun l => match l with
  | [] => fun _ => 0
  | t :: r => fun q => t_ix t q + l_ix r q
def l_okk : List Tr → Prop := fun l => match l with
  | [] => True
  | t :: r => t_ok t ∧ l_okk r
theorem lix_app (q : Int) : ∀ a b : List Tr, l_ix (a ++ b) q = l_ix a q + l_ix b q
  | [], b => by show l_ix b q = 0 + l_ix b q; omega
  | t :: r, b => by
    show t_ix t q + l_ix (r ++ b) q = t_ix t q + l_ix r q + l_ix b q
    rw [lix_app q r b]; omega
theorem lok_app : ∀ a b : List Tr, l_okk (a ++ b) ↔ l_okk a ∧ l_okk b
  | [], b => ⟨fun h => ⟨True.intro, h⟩, fun h => h.2⟩
  | t :: r, b => by
    show (t_ok t ∧ l_okk (r ++ b)) ↔ (t_ok t ∧ l_okk r) ∧ l_okk b
    rw [lok_app r b]
    exact ⟨fun h => ⟨⟨h.1, h.2.1⟩, h.2.2⟩, fun h => ⟨h.1.1, h.1.2, h.2⟩⟩
theorem ser_ix (B : Option Tr) (t : Tr) (q : Int) : t_ix (g_ser B t) q = l_ix (o_l B) q + t_ix t q := by
  cases B with
  | none => show t_ix t q = 0 + t_ix t q; omega
  | some b => show t_ix b q + t_ix t q = (t_ix b q + 0) + t_ix t q; omega
theorem par_ix (B : Option Tr) (t : Tr) (q : Int) : t_ix (g_par B t) q = l_ix (o_l B) q + t_ix t q := by
  cases B with
  | none => show t_ix t q = 0 + t_ix t q; omega
  | some b => show t_ix b q + t_ix t q = (t_ix b q + 0) + t_ix t q; omega
theorem ser_ok {B : Option Tr} {t : Tr} (h : l_okk (o_l B)) (k : t_ok t) : t_ok (g_ser B t) := by
  cases B with
  | none => exact k
  | some b => exact ⟨h.1, k⟩
theorem par_ok {B : Option Tr} {t : Tr} (h : l_okk (o_l B)) (k : t_ok t) : t_ok (g_par B t) := by
  cases B with
  | none => exact k
  | some b => exact ⟨h.1, k⟩
def g_ic (s : Gs) : Prop := l_okk (g_e s) ∧ ∀ q : Int, l_ix (g_e s) q = if s.2.2.2.2 q = true then 1 else 0
theorem ge_ix (fs : List Gf) (A B C : Option Tr) (v : Int → Bool) (q : Int) : l_ix (g_e (fs, A, B, C, v)) q = l_ix (o_l C) q + (l_ix (o_l B) q + (l_ix (o_l A) q + l_ix (f_e fs) q)) := by
  show l_ix (o_l C ++ (o_l B ++ (o_l A ++ f_e fs))) q = _
  rw [lix_app, lix_app, lix_app]
theorem ge_ok (fs : List Gf) (A B C : Option Tr) (v : Int → Bool) : l_okk (g_e (fs, A, B, C, v)) ↔ l_okk (o_l C) ∧ l_okk (o_l B) ∧ l_okk (o_l A) ∧ l_okk (f_e fs) := by
  show l_okk (o_l C ++ (o_l B ++ (o_l A ++ f_e fs))) ↔ _
  rw [lok_app, lok_app, lok_app]
theorem fe_ix (A B : Option Tr) (fs : List Gf) (q : Int) : l_ix (f_e ((A, B) :: fs)) q = l_ix (o_l B) q + (l_ix (o_l A) q + l_ix (f_e fs) q) := by
  show l_ix (o_l B ++ (o_l A ++ f_e fs)) q = _
  rw [lix_app, lix_app]
theorem fe_ok (A B : Option Tr) (fs : List Gf) : l_okk (f_e ((A, B) :: fs)) ↔ l_okk (o_l B) ∧ l_okk (o_l A) ∧ l_okk (f_e fs) := by
  show l_okk (o_l B ++ (o_l A ++ f_e fs)) ↔ _
  rw [lok_app, lok_app]
theorem o_s (t : Tr) (q : Int) : l_ix (o_l (some t)) q = t_ix t q := by show t_ix t q + 0 = _; omega
theorem o_n (q : Int) : l_ix (o_l none) q = 0 := rfl
theorem ic_st {np c : Int} {s s' : Gs} (h : g_ic s) (hs : g_st np c s = .inr s') : g_ic s' := by
  obtain ⟨fs, A, B, C, v⟩ := s
  obtain ⟨h1, h2⟩ := h
  rw [ge_ok] at h1
  obtain ⟨k1, k2, k3, k4⟩ := h1
  have h3 : ∀ q : Int, l_ix (o_l C) q + (l_ix (o_l B) q + (l_ix (o_l A) q + l_ix (f_e fs) q)) = if v q = true then 1 else 0 := fun q => by rw [← ge_ix fs A B C v q]; exact h2 q
  unfold g_st at hs
  split at hs
  · cases hs; exact ⟨(ge_ok fs A B C v).mpr ⟨k1, k2, k3, k4⟩, h2⟩
  · cases C with
    | none =>
      simp only at hs
      split at hs
      · split at hs
        · cases hs
        · cases hs
          refine ⟨(ge_ok _ _ _ _ _).mpr ⟨True.intro, True.intro, True.intro, (fe_ok _ _ _).mpr ⟨k2, k3, k4⟩⟩, fun q => ?_⟩
          rw [ge_ix, o_n, fe_ix]
          have := h3 q
          rw [o_n] at this
          show 0 + (0 + (0 + _)) = if v q = true then 1 else 0
          omega
      · split at hs
        · cases hs
        · rename_i hc
          split at hs
          · cases hs
          · split at hs
            · cases hs
            · rename_i hv
              cases hs
              refine ⟨(ge_ok _ _ _ _ _).mpr ⟨⟨by show 0 ≤ c - 97 ∧ c - 97 < 7; omega, True.intro⟩, k2, k3, k4⟩, fun q => ?_⟩
              rw [ge_ix, o_s]
              have := h3 q
              rw [o_n] at this
              show (if q = c - 97 then 1 else 0) + _ = if (if q = c - 97 then true else v q) = true then 1 else 0
              by_cases z : q = c - 97
              · rw [if_pos z, if_pos z, if_pos rfl]
                rw [z] at this ⊢
                rw [if_neg hv] at this
                omega
              · rw [if_neg z, if_neg z]; omega
    | some t =>
      simp only at hs
      have t1 : t_ok t := k1.1
      split at hs
      · cases fs with
        | nil => cases hs
        | cons f fs =>
          obtain ⟨A', B'⟩ := f
          simp only at hs
          cases hs
          rw [fe_ok] at k4
          refine ⟨(ge_ok _ _ _ _ _).mpr ⟨⟨par_ok k3 (ser_ok k2 t1), True.intro⟩, k4.1, k4.2.1, k4.2.2⟩, fun q => ?_⟩
          have := h3 q
          rw [o_s, fe_ix] at this
          rw [ge_ix, o_s]
          show t_ix (g_par A (g_ser B t)) q + _ = if v q = true then 1 else 0
          rw [par_ix, ser_ix]; omega
      · split at hs
        · cases hs
          refine ⟨(ge_ok _ _ _ _ _).mpr ⟨True.intro, ⟨ser_ok k2 t1, True.intro⟩, k3, k4⟩, fun q => ?_⟩
          have := h3 q
          rw [o_s] at this
          rw [ge_ix, o_n, o_s, ser_ix]
          show _ = if v q = true then 1 else 0
          omega
        · split at hs
          · cases hs
            refine ⟨(ge_ok _ _ _ _ _).mpr ⟨True.intro, True.intro, ⟨par_ok k3 (ser_ok k2 t1), True.intro⟩, k4⟩, fun q => ?_⟩
            have := h3 q
            rw [o_s] at this
            rw [ge_ix, o_n, o_s, par_ix, ser_ix]
            show _ = if v q = true then 1 else 0
            omega
          · cases hs
theorem ic_0 : g_ic g_0 := ⟨True.intro, fun q => rfl⟩
theorem iv_00 (np : Int) : g_iv np g_0 := fun q => ⟨⟨fun h => (by cases h), fun h => (by rcases h with h | h | h | h <;> exact h.elim)⟩, fun h => (by cases h)⟩
theorem rn_ic {np : Int} {ch : Int → Int} : ∀ (n : Nat) (s : Gs), g_rn np ch n = .inr s → g_ic s ∧ g_iv np s
  | 0, s, h => by
    have e : g_0 = s := by simpa [g_rn] using h
    subst e
    exact ⟨ic_0, iv_00 np⟩
  | n + 1, s, h => by
    unfold g_rn at h
    split at h
    · cases h
    · rename_i s0 h0
      split at h
      · cases h
      · rename_i s1 h1
        cases h
        have k := rn_ic n s0 h0
        exact ⟨ic_st k.1 h1, iv_st k.2 h1⟩
theorem lv_ix : ∀ t : Tr, t_ok t → (t_lv t : Int) = t_ix t 0 + t_ix t 1 + t_ix t 2 + t_ix t 3 + t_ix t 4 + t_ix t 5 + t_ix t 6
  | .num p, h => by
    have h : 0 ≤ p ∧ p < 7 := h
    show (1 : Int) = (if (0 : Int) = p then 1 else 0) + (if (1 : Int) = p then 1 else 0) + (if (2 : Int) = p then 1 else 0) + (if (3 : Int) = p then 1 else 0) + (if (4 : Int) = p then 1 else 0) + (if (5 : Int) = p then 1 else 0) + (if (6 : Int) = p then 1 else 0)
    rcases (show p = 0 ∨ p = 1 ∨ p = 2 ∨ p = 3 ∨ p = 4 ∨ p = 5 ∨ p = 6 by omega) with rfl | rfl | rfl | rfl | rfl | rfl | rfl <;> rfl
  | .neg x, h => lv_ix x h
  | .add a b, ⟨h1, h2⟩ => by
    have e1 := lv_ix a h1
    have e2 := lv_ix b h2
    show ((t_lv a + t_lv b : Nat) : Int) = (t_ix a 0 + t_ix b 0) + (t_ix a 1 + t_ix b 1) + (t_ix a 2 + t_ix b 2) + (t_ix a 3 + t_ix b 3) + (t_ix a 4 + t_ix b 4) + (t_ix a 5 + t_ix b 5) + (t_ix a 6 + t_ix b 6)
    omega
  | .mul a b, ⟨h1, h2⟩ => by
    have e1 := lv_ix a h1
    have e2 := lv_ix b h2
    show ((t_lv a + t_lv b : Nat) : Int) = (t_ix a 0 + t_ix b 0) + (t_ix a 1 + t_ix b 1) + (t_ix a 2 + t_ix b 2) + (t_ix a 3 + t_ix b 3) + (t_ix a 4 + t_ix b 4) + (t_ix a 5 + t_ix b 5) + (t_ix a 6 + t_ix b 6)
    omega
  | .natCast _, h => h.elim
  | .intCast _, h => h.elim
  | .var _, h => h.elim
  | .sub _ _, h => h.elim
  | .pow _ _, h => h.elim
theorem g_tk {f : Int → Int} : ∀ T, g_of f = .inr T → Tk f T := by
  intro T h
  unfold g_of g_path at h
  generalize hr : g_rn (f 0) (fun i => f (272 + i)) (f 1).toNat = r at h
  cases r with
  | inl e => cases h
  | inr s =>
    obtain ⟨⟨k1, k2⟩, k3⟩ := rn_ic _ s hr
    obtain ⟨fs, A, B, C, v⟩ := s
    unfold g_en at h
    cases C with
    | none => cases h
    | some t =>
      simp only at h
      split at h
      · rename_i h0
        cases h
        have e0 : fs = [] := List.length_eq_zero_iff.mp h0
        subst e0
        rw [ge_ok] at k1
        have ix : ∀ q : Int, t_ix (g_par A (g_ser B t)) q = if v q = true then 1 else 0 := fun q => by
          have := k2 q
          rw [ge_ix, o_s] at this
          have z : l_ix (f_e []) q = 0 := rfl
          rw [z] at this
          rw [par_ix, ser_ix]
          have this : t_ix t q + (l_ix (o_l B) q + (l_ix (o_l A) q + 0)) = if v q = true then 1 else 0 := this
          omega
        have tok : t_ok (g_par A (g_ser B t)) := par_ok k1.2.2.1 (ser_ok k1.2.1 k1.1.1)
        have t1 : t_1 (g_par A (g_ser B t)) := fun q => by rw [ix q]; split <;> omega
        refine ⟨t1, tok, ?_, fun q hq => ?_⟩
        · have a := lv_ix _ tok
          have b := lv_sz (g_par A (g_ser B t))
          have c0 := t1 0; have c1 := t1 1; have c2 := t1 2; have c3 := t1 3; have c4 := t1 4; have c5 := t1 5; have c6 := t1 6
          omega
        · have p := (ix_in _ q).mpr hq
          rw [ix q] at p
          have hv : v q = true := by
            by_cases z : v q = true
            · exact z
            · rw [if_neg z] at p; omega
          have := (k3 q).2 hv
          exact this
      · cases h
