/-! the class's settle: its stretch that finds the pushes -/
def Ah (a : Int) : Prop := (152 ≤ a ∧ a ≤ 165) ∨ a = 268 ∨ a = 269
theorem st_push {g : cw_G} {M : cw_M} {w t i : Int} {D : Int → Int} {z : cw_V} {Q : Option cw_V → cw_M → Prop} (hS : Sh M) (hq : M 148 2 = 141) (hl : ∀ p : Int, 0 ≤ p → p < 7 → -1 ≤ M 145 p ∧ M 145 p < 13) (hs : ∀ p : Int, 0 ≤ p → p < 7 → -30000 ≤ M 166 p ∧ M 166 p ≤ 30000) (hw : RW M 149 w) (hwb : 0 ≤ w ∧ w ≤ 13254776280841401)
    (hd : ∀ p : Int, 0 ≤ p → p < 7 → M 145 p ≠ -1 → RW M (227 + 2 * M 145 p) (D p) ∧ (-848305681973849664000000 ≤ D p ∧ D p ≤ 848305681973849664000000))
    (nx : ∀ M2 : cw_M, Fg Ah M M2 → (∀ p : Int, 0 ≤ p → p < 7 → (M 145 p = -1 ∧ M2 (152 + 2 * p) = M (152 + 2 * p) ∧ M2 (153 + 2 * p) = M (153 + 2 * p)) ∨ (M 145 p ≠ -1 ∧ RW M2 (152 + 2 * p) (D p + w * M 166 p))) → mJ g y_Re_settle 155 [.inr (.inr 148), .inr (.inr 2), .inr (.inr 141), .inl t, .inl i, .inl 7] [] M2 Q) :
    mJ g y_Re_settle 133 [.inr (.inr 148), .inr (.inr 2), .inr (.inr 141), .inl t, .inl i, z] [] M Q := by
  have loop : ∀ (d : Nat) (j : Int) (M1 : cw_M), j + d = 7 → 0 ≤ j → Fg Ah M M1 → (∀ p : Int, 0 ≤ p → p < 7 → p < j → (M 145 p = -1 ∧ M1 (152 + 2 * p) = M (152 + 2 * p) ∧ M1 (153 + 2 * p) = M (153 + 2 * p)) ∨ (M 145 p ≠ -1 ∧ RW M1 (152 + 2 * p) (D p + w * M 166 p))) → (∀ p : Int, j ≤ p → M1 (152 + 2 * p) = M (152 + 2 * p) ∨ 7 ≤ p) → (∀ p : Int, j ≤ p → M1 (153 + 2 * p) = M (153 + 2 * p) ∨ 7 ≤ p) →
      mJ g y_Re_settle 136 [.inr (.inr 148), .inr (.inr 2), .inr (.inr 141), .inl t, .inl i, .inl j] [] M1 Q := by
    intro d
    induction d with
    | zero =>
      intro j M1 hj h0 hF hp ha hb
      have ej : j = 7 := by omega
      subst ej
      refine k_Re_settle_136 _ _ _ _ _ _ _ _ ?_
      simp (disch := omega) only [↓w_nil, ↓w_cons, ↓w_ild5, ↓w_ic, ↓w_icge, true_and, and_true, true_implies, false_implies, not_true_eq_false, not_false_eq_true, Int.reduceEq, Int.reduceLT, Int.reduceLE, Int.reduceNeg, w_up1, w_up2, w_up3]
      repeat refine And.intro (by first | assumption | exact IsW.kt (by assumption) | omega | (unfold in32; omega) | (unfold in64; omega) | exact True.intro | exact Or.inl True.intro | exact Or.inr True.intro | rfl | exact Nat.le_of_ble_eq_true rfl) ?_
      try first | done | assumption | (unfold in32; omega) | (unfold in64; omega)
      exact nx M1 hF (fun p p0 p1 => hp p p0 p1 p1)
    | succ d ih =>
      intro j M1 hj h0 hF hp ha hb
      have hS1 := hF.1
      have j7 : j < 7 := by omega
      have lo1 : ∀ a : Int, ¬ ((152 ≤ a ∧ a ≤ 165) ∨ a = 268 ∨ a = 269) → M1 a = M a := fun a h => hF.2 a h
      have e145 : M1 145 j = M 145 j := by rw [lo1 145 (by omega)]
      have e166 : M1 166 j = M 166 j := by rw [lo1 166 (by omega)]
      have lj := hl j h0 j7
      refine k_Re_settle_136 _ _ _ _ _ _ _ _ ?_
      simp (disch := omega) only [↓w_nil, ↓w_cons, ↓w_ild5, ↓w_ic, ↓w_icge, true_and, and_true, true_implies, false_implies, not_true_eq_false, not_false_eq_true, Int.reduceEq, Int.reduceLT, Int.reduceLE, Int.reduceNeg, w_up1, w_up2, w_up3]
      repeat refine And.intro (by first | assumption | exact IsW.kt (by assumption) | omega | (unfold in32; omega) | (unfold in64; omega) | exact True.intro | exact Or.inl True.intro | exact Or.inr True.intro | rfl | exact Nat.le_of_ble_eq_true rfl) ?_
      try first | done | assumption | (unfold in32; omega) | (unfold in64; omega)
      intro _
      refine k_Re_settle_143 _ _ _ _ _ _ _ _ ?_
      simp (disch := omega) only [↓w_nil, ↓w_cons, ↓w_ald0, ↓w_ild5, ↓w_cv1, true_and, and_true, true_implies, false_implies, not_true_eq_false, not_false_eq_true, Int.reduceEq, Int.reduceLT, Int.reduceLE, Int.reduceNeg, w_c80, w_c8I, w_c8L, w_c8R, w_up1, w_up2, w_up3]
      repeat refine And.intro (by first | assumption | exact IsW.kt (by assumption) | omega | (unfold in32; omega) | (unfold in64; omega) | exact True.intro | exact Or.inl True.intro | exact Or.inr True.intro | rfl | exact Nat.le_of_ble_eq_true rfl) ?_
      try first | done | assumption | (unfold in32; omega) | (unfold in64; omega)
      refine ⟨_, p_Re_findPush (d := D j) (w := w) hS1 (by rw [lo1 148 (by omega)]; exact hq) ⟨h0, j7⟩ (by rw [e145]; exact lj) e166 (hs j h0 j7) (fun hne => ?_), ?_⟩
      · rw [e145] at hne ⊢
        have := hd j h0 j7 hne
        exact ⟨this.1.cg (lo1 _ (by omega)) (lo1 _ (by omega)), hw.cg (lo1 _ (by omega)) (lo1 _ (by omega)), hwb, this.2⟩
      · rintro q M2 ⟨rfl, h2⟩
        refine k_Re_settle_149 _ _ _ _ _ _ _ _ ?_
        simp (disch := omega) only [↓w_nil, ↓w_cons, ↓w_inc5, ↓w_goto, true_and, and_true, true_implies, false_implies, not_true_eq_false, not_false_eq_true, Int.reduceEq, Int.reduceLT, Int.reduceLE, Int.reduceNeg, w_nlI, w_nlL, w_nlR, w_up1, w_up2, w_up3, w_tl0]
        repeat refine And.intro (by first | assumption | exact IsW.kt (by assumption) | omega | (unfold in32; omega) | (unfold in64; omega) | exact True.intro | exact Or.inl True.intro | exact Or.inr True.intro | rfl | exact Nat.le_of_ble_eq_true rfl) ?_
        try first | done | assumption | (unfold in32; omega) | (unfold in64; omega)
        rw [e145] at h2
        rcases h2 with ⟨hm, rfl⟩ | ⟨hm, g2, hS2, k2⟩
        · refine ih (j + 1) M2 (by omega) (by omega) hF (fun p p0 p7 p1 => ?_) (fun p hp2 => ha p (by omega)) (fun p hp2 => hb p (by omega))
          by_cases q : p = j
          · subst q
            exact Or.inl ⟨hm, (ha p (by omega)).resolve_right (by omega), (hb p (by omega)).resolve_right (by omega)⟩
          · exact hp p p0 p7 (by omega)
        · refine ih (j + 1) M2 (by omega) (by omega) ⟨hS2, fun a h => ?_⟩ (fun p p0 p7 p1 => ?_) (fun p hp2 => ?_) (fun p hp2 => ?_)
          · have h : ¬ ((152 ≤ a ∧ a ≤ 165) ∨ a = 268 ∨ a = 269) := h
            rw [k2 a (by omega) (by omega) (by omega) (by omega)]; exact lo1 a h
          · by_cases q : p = j
            · subst q
              exact Or.inr ⟨hm, g2⟩
            · rcases hp p p0 p7 (by omega) with h | h
              · refine Or.inl ⟨h.1, ?_, ?_⟩
                · rw [k2 _ (by omega) (by omega) (by omega) (by omega)]; exact h.2.1
                · rw [k2 _ (by omega) (by omega) (by omega) (by omega)]; exact h.2.2
              · exact Or.inr ⟨h.1, h.2.cg (k2 _ (by omega) (by omega) (by omega) (by omega)) (k2 _ (by omega) (by omega) (by omega) (by omega))⟩
          · by_cases q : 7 ≤ p
            · exact Or.inr q
            · rw [k2 _ (by omega) (by omega) (by omega) (by omega)]; exact ha p (by omega)
          · by_cases q : 7 ≤ p
            · exact Or.inr q
            · rw [k2 _ (by omega) (by omega) (by omega) (by omega)]; exact hb p (by omega)
  refine k_Re_settle_133 _ _ _ _ _ _ _ _ ?_
  simp (disch := omega) only [↓w_nil, ↓w_cons, ↓w_ic, ↓w_ist5, ↓w_fall, true_and, and_true, true_implies, false_implies, not_true_eq_false, not_false_eq_true, Int.reduceEq, Int.reduceLT, Int.reduceLE, Int.reduceNeg, w_nlI, w_nlL, w_nlR, w_up1, w_up2, w_up3]
  repeat refine And.intro (by first | assumption | exact IsW.kt (by assumption) | omega | (unfold in32; omega) | (unfold in64; omega) | exact True.intro | exact Or.inl True.intro | exact Or.inr True.intro | rfl | exact Nat.le_of_ble_eq_true rfl) ?_
  try first | done | assumption | (unfold in32; omega) | (unfold in64; omega)
  exact loop 7 0 M (by omega) (by omega) (Fg.rf hS) (fun p p0 p7 p1 => by omega) (fun p _ => Or.inl rfl) (fun p _ => Or.inl rfl)
