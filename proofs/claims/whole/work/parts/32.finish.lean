/-! Whole.finish -/
theorem p_Wh_finish {g : cw_G} {M : cw_M} {w s : Int} {n : Nat} (hS : Sh M) (hw : IsW w) (hn : n ≤ 16) (hd : cw_dg (M (w + 1)) n) :
    mC g y_Wh_finish [.inr (.inr w), .inl n, .inl s] M (fun r M' => r = none ∧ ∃ k : Nat, k ≤ n ∧ (0 < k → M (w + 1) ((k : Int) - 1) ≠ 0) ∧ (∀ j : Nat, k ≤ j → j < n → M (w + 1) j = 0) ∧ M' = cw_up (cw_up M w 1 k) w 2 (if k = 0 then 0 else s)) := by
  obtain ⟨k1, k2, k3, k4⟩ := id hw
  have hl := hw.limb hS
  have loop : ∀ Q : Option cw_V → cw_M → Prop, (∀ k : Nat, k ≤ n → (0 < k → M (w + 1) ((k : Int) - 1) ≠ 0) → (∀ j : Nat, k ≤ j → j < n → M (w + 1) j = 0) → Q none (cw_up (cw_up M w 1 k) w 2 (if k = 0 then 0 else s))) →
      ∀ i : Nat, i ≤ n → (∀ j : Nat, i ≤ j → j < n → M (w + 1) j = 0) → mJ g y_Wh_finish 5 [.inr (.inr w), .inl n, .inl s] [] (cw_up M w 1 i) Q := by
    intro Q hq i
    have last : ∀ i : Nat, i ≤ n → (0 < i → M (w + 1) ((i : Int) - 1) ≠ 0) → (∀ j : Nat, i ≤ j → j < n → M (w + 1) j = 0) → mJ g y_Wh_finish 41 [.inr (.inr w), .inl n, .inl s] [] (cw_up M w 1 i) Q := by
      intro i hi h1 h2
      refine k_Wh_finish_41 _ _ _ _ _ _ _ _ ?_
      simp only [↓w_nil, ↓w_cons, ↓w_ald0, ↓w_gf0_1, ↓w_ifne, true_and, and_true, true_implies, false_implies, not_true_eq_false, not_false_eq_true, Int.reduceEq, Int.reduceLT, Int.reduceLE, Int.reduceNeg, w_up1]
      repeat refine And.intro (by first | assumption | exact IsW.kt (by assumption) | omega | (unfold in32; omega) | (unfold in64; omega) | trivial | rfl | exact Nat.le_of_ble_eq_true rfl) ?_
      try first | done | assumption | (unfold in32; omega) | (unfold in64; omega)
      refine ⟨fun h0 => ?_, fun h0 => ?_⟩
      · refine k_Wh_finish_53 _ _ _ _ _ _ _ _ ?_
        simp only [↓w_nil, ↓w_cons, ↓w_ild2, ↓w_fall, true_and, and_true, true_implies, false_implies, not_true_eq_false, not_false_eq_true, Int.reduceEq, Int.reduceLT, Int.reduceLE, Int.reduceNeg]
        refine k_Wh_finish_54 _ _ _ _ _ _ _ _ ?_
        simp only [↓w_nil, ↓w_cons, ↓w_pfI_2, ↓w_vret, true_and, and_true, true_implies, false_implies, not_true_eq_false, not_false_eq_true, Int.reduceEq, Int.reduceLT, Int.reduceLE, Int.reduceNeg]
        repeat refine And.intro (by first | assumption | exact IsW.kt (by assumption) | omega | (unfold in32; omega) | (unfold in64; omega) | trivial | rfl | exact Nat.le_of_ble_eq_true rfl) ?_
        try first | done | assumption | (unfold in32; omega) | (unfold in64; omega)
        have := hq i hi h1 h2
        rw [if_neg (by omega)] at this
        exact this
      · refine k_Wh_finish_49 _ _ _ _ _ _ _ _ ?_
        simp only [↓w_nil, ↓w_cons, ↓w_ic, ↓w_goto, true_and, and_true, true_implies, false_implies, not_true_eq_false, not_false_eq_true, Int.reduceEq, Int.reduceLT, Int.reduceLE, Int.reduceNeg]
        refine k_Wh_finish_54 _ _ _ _ _ _ _ _ ?_
        simp only [↓w_nil, ↓w_cons, ↓w_pfI_2, ↓w_vret, true_and, and_true, true_implies, false_implies, not_true_eq_false, not_false_eq_true, Int.reduceEq, Int.reduceLT, Int.reduceLE, Int.reduceNeg]
        repeat refine And.intro (by first | assumption | exact IsW.kt (by assumption) | omega | (unfold in32; omega) | (unfold in64; omega) | trivial | rfl | exact Nat.le_of_ble_eq_true rfl) ?_
        try first | done | assumption | (unfold in32; omega) | (unfold in64; omega)
        have := hq i hi h1 h2
        rw [if_pos (by omega)] at this
        exact this
    induction i with
    | zero =>
      intro hi h2
      refine k_Wh_finish_5 _ _ _ _ _ _ _ _ ?_
      simp only [↓w_nil, ↓w_cons, ↓w_ald0, ↓w_gf0_1, ↓w_ifle, true_and, and_true, true_implies, false_implies, not_true_eq_false, not_false_eq_true, Int.reduceEq, Int.reduceLT, Int.reduceLE, Int.reduceNeg, w_up1]
      repeat refine And.intro (by first | assumption | exact IsW.kt (by assumption) | omega | (unfold in32; omega) | (unfold in64; omega) | trivial | rfl | exact Nat.le_of_ble_eq_true rfl) ?_
      try first | done | assumption | (unfold in32; omega) | (unfold in64; omega)
      exact ⟨fun _ => last 0 (by omega) (by omega) h2, fun h => absurd h (by omega)⟩
    | succ i ih =>
      intro hi h2
      have hdi := hd i (by omega)
      have e1 : ((i + 1 : Nat) : Int) - 1 = (i : Int) := by omega
      have e2 : cw_up M w 1 ((i + 1 : Nat) : Int) w 0 = w + 1 := by rw [w_up2 (by omega)]; exact hl
      have e3 : cw_up M w 1 ((i + 1 : Nat) : Int) (w + 1) i = M (w + 1) i := w_up3 (by omega)
      refine k_Wh_finish_5 _ _ _ _ _ _ _ _ ?_
      simp only [↓w_nil, ↓w_cons, ↓w_ald0, ↓w_gf0_1, ↓w_ifle, true_and, and_true, true_implies, false_implies, not_true_eq_false, not_false_eq_true, Int.reduceEq, Int.reduceLT, Int.reduceLE, Int.reduceNeg, w_up1]
      repeat refine And.intro (by first | assumption | exact IsW.kt (by assumption) | omega | (unfold in32; omega) | (unfold in64; omega) | trivial | rfl | exact Nat.le_of_ble_eq_true rfl) ?_
      try first | done | assumption | (unfold in32; omega) | (unfold in64; omega)
      intro _
      refine k_Wh_finish_12 _ _ _ _ _ _ _ _ ?_
      simp only [↓w_nil, ↓w_cons, ↓w_ald0, ↓w_gf2_0, ↓w_gf0_1, ↓w_ic, ↓w_isub, ↓w_lald, ↓w_lc, ↓w_lcne, true_and, and_true, true_implies, false_implies, not_true_eq_false, not_false_eq_true, Int.reduceEq, Int.reduceLT, Int.reduceLE, Int.reduceNeg, w_up1, e1, e2, e3, k2]
      repeat refine And.intro (by first | assumption | exact IsW.kt (by assumption) | omega | (unfold in32; omega) | (unfold in64; omega) | trivial | rfl | exact Nat.le_of_ble_eq_true rfl) ?_
      try first | done | assumption | (unfold in32; omega) | (unfold in64; omega)
      refine ⟨fun h => last (i + 1) hi (fun _ => by rw [e1]; exact h) h2, fun h => ?_⟩
      refine k_Wh_finish_28 _ _ _ _ _ _ _ _ ?_
      simp only [↓w_nil, ↓w_cons, ↓w_ald0, ↓w_dupI, ↓w_dupR, ↓w_gf0_1, ↓w_ic, ↓w_isub, ↓w_pfI_1, ↓w_goto, true_and, and_true, true_implies, false_implies, not_true_eq_false, not_false_eq_true, Int.reduceEq, Int.reduceLT, Int.reduceLE, Int.reduceNeg, w_up1, e1, w_upup]
      repeat refine And.intro (by first | assumption | exact IsW.kt (by assumption) | omega | (unfold in32; omega) | (unfold in64; omega) | trivial | rfl | exact Nat.le_of_ble_eq_true rfl) ?_
      try first | done | assumption | (unfold in32; omega) | (unfold in64; omega)
      exact ih (by omega) (fun j a b => by
        by_cases q : j = i
        · rw [q]; exact h
        · exact h2 j (by omega) b)
  refine cw_C_of (L := [.inr (.inr w), .inl n, .inl s]) ok_Wh_finish (Nat.le_refl _) (Nat.le_of_ble_eq_true rfl) rfl ?_
  refine k_Wh_finish_0 _ _ _ _ _ _ _ _ ?_
  simp only [↓w_nil, ↓w_cons, ↓w_ald0, ↓w_ild1, ↓w_pfI_1, ↓w_fall, true_and, and_true, true_implies, false_implies, not_true_eq_false, not_false_eq_true, Int.reduceEq, Int.reduceLT, Int.reduceLE, Int.reduceNeg]
  repeat refine And.intro (by first | assumption | exact IsW.kt (by assumption) | omega | (unfold in32; omega) | (unfold in64; omega) | trivial | rfl | exact Nat.le_of_ble_eq_true rfl) ?_
  try first | done | assumption | (unfold in32; omega) | (unfold in64; omega)
  exact loop _ (fun k a b c => ⟨rfl, k, a, b, c, rfl⟩) n (Nat.le_refl _) (fun j a b => by omega)
