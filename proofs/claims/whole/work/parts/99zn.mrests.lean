/-! the reference: allHold, nextParts -/
/-- which pieces are in the path -/
def m_in (T : Tr) (M : cw_M) : Prop := ∀ p : Int, 0 ≤ p → p < 7 → (M 335 p = 1 ∧ t_in T p) ∨ (M 335 p = 0 ∧ ¬ t_in T p)
theorem p_Mo_allHold {g : cw_G} {M : cw_M} {X W k : Int → Int} {T : Tr} {fl : Int → Int} {n : Int} (hS : Sh M) (hW : WF n (M 324) fl) (hT : ∀ q : Int, t_in T q → 0 ≤ q ∧ q < M 324 0) (hi : m_in T M) (hx : ∀ p, t_in T p → m_px M p (X p) (W p)) (hk : M 334 = k) (hkb : ∀ p : Int, 0 ≤ p → p < 7 → -2 ≤ k p ∧ k p ≤ 2) :
    mC g y_Mo_allHold [.inr (.inr 319)] M (fun q M' => (∃ c : Int, q = some (.inl c) ∧ (c = 0 ∨ c = 1) ∧ (c = 1 ↔ ∀ p, t_in T p → l_hd (M 324) p (k p) (W p) (X p))) ∧ cw_rf R14 M M') := by
  have w0 := hW.1
  refine cw_C_of (L := [.inr (.inr 319), cU]) ok_Mo_allHold (Nat.le_refl _) (Nat.le_of_ble_eq_true rfl) rfl ?_
  refine cw_J_hide ?_
  have loop : ∀ (d : Nat) (i : Int) (M1 : cw_M), i + d = M 324 0 → 0 ≤ i → cw_rf R14 M M1 → (∀ p : Int, 0 ≤ p → p < i → t_in T p → l_hd (M 324) p (k p) (W p) (X p)) →
      mJ g y_Mo_allHold 2 [.inr (.inr 319), .inl i] [] M1 (cw_hide (fun q M' => (∃ c : Int, q = some (.inl c) ∧ (c = 0 ∨ c = 1) ∧ (c = 1 ↔ ∀ p, t_in T p → l_hd (M 324) p (k p) (W p) (X p))) ∧ cw_rf R14 M M')) := by
    intro d
    induction d with
    | zero =>
      intro i M1 hi2 h0 r hp
      have ei : i = M 324 0 := by omega
      have hS1 := hS.rf r
      have e4 : M1 324 = M 324 := r.1 324 (by omega)
      refine k_Mo_allHold_2 _ _ _ _ _ _ _ _ ?_
      simp (disch := omega) only [↓w_nil, ↓w_cons, ↓w_ild1, ↓w_ald0, ↓w_gf2_4, ↓w_ic, ↓w_iald, ↓w_icge, true_and, and_true, true_implies, false_implies, not_true_eq_false, not_false_eq_true, Int.reduceEq, Int.reduceLT, Int.reduceLE, Int.reduceNeg, w_up1, w_up2, w_up3, e4, c_k319, c_k320, c_k321, c_k322, c_k323, c_k324, c_k325, c_k326, c_k327, c_k328, c_k329, c_k330, c_k331, c_k332, c_k333, c_k334, c_k335, c_k336, c_k337, c_k338, c_k339, c_k340, c_k341, c_k342, c_k343, c_k344, c_k345, c_k346, c_k347, hS1.r319_0, hS1.r319_1, hS1.r319_2, hS1.r319_3, hS1.r319_4, hS1.r319_5, hS1.r319_6, hS1.r319_8, hS1.r319_9, hS1.r319_10, hS1.r319_11, hS1.r319_12, hS1.r319_13, hS1.r319_14, hS1.r319_15, hS1.r319_16, hS1.r319_17, hS1.r319_20, hS1.r319_21, hS1.r319_22, hS1.r319_23, hS1.r319_24, hS1.r319_25, hS1.r319_26, hS1.r319_29, hS1.r319_30, hS1.r319_31, hS1.r319_32, w_sf1, w_sf3]
      repeat refine And.intro (by first | assumption | exact IsW.kt (by assumption) | omega | (unfold in32; omega) | (unfold in64; omega) | exact True.intro | exact Or.inl True.intro | exact Or.inr True.intro | rfl | exact Nat.le_of_ble_eq_true rfl) ?_
      try first | done | assumption | (unfold in32; omega) | (unfold in64; omega)
      refine ⟨fun _ => ?_, fun h => absurd h (by omega)⟩
      refine k_Mo_allHold_37 _ _ _ _ _ _ _ _ ?_
      simp (disch := omega) only [↓w_nil, ↓w_cons, ↓w_ic, ↓w_zret, true_and, and_true, true_implies, false_implies, not_true_eq_false, not_false_eq_true, Int.reduceEq, Int.reduceLT, Int.reduceLE, Int.reduceNeg, w_up1, w_up2, w_up3]
      repeat refine And.intro (by first | assumption | exact IsW.kt (by assumption) | omega | (unfold in32; omega) | (unfold in64; omega) | exact True.intro | exact Or.inl True.intro | exact Or.inr True.intro | rfl | exact Nat.le_of_ble_eq_true rfl) ?_
      try first | done | assumption | (unfold in32; omega) | (unfold in64; omega)
      exact ⟨⟨1, rfl, Or.inr rfl, fun _ p q => hp p (hT p q).1 (by have := (hT p q).2; omega) q, fun _ => rfl⟩, r⟩
    | succ d ih =>
      intro i M1 hi2 h0 r hp
      have hS1 := hS.rf r
      have i7 : i < 7 := by omega
      have e4 : M1 324 = M 324 := r.1 324 (by omega)
      have e5 : M1 335 i = M 335 i := by rw [r.1 335 (by omega)]
      have ii := hi i h0 i7
      have i32 : in32 (M 335 i) := by unfold in32; omega
      have next : ∀ M2 : cw_M, cw_rf R14 M M2 → (t_in T i → l_hd (M 324) i (k i) (W i) (X i)) → mJ g y_Mo_allHold 31 [.inr (.inr 319), .inl i] [] M2 (cw_hide (fun q M' => (∃ c : Int, q = some (.inl c) ∧ (c = 0 ∨ c = 1) ∧ (c = 1 ↔ ∀ p, t_in T p → l_hd (M 324) p (k p) (W p) (X p))) ∧ cw_rf R14 M M')) := by
        intro M2 r2 hl
        refine k_Mo_allHold_31 _ _ _ _ _ _ _ _ ?_
        simp (disch := omega) only [↓w_nil, ↓w_cons, ↓w_inc1, ↓w_goto, true_and, and_true, true_implies, false_implies, not_true_eq_false, not_false_eq_true, Int.reduceEq, Int.reduceLT, Int.reduceLE, Int.reduceNeg, w_nlI, w_nlL, w_nlR, w_up1, w_up2, w_up3]
        repeat refine And.intro (by first | assumption | exact IsW.kt (by assumption) | omega | (unfold in32; omega) | (unfold in64; omega) | exact True.intro | exact Or.inl True.intro | exact Or.inr True.intro | rfl | exact Nat.le_of_ble_eq_true rfl) ?_
        try first | done | assumption | (unfold in32; omega) | (unfold in64; omega)
        refine ih (i + 1) M2 (by omega) (by omega) r2 (fun p p0 p1 hpT => ?_)
        by_cases q : p = i
        · subst q; exact hl hpT
        · exact hp p p0 (by omega) hpT
      refine k_Mo_allHold_2 _ _ _ _ _ _ _ _ ?_
      simp (disch := omega) only [↓w_nil, ↓w_cons, ↓w_ild1, ↓w_ald0, ↓w_gf2_4, ↓w_ic, ↓w_iald, ↓w_icge, true_and, and_true, true_implies, false_implies, not_true_eq_false, not_false_eq_true, Int.reduceEq, Int.reduceLT, Int.reduceLE, Int.reduceNeg, w_up1, w_up2, w_up3, e4, c_k319, c_k320, c_k321, c_k322, c_k323, c_k324, c_k325, c_k326, c_k327, c_k328, c_k329, c_k330, c_k331, c_k332, c_k333, c_k334, c_k335, c_k336, c_k337, c_k338, c_k339, c_k340, c_k341, c_k342, c_k343, c_k344, c_k345, c_k346, c_k347, hS1.r319_0, hS1.r319_1, hS1.r319_2, hS1.r319_3, hS1.r319_4, hS1.r319_5, hS1.r319_6, hS1.r319_8, hS1.r319_9, hS1.r319_10, hS1.r319_11, hS1.r319_12, hS1.r319_13, hS1.r319_14, hS1.r319_15, hS1.r319_16, hS1.r319_17, hS1.r319_20, hS1.r319_21, hS1.r319_22, hS1.r319_23, hS1.r319_24, hS1.r319_25, hS1.r319_26, hS1.r319_29, hS1.r319_30, hS1.r319_31, hS1.r319_32, w_sf1, w_sf3]
      repeat refine And.intro (by first | assumption | exact IsW.kt (by assumption) | omega | (unfold in32; omega) | (unfold in64; omega) | exact True.intro | exact Or.inl True.intro | exact Or.inr True.intro | rfl | exact Nat.le_of_ble_eq_true rfl) ?_
      try first | done | assumption | (unfold in32; omega) | (unfold in64; omega)
      intro _
      refine k_Mo_allHold_12 _ _ _ _ _ _ _ _ ?_
      simp (disch := omega) only [↓w_nil, ↓w_cons, ↓w_ald0, ↓w_gf2_16, ↓w_ild1, ↓w_zald, ↓w_ifeq, true_and, and_true, true_implies, false_implies, not_true_eq_false, not_false_eq_true, Int.reduceEq, Int.reduceLT, Int.reduceLE, Int.reduceNeg, w_up1, w_up2, w_up3, e5, c_k319, c_k320, c_k321, c_k322, c_k323, c_k324, c_k325, c_k326, c_k327, c_k328, c_k329, c_k330, c_k331, c_k332, c_k333, c_k334, c_k335, c_k336, c_k337, c_k338, c_k339, c_k340, c_k341, c_k342, c_k343, c_k344, c_k345, c_k346, c_k347, hS1.r319_0, hS1.r319_1, hS1.r319_2, hS1.r319_3, hS1.r319_4, hS1.r319_5, hS1.r319_6, hS1.r319_8, hS1.r319_9, hS1.r319_10, hS1.r319_11, hS1.r319_12, hS1.r319_13, hS1.r319_14, hS1.r319_15, hS1.r319_16, hS1.r319_17, hS1.r319_20, hS1.r319_21, hS1.r319_22, hS1.r319_23, hS1.r319_24, hS1.r319_25, hS1.r319_26, hS1.r319_29, hS1.r319_30, hS1.r319_31, hS1.r319_32, w_sf1, w_sf3]
      repeat refine And.intro (by first | assumption | exact IsW.kt (by assumption) | omega | (unfold in32; omega) | (unfold in64; omega) | exact True.intro | exact Or.inl True.intro | exact Or.inr True.intro | rfl | exact Nat.le_of_ble_eq_true rfl) ?_
      try first | done | assumption | (unfold in32; omega) | (unfold in64; omega)
      refine ⟨fun hc => ?_, fun hc => ?_⟩
      · exact next M1 r (fun z => by rcases ii with y | y; omega; exact absurd z y.2)
      · have iT : t_in T i := by rcases ii with y | y; exact y.2; exact absurd y.1 hc
        refine k_Mo_allHold_21 _ _ _ _ _ _ _ _ ?_
        simp (disch := omega) only [↓w_nil, ↓w_cons, ↓w_ald0, ↓w_ild1, ↓w_cv1, true_and, and_true, true_implies, false_implies, not_true_eq_false, not_false_eq_true, Int.reduceEq, Int.reduceLT, Int.reduceLE, Int.reduceNeg, w_c80, w_c8I, w_c8L, w_c8R, w_up1, w_up2, w_up3]
        repeat refine And.intro (by first | assumption | exact IsW.kt (by assumption) | omega | (unfold in32; omega) | (unfold in64; omega) | exact True.intro | exact Or.inl True.intro | exact Or.inr True.intro | rfl | exact Nat.le_of_ble_eq_true rfl) ?_
        try first | done | assumption | (unfold in32; omega) | (unfold in64; omega)
        refine ⟨_, p_Mo_holds (k := k i) hS1 (by rw [e4]; exact hW) (by rw [e4]; exact ⟨h0, by omega⟩) (px_rf (hx i iT) r ⟨h0, i7⟩ (fun s y => y)) (by rw [r.1 334 (by omega), hk]) (hkb i h0 i7), ?_⟩
        rintro q M2 ⟨⟨c, rfl, hc01, hci⟩, r2⟩
        rw [e4] at hci
        have c32 : in32 c := by unfold in32; omega
        refine k_Mo_allHold_26 _ _ _ _ _ _ _ _ ?_
        simp (disch := omega) only [↓w_nil, ↓w_ifne, true_and, and_true, true_implies, false_implies, not_true_eq_false, not_false_eq_true, Int.reduceEq, Int.reduceLT, Int.reduceLE, Int.reduceNeg, w_up1, w_up2, w_up3, w_tl1]
        repeat refine And.intro (by first | assumption | exact IsW.kt (by assumption) | omega | (unfold in32; omega) | (unfold in64; omega) | exact True.intro | exact Or.inl True.intro | exact Or.inr True.intro | rfl | exact Nat.le_of_ble_eq_true rfl) ?_
        try first | done | assumption | (unfold in32; omega) | (unfold in64; omega)
        refine ⟨fun hn => ?_, fun hn => ?_⟩
        · exact next M2 (rf_tr r r2) (fun _ => hci.mp (by omega))
        · refine k_Mo_allHold_29 _ _ _ _ _ _ _ _ ?_
          simp (disch := omega) only [↓w_nil, ↓w_cons, ↓w_ic, ↓w_zret, true_and, and_true, true_implies, false_implies, not_true_eq_false, not_false_eq_true, Int.reduceEq, Int.reduceLT, Int.reduceLE, Int.reduceNeg, w_up1, w_up2, w_up3]
          repeat refine And.intro (by first | assumption | exact IsW.kt (by assumption) | omega | (unfold in32; omega) | (unfold in64; omega) | exact True.intro | exact Or.inl True.intro | exact Or.inr True.intro | rfl | exact Nat.le_of_ble_eq_true rfl) ?_
          try first | done | assumption | (unfold in32; omega) | (unfold in64; omega)
          refine ⟨⟨0, rfl, Or.inl rfl, fun z => absurd z (by omega), fun z => ?_⟩, rf_tr r r2⟩
          have := hci.mpr (z i iT)
          omega
  refine k_Mo_allHold_0 _ _ _ _ _ _ _ _ ?_
  simp (disch := omega) only [↓w_nil, ↓w_cons, ↓w_ic, ↓w_ist1, ↓w_fall, true_and, and_true, true_implies, false_implies, not_true_eq_false, not_false_eq_true, Int.reduceEq, Int.reduceLT, Int.reduceLE, Int.reduceNeg, w_nlI, w_nlL, w_nlR, w_up1, w_up2, w_up3]
  repeat refine And.intro (by first | assumption | exact IsW.kt (by assumption) | omega | (unfold in32; omega) | (unfold in64; omega) | exact True.intro | exact Or.inl True.intro | exact Or.inr True.intro | rfl | exact Nat.le_of_ble_eq_true rfl) ?_
  try first | done | assumption | (unfold in32; omega) | (unfold in64; omega)
  exact loop (M 324 0).toNat 0 M (by omega) (by omega) rf_rf (fun p p0 p1 => by omega)
/-- the next parts, or none -/
def N_ok (f : Int → Int) (T : Tr) (k k' : Int → Int) (c : Int) : Prop :=
  (c = 1 ∧ ∃ j : Int, (0 ≤ j ∧ j < 7) ∧ o_A f T j ∧ k j < 2 ∧ k' j = k j + 1 ∧ (∀ i : Int, 0 ≤ i → i < j → o_A f T i → k i = 2 ∧ k' i = -2) ∧ ∀ i : Int, i ≠ j → ¬ (0 ≤ i ∧ i < j ∧ o_A f T i) → k' i = k i) ∨ (c = 0 ∧ ∀ i : Int, 0 ≤ i → i < f 0 → o_A f T i → k i = 2)
theorem p_Mo_nextParts {g : cw_G} {M : cw_M} {k : Int → Int} {T : Tr} {fl : Int → Int} {n : Int} (hS : Sh M) (hW : WF n (M 324) fl) (hi : m_in T M) (hk : M 334 = k) (hkb : ∀ p : Int, 0 ≤ p → p < 7 → -2 ≤ k p ∧ k p ≤ 2) :
    mC g y_Mo_nextParts [.inr (.inr 319)] M (fun q M' => (∃ c : Int, q = some (.inl c) ∧ N_ok (M 324) T k (M' 334) c) ∧ Sh M' ∧ ∀ a, a ≠ 334 → M' a = M a) := by
  have w0 := hW.1
  refine cw_C_of (L := [.inr (.inr 319), cU]) ok_Mo_nextParts (Nat.le_refl _) (Nat.le_of_ble_eq_true rfl) rfl ?_
  refine cw_J_hide ?_
  have loop : ∀ (d : Nat) (i : Int) (M1 : cw_M), i + d = M 324 0 → 0 ≤ i → Sh M1 → (∀ a, a ≠ 334 → M1 a = M a) → (∀ p : Int, 0 ≤ p → p < i → o_A (M 324) T p → k p = 2 ∧ M1 334 p = -2) → (∀ p : Int, ¬ (0 ≤ p ∧ p < i ∧ o_A (M 324) T p) → M1 334 p = k p) →
      mJ g y_Mo_nextParts 2 [.inr (.inr 319), .inl i] [] M1 (cw_hide (fun q M' => (∃ c : Int, q = some (.inl c) ∧ N_ok (M 324) T k (M' 334) c) ∧ Sh M' ∧ ∀ a, a ≠ 334 → M' a = M a)) := by
    intro d
    induction d with
    | zero =>
      intro i M1 hi2 h0 hS1 o ha hb
      have ei : i = M 324 0 := by omega
      have e4 : M1 324 = M 324 := o 324 (by omega)
      refine k_Mo_nextParts_2 _ _ _ _ _ _ _ _ ?_
      simp (disch := omega) only [↓w_nil, ↓w_cons, ↓w_ild1, ↓w_ald0, ↓w_gf2_4, ↓w_ic, ↓w_iald, ↓w_icge, true_and, and_true, true_implies, false_implies, not_true_eq_false, not_false_eq_true, Int.reduceEq, Int.reduceLT, Int.reduceLE, Int.reduceNeg, w_up1, w_up2, w_up3, e4, c_k319, c_k320, c_k321, c_k322, c_k323, c_k324, c_k325, c_k326, c_k327, c_k328, c_k329, c_k330, c_k331, c_k332, c_k333, c_k334, c_k335, c_k336, c_k337, c_k338, c_k339, c_k340, c_k341, c_k342, c_k343, c_k344, c_k345, c_k346, c_k347, hS1.r319_0, hS1.r319_1, hS1.r319_2, hS1.r319_3, hS1.r319_4, hS1.r319_5, hS1.r319_6, hS1.r319_8, hS1.r319_9, hS1.r319_10, hS1.r319_11, hS1.r319_12, hS1.r319_13, hS1.r319_14, hS1.r319_15, hS1.r319_16, hS1.r319_17, hS1.r319_20, hS1.r319_21, hS1.r319_22, hS1.r319_23, hS1.r319_24, hS1.r319_25, hS1.r319_26, hS1.r319_29, hS1.r319_30, hS1.r319_31, hS1.r319_32, w_sf1, w_sf3]
      repeat refine And.intro (by first | assumption | exact IsW.kt (by assumption) | omega | (unfold in32; omega) | (unfold in64; omega) | exact True.intro | exact Or.inl True.intro | exact Or.inr True.intro | rfl | exact Nat.le_of_ble_eq_true rfl) ?_
      try first | done | assumption | (unfold in32; omega) | (unfold in64; omega)
      refine ⟨fun _ => ?_, fun h => absurd h (by omega)⟩
      refine k_Mo_nextParts_66 _ _ _ _ _ _ _ _ ?_
      simp (disch := omega) only [↓w_nil, ↓w_cons, ↓w_ic, ↓w_zret, true_and, and_true, true_implies, false_implies, not_true_eq_false, not_false_eq_true, Int.reduceEq, Int.reduceLT, Int.reduceLE, Int.reduceNeg, w_up1, w_up2, w_up3]
      repeat refine And.intro (by first | assumption | exact IsW.kt (by assumption) | omega | (unfold in32; omega) | (unfold in64; omega) | exact True.intro | exact Or.inl True.intro | exact Or.inr True.intro | rfl | exact Nat.le_of_ble_eq_true rfl) ?_
      try first | done | assumption | (unfold in32; omega) | (unfold in64; omega)
      exact ⟨⟨0, rfl, Or.inr ⟨rfl, fun p p0 p1 hA => (ha p p0 (by omega) hA).1⟩⟩, hS1, o⟩
    | succ d ih =>
      intro i M1 hi2 h0 hS1 o ha hb
      have i7 : i < 7 := by omega
      have e4 : M1 324 = M 324 := o 324 (by omega)
      have e5 : M1 335 i = M 335 i := by rw [o 335 (by omega)]
      have ei : M1 334 i = k i := hb i (fun z => by omega)
      have kb := hkb i h0 i7
      have k32 : in32 (k i) := by unfold in32; omega
      have ii := hi i h0 i7
      have i32 : in32 (M 335 i) := by unfold in32; omega
      have g01 := gap_1 hW (p := i) ⟨h0, by omega⟩
      have g32 : in32 (M 324 (10 + 12 * i)) := by unfold in32; omega
      have next : ∀ M2 : cw_M, Sh M2 → (∀ a, a ≠ 334 → M2 a = M a) → (∀ p : Int, p ≠ i → M2 334 p = M1 334 p) → (o_A (M 324) T i → k i = 2 ∧ M2 334 i = -2) → (¬ o_A (M 324) T i → M2 334 i = k i) → mJ g y_Mo_nextParts 60 [.inr (.inr 319), .inl i] [] M2 (cw_hide (fun q M' => (∃ c : Int, q = some (.inl c) ∧ N_ok (M 324) T k (M' 334) c) ∧ Sh M' ∧ ∀ a, a ≠ 334 → M' a = M a)) := by
        intro M2 hS2 o2 q1 q2 q3
        refine k_Mo_nextParts_60 _ _ _ _ _ _ _ _ ?_
        simp (disch := omega) only [↓w_nil, ↓w_cons, ↓w_inc1, ↓w_goto, true_and, and_true, true_implies, false_implies, not_true_eq_false, not_false_eq_true, Int.reduceEq, Int.reduceLT, Int.reduceLE, Int.reduceNeg, w_nlI, w_nlL, w_nlR, w_up1, w_up2, w_up3]
        repeat refine And.intro (by first | assumption | exact IsW.kt (by assumption) | omega | (unfold in32; omega) | (unfold in64; omega) | exact True.intro | exact Or.inl True.intro | exact Or.inr True.intro | rfl | exact Nat.le_of_ble_eq_true rfl) ?_
        try first | done | assumption | (unfold in32; omega) | (unfold in64; omega)
        refine ih (i + 1) M2 (by omega) (by omega) hS2 o2 (fun p p0 p1 hA => ?_) (fun p hp => ?_)
        · by_cases q : p = i
          · subst q; exact q2 hA
          · rw [q1 p q]; exact ha p p0 (by omega) hA
        · by_cases q : p = i
          · subst q; exact q3 (fun z => hp ⟨h0, by omega, z⟩)
          · rw [q1 p q]; exact hb p (fun z => hp ⟨z.1, by omega, z.2.2⟩)
      refine k_Mo_nextParts_2 _ _ _ _ _ _ _ _ ?_
      simp (disch := omega) only [↓w_nil, ↓w_cons, ↓w_ild1, ↓w_ald0, ↓w_gf2_4, ↓w_ic, ↓w_iald, ↓w_icge, true_and, and_true, true_implies, false_implies, not_true_eq_false, not_false_eq_true, Int.reduceEq, Int.reduceLT, Int.reduceLE, Int.reduceNeg, w_up1, w_up2, w_up3, e4, c_k319, c_k320, c_k321, c_k322, c_k323, c_k324, c_k325, c_k326, c_k327, c_k328, c_k329, c_k330, c_k331, c_k332, c_k333, c_k334, c_k335, c_k336, c_k337, c_k338, c_k339, c_k340, c_k341, c_k342, c_k343, c_k344, c_k345, c_k346, c_k347, hS1.r319_0, hS1.r319_1, hS1.r319_2, hS1.r319_3, hS1.r319_4, hS1.r319_5, hS1.r319_6, hS1.r319_8, hS1.r319_9, hS1.r319_10, hS1.r319_11, hS1.r319_12, hS1.r319_13, hS1.r319_14, hS1.r319_15, hS1.r319_16, hS1.r319_17, hS1.r319_20, hS1.r319_21, hS1.r319_22, hS1.r319_23, hS1.r319_24, hS1.r319_25, hS1.r319_26, hS1.r319_29, hS1.r319_30, hS1.r319_31, hS1.r319_32, w_sf1, w_sf3]
      repeat refine And.intro (by first | assumption | exact IsW.kt (by assumption) | omega | (unfold in32; omega) | (unfold in64; omega) | exact True.intro | exact Or.inl True.intro | exact Or.inr True.intro | rfl | exact Nat.le_of_ble_eq_true rfl) ?_
      try first | done | assumption | (unfold in32; omega) | (unfold in64; omega)
      intro _
      refine k_Mo_nextParts_12 _ _ _ _ _ _ _ _ ?_
      simp (disch := omega) only [↓w_nil, ↓w_cons, ↓w_ald0, ↓w_gf2_16, ↓w_ild1, ↓w_zald, ↓w_ifeq, true_and, and_true, true_implies, false_implies, not_true_eq_false, not_false_eq_true, Int.reduceEq, Int.reduceLT, Int.reduceLE, Int.reduceNeg, w_up1, w_up2, w_up3, e5, c_k319, c_k320, c_k321, c_k322, c_k323, c_k324, c_k325, c_k326, c_k327, c_k328, c_k329, c_k330, c_k331, c_k332, c_k333, c_k334, c_k335, c_k336, c_k337, c_k338, c_k339, c_k340, c_k341, c_k342, c_k343, c_k344, c_k345, c_k346, c_k347, hS1.r319_0, hS1.r319_1, hS1.r319_2, hS1.r319_3, hS1.r319_4, hS1.r319_5, hS1.r319_6, hS1.r319_8, hS1.r319_9, hS1.r319_10, hS1.r319_11, hS1.r319_12, hS1.r319_13, hS1.r319_14, hS1.r319_15, hS1.r319_16, hS1.r319_17, hS1.r319_20, hS1.r319_21, hS1.r319_22, hS1.r319_23, hS1.r319_24, hS1.r319_25, hS1.r319_26, hS1.r319_29, hS1.r319_30, hS1.r319_31, hS1.r319_32, w_sf1, w_sf3]
      repeat refine And.intro (by first | assumption | exact IsW.kt (by assumption) | omega | (unfold in32; omega) | (unfold in64; omega) | exact True.intro | exact Or.inl True.intro | exact Or.inr True.intro | rfl | exact Nat.le_of_ble_eq_true rfl) ?_
      try first | done | assumption | (unfold in32; omega) | (unfold in64; omega)
      refine ⟨fun hc => ?_, fun hc => ?_⟩
      · have nA : ¬ o_A (M 324) T i := fun z => by
          rcases ii with y | y
          · omega
          · exact y.2 ((ix_in T i).mp z.1)
        exact next M1 hS1 o (fun p _ => rfl) (fun z => absurd z nA) (fun _ => ei)
      · have iT : t_in T i := by rcases ii with y | y; exact y.2; exact absurd y.1 hc
        refine k_Mo_nextParts_21 _ _ _ _ _ _ _ _ ?_
        simp (disch := omega) only [↓w_nil, ↓w_cons, ↓w_ald0, ↓w_ild1, ↓w_ic, ↓w_cv2, true_and, and_true, true_implies, false_implies, not_true_eq_false, not_false_eq_true, Int.reduceEq, Int.reduceLT, Int.reduceLE, Int.reduceNeg, w_c80, w_c8I, w_c8L, w_c8R, w_up1, w_up2, w_up3]
        repeat refine And.intro (by first | assumption | exact IsW.kt (by assumption) | omega | (unfold in32; omega) | (unfold in64; omega) | exact True.intro | exact Or.inl True.intro | exact Or.inr True.intro | rfl | exact Nat.le_of_ble_eq_true rfl) ?_
        try first | done | assumption | (unfold in32; omega) | (unfold in64; omega)
        refine ⟨_, p_Mo_of hS1 ⟨h0, i7⟩ (w := 0) (by omega), ?_⟩
        rintro q M9 ⟨rfl, rfl⟩
        rw [show 10 + 12 * i + 0 = 10 + 12 * i by omega, e4]
        refine k_Mo_nextParts_27 _ _ _ _ _ _ _ _ ?_
        simp (disch := omega) only [↓w_nil, ↓w_ifne, true_and, and_true, true_implies, false_implies, not_true_eq_false, not_false_eq_true, Int.reduceEq, Int.reduceLT, Int.reduceLE, Int.reduceNeg, w_up1, w_up2, w_up3, w_tl1]
        repeat refine And.intro (by first | assumption | exact IsW.kt (by assumption) | omega | (unfold in32; omega) | (unfold in64; omega) | exact True.intro | exact Or.inl True.intro | exact Or.inr True.intro | rfl | exact Nat.le_of_ble_eq_true rfl) ?_
        try first | done | assumption | (unfold in32; omega) | (unfold in64; omega)
        refine ⟨fun hg => ?_, fun hg => ?_⟩
        · exact next M9 hS1 o (fun p _ => rfl) (fun z => absurd z.2 hg) (fun _ => ei)
        · have hA : o_A (M 324) T i := ⟨(ix_in T i).mpr iT, by omega⟩
          refine k_Mo_nextParts_30 _ _ _ _ _ _ _ _ ?_
          simp (disch := omega) only [↓w_nil, ↓w_cons, ↓w_ald0, ↓w_gf2_15, ↓w_ild1, ↓w_iald, ↓w_ic, ↓w_icge, true_and, and_true, true_implies, false_implies, not_true_eq_false, not_false_eq_true, Int.reduceEq, Int.reduceLT, Int.reduceLE, Int.reduceNeg, w_up1, w_up2, w_up3, ei, c_k319, c_k320, c_k321, c_k322, c_k323, c_k324, c_k325, c_k326, c_k327, c_k328, c_k329, c_k330, c_k331, c_k332, c_k333, c_k334, c_k335, c_k336, c_k337, c_k338, c_k339, c_k340, c_k341, c_k342, c_k343, c_k344, c_k345, c_k346, c_k347, hS1.r319_0, hS1.r319_1, hS1.r319_2, hS1.r319_3, hS1.r319_4, hS1.r319_5, hS1.r319_6, hS1.r319_8, hS1.r319_9, hS1.r319_10, hS1.r319_11, hS1.r319_12, hS1.r319_13, hS1.r319_14, hS1.r319_15, hS1.r319_16, hS1.r319_17, hS1.r319_20, hS1.r319_21, hS1.r319_22, hS1.r319_23, hS1.r319_24, hS1.r319_25, hS1.r319_26, hS1.r319_29, hS1.r319_30, hS1.r319_31, hS1.r319_32, w_sf1, w_sf3]
          repeat refine And.intro (by first | assumption | exact IsW.kt (by assumption) | omega | (unfold in32; omega) | (unfold in64; omega) | exact True.intro | exact Or.inl True.intro | exact Or.inr True.intro | rfl | exact Nat.le_of_ble_eq_true rfl) ?_
          try first | done | assumption | (unfold in32; omega) | (unfold in64; omega)
          refine ⟨fun hk2 => ?_, fun hk2 => ?_⟩
          · refine k_Mo_nextParts_52 _ _ _ _ _ _ _ _ ?_
            simp (disch := omega) only [↓w_nil, ↓w_cons, ↓w_ald0, ↓w_gf2_15, ↓w_ild1, ↓w_ic, ↓w_iast, ↓w_fall, true_and, and_true, true_implies, false_implies, not_true_eq_false, not_false_eq_true, Int.reduceEq, Int.reduceLT, Int.reduceLE, Int.reduceNeg, w_up1, w_up2, w_up3, c_k319, c_k320, c_k321, c_k322, c_k323, c_k324, c_k325, c_k326, c_k327, c_k328, c_k329, c_k330, c_k331, c_k332, c_k333, c_k334, c_k335, c_k336, c_k337, c_k338, c_k339, c_k340, c_k341, c_k342, c_k343, c_k344, c_k345, c_k346, c_k347, hS1.r319_0, hS1.r319_1, hS1.r319_2, hS1.r319_3, hS1.r319_4, hS1.r319_5, hS1.r319_6, hS1.r319_8, hS1.r319_9, hS1.r319_10, hS1.r319_11, hS1.r319_12, hS1.r319_13, hS1.r319_14, hS1.r319_15, hS1.r319_16, hS1.r319_17, hS1.r319_20, hS1.r319_21, hS1.r319_22, hS1.r319_23, hS1.r319_24, hS1.r319_25, hS1.r319_26, hS1.r319_29, hS1.r319_30, hS1.r319_31, hS1.r319_32, w_sf1, w_sf3]
            repeat refine And.intro (by first | assumption | exact IsW.kt (by assumption) | omega | (unfold in32; omega) | (unfold in64; omega) | exact True.intro | exact Or.inl True.intro | exact Or.inr True.intro | rfl | exact Nat.le_of_ble_eq_true rfl) ?_
            try first | done | assumption | (unfold in32; omega) | (unfold in64; omega)
            refine next _ (hS1.up (rs_k c_k334 (by decide))) (fun a q => by rw [cw_up_ne q]; exact o a q) (fun p q => w_up2 q) (fun _ => ⟨by omega, w_up1⟩) (fun z => absurd hA z)
          · refine k_Mo_nextParts_40 _ _ _ _ _ _ _ _ ?_
            simp (disch := omega) only [↓w_nil, ↓w_cons, ↓w_ald0, ↓w_gf2_15, ↓w_ild1, ↓w_dup2, ↓w_dup2L, ↓w_iald, ↓w_ic, ↓w_iadd, ↓w_iast, ↓w_zret, true_and, and_true, true_implies, false_implies, not_true_eq_false, not_false_eq_true, Int.reduceEq, Int.reduceLT, Int.reduceLE, Int.reduceNeg, w_up1, w_up2, w_up3, ei, c_k319, c_k320, c_k321, c_k322, c_k323, c_k324, c_k325, c_k326, c_k327, c_k328, c_k329, c_k330, c_k331, c_k332, c_k333, c_k334, c_k335, c_k336, c_k337, c_k338, c_k339, c_k340, c_k341, c_k342, c_k343, c_k344, c_k345, c_k346, c_k347, hS1.r319_0, hS1.r319_1, hS1.r319_2, hS1.r319_3, hS1.r319_4, hS1.r319_5, hS1.r319_6, hS1.r319_8, hS1.r319_9, hS1.r319_10, hS1.r319_11, hS1.r319_12, hS1.r319_13, hS1.r319_14, hS1.r319_15, hS1.r319_16, hS1.r319_17, hS1.r319_20, hS1.r319_21, hS1.r319_22, hS1.r319_23, hS1.r319_24, hS1.r319_25, hS1.r319_26, hS1.r319_29, hS1.r319_30, hS1.r319_31, hS1.r319_32, w_sf1, w_sf3]
            repeat refine And.intro (by first | assumption | exact IsW.kt (by assumption) | omega | (unfold in32; omega) | (unfold in64; omega) | exact True.intro | exact Or.inl True.intro | exact Or.inr True.intro | rfl | exact Nat.le_of_ble_eq_true rfl) ?_
            try first | done | assumption | (unfold in32; omega) | (unfold in64; omega)
            refine ⟨⟨1, rfl, Or.inl ⟨rfl, i, ⟨h0, i7⟩, hA, by omega, ?_, fun p p0 p1 hpA => ?_, fun p q hp => ?_⟩⟩, hS1.up (rs_k c_k334 (by decide)), fun a q => by rw [cw_up_ne q]; exact o a q⟩
            · rw [w_up1]
            · rw [w_up2 (by omega)]; exact ha p p0 p1 hpA
            · rw [w_up2 q]; exact hb p hp
  refine k_Mo_nextParts_0 _ _ _ _ _ _ _ _ ?_
  simp (disch := omega) only [↓w_nil, ↓w_cons, ↓w_ic, ↓w_ist1, ↓w_fall, true_and, and_true, true_implies, false_implies, not_true_eq_false, not_false_eq_true, Int.reduceEq, Int.reduceLT, Int.reduceLE, Int.reduceNeg, w_nlI, w_nlL, w_nlR, w_up1, w_up2, w_up3]
  repeat refine And.intro (by first | assumption | exact IsW.kt (by assumption) | omega | (unfold in32; omega) | (unfold in64; omega) | exact True.intro | exact Or.inl True.intro | exact Or.inr True.intro | rfl | exact Nat.le_of_ble_eq_true rfl) ?_
  try first | done | assumption | (unfold in32; omega) | (unfold in64; omega)
  exact loop (M 324 0).toNat 0 M (by omega) (by omega) hS (fun a _ => rfl) (fun p p0 p1 => by omega) (fun p _ => by rw [hk])
