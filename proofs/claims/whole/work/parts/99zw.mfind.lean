/-! the reference: find, tells, storesAt, differ -/
def Gq (M M' : cw_M) : Prop := Sh M' ∧ ∀ a k : Int, ¬ (320 ≤ a ∧ a ≤ 323) → ¬ (327 ≤ a ∧ a ≤ 337) → ¬ (a = 319 ∧ (k = 7 ∨ k = 18 ∨ k = 19)) → M' a k = M a k
theorem Gq.rf {M : cw_M} (h : Sh M) : Gq M M := ⟨h, fun _ _ _ _ _ => rfl⟩
theorem Gq.tr {M M1 M2 : cw_M} (h : Gq M M1) (k : Gq M1 M2) : Gq M M2 := ⟨k.1, fun a b x y z => (k.2 a b x y z).trans (h.2 a b x y z)⟩
theorem Gq.row {M M1 : cw_M} (h : Gq M M1) {a : Int} (x : ¬ (320 ≤ a ∧ a ≤ 323)) (y : ¬ (327 ≤ a ∧ a ≤ 337)) (z : a ≠ 319) : M1 a = M a := by funext k; exact h.2 a k x y (fun q => z q.1)
theorem gq_gr {M M1 : cw_M} (h : Gr M M1) : Gq M M1 := ⟨h.1, fun a k x y _ => by rw [h.2.1 a x (by omega)]⟩
theorem gq_rf {R : Int → Prop} {M M1 : cw_M} (hS : Sh M) (h : cw_rf R M M1) : Gq M M1 := ⟨hS.rf h, fun a k x _ _ => by rw [h.1 a x]⟩
theorem gq_fm {M M1 : cw_M} (h : Fm M M1) : Gq M M1 := ⟨h.1, fun a k x y z => h.2 a k (by omega) (by omega)⟩
theorem gq_up {M M1 : cw_M} {k v : Int} (h : Gq M M1) (hk : k = 18 ∨ k = 19) : Gq M (cw_up M1 319 k v) := by
  refine ⟨h.1.up (by rcases hk with rfl | rfl <;> decide +kernel), fun a j x y z => ?_⟩
  by_cases q : a = 319
  · subst q
    rw [w_up2 (fun e => z ⟨rfl, by omega⟩)]; exact h.2 319 j x y z
  · rw [cw_up_ne q]; exact h.2 a j x y z
/-- the rest is held -/
def M_at (f : Int → Int) (T : Tr) (M : cw_M) : Prop := Mt M T ∧ m_in T M ∧ ∃ X F : Int → Int, t_tp (R_at f (f 3) X F M) T 1
def m_ok (f : Int → Int) (M : cw_M) : Prop := (M 319 18 = 0 ∨ (M 319 18 = 1 ∧ ((∃ e, g_of f = .inl e ∧ M 319 19 = 1) ∨ ∃ T, g_of f = .inr T ∧ M 319 19 = 0 ∧ M_at f T M))) ∧ (M 319 19 = 0 ∨ M 319 19 = 1)
/-- registers that find leaves alone -/
def Kr (s : Int) : Prop := (2 ≤ s ∧ s ≤ 13) ∨ s = 15 ∨ (32 ≤ s ∧ s < 92)
theorem at_up {f X F : Int → Int} {M : cw_M} {T R : Tr} {lo k v : Int} (h : R_at f (f 3) X F M R lo) : R_at f (f 3) X F (cw_up M 319 k v) R lo := by
  obtain ⟨w, hw, h3, hp, hr⟩ := h
  have n : ∀ c : Int, c ≠ 319 → (cw_up M 319 k v) c = M c := fun c q => cw_up_ne q
  have sm : ∀ s, sR M (cw_up M 319 k v) s := fun s => ⟨by rw [n 321 (by omega)], by rw [n 322 (by omega)], fun j _ _ => by unfold cw_rd; rw [n 320 (by omega)]⟩
  exact ⟨w, hw, by rw [n 333 (by omega)]; exact h3, fun p q => ⟨⟨(hp p q).1.1.sm (sm _), (hp p q).1.2⟩, ⟨(hp p q).2.1.1.sm (sm _), (hp p q).2.1.2⟩, by rw [n 336 (by omega)]; exact (hp p q).2.2.1, by rw [n 335 (by omega)]; exact (hp p q).2.2.2⟩, hr⟩
theorem p_Mo_find {g : cw_G} {M : cw_M} {f fl : Int → Int} {n : Int} (hS : Sh M) (hf : M 324 = f) (hW : WF n f fl) (hok : m_ok f M) (hk : ∀ T, g_of f = .inr T → Tk f T) :
    mC g y_Mo_find [.inr (.inr 319)] M (fun q M' => Gq M M' ∧ m_ok f M' ∧ (∀ s, Kr s → sR M M' s) ∧ ((∃ e, g_of f = .inl e ∧ q = some (.inl 0)) ∨ ∃ T, g_of f = .inr T ∧ q = some (.inl 1) ∧ M_at f T M')) := by
  have w0 := hW.1
  refine cw_C_of (L := [.inr (.inr 319)]) ok_Mo_find (Nat.le_refl _) (Nat.le_of_ble_eq_true rfl) rfl ?_
  refine cw_J_hide ?_
  -- the end: what is held
  have fin : ∀ M1 : cw_M, Gq M M1 → (∀ s, Kr s → sR M M1 s) → M1 319 18 = 1 → ((∃ e, g_of f = .inl e ∧ M1 319 19 = 1) ∨ ∃ T, g_of f = .inr T ∧ M1 319 19 = 0 ∧ M_at f T M1) →
      mJ g y_Mo_find 40 [.inr (.inr 319)] [] M1 (cw_hide (fun q M' => Gq M M' ∧ m_ok f M' ∧ (∀ s, Kr s → sR M M' s) ∧ ((∃ e, g_of f = .inl e ∧ q = some (.inl 0)) ∨ ∃ T, g_of f = .inr T ∧ q = some (.inl 1) ∧ M_at f T M'))) := by
    intro M1 G1 k1 e18 h
    rcases h with ⟨e, he, e19⟩ | ⟨T, hT, e19, hat⟩
    · refine k_Mo_find_40 _ _ _ _ _ _ _ _ ?_
      simp (disch := omega) only [↓w_nil, ↓w_cons, ↓w_ald0, ↓w_gf3_19, ↓w_ifne, true_and, and_true, true_implies, false_implies, not_true_eq_false, not_false_eq_true, Int.reduceEq, Int.reduceLT, Int.reduceLE, Int.reduceNeg, w_up1, w_up2, w_up3, e19, c_k319, c_k320, c_k321, c_k322, c_k323, c_k324, c_k325, c_k326, c_k327, c_k328, c_k329, c_k330, c_k331, c_k332, c_k333, c_k334, c_k335, c_k336, c_k337, c_k338, c_k339, c_k340, c_k341, c_k342, c_k343, c_k344, c_k345, c_k346, c_k347, hS.r319_0, hS.r319_1, hS.r319_2, hS.r319_3, hS.r319_4, hS.r319_5, hS.r319_6, hS.r319_8, hS.r319_9, hS.r319_10, hS.r319_11, hS.r319_12, hS.r319_13, hS.r319_14, hS.r319_15, hS.r319_16, hS.r319_17, hS.r319_20, hS.r319_21, hS.r319_22, hS.r319_23, hS.r319_24, hS.r319_25, hS.r319_26, hS.r319_29, hS.r319_30, hS.r319_31, hS.r319_32, w_sf1, w_sf3]
      repeat refine And.intro (by first | assumption | exact IsW.kt (by assumption) | omega | (unfold in32; omega) | (unfold in64; omega) | exact True.intro | exact Or.inl True.intro | exact Or.inr True.intro | rfl | exact Nat.le_of_ble_eq_true rfl) ?_
      try first | done | assumption | (unfold in32; omega) | (unfold in64; omega)
      refine k_Mo_find_51 _ _ _ _ _ _ _ _ ?_
      simp (disch := omega) only [↓w_nil, ↓w_cons, ↓w_ic, ↓w_fall, true_and, and_true, true_implies, false_implies, not_true_eq_false, not_false_eq_true, Int.reduceEq, Int.reduceLT, Int.reduceLE, Int.reduceNeg, w_up1, w_up2, w_up3]
      refine k_Mo_find_52 _ _ _ _ _ _ _ _ ?_
      simp (disch := omega) only [↓w_nil, ↓w_zret, true_and, and_true, true_implies, false_implies, not_true_eq_false, not_false_eq_true, Int.reduceEq, Int.reduceLT, Int.reduceLE, Int.reduceNeg, w_up1, w_up2, w_up3]
      repeat refine And.intro (by first | assumption | exact IsW.kt (by assumption) | omega | (unfold in32; omega) | (unfold in64; omega) | exact True.intro | exact Or.inl True.intro | exact Or.inr True.intro | rfl | exact Nat.le_of_ble_eq_true rfl) ?_
      try first | done | assumption | (unfold in32; omega) | (unfold in64; omega)
      exact ⟨⟨Or.inr ⟨e18, Or.inl ⟨e, he, e19⟩⟩, Or.inr e19⟩, k1, Or.inl ⟨e, he, rfl⟩⟩
    · refine k_Mo_find_40 _ _ _ _ _ _ _ _ ?_
      simp (disch := omega) only [↓w_nil, ↓w_cons, ↓w_ald0, ↓w_gf3_19, ↓w_ifne, true_and, and_true, true_implies, false_implies, not_true_eq_false, not_false_eq_true, Int.reduceEq, Int.reduceLT, Int.reduceLE, Int.reduceNeg, w_up1, w_up2, w_up3, e19, c_k319, c_k320, c_k321, c_k322, c_k323, c_k324, c_k325, c_k326, c_k327, c_k328, c_k329, c_k330, c_k331, c_k332, c_k333, c_k334, c_k335, c_k336, c_k337, c_k338, c_k339, c_k340, c_k341, c_k342, c_k343, c_k344, c_k345, c_k346, c_k347, hS.r319_0, hS.r319_1, hS.r319_2, hS.r319_3, hS.r319_4, hS.r319_5, hS.r319_6, hS.r319_8, hS.r319_9, hS.r319_10, hS.r319_11, hS.r319_12, hS.r319_13, hS.r319_14, hS.r319_15, hS.r319_16, hS.r319_17, hS.r319_20, hS.r319_21, hS.r319_22, hS.r319_23, hS.r319_24, hS.r319_25, hS.r319_26, hS.r319_29, hS.r319_30, hS.r319_31, hS.r319_32, w_sf1, w_sf3]
      repeat refine And.intro (by first | assumption | exact IsW.kt (by assumption) | omega | (unfold in32; omega) | (unfold in64; omega) | exact True.intro | exact Or.inl True.intro | exact Or.inr True.intro | rfl | exact Nat.le_of_ble_eq_true rfl) ?_
      try first | done | assumption | (unfold in32; omega) | (unfold in64; omega)
      refine k_Mo_find_47 _ _ _ _ _ _ _ _ ?_
      simp (disch := omega) only [↓w_nil, ↓w_cons, ↓w_ic, ↓w_goto, true_and, and_true, true_implies, false_implies, not_true_eq_false, not_false_eq_true, Int.reduceEq, Int.reduceLT, Int.reduceLE, Int.reduceNeg, w_up1, w_up2, w_up3]
      refine k_Mo_find_52 _ _ _ _ _ _ _ _ ?_
      simp (disch := omega) only [↓w_nil, ↓w_zret, true_and, and_true, true_implies, false_implies, not_true_eq_false, not_false_eq_true, Int.reduceEq, Int.reduceLT, Int.reduceLE, Int.reduceNeg, w_up1, w_up2, w_up3]
      repeat refine And.intro (by first | assumption | exact IsW.kt (by assumption) | omega | (unfold in32; omega) | (unfold in64; omega) | exact True.intro | exact Or.inl True.intro | exact Or.inr True.intro | rfl | exact Nat.le_of_ble_eq_true rfl) ?_
      try first | done | assumption | (unfold in32; omega) | (unfold in64; omega)
      exact ⟨⟨Or.inr ⟨e18, Or.inr ⟨T, hT, e19, hat⟩⟩, Or.inl e19⟩, k1, Or.inr ⟨T, hT, rfl, hat⟩⟩
  have i18 : in32 (M 319 18) := by rcases hok.1 with h | h <;> unfold in32 <;> omega
  refine k_Mo_find_0 _ _ _ _ _ _ _ _ ?_
  simp (disch := omega) only [↓w_nil, ↓w_cons, ↓w_ald0, ↓w_gf3_18, ↓w_ifne, true_and, and_true, true_implies, false_implies, not_true_eq_false, not_false_eq_true, Int.reduceEq, Int.reduceLT, Int.reduceLE, Int.reduceNeg, w_up1, w_up2, w_up3, c_k319, c_k320, c_k321, c_k322, c_k323, c_k324, c_k325, c_k326, c_k327, c_k328, c_k329, c_k330, c_k331, c_k332, c_k333, c_k334, c_k335, c_k336, c_k337, c_k338, c_k339, c_k340, c_k341, c_k342, c_k343, c_k344, c_k345, c_k346, c_k347, hS.r319_0, hS.r319_1, hS.r319_2, hS.r319_3, hS.r319_4, hS.r319_5, hS.r319_6, hS.r319_8, hS.r319_9, hS.r319_10, hS.r319_11, hS.r319_12, hS.r319_13, hS.r319_14, hS.r319_15, hS.r319_16, hS.r319_17, hS.r319_20, hS.r319_21, hS.r319_22, hS.r319_23, hS.r319_24, hS.r319_25, hS.r319_26, hS.r319_29, hS.r319_30, hS.r319_31, hS.r319_32, w_sf1, w_sf3]
  repeat refine And.intro (by first | assumption | exact IsW.kt (by assumption) | omega | (unfold in32; omega) | (unfold in64; omega) | exact True.intro | exact Or.inl True.intro | exact Or.inr True.intro | rfl | exact Nat.le_of_ble_eq_true rfl) ?_
  try first | done | assumption | (unfold in32; omega) | (unfold in64; omega)
  refine ⟨fun hc => ?_, fun hc => ?_⟩
  · rcases hok.1 with h | ⟨h, h2⟩
    · exact absurd h hc
    · exact fin M (Gq.rf hS) (fun s _ => sR.rf) h h2
  · have G1 : Gq M (cw_up M 319 18 1) := gq_up (Gq.rf hS) (Or.inl rfl)
    have e4 : (cw_up M 319 18 1) 324 = f := by rw [cw_up_ne (by omega)]; exact hf
    have sm1 : ∀ s, sR M (cw_up M 319 18 1) s := fun s => ⟨by rw [cw_up_ne (by omega)], by rw [cw_up_ne (by omega)], fun j _ _ => by unfold cw_rd; rw [cw_up_ne (by omega)]⟩
    have gb : in32 (g_fault (g_of f)) := by
      have w := hW.1.2.1
      unfold in32
      cases h : g_of f with
      | inl e => have := of_eb w.1 h; show _ ≤ e ∧ e ≤ _; omega
      | inr T => show _ ≤ (-1 : Int) ∧ (-1 : Int) ≤ _; omega
    refine k_Mo_find_7 _ _ _ _ _ _ _ _ ?_
    simp (disch := omega) only [↓w_nil, ↓w_cons, ↓w_ald0, ↓w_ic, ↓w_pfZ_18, ↓w_cv0, true_and, and_true, true_implies, false_implies, not_true_eq_false, not_false_eq_true, Int.reduceEq, Int.reduceLT, Int.reduceLE, Int.reduceNeg, w_c80, w_c8I, w_c8L, w_c8R, w_up1, w_up2, w_up3, c_k319, c_k320, c_k321, c_k322, c_k323, c_k324, c_k325, c_k326, c_k327, c_k328, c_k329, c_k330, c_k331, c_k332, c_k333, c_k334, c_k335, c_k336, c_k337, c_k338, c_k339, c_k340, c_k341, c_k342, c_k343, c_k344, c_k345, c_k346, c_k347, hS.r319_0, hS.r319_1, hS.r319_2, hS.r319_3, hS.r319_4, hS.r319_5, hS.r319_6, hS.r319_8, hS.r319_9, hS.r319_10, hS.r319_11, hS.r319_12, hS.r319_13, hS.r319_14, hS.r319_15, hS.r319_16, hS.r319_17, hS.r319_20, hS.r319_21, hS.r319_22, hS.r319_23, hS.r319_24, hS.r319_25, hS.r319_26, hS.r319_29, hS.r319_30, hS.r319_31, hS.r319_32, w_sf1, w_sf3]
    repeat refine And.intro (by first | assumption | exact IsW.kt (by assumption) | omega | (unfold in32; omega) | (unfold in64; omega) | exact True.intro | exact Or.inl True.intro | exact Or.inr True.intro | rfl | exact Nat.le_of_ble_eq_true rfl) ?_
    try first | done | assumption | (unfold in32; omega) | (unfold in64; omega)
    refine ⟨_, p_Mo_reads (fl := fl) (n := n) G1.1 (by rw [e4]; exact hW), ?_⟩
    rintro q M2 ⟨rfl, rd⟩
    rw [e4] at rd ⊢
    have G2 : Gq M M2 := G1.tr (gq_fm rd.1)
    have hS2 := G2.1
    have sm2 : ∀ s, sR M M2 s := fun s => (sm1 s).tr ⟨rd.1.2 321 s (by omega) (by omega), rd.1.2 322 s (by omega) (by omega), fun j _ _ => by unfold cw_rd; exact rd.1.2 320 _ (by omega) (by omega)⟩
    have e18 : M2 319 18 = 1 := by rw [rd.1.2 319 18 (by omega) (by omega), w_up1]
    have two : (∃ e, g_of f = .inl e) ∨ ∃ T, g_of f = .inr T := by
      cases g_of f with
      | inl e => exact Or.inl ⟨e, rfl⟩
      | inr T => exact Or.inr ⟨T, rfl⟩
    rcases two with ⟨e, hg⟩ | ⟨T, hg⟩
    · have ne : g_fault (g_of f) ≠ -1 := by have := of_eb w0.2.1.1 hg; rw [hg]; show e ≠ -1; omega
      refine k_Mo_find_17 _ _ _ _ _ _ _ _ ?_
      simp (disch := omega) only [↓w_nil, ↓w_cons, ↓w_ic, ↓w_iceq, true_and, and_true, true_implies, false_implies, not_true_eq_false, not_false_eq_true, Int.reduceEq, Int.reduceLT, Int.reduceLE, Int.reduceNeg, w_up1, w_up2, w_up3, w_tl1]
      repeat refine And.intro (by first | assumption | exact IsW.kt (by assumption) | omega | (unfold in32; omega) | (unfold in64; omega) | exact True.intro | exact Or.inl True.intro | exact Or.inr True.intro | rfl | exact Nat.le_of_ble_eq_true rfl) ?_
      try first | done | assumption | (unfold in32; omega) | (unfold in64; omega)
      intro _
      refine k_Mo_find_21 _ _ _ _ _ _ _ _ ?_
      simp (disch := omega) only [↓w_nil, ↓w_cons, ↓w_ic, ↓w_goto, true_and, and_true, true_implies, false_implies, not_true_eq_false, not_false_eq_true, Int.reduceEq, Int.reduceLT, Int.reduceLE, Int.reduceNeg, w_up1, w_up2, w_up3]
      refine k_Mo_find_26 _ _ _ _ _ _ _ _ ?_
      simp (disch := omega) only [↓w_nil, ↓w_cons, ↓w_pfZ_19, ↓w_ald0, ↓w_gf3_19, ↓w_ifne, true_and, and_true, true_implies, false_implies, not_true_eq_false, not_false_eq_true, Int.reduceEq, Int.reduceLT, Int.reduceLE, Int.reduceNeg, w_up1, w_up2, w_up3, c_k319, c_k320, c_k321, c_k322, c_k323, c_k324, c_k325, c_k326, c_k327, c_k328, c_k329, c_k330, c_k331, c_k332, c_k333, c_k334, c_k335, c_k336, c_k337, c_k338, c_k339, c_k340, c_k341, c_k342, c_k343, c_k344, c_k345, c_k346, c_k347, hS2.r319_0, hS2.r319_1, hS2.r319_2, hS2.r319_3, hS2.r319_4, hS2.r319_5, hS2.r319_6, hS2.r319_8, hS2.r319_9, hS2.r319_10, hS2.r319_11, hS2.r319_12, hS2.r319_13, hS2.r319_14, hS2.r319_15, hS2.r319_16, hS2.r319_17, hS2.r319_20, hS2.r319_21, hS2.r319_22, hS2.r319_23, hS2.r319_24, hS2.r319_25, hS2.r319_26, hS2.r319_29, hS2.r319_30, hS2.r319_31, hS2.r319_32, w_sf1, w_sf3]
      repeat refine And.intro (by first | assumption | exact IsW.kt (by assumption) | omega | (unfold in32; omega) | (unfold in64; omega) | exact True.intro | exact Or.inl True.intro | exact Or.inr True.intro | rfl | exact Nat.le_of_ble_eq_true rfl) ?_
      try first | done | assumption | (unfold in32; omega) | (unfold in64; omega)
      refine fin _ (gq_up G2 (Or.inr rfl)) (fun s _ => (sm2 s).tr ⟨by rw [cw_up_ne (by omega)], by rw [cw_up_ne (by omega)], fun j _ _ => by unfold cw_rd; rw [cw_up_ne (by omega)]⟩) (by rw [w_up2 (by omega)]; exact e18) (Or.inl ⟨e, hg, by rw [w_up1]⟩)
    · have hT := rd.2 T hg
      have tk := hk T hg
      have G3 : Gq M (cw_up M2 319 19 0) := gq_up G2 (Or.inr rfl)
      have e43 : (cw_up M2 319 19 0) 324 = f := by rw [cw_up_ne (by omega), rd.1.st, e4]
      have mt3 : Mt (cw_up M2 319 19 0) T := by
        obtain ⟨a, b, c, d⟩ := hT.1
        refine ⟨by rw [w_up2 (by omega)]; exact a, b, by rw [cw_up_ne (by omega)]; exact c, ?_⟩
        rw [cw_up_ne (by omega), cw_up_ne (by omega), cw_up_ne (by omega)]; exact d
      have ef : g_fault (g_of f) = -1 := by rw [hg]; rfl
      refine k_Mo_find_17 _ _ _ _ _ _ _ _ ?_
      simp (disch := omega) only [↓w_nil, ↓w_cons, ↓w_ic, ↓w_iceq, true_and, and_true, true_implies, false_implies, not_true_eq_false, not_false_eq_true, Int.reduceEq, Int.reduceLT, Int.reduceLE, Int.reduceNeg, w_up1, w_up2, w_up3, w_tl1, ef]
      repeat refine And.intro (by first | assumption | exact IsW.kt (by assumption) | omega | (unfold in32; omega) | (unfold in64; omega) | exact True.intro | exact Or.inl True.intro | exact Or.inr True.intro | rfl | exact Nat.le_of_ble_eq_true rfl) ?_
      try first | done | assumption | (unfold in32; omega) | (unfold in64; omega)
      refine k_Mo_find_25 _ _ _ _ _ _ _ _ ?_
      simp (disch := omega) only [↓w_nil, ↓w_cons, ↓w_ic, ↓w_fall, true_and, and_true, true_implies, false_implies, not_true_eq_false, not_false_eq_true, Int.reduceEq, Int.reduceLT, Int.reduceLE, Int.reduceNeg, w_up1, w_up2, w_up3]
      refine k_Mo_find_26 _ _ _ _ _ _ _ _ ?_
      simp (disch := omega) only [↓w_nil, ↓w_cons, ↓w_pfZ_19, ↓w_ald0, ↓w_gf3_19, ↓w_ifne, true_and, and_true, true_implies, false_implies, not_true_eq_false, not_false_eq_true, Int.reduceEq, Int.reduceLT, Int.reduceLE, Int.reduceNeg, w_up1, w_up2, w_up3, c_k319, c_k320, c_k321, c_k322, c_k323, c_k324, c_k325, c_k326, c_k327, c_k328, c_k329, c_k330, c_k331, c_k332, c_k333, c_k334, c_k335, c_k336, c_k337, c_k338, c_k339, c_k340, c_k341, c_k342, c_k343, c_k344, c_k345, c_k346, c_k347, hS2.r319_0, hS2.r319_1, hS2.r319_2, hS2.r319_3, hS2.r319_4, hS2.r319_5, hS2.r319_6, hS2.r319_8, hS2.r319_9, hS2.r319_10, hS2.r319_11, hS2.r319_12, hS2.r319_13, hS2.r319_14, hS2.r319_15, hS2.r319_16, hS2.r319_17, hS2.r319_20, hS2.r319_21, hS2.r319_22, hS2.r319_23, hS2.r319_24, hS2.r319_25, hS2.r319_26, hS2.r319_29, hS2.r319_30, hS2.r319_31, hS2.r319_32, w_sf1, w_sf3]
      repeat refine And.intro (by first | assumption | exact IsW.kt (by assumption) | omega | (unfold in32; omega) | (unfold in64; omega) | exact True.intro | exact Or.inl True.intro | exact Or.inr True.intro | rfl | exact Nat.le_of_ble_eq_true rfl) ?_
      try first | done | assumption | (unfold in32; omega) | (unfold in64; omega)
      refine k_Mo_find_36 _ _ _ _ _ _ _ _ ?_
      simp (disch := omega) only [↓w_nil, ↓w_cons, ↓w_ald0, ↓w_cv0, true_and, and_true, true_implies, false_implies, not_true_eq_false, not_false_eq_true, Int.reduceEq, Int.reduceLT, Int.reduceLE, Int.reduceNeg, w_c80, w_c8I, w_c8L, w_c8R, w_up1, w_up2, w_up3]
      repeat refine And.intro (by first | assumption | exact IsW.kt (by assumption) | omega | (unfold in32; omega) | (unfold in64; omega) | exact True.intro | exact Or.inl True.intro | exact Or.inr True.intro | rfl | exact Nat.le_of_ble_eq_true rfl) ?_
      try first | done | assumption | (unfold in32; omega) | (unfold in64; omega)
      refine ⟨_, p_Mo_rests G3.1 e43 hW mt3 tk, ?_⟩
      rintro q M4 ⟨rfl, G4, i4, hX⟩
      have e319 : M4 319 = (cw_up M2 319 19 0) 319 := G4.2.1 319 (by omega) (by omega)
      simp only [w_tl0]
      refine fin M4 (G3.tr (gq_gr G4)) (fun s hs => ((sm2 s).tr ⟨by rw [cw_up_ne (by omega)], by rw [cw_up_ne (by omega)], fun j _ _ => by unfold cw_rd; rw [cw_up_ne (by omega)]⟩).tr (G4.2.2 s hs)) (by rw [e319, w_up2 (by omega)]; exact e18) (Or.inr ⟨T, hg, by rw [e319, w_up1], mt3.cg (fun a y => G4.2.1 a (by omega) (by omega)), i4, hX⟩)
/-- tells of nought: whatever stands below -/
theorem p_Mo_tells0 {g : cw_G} {M : cw_M} {a b : Int} (hS : Sh M) (ha : IR a) (hva : RM M a 0) :
    mC g y_Mo_tells [.inr (.inr 319), .inl a, .inl b] M (fun q M' => q = some (.inl 0) ∧ RM M' 6 0 ∧ RM M' 7 1 ∧ cw_rf A27 M M') := by
  obtain ⟨a0, a1⟩ := id ha
  have eda : M 322 a = 0 := by obtain ⟨_, _, _, _, _, _, h⟩ := hva; exact h
  refine cw_C_of (L := [.inr (.inr 319), .inl a, .inl b]) ok_Mo_tells (Nat.le_refl _) (Nat.le_of_ble_eq_true rfl) rfl ?_
  refine cw_J_hide ?_
  refine k_Mo_tells_0 _ _ _ _ _ _ _ _ ?_
  simp (disch := omega) only [↓w_nil, ↓w_cons, ↓w_ald0, ↓w_gf2_2, ↓w_ild1, ↓w_iald, ↓w_ifne, true_and, and_true, true_implies, false_implies, not_true_eq_false, not_false_eq_true, Int.reduceEq, Int.reduceLT, Int.reduceLE, Int.reduceNeg, w_up1, w_up2, w_up3, eda, c_k319, c_k320, c_k321, c_k322, c_k323, c_k324, c_k325, c_k326, c_k327, c_k328, c_k329, c_k330, c_k331, c_k332, c_k333, c_k334, c_k335, c_k336, c_k337, c_k338, c_k339, c_k340, c_k341, c_k342, c_k343, c_k344, c_k345, c_k346, c_k347, hS.r319_0, hS.r319_1, hS.r319_2, hS.r319_3, hS.r319_4, hS.r319_5, hS.r319_6, hS.r319_8, hS.r319_9, hS.r319_10, hS.r319_11, hS.r319_12, hS.r319_13, hS.r319_14, hS.r319_15, hS.r319_16, hS.r319_17, hS.r319_20, hS.r319_21, hS.r319_22, hS.r319_23, hS.r319_24, hS.r319_25, hS.r319_26, hS.r319_29, hS.r319_30, hS.r319_31, hS.r319_32, w_sf1, w_sf3]
  repeat refine And.intro (by first | assumption | exact IsW.kt (by assumption) | omega | (unfold in32; omega) | (unfold in64; omega) | exact True.intro | exact Or.inl True.intro | exact Or.inr True.intro | rfl | exact Nat.le_of_ble_eq_true rfl) ?_
  try first | done | assumption | (unfold in32; omega) | (unfold in64; omega)
  refine k_Mo_tells_9 _ _ _ _ _ _ _ _ ?_
  simp (disch := omega) only [↓w_nil, ↓w_cons, ↓w_ald0, ↓w_ic, ↓w_lc, ↓w_cv2, true_and, and_true, true_implies, false_implies, not_true_eq_false, not_false_eq_true, Int.reduceEq, Int.reduceLT, Int.reduceLE, Int.reduceNeg, w_c80, w_c8I, w_c8L, w_c8R, w_up1, w_up2, w_up3]
  repeat refine And.intro (by first | assumption | exact IsW.kt (by assumption) | omega | (unfold in32; omega) | (unfold in64; omega) | exact True.intro | exact Or.inl True.intro | exact Or.inr True.intro | rfl | exact Nat.le_of_ble_eq_true rfl) ?_
  try first | done | assumption | (unfold in32; omega) | (unfold in64; omega)
  refine ⟨_, p_Mo_sets hS (r := 6) (v := 0) ⟨by omega, by omega⟩ (by omega), ?_⟩
  rintro q M1 ⟨rfl, g1, r1⟩
  have hS1 := hS.rf r1
  refine k_Mo_tells_16 _ _ _ _ _ _ _ _ ?_
  simp (disch := omega) only [↓w_nil, ↓w_cons, ↓w_ald0, ↓w_ic, ↓w_lc, ↓w_cv2, true_and, and_true, true_implies, false_implies, not_true_eq_false, not_false_eq_true, Int.reduceEq, Int.reduceLT, Int.reduceLE, Int.reduceNeg, w_c80, w_c8I, w_c8L, w_c8R, w_up1, w_up2, w_up3, w_tl0]
  repeat refine And.intro (by first | assumption | exact IsW.kt (by assumption) | omega | (unfold in32; omega) | (unfold in64; omega) | exact True.intro | exact Or.inl True.intro | exact Or.inr True.intro | rfl | exact Nat.le_of_ble_eq_true rfl) ?_
  try first | done | assumption | (unfold in32; omega) | (unfold in64; omega)
  refine ⟨_, p_Mo_sets hS1 (r := 7) (v := 1) ⟨by omega, by omega⟩ (by omega), ?_⟩
  rintro q M2 ⟨rfl, g2, r2⟩
  refine k_Mo_tells_23 _ _ _ _ _ _ _ _ ?_
  simp (disch := omega) only [↓w_nil, ↓w_cons, ↓w_ic, ↓w_iret, true_and, and_true, true_implies, false_implies, not_true_eq_false, not_false_eq_true, Int.reduceEq, Int.reduceLT, Int.reduceLE, Int.reduceNeg, w_up1, w_up2, w_up3, w_tl0]
  repeat refine And.intro (by first | assumption | exact IsW.kt (by assumption) | omega | (unfold in32; omega) | (unfold in64; omega) | exact True.intro | exact Or.inl True.intro | exact Or.inr True.intro | rfl | exact Nat.le_of_ble_eq_true rfl) ?_
  try first | done | assumption | (unfold in32; omega) | (unfold in64; omega)
  exact ⟨g1.rf r2 ⟨by omega, by omega⟩ (by omega), g2, rf_tr (rf_mo r1 (fun s y => by unfold A27; omega)) (rf_mo r2 (fun s y => by unfold A27; omega))⟩
theorem td_low {N D : Int} (hD : 0 < D) : (if N = 0 then 0 else N.tdiv (cw_gd N D)) = N / cw_gd D N ∧ (if N = 0 then 1 else D.tdiv (cw_gd N D)) = D / cw_gd D N := by
  have sy : cw_gd N D = cw_gd D N := by unfold cw_gd; rw [Nat.gcd_comm]
  obtain ⟨g1, ⟨x, hx⟩, ⟨y, hy⟩⟩ := gd_dvd (a := N) hD
  rw [sy]
  by_cases z : N = 0
  · rw [if_pos z, if_pos z, z]
    have e : cw_gd D 0 = D := gd_0 (by omega)
    rw [e]
    exact ⟨(Int.zero_ediv D).symm, (Int.ediv_self (by omega)).symm⟩
  · rw [if_neg z, if_neg z]
    refine ⟨?_, ?_⟩
    · conv => lhs; lhs; rw [hx]
      conv => rhs; lhs; rw [hx]
      rw [Int.mul_tdiv_cancel_left x (by omega), Int.mul_ediv_cancel_left x (by omega)]
    · conv => lhs; lhs; rw [hy]
      conv => rhs; lhs; rw [hy]
      rw [Int.mul_tdiv_cancel_left y (by omega), Int.mul_ediv_cancel_left y (by omega)]
/-- tells of a fraction in 8 and 9 -/
theorem p_Mo_tells' {g : cw_G} {M : cw_M} {N D : Int} (hS : Sh M) (h8 : RM M 8 N) (h9 : RM M 9 D) (hD : 0 < D) (bN : cw_ab N < 1073741824 ^ 30) (bD : cw_ab D < 1073741824 ^ 30) :
    mC g y_Mo_tells [.inr (.inr 319), .inl 8, .inl 9] M (fun q M' => q = some (.inl (cw_sg N)) ∧ RM M' 6 (N / cw_gd D N) ∧ RM M' 7 (D / cw_gd D N) ∧ cw_rf A27 M M') := by
  refine cw_C_mono (p_Mo_tells hS ⟨by omega, by omega⟩ ⟨by omega, by omega⟩ (by unfold A27; omega) (by unfold A27; omega) h8 h9 (by omega) bN bD) ?_
  rintro q M' ⟨h1, h2, h3, h4⟩
  rw [(td_low hD).1] at h2
  rw [(td_low hD).2] at h3
  exact ⟨h1, h2, h3, h4⟩
