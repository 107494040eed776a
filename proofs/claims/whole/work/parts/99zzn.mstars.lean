/-! the reference's stars -/
def Md_at (S : Int) (M : cw_M) : Prop := M 319 28 = S ∧ M 319 27 = y_w S ∧ ∀ e i : Int, 0 ≤ e → e < S → 0 ≤ i → i < y_w S → M 343 (24 * e + i) = y_pw S e i
def Mdi (M : cw_M) : Prop := (∀ S : Int, 6 ≤ S → S ≤ 24 → M 319 28 = S → Md_at S M) ∧ in32 (M 319 28)
theorem mdi_at {S : Int} {M : cw_M} (h6 : 6 ≤ S ∧ S ≤ 24) (h : Md_at S M) : Mdi M := by
  refine ⟨fun s a b c => ?_, by rw [h.1]; unfold in32; omega⟩
  have e : s = S := by rw [← c]; exact h.1
  rw [e]; exact h
theorem p_Mo_findPowers {g : cw_G} {M : cw_M} {f fl : Int → Int} {n : Int} (hS : Sh M) (hf : M 324 = f) (hW : WF n f fl) (hd : Mdi M) :
    mC g y_Mo_findPowers [.inr (.inr 319)] M (fun q M' => q = none ∧ Fpw M M' ∧ Md_at (f 4) M') := by
  have w4 := hW.1.2.2.2.2
  have wb := y_w_b w4
  have i4 : in32 (f 4) := by unfold in32; omega
  have i28 := hd.2
  refine cw_C_of (L := [.inr (.inr 319), cU, cU, cU, cU]) ok_Mo_findPowers (Nat.le_refl _) (Nat.le_of_ble_eq_true rfl) rfl ?_
  refine cw_J_hide ?_
  refine k_Mo_findPowers_0 _ _ _ _ _ _ _ _ ?_
  simp (disch := omega) only [↓w_nil, ↓w_cons, ↓w_ald0, ↓w_gf2_4, ↓w_ic, ↓w_iald, ↓w_ist1, ↓w_gf0_28, ↓w_ild1, ↓w_icne, true_and, and_true, true_implies, false_implies, not_true_eq_false, not_false_eq_true, Int.reduceEq, Int.reduceLT, Int.reduceLE, Int.reduceNeg, w_nlI, w_nlL, w_nlR, w_up1, w_up2, w_up3, hf, c_k319, c_k320, c_k321, c_k322, c_k323, c_k324, c_k325, c_k326, c_k327, c_k328, c_k329, c_k330, c_k331, c_k332, c_k333, c_k334, c_k335, c_k336, c_k337, c_k338, c_k339, c_k340, c_k341, c_k342, c_k343, c_k344, c_k345, c_k346, c_k347, hS.r319_0, hS.r319_1, hS.r319_2, hS.r319_3, hS.r319_4, hS.r319_5, hS.r319_6, hS.r319_8, hS.r319_9, hS.r319_10, hS.r319_11, hS.r319_12, hS.r319_13, hS.r319_14, hS.r319_15, hS.r319_16, hS.r319_17, hS.r319_20, hS.r319_21, hS.r319_22, hS.r319_23, hS.r319_24, hS.r319_25, hS.r319_26, hS.r319_29, hS.r319_30, hS.r319_31, hS.r319_32, w_sf1, w_sf3]
  repeat refine And.intro (by first | assumption | exact IsW.kt (by assumption) | omega | (unfold in32; omega) | (unfold in64; omega) | exact True.intro | exact Or.inl True.intro | exact Or.inr True.intro | rfl | exact Nat.le_of_ble_eq_true rfl) ?_
  try first | done | assumption | (unfold in32; omega) | (unfold in64; omega)
  refine ⟨fun hc => ?_, fun hc => ?_⟩
  · have G1 : Fpw M (cw_up M 319 28 (f 4)) := fpw_up (Fpw.rf hS) (Or.inr rfl)
    have hS1 := G1.1
    refine k_Mo_findPowers_16 _ _ _ _ _ _ _ _ ?_
    simp (disch := omega) only [↓w_nil, ↓w_cons, ↓w_ald0, ↓w_ild1, ↓w_pfI_28, ↓w_cv1, true_and, and_true, true_implies, false_implies, not_true_eq_false, not_false_eq_true, Int.reduceEq, Int.reduceLT, Int.reduceLE, Int.reduceNeg, w_c80, w_c8I, w_c8L, w_c8R, w_up1, w_up2, w_up3, c_k319, c_k320, c_k321, c_k322, c_k323, c_k324, c_k325, c_k326, c_k327, c_k328, c_k329, c_k330, c_k331, c_k332, c_k333, c_k334, c_k335, c_k336, c_k337, c_k338, c_k339, c_k340, c_k341, c_k342, c_k343, c_k344, c_k345, c_k346, c_k347, hS.r319_0, hS.r319_1, hS.r319_2, hS.r319_3, hS.r319_4, hS.r319_5, hS.r319_6, hS.r319_8, hS.r319_9, hS.r319_10, hS.r319_11, hS.r319_12, hS.r319_13, hS.r319_14, hS.r319_15, hS.r319_16, hS.r319_17, hS.r319_20, hS.r319_21, hS.r319_22, hS.r319_23, hS.r319_24, hS.r319_25, hS.r319_26, hS.r319_29, hS.r319_30, hS.r319_31, hS.r319_32, w_sf1, w_sf3]
    repeat refine And.intro (by first | assumption | exact IsW.kt (by assumption) | omega | (unfold in32; omega) | (unfold in64; omega) | exact True.intro | exact Or.inl True.intro | exact Or.inr True.intro | rfl | exact Nat.le_of_ble_eq_true rfl) ?_
    try first | done | assumption | (unfold in32; omega) | (unfold in64; omega)
    refine ⟨_, p_Mo_findRounds hS1 w4, ?_⟩
    rintro q M2 ⟨rfl, ⟨hS2, F2⟩, hr⟩
    have r41 : M2 341 (f 4) = y_w (f 4) := (hr (f 4) (by omega) (by omega)).1
    have r40 : ∀ i : Int, 0 ≤ i → i ≤ y_w (f 4) → M2 340 (25 * f 4 + i) = y_cy (f 4) i := (hr (f 4) (by omega) (by omega)).2
    have G2 : Fpw M M2 := ⟨hS2, fun a k x y => by rw [F2 a (by omega)]; exact G1.2 a k x y⟩
    have e28 : M2 319 28 = f 4 := by rw [F2 319 (by omega), w_up1]
    have rs343 : ∀ k, cw_rs 343 k = false := fun k => by unfold cw_rs; rw [c_k343]; rfl
    have outer : ∀ (m : Nat) (e : Int) (x3 x4 : cw_V) (F : Int → Int), e + m = f 4 → 0 ≤ e → (∀ a i : Int, 0 ≤ a → a < e → 0 ≤ i → i < y_w (f 4) → F (24 * a + i) = y_pw (f 4) a i) →
        mJ g y_Mo_findPowers 38 [.inr (.inr 319), .inl (f 4), .inl e, x3, x4] [] (cw_sf (cw_up M2 319 27 (y_w (f 4))) 343 F) (cw_hide (fun q M' => q = none ∧ Fpw M M' ∧ Md_at (f 4) M')) := by
      intro m
      induction m with
      | zero =>
        intro e x3 x4 F he e0 hF
        have ee : e = f 4 := by omega
        subst ee
        refine k_Mo_findPowers_38 _ _ _ _ _ _ _ _ ?_
        simp (disch := omega) only [↓w_nil, ↓w_cons, ↓w_ild2, ↓w_ild1, ↓w_icge, true_and, and_true, true_implies, false_implies, not_true_eq_false, not_false_eq_true, Int.reduceEq, Int.reduceLT, Int.reduceLE, Int.reduceNeg, w_up1, w_up2, w_up3]
        repeat refine And.intro (by first | assumption | exact IsW.kt (by assumption) | omega | (unfold in32; omega) | (unfold in64; omega) | exact True.intro | exact Or.inl True.intro | exact Or.inr True.intro | rfl | exact Nat.le_of_ble_eq_true rfl) ?_
        try first | done | assumption | (unfold in32; omega) | (unfold in64; omega)
        refine ⟨fun _ => ?_, fun z => absurd z (by omega)⟩
        refine k_Mo_findPowers_161 _ _ _ _ _ _ _ _ ?_
        simp (disch := omega) only [↓w_nil, ↓w_vret, true_and, and_true, true_implies, false_implies, not_true_eq_false, not_false_eq_true, Int.reduceEq, Int.reduceLT, Int.reduceLE, Int.reduceNeg, w_up1, w_up2, w_up3]
        try unfold cw_hide
        refine ⟨rfl, fpw_sf (fpw_up G2 (Or.inl rfl)) (by omega), ?_, ?_, fun a i a0 a1 i0 i1 => ?_⟩
        · rw [w_sf3 (by omega), w_up2 (by omega)]; exact e28
        · rw [w_sf3 (by omega), w_up1]
        · rw [w_sf1]; exact hF a i a0 a1 i0 i1
      | succ m im =>
        intro e x3 x4 F he e0 hF
        have ie : in32 e := by unfold in32; omega
        have inner : ∀ (l : Nat) (i : Int) (y4 : cw_V) (F : Int → Int), i + l = y_w (f 4) → 0 ≤ i → (∀ a i : Int, 0 ≤ a → a < e → 0 ≤ i → i < y_w (f 4) → F (24 * a + i) = y_pw (f 4) a i) → (∀ j : Int, 0 ≤ j → j < i → F (24 * e + j) = y_pw (f 4) e j) →
            mJ g y_Mo_findPowers 45 [.inr (.inr 319), .inl (f 4), .inl e, .inl i, y4] [] (cw_sf (cw_up M2 319 27 (y_w (f 4))) 343 F) (cw_hide (fun q M' => q = none ∧ Fpw M M' ∧ Md_at (f 4) M')) := by
          intro l
          induction l with
          | zero =>
            intro i y4 F hi i0 hF hE
            have ei : i = y_w (f 4) := by omega
            subst ei
            have iw : in32 (y_w (f 4)) := by unfold in32; omega
            refine k_Mo_findPowers_45 _ _ _ _ _ _ _ _ ?_
            simp (disch := omega) only [↓w_nil, ↓w_cons, ↓w_ild3, ↓w_ald0, ↓w_gf0_27, ↓w_icge, true_and, and_true, true_implies, false_implies, not_true_eq_false, not_false_eq_true, Int.reduceEq, Int.reduceLT, Int.reduceLE, Int.reduceNeg, w_up1, w_up2, w_up3, c_k319, c_k320, c_k321, c_k322, c_k323, c_k324, c_k325, c_k326, c_k327, c_k328, c_k329, c_k330, c_k331, c_k332, c_k333, c_k334, c_k335, c_k336, c_k337, c_k338, c_k339, c_k340, c_k341, c_k342, c_k343, c_k344, c_k345, c_k346, c_k347, hS2.r319_0, hS2.r319_1, hS2.r319_2, hS2.r319_3, hS2.r319_4, hS2.r319_5, hS2.r319_6, hS2.r319_8, hS2.r319_9, hS2.r319_10, hS2.r319_11, hS2.r319_12, hS2.r319_13, hS2.r319_14, hS2.r319_15, hS2.r319_16, hS2.r319_17, hS2.r319_20, hS2.r319_21, hS2.r319_22, hS2.r319_23, hS2.r319_24, hS2.r319_25, hS2.r319_26, hS2.r319_29, hS2.r319_30, hS2.r319_31, hS2.r319_32, w_sf1, w_sf3]
            repeat refine And.intro (by first | assumption | exact IsW.kt (by assumption) | omega | (unfold in32; omega) | (unfold in64; omega) | exact True.intro | exact Or.inl True.intro | exact Or.inr True.intro | rfl | exact Nat.le_of_ble_eq_true rfl) ?_
            try first | done | assumption | (unfold in32; omega) | (unfold in64; omega)
            refine ⟨fun _ => ?_, fun z => absurd z (by omega)⟩
            refine k_Mo_findPowers_155 _ _ _ _ _ _ _ _ ?_
            simp (disch := omega) only [↓w_nil, ↓w_cons, ↓w_inc2, ↓w_goto, true_and, and_true, true_implies, false_implies, not_true_eq_false, not_false_eq_true, Int.reduceEq, Int.reduceLT, Int.reduceLE, Int.reduceNeg, w_nlI, w_nlL, w_nlR, w_up1, w_up2, w_up3]
            refine im (e + 1) _ _ F (by omega) (by omega) (fun a i a0 a1 i0 i1 => ?_)
            by_cases q : a = e
            · rw [q]; exact hE i i0 i1
            · exact hF a i a0 (by omega) i0 i1
          | succ l il =>
            intro i y4 F hi i0 hF hE
            have iw : in32 (y_w (f 4)) := by unfold in32; omega
            have ii : in32 i := by unfold in32; omega
            have next : ∀ (z4 : cw_V) (x : Int), x = y_pw (f 4) e i → mJ g y_Mo_findPowers 149 [.inr (.inr 319), .inl (f 4), .inl e, .inl i, z4] [] (cw_sf (cw_up M2 319 27 (y_w (f 4))) 343 (cw_fu F (24 * e + i) x)) (cw_hide (fun q M' => q = none ∧ Fpw M M' ∧ Md_at (f 4) M')) := by
              intro z4 x hx
              refine k_Mo_findPowers_149 _ _ _ _ _ _ _ _ ?_
              simp (disch := omega) only [↓w_nil, ↓w_cons, ↓w_inc3, ↓w_goto, true_and, and_true, true_implies, false_implies, not_true_eq_false, not_false_eq_true, Int.reduceEq, Int.reduceLT, Int.reduceLE, Int.reduceNeg, w_nlI, w_nlL, w_nlR, w_up1, w_up2, w_up3]
              refine il (i + 1) _ _ (by omega) (by omega) (fun a j a0 a1 j0 j1 => by rw [fu_o (by omega)]; exact hF a j a0 a1 j0 j1) (fun j j0 j1 => ?_)
              by_cases q : j = i
              · rw [q, fu_a, hx]
              · rw [fu_o (by omega)]; exact hE j j0 (by omega)
            refine k_Mo_findPowers_45 _ _ _ _ _ _ _ _ ?_
            simp (disch := omega) only [↓w_nil, ↓w_cons, ↓w_ild3, ↓w_ald0, ↓w_gf0_27, ↓w_icge, true_and, and_true, true_implies, false_implies, not_true_eq_false, not_false_eq_true, Int.reduceEq, Int.reduceLT, Int.reduceLE, Int.reduceNeg, w_up1, w_up2, w_up3, c_k319, c_k320, c_k321, c_k322, c_k323, c_k324, c_k325, c_k326, c_k327, c_k328, c_k329, c_k330, c_k331, c_k332, c_k333, c_k334, c_k335, c_k336, c_k337, c_k338, c_k339, c_k340, c_k341, c_k342, c_k343, c_k344, c_k345, c_k346, c_k347, hS2.r319_0, hS2.r319_1, hS2.r319_2, hS2.r319_3, hS2.r319_4, hS2.r319_5, hS2.r319_6, hS2.r319_8, hS2.r319_9, hS2.r319_10, hS2.r319_11, hS2.r319_12, hS2.r319_13, hS2.r319_14, hS2.r319_15, hS2.r319_16, hS2.r319_17, hS2.r319_20, hS2.r319_21, hS2.r319_22, hS2.r319_23, hS2.r319_24, hS2.r319_25, hS2.r319_26, hS2.r319_29, hS2.r319_30, hS2.r319_31, hS2.r319_32, w_sf1, w_sf3]
            repeat refine And.intro (by first | assumption | exact IsW.kt (by assumption) | omega | (unfold in32; omega) | (unfold in64; omega) | exact True.intro | exact Or.inl True.intro | exact Or.inr True.intro | rfl | exact Nat.le_of_ble_eq_true rfl) ?_
            try first | done | assumption | (unfold in32; omega) | (unfold in64; omega)
            intro _
            refine k_Mo_findPowers_53 _ _ _ _ _ _ _ _ ?_
            simp (disch := omega) only [↓w_nil, ↓w_cons, ↓w_ild2, ↓w_ifne, true_and, and_true, true_implies, false_implies, not_true_eq_false, not_false_eq_true, Int.reduceEq, Int.reduceLT, Int.reduceLE, Int.reduceNeg, w_up1, w_up2, w_up3]
            repeat refine And.intro (by first | assumption | exact IsW.kt (by assumption) | omega | (unfold in32; omega) | (unfold in64; omega) | exact True.intro | exact Or.inl True.intro | exact Or.inr True.intro | rfl | exact Nat.le_of_ble_eq_true rfl) ?_
            try first | done | assumption | (unfold in32; omega) | (unfold in64; omega)
            refine ⟨fun hc => ?_, fun hc => ?_⟩
            · have st := pw_st w4 (e := e - 1) (i := i) ⟨by omega, by omega⟩ ⟨i0, by omega⟩
              rw [if_neg (by omega), show e - 1 + 1 = e by omega] at st
              have last := hF (e - 1) (y_w (f 4) - 1) (by omega) (by omega) (by omega) (by omega)
              have r := r40 i i0 (by omega)
              have e1 : 24 * (e - 1) + y_w (f 4) - 1 = 24 * (e - 1) + (y_w (f 4) - 1) := by omega
              have last' : F (24 * (e - 1) + y_w (f 4) - 1) = y_pw (f 4) (e - 1) (y_w (f 4) - 1) := by rw [e1]; exact last
              have fin : ∀ x : Int, x = (if i = 0 then 0 else y_pw (f 4) (e - 1) (i - 1)) → mJ g y_Mo_findPowers 133 [.inr (.inr 319), .inl (f 4), .inl e, .inl i, .inl (y_pw (f 4) (e - 1) (y_w (f 4) - 1))] [.inl x, .inl (24 * e + i), .inr (.inr 343)] (cw_sf (cw_up M2 319 27 (y_w (f 4))) 343 F) (cw_hide (fun q M' => q = none ∧ Fpw M M' ∧ Md_at (f 4) M')) := by
                intro x hx
                refine k_Mo_findPowers_133 _ _ _ _ _ _ _ _ ?_
                simp (disch := omega) only [↓w_nil, ↓w_cons, ↓w_ild4, ↓w_ald0, ↓w_gf2_23, ↓w_ic, ↓w_ild1, ↓w_imul, ↓w_ild3, ↓w_iadd, ↓w_iald, ↓w_isub, ↓w_iast, ↓w_fall, true_and, and_true, true_implies, false_implies, not_true_eq_false, not_false_eq_true, Int.reduceEq, Int.reduceLT, Int.reduceLE, Int.reduceNeg, w_up1, w_up2, w_up3, r, c_k319, c_k320, c_k321, c_k322, c_k323, c_k324, c_k325, c_k326, c_k327, c_k328, c_k329, c_k330, c_k331, c_k332, c_k333, c_k334, c_k335, c_k336, c_k337, c_k338, c_k339, c_k340, c_k341, c_k342, c_k343, c_k344, c_k345, c_k346, c_k347, hS2.r319_0, hS2.r319_1, hS2.r319_2, hS2.r319_3, hS2.r319_4, hS2.r319_5, hS2.r319_6, hS2.r319_8, hS2.r319_9, hS2.r319_10, hS2.r319_11, hS2.r319_12, hS2.r319_13, hS2.r319_14, hS2.r319_15, hS2.r319_16, hS2.r319_17, hS2.r319_20, hS2.r319_21, hS2.r319_22, hS2.r319_23, hS2.r319_24, hS2.r319_25, hS2.r319_26, hS2.r319_29, hS2.r319_30, hS2.r319_31, hS2.r319_32, w_sf1, w_sf3]
                repeat refine And.intro (by first | assumption | exact IsW.kt (by assumption) | omega | (unfold in32; omega) | (unfold in64; omega) | exact True.intro | exact Or.inl True.intro | exact Or.inr True.intro | rfl | exact Nat.le_of_ble_eq_true rfl) ?_
                try first | done | assumption | (unfold in32; omega) | (unfold in64; omega)
                rw [sf_fu]
                exact next _ _ (by rw [st, hx])
              refine k_Mo_findPowers_80 _ _ _ _ _ _ _ _ ?_
              simp (disch := omega) only [↓w_nil, ↓w_cons, ↓w_ald0, ↓w_gf2_26, ↓w_ic, ↓w_ild2, ↓w_isub, ↓w_imul, ↓w_gf0_27, ↓w_iadd, ↓w_iald, ↓w_ist4, ↓w_ild3, ↓w_ifne, true_and, and_true, true_implies, false_implies, not_true_eq_false, not_false_eq_true, Int.reduceEq, Int.reduceLT, Int.reduceLE, Int.reduceNeg, w_nlI, w_nlL, w_nlR, w_up1, w_up2, w_up3, last', c_k319, c_k320, c_k321, c_k322, c_k323, c_k324, c_k325, c_k326, c_k327, c_k328, c_k329, c_k330, c_k331, c_k332, c_k333, c_k334, c_k335, c_k336, c_k337, c_k338, c_k339, c_k340, c_k341, c_k342, c_k343, c_k344, c_k345, c_k346, c_k347, hS2.r319_0, hS2.r319_1, hS2.r319_2, hS2.r319_3, hS2.r319_4, hS2.r319_5, hS2.r319_6, hS2.r319_8, hS2.r319_9, hS2.r319_10, hS2.r319_11, hS2.r319_12, hS2.r319_13, hS2.r319_14, hS2.r319_15, hS2.r319_16, hS2.r319_17, hS2.r319_20, hS2.r319_21, hS2.r319_22, hS2.r319_23, hS2.r319_24, hS2.r319_25, hS2.r319_26, hS2.r319_29, hS2.r319_30, hS2.r319_31, hS2.r319_32, w_sf1, w_sf3]
              repeat refine And.intro (by first | assumption | exact IsW.kt (by assumption) | omega | (unfold in32; omega) | (unfold in64; omega) | exact True.intro | exact Or.inl True.intro | exact Or.inr True.intro | rfl | exact Nat.le_of_ble_eq_true rfl) ?_
              try first | done | assumption | (unfold in32; omega) | (unfold in64; omega)
              refine ⟨fun hi2 => ?_, fun hi2 => ?_⟩
              · have p := hF (e - 1) (i - 1) (by omega) (by omega) (by omega) (by omega)
                have e2 : 24 * (e - 1) + i - 1 = 24 * (e - 1) + (i - 1) := by omega
                have p' : F (24 * (e - 1) + i - 1) = y_pw (f 4) (e - 1) (i - 1) := by rw [e2]; exact p
                refine k_Mo_findPowers_118 _ _ _ _ _ _ _ _ ?_
                simp (disch := omega) only [↓w_nil, ↓w_cons, ↓w_ald0, ↓w_gf2_26, ↓w_ic, ↓w_ild2, ↓w_isub, ↓w_imul, ↓w_ild3, ↓w_iadd, ↓w_iald, ↓w_fall, true_and, and_true, true_implies, false_implies, not_true_eq_false, not_false_eq_true, Int.reduceEq, Int.reduceLT, Int.reduceLE, Int.reduceNeg, w_up1, w_up2, w_up3, p', c_k319, c_k320, c_k321, c_k322, c_k323, c_k324, c_k325, c_k326, c_k327, c_k328, c_k329, c_k330, c_k331, c_k332, c_k333, c_k334, c_k335, c_k336, c_k337, c_k338, c_k339, c_k340, c_k341, c_k342, c_k343, c_k344, c_k345, c_k346, c_k347, hS2.r319_0, hS2.r319_1, hS2.r319_2, hS2.r319_3, hS2.r319_4, hS2.r319_5, hS2.r319_6, hS2.r319_8, hS2.r319_9, hS2.r319_10, hS2.r319_11, hS2.r319_12, hS2.r319_13, hS2.r319_14, hS2.r319_15, hS2.r319_16, hS2.r319_17, hS2.r319_20, hS2.r319_21, hS2.r319_22, hS2.r319_23, hS2.r319_24, hS2.r319_25, hS2.r319_26, hS2.r319_29, hS2.r319_30, hS2.r319_31, hS2.r319_32, w_sf1, w_sf3]
                repeat refine And.intro (by first | assumption | exact IsW.kt (by assumption) | omega | (unfold in32; omega) | (unfold in64; omega) | exact True.intro | exact Or.inl True.intro | exact Or.inr True.intro | rfl | exact Nat.le_of_ble_eq_true rfl) ?_
                try first | done | assumption | (unfold in32; omega) | (unfold in64; omega)
                exact fin _ (by rw [if_neg hi2])
              · refine k_Mo_findPowers_114 _ _ _ _ _ _ _ _ ?_
                simp (disch := omega) only [↓w_nil, ↓w_cons, ↓w_ic, ↓w_goto, true_and, and_true, true_implies, false_implies, not_true_eq_false, not_false_eq_true, Int.reduceEq, Int.reduceLT, Int.reduceLE, Int.reduceNeg, w_up1, w_up2, w_up3]
                exact fin 0 (by rw [if_pos hi2])
            · have un := pw_un w4 (e := e) (i := i) ⟨by omega, by omega⟩ ⟨i0, by omega⟩
              have fin : ∀ x : Int, x = (if e = i then 1 else 0) → mJ g y_Mo_findPowers 76 [.inr (.inr 319), .inl (f 4), .inl e, .inl i, y4] [.inl x, .inl (24 * e + i), .inr (.inr 343)] (cw_sf (cw_up M2 319 27 (y_w (f 4))) 343 F) (cw_hide (fun q M' => q = none ∧ Fpw M M' ∧ Md_at (f 4) M')) := by
                intro x hx
                refine k_Mo_findPowers_76 _ _ _ _ _ _ _ _ ?_
                simp (disch := omega) only [↓w_nil, ↓w_cons, ↓w_iast, ↓w_goto, true_and, and_true, true_implies, false_implies, not_true_eq_false, not_false_eq_true, Int.reduceEq, Int.reduceLT, Int.reduceLE, Int.reduceNeg, w_up1, w_up2, w_up3, c_k319, c_k320, c_k321, c_k322, c_k323, c_k324, c_k325, c_k326, c_k327, c_k328, c_k329, c_k330, c_k331, c_k332, c_k333, c_k334, c_k335, c_k336, c_k337, c_k338, c_k339, c_k340, c_k341, c_k342, c_k343, c_k344, c_k345, c_k346, c_k347, hS2.r319_0, hS2.r319_1, hS2.r319_2, hS2.r319_3, hS2.r319_4, hS2.r319_5, hS2.r319_6, hS2.r319_8, hS2.r319_9, hS2.r319_10, hS2.r319_11, hS2.r319_12, hS2.r319_13, hS2.r319_14, hS2.r319_15, hS2.r319_16, hS2.r319_17, hS2.r319_20, hS2.r319_21, hS2.r319_22, hS2.r319_23, hS2.r319_24, hS2.r319_25, hS2.r319_26, hS2.r319_29, hS2.r319_30, hS2.r319_31, hS2.r319_32, w_sf1, w_sf3]
                repeat refine And.intro (by first | assumption | exact IsW.kt (by assumption) | omega | (unfold in32; omega) | (unfold in64; omega) | exact True.intro | exact Or.inl True.intro | exact Or.inr True.intro | rfl | exact Nat.le_of_ble_eq_true rfl) ?_
                try first | done | assumption | (unfold in32; omega) | (unfold in64; omega)
                rw [sf_fu]
                exact next _ _ (by rw [un, hx])
              refine k_Mo_findPowers_57 _ _ _ _ _ _ _ _ ?_
              simp (disch := omega) only [↓w_nil, ↓w_cons, ↓w_ald0, ↓w_gf2_26, ↓w_ic, ↓w_ild2, ↓w_imul, ↓w_ild3, ↓w_iadd, ↓w_ifne, true_and, and_true, true_implies, false_implies, not_true_eq_false, not_false_eq_true, Int.reduceEq, Int.reduceLT, Int.reduceLE, Int.reduceNeg, w_up1, w_up2, w_up3, c_k319, c_k320, c_k321, c_k322, c_k323, c_k324, c_k325, c_k326, c_k327, c_k328, c_k329, c_k330, c_k331, c_k332, c_k333, c_k334, c_k335, c_k336, c_k337, c_k338, c_k339, c_k340, c_k341, c_k342, c_k343, c_k344, c_k345, c_k346, c_k347, hS2.r319_0, hS2.r319_1, hS2.r319_2, hS2.r319_3, hS2.r319_4, hS2.r319_5, hS2.r319_6, hS2.r319_8, hS2.r319_9, hS2.r319_10, hS2.r319_11, hS2.r319_12, hS2.r319_13, hS2.r319_14, hS2.r319_15, hS2.r319_16, hS2.r319_17, hS2.r319_20, hS2.r319_21, hS2.r319_22, hS2.r319_23, hS2.r319_24, hS2.r319_25, hS2.r319_26, hS2.r319_29, hS2.r319_30, hS2.r319_31, hS2.r319_32, w_sf1, w_sf3]
              repeat refine And.intro (by first | assumption | exact IsW.kt (by assumption) | omega | (unfold in32; omega) | (unfold in64; omega) | exact True.intro | exact Or.inl True.intro | exact Or.inr True.intro | rfl | exact Nat.le_of_ble_eq_true rfl) ?_
              try first | done | assumption | (unfold in32; omega) | (unfold in64; omega)
              refine ⟨fun hi2 => ?_, fun hi2 => ?_⟩
              · refine k_Mo_findPowers_75 _ _ _ _ _ _ _ _ ?_
                simp (disch := omega) only [↓w_nil, ↓w_cons, ↓w_ic, ↓w_fall, true_and, and_true, true_implies, false_implies, not_true_eq_false, not_false_eq_true, Int.reduceEq, Int.reduceLT, Int.reduceLE, Int.reduceNeg, w_up1, w_up2, w_up3]
                exact fin 0 (by rw [if_neg (by omega)])
              · refine k_Mo_findPowers_71 _ _ _ _ _ _ _ _ ?_
                simp (disch := omega) only [↓w_nil, ↓w_cons, ↓w_ic, ↓w_goto, true_and, and_true, true_implies, false_implies, not_true_eq_false, not_false_eq_true, Int.reduceEq, Int.reduceLT, Int.reduceLE, Int.reduceNeg, w_up1, w_up2, w_up3]
                exact fin 1 (by rw [if_pos (by omega)])
        refine k_Mo_findPowers_38 _ _ _ _ _ _ _ _ ?_
        simp (disch := omega) only [↓w_nil, ↓w_cons, ↓w_ild2, ↓w_ild1, ↓w_icge, true_and, and_true, true_implies, false_implies, not_true_eq_false, not_false_eq_true, Int.reduceEq, Int.reduceLT, Int.reduceLE, Int.reduceNeg, w_up1, w_up2, w_up3]
        repeat refine And.intro (by first | assumption | exact IsW.kt (by assumption) | omega | (unfold in32; omega) | (unfold in64; omega) | exact True.intro | exact Or.inl True.intro | exact Or.inr True.intro | rfl | exact Nat.le_of_ble_eq_true rfl) ?_
        try first | done | assumption | (unfold in32; omega) | (unfold in64; omega)
        intro _
        refine k_Mo_findPowers_43 _ _ _ _ _ _ _ _ ?_
        simp (disch := omega) only [↓w_nil, ↓w_cons, ↓w_ic, ↓w_ist3, ↓w_fall, true_and, and_true, true_implies, false_implies, not_true_eq_false, not_false_eq_true, Int.reduceEq, Int.reduceLT, Int.reduceLE, Int.reduceNeg, w_nlI, w_nlL, w_nlR, w_up1, w_up2, w_up3]
        exact inner (y_w (f 4)).toNat 0 x4 F (by omega) (by omega) hF (fun j j0 j1 => by omega)
    refine k_Mo_findPowers_26 _ _ _ _ _ _ _ _ ?_
    simp (disch := omega) only [↓w_nil, ↓w_cons, ↓w_ald0, ↓w_gf2_24, ↓w_ild1, ↓w_iald, ↓w_pfI_27, ↓w_ic, ↓w_ist2, ↓w_fall, true_and, and_true, true_implies, false_implies, not_true_eq_false, not_false_eq_true, Int.reduceEq, Int.reduceLT, Int.reduceLE, Int.reduceNeg, w_nlI, w_nlL, w_nlR, w_up1, w_up2, w_up3, w_tl0, r41, c_k319, c_k320, c_k321, c_k322, c_k323, c_k324, c_k325, c_k326, c_k327, c_k328, c_k329, c_k330, c_k331, c_k332, c_k333, c_k334, c_k335, c_k336, c_k337, c_k338, c_k339, c_k340, c_k341, c_k342, c_k343, c_k344, c_k345, c_k346, c_k347, hS2.r319_0, hS2.r319_1, hS2.r319_2, hS2.r319_3, hS2.r319_4, hS2.r319_5, hS2.r319_6, hS2.r319_8, hS2.r319_9, hS2.r319_10, hS2.r319_11, hS2.r319_12, hS2.r319_13, hS2.r319_14, hS2.r319_15, hS2.r319_16, hS2.r319_17, hS2.r319_20, hS2.r319_21, hS2.r319_22, hS2.r319_23, hS2.r319_24, hS2.r319_25, hS2.r319_26, hS2.r319_29, hS2.r319_30, hS2.r319_31, hS2.r319_32, w_sf1, w_sf3]
    repeat refine And.intro (by first | assumption | exact IsW.kt (by assumption) | omega | (unfold in32; omega) | (unfold in64; omega) | exact True.intro | exact Or.inl True.intro | exact Or.inr True.intro | rfl | exact Nat.le_of_ble_eq_true rfl) ?_
    try first | done | assumption | (unfold in32; omega) | (unfold in64; omega)
    have := outer (f 4).toNat 0 cU cU (M2 343) (by omega) (by omega) (fun a i a0 a1 i0 i1 => by omega)
    rw [show (M2 343) = (cw_up M2 319 27 (y_w (f 4))) 343 from (cw_up_ne (by omega)).symm, sf_id] at this
    exact this
  · refine k_Mo_findPowers_15 _ _ _ _ _ _ _ _ ?_
    simp (disch := omega) only [↓w_nil, ↓w_vret, true_and, and_true, true_implies, false_implies, not_true_eq_false, not_false_eq_true, Int.reduceEq, Int.reduceLT, Int.reduceLE, Int.reduceNeg, w_up1, w_up2, w_up3]
    try unfold cw_hide
    exact ⟨rfl, Fpw.rf hS, hd.1 (f 4) w4.1 w4.2 hc⟩
theorem p_Mo_plus {g : cw_G} {M : cw_M} {S sg e r : Int} (hS : Sh M) (h6 : 6 ≤ S ∧ S ≤ 24) (hd : Md_at S M) (h4 : M 324 4 = S) (hr : r = 344 ∨ r = 345) (he : 0 ≤ e ∧ e ≤ 100000) :
    mC g y_Mo_plus [.inr (.inr 319), .inr (.inr r), .inl sg, .inl e] M (fun q M' => q = none ∧ ∃ F, M' = cw_sf M r F ∧ ∀ i : Int, 0 ≤ i → i < y_w S → F i = M r i + sg * y_pw S (e.tmod S) i) := by
  obtain ⟨d1, d2, d3⟩ := hd
  have wb := y_w_b h6
  have kr : cw_kt cw_NX r = (20, 24) := by rcases hr with rfl | rfl <;> decide +kernel
  have t0 := Int.tmod_nonneg S he.1
  have t1 := Int.tmod_lt_of_pos e (show 0 < S by omega)
  have iw : in32 (y_w S) := by unfold in32; omega
  have iS : in32 S := by unfold in32; omega
  have ie : in32 e := by unfold in32; omega
  have loop : ∀ (m : Nat) (i : Int), i + m = y_w S → 0 ≤ i → mJ g y_Mo_plus 3 [.inr (.inr 319), .inr (.inr r), .inl sg, .inl e, .inl i] [] (cw_sf M r (cw_fi (M r) (fun i => M r i + sg * y_pw S (e.tmod S) i) 0 i)) (cw_hide (fun q M' => q = none ∧ ∃ F, M' = cw_sf M r F ∧ ∀ i : Int, 0 ≤ i → i < y_w S → F i = M r i + sg * y_pw S (e.tmod S) i)) := by
    intro m
    induction m with
    | zero =>
      intro i hi i0
      have ei : i = y_w S := by omega
      subst ei
      refine k_Mo_plus_3 _ _ _ _ _ _ _ _ ?_
      simp (disch := omega) only [↓w_nil, ↓w_cons, ↓w_ild4, ↓w_ald0, ↓w_gf0_27, ↓w_icge, true_and, and_true, true_implies, false_implies, not_true_eq_false, not_false_eq_true, Int.reduceEq, Int.reduceLT, Int.reduceLE, Int.reduceNeg, w_up1, w_up2, w_up3, d2, c_k319, c_k320, c_k321, c_k322, c_k323, c_k324, c_k325, c_k326, c_k327, c_k328, c_k329, c_k330, c_k331, c_k332, c_k333, c_k334, c_k335, c_k336, c_k337, c_k338, c_k339, c_k340, c_k341, c_k342, c_k343, c_k344, c_k345, c_k346, c_k347, hS.r319_0, hS.r319_1, hS.r319_2, hS.r319_3, hS.r319_4, hS.r319_5, hS.r319_6, hS.r319_8, hS.r319_9, hS.r319_10, hS.r319_11, hS.r319_12, hS.r319_13, hS.r319_14, hS.r319_15, hS.r319_16, hS.r319_17, hS.r319_20, hS.r319_21, hS.r319_22, hS.r319_23, hS.r319_24, hS.r319_25, hS.r319_26, hS.r319_29, hS.r319_30, hS.r319_31, hS.r319_32, w_sf1, w_sf3]
      repeat refine And.intro (by first | assumption | exact IsW.kt (by assumption) | omega | (unfold in32; omega) | (unfold in64; omega) | exact True.intro | exact Or.inl True.intro | exact Or.inr True.intro | rfl | exact Nat.le_of_ble_eq_true rfl) ?_
      try first | done | assumption | (unfold in32; omega) | (unfold in64; omega)
      refine ⟨fun _ => ?_, fun z => absurd z (by omega)⟩
      refine k_Mo_plus_46 _ _ _ _ _ _ _ _ ?_
      simp (disch := omega) only [↓w_nil, ↓w_vret, true_and, and_true, true_implies, false_implies, not_true_eq_false, not_false_eq_true, Int.reduceEq, Int.reduceLT, Int.reduceLE, Int.reduceNeg, w_up1, w_up2, w_up3]
      try unfold cw_hide
      exact ⟨rfl, _, rfl, fun j j0 j1 => by rw [fi_at j0 j1]⟩
    | succ m im =>
      intro i hi i0
      have ii : in32 i := by unfold in32; omega
      have p := d3 (e.tmod S) i t0 t1 i0 (by omega)
      refine k_Mo_plus_3 _ _ _ _ _ _ _ _ ?_
      simp (disch := omega) only [↓w_nil, ↓w_cons, ↓w_ild4, ↓w_ald0, ↓w_gf0_27, ↓w_icge, true_and, and_true, true_implies, false_implies, not_true_eq_false, not_false_eq_true, Int.reduceEq, Int.reduceLT, Int.reduceLE, Int.reduceNeg, w_up1, w_up2, w_up3, d2, c_k319, c_k320, c_k321, c_k322, c_k323, c_k324, c_k325, c_k326, c_k327, c_k328, c_k329, c_k330, c_k331, c_k332, c_k333, c_k334, c_k335, c_k336, c_k337, c_k338, c_k339, c_k340, c_k341, c_k342, c_k343, c_k344, c_k345, c_k346, c_k347, hS.r319_0, hS.r319_1, hS.r319_2, hS.r319_3, hS.r319_4, hS.r319_5, hS.r319_6, hS.r319_8, hS.r319_9, hS.r319_10, hS.r319_11, hS.r319_12, hS.r319_13, hS.r319_14, hS.r319_15, hS.r319_16, hS.r319_17, hS.r319_20, hS.r319_21, hS.r319_22, hS.r319_23, hS.r319_24, hS.r319_25, hS.r319_26, hS.r319_29, hS.r319_30, hS.r319_31, hS.r319_32, w_sf1, w_sf3]
      repeat refine And.intro (by first | assumption | exact IsW.kt (by assumption) | omega | (unfold in32; omega) | (unfold in64; omega) | exact True.intro | exact Or.inl True.intro | exact Or.inr True.intro | rfl | exact Nat.le_of_ble_eq_true rfl) ?_
      try first | done | assumption | (unfold in32; omega) | (unfold in64; omega)
      intro _
      refine k_Mo_plus_12 _ _ _ _ _ _ _ _ ?_
      simp (disch := omega) only [↓w_nil, ↓w_cons, ↓w_ald1, ↓w_ild4, ↓w_dup2, ↓w_dup2L, ↓w_iald, ↓w_ild2, ↓w_ald0, ↓w_gf2_26, ↓w_ic, ↓w_ild3, ↓w_gf2_4, ↓w_irem, ↓w_imul, ↓w_iadd, ↓w_iast, ↓w_inc4, ↓w_goto, true_and, and_true, true_implies, false_implies, not_true_eq_false, not_false_eq_true, Int.reduceEq, Int.reduceLT, Int.reduceLE, Int.reduceNeg, w_nlI, w_nlL, w_nlR, w_up1, w_up2, w_up3, fi_out, kr, p, h4, c_k319, c_k320, c_k321, c_k322, c_k323, c_k324, c_k325, c_k326, c_k327, c_k328, c_k329, c_k330, c_k331, c_k332, c_k333, c_k334, c_k335, c_k336, c_k337, c_k338, c_k339, c_k340, c_k341, c_k342, c_k343, c_k344, c_k345, c_k346, c_k347, hS.r319_0, hS.r319_1, hS.r319_2, hS.r319_3, hS.r319_4, hS.r319_5, hS.r319_6, hS.r319_8, hS.r319_9, hS.r319_10, hS.r319_11, hS.r319_12, hS.r319_13, hS.r319_14, hS.r319_15, hS.r319_16, hS.r319_17, hS.r319_20, hS.r319_21, hS.r319_22, hS.r319_23, hS.r319_24, hS.r319_25, hS.r319_26, hS.r319_29, hS.r319_30, hS.r319_31, hS.r319_32, w_sf1, w_sf3]
      repeat refine And.intro (by first | assumption | exact IsW.kt (by assumption) | omega | (unfold in32; omega) | (unfold in64; omega) | exact True.intro | exact Or.inl True.intro | exact Or.inr True.intro | rfl | exact Nat.le_of_ble_eq_true rfl) ?_
      try first | done | assumption | (unfold in32; omega) | (unfold in64; omega)
      rw [fi_up i0 rfl]
      exact im (i + 1) (by omega) (by omega)
  refine cw_C_of (L := [.inr (.inr 319), .inr (.inr r), .inl sg, .inl e, cU]) ok_Mo_plus (Nat.le_refl _) (Nat.le_of_ble_eq_true rfl) rfl ?_
  refine cw_J_hide ?_
  refine k_Mo_plus_0 _ _ _ _ _ _ _ _ ?_
  simp (disch := omega) only [↓w_nil, ↓w_cons, ↓w_ic, ↓w_ist4, ↓w_fall, true_and, and_true, true_implies, false_implies, not_true_eq_false, not_false_eq_true, Int.reduceEq, Int.reduceLT, Int.reduceLE, Int.reduceNeg, w_nlI, w_nlL, w_nlR, w_up1, w_up2, w_up3]
  have := loop (y_w S).toNat 0 (by omega) (by omega)
  rw [fi_0, sf_id] at this
  exact this
theorem p_Mo_clears {g : cw_G} {M : cw_M} {r : Int} (hS : Sh M) (hr : r = 344 ∨ r = 345) :
    mC g y_Mo_clears [.inr (.inr 319), .inr (.inr r)] M (fun q M' => q = none ∧ ∃ F, M' = cw_sf M r F ∧ ∀ i : Int, 0 ≤ i → i < 24 → F i = 0) := by
  have kr : cw_kt cw_NX r = (20, 24) := by rcases hr with rfl | rfl <;> decide +kernel
  have loop : ∀ (m : Nat) (i : Int), i + m = 24 → 0 ≤ i → mJ g y_Mo_clears 2 [.inr (.inr 319), .inr (.inr r), .inl i] [] (cw_sf M r (cw_fi (M r) (fun _ => 0) 0 i)) (cw_hide (fun q M' => q = none ∧ ∃ F, M' = cw_sf M r F ∧ ∀ i : Int, 0 ≤ i → i < 24 → F i = 0)) := by
    intro m
    induction m with
    | zero =>
      intro i hi i0
      refine k_Mo_clears_2 _ _ _ _ _ _ _ _ ?_
      simp (disch := omega) only [↓w_nil, ↓w_cons, ↓w_ild2, ↓w_ic, ↓w_icge, true_and, and_true, true_implies, false_implies, not_true_eq_false, not_false_eq_true, Int.reduceEq, Int.reduceLT, Int.reduceLE, Int.reduceNeg, w_up1, w_up2, w_up3]
      repeat refine And.intro (by first | assumption | exact IsW.kt (by assumption) | omega | (unfold in32; omega) | (unfold in64; omega) | exact True.intro | exact Or.inl True.intro | exact Or.inr True.intro | rfl | exact Nat.le_of_ble_eq_true rfl) ?_
      try first | done | assumption | (unfold in32; omega) | (unfold in64; omega)
      refine ⟨fun _ => ?_, fun z => absurd z (by omega)⟩
      have ei : i = 24 := by omega
      subst ei
      refine k_Mo_clears_18 _ _ _ _ _ _ _ _ ?_
      simp (disch := omega) only [↓w_nil, ↓w_vret, true_and, and_true, true_implies, false_implies, not_true_eq_false, not_false_eq_true, Int.reduceEq, Int.reduceLT, Int.reduceLE, Int.reduceNeg, w_up1, w_up2, w_up3]
      try unfold cw_hide
      exact ⟨rfl, _, rfl, fun j j0 j1 => by rw [fi_at j0 j1]⟩
    | succ m im =>
      intro i hi i0
      have ii : in32 i := by unfold in32; omega
      refine k_Mo_clears_2 _ _ _ _ _ _ _ _ ?_
      simp (disch := omega) only [↓w_nil, ↓w_cons, ↓w_ild2, ↓w_ic, ↓w_icge, true_and, and_true, true_implies, false_implies, not_true_eq_false, not_false_eq_true, Int.reduceEq, Int.reduceLT, Int.reduceLE, Int.reduceNeg, w_up1, w_up2, w_up3]
      repeat refine And.intro (by first | assumption | exact IsW.kt (by assumption) | omega | (unfold in32; omega) | (unfold in64; omega) | exact True.intro | exact Or.inl True.intro | exact Or.inr True.intro | rfl | exact Nat.le_of_ble_eq_true rfl) ?_
      try first | done | assumption | (unfold in32; omega) | (unfold in64; omega)
      intro _
      refine k_Mo_clears_8 _ _ _ _ _ _ _ _ ?_
      simp (disch := omega) only [↓w_nil, ↓w_cons, ↓w_ald1, ↓w_ild2, ↓w_ic, ↓w_iast, ↓w_inc2, ↓w_goto, true_and, and_true, true_implies, false_implies, not_true_eq_false, not_false_eq_true, Int.reduceEq, Int.reduceLT, Int.reduceLE, Int.reduceNeg, w_nlI, w_nlL, w_nlR, w_up1, w_up2, w_up3, kr]
      repeat refine And.intro (by first | assumption | exact IsW.kt (by assumption) | omega | (unfold in32; omega) | (unfold in64; omega) | exact True.intro | exact Or.inl True.intro | exact Or.inr True.intro | rfl | exact Nat.le_of_ble_eq_true rfl) ?_
      try first | done | assumption | (unfold in32; omega) | (unfold in64; omega)
      rw [fi_up i0 rfl]
      exact im (i + 1) (by omega) (by omega)
  refine cw_C_of (L := [.inr (.inr 319), .inr (.inr r), cU]) ok_Mo_clears (Nat.le_refl _) (Nat.le_of_ble_eq_true rfl) rfl ?_
  refine cw_J_hide ?_
  refine k_Mo_clears_0 _ _ _ _ _ _ _ _ ?_
  simp (disch := omega) only [↓w_nil, ↓w_cons, ↓w_ic, ↓w_ist2, ↓w_fall, true_and, and_true, true_implies, false_implies, not_true_eq_false, not_false_eq_true, Int.reduceEq, Int.reduceLT, Int.reduceLE, Int.reduceNeg, w_nlI, w_nlL, w_nlR, w_up1, w_up2, w_up3]
  have := loop 24 0 (by omega) (by omega)
  rw [fi_0, sf_id] at this
  exact this
theorem Md_at.sf {S r : Int} {M : cw_M} {F : Int → Int} (h : Md_at S M) (hr : r = 344 ∨ r = 345) : Md_at S (cw_sf M r F) := ⟨by rw [w_sf3 (by omega)]; exact h.1, by rw [w_sf3 (by omega)]; exact h.2.1, fun e i a b c d => by rw [w_sf3 (by omega)]; exact h.2.2 e i a b c d⟩
theorem sh_sr {r : Int} {M : cw_M} {F : Int → Int} (h : Sh M) (hr : r = 344 ∨ r = 345) : Sh (cw_sf M r F) := (fpw_sf (Fpw.rf h) (by omega)).1
theorem rg_4 (a b p q : Int) : a - b + 1 * p + -1 * q = a + 1 * p - (b + 1 * q) := by grind
theorem rg_5 (a b p q : Int) : a - b + -1 * p + 1 * q = a + -1 * p - (b + -1 * q) := by grind
theorem rg_6 (a p : Int) : a - 0 + p = a + p - 0 := by grind
/-- the star of a phase, less the same star turned on by a span, if there is one -/
def y_st (s : Int → Int) (S k on sp i n : Int) : Int := y_tt s S k on i n - if 0 < sp then y_tt s S k (k * sp) i n else 0
theorem p_Mo_stars {g : cw_G} {M : cw_M} {S ph k on sp r : Int} {f : Int → Int} (hS : Sh M) (h6 : 6 ≤ S ∧ S ≤ 24) (hd : Md_at S M) (hf : M 324 = f) (h4 : f 4 = S) (hr : r = 344 ∨ r = 345) (hp : 0 ≤ ph ∧ ph ≤ 2) (hk : 0 ≤ k ∧ k ≤ 24) (ho : 0 ≤ on ∧ on ≤ 1000) (hsp : 0 ≤ sp ∧ sp ≤ 24) (hb : ∀ j : Int, 0 ≤ j → j < 24 → -12 ≤ f (336 + j) ∧ f (336 + j) ≤ 12) :
    mC g y_Mo_stars [.inr (.inr 319), .inr (.inr r), .inl ph, .inl k, .inl on, .inl sp] M (fun q M' => q = none ∧ ∃ F, M' = cw_sf M r F ∧ ∀ i : Int, 0 ≤ i → i < y_w S → F i = y_st (fun j => y_sg (f (336 + j)) ph) S k on sp i S) := by
  have wb := y_w_b h6
  have iS : in32 S := by unfold in32; omega
  have isp : in32 sp := by unfold in32; omega
  have e24 : ∀ F : Int → Int, (cw_sf M r F) 324 = f := fun F => by rw [sf_ne (by omega)]; exact hf
  have h4' : f 4 = S := h4
  have loop : ∀ (m : Nat) (n : Int) (x7 : cw_V) (F : Int → Int), n + m = S → 0 ≤ n → (∀ i : Int, 0 ≤ i → i < y_w S → F i = y_st (fun j => y_sg (f (336 + j)) ph) S k on sp i n) →
      mJ g y_Mo_stars 8 [.inr (.inr 319), .inr (.inr r), .inl ph, .inl k, .inl on, .inl sp, .inl n, x7] [] (cw_sf M r F) (cw_hide (fun q M' => q = none ∧ ∃ F, M' = cw_sf M r F ∧ ∀ i : Int, 0 ≤ i → i < y_w S → F i = y_st (fun j => y_sg (f (336 + j)) ph) S k on sp i S)) := by
    intro m
    induction m with
    | zero =>
      intro n x7 F hn n0 hF
      have en : n = S := by omega
      subst en
      refine k_Mo_stars_8 _ _ _ _ _ _ _ _ ?_
      simp (disch := omega) only [↓w_nil, ↓w_cons, ↓w_ild6, ↓w_ald0, ↓w_gf2_4, ↓w_ic, ↓w_iald, ↓w_icge, true_and, and_true, true_implies, false_implies, not_true_eq_false, not_false_eq_true, Int.reduceEq, Int.reduceLT, Int.reduceLE, Int.reduceNeg, w_up1, w_up2, w_up3, e24, hf, h4', c_k319, c_k320, c_k321, c_k322, c_k323, c_k324, c_k325, c_k326, c_k327, c_k328, c_k329, c_k330, c_k331, c_k332, c_k333, c_k334, c_k335, c_k336, c_k337, c_k338, c_k339, c_k340, c_k341, c_k342, c_k343, c_k344, c_k345, c_k346, c_k347, hS.r319_0, hS.r319_1, hS.r319_2, hS.r319_3, hS.r319_4, hS.r319_5, hS.r319_6, hS.r319_8, hS.r319_9, hS.r319_10, hS.r319_11, hS.r319_12, hS.r319_13, hS.r319_14, hS.r319_15, hS.r319_16, hS.r319_17, hS.r319_20, hS.r319_21, hS.r319_22, hS.r319_23, hS.r319_24, hS.r319_25, hS.r319_26, hS.r319_29, hS.r319_30, hS.r319_31, hS.r319_32, w_sf1, w_sf3]
      repeat refine And.intro (by first | assumption | exact IsW.kt (by assumption) | omega | (unfold in32; omega) | (unfold in64; omega) | exact True.intro | exact Or.inl True.intro | exact Or.inr True.intro | rfl | exact Nat.le_of_ble_eq_true rfl) ?_
      try first | done | assumption | (unfold in32; omega) | (unfold in64; omega)
      refine ⟨fun _ => ?_, fun z => absurd z (by omega)⟩
      refine k_Mo_stars_105 _ _ _ _ _ _ _ _ ?_
      simp (disch := omega) only [↓w_nil, ↓w_vret, true_and, and_true, true_implies, false_implies, not_true_eq_false, not_false_eq_true, Int.reduceEq, Int.reduceLT, Int.reduceLE, Int.reduceNeg, w_up1, w_up2, w_up3]
      try unfold cw_hide
      exact ⟨rfl, F, rfl, hF⟩
    | succ m im =>
      intro n x7 F hn n0 hF
      have b := hb n n0 (by omega)
      have iv : in32 (f (336 + n)) := by unfold in32; omega
      have i_n : in32 n := by unfold in32; omega
      have m0 : 0 ≤ k * n := Int.mul_nonneg hk.1 n0
      have m1 : k * n ≤ 24 * n := Int.mul_le_mul_of_nonneg_right hk.2 n0
      have m2 : 0 ≤ k * (n + sp) := Int.mul_nonneg hk.1 (by omega)
      have m3 : k * (n + sp) ≤ 24 * (n + sp) := Int.mul_le_mul_of_nonneg_right hk.2 (by omega)
      have m4 : k * (n + sp) = k * n + k * sp := Int.mul_add _ _ _
      have st : ∀ o i : Int, y_tt (fun j => y_sg (f (336 + j)) ph) S k o i (n + 1) = y_tt (fun j => y_sg (f (336 + j)) ph) S k o i n + y_sg (f (336 + n)) ph * y_pw S ((k * n + o).tmod S) i := fun o i => sm_s n0
      have next : ∀ (z7 : cw_V) (F2 : Int → Int), (∀ i : Int, 0 ≤ i → i < y_w S → F2 i = y_st (fun j => y_sg (f (336 + j)) ph) S k on sp i (n + 1)) →
          mJ g y_Mo_stars 99 [.inr (.inr 319), .inr (.inr r), .inl ph, .inl k, .inl on, .inl sp, .inl n, z7] [] (cw_sf M r F2) (cw_hide (fun q M' => q = none ∧ ∃ F, M' = cw_sf M r F ∧ ∀ i : Int, 0 ≤ i → i < y_w S → F i = y_st (fun j => y_sg (f (336 + j)) ph) S k on sp i S)) := by
        intro z7 F2 h2
        refine k_Mo_stars_99 _ _ _ _ _ _ _ _ ?_
        simp (disch := omega) only [↓w_nil, ↓w_cons, ↓w_inc6, ↓w_goto, true_and, and_true, true_implies, false_implies, not_true_eq_false, not_false_eq_true, Int.reduceEq, Int.reduceLT, Int.reduceLE, Int.reduceNeg, w_nlI, w_nlL, w_nlR, w_up1, w_up2, w_up3]
        exact im (n + 1) _ F2 (by omega) (by omega) h2
      have none_ : y_sg (f (336 + n)) ph = 0 → mJ g y_Mo_stars 99 [.inr (.inr 319), .inr (.inr r), .inl ph, .inl k, .inl on, .inl sp, .inl n, .inl (f (336 + n))] [] (cw_sf M r F) (cw_hide (fun q M' => q = none ∧ ∃ F, M' = cw_sf M r F ∧ ∀ i : Int, 0 ≤ i → i < y_w S → F i = y_st (fun j => y_sg (f (336 + j)) ph) S k on sp i S)) := fun z => next _ F (fun i i0 i1 => by
        rw [hF i i0 i1]; unfold y_st; rw [st, st, z, Int.zero_mul, Int.zero_mul, Int.add_zero, Int.add_zero])
      -- a side of the phase
      have side : ∀ s : Int, (s = 1 ∨ s = -1) → y_sg (f (336 + n)) ph = s → (s = -1 ↔ f (336 + n) < 0) → mJ g y_Mo_stars 62 [.inr (.inr 319), .inr (.inr r), .inl ph, .inl k, .inl on, .inl sp, .inl n, .inl (f (336 + n))] [.inl s, .inr (.inr r), .inr (.inr 319)] (cw_sf M r F) (cw_hide (fun q M' => q = none ∧ ∃ F, M' = cw_sf M r F ∧ ∀ i : Int, 0 ≤ i → i < y_w S → F i = y_st (fun j => y_sg (f (336 + j)) ph) S k on sp i S)) := by
        intro s hs es hsn
        refine k_Mo_stars_62 _ _ _ _ _ _ _ _ ?_
        simp (disch := omega) only [↓w_nil, ↓w_cons, ↓w_ild3, ↓w_ild6, ↓w_imul, ↓w_ild4, ↓w_iadd, ↓w_cv3, true_and, and_true, true_implies, false_implies, not_true_eq_false, not_false_eq_true, Int.reduceEq, Int.reduceLT, Int.reduceLE, Int.reduceNeg, w_c80, w_c8I, w_c8L, w_c8R, w_up1, w_up2, w_up3]
        repeat refine And.intro (by first | assumption | exact IsW.kt (by assumption) | omega | (unfold in32; omega) | (unfold in64; omega) | exact True.intro | exact Or.inl True.intro | exact Or.inr True.intro | rfl | exact Nat.le_of_ble_eq_true rfl) ?_
        try first | done | assumption | (unfold in32; omega) | (unfold in64; omega)
        refine ⟨_, p_Mo_plus (S := S) (sh_sr hS hr) h6 (hd.sf hr) (by rw [e24]; exact h4) hr ⟨by omega, by omega⟩, ?_⟩
        rintro q M5 ⟨rfl, F2, rfl, h2⟩
        rw [sf_sf]
        refine k_Mo_stars_72 _ _ _ _ _ _ _ _ ?_
        simp (disch := omega) only [↓w_nil, ↓w_cons, ↓w_ild5, ↓w_ifle, true_and, and_true, true_implies, false_implies, not_true_eq_false, not_false_eq_true, Int.reduceEq, Int.reduceLT, Int.reduceLE, Int.reduceNeg, w_up1, w_up2, w_up3, w_tl0]
        repeat refine And.intro (by first | assumption | exact IsW.kt (by assumption) | omega | (unfold in32; omega) | (unfold in64; omega) | exact True.intro | exact Or.inl True.intro | exact Or.inr True.intro | rfl | exact Nat.le_of_ble_eq_true rfl) ?_
        try first | done | assumption | (unfold in32; omega) | (unfold in64; omega)
        refine ⟨fun hc => ?_, fun hc => ?_⟩
        · refine next _ F2 (fun i i0 i1 => ?_)
          rw [h2 i i0 i1, w_sf1, hF i i0 i1]
          unfold y_st
          rw [if_neg (by omega), if_neg (by omega), st, es]; exact rg_6 _ _
        · have last : ∀ s2 : Int, s2 = -s → mJ g y_Mo_stars 89 [.inr (.inr 319), .inr (.inr r), .inl ph, .inl k, .inl on, .inl sp, .inl n, .inl (f (336 + n))] [.inl s2, .inr (.inr r), .inr (.inr 319)] (cw_sf M r F2) (cw_hide (fun q M' => q = none ∧ ∃ F, M' = cw_sf M r F ∧ ∀ i : Int, 0 ≤ i → i < y_w S → F i = y_st (fun j => y_sg (f (336 + j)) ph) S k on sp i S)) := by
            intro s2 e2
            refine k_Mo_stars_89 _ _ _ _ _ _ _ _ ?_
            simp (disch := omega) only [↓w_nil, ↓w_cons, ↓w_ild3, ↓w_ild6, ↓w_ild5, ↓w_iadd, ↓w_imul, ↓w_cv3, true_and, and_true, true_implies, false_implies, not_true_eq_false, not_false_eq_true, Int.reduceEq, Int.reduceLT, Int.reduceLE, Int.reduceNeg, w_c80, w_c8I, w_c8L, w_c8R, w_up1, w_up2, w_up3]
            repeat refine And.intro (by first | assumption | exact IsW.kt (by assumption) | omega | (unfold in32; omega) | (unfold in64; omega) | exact True.intro | exact Or.inl True.intro | exact Or.inr True.intro | rfl | exact Nat.le_of_ble_eq_true rfl) ?_
            try first | done | assumption | (unfold in32; omega) | (unfold in64; omega)
            refine ⟨_, p_Mo_plus (S := S) (sh_sr hS hr) h6 (hd.sf hr) (by rw [e24]; exact h4) hr ⟨m2, by omega⟩, ?_⟩
            rintro q M5 ⟨rfl, F3, rfl, h3⟩
            rw [sf_sf]
            simp only [w_tl0]
            refine next _ F3 (fun i i0 i1 => ?_)
            rw [h3 i i0 i1, w_sf1, h2 i i0 i1, w_sf1, hF i i0 i1, m4]
            unfold y_st
            rw [if_pos (by omega), if_pos (by omega), st, st, es, e2]
            rcases hs with rfl | rfl
            · exact rg_4 _ _ _ _
            · exact rg_5 _ _ _ _
          refine k_Mo_stars_77 _ _ _ _ _ _ _ _ ?_
          simp (disch := omega) only [↓w_nil, ↓w_cons, ↓w_ald0, ↓w_ald1, ↓w_ild7, ↓w_ifge, true_and, and_true, true_implies, false_implies, not_true_eq_false, not_false_eq_true, Int.reduceEq, Int.reduceLT, Int.reduceLE, Int.reduceNeg, w_up1, w_up2, w_up3]
          repeat refine And.intro (by first | assumption | exact IsW.kt (by assumption) | omega | (unfold in32; omega) | (unfold in64; omega) | exact True.intro | exact Or.inl True.intro | exact Or.inr True.intro | rfl | exact Nat.le_of_ble_eq_true rfl) ?_
          try first | done | assumption | (unfold in32; omega) | (unfold in64; omega)
          refine ⟨fun hv => ?_, fun hv => ?_⟩
          · refine k_Mo_stars_88 _ _ _ _ _ _ _ _ ?_
            simp (disch := omega) only [↓w_nil, ↓w_cons, ↓w_ic, ↓w_fall, true_and, and_true, true_implies, false_implies, not_true_eq_false, not_false_eq_true, Int.reduceEq, Int.reduceLT, Int.reduceLE, Int.reduceNeg, w_up1, w_up2, w_up3]
            exact last (-1) (by omega)
          · refine k_Mo_stars_84 _ _ _ _ _ _ _ _ ?_
            simp (disch := omega) only [↓w_nil, ↓w_cons, ↓w_ic, ↓w_goto, true_and, and_true, true_implies, false_implies, not_true_eq_false, not_false_eq_true, Int.reduceEq, Int.reduceLT, Int.reduceLE, Int.reduceNeg, w_up1, w_up2, w_up3]
            exact last 1 (by omega)
      have both : (f (336 + n) = 10 + ph ∨ f (336 + n) = -10 - ph) → mJ g y_Mo_stars 50 [.inr (.inr 319), .inr (.inr r), .inl ph, .inl k, .inl on, .inl sp, .inl n, .inl (f (336 + n))] [] (cw_sf M r F) (cw_hide (fun q M' => q = none ∧ ∃ F, M' = cw_sf M r F ∧ ∀ i : Int, 0 ≤ i → i < y_w S → F i = y_st (fun j => y_sg (f (336 + j)) ph) S k on sp i S)) := by
        intro hv
        refine k_Mo_stars_50 _ _ _ _ _ _ _ _ ?_
        simp (disch := omega) only [↓w_nil, ↓w_cons, ↓w_ald0, ↓w_ald1, ↓w_ild7, ↓w_ifge, true_and, and_true, true_implies, false_implies, not_true_eq_false, not_false_eq_true, Int.reduceEq, Int.reduceLT, Int.reduceLE, Int.reduceNeg, w_up1, w_up2, w_up3]
        repeat refine And.intro (by first | assumption | exact IsW.kt (by assumption) | omega | (unfold in32; omega) | (unfold in64; omega) | exact True.intro | exact Or.inl True.intro | exact Or.inr True.intro | rfl | exact Nat.le_of_ble_eq_true rfl) ?_
        try first | done | assumption | (unfold in32; omega) | (unfold in64; omega)
        refine ⟨fun h => ?_, fun h => ?_⟩
        · refine k_Mo_stars_61 _ _ _ _ _ _ _ _ ?_
          simp (disch := omega) only [↓w_nil, ↓w_cons, ↓w_ic, ↓w_fall, true_and, and_true, true_implies, false_implies, not_true_eq_false, not_false_eq_true, Int.reduceEq, Int.reduceLT, Int.reduceLE, Int.reduceNeg, w_up1, w_up2, w_up3]
          exact side 1 (Or.inl rfl) (by unfold y_sg; rw [if_pos hv, if_neg (by omega)]) (by omega)
        · refine k_Mo_stars_57 _ _ _ _ _ _ _ _ ?_
          simp (disch := omega) only [↓w_nil, ↓w_cons, ↓w_ic, ↓w_goto, true_and, and_true, true_implies, false_implies, not_true_eq_false, not_false_eq_true, Int.reduceEq, Int.reduceLT, Int.reduceLE, Int.reduceNeg, w_up1, w_up2, w_up3]
          exact side (-1) (Or.inr rfl) (by unfold y_sg; rw [if_pos hv, if_pos (by omega)]) (by omega)
      refine k_Mo_stars_8 _ _ _ _ _ _ _ _ ?_
      simp (disch := omega) only [↓w_nil, ↓w_cons, ↓w_ild6, ↓w_ald0, ↓w_gf2_4, ↓w_ic, ↓w_iald, ↓w_icge, true_and, and_true, true_implies, false_implies, not_true_eq_false, not_false_eq_true, Int.reduceEq, Int.reduceLT, Int.reduceLE, Int.reduceNeg, w_up1, w_up2, w_up3, e24, hf, h4', c_k319, c_k320, c_k321, c_k322, c_k323, c_k324, c_k325, c_k326, c_k327, c_k328, c_k329, c_k330, c_k331, c_k332, c_k333, c_k334, c_k335, c_k336, c_k337, c_k338, c_k339, c_k340, c_k341, c_k342, c_k343, c_k344, c_k345, c_k346, c_k347, hS.r319_0, hS.r319_1, hS.r319_2, hS.r319_3, hS.r319_4, hS.r319_5, hS.r319_6, hS.r319_8, hS.r319_9, hS.r319_10, hS.r319_11, hS.r319_12, hS.r319_13, hS.r319_14, hS.r319_15, hS.r319_16, hS.r319_17, hS.r319_20, hS.r319_21, hS.r319_22, hS.r319_23, hS.r319_24, hS.r319_25, hS.r319_26, hS.r319_29, hS.r319_30, hS.r319_31, hS.r319_32, w_sf1, w_sf3]
      repeat refine And.intro (by first | assumption | exact IsW.kt (by assumption) | omega | (unfold in32; omega) | (unfold in64; omega) | exact True.intro | exact Or.inl True.intro | exact Or.inr True.intro | rfl | exact Nat.le_of_ble_eq_true rfl) ?_
      try first | done | assumption | (unfold in32; omega) | (unfold in64; omega)
      intro _
      refine k_Mo_stars_19 _ _ _ _ _ _ _ _ ?_
      simp (disch := omega) only [↓w_nil, ↓w_cons, ↓w_ald0, ↓w_gf2_4, ↓w_ic, ↓w_ild6, ↓w_iadd, ↓w_iald, ↓w_ist7, ↓w_ild7, ↓w_ild2, ↓w_iceq, true_and, and_true, true_implies, false_implies, not_true_eq_false, not_false_eq_true, Int.reduceEq, Int.reduceLT, Int.reduceLE, Int.reduceNeg, w_nlI, w_nlL, w_nlR, w_up1, w_up2, w_up3, e24, hf, c_k319, c_k320, c_k321, c_k322, c_k323, c_k324, c_k325, c_k326, c_k327, c_k328, c_k329, c_k330, c_k331, c_k332, c_k333, c_k334, c_k335, c_k336, c_k337, c_k338, c_k339, c_k340, c_k341, c_k342, c_k343, c_k344, c_k345, c_k346, c_k347, hS.r319_0, hS.r319_1, hS.r319_2, hS.r319_3, hS.r319_4, hS.r319_5, hS.r319_6, hS.r319_8, hS.r319_9, hS.r319_10, hS.r319_11, hS.r319_12, hS.r319_13, hS.r319_14, hS.r319_15, hS.r319_16, hS.r319_17, hS.r319_20, hS.r319_21, hS.r319_22, hS.r319_23, hS.r319_24, hS.r319_25, hS.r319_26, hS.r319_29, hS.r319_30, hS.r319_31, hS.r319_32, w_sf1, w_sf3]
      repeat refine And.intro (by first | assumption | exact IsW.kt (by assumption) | omega | (unfold in32; omega) | (unfold in64; omega) | exact True.intro | exact Or.inl True.intro | exact Or.inr True.intro | rfl | exact Nat.le_of_ble_eq_true rfl) ?_
      try first | done | assumption | (unfold in32; omega) | (unfold in64; omega)
      refine ⟨fun h => both (Or.inl h), fun h => ?_⟩
      refine k_Mo_stars_41 _ _ _ _ _ _ _ _ ?_
      simp (disch := omega) only [↓w_nil, ↓w_cons, ↓w_ild7, ↓w_ic, ↓w_ild2, ↓w_isub, ↓w_icne, true_and, and_true, true_implies, false_implies, not_true_eq_false, not_false_eq_true, Int.reduceEq, Int.reduceLT, Int.reduceLE, Int.reduceNeg, w_up1, w_up2, w_up3]
      repeat refine And.intro (by first | assumption | exact IsW.kt (by assumption) | omega | (unfold in32; omega) | (unfold in64; omega) | exact True.intro | exact Or.inl True.intro | exact Or.inr True.intro | rfl | exact Nat.le_of_ble_eq_true rfl) ?_
      try first | done | assumption | (unfold in32; omega) | (unfold in64; omega)
      refine ⟨fun h2 => none_ (by unfold y_sg; rw [if_neg (by omega)]), fun h2 => both (Or.inr h2)⟩
  refine cw_C_of (L := [.inr (.inr 319), .inr (.inr r), .inl ph, .inl k, .inl on, .inl sp, cU, cU]) ok_Mo_stars (Nat.le_refl _) (Nat.le_of_ble_eq_true rfl) rfl ?_
  refine cw_J_hide ?_
  refine k_Mo_stars_0 _ _ _ _ _ _ _ _ ?_
  simp (disch := omega) only [↓w_nil, ↓w_cons, ↓w_ald0, ↓w_ald1, ↓w_cv1, true_and, and_true, true_implies, false_implies, not_true_eq_false, not_false_eq_true, Int.reduceEq, Int.reduceLT, Int.reduceLE, Int.reduceNeg, w_c80, w_c8I, w_c8L, w_c8R, w_up1, w_up2, w_up3]
  repeat refine And.intro (by first | assumption | exact IsW.kt (by assumption) | omega | (unfold in32; omega) | (unfold in64; omega) | exact True.intro | exact Or.inl True.intro | exact Or.inr True.intro | rfl | exact Nat.le_of_ble_eq_true rfl) ?_
  try first | done | assumption | (unfold in32; omega) | (unfold in64; omega)
  refine ⟨_, p_Mo_clears hS hr, ?_⟩
  rintro q M5 ⟨rfl, F, rfl, h0⟩
  refine k_Mo_stars_5 _ _ _ _ _ _ _ _ ?_
  simp (disch := omega) only [↓w_nil, ↓w_cons, ↓w_ic, ↓w_ist6, ↓w_fall, true_and, and_true, true_implies, false_implies, not_true_eq_false, not_false_eq_true, Int.reduceEq, Int.reduceLT, Int.reduceLE, Int.reduceNeg, w_nlI, w_nlL, w_nlR, w_up1, w_up2, w_up3, w_tl0]
  refine loop S.toNat 0 cU F (by omega) (by omega) (fun i i0 i1 => ?_)
  rw [h0 i i0 (by omega)]
  unfold y_st y_tt
  rw [sm_0, sm_0, ite_self]; rfl
