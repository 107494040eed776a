/-! the reference: grade -/
theorem d_grade {g : cw_G} {M : cw_M} {f fl : Int → Int} {n : Int} {p a b u : Int} (hS : Sh M) (hf : M 324 = f) (hfl : M 338 = fl) (hW : WF n f fl) (hok : m_ok f M) (hk : ∀ T, g_of f = .inr T → Tk f T) (hp : in32 p) (ha : in32 a) (hb : in32 b) (hu : in32 u) :
    mC g y_Mo_grade [.inr (.inr 319), .inl p, .inl a, .inl b, .inl u] M (fun r M' => (¬ gd_cn f p a b u ∧ r = some (.inl (-2)) ∧ M' = M) ∨ (gd_cn f p a b u ∧ FrJ f (P_gr f fl p a b u) M r M')) := by
  have w0 := hW.1.1
  have e0 : M 324 0 = f 0 := by rw [hf]
  refine cw_C_of (L := [.inr (.inr 319), .inl p, .inl a, .inl b, .inl u, cU, cU, cU, cU, cU]) ok_Mo_grade (Nat.le_refl _) (Nat.le_of_ble_eq_true rfl) rfl ?_
  refine cw_J_hide ?_
  have bad : ∀ (M9 : cw_M), M9 = M → ¬ gd_cn f p a b u → mJ g y_Mo_grade 57 [.inr (.inr 319), .inl p, .inl a, .inl b, .inl u, cU, cU, cU, cU, cU] [] M9 (cw_hide (fun r M' => (¬ gd_cn f p a b u ∧ r = some (.inl (-2)) ∧ M' = M) ∨ (gd_cn f p a b u ∧ FrJ f (P_gr f fl p a b u) M r M'))) := by
    rintro M9 rfl h
    refine k_Mo_grade_57 _ _ _ _ _ _ _ _ ?_
    simp (disch := omega) only [↓w_nil, ↓w_cons, ↓w_ic, ↓w_iret, true_and, and_true, true_implies, false_implies, not_true_eq_false, not_false_eq_true, Int.reduceEq, Int.reduceLT, Int.reduceLE, Int.reduceNeg, w_up1, w_up2, w_up3]
    repeat refine And.intro (by first | assumption | exact IsW.kt (by assumption) | omega | (unfold in32; omega) | (unfold in64; omega) | exact True.intro | exact Or.inl True.intro | exact Or.inr True.intro | rfl | exact Nat.le_of_ble_eq_true rfl) ?_
    try first | done | assumption | (unfold in32; omega) | (unfold in64; omega)
    exact Or.inl ⟨h, rfl, rfl⟩
  have good : gd_cn f p a b u → mJ g y_Mo_grade 60 [.inr (.inr 319), .inl p, .inl a, .inl b, .inl u, cU, cU, cU, cU, cU] [] M (cw_hide (fun r M' => (¬ gd_cn f p a b u ∧ r = some (.inl (-2)) ∧ M' = M) ∨ (gd_cn f p a b u ∧ FrJ f (P_gr f fl p a b u) M r M'))) := by
    intro hgd
    obtain ⟨⟨p0, p1⟩, hg0, ⟨u0, u1⟩, ⟨a0, a1⟩, ⟨b0, b1⟩, ab⟩ := id hgd
    have p7 : p < 7 := by omega
    have gi : cw_ir f p := (hW.2.1 p p0 (by omega)).resolve_left (fun z => by have := z.1; omega)
    unfold cw_ir at gi
    refine k_Mo_grade_60 _ _ _ _ _ _ _ _ ?_
    simp (disch := omega) only [↓w_nil, ↓w_cons, ↓w_ald0, ↓w_cv0, true_and, and_true, true_implies, false_implies, not_true_eq_false, not_false_eq_true, Int.reduceEq, Int.reduceLT, Int.reduceLE, Int.reduceNeg, w_c80, w_c8I, w_c8L, w_c8R, w_up1, w_up2, w_up3]
    repeat refine And.intro (by first | assumption | exact IsW.kt (by assumption) | omega | (unfold in32; omega) | (unfold in64; omega) | exact True.intro | exact Or.inl True.intro | exact Or.inr True.intro | rfl | exact Nat.le_of_ble_eq_true rfl) ?_
    try first | done | assumption | (unfold in32; omega) | (unfold in64; omega)
    refine ⟨_, p_Mo_find hS hf hW hok hk, ?_⟩
    rintro q M1 ⟨G1, ok1, k1, ⟨e, he, rfl⟩ | ⟨T, hT, rfl, hat⟩⟩
    · refine k_Mo_grade_64 _ _ _ _ _ _ _ _ ?_
      simp (disch := omega) only [↓w_nil, ↓w_ifne, true_and, and_true, true_implies, false_implies, not_true_eq_false, not_false_eq_true, Int.reduceEq, Int.reduceLT, Int.reduceLE, Int.reduceNeg, w_up1, w_up2, w_up3, w_tl1]
      repeat refine And.intro (by first | assumption | exact IsW.kt (by assumption) | omega | (unfold in32; omega) | (unfold in64; omega) | exact True.intro | exact Or.inl True.intro | exact Or.inr True.intro | rfl | exact Nat.le_of_ble_eq_true rfl) ?_
      try first | done | assumption | (unfold in32; omega) | (unfold in64; omega)
      refine k_Mo_grade_67 _ _ _ _ _ _ _ _ ?_
      simp (disch := omega) only [↓w_nil, ↓w_cons, ↓w_ic, ↓w_iret, true_and, and_true, true_implies, false_implies, not_true_eq_false, not_false_eq_true, Int.reduceEq, Int.reduceLT, Int.reduceLE, Int.reduceNeg, w_up1, w_up2, w_up3]
      unfold cw_hide
      exact Or.inr ⟨hgd, G1, ok1, ⟨k1 6 (Or.inl (by omega)), k1 7 (Or.inl (by omega))⟩, Or.inl ⟨e, he, rfl⟩⟩
    · have hS1 := G1.1
      have tk := hk T hT
      have f1 : M1 324 = f := by rw [G1.row (by omega) (by omega) (by omega)]; exact hf
      have fl1 : M1 338 = fl := by rw [G1.row (by omega) (by omega) (by omega)]; exact hfl
      obtain ⟨s0, hs0⟩ : ∃ s0, s0 = max a (f (13 + 12 * p)) := ⟨_, rfl⟩
      obtain ⟨N, hN⟩ : ∃ N : Nat, N = (b + 1 - s0).toNat := ⟨_, rfl⟩
      have s0b : a ≤ s0 ∧ f (13 + 12 * p) ≤ s0 ∧ s0 ≤ 200 ∧ (s0 = a ∨ s0 = f (13 + 12 * p)) := by omega
      have grb := gk_b (f := f) (fl := fl) (T := T) (p := p) (s := s0) ⟨by omega, by omega⟩
      have as1 : As (cw_fu f (11 + 12 * p) (f (11 + 12 * p))) T M1 M1 := by rw [fu_id rfl]; exact ⟨ge_gq (Gq.rf hS1), f1, hat.1, rfl, sR.rf, sR.rf⟩
      have fin : ∀ (M3 : cw_M) (x : Int), As (cw_fu f (11 + 12 * p) x) T M1 M3 → ∀ z : cw_V,
          mJ g y_Mo_grade 155 [.inr (.inr 319), .inl p, .inl a, .inl b, .inl u, .inl (11 + 12 * p), .inl (f (11 + 12 * p)), .inl (gk_it f fl T p s0 N).1, .inl (gk_it f fl T p s0 N).2, z] [] M3 (cw_hide (fun r M' => (¬ gd_cn f p a b u ∧ r = some (.inl (-2)) ∧ M' = M) ∨ (gd_cn f p a b u ∧ FrJ f (P_gr f fl p a b u) M r M'))) := by
        intro M3 x as3 z
        have hS3 := as3.1.1
        have kb := grb N (by omega)
        have as4 := as3.back
        have Gz : Gq M (cw_up (cw_up M3 324 (11 + 12 * p) (f (11 + 12 * p))) 319 18 0) := G1.tr (gq_up (as4.1.q (by rw [as4.2.1, f1])) (Or.inl rfl))
        have okz : m_ok f (cw_up (cw_up M3 324 (11 + 12 * p) (f (11 + 12 * p))) 319 18 0) := ⟨Or.inl w_up1, by rw [w_up2 (by omega), as4.2.2.2.1]; exact ok1.2⟩
        have sz : sR M (cw_up (cw_up M3 324 (11 + 12 * p) (f (11 + 12 * p))) 319 18 0) 6 ∧ sR M (cw_up (cw_up M3 324 (11 + 12 * p) (f (11 + 12 * p))) 319 18 0) 7 := ⟨((k1 6 (Or.inl (by omega))).tr as4.2.2.2.2.1).tr (sr_up (by omega)), ((k1 7 (Or.inl (by omega))).tr as4.2.2.2.2.2).tr (sr_up (by omega))⟩
        have k1' : in32 (gk_it f fl T p s0 N).1 := by unfold in32; omega
        have k2' : in32 (gk_it f fl T p s0 N).2 := by unfold in32; omega
        have ret : ∀ v : Int, in32 v → P_gr f fl p a b u T v → mJ g y_Mo_grade 180 [.inr (.inr 319), .inl p, .inl a, .inl b, .inl u, .inl (11 + 12 * p), .inl (f (11 + 12 * p)), .inl (gk_it f fl T p s0 N).1, .inl (gk_it f fl T p s0 N).2, z] [.inl v] (cw_up (cw_up M3 324 (11 + 12 * p) (f (11 + 12 * p))) 319 18 0) (cw_hide (fun r M' => (¬ gd_cn f p a b u ∧ r = some (.inl (-2)) ∧ M' = M) ∨ (gd_cn f p a b u ∧ FrJ f (P_gr f fl p a b u) M r M'))) := by
          intro v v32 hv
          refine k_Mo_grade_180 _ _ _ _ _ _ _ _ ?_
          simp (disch := omega) only [↓w_nil, ↓w_iret, true_and, and_true, true_implies, false_implies, not_true_eq_false, not_false_eq_true, Int.reduceEq, Int.reduceLT, Int.reduceLE, Int.reduceNeg, w_up1, w_up2, w_up3]
          unfold cw_hide
          exact Or.inr ⟨hgd, Gz, okz, sz, Or.inr ⟨T, hT, v, hv, v32, rfl⟩⟩
        refine k_Mo_grade_155 _ _ _ _ _ _ _ _ ?_
        simp (disch := omega) only [↓w_nil, ↓w_cons, ↓w_ald0, ↓w_gf2_4, ↓w_ild5, ↓w_ild6, ↓w_iast, ↓w_cv0, true_and, and_true, true_implies, false_implies, not_true_eq_false, not_false_eq_true, Int.reduceEq, Int.reduceLT, Int.reduceLE, Int.reduceNeg, w_c80, w_c8I, w_c8L, w_c8R, w_up1, w_up2, w_up3, c_k319, c_k320, c_k321, c_k322, c_k323, c_k324, c_k325, c_k326, c_k327, c_k328, c_k329, c_k330, c_k331, c_k332, c_k333, c_k334, c_k335, c_k336, c_k337, c_k338, c_k339, c_k340, c_k341, c_k342, c_k343, c_k344, c_k345, c_k346, c_k347, hS3.r319_0, hS3.r319_1, hS3.r319_2, hS3.r319_3, hS3.r319_4, hS3.r319_5, hS3.r319_6, hS3.r319_8, hS3.r319_9, hS3.r319_10, hS3.r319_11, hS3.r319_12, hS3.r319_13, hS3.r319_14, hS3.r319_15, hS3.r319_16, hS3.r319_17, hS3.r319_20, hS3.r319_21, hS3.r319_22, hS3.r319_23, hS3.r319_24, hS3.r319_25, hS3.r319_26, hS3.r319_29, hS3.r319_30, hS3.r319_31, hS3.r319_32, w_sf1, w_sf3]
        repeat refine And.intro (by first | assumption | exact IsW.kt (by assumption) | omega | (unfold in32; omega) | (unfold in64; omega) | exact True.intro | exact Or.inl True.intro | exact Or.inr True.intro | rfl | exact Nat.le_of_ble_eq_true rfl) ?_
        try first | done | assumption | (unfold in32; omega) | (unfold in64; omega)
        refine ⟨_, p_Mo_changes, ?_⟩
        rintro q M5 ⟨rfl, rfl⟩
        refine k_Mo_grade_168 _ _ _ _ _ _ _ _ ?_
        simp (disch := omega) only [↓w_nil, ↓w_cons, ↓w_ild4, ↓w_ifne, true_and, and_true, true_implies, false_implies, not_true_eq_false, not_false_eq_true, Int.reduceEq, Int.reduceLT, Int.reduceLE, Int.reduceNeg, w_up1, w_up2, w_up3, w_tl0]
        repeat refine And.intro (by first | assumption | exact IsW.kt (by assumption) | omega | (unfold in32; omega) | (unfold in64; omega) | exact True.intro | exact Or.inl True.intro | exact Or.inr True.intro | rfl | exact Nat.le_of_ble_eq_true rfl) ?_
        try first | done | assumption | (unfold in32; omega) | (unfold in64; omega)
        refine ⟨fun hz => ?_, fun hz => ?_⟩
        · refine k_Mo_grade_178 _ _ _ _ _ _ _ _ ?_
          simp (disch := omega) only [↓w_nil, ↓w_cons, ↓w_ild8, ↓w_fall, true_and, and_true, true_implies, false_implies, not_true_eq_false, not_false_eq_true, Int.reduceEq, Int.reduceLT, Int.reduceLE, Int.reduceNeg, w_up1, w_up2, w_up3]
          exact ret _ k2' (by unfold P_gr; rw [if_neg (by omega), ← hs0, ← hN])
        · refine k_Mo_grade_173 _ _ _ _ _ _ _ _ ?_
          simp (disch := omega) only [↓w_nil, ↓w_cons, ↓w_ild7, ↓w_goto, true_and, and_true, true_implies, false_implies, not_true_eq_false, not_false_eq_true, Int.reduceEq, Int.reduceLT, Int.reduceLE, Int.reduceNeg, w_up1, w_up2, w_up3]
          exact ret _ k1' (by unfold P_gr; rw [if_pos (by omega), ← hs0, ← hN])
      have loop : ∀ (d : Nat) (i : Int) (M3 : cw_M) (x : Int) (r : Int × Int), i + d = b + 1 → a ≤ i → r = gk_it f fl T p s0 (i - s0).toNat → As (cw_fu f (11 + 12 * p) x) T M1 M3 →
          mJ g y_Mo_grade 99 [.inr (.inr 319), .inl p, .inl a, .inl b, .inl u, .inl (11 + 12 * p), .inl (f (11 + 12 * p)), .inl r.1, .inl r.2, .inl i] [] M3 (cw_hide (fun r M' => (¬ gd_cn f p a b u ∧ r = some (.inl (-2)) ∧ M' = M) ∨ (gd_cn f p a b u ∧ FrJ f (P_gr f fl p a b u) M r M'))) := by
        intro d
        induction d with
        | zero =>
          intro i M3 x r hi hai hr as3
          have ei : i = b + 1 := by omega
          rw [hr, show (i - s0).toNat = N by rw [hN, ei]]
          refine k_Mo_grade_99 _ _ _ _ _ _ _ _ ?_
          simp (disch := omega) only [↓w_nil, ↓w_cons, ↓w_ild9, ↓w_ild3, ↓w_icgt, true_and, and_true, true_implies, false_implies, not_true_eq_false, not_false_eq_true, Int.reduceEq, Int.reduceLT, Int.reduceLE, Int.reduceNeg, w_up1, w_up2, w_up3]
          repeat refine And.intro (by first | assumption | exact IsW.kt (by assumption) | omega | (unfold in32; omega) | (unfold in64; omega) | exact True.intro | exact Or.inl True.intro | exact Or.inr True.intro | rfl | exact Nat.le_of_ble_eq_true rfl) ?_
          try first | done | assumption | (unfold in32; omega) | (unfold in64; omega)
          refine ⟨fun _ => ?_, fun h => absurd h (by omega)⟩
          exact fin M3 x as3 _
        | succ d ih =>
          intro i M3 x r hi hai hr as3
          have hS3 := as3.1.1
          have si : i ≤ b := by omega
          have as4 : As (cw_fu f (11 + 12 * p) i) T M1 (cw_up M3 324 (11 + 12 * p) i) := as3.re
          have hS4 := as4.1.1
          have kb : (0 ≤ r.1 ∧ r.1 ≤ 200) ∧ (-1 ≤ r.2 ∧ r.2 ≤ 400) := by
            rw [hr]
            have := grb (i - s0).toNat (by omega)
            omega
          have o13 : (cw_up M3 324 (11 + 12 * p) i) 324 (10 + 12 * p + 3) = f (13 + 12 * p) := by rw [as4.2.1, fu_o (by omega)]; congr 1; omega
          refine k_Mo_grade_99 _ _ _ _ _ _ _ _ ?_
          simp (disch := omega) only [↓w_nil, ↓w_cons, ↓w_ild9, ↓w_ild3, ↓w_icgt, true_and, and_true, true_implies, false_implies, not_true_eq_false, not_false_eq_true, Int.reduceEq, Int.reduceLT, Int.reduceLE, Int.reduceNeg, w_up1, w_up2, w_up3]
          repeat refine And.intro (by first | assumption | exact IsW.kt (by assumption) | omega | (unfold in32; omega) | (unfold in64; omega) | exact True.intro | exact Or.inl True.intro | exact Or.inr True.intro | rfl | exact Nat.le_of_ble_eq_true rfl) ?_
          try first | done | assumption | (unfold in32; omega) | (unfold in64; omega)
          intro _
          refine k_Mo_grade_105 _ _ _ _ _ _ _ _ ?_
          simp (disch := omega) only [↓w_nil, ↓w_cons, ↓w_ald0, ↓w_gf2_4, ↓w_ild5, ↓w_ild9, ↓w_iast, ↓w_ild1, ↓w_ic, ↓w_cv2, true_and, and_true, true_implies, false_implies, not_true_eq_false, not_false_eq_true, Int.reduceEq, Int.reduceLT, Int.reduceLE, Int.reduceNeg, w_c80, w_c8I, w_c8L, w_c8R, w_up1, w_up2, w_up3, c_k319, c_k320, c_k321, c_k322, c_k323, c_k324, c_k325, c_k326, c_k327, c_k328, c_k329, c_k330, c_k331, c_k332, c_k333, c_k334, c_k335, c_k336, c_k337, c_k338, c_k339, c_k340, c_k341, c_k342, c_k343, c_k344, c_k345, c_k346, c_k347, hS3.r319_0, hS3.r319_1, hS3.r319_2, hS3.r319_3, hS3.r319_4, hS3.r319_5, hS3.r319_6, hS3.r319_8, hS3.r319_9, hS3.r319_10, hS3.r319_11, hS3.r319_12, hS3.r319_13, hS3.r319_14, hS3.r319_15, hS3.r319_16, hS3.r319_17, hS3.r319_20, hS3.r319_21, hS3.r319_22, hS3.r319_23, hS3.r319_24, hS3.r319_25, hS3.r319_26, hS3.r319_29, hS3.r319_30, hS3.r319_31, hS3.r319_32, w_sf1, w_sf3]
          repeat refine And.intro (by first | assumption | exact IsW.kt (by assumption) | omega | (unfold in32; omega) | (unfold in64; omega) | exact True.intro | exact Or.inl True.intro | exact Or.inr True.intro | rfl | exact Nat.le_of_ble_eq_true rfl) ?_
          try first | done | assumption | (unfold in32; omega) | (unfold in64; omega)
          refine ⟨_, p_Mo_of hS4 ⟨p0, p7⟩ (by omega), ?_⟩
          rintro q M5 ⟨rfl, rfl⟩
          rw [o13]
          have i13 : in32 (f (13 + 12 * p)) := by unfold in32; omega
          have next : ∀ (M6 : cw_M) (m l : Int), m = (gk_it f fl T p s0 (i + 1 - s0).toNat).1 → l = (gk_it f fl T p s0 (i + 1 - s0).toNat).2 → As (cw_fu f (11 + 12 * p) i) T M1 M6 → mJ g y_Mo_grade 149 [.inr (.inr 319), .inl p, .inl a, .inl b, .inl u, .inl (11 + 12 * p), .inl (f (11 + 12 * p)), .inl m, .inl l, .inl i] [] M6 (cw_hide (fun r M' => (¬ gd_cn f p a b u ∧ r = some (.inl (-2)) ∧ M' = M) ∨ (gd_cn f p a b u ∧ FrJ f (P_gr f fl p a b u) M r M'))) := by
            rintro M6 m l rfl rfl as6
            refine k_Mo_grade_149 _ _ _ _ _ _ _ _ ?_
            simp (disch := omega) only [↓w_nil, ↓w_cons, ↓w_inc9, ↓w_goto, true_and, and_true, true_implies, false_implies, not_true_eq_false, not_false_eq_true, Int.reduceEq, Int.reduceLT, Int.reduceLE, Int.reduceNeg, w_nlI, w_nlL, w_nlR, w_up1, w_up2, w_up3]
            repeat refine And.intro (by first | assumption | exact IsW.kt (by assumption) | omega | (unfold in32; omega) | (unfold in64; omega) | exact True.intro | exact Or.inl True.intro | exact Or.inr True.intro | rfl | exact Nat.le_of_ble_eq_true rfl) ?_
            try first | done | assumption | (unfold in32; omega) | (unfold in64; omega)
            exact ih (i + 1) M6 i _ (by omega) (by omega) rfl as6
          refine k_Mo_grade_122 _ _ _ _ _ _ _ _ ?_
          simp (disch := omega) only [↓w_nil, ↓w_iclt, true_and, and_true, true_implies, false_implies, not_true_eq_false, not_false_eq_true, Int.reduceEq, Int.reduceLT, Int.reduceLE, Int.reduceNeg, w_up1, w_up2, w_up3, w_tl1]
          repeat refine And.intro (by first | assumption | exact IsW.kt (by assumption) | omega | (unfold in32; omega) | (unfold in64; omega) | exact True.intro | exact Or.inl True.intro | exact Or.inr True.intro | rfl | exact Nat.le_of_ble_eq_true rfl) ?_
          try first | done | assumption | (unfold in32; omega) | (unfold in64; omega)
          refine ⟨fun hl => ?_, fun hl => ?_⟩
          · exact next _ _ _ (by rw [hr, show (i + 1 - s0).toNat = (i - s0).toNat by omega]) (by rw [hr, show (i + 1 - s0).toNat = (i - s0).toNat by omega]) as4
          · have hge : s0 ≤ i := by omega
            have en : (i + 1 - s0).toNat = (i - s0).toNat + 1 := by omega
            have ec : s0 + ((i - s0).toNat : Int) = i := by omega
            have sm : gk_it f fl T p s0 (i + 1 - s0).toNat = gk_st f fl T p i r := by
              rw [en, hr]
              show gk_st f fl T p (s0 + ((i - s0).toNat : Int)) _ = _
              rw [ec]
            have hW4 := wf_sl (v := i) ⟨p0, show p < f 0 by omega⟩ hg0 ⟨by omega, by omega⟩ hW
            refine k_Mo_grade_125 _ _ _ _ _ _ _ _ ?_
            simp (disch := omega) only [↓w_nil, ↓w_cons, ↓w_ald0, ↓w_cv0, true_and, and_true, true_implies, false_implies, not_true_eq_false, not_false_eq_true, Int.reduceEq, Int.reduceLT, Int.reduceLE, Int.reduceNeg, w_c80, w_c8I, w_c8L, w_c8R, w_up1, w_up2, w_up3]
            repeat refine And.intro (by first | assumption | exact IsW.kt (by assumption) | omega | (unfold in32; omega) | (unfold in64; omega) | exact True.intro | exact Or.inl True.intro | exact Or.inr True.intro | rfl | exact Nat.le_of_ble_eq_true rfl) ?_
            try first | done | assumption | (unfold in32; omega) | (unfold in64; omega)
            refine ⟨_, p_seen as4 hW4 fl1 (tk_fu (by omega) tk), ?_⟩
            rintro q M6 ⟨rfl, as6, z18⟩
            have d01 := pb_c (AllF (cw_fu f (11 + 12 * p) i) fl T)
            have d32 := pb_32 (P := AllF (cw_fu f (11 + 12 * p) i) fl T)
            refine k_Mo_grade_129 _ _ _ _ _ _ _ _ ?_
            simp (disch := omega) only [↓w_nil, ↓w_ifeq, true_and, and_true, true_implies, false_implies, not_true_eq_false, not_false_eq_true, Int.reduceEq, Int.reduceLT, Int.reduceLE, Int.reduceNeg, w_up1, w_up2, w_up3, w_tl1]
            repeat refine And.intro (by first | assumption | exact IsW.kt (by assumption) | omega | (unfold in32; omega) | (unfold in64; omega) | exact True.intro | exact Or.inl True.intro | exact Or.inr True.intro | rfl | exact Nat.le_of_ble_eq_true rfl) ?_
            try first | done | assumption | (unfold in32; omega) | (unfold in64; omega)
            refine And.symm ⟨fun hz => ?_, fun hz => ?_⟩
            · have z1 : p_b (AllF (cw_fu f (11 + 12 * p) i) fl T) = 1 := by omega
              have k1' : in32 r.1 := by unfold in32; omega
              refine k_Mo_grade_132 _ _ _ _ _ _ _ _ ?_
              simp (disch := omega) only [↓w_nil, ↓w_cons, ↓w_ild7, ↓w_ifne, true_and, and_true, true_implies, false_implies, not_true_eq_false, not_false_eq_true, Int.reduceEq, Int.reduceLT, Int.reduceLE, Int.reduceNeg, w_up1, w_up2, w_up3]
              repeat refine And.intro (by first | assumption | exact IsW.kt (by assumption) | omega | (unfold in32; omega) | (unfold in64; omega) | exact True.intro | exact Or.inl True.intro | exact Or.inr True.intro | rfl | exact Nat.le_of_ble_eq_true rfl) ?_
              try first | done | assumption | (unfold in32; omega) | (unfold in64; omega)
              refine ⟨fun hm => ?_, fun hm => ?_⟩
              · refine k_Mo_grade_142 _ _ _ _ _ _ _ _ ?_
                simp (disch := omega) only [↓w_nil, ↓w_cons, ↓w_ild8, ↓w_fall, true_and, and_true, true_implies, false_implies, not_true_eq_false, not_false_eq_true, Int.reduceEq, Int.reduceLT, Int.reduceLE, Int.reduceNeg, w_up1, w_up2, w_up3]
                refine k_Mo_grade_144 _ _ _ _ _ _ _ _ ?_
                simp (disch := omega) only [↓w_nil, ↓w_cons, ↓w_ist8, ↓w_inc7, ↓w_fall, true_and, and_true, true_implies, false_implies, not_true_eq_false, not_false_eq_true, Int.reduceEq, Int.reduceLT, Int.reduceLE, Int.reduceNeg, w_nlI, w_nlL, w_nlR, w_up1, w_up2, w_up3]
                repeat refine And.intro (by first | assumption | exact IsW.kt (by assumption) | omega | (unfold in32; omega) | (unfold in64; omega) | exact True.intro | exact Or.inl True.intro | exact Or.inr True.intro | rfl | exact Nat.le_of_ble_eq_true rfl) ?_
                try first | done | assumption | (unfold in32; omega) | (unfold in64; omega)
                exact next _ _ _ (by rw [sm]; unfold gk_st; rw [if_pos z1]) (by rw [sm]; unfold gk_st; rw [if_pos z1]; show _ = if _ then _ else _; rw [if_neg hm]) as6
              · refine k_Mo_grade_137 _ _ _ _ _ _ _ _ ?_
                simp (disch := omega) only [↓w_nil, ↓w_cons, ↓w_ild9, ↓w_goto, true_and, and_true, true_implies, false_implies, not_true_eq_false, not_false_eq_true, Int.reduceEq, Int.reduceLT, Int.reduceLE, Int.reduceNeg, w_up1, w_up2, w_up3]
                repeat refine And.intro (by first | assumption | exact IsW.kt (by assumption) | omega | (unfold in32; omega) | (unfold in64; omega) | exact True.intro | exact Or.inl True.intro | exact Or.inr True.intro | rfl | exact Nat.le_of_ble_eq_true rfl) ?_
                try first | done | assumption | (unfold in32; omega) | (unfold in64; omega)
                refine k_Mo_grade_144 _ _ _ _ _ _ _ _ ?_
                simp (disch := omega) only [↓w_nil, ↓w_cons, ↓w_ist8, ↓w_inc7, ↓w_fall, true_and, and_true, true_implies, false_implies, not_true_eq_false, not_false_eq_true, Int.reduceEq, Int.reduceLT, Int.reduceLE, Int.reduceNeg, w_nlI, w_nlL, w_nlR, w_up1, w_up2, w_up3]
                repeat refine And.intro (by first | assumption | exact IsW.kt (by assumption) | omega | (unfold in32; omega) | (unfold in64; omega) | exact True.intro | exact Or.inl True.intro | exact Or.inr True.intro | rfl | exact Nat.le_of_ble_eq_true rfl) ?_
                try first | done | assumption | (unfold in32; omega) | (unfold in64; omega)
                exact next _ _ _ (by rw [sm]; unfold gk_st; rw [if_pos z1]) (by rw [sm]; unfold gk_st; rw [if_pos z1]; show _ = if _ then _ else _; rw [if_pos hm]) as6
            · exact next _ _ _ (by rw [sm]; unfold gk_st; rw [if_neg (by omega)]) (by rw [sm]; unfold gk_st; rw [if_neg (by omega)]) as6
      have r0 : M1 324 (11 + 12 * p) = f (11 + 12 * p) := by rw [f1]
      have e11 : 10 + 12 * p + 1 = 11 + 12 * p := by omega
      refine k_Mo_grade_64 _ _ _ _ _ _ _ _ ?_
      simp (disch := omega) only [↓w_nil, ↓w_ifne, true_and, and_true, true_implies, false_implies, not_true_eq_false, not_false_eq_true, Int.reduceEq, Int.reduceLT, Int.reduceLE, Int.reduceNeg, w_up1, w_up2, w_up3, w_tl1]
      repeat refine And.intro (by first | assumption | exact IsW.kt (by assumption) | omega | (unfold in32; omega) | (unfold in64; omega) | exact True.intro | exact Or.inl True.intro | exact Or.inr True.intro | rfl | exact Nat.le_of_ble_eq_true rfl) ?_
      try first | done | assumption | (unfold in32; omega) | (unfold in64; omega)
      refine k_Mo_grade_70 _ _ _ _ _ _ _ _ ?_
      simp (disch := omega) only [↓w_nil, ↓w_cons, ↓w_ic, ↓w_ild1, ↓w_imul, ↓w_iadd, ↓w_ist5, ↓w_ald0, ↓w_gf2_4, ↓w_ild5, ↓w_iald, ↓w_ist6, ↓w_ist7, ↓w_ist8, ↓w_ild2, ↓w_ist9, ↓w_fall, true_and, and_true, true_implies, false_implies, not_true_eq_false, not_false_eq_true, Int.reduceEq, Int.reduceLT, Int.reduceLE, Int.reduceNeg, w_nlI, w_nlL, w_nlR, w_up1, w_up2, w_up3, e11, r0, c_k319, c_k320, c_k321, c_k322, c_k323, c_k324, c_k325, c_k326, c_k327, c_k328, c_k329, c_k330, c_k331, c_k332, c_k333, c_k334, c_k335, c_k336, c_k337, c_k338, c_k339, c_k340, c_k341, c_k342, c_k343, c_k344, c_k345, c_k346, c_k347, hS1.r319_0, hS1.r319_1, hS1.r319_2, hS1.r319_3, hS1.r319_4, hS1.r319_5, hS1.r319_6, hS1.r319_8, hS1.r319_9, hS1.r319_10, hS1.r319_11, hS1.r319_12, hS1.r319_13, hS1.r319_14, hS1.r319_15, hS1.r319_16, hS1.r319_17, hS1.r319_20, hS1.r319_21, hS1.r319_22, hS1.r319_23, hS1.r319_24, hS1.r319_25, hS1.r319_26, hS1.r319_29, hS1.r319_30, hS1.r319_31, hS1.r319_32, w_sf1, w_sf3]
      repeat refine And.intro (by first | assumption | exact IsW.kt (by assumption) | omega | (unfold in32; omega) | (unfold in64; omega) | exact True.intro | exact Or.inl True.intro | exact Or.inr True.intro | rfl | exact Nat.le_of_ble_eq_true rfl) ?_
      try first | done | assumption | (unfold in32; omega) | (unfold in64; omega)
      have st := loop (b + 1 - a).toNat a M1 (f (11 + 12 * p)) (0, -1) (by omega) (by omega) (by rw [show (a - s0).toNat = 0 by omega]; exact gk_0.symm) as1
      exact st
  refine k_Mo_grade_0 _ _ _ _ _ _ _ _ ?_
  simp (disch := omega) only [↓w_nil, ↓w_cons, ↓w_ald0, ↓w_ild1, ↓w_cv1, true_and, and_true, true_implies, false_implies, not_true_eq_false, not_false_eq_true, Int.reduceEq, Int.reduceLT, Int.reduceLE, Int.reduceNeg, w_c80, w_c8I, w_c8L, w_c8R, w_up1, w_up2, w_up3]
  repeat refine And.intro (by first | assumption | exact IsW.kt (by assumption) | omega | (unfold in32; omega) | (unfold in64; omega) | exact True.intro | exact Or.inl True.intro | exact Or.inr True.intro | rfl | exact Nat.le_of_ble_eq_true rfl) ?_
  try first | done | assumption | (unfold in32; omega) | (unfold in64; omega)
  refine ⟨_, cw_bool (p_Mo_isPiece hS hp e0 (by omega)), ?_⟩
  rintro q M9 ⟨⟨rfl, hb1⟩ | ⟨rfl, hb1⟩, rfl⟩
  · refine k_Mo_grade_5 _ _ _ _ _ _ _ _ ?_
    simp (disch := omega) only [↓w_nil, ↓w_ifeq, true_and, and_true, true_implies, false_implies, not_true_eq_false, not_false_eq_true, Int.reduceEq, Int.reduceLT, Int.reduceLE, Int.reduceNeg, w_up1, w_up2, w_up3, w_tl1]
    repeat refine And.intro (by first | assumption | exact IsW.kt (by assumption) | omega | (unfold in32; omega) | (unfold in64; omega) | exact True.intro | exact Or.inl True.intro | exact Or.inr True.intro | rfl | exact Nat.le_of_ble_eq_true rfl) ?_
    try first | done | assumption | (unfold in32; omega) | (unfold in64; omega)
    refine k_Mo_grade_8 _ _ _ _ _ _ _ _ ?_
    simp (disch := omega) only [↓w_nil, ↓w_cons, ↓w_ald0, ↓w_ild1, ↓w_ic, ↓w_cv2, true_and, and_true, true_implies, false_implies, not_true_eq_false, not_false_eq_true, Int.reduceEq, Int.reduceLT, Int.reduceLE, Int.reduceNeg, w_c80, w_c8I, w_c8L, w_c8R, w_up1, w_up2, w_up3]
    repeat refine And.intro (by first | assumption | exact IsW.kt (by assumption) | omega | (unfold in32; omega) | (unfold in64; omega) | exact True.intro | exact Or.inl True.intro | exact Or.inr True.intro | rfl | exact Nat.le_of_ble_eq_true rfl) ?_
    try first | done | assumption | (unfold in32; omega) | (unfold in64; omega)
    refine ⟨_, p_Mo_of hS ⟨hb1.1, by omega⟩ (by omega), ?_⟩
    rintro q M8 ⟨rfl, rfl⟩
    have o0 : M8 324 (10 + 12 * p + 0) = f (10 + 12 * p) := by rw [hf]; congr 1; omega
    rw [o0]
    have k01 : f (10 + 12 * p) = 0 ∨ f (10 + 12 * p) = 1 := by
      rcases hW.2.1 p hb1.1 (by omega) with z | z
      · exact Or.inr z.1
      · exact Or.inl z.1
    have k32 : in32 (f (10 + 12 * p)) := by unfold in32; omega
    refine k_Mo_grade_14 _ _ _ _ _ _ _ _ ?_
    simp (disch := omega) only [↓w_nil, ↓w_cons, ↓w_ic, ↓w_iceq, true_and, and_true, true_implies, false_implies, not_true_eq_false, not_false_eq_true, Int.reduceEq, Int.reduceLT, Int.reduceLE, Int.reduceNeg, w_up1, w_up2, w_up3, w_tl1]
    repeat refine And.intro (by first | assumption | exact IsW.kt (by assumption) | omega | (unfold in32; omega) | (unfold in64; omega) | exact True.intro | exact Or.inl True.intro | exact Or.inr True.intro | rfl | exact Nat.le_of_ble_eq_true rfl) ?_
    try first | done | assumption | (unfold in32; omega) | (unfold in64; omega)
    refine And.symm ⟨fun hg => ?_, fun hg => ?_⟩
    · refine k_Mo_grade_18 _ _ _ _ _ _ _ _ ?_
      simp (disch := omega) only [↓w_nil, ↓w_cons, ↓w_ild2, ↓w_cs1, true_and, and_true, true_implies, false_implies, not_true_eq_false, not_false_eq_true, Int.reduceEq, Int.reduceLT, Int.reduceLE, Int.reduceNeg, w_c80, w_c8I, w_c8L, w_c8R, w_up1, w_up2, w_up3]
      repeat refine And.intro (by first | assumption | exact IsW.kt (by assumption) | omega | (unfold in32; omega) | (unfold in64; omega) | exact True.intro | exact Or.inl True.intro | exact Or.inr True.intro | rfl | exact Nat.le_of_ble_eq_true rfl) ?_
      try first | done | assumption | (unfold in32; omega) | (unfold in64; omega)
      refine ⟨_, cw_bool (p_Mo_isCarry ha), ?_⟩
      rintro q M7 ⟨⟨rfl, hb2⟩ | ⟨rfl, hb2⟩, rfl⟩
      · refine k_Mo_grade_22 _ _ _ _ _ _ _ _ ?_
        simp (disch := omega) only [↓w_nil, ↓w_ifeq, true_and, and_true, true_implies, false_implies, not_true_eq_false, not_false_eq_true, Int.reduceEq, Int.reduceLT, Int.reduceLE, Int.reduceNeg, w_up1, w_up2, w_up3, w_tl1]
        repeat refine And.intro (by first | assumption | exact IsW.kt (by assumption) | omega | (unfold in32; omega) | (unfold in64; omega) | exact True.intro | exact Or.inl True.intro | exact Or.inr True.intro | rfl | exact Nat.le_of_ble_eq_true rfl) ?_
        try first | done | assumption | (unfold in32; omega) | (unfold in64; omega)
        refine k_Mo_grade_25 _ _ _ _ _ _ _ _ ?_
        simp (disch := omega) only [↓w_nil, ↓w_cons, ↓w_ild3, ↓w_cs1, true_and, and_true, true_implies, false_implies, not_true_eq_false, not_false_eq_true, Int.reduceEq, Int.reduceLT, Int.reduceLE, Int.reduceNeg, w_c80, w_c8I, w_c8L, w_c8R, w_up1, w_up2, w_up3]
        repeat refine And.intro (by first | assumption | exact IsW.kt (by assumption) | omega | (unfold in32; omega) | (unfold in64; omega) | exact True.intro | exact Or.inl True.intro | exact Or.inr True.intro | rfl | exact Nat.le_of_ble_eq_true rfl) ?_
        try first | done | assumption | (unfold in32; omega) | (unfold in64; omega)
        refine ⟨_, cw_bool (p_Mo_isCarry hb), ?_⟩
        rintro q M6 ⟨⟨rfl, hb3⟩ | ⟨rfl, hb3⟩, rfl⟩
        · refine k_Mo_grade_29 _ _ _ _ _ _ _ _ ?_
          simp (disch := omega) only [↓w_nil, ↓w_ifeq, true_and, and_true, true_implies, false_implies, not_true_eq_false, not_false_eq_true, Int.reduceEq, Int.reduceLT, Int.reduceLE, Int.reduceNeg, w_up1, w_up2, w_up3, w_tl1]
          repeat refine And.intro (by first | assumption | exact IsW.kt (by assumption) | omega | (unfold in32; omega) | (unfold in64; omega) | exact True.intro | exact Or.inl True.intro | exact Or.inr True.intro | rfl | exact Nat.le_of_ble_eq_true rfl) ?_
          try first | done | assumption | (unfold in32; omega) | (unfold in64; omega)
          refine k_Mo_grade_32 _ _ _ _ _ _ _ _ ?_
          simp (disch := omega) only [↓w_nil, ↓w_cons, ↓w_ild3, ↓w_ild2, ↓w_isub, ↓w_i2l, ↓w_lc, ↓w_cs3, true_and, and_true, true_implies, false_implies, not_true_eq_false, not_false_eq_true, Int.reduceEq, Int.reduceLT, Int.reduceLE, Int.reduceNeg, w_c80, w_c8I, w_c8L, w_c8R, w_up1, w_up2, w_up3]
          repeat refine And.intro (by first | assumption | exact IsW.kt (by assumption) | omega | (unfold in32; omega) | (unfold in64; omega) | exact True.intro | exact Or.inl True.intro | exact Or.inr True.intro | rfl | exact Nat.le_of_ble_eq_true rfl) ?_
          try first | done | assumption | (unfold in32; omega) | (unfold in64; omega)
          refine ⟨_, cw_bool (p_Mo_in (by unfold in64; omega) (by unfold in64; omega) (by unfold in64; omega)), ?_⟩
          rintro q M5 ⟨⟨rfl, hb4⟩ | ⟨rfl, hb4⟩, rfl⟩
          · refine k_Mo_grade_43 _ _ _ _ _ _ _ _ ?_
            simp (disch := omega) only [↓w_nil, ↓w_ifeq, true_and, and_true, true_implies, false_implies, not_true_eq_false, not_false_eq_true, Int.reduceEq, Int.reduceLT, Int.reduceLE, Int.reduceNeg, w_up1, w_up2, w_up3, w_tl1]
            repeat refine And.intro (by first | assumption | exact IsW.kt (by assumption) | omega | (unfold in32; omega) | (unfold in64; omega) | exact True.intro | exact Or.inl True.intro | exact Or.inr True.intro | rfl | exact Nat.le_of_ble_eq_true rfl) ?_
            try first | done | assumption | (unfold in32; omega) | (unfold in64; omega)
            refine k_Mo_grade_46 _ _ _ _ _ _ _ _ ?_
            simp (disch := omega) only [↓w_nil, ↓w_cons, ↓w_ild4, ↓w_i2l, ↓w_lc, ↓w_cs3, true_and, and_true, true_implies, false_implies, not_true_eq_false, not_false_eq_true, Int.reduceEq, Int.reduceLT, Int.reduceLE, Int.reduceNeg, w_c80, w_c8I, w_c8L, w_c8R, w_up1, w_up2, w_up3]
            repeat refine And.intro (by first | assumption | exact IsW.kt (by assumption) | omega | (unfold in32; omega) | (unfold in64; omega) | exact True.intro | exact Or.inl True.intro | exact Or.inr True.intro | rfl | exact Nat.le_of_ble_eq_true rfl) ?_
            try first | done | assumption | (unfold in32; omega) | (unfold in64; omega)
            refine ⟨_, cw_bool (p_Mo_in (by unfold in64; unfold in32 at hu; omega) (by unfold in64; omega) (by unfold in64; omega)), ?_⟩
            rintro q M4 ⟨⟨rfl, hb5⟩ | ⟨rfl, hb5⟩, rfl⟩
            · refine k_Mo_grade_54 _ _ _ _ _ _ _ _ ?_
              simp (disch := omega) only [↓w_nil, ↓w_ifne, true_and, and_true, true_implies, false_implies, not_true_eq_false, not_false_eq_true, Int.reduceEq, Int.reduceLT, Int.reduceLE, Int.reduceNeg, w_up1, w_up2, w_up3, w_tl1]
              repeat refine And.intro (by first | assumption | exact IsW.kt (by assumption) | omega | (unfold in32; omega) | (unfold in64; omega) | exact True.intro | exact Or.inl True.intro | exact Or.inr True.intro | rfl | exact Nat.le_of_ble_eq_true rfl) ?_
              try first | done | assumption | (unfold in32; omega) | (unfold in64; omega)
              exact good ⟨hb1, by omega, hb5, ⟨hb2.1, hb2.2⟩, ⟨by omega, hb3.2⟩, by omega⟩
            · refine k_Mo_grade_54 _ _ _ _ _ _ _ _ ?_
              simp (disch := omega) only [↓w_nil, ↓w_ifne, true_and, and_true, true_implies, false_implies, not_true_eq_false, not_false_eq_true, Int.reduceEq, Int.reduceLT, Int.reduceLE, Int.reduceNeg, w_up1, w_up2, w_up3, w_tl1]
              repeat refine And.intro (by first | assumption | exact IsW.kt (by assumption) | omega | (unfold in32; omega) | (unfold in64; omega) | exact True.intro | exact Or.inl True.intro | exact Or.inr True.intro | rfl | exact Nat.le_of_ble_eq_true rfl) ?_
              try first | done | assumption | (unfold in32; omega) | (unfold in64; omega)
              exact bad _ rfl (fun z => hb5 z.2.2.1)
          · refine k_Mo_grade_43 _ _ _ _ _ _ _ _ ?_
            simp (disch := omega) only [↓w_nil, ↓w_ifeq, true_and, and_true, true_implies, false_implies, not_true_eq_false, not_false_eq_true, Int.reduceEq, Int.reduceLT, Int.reduceLE, Int.reduceNeg, w_up1, w_up2, w_up3, w_tl1]
            repeat refine And.intro (by first | assumption | exact IsW.kt (by assumption) | omega | (unfold in32; omega) | (unfold in64; omega) | exact True.intro | exact Or.inl True.intro | exact Or.inr True.intro | rfl | exact Nat.le_of_ble_eq_true rfl) ?_
            try first | done | assumption | (unfold in32; omega) | (unfold in64; omega)
            exact bad _ rfl (fun z => hb4 (by have := z.2.2.2.2; omega))
        · refine k_Mo_grade_29 _ _ _ _ _ _ _ _ ?_
          simp (disch := omega) only [↓w_nil, ↓w_ifeq, true_and, and_true, true_implies, false_implies, not_true_eq_false, not_false_eq_true, Int.reduceEq, Int.reduceLT, Int.reduceLE, Int.reduceNeg, w_up1, w_up2, w_up3, w_tl1]
          repeat refine And.intro (by first | assumption | exact IsW.kt (by assumption) | omega | (unfold in32; omega) | (unfold in64; omega) | exact True.intro | exact Or.inl True.intro | exact Or.inr True.intro | rfl | exact Nat.le_of_ble_eq_true rfl) ?_
          try first | done | assumption | (unfold in32; omega) | (unfold in64; omega)
          exact bad _ rfl (fun z => hb3 (by have := z.2.2.2.1; have := z.2.2.2.2.1; omega))
      · refine k_Mo_grade_22 _ _ _ _ _ _ _ _ ?_
        simp (disch := omega) only [↓w_nil, ↓w_ifeq, true_and, and_true, true_implies, false_implies, not_true_eq_false, not_false_eq_true, Int.reduceEq, Int.reduceLT, Int.reduceLE, Int.reduceNeg, w_up1, w_up2, w_up3, w_tl1]
        repeat refine And.intro (by first | assumption | exact IsW.kt (by assumption) | omega | (unfold in32; omega) | (unfold in64; omega) | exact True.intro | exact Or.inl True.intro | exact Or.inr True.intro | rfl | exact Nat.le_of_ble_eq_true rfl) ?_
        try first | done | assumption | (unfold in32; omega) | (unfold in64; omega)
        exact bad _ rfl (fun z => hb2 z.2.2.2.1)
    · exact bad _ rfl (fun z => by have := z.2.1; omega)
  · refine k_Mo_grade_5 _ _ _ _ _ _ _ _ ?_
    simp (disch := omega) only [↓w_nil, ↓w_ifeq, true_and, and_true, true_implies, false_implies, not_true_eq_false, not_false_eq_true, Int.reduceEq, Int.reduceLT, Int.reduceLE, Int.reduceNeg, w_up1, w_up2, w_up3, w_tl1]
    repeat refine And.intro (by first | assumption | exact IsW.kt (by assumption) | omega | (unfold in32; omega) | (unfold in64; omega) | exact True.intro | exact Or.inl True.intro | exact Or.inr True.intro | rfl | exact Nat.le_of_ble_eq_true rfl) ?_
    try first | done | assumption | (unfold in32; omega) | (unfold in64; omega)
    exact bad _ rfl (fun z => hb1 z.1)
