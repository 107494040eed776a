/-! the reference reads the path: the method itself -/
def Fm (M M' : cw_M) : Prop := Sh M' ∧ ∀ a k : Int, ¬ (327 ≤ a ∧ a ≤ 330) → ¬ (a = 319 ∧ k = 7) → M' a k = M a k
theorem Fm.rf {M : cw_M} (h : Sh M) : Fm M M := ⟨h, fun _ _ _ _ => rfl⟩
theorem Fm.tr {M M1 M2 : cw_M} (h : Fm M M1) (k : Fm M1 M2) : Fm M M2 := ⟨k.1, fun a b h1 h2 => (k.2 a b h1 h2).trans (h.2 a b h1 h2)⟩
theorem Fm.st {M M1 : cw_M} (h : Fm M M1) : M1 324 = M 324 := by funext k; exact h.2 324 k (by omega) (by omega)
/-- the reference's rows hold this tree -/
def Mt (M : cw_M) (T : Tr) : Prop := M 319 7 = 1 + (t_er T).2 ∧ (t_er T).2 ≤ 60 ∧ M 327 0 = 2 ∧ (t_el (M 327) (M 328) (M 329) T).2 0 1
theorem p_Mo_node {g : cw_G} {M : cw_M} {w i N : Int} (hS : Sh M) (hN : M 319 7 = N) (hn : 0 ≤ N ∧ N < 64) :
    mC g y_Mo_node [.inr (.inr 319), .inl w, .inl i] M (fun q M' => q = some (.inl N) ∧ M' = cw_up (cw_up (cw_up M 327 N w) 328 N i) 319 7 (N + 1)) := by
  refine cw_C_of (L := [.inr (.inr 319), .inl w, .inl i]) ok_Mo_node (Nat.le_refl _) (Nat.le_of_ble_eq_true rfl) rfl ?_
  refine cw_J_hide ?_
  refine k_Mo_node_0 _ _ _ _ _ _ _ _ ?_
  simp (disch := omega) only [↓w_nil, ↓w_cons, ↓w_ald0, ↓w_gf2_8, ↓w_gf0_7, ↓w_ild1, ↓w_iast, ↓w_gf2_9, ↓w_ild2, ↓w_dupI, ↓w_dupR, ↓w_ic, ↓w_iadd, ↓w_pfI_7, ↓w_isub, ↓w_iret, true_and, and_true, true_implies, false_implies, not_true_eq_false, not_false_eq_true, Int.reduceEq, Int.reduceLT, Int.reduceLE, Int.reduceNeg, w_up1, w_up2, w_up3, hN, c_k319, c_k320, c_k321, c_k322, c_k323, c_k324, c_k325, c_k326, c_k327, c_k328, c_k329, c_k330, c_k331, c_k332, c_k333, c_k334, c_k335, c_k336, c_k337, c_k338, c_k339, c_k340, c_k341, c_k342, c_k343, c_k344, c_k345, c_k346, c_k347, hS.r319_0, hS.r319_1, hS.r319_2, hS.r319_3, hS.r319_4, hS.r319_5, hS.r319_6, hS.r319_8, hS.r319_9, hS.r319_10, hS.r319_11, hS.r319_12, hS.r319_13, hS.r319_14, hS.r319_15, hS.r319_16, hS.r319_17, hS.r319_20, hS.r319_21, hS.r319_22, hS.r319_23, hS.r319_24, hS.r319_25, hS.r319_26, hS.r319_29, hS.r319_30, hS.r319_31, hS.r319_32, w_sf1, w_sf3]
  repeat refine And.intro (by first | assumption | exact IsW.kt (by assumption) | omega | (unfold in32; omega) | (unfold in64; omega) | exact True.intro | exact Or.inl True.intro | exact Or.inr True.intro | rfl | exact Nat.le_of_ble_eq_true rfl) ?_
  try first | done | assumption | (unfold in32; omega) | (unfold in64; omega)
  try unfold cw_hide
  exact ⟨by congr 2; omega, rfl⟩
theorem fm_node {M : cw_M} {w i N : Int} (hS : Sh M) : Fm M (cw_up (cw_up (cw_up M 327 N w) 328 N i) 319 7 (N + 1)) :=
  ⟨((hS.up (rs_k c_k327 (by decide))).up (rs_k c_k328 (by decide))).up rfl, fun a k h1 h2 => by simp (disch := omega) only [up_if, if_neg]⟩
def Rm (M : cw_M) (s : Gs) (i : Int) : Prop := m_ls (M 327) (M 328) (M 329) (M 330) (M 319 7) s ∧ s.1.length ≤ 8 ∧ M 319 7 ≤ 2 + i + s.1.length
def RdM (f : Int → Int) (M M' : cw_M) (r : Int ⊕ Tr) : Prop := Fm M M' ∧ ∀ T, r = .inr T → Mt M' T ∧ ∀ q : Int, t_in T q → 0 ≤ q ∧ q < f 0 ∧ q < 7
def c_wh (s : Gs) : Int := match s.2.2.2.1 with
  | none => 0
  | some _ => 1
set_option maxHeartbeats 4000000 in
theorem p_Mo_reads {g : cw_G} {M : cw_M} {fl : Int → Int} {n : Int} (hS : Sh M) (hW : WF n (M 324) fl) :
    mC g y_Mo_reads [.inr (.inr 319)] M (fun q M' => q = some (.inl (g_fault (g_of (M 324)))) ∧ RdM (M 324) M M' (g_of (M 324))) := by
  obtain ⟨⟨w1, w2, w3, w4, w5⟩, -⟩ := id hW
  generalize hf : M 324 = f at *
  have fin : ∀ (s : Gs) (M1 : cw_M) (z1 z2 z4 z8 z9 : cw_V), g_rn (f 0) (fun i => f (272 + i)) (f 1).toNat = .inr s → Rm M1 s (f 1) → Fm M M1 →
      mJ g y_Mo_reads 293 [.inr (.inr 319), z1, z2, .inl (s.1.length : Int), z4, .inl (c_wh s), .inl (f 1), .inl (f 1), z8, z9] [] M1 (cw_hide (fun q M' => q = some (.inl (g_fault (g_of f))) ∧ RdM f M M' (g_of f))) := by
    intro s M1 z1 z2 z4 z8 z9 hs hg hF
    have eg : g_of f = g_en (f 1) (.inr s) := by unfold g_of g_path; rw [hs]
    obtain ⟨fs, A, B, C, v⟩ := s
    have bad : g_of f = .inl (10 * f 1 + 1) → mJ g y_Mo_reads 306 [.inr (.inr 319), z1, z2, .inl (fs.length : Int), z4, .inl (c_wh (fs, A, B, C, v)), .inl (f 1), .inl (f 1), z8, z9] [] M1 (cw_hide (fun q M' => q = some (.inl (g_fault (g_of f))) ∧ RdM f M M' (g_of f))) := by
      intro hb
      refine k_Mo_reads_306 _ _ _ _ _ _ _ _ ?_
      simp (disch := omega) only [↓w_nil, ↓w_cons, ↓w_ic, ↓w_ild6, ↓w_imul, ↓w_iadd, ↓w_fall, true_and, and_true, true_implies, false_implies, not_true_eq_false, not_false_eq_true, Int.reduceEq, Int.reduceLT, Int.reduceLE, Int.reduceNeg, w_up1, w_up2, w_up3]
      refine k_Mo_reads_313 _ _ _ _ _ _ _ _ ?_
      simp (disch := omega) only [↓w_nil, ↓w_iret, true_and, and_true, true_implies, false_implies, not_true_eq_false, not_false_eq_true, Int.reduceEq, Int.reduceLT, Int.reduceLE, Int.reduceNeg, w_up1, w_up2, w_up3]
      repeat refine And.intro (by first | assumption | exact IsW.kt (by assumption) | omega | (unfold in32; omega) | (unfold in64; omega) | exact True.intro | exact Or.inl True.intro | exact Or.inr True.intro | rfl | exact Nat.le_of_ble_eq_true rfl) ?_
      try first | done | assumption | (unfold in32; omega) | (unfold in64; omega)
      unfold cw_hide
      rw [hb]
      exact ⟨rfl, hF, fun T hT => by cases hT⟩
    have hfl : fs.length ≤ 8 := hg.2.1
    cases C with
    | none =>
      rw [show c_wh (fs, A, B, none, v) = 0 from rfl] at *
      refine k_Mo_reads_293 _ _ _ _ _ _ _ _ ?_
      simp (disch := omega) only [↓w_nil, ↓w_cons, ↓w_ild5, ↓w_ifeq, true_and, and_true, true_implies, false_implies, not_true_eq_false, not_false_eq_true, Int.reduceEq, Int.reduceLT, Int.reduceLE, Int.reduceNeg, w_up1, w_up2, w_up3]
      repeat refine And.intro (by first | assumption | exact IsW.kt (by assumption) | omega | (unfold in32; omega) | (unfold in64; omega) | exact True.intro | exact Or.inl True.intro | exact Or.inr True.intro | rfl | exact Nat.le_of_ble_eq_true rfl) ?_
      try first | done | assumption | (unfold in32; omega) | (unfold in64; omega)
      exact bad (by rw [eg]; rfl)
    | some t =>
      rw [show c_wh (fs, A, B, some t, v) = 1 from rfl] at *
      refine k_Mo_reads_293 _ _ _ _ _ _ _ _ ?_
      simp (disch := omega) only [↓w_nil, ↓w_cons, ↓w_ild5, ↓w_ifeq, true_and, and_true, true_implies, false_implies, not_true_eq_false, not_false_eq_true, Int.reduceEq, Int.reduceLT, Int.reduceLE, Int.reduceNeg, w_up1, w_up2, w_up3]
      repeat refine And.intro (by first | assumption | exact IsW.kt (by assumption) | omega | (unfold in32; omega) | (unfold in64; omega) | exact True.intro | exact Or.inl True.intro | exact Or.inr True.intro | rfl | exact Nat.le_of_ble_eq_true rfl) ?_
      try first | done | assumption | (unfold in32; omega) | (unfold in64; omega)
      refine k_Mo_reads_298 _ _ _ _ _ _ _ _ ?_
      simp (disch := omega) only [↓w_nil, ↓w_cons, ↓w_ild3, ↓w_ifne, true_and, and_true, true_implies, false_implies, not_true_eq_false, not_false_eq_true, Int.reduceEq, Int.reduceLT, Int.reduceLE, Int.reduceNeg, w_up1, w_up2, w_up3]
      repeat refine And.intro (by first | assumption | exact IsW.kt (by assumption) | omega | (unfold in32; omega) | (unfold in64; omega) | exact True.intro | exact Or.inl True.intro | exact Or.inr True.intro | rfl | exact Nat.le_of_ble_eq_true rfl) ?_
      try first | done | assumption | (unfold in32; omega) | (unfold in64; omega)
      refine ⟨fun h0 => ?_, fun h0 => ?_⟩
      · exact bad (by rw [eg]; show (if fs.length = 0 then _ else _) = _; rw [if_neg (by omega)])
      · have hfs : fs = [] := List.length_eq_zero_iff.mp (by omega)
        subst hfs
        have eT : g_of f = .inr (g_par A (g_ser B t)) := by rw [eg]; rfl
        obtain ⟨h1, ⟨a1, a2, a3, a4, a5, a6⟩, h3, h4, h5⟩ := hg.1
        have a1 : M1 327 0 = 2 := a1
        have a3 : o_R (M1 327) (M1 328) (M1 329) A 0 (0 + 1) := a3
        have a4 : M1 327 (0 + 1 + o_r A) = 1 := a4
        have a5 : M1 328 (0 + 1 + o_r A) = 0 := a5
        have a6 : o_E (M1 327) (M1 328) (M1 329) B (0 + 1 + o_r A) (0 + 1 + o_r A + 1) := a6
        have h3 : (t_el (M1 327) (M1 328) (M1 329) t).1 (0 + 1 + o_r A) (0 + 1 + o_r A + 1 + o_e B) := h3
        have h4 : M1 319 7 = 0 + 1 + o_r A + 1 + o_e B + (t_er t).1 := h4
        have u := ser_E a6 h3
        obtain ⟨r1, r2⟩ := par_R a3 a4 a5 u
        have e : (t_er (g_ser B t)).1 = o_e B + (t_er t).1 := ser_e
        have pin := path_in (T := g_par A (g_ser B t)) hs rfl rfl rfl
        have h6 : M1 319 7 ≤ 2 + f 1 + ((([] : List Gf).length : Nat) : Int) := hg.2.2
        have h7 : ((([] : List Gf).length : Nat) : Int) = 0 := rfl
        refine k_Mo_reads_302 _ _ _ _ _ _ _ _ ?_
        simp (disch := omega) only [↓w_nil, ↓w_cons, ↓w_ic, ↓w_goto, true_and, and_true, true_implies, false_implies, not_true_eq_false, not_false_eq_true, Int.reduceEq, Int.reduceLT, Int.reduceLE, Int.reduceNeg, w_up1, w_up2, w_up3]
        refine k_Mo_reads_313 _ _ _ _ _ _ _ _ ?_
        simp (disch := omega) only [↓w_nil, ↓w_iret, true_and, and_true, true_implies, false_implies, not_true_eq_false, not_false_eq_true, Int.reduceEq, Int.reduceLT, Int.reduceLE, Int.reduceNeg, w_up1, w_up2, w_up3]
        repeat refine And.intro (by first | assumption | exact IsW.kt (by assumption) | omega | (unfold in32; omega) | (unfold in64; omega) | exact True.intro | exact Or.inl True.intro | exact Or.inr True.intro | rfl | exact Nat.le_of_ble_eq_true rfl) ?_
        try first | done | assumption | (unfold in32; omega) | (unfold in64; omega)
        unfold cw_hide
        rw [eT]
        refine ⟨rfl, hF, fun T hT => ?_⟩
        obtain rfl : g_par A (g_ser B t) = T := Sum.inr.inj hT
        exact ⟨⟨by rw [r2, e]; omega, by rw [r2, e]; omega, a1, r1⟩, fun q hq => (pin q).2 hq⟩
  have main : ∀ (d i : Nat) (s : Gs) (M1 : cw_M) (m : Int) (z8 z9 : cw_V), (i : Int) + d = f 1 → g_rn (f 0) (fun i => f (272 + i)) i = .inr s → Rm M1 s i → m_bt m s.2.2.2.2 → Fm M M1 →
      mJ g y_Mo_reads 38 [.inr (.inr 319), .inl (f_q s.1), .inl (f_q s.1 + 1 + o_r s.2.1), .inl (s.1.length : Int), .inl m, .inl (c_wh s), .inl (f 1), .inl (i : Int), z8, z9] [] M1 (cw_hide (fun q M' => q = some (.inl (g_fault (g_of f))) ∧ RdM f M M' (g_of f))) := by
    intro d
    induction d with
    | zero =>
      intro i s M1 m z8 z9 hi hs hg hm hF
      refine k_Mo_reads_38 _ _ _ _ _ _ _ _ ?_
      simp (disch := omega) only [↓w_nil, ↓w_cons, ↓w_ild7, ↓w_ild6, ↓w_icge, true_and, and_true, true_implies, false_implies, not_true_eq_false, not_false_eq_true, Int.reduceEq, Int.reduceLT, Int.reduceLE, Int.reduceNeg, w_up1, w_up2, w_up3]
      repeat refine And.intro (by first | assumption | exact IsW.kt (by assumption) | omega | (unfold in32; omega) | (unfold in64; omega) | exact True.intro | exact Or.inl True.intro | exact Or.inr True.intro | rfl | exact Nat.le_of_ble_eq_true rfl) ?_
      try first | done | assumption | (unfold in32; omega) | (unfold in64; omega)
      refine ⟨fun _ => ?_, fun h => absurd h (by omega)⟩
      have ei : (i : Int) = f 1 := by omega
      rw [ei]
      exact fin s M1 _ _ _ _ _ (by rw [← ei]; exact hs) (by rw [← ei]; exact hg) hF
    | succ d ih =>
      intro i s M1 m z8 z9 hi hs hg hm hF
      have hS1 := hF.1
      have e324 : M1 324 = f := by rw [hF.st, hf]
      have hc := hW.2.2.2.2.2.2.2.2.1 i (by omega) (by omega)
      have hc32 : in32 (f (272 + (i : Int))) := by unfold in32; omega
      have hn : g_rn (f 0) (fun i => f (272 + i)) (i + 1) = match g_st (f 0) (f (272 + (i : Int))) s with
        | .inl e => .inl (10 * (i : Int) + e)
        | .inr s' => .inr s' := by
        show (match g_rn (f 0) (fun i => f (272 + i)) i with | .inl e => _ | .inr s => _) = _
        rw [hs]
        show (match g_st (f 0) (f (272 + (i : Int))) s with | .inl e => _ | .inr s' => _) = _
        cases g_st (f 0) (f (272 + (i : Int))) s <;> rfl
      have bad : ∀ e : Int, g_st (f 0) (f (272 + (i : Int))) s = .inl e → (some (.inl (10 * (i : Int) + e)) : Option cw_V) = some (.inl (g_fault (g_of f))) ∧ RdM f M M1 (g_of f) := by
        intro e he
        rw [he] at hn
        rw [g_of_er (n := i + 1) hn (by omega)]
        exact ⟨rfl, hF, fun T hT => by cases hT⟩
      have next : ∀ (s' : Gs) (M2 : cw_M) (m' : Int) (z8 z9 : cw_V), g_st (f 0) (f (272 + (i : Int))) s = .inr s' → Rm M2 s' (i + 1) → m_bt m' s'.2.2.2.2 → Fm M1 M2 →
          mJ g y_Mo_reads 287 [.inr (.inr 319), .inl (f_q s'.1), .inl (f_q s'.1 + 1 + o_r s'.2.1), .inl (s'.1.length : Int), .inl m', .inl (c_wh s'), .inl (f 1), .inl (i : Int), z8, z9] [] M2 (cw_hide (fun q M' => q = some (.inl (g_fault (g_of f))) ∧ RdM f M M' (g_of f))) := by
        intro s' M2 m' z8 z9 hs' hg' hm' hF'
        rw [hs'] at hn
        refine k_Mo_reads_287 _ _ _ _ _ _ _ _ ?_
        simp (disch := omega) only [↓w_nil, ↓w_cons, ↓w_inc7, ↓w_goto, true_and, and_true, true_implies, false_implies, not_true_eq_false, not_false_eq_true, Int.reduceEq, Int.reduceLT, Int.reduceLE, Int.reduceNeg, w_nlI, w_nlL, w_nlR, w_up1, w_up2, w_up3]
        have := ih (i + 1) s' M2 m' z8 z9 (by omega) hn (by rw [show ((i + 1 : Nat) : Int) = (i : Int) + 1 by omega]; exact hg') hm' (hF.tr hF')
        rw [show ((i + 1 : Nat) : Int) = (i : Int) + 1 by omega] at this
        exact this
      obtain ⟨hls, hfl, hNb⟩ := id hg
      have lb := ls_b hls
      obtain ⟨fs, A, B, C, v⟩ := s
      have hfl2 : fs.length ≤ 8 := hfl
      have hNb2 : M1 319 7 ≤ 2 + (i : Int) + (fs.length : Int) := hNb
      have lb2 : 0 ≤ f_q fs ∧ f_q fs < f_q fs + 1 + o_r A ∧ f_q fs + 1 + o_r A < M1 319 7 := lb
      have hm2 : m_bt m v := hm
      generalize hNN : M1 319 7 = N at *
      refine k_Mo_reads_38 _ _ _ _ _ _ _ _ ?_
      simp (disch := omega) only [↓w_nil, ↓w_cons, ↓w_ild7, ↓w_ild6, ↓w_icge, true_and, and_true, true_implies, false_implies, not_true_eq_false, not_false_eq_true, Int.reduceEq, Int.reduceLT, Int.reduceLE, Int.reduceNeg, w_up1, w_up2, w_up3]
      repeat refine And.intro (by first | assumption | exact IsW.kt (by assumption) | omega | (unfold in32; omega) | (unfold in64; omega) | exact True.intro | exact Or.inl True.intro | exact Or.inr True.intro | rfl | exact Nat.le_of_ble_eq_true rfl) ?_
      try first | done | assumption | (unfold in32; omega) | (unfold in64; omega)
      intro _
      refine k_Mo_reads_45 _ _ _ _ _ _ _ _ ?_
      simp (disch := omega) only [↓w_nil, ↓w_cons, ↓w_ald0, ↓w_gf2_4, ↓w_ic, ↓w_ild7, ↓w_iadd, ↓w_iald, ↓w_ist8, ↓w_ild8, ↓w_icne, true_and, and_true, true_implies, false_implies, not_true_eq_false, not_false_eq_true, Int.reduceEq, Int.reduceLT, Int.reduceLE, Int.reduceNeg, w_nlI, w_nlL, w_nlR, w_up1, w_up2, w_up3, e324, c_k319, c_k320, c_k321, c_k322, c_k323, c_k324, c_k325, c_k326, c_k327, c_k328, c_k329, c_k330, c_k331, c_k332, c_k333, c_k334, c_k335, c_k336, c_k337, c_k338, c_k339, c_k340, c_k341, c_k342, c_k343, c_k344, c_k345, c_k346, c_k347, hS1.r319_0, hS1.r319_1, hS1.r319_2, hS1.r319_3, hS1.r319_4, hS1.r319_5, hS1.r319_6, hS1.r319_8, hS1.r319_9, hS1.r319_10, hS1.r319_11, hS1.r319_12, hS1.r319_13, hS1.r319_14, hS1.r319_15, hS1.r319_16, hS1.r319_17, hS1.r319_20, hS1.r319_21, hS1.r319_22, hS1.r319_23, hS1.r319_24, hS1.r319_25, hS1.r319_26, hS1.r319_29, hS1.r319_30, hS1.r319_31, hS1.r319_32, w_sf1, w_sf3]
      repeat refine And.intro (by first | assumption | exact IsW.kt (by assumption) | omega | (unfold in32; omega) | (unfold in64; omega) | exact True.intro | exact Or.inl True.intro | exact Or.inr True.intro | rfl | exact Nat.le_of_ble_eq_true rfl) ?_
      try first | done | assumption | (unfold in32; omega) | (unfold in64; omega)
      refine ⟨fun h32 => ?_, fun h32 => ?_⟩
      · have st0 : ∀ C, g_st (f 0) (f (272 + (i : Int))) (fs, A, B, C, v) = g_st (f 0) (f (272 + (i : Int))) (fs, A, B, C, v) := fun _ => rfl
        cases C with
        | some t =>
          have st : g_st (f 0) (f (272 + (i : Int))) (fs, A, B, some t, v) = if f (272 + (i : Int)) = 41 then (match fs with
              | [] => .inl 1
              | f0 :: fs => .inr (fs, f0.1, f0.2, some (.neg (g_par A (g_ser B t))), v))
            else if f (272 + (i : Int)) = 45 then .inr (fs, A, some (g_ser B t), none, v)
            else if f (272 + (i : Int)) = 124 then .inr (fs, some (g_par A (g_ser B t)), none, none, v)
            else .inl 1 := by
            unfold g_st; rw [if_neg h32]; cases fs <;> rfl
          rw [show c_wh (fs, A, B, some t, v) = 1 from rfl]
          refine k_Mo_reads_68 _ _ _ _ _ _ _ _ ?_
          simp (disch := omega) only [↓w_nil, ↓w_cons, ↓w_ild5, ↓w_ifeq, true_and, and_true, true_implies, false_implies, not_true_eq_false, not_false_eq_true, Int.reduceEq, Int.reduceLT, Int.reduceLE, Int.reduceNeg, w_up1, w_up2, w_up3]
          repeat refine And.intro (by first | assumption | exact IsW.kt (by assumption) | omega | (unfold in32; omega) | (unfold in64; omega) | exact True.intro | exact Or.inl True.intro | exact Or.inr True.intro | rfl | exact Nat.le_of_ble_eq_true rfl) ?_
          try first | done | assumption | (unfold in32; omega) | (unfold in64; omega)
          refine k_Mo_reads_73 _ _ _ _ _ _ _ _ ?_
          simp (disch := omega) only [↓w_nil, ↓w_cons, ↓w_ild8, ↓w_ic, ↓w_icne, true_and, and_true, true_implies, false_implies, not_true_eq_false, not_false_eq_true, Int.reduceEq, Int.reduceLT, Int.reduceLE, Int.reduceNeg, w_up1, w_up2, w_up3]
          repeat refine And.intro (by first | assumption | exact IsW.kt (by assumption) | omega | (unfold in32; omega) | (unfold in64; omega) | exact True.intro | exact Or.inl True.intro | exact Or.inr True.intro | rfl | exact Nat.le_of_ble_eq_true rfl) ?_
          try first | done | assumption | (unfold in32; omega) | (unfold in64; omega)
          refine ⟨fun h45 => ?_, fun h45 => ?_⟩
          · refine k_Mo_reads_86 _ _ _ _ _ _ _ _ ?_
            simp (disch := omega) only [↓w_nil, ↓w_cons, ↓w_ild8, ↓w_ic, ↓w_icne, true_and, and_true, true_implies, false_implies, not_true_eq_false, not_false_eq_true, Int.reduceEq, Int.reduceLT, Int.reduceLE, Int.reduceNeg, w_up1, w_up2, w_up3]
            repeat refine And.intro (by first | assumption | exact IsW.kt (by assumption) | omega | (unfold in32; omega) | (unfold in64; omega) | exact True.intro | exact Or.inl True.intro | exact Or.inr True.intro | rfl | exact Nat.le_of_ble_eq_true rfl) ?_
            try first | done | assumption | (unfold in32; omega) | (unfold in64; omega)
            refine ⟨fun h124 => ?_, fun h124 => ?_⟩
            · refine k_Mo_reads_106 _ _ _ _ _ _ _ _ ?_
              simp (disch := omega) only [↓w_nil, ↓w_cons, ↓w_ild8, ↓w_ic, ↓w_icne, true_and, and_true, true_implies, false_implies, not_true_eq_false, not_false_eq_true, Int.reduceEq, Int.reduceLT, Int.reduceLE, Int.reduceNeg, w_up1, w_up2, w_up3]
              repeat refine And.intro (by first | assumption | exact IsW.kt (by assumption) | omega | (unfold in32; omega) | (unfold in64; omega) | exact True.intro | exact Or.inl True.intro | exact Or.inr True.intro | rfl | exact Nat.le_of_ble_eq_true rfl) ?_
              try first | done | assumption | (unfold in32; omega) | (unfold in64; omega)
              have b137 : g_st (f 0) (f (272 + (i : Int))) (fs, A, B, some t, v) = .inl 1 → mJ g y_Mo_reads 137 [.inr (.inr 319), .inl (f_q fs), .inl (f_q fs + 1 + o_r A), .inl (fs.length : Int), .inl m, .inl 1, .inl (f 1), .inl (i : Int), .inl (f (272 + (i : Int))), z9] [] M1 (cw_hide (fun q M' => q = some (.inl (g_fault (g_of f))) ∧ RdM f M M' (g_of f))) := by
                intro hb
                refine k_Mo_reads_137 _ _ _ _ _ _ _ _ ?_
                simp (disch := omega) only [↓w_nil, ↓w_cons, ↓w_ic, ↓w_ild7, ↓w_imul, ↓w_iadd, ↓w_iret, true_and, and_true, true_implies, false_implies, not_true_eq_false, not_false_eq_true, Int.reduceEq, Int.reduceLT, Int.reduceLE, Int.reduceNeg, w_up1, w_up2, w_up3]
                repeat refine And.intro (by first | assumption | exact IsW.kt (by assumption) | omega | (unfold in32; omega) | (unfold in64; omega) | exact True.intro | exact Or.inl True.intro | exact Or.inr True.intro | rfl | exact Nat.le_of_ble_eq_true rfl) ?_
                try first | done | assumption | (unfold in32; omega) | (unfold in64; omega)
                unfold cw_hide
                exact bad 1 hb
              refine ⟨fun h41 => ?_, fun h41 => ?_⟩
              · exact b137 (by rw [st, if_neg h41, if_neg h45, if_neg h124])
              · rw [if_pos h41] at st
                refine k_Mo_reads_113 _ _ _ _ _ _ _ _ ?_
                simp (disch := omega) only [↓w_nil, ↓w_cons, ↓w_ild3, ↓w_ifle, true_and, and_true, true_implies, false_implies, not_true_eq_false, not_false_eq_true, Int.reduceEq, Int.reduceLT, Int.reduceLE, Int.reduceNeg, w_up1, w_up2, w_up3]
                repeat refine And.intro (by first | assumption | exact IsW.kt (by assumption) | omega | (unfold in32; omega) | (unfold in64; omega) | exact True.intro | exact Or.inl True.intro | exact Or.inr True.intro | rfl | exact Nat.le_of_ble_eq_true rfl) ?_
                try first | done | assumption | (unfold in32; omega) | (unfold in64; omega)
                refine ⟨fun hd => ?_, fun hd => ?_⟩
                · cases fs with
                  | nil => exact b137 st
                  | cons f0 fs => rw [List.length_cons] at hd; omega
                · cases fs with
                  | nil => exact absurd (Int.le_refl 0) hd
                  | cons f0 fs =>
                    have el : (((f0 :: fs).length : Nat) : Int) = fs.length + 1 := by rw [List.length_cons]; omega
                    have hf3 : fs.length ≤ 7 := by have := hfl2; rw [List.length_cons] at this; omega
                    rw [el] at hNb2 ⊢
                    have lc := ls_close (v' := v) hls
                    obtain ⟨lc1, lc2, lc3, lc4, lc5⟩ := lc
                    have ho : M1 330 ((fs.length : Int) + 1 + -1) = f_q fs + 1 + o_r f0.1 := by rw [show (fs.length : Int) + 1 + -1 = fs.length by omega]; exact lc2
                    refine k_Mo_reads_117 _ _ _ _ _ _ _ _ ?_
                    simp (disch := omega) only [↓w_nil, ↓w_cons, ↓w_inc3, ↓w_ald0, ↓w_gf2_11, ↓w_ild3, ↓w_iald, ↓w_ist2, ↓w_gf2_9, ↓w_ild2, ↓w_ist1, ↓w_goto, true_and, and_true, true_implies, false_implies, not_true_eq_false, not_false_eq_true, Int.reduceEq, Int.reduceLT, Int.reduceLE, Int.reduceNeg, w_nlI, w_nlL, w_nlR, w_up1, w_up2, w_up3, ho, lc3, c_k319, c_k320, c_k321, c_k322, c_k323, c_k324, c_k325, c_k326, c_k327, c_k328, c_k329, c_k330, c_k331, c_k332, c_k333, c_k334, c_k335, c_k336, c_k337, c_k338, c_k339, c_k340, c_k341, c_k342, c_k343, c_k344, c_k345, c_k346, c_k347, hS1.r319_0, hS1.r319_1, hS1.r319_2, hS1.r319_3, hS1.r319_4, hS1.r319_5, hS1.r319_6, hS1.r319_8, hS1.r319_9, hS1.r319_10, hS1.r319_11, hS1.r319_12, hS1.r319_13, hS1.r319_14, hS1.r319_15, hS1.r319_16, hS1.r319_17, hS1.r319_20, hS1.r319_21, hS1.r319_22, hS1.r319_23, hS1.r319_24, hS1.r319_25, hS1.r319_26, hS1.r319_29, hS1.r319_30, hS1.r319_31, hS1.r319_32, w_sf1, w_sf3]
                    repeat refine And.intro (by first | assumption | exact IsW.kt (by assumption) | omega | (unfold in32; omega) | (unfold in64; omega) | exact True.intro | exact Or.inl True.intro | exact Or.inr True.intro | rfl | exact Nat.le_of_ble_eq_true rfl) ?_
                    try first | done | assumption | (unfold in32; omega) | (unfold in64; omega)
                    have nx := next (fs, f0.1, f0.2, some (.neg (g_par A (g_ser B t))), v) M1 m (.inl (f (272 + (i : Int)))) z9 st ⟨by rw [hNN]; exact lc1, by show fs.length ≤ 8; omega, by rw [hNN]; show N ≤ 2 + ((i : Int) + 1) + (fs.length : Int); omega⟩ hm2 (Fm.rf hS1)
                    rw [show (fs.length : Int) + 1 + -1 = fs.length by omega]
                    exact nx
            · rw [if_neg (by omega), if_neg h45, if_pos h124] at st
              refine k_Mo_reads_93 _ _ _ _ _ _ _ _ ?_
              simp (disch := omega) only [↓w_nil, ↓w_cons, ↓w_ald0, ↓w_ic, ↓w_ild1, ↓w_cv2, true_and, and_true, true_implies, false_implies, not_true_eq_false, not_false_eq_true, Int.reduceEq, Int.reduceLT, Int.reduceLE, Int.reduceNeg, w_c80, w_c8I, w_c8L, w_c8R, w_up1, w_up2, w_up3, c_k319, c_k320, c_k321, c_k322, c_k323, c_k324, c_k325, c_k326, c_k327, c_k328, c_k329, c_k330, c_k331, c_k332, c_k333, c_k334, c_k335, c_k336, c_k337, c_k338, c_k339, c_k340, c_k341, c_k342, c_k343, c_k344, c_k345, c_k346, c_k347, hS1.r319_0, hS1.r319_1, hS1.r319_2, hS1.r319_3, hS1.r319_4, hS1.r319_5, hS1.r319_6, hS1.r319_8, hS1.r319_9, hS1.r319_10, hS1.r319_11, hS1.r319_12, hS1.r319_13, hS1.r319_14, hS1.r319_15, hS1.r319_16, hS1.r319_17, hS1.r319_20, hS1.r319_21, hS1.r319_22, hS1.r319_23, hS1.r319_24, hS1.r319_25, hS1.r319_26, hS1.r319_29, hS1.r319_30, hS1.r319_31, hS1.r319_32, w_sf1, w_sf3]
              repeat refine And.intro (by first | assumption | exact IsW.kt (by assumption) | omega | (unfold in32; omega) | (unfold in64; omega) | exact True.intro | exact Or.inl True.intro | exact Or.inr True.intro | rfl | exact Nat.le_of_ble_eq_true rfl) ?_
              try first | done | assumption | (unfold in32; omega) | (unfold in64; omega)
              refine ⟨_, p_Mo_node hS1 hNN (by omega), ?_⟩
              rintro q M2 ⟨rfl, rfl⟩
              refine k_Mo_reads_99 _ _ _ _ _ _ _ _ ?_
              simp (disch := omega) only [↓w_nil, ↓w_cons, ↓w_ist2, ↓w_ic, ↓w_ist5, ↓w_goto, true_and, and_true, true_implies, false_implies, not_true_eq_false, not_false_eq_true, Int.reduceEq, Int.reduceLT, Int.reduceLE, Int.reduceNeg, w_nlI, w_nlL, w_nlR, w_up1, w_up2, w_up3, w_tl1]
              have lbar := ls_bar (K' := (cw_up (cw_up (cw_up M1 327 N 1) 328 N (f_q fs)) 319 7 (N + 1)) 327) (P' := (cw_up (cw_up (cw_up M1 327 N 1) 328 N (f_q fs)) 319 7 (N + 1)) 328) (I' := (cw_up (cw_up (cw_up M1 327 N 1) 328 N (f_q fs)) 319 7 (N + 1)) 329) (v' := v) hls (fun j j0 j1 => by simp (disch := omega) only [w_up1, w_up2, w_up3]; exact ⟨trivial, trivial, trivial⟩) (by simp (disch := omega) only [w_up1, w_up2, w_up3]) (by simp (disch := omega) only [w_up1, w_up2, w_up3])
              have nx := next _ (cw_up (cw_up (cw_up M1 327 N 1) 328 N (f_q fs)) 319 7 (N + 1)) m (.inl (f (272 + (i : Int)))) z9 st ⟨by rw [w_up1, show (cw_up (cw_up (cw_up M1 327 N 1) 328 N (f_q fs)) 319 7 (N + 1)) 330 = M1 330 from by rw [cw_up_ne (by omega), cw_up_ne (by omega), cw_up_ne (by omega)]]; exact lbar.1, hfl, by rw [w_up1]; show N + 1 ≤ 2 + ((i : Int) + 1) + (fs.length : Int); omega⟩ hm2 (fm_node hS1)
              have e2 : f_q fs + 1 + o_r (some (g_par A (g_ser B t))) = N := lbar.2
              rw [show (fs, some (g_par A (g_ser B t)), (none : Option Tr), (none : Option Tr), v).2.1 = some (g_par A (g_ser B t)) from rfl] at nx
              rw [e2] at nx
              exact nx
          · rw [if_neg (by omega), if_pos h45] at st
            refine k_Mo_reads_80 _ _ _ _ _ _ _ _ ?_
            simp (disch := omega) only [↓w_nil, ↓w_cons, ↓w_ic, ↓w_ist5, ↓w_goto, true_and, and_true, true_implies, false_implies, not_true_eq_false, not_false_eq_true, Int.reduceEq, Int.reduceLT, Int.reduceLE, Int.reduceNeg, w_nlI, w_nlL, w_nlR, w_up1, w_up2, w_up3]
            exact next _ M1 m (.inl (f (272 + (i : Int)))) z9 st ⟨by rw [hNN]; exact ls_minus hls, hfl, by rw [hNN]; show N ≤ 2 + ((i : Int) + 1) + (fs.length : Int); omega⟩ hm2 (Fm.rf hS1)
        | none =>
          have st : g_st (f 0) (f (272 + (i : Int))) (fs, A, B, none, v) = if f (272 + (i : Int)) = 40 then (if fs.length = 8 then .inl 4 else .inr ((A, B) :: fs, none, none, none, v)) else if f (272 + (i : Int)) - 97 < 0 ∨ 7 ≤ f (272 + (i : Int)) - 97 then .inl 1 else if f 0 ≤ f (272 + (i : Int)) - 97 then .inl 2 else if v (f (272 + (i : Int)) - 97) then .inl 3 else .inr (fs, A, B, some (.num (f (272 + (i : Int)) - 97)), fun k => if k = f (272 + (i : Int)) - 97 then true else v k) := by
            unfold g_st; rw [if_neg h32]
          rw [show c_wh (fs, A, B, none, v) = 0 from rfl]
          refine k_Mo_reads_68 _ _ _ _ _ _ _ _ ?_
          simp (disch := omega) only [↓w_nil, ↓w_cons, ↓w_ild5, ↓w_ifeq, true_and, and_true, true_implies, false_implies, not_true_eq_false, not_false_eq_true, Int.reduceEq, Int.reduceLT, Int.reduceLE, Int.reduceNeg, w_up1, w_up2, w_up3]
          repeat refine And.intro (by first | assumption | exact IsW.kt (by assumption) | omega | (unfold in32; omega) | (unfold in64; omega) | exact True.intro | exact Or.inl True.intro | exact Or.inr True.intro | rfl | exact Nat.le_of_ble_eq_true rfl) ?_
          try first | done | assumption | (unfold in32; omega) | (unfold in64; omega)
          refine k_Mo_reads_145 _ _ _ _ _ _ _ _ ?_
          simp (disch := omega) only [↓w_nil, ↓w_cons, ↓w_ild8, ↓w_ic, ↓w_icne, true_and, and_true, true_implies, false_implies, not_true_eq_false, not_false_eq_true, Int.reduceEq, Int.reduceLT, Int.reduceLE, Int.reduceNeg, w_up1, w_up2, w_up3]
          repeat refine And.intro (by first | assumption | exact IsW.kt (by assumption) | omega | (unfold in32; omega) | (unfold in64; omega) | exact True.intro | exact Or.inl True.intro | exact Or.inr True.intro | rfl | exact Nat.le_of_ble_eq_true rfl) ?_
          try first | done | assumption | (unfold in32; omega) | (unfold in64; omega)
          refine ⟨fun h40 => ?_, fun h40 => ?_⟩
          · rw [if_neg h40] at st
            refine k_Mo_reads_193 _ _ _ _ _ _ _ _ ?_
            simp (disch := omega) only [↓w_nil, ↓w_cons, ↓w_ild8, ↓w_i2l, ↓w_lc, ↓w_cs3, true_and, and_true, true_implies, false_implies, not_true_eq_false, not_false_eq_true, Int.reduceEq, Int.reduceLT, Int.reduceLE, Int.reduceNeg, w_c80, w_c8I, w_c8L, w_c8R, w_up1, w_up2, w_up3]
            repeat refine And.intro (by first | assumption | exact IsW.kt (by assumption) | omega | (unfold in32; omega) | (unfold in64; omega) | exact True.intro | exact Or.inl True.intro | exact Or.inr True.intro | rfl | exact Nat.le_of_ble_eq_true rfl) ?_
            try first | done | assumption | (unfold in32; omega) | (unfold in64; omega)
            refine ⟨_, cw_bool (p_Mo_in (by unfold in64; omega) (by unfold in64; omega) (by unfold in64; omega)), ?_⟩
            rintro q M9 ⟨⟨rfl, hb⟩ | ⟨rfl, hb⟩, rfl⟩
            · rw [if_neg (by omega)] at st
              refine k_Mo_reads_205 _ _ _ _ _ _ _ _ ?_
              simp (disch := omega) only [↓w_nil, ↓w_ifeq, true_and, and_true, true_implies, false_implies, not_true_eq_false, not_false_eq_true, Int.reduceEq, Int.reduceLT, Int.reduceLE, Int.reduceNeg, w_up1, w_up2, w_up3, w_tl1]
              repeat refine And.intro (by first | assumption | exact IsW.kt (by assumption) | omega | (unfold in32; omega) | (unfold in64; omega) | exact True.intro | exact Or.inl True.intro | exact Or.inr True.intro | rfl | exact Nat.le_of_ble_eq_true rfl) ?_
              try first | done | assumption | (unfold in32; omega) | (unfold in64; omega)
              refine k_Mo_reads_208 _ _ _ _ _ _ _ _ ?_
              simp (disch := omega) only [↓w_nil, ↓w_cons, ↓w_ild8, ↓w_ic, ↓w_isub, ↓w_ist9, ↓w_ald0, ↓w_ild9, ↓w_cv1, true_and, and_true, true_implies, false_implies, not_true_eq_false, not_false_eq_true, Int.reduceEq, Int.reduceLT, Int.reduceLE, Int.reduceNeg, w_nlI, w_nlL, w_nlR, w_c80, w_c8I, w_c8L, w_c8R, w_up1, w_up2, w_up3, c_k319, c_k320, c_k321, c_k322, c_k323, c_k324, c_k325, c_k326, c_k327, c_k328, c_k329, c_k330, c_k331, c_k332, c_k333, c_k334, c_k335, c_k336, c_k337, c_k338, c_k339, c_k340, c_k341, c_k342, c_k343, c_k344, c_k345, c_k346, c_k347, hS1.r319_0, hS1.r319_1, hS1.r319_2, hS1.r319_3, hS1.r319_4, hS1.r319_5, hS1.r319_6, hS1.r319_8, hS1.r319_9, hS1.r319_10, hS1.r319_11, hS1.r319_12, hS1.r319_13, hS1.r319_14, hS1.r319_15, hS1.r319_16, hS1.r319_17, hS1.r319_20, hS1.r319_21, hS1.r319_22, hS1.r319_23, hS1.r319_24, hS1.r319_25, hS1.r319_26, hS1.r319_29, hS1.r319_30, hS1.r319_31, hS1.r319_32, w_sf1, w_sf3]
              repeat refine And.intro (by first | assumption | exact IsW.kt (by assumption) | omega | (unfold in32; omega) | (unfold in64; omega) | exact True.intro | exact Or.inl True.intro | exact Or.inr True.intro | rfl | exact Nat.le_of_ble_eq_true rfl) ?_
              try first | done | assumption | (unfold in32; omega) | (unfold in64; omega)
              refine ⟨_, cw_bool (p_Mo_isPiece hS1 (by unfold in32; omega) (by rw [e324]) w1), ?_⟩
              rintro q M9 ⟨⟨rfl, hp⟩ | ⟨rfl, hp⟩, rfl⟩
              · rw [if_neg (by omega)] at st
                have ma := m_and hm2 (p := f (272 + (i : Int)) - 97) (by omega) (by omega)
                have ma32 : in32 (if v (f (272 + (i : Int)) - 97) then (1 : Int) else 0) := by unfold in32; split <;> omega
                have m32 : in32 m := by have := hm2.1; have := hm2.2.1; unfold in32; omega
                refine k_Mo_reads_221 _ _ _ _ _ _ _ _ ?_
                simp (disch := omega) only [↓w_nil, ↓w_ifne, true_and, and_true, true_implies, false_implies, not_true_eq_false, not_false_eq_true, Int.reduceEq, Int.reduceLT, Int.reduceLE, Int.reduceNeg, w_up1, w_up2, w_up3, w_tl1]
                repeat refine And.intro (by first | assumption | exact IsW.kt (by assumption) | omega | (unfold in32; omega) | (unfold in64; omega) | exact True.intro | exact Or.inl True.intro | exact Or.inr True.intro | rfl | exact Nat.le_of_ble_eq_true rfl) ?_
                try first | done | assumption | (unfold in32; omega) | (unfold in64; omega)
                refine k_Mo_reads_232 _ _ _ _ _ _ _ _ ?_
                simp (disch := omega) only [↓w_nil, ↓w_cons, ↓w_ild4, ↓w_ild9, ↓w_ishr, ↓w_ic, ↓w_iand, ↓w_icne, true_and, and_true, true_implies, false_implies, not_true_eq_false, not_false_eq_true, Int.reduceEq, Int.reduceLT, Int.reduceLE, Int.reduceNeg, w_up1, w_up2, w_up3, ma]
                repeat refine And.intro (by first | assumption | exact IsW.kt (by assumption) | omega | (unfold in32; omega) | (unfold in64; omega) | exact True.intro | exact Or.inl True.intro | exact Or.inr True.intro | rfl | exact Nat.le_of_ble_eq_true rfl) ?_
                try first | done | assumption | (unfold in32; omega) | (unfold in64; omega)
                refine ⟨fun hv => ?_, fun hv => ?_⟩
                · have hvf : v (f (272 + (i : Int)) - 97) = false := by
                    cases hq : v (f (272 + (i : Int)) - 97) with
                    | false => rfl
                    | true => rw [hq] at hv; exact absurd rfl hv
                  rw [hvf, if_neg (by decide)] at st
                  have mo := m_or hm2 (p := f (272 + (i : Int)) - 97) (by omega) (by omega) hvf
                  refine k_Mo_reads_251 _ _ _ _ _ _ _ _ ?_
                  simp (disch := omega) only [↓w_nil, ↓w_cons, ↓w_ild4, ↓w_ic, ↓w_ild9, ↓w_ishl, ↓w_ior, ↓w_ist4, ↓w_ald0, ↓w_gf2_10, ↓w_ild2, ↓w_cv2, true_and, and_true, true_implies, false_implies, not_true_eq_false, not_false_eq_true, Int.reduceEq, Int.reduceLT, Int.reduceLE, Int.reduceNeg, w_nlI, w_nlL, w_nlR, w_c80, w_c8I, w_c8L, w_c8R, w_up1, w_up2, w_up3, c_k319, c_k320, c_k321, c_k322, c_k323, c_k324, c_k325, c_k326, c_k327, c_k328, c_k329, c_k330, c_k331, c_k332, c_k333, c_k334, c_k335, c_k336, c_k337, c_k338, c_k339, c_k340, c_k341, c_k342, c_k343, c_k344, c_k345, c_k346, c_k347, hS1.r319_0, hS1.r319_1, hS1.r319_2, hS1.r319_3, hS1.r319_4, hS1.r319_5, hS1.r319_6, hS1.r319_8, hS1.r319_9, hS1.r319_10, hS1.r319_11, hS1.r319_12, hS1.r319_13, hS1.r319_14, hS1.r319_15, hS1.r319_16, hS1.r319_17, hS1.r319_20, hS1.r319_21, hS1.r319_22, hS1.r319_23, hS1.r319_24, hS1.r319_25, hS1.r319_26, hS1.r319_29, hS1.r319_30, hS1.r319_31, hS1.r319_32, w_sf1, w_sf3]
                  repeat refine And.intro (by first | assumption | exact IsW.kt (by assumption) | omega | (unfold in32; omega) | (unfold in64; omega) | exact True.intro | exact Or.inl True.intro | exact Or.inr True.intro | rfl | exact Nat.le_of_ble_eq_true rfl) ?_
                  try first | done | assumption | (unfold in32; omega) | (unfold in64; omega)
                  refine ⟨_, p_Mo_node hS1 hNN (by omega), ?_⟩
                  rintro q M2 ⟨rfl, rfl⟩
                  have fn := fm_node (w := 0) (i := f_q fs + 1 + o_r A) (N := N) hS1
                  have hS2 := fn.1
                  refine k_Mo_reads_270 _ _ _ _ _ _ _ _ ?_
                  simp (disch := omega) only [↓w_nil, ↓w_cons, ↓w_ild9, ↓w_iast, ↓w_ic, ↓w_ist5, ↓w_goto, true_and, and_true, true_implies, false_implies, not_true_eq_false, not_false_eq_true, Int.reduceEq, Int.reduceLT, Int.reduceLE, Int.reduceNeg, w_nlI, w_nlL, w_nlR, w_up1, w_up2, w_up3, w_tl1, c_k319, c_k320, c_k321, c_k322, c_k323, c_k324, c_k325, c_k326, c_k327, c_k328, c_k329, c_k330, c_k331, c_k332, c_k333, c_k334, c_k335, c_k336, c_k337, c_k338, c_k339, c_k340, c_k341, c_k342, c_k343, c_k344, c_k345, c_k346, c_k347, hS2.r319_0, hS2.r319_1, hS2.r319_2, hS2.r319_3, hS2.r319_4, hS2.r319_5, hS2.r319_6, hS2.r319_8, hS2.r319_9, hS2.r319_10, hS2.r319_11, hS2.r319_12, hS2.r319_13, hS2.r319_14, hS2.r319_15, hS2.r319_16, hS2.r319_17, hS2.r319_20, hS2.r319_21, hS2.r319_22, hS2.r319_23, hS2.r319_24, hS2.r319_25, hS2.r319_26, hS2.r319_29, hS2.r319_30, hS2.r319_31, hS2.r319_32, w_sf1, w_sf3]
                  repeat refine And.intro (by first | assumption | exact IsW.kt (by assumption) | omega | (unfold in32; omega) | (unfold in64; omega) | exact True.intro | exact Or.inl True.intro | exact Or.inr True.intro | rfl | exact Nat.le_of_ble_eq_true rfl) ?_
                  try first | done | assumption | (unfold in32; omega) | (unfold in64; omega)
                  have lf := ls_leaf (p := f (272 + (i : Int)) - 97) (K' := (cw_up (cw_up (cw_up (cw_up M9 327 N 0) 328 N (f_q fs + 1 + o_r A)) 319 7 (N + 1)) 329 N (f (272 + (i : Int)) - 97)) 327) (P' := (cw_up (cw_up (cw_up (cw_up M9 327 N 0) 328 N (f_q fs + 1 + o_r A)) 319 7 (N + 1)) 329 N (f (272 + (i : Int)) - 97)) 328) (I' := (cw_up (cw_up (cw_up (cw_up M9 327 N 0) 328 N (f_q fs + 1 + o_r A)) 319 7 (N + 1)) 329 N (f (272 + (i : Int)) - 97)) 329) (v' := fun k => if k = f (272 + (i : Int)) - 97 then true else v k) hls (fun j j0 j1 => by simp (disch := omega) only [w_up1, w_up2, w_up3]; exact ⟨trivial, trivial, trivial⟩) (by simp (disch := omega) only [w_up1, w_up2, w_up3]) (by simp (disch := omega) only [w_up1, w_up2, w_up3]) (by simp (disch := omega) only [w_up1, w_up2, w_up3])
                  refine next _ (cw_up (cw_up (cw_up (cw_up M9 327 N 0) 328 N (f_q fs + 1 + o_r A)) 319 7 (N + 1)) 329 N (f (272 + (i : Int)) - 97)) _ _ _ st ⟨?_, hfl, ?_⟩ mo ⟨hS2.up (rs_k c_k329 (by decide)), fun a k z1 z2 => ?_⟩
                  · rw [show (cw_up (cw_up (cw_up (cw_up M9 327 N 0) 328 N (f_q fs + 1 + o_r A)) 319 7 (N + 1)) 329 N (f (272 + (i : Int)) - 97)) 330 = M9 330 from by rw [cw_up_ne (by omega), cw_up_ne (by omega), cw_up_ne (by omega), cw_up_ne (by omega)], show (cw_up (cw_up (cw_up (cw_up M9 327 N 0) 328 N (f_q fs + 1 + o_r A)) 319 7 (N + 1)) 329 N (f (272 + (i : Int)) - 97)) 319 7 = N + 1 from by simp (disch := omega) only [w_up1, w_up2, w_up3]]
                    exact lf
                  · simp (disch := omega) only [w_up1, w_up2, w_up3]; show N + 1 ≤ 2 + ((i : Int) + 1) + (fs.length : Int); omega
                  · simp (disch := omega) only [up_if, if_neg]
                · have hvt : v (f (272 + (i : Int)) - 97) = true := by
                    cases hq : v (f (272 + (i : Int)) - 97) with
                    | true => rfl
                    | false => rw [hq] at hv; exact absurd hv (by decide)
                  rw [hvt, if_pos rfl] at st
                  refine k_Mo_reads_243 _ _ _ _ _ _ _ _ ?_
                  simp (disch := omega) only [↓w_nil, ↓w_cons, ↓w_ic, ↓w_ild7, ↓w_imul, ↓w_iadd, ↓w_iret, true_and, and_true, true_implies, false_implies, not_true_eq_false, not_false_eq_true, Int.reduceEq, Int.reduceLT, Int.reduceLE, Int.reduceNeg, w_up1, w_up2, w_up3]
                  repeat refine And.intro (by first | assumption | exact IsW.kt (by assumption) | omega | (unfold in32; omega) | (unfold in64; omega) | exact True.intro | exact Or.inl True.intro | exact Or.inr True.intro | rfl | exact Nat.le_of_ble_eq_true rfl) ?_
                  try first | done | assumption | (unfold in32; omega) | (unfold in64; omega)
                  unfold cw_hide
                  exact bad 3 st
              · refine k_Mo_reads_221 _ _ _ _ _ _ _ _ ?_
                simp (disch := omega) only [↓w_nil, ↓w_ifne, true_and, and_true, true_implies, false_implies, not_true_eq_false, not_false_eq_true, Int.reduceEq, Int.reduceLT, Int.reduceLE, Int.reduceNeg, w_up1, w_up2, w_up3, w_tl1]
                repeat refine And.intro (by first | assumption | exact IsW.kt (by assumption) | omega | (unfold in32; omega) | (unfold in64; omega) | exact True.intro | exact Or.inl True.intro | exact Or.inr True.intro | rfl | exact Nat.le_of_ble_eq_true rfl) ?_
                try first | done | assumption | (unfold in32; omega) | (unfold in64; omega)
                refine k_Mo_reads_224 _ _ _ _ _ _ _ _ ?_
                simp (disch := omega) only [↓w_nil, ↓w_cons, ↓w_ic, ↓w_ild7, ↓w_imul, ↓w_iadd, ↓w_iret, true_and, and_true, true_implies, false_implies, not_true_eq_false, not_false_eq_true, Int.reduceEq, Int.reduceLT, Int.reduceLE, Int.reduceNeg, w_up1, w_up2, w_up3]
                repeat refine And.intro (by first | assumption | exact IsW.kt (by assumption) | omega | (unfold in32; omega) | (unfold in64; omega) | exact True.intro | exact Or.inl True.intro | exact Or.inr True.intro | rfl | exact Nat.le_of_ble_eq_true rfl) ?_
                try first | done | assumption | (unfold in32; omega) | (unfold in64; omega)
                unfold cw_hide
                exact bad 2 (by rw [st, if_pos (by omega)])
            · refine k_Mo_reads_205 _ _ _ _ _ _ _ _ ?_
              simp (disch := omega) only [↓w_nil, ↓w_ifeq, true_and, and_true, true_implies, false_implies, not_true_eq_false, not_false_eq_true, Int.reduceEq, Int.reduceLT, Int.reduceLE, Int.reduceNeg, w_up1, w_up2, w_up3, w_tl1]
              repeat refine And.intro (by first | assumption | exact IsW.kt (by assumption) | omega | (unfold in32; omega) | (unfold in64; omega) | exact True.intro | exact Or.inl True.intro | exact Or.inr True.intro | rfl | exact Nat.le_of_ble_eq_true rfl) ?_
              try first | done | assumption | (unfold in32; omega) | (unfold in64; omega)
              refine k_Mo_reads_279 _ _ _ _ _ _ _ _ ?_
              simp (disch := omega) only [↓w_nil, ↓w_cons, ↓w_ic, ↓w_ild7, ↓w_imul, ↓w_iadd, ↓w_iret, true_and, and_true, true_implies, false_implies, not_true_eq_false, not_false_eq_true, Int.reduceEq, Int.reduceLT, Int.reduceLE, Int.reduceNeg, w_up1, w_up2, w_up3]
              repeat refine And.intro (by first | assumption | exact IsW.kt (by assumption) | omega | (unfold in32; omega) | (unfold in64; omega) | exact True.intro | exact Or.inl True.intro | exact Or.inr True.intro | rfl | exact Nat.le_of_ble_eq_true rfl) ?_
              try first | done | assumption | (unfold in32; omega) | (unfold in64; omega)
              unfold cw_hide
              exact bad 1 (by rw [st, if_pos (by omega)])
          · rw [if_pos h40] at st
            refine k_Mo_reads_152 _ _ _ _ _ _ _ _ ?_
            simp (disch := omega) only [↓w_nil, ↓w_cons, ↓w_ild3, ↓w_ic, ↓w_icne, true_and, and_true, true_implies, false_implies, not_true_eq_false, not_false_eq_true, Int.reduceEq, Int.reduceLT, Int.reduceLE, Int.reduceNeg, w_up1, w_up2, w_up3]
            repeat refine And.intro (by first | assumption | exact IsW.kt (by assumption) | omega | (unfold in32; omega) | (unfold in64; omega) | exact True.intro | exact Or.inl True.intro | exact Or.inr True.intro | rfl | exact Nat.le_of_ble_eq_true rfl) ?_
            try first | done | assumption | (unfold in32; omega) | (unfold in64; omega)
            refine ⟨fun h8 => ?_, fun h8 => ?_⟩
            · rw [if_neg (by omega)] at st
              have hSo : Sh (cw_up M1 330 fs.length (f_q fs + 1 + o_r A)) := hS1.up (rs_k c_k330 (by decide))
              refine k_Mo_reads_166 _ _ _ _ _ _ _ _ ?_
              simp (disch := omega) only [↓w_nil, ↓w_cons, ↓w_ald0, ↓w_gf2_11, ↓w_ild3, ↓w_ild2, ↓w_iast, ↓w_inc3, ↓w_ic, ↓w_cv2, true_and, and_true, true_implies, false_implies, not_true_eq_false, not_false_eq_true, Int.reduceEq, Int.reduceLT, Int.reduceLE, Int.reduceNeg, w_nlI, w_nlL, w_nlR, w_c80, w_c8I, w_c8L, w_c8R, w_up1, w_up2, w_up3, c_k319, c_k320, c_k321, c_k322, c_k323, c_k324, c_k325, c_k326, c_k327, c_k328, c_k329, c_k330, c_k331, c_k332, c_k333, c_k334, c_k335, c_k336, c_k337, c_k338, c_k339, c_k340, c_k341, c_k342, c_k343, c_k344, c_k345, c_k346, c_k347, hS1.r319_0, hS1.r319_1, hS1.r319_2, hS1.r319_3, hS1.r319_4, hS1.r319_5, hS1.r319_6, hS1.r319_8, hS1.r319_9, hS1.r319_10, hS1.r319_11, hS1.r319_12, hS1.r319_13, hS1.r319_14, hS1.r319_15, hS1.r319_16, hS1.r319_17, hS1.r319_20, hS1.r319_21, hS1.r319_22, hS1.r319_23, hS1.r319_24, hS1.r319_25, hS1.r319_26, hS1.r319_29, hS1.r319_30, hS1.r319_31, hS1.r319_32, w_sf1, w_sf3]
              repeat refine And.intro (by first | assumption | exact IsW.kt (by assumption) | omega | (unfold in32; omega) | (unfold in64; omega) | exact True.intro | exact Or.inl True.intro | exact Or.inr True.intro | rfl | exact Nat.le_of_ble_eq_true rfl) ?_
              try first | done | assumption | (unfold in32; omega) | (unfold in64; omega)
              refine ⟨_, p_Mo_node (N := N) hSo (by simp (disch := omega) only [w_up1, w_up2, w_up3]; exact hNN) (by omega), ?_⟩
              rintro q M2 ⟨rfl, rfl⟩
              have fn := fm_node (w := 2) (i := f_q fs + 1 + o_r A) (N := N) hSo
              have hS2 := fn.1
              refine k_Mo_reads_182 _ _ _ _ _ _ _ _ ?_
              simp (disch := omega) only [↓w_nil, ↓w_cons, ↓w_ist1, ↓w_ald0, ↓w_ic, ↓w_ild1, ↓w_cv2, true_and, and_true, true_implies, false_implies, not_true_eq_false, not_false_eq_true, Int.reduceEq, Int.reduceLT, Int.reduceLE, Int.reduceNeg, w_nlI, w_nlL, w_nlR, w_c80, w_c8I, w_c8L, w_c8R, w_up1, w_up2, w_up3, w_tl1, c_k319, c_k320, c_k321, c_k322, c_k323, c_k324, c_k325, c_k326, c_k327, c_k328, c_k329, c_k330, c_k331, c_k332, c_k333, c_k334, c_k335, c_k336, c_k337, c_k338, c_k339, c_k340, c_k341, c_k342, c_k343, c_k344, c_k345, c_k346, c_k347, hS2.r319_0, hS2.r319_1, hS2.r319_2, hS2.r319_3, hS2.r319_4, hS2.r319_5, hS2.r319_6, hS2.r319_8, hS2.r319_9, hS2.r319_10, hS2.r319_11, hS2.r319_12, hS2.r319_13, hS2.r319_14, hS2.r319_15, hS2.r319_16, hS2.r319_17, hS2.r319_20, hS2.r319_21, hS2.r319_22, hS2.r319_23, hS2.r319_24, hS2.r319_25, hS2.r319_26, hS2.r319_29, hS2.r319_30, hS2.r319_31, hS2.r319_32, w_sf1, w_sf3]
              repeat refine And.intro (by first | assumption | exact IsW.kt (by assumption) | omega | (unfold in32; omega) | (unfold in64; omega) | exact True.intro | exact Or.inl True.intro | exact Or.inr True.intro | rfl | exact Nat.le_of_ble_eq_true rfl) ?_
              try first | done | assumption | (unfold in32; omega) | (unfold in64; omega)
              refine ⟨_, p_Mo_node (N := N + 1) hS2 (by rw [w_up1]) (by omega), ?_⟩
              rintro q M3 ⟨rfl, rfl⟩
              have fn2 := fm_node (w := 1) (i := N) (N := N + 1) hS2
              have hS3 := fn2.1
              have lo := ls_open (K' := (cw_up (cw_up (cw_up (cw_up (cw_up (cw_up (cw_up M1 330 fs.length (f_q fs + 1 + o_r A)) 327 N 2) 328 N (f_q fs + 1 + o_r A)) 319 7 (N + 1)) 327 (N + 1) 1) 328 (N + 1) N) 319 7 (N + 1 + 1)) 327) (P' := (cw_up (cw_up (cw_up (cw_up (cw_up (cw_up (cw_up M1 330 fs.length (f_q fs + 1 + o_r A)) 327 N 2) 328 N (f_q fs + 1 + o_r A)) 319 7 (N + 1)) 327 (N + 1) 1) 328 (N + 1) N) 319 7 (N + 1 + 1)) 328) (I' := (cw_up (cw_up (cw_up (cw_up (cw_up (cw_up (cw_up M1 330 fs.length (f_q fs + 1 + o_r A)) 327 N 2) 328 N (f_q fs + 1 + o_r A)) 319 7 (N + 1)) 327 (N + 1) 1) 328 (N + 1) N) 319 7 (N + 1 + 1)) 329) (O' := (cw_up (cw_up (cw_up (cw_up (cw_up (cw_up (cw_up M1 330 fs.length (f_q fs + 1 + o_r A)) 327 N 2) 328 N (f_q fs + 1 + o_r A)) 319 7 (N + 1)) 327 (N + 1) 1) 328 (N + 1) N) 319 7 (N + 1 + 1)) 330) (v' := v) hls (fun j j0 j1 => by simp (disch := omega) only [w_up1, w_up2, w_up3]; exact ⟨trivial, trivial, trivial⟩) (by simp (disch := omega) only [w_up1, w_up2, w_up3]) (by simp (disch := omega) only [w_up1, w_up2, w_up3]) (by simp (disch := omega) only [w_up1, w_up2, w_up3]) (by simp (disch := omega) only [w_up1, w_up2, w_up3]) (fun j j0 j1 => by simp (disch := omega) only [w_up1, w_up2, w_up3]) (by simp (disch := omega) only [w_up1, w_up2, w_up3])
              have e7 : (cw_up (cw_up (cw_up (cw_up (cw_up (cw_up (cw_up M1 330 fs.length (f_q fs + 1 + o_r A)) 327 N 2) 328 N (f_q fs + 1 + o_r A)) 319 7 (N + 1)) 327 (N + 1) 1) 328 (N + 1) N) 319 7 (N + 1 + 1)) 319 7 = N + 2 := by rw [w_up1]; omega
              have fo : Fm M1 (cw_up (cw_up (cw_up (cw_up (cw_up (cw_up (cw_up M1 330 fs.length (f_q fs + 1 + o_r A)) 327 N 2) 328 N (f_q fs + 1 + o_r A)) 319 7 (N + 1)) 327 (N + 1) 1) 328 (N + 1) N) 319 7 (N + 1 + 1)) := ⟨hS3, fun a k z1 z2 => by simp (disch := omega) only [up_if, if_neg]⟩
              generalize (cw_up (cw_up (cw_up (cw_up (cw_up (cw_up (cw_up M1 330 fs.length (f_q fs + 1 + o_r A)) 327 N 2) 328 N (f_q fs + 1 + o_r A)) 319 7 (N + 1)) 327 (N + 1) 1) 328 (N + 1) N) 319 7 (N + 1 + 1)) = M4 at *
              refine k_Mo_reads_189 _ _ _ _ _ _ _ _ ?_
              simp (disch := omega) only [↓w_nil, ↓w_cons, ↓w_ist2, ↓w_goto, true_and, and_true, true_implies, false_implies, not_true_eq_false, not_false_eq_true, Int.reduceEq, Int.reduceLT, Int.reduceLE, Int.reduceNeg, w_nlI, w_nlL, w_nlR, w_up1, w_up2, w_up3, w_tl1]
              have e8 : (((((A, B) :: fs).length : Nat)) : Int) = fs.length + 1 := by rw [List.length_cons]; omega
              have nx := next ((A, B) :: fs, none, none, none, v) M4 m (.inl (f (272 + (i : Int)))) z9 st ⟨by rw [e7]; exact lo.1, by show (((A, B) :: fs).length) ≤ 8; rw [List.length_cons]; omega, by rw [e7]; show N + 2 ≤ 2 + ((i : Int) + 1) + ((((A, B) :: fs).length : Nat) : Int); omega⟩ hm2 fo
              have e9 : f_q ((A, B) :: fs) = N := lo.2
              have nx2 : mJ g y_Mo_reads 287 [.inr (.inr 319), .inl (f_q ((A, B) :: fs)), .inl (f_q ((A, B) :: fs) + 1 + 0), .inl ((((A, B) :: fs).length : Nat) : Int), .inl m, .inl 0, .inl (f 1), .inl (i : Int), .inl (f (272 + (i : Int))), z9] [] M4 (cw_hide (fun q M' => q = some (.inl (g_fault (g_of f))) ∧ RdM f M M' (g_of f))) := nx
              rw [e9, e8, Int.add_zero] at nx2
              exact nx2
            · rw [if_pos (by omega)] at st
              refine k_Mo_reads_158 _ _ _ _ _ _ _ _ ?_
              simp (disch := omega) only [↓w_nil, ↓w_cons, ↓w_ic, ↓w_ild7, ↓w_imul, ↓w_iadd, ↓w_iret, true_and, and_true, true_implies, false_implies, not_true_eq_false, not_false_eq_true, Int.reduceEq, Int.reduceLT, Int.reduceLE, Int.reduceNeg, w_up1, w_up2, w_up3]
              repeat refine And.intro (by first | assumption | exact IsW.kt (by assumption) | omega | (unfold in32; omega) | (unfold in64; omega) | exact True.intro | exact Or.inl True.intro | exact Or.inr True.intro | rfl | exact Nat.le_of_ble_eq_true rfl) ?_
              try first | done | assumption | (unfold in32; omega) | (unfold in64; omega)
              unfold cw_hide
              exact bad 4 st
      · have st : g_st (f 0) (f (272 + (i : Int))) (fs, A, B, C, v) = .inr (fs, A, B, C, v) := by unfold g_st; rw [if_pos h32]
        refine k_Mo_reads_65 _ _ _ _ _ _ _ _ ?_
        simp (disch := omega) only [↓w_nil, ↓w_goto, true_and, and_true, true_implies, false_implies, not_true_eq_false, not_false_eq_true, Int.reduceEq, Int.reduceLT, Int.reduceLE, Int.reduceNeg, w_up1, w_up2, w_up3]
        exact next _ M1 m (.inl (f (272 + (i : Int)))) z9 st ⟨by rw [hNN]; exact hls, hfl, by rw [hNN]; show N ≤ 2 + ((i : Int) + 1) + (fs.length : Int); omega⟩ hm2 (Fm.rf hS1)
  refine cw_C_of (L := [.inr (.inr 319), cU, cU, cU, cU, cU, cU, cU, cU, cU]) ok_Mo_reads (Nat.le_refl _) (Nat.le_of_ble_eq_true rfl) rfl ?_
  refine cw_J_hide ?_
  refine k_Mo_reads_0 _ _ _ _ _ _ _ _ ?_
  simp (disch := omega) only [↓w_nil, ↓w_cons, ↓w_ald0, ↓w_ic, ↓w_pfI_7, ↓w_cv2, true_and, and_true, true_implies, false_implies, not_true_eq_false, not_false_eq_true, Int.reduceEq, Int.reduceLT, Int.reduceLE, Int.reduceNeg, w_c80, w_c8I, w_c8L, w_c8R, w_up1, w_up2, w_up3, c_k319, c_k320, c_k321, c_k322, c_k323, c_k324, c_k325, c_k326, c_k327, c_k328, c_k329, c_k330, c_k331, c_k332, c_k333, c_k334, c_k335, c_k336, c_k337, c_k338, c_k339, c_k340, c_k341, c_k342, c_k343, c_k344, c_k345, c_k346, c_k347, hS.r319_0, hS.r319_1, hS.r319_2, hS.r319_3, hS.r319_4, hS.r319_5, hS.r319_6, hS.r319_8, hS.r319_9, hS.r319_10, hS.r319_11, hS.r319_12, hS.r319_13, hS.r319_14, hS.r319_15, hS.r319_16, hS.r319_17, hS.r319_20, hS.r319_21, hS.r319_22, hS.r319_23, hS.r319_24, hS.r319_25, hS.r319_26, hS.r319_29, hS.r319_30, hS.r319_31, hS.r319_32, w_sf1, w_sf3]
  repeat refine And.intro (by first | assumption | exact IsW.kt (by assumption) | omega | (unfold in32; omega) | (unfold in64; omega) | exact True.intro | exact Or.inl True.intro | exact Or.inr True.intro | rfl | exact Nat.le_of_ble_eq_true rfl) ?_
  try first | done | assumption | (unfold in32; omega) | (unfold in64; omega)
  have hSa : Sh (cw_up M 319 7 0) := hS.up rfl
  refine ⟨_, p_Mo_node (N := 0) hSa w_up1 (by omega), ?_⟩
  rintro q M2 ⟨rfl, rfl⟩
  have fn := fm_node (w := 2) (i := -1) (N := 0) hSa
  have hS2 := fn.1
  refine k_Mo_reads_11 _ _ _ _ _ _ _ _ ?_
  simp (disch := omega) only [↓w_nil, ↓w_cons, ↓w_ist1, ↓w_ald0, ↓w_ic, ↓w_ild1, ↓w_cv2, true_and, and_true, true_implies, false_implies, not_true_eq_false, not_false_eq_true, Int.reduceEq, Int.reduceLT, Int.reduceLE, Int.reduceNeg, w_nlI, w_nlL, w_nlR, w_c80, w_c8I, w_c8L, w_c8R, w_up1, w_up2, w_up3, w_tl1, c_k319, c_k320, c_k321, c_k322, c_k323, c_k324, c_k325, c_k326, c_k327, c_k328, c_k329, c_k330, c_k331, c_k332, c_k333, c_k334, c_k335, c_k336, c_k337, c_k338, c_k339, c_k340, c_k341, c_k342, c_k343, c_k344, c_k345, c_k346, c_k347, hS2.r319_0, hS2.r319_1, hS2.r319_2, hS2.r319_3, hS2.r319_4, hS2.r319_5, hS2.r319_6, hS2.r319_8, hS2.r319_9, hS2.r319_10, hS2.r319_11, hS2.r319_12, hS2.r319_13, hS2.r319_14, hS2.r319_15, hS2.r319_16, hS2.r319_17, hS2.r319_20, hS2.r319_21, hS2.r319_22, hS2.r319_23, hS2.r319_24, hS2.r319_25, hS2.r319_26, hS2.r319_29, hS2.r319_30, hS2.r319_31, hS2.r319_32, w_sf1, w_sf3]
  repeat refine And.intro (by first | assumption | exact IsW.kt (by assumption) | omega | (unfold in32; omega) | (unfold in64; omega) | exact True.intro | exact Or.inl True.intro | exact Or.inr True.intro | rfl | exact Nat.le_of_ble_eq_true rfl) ?_
  try first | done | assumption | (unfold in32; omega) | (unfold in64; omega)
  refine ⟨_, p_Mo_node (N := 0 + 1) hS2 (by rw [w_up1]) (by omega), ?_⟩
  rintro q M3 ⟨rfl, rfl⟩
  have fn2 := fm_node (w := 1) (i := 0) (N := 0 + 1) hS2
  have hS3 := fn2.1
  have f0 : Fm M (cw_up M 319 7 0) := ⟨hSa, fun a k z1 z2 => by simp (disch := omega) only [up_if, if_neg]⟩
  have fA := (f0.tr fn).tr fn2
  have e324 := fA.st
  rw [hf] at e324
  have q0 : (cw_up (cw_up (cw_up (cw_up (cw_up (cw_up (cw_up M 319 7 0) 327 0 2) 328 0 (-1)) 319 7 (0 + 1)) 327 (0 + 1) 1) 328 (0 + 1) 0) 319 7 (0 + 1 + 1)) 327 0 = 2 ∧ (cw_up (cw_up (cw_up (cw_up (cw_up (cw_up (cw_up M 319 7 0) 327 0 2) 328 0 (-1)) 319 7 (0 + 1)) 327 (0 + 1) 1) 328 (0 + 1) 0) 319 7 (0 + 1 + 1)) 328 0 = -1 ∧ (cw_up (cw_up (cw_up (cw_up (cw_up (cw_up (cw_up M 319 7 0) 327 0 2) 328 0 (-1)) 319 7 (0 + 1)) 327 (0 + 1) 1) 328 (0 + 1) 0) 319 7 (0 + 1 + 1)) 327 1 = 1 ∧ (cw_up (cw_up (cw_up (cw_up (cw_up (cw_up (cw_up M 319 7 0) 327 0 2) 328 0 (-1)) 319 7 (0 + 1)) 327 (0 + 1) 1) 328 (0 + 1) 0) 319 7 (0 + 1 + 1)) 328 1 = 0 ∧ (cw_up (cw_up (cw_up (cw_up (cw_up (cw_up (cw_up M 319 7 0) 327 0 2) 328 0 (-1)) 319 7 (0 + 1)) 327 (0 + 1) 1) 328 (0 + 1) 0) 319 7 (0 + 1 + 1)) 319 7 = 2 := by
    refine ⟨?_, ?_, ?_, ?_, ?_⟩ <;> simp (disch := omega) only [w_up1, w_up2, w_up3] <;> rfl
  generalize (cw_up (cw_up (cw_up (cw_up (cw_up (cw_up (cw_up M 319 7 0) 327 0 2) 328 0 (-1)) 319 7 (0 + 1)) 327 (0 + 1) 1) 328 (0 + 1) 0) 319 7 (0 + 1 + 1)) = M4 at *
  refine k_Mo_reads_18 _ _ _ _ _ _ _ _ ?_
  simp (disch := omega) only [↓w_nil, ↓w_cons, ↓w_ist2, ↓w_ic, ↓w_ist3, ↓w_ist4, ↓w_ist5, ↓w_ald0, ↓w_gf2_4, ↓w_iald, ↓w_ist6, ↓w_ist7, ↓w_fall, true_and, and_true, true_implies, false_implies, not_true_eq_false, not_false_eq_true, Int.reduceEq, Int.reduceLT, Int.reduceLE, Int.reduceNeg, w_nlI, w_nlL, w_nlR, w_up1, w_up2, w_up3, w_tl1, e324, c_k319, c_k320, c_k321, c_k322, c_k323, c_k324, c_k325, c_k326, c_k327, c_k328, c_k329, c_k330, c_k331, c_k332, c_k333, c_k334, c_k335, c_k336, c_k337, c_k338, c_k339, c_k340, c_k341, c_k342, c_k343, c_k344, c_k345, c_k346, c_k347, hS3.r319_0, hS3.r319_1, hS3.r319_2, hS3.r319_3, hS3.r319_4, hS3.r319_5, hS3.r319_6, hS3.r319_8, hS3.r319_9, hS3.r319_10, hS3.r319_11, hS3.r319_12, hS3.r319_13, hS3.r319_14, hS3.r319_15, hS3.r319_16, hS3.r319_17, hS3.r319_20, hS3.r319_21, hS3.r319_22, hS3.r319_23, hS3.r319_24, hS3.r319_25, hS3.r319_26, hS3.r319_29, hS3.r319_30, hS3.r319_31, hS3.r319_32, w_sf1, w_sf3]
  repeat refine And.intro (by first | assumption | exact IsW.kt (by assumption) | omega | (unfold in32; omega) | (unfold in64; omega) | exact True.intro | exact Or.inl True.intro | exact Or.inr True.intro | rfl | exact Nat.le_of_ble_eq_true rfl) ?_
  try first | done | assumption | (unfold in32; omega) | (unfold in64; omega)
  exact main (f 1).toNat 0 g_0 M4 0 cU cU (by omega) rfl ⟨⟨True.intro, ⟨q0.1, q0.2.1, True.intro, q0.2.2.1, q0.2.2.2.1, True.intro⟩, True.intro, q0.2.2.2.2, True.intro⟩, by show 0 ≤ 8; omega, by rw [q0.2.2.2.2]; show (2 : Int) ≤ 2 + 0 + 0; omega⟩ ⟨by omega, by omega, fun p p0 p1 => ⟨fun h => by rw [Int.zero_ediv] at h; exact absurd h (by decide), fun h => absurd (show false = true from h) (by decide)⟩⟩ fA
