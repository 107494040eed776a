/-! the reference: area -/
def RA (s : Int) : Prop := s = 0 ∨ s = 1 ∨ s = 12 ∨ s = 13 ∨ s = 14
theorem area_1 {a b c w y : Int} : w * w * (a * b * b + 2 * a * b * 0 + c * 0 * 0) + 1 * (w * (2 * (a * b + c * 0)) * (y + -1 * (w * (b + 0)))) + 1 * ((y + -1 * (w * (b + 0))) * (y + -1 * (w * (b + 0))) * c) = c * (y * y) + (a - c) * (2 * (b * w) * y - b * w * (b * w)) := by grind
theorem area_2 {a b c d e w y : Int} : w * w * (a * b * b + 2 * a * b * (d - b) + c * (d - b) * (d - b)) + 1 * (w * (2 * (a * b + c * (d - b))) * (y + -1 * (w * (b + (d - b))))) + 1 * ((y + -1 * (w * (b + (d - b)))) * (y + -1 * (w * (b + (d - b)))) * e) = e * (y * y) + (c - e) * (2 * (d * w) * y - d * w * (d * w)) + (a - c) * (2 * (b * w) * y - b * w * (b * w)) := by grind
theorem p_Mo_area {g : cw_G} {M : cw_M} {p x w : Int} {f fl : Int → Int} {n : Int} (hS : Sh M) (hf : M 324 = f) (hW : WF n f fl) (hp : 0 ≤ p ∧ p < f 0) (h : m_px M p x w) (xb : -849000000000000000000000 ≤ x ∧ x ≤ 849000000000000000000000) :
    mC g y_Mo_area [.inr (.inr 319), .inl p] M (fun q M' => q = none ∧ RM M' 12 (c_a f (f 3) p w x) ∧ cw_rf RA M M') := by
  have w0 := hW.1
  have p7 : p < 7 := by omega
  have g01 := gap_1 hW hp
  have rb := row_b hW hp.1 hp.2
  have hw := h.2.2
  have ax := ab_rng (b := 849000000000000000000000) xb
  have an := ab_nn x
  have q4 : ∀ M1 : cw_M, cw_rf RA M M1 → M1 324 = f := fun M1 r => by rw [r.1 324 (by omega)]; exact hf
  have g32 : in32 (f (10 + 12 * p)) := by unfold in32; omega
  have B6 : (721000000000000000000000000000000000000000000000 : Int) < 1073741824 ^ 6 := by decide
  have sq := ab_mb (x := cw_ab x) (y := cw_ab x) (a := 849000000000000000000000) (b := 849000000000000000000000) ⟨by omega, ax⟩ ⟨by omega, ax⟩
  refine cw_C_of (L := [.inr (.inr 319), .inl p, cU, cU, cU, cU, cU, cU, cU, cU, cU, cU, cU, cU, cU]) ok_Mo_area (Nat.le_refl _) (Nat.le_of_ble_eq_true rfl) rfl ?_
  refine cw_J_hide ?_
  -- a straight piece, or the first part
  have plain : ∀ (M1 : cw_M) (z2 z3 z5 z7 z9 z11 z13 : cw_V), Sh M1 → cw_rf RA M M1 → RM M1 13 (cw_ab x) → (f (10 + 12 * p) = 1 ∨ c_pt f p w x = 0) →
      mJ g y_Mo_area 52 [.inr (.inr 319), .inl p, z2, z3, cU, z5, cU, z7, cU, z9, cU, z11, cU, z13, cU] [] M1 (cw_hide (fun q M' => q = none ∧ RM M' 12 (c_a f (f 3) p w x) ∧ cw_rf RA M M')) := by
    intro M1 z2 z3 z5 z7 z9 z11 z13 hS1 r1 h13 hpl
    refine k_Mo_area_52 _ _ _ _ _ _ _ _ ?_
    simp (disch := omega) only [↓w_nil, ↓w_cons, ↓w_ald0, ↓w_ic, ↓w_cv3, true_and, and_true, true_implies, false_implies, not_true_eq_false, not_false_eq_true, Int.reduceEq, Int.reduceLT, Int.reduceLE, Int.reduceNeg, w_c80, w_c8I, w_c8L, w_c8R, w_up1, w_up2, w_up3]
    repeat refine And.intro (by first | assumption | exact IsW.kt (by assumption) | omega | (unfold in32; omega) | (unfold in64; omega) | exact True.intro | exact Or.inl True.intro | exact Or.inr True.intro | rfl | exact Nat.le_of_ble_eq_true rfl) ?_
    try first | done | assumption | (unfold in32; omega) | (unfold in64; omega)
    refine ⟨_, p_Mo_times (va := cw_ab x) (vb := cw_ab x) (ia := 3) (ib := 3) hS1 ⟨by omega, by omega⟩ ⟨by omega, by omega⟩ ⟨by omega, by omega⟩ h13 h13 (b24 (by have := ab_nn (cw_ab x); omega)) (b24 (by omega)) (by omega), ?_⟩
    rintro q M2 ⟨rfl, g2, r2⟩
    have hS2 := hS1.rf r2
    have r02 : cw_rf RA M M2 := rf_tr r1 (rf_mo r2 (fun s y => by unfold RA; omega))
    have e4 := q4 M2 r02
    rw [ab_sq] at g2 sq
    have bq : cw_ab (x * x) < 1073741824 ^ 6 := Int.lt_of_le_of_lt (ab_rng (b := 720900000000000000000000000000000000000000000000) (by omega)) (by decide)
    have fin : ∀ v : Int, (0 ≤ v ∧ v ≤ 200) → v * (x * x) = c_a f (f 3) p w x → mJ g y_Mo_area 107 [.inr (.inr 319), .inl p, z2, z3, cU, z5, cU, z7, cU, z9, cU, z11, cU, z13, cU] [.inr (.inl v), .inl 12, .inl 12, .inr (.inr 319)] M2 (cw_hide (fun q M' => q = none ∧ RM M' 12 (c_a f (f 3) p w x) ∧ cw_rf RA M M')) := by
      intro v vb hv
      refine k_Mo_area_107 _ _ _ _ _ _ _ _ ?_
      simp (disch := omega) only [↓w_nil, ↓w_cv3, true_and, and_true, true_implies, false_implies, not_true_eq_false, not_false_eq_true, Int.reduceEq, Int.reduceLT, Int.reduceLE, Int.reduceNeg, w_c80, w_c8I, w_c8L, w_c8R, w_up1, w_up2, w_up3]
      repeat refine And.intro (by first | assumption | exact IsW.kt (by assumption) | omega | (unfold in32; omega) | (unfold in64; omega) | exact True.intro | exact Or.inl True.intro | exact Or.inr True.intro | rfl | exact Nat.le_of_ble_eq_true rfl) ?_
      try first | done | assumption | (unfold in32; omega) | (unfold in64; omega)
      refine ⟨_, p_Mo_timesLong (va := x * x) (ia := 6) hS2 ⟨by omega, by omega⟩ ⟨by omega, by omega⟩ (by omega) g2 bq (by omega) (by omega), ?_⟩
      rintro q M3 ⟨rfl, g3, r3⟩
      refine k_Mo_area_110 _ _ _ _ _ _ _ _ ?_
      simp (disch := omega) only [↓w_nil, ↓w_vret, true_and, and_true, true_implies, false_implies, not_true_eq_false, not_false_eq_true, Int.reduceEq, Int.reduceLT, Int.reduceLE, Int.reduceNeg, w_up1, w_up2, w_up3, w_tl0]
      repeat refine And.intro (by first | assumption | exact IsW.kt (by assumption) | omega | (unfold in32; omega) | (unfold in64; omega) | exact True.intro | exact Or.inl True.intro | exact Or.inr True.intro | rfl | exact Nat.le_of_ble_eq_true rfl) ?_
      try first | done | assumption | (unfold in32; omega) | (unfold in64; omega)
      rw [Int.mul_comm, hv] at g3
      exact ⟨g3, rf_tr r02 (rf_mo r3 (fun s y => by unfold RA; omega))⟩
    refine k_Mo_area_62 _ _ _ _ _ _ _ _ ?_
    simp (disch := omega) only [↓w_nil, ↓w_cons, ↓w_ald0, ↓w_ic, ↓w_ild1, ↓w_cv2, true_and, and_true, true_implies, false_implies, not_true_eq_false, not_false_eq_true, Int.reduceEq, Int.reduceLT, Int.reduceLE, Int.reduceNeg, w_c80, w_c8I, w_c8L, w_c8R, w_up1, w_up2, w_up3, w_tl0]
    repeat refine And.intro (by first | assumption | exact IsW.kt (by assumption) | omega | (unfold in32; omega) | (unfold in64; omega) | exact True.intro | exact Or.inl True.intro | exact Or.inr True.intro | rfl | exact Nat.le_of_ble_eq_true rfl) ?_
    try first | done | assumption | (unfold in32; omega) | (unfold in64; omega)
    refine ⟨_, p_Mo_of hS2 ⟨hp.1, p7⟩ (w := 0) (by omega), ?_⟩
    rintro q M3 ⟨rfl, rfl⟩
    rw [e4, show 10 + 12 * p + 0 = 10 + 12 * p by omega]
    refine k_Mo_area_73 _ _ _ _ _ _ _ _ ?_
    simp (disch := omega) only [↓w_nil, ↓w_cons, ↓w_ic, ↓w_icne, true_and, and_true, true_implies, false_implies, not_true_eq_false, not_false_eq_true, Int.reduceEq, Int.reduceLT, Int.reduceLE, Int.reduceNeg, w_up1, w_up2, w_up3, w_tl1]
    repeat refine And.intro (by first | assumption | exact IsW.kt (by assumption) | omega | (unfold in32; omega) | (unfold in64; omega) | exact True.intro | exact Or.inl True.intro | exact Or.inr True.intro | rfl | exact Nat.le_of_ble_eq_true rfl) ?_
    try first | done | assumption | (unfold in32; omega) | (unfold in64; omega)
    refine ⟨fun hc => ?_, fun hc => ?_⟩
    · have v32 : in32 (f (11 + 12 * p)) := by unfold in32; omega
      refine k_Mo_area_100 _ _ _ _ _ _ _ _ ?_
      simp (disch := omega) only [↓w_nil, ↓w_cons, ↓w_ald0, ↓w_ild1, ↓w_ic, ↓w_cv2, true_and, and_true, true_implies, false_implies, not_true_eq_false, not_false_eq_true, Int.reduceEq, Int.reduceLT, Int.reduceLE, Int.reduceNeg, w_c80, w_c8I, w_c8L, w_c8R, w_up1, w_up2, w_up3]
      repeat refine And.intro (by first | assumption | exact IsW.kt (by assumption) | omega | (unfold in32; omega) | (unfold in64; omega) | exact True.intro | exact Or.inl True.intro | exact Or.inr True.intro | rfl | exact Nat.le_of_ble_eq_true rfl) ?_
      try first | done | assumption | (unfold in32; omega) | (unfold in64; omega)
      refine ⟨_, p_Mo_of hS2 ⟨hp.1, p7⟩ (w := 1) (by omega), ?_⟩
      rintro q M4 ⟨rfl, rfl⟩
      rw [e4, show 10 + 12 * p + 1 = 11 + 12 * p by omega]
      refine k_Mo_area_106 _ _ _ _ _ _ _ _ ?_
      simp (disch := omega) only [↓w_nil, ↓w_cons, ↓w_i2l, ↓w_fall, true_and, and_true, true_implies, false_implies, not_true_eq_false, not_false_eq_true, Int.reduceEq, Int.reduceLT, Int.reduceLE, Int.reduceNeg, w_up1, w_up2, w_up3, w_tl1]
      repeat refine And.intro (by first | assumption | exact IsW.kt (by assumption) | omega | (unfold in32; omega) | (unfold in64; omega) | exact True.intro | exact Or.inl True.intro | exact Or.inr True.intro | rfl | exact Nat.le_of_ble_eq_true rfl) ?_
      try first | done | assumption | (unfold in32; omega) | (unfold in64; omega)
      refine fin _ (by omega) ?_
      have g0 : f (10 + 12 * p) = 0 := g01.resolve_right hc
      have z := hpl.resolve_left hc
      unfold c_pt at z
      rw [if_pos g0] at z
      have le1 : cw_ab x ≤ f (12 + 12 * p) * w := Int.not_lt.mp (fun y => by rw [if_pos y] at z; split at z <;> omega)
      have le2 : cw_ab x ≤ f (14 + 12 * p) * w := Int.not_lt.mp (fun y => by rw [if_pos y] at z; split at z <;> omega)
      unfold c_a
      rw [if_neg hc, cq_lo le1, cq_lo le2]
      grind
    · have hc1 : f (10 + 12 * p) = 1 := by omega
      have gv := hW.2.2.2.1 p (f 3) hp.1 hp.2 (by omega) (by omega) hc1
      have v32 : in32 (f (100 + 24 * p + f 3)) := by unfold in32; omega
      refine k_Mo_area_77 _ _ _ _ _ _ _ _ ?_
      simp (disch := omega) only [↓w_nil, ↓w_cons, ↓w_ald0, ↓w_gf2_4, ↓w_ic, ↓w_ild1, ↓w_imul, ↓w_iadd, ↓w_iald, ↓w_i2l, ↓w_goto, true_and, and_true, true_implies, false_implies, not_true_eq_false, not_false_eq_true, Int.reduceEq, Int.reduceLT, Int.reduceLE, Int.reduceNeg, w_up1, w_up2, w_up3, e4, c_k319, c_k320, c_k321, c_k322, c_k323, c_k324, c_k325, c_k326, c_k327, c_k328, c_k329, c_k330, c_k331, c_k332, c_k333, c_k334, c_k335, c_k336, c_k337, c_k338, c_k339, c_k340, c_k341, c_k342, c_k343, c_k344, c_k345, c_k346, c_k347, hS2.r319_0, hS2.r319_1, hS2.r319_2, hS2.r319_3, hS2.r319_4, hS2.r319_5, hS2.r319_6, hS2.r319_8, hS2.r319_9, hS2.r319_10, hS2.r319_11, hS2.r319_12, hS2.r319_13, hS2.r319_14, hS2.r319_15, hS2.r319_16, hS2.r319_17, hS2.r319_20, hS2.r319_21, hS2.r319_22, hS2.r319_23, hS2.r319_24, hS2.r319_25, hS2.r319_26, hS2.r319_29, hS2.r319_30, hS2.r319_31, hS2.r319_32, w_sf1, w_sf3]
      repeat refine And.intro (by first | assumption | exact IsW.kt (by assumption) | omega | (unfold in32; omega) | (unfold in64; omega) | exact True.intro | exact Or.inl True.intro | exact Or.inr True.intro | rfl | exact Nat.le_of_ble_eq_true rfl) ?_
      try first | done | assumption | (unfold in32; omega) | (unfold in64; omega)
      refine fin _ (by omega) ?_
      unfold c_a
      rw [if_pos hc1]
  -- beyond the first part
  have bent : ∀ (M1 : cw_M) (z9 z11 z13 : cw_V) (k wd : Int), Sh M1 → cw_rf RA M M1 → RM M1 13 (cw_ab x) → f (10 + 12 * p) = 0 → (k = 1 ∨ k = 2) → k = c_pt f p w x → wd = (if k = 1 then 0 else f (14 + 12 * p) - f (12 + 12 * p)) →
      mJ g y_Mo_area 156 [.inr (.inr 319), .inl p, .inl k, .inr (.inl (f (11 + 12 * p))), cU, .inr (.inl (f (12 + 12 * p))), cU, .inr (.inl (f (13 + 12 * p))), cU, z9, cU, z11, cU, z13, cU] [.inr (.inl wd)] M1 (cw_hide (fun q M' => q = none ∧ RM M' 12 (c_a f (f 3) p w x) ∧ cw_rf RA M M')) := by
    intro M1 z9 z11 z13 k wd hS1 r1 h13 hg hk hkc hwd
    have gi : cw_ir f p := (hW.2.1 p hp.1 hp.2).resolve_left (fun z => by have := z.1; omega)
    unfold cw_ir at gi
    have e336 : M1 336 p = w := by rw [r1.1 336 (by omega)]; exact h.2.1
    have wdb : 0 ≤ wd ∧ wd ≤ 10000 := by rw [hwd]; split <;> omega
    obtain ⟨a, ha⟩ : ∃ a, a = f (11 + 12 * p) := ⟨_, rfl⟩
    obtain ⟨b, hb⟩ : ∃ b, b = f (12 + 12 * p) := ⟨_, rfl⟩
    obtain ⟨c, hc⟩ : ∃ c, c = f (13 + 12 * p) := ⟨_, rfl⟩
    rw [← ha, ← hb, ← hc]
    have ab1 := sq_b (a := a) (x := b) (by omega) (by omega)
    have cd1 := sq_b (a := c) (x := wd) (by omega) (by omega)
    have abd : 0 ≤ 2 * a * b * wd ∧ 2 * a * b * wd ≤ 40000000000 := by
      have e : 2 * a * b * wd = 2 * ((a * b) * wd) := by grind
      have m1 := Int.mul_nonneg ab1.1 wdb.1
      have m2 : a * b * wd ≤ 2000000 * 10000 := Int.mul_le_mul ab1.2.1 wdb.2 wdb.1 (by decide)
      rw [e]; omega
    have fb : 0 ≤ a * b * b + 2 * a * b * wd + c * wd * wd ∧ a * b * b + 2 * a * b * wd + c * wd * wd ≤ 80000000000 := by omega
    have cb : 0 ≤ a * b + c * wd ∧ a * b + c * wd ≤ 4000000 := by omega
    have wb := ab_mb (x := w) (y := b + wd) (a := 13254776280841401) (b := 20000) (by omega) (by omega)
    have s1b : -1000000000000000000000000 ≤ cw_ab x + -1 * (w * (b + wd)) ∧ cw_ab x + -1 * (w * (b + wd)) ≤ 1000000000000000000000000 := by omega
    have ww := ab_mb (x := w) (y := w) (a := 13254776280841401) (b := 13254776280841401) (by omega) (by omega)
    have wf := ab_mb (y := a * b * b + 2 * a * b * wd + c * wd * wd) (b := 80000000000) ww (by omega)
    have wc := ab_mb (x := w) (y := 2 * (a * b + c * wd)) (a := 13254776280841401) (b := 8000000) (by omega) (by omega)
    have wcs := ab_mb wc s1b
    have ss := ab_mb s1b s1b
    have kk : 0 ≤ f (10 + 12 * p + (1 + 2 * k)) ∧ f (10 + 12 * p + (1 + 2 * k)) ≤ 200 := by
      rcases hk with rfl | rfl
      · rw [show 10 + 12 * p + (1 + 2 * 1) = 13 + 12 * p by omega]; omega
      · rw [show 10 + 12 * p + (1 + 2 * 2) = 15 + 12 * p by omega]; omega
    have k32 : in32 (f (10 + 12 * p + (1 + 2 * k))) := by unfold in32; omega
    have ssk := ab_mb (y := f (10 + 12 * p + (1 + 2 * k))) (b := 200) ss (by omega)
    have big : ∀ v : Int, (-1000000000000000000000000000000000000000000000000000000 ≤ v ∧ v ≤ 1000000000000000000000000000000000000000000000000000000) → cw_ab v < 1073741824 ^ 10 := fun v hv => Int.lt_of_le_of_lt (ab_rng hv) (by decide)
    have big31 : ∀ v : Int, cw_ab v < 1073741824 ^ 10 → cw_ab v < 1073741824 ^ 31 := fun v hv => Int.lt_trans hv (by decide)
    refine k_Mo_area_156 _ _ _ _ _ _ _ _ ?_
    simp (disch := omega) only [↓w_nil, ↓w_cons, ↓w_lst9, ↓w_lld3, ↓w_lld5, ↓w_lmul, ↓w_lc, ↓w_lld9, ↓w_ladd, ↓w_lld7, ↓w_lst11, ↓w_lst13, ↓w_ald0, ↓w_ic, ↓w_gf2_17, ↓w_ild1, ↓w_lald, ↓w_cv2, true_and, and_true, true_implies, false_implies, not_true_eq_false, not_false_eq_true, Int.reduceEq, Int.reduceLT, Int.reduceLE, Int.reduceNeg, w_nlI, w_nlL, w_nlR, w_c80, w_c8I, w_c8L, w_c8R, w_up1, w_up2, w_up3, e336, c_k319, c_k320, c_k321, c_k322, c_k323, c_k324, c_k325, c_k326, c_k327, c_k328, c_k329, c_k330, c_k331, c_k332, c_k333, c_k334, c_k335, c_k336, c_k337, c_k338, c_k339, c_k340, c_k341, c_k342, c_k343, c_k344, c_k345, c_k346, c_k347, hS1.r319_0, hS1.r319_1, hS1.r319_2, hS1.r319_3, hS1.r319_4, hS1.r319_5, hS1.r319_6, hS1.r319_8, hS1.r319_9, hS1.r319_10, hS1.r319_11, hS1.r319_12, hS1.r319_13, hS1.r319_14, hS1.r319_15, hS1.r319_16, hS1.r319_17, hS1.r319_20, hS1.r319_21, hS1.r319_22, hS1.r319_23, hS1.r319_24, hS1.r319_25, hS1.r319_26, hS1.r319_29, hS1.r319_30, hS1.r319_31, hS1.r319_32, w_sf1, w_sf3]
    repeat refine And.intro (by first | assumption | exact IsW.kt (by assumption) | omega | (unfold in32; omega) | (unfold in64; omega) | exact True.intro | exact Or.inl True.intro | exact Or.inr True.intro | rfl | exact Nat.le_of_ble_eq_true rfl) ?_
    try first | done | assumption | (unfold in32; omega) | (unfold in64; omega)
    refine ⟨_, p_Mo_sets hS1 (r := 0) (v := w) ⟨by omega, by omega⟩ (by omega), ?_⟩
    rintro q M2 ⟨rfl, g2, q2⟩
    have hS2 := hS1.rf q2
    refine k_Mo_area_211 _ _ _ _ _ _ _ _ ?_
    simp (disch := omega) only [↓w_nil, ↓w_cons, ↓w_ald0, ↓w_ic, ↓w_lld5, ↓w_lld9, ↓w_ladd, ↓w_cv3, true_and, and_true, true_implies, false_implies, not_true_eq_false, not_false_eq_true, Int.reduceEq, Int.reduceLT, Int.reduceLE, Int.reduceNeg, w_c80, w_c8I, w_c8L, w_c8R, w_up1, w_up2, w_up3, w_tl0]
    repeat refine And.intro (by first | assumption | exact IsW.kt (by assumption) | omega | (unfold in32; omega) | (unfold in64; omega) | exact True.intro | exact Or.inl True.intro | exact Or.inr True.intro | rfl | exact Nat.le_of_ble_eq_true rfl) ?_
    try first | done | assumption | (unfold in32; omega) | (unfold in64; omega)
    refine ⟨_, p_Mo_timesLong (va := w) (ia := 3) hS2 ⟨by omega, by omega⟩ ⟨by omega, by omega⟩ (by omega) g2 (b24 (by omega)) (by omega) (by omega), ?_⟩
    rintro q M3 ⟨rfl, g3, q3⟩
    have hS3 := hS2.rf q3
    have g20 : RM M3 0 w := g2.rf q3 ⟨by omega, by omega⟩ (by omega)
    have x3 : RM M3 13 (cw_ab x) := (h13.rf q2 ⟨by omega, by omega⟩ (by omega)).rf q3 ⟨by omega, by omega⟩ (by omega)
    refine k_Mo_area_222 _ _ _ _ _ _ _ _ ?_
    simp (disch := omega) only [↓w_nil, ↓w_cons, ↓w_ald0, ↓w_ic, ↓w_cv4, true_and, and_true, true_implies, false_implies, not_true_eq_false, not_false_eq_true, Int.reduceEq, Int.reduceLT, Int.reduceLE, Int.reduceNeg, w_c80, w_c8I, w_c8L, w_c8R, w_up1, w_up2, w_up3, w_tl0]
    repeat refine And.intro (by first | assumption | exact IsW.kt (by assumption) | omega | (unfold in32; omega) | (unfold in64; omega) | exact True.intro | exact Or.inl True.intro | exact Or.inr True.intro | rfl | exact Nat.le_of_ble_eq_true rfl) ?_
    try first | done | assumption | (unfold in32; omega) | (unfold in64; omega)
    refine ⟨_, p_Mo_adds hS3 ⟨by omega, by omega⟩ ⟨by omega, by omega⟩ ⟨by omega, by omega⟩ x3 g3 (big31 _ (big _ (by omega))) (big31 _ (big _ (by omega))) (Or.inr rfl), ?_⟩
    rintro q M4 ⟨rfl, g4, q4'⟩
    have hS4 := hS3.rf q4'
    have g40 : RM M4 0 w := g20.rf q4' ⟨by omega, by omega⟩ (by omega)
    refine k_Mo_area_232 _ _ _ _ _ _ _ _ ?_
    simp (disch := omega) only [↓w_nil, ↓w_cons, ↓w_ald0, ↓w_ic, ↓w_cv3, true_and, and_true, true_implies, false_implies, not_true_eq_false, not_false_eq_true, Int.reduceEq, Int.reduceLT, Int.reduceLE, Int.reduceNeg, w_c80, w_c8I, w_c8L, w_c8R, w_up1, w_up2, w_up3, w_tl0]
    repeat refine And.intro (by first | assumption | exact IsW.kt (by assumption) | omega | (unfold in32; omega) | (unfold in64; omega) | exact True.intro | exact Or.inl True.intro | exact Or.inr True.intro | rfl | exact Nat.le_of_ble_eq_true rfl) ?_
    try first | done | assumption | (unfold in32; omega) | (unfold in64; omega)
    refine ⟨_, p_Mo_times (va := w) (vb := w) (ia := 3) (ib := 3) hS4 ⟨by omega, by omega⟩ ⟨by omega, by omega⟩ ⟨by omega, by omega⟩ g40 g40 (b24 (by omega)) (b24 (by omega)) (by omega), ?_⟩
    rintro q M5 ⟨rfl, g5, q5⟩
    have hS5 := hS4.rf q5
    have g50 : RM M5 0 w := g40.rf q5 ⟨by omega, by omega⟩ (by omega)
    have s5 := g4.rf q5 ⟨by omega, by omega⟩ (by omega)
    refine k_Mo_area_239 _ _ _ _ _ _ _ _ ?_
    simp (disch := omega) only [↓w_nil, ↓w_cons, ↓w_ald0, ↓w_ic, ↓w_lld11, ↓w_cv3, true_and, and_true, true_implies, false_implies, not_true_eq_false, not_false_eq_true, Int.reduceEq, Int.reduceLT, Int.reduceLE, Int.reduceNeg, w_c80, w_c8I, w_c8L, w_c8R, w_up1, w_up2, w_up3, w_tl0]
    repeat refine And.intro (by first | assumption | exact IsW.kt (by assumption) | omega | (unfold in32; omega) | (unfold in64; omega) | exact True.intro | exact Or.inl True.intro | exact Or.inr True.intro | rfl | exact Nat.le_of_ble_eq_true rfl) ?_
    try first | done | assumption | (unfold in32; omega) | (unfold in64; omega)
    refine ⟨_, p_Mo_timesLong (ia := 10) hS5 ⟨by omega, by omega⟩ ⟨by omega, by omega⟩ (by omega) g5 (big _ (by omega)) (by omega) (by omega), ?_⟩
    rintro q M6 ⟨rfl, g6, q6⟩
    have hS6 := hS5.rf q6
    have g60 : RM M6 0 w := g50.rf q6 ⟨by omega, by omega⟩ (by omega)
    have s6 := s5.rf q6 ⟨by omega, by omega⟩ (by omega)
    refine k_Mo_area_247 _ _ _ _ _ _ _ _ ?_
    simp (disch := omega) only [↓w_nil, ↓w_cons, ↓w_ald0, ↓w_ic, ↓w_lc, ↓w_lld13, ↓w_lmul, ↓w_cv3, true_and, and_true, true_implies, false_implies, not_true_eq_false, not_false_eq_true, Int.reduceEq, Int.reduceLT, Int.reduceLE, Int.reduceNeg, w_c80, w_c8I, w_c8L, w_c8R, w_up1, w_up2, w_up3, w_tl0]
    repeat refine And.intro (by first | assumption | exact IsW.kt (by assumption) | omega | (unfold in32; omega) | (unfold in64; omega) | exact True.intro | exact Or.inl True.intro | exact Or.inr True.intro | rfl | exact Nat.le_of_ble_eq_true rfl) ?_
    try first | done | assumption | (unfold in32; omega) | (unfold in64; omega)
    refine ⟨_, p_Mo_timesLong (va := w) (ia := 3) hS6 ⟨by omega, by omega⟩ ⟨by omega, by omega⟩ (by omega) g60 (b24 (by omega)) (by omega) (by omega), ?_⟩
    rintro q M7 ⟨rfl, g7, q7⟩
    have hS7 := hS6.rf q7
    have s7 := s6.rf q7 ⟨by omega, by omega⟩ (by omega)
    have t7 := g6.rf q7 ⟨by omega, by omega⟩ (by omega)
    refine k_Mo_area_259 _ _ _ _ _ _ _ _ ?_
    simp (disch := omega) only [↓w_nil, ↓w_cons, ↓w_ald0, ↓w_ic, ↓w_cv3, true_and, and_true, true_implies, false_implies, not_true_eq_false, not_false_eq_true, Int.reduceEq, Int.reduceLT, Int.reduceLE, Int.reduceNeg, w_c80, w_c8I, w_c8L, w_c8R, w_up1, w_up2, w_up3, w_tl0]
    repeat refine And.intro (by first | assumption | exact IsW.kt (by assumption) | omega | (unfold in32; omega) | (unfold in64; omega) | exact True.intro | exact Or.inl True.intro | exact Or.inr True.intro | rfl | exact Nat.le_of_ble_eq_true rfl) ?_
    try first | done | assumption | (unfold in32; omega) | (unfold in64; omega)
    refine ⟨_, p_Mo_times (ia := 10) (ib := 10) hS7 ⟨by omega, by omega⟩ ⟨by omega, by omega⟩ ⟨by omega, by omega⟩ g7 s7 (big _ (by omega)) (big _ (by omega)) (by omega), ?_⟩
    rintro q M8 ⟨rfl, g8, q8⟩
    have hS8 := hS7.rf q8
    have s8 := s7.rf q8 ⟨by omega, by omega⟩ (by omega)
    have t8 := t7.rf q8 ⟨by omega, by omega⟩ (by omega)
    refine k_Mo_area_267 _ _ _ _ _ _ _ _ ?_
    simp (disch := omega) only [↓w_nil, ↓w_cons, ↓w_ald0, ↓w_ic, ↓w_cv4, true_and, and_true, true_implies, false_implies, not_true_eq_false, not_false_eq_true, Int.reduceEq, Int.reduceLT, Int.reduceLE, Int.reduceNeg, w_c80, w_c8I, w_c8L, w_c8R, w_up1, w_up2, w_up3, w_tl0]
    repeat refine And.intro (by first | assumption | exact IsW.kt (by assumption) | omega | (unfold in32; omega) | (unfold in64; omega) | exact True.intro | exact Or.inl True.intro | exact Or.inr True.intro | rfl | exact Nat.le_of_ble_eq_true rfl) ?_
    try first | done | assumption | (unfold in32; omega) | (unfold in64; omega)
    refine ⟨_, p_Mo_adds hS8 ⟨by omega, by omega⟩ ⟨by omega, by omega⟩ ⟨by omega, by omega⟩ t8 g8 (big31 _ (big _ (by omega))) (big31 _ (big _ (by omega))) (Or.inl rfl), ?_⟩
    rintro q M9 ⟨rfl, g9, q9⟩
    have hS9 := hS8.rf q9
    have s9 := s8.rf q9 ⟨by omega, by omega⟩ (by omega)
    refine k_Mo_area_275 _ _ _ _ _ _ _ _ ?_
    simp (disch := omega) only [↓w_nil, ↓w_cons, ↓w_ald0, ↓w_ic, ↓w_cv3, true_and, and_true, true_implies, false_implies, not_true_eq_false, not_false_eq_true, Int.reduceEq, Int.reduceLT, Int.reduceLE, Int.reduceNeg, w_c80, w_c8I, w_c8L, w_c8R, w_up1, w_up2, w_up3, w_tl0]
    repeat refine And.intro (by first | assumption | exact IsW.kt (by assumption) | omega | (unfold in32; omega) | (unfold in64; omega) | exact True.intro | exact Or.inl True.intro | exact Or.inr True.intro | rfl | exact Nat.le_of_ble_eq_true rfl) ?_
    try first | done | assumption | (unfold in32; omega) | (unfold in64; omega)
    refine ⟨_, p_Mo_times (ia := 10) (ib := 10) hS9 ⟨by omega, by omega⟩ ⟨by omega, by omega⟩ ⟨by omega, by omega⟩ s9 s9 (big _ (by omega)) (big _ (by omega)) (by omega), ?_⟩
    rintro q Ma ⟨rfl, ga, qa⟩
    have hSa := hS9.rf qa
    have ta := g9.rf qa ⟨by omega, by omega⟩ (by omega)
    have ra : cw_rf RA M Ma := by
      refine rf_tr r1 (rf_tr (rf_mo q2 (fun s y => ?_)) (rf_tr (rf_mo q3 (fun s y => ?_)) (rf_tr (rf_mo q4' (fun s y => ?_)) (rf_tr (rf_mo q5 (fun s y => ?_)) (rf_tr (rf_mo q6 (fun s y => ?_)) (rf_tr (rf_mo q7 (fun s y => ?_)) (rf_tr (rf_mo q8 (fun s y => ?_)) (rf_tr (rf_mo q9 (fun s y => ?_)) (rf_mo qa (fun s y => ?_)))))))))) <;> (unfold RA; omega)
    have e4a := q4 Ma ra
    refine k_Mo_area_285 _ _ _ _ _ _ _ _ ?_
    simp (disch := omega) only [↓w_nil, ↓w_cons, ↓w_ald0, ↓w_ic, ↓w_ild1, ↓w_ild2, ↓w_imul, ↓w_iadd, ↓w_cv2, true_and, and_true, true_implies, false_implies, not_true_eq_false, not_false_eq_true, Int.reduceEq, Int.reduceLT, Int.reduceLE, Int.reduceNeg, w_c80, w_c8I, w_c8L, w_c8R, w_up1, w_up2, w_up3, w_tl0]
    repeat refine And.intro (by first | assumption | exact IsW.kt (by assumption) | omega | (unfold in32; omega) | (unfold in64; omega) | exact True.intro | exact Or.inl True.intro | exact Or.inr True.intro | rfl | exact Nat.le_of_ble_eq_true rfl) ?_
    try first | done | assumption | (unfold in32; omega) | (unfold in64; omega)
    refine ⟨_, p_Mo_of hSa ⟨hp.1, p7⟩ (w := 1 + 2 * k) (by omega), ?_⟩
    rintro q Mb ⟨rfl, rfl⟩
    rw [e4a]
    refine k_Mo_area_300 _ _ _ _ _ _ _ _ ?_
    simp (disch := omega) only [↓w_nil, ↓w_cons, ↓w_i2l, ↓w_cv3, true_and, and_true, true_implies, false_implies, not_true_eq_false, not_false_eq_true, Int.reduceEq, Int.reduceLT, Int.reduceLE, Int.reduceNeg, w_c80, w_c8I, w_c8L, w_c8R, w_up1, w_up2, w_up3, w_tl1]
    repeat refine And.intro (by first | assumption | exact IsW.kt (by assumption) | omega | (unfold in32; omega) | (unfold in64; omega) | exact True.intro | exact Or.inl True.intro | exact Or.inr True.intro | rfl | exact Nat.le_of_ble_eq_true rfl) ?_
    try first | done | assumption | (unfold in32; omega) | (unfold in64; omega)
    refine ⟨_, p_Mo_timesLong (ia := 10) hSa ⟨by omega, by omega⟩ ⟨by omega, by omega⟩ (by omega) ga (big _ (by omega)) (by omega) (by omega), ?_⟩
    rintro q Mc ⟨rfl, gc, qc⟩
    have hSc := hSa.rf qc
    refine k_Mo_area_304 _ _ _ _ _ _ _ _ ?_
    simp (disch := omega) only [↓w_nil, ↓w_cons, ↓w_ald0, ↓w_ic, ↓w_cv4, true_and, and_true, true_implies, false_implies, not_true_eq_false, not_false_eq_true, Int.reduceEq, Int.reduceLT, Int.reduceLE, Int.reduceNeg, w_c80, w_c8I, w_c8L, w_c8R, w_up1, w_up2, w_up3, w_tl0]
    repeat refine And.intro (by first | assumption | exact IsW.kt (by assumption) | omega | (unfold in32; omega) | (unfold in64; omega) | exact True.intro | exact Or.inl True.intro | exact Or.inr True.intro | rfl | exact Nat.le_of_ble_eq_true rfl) ?_
    try first | done | assumption | (unfold in32; omega) | (unfold in64; omega)
    refine ⟨_, p_Mo_adds hSc ⟨by omega, by omega⟩ ⟨by omega, by omega⟩ ⟨by omega, by omega⟩ (ta.rf qc ⟨by omega, by omega⟩ (by omega)) gc (big31 _ (big _ (by omega))) (big31 _ (big _ (by omega))) (Or.inl rfl), ?_⟩
    rintro q Md ⟨rfl, gd, qd⟩
    refine k_Mo_area_314 _ _ _ _ _ _ _ _ ?_
    simp (disch := omega) only [↓w_nil, ↓w_vret, true_and, and_true, true_implies, false_implies, not_true_eq_false, not_false_eq_true, Int.reduceEq, Int.reduceLT, Int.reduceLE, Int.reduceNeg, w_up1, w_up2, w_up3, w_tl0]
    repeat refine And.intro (by first | assumption | exact IsW.kt (by assumption) | omega | (unfold in32; omega) | (unfold in64; omega) | exact True.intro | exact Or.inl True.intro | exact Or.inr True.intro | rfl | exact Nat.le_of_ble_eq_true rfl) ?_
    try first | done | assumption | (unfold in32; omega) | (unfold in64; omega)
    refine ⟨?_, rf_tr ra (rf_tr (rf_mo qc (fun s y => by unfold RA; omega)) (rf_mo qd (fun s y => by unfold RA; omega)))⟩
    have v : w * w * (a * b * b + 2 * a * b * wd + c * wd * wd) + 1 * (w * (2 * (a * b + c * wd)) * (cw_ab x + -1 * (w * (b + wd)))) + 1 * ((cw_ab x + -1 * (w * (b + wd))) * (cw_ab x + -1 * (w * (b + wd))) * f (10 + 12 * p + (1 + 2 * k))) = c_a f (f 3) p w x := by
      unfold c_pt at hkc
      rw [if_pos hg] at hkc
      unfold c_a
      rw [if_neg (by omega)]
      rcases hk with rfl | rfl
      · rw [if_pos rfl] at hwd
        have l1 : f (12 + 12 * p) * w < cw_ab x := Decidable.byContradiction (fun y => by
          rw [if_neg y] at hkc
          have : f (12 + 12 * p) * w ≤ f (14 + 12 * p) * w := Int.mul_le_mul_of_nonneg_right (by omega) (by omega)
          rw [if_neg (by omega)] at hkc; omega)
        have l2 : cw_ab x ≤ f (14 + 12 * p) * w := Int.not_lt.mp (fun y => by rw [if_pos l1, if_pos y] at hkc; omega)
        rw [← hb] at l1
        rw [hwd, show 10 + 12 * p + (1 + 2 * 1) = 13 + 12 * p by omega, ← ha, ← hb, ← hc, area_1, cq_lo l2, cq_hi (Int.le_of_lt l1), ab_sq]
        grind
      · rw [if_neg (by omega)] at hwd
        have l2 : f (14 + 12 * p) * w < cw_ab x := Decidable.byContradiction (fun y => by rw [if_neg y] at hkc; split at hkc <;> omega)
        have l1 : f (12 + 12 * p) * w ≤ f (14 + 12 * p) * w := Int.mul_le_mul_of_nonneg_right (by omega) (by omega)
        have l3 : b * w ≤ cw_ab x := by rw [hb]; omega
        rw [hwd, show 10 + 12 * p + (1 + 2 * 2) = 15 + 12 * p by omega, ← ha, ← hb, ← hc, area_2, cq_hi (Int.le_of_lt l2), cq_hi l3, ab_sq]
    rw [← v]
    exact gd
  refine k_Mo_area_0 _ _ _ _ _ _ _ _ ?_
  simp (disch := omega) only [↓w_nil, ↓w_cons, ↓w_ald0, ↓w_ic, ↓w_ild1, ↓w_iadd, ↓w_cv2, true_and, and_true, true_implies, false_implies, not_true_eq_false, not_false_eq_true, Int.reduceEq, Int.reduceLT, Int.reduceLE, Int.reduceNeg, w_c80, w_c8I, w_c8L, w_c8R, w_up1, w_up2, w_up3]
  repeat refine And.intro (by first | assumption | exact IsW.kt (by assumption) | omega | (unfold in32; omega) | (unfold in64; omega) | exact True.intro | exact Or.inl True.intro | exact Or.inr True.intro | rfl | exact Nat.le_of_ble_eq_true rfl) ?_
  try first | done | assumption | (unfold in32; omega) | (unfold in64; omega)
  refine ⟨_, p_Mo_copies hS (v := x) ⟨by omega, by omega⟩ ⟨by omega, by omega⟩ h.1, ?_⟩
  rintro q M1 ⟨rfl, g1, r1⟩
  have hS1 := hS.rf r1
  have e322 : M1 322 13 = cw_sg x := by obtain ⟨_, _, _, _, _, _, e⟩ := g1; exact e
  have s32 := sg32 x
  have c2b : 0 ≤ c_pt f p w x ∧ c_pt f p w x ≤ 2 := by unfold c_pt; (repeat' split) <;> omega
  have mid : ∀ s : Int, s = cw_sg (cw_ab x) → mJ g y_Mo_area 31 [.inr (.inr 319), .inl p, cU, cU, cU, cU, cU, cU, cU, cU, cU, cU, cU, cU, cU] [.inl s, .inl 13, .inr (.inr 322)] M1 (cw_hide (fun q M' => q = none ∧ RM M' 12 (c_a f (f 3) p w x) ∧ cw_rf RA M M')) := by
    rintro s rfl
    have r2 : cw_rf RA M (cw_up M1 322 13 (cw_sg (cw_ab x))) := rf_u2 (rf_mo r1 (fun s y => by unfold RA; omega)) (by unfold RA; omega)
    have hS2 := hS.rf r2
    have g2 : RM (cw_up M1 322 13 (cw_sg (cw_ab x))) 13 (cw_ab x) := by
      obtain ⟨n, a1, a2, a3, a4, a5, a6⟩ := g1
      refine ⟨n, a1, by rw [cw_up_ne (by omega)]; exact a2, fun j hj => by rw [rd_u2]; exact a3 j hj, fun z => by rw [rd_u2]; exact a4 z, by rw [rd_u2, a5]; unfold cw_ab; (repeat' split) <;> omega, by rw [w_up1]⟩
    have h2 : m_px (cw_up M1 322 13 (cw_sg (cw_ab x))) p x w := ⟨h.1.rf r2 ⟨by omega, by omega⟩ (fun y => by have y : 16 + p = 0 ∨ 16 + p = 1 ∨ 16 + p = 12 ∨ 16 + p = 13 ∨ 16 + p = 14 := y; omega), by rw [r2.1 336 (by omega)]; exact h.2.1, h.2.2⟩
    have e4 := q4 _ r2
    refine k_Mo_area_31 _ _ _ _ _ _ _ _ ?_
    simp (disch := omega) only [↓w_nil, ↓w_cons, ↓w_iast, ↓w_ald0, ↓w_ild1, ↓w_cv1, true_and, and_true, true_implies, false_implies, not_true_eq_false, not_false_eq_true, Int.reduceEq, Int.reduceLT, Int.reduceLE, Int.reduceNeg, w_c80, w_c8I, w_c8L, w_c8R, w_up1, w_up2, w_up3, c_k319, c_k320, c_k321, c_k322, c_k323, c_k324, c_k325, c_k326, c_k327, c_k328, c_k329, c_k330, c_k331, c_k332, c_k333, c_k334, c_k335, c_k336, c_k337, c_k338, c_k339, c_k340, c_k341, c_k342, c_k343, c_k344, c_k345, c_k346, c_k347, hS1.r319_0, hS1.r319_1, hS1.r319_2, hS1.r319_3, hS1.r319_4, hS1.r319_5, hS1.r319_6, hS1.r319_8, hS1.r319_9, hS1.r319_10, hS1.r319_11, hS1.r319_12, hS1.r319_13, hS1.r319_14, hS1.r319_15, hS1.r319_16, hS1.r319_17, hS1.r319_20, hS1.r319_21, hS1.r319_22, hS1.r319_23, hS1.r319_24, hS1.r319_25, hS1.r319_26, hS1.r319_29, hS1.r319_30, hS1.r319_31, hS1.r319_32, w_sf1, w_sf3]
    repeat refine And.intro (by first | assumption | exact IsW.kt (by assumption) | omega | (unfold in32; omega) | (unfold in64; omega) | exact True.intro | exact Or.inl True.intro | exact Or.inr True.intro | rfl | exact Nat.le_of_ble_eq_true rfl) ?_
    try first | done | assumption | (unfold in32; omega) | (unfold in64; omega)
    refine ⟨_, p_Mo_partOf hS2 (by rw [e4]; exact hW) (by rw [e4]; exact hp) h2, ?_⟩
    rintro q M3 ⟨rfl, r3⟩
    rw [e4]
    have hS3 := hS2.rf r3
    have r03 : cw_rf RA M M3 := rf_tr r2 (rf_mo r3 (fun s y => by have y : s = 0 ∨ s = 14 := y; unfold RA; omega))
    have e43 := q4 _ r03
    have g3 : RM M3 13 (cw_ab x) := g2.rf r3 ⟨by omega, by omega⟩ (fun y => by have y : (13 : Int) = 0 ∨ (13 : Int) = 14 := y; omega)
    have c32 : in32 (c_pt f p w x) := by unfold in32; omega
    refine k_Mo_area_37 _ _ _ _ _ _ _ _ ?_
    simp (disch := omega) only [↓w_nil, ↓w_cons, ↓w_ist2, ↓w_ald0, ↓w_ild1, ↓w_ic, ↓w_cv2, true_and, and_true, true_implies, false_implies, not_true_eq_false, not_false_eq_true, Int.reduceEq, Int.reduceLT, Int.reduceLE, Int.reduceNeg, w_nlI, w_nlL, w_nlR, w_c80, w_c8I, w_c8L, w_c8R, w_up1, w_up2, w_up3, w_tl1]
    repeat refine And.intro (by first | assumption | exact IsW.kt (by assumption) | omega | (unfold in32; omega) | (unfold in64; omega) | exact True.intro | exact Or.inl True.intro | exact Or.inr True.intro | rfl | exact Nat.le_of_ble_eq_true rfl) ?_
    try first | done | assumption | (unfold in32; omega) | (unfold in64; omega)
    refine ⟨_, p_Mo_of hS3 ⟨hp.1, p7⟩ (w := 0) (by omega), ?_⟩
    rintro q M4 ⟨rfl, rfl⟩
    rw [e43, show 10 + 12 * p + 0 = 10 + 12 * p by omega]
    refine k_Mo_area_44 _ _ _ _ _ _ _ _ ?_
    simp (disch := omega) only [↓w_nil, ↓w_cons, ↓w_ic, ↓w_iceq, true_and, and_true, true_implies, false_implies, not_true_eq_false, not_false_eq_true, Int.reduceEq, Int.reduceLT, Int.reduceLE, Int.reduceNeg, w_up1, w_up2, w_up3, w_tl1]
    repeat refine And.intro (by first | assumption | exact IsW.kt (by assumption) | omega | (unfold in32; omega) | (unfold in64; omega) | exact True.intro | exact Or.inl True.intro | exact Or.inr True.intro | rfl | exact Nat.le_of_ble_eq_true rfl) ?_
    try first | done | assumption | (unfold in32; omega) | (unfold in64; omega)
    refine ⟨fun hc => ?_, fun hc => ?_⟩
    · exact plain _ _ _ _ _ _ _ _ hS3 r03 g3 (Or.inl hc)
    · have g0 : f (10 + 12 * p) = 0 := g01.resolve_right hc
      refine k_Mo_area_48 _ _ _ _ _ _ _ _ ?_
      simp (disch := omega) only [↓w_nil, ↓w_cons, ↓w_ild2, ↓w_ifne, true_and, and_true, true_implies, false_implies, not_true_eq_false, not_false_eq_true, Int.reduceEq, Int.reduceLT, Int.reduceLE, Int.reduceNeg, w_up1, w_up2, w_up3]
      repeat refine And.intro (by first | assumption | exact IsW.kt (by assumption) | omega | (unfold in32; omega) | (unfold in64; omega) | exact True.intro | exact Or.inl True.intro | exact Or.inr True.intro | rfl | exact Nat.le_of_ble_eq_true rfl) ?_
      try first | done | assumption | (unfold in32; omega) | (unfold in64; omega)
      refine ⟨fun hk => ?_, fun hk => ?_⟩
      · have v1 : in32 (f (11 + 12 * p)) := by unfold in32; omega
        have v2 : in32 (f (12 + 12 * p)) := by unfold in32; omega
        have v3 : in32 (f (13 + 12 * p)) := by unfold in32; omega
        have v4 : in32 (f (14 + 12 * p)) := by unfold in32; omega
        refine k_Mo_area_111 _ _ _ _ _ _ _ _ ?_
        simp (disch := omega) only [↓w_nil, ↓w_cons, ↓w_ald0, ↓w_ild1, ↓w_ic, ↓w_cv2, true_and, and_true, true_implies, false_implies, not_true_eq_false, not_false_eq_true, Int.reduceEq, Int.reduceLT, Int.reduceLE, Int.reduceNeg, w_c80, w_c8I, w_c8L, w_c8R, w_up1, w_up2, w_up3]
        repeat refine And.intro (by first | assumption | exact IsW.kt (by assumption) | omega | (unfold in32; omega) | (unfold in64; omega) | exact True.intro | exact Or.inl True.intro | exact Or.inr True.intro | rfl | exact Nat.le_of_ble_eq_true rfl) ?_
        try first | done | assumption | (unfold in32; omega) | (unfold in64; omega)
        refine ⟨_, p_Mo_of hS3 ⟨hp.1, p7⟩ (w := 1) (by omega), ?_⟩
        rintro q M5 ⟨rfl, rfl⟩
        rw [e43, show 10 + 12 * p + 1 = 11 + 12 * p by omega]
        refine k_Mo_area_117 _ _ _ _ _ _ _ _ ?_
        simp (disch := omega) only [↓w_nil, ↓w_cons, ↓w_i2l, ↓w_lst3, ↓w_ald0, ↓w_ild1, ↓w_ic, ↓w_cv2, true_and, and_true, true_implies, false_implies, not_true_eq_false, not_false_eq_true, Int.reduceEq, Int.reduceLT, Int.reduceLE, Int.reduceNeg, w_nlI, w_nlL, w_nlR, w_c80, w_c8I, w_c8L, w_c8R, w_up1, w_up2, w_up3, w_tl1]
        repeat refine And.intro (by first | assumption | exact IsW.kt (by assumption) | omega | (unfold in32; omega) | (unfold in64; omega) | exact True.intro | exact Or.inl True.intro | exact Or.inr True.intro | rfl | exact Nat.le_of_ble_eq_true rfl) ?_
        try first | done | assumption | (unfold in32; omega) | (unfold in64; omega)
        refine ⟨_, p_Mo_of hS3 ⟨hp.1, p7⟩ (w := 2) (by omega), ?_⟩
        rintro q M6 ⟨rfl, rfl⟩
        rw [e43, show 10 + 12 * p + 2 = 12 + 12 * p by omega]
        refine k_Mo_area_125 _ _ _ _ _ _ _ _ ?_
        simp (disch := omega) only [↓w_nil, ↓w_cons, ↓w_i2l, ↓w_lst5, ↓w_ald0, ↓w_ild1, ↓w_ic, ↓w_cv2, true_and, and_true, true_implies, false_implies, not_true_eq_false, not_false_eq_true, Int.reduceEq, Int.reduceLT, Int.reduceLE, Int.reduceNeg, w_nlI, w_nlL, w_nlR, w_c80, w_c8I, w_c8L, w_c8R, w_up1, w_up2, w_up3, w_tl1]
        repeat refine And.intro (by first | assumption | exact IsW.kt (by assumption) | omega | (unfold in32; omega) | (unfold in64; omega) | exact True.intro | exact Or.inl True.intro | exact Or.inr True.intro | rfl | exact Nat.le_of_ble_eq_true rfl) ?_
        try first | done | assumption | (unfold in32; omega) | (unfold in64; omega)
        refine ⟨_, p_Mo_of hS3 ⟨hp.1, p7⟩ (w := 3) (by omega), ?_⟩
        rintro q M7 ⟨rfl, rfl⟩
        rw [e43, show 10 + 12 * p + 3 = 13 + 12 * p by omega]
        refine k_Mo_area_134 _ _ _ _ _ _ _ _ ?_
        simp (disch := omega) only [↓w_nil, ↓w_cons, ↓w_i2l, ↓w_lst7, ↓w_ild2, ↓w_ic, ↓w_icne, true_and, and_true, true_implies, false_implies, not_true_eq_false, not_false_eq_true, Int.reduceEq, Int.reduceLT, Int.reduceLE, Int.reduceNeg, w_nlI, w_nlL, w_nlR, w_up1, w_up2, w_up3, w_tl1]
        repeat refine And.intro (by first | assumption | exact IsW.kt (by assumption) | omega | (unfold in32; omega) | (unfold in64; omega) | exact True.intro | exact Or.inl True.intro | exact Or.inr True.intro | rfl | exact Nat.le_of_ble_eq_true rfl) ?_
        try first | done | assumption | (unfold in32; omega) | (unfold in64; omega)
        refine ⟨fun h2 => ?_, fun h2 => ?_⟩
        · refine k_Mo_area_146 _ _ _ _ _ _ _ _ ?_
          simp (disch := omega) only [↓w_nil, ↓w_cons, ↓w_ald0, ↓w_ild1, ↓w_ic, ↓w_cv2, true_and, and_true, true_implies, false_implies, not_true_eq_false, not_false_eq_true, Int.reduceEq, Int.reduceLT, Int.reduceLE, Int.reduceNeg, w_c80, w_c8I, w_c8L, w_c8R, w_up1, w_up2, w_up3]
          repeat refine And.intro (by first | assumption | exact IsW.kt (by assumption) | omega | (unfold in32; omega) | (unfold in64; omega) | exact True.intro | exact Or.inl True.intro | exact Or.inr True.intro | rfl | exact Nat.le_of_ble_eq_true rfl) ?_
          try first | done | assumption | (unfold in32; omega) | (unfold in64; omega)
          refine ⟨_, p_Mo_of hS3 ⟨hp.1, p7⟩ (w := 4) (by omega), ?_⟩
          rintro q M8 ⟨rfl, rfl⟩
          rw [e43, show 10 + 12 * p + 4 = 14 + 12 * p by omega]
          refine k_Mo_area_152 _ _ _ _ _ _ _ _ ?_
          simp (disch := omega) only [↓w_nil, ↓w_cons, ↓w_i2l, ↓w_lld5, ↓w_lsub, ↓w_fall, true_and, and_true, true_implies, false_implies, not_true_eq_false, not_false_eq_true, Int.reduceEq, Int.reduceLT, Int.reduceLE, Int.reduceNeg, w_up1, w_up2, w_up3, w_tl1]
          repeat refine And.intro (by first | assumption | exact IsW.kt (by assumption) | omega | (unfold in32; omega) | (unfold in64; omega) | exact True.intro | exact Or.inl True.intro | exact Or.inr True.intro | rfl | exact Nat.le_of_ble_eq_true rfl) ?_
          try first | done | assumption | (unfold in32; omega) | (unfold in64; omega)
          exact bent _ _ _ _ _ _ hS3 r03 g3 g0 (by omega) rfl (by rw [if_neg h2])
        · refine k_Mo_area_142 _ _ _ _ _ _ _ _ ?_
          simp (disch := omega) only [↓w_nil, ↓w_cons, ↓w_lc, ↓w_goto, true_and, and_true, true_implies, false_implies, not_true_eq_false, not_false_eq_true, Int.reduceEq, Int.reduceLT, Int.reduceLE, Int.reduceNeg, w_up1, w_up2, w_up3]
          repeat refine And.intro (by first | assumption | exact IsW.kt (by assumption) | omega | (unfold in32; omega) | (unfold in64; omega) | exact True.intro | exact Or.inl True.intro | exact Or.inr True.intro | rfl | exact Nat.le_of_ble_eq_true rfl) ?_
          try first | done | assumption | (unfold in32; omega) | (unfold in64; omega)
          exact bent _ _ _ _ _ _ hS3 r03 g3 g0 (by omega) rfl (by rw [if_pos (by omega)])
      · exact plain _ _ _ _ _ _ _ _ hS3 r03 g3 (Or.inr hk)
  have sab : cw_sg (cw_ab x) = if cw_sg x = 0 then 0 else 1 := by unfold cw_sg cw_ab; (repeat' split) <;> omega
  refine k_Mo_area_10 _ _ _ _ _ _ _ _ ?_
  simp (disch := omega) only [↓w_nil, ↓w_cons, ↓w_ald0, ↓w_gf2_2, ↓w_ic, ↓w_iald, ↓w_ifne, true_and, and_true, true_implies, false_implies, not_true_eq_false, not_false_eq_true, Int.reduceEq, Int.reduceLT, Int.reduceLE, Int.reduceNeg, w_up1, w_up2, w_up3, w_tl0, e322, c_k319, c_k320, c_k321, c_k322, c_k323, c_k324, c_k325, c_k326, c_k327, c_k328, c_k329, c_k330, c_k331, c_k332, c_k333, c_k334, c_k335, c_k336, c_k337, c_k338, c_k339, c_k340, c_k341, c_k342, c_k343, c_k344, c_k345, c_k346, c_k347, hS1.r319_0, hS1.r319_1, hS1.r319_2, hS1.r319_3, hS1.r319_4, hS1.r319_5, hS1.r319_6, hS1.r319_8, hS1.r319_9, hS1.r319_10, hS1.r319_11, hS1.r319_12, hS1.r319_13, hS1.r319_14, hS1.r319_15, hS1.r319_16, hS1.r319_17, hS1.r319_20, hS1.r319_21, hS1.r319_22, hS1.r319_23, hS1.r319_24, hS1.r319_25, hS1.r319_26, hS1.r319_29, hS1.r319_30, hS1.r319_31, hS1.r319_32, w_sf1, w_sf3]
  repeat refine And.intro (by first | assumption | exact IsW.kt (by assumption) | omega | (unfold in32; omega) | (unfold in64; omega) | exact True.intro | exact Or.inl True.intro | exact Or.inr True.intro | rfl | exact Nat.le_of_ble_eq_true rfl) ?_
  try first | done | assumption | (unfold in32; omega) | (unfold in64; omega)
  refine ⟨fun hc => ?_, fun hc => ?_⟩
  · refine k_Mo_area_30 _ _ _ _ _ _ _ _ ?_
    simp (disch := omega) only [↓w_nil, ↓w_cons, ↓w_ic, ↓w_fall, true_and, and_true, true_implies, false_implies, not_true_eq_false, not_false_eq_true, Int.reduceEq, Int.reduceLT, Int.reduceLE, Int.reduceNeg, w_up1, w_up2, w_up3]
    exact mid 1 (by rw [sab, if_neg hc])
  · refine k_Mo_area_26 _ _ _ _ _ _ _ _ ?_
    simp (disch := omega) only [↓w_nil, ↓w_cons, ↓w_ic, ↓w_goto, true_and, and_true, true_implies, false_implies, not_true_eq_false, not_false_eq_true, Int.reduceEq, Int.reduceLT, Int.reduceLE, Int.reduceNeg, w_up1, w_up2, w_up3]
    exact mid 0 (by rw [sab, if_pos hc])
