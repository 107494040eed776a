/-! tells: ABOVE 6, BELOW 7 -/
def A27 : Int → Prop := fun s => 2 ≤ s ∧ s ≤ 7
theorem gd_nn (a b : Int) : cw_gd a b = ((Nat.gcd a.natAbs b.natAbs : Nat) : Int) := rfl
theorem p_Mo_tells {g : cw_G} {M : cw_M} {a b sa sb : Int} (hS : Sh M) (ha : IR a) (hb : IR b) (ha3 : ¬ A27 a) (hb3 : ¬ A27 b) (hva : RM M a sa) (hvb : RM M b sb) (h1 : sb ≠ 0) (hba : cw_ab sa < 1073741824 ^ 30) (hbb : cw_ab sb < 1073741824 ^ 30) :
    mC g y_Mo_tells [.inr (.inr 319), .inl a, .inl b] M (fun q M' => q = some (.inl (cw_sg sa)) ∧ RM M' 6 (if sa = 0 then 0 else sa.tdiv (cw_gd sa sb)) ∧ RM M' 7 (if sa = 0 then 1 else sb.tdiv (cw_gd sa sb)) ∧ cw_rf A27 M M') := by
  obtain ⟨a0, a1⟩ := id ha
  obtain ⟨b0, b1⟩ := id hb
  have h4 : IR 4 := by unfold IR; omega
  have h6 : IR 6 := by unfold IR; omega
  have h7 : IR 7 := by unfold IR; omega
  have eda : M 322 a = cw_sg sa := by obtain ⟨_, _, _, _, _, _, h⟩ := hva; exact h
  have s1 := sg_3 sa
  have na : a < 2 ∨ 7 < a := by unfold A27 at ha3; omega
  have nb : b < 2 ∨ 7 < b := by unfold A27 at hb3; omega
  have p3 : ¬ A345 a := by unfold A345; omega
  have p4 : ¬ A345 b := by unfold A345; omega
  have m3 : ∀ s, A345 s → A27 s := fun s h => by unfold A345 at h; unfold A27; omega
  refine cw_C_of (L := [.inr (.inr 319), .inl a, .inl b]) ok_Mo_tells (Nat.le_refl _) (Nat.le_of_ble_eq_true rfl) rfl ?_
  refine k_Mo_tells_0 _ _ _ _ _ _ _ _ ?_
  simp only [↓w_nil, ↓w_cons, ↓w_ald0, ↓w_gf2_2, ↓w_ild1, ↓w_iald, ↓w_ifne, true_and, and_true, true_implies, false_implies, not_true_eq_false, not_false_eq_true, Int.reduceEq, Int.reduceLT, Int.reduceLE, Int.reduceNeg, m_k0, m_k1, m_k2, m_k3, m_k9, m_u01, m_u02, m_u03, m_u09, m_u10, m_u12, m_u13, m_u19, m_u20, m_u21, m_u23, m_u29, m_u30, m_u31, m_u32, m_u39, w_up1, hS.d2, eda]
  repeat refine And.intro (by first | assumption | exact IsW.kt (by assumption) | omega | (unfold in32; omega) | (unfold in64; omega) | exact True.intro | exact Or.inl True.intro | rfl | exact Nat.le_of_ble_eq_true rfl) ?_
  try first | done | assumption | (unfold in32; omega) | (unfold in64; omega)
  refine ⟨fun h => ?_, fun h => ?_⟩
  · have sa0 : sa ≠ 0 := fun q => h (by omega)
    rw [if_neg sa0, if_neg sa0]
    have ea := ab_3 sa
    have eb := ab_3 sb
    refine k_Mo_tells_25 _ _ _ _ _ _ _ _ ?_
    simp only [↓w_nil, ↓w_cons, ↓w_ald0, ↓w_ild1, ↓w_ild2, ↓w_cv2, true_and, and_true, true_implies, false_implies, not_true_eq_false, not_false_eq_true, Int.reduceEq, Int.reduceLT, Int.reduceLE, Int.reduceNeg, w_c80, w_c8I, w_c8L, w_c8R, m_k0, m_k1, m_k2, m_k3, m_k9, m_u01, m_u02, m_u03, m_u09, m_u10, m_u12, m_u13, m_u19, m_u20, m_u21, m_u23, m_u29, m_u30, m_u31, m_u32, m_u39, w_up1]
    repeat refine And.intro (by first | assumption | exact IsW.kt (by assumption) | omega | (unfold in32; omega) | (unfold in64; omega) | exact True.intro | exact Or.inl True.intro | rfl | exact Nat.le_of_ble_eq_true rfl) ?_
    try first | done | assumption | (unfold in32; omega) | (unfold in64; omega)
    refine ⟨_, p_Mo_divides (va := sa.natAbs) (vb := sb.natAbs) hS ha hb p3 p4 hva hvb (by omega) (by omega) (by omega) (by omega) hba hbb, ?_⟩
    rintro q M1 ⟨rfl, g1, f1⟩
    have hS1 := hS.rf f1
    have hD0 : 0 < Nat.gcd sa.natAbs sb.natAbs := Nat.gcd_pos_of_pos_left _ (by omega)
    have hDb : cw_ab ((Nat.gcd sa.natAbs sb.natAbs : Nat) : Int) < 1073741824 ^ 30 := by
      have h : Nat.gcd sa.natAbs sb.natAbs ≤ sa.natAbs := Nat.gcd_le_left _ (by omega)
      have := ab_3 ((Nat.gcd sa.natAbs sb.natAbs : Nat) : Int)
      omega
    have hDl : Nat.gcd sa.natAbs sb.natAbs ≤ sa.natAbs := Nat.gcd_le_left _ (by omega)
    rw [gd_nn]
    generalize Nat.gcd sa.natAbs sb.natAbs = D at *
    refine k_Mo_tells_31 _ _ _ _ _ _ _ _ ?_
    simp only [↓w_nil, ↓w_cons, ↓w_ald0, ↓w_ic, ↓w_ild1, ↓w_cv3, true_and, and_true, true_implies, false_implies, not_true_eq_false, not_false_eq_true, Int.reduceEq, Int.reduceLT, Int.reduceLE, Int.reduceNeg, w_c80, w_c8I, w_c8L, w_c8R, w_tl0, m_k0, m_k1, m_k2, m_k3, m_k9, m_u01, m_u02, m_u03, m_u09, m_u10, m_u12, m_u13, m_u19, m_u20, m_u21, m_u23, m_u29, m_u30, m_u31, m_u32, m_u39, w_up1]
    repeat refine And.intro (by first | assumption | exact IsW.kt (by assumption) | omega | (unfold in32; omega) | (unfold in64; omega) | exact True.intro | exact Or.inl True.intro | rfl | exact Nat.le_of_ble_eq_true rfl) ?_
    try first | done | assumption | (unfold in32; omega) | (unfold in64; omega)
    refine ⟨_, p_Mo_cuts hS1 h6 ha h4 (by decide) (by omega) (by decide) (by decide) (hva.rf f1 ha p3) g1 hD0 hDb, ?_⟩
    rintro q M2 ⟨rfl, g2, f2⟩
    have hS2 := hS1.rf f2
    refine k_Mo_tells_39 _ _ _ _ _ _ _ _ ?_
    simp only [↓w_nil, ↓w_cons, ↓w_ald0, ↓w_ic, ↓w_ild2, ↓w_cv3, true_and, and_true, true_implies, false_implies, not_true_eq_false, not_false_eq_true, Int.reduceEq, Int.reduceLT, Int.reduceLE, Int.reduceNeg, w_c80, w_c8I, w_c8L, w_c8R, w_tl0, m_k0, m_k1, m_k2, m_k3, m_k9, m_u01, m_u02, m_u03, m_u09, m_u10, m_u12, m_u13, m_u19, m_u20, m_u21, m_u23, m_u29, m_u30, m_u31, m_u32, m_u39, w_up1]
    repeat refine And.intro (by first | assumption | exact IsW.kt (by assumption) | omega | (unfold in32; omega) | (unfold in64; omega) | exact True.intro | exact Or.inl True.intro | rfl | exact Nat.le_of_ble_eq_true rfl) ?_
    try first | done | assumption | (unfold in32; omega) | (unfold in64; omega)
    refine ⟨_, p_Mo_cuts hS2 h7 hb h4 (by decide) (by omega) (by decide) (by decide) ((hvb.rf f1 hb p4).rf f2 hb (by omega)) (g1.rf f2 h4 (by decide)) hD0 hDb, ?_⟩
    rintro q M3 ⟨rfl, g3, f3⟩
    have hS3 := hS2.rf f3
    have g23 := g2.rf f3 h6 (by decide)
    have e6 : M3 322 6 = cw_sg (sa.tdiv D) := by obtain ⟨_, _, _, _, _, _, h⟩ := g23; exact h
    have key : cw_sg (sa.tdiv D) = cw_sg sa := by
      have q1 : cw_ab (sa.tdiv D) = cw_ab sa / D := by rw [ab_tdiv, show cw_ab (D : Int) = D by have := ab_3 (D : Int); omega]
      have q2 : 1 ≤ cw_ab sa / D := by rw [Int.le_ediv_iff_mul_le (by omega)]; omega
      have q3 : sa.tdiv D ≠ 0 := fun q => by rw [q] at q1; have : cw_ab 0 = 0 := rfl; omega
      rw [sg_tdiv q3, show cw_sg (D : Int) = 1 by have := sg_3 (D : Int); omega, Int.mul_one]
    refine k_Mo_tells_47 _ _ _ _ _ _ _ _ ?_
    simp only [↓w_nil, ↓w_cons, ↓w_ald0, ↓w_gf2_2, ↓w_ic, ↓w_iald, ↓w_iret, true_and, and_true, true_implies, false_implies, not_true_eq_false, not_false_eq_true, Int.reduceEq, Int.reduceLT, Int.reduceLE, Int.reduceNeg, w_tl0, m_k0, m_k1, m_k2, m_k3, m_k9, m_u01, m_u02, m_u03, m_u09, m_u10, m_u12, m_u13, m_u19, m_u20, m_u21, m_u23, m_u29, m_u30, m_u31, m_u32, m_u39, w_up1, hS3.d2, e6, key]
    refine ⟨by decide, by decide, ⟨g23, g3, rf_tr (rf_mo f1 m3) (rf_tr (rf_mo f2 fun s h => by unfold A27; omega) (rf_mo f3 fun s h => by unfold A27; omega))⟩⟩
  · have sa0 : sa = 0 := by omega
    subst sa0
    rw [if_pos rfl, if_pos rfl]
    refine k_Mo_tells_9 _ _ _ _ _ _ _ _ ?_
    simp only [↓w_nil, ↓w_cons, ↓w_ald0, ↓w_ic, ↓w_lc, ↓w_cv2, true_and, and_true, true_implies, false_implies, not_true_eq_false, not_false_eq_true, Int.reduceEq, Int.reduceLT, Int.reduceLE, Int.reduceNeg, w_c80, w_c8I, w_c8L, w_c8R, m_k0, m_k1, m_k2, m_k3, m_k9, m_u01, m_u02, m_u03, m_u09, m_u10, m_u12, m_u13, m_u19, m_u20, m_u21, m_u23, m_u29, m_u30, m_u31, m_u32, m_u39, w_up1]
    repeat refine And.intro (by first | assumption | exact IsW.kt (by assumption) | omega | (unfold in32; omega) | (unfold in64; omega) | exact True.intro | exact Or.inl True.intro | rfl | exact Nat.le_of_ble_eq_true rfl) ?_
    try first | done | assumption | (unfold in32; omega) | (unfold in64; omega)
    refine ⟨_, p_Mo_sets hS h6 (by decide), ?_⟩
    rintro q M1 ⟨rfl, g1, f1⟩
    have hS1 := hS.rf f1
    refine k_Mo_tells_16 _ _ _ _ _ _ _ _ ?_
    simp only [↓w_nil, ↓w_cons, ↓w_ald0, ↓w_ic, ↓w_lc, ↓w_cv2, true_and, and_true, true_implies, false_implies, not_true_eq_false, not_false_eq_true, Int.reduceEq, Int.reduceLT, Int.reduceLE, Int.reduceNeg, w_c80, w_c8I, w_c8L, w_c8R, w_tl0, m_k0, m_k1, m_k2, m_k3, m_k9, m_u01, m_u02, m_u03, m_u09, m_u10, m_u12, m_u13, m_u19, m_u20, m_u21, m_u23, m_u29, m_u30, m_u31, m_u32, m_u39, w_up1]
    repeat refine And.intro (by first | assumption | exact IsW.kt (by assumption) | omega | (unfold in32; omega) | (unfold in64; omega) | exact True.intro | exact Or.inl True.intro | rfl | exact Nat.le_of_ble_eq_true rfl) ?_
    try first | done | assumption | (unfold in32; omega) | (unfold in64; omega)
    refine ⟨_, p_Mo_sets hS1 h7 (by decide), ?_⟩
    rintro q M2 ⟨rfl, g2, f2⟩
    refine k_Mo_tells_23 _ _ _ _ _ _ _ _ ?_
    simp only [↓w_nil, ↓w_cons, ↓w_ic, ↓w_iret, true_and, and_true, true_implies, false_implies, not_true_eq_false, not_false_eq_true, Int.reduceEq, Int.reduceLT, Int.reduceLE, Int.reduceNeg, w_tl0]
    exact ⟨rfl, g1.rf f2 h6 (by decide), g2, rf_tr (rf_mo f1 fun s h => by unfold A27; omega) (rf_mo f2 fun s h => by unfold A27; omega)⟩
