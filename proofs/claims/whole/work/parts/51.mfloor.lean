/-! floorOf -/
theorem p_Mo_floorOf {g : cw_G} {M : cw_M} {a b sa sb : Int} (hS : Sh M) (ha : IR a) (hb : IR b) (ha0 : a ≠ 0 ∧ a ≠ 14) (hb0 : b ≠ 0 ∧ b ≠ 14) (hva : RM M a sa) (hvb : RM M b sb) (h1 : 0 < sb) (hbb : cw_ab sb < 1073741824 ^ 29) :
    mC g y_Mo_floorOf [.inr (.inr 319), .inl a, .inl b] M (fun q M' => q = some (.inr (.inl (cw_fl sa sb))) ∧ cw_rf (fun s => s = 0 ∨ s = 14) M M') := by
  obtain ⟨a0, a1⟩ := id ha
  obtain ⟨b0, b1⟩ := id hb
  have h0 : IR 0 := by unfold IR; omega
  have loop : ∀ (d : Nat) (low high : Int) (M1 : cw_M) (z : cw_V), high - low < d → -1000000000000 ≤ low → high ≤ 1000000000000 → low ≤ cw_fl sa sb → cw_fl sa sb ≤ high → cw_rf (fun s => s = 0 ∨ s = 14) M M1 →
      mJ g y_Mo_floorOf 9 [.inr (.inr 319), .inl a, .inl b, .inr (.inl low), cU, .inr (.inl high), cU, z, cU] [] M1 (fun q M' => q = some (.inr (.inl (cw_fl sa sb))) ∧ cw_rf (fun s => s = 0 ∨ s = 14) M M') := by
    intro d
    induction d with
    | zero => intro low high M1 z h; omega
    | succ d ih =>
      intro low high M1 z hd hl hh h2 h3 f1
      have hS1 := hS.rf f1
      have hva1 := hva.rf f1 ha (by omega)
      have hvb1 := hvb.rf f1 hb (by omega)
      refine k_Mo_floorOf_9 _ _ _ _ _ _ _ _ ?_
      simp only [↓w_nil, ↓w_cons, ↓w_lld3, ↓w_lld5, ↓w_lcge, true_and, and_true, true_implies, false_implies, not_true_eq_false, not_false_eq_true, Int.reduceEq, Int.reduceLT, Int.reduceLE, Int.reduceNeg]
      repeat refine And.intro (by first | assumption | exact IsW.kt (by assumption) | omega | (unfold in32; omega) | (unfold in64; omega) | trivial | rfl | exact Nat.le_of_ble_eq_true rfl) ?_
      try first | done | assumption | (unfold in32; omega) | (unfold in64; omega)
      refine ⟨fun h => ?_, fun h => ?_⟩
      · refine k_Mo_floorOf_62 _ _ _ _ _ _ _ _ ?_
        simp only [↓w_nil, ↓w_cons, ↓w_lld3, ↓w_lret, true_and, and_true, true_implies, false_implies, not_true_eq_false, not_false_eq_true, Int.reduceEq, Int.reduceLT, Int.reduceLE, Int.reduceNeg]
        rw [show low = cw_fl sa sb by omega]
        exact ⟨rfl, f1⟩
      · have t2 : (high - low + 1).tdiv 2 = (high - low + 1) / 2 := Int.tdiv_eq_ediv_of_nonneg (by omega)
        refine k_Mo_floorOf_16 _ _ _ _ _ _ _ _ ?_
        simp only [↓w_nil, ↓w_cons, ↓w_lld3, ↓w_lld5, ↓w_lsub, ↓w_lc, ↓w_ladd, ↓w_ldiv, ↓w_lst7, ↓w_ald0, ↓w_ic, ↓w_ild2, ↓w_lld7, ↓w_cv3, true_and, and_true, true_implies, false_implies, not_true_eq_false, not_false_eq_true, Int.reduceEq, Int.reduceLT, Int.reduceLE, Int.reduceNeg, w_nlI, w_nlL, w_nlR, w_c80, w_c8I, w_c8L, w_c8R, m_k0, m_k1, m_k2, m_k3, m_k9, m_u01, m_u02, m_u03, m_u09, m_u10, m_u12, m_u13, m_u19, m_u20, m_u21, m_u23, m_u29, m_u30, m_u31, m_u32, m_u39, w_up1, t2]
        repeat refine And.intro (by first | assumption | exact IsW.kt (by assumption) | omega | (unfold in32; omega) | (unfold in64; omega) | trivial | rfl | exact Nat.le_of_ble_eq_true rfl) ?_
        try first | done | assumption | (unfold in32; omega) | (unfold in64; omega)
        have hv : low < low + (high - low + 1) / 2 ∧ low + (high - low + 1) / 2 ≤ high := by omega
        generalize low + (high - low + 1) / 2 = v at *
        refine ⟨_, p_Mo_timesLong hS1 h0 hb hb0.2 hvb1 hbb (by omega) (by omega), ?_⟩
        rintro q M2 ⟨rfl, g2, f2⟩
        have hS2 := hS1.rf f2
        have f12 := rf_tr f1 f2
        refine k_Mo_floorOf_38 _ _ _ _ _ _ _ _ ?_
        simp only [↓w_nil, ↓w_cons, ↓w_ald0, ↓w_ic, ↓w_ild1, ↓w_cv2, true_and, and_true, true_implies, false_implies, not_true_eq_false, not_false_eq_true, Int.reduceEq, Int.reduceLT, Int.reduceLE, Int.reduceNeg, w_c80, w_c8I, w_c8L, w_c8R, w_tl0, m_k0, m_k1, m_k2, m_k3, m_k9, m_u01, m_u02, m_u03, m_u09, m_u10, m_u12, m_u13, m_u19, m_u20, m_u21, m_u23, m_u29, m_u30, m_u31, m_u32, m_u39, w_up1]
        repeat refine And.intro (by first | assumption | exact IsW.kt (by assumption) | omega | (unfold in32; omega) | (unfold in64; omega) | trivial | rfl | exact Nat.le_of_ble_eq_true rfl) ?_
        try first | done | assumption | (unfold in32; omega) | (unfold in64; omega)
        refine ⟨_, p_Mo_compares hS2 h0 ha g2 (hva1.rf f2 ha (by omega)), ?_⟩
        rintro q M3 ⟨rfl, rfl⟩
        have key : v ≤ sa / sb ↔ sb * v ≤ sa := by rw [Int.le_ediv_iff_mul_le h1, Int.mul_comm]
        have c32 : in32 (cw_cm (sb * v) sa) := by unfold in32 cw_cm; split <;> (try split) <;> omega
        have fl : cw_fl sa sb = max (-1000000000000) (min 1000000000000 (sa / sb)) := rfl
        rw [fl] at ih h2 h3
        rw [fl]
        generalize sa / sb = e at *
        generalize sb * v = w at *
        refine k_Mo_floorOf_44 _ _ _ _ _ _ _ _ ?_
        simp only [↓w_nil, ↓w_ifgt, true_and, and_true, true_implies, false_implies, not_true_eq_false, not_false_eq_true, Int.reduceEq, Int.reduceLT, Int.reduceLE, Int.reduceNeg, w_tl1]
        repeat refine And.intro (by first | assumption | exact IsW.kt (by assumption) | omega | (unfold in32; omega) | (unfold in64; omega) | trivial | rfl | exact Nat.le_of_ble_eq_true rfl) ?_
        try first | done | assumption | (unfold in32; omega) | (unfold in64; omega)
        refine ⟨fun hc => ?_, fun hc => ?_⟩
        · have hlt : sa < w := by unfold cw_cm at hc; split at hc <;> (try split at hc) <;> omega
          have hne : ¬ v ≤ e := fun q => by have := key.mp q; omega
          refine k_Mo_floorOf_53 _ _ _ _ _ _ _ _ ?_
          simp only [↓w_nil, ↓w_cons, ↓w_lld7, ↓w_lc, ↓w_lsub, ↓w_lst5, ↓w_fall, true_and, and_true, true_implies, false_implies, not_true_eq_false, not_false_eq_true, Int.reduceEq, Int.reduceLT, Int.reduceLE, Int.reduceNeg, w_nlI, w_nlL, w_nlR]
          refine k_Mo_floorOf_59 _ _ _ _ _ _ _ _ ?_
          simp only [↓w_nil, ↓w_goto, true_and, and_true, true_implies, false_implies, not_true_eq_false, not_false_eq_true, Int.reduceEq, Int.reduceLT, Int.reduceLE, Int.reduceNeg]
          exact ih low (v - 1) M3 _ (by omega) hl (by omega) h2 (by omega) f12
        · have hle : w ≤ sa := by unfold cw_cm at hc; split at hc <;> (try split at hc) <;> omega
          have hne : v ≤ e := key.mpr hle
          refine k_Mo_floorOf_47 _ _ _ _ _ _ _ _ ?_
          simp only [↓w_nil, ↓w_cons, ↓w_lld7, ↓w_lst3, ↓w_goto, true_and, and_true, true_implies, false_implies, not_true_eq_false, not_false_eq_true, Int.reduceEq, Int.reduceLT, Int.reduceLE, Int.reduceNeg, w_nlI, w_nlL, w_nlR]
          refine k_Mo_floorOf_59 _ _ _ _ _ _ _ _ ?_
          simp only [↓w_nil, ↓w_goto, true_and, and_true, true_implies, false_implies, not_true_eq_false, not_false_eq_true, Int.reduceEq, Int.reduceLT, Int.reduceLE, Int.reduceNeg]
          exact ih v high M3 _ (by omega) (by omega) hh (by omega) h3 f12
  refine cw_C_of (L := [.inr (.inr 319), .inl a, .inl b, cU, cU, cU, cU, cU, cU]) ok_Mo_floorOf (Nat.le_refl _) (Nat.le_of_ble_eq_true rfl) rfl ?_
  refine k_Mo_floorOf_0 _ _ _ _ _ _ _ _ ?_
  simp only [↓w_nil, ↓w_cons, ↓w_lc, ↓w_lst3, ↓w_lst5, ↓w_fall, true_and, and_true, true_implies, false_implies, not_true_eq_false, not_false_eq_true, Int.reduceEq, Int.reduceLT, Int.reduceLE, Int.reduceNeg, w_nlI, w_nlL, w_nlR]
  exact loop 2000000000001 (-1000000000000) 1000000000000 M cU (by omega) (by omega) (by omega) (by unfold cw_fl; omega) (by unfold cw_fl; omega) rf_rf
