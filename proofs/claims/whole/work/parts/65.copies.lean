/-! a state copied into another; by program (wip/whole/gen65.py) -/
def RelM (s : Int) (f : Int → Int) (M : cw_M) : Prop :=
  (M (s + 1) 0 = f 0 ∧ M (s + 1) 8 = f 1 ∧ M (s + 1) 6 = f 3) ∧
  (∀ p i : Int, 0 ≤ p → p < 7 → 0 ≤ i → i < 5 → M (s + 3 + p) i = f (11 + 12 * p + i)) ∧
  (∀ p t : Int, 0 ≤ p → p < 7 → 0 ≤ t → t < 24 → M (s + 11 + p) t = f (100 + 24 * p + t)) ∧
  (∀ p : Int, 0 ≤ p → p < 7 → M (s + 18) p = f (16 + 12 * p)) ∧
  (∀ w p : Int, 0 ≤ w → w < 4 → 0 ≤ p → p < 7 → M (s + 20 + w) p = f (17 + 12 * p + w)) ∧
  (∀ w : Int, 0 ≤ w → w < 4 → M (s + 24) w = f (268 + w)) ∧
  (∀ i : Int, 0 ≤ i → i < 40 → M (s + 25) i = f (272 + i))
theorem cp_ne {M : cw_M} {a0 a n b k : Int} (h : ¬ b = a) : cw_cp M a0 0 a 0 n b k = M b k := by rw [cp_fi, w_sf3 h]
theorem cp_at {M : cw_M} {a0 a n k : Int} (h0 : 0 ≤ k) (h1 : k < n) : cw_cp M a0 0 a 0 n a k = M a0 k := by rw [cp_fi, w_sf1, fi_at h0 h1]
theorem Sh.cp {M : cw_M} (h : Sh M) {a0 a n : Int} {q : Nat × Nat} (hk : cw_kt cw_NX a = q) (h1 : q.1 = 20 ∨ q.1 = 21 ∨ q.1 = 22) : Sh (cw_cp M a0 0 a 0 n) := by
  rw [cp_fi]; exact h.sf (fun k => rs_k hk h1)

theorem IsS.pos {s : Int} (h : IsS s) : 0 < s ∧ s < 100 := by rcases h with rfl | rfl | rfl <;> omega
theorem rs_s1 {s k : Int} (h : IsS s) (hk : k = 0 ∨ k = 6 ∨ k = 8) : cw_rs (s + 1) k = false := by
  rcases h with rfl | rfl | rfl <;> rcases hk with rfl | rfl | rfl <;> decide +kernel

theorem p_Se_copy {g : cw_G} {M : cw_M} {s t : Int} (hS : Sh M) (hs : IsS s) (ht : IsS t) (hd : s + 46 ≤ t ∨ t + 46 ≤ s) :
    mC g y_Se_copy [.inr (.inr (s + 26)), .inr (.inr (t + 26))] M (fun q M' => q = none ∧ M' = cw_cp (cw_cp (cw_cp (cw_up M (s + 26) 0 (M (t + 26) 0)) (t + 27) 0 (s + 27) 0 6) (t + 28) 0 (s + 28) 0 6) (t + 29) 0 (s + 29) 0 6) := by
  have ps := hs.pos
  have pt := ht.pos
  refine cw_C_of (L := [.inr (.inr (s + 26)), .inr (.inr (t + 26))]) ok_Se_copy (Nat.le_refl _) (Nat.le_of_ble_eq_true rfl) rfl ?_
  refine k_Se_copy_0 _ _ _ _ _ _ _ _ ?_
  simp (disch := omega) only [↓w_nil, ↓w_cons, ↓w_ald0, ↓w_ald1, ↓w_gf0_0, ↓w_pfI_0, ↓w_gf2_1, ↓w_ic, ↓w_cp0, ↓w_gf2_2, ↓w_gf2_3, ↓w_cp1, ↓w_vret, true_and, and_true, true_implies, false_implies, not_true_eq_false, not_false_eq_true, Int.reduceEq, Int.reduceLT, Int.reduceLE, Int.reduceNeg, w_c80, w_c8I, w_c8L, w_c8R, w_up1, w_up2, w_up3, s_k26 hs, hS.s26_1 hs, hS.s26_2 hs, hS.s26_3 hs, s_k27 hs, s_k28 hs, s_k29 hs, s_k26 ht, hS.s26_1 ht, hS.s26_2 ht, hS.s26_3 ht, s_k27 ht, s_k28 ht, s_k29 ht, cp_ne]
  repeat refine And.intro (by first | assumption | exact IsW.kt (by assumption) | omega | (unfold in32; omega) | (unfold in64; omega) | exact True.intro | exact Or.inl True.intro | exact Or.inr True.intro | rfl | exact Nat.le_of_ble_eq_true rfl) ?_
  try first | done | assumption | (unfold in32; omega) | (unfold in64; omega)
  all_goals omega

theorem p_Sl_copy {g : cw_G} {M : cw_M} {s t : Int} (hS : Sh M) (hs : IsS s) (ht : IsS t) (hd : s + 46 ≤ t ∨ t + 46 ≤ s) :
    mC g y_Sl_copy [.inr (.inr (s + 30)), .inr (.inr (t + 30))] M (fun q M' => q = none ∧ M' = cw_cp (cw_cp (cw_up M (s + 30) 0 (M (t + 30) 0)) (t + 31) 0 (s + 31) 0 24) (t + 32) 0 (s + 32) 0 24) := by
  have ps := hs.pos
  have pt := ht.pos
  refine cw_C_of (L := [.inr (.inr (s + 30)), .inr (.inr (t + 30))]) ok_Sl_copy (Nat.le_refl _) (Nat.le_of_ble_eq_true rfl) rfl ?_
  refine k_Sl_copy_0 _ _ _ _ _ _ _ _ ?_
  simp (disch := omega) only [↓w_nil, ↓w_cons, ↓w_ald0, ↓w_ald1, ↓w_gf0_0, ↓w_pfI_0, ↓w_gf2_1, ↓w_ic, ↓w_cp0, ↓w_gf2_2, ↓w_vret, true_and, and_true, true_implies, false_implies, not_true_eq_false, not_false_eq_true, Int.reduceEq, Int.reduceLT, Int.reduceLE, Int.reduceNeg, w_c80, w_c8I, w_c8L, w_c8R, w_up1, w_up2, w_up3, s_k30 hs, hS.s30_1 hs, hS.s30_2 hs, s_k31 hs, s_k32 hs, s_k30 ht, hS.s30_1 ht, hS.s30_2 ht, s_k31 ht, s_k32 ht, cp_ne]
  repeat refine And.intro (by first | assumption | exact IsW.kt (by assumption) | omega | (unfold in32; omega) | (unfold in64; omega) | exact True.intro | exact Or.inl True.intro | exact Or.inr True.intro | rfl | exact Nat.le_of_ble_eq_true rfl) ?_
  try first | done | assumption | (unfold in32; omega) | (unfold in64; omega)
  all_goals omega

theorem p_Dr_copy {g : cw_G} {M : cw_M} {s t : Int} (hS : Sh M) (hs : IsS s) (ht : IsS t) (hd : s + 46 ≤ t ∨ t + 46 ≤ s) (hon : M (t + 33) 6 = 0 ∨ M (t + 33) 6 = 1) :
    mC g y_Dr_copy [.inr (.inr (s + 33)), .inr (.inr (t + 33))] M (fun q M' => q = none ∧ M' = cw_up (cw_up (cw_up (cw_up (cw_up (cw_up (cw_up (cw_up (cw_up (M) (s + 33) 0 (M (t + 33) 0)) (s + 33) 1 (M (t + 33) 1)) (s + 33) 2 (M (t + 33) 2)) (s + 33) 3 (M (t + 33) 3)) (s + 33) 4 (M (t + 33) 4)) (s + 33) 5 (M (t + 33) 5)) (s + 33) 6 (M (t + 33) 6)) (s + 33) 7 (M (t + 33) 7)) (s + 33) 8 (M (t + 33) 8)) := by
  have ps := hs.pos
  have pt := ht.pos
  refine cw_C_of (L := [.inr (.inr (s + 33)), .inr (.inr (t + 33))]) ok_Dr_copy (Nat.le_refl _) (Nat.le_of_ble_eq_true rfl) rfl ?_
  refine k_Dr_copy_0 _ _ _ _ _ _ _ _ ?_
  simp (disch := omega) only [↓w_nil, ↓w_cons, ↓w_ald0, ↓w_ald1, ↓w_gf0_0, ↓w_pfI_0, ↓w_gf0_1, ↓w_pfI_1, ↓w_gf0_2, ↓w_pfI_2, ↓w_gf0_3, ↓w_pfI_3, ↓w_gf0_4, ↓w_pfI_4, ↓w_gf1_5, ↓w_pfL_5, ↓w_gf3_6, ↓w_pfZ_6, ↓w_gf0_7, ↓w_pfI_7, ↓w_gf0_8, ↓w_pfI_8, ↓w_vret, true_and, and_true, true_implies, false_implies, not_true_eq_false, not_false_eq_true, Int.reduceEq, Int.reduceLT, Int.reduceLE, Int.reduceNeg, w_up1, w_up2, w_up3, s_k33 hs, s_k33 ht, cp_ne]
  repeat refine And.intro (by first | assumption | exact IsW.kt (by assumption) | omega | (unfold in32; omega) | (unfold in64; omega) | exact True.intro | exact Or.inl True.intro | exact Or.inr True.intro | rfl | exact Nat.le_of_ble_eq_true rfl) ?_
  try first | done | assumption | (unfold in32; omega) | (unfold in64; omega)
  all_goals omega

theorem p_Bo_copy {g : cw_G} {M : cw_M} {s t : Int} {f : Int → Int} (hS : Sh M) (hs : IsS s) (ht : IsS t) (hd : s + 46 ≤ t ∨ t + 46 ≤ s) (hf : ∀ a b : Int, 0 ≤ a → a < 4 → 0 ≤ b → b < 4 → M (t + 40 + a) b = f (386 + 4 * a + b)) :
    mC g y_Bo_copy [.inr (.inr (s + 34)), .inr (.inr (t + 34))] M (fun q M' => q = none ∧ Sh M' ∧ (∀ a : Int, ¬ (s + 34 < a ∧ a < s + 44) → M' a = M a) ∧ (∀ b : Int, 0 ≤ b → b < 4 → M' (s + 35) b = M (t + 35) b ∧ M' (s + 36) b = M (t + 36) b ∧ M' (s + 37) b = M (t + 37) b ∧ M' (s + 38) b = M (t + 38) b) ∧ ∀ a b : Int, 0 ≤ a → a < 4 → 0 ≤ b → b < 4 → M' (s + 40 + a) b = f (386 + 4 * a + b)) := by
  have ps := hs.pos
  have pt := ht.pos
  have loop : ∀ (d : Nat) (i : Int) (M1 : cw_M), i + d = 4 → 0 ≤ i → Sh M1 → (∀ a : Int, ¬ (s + 34 < a ∧ a < s + 44) → M1 a = M a) → (∀ b : Int, 0 ≤ b → b < 4 → M1 (s + 35) b = M (t + 35) b ∧ M1 (s + 36) b = M (t + 36) b ∧ M1 (s + 37) b = M (t + 37) b ∧ M1 (s + 38) b = M (t + 38) b) → (∀ a b : Int, 0 ≤ a → a < i → 0 ≤ b → b < 4 → M1 (s + 40 + a) b = f (386 + 4 * a + b)) →
      mJ g y_Bo_copy 58 [.inr (.inr (s + 34)), .inr (.inr (t + 34)), .inl i] [] M1 (fun q M' => q = none ∧ Sh M' ∧ (∀ a : Int, ¬ (s + 34 < a ∧ a < s + 44) → M' a = M a) ∧ (∀ b : Int, 0 ≤ b → b < 4 → M' (s + 35) b = M (t + 35) b ∧ M' (s + 36) b = M (t + 36) b ∧ M' (s + 37) b = M (t + 37) b ∧ M' (s + 38) b = M (t + 38) b) ∧ ∀ a b : Int, 0 ≤ a → a < 4 → 0 ≤ b → b < 4 → M' (s + 40 + a) b = f (386 + 4 * a + b)) := by
    intro d
    induction d with
    | zero =>
      intro i M1 hi h0 hS1 hfr hv hj
      have e4 : i = 4 := by omega
      subst e4
      refine cw_J_hide ?_
      refine k_Bo_copy_58 _ _ _ _ _ _ _ _ ?_
      simp (disch := omega) only [↓w_nil, ↓w_cons, ↓w_ild2, ↓w_ic, ↓w_icge, true_and, and_true, true_implies, false_implies, not_true_eq_false, not_false_eq_true, Int.reduceEq, Int.reduceLT, Int.reduceLE, Int.reduceNeg, w_up1, w_up2, w_up3]
      repeat refine And.intro (by first | assumption | exact IsW.kt (by assumption) | omega | (unfold in32; omega) | (unfold in64; omega) | exact True.intro | exact Or.inl True.intro | exact Or.inr True.intro | rfl | exact Nat.le_of_ble_eq_true rfl) ?_
      try first | done | assumption | (unfold in32; omega) | (unfold in64; omega)
      refine k_Bo_copy_87 _ _ _ _ _ _ _ _ ?_
      simp (disch := omega) only [↓w_nil, ↓w_vret, true_and, and_true, true_implies, false_implies, not_true_eq_false, not_false_eq_true, Int.reduceEq, Int.reduceLT, Int.reduceLE, Int.reduceNeg, w_up1, w_up2, w_up3]
      repeat refine And.intro (by first | assumption | exact IsW.kt (by assumption) | omega | (unfold in32; omega) | (unfold in64; omega) | exact True.intro | exact Or.inl True.intro | exact Or.inr True.intro | rfl | exact Nat.le_of_ble_eq_true rfl) ?_
      try first | done | assumption | (unfold in32; omega) | (unfold in64; omega)
      all_goals exact ⟨rfl, hS1, hfr, hv, hj⟩
    | succ d ih =>
      intro i M1 hi h0 hS1 hfr hv hj
      refine k_Bo_copy_58 _ _ _ _ _ _ _ _ ?_
      simp (disch := omega) only [↓w_nil, ↓w_cons, ↓w_ild2, ↓w_ic, ↓w_icge, true_and, and_true, true_implies, false_implies, not_true_eq_false, not_false_eq_true, Int.reduceEq, Int.reduceLT, Int.reduceLE, Int.reduceNeg, w_up1, w_up2, w_up3]
      repeat refine And.intro (by first | assumption | exact IsW.kt (by assumption) | omega | (unfold in32; omega) | (unfold in64; omega) | exact True.intro | exact Or.inl True.intro | exact Or.inr True.intro | rfl | exact Nat.le_of_ble_eq_true rfl) ?_
      try first | done | assumption | (unfold in32; omega) | (unfold in64; omega)
      intro _
      refine k_Bo_copy_63 _ _ _ _ _ _ _ _ ?_
      simp (disch := omega) only [↓w_nil, ↓w_cons, ↓w_ald1, ↓w_gf2_4, ↓w_ild2, ↓w_aald5, ↓w_ic, ↓w_ald0, ↓w_cp0, ↓w_inc2, ↓w_goto, true_and, and_true, true_implies, false_implies, not_true_eq_false, not_false_eq_true, Int.reduceEq, Int.reduceLT, Int.reduceLE, Int.reduceNeg, w_nlI, w_nlL, w_nlR, w_c80, w_c8I, w_c8L, w_c8R, w_up1, w_up2, w_up3, s_k34 hs, hS1.s34_0 hs, hS1.s34_1 hs, hS1.s34_2 hs, hS1.s34_3 hs, hS1.s34_4 hs, hS1.s34_5 hs, hS1.s34_6 hs, s_k39 hs, hS1.sa39 hs, s_a39 hs, s_k34 ht, hS1.s34_0 ht, hS1.s34_1 ht, hS1.s34_2 ht, hS1.s34_3 ht, hS1.s34_4 ht, hS1.s34_5 ht, hS1.s34_6 ht, s_k39 ht, hS1.sa39 ht, s_a39 ht, cp_ne]
      repeat refine And.intro (by first | assumption | exact IsW.kt (by assumption) | omega | (unfold in32; omega) | (unfold in64; omega) | exact True.intro | exact Or.inl True.intro | exact Or.inr True.intro | rfl | exact Nat.le_of_ble_eq_true rfl) ?_
      try first | done | assumption | (unfold in32; omega) | (unfold in64; omega)
      refine ih (i + 1) _ (by omega) (by omega) (hS1.cp (s_a39 hs h0 (by omega)) (by decide)) (fun a ha => ?_) (fun b b0 b1 => ?_) (fun a b a0 a1 b0 b1 => ?_)
      · funext k
        rw [cp_ne (by omega), hfr a ha]
      · rw [cp_ne (by omega), cp_ne (by omega), cp_ne (by omega), cp_ne (by omega)]; exact hv b b0 b1
      · by_cases q : a = i
        · subst q; rw [cp_at b0 b1, hfr _ (by omega)]; exact hf a b a0 (by omega) b0 b1
        · rw [cp_ne (by omega)]; exact hj a b a0 (by omega) b0 b1
  refine cw_C_of (L := [.inr (.inr (s + 34)), .inr (.inr (t + 34)), cU]) ok_Bo_copy (Nat.le_refl _) (Nat.le_of_ble_eq_true rfl) rfl ?_
  refine k_Bo_copy_0 _ _ _ _ _ _ _ _ ?_
  simp (disch := omega) only [↓w_nil, ↓w_cons, ↓w_ald1, ↓w_gf2_0, ↓w_ic, ↓w_ald0, ↓w_cp1, ↓w_gf2_1, ↓w_cp0, ↓w_gf2_2, ↓w_gf2_3, ↓w_ist2, ↓w_fall, true_and, and_true, true_implies, false_implies, not_true_eq_false, not_false_eq_true, Int.reduceEq, Int.reduceLT, Int.reduceLE, Int.reduceNeg, w_nlI, w_nlL, w_nlR, w_c80, w_c8I, w_c8L, w_c8R, w_up1, w_up2, w_up3, s_k34 hs, hS.s34_0 hs, hS.s34_1 hs, hS.s34_2 hs, hS.s34_3 hs, hS.s34_4 hs, hS.s34_5 hs, hS.s34_6 hs, s_k35 hs, s_k36 hs, s_k37 hs, s_k38 hs, s_k34 ht, hS.s34_0 ht, hS.s34_1 ht, hS.s34_2 ht, hS.s34_3 ht, hS.s34_4 ht, hS.s34_5 ht, hS.s34_6 ht, s_k35 ht, s_k36 ht, s_k37 ht, s_k38 ht, cp_ne]
  repeat refine And.intro (by first | assumption | exact IsW.kt (by assumption) | omega | (unfold in32; omega) | (unfold in64; omega) | exact True.intro | exact Or.inl True.intro | exact Or.inr True.intro | rfl | exact Nat.le_of_ble_eq_true rfl) ?_
  try first | done | assumption | (unfold in32; omega) | (unfold in64; omega)
  refine loop 4 0 _ (by omega) (by omega) ((((hS.cp (s_k35 hs) (by decide)).cp (s_k36 hs) (by decide)).cp (s_k37 hs) (by decide)).cp (s_k38 hs) (by decide)) (fun a ha => ?_) (fun b b0 b1 => ?_) (fun a b a0 a1 b0 b1 => by omega)
  · funext k
    rw [cp_ne (by omega), cp_ne (by omega), cp_ne (by omega), cp_ne (by omega)]
  · refine ⟨?_, ?_, ?_, ?_⟩ <;> simp (disch := omega) only [cp_ne, cp_at]

set_option maxHeartbeats 2000000 in
theorem p_Ma_copy {g : cw_G} {M : cw_M} {s t : Int} {f : Int → Int} (hS : Sh M) (hs : IsS s) (ht : IsS t) (hd : s + 46 ≤ t ∨ t + 46 ≤ s) (hR : RelM t f M) :
    mC g y_Ma_copy [.inr (.inr (s + 1)), .inr (.inr (t + 1))] M (fun q M' => q = none ∧ Sh M' ∧ RelM s f M' ∧ ∀ a : Int, ¬ (s < a ∧ a < s + 26) → M' a = M a) := by
  have ps := hs.pos
  have pt := ht.pos
  obtain ⟨⟨r1, r2, r3⟩, rB, rC, rD, rE, rF, rG⟩ := hR
  have fin : ∀ (M1 : cw_M) (z : cw_V), Sh M1 → (∀ a : Int, ¬ (s < a ∧ a < s + 26) → M1 a = M a) → (M1 (s + 1) 0 = f 0 ∧ M1 (s + 1) 8 = f 1 ∧ M1 (s + 1) 6 = f 3) → (∀ p k : Int, 0 ≤ p → p < 7 → 0 ≤ k → k < 5 → M1 (s + 3 + p) k = f (11 + 12 * p + k)) → (∀ p t : Int, 0 ≤ p → p < 7 → 0 ≤ t → t < 24 → M1 (s + 11 + p) t = f (100 + 24 * p + t)) → (∀ w p : Int, 0 ≤ w → w < 4 → 0 ≤ p → p < 7 → M1 (s + 20 + w) p = f (17 + 12 * p + w)) →
      mJ g y_Ma_copy 107 [.inr (.inr (s + 1)), .inr (.inr (t + 1)), z] [] M1 (fun q M' => q = none ∧ Sh M' ∧ RelM s f M' ∧ ∀ a : Int, ¬ (s < a ∧ a < s + 26) → M' a = M a) := by
    intro M1 z hS1 hfr h1 hB hC hE
    refine cw_J_hide ?_
    refine k_Ma_copy_107 _ _ _ _ _ _ _ _ ?_
    simp (disch := omega) only [↓w_nil, ↓w_cons, ↓w_ald1, ↓w_gf2_3, ↓w_ic, ↓w_ald0, ↓w_cp0, ↓w_gf2_5, ↓w_gf2_7, ↓w_vret, true_and, and_true, true_implies, false_implies, not_true_eq_false, not_false_eq_true, Int.reduceEq, Int.reduceLT, Int.reduceLE, Int.reduceNeg, w_c80, w_c8I, w_c8L, w_c8R, w_up1, w_up2, w_up3, s_k1 hs, hS1.s1_1 hs, hS1.s1_2 hs, hS1.s1_3 hs, hS1.s1_4 hs, hS1.s1_5 hs, hS1.s1_7 hs, s_k2 hs, hS1.sa2 hs, s_a2 hs, s_k10 hs, hS1.sa10 hs, s_a10 hs, s_k18 hs, s_k19 hs, hS1.sa19 hs, s_a19 hs, s_k24 hs, s_k25 hs, s_k1 ht, hS1.s1_1 ht, hS1.s1_2 ht, hS1.s1_3 ht, hS1.s1_4 ht, hS1.s1_5 ht, hS1.s1_7 ht, s_k2 ht, hS1.sa2 ht, s_a2 ht, s_k10 ht, hS1.sa10 ht, s_a10 ht, s_k18 ht, s_k19 ht, hS1.sa19 ht, s_a19 ht, s_k24 ht, s_k25 ht, cp_ne, cp_at]
    repeat refine And.intro (by first | assumption | exact IsW.kt (by assumption) | omega | (unfold in32; omega) | (unfold in64; omega) | exact True.intro | exact Or.inl True.intro | exact Or.inr True.intro | rfl | exact Nat.le_of_ble_eq_true rfl) ?_
    try first | done | assumption | (unfold in32; omega) | (unfold in64; omega)
    try unfold cw_hide
    refine ⟨((hS1.cp (s_k18 hs) (by decide)).cp (s_k24 hs) (by decide)).cp (s_k25 hs) (by decide), ⟨?_, ?_, ?_, ?_, ?_, ?_, ?_⟩, fun a ha => ?_⟩
    · rw [cp_ne (by omega), cp_ne (by omega), cp_ne (by omega), cp_ne (by omega), cp_ne (by omega), cp_ne (by omega), cp_ne (by omega), cp_ne (by omega), cp_ne (by omega)]; exact h1
    · intro p i p0 p1 i0 i1; rw [cp_ne (by omega), cp_ne (by omega), cp_ne (by omega)]; exact hB p i p0 p1 i0 i1
    · intro p i p0 p1 i0 i1; rw [cp_ne (by omega), cp_ne (by omega), cp_ne (by omega)]; exact hC p i p0 p1 i0 i1
    · intro p p0 p1; rw [cp_ne (by omega), cp_ne (by omega), cp_at p0 p1, hfr _ (by omega)]; exact rD p p0 p1
    · intro w p p0 p1 i0 i1; rw [cp_ne (by omega), cp_ne (by omega), cp_ne (by omega)]; exact hE w p p0 p1 i0 i1
    · intro p p0 p1; rw [cp_ne (by omega), cp_at p0 p1, cp_ne (by omega), hfr _ (by omega)]; exact rF p p0 p1
    · intro p p0 p1; rw [cp_at p0 p1, cp_ne (by omega), cp_ne (by omega), hfr _ (by omega)]; exact rG p p0 p1
    · funext k
      rw [cp_ne (by omega), cp_ne (by omega), cp_ne (by omega), hfr a ha]
  have l2 : ∀ (d : Nat) (i : Int) (M1 : cw_M), i + d = 4 → 0 ≤ i → Sh M1 → (∀ a : Int, ¬ (s < a ∧ a < s + 26) → M1 a = M a) → (M1 (s + 1) 0 = f 0 ∧ M1 (s + 1) 8 = f 1 ∧ M1 (s + 1) 6 = f 3) → (∀ p k : Int, 0 ≤ p → p < 7 → 0 ≤ k → k < 5 → M1 (s + 3 + p) k = f (11 + 12 * p + k)) → (∀ p t : Int, 0 ≤ p → p < 7 → 0 ≤ t → t < 24 → M1 (s + 11 + p) t = f (100 + 24 * p + t)) → (∀ w p : Int, 0 ≤ w → w < i → 0 ≤ p → p < 7 → M1 (s + 20 + w) p = f (17 + 12 * p + w)) →
      mJ g y_Ma_copy 77 [.inr (.inr (s + 1)), .inr (.inr (t + 1)), .inl i] [] M1 (fun q M' => q = none ∧ Sh M' ∧ RelM s f M' ∧ ∀ a : Int, ¬ (s < a ∧ a < s + 26) → M' a = M a) := by
    intro d
    induction d with
    | zero =>
      intro i M1 hi h0 hS1 hfr h1 hB hC hE
      have e4 : i = 4 := by omega
      subst e4
      refine k_Ma_copy_77 _ _ _ _ _ _ _ _ ?_
      simp (disch := omega) only [↓w_nil, ↓w_cons, ↓w_ild2, ↓w_ic, ↓w_icge, true_and, and_true, true_implies, false_implies, not_true_eq_false, not_false_eq_true, Int.reduceEq, Int.reduceLT, Int.reduceLE, Int.reduceNeg, w_up1, w_up2, w_up3]
      repeat refine And.intro (by first | assumption | exact IsW.kt (by assumption) | omega | (unfold in32; omega) | (unfold in64; omega) | exact True.intro | exact Or.inl True.intro | exact Or.inr True.intro | rfl | exact Nat.le_of_ble_eq_true rfl) ?_
      try first | done | assumption | (unfold in32; omega) | (unfold in64; omega)
      exact fin M1 _ hS1 hfr h1 hB hC hE
    | succ d ih =>
      intro i M1 hi h0 hS1 hfr h1 hB hC hE
      refine k_Ma_copy_77 _ _ _ _ _ _ _ _ ?_
      simp (disch := omega) only [↓w_nil, ↓w_cons, ↓w_ild2, ↓w_ic, ↓w_icge, true_and, and_true, true_implies, false_implies, not_true_eq_false, not_false_eq_true, Int.reduceEq, Int.reduceLT, Int.reduceLE, Int.reduceNeg, w_up1, w_up2, w_up3]
      repeat refine And.intro (by first | assumption | exact IsW.kt (by assumption) | omega | (unfold in32; omega) | (unfold in64; omega) | exact True.intro | exact Or.inl True.intro | exact Or.inr True.intro | rfl | exact Nat.le_of_ble_eq_true rfl) ?_
      try first | done | assumption | (unfold in32; omega) | (unfold in64; omega)
      intro _
      refine k_Ma_copy_82 _ _ _ _ _ _ _ _ ?_
      simp (disch := omega) only [↓w_nil, ↓w_cons, ↓w_ald1, ↓w_gf2_4, ↓w_ild2, ↓w_aald5, ↓w_ic, ↓w_ald0, ↓w_cp0, ↓w_inc2, ↓w_goto, true_and, and_true, true_implies, false_implies, not_true_eq_false, not_false_eq_true, Int.reduceEq, Int.reduceLT, Int.reduceLE, Int.reduceNeg, w_nlI, w_nlL, w_nlR, w_c80, w_c8I, w_c8L, w_c8R, w_up1, w_up2, w_up3, s_k1 hs, hS1.s1_1 hs, hS1.s1_2 hs, hS1.s1_3 hs, hS1.s1_4 hs, hS1.s1_5 hs, hS1.s1_7 hs, s_k2 hs, hS1.sa2 hs, s_a2 hs, s_k10 hs, hS1.sa10 hs, s_a10 hs, s_k18 hs, s_k19 hs, hS1.sa19 hs, s_a19 hs, s_k24 hs, s_k25 hs, s_k1 ht, hS1.s1_1 ht, hS1.s1_2 ht, hS1.s1_3 ht, hS1.s1_4 ht, hS1.s1_5 ht, hS1.s1_7 ht, s_k2 ht, hS1.sa2 ht, s_a2 ht, s_k10 ht, hS1.sa10 ht, s_a10 ht, s_k18 ht, s_k19 ht, hS1.sa19 ht, s_a19 ht, s_k24 ht, s_k25 ht, cp_ne, cp_at]
      repeat refine And.intro (by first | assumption | exact IsW.kt (by assumption) | omega | (unfold in32; omega) | (unfold in64; omega) | exact True.intro | exact Or.inl True.intro | exact Or.inr True.intro | rfl | exact Nat.le_of_ble_eq_true rfl) ?_
      try first | done | assumption | (unfold in32; omega) | (unfold in64; omega)
      refine ih (i + 1) _ (by omega) (by omega) (hS1.cp (s_a19 hs h0 (by omega)) (by decide)) (fun a ha => ?_) ?_ ?_ ?_ ?_
      · funext k; rw [cp_ne (by omega), hfr a ha]
      · rw [cp_ne (by omega), cp_ne (by omega), cp_ne (by omega)]; exact h1
      · intro p i p0 p1 i0 i1; rw [cp_ne (by omega)]; exact hB p i p0 p1 i0 i1
      · intro p i p0 p1 i0 i1; rw [cp_ne (by omega)]; exact hC p i p0 p1 i0 i1
      · intro w p p0 p1 i0 i1
        by_cases q : w = i
        · subst q; rw [cp_at i0 i1, hfr _ (by omega)]; exact rE w p p0 (by omega) i0 i1
        · rw [cp_ne (by omega)]; exact hE w p p0 (by omega) i0 i1
  have l1 : ∀ (d : Nat) (i : Int) (M1 : cw_M), i + d = 7 → 0 ≤ i → Sh M1 → (∀ a : Int, ¬ (s < a ∧ a < s + 26) → M1 a = M a) → (M1 (s + 1) 0 = f 0 ∧ M1 (s + 1) 8 = f 1 ∧ M1 (s + 1) 6 = f 3) → (∀ p k : Int, 0 ≤ p → p < i → 0 ≤ k → k < 5 → M1 (s + 3 + p) k = f (11 + 12 * p + k)) → (∀ p t : Int, 0 ≤ p → p < i → 0 ≤ t → t < 24 → M1 (s + 11 + p) t = f (100 + 24 * p + t)) →
      mJ g y_Ma_copy 26 [.inr (.inr (s + 1)), .inr (.inr (t + 1)), .inl i] [] M1 (fun q M' => q = none ∧ Sh M' ∧ RelM s f M' ∧ ∀ a : Int, ¬ (s < a ∧ a < s + 26) → M' a = M a) := by
    intro d
    induction d with
    | zero =>
      intro i M1 hi h0 hS1 hfr h1 hB hC
      have e4 : i = 7 := by omega
      subst e4
      refine k_Ma_copy_26 _ _ _ _ _ _ _ _ ?_
      simp (disch := omega) only [↓w_nil, ↓w_cons, ↓w_ild2, ↓w_ic, ↓w_icge, true_and, and_true, true_implies, false_implies, not_true_eq_false, not_false_eq_true, Int.reduceEq, Int.reduceLT, Int.reduceLE, Int.reduceNeg, w_up1, w_up2, w_up3]
      repeat refine And.intro (by first | assumption | exact IsW.kt (by assumption) | omega | (unfold in32; omega) | (unfold in64; omega) | exact True.intro | exact Or.inl True.intro | exact Or.inr True.intro | rfl | exact Nat.le_of_ble_eq_true rfl) ?_
      try first | done | assumption | (unfold in32; omega) | (unfold in64; omega)
      refine k_Ma_copy_75 _ _ _ _ _ _ _ _ ?_
      simp (disch := omega) only [↓w_nil, ↓w_cons, ↓w_ic, ↓w_ist2, ↓w_fall, true_and, and_true, true_implies, false_implies, not_true_eq_false, not_false_eq_true, Int.reduceEq, Int.reduceLT, Int.reduceLE, Int.reduceNeg, w_nlI, w_nlL, w_nlR, w_up1, w_up2, w_up3]
      exact l2 4 0 M1 (by omega) (by omega) hS1 hfr h1 hB hC (fun w p w0 w1 _ _ => by omega)
    | succ d ih =>
      intro i M1 hi h0 hS1 hfr h1 hB hC
      refine k_Ma_copy_26 _ _ _ _ _ _ _ _ ?_
      simp (disch := omega) only [↓w_nil, ↓w_cons, ↓w_ild2, ↓w_ic, ↓w_icge, true_and, and_true, true_implies, false_implies, not_true_eq_false, not_false_eq_true, Int.reduceEq, Int.reduceLT, Int.reduceLE, Int.reduceNeg, w_up1, w_up2, w_up3]
      repeat refine And.intro (by first | assumption | exact IsW.kt (by assumption) | omega | (unfold in32; omega) | (unfold in64; omega) | exact True.intro | exact Or.inl True.intro | exact Or.inr True.intro | rfl | exact Nat.le_of_ble_eq_true rfl) ?_
      try first | done | assumption | (unfold in32; omega) | (unfold in64; omega)
      intro _
      refine k_Ma_copy_32 _ _ _ _ _ _ _ _ ?_
      simp (disch := omega) only [↓w_nil, ↓w_cons, ↓w_ald1, ↓w_gf2_1, ↓w_ild2, ↓w_aald5, ↓w_ic, ↓w_ald0, ↓w_cp0, ↓w_gf2_2, ↓w_inc2, ↓w_goto, true_and, and_true, true_implies, false_implies, not_true_eq_false, not_false_eq_true, Int.reduceEq, Int.reduceLT, Int.reduceLE, Int.reduceNeg, w_nlI, w_nlL, w_nlR, w_c80, w_c8I, w_c8L, w_c8R, w_up1, w_up2, w_up3, s_k1 hs, hS1.s1_1 hs, hS1.s1_2 hs, hS1.s1_3 hs, hS1.s1_4 hs, hS1.s1_5 hs, hS1.s1_7 hs, s_k2 hs, hS1.sa2 hs, s_a2 hs, s_k10 hs, hS1.sa10 hs, s_a10 hs, s_k18 hs, s_k19 hs, hS1.sa19 hs, s_a19 hs, s_k24 hs, s_k25 hs, s_k1 ht, hS1.s1_1 ht, hS1.s1_2 ht, hS1.s1_3 ht, hS1.s1_4 ht, hS1.s1_5 ht, hS1.s1_7 ht, s_k2 ht, hS1.sa2 ht, s_a2 ht, s_k10 ht, hS1.sa10 ht, s_a10 ht, s_k18 ht, s_k19 ht, hS1.sa19 ht, s_a19 ht, s_k24 ht, s_k25 ht, cp_ne, cp_at]
      repeat refine And.intro (by first | assumption | exact IsW.kt (by assumption) | omega | (unfold in32; omega) | (unfold in64; omega) | exact True.intro | exact Or.inl True.intro | exact Or.inr True.intro | rfl | exact Nat.le_of_ble_eq_true rfl) ?_
      try first | done | assumption | (unfold in32; omega) | (unfold in64; omega)
      refine ih (i + 1) _ (by omega) (by omega) ((hS1.cp (s_a2 hs h0 (by omega)) (by decide)).cp (s_a10 hs h0 (by omega)) (by decide)) (fun a ha => ?_) ?_ ?_ ?_
      · funext k; rw [cp_ne (by omega), cp_ne (by omega), hfr a ha]
      · rw [cp_ne (by omega), cp_ne (by omega), cp_ne (by omega), cp_ne (by omega), cp_ne (by omega), cp_ne (by omega)]; exact h1
      · intro p k p0 p1 i0 i1
        rw [cp_ne (by omega)]
        by_cases q : p = i
        · subst q; rw [cp_at i0 i1, hfr _ (by omega)]; exact rB p k p0 (by omega) i0 i1
        · rw [cp_ne (by omega)]; exact hB p k p0 (by omega) i0 i1
      · intro p k p0 p1 i0 i1
        by_cases q : p = i
        · subst q; rw [cp_at i0 i1, cp_ne (by omega), hfr _ (by omega)]; exact rC p k p0 (by omega) i0 i1
        · rw [cp_ne (by omega), cp_ne (by omega)]; exact hC p k p0 (by omega) i0 i1
  refine cw_C_of (L := [.inr (.inr (s + 1)), .inr (.inr (t + 1)), cU]) ok_Ma_copy (Nat.le_refl _) (Nat.le_of_ble_eq_true rfl) rfl ?_
  refine k_Ma_copy_0 _ _ _ _ _ _ _ _ ?_
  simp (disch := omega) only [↓w_nil, ↓w_cons, ↓w_ald0, ↓w_ald1, ↓w_gf0_0, ↓w_pfI_0, ↓w_gf0_6, ↓w_pfI_6, ↓w_gf0_8, ↓w_pfI_8, ↓w_ic, ↓w_ist2, ↓w_fall, true_and, and_true, true_implies, false_implies, not_true_eq_false, not_false_eq_true, Int.reduceEq, Int.reduceLT, Int.reduceLE, Int.reduceNeg, w_nlI, w_nlL, w_nlR, w_up1, w_up2, w_up3, s_k1 hs, hS.s1_1 hs, hS.s1_2 hs, hS.s1_3 hs, hS.s1_4 hs, hS.s1_5 hs, hS.s1_7 hs, s_k2 hs, hS.sa2 hs, s_a2 hs, s_k10 hs, hS.sa10 hs, s_a10 hs, s_k18 hs, s_k19 hs, hS.sa19 hs, s_a19 hs, s_k24 hs, s_k25 hs, s_k1 ht, hS.s1_1 ht, hS.s1_2 ht, hS.s1_3 ht, hS.s1_4 ht, hS.s1_5 ht, hS.s1_7 ht, s_k2 ht, hS.sa2 ht, s_a2 ht, s_k10 ht, hS.sa10 ht, s_a10 ht, s_k18 ht, s_k19 ht, hS.sa19 ht, s_a19 ht, s_k24 ht, s_k25 ht, cp_ne, cp_at]
  repeat refine And.intro (by first | assumption | exact IsW.kt (by assumption) | omega | (unfold in32; omega) | (unfold in64; omega) | exact True.intro | exact Or.inl True.intro | exact Or.inr True.intro | rfl | exact Nat.le_of_ble_eq_true rfl) ?_
  try first | done | assumption | (unfold in32; omega) | (unfold in64; omega)
  refine l1 7 0 _ (by omega) (by omega) (((hS.up (rs_s1 hs (Or.inl rfl))).up (rs_s1 hs (Or.inr (Or.inl rfl)))).up (rs_s1 hs (Or.inr (Or.inr rfl)))) (fun a ha => ?_) ?_ (fun p i p0 p1 _ _ => by omega) (fun p i p0 p1 _ _ => by omega)
  · rw [cw_up_ne (by omega), cw_up_ne (by omega), cw_up_ne (by omega)]
  · simp (disch := omega) only [w_up1, w_up2, w_up3]
    exact ⟨r1, r2, r3⟩
