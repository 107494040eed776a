theorem fc_1 (k : Nat) : ¬ cw_fc 1 k = 2 := by
  rcases (show k = 0 ∨ k = 1 ∨ k = 2 ∨ k = 3 ∨ k = 4 ∨ k = 5 ∨ k = 6 ∨ k = 7 ∨ k = 8 ∨ 9 ≤ k by omega) with rfl | rfl | rfl | rfl | rfl | rfl | rfl | rfl | rfl | h
  · decide
  · decide
  · decide
  · decide
  · decide
  · decide
  · decide
  · decide
  · decide
  · unfold cw_fc
    rw [show cw_ft.getD 1 [] = [0, 0, 0, 0, 0, 1, 3, 0, 0] from rfl, List.getD_eq_getElem?_getD, List.getElem?_eq_none (by show 9 ≤ k; omega)]
    decide
/-! a whole state copied; image and from of the class; by program (wip/whole/gen66.py) -/
set_option maxHeartbeats 2000000 in
theorem p_Sa_copy {g : cw_G} {M : cw_M} {s t : Int} {f fl : Int → Int} (hS : Sh M) (hs : IsS s) (ht : IsS t) (hd : s + 46 ≤ t ∨ t + 46 ≤ s) (hR : RelS t f fl M) (hon : f 366 = 0 ∨ f 366 = 1) :
    mC g y_Sa_copy [.inr (.inr s), .inr (.inr t)] M (fun q M' => q = none ∧ Sh M' ∧ RelS s f fl M' ∧ ∀ a : Int, ¬ (s < a ∧ a < s + 46) → M' a = M a) := by
  have ps := hs.pos
  have pt := ht.pos
  obtain ⟨rA, rB, rC, rD, rE, rF, rG, ⟨h0, h1, h2, h3⟩, ⟨i0, i1, i2, i3⟩, rJ, k1, k2, k3, k4, k5⟩ := hR
  refine cw_C_of (L := [.inr (.inr s), .inr (.inr t)]) ok_Sa_copy (Nat.le_refl _) (Nat.le_of_ble_eq_true rfl) rfl ?_
  refine k_Sa_copy_0 _ _ _ _ _ _ _ _ ?_
  simp (disch := omega) only [↓w_nil, ↓w_cons, ↓w_ald0, ↓w_gf2_0, ↓w_ald1, ↓w_cv1, true_and, and_true, true_implies, false_implies, not_true_eq_false, not_false_eq_true, Int.reduceEq, Int.reduceLT, Int.reduceLE, Int.reduceNeg, w_c80, w_c8I, w_c8L, w_c8R, w_up1, w_up2, w_up3, s_k0 hs, hS.s0_0 hs, hS.s0_1 hs, hS.s0_2 hs, hS.s0_3 hs, hS.s0_4 hs, s_k0 ht, hS.s0_0 ht, hS.s0_1 ht, hS.s0_2 ht, hS.s0_3 ht, hS.s0_4 ht, s_k1 hs, s_k1 ht, s_k26 hs, s_k26 ht, s_k30 hs, s_k30 ht, s_k33 hs, s_k33 ht, s_k34 hs, s_k34 ht]
  repeat refine And.intro (by first | assumption | exact IsW.kt (by assumption) | omega | (unfold in32; omega) | (unfold in64; omega) | exact True.intro | exact Or.inl True.intro | exact Or.inr True.intro | rfl | exact Nat.le_of_ble_eq_true rfl) ?_
  try first | done | assumption | (unfold in32; omega) | (unfold in64; omega)
  refine ⟨_, p_Ma_copy hS hs ht hd ⟨rA, rB, rC, rD, rE, rF, rG⟩, ?_⟩
  rintro q M1 ⟨rfl, hS1, ⟨mA, mB, mC1, mD, mE, mF, mG⟩, f1⟩
  refine k_Sa_copy_11 _ _ _ _ _ _ _ _ ?_
  simp (disch := omega) only [↓w_nil, ↓w_cons, ↓w_ald0, ↓w_gf2_1, ↓w_ald1, ↓w_cv1, true_and, and_true, true_implies, false_implies, not_true_eq_false, not_false_eq_true, Int.reduceEq, Int.reduceLT, Int.reduceLE, Int.reduceNeg, w_c80, w_c8I, w_c8L, w_c8R, w_up1, w_up2, w_up3, w_tl0, s_k0 hs, hS1.s0_0 hs, hS1.s0_1 hs, hS1.s0_2 hs, hS1.s0_3 hs, hS1.s0_4 hs, s_k0 ht, hS1.s0_0 ht, hS1.s0_1 ht, hS1.s0_2 ht, hS1.s0_3 ht, hS1.s0_4 ht, s_k1 hs, s_k1 ht, s_k26 hs, s_k26 ht, s_k30 hs, s_k30 ht, s_k33 hs, s_k33 ht, s_k34 hs, s_k34 ht]
  repeat refine And.intro (by first | assumption | exact IsW.kt (by assumption) | omega | (unfold in32; omega) | (unfold in64; omega) | exact True.intro | exact Or.inl True.intro | exact Or.inr True.intro | rfl | exact Nat.le_of_ble_eq_true rfl) ?_
  try first | done | assumption | (unfold in32; omega) | (unfold in64; omega)
  refine ⟨_, p_Se_copy hS1 hs ht hd, ?_⟩
  rintro q M2 ⟨rfl, rfl⟩
  have hS2 : Sh (cw_cp (cw_cp (cw_cp (cw_up M1 (s + 26) 0 (M1 (t + 26) 0)) (t + 27) 0 (s + 27) 0 6) (t + 28) 0 (s + 28) 0 6) (t + 29) 0 (s + 29) 0 6) := (((hS1.up (by rcases hs with rfl | rfl | rfl <;> decide +kernel)).cp (s_k27 hs) (by decide)).cp (s_k28 hs) (by decide)).cp (s_k29 hs) (by decide)
  have f2 : ∀ a : Int, ¬ (s + 25 < a ∧ a < s + 30) → (cw_cp (cw_cp (cw_cp (cw_up M1 (s + 26) 0 (M1 (t + 26) 0)) (t + 27) 0 (s + 27) 0 6) (t + 28) 0 (s + 28) 0 6) (t + 29) 0 (s + 29) 0 6) a = M1 a := by
    intro a ha; funext k; rw [cp_ne (by omega), cp_ne (by omega), cp_ne (by omega), cw_up_ne (by omega)]
  have e20 : (cw_cp (cw_cp (cw_cp (cw_up M1 (s + 26) 0 (M1 (t + 26) 0)) (t + 27) 0 (s + 27) 0 6) (t + 28) 0 (s + 28) 0 6) (t + 29) 0 (s + 29) 0 6) (s + 26) 0 = f 2 := by
    rw [cp_ne (by omega), cp_ne (by omega), cp_ne (by omega), w_up1, f1 _ (by omega)]; exact h0
  have e21 : ∀ i : Int, 0 ≤ i → i < 6 → (cw_cp (cw_cp (cw_cp (cw_up M1 (s + 26) 0 (M1 (t + 26) 0)) (t + 27) 0 (s + 27) 0 6) (t + 28) 0 (s + 28) 0 6) (t + 29) 0 (s + 29) 0 6) (s + 27) i = f (312 + 2 * i) := by
    intro i j0 j1; rw [cp_ne (by omega), cp_ne (by omega), cp_at j0 j1, cw_up_ne (by omega), f1 _ (by omega)]; exact h1 i j0 j1
  have e22 : ∀ i : Int, 0 ≤ i → i < 6 → (cw_cp (cw_cp (cw_cp (cw_up M1 (s + 26) 0 (M1 (t + 26) 0)) (t + 27) 0 (s + 27) 0 6) (t + 28) 0 (s + 28) 0 6) (t + 29) 0 (s + 29) 0 6) (s + 28) i = f (313 + 2 * i) := by
    intro i j0 j1; rw [cp_ne (by omega), cp_at j0 j1, cp_ne (by omega), cw_up_ne (by omega), f1 _ (by omega)]; exact h2 i j0 j1
  have e23 : ∀ i : Int, 0 ≤ i → i < 6 → (cw_cp (cw_cp (cw_cp (cw_up M1 (s + 26) 0 (M1 (t + 26) 0)) (t + 27) 0 (s + 27) 0 6) (t + 28) 0 (s + 28) 0 6) (t + 29) 0 (s + 29) 0 6) (s + 29) i = fl i := by
    intro i j0 j1; rw [cp_at j0 j1, cp_ne (by omega), cp_ne (by omega), cw_up_ne (by omega), f1 _ (by omega)]; exact h3 i j0 j1
  generalize cw_cp (cw_cp (cw_cp (cw_up M1 (s + 26) 0 (M1 (t + 26) 0)) (t + 27) 0 (s + 27) 0 6) (t + 28) 0 (s + 28) 0 6) (t + 29) 0 (s + 29) 0 6 = M2 at *
  refine k_Sa_copy_22 _ _ _ _ _ _ _ _ ?_
  simp (disch := omega) only [↓w_nil, ↓w_cons, ↓w_ald0, ↓w_gf2_2, ↓w_ald1, ↓w_cv1, true_and, and_true, true_implies, false_implies, not_true_eq_false, not_false_eq_true, Int.reduceEq, Int.reduceLT, Int.reduceLE, Int.reduceNeg, w_c80, w_c8I, w_c8L, w_c8R, w_up1, w_up2, w_up3, w_tl0, s_k0 hs, hS2.s0_0 hs, hS2.s0_1 hs, hS2.s0_2 hs, hS2.s0_3 hs, hS2.s0_4 hs, s_k0 ht, hS2.s0_0 ht, hS2.s0_1 ht, hS2.s0_2 ht, hS2.s0_3 ht, hS2.s0_4 ht, s_k1 hs, s_k1 ht, s_k26 hs, s_k26 ht, s_k30 hs, s_k30 ht, s_k33 hs, s_k33 ht, s_k34 hs, s_k34 ht]
  repeat refine And.intro (by first | assumption | exact IsW.kt (by assumption) | omega | (unfold in32; omega) | (unfold in64; omega) | exact True.intro | exact Or.inl True.intro | exact Or.inr True.intro | rfl | exact Nat.le_of_ble_eq_true rfl) ?_
  try first | done | assumption | (unfold in32; omega) | (unfold in64; omega)
  refine ⟨_, p_Sl_copy hS2 hs ht hd, ?_⟩
  rintro q M3 ⟨rfl, rfl⟩
  have hS3 : Sh (cw_cp (cw_cp (cw_up M2 (s + 30) 0 (M2 (t + 30) 0)) (t + 31) 0 (s + 31) 0 24) (t + 32) 0 (s + 32) 0 24) := ((hS2.up (by rcases hs with rfl | rfl | rfl <;> decide +kernel)).cp (s_k31 hs) (by decide)).cp (s_k32 hs) (by decide)
  have f3 : ∀ a : Int, ¬ (s + 29 < a ∧ a < s + 33) → (cw_cp (cw_cp (cw_up M2 (s + 30) 0 (M2 (t + 30) 0)) (t + 31) 0 (s + 31) 0 24) (t + 32) 0 (s + 32) 0 24) a = M2 a := by
    intro a ha; funext k; rw [cp_ne (by omega), cp_ne (by omega), cw_up_ne (by omega)]
  have e30 : (cw_cp (cw_cp (cw_up M2 (s + 30) 0 (M2 (t + 30) 0)) (t + 31) 0 (s + 31) 0 24) (t + 32) 0 (s + 32) 0 24) (s + 30) 0 = f 4 := by
    rw [cp_ne (by omega), cp_ne (by omega), w_up1, f2 _ (by omega), f1 _ (by omega)]; exact i0
  have e31 : ∀ i : Int, 0 ≤ i → i < 24 → (cw_cp (cw_cp (cw_up M2 (s + 30) 0 (M2 (t + 30) 0)) (t + 31) 0 (s + 31) 0 24) (t + 32) 0 (s + 32) 0 24) (s + 31) i = M (t + 31) i := by
    intro i j0 j1; rw [cp_ne (by omega), cp_at j0 j1, cw_up_ne (by omega), f2 _ (by omega), f1 _ (by omega)]
  have e32 : ∀ i : Int, 0 ≤ i → i < 24 → (cw_cp (cw_cp (cw_up M2 (s + 30) 0 (M2 (t + 30) 0)) (t + 31) 0 (s + 31) 0 24) (t + 32) 0 (s + 32) 0 24) (s + 32) i = M (t + 32) i := by
    intro i j0 j1; rw [cp_at j0 j1, cp_ne (by omega), cw_up_ne (by omega), f2 _ (by omega), f1 _ (by omega)]
  generalize cw_cp (cw_cp (cw_up M2 (s + 30) 0 (M2 (t + 30) 0)) (t + 31) 0 (s + 31) 0 24) (t + 32) 0 (s + 32) 0 24 = M3 at *
  refine k_Sa_copy_33 _ _ _ _ _ _ _ _ ?_
  simp (disch := omega) only [↓w_nil, ↓w_cons, ↓w_ald0, ↓w_gf2_3, ↓w_ald1, ↓w_cv1, true_and, and_true, true_implies, false_implies, not_true_eq_false, not_false_eq_true, Int.reduceEq, Int.reduceLT, Int.reduceLE, Int.reduceNeg, w_c80, w_c8I, w_c8L, w_c8R, w_up1, w_up2, w_up3, w_tl0, s_k0 hs, hS3.s0_0 hs, hS3.s0_1 hs, hS3.s0_2 hs, hS3.s0_3 hs, hS3.s0_4 hs, s_k0 ht, hS3.s0_0 ht, hS3.s0_1 ht, hS3.s0_2 ht, hS3.s0_3 ht, hS3.s0_4 ht, s_k1 hs, s_k1 ht, s_k26 hs, s_k26 ht, s_k30 hs, s_k30 ht, s_k33 hs, s_k33 ht, s_k34 hs, s_k34 ht]
  repeat refine And.intro (by first | assumption | exact IsW.kt (by assumption) | omega | (unfold in32; omega) | (unfold in64; omega) | exact True.intro | exact Or.inl True.intro | exact Or.inr True.intro | rfl | exact Nat.le_of_ble_eq_true rfl) ?_
  try first | done | assumption | (unfold in32; omega) | (unfold in64; omega)
  have hon2 : M3 (t + 33) 6 = 0 ∨ M3 (t + 33) 6 = 1 := by
    rw [f3 _ (by omega), f2 _ (by omega), f1 _ (by omega), rJ 6 (by omega) (by omega)]; exact hon
  refine ⟨_, p_Dr_copy hS3 hs ht hd hon2, ?_⟩
  rintro q M4 ⟨rfl, rfl⟩
  have hS4 : Sh (cw_up (cw_up (cw_up (cw_up (cw_up (cw_up (cw_up (cw_up (cw_up (M3) (s + 33) 0 (M3 (t + 33) 0)) (s + 33) 1 (M3 (t + 33) 1)) (s + 33) 2 (M3 (t + 33) 2)) (s + 33) 3 (M3 (t + 33) 3)) (s + 33) 4 (M3 (t + 33) 4)) (s + 33) 5 (M3 (t + 33) 5)) (s + 33) 6 (M3 (t + 33) 6)) (s + 33) 7 (M3 (t + 33) 7)) (s + 33) 8 (M3 (t + 33) 8)) := by
    have hq : ∀ k : Int, cw_rs (s + 33) k = false := by
      intro k
      unfold cw_rs
      rw [s_k33 hs]
      show (decide (cw_fc 1 k.toNat = 2) && _) = false
      rw [show decide (cw_fc 1 k.toNat = 2) = false from decide_eq_false (fc_1 _)]
      rfl
    exact ((((((((hS3.up (hq _)).up (hq _)).up (hq _)).up (hq _)).up (hq _)).up (hq _)).up (hq _)).up (hq _)).up (hq _)
  have f4 : ∀ a : Int, a ≠ s + 33 → (cw_up (cw_up (cw_up (cw_up (cw_up (cw_up (cw_up (cw_up (cw_up (M3) (s + 33) 0 (M3 (t + 33) 0)) (s + 33) 1 (M3 (t + 33) 1)) (s + 33) 2 (M3 (t + 33) 2)) (s + 33) 3 (M3 (t + 33) 3)) (s + 33) 4 (M3 (t + 33) 4)) (s + 33) 5 (M3 (t + 33) 5)) (s + 33) 6 (M3 (t + 33) 6)) (s + 33) 7 (M3 (t + 33) 7)) (s + 33) 8 (M3 (t + 33) 8)) a = M3 a := by
    intro a ha; rw [cw_up_ne ha, cw_up_ne ha, cw_up_ne ha, cw_up_ne ha, cw_up_ne ha, cw_up_ne ha, cw_up_ne ha, cw_up_ne ha, cw_up_ne ha]
  have e40 : ∀ i : Int, 0 ≤ i → i < 9 → (cw_up (cw_up (cw_up (cw_up (cw_up (cw_up (cw_up (cw_up (cw_up (M3) (s + 33) 0 (M3 (t + 33) 0)) (s + 33) 1 (M3 (t + 33) 1)) (s + 33) 2 (M3 (t + 33) 2)) (s + 33) 3 (M3 (t + 33) 3)) (s + 33) 4 (M3 (t + 33) 4)) (s + 33) 5 (M3 (t + 33) 5)) (s + 33) 6 (M3 (t + 33) 6)) (s + 33) 7 (M3 (t + 33) 7)) (s + 33) 8 (M3 (t + 33) 8)) (s + 33) i = f (360 + i) := by
    intro i j0 j1
    rw [← rJ i j0 j1, ← f1 (t + 33) (by omega), ← f2 (t + 33) (by omega), ← f3 (t + 33) (by omega)]
    rcases (show i = 0 ∨ i = 1 ∨ i = 2 ∨ i = 3 ∨ i = 4 ∨ i = 5 ∨ i = 6 ∨ i = 7 ∨ i = 8 by omega) with rfl | rfl | rfl | rfl | rfl | rfl | rfl | rfl | rfl <;> simp (disch := omega) only [w_up1, w_up2]
  generalize cw_up (cw_up (cw_up (cw_up (cw_up (cw_up (cw_up (cw_up (cw_up (M3) (s + 33) 0 (M3 (t + 33) 0)) (s + 33) 1 (M3 (t + 33) 1)) (s + 33) 2 (M3 (t + 33) 2)) (s + 33) 3 (M3 (t + 33) 3)) (s + 33) 4 (M3 (t + 33) 4)) (s + 33) 5 (M3 (t + 33) 5)) (s + 33) 6 (M3 (t + 33) 6)) (s + 33) 7 (M3 (t + 33) 7)) (s + 33) 8 (M3 (t + 33) 8) = M4 at *
  refine k_Sa_copy_44 _ _ _ _ _ _ _ _ ?_
  simp (disch := omega) only [↓w_nil, ↓w_cons, ↓w_ald0, ↓w_gf2_4, ↓w_ald1, ↓w_cv1, true_and, and_true, true_implies, false_implies, not_true_eq_false, not_false_eq_true, Int.reduceEq, Int.reduceLT, Int.reduceLE, Int.reduceNeg, w_c80, w_c8I, w_c8L, w_c8R, w_up1, w_up2, w_up3, w_tl0, s_k0 hs, hS4.s0_0 hs, hS4.s0_1 hs, hS4.s0_2 hs, hS4.s0_3 hs, hS4.s0_4 hs, s_k0 ht, hS4.s0_0 ht, hS4.s0_1 ht, hS4.s0_2 ht, hS4.s0_3 ht, hS4.s0_4 ht, s_k1 hs, s_k1 ht, s_k26 hs, s_k26 ht, s_k30 hs, s_k30 ht, s_k33 hs, s_k33 ht, s_k34 hs, s_k34 ht]
  repeat refine And.intro (by first | assumption | exact IsW.kt (by assumption) | omega | (unfold in32; omega) | (unfold in64; omega) | exact True.intro | exact Or.inl True.intro | exact Or.inr True.intro | rfl | exact Nat.le_of_ble_eq_true rfl) ?_
  try first | done | assumption | (unfold in32; omega) | (unfold in64; omega)
  refine ⟨_, p_Bo_copy (f := f) hS4 hs ht hd (fun a b a0 a1 b0 b1 => by rw [f4 _ (by omega), f3 _ (by omega), f2 _ (by omega), f1 _ (by omega)]; exact k5 a b a0 a1 b0 b1), ?_⟩
  rintro q M5 ⟨rfl, hS5, f5, e5, e6⟩
  refine cw_J_hide ?_
  refine k_Sa_copy_55 _ _ _ _ _ _ _ _ ?_
  simp (disch := omega) only [↓w_nil, ↓w_vret, true_and, and_true, true_implies, false_implies, not_true_eq_false, not_false_eq_true, Int.reduceEq, Int.reduceLT, Int.reduceLE, Int.reduceNeg, w_up1, w_up2, w_up3, w_tl0]
  repeat refine And.intro (by first | assumption | exact IsW.kt (by assumption) | omega | (unfold in32; omega) | (unfold in64; omega) | exact True.intro | exact Or.inl True.intro | exact Or.inr True.intro | rfl | exact Nat.le_of_ble_eq_true rfl) ?_
  try first | done | assumption | (unfold in32; omega) | (unfold in64; omega)
  try unfold cw_hide
  have all : ∀ a : Int, ¬ (s < a ∧ a < s + 46) → M5 a = M a := fun a ha => by rw [f5 _ (by omega), f4 _ (by omega), f3 _ (by omega), f2 _ (by omega), f1 _ (by omega)]
  have g1 : ∀ a : Int, s < a → a < s + 26 → M5 a = M1 a := fun a ha hb => by rw [f5 _ (by omega), f4 _ (by omega), f3 _ (by omega), f2 _ (by omega)]
  have g2 : ∀ a : Int, s + 25 < a → a < s + 30 → M5 a = M2 a := fun a ha hb => by rw [f5 _ (by omega), f4 _ (by omega), f3 _ (by omega)]
  have g3 : ∀ a : Int, s + 29 < a → a < s + 33 → M5 a = M3 a := fun a ha hb => by rw [f5 _ (by omega), f4 _ (by omega)]
  have g4 : ∀ a : Int, ¬ (s < a ∧ a < s + 46) → M4 a = M a := fun a ha => by rw [f4 _ (by omega), f3 _ (by omega), f2 _ (by omega), f1 _ (by omega)]
  refine ⟨⟨?_, ?_, ?_, ?_, ?_, ?_, ?_, ⟨?_, ?_, ?_, ?_⟩, ⟨?_, ?_, ?_, ?_⟩, ?_, ?_, ?_, ?_, ?_, e6⟩, all⟩
  · rw [g1 _ (by omega) (by omega)]; exact mA
  · intro p i a b c d; rw [g1 _ (by omega) (by omega)]; exact mB p i a b c d
  · intro p i a b c d; rw [g1 _ (by omega) (by omega)]; exact mC1 p i a b c d
  · intro p a b; rw [g1 _ (by omega) (by omega)]; exact mD p a b
  · intro p i a b c d; rw [g1 _ (by omega) (by omega)]; exact mE p i a b c d
  · intro p a b; rw [g1 _ (by omega) (by omega)]; exact mF p a b
  · intro p a b; rw [g1 _ (by omega) (by omega)]; exact mG p a b
  · rw [g2 _ (by omega) (by omega)]; exact e20
  · intro p a b; rw [g2 _ (by omega) (by omega)]; exact e21 p a b
  · intro p a b; rw [g2 _ (by omega) (by omega)]; exact e22 p a b
  · intro p a b; rw [g2 _ (by omega) (by omega)]; exact e23 p a b
  · rw [g3 _ (by omega) (by omega)]; exact e30
  · intro p a b; rw [g3 _ (by omega) (by omega), g3 (s + 31) (by omega) (by omega), e32 p a b, e31 p a b]; exact i1 p a b
  · intro p a b; rw [g3 _ (by omega) (by omega), e32 p a b]; exact i2 p a b
  · intro p a b; rw [g3 _ (by omega) (by omega), e31 p a b]; exact i3 p a b
  · intro p a b; rw [f5 _ (by omega)]; exact e40 p a b
  · intro p a b; rw [(e5 p a b).1, g4 _ (by omega)]; exact k1 p a b
  · intro p a b; rw [(e5 p a b).2.1, g4 _ (by omega)]; exact k2 p a b
  · intro p a b; rw [(e5 p a b).2.2.1, g4 _ (by omega)]; exact k3 p a b
  · intro p a b; rw [(e5 p a b).2.2.2, g4 _ (by omega)]; exact k4 p a b
