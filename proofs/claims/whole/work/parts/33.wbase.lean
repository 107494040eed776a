/-! a whole number in a cell; what is seen of it -/
theorem cw_C_mono {g : cw_G} {y : cw_Y} {args : List cw_V} {M : cw_M} {nx n1 : Nat} {P P' : Option cw_V → cw_M → Prop} (h : cw_C g y args M nx n1 P) (hp : ∀ r M', P r M' → P' r M') : cw_C g y args M nx n1 P' := by
  refine ⟨h.1, MetFree.mono h.2 (fun _ _ q => q) (fun _ _ _ _ _ q => q) (fun a s o t _ q => ?_)⟩
  obtain ⟨⟨⟨r, M', h1, h2, h3⟩, h4⟩, h5⟩ := q
  exact ⟨⟨⟨r, M', h1, hp r M' h2, h3⟩, h4⟩, h5⟩
theorem and30 (a : Int) : cw_and64 a 1073741823 = a % 1073741824 := by
  unfold cw_and64
  show ((BitVec.ofInt 64 a) &&& (BitVec.ofInt 64 1073741823)).toInt = _
  have h1 : ((BitVec.ofInt 64 a) &&& (BitVec.ofInt 64 1073741823)).toNat = (a % 18446744073709551616).toNat % 2 ^ 30 := by
    rw [BitVec.toNat_and, BitVec.toNat_ofInt]
    have e : (BitVec.ofInt 64 1073741823).toNat = 2 ^ 30 - 1 := by decide
    rw [e, Nat.and_two_pow_sub_one_eq_mod]
    rfl
  rw [BitVec.toInt_eq_toNat_of_lt (by rw [h1]; omega), h1]
  omega
def cw_sg (v : Int) : Int := if v = 0 then 0 else if 0 < v then 1 else -1
def RW (M : cw_M) (w v : Int) : Prop := ∃ n : Nat, n ≤ 16 ∧ M w 1 = n ∧ cw_dg (M (w + 1)) n ∧ (0 < n → M (w + 1) ((n : Int) - 1) ≠ 0) ∧ cw_mg (M (w + 1)) n = cw_ab v ∧ M w 2 = cw_sg v
def Aw (w : Int) : Int → Prop := fun a => a = w ∨ a = w + 1
theorem RW.fr {A : Int → Prop} {M M' : cw_M} {w v : Int} (h : RW M w v) (hf : cw_fr A M M') (h1 : ¬ A w) (h2 : ¬ A (w + 1)) : RW M' w v := by
  unfold RW
  rw [hf.1 _ h1, hf.1 _ h2]
  exact h
theorem ab_nn (v : Int) : 0 ≤ cw_ab v := by unfold cw_ab; split <;> omega
theorem ab_mul (a b : Int) : cw_ab (a * b) = cw_ab a * cw_ab b := by
  have e : ∀ x : Int, cw_ab x = (x.natAbs : Int) := fun x => by unfold cw_ab; split <;> omega
  rw [e, e, e, Int.natAbs_mul, Int.natCast_mul]
theorem sg_mul (a b : Int) : cw_sg (a * b) = cw_sg a * cw_sg b := by
  unfold cw_sg
  by_cases ha : a = 0
  · subst ha; simp
  by_cases hb : b = 0
  · subst hb; simp
  rw [if_neg (Int.mul_ne_zero ha hb), if_neg ha, if_neg hb]
  by_cases h1 : 0 < a <;> by_cases h2 : 0 < b
  · rw [if_pos h1, if_pos h2, if_pos (Int.mul_pos h1 h2)]; rfl
  · rw [if_pos h1, if_neg h2, if_neg (by have := Int.mul_neg_of_pos_of_neg h1 (show b < 0 by omega); omega)]; rfl
  · rw [if_neg h1, if_pos h2, if_neg (by have := Int.mul_neg_of_neg_of_pos (show a < 0 by omega) h2; omega)]; rfl
  · rw [if_neg h1, if_neg h2, if_pos (Int.mul_pos_of_neg_of_neg (show a < 0 by omega) (show b < 0 by omega))]; rfl
/-- how many limbs -/
theorem RW.lt {M : cw_M} {w v : Int} {n : Nat} (h1 : cw_dg (M (w + 1)) n) (h3 : cw_mg (M (w + 1)) n = cw_ab v) : cw_ab v < 1073741824 ^ n := by
  rw [← h3]; exact (mg_lt n h1).2
theorem RW.ge {M : cw_M} {w v : Int} {n : Nat} (h1 : cw_dg (M (w + 1)) (n + 1)) (h2 : M (w + 1) (((n + 1 : Nat) : Int) - 1) ≠ 0) (h3 : cw_mg (M (w + 1)) (n + 1) = cw_ab v) : 1073741824 ^ n ≤ cw_ab v := by
  rw [← h3]
  refine mg_ge h1 ?_
  rw [show ((n + 1 : Nat) : Int) - 1 = (n : Int) by omega] at h2
  exact h2
theorem RW.nle {M : cw_M} {w v : Int} {n i : Nat} (h1 : cw_dg (M (w + 1)) n) (h2 : 0 < n → M (w + 1) ((n : Int) - 1) ≠ 0) (h3 : cw_mg (M (w + 1)) n = cw_ab v) (hv : cw_ab v < 1073741824 ^ i) : n ≤ i := by
  cases n with
  | zero => omega
  | succ n =>
    have := RW.ge h1 (h2 (by omega)) h3
    by_cases q : n + 1 ≤ i
    · exact q
    · have := bt_mono (show i ≤ n by omega)
      omega
/-- finish, with what it makes of the limbs -/
theorem p_Wh_finish' {g : cw_G} {M : cw_M} {w s v : Int} {n : Nat} (hS : Sh M) (hw : IsW w) (hn : n ≤ 16) (hd : cw_dg (M (w + 1)) n) (hv : cw_mg (M (w + 1)) n = cw_ab v) (hs : v ≠ 0 → s = cw_sg v) :
    mC g y_Wh_finish [.inr (.inr w), .inl n, .inl s] M (fun r M' => r = none ∧ RW M' w v ∧ cw_fr (fun a => a = w) M M') := by
  refine cw_C_mono (p_Wh_finish hS hw hn hd) ?_
  rintro r M' ⟨rfl, k, h1, h2, h3, rfl⟩
  refine ⟨rfl, ⟨k, by omega, ?_, ?_, ?_, ?_, ?_⟩, fr_up (fr_up fr_rf rfl hw.rs1) rfl hw.rs2⟩
  · rw [w_up2 (by omega), w_up1]
  · rw [cw_up_ne (by omega), cw_up_ne (by omega)]
    exact dg_le hd h1
  · rw [cw_up_ne (by omega), cw_up_ne (by omega)]
    exact h2
  · rw [cw_up_ne (by omega), cw_up_ne (by omega), ← mg_z n h1 h3, hv]
  · rw [w_up1]
    have h0 := mg_z n h1 h3
    by_cases q : k = 0
    · rw [if_pos q]
      subst q
      rw [hv, mg_0] at h0
      have : v = 0 := by unfold cw_ab at h0; split at h0 <;> omega
      rw [this]; rfl
    · rw [if_neg q]
      refine hs fun hv0 => ?_
      have h4 := h2 (by omega)
      obtain ⟨k', rfl⟩ : ∃ k', k = k' + 1 := ⟨k - 1, by omega⟩
      rw [show ((k' + 1 : Nat) : Int) - 1 = (k' : Int) by omega] at h4
      have h5 := mg_ge (dg_le hd h1) h4
      have h6 := bt_pos k'
      rw [h0, hv0] at hv
      have : cw_ab 0 = 0 := rfl
      omega
theorem p_Wh_put {g : cw_G} {M : cw_M} {w v : Int} (hS : Sh M) (hw : IsW w) (hv : -9223372036854775807 ≤ v ∧ v ≤ 9223372036854775807) :
    mC g y_Wh_put [.inr (.inr w), .inr (.inl v)] M (fun r M' => r = none ∧ RW M' w v ∧ cw_fr (Aw w) M M') := by
  obtain ⟨k1, k2, k3, k4⟩ := id hw
  have hl := hw.limb hS
  have hab : 0 ≤ cw_ab v ∧ cw_ab v ≤ 9223372036854775807 := by unfold cw_ab; split <;> omega
  have e0 : ∀ (k x : Int), cw_up M (w + 1) k x w 0 = w + 1 := fun k x => by rw [w_up3 (by omega)]; exact hl
  have e1 : ∀ (k x k' x' : Int), cw_up (cw_up M (w + 1) k x) (w + 1) k' x' w 0 = w + 1 := fun k x k' x' => by rw [w_up3 (by omega)]; exact e0 _ _
  refine cw_C_of (L := [.inr (.inr w), .inr (.inl v), cU, cU, cU]) ok_Wh_put (Nat.le_refl _) (Nat.le_of_ble_eq_true rfl) rfl ?_
  have p30 : (2 : Int) ^ (30 : Int).toNat = 1073741824 := by decide
  have p60 : (2 : Int) ^ (60 : Int).toNat = 1152921504606846976 := by decide
  refine k_Wh_put_0 _ _ _ _ _ _ _ _ ?_
  simp only [↓w_nil, ↓w_cons, ↓w_lld1, ↓w_absJ, ↓w_lst3, ↓w_ald0, ↓w_gf2_0, ↓w_ic, ↓w_lld3, ↓w_lc, ↓w_land, ↓w_last, ↓w_lushr, ↓w_lcge, true_and, and_true, true_implies, false_implies, not_true_eq_false, not_false_eq_true, Int.reduceEq, Int.reduceLT, Int.reduceLE, Int.reduceNeg, w_nlI, w_nlL, w_nlR, w_c80, w_c8I, w_c8L, w_c8R, hl, e0, e1, k2, and30, p30, p60]
  repeat refine And.intro (by first | assumption | exact IsW.kt (by assumption) | omega | (unfold in32; omega) | (unfold in64; omega) | trivial | rfl | exact Nat.le_of_ble_eq_true rfl) ?_
  try first | done | assumption | (unfold in32; omega) | (unfold in64; omega)
  have hfr : ∀ a b c : Int, cw_fr (Aw w) M (cw_up (cw_up (cw_up M (w + 1) 0 a) (w + 1) 1 b) (w + 1) 2 c) := fun a b c => fr_up (fr_up (fr_up fr_rf (Or.inr rfl) (hw.rsl _)) (Or.inr rfl) (hw.rsl _)) (Or.inr rfl) (hw.rsl _)
  generalize hM1 : cw_up (cw_up (cw_up M (w + 1) 0 (cw_ab v % 1073741824)) (w + 1) 1 (cw_ab v / 1073741824 % 1073741824)) (w + 1) 2 (cw_ab v / 1152921504606846976) = M1
  have f1 : cw_fr (Aw w) M M1 := by rw [← hM1]; exact hfr _ _ _
  have g0 : M1 (w + 1) 0 = cw_ab v % 1073741824 := by rw [← hM1, w_up2 (by omega), w_up2 (by omega), w_up1]
  have g1 : M1 (w + 1) 1 = cw_ab v / 1073741824 % 1073741824 := by rw [← hM1, w_up2 (by omega), w_up1]
  have g2 : M1 (w + 1) 2 = cw_ab v / 1152921504606846976 := by rw [← hM1, w_up1]
  have dg : cw_dg (M1 (w + 1)) 3 := by
    intro j hj
    rcases (show j = 0 ∨ j = 1 ∨ j = 2 by omega) with rfl | rfl | rfl
    · show 0 ≤ M1 (w + 1) 0 ∧ M1 (w + 1) 0 < _
      omega
    · show 0 ≤ M1 (w + 1) 1 ∧ M1 (w + 1) 1 < _
      omega
    · show 0 ≤ M1 (w + 1) 2 ∧ M1 (w + 1) 2 < _
      omega
  have mg : cw_mg (M1 (w + 1)) 3 = cw_ab v := by
    show 0 + M1 (w + 1) 0 * 1 + M1 (w + 1) 1 * 1073741824 + M1 (w + 1) 2 * 1152921504606846976 = _
    omega
  have fin : ∀ s : Int, (v ≠ 0 → s = cw_sg v) → mJ g y_Wh_put 53 [.inr (.inr w), .inr (.inl v), cU, .inr (.inl (cw_ab v)), cU] [.inl s, .inl 3, .inr (.inr w)] M1 (fun r M' => r = none ∧ RW M' w v ∧ cw_fr (Aw w) M M') := by
    intro s hs
    refine k_Wh_put_53 _ _ _ _ _ _ _ _ ?_
    simp only [↓w_nil, ↓w_cv2, true_and, and_true, true_implies, false_implies, not_true_eq_false, not_false_eq_true, Int.reduceEq, Int.reduceLT, Int.reduceLE, Int.reduceNeg, w_c80, w_c8I, w_c8L, w_c8R]
    repeat refine And.intro (by first | assumption | exact IsW.kt (by assumption) | omega | (unfold in32; omega) | (unfold in64; omega) | trivial | rfl | exact Nat.le_of_ble_eq_true rfl) ?_
    try first | done | assumption | (unfold in32; omega) | (unfold in64; omega)
    refine ⟨_, p_Wh_finish' (n := 3) (v := v) (hS.fr f1) hw (by omega) dg mg hs, ?_⟩
    rintro r M' ⟨rfl, h1, h2⟩
    refine k_Wh_put_56 _ _ _ _ _ _ _ _ ?_
    simp only [↓w_nil, ↓w_vret, true_and, and_true, true_implies, false_implies, not_true_eq_false, not_false_eq_true, Int.reduceEq, Int.reduceLT, Int.reduceLE, Int.reduceNeg, w_tl0]
    exact ⟨h1, fr_tr f1 (fr_mo h2 fun a h => Or.inl h)⟩
  refine ⟨fun h => ?_, fun h => ?_⟩
  · refine k_Wh_put_52 _ _ _ _ _ _ _ _ ?_
    simp only [↓w_nil, ↓w_cons, ↓w_ic, ↓w_fall, true_and, and_true, true_implies, false_implies, not_true_eq_false, not_false_eq_true, Int.reduceEq, Int.reduceLT, Int.reduceLE, Int.reduceNeg]
    exact fin 1 fun h0 => by unfold cw_sg; rw [if_neg h0, if_pos (by omega)]
  · refine k_Wh_put_48 _ _ _ _ _ _ _ _ ?_
    simp only [↓w_nil, ↓w_cons, ↓w_ic, ↓w_goto, true_and, and_true, true_implies, false_implies, not_true_eq_false, not_false_eq_true, Int.reduceEq, Int.reduceLT, Int.reduceLE, Int.reduceNeg]
    exact fin (-1) fun h0 => by unfold cw_sg; rw [if_neg h0, if_neg (by omega)]
