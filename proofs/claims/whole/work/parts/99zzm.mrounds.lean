/-! the reference's equations of whole turns -/
def Fpw (M M' : cw_M) : Prop := Sh M' ∧ ∀ a k : Int, ¬ (340 ≤ a ∧ a ≤ 345) → ¬ (a = 319 ∧ (k = 27 ∨ k = 28)) → M' a k = M a k
theorem Fpw.rf {M : cw_M} (h : Sh M) : Fpw M M := ⟨h, fun _ _ _ _ => rfl⟩
theorem Fpw.tr {M M1 M2 : cw_M} (h : Fpw M M1) (k : Fpw M1 M2) : Fpw M M2 := ⟨k.1, fun a b x y => (k.2 a b x y).trans (h.2 a b x y)⟩
theorem fpw_sf {M M1 : cw_M} {a : Int} {F : Int → Int} (h : Fpw M M1) (ha : 340 ≤ a ∧ a ≤ 345) : Fpw M (cw_sf M1 a F) := ⟨h.1.sf (by rcases (show a = 340 ∨ a = 341 ∨ a = 342 ∨ a = 343 ∨ a = 344 ∨ a = 345 by omega) with rfl | rfl | rfl | rfl | rfl | rfl <;> exact fun k => by unfold cw_rs; simp only [c_k340, c_k341, c_k342, c_k343, c_k344, c_k345]; rfl), fun b k x y => by rw [sf_ne (by omega)]; exact h.2 b k x y⟩
theorem fpw_up {M M1 : cw_M} {k v : Int} (h : Fpw M M1) (hk : k = 27 ∨ k = 28) : Fpw M (cw_up M1 319 k v) := by
  refine ⟨h.1.up (by rcases hk with rfl | rfl <;> decide +kernel), fun a j x y => ?_⟩
  by_cases q : a = 319
  · subst q
    rw [w_up2 (fun e => y ⟨rfl, by omega⟩)]; exact h.2 319 j x y
  · rw [cw_up_ne q]; exact h.2 a j x y
/-- the row while a quotient is taken -/
def y_R (n d b k j : Int) : Int := if k + b ≤ j then y_q n d (j - b) else y_cv n d k j
theorem cv_s {n d k j : Int} (hk : 0 ≤ k) : y_cv n d (k + 1) j = y_cv n d k j + y_q n d k * y_cy d (j - k) := it_s hk
theorem cv_z {n d k b j : Int} (hk : 0 ≤ k) (h : ∀ m : Int, 0 ≤ m → m < k → y_cy d (j - m) = 0) : y_cv n d k j = 0 := sm_z hk (fun m a b => by show _ * y_cy d (j - m) = 0; rw [h m a b, Int.mul_zero])
theorem cy_n {n j : Int} (h : j < 0) : y_cy n j = 0 := by unfold y_cy y_dg; rw [if_neg (by omega)]
theorem R_1 {n d k : Int} (hd : 1 ≤ d ∧ d ≤ 24) (hk : 0 ≤ k) (h24 : k + y_w d < 50) : y_R n d (y_w d) (k + 1) (k + y_w d) = y_q n d k := by
  have c := q_0 hd
  unfold y_R
  rw [if_neg (by omega), cv_s hk, cv_z (b := 0) hk (fun m a b => c.2.2.2.1 _ (by omega) (by omega)), show k + y_w d - k = y_w d by omega, c.2.2.2.2.1]; omega
theorem R_2 {n d k i : Int} (hk : 0 ≤ k) (h0 : 0 ≤ i) (h1 : i < y_w d) : y_R n d (y_w d) (k + 1) (k + i) - y_q n d k * y_cy d i = y_R n d (y_w d) k (k + i) := by
  unfold y_R
  rw [if_neg (by omega), if_neg (by omega), cv_s hk, show k + i - k = i by omega]; omega
theorem R_3 {n d k j : Int} (hd : 1 ≤ d ∧ d ≤ 24) (hk : 0 ≤ k) (hj : j < k ∨ k + y_w d ≤ j) (h24 : k + y_w d < 50) : y_R n d (y_w d) (k + 1) j = y_R n d (y_w d) k j := by
  by_cases q : j = k + y_w d
  · subst q
    rw [R_1 hd hk h24]
    unfold y_R
    rw [if_pos (by omega)]; congr 1; omega
  · have c := q_0 hd
    unfold y_R
    rcases hj with h | h
    · rw [if_neg (by omega), if_neg (by omega), cv_s hk, cy_n (show j - k < 0 by omega), Int.mul_zero, Int.add_zero]
    · rw [if_pos (by omega), if_pos (by omega)]
/-- the equations found so far -/
def Rn (n : Int) (M : cw_M) : Prop := ∀ d : Int, 1 ≤ d → d < n → M 341 d = y_w d ∧ ∀ i : Int, 0 ≤ i → i ≤ y_w d → M 340 (25 * d + i) = y_cy d i
theorem p_Mo_divided {g : cw_G} {M : cw_M} {n d h : Int} {F0 : Int → Int} (hS : Sh M) (hn : n ≤ 24) (hd : 0 ≤ d ∧ d + 1 < n) (hm : n.tmod (d + 1) = 0) (hr : Rn n M) (hh : h = y_qw n d) (hF0 : ∀ j : Int, 0 ≤ j → j < 50 → F0 j = y_q n d j) :
    mC g y_Mo_divided [.inr (.inr 319), .inl h, .inl (d + 1)] (cw_sf M 342 F0) (fun q M' => q = some (.inl (y_qw n (d + 1))) ∧ ∃ F, M' = cw_sf M 342 F ∧ ∀ j : Int, 0 ≤ j → j < 50 → F j = y_q n (d + 1) j) := by
  obtain ⟨⟨q1, q2, q3⟩, q4⟩ := q_s hd hn hm
  obtain ⟨r1, r2⟩ := hr (d + 1) (by omega) hd.2
  have c := q_0 (n := d + 1) ⟨by omega, by omega⟩
  obtain ⟨-, -, -, -, -, c1, c2⟩ := c
  have hdd : 1 ≤ d + 1 ∧ d + 1 ≤ 24 := ⟨by omega, by omega⟩
  have e : h - y_w (d + 1) = y_qw n (d + 1) := by omega
  have ih : in32 (h - y_w (d + 1)) := by unfold in32; omega
  have iw : in32 (y_w (d + 1)) := by unfold in32; omega
  have ih2 : in32 h := by unfold in32; omega
  refine cw_C_of (L := [.inr (.inr 319), .inl h, .inl (d + 1), cU, cU, cU, cU]) ok_Mo_divided (Nat.le_refl _) (Nat.le_of_ble_eq_true rfl) rfl ?_
  refine cw_J_hide ?_
  -- the last loop: moved down
  have down : ∀ (m : Nat) (k : Int) (x5 x6 : cw_V) (F : Int → Int), k + m = 50 → 0 ≤ k → (∀ j : Int, 0 ≤ j → j ≤ y_qw n (d + 1) → F (j + y_w (d + 1)) = y_q n (d + 1) j) →
      mJ g y_Mo_divided 80 [.inr (.inr 319), .inl h, .inl (d + 1), .inl (y_w (d + 1)), .inl k, x5, x6] [] (cw_sf M 342 (cw_fi F (y_q n (d + 1)) 0 k)) (cw_hide (fun q M' => q = some (.inl (y_qw n (d + 1))) ∧ ∃ F, M' = cw_sf M 342 F ∧ ∀ j : Int, 0 ≤ j → j < 50 → F j = y_q n (d + 1) j)) := by
    intro m
    induction m with
    | zero =>
      intro k x5 x6 F hk k0 hF
      refine k_Mo_divided_80 _ _ _ _ _ _ _ _ ?_
      simp (disch := omega) only [↓w_nil, ↓w_cons, ↓w_ild4, ↓w_ic, ↓w_icge, true_and, and_true, true_implies, false_implies, not_true_eq_false, not_false_eq_true, Int.reduceEq, Int.reduceLT, Int.reduceLE, Int.reduceNeg, w_up1, w_up2, w_up3]
      repeat refine And.intro (by first | assumption | exact IsW.kt (by assumption) | omega | (unfold in32; omega) | (unfold in64; omega) | exact True.intro | exact Or.inl True.intro | exact Or.inr True.intro | rfl | exact Nat.le_of_ble_eq_true rfl) ?_
      try first | done | assumption | (unfold in32; omega) | (unfold in64; omega)
      refine ⟨fun _ => ?_, fun z => absurd z (by omega)⟩
      have e50 : k = 50 := by omega
      subst e50
      refine k_Mo_divided_121 _ _ _ _ _ _ _ _ ?_
      simp (disch := omega) only [↓w_nil, ↓w_cons, ↓w_ild1, ↓w_ild3, ↓w_isub, ↓w_iret, true_and, and_true, true_implies, false_implies, not_true_eq_false, not_false_eq_true, Int.reduceEq, Int.reduceLT, Int.reduceLE, Int.reduceNeg, w_up1, w_up2, w_up3]
      repeat refine And.intro (by first | assumption | exact IsW.kt (by assumption) | omega | (unfold in32; omega) | (unfold in64; omega) | exact True.intro | exact Or.inl True.intro | exact Or.inr True.intro | rfl | exact Nat.le_of_ble_eq_true rfl) ?_
      try first | done | assumption | (unfold in32; omega) | (unfold in64; omega)
      try unfold cw_hide
      exact ⟨by rw [e], _, rfl, fun j j0 j1 => by rw [fi_at j0 j1]⟩
    | succ m im =>
      intro k x5 x6 F hk k0 hF
      have ik : in32 k := by unfold in32; omega
      have store : ∀ x : Int, x = y_q n (d + 1) k → mJ g y_Mo_divided 114 [.inr (.inr 319), .inl h, .inl (d + 1), .inl (y_w (d + 1)), .inl k, x5, x6] [.inl x, .inl k, .inr (.inr 342)] (cw_sf M 342 (cw_fi F (y_q n (d + 1)) 0 k)) (cw_hide (fun q M' => q = some (.inl (y_qw n (d + 1))) ∧ ∃ F, M' = cw_sf M 342 F ∧ ∀ j : Int, 0 ≤ j → j < 50 → F j = y_q n (d + 1) j)) := by
        intro x hx
        refine k_Mo_divided_114 _ _ _ _ _ _ _ _ ?_
        simp (disch := omega) only [↓w_nil, ↓w_cons, ↓w_iast, ↓w_inc4, ↓w_goto, true_and, and_true, true_implies, false_implies, not_true_eq_false, not_false_eq_true, Int.reduceEq, Int.reduceLT, Int.reduceLE, Int.reduceNeg, w_nlI, w_nlL, w_nlR, w_up1, w_up2, w_up3, c_k319, c_k320, c_k321, c_k322, c_k323, c_k324, c_k325, c_k326, c_k327, c_k328, c_k329, c_k330, c_k331, c_k332, c_k333, c_k334, c_k335, c_k336, c_k337, c_k338, c_k339, c_k340, c_k341, c_k342, c_k343, c_k344, c_k345, c_k346, c_k347, hS.r319_0, hS.r319_1, hS.r319_2, hS.r319_3, hS.r319_4, hS.r319_5, hS.r319_6, hS.r319_8, hS.r319_9, hS.r319_10, hS.r319_11, hS.r319_12, hS.r319_13, hS.r319_14, hS.r319_15, hS.r319_16, hS.r319_17, hS.r319_20, hS.r319_21, hS.r319_22, hS.r319_23, hS.r319_24, hS.r319_25, hS.r319_26, hS.r319_29, hS.r319_30, hS.r319_31, hS.r319_32, w_sf1, w_sf3]
        repeat refine And.intro (by first | assumption | exact IsW.kt (by assumption) | omega | (unfold in32; omega) | (unfold in64; omega) | exact True.intro | exact Or.inl True.intro | exact Or.inr True.intro | rfl | exact Nat.le_of_ble_eq_true rfl) ?_
        try first | done | assumption | (unfold in32; omega) | (unfold in64; omega)
        rw [fi_up k0 hx]
        exact im (k + 1) _ _ F (by omega) (by omega) hF
      refine k_Mo_divided_80 _ _ _ _ _ _ _ _ ?_
      simp (disch := omega) only [↓w_nil, ↓w_cons, ↓w_ild4, ↓w_ic, ↓w_icge, true_and, and_true, true_implies, false_implies, not_true_eq_false, not_false_eq_true, Int.reduceEq, Int.reduceLT, Int.reduceLE, Int.reduceNeg, w_up1, w_up2, w_up3]
      repeat refine And.intro (by first | assumption | exact IsW.kt (by assumption) | omega | (unfold in32; omega) | (unfold in64; omega) | exact True.intro | exact Or.inl True.intro | exact Or.inr True.intro | rfl | exact Nat.le_of_ble_eq_true rfl) ?_
      try first | done | assumption | (unfold in32; omega) | (unfold in64; omega)
      intro _
      refine k_Mo_divided_87 _ _ _ _ _ _ _ _ ?_
      simp (disch := omega) only [↓w_nil, ↓w_cons, ↓w_ald0, ↓w_gf2_25, ↓w_ild4, ↓w_ild1, ↓w_ild3, ↓w_isub, ↓w_icgt, true_and, and_true, true_implies, false_implies, not_true_eq_false, not_false_eq_true, Int.reduceEq, Int.reduceLT, Int.reduceLE, Int.reduceNeg, w_up1, w_up2, w_up3, c_k319, c_k320, c_k321, c_k322, c_k323, c_k324, c_k325, c_k326, c_k327, c_k328, c_k329, c_k330, c_k331, c_k332, c_k333, c_k334, c_k335, c_k336, c_k337, c_k338, c_k339, c_k340, c_k341, c_k342, c_k343, c_k344, c_k345, c_k346, c_k347, hS.r319_0, hS.r319_1, hS.r319_2, hS.r319_3, hS.r319_4, hS.r319_5, hS.r319_6, hS.r319_8, hS.r319_9, hS.r319_10, hS.r319_11, hS.r319_12, hS.r319_13, hS.r319_14, hS.r319_15, hS.r319_16, hS.r319_17, hS.r319_20, hS.r319_21, hS.r319_22, hS.r319_23, hS.r319_24, hS.r319_25, hS.r319_26, hS.r319_29, hS.r319_30, hS.r319_31, hS.r319_32, w_sf1, w_sf3]
      repeat refine And.intro (by first | assumption | exact IsW.kt (by assumption) | omega | (unfold in32; omega) | (unfold in64; omega) | exact True.intro | exact Or.inl True.intro | exact Or.inr True.intro | rfl | exact Nat.le_of_ble_eq_true rfl) ?_
      try first | done | assumption | (unfold in32; omega) | (unfold in64; omega)
      refine ⟨fun hc => ?_, fun hc => ?_⟩
      · refine k_Mo_divided_113 _ _ _ _ _ _ _ _ ?_
        simp (disch := omega) only [↓w_nil, ↓w_cons, ↓w_ic, ↓w_fall, true_and, and_true, true_implies, false_implies, not_true_eq_false, not_false_eq_true, Int.reduceEq, Int.reduceLT, Int.reduceLE, Int.reduceNeg, w_up1, w_up2, w_up3]
        exact store 0 ((q4 k k0 (by omega)).2 (by omega)).symm
      · refine k_Mo_divided_101 _ _ _ _ _ _ _ _ ?_
        simp (disch := omega) only [↓w_nil, ↓w_cons, ↓w_ald0, ↓w_gf2_25, ↓w_ild4, ↓w_ild3, ↓w_iadd, ↓w_iald, ↓w_goto, true_and, and_true, true_implies, false_implies, not_true_eq_false, not_false_eq_true, Int.reduceEq, Int.reduceLT, Int.reduceLE, Int.reduceNeg, w_up1, w_up2, w_up3, fi_out, c_k319, c_k320, c_k321, c_k322, c_k323, c_k324, c_k325, c_k326, c_k327, c_k328, c_k329, c_k330, c_k331, c_k332, c_k333, c_k334, c_k335, c_k336, c_k337, c_k338, c_k339, c_k340, c_k341, c_k342, c_k343, c_k344, c_k345, c_k346, c_k347, hS.r319_0, hS.r319_1, hS.r319_2, hS.r319_3, hS.r319_4, hS.r319_5, hS.r319_6, hS.r319_8, hS.r319_9, hS.r319_10, hS.r319_11, hS.r319_12, hS.r319_13, hS.r319_14, hS.r319_15, hS.r319_16, hS.r319_17, hS.r319_20, hS.r319_21, hS.r319_22, hS.r319_23, hS.r319_24, hS.r319_25, hS.r319_26, hS.r319_29, hS.r319_30, hS.r319_31, hS.r319_32, w_sf1, w_sf3]
        repeat refine And.intro (by first | assumption | exact IsW.kt (by assumption) | omega | (unfold in32; omega) | (unfold in64; omega) | exact True.intro | exact Or.inl True.intro | exact Or.inr True.intro | rfl | exact Nat.le_of_ble_eq_true rfl) ?_
        try first | done | assumption | (unfold in32; omega) | (unfold in64; omega)
        exact store _ (hF k k0 (by omega))
  -- one number of the quotient is taken out
  have inner : ∀ (m : Nat) (i k : Int) (F : Int → Int), i + m = y_w (d + 1) → 0 ≤ i → 0 ≤ k → k ≤ y_qw n (d + 1) → (∀ j : Int, 0 ≤ j → j ≤ h → F j = if k ≤ j ∧ j < k + i then y_R n (d + 1) (y_w (d + 1)) k j else y_R n (d + 1) (y_w (d + 1)) (k + 1) j) →
      (∀ (x5 x6 : cw_V) (F2 : Int → Int), (∀ j : Int, 0 ≤ j → j ≤ h → F2 j = y_R n (d + 1) (y_w (d + 1)) k j) → mJ g y_Mo_divided 12 [.inr (.inr 319), .inl h, .inl (d + 1), .inl (y_w (d + 1)), .inl (k - 1), x5, x6] [] (cw_sf M 342 F2) (cw_hide (fun q M' => q = some (.inl (y_qw n (d + 1))) ∧ ∃ F, M' = cw_sf M 342 F ∧ ∀ j : Int, 0 ≤ j → j < 50 → F j = y_q n (d + 1) j))) →
      mJ g y_Mo_divided 31 [.inr (.inr 319), .inl h, .inl (d + 1), .inl (y_w (d + 1)), .inl k, .inl (y_q n (d + 1) k), .inl i] [] (cw_sf M 342 F) (cw_hide (fun q M' => q = some (.inl (y_qw n (d + 1))) ∧ ∃ F, M' = cw_sf M 342 F ∧ ∀ j : Int, 0 ≤ j → j < 50 → F j = y_q n (d + 1) j)) := by
    intro m
    induction m with
    | zero =>
      intro i k F hi i0 k0 k1 hF out
      have ew : i = y_w (d + 1) := by omega
      subst ew
      refine k_Mo_divided_31 _ _ _ _ _ _ _ _ ?_
      simp (disch := omega) only [↓w_nil, ↓w_cons, ↓w_ild6, ↓w_ild3, ↓w_icge, true_and, and_true, true_implies, false_implies, not_true_eq_false, not_false_eq_true, Int.reduceEq, Int.reduceLT, Int.reduceLE, Int.reduceNeg, w_up1, w_up2, w_up3]
      repeat refine And.intro (by first | assumption | exact IsW.kt (by assumption) | omega | (unfold in32; omega) | (unfold in64; omega) | exact True.intro | exact Or.inl True.intro | exact Or.inr True.intro | rfl | exact Nat.le_of_ble_eq_true rfl) ?_
      try first | done | assumption | (unfold in32; omega) | (unfold in64; omega)
      refine ⟨fun _ => ?_, fun z => absurd z (by omega)⟩
      refine k_Mo_divided_71 _ _ _ _ _ _ _ _ ?_
      simp (disch := omega) only [↓w_nil, ↓w_cons, ↓w_inc4, ↓w_goto, true_and, and_true, true_implies, false_implies, not_true_eq_false, not_false_eq_true, Int.reduceEq, Int.reduceLT, Int.reduceLE, Int.reduceNeg, w_nlI, w_nlL, w_nlR, w_up1, w_up2, w_up3]
      refine out _ _ F (fun j j0 j1 => ?_)
      rw [hF j j0 j1]
      by_cases z : k ≤ j ∧ j < k + y_w (d + 1)
      · rw [if_pos z]
      · rw [if_neg z, R_3 hdd k0 (by omega) (by omega)]
    | succ m im =>
      intro i k F hi i0 k0 k1 hF out
      have r := r2 i i0 (by omega)
      have ii : in32 i := by unfold in32; omega
      have fj := hF (k + i) (by omega) (by omega)
      rw [if_neg (by omega)] at fj
      have s2 := R_2 (n := n) (d := d + 1) (k := k) (i := i) k0 i0 (by omega)
      refine k_Mo_divided_31 _ _ _ _ _ _ _ _ ?_
      simp (disch := omega) only [↓w_nil, ↓w_cons, ↓w_ild6, ↓w_ild3, ↓w_icge, true_and, and_true, true_implies, false_implies, not_true_eq_false, not_false_eq_true, Int.reduceEq, Int.reduceLT, Int.reduceLE, Int.reduceNeg, w_up1, w_up2, w_up3]
      repeat refine And.intro (by first | assumption | exact IsW.kt (by assumption) | omega | (unfold in32; omega) | (unfold in64; omega) | exact True.intro | exact Or.inl True.intro | exact Or.inr True.intro | rfl | exact Nat.le_of_ble_eq_true rfl) ?_
      try first | done | assumption | (unfold in32; omega) | (unfold in64; omega)
      intro _
      refine k_Mo_divided_37 _ _ _ _ _ _ _ _ ?_
      simp (disch := omega) only [↓w_nil, ↓w_cons, ↓w_ald0, ↓w_gf2_25, ↓w_ild4, ↓w_ild6, ↓w_iadd, ↓w_dup2, ↓w_dup2L, ↓w_iald, ↓w_ild5, ↓w_gf2_23, ↓w_ic, ↓w_ild2, ↓w_imul, ↓w_isub, ↓w_iast, ↓w_inc6, ↓w_goto, true_and, and_true, true_implies, false_implies, not_true_eq_false, not_false_eq_true, Int.reduceEq, Int.reduceLT, Int.reduceLE, Int.reduceNeg, w_nlI, w_nlL, w_nlR, w_up1, w_up2, w_up3, r, fj, c_k319, c_k320, c_k321, c_k322, c_k323, c_k324, c_k325, c_k326, c_k327, c_k328, c_k329, c_k330, c_k331, c_k332, c_k333, c_k334, c_k335, c_k336, c_k337, c_k338, c_k339, c_k340, c_k341, c_k342, c_k343, c_k344, c_k345, c_k346, c_k347, hS.r319_0, hS.r319_1, hS.r319_2, hS.r319_3, hS.r319_4, hS.r319_5, hS.r319_6, hS.r319_8, hS.r319_9, hS.r319_10, hS.r319_11, hS.r319_12, hS.r319_13, hS.r319_14, hS.r319_15, hS.r319_16, hS.r319_17, hS.r319_20, hS.r319_21, hS.r319_22, hS.r319_23, hS.r319_24, hS.r319_25, hS.r319_26, hS.r319_29, hS.r319_30, hS.r319_31, hS.r319_32, w_sf1, w_sf3]
      repeat refine And.intro (by first | assumption | exact IsW.kt (by assumption) | omega | (unfold in32; omega) | (unfold in64; omega) | exact True.intro | exact Or.inl True.intro | exact Or.inr True.intro | rfl | exact Nat.le_of_ble_eq_true rfl) ?_
      try first | done | assumption | (unfold in32; omega) | (unfold in64; omega)
      rw [sf_fu, s2]
      refine im (i + 1) k _ (by omega) (by omega) k0 k1 (fun j j0 j1 => ?_) out
      by_cases z : j = k + i
      · rw [z, fu_a, if_pos (by omega)]
      · rw [fu_o z, hF j j0 j1]
        by_cases z2 : k ≤ j ∧ j < k + i
        · rw [if_pos z2, if_pos (by omega)]
        · rw [if_neg z2, if_neg (by omega)]
  have outer : ∀ (m : Nat) (k : Int) (x5 x6 : cw_V) (F : Int → Int), k + 1 = m → k ≤ y_qw n (d + 1) → (∀ j : Int, 0 ≤ j → j ≤ h → F j = y_R n (d + 1) (y_w (d + 1)) (k + 1) j) →
      mJ g y_Mo_divided 12 [.inr (.inr 319), .inl h, .inl (d + 1), .inl (y_w (d + 1)), .inl k, x5, x6] [] (cw_sf M 342 F) (cw_hide (fun q M' => q = some (.inl (y_qw n (d + 1))) ∧ ∃ F, M' = cw_sf M 342 F ∧ ∀ j : Int, 0 ≤ j → j < 50 → F j = y_q n (d + 1) j)) := by
    intro m
    induction m with
    | zero =>
      intro k x5 x6 F hk k1 hF
      have ik : in32 k := by unfold in32; omega
      refine k_Mo_divided_12 _ _ _ _ _ _ _ _ ?_
      simp (disch := omega) only [↓w_nil, ↓w_cons, ↓w_ild4, ↓w_iflt, true_and, and_true, true_implies, false_implies, not_true_eq_false, not_false_eq_true, Int.reduceEq, Int.reduceLT, Int.reduceLE, Int.reduceNeg, w_up1, w_up2, w_up3]
      repeat refine And.intro (by first | assumption | exact IsW.kt (by assumption) | omega | (unfold in32; omega) | (unfold in64; omega) | exact True.intro | exact Or.inl True.intro | exact Or.inr True.intro | rfl | exact Nat.le_of_ble_eq_true rfl) ?_
      try first | done | assumption | (unfold in32; omega) | (unfold in64; omega)
      refine ⟨fun _ => ?_, fun z => absurd z (by omega)⟩
      refine k_Mo_divided_77 _ _ _ _ _ _ _ _ ?_
      simp (disch := omega) only [↓w_nil, ↓w_cons, ↓w_ic, ↓w_ist4, ↓w_fall, true_and, and_true, true_implies, false_implies, not_true_eq_false, not_false_eq_true, Int.reduceEq, Int.reduceLT, Int.reduceLE, Int.reduceNeg, w_nlI, w_nlL, w_nlR, w_up1, w_up2, w_up3]
      have := down 50 0 x5 x6 F (by omega) (by omega) (fun j j0 j1 => by
        rw [hF _ (by omega) (by omega), show k + 1 = 0 by omega]
        unfold y_R
        rw [if_pos (by omega)]; congr 1; omega)
      rw [fi_0] at this
      exact this
    | succ m im =>
      intro k x5 x6 F hk k1 hF
      have ik : in32 k := by unfold in32; omega
      have v : F (k + y_w (d + 1)) = y_q n (d + 1) k := by rw [hF _ (by omega) (by omega), R_1 hdd (by omega) (by omega)]
      refine k_Mo_divided_12 _ _ _ _ _ _ _ _ ?_
      simp (disch := omega) only [↓w_nil, ↓w_cons, ↓w_ild4, ↓w_iflt, true_and, and_true, true_implies, false_implies, not_true_eq_false, not_false_eq_true, Int.reduceEq, Int.reduceLT, Int.reduceLE, Int.reduceNeg, w_up1, w_up2, w_up3]
      repeat refine And.intro (by first | assumption | exact IsW.kt (by assumption) | omega | (unfold in32; omega) | (unfold in64; omega) | exact True.intro | exact Or.inl True.intro | exact Or.inr True.intro | rfl | exact Nat.le_of_ble_eq_true rfl) ?_
      try first | done | assumption | (unfold in32; omega) | (unfold in64; omega)
      intro _
      refine k_Mo_divided_17 _ _ _ _ _ _ _ _ ?_
      simp (disch := omega) only [↓w_nil, ↓w_cons, ↓w_ald0, ↓w_gf2_25, ↓w_ild4, ↓w_ild3, ↓w_iadd, ↓w_iald, ↓w_ist5, ↓w_ic, ↓w_ist6, ↓w_fall, true_and, and_true, true_implies, false_implies, not_true_eq_false, not_false_eq_true, Int.reduceEq, Int.reduceLT, Int.reduceLE, Int.reduceNeg, w_nlI, w_nlL, w_nlR, w_up1, w_up2, w_up3, v, c_k319, c_k320, c_k321, c_k322, c_k323, c_k324, c_k325, c_k326, c_k327, c_k328, c_k329, c_k330, c_k331, c_k332, c_k333, c_k334, c_k335, c_k336, c_k337, c_k338, c_k339, c_k340, c_k341, c_k342, c_k343, c_k344, c_k345, c_k346, c_k347, hS.r319_0, hS.r319_1, hS.r319_2, hS.r319_3, hS.r319_4, hS.r319_5, hS.r319_6, hS.r319_8, hS.r319_9, hS.r319_10, hS.r319_11, hS.r319_12, hS.r319_13, hS.r319_14, hS.r319_15, hS.r319_16, hS.r319_17, hS.r319_20, hS.r319_21, hS.r319_22, hS.r319_23, hS.r319_24, hS.r319_25, hS.r319_26, hS.r319_29, hS.r319_30, hS.r319_31, hS.r319_32, w_sf1, w_sf3]
      repeat refine And.intro (by first | assumption | exact IsW.kt (by assumption) | omega | (unfold in32; omega) | (unfold in64; omega) | exact True.intro | exact Or.inl True.intro | exact Or.inr True.intro | rfl | exact Nat.le_of_ble_eq_true rfl) ?_
      try first | done | assumption | (unfold in32; omega) | (unfold in64; omega)
      refine inner (y_w (d + 1)).toNat 0 k F (by omega) (by omega) (by omega) k1 (fun j j0 j1 => ?_) (fun x5 x6 F2 h2 => ?_)
      · rw [if_neg (by omega)]; exact hF j j0 j1
      · refine im (k - 1) x5 x6 F2 (by omega) (by omega) (fun j j0 j1 => ?_)
        rw [show k - 1 + 1 = k by omega]; exact h2 j j0 j1
  refine k_Mo_divided_0 _ _ _ _ _ _ _ _ ?_
  simp (disch := omega) only [↓w_nil, ↓w_cons, ↓w_ald0, ↓w_gf2_24, ↓w_ild2, ↓w_iald, ↓w_ist3, ↓w_ild1, ↓w_ild3, ↓w_isub, ↓w_ist4, ↓w_fall, true_and, and_true, true_implies, false_implies, not_true_eq_false, not_false_eq_true, Int.reduceEq, Int.reduceLT, Int.reduceLE, Int.reduceNeg, w_nlI, w_nlL, w_nlR, w_up1, w_up2, w_up3, r1, c_k319, c_k320, c_k321, c_k322, c_k323, c_k324, c_k325, c_k326, c_k327, c_k328, c_k329, c_k330, c_k331, c_k332, c_k333, c_k334, c_k335, c_k336, c_k337, c_k338, c_k339, c_k340, c_k341, c_k342, c_k343, c_k344, c_k345, c_k346, c_k347, hS.r319_0, hS.r319_1, hS.r319_2, hS.r319_3, hS.r319_4, hS.r319_5, hS.r319_6, hS.r319_8, hS.r319_9, hS.r319_10, hS.r319_11, hS.r319_12, hS.r319_13, hS.r319_14, hS.r319_15, hS.r319_16, hS.r319_17, hS.r319_20, hS.r319_21, hS.r319_22, hS.r319_23, hS.r319_24, hS.r319_25, hS.r319_26, hS.r319_29, hS.r319_30, hS.r319_31, hS.r319_32, w_sf1, w_sf3]
  repeat refine And.intro (by first | assumption | exact IsW.kt (by assumption) | omega | (unfold in32; omega) | (unfold in64; omega) | exact True.intro | exact Or.inl True.intro | exact Or.inr True.intro | rfl | exact Nat.le_of_ble_eq_true rfl) ?_
  try first | done | assumption | (unfold in32; omega) | (unfold in64; omega)
  exact outer (y_qw n (d + 1) + 1).toNat (h - y_w (d + 1)) cU cU F0 (by omega) (by omega) (fun j j0 j1 => by
    rw [hF0 j j0 (by omega), (q4 j j0 (by omega)).1, e]
    unfold y_R
    rw [if_neg (by omega)])
theorem p_Mo_findRounds {g : cw_G} {M : cw_M} {S : Int} (hS : Sh M) (h6 : 6 ≤ S ∧ S ≤ 24) :
    mC g y_Mo_findRounds [.inr (.inr 319), .inl S] M (fun q M' => q = none ∧ (Sh M' ∧ ∀ a : Int, ¬ (340 ≤ a ∧ a ≤ 342) → M' a = M a) ∧ Rn (S + 1) M') := by
  have iS : in32 S := by unfold in32; omega
  refine cw_C_of (L := [.inr (.inr 319), .inl S, cU, cU, cU]) ok_Mo_findRounds (Nat.le_refl _) (Nat.le_of_ble_eq_true rfl) rfl ?_
  refine cw_J_hide ?_
  have main : ∀ (m : Nat) (n : Int) (x3 x4 : cw_V) (M1 : cw_M), n + m = S + 1 → 1 ≤ n → (Sh M1 ∧ ∀ a : Int, ¬ (340 ≤ a ∧ a ≤ 342) → M1 a = M a) → Rn n M1 →
      mJ g y_Mo_findRounds 2 [.inr (.inr 319), .inl S, .inl n, x3, x4] [] M1 (cw_hide (fun q M' => q = none ∧ (Sh M' ∧ ∀ a : Int, ¬ (340 ≤ a ∧ a ≤ 342) → M' a = M a) ∧ Rn (S + 1) M')) := by
    intro m
    induction m with
    | zero =>
      intro n x3 x4 M1 hn n1 F1 hr
      have en : n = S + 1 := by omega
      subst en
      have i1 : in32 (S + 1) := by unfold in32; omega
      refine k_Mo_findRounds_2 _ _ _ _ _ _ _ _ ?_
      simp (disch := omega) only [↓w_nil, ↓w_cons, ↓w_ild2, ↓w_ild1, ↓w_icgt, true_and, and_true, true_implies, false_implies, not_true_eq_false, not_false_eq_true, Int.reduceEq, Int.reduceLT, Int.reduceLE, Int.reduceNeg, w_up1, w_up2, w_up3]
      repeat refine And.intro (by first | assumption | exact IsW.kt (by assumption) | omega | (unfold in32; omega) | (unfold in64; omega) | exact True.intro | exact Or.inl True.intro | exact Or.inr True.intro | rfl | exact Nat.le_of_ble_eq_true rfl) ?_
      try first | done | assumption | (unfold in32; omega) | (unfold in64; omega)
      refine ⟨fun _ => ?_, fun z => absurd z (by omega)⟩
      refine k_Mo_findRounds_124 _ _ _ _ _ _ _ _ ?_
      simp (disch := omega) only [↓w_nil, ↓w_vret, true_and, and_true, true_implies, false_implies, not_true_eq_false, not_false_eq_true, Int.reduceEq, Int.reduceLT, Int.reduceLE, Int.reduceNeg, w_up1, w_up2, w_up3]
      try unfold cw_hide
      exact ⟨rfl, F1, hr⟩
    | succ m im =>
      intro n x3 x4 M1 hn n1 F1 hr
      have hS1 := F1.1
      have hn24 : 1 ≤ n ∧ n ≤ 24 := ⟨n1, by omega⟩
      obtain ⟨z1, z2, z3, z4, z5, z6, z7⟩ := q_0 hn24
      have iN : in32 n := by unfold in32; omega
      have rs342 : ∀ k, cw_rs 342 k = false := fun k => by unfold cw_rs; rw [c_k342]; rfl
      have rs341 : ∀ k, cw_rs 341 k = false := fun k => by unfold cw_rs; rw [c_k341]; rfl
      have rs340 : ∀ k, cw_rs 340 k = false := fun k => by unfold cw_rs; rw [c_k340]; rfl
      -- the equation is kept
      have keep : ∀ (l : Nat) (k : Int) (M2 : cw_M), k + l = y_w n + 1 → 0 ≤ k → (Sh M2 ∧ ∀ a : Int, ¬ (340 ≤ a ∧ a ≤ 342) → M2 a = M a) → Rn n M2 → M2 341 n = y_w n → (∀ j : Int, 0 ≤ j → j < 50 → M2 342 j = y_cy n j) → (∀ i : Int, 0 ≤ i → i < k → M2 340 (25 * n + i) = y_cy n i) →
          mJ g y_Mo_findRounds 87 [.inr (.inr 319), .inl S, .inl n, .inl (y_w n), .inl k] [] M2 (cw_hide (fun q M' => q = none ∧ (Sh M' ∧ ∀ a : Int, ¬ (340 ≤ a ∧ a ≤ 342) → M' a = M a) ∧ Rn (S + 1) M')) := by
        intro l
        induction l with
        | zero =>
          intro k M2 hk k0 F2 r2 a1 a2 a3
          have ek : k = y_w n + 1 := by omega
          subst ek
          have i1 : in32 (y_w n + 1) := by unfold in32; omega
          have i2 : in32 (y_w n) := by unfold in32; omega
          refine k_Mo_findRounds_87 _ _ _ _ _ _ _ _ ?_
          simp (disch := omega) only [↓w_nil, ↓w_cons, ↓w_ild4, ↓w_ild3, ↓w_icgt, true_and, and_true, true_implies, false_implies, not_true_eq_false, not_false_eq_true, Int.reduceEq, Int.reduceLT, Int.reduceLE, Int.reduceNeg, w_up1, w_up2, w_up3]
          repeat refine And.intro (by first | assumption | exact IsW.kt (by assumption) | omega | (unfold in32; omega) | (unfold in64; omega) | exact True.intro | exact Or.inl True.intro | exact Or.inr True.intro | rfl | exact Nat.le_of_ble_eq_true rfl) ?_
          try first | done | assumption | (unfold in32; omega) | (unfold in64; omega)
          refine ⟨fun _ => ?_, fun z => absurd z (by omega)⟩
          refine k_Mo_findRounds_118 _ _ _ _ _ _ _ _ ?_
          simp (disch := omega) only [↓w_nil, ↓w_cons, ↓w_inc2, ↓w_goto, true_and, and_true, true_implies, false_implies, not_true_eq_false, not_false_eq_true, Int.reduceEq, Int.reduceLT, Int.reduceLE, Int.reduceNeg, w_nlI, w_nlL, w_nlR, w_up1, w_up2, w_up3]
          refine im (n + 1) _ _ M2 (by omega) (by omega) F2 (fun d d0 d1 => ?_)
          by_cases q : d = n
          · subst q; exact ⟨a1, fun i i0 i1 => a3 i i0 (by omega)⟩
          · exact r2 d d0 (by omega)
        | succ l il =>
          intro k M2 hk k0 F2 r2 a1 a2 a3
          have hS2 := F2.1
          have i1 : in32 k := by unfold in32; omega
          have i2 : in32 (y_w n) := by unfold in32; omega
          have v := a2 k k0 (by omega)
          refine k_Mo_findRounds_87 _ _ _ _ _ _ _ _ ?_
          simp (disch := omega) only [↓w_nil, ↓w_cons, ↓w_ild4, ↓w_ild3, ↓w_icgt, true_and, and_true, true_implies, false_implies, not_true_eq_false, not_false_eq_true, Int.reduceEq, Int.reduceLT, Int.reduceLE, Int.reduceNeg, w_up1, w_up2, w_up3]
          repeat refine And.intro (by first | assumption | exact IsW.kt (by assumption) | omega | (unfold in32; omega) | (unfold in64; omega) | exact True.intro | exact Or.inl True.intro | exact Or.inr True.intro | rfl | exact Nat.le_of_ble_eq_true rfl) ?_
          try first | done | assumption | (unfold in32; omega) | (unfold in64; omega)
          intro _
          refine k_Mo_findRounds_93 _ _ _ _ _ _ _ _ ?_
          simp (disch := omega) only [↓w_nil, ↓w_cons, ↓w_ald0, ↓w_gf2_23, ↓w_ic, ↓w_ild2, ↓w_imul, ↓w_ild4, ↓w_iadd, ↓w_gf2_25, ↓w_iald, ↓w_iast, ↓w_inc4, ↓w_goto, true_and, and_true, true_implies, false_implies, not_true_eq_false, not_false_eq_true, Int.reduceEq, Int.reduceLT, Int.reduceLE, Int.reduceNeg, w_nlI, w_nlL, w_nlR, w_up1, w_up2, w_up3, v, c_k319, c_k320, c_k321, c_k322, c_k323, c_k324, c_k325, c_k326, c_k327, c_k328, c_k329, c_k330, c_k331, c_k332, c_k333, c_k334, c_k335, c_k336, c_k337, c_k338, c_k339, c_k340, c_k341, c_k342, c_k343, c_k344, c_k345, c_k346, c_k347, hS2.r319_0, hS2.r319_1, hS2.r319_2, hS2.r319_3, hS2.r319_4, hS2.r319_5, hS2.r319_6, hS2.r319_8, hS2.r319_9, hS2.r319_10, hS2.r319_11, hS2.r319_12, hS2.r319_13, hS2.r319_14, hS2.r319_15, hS2.r319_16, hS2.r319_17, hS2.r319_20, hS2.r319_21, hS2.r319_22, hS2.r319_23, hS2.r319_24, hS2.r319_25, hS2.r319_26, hS2.r319_29, hS2.r319_30, hS2.r319_31, hS2.r319_32, w_sf1, w_sf3]
          repeat refine And.intro (by first | assumption | exact IsW.kt (by assumption) | omega | (unfold in32; omega) | (unfold in64; omega) | exact True.intro | exact Or.inl True.intro | exact Or.inr True.intro | rfl | exact Nat.le_of_ble_eq_true rfl) ?_
          try first | done | assumption | (unfold in32; omega) | (unfold in64; omega)
          refine il (k + 1) _ (by omega) (by omega) ⟨hS2.up (rs340 _), fun a ha => by rw [cw_up_ne (by omega)]; exact F2.2 a ha⟩ (fun d d0 d1 => ?_) (by rw [w_up3 (by omega)]; exact a1) (fun j j0 j1 => by rw [w_up3 (by omega)]; exact a2 j j0 j1) (fun i i0 i1 => ?_)
          · refine ⟨by rw [w_up3 (by omega)]; exact (r2 d d0 d1).1, fun i i0 i1 => ?_⟩
            have := q_0 (n := d) ⟨d0, by omega⟩
            rw [w_up2 (by omega)]; exact (r2 d d0 d1).2 i i0 i1
          · by_cases q : i = k
            · rw [q, w_up1]
            · rw [w_up2 (by omega)]; exact a3 i i0 (by omega)
      -- the quotients
      have quot : ∀ (l : Nat) (d : Int) (F : Int → Int), d + 1 + l = n → 0 ≤ d → (∀ j : Int, 0 ≤ j → j < 50 → F j = y_q n d j) →
          mJ g y_Mo_findRounds 50 [.inr (.inr 319), .inl S, .inl n, .inl (y_qw n d), .inl (d + 1)] [] (cw_sf M1 342 F) (cw_hide (fun q M' => q = none ∧ (Sh M' ∧ ∀ a : Int, ¬ (340 ≤ a ∧ a ≤ 342) → M' a = M a) ∧ Rn (S + 1) M')) := by
        intro l
        induction l with
        | zero =>
          intro d F hd d0 hF
          have ed : d = n - 1 := by omega
          subst ed
          have id : in32 (n - 1 + 1) := by unfold in32; omega
          have ew : y_qw n (n - 1) = y_w n := by unfold y_qw y_w; rw [z2]
          have hF' : ∀ j : Int, 0 ≤ j → j < 50 → F j = y_cy n j := fun j j0 j1 => by rw [hF j j0 j1]; unfold y_q y_cy; rw [z2]
          rw [ew]
          refine k_Mo_findRounds_50 _ _ _ _ _ _ _ _ ?_
          simp (disch := omega) only [↓w_nil, ↓w_cons, ↓w_ild4, ↓w_ild2, ↓w_icge, true_and, and_true, true_implies, false_implies, not_true_eq_false, not_false_eq_true, Int.reduceEq, Int.reduceLT, Int.reduceLE, Int.reduceNeg, w_up1, w_up2, w_up3]
          repeat refine And.intro (by first | assumption | exact IsW.kt (by assumption) | omega | (unfold in32; omega) | (unfold in64; omega) | exact True.intro | exact Or.inl True.intro | exact Or.inr True.intro | rfl | exact Nat.le_of_ble_eq_true rfl) ?_
          try first | done | assumption | (unfold in32; omega) | (unfold in64; omega)
          refine ⟨fun _ => ?_, fun z => absurd z (by omega)⟩
          refine k_Mo_findRounds_77 _ _ _ _ _ _ _ _ ?_
          simp (disch := omega) only [↓w_nil, ↓w_cons, ↓w_ald0, ↓w_gf2_24, ↓w_ild2, ↓w_ild3, ↓w_iast, ↓w_ic, ↓w_ist4, ↓w_fall, true_and, and_true, true_implies, false_implies, not_true_eq_false, not_false_eq_true, Int.reduceEq, Int.reduceLT, Int.reduceLE, Int.reduceNeg, w_nlI, w_nlL, w_nlR, w_up1, w_up2, w_up3, c_k319, c_k320, c_k321, c_k322, c_k323, c_k324, c_k325, c_k326, c_k327, c_k328, c_k329, c_k330, c_k331, c_k332, c_k333, c_k334, c_k335, c_k336, c_k337, c_k338, c_k339, c_k340, c_k341, c_k342, c_k343, c_k344, c_k345, c_k346, c_k347, hS1.r319_0, hS1.r319_1, hS1.r319_2, hS1.r319_3, hS1.r319_4, hS1.r319_5, hS1.r319_6, hS1.r319_8, hS1.r319_9, hS1.r319_10, hS1.r319_11, hS1.r319_12, hS1.r319_13, hS1.r319_14, hS1.r319_15, hS1.r319_16, hS1.r319_17, hS1.r319_20, hS1.r319_21, hS1.r319_22, hS1.r319_23, hS1.r319_24, hS1.r319_25, hS1.r319_26, hS1.r319_29, hS1.r319_30, hS1.r319_31, hS1.r319_32, w_sf1, w_sf3]
          repeat refine And.intro (by first | assumption | exact IsW.kt (by assumption) | omega | (unfold in32; omega) | (unfold in64; omega) | exact True.intro | exact Or.inl True.intro | exact Or.inr True.intro | rfl | exact Nat.le_of_ble_eq_true rfl) ?_
          try first | done | assumption | (unfold in32; omega) | (unfold in64; omega)
          refine keep (y_w n + 1).toNat 0 _ (by omega) (by omega) ⟨(hS1.sf rs342).up (rs341 _), fun a ha => by rw [cw_up_ne (by omega), sf_ne (by omega)]; exact F1.2 a ha⟩ (fun d d0 d1 => ?_) (by rw [w_up1]) (fun j j0 j1 => by rw [w_up3 (by omega), w_sf1]; exact hF' j j0 j1) (fun i i0 i1 => by omega)
          refine ⟨by rw [w_up2 (by omega), w_sf3 (by omega)]; exact (hr d d0 d1).1, fun i i0 i1 => by rw [w_up3 (by omega), w_sf3 (by omega)]; exact (hr d d0 d1).2 i i0 i1⟩
        | succ l il =>
          intro d F hd d0 hF
          have id : in32 (d + 1) := by unfold in32; omega
          have c0 := Int.tmod_nonneg (d + 1) (show 0 ≤ n by omega)
          have c1 := Int.tmod_lt_of_pos n (show 0 < d + 1 by omega)
          have it : in32 (n.tmod (d + 1)) := by unfold in32; omega
          have next : ∀ (h : Int) (F2 : Int → Int), h = y_qw n (d + 1) → (∀ j : Int, 0 ≤ j → j < 50 → F2 j = y_q n (d + 1) j) → mJ g y_Mo_findRounds 71 [.inr (.inr 319), .inl S, .inl n, .inl h, .inl (d + 1)] [] (cw_sf M1 342 F2) (cw_hide (fun q M' => q = none ∧ (Sh M' ∧ ∀ a : Int, ¬ (340 ≤ a ∧ a ≤ 342) → M' a = M a) ∧ Rn (S + 1) M')) := by
            intro h F2 e h2
            subst e
            refine k_Mo_findRounds_71 _ _ _ _ _ _ _ _ ?_
            simp (disch := omega) only [↓w_nil, ↓w_cons, ↓w_inc4, ↓w_goto, true_and, and_true, true_implies, false_implies, not_true_eq_false, not_false_eq_true, Int.reduceEq, Int.reduceLT, Int.reduceLE, Int.reduceNeg, w_nlI, w_nlL, w_nlR, w_up1, w_up2, w_up3]
            exact il (d + 1) F2 (by omega) (by omega) h2
          refine k_Mo_findRounds_50 _ _ _ _ _ _ _ _ ?_
          simp (disch := omega) only [↓w_nil, ↓w_cons, ↓w_ild4, ↓w_ild2, ↓w_icge, true_and, and_true, true_implies, false_implies, not_true_eq_false, not_false_eq_true, Int.reduceEq, Int.reduceLT, Int.reduceLE, Int.reduceNeg, w_up1, w_up2, w_up3]
          repeat refine And.intro (by first | assumption | exact IsW.kt (by assumption) | omega | (unfold in32; omega) | (unfold in64; omega) | exact True.intro | exact Or.inl True.intro | exact Or.inr True.intro | rfl | exact Nat.le_of_ble_eq_true rfl) ?_
          try first | done | assumption | (unfold in32; omega) | (unfold in64; omega)
          intro _
          refine k_Mo_findRounds_56 _ _ _ _ _ _ _ _ ?_
          simp (disch := omega) only [↓w_nil, ↓w_cons, ↓w_ild2, ↓w_ild4, ↓w_irem, ↓w_ifne, true_and, and_true, true_implies, false_implies, not_true_eq_false, not_false_eq_true, Int.reduceEq, Int.reduceLT, Int.reduceLE, Int.reduceNeg, w_up1, w_up2, w_up3]
          repeat refine And.intro (by first | assumption | exact IsW.kt (by assumption) | omega | (unfold in32; omega) | (unfold in64; omega) | exact True.intro | exact Or.inl True.intro | exact Or.inr True.intro | rfl | exact Nat.le_of_ble_eq_true rfl) ?_
          try first | done | assumption | (unfold in32; omega) | (unfold in64; omega)
          refine ⟨fun hz => ?_, fun hz => ?_⟩
          · have e := q_n (n := n) (d := d) ⟨d0, by omega⟩ hn24.2 hz
            exact next _ F (by unfold y_qw; rw [e]) (fun j j0 j1 => by rw [hF j j0 j1]; unfold y_q; rw [e])
          · refine k_Mo_findRounds_63 _ _ _ _ _ _ _ _ ?_
            simp (disch := omega) only [↓w_nil, ↓w_cons, ↓w_ald0, ↓w_ild3, ↓w_ild4, ↓w_cv2, true_and, and_true, true_implies, false_implies, not_true_eq_false, not_false_eq_true, Int.reduceEq, Int.reduceLT, Int.reduceLE, Int.reduceNeg, w_c80, w_c8I, w_c8L, w_c8R, w_up1, w_up2, w_up3]
            repeat refine And.intro (by first | assumption | exact IsW.kt (by assumption) | omega | (unfold in32; omega) | (unfold in64; omega) | exact True.intro | exact Or.inl True.intro | exact Or.inr True.intro | rfl | exact Nat.le_of_ble_eq_true rfl) ?_
            try first | done | assumption | (unfold in32; omega) | (unfold in64; omega)
            refine ⟨_, p_Mo_divided hS1 hn24.2 ⟨d0, by omega⟩ hz hr rfl hF, ?_⟩
            rintro q M5 ⟨rfl, F2, rfl, h2⟩
            refine k_Mo_findRounds_70 _ _ _ _ _ _ _ _ ?_
            simp (disch := omega) only [↓w_nil, ↓w_cons, ↓w_ist3, ↓w_fall, true_and, and_true, true_implies, false_implies, not_true_eq_false, not_false_eq_true, Int.reduceEq, Int.reduceLT, Int.reduceLE, Int.reduceNeg, w_nlI, w_nlL, w_nlR, w_up1, w_up2, w_up3, w_tl1]
            exact next _ F2 rfl h2
      -- the row's beginning
      have start : ∀ (l : Nat) (k : Int) (y4 : cw_V), k + l = 50 → 0 ≤ k → mJ g y_Mo_findRounds 9 [.inr (.inr 319), .inl S, .inl n, .inl k, y4] [] (cw_sf M1 342 (cw_fi (M1 342) (y_q n 0) 0 k)) (cw_hide (fun q M' => q = none ∧ (Sh M' ∧ ∀ a : Int, ¬ (340 ≤ a ∧ a ≤ 342) → M' a = M a) ∧ Rn (S + 1) M')) := by
        intro l
        induction l with
        | zero =>
          intro k y4 hk k0
          refine k_Mo_findRounds_9 _ _ _ _ _ _ _ _ ?_
          simp (disch := omega) only [↓w_nil, ↓w_cons, ↓w_ild3, ↓w_ic, ↓w_icge, true_and, and_true, true_implies, false_implies, not_true_eq_false, not_false_eq_true, Int.reduceEq, Int.reduceLT, Int.reduceLE, Int.reduceNeg, w_up1, w_up2, w_up3]
          repeat refine And.intro (by first | assumption | exact IsW.kt (by assumption) | omega | (unfold in32; omega) | (unfold in64; omega) | exact True.intro | exact Or.inl True.intro | exact Or.inr True.intro | rfl | exact Nat.le_of_ble_eq_true rfl) ?_
          try first | done | assumption | (unfold in32; omega) | (unfold in64; omega)
          refine ⟨fun _ => ?_, fun z => absurd z (by omega)⟩
          have ek : k = 50 := by omega
          subst ek
          refine k_Mo_findRounds_45 _ _ _ _ _ _ _ _ ?_
          simp (disch := omega) only [↓w_nil, ↓w_cons, ↓w_ild2, ↓w_ist3, ↓w_ic, ↓w_ist4, ↓w_fall, true_and, and_true, true_implies, false_implies, not_true_eq_false, not_false_eq_true, Int.reduceEq, Int.reduceLT, Int.reduceLE, Int.reduceNeg, w_nlI, w_nlL, w_nlR, w_up1, w_up2, w_up3]
          have := quot (n - 1).toNat 0 (cw_fi (M1 342) (y_q n 0) 0 50) (by omega) (by omega) (fun j j0 j1 => by rw [fi_at j0 j1])
          rw [z1] at this
          exact this
        | succ l il =>
          intro k y4 hk k0
          have ik : in32 k := by unfold in32; omega
          have store : ∀ x : Int, x = y_q n 0 k → mJ g y_Mo_findRounds 38 [.inr (.inr 319), .inl S, .inl n, .inl k, y4] [.inl x, .inl k, .inr (.inr 342)] (cw_sf M1 342 (cw_fi (M1 342) (y_q n 0) 0 k)) (cw_hide (fun q M' => q = none ∧ (Sh M' ∧ ∀ a : Int, ¬ (340 ≤ a ∧ a ≤ 342) → M' a = M a) ∧ Rn (S + 1) M')) := by
            intro x hx
            refine k_Mo_findRounds_38 _ _ _ _ _ _ _ _ ?_
            simp (disch := omega) only [↓w_nil, ↓w_cons, ↓w_iast, ↓w_inc3, ↓w_goto, true_and, and_true, true_implies, false_implies, not_true_eq_false, not_false_eq_true, Int.reduceEq, Int.reduceLT, Int.reduceLE, Int.reduceNeg, w_nlI, w_nlL, w_nlR, w_up1, w_up2, w_up3, c_k319, c_k320, c_k321, c_k322, c_k323, c_k324, c_k325, c_k326, c_k327, c_k328, c_k329, c_k330, c_k331, c_k332, c_k333, c_k334, c_k335, c_k336, c_k337, c_k338, c_k339, c_k340, c_k341, c_k342, c_k343, c_k344, c_k345, c_k346, c_k347, hS1.r319_0, hS1.r319_1, hS1.r319_2, hS1.r319_3, hS1.r319_4, hS1.r319_5, hS1.r319_6, hS1.r319_8, hS1.r319_9, hS1.r319_10, hS1.r319_11, hS1.r319_12, hS1.r319_13, hS1.r319_14, hS1.r319_15, hS1.r319_16, hS1.r319_17, hS1.r319_20, hS1.r319_21, hS1.r319_22, hS1.r319_23, hS1.r319_24, hS1.r319_25, hS1.r319_26, hS1.r319_29, hS1.r319_30, hS1.r319_31, hS1.r319_32, w_sf1, w_sf3]
            repeat refine And.intro (by first | assumption | exact IsW.kt (by assumption) | omega | (unfold in32; omega) | (unfold in64; omega) | exact True.intro | exact Or.inl True.intro | exact Or.inr True.intro | rfl | exact Nat.le_of_ble_eq_true rfl) ?_
            try first | done | assumption | (unfold in32; omega) | (unfold in64; omega)
            rw [fi_up k0 hx]
            exact il (k + 1) y4 (by omega) (by omega)
          have qk := z3 k k0 (by omega)
          refine k_Mo_findRounds_9 _ _ _ _ _ _ _ _ ?_
          simp (disch := omega) only [↓w_nil, ↓w_cons, ↓w_ild3, ↓w_ic, ↓w_icge, true_and, and_true, true_implies, false_implies, not_true_eq_false, not_false_eq_true, Int.reduceEq, Int.reduceLT, Int.reduceLE, Int.reduceNeg, w_up1, w_up2, w_up3]
          repeat refine And.intro (by first | assumption | exact IsW.kt (by assumption) | omega | (unfold in32; omega) | (unfold in64; omega) | exact True.intro | exact Or.inl True.intro | exact Or.inr True.intro | rfl | exact Nat.le_of_ble_eq_true rfl) ?_
          try first | done | assumption | (unfold in32; omega) | (unfold in64; omega)
          intro _
          refine k_Mo_findRounds_15 _ _ _ _ _ _ _ _ ?_
          simp (disch := omega) only [↓w_nil, ↓w_cons, ↓w_ald0, ↓w_gf2_25, ↓w_ild3, ↓w_ild2, ↓w_icne, true_and, and_true, true_implies, false_implies, not_true_eq_false, not_false_eq_true, Int.reduceEq, Int.reduceLT, Int.reduceLE, Int.reduceNeg, w_up1, w_up2, w_up3, c_k319, c_k320, c_k321, c_k322, c_k323, c_k324, c_k325, c_k326, c_k327, c_k328, c_k329, c_k330, c_k331, c_k332, c_k333, c_k334, c_k335, c_k336, c_k337, c_k338, c_k339, c_k340, c_k341, c_k342, c_k343, c_k344, c_k345, c_k346, c_k347, hS1.r319_0, hS1.r319_1, hS1.r319_2, hS1.r319_3, hS1.r319_4, hS1.r319_5, hS1.r319_6, hS1.r319_8, hS1.r319_9, hS1.r319_10, hS1.r319_11, hS1.r319_12, hS1.r319_13, hS1.r319_14, hS1.r319_15, hS1.r319_16, hS1.r319_17, hS1.r319_20, hS1.r319_21, hS1.r319_22, hS1.r319_23, hS1.r319_24, hS1.r319_25, hS1.r319_26, hS1.r319_29, hS1.r319_30, hS1.r319_31, hS1.r319_32, w_sf1, w_sf3]
          repeat refine And.intro (by first | assumption | exact IsW.kt (by assumption) | omega | (unfold in32; omega) | (unfold in64; omega) | exact True.intro | exact Or.inl True.intro | exact Or.inr True.intro | rfl | exact Nat.le_of_ble_eq_true rfl) ?_
          try first | done | assumption | (unfold in32; omega) | (unfold in64; omega)
          refine ⟨fun hc => ?_, fun hc => ?_⟩
          · rw [if_neg hc] at qk
            refine k_Mo_findRounds_29 _ _ _ _ _ _ _ _ ?_
            simp (disch := omega) only [↓w_nil, ↓w_cons, ↓w_ild3, ↓w_ifne, true_and, and_true, true_implies, false_implies, not_true_eq_false, not_false_eq_true, Int.reduceEq, Int.reduceLT, Int.reduceLE, Int.reduceNeg, w_up1, w_up2, w_up3]
            repeat refine And.intro (by first | assumption | exact IsW.kt (by assumption) | omega | (unfold in32; omega) | (unfold in64; omega) | exact True.intro | exact Or.inl True.intro | exact Or.inr True.intro | rfl | exact Nat.le_of_ble_eq_true rfl) ?_
            try first | done | assumption | (unfold in32; omega) | (unfold in64; omega)
            refine ⟨fun hc2 => ?_, fun hc2 => ?_⟩
            · rw [if_neg hc2] at qk
              refine k_Mo_findRounds_37 _ _ _ _ _ _ _ _ ?_
              simp (disch := omega) only [↓w_nil, ↓w_cons, ↓w_ic, ↓w_fall, true_and, and_true, true_implies, false_implies, not_true_eq_false, not_false_eq_true, Int.reduceEq, Int.reduceLT, Int.reduceLE, Int.reduceNeg, w_up1, w_up2, w_up3]
              exact store 0 qk.symm
            · rw [if_pos hc2] at qk
              refine k_Mo_findRounds_33 _ _ _ _ _ _ _ _ ?_
              simp (disch := omega) only [↓w_nil, ↓w_cons, ↓w_ic, ↓w_goto, true_and, and_true, true_implies, false_implies, not_true_eq_false, not_false_eq_true, Int.reduceEq, Int.reduceLT, Int.reduceLE, Int.reduceNeg, w_up1, w_up2, w_up3]
              exact store (-1) qk.symm
          · rw [if_pos hc] at qk
            refine k_Mo_findRounds_25 _ _ _ _ _ _ _ _ ?_
            simp (disch := omega) only [↓w_nil, ↓w_cons, ↓w_ic, ↓w_goto, true_and, and_true, true_implies, false_implies, not_true_eq_false, not_false_eq_true, Int.reduceEq, Int.reduceLT, Int.reduceLE, Int.reduceNeg, w_up1, w_up2, w_up3]
            exact store 1 qk.symm
      refine k_Mo_findRounds_2 _ _ _ _ _ _ _ _ ?_
      simp (disch := omega) only [↓w_nil, ↓w_cons, ↓w_ild2, ↓w_ild1, ↓w_icgt, true_and, and_true, true_implies, false_implies, not_true_eq_false, not_false_eq_true, Int.reduceEq, Int.reduceLT, Int.reduceLE, Int.reduceNeg, w_up1, w_up2, w_up3]
      repeat refine And.intro (by first | assumption | exact IsW.kt (by assumption) | omega | (unfold in32; omega) | (unfold in64; omega) | exact True.intro | exact Or.inl True.intro | exact Or.inr True.intro | rfl | exact Nat.le_of_ble_eq_true rfl) ?_
      try first | done | assumption | (unfold in32; omega) | (unfold in64; omega)
      intro _
      refine k_Mo_findRounds_7 _ _ _ _ _ _ _ _ ?_
      simp (disch := omega) only [↓w_nil, ↓w_cons, ↓w_ic, ↓w_ist3, ↓w_fall, true_and, and_true, true_implies, false_implies, not_true_eq_false, not_false_eq_true, Int.reduceEq, Int.reduceLT, Int.reduceLE, Int.reduceNeg, w_nlI, w_nlL, w_nlR, w_up1, w_up2, w_up3]
      have := start 50 0 x4 (by omega) (by omega)
      rw [fi_0, sf_id] at this
      exact this
  refine k_Mo_findRounds_0 _ _ _ _ _ _ _ _ ?_
  simp (disch := omega) only [↓w_nil, ↓w_cons, ↓w_ic, ↓w_ist2, ↓w_fall, true_and, and_true, true_implies, false_implies, not_true_eq_false, not_false_eq_true, Int.reduceEq, Int.reduceLT, Int.reduceLE, Int.reduceNeg, w_nlI, w_nlL, w_nlR, w_up1, w_up2, w_up3]
  exact main S.toNat 1 cU cU M (by omega) (by omega) ⟨hS, fun _ _ => rfl⟩ (fun d d0 d1 => by omega)
