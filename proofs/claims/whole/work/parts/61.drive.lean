/-! the switched winding and the warm bodies, the class's side; by program (wip/whole/gen61.py) -/
theorem mul_bd {a b A B : Int} (h : -A ≤ a ∧ a ≤ A) (k : -B ≤ b ∧ b ≤ B) : -(A * B) ≤ a * b ∧ a * b ≤ A * B := by
  have hA : 0 ≤ A := by omega
  have hB : 0 ≤ B := by omega
  have h1 : a.natAbs ≤ A.natAbs := by omega
  have h2 : b.natAbs ≤ B.natAbs := by omega
  have h3 := Nat.mul_le_mul h1 h2
  rw [← Int.natAbs_mul, ← Int.natAbs_mul] at h3
  have h4 : 0 ≤ A * B := Int.mul_nonneg hA hB
  omega
theorem it_b {G : Int → Int} {h B i : Int} (hi : 0 ≤ i) (hG : ∀ j, 0 ≤ j → j < i → -B ≤ G j ∧ G j ≤ B) : h - i * B ≤ cw_it (fun a k => a + G k) h i ∧ cw_it (fun a k => a + G k) h i ≤ h + i * B := by
  have key : ∀ n : Nat, (n : Int) ≤ i → h - n * B ≤ cw_itN (fun a k => a + G k) h n ∧ cw_itN (fun a k => a + G k) h n ≤ h + n * B := by
    intro n
    induction n with
    | zero => intro _; show h - (0 : Int) * B ≤ h ∧ h ≤ h + (0 : Int) * B; omega
    | succ n ih =>
      intro hn
      have h1 := ih (by omega)
      have h2 := hG n (by omega) (by omega)
      have e : ((n + 1 : Nat) : Int) * B = n * B + B := by rw [show ((n + 1 : Nat) : Int) = (n : Int) + 1 by omega, Int.add_mul, Int.one_mul]
      rw [e]
      show h - (n * B + B) ≤ cw_itN (fun a k => a + G k) h n + G n ∧ cw_itN (fun a k => a + G k) h n + G n ≤ h + (n * B + B)
      omega
  have := key i.toNat (by omega)
  rw [show ((i.toNat : Nat) : Int) = i by omega] at this
  exact this
/-- one tick of the switched winding, on the row of the told state -/
def dt_on (f : Int → Int) : Int := if f 366 = 1 then (if f 363 ≤ f 365 then 0 else 1) else (if f 365 ≤ f 364 then 1 else 0)
def dt_i (f : Int → Int) : Int := max 0 (f 365 + ((if dt_on f = 1 then 1000 * f 360 else 0) - f 361 * f 365).tdiv (f 362))
def cw_dt (f : Int → Int) : Int → Int := fun k => if k = 365 then dt_i f else if k = 366 then dt_on f else if k = 367 then (if dt_on f = f 366 then f 367 else f 367 + 1) else if k = 368 then f 368 + 1 else f k
def cw_dn (f : Int → Int) : Nat → Int → Int := fun n => match n with
  | 0 => f
  | n + 1 => cw_dt (cw_dn f n)
def cw_dw (n : Int) (f : Int → Int) : Prop := (0 ≤ f 360 ∧ f 360 ≤ 10000) ∧ (0 ≤ f 361 ∧ f 361 ≤ 1000) ∧ (1 ≤ f 362 ∧ f 362 ≤ 100000) ∧ (0 ≤ f 363 ∧ f 363 ≤ 1000000) ∧ (0 ≤ f 364 ∧ f 364 ≤ f 363) ∧ (0 ≤ f 365 ∧ f 365 ≤ 11000000) ∧ (f 366 = 0 ∨ f 366 = 1) ∧ (0 ≤ f 367 ∧ f 367 ≤ f 368) ∧ (0 ≤ f 368 ∧ f 368 ≤ n)
theorem tdiv_bd {a d : Int} (hd : 1 ≤ d) : (0 ≤ a → 0 ≤ a.tdiv d ∧ a.tdiv d ≤ a) ∧ (a ≤ 0 → a ≤ a.tdiv d ∧ a.tdiv d ≤ 0) := by
  have key : ∀ a : Int, 0 ≤ a → 0 ≤ a.tdiv d ∧ a.tdiv d ≤ a := by
    intro a ha
    rw [Int.tdiv_eq_ediv_of_nonneg ha]
    refine ⟨Int.ediv_nonneg ha (by omega), ?_⟩
    exact Int.ediv_le_self _ ha
  refine ⟨key a, fun h => ?_⟩
  have := key (-a) (by omega)
  rw [Int.neg_tdiv] at this
  omega
theorem dt_bd {n : Int} {f : Int → Int} (h : cw_dw n f) : -22000000000 ≤ (if dt_on f = 1 then 1000 * f 360 else 0) - f 361 * f 365 ∧ (if dt_on f = 1 then 1000 * f 360 else 0) - f 361 * f 365 ≤ 10000000 := by
  obtain ⟨h0, h1, h2, h3, h4, h5, h6, h7, h8⟩ := h
  have a := mul_bd (a := f 361) (b := f 365) (A := 1000) (B := 11000000) (by omega) (by omega)
  have b := Int.mul_nonneg h1.1 h5.1
  split <;> omega
theorem dt_on2 {f : Int → Int} (h : f 366 = 0 ∨ f 366 = 1) : dt_on f = 0 ∨ dt_on f = 1 := by
  unfold dt_on; split <;> split <;> omega
theorem dt_dw {n : Int} {f : Int → Int} (h : cw_dw n f) : cw_dw (n + 1) (cw_dt f) := by
  have hb := dt_bd h
  obtain ⟨h0, h1, h2, h3, h4, h5, h6, h7, h8⟩ := id h
  have e := dt_on2 h6
  have q1 : cw_dt f 360 = f 360 := rfl
  have q2 : cw_dt f 361 = f 361 := rfl
  have q3 : cw_dt f 362 = f 362 := rfl
  have q4 : cw_dt f 363 = f 363 := rfl
  have q5 : cw_dt f 364 = f 364 := rfl
  have q6 : cw_dt f 365 = dt_i f := rfl
  have q7 : cw_dt f 366 = dt_on f := rfl
  have q8 : cw_dt f 367 = if dt_on f = f 366 then f 367 else f 367 + 1 := rfl
  have q9 : cw_dt f 368 = f 368 + 1 := rfl
  unfold cw_dw
  rw [q1, q2, q3, q4, q5, q6, q7, q8, q9]
  have hi : 0 ≤ dt_i f ∧ dt_i f ≤ 11000000 := by
    unfold dt_i
    have t := tdiv_bd (a := (if dt_on f = 1 then 1000 * f 360 else 0) - f 361 * f 365) (d := f 362) h2.1
    have nn := Int.mul_nonneg h1.1 h5.1
    by_cases ho : dt_on f = 1
    · rw [if_pos ho] at t hb ⊢
      have : f 365 ≤ 1000000 := by
        unfold dt_on at ho
        split at ho
        · split at ho <;> omega
        · split at ho <;> omega
      omega
    · rw [if_neg ho] at t hb ⊢
      omega
  refine ⟨h0, h1, h2, h3, h4, hi, e, ?_, by omega⟩
  split <;> omega
theorem dn_dw {n : Int} {f : Int → Int} (h : cw_dw n f) : ∀ t : Nat, cw_dw (n + t) (cw_dn f t)
  | 0 => by
    have e : n + ((0 : Nat) : Int) = n := by omega
    rw [e]; exact h
  | t + 1 => by
    have := dt_dw (dn_dw h t)
    rw [show n + ((t + 1 : Nat) : Int) = n + t + 1 by omega]
    exact this
/-- the cell of the switched winding holds what the row holds -/
def DR (M : cw_M) (f : Int → Int) : Prop := ∀ i : Int, 0 ≤ i → i < 9 → M 34 i = f (360 + i)
theorem up_sf {M : cw_M} {a k v : Int} : cw_up M a k v = cw_sf M a (fun k' => if k' = k then v else M a k') := rfl
theorem up2_sf {M : cw_M} {a k v k2 v2 : Int} : cw_up (cw_up M a k v) a k2 v2 = cw_sf M a (fun k' => if k' = k2 then v2 else if k' = k then v else M a k') := by
  funext b j
  rw [up_if, up_if, sf_if]
  by_cases h : b = a
  · rw [if_pos h]
    by_cases q : j = k2
    · rw [if_pos ⟨h, q⟩, if_pos q]
    · rw [if_neg (fun z => q z.2), if_neg q]
      by_cases r : j = k
      · rw [if_pos ⟨h, r⟩, if_pos r]
      · rw [if_neg (fun z => r z.2), if_neg r, h]
  · rw [if_neg (fun z => h z.1), if_neg (fun z => h z.1), if_neg h]
theorem sf_up {M : cw_M} {a k v : Int} {F : Int → Int} : cw_up (cw_sf M a F) a k v = cw_sf M a (fun k' => if k' = k then v else F k') := by
  rw [up_sf, sf_sf, sf_eq]

set_option maxHeartbeats 4000000 in
theorem p_Dr_tick {g : cw_G} {M : cw_M} {f : Int → Int} {n : Int} (hD : DR M f) (hw : cw_dw n f) (hn : n ≤ 1000000) :
    mC g y_Dr_tick [.inr (.inr 34)] M (fun q M' => q = none ∧ ∃ F, M' = cw_sf M 34 F ∧ ∀ i : Int, 0 ≤ i → i < 9 → F i = cw_dt f (360 + i)) := by
  have e0 : M 34 0 = f 360 := hD 0 (by omega) (by omega)
  have e1 : M 34 1 = f 361 := hD 1 (by omega) (by omega)
  have e2 : M 34 2 = f 362 := hD 2 (by omega) (by omega)
  have e3 : M 34 3 = f 363 := hD 3 (by omega) (by omega)
  have e4 : M 34 4 = f 364 := hD 4 (by omega) (by omega)
  have e5 : M 34 5 = f 365 := hD 5 (by omega) (by omega)
  have e6 : M 34 6 = f 366 := hD 6 (by omega) (by omega)
  have e7 : M 34 7 = f 367 := hD 7 (by omega) (by omega)
  have e8 : M 34 8 = f 368 := hD 8 (by omega) (by omega)
  have hbd := dt_bd hw
  obtain ⟨h0, h1, h2, h3, h4, h5, h6, h7, h8⟩ := id hw
  have e2' : max 1 (f 362) = f 362 := by omega
  have fin : ∀ (F : Int → Int), F 0 = f 360 → F 1 = f 361 → F 2 = f 362 → F 3 = f 363 → F 4 = f 364 → F 5 = dt_i f → F 6 = dt_on f → F 7 = (if dt_on f = f 366 then f 367 else f 367 + 1) → F 8 = f 368 + 1 → ∀ i : Int, 0 ≤ i → i < 9 → F i = cw_dt f (360 + i) := by
    intro F a0 a1 a2 a3 a4 a5 a6 a7 a8 i i0 i1
    rcases (show i = 0 ∨ i = 1 ∨ i = 2 ∨ i = 3 ∨ i = 4 ∨ i = 5 ∨ i = 6 ∨ i = 7 ∨ i = 8 by omega) with rfl | rfl | rfl | rfl | rfl | rfl | rfl | rfl | rfl <;> assumption
  -- behind the switch: from 62 on, with on and the switches as they are then
  have rear : ∀ (on sw : Int) (M1 : cw_M), on = dt_on f → sw = (if dt_on f = f 366 then f 367 else f 367 + 1) → (∃ F, M1 = cw_sf M 34 F ∧ F 0 = f 360 ∧ F 1 = f 361 ∧ F 2 = f 362 ∧ F 3 = f 363 ∧ F 4 = f 364 ∧ F 5 = f 365 ∧ F 6 = on ∧ F 7 = sw ∧ F 8 = f 368) →
      mJ g y_Dr_tick 62 [.inr (.inr 34), cU, cU] [] M1 (fun q M' => q = none ∧ ∃ F, M' = cw_sf M 34 F ∧ ∀ i : Int, 0 ≤ i → i < 9 → F i = cw_dt f (360 + i)) := by
    rintro on sw M1 ho hs ⟨F, rfl, a0, a1, a2, a3, a4, a5, a6, a7, a8⟩
    have o2 := dt_on2 h6
    have last : ∀ x : Int, x = (if dt_on f = 1 then 1000 * f 360 else 0) → mJ g y_Dr_tick 82 [.inr (.inr 34), cU, cU] [.inr (.inl x)] (cw_sf M 34 F) (fun q M' => q = none ∧ ∃ F, M' = cw_sf M 34 F ∧ ∀ i : Int, 0 ≤ i → i < 9 → F i = cw_dt f (360 + i)) := by
      intro x hx
      have hx2 : -22000000000 ≤ x - f 361 * f 365 ∧ x - f 361 * f 365 ≤ 10000000 := by rw [hx]; exact hbd
      have i1 : in64 (x - f 361 * f 365) := ⟨by omega, by omega⟩
      have t := tdiv_bd (a := x - f 361 * f 365) (d := f 362) h2.1
      have i2 : in64 (f 365 + (x - f 361 * f 365).tdiv (f 362)) := by
        generalize (x - f 361 * f 365).tdiv (f 362) = y at *
        generalize x - f 361 * f 365 = z at *
        unfold in64
        by_cases hz : 0 ≤ z
        · have := t.1 hz; omega
        · have := t.2 (by omega); omega
      clear t
      refine cw_J_hide ?_
      refine k_Dr_tick_82w _ _ _ _ _ _ _ _ ?_
      simp (disch := omega) only [↓w_nil, ↓w_cons, ↓w_ald0, ↓w_gf0_1, ↓w_i2l, ↓w_gf1_5, ↓w_lmul, ↓w_lsub, ↓w_lst1, ↓w_lc, ↓w_lld1, ↓w_ic, ↓w_gf0_2, ↓w_maxIw, ↓w_ldiv, ↓w_ladd, ↓w_maxJw, ↓w_pfL_5, ↓w_dupI, ↓w_dupR, ↓w_gf0_8, ↓w_iadd, ↓w_pfI_8, ↓w_vret, true_and, and_true, true_implies, false_implies, not_true_eq_false, not_false_eq_true, Int.reduceEq, Int.reduceLT, Int.reduceLE, Int.reduceNeg, w_nlI, w_nlL, w_nlR, w_c80, w_c8I, w_c8L, w_c8R, w_up1, w_up2, w_up3, w_sf1, a0, a1, a2, a3, a4, a5, a6, a7, a8, c_k34, e2']
      repeat refine And.intro (by first | assumption | exact IsW.kt (by assumption) | omega | (unfold in32; omega) | (unfold in64; omega) | exact True.intro | exact Or.inl True.intro | exact Or.inr True.intro | rfl | exact Nat.le_of_ble_eq_true rfl) ?_
      try first | done | assumption | (unfold in32; omega) | (unfold in64; omega)
      refine ⟨_, by rw [sf_up, sf_up], ?_⟩
      refine fin _ ?_ ?_ ?_ ?_ ?_ ?_ ?_ ?_ ?_
      · exact a0
      · exact a1
      · exact a2
      · exact a3
      · exact a4
      · show max 0 (f 365 + (x - f 361 * f 365).tdiv (f 362)) = dt_i f
        rw [hx]; rfl
      · show F 6 = _
        rw [a6, ho]
      · show F 7 = _
        rw [a7, hs]
      · rfl
    refine k_Dr_tick_62 _ _ _ _ _ _ _ _ ?_
    simp (disch := omega) only [↓w_nil, ↓w_cons, ↓w_ald0, ↓w_gf3_6, ↓w_ifeq, true_and, and_true, true_implies, false_implies, not_true_eq_false, not_false_eq_true, Int.reduceEq, Int.reduceLT, Int.reduceLE, Int.reduceNeg, w_up1, w_up2, w_up3, w_sf1, a6, c_k34]
    repeat refine And.intro (by first | assumption | exact IsW.kt (by assumption) | omega | (unfold in32; omega) | (unfold in64; omega) | exact True.intro | exact Or.inl True.intro | exact Or.inr True.intro | rfl | exact Nat.le_of_ble_eq_true rfl) ?_
    try first | done | assumption | (unfold in32; omega) | (unfold in64; omega)
    refine ⟨fun hc => ?_, fun hc => ?_⟩
    · refine k_Dr_tick_81 _ _ _ _ _ _ _ _ ?_
      simp (disch := omega) only [↓w_nil, ↓w_cons, ↓w_lc, ↓w_fall, true_and, and_true, true_implies, false_implies, not_true_eq_false, not_false_eq_true, Int.reduceEq, Int.reduceLT, Int.reduceLE, Int.reduceNeg, w_up1, w_up2, w_up3]
      exact last 0 (by rw [if_neg (by omega)])
    · refine k_Dr_tick_69 _ _ _ _ _ _ _ _ ?_
      simp (disch := omega) only [↓w_nil, ↓w_cons, ↓w_lc, ↓w_ald0, ↓w_gf0_0, ↓w_i2l, ↓w_lmul, ↓w_goto, true_and, and_true, true_implies, false_implies, not_true_eq_false, not_false_eq_true, Int.reduceEq, Int.reduceLT, Int.reduceLE, Int.reduceNeg, w_up1, w_up2, w_up3, w_sf1, a0, c_k34]
      repeat refine And.intro (by first | assumption | exact IsW.kt (by assumption) | omega | (unfold in32; omega) | (unfold in64; omega) | exact True.intro | exact Or.inl True.intro | exact Or.inr True.intro | rfl | exact Nat.le_of_ble_eq_true rfl) ?_
      try first | done | assumption | (unfold in32; omega) | (unfold in64; omega)
      exact last _ (by rw [if_pos (by omega)])
  have stay : dt_on f = f 366 → mJ g y_Dr_tick 62 [.inr (.inr 34), cU, cU] [] M (fun q M' => q = none ∧ ∃ F, M' = cw_sf M 34 F ∧ ∀ i : Int, 0 ≤ i → i < 9 → F i = cw_dt f (360 + i)) := by
    intro ho
    exact rear (f 366) (f 367) M ho.symm (by rw [if_pos ho]) ⟨M 34, sf_id.symm, e0, e1, e2, e3, e4, e5, e6, e7, e8⟩
  have turn : dt_on f = 1 - f 366 → mJ g y_Dr_tick 36 [.inr (.inr 34), cU, cU] [] M (fun q M' => q = none ∧ ∃ F, M' = cw_sf M 34 F ∧ ∀ i : Int, 0 ≤ i → i < 9 → F i = cw_dt f (360 + i)) := by
    intro ho
    have go : ∀ x : Int, x = 1 - f 366 → mJ g y_Dr_tick 49 [.inr (.inr 34), cU, cU] [.inl x, .inr (.inr 34)] M (fun q M' => q = none ∧ ∃ F, M' = cw_sf M 34 F ∧ ∀ i : Int, 0 ≤ i → i < 9 → F i = cw_dt f (360 + i)) := by
      intro x hx
      refine k_Dr_tick_49 _ _ _ _ _ _ _ _ ?_
      simp (disch := omega) only [↓w_nil, ↓w_cons, ↓w_pfZ_6, ↓w_ald0, ↓w_dupI, ↓w_dupR, ↓w_gf0_7, ↓w_ic, ↓w_iadd, ↓w_pfI_7, ↓w_fall, true_and, and_true, true_implies, false_implies, not_true_eq_false, not_false_eq_true, Int.reduceEq, Int.reduceLT, Int.reduceLE, Int.reduceNeg, w_up1, w_up2, w_up3, e0, e1, e2, e3, e4, e5, e6, e7, e8, c_k34]
      repeat refine And.intro (by first | assumption | exact IsW.kt (by assumption) | omega | (unfold in32; omega) | (unfold in64; omega) | exact True.intro | exact Or.inl True.intro | exact Or.inr True.intro | rfl | exact Nat.le_of_ble_eq_true rfl) ?_
      try first | done | assumption | (unfold in32; omega) | (unfold in64; omega)
      refine rear x (f 367 + 1) _ (by omega) (by rw [if_neg (by omega)]) ⟨_, up2_sf, e0, e1, e2, e3, e4, e5, rfl, rfl, e8⟩
    refine k_Dr_tick_36 _ _ _ _ _ _ _ _ ?_
    simp (disch := omega) only [↓w_nil, ↓w_cons, ↓w_ald0, ↓w_gf3_6, ↓w_ifne, true_and, and_true, true_implies, false_implies, not_true_eq_false, not_false_eq_true, Int.reduceEq, Int.reduceLT, Int.reduceLE, Int.reduceNeg, w_up1, w_up2, w_up3, e0, e1, e2, e3, e4, e5, e6, e7, e8, c_k34]
    repeat refine And.intro (by first | assumption | exact IsW.kt (by assumption) | omega | (unfold in32; omega) | (unfold in64; omega) | exact True.intro | exact Or.inl True.intro | exact Or.inr True.intro | rfl | exact Nat.le_of_ble_eq_true rfl) ?_
    try first | done | assumption | (unfold in32; omega) | (unfold in64; omega)
    refine ⟨fun hc => ?_, fun hc => ?_⟩
    · refine k_Dr_tick_48 _ _ _ _ _ _ _ _ ?_
      simp (disch := omega) only [↓w_nil, ↓w_cons, ↓w_ic, ↓w_fall, true_and, and_true, true_implies, false_implies, not_true_eq_false, not_false_eq_true, Int.reduceEq, Int.reduceLT, Int.reduceLE, Int.reduceNeg, w_up1, w_up2, w_up3]
      exact go 0 (by omega)
    · refine k_Dr_tick_44 _ _ _ _ _ _ _ _ ?_
      simp (disch := omega) only [↓w_nil, ↓w_cons, ↓w_ic, ↓w_goto, true_and, and_true, true_implies, false_implies, not_true_eq_false, not_false_eq_true, Int.reduceEq, Int.reduceLT, Int.reduceLE, Int.reduceNeg, w_up1, w_up2, w_up3]
      exact go 1 (by omega)
  refine cw_C_of (L := [.inr (.inr 34), cU, cU]) ok_Dr_tick (Nat.le_refl _) (Nat.le_of_ble_eq_true rfl) rfl ?_
  refine k_Dr_tick_0 _ _ _ _ _ _ _ _ ?_
  simp (disch := omega) only [↓w_nil, ↓w_cons, ↓w_ald0, ↓w_gf3_6, ↓w_ifeq, true_and, and_true, true_implies, false_implies, not_true_eq_false, not_false_eq_true, Int.reduceEq, Int.reduceLT, Int.reduceLE, Int.reduceNeg, w_up1, w_up2, w_up3, e0, e1, e2, e3, e4, e5, e6, e7, e8, c_k34]
  repeat refine And.intro (by first | assumption | exact IsW.kt (by assumption) | omega | (unfold in32; omega) | (unfold in64; omega) | exact True.intro | exact Or.inl True.intro | exact Or.inr True.intro | rfl | exact Nat.le_of_ble_eq_true rfl) ?_
  try first | done | assumption | (unfold in32; omega) | (unfold in64; omega)
  refine ⟨fun hc => ?_, fun hc => ?_⟩
  · refine k_Dr_tick_23 _ _ _ _ _ _ _ _ ?_
    simp (disch := omega) only [↓w_nil, ↓w_cons, ↓w_ald0, ↓w_gf1_5, ↓w_gf0_4, ↓w_i2l, ↓w_lcgt, true_and, and_true, true_implies, false_implies, not_true_eq_false, not_false_eq_true, Int.reduceEq, Int.reduceLT, Int.reduceLE, Int.reduceNeg, w_up1, w_up2, w_up3, e0, e1, e2, e3, e4, e5, e6, e7, e8, c_k34]
    repeat refine And.intro (by first | assumption | exact IsW.kt (by assumption) | omega | (unfold in32; omega) | (unfold in64; omega) | exact True.intro | exact Or.inl True.intro | exact Or.inr True.intro | rfl | exact Nat.le_of_ble_eq_true rfl) ?_
    try first | done | assumption | (unfold in32; omega) | (unfold in64; omega)
    refine ⟨fun hd => ?_, fun hd => ?_⟩
    · exact stay (by unfold dt_on; rw [if_neg (by omega), if_neg (by omega)]; omega)
    · exact turn (by unfold dt_on; rw [if_neg (by omega), if_pos (by omega)]; omega)
  · refine k_Dr_tick_7 _ _ _ _ _ _ _ _ ?_
    simp (disch := omega) only [↓w_nil, ↓w_cons, ↓w_ald0, ↓w_gf1_5, ↓w_gf0_3, ↓w_i2l, ↓w_lclt, true_and, and_true, true_implies, false_implies, not_true_eq_false, not_false_eq_true, Int.reduceEq, Int.reduceLT, Int.reduceLE, Int.reduceNeg, w_up1, w_up2, w_up3, e0, e1, e2, e3, e4, e5, e6, e7, e8, c_k34]
    repeat refine And.intro (by first | assumption | exact IsW.kt (by assumption) | omega | (unfold in32; omega) | (unfold in64; omega) | exact True.intro | exact Or.inl True.intro | exact Or.inr True.intro | rfl | exact Nat.le_of_ble_eq_true rfl) ?_
    try first | done | assumption | (unfold in32; omega) | (unfold in64; omega)
    refine ⟨fun hd => ?_, fun hd => ?_⟩
    · exact stay (by unfold dt_on; rw [if_pos (by omega), if_neg (by omega)]; omega)
    · refine k_Dr_tick_20 _ _ _ _ _ _ _ _ ?_
      simp (disch := omega) only [↓w_nil, ↓w_goto, true_and, and_true, true_implies, false_implies, not_true_eq_false, not_false_eq_true, Int.reduceEq, Int.reduceLT, Int.reduceLE, Int.reduceNeg, w_up1, w_up2, w_up3]
      exact turn (by unfold dt_on; rw [if_pos (by omega), if_pos (by omega)]; omega)
