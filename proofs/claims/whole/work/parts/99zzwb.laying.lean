/-! what the constructors lay: the memory W; equal where it can be seen -/
theorem arrV_cg {A : ClassId} {n : Nat} {f f' : Nat → Value} (h : ∀ j, j < n → f' j = f j) : arrV A n f' = arrV A n f := by
  unfold arrV
  have e : (fun j : Fin n => f' j.val) = fun j : Fin n => f j.val := funext fun j => h j.val j.isLt
  rw [e]
theorem cw_vp_cg {g : cw_G} {A : ClassId} {n t : Nat} {f f' : Int → Int} (h : ∀ k : Int, 0 ≤ k → k < n → f' k = f k) : vp_cell A (n, cw_ct g t f') = vp_cell A (n, cw_ct g t f) := by
  match t with
  | 0 => exact arrV_cg (fun j hj => by show Value.int (Int32.ofInt (f' j)) = Value.int (Int32.ofInt (f j)); rw [h j (Int.natCast_nonneg j) (Int.ofNat_lt.mpr hj)])
  | 1 => exact arrV_cg (fun j hj => by show Value.long (Int64.ofInt (f' j)) = Value.long (Int64.ofInt (f j)); rw [h j (Int.natCast_nonneg j) (Int.ofNat_lt.mpr hj)])
  | 2 => exact arrV_cg (fun j hj => by show Value.int (Int32.ofInt (f' j)) = Value.int (Int32.ofInt (f j)); rw [h j (Int.natCast_nonneg j) (Int.ofNat_lt.mpr hj)])
  | t + 3 => exact arrV_cg (fun j hj => by show va_rf (cw_ro g (f' j)) = va_rf (cw_ro g (f j)); rw [h j (Int.natCast_nonneg j) (Int.ofNat_lt.mpr hj)])
def cw_vis (n : Nat) (M M' : cw_M) : Prop := ∀ b : Int, 0 ≤ b → b < n → ∀ k : Int, 0 ≤ k → k < cw_vs b.toNat → M' b k = M b k
theorem cw_H_vis {g : cw_G} {n : Nat} {M M' : cw_M} {H : Heap} (hH : cw_H g n M H) (v : cw_vis n M M') : cw_H g n M' H := by
  refine ⟨hH.1, fun k q hk => ?_⟩
  have hl : k < n := by
    have := (List.getElem?_eq_some_iff.mp hk).1
    simpa [cw_w] using this
  rw [cw_w_get hl] at hk
  cases hk
  have h0 := hH.2 k _ (cw_w_get hl)
  have vk : ∀ j : Int, 0 ≤ j → j < cw_vs k → M' k j = M k j := fun j a b => v k (by omega) (by omega) j a b
  by_cases hc : (cw_kn k).1 < 20
  · have e : cw_E g M' k = cw_E g M k := by
      unfold cw_E
      rw [if_pos hc, if_pos hc]
      congr 2
      unfold cw_fs
      refine List.map_congr_left (fun j hj => ?_)
      rw [vk j (by omega) (by unfold cw_vs; rw [if_pos hc]; have := List.mem_range.mp hj; omega)]
    rw [e]; exact h0
  · unfold cw_E at h0 ⊢
    rw [if_neg hc] at h0 ⊢
    have h0 : H[cw_B g + k]? = some (vp_cell (cw_dA g ((cw_kn k).1 - 20)) ((cw_kn k).2, cw_ct g ((cw_kn k).1 - 20) (M k))) := h0
    show H[cw_B g + k]? = some (vp_cell (cw_dA g ((cw_kn k).1 - 20)) ((cw_kn k).2, cw_ct g ((cw_kn k).1 - 20) (M' k)))
    rw [h0, cw_vp_cg (fun j a b => vk j a (by unfold cw_vs; rw [if_neg hc]; exact b))]
theorem cw_J_vis {g : cw_G} {y : cw_Y} {n0 n1 nx pc : Nat} {L S : List cw_V} {M M' : cw_M} {Q : Option cw_V → cw_M → Prop} (v : cw_vis nx M M') (h : cw_J g y n0 n1 nx pc L S M' Q) : cw_J g y n0 n1 nx pc L S M Q :=
  fun p e R s m args below meth c mc ms X N H locs ls hH hS hL => h p e R s m args below meth c mc ms X N H locs ls (cw_H_vis hH v) hS hL
theorem cw_C_vis {g : cw_G} {y : cw_Y} {args : List cw_V} {M W' : cw_M} {nx e : Nat} {r : Option cw_V} (h : cw_C g y args M nx e (fun q M' => q = r ∧ cw_vis e M' W')) : cw_C g y args M nx e (fun q M' => q = r ∧ M' = W') := by
  refine ⟨h.1, MetFree.mono h.2 (fun _ _ q => q) (fun _ _ _ _ _ q => q) (fun a s o t _ q => ?_)⟩
  obtain ⟨⟨⟨r', M', h1, ⟨h2, hv⟩, h3⟩, h4⟩, h5⟩ := q
  exact ⟨⟨⟨r', W', h1, ⟨h2, rfl⟩, cw_H_vis h3 hv⟩, h4⟩, h5⟩
/-- cell, place, number: what isn't nought and no lasting reference -/
def cw_cs : List (Int × Int × Int) := [(31, 0, 12), (34, 2, 1), (34, 3, 1000), (34, 4, 900), (34, 6, 1), (37, 0, 10), (37, 1, 10), (37, 2, 10), (37, 3, 10), (39, 0, 1), (39, 1, 1), (39, 2, 1), (39, 3, 1), (78, 0, 12), (81, 2, 1), (81, 3, 1000), (81, 4, 900), (81, 6, 1), (84, 0, 10), (84, 1, 10), (84, 2, 10), (84, 3, 10), (86, 0, 1), (86, 1, 1), (86, 2, 1), (86, 3, 1), (124, 0, 12), (127, 2, 1), (127, 3, 1000), (127, 4, 900), (127, 6, 1), (130, 0, 10), (130, 1, 10), (130, 2, 10), (130, 3, 10), (132, 0, 1), (132, 1, 1), (132, 2, 1), (132, 3, 1), (148, 2, -1), (282, 1, 1), (282, 2, 1), (283, 0, 1), (295, 1, 1), (295, 2, 1), (296, 0, 1), (308, 1, 1), (308, 2, 1), (309, 0, 1), (324, 4, 12), (324, 362, 1), (324, 363, 1000), (324, 364, 900), (324, 366, 1), (324, 371, 10), (324, 375, 10), (324, 379, 10), (324, 383, 10), (324, 373, 1), (324, 377, 1), (324, 381, 1), (324, 385, 1)]
def cw_con (b k : Int) : Int := ((cw_cs.find? (fun t => decide (t.1 = b ∧ t.2.1 = k))).map (fun t => t.2.2)).getD 0
def cw_sp (b : Int) : Bool := cw_cs.any (fun t => decide (t.1 = b))
def cw_W : cw_M := fun b k => if cw_rs b k = true then cw_rv b k else cw_con b k
theorem con_z {b k : Int} (h : cw_sp b = false) : cw_con b k = 0 := by
  unfold cw_con
  have e : cw_cs.find? (fun t => decide (t.1 = b ∧ t.2.1 = k)) = none := by
    refine List.find?_eq_none.mpr (fun x hx hq => ?_)
    have q := of_decide_eq_true hq
    have : cw_sp b = true := List.any_eq_true.mpr ⟨x, hx, decide_eq_true q.1⟩
    rw [h] at this; cases this
  rw [e]; rfl
def cw_za (c : Int) : Bool := decide (20 ≤ (cw_kt cw_NX c).1 ∧ (cw_kt cw_NX c).1 < 23) && !cw_sp c
theorem W_z {c k : Int} (h : cw_za c = true) : cw_W c k = 0 := by
  obtain ⟨h1, h2⟩ := Bool.and_eq_true_iff.mp h
  have h1 := of_decide_eq_true h1
  have h2 : cw_sp c = false := by cases q : cw_sp c with
    | true => rw [q] at h2; cases h2
    | false => rfl
  have hr : cw_rs c k = false := by
    unfold cw_rs
    rw [if_neg (by omega)]
    exact decide_eq_false (by omega)
  unfold cw_W
  rw [hr]
  exact con_z h2
theorem W_sh : Sh cw_W := fun a k h => by unfold cw_W; rw [if_pos h]
def cw_mx (M : cw_M) (a e : Int) : cw_M := fun b => if a ≤ b ∧ b < e then cw_W b else M b
theorem mx_in {M : cw_M} {a e b k : Int} (h : a ≤ b ∧ b < e) : cw_mx M a e b k = cw_W b k := by unfold cw_mx; rw [if_pos h]
theorem mx_out {M : cw_M} {a e b k : Int} (h : ¬ (a ≤ b ∧ b < e)) : cw_mx M a e b k = M b k := by unfold cw_mx; rw [if_neg h]
theorem ml_0 {M : cw_M} {nx a k : Int} (h : 0 ≤ k ∧ k < a) : cw_ml M nx a nx k = nx + 1 + k := by unfold cw_ml; rw [if_pos rfl, if_pos h]
theorem ml_r {M : cw_M} {nx a c k : Int} (h : nx < c ∧ c ≤ nx + a) : cw_ml M nx a c k = 0 := by unfold cw_ml; rw [if_neg (by omega), if_pos h]
theorem ml_o {M : cw_M} {nx a c k : Int} (h : ¬ (c = nx ∨ (nx < c ∧ c ≤ nx + a))) : cw_ml M nx a c k = M c k := by unfold cw_ml; rw [if_neg (by omega), if_neg (by omega)]
/-- a new whole number -/
def cw_wh (M : cw_M) (a : Int) : cw_M := fun b => if b = a then (fun k => if k = 0 then a + 1 else 0) else if b = a + 1 then (fun _ => 0) else M b
theorem wh_0 {M : cw_M} {a k : Int} : cw_wh M a a k = if k = 0 then a + 1 else 0 := by unfold cw_wh; rw [if_pos rfl]
theorem wh_1 {M : cw_M} {a c k : Int} (h : c = a + 1) : cw_wh M a c k = 0 := by unfold cw_wh; rw [if_neg (by omega), if_pos h]
theorem wh_o {M : cw_M} {a c k : Int} (h : ¬ (a ≤ c ∧ c ≤ a + 1)) : cw_wh M a c k = M c k := by unfold cw_wh; rw [if_neg (by omega), if_neg (by omega)]
theorem kt_of {n k : Nat} {a : Int} {q : Nat × Nat} (h : cw_kn k = q) (ha : a = k) (hk : k < n) : cw_kt n a = q := by
  unfold cw_kt
  rw [if_pos (by omega), ha]
  exact h
theorem vs_of {k : Nat} {a : Int} {ci : Nat} (h : cw_kn k = (ci, 0)) (hc : ci < 20) (ha : a = k) : cw_vs a.toNat = cw_cN ci := by
  rw [ha]; show cw_vs k = _; unfold cw_vs; rw [h]; exact if_pos hc
theorem i_Wh {g : cw_G} {M : cw_M} {a : Nat} {x : Int} (hx : x = a) (h1 : cw_kn a = (10, 0)) (h2 : cw_kn (a + 1) = (21, 16)) (h0 : M x = cw_zr 10) : cw_C g y_Wh_init [.inr (.inr x)] M (a + 1) (a + 2) (fun q M' => q = none ∧ M' = cw_wh M x) := by
  refine cw_C_vis ?_
  refine cw_C_of (L := [.inr (.inr x)]) ok_Wh_init (by omega) (Nat.le_of_ble_eq_true rfl) rfl ?_
  refine cw_J_hide ?_
  have k1 : cw_kt (a + 2) x = (10, 0) := kt_of h1 hx (by omega)
  have v1 : cw_vs x.toNat = 3 := vs_of h1 (by omega) hx
  refine k_Wh_init_0 _ _ _ _ _ _ _ _ ?_
  simp (disch := omega) only [↓w_nil, ↓w_cons, ↓w_ald0, ↓w_oi, true_and, and_true, true_implies, false_implies, not_true_eq_false, not_false_eq_true, Int.reduceEq, Int.reduceLT, Int.reduceLE, Int.reduceNeg, w_c80, w_c8I, w_c8L, w_c8R, w_up1, w_up2, w_up3]
  repeat refine And.intro (by first | decide +kernel | assumption | omega | (unfold in32; omega) | (unfold in64; omega) | exact True.intro | exact Or.inl True.intro | exact Or.inr True.intro | rfl) ?_
  try first | done | assumption | omega
  refine k_Wh_init_4 _ _ _ _ _ _ _ _ ?_
  simp (disch := omega) only [↓w_nil, ↓w_cons, ↓w_ald0, ↓w_ic, ↓w_na, true_and, and_true, true_implies, false_implies, not_true_eq_false, not_false_eq_true, Int.reduceEq, Int.reduceLT, Int.reduceLE, Int.reduceNeg, w_up1, w_up2, w_up3]
  repeat refine And.intro (by first | decide +kernel | assumption | omega | (unfold in32; omega) | (unfold in64; omega) | exact True.intro | exact Or.inl True.intro | exact Or.inr True.intro | rfl) ?_
  try first | done | assumption | omega
  try refine ⟨⟨h2, by omega, by omega⟩, by omega, ?_⟩
  intro b n' hb hn
  have e2 : n' = a + 2 := by omega
  subst e2
  have eb : b = x + 1 := by omega
  subst eb
  refine k_Wh_init_9 _ _ _ _ _ _ _ _ ?_
  simp (disch := omega) only [↓w_nil, ↓w_cons, ↓w_pfR_0, ↓w_vret, true_and, and_true, true_implies, false_implies, not_true_eq_false, not_false_eq_true, Int.reduceEq, Int.reduceLT, Int.reduceLE, Int.reduceNeg, w_up1, w_up2, w_up3, k1]
  repeat refine And.intro (by first | decide +kernel | assumption | omega | (unfold in32; omega) | (unfold in64; omega) | exact True.intro | exact Or.inl True.intro | exact Or.inr True.intro | rfl) ?_
  try first | done | assumption | omega
  try unfold cw_hide
  try refine ⟨rfl, ?_⟩
  intro c c0 c1 k q0 q1
  by_cases e1 : c = x
  · subst e1
    rw [v1] at q1
    rw [wh_0]
    rcases (show k = 0 ∨ k = 1 ∨ k = 2 by omega) with rfl | rfl | rfl
    · rw [w_up1]; rfl
    · rw [w_up2 (by omega), w_sf3 (by omega), h0, if_neg (by omega)]; decide
    · rw [w_up2 (by omega), w_sf3 (by omega), h0, if_neg (by omega)]; decide
  · by_cases e2 : c = x + 1
    · rw [wh_1 e2, w_up3 e1, e2, w_sf1]
    · rw [wh_o (by omega), w_up3 e1, w_sf3 e2]
/-- the rows of whole numbers -/
def cw_whl (M : cw_M) (nx i : Int) : cw_M := fun b => if b = nx then (fun k => if 0 ≤ k ∧ k < i then nx + 1 + 2 * k else -1) else if nx < b ∧ b ≤ nx + 2 * i then (if (b - nx) % 2 = 1 then (fun k => if k = 0 then b + 1 else 0) else fun _ => 0) else M b
theorem whl_o {M : cw_M} {nx i c k : Int} (h1 : nx < c ∧ c ≤ nx + 2 * i) (h2 : (c - nx) % 2 = 1) : cw_whl M nx i c k = if k = 0 then c + 1 else 0 := by unfold cw_whl; rw [if_neg (by omega), if_pos h1, if_pos h2]
theorem whl_e {M : cw_M} {nx i c k : Int} (h1 : nx < c ∧ c ≤ nx + 2 * i) (h2 : ¬ (c - nx) % 2 = 1) : cw_whl M nx i c k = 0 := by unfold cw_whl; rw [if_neg (by omega), if_pos h1, if_neg h2]
theorem whl_u {M : cw_M} {nx i c k : Int} (h0 : ¬ c = nx) (h1 : ¬ (nx < c ∧ c ≤ nx + 2 * i)) : cw_whl M nx i c k = M c k := by unfold cw_whl; rw [if_neg h0, if_neg h1]
theorem whl_0 {M : cw_M} {nx i k : Int} (h : 0 ≤ k ∧ k < i) : cw_whl M nx i nx k = nx + 1 + 2 * k := by unfold cw_whl; rw [if_pos rfl, if_pos h]
theorem i_wholes {g : cw_G} {M : cw_M} {nx n : Nat} (h0 : cw_kn nx = (23, n)) (hn : n ≤ 100) (hk : ∀ i : Nat, i < n → cw_kn (nx + 1 + 2 * i) = (10, 0) ∧ cw_kn (nx + 1 + 2 * i + 1) = (21, 16)) : cw_C g y_Re_wholes [.inl (n : Int)] M nx (nx + 1 + 2 * n) (fun q M' => q = some (.inr (.inr (nx : Int))) ∧ M' = cw_whl M nx n) := by
  refine cw_C_of (L := [.inl (n : Int), cU, cU]) ok_Re_wholes (by omega) (Nat.le_of_ble_eq_true rfl) rfl ?_
  refine cw_J_hide ?_
  have loop : ∀ (d i : Nat), i + d = n → cw_J g y_Re_wholes nx (nx + 1 + 2 * n) (nx + 1 + 2 * i) 7 [.inl (n : Int), .inr (.inr (nx : Int)), .inl (i : Int)] [] (cw_whl M nx i) (cw_hide (fun q M' => q = some (.inr (.inr (nx : Int))) ∧ M' = cw_whl M nx n)) := by
    intro d
    induction d with
    | zero =>
      intro i hi
      have e : i = n := by omega
      subst e
      refine k_Re_wholes_7 _ _ _ _ _ _ _ _ ?_
      simp (disch := omega) only [↓w_nil, ↓w_cons, ↓w_ild2, ↓w_ild0, ↓w_icge, true_and, and_true, true_implies, false_implies, not_true_eq_false, not_false_eq_true, Int.reduceEq, Int.reduceLT, Int.reduceLE, Int.reduceNeg, w_up1, w_up2, w_up3]
      repeat refine And.intro (by first | decide +kernel | assumption | omega | (unfold in32; omega) | (unfold in64; omega) | exact True.intro | exact Or.inl True.intro | exact Or.inr True.intro | rfl) ?_
      try first | done | assumption | omega
      first | refine ⟨fun _ => ?_, fun z => absurd z (by omega)⟩ | intro _
      refine k_Re_wholes_28 _ _ _ _ _ _ _ _ ?_
      simp (disch := omega) only [↓w_nil, ↓w_cons, ↓w_ald1, ↓w_aret, true_and, and_true, true_implies, false_implies, not_true_eq_false, not_false_eq_true, Int.reduceEq, Int.reduceLT, Int.reduceLE, Int.reduceNeg, w_up1, w_up2, w_up3]
      repeat refine And.intro (by first | decide +kernel | assumption | omega | (unfold in32; omega) | (unfold in64; omega) | exact True.intro | exact Or.inl True.intro | exact Or.inr True.intro | rfl) ?_
      try first | done | assumption | omega
      try unfold cw_hide
      first | exact ⟨rfl, rfl⟩ | rfl
    | succ d ih =>
      intro i hi
      obtain ⟨h1, h2⟩ := hk i (by omega)
      refine k_Re_wholes_7 _ _ _ _ _ _ _ _ ?_
      simp (disch := omega) only [↓w_nil, ↓w_cons, ↓w_ild2, ↓w_ild0, ↓w_icge, true_and, and_true, true_implies, false_implies, not_true_eq_false, not_false_eq_true, Int.reduceEq, Int.reduceLT, Int.reduceLE, Int.reduceNeg, w_up1, w_up2, w_up3]
      repeat refine And.intro (by first | decide +kernel | assumption | omega | (unfold in32; omega) | (unfold in64; omega) | exact True.intro | exact Or.inl True.intro | exact Or.inr True.intro | rfl) ?_
      try first | done | assumption | omega
      first | refine ⟨fun z => absurd z (by omega), fun _ => ?_⟩ | intro _
      refine k_Re_wholes_12 _ _ _ _ _ _ _ _ ?_
      simp (disch := omega) only [↓w_nil, ↓w_cons, ↓w_ald1, ↓w_ild2, ↓w_new, true_and, and_true, true_implies, false_implies, not_true_eq_false, not_false_eq_true, Int.reduceEq, Int.reduceLT, Int.reduceLE, Int.reduceNeg, w_up1, w_up2, w_up3]
      repeat refine And.intro (by first | decide +kernel | assumption | omega | (unfold in32; omega) | (unfold in64; omega) | exact True.intro | exact Or.inl True.intro | exact Or.inr True.intro | rfl) ?_
      try first | done | assumption | omega
      try refine ⟨h1, by omega, ?_⟩
      intro b n' hb hn'
      subst hb
      subst hn'
      refine k_Re_wholes_17 _ _ _ _ _ _ _ _ ?_
      simp (disch := omega) only [↓w_nil, ↓w_cons, ↓w_dupI, ↓w_dupR, ↓w_ci, true_and, and_true, true_implies, false_implies, not_true_eq_false, not_false_eq_true, Int.reduceEq, Int.reduceLT, Int.reduceLE, Int.reduceNeg, w_c80, w_c8I, w_c8L, w_c8R, w_up1, w_up2, w_up3]
      repeat refine And.intro (by first | decide +kernel | assumption | omega | (unfold in32; omega) | (unfold in64; omega) | exact True.intro | exact Or.inl True.intro | exact Or.inr True.intro | rfl) ?_
      try first | done | assumption | omega
      refine ⟨_, _, i_Wh (a := nx + 1 + 2 * i) rfl h1 h2 sf_eq, by omega, ?_⟩
      rintro r9 M9 ⟨rfl, rfl⟩
      have ka : cw_kt (nx + 1 + 2 * i + 2) (nx : Int) = (23, n) := kt_of h0 rfl (by omega)
      have kw : cw_kt (nx + 1 + 2 * i + 2) ((nx + 1 + 2 * i : Nat) : Int) = (10, 0) := kt_of h1 rfl (by omega)
      refine k_Re_wholes_21 _ _ _ _ _ _ _ _ ?_
      simp (disch := omega) only [↓w_nil, ↓w_cons, ↓w_aast, ↓w_inc2, ↓w_goto, true_and, and_true, true_implies, false_implies, not_true_eq_false, not_false_eq_true, Int.reduceEq, Int.reduceLT, Int.reduceLE, Int.reduceNeg, w_nlI, w_nlL, w_nlR, w_up1, w_up2, w_up3, w_tl0, ka, kw]
      repeat refine And.intro (by first | decide +kernel | assumption | omega | (unfold in32; omega) | (unfold in64; omega) | exact True.intro | exact Or.inl True.intro | exact Or.inr True.intro | rfl) ?_
      try first | done | assumption | omega
      have em : cw_up (cw_wh (cw_sf (cw_whl M nx i) ((nx + 1 + 2 * i : Nat) : Int) (cw_zr 10)) ((nx + 1 + 2 * i : Nat) : Int)) nx i ((nx + 1 + 2 * i : Nat) : Int) = cw_whl M nx ((i + 1 : Nat) : Int) := by
        funext c k
        by_cases e1 : c = nx
        · subst e1
          rw [cw_up_eq]
          unfold cw_whl
          rw [if_pos rfl]
          by_cases e2 : k = i
          · rw [if_pos e2, if_pos (by omega)]; omega
          · rw [if_neg e2, wh_o (by omega), w_sf3 (by omega), if_pos rfl]
            by_cases e3 : 0 ≤ k ∧ k < i
            · rw [if_pos e3, if_pos (by omega)]
            · rw [if_neg e3, if_neg (by omega)]
        · rw [w_up3 e1]
          by_cases e2 : c = ((nx + 1 + 2 * i : Nat) : Int)
          · rw [whl_o (by omega) (by omega), e2, wh_0]
          · by_cases e3 : c = ((nx + 1 + 2 * i : Nat) : Int) + 1
            · rw [wh_1 e3, whl_e (by omega) (by omega)]
            · rw [wh_o (by omega), w_sf3 e2]
              by_cases e4 : (nx : Int) < c ∧ c ≤ nx + 2 * i
              · by_cases e5 : (c - nx) % 2 = 1
                · rw [whl_o e4 e5, whl_o (by omega) e5]
                · rw [whl_e e4 e5, whl_e (by omega) e5]
              · rw [whl_u e1 e4, whl_u e1 (by omega)]
      rw [em, show nx + 1 + 2 * i + 2 = nx + 1 + 2 * (i + 1) by omega]
      exact ih (i + 1) (by omega)
  refine k_Re_wholes_0 _ _ _ _ _ _ _ _ ?_
  simp (disch := omega) only [↓w_nil, ↓w_cons, ↓w_ild0, ↓w_an, true_and, and_true, true_implies, false_implies, not_true_eq_false, not_false_eq_true, Int.reduceEq, Int.reduceLT, Int.reduceLE, Int.reduceNeg, w_up1, w_up2, w_up3]
  repeat refine And.intro (by first | decide +kernel | assumption | omega | (unfold in32; omega) | (unfold in64; omega) | exact True.intro | exact Or.inl True.intro | exact Or.inr True.intro | rfl) ?_
  try first | done | assumption | omega
  try refine ⟨⟨by rw [h0]; rfl, by omega, by omega⟩, by omega, ?_⟩
  intro b n' hb hn'
  subst hb
  subst hn'
  refine k_Re_wholes_4 _ _ _ _ _ _ _ _ ?_
  simp (disch := omega) only [↓w_nil, ↓w_cons, ↓w_ast1, ↓w_ic, ↓w_ist2, ↓w_fall, true_and, and_true, true_implies, false_implies, not_true_eq_false, not_false_eq_true, Int.reduceEq, Int.reduceLT, Int.reduceLE, Int.reduceNeg, w_nlI, w_nlL, w_nlR, w_up1, w_up2, w_up3]
  repeat refine And.intro (by first | decide +kernel | assumption | omega | (unfold in32; omega) | (unfold in64; omega) | exact True.intro | exact Or.inl True.intro | exact Or.inr True.intro | rfl) ?_
  try first | done | assumption | omega
  have em : cw_sf M (nx : Int) (fun _ => -1) = cw_whl M nx ((0 : Nat) : Int) := by
    funext c k
    unfold cw_whl
    by_cases e1 : c = nx
    · subst e1
      rw [w_sf1, if_pos rfl, if_neg (by omega)]
    · rw [w_sf3 e1, if_neg e1, if_neg (by omega)]
  rw [em]
  exact loop n 0 (by omega)
theorem i_wholesI {g : cw_G} {M : cw_M} {nx n : Nat} {x i : Int} (hx : x = nx) (hi : i = n) (h0 : cw_kn nx = (23, n)) (hn : n ≤ 100) (hk : ∀ i : Nat, i < n → cw_kn (nx + 1 + 2 * i) = (10, 0) ∧ cw_kn (nx + 1 + 2 * i + 1) = (21, 16)) : cw_C g y_Re_wholes [.inl i] M nx (nx + 1 + 2 * n) (fun q M' => q = some (.inr (.inr x)) ∧ M' = cw_whl M x i) := by
  subst hx
  subst hi
  exact i_wholes h0 hn hk
/-- 1 is put where nothing lay -/
theorem i_fin {g : cw_G} {M : cw_M} {w : Int} {nx : Nat} (hp : 0 ≤ w) (hw : cw_kt nx w = (10, 0)) (hl : cw_kt nx (w + 1) = (21, 16)) (h : M w 0 = w + 1) (h0 : M (w + 1) 0 = 1) (h1 : M (w + 1) 1 = 0) (h2 : M (w + 1) 2 = 0) :
    cw_C g y_Wh_finish [.inr (.inr w), .inl 3, .inl 1] M nx nx (fun q M' => q = none ∧ M' = cw_up (cw_up (cw_up (cw_up M w 1 3) w 1 2) w 1 1) w 2 1) := by
  refine cw_C_of (L := [.inr (.inr w), .inl 3, .inl 1]) ok_Wh_finish (Nat.le_refl _) (Nat.le_of_ble_eq_true rfl) rfl ?_
  refine cw_J_hide ?_
  refine k_Wh_finish_0 _ _ _ _ _ _ _ _ ?_
  simp (disch := omega) only [↓w_nil, ↓w_cons, ↓w_ald0, ↓w_ild1, ↓w_pfI_1, ↓w_fall, true_and, and_true, true_implies, false_implies, not_true_eq_false, not_false_eq_true, Int.reduceEq, Int.reduceLT, Int.reduceLE, Int.reduceNeg, w_up1, w_up2, w_up3]
  repeat refine And.intro (by first | decide +kernel | assumption | omega | (unfold in32; omega) | (unfold in64; omega) | exact True.intro | exact Or.inl True.intro | exact Or.inr True.intro | rfl) ?_
  try first | done | assumption | omega
  refine k_Wh_finish_5 _ _ _ _ _ _ _ _ ?_
  simp (disch := omega) only [↓w_nil, ↓w_cons, ↓w_ald0, ↓w_gf0_1, ↓w_ifle, true_and, and_true, true_implies, false_implies, not_true_eq_false, not_false_eq_true, Int.reduceEq, Int.reduceLT, Int.reduceLE, Int.reduceNeg, w_up1, w_up2, w_up3]
  repeat refine And.intro (by first | decide +kernel | assumption | omega | (unfold in32; omega) | (unfold in64; omega) | exact True.intro | exact Or.inl True.intro | exact Or.inr True.intro | rfl) ?_
  try first | done | assumption | omega
  refine k_Wh_finish_12 _ _ _ _ _ _ _ _ ?_
  simp (disch := omega) only [↓w_nil, ↓w_cons, ↓w_ald0, ↓w_gf2_0, ↓w_gf0_1, ↓w_ic, ↓w_isub, ↓w_lald, ↓w_lc, ↓w_lcne, true_and, and_true, true_implies, false_implies, not_true_eq_false, not_false_eq_true, Int.reduceEq, Int.reduceLT, Int.reduceLE, Int.reduceNeg, w_up1, w_up2, w_up3, h, h2, hw, hl, Int.reduceSub]
  repeat refine And.intro (by first | decide +kernel | assumption | omega | (unfold in32; omega) | (unfold in64; omega) | exact True.intro | exact Or.inl True.intro | exact Or.inr True.intro | rfl) ?_
  try first | done | assumption | omega
  refine k_Wh_finish_28 _ _ _ _ _ _ _ _ ?_
  simp (disch := omega) only [↓w_nil, ↓w_cons, ↓w_ald0, ↓w_dupI, ↓w_dupR, ↓w_gf0_1, ↓w_ic, ↓w_isub, ↓w_pfI_1, ↓w_goto, true_and, and_true, true_implies, false_implies, not_true_eq_false, not_false_eq_true, Int.reduceEq, Int.reduceLT, Int.reduceLE, Int.reduceNeg, w_up1, w_up2, w_up3, hw, Int.reduceSub]
  repeat refine And.intro (by first | decide +kernel | assumption | omega | (unfold in32; omega) | (unfold in64; omega) | exact True.intro | exact Or.inl True.intro | exact Or.inr True.intro | rfl) ?_
  try first | done | assumption | omega
  refine k_Wh_finish_5 _ _ _ _ _ _ _ _ ?_
  simp (disch := omega) only [↓w_nil, ↓w_cons, ↓w_ald0, ↓w_gf0_1, ↓w_ifle, true_and, and_true, true_implies, false_implies, not_true_eq_false, not_false_eq_true, Int.reduceEq, Int.reduceLT, Int.reduceLE, Int.reduceNeg, w_up1, w_up2, w_up3]
  repeat refine And.intro (by first | decide +kernel | assumption | omega | (unfold in32; omega) | (unfold in64; omega) | exact True.intro | exact Or.inl True.intro | exact Or.inr True.intro | rfl) ?_
  try first | done | assumption | omega
  refine k_Wh_finish_12 _ _ _ _ _ _ _ _ ?_
  simp (disch := omega) only [↓w_nil, ↓w_cons, ↓w_ald0, ↓w_gf2_0, ↓w_gf0_1, ↓w_ic, ↓w_isub, ↓w_lald, ↓w_lc, ↓w_lcne, true_and, and_true, true_implies, false_implies, not_true_eq_false, not_false_eq_true, Int.reduceEq, Int.reduceLT, Int.reduceLE, Int.reduceNeg, w_up1, w_up2, w_up3, h, h1, hw, hl, Int.reduceSub]
  repeat refine And.intro (by first | decide +kernel | assumption | omega | (unfold in32; omega) | (unfold in64; omega) | exact True.intro | exact Or.inl True.intro | exact Or.inr True.intro | rfl) ?_
  try first | done | assumption | omega
  refine k_Wh_finish_28 _ _ _ _ _ _ _ _ ?_
  simp (disch := omega) only [↓w_nil, ↓w_cons, ↓w_ald0, ↓w_dupI, ↓w_dupR, ↓w_gf0_1, ↓w_ic, ↓w_isub, ↓w_pfI_1, ↓w_goto, true_and, and_true, true_implies, false_implies, not_true_eq_false, not_false_eq_true, Int.reduceEq, Int.reduceLT, Int.reduceLE, Int.reduceNeg, w_up1, w_up2, w_up3, hw, Int.reduceSub]
  repeat refine And.intro (by first | decide +kernel | assumption | omega | (unfold in32; omega) | (unfold in64; omega) | exact True.intro | exact Or.inl True.intro | exact Or.inr True.intro | rfl) ?_
  try first | done | assumption | omega
  refine k_Wh_finish_5 _ _ _ _ _ _ _ _ ?_
  simp (disch := omega) only [↓w_nil, ↓w_cons, ↓w_ald0, ↓w_gf0_1, ↓w_ifle, true_and, and_true, true_implies, false_implies, not_true_eq_false, not_false_eq_true, Int.reduceEq, Int.reduceLT, Int.reduceLE, Int.reduceNeg, w_up1, w_up2, w_up3]
  repeat refine And.intro (by first | decide +kernel | assumption | omega | (unfold in32; omega) | (unfold in64; omega) | exact True.intro | exact Or.inl True.intro | exact Or.inr True.intro | rfl) ?_
  try first | done | assumption | omega
  refine k_Wh_finish_12 _ _ _ _ _ _ _ _ ?_
  simp (disch := omega) only [↓w_nil, ↓w_cons, ↓w_ald0, ↓w_gf2_0, ↓w_gf0_1, ↓w_ic, ↓w_isub, ↓w_lald, ↓w_lc, ↓w_lcne, true_and, and_true, true_implies, false_implies, not_true_eq_false, not_false_eq_true, Int.reduceEq, Int.reduceLT, Int.reduceLE, Int.reduceNeg, w_up1, w_up2, w_up3, h, h0, hw, hl, Int.reduceSub]
  repeat refine And.intro (by first | decide +kernel | assumption | omega | (unfold in32; omega) | (unfold in64; omega) | exact True.intro | exact Or.inl True.intro | exact Or.inr True.intro | rfl) ?_
  try first | done | assumption | omega
  refine k_Wh_finish_41 _ _ _ _ _ _ _ _ ?_
  simp (disch := omega) only [↓w_nil, ↓w_cons, ↓w_ald0, ↓w_gf0_1, ↓w_ifne, true_and, and_true, true_implies, false_implies, not_true_eq_false, not_false_eq_true, Int.reduceEq, Int.reduceLT, Int.reduceLE, Int.reduceNeg, w_up1, w_up2, w_up3]
  repeat refine And.intro (by first | decide +kernel | assumption | omega | (unfold in32; omega) | (unfold in64; omega) | exact True.intro | exact Or.inl True.intro | exact Or.inr True.intro | rfl) ?_
  try first | done | assumption | omega
  refine k_Wh_finish_53 _ _ _ _ _ _ _ _ ?_
  simp (disch := omega) only [↓w_nil, ↓w_cons, ↓w_ild2, ↓w_fall, true_and, and_true, true_implies, false_implies, not_true_eq_false, not_false_eq_true, Int.reduceEq, Int.reduceLT, Int.reduceLE, Int.reduceNeg, w_up1, w_up2, w_up3]
  refine k_Wh_finish_54 _ _ _ _ _ _ _ _ ?_
  simp (disch := omega) only [↓w_nil, ↓w_cons, ↓w_pfI_2, ↓w_vret, true_and, and_true, true_implies, false_implies, not_true_eq_false, not_false_eq_true, Int.reduceEq, Int.reduceLT, Int.reduceLE, Int.reduceNeg, w_up1, w_up2, w_up3]
  repeat refine And.intro (by first | decide +kernel | assumption | omega | (unfold in32; omega) | (unfold in64; omega) | exact True.intro | exact Or.inl True.intro | exact Or.inr True.intro | rfl) ?_
  try first | done | assumption | omega
  try unfold cw_hide
  first | exact ⟨rfl, rfl⟩ | rfl
theorem i_put {g : cw_G} {M : cw_M} {w : Int} {nx : Nat} (hp : 0 ≤ w) (hw : cw_kt nx w = (10, 0)) (hl : cw_kt nx (w + 1) = (21, 16)) (h : M w 0 = w + 1) :
    cw_C g y_Wh_put [.inr (.inr w), .inr (.inl 1)] M nx nx (fun q M' => q = none ∧ M' = cw_up (cw_up (cw_up (cw_up (cw_up (cw_up (cw_up M (w + 1) 0 1) (w + 1) 1 0) (w + 1) 2 0) w 1 3) w 1 2) w 1 1) w 2 1) := by
  refine cw_C_of (L := [.inr (.inr w), .inr (.inl 1), cU, cU, cU]) ok_Wh_put (Nat.le_refl _) (Nat.le_of_ble_eq_true rfl) rfl ?_
  refine cw_J_hide ?_
  have p30 : (2 : Int) ^ (30 : Int).toNat = 1073741824 := by decide
  have p60 : (2 : Int) ^ (60 : Int).toNat = 1152921504606846976 := by decide
  have ea : cw_ab 1 = 1 := by decide
  refine k_Wh_put_0 _ _ _ _ _ _ _ _ ?_
  simp (disch := omega) only [↓w_nil, ↓w_cons, ↓w_lld1, ↓w_absJ, ↓w_lst3, ↓w_ald0, ↓w_gf2_0, ↓w_ic, ↓w_lld3, ↓w_lc, ↓w_land, ↓w_last, ↓w_lushr, ↓w_lcge, true_and, and_true, true_implies, false_implies, not_true_eq_false, not_false_eq_true, Int.reduceEq, Int.reduceLT, Int.reduceLE, Int.reduceNeg, w_nlI, w_nlL, w_nlR, w_c80, w_c8I, w_c8L, w_c8R, w_up1, w_up2, w_up3, h, hw, hl, and30, p30, p60, ea, Int.reduceDiv, Int.reduceMod]
  repeat refine And.intro (by first | decide +kernel | assumption | omega | (unfold in32; omega) | (unfold in64; omega) | exact True.intro | exact Or.inl True.intro | exact Or.inr True.intro | rfl) ?_
  try first | done | assumption | omega
  refine k_Wh_put_52 _ _ _ _ _ _ _ _ ?_
  simp (disch := omega) only [↓w_nil, ↓w_cons, ↓w_ic, ↓w_fall, true_and, and_true, true_implies, false_implies, not_true_eq_false, not_false_eq_true, Int.reduceEq, Int.reduceLT, Int.reduceLE, Int.reduceNeg, w_up1, w_up2, w_up3]
  repeat refine And.intro (by first | decide +kernel | assumption | omega | (unfold in32; omega) | (unfold in64; omega) | exact True.intro | exact Or.inl True.intro | exact Or.inr True.intro | rfl) ?_
  try first | done | assumption | omega
  refine k_Wh_put_53 _ _ _ _ _ _ _ _ ?_
  simp (disch := omega) only [↓w_nil, ↓w_cv2, true_and, and_true, true_implies, false_implies, not_true_eq_false, not_false_eq_true, Int.reduceEq, Int.reduceLT, Int.reduceLE, Int.reduceNeg, w_c80, w_c8I, w_c8L, w_c8R, w_up1, w_up2, w_up3]
  repeat refine And.intro (by first | decide +kernel | assumption | omega | (unfold in32; omega) | (unfold in64; omega) | exact True.intro | exact Or.inl True.intro | exact Or.inr True.intro | rfl) ?_
  try first | done | assumption | omega
  refine ⟨_, i_fin hp hw hl (by rw [w_up3 (by omega), w_up3 (by omega), w_up3 (by omega)]; exact h) (by rw [w_up2 (by omega), w_up2 (by omega), w_up1]) (by rw [w_up2 (by omega), w_up1]) (by rw [w_up1]), ?_⟩
  rintro r9 M9 ⟨rfl, rfl⟩
  refine k_Wh_put_56 _ _ _ _ _ _ _ _ ?_
  simp (disch := omega) only [↓w_nil, ↓w_vret, true_and, and_true, true_implies, false_implies, not_true_eq_false, not_false_eq_true, Int.reduceEq, Int.reduceLT, Int.reduceLE, Int.reduceNeg, w_up1, w_up2, w_up3, w_tl0]
  repeat refine And.intro (by first | decide +kernel | assumption | omega | (unfold in32; omega) | (unfold in64; omega) | exact True.intro | exact Or.inl True.intro | exact Or.inr True.intro | rfl) ?_
  try first | done | assumption | omega
  try unfold cw_hide
  first | exact ⟨rfl, rfl⟩ | rfl
theorem i_putI {g : cw_G} {M : cw_M} {w w1 : Int} {nx : Nat} (e : w1 = w + 1) (hp : 0 ≤ w) (hw : cw_kt nx w = (10, 0)) (hl : cw_kt nx w1 = (21, 16)) (h : M w 0 = w1) :
    cw_C g y_Wh_put [.inr (.inr w), .inr (.inl 1)] M nx nx (fun q M' => q = none ∧ M' = cw_up (cw_up (cw_up (cw_up (cw_up (cw_up (cw_up M w1 0 1) w1 1 0) w1 2 0) w 1 3) w 1 2) w 1 1) w 2 1) := by
  subst e
  exact i_put hp hw hl h
