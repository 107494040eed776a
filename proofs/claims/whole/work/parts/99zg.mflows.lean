/-! the reference: flows -/
/-- nodes of P, pieces of L alone may have changed -/
def Gd (P L : Int → Prop) (M M' : cw_M) : Prop := Sh M' ∧ (∀ a, ¬ (320 ≤ a ∧ a ≤ 323) → a ≠ 333 → a ≠ 335 → a ≠ 336 → M' a = M a) ∧ (∀ j, ¬ P j → M' 333 j = M 333 j) ∧ (∀ p, ¬ L p → M' 335 p = M 335 p ∧ M' 336 p = M 336 p) ∧ ∀ s, IR s → s ≠ 0 → s ≠ 1 → s ≠ 14 → (∀ j, P j → s ≠ 158 + j) → (∀ p, L p → s ≠ 16 + p ∧ s ≠ 24 + p) → sR M M' s
theorem Gd.rf {P L : Int → Prop} {M : cw_M} (h : Sh M) : Gd P L M M := ⟨h, fun _ _ _ _ _ => rfl, fun _ _ => rfl, fun _ _ => ⟨rfl, rfl⟩, fun _ _ _ _ _ _ _ => sR.rf⟩
theorem Gd.tr {P L : Int → Prop} {M M1 M2 : cw_M} (h : Gd P L M M1) (k : Gd P L M1 M2) : Gd P L M M2 := ⟨k.1, fun a x y z w => (k.2.1 a x y z w).trans (h.2.1 a x y z w), fun j hj => (k.2.2.1 j hj).trans (h.2.2.1 j hj), fun p hp => ⟨(k.2.2.2.1 p hp).1.trans (h.2.2.2.1 p hp).1, (k.2.2.2.1 p hp).2.trans (h.2.2.2.1 p hp).2⟩, fun s a b c d e i => (h.2.2.2.2 s a b c d e i).tr (k.2.2.2.2 s a b c d e i)⟩
theorem Gd.mo {P L P' L' : Int → Prop} {M M1 : cw_M} (h : Gd P L M M1) (k : ∀ j, P j → P' j) (l : ∀ p, L p → L' p) : Gd P' L' M M1 := ⟨h.1, h.2.1, fun j hj => h.2.2.1 j (fun z => hj (k j z)), fun p hp => h.2.2.2.1 p (fun z => hp (l p z)), fun s a b c d e i => h.2.2.2.2 s a b c d (fun j z => e j (k j z)) (fun p z => i p (l p z))⟩
theorem gd_rf {P L R : Int → Prop} {M M1 : cw_M} (hS : Sh M) (h : cw_rf R M M1) (hR : ∀ s, R s → s = 0 ∨ s = 1 ∨ s = 14 ∨ (∃ j, P j ∧ s = 158 + j) ∨ ∃ p, L p ∧ (s = 16 + p ∨ s = 24 + p)) : Gd P L M M1 := by
  refine ⟨hS.rf h, fun a x y z w => h.1 a x, fun j _ => by rw [h.1 333 (by omega)], fun p _ => ⟨by rw [h.1 335 (by omega)], by rw [h.1 336 (by omega)]⟩, fun s a b c d e i => h.2 s a (fun q => ?_)⟩
  rcases hR s q with z | z | z | ⟨j, z1, z2⟩ | ⟨p, z1, z2⟩
  · exact b z
  · exact c z
  · exact d z
  · exact e j z1 z2
  · rcases z2 with z2 | z2
    · exact (i p z1).1 z2
    · exact (i p z1).2 z2
theorem gd_up {P L : Int → Prop} {M M1 : cw_M} {a k v : Int} (h : Gd P L M M1) (ha : (a = 333 ∧ P k) ∨ ((a = 335 ∨ a = 336) ∧ L k)) : Gd P L M (cw_up M1 a k v) := by
  have n : ∀ c : Int, ¬ (c = 333 ∨ c = 335 ∨ c = 336) → (cw_up M1 a k v) c = M1 c := fun c hc => cw_up_ne (fun z => hc (by omega))
  refine ⟨h.1.up ?_, fun c x y z w => by rw [n c (by omega)]; exact h.2.1 c x y z w, fun j hj => ?_, fun p hp => ?_, fun s b c d e i l => ?_⟩
  · rcases ha with ⟨rfl, _⟩ | ⟨rfl | rfl, _⟩
    · exact rs_k c_k333 (by decide)
    · exact rs_k c_k335 (by decide)
    · exact rs_k c_k336 (by decide)
  · by_cases q : a = 333
    · subst q
      rw [w_up2 (fun z => hj (by rw [z]; exact (ha.resolve_right (fun y => by omega)).2))]; exact h.2.2.1 j hj
    · rw [cw_up_ne (Ne.symm q)]; exact h.2.2.1 j hj
  · have o := h.2.2.2.1 p hp
    rcases ha with ⟨rfl, _⟩ | ⟨rfl | rfl, hk⟩
    · rw [cw_up_ne (by omega), cw_up_ne (by omega)]; exact o
    · rw [w_up2 (fun z => hp (by rw [z]; exact hk)), cw_up_ne (by omega)]; exact o
    · rw [w_up2 (fun z => hp (by rw [z]; exact hk)), cw_up_ne (by omega)]; exact o
  · have o := h.2.2.2.2 s b c d e i l
    refine ⟨by rw [n 321 (by omega)]; exact o.1, by rw [n 322 (by omega)]; exact o.2.1, fun j x y => ?_⟩
    have := o.2.2 j x y
    unfold cw_rd at this ⊢
    rw [n 320 (by omega)]; exact this
theorem fl_pr {x y : Int} (hx : -848305681973849664000000 ≤ x ∧ x ≤ 848305681973849664000000) (hy : 0 ≤ y ∧ y ≤ 13254776280841401) : -20000000000000000000000000000000000000000 ≤ x * y ∧ x * y ≤ 20000000000000000000000000000000000000000 := by
  have := ab_mb (a := 848305681973849664000000) (b := 13254776280841401) hx ⟨by omega, hy.2⟩
  omega
theorem b40 {x : Int} (h : -50000000000000000000000000000000000000000 ≤ x ∧ x ≤ 50000000000000000000000000000000000000000) : cw_ab x < 1073741824 ^ 31 := Int.lt_trans (ab_lt (b := 60000000000000000000000000000000000000000) (by omega)) (by decide)
theorem b24 {x : Int} (h : -900000000000000000000000 ≤ x ∧ x ≤ 900000000000000000000000) : cw_ab x < 1073741824 ^ 3 := Int.lt_trans (ab_lt (b := 1000000000000000000000000) (by omega)) (by decide)
theorem dv_x {q x y : Int} (hq : 1 ≤ q) (h : y = q * x) : y.tdiv q = x := by rw [h]; exact Int.mul_tdiv_cancel_left x (by omega)
/-- a road: what flows, by what its path drops -/
theorem p_Mo_flowsR {g : cw_G} {M : cw_M} {i up w u x : Int} {v : V3} (hS : Sh M) (hi : 0 ≤ i ∧ i < 64) (hu : 0 ≤ up ∧ up < 64) (hK : M 327 i = 1) (hw : M 333 i = w) (hwb : 0 ≤ w ∧ w ≤ 13254776280841401) (hv : nv M i v) (hb : (1 ≤ v.1 ∧ 1 ≤ v.2.1 ∧ v.1 + v.2.1 ≤ 13254776280841401) ∧ (-742267471727118456000000 ≤ v.2.2 ∧ v.2.2 ≤ 742267471727118456000000)) (hU : RM M (158 + up) u) (ub : -848305681973849664000000 ≤ u ∧ u ≤ 848305681973849664000000) (hx : u * v.1 + v.2.2 * w = v.2.1 * x) :
    mC g y_Mo_flows [.inr (.inr 319), .inl i, .inl up] M (fun q M' => q = none ∧ Gd (fun j => j = i) (fun _ => False) M M' ∧ RM M' (158 + i) x ∧ M' 333 = M 333) := by
  have p1 := fl_pr (x := u) (y := v.1) ub (by omega)
  have p2 := fl_pr (x := v.2.2) (y := w) (by omega) hwb
  have e331 := hv.1
  have e332 := hv.2.1
  refine cw_C_of (L := [.inr (.inr 319), .inl i, .inl up, cU]) ok_Mo_flows (Nat.le_refl _) (Nat.le_of_ble_eq_true rfl) rfl ?_
  refine cw_J_hide ?_
  refine k_Mo_flows_0 _ _ _ _ _ _ _ _ ?_
  simp (disch := omega) only [↓w_nil, ↓w_cons, ↓w_ald0, ↓w_ic, ↓w_ild1, ↓w_iadd, ↓w_gf2_14, ↓w_lald, ↓w_cv3, true_and, and_true, true_implies, false_implies, not_true_eq_false, not_false_eq_true, Int.reduceEq, Int.reduceLT, Int.reduceLE, Int.reduceNeg, w_c80, w_c8I, w_c8L, w_c8R, w_up1, w_up2, w_up3, hw, c_k319, c_k320, c_k321, c_k322, c_k323, c_k324, c_k325, c_k326, c_k327, c_k328, c_k329, c_k330, c_k331, c_k332, c_k333, c_k334, c_k335, c_k336, c_k337, c_k338, c_k339, c_k340, c_k341, c_k342, c_k343, c_k344, c_k345, c_k346, c_k347, hS.r319_0, hS.r319_1, hS.r319_2, hS.r319_3, hS.r319_4, hS.r319_5, hS.r319_6, hS.r319_8, hS.r319_9, hS.r319_10, hS.r319_11, hS.r319_12, hS.r319_13, hS.r319_14, hS.r319_15, hS.r319_16, hS.r319_17, hS.r319_20, hS.r319_21, hS.r319_22, hS.r319_23, hS.r319_24, hS.r319_25, hS.r319_26, hS.r319_29, hS.r319_30, hS.r319_31, hS.r319_32, w_sf1, w_sf3]
  repeat refine And.intro (by first | assumption | exact IsW.kt (by assumption) | omega | (unfold in32; omega) | (unfold in64; omega) | exact True.intro | exact Or.inl True.intro | exact Or.inr True.intro | rfl | exact Nat.le_of_ble_eq_true rfl) ?_
  try first | done | assumption | (unfold in32; omega) | (unfold in64; omega)
  refine ⟨_, p_Mo_timesLong (ia := 3) hS ⟨by omega, by omega⟩ ⟨by omega, by omega⟩ (by omega) hv.2.2 (b24 (by omega)) (by omega) (by omega), ?_⟩
  rintro q M2 ⟨rfl, g2, r2⟩
  have hS2 := hS.rf r2
  have k2 : ∀ a : Int, ¬ (320 ≤ a ∧ a ≤ 323) → M2 a = M a := fun a z => r2.1 a z
  have e327 : M2 327 i = 1 := by rw [k2 327 (by omega)]; exact hK
  have e331' : M2 331 i = v.1 := by rw [k2 331 (by omega)]; exact e331
  refine k_Mo_flows_15 _ _ _ _ _ _ _ _ ?_
  simp (disch := omega) only [↓w_nil, ↓w_cons, ↓w_ald0, ↓w_gf2_8, ↓w_ild1, ↓w_iald, ↓w_ic, ↓w_icne, true_and, and_true, true_implies, false_implies, not_true_eq_false, not_false_eq_true, Int.reduceEq, Int.reduceLT, Int.reduceLE, Int.reduceNeg, w_up1, w_up2, w_up3, w_tl0, e327, c_k319, c_k320, c_k321, c_k322, c_k323, c_k324, c_k325, c_k326, c_k327, c_k328, c_k329, c_k330, c_k331, c_k332, c_k333, c_k334, c_k335, c_k336, c_k337, c_k338, c_k339, c_k340, c_k341, c_k342, c_k343, c_k344, c_k345, c_k346, c_k347, hS2.r319_0, hS2.r319_1, hS2.r319_2, hS2.r319_3, hS2.r319_4, hS2.r319_5, hS2.r319_6, hS2.r319_8, hS2.r319_9, hS2.r319_10, hS2.r319_11, hS2.r319_12, hS2.r319_13, hS2.r319_14, hS2.r319_15, hS2.r319_16, hS2.r319_17, hS2.r319_20, hS2.r319_21, hS2.r319_22, hS2.r319_23, hS2.r319_24, hS2.r319_25, hS2.r319_26, hS2.r319_29, hS2.r319_30, hS2.r319_31, hS2.r319_32, w_sf1, w_sf3]
  repeat refine And.intro (by first | assumption | exact IsW.kt (by assumption) | omega | (unfold in32; omega) | (unfold in64; omega) | exact True.intro | exact Or.inl True.intro | exact Or.inr True.intro | rfl | exact Nat.le_of_ble_eq_true rfl) ?_
  try first | done | assumption | (unfold in32; omega) | (unfold in64; omega)
  refine k_Mo_flows_25 _ _ _ _ _ _ _ _ ?_
  simp (disch := omega) only [↓w_nil, ↓w_cons, ↓w_ald0, ↓w_ic, ↓w_ild2, ↓w_iadd, ↓w_gf2_12, ↓w_ild1, ↓w_lald, ↓w_cv3, true_and, and_true, true_implies, false_implies, not_true_eq_false, not_false_eq_true, Int.reduceEq, Int.reduceLT, Int.reduceLE, Int.reduceNeg, w_c80, w_c8I, w_c8L, w_c8R, w_up1, w_up2, w_up3, e331', c_k319, c_k320, c_k321, c_k322, c_k323, c_k324, c_k325, c_k326, c_k327, c_k328, c_k329, c_k330, c_k331, c_k332, c_k333, c_k334, c_k335, c_k336, c_k337, c_k338, c_k339, c_k340, c_k341, c_k342, c_k343, c_k344, c_k345, c_k346, c_k347, hS2.r319_0, hS2.r319_1, hS2.r319_2, hS2.r319_3, hS2.r319_4, hS2.r319_5, hS2.r319_6, hS2.r319_8, hS2.r319_9, hS2.r319_10, hS2.r319_11, hS2.r319_12, hS2.r319_13, hS2.r319_14, hS2.r319_15, hS2.r319_16, hS2.r319_17, hS2.r319_20, hS2.r319_21, hS2.r319_22, hS2.r319_23, hS2.r319_24, hS2.r319_25, hS2.r319_26, hS2.r319_29, hS2.r319_30, hS2.r319_31, hS2.r319_32, w_sf1, w_sf3]
  repeat refine And.intro (by first | assumption | exact IsW.kt (by assumption) | omega | (unfold in32; omega) | (unfold in64; omega) | exact True.intro | exact Or.inl True.intro | exact Or.inr True.intro | rfl | exact Nat.le_of_ble_eq_true rfl) ?_
  try first | done | assumption | (unfold in32; omega) | (unfold in64; omega)
  refine ⟨_, p_Mo_timesLong (va := u) (ia := 3) hS2 ⟨by omega, by omega⟩ ⟨by omega, by omega⟩ (by omega) (hU.rf r2 ⟨by omega, by omega⟩ (by omega)) (b24 (by omega)) (by omega) (by omega), ?_⟩
  rintro q M3 ⟨rfl, g3, r3⟩
  have hS3 := hS2.rf r3
  have k3 : ∀ a : Int, ¬ (320 ≤ a ∧ a ≤ 323) → M3 a = M a := fun a z => by rw [r3.1 a z, k2 a z]
  refine k_Mo_flows_41 _ _ _ _ _ _ _ _ ?_
  simp (disch := omega) only [↓w_nil, ↓w_cons, ↓w_ald0, ↓w_ic, ↓w_cv4, true_and, and_true, true_implies, false_implies, not_true_eq_false, not_false_eq_true, Int.reduceEq, Int.reduceLT, Int.reduceLE, Int.reduceNeg, w_c80, w_c8I, w_c8L, w_c8R, w_up1, w_up2, w_up3, w_tl0]
  repeat refine And.intro (by first | assumption | exact IsW.kt (by assumption) | omega | (unfold in32; omega) | (unfold in64; omega) | exact True.intro | exact Or.inl True.intro | exact Or.inr True.intro | rfl | exact Nat.le_of_ble_eq_true rfl) ?_
  try first | done | assumption | (unfold in32; omega) | (unfold in64; omega)
  refine ⟨_, p_Mo_adds hS3 ⟨by omega, by omega⟩ ⟨by omega, by omega⟩ ⟨by omega, by omega⟩ g3 (g2.rf r3 ⟨by omega, by omega⟩ (by omega)) (b40 (by omega)) (b40 (by omega)) (Or.inl rfl), ?_⟩
  rintro q M4 ⟨rfl, g4, r4⟩
  have hS4 := hS3.rf r4
  have k4 : ∀ a : Int, ¬ (320 ≤ a ∧ a ≤ 323) → M4 a = M a := fun a z => by rw [r4.1 a z, k3 a z]
  have e332' : M4 332 i = v.2.1 := by rw [k4 332 (by omega)]; exact e332
  obtain ⟨D, hD⟩ : ∃ D : Nat, v.2.1 = D := ⟨v.2.1.toNat, by omega⟩
  refine k_Mo_flows_49 _ _ _ _ _ _ _ _ ?_
  simp (disch := omega) only [↓w_nil, ↓w_cons, ↓w_ald0, ↓w_ic, ↓w_ild1, ↓w_iadd, ↓w_gf2_13, ↓w_lald, ↓w_cv3, true_and, and_true, true_implies, false_implies, not_true_eq_false, not_false_eq_true, Int.reduceEq, Int.reduceLT, Int.reduceLE, Int.reduceNeg, w_c80, w_c8I, w_c8L, w_c8R, w_up1, w_up2, w_up3, w_tl0, e332', hD, c_k319, c_k320, c_k321, c_k322, c_k323, c_k324, c_k325, c_k326, c_k327, c_k328, c_k329, c_k330, c_k331, c_k332, c_k333, c_k334, c_k335, c_k336, c_k337, c_k338, c_k339, c_k340, c_k341, c_k342, c_k343, c_k344, c_k345, c_k346, c_k347, hS4.r319_0, hS4.r319_1, hS4.r319_2, hS4.r319_3, hS4.r319_4, hS4.r319_5, hS4.r319_6, hS4.r319_8, hS4.r319_9, hS4.r319_10, hS4.r319_11, hS4.r319_12, hS4.r319_13, hS4.r319_14, hS4.r319_15, hS4.r319_16, hS4.r319_17, hS4.r319_20, hS4.r319_21, hS4.r319_22, hS4.r319_23, hS4.r319_24, hS4.r319_25, hS4.r319_26, hS4.r319_29, hS4.r319_30, hS4.r319_31, hS4.r319_32, w_sf1, w_sf3]
  repeat refine And.intro (by first | assumption | exact IsW.kt (by assumption) | omega | (unfold in32; omega) | (unfold in64; omega) | exact True.intro | exact Or.inl True.intro | exact Or.inr True.intro | rfl | exact Nat.le_of_ble_eq_true rfl) ?_
  try first | done | assumption | (unfold in32; omega) | (unfold in64; omega)
  refine ⟨_, p_Mo_parts (D := D) hS4 ⟨by omega, by omega⟩ ⟨by omega, by omega⟩ g4 (by omega) (by omega), ?_⟩
  rintro q M5 ⟨rfl, g5, r5⟩
  refine k_Mo_flows_65 _ _ _ _ _ _ _ _ ?_
  simp (disch := omega) only [↓w_nil, ↓w_vret, true_and, and_true, true_implies, false_implies, not_true_eq_false, not_false_eq_true, Int.reduceEq, Int.reduceLT, Int.reduceLE, Int.reduceNeg, w_up1, w_up2, w_up3, w_tl0]
  repeat refine And.intro (by first | assumption | exact IsW.kt (by assumption) | omega | (unfold in32; omega) | (unfold in64; omega) | exact True.intro | exact Or.inl True.intro | exact Or.inr True.intro | rfl | exact Nat.le_of_ble_eq_true rfl) ?_
  try first | done | assumption | (unfold in32; omega) | (unfold in64; omega)
  rw [dv_x (x := x) (by omega) (by rw [← hD, ← hx]; omega)] at g5
  refine ⟨(((gd_rf hS r2 (fun s z => by omega)).tr (gd_rf hS2 r3 (fun s z => by omega))).tr (gd_rf hS3 r4 (fun s z => by omega))).tr (gd_rf hS4 r5 (fun s z => Or.inr (Or.inr (Or.inr (Or.inl ⟨i, rfl, z⟩))))), g5, by rw [r5.1 333 (by omega), k4 333 (by omega)]⟩
/-- an end of a road: what it drops, by what flows; a piece: its push and flow -/
theorem p_Mo_flowsE {g : cw_G} {M : cw_M} {i up w u x : Int} {v : V3} (hS : Sh M) (hi : 0 ≤ i ∧ i < 64) (hu : 0 ≤ up ∧ up < 64) (hup : up ≠ i) (hK : M 327 i = 0 ∨ M 327 i = 2) (hp : M 327 i = 0 → (0 ≤ M 329 i ∧ M 329 i < 7) ∧ (-25200 ≤ cw_so (M 324) (M 329 i) 4 ∧ cw_so (M 324) (M 329 i) 4 ≤ 25200)) (hw : M 333 i = w) (hwb : 0 ≤ w ∧ w ≤ 13254776280841401) (hv : nv M i v) (hb : (1 ≤ v.1 ∧ 1 ≤ v.2.1 ∧ v.1 + v.2.1 ≤ 13254776280841401) ∧ (-742267471727118456000000 ≤ v.2.2 ∧ v.2.2 ≤ 742267471727118456000000)) (hU : RM M (158 + up) u) (ub : -848305681973849664000000 ≤ u ∧ u ≤ 848305681973849664000000) (hx : u * v.2.1 - v.2.2 * w = v.1 * x) (xb : -848305681973849664000000 ≤ x ∧ x ≤ 848305681973849664000000) :
    mC g y_Mo_flows [.inr (.inr 319), .inl i, .inl up] M (fun q M' => q = none ∧ Gd (fun j => j = i) (fun p => M 327 i = 0 ∧ p = M 329 i) M M' ∧ RM M' (158 + i) x ∧ M' 333 = M 333 ∧ (M 327 i = 0 → RM M' (24 + M 329 i) u ∧ RM M' (16 + M 329 i) (x + w * cw_so (M 324) (M 329 i) 4) ∧ M' 336 (M 329 i) = w ∧ M' 335 (M 329 i) = 1)) := by
  have p1 := fl_pr (x := u) (y := v.2.1) ub (by omega)
  have p2 := fl_pr (x := v.2.2) (y := w) (by omega) hwb
  have e331 := hv.1
  have e332 := hv.2.1
  refine cw_C_of (L := [.inr (.inr 319), .inl i, .inl up, cU]) ok_Mo_flows (Nat.le_refl _) (Nat.le_of_ble_eq_true rfl) rfl ?_
  refine cw_J_hide ?_
  refine k_Mo_flows_0 _ _ _ _ _ _ _ _ ?_
  simp (disch := omega) only [↓w_nil, ↓w_cons, ↓w_ald0, ↓w_ic, ↓w_ild1, ↓w_iadd, ↓w_gf2_14, ↓w_lald, ↓w_cv3, true_and, and_true, true_implies, false_implies, not_true_eq_false, not_false_eq_true, Int.reduceEq, Int.reduceLT, Int.reduceLE, Int.reduceNeg, w_c80, w_c8I, w_c8L, w_c8R, w_up1, w_up2, w_up3, hw, c_k319, c_k320, c_k321, c_k322, c_k323, c_k324, c_k325, c_k326, c_k327, c_k328, c_k329, c_k330, c_k331, c_k332, c_k333, c_k334, c_k335, c_k336, c_k337, c_k338, c_k339, c_k340, c_k341, c_k342, c_k343, c_k344, c_k345, c_k346, c_k347, hS.r319_0, hS.r319_1, hS.r319_2, hS.r319_3, hS.r319_4, hS.r319_5, hS.r319_6, hS.r319_8, hS.r319_9, hS.r319_10, hS.r319_11, hS.r319_12, hS.r319_13, hS.r319_14, hS.r319_15, hS.r319_16, hS.r319_17, hS.r319_20, hS.r319_21, hS.r319_22, hS.r319_23, hS.r319_24, hS.r319_25, hS.r319_26, hS.r319_29, hS.r319_30, hS.r319_31, hS.r319_32, w_sf1, w_sf3]
  repeat refine And.intro (by first | assumption | exact IsW.kt (by assumption) | omega | (unfold in32; omega) | (unfold in64; omega) | exact True.intro | exact Or.inl True.intro | exact Or.inr True.intro | rfl | exact Nat.le_of_ble_eq_true rfl) ?_
  try first | done | assumption | (unfold in32; omega) | (unfold in64; omega)
  refine ⟨_, p_Mo_timesLong (ia := 3) hS ⟨by omega, by omega⟩ ⟨by omega, by omega⟩ (by omega) hv.2.2 (b24 (by omega)) (by omega) (by omega), ?_⟩
  rintro q M2 ⟨rfl, g2, r2⟩
  have hS2 := hS.rf r2
  have k2 : ∀ a : Int, ¬ (320 ≤ a ∧ a ≤ 323) → M2 a = M a := fun a z => r2.1 a z
  have e327 : M2 327 i = M 327 i := by rw [k2 327 (by omega)]
  have e332' : M2 332 i = v.2.1 := by rw [k2 332 (by omega)]; exact e332
  have k32 : in32 (M 327 i) := by unfold in32; omega
  refine k_Mo_flows_15 _ _ _ _ _ _ _ _ ?_
  simp (disch := omega) only [↓w_nil, ↓w_cons, ↓w_ald0, ↓w_gf2_8, ↓w_ild1, ↓w_iald, ↓w_ic, ↓w_icne, true_and, and_true, true_implies, false_implies, not_true_eq_false, not_false_eq_true, Int.reduceEq, Int.reduceLT, Int.reduceLE, Int.reduceNeg, w_up1, w_up2, w_up3, w_tl0, e327, c_k319, c_k320, c_k321, c_k322, c_k323, c_k324, c_k325, c_k326, c_k327, c_k328, c_k329, c_k330, c_k331, c_k332, c_k333, c_k334, c_k335, c_k336, c_k337, c_k338, c_k339, c_k340, c_k341, c_k342, c_k343, c_k344, c_k345, c_k346, c_k347, hS2.r319_0, hS2.r319_1, hS2.r319_2, hS2.r319_3, hS2.r319_4, hS2.r319_5, hS2.r319_6, hS2.r319_8, hS2.r319_9, hS2.r319_10, hS2.r319_11, hS2.r319_12, hS2.r319_13, hS2.r319_14, hS2.r319_15, hS2.r319_16, hS2.r319_17, hS2.r319_20, hS2.r319_21, hS2.r319_22, hS2.r319_23, hS2.r319_24, hS2.r319_25, hS2.r319_26, hS2.r319_29, hS2.r319_30, hS2.r319_31, hS2.r319_32, w_sf1, w_sf3]
  repeat refine And.intro (by first | assumption | exact IsW.kt (by assumption) | omega | (unfold in32; omega) | (unfold in64; omega) | exact True.intro | exact Or.inl True.intro | exact Or.inr True.intro | rfl | exact Nat.le_of_ble_eq_true rfl) ?_
  try first | done | assumption | (unfold in32; omega) | (unfold in64; omega)
  refine ⟨fun _ => ?_, fun hc => absurd hc (by omega)⟩
  refine k_Mo_flows_66 _ _ _ _ _ _ _ _ ?_
  simp (disch := omega) only [↓w_nil, ↓w_cons, ↓w_ald0, ↓w_ic, ↓w_ild2, ↓w_iadd, ↓w_gf2_13, ↓w_ild1, ↓w_lald, ↓w_cv3, true_and, and_true, true_implies, false_implies, not_true_eq_false, not_false_eq_true, Int.reduceEq, Int.reduceLT, Int.reduceLE, Int.reduceNeg, w_c80, w_c8I, w_c8L, w_c8R, w_up1, w_up2, w_up3, e332', c_k319, c_k320, c_k321, c_k322, c_k323, c_k324, c_k325, c_k326, c_k327, c_k328, c_k329, c_k330, c_k331, c_k332, c_k333, c_k334, c_k335, c_k336, c_k337, c_k338, c_k339, c_k340, c_k341, c_k342, c_k343, c_k344, c_k345, c_k346, c_k347, hS2.r319_0, hS2.r319_1, hS2.r319_2, hS2.r319_3, hS2.r319_4, hS2.r319_5, hS2.r319_6, hS2.r319_8, hS2.r319_9, hS2.r319_10, hS2.r319_11, hS2.r319_12, hS2.r319_13, hS2.r319_14, hS2.r319_15, hS2.r319_16, hS2.r319_17, hS2.r319_20, hS2.r319_21, hS2.r319_22, hS2.r319_23, hS2.r319_24, hS2.r319_25, hS2.r319_26, hS2.r319_29, hS2.r319_30, hS2.r319_31, hS2.r319_32, w_sf1, w_sf3]
  repeat refine And.intro (by first | assumption | exact IsW.kt (by assumption) | omega | (unfold in32; omega) | (unfold in64; omega) | exact True.intro | exact Or.inl True.intro | exact Or.inr True.intro | rfl | exact Nat.le_of_ble_eq_true rfl) ?_
  try first | done | assumption | (unfold in32; omega) | (unfold in64; omega)
  refine ⟨_, p_Mo_timesLong (va := u) (ia := 3) hS2 ⟨by omega, by omega⟩ ⟨by omega, by omega⟩ (by omega) (hU.rf r2 ⟨by omega, by omega⟩ (by omega)) (b24 (by omega)) (by omega) (by omega), ?_⟩
  rintro q M3 ⟨rfl, g3, r3⟩
  have hS3 := hS2.rf r3
  have k3 : ∀ a : Int, ¬ (320 ≤ a ∧ a ≤ 323) → M3 a = M a := fun a z => by rw [r3.1 a z, k2 a z]
  refine k_Mo_flows_82 _ _ _ _ _ _ _ _ ?_
  simp (disch := omega) only [↓w_nil, ↓w_cons, ↓w_ald0, ↓w_ic, ↓w_cv4, true_and, and_true, true_implies, false_implies, not_true_eq_false, not_false_eq_true, Int.reduceEq, Int.reduceLT, Int.reduceLE, Int.reduceNeg, w_c80, w_c8I, w_c8L, w_c8R, w_up1, w_up2, w_up3, w_tl0]
  repeat refine And.intro (by first | assumption | exact IsW.kt (by assumption) | omega | (unfold in32; omega) | (unfold in64; omega) | exact True.intro | exact Or.inl True.intro | exact Or.inr True.intro | rfl | exact Nat.le_of_ble_eq_true rfl) ?_
  try first | done | assumption | (unfold in32; omega) | (unfold in64; omega)
  refine ⟨_, p_Mo_adds hS3 ⟨by omega, by omega⟩ ⟨by omega, by omega⟩ ⟨by omega, by omega⟩ g3 (g2.rf r3 ⟨by omega, by omega⟩ (by omega)) (b40 (by omega)) (b40 (by omega)) (Or.inr rfl), ?_⟩
  rintro q M4 ⟨rfl, g4, r4⟩
  have hS4 := hS3.rf r4
  have k4 : ∀ a : Int, ¬ (320 ≤ a ∧ a ≤ 323) → M4 a = M a := fun a z => by rw [r4.1 a z, k3 a z]
  have e331' : M4 331 i = v.1 := by rw [k4 331 (by omega)]; exact e331
  obtain ⟨D, hD⟩ : ∃ D : Nat, v.1 = D := ⟨v.1.toNat, by omega⟩
  refine k_Mo_flows_90 _ _ _ _ _ _ _ _ ?_
  simp (disch := omega) only [↓w_nil, ↓w_cons, ↓w_ald0, ↓w_ic, ↓w_ild1, ↓w_iadd, ↓w_gf2_12, ↓w_lald, ↓w_cv3, true_and, and_true, true_implies, false_implies, not_true_eq_false, not_false_eq_true, Int.reduceEq, Int.reduceLT, Int.reduceLE, Int.reduceNeg, w_c80, w_c8I, w_c8L, w_c8R, w_up1, w_up2, w_up3, w_tl0, e331', hD, c_k319, c_k320, c_k321, c_k322, c_k323, c_k324, c_k325, c_k326, c_k327, c_k328, c_k329, c_k330, c_k331, c_k332, c_k333, c_k334, c_k335, c_k336, c_k337, c_k338, c_k339, c_k340, c_k341, c_k342, c_k343, c_k344, c_k345, c_k346, c_k347, hS4.r319_0, hS4.r319_1, hS4.r319_2, hS4.r319_3, hS4.r319_4, hS4.r319_5, hS4.r319_6, hS4.r319_8, hS4.r319_9, hS4.r319_10, hS4.r319_11, hS4.r319_12, hS4.r319_13, hS4.r319_14, hS4.r319_15, hS4.r319_16, hS4.r319_17, hS4.r319_20, hS4.r319_21, hS4.r319_22, hS4.r319_23, hS4.r319_24, hS4.r319_25, hS4.r319_26, hS4.r319_29, hS4.r319_30, hS4.r319_31, hS4.r319_32, w_sf1, w_sf3]
  repeat refine And.intro (by first | assumption | exact IsW.kt (by assumption) | omega | (unfold in32; omega) | (unfold in64; omega) | exact True.intro | exact Or.inl True.intro | exact Or.inr True.intro | rfl | exact Nat.le_of_ble_eq_true rfl) ?_
  try first | done | assumption | (unfold in32; omega) | (unfold in64; omega)
  refine ⟨_, p_Mo_parts (D := D) hS4 ⟨by omega, by omega⟩ ⟨by omega, by omega⟩ g4 (by omega) (by omega), ?_⟩
  rintro q M5 ⟨rfl, g5, r5⟩
  have hS5 := hS4.rf r5
  rw [dv_x (x := x) (by omega) (by rw [← hD, ← hx]; omega)] at g5
  have k5 : ∀ a : Int, ¬ (320 ≤ a ∧ a ≤ 323) → M5 a = M a := fun a z => by rw [r5.1 a z, k4 a z]
  have e327' : M5 327 i = M 327 i := by rw [k5 327 (by omega)]
  have e329 : M5 329 i = M 329 i := by rw [k5 329 (by omega)]
  have e333 : M5 333 i = w := by rw [k5 333 (by omega)]; exact hw
  have U5 : RM M5 (158 + up) u := (((hU.rf r2 ⟨by omega, by omega⟩ (by omega)).rf r3 ⟨by omega, by omega⟩ (by omega)).rf r4 ⟨by omega, by omega⟩ (by omega)).rf r5 ⟨by omega, by omega⟩ (by omega)
  have G5 : Gd (fun j => j = i) (fun p => M 327 i = 0 ∧ p = M 329 i) M M5 := (((gd_rf hS r2 (fun s z => by omega)).tr (gd_rf hS2 r3 (fun s z => by omega))).tr (gd_rf hS3 r4 (fun s z => by omega))).tr (gd_rf hS4 r5 (fun s z => Or.inr (Or.inr (Or.inr (Or.inl ⟨i, rfl, z⟩)))))
  refine k_Mo_flows_106 _ _ _ _ _ _ _ _ ?_
  simp (disch := omega) only [↓w_nil, ↓w_cons, ↓w_ald0, ↓w_gf2_8, ↓w_ild1, ↓w_iald, ↓w_ifne, true_and, and_true, true_implies, false_implies, not_true_eq_false, not_false_eq_true, Int.reduceEq, Int.reduceLT, Int.reduceLE, Int.reduceNeg, w_up1, w_up2, w_up3, w_tl0, e327', c_k319, c_k320, c_k321, c_k322, c_k323, c_k324, c_k325, c_k326, c_k327, c_k328, c_k329, c_k330, c_k331, c_k332, c_k333, c_k334, c_k335, c_k336, c_k337, c_k338, c_k339, c_k340, c_k341, c_k342, c_k343, c_k344, c_k345, c_k346, c_k347, hS5.r319_0, hS5.r319_1, hS5.r319_2, hS5.r319_3, hS5.r319_4, hS5.r319_5, hS5.r319_6, hS5.r319_8, hS5.r319_9, hS5.r319_10, hS5.r319_11, hS5.r319_12, hS5.r319_13, hS5.r319_14, hS5.r319_15, hS5.r319_16, hS5.r319_17, hS5.r319_20, hS5.r319_21, hS5.r319_22, hS5.r319_23, hS5.r319_24, hS5.r319_25, hS5.r319_26, hS5.r319_29, hS5.r319_30, hS5.r319_31, hS5.r319_32, w_sf1, w_sf3]
  repeat refine And.intro (by first | assumption | exact IsW.kt (by assumption) | omega | (unfold in32; omega) | (unfold in64; omega) | exact True.intro | exact Or.inl True.intro | exact Or.inr True.intro | rfl | exact Nat.le_of_ble_eq_true rfl) ?_
  try first | done | assumption | (unfold in32; omega) | (unfold in64; omega)
  refine ⟨fun hc => ?_, fun hc => ?_⟩
  · refine k_Mo_flows_192 _ _ _ _ _ _ _ _ ?_
    simp (disch := omega) only [↓w_nil, ↓w_vret, true_and, and_true, true_implies, false_implies, not_true_eq_false, not_false_eq_true, Int.reduceEq, Int.reduceLT, Int.reduceLE, Int.reduceNeg, w_up1, w_up2, w_up3]
    repeat refine And.intro (by first | assumption | exact IsW.kt (by assumption) | omega | (unfold in32; omega) | (unfold in64; omega) | exact True.intro | exact Or.inl True.intro | exact Or.inr True.intro | rfl | exact Nat.le_of_ble_eq_true rfl) ?_
    try first | done | assumption | (unfold in32; omega) | (unfold in64; omega)
    exact ⟨k5 333 (by omega), fun z => absurd z hc⟩
  · have hc : M 327 i = 0 := by omega
    obtain ⟨pb, sb⟩ := hp hc
    obtain ⟨p, hpe⟩ : ∃ p, p = M 329 i := ⟨_, rfl⟩
    rw [← hpe] at pb sb e329 G5 ⊢
    refine k_Mo_flows_115 _ _ _ _ _ _ _ _ ?_
    simp (disch := omega) only [↓w_nil, ↓w_cons, ↓w_ald0, ↓w_gf2_10, ↓w_ild1, ↓w_iald, ↓w_ist3, ↓w_ic, ↓w_ild3, ↓w_iadd, ↓w_ild2, ↓w_cv2, true_and, and_true, true_implies, false_implies, not_true_eq_false, not_false_eq_true, Int.reduceEq, Int.reduceLT, Int.reduceLE, Int.reduceNeg, w_nlI, w_nlL, w_nlR, w_c80, w_c8I, w_c8L, w_c8R, w_up1, w_up2, w_up3, e329, c_k319, c_k320, c_k321, c_k322, c_k323, c_k324, c_k325, c_k326, c_k327, c_k328, c_k329, c_k330, c_k331, c_k332, c_k333, c_k334, c_k335, c_k336, c_k337, c_k338, c_k339, c_k340, c_k341, c_k342, c_k343, c_k344, c_k345, c_k346, c_k347, hS5.r319_0, hS5.r319_1, hS5.r319_2, hS5.r319_3, hS5.r319_4, hS5.r319_5, hS5.r319_6, hS5.r319_8, hS5.r319_9, hS5.r319_10, hS5.r319_11, hS5.r319_12, hS5.r319_13, hS5.r319_14, hS5.r319_15, hS5.r319_16, hS5.r319_17, hS5.r319_20, hS5.r319_21, hS5.r319_22, hS5.r319_23, hS5.r319_24, hS5.r319_25, hS5.r319_26, hS5.r319_29, hS5.r319_30, hS5.r319_31, hS5.r319_32, w_sf1, w_sf3]
    repeat refine And.intro (by first | assumption | exact IsW.kt (by assumption) | omega | (unfold in32; omega) | (unfold in64; omega) | exact True.intro | exact Or.inl True.intro | exact Or.inr True.intro | rfl | exact Nat.le_of_ble_eq_true rfl) ?_
    try first | done | assumption | (unfold in32; omega) | (unfold in64; omega)
    refine ⟨_, p_Mo_copies (v := u) hS5 ⟨by omega, by omega⟩ ⟨by omega, by omega⟩ U5, ?_⟩
    rintro q M6 ⟨rfl, g6, r6⟩
    have hS6 := hS5.rf r6
    have k6 : ∀ a : Int, ¬ (320 ≤ a ∧ a ≤ 323) → M6 a = M a := fun a z => by rw [r6.1 a z, k5 a z]
    have e333' : M6 333 i = w := by rw [k6 333 (by omega)]; exact hw
    refine k_Mo_flows_135 _ _ _ _ _ _ _ _ ?_
    simp (disch := omega) only [↓w_nil, ↓w_cons, ↓w_ald0, ↓w_ic, ↓w_gf2_14, ↓w_ild1, ↓w_lald, ↓w_cv2, true_and, and_true, true_implies, false_implies, not_true_eq_false, not_false_eq_true, Int.reduceEq, Int.reduceLT, Int.reduceLE, Int.reduceNeg, w_c80, w_c8I, w_c8L, w_c8R, w_up1, w_up2, w_up3, w_tl0, e333', c_k319, c_k320, c_k321, c_k322, c_k323, c_k324, c_k325, c_k326, c_k327, c_k328, c_k329, c_k330, c_k331, c_k332, c_k333, c_k334, c_k335, c_k336, c_k337, c_k338, c_k339, c_k340, c_k341, c_k342, c_k343, c_k344, c_k345, c_k346, c_k347, hS6.r319_0, hS6.r319_1, hS6.r319_2, hS6.r319_3, hS6.r319_4, hS6.r319_5, hS6.r319_6, hS6.r319_8, hS6.r319_9, hS6.r319_10, hS6.r319_11, hS6.r319_12, hS6.r319_13, hS6.r319_14, hS6.r319_15, hS6.r319_16, hS6.r319_17, hS6.r319_20, hS6.r319_21, hS6.r319_22, hS6.r319_23, hS6.r319_24, hS6.r319_25, hS6.r319_26, hS6.r319_29, hS6.r319_30, hS6.r319_31, hS6.r319_32, w_sf1, w_sf3]
    repeat refine And.intro (by first | assumption | exact IsW.kt (by assumption) | omega | (unfold in32; omega) | (unfold in64; omega) | exact True.intro | exact Or.inl True.intro | exact Or.inr True.intro | rfl | exact Nat.le_of_ble_eq_true rfl) ?_
    try first | done | assumption | (unfold in32; omega) | (unfold in64; omega)
    refine ⟨_, p_Mo_sets hS6 (r := 0) (v := w) ⟨by omega, by omega⟩ (by omega), ?_⟩
    rintro q M7 ⟨rfl, g7, r7⟩
    have hS7 := hS6.rf r7
    have k7 : ∀ a : Int, ¬ (320 ≤ a ∧ a ≤ 323) → M7 a = M a := fun a z => by rw [r7.1 a z, k6 a z]
    refine k_Mo_flows_146 _ _ _ _ _ _ _ _ ?_
    simp (disch := omega) only [↓w_nil, ↓w_cons, ↓w_ald0, ↓w_ic, ↓w_ild3, ↓w_cv1, true_and, and_true, true_implies, false_implies, not_true_eq_false, not_false_eq_true, Int.reduceEq, Int.reduceLT, Int.reduceLE, Int.reduceNeg, w_c80, w_c8I, w_c8L, w_c8R, w_up1, w_up2, w_up3, w_tl0]
    repeat refine And.intro (by first | assumption | exact IsW.kt (by assumption) | omega | (unfold in32; omega) | (unfold in64; omega) | exact True.intro | exact Or.inl True.intro | exact Or.inr True.intro | rfl | exact Nat.le_of_ble_eq_true rfl) ?_
    try first | done | assumption | (unfold in32; omega) | (unfold in64; omega)
    refine ⟨_, p_Mo_sourceOf hS7 pb, ?_⟩
    rintro q M8 ⟨rfl, rfl⟩
    rw [k7 324 (by omega)]
    have s32 : in32 (cw_so (M 324) p 4) := by unfold in32; omega
    refine k_Mo_flows_154 _ _ _ _ _ _ _ _ ?_
    simp (disch := omega) only [↓w_nil, ↓w_cons, ↓w_i2l, ↓w_cv3, true_and, and_true, true_implies, false_implies, not_true_eq_false, not_false_eq_true, Int.reduceEq, Int.reduceLT, Int.reduceLE, Int.reduceNeg, w_c80, w_c8I, w_c8L, w_c8R, w_up1, w_up2, w_up3, w_tl1]
    repeat refine And.intro (by first | assumption | exact IsW.kt (by assumption) | omega | (unfold in32; omega) | (unfold in64; omega) | exact True.intro | exact Or.inl True.intro | exact Or.inr True.intro | rfl | exact Nat.le_of_ble_eq_true rfl) ?_
    try first | done | assumption | (unfold in32; omega) | (unfold in64; omega)
    have wp := fl_pr (x := cw_so (M 324) p 4) (y := w) (by omega) hwb
    refine ⟨_, p_Mo_timesLong (va := w) (ia := 3) hS7 ⟨by omega, by omega⟩ ⟨by omega, by omega⟩ (by omega) g7 (b24 (by omega)) (by omega) (by omega), ?_⟩
    rintro q M9 ⟨rfl, g9, r9⟩
    have hS9 := hS7.rf r9
    have k9 : ∀ a : Int, ¬ (320 ≤ a ∧ a ≤ 323) → M9 a = M a := fun a z => by rw [r9.1 a z, k7 a z]
    have x9 : RM M9 (158 + i) x := ((g5.rf r6 ⟨by omega, by omega⟩ (by omega)).rf r7 ⟨by omega, by omega⟩ (by omega)).rf r9 ⟨by omega, by omega⟩ (by omega)
    rw [Int.mul_comm] at wp
    refine k_Mo_flows_158 _ _ _ _ _ _ _ _ ?_
    simp (disch := omega) only [↓w_nil, ↓w_cons, ↓w_ald0, ↓w_ic, ↓w_ild3, ↓w_iadd, ↓w_ild1, ↓w_cv4, true_and, and_true, true_implies, false_implies, not_true_eq_false, not_false_eq_true, Int.reduceEq, Int.reduceLT, Int.reduceLE, Int.reduceNeg, w_c80, w_c8I, w_c8L, w_c8R, w_up1, w_up2, w_up3, w_tl0]
    repeat refine And.intro (by first | assumption | exact IsW.kt (by assumption) | omega | (unfold in32; omega) | (unfold in64; omega) | exact True.intro | exact Or.inl True.intro | exact Or.inr True.intro | rfl | exact Nat.le_of_ble_eq_true rfl) ?_
    try first | done | assumption | (unfold in32; omega) | (unfold in64; omega)
    refine ⟨_, p_Mo_adds hS9 ⟨by omega, by omega⟩ ⟨by omega, by omega⟩ ⟨by omega, by omega⟩ x9 g9 (b40 (by omega)) (b40 (by omega)) (Or.inl rfl), ?_⟩
    rintro q Ma ⟨rfl, ga, ra⟩
    have hSa := hS9.rf ra
    have ka : ∀ a : Int, ¬ (320 ≤ a ∧ a ≤ 323) → Ma a = M a := fun a z => by rw [ra.1 a z, k9 a z]
    have e333a : Ma 333 i = w := by rw [ka 333 (by omega)]; exact hw
    refine k_Mo_flows_173 _ _ _ _ _ _ _ _ ?_
    simp (disch := omega) only [↓w_nil, ↓w_cons, ↓w_ald0, ↓w_gf2_17, ↓w_ild3, ↓w_gf2_14, ↓w_ild1, ↓w_lald, ↓w_last, ↓w_gf2_16, ↓w_ic, ↓w_zast, ↓w_fall, true_and, and_true, true_implies, false_implies, not_true_eq_false, not_false_eq_true, Int.reduceEq, Int.reduceLT, Int.reduceLE, Int.reduceNeg, w_up1, w_up2, w_up3, w_tl0, e333a, c_k319, c_k320, c_k321, c_k322, c_k323, c_k324, c_k325, c_k326, c_k327, c_k328, c_k329, c_k330, c_k331, c_k332, c_k333, c_k334, c_k335, c_k336, c_k337, c_k338, c_k339, c_k340, c_k341, c_k342, c_k343, c_k344, c_k345, c_k346, c_k347, hSa.r319_0, hSa.r319_1, hSa.r319_2, hSa.r319_3, hSa.r319_4, hSa.r319_5, hSa.r319_6, hSa.r319_8, hSa.r319_9, hSa.r319_10, hSa.r319_11, hSa.r319_12, hSa.r319_13, hSa.r319_14, hSa.r319_15, hSa.r319_16, hSa.r319_17, hSa.r319_20, hSa.r319_21, hSa.r319_22, hSa.r319_23, hSa.r319_24, hSa.r319_25, hSa.r319_26, hSa.r319_29, hSa.r319_30, hSa.r319_31, hSa.r319_32, w_sf1, w_sf3]
    repeat refine And.intro (by first | assumption | exact IsW.kt (by assumption) | omega | (unfold in32; omega) | (unfold in64; omega) | exact True.intro | exact Or.inl True.intro | exact Or.inr True.intro | rfl | exact Nat.le_of_ble_eq_true rfl) ?_
    try first | done | assumption | (unfold in32; omega) | (unfold in64; omega)
    refine k_Mo_flows_192 _ _ _ _ _ _ _ _ ?_
    simp (disch := omega) only [↓w_nil, ↓w_vret, true_and, and_true, true_implies, false_implies, not_true_eq_false, not_false_eq_true, Int.reduceEq, Int.reduceLT, Int.reduceLE, Int.reduceNeg, w_up1, w_up2, w_up3]
    repeat refine And.intro (by first | assumption | exact IsW.kt (by assumption) | omega | (unfold in32; omega) | (unfold in64; omega) | exact True.intro | exact Or.inl True.intro | exact Or.inr True.intro | rfl | exact Nat.le_of_ble_eq_true rfl) ?_
    try first | done | assumption | (unfold in32; omega) | (unfold in64; omega)
    have Ga : Gd (fun j => j = i) (fun q => M 327 i = 0 ∧ q = p) M Ma := (((G5.tr (gd_rf hS5 r6 (fun s z => Or.inr (Or.inr (Or.inr (Or.inr ⟨p, ⟨hc, rfl⟩, Or.inr z⟩)))))).tr (gd_rf hS6 r7 (fun s z => by omega))).tr (gd_rf hS7 r9 (fun s z => by omega))).tr (gd_rf hS9 ra (fun s z => Or.inr (Or.inr (Or.inr (Or.inr ⟨p, ⟨hc, rfl⟩, Or.inl z⟩)))))
    have sm : ∀ s, sR Ma (cw_up (cw_up Ma 336 p w) 335 p 1) s := fun s => ⟨by rw [cw_up_ne (by omega), cw_up_ne (by omega)], by rw [cw_up_ne (by omega), cw_up_ne (by omega)], fun j _ _ => by unfold cw_rd; rw [cw_up_ne (by omega), cw_up_ne (by omega)]⟩
    have u9 : RM Ma (24 + p) u := ((g6.rf r7 ⟨by omega, by omega⟩ (by omega)).rf r9 ⟨by omega, by omega⟩ (by omega)).rf ra ⟨by omega, by omega⟩ (by omega)
    rw [Int.one_mul] at ga
    refine ⟨gd_up (gd_up Ga (Or.inr ⟨Or.inr rfl, hc, rfl⟩)) (Or.inr ⟨Or.inl rfl, hc, rfl⟩), (x9.rf ra ⟨by omega, by omega⟩ (by omega)).sm (sm _), by rw [cw_up_ne (by omega), cw_up_ne (by omega), ka 333 (by omega)], fun _ => ⟨u9.sm (sm _), ga.sm (sm _), ?_, ?_⟩⟩
    · rw [cw_up_ne (by omega), w_up1]
    · rw [w_up1]
