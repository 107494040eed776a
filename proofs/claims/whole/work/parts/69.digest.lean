/-! digests, and the class's calls with loops; by program (wip/whole/gen69.py) -/
def cw_hz (f fl : Int → Int) : Int := cw_it (fun b k => 31 * b + f (370 + 4 * k)) (cw_it (fun b k => 31 * b + f (365 + k)) (cw_hl f (cw_he f fl (cw_hm f (cw_it (fun b k => 31 * b + cw_cn f k) 337 6)))) 4) 4
theorem it_t {G : Int → Int} {h : Int} {a : Int} (h0 : 0 ≤ a) : ∀ d : Nat, (∀ k : Int, a ≤ k → k < a + d → G k = 0) → cw_it (fun b k => b + G k) h (a + d) = cw_it (fun b k => b + G k) h a
  | 0, _ => by rw [show a + ((0 : Nat) : Int) = a by omega]
  | d + 1, hz => by
    rw [show a + ((d + 1 : Nat) : Int) = (a + d) + 1 by omega, it_s (by omega), it_t h0 d (fun k k0 k1 => hz k k0 (by omega))]
    show _ + G (a + d) = _
    rw [hz _ (by omega) (by omega), Int.add_zero]
theorem cn_5 {M : cw_M} {f fl : Int → Int} {n : Int} (hR : RelS 1 f fl M) (hW : WF n f fl) : cw_it (fun a k => a + cw_ab (M 33 k)) 0 (f 4) = cw_cn f 5 := by
  have w4 := hW.1.2.2.2.2
  unfold cw_cn
  rw [if_pos rfl]
  have e : (24 : Int) = f 4 + ((24 - f 4).toNat : Int) := by omega
  rw [e, it_t (G := fun k => if f (336 + k) = 0 then 0 else 1) (by omega) _ (fun k k0 k1 => if_pos ((hW.2.2.2.2.2.2.2.2.2.2.1 k (by omega) (by omega)).2 k0))]
  refine it_c (fun a j j0 j1 => ?_)
  have h1 := hR.sl (i := j) j0 (by omega)
  have h2 := hR.sg (i := j) j0 (by omega)
  have h3 := hR.ph (i := j) j0 (by omega)
  congr 1
  unfold cw_ab
  rcases (show M 33 j = -1 ∨ M 33 j = 0 ∨ M 33 j = 1 by omega) with q | q | q
  · rw [q] at h1 ⊢; rw [if_neg (by omega), if_neg (by omega)]; rfl
  · rw [q] at h1 ⊢; rw [if_pos (by omega), if_pos (by omega)]
  · rw [q] at h1 ⊢; rw [if_pos (by omega), if_neg (by omega)]
theorem seen_32 {f fl : Int → Int} {n i : Int} (hW : WF n f fl) (h0 : 0 ≤ i) (h1 : i < f 2) : ∀ k : Int, 0 ≤ k → k < 2 → in32 (f (312 + 2 * i + k)) := by
  intro k k0 k1
  have j := hW.2.2.2.2.2.2.2.2.2.1 i h0 h1
  have w := hW.1.1
  unfold in32
  rcases (show k = 0 ∨ k = 1 by omega) with rfl | rfl
  · rw [Int.add_zero]; omega
  · rw [show 312 + 2 * i + 1 = 313 + 2 * i by omega]; omega
theorem cn_32 {f fl : Int → Int} {n : Int} (hW : WF n f fl) {k : Int} (h0 : 0 ≤ k) (h1 : k ≤ 5) : in32 (cw_cn f k) := by
  by_cases q : k = 5
  · have b := it_b (G := fun k => if f (336 + k) = 0 then 0 else 1) (h := 0) (B := 1) (i := 24) (by omega) (fun j _ _ => by show -1 ≤ (if f (336 + j) = 0 then (0 : Int) else 1) ∧ (if f (336 + j) = 0 then (0 : Int) else 1) ≤ 1; split <;> omega)
    unfold cw_cn
    rw [if_pos q]
    unfold in32
    omega
  · unfold cw_cn
    rw [if_neg q]
    have w := hW.1
    unfold in32
    rcases (show k = 0 ∨ k = 1 ∨ k = 2 ∨ k = 3 ∨ k = 4 by omega) with rfl | rfl | rfl | rfl | rfl <;> omega

set_option maxHeartbeats 4000000 in
theorem d_digest {g : cw_G} {M : cw_M} {n : Int} (hS : Sh M) (hW : WF n (M 324) (M 338)) (hn : n ≤ 1000) :
    mC g y_Mo_digest [.inr (.inr 319)] M (fun q M' => q = some (.inr (.inl (cw_hz (M 324) (M 338)))) ∧ M' = M) := by
  obtain ⟨⟨w1, w2, w3, w4, w5⟩, -⟩ := id hW
  have l5 : ∀ (d : Nat) (i : Int), i + d = 4 → 0 ≤ i → mJ g y_Mo_digest 206 [.inr (.inr 319), .inr (.inl (cw_it (fun b k => 31 * b + M 324 (370 + 4 * k)) (cw_it (fun b k => 31 * b + M 324 (365 + k)) (cw_hl (M 324) (cw_he (M 324) (M 338) (cw_hm (M 324) (cw_it (fun b k => 31 * b + cw_cn (M 324) k) 337 6)))) 4) i)), cU, .inl i] [] M (fun q M' => q = some (.inr (.inl (cw_hz (M 324) (M 338)))) ∧ M' = M) := by
    intro d
    induction d with
    | zero =>
      intro i hi h0
      refine cw_J_hide ?_
      refine k_Mo_digest_206 _ _ _ _ _ _ _ _ ?_
      simp (disch := omega) only [↓w_nil, ↓w_cons, ↓w_ild3, ↓w_ic, ↓w_icge, true_and, and_true, true_implies, false_implies, not_true_eq_false, not_false_eq_true, Int.reduceEq, Int.reduceLT, Int.reduceLE, Int.reduceNeg, w_up1, w_up2, w_up3, m_in0, c_k319, c_k320, c_k321, c_k322, c_k323, c_k324, c_k325, c_k326, c_k327, c_k328, c_k329, c_k330, c_k331, c_k332, c_k333, c_k334, c_k335, c_k336, c_k337, c_k338, c_k339, c_k340, c_k341, c_k342, c_k343, c_k344, c_k345, c_k346, c_k347, hS.r319_0, hS.r319_1, hS.r319_2, hS.r319_3, hS.r319_4, hS.r319_5, hS.r319_6, hS.r319_8, hS.r319_9, hS.r319_10, hS.r319_11, hS.r319_12, hS.r319_13, hS.r319_14, hS.r319_15, hS.r319_16, hS.r319_17, hS.r319_20, hS.r319_21, hS.r319_22, hS.r319_23, hS.r319_24, hS.r319_25, hS.r319_26, hS.r319_29, hS.r319_30, hS.r319_31, hS.r319_32, w_sf1, w_sf3]
      repeat refine And.intro (by first | assumption | exact IsW.kt (by assumption) | omega | (unfold in32; omega) | (unfold in64; omega) | exact True.intro | exact Or.inl True.intro | exact Or.inr True.intro | rfl | exact Nat.le_of_ble_eq_true rfl) ?_
      try first | done | assumption | (unfold in32; omega) | (unfold in64; omega)
      refine ⟨fun _ => ?_, fun h => absurd h (by omega)⟩
      have e24 : i = 4 := by omega
      subst e24
      refine k_Mo_digest_237 _ _ _ _ _ _ _ _ ?_
      simp (disch := omega) only [↓w_nil, ↓w_cons, ↓w_lld1, ↓w_lret, true_and, and_true, true_implies, false_implies, not_true_eq_false, not_false_eq_true, Int.reduceEq, Int.reduceLT, Int.reduceLE, Int.reduceNeg, w_up1, w_up2, w_up3]
      repeat refine And.intro (by first | assumption | exact IsW.kt (by assumption) | omega | (unfold in32; omega) | (unfold in64; omega) | exact True.intro | exact Or.inl True.intro | exact Or.inr True.intro | rfl | exact Nat.le_of_ble_eq_true rfl) ?_
      try first | done | assumption | (unfold in32; omega) | (unfold in64; omega)
      try unfold cw_hide
      all_goals first | exact ⟨rfl, rfl⟩ | rfl
    | succ d ih =>
      intro i hi h0
      refine k_Mo_digest_206 _ _ _ _ _ _ _ _ ?_
      simp (disch := omega) only [↓w_nil, ↓w_cons, ↓w_ild3, ↓w_ic, ↓w_icge, true_and, and_true, true_implies, false_implies, not_true_eq_false, not_false_eq_true, Int.reduceEq, Int.reduceLT, Int.reduceLE, Int.reduceNeg, w_up1, w_up2, w_up3, m_in0, c_k319, c_k320, c_k321, c_k322, c_k323, c_k324, c_k325, c_k326, c_k327, c_k328, c_k329, c_k330, c_k331, c_k332, c_k333, c_k334, c_k335, c_k336, c_k337, c_k338, c_k339, c_k340, c_k341, c_k342, c_k343, c_k344, c_k345, c_k346, c_k347, hS.r319_0, hS.r319_1, hS.r319_2, hS.r319_3, hS.r319_4, hS.r319_5, hS.r319_6, hS.r319_8, hS.r319_9, hS.r319_10, hS.r319_11, hS.r319_12, hS.r319_13, hS.r319_14, hS.r319_15, hS.r319_16, hS.r319_17, hS.r319_20, hS.r319_21, hS.r319_22, hS.r319_23, hS.r319_24, hS.r319_25, hS.r319_26, hS.r319_29, hS.r319_30, hS.r319_31, hS.r319_32, w_sf1, w_sf3]
      repeat refine And.intro (by first | assumption | exact IsW.kt (by assumption) | omega | (unfold in32; omega) | (unfold in64; omega) | exact True.intro | exact Or.inl True.intro | exact Or.inr True.intro | rfl | exact Nat.le_of_ble_eq_true rfl) ?_
      try first | done | assumption | (unfold in32; omega) | (unfold in64; omega)
      intro _
      have hb1 : in32 (M 324 (370 + 4 * i)) := hW.r32 hn (by omega) (by omega) (by omega) (by omega) (by intros; omega) (by omega) (by omega)
      refine k_Mo_digest_211 _ _ _ _ _ _ _ _ ?_
      simp (disch := omega) only [↓w_nil, ↓w_cons, ↓w_lc, ↓w_lld1, ↓w_lmul, ↓w_ald0, ↓w_gf2_4, ↓w_ic, ↓w_ild3, ↓w_imul, ↓w_iadd, ↓w_iald, ↓w_i2l, ↓w_ladd, ↓w_lst1, ↓w_inc3, ↓w_goto, true_and, and_true, true_implies, false_implies, not_true_eq_false, not_false_eq_true, Int.reduceEq, Int.reduceLT, Int.reduceLE, Int.reduceNeg, w_nlI, w_nlL, w_nlR, w_up1, w_up2, w_up3, m_in0, c_k319, c_k320, c_k321, c_k322, c_k323, c_k324, c_k325, c_k326, c_k327, c_k328, c_k329, c_k330, c_k331, c_k332, c_k333, c_k334, c_k335, c_k336, c_k337, c_k338, c_k339, c_k340, c_k341, c_k342, c_k343, c_k344, c_k345, c_k346, c_k347, hS.r319_0, hS.r319_1, hS.r319_2, hS.r319_3, hS.r319_4, hS.r319_5, hS.r319_6, hS.r319_8, hS.r319_9, hS.r319_10, hS.r319_11, hS.r319_12, hS.r319_13, hS.r319_14, hS.r319_15, hS.r319_16, hS.r319_17, hS.r319_20, hS.r319_21, hS.r319_22, hS.r319_23, hS.r319_24, hS.r319_25, hS.r319_26, hS.r319_29, hS.r319_30, hS.r319_31, hS.r319_32, w_sf1, w_sf3]
      repeat refine And.intro (by first | assumption | exact IsW.kt (by assumption) | omega | (unfold in32; omega) | (unfold in64; omega) | exact True.intro | exact Or.inl True.intro | exact Or.inr True.intro | rfl | exact Nat.le_of_ble_eq_true rfl) ?_
      try first | done | assumption | (unfold in32; omega) | (unfold in64; omega)
      have := ih (i + 1) (by omega) (by omega)
      rw [it_s h0] at this
      exact this
  have l4 : ∀ (d : Nat) (i : Int), i + d = M 324 2 → 0 ≤ i → mJ g y_Mo_digest 138 [.inr (.inr 319), .inr (.inl (cw_it (fun a k => 31 * (31 * (31 * a + M 324 (312 + 2 * k)) + M 324 (313 + 2 * k)) + M 338 k) (cw_hm (M 324) (cw_it (fun b k => 31 * b + cw_cn (M 324) k) 337 6)) i)), cU, .inl i] [] M (fun q M' => q = some (.inr (.inl (cw_hz (M 324) (M 338)))) ∧ M' = M) := by
    intro d
    induction d with
    | zero =>
      intro i hi h0
      refine cw_J_hide ?_
      have hb0 : in32 (M 324 2) := by unfold in32; omega
      refine k_Mo_digest_138 _ _ _ _ _ _ _ _ ?_
      simp (disch := omega) only [↓w_nil, ↓w_cons, ↓w_ild3, ↓w_ald0, ↓w_gf2_4, ↓w_ic, ↓w_iald, ↓w_icge, true_and, and_true, true_implies, false_implies, not_true_eq_false, not_false_eq_true, Int.reduceEq, Int.reduceLT, Int.reduceLE, Int.reduceNeg, w_up1, w_up2, w_up3, m_in0, c_k319, c_k320, c_k321, c_k322, c_k323, c_k324, c_k325, c_k326, c_k327, c_k328, c_k329, c_k330, c_k331, c_k332, c_k333, c_k334, c_k335, c_k336, c_k337, c_k338, c_k339, c_k340, c_k341, c_k342, c_k343, c_k344, c_k345, c_k346, c_k347, hS.r319_0, hS.r319_1, hS.r319_2, hS.r319_3, hS.r319_4, hS.r319_5, hS.r319_6, hS.r319_8, hS.r319_9, hS.r319_10, hS.r319_11, hS.r319_12, hS.r319_13, hS.r319_14, hS.r319_15, hS.r319_16, hS.r319_17, hS.r319_20, hS.r319_21, hS.r319_22, hS.r319_23, hS.r319_24, hS.r319_25, hS.r319_26, hS.r319_29, hS.r319_30, hS.r319_31, hS.r319_32, w_sf1, w_sf3]
      repeat refine And.intro (by first | assumption | exact IsW.kt (by assumption) | omega | (unfold in32; omega) | (unfold in64; omega) | exact True.intro | exact Or.inl True.intro | exact Or.inr True.intro | rfl | exact Nat.le_of_ble_eq_true rfl) ?_
      try first | done | assumption | (unfold in32; omega) | (unfold in64; omega)
      refine ⟨fun _ => ?_, fun h => absurd h (by omega)⟩
      have e24 : i = M 324 2 := by omega
      subst e24
      refine k_Mo_digest_181 _ _ _ _ _ _ _ _ ?_
      simp (disch := omega) only [↓w_nil, ↓w_cons, ↓w_ald0, ↓w_lld1, ↓w_ic, ↓w_gf2_4, ↓w_iald, ↓w_cv3, true_and, and_true, true_implies, false_implies, not_true_eq_false, not_false_eq_true, Int.reduceEq, Int.reduceLT, Int.reduceLE, Int.reduceNeg, w_c80, w_c8I, w_c8L, w_c8R, w_up1, w_up2, w_up3, c_k319, c_k320, c_k321, c_k322, c_k323, c_k324, c_k325, c_k326, c_k327, c_k328, c_k329, c_k330, c_k331, c_k332, c_k333, c_k334, c_k335, c_k336, c_k337, c_k338, c_k339, c_k340, c_k341, c_k342, c_k343, c_k344, c_k345, c_k346, c_k347, hS.r319_0, hS.r319_1, hS.r319_2, hS.r319_3, hS.r319_4, hS.r319_5, hS.r319_6, hS.r319_8, hS.r319_9, hS.r319_10, hS.r319_11, hS.r319_12, hS.r319_13, hS.r319_14, hS.r319_15, hS.r319_16, hS.r319_17, hS.r319_20, hS.r319_21, hS.r319_22, hS.r319_23, hS.r319_24, hS.r319_25, hS.r319_26, hS.r319_29, hS.r319_30, hS.r319_31, hS.r319_32, w_sf1, w_sf3]
      repeat refine And.intro (by first | assumption | exact IsW.kt (by assumption) | omega | (unfold in32; omega) | (unfold in64; omega) | exact True.intro | exact Or.inl True.intro | exact Or.inr True.intro | rfl | exact Nat.le_of_ble_eq_true rfl) ?_
      try first | done | assumption | (unfold in32; omega) | (unfold in64; omega)
      refine ⟨_, p_Mo_mixed hS (by omega) (by omega) (fun k k0 k1 => hW.r32 hn (by omega) (by omega) (by omega) (by omega) (by intros; omega) (by omega) (by omega)), ?_⟩
      rintro q M9 ⟨rfl, rfl⟩
      refine k_Mo_digest_196 _ _ _ _ _ _ _ _ ?_
      simp (disch := omega) only [↓w_nil, ↓w_cons, ↓w_ic, ↓w_cv3, true_and, and_true, true_implies, false_implies, not_true_eq_false, not_false_eq_true, Int.reduceEq, Int.reduceLT, Int.reduceLE, Int.reduceNeg, w_c80, w_c8I, w_c8L, w_c8R, w_up1, w_up2, w_up3, w_tl1, c_k319, c_k320, c_k321, c_k322, c_k323, c_k324, c_k325, c_k326, c_k327, c_k328, c_k329, c_k330, c_k331, c_k332, c_k333, c_k334, c_k335, c_k336, c_k337, c_k338, c_k339, c_k340, c_k341, c_k342, c_k343, c_k344, c_k345, c_k346, c_k347, hS.r319_0, hS.r319_1, hS.r319_2, hS.r319_3, hS.r319_4, hS.r319_5, hS.r319_6, hS.r319_8, hS.r319_9, hS.r319_10, hS.r319_11, hS.r319_12, hS.r319_13, hS.r319_14, hS.r319_15, hS.r319_16, hS.r319_17, hS.r319_20, hS.r319_21, hS.r319_22, hS.r319_23, hS.r319_24, hS.r319_25, hS.r319_26, hS.r319_29, hS.r319_30, hS.r319_31, hS.r319_32, w_sf1, w_sf3]
      repeat refine And.intro (by first | assumption | exact IsW.kt (by assumption) | omega | (unfold in32; omega) | (unfold in64; omega) | exact True.intro | exact Or.inl True.intro | exact Or.inr True.intro | rfl | exact Nat.le_of_ble_eq_true rfl) ?_
      try first | done | assumption | (unfold in32; omega) | (unfold in64; omega)
      refine ⟨_, p_Mo_mixed hS (by omega) (by omega) (fun k k0 k1 => hW.r32 hn (by omega) (by omega) (by omega) (by omega) (by intros; omega) (by omega) (by omega)), ?_⟩
      rintro q M9 ⟨rfl, rfl⟩
      refine k_Mo_digest_203 _ _ _ _ _ _ _ _ ?_
      simp (disch := omega) only [↓w_nil, ↓w_cons, ↓w_lst1, ↓w_ic, ↓w_ist3, ↓w_fall, true_and, and_true, true_implies, false_implies, not_true_eq_false, not_false_eq_true, Int.reduceEq, Int.reduceLT, Int.reduceLE, Int.reduceNeg, w_nlI, w_nlL, w_nlR, w_up1, w_up2, w_up3, w_tl1, c_k319, c_k320, c_k321, c_k322, c_k323, c_k324, c_k325, c_k326, c_k327, c_k328, c_k329, c_k330, c_k331, c_k332, c_k333, c_k334, c_k335, c_k336, c_k337, c_k338, c_k339, c_k340, c_k341, c_k342, c_k343, c_k344, c_k345, c_k346, c_k347, hS.r319_0, hS.r319_1, hS.r319_2, hS.r319_3, hS.r319_4, hS.r319_5, hS.r319_6, hS.r319_8, hS.r319_9, hS.r319_10, hS.r319_11, hS.r319_12, hS.r319_13, hS.r319_14, hS.r319_15, hS.r319_16, hS.r319_17, hS.r319_20, hS.r319_21, hS.r319_22, hS.r319_23, hS.r319_24, hS.r319_25, hS.r319_26, hS.r319_29, hS.r319_30, hS.r319_31, hS.r319_32, w_sf1, w_sf3]
      exact l5 4 0 (by omega) (by omega)
    | succ d ih =>
      intro i hi h0
      have hb0 : in32 (M 324 2) := by unfold in32; omega
      refine k_Mo_digest_138 _ _ _ _ _ _ _ _ ?_
      simp (disch := omega) only [↓w_nil, ↓w_cons, ↓w_ild3, ↓w_ald0, ↓w_gf2_4, ↓w_ic, ↓w_iald, ↓w_icge, true_and, and_true, true_implies, false_implies, not_true_eq_false, not_false_eq_true, Int.reduceEq, Int.reduceLT, Int.reduceLE, Int.reduceNeg, w_up1, w_up2, w_up3, m_in0, c_k319, c_k320, c_k321, c_k322, c_k323, c_k324, c_k325, c_k326, c_k327, c_k328, c_k329, c_k330, c_k331, c_k332, c_k333, c_k334, c_k335, c_k336, c_k337, c_k338, c_k339, c_k340, c_k341, c_k342, c_k343, c_k344, c_k345, c_k346, c_k347, hS.r319_0, hS.r319_1, hS.r319_2, hS.r319_3, hS.r319_4, hS.r319_5, hS.r319_6, hS.r319_8, hS.r319_9, hS.r319_10, hS.r319_11, hS.r319_12, hS.r319_13, hS.r319_14, hS.r319_15, hS.r319_16, hS.r319_17, hS.r319_20, hS.r319_21, hS.r319_22, hS.r319_23, hS.r319_24, hS.r319_25, hS.r319_26, hS.r319_29, hS.r319_30, hS.r319_31, hS.r319_32, w_sf1, w_sf3]
      repeat refine And.intro (by first | assumption | exact IsW.kt (by assumption) | omega | (unfold in32; omega) | (unfold in64; omega) | exact True.intro | exact Or.inl True.intro | exact Or.inr True.intro | rfl | exact Nat.le_of_ble_eq_true rfl) ?_
      try first | done | assumption | (unfold in32; omega) | (unfold in64; omega)
      intro _
      refine k_Mo_digest_148 _ _ _ _ _ _ _ _ ?_
      simp (disch := omega) only [↓w_nil, ↓w_cons, ↓w_ald0, ↓w_lld1, ↓w_ic, ↓w_ild3, ↓w_imul, ↓w_iadd, ↓w_cv3, true_and, and_true, true_implies, false_implies, not_true_eq_false, not_false_eq_true, Int.reduceEq, Int.reduceLT, Int.reduceLE, Int.reduceNeg, w_c80, w_c8I, w_c8L, w_c8R, w_up1, w_up2, w_up3, m_in0, c_k319, c_k320, c_k321, c_k322, c_k323, c_k324, c_k325, c_k326, c_k327, c_k328, c_k329, c_k330, c_k331, c_k332, c_k333, c_k334, c_k335, c_k336, c_k337, c_k338, c_k339, c_k340, c_k341, c_k342, c_k343, c_k344, c_k345, c_k346, c_k347, hS.r319_0, hS.r319_1, hS.r319_2, hS.r319_3, hS.r319_4, hS.r319_5, hS.r319_6, hS.r319_8, hS.r319_9, hS.r319_10, hS.r319_11, hS.r319_12, hS.r319_13, hS.r319_14, hS.r319_15, hS.r319_16, hS.r319_17, hS.r319_20, hS.r319_21, hS.r319_22, hS.r319_23, hS.r319_24, hS.r319_25, hS.r319_26, hS.r319_29, hS.r319_30, hS.r319_31, hS.r319_32, w_sf1, w_sf3]
      repeat refine And.intro (by first | assumption | exact IsW.kt (by assumption) | omega | (unfold in32; omega) | (unfold in64; omega) | exact True.intro | exact Or.inl True.intro | exact Or.inr True.intro | rfl | exact Nat.le_of_ble_eq_true rfl) ?_
      try first | done | assumption | (unfold in32; omega) | (unfold in64; omega)
      refine ⟨_, p_Mo_mixed hS (by omega) (by omega) (seen_32 hW h0 (by omega)), ?_⟩
      rintro q M9 ⟨rfl, rfl⟩
      refine k_Mo_digest_161 _ _ _ _ _ _ _ _ ?_
      simp (disch := omega) only [↓w_nil, ↓w_cons, ↓w_lst1, ↓w_lc, ↓w_lld1, ↓w_lmul, ↓w_ald0, ↓w_gf2_21, ↓w_ild3, ↓w_lald, ↓w_ladd, ↓w_inc3, ↓w_goto, true_and, and_true, true_implies, false_implies, not_true_eq_false, not_false_eq_true, Int.reduceEq, Int.reduceLT, Int.reduceLE, Int.reduceNeg, w_nlI, w_nlL, w_nlR, w_up1, w_up2, w_up3, w_tl0, w_tl1, m_in0, c_k319, c_k320, c_k321, c_k322, c_k323, c_k324, c_k325, c_k326, c_k327, c_k328, c_k329, c_k330, c_k331, c_k332, c_k333, c_k334, c_k335, c_k336, c_k337, c_k338, c_k339, c_k340, c_k341, c_k342, c_k343, c_k344, c_k345, c_k346, c_k347, hS.r319_0, hS.r319_1, hS.r319_2, hS.r319_3, hS.r319_4, hS.r319_5, hS.r319_6, hS.r319_8, hS.r319_9, hS.r319_10, hS.r319_11, hS.r319_12, hS.r319_13, hS.r319_14, hS.r319_15, hS.r319_16, hS.r319_17, hS.r319_20, hS.r319_21, hS.r319_22, hS.r319_23, hS.r319_24, hS.r319_25, hS.r319_26, hS.r319_29, hS.r319_30, hS.r319_31, hS.r319_32, w_sf1, w_sf3]
      repeat refine And.intro (by first | assumption | exact IsW.kt (by assumption) | omega | (unfold in32; omega) | (unfold in64; omega) | exact True.intro | exact Or.inl True.intro | exact Or.inr True.intro | rfl | exact Nat.le_of_ble_eq_true rfl) ?_
      try first | done | assumption | (unfold in32; omega) | (unfold in64; omega)
      have := ih (i + 1) (by omega) (by omega)
      rw [it_s h0] at this
      rw [it_2, show (312 : Int) + 2 * i + 0 = 312 + 2 * i by omega, show (312 : Int) + 2 * i + 1 = 313 + 2 * i by omega]
      exact this
  have l2 : ∀ (d : Nat) (i : Int), i + d = M 324 0 → 0 ≤ i → mJ g y_Mo_digest 68 [.inr (.inr 319), .inr (.inl (cw_it (fun a p => if M 324 (10 + 12 * p) = 1 then cw_it (fun b k => 31 * b + M 324 (100 + 24 * p + k)) a 24 else a) (cw_it (fun a p => cw_it (fun b k => 31 * b + M 324 (11 + 12 * p + k)) a 10) (cw_it (fun b k => 31 * b + cw_cn (M 324) k) 337 6) (M 324 0)) i)), cU, .inl i] [] M (fun q M' => q = some (.inr (.inl (cw_hz (M 324) (M 338)))) ∧ M' = M) := by
    intro d
    induction d with
    | zero =>
      intro i hi h0
      refine cw_J_hide ?_
      have hb0 : in32 (M 324 0) := by unfold in32; omega
      refine k_Mo_digest_68 _ _ _ _ _ _ _ _ ?_
      simp (disch := omega) only [↓w_nil, ↓w_cons, ↓w_ild3, ↓w_ald0, ↓w_gf2_4, ↓w_ic, ↓w_iald, ↓w_icge, true_and, and_true, true_implies, false_implies, not_true_eq_false, not_false_eq_true, Int.reduceEq, Int.reduceLT, Int.reduceLE, Int.reduceNeg, w_up1, w_up2, w_up3, m_in0, c_k319, c_k320, c_k321, c_k322, c_k323, c_k324, c_k325, c_k326, c_k327, c_k328, c_k329, c_k330, c_k331, c_k332, c_k333, c_k334, c_k335, c_k336, c_k337, c_k338, c_k339, c_k340, c_k341, c_k342, c_k343, c_k344, c_k345, c_k346, c_k347, hS.r319_0, hS.r319_1, hS.r319_2, hS.r319_3, hS.r319_4, hS.r319_5, hS.r319_6, hS.r319_8, hS.r319_9, hS.r319_10, hS.r319_11, hS.r319_12, hS.r319_13, hS.r319_14, hS.r319_15, hS.r319_16, hS.r319_17, hS.r319_20, hS.r319_21, hS.r319_22, hS.r319_23, hS.r319_24, hS.r319_25, hS.r319_26, hS.r319_29, hS.r319_30, hS.r319_31, hS.r319_32, w_sf1, w_sf3]
      repeat refine And.intro (by first | assumption | exact IsW.kt (by assumption) | omega | (unfold in32; omega) | (unfold in64; omega) | exact True.intro | exact Or.inl True.intro | exact Or.inr True.intro | rfl | exact Nat.le_of_ble_eq_true rfl) ?_
      try first | done | assumption | (unfold in32; omega) | (unfold in64; omega)
      refine ⟨fun _ => ?_, fun h => absurd h (by omega)⟩
      have e24 : i = M 324 0 := by omega
      subst e24
      refine k_Mo_digest_113 _ _ _ _ _ _ _ _ ?_
      simp (disch := omega) only [↓w_nil, ↓w_cons, ↓w_ald0, ↓w_lld1, ↓w_ic, ↓w_cv3, true_and, and_true, true_implies, false_implies, not_true_eq_false, not_false_eq_true, Int.reduceEq, Int.reduceLT, Int.reduceLE, Int.reduceNeg, w_c80, w_c8I, w_c8L, w_c8R, w_up1, w_up2, w_up3, c_k319, c_k320, c_k321, c_k322, c_k323, c_k324, c_k325, c_k326, c_k327, c_k328, c_k329, c_k330, c_k331, c_k332, c_k333, c_k334, c_k335, c_k336, c_k337, c_k338, c_k339, c_k340, c_k341, c_k342, c_k343, c_k344, c_k345, c_k346, c_k347, hS.r319_0, hS.r319_1, hS.r319_2, hS.r319_3, hS.r319_4, hS.r319_5, hS.r319_6, hS.r319_8, hS.r319_9, hS.r319_10, hS.r319_11, hS.r319_12, hS.r319_13, hS.r319_14, hS.r319_15, hS.r319_16, hS.r319_17, hS.r319_20, hS.r319_21, hS.r319_22, hS.r319_23, hS.r319_24, hS.r319_25, hS.r319_26, hS.r319_29, hS.r319_30, hS.r319_31, hS.r319_32, w_sf1, w_sf3]
      repeat refine And.intro (by first | assumption | exact IsW.kt (by assumption) | omega | (unfold in32; omega) | (unfold in64; omega) | exact True.intro | exact Or.inl True.intro | exact Or.inr True.intro | rfl | exact Nat.le_of_ble_eq_true rfl) ?_
      try first | done | assumption | (unfold in32; omega) | (unfold in64; omega)
      refine ⟨_, p_Mo_mixed hS (by omega) (by omega) (fun k k0 k1 => hW.r32 hn (by omega) (by omega) (by omega) (by omega) (by intros; omega) (by omega) (by omega)), ?_⟩
      rintro q M9 ⟨rfl, rfl⟩
      refine k_Mo_digest_123 _ _ _ _ _ _ _ _ ?_
      simp (disch := omega) only [↓w_nil, ↓w_cons, ↓w_ic, ↓w_ald0, ↓w_gf2_4, ↓w_iald, ↓w_cv3, true_and, and_true, true_implies, false_implies, not_true_eq_false, not_false_eq_true, Int.reduceEq, Int.reduceLT, Int.reduceLE, Int.reduceNeg, w_c80, w_c8I, w_c8L, w_c8R, w_up1, w_up2, w_up3, w_tl1, c_k319, c_k320, c_k321, c_k322, c_k323, c_k324, c_k325, c_k326, c_k327, c_k328, c_k329, c_k330, c_k331, c_k332, c_k333, c_k334, c_k335, c_k336, c_k337, c_k338, c_k339, c_k340, c_k341, c_k342, c_k343, c_k344, c_k345, c_k346, c_k347, hS.r319_0, hS.r319_1, hS.r319_2, hS.r319_3, hS.r319_4, hS.r319_5, hS.r319_6, hS.r319_8, hS.r319_9, hS.r319_10, hS.r319_11, hS.r319_12, hS.r319_13, hS.r319_14, hS.r319_15, hS.r319_16, hS.r319_17, hS.r319_20, hS.r319_21, hS.r319_22, hS.r319_23, hS.r319_24, hS.r319_25, hS.r319_26, hS.r319_29, hS.r319_30, hS.r319_31, hS.r319_32, w_sf1, w_sf3]
      repeat refine And.intro (by first | assumption | exact IsW.kt (by assumption) | omega | (unfold in32; omega) | (unfold in64; omega) | exact True.intro | exact Or.inl True.intro | exact Or.inr True.intro | rfl | exact Nat.le_of_ble_eq_true rfl) ?_
      try first | done | assumption | (unfold in32; omega) | (unfold in64; omega)
      refine ⟨_, p_Mo_mixed hS (by omega) (by omega) (fun k k0 k1 => hW.r32 hn (by omega) (by omega) (by omega) (by omega) (by intros; omega) (by omega) (by omega)), ?_⟩
      rintro q M9 ⟨rfl, rfl⟩
      refine k_Mo_digest_135 _ _ _ _ _ _ _ _ ?_
      simp (disch := omega) only [↓w_nil, ↓w_cons, ↓w_lst1, ↓w_ic, ↓w_ist3, ↓w_fall, true_and, and_true, true_implies, false_implies, not_true_eq_false, not_false_eq_true, Int.reduceEq, Int.reduceLT, Int.reduceLE, Int.reduceNeg, w_nlI, w_nlL, w_nlR, w_up1, w_up2, w_up3, w_tl1, c_k319, c_k320, c_k321, c_k322, c_k323, c_k324, c_k325, c_k326, c_k327, c_k328, c_k329, c_k330, c_k331, c_k332, c_k333, c_k334, c_k335, c_k336, c_k337, c_k338, c_k339, c_k340, c_k341, c_k342, c_k343, c_k344, c_k345, c_k346, c_k347, hS.r319_0, hS.r319_1, hS.r319_2, hS.r319_3, hS.r319_4, hS.r319_5, hS.r319_6, hS.r319_8, hS.r319_9, hS.r319_10, hS.r319_11, hS.r319_12, hS.r319_13, hS.r319_14, hS.r319_15, hS.r319_16, hS.r319_17, hS.r319_20, hS.r319_21, hS.r319_22, hS.r319_23, hS.r319_24, hS.r319_25, hS.r319_26, hS.r319_29, hS.r319_30, hS.r319_31, hS.r319_32, w_sf1, w_sf3]
      exact l4 (M9 324 2).toNat 0 (by omega) (by omega)
    | succ d ih =>
      intro i hi h0
      have hb0 : in32 (M 324 0) := by unfold in32; omega
      refine k_Mo_digest_68 _ _ _ _ _ _ _ _ ?_
      simp (disch := omega) only [↓w_nil, ↓w_cons, ↓w_ild3, ↓w_ald0, ↓w_gf2_4, ↓w_ic, ↓w_iald, ↓w_icge, true_and, and_true, true_implies, false_implies, not_true_eq_false, not_false_eq_true, Int.reduceEq, Int.reduceLT, Int.reduceLE, Int.reduceNeg, w_up1, w_up2, w_up3, m_in0, c_k319, c_k320, c_k321, c_k322, c_k323, c_k324, c_k325, c_k326, c_k327, c_k328, c_k329, c_k330, c_k331, c_k332, c_k333, c_k334, c_k335, c_k336, c_k337, c_k338, c_k339, c_k340, c_k341, c_k342, c_k343, c_k344, c_k345, c_k346, c_k347, hS.r319_0, hS.r319_1, hS.r319_2, hS.r319_3, hS.r319_4, hS.r319_5, hS.r319_6, hS.r319_8, hS.r319_9, hS.r319_10, hS.r319_11, hS.r319_12, hS.r319_13, hS.r319_14, hS.r319_15, hS.r319_16, hS.r319_17, hS.r319_20, hS.r319_21, hS.r319_22, hS.r319_23, hS.r319_24, hS.r319_25, hS.r319_26, hS.r319_29, hS.r319_30, hS.r319_31, hS.r319_32, w_sf1, w_sf3]
      repeat refine And.intro (by first | assumption | exact IsW.kt (by assumption) | omega | (unfold in32; omega) | (unfold in64; omega) | exact True.intro | exact Or.inl True.intro | exact Or.inr True.intro | rfl | exact Nat.le_of_ble_eq_true rfl) ?_
      try first | done | assumption | (unfold in32; omega) | (unfold in64; omega)
      intro _
      refine k_Mo_digest_78 _ _ _ _ _ _ _ _ ?_
      simp (disch := omega) only [↓w_nil, ↓w_cons, ↓w_ald0, ↓w_ild3, ↓w_ic, ↓w_cv2, true_and, and_true, true_implies, false_implies, not_true_eq_false, not_false_eq_true, Int.reduceEq, Int.reduceLT, Int.reduceLE, Int.reduceNeg, w_c80, w_c8I, w_c8L, w_c8R, w_up1, w_up2, w_up3, m_in0, c_k319, c_k320, c_k321, c_k322, c_k323, c_k324, c_k325, c_k326, c_k327, c_k328, c_k329, c_k330, c_k331, c_k332, c_k333, c_k334, c_k335, c_k336, c_k337, c_k338, c_k339, c_k340, c_k341, c_k342, c_k343, c_k344, c_k345, c_k346, c_k347, hS.r319_0, hS.r319_1, hS.r319_2, hS.r319_3, hS.r319_4, hS.r319_5, hS.r319_6, hS.r319_8, hS.r319_9, hS.r319_10, hS.r319_11, hS.r319_12, hS.r319_13, hS.r319_14, hS.r319_15, hS.r319_16, hS.r319_17, hS.r319_20, hS.r319_21, hS.r319_22, hS.r319_23, hS.r319_24, hS.r319_25, hS.r319_26, hS.r319_29, hS.r319_30, hS.r319_31, hS.r319_32, w_sf1, w_sf3]
      repeat refine And.intro (by first | assumption | exact IsW.kt (by assumption) | omega | (unfold in32; omega) | (unfold in64; omega) | exact True.intro | exact Or.inl True.intro | exact Or.inr True.intro | rfl | exact Nat.le_of_ble_eq_true rfl) ?_
      try first | done | assumption | (unfold in32; omega) | (unfold in64; omega)
      refine ⟨_, p_Mo_of hS (by omega) (by omega), ?_⟩
      rintro q M9 ⟨rfl, rfl⟩
      have hb1 : in32 (M9 324 (10 + 12 * i)) := hW.r32 hn (by omega) (by omega) (by omega) (by omega) (by intros; omega) (by omega) (by omega)
      refine k_Mo_digest_84 _ _ _ _ _ _ _ _ ?_
      simp (disch := omega) only [↓w_nil, ↓w_cons, ↓w_ic, ↓w_icne, true_and, and_true, true_implies, false_implies, not_true_eq_false, not_false_eq_true, Int.reduceEq, Int.reduceLT, Int.reduceLE, Int.reduceNeg, w_up1, w_up2, w_up3, w_tl0, w_tl1, m_in0, c_k319, c_k320, c_k321, c_k322, c_k323, c_k324, c_k325, c_k326, c_k327, c_k328, c_k329, c_k330, c_k331, c_k332, c_k333, c_k334, c_k335, c_k336, c_k337, c_k338, c_k339, c_k340, c_k341, c_k342, c_k343, c_k344, c_k345, c_k346, c_k347, hS.r319_0, hS.r319_1, hS.r319_2, hS.r319_3, hS.r319_4, hS.r319_5, hS.r319_6, hS.r319_8, hS.r319_9, hS.r319_10, hS.r319_11, hS.r319_12, hS.r319_13, hS.r319_14, hS.r319_15, hS.r319_16, hS.r319_17, hS.r319_20, hS.r319_21, hS.r319_22, hS.r319_23, hS.r319_24, hS.r319_25, hS.r319_26, hS.r319_29, hS.r319_30, hS.r319_31, hS.r319_32, w_sf1, w_sf3]
      repeat refine And.intro (by first | assumption | exact IsW.kt (by assumption) | omega | (unfold in32; omega) | (unfold in64; omega) | exact True.intro | exact Or.inl True.intro | exact Or.inr True.intro | rfl | exact Nat.le_of_ble_eq_true rfl) ?_
      try first | done | assumption | (unfold in32; omega) | (unfold in64; omega)
      refine ⟨fun hc84 => ?_, fun hc84 => ?_⟩
      · refine k_Mo_digest_105 _ _ _ _ _ _ _ _ ?_
        simp (disch := omega) only [↓w_nil, ↓w_cons, ↓w_lld1, ↓w_fall, true_and, and_true, true_implies, false_implies, not_true_eq_false, not_false_eq_true, Int.reduceEq, Int.reduceLT, Int.reduceLE, Int.reduceNeg, w_up1, w_up2, w_up3, m_in0, c_k319, c_k320, c_k321, c_k322, c_k323, c_k324, c_k325, c_k326, c_k327, c_k328, c_k329, c_k330, c_k331, c_k332, c_k333, c_k334, c_k335, c_k336, c_k337, c_k338, c_k339, c_k340, c_k341, c_k342, c_k343, c_k344, c_k345, c_k346, c_k347, hS.r319_0, hS.r319_1, hS.r319_2, hS.r319_3, hS.r319_4, hS.r319_5, hS.r319_6, hS.r319_8, hS.r319_9, hS.r319_10, hS.r319_11, hS.r319_12, hS.r319_13, hS.r319_14, hS.r319_15, hS.r319_16, hS.r319_17, hS.r319_20, hS.r319_21, hS.r319_22, hS.r319_23, hS.r319_24, hS.r319_25, hS.r319_26, hS.r319_29, hS.r319_30, hS.r319_31, hS.r319_32, w_sf1, w_sf3]
        repeat refine And.intro (by first | assumption | exact IsW.kt (by assumption) | omega | (unfold in32; omega) | (unfold in64; omega) | exact True.intro | exact Or.inl True.intro | exact Or.inr True.intro | rfl | exact Nat.le_of_ble_eq_true rfl) ?_
        try first | done | assumption | (unfold in32; omega) | (unfold in64; omega)
        refine k_Mo_digest_106 _ _ _ _ _ _ _ _ ?_
        simp (disch := omega) only [↓w_nil, ↓w_cons, ↓w_lst1, ↓w_inc3, ↓w_goto, true_and, and_true, true_implies, false_implies, not_true_eq_false, not_false_eq_true, Int.reduceEq, Int.reduceLT, Int.reduceLE, Int.reduceNeg, w_nlI, w_nlL, w_nlR, w_up1, w_up2, w_up3, m_in0, c_k319, c_k320, c_k321, c_k322, c_k323, c_k324, c_k325, c_k326, c_k327, c_k328, c_k329, c_k330, c_k331, c_k332, c_k333, c_k334, c_k335, c_k336, c_k337, c_k338, c_k339, c_k340, c_k341, c_k342, c_k343, c_k344, c_k345, c_k346, c_k347, hS.r319_0, hS.r319_1, hS.r319_2, hS.r319_3, hS.r319_4, hS.r319_5, hS.r319_6, hS.r319_8, hS.r319_9, hS.r319_10, hS.r319_11, hS.r319_12, hS.r319_13, hS.r319_14, hS.r319_15, hS.r319_16, hS.r319_17, hS.r319_20, hS.r319_21, hS.r319_22, hS.r319_23, hS.r319_24, hS.r319_25, hS.r319_26, hS.r319_29, hS.r319_30, hS.r319_31, hS.r319_32, w_sf1, w_sf3]
        repeat refine And.intro (by first | assumption | exact IsW.kt (by assumption) | omega | (unfold in32; omega) | (unfold in64; omega) | exact True.intro | exact Or.inl True.intro | exact Or.inr True.intro | rfl | exact Nat.le_of_ble_eq_true rfl) ?_
        try first | done | assumption | (unfold in32; omega) | (unfold in64; omega)
        have := ih (i + 1) (by omega) (by omega)
        rw [it_s h0] at this
        first | (rw [if_pos (by assumption)] at this; exact this) | (rw [if_neg (by assumption)] at this; exact this)
      · refine k_Mo_digest_88 _ _ _ _ _ _ _ _ ?_
        simp (disch := omega) only [↓w_nil, ↓w_cons, ↓w_ald0, ↓w_lld1, ↓w_ic, ↓w_ild3, ↓w_imul, ↓w_iadd, ↓w_cv3, true_and, and_true, true_implies, false_implies, not_true_eq_false, not_false_eq_true, Int.reduceEq, Int.reduceLT, Int.reduceLE, Int.reduceNeg, w_c80, w_c8I, w_c8L, w_c8R, w_up1, w_up2, w_up3, m_in0, c_k319, c_k320, c_k321, c_k322, c_k323, c_k324, c_k325, c_k326, c_k327, c_k328, c_k329, c_k330, c_k331, c_k332, c_k333, c_k334, c_k335, c_k336, c_k337, c_k338, c_k339, c_k340, c_k341, c_k342, c_k343, c_k344, c_k345, c_k346, c_k347, hS.r319_0, hS.r319_1, hS.r319_2, hS.r319_3, hS.r319_4, hS.r319_5, hS.r319_6, hS.r319_8, hS.r319_9, hS.r319_10, hS.r319_11, hS.r319_12, hS.r319_13, hS.r319_14, hS.r319_15, hS.r319_16, hS.r319_17, hS.r319_20, hS.r319_21, hS.r319_22, hS.r319_23, hS.r319_24, hS.r319_25, hS.r319_26, hS.r319_29, hS.r319_30, hS.r319_31, hS.r319_32, w_sf1, w_sf3]
        repeat refine And.intro (by first | assumption | exact IsW.kt (by assumption) | omega | (unfold in32; omega) | (unfold in64; omega) | exact True.intro | exact Or.inl True.intro | exact Or.inr True.intro | rfl | exact Nat.le_of_ble_eq_true rfl) ?_
        try first | done | assumption | (unfold in32; omega) | (unfold in64; omega)
        refine ⟨_, p_Mo_mixed hS (by omega) (by omega) (fun k k0 k1 => hW.r32 hn (by omega) (by omega) (by omega) (by omega) (by intros; omega) (by omega) (by omega)), ?_⟩
        rintro q M9 ⟨rfl, rfl⟩
        refine k_Mo_digest_102 _ _ _ _ _ _ _ _ ?_
        simp (disch := omega) only [↓w_nil, ↓w_goto, true_and, and_true, true_implies, false_implies, not_true_eq_false, not_false_eq_true, Int.reduceEq, Int.reduceLT, Int.reduceLE, Int.reduceNeg, w_up1, w_up2, w_up3, w_tl0, w_tl1, m_in0, c_k319, c_k320, c_k321, c_k322, c_k323, c_k324, c_k325, c_k326, c_k327, c_k328, c_k329, c_k330, c_k331, c_k332, c_k333, c_k334, c_k335, c_k336, c_k337, c_k338, c_k339, c_k340, c_k341, c_k342, c_k343, c_k344, c_k345, c_k346, c_k347, hS.r319_0, hS.r319_1, hS.r319_2, hS.r319_3, hS.r319_4, hS.r319_5, hS.r319_6, hS.r319_8, hS.r319_9, hS.r319_10, hS.r319_11, hS.r319_12, hS.r319_13, hS.r319_14, hS.r319_15, hS.r319_16, hS.r319_17, hS.r319_20, hS.r319_21, hS.r319_22, hS.r319_23, hS.r319_24, hS.r319_25, hS.r319_26, hS.r319_29, hS.r319_30, hS.r319_31, hS.r319_32, w_sf1, w_sf3]
        repeat refine And.intro (by first | assumption | exact IsW.kt (by assumption) | omega | (unfold in32; omega) | (unfold in64; omega) | exact True.intro | exact Or.inl True.intro | exact Or.inr True.intro | rfl | exact Nat.le_of_ble_eq_true rfl) ?_
        try first | done | assumption | (unfold in32; omega) | (unfold in64; omega)
        refine k_Mo_digest_106 _ _ _ _ _ _ _ _ ?_
        simp (disch := omega) only [↓w_nil, ↓w_cons, ↓w_lst1, ↓w_inc3, ↓w_goto, true_and, and_true, true_implies, false_implies, not_true_eq_false, not_false_eq_true, Int.reduceEq, Int.reduceLT, Int.reduceLE, Int.reduceNeg, w_nlI, w_nlL, w_nlR, w_up1, w_up2, w_up3, m_in0, c_k319, c_k320, c_k321, c_k322, c_k323, c_k324, c_k325, c_k326, c_k327, c_k328, c_k329, c_k330, c_k331, c_k332, c_k333, c_k334, c_k335, c_k336, c_k337, c_k338, c_k339, c_k340, c_k341, c_k342, c_k343, c_k344, c_k345, c_k346, c_k347, hS.r319_0, hS.r319_1, hS.r319_2, hS.r319_3, hS.r319_4, hS.r319_5, hS.r319_6, hS.r319_8, hS.r319_9, hS.r319_10, hS.r319_11, hS.r319_12, hS.r319_13, hS.r319_14, hS.r319_15, hS.r319_16, hS.r319_17, hS.r319_20, hS.r319_21, hS.r319_22, hS.r319_23, hS.r319_24, hS.r319_25, hS.r319_26, hS.r319_29, hS.r319_30, hS.r319_31, hS.r319_32, w_sf1, w_sf3]
        repeat refine And.intro (by first | assumption | exact IsW.kt (by assumption) | omega | (unfold in32; omega) | (unfold in64; omega) | exact True.intro | exact Or.inl True.intro | exact Or.inr True.intro | rfl | exact Nat.le_of_ble_eq_true rfl) ?_
        try first | done | assumption | (unfold in32; omega) | (unfold in64; omega)
        have := ih (i + 1) (by omega) (by omega)
        rw [it_s h0] at this
        first | (rw [if_pos (by assumption)] at this; exact this) | (rw [if_neg (by assumption)] at this; exact this)
  have l1 : ∀ (d : Nat) (i : Int), i + d = M 324 0 → 0 ≤ i → mJ g y_Mo_digest 33 [.inr (.inr 319), .inr (.inl (cw_it (fun a p => cw_it (fun b k => 31 * b + M 324 (11 + 12 * p + k)) a 10) (cw_it (fun b k => 31 * b + cw_cn (M 324) k) 337 6) i)), cU, .inl i] [] M (fun q M' => q = some (.inr (.inl (cw_hz (M 324) (M 338)))) ∧ M' = M) := by
    intro d
    induction d with
    | zero =>
      intro i hi h0
      refine cw_J_hide ?_
      have hb0 : in32 (M 324 0) := by unfold in32; omega
      refine k_Mo_digest_33 _ _ _ _ _ _ _ _ ?_
      simp (disch := omega) only [↓w_nil, ↓w_cons, ↓w_ild3, ↓w_ald0, ↓w_gf2_4, ↓w_ic, ↓w_iald, ↓w_icge, true_and, and_true, true_implies, false_implies, not_true_eq_false, not_false_eq_true, Int.reduceEq, Int.reduceLT, Int.reduceLE, Int.reduceNeg, w_up1, w_up2, w_up3, m_in0, c_k319, c_k320, c_k321, c_k322, c_k323, c_k324, c_k325, c_k326, c_k327, c_k328, c_k329, c_k330, c_k331, c_k332, c_k333, c_k334, c_k335, c_k336, c_k337, c_k338, c_k339, c_k340, c_k341, c_k342, c_k343, c_k344, c_k345, c_k346, c_k347, hS.r319_0, hS.r319_1, hS.r319_2, hS.r319_3, hS.r319_4, hS.r319_5, hS.r319_6, hS.r319_8, hS.r319_9, hS.r319_10, hS.r319_11, hS.r319_12, hS.r319_13, hS.r319_14, hS.r319_15, hS.r319_16, hS.r319_17, hS.r319_20, hS.r319_21, hS.r319_22, hS.r319_23, hS.r319_24, hS.r319_25, hS.r319_26, hS.r319_29, hS.r319_30, hS.r319_31, hS.r319_32, w_sf1, w_sf3]
      repeat refine And.intro (by first | assumption | exact IsW.kt (by assumption) | omega | (unfold in32; omega) | (unfold in64; omega) | exact True.intro | exact Or.inl True.intro | exact Or.inr True.intro | rfl | exact Nat.le_of_ble_eq_true rfl) ?_
      try first | done | assumption | (unfold in32; omega) | (unfold in64; omega)
      refine ⟨fun _ => ?_, fun h => absurd h (by omega)⟩
      have e24 : i = M 324 0 := by omega
      subst e24
      refine k_Mo_digest_66 _ _ _ _ _ _ _ _ ?_
      simp (disch := omega) only [↓w_nil, ↓w_cons, ↓w_ic, ↓w_ist3, ↓w_fall, true_and, and_true, true_implies, false_implies, not_true_eq_false, not_false_eq_true, Int.reduceEq, Int.reduceLT, Int.reduceLE, Int.reduceNeg, w_nlI, w_nlL, w_nlR, w_up1, w_up2, w_up3]
      exact l2 (M 324 0).toNat 0 (by omega) (by omega)
    | succ d ih =>
      intro i hi h0
      have hb0 : in32 (M 324 0) := by unfold in32; omega
      refine k_Mo_digest_33 _ _ _ _ _ _ _ _ ?_
      simp (disch := omega) only [↓w_nil, ↓w_cons, ↓w_ild3, ↓w_ald0, ↓w_gf2_4, ↓w_ic, ↓w_iald, ↓w_icge, true_and, and_true, true_implies, false_implies, not_true_eq_false, not_false_eq_true, Int.reduceEq, Int.reduceLT, Int.reduceLE, Int.reduceNeg, w_up1, w_up2, w_up3, m_in0, c_k319, c_k320, c_k321, c_k322, c_k323, c_k324, c_k325, c_k326, c_k327, c_k328, c_k329, c_k330, c_k331, c_k332, c_k333, c_k334, c_k335, c_k336, c_k337, c_k338, c_k339, c_k340, c_k341, c_k342, c_k343, c_k344, c_k345, c_k346, c_k347, hS.r319_0, hS.r319_1, hS.r319_2, hS.r319_3, hS.r319_4, hS.r319_5, hS.r319_6, hS.r319_8, hS.r319_9, hS.r319_10, hS.r319_11, hS.r319_12, hS.r319_13, hS.r319_14, hS.r319_15, hS.r319_16, hS.r319_17, hS.r319_20, hS.r319_21, hS.r319_22, hS.r319_23, hS.r319_24, hS.r319_25, hS.r319_26, hS.r319_29, hS.r319_30, hS.r319_31, hS.r319_32, w_sf1, w_sf3]
      repeat refine And.intro (by first | assumption | exact IsW.kt (by assumption) | omega | (unfold in32; omega) | (unfold in64; omega) | exact True.intro | exact Or.inl True.intro | exact Or.inr True.intro | rfl | exact Nat.le_of_ble_eq_true rfl) ?_
      try first | done | assumption | (unfold in32; omega) | (unfold in64; omega)
      intro _
      refine k_Mo_digest_43 _ _ _ _ _ _ _ _ ?_
      simp (disch := omega) only [↓w_nil, ↓w_cons, ↓w_ald0, ↓w_lld1, ↓w_ic, ↓w_ild3, ↓w_imul, ↓w_iadd, ↓w_cv3, true_and, and_true, true_implies, false_implies, not_true_eq_false, not_false_eq_true, Int.reduceEq, Int.reduceLT, Int.reduceLE, Int.reduceNeg, w_c80, w_c8I, w_c8L, w_c8R, w_up1, w_up2, w_up3, m_in0, c_k319, c_k320, c_k321, c_k322, c_k323, c_k324, c_k325, c_k326, c_k327, c_k328, c_k329, c_k330, c_k331, c_k332, c_k333, c_k334, c_k335, c_k336, c_k337, c_k338, c_k339, c_k340, c_k341, c_k342, c_k343, c_k344, c_k345, c_k346, c_k347, hS.r319_0, hS.r319_1, hS.r319_2, hS.r319_3, hS.r319_4, hS.r319_5, hS.r319_6, hS.r319_8, hS.r319_9, hS.r319_10, hS.r319_11, hS.r319_12, hS.r319_13, hS.r319_14, hS.r319_15, hS.r319_16, hS.r319_17, hS.r319_20, hS.r319_21, hS.r319_22, hS.r319_23, hS.r319_24, hS.r319_25, hS.r319_26, hS.r319_29, hS.r319_30, hS.r319_31, hS.r319_32, w_sf1, w_sf3]
      repeat refine And.intro (by first | assumption | exact IsW.kt (by assumption) | omega | (unfold in32; omega) | (unfold in64; omega) | exact True.intro | exact Or.inl True.intro | exact Or.inr True.intro | rfl | exact Nat.le_of_ble_eq_true rfl) ?_
      try first | done | assumption | (unfold in32; omega) | (unfold in64; omega)
      refine ⟨_, p_Mo_mixed hS (by omega) (by omega) (fun k k0 k1 => hW.r32 hn (by omega) (by omega) (by omega) (by omega) (by intros; omega) (by omega) (by omega)), ?_⟩
      rintro q M9 ⟨rfl, rfl⟩
      refine k_Mo_digest_59 _ _ _ _ _ _ _ _ ?_
      simp (disch := omega) only [↓w_nil, ↓w_cons, ↓w_lst1, ↓w_inc3, ↓w_goto, true_and, and_true, true_implies, false_implies, not_true_eq_false, not_false_eq_true, Int.reduceEq, Int.reduceLT, Int.reduceLE, Int.reduceNeg, w_nlI, w_nlL, w_nlR, w_up1, w_up2, w_up3, w_tl0, w_tl1, m_in0, c_k319, c_k320, c_k321, c_k322, c_k323, c_k324, c_k325, c_k326, c_k327, c_k328, c_k329, c_k330, c_k331, c_k332, c_k333, c_k334, c_k335, c_k336, c_k337, c_k338, c_k339, c_k340, c_k341, c_k342, c_k343, c_k344, c_k345, c_k346, c_k347, hS.r319_0, hS.r319_1, hS.r319_2, hS.r319_3, hS.r319_4, hS.r319_5, hS.r319_6, hS.r319_8, hS.r319_9, hS.r319_10, hS.r319_11, hS.r319_12, hS.r319_13, hS.r319_14, hS.r319_15, hS.r319_16, hS.r319_17, hS.r319_20, hS.r319_21, hS.r319_22, hS.r319_23, hS.r319_24, hS.r319_25, hS.r319_26, hS.r319_29, hS.r319_30, hS.r319_31, hS.r319_32, w_sf1, w_sf3]
      repeat refine And.intro (by first | assumption | exact IsW.kt (by assumption) | omega | (unfold in32; omega) | (unfold in64; omega) | exact True.intro | exact Or.inl True.intro | exact Or.inr True.intro | rfl | exact Nat.le_of_ble_eq_true rfl) ?_
      try first | done | assumption | (unfold in32; omega) | (unfold in64; omega)
      have := ih (i + 1) (by omega) (by omega)
      rw [it_s h0] at this
      simp only [show (10 : Int) + 12 * i + 1 = 11 + 12 * i by omega]
      exact this
  have l0 : ∀ (d : Nat) (i : Int), i + d = 6 → 0 ≤ i → mJ g y_Mo_digest 6 [.inr (.inr 319), .inr (.inl (cw_it (fun b k => 31 * b + cw_cn (M 324) k) 337 i)), cU, .inl i] [] M (fun q M' => q = some (.inr (.inl (cw_hz (M 324) (M 338)))) ∧ M' = M) := by
    intro d
    induction d with
    | zero =>
      intro i hi h0
      refine cw_J_hide ?_
      refine k_Mo_digest_6 _ _ _ _ _ _ _ _ ?_
      simp (disch := omega) only [↓w_nil, ↓w_cons, ↓w_ild3, ↓w_ic, ↓w_icge, true_and, and_true, true_implies, false_implies, not_true_eq_false, not_false_eq_true, Int.reduceEq, Int.reduceLT, Int.reduceLE, Int.reduceNeg, w_up1, w_up2, w_up3, m_in0, c_k319, c_k320, c_k321, c_k322, c_k323, c_k324, c_k325, c_k326, c_k327, c_k328, c_k329, c_k330, c_k331, c_k332, c_k333, c_k334, c_k335, c_k336, c_k337, c_k338, c_k339, c_k340, c_k341, c_k342, c_k343, c_k344, c_k345, c_k346, c_k347, hS.r319_0, hS.r319_1, hS.r319_2, hS.r319_3, hS.r319_4, hS.r319_5, hS.r319_6, hS.r319_8, hS.r319_9, hS.r319_10, hS.r319_11, hS.r319_12, hS.r319_13, hS.r319_14, hS.r319_15, hS.r319_16, hS.r319_17, hS.r319_20, hS.r319_21, hS.r319_22, hS.r319_23, hS.r319_24, hS.r319_25, hS.r319_26, hS.r319_29, hS.r319_30, hS.r319_31, hS.r319_32, w_sf1, w_sf3]
      repeat refine And.intro (by first | assumption | exact IsW.kt (by assumption) | omega | (unfold in32; omega) | (unfold in64; omega) | exact True.intro | exact Or.inl True.intro | exact Or.inr True.intro | rfl | exact Nat.le_of_ble_eq_true rfl) ?_
      try first | done | assumption | (unfold in32; omega) | (unfold in64; omega)
      refine ⟨fun _ => ?_, fun h => absurd h (by omega)⟩
      have e24 : i = 6 := by omega
      subst e24
      refine k_Mo_digest_31 _ _ _ _ _ _ _ _ ?_
      simp (disch := omega) only [↓w_nil, ↓w_cons, ↓w_ic, ↓w_ist3, ↓w_fall, true_and, and_true, true_implies, false_implies, not_true_eq_false, not_false_eq_true, Int.reduceEq, Int.reduceLT, Int.reduceLE, Int.reduceNeg, w_nlI, w_nlL, w_nlR, w_up1, w_up2, w_up3]
      exact l1 (M 324 0).toNat 0 (by omega) (by omega)
    | succ d ih =>
      intro i hi h0
      refine k_Mo_digest_6 _ _ _ _ _ _ _ _ ?_
      simp (disch := omega) only [↓w_nil, ↓w_cons, ↓w_ild3, ↓w_ic, ↓w_icge, true_and, and_true, true_implies, false_implies, not_true_eq_false, not_false_eq_true, Int.reduceEq, Int.reduceLT, Int.reduceLE, Int.reduceNeg, w_up1, w_up2, w_up3, m_in0, c_k319, c_k320, c_k321, c_k322, c_k323, c_k324, c_k325, c_k326, c_k327, c_k328, c_k329, c_k330, c_k331, c_k332, c_k333, c_k334, c_k335, c_k336, c_k337, c_k338, c_k339, c_k340, c_k341, c_k342, c_k343, c_k344, c_k345, c_k346, c_k347, hS.r319_0, hS.r319_1, hS.r319_2, hS.r319_3, hS.r319_4, hS.r319_5, hS.r319_6, hS.r319_8, hS.r319_9, hS.r319_10, hS.r319_11, hS.r319_12, hS.r319_13, hS.r319_14, hS.r319_15, hS.r319_16, hS.r319_17, hS.r319_20, hS.r319_21, hS.r319_22, hS.r319_23, hS.r319_24, hS.r319_25, hS.r319_26, hS.r319_29, hS.r319_30, hS.r319_31, hS.r319_32, w_sf1, w_sf3]
      repeat refine And.intro (by first | assumption | exact IsW.kt (by assumption) | omega | (unfold in32; omega) | (unfold in64; omega) | exact True.intro | exact Or.inl True.intro | exact Or.inr True.intro | rfl | exact Nat.le_of_ble_eq_true rfl) ?_
      try first | done | assumption | (unfold in32; omega) | (unfold in64; omega)
      intro _
      refine k_Mo_digest_12 _ _ _ _ _ _ _ _ ?_
      simp (disch := omega) only [↓w_nil, ↓w_cons, ↓w_lc, ↓w_lld1, ↓w_lmul, ↓w_ald0, ↓w_ild3, ↓w_cv1, true_and, and_true, true_implies, false_implies, not_true_eq_false, not_false_eq_true, Int.reduceEq, Int.reduceLT, Int.reduceLE, Int.reduceNeg, w_c80, w_c8I, w_c8L, w_c8R, w_up1, w_up2, w_up3, m_in0, c_k319, c_k320, c_k321, c_k322, c_k323, c_k324, c_k325, c_k326, c_k327, c_k328, c_k329, c_k330, c_k331, c_k332, c_k333, c_k334, c_k335, c_k336, c_k337, c_k338, c_k339, c_k340, c_k341, c_k342, c_k343, c_k344, c_k345, c_k346, c_k347, hS.r319_0, hS.r319_1, hS.r319_2, hS.r319_3, hS.r319_4, hS.r319_5, hS.r319_6, hS.r319_8, hS.r319_9, hS.r319_10, hS.r319_11, hS.r319_12, hS.r319_13, hS.r319_14, hS.r319_15, hS.r319_16, hS.r319_17, hS.r319_20, hS.r319_21, hS.r319_22, hS.r319_23, hS.r319_24, hS.r319_25, hS.r319_26, hS.r319_29, hS.r319_30, hS.r319_31, hS.r319_32, w_sf1, w_sf3]
      repeat refine And.intro (by first | assumption | exact IsW.kt (by assumption) | omega | (unfold in32; omega) | (unfold in64; omega) | exact True.intro | exact Or.inl True.intro | exact Or.inr True.intro | rfl | exact Nat.le_of_ble_eq_true rfl) ?_
      try first | done | assumption | (unfold in32; omega) | (unfold in64; omega)
      refine ⟨_, p_Mo_countOf hS (by omega) (fun k k0 k1 => hW.r32 hn (by omega) (by omega) (by omega) (by omega) (by intros; omega) (by omega) (by omega)), ?_⟩
      rintro q M9 ⟨rfl, rfl⟩
      have hc32 := cn_32 hW (k := i) (by omega) (by omega)
      refine k_Mo_digest_22 _ _ _ _ _ _ _ _ ?_
      simp (disch := omega) only [↓w_nil, ↓w_cons, ↓w_i2l, ↓w_ladd, ↓w_lst1, ↓w_inc3, ↓w_goto, true_and, and_true, true_implies, false_implies, not_true_eq_false, not_false_eq_true, Int.reduceEq, Int.reduceLT, Int.reduceLE, Int.reduceNeg, w_nlI, w_nlL, w_nlR, w_up1, w_up2, w_up3, w_tl0, w_tl1, m_in0, c_k319, c_k320, c_k321, c_k322, c_k323, c_k324, c_k325, c_k326, c_k327, c_k328, c_k329, c_k330, c_k331, c_k332, c_k333, c_k334, c_k335, c_k336, c_k337, c_k338, c_k339, c_k340, c_k341, c_k342, c_k343, c_k344, c_k345, c_k346, c_k347, hS.r319_0, hS.r319_1, hS.r319_2, hS.r319_3, hS.r319_4, hS.r319_5, hS.r319_6, hS.r319_8, hS.r319_9, hS.r319_10, hS.r319_11, hS.r319_12, hS.r319_13, hS.r319_14, hS.r319_15, hS.r319_16, hS.r319_17, hS.r319_20, hS.r319_21, hS.r319_22, hS.r319_23, hS.r319_24, hS.r319_25, hS.r319_26, hS.r319_29, hS.r319_30, hS.r319_31, hS.r319_32, w_sf1, w_sf3]
      repeat refine And.intro (by first | assumption | exact IsW.kt (by assumption) | omega | (unfold in32; omega) | (unfold in64; omega) | exact True.intro | exact Or.inl True.intro | exact Or.inr True.intro | rfl | exact Nat.le_of_ble_eq_true rfl) ?_
      try first | done | assumption | (unfold in32; omega) | (unfold in64; omega)
      have := ih (i + 1) (by omega) (by omega)
      rw [it_s h0] at this
      exact this
  refine cw_C_of (L := [.inr (.inr 319), cU, cU, cU]) ok_Mo_digest (Nat.le_refl _) (Nat.le_of_ble_eq_true rfl) rfl ?_
  refine k_Mo_digest_0 _ _ _ _ _ _ _ _ ?_
  simp (disch := omega) only [↓w_nil, ↓w_cons, ↓w_lc, ↓w_lst1, ↓w_ic, ↓w_ist3, ↓w_fall, true_and, and_true, true_implies, false_implies, not_true_eq_false, not_false_eq_true, Int.reduceEq, Int.reduceLT, Int.reduceLE, Int.reduceNeg, w_nlI, w_nlL, w_nlR, w_up1, w_up2, w_up3]
  exact l0 6 0 (by omega) (by omega)
