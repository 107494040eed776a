/-! the reference: stores, storesAt -/
theorem so_all {g : cw_G} {M0 : cw_M} {f fl X F : Int → Int} {n0 : Int} {T : Tr} {ps : Int → Int} {tr : Int → Tr} {Q : Option cw_V → cw_M → Prop} {w : Int} {Xr Fr : Int → Int} (hS0 : Sh M0) (hf : M0 324 = f) (hW : WF n0 f fl) (h : H_all f (f 3) X F M0 T ps tr) (w1 : 0 < w) : ∀ (S : Tr) (lo : Int) (M : cw_M) (z : cw_V) (N D A : Int) (n : Nat), t_tp (fun R l => H_rd f (f 3) X F M0 T ps tr R l ∧ ∃ w', (0 < w' ∧ w' ≤ 13254776280841401 ∧ w' ≤ (201 : Int) ^ t_lv R) ∧ M0 333 l = w' ∧ ∀ p, t_in R p → M0 336 p = w' ∧ w' * Xr p = w * X p ∧ w' * Fr p = w * F p) S lo → (t_el (M0 327) (M0 328) (M0 329) S).2 0 lo → cw_rf RS M0 M → RM M 8 N → RM M 9 D → Lq n N D → n + t_lv S ≤ 7 → N * (w * w) = D * A →
    (∀ (M2 : cw_M) (z : cw_V) (N' D' : Int), cw_rf RS M0 M2 → RM M2 8 N' → RM M2 9 D' → Lq (n + t_lv S) N' D' → N' * (w * w) = D' * (A + t_tl (fun p => c_a f (f 3) p w (Xr p)) S) → mJ g y_Mo_stores 16 [.inr (.inr 319), .inl (lo + (t_er S).2), z] [] M2 Q) →
    mJ g y_Mo_stores 16 [.inr (.inr 319), .inl lo, z] [] M Q := by
  have one : ∀ (R : Tr) (l : Int) (M : cw_M) (z : cw_V) (N D A : Int) (n : Nat), (H_rd f (f 3) X F M0 T ps tr R l ∧ ∃ w', (0 < w' ∧ w' ≤ 13254776280841401 ∧ w' ≤ (201 : Int) ^ t_lv R) ∧ M0 333 l = w' ∧ ∀ p, t_in R p → M0 336 p = w' ∧ w' * Xr p = w * X p ∧ w' * Fr p = w * F p) → cw_rf RS M0 M → RM M 8 N → RM M 9 D → Lq n N D → n + t_lv R ≤ 7 → N * (w * w) = D * A →
      (∀ (M2 : cw_M) (z : cw_V) (N' D' : Int), cw_rf RS M0 M2 → RM M2 8 N' → RM M2 9 D' → Lq (n + t_lv R) N' D' → N' * (w * w) = D' * (A + t_tl (fun p => c_a f (f 3) p w (Xr p)) R) → mJ g y_Mo_stores 16 [.inr (.inr 319), .inl (l + (1 + (t_er R).1)), z] [] M2 Q) →
      mJ g y_Mo_stores 16 [.inr (.inr 319), .inl l, z] [] M Q := by
    rintro R l M z N D A n ⟨hR, w', hw', e333, hrel⟩ r h8 h9 hb hn hA nx
    refine so_one hS0 hf hW h hR r h8 h9 hb hn (fun M2 z2 r2 b8 b9 lb => ?_)
    rw [e333] at b8 b9 lb
    refine nx M2 z2 _ _ r2 b8 b9 lb ?_
    have e : w' * w' * t_tl (fun p => c_a f (f 3) p w (Xr p)) R = w * w * t_tl (fun p => c_a f (f 3) p w' (X p)) R := by
      rw [← tl_k, ← tl_k]
      refine tl_cg R (fun p hp => ?_)
      show w' * w' * c_a f (f 3) p w (Xr p) = w * w * c_a f (f 3) p w' (X p)
      rw [← ca_k hw'.1, ← ca_k w1, (hrel p hp).2.1, Int.mul_comm w w']
    generalize t_tl (fun p => c_a f (f 3) p w (Xr p)) R = u at *
    generalize t_tl (fun p => c_a f (f 3) p w' (X p)) R = v at *
    have e1 : (N * (w' * w') + 1 * (v * D)) * (w * w) = N * (w * w) * (w' * w') + D * (w * w * v) := by grind
    have e2 : D * (w' * w') * (A + u) = D * A * (w' * w') + D * (w' * w' * u) := by grind
    rw [e1, e2, hA, e]
  intro S
  induction S with
  | add a b iha _ =>
    intro lo M z N D A n ⟨ka, kb⟩ ⟨e1, _, _, _⟩ r h8 h9 hb hn hA nx
    have hn : n + (t_lv a + t_lv b) ≤ 7 := hn
    refine iha lo M z N D A n ka e1 r h8 h9 hb (by omega) hA (fun M2 z2 N2 D2 r2 b8 b9 lb2 hA2 => ?_)
    refine one b (lo + (t_er a).2) M2 z2 N2 D2 _ _ kb r2 b8 b9 lb2 (by omega) hA2 (fun M3 z3 N3 D3 r3 c8 c9 lb3 hA3 => ?_)
    have := nx M3 z3 N3 D3 r3 c8 c9 (by show Lq (n + (t_lv a + t_lv b)) N3 D3; rw [← Nat.add_assoc]; exact lb3) (by show N3 * (w * w) = D3 * (A + (t_tl _ a + t_tl _ b)); rw [hA3, Int.add_assoc])
    rw [show lo + (t_er a).2 + (1 + (t_er b).1) = lo + ((t_er a).2 + 1 + (t_er b).1) by omega]
    exact this
  | num p => exact fun lo M z N D A n k e r h8 h9 hb hn hA nx => one (.num p) lo M z N D A n k r h8 h9 hb hn hA nx
  | neg x _ =>
    intro lo M z N D A n k e r h8 h9 hb hn hA nx
    have q : (t_er (.neg x)).2 = 1 + (t_er (.neg x)).1 := by show 2 + (t_er x).2 = 1 + (1 + (t_er x).2); omega
    rw [q] at nx
    exact one (.neg x) lo M z N D A n k r h8 h9 hb hn hA nx
  | mul a b _ _ => exact fun lo M z N D A n k e r h8 h9 hb hn hA nx => one (.mul a b) lo M z N D A n k r h8 h9 hb hn hA nx
  | natCast _ => exact fun lo M z N D A n k => k.elim
  | intCast _ => exact fun lo M z N D A n k => k.elim
  | var _ => exact fun lo M z N D A n k => k.elim
  | sub _ _ => exact fun lo M z N D A n k => k.elim
  | pow _ _ => exact fun lo M z N D A n k => k.elim
theorem p_Mo_stores {g : cw_G} {M : cw_M} {f fl X F : Int → Int} {n0 w : Int} {T : Tr} {ps : Int → Int} {tr : Int → Tr} {Xr Fr : Int → Int} (hS : Sh M) (hf : M 324 = f) (hW : WF n0 f fl) (h : H_all f (f 3) X F M T ps tr) (hr : r_at f (f 3) T w Xr Fr) :
    mC g y_Mo_stores [.inr (.inr 319)] M (fun q M' => q = none ∧ cw_rf RS M M' ∧ ∃ N D : Int, RM M' 8 N ∧ RM M' 9 (D * 2) ∧ Lq 7 N D ∧ N * (w * w) = D * t_tl (fun p => c_a f (f 3) p w (Xr p)) T) := by
  have w0 := hW.1
  refine cw_C_of (L := [.inr (.inr 319), cU, cU]) ok_Mo_stores (Nat.le_refl _) (Nat.le_of_ble_eq_true rfl) rfl ?_
  refine cw_J_hide ?_
  refine k_Mo_stores_0 _ _ _ _ _ _ _ _ ?_
  simp (disch := omega) only [↓w_nil, ↓w_cons, ↓w_ald0, ↓w_ic, ↓w_lc, ↓w_cv2, true_and, and_true, true_implies, false_implies, not_true_eq_false, not_false_eq_true, Int.reduceEq, Int.reduceLT, Int.reduceLE, Int.reduceNeg, w_c80, w_c8I, w_c8L, w_c8R, w_up1, w_up2, w_up3]
  repeat refine And.intro (by first | assumption | exact IsW.kt (by assumption) | omega | (unfold in32; omega) | (unfold in64; omega) | exact True.intro | exact Or.inl True.intro | exact Or.inr True.intro | rfl | exact Nat.le_of_ble_eq_true rfl) ?_
  try first | done | assumption | (unfold in32; omega) | (unfold in64; omega)
  refine ⟨_, p_Mo_sets hS (r := 8) (v := 0) ⟨by omega, by omega⟩ (by omega), ?_⟩
  rintro q M1 ⟨rfl, g1, r1⟩
  have hS1 := hS.rf r1
  refine k_Mo_stores_7 _ _ _ _ _ _ _ _ ?_
  simp (disch := omega) only [↓w_nil, ↓w_cons, ↓w_ald0, ↓w_ic, ↓w_lc, ↓w_cv2, true_and, and_true, true_implies, false_implies, not_true_eq_false, not_false_eq_true, Int.reduceEq, Int.reduceLT, Int.reduceLE, Int.reduceNeg, w_c80, w_c8I, w_c8L, w_c8R, w_up1, w_up2, w_up3, w_tl0]
  repeat refine And.intro (by first | assumption | exact IsW.kt (by assumption) | omega | (unfold in32; omega) | (unfold in64; omega) | exact True.intro | exact Or.inl True.intro | exact Or.inr True.intro | rfl | exact Nat.le_of_ble_eq_true rfl) ?_
  try first | done | assumption | (unfold in32; omega) | (unfold in64; omega)
  refine ⟨_, p_Mo_sets hS1 (r := 9) (v := 1) ⟨by omega, by omega⟩ (by omega), ?_⟩
  rintro q M2 ⟨rfl, g2, r2⟩
  have r02 : cw_rf RS M M2 := rf_tr (rf_mo r1 (fun s y => by unfold RS; omega)) (rf_mo r2 (fun s y => by unfold RS; omega))
  refine k_Mo_stores_14 _ _ _ _ _ _ _ _ ?_
  simp (disch := omega) only [↓w_nil, ↓w_cons, ↓w_ic, ↓w_ist1, ↓w_fall, true_and, and_true, true_implies, false_implies, not_true_eq_false, not_false_eq_true, Int.reduceEq, Int.reduceLT, Int.reduceLE, Int.reduceNeg, w_nlI, w_nlL, w_nlR, w_up1, w_up2, w_up3, w_tl0]
  repeat refine And.intro (by first | assumption | exact IsW.kt (by assumption) | omega | (unfold in32; omega) | (unfold in64; omega) | exact True.intro | exact Or.inl True.intro | exact Or.inr True.intro | rfl | exact Nat.le_of_ble_eq_true rfl) ?_
  try first | done | assumption | (unfold in32; omega) | (unfold in64; omega)
  have l7 := lv_7 h.2.2.1.2.2.1
  refine so_all hS hf hW h hr.1 T 1 M2 _ 0 1 0 0 (at_un hW (by omega) h hr) h.1.2.2.2 r02 (g1.rf r2 ⟨by omega, by omega⟩ (by omega)) g2 ⟨by decide, by decide⟩ (by omega) (by omega) (fun M3 z3 N D r3 a8 a9 lb hA => ?_)
  have hS3 := hS.rf r3
  have e7 : M3 319 7 = 1 + (t_er T).2 := by rw [r3.1 319 (by omega)]; exact h.1.1
  have n60 := h.1.2.1
  have nn := (er_nn T).2
  rw [Nat.zero_add] at lb
  have zm := z4_le l7
  have bm : (t_lv T : Int) * C_st * (40401 : Int) ^ t_lv T ≤ ((7 : Nat) : Int) * C_st * (40401 : Int) ^ 7 := Int.mul_le_mul (Int.mul_le_mul_of_nonneg_right (by omega) (by decide)) zm (Int.le_of_lt (z4_pos _)) (by decide)
  have lb7 : Lq 7 N D := ⟨⟨lb.1.1, Int.le_trans lb.1.2 zm⟩, by have := lb.2.1; omega, by have := lb.2.2; omega⟩
  have bnd := lq_b lb7 (Nat.le_refl 7)
  refine k_Mo_stores_16 _ _ _ _ _ _ _ _ ?_
  simp (disch := omega) only [↓w_nil, ↓w_cons, ↓w_ild1, ↓w_ald0, ↓w_gf0_7, ↓w_icge, true_and, and_true, true_implies, false_implies, not_true_eq_false, not_false_eq_true, Int.reduceEq, Int.reduceLT, Int.reduceLE, Int.reduceNeg, w_up1, w_up2, w_up3, e7, c_k319, c_k320, c_k321, c_k322, c_k323, c_k324, c_k325, c_k326, c_k327, c_k328, c_k329, c_k330, c_k331, c_k332, c_k333, c_k334, c_k335, c_k336, c_k337, c_k338, c_k339, c_k340, c_k341, c_k342, c_k343, c_k344, c_k345, c_k346, c_k347, hS3.r319_0, hS3.r319_1, hS3.r319_2, hS3.r319_3, hS3.r319_4, hS3.r319_5, hS3.r319_6, hS3.r319_8, hS3.r319_9, hS3.r319_10, hS3.r319_11, hS3.r319_12, hS3.r319_13, hS3.r319_14, hS3.r319_15, hS3.r319_16, hS3.r319_17, hS3.r319_20, hS3.r319_21, hS3.r319_22, hS3.r319_23, hS3.r319_24, hS3.r319_25, hS3.r319_26, hS3.r319_29, hS3.r319_30, hS3.r319_31, hS3.r319_32, w_sf1, w_sf3]
  repeat refine And.intro (by first | assumption | exact IsW.kt (by assumption) | omega | (unfold in32; omega) | (unfold in64; omega) | exact True.intro | exact Or.inl True.intro | exact Or.inr True.intro | rfl | exact Nat.le_of_ble_eq_true rfl) ?_
  try first | done | assumption | (unfold in32; omega) | (unfold in64; omega)
  refine ⟨fun _ => ?_, fun h => absurd h (by omega)⟩
  refine k_Mo_stores_163 _ _ _ _ _ _ _ _ ?_
  simp (disch := omega) only [↓w_nil, ↓w_cons, ↓w_ald0, ↓w_ic, ↓w_lc, ↓w_cv3, true_and, and_true, true_implies, false_implies, not_true_eq_false, not_false_eq_true, Int.reduceEq, Int.reduceLT, Int.reduceLE, Int.reduceNeg, w_c80, w_c8I, w_c8L, w_c8R, w_up1, w_up2, w_up3]
  repeat refine And.intro (by first | assumption | exact IsW.kt (by assumption) | omega | (unfold in32; omega) | (unfold in64; omega) | exact True.intro | exact Or.inl True.intro | exact Or.inr True.intro | rfl | exact Nat.le_of_ble_eq_true rfl) ?_
  try first | done | assumption | (unfold in32; omega) | (unfold in64; omega)
  refine ⟨_, p_Mo_timesLong (va := D) (ia := 4) hS3 ⟨by omega, by omega⟩ ⟨by omega, by omega⟩ (by omega) a9 bnd.2 (by omega) (by omega), ?_⟩
  rintro q M4 ⟨rfl, g4, r4⟩
  refine k_Mo_stores_174 _ _ _ _ _ _ _ _ ?_
  simp (disch := omega) only [↓w_nil, ↓w_vret, true_and, and_true, true_implies, false_implies, not_true_eq_false, not_false_eq_true, Int.reduceEq, Int.reduceLT, Int.reduceLE, Int.reduceNeg, w_up1, w_up2, w_up3, w_tl0]
  repeat refine And.intro (by first | assumption | exact IsW.kt (by assumption) | omega | (unfold in32; omega) | (unfold in64; omega) | exact True.intro | exact Or.inl True.intro | exact Or.inr True.intro | rfl | exact Nat.le_of_ble_eq_true rfl) ?_
  try first | done | assumption | (unfold in32; omega) | (unfold in64; omega)
  refine ⟨rf_tr r3 (rf_mo r4 (fun s y => by unfold RS; omega)), N, D, a8.rf r4 ⟨by omega, by omega⟩ (by omega), g4, lb7, ?_⟩
  rw [hA, Int.zero_add]
/-- a turn put anew: the rest at it -/
theorem so_fu {f : Int → Int} {k v p : Int} (hk : k < 10) (hp : 0 ≤ p) : cw_so (cw_fu f k v) p 4 = cw_so f p 4 := by
  unfold cw_so cw_so cw_so cw_so cw_so
  rw [fu_o (by omega), fu_o (by omega), fu_o (by omega), fu_o (by omega), fu_o (by omega), fu_o (by omega), fu_o (by omega), fu_o (by omega), fu_o (by omega)]
theorem cy_fu {f : Int → Int} {k v t p w x : Int} (hk : k < 10) (hp : 0 ≤ p) (ht : 0 ≤ t) : c_y (cw_fu f k v) t p w x = c_y f t p w x := by
  unfold c_y
  rw [fu_o (by omega), fu_o (by omega), fu_o (by omega), fu_o (by omega), fu_o (by omega), fu_o (by omega), fu_o (by omega)]
theorem ca_fu {f : Int → Int} {k v t p w x : Int} (hk : k < 10) (hp : 0 ≤ p) (ht : 0 ≤ t) : c_a (cw_fu f k v) t p w x = c_a f t p w x := by
  unfold c_a
  rw [fu_o (by omega), fu_o (by omega), fu_o (by omega), fu_o (by omega), fu_o (by omega), fu_o (by omega), fu_o (by omega)]
theorem at_fu {f X F : Int → Int} {k v t w : Int} {T : Tr} (hk : k < 10) (ht : 0 ≤ t) (hT : ∀ p, t_in T p → 0 ≤ p) (h : r_at (cw_fu f k v) t T w X F) : r_at f t T w X F := by
  obtain ⟨h1, ⟨f0, h2⟩, h3⟩ := h
  refine ⟨h1, ⟨f0, nt_c T _ _ (fun p hp => ⟨?_, rfl⟩) h2⟩, fun p hp => ?_⟩
  · show X p - cw_so f p 4 * w = X p - cw_so (cw_fu f k v) p 4 * w
    rw [so_fu hk (hT p hp)]
  · rw [h3 p hp, cy_fu hk (hT p hp) ht]
theorem at_fu' {f X F : Int → Int} {k v t w : Int} {T : Tr} (hk : k < 10) (ht : 0 ≤ t) (hT : ∀ p, t_in T p → 0 ≤ p) (h : r_at f t T w X F) : r_at (cw_fu f k v) t T w X F := by
  obtain ⟨h1, ⟨f0, h2⟩, h3⟩ := h
  refine ⟨h1, ⟨f0, nt_c T _ _ (fun p hp => ⟨?_, rfl⟩) h2⟩, fun p hp => ?_⟩
  · show X p - cw_so (cw_fu f k v) p 4 * w = X p - cw_so f p 4 * w
    rw [so_fu hk (hT p hp)]
  · rw [h3 p hp, cy_fu hk (hT p hp) ht]
theorem wf_tn {f fl : Int → Int} {n t : Int} (ht : 0 ≤ t ∧ t ≤ 23) (hW : WF n f fl) : WF n (cw_fu f 3 t) fl := by
  unfold cw_fu
  obtain ⟨⟨a1, a2, a3, a4, a5⟩, hB, hC, hD, hE, hF, hG, hH, hI, hJ, hK, hL, hM, hN⟩ := hW
  refine ⟨⟨?_, ?_, ?_, ?_, ?_⟩, ?_, ?_, ?_, ?_, ?_, ?_, ?_, ?_, ?_, ?_, ?_, ?_, ?_⟩
  · have e := a1 ; (try simp (disch := omega) only [cw_gp, cw_ir, cw_no, up_if, sf_if, if_pos, if_neg, Int.reduceEq, false_and, and_false, true_and, and_true, if_false, if_true, reduceIte, ne_eq, not_false_eq_true]) <;> first | exact e  | (simp only [cw_gp, cw_ir, cw_no] at e; first | omega | ((repeat' split) <;> omega)) | omega | ((repeat' split) <;> omega)
  · have e := a2 ; (try simp (disch := omega) only [cw_gp, cw_ir, cw_no, up_if, sf_if, if_pos, if_neg, Int.reduceEq, false_and, and_false, true_and, and_true, if_false, if_true, reduceIte, ne_eq, not_false_eq_true]) <;> first | exact e  | (simp only [cw_gp, cw_ir, cw_no] at e; first | omega | ((repeat' split) <;> omega)) | omega | ((repeat' split) <;> omega)
  · have e := a3 ; (try simp (disch := omega) only [cw_gp, cw_ir, cw_no, up_if, sf_if, if_pos, if_neg, Int.reduceEq, false_and, and_false, true_and, and_true, if_false, if_true, reduceIte, ne_eq, not_false_eq_true]) <;> first | exact e  | (simp only [cw_gp, cw_ir, cw_no] at e; first | omega | ((repeat' split) <;> omega)) | omega | ((repeat' split) <;> omega)
  · have e := a4 ; (try simp (disch := omega) only [cw_gp, cw_ir, cw_no, up_if, sf_if, if_pos, if_neg, Int.reduceEq, false_and, and_false, true_and, and_true, if_false, if_true, reduceIte, ne_eq, not_false_eq_true]) <;> first | exact e  | (simp only [cw_gp, cw_ir, cw_no] at e; first | omega | ((repeat' split) <;> omega)) | omega | ((repeat' split) <;> omega)
  · have e := a5 ; (try simp (disch := omega) only [cw_gp, cw_ir, cw_no, up_if, sf_if, if_pos, if_neg, Int.reduceEq, false_and, and_false, true_and, and_true, if_false, if_true, reduceIte, ne_eq, not_false_eq_true]) <;> first | exact e  | (simp only [cw_gp, cw_ir, cw_no] at e; first | omega | ((repeat' split) <;> omega)) | omega | ((repeat' split) <;> omega)
  · intro x1 q0 q1; have e := hB x1; (try simp (disch := omega) only [up_if, sf_if, if_pos, if_neg, Int.reduceEq, false_and, and_false, true_and, and_true, if_false, if_true, reduceIte, ne_eq, not_false_eq_true] at q1); (try simp (disch := omega) only [cw_gp, cw_ir, cw_no, up_if, sf_if, if_pos, if_neg, Int.reduceEq, false_and, and_false, true_and, and_true, if_false, if_true, reduceIte, ne_eq, not_false_eq_true]) <;> first | exact e q0 q1 | (simp only [cw_gp, cw_ir, cw_no] at e; first | omega | ((repeat' split) <;> omega)) | omega | ((repeat' split) <;> omega)
  · intro x1 q0 q1; have e := hC x1; (try simp (disch := omega) only [up_if, sf_if, if_pos, if_neg, Int.reduceEq, false_and, and_false, true_and, and_true, if_false, if_true, reduceIte, ne_eq, not_false_eq_true] at q0); (try simp (disch := omega) only [cw_gp, cw_ir, cw_no, up_if, sf_if, if_pos, if_neg, Int.reduceEq, false_and, and_false, true_and, and_true, if_false, if_true, reduceIte, ne_eq, not_false_eq_true]) <;> first | exact e q0 q1 | (simp only [cw_gp, cw_ir, cw_no] at e; first | omega | ((repeat' split) <;> omega)) | omega | ((repeat' split) <;> omega)
  · intro x1 x2 q0 q1 q2 q3 q4; have e := hD x1 x2; (try simp (disch := omega) only [up_if, sf_if, if_pos, if_neg, Int.reduceEq, false_and, and_false, true_and, and_true, if_false, if_true, reduceIte, ne_eq, not_false_eq_true] at q1); (try simp (disch := omega) only [up_if, sf_if, if_pos, if_neg, Int.reduceEq, false_and, and_false, true_and, and_true, if_false, if_true, reduceIte, ne_eq, not_false_eq_true] at q4); (try simp (disch := omega) only [cw_gp, cw_ir, cw_no, up_if, sf_if, if_pos, if_neg, Int.reduceEq, false_and, and_false, true_and, and_true, if_false, if_true, reduceIte, ne_eq, not_false_eq_true]) <;> first | exact e q0 q1 q2 q3 q4 | (simp only [cw_gp, cw_ir, cw_no] at e; first | omega | ((repeat' split) <;> omega)) | omega | ((repeat' split) <;> omega)
  · intro x1 x2 q0 q1 q2 q3 q4; have e := hE x1 x2; (try simp (disch := omega) only [up_if, sf_if, if_pos, if_neg, Int.reduceEq, false_and, and_false, true_and, and_true, if_false, if_true, reduceIte, ne_eq, not_false_eq_true] at q4); (try simp (disch := omega) only [cw_gp, cw_ir, cw_no, up_if, sf_if, if_pos, if_neg, Int.reduceEq, false_and, and_false, true_and, and_true, if_false, if_true, reduceIte, ne_eq, not_false_eq_true]) <;> first | exact e q0 q1 q2 q3 q4 | (simp only [cw_gp, cw_ir, cw_no] at e; first | omega | ((repeat' split) <;> omega)) | omega | ((repeat' split) <;> omega)
  · intro x1 q0 q1; have e := hF x1; (try simp (disch := omega) only [cw_gp, cw_ir, cw_no, up_if, sf_if, if_pos, if_neg, Int.reduceEq, false_and, and_false, true_and, and_true, if_false, if_true, reduceIte, ne_eq, not_false_eq_true]) <;> first | exact e q0 q1 | (simp only [cw_gp, cw_ir, cw_no] at e; first | omega | ((repeat' split) <;> omega)) | omega | ((repeat' split) <;> omega)
  · intro x1 x2 q0 q1 q2 q3; have e := hG x1 x2; (try simp (disch := omega) only [cw_gp, cw_ir, cw_no, up_if, sf_if, if_pos, if_neg, Int.reduceEq, false_and, and_false, true_and, and_true, if_false, if_true, reduceIte, ne_eq, not_false_eq_true]) <;> first | exact e q0 q1 q2 q3 | (simp only [cw_gp, cw_ir, cw_no] at e; first | omega | ((repeat' split) <;> omega)) | omega | ((repeat' split) <;> omega)
  · intro x1 q0 q1; have e := hH x1; (try simp (disch := omega) only [cw_gp, cw_ir, cw_no, up_if, sf_if, if_pos, if_neg, Int.reduceEq, false_and, and_false, true_and, and_true, if_false, if_true, reduceIte, ne_eq, not_false_eq_true]) <;> first | exact e q0 q1 | (simp only [cw_gp, cw_ir, cw_no] at e; first | omega | ((repeat' split) <;> omega)) | omega | ((repeat' split) <;> omega)
  · intro x1 q0 q1; have e := hI x1; (try simp (disch := omega) only [cw_gp, cw_ir, cw_no, up_if, sf_if, if_pos, if_neg, Int.reduceEq, false_and, and_false, true_and, and_true, if_false, if_true, reduceIte, ne_eq, not_false_eq_true]) <;> first | exact e q0 q1 | (simp only [cw_gp, cw_ir, cw_no] at e; first | omega | ((repeat' split) <;> omega)) | omega | ((repeat' split) <;> omega)
  · intro x1 q0 q1; have e := hJ x1; (try simp (disch := omega) only [up_if, sf_if, if_pos, if_neg, Int.reduceEq, false_and, and_false, true_and, and_true, if_false, if_true, reduceIte, ne_eq, not_false_eq_true] at q1); (try simp (disch := omega) only [cw_gp, cw_ir, cw_no, up_if, sf_if, if_pos, if_neg, Int.reduceEq, false_and, and_false, true_and, and_true, if_false, if_true, reduceIte, ne_eq, not_false_eq_true]) <;> first | exact e q0 q1 | (simp only [cw_gp, cw_ir, cw_no] at e; first | omega | ((repeat' split) <;> omega)) | omega | ((repeat' split) <;> omega)
  · intro x1 q0 q1; have e := hK x1; (try simp (disch := omega) only [cw_gp, cw_ir, cw_no, up_if, sf_if, if_pos, if_neg, Int.reduceEq, false_and, and_false, true_and, and_true, if_false, if_true, reduceIte, ne_eq, not_false_eq_true]) <;> first | exact e q0 q1 | (simp only [cw_gp, cw_ir, cw_no] at e; first | omega | ((repeat' split) <;> omega)) | omega | ((repeat' split) <;> omega)
  · have e := hL ; (try simp (disch := omega) only [cw_gp, cw_ir, cw_no, up_if, sf_if, if_pos, if_neg, Int.reduceEq, false_and, and_false, true_and, and_true, if_false, if_true, reduceIte, ne_eq, not_false_eq_true]) <;> first | exact e  | (simp only [cw_gp, cw_ir, cw_no] at e; first | omega | ((repeat' split) <;> omega)) | omega | ((repeat' split) <;> omega)
  · intro x1 q0 q1; have e := hM x1; (try simp (disch := omega) only [cw_gp, cw_ir, cw_no, up_if, sf_if, if_pos, if_neg, Int.reduceEq, false_and, and_false, true_and, and_true, if_false, if_true, reduceIte, ne_eq, not_false_eq_true]) <;> first | exact e q0 q1 | (simp only [cw_gp, cw_ir, cw_no] at e; first | omega | ((repeat' split) <;> omega)) | omega | ((repeat' split) <;> omega)
  · intro x1 x2 q0 q1 q2 q3; have e := hN x1 x2; (try simp (disch := omega) only [cw_gp, cw_ir, cw_no, up_if, sf_if, if_pos, if_neg, Int.reduceEq, false_and, and_false, true_and, and_true, if_false, if_true, reduceIte, ne_eq, not_false_eq_true]) <;> first | exact e q0 q1 q2 q3 | (simp only [cw_gp, cw_ir, cw_no] at e; first | omega | ((repeat' split) <;> omega)) | omega | ((repeat' split) <;> omega)
/-- what is stored at a turn, without bounds -/
def U_st (f : Int → Int) (t : Int) (T : Tr) (A W : Int) : Prop := ∃ (w : Int) (X F : Int → Int), r_at f t T w X F ∧ W = w * w * 2 ∧ A = t_tl (fun p => c_a f t p w (X p)) T
theorem st_U {f : Int → Int} {t A W : Int} {T : Tr} (h : r_st f t T A W) : U_st f t T A W := by
  obtain ⟨_, w, X, F, _, h1, h2, h3⟩ := h
  exact ⟨w, X, F, h1, h2, h3⟩
theorem ust_un {f fl : Int → Int} {n t A W A' W' : Int} {T : Tr} (hW : WF n f fl) (ht : 0 ≤ t ∧ t < 24) (hT : ∀ q, t_in T q → 0 ≤ q ∧ q < f 0) (h : U_st f t T A W) (k : U_st f t T A' W') : A * W' = A' * W ∧ 0 < W ∧ 0 < W' := by
  obtain ⟨w, X, F, h1, rfl, rfl⟩ := h
  obtain ⟨w', X', F', k1, rfl, rfl⟩ := k
  obtain ⟨⟨p1, p2⟩, hu⟩ := at_sc hW ht hT h1 k1
  have e : w' * w' * t_tl (fun p => c_a f t p w (X p)) T = w * w * t_tl (fun p => c_a f t p w' (X' p)) T := by
    rw [← tl_k, ← tl_k]
    refine tl_cg T (fun p hp => ?_)
    show w' * w' * c_a f t p w (X p) = w * w * c_a f t p w' (X' p)
    rw [← ca_k p2, ← ca_k p1, (hu p hp).1, Int.mul_comm w w']
  have q1 := Int.mul_pos p1 p1
  have q2 := Int.mul_pos p2 p2
  exact ⟨by grind, by omega, by omega⟩
/-- the fraction in two registers is that of A by W -/
def F_is (M : cw_M) (r s A W : Int) : Prop := ∃ N D : Int, RM M r N ∧ RM M s D ∧ cw_ab N < 1073741824 ^ 10 ∧ cw_ab D < 1073741824 ^ 5 ∧ 0 < D ∧ A * D = N * W
