/-! the reference: solves, from the pieces up -/
/-- what solving stands on -/
def Su (f k K P I : Int → Int) (M : cw_M) : Prop := M 324 = f ∧ M 334 = k ∧ M 327 = K ∧ M 328 = P ∧ M 329 = I
theorem Su.gu {f k K P I : Int → Int} {M M1 : cw_M} {p : Int → Prop} (h : Su f k K P I M) (g : Gu p M M1) : Su f k K P I M1 := by
  obtain ⟨a, b, c, d, e⟩ := h
  exact ⟨(g.2.1 324 (by omega) (by omega) (by omega)).trans a, (g.2.1 334 (by omega) (by omega) (by omega)).trans b, (g.2.1 327 (by omega) (by omega) (by omega)).trans c, (g.2.1 328 (by omega) (by omega) (by omega)).trans d, (g.2.1 329 (by omega) (by omega) (by omega)).trans e⟩
def accM (M : cw_M) (rd : Int) (n : Nat) (A : Option V3) : Prop := match A with
  | none => M 332 rd = 0
  | some v => nv M rd v ∧ Bd n v
def c_op (K : Int) (A : Option V3) (b : V3) : V3 := match A with
  | none => b
  | some a => if K = 1 then c_mu a b else c_ad a b
/-- the values of the nodes of a tree -/
def t_bv (M : cw_M) (s e : Int → Int) : Tr → (Int → Prop) × (Int → Prop) := fun t => match t with
  | .num p => (fun lo => nv M lo (pv s e (.num p)), fun lo => nv M lo (pv s e (.num p)) ∧ nv M (lo + 1) (pv s e (.num p)))
  | .neg x => (fun lo => nv M lo (pv s e x) ∧ (t_bv M s e x).2 (lo + 1), fun lo => nv M lo (pv s e x) ∧ (nv M (lo + 1) (pv s e x) ∧ (t_bv M s e x).2 (lo + 1 + 1)))
  | .mul a b => (fun lo => (t_bv M s e a).1 lo ∧ (t_bv M s e b).1 (lo + (t_er a).1), fun lo => nv M lo (pv s e (.mul a b)) ∧ ((t_bv M s e a).1 (lo + 1) ∧ (t_bv M s e b).1 (lo + 1 + (t_er a).1)))
  | .add a b => (fun _ => False, fun lo => (t_bv M s e a).2 lo ∧ nv M (lo + (t_er a).2) (pv s e b) ∧ (t_bv M s e b).1 (lo + (t_er a).2 + 1))
  | _ => (fun _ => False, fun _ => False)
theorem bv_cg {M M1 : cw_M} {s e : Int → Int} {p : Int → Prop} (g : Gu p M M1) : ∀ t : Tr,
    (∀ lo, 0 ≤ lo → lo + (t_er t).1 ≤ 64 → (∀ j, lo ≤ j → j < lo + (t_er t).1 → ¬ p j) → (t_bv M s e t).1 lo → (t_bv M1 s e t).1 lo) ∧ (∀ lo, 0 ≤ lo → lo + (t_er t).2 ≤ 64 → (∀ j, lo ≤ j → j < lo + (t_er t).2 → ¬ p j) → (t_bv M s e t).2 lo → (t_bv M1 s e t).2 lo)
  | .num x => by
    refine ⟨fun lo l0 l1 h k => ?_, fun lo l0 l1 h k => ?_⟩
    · have l1 : lo + 1 ≤ 64 := l1
      have h : ∀ j, lo ≤ j → j < lo + 1 → ¬ p j := h
      exact nv_cg k g (h lo (by omega) (by omega)) (by omega)
    · have l1 : lo + 2 ≤ 64 := l1
      have h : ∀ j, lo ≤ j → j < lo + 2 → ¬ p j := h
      exact ⟨nv_cg k.1 g (h lo (by omega) (by omega)) (by omega), nv_cg k.2 g (h (lo + 1) (by omega) (by omega)) (by omega)⟩
  | .neg x => by
    have ih := bv_cg (s := s) (e := e) g x
    have nn := (er_nn x).2
    refine ⟨fun lo l0 l1 h k => ?_, fun lo l0 l1 h k => ?_⟩
    · have l1 : lo + (1 + (t_er x).2) ≤ 64 := l1
      have h : ∀ j, lo ≤ j → j < lo + (1 + (t_er x).2) → ¬ p j := h
      exact ⟨nv_cg k.1 g (h lo (by omega) (by omega)) (by omega), ih.2 (lo + 1) (by omega) (by omega) (fun j a b => h j (by omega) (by omega)) k.2⟩
    · have l1 : lo + (2 + (t_er x).2) ≤ 64 := l1
      have h : ∀ j, lo ≤ j → j < lo + (2 + (t_er x).2) → ¬ p j := h
      exact ⟨nv_cg k.1 g (h lo (by omega) (by omega)) (by omega), nv_cg k.2.1 g (h (lo + 1) (by omega) (by omega)) (by omega), ih.2 (lo + 1 + 1) (by omega) (by omega) (fun j a b => h j (by omega) (by omega)) k.2.2⟩
  | .mul a b => by
    have iha := bv_cg (s := s) (e := e) g a
    have ihb := bv_cg (s := s) (e := e) g b
    have na := (er_nn a).1
    have nb := (er_nn b).1
    refine ⟨fun lo l0 l1 h k => ?_, fun lo l0 l1 h k => ?_⟩
    · have l1 : lo + ((t_er a).1 + (t_er b).1) ≤ 64 := l1
      have h : ∀ j, lo ≤ j → j < lo + ((t_er a).1 + (t_er b).1) → ¬ p j := h
      exact ⟨iha.1 lo l0 (by omega) (fun j x y => h j (by omega) (by omega)) k.1, ihb.1 _ (by omega) (by omega) (fun j x y => h j (by omega) (by omega)) k.2⟩
    · have l1 : lo + (1 + ((t_er a).1 + (t_er b).1)) ≤ 64 := l1
      have h : ∀ j, lo ≤ j → j < lo + (1 + ((t_er a).1 + (t_er b).1)) → ¬ p j := h
      exact ⟨nv_cg k.1 g (h lo (by omega) (by omega)) (by omega), iha.1 (lo + 1) (by omega) (by omega) (fun j x y => h j (by omega) (by omega)) k.2.1, ihb.1 _ (by omega) (by omega) (fun j x y => h j (by omega) (by omega)) k.2.2⟩
  | .add a b => by
    have iha := bv_cg (s := s) (e := e) g a
    have ihb := bv_cg (s := s) (e := e) g b
    have na := (er_nn a).2
    have nb := (er_nn b).1
    refine ⟨fun lo l0 l1 h k => k.elim, fun lo l0 l1 h k => ?_⟩
    have l1 : lo + ((t_er a).2 + 1 + (t_er b).1) ≤ 64 := l1
    have h : ∀ j, lo ≤ j → j < lo + ((t_er a).2 + 1 + (t_er b).1) → ¬ p j := h
    exact ⟨iha.2 lo l0 (by omega) (fun j x y => h j (by omega) (by omega)) k.1, nv_cg k.2.1 g (h _ (by omega) (by omega)) (by omega), ihb.1 _ (by omega) (by omega) (fun j x y => h j (by omega) (by omega)) k.2.2⟩
  | .natCast _ => ⟨fun _ _ _ _ k => k, fun _ _ _ _ k => k⟩
  | .intCast _ => ⟨fun _ _ _ _ k => k, fun _ _ _ _ k => k⟩
  | .var _ => ⟨fun _ _ _ _ k => k, fun _ _ _ _ k => k⟩
  | .sub _ _ => ⟨fun _ _ _ _ k => k, fun _ _ _ _ k => k⟩
  | .pow _ _ => ⟨fun _ _ _ _ k => k, fun _ _ _ _ k => k⟩
/-- a piece -/
theorem su_leaf {g : cw_G} {M : cw_M} {f fl k K P I : Int → Int} {n i p : Int} {z : cw_V} {Q : Option cw_V → cw_M → Prop} (hS : Sh M) (hW : WF n f fl) (hs : Su f k K P I M) (hkb : ∀ p : Int, 0 ≤ p → p < f 0 → (-2 ≤ k p ∧ k p ≤ 2)) (hi : 0 ≤ i ∧ i < 64) (hK : K i = 0) (hI : I i = p) (hp : 0 ≤ p ∧ p < f 0)
    (nx : ∀ (M2 : cw_M) (z : cw_V), Gu (fun j => j = i) M M2 → nv M2 i (pv (l_sp f (f 3) k) (l_ep f (f 3) k) (.num p)) → mJ g y_Mo_solves 97 [.inr (.inr 319), .inl i, z] [] M2 Q) :
    mJ g y_Mo_solves 34 [.inr (.inr 319), .inl i, z] [] M Q := by
  obtain ⟨rfl, rfl, rfl, rfl, rfl⟩ := hs
  have w0 := hW.1
  have p7 : p < 7 := by omega
  have kb := hkb p hp.1 hp.2
  have g01 := gap_1 hW hp
  have ls := lsl_b hW hp (t := M 324 3) (by omega) kb
  have lo : -2000000 ≤ l_o (M 324) p (M 334 p) ∧ l_o (M 324) p (M 334 p) ≤ 2000000 := by
    rcases g01 with h | h
    · exact lso_b hW hp (Or.inl h)
    · have g : cw_gp (M 324) p := (hW.2.1 p hp.1 hp.2).resolve_right (fun z => by have := z.1; omega)
      unfold cw_gp at g
      unfold l_o
      rw [g.2.1, g.2.2.1, g.2.2.2.1, g.2.2.2.2.1, g.2.2.2.2.2]
      repeat' split
      all_goals omega
  have so := so_b hW hp.1 p7
  have m := ab_mb (x := l_s (M 324) (M 324 3) p (M 334 p)) (y := cw_so (M 324) p 4) (a := 200) (b := 25200) (by omega) so
  have l32 : in32 (l_s (M 324) (M 324 3) p (M 334 p)) := by unfold in32; omega
  have o32 : in32 (l_o (M 324) p (M 334 p)) := by unfold in32; omega
  have s32 : in32 (cw_so (M 324) p 4) := by unfold in32; omega
  have k32 : in32 (M 327 i) := by unfold in32; omega
  refine k_Mo_solves_34 _ _ _ _ _ _ _ _ ?_
  simp (disch := omega) only [↓w_nil, ↓w_cons, ↓w_ald0, ↓w_gf2_8, ↓w_ild1, ↓w_iald, ↓w_ifne, true_and, and_true, true_implies, false_implies, not_true_eq_false, not_false_eq_true, Int.reduceEq, Int.reduceLT, Int.reduceLE, Int.reduceNeg, w_up1, w_up2, w_up3, hK, c_k319, c_k320, c_k321, c_k322, c_k323, c_k324, c_k325, c_k326, c_k327, c_k328, c_k329, c_k330, c_k331, c_k332, c_k333, c_k334, c_k335, c_k336, c_k337, c_k338, c_k339, c_k340, c_k341, c_k342, c_k343, c_k344, c_k345, c_k346, c_k347, hS.r319_0, hS.r319_1, hS.r319_2, hS.r319_3, hS.r319_4, hS.r319_5, hS.r319_6, hS.r319_8, hS.r319_9, hS.r319_10, hS.r319_11, hS.r319_12, hS.r319_13, hS.r319_14, hS.r319_15, hS.r319_16, hS.r319_17, hS.r319_20, hS.r319_21, hS.r319_22, hS.r319_23, hS.r319_24, hS.r319_25, hS.r319_26, hS.r319_29, hS.r319_30, hS.r319_31, hS.r319_32, w_sf1, w_sf3]
  repeat refine And.intro (by first | assumption | exact IsW.kt (by assumption) | omega | (unfold in32; omega) | (unfold in64; omega) | exact True.intro | exact Or.inl True.intro | exact Or.inr True.intro | rfl | exact Nat.le_of_ble_eq_true rfl) ?_
  try first | done | assumption | (unfold in32; omega) | (unfold in64; omega)
  refine k_Mo_solves_43 _ _ _ _ _ _ _ _ ?_
  simp (disch := omega) only [↓w_nil, ↓w_cons, ↓w_ald0, ↓w_gf2_10, ↓w_ild1, ↓w_iald, ↓w_ist2, ↓w_gf2_12, ↓w_ild2, ↓w_cv1, true_and, and_true, true_implies, false_implies, not_true_eq_false, not_false_eq_true, Int.reduceEq, Int.reduceLT, Int.reduceLE, Int.reduceNeg, w_nlI, w_nlL, w_nlR, w_c80, w_c8I, w_c8L, w_c8R, w_up1, w_up2, w_up3, hI, c_k319, c_k320, c_k321, c_k322, c_k323, c_k324, c_k325, c_k326, c_k327, c_k328, c_k329, c_k330, c_k331, c_k332, c_k333, c_k334, c_k335, c_k336, c_k337, c_k338, c_k339, c_k340, c_k341, c_k342, c_k343, c_k344, c_k345, c_k346, c_k347, hS.r319_0, hS.r319_1, hS.r319_2, hS.r319_3, hS.r319_4, hS.r319_5, hS.r319_6, hS.r319_8, hS.r319_9, hS.r319_10, hS.r319_11, hS.r319_12, hS.r319_13, hS.r319_14, hS.r319_15, hS.r319_16, hS.r319_17, hS.r319_20, hS.r319_21, hS.r319_22, hS.r319_23, hS.r319_24, hS.r319_25, hS.r319_26, hS.r319_29, hS.r319_30, hS.r319_31, hS.r319_32, w_sf1, w_sf3]
  repeat refine And.intro (by first | assumption | exact IsW.kt (by assumption) | omega | (unfold in32; omega) | (unfold in64; omega) | exact True.intro | exact Or.inl True.intro | exact Or.inr True.intro | rfl | exact Nat.le_of_ble_eq_true rfl) ?_
  try first | done | assumption | (unfold in32; omega) | (unfold in64; omega)
  refine ⟨_, p_Mo_carries hS hW hp rfl kb, ?_⟩
  rintro q M9 ⟨rfl, rfl⟩
  have G1 : Gu (fun j => j = i) M9 (cw_up (cw_up M9 331 i (l_s (M9 324) (M9 324 3) p (M9 334 p))) 332 i 1) := gu_up (gu_up (Gu.rf hS) (Or.inl rfl) rfl) (Or.inr rfl) rfl
  have e324 : (cw_up (cw_up M9 331 i (l_s (M9 324) (M9 324 3) p (M9 334 p))) 332 i 1) 324 = M9 324 := by rw [cw_up_ne (by omega), cw_up_ne (by omega)]
  have e334 : (cw_up (cw_up M9 331 i (l_s (M9 324) (M9 324 3) p (M9 334 p))) 332 i 1) 334 = M9 334 := by rw [cw_up_ne (by omega), cw_up_ne (by omega)]
  refine k_Mo_solves_60 _ _ _ _ _ _ _ _ ?_
  simp (disch := omega) only [↓w_nil, ↓w_cons, ↓w_i2l, ↓w_last, ↓w_ald0, ↓w_gf2_13, ↓w_ild1, ↓w_lc, ↓w_ic, ↓w_iadd, ↓w_ild2, ↓w_cv1, true_and, and_true, true_implies, false_implies, not_true_eq_false, not_false_eq_true, Int.reduceEq, Int.reduceLT, Int.reduceLE, Int.reduceNeg, w_c80, w_c8I, w_c8L, w_c8R, w_up1, w_up2, w_up3, w_tl1, c_k319, c_k320, c_k321, c_k322, c_k323, c_k324, c_k325, c_k326, c_k327, c_k328, c_k329, c_k330, c_k331, c_k332, c_k333, c_k334, c_k335, c_k336, c_k337, c_k338, c_k339, c_k340, c_k341, c_k342, c_k343, c_k344, c_k345, c_k346, c_k347, hS.r319_0, hS.r319_1, hS.r319_2, hS.r319_3, hS.r319_4, hS.r319_5, hS.r319_6, hS.r319_8, hS.r319_9, hS.r319_10, hS.r319_11, hS.r319_12, hS.r319_13, hS.r319_14, hS.r319_15, hS.r319_16, hS.r319_17, hS.r319_20, hS.r319_21, hS.r319_22, hS.r319_23, hS.r319_24, hS.r319_25, hS.r319_26, hS.r319_29, hS.r319_30, hS.r319_31, hS.r319_32, w_sf1, w_sf3]
  repeat refine And.intro (by first | assumption | exact IsW.kt (by assumption) | omega | (unfold in32; omega) | (unfold in64; omega) | exact True.intro | exact Or.inl True.intro | exact Or.inr True.intro | rfl | exact Nat.le_of_ble_eq_true rfl) ?_
  try first | done | assumption | (unfold in32; omega) | (unfold in64; omega)
  generalize hM1 : (cw_up (cw_up M9 331 i (l_s (M9 324) (M9 324 3) p (M9 334 p))) 332 i 1) = M1 at *
  have hS1 := G1.1
  have hW1 : WF n (M1 324) fl := by rw [e324]; exact hW
  refine ⟨_, p_Mo_carries hS1 hW1 (by rw [e324]; exact hp) rfl (by rw [e334]; exact kb), ?_⟩
  rintro q M8 ⟨rfl, rfl⟩
  rw [e324, e334]
  refine k_Mo_solves_79 _ _ _ _ _ _ _ _ ?_
  simp (disch := omega) only [↓w_nil, ↓w_cons, ↓w_i2l, ↓w_ald0, ↓w_ild2, ↓w_cv1, true_and, and_true, true_implies, false_implies, not_true_eq_false, not_false_eq_true, Int.reduceEq, Int.reduceLT, Int.reduceLE, Int.reduceNeg, w_c80, w_c8I, w_c8L, w_c8R, w_up1, w_up2, w_up3, w_tl1]
  repeat refine And.intro (by first | assumption | exact IsW.kt (by assumption) | omega | (unfold in32; omega) | (unfold in64; omega) | exact True.intro | exact Or.inl True.intro | exact Or.inr True.intro | rfl | exact Nat.le_of_ble_eq_true rfl) ?_
  try first | done | assumption | (unfold in32; omega) | (unfold in64; omega)
  refine ⟨_, p_Mo_sourceOf hS1 ⟨hp.1, p7⟩, ?_⟩
  rintro q M7 ⟨rfl, rfl⟩
  rw [e324]
  refine k_Mo_solves_85 _ _ _ _ _ _ _ _ ?_
  simp (disch := omega) only [↓w_nil, ↓w_cons, ↓w_i2l, ↓w_lmul, ↓w_ald0, ↓w_ild2, ↓w_cv1, true_and, and_true, true_implies, false_implies, not_true_eq_false, not_false_eq_true, Int.reduceEq, Int.reduceLT, Int.reduceLE, Int.reduceNeg, w_c80, w_c8I, w_c8L, w_c8R, w_up1, w_up2, w_up3, w_tl1]
  repeat refine And.intro (by first | assumption | exact IsW.kt (by assumption) | omega | (unfold in32; omega) | (unfold in64; omega) | exact True.intro | exact Or.inl True.intro | exact Or.inr True.intro | rfl | exact Nat.le_of_ble_eq_true rfl) ?_
  try first | done | assumption | (unfold in32; omega) | (unfold in64; omega)
  refine ⟨_, p_Mo_beyond hS1 hW1 (by rw [e324]; exact hp) rfl (by rw [e334]; exact kb), ?_⟩
  rintro q M6 ⟨rfl, rfl⟩
  rw [e324, e334]
  refine k_Mo_solves_92 _ _ _ _ _ _ _ _ ?_
  simp (disch := omega) only [↓w_nil, ↓w_cons, ↓w_i2l, ↓w_ladd, ↓w_cv2, true_and, and_true, true_implies, false_implies, not_true_eq_false, not_false_eq_true, Int.reduceEq, Int.reduceLT, Int.reduceLE, Int.reduceNeg, w_c80, w_c8I, w_c8L, w_c8R, w_up1, w_up2, w_up3, w_tl1]
  repeat refine And.intro (by first | assumption | exact IsW.kt (by assumption) | omega | (unfold in32; omega) | (unfold in64; omega) | exact True.intro | exact Or.inl True.intro | exact Or.inr True.intro | rfl | exact Nat.le_of_ble_eq_true rfl) ?_
  try first | done | assumption | (unfold in32; omega) | (unfold in64; omega)
  refine ⟨_, p_Mo_sets hS1 (r := 92 + i) ⟨by omega, by omega⟩ (by omega), ?_⟩
  rintro q M5 ⟨rfl, g5, r5⟩
  simp only [w_tl0]
  refine nx M5 _ (G1.tr (gu_rf hS1 r5 (fun s y => Or.inr (Or.inr (Or.inr ⟨i, rfl, y⟩))))) ⟨?_, ?_, ?_⟩
  · rw [r5.1 331 (by omega), ← hM1, cw_up_ne (by omega), w_up1]
    show _ = l_sp (M9 324) (M9 324 3) (M9 334) p
    unfold l_sp
    rw [if_pos hp.2]
  · rw [r5.1 332 (by omega), ← hM1, w_up1]; rfl
  · have e : (pv (l_sp (M9 324) (M9 324 3) (M9 334)) (l_ep (M9 324) (M9 324 3) (M9 334)) (.num p)).2.2 = l_s (M9 324) (M9 324 3) p (M9 334 p) * cw_so (M9 324) p 4 + l_o (M9 324) p (M9 334 p) := by
      show l_ep (M9 324) (M9 324 3) (M9 334) p = _
      unfold l_ep
      rw [if_pos hp.2]
    rw [e]; exact g5
/-- a node joins the one above -/
theorem su_join {g : cw_G} {M : cw_M} {f k K P I : Int → Int} {i rd : Int} {z : cw_V} {A : Option V3} {b : V3} {n m : Nat} {Q : Option cw_V → cw_M → Prop} (hS : Sh M) (hs : Su f k K P I M) (hi : 0 ≤ i ∧ i < 64) (hP : P i = rd) (hr : 1 ≤ rd ∧ rd < i) (hK : K rd = 1 ∨ K rd = 2) (hb : nv M i b) (bb : Bd m b) (hA : accM M rd n A) (hnm : n + m ≤ 7)
    (nx : ∀ (M2 : cw_M), Gu (fun j => j = rd) M M2 → nv M2 rd (c_op (K rd) A b) → mJ g y_Mo_solves 30 [.inr (.inr 319), .inl (i - 1), z] [] M2 Q) :
    mJ g y_Mo_solves 97 [.inr (.inr 319), .inl i, z] [] M Q := by
  obtain ⟨rfl, rfl, rfl, rfl, rfl⟩ := hs
  have p32 : in32 (M 328 i) := by unfold in32; omega
  refine k_Mo_solves_97 _ _ _ _ _ _ _ _ ?_
  simp (disch := omega) only [↓w_nil, ↓w_cons, ↓w_ald0, ↓w_gf2_9, ↓w_ild1, ↓w_iald, ↓w_ifle, true_and, and_true, true_implies, false_implies, not_true_eq_false, not_false_eq_true, Int.reduceEq, Int.reduceLT, Int.reduceLE, Int.reduceNeg, w_up1, w_up2, w_up3, c_k319, c_k320, c_k321, c_k322, c_k323, c_k324, c_k325, c_k326, c_k327, c_k328, c_k329, c_k330, c_k331, c_k332, c_k333, c_k334, c_k335, c_k336, c_k337, c_k338, c_k339, c_k340, c_k341, c_k342, c_k343, c_k344, c_k345, c_k346, c_k347, hS.r319_0, hS.r319_1, hS.r319_2, hS.r319_3, hS.r319_4, hS.r319_5, hS.r319_6, hS.r319_8, hS.r319_9, hS.r319_10, hS.r319_11, hS.r319_12, hS.r319_13, hS.r319_14, hS.r319_15, hS.r319_16, hS.r319_17, hS.r319_20, hS.r319_21, hS.r319_22, hS.r319_23, hS.r319_24, hS.r319_25, hS.r319_26, hS.r319_29, hS.r319_30, hS.r319_31, hS.r319_32, w_sf1, w_sf3]
  repeat refine And.intro (by first | assumption | exact IsW.kt (by assumption) | omega | (unfold in32; omega) | (unfold in64; omega) | exact True.intro | exact Or.inl True.intro | exact Or.inr True.intro | rfl | exact Nat.le_of_ble_eq_true rfl) ?_
  try first | done | assumption | (unfold in32; omega) | (unfold in64; omega)
  intro _
  refine k_Mo_solves_106 _ _ _ _ _ _ _ _ ?_
  simp (disch := omega) only [↓w_nil, ↓w_cons, ↓w_ald0, ↓w_ild1, ↓w_cv1, true_and, and_true, true_implies, false_implies, not_true_eq_false, not_false_eq_true, Int.reduceEq, Int.reduceLT, Int.reduceLE, Int.reduceNeg, w_c80, w_c8I, w_c8L, w_c8R, w_up1, w_up2, w_up3]
  repeat refine And.intro (by first | assumption | exact IsW.kt (by assumption) | omega | (unfold in32; omega) | (unfold in64; omega) | exact True.intro | exact Or.inl True.intro | exact Or.inr True.intro | rfl | exact Nat.le_of_ble_eq_true rfl) ?_
  try first | done | assumption | (unfold in32; omega) | (unfold in64; omega)
  cases A with
  | none =>
    refine ⟨_, p_Mo_joins0 hS hi hP (by omega) hA hb, ?_⟩
    rintro q M2 ⟨rfl, G2, h2⟩
    refine k_Mo_solves_111 _ _ _ _ _ _ _ _ ?_
    simp (disch := omega) only [↓w_nil, ↓w_cons, ↓w_inc1, ↓w_goto, true_and, and_true, true_implies, false_implies, not_true_eq_false, not_false_eq_true, Int.reduceEq, Int.reduceLT, Int.reduceLE, Int.reduceNeg, w_nlI, w_nlL, w_nlR, w_up1, w_up2, w_up3, w_tl0]
    repeat refine And.intro (by first | assumption | exact IsW.kt (by assumption) | omega | (unfold in32; omega) | (unfold in64; omega) | exact True.intro | exact Or.inl True.intro | exact Or.inr True.intro | rfl | exact Nat.le_of_ble_eq_true rfl) ?_
    try first | done | assumption | (unfold in32; omega) | (unfold in64; omega)
    rw [show i + -1 = i - 1 by omega]
    exact nx M2 G2 h2
  | some a =>
    refine ⟨_, p_Mo_joins1 hS hi hP (by omega) hA.1 hb hA.2 bb hnm hK (by omega), ?_⟩
    rintro q M2 ⟨rfl, G2, h2⟩
    refine k_Mo_solves_111 _ _ _ _ _ _ _ _ ?_
    simp (disch := omega) only [↓w_nil, ↓w_cons, ↓w_inc1, ↓w_goto, true_and, and_true, true_implies, false_implies, not_true_eq_false, not_false_eq_true, Int.reduceEq, Int.reduceLT, Int.reduceLE, Int.reduceNeg, w_nlI, w_nlL, w_nlR, w_up1, w_up2, w_up3, w_tl0]
    repeat refine And.intro (by first | assumption | exact IsW.kt (by assumption) | omega | (unfold in32; omega) | (unfold in64; omega) | exact True.intro | exact Or.inl True.intro | exact Or.inr True.intro | rfl | exact Nat.le_of_ble_eq_true rfl) ?_
    try first | done | assumption | (unfold in32; omega) | (unfold in64; omega)
    rw [show i + -1 = i - 1 by omega]
    exact nx M2 G2 h2
