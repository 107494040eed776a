/-! the reference: solves -/
/-- of each road of the whole: where it stands -/
def t_tp (B : Tr → Int → Prop) : Tr → Int → Prop := fun t => match t with
  | .add a b => fun lo => t_tp B a lo ∧ B b (lo + (t_er a).2)
  | .num p => fun lo => B (.num p) lo
  | .neg x => fun lo => B (.neg x) lo
  | .mul a b => fun lo => B (.mul a b) lo
  | _ => fun _ => False
/-- a road that is solved -/
def m_rd (M : cw_M) (s e so : Int → Int) (t : Tr) (lo : Int) : Prop := M 333 lo = (t_pq s t).2 ∧ t_dl M (t_pq s t).2 s e so t 0 1 0
theorem dw_one {g : cw_G} {f k K P I fl : Int → Int} {n0 N : Int} {Q : Option cw_V → cw_M → Prop} {t : Tr} (hW : WF n0 f fl) (hs2 : s_ok (l_sp f (f 3) k)) (he2 : e_ok (l_ep f (f 3) k)) (hN2 : N ≤ 64) (lo : Int) (M : cw_M) (z : cw_V) (hS : Sh M) (hs : Su f k K P I M) (hN : M 319 7 = N) (hK : K lo = 1) (hP : P lo = 0) (hel : (t_el K P I t).1 lo (lo + 1)) (l1 : 1 ≤ lo) (hlo : lo + (1 + (t_er t).1) ≤ N) (hv : nv M lo (pv (l_sp f (f 3) k) (l_ep f (f 3) k) t) ∧ (t_bv M (l_sp f (f 3) k) (l_ep f (f 3) k) t).1 (lo + 1)) (hlv : t_lv t ≤ 7) (hk : t_ok t) (hin : ∀ p, t_in t p → p < f 0) (h1 : t_1 t)
    (nx : ∀ (M2 : cw_M) (z : cw_V), Gd (fun j => lo ≤ j ∧ j < lo + (1 + (t_er t).1)) (t_in t) M M2 → m_rd M2 (l_sp f (f 3) k) (l_ep f (f 3) k) (fun p => cw_so f p 4) t lo → mJ g y_Mo_solves 119 [.inr (.inr 319), .inl (lo + (1 + (t_er t).1)), z] [] M2 Q) :
    mJ g y_Mo_solves 119 [.inr (.inr 319), .inl lo, z] [] M Q := by
  have nn := (er_nn t).1
  have bp := pq_b hs2 t hk
  have b7 := bd_7 (bd_pv hs2 he2 hk) hlv
  have e328 : M 328 lo = 0 := by rw [hs.2.2.2.1]; exact hP
  have e332 : M 332 lo = (t_pq (l_sp f (f 3) k) t).2 := hv.1.2.1
  have hq : (pv (l_sp f (f 3) k) (l_ep f (f 3) k) t).2.1 = (t_pq (l_sp f (f 3) k) t).2 := rfl
  rw [hq] at b7
  have G1 : Gd (fun j => j = lo) (fun _ => False) M (cw_up M 333 lo (t_pq (l_sp f (f 3) k) t).2) := gd_up (Gd.rf hS) (Or.inl ⟨rfl, rfl⟩)
  have c1 : ∀ a : Int, a ≠ 333 → (cw_up M 333 lo (t_pq (l_sp f (f 3) k) t).2) a = M a := fun a q => cw_up_ne q
  have sm : ∀ s, sR M (cw_up M 333 lo (t_pq (l_sp f (f 3) k) t).2) s := fun s => ⟨by rw [c1 321 (by omega)], by rw [c1 322 (by omega)], fun j _ _ => by unfold cw_rd; rw [c1 320 (by omega)]⟩
  refine k_Mo_solves_119 _ _ _ _ _ _ _ _ ?_
  simp (disch := omega) only [↓w_nil, ↓w_cons, ↓w_ild1, ↓w_ald0, ↓w_gf0_7, ↓w_icge, true_and, and_true, true_implies, false_implies, not_true_eq_false, not_false_eq_true, Int.reduceEq, Int.reduceLT, Int.reduceLE, Int.reduceNeg, w_up1, w_up2, w_up3, hN, c_k319, c_k320, c_k321, c_k322, c_k323, c_k324, c_k325, c_k326, c_k327, c_k328, c_k329, c_k330, c_k331, c_k332, c_k333, c_k334, c_k335, c_k336, c_k337, c_k338, c_k339, c_k340, c_k341, c_k342, c_k343, c_k344, c_k345, c_k346, c_k347, hS.r319_0, hS.r319_1, hS.r319_2, hS.r319_3, hS.r319_4, hS.r319_5, hS.r319_6, hS.r319_8, hS.r319_9, hS.r319_10, hS.r319_11, hS.r319_12, hS.r319_13, hS.r319_14, hS.r319_15, hS.r319_16, hS.r319_17, hS.r319_20, hS.r319_21, hS.r319_22, hS.r319_23, hS.r319_24, hS.r319_25, hS.r319_26, hS.r319_29, hS.r319_30, hS.r319_31, hS.r319_32, w_sf1, w_sf3]
  repeat refine And.intro (by first | assumption | exact IsW.kt (by assumption) | omega | (unfold in32; omega) | (unfold in64; omega) | exact True.intro | exact Or.inl True.intro | exact Or.inr True.intro | rfl | exact Nat.le_of_ble_eq_true rfl) ?_
  try first | done | assumption | (unfold in32; omega) | (unfold in64; omega)
  intro _
  refine k_Mo_solves_127 _ _ _ _ _ _ _ _ ?_
  simp (disch := omega) only [↓w_nil, ↓w_cons, ↓w_ald0, ↓w_gf2_9, ↓w_ild1, ↓w_iald, ↓w_ist2, ↓w_ild2, ↓w_ifne, true_and, and_true, true_implies, false_implies, not_true_eq_false, not_false_eq_true, Int.reduceEq, Int.reduceLT, Int.reduceLE, Int.reduceNeg, w_nlI, w_nlL, w_nlR, w_up1, w_up2, w_up3, e328, c_k319, c_k320, c_k321, c_k322, c_k323, c_k324, c_k325, c_k326, c_k327, c_k328, c_k329, c_k330, c_k331, c_k332, c_k333, c_k334, c_k335, c_k336, c_k337, c_k338, c_k339, c_k340, c_k341, c_k342, c_k343, c_k344, c_k345, c_k346, c_k347, hS.r319_0, hS.r319_1, hS.r319_2, hS.r319_3, hS.r319_4, hS.r319_5, hS.r319_6, hS.r319_8, hS.r319_9, hS.r319_10, hS.r319_11, hS.r319_12, hS.r319_13, hS.r319_14, hS.r319_15, hS.r319_16, hS.r319_17, hS.r319_20, hS.r319_21, hS.r319_22, hS.r319_23, hS.r319_24, hS.r319_25, hS.r319_26, hS.r319_29, hS.r319_30, hS.r319_31, hS.r319_32, w_sf1, w_sf3]
  repeat refine And.intro (by first | assumption | exact IsW.kt (by assumption) | omega | (unfold in32; omega) | (unfold in64; omega) | exact True.intro | exact Or.inl True.intro | exact Or.inr True.intro | rfl | exact Nat.le_of_ble_eq_true rfl) ?_
  try first | done | assumption | (unfold in32; omega) | (unfold in64; omega)
  refine k_Mo_solves_138 _ _ _ _ _ _ _ _ ?_
  simp (disch := omega) only [↓w_nil, ↓w_cons, ↓w_ald0, ↓w_gf2_14, ↓w_ild1, ↓w_gf2_13, ↓w_lald, ↓w_last, ↓w_ic, ↓w_iadd, ↓w_cv2, true_and, and_true, true_implies, false_implies, not_true_eq_false, not_false_eq_true, Int.reduceEq, Int.reduceLT, Int.reduceLE, Int.reduceNeg, w_c80, w_c8I, w_c8L, w_c8R, w_up1, w_up2, w_up3, e332, c_k319, c_k320, c_k321, c_k322, c_k323, c_k324, c_k325, c_k326, c_k327, c_k328, c_k329, c_k330, c_k331, c_k332, c_k333, c_k334, c_k335, c_k336, c_k337, c_k338, c_k339, c_k340, c_k341, c_k342, c_k343, c_k344, c_k345, c_k346, c_k347, hS.r319_0, hS.r319_1, hS.r319_2, hS.r319_3, hS.r319_4, hS.r319_5, hS.r319_6, hS.r319_8, hS.r319_9, hS.r319_10, hS.r319_11, hS.r319_12, hS.r319_13, hS.r319_14, hS.r319_15, hS.r319_16, hS.r319_17, hS.r319_20, hS.r319_21, hS.r319_22, hS.r319_23, hS.r319_24, hS.r319_25, hS.r319_26, hS.r319_29, hS.r319_30, hS.r319_31, hS.r319_32, w_sf1, w_sf3]
  repeat refine And.intro (by first | assumption | exact IsW.kt (by assumption) | omega | (unfold in32; omega) | (unfold in64; omega) | exact True.intro | exact Or.inl True.intro | exact Or.inr True.intro | rfl | exact Nat.le_of_ble_eq_true rfl) ?_
  try first | done | assumption | (unfold in32; omega) | (unfold in64; omega)
  refine ⟨_, p_Mo_copies (v := t_r (l_sp f (f 3) k) (l_ep f (f 3) k) t) G1.1 ⟨by omega, by omega⟩ ⟨by omega, by omega⟩ (hv.1.2.2.sm (sm _)), ?_⟩
  rintro q M2 ⟨rfl, g2, r2⟩
  have G2 : Gd (fun j => j = lo) (fun _ => False) M M2 := G1.tr (gd_rf G1.1 r2 (fun s y => Or.inr (Or.inr (Or.inr (Or.inl ⟨lo, rfl, y⟩)))))
  have w2 : M2 333 lo = (t_pq (l_sp f (f 3) k) t).2 := by rw [r2.1 333 (by omega), w_up1]
  refine k_Mo_solves_163 _ _ _ _ _ _ _ _ ?_
  simp (disch := omega) only [↓w_nil, ↓w_goto, true_and, and_true, true_implies, false_implies, not_true_eq_false, not_false_eq_true, Int.reduceEq, Int.reduceLT, Int.reduceLE, Int.reduceNeg, w_up1, w_up2, w_up3, w_tl0]
  repeat refine And.intro (by first | assumption | exact IsW.kt (by assumption) | omega | (unfold in32; omega) | (unfold in64; omega) | exact True.intro | exact Or.inl True.intro | exact Or.inr True.intro | rfl | exact Nat.le_of_ble_eq_true rfl) ?_
  try first | done | assumption | (unfold in32; omega) | (unfold in64; omega)
  refine k_Mo_solves_184 _ _ _ _ _ _ _ _ ?_
  simp (disch := omega) only [↓w_nil, ↓w_cons, ↓w_inc1, ↓w_goto, true_and, and_true, true_implies, false_implies, not_true_eq_false, not_false_eq_true, Int.reduceEq, Int.reduceLT, Int.reduceLE, Int.reduceNeg, w_nlI, w_nlL, w_nlR, w_up1, w_up2, w_up3]
  repeat refine And.intro (by first | assumption | exact IsW.kt (by assumption) | omega | (unfold in32; omega) | (unfold in64; omega) | exact True.intro | exact Or.inl True.intro | exact Or.inr True.intro | rfl | exact Nat.le_of_ble_eq_true rfl) ?_
  try first | done | assumption | (unfold in32; omega) | (unfold in64; omega)
  have hE := (dw_all (g := g) (k := k) (K := K) (P := P) (I := I) (N := N) (w := (t_pq (l_sp f (f 3) k) t).2) (Q := Q) hW hs2 he2 hN2 (by omega) t).1
  have lv1 := lv_p t
  refine hE lo (lo + 1) M2 _ 0 1 0 1 1 G2.1 (hs.gd G2) (by rw [G2.2.1 319 (by omega) (by omega) (by omega) (by omega)]; exact hN) hel l1 (by omega) (by omega) ((bv_gd G2 (fun j y => by omega) (fun p y => y.elim) t).1 (lo + 1) (by omega) (by omega) hv.2) w2 (by rw [Int.mul_zero, Int.zero_add, Int.one_mul]; exact g2) (en_1 (Or.inl rfl)) (by rw [Int.one_mul]; exact z_7 hlv) (by omega) (by rw [Int.zero_mul, Int.zero_add, Int.one_mul]) hk hin h1 (fun M3 z3 G3 d3 => ?_)
  have := nx M3 z3 ((G2.mo (fun j y => by omega) (fun p y => y.elim)).tr (G3.mo (fun j y => by omega) (fun p y => y))) ⟨by rw [G3.2.2.1 lo (by omega)]; exact w2, d3⟩
  rw [show lo + 1 + (t_er t).1 = lo + (1 + (t_er t).1) by omega]
  exact this
theorem rd_cg {M M1 : cw_M} {s e so : Int → Int} {P L : Int → Prop} {t : Tr} {lo : Int} (h : m_rd M s e so t lo) (g : Gd P L M M1) (hP : ∀ j, P j → 1 ≤ j) (hn : ¬ P lo) (hk : t_ok t) (ht : ∀ p, t_in t p → ¬ L p) (hL : ∀ p, L p → 0 ≤ p ∧ p < 7) : m_rd M1 s e so t lo := ⟨(g.2.2.1 lo hn).trans h.1, dl_cg g hP t _ _ _ hk ht hL h.2⟩
theorem tp_cg {B B' : Tr → Int → Prop} {K P I : Int → Int} : ∀ (t : Tr) (pt lo hi : Int), (t_el K P I t).2 pt lo → lo + (t_er t).2 ≤ hi → t_ok t → (∀ (x : Tr) (j : Int), lo ≤ j → j < hi → t_ok x → (∀ p, t_in x p → t_in t p) → K j = 1 → P j = pt → B x j → B' x j) → t_tp B t lo → t_tp B' t lo
  | .add a b, pt, lo, hi, hel, hh, hk, h, k => by
    have na := (er_nn a).2
    have nb := (er_nn b).1
    have hh : lo + ((t_er a).2 + 1 + (t_er b).1) ≤ hi := hh
    obtain ⟨e1, e2, e3, e4⟩ : (t_el K P I a).2 pt lo ∧ K (lo + (t_er a).2) = 1 ∧ P (lo + (t_er a).2) = pt ∧ (t_el K P I b).1 (lo + (t_er a).2) (lo + (t_er a).2 + 1) := hel
    exact ⟨tp_cg a pt lo hi e1 (by omega) hk.1 (fun x j a b c d => h x j a b c (fun p hp => Or.inl (d p hp))) k.1, h b _ (by omega) (by omega) hk.2 (fun p hp => Or.inr hp) e2 e3 k.2⟩
  | .num p, pt, lo, hi, hel, hh, hk, h, k => by
    have hh : lo + 2 ≤ hi := hh
    exact h (.num p) lo (Int.le_refl _) (by omega) hk (fun p hp => hp) hel.1 hel.2.1 k
  | .neg x, pt, lo, hi, hel, hh, hk, h, k => by
    have hh : lo + (2 + (t_er x).2) ≤ hi := hh
    have := (er_nn x).2
    exact h (.neg x) lo (Int.le_refl _) (by omega) hk (fun p hp => hp) hel.1 hel.2.1 k
  | .mul a b, pt, lo, hi, hel, hh, hk, h, k => by
    have hh : lo + (1 + ((t_er a).1 + (t_er b).1)) ≤ hi := hh
    have := (er_nn a).1
    have := (er_nn b).1
    exact h (.mul a b) lo (Int.le_refl _) (by omega) hk (fun p hp => hp) hel.1 hel.2.1 k
theorem dw_top {g : cw_G} {f k K P I fl : Int → Int} {n0 N : Int} {Q : Option cw_V → cw_M → Prop} (hW : WF n0 f fl) (hs2 : s_ok (l_sp f (f 3) k)) (he2 : e_ok (l_ep f (f 3) k)) (hN2 : N ≤ 64) : ∀ (t : Tr) (lo : Int) (M : cw_M) (z : cw_V), Sh M → Su f k K P I M → M 319 7 = N → (t_el K P I t).2 0 lo → 1 ≤ lo → lo + (t_er t).2 ≤ N → (t_bv M (l_sp f (f 3) k) (l_ep f (f 3) k) t).2 lo → t_lv t ≤ 7 → t_ok t → (∀ p, t_in t p → p < f 0) → t_1 t →
    (∀ (M2 : cw_M) (z : cw_V), Gd (fun j => lo ≤ j ∧ j < lo + (t_er t).2) (t_in t) M M2 → t_tp (m_rd M2 (l_sp f (f 3) k) (l_ep f (f 3) k) (fun p => cw_so f p 4)) t lo → mJ g y_Mo_solves 119 [.inr (.inr 319), .inl (lo + (t_er t).2), z] [] M2 Q) →
    mJ g y_Mo_solves 119 [.inr (.inr 319), .inl lo, z] [] M Q
  | .num p, lo, M, z, hS, hs, hN, hel, l1, hlo, hv, hlv, hk, hin, h1, nx => dw_one (t := .num p) hW hs2 he2 hN2 lo M z hS hs hN hel.1 hel.2.1 hel.2.2 l1 hlo hv hlv hk hin h1 nx
  | .neg x, lo, M, z, hS, hs, hN, hel, l1, hlo, hv, hlv, hk, hin, h1, nx => by
    have e : (t_er (.neg x)).2 = 1 + (t_er (.neg x)).1 := by show 2 + (t_er x).2 = 1 + (1 + (t_er x).2); omega
    rw [e] at hlo nx
    exact dw_one (t := .neg x) hW hs2 he2 hN2 lo M z hS hs hN hel.1 hel.2.1 hel.2.2 l1 hlo hv hlv hk hin h1 nx
  | .mul a b, lo, M, z, hS, hs, hN, hel, l1, hlo, hv, hlv, hk, hin, h1, nx => dw_one (t := .mul a b) hW hs2 he2 hN2 lo M z hS hs hN hel.1 hel.2.1 hel.2.2 l1 hlo hv hlv hk hin h1 nx
  | .add a b, lo, M, z, hS, hs, hN, hel, l1, hlo, hv, hlv, hk, hin, h1, nx => by
    have na := (er_nn a).2
    have nb := (er_nn b).1
    obtain ⟨e1, e2, e3, e4⟩ : (t_el K P I a).2 0 lo ∧ K (lo + (t_er a).2) = 1 ∧ P (lo + (t_er a).2) = 0 ∧ (t_el K P I b).1 (lo + (t_er a).2) (lo + (t_er a).2 + 1) := hel
    have hlo : lo + ((t_er a).2 + 1 + (t_er b).1) ≤ N := hlo
    have hlv : t_lv a + t_lv b ≤ 7 := hlv
    obtain ⟨o1, o2, o3⟩ := one_a (a := a) (b := b) h1
    have ia := in_7 hk.1
    have ib := in_7 hk.2
    refine dw_top hW hs2 he2 hN2 a lo M z hS hs hN e1 l1 (by omega) hv.1 (by omega) hk.1 (fun p hp => hin p (Or.inl hp)) o1 (fun M2 z2 G2 d2 => ?_)
    refine dw_one hW hs2 he2 hN2 (lo + (t_er a).2) M2 z2 G2.1 (hs.gd G2) (by rw [G2.2.1 319 (by omega) (by omega) (by omega) (by omega)]; exact hN) e2 e3 e4 (by omega) (by omega) ⟨nv_gd hv.2.1 G2 (fun j y => by omega) ia (by omega), (bv_gd G2 (fun j y => by omega) ia b).1 _ (by omega) (by omega) hv.2.2⟩ (by omega) hk.2 (fun p hp => hin p (Or.inr hp)) o2 (fun M3 z3 G3 d3 => ?_)
    have d2' : t_tp (m_rd M3 (l_sp f (f 3) k) (l_ep f (f 3) k) (fun p => cw_so f p 4)) a lo := tp_cg a 0 lo (lo + (t_er a).2) e1 (Int.le_refl _) hk.1 (fun x j j0 j1 hx hi _ _ hB => rd_cg hB G3 (fun j y => by omega) (by omega) hx (fun p hp => o3 p (hi p hp)) ib) d2
    have := nx M3 z3 ((G2.mo (fun j y => by show lo ≤ j ∧ j < lo + ((t_er a).2 + 1 + (t_er b).1); omega) (fun p y => Or.inl y)).tr (G3.mo (fun j y => by show lo ≤ j ∧ j < lo + ((t_er a).2 + 1 + (t_er b).1); omega) (fun p y => Or.inr y))) ⟨d2', d3⟩
    rw [show lo + (t_er a).2 + (1 + (t_er b).1) = lo + ((t_er a).2 + 1 + (t_er b).1) by omega]
    exact this
/-- what solving may change -/
def Gz (L : Int → Prop) (M M' : cw_M) : Prop := Sh M' ∧ (∀ a, ¬ (320 ≤ a ∧ a ≤ 323) → ¬ (331 ≤ a ∧ a ≤ 333) → a ≠ 335 → a ≠ 336 → M' a = M a) ∧ (∀ p, ¬ L p → M' 335 p = M 335 p ∧ M' 336 p = M 336 p) ∧ ∀ s, (2 ≤ s ∧ s ≤ 13) ∨ s = 15 ∨ (32 ≤ s ∧ s < 92) → sR M M' s
theorem Gz.rf {L : Int → Prop} {M : cw_M} (h : Sh M) : Gz L M M := ⟨h, fun _ _ _ _ _ => rfl, fun _ _ => ⟨rfl, rfl⟩, fun _ _ => sR.rf⟩
theorem Gz.tr {L : Int → Prop} {M M1 M2 : cw_M} (h : Gz L M M1) (k : Gz L M1 M2) : Gz L M M2 := ⟨k.1, fun a x y z w => (k.2.1 a x y z w).trans (h.2.1 a x y z w), fun p hp => ⟨(k.2.2.1 p hp).1.trans (h.2.2.1 p hp).1, (k.2.2.1 p hp).2.trans (h.2.2.1 p hp).2⟩, fun s a => (h.2.2.2 s a).tr (k.2.2.2 s a)⟩
theorem gz_gu {L P : Int → Prop} {M M1 : cw_M} (h : Gu P M M1) (hP : ∀ j, P j → 0 ≤ j) : Gz L M M1 := ⟨h.1, fun a x y z w => h.2.1 a x (by omega) (by omega), fun p _ => ⟨by rw [h.2.1 335 (by omega) (by omega) (by omega)], by rw [h.2.1 336 (by omega) (by omega) (by omega)]⟩, fun s hs => h.2.2.2 s ⟨by omega, by omega⟩ (by omega) (by omega) (by omega) (fun j hj => by have := hP j hj; omega)⟩
theorem gz_gd {L P : Int → Prop} {M M1 : cw_M} (h : Gd P L M M1) (hP : ∀ j, P j → 0 ≤ j) (hL : ∀ p, L p → 0 ≤ p ∧ p < 7) : Gz L M M1 := ⟨h.1, fun a x y z w => h.2.1 a x (by omega) z w, h.2.2.2.1, fun s hs => h.2.2.2.2 s ⟨by omega, by omega⟩ (by omega) (by omega) (by omega) (fun j hj => by have := hP j hj; omega) (fun p hp => by have := hL p hp; omega)⟩
theorem p_Mo_solves {g : cw_G} {M : cw_M} {f k fl : Int → Int} {n0 : Int} {T : Tr} (hS : Sh M) (hf : M 324 = f) (hk : M 334 = k) (hW : WF n0 f fl) (hT : Mt M T) (hkb : ∀ p : Int, 0 ≤ p → p < 7 → (-2 ≤ k p ∧ k p ≤ 2)) (hs2 : s_ok (l_sp f (f 3) k)) (he2 : e_ok (l_ep f (f 3) k)) (hok : t_ok T) (hlv : t_lv T ≤ 7) (h1 : t_1 T) (hin : ∀ p, t_in T p → p < f 0) :
    mC g y_Mo_solves [.inr (.inr 319)] M (fun q M' => q = none ∧ Gz (t_in T) M M' ∧ t_tp (m_rd M' (l_sp f (f 3) k) (l_ep f (f 3) k) (fun p => cw_so f p 4)) T 1) := by
  obtain ⟨m1, m2, m3, m4⟩ := hT
  have w0 := hW.1
  have nn := (er_nn T).2
  have Su0 : Su f k (M 327) (M 328) (M 329) M := ⟨hf, hk, rfl, rfl, rfl⟩
  refine cw_C_of (L := [.inr (.inr 319), cU, cU]) ok_Mo_solves (Nat.le_refl _) (Nat.le_of_ble_eq_true rfl) rfl ?_
  refine cw_J_hide ?_
  -- the way down
  have down : ∀ (M1 : cw_M) (z : cw_V), Gu (fun j => 0 ≤ j ∧ j < 1 + (t_er T).2) M M1 → (t_bv M1 (l_sp f (f 3) k) (l_ep f (f 3) k) T).2 1 → mJ g y_Mo_solves 30 [.inr (.inr 319), .inl 0, z] [] M1 (cw_hide (fun q M' => q = none ∧ Gz (t_in T) M M' ∧ t_tp (m_rd M' (l_sp f (f 3) k) (l_ep f (f 3) k) (fun p => cw_so f p 4)) T 1)) := by
    intro M1 z G1 hv
    have hN : M1 319 7 = 1 + (t_er T).2 := by rw [G1.2.1 319 (by omega) (by omega) (by omega)]; exact m1
    refine k_Mo_solves_30 _ _ _ _ _ _ _ _ ?_
    simp (disch := omega) only [↓w_nil, ↓w_cons, ↓w_ild1, ↓w_ifle, true_and, and_true, true_implies, false_implies, not_true_eq_false, not_false_eq_true, Int.reduceEq, Int.reduceLT, Int.reduceLE, Int.reduceNeg, w_up1, w_up2, w_up3]
    repeat refine And.intro (by first | assumption | exact IsW.kt (by assumption) | omega | (unfold in32; omega) | (unfold in64; omega) | exact True.intro | exact Or.inl True.intro | exact Or.inr True.intro | rfl | exact Nat.le_of_ble_eq_true rfl) ?_
    try first | done | assumption | (unfold in32; omega) | (unfold in64; omega)
    refine k_Mo_solves_117 _ _ _ _ _ _ _ _ ?_
    simp (disch := omega) only [↓w_nil, ↓w_cons, ↓w_ic, ↓w_ist1, ↓w_fall, true_and, and_true, true_implies, false_implies, not_true_eq_false, not_false_eq_true, Int.reduceEq, Int.reduceLT, Int.reduceLE, Int.reduceNeg, w_nlI, w_nlL, w_nlR, w_up1, w_up2, w_up3]
    repeat refine And.intro (by first | assumption | exact IsW.kt (by assumption) | omega | (unfold in32; omega) | (unfold in64; omega) | exact True.intro | exact Or.inl True.intro | exact Or.inr True.intro | rfl | exact Nat.le_of_ble_eq_true rfl) ?_
    try first | done | assumption | (unfold in32; omega) | (unfold in64; omega)
    refine dw_top (N := 1 + (t_er T).2) hW hs2 he2 (by omega) T 1 M1 _ G1.1 (Su0.gu G1) hN m4 (by omega) (by omega) hv hlv hok hin h1 (fun M2 z2 G2 d2 => ?_)
    have hS2 := G2.1
    have hN2 : M2 319 7 = 1 + (t_er T).2 := by rw [G2.2.1 319 (by omega) (by omega) (by omega) (by omega)]; exact hN
    refine k_Mo_solves_119 _ _ _ _ _ _ _ _ ?_
    simp (disch := omega) only [↓w_nil, ↓w_cons, ↓w_ild1, ↓w_ald0, ↓w_gf0_7, ↓w_icge, true_and, and_true, true_implies, false_implies, not_true_eq_false, not_false_eq_true, Int.reduceEq, Int.reduceLT, Int.reduceLE, Int.reduceNeg, w_up1, w_up2, w_up3, hN2, c_k319, c_k320, c_k321, c_k322, c_k323, c_k324, c_k325, c_k326, c_k327, c_k328, c_k329, c_k330, c_k331, c_k332, c_k333, c_k334, c_k335, c_k336, c_k337, c_k338, c_k339, c_k340, c_k341, c_k342, c_k343, c_k344, c_k345, c_k346, c_k347, hS2.r319_0, hS2.r319_1, hS2.r319_2, hS2.r319_3, hS2.r319_4, hS2.r319_5, hS2.r319_6, hS2.r319_8, hS2.r319_9, hS2.r319_10, hS2.r319_11, hS2.r319_12, hS2.r319_13, hS2.r319_14, hS2.r319_15, hS2.r319_16, hS2.r319_17, hS2.r319_20, hS2.r319_21, hS2.r319_22, hS2.r319_23, hS2.r319_24, hS2.r319_25, hS2.r319_26, hS2.r319_29, hS2.r319_30, hS2.r319_31, hS2.r319_32, w_sf1, w_sf3]
    repeat refine And.intro (by first | assumption | exact IsW.kt (by assumption) | omega | (unfold in32; omega) | (unfold in64; omega) | exact True.intro | exact Or.inl True.intro | exact Or.inr True.intro | rfl | exact Nat.le_of_ble_eq_true rfl) ?_
    try first | done | assumption | (unfold in32; omega) | (unfold in64; omega)
    refine ⟨fun _ => ?_, fun h => absurd h (by omega)⟩
    refine k_Mo_solves_190 _ _ _ _ _ _ _ _ ?_
    simp (disch := omega) only [↓w_nil, ↓w_vret, true_and, and_true, true_implies, false_implies, not_true_eq_false, not_false_eq_true, Int.reduceEq, Int.reduceLT, Int.reduceLE, Int.reduceNeg, w_up1, w_up2, w_up3]
    repeat refine And.intro (by first | assumption | exact IsW.kt (by assumption) | omega | (unfold in32; omega) | (unfold in64; omega) | exact True.intro | exact Or.inl True.intro | exact Or.inr True.intro | rfl | exact Nat.le_of_ble_eq_true rfl) ?_
    try first | done | assumption | (unfold in32; omega) | (unfold in64; omega)
    exact ⟨(gz_gu G1 (fun j y => y.1)).tr (gz_gd G2 (fun j y => by omega) (in_7 hok)), d2⟩
  -- all carries forgotten
  have loop : ∀ (d : Nat) (j : Int) (M1 : cw_M), j + d = 1 + (t_er T).2 → 0 ≤ j → Gu (fun j => 0 ≤ j ∧ j < 1 + (t_er T).2) M M1 → (∀ i : Int, 0 ≤ i → i < j → M1 332 i = 0) → mJ g y_Mo_solves 2 [.inr (.inr 319), .inl j, cU] [] M1 (cw_hide (fun q M' => q = none ∧ Gz (t_in T) M M' ∧ t_tp (m_rd M' (l_sp f (f 3) k) (l_ep f (f 3) k) (fun p => cw_so f p 4)) T 1)) := by
    intro d
    induction d with
    | zero =>
      intro j M1 hj j0 G1 hz
      have ej : j = 1 + (t_er T).2 := by omega
      subst ej
      have hS1 := G1.1
      have hN : M1 319 7 = 1 + (t_er T).2 := by rw [G1.2.1 319 (by omega) (by omega) (by omega)]; exact m1
      refine k_Mo_solves_2 _ _ _ _ _ _ _ _ ?_
      simp (disch := omega) only [↓w_nil, ↓w_cons, ↓w_ild1, ↓w_ald0, ↓w_gf0_7, ↓w_icge, true_and, and_true, true_implies, false_implies, not_true_eq_false, not_false_eq_true, Int.reduceEq, Int.reduceLT, Int.reduceLE, Int.reduceNeg, w_up1, w_up2, w_up3, hN, c_k319, c_k320, c_k321, c_k322, c_k323, c_k324, c_k325, c_k326, c_k327, c_k328, c_k329, c_k330, c_k331, c_k332, c_k333, c_k334, c_k335, c_k336, c_k337, c_k338, c_k339, c_k340, c_k341, c_k342, c_k343, c_k344, c_k345, c_k346, c_k347, hS1.r319_0, hS1.r319_1, hS1.r319_2, hS1.r319_3, hS1.r319_4, hS1.r319_5, hS1.r319_6, hS1.r319_8, hS1.r319_9, hS1.r319_10, hS1.r319_11, hS1.r319_12, hS1.r319_13, hS1.r319_14, hS1.r319_15, hS1.r319_16, hS1.r319_17, hS1.r319_20, hS1.r319_21, hS1.r319_22, hS1.r319_23, hS1.r319_24, hS1.r319_25, hS1.r319_26, hS1.r319_29, hS1.r319_30, hS1.r319_31, hS1.r319_32, w_sf1, w_sf3]
      repeat refine And.intro (by first | assumption | exact IsW.kt (by assumption) | omega | (unfold in32; omega) | (unfold in64; omega) | exact True.intro | exact Or.inl True.intro | exact Or.inr True.intro | rfl | exact Nat.le_of_ble_eq_true rfl) ?_
      try first | done | assumption | (unfold in32; omega) | (unfold in64; omega)
      refine ⟨fun _ => ?_, fun h => absurd h (by omega)⟩
      refine k_Mo_solves_23 _ _ _ _ _ _ _ _ ?_
      simp (disch := omega) only [↓w_nil, ↓w_cons, ↓w_ald0, ↓w_gf0_7, ↓w_ic, ↓w_isub, ↓w_ist1, ↓w_fall, true_and, and_true, true_implies, false_implies, not_true_eq_false, not_false_eq_true, Int.reduceEq, Int.reduceLT, Int.reduceLE, Int.reduceNeg, w_nlI, w_nlL, w_nlR, w_up1, w_up2, w_up3, hN, c_k319, c_k320, c_k321, c_k322, c_k323, c_k324, c_k325, c_k326, c_k327, c_k328, c_k329, c_k330, c_k331, c_k332, c_k333, c_k334, c_k335, c_k336, c_k337, c_k338, c_k339, c_k340, c_k341, c_k342, c_k343, c_k344, c_k345, c_k346, c_k347, hS1.r319_0, hS1.r319_1, hS1.r319_2, hS1.r319_3, hS1.r319_4, hS1.r319_5, hS1.r319_6, hS1.r319_8, hS1.r319_9, hS1.r319_10, hS1.r319_11, hS1.r319_12, hS1.r319_13, hS1.r319_14, hS1.r319_15, hS1.r319_16, hS1.r319_17, hS1.r319_20, hS1.r319_21, hS1.r319_22, hS1.r319_23, hS1.r319_24, hS1.r319_25, hS1.r319_26, hS1.r319_29, hS1.r319_30, hS1.r319_31, hS1.r319_32, w_sf1, w_sf3]
      repeat refine And.intro (by first | assumption | exact IsW.kt (by assumption) | omega | (unfold in32; omega) | (unfold in64; omega) | exact True.intro | exact Or.inl True.intro | exact Or.inr True.intro | rfl | exact Nat.le_of_ble_eq_true rfl) ?_
      try first | done | assumption | (unfold in32; omega) | (unfold in64; omega)
      refine (su_all (g := g) (K := M 327) (P := M 328) (I := M 329) hW (fun p a b => hkb p a (by omega)) hs2 he2 T).2 0 1 M1 _ none 0 hS1 (Su0.gu G1) m4 (by omega) (by omega) (by omega) (fun i a b => hz i (by omega) (by omega)) (Or.inl rfl) (by omega) hok hin (fun M2 z2 G2 b2 _ => ?_)
      exact down M2 z2 (G1.tr (G2.mo (fun j y => by omega))) b2
    | succ d ih =>
      intro j M1 hj j0 G1 hz
      have hS1 := G1.1
      have hN : M1 319 7 = 1 + (t_er T).2 := by rw [G1.2.1 319 (by omega) (by omega) (by omega)]; exact m1
      refine k_Mo_solves_2 _ _ _ _ _ _ _ _ ?_
      simp (disch := omega) only [↓w_nil, ↓w_cons, ↓w_ild1, ↓w_ald0, ↓w_gf0_7, ↓w_icge, true_and, and_true, true_implies, false_implies, not_true_eq_false, not_false_eq_true, Int.reduceEq, Int.reduceLT, Int.reduceLE, Int.reduceNeg, w_up1, w_up2, w_up3, hN, c_k319, c_k320, c_k321, c_k322, c_k323, c_k324, c_k325, c_k326, c_k327, c_k328, c_k329, c_k330, c_k331, c_k332, c_k333, c_k334, c_k335, c_k336, c_k337, c_k338, c_k339, c_k340, c_k341, c_k342, c_k343, c_k344, c_k345, c_k346, c_k347, hS1.r319_0, hS1.r319_1, hS1.r319_2, hS1.r319_3, hS1.r319_4, hS1.r319_5, hS1.r319_6, hS1.r319_8, hS1.r319_9, hS1.r319_10, hS1.r319_11, hS1.r319_12, hS1.r319_13, hS1.r319_14, hS1.r319_15, hS1.r319_16, hS1.r319_17, hS1.r319_20, hS1.r319_21, hS1.r319_22, hS1.r319_23, hS1.r319_24, hS1.r319_25, hS1.r319_26, hS1.r319_29, hS1.r319_30, hS1.r319_31, hS1.r319_32, w_sf1, w_sf3]
      repeat refine And.intro (by first | assumption | exact IsW.kt (by assumption) | omega | (unfold in32; omega) | (unfold in64; omega) | exact True.intro | exact Or.inl True.intro | exact Or.inr True.intro | rfl | exact Nat.le_of_ble_eq_true rfl) ?_
      try first | done | assumption | (unfold in32; omega) | (unfold in64; omega)
      intro _
      refine k_Mo_solves_10 _ _ _ _ _ _ _ _ ?_
      simp (disch := omega) only [↓w_nil, ↓w_cons, ↓w_ald0, ↓w_gf2_13, ↓w_ild1, ↓w_lc, ↓w_last, ↓w_inc1, ↓w_goto, true_and, and_true, true_implies, false_implies, not_true_eq_false, not_false_eq_true, Int.reduceEq, Int.reduceLT, Int.reduceLE, Int.reduceNeg, w_nlI, w_nlL, w_nlR, w_up1, w_up2, w_up3, c_k319, c_k320, c_k321, c_k322, c_k323, c_k324, c_k325, c_k326, c_k327, c_k328, c_k329, c_k330, c_k331, c_k332, c_k333, c_k334, c_k335, c_k336, c_k337, c_k338, c_k339, c_k340, c_k341, c_k342, c_k343, c_k344, c_k345, c_k346, c_k347, hS1.r319_0, hS1.r319_1, hS1.r319_2, hS1.r319_3, hS1.r319_4, hS1.r319_5, hS1.r319_6, hS1.r319_8, hS1.r319_9, hS1.r319_10, hS1.r319_11, hS1.r319_12, hS1.r319_13, hS1.r319_14, hS1.r319_15, hS1.r319_16, hS1.r319_17, hS1.r319_20, hS1.r319_21, hS1.r319_22, hS1.r319_23, hS1.r319_24, hS1.r319_25, hS1.r319_26, hS1.r319_29, hS1.r319_30, hS1.r319_31, hS1.r319_32, w_sf1, w_sf3]
      repeat refine And.intro (by first | assumption | exact IsW.kt (by assumption) | omega | (unfold in32; omega) | (unfold in64; omega) | exact True.intro | exact Or.inl True.intro | exact Or.inr True.intro | rfl | exact Nat.le_of_ble_eq_true rfl) ?_
      try first | done | assumption | (unfold in32; omega) | (unfold in64; omega)
      refine ih (j + 1) _ (by omega) (by omega) (gu_up G1 (Or.inr rfl) ⟨j0, by omega⟩) (fun i i0 i1 => ?_)
      by_cases q : i = j
      · rw [q, w_up1]
      · rw [w_up2 q]; exact hz i i0 (by omega)
  refine k_Mo_solves_0 _ _ _ _ _ _ _ _ ?_
  simp (disch := omega) only [↓w_nil, ↓w_cons, ↓w_ic, ↓w_ist1, ↓w_fall, true_and, and_true, true_implies, false_implies, not_true_eq_false, not_false_eq_true, Int.reduceEq, Int.reduceLT, Int.reduceLE, Int.reduceNeg, w_nlI, w_nlL, w_nlR, w_up1, w_up2, w_up3]
  repeat refine And.intro (by first | assumption | exact IsW.kt (by assumption) | omega | (unfold in32; omega) | (unfold in64; omega) | exact True.intro | exact Or.inl True.intro | exact Or.inr True.intro | rfl | exact Nat.le_of_ble_eq_true rfl) ?_
  try first | done | assumption | (unfold in32; omega) | (unfold in64; omega)
  exact loop (1 + (t_er T).2).toNat 0 M (by omega) (by omega) (Gu.rf hS) (fun i i0 i1 => by omega)
