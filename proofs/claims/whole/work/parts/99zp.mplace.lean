/-! the reference: where nodes stand; roadOf -/
theorem el_up {K P I : Int → Int} : ∀ t : Tr, (∀ rd lo, rd < lo → (t_el K P I t).1 rd lo → ∀ j, lo ≤ j → j < lo + (t_er t).1 → rd ≤ P j ∧ P j < j) ∧ (∀ pt lo, pt < lo → (t_el K P I t).2 pt lo → ∀ j, lo ≤ j → j < lo + (t_er t).2 → pt ≤ P j ∧ P j < j)
  | .num p => by
    refine ⟨fun rd lo h ⟨a, b, c⟩ j j0 j1 => ?_, fun pt lo h ⟨a, b, c, d, e⟩ j j0 j1 => ?_⟩
    · have j1 : j < lo + 1 := j1
      rw [show j = lo by omega, b]; omega
    · have j1 : j < lo + 2 := j1
      by_cases q : j = lo
      · rw [q, b]; omega
      · rw [show j = lo + 1 by omega, d]; omega
  | .neg x => by
    have ih := (el_up (K := K) (P := P) (I := I) x).2
    refine ⟨fun rd lo h ⟨a, b, c⟩ j j0 j1 => ?_, fun pt lo h ⟨a, b, c, d, e⟩ j j0 j1 => ?_⟩
    · have j1 : j < lo + (1 + (t_er x).2) := j1
      by_cases q : j = lo
      · rw [q, b]; omega
      · have := ih lo (lo + 1) (by omega) c j (by omega) (by omega); omega
    · have j1 : j < lo + (2 + (t_er x).2) := j1
      by_cases q : j = lo
      · rw [q, b]; omega
      · by_cases q2 : j = lo + 1
        · rw [q2, d]; omega
        · have := ih (lo + 1) (lo + 1 + 1) (by omega) e j (by omega) (by omega); omega
  | .mul a b => by
    have iha := (el_up (K := K) (P := P) (I := I) a).1
    have ihb := (el_up (K := K) (P := P) (I := I) b).1
    have na := (er_nn a).1
    refine ⟨fun rd lo h ⟨x, y⟩ j j0 j1 => ?_, fun pt lo h ⟨x, y, z, u⟩ j j0 j1 => ?_⟩
    · have j1 : j < lo + ((t_er a).1 + (t_er b).1) := j1
      by_cases q : j < lo + (t_er a).1
      · exact iha rd lo h x j j0 q
      · exact ihb rd _ (by omega) y j (by omega) (by omega)
    · have j1 : j < lo + (1 + ((t_er a).1 + (t_er b).1)) := j1
      by_cases q0 : j = lo
      · rw [q0, y]; omega
      · by_cases q : j < lo + 1 + (t_er a).1
        · have := iha lo (lo + 1) (by omega) z j (by omega) q; omega
        · have := ihb lo _ (by omega) u j (by omega) (by omega); omega
  | .add a b => by
    have iha := (el_up (K := K) (P := P) (I := I) a).2
    have ihb := (el_up (K := K) (P := P) (I := I) b).1
    have na := (er_nn a).2
    refine ⟨fun rd lo h k => k.elim, fun pt lo h ⟨x, y, z, u⟩ j j0 j1 => ?_⟩
    have j1 : j < lo + ((t_er a).2 + 1 + (t_er b).1) := j1
    by_cases q : j < lo + (t_er a).2
    · exact iha pt lo h x j j0 q
    · by_cases q0 : j = lo + (t_er a).2
      · rw [q0, z]; omega
      · have := ihb _ _ (by omega) u j (by omega) (by omega); omega
  | .natCast _ => ⟨fun _ _ _ k => k.elim, fun _ _ _ k => k.elim⟩
  | .intCast _ => ⟨fun _ _ _ k => k.elim, fun _ _ _ k => k.elim⟩
  | .var _ => ⟨fun _ _ _ k => k.elim, fun _ _ _ k => k.elim⟩
  | .sub _ _ => ⟨fun _ _ _ k => k.elim, fun _ _ _ k => k.elim⟩
  | .pow _ _ => ⟨fun _ _ _ k => k.elim, fun _ _ _ k => k.elim⟩
/-- the pieces' nodes -/
def e_lf (K I : Int → Int) (t : Tr) (lo hi : Int) : Prop := (∀ p, t_in t p → ∃ j, (lo ≤ j ∧ j < hi) ∧ K j = 0 ∧ I j = p) ∧ ∀ j, lo ≤ j → j < hi → K j = 0 → t_in t (I j)
theorem lf_jn {K I : Int → Int} {a b t : Tr} {lo mi hi : Int} (ha : e_lf K I a lo mi) (hb : e_lf K I b mi hi) (h1 : lo ≤ mi) (h2 : mi ≤ hi) (ht : ∀ p, t_in t p ↔ (t_in a p ∨ t_in b p)) : e_lf K I t lo hi := by
  refine ⟨fun p hp => ?_, fun j j0 j1 hj => ?_⟩
  · rcases (ht p).mp hp with hp | hp
    · obtain ⟨j, hj, e⟩ := ha.1 p hp; exact ⟨j, by omega, e⟩
    · obtain ⟨j, hj, e⟩ := hb.1 p hp; exact ⟨j, by omega, e⟩
  · by_cases q : j < mi
    · exact (ht _).mpr (Or.inl (ha.2 j j0 q hj))
    · exact (ht _).mpr (Or.inr (hb.2 j (by omega) j1 hj))
theorem lf_ah {K I : Int → Int} {t : Tr} {lo hi : Int} (h : e_lf K I t (lo + 1) hi) (hK : K lo ≠ 0) : e_lf K I t lo hi := by
  refine ⟨fun p hp => ?_, fun j j0 j1 hj => ?_⟩
  · obtain ⟨j, hj, e⟩ := h.1 p hp; exact ⟨j, by omega, e⟩
  · by_cases q : j = lo
    · rw [q] at hj; exact absurd hj hK
    · exact h.2 j (by omega) j1 hj
theorem el_lf {K P I : Int → Int} : ∀ t : Tr, (∀ rd lo, (t_el K P I t).1 rd lo → e_lf K I t lo (lo + (t_er t).1)) ∧ (∀ pt lo, (t_el K P I t).2 pt lo → e_lf K I t lo (lo + (t_er t).2))
  | .num p => by
    have one : ∀ lo, K lo = 0 → I lo = p → e_lf K I (.num p) lo (lo + 1) := fun lo a c => ⟨fun q hq => ⟨lo, by omega, a, by rw [c]; exact (show q = p from hq).symm⟩, fun j j0 j1 _ => by show I j = p; rw [show j = lo by omega]; exact c⟩
    refine ⟨fun rd lo ⟨a, b, c⟩ => one lo a c, fun pt lo ⟨a, b, c, d, e⟩ => ?_⟩
    have := lf_ah (one (lo + 1) c e) (lo := lo) (by omega)
    show e_lf K I (.num p) lo (lo + 2)
    rw [show lo + 2 = lo + 1 + 1 by omega]
    exact this
  | .neg x => by
    have ih := (el_lf (K := K) (P := P) (I := I) x).2
    refine ⟨fun rd lo ⟨a, b, c⟩ => ?_, fun pt lo ⟨a, b, c, d, e⟩ => ?_⟩
    · have := lf_ah (ih lo (lo + 1) c) (by omega)
      show e_lf K I x lo (lo + (1 + (t_er x).2))
      rw [show lo + (1 + (t_er x).2) = lo + 1 + (t_er x).2 by omega]
      exact this
    · have := lf_ah (lf_ah (ih (lo + 1) (lo + 1 + 1) e) (by omega)) (by omega)
      show e_lf K I x lo (lo + (2 + (t_er x).2))
      rw [show lo + (2 + (t_er x).2) = lo + 1 + 1 + (t_er x).2 by omega]
      exact this
  | .mul a b => by
    have iha := (el_lf (K := K) (P := P) (I := I) a).1
    have ihb := (el_lf (K := K) (P := P) (I := I) b).1
    have na := (er_nn a).1
    have nb := (er_nn b).1
    have two : ∀ rd lo, (t_el K P I a).1 rd lo → (t_el K P I b).1 rd (lo + (t_er a).1) → e_lf K I (.mul a b) lo (lo + ((t_er a).1 + (t_er b).1)) := fun rd lo x y => by
      have := lf_jn (t := .mul a b) (iha rd lo x) (ihb rd _ y) (by omega) (by omega) (fun p => Iff.rfl)
      rw [show lo + ((t_er a).1 + (t_er b).1) = lo + (t_er a).1 + (t_er b).1 by omega]
      exact this
    refine ⟨fun rd lo ⟨x, y⟩ => two rd lo x y, fun pt lo ⟨x, y, z, u⟩ => ?_⟩
    have := lf_ah (two lo (lo + 1) z u) (by omega)
    show e_lf K I (.mul a b) lo (lo + (1 + ((t_er a).1 + (t_er b).1)))
    rw [show lo + (1 + ((t_er a).1 + (t_er b).1)) = lo + 1 + ((t_er a).1 + (t_er b).1) by omega]
    exact this
  | .add a b => by
    have iha := (el_lf (K := K) (P := P) (I := I) a).2
    have ihb := (el_lf (K := K) (P := P) (I := I) b).1
    have na := (er_nn a).2
    have nb := (er_nn b).1
    refine ⟨fun rd lo k => k.elim, fun pt lo ⟨x, y, z, u⟩ => ?_⟩
    have := lf_jn (t := .add a b) (iha pt lo x) (lf_ah (ihb _ _ u) (by omega)) (by omega) (by omega) (fun p => Iff.rfl)
    show e_lf K I (.add a b) lo (lo + ((t_er a).2 + 1 + (t_er b).1))
    rw [show lo + ((t_er a).2 + 1 + (t_er b).1) = lo + (t_er a).2 + 1 + (t_er b).1 by omega]
    exact this
  | .natCast _ => ⟨fun _ _ k => k.elim, fun _ _ k => k.elim⟩
  | .intCast _ => ⟨fun _ _ k => k.elim, fun _ _ k => k.elim⟩
  | .var _ => ⟨fun _ _ k => k.elim, fun _ _ k => k.elim⟩
  | .sub _ _ => ⟨fun _ _ k => k.elim, fun _ _ k => k.elim⟩
  | .pow _ _ => ⟨fun _ _ k => k.elim, fun _ _ k => k.elim⟩
/-- a road of the whole: where it stands -/
def e_rd (K P I : Int → Int) (N : Int) (R : Tr) (lo : Int) : Prop := K lo = 1 ∧ P lo = 0 ∧ 1 ≤ lo ∧ lo + (1 + (t_er R).1) ≤ N ∧ e_lf K I R lo (lo + (1 + (t_er R).1)) ∧ ∀ j, lo < j → j < lo + (1 + (t_er R).1) → lo ≤ P j ∧ P j < j
theorem el_one {K P I : Int → Int} {N : Int} {R : Tr} {lo : Int} (hK : K lo = 1) (hP : P lo = 0) (l1 : 1 ≤ lo) (hN : lo + (1 + (t_er R).1) ≤ N) (h : (t_el K P I R).1 lo (lo + 1)) : e_rd K P I N R lo := by
  have e : lo + (1 + (t_er R).1) = lo + 1 + (t_er R).1 := by omega
  refine ⟨hK, hP, l1, hN, ?_, fun j j0 j1 => (el_up R).1 lo (lo + 1) (by omega) h j (by omega) (by omega)⟩
  rw [e]
  exact lf_ah ((el_lf R).1 lo (lo + 1) h) (by omega)
theorem el_tp {K P I : Int → Int} {N : Int} {B : Tr → Int → Prop} : ∀ (t : Tr) (lo : Int), (t_el K P I t).2 0 lo → 1 ≤ lo → lo + (t_er t).2 ≤ N → t_tp B t lo → t_tp (fun R j => B R j ∧ e_rd K P I N R j) t lo
  | .add a b, lo, ⟨e1, e2, e3, e4⟩, l1, hN, k => by
    have hN : lo + ((t_er a).2 + 1 + (t_er b).1) ≤ N := hN
    have na := (er_nn a).2
    have nb := (er_nn b).1
    exact ⟨el_tp a lo e1 l1 (by omega) k.1, k.2, el_one e2 e3 (by omega) (by omega) e4⟩
  | .num p, lo, h, l1, hN, k => ⟨k, el_one (R := .num p) h.1 h.2.1 l1 hN h.2.2⟩
  | .neg x, lo, h, l1, hN, k => by
    have hN : lo + (2 + (t_er x).2) ≤ N := hN
    exact ⟨k, el_one (R := .neg x) h.1 h.2.1 l1 (by show lo + (1 + (1 + (t_er x).2)) ≤ N; omega) h.2.2⟩
  | .mul a b, lo, h, l1, hN, k => ⟨k, el_one (R := .mul a b) h.1 h.2.1 l1 hN h.2.2⟩
/-- each node of a piece stands in the road of its letter -/
theorem tp_lf {K P I : Int → Int} {N : Int} {B : Tr → Int → Prop} : ∀ (t : Tr) (lo : Int), (t_el K P I t).2 0 lo → 1 ≤ lo → lo + (t_er t).2 ≤ N → t_tp B t lo → ∀ j, lo ≤ j → j < lo + (t_er t).2 → ∃ (R : Tr) (l : Int), B R l ∧ e_rd K P I N R l ∧ l ≤ j ∧ j < l + (1 + (t_er R).1) ∧ ∀ p, t_in R p → t_in t p
  | .add a b, lo, ⟨e1, e2, e3, e4⟩, l1, hN, k, j, j0, j1 => by
    have hN : lo + ((t_er a).2 + 1 + (t_er b).1) ≤ N := hN
    have j1 : j < lo + ((t_er a).2 + 1 + (t_er b).1) := j1
    have na := (er_nn a).2
    have nb := (er_nn b).1
    by_cases q : j < lo + (t_er a).2
    · obtain ⟨R, l, h1, h2, h3, h4, h5⟩ := tp_lf (N := N) a lo e1 l1 (by omega) k.1 j j0 q
      exact ⟨R, l, h1, h2, h3, h4, fun p hp => Or.inl (h5 p hp)⟩
    · have hr : e_rd K P I N b (lo + (t_er a).2) := el_one e2 e3 (by omega) (by omega) e4
      exact ⟨b, lo + (t_er a).2, k.2, hr, by omega, by omega, fun p hp => Or.inr hp⟩
  | .num p, lo, h, l1, hN, k, j, j0, j1 => ⟨_, lo, k, el_one (R := .num p) h.1 h.2.1 l1 hN h.2.2, j0, j1, fun p hp => hp⟩
  | .neg x, lo, h, l1, hN, k, j, j0, j1 => by
    have hN : lo + (2 + (t_er x).2) ≤ N := hN
    have j1 : j < lo + (2 + (t_er x).2) := j1
    exact ⟨.neg x, lo, k, el_one (R := .neg x) h.1 h.2.1 l1 (by show lo + (1 + (1 + (t_er x).2)) ≤ N; omega) h.2.2, j0, by show j < lo + (1 + (1 + (t_er x).2)); omega, fun p hp => hp⟩
  | .mul a b, lo, h, l1, hN, k, j, j0, j1 => ⟨_, lo, k, el_one (R := .mul a b) h.1 h.2.1 l1 hN h.2.2, j0, j1, fun p hp => hp⟩
theorem el_k {K P I : Int → Int} : ∀ t : Tr, (∀ rd lo, (t_el K P I t).1 rd lo → ∀ j, lo ≤ j → j < lo + (t_er t).1 → 0 ≤ K j ∧ K j ≤ 2) ∧ (∀ pt lo, (t_el K P I t).2 pt lo → ∀ j, lo ≤ j → j < lo + (t_er t).2 → 0 ≤ K j ∧ K j ≤ 2)
  | .num p => by
    refine ⟨fun rd lo ⟨a, b, c⟩ j j0 j1 => ?_, fun pt lo ⟨a, b, c, d, e⟩ j j0 j1 => ?_⟩
    · have j1 : j < lo + 1 := j1
      rw [show j = lo by omega, a]; omega
    · have j1 : j < lo + 2 := j1
      by_cases q : j = lo
      · rw [q, a]; omega
      · rw [show j = lo + 1 by omega, c]; omega
  | .neg x => by
    have ih := (el_k (K := K) (P := P) (I := I) x).2
    refine ⟨fun rd lo ⟨a, b, c⟩ j j0 j1 => ?_, fun pt lo ⟨a, b, c, d, e⟩ j j0 j1 => ?_⟩
    · have j1 : j < lo + (1 + (t_er x).2) := j1
      by_cases q : j = lo
      · rw [q, a]; omega
      · exact ih lo (lo + 1) c j (by omega) (by omega)
    · have j1 : j < lo + (2 + (t_er x).2) := j1
      by_cases q : j = lo
      · rw [q, a]; omega
      · by_cases q2 : j = lo + 1
        · rw [q2, c]; omega
        · exact ih (lo + 1) (lo + 1 + 1) e j (by omega) (by omega)
  | .mul a b => by
    have iha := (el_k (K := K) (P := P) (I := I) a).1
    have ihb := (el_k (K := K) (P := P) (I := I) b).1
    have na := (er_nn a).1
    refine ⟨fun rd lo ⟨x, y⟩ j j0 j1 => ?_, fun pt lo ⟨x, y, z, u⟩ j j0 j1 => ?_⟩
    · have j1 : j < lo + ((t_er a).1 + (t_er b).1) := j1
      by_cases q : j < lo + (t_er a).1
      · exact iha rd lo x j j0 q
      · exact ihb rd _ y j (by omega) (by omega)
    · have j1 : j < lo + (1 + ((t_er a).1 + (t_er b).1)) := j1
      by_cases q0 : j = lo
      · rw [q0, x]; omega
      · by_cases q : j < lo + 1 + (t_er a).1
        · exact iha lo (lo + 1) z j (by omega) q
        · exact ihb lo _ u j (by omega) (by omega)
  | .add a b => by
    have iha := (el_k (K := K) (P := P) (I := I) a).2
    have ihb := (el_k (K := K) (P := P) (I := I) b).1
    have na := (er_nn a).2
    refine ⟨fun rd lo k => k.elim, fun pt lo ⟨x, y, z, u⟩ j j0 j1 => ?_⟩
    have j1 : j < lo + ((t_er a).2 + 1 + (t_er b).1) := j1
    by_cases q : j < lo + (t_er a).2
    · exact iha pt lo x j j0 q
    · by_cases q0 : j = lo + (t_er a).2
      · rw [q0, y]; omega
      · exact ihb _ _ u j (by omega) (by omega)
  | .natCast _ => ⟨fun _ _ k => k.elim, fun _ _ k => k.elim⟩
  | .intCast _ => ⟨fun _ _ k => k.elim, fun _ _ k => k.elim⟩
  | .var _ => ⟨fun _ _ k => k.elim, fun _ _ k => k.elim⟩
  | .sub _ _ => ⟨fun _ _ k => k.elim, fun _ _ k => k.elim⟩
  | .pow _ _ => ⟨fun _ _ k => k.elim, fun _ _ k => k.elim⟩
/-- a road's whole number, flows and pushes, and where it stands -/
abbrev A_rd (f : Int → Int) (t : Int) (X F : Int → Int) (M : cw_M) (K P I : Int → Int) (N : Int) (R : Tr) (lo : Int) : Prop := R_at f t X F M R lo ∧ e_rd K P I N R lo
theorem p_Mo_roadOf {g : cw_G} {M : cw_M} {p lo N : Int} {T R : Tr} {K P I : Int → Int} (hS : Sh M) (hT : Mt M T) (hok : t_ok T) (hK : M 327 = K) (hP : M 328 = P) (hI : M 329 = I) (hp : 0 ≤ p ∧ p < 7) (hR : e_rd K P I (1 + (t_er T).2) R lo) (hpR : t_in R p) (hone : ∀ j, 1 ≤ j → j < 1 + (t_er T).2 → K j = 0 → I j = p → lo ≤ j ∧ j < lo + (1 + (t_er R).1)) :
    mC g y_Mo_roadOf [.inr (.inr 319), .inl p] M (fun q M' => q = some (.inl lo) ∧ M' = M) := by
  obtain ⟨m1, m2, m3, m4⟩ := hT
  obtain ⟨r1, r2, r3, r4, r5, r6⟩ := hR
  obtain ⟨j0, hj0, kj0, ij0⟩ := r5.1 p hpR
  subst hK hP hI
  refine cw_C_of (L := [.inr (.inr 319), .inl p, cU]) ok_Mo_roadOf (Nat.le_refl _) (Nat.le_of_ble_eq_true rfl) rfl ?_
  refine cw_J_hide ?_
  -- up to the road
  have up : ∀ (d : Nat) (j : Int), j ≤ lo + d → lo ≤ j → j < lo + (1 + (t_er R).1) → mJ g y_Mo_roadOf 27 [.inr (.inr 319), .inl p, .inl j] [] M (cw_hide (fun q M' => q = some (.inl lo) ∧ M' = M)) := by
    intro d
    induction d with
    | zero =>
      intro j jd jl jh
      have ej : j = lo := by omega
      subst ej
      have e : M 328 j = 0 := r2
      refine k_Mo_roadOf_27 _ _ _ _ _ _ _ _ ?_
      simp (disch := omega) only [↓w_nil, ↓w_cons, ↓w_ald0, ↓w_gf2_9, ↓w_ild2, ↓w_iald, ↓w_ifle, true_and, and_true, true_implies, false_implies, not_true_eq_false, not_false_eq_true, Int.reduceEq, Int.reduceLT, Int.reduceLE, Int.reduceNeg, w_up1, w_up2, w_up3, e, c_k319, c_k320, c_k321, c_k322, c_k323, c_k324, c_k325, c_k326, c_k327, c_k328, c_k329, c_k330, c_k331, c_k332, c_k333, c_k334, c_k335, c_k336, c_k337, c_k338, c_k339, c_k340, c_k341, c_k342, c_k343, c_k344, c_k345, c_k346, c_k347, hS.r319_0, hS.r319_1, hS.r319_2, hS.r319_3, hS.r319_4, hS.r319_5, hS.r319_6, hS.r319_8, hS.r319_9, hS.r319_10, hS.r319_11, hS.r319_12, hS.r319_13, hS.r319_14, hS.r319_15, hS.r319_16, hS.r319_17, hS.r319_20, hS.r319_21, hS.r319_22, hS.r319_23, hS.r319_24, hS.r319_25, hS.r319_26, hS.r319_29, hS.r319_30, hS.r319_31, hS.r319_32, w_sf1, w_sf3]
      repeat refine And.intro (by first | assumption | exact IsW.kt (by assumption) | omega | (unfold in32; omega) | (unfold in64; omega) | exact True.intro | exact Or.inl True.intro | exact Or.inr True.intro | rfl | exact Nat.le_of_ble_eq_true rfl) ?_
      try first | done | assumption | (unfold in32; omega) | (unfold in64; omega)
      refine k_Mo_roadOf_46 _ _ _ _ _ _ _ _ ?_
      simp (disch := omega) only [↓w_nil, ↓w_cons, ↓w_ild2, ↓w_iret, true_and, and_true, true_implies, false_implies, not_true_eq_false, not_false_eq_true, Int.reduceEq, Int.reduceLT, Int.reduceLE, Int.reduceNeg, w_up1, w_up2, w_up3]
      repeat refine And.intro (by first | assumption | exact IsW.kt (by assumption) | omega | (unfold in32; omega) | (unfold in64; omega) | exact True.intro | exact Or.inl True.intro | exact Or.inr True.intro | rfl | exact Nat.le_of_ble_eq_true rfl) ?_
      try first | done | assumption | (unfold in32; omega) | (unfold in64; omega)
      all_goals rfl
    | succ d ih =>
      intro j jd jl jh
      by_cases q : j = lo
      · subst q
        have e : M 328 j = 0 := r2
        refine k_Mo_roadOf_27 _ _ _ _ _ _ _ _ ?_
        simp (disch := omega) only [↓w_nil, ↓w_cons, ↓w_ald0, ↓w_gf2_9, ↓w_ild2, ↓w_iald, ↓w_ifle, true_and, and_true, true_implies, false_implies, not_true_eq_false, not_false_eq_true, Int.reduceEq, Int.reduceLT, Int.reduceLE, Int.reduceNeg, w_up1, w_up2, w_up3, e, c_k319, c_k320, c_k321, c_k322, c_k323, c_k324, c_k325, c_k326, c_k327, c_k328, c_k329, c_k330, c_k331, c_k332, c_k333, c_k334, c_k335, c_k336, c_k337, c_k338, c_k339, c_k340, c_k341, c_k342, c_k343, c_k344, c_k345, c_k346, c_k347, hS.r319_0, hS.r319_1, hS.r319_2, hS.r319_3, hS.r319_4, hS.r319_5, hS.r319_6, hS.r319_8, hS.r319_9, hS.r319_10, hS.r319_11, hS.r319_12, hS.r319_13, hS.r319_14, hS.r319_15, hS.r319_16, hS.r319_17, hS.r319_20, hS.r319_21, hS.r319_22, hS.r319_23, hS.r319_24, hS.r319_25, hS.r319_26, hS.r319_29, hS.r319_30, hS.r319_31, hS.r319_32, w_sf1, w_sf3]
        repeat refine And.intro (by first | assumption | exact IsW.kt (by assumption) | omega | (unfold in32; omega) | (unfold in64; omega) | exact True.intro | exact Or.inl True.intro | exact Or.inr True.intro | rfl | exact Nat.le_of_ble_eq_true rfl) ?_
        try first | done | assumption | (unfold in32; omega) | (unfold in64; omega)
        refine k_Mo_roadOf_46 _ _ _ _ _ _ _ _ ?_
        simp (disch := omega) only [↓w_nil, ↓w_cons, ↓w_ild2, ↓w_iret, true_and, and_true, true_implies, false_implies, not_true_eq_false, not_false_eq_true, Int.reduceEq, Int.reduceLT, Int.reduceLE, Int.reduceNeg, w_up1, w_up2, w_up3]
        repeat refine And.intro (by first | assumption | exact IsW.kt (by assumption) | omega | (unfold in32; omega) | (unfold in64; omega) | exact True.intro | exact Or.inl True.intro | exact Or.inr True.intro | rfl | exact Nat.le_of_ble_eq_true rfl) ?_
        try first | done | assumption | (unfold in32; omega) | (unfold in64; omega)
        all_goals rfl
      · have u := r6 j (by omega) jh
        have p32 : in32 (M 328 j) := by unfold in32; omega
        refine k_Mo_roadOf_27 _ _ _ _ _ _ _ _ ?_
        simp (disch := omega) only [↓w_nil, ↓w_cons, ↓w_ald0, ↓w_gf2_9, ↓w_ild2, ↓w_iald, ↓w_ifle, true_and, and_true, true_implies, false_implies, not_true_eq_false, not_false_eq_true, Int.reduceEq, Int.reduceLT, Int.reduceLE, Int.reduceNeg, w_up1, w_up2, w_up3, c_k319, c_k320, c_k321, c_k322, c_k323, c_k324, c_k325, c_k326, c_k327, c_k328, c_k329, c_k330, c_k331, c_k332, c_k333, c_k334, c_k335, c_k336, c_k337, c_k338, c_k339, c_k340, c_k341, c_k342, c_k343, c_k344, c_k345, c_k346, c_k347, hS.r319_0, hS.r319_1, hS.r319_2, hS.r319_3, hS.r319_4, hS.r319_5, hS.r319_6, hS.r319_8, hS.r319_9, hS.r319_10, hS.r319_11, hS.r319_12, hS.r319_13, hS.r319_14, hS.r319_15, hS.r319_16, hS.r319_17, hS.r319_20, hS.r319_21, hS.r319_22, hS.r319_23, hS.r319_24, hS.r319_25, hS.r319_26, hS.r319_29, hS.r319_30, hS.r319_31, hS.r319_32, w_sf1, w_sf3]
        repeat refine And.intro (by first | assumption | exact IsW.kt (by assumption) | omega | (unfold in32; omega) | (unfold in64; omega) | exact True.intro | exact Or.inl True.intro | exact Or.inr True.intro | rfl | exact Nat.le_of_ble_eq_true rfl) ?_
        try first | done | assumption | (unfold in32; omega) | (unfold in64; omega)
        intro _
        refine k_Mo_roadOf_36 _ _ _ _ _ _ _ _ ?_
        simp (disch := omega) only [↓w_nil, ↓w_cons, ↓w_ald0, ↓w_gf2_9, ↓w_ild2, ↓w_iald, ↓w_ist2, ↓w_goto, true_and, and_true, true_implies, false_implies, not_true_eq_false, not_false_eq_true, Int.reduceEq, Int.reduceLT, Int.reduceLE, Int.reduceNeg, w_nlI, w_nlL, w_nlR, w_up1, w_up2, w_up3, c_k319, c_k320, c_k321, c_k322, c_k323, c_k324, c_k325, c_k326, c_k327, c_k328, c_k329, c_k330, c_k331, c_k332, c_k333, c_k334, c_k335, c_k336, c_k337, c_k338, c_k339, c_k340, c_k341, c_k342, c_k343, c_k344, c_k345, c_k346, c_k347, hS.r319_0, hS.r319_1, hS.r319_2, hS.r319_3, hS.r319_4, hS.r319_5, hS.r319_6, hS.r319_8, hS.r319_9, hS.r319_10, hS.r319_11, hS.r319_12, hS.r319_13, hS.r319_14, hS.r319_15, hS.r319_16, hS.r319_17, hS.r319_20, hS.r319_21, hS.r319_22, hS.r319_23, hS.r319_24, hS.r319_25, hS.r319_26, hS.r319_29, hS.r319_30, hS.r319_31, hS.r319_32, w_sf1, w_sf3]
        repeat refine And.intro (by first | assumption | exact IsW.kt (by assumption) | omega | (unfold in32; omega) | (unfold in64; omega) | exact True.intro | exact Or.inl True.intro | exact Or.inr True.intro | rfl | exact Nat.le_of_ble_eq_true rfl) ?_
        try first | done | assumption | (unfold in32; omega) | (unfold in64; omega)
        exact ih (M 328 j) (by omega) (by omega) (by omega)
  -- the piece's node
  have find : ∀ (d : Nat) (j : Int), j + d = j0 → 0 ≤ j → mJ g y_Mo_roadOf 2 [.inr (.inr 319), .inl p, .inl j] [] M (cw_hide (fun q M' => q = some (.inl lo) ∧ M' = M)) := by
    intro d
    induction d with
    | zero =>
      intro j jd jl
      have ej : j = j0 := by omega
      subst ej
      have p32 : in32 p := by unfold in32; omega
      refine k_Mo_roadOf_2 _ _ _ _ _ _ _ _ ?_
      simp (disch := omega) only [↓w_nil, ↓w_cons, ↓w_ald0, ↓w_gf2_8, ↓w_ild2, ↓w_iald, ↓w_ifne, true_and, and_true, true_implies, false_implies, not_true_eq_false, not_false_eq_true, Int.reduceEq, Int.reduceLT, Int.reduceLE, Int.reduceNeg, w_up1, w_up2, w_up3, kj0, c_k319, c_k320, c_k321, c_k322, c_k323, c_k324, c_k325, c_k326, c_k327, c_k328, c_k329, c_k330, c_k331, c_k332, c_k333, c_k334, c_k335, c_k336, c_k337, c_k338, c_k339, c_k340, c_k341, c_k342, c_k343, c_k344, c_k345, c_k346, c_k347, hS.r319_0, hS.r319_1, hS.r319_2, hS.r319_3, hS.r319_4, hS.r319_5, hS.r319_6, hS.r319_8, hS.r319_9, hS.r319_10, hS.r319_11, hS.r319_12, hS.r319_13, hS.r319_14, hS.r319_15, hS.r319_16, hS.r319_17, hS.r319_20, hS.r319_21, hS.r319_22, hS.r319_23, hS.r319_24, hS.r319_25, hS.r319_26, hS.r319_29, hS.r319_30, hS.r319_31, hS.r319_32, w_sf1, w_sf3]
      repeat refine And.intro (by first | assumption | exact IsW.kt (by assumption) | omega | (unfold in32; omega) | (unfold in64; omega) | exact True.intro | exact Or.inl True.intro | exact Or.inr True.intro | rfl | exact Nat.le_of_ble_eq_true rfl) ?_
      try first | done | assumption | (unfold in32; omega) | (unfold in64; omega)
      refine k_Mo_roadOf_11 _ _ _ _ _ _ _ _ ?_
      simp (disch := omega) only [↓w_nil, ↓w_cons, ↓w_ald0, ↓w_gf2_10, ↓w_ild2, ↓w_iald, ↓w_ild1, ↓w_iceq, true_and, and_true, true_implies, false_implies, not_true_eq_false, not_false_eq_true, Int.reduceEq, Int.reduceLT, Int.reduceLE, Int.reduceNeg, w_up1, w_up2, w_up3, ij0, c_k319, c_k320, c_k321, c_k322, c_k323, c_k324, c_k325, c_k326, c_k327, c_k328, c_k329, c_k330, c_k331, c_k332, c_k333, c_k334, c_k335, c_k336, c_k337, c_k338, c_k339, c_k340, c_k341, c_k342, c_k343, c_k344, c_k345, c_k346, c_k347, hS.r319_0, hS.r319_1, hS.r319_2, hS.r319_3, hS.r319_4, hS.r319_5, hS.r319_6, hS.r319_8, hS.r319_9, hS.r319_10, hS.r319_11, hS.r319_12, hS.r319_13, hS.r319_14, hS.r319_15, hS.r319_16, hS.r319_17, hS.r319_20, hS.r319_21, hS.r319_22, hS.r319_23, hS.r319_24, hS.r319_25, hS.r319_26, hS.r319_29, hS.r319_30, hS.r319_31, hS.r319_32, w_sf1, w_sf3]
      repeat refine And.intro (by first | assumption | exact IsW.kt (by assumption) | omega | (unfold in32; omega) | (unfold in64; omega) | exact True.intro | exact Or.inl True.intro | exact Or.inr True.intro | rfl | exact Nat.le_of_ble_eq_true rfl) ?_
      try first | done | assumption | (unfold in32; omega) | (unfold in64; omega)
      exact up (j - lo).toNat j (by omega) hj0.1 hj0.2
    | succ d ih =>
      intro j jd jl
      have p32 : in32 p := by unfold in32; omega
      have next : mJ g y_Mo_roadOf 21 [.inr (.inr 319), .inl p, .inl j] [] M (cw_hide (fun q M' => q = some (.inl lo) ∧ M' = M)) := by
        refine k_Mo_roadOf_21 _ _ _ _ _ _ _ _ ?_
        simp (disch := omega) only [↓w_nil, ↓w_cons, ↓w_inc2, ↓w_goto, true_and, and_true, true_implies, false_implies, not_true_eq_false, not_false_eq_true, Int.reduceEq, Int.reduceLT, Int.reduceLE, Int.reduceNeg, w_nlI, w_nlL, w_nlR, w_up1, w_up2, w_up3]
        repeat refine And.intro (by first | assumption | exact IsW.kt (by assumption) | omega | (unfold in32; omega) | (unfold in64; omega) | exact True.intro | exact Or.inl True.intro | exact Or.inr True.intro | rfl | exact Nat.le_of_ble_eq_true rfl) ?_
        try first | done | assumption | (unfold in32; omega) | (unfold in64; omega)
        exact ih (j + 1) (by omega) (by omega)
      by_cases z : j = 0
      · have e : M 327 0 = 2 := m3
        rw [z] at next ⊢
        refine k_Mo_roadOf_2 _ _ _ _ _ _ _ _ ?_
        simp (disch := omega) only [↓w_nil, ↓w_cons, ↓w_ald0, ↓w_gf2_8, ↓w_ild2, ↓w_iald, ↓w_ifne, true_and, and_true, true_implies, false_implies, not_true_eq_false, not_false_eq_true, Int.reduceEq, Int.reduceLT, Int.reduceLE, Int.reduceNeg, w_up1, w_up2, w_up3, e, c_k319, c_k320, c_k321, c_k322, c_k323, c_k324, c_k325, c_k326, c_k327, c_k328, c_k329, c_k330, c_k331, c_k332, c_k333, c_k334, c_k335, c_k336, c_k337, c_k338, c_k339, c_k340, c_k341, c_k342, c_k343, c_k344, c_k345, c_k346, c_k347, hS.r319_0, hS.r319_1, hS.r319_2, hS.r319_3, hS.r319_4, hS.r319_5, hS.r319_6, hS.r319_8, hS.r319_9, hS.r319_10, hS.r319_11, hS.r319_12, hS.r319_13, hS.r319_14, hS.r319_15, hS.r319_16, hS.r319_17, hS.r319_20, hS.r319_21, hS.r319_22, hS.r319_23, hS.r319_24, hS.r319_25, hS.r319_26, hS.r319_29, hS.r319_30, hS.r319_31, hS.r319_32, w_sf1, w_sf3]
        repeat refine And.intro (by first | assumption | exact IsW.kt (by assumption) | omega | (unfold in32; omega) | (unfold in64; omega) | exact True.intro | exact Or.inl True.intro | exact Or.inr True.intro | rfl | exact Nat.le_of_ble_eq_true rfl) ?_
        try first | done | assumption | (unfold in32; omega) | (unfold in64; omega)
        all_goals exact next
      · have kb := (el_k (K := M 327) (P := M 328) (I := M 329) T).2 0 1 m4 j (by omega) (by omega)
        have k32 : in32 (M 327 j) := by unfold in32; omega
        refine k_Mo_roadOf_2 _ _ _ _ _ _ _ _ ?_
        simp (disch := omega) only [↓w_nil, ↓w_cons, ↓w_ald0, ↓w_gf2_8, ↓w_ild2, ↓w_iald, ↓w_ifne, true_and, and_true, true_implies, false_implies, not_true_eq_false, not_false_eq_true, Int.reduceEq, Int.reduceLT, Int.reduceLE, Int.reduceNeg, w_up1, w_up2, w_up3, c_k319, c_k320, c_k321, c_k322, c_k323, c_k324, c_k325, c_k326, c_k327, c_k328, c_k329, c_k330, c_k331, c_k332, c_k333, c_k334, c_k335, c_k336, c_k337, c_k338, c_k339, c_k340, c_k341, c_k342, c_k343, c_k344, c_k345, c_k346, c_k347, hS.r319_0, hS.r319_1, hS.r319_2, hS.r319_3, hS.r319_4, hS.r319_5, hS.r319_6, hS.r319_8, hS.r319_9, hS.r319_10, hS.r319_11, hS.r319_12, hS.r319_13, hS.r319_14, hS.r319_15, hS.r319_16, hS.r319_17, hS.r319_20, hS.r319_21, hS.r319_22, hS.r319_23, hS.r319_24, hS.r319_25, hS.r319_26, hS.r319_29, hS.r319_30, hS.r319_31, hS.r319_32, w_sf1, w_sf3]
        repeat refine And.intro (by first | assumption | exact IsW.kt (by assumption) | omega | (unfold in32; omega) | (unfold in64; omega) | exact True.intro | exact Or.inl True.intro | exact Or.inr True.intro | rfl | exact Nat.le_of_ble_eq_true rfl) ?_
        try first | done | assumption | (unfold in32; omega) | (unfold in64; omega)
        refine ⟨fun hc => next, fun hc => ?_⟩
        have hc : M 327 j = 0 := by omega
        have li := in_7 hok _ (((el_lf (K := M 327) (P := M 328) (I := M 329) T).2 0 1 m4).2 j (by omega) (by omega) hc)
        have i32 : in32 (M 329 j) := by unfold in32; omega
        refine k_Mo_roadOf_11 _ _ _ _ _ _ _ _ ?_
        simp (disch := omega) only [↓w_nil, ↓w_cons, ↓w_ald0, ↓w_gf2_10, ↓w_ild2, ↓w_iald, ↓w_ild1, ↓w_iceq, true_and, and_true, true_implies, false_implies, not_true_eq_false, not_false_eq_true, Int.reduceEq, Int.reduceLT, Int.reduceLE, Int.reduceNeg, w_up1, w_up2, w_up3, c_k319, c_k320, c_k321, c_k322, c_k323, c_k324, c_k325, c_k326, c_k327, c_k328, c_k329, c_k330, c_k331, c_k332, c_k333, c_k334, c_k335, c_k336, c_k337, c_k338, c_k339, c_k340, c_k341, c_k342, c_k343, c_k344, c_k345, c_k346, c_k347, hS.r319_0, hS.r319_1, hS.r319_2, hS.r319_3, hS.r319_4, hS.r319_5, hS.r319_6, hS.r319_8, hS.r319_9, hS.r319_10, hS.r319_11, hS.r319_12, hS.r319_13, hS.r319_14, hS.r319_15, hS.r319_16, hS.r319_17, hS.r319_20, hS.r319_21, hS.r319_22, hS.r319_23, hS.r319_24, hS.r319_25, hS.r319_26, hS.r319_29, hS.r319_30, hS.r319_31, hS.r319_32, w_sf1, w_sf3]
        repeat refine And.intro (by first | assumption | exact IsW.kt (by assumption) | omega | (unfold in32; omega) | (unfold in64; omega) | exact True.intro | exact Or.inl True.intro | exact Or.inr True.intro | rfl | exact Nat.le_of_ble_eq_true rfl) ?_
        try first | done | assumption | (unfold in32; omega) | (unfold in64; omega)
        refine ⟨fun hi => ?_, fun hi => next⟩
        have w := hone j (by omega) (by omega) hc hi
        exact up (j - lo).toNat j (by omega) w.1 w.2
  refine k_Mo_roadOf_0 _ _ _ _ _ _ _ _ ?_
  simp (disch := omega) only [↓w_nil, ↓w_cons, ↓w_ic, ↓w_ist2, ↓w_fall, true_and, and_true, true_implies, false_implies, not_true_eq_false, not_false_eq_true, Int.reduceEq, Int.reduceLT, Int.reduceLE, Int.reduceNeg, w_nlI, w_nlL, w_nlR, w_up1, w_up2, w_up3]
  repeat refine And.intro (by first | assumption | exact IsW.kt (by assumption) | omega | (unfold in32; omega) | (unfold in64; omega) | exact True.intro | exact Or.inl True.intro | exact Or.inr True.intro | rfl | exact Nat.le_of_ble_eq_true rfl) ?_
  try first | done | assumption | (unfold in32; omega) | (unfold in64; omega)
  exact find j0.toNat 0 (by omega) (by omega)
