/-! how the reference's rows hold a tree: kinds (0 a piece, 1 a road, 2 a path), parents, pieces; a node ahead of its parts -/
/-- how many nodes it takes: as ends of a road, as roads of a path -/
def t_er : Tr → Int × Int := fun t => match t with
  | .num _ => (1, 2)
  | .neg x => (1 + (t_er x).2, 2 + (t_er x).2)
  | .add a b => (0, (t_er a).2 + 1 + (t_er b).1)
  | .mul a b => ((t_er a).1 + (t_er b).1, 1 + ((t_er a).1 + (t_er b).1))
  | _ => (0, 0)
/-- it stands there: as ends of a road from lo on, as roads of a path from lo on -/
def t_el (K P I : Int → Int) : Tr → (Int → Int → Prop) × (Int → Int → Prop) := fun t => match t with
  | .num p => (fun rd lo => K lo = 0 ∧ P lo = rd ∧ I lo = p, fun pt lo => K lo = 1 ∧ P lo = pt ∧ (K (lo + 1) = 0 ∧ P (lo + 1) = lo ∧ I (lo + 1) = p))
  | .neg x => (fun rd lo => K lo = 2 ∧ P lo = rd ∧ (t_el K P I x).2 lo (lo + 1), fun pt lo => K lo = 1 ∧ P lo = pt ∧ (K (lo + 1) = 2 ∧ P (lo + 1) = lo ∧ (t_el K P I x).2 (lo + 1) (lo + 1 + 1)))
  | .mul a b => (fun rd lo => (t_el K P I a).1 rd lo ∧ (t_el K P I b).1 rd (lo + (t_er a).1), fun pt lo => K lo = 1 ∧ P lo = pt ∧ ((t_el K P I a).1 lo (lo + 1) ∧ (t_el K P I b).1 lo (lo + 1 + (t_er a).1)))
  | .add a b => (fun _ _ => False, fun pt lo => (t_el K P I a).2 pt lo ∧ K (lo + (t_er a).2) = 1 ∧ P (lo + (t_er a).2) = pt ∧ (t_el K P I b).1 (lo + (t_er a).2) (lo + (t_er a).2 + 1))
  | _ => (fun _ _ => False, fun _ _ => False)
theorem er_nn : ∀ t : Tr, 0 ≤ (t_er t).1 ∧ 0 ≤ (t_er t).2
  | .num _ => ⟨by show (0 : Int) ≤ 1; omega, by show (0 : Int) ≤ 2; omega⟩
  | .neg x => by have := er_nn x; exact ⟨by show 0 ≤ 1 + (t_er x).2; omega, by show 0 ≤ 2 + (t_er x).2; omega⟩
  | .add a b => by have := er_nn a; have := er_nn b; exact ⟨by show (0 : Int) ≤ 0; omega, by show 0 ≤ (t_er a).2 + 1 + (t_er b).1; omega⟩
  | .mul a b => by have := er_nn a; have := er_nn b; exact ⟨by show 0 ≤ (t_er a).1 + (t_er b).1; omega, by show 0 ≤ 1 + ((t_er a).1 + (t_er b).1); omega⟩
  | .natCast _ => ⟨Int.le_refl _, Int.le_refl _⟩
  | .intCast _ => ⟨Int.le_refl _, Int.le_refl _⟩
  | .var _ => ⟨Int.le_refl _, Int.le_refl _⟩
  | .sub _ _ => ⟨Int.le_refl _, Int.le_refl _⟩
  | .pow _ _ => ⟨Int.le_refl _, Int.le_refl _⟩
theorem el_cg {K P I K' P' I' : Int → Int} {hi : Int} (h : ∀ i, 0 ≤ i → i < hi → K' i = K i ∧ P' i = P i ∧ I' i = I i) : ∀ t : Tr,
    (∀ rd lo, 0 ≤ lo → lo + (t_er t).1 ≤ hi → (t_el K P I t).1 rd lo → (t_el K' P' I' t).1 rd lo) ∧ (∀ pt lo, 0 ≤ lo → lo + (t_er t).2 ≤ hi → (t_el K P I t).2 pt lo → (t_el K' P' I' t).2 pt lo)
  | .num p => by
    refine ⟨fun rd lo l0 l1 ⟨a, b, c⟩ => ?_, fun pt lo l0 l1 ⟨a, b, c, d, e⟩ => ?_⟩
    · have l1' : lo + 1 ≤ hi := l1
      obtain ⟨e1, e2, e3⟩ := h lo l0 (by omega)
      exact ⟨e1.trans a, e2.trans b, e3.trans c⟩
    · have l1' : lo + 2 ≤ hi := l1
      obtain ⟨e1, e2, e3⟩ := h lo l0 (by omega)
      obtain ⟨f1, f2, f3⟩ := h (lo + 1) (by omega) (by omega)
      exact ⟨e1.trans a, e2.trans b, f1.trans c, f2.trans d, f3.trans e⟩
  | .neg x => by
    obtain ⟨-, ih⟩ := el_cg h x
    have n := er_nn x
    refine ⟨fun rd lo l0 l1 ⟨a, b, c⟩ => ?_, fun pt lo l0 l1 ⟨a, b, c, d, e⟩ => ?_⟩
    · have l1' : lo + (1 + (t_er x).2) ≤ hi := l1
      obtain ⟨e1, e2, e3⟩ := h lo l0 (by omega)
      exact ⟨e1.trans a, e2.trans b, ih _ _ (by omega) (by omega) c⟩
    · have l1' : lo + (2 + (t_er x).2) ≤ hi := l1
      obtain ⟨e1, e2, e3⟩ := h lo l0 (by omega)
      obtain ⟨f1, f2, f3⟩ := h (lo + 1) (by omega) (by omega)
      exact ⟨e1.trans a, e2.trans b, f1.trans c, f2.trans d, ih _ _ (by omega) (by omega) e⟩
  | .mul x y => by
    obtain ⟨ia, -⟩ := el_cg h x
    obtain ⟨ib, -⟩ := el_cg h y
    have n := er_nn x
    have m := er_nn y
    refine ⟨fun rd lo l0 l1 ⟨a, b⟩ => ?_, fun pt lo l0 l1 ⟨a, b, c, d⟩ => ?_⟩
    · have l1' : lo + ((t_er x).1 + (t_er y).1) ≤ hi := l1
      exact ⟨ia _ _ l0 (by omega) a, ib _ _ (by omega) (by omega) b⟩
    · have l1' : lo + (1 + ((t_er x).1 + (t_er y).1)) ≤ hi := l1
      obtain ⟨e1, e2, e3⟩ := h lo l0 (by omega)
      exact ⟨e1.trans a, e2.trans b, ia _ _ (by omega) (by omega) c, ib _ _ (by omega) (by omega) d⟩
  | .add x y => by
    obtain ⟨-, ia⟩ := el_cg h x
    obtain ⟨ib, -⟩ := el_cg h y
    have n := er_nn x
    have m := er_nn y
    refine ⟨fun rd lo l0 l1 a => a.elim, fun pt lo l0 l1 ⟨a, b, c, d⟩ => ?_⟩
    have l1' : lo + ((t_er x).2 + 1 + (t_er y).1) ≤ hi := l1
    obtain ⟨e1, e2, e3⟩ := h (lo + (t_er x).2) (by omega) (by omega)
    exact ⟨ia _ _ l0 (by omega) a, e1.trans b, e2.trans c, ib _ _ (by omega) (by omega) d⟩
  | .natCast _ => ⟨fun _ _ _ _ h => h.elim, fun _ _ _ _ h => h.elim⟩
  | .intCast _ => ⟨fun _ _ _ _ h => h.elim, fun _ _ _ _ h => h.elim⟩
  | .var _ => ⟨fun _ _ _ _ h => h.elim, fun _ _ _ _ h => h.elim⟩
  | .sub _ _ => ⟨fun _ _ _ _ h => h.elim, fun _ _ _ _ h => h.elim⟩
  | .pow _ _ => ⟨fun _ _ _ _ h => h.elim, fun _ _ _ _ h => h.elim⟩
/-- ends of a road are a road -/
theorem el_r {K P I : Int → Int} {t : Tr} {pt lo : Int} (h : (t_el K P I t).1 lo (lo + 1)) (hk : K lo = 1) (hp : P lo = pt) : (t_el K P I t).2 pt lo ∧ (t_er t).2 = 1 + (t_er t).1 := by
  cases t with
  | num p => exact ⟨⟨hk, hp, h⟩, rfl⟩
  | neg x => exact ⟨⟨hk, hp, h⟩, by show 2 + (t_er x).2 = 1 + (1 + (t_er x).2); omega⟩
  | mul a b => exact ⟨⟨hk, hp, h⟩, rfl⟩
  | add a b => exact h.elim
  | natCast _ => exact h.elim
  | intCast _ => exact h.elim
  | var _ => exact h.elim
  | sub _ _ => exact h.elim
  | pow _ _ => exact h.elim
def o_e (o : Option Tr) : Int := match o with
  | none => 0
  | some t => (t_er t).1
def o_r (o : Option Tr) : Int := match o with
  | none => 0
  | some t => (t_er t).2
def o_E (K P I : Int → Int) (o : Option Tr) (rd lo : Int) : Prop := match o with
  | none => True
  | some t => (t_el K P I t).1 rd lo
def o_R (K P I : Int → Int) (o : Option Tr) (pt lo : Int) : Prop := match o with
  | none => True
  | some t => (t_el K P I t).2 pt lo
theorem oe_nn (o : Option Tr) : 0 ≤ o_e o := by cases o with
  | none => exact Int.le_refl _
  | some t => exact (er_nn t).1
theorem or_nn (o : Option Tr) : 0 ≤ o_r o := by cases o with
  | none => exact Int.le_refl _
  | some t => exact (er_nn t).2
theorem oE_cg {K P I K' P' I' : Int → Int} {hi : Int} (h : ∀ i, 0 ≤ i → i < hi → K' i = K i ∧ P' i = P i ∧ I' i = I i) {o : Option Tr} {rd lo : Int} (h0 : 0 ≤ lo) (h1 : lo + o_e o ≤ hi) (k : o_E K P I o rd lo) : o_E K' P' I' o rd lo := by
  cases o with
  | none => trivial
  | some t => exact (el_cg h t).1 _ _ h0 h1 k
theorem oR_cg {K P I K' P' I' : Int → Int} {hi : Int} (h : ∀ i, 0 ≤ i → i < hi → K' i = K i ∧ P' i = P i ∧ I' i = I i) {o : Option Tr} {rd lo : Int} (h0 : 0 ≤ lo) (h1 : lo + o_r o ≤ hi) (k : o_R K P I o rd lo) : o_R K' P' I' o rd lo := by
  cases o with
  | none => trivial
  | some t => exact (el_cg h t).2 _ _ h0 h1 k
/-- where the next path begins; the road that it stands in -/
def f_q : List Gf → Int := fun l => match l with
  | [] => 0
  | f :: fs => f_q fs + 1 + o_r f.1 + 1 + o_e f.2
def f_p : List Gf → Int := fun l => match l with
  | [] => -1
  | f :: fs => f_q fs + 1 + o_r f.1
def f_1 (K P I : Int → Int) (A B : Option Tr) (q par : Int) : Prop := K q = 2 ∧ P q = par ∧ o_R K P I A q (q + 1) ∧ K (q + 1 + o_r A) = 1 ∧ P (q + 1 + o_r A) = q ∧ o_E K P I B (q + 1 + o_r A) (q + 1 + o_r A + 1)
def f_l (K P I : Int → Int) : List Gf → Prop := fun l => match l with
  | [] => True
  | f :: fs => f_l K P I fs ∧ f_1 K P I f.1 f.2 (f_q fs) (f_p fs)
def f_o (O : Int → Int) : List Gf → Prop := fun l => match l with
  | [] => True
  | f :: fs => f_o O fs ∧ O fs.length = f_q fs + 1 + o_r f.1
theorem fq_nn : ∀ l : List Gf, 0 ≤ f_q l
  | [] => Int.le_refl _
  | f :: fs => by have := fq_nn fs; have := oe_nn f.2; have := or_nn f.1; show 0 ≤ f_q fs + 1 + o_r f.1 + 1 + o_e f.2; omega
theorem f1_cg {K P I K' P' I' : Int → Int} {hi : Int} (h : ∀ i, 0 ≤ i → i < hi → K' i = K i ∧ P' i = P i ∧ I' i = I i) {A B : Option Tr} {q par : Int} (h0 : 0 ≤ q) (h1 : q + 1 + o_r A + 1 + o_e B ≤ hi) (k : f_1 K P I A B q par) : f_1 K' P' I' A B q par := by
  obtain ⟨k1, k2, k3, k4, k5, k6⟩ := k
  have a := oe_nn B
  have b := or_nn A
  obtain ⟨e1, e2, -⟩ := h q h0 (by omega)
  obtain ⟨e3, e4, -⟩ := h (q + 1 + o_r A) (by omega) (by omega)
  exact ⟨e1.trans k1, e2.trans k2, oR_cg h (by omega) (by omega) k3, e3.trans k4, e4.trans k5, oE_cg h (by omega) (by omega) k6⟩
theorem fl_cg {K P I K' P' I' : Int → Int} {hi : Int} (h : ∀ i, 0 ≤ i → i < hi → K' i = K i ∧ P' i = P i ∧ I' i = I i) : ∀ l : List Gf, f_q l ≤ hi → f_l K P I l → f_l K' P' I' l
  | [], _, _ => True.intro
  | f :: fs, hq, ⟨a, b⟩ => by
    have e : f_q (f :: fs) = f_q fs + 1 + o_r f.1 + 1 + o_e f.2 := rfl
    have := oe_nn f.2
    have := or_nn f.1
    have := fq_nn fs
    exact ⟨fl_cg h fs (by omega) a, f1_cg h (fq_nn fs) (by omega) b⟩
theorem fo_cg {O O' : Int → Int} : ∀ l : List Gf, (∀ i : Int, 0 ≤ i → i < l.length → O' i = O i) → f_o O l → f_o O' l
  | [], _, _ => True.intro
  | f :: fs, h, ⟨a, b⟩ => by
    have e : (((f :: fs).length : Nat) : Int) = fs.length + 1 := by rw [List.length_cons]; omega
    rw [e] at h
    exact ⟨fo_cg fs (fun i i0 i1 => h i i0 (by omega)) a, (h _ (by omega) (by omega)).trans b⟩
/-- the reference's rows hold what is read so far -/
def m_ls (K P I O : Int → Int) (N : Int) (s : Gs) : Prop := f_l K P I s.1 ∧ f_1 K P I s.2.1 s.2.2.1 (f_q s.1) (f_p s.1) ∧ o_E K P I s.2.2.2.1 (f_q s.1 + 1 + o_r s.2.1) (f_q s.1 + 1 + o_r s.2.1 + 1 + o_e s.2.2.1) ∧ N = f_q s.1 + 1 + o_r s.2.1 + 1 + o_e s.2.2.1 + o_e s.2.2.2.1 ∧ f_o O s.1
theorem ser_E {K P I : Int → Int} {B : Option Tr} {t : Tr} {rd lo : Int} (h : o_E K P I B rd lo) (k : (t_el K P I t).1 rd (lo + o_e B)) : (t_el K P I (g_ser B t)).1 rd lo := by
  cases B with
  | none => have k' : (t_el K P I t).1 rd (lo + 0) := k; rw [Int.add_zero] at k'; exact k'
  | some b => exact ⟨h, k⟩
theorem ser_e {B : Option Tr} {t : Tr} : (t_er (g_ser B t)).1 = o_e B + (t_er t).1 := by
  cases B with
  | none => show (t_er t).1 = 0 + _; omega
  | some b => rfl
theorem par_R {K P I : Int → Int} {A : Option Tr} {t : Tr} {pt lo : Int} (h : o_R K P I A pt lo) (hk : K (lo + o_r A) = 1) (hp : P (lo + o_r A) = pt) (k : (t_el K P I t).1 (lo + o_r A) (lo + o_r A + 1)) : (t_el K P I (g_par A t)).2 pt lo ∧ (t_er (g_par A t)).2 = o_r A + 1 + (t_er t).1 := by
  cases A with
  | none =>
    have hk' : K (lo + 0) = 1 := hk
    have hp' : P (lo + 0) = pt := hp
    have k' : (t_el K P I t).1 (lo + 0) (lo + 0 + 1) := k
    rw [Int.add_zero] at hk' hp' k'
    obtain ⟨a, b⟩ := el_r k' hk' hp'
    exact ⟨a, by show (t_er t).2 = 0 + 1 + _; omega⟩
  | some a => exact ⟨⟨h, hk, hp, k⟩, rfl⟩
