/-! the tree that a path spells, read letter by letter: num p a piece, mul one behind the other, add side by side, neg what stands in ( ) -/
abbrev Tr : Type := Lean.Grind.CommRing.Expr
def t_sz : Tr → Int := fun t => match t with
  | .neg x => t_sz x
  | .add a b => t_sz a + t_sz b + 1
  | .mul a b => t_sz a + t_sz b + 1
  | _ => 1
def t_ok : Tr → Prop := fun t => match t with
  | .num p => 0 ≤ p ∧ p < 7
  | .neg x => t_ok x
  | .add a b => t_ok a ∧ t_ok b
  | .mul a b => t_ok a ∧ t_ok b
  | _ => False
theorem sz_pos : ∀ t : Tr, 1 ≤ t_sz t
  | .neg x => sz_pos x
  | .add a b => by have := sz_pos a; have := sz_pos b; show 1 ≤ t_sz a + t_sz b + 1; omega
  | .mul a b => by have := sz_pos a; have := sz_pos b; show 1 ≤ t_sz a + t_sz b + 1; omega
  | .num _ => by show (1 : Int) ≤ 1; omega
  | .natCast _ => by show (1 : Int) ≤ 1; omega
  | .intCast _ => by show (1 : Int) ≤ 1; omega
  | .var _ => by show (1 : Int) ≤ 1; omega
  | .sub _ _ => by show (1 : Int) ≤ 1; omega
  | .pow _ _ => by show (1 : Int) ≤ 1; omega
/-- the class's rows hold a tree from lo on, parts ahead of the whole: kinds, firsts, seconds, leaves -/
def t_dc (K F S V : Int → Int) : Tr → Int → Prop := fun t => match t with
  | .num p => fun lo => K lo = 0 ∧ F lo = p ∧ S lo = p ∧ V p = lo
  | .neg x => fun lo => t_dc K F S V x lo
  | .add a b => fun lo => t_dc K F S V a lo ∧ t_dc K F S V b (lo + t_sz a) ∧ K (lo + t_sz a + t_sz b) = 2 ∧ F (lo + t_sz a + t_sz b) = lo + t_sz a - 1 ∧ S (lo + t_sz a + t_sz b) = lo + t_sz a + t_sz b - 1
  | .mul a b => fun lo => t_dc K F S V a lo ∧ t_dc K F S V b (lo + t_sz a) ∧ K (lo + t_sz a + t_sz b) = 1 ∧ F (lo + t_sz a + t_sz b) = lo + t_sz a - 1 ∧ S (lo + t_sz a + t_sz b) = lo + t_sz a + t_sz b - 1
  | _ => fun _ => False
theorem dc_cg {K F S V K' F' S' V' : Int → Int} (hV : ∀ p, 0 ≤ V p → V' p = V p) : ∀ (t : Tr) (lo : Int), 0 ≤ lo → (∀ i, lo ≤ i → i < lo + t_sz t → K' i = K i ∧ F' i = F i ∧ S' i = S i) → t_dc K F S V t lo → t_dc K' F' S' V' t lo
  | .num p, lo, h0, h, ⟨a, b, c, d⟩ => by
    obtain ⟨e1, e2, e3⟩ := h lo (by omega) (by show lo < lo + 1; omega)
    exact ⟨e1.trans a, e2.trans b, e3.trans c, (hV p (by omega)).trans d⟩
  | .neg x, lo, h0, h, d => dc_cg hV x lo h0 h d
  | .add a b, lo, h0, h, ⟨d1, d2, d3, d4, d5⟩ => by
    have s1 := sz_pos a
    have s2 := sz_pos b
    have e : t_sz (.add a b) = t_sz a + t_sz b + 1 := rfl
    rw [e] at h
    obtain ⟨e1, e2, e3⟩ := h (lo + t_sz a + t_sz b) (by omega) (by omega)
    exact ⟨dc_cg hV a lo h0 (fun i i0 i1 => h i i0 (by omega)) d1, dc_cg hV b _ (by omega) (fun i i0 i1 => h i (by omega) (by omega)) d2, e1.trans d3, e2.trans d4, e3.trans d5⟩
  | .mul a b, lo, h0, h, ⟨d1, d2, d3, d4, d5⟩ => by
    have s1 := sz_pos a
    have s2 := sz_pos b
    have e : t_sz (.mul a b) = t_sz a + t_sz b + 1 := rfl
    rw [e] at h
    obtain ⟨e1, e2, e3⟩ := h (lo + t_sz a + t_sz b) (by omega) (by omega)
    exact ⟨dc_cg hV a lo h0 (fun i i0 i1 => h i i0 (by omega)) d1, dc_cg hV b _ (by omega) (fun i i0 i1 => h i (by omega) (by omega)) d2, e1.trans d3, e2.trans d4, e3.trans d5⟩
/-- what is read so far: the frames of what is open (roads done, ends done), and of the innermost: roads done, ends done, the end just read; the pieces read -/
abbrev Gf : Type := Option Tr × Option Tr
abbrev Gs : Type := List Gf × Option Tr × Option Tr × Option Tr × (Int → Bool)
def g_ser (b : Option Tr) (c : Tr) : Tr := match b with
  | none => c
  | some b => .mul b c
def g_par (a : Option Tr) (c : Tr) : Tr := match a with
  | none => c
  | some a => .add a c
def g_0 : Gs := ([], none, none, none, fun _ => false)
/-- a character more: what is wrong with it, or the next -/
def g_st (np c : Int) (s : Gs) : Int ⊕ Gs :=
  if c = 32 then .inr s else
  match s.2.2.2.1 with
  | none =>
    if c = 40 then (if s.1.length = 8 then .inl 4 else .inr ((s.2.1, s.2.2.1) :: s.1, none, none, none, s.2.2.2.2))
    else if c - 97 < 0 ∨ 7 ≤ c - 97 then .inl 1
    else if np ≤ c - 97 then .inl 2
    else if s.2.2.2.2 (c - 97) then .inl 3
    else .inr (s.1, s.2.1, s.2.2.1, some (.num (c - 97)), fun k => if k = c - 97 then true else s.2.2.2.2 k)
  | some t =>
    if c = 41 then (match s.1 with
      | [] => .inl 1
      | f :: fs => .inr (fs, f.1, f.2, some (.neg (g_par s.2.1 (g_ser s.2.2.1 t))), s.2.2.2.2))
    else if c = 45 then .inr (s.1, s.2.1, some (g_ser s.2.2.1 t), none, s.2.2.2.2)
    else if c = 124 then .inr (s.1, some (g_par s.2.1 (g_ser s.2.2.1 t)), none, none, s.2.2.2.2)
    else .inl 1
def g_rn (np : Int) (ch : Int → Int) : Nat → Int ⊕ Gs := fun n => match n with
  | 0 => .inr g_0
  | n + 1 => match g_rn np ch n with
    | .inl e => .inl e
    | .inr s => match g_st np (ch n) s with
      | .inl e => .inl (10 * (n : Int) + e)
      | .inr s' => .inr s'
/-- the end: what is wrong, or the tree -/
def g_en (n : Int) (r : Int ⊕ Gs) : Int ⊕ Tr := match r with
  | .inl e => .inl e
  | .inr s => match s.2.2.2.1 with
    | none => .inl (10 * n + 1)
    | some t => if s.1.length = 0 then .inr (g_par s.2.1 (g_ser s.2.2.1 t)) else .inl (10 * n + 1)
def g_path (np : Int) (ch : Int → Int) (n : Int) : Int ⊕ Tr := g_en n (g_rn np ch n.toNat)
def g_fault (r : Int ⊕ Tr) : Int := match r with
  | .inl e => e
  | .inr _ => -1
/-- how many pieces are read -/
def g_ct (v : Int → Bool) : Int := (if v 0 then 1 else 0) + (if v 1 then 1 else 0) + (if v 2 then 1 else 0) + (if v 3 then 1 else 0) + (if v 4 then 1 else 0) + (if v 5 then 1 else 0) + (if v 6 then 1 else 0)
theorem ct_b (v : Int → Bool) : 0 ≤ g_ct v ∧ g_ct v ≤ 7 := by
  unfold g_ct
  constructor <;> (repeat' split) <;> omega
theorem ct_s {v : Int → Bool} {p : Int} (h0 : 0 ≤ p) (h1 : p < 7) (h : v p = false) : g_ct (fun k => if k = p then true else v k) = g_ct v + 1 := by
  unfold g_ct
  rcases (show p = 0 ∨ p = 1 ∨ p = 2 ∨ p = 3 ∨ p = 4 ∨ p = 5 ∨ p = 6 by omega) with rfl | rfl | rfl | rfl | rfl | rfl | rfl <;> simp [h] <;> omega
/-! the class's stack: the trees that wait, the last first; the signs between them -/
def l_sz : List Tr → Int := fun l => match l with
  | [] => 0
  | t :: r => l_sz r + t_sz t
theorem lsz_n : ∀ l : List Tr, 0 ≤ l_sz l
  | [] => by show (0 : Int) ≤ 0; omega
  | t :: r => by have := lsz_n r; have := sz_pos t; show 0 ≤ l_sz r + t_sz t; omega
def l_ly (K F S V E : Int → Int) : List Tr → Prop := fun l => match l with
  | [] => True
  | t :: r => l_ly K F S V E r ∧ t_dc K F S V t (l_sz r) ∧ E r.length = l_sz r + t_sz t - 1 ∧ t_ok t
def l_sg (G : Int → Int) : List Int → Prop := fun l => match l with
  | [] => True
  | c :: r => l_sg G r ∧ G r.length = c
theorem ly_cg {K F S V E K' F' S' V' E' : Int → Int} (hV : ∀ p, 0 ≤ V p → V' p = V p) : ∀ l : List Tr, (∀ i, 0 ≤ i → i < l_sz l → K' i = K i ∧ F' i = F i ∧ S' i = S i) → (∀ i : Int, 0 ≤ i → i < l.length → E' i = E i) → l_ly K F S V E l → l_ly K' F' S' V' E' l
  | [], _, _, _ => True.intro
  | t :: r, h, hE, ⟨d1, d2, d3, d4⟩ => by
    have e : l_sz (t :: r) = l_sz r + t_sz t := rfl
    have n := lsz_n r
    have p := sz_pos t
    rw [e] at h
    have el : ((t :: r).length : Int) = r.length + 1 := by rw [List.length_cons]; omega
    rw [el] at hE
    exact ⟨ly_cg hV r (fun i i0 i1 => h i i0 (by omega)) (fun i i0 i1 => hE i i0 (by omega)) d1, dc_cg hV t _ n (fun i i0 i1 => h i (by omega) (by omega)) d2, (hE _ (by omega) (by omega)).trans d3, d4⟩
theorem sg_cg {G G' : Int → Int} : ∀ l : List Int, (∀ i : Int, 0 ≤ i → i < l.length → G' i = G i) → l_sg G l → l_sg G' l
  | [], _, _ => True.intro
  | c :: r, h, ⟨d1, d2⟩ => by
    have el : ((c :: r).length : Int) = r.length + 1 := by rw [List.length_cons]; omega
    rw [el] at h
    exact ⟨sg_cg r (fun i i0 i1 => h i i0 (by omega)) d1, (h _ (by omega) (by omega)).trans d2⟩
/-- what waits is joined -/
def l_jn (flag : Bool) : List Int → List Tr → List Tr × List Int := fun G => match G with
  | [] => fun E => (E, [])
  | c :: H => fun E => match E with
    | b :: a :: r => if c = 40 ∨ (c = 124 ∧ flag = true) then (E, c :: H) else l_jn flag H ((if c = 45 then .mul a b else .add a b) :: r)
    | _ => (E, c :: H)
def o_l (o : Option Tr) : List Tr := match o with
  | none => []
  | some t => [t]
def o_g (o : Option Tr) (c : Int) : List Int := match o with
  | none => []
  | some _ => [c]
def f_e : List Gf → List Tr := fun l => match l with
  | [] => []
  | f :: fs => o_l f.2 ++ (o_l f.1 ++ f_e fs)
def f_g : List Gf → List Int := fun l => match l with
  | [] => []
  | f :: fs => 40 :: (o_g f.2 45 ++ (o_g f.1 124 ++ f_g fs))
def g_e (s : Gs) : List Tr := o_l s.2.2.2.1 ++ (o_l s.2.2.1 ++ (o_l s.2.1 ++ f_e s.1))
def g_g (s : Gs) : List Int := o_g s.2.2.1 45 ++ (o_g s.2.1 124 ++ f_g s.1)
theorem jn_fg (flag : Bool) (t : Tr) (fs : List Gf) : l_jn flag (f_g fs) (t :: f_e fs) = (t :: f_e fs, f_g fs) := by
  cases fs with
  | nil => rfl
  | cons f fs =>
    obtain ⟨H, hH⟩ : ∃ H, f_g (f :: fs) = 40 :: H := ⟨_, rfl⟩
    rw [hH]
    generalize f_e (f :: fs) = E
    cases E <;> simp [l_jn]
theorem jn_f (t : Tr) (A B : Option Tr) (fs : List Gf) : l_jn false (o_g B 45 ++ (o_g A 124 ++ f_g fs)) (t :: (o_l B ++ (o_l A ++ f_e fs))) = (g_par A (g_ser B t) :: f_e fs, f_g fs) := by
  cases B <;> cases A <;> simp [o_g, o_l, l_jn, g_par, g_ser, jn_fg]
theorem jn_t (t : Tr) (A B : Option Tr) (fs : List Gf) : l_jn true (o_g B 45 ++ (o_g A 124 ++ f_g fs)) (t :: (o_l B ++ (o_l A ++ f_e fs))) = (g_ser B t :: (o_l A ++ f_e fs), o_g A 124 ++ f_g fs) := by
  cases B <;> cases A <;> simp [o_g, o_l, l_jn, g_ser, jn_fg]
theorem jn_t2 (t : Tr) (A B : Option Tr) (fs : List Gf) (c : Int) : l_jn false (o_g B 45 ++ (o_g A 124 ++ f_g fs)) (t :: (o_l B ++ (o_l A ++ f_e fs))) = (g_par A (g_ser B t) :: f_e fs, f_g fs) := jn_f t A B fs
theorem fg_l : ∀ fs : List Gf, (f_g fs).length ≤ 3 * fs.length
  | [] => Nat.le_refl _
  | f :: fs => by
    have := fg_l fs
    obtain ⟨A, B⟩ := f
    cases A <;> cases B <;> simp [f_g, o_g] <;> omega
