/-! the class: joinUp -/
/-- the values of a tree's nodes: p, q, r above them -/
def t_va (A B : Int → Int) (C : Int → Int → Prop) (s e : Int → Int) : Tr → Int → Prop := fun t => match t with
  | .num p => fun lo => A lo = s p ∧ B lo = 1 ∧ C lo (e p)
  | .neg x => fun lo => t_va A B C s e x lo
  | .add a b => fun lo => t_va A B C s e a lo ∧ t_va A B C s e b (lo + t_sz a) ∧ A (lo + t_sz a + t_sz b) = (t_pq s (.add a b)).1 ∧ B (lo + t_sz a + t_sz b) = (t_pq s (.add a b)).2 ∧ C (lo + t_sz a + t_sz b) (t_r s e (.add a b))
  | .mul a b => fun lo => t_va A B C s e a lo ∧ t_va A B C s e b (lo + t_sz a) ∧ A (lo + t_sz a + t_sz b) = (t_pq s (.mul a b)).1 ∧ B (lo + t_sz a + t_sz b) = (t_pq s (.mul a b)).2 ∧ C (lo + t_sz a + t_sz b) (t_r s e (.mul a b))
  | _ => fun _ => False
theorem va_cg {A B A' B' : Int → Int} {C C' : Int → Int → Prop} {s e : Int → Int} : ∀ (t : Tr) (lo : Int), (∀ i, lo ≤ i → i < lo + t_sz t → A' i = A i ∧ B' i = B i ∧ ∀ v, C i v → C' i v) → t_va A B C s e t lo → t_va A' B' C' s e t lo
  | .num p, lo, h, ⟨a, b, c⟩ => by
    obtain ⟨e1, e2, e3⟩ := h lo (by omega) (by show lo < lo + 1; omega)
    exact ⟨e1.trans a, e2.trans b, e3 _ c⟩
  | .neg x, lo, h, d => va_cg x lo h d
  | .add a b, lo, h, ⟨d1, d2, d3, d4, d5⟩ => by
    have s1 := sz_pos a
    have s2 := sz_pos b
    have q : t_sz (.add a b) = t_sz a + t_sz b + 1 := rfl
    rw [q] at h
    obtain ⟨e1, e2, e3⟩ := h (lo + t_sz a + t_sz b) (by omega) (by omega)
    exact ⟨va_cg a lo (fun i i0 i1 => h i i0 (by omega)) d1, va_cg b _ (fun i i0 i1 => h i (by omega) (by omega)) d2, e1.trans d3, e2.trans d4, e3 _ d5⟩
  | .mul a b, lo, h, ⟨d1, d2, d3, d4, d5⟩ => by
    have s1 := sz_pos a
    have s2 := sz_pos b
    have q : t_sz (.mul a b) = t_sz a + t_sz b + 1 := rfl
    rw [q] at h
    obtain ⟨e1, e2, e3⟩ := h (lo + t_sz a + t_sz b) (by omega) (by omega)
    exact ⟨va_cg a lo (fun i i0 i1 => h i i0 (by omega)) d1, va_cg b _ (fun i i0 i1 => h i (by omega) (by omega)) d2, e1.trans d3, e2.trans d4, e3 _ d5⟩
/-- the root's values -/
theorem va_rt {A B : Int → Int} {C : Int → Int → Prop} {s e : Int → Int} : ∀ (t : Tr) (lo : Int), t_va A B C s e t lo → A (lo + t_sz t - 1) = (t_pq s t).1 ∧ B (lo + t_sz t - 1) = (t_pq s t).2 ∧ C (lo + t_sz t - 1) (t_r s e t)
  | .num p, lo, ⟨a, b, c⟩ => by
    have q : lo + t_sz (.num p) - 1 = lo := by show lo + 1 - 1 = lo; omega
    rw [q]; exact ⟨a, b, c⟩
  | .neg x, lo, h => va_rt x lo h
  | .add a b, lo, ⟨_, _, d3, d4, d5⟩ => by
    have q : lo + t_sz (.add a b) - 1 = lo + t_sz a + t_sz b := by show lo + (t_sz a + t_sz b + 1) - 1 = _; omega
    rw [q]; exact ⟨d3, d4, d5⟩
  | .mul a b, lo, ⟨_, _, d3, d4, d5⟩ => by
    have q : lo + t_sz (.mul a b) - 1 = lo + t_sz a + t_sz b := by show lo + (t_sz a + t_sz b + 1) - 1 = _; omega
    rw [q]; exact ⟨d3, d4, d5⟩
/-- only cells of A may differ -/
def Fg (A : Int → Prop) (M M' : cw_M) : Prop := Sh M' ∧ ∀ a, ¬ A a → M' a = M a
theorem Fg.tr {A : Int → Prop} {M M1 M2 : cw_M} (h : Fg A M M1) (k : Fg A M1 M2) : Fg A M M2 := ⟨k.1, fun a ha => (k.2 a ha).trans (h.2 a ha)⟩
theorem Fg.mo {A B : Int → Prop} {M M1 : cw_M} (h : Fg A M M1) (k : ∀ a, A a → B a) : Fg B M M1 := ⟨h.1, fun a ha => h.2 a (fun q => ha (k a q))⟩
theorem Fg.rf {A : Int → Prop} {M : cw_M} (h : Sh M) : Fg A M M := ⟨h, fun _ _ => rfl⟩
theorem fg_fr {A : Int → Prop} {M M1 : cw_M} (hS : Sh M) (h : cw_fr A M M1) : Fg A M M1 := ⟨hS.fr h, h.1⟩
theorem fg_up {A : Int → Prop} {M M1 : cw_M} {a k v : Int} (h : Fg A M M1) (ha : A a) (hr : cw_rs a k = false) : Fg A M (cw_up M1 a k v) := ⟨h.1.up hr, fun b hb => by rw [cw_up_ne (fun q => hb (by rw [q]; exact ha))]; exact h.2 b hb⟩
def Aj (a : Int) : Prop := a = 170 ∨ a = 171 ∨ (173 ≤ a ∧ a < 199) ∨ (268 ≤ a ∧ a ≤ 271)
/-- nodes below hi keep their values -/
def Vk (M M' : cw_M) (hi : Int) : Prop := ∀ i : Int, 0 ≤ i → i < hi → M' 170 i = M 170 i ∧ M' 171 i = M 171 i ∧ M' (173 + 2 * i) = M (173 + 2 * i) ∧ M' (174 + 2 * i) = M (174 + 2 * i)
theorem Vk.tr {M M1 M2 : cw_M} {hi : Int} (h : Vk M M1 hi) (k : Vk M1 M2 hi) : Vk M M2 hi := fun i i0 i1 => by
  obtain ⟨a1, a2, a3, a4⟩ := h i i0 i1
  obtain ⟨b1, b2, b3, b4⟩ := k i i0 i1
  exact ⟨b1.trans a1, b2.trans a2, b3.trans a3, b4.trans a4⟩
theorem Vk.mo {M M1 : cw_M} {hi lo : Int} (h : Vk M M1 hi) (k : lo ≤ hi) : Vk M M1 lo := fun i i0 i1 => h i i0 (by omega)
def m_va (M : cw_M) (s e : Int → Int) (t : Tr) (lo : Int) : Prop := t_va (M 170) (M 171) (fun i v => RW M (173 + 2 * i) v) s e t lo
theorem va_k {M M' : cw_M} {s e : Int → Int} {t : Tr} {lo hi : Int} (h : Vk M M' hi) (h0 : 0 ≤ lo) (h1 : lo + t_sz t ≤ hi) (k : m_va M s e t lo) : m_va M' s e t lo :=
  va_cg t lo (fun i i0 i1 => by
    obtain ⟨a1, a2, a3, a4⟩ := h i (by omega) (by omega)
    exact ⟨a1, a2, fun v hv => hv.cg a3 (by rw [show (173 : Int) + 2 * i + 1 = 174 + 2 * i by omega]; exact a4)⟩) k
/-- what the reading left, and the lines of the pieces -/
def J_in (M : cw_M) (s e : Int → Int) (N np : Int) : Prop := M 148 2 = 141 ∧ M 141 0 = N ∧ N ≤ 13 ∧ s_ok s ∧ e_ok e ∧ ∀ p : Int, 0 ≤ p → p < np → M 168 p = s p ∧ M 168 p * M 166 p + M 169 p = e p ∧ in32 (M 166 p)
theorem J_in.cg {M M' : cw_M} {s e : Int → Int} {N np : Int} (h : J_in M s e N np) (k : ∀ a, ¬ Aj a → M' a = M a) : J_in M' s e N np := by
  have n : ∀ a : Int, a = 148 ∨ a = 141 ∨ a = 166 ∨ a = 168 ∨ a = 169 → M' a = M a := fun a ha => k a (fun q => by have q : a = 170 ∨ a = 171 ∨ (173 ≤ a ∧ a < 199) ∨ (268 ≤ a ∧ a ≤ 271) := q; omega)
  obtain ⟨h1, h2, h3, h4, h5, h6⟩ := h
  unfold J_in
  rw [n 148 (by omega), n 141 (by omega), n 166 (by omega), n 168 (by omega), n 169 (by omega)]
  exact ⟨h1, h2, h3, h4, h5, h6⟩
