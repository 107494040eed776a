/-! THE REST: what pieces carry, and that there is but one -/
def c_l (b x : Int) : Int := max (-b) (min x b)
theorem cl_mo {b x y : Int} (h : x ≤ y) : c_l b x ≤ c_l b y := by unfold c_l; omega
theorem cl_k {b x k : Int} (h : 0 < k) : c_l (k * b) (k * x) = k * c_l b x := by
  unfold c_l
  have m : ∀ u v : Int, u ≤ v ↔ k * u ≤ k * v := fun u v => ⟨fun q => Int.mul_le_mul_of_nonneg_left q (by omega), fun q => Int.le_of_mul_le_mul_left q h⟩
  have e1 : min (k * x) (k * b) = k * min x b := by
    by_cases q : x ≤ b
    · have := (m x b).mp q; rw [show min x b = x by omega]; omega
    · have := (m b x).mp (by omega); rw [show min x b = b by omega]; omega
  rw [e1, ← Int.mul_neg]
  by_cases q : -b ≤ min x b
  · have := (m (-b) (min x b)).mp q; rw [show max (-b) (min x b) = min x b by omega]; omega
  · have := (m (min x b) (-b)).mp (by omega); rw [show max (-b) (min x b) = -b by omega]; omega
/-- what a piece carries of a push x above w, above w, at a turn -/
def c_y (f : Int → Int) (t p w x : Int) : Int := if f (10 + 12 * p) = 1 then f (100 + 24 * p + t) * x else f (15 + 12 * p) * x + (f (13 + 12 * p) - f (15 + 12 * p)) * c_l (f (14 + 12 * p) * w) x + (f (11 + 12 * p) - f (13 + 12 * p)) * c_l (f (12 + 12 * p) * w) x
theorem cy_k {f : Int → Int} {t p w x k : Int} (h : 0 < k) : c_y f t p (k * w) (k * x) = k * c_y f t p w x := by
  unfold c_y
  split
  · grind
  · rw [show f (14 + 12 * p) * (k * w) = k * (f (14 + 12 * p) * w) by grind, show f (12 + 12 * p) * (k * w) = k * (f (12 + 12 * p) * w) by grind, cl_k h, cl_k h]
    grind
theorem cy_mo {f fl : Int → Int} {n t p w x y : Int} (hW : WF n f fl) (hp : 0 ≤ p ∧ p < f 0) (ht : 0 ≤ t ∧ t < 24) (h : x ≤ y) : y - x ≤ c_y f t p w y - c_y f t p w x := by
  unfold c_y
  split
  · rename_i hg
    have g := hW.2.2.2.1 p t hp.1 hp.2 ht.1 ht.2 hg
    have e : f (100 + 24 * p + t) * y - f (100 + 24 * p + t) * x = f (100 + 24 * p + t) * (y - x) := by grind
    rw [e]
    have := Int.mul_le_mul_of_nonneg_right (show 1 ≤ f (100 + 24 * p + t) by omega) (show 0 ≤ y - x by omega)
    omega
  · rename_i hg
    have g : cw_ir f p := (hW.2.1 p hp.1 hp.2).resolve_left (fun z => hg z.1)
    unfold cw_ir at g
    have m1 := cl_mo (b := f (14 + 12 * p) * w) h
    have m2 := cl_mo (b := f (12 + 12 * p) * w) h
    have k1 := Int.mul_le_mul_of_nonneg_right (show 1 ≤ f (15 + 12 * p) by omega) (show 0 ≤ y - x by omega)
    have k2 := Int.mul_nonneg (show 0 ≤ f (13 + 12 * p) - f (15 + 12 * p) by omega) (show 0 ≤ c_l (f (14 + 12 * p) * w) y - c_l (f (14 + 12 * p) * w) x by omega)
    have k3 := Int.mul_nonneg (show 0 ≤ f (11 + 12 * p) - f (13 + 12 * p) by omega) (show 0 ≤ c_l (f (12 + 12 * p) * w) y - c_l (f (12 + 12 * p) * w) x by omega)
    have e : f (15 + 12 * p) * y + (f (13 + 12 * p) - f (15 + 12 * p)) * c_l (f (14 + 12 * p) * w) y + (f (11 + 12 * p) - f (13 + 12 * p)) * c_l (f (12 + 12 * p) * w) y - (f (15 + 12 * p) * x + (f (13 + 12 * p) - f (15 + 12 * p)) * c_l (f (14 + 12 * p) * w) x + (f (11 + 12 * p) - f (13 + 12 * p)) * c_l (f (12 + 12 * p) * w) x) = f (15 + 12 * p) * (y - x) + (f (13 + 12 * p) - f (15 + 12 * p)) * (c_l (f (14 + 12 * p) * w) y - c_l (f (14 + 12 * p) * w) x) + (f (11 + 12 * p) - f (13 + 12 * p)) * (c_l (f (12 + 12 * p) * w) y - c_l (f (12 + 12 * p) * w) x) := by grind
    rw [e]
    omega
/-- a rest above w: pushes and flows of the pieces of a tree at a turn -/
def r_at (f : Int → Int) (t : Int) (T : Tr) (w : Int) (X F : Int → Int) : Prop := 0 < w ∧ (∃ f0, t_nt (fun p => X p - cw_so f p 4 * w) F T 0 f0) ∧ ∀ p, t_in T p → F p = c_y f t p w (X p)
theorem nt_k {D F : Int → Int} {k : Int} : ∀ (T : Tr) (d f : Int), t_nt D F T d f → t_nt (fun p => k * D p) (fun p => k * F p) T (k * d) (k * f)
  | .num p, d, f, ⟨h1, h2⟩ => ⟨by show k * D p = _; rw [h1], by show k * F p = _; rw [h2]⟩
  | .neg x, d, f, h => nt_k x d f h
  | .add a b, d, f, ⟨fa, fb, h1, h2, h3⟩ => ⟨k * fa, k * fb, by rw [← h1]; grind, nt_k a _ _ h2, nt_k b _ _ h3⟩
  | .mul a b, d, f, ⟨fa, fb, h1, h2, h3⟩ => ⟨k * fa, k * fb, by rw [← h1]; grind, nt_k a _ _ h2, nt_k b _ _ h3⟩
theorem nt_d {D F D' F' : Int → Int} : ∀ (T : Tr) (d f d' f' : Int), t_nt D F T d f → t_nt D' F' T d' f' → t_nt (fun p => D p - D' p) (fun p => F p - F' p) T (d - d') (f - f')
  | .num p, d, f, d', f', ⟨h1, h2⟩, ⟨k1, k2⟩ => ⟨by show D p - D' p = _; rw [h1, k1], by show F p - F' p = _; rw [h2, k2]⟩
  | .neg x, d, f, d', f', h, k => nt_d x d f d' f' h k
  | .add a b, d, f, d', f', ⟨fa, fb, h1, h2, h3⟩, ⟨ka, kb, k1, k2, k3⟩ => ⟨fa - ka, fb - kb, by omega, nt_d a _ _ _ _ h2 k2, nt_d b _ _ _ _ h3 k3⟩
  | .mul a b, d, f, d', f', ⟨fa, fb, h1, h2, h3⟩, ⟨ka, kb, k1, k2, k3⟩ => ⟨fa - ka, fb - kb, by omega, nt_d a _ _ _ _ h2 k2, nt_d b _ _ _ _ h3 k3⟩
theorem tl_nn {g : Int → Int} : ∀ T : Tr, (∀ p, t_in T p → 0 ≤ g p) → 0 ≤ t_tl g T ∧ (t_tl g T = 0 → ∀ p, t_in T p → g p = 0)
  | .num p, h => ⟨h p rfl, fun e q hq => by have hq : q = p := hq; subst hq; exact e⟩
  | .neg x, h => tl_nn x h
  | .add a b, h => by
    have ka := tl_nn a (fun p hp => h p (Or.inl hp))
    have kb := tl_nn b (fun p hp => h p (Or.inr hp))
    have e : t_tl g (.add a b) = t_tl g a + t_tl g b := rfl
    exact ⟨by omega, fun z p hp => hp.elim (fun q => ka.2 (by omega) p q) (fun q => kb.2 (by omega) p q)⟩
  | .mul a b, h => by
    have ka := tl_nn a (fun p hp => h p (Or.inl hp))
    have kb := tl_nn b (fun p hp => h p (Or.inr hp))
    have e : t_tl g (.mul a b) = t_tl g a + t_tl g b := rfl
    exact ⟨by omega, fun z p hp => hp.elim (fun q => ka.2 (by omega) p q) (fun q => kb.2 (by omega) p q)⟩
  | .natCast _, _ => ⟨Int.le_refl _, fun _ _ h => h.elim⟩
  | .intCast _, _ => ⟨Int.le_refl _, fun _ _ h => h.elim⟩
  | .var _, _ => ⟨Int.le_refl _, fun _ _ h => h.elim⟩
  | .sub _ _, _ => ⟨Int.le_refl _, fun _ _ h => h.elim⟩
  | .pow _ _, _ => ⟨Int.le_refl _, fun _ _ h => h.elim⟩
theorem nt_c {D F D' F' : Int → Int} : ∀ (T : Tr) (d f : Int), (∀ p, t_in T p → D' p = D p ∧ F' p = F p) → t_nt D F T d f → t_nt D' F' T d f
  | .num p, d, f, h, ⟨h1, h2⟩ => ⟨(h p rfl).1.trans h1, (h p rfl).2.trans h2⟩
  | .neg x, d, f, h, k => nt_c x d f h k
  | .add a b, d, f, h, ⟨fa, fb, h1, h2, h3⟩ => ⟨fa, fb, h1, nt_c a _ _ (fun p hp => h p (Or.inl hp)) h2, nt_c b _ _ (fun p hp => h p (Or.inr hp)) h3⟩
  | .mul a b, d, f, h, ⟨fa, fb, h1, h2, h3⟩ => ⟨fa, fb, h1, nt_c a _ _ (fun p hp => h p (Or.inl hp)) h2, nt_c b _ _ (fun p hp => h p (Or.inr hp)) h3⟩
/-- THERE IS JUST ONE -/
theorem r_un {f fl : Int → Int} {n t w w' : Int} {T : Tr} {X F X' F' : Int → Int} (hW : WF n f fl) (ht : 0 ≤ t ∧ t < 24) (hT : ∀ q, t_in T q → 0 ≤ q ∧ q < f 0) (h : r_at f t T w X F) (k : r_at f t T w' X' F') : ∀ p, t_in T p → w' * X p = w * X' p ∧ w' * F p = w * F' p := by
  obtain ⟨w0, ⟨f0, hn⟩, hF⟩ := h
  obtain ⟨v0, ⟨f1, kn⟩, kF⟩ := k
  have a := nt_k (k := w') T _ _ hn
  have b := nt_k (k := w) T _ _ kn
  rw [Int.mul_zero] at a b
  have c := nt_d T _ _ _ _ a b
  have hF' : ∀ p, t_in T p → w' * F p = c_y f t p (w' * w) (w' * X p) := fun p hp => by rw [hF p hp, cy_k v0]
  have kF' : ∀ p, t_in T p → w * F' p = c_y f t p (w' * w) (w * X' p) := fun p hp => by rw [kF p hp, Int.mul_comm w' w, cy_k w0]
  have c2 : t_nt (fun p => w' * X p - w * X' p) (fun p => w' * F p - w * F' p) T (0 - 0) (w' * f0 - w * f1) := by
    refine nt_c T _ _ (fun p hp => ⟨?_, rfl⟩) c
    show w' * X p - w * X' p = w' * (X p - cw_so f p 4 * w) - w * (X' p - cw_so f p 4 * w')
    grind
  have tl := nt_tl T _ _ _ _ c2 c2
  rw [Int.sub_zero, Int.zero_mul] at tl
  have tm : ∀ p, t_in T p → 0 ≤ (w' * X p - w * X' p) * (w' * F p - w * F' p) ∧ ((w' * X p - w * X' p) * (w' * F p - w * F' p) = 0 → w' * X p = w * X' p) := by
    intro p hp
    rw [hF' p hp, kF' p hp]
    generalize w' * X p = x
    generalize w * X' p = y
    have hp2 := hT p hp
    by_cases q : x ≤ y
    · have m := cy_mo (w := w' * w) hW hp2 ht q
      have e : (x - y) * (c_y f t p (w' * w) x - c_y f t p (w' * w) y) = (y - x) * (c_y f t p (w' * w) y - c_y f t p (w' * w) x) := by grind
      rw [e]
      refine ⟨Int.mul_nonneg (by omega) (by omega), fun z => ?_⟩
      rcases Int.mul_eq_zero.mp z with z | z <;> omega
    · have m := cy_mo (w := w' * w) hW hp2 ht (show y ≤ x by omega)
      refine ⟨Int.mul_nonneg (by omega) (by omega), fun z => ?_⟩
      rcases Int.mul_eq_zero.mp z with z | z <;> omega
  have nn := tl_nn T (fun p hp => (tm p hp).1)
  intro p hp
  have ex := (tm p hp).2 (nn.2 tl p hp)
  exact ⟨ex, by rw [hF' p hp, kF' p hp, ex]⟩
