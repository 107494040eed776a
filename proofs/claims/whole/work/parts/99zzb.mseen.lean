/-! what flows is bounded by the sources; the reference: allSeen -/
theorem cl_b1 {b x : Int} (hb : 0 ≤ b) (h : 0 ≤ x) : 0 ≤ c_l b x ∧ c_l b x ≤ x := by unfold c_l; omega
theorem cl_b2 {b x : Int} (hb : 0 ≤ b) (h : x ≤ 0) : x ≤ c_l b x ∧ c_l b x ≤ 0 := by unfold c_l; omega
theorem cy_up {f fl : Int → Int} {n t p w x : Int} (hW : WF n f fl) (hp : 0 ≤ p ∧ p < f 0) (ht : 0 ≤ t ∧ t < 24) (hw : 0 ≤ w) : (0 ≤ x → 0 ≤ c_y f t p w x ∧ c_y f t p w x ≤ 200 * x) ∧ (x ≤ 0 → 200 * x ≤ c_y f t p w x ∧ c_y f t p w x ≤ 0) := by
  unfold c_y
  split
  · rename_i hg
    have g := hW.2.2.2.1 p t hp.1 hp.2 ht.1 ht.2 hg
    refine ⟨fun h => ⟨Int.mul_nonneg (by omega) h, Int.mul_le_mul_of_nonneg_right g.2 h⟩, fun h => ⟨Int.mul_le_mul_of_nonpos_right g.2 h, ?_⟩⟩
    exact Int.mul_nonpos_of_nonneg_of_nonpos (by omega) h
  · have r := row_b hW hp.1 hp.2
    have b1 := Int.mul_nonneg r.2.1.1 hw
    have b2 := Int.mul_nonneg r.2.2.2.1.1 hw
    generalize f (12 + 12 * p) * w = u1 at *
    generalize f (14 + 12 * p) * w = u2 at *
    obtain ⟨s, hs⟩ : ∃ s, s = f (15 + 12 * p) := ⟨_, rfl⟩
    obtain ⟨k, hk⟩ : ∃ k, k = f (13 + 12 * p) - f (15 + 12 * p) := ⟨_, rfl⟩
    obtain ⟨m, hm⟩ : ∃ m, m = f (11 + 12 * p) - f (13 + 12 * p) := ⟨_, rfl⟩
    rw [← hk, ← hm, ← hs]
    have s0 : 0 ≤ s := by omega
    have k0 : 0 ≤ k := by omega
    have m0 : 0 ≤ m := by omega
    have all : s + k + m ≤ 200 := by omega
    have e : s * x + k * x + m * x = (s + k + m) * x := by grind
    refine ⟨fun h => ?_, fun h => ?_⟩
    · have c1 := cl_b1 b1 h
      have c2 := cl_b1 b2 h
      have a1 := Int.mul_nonneg s0 h
      have a2 := Int.mul_nonneg k0 c2.1
      have a3 := Int.mul_nonneg m0 c1.1
      have a4 := Int.mul_le_mul_of_nonneg_left c2.2 k0
      have a5 := Int.mul_le_mul_of_nonneg_left c1.2 m0
      have a6 := Int.mul_le_mul_of_nonneg_right all h
      omega
    · have c1 := cl_b2 b1 h
      have c2 := cl_b2 b2 h
      have a1 := Int.mul_nonpos_of_nonneg_of_nonpos s0 h
      have a2 := Int.mul_nonpos_of_nonneg_of_nonpos k0 c2.2
      have a3 := Int.mul_nonpos_of_nonneg_of_nonpos m0 c1.2
      have a4 := Int.mul_le_mul_of_nonneg_left c2.1 k0
      have a5 := Int.mul_le_mul_of_nonneg_left c1.1 m0
      have a6 := Int.mul_le_mul_of_nonpos_right all h
      omega
theorem cy_200 {f fl : Int → Int} {n t p w x : Int} (hW : WF n f fl) (hp : 0 ≤ p ∧ p < f 0) (ht : 0 ≤ t ∧ t < 24) (hw : 0 ≤ w) : c_y f t p w x * c_y f t p w x ≤ 200 * x * c_y f t p w x := by
  have u := cy_up (x := x) hW hp ht hw
  rcases Int.le_total 0 x with h | h
  · exact Int.mul_le_mul_of_nonneg_right (u.1 h).2 (u.1 h).1
  · exact Int.mul_le_mul_of_nonpos_right (u.2 h).1 (u.2 h).2
theorem tl_one {g : Int → Int} : ∀ T : Tr, (∀ p, t_in T p → 0 ≤ g p) → ∀ p, t_in T p → g p ≤ t_tl g T
  | .num p, h => fun q hq => by have hq : q = p := hq; subst hq; exact Int.le_refl _
  | .neg x, h => tl_one x h
  | .add a b, h => by
    have ka := (tl_nn a (fun p hp => h p (Or.inl hp))).1
    have kb := (tl_nn b (fun p hp => h p (Or.inr hp))).1
    have e : t_tl g (.add a b) = t_tl g a + t_tl g b := rfl
    intro p hp
    rcases hp with q | q
    · have := tl_one a (fun p hp => h p (Or.inl hp)) p q; omega
    · have := tl_one b (fun p hp => h p (Or.inr hp)) p q; omega
  | .mul a b, h => by
    have ka := (tl_nn a (fun p hp => h p (Or.inl hp))).1
    have kb := (tl_nn b (fun p hp => h p (Or.inr hp))).1
    have e : t_tl g (.mul a b) = t_tl g a + t_tl g b := rfl
    intro p hp
    rcases hp with q | q
    · have := tl_one a (fun p hp => h p (Or.inl hp)) p q; omega
    · have := tl_one b (fun p hp => h p (Or.inr hp)) p q; omega
  | .natCast _, _ => fun _ h => h.elim
  | .intCast _, _ => fun _ h => h.elim
  | .var _, _ => fun _ h => h.elim
  | .sub _ _, _ => fun _ h => h.elim
  | .pow _ _, _ => fun _ h => h.elim
theorem tl_add {g h : Int → Int} : ∀ T : Tr, t_tl (fun p => g p + h p) T = t_tl g T + t_tl h T
  | .num p => rfl
  | .neg x => tl_add x
  | .add a b => by
    show t_tl _ a + t_tl _ b = (t_tl g a + t_tl g b) + (t_tl h a + t_tl h b)
    rw [tl_add a, tl_add b]; omega
  | .mul a b => by
    show t_tl _ a + t_tl _ b = (t_tl g a + t_tl g b) + (t_tl h a + t_tl h b)
    rw [tl_add a, tl_add b]; omega
  | .natCast _ => rfl
  | .intCast _ => rfl
  | .var _ => rfl
  | .sub _ _ => rfl
  | .pow _ _ => rfl
theorem r_fb {f fl X F : Int → Int} {n t w : Int} {T : Tr} (hW : WF n f fl) (ht : 0 ≤ t ∧ t < 24) (hk : Tk f T) (h : r_at f t T w X F) : ∀ p, t_in T p → -(10080000 * w) ≤ F p ∧ F p ≤ 10080000 * w := by
  obtain ⟨w0, ⟨f0, hn⟩, hy⟩ := h
  have z : t_tl (fun p => (X p - cw_so f p 4 * w) * F p) T = 0 := by rw [nt_tl T _ _ _ _ hn hn, Int.zero_mul]
  obtain ⟨c, hc⟩ : ∃ c, c = 5040000 * w := ⟨_, rfl⟩
  have hl : (t_lv T : Int) ≤ 7 := by have := lv_7 hk.2.2.1; omega
  -- 4 (F F - b F) + c c
  have G0 : ∀ p, t_in T p → 0 ≤ 4 * (F p * F p - 200 * (cw_so f p 4 * w) * F p) + c * c := by
    intro p hp
    have q := hk.2.2.2 p hp
    have so := so_b hW q.1 q.2.2
    have b1 : cw_so f p 4 * w ≤ 25200 * w := Int.mul_le_mul_of_nonneg_right so.2 (by omega)
    have b2 : -25200 * w ≤ cw_so f p 4 * w := Int.mul_le_mul_of_nonneg_right so.1 (by omega)
    generalize cw_so f p 4 * w = v at *
    have e : 4 * (F p * F p - 200 * v * F p) + c * c = (2 * F p - 200 * v) * (2 * F p - 200 * v) + (c - 200 * v) * (c + 200 * v) := by grind
    have s1 : 0 ≤ (2 * F p - 200 * v) * (2 * F p - 200 * v) := by
      rcases Int.le_total 0 (2 * F p - 200 * v) with y | y
      · exact Int.mul_nonneg y y
      · exact Int.mul_nonneg_of_nonpos_of_nonpos y y
    have s2 := Int.mul_nonneg (show 0 ≤ c - 200 * v by omega) (show 0 ≤ c + 200 * v by omega)
    omega
  have cc : 0 ≤ c * c := Int.mul_nonneg (by omega) (by omega)
  have up : t_tl (fun p => 4 * (F p * F p - 200 * (cw_so f p 4 * w) * F p) + c * c) T ≤ 7 * (c * c) := by
    have dn : 0 ≤ t_tl (fun p => (800 * ((X p - cw_so f p 4 * w) * F p) + c * c) + -1 * (4 * (F p * F p - 200 * (cw_so f p 4 * w) * F p) + c * c)) T := by
      refine (tl_nn T (fun p hp => ?_)).1
      have q := hk.2.2.2 p hp
      have y := cy_200 (x := X p) hW ⟨q.1, q.2.1⟩ ht (show 0 ≤ w by omega)
      rw [← hy p hp] at y
      have e : (800 * ((X p - cw_so f p 4 * w) * F p) + c * c) + -1 * (4 * (F p * F p - 200 * (cw_so f p 4 * w) * F p) + c * c) = 4 * (200 * X p * F p - F p * F p) := by grind
      show 0 ≤ (800 * ((X p - cw_so f p 4 * w) * F p) + c * c) + -1 * (4 * (F p * F p - 200 * (cw_so f p 4 * w) * F p) + c * c)
      rw [e]; omega
    rw [tl_add (g := fun p => 800 * ((X p - cw_so f p 4 * w) * F p) + c * c) (h := fun p => -1 * (4 * (F p * F p - 200 * (cw_so f p 4 * w) * F p) + c * c)), tl_k (g := fun p => 4 * (F p * F p - 200 * (cw_so f p 4 * w) * F p) + c * c), tl_add (g := fun p => 800 * ((X p - cw_so f p 4 * w) * F p)) (h := fun _ => c * c), tl_k (g := fun p => (X p - cw_so f p 4 * w) * F p), z] at dn
    have b := (tl_b cc T (h := fun _ => c * c) (fun p _ => ⟨by omega, Int.le_refl _⟩)).2
    have b7 : (t_lv T : Int) * (c * c) ≤ 7 * (c * c) := Int.mul_le_mul_of_nonneg_right hl cc
    omega
  intro p hp
  have one : 4 * (F p * F p - 200 * (cw_so f p 4 * w) * F p) + c * c ≤ 7 * (c * c) := Int.le_trans (tl_one T (g := fun p => 4 * (F p * F p - 200 * (cw_so f p 4 * w) * F p) + c * c) G0 p hp) up
  have q := hk.2.2.2 p hp
  have so := so_b hW q.1 q.2.2
  have b1 : cw_so f p 4 * w ≤ 25200 * w := Int.mul_le_mul_of_nonneg_right so.2 (by omega)
  have b2 : -25200 * w ≤ cw_so f p 4 * w := Int.mul_le_mul_of_nonneg_right so.1 (by omega)
  generalize cw_so f p 4 * w = v at *
  have c0 : 0 < c := by omega
  have big : ∀ y : Int, 2 * c < y → 2 * c * c < y * (y - c) := fun y hy => by
    have h1 : 2 * c * c < y * c := Int.mul_lt_mul_of_pos_right hy c0
    have h2 : y * c ≤ y * (y - c) := Int.mul_le_mul_of_nonneg_left (by omega) (by omega)
    omega
  have e2 : 2 * c * c = 2 * (c * c) := by grind
  refine ⟨?_, ?_⟩
  · rcases Int.lt_or_le (F p) (-(10080000 * w)) with y | y
    · have h := big (-F p) (by omega)
      have h2 : (-F p) * (-F p - c) ≤ (-F p) * (-F p + 200 * v) := Int.mul_le_mul_of_nonneg_left (by omega) (by omega)
      have e : (-F p) * (-F p + 200 * v) = F p * F p - 200 * v * F p := by grind
      omega
    · exact y
  · rcases Int.lt_or_le (10080000 * w) (F p) with y | y
    · have h := big (F p) (by omega)
      have h2 : F p * (F p - c) ≤ F p * (F p - 200 * v) := Int.mul_le_mul_of_nonneg_left (by omega) (by omega)
      have e : F p * (F p - 200 * v) = F p * F p - 200 * v * F p := by grind
      omega
    · exact y
theorem fl_q {a w : Int} (hw : 0 < w) (h : -(10080000 * w) ≤ a ∧ a ≤ 10080000 * w) : cw_fl a w = a / w := by
  have h1 : -10080000 ≤ a / w := (Int.le_ediv_iff_mul_le hw).mpr (by omega)
  have h2 : a / w < 10080001 := (Int.ediv_lt_iff_lt_mul hw).mpr (by omega)
  unfold cw_fl
  generalize a / w = e at *
  omega
theorem ft_fl {T : Tr} {p v w : Int} {F : Int → Int} (hp : t_in T p) (hw : 0 < w) (hb : -(10080000 * w) ≤ F p ∧ F p ≤ 10080000 * w) : c_ft T p v w F ↔ cw_fl (F p) w = v := by
  rw [fl_q hw hb]
  have a := Int.le_ediv_iff_mul_le (a := v) (b := F p) hw
  have b := Int.ediv_lt_iff_lt_mul (a := F p) (b := v + 1) hw
  have e : (v + 1) * w = v * w + w := by grind
  rw [e] at b
  unfold c_ft
  generalize F p / w = y at *
  generalize v * w = z at *
  refine ⟨fun h => ?_, fun h => ⟨fun _ => ?_, fun n => absurd hp n⟩⟩
  · have := h.1 hp
    omega
  · omega
