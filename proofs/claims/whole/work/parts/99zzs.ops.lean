/-! the calls of the rest, on both sides -/
theorem Tk.f0 {f : Int → Int} {T : Tr} (h : Tk f T) : ∀ q, t_in T q → 0 ≤ q ∧ q < f 0 := fun q hq => ⟨(h.2.2.2 q hq).1, (h.2.2.2 q hq).2.1⟩
theorem cy_lo {f fl : Int → Int} {n t p w x : Int} (hW : WF n f fl) (hp : 0 ≤ p ∧ p < f 0) (ht : 0 ≤ t ∧ t < 24) (hw : 0 ≤ w) : (0 ≤ x → x ≤ c_y f t p w x) ∧ (x ≤ 0 → c_y f t p w x ≤ x) := by
  have u := cy_up (x := 0) hW hp ht hw
  have z : c_y f t p w 0 = 0 := by have a := u.1 (Int.le_refl 0); have b := u.2 (Int.le_refl 0); omega
  refine ⟨fun h => ?_, fun h => ?_⟩
  · have := cy_mo (w := w) hW hp ht h; rw [z] at this; omega
  · have := cy_mo (w := w) hW hp ht h; rw [z] at this; omega
theorem r_xb {f fl X F : Int → Int} {n t w : Int} {T : Tr} (hW : WF n f fl) (ht : 0 ≤ t ∧ t < 24) (hk : Tk f T) (h : r_at f t T w X F) : ∀ p, t_in T p → -(10080000 * w) ≤ X p ∧ X p ≤ 10080000 * w := by
  intro p hp
  have b := r_fb hW ht hk h p hp
  have l := cy_lo (w := w) (x := X p) hW (hk.f0 p hp) ht (by have := h.1; omega)
  rw [h.2.2 p hp] at b
  rcases Int.le_total 0 (X p) with z | z
  · have := l.1 z; have := h.1; omega
  · have := l.2 z; have := h.1; omega
theorem ab_lt' {a b : Int} (h : -b ≤ a ∧ a ≤ b) : cw_ab a ≤ b := by unfold cw_ab; split <;> omega
theorem B15c : (133608149 * 1000000000000000000000 : Int) < 1073741824 ^ 15 := by decide
theorem rg_7 {A W A' W' B V B' V' : Int} (h1 : A * V = B * W) (h2 : A' * V' = B' * W') : (A' * W - A * W') * (V' * V) = (B' * V - B * V') * (W' * W) := by grind
theorem uln_un {f fl : Int → Int} {n t u A w A' w' : Int} {T : Tr} (hW : WF n f fl) (ht : 0 ≤ t ∧ t < 24) (hT : ∀ q, t_in T q → 0 ≤ q ∧ q < f 0) (h : U_ln f t T u A w) (k : U_ln f t T u A' w') : A * w' = A' * w := by
  obtain ⟨X, F, h1, rfl⟩ := h
  obtain ⟨X', F', k1, rfl⟩ := k
  obtain ⟨⟨p1, p2⟩, hu⟩ := at_sc hW ht hT h1 k1
  have e : w' * t_tl (fun p => F p * f (17 + 12 * p + u)) T = w * t_tl (fun p => F' p * f (17 + 12 * p + u)) T := by
    rw [← tl_k, ← tl_k]
    refine tl_cg T (fun p hp => ?_)
    show w' * (F p * f (17 + 12 * p + u)) = w * (F' p * f (17 + 12 * p + u))
    rw [← Int.mul_assoc, ← Int.mul_assoc, (hu p hp).2]
  grind
theorem ln_U {f : Int → Int} {t u A w : Int} {T : Tr} (h : r_ln f t T u A w) : U_ln f t T u A w := h.2
theorem di_un {P Q P' Q' : Int → Int → Prop} {a b A W : Int} (h1 : ∀ x y z w, P x y → P' z w → x * w = z * y) (h2 : ∀ x y z w, Q x y → Q' z w → x * w = z * y) (h : P_di P Q a b) (k : P_di P' Q' A W) : a * W = A * b := by
  obtain ⟨x, y, x', y', p1, p2, rfl, rfl⟩ := h
  obtain ⟨z, w, z', w', q1, q2, rfl, rfl⟩ := k
  exact rg_7 (h1 _ _ _ _ p1 q1) (h2 _ _ _ _ p2 q2)
theorem B7_15 {a : Int} (h : a < 1073741824 ^ 7) : a < 1073741824 ^ 15 := by
  have : (1073741824 : Int) ^ 7 ≤ 1073741824 ^ 15 := by decide
  omega
theorem fl_bd {f fl : Int → Int} {n p a b : Int} {T : Tr} (hW : WF n f fl) (hT : Tk f T) (h : P_fl f p T a b ∨ P_ov f p T a b) (hb : 0 < b) : cw_ab a < 1073741824 ^ 15 ∧ b < 1073741824 ^ 15 := by
  have w3 := hW.1.2.2.2.1
  have k := B15c
  have key : b ≤ 13254776280841401 ∧ -(10080000 * b) ≤ a ∧ a ≤ 10080000 * b := by
    rcases h with ⟨hb2, X, F, hr, h1, h2⟩ | ⟨hb2, X, F, hr, h1, h2⟩
    · by_cases q : t_in T p
      · rw [h1 q]; exact ⟨hb2, r_fb hW (by omega) hT hr p q⟩
      · rw [h2 q]; omega
    · by_cases q : t_in T p
      · rw [h1 q]; exact ⟨hb2, r_xb hW (by omega) hT hr p q⟩
      · rw [h2 q]; omega
  have := ab_lt' key.2
  omega
theorem o_flow {g : cw_G} {n p : Int} {M : cw_M} (hi : IV n M) (hp : in32 p) : OP g y_Co_flow y_Mo_flow [.inl p] M (IV (n + 1)) := by
  have hW := hi.2.1.2
  have w3 := hW.1.2.2.2.1
  refine o_fr hi (c_flow hi.1 hi.2.1.1 hW hi.2.2.1.1 hp) (fun M1 k => d_flow k.1 (cl_324 k).1 hW (cl_mok hi k) g_tk hp) (fun T a b A W hT h1 h2 _ _ => ?_) (fun T a b hT h hb => fl_bd hW hT (Or.inl h) hb)
  obtain ⟨-, X, F, hr, e1, e2⟩ := h1
  obtain ⟨X', F', hr', e1', e2'⟩ := h2
  by_cases q : t_in T p
  · have := (r_un hW (by omega) hT.f0 hr hr' p q).2
    rw [e1 q, e1' q]; grind
  · rw [e2 q, e2' q, Int.zero_mul, Int.zero_mul]
theorem o_over {g : cw_G} {n p : Int} {M : cw_M} (hi : IV n M) (hp : in32 p) : OP g y_Co_over y_Mo_over [.inl p] M (IV (n + 1)) := by
  have hW := hi.2.1.2
  have w3 := hW.1.2.2.2.1
  refine o_fr hi (c_over hi.1 hi.2.1.1 hW hi.2.2.1.1 hp) (fun M1 k => d_over k.1 (cl_324 k).1 hW (cl_mok hi k) g_tk hp) (fun T a b A W hT h1 h2 _ _ => ?_) (fun T a b hT h hb => fl_bd hW hT (Or.inr h) hb)
  obtain ⟨-, X, F, hr, e1, e2⟩ := h1
  obtain ⟨X', F', hr', e1', e2'⟩ := h2
  by_cases q : t_in T p
  · have := (r_un hW (by omega) hT.f0 hr hr' p q).1
    rw [e1 q, e1' q]; grind
  · rw [e2 q, e2' q, Int.zero_mul, Int.zero_mul]
theorem o_linked {g : cw_G} {n u : Int} {M : cw_M} (hi : IV n M) (hu : in32 u) : OP g y_Co_linked y_Mo_linked [.inl u] M (IV (n + 1)) := by
  have hW := hi.2.1.2
  have w3 := hW.1.2.2.2.1
  refine o_fr hi (c_linked hi.1 hi.2.1.1 hW hi.2.2.1.1 hu) (fun M1 k => d_linked k.1 (cl_324 k).1 hW (cl_mok hi k) g_tk hu) (fun T a b A W hT h1 h2 _ _ => uln_un hW (by omega) hT.f0 (ln_U h1) h2) (fun T a b hT h hb => ?_)
  have := rln_b h
  exact ⟨B7_15 this.1, B7_15 (by have := this.2.1; unfold cw_ab at this; rw [if_pos (by omega)] at this; exact this)⟩
theorem o_stored {g : cw_G} {n : Int} {M : cw_M} (hi : IV n M) : OP g y_Co_stored y_Mo_stored [] M (IV (n + 1)) := by
  have hW := hi.2.1.2
  have w3 := hW.1.2.2.2.1
  refine o_fr (c := True) (P := fun T a b => r_st (M 324) (M 324 3) T a b) (U := fun T => U_st (M 324) (M 324 3) T) hi (cw_C_mono (c_stored hi.1 hi.2.1.1 hW hi.2.2.1.1) (fun r M1 h => Or.inr ⟨True.intro, h⟩)) (fun M1 k => cw_C_mono (d_stored k.1 (cl_324 k).1 hW (cl_mok hi k) g_tk) (fun r M1 h => Or.inr ⟨True.intro, h⟩)) (fun T a b A W hT h1 h2 _ _ => (ust_un hW (by omega) hT.f0 (st_U h1) h2).1) (fun T a b hT h hb => ?_)
  have := rst_b' h
  exact ⟨B7_15 this.1, B7_15 (by have := this.2.1; unfold cw_ab at this; rw [if_pos (by omega)] at this; exact this)⟩
theorem o_push {g : cw_G} {n u : Int} {M : cw_M} (hi : IV n M) (hu : in32 u) : OP g y_Co_push y_Mo_push [.inl u] M (IV (n + 1)) := by
  have hW := hi.2.1.2
  by_cases hc : 0 ≤ u ∧ u ≤ 23
  · have t2 : 0 ≤ (u + 1).tmod 24 ∧ (u + 1).tmod 24 < 24 := ⟨Int.tmod_nonneg _ (by omega), Int.tmod_lt_of_pos _ (by omega)⟩
    refine o_fr hi (c_push hi.1 hi.2.1.1 hW hi.2.2.1.1 hu) (fun M1 k => d_push k.1 (cl_324 k).1 hW (cl_mok hi k) g_tk hu) (fun T a b A W hT h1 h2 _ _ => di_un (fun x y z w p q => (ust_un hW (by omega) hT.f0 (st_U p) q).1) (fun x y z w p q => (ust_un hW t2 hT.f0 (st_U p) q).1) h1 h2) (fun T a b hT h hb => ?_)
    obtain ⟨x, y, x', y', p1, p2, rfl, rfl⟩ := h
    have := di_b (rst_b' p1) (rst_b' p2)
    exact ⟨this.1, this.2.1⟩
  · refine o_fr (P := fun _ _ _ => False) (U := fun _ _ _ => False) hi (cw_C_mono (c_push hi.1 hi.2.1.1 hW hi.2.2.1.1 hu) (fun r M1 h => h.elim Or.inl (fun z => absurd z.1 hc))) (fun M1 k => cw_C_mono (d_push k.1 (cl_324 k).1 hW (cl_mok hi k) g_tk hu) (fun r M1 h => h.elim Or.inl (fun z => absurd z.1 hc))) (fun T a b A W _ h1 => h1.elim) (fun T a b _ h => h.elim)
theorem o_each {g : cw_G} {n u v : Int} {M : cw_M} (hi : IV n M) (hn5 : n ≤ 512) (hu : in32 u) (hv : in32 v) : OP g y_Co_each y_Mo_each [.inl u, .inl v] M (IV (n + 1)) := by
  have hW := hi.2.1.2
  have w3 := hW.1.2.2.2.1
  by_cases hc : (0 ≤ u ∧ u ≤ 3) ∧ (0 ≤ v ∧ v ≤ 3)
  · have cu := hW.2.2.2.2.2.2.2.1 v hc.2.1 (by omega)
    have hW' : WF 600 (cw_fu (M 324) (268 + v) (M 324 (268 + v) + 1)) (M 338) := wf_cu ⟨hc.2.1, by omega⟩ (by have := cu.2.2 hn5; omega) (hW.mo (by omega))
    have e3 : cw_fu (M 324) (268 + v) (M 324 (268 + v) + 1) 0 = M 324 0 := fu_o (by omega)
    refine o_fr hi (c_each hi.1 hi.2.1.1 hW hi.2.2.1.1 hn5 hu hv) (fun M1 k => d_each k.1 (cl_324 k).1 hW hn5 (cl_mok hi k) g_tk hu hv) (fun T a b A W hT h1 h2 _ _ => di_un (fun x y z w p q => uln_un hW (by omega) hT.f0 (ln_U p) q) (fun x y z w p q => uln_un hW' (by omega) (fun q hq => by rw [e3]; exact hT.f0 q hq) (ln_U p) q) h1 h2) (fun T a b hT h hb => ?_)
    obtain ⟨x, y, x', y', p1, p2, rfl, rfl⟩ := h
    have := di_b (rln_b p1) (rln_b p2)
    exact ⟨this.1, this.2.1⟩
  · refine o_fr (P := fun _ _ _ => False) (U := fun _ _ _ => False) hi (cw_C_mono (c_each hi.1 hi.2.1.1 hW hi.2.2.1.1 hn5 hu hv) (fun r M1 h => h.elim Or.inl (fun z => absurd z.1 hc))) (fun M1 k => cw_C_mono (d_each k.1 (cl_324 k).1 hW hn5 (cl_mok hi k) g_tk hu hv) (fun r M1 h => h.elim Or.inl (fun z => absurd z.1 hc))) (fun T a b A W _ h1 => h1.elim) (fun T a b _ h => h.elim)
/-! the calls that answer a plain number -/
theorem pt_sc {f : Int → Int} {p w w' x x' : Int} (h : 0 < w ∧ 0 < w') (e : w' * x = w * x') : c_pt f p w x = c_pt f p w' x' := by
  have k : ∀ b : Int, b * w < cw_ab x ↔ b * w' < cw_ab x' := by
    intro b
    have ea : w' * cw_ab x = w * cw_ab x' := by
      have := congrArg cw_ab e
      rw [ab_mul, ab_mul] at this
      have e1 : cw_ab w' = w' := by unfold cw_ab; split <;> omega
      have e2 : cw_ab w = w := by unfold cw_ab; split <;> omega
      rw [e1, e2] at this; exact this
    constructor
    · intro z
      have := Int.mul_lt_mul_of_pos_left z h.2
      rw [ea] at this
      have e3 : w' * (b * w) = w * (b * w') := by grind
      rw [e3] at this
      rcases Int.lt_or_le (b * w') (cw_ab x') with y | y
      · exact y
      · have q := Int.mul_le_mul_of_nonneg_left y (show 0 ≤ w by omega); omega
    · intro z
      have := Int.mul_lt_mul_of_pos_left z h.1
      rw [← ea] at this
      have e3 : w * (b * w') = w' * (b * w) := by grind
      rw [e3] at this
      rcases Int.lt_or_le (b * w) (cw_ab x) with y | y
      · exact y
      · have q := Int.mul_le_mul_of_nonneg_left y (show 0 ≤ w' by omega); omega
  unfold c_pt
  by_cases g : f (10 + 12 * p) = 0
  · rw [if_pos g, if_pos g]
    simp only [k]
  · rw [if_neg g, if_neg g]
theorem pt_32 {f : Int → Int} {p w x : Int} : in32 (c_pt f p w x) := by
  unfold c_pt in32
  split
  · split <;> split <;> omega
  · omega
theorem o_part {g : cw_G} {n p : Int} {M : cw_M} (hi : IV n M) (hp : in32 p) : OP g y_Co_part y_Mo_part [.inl p] M (IV (n + 1)) := by
  have hW := hi.2.1.2
  have w3 := hW.1.2.2.2.1
  refine o_fi hi (c_part hi.1 hi.2.1.1 hW hi.2.2.1.1 hp) (fun M1 k => d_part k.1 (cl_324 k).1 hW (cl_mok hi k) g_tk hp) (fun _ T v w hT h1 h2 => ?_) (fun _ T v hT h => ?_)
  · obtain ⟨a, X, F, hr, e1, e2⟩ := h1
    obtain ⟨a', X', F', hr', e1', e2'⟩ := h2
    by_cases q : t_in T p
    · rw [e1 q, e1' q]
      exact pt_sc ⟨hr.1, hr'.1⟩ (r_un hW (by omega) hT.f0 hr hr' p q).1
    · rw [e2 q, e2' q]
  · obtain ⟨a, X, F, hr, e1, e2⟩ := h
    by_cases q : t_in T p
    · rw [e1 q]; exact pt_32
    · rw [e2 q]; unfold in32; omega
theorem o_still {g : cw_G} {n u : Int} {M : cw_M} (hi : IV n M) (hu : in32 u) : OP g y_Co_still y_Mo_still [.inl u] M (IV (n + 1)) := by
  have hW := hi.2.1.2
  refine o_fi hi (c_still hi.1 hi.2.1.1 hW hi.2.2.1.1 hu) (fun M1 k => d_still k.1 (cl_324 k).1 hW (cl_mok hi k) g_tk hu) (fun _ T v w hT h1 h2 => ?_) (fun _ T v hT h => ?_)
  · obtain ⟨pu, h1, rfl⟩ := h1
    obtain ⟨pv, h2, rfl⟩ := h2
    have e : ∀ t : Int, 0 ≤ t → t < 24 → pu t = pv t := by
      intro t t0 t1
      have t2 : 0 ≤ (t + 1).tmod 24 ∧ (t + 1).tmod 24 < 24 := ⟨Int.tmod_nonneg _ (by omega), Int.tmod_lt_of_pos _ (by omega)⟩
      obtain ⟨A, W, A', W', p1, p2, e1⟩ := h1 t t0 t1
      obtain ⟨B, V, B', V', q1, q2, e2⟩ := h2 t t0 t1
      have a := ust_un hW ⟨t0, t1⟩ hT.f0 (st_U p1) q1
      have b := ust_un hW t2 hT.f0 (st_U p2) q2
      rw [e1, e2]
      exact sg_rel (rg_7 a.1 b.1) (Int.mul_pos b.2.2 a.2.2) (Int.mul_pos b.2.1 a.2.1)
    refine kor_cg 24 (fun i i0 i1 => ?_)
    have t3 : 0 ≤ (i + 24 - 1).tmod 24 ∧ (i + 24 - 1).tmod 24 < 24 := ⟨Int.tmod_nonneg _ (by omega), Int.tmod_lt_of_pos _ (by omega)⟩
    unfold s_bt
    rw [e i i0 (by omega), e _ t3.1 t3.2]
  · obtain ⟨pu, _, rfl⟩ := h
    exact kor_32 24
theorem o_fits {g : cw_G} {n : Int} {M : cw_M} (hi : IV n M) : OP g y_Co_fits y_Mo_fits [] M (IV (n + 1)) := by
  have hW := hi.2.1.2
  refine o_fi (c := True) (P := fun T v => v = v_ft (M 324) (M 338) T) (U := fun T v => v = v_ft (M 324) (M 338) T) hi (cw_C_mono (c_fits hi.1 hi.2.1.1 hW hi.2.2.1.1) (fun r M1 h => Or.inr ⟨True.intro, h⟩)) (fun M1 k => cw_C_mono (d_fits k.1 (cl_324 k).1 (cl_324 k).2 hW (cl_mok hi k) g_tk) (fun r M1 h => Or.inr ⟨True.intro, h⟩)) (fun _ T v w _ h1 h2 => h1.trans h2.symm) (fun _ T v _ h => ?_)
  rw [h]
  unfold v_ft
  exact mbt_32 (wbt_32 pb_32 4) _
theorem o_grade {g : cw_G} {n p a b u : Int} {M : cw_M} (hi : IV n M) (hp : in32 p) (ha : in32 a) (hb : in32 b) (hu : in32 u) : OP g y_Co_grade y_Mo_grade [.inl p, .inl a, .inl b, .inl u] M (IV (n + 1)) := by
  have hW := hi.2.1.2
  refine o_fi hi (c_grade hi.1 hi.2.1.1 hW hi.2.2.1.1 hp ha hb hu) (fun M1 k => d_grade k.1 (cl_324 k).1 (cl_324 k).2 hW (cl_mok hi k) g_tk hp ha hb hu) (fun _ T v w _ h1 h2 => h1.trans h2.symm) (fun hc T v _ h => ?_)
  unfold P_gr at h
  rw [h]
  obtain ⟨c1, c2, c3, c4, c5, c6⟩ := hc
  have r := row_b hW c1.1 (show p < M 324 0 by omega)
  have k := gk_b (f := M 324) (fl := M 338) (T := T) (p := p) (s := max a (M 324 (13 + 12 * p))) ⟨by omega, by omega⟩ (b + 1 - max a (M 324 (13 + 12 * p))).toNat (by omega)
  unfold in32
  split <;> omega
