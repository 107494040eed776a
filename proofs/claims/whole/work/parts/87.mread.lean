/-! the reference reads the path: one character's step on the rows -/
theorem ls_minus {K P I O : Int → Int} {N : Int} {fs : List Gf} {A B : Option Tr} {t : Tr} {v v' : Int → Bool} (h : m_ls K P I O N (fs, A, B, some t, v)) : m_ls K P I O N (fs, A, some (g_ser B t), none, v') := by
  obtain ⟨h1, ⟨a1, a2, a3, a4, a5, a6⟩, h3, h4, h5⟩ := h
  have h3 : (t_el K P I t).1 (f_q fs + 1 + o_r A) (f_q fs + 1 + o_r A + 1 + o_e B) := h3
  refine ⟨h1, ⟨a1, a2, a3, a4, a5, ser_E a6 h3⟩, trivial, ?_, h5⟩
  have e : o_e (some (g_ser B t)) = o_e B + (t_er t).1 := ser_e
  have h4' : N = f_q fs + 1 + o_r A + 1 + o_e B + (t_er t).1 := h4
  show N = f_q fs + 1 + o_r A + 1 + o_e (some (g_ser B t)) + 0
  rw [e]; omega
theorem ls_bar {K P I O K' P' I' : Int → Int} {N : Int} {fs : List Gf} {A B : Option Tr} {t : Tr} {v v' : Int → Bool} (h : m_ls K P I O N (fs, A, B, some t, v)) (hc : ∀ i, 0 ≤ i → i < N → K' i = K i ∧ P' i = P i ∧ I' i = I i) (hk : K' N = 1) (hp : P' N = f_q fs) :
    m_ls K' P' I' O (N + 1) (fs, some (g_par A (g_ser B t)), none, none, v') ∧ f_q fs + 1 + o_r (some (g_par A (g_ser B t))) = N := by
  obtain ⟨h1, h2, h3, h4, h5⟩ := h
  have h2 : f_1 K P I A B (f_q fs) (f_p fs) := h2
  have h3 : (t_el K P I t).1 (f_q fs + 1 + o_r A) (f_q fs + 1 + o_r A + 1 + o_e B) := h3
  have h4' : N = f_q fs + 1 + o_r A + 1 + o_e B + (t_er t).1 := h4
  have n1 := oe_nn B
  have n2 := or_nn A
  have n3 := fq_nn fs
  have n4 := (er_nn t).1
  have g1 := fl_cg hc fs (by omega) h1
  obtain ⟨a1, a2, a3, a4, a5, a6⟩ := f1_cg hc n3 (by omega) h2
  have g3 := (el_cg hc t).1 _ _ (by omega) (by omega) h3
  have u := ser_E a6 g3
  obtain ⟨r1, r2⟩ := par_R a3 a4 a5 u
  have e : (t_er (g_ser B t)).1 = o_e B + (t_er t).1 := ser_e
  have q : f_q fs + 1 + o_r (some (g_par A (g_ser B t))) = N := by
    show f_q fs + 1 + (t_er (g_par A (g_ser B t))).2 = N
    rw [r2, e]; omega
  refine ⟨⟨g1, ⟨a1, a2, r1, ?_, ?_, trivial⟩, trivial, ?_, h5⟩, q⟩
  · rw [q]; exact hk
  · rw [q]; exact hp
  · show N + 1 = f_q fs + 1 + o_r (some (g_par A (g_ser B t))) + 1 + 0 + 0
    rw [q]; omega
theorem ls_close {K P I O : Int → Int} {N : Int} {f : Gf} {fs : List Gf} {A B : Option Tr} {t : Tr} {v v' : Int → Bool} (h : m_ls K P I O N (f :: fs, A, B, some t, v)) :
    m_ls K P I O N (fs, f.1, f.2, some (.neg (g_par A (g_ser B t))), v') ∧ O fs.length = f_q fs + 1 + o_r f.1 ∧ P (f_q fs + 1 + o_r f.1) = f_q fs ∧ 0 ≤ f_q fs + 1 + o_r f.1 ∧ f_q fs + 1 + o_r f.1 < N := by
  obtain ⟨⟨h1, h2⟩, ⟨a1, a2, a3, a4, a5, a6⟩, h3, h4, h5, h6⟩ := h
  have a3 : o_R K P I A (f_q (f :: fs)) (f_q (f :: fs) + 1) := a3
  have a4 : K (f_q (f :: fs) + 1 + o_r A) = 1 := a4
  have a5 : P (f_q (f :: fs) + 1 + o_r A) = f_q (f :: fs) := a5
  have a6 : o_E K P I B (f_q (f :: fs) + 1 + o_r A) (f_q (f :: fs) + 1 + o_r A + 1) := a6
  have h3 : (t_el K P I t).1 (f_q (f :: fs) + 1 + o_r A) (f_q (f :: fs) + 1 + o_r A + 1 + o_e B) := h3
  have n1 := oe_nn B
  have n2 := or_nn A
  have n3 := fq_nn fs
  have n4 := (er_nn t).1
  have n5 := oe_nn f.2
  have n6 := or_nn f.1
  have eq : f_q (f :: fs) = f_q fs + 1 + o_r f.1 + 1 + o_e f.2 := rfl
  have h4' : N = f_q (f :: fs) + 1 + o_r A + 1 + o_e B + (t_er t).1 := h4
  have u := ser_E a6 h3
  obtain ⟨r1, r2⟩ := par_R a3 a4 a5 u
  have e : (t_er (g_ser B t)).1 = o_e B + (t_er t).1 := ser_e
  refine ⟨⟨h1, h2, ?_, ?_, h5⟩, h6, h2.2.2.2.2.1, by omega, by omega⟩
  · rw [eq] at a1 a2 r1
    exact ⟨a1, a2, r1⟩
  · show N = f_q fs + 1 + o_r f.1 + 1 + o_e f.2 + (1 + (t_er (g_par A (g_ser B t))).2)
    rw [r2, e]; omega
theorem ls_open {K P I O K' P' I' O' : Int → Int} {N : Int} {fs : List Gf} {A B : Option Tr} {v v' : Int → Bool} (h : m_ls K P I O N (fs, A, B, none, v)) (hc : ∀ i, 0 ≤ i → i < N → K' i = K i ∧ P' i = P i ∧ I' i = I i) (hk : K' N = 2) (hp : P' N = f_q fs + 1 + o_r A) (hk1 : K' (N + 1) = 1) (hp1 : P' (N + 1) = N) (hO : ∀ i : Int, 0 ≤ i → i < fs.length → O' i = O i) (hO1 : O' fs.length = f_q fs + 1 + o_r A) :
    m_ls K' P' I' O' (N + 2) ((A, B) :: fs, none, none, none, v') ∧ f_q ((A, B) :: fs) = N := by
  obtain ⟨h1, h2, h3, h4, h5⟩ := h
  have h2 : f_1 K P I A B (f_q fs) (f_p fs) := h2
  have h4' : N = f_q fs + 1 + o_r A + 1 + o_e B + 0 := h4
  have n1 := oe_nn B
  have n2 := or_nn A
  have n3 := fq_nn fs
  have q : f_q ((A, B) :: fs) = N := by show f_q fs + 1 + o_r A + 1 + o_e B = N; omega
  have g1 := fl_cg hc fs (by omega) h1
  have g2 := f1_cg hc n3 (by omega) h2
  refine ⟨⟨⟨g1, g2⟩, ⟨?_, ?_, trivial, ?_, ?_, trivial⟩, trivial, ?_, ⟨fo_cg fs hO h5, hO1⟩⟩, q⟩
  · rw [q]; exact hk
  · rw [q]; exact hp
  · rw [q]; show K' (N + 1 + 0) = 1; rw [Int.add_zero]; exact hk1
  · rw [q]; show P' (N + 1 + 0) = N; rw [Int.add_zero]; exact hp1
  · show N + 2 = f_q ((A, B) :: fs) + 1 + 0 + 1 + 0 + 0
    rw [q]; omega
theorem ls_leaf {K P I O K' P' I' : Int → Int} {N p : Int} {fs : List Gf} {A B : Option Tr} {v v' : Int → Bool} (h : m_ls K P I O N (fs, A, B, none, v)) (hc : ∀ i, 0 ≤ i → i < N → K' i = K i ∧ P' i = P i ∧ I' i = I i) (hk : K' N = 0) (hp : P' N = f_q fs + 1 + o_r A) (hi : I' N = p) :
    m_ls K' P' I' O (N + 1) (fs, A, B, some (.num p), v') := by
  obtain ⟨h1, h2, h3, h4, h5⟩ := h
  have h2 : f_1 K P I A B (f_q fs) (f_p fs) := h2
  have h4' : N = f_q fs + 1 + o_r A + 1 + o_e B + 0 := h4
  have n1 := oe_nn B
  have n2 := or_nn A
  have n3 := fq_nn fs
  have e : f_q fs + 1 + o_r A + 1 + o_e B = N := by omega
  have g1 := fl_cg hc fs (by omega) h1
  have g2 := f1_cg hc n3 (by omega) h2
  refine ⟨g1, g2, ?_, ?_, h5⟩
  · show (t_el K' P' I' (.num p)).1 (f_q fs + 1 + o_r A) (f_q fs + 1 + o_r A + 1 + o_e B)
    rw [e]
    exact ⟨hk, hp, hi⟩
  · show N + 1 = f_q fs + 1 + o_r A + 1 + o_e B + 1; omega
theorem ls_b {K P I O : Int → Int} {N : Int} {s : Gs} (h : m_ls K P I O N s) : 0 ≤ f_q s.1 ∧ f_q s.1 < f_q s.1 + 1 + o_r s.2.1 ∧ f_q s.1 + 1 + o_r s.2.1 < N := by
  obtain ⟨h1, h2, h3, h4, h5⟩ := h
  have n1 := oe_nn s.2.2.1
  have n2 := or_nn s.2.1
  have n3 := fq_nn s.1
  have n4 := oe_nn s.2.2.2.1
  omega
/-! the pieces read, as bits -/
def m_bt (m : Int) (v : Int → Bool) : Prop := 0 ≤ m ∧ m < 128 ∧ ∀ p : Int, 0 ≤ p → p < 7 → ((m / 2 ^ p.toNat) % 2 = 1 ↔ v p = true)
theorem bt_and : ∀ (m : Fin 128) (p : Fin 7), cw_and32 ((m.val : Int) / 2 ^ p.val) 1 = ((m.val : Int) / 2 ^ p.val) % 2 := by decide +kernel
theorem bt_or : ∀ (m : Fin 128) (p : Fin 7), ((m.val : Int) / 2 ^ p.val) % 2 = 1 ∨ (cw_or32 (m.val : Int) (1 * 2 ^ p.val) = (m.val : Int) + 2 ^ p.val ∧ (m.val : Int) + 2 ^ p.val < 128 ∧ ∀ q : Fin 7, (((m.val : Int) + 2 ^ p.val) / 2 ^ q.val) % 2 = if q = p then 1 else ((m.val : Int) / 2 ^ q.val) % 2) := by decide +kernel
theorem m_and {m p : Int} {v : Int → Bool} (h : m_bt m v) (h0 : 0 ≤ p) (h1 : p < 7) : cw_and32 (m / 2 ^ p.toNat) 1 = if v p then 1 else 0 := by
  obtain ⟨a, b, c⟩ := h
  have e := bt_and ⟨m.toNat, by omega⟩ ⟨p.toNat, by omega⟩
  simp only at e
  rw [show ((m.toNat : Nat) : Int) = m by omega] at e
  rw [e]
  have k := c p h0 h1
  cases hv : v p with
  | true => rw [k.mpr hv]; rfl
  | false =>
    have : ¬ (m / 2 ^ p.toNat) % 2 = 1 := fun q => by rw [k.mp q] at hv; cases hv
    show _ = (0 : Int)
    omega
theorem m_or {m p : Int} {v : Int → Bool} (h : m_bt m v) (h0 : 0 ≤ p) (h1 : p < 7) (hv : v p = false) : m_bt (cw_or32 m (1 * 2 ^ p.toNat)) (fun k => if k = p then true else v k) := by
  obtain ⟨a, b, c⟩ := h
  have e := bt_or ⟨m.toNat, by omega⟩ ⟨p.toNat, by omega⟩
  simp only at e
  rw [show ((m.toNat : Nat) : Int) = m by omega] at e
  rcases e with e | ⟨e1, e2, e3⟩
  · rw [(c p h0 h1).mp e] at hv; cases hv
  · rw [e1]
    refine ⟨by have : (0 : Int) ≤ 2 ^ p.toNat := Int.le_of_lt (Int.pow_pos (by omega)); omega, e2, fun q q0 q1 => ?_⟩
    have k := e3 ⟨q.toNat, by omega⟩
    simp only at k
    rw [k]
    by_cases hq : q = p
    · subst hq
      rw [if_pos rfl]
      show (1 : Int) = 1 ↔ (if q = q then true else v q) = true
      rw [if_pos rfl]; exact ⟨fun _ => rfl, fun _ => rfl⟩
    · rw [if_neg (fun z => hq (by have := congrArg Fin.val z; simp only at this; omega))]
      show _ ↔ (if q = p then true else v q) = true
      rw [if_neg hq]
      exact c q q0 q1
