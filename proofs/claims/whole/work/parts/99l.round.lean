/-! the class's settle: one round of it -/
def Az (a : Int) : Prop := (149 ≤ a ∧ a ≤ 275) ∧ a ≠ 166 ∧ a ≠ 167
/-- what a round stands on -/
def st_ok (f : Int → Int) (T : Tr) (M : cw_M) : Prop := M 148 2 = 141 ∧ Pt M T ∧ (∀ p : Int, 0 ≤ p → p < 7 → (M 145 p = -1 ↔ ¬ t_in T p)) ∧ (∀ q : Int, t_in T q → 0 ≤ q ∧ q < f 0 ∧ q < 7) ∧ (∀ p : Int, 0 ≤ p → p < 7 → M 166 p = if p < f 0 then cw_so f p 4 else 0) ∧ (∀ p : Int, 0 ≤ p → p < 7 → -2 ≤ M 167 p ∧ M 167 p ≤ 2) ∧ (∀ p : Int, 0 ≤ p → p < 7 → ¬ (p < f 0 ∧ f (10 + 12 * p) = 0) → M 167 p = 0) ∧ ∀ p : Int, 0 ≤ p → p < 7 → M 145 p = -1 → RW M (152 + 2 * p) 0
/-- what a round leaves: pushes and flows above w, of a net of the lines of parts k -/
def st_at (f : Int → Int) (t : Int) (T : Tr) (k : Int → Int) (M : cw_M) (w : Int) (X F : Int → Int) : Prop :=
  (RW M 149 w ∧ 0 < w ∧ w ≤ 13254776280841401) ∧ (∀ p : Int, 0 ≤ p → p < 7 → RW M (152 + 2 * p) (X p) ∧ (-849000000000000000000000 ≤ X p ∧ X p ≤ 849000000000000000000000)) ∧
  (∀ p : Int, t_in T p → RW M (200 + 2 * M 145 p) (F p) ∧ (-848305681973849664000000 ≤ F p ∧ F p ≤ 848305681973849664000000)) ∧
  (∀ p : Int, 0 ≤ p → p < f 0 → M 168 p = l_s f t p (k p) ∧ M 169 p = l_o f p (k p)) ∧
  (∃ f0, t_nt (fun p => X p - cw_so f p 4 * w) F T 0 f0) ∧ (∀ p, t_in T p → F p = l_s f t p (k p) * X p + l_o f p (k p) * w) ∧ (∀ p : Int, 0 ≤ p → p < 7 → ¬ t_in T p → X p = 0) ∧
  w = (t_pq (l_sp f t k) T).2 ∧ m_va M (l_sp f t k) (l_ep f t k) T 0
theorem st_cg {f : Int → Int} {T : Tr} {M M' : cw_M} (h : st_ok f T M) (k : ∀ a : Int, (140 < a ∧ a ≤ 148) ∨ a = 166 ∨ a = 167 → M' a = M a) (kx : ∀ p : Int, 0 ≤ p → p < 7 → M 145 p = -1 → RW M' (152 + 2 * p) 0) : st_ok f T M' := by
  obtain ⟨h1, ⟨p1, p2, p3, p4⟩, h3, h4, h5, h6, h7, h8⟩ := h
  unfold st_ok Pt
  rw [k 148 (by omega), k 141 (by omega), k 142 (by omega), k 143 (by omega), k 144 (by omega), k 145 (by omega), k 166 (by omega), k 167 (by omega)]
  exact ⟨h1, ⟨p1, p2, p3, p4⟩, h3, h4, h5, h6, h7, kx⟩
theorem lv_7 {T : Tr} (h : t_sz T ≤ 13) : t_lv T ≤ 7 := by have := lv_sz T; omega
theorem en_z {T : Tr} (h : t_sz T ≤ 13) : (1 : Int) * (201 : Int) ^ t_lv T ≤ 13254776280841401 := by rw [Int.one_mul]; exact z_7 (lv_7 h)
theorem en_k {T : Tr} (h : t_sz T ≤ 13) : (1 : Int) + (t_lv T : Int) ≤ 8 := by have := lv_7 h; omega
theorem e_w1 {e : Int → Int} : e_ws e 1 = e := if_pos rfl
theorem e_w0 {e : Int → Int} : e_ws e 0 = fun _ => 0 := if_neg (by omega)
theorem st_round {g : cw_G} {M : cw_M} {t i : Int} {f fl : Int → Int} {n : Int} {T : Tr} {z : cw_V} {Q : Option cw_V → cw_M → Prop} (hS : Sh M) (hR : RelS 1 f fl M) (hW : WF n f fl) (ht : 0 ≤ t ∧ t < 24) (h : st_ok f T M)
    (nx : ∀ (M2 : cw_M) (w : Int) (X F : Int → Int), Fg Az M M2 → st_ok f T M2 → M2 167 = M 167 → st_at f t T (M 167) M2 w X F → mJ g y_Re_settle 155 [.inr (.inr 148), .inr (.inr 2), .inr (.inr 141), .inl t, .inl i, .inl 7] [] M2 Q) :
    mJ g y_Re_settle 98 [.inr (.inr 148), .inr (.inr 2), .inr (.inr 141), .inl t, .inl i, z] [] M Q := by
  have w0 := hW.1.1
  obtain ⟨h1, ⟨p1, p2, p3, p4⟩, h3, h4, h5, h6, h7, h8⟩ := id h
  have hT : ∀ p, t_in T p → p < f 0 := fun p hp => (h4 p hp).2.1
  have hs : s_ok (l_sp f t (M 167)) := sp_ok hW ht h6
  have he : e_ok (l_ep f t (M 167)) := ep_ok hW ht h6 (fun p h0 h1 => by
    by_cases q : f (10 + 12 * p) = 0
    · exact Or.inl q
    · exact Or.inr (h7 p h0 (by omega) (fun z => q z.2)))
  have pq := pq_bb hs p4 p2
  refine st_lines hS hR hW ht h6 (fun M2 F2 ln => ?_)
  have hS2 := F2.1
  have o2 : ∀ a : Int, a ≠ 168 → a ≠ 169 → M2 a = M a := fun a q q' => F2.2 a (fun z => by have z : a = 168 ∨ a = 169 := z; omega)
  have hJ : J_in M2 (l_sp f t (M 167)) (l_ep f t (M 167)) (t_sz T) (f 0) := by
    refine ⟨by rw [o2 148 (by omega) (by omega)]; exact h1, by rw [o2 141 (by omega) (by omega)]; exact p1, p2, hs, he, fun p q0 q1 => ?_⟩
    have es : l_sp f t (M 167) p = l_s f t p (M 167 p) := if_pos q1
    have ee : l_ep f t (M 167) p = l_s f t p (M 167 p) * cw_so f p 4 + l_o f p (M 167 p) := if_pos q1
    have e6 : M2 166 p = cw_so f p 4 := by rw [o2 166 (by omega) (by omega), h5 p q0 (by omega), if_pos q1]
    have sb := so_b hW q0 (show p < 7 by omega)
    rw [es, ee, e6, (ln p q0 q1).1, (ln p q0 q1).2]
    exact ⟨rfl, rfl, by unfold in32; omega⟩
  have hd2 : t_dc (M2 142) (M2 143) (M2 144) (M2 145) T 0 := by rw [o2 142 (by omega) (by omega), o2 143 (by omega) (by omega), o2 144 (by omega) (by omega), o2 145 (by omega) (by omega)]; exact p3
  refine k_Re_settle_124 _ _ _ _ _ _ _ _ ?_
  simp (disch := omega) only [↓w_nil, ↓w_cons, ↓w_ald0, ↓w_cv0, true_and, and_true, true_implies, false_implies, not_true_eq_false, not_false_eq_true, Int.reduceEq, Int.reduceLT, Int.reduceLE, Int.reduceNeg, w_c80, w_c8I, w_c8L, w_c8R, w_up1, w_up2, w_up3]
  repeat refine And.intro (by first | assumption | exact IsW.kt (by assumption) | omega | (unfold in32; omega) | (unfold in64; omega) | exact True.intro | exact Or.inl True.intro | exact Or.inr True.intro | rfl | exact Nat.le_of_ble_eq_true rfl) ?_
  try first | done | assumption | (unfold in32; omega) | (unfold in64; omega)
  refine ⟨_, p_Re_joinUp hS2 hJ hd2 p4 hT, ?_⟩
  rintro q M3 ⟨rfl, F3, va⟩
  have hS3 := F3.1
  have o3 : ∀ a : Int, a < 168 → M3 a = M a := fun a q => by
    rw [F3.2 a (fun z => by have z : a = 170 ∨ a = 171 ∨ (173 ≤ a ∧ a < 199) ∨ (268 ≤ a ∧ a ≤ 271) := z; omega)]
    exact o2 a (by omega) (by omega)
  have l3 : ∀ a : Int, a = 168 ∨ a = 169 → M3 a = M2 a := fun a q => F3.2 a (fun z => by have z : a = 170 ∨ a = 171 ∨ (173 ≤ a ∧ a < 199) ∨ (268 ≤ a ∧ a ≤ 271) := z; omega)
  have hd3 : t_dc (M3 142) (M3 143) (M3 144) (M3 145) T 0 := by rw [o3 142 (by omega), o3 143 (by omega), o3 144 (by omega), o3 145 (by omega)]; exact p3
  refine k_Re_settle_128 _ _ _ _ _ _ _ _ ?_
  simp (disch := omega) only [↓w_nil, ↓w_cons, ↓w_ald0, ↓w_ic, ↓w_cv1, true_and, and_true, true_implies, false_implies, not_true_eq_false, not_false_eq_true, Int.reduceEq, Int.reduceLT, Int.reduceLE, Int.reduceNeg, w_c80, w_c8I, w_c8L, w_c8R, w_up1, w_up2, w_up3, w_tl0]
  repeat refine And.intro (by first | assumption | exact IsW.kt (by assumption) | omega | (unfold in32; omega) | (unfold in64; omega) | exact True.intro | exact Or.inl True.intro | exact Or.inr True.intro | rfl | exact Nat.le_of_ble_eq_true rfl) ?_
  try first | done | assumption | (unfold in32; omega) | (unfold in64; omega)
  refine ⟨_, p_Re_shareDown (ws := 1) hS3 (by rw [o3 148 (by omega)]; exact h1) (by rw [o3 141 (by omega)]; exact p1) p2 hs he (Or.inr rfl) hd3 p4 va, ?_⟩
  rintro q M4 ⟨rfl, F4, r4, ds⟩
  have hS4 := F4.1
  rw [e_w1, if_pos rfl] at ds
  have o4 : ∀ a : Int, a < 200 → a ≠ 149 → a ≠ 150 → M4 a = M3 a := fun a q q1 q2 => F4.2 a (fun z => by have z : a = 149 ∨ a = 150 ∨ ((200 ≤ a ∧ a < 226) ∨ (227 ≤ a ∧ a < 253) ∨ (268 ≤ a ∧ a ≤ 275)) := z; omega)
  have k4 : ∀ a : Int, a < 168 → a ≠ 149 → a ≠ 150 → M4 a = M a := fun a q q1 q2 => by rw [o4 a (by omega) q1 q2, o3 a q]
  have hd4 : t_dc (M4 142) (M4 143) (M4 144) (M4 145) T 0 := by rw [k4 142 (by omega) (by omega) (by omega), k4 143 (by omega) (by omega) (by omega), k4 144 (by omega) (by omega) (by omega), k4 145 (by omega) (by omega) (by omega)]; exact p3
  have sv := ds_sv T 0 0 1 0 hd4 ds
  have rw4 := ds_rw T 0 0 1 0 (Int.le_refl 0) hd4 ds
  have bd4 := ds_bd hs he T 0 0 1 0 1 1 p4 hd4 ds (en_1 (Or.inl rfl)) (en_z p2) (en_k p2)
  have e145 : M4 145 = M 145 := k4 145 (by omega) (by omega) (by omega)
  have e166 : M4 166 = M 166 := k4 166 (by omega) (by omega) (by omega)
  have in_of : ∀ p : Int, 0 ≤ p → p < 7 → M 145 p ≠ -1 → t_in T p := fun p q0 q1 q => Classical.byContradiction (fun z => q ((h3 p q0 q1).mpr z))
  have lb : ∀ p : Int, 0 ≤ p → p < 7 → -1 ≤ M 145 p ∧ M 145 p < 13 := fun p q0 q1 => by
    by_cases q : M 145 p = -1
    · omega
    · have := rw4 p (in_of p q0 q1 q); rw [e145] at this; omega
  have sb : ∀ p : Int, 0 ≤ p → p < 7 → -25200 ≤ M 166 p ∧ M 166 p ≤ 25200 := fun p q0 q1 => by
    rw [h5 p q0 q1]
    split
    · exact so_b hW q0 q1
    · omega
  have xb : ∀ p : Int, 0 ≤ p → p < 7 → -334020362277203305200 ≤ (t_pq (l_sp f t (M 167)) T).2 * M 166 p ∧ (t_pq (l_sp f t (M 167)) T).2 * M 166 p ≤ 334020362277203305200 := fun p q0 q1 => by
    have s1 := sb p q0 q1
    have a1 := Int.mul_le_mul_of_nonneg_left s1.2 (show 0 ≤ (t_pq (l_sp f t (M 167)) T).2 by omega)
    have a2 := Int.mul_le_mul_of_nonneg_left s1.1 (show 0 ≤ (t_pq (l_sp f t (M 167)) T).2 by omega)
    omega
  refine st_push (w := (t_pq (l_sp f t (M 167)) T).2) (D := fun p => cw_vl M4 (227 + 2 * M4 145 p)) hS4 (by rw [k4 148 (by omega) (by omega) (by omega)]; exact h1) (by rw [e145]; exact lb) (fun p q0 q1 => by rw [e166]; have := sb p q0 q1; omega) r4 ⟨by omega, by omega⟩ (fun p q0 q1 q => by
    rw [e145] at q
    exact ⟨(rw4 p (in_of p q0 q1 q)).2.2.1, (bd4 p (in_of p q0 q1 q)).1⟩) (fun M5 F5 x5 => ?_)
  have o5 : ∀ a : Int, ¬ ((152 ≤ a ∧ a ≤ 165) ∨ a = 268 ∨ a = 269) → M5 a = M4 a := fun a q => F5.2 a q
  have k5 : ∀ a : Int, (140 < a ∧ a ≤ 148) ∨ a = 166 ∨ a = 167 → M5 a = M a := fun a q => by rw [o5 a (by omega), k4 a (by omega) (by omega) (by omega)]
  have F5' : Fg Az M M5 := by
    refine ⟨F5.1, fun a ha => ?_⟩
    have q : ¬ ((149 ≤ a ∧ a ≤ 275) ∧ a ≠ 166 ∧ a ≠ 167) := ha
    by_cases c : a < 168
    · rw [o5 a (by omega), k4 a c (by omega) (by omega)]
    · rw [o5 a (by omega), F4.2 a (fun z => by have z : a = 149 ∨ a = 150 ∨ ((200 ≤ a ∧ a < 226) ∨ (227 ≤ a ∧ a < 253) ∨ (268 ≤ a ∧ a ≤ 275)) := z; omega), F3.2 a (fun z => by have z : a = 170 ∨ a = 171 ∨ (173 ≤ a ∧ a < 199) ∨ (268 ≤ a ∧ a ≤ 271) := z; omega), o2 a (by omega) (by omega)]
  have x0 : ∀ p : Int, 0 ≤ p → p < 7 → M 145 p = -1 → RW M5 (152 + 2 * p) 0 := fun p q0 q1 q => by
    rcases x5 p q0 q1 with c | c
    · exact (h8 p q0 q1 q).cg (by rw [c.2.1, k4 _ (by omega) (by omega) (by omega)]) (by rw [show 152 + 2 * p + 1 = 153 + 2 * p by omega, c.2.2, k4 _ (by omega) (by omega) (by omega)])
    · rw [e145] at c; exact absurd q c.1
  refine nx M5 (t_pq (l_sp f t (M 167)) T).2 (fun p => if M 145 p = -1 then 0 else cw_vl M4 (227 + 2 * M4 145 p) + (t_pq (l_sp f t (M 167)) T).2 * M 166 p) (fun p => cw_vl M4 (200 + 2 * M4 145 p)) F5' (st_cg h k5 x0) (k5 167 (by omega)) ?_
  have ne : ∀ p, t_in T p → M 145 p ≠ -1 := fun p hp q => (h3 p (h4 p hp).1 (h4 p hp).2.2).mp q hp
  have es : ∀ p, t_in T p → l_sp f t (M 167) p = l_s f t p (M 167 p) := fun p hp => if_pos (hT p hp)
  have sp := sv_push (f := f) (t := t) (k := M 167) (X := fun p => if M 145 p = -1 then 0 else cw_vl M4 (227 + 2 * M4 145 p) + (t_pq (l_sp f t (M 167)) T).2 * M 166 p) es (fun p hp => by
    show (if p < f 0 then _ else _) = _
    rw [if_pos (hT p hp), es p hp]) (fun p hp => by
    show (if M 145 p = -1 then _ else _) = _
    rw [if_neg (ne p hp), h5 p (h4 p hp).1 (h4 p hp).2.2, if_pos (hT p hp)]) sv
  refine ⟨⟨r4.cg (o5 149 (by omega)) (o5 150 (by omega)), by omega, by omega⟩, fun p q0 q1 => ?_, fun p hp => ?_, fun p q0 q1 => ?_, ⟨_, sp.1⟩, fun p hp => ?_, fun p q0 q1 q => ?_, rfl, ?_⟩
  · by_cases c : M 145 p = -1
    · show RW M5 _ (if M 145 p = -1 then _ else _) ∧ (_ ≤ (if M 145 p = -1 then _ else _) ∧ (if M 145 p = -1 then _ else _) ≤ _)
      rw [if_pos c]
      exact ⟨x0 p q0 q1 c, by omega, by omega⟩
    · show RW M5 _ (if M 145 p = -1 then _ else _) ∧ (_ ≤ (if M 145 p = -1 then _ else _) ∧ (if M 145 p = -1 then _ else _) ≤ _)
      rw [if_neg c]
      have b := (bd4 p (in_of p q0 q1 c)).1
      have x := xb p q0 q1
      rcases x5 p q0 q1 with d | d
      · rw [e145] at d; exact absurd d.1 c
      · rw [e166] at d; exact ⟨d.2, by omega, by omega⟩
  · have v := rw4 p hp
    rw [k5 145 (by omega), ← e145]
    exact ⟨v.2.2.2.cg (o5 _ (by omega)) (o5 _ (by omega)), (bd4 p hp).2⟩
  · rw [o5 168 (by omega), o5 169 (by omega), o4 168 (by omega) (by omega) (by omega), o4 169 (by omega) (by omega) (by omega), l3 168 (by omega), l3 169 (by omega)]
    exact ln p q0 q1
  · rw [← es p hp]; exact sp.2 p hp
  · show (if M 145 p = -1 then _ else _) = _
    rw [if_pos ((h3 p q0 q1).mpr q)]
  · refine va_k (M := M3) (hi := 13) (fun j j0 j1 => ?_) (Int.le_refl 0) (by omega) va
    rw [o5 170 (by omega), o5 171 (by omega), o5 _ (by omega), o5 _ (by omega), o4 170 (by omega) (by omega) (by omega), o4 171 (by omega) (by omega) (by omega), o4 _ (by omega) (by omega) (by omega), o4 _ (by omega) (by omega) (by omega)]
    exact ⟨rfl, rfl, rfl, rfl⟩
