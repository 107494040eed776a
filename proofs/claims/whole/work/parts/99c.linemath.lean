/-! what the leaves tell; the line of a part is what the piece carries there -/
theorem sv_leaf {s e D F : Int → Int} : ∀ (t : Tr) (al be ga : Int), t_sv s e D F t al be ga → ∀ p, t_in t p → F p = s p * D p + e p * (al * (t_pq s t).1 + be * (t_pq s t).2)
  | .num p, al, be, ga, ⟨h1, h2⟩, q, hq => by
    have hq : q = p := hq
    subst hq
    show F q = s q * D q + e q * (al * s q + be * 1)
    rw [h1, h2]; grind
  | .neg x, al, be, ga, h, q, hq => sv_leaf x al be ga h q hq
  | .add a b, al, be, ga, h, q, hq => by
    show F q = s q * D q + e q * (al * ((t_pq s a).1 * (t_pq s b).2 + (t_pq s b).1 * (t_pq s a).2) + be * ((t_pq s a).2 * (t_pq s b).2))
    rcases hq with hq | hq
    · rw [sv_leaf a _ _ _ h.1 q hq]; grind
    · rw [sv_leaf b _ _ _ h.2 q hq]; grind
  | .mul a b, al, be, ga, h, q, hq => by
    show F q = s q * D q + e q * (al * ((t_pq s a).1 * (t_pq s b).1) + be * ((t_pq s a).1 * (t_pq s b).2 + (t_pq s b).1 * (t_pq s a).2))
    rcases hq with hq | hq
    · rw [sv_leaf a _ _ _ h.1 q hq]; grind
    · rw [sv_leaf b _ _ _ h.2 q hq]; grind
theorem r_zero {s e : Int → Int} (he : ∀ p, e p = 0) : ∀ t : Tr, t_r s e t = 0
  | .num p => he p
  | .neg x => r_zero he x
  | .add a b => by
    show t_r s e a * _ + t_r s e b * _ = 0
    rw [r_zero he a, r_zero he b]; omega
  | .mul a b => by
    show t_r s e a * _ + t_r s e b * _ = 0
    rw [r_zero he a, r_zero he b]; omega
  | .natCast _ => rfl
  | .intCast _ => rfl
  | .var _ => rfl
  | .sub _ _ => rfl
  | .pow _ _ => rfl
/-- without sources all drops are of the sign of the whole's -/
theorem sv_pos {s e D F : Int → Int} (hs : s_ok s) (he : ∀ p, e p = 0) : ∀ (t : Tr) (al be ga : Int), t_ok t → t_sv s e D F t al be ga → 1 ≤ ga → ∀ p, t_in t p → 1 ≤ D p
  | .num p, al, be, ga, hk, ⟨h1, h2⟩, hg, q, hq => by
    have hq : q = p := hq
    subst hq
    rw [h1, he, Int.mul_zero]; omega
  | .neg x, al, be, ga, hk, h, hg, q, hq => sv_pos hs he x al be ga hk h hg q hq
  | .add a b, al, be, ga, hk, h, hg, q, hq => by
    have pa := pq_b hs a hk.1
    have pb := pq_b hs b hk.2
    have ra := r_zero (s := s) he a
    have rb := r_zero (s := s) he b
    rcases hq with hq | hq
    · refine sv_pos hs he a _ _ _ hk.1 h.1 ?_ q hq
      rw [rb, Int.mul_zero]
      have := Int.mul_pos (show 0 < ga by omega) (show 0 < (t_pq s b).2 by omega)
      omega
    · refine sv_pos hs he b _ _ _ hk.2 h.2 ?_ q hq
      rw [ra, Int.mul_zero]
      have := Int.mul_pos (show 0 < ga by omega) (show 0 < (t_pq s a).2 by omega)
      omega
  | .mul a b, al, be, ga, hk, h, hg, q, hq => by
    have pa := pq_b hs a hk.1
    have pb := pq_b hs b hk.2
    have ra := r_zero (s := s) he a
    have rb := r_zero (s := s) he b
    rcases hq with hq | hq
    · refine sv_pos hs he a _ _ _ hk.1 h.1 ?_ q hq
      rw [rb, Int.mul_zero]
      have := Int.mul_pos (show 0 < ga by omega) (show 0 < (t_pq s b).1 by omega)
      omega
    · refine sv_pos hs he b _ _ _ hk.2 h.2 ?_ q hq
      rw [ra, Int.mul_zero]
      have := Int.mul_pos (show 0 < ga by omega) (show 0 < (t_pq s a).1 by omega)
      omega
/-- a push lies within part k of iron p -/
def l_in (f : Int → Int) (p k w x : Int) : Prop := (k = 2 ∧ f (14 + 12 * p) * w ≤ x) ∨ (k = 1 ∧ f (12 + 12 * p) * w ≤ x ∧ x ≤ f (14 + 12 * p) * w) ∨ (k = 0 ∧ -(f (12 + 12 * p) * w) ≤ x ∧ x ≤ f (12 + 12 * p) * w) ∨ (k = -1 ∧ -(f (14 + 12 * p) * w) ≤ x ∧ x ≤ -(f (12 + 12 * p) * w)) ∨ (k = -2 ∧ x ≤ -(f (14 + 12 * p) * w))
theorem cl_hi {b x : Int} (h0 : 0 ≤ b) (h : b ≤ x) : c_l b x = b := by unfold c_l; omega
theorem cl_lo {b x : Int} (h0 : 0 ≤ b) (h : x ≤ -b) : c_l b x = -b := by unfold c_l; omega
theorem cl_in {b x : Int} (h0 : -b ≤ x) (h : x ≤ b) : c_l b x = x := by unfold c_l; omega
theorem in_cy {f fl : Int → Int} {n t p w x k : Int} (hW : WF n f fl) (hp : 0 ≤ p ∧ p < f 0) (hw : 0 ≤ w) (hg : f (10 + 12 * p) = 0) (h : l_in f p k w x) : c_y f t p w x = l_s f t p k * x + l_o f p k * w := by
  have g : cw_ir f p := (hW.2.1 p hp.1 hp.2).resolve_left (fun z => by have := z.1; omega)
  unfold cw_ir at g
  have b1 := Int.mul_nonneg (show 0 ≤ f (12 + 12 * p) by omega) hw
  have b2 := Int.mul_le_mul_of_nonneg_right (show f (12 + 12 * p) ≤ f (14 + 12 * p) by omega) hw
  have n1 : ¬ f (10 + 12 * p) = 1 := by omega
  unfold c_y l_s l_o
  rw [if_neg n1, if_neg n1]
  rcases h with ⟨rfl, h⟩ | ⟨rfl, h, h'⟩ | ⟨rfl, h, h'⟩ | ⟨rfl, h, h'⟩ | ⟨rfl, h⟩
  · rw [cl_hi (b := f (14 + 12 * p) * w) (by omega) h, cl_hi (b := f (12 + 12 * p) * w) b1 (by omega), if_neg (by omega), show cw_ab 2 = 2 from rfl, if_pos (by omega), if_pos (by omega), show 11 + 12 * p + 2 * 2 = 15 + 12 * p by omega]
    grind
  · rw [cl_in (b := f (14 + 12 * p) * w) (by omega) h', cl_hi (b := f (12 + 12 * p) * w) b1 h, if_neg (by omega), show cw_ab 1 = 1 from rfl, if_pos (by omega), if_neg (by omega), show 11 + 12 * p + 2 * 1 = 13 + 12 * p by omega]
    grind
  · rw [cl_in (b := f (14 + 12 * p) * w) (by omega) (by omega), cl_in (b := f (12 + 12 * p) * w) h h', if_neg (by omega), show cw_ab 0 = 0 from rfl, if_neg (by omega), if_neg (by omega), show 11 + 12 * p + 2 * 0 = 11 + 12 * p by omega]
    grind
  · rw [cl_in (b := f (14 + 12 * p) * w) h (by omega), cl_lo (b := f (12 + 12 * p) * w) b1 h', if_pos (by omega), show cw_ab (-1) = 1 from rfl, if_pos (by omega), if_neg (by omega), show 11 + 12 * p + 2 * 1 = 13 + 12 * p by omega]
    grind
  · rw [cl_lo (b := f (14 + 12 * p) * w) (by omega) h, cl_lo (b := f (12 + 12 * p) * w) b1 (by omega), if_pos (by omega), show cw_ab (-2) = 2 from rfl, if_pos (by omega), if_pos (by omega), show 11 + 12 * p + 2 * 2 = 15 + 12 * p by omega]
    grind
theorem gap_cy {f : Int → Int} {t p w x : Int} (hg : f (10 + 12 * p) = 1) : c_y f t p w x = l_s f t p 0 * x + l_o f p 0 * w := by
  unfold c_y l_s l_o
  rw [if_pos hg, if_pos hg, if_neg (by omega), show cw_ab 0 = 0 from rfl, if_neg (by omega), if_neg (by omega)]
  omega
/-- the part that is seen is one that the push lies within -/
theorem pt_in {f fl : Int → Int} {n p w x : Int} (hW : WF n f fl) (hp : 0 ≤ p ∧ p < f 0) (hw : 0 ≤ w) (hg : f (10 + 12 * p) = 0) : l_in f p (l_pt f p w x) w x := by
  have g : cw_ir f p := (hW.2.1 p hp.1 hp.2).resolve_left (fun z => by have := z.1; omega)
  unfold cw_ir at g
  have b1 := Int.mul_nonneg (show 0 ≤ f (12 + 12 * p) by omega) hw
  have b2 := Int.mul_le_mul_of_nonneg_right (show f (12 + 12 * p) ≤ f (14 + 12 * p) by omega) hw
  unfold l_in l_pt
  rw [if_pos ⟨hp.2, hg⟩]
  have ax : cw_ab x = if 0 ≤ x then x else -x := rfl
  by_cases x0 : x = 0
  · subst x0
    rw [show cw_sg 0 = 0 from rfl, Int.mul_zero]
    omega
  · by_cases xp : 0 < x
    · have sx : cw_sg x = 1 := by unfold cw_sg; rw [if_neg x0, if_pos xp]
      rw [if_pos (by omega)] at ax
      rw [sx, ax]
      split <;> split <;> omega
    · have sx : cw_sg x = -1 := by unfold cw_sg; rw [if_neg x0, if_neg xp]
      rw [if_neg (by omega)] at ax
      rw [sx, ax]
      split <;> split <;> omega
