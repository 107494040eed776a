/-! how large the numbers of a net are; the cells of its whole numbers -/
def t_lv : Tr → Nat := fun t => match t with
  | .neg x => t_lv x
  | .add a b => t_lv a + t_lv b
  | .mul a b => t_lv a + t_lv b
  | _ => 1
theorem lv_sz : ∀ t : Tr, t_sz t = 2 * (t_lv t : Int) - 1
  | .neg x => lv_sz x
  | .add a b => by have := lv_sz a; have := lv_sz b; show t_sz a + t_sz b + 1 = 2 * ((t_lv a + t_lv b : Nat) : Int) - 1; omega
  | .mul a b => by have := lv_sz a; have := lv_sz b; show t_sz a + t_sz b + 1 = 2 * ((t_lv a + t_lv b : Nat) : Int) - 1; omega
  | .num _ => rfl
  | .natCast _ => rfl
  | .intCast _ => rfl
  | .var _ => rfl
  | .sub _ _ => rfl
  | .pow _ _ => rfl
def s_ok (s : Int → Int) : Prop := ∀ p : Int, 0 ≤ p → p < 7 → 1 ≤ s p ∧ s p ≤ 200
def e_ok (e : Int → Int) : Prop := ∀ p : Int, 0 ≤ p → p < 7 → -8000000 ≤ e p ∧ e p ≤ 8000000
theorem pq_m {pa qa pb qb za zb : Int} (a1 : 1 ≤ pa) (a2 : 1 ≤ qa) (a3 : pa + qa ≤ za) (b1 : 1 ≤ pb) (b2 : 1 ≤ qb) (b3 : pb + qb ≤ zb) : 1 ≤ pa * pb ∧ 1 ≤ pa * qb + pb * qa ∧ 1 ≤ qa * qb ∧ pa * pb + (pa * qb + pb * qa) ≤ za * zb ∧ (pa * qb + pb * qa) + qa * qb ≤ za * zb := by
  have m1 := Int.mul_pos (show 0 < pa by omega) (show 0 < pb by omega)
  have m2 := Int.mul_pos (show 0 < pa by omega) (show 0 < qb by omega)
  have m3 := Int.mul_pos (show 0 < pb by omega) (show 0 < qa by omega)
  have m4 := Int.mul_pos (show 0 < qa by omega) (show 0 < qb by omega)
  have m5 := Int.mul_le_mul a3 b3 (show 0 ≤ pb + qb by omega) (show 0 ≤ za by omega)
  have e : (pa + qa) * (pb + qb) = pa * pb + (pa * qb + pb * qa) + qa * qb := by grind
  rw [e] at m5
  omega
theorem pq_b {s : Int → Int} (hs : s_ok s) : ∀ t : Tr, t_ok t → 1 ≤ (t_pq s t).1 ∧ 1 ≤ (t_pq s t).2 ∧ (t_pq s t).1 + (t_pq s t).2 ≤ (201 : Int) ^ t_lv t
  | .num p, h => by
    have := hs p h.1 h.2
    exact ⟨this.1, Int.le_refl _, by show s p + 1 ≤ (201 : Int) ^ 1; omega⟩
  | .neg x, h => pq_b hs x h
  | .add a b, h => by
    obtain ⟨a1, a2, a3⟩ := pq_b hs a h.1
    obtain ⟨b1, b2, b3⟩ := pq_b hs b h.2
    have m := pq_m a1 a2 a3 b1 b2 b3
    rw [← Int.pow_add] at m
    exact ⟨m.2.1, m.2.2.1, m.2.2.2.2⟩
  | .mul a b, h => by
    obtain ⟨a1, a2, a3⟩ := pq_b hs a h.1
    obtain ⟨b1, b2, b3⟩ := pq_b hs b h.2
    have m := pq_m a1 a2 a3 b1 b2 b3
    rw [← Int.pow_add] at m
    exact ⟨m.1, m.2.1, m.2.2.2.1⟩
  | .natCast _, h => h.elim
  | .intCast _, h => h.elim
  | .var _, h => h.elim
  | .sub _ _, h => h.elim
  | .pow _ _, h => h.elim
theorem z_pos (n : Nat) : 0 < (201 : Int) ^ n := Int.pow_pos (by omega)
theorem z_7 {n : Nat} (h : n ≤ 7) : (201 : Int) ^ n ≤ 13254776280841401 := by
  rcases (show n = 0 ∨ n = 1 ∨ n = 2 ∨ n = 3 ∨ n = 4 ∨ n = 5 ∨ n = 6 ∨ n = 7 by omega) with rfl | rfl | rfl | rfl | rfl | rfl | rfl | rfl <;> decide
theorem r_m {ra rb qa qb la lb za zb : Int} (a1 : -(la * 8000000 * za) ≤ ra ∧ ra ≤ la * 8000000 * za) (b1 : -(lb * 8000000 * zb) ≤ rb ∧ rb ≤ lb * 8000000 * zb) (a2 : 0 ≤ qa ∧ qa ≤ za) (b2 : 0 ≤ qb ∧ qb ≤ zb) : -((la + lb) * 8000000 * (za * zb)) ≤ ra * qb + rb * qa ∧ ra * qb + rb * qa ≤ (la + lb) * 8000000 * (za * zb) := by
  have m1 := mul_bd a1 (show -zb ≤ qb ∧ qb ≤ zb by omega)
  have m2 := mul_bd b1 (show -za ≤ qa ∧ qa ≤ za by omega)
  have e : (la + lb) * 8000000 * (za * zb) = la * 8000000 * za * zb + lb * 8000000 * zb * za := by grind
  rw [e]
  omega
theorem r_b {s e : Int → Int} (hs : s_ok s) (he : e_ok e) : ∀ t : Tr, t_ok t → -((t_lv t : Int) * 8000000 * (201 : Int) ^ t_lv t) ≤ t_r s e t ∧ t_r s e t ≤ (t_lv t : Int) * 8000000 * (201 : Int) ^ t_lv t
  | .num p, h => by
    have := he p h.1 h.2
    show -((1 : Int) * 8000000 * 201 ^ 1) ≤ e p ∧ e p ≤ (1 : Int) * 8000000 * 201 ^ 1
    omega
  | .neg x, h => r_b hs he x h
  | .add a b, h => by
    have ka := pq_b hs a h.1
    have kb := pq_b hs b h.2
    have m := r_m (r_b hs he a h.1) (r_b hs he b h.2) (show 0 ≤ (t_pq s a).2 ∧ (t_pq s a).2 ≤ (201 : Int) ^ t_lv a by omega) (show 0 ≤ (t_pq s b).2 ∧ (t_pq s b).2 ≤ (201 : Int) ^ t_lv b by omega)
    rw [← Int.pow_add] at m
    show -(((t_lv a + t_lv b : Nat) : Int) * 8000000 * _) ≤ _ ∧ _ ≤ ((t_lv a + t_lv b : Nat) : Int) * 8000000 * _
    rw [Int.natCast_add]
    exact m
  | .mul a b, h => by
    have ka := pq_b hs a h.1
    have kb := pq_b hs b h.2
    have m := r_m (r_b hs he a h.1) (r_b hs he b h.2) (show 0 ≤ (t_pq s a).1 ∧ (t_pq s a).1 ≤ (201 : Int) ^ t_lv a by omega) (show 0 ≤ (t_pq s b).1 ∧ (t_pq s b).1 ≤ (201 : Int) ^ t_lv b by omega)
    rw [← Int.pow_add] at m
    show -(((t_lv a + t_lv b : Nat) : Int) * 8000000 * _) ≤ _ ∧ _ ≤ ((t_lv a + t_lv b : Nat) : Int) * 8000000 * _
    rw [Int.natCast_add]
    exact m
  | .natCast _, h => h.elim
  | .intCast _, h => h.elim
  | .var _, h => h.elim
  | .sub _ _, h => h.elim
  | .pow _ _, h => h.elim
/-- for the trees of a path -/
theorem pq_bb {s : Int → Int} (hs : s_ok s) {t : Tr} (h : t_ok t) (hz : t_sz t ≤ 13) : 1 ≤ (t_pq s t).1 ∧ 1 ≤ (t_pq s t).2 ∧ (t_pq s t).1 + (t_pq s t).2 ≤ 13254776280841401 := by
  have a := pq_b hs t h
  have b := lv_sz t
  have c := z_7 (n := t_lv t) (by omega)
  omega
theorem r_bb {s e : Int → Int} (hs : s_ok s) (he : e_ok e) {t : Tr} (h : t_ok t) (hz : t_sz t ≤ 13) : -742267471727118456000000 ≤ t_r s e t ∧ t_r s e t ≤ 742267471727118456000000 := by
  have a := r_b hs he t h
  have b := lv_sz t
  have c := z_7 (n := t_lv t) (by omega)
  have d := z_pos (t_lv t)
  have l : (t_lv t : Int) ≤ 7 := by omega
  have m := Int.mul_le_mul (show (t_lv t : Int) * 8000000 ≤ 56000000 by omega) c (by omega) (by omega)
  omega
theorem ab_lt {v b : Int} (h : -b < v ∧ v < b) : cw_ab v < b := by unfold cw_ab; split <;> omega
theorem iw_x {p : Int} (h0 : 0 ≤ p) (h1 : p < 7) : IsW (152 + 2 * p) := by
  rcases (show p = 0 ∨ p = 1 ∨ p = 2 ∨ p = 3 ∨ p = 4 ∨ p = 5 ∨ p = 6 by omega) with rfl | rfl | rfl | rfl | rfl | rfl | rfl <;> exact isW_all _ (by decide)
theorem iw_e {p : Int} (h0 : 0 ≤ p) (h1 : p < 7) : IsW (254 + 2 * p) := by
  rcases (show p = 0 ∨ p = 1 ∨ p = 2 ∨ p = 3 ∨ p = 4 ∨ p = 5 ∨ p = 6 by omega) with rfl | rfl | rfl | rfl | rfl | rfl | rfl <;> exact isW_all _ (by decide)
theorem iw_r {p : Int} (h0 : 0 ≤ p) (h1 : p < 13) : IsW (173 + 2 * p) := by
  rcases (show p = 0 ∨ p = 1 ∨ p = 2 ∨ p = 3 ∨ p = 4 ∨ p = 5 ∨ p = 6 ∨ p = 7 ∨ p = 8 ∨ p = 9 ∨ p = 10 ∨ p = 11 ∨ p = 12 by omega) with rfl | rfl | rfl | rfl | rfl | rfl | rfl | rfl | rfl | rfl | rfl | rfl | rfl <;> exact isW_all _ (by decide)
theorem iw_f {p : Int} (h0 : 0 ≤ p) (h1 : p < 13) : IsW (200 + 2 * p) := by
  rcases (show p = 0 ∨ p = 1 ∨ p = 2 ∨ p = 3 ∨ p = 4 ∨ p = 5 ∨ p = 6 ∨ p = 7 ∨ p = 8 ∨ p = 9 ∨ p = 10 ∨ p = 11 ∨ p = 12 by omega) with rfl | rfl | rfl | rfl | rfl | rfl | rfl | rfl | rfl | rfl | rfl | rfl | rfl <;> exact isW_all _ (by decide)
theorem iw_d {p : Int} (h0 : 0 ≤ p) (h1 : p < 13) : IsW (227 + 2 * p) := by
  rcases (show p = 0 ∨ p = 1 ∨ p = 2 ∨ p = 3 ∨ p = 4 ∨ p = 5 ∨ p = 6 ∨ p = 7 ∨ p = 8 ∨ p = 9 ∨ p = 10 ∨ p = 11 ∨ p = 12 by omega) with rfl | rfl | rfl | rfl | rfl | rfl | rfl | rfl | rfl | rfl | rfl | rfl | rfl <;> exact isW_all _ (by decide)
theorem iw_0 : IsW 149 := isW_all _ (by decide)
theorem iw_1 : IsW 268 := isW_all _ (by decide)
theorem iw_2 : IsW 270 := isW_all _ (by decide)
theorem iw_3 : IsW 272 := isW_all _ (by decide)
theorem iw_4 : IsW 274 := isW_all _ (by decide)
theorem RW.cg {M M' : cw_M} {w v : Int} (h : RW M w v) (h1 : M' w = M w) (h2 : M' (w + 1) = M (w + 1)) : RW M' w v := by
  unfold RW
  rw [h1, h2]
  exact h
