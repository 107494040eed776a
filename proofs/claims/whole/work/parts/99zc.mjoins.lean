/-! the reference: joins -/
abbrev V3 : Type := Int × Int × Int
def nv (M : cw_M) (k : Int) (v : V3) : Prop := M 331 k = v.1 ∧ M 332 k = v.2.1 ∧ RM M (92 + k) v.2.2
def c_mu (a b : V3) : V3 := (a.1 * b.1, a.2.1 * b.1 + b.2.1 * a.1, a.2.2 * b.1 + b.2.2 * a.1)
def c_ad (a b : V3) : V3 := (a.1 * b.2.1 + b.1 * a.2.1, a.2.1 * b.2.1, a.2.2 * b.2.1 + b.2.2 * a.2.1)
def pv (s e : Int → Int) (t : Tr) : V3 := ((t_pq s t).1, (t_pq s t).2, t_r s e t)
theorem v3_ext {a b : V3} (h1 : a.1 = b.1) (h2 : a.2.1 = b.2.1) (h3 : a.2.2 = b.2.2) : a = b := by
  obtain ⟨a1, a2, a3⟩ := a
  obtain ⟨b1, b2, b3⟩ := b
  simp only at h1 h2 h3
  rw [h1, h2, h3]
theorem mu_1 {s e : Int → Int} {a b : Tr} : c_mu (pv s e b) (pv s e a) = pv s e (.mul a b) := by
  refine v3_ext ?_ ?_ ?_
  · show (t_pq s b).1 * (t_pq s a).1 = (t_pq s a).1 * (t_pq s b).1; grind
  · show (t_pq s b).2 * (t_pq s a).1 + (t_pq s a).2 * (t_pq s b).1 = (t_pq s a).1 * (t_pq s b).2 + (t_pq s b).1 * (t_pq s a).2; grind
  · show t_r s e b * (t_pq s a).1 + t_r s e a * (t_pq s b).1 = t_r s e a * (t_pq s b).1 + t_r s e b * (t_pq s a).1; grind
theorem mu_2 {s e : Int → Int} {a b : Tr} {A : V3} : c_mu (c_mu A (pv s e b)) (pv s e a) = c_mu A (pv s e (.mul a b)) := by
  refine v3_ext ?_ ?_ ?_
  · show A.1 * (t_pq s b).1 * (t_pq s a).1 = A.1 * ((t_pq s a).1 * (t_pq s b).1); grind
  · show (A.2.1 * (t_pq s b).1 + (t_pq s b).2 * A.1) * (t_pq s a).1 + (t_pq s a).2 * (A.1 * (t_pq s b).1) = A.2.1 * ((t_pq s a).1 * (t_pq s b).1) + ((t_pq s a).1 * (t_pq s b).2 + (t_pq s b).1 * (t_pq s a).2) * A.1; grind
  · show (A.2.2 * (t_pq s b).1 + t_r s e b * A.1) * (t_pq s a).1 + t_r s e a * (A.1 * (t_pq s b).1) = A.2.2 * ((t_pq s a).1 * (t_pq s b).1) + (t_r s e a * (t_pq s b).1 + t_r s e b * (t_pq s a).1) * A.1; grind
theorem ad_1 {s e : Int → Int} {a b : Tr} : c_ad (pv s e b) (pv s e a) = pv s e (.add a b) := by
  refine v3_ext ?_ ?_ ?_
  · show (t_pq s b).1 * (t_pq s a).2 + (t_pq s a).1 * (t_pq s b).2 = (t_pq s a).1 * (t_pq s b).2 + (t_pq s b).1 * (t_pq s a).2; grind
  · show (t_pq s b).2 * (t_pq s a).2 = (t_pq s a).2 * (t_pq s b).2; grind
  · show t_r s e b * (t_pq s a).2 + t_r s e a * (t_pq s b).2 = t_r s e a * (t_pq s b).2 + t_r s e b * (t_pq s a).2; grind
theorem ad_2 {s e : Int → Int} {a b : Tr} {A : V3} : c_ad (c_ad A (pv s e b)) (pv s e a) = c_ad A (pv s e (.add a b)) := by
  refine v3_ext ?_ ?_ ?_
  · show (A.1 * (t_pq s b).2 + (t_pq s b).1 * A.2.1) * (t_pq s a).2 + (t_pq s a).1 * (A.2.1 * (t_pq s b).2) = A.1 * ((t_pq s a).2 * (t_pq s b).2) + ((t_pq s a).1 * (t_pq s b).2 + (t_pq s b).1 * (t_pq s a).2) * A.2.1; grind
  · show A.2.1 * (t_pq s b).2 * (t_pq s a).2 = A.2.1 * ((t_pq s a).2 * (t_pq s b).2); grind
  · show (A.2.2 * (t_pq s b).2 + t_r s e b * A.2.1) * (t_pq s a).2 + t_r s e a * (A.2.1 * (t_pq s b).2) = A.2.2 * ((t_pq s a).2 * (t_pq s b).2) + (t_r s e a * (t_pq s b).2 + t_r s e b * (t_pq s a).2) * A.2.1; grind
/-- how large they are -/
def Bd (n : Nat) (v : V3) : Prop := 1 ≤ v.1 ∧ 1 ≤ v.2.1 ∧ v.1 + v.2.1 ≤ (201 : Int) ^ n ∧ -((n : Int) * 8000000 * (201 : Int) ^ n) ≤ v.2.2 ∧ v.2.2 ≤ (n : Int) * 8000000 * (201 : Int) ^ n
theorem bd_pv {s e : Int → Int} (hs : s_ok s) (he : e_ok e) {t : Tr} (h : t_ok t) : Bd (t_lv t) (pv s e t) := ⟨(pq_b hs t h).1, (pq_b hs t h).2.1, (pq_b hs t h).2.2, (r_b hs he t h).1, (r_b hs he t h).2⟩
theorem bd_mu {n m : Nat} {a b : V3} (ha : Bd n a) (hb : Bd m b) : Bd (n + m) (c_mu a b) := by
  obtain ⟨a1, a2, a3, a4, a5⟩ := ha
  obtain ⟨b1, b2, b3, b4, b5⟩ := hb
  have p := pq_m a1 a2 a3 b1 b2 b3
  have r := r_m ⟨a4, a5⟩ ⟨b4, b5⟩ (qa := a.1) (qb := b.1) (by omega) (by omega)
  unfold Bd c_mu
  rw [Int.pow_add, Int.natCast_add]
  have e : a.2.1 * b.1 + b.2.1 * a.1 = a.1 * b.2.1 + b.1 * a.2.1 := by grind
  rw [e]
  exact ⟨p.1, p.2.1, by have := p.2.2.2.1; omega, r.1, r.2⟩
theorem bd_ad {n m : Nat} {a b : V3} (ha : Bd n a) (hb : Bd m b) : Bd (n + m) (c_ad a b) := by
  obtain ⟨a1, a2, a3, a4, a5⟩ := ha
  obtain ⟨b1, b2, b3, b4, b5⟩ := hb
  have p := pq_m a1 a2 a3 b1 b2 b3
  have r := r_m ⟨a4, a5⟩ ⟨b4, b5⟩ (qa := a.2.1) (qb := b.2.1) (by omega) (by omega)
  unfold Bd c_ad
  rw [Int.pow_add, Int.natCast_add]
  exact ⟨p.2.1, p.2.2.1, by have := p.2.2.2.2; omega, r.1, r.2⟩
theorem bd_7 {n : Nat} {v : V3} (h : Bd n v) (hn : n ≤ 7) : (1 ≤ v.1 ∧ 1 ≤ v.2.1 ∧ v.1 + v.2.1 ≤ 13254776280841401) ∧ (-742267471727118456000000 ≤ v.2.2 ∧ v.2.2 ≤ 742267471727118456000000) := by
  obtain ⟨a1, a2, a3, a4, a5⟩ := h
  have z := z_7 hn
  have zp := z_pos n
  have m : (n : Int) * 8000000 * (201 : Int) ^ n ≤ 7 * 8000000 * 13254776280841401 := Int.mul_le_mul (by omega) z (by omega) (by omega)
  exact ⟨⟨a1, a2, by omega⟩, by omega, by omega⟩
/-- a register's cells are the same -/
def sR (M M' : cw_M) (s : Int) : Prop := M' 321 s = M 321 s ∧ M' 322 s = M 322 s ∧ ∀ j, 0 ≤ j → j < 32 → cw_rd M' s j = cw_rd M s j
theorem sR.rf {M : cw_M} {s : Int} : sR M M s := ⟨rfl, rfl, fun _ _ _ => rfl⟩
theorem sR.tr {M M1 M2 : cw_M} {s : Int} (h : sR M M1 s) (k : sR M1 M2 s) : sR M M2 s := ⟨k.1.trans h.1, k.2.1.trans h.2.1, fun j a b => (k.2.2 j a b).trans (h.2.2 j a b)⟩
theorem RM.sm {M M1 : cw_M} {s v : Int} (h : RM M s v) (k : sR M M1 s) : RM M1 s v := by
  obtain ⟨n, h1, h2, h3, h4, h5, h6⟩ := h
  have e : ∀ j : Nat, j < n → cw_rd M1 s j = cw_rd M s j := fun j hj => k.2.2 j (by omega) (by omega)
  refine ⟨n, h1, k.1.trans h2, fun j hj => by rw [e j hj]; exact h3 j hj, fun hn => ?_, ?_, k.2.1.trans h6⟩
  · have : ((n : Int) - 1) = ((n - 1 : Nat) : Int) := by omega
    have h4' := h4 hn
    rw [this] at h4' ⊢
    rw [e _ (by omega)]; exact h4'
  · rw [mg_cg n (fun j hj => e j hj)]; exact h5
/-- nodes of P alone may have changed -/
def Gu (P : Int → Prop) (M M' : cw_M) : Prop := Sh M' ∧ (∀ a, ¬ (320 ≤ a ∧ a ≤ 323) → a ≠ 331 → a ≠ 332 → M' a = M a) ∧ (∀ j, ¬ P j → M' 331 j = M 331 j ∧ M' 332 j = M 332 j) ∧ ∀ s, IR s → s ≠ 0 → s ≠ 1 → s ≠ 14 → (∀ j, P j → s ≠ 92 + j) → sR M M' s
theorem Gu.rf {P : Int → Prop} {M : cw_M} (h : Sh M) : Gu P M M := ⟨h, fun _ _ _ _ => rfl, fun _ _ => ⟨rfl, rfl⟩, fun _ _ _ _ _ _ => sR.rf⟩
theorem Gu.tr {P : Int → Prop} {M M1 M2 : cw_M} (h : Gu P M M1) (k : Gu P M1 M2) : Gu P M M2 := ⟨k.1, fun a x y z => (k.2.1 a x y z).trans (h.2.1 a x y z), fun j hj => ⟨(k.2.2.1 j hj).1.trans (h.2.2.1 j hj).1, (k.2.2.1 j hj).2.trans (h.2.2.1 j hj).2⟩, fun s a b c d e => (h.2.2.2 s a b c d e).tr (k.2.2.2 s a b c d e)⟩
theorem Gu.mo {P P' : Int → Prop} {M M1 : cw_M} (h : Gu P M M1) (k : ∀ j, P j → P' j) : Gu P' M M1 := ⟨h.1, h.2.1, fun j hj => h.2.2.1 j (fun z => hj (k j z)), fun s a b c d e => h.2.2.2 s a b c d (fun j z => e j (k j z))⟩
theorem gu_rf {P R : Int → Prop} {M M1 : cw_M} (hS : Sh M) (h : cw_rf R M M1) (hR : ∀ s, R s → s = 0 ∨ s = 1 ∨ s = 14 ∨ ∃ j, P j ∧ s = 92 + j) : Gu P M M1 := by
  refine ⟨hS.rf h, fun a x y z => h.1 a x, fun j _ => ⟨by rw [h.1 331 (by omega)], by rw [h.1 332 (by omega)]⟩, fun s a b c d e => h.2 s a (fun q => ?_)⟩
  rcases hR s q with z | z | z | ⟨j, z1, z2⟩
  · exact b z
  · exact c z
  · exact d z
  · exact e j z1 z2
theorem gu_up {P : Int → Prop} {M M1 : cw_M} {a k v : Int} (h : Gu P M M1) (ha : a = 331 ∨ a = 332) (hk : P k) : Gu P M (cw_up M1 a k v) := by
  have n : ∀ c : Int, ¬ (c = 331 ∨ c = 332) → (cw_up M1 a k v) c = M1 c := fun c hc => cw_up_ne (fun z => hc (by omega))
  refine ⟨h.1.up (by rcases ha with rfl | rfl; exact rs_k c_k331 (by decide); exact rs_k c_k332 (by decide)), fun c x y z => by rw [n c (by omega)]; exact h.2.1 c x y z, fun j hj => ?_, fun s b c d e i => ?_⟩
  · have jk : j ≠ k := fun z => hj (by rw [z]; exact hk)
    have o := h.2.2.1 j hj
    rcases ha with rfl | rfl
    · rw [w_up2 jk, cw_up_ne (by omega)]; exact o
    · rw [w_up2 jk, cw_up_ne (by omega)]; exact o
  · have o := h.2.2.2 s b c d e i
    refine ⟨by rw [n 321 (by omega)]; exact o.1, by rw [n 322 (by omega)]; exact o.2.1, fun j x y => ?_⟩
    have := o.2.2 j x y
    unfold cw_rd at this ⊢
    rw [n 320 (by omega)]; exact this
theorem nv_cg {P : Int → Prop} {M M1 : cw_M} {k : Int} {v : V3} (h : nv M k v) (g : Gu P M M1) (hk : ¬ P k) (k0 : 0 ≤ k ∧ k < 66) : nv M1 k v := by
  have o := g.2.2.1 k hk
  exact ⟨o.1.trans h.1, o.2.trans h.2.1, h.2.2.sm (g.2.2.2 _ ⟨by omega, by omega⟩ (by omega) (by omega) (by omega) (fun j hj z => hk (by rw [show k = j by omega]; exact hj)))⟩
