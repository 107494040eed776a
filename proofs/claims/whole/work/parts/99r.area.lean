/-! what is stored: areas; sums over the pieces of a tree -/
/-- twice the area under a push that is held at b -/
def c_q (b x : Int) : Int := if cw_ab x ≤ b then x * x else 2 * b * cw_ab x - b * b
theorem cq_lo {b x : Int} (h : cw_ab x ≤ b) : c_q b x = x * x := if_pos h
theorem ab_sq (x : Int) : cw_ab x * cw_ab x = x * x := by
  unfold cw_ab; split
  · rfl
  · rw [Int.neg_mul_neg]
theorem cq_hi {b x : Int} (h : b ≤ cw_ab x) : c_q b x = 2 * b * cw_ab x - b * b := by
  unfold c_q
  split
  · have e : cw_ab x = b := by omega
    rw [← ab_sq, e]; grind
  · rfl
theorem ab_k {k x : Int} (h : 0 < k) : cw_ab (k * x) = k * cw_ab x := by
  rw [ab_mul]; congr 1; unfold cw_ab; rw [if_pos (by omega)]
theorem cq_k {b x k : Int} (h : 0 < k) : c_q (k * b) (k * x) = k * k * c_q b x := by
  by_cases c : cw_ab x ≤ b
  · rw [cq_lo c, cq_lo (by rw [ab_k h]; exact Int.mul_le_mul_of_nonneg_left c (by omega))]; grind
  · rw [cq_hi (b := b) (by omega), cq_hi (by rw [ab_k h]; exact Int.mul_le_mul_of_nonneg_left (by omega) (by omega)), ab_k h]; grind
/-- twice what a piece stores of a push x above w, above w w -/
def c_a (f : Int → Int) (t p w x : Int) : Int := if f (10 + 12 * p) = 1 then f (100 + 24 * p + t) * (x * x) else f (15 + 12 * p) * (x * x) + (f (13 + 12 * p) - f (15 + 12 * p)) * c_q (f (14 + 12 * p) * w) x + (f (11 + 12 * p) - f (13 + 12 * p)) * c_q (f (12 + 12 * p) * w) x
theorem ca_k {f : Int → Int} {t p w x k : Int} (h : 0 < k) : c_a f t p (k * w) (k * x) = k * k * c_a f t p w x := by
  unfold c_a
  split
  · grind
  · rw [show f (14 + 12 * p) * (k * w) = k * (f (14 + 12 * p) * w) by grind, show f (12 + 12 * p) * (k * w) = k * (f (12 + 12 * p) * w) by grind, cq_k h, cq_k h]; grind
theorem tm_ca {f fl : Int → Int} {n t p w : Int} {k X : Int → Int} (hW : WF n f fl) (hp : 0 ≤ p ∧ p < f 0) (hw : 0 < w) (hg : f (10 + 12 * p) = 1 → k p = 0) (hi : f (10 + 12 * p) = 0 → l_in f p (k p) w (X p)) : st_tm f t w k X p = c_a f t p w (X p) := by
  unfold st_tm c_a
  by_cases g : f (10 + 12 * p) = 1
  · rw [if_pos g, hg g]
    unfold l_s l_o sh_f
    rw [if_pos g, if_neg (by omega), show cw_ab 0 = 0 from rfl, if_neg (by omega), if_neg (by omega), if_neg (by omega), if_neg (by omega)]
    grind
  · rw [if_neg g]
    have g0 := (gap_1 hW hp).resolve_right g
    have gi : cw_ir f p := (hW.2.1 p hp.1 hp.2).resolve_left (fun z => g z.1)
    unfold cw_ir at gi
    have b12 : 0 < f (12 + 12 * p) * w := Int.mul_pos (by omega) hw
    have b14 : f (12 + 12 * p) * w ≤ f (14 + 12 * p) * w := Int.mul_le_mul_of_nonneg_right (by omega) (by omega)
    have h := hi g0
    unfold l_in at h
    unfold l_s l_o sh_f
    rw [if_neg g]
    rcases h with ⟨e, h⟩ | ⟨e, h, h'⟩ | ⟨e, h, h'⟩ | ⟨e, h, h'⟩ | ⟨e, h⟩ <;> rw [e]
    · have a : cw_ab (X p) = X p := by unfold cw_ab; rw [if_pos (by omega)]
      rw [if_neg (by omega), show cw_ab 2 = 2 from rfl, if_pos (by omega), if_pos (by omega), if_pos (by omega), if_pos (by omega), cq_hi (by omega), cq_hi (by omega), a, show 11 + 12 * p + 2 * 2 = 15 + 12 * p by omega]
      grind
    · have a : cw_ab (X p) = X p := by unfold cw_ab; rw [if_pos (by omega)]
      rw [if_neg (by omega), show cw_ab 1 = 1 from rfl, if_pos (by omega), if_neg (by omega), if_pos (by omega), if_neg (by omega), cq_lo (by omega), cq_hi (by omega), a, show 11 + 12 * p + 2 * 1 = 13 + 12 * p by omega]
      grind
    · have a : cw_ab (X p) ≤ f (12 + 12 * p) * w := ab_rng ⟨by omega, by omega⟩
      rw [if_neg (by omega), show cw_ab 0 = 0 from rfl, if_neg (by omega), if_neg (by omega), if_neg (by omega), if_neg (by omega), cq_lo (by omega), cq_lo (by omega), show 11 + 12 * p + 2 * 0 = 11 + 12 * p by omega]
      grind
    · have a : cw_ab (X p) = -X p := by unfold cw_ab; rw [if_neg (by omega)]
      rw [if_pos (by omega), show cw_ab (-1) = 1 from rfl, if_pos (by omega), if_neg (by omega), if_pos (by omega), if_neg (by omega), cq_lo (by omega), cq_hi (by omega), a, show 11 + 12 * p + 2 * 1 = 13 + 12 * p by omega]
      grind
    · have a : cw_ab (X p) = -X p := by unfold cw_ab; rw [if_neg (by omega)]
      rw [if_pos (by omega), show cw_ab (-2) = 2 from rfl, if_pos (by omega), if_pos (by omega), if_pos (by omega), if_pos (by omega), cq_hi (by omega), cq_hi (by omega), a, show 11 + 12 * p + 2 * 2 = 15 + 12 * p by omega]
      grind
/-- how often a letter stands in a tree -/
def t_ix : Tr → Int → Int := fun t => match t with
  | .num p => fun q => if q = p then 1 else 0
  | .neg x => fun q => t_ix x q
  | .add a b => fun q => t_ix a q + t_ix b q
  | .mul a b => fun q => t_ix a q + t_ix b q
  | _ => fun _ => 0
theorem ix_nn : ∀ (t : Tr) (q : Int), 0 ≤ t_ix t q
  | .num p, q => by show 0 ≤ (if q = p then (1 : Int) else 0); split <;> omega
  | .neg x, q => ix_nn x q
  | .add a b, q => by have := ix_nn a q; have := ix_nn b q; show 0 ≤ t_ix a q + t_ix b q; omega
  | .mul a b, q => by have := ix_nn a q; have := ix_nn b q; show 0 ≤ t_ix a q + t_ix b q; omega
  | .natCast _, _ => Int.le_refl _
  | .intCast _, _ => Int.le_refl _
  | .var _, _ => Int.le_refl _
  | .sub _ _, _ => Int.le_refl _
  | .pow _ _, _ => Int.le_refl _
theorem ix_in : ∀ (t : Tr) (q : Int), 0 < t_ix t q ↔ t_in t q
  | .num p, q => by
    show 0 < (if q = p then (1 : Int) else 0) ↔ q = p
    split <;> omega
  | .neg x, q => ix_in x q
  | .add a b, q => by
    have na := ix_nn a q
    have nb := ix_nn b q
    show 0 < t_ix a q + t_ix b q ↔ (t_in a q ∨ t_in b q)
    refine ⟨fun h => ?_, fun h => ?_⟩
    · by_cases c : 0 < t_ix a q
      · exact Or.inl ((ix_in a q).mp c)
      · exact Or.inr ((ix_in b q).mp (by omega))
    · rcases h with h | h
      · have := (ix_in a q).mpr h; omega
      · have := (ix_in b q).mpr h; omega
  | .mul a b, q => by
    have na := ix_nn a q
    have nb := ix_nn b q
    show 0 < t_ix a q + t_ix b q ↔ (t_in a q ∨ t_in b q)
    refine ⟨fun h => ?_, fun h => ?_⟩
    · by_cases c : 0 < t_ix a q
      · exact Or.inl ((ix_in a q).mp c)
      · exact Or.inr ((ix_in b q).mp (by omega))
    · rcases h with h | h
      · have := (ix_in a q).mpr h; omega
      · have := (ix_in b q).mpr h; omega
  | .natCast _, _ => ⟨fun h => absurd h (by show ¬ (0 : Int) < 0; omega), fun h => h.elim⟩
  | .intCast _, _ => ⟨fun h => absurd h (by show ¬ (0 : Int) < 0; omega), fun h => h.elim⟩
  | .var _, _ => ⟨fun h => absurd h (by show ¬ (0 : Int) < 0; omega), fun h => h.elim⟩
  | .sub _ _, _ => ⟨fun h => absurd h (by show ¬ (0 : Int) < 0; omega), fun h => h.elim⟩
  | .pow _ _, _ => ⟨fun h => absurd h (by show ¬ (0 : Int) < 0; omega), fun h => h.elim⟩
/-- each letter once -/
def t_1 (T : Tr) : Prop := ∀ q, t_ix T q ≤ 1
theorem dc_ix {K F S V : Int → Int} : ∀ (t : Tr) (lo : Int), t_dc K F S V t lo → t_1 t
  | .num p, lo, _, q => by show (if q = p then (1 : Int) else 0) ≤ 1; split <;> omega
  | .neg x, lo, d, q => dc_ix x lo d q
  | .add a b, lo, d, q => by
    have h1 := dc_ix a _ d.1 q; have h2 := dc_ix b _ d.2.1 q
    have n1 := ix_nn a q; have n2 := ix_nn b q
    show t_ix a q + t_ix b q ≤ 1
    by_cases c1 : 0 < t_ix a q
    · by_cases c2 : 0 < t_ix b q
      · have := dc_lf a _ d.1 q ((ix_in a q).mp c1)
        have := dc_lf b _ d.2.1 q ((ix_in b q).mp c2)
        omega
      · omega
    · omega
  | .mul a b, lo, d, q => by
    have h1 := dc_ix a _ d.1 q; have h2 := dc_ix b _ d.2.1 q
    have n1 := ix_nn a q; have n2 := ix_nn b q
    show t_ix a q + t_ix b q ≤ 1
    by_cases c1 : 0 < t_ix a q
    · by_cases c2 : 0 < t_ix b q
      · have := dc_lf a _ d.1 q ((ix_in a q).mp c1)
        have := dc_lf b _ d.2.1 q ((ix_in b q).mp c2)
        omega
      · omega
    · omega
/-- the sum over pieces by their number -/
def k_ix (c h : Int → Int) : Nat → Int := fun n => match n with
  | 0 => 0
  | n + 1 => k_ix c h n + c n * h n
theorem kix_0 {c h : Int → Int} (hc : ∀ q, c q = 0) : ∀ n, k_ix c h n = 0
  | 0 => rfl
  | n + 1 => by show k_ix c h n + c n * h n = 0; rw [kix_0 hc n, hc]; omega
theorem kix_ad {a b h : Int → Int} : ∀ n, k_ix (fun q => a q + b q) h n = k_ix a h n + k_ix b h n
  | 0 => rfl
  | n + 1 => by show k_ix _ h n + (a n + b n) * h n = (k_ix a h n + a n * h n) + (k_ix b h n + b n * h n); rw [kix_ad n]; grind
theorem kix_1 {h : Int → Int} {p : Int} : ∀ n : Nat, k_ix (fun q => if q = p then 1 else 0) h n = if 0 ≤ p ∧ p < n then h p else 0
  | 0 => by show (0 : Int) = _; rw [if_neg (by omega)]
  | n + 1 => by
    show k_ix _ h n + (if (n : Int) = p then 1 else 0) * h n = _
    rw [kix_1 n]
    by_cases c : (n : Int) = p
    · rw [if_neg (by omega), if_pos c, if_pos (by omega), ← c]; omega
    · rw [if_neg c]
      by_cases d : 0 ≤ p ∧ p < n
      · rw [if_pos d, if_pos (by omega)]; omega
      · rw [if_neg d, if_neg (by omega)]; omega
theorem kix_tl {h : Int → Int} {n : Nat} : ∀ T : Tr, (∀ q, t_in T q → 0 ≤ q ∧ q < n) → k_ix (t_ix T) h n = t_tl h T
  | .num p, hT => by
    show k_ix (fun q => if q = p then 1 else 0) h n = h p
    rw [kix_1, if_pos (hT p rfl)]
  | .neg x, hT => kix_tl x hT
  | .add a b, hT => by
    show k_ix (fun q => t_ix a q + t_ix b q) h n = t_tl h a + t_tl h b
    rw [kix_ad, kix_tl a (fun q hq => hT q (Or.inl hq)), kix_tl b (fun q hq => hT q (Or.inr hq))]
  | .mul a b, hT => by
    show k_ix (fun q => t_ix a q + t_ix b q) h n = t_tl h a + t_tl h b
    rw [kix_ad, kix_tl a (fun q hq => hT q (Or.inl hq)), kix_tl b (fun q hq => hT q (Or.inr hq))]
  | .natCast _, _ => kix_0 (fun _ => rfl) n
  | .intCast _, _ => kix_0 (fun _ => rfl) n
  | .var _, _ => kix_0 (fun _ => rfl) n
  | .sub _ _, _ => kix_0 (fun _ => rfl) n
  | .pow _ _, _ => kix_0 (fun _ => rfl) n
theorem ksm_ix {L h : Int → Int} {T : Tr} (h1 : t_1 T) {m : Nat} (hL : ∀ p : Int, 0 ≤ p → p < m → (L p = -1 ↔ ¬ t_in T p)) : ∀ n : Nat, n ≤ m → k_sm L h n = k_ix (t_ix T) h n
  | 0, _ => rfl
  | n + 1, hn => by
    show k_sm L h n + (if L n = -1 then 0 else h n) = k_ix (t_ix T) h n + t_ix T n * h n
    rw [ksm_ix h1 hL n (by omega)]
    have e := hL n (by omega) (by omega)
    have i := ix_in T n
    have u := h1 n
    have z := ix_nn T n
    by_cases c : L n = -1
    · have : t_ix T n = 0 := by have y := e.mp c; have : ¬ 0 < t_ix T n := fun x => y (i.mp x); omega
      rw [if_pos c, this]; omega
    · have : t_in T n := Classical.byContradiction (fun y => c (e.mpr y))
      have := i.mpr this
      have : t_ix T n = 1 := by omega
      rw [if_neg c, this]; omega
theorem ksm_tl {L h : Int → Int} {T : Tr} {n : Nat} (h1 : t_1 T) (hn : n ≤ 7) (hT : ∀ q, t_in T q → 0 ≤ q ∧ q < n) (hL : ∀ p : Int, 0 ≤ p → p < 7 → (L p = -1 ↔ ¬ t_in T p)) : k_sm L h n = t_tl h T := by
  rw [ksm_ix (m := 7) h1 hL n hn, kix_tl T hT]
theorem tl_cg {g h : Int → Int} : ∀ T : Tr, (∀ p, t_in T p → g p = h p) → t_tl g T = t_tl h T
  | .num p, e => e p rfl
  | .neg x, e => tl_cg x e
  | .add a b, e => by show t_tl g a + t_tl g b = t_tl h a + t_tl h b; rw [tl_cg a (fun p hp => e p (Or.inl hp)), tl_cg b (fun p hp => e p (Or.inr hp))]
  | .mul a b, e => by show t_tl g a + t_tl g b = t_tl h a + t_tl h b; rw [tl_cg a (fun p hp => e p (Or.inl hp)), tl_cg b (fun p hp => e p (Or.inr hp))]
  | .natCast _, _ => rfl
  | .intCast _, _ => rfl
  | .var _, _ => rfl
  | .sub _ _, _ => rfl
  | .pow _ _, _ => rfl
theorem tl_k {g : Int → Int} {k : Int} : ∀ T : Tr, t_tl (fun p => k * g p) T = k * t_tl g T
  | .num p => rfl
  | .neg x => tl_k x
  | .add a b => by show t_tl _ a + t_tl _ b = k * (t_tl g a + t_tl g b); rw [tl_k a, tl_k b]; grind
  | .mul a b => by show t_tl _ a + t_tl _ b = k * (t_tl g a + t_tl g b); rw [tl_k a, tl_k b]; grind
  | .natCast _ => by show (0 : Int) = k * 0; omega
  | .intCast _ => by show (0 : Int) = k * 0; omega
  | .var _ => by show (0 : Int) = k * 0; omega
  | .sub _ _ => by show (0 : Int) = k * 0; omega
  | .pow _ _ => by show (0 : Int) = k * 0; omega
/-- a fraction in lowest terms is one alone -/
theorem fr_low {a b c d : Int} (hb : 0 < b) (hd : 0 < d) (h : a * d = c * b) : a / cw_gd b a = c / cw_gd d c ∧ b / cw_gd b a = d / cw_gd d c := by
  obtain ⟨g1, ⟨x, hx⟩, ⟨y, hy⟩⟩ := gd_dvd (a := a) hb
  obtain ⟨g2, ⟨z, hz⟩, ⟨u, hu⟩⟩ := gd_dvd (a := c) hd
  have c1 : Int.gcd y x = 1 := by
    have e : cw_gd b a = ((Int.gcd b a : Nat) : Int) := rfl
    have : Int.gcd (cw_gd b a * y) (cw_gd b a * x) = (cw_gd b a).natAbs * Int.gcd y x := Int.gcd_mul_left ..
    rw [← hy, ← hx] at this
    have p : 0 < Int.gcd b a := by omega
    rw [e, Int.natAbs_natCast] at this
    exact Nat.eq_of_mul_eq_mul_left p (by omega)
  have c2 : Int.gcd u z = 1 := by
    have e : cw_gd d c = ((Int.gcd d c : Nat) : Int) := rfl
    have : Int.gcd (cw_gd d c * u) (cw_gd d c * z) = (cw_gd d c).natAbs * Int.gcd u z := Int.gcd_mul_left ..
    rw [← hu, ← hz] at this
    have p : 0 < Int.gcd d c := by omega
    rw [e, Int.natAbs_natCast] at this
    exact Nat.eq_of_mul_eq_mul_left p (by omega)
  have y0 : 0 < y := by
    rcases Int.lt_trichotomy y 0 with q | q | q
    · have := Int.mul_neg_of_pos_of_neg g1 q; omega
    · rw [q] at hy; omega
    · exact q
  have u0 : 0 < u := by
    rcases Int.lt_trichotomy u 0 with q | q | q
    · have := Int.mul_neg_of_pos_of_neg g2 q; omega
    · rw [q] at hu; omega
    · exact q
  have ex : a / cw_gd b a = x := by conv => lhs; lhs; rw [hx]
                                    exact Int.mul_ediv_cancel_left x (by omega)
  have ey : b / cw_gd b a = y := by conv => lhs; lhs; rw [hy]
                                    exact Int.mul_ediv_cancel_left y (by omega)
  have ez : c / cw_gd d c = z := by conv => lhs; lhs; rw [hz]
                                    exact Int.mul_ediv_cancel_left z (by omega)
  have eu : d / cw_gd d c = u := by conv => lhs; lhs; rw [hu]
                                    exact Int.mul_ediv_cancel_left u (by omega)
  rw [ex, ey, ez, eu]
  have k : x * u = z * y := by
    have m : cw_gd b a * cw_gd d c * (x * u) = cw_gd b a * cw_gd d c * (z * y) := by
      have l : a * d = cw_gd b a * cw_gd d c * (x * u) := by conv => lhs; rw [hx, hu]
                                                             grind
      have r : c * b = cw_gd b a * cw_gd d c * (z * y) := by conv => lhs; rw [hz, hy]
                                                             grind
      rw [← l, ← r]; exact h
    exact Int.eq_of_mul_eq_mul_left (by have := Int.mul_pos g1 g2; omega) m
  have d1 : y ∣ u := Int.natAbs_dvd_natAbs.mp (Nat.Coprime.dvd_of_dvd_mul_left (m := x.natAbs) c1 ⟨z.natAbs, by rw [← Int.natAbs_mul, k, Int.natAbs_mul, Nat.mul_comm]⟩)
  have d2 : u ∣ y := Int.natAbs_dvd_natAbs.mp (Nat.Coprime.dvd_of_dvd_mul_left (m := z.natAbs) c2 ⟨x.natAbs, by rw [← Int.natAbs_mul, ← k, Int.natAbs_mul, Nat.mul_comm]⟩)
  have yu : y = u := Int.le_antisymm (Int.le_of_dvd u0 d1) (Int.le_of_dvd y0 d2)
  refine ⟨?_, yu⟩
  rw [← yu] at k
  exact Int.eq_of_mul_eq_mul_right (by omega) k
