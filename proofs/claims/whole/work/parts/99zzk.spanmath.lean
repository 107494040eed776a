/-! the star times a turn: the sum of a span is nought just where the star is, or the turn is none -/
theorem tm_s {x S : Int} (hx : 0 ≤ x) (hS : 0 < S) : (x + 1).tmod S = if x.tmod S + 1 = S then 0 else x.tmod S + 1 := by
  rw [Int.tmod_eq_emod_of_nonneg (by omega), Int.tmod_eq_emod_of_nonneg hx]
  have a := Int.emod_nonneg x (show S ≠ 0 by omega)
  have b := Int.emod_lt_of_pos x hS
  have e := Int.emod_add_mul_ediv x S
  by_cases q : x % S + 1 = S
  · rw [if_pos q, show x + 1 = 0 + S * (x / S + 1) by rw [Int.mul_add]; omega, Int.add_mul_emod_self_left]; rfl
  · rw [if_neg q]
    have : x + 1 = (x % S + 1) + S * (x / S) := by omega
    conv => lhs; rw [this]
    rw [Int.add_mul_emod_self_left, Int.emod_eq_of_lt (by omega) (by omega)]
theorem rg_2 (a b c s p q : Int) : a - b * c + s * (p - q * c) = (a + s * p) - (b + s * q) * c := by grind
theorem rg_3 (b c s q : Int) : 0 - b * c + s * (0 - q * c) = 0 - (b + s * q) * c := by grind
theorem tt_z {s : Int → Int} {S k on i : Int} (h6 : 6 ≤ S ∧ S ≤ 24) (hk : 0 ≤ k) (ho : 0 ≤ on) (hi : 0 ≤ i ∧ i < y_w S) {n : Int} (hn : 0 ≤ n) :
    y_tt s S k (on + 1) i n = (if i = 0 then 0 else y_tt s S k on (i - 1) n) - y_tt s S k on (y_w S - 1) n * y_cy S i := by
  refine sm_ind (P := fun n => y_tt s S k (on + 1) i n = (if i = 0 then 0 else y_tt s S k on (i - 1) n) - y_tt s S k on (y_w S - 1) n * y_cy S i) ?_ ?_ hn
  · show y_tt s S k (on + 1) i 0 = (if i = 0 then 0 else y_tt s S k on (i - 1) 0) - y_tt s S k on (y_w S - 1) 0 * y_cy S i
    unfold y_tt
    rw [sm_0, sm_0, sm_0, ite_self, Int.zero_mul]; rfl
  · intro n h0 ih
    have ih : y_tt s S k (on + 1) i n = (if i = 0 then 0 else y_tt s S k on (i - 1) n) - y_tt s S k on (y_w S - 1) n * y_cy S i := ih
    have st : ∀ o l : Int, y_tt s S k o l (n + 1) = y_tt s S k o l n + s n * y_pw S ((k * n + o).tmod S) l := fun o l => sm_s h0
    have m0 : 0 ≤ k * n := Int.mul_nonneg hk h0
    have e0 := Int.tmod_nonneg S (show 0 ≤ k * n + on by omega)
    have e1 := Int.tmod_lt_of_pos (k * n + on) (show 0 < S by omega)
    have p := pw_st h6 ⟨e0, e1⟩ hi
    rw [← tm_s (show 0 ≤ k * n + on by omega) (show 0 < S by omega), Int.add_assoc] at p
    show y_tt s S k (on + 1) i (n + 1) = (if i = 0 then 0 else y_tt s S k on (i - 1) (n + 1)) - y_tt s S k on (y_w S - 1) (n + 1) * y_cy S i
    rw [st, st, st, ih, p]
    by_cases z : i = 0
    · rw [if_pos z, if_pos z, if_pos z]; exact rg_3 _ _ _ _
    · rw [if_neg z, if_neg z, if_neg z]; exact rg_2 _ _ _ _ _ _
theorem tt_sh {s s' : Int → Int} {S k k' x y : Int} (h6 : 6 ≤ S ∧ S ≤ 24) (hk : 0 ≤ k) (hk' : 0 ≤ k') (hx : 0 ≤ x) (hy : 0 ≤ y) (h : ∀ i : Int, 0 ≤ i → i < y_w S → y_tt s S k x i S = y_tt s' S k' y i S) :
    ∀ (t : Nat) (i : Int), 0 ≤ i → i < y_w S → y_tt s S k (x + t) i S = y_tt s' S k' (y + t) i S := by
  have w := y_w_b h6
  intro t
  induction t with
  | zero => intro i i0 i1; rw [show x + ((0 : Nat) : Int) = x by omega, show y + ((0 : Nat) : Int) = y by omega]; exact h i i0 i1
  | succ t ih =>
    intro i i0 i1
    rw [show x + ((t + 1 : Nat) : Int) = (x + t) + 1 by omega, show y + ((t + 1 : Nat) : Int) = (y + t) + 1 by omega, tt_z h6 hk (by omega) ⟨i0, i1⟩ (by omega), tt_z h6 hk' (by omega) ⟨i0, i1⟩ (by omega), ih (y_w S - 1) (by omega) (by omega)]
    by_cases z : i = 0
    · rw [if_pos z, if_pos z]
    · rw [if_neg z, if_neg z, ih (i - 1) (by omega) (by omega)]
theorem tt_0 {s : Int → Int} {S k x : Int} (h6 : 6 ≤ S ∧ S ≤ 24) (hk : 0 ≤ k) (hx : 0 ≤ x) (h : ∀ i : Int, 0 ≤ i → i < y_w S → y_tt s S k x i S = 0) :
    ∀ (t : Nat) (i : Int), 0 ≤ i → i < y_w S → y_tt s S k (x + t) i S = 0 := by
  intro t i i0 i1
  have zz : ∀ (o l : Int), y_tt (fun _ => 0) S k o l S = 0 := fun o l => sm_z (by omega) (fun j _ _ => by show 0 * _ = _; rw [Int.zero_mul])
  have := tt_sh (s' := fun _ => 0) (k' := k) (y := x) h6 hk hk hx hx (fun i i0 i1 => by rw [h i i0 i1, zz]) t i i0 i1
  rw [this, zz]
theorem sp_iff {s : Int → Int} {S k c : Int} (h6 : 6 ≤ S ∧ S ≤ 24) (hk : 0 ≤ k) (hc : 0 ≤ c) :
    ((∀ i : Int, 0 ≤ i → i < y_w S → y_tt s S k 0 i S = 0) ∨ (k * c).tmod S = 0) ↔ ∀ i : Int, 0 ≤ i → i < y_w S → y_tt s S k 0 i S = y_tt s S k (k * c) i S := by
  have m0 : 0 ≤ k * c := Int.mul_nonneg hk hc
  constructor
  · rintro (h | h)
    · intro i i0 i1
      have := tt_0 h6 hk (by omega) h (k * c).toNat i i0 i1
      rw [show (0 : Int) + ((k * c).toNat : Int) = k * c by omega] at this
      rw [this, h i i0 i1]
    · intro i i0 i1
      refine sm_cg (fun j j0 j1 => ?_)
      show s j * y_pw S ((k * j + 0).tmod S) i = s j * y_pw S ((k * j + k * c).tmod S) i
      have n0 : 0 ≤ k * j := Int.mul_nonneg hk j0
      rw [Int.tmod_eq_emod_of_nonneg m0] at h
      rw [Int.tmod_eq_emod_of_nonneg (by omega), Int.tmod_eq_emod_of_nonneg (by omega), Int.add_zero, ← Int.add_emod_emod, h, Int.add_zero]
  · intro h
    by_cases hz : (k * c).tmod S = 0
    · exact Or.inr hz
    refine Or.inl (fun i i0 i1 => ?_)
    have a0 := Int.tmod_nonneg S m0
    have a1 := Int.tmod_lt_of_pos (k * c) (show 0 < S by omega)
    have rep : ∀ (m : Nat) (i : Int), 0 ≤ i → i < y_w S → y_tt s S k (m * (k * c)) i S = y_tt s S k 0 i S := by
      intro m
      induction m with
      | zero => intro i i0 i1; rw [show ((0 : Nat) : Int) * (k * c) = 0 from Int.zero_mul _]
      | succ m ih =>
        intro i i0 i1
        have n0 : 0 ≤ (m : Int) * (k * c) := Int.mul_nonneg (by omega) m0
        have := tt_sh h6 hk hk (by omega) m0 h ((m : Int) * (k * c)).toNat i i0 i1
        rw [show (0 : Int) + (((m : Int) * (k * c)).toNat : Int) = (m : Int) * (k * c) by omega, show k * c + (((m : Int) * (k * c)).toNat : Int) = k * c + (m : Int) * (k * c) by omega] at this
        rw [show ((m + 1 : Nat) : Int) * (k * c) = k * c + (m : Int) * (k * c) by rw [show ((m + 1 : Nat) : Int) = (m : Int) + 1 by omega, Int.add_mul, Int.one_mul]; omega, ← this]
        exact ih i i0 i1
    have g0 : ∀ i : Int, 0 ≤ i → i < y_w S → y_tt (fun _ => 1) S (k * c) 0 i S = 0 := by
      intro i i0 i1
      have p := pw_tn h6 (a := (k * c).tmod S) ⟨by omega, a1⟩ ⟨i0, i1⟩
      have p : y_sm (fun j => y_pw S (((k * c).tmod S * j).tmod S) i) S = 0 := p
      refine Eq.trans ?_ p
      refine sm_cg (fun j j0 j1 => ?_)
      show 1 * y_pw S ((k * c * j + 0).tmod S) i = _
      have n0 : 0 ≤ k * c * j := Int.mul_nonneg m0 j0
      have n1 : 0 ≤ (k * c).tmod S * j := Int.mul_nonneg a0 j0
      rw [Int.one_mul, Int.add_zero, Int.tmod_eq_emod_of_nonneg n0, Int.tmod_eq_emod_of_nonneg n1, Int.tmod_eq_emod_of_nonneg m0]
      congr 1
      rw [Int.mul_emod (k * c % S) j S, Int.emod_emod_of_dvd _ (Int.dvd_refl S), ← Int.mul_emod]
    have g1 : ∀ j i : Int, 0 ≤ j → 0 ≤ i → i < y_w S → y_sm (fun m => y_pw S ((k * j + m * (k * c)).tmod S) i) S = 0 := by
      intro j i j0 i0 i1
      have n0 : 0 ≤ k * j := Int.mul_nonneg hk j0
      have := tt_0 h6 m0 (by omega) g0 (k * j).toNat i i0 i1
      rw [show (0 : Int) + ((k * j).toNat : Int) = k * j by omega] at this
      refine Eq.trans ?_ this
      refine sm_cg (fun m _ _ => ?_)
      show _ = 1 * y_pw S ((k * c * m + k * j).tmod S) i
      rw [Int.one_mul, Int.add_comm (k * j), Int.mul_comm m]
    have big : y_sm (fun m => y_tt s S k (m * (k * c)) i S) S = S * y_tt s S k 0 i S := by
      have : y_sm (fun m => y_tt s S k (m * (k * c)) i S) S = y_sm (fun _ => y_tt s S k 0 i S * 1) S := sm_cg (fun m m0' m1 => by
        show y_tt s S k (m * (k * c)) i S = y_tt s S k 0 i S * 1
        have := rep m.toNat i i0 i1
        rw [show ((m.toNat : Nat) : Int) = m by omega] at this
        rw [this, Int.mul_one])
      rw [this, sm_mul (G := fun _ => 1) (by omega), Int.mul_comm]
      congr 1
      exact sm_ind (P := fun n => y_sm (fun _ => 1) n = n) sm_0 (fun n h0 ih => by have ih : y_sm (fun _ => 1) n = n := ih; show y_sm (fun _ => 1) (n + 1) = n + 1; rw [sm_s h0, ih]) (by omega)
    have zero : y_sm (fun m => y_tt s S k (m * (k * c)) i S) S = 0 := by
      unfold y_tt
      rw [sm_swap (G := fun m j => s j * y_pw S ((k * j + m * (k * c)).tmod S) i) (by omega) (by omega)]
      refine sm_z (by omega) (fun j j0 j1 => ?_)
      rw [sm_mul (by omega), g1 j i j0 i0 i1, Int.mul_zero]
    rw [zero] at big
    rcases Int.mul_eq_zero.mp big.symm with z | z
    · omega
    · exact z
theorem ysg_b {v ph : Int} : y_sg v ph = -1 ∨ y_sg v ph = 0 ∨ y_sg v ph = 1 := by
  unfold y_sg
  split
  · split <;> omega
  · omega
theorem tt_b {f : Int → Int} {ph S k on i n : Int} (h6 : 6 ≤ S ∧ S ≤ 24) (hk : 0 ≤ k) (ho : 0 ≤ on) (hi : 0 ≤ i ∧ i < y_w S) (hn : 0 ≤ n ∧ n ≤ 24) :
    -24 ≤ y_tt (fun j => y_sg (f (336 + j)) ph) S k on i n ∧ y_tt (fun j => y_sg (f (336 + j)) ph) S k on i n ≤ 24 := by
  have := sm_b (G := fun j => y_sg (f (336 + j)) ph * y_pw S ((k * j + on).tmod S) i) (B := 1) hn.1 (fun j j0 j1 => by
    have m0 : 0 ≤ k * j := Int.mul_nonneg hk j0
    have p := pw_b h6 (e := (k * j + on).tmod S) ⟨Int.tmod_nonneg S (by omega), Int.tmod_lt_of_pos _ (by omega)⟩ hi
    show -1 ≤ y_sg (f (336 + j)) ph * y_pw S ((k * j + on).tmod S) i ∧ y_sg (f (336 + j)) ph * y_pw S ((k * j + on).tmod S) i ≤ 1
    rcases ysg_b (v := f (336 + j)) (ph := ph) with e | e | e <;> rw [e] <;> omega)
  show -24 ≤ y_sm (fun j => y_sg (f (336 + j)) ph * y_pw S ((k * j + on).tmod S) i) n ∧ y_sm (fun j => y_sg (f (336 + j)) ph * y_pw S ((k * j + on).tmod S) i) n ≤ 24
  omega
