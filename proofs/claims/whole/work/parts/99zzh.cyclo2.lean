/-! the equations of whole turns: what the tables hold -/
def y_dg (c : Nat) (k : Int) : Int := if 0 ≤ k then ((c / 16 ^ k.toNat % 16 : Nat) : Int) - 8 else 0
def y_gt (T : List (List (Nat × Nat))) (n d : Int) : Nat × Nat := (T.getD n.toNat []).getD d.toNat (0, 0)
def y_w (n : Int) : Int := ((y_C.getD n.toNat (0, 0)).2 : Nat)
def y_cy (n k : Int) : Int := y_dg (y_C.getD n.toNat (0, 0)).1 k
def y_pw (S e i : Int) : Int := y_dg ((y_P.getD S.toNat []).getD e.toNat 0) i
def y_al (n : Nat) (p : Nat → Bool) : Bool := (List.range n).all p
theorem y_al_is {n : Nat} {p : Nat → Bool} (h : y_al n p = true) {k : Nat} (hk : k < n) : p k = true := List.all_eq_true.mp h k (List.mem_range.mpr hk)
def y_S (p : Nat → Bool) : Bool := y_al 25 fun S => decide (S < 6) || p S
theorem y_S_is {p : Nat → Bool} (h : y_S p = true) {s : Nat} (h1 : 6 ≤ s) (h2 : s ≤ 24) : p s = true := by
  have q := y_al_is h (k := s) (by omega)
  rcases Bool.or_eq_true_iff.mp q with z | z
  · exact absurd (of_decide_eq_true z) (by omega)
  · exact z
def y_k1 (S : Nat) : Bool := y_al S fun e => y_al (y_w (S : Int)).toNat fun i => decide (y_pw S (if (e : Int) + 1 = (S : Int) then 0 else (e : Int) + 1) i = (if (i : Int) = 0 then 0 else y_pw S e ((i : Int) - 1)) - y_pw S e (y_w S - 1) * y_cy S i)
theorem y_k1_ok : y_S y_k1 = true := by decide +kernel
def y_k2 (S : Nat) : Bool := y_al S fun a => decide ((a : Int) = 0) || y_al (y_w (S : Int)).toNat fun i => decide (cw_it (fun x j => x + y_pw S (((a : Int) * j).tmod S) i) 0 (S : Int) = 0)
theorem y_k2_ok : y_S y_k2 = true := by decide +kernel
def y_k3 (S : Nat) : Bool := y_al (y_w (S : Int)).toNat fun e => y_al (y_w (S : Int)).toNat fun i => decide (y_pw S e i = if (e : Int) = (i : Int) then 1 else 0)
theorem y_k3_ok : y_S y_k3 = true := by decide +kernel
def y_k4 (S : Nat) : Bool := y_al (S - (y_w (S : Int)).toNat) fun t => y_al (y_w (S : Int)).toNat fun i => decide (cw_it (fun x j => x + y_cy S j * y_pw S ((t : Int) + j) i) 0 (y_w (S : Int) + 1) = 0)
theorem y_k4_ok : y_S y_k4 = true := by decide +kernel
def y_k5 (S : Nat) : Bool := (decide (y_cy S (y_w S) = 1) && decide (2 ≤ y_w S ∧ y_w S < S)) && y_al S fun e => y_al (y_w (S : Int)).toNat fun i => decide (-1 ≤ y_pw S e i ∧ y_pw S e i ≤ 1)
theorem y_k5_ok : y_S y_k5 = true := by decide +kernel
theorem y_w_b {S : Int} (hS : 6 ≤ S ∧ S ≤ 24) : 2 ≤ y_w S ∧ y_w S < S ∧ y_cy S (y_w S) = 1 := by
  obtain ⟨s, rfl⟩ : ∃ s : Nat, S = s := ⟨S.toNat, by omega⟩
  have k := y_S_is y_k5_ok (s := s) (by omega) (by omega)
  have k := (Bool.and_eq_true_iff.mp (Bool.and_eq_true_iff.mp k).1)
  have a := of_decide_eq_true k.1
  have b := of_decide_eq_true k.2
  exact ⟨b.1, b.2, a⟩
theorem pw_b {S e i : Int} (hS : 6 ≤ S ∧ S ≤ 24) (he : 0 ≤ e ∧ e < S) (hi : 0 ≤ i ∧ i < y_w S) : -1 ≤ y_pw S e i ∧ y_pw S e i ≤ 1 := by
  obtain ⟨s, rfl⟩ : ∃ s : Nat, S = s := ⟨S.toNat, by omega⟩
  obtain ⟨e, rfl⟩ : ∃ s : Nat, e = s := ⟨e.toNat, by omega⟩
  obtain ⟨i, rfl⟩ : ∃ s : Nat, i = s := ⟨i.toNat, by omega⟩
  have k := y_S_is y_k5_ok (s := s) (by omega) (by omega)
  have k := (Bool.and_eq_true_iff.mp k).2
  have k := y_al_is k (k := e) (by omega)
  have k := y_al_is k (k := i) (by omega)
  exact of_decide_eq_true k
theorem pw_st {S e i : Int} (hS : 6 ≤ S ∧ S ≤ 24) (he : 0 ≤ e ∧ e < S) (hi : 0 ≤ i ∧ i < y_w S) : y_pw S (if e + 1 = S then 0 else e + 1) i = (if i = 0 then 0 else y_pw S e (i - 1)) - y_pw S e (y_w S - 1) * y_cy S i := by
  obtain ⟨s, rfl⟩ : ∃ s : Nat, S = s := ⟨S.toNat, by omega⟩
  obtain ⟨e, rfl⟩ : ∃ s : Nat, e = s := ⟨e.toNat, by omega⟩
  obtain ⟨i, rfl⟩ : ∃ s : Nat, i = s := ⟨i.toNat, by omega⟩
  have k := y_S_is y_k1_ok (s := s) (by omega) (by omega)
  have k := y_al_is k (k := e) (by omega)
  have k := y_al_is k (k := i) (by omega)
  exact of_decide_eq_true k
theorem pw_tn {S a i : Int} (hS : 6 ≤ S ∧ S ≤ 24) (ha : 0 < a ∧ a < S) (hi : 0 ≤ i ∧ i < y_w S) : cw_it (fun x j => x + y_pw S ((a * j).tmod S) i) 0 S = 0 := by
  obtain ⟨s, rfl⟩ : ∃ s : Nat, S = s := ⟨S.toNat, by omega⟩
  obtain ⟨a, rfl⟩ : ∃ s : Nat, a = s := ⟨a.toNat, by omega⟩
  obtain ⟨i, rfl⟩ : ∃ s : Nat, i = s := ⟨i.toNat, by omega⟩
  have k := y_S_is y_k2_ok (s := s) (by omega) (by omega)
  have k := y_al_is k (k := a) (by omega)
  rcases Bool.or_eq_true_iff.mp k with z | z
  · exact absurd (of_decide_eq_true z) (by omega)
  · have z := y_al_is z (k := i) (by omega)
    exact of_decide_eq_true z
theorem pw_un {S e i : Int} (hS : 6 ≤ S ∧ S ≤ 24) (he : 0 ≤ e ∧ e < y_w S) (hi : 0 ≤ i ∧ i < y_w S) : y_pw S e i = if e = i then 1 else 0 := by
  obtain ⟨s, rfl⟩ : ∃ s : Nat, S = s := ⟨S.toNat, by omega⟩
  obtain ⟨e, rfl⟩ : ∃ s : Nat, e = s := ⟨e.toNat, by omega⟩
  obtain ⟨i, rfl⟩ : ∃ s : Nat, i = s := ⟨i.toNat, by omega⟩
  have k := y_S_is y_k3_ok (s := s) (by omega) (by omega)
  have k := y_al_is k (k := e) (by omega)
  have k := y_al_is k (k := i) (by omega)
  exact of_decide_eq_true k
theorem pw_cy {S t i : Int} (hS : 6 ≤ S ∧ S ≤ 24) (ht : 0 ≤ t ∧ t + y_w S < S) (hi : 0 ≤ i ∧ i < y_w S) : cw_it (fun x j => x + y_cy S j * y_pw S (t + j) i) 0 (y_w S + 1) = 0 := by
  obtain ⟨s, rfl⟩ : ∃ s : Nat, S = s := ⟨S.toNat, by omega⟩
  obtain ⟨t, rfl⟩ : ∃ s : Nat, t = s := ⟨t.toNat, by omega⟩
  obtain ⟨i, rfl⟩ : ∃ s : Nat, i = s := ⟨i.toNat, by omega⟩
  have k := y_S_is y_k4_ok (s := s) (by omega) (by omega)
  have k := y_al_is k (k := t) (by omega)
  have k := y_al_is k (k := i) (by omega)
  exact of_decide_eq_true k
/-! the class's equation -/
def kd_run : Nat → Int → Int → Int → Int := fun d p left kind => match d with
  | 0 => kind
  | d + 1 => if left.tmod p = 0 then (if (left.tdiv p).tmod p = 0 then 0 else kd_run d (p + 1) (left.tdiv p) (-kind)) else kd_run d (p + 1) left kind
def y_kd (n : Int) : Int := kd_run (n - 1).toNat 2 n 1
def y_e (S d i : Int) : Int := y_dg (y_gt y_E S d).1 i
def y_ew (S d : Int) : Int := ((y_gt y_E S d).2 : Nat)
def y_d (S d i : Int) : Int := y_dg (y_gt y_D S d).1 i
def y_dw (S d : Int) : Int := ((y_gt y_D S d).2 : Nat)
def y_k6 (S : Nat) : Bool := decide (y_ew S 0 = 0) && (y_al 40 fun i => decide (y_e S 0 i = if (i : Int) = 0 then 1 else 0)) && y_al S fun d =>
  if (S : Int).tmod (d + 1) = 0 ∧ y_kd ((S : Int).tdiv (d + 1)) = 1 then decide (y_ew S (d + 1) = y_ew S d + (d + 1)) && y_al 40 fun i => decide (y_e S (d + 1) i = (if ((d : Int) + 1) ≤ i then y_e S d ((i : Int) - (d + 1)) else 0) - y_e S d i)
  else decide (y_gt y_E S (d + 1) = y_gt y_E S d)
theorem y_k6_ok : y_S y_k6 = true := by decide +kernel
def y_k7 (S : Nat) : Bool := decide (y_gt y_D S 0 = y_gt y_E S S) && decide (y_gt y_D S S = y_C.getD S (0, 0)) && y_al S fun d =>
  if (S : Int).tmod (d + 1) = 0 ∧ y_kd ((S : Int).tdiv (d + 1)) = -1 then decide (y_dw S (d + 1) = y_dw S d - (d + 1)) && y_al 40 fun i => decide (y_d S (d + 1) i = (if ((d : Int) + 1) ≤ i then y_d S (d + 1) ((i : Int) - (d + 1)) else 0) - y_d S d i)
  else decide (y_gt y_D S (d + 1) = y_gt y_D S d)
theorem y_k7_ok : y_S y_k7 = true := by decide +kernel
theorem e_0 {S : Int} (hS : 6 ≤ S ∧ S ≤ 24) : y_ew S 0 = 0 ∧ ∀ i : Int, 0 ≤ i → i < 40 → y_e S 0 i = if i = 0 then 1 else 0 := by
  obtain ⟨s, rfl⟩ : ∃ s : Nat, S = s := ⟨S.toNat, by omega⟩
  have k := y_S_is y_k6_ok (s := s) (by omega) (by omega)
  have k := Bool.and_eq_true_iff.mp (Bool.and_eq_true_iff.mp k).1
  refine ⟨of_decide_eq_true k.1, fun i h0 h1 => ?_⟩
  obtain ⟨i, rfl⟩ : ∃ s : Nat, i = s := ⟨i.toNat, by omega⟩
  exact of_decide_eq_true (y_al_is k.2 (k := i) (by omega))
theorem e_s {S d : Int} (hS : 6 ≤ S ∧ S ≤ 24) (hd : 0 ≤ d ∧ d < S) (h : S.tmod (d + 1) = 0 ∧ y_kd (S.tdiv (d + 1)) = 1) : y_ew S (d + 1) = y_ew S d + (d + 1) ∧ ∀ i : Int, 0 ≤ i → i < 40 → y_e S (d + 1) i = (if d + 1 ≤ i then y_e S d (i - (d + 1)) else 0) - y_e S d i := by
  obtain ⟨s, rfl⟩ : ∃ s : Nat, S = s := ⟨S.toNat, by omega⟩
  obtain ⟨d, rfl⟩ : ∃ s : Nat, d = s := ⟨d.toNat, by omega⟩
  have k := y_S_is y_k6_ok (s := s) (by omega) (by omega)
  have k := y_al_is (Bool.and_eq_true_iff.mp k).2 (k := d) (by omega)
  rw [if_pos h] at k
  have k := Bool.and_eq_true_iff.mp k
  refine ⟨of_decide_eq_true k.1, fun i h0 h1 => ?_⟩
  obtain ⟨i, rfl⟩ : ∃ s : Nat, i = s := ⟨i.toNat, by omega⟩
  exact of_decide_eq_true (y_al_is k.2 (k := i) (by omega))
theorem e_n {S d : Int} (hS : 6 ≤ S ∧ S ≤ 24) (hd : 0 ≤ d ∧ d < S) (h : ¬ (S.tmod (d + 1) = 0 ∧ y_kd (S.tdiv (d + 1)) = 1)) : y_gt y_E S (d + 1) = y_gt y_E S d := by
  obtain ⟨s, rfl⟩ : ∃ s : Nat, S = s := ⟨S.toNat, by omega⟩
  obtain ⟨d, rfl⟩ : ∃ s : Nat, d = s := ⟨d.toNat, by omega⟩
  have k := y_S_is y_k6_ok (s := s) (by omega) (by omega)
  have k := y_al_is (Bool.and_eq_true_iff.mp k).2 (k := d) (by omega)
  rw [if_neg h] at k
  exact of_decide_eq_true k
theorem d_0 {S : Int} (hS : 6 ≤ S ∧ S ≤ 24) : y_gt y_D S 0 = y_gt y_E S S ∧ y_gt y_D S S = y_C.getD S.toNat (0, 0) := by
  obtain ⟨s, rfl⟩ : ∃ s : Nat, S = s := ⟨S.toNat, by omega⟩
  have k := y_S_is y_k7_ok (s := s) (by omega) (by omega)
  have k := Bool.and_eq_true_iff.mp (Bool.and_eq_true_iff.mp k).1
  exact ⟨of_decide_eq_true k.1, of_decide_eq_true k.2⟩
theorem d_s {S d : Int} (hS : 6 ≤ S ∧ S ≤ 24) (hd : 0 ≤ d ∧ d < S) (h : S.tmod (d + 1) = 0 ∧ y_kd (S.tdiv (d + 1)) = -1) : y_dw S (d + 1) = y_dw S d - (d + 1) ∧ ∀ i : Int, 0 ≤ i → i < 40 → y_d S (d + 1) i = (if d + 1 ≤ i then y_d S (d + 1) (i - (d + 1)) else 0) - y_d S d i := by
  obtain ⟨s, rfl⟩ : ∃ s : Nat, S = s := ⟨S.toNat, by omega⟩
  obtain ⟨d, rfl⟩ : ∃ s : Nat, d = s := ⟨d.toNat, by omega⟩
  have k := y_S_is y_k7_ok (s := s) (by omega) (by omega)
  have k := y_al_is (Bool.and_eq_true_iff.mp k).2 (k := d) (by omega)
  rw [if_pos h] at k
  have k := Bool.and_eq_true_iff.mp k
  refine ⟨of_decide_eq_true k.1, fun i h0 h1 => ?_⟩
  obtain ⟨i, rfl⟩ : ∃ s : Nat, i = s := ⟨i.toNat, by omega⟩
  exact of_decide_eq_true (y_al_is k.2 (k := i) (by omega))
theorem d_n {S d : Int} (hS : 6 ≤ S ∧ S ≤ 24) (hd : 0 ≤ d ∧ d < S) (h : ¬ (S.tmod (d + 1) = 0 ∧ y_kd (S.tdiv (d + 1)) = -1)) : y_gt y_D S (d + 1) = y_gt y_D S d := by
  obtain ⟨s, rfl⟩ : ∃ s : Nat, S = s := ⟨S.toNat, by omega⟩
  obtain ⟨d, rfl⟩ : ∃ s : Nat, d = s := ⟨d.toNat, by omega⟩
  have k := y_S_is y_k7_ok (s := s) (by omega) (by omega)
  have k := y_al_is (Bool.and_eq_true_iff.mp k).2 (k := d) (by omega)
  rw [if_neg h] at k
  exact of_decide_eq_true k
/-! the reference's equations -/
def y_q (n d i : Int) : Int := y_dg (y_gt y_Q n d).1 i
def y_qw (n d : Int) : Int := ((y_gt y_Q n d).2 : Nat)
/-- the quotient's first k numbers, times the equation -/
def y_cv (n d k j : Int) : Int := cw_it (fun x m => x + y_q n d m * y_cy d (j - m)) 0 k
def y_k8 (n : Nat) : Bool := decide (n = 0) || (decide (y_qw n 0 = n) && decide (y_gt y_Q n ((n : Int) - 1) = y_C.getD n (0, 0)) && (y_al 50 fun k => decide (y_q n 0 k = if (k : Int) = n then 1 else if (k : Int) = 0 then -1 else 0) && (decide ((k : Int) ≤ y_w n) || decide (y_cy n k = 0))) && decide (y_cy n (y_w n) = 1 ∧ 1 ≤ y_w n ∧ y_w n ≤ n) && y_al (n - 1) fun d =>
  if (n : Int).tmod (d + 1) = 0 then decide (y_qw n (d + 1) = y_qw n d - y_w (d + 1) ∧ 0 ≤ y_qw n (d + 1) ∧ y_qw n d ≤ 24) && y_al 50 fun i => decide (y_q n d i = y_cv n (d + 1) (y_qw n (d + 1) + 1) i) && (decide ((i : Int) ≤ y_qw n (d + 1)) || decide (y_q n (d + 1) i = 0))
  else decide (y_gt y_Q n (d + 1) = y_gt y_Q n d))
theorem y_k8_ok : y_al 25 y_k8 = true := by decide +kernel
theorem q_0 {n : Int} (hn : 1 ≤ n ∧ n ≤ 24) : y_qw n 0 = n ∧ y_gt y_Q n (n - 1) = y_C.getD n.toNat (0, 0) ∧ (∀ k : Int, 0 ≤ k → k < 50 → y_q n 0 k = if k = n then 1 else if k = 0 then -1 else 0) ∧ (∀ k : Int, y_w n < k → k < 50 → y_cy n k = 0) ∧ y_cy n (y_w n) = 1 ∧ 1 ≤ y_w n ∧ y_w n ≤ n := by
  obtain ⟨s, rfl⟩ : ∃ s : Nat, n = s := ⟨n.toNat, by omega⟩
  have k := y_al_is y_k8_ok (k := s) (by omega)
  rcases Bool.or_eq_true_iff.mp k with z | k
  · exact absurd (of_decide_eq_true z) (by omega)
  have k := (Bool.and_eq_true_iff.mp k).1
  obtain ⟨k, k5⟩ := Bool.and_eq_true_iff.mp k
  obtain ⟨k, k4⟩ := Bool.and_eq_true_iff.mp k
  obtain ⟨k1, k2⟩ := Bool.and_eq_true_iff.mp k
  have k5 := of_decide_eq_true k5
  refine ⟨of_decide_eq_true k1, of_decide_eq_true k2, fun i h0 h1 => ?_, fun i h0 h1 => ?_, k5⟩
  · obtain ⟨i, rfl⟩ : ∃ s : Nat, i = s := ⟨i.toNat, by omega⟩
    exact of_decide_eq_true (Bool.and_eq_true_iff.mp (y_al_is k4 (k := i) (by omega))).1
  · have := k5.2.1
    obtain ⟨i, rfl⟩ : ∃ s : Nat, i = s := ⟨i.toNat, by omega⟩
    rcases Bool.or_eq_true_iff.mp (Bool.and_eq_true_iff.mp (y_al_is k4 (k := i) (by omega))).2 with z | z
    · exact absurd (of_decide_eq_true z) (by omega)
    · exact of_decide_eq_true z
theorem q_s {n d : Int} (hd : 0 ≤ d ∧ d + 1 < n) (hn : n ≤ 24) (h : n.tmod (d + 1) = 0) : (y_qw n (d + 1) = y_qw n d - y_w (d + 1) ∧ 0 ≤ y_qw n (d + 1) ∧ y_qw n d ≤ 24) ∧ ∀ i : Int, 0 ≤ i → i < 50 → y_q n d i = y_cv n (d + 1) (y_qw n (d + 1) + 1) i ∧ (y_qw n (d + 1) < i → y_q n (d + 1) i = 0) := by
  obtain ⟨s, rfl⟩ : ∃ s : Nat, n = s := ⟨n.toNat, by omega⟩
  obtain ⟨d, rfl⟩ : ∃ s : Nat, d = s := ⟨d.toNat, by omega⟩
  have k := y_al_is y_k8_ok (k := s) (by omega)
  rcases Bool.or_eq_true_iff.mp k with z | k
  · exact absurd (of_decide_eq_true z) (by omega)
  have k := y_al_is (Bool.and_eq_true_iff.mp k).2 (k := d) (by omega)
  rw [if_pos h] at k
  obtain ⟨k1, k2⟩ := Bool.and_eq_true_iff.mp k
  refine ⟨of_decide_eq_true k1, fun i h0 h1 => ?_⟩
  obtain ⟨i, rfl⟩ : ∃ s : Nat, i = s := ⟨i.toNat, by omega⟩
  have k := Bool.and_eq_true_iff.mp (y_al_is k2 (k := i) (by omega))
  refine ⟨of_decide_eq_true k.1, fun hi => ?_⟩
  rcases Bool.or_eq_true_iff.mp k.2 with z | z
  · exact absurd (of_decide_eq_true z) (by omega)
  · exact of_decide_eq_true z
theorem q_n {n d : Int} (hd : 0 ≤ d ∧ d + 1 < n) (hn : n ≤ 24) (h : ¬ n.tmod (d + 1) = 0) : y_gt y_Q n (d + 1) = y_gt y_Q n d := by
  obtain ⟨s, rfl⟩ : ∃ s : Nat, n = s := ⟨n.toNat, by omega⟩
  obtain ⟨d, rfl⟩ : ∃ s : Nat, d = s := ⟨d.toNat, by omega⟩
  have k := y_al_is y_k8_ok (k := s) (by omega)
  rcases Bool.or_eq_true_iff.mp k with z | k
  · exact absurd (of_decide_eq_true z) (by omega)
  have k := y_al_is (Bool.and_eq_true_iff.mp k).2 (k := d) (by omega)
  rw [if_neg h] at k
  exact of_decide_eq_true k
/-! sums -/
def y_sm (G : Int → Int) (n : Int) : Int := cw_it (fun x j => x + G j) 0 n
theorem sm_0 {G : Int → Int} : y_sm G 0 = 0 := rfl
theorem sm_s {G : Int → Int} {n : Int} (h : 0 ≤ n) : y_sm G (n + 1) = y_sm G n + G n := it_s h
theorem sm_ind {P : Int → Prop} (h0 : P 0) (h : ∀ n : Int, 0 ≤ n → P n → P (n + 1)) {n : Int} (hn : 0 ≤ n) : P n := by
  obtain ⟨k, rfl⟩ : ∃ k : Nat, n = k := ⟨n.toNat, by omega⟩
  induction k with
  | zero => exact h0
  | succ k ih => exact h k (by omega) (ih (by omega))
theorem sm_cg {G H : Int → Int} {n : Int} (h : ∀ j : Int, 0 ≤ j → j < n → G j = H j) : y_sm G n = y_sm H n := it_c (fun a j h0 h1 => by show a + G j = a + H j; rw [h j h0 h1])
theorem sm_z {G : Int → Int} {n : Int} (hn : 0 ≤ n) (h : ∀ j : Int, 0 ≤ j → j < n → G j = 0) : y_sm G n = 0 := by
  have e : y_sm G n = y_sm (fun _ => 0) n := sm_cg h
  rw [e]
  exact sm_ind (P := fun n => y_sm (fun _ => 0) n = 0) sm_0 (fun n h0 ih => by show y_sm (fun _ => 0) (n + 1) = 0; rw [sm_s h0]; show _ + 0 = 0; rw [Int.add_zero]; exact ih) hn
theorem sm_add {G H : Int → Int} {n : Int} (hn : 0 ≤ n) : y_sm (fun j => G j + H j) n = y_sm G n + y_sm H n :=
  sm_ind (P := fun n => y_sm (fun j => G j + H j) n = y_sm G n + y_sm H n) rfl (fun n h0 ih => by
    show y_sm (fun j => G j + H j) (n + 1) = y_sm G (n + 1) + y_sm H (n + 1)
    have ih : y_sm (fun j => G j + H j) n = y_sm G n + y_sm H n := ih
    rw [sm_s h0, sm_s h0, sm_s h0, ih]; show _ + (G n + H n) = _; omega) hn
theorem sm_mul {G : Int → Int} {c n : Int} (hn : 0 ≤ n) : y_sm (fun j => c * G j) n = c * y_sm G n :=
  sm_ind (P := fun n => y_sm (fun j => c * G j) n = c * y_sm G n) (by show y_sm _ 0 = c * y_sm _ 0; rw [sm_0, sm_0, Int.mul_zero]) (fun n h0 ih => by
    show y_sm (fun j => c * G j) (n + 1) = c * y_sm G (n + 1)
    have ih : y_sm (fun j => c * G j) n = c * y_sm G n := ih
    rw [sm_s h0, sm_s h0, ih, Int.mul_add]) hn
theorem sm_swap {G : Int → Int → Int} {m n : Int} (hm : 0 ≤ m) (hn : 0 ≤ n) : y_sm (fun a => y_sm (fun b => G a b) n) m = y_sm (fun b => y_sm (fun a => G a b) m) n :=
  sm_ind (P := fun m => y_sm (fun a => y_sm (fun b => G a b) n) m = y_sm (fun b => y_sm (fun a => G a b) m) n) (by show y_sm _ 0 = _; rw [sm_0]; exact (sm_z hn (fun j _ _ => sm_0)).symm) (fun m h0 ih => by
    show y_sm (fun a => y_sm (fun b => G a b) n) (m + 1) = y_sm (fun b => y_sm (fun a => G a b) (m + 1)) n
    have ih : y_sm (fun a => y_sm (fun b => G a b) n) m = y_sm (fun b => y_sm (fun a => G a b) m) n := ih
    rw [sm_s h0, ih, ← sm_add hn]
    exact sm_cg (fun j _ _ => (sm_s h0).symm)) hm
theorem sm_b {G : Int → Int} {B n : Int} (hn : 0 ≤ n) (hG : ∀ j : Int, 0 ≤ j → j < n → -B ≤ G j ∧ G j ≤ B) : -(n * B) ≤ y_sm G n ∧ y_sm G n ≤ n * B := by
  have h := it_b (h := 0) hn hG
  unfold y_sm
  omega
/-! the star of a phase -/
def y_sg (v ph : Int) : Int := if v = 10 + ph ∨ v = -10 - ph then (if v < 0 then -1 else 1) else 0
def y_tt (s : Int → Int) (S k on i n : Int) : Int := y_sm (fun j => s j * y_pw S ((k * j + on).tmod S) i) n
def y_v (F : Int → Int) (S i : Int) : Int := y_sm (fun e => F e * y_pw S e i) S
theorem v_up {F : Int → Int} {S i e x : Int} (he : 0 ≤ e ∧ e < S) : y_v (cw_fu F e x) S i = y_v F S i + (x - F e) * y_pw S e i := by
  have key : ∀ n : Int, 0 ≤ n → y_sm (fun j => cw_fu F e x j * y_pw S j i) n = y_sm (fun j => F j * y_pw S j i) n + if e < n then (x - F e) * y_pw S e i else 0 := by
    intro n hn
    refine sm_ind (P := fun n => y_sm (fun j => cw_fu F e x j * y_pw S j i) n = y_sm (fun j => F j * y_pw S j i) n + if e < n then (x - F e) * y_pw S e i else 0) ?_ ?_ hn
    · show y_sm _ 0 = y_sm _ 0 + _
      rw [sm_0, sm_0, if_neg (by omega)]; rfl
    · intro n h0 ih
      have ih : y_sm (fun j => cw_fu F e x j * y_pw S j i) n = y_sm (fun j => F j * y_pw S j i) n + if e < n then (x - F e) * y_pw S e i else 0 := ih
      show y_sm _ (n + 1) = y_sm _ (n + 1) + _
      rw [sm_s h0, sm_s h0, ih]
      by_cases q : n = e
      · subst q
        rw [if_neg (by omega), if_pos (by omega), fu_a, Int.sub_mul]; omega
      · rw [fu_o q]
        by_cases z : e < n
        · rw [if_pos z, if_pos (by omega)]; omega
        · rw [if_neg z, if_neg (by omega)]; omega
  have h := key S (by omega)
  rw [if_pos he.2] at h
  exact h
theorem v_un {F : Int → Int} {S i : Int} (hS : 6 ≤ S ∧ S ≤ 24) (hi : 0 ≤ i ∧ i < y_w S) (hF : ∀ e : Int, y_w S ≤ e → e < S → F e = 0) : y_v F S i = F i := by
  have wb := y_w_b hS
  have key : ∀ n : Int, 0 ≤ n → n ≤ S → y_sm (fun j => F j * y_pw S j i) n = if i < n then F i else 0 := by
    intro n hn
    refine sm_ind (P := fun n => n ≤ S → y_sm (fun j => F j * y_pw S j i) n = if i < n then F i else 0) ?_ ?_ hn
    · intro _; show y_sm _ 0 = _; rw [sm_0, if_neg (by omega)]
    · intro n h0 ih hS1
      have ih : y_sm (fun j => F j * y_pw S j i) n = if i < n then F i else 0 := ih (by omega)
      show y_sm _ (n + 1) = _
      rw [sm_s h0, ih]
      show _ + F n * y_pw S n i = _
      by_cases q : n < y_w S
      · rw [pw_un hS ⟨h0, q⟩ hi]
        by_cases z : n = i
        · subst z; rw [if_pos rfl, if_neg (by omega), if_pos (by omega)]; omega
        · rw [if_neg z]
          by_cases z2 : i < n
          · rw [if_pos z2, if_pos (by omega)]; omega
          · rw [if_neg z2, if_neg (by omega)]; omega
      · rw [hF n (by omega) (by omega), if_pos (by omega), if_pos (by omega)]; omega
  have h := key S (by omega) (by omega)
  rw [if_pos (by omega)] at h
  exact h
