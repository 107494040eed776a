/-! limbs: the number that a row of digits to the base 2^30 tells -/
def cw_mg (f : Int → Int) : Nat → Int := fun n => match n with
  | 0 => 0
  | n + 1 => cw_mg f n + f n * 1073741824 ^ n
theorem mg_0 {f : Int → Int} : cw_mg f 0 = 0 := rfl
theorem mg_s {f : Int → Int} {n : Nat} : cw_mg f (n + 1) = cw_mg f n + f n * 1073741824 ^ n := rfl
theorem mg_cg {f h : Int → Int} : ∀ n : Nat, (∀ j : Nat, j < n → f j = h j) → cw_mg f n = cw_mg h n
  | 0, _ => rfl
  | n + 1, hj => by rw [mg_s, mg_s, mg_cg n (fun j h => hj j (by omega)), hj n (by omega)]
theorem bt_pos (n : Nat) : (0 : Int) < 1073741824 ^ n := Int.pow_pos (by decide)
theorem bt_s (n : Nat) : (1073741824 : Int) ^ (n + 1) = 1073741824 ^ n * 1073741824 := Int.pow_succ _ _
def cw_dg (f : Int → Int) (n : Nat) : Prop := ∀ j : Nat, j < n → 0 ≤ f j ∧ f j < 1073741824
theorem dg_le {f : Int → Int} {m n : Nat} (h : cw_dg f n) (hm : m ≤ n) : cw_dg f m := fun j hj => h j (by omega)
theorem mg_lt {f : Int → Int} : ∀ n : Nat, cw_dg f n → 0 ≤ cw_mg f n ∧ cw_mg f n < 1073741824 ^ n
  | 0, _ => by simp [mg_0]
  | n + 1, h => by
    obtain ⟨h1, h2⟩ := mg_lt n (dg_le h (Nat.le_succ n))
    obtain ⟨h3, h4⟩ := h n (Nat.lt_succ_self n)
    rw [mg_s, bt_s]
    have hp := bt_pos n
    generalize (1073741824 : Int) ^ n = p at *
    generalize cw_mg f n = m at *
    generalize f n = d at *
    have e1 : 0 ≤ d * p := Int.mul_nonneg h3 (by omega)
    have e2 : d * p ≤ 1073741823 * p := Int.mul_le_mul_of_nonneg_right (by omega) (by omega)
    constructor
    · omega
    · have : p * 1073741824 = 1073741823 * p + p := by omega
      omega
theorem mg_ge {f : Int → Int} {n : Nat} (h : cw_dg f (n + 1)) (h1 : f n ≠ 0) : 1073741824 ^ n ≤ cw_mg f (n + 1) := by
  obtain ⟨h3, h4⟩ := h n (Nat.lt_succ_self n)
  have h5 := (mg_lt n (dg_le h (Nat.le_succ n))).1
  rw [mg_s]
  have hp := bt_pos n
  generalize (1073741824 : Int) ^ n = p at *
  have : 1 * p ≤ f n * p := Int.mul_le_mul_of_nonneg_right (by omega) (by omega)
  omega
theorem mg_z {f : Int → Int} {k : Nat} : ∀ n : Nat, k ≤ n → (∀ j : Nat, k ≤ j → j < n → f j = 0) → cw_mg f n = cw_mg f k
  | 0, hk, _ => by rw [show k = 0 by omega]
  | n + 1, hk, h => by
    by_cases q : k = n + 1
    · rw [q]
    · rw [mg_s, h n (by omega) (by omega), mg_z n (by omega) (fun j h1 h2 => h j h1 (by omega))]
      omega
theorem bt_mono {m n : Nat} (h : m ≤ n) : (1073741824 : Int) ^ m ≤ 1073741824 ^ n := by
  obtain ⟨d, rfl⟩ := Nat.exists_eq_add_of_le h
  induction d with
  | zero => exact Int.le_refl _
  | succ d ih =>
    have := ih (by omega)
    rw [← Nat.add_assoc, bt_s]
    have := bt_pos (m + d)
    omega
/-- the same number has the same digits -/
theorem mg_inj {f h : Int → Int} : ∀ n : Nat, cw_dg f n → cw_dg h n → cw_mg f n = cw_mg h n → ∀ j : Nat, j < n → f j = h j
  | 0, _, _, _, j, hj => by omega
  | n + 1, hf, hh, he, j, hj => by
    have a1 := mg_lt n (dg_le hf (Nat.le_succ n))
    have a2 := mg_lt n (dg_le hh (Nat.le_succ n))
    rw [mg_s, mg_s] at he
    have hp := bt_pos n
    have hd : f n = h n := by
      have h1 : f n = (cw_mg f n + f n * 1073741824 ^ n) / 1073741824 ^ n := by
        rw [Int.add_mul_ediv_right _ _ (by omega), Int.ediv_eq_zero_of_lt a1.1 a1.2]; omega
      have h2 : h n = (cw_mg h n + h n * 1073741824 ^ n) / 1073741824 ^ n := by
        rw [Int.add_mul_ediv_right _ _ (by omega), Int.ediv_eq_zero_of_lt a2.1 a2.2]; omega
      rw [h1, h2, he]
    by_cases q : j = n
    · rw [q]; exact hd
    · exact mg_inj n (dg_le hf (Nat.le_succ n)) (dg_le hh (Nat.le_succ n)) (by rw [hd] at he; omega) j (by omega)
theorem w_upup {M : cw_M} {a k v v' : Int} : cw_up (cw_up M a k v) a k v' = cw_up M a k v' := by
  funext a' k'
  by_cases h : a' = a
  · subst h
    by_cases h2 : k' = k
    · subst h2; rw [w_up1, w_up1]
    · rw [w_up2 h2, w_up2 h2, w_up2 h2]
  · rw [w_up3 h, w_up3 h, w_up3 h]
theorem w_upc {M : cw_M} {a k v a2 k2 v2 : Int} (h : ¬ a = a2 ∨ ¬ k = k2) : cw_up (cw_up M a k v) a2 k2 v2 = cw_up (cw_up M a2 k2 v2) a k v := by
  funext a' k'
  by_cases h1 : a' = a <;> by_cases h2 : a' = a2 <;> by_cases h3 : k' = k <;> by_cases h4 : k' = k2 <;> simp_all [cw_up]
theorem w_upid {M : cw_M} {a k v : Int} (h : M a k = v) : cw_up M a k v = M := by
  funext a' k'
  by_cases h1 : a' = a
  · subst h1
    by_cases h2 : k' = k
    · subst h2; rw [w_up1, h]
    · rw [w_up2 h2]
  · rw [w_up3 h1]
