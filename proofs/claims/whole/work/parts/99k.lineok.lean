/-! the lines of parts are within the bounds of the net -/
def l_sp (f : Int → Int) (t : Int) (k : Int → Int) (p : Int) : Int := if p < f 0 then l_s f t p (k p) else 1
def l_ep (f : Int → Int) (t : Int) (k : Int → Int) (p : Int) : Int := if p < f 0 then l_s f t p (k p) * cw_so f p 4 + l_o f p (k p) else 0
theorem lsl_b {f fl : Int → Int} {n t p k : Int} (hW : WF n f fl) (hp : 0 ≤ p ∧ p < f 0) (ht : 0 ≤ t ∧ t < 24) (hk : -2 ≤ k ∧ k ≤ 2) : 1 ≤ l_s f t p k ∧ l_s f t p k ≤ 200 := by
  unfold l_s
  split
  · rename_i hg
    have g := hW.2.2.2.1 p t hp.1 hp.2 ht.1 ht.2 hg
    omega
  · rename_i hg
    have g : cw_ir f p := (hW.2.1 p hp.1 hp.2).resolve_left (fun z => hg z.1)
    unfold cw_ir at g
    have ak : cw_ab k = 0 ∨ cw_ab k = 1 ∨ cw_ab k = 2 := by unfold cw_ab; split <;> omega
    rcases ak with h | h | h <;> rw [h]
    · rw [show 11 + 12 * p + 2 * 0 = 11 + 12 * p by omega]; omega
    · rw [show 11 + 12 * p + 2 * 1 = 13 + 12 * p by omega]; omega
    · rw [show 11 + 12 * p + 2 * 2 = 15 + 12 * p by omega]; omega
theorem sp_ok {f fl k : Int → Int} {n t : Int} (hW : WF n f fl) (ht : 0 ≤ t ∧ t < 24) (hk : ∀ p : Int, 0 ≤ p → p < 7 → -2 ≤ k p ∧ k p ≤ 2) : s_ok (l_sp f t k) := fun p h0 h7 => by
  unfold l_sp
  split
  · exact lsl_b hW ⟨h0, by omega⟩ ht (hk p h0 h7)
  · omega
theorem lso_b {f fl : Int → Int} {n p k : Int} (hW : WF n f fl) (hp : 0 ≤ p ∧ p < f 0) (hg : f (10 + 12 * p) = 0 ∨ k = 0) : -2000000 ≤ l_o f p k ∧ l_o f p k ≤ 2000000 := by
  by_cases z : k = 0
  · subst z
    unfold l_o
    rw [if_neg (by omega), show cw_ab 0 = 0 from rfl, if_neg (by omega), if_neg (by omega)]; omega
  · have g : cw_ir f p := (hW.2.1 p hp.1 hp.2).resolve_left (fun y => by have := y.1; omega)
    unfold cw_ir at g
    have a0 := Int.mul_nonneg (show 0 ≤ f (11 + 12 * p) - f (13 + 12 * p) by omega) (show 0 ≤ f (12 + 12 * p) by omega)
    have a1 := Int.mul_le_mul_of_nonneg_left (show f (12 + 12 * p) ≤ 10000 by omega) (show 0 ≤ f (11 + 12 * p) - f (13 + 12 * p) by omega)
    have a2 := Int.mul_nonneg (show 0 ≤ f (13 + 12 * p) - f (15 + 12 * p) by omega) (show 0 ≤ f (14 + 12 * p) by omega)
    have a3 := Int.mul_le_mul_of_nonneg_left (show f (14 + 12 * p) ≤ 10000 by omega) (show 0 ≤ f (13 + 12 * p) - f (15 + 12 * p) by omega)
    unfold l_o
    repeat' split
    all_goals omega
theorem ep_ok {f fl k : Int → Int} {n t : Int} (hW : WF n f fl) (ht : 0 ≤ t ∧ t < 24) (hk : ∀ p : Int, 0 ≤ p → p < 7 → -2 ≤ k p ∧ k p ≤ 2) (hg : ∀ p : Int, 0 ≤ p → p < f 0 → f (10 + 12 * p) = 0 ∨ k p = 0) : e_ok (l_ep f t k) := fun p h0 h7 => by
  unfold l_ep
  split
  · rename_i hp
    have b := lsl_b hW ⟨h0, hp⟩ ht (hk p h0 h7)
    have o := lso_b hW ⟨h0, hp⟩ (hg p h0 hp)
    have s := so_b hW h0 h7
    have m : cw_ab (l_s f t p (k p) * cw_so f p 4) ≤ 200 * 25200 := by
      rw [ab_mul]
      have x1 : 0 ≤ cw_ab (l_s f t p (k p)) ∧ cw_ab (l_s f t p (k p)) ≤ 200 := by unfold cw_ab; split <;> omega
      have x2 : 0 ≤ cw_ab (cw_so f p 4) ∧ cw_ab (cw_so f p 4) ≤ 25200 := by unfold cw_ab; split <;> omega
      exact Int.mul_le_mul x1.2 x2.2 x2.1 (by decide)
    have m2 : -(200 * 25200) ≤ l_s f t p (k p) * cw_so f p 4 ∧ l_s f t p (k p) * cw_so f p 4 ≤ 200 * 25200 := by
      unfold cw_ab at m
      split at m <;> omega
    omega
  · omega
