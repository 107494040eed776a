/-! Ratio: a fraction's cells from q on -/
def IsQ (q : Int) : Prop := cw_kt cw_NX q = (4, 0) ∧ (cw_rv q 0 = q + 1 ∧ cw_rv q 1 = q + 3 ∧ cw_rv q 2 = q + 5 ∧ cw_rv q 3 = q + 7 ∧ cw_rv q 4 = q + 9 ∧ cw_rv q 5 = q + 11) ∧ (IsW (q + 1) ∧ IsW (q + 3) ∧ IsW (q + 5) ∧ IsW (q + 7) ∧ IsW (q + 9) ∧ IsW (q + 11)) ∧ 0 ≤ q
theorem isQ_all : IsQ 279 ∧ IsQ 292 ∧ IsQ 305 := ⟨⟨by decide +kernel, by decide +kernel, ⟨isW_all _ (by decide), isW_all _ (by decide), isW_all _ (by decide), isW_all _ (by decide), isW_all _ (by decide), isW_all _ (by decide)⟩, by decide⟩, ⟨by decide +kernel, by decide +kernel, ⟨isW_all _ (by decide), isW_all _ (by decide), isW_all _ (by decide), isW_all _ (by decide), isW_all _ (by decide), isW_all _ (by decide)⟩, by decide⟩, ⟨by decide +kernel, by decide +kernel, ⟨isW_all _ (by decide), isW_all _ (by decide), isW_all _ (by decide), isW_all _ (by decide), isW_all _ (by decide), isW_all _ (by decide)⟩, by decide⟩⟩
theorem IsQ.rs {q : Int} (h : IsQ q) {k : Int} (h0 : 0 ≤ k) (h5 : k ≤ 5) : cw_rs q k = true := by
  rcases (show k = 0 ∨ k = 1 ∨ k = 2 ∨ k = 3 ∨ k = 4 ∨ k = 5 by omega) with rfl | rfl | rfl | rfl | rfl | rfl <;> (unfold cw_rs; rw [h.1]; rfl)
theorem IsQ.r0 {q : Int} (h : IsQ q) {M : cw_M} (hS : Sh M) : M q 0 = q + 1 := (hS _ _ (h.rs (by decide) (by decide))).trans h.2.1.1
theorem IsQ.r1 {q : Int} (h : IsQ q) {M : cw_M} (hS : Sh M) : M q 1 = q + 3 := (hS _ _ (h.rs (by decide) (by decide))).trans h.2.1.2.1
theorem IsQ.r2 {q : Int} (h : IsQ q) {M : cw_M} (hS : Sh M) : M q 2 = q + 5 := (hS _ _ (h.rs (by decide) (by decide))).trans h.2.1.2.2.1
theorem IsQ.r3 {q : Int} (h : IsQ q) {M : cw_M} (hS : Sh M) : M q 3 = q + 7 := (hS _ _ (h.rs (by decide) (by decide))).trans h.2.1.2.2.2.1
theorem IsQ.r4 {q : Int} (h : IsQ q) {M : cw_M} (hS : Sh M) : M q 4 = q + 9 := (hS _ _ (h.rs (by decide) (by decide))).trans h.2.1.2.2.2.2.1
theorem IsQ.r5 {q : Int} (h : IsQ q) {M : cw_M} (hS : Sh M) : M q 5 = q + 11 := (hS _ _ (h.rs (by decide) (by decide))).trans h.2.1.2.2.2.2.2
def AQ (q : Int) : Int → Prop := fun c => q + 1 ≤ c ∧ c ≤ q + 12
def RQ (M : cw_M) (q a b : Int) : Prop := RW M (q + 1) a ∧ RW M (q + 3) b
theorem RQ.fr {A : Int → Prop} {M M' : cw_M} {q a b : Int} (h : RQ M q a b) (hf : cw_fr A M M') (hA : ∀ c, q + 1 ≤ c → c ≤ q + 4 → ¬ A c) : RQ M' q a b :=
  ⟨h.1.fr hf (hA _ (by omega) (by omega)) (hA _ (by omega) (by omega)), h.2.fr hf (hA _ (by omega) (by omega)) (hA _ (by omega) (by omega))⟩
theorem p_Ra_copy {g : cw_G} {M : cw_M} {q o a b : Int} (hS : Sh M) (hq : IsQ q) (ho : IsQ o) (hqo : o + 12 < q ∨ q + 12 < o) (hv : RQ M o a b) :
    mC g y_Ra_copy [.inr (.inr q), .inr (.inr o)] M (fun r M' => r = none ∧ RQ M' q a b ∧ cw_fr (AQ q) M M') := by
  obtain ⟨k1, -, ⟨w1, w3, w5, w7, w9, w11⟩, k0⟩ := id hq
  obtain ⟨o1, -, ⟨v1, v3, -⟩, o0⟩ := id ho
  have a0 := hq.r0 hS; have b0 := ho.r0 hS
  refine cw_C_of (L := [.inr (.inr q), .inr (.inr o)]) ok_Ra_copy (Nat.le_refl _) (Nat.le_of_ble_eq_true rfl) rfl ?_
  refine k_Ra_copy_0 _ _ _ _ _ _ _ _ ?_
  simp only [↓w_nil, ↓w_cons, ↓w_ald0, ↓w_gf2_0, ↓w_ald1, ↓w_cv1, true_and, and_true, true_implies, false_implies, not_true_eq_false, not_false_eq_true, Int.reduceEq, Int.reduceLT, Int.reduceLE, Int.reduceNeg, w_c80, w_c8I, w_c8L, w_c8R, a0, b0]
  repeat refine And.intro (by first | assumption | exact IsW.kt (by assumption) | omega | (unfold in32; omega) | (unfold in64; omega) | trivial | rfl | exact Nat.le_of_ble_eq_true rfl) ?_
  try first | done | assumption | (unfold in32; omega) | (unfold in64; omega)
  refine ⟨_, p_Wh_copy hS w1 v1 (by omega) (by omega) (by omega) hv.1, ?_⟩
  rintro r M1 ⟨rfl, h1, f1⟩
  have hS1 := hS.fr f1
  have a1 := hq.r1 hS1; have b1 := ho.r1 hS1
  refine k_Ra_copy_11 _ _ _ _ _ _ _ _ ?_
  simp only [↓w_nil, ↓w_cons, ↓w_ald0, ↓w_gf2_1, ↓w_ald1, ↓w_cv1, true_and, and_true, true_implies, false_implies, not_true_eq_false, not_false_eq_true, Int.reduceEq, Int.reduceLT, Int.reduceLE, Int.reduceNeg, w_c80, w_c8I, w_c8L, w_c8R, w_tl0, a1, b1]
  repeat refine And.intro (by first | assumption | exact IsW.kt (by assumption) | omega | (unfold in32; omega) | (unfold in64; omega) | trivial | rfl | exact Nat.le_of_ble_eq_true rfl) ?_
  try first | done | assumption | (unfold in32; omega) | (unfold in64; omega)
  refine ⟨_, p_Wh_copy hS1 w3 v3 (by omega) (by omega) (by omega) (hv.2.fr f1 (by unfold Aw; omega) (by unfold Aw; omega)), ?_⟩
  rintro r M2 ⟨rfl, h2, f2⟩
  refine k_Ra_copy_22 _ _ _ _ _ _ _ _ ?_
  simp only [↓w_nil, ↓w_vret, true_and, and_true, true_implies, false_implies, not_true_eq_false, not_false_eq_true, Int.reduceEq, Int.reduceLT, Int.reduceLE, Int.reduceNeg, w_tl0]
  exact ⟨⟨h1.fr f2 (by unfold Aw; omega) (by unfold Aw; omega), h2⟩, fr_tr (fr_mo f1 fun c h => by unfold Aw at h; unfold AQ; omega) (fr_mo f2 fun c h => by unfold Aw at h; unfold AQ; omega)⟩
theorem bt7 {x y : Int} (hx : cw_ab x < 1073741824 ^ 7) (hy : cw_ab y < 1073741824 ^ 7) : cw_ab (x * y) < 1073741824 ^ 14 := by
  rw [ab_mul, show 14 = 7 + 7 from rfl, bt_add]
  exact mul_lt2 (ab_nn x) hx (ab_nn y) hy
theorem p_Ra_difference {g : cw_G} {M : cw_M} {q o p a b c d : Int} (hS : Sh M) (hq : IsQ q) (ho : IsQ o) (hp : IsQ p) (hqo : o + 12 < q ∨ q + 12 < o) (hqp : p + 12 < q ∨ q + 12 < p) (hv : RQ M o a b) (hu : RQ M p c d)
    (ha : cw_ab a < 1073741824 ^ 7) (hb : cw_ab b < 1073741824 ^ 7) (hc : cw_ab c < 1073741824 ^ 7) (hd : cw_ab d < 1073741824 ^ 7) :
    mC g y_Ra_difference [.inr (.inr q), .inr (.inr o), .inr (.inr p)] M (fun r M' => r = none ∧ RQ M' q (a * d - c * b) (b * d) ∧ cw_fr (AQ q) M M') := by
  obtain ⟨k1, -, ⟨w1, w3, w5, w7, w9, w11⟩, k0⟩ := id hq
  obtain ⟨o1, -, ⟨v1, v3, -⟩, o0⟩ := id ho
  obtain ⟨p1, -, ⟨u1, u3, -⟩, p0⟩ := id hp
  have e14 : (1073741824 : Int) ^ 14 < 1073741824 ^ 15 := by decide
  refine cw_C_of (L := [.inr (.inr q), .inr (.inr o), .inr (.inr p)]) ok_Ra_difference (Nat.le_refl _) (Nat.le_of_ble_eq_true rfl) rfl ?_
  refine k_Ra_difference_0 _ _ _ _ _ _ _ _ ?_
  simp only [↓w_nil, ↓w_cons, ↓w_ald0, ↓w_gf2_2, ↓w_ald1, ↓w_gf2_0, ↓w_ald2, ↓w_gf2_1, ↓w_cv2, true_and, and_true, true_implies, false_implies, not_true_eq_false, not_false_eq_true, Int.reduceEq, Int.reduceLT, Int.reduceLE, Int.reduceNeg, w_c80, w_c8I, w_c8L, w_c8R, hq.r2 hS, ho.r0 hS, hp.r1 hS]
  repeat refine And.intro (by first | assumption | exact IsW.kt (by assumption) | omega | (unfold in32; omega) | (unfold in64; omega) | trivial | rfl | exact Nat.le_of_ble_eq_true rfl) ?_
  try first | done | assumption | (unfold in32; omega) | (unfold in64; omega)
  refine ⟨_, p_Wh_product hS w5 v1 u3 (by omega) (by omega) hv.1 hu.2 ha hd (by decide), ?_⟩
  rintro r M1 ⟨rfl, h1, f1⟩
  have hS1 := hS.fr f1
  have hv1 := hv.fr f1 (fun c _ _ => by unfold Aw; omega)
  have hu1 := hu.fr f1 (fun c _ _ => by unfold Aw; omega)
  refine k_Ra_difference_15 _ _ _ _ _ _ _ _ ?_
  simp only [↓w_nil, ↓w_cons, ↓w_ald0, ↓w_gf2_3, ↓w_ald2, ↓w_gf2_0, ↓w_ald1, ↓w_gf2_1, ↓w_cv2, true_and, and_true, true_implies, false_implies, not_true_eq_false, not_false_eq_true, Int.reduceEq, Int.reduceLT, Int.reduceLE, Int.reduceNeg, w_c80, w_c8I, w_c8L, w_c8R, w_tl0, hq.r3 hS1, hp.r0 hS1, ho.r1 hS1]
  repeat refine And.intro (by first | assumption | exact IsW.kt (by assumption) | omega | (unfold in32; omega) | (unfold in64; omega) | trivial | rfl | exact Nat.le_of_ble_eq_true rfl) ?_
  try first | done | assumption | (unfold in32; omega) | (unfold in64; omega)
  refine ⟨_, p_Wh_product hS1 w7 u1 v3 (by omega) (by omega) hu1.1 hv1.2 hc hb (by decide), ?_⟩
  rintro r M2 ⟨rfl, h2, f2⟩
  have hS2 := hS1.fr f2
  have hv2 := hv1.fr f2 (fun c _ _ => by unfold Aw; omega)
  have hu2 := hu1.fr f2 (fun c _ _ => by unfold Aw; omega)
  have h12 := h1.fr f2 (by unfold Aw; omega) (by unfold Aw; omega)
  refine k_Ra_difference_30 _ _ _ _ _ _ _ _ ?_
  simp only [↓w_nil, ↓w_cons, ↓w_ald0, ↓w_gf2_0, ↓w_gf2_2, ↓w_ic, ↓w_gf2_3, ↓w_cv3, true_and, and_true, true_implies, false_implies, not_true_eq_false, not_false_eq_true, Int.reduceEq, Int.reduceLT, Int.reduceLE, Int.reduceNeg, w_c80, w_c8I, w_c8L, w_c8R, w_tl0, hq.r0 hS2, hq.r2 hS2, hq.r3 hS2]
  repeat refine And.intro (by first | assumption | exact IsW.kt (by assumption) | omega | (unfold in32; omega) | (unfold in64; omega) | trivial | rfl | exact Nat.le_of_ble_eq_true rfl) ?_
  try first | done | assumption | (unfold in32; omega) | (unfold in64; omega)
  refine ⟨_, p_Wh_sum hS2 w1 w5 w7 h12 h2 (Or.inr rfl) ⟨by have := bt7 ha hd; omega, by have := bt7 hc hb; omega⟩, ?_⟩
  rintro r M3 ⟨rfl, h3, f3⟩
  have hS3 := hS2.fr f3
  have hv3 := hv2.fr f3 (fun c _ _ => by unfold Aw; omega)
  have hu3 := hu2.fr f3 (fun c _ _ => by unfold Aw; omega)
  refine k_Ra_difference_46 _ _ _ _ _ _ _ _ ?_
  simp only [↓w_nil, ↓w_cons, ↓w_ald0, ↓w_gf2_1, ↓w_ald1, ↓w_ald2, ↓w_cv2, true_and, and_true, true_implies, false_implies, not_true_eq_false, not_false_eq_true, Int.reduceEq, Int.reduceLT, Int.reduceLE, Int.reduceNeg, w_c80, w_c8I, w_c8L, w_c8R, w_tl0, hq.r1 hS3, ho.r1 hS3, hp.r1 hS3]
  repeat refine And.intro (by first | assumption | exact IsW.kt (by assumption) | omega | (unfold in32; omega) | (unfold in64; omega) | trivial | rfl | exact Nat.le_of_ble_eq_true rfl) ?_
  try first | done | assumption | (unfold in32; omega) | (unfold in64; omega)
  refine ⟨_, p_Wh_product hS3 w3 v3 u3 (by omega) (by omega) hv3.2 hu3.2 hb hd (by decide), ?_⟩
  rintro r M4 ⟨rfl, h4, f4⟩
  refine k_Ra_difference_61 _ _ _ _ _ _ _ _ ?_
  simp only [↓w_nil, ↓w_vret, true_and, and_true, true_implies, false_implies, not_true_eq_false, not_false_eq_true, Int.reduceEq, Int.reduceLT, Int.reduceLE, Int.reduceNeg, w_tl0]
  have e : a * d + -1 * (c * b) = a * d - c * b := by omega
  rw [e] at h3
  exact ⟨⟨h3.fr f4 (by unfold Aw; omega) (by unfold Aw; omega), h4⟩, fr_tr (fr_mo f1 fun c h => by unfold Aw at h; unfold AQ; omega) (fr_tr (fr_mo f2 fun c h => by unfold Aw at h; unfold AQ; omega) (fr_tr (fr_mo f3 fun c h => by unfold Aw at h; unfold AQ; omega) (fr_mo f4 fun c h => by unfold Aw at h; unfold AQ; omega)))⟩
theorem p_Ra_compare {g : cw_G} {M : cw_M} {q o a b c d : Int} (hS : Sh M) (hq : IsQ q) (ho : IsQ o) (hqo : o + 12 < q ∨ q + 12 < o) (hv : RQ M q a b) (hu : RQ M o c d)
    (ha : cw_ab a < 1073741824 ^ 7) (hb : cw_ab b < 1073741824 ^ 7) (hc : cw_ab c < 1073741824 ^ 7) (hd : cw_ab d < 1073741824 ^ 7) :
    mC g y_Ra_compare [.inr (.inr q), .inr (.inr o)] M (fun r M' => r = some (.inl (cw_sg (a * d - c * b))) ∧ RQ M' q a b ∧ cw_fr (AQ q) M M') := by
  obtain ⟨k1, -, ⟨w1, w3, w5, w7, w9, w11⟩, k0⟩ := id hq
  obtain ⟨o1, -, ⟨v1, v3, -⟩, o0⟩ := id ho
  have e14 : (1073741824 : Int) ^ 14 < 1073741824 ^ 15 := by decide
  refine cw_C_of (L := [.inr (.inr q), .inr (.inr o)]) ok_Ra_compare (Nat.le_refl _) (Nat.le_of_ble_eq_true rfl) rfl ?_
  refine k_Ra_compare_0 _ _ _ _ _ _ _ _ ?_
  simp only [↓w_nil, ↓w_cons, ↓w_ald0, ↓w_gf2_2, ↓w_gf2_0, ↓w_ald1, ↓w_gf2_1, ↓w_cv2, true_and, and_true, true_implies, false_implies, not_true_eq_false, not_false_eq_true, Int.reduceEq, Int.reduceLT, Int.reduceLE, Int.reduceNeg, w_c80, w_c8I, w_c8L, w_c8R, hq.r2 hS, hq.r0 hS, ho.r1 hS]
  repeat refine And.intro (by first | assumption | exact IsW.kt (by assumption) | omega | (unfold in32; omega) | (unfold in64; omega) | trivial | rfl | exact Nat.le_of_ble_eq_true rfl) ?_
  try first | done | assumption | (unfold in32; omega) | (unfold in64; omega)
  refine ⟨_, p_Wh_product hS w5 w1 v3 (by omega) (by omega) hv.1 hu.2 ha hd (by decide), ?_⟩
  rintro r M1 ⟨rfl, h1, f1⟩
  have hS1 := hS.fr f1
  have hv1 := hv.fr f1 (fun c _ _ => by unfold Aw; omega)
  have hu1 := hu.fr f1 (fun c _ _ => by unfold Aw; omega)
  refine k_Ra_compare_15 _ _ _ _ _ _ _ _ ?_
  simp only [↓w_nil, ↓w_cons, ↓w_ald0, ↓w_gf2_3, ↓w_ald1, ↓w_gf2_0, ↓w_gf2_1, ↓w_cv2, true_and, and_true, true_implies, false_implies, not_true_eq_false, not_false_eq_true, Int.reduceEq, Int.reduceLT, Int.reduceLE, Int.reduceNeg, w_c80, w_c8I, w_c8L, w_c8R, w_tl0, hq.r3 hS1, ho.r0 hS1, hq.r1 hS1]
  repeat refine And.intro (by first | assumption | exact IsW.kt (by assumption) | omega | (unfold in32; omega) | (unfold in64; omega) | trivial | rfl | exact Nat.le_of_ble_eq_true rfl) ?_
  try first | done | assumption | (unfold in32; omega) | (unfold in64; omega)
  refine ⟨_, p_Wh_product hS1 w7 v1 w3 (by omega) (by omega) hu1.1 hv1.2 hc hb (by decide), ?_⟩
  rintro r M2 ⟨rfl, h2, f2⟩
  have hS2 := hS1.fr f2
  have hv2 := hv1.fr f2 (fun c _ _ => by unfold Aw; omega)
  have h12 := h1.fr f2 (by unfold Aw; omega) (by unfold Aw; omega)
  refine k_Ra_compare_30 _ _ _ _ _ _ _ _ ?_
  simp only [↓w_nil, ↓w_cons, ↓w_ald0, ↓w_gf2_4, ↓w_gf2_2, ↓w_ic, ↓w_gf2_3, ↓w_cv3, true_and, and_true, true_implies, false_implies, not_true_eq_false, not_false_eq_true, Int.reduceEq, Int.reduceLT, Int.reduceLE, Int.reduceNeg, w_c80, w_c8I, w_c8L, w_c8R, w_tl0, hq.r4 hS2, hq.r2 hS2, hq.r3 hS2]
  repeat refine And.intro (by first | assumption | exact IsW.kt (by assumption) | omega | (unfold in32; omega) | (unfold in64; omega) | trivial | rfl | exact Nat.le_of_ble_eq_true rfl) ?_
  try first | done | assumption | (unfold in32; omega) | (unfold in64; omega)
  refine ⟨_, p_Wh_sum hS2 w9 w5 w7 h12 h2 (Or.inr rfl) ⟨by have := bt7 ha hd; omega, by have := bt7 hc hb; omega⟩, ?_⟩
  rintro r M3 ⟨rfl, h3, f3⟩
  have hS3 := hS2.fr f3
  have e : a * d + -1 * (c * b) = a * d - c * b := by omega
  rw [e] at h3
  obtain ⟨n, z1, z2, z3, z4, z5, z6⟩ := id h3
  refine k_Ra_compare_46 _ _ _ _ _ _ _ _ ?_
  simp only [↓w_nil, ↓w_cons, ↓w_ald0, ↓w_gf2_4, ↓w_gf0_2, ↓w_iret, true_and, and_true, true_implies, false_implies, not_true_eq_false, not_false_eq_true, Int.reduceEq, Int.reduceLT, Int.reduceLE, Int.reduceNeg, w_tl0, hq.r4 hS3, z6]
  repeat refine And.intro (by first | assumption | exact IsW.kt (by assumption) | omega | (unfold in32; omega) | (unfold in64; omega) | trivial | rfl | exact Nat.le_of_ble_eq_true rfl) ?_
  try first | done | assumption | (unfold in32; omega) | (unfold in64; omega)
  refine ⟨hv2.fr f3 (fun c _ _ => by unfold Aw; omega), fr_tr (fr_mo f1 fun c h => by unfold Aw at h; unfold AQ; omega) (fr_tr (fr_mo f2 fun c h => by unfold Aw at h; unfold AQ; omega) (fr_mo f3 fun c h => by unfold Aw at h; unfold AQ; omega))⟩
/-- the greatest number that divides both -/
def cw_gd (a b : Int) : Int := ((Nat.gcd a.natAbs b.natAbs : Nat) : Int)
theorem gd_0 {a : Int} (h : 0 ≤ a) : cw_gd a 0 = a := by unfold cw_gd; rw [Int.natAbs_zero, Nat.gcd_zero_right]; omega
theorem gd_s (a b : Int) : cw_gd a b = cw_gd b (a.tmod b) := by
  unfold cw_gd
  rw [Int.natAbs_tmod, Nat.gcd_comm, Nat.gcd_rec, Nat.gcd_comm]
theorem gd_ab (a b : Int) : cw_gd a (cw_ab b) = cw_gd a b := by unfold cw_gd; rw [ab_na, Int.natAbs_natCast]
theorem mulb2 {x y : Int} (hx : 0 ≤ x ∧ x < 1152921504606846976) (hy : 0 ≤ y ∧ y < 1152921504606846976) : 0 ≤ x * y ∧ x * y < 1329227995784915872903807060280344576 :=
  ⟨Int.mul_nonneg hx.1 hy.1, mul_lt2 hx.1 hx.2 hy.1 hy.2⟩
theorem p_Ra_shared {g : cw_G} {M : cw_M} {a b : Int} (ha : 0 ≤ a ∧ a < 1152921504606846976) (hb : 0 ≤ b ∧ b < 1152921504606846976) :
    mC g y_Ra_shared [.inr (.inl a), .inr (.inl b)] M (fun r M' => r = some (.inr (.inl (cw_gd a b))) ∧ M' = M) := by
  have loop : ∀ (d i : Nat) (x y : Int) (z9 z10 : cw_V), d + i = 122 → 0 ≤ x ∧ x < 1152921504606846976 → 0 ≤ y ∧ y < 1152921504606846976 → cw_gd x y = cw_gd a b → (i = 0 ∨ (y < x ∧ x * y < 2 ^ (d + 0) ) ∨ y = 0) →
      mJ g y_Ra_shared 9 [.inr (.inl a), cU, .inr (.inl b), cU, .inr (.inl x), cU, .inr (.inl y), cU, .inl i, z9, z10] [] M (fun r M' => r = some (.inr (.inl (cw_gd a b))) ∧ M' = M) := by
    intro d
    have done : ∀ (i x : Int) (z9 z10 : cw_V), 0 ≤ x → cw_gd x 0 = cw_gd a b → mJ g y_Ra_shared 44 [.inr (.inl a), cU, .inr (.inl b), cU, .inr (.inl x), cU, .inr (.inl 0), cU, .inl i, z9, z10] [] M (fun r M' => r = some (.inr (.inl (cw_gd a b))) ∧ M' = M) := by
      intro i x z9 z10 hx he
      rw [gd_0 hx] at he
      refine k_Ra_shared_44 _ _ _ _ _ _ _ _ ?_
      simp only [↓w_nil, ↓w_cons, ↓w_lld4, ↓w_lret, true_and, and_true, true_implies, false_implies, not_true_eq_false, not_false_eq_true, Int.reduceEq, Int.reduceLT, Int.reduceLE, Int.reduceNeg, he]
    induction d with
    | zero =>
      intro i x y z9 z10 hi hx hy he hp
      have y0 : y = 0 := by
        by_cases q : y = 0
        · exact q
        · rcases hp with h | h | h
          · omega
          · have : 1 * 1 ≤ x * y := by
              have h1 := Int.mul_le_mul_of_nonneg_right (show 1 ≤ x by omega) (show 0 ≤ y by omega)
              omega
            have h2 := h.2
            rw [show (2 : Int) ^ (0 + 0) = 1 from rfl] at h2
            omega
          · exact h
      subst y0
      refine k_Ra_shared_9 _ _ _ _ _ _ _ _ ?_
      simp only [↓w_nil, ↓w_cons, ↓w_ild8, ↓w_ic, ↓w_icge, true_and, and_true, true_implies, false_implies, not_true_eq_false, not_false_eq_true, Int.reduceEq, Int.reduceLT, Int.reduceLE, Int.reduceNeg]
      repeat refine And.intro (by first | assumption | exact IsW.kt (by assumption) | omega | (unfold in32; omega) | (unfold in64; omega) | trivial | rfl | exact Nat.le_of_ble_eq_true rfl) ?_
      try first | done | assumption | (unfold in32; omega) | (unfold in64; omega)
      intro _
      refine k_Ra_shared_16 _ _ _ _ _ _ _ _ ?_
      simp only [↓w_nil, ↓w_cons, ↓w_lld6, ↓w_lc, ↓w_lceq, true_and, and_true, true_implies, false_implies, not_true_eq_false, not_false_eq_true, Int.reduceEq, Int.reduceLT, Int.reduceLE, Int.reduceNeg]
      repeat refine And.intro (by first | assumption | exact IsW.kt (by assumption) | omega | (unfold in32; omega) | (unfold in64; omega) | trivial | rfl | exact Nat.le_of_ble_eq_true rfl) ?_
      try first | done | assumption | (unfold in32; omega) | (unfold in64; omega)
      exact done _ _ _ _ hx.1 he
    | succ d ih =>
      intro i x y z9 z10 hi hx hy he hp
      refine k_Ra_shared_9 _ _ _ _ _ _ _ _ ?_
      simp only [↓w_nil, ↓w_cons, ↓w_ild8, ↓w_ic, ↓w_icge, true_and, and_true, true_implies, false_implies, not_true_eq_false, not_false_eq_true, Int.reduceEq, Int.reduceLT, Int.reduceLE, Int.reduceNeg]
      repeat refine And.intro (by first | assumption | exact IsW.kt (by assumption) | omega | (unfold in32; omega) | (unfold in64; omega) | trivial | rfl | exact Nat.le_of_ble_eq_true rfl) ?_
      try first | done | assumption | (unfold in32; omega) | (unfold in64; omega)
      intro _
      refine k_Ra_shared_16 _ _ _ _ _ _ _ _ ?_
      simp only [↓w_nil, ↓w_cons, ↓w_lld6, ↓w_lc, ↓w_lceq, true_and, and_true, true_implies, false_implies, not_true_eq_false, not_false_eq_true, Int.reduceEq, Int.reduceLT, Int.reduceLE, Int.reduceNeg]
      repeat refine And.intro (by first | assumption | exact IsW.kt (by assumption) | omega | (unfold in32; omega) | (unfold in64; omega) | trivial | rfl | exact Nat.le_of_ble_eq_true rfl) ?_
      try first | done | assumption | (unfold in32; omega) | (unfold in64; omega)
      refine ⟨fun h => ?_, fun h => ?_⟩
      · subst h; exact done _ _ _ _ hx.1 he
      · have t1 : x.tmod y = x % y := Int.tmod_eq_emod_of_nonneg hx.1
        have t2 := Int.emod_nonneg x h
        have t3 := Int.emod_lt_of_pos x (show 0 < y by omega)
        have ei : (i : Int) + 1 = ((i + 1 : Nat) : Int) := by omega
        refine k_Ra_shared_23 _ _ _ _ _ _ _ _ ?_
        simp only [↓w_nil, ↓w_cons, ↓w_lld4, ↓w_lld6, ↓w_lrem, ↓w_lst9, ↓w_lst4, ↓w_lld9, ↓w_lst6, ↓w_inc8, ↓w_goto, true_and, and_true, true_implies, false_implies, not_true_eq_false, not_false_eq_true, Int.reduceEq, Int.reduceLT, Int.reduceLE, Int.reduceNeg, w_nlI, w_nlL, w_nlR, ei]
        repeat refine And.intro (by first | assumption | exact IsW.kt (by assumption) | omega | (unfold in32; omega) | (unfold in64; omega) | trivial | rfl | exact Nat.le_of_ble_eq_true rfl) ?_
        try first | done | assumption | (unfold in32; omega) | (unfold in64; omega)
        refine ih (i + 1) y (x.tmod y) _ _ (by omega) hy (by rw [t1]; omega) (by rw [← gd_s]; exact he) ?_
        rw [t1]
        by_cases q : x % y = 0
        · exact Or.inr (Or.inr q)
        · refine Or.inr (Or.inl ⟨t3, ?_⟩)
          rcases hp with h0 | h0 | h0
          · have h1 := mulb2 (x := y) (y := x % y) hy ⟨t2, by omega⟩
            have : d = 121 := by omega
            subst this
            have e : (2 : Int) ^ (121 + 0) = 2 * 1329227995784915872903807060280344576 := by decide
            omega
          · have h1 : 2 * (x % y) ≤ x := by
              have h2 := Int.mul_ediv_add_emod x y
              have h3 : 1 ≤ x / y := (Int.le_ediv_iff_mul_le (by omega)).mpr (by omega)
              have h4 := Int.mul_le_mul_of_nonneg_left h3 (show 0 ≤ y by omega)
              omega
            have h2 : y * (2 * (x % y)) ≤ y * x := Int.mul_le_mul_of_nonneg_left h1 (by omega)
            have h3 : y * (2 * (x % y)) = 2 * (y * (x % y)) := by ac_rfl
            have h4 : y * x = x * y := Int.mul_comm _ _
            have h5 : (2 : Int) ^ (d + 1 + 0) = 2 ^ (d + 0) * 2 := Int.pow_succ _ _
            have := h0.2
            omega
          · exact absurd h0 h
  refine cw_C_of (L := [.inr (.inl a), cU, .inr (.inl b), cU, cU, cU, cU, cU, cU, cU, cU]) ok_Ra_shared (Nat.le_refl _) (Nat.le_of_ble_eq_true rfl) rfl ?_
  refine k_Ra_shared_0 _ _ _ _ _ _ _ _ ?_
  simp only [↓w_nil, ↓w_cons, ↓w_lld0, ↓w_lst4, ↓w_lld2, ↓w_lst6, ↓w_ic, ↓w_ist8, ↓w_fall, true_and, and_true, true_implies, false_implies, not_true_eq_false, not_false_eq_true, Int.reduceEq, Int.reduceLT, Int.reduceLE, Int.reduceNeg, w_nlI, w_nlL, w_nlR]
  exact loop 122 0 a b _ _ rfl ha hb rfl (Or.inl rfl)
/-- the numbers that the search for the greatest shared one writes -/
def AF (q : Int) : Int → Prop := fun c => q + 5 ≤ c ∧ c ≤ q + 12
theorem rw_short {M : cw_M} {w v : Int} (h : RW M w v) : M w 2 = cw_sg v := by obtain ⟨_, _, _, _, _, _, h⟩ := h; exact h
theorem sg32 (v : Int) : in32 (cw_sg v) := by unfold in32 cw_sg; split <;> (try split) <;> omega
theorem sg_0 {v : Int} : cw_sg v = 0 ↔ v = 0 := by unfold cw_sg; split <;> (try split) <;> omega
theorem p2_mono {a b : Nat} (h : a ≤ b) : (2 : Int) ^ a ≤ 2 ^ b := by
  obtain ⟨d, rfl⟩ := Nat.exists_eq_add_of_le h
  rw [Int.pow_add]
  have h1 := cw_p2pos a
  have h2 := cw_p2pos d
  have := Int.mul_le_mul_of_nonneg_left h2 (show (0 : Int) ≤ 2 ^ a by omega)
  omega
theorem l_findShared {g : cw_G} {q a b : Int} (hq : IsQ q) (Q : Option cw_V → cw_M → Prop) (M0 : cw_M) (hQ : ∀ M', Sh M' → RW M' (q + 5) (cw_gd b a) → cw_fr (AF q) M0 M' → Q none M') :
    ∀ (d i : Nat) (x y : Int) (M : cw_M), d + i = 902 → Sh M → cw_fr (AF q) M0 M → RW M (q + 5) x → RW M (q + 7) y → 0 ≤ x ∧ x < 1073741824 ^ 15 → 0 ≤ y ∧ y < 1073741824 ^ 15 → cw_gd x y = cw_gd b a → (i = 0 ∨ (y < x ∧ x * y < 2 ^ d) ∨ y = 0) →
      mJ g y_Ra_findShared 31 [.inr (.inr q), .inl i] [] M Q := by
  obtain ⟨k1, -, ⟨w1, w3, w5, w7, w9, w11⟩, k0⟩ := id hq
  have done : ∀ (i x : Int) (M : cw_M), Sh M → cw_fr (AF q) M0 M → RW M (q + 5) x → 0 ≤ x → cw_gd x 0 = cw_gd b a → mJ g y_Ra_findShared 139 [.inr (.inr q), .inl i] [] M Q := by
    intro i x M hS hf h5 hx he
    rw [gd_0 hx] at he
    refine k_Ra_findShared_139 _ _ _ _ _ _ _ _ ?_
    simp only [↓w_nil, ↓w_vret, true_and, and_true, true_implies, false_implies, not_true_eq_false, not_false_eq_true, Int.reduceEq, Int.reduceLT, Int.reduceLE, Int.reduceNeg]
    exact hQ M hS (by rw [← he]; exact h5) hf
  intro d
  induction d with
  | zero =>
    intro i x y M hi hS hf h5 h7 hx hy he hp
    have y0 : y = 0 := by
      by_cases q : y = 0
      · exact q
      · rcases hp with h | h | h
        · omega
        · have h1 := Int.mul_le_mul_of_nonneg_right (show 1 ≤ x by omega) (show 0 ≤ y by omega)
          have h2 := h.2
          rw [show (2 : Int) ^ 0 = 1 from rfl] at h2
          omega
        · exact h
    subst y0
    refine k_Ra_findShared_31 _ _ _ _ _ _ _ _ ?_
    simp only [↓w_nil, ↓w_cons, ↓w_ild1, ↓w_ic, ↓w_icge, true_and, and_true, true_implies, false_implies, not_true_eq_false, not_false_eq_true, Int.reduceEq, Int.reduceLT, Int.reduceLE, Int.reduceNeg]
    repeat refine And.intro (by first | assumption | exact IsW.kt (by assumption) | omega | (unfold in32; omega) | (unfold in64; omega) | trivial | rfl | exact Nat.le_of_ble_eq_true rfl) ?_
    try first | done | assumption | (unfold in32; omega) | (unfold in64; omega)
    intro _
    have s7 : M (q + 7) 2 = 0 := rw_short h7
    refine k_Ra_findShared_37 _ _ _ _ _ _ _ _ ?_
    simp only [↓w_nil, ↓w_cons, ↓w_ald0, ↓w_gf2_3, ↓w_gf0_2, ↓w_ifeq, true_and, and_true, true_implies, false_implies, not_true_eq_false, not_false_eq_true, Int.reduceEq, Int.reduceLT, Int.reduceLE, Int.reduceNeg, hq.r3 hS, s7]
    repeat refine And.intro (by first | assumption | exact IsW.kt (by assumption) | omega | (unfold in32; omega) | (unfold in64; omega) | trivial | rfl | exact Nat.le_of_ble_eq_true rfl) ?_
    try first | done | assumption | (unfold in32; omega) | (unfold in64; omega)
    exact done _ x M hS hf h5 hx.1 he
  | succ d ih =>
    intro i x y M hi hS hf h5 h7 hx hy he hp
    have s7 : M (q + 7) 2 = cw_sg y := rw_short h7
    have s32 := sg32 y
    refine k_Ra_findShared_31 _ _ _ _ _ _ _ _ ?_
    simp only [↓w_nil, ↓w_cons, ↓w_ild1, ↓w_ic, ↓w_icge, true_and, and_true, true_implies, false_implies, not_true_eq_false, not_false_eq_true, Int.reduceEq, Int.reduceLT, Int.reduceLE, Int.reduceNeg]
    repeat refine And.intro (by first | assumption | exact IsW.kt (by assumption) | omega | (unfold in32; omega) | (unfold in64; omega) | trivial | rfl | exact Nat.le_of_ble_eq_true rfl) ?_
    try first | done | assumption | (unfold in32; omega) | (unfold in64; omega)
    intro _
    refine k_Ra_findShared_37 _ _ _ _ _ _ _ _ ?_
    simp only [↓w_nil, ↓w_cons, ↓w_ald0, ↓w_gf2_3, ↓w_gf0_2, ↓w_ifeq, true_and, and_true, true_implies, false_implies, not_true_eq_false, not_false_eq_true, Int.reduceEq, Int.reduceLT, Int.reduceLE, Int.reduceNeg, hq.r3 hS, s7]
    repeat refine And.intro (by first | assumption | exact IsW.kt (by assumption) | omega | (unfold in32; omega) | (unfold in64; omega) | trivial | rfl | exact Nat.le_of_ble_eq_true rfl) ?_
    try first | done | assumption | (unfold in32; omega) | (unfold in64; omega)
    refine ⟨fun h => ?_, fun h => ?_⟩
    · have y0 := sg_0.mp h
      subst y0
      exact done _ x M hS hf h5 hx.1 he
    have hy0 : y ≠ 0 := fun q => h (sg_0.mpr q)
    have xab : cw_ab x = x := by unfold cw_ab; rw [if_pos hx.1]
    have yab : cw_ab y = y := by unfold cw_ab; rw [if_pos hy.1]
    have long : mJ g y_Ra_findShared 92 [.inr (.inr q), .inl i] [] M Q := by
      refine k_Ra_findShared_92 _ _ _ _ _ _ _ _ ?_
      simp only [↓w_nil, ↓w_cons, ↓w_ald0, ↓w_gf2_4, ↓w_gf2_2, ↓w_gf2_3, ↓w_gf2_5, ↓w_cv3, true_and, and_true, true_implies, false_implies, not_true_eq_false, not_false_eq_true, Int.reduceEq, Int.reduceLT, Int.reduceLE, Int.reduceNeg, w_c80, w_c8I, w_c8L, w_c8R, hq.r4 hS, hq.r2 hS, hq.r3 hS, hq.r5 hS]
      repeat refine And.intro (by first | assumption | exact IsW.kt (by assumption) | omega | (unfold in32; omega) | (unfold in64; omega) | trivial | rfl | exact Nat.le_of_ble_eq_true rfl) ?_
      try first | done | assumption | (unfold in32; omega) | (unfold in64; omega)
      refine ⟨_, p_Wh_divide hS w9 w5 w7 w11 (by omega) (by omega) (by omega) (by omega) (by omega) h5 h7 hy0 (by omega), ?_⟩
      rintro r M1 ⟨rfl, h9, h11, f1⟩
      have hS1 := hS.fr f1
      have h71 := h7.fr f1 (by unfold Aw; omega) (by unfold Aw; omega)
      refine k_Ra_findShared_111 _ _ _ _ _ _ _ _ ?_
      simp only [↓w_nil, ↓w_cons, ↓w_ald0, ↓w_gf2_2, ↓w_gf2_3, ↓w_cv1, true_and, and_true, true_implies, false_implies, not_true_eq_false, not_false_eq_true, Int.reduceEq, Int.reduceLT, Int.reduceLE, Int.reduceNeg, w_c80, w_c8I, w_c8L, w_c8R, w_tl0, hq.r2 hS1, hq.r3 hS1]
      repeat refine And.intro (by first | assumption | exact IsW.kt (by assumption) | omega | (unfold in32; omega) | (unfold in64; omega) | trivial | rfl | exact Nat.le_of_ble_eq_true rfl) ?_
      try first | done | assumption | (unfold in32; omega) | (unfold in64; omega)
      refine ⟨_, p_Wh_copy hS1 w5 w7 (by omega) (by omega) (by omega) h71, ?_⟩
      rintro r M2 ⟨rfl, h52, f2⟩
      have hS2 := hS1.fr f2
      have h112 := h11.fr f2 (by unfold Aw; omega) (by unfold Aw; omega)
      refine k_Ra_findShared_122 _ _ _ _ _ _ _ _ ?_
      simp only [↓w_nil, ↓w_cons, ↓w_ald0, ↓w_gf2_3, ↓w_gf2_5, ↓w_cv1, true_and, and_true, true_implies, false_implies, not_true_eq_false, not_false_eq_true, Int.reduceEq, Int.reduceLT, Int.reduceLE, Int.reduceNeg, w_c80, w_c8I, w_c8L, w_c8R, w_tl0, hq.r3 hS2, hq.r5 hS2]
      repeat refine And.intro (by first | assumption | exact IsW.kt (by assumption) | omega | (unfold in32; omega) | (unfold in64; omega) | trivial | rfl | exact Nat.le_of_ble_eq_true rfl) ?_
      try first | done | assumption | (unfold in32; omega) | (unfold in64; omega)
      refine ⟨_, p_Wh_copy hS2 w7 w11 (by omega) (by omega) (by omega) h112, ?_⟩
      rintro r M3 ⟨rfl, h73, f3⟩
      have hS3 := hS2.fr f3
      have h53 := h52.fr f3 (by unfold Aw; omega) (by unfold Aw; omega)
      have t1 : x.tmod y = x % y := Int.tmod_eq_emod_of_nonneg hx.1
      have t2 := Int.emod_nonneg x hy0
      have t3 := Int.emod_lt_of_pos x (show 0 < y by omega)
      have ei : (i : Int) + 1 = ((i + 1 : Nat) : Int) := by omega
      refine k_Ra_findShared_133 _ _ _ _ _ _ _ _ ?_
      simp only [↓w_nil, ↓w_cons, ↓w_inc1, ↓w_goto, true_and, and_true, true_implies, false_implies, not_true_eq_false, not_false_eq_true, Int.reduceEq, Int.reduceLT, Int.reduceLE, Int.reduceNeg, w_nlI, w_nlL, w_nlR, w_tl0, ei]
      refine ih (i + 1) y (x.tmod y) M3 (by omega) hS3 (fr_tr hf (fr_tr (fr_mo f1 fun c h => by unfold Aw at h; unfold AF; omega) (fr_tr (fr_mo f2 fun c h => by unfold Aw at h; unfold AF; omega) (fr_mo f3 fun c h => by unfold Aw at h; unfold AF; omega)))) h53 h73 hy (by rw [t1]; omega) (by rw [← gd_s]; exact he) ?_
      rw [t1]
      by_cases q0 : x % y = 0
      · exact Or.inr (Or.inr q0)
      · refine Or.inr (Or.inl ⟨t3, ?_⟩)
        rcases hp with h0 | h0 | h0
        · have h1 := mul_lt2 hy.1 hy.2 t2 (show x % y < 1073741824 ^ 15 by omega)
          have : d = 901 := by omega
          subst this
          have e : (1073741824 : Int) ^ 15 * 1073741824 ^ 15 ≤ 2 ^ 901 := by decide +kernel
          omega
        · have h1 : 2 * (x % y) ≤ x := by
            have h2 := Int.mul_ediv_add_emod x y
            have h3 : 1 ≤ x / y := (Int.le_ediv_iff_mul_le (by omega)).mpr (by omega)
            have h4 := Int.mul_le_mul_of_nonneg_left h3 (show 0 ≤ y by omega)
            omega
          have h2 : y * (2 * (x % y)) ≤ y * x := Int.mul_le_mul_of_nonneg_left h1 (by omega)
          have h3 : y * (2 * (x % y)) = 2 * (y * (x % y)) := by ac_rfl
          have h4 : y * x = x * y := Int.mul_comm _ _
          have h5 : (2 : Int) ^ (d + 1) = 2 ^ d * 2 := Int.pow_succ _ _
          have := h0.2
          omega
        · exact absurd h0 hy0
    refine k_Ra_findShared_47 _ _ _ _ _ _ _ _ ?_
    simp only [↓w_nil, ↓w_cons, ↓w_ald0, ↓w_gf2_2, ↓w_cv0, true_and, and_true, true_implies, false_implies, not_true_eq_false, not_false_eq_true, Int.reduceEq, Int.reduceLT, Int.reduceLE, Int.reduceNeg, w_c80, w_c8I, w_c8L, w_c8R, hq.r2 hS]
    repeat refine And.intro (by first | assumption | exact IsW.kt (by assumption) | omega | (unfold in32; omega) | (unfold in64; omega) | trivial | rfl | exact Nat.le_of_ble_eq_true rfl) ?_
    try first | done | assumption | (unfold in32; omega) | (unfold in64; omega)
    refine ⟨_, p_Wh_isShort w5 h5, ?_⟩
    rintro r M' ⟨rfl, rfl⟩
    rw [xab]
    by_cases hxs : x < 1152921504606846976
    · rw [if_pos hxs]
      refine k_Ra_findShared_54 _ _ _ _ _ _ _ _ ?_
      simp only [↓w_nil, ↓w_ifeq, true_and, and_true, true_implies, false_implies, not_true_eq_false, not_false_eq_true, Int.reduceEq, Int.reduceLT, Int.reduceLE, Int.reduceNeg, w_tl1]
      repeat refine And.intro (by first | assumption | exact IsW.kt (by assumption) | omega | (unfold in32; omega) | (unfold in64; omega) | trivial | rfl | exact Nat.le_of_ble_eq_true rfl) ?_
      try first | done | assumption | (unfold in32; omega) | (unfold in64; omega)
      refine k_Ra_findShared_57 _ _ _ _ _ _ _ _ ?_
      simp only [↓w_nil, ↓w_cons, ↓w_ald0, ↓w_gf2_3, ↓w_cv0, true_and, and_true, true_implies, false_implies, not_true_eq_false, not_false_eq_true, Int.reduceEq, Int.reduceLT, Int.reduceLE, Int.reduceNeg, w_c80, w_c8I, w_c8L, w_c8R, hq.r3 hS]
      repeat refine And.intro (by first | assumption | exact IsW.kt (by assumption) | omega | (unfold in32; omega) | (unfold in64; omega) | trivial | rfl | exact Nat.le_of_ble_eq_true rfl) ?_
      try first | done | assumption | (unfold in32; omega) | (unfold in64; omega)
      refine ⟨_, p_Wh_isShort w7 h7, ?_⟩
      rintro r M'' ⟨rfl, rfl⟩
      rw [yab]
      by_cases hys : y < 1152921504606846976
      · rw [if_pos hys]
        refine k_Ra_findShared_64 _ _ _ _ _ _ _ _ ?_
        simp only [↓w_nil, ↓w_ifeq, true_and, and_true, true_implies, false_implies, not_true_eq_false, not_false_eq_true, Int.reduceEq, Int.reduceLT, Int.reduceLE, Int.reduceNeg, w_tl1]
        repeat refine And.intro (by first | assumption | exact IsW.kt (by assumption) | omega | (unfold in32; omega) | (unfold in64; omega) | trivial | rfl | exact Nat.le_of_ble_eq_true rfl) ?_
        try first | done | assumption | (unfold in32; omega) | (unfold in64; omega)
        refine k_Ra_findShared_67 _ _ _ _ _ _ _ _ ?_
        simp only [↓w_nil, ↓w_cons, ↓w_ald0, ↓w_gf2_2, ↓w_cv0, true_and, and_true, true_implies, false_implies, not_true_eq_false, not_false_eq_true, Int.reduceEq, Int.reduceLT, Int.reduceLE, Int.reduceNeg, w_c80, w_c8I, w_c8L, w_c8R, hq.r2 hS]
        repeat refine And.intro (by first | assumption | exact IsW.kt (by assumption) | omega | (unfold in32; omega) | (unfold in64; omega) | trivial | rfl | exact Nat.le_of_ble_eq_true rfl) ?_
        try first | done | assumption | (unfold in32; omega) | (unfold in64; omega)
        refine ⟨_, p_Wh_asLong hS w5 h5 (by omega), ?_⟩
        rintro r M2 ⟨rfl, rfl⟩
        refine k_Ra_findShared_78 _ _ _ _ _ _ _ _ ?_
        simp only [↓w_nil, ↓w_cons, ↓w_ald0, ↓w_gf2_3, ↓w_cv0, true_and, and_true, true_implies, false_implies, not_true_eq_false, not_false_eq_true, Int.reduceEq, Int.reduceLT, Int.reduceLE, Int.reduceNeg, w_c80, w_c8I, w_c8L, w_c8R, w_tl1, hq.r3 hS]
        repeat refine And.intro (by first | assumption | exact IsW.kt (by assumption) | omega | (unfold in32; omega) | (unfold in64; omega) | trivial | rfl | exact Nat.le_of_ble_eq_true rfl) ?_
        try first | done | assumption | (unfold in32; omega) | (unfold in64; omega)
        refine ⟨_, p_Wh_asLong hS w7 h7 (by omega), ?_⟩
        rintro r M3 ⟨rfl, rfl⟩
        refine k_Ra_findShared_85 _ _ _ _ _ _ _ _ ?_
        simp only [↓w_nil, ↓w_cs2, true_and, and_true, true_implies, false_implies, not_true_eq_false, not_false_eq_true, Int.reduceEq, Int.reduceLT, Int.reduceLE, Int.reduceNeg, w_c80, w_c8I, w_c8L, w_c8R, w_tl1]
        repeat refine And.intro (by first | assumption | exact IsW.kt (by assumption) | omega | (unfold in32; omega) | (unfold in64; omega) | trivial | rfl | exact Nat.le_of_ble_eq_true rfl) ?_
        try first | done | assumption | (unfold in32; omega) | (unfold in64; omega)
        refine ⟨_, p_Ra_shared ⟨hx.1, hxs⟩ ⟨hy.1, hys⟩, ?_⟩
        rintro r M4 ⟨rfl, rfl⟩
        have gr : 0 ≤ cw_gd x y ∧ cw_gd x y < 1152921504606846976 := by
          unfold cw_gd
          have := Nat.gcd_le_right x.natAbs (show 0 < y.natAbs by omega)
          omega
        refine k_Ra_findShared_88 _ _ _ _ _ _ _ _ ?_
        simp only [↓w_nil, ↓w_cv1, true_and, and_true, true_implies, false_implies, not_true_eq_false, not_false_eq_true, Int.reduceEq, Int.reduceLT, Int.reduceLE, Int.reduceNeg, w_c80, w_c8I, w_c8L, w_c8R, w_tl1]
        repeat refine And.intro (by first | assumption | exact IsW.kt (by assumption) | omega | (unfold in32; omega) | (unfold in64; omega) | trivial | rfl | exact Nat.le_of_ble_eq_true rfl) ?_
        try first | done | assumption | (unfold in32; omega) | (unfold in64; omega)
        refine ⟨_, p_Wh_put hS w5 (by omega), ?_⟩
        rintro r M5 ⟨rfl, h55, f5⟩
        refine k_Ra_findShared_91 _ _ _ _ _ _ _ _ ?_
        simp only [↓w_nil, ↓w_vret, true_and, and_true, true_implies, false_implies, not_true_eq_false, not_false_eq_true, Int.reduceEq, Int.reduceLT, Int.reduceLE, Int.reduceNeg, w_tl0]
        exact hQ M5 (hS.fr f5) (by rw [← he]; exact h55) (fr_tr hf (fr_mo f5 fun c h => by unfold Aw at h; unfold AF; omega))
      · rw [if_neg hys]
        refine k_Ra_findShared_64 _ _ _ _ _ _ _ _ ?_
        simp only [↓w_nil, ↓w_ifeq, true_and, and_true, true_implies, false_implies, not_true_eq_false, not_false_eq_true, Int.reduceEq, Int.reduceLT, Int.reduceLE, Int.reduceNeg, w_tl1]
        repeat refine And.intro (by first | assumption | exact IsW.kt (by assumption) | omega | (unfold in32; omega) | (unfold in64; omega) | trivial | rfl | exact Nat.le_of_ble_eq_true rfl) ?_
        try first | done | assumption | (unfold in32; omega) | (unfold in64; omega)
    · rw [if_neg hxs]
      refine k_Ra_findShared_54 _ _ _ _ _ _ _ _ ?_
      simp only [↓w_nil, ↓w_ifeq, true_and, and_true, true_implies, false_implies, not_true_eq_false, not_false_eq_true, Int.reduceEq, Int.reduceLT, Int.reduceLE, Int.reduceNeg, w_tl1]
      repeat refine And.intro (by first | assumption | exact IsW.kt (by assumption) | omega | (unfold in32; omega) | (unfold in64; omega) | trivial | rfl | exact Nat.le_of_ble_eq_true rfl) ?_
      try first | done | assumption | (unfold in32; omega) | (unfold in64; omega)
theorem p_Ra_findShared {g : cw_G} {M : cw_M} {q a b : Int} (hS : Sh M) (hq : IsQ q) (hv : RQ M q a b) (hb : 0 < b) (ha : cw_ab a < 1073741824 ^ 15) (hb2 : b < 1073741824 ^ 15) :
    mC g y_Ra_findShared [.inr (.inr q)] M (fun r M' => r = none ∧ RW M' (q + 5) (cw_gd b a) ∧ cw_fr (AF q) M M') := by
  obtain ⟨k1, -, ⟨w1, w3, w5, w7, w9, w11⟩, k0⟩ := id hq
  refine cw_C_of (L := [.inr (.inr q), cU]) ok_Ra_findShared (Nat.le_refl _) (Nat.le_of_ble_eq_true rfl) rfl ?_
  refine k_Ra_findShared_0 _ _ _ _ _ _ _ _ ?_
  simp only [↓w_nil, ↓w_cons, ↓w_ald0, ↓w_gf2_2, ↓w_gf2_1, ↓w_cv1, true_and, and_true, true_implies, false_implies, not_true_eq_false, not_false_eq_true, Int.reduceEq, Int.reduceLT, Int.reduceLE, Int.reduceNeg, w_c80, w_c8I, w_c8L, w_c8R, hq.r2 hS, hq.r1 hS]
  repeat refine And.intro (by first | assumption | exact IsW.kt (by assumption) | omega | (unfold in32; omega) | (unfold in64; omega) | trivial | rfl | exact Nat.le_of_ble_eq_true rfl) ?_
  try first | done | assumption | (unfold in32; omega) | (unfold in64; omega)
  refine ⟨_, p_Wh_copy hS w5 w3 (by omega) (by omega) (by omega) hv.2, ?_⟩
  rintro r M1 ⟨rfl, h5, f1⟩
  have hS1 := hS.fr f1
  refine k_Ra_findShared_11 _ _ _ _ _ _ _ _ ?_
  simp only [↓w_nil, ↓w_cons, ↓w_ald0, ↓w_gf2_3, ↓w_gf2_0, ↓w_cv1, true_and, and_true, true_implies, false_implies, not_true_eq_false, not_false_eq_true, Int.reduceEq, Int.reduceLT, Int.reduceLE, Int.reduceNeg, w_c80, w_c8I, w_c8L, w_c8R, w_tl0, hq.r3 hS1, hq.r0 hS1]
  repeat refine And.intro (by first | assumption | exact IsW.kt (by assumption) | omega | (unfold in32; omega) | (unfold in64; omega) | trivial | rfl | exact Nat.le_of_ble_eq_true rfl) ?_
  try first | done | assumption | (unfold in32; omega) | (unfold in64; omega)
  refine ⟨_, p_Wh_copy hS1 w7 w1 (by omega) (by omega) (by omega) (hv.1.fr f1 (by unfold Aw; omega) (by unfold Aw; omega)), ?_⟩
  rintro r M2 ⟨rfl, h7, f2⟩
  have hS2 := hS1.fr f2
  refine k_Ra_findShared_22 _ _ _ _ _ _ _ _ ?_
  simp only [↓w_nil, ↓w_cons, ↓w_ald0, ↓w_gf2_3, ↓w_cv0, true_and, and_true, true_implies, false_implies, not_true_eq_false, not_false_eq_true, Int.reduceEq, Int.reduceLT, Int.reduceLE, Int.reduceNeg, w_c80, w_c8I, w_c8L, w_c8R, w_tl0, hq.r3 hS2]
  repeat refine And.intro (by first | assumption | exact IsW.kt (by assumption) | omega | (unfold in32; omega) | (unfold in64; omega) | trivial | rfl | exact Nat.le_of_ble_eq_true rfl) ?_
  try first | done | assumption | (unfold in32; omega) | (unfold in64; omega)
  refine ⟨_, p_Wh_dropSign w7 h7, ?_⟩
  rintro r M3 ⟨rfl, h73, f3⟩
  have hS3 := hS2.fr f3
  have f123 : cw_fr (AF q) M M3 := fr_tr (fr_mo f1 fun c h => by unfold Aw at h; unfold AF; omega) (fr_tr (fr_mo f2 fun c h => by unfold Aw at h; unfold AF; omega) (fr_mo f3 fun c h => by unfold Aw at h; unfold AF; omega))
  refine k_Ra_findShared_29 _ _ _ _ _ _ _ _ ?_
  simp only [↓w_nil, ↓w_cons, ↓w_ic, ↓w_ist1, ↓w_fall, true_and, and_true, true_implies, false_implies, not_true_eq_false, not_false_eq_true, Int.reduceEq, Int.reduceLT, Int.reduceLE, Int.reduceNeg, w_nlI, w_nlL, w_nlR, w_tl0]
  exact l_findShared (a := a) (b := b) hq _ M (fun M' _ h1 h2 => ⟨rfl, h1, h2⟩) 902 0 b (cw_ab a) M3 rfl hS3 f123 ((h5.fr f2 (by unfold Aw; omega) (by unfold Aw; omega)).fr f3 (by unfold Aw; omega) (by unfold Aw; omega)) h73 ⟨by omega, hb2⟩ ⟨ab_nn a, ha⟩ (gd_ab b a) (Or.inl rfl)
theorem gd_dvd {a b : Int} (hb : 0 < b) : 0 < cw_gd b a ∧ (∃ x, a = cw_gd b a * x) ∧ (∃ y, b = cw_gd b a * y) := by
  unfold cw_gd
  have h1 : (Nat.gcd b.natAbs a.natAbs : Int) ∣ a := Int.gcd_dvd_right (a := b) (b := a)
  have h2 : (Nat.gcd b.natAbs a.natAbs : Int) ∣ b := Int.gcd_dvd_left (a := b) (b := a)
  have h3 := Nat.gcd_pos_of_pos_left a.natAbs (show 0 < b.natAbs by omega)
  exact ⟨by omega, h1, h2⟩
theorem p_Ra_shorten {g : cw_G} {M : cw_M} {q a b : Int} (hS : Sh M) (hq : IsQ q) (hv : RQ M q a b) (hb : 0 < b) (ha : cw_ab a < 1073741824 ^ 15) (hb2 : b < 1073741824 ^ 15) :
    mC g y_Ra_shorten [.inr (.inr q)] M (fun r M' => r = none ∧ RQ M' q (a / cw_gd b a) (b / cw_gd b a) ∧ cw_fr (AQ q) M M') := by
  obtain ⟨k1, -, ⟨w1, w3, w5, w7, w9, w11⟩, k0⟩ := id hq
  obtain ⟨g0, ⟨x, hx⟩, ⟨y, hy⟩⟩ := gd_dvd (a := a) hb
  have bab : cw_ab b = b := by unfold cw_ab; rw [if_pos (by omega)]
  refine cw_C_of (L := [.inr (.inr q)]) ok_Ra_shorten (Nat.le_refl _) (Nat.le_of_ble_eq_true rfl) rfl ?_
  refine k_Ra_shorten_0 _ _ _ _ _ _ _ _ ?_
  simp only [↓w_nil, ↓w_cons, ↓w_ald0, ↓w_cv0, true_and, and_true, true_implies, false_implies, not_true_eq_false, not_false_eq_true, Int.reduceEq, Int.reduceLT, Int.reduceLE, Int.reduceNeg, w_c80, w_c8I, w_c8L, w_c8R]
  repeat refine And.intro (by first | assumption | exact IsW.kt (by assumption) | omega | (unfold in32; omega) | (unfold in64; omega) | trivial | rfl | exact Nat.le_of_ble_eq_true rfl) ?_
  try first | done | assumption | (unfold in32; omega) | (unfold in64; omega)
  refine ⟨_, p_Ra_findShared hS hq hv hb ha hb2, ?_⟩
  rintro r M1 ⟨rfl, h5, f1⟩
  have hS1 := hS.fr f1
  have hv1 := hv.fr f1 (fun c h1 h2 => by unfold AF; omega)
  have f1' : cw_fr (AQ q) M M1 := fr_mo f1 fun c h => by unfold AF at h; unfold AQ; omega
  generalize hG : cw_gd b a = G at *
  have ea : a / G = x := by rw [hx]; exact Int.mul_ediv_cancel_left _ (by omega)
  have eb : b / G = y := by rw [hy]; exact Int.mul_ediv_cancel_left _ (by omega)
  have ta : a.tdiv G = x := by rw [hx]; exact Int.mul_tdiv_cancel_left _ (by omega)
  have tb : b.tdiv G = y := by rw [hy]; exact Int.mul_tdiv_cancel_left _ (by omega)
  rw [ea, eb]
  refine k_Ra_shorten_4 _ _ _ _ _ _ _ _ ?_
  simp only [↓w_nil, ↓w_cons, ↓w_ald0, ↓w_gf2_2, ↓w_cv0, true_and, and_true, true_implies, false_implies, not_true_eq_false, not_false_eq_true, Int.reduceEq, Int.reduceLT, Int.reduceLE, Int.reduceNeg, w_c80, w_c8I, w_c8L, w_c8R, w_tl0, hq.r2 hS1]
  repeat refine And.intro (by first | assumption | exact IsW.kt (by assumption) | omega | (unfold in32; omega) | (unfold in64; omega) | trivial | rfl | exact Nat.le_of_ble_eq_true rfl) ?_
  try first | done | assumption | (unfold in32; omega) | (unfold in64; omega)
  refine ⟨_, p_Wh_isOne hS1 w5 h5, ?_⟩
  rintro r M' ⟨rfl, rfl⟩
  by_cases h1 : G = 1
  · rw [if_pos h1]
    refine k_Ra_shorten_11 _ _ _ _ _ _ _ _ ?_
    simp only [↓w_nil, ↓w_ifeq, true_and, and_true, true_implies, false_implies, not_true_eq_false, not_false_eq_true, Int.reduceEq, Int.reduceLT, Int.reduceLE, Int.reduceNeg, w_tl1]
    repeat refine And.intro (by first | assumption | exact IsW.kt (by assumption) | omega | (unfold in32; omega) | (unfold in64; omega) | trivial | rfl | exact Nat.le_of_ble_eq_true rfl) ?_
    try first | done | assumption | (unfold in32; omega) | (unfold in64; omega)
    refine k_Ra_shorten_14 _ _ _ _ _ _ _ _ ?_
    simp only [↓w_nil, ↓w_vret, true_and, and_true, true_implies, false_implies, not_true_eq_false, not_false_eq_true, Int.reduceEq, Int.reduceLT, Int.reduceLE, Int.reduceNeg]
    rw [h1, Int.one_mul] at hx hy
    rw [← hx, ← hy]
    exact ⟨hv1, f1'⟩
  · rw [if_neg h1]
    refine k_Ra_shorten_11 _ _ _ _ _ _ _ _ ?_
    simp only [↓w_nil, ↓w_ifeq, true_and, and_true, true_implies, false_implies, not_true_eq_false, not_false_eq_true, Int.reduceEq, Int.reduceLT, Int.reduceLE, Int.reduceNeg, w_tl1]
    repeat refine And.intro (by first | assumption | exact IsW.kt (by assumption) | omega | (unfold in32; omega) | (unfold in64; omega) | trivial | rfl | exact Nat.le_of_ble_eq_true rfl) ?_
    try first | done | assumption | (unfold in32; omega) | (unfold in64; omega)
    refine k_Ra_shorten_15 _ _ _ _ _ _ _ _ ?_
    simp only [↓w_nil, ↓w_cons, ↓w_ald0, ↓w_gf2_4, ↓w_gf2_0, ↓w_gf2_2, ↓w_gf2_5, ↓w_cv3, true_and, and_true, true_implies, false_implies, not_true_eq_false, not_false_eq_true, Int.reduceEq, Int.reduceLT, Int.reduceLE, Int.reduceNeg, w_c80, w_c8I, w_c8L, w_c8R, hq.r4 hS1, hq.r0 hS1, hq.r2 hS1, hq.r5 hS1]
    repeat refine And.intro (by first | assumption | exact IsW.kt (by assumption) | omega | (unfold in32; omega) | (unfold in64; omega) | trivial | rfl | exact Nat.le_of_ble_eq_true rfl) ?_
    try first | done | assumption | (unfold in32; omega) | (unfold in64; omega)
    refine ⟨_, p_Wh_divide hS1 w9 w1 w5 w11 (by omega) (by omega) (by omega) (by omega) (by omega) hv1.1 h5 (by omega) ha, ?_⟩
    rintro r M2 ⟨rfl, h9, h11, f2⟩
    rw [ta] at h9
    have hS2 := hS1.fr f2
    have h32 := hv1.2.fr f2 (by unfold Aw; omega) (by unfold Aw; omega)
    have h52 := h5.fr f2 (by unfold Aw; omega) (by unfold Aw; omega)
    refine k_Ra_shorten_34 _ _ _ _ _ _ _ _ ?_
    simp only [↓w_nil, ↓w_cons, ↓w_ald0, ↓w_gf2_0, ↓w_gf2_4, ↓w_cv1, true_and, and_true, true_implies, false_implies, not_true_eq_false, not_false_eq_true, Int.reduceEq, Int.reduceLT, Int.reduceLE, Int.reduceNeg, w_c80, w_c8I, w_c8L, w_c8R, w_tl0, hq.r0 hS2, hq.r4 hS2]
    repeat refine And.intro (by first | assumption | exact IsW.kt (by assumption) | omega | (unfold in32; omega) | (unfold in64; omega) | trivial | rfl | exact Nat.le_of_ble_eq_true rfl) ?_
    try first | done | assumption | (unfold in32; omega) | (unfold in64; omega)
    refine ⟨_, p_Wh_copy hS2 w1 w9 (by omega) (by omega) (by omega) h9, ?_⟩
    rintro r M3 ⟨rfl, h13, f3⟩
    have hS3 := hS2.fr f3
    have h33 := h32.fr f3 (by unfold Aw; omega) (by unfold Aw; omega)
    have h53 := h52.fr f3 (by unfold Aw; omega) (by unfold Aw; omega)
    refine k_Ra_shorten_45 _ _ _ _ _ _ _ _ ?_
    simp only [↓w_nil, ↓w_cons, ↓w_ald0, ↓w_gf2_4, ↓w_gf2_1, ↓w_gf2_2, ↓w_gf2_5, ↓w_cv3, true_and, and_true, true_implies, false_implies, not_true_eq_false, not_false_eq_true, Int.reduceEq, Int.reduceLT, Int.reduceLE, Int.reduceNeg, w_c80, w_c8I, w_c8L, w_c8R, w_tl0, hq.r4 hS3, hq.r1 hS3, hq.r2 hS3, hq.r5 hS3]
    repeat refine And.intro (by first | assumption | exact IsW.kt (by assumption) | omega | (unfold in32; omega) | (unfold in64; omega) | trivial | rfl | exact Nat.le_of_ble_eq_true rfl) ?_
    try first | done | assumption | (unfold in32; omega) | (unfold in64; omega)
    refine ⟨_, p_Wh_divide hS3 w9 w3 w5 w11 (by omega) (by omega) (by omega) (by omega) (by omega) h33 h53 (by omega) (by omega), ?_⟩
    rintro r M4 ⟨rfl, h94, h114, f4⟩
    rw [tb] at h94
    have hS4 := hS3.fr f4
    have h14 := h13.fr f4 (by unfold Aw; omega) (by unfold Aw; omega)
    refine k_Ra_shorten_64 _ _ _ _ _ _ _ _ ?_
    simp only [↓w_nil, ↓w_cons, ↓w_ald0, ↓w_gf2_1, ↓w_gf2_4, ↓w_cv1, true_and, and_true, true_implies, false_implies, not_true_eq_false, not_false_eq_true, Int.reduceEq, Int.reduceLT, Int.reduceLE, Int.reduceNeg, w_c80, w_c8I, w_c8L, w_c8R, w_tl0, hq.r1 hS4, hq.r4 hS4]
    repeat refine And.intro (by first | assumption | exact IsW.kt (by assumption) | omega | (unfold in32; omega) | (unfold in64; omega) | trivial | rfl | exact Nat.le_of_ble_eq_true rfl) ?_
    try first | done | assumption | (unfold in32; omega) | (unfold in64; omega)
    refine ⟨_, p_Wh_copy hS4 w3 w9 (by omega) (by omega) (by omega) h94, ?_⟩
    rintro r M5 ⟨rfl, h35, f5⟩
    refine k_Ra_shorten_75 _ _ _ _ _ _ _ _ ?_
    simp only [↓w_nil, ↓w_vret, true_and, and_true, true_implies, false_implies, not_true_eq_false, not_false_eq_true, Int.reduceEq, Int.reduceLT, Int.reduceLE, Int.reduceNeg, w_tl0]
    exact ⟨⟨h14.fr f5 (by unfold Aw; omega) (by unfold Aw; omega), h35⟩, fr_tr f1' (fr_tr (fr_mo f2 fun c h => by unfold Aw at h; unfold AQ; omega) (fr_tr (fr_mo f3 fun c h => by unfold Aw at h; unfold AQ; omega) (fr_tr (fr_mo f4 fun c h => by unfold Aw at h; unfold AQ; omega) (fr_mo f5 fun c h => by unfold Aw at h; unfold AQ; omega))))⟩
/-- a fraction cut down, brought to what is told -/
def cw_fl (a b : Int) : Int := max (-1000000000000) (min 1000000000000 (a / b))
theorem p_Ra_cutDown {g : cw_G} {M : cw_M} {q a b : Int} (hS : Sh M) (hq : IsQ q) (hv : RQ M q a b) (hb : 0 < b) (ha : cw_ab a < 1073741824 ^ 15) :
    mC g y_Ra_cutDown [.inr (.inr q)] M (fun r M' => r = some (.inr (.inl (cw_fl a b))) ∧ RQ M' q a b ∧ cw_fr (AF q) M M') := by
  obtain ⟨k1, -, ⟨w1, w3, w5, w7, w9, w11⟩, k0⟩ := id hq
  refine cw_C_of (L := [.inr (.inr q), cU, cU]) ok_Ra_cutDown (Nat.le_refl _) (Nat.le_of_ble_eq_true rfl) rfl ?_
  refine k_Ra_cutDown_0 _ _ _ _ _ _ _ _ ?_
  simp only [↓w_nil, ↓w_cons, ↓w_ald0, ↓w_gf2_2, ↓w_gf2_0, ↓w_gf2_1, ↓w_gf2_5, ↓w_cv3, true_and, and_true, true_implies, false_implies, not_true_eq_false, not_false_eq_true, Int.reduceEq, Int.reduceLT, Int.reduceLE, Int.reduceNeg, w_c80, w_c8I, w_c8L, w_c8R, hq.r2 hS, hq.r0 hS, hq.r1 hS, hq.r5 hS]
  repeat refine And.intro (by first | assumption | exact IsW.kt (by assumption) | omega | (unfold in32; omega) | (unfold in64; omega) | trivial | rfl | exact Nat.le_of_ble_eq_true rfl) ?_
  try first | done | assumption | (unfold in32; omega) | (unfold in64; omega)
  refine ⟨_, p_Wh_divide hS w5 w1 w3 w11 (by omega) (by omega) (by omega) (by omega) (by omega) hv.1 hv.2 (by omega) ha, ?_⟩
  rintro r M1 ⟨rfl, h5, h11, f1⟩
  have hS1 := hS.fr f1
  have hv1 := hv.fr f1 (fun c h1 h2 => by unfold Aw; omega)
  have f1' : cw_fr (AF q) M M1 := fr_mo f1 fun c h => by unfold Aw at h; unfold AF; omega
  have s5 := rw_short h5
  have s11 := rw_short h11
  -- the whole number below, by the quotient cut toward 0
  have fl : a / b = a.tdiv b - (if a.tmod b < 0 then 1 else 0) := by
    have h1 := Int.mul_tdiv_add_tmod a b
    have h2 := Int.tmod_lt_of_pos a hb
    have h3 : -b < a.tmod b := by
      have := Int.tmod_lt_of_pos (-a) hb
      rw [Int.neg_tmod] at this; omega
    by_cases q0 : a.tmod b < 0
    · rw [if_pos q0]
      have e : a = (a.tmod b + b) + b * (a.tdiv b - 1) := by rw [Int.mul_sub, Int.mul_one]; omega
      rw [e, Int.add_mul_ediv_left _ _ (by omega), Int.ediv_eq_zero_of_lt (by omega) (by omega)]; rw [← e]; omega
    · rw [if_neg q0]
      have e : a = a.tmod b + b * a.tdiv b := by omega
      rw [e, Int.add_mul_ediv_left _ _ (by omega), Int.ediv_eq_zero_of_lt (by omega) (by omega)]; rw [← e]; omega
  refine k_Ra_cutDown_19 _ _ _ _ _ _ _ _ ?_
  simp only [↓w_nil, ↓w_cons, ↓w_ald0, ↓w_gf2_2, ↓w_cv0, true_and, and_true, true_implies, false_implies, not_true_eq_false, not_false_eq_true, Int.reduceEq, Int.reduceLT, Int.reduceLE, Int.reduceNeg, w_c80, w_c8I, w_c8L, w_c8R, w_tl0, hq.r2 hS1]
  repeat refine And.intro (by first | assumption | exact IsW.kt (by assumption) | omega | (unfold in32; omega) | (unfold in64; omega) | trivial | rfl | exact Nat.le_of_ble_eq_true rfl) ?_
  try first | done | assumption | (unfold in32; omega) | (unfold in64; omega)
  refine ⟨_, p_Wh_isShort w5 h5, ?_⟩
  rintro r M' ⟨rfl, rfl⟩
  by_cases hs : cw_ab (a.tdiv b) < 1152921504606846976
  · rw [if_pos hs]
    refine k_Ra_cutDown_26 _ _ _ _ _ _ _ _ ?_
    simp only [↓w_nil, ↓w_ifne, true_and, and_true, true_implies, false_implies, not_true_eq_false, not_false_eq_true, Int.reduceEq, Int.reduceLT, Int.reduceLE, Int.reduceNeg, w_tl1]
    repeat refine And.intro (by first | assumption | exact IsW.kt (by assumption) | omega | (unfold in32; omega) | (unfold in64; omega) | trivial | rfl | exact Nat.le_of_ble_eq_true rfl) ?_
    try first | done | assumption | (unfold in32; omega) | (unfold in64; omega)
    refine k_Ra_cutDown_42 _ _ _ _ _ _ _ _ ?_
    simp only [↓w_nil, ↓w_cons, ↓w_ald0, ↓w_gf2_2, ↓w_cv0, true_and, and_true, true_implies, false_implies, not_true_eq_false, not_false_eq_true, Int.reduceEq, Int.reduceLT, Int.reduceLE, Int.reduceNeg, w_c80, w_c8I, w_c8L, w_c8R, hq.r2 hS1]
    repeat refine And.intro (by first | assumption | exact IsW.kt (by assumption) | omega | (unfold in32; omega) | (unfold in64; omega) | trivial | rfl | exact Nat.le_of_ble_eq_true rfl) ?_
    try first | done | assumption | (unfold in32; omega) | (unfold in64; omega)
    refine ⟨_, p_Wh_asLong hS1 w5 h5 hs, ?_⟩
    rintro r M' ⟨rfl, rfl⟩
    have r64 : -1152921504606846976 < a.tdiv b ∧ a.tdiv b < 1152921504606846976 := by unfold cw_ab at hs; split at hs <;> omega
    have fin : ∀ z : Int, z = a / b → mJ g y_Ra_cutDown 64 [.inr (.inr q), .inr (.inl z), cU] [] M' (fun r M' => r = some (.inr (.inl (cw_fl a b))) ∧ RQ M' q a b ∧ cw_fr (AF q) M M') := by
      intro z hz
      have : -1152921504606846977 < z ∧ z < 1152921504606846976 := by rw [hz, fl]; split <;> omega
      refine k_Ra_cutDown_64 _ _ _ _ _ _ _ _ ?_
      simp only [↓w_nil, ↓w_cons, ↓w_lc, ↓w_lld1, ↓w_minJ, ↓w_maxJ, ↓w_lret, true_and, and_true, true_implies, false_implies, not_true_eq_false, not_false_eq_true, Int.reduceEq, Int.reduceLT, Int.reduceLE, Int.reduceNeg, w_c80, w_c8I, w_c8L, w_c8R]
      repeat refine And.intro (by first | assumption | exact IsW.kt (by assumption) | omega | (unfold in32; omega) | (unfold in64; omega) | trivial | rfl | exact Nat.le_of_ble_eq_true rfl) ?_
      try first | done | assumption | (unfold in32; omega) | (unfold in64; omega)
      refine ⟨?_, hv1, f1'⟩
      unfold cw_fl
      rw [hz]
    have s32 := sg32 (a.tmod b)
    refine k_Ra_cutDown_49 _ _ _ _ _ _ _ _ ?_
    simp only [↓w_nil, ↓w_cons, ↓w_lst1, ↓w_ald0, ↓w_gf2_5, ↓w_gf0_2, ↓w_ifge, true_and, and_true, true_implies, false_implies, not_true_eq_false, not_false_eq_true, Int.reduceEq, Int.reduceLT, Int.reduceLE, Int.reduceNeg, w_nlI, w_nlL, w_nlR, w_tl1, hq.r5 hS1, s11]
    repeat refine And.intro (by first | assumption | exact IsW.kt (by assumption) | omega | (unfold in32; omega) | (unfold in64; omega) | trivial | rfl | exact Nat.le_of_ble_eq_true rfl) ?_
    try first | done | assumption | (unfold in32; omega) | (unfold in64; omega)
    refine ⟨fun h => ?_, fun h => ?_⟩
    · refine fin _ ?_
      rw [fl, if_neg, Int.sub_zero]
      intro q0
      unfold cw_sg at h
      rw [if_neg (by omega), if_neg (by omega)] at h
      omega
    · refine k_Ra_cutDown_60 _ _ _ _ _ _ _ _ ?_
      simp only [↓w_nil, ↓w_cons, ↓w_lld1, ↓w_lc, ↓w_lsub, ↓w_lst1, ↓w_fall, true_and, and_true, true_implies, false_implies, not_true_eq_false, not_false_eq_true, Int.reduceEq, Int.reduceLT, Int.reduceLE, Int.reduceNeg, w_nlI, w_nlL, w_nlR]
      refine fin _ ?_
      rw [fl, if_pos]
      unfold cw_sg at h
      split at h <;> (try split at h) <;> omega
  · rw [if_neg hs]
    refine k_Ra_cutDown_26 _ _ _ _ _ _ _ _ ?_
    simp only [↓w_nil, ↓w_ifne, true_and, and_true, true_implies, false_implies, not_true_eq_false, not_false_eq_true, Int.reduceEq, Int.reduceLT, Int.reduceLE, Int.reduceNeg, w_tl1]
    repeat refine And.intro (by first | assumption | exact IsW.kt (by assumption) | omega | (unfold in32; omega) | (unfold in64; omega) | trivial | rfl | exact Nat.le_of_ble_eq_true rfl) ?_
    try first | done | assumption | (unfold in32; omega) | (unfold in64; omega)
    have s32 := sg32 (a.tdiv b)
    refine k_Ra_cutDown_29 _ _ _ _ _ _ _ _ ?_
    simp only [↓w_nil, ↓w_cons, ↓w_ald0, ↓w_gf2_2, ↓w_gf0_2, ↓w_i2l, ↓w_lc, ↓w_lmul, ↓w_lret, true_and, and_true, true_implies, false_implies, not_true_eq_false, not_false_eq_true, Int.reduceEq, Int.reduceLT, Int.reduceLE, Int.reduceNeg, hq.r2 hS1, s5]
    repeat refine And.intro (by first | assumption | exact IsW.kt (by assumption) | omega | (unfold in32; omega) | (unfold in64; omega) | trivial | rfl | exact Nat.le_of_ble_eq_true rfl) ?_
    try first | done | assumption | (unfold in32; omega) | (unfold in64; omega)
    refine ⟨?_, hv1, f1'⟩
    unfold cw_fl
    rw [fl]
    congr 3
    rcases sg_ab (a.tdiv b) with ⟨e0, e1, e2⟩ | ⟨e0, e1, e2⟩ | ⟨e0, e1, e2⟩
    · omega
    · rw [e1]; split <;> omega
    · rw [e1]; split <;> omega
