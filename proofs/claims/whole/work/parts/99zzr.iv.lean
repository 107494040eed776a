/-! THE INVARIANT of both objects, and how the calls of the rest keep it -/
def Fra (M : cw_M) : Prop := ∃ a b : Int, RQ M 279 a b ∧ (RM M 6 a ∧ RM M 7 b) ∧ 0 < b ∧ cw_ab a < 1073741824 ^ 15 ∧ b < 1073741824 ^ 15
def Img (n : Int) (M : cw_M) : Prop := ∀ i : Int, 0 ≤ i → i < 2 → (M 140 i = 0 ∧ M 326 i = 0) ∨ (M 140 i = 1 ∧ M 326 i = 1 ∧ ∃ F L : Int → Int, (∀ k : Int, 0 ≤ k → k < 402 → M 325 (402 * i + k) = F k) ∧ (∀ k : Int, 0 ≤ k → k < 6 → M 339 (6 * i + k) = L k) ∧ RelS (48 + 46 * i) F L M ∧ WF n F L)
def IV (n : Int) (M : cw_M) : Prop := Sh M ∧ Now n M ∧ (Kp M ∧ m_ok (M 324) M) ∧ Fra M ∧ Img n M ∧ Sti M ∧ Mdi M
theorem RQ.cg {M M' : cw_M} {a b : Int} (h : RQ M 279 a b) (k : ∀ c : Int, 280 ≤ c → c ≤ 283 → M' c = M c) : RQ M' 279 a b := by
  unfold RQ RW
  rw [k (279 + 1) (by omega) (by omega), k (279 + 1 + 1) (by omega) (by omega), k (279 + 3) (by omega) (by omega), k (279 + 3 + 1) (by omega) (by omega)]
  exact h
theorem Fra.cg {M M' : cw_M} (h : Fra M) (k : ∀ c : Int, 280 ≤ c → c ≤ 283 → M' c = M c) (s6 : sR M M' 6) (s7 : sR M M' 7) : Fra M' := by
  obtain ⟨a, b, h1, h2, h3⟩ := h
  exact ⟨a, b, h1.cg k, ⟨h2.1.sm s6, h2.2.sm s7⟩, h3⟩
theorem Img.cg {n m : Int} {M M' : cw_M} (h : Img n M) (hm : n ≤ m) (k : ∀ a : Int, a = 325 ∨ a = 326 ∨ a = 339 ∨ (48 < a ∧ a ≤ 140) → M' a = M a) : Img m M' := by
  intro i i0 i1
  rw [k 140 (by omega), k 326 (by omega), k 325 (by omega), k 339 (by omega)]
  rcases h i i0 i1 with z | ⟨z1, z2, F, L, z3, z4, z5, z6⟩
  · exact Or.inl z
  · exact Or.inr ⟨z1, z2, F, L, z3, z4, z5.cg (fun a x y => k a (by omega)), z6.mo hm⟩
theorem Sti.cg {M M' : cw_M} (h : Sti M) (k : M' 276 = M 276) (k2 : M' 278 = M 278) : Sti M' := by
  unfold Sti St_ok St_at
  rw [k, k2]; exact h
theorem Mdi.cg {M M' : cw_M} (h : Mdi M) (k27 : M' 319 27 = M 319 27) (k28 : M' 319 28 = M 319 28) (k : M' 343 = M 343) : Mdi M' := by
  unfold Mdi Md_at
  rw [k27, k28, k]; exact h
theorem IV.mo {n : Int} {M : cw_M} (h : IV n M) : IV (n + 1) M := by
  obtain ⟨a, b, c, d, e, f⟩ := h
  exact ⟨a, ⟨b.1, b.2.mo (by omega)⟩, c, d, e.cg (by omega) (fun _ _ => rfl), f⟩
theorem iv_nx {n : Int} {M M2 : cw_M} (h : IV n M) (k : Nx2 n M M2) : IV (n + 1) M2 := by
  obtain ⟨a, b, ⟨c1, c2⟩, d, e, f1, f2⟩ := h
  obtain ⟨k1, k2, k3⟩ := k
  have r : ∀ c : Int, 48 ≤ c → c ≠ 319 → c ≠ 324 → c ≠ 338 → c ≠ 346 → c ≠ 347 → M2 c = M c := fun c x1 x2 x3 x4 x5 x6 => by funext j; exact k3.1 c j (by omega) (by omega) (by omega) (by omega) (by omega) (by omega)
  have s : ∀ j : Int, j ≠ 18 → M2 319 j = M 319 j := fun j x => k3.1 319 j (by omega) (by omega) (by omega) (by omega) (by omega) (by omega)
  have sm : ∀ j, sR M M2 j := sr_of (fun c x y => r c (by omega) (by omega) (by omega) (by omega) (by omega) (by omega))
  refine ⟨k1, k2, ⟨fun p p0 p1 => by rw [r 167 (by omega) (by omega) (by omega) (by omega) (by omega) (by omega)]; exact c1 p p0 p1, mok_nx b c2 k3⟩, d.cg (fun c x y => r c (by omega) (by omega) (by omega) (by omega) (by omega) (by omega)) (sm 6) (sm 7), e.cg (by omega) (fun c x => r c (by omega) (by omega) (by omega) (by omega) (by omega) (by omega)), f1.cg (r 276 (by omega) (by omega) (by omega) (by omega) (by omega) (by omega)) (r 278 (by omega) (by omega) (by omega) (by omega) (by omega) (by omega)), f2.cg (s 27 (by omega)) (s 28 (by omega)) (r 343 (by omega) (by omega) (by omega) (by omega) (by omega) (by omega))⟩
/-- what the class's part of a call of the rest leaves of it -/
theorem cl_mok {n : Int} {M M1 : cw_M} (h : IV n M) (k : Fg Ac M M1) : m_ok (M 324) M1 := by
  have r : ∀ c : Int, 319 ≤ c → M1 c = M c := fun c x => k.2 c (by unfold Ac; omega)
  exact mok_cg h.2.1.2 Ek.rf ⟨by rw [r 319 (by omega)], fun a x => r a (by omega)⟩ (by rw [r 319 (by omega)]) (by rw [r 319 (by omega)]) h.2.2.1.2
theorem cl_324 {M M1 : cw_M} (k : Fg Ac M M1) : M1 324 = M 324 ∧ M1 338 = M 338 := ⟨k.2 324 (by unfold Ac; omega), k.2 338 (by unfold Ac; omega)⟩
theorem iv_fr {n : Int} {M M1 M2 : cw_M} (h : IV n M) (k : Fg Ac M M1) (kp : Kp M1) (q : Gq M1 M2) (ok : m_ok (M 324) M2) (fra : Fra M2) : IV (n + 1) M2 := by
  obtain ⟨a, b, ⟨c1, c2⟩, d, e, f1, f2⟩ := h
  have r1 : ∀ c : Int, ¬ Ac c → M1 c = M c := k.2
  have r2 : ∀ c : Int, ¬ (320 ≤ c ∧ c ≤ 323) → ¬ (327 ≤ c ∧ c ≤ 337) → c ≠ 319 → M2 c = M1 c := fun c x y z => q.row x y z
  have r : ∀ c : Int, ¬ ((141 ≤ c ∧ c ≤ 275) ∨ (279 ≤ c ∧ c ≤ 323) ∨ (327 ≤ c ∧ c ≤ 337)) → M2 c = M c := fun c x => (r2 c (by omega) (by omega) (by omega)).trans (r1 c (by unfold Ac; omega))
  have s : ∀ j : Int, ¬ (j = 7 ∨ j = 18 ∨ j = 19) → M2 319 j = M 319 j := fun j x => (q.2 319 j (by omega) (by omega) (fun z => x z.2)).trans (by rw [r1 319 (by unfold Ac; omega)])
  have e324 : M2 324 = M 324 := r 324 (by omega)
  have e338 : M2 338 = M 338 := r 338 (by omega)
  refine ⟨q.1, ⟨?_, ?_⟩, ⟨fun p p0 p1 => by rw [r2 167 (by omega) (by omega) (by omega)]; exact kp p p0 p1, by rw [e324]; exact ok⟩, fra, e.cg (by omega) (fun c x => r c (by omega)), f1.cg (r 276 (by omega)) (r 278 (by omega)), f2.cg (s 27 (by omega)) (s 28 (by omega)) (r 343 (by omega))⟩
  · rw [e324, e338]; exact b.1.cg (fun c x y => r c (by omega))
  · rw [e324, e338]; exact b.2.mo (by omega)
theorem gd_bd {a b : Int} (hb : 0 < b) : 0 < b / cw_gd b a ∧ b / cw_gd b a ≤ b ∧ cw_ab (a / cw_gd b a) ≤ cw_ab a := by
  obtain ⟨g1, ⟨x, hx⟩, ⟨y, hy⟩⟩ := gd_dvd (a := a) hb
  generalize cw_gd b a = k at *
  subst hx
  rw [Int.mul_ediv_cancel_left x (by omega)]
  have y0 : 0 < y := by
    rcases Int.lt_or_le 0 y with z | z
    · exact z
    · have := Int.mul_nonpos_of_nonneg_of_nonpos (show 0 ≤ k by omega) z; omega
  have ey : b / k = y := by rw [hy, Int.mul_ediv_cancel_left y (by omega)]
  have m := Int.mul_le_mul_of_nonneg_right (show 1 ≤ k by omega) (show 0 ≤ y by omega)
  have n := Int.mul_le_mul_of_nonneg_right (show 1 ≤ k by omega) (ab_nn x)
  rw [ey, ab_mul]
  have ek : cw_ab k = k := by unfold cw_ab; split <;> omega
  rw [ek]
  omega
theorem o_fr {g : cw_G} {n : Int} {M : cw_M} {yC yR : cw_Y} {as : List cw_V} {c : Prop} {P U : Tr → Int → Int → Prop} (hi : IV n M)
    (hC : mC g yC (.inr (.inr 0) :: as) M (fun r M1 => (¬ c ∧ r = some (.inl (-10)) ∧ M1 = M) ∨ (c ∧ FrA (M 324) P M r M1)))
    (hD : ∀ M1 : cw_M, Fg Ac M M1 → mC g yR (.inr (.inr 319) :: as) M1 (fun r M' => (¬ c ∧ r = some (.inl (-10)) ∧ M' = M1) ∨ (c ∧ FrM (M 324) U M1 r M')))
    (un : ∀ T a b A W, Tk (M 324) T → P T a b → U T A W → 0 < b → 0 < W → a * W = A * b)
    (bd : ∀ T a b, Tk (M 324) T → P T a b → 0 < b → cw_ab a < 1073741824 ^ 15 ∧ b < 1073741824 ^ 15) : OP g yC yR as M (IV (n + 1)) := by
  refine cw_C_mono hC ?_
  rintro r M1 (⟨hb, rfl, rfl⟩ | ⟨hb, k1, he⟩)
  · refine ⟨-10, by unfold in32; omega, rfl, cw_C_mono (hD M1 (Fg.rf hi.1)) ?_⟩
    rintro r2 M2 (⟨_, rfl, rfl⟩ | ⟨h, _⟩)
    · exact ⟨rfl, hi.mo⟩
    · exact absurd h hb
  · rcases he with ⟨e, hg, rfl, hF⟩ | ⟨T, hg, hT, hF, a, b, hP, hb0, rfl, hq⟩
    · refine ⟨-20, by unfold in32; omega, rfl, cw_C_mono (hD M1 (aco_ac hF)) ?_⟩
      rintro r2 M2 (⟨h, _⟩ | ⟨_, hG, hok, hM⟩)
      · exact absurd hb h
      · rcases hM with ⟨e', _, rfl, s6, s7⟩ | ⟨T, hg2, _⟩
        · have sm : ∀ j, sR M M1 j := sr_of (fun c x y => hF.2 c (by unfold Aco; omega))
          exact ⟨rfl, iv_fr hi (aco_ac hF) k1 hG hok (hi.2.2.2.1.cg (fun c x y => (hG.row (by omega) (by omega) (by omega)).trans (hF.2 c (by unfold Aco; omega))) ((sm 6).tr s6) ((sm 7).tr s7))⟩
        · rw [hg] at hg2; cases hg2
    · refine ⟨cw_sg a, sg32 a, rfl, cw_C_mono (hD M1 hF) ?_⟩
      rintro r2 M2 (⟨h, _⟩ | ⟨_, hG, hok, hM⟩)
      · exact absurd hb h
      · rcases hM with ⟨e', hg2, _⟩ | ⟨T', hg2, N, D, A, W, hU, hW0, hD0, e, rfl, r6, r7⟩
        · rw [hg] at hg2; cases hg2
        · rw [hg] at hg2
          cases hg2
          have cr := un T a b A W hT hP hU hb0 hW0
          have aD : a * D = N * b := by
            have e2 : W * (a * D) = W * (N * b) := by grind
            exact Int.eq_of_mul_eq_mul_left (by omega) e2
          have low := fr_low hb0 hD0 aD
          have b9 := bd T a b hT hP hb0
          have gb := gd_bd (a := a) hb0
          exact ⟨by rw [sg_rel aD hD0 hb0], iv_fr hi hF k1 hG hok ⟨a / cw_gd b a, b / cw_gd b a, hq.cg (fun c x y => hG.row (by omega) (by omega) (by omega)), ⟨by rw [low.1]; exact r6, by rw [low.2]; exact r7⟩, gb.1, by omega, by omega⟩⟩
theorem o_fi {g : cw_G} {n : Int} {M : cw_M} {yC yR : cw_Y} {as : List cw_V} {c : Prop} {P U : Tr → Int → Prop} (hi : IV n M)
    (hC : mC g yC (.inr (.inr 0) :: as) M (fun r M1 => (¬ c ∧ r = some (.inl (-2)) ∧ M1 = M) ∨ (c ∧ FrI (M 324) P M r M1)))
    (hD : ∀ M1 : cw_M, Fg Ac M M1 → mC g yR (.inr (.inr 319) :: as) M1 (fun r M' => (¬ c ∧ r = some (.inl (-2)) ∧ M' = M1) ∨ (c ∧ FrJ (M 324) U M1 r M')))
    (un : c → ∀ T v w, Tk (M 324) T → P T v → U T w → v = w)
    (bd : c → ∀ T v, Tk (M 324) T → P T v → in32 v) : OP g yC yR as M (IV (n + 1)) := by
  refine cw_C_mono hC ?_
  rintro r M1 (⟨hb, rfl, rfl⟩ | ⟨hb, k1, hF, he⟩)
  · refine ⟨-2, by unfold in32; omega, rfl, cw_C_mono (hD M1 (Fg.rf hi.1)) ?_⟩
    rintro r2 M2 (⟨_, rfl, rfl⟩ | ⟨h, _⟩)
    · exact ⟨rfl, hi.mo⟩
    · exact absurd h hb
  · have sm : ∀ j, sR M M1 j := sr_of (fun c x y => hF.2 c (by unfold Aco; omega))
    have fra : ∀ M2, Gq M1 M2 → sR M1 M2 6 → sR M1 M2 7 → Fra M2 := fun M2 hG s6 s7 => hi.2.2.2.1.cg (fun c x y => (hG.row (by omega) (by omega) (by omega)).trans (hF.2 c (by unfold Aco; omega))) ((sm 6).tr s6) ((sm 7).tr s7)
    rcases he with ⟨e, hg, rfl⟩ | ⟨T, hg, hT, v, hP, rfl⟩
    · refine ⟨-3, by unfold in32; omega, rfl, cw_C_mono (hD M1 (aco_ac hF)) ?_⟩
      rintro r2 M2 (⟨h, _⟩ | ⟨_, hG, hok, hs, hM⟩)
      · exact absurd hb h
      · rcases hM with ⟨e', _, rfl⟩ | ⟨T, hg2, _⟩
        · exact ⟨rfl, iv_fr hi (aco_ac hF) k1 hG hok (fra M2 hG hs.1 hs.2)⟩
        · rw [hg] at hg2; cases hg2
    · refine ⟨v, bd hb T v hT hP, rfl, cw_C_mono (hD M1 (aco_ac hF)) ?_⟩
      rintro r2 M2 (⟨h, _⟩ | ⟨_, hG, hok, hs, hM⟩)
      · exact absurd hb h
      · rcases hM with ⟨e', hg2, _⟩ | ⟨T', hg2, w, hU, _, rfl⟩
        · rw [hg] at hg2; cases hg2
        · rw [hg] at hg2
          cases hg2
          rw [un hb T v w hT hP hU]
          exact ⟨rfl, iv_fr hi (aco_ac hF) k1 hG hok (fra M2 hG hs.1 hs.2)⟩
