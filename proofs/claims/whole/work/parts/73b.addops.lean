/-! gap and iron on both sides -/

theorem o_gap {g : cw_G} {M : cw_M} {n : Int} (hS : Sh M) (hN : Now n M) (hn5 : 0 ≤ n ∧ n ≤ 512) : OP g y_Co_gap y_Mo_gap [] M (Nx n M) := by
  obtain ⟨hR, hW⟩ := id hN
  have hp0 : M 2 0 = M 324 0 := hR.pc
  have hw0 := hW.1
  unfold OP
  refine cw_C_mono (c_gap hS hp0 hw0.1) ?_
  rintro r M1 (⟨hc, rfl, rfl⟩ | ⟨hc, rfl, rfl⟩)
  · have hS1 : Sh (cw_up (cw_sf M (12 + M 324 0) (cw_fi (M (12 + M 324 0)) (fun _ => 10) 0 24)) 2 0 (M 324 0 + 1)) := (hS.sf (fun k => rs_k (c_a11 (p := M 324 0) (by omega) (by omega)) (by decide))).up rfl
    have e324 : (cw_up (cw_sf M (12 + M 324 0) (cw_fi (M (12 + M 324 0)) (fun _ => 10) 0 24)) 2 0 (M 324 0 + 1)) 324 = M 324 := by rw [cw_up_ne (by omega), sf_ne (by omega)]
    refine ⟨M 324 0, by unfold in32; omega, rfl, cw_C_mono (d_gap hS1 (n := M 324 0) (by rw [e324]) hw0.1) ?_⟩
    rintro r M2 (⟨he, rfl, rfl⟩ | ⟨he, rfl, rfl⟩)
    · rw [e324]
      have hS2 := (hS1.up (a := 319) (k := 18) (v := 0) rfl).sf (a := 324) (F := cw_bg (M 324) (M 324 0) 1) (fun k => rs_k c_k324 (by decide))
      refine ⟨rfl, hS2, ?_, ?_, ?_⟩
      · unfold Now
        rw [show ∀ X : cw_M, cw_sf X 324 (cw_bg (M 324) (M 324 0) 1) 324 = cw_bg (M 324) (M 324 0) 1 from fun X => sf_eq]
        rw [show ∀ X : cw_M, cw_sf X 324 (cw_bg (M 324) (M 324 0) 1) 338 = X 338 from fun X => sf_ne (by omega), cw_up_ne (by omega), cw_up_ne (by omega), sf_ne (by omega)]
        refine now_add (row := fun i => if i = 0 then 1 else 0) (gv := 10) hR hW (by omega) bg_0 (fun i i0 i1 => ?_) (fun t t0 t1 => by rw [bg_g (by omega) t0 t1]; rfl) (fun k k0 k1 k2 => bg_o k0 k1 k2) ?_ ?_ ?_ ?_ (Or.inl ⟨rfl, ⟨rfl, rfl, rfl, rfl, rfl⟩, by omega, by omega⟩)
        · rw [bg_r (by omega) i0 i1]
          by_cases q : i < 6
          · rw [if_pos q]
          · rw [if_neg q, if_neg (by omega)]
        · simp (disch := omega) only [up_if, sf_if, if_neg, if_pos, and_self, if_true]
        · intro i i0 i1
          simp (disch := omega) only [up_if, sf_if, if_neg, if_pos, if_true]
          have e := hR.ir (p := M 324 0) (i := i) (by omega) (by omega) i0 i1
          rw [e]
          have w := hW.2.2.1 (M 324 0) (by omega) (by omega)
          unfold cw_no at w
          rcases (show i = 0 ∨ i = 1 ∨ i = 2 ∨ i = 3 ∨ i = 4 by omega) with rfl | rfl | rfl | rfl | rfl
          · rw [Int.add_zero]; exact w.2.1
          · rw [show 11 + 12 * M 324 0 + 1 = 12 + 12 * M 324 0 by omega]; exact w.2.2.1
          · rw [show 11 + 12 * M 324 0 + 2 = 13 + 12 * M 324 0 by omega]; exact w.2.2.2.1
          · rw [show 11 + 12 * M 324 0 + 3 = 14 + 12 * M 324 0 by omega]; exact w.2.2.2.2.1
          · rw [show 11 + 12 * M 324 0 + 4 = 15 + 12 * M 324 0 by omega]; exact w.2.2.2.2.2
        · intro t t0 t1
          simp (disch := omega) only [up_if, sf_if, if_neg, if_pos, if_true]
          exact fi_at t0 t1
        · intro a k a0 a1 a2 a3 a4
          simp (disch := omega) only [up_if, sf_if, if_neg]
      · intro a k z1 z2 z3 z4
        simp (disch := omega) only [up_if, sf_if, if_neg]
      · exact Or.inl (by simp (disch := omega) only [up_if, sf_if, if_neg, and_self, if_true])
    · exact absurd hc he
  · refine ⟨-4, by unfold in32; omega, rfl, cw_C_mono (d_gap hS rfl hw0.1) ?_⟩
    rintro r M2 (⟨he, rfl, rfl⟩ | ⟨he, rfl, rfl⟩)
    · exact absurd he hc
    · exact ⟨rfl, Nx.rf hS hN⟩

set_option maxHeartbeats 4000000 in
theorem o_iron {g : cw_G} {M : cw_M} {n : Int} {a b c d e : Int} (hS : Sh M) (hN : Now n M) (hn5 : 0 ≤ n ∧ n ≤ 512) (ha : in32 a) (hb : in32 b) (hc1 : in32 c) (hd : in32 d) (he1 : in32 e) : OP g y_Co_iron y_Mo_iron [.inl a, .inl b, .inl c, .inl d, .inl e] M (Nx n M) := by
  obtain ⟨hR, hW⟩ := id hN
  have hp0 : M 2 0 = M 324 0 := hR.pc
  have hw0 := hW.1
  unfold OP
  refine cw_C_mono (c_iron hS hp0 hw0.1 ha hb hc1 hd he1) ?_
  rintro r M1 (⟨hc, hq, rfl, rfl⟩ | ⟨hc, rfl, rfl⟩ | ⟨hc, rfl, rfl⟩)
  · have hk : ∀ k : Int, cw_rs (4 + M 324 0) k = false := fun k => rs_k (c_a3 (p := M 324 0) (by omega) (by omega)) (by decide)
    have hS1 : Sh (cw_up (cw_up (cw_up (cw_up (cw_up (cw_up M (4 + M 324 0) 0 a) (4 + M 324 0) 1 b) (4 + M 324 0) 2 c) (4 + M 324 0) 3 d) (4 + M 324 0) 4 e) 2 0 (M 324 0 + 1)) := (((((hS.up (hk _)).up (hk _)).up (hk _)).up (hk _)).up (hk _)).up rfl
    have e324 : (cw_up (cw_up (cw_up (cw_up (cw_up (cw_up M (4 + M 324 0) 0 a) (4 + M 324 0) 1 b) (4 + M 324 0) 2 c) (4 + M 324 0) 3 d) (4 + M 324 0) 4 e) 2 0 (M 324 0 + 1)) 324 = M 324 := by rw [cw_up_ne (by omega), cw_up_ne (by omega), cw_up_ne (by omega), cw_up_ne (by omega), cw_up_ne (by omega), cw_up_ne (by omega)]
    have c0 : ∀ x y : Int, 1 < x → x < 47 → ¬ (x = 2 ∧ y = 0) → x ≠ 4 + M 324 0 → (cw_up (cw_up (cw_up (cw_up (cw_up (cw_up M (4 + M 324 0) 0 a) (4 + M 324 0) 1 b) (4 + M 324 0) 2 c) (4 + M 324 0) 3 d) (4 + M 324 0) 4 e) 2 0 (M 324 0 + 1)) x y = M x y := by
      intro x y a0 a1 a2 a3
      simp (disch := omega) only [up_if, if_neg]
    have c1 : (cw_up (cw_up (cw_up (cw_up (cw_up (cw_up M (4 + M 324 0) 0 a) (4 + M 324 0) 1 b) (4 + M 324 0) 2 c) (4 + M 324 0) 3 d) (4 + M 324 0) 4 e) 2 0 (M 324 0 + 1)) 2 0 = M 324 0 + 1 := by rw [w_up1]
    have c2 : ∀ i : Int, 0 ≤ i → i < 5 → (cw_up (cw_up (cw_up (cw_up (cw_up (cw_up M (4 + M 324 0) 0 a) (4 + M 324 0) 1 b) (4 + M 324 0) 2 c) (4 + M 324 0) 3 d) (4 + M 324 0) 4 e) 2 0 (M 324 0 + 1)) (4 + M 324 0) i = (fun i => if i = 1 then a else if i = 2 then b else if i = 3 then c else if i = 4 then d else if i = 5 then e else 0) (1 + i) := by
      intro i i0 i1
      rcases (show i = 0 ∨ i = 1 ∨ i = 2 ∨ i = 3 ∨ i = 4 by omega) with rfl | rfl | rfl | rfl | rfl <;> simp (disch := omega) only [w_up1, w_up2, w_up3] <;> rfl
    have c3 : ∀ x y : Int, ¬ (1 ≤ x ∧ x < 48) → (cw_up (cw_up (cw_up (cw_up (cw_up (cw_up M (4 + M 324 0) 0 a) (4 + M 324 0) 1 b) (4 + M 324 0) 2 c) (4 + M 324 0) 3 d) (4 + M 324 0) 4 e) 2 0 (M 324 0 + 1)) x y = M x y := by
      intro x y a0
      simp (disch := omega) only [up_if, if_neg]
    refine ⟨M 324 0, by unfold in32; omega, rfl, cw_C_mono (d_iron hS1 (n := M 324 0) (by rw [e324]) hw0.1 ha hb hc1 hd he1) ?_⟩
    rw [e324]
    generalize cw_up (cw_up (cw_up (cw_up (cw_up (cw_up M (4 + M 324 0) 0 a) (4 + M 324 0) 1 b) (4 + M 324 0) 2 c) (4 + M 324 0) 3 d) (4 + M 324 0) 4 e) 2 0 (M 324 0 + 1) = M1 at *
    rintro r M2 (⟨he, hq2, rfl, rfl⟩ | ⟨he, rfl, rfl⟩ | ⟨he, rfl, rfl⟩)
    · have hS2 := ((((((hS1.sf (a := 324) (F := cw_bg (M 324) (M 324 0) 0) (fun k => rs_k c_k324 (by decide))).up (k := 10 + 12 * M 324 0 + 1) (v := a) (rs_k c_k324 (by decide))).up (k := 10 + 12 * M 324 0 + 2) (v := b) (rs_k c_k324 (by decide))).up (k := 10 + 12 * M 324 0 + 3) (v := c) (rs_k c_k324 (by decide))).up (k := 10 + 12 * M 324 0 + 4) (v := d) (rs_k c_k324 (by decide))).up (k := 10 + 12 * M 324 0 + 5) (v := e) (rs_k c_k324 (by decide))).up (a := 319) (k := 18) (v := 0) rfl
      have d3 : (cw_up (cw_up (cw_up (cw_up (cw_up (cw_up (cw_sf M1 324 (cw_bg (M 324) (M 324 0) 0)) 324 (10 + 12 * M 324 0 + 1) a) 324 (10 + 12 * M 324 0 + 2) b) 324 (10 + 12 * M 324 0 + 3) c) 324 (10 + 12 * M 324 0 + 4) d) 324 (10 + 12 * M 324 0 + 5) e) 319 18 0) 338 = M 338 := by
        funext k
        simp (disch := omega) only [up_if, sf_if, if_neg]
        exact c3 338 k (by omega)
      refine ⟨rfl, hS2, ?_, ?_, ?_⟩
      · unfold Now
        rw [d3]
        refine now_add (row := fun i => if i = 1 then a else if i = 2 then b else if i = 3 then c else if i = 4 then d else if i = 5 then e else 0) (gv := 0) hR hW (by omega) ?_ (fun i i0 i1 => ?_) (fun t t0 t1 => ?_) (fun k k0 k1 k2 => ?_) ?_ ?_ ?_ ?_ (Or.inr ⟨rfl, hc, rfl⟩)
        · simp (disch := omega) only [up_if, sf_if, if_neg, if_pos, if_true]
          exact bg_0
        · rcases (show i = 0 ∨ i = 1 ∨ i = 2 ∨ i = 3 ∨ i = 4 ∨ i = 5 ∨ 6 ≤ i by omega) with rfl | rfl | rfl | rfl | rfl | rfl | h6
          · simp (disch := omega) only [up_if, sf_if, if_neg, if_pos, if_true]
            rw [bg_r (by omega) (by omega) (by omega)]
            rfl
          · simp (disch := omega) only [up_if, sf_if, if_neg, if_pos, and_self, if_true]
          · simp (disch := omega) only [up_if, sf_if, if_neg, if_pos, and_self, if_true]
          · simp (disch := omega) only [up_if, sf_if, if_neg, if_pos, and_self, if_true]
          · simp (disch := omega) only [up_if, sf_if, if_neg, if_pos, and_self, if_true]
          · simp (disch := omega) only [up_if, sf_if, if_neg, if_pos, and_self, if_true]
          · rw [if_neg (by omega)]
            simp (disch := omega) only [up_if, sf_if, if_neg, if_pos, if_true]
            rw [bg_r (by omega) i0 i1, if_neg (by omega)]
        · simp (disch := omega) only [up_if, sf_if, if_neg, if_pos, if_true]
          rw [bg_g (by omega) t0 t1]; rfl
        · simp (disch := omega) only [up_if, sf_if, if_neg, if_pos, if_true]
          exact bg_o k0 k1 k2
        · simp (disch := omega) only [up_if, sf_if, if_neg]
          exact c1
        · intro i i0 i1
          simp (disch := omega) only [up_if, sf_if, if_neg]
          exact c2 i i0 i1
        · intro t t0 t1
          simp (disch := omega) only [up_if, sf_if, if_neg]
          rw [c0 _ _ (by omega) (by omega) (by omega) (by omega), hR.ga (by omega) (by omega) t0 t1]
          exact hW.2.2.2.2.1 _ t (by omega) (by omega) t0 t1 (hW.2.2.1 _ (by omega) (by omega)).1
        · intro x y a0 a1 a2 a3 a4
          simp (disch := omega) only [up_if, sf_if, if_neg]
          exact c0 x y a0 a1 a2 a3
      · intro x y z1 z2 z3 z4
        simp (disch := omega) only [up_if, sf_if, if_neg]
        exact c3 x y z1
      · exact Or.inl (by simp only [up_if, and_self, if_true])
    · exact absurd hq he.2
    · exact absurd hc he
  · refine ⟨-4, by unfold in32; omega, rfl, cw_C_mono (d_iron hS rfl hw0.1 ha hb hc1 hd he1) ?_⟩
    rintro r M2 (⟨he, hq2, rfl, rfl⟩ | ⟨he, rfl, rfl⟩ | ⟨he, rfl, rfl⟩)
    · exact absurd hq2 hc.2
    · exact ⟨rfl, Nx.rf hS hN⟩
    · exact absurd hc.1 he
  · refine ⟨-2, by unfold in32; omega, rfl, cw_C_mono (d_iron hS rfl hw0.1 ha hb hc1 hd he1) ?_⟩
    rintro r M2 (⟨he, hq2, rfl, rfl⟩ | ⟨he, rfl, rfl⟩ | ⟨he, rfl, rfl⟩)
    · exact absurd he hc
    · exact absurd he.1 hc
    · exact ⟨rfl, Nx.rf hS hN⟩
