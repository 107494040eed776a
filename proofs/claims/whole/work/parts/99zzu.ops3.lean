/-! the stars, images, digest: on both sides -/
theorem iv_sr {n : Int} {M M1 M2 : cw_M} (h : IV n M) (k : Fg As3 M M1) (s : Sti M1) (q : Fpw M1 M2) (d : Mdi M2) : IV (n + 1) M2 := by
  obtain ⟨a, b, ⟨c1, c2⟩, fr, e, f1, f2⟩ := h
  have r1 : ∀ c : Int, ¬ (c = 276 ∨ c = 277 ∨ c = 278) → M1 c = M c := fun c x => k.2 c x
  have r2 : ∀ c : Int, ¬ (340 ≤ c ∧ c ≤ 345) → c ≠ 319 → M2 c = M1 c := fun c x y => by funext j; exact q.2 c j x (by omega)
  have r : ∀ c : Int, ¬ ((276 ≤ c ∧ c ≤ 278) ∨ c = 319 ∨ (340 ≤ c ∧ c ≤ 345)) → M2 c = M c := fun c x => (r2 c (by omega) (by omega)).trans (r1 c (by omega))
  have r9 : ∀ j : Int, ¬ (j = 27 ∨ j = 28) → M2 319 j = M 319 j := fun j x => (q.2 319 j (by omega) (by omega)).trans (by rw [r1 319 (by omega)])
  have sm : ∀ j, sR M M2 j := sr_of (fun c x y => r c (by omega))
  refine ⟨q.1, ⟨?_, ?_⟩, ⟨fun p p0 p1 => by rw [r 167 (by omega)]; exact c1 p p0 p1, ?_⟩, fr.cg (fun c x y => r c (by omega)) (sm 6) (sm 7), e.cg (by omega) (fun c x => r c (by omega)), s.cg (r2 276 (by omega) (by omega)) (r2 278 (by omega) (by omega)), d⟩
  · rw [r 324 (by omega), r 338 (by omega)]; exact b.1.cg (fun c x y => r c (by omega))
  · rw [r 324 (by omega), r 338 (by omega)]; exact b.2.mo (by omega)
  · rw [r 324 (by omega)]
    exact mok_cg b.2 Ek.rf ⟨r9 7 (by omega), fun c x => r c (by omega)⟩ (r9 18 (by omega)) (r9 19 (by omega)) c2
theorem st_in {n : Int} {M M1 : cw_M} (h : IV n M) (k : Fg As3 M M1) : M1 324 = M 324 ∧ Mdi M1 := ⟨k.2 324 (by unfold As3; omega), h.2.2.2.2.2.2.cg (by rw [k.2 319 (by unfold As3; omega)]) (by rw [k.2 319 (by unfold As3; omega)]) (k.2 343 (by unfold As3; omega))⟩
theorem o_wide {g : cw_G} {n : Int} {M : cw_M} (hi : IV n M) : OP g y_Co_wide y_Mo_wide [] M (IV (n + 1)) := by
  have hW := hi.2.1.2
  have wb := y_w_b hW.1.2.2.2.2
  have w4 := hW.1.2.2.2.2
  refine cw_C_mono (c_wide hi.1 hi.2.1.1 hW hi.2.2.2.2.2.1) ?_
  rintro r M1 ⟨rfl, k, s⟩
  refine ⟨_, by unfold in32; omega, rfl, cw_C_mono (d_wide k.1 (st_in hi k).1 hW (st_in hi k).2) ?_⟩
  rintro r2 M2 ⟨rfl, q, d⟩
  exact ⟨rfl, iv_sr hi k s q d⟩
theorem o_star {g : cw_G} {n ph k i : Int} {M : cw_M} (hi : IV n M) (hph : in32 ph) (hk : in32 k) (hii : in32 i) : OP g y_Co_star y_Mo_star [.inl ph, .inl k, .inl i] M (IV (n + 1)) := by
  have hW := hi.2.1.2
  have w4 := hW.1.2.2.2.2
  refine cw_C_mono (c_star hi.1 hi.2.1.1 hW hi.2.2.2.2.2.1 hph hk hii) ?_
  rintro r M1 ⟨⟨kk, s⟩, hr⟩
  have dd := d_star (g := g) kk.1 (st_in hi kk).1 hW (st_in hi kk).2 hph hk hii
  rcases hr with ⟨hc, rfl⟩ | ⟨hc, rfl⟩
  · refine ⟨_, by unfold in32; omega, rfl, cw_C_mono dd ?_⟩
    rintro r2 M2 ⟨⟨q, d⟩, ⟨_, rfl⟩ | ⟨h2, _⟩⟩
    · exact ⟨rfl, iv_sr hi kk s q d⟩
    · exact absurd h2 hc
  · have vb := tt_b (f := M 324) (ph := ph) (k := k) (on := 0) (i := i) (n := M 324 4) w4 hc.2.1.1 (by omega) ⟨hc.2.2.1, by omega⟩ (by omega)
    refine ⟨_, by unfold in32; omega, rfl, cw_C_mono dd ?_⟩
    rintro r2 M2 ⟨⟨q, d⟩, ⟨h2, _⟩ | ⟨_, rfl⟩⟩
    · exact absurd hc h2
    · exact ⟨rfl, iv_sr hi kk s q d⟩
theorem o_even {g : cw_G} {n k : Int} {M : cw_M} (hi : IV n M) (hk : in32 k) : OP g y_Co_even y_Mo_even [.inl k] M (IV (n + 1)) := by
  have hW := hi.2.1.2
  refine cw_C_mono (c_even hi.1 hi.2.1.1 hW hi.2.2.2.2.2.1 hk) ?_
  rintro r M1 ⟨⟨kk, s⟩, hr⟩
  have dd := d_even (g := g) kk.1 (st_in hi kk).1 hW (st_in hi kk).2 hk
  rcases hr with ⟨hc, rfl⟩ | ⟨hc, ⟨hz, rfl⟩ | ⟨hz, ⟨rfl, e⟩ | ⟨rfl, e⟩⟩⟩
  · refine ⟨_, by unfold in32; omega, rfl, cw_C_mono dd ?_⟩
    rintro r2 M2 ⟨⟨q, d⟩, ⟨_, rfl⟩ | ⟨h2, _⟩⟩
    · exact ⟨rfl, iv_sr hi kk s q d⟩
    · exact absurd h2 hc
  · refine ⟨_, by unfold in32; omega, rfl, cw_C_mono dd ?_⟩
    rintro r2 M2 ⟨⟨q, d⟩, ⟨h2, _⟩ | ⟨_, ⟨_, rfl⟩ | ⟨h2, _⟩⟩⟩
    · exact absurd hc h2
    · exact ⟨rfl, iv_sr hi kk s q d⟩
    · exact absurd h2 hz
  · refine ⟨_, by unfold in32; omega, rfl, cw_C_mono dd ?_⟩
    rintro r2 M2 ⟨⟨q, d⟩, ⟨h2, _⟩ | ⟨_, ⟨h2, _⟩ | ⟨_, ⟨rfl, _⟩ | ⟨_, h2⟩⟩⟩⟩
    · exact absurd hc h2
    · exact absurd hz h2
    · exact ⟨rfl, iv_sr hi kk s q d⟩
    · exact absurd e h2
  · refine ⟨_, by unfold in32; omega, rfl, cw_C_mono dd ?_⟩
    rintro r2 M2 ⟨⟨q, d⟩, ⟨h2, _⟩ | ⟨_, ⟨h2, _⟩ | ⟨_, ⟨_, h2⟩ | ⟨rfl, _⟩⟩⟩⟩
    · exact absurd hc h2
    · exact absurd hz h2
    · exact absurd h2 e
    · exact ⟨rfl, iv_sr hi kk s q d⟩
theorem o_span {g : cw_G} {n k i : Int} {M : cw_M} (hi : IV n M) (hk : in32 k) (hii : in32 i) : OP g y_Co_span y_Mo_span [.inl k, .inl i] M (IV (n + 1)) := by
  have hW := hi.2.1.2
  have w4 := hW.1.2.2.2.2
  refine cw_C_mono (c_span hi.1 hi.2.1.1 hW hi.2.2.2.2.2.1 hk hii) ?_
  rintro r M1 ⟨⟨kk, s⟩, hr⟩
  have dd := d_span (g := g) kk.1 (st_in hi kk).1 hW (st_in hi kk).2 hk hii
  rcases hr with ⟨hc, rfl⟩ | ⟨hc, rfl⟩
  · refine ⟨_, by unfold in32; omega, rfl, cw_C_mono dd ?_⟩
    rintro r2 M2 ⟨⟨q, d⟩, ⟨_, rfl⟩ | ⟨h2, _⟩⟩
    · exact ⟨rfl, iv_sr hi kk s q d⟩
    · exact absurd h2 hc
  · have sb := sp_b (P := Nc (M 324) k) (M 324 4 - 1).toNat 1 0 i (by omega)
    refine ⟨_, by unfold in32; omega, rfl, cw_C_mono dd ?_⟩
    rintro r2 M2 ⟨⟨q, d⟩, ⟨h2, _⟩ | ⟨_, rfl⟩⟩
    · exact absurd hc h2
    · exact ⟨rfl, iv_sr hi kk s q d⟩
/-! images -/
theorem rs_138 : ∀ k, cw_rs 326 k = false := fun k => by unfold cw_rs; rw [c_k326]; rfl
theorem rs_325 : ∀ k, cw_rs 325 k = false := fun k => by unfold cw_rs; rw [c_k325]; rfl
theorem rs_339 : ∀ k, cw_rs 339 k = false := fun k => by unfold cw_rs; rw [c_k339]; rfl
theorem rs_140 : ∀ k, cw_rs 140 k = false := fun k => by unfold cw_rs; rw [c_k140]; rfl
theorem rs_324 : ∀ k, cw_rs 324 k = false := fun k => by unfold cw_rs; rw [c_k324]; rfl
theorem rs_338 : ∀ k, cw_rs 338 k = false := fun k => by unfold cw_rs; rw [c_k338]; rfl
theorem o_image {g : cw_G} {n i : Int} {M : cw_M} (hi : IV n M) (hn5 : n ≤ 600) (hii : in32 i) : OP g y_Co_image y_Mo_image [.inl i] M (IV (n + 1)) := by
  obtain ⟨a, b, ⟨c1, c2⟩, fr, im, f1, f2⟩ := id hi
  refine cw_C_mono (c_image a b.1 b.2 hn5 hii) ?_
  rintro r M1 (⟨hc, M0, rfl, s0, R0, k0, rfl⟩ | ⟨hc, rfl, rfl⟩)
  · have s1 : Sh (cw_up M0 140 i 1) := s0.up (rs_140 _)
    refine ⟨1, by unfold in32; omega, rfl, cw_C_mono (d_image s1 hii) ?_⟩
    rintro r2 M2 (⟨_, rfl, rfl⟩ | ⟨h2, _⟩)
    · have s2 := ((s1.up (k := i) (v := 1) (rs_138 i)).sf (F := (cw_fi (cw_up M0 140 i 1 325) (fun k => cw_up M0 140 i 1 324 (k - 402 * i)) (402 * i) (402 * i + 402))) rs_325).sf (F := (cw_fi (cw_up M0 140 i 1 339) (fun k => cw_up M0 140 i 1 338 (k - 6 * i)) (6 * i) (6 * i + 6))) rs_339
      refine ⟨rfl, ?_⟩
      generalize hM2 : cw_sf (cw_sf (cw_up (cw_up M0 140 i 1) 326 i 1) 325 (cw_fi (cw_up M0 140 i 1 325) (fun k => cw_up M0 140 i 1 324 (k - 402 * i)) (402 * i) (402 * i + 402))) 339 (cw_fi (cw_up M0 140 i 1 339) (fun k => cw_up M0 140 i 1 338 (k - 6 * i)) (6 * i) (6 * i + 6)) = M2 at s2 ⊢
      have r : ∀ c : Int, ¬ (48 ≤ c ∧ c ≤ 140) → c ≠ 325 → c ≠ 326 → c ≠ 339 → M2 c = M c := fun c x1 x2 x3 x4 => by
        rw [← hM2, sf_ne x4, sf_ne x2, cw_up_ne x3, cw_up_ne (by omega)]; exact k0 c (by omega)
      have e140 : ∀ j, M2 140 j = if j = i then 1 else M 140 j := fun j => by
        rw [← hM2, sf_ne (by omega), sf_ne (by omega), cw_up_ne (by omega), cw_up_eq, k0 140 (by omega)]
      have e326 : ∀ j, M2 326 j = if j = i then 1 else M 326 j := fun j => by
        rw [← hM2, sf_ne (by omega), sf_ne (by omega), cw_up_eq, cw_up_ne (by omega), k0 326 (by omega)]
      have e324 : ∀ j, cw_up M0 140 i 1 324 j = M 324 j := fun j => by rw [cw_up_ne (by omega), k0 324 (by omega)]
      have e338 : ∀ j, cw_up M0 140 i 1 338 j = M 338 j := fun j => by rw [cw_up_ne (by omega), k0 338 (by omega)]
      have e325 : ∀ j, M2 325 j = if 402 * i ≤ j ∧ j < 402 * i + 402 then M 324 (j - 402 * i) else M 325 j := fun j => by
        rw [← hM2, sf_ne (by omega), sf_eq]; show (if 402 * i ≤ j ∧ j < 402 * i + 402 then cw_up M0 140 i 1 324 (j - 402 * i) else cw_up M0 140 i 1 325 j) = _; rw [e324, cw_up_ne (by omega), k0 325 (by omega)]
      have e339 : ∀ j, M2 339 j = if 6 * i ≤ j ∧ j < 6 * i + 6 then M 338 (j - 6 * i) else M 339 j := fun j => by
        rw [← hM2, sf_eq]; show (if 6 * i ≤ j ∧ j < 6 * i + 6 then cw_up M0 140 i 1 338 (j - 6 * i) else cw_up M0 140 i 1 339 j) = _; rw [e338, cw_up_ne (by omega), k0 339 (by omega)]
      have em : ∀ c : Int, 48 ≤ c → c < 140 → M2 c = M0 c := fun c x1 x2 => by rw [← hM2, sf_ne (by omega), sf_ne (by omega), cw_up_ne (by omega), cw_up_ne (by omega)]
      have sm : ∀ j, sR M M2 j := sr_of (fun c x y => r c (by omega) (by omega) (by omega) (by omega))
      refine ⟨s2, ⟨?_, ?_⟩, ⟨fun p p0 p1 => by rw [r 167 (by omega) (by omega) (by omega) (by omega)]; exact c1 p p0 p1, ?_⟩, fr.cg (fun c x y => r c (by omega) (by omega) (by omega) (by omega)) (sm 6) (sm 7), ?_, f1.cg (r 276 (by omega) (by omega) (by omega) (by omega)) (r 278 (by omega) (by omega) (by omega) (by omega)), f2.cg (by rw [r 319 (by omega) (by omega) (by omega) (by omega)]) (by rw [r 319 (by omega) (by omega) (by omega) (by omega)]) (r 343 (by omega) (by omega) (by omega) (by omega))⟩
      · rw [r 324 (by omega) (by omega) (by omega) (by omega), r 338 (by omega) (by omega) (by omega) (by omega)]; exact b.1.cg (fun c x y => r c (by omega) (by omega) (by omega) (by omega))
      · rw [r 324 (by omega) (by omega) (by omega) (by omega), r 338 (by omega) (by omega) (by omega) (by omega)]; exact b.2.mo (by omega)
      · rw [r 324 (by omega) (by omega) (by omega) (by omega)]
        exact mok_cg b.2 Ek.rf ⟨by rw [r 319 (by omega) (by omega) (by omega) (by omega)], fun c x => r c (by omega) (by omega) (by omega) (by omega)⟩ (by rw [r 319 (by omega) (by omega) (by omega) (by omega)]) (by rw [r 319 (by omega) (by omega) (by omega) (by omega)]) c2
      · intro j j0 j1
        rw [e140, e326]
        by_cases q : j = i
        · rw [if_pos q, if_pos q]
          subst q
          refine Or.inr ⟨rfl, rfl, M 324, M 338, fun k q0 q1 => ?_, fun k q0 q1 => ?_, R0.cg (fun c x y => em c (by omega) (by omega)), b.2.mo (by omega)⟩
          · rw [e325, if_pos (by omega)]; congr 1; omega
          · rw [e339, if_pos (by omega)]; congr 1; omega
        · rw [if_neg q, if_neg q]
          rcases im j j0 j1 with z | ⟨z1, z2, F, L, z3, z4, z5, z6⟩
          · exact Or.inl z
          · refine Or.inr ⟨z1, z2, F, L, fun k q0 q1 => ?_, fun k q0 q1 => ?_, z5.cg (fun c x y => (em c (by omega) (by omega)).trans (k0 c (by omega))), z6.mo (by omega)⟩
            · rw [e325, if_neg (by omega)]; exact z3 k q0 q1
            · rw [e339, if_neg (by omega)]; exact z4 k q0 q1
    · exact absurd hc h2
  · refine ⟨-2, by unfold in32; omega, rfl, cw_C_mono (d_image a hii) ?_⟩
    rintro r2 M2 (⟨h2, _⟩ | ⟨_, rfl, rfl⟩)
    · exact absurd h2 hc
    · exact ⟨rfl, hi.mo⟩
def Im1 (n i : Int) (M : cw_M) (F L : Int → Int) : Prop := (∀ k : Int, 0 ≤ k → k < 402 → M 325 (402 * i + k) = F k) ∧ (∀ k : Int, 0 ≤ k → k < 6 → M 339 (6 * i + k) = L k) ∧ RelS (48 + 46 * i) F L M ∧ WF n F L
theorem img_f {n : Int} {M : cw_M} (h : Img n M) : ∃ F L : Int → Int → Int, ∀ i : Int, 0 ≤ i → i < 2 → (M 140 i = 0 ∧ M 326 i = 0) ∨ (M 140 i = 1 ∧ M 326 i = 1 ∧ Im1 n i M (F i) (L i)) := by
  have all : ∀ i : Int, ∃ F L : Int → Int, 0 ≤ i → i < 2 → (M 140 i = 0 ∧ M 326 i = 0) ∨ (M 140 i = 1 ∧ M 326 i = 1 ∧ Im1 n i M F L) := by
    intro i
    by_cases q : 0 ≤ i ∧ i < 2
    · rcases h i q.1 q.2 with z | ⟨z1, z2, F, L, z3⟩
      · exact ⟨fun _ => 0, fun _ => 0, fun _ _ => Or.inl z⟩
      · exact ⟨F, L, fun _ _ => Or.inr ⟨z1, z2, z3⟩⟩
    · exact ⟨fun _ => 0, fun _ => 0, fun a b => absurd ⟨a, b⟩ q⟩
  exact ⟨fun i => (all i).choose, fun i => (all i).choose_spec.choose, fun i a b => (all i).choose_spec.choose_spec a b⟩
theorem o_from {g : cw_G} {n i : Int} {M : cw_M} (hi : IV n M) (hii : in32 i) : OP g y_Co_from y_Mo_from [.inl i] M (IV (n + 1)) := by
  obtain ⟨a, b, ⟨c1, c2⟩, fr, im, f1, f2⟩ := id hi
  obtain ⟨F, L, hFL⟩ := img_f im
  refine cw_C_mono (c_from (F := F) (L := L) a hii (fun j j0 j1 => ?_)) ?_
  · rcases hFL j j0 j1 with z | ⟨z1, z2, z3⟩
    · exact Or.inl z.1
    · obtain ⟨-, -, -, -, -, -, -, -, -, -, -, wl, -⟩ := z3.2.2.2
      exact Or.inr ⟨z1, z3.2.2.1, wl.2.2.2.2.2.2.1⟩
  rintro r M1 (⟨hc, hk, rfl, s1, R1, k1⟩ | ⟨hc, rfl, rfl⟩ | ⟨hc, rfl, rfl⟩)
  · have b1 : ∀ j : Int, 0 ≤ j → j < 2 → M1 326 j = 0 ∨ M1 326 j = 1 := fun j j0 j1 => by
      rw [k1 326 (by omega)]
      rcases hFL j j0 j1 with z | z
      · exact Or.inl z.2
      · exact Or.inr z.2.1
    refine ⟨1, by unfold in32; omega, rfl, cw_C_mono (d_from s1 hii b1) ?_⟩
    have kk := (hFL i hc.1 (by omega)).resolve_left (fun z => hk z.1)
    rintro r2 M2 (⟨_, _, rfl, rfl⟩ | ⟨⟨_, h2⟩, _⟩ | ⟨h2, _⟩)
    · refine ⟨rfl, ?_⟩
      obtain ⟨q1, q2, q3, q4, q5, q6⟩ := kk
      have s2 := ((s1.sf (F := cw_fi (M1 324) (fun k => M1 325 (402 * i + k)) 0 402) rs_324).sf (F := cw_fi (M1 338) (fun k => M1 339 (6 * i + k)) 0 6) rs_338).up (a := 319) (k := 18) (v := 0) (by decide +kernel)
      generalize hM2 : cw_up (cw_sf (cw_sf M1 324 (cw_fi (M1 324) (fun k => M1 325 (402 * i + k)) 0 402)) 338 (cw_fi (M1 338) (fun k => M1 339 (6 * i + k)) 0 6)) 319 18 0 = M2 at s2 ⊢
      have r1 : ∀ c : Int, c ≠ 324 → c ≠ 338 → c ≠ 319 → M2 c = M1 c := fun c x1 x2 x3 => by rw [← hM2, cw_up_ne x3, sf_ne x2, sf_ne x1]
      have r : ∀ c : Int, ¬ (1 < c ∧ c < 47) → c ≠ 324 → c ≠ 338 → c ≠ 319 → M2 c = M c := fun c x0 x1 x2 x3 => (r1 c x1 x2 x3).trans (k1 c x0)
      have r9 : ∀ j : Int, j ≠ 18 → M2 319 j = M 319 j := fun j x => by rw [← hM2, w_up2 x, sf_ne (by omega), sf_ne (by omega), k1 319 (by omega)]
      have e18 : M2 319 18 = 0 := by rw [← hM2, w_up1]
      have e324 : ∀ k : Int, 0 ≤ k → k < 402 → M2 324 k = F i k := fun k x y => by
        rw [← hM2, cw_up_ne (by omega), sf_ne (by omega), sf_eq, fi_at x y, k1 325 (by omega)]; exact q3 k x y
      have e338 : ∀ k : Int, 0 ≤ k → k < 6 → M2 338 k = L i k := fun k x y => by
        rw [← hM2, cw_up_ne (by omega), sf_eq, fi_at x y, k1 339 (by omega)]; exact q4 k x y
      have sm : ∀ j, sR M M2 j := sr_of (fun c x y => r c (by omega) (by omega) (by omega) (by omega))
      exact ⟨s2, ⟨(R1.cf e324 e338).cg (fun c x y => r1 c (by omega) (by omega) (by omega)), (q6.cf e324 e338).mo (by omega)⟩, ⟨fun p p0 p1 => by rw [r 167 (by omega) (by omega) (by omega) (by omega)]; exact c1 p p0 p1, mok_z e18 (by rw [r9 19 (by omega)]; exact c2.2)⟩, fr.cg (fun c x y => r c (by omega) (by omega) (by omega) (by omega)) (sm 6) (sm 7), im.cg (by omega) (fun c x => r c (by omega) (by omega) (by omega) (by omega)), f1.cg (r 276 (by omega) (by omega) (by omega) (by omega)) (r 278 (by omega) (by omega) (by omega) (by omega)), f2.cg (r9 27 (by omega)) (r9 28 (by omega)) (r 343 (by omega) (by omega) (by omega) (by omega))⟩
    · rw [k1 326 (by omega)] at h2; exact absurd h2 (by rw [kk.2.1]; omega)
    · exact absurd hc h2
  · refine ⟨-3, by unfold in32; omega, rfl, cw_C_mono (d_from a hii (fun j j0 j1 => ?_)) ?_⟩
    · rcases hFL j j0 j1 with z | z
      · exact Or.inl z.2
      · exact Or.inr z.2.1
    have kk : M1 326 i = 0 := by
      rcases hFL i hc.1.1 (by omega) with z | z
      · exact z.2
      · exact absurd hc.2 (by rw [z.1]; omega)
    rintro r2 M2 (⟨_, h2, _⟩ | ⟨_, rfl, rfl⟩ | ⟨h2, _⟩)
    · exact absurd kk h2
    · exact ⟨rfl, hi.mo⟩
    · exact absurd hc.1 h2
  · refine ⟨-2, by unfold in32; omega, rfl, cw_C_mono (d_from a hii (fun j j0 j1 => ?_)) ?_⟩
    · rcases hFL j j0 j1 with z | z
      · exact Or.inl z.2
      · exact Or.inr z.2.1
    rintro r2 M2 (⟨h2, _⟩ | ⟨⟨h2, _⟩, _⟩ | ⟨_, rfl, rfl⟩)
    · exact absurd h2 hc
    · exact absurd h2 hc
    · exact ⟨rfl, hi.mo⟩
/-! digest: a long, whatever whole number it is the rest of -/
theorem cw_C_val {g : cw_G} {y : cw_Y} {args : List cw_V} {M : cw_M} {nx n1 : Nat} {x x' : Int} {P : cw_M → Prop} (e : Int64.ofInt x = Int64.ofInt x') (h : cw_C g y args M nx n1 (fun q M' => q = some (.inr (.inl x)) ∧ P M')) : cw_C g y args M nx n1 (fun q M' => q = some (.inr (.inl x')) ∧ P M') := by
  refine ⟨h.1, MetFree.mono h.2 (fun _ _ q => q) (fun _ _ _ _ _ q => q) (fun a s o t _ q => ?_)⟩
  obtain ⟨⟨⟨r, M', h1, ⟨h2, h2'⟩, h3⟩, h4⟩, h5⟩ := q
  subst h2
  refine ⟨⟨⟨some (.inr (.inl x')), M', ?_, ⟨rfl, h2'⟩, h3⟩, h4⟩, h5⟩
  rw [h1]
  show Outcome.returned (some (Value.long (Int64.ofInt x))) = Outcome.returned (some (Value.long (Int64.ofInt x')))
  rw [e]
theorem o_digest {g : cw_G} {n : Int} {M : cw_M} (hi : IV n M) (hn5 : n ≤ 600) : OPL g y_Co_digest y_Mo_digest [] M (IV (n + 1)) := by
  have hW := hi.2.1.2
  obtain ⟨x, hx⟩ : ∃ x, x = cw_hz (M 324) (M 338) := ⟨_, rfl⟩
  have e : Int64.ofInt x = Int64.ofInt (Int64.ofInt x).toInt := (Int64.ofInt_toInt _).symm
  have c1 := c_digest (g := g) hi.1 hi.2.1.1 hW hn5
  have d1 := d_digest (g := g) hi.1 hW (by omega)
  rw [← hx] at c1 d1
  refine cw_C_mono (cw_C_val e c1) ?_
  rintro r M1 ⟨rfl, rfl⟩
  refine ⟨_, ?_, rfl, cw_C_mono (cw_C_val e d1) ?_⟩
  · have a := Int64.le_toInt (Int64.ofInt x)
    have b := Int64.toInt_lt (Int64.ofInt x)
    unfold in64; omega
  · rintro r2 M2 ⟨rfl, rfl⟩
    exact ⟨rfl, hi.mo⟩
