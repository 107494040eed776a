/-! fault, limbs, limb, floor, the stars, images, digest: on both sides -/
theorem iv_cm {n : Int} {M M1 M2 : cw_M} (h : IV n M) (k : Fg Aco M M1) (kp : Kp M1) (h2 : Sh M2) (hr : ∀ c j : Int, ¬ (320 ≤ c ∧ c ≤ 323) → ¬ (327 ≤ c ∧ c ≤ 330) → ¬ (c = 319 ∧ j = 7) → M2 c j = M1 c j) (ok : m_ok (M 324) M2) (s6 : sR M1 M2 6) (s7 : sR M1 M2 7) : IV (n + 1) M2 := by
  have gq : Gq M1 M2 := ⟨h2, fun a j x y z => hr a j x (by omega) (by omega)⟩
  have sm : ∀ j, sR M M1 j := sr_of (fun c x y => k.2 c (by unfold Aco; omega))
  exact iv_fr h (aco_ac k) kp gq ok (h.2.2.2.1.cg (fun c x y => (gq.row (by omega) (by omega) (by omega)).trans (k.2 c (by unfold Aco; omega))) ((sm 6).tr s6) ((sm 7).tr s7))
theorem d_fault {g : cw_G} {M : cw_M} {f fl : Int → Int} {n : Int} (hS : Sh M) (hf : M 324 = f) (hW : WF n f fl) :
    mC g y_Mo_fault [.inr (.inr 319)] M (fun q M' => q = some (.inl (g_fault (g_of f))) ∧ RdM f M M' (g_of f)) := by
  subst hf
  have gb : in32 (g_fault (g_of (M 324))) := by
    have w := hW.1.2.1
    unfold in32
    cases h : g_of (M 324) with
    | inl e => have := of_eb w.1 h; show _ ≤ e ∧ e ≤ _; omega
    | inr T => show _ ≤ (-1 : Int) ∧ (-1 : Int) ≤ _; omega
  refine cw_C_of (L := [.inr (.inr 319)]) ok_Mo_fault (Nat.le_refl _) (Nat.le_of_ble_eq_true rfl) rfl ?_
  refine cw_J_hide ?_
  refine k_Mo_fault_0 _ _ _ _ _ _ _ _ ?_
  simp (disch := omega) only [↓w_nil, ↓w_cons, ↓w_ald0, ↓w_cv0, true_and, and_true, true_implies, false_implies, not_true_eq_false, not_false_eq_true, Int.reduceEq, Int.reduceLT, Int.reduceLE, Int.reduceNeg, w_c80, w_c8I, w_c8L, w_c8R, w_up1, w_up2, w_up3]
  repeat refine And.intro (by first | assumption | exact IsW.kt (by assumption) | omega | (unfold in32; omega) | (unfold in64; omega) | exact True.intro | exact Or.inl True.intro | exact Or.inr True.intro | rfl | exact Nat.le_of_ble_eq_true rfl) ?_
  try first | done | assumption | (unfold in32; omega) | (unfold in64; omega)
  refine ⟨_, p_Mo_reads hS hW, ?_⟩
  rintro q M1 ⟨rfl, h⟩
  refine k_Mo_fault_4 _ _ _ _ _ _ _ _ ?_
  simp (disch := omega) only [↓w_nil, ↓w_iret, true_and, and_true, true_implies, false_implies, not_true_eq_false, not_false_eq_true, Int.reduceEq, Int.reduceLT, Int.reduceLE, Int.reduceNeg, w_up1, w_up2, w_up3, w_tl1]
  try unfold cw_hide
  exact ⟨rfl, h⟩
theorem o_fault {g : cw_G} {n : Int} {M : cw_M} (hi : IV n M) : OP g y_Co_fault y_Mo_fault [] M (IV (n + 1)) := by
  have hW := hi.2.1.2
  refine cw_C_mono (p_Co_fault hi.1 hi.2.1.1 hW) ?_
  rintro r M1 ⟨rfl, h⟩
  obtain ⟨a1, a2, a3, a4, a5, a6⟩ := rd_ok hi.2.2.1.1 hi.2.1.1 hW h
  refine ⟨_, a5, rfl, cw_C_mono (d_fault a1 (cl_324 (aco_ac a4)).1 hW) ?_⟩
  rintro r2 M2 ⟨rfl, hF, hm⟩
  have ok := cl_mok hi (aco_ac a4)
  have hd : ∀ c : Int, ¬ (327 ≤ c ∧ c ≤ 330) → c ≠ 319 → M2 c = M1 c := fun c x y => by funext j; exact hF.2 c j x (by omega)
  refine ⟨rfl, iv_cm hi a4 a3 hF.1 (fun c j _ y z => hF.2 c j y z) ?_ (sr_of (fun c x y => hd c (by omega) (by omega)) 6) (sr_of (fun c x y => hd c (by omega) (by omega)) 7)⟩
  have w := hW.1
  unfold m_ok at ok ⊢
  rw [hF.2 319 18 (by omega) (by omega), hF.2 319 19 (by omega) (by omega)]
  refine ⟨?_, ok.2⟩
  rcases ok.1 with z | ⟨z, q⟩
  · exact Or.inl z
  · refine Or.inr ⟨z, ?_⟩
    rcases q with q | ⟨T, q1, q2, q3, q4, X, F, q5⟩
    · exact Or.inl q
    · refine Or.inr ⟨T, q1, q2, (hm T q1).1, fun p p0 p1 => by rw [hd 335 (by omega) (by omega)]; exact q4 p p0 p1, X, F, tp_mp T 1 (fun x j o1 o2 i l hB => ?_) q5⟩
      exact rAt_cg Ek.rf (by omega) (fun p hp => by have := (g_tk T q1).2.2.2 p (i p hp); omega) (fun a y => hd a (by omega) (by omega)) hB
/-- the two halves, and their limbs, are the same on both sides -/
theorem fra_hf {M : cw_M} (h : Fra M) {u w : Int} (hw : Hf u w) : ∃ n : Nat, n ≤ 16 ∧ M w 1 = n ∧ M 321 (6 + u) = n ∧ ∀ j : Int, 0 ≤ j → j < n → M (w + 1) j = cw_rd M (6 + u) j ∧ 0 ≤ cw_rd M (6 + u) j ∧ cw_rd M (6 + u) j < 1073741824 := by
  obtain ⟨a, b, q, r, _⟩ := h
  rcases hw with ⟨rfl, rfl⟩ | ⟨rfl, rfl⟩
  · exact rw_rm q.1 r.1
  · exact rw_rm q.2 r.2
theorem hf_u {u : Int} (h : 0 ≤ u ∧ u ≤ 1) : ∃ w, Hf u w := by
  rcases (show u = 0 ∨ u = 1 by omega) with q | q
  · exact ⟨280, Or.inl ⟨q, rfl⟩⟩
  · exact ⟨282, Or.inr ⟨q, rfl⟩⟩
theorem hf_b {u w : Int} (h : Hf u w) : 0 ≤ u ∧ u ≤ 1 := by rcases h with ⟨rfl, _⟩ | ⟨rfl, _⟩ <;> omega
theorem hf_un {u w w' : Int} (h : Hf u w) (k : Hf u w') : w = w' := by unfold Hf at h k; omega
theorem o_limbs {g : cw_G} {n u : Int} {M : cw_M} (hi : IV n M) (hu : in32 u) : OP g y_Co_limbs y_Mo_limbs [.inl u] M (IV (n + 1)) := by
  have hF := hi.2.2.2.1
  refine cw_C_mono (c_limbs hi.1 hu (fun w hw => by obtain ⟨k, k1, k2, _⟩ := fra_hf hF hw; omega)) ?_
  rintro r M1 ⟨hr, rfl⟩
  have dd := d_limbs (g := g) hi.1 hu (fun u0 u1 => by
    obtain ⟨w, hw⟩ := hf_u ⟨u0, u1⟩
    obtain ⟨k, k1, k2, k3, _⟩ := fra_hf hF hw; omega)
  rcases hr with ⟨hc, rfl⟩ | ⟨w, hw, rfl⟩
  · refine ⟨-2, by unfold in32; omega, rfl, cw_C_mono dd ?_⟩
    rintro r2 M2 ⟨⟨_, rfl⟩ | ⟨hc2, rfl⟩, rfl⟩
    · exact ⟨rfl, hi.mo⟩
    · exact absurd hc2 hc
  · obtain ⟨k, k1, k2, k3, _⟩ := fra_hf hF hw
    refine ⟨_, by unfold in32; omega, rfl, cw_C_mono dd ?_⟩
    rintro r2 M2 ⟨⟨hc2, rfl⟩ | ⟨hc2, rfl⟩, rfl⟩
    · exact absurd (hf_b hw) hc2
    · exact ⟨by rw [k2, k3], hi.mo⟩
theorem o_limb {g : cw_G} {n u j : Int} {M : cw_M} (hi : IV n M) (hu : in32 u) (hj : in32 j) : OP g y_Co_limb y_Mo_limb [.inl u, .inl j] M (IV (n + 1)) := by
  have hF := hi.2.2.2.1
  refine cw_C_mono (c_limb hi.1 hu hj (fun w hw => by
    obtain ⟨k, k1, k2, k3, k4⟩ := fra_hf hF hw
    refine ⟨by omega, fun j0 j1 => ?_⟩
    have := k4 j j0 (by omega)
    rw [this.1]; unfold in32; omega)) ?_
  rintro r M1 ⟨hr, rfl⟩
  have dd := d_limb (g := g) hi.1 hu hj (fun u0 u1 => by
    obtain ⟨w, hw⟩ := hf_u ⟨u0, u1⟩
    obtain ⟨k, k1, k2, k3, k4⟩ := fra_hf hF hw
    refine ⟨by omega, fun j0 j1 => ?_⟩
    have := k4 j j0 (by omega)
    unfold in32; omega)
  rcases hr with ⟨hc, rfl⟩ | ⟨j0, w, hw, hr⟩
  · refine ⟨-2, by unfold in32; omega, rfl, cw_C_mono dd ?_⟩
    rintro r2 M2 ⟨⟨_, rfl⟩ | ⟨hc2, _⟩, rfl⟩
    · exact ⟨rfl, hi.mo⟩
    · exact absurd hc2 hc
  · obtain ⟨k, k1, k2, k3, k4⟩ := fra_hf hF hw
    rcases hr with ⟨hl, rfl⟩ | ⟨hl, rfl⟩
    · refine ⟨-1, by unfold in32; omega, rfl, cw_C_mono dd ?_⟩
      rintro r2 M2 ⟨⟨hc2, rfl⟩ | ⟨hc2, ⟨hl2, rfl⟩ | ⟨hl2, rfl⟩⟩, rfl⟩
      · exact absurd ⟨hf_b hw, j0⟩ hc2
      · exact ⟨rfl, hi.mo⟩
      · omega
    · have e := k4 j j0 (by omega)
      refine ⟨_, by rw [e.1]; unfold in32; omega, rfl, cw_C_mono dd ?_⟩
      rintro r2 M2 ⟨⟨hc2, rfl⟩ | ⟨hc2, ⟨hl2, rfl⟩ | ⟨hl2, rfl⟩⟩, rfl⟩
      · exact absurd ⟨hf_b hw, j0⟩ hc2
      · omega
      · exact ⟨by rw [e.1], hi.mo⟩
/-- a call that answers a long -/
def OPL (g : cw_G) (yC yR : cw_Y) (as : List cw_V) (M : cw_M) (P : cw_M → Prop) : Prop :=
  mC g yC (.inr (.inr 0) :: as) M (fun r M1 => ∃ v, in64 v ∧ r = some (.inr (.inl v)) ∧ mC g yR (.inr (.inr 319) :: as) M1 (fun r2 M2 => r2 = some (.inr (.inl v)) ∧ P M2))
theorem fl_64 {a b : Int} : in64 (cw_fl a b) := by unfold in64 cw_fl; omega
theorem o_floor {g : cw_G} {n : Int} {M : cw_M} (hi : IV n M) : OPL g y_Co_floor y_Mo_floor [] M (IV (n + 1)) := by
  obtain ⟨a, b, q, r, b0, ba, bb⟩ := id hi.2.2.2.1
  refine cw_C_mono (c_floor hi.1 q b0 ba) ?_
  rintro r1 M1 ⟨rfl, q1, fr⟩
  have F1 : Fg Ac M M1 := (fg_fr hi.1 fr).mo (fun c h => by have h : 279 + 5 ≤ c ∧ c ≤ 279 + 12 := h; unfold Ac; omega)
  have out : ∀ c : Int, ¬ (284 ≤ c ∧ c ≤ 291) → M1 c = M c := fun c hc => fr.1 c (fun h => by have h : 279 + 5 ≤ c ∧ c ≤ 279 + 12 := h; omega)
  have sm : ∀ j, sR M M1 j := sr_of (fun c x y => out c (by omega))
  refine ⟨cw_fl a b, fl_64, rfl, cw_C_mono (d_floor F1.1 (r.1.sm (sm 6)) (r.2.sm (sm 7)) b0 ?_) ?_⟩
  · have : (1073741824 : Int) ^ 15 ≤ 1073741824 ^ 29 := by decide
    unfold cw_ab; rw [if_pos (by omega)]; omega
  · rintro r2 M2 ⟨rfl, h2⟩
    have s2 : ∀ j, (j = 6 ∨ j = 7) → sR M1 M2 j := fun j hj => sr_rf h2 (by unfold IR; omega) (by omega)
    have kp : Kp M1 := fun p p0 p1 => by rw [out 167 (by omega)]; exact hi.2.2.1.1 p p0 p1
    have ok : m_ok (M 324) M2 := mok_rf (cl_mok hi F1) h2 (fun s hs => by omega) g_tk
    exact ⟨rfl, iv_fr hi F1 kp (gq_rf F1.1 h2) ok ⟨a, b, q1.cg (fun c x y => h2.1 c (by omega)), ⟨(r.1.sm (sm 6)).sm (s2 6 (by omega)), (r.2.sm (sm 7)).sm (s2 7 (by omega))⟩, b0, ba, bb⟩⟩
