/-! the class: settle, the sure way and the whole -/
theorem ab_rng {v b : Int} (h : -b ≤ v ∧ v ≤ b) : cw_ab v ≤ b := by unfold cw_ab; split <;> omega
theorem up_w {f fl : Int → Int} {n p k w : Int} (hW : WF n f fl) (h0 : 0 ≤ p) (h : p < f 0 ∧ f (10 + 12 * p) = 0) (hw : 0 < w ∧ w ≤ 13254776280841401) : -132547762808414010000 ≤ w * l_up f p k ∧ w * l_up f p k ≤ 132547762808414010000 := by
  have b := up_b (k := k) hW h0 h
  have a1 := Int.mul_le_mul_of_nonneg_left b.2 (show 0 ≤ w by omega)
  have a2 := Int.mul_le_mul_of_nonneg_left b.1 (show 0 ≤ w by omega)
  omega
theorem ex_b {f fl X : Int → Int} {n p l k w : Int} (hW : WF n f fl) (h0 : 0 ≤ p) (hw : 0 < w ∧ w ≤ 13254776280841401) (hx : -849000000000000000000000 ≤ X p ∧ X p ≤ 849000000000000000000000) : cw_ab (l_ex f p l k w (X p)) < 1073741824 ^ 3 := by
  have e : (1073741824 : Int) ^ 3 = 1237940039285380274899124224 := by decide
  rw [e]
  refine ab_lt ?_
  unfold l_ex
  split
  · omega
  · rename_i q
    have q2 : p < f 0 ∧ f (10 + 12 * p) = 0 := Classical.byContradiction (fun z => q (Or.inr (Or.inl z)))
    have := up_w (k := k) hW h0 q2 hw
    omega
theorem st_sure {g : cw_G} {M0 M : cw_M} {t i w : Int} {f fl X F : Int → Int} {n : Int} {T : Tr} {z : cw_V} (hR : RelS 1 f fl M) (hW : WF n f fl) (ht : 0 ≤ t ∧ t < 24) (h0 : Fg Ay M0 M) (h : st_ok f T M) (ha : st_at f t T (M 167) M w X F) (hc : l_sf f t T (M 167))
    (nx : ∀ (M2 : cw_M) (z : cw_V), Fg Ay M0 M2 → st_ok f T M2 → l_sf f t T (M2 167) → s_7 (M2 167) = s_7 (M 167) + 1 → mJ g y_Re_settle 212 [.inr (.inr 148), .inr (.inr 2), .inr (.inr 141), .inl t, .inl i, z] [] M2 (st_Q f t T M0)) :
    mJ g y_Re_settle 162 [.inr (.inr 148), .inr (.inr 2), .inr (.inr 141), .inl t, .inl i, z] [] M (st_Q f t T M0) := by
  have hS := h0.1
  obtain ⟨⟨a1, a2⟩, a3, a4, a5, ⟨f0, a6⟩, a7, a8, a9, a10⟩ := id ha
  obtain ⟨h1, ⟨p1, p2, p3, p4⟩, h3, h4, h5, h6, h7, h8⟩ := id h
  have lf := st_lf h
  have hs : s_ok (l_sp f t (M 167)) := sp_ok hW ht h6
  have he : e_ok (l_ep f t (M 167)) := ep_ok hW ht h6 (fun p q0 q1 => by
    by_cases q : f (10 + 12 * p) = 0
    · exact Or.inl q
    · exact Or.inr (h7 p q0 (by have := hW.1.1; omega) (fun z => q z.2)))
  have w0 := hW.1.1
  have hT : ∀ q, t_in T q → 0 ≤ q ∧ q < f 0 := fun q hq => ⟨(h4 q hq).1, (h4 q hq).2.1⟩
  have es : ∀ p, t_in T p → l_sp f t (M 167) p = l_s f t p (M 167 p) := fun p hp => if_pos (hT p hp).2
  have a7' : ∀ p, t_in T p → F p = l_sp f t (M 167) p * X p + l_o f p (M 167 p) * w := fun p hp => by rw [es p hp]; exact a7 p hp
  have lb : ∀ p : Int, 0 ≤ p → p < 7 → -1 ≤ M 145 p ∧ M 145 p < 13 := fun p q0 q1 => by
    by_cases q : M 145 p = -1
    · omega
    · have := lf p (Classical.byContradiction (fun z => q ((h3 p q0 q1).mpr z))); omega
  have xb : ∀ p : Int, 0 ≤ p → p < 7 → cw_ab (X p) < 1073741824 ^ 15 := fun p q0 q1 => by
    have b := (a3 p q0 q1).2
    have := ab_rng (b := 849000000000000000000000) b
    have e : (849000000000000000000000 : Int) < 1073741824 ^ 15 := by decide
    omega
  refine k_Re_settle_162 _ _ _ _ _ _ _ _ ?_
  simp (disch := omega) only [↓w_nil, ↓w_cons, ↓w_ic, ↓w_goto, true_and, and_true, true_implies, false_implies, not_true_eq_false, not_false_eq_true, Int.reduceEq, Int.reduceLT, Int.reduceLE, Int.reduceNeg, w_up1, w_up2, w_up3]
  repeat refine And.intro (by first | assumption | exact IsW.kt (by assumption) | omega | (unfold in32; omega) | (unfold in64; omega) | exact True.intro | exact Or.inl True.intro | exact Or.inr True.intro | rfl | exact Nat.le_of_ble_eq_true rfl) ?_
  try first | done | assumption | (unfold in32; omega) | (unfold in64; omega)
  refine k_Re_settle_167 _ _ _ _ _ _ _ _ ?_
  simp (disch := omega) only [↓w_nil, ↓w_cons, ↓w_ist5, ↓w_ild5, ↓w_ifeq, true_and, and_true, true_implies, false_implies, not_true_eq_false, not_false_eq_true, Int.reduceEq, Int.reduceLT, Int.reduceLE, Int.reduceNeg, w_nlI, w_nlL, w_nlR, w_up1, w_up2, w_up3]
  repeat refine And.intro (by first | assumption | exact IsW.kt (by assumption) | omega | (unfold in32; omega) | (unfold in64; omega) | exact True.intro | exact Or.inl True.intro | exact Or.inr True.intro | rfl | exact Nat.le_of_ble_eq_true rfl) ?_
  try first | done | assumption | (unfold in32; omega) | (unfold in64; omega)
  refine k_Re_settle_174 _ _ _ _ _ _ _ _ ?_
  simp (disch := omega) only [↓w_nil, ↓w_cons, ↓w_ald0, ↓w_ald1, ↓w_cv1, true_and, and_true, true_implies, false_implies, not_true_eq_false, not_false_eq_true, Int.reduceEq, Int.reduceLT, Int.reduceLE, Int.reduceNeg, w_c80, w_c8I, w_c8L, w_c8R, w_up1, w_up2, w_up3]
  repeat refine And.intro (by first | assumption | exact IsW.kt (by assumption) | omega | (unfold in32; omega) | (unfold in64; omega) | exact True.intro | exact Or.inl True.intro | exact Or.inr True.intro | rfl | exact Nat.le_of_ble_eq_true rfl) ?_
  try first | done | assumption | (unfold in32; omega) | (unfold in64; omega)
  refine ⟨_, p_Re_isBeyond hS hR hW h1 a1 ⟨by omega, a2.2⟩ (fun p q0 q1 => (a3 p q0 q1).1) xb lb h6, ?_⟩
  rintro q M2 ⟨c, rfl, hc01, hci, F2, e2⟩
  have k2 : ∀ a : Int, a < 254 → M2 a = M a := fun a q => F2.2 a (fun y => by have y : 254 ≤ a ∧ a ≤ 269 := y; omega)
  have F02 : Fg Ay M0 M2 := h0.tr (F2.mo (fun a y => by have y : 254 ≤ a ∧ a ≤ 269 := y; show 148 ≤ a ∧ a ≤ 275; omega))
  have hS2 := F2.1
  have ok2 : st_ok f T M2 := st_cg h (fun a q => k2 a (by omega)) (fun p q0 q1 q => (h8 p q0 q1 q).cg (k2 _ (by omega)) (k2 _ (by omega)))
  have c32 : in32 c := by unfold in32; omega
  have exl : ∀ p, t_in T p → f (10 + 12 * p) = 0 → M 167 p ≠ 2 → l_ex f p (M 145 p) (M 167 p) w (X p) = X p - w * l_up f p (M 167 p) := fun p hp hg hk => by
    have := lf p hp
    have q := hT p hp
    refine if_neg (fun z => ?_)
    rcases z with z | z | z
    · omega
    · exact z ⟨q.2, hg⟩
    · exact hk z
  refine k_Re_settle_179 _ _ _ _ _ _ _ _ ?_
  simp (disch := omega) only [↓w_nil, ↓w_ifne, true_and, and_true, true_implies, false_implies, not_true_eq_false, not_false_eq_true, Int.reduceEq, Int.reduceLT, Int.reduceLE, Int.reduceNeg, w_up1, w_up2, w_up3, w_tl1]
  repeat refine And.intro (by first | assumption | exact IsW.kt (by assumption) | omega | (unfold in32; omega) | (unfold in64; omega) | exact True.intro | exact Or.inl True.intro | exact Or.inr True.intro | rfl | exact Nat.le_of_ble_eq_true rfl) ?_
  try first | done | assumption | (unfold in32; omega) | (unfold in64; omega)
  refine ⟨fun hn => ?_, fun hn => ?_⟩
  · have c1 : c = 1 := by omega
    obtain ⟨b0, hb0, hbe⟩ := hci.mp c1
    refine k_Re_settle_194 _ _ _ _ _ _ _ _ ?_
    simp (disch := omega) only [↓w_nil, ↓w_cons, ↓w_ild5, ↓w_ifne, true_and, and_true, true_implies, false_implies, not_true_eq_false, not_false_eq_true, Int.reduceEq, Int.reduceLT, Int.reduceLE, Int.reduceNeg, w_up1, w_up2, w_up3]
    repeat refine And.intro (by first | assumption | exact IsW.kt (by assumption) | omega | (unfold in32; omega) | (unfold in64; omega) | exact True.intro | exact Or.inl True.intro | exact Or.inr True.intro | rfl | exact Nat.le_of_ble_eq_true rfl) ?_
    try first | done | assumption | (unfold in32; omega) | (unfold in64; omega)
    refine k_Re_settle_202 _ _ _ _ _ _ _ _ ?_
    simp (disch := omega) only [↓w_nil, ↓w_cons, ↓w_ald0, ↓w_ic, ↓w_cv1, true_and, and_true, true_implies, false_implies, not_true_eq_false, not_false_eq_true, Int.reduceEq, Int.reduceLT, Int.reduceLE, Int.reduceNeg, w_c80, w_c8I, w_c8L, w_c8R, w_up1, w_up2, w_up3]
    repeat refine And.intro (by first | assumption | exact IsW.kt (by assumption) | omega | (unfold in32; omega) | (unfold in64; omega) | exact True.intro | exact Or.inl True.intro | exact Or.inr True.intro | rfl | exact Nat.le_of_ble_eq_true rfl) ?_
    try first | done | assumption | (unfold in32; omega) | (unfold in64; omega)
    have hd2 : t_dc (M2 142) (M2 143) (M2 144) (M2 145) T 0 := by rw [k2 142 (by omega), k2 143 (by omega), k2 144 (by omega), k2 145 (by omega)]; exact p3
    have va2 : m_va M2 (l_sp f t (M 167)) (l_ep f t (M 167)) T 0 := va_k (M := M) (hi := 13) (fun j j0 j1 => ⟨by rw [k2 170 (by omega)], by rw [k2 171 (by omega)], k2 _ (by omega), k2 _ (by omega)⟩) (Int.le_refl 0) (by omega) a10
    refine ⟨_, p_Re_shareDown (ws := 0) hS2 (by rw [k2 148 (by omega)]; exact h1) (by rw [k2 141 (by omega)]; exact p1) p2 hs he (Or.inl rfl) hd2 p4 va2, ?_⟩
    rintro q M3 ⟨rfl, F3, r3, ds⟩
    have hS3 := F3.1
    rw [e_w0, if_neg (by omega)] at ds
    have k3 : ∀ a : Int, a < 200 → a ≠ 149 → a ≠ 150 → M3 a = M a := fun a q q1 q2 => by
      rw [F3.2 a (fun z => by have z : a = 149 ∨ a = 150 ∨ ((200 ≤ a ∧ a < 226) ∨ (227 ≤ a ∧ a < 253) ∨ (268 ≤ a ∧ a ≤ 275)) := z; omega), k2 a (by omega)]
    have k3e : ∀ a : Int, 253 ≤ a → a < 268 → M3 a = M2 a := fun a q q1 => F3.2 a (fun z => by have z : a = 149 ∨ a = 150 ∨ ((200 ≤ a ∧ a < 226) ∨ (227 ≤ a ∧ a < 253) ∨ (268 ≤ a ∧ a ≤ 275)) := z; omega)
    have hd3 : t_dc (M3 142) (M3 143) (M3 144) (M3 145) T 0 := by rw [k3 142 (by omega) (by omega) (by omega), k3 143 (by omega) (by omega) (by omega), k3 144 (by omega) (by omega) (by omega), k3 145 (by omega) (by omega) (by omega)]; exact p3
    have F03 : Fg Ay M0 M3 := F02.tr (F3.mo (fun a y => by have y : a = 149 ∨ a = 150 ∨ ((200 ≤ a ∧ a < 226) ∨ (227 ≤ a ∧ a < 253) ∨ (268 ≤ a ∧ a ≤ 275)) := y; show 148 ≤ a ∧ a ≤ 275; omega))
    have hR3 : RelS 1 f fl M3 := hR.cg (fun a q0 q1 => k3 a (by omega) (by omega) (by omega))
    have sv := ds_sv T 0 0 1 1 hd3 ds
    have rw3 := ds_rw T 0 0 1 1 (Int.le_refl 0) hd3 ds
    have bd3 := ds_bd hs (show e_ok (fun _ => 0) from fun p _ _ => by show -8000000 ≤ (0 : Int) ∧ (0 : Int) ≤ 8000000; omega) T 0 0 1 1 1 1 p4 hd3 ds (en_1 (Or.inr rfl)) (en_z p2) (en_k p2)
    have ps3 := sv_pos hs (fun _ => rfl) T 0 1 1 p4 sv (Int.le_refl 1)
    have e145 : M3 145 = M 145 := k3 145 (by omega) (by omega) (by omega)
    have e167 : M3 167 = M 167 := k3 167 (by omega) (by omega) (by omega)
    have pos : ∀ p : Int, 0 ≤ p → p < f 0 → 0 < l_ex f p (M 145 p) (M 167 p) w (X p) → t_in T p ∧ f (10 + 12 * p) = 0 ∧ M 167 p ≠ 2 := fun p q0 q1 q => by
      unfold l_ex at q
      split at q
      · omega
      · rename_i z
        refine ⟨Classical.byContradiction (fun y => z (Or.inl ((h3 p q0 (by omega)).mpr y))), Classical.byContradiction (fun y => z (Or.inr (Or.inl (fun x => y x.2)))), fun y => z (Or.inr (Or.inr y))⟩
    refine k_Re_settle_207 _ _ _ _ _ _ _ _ ?_
    simp (disch := omega) only [↓w_nil, ↓w_cons, ↓w_ald0, ↓w_ald1, ↓w_cv1, true_and, and_true, true_implies, false_implies, not_true_eq_false, not_false_eq_true, Int.reduceEq, Int.reduceLT, Int.reduceLE, Int.reduceNeg, w_c80, w_c8I, w_c8L, w_c8R, w_up1, w_up2, w_up3, w_tl0]
    repeat refine And.intro (by first | assumption | exact IsW.kt (by assumption) | omega | (unfold in32; omega) | (unfold in64; omega) | exact True.intro | exact Or.inl True.intro | exact Or.inr True.intro | rfl | exact Nat.le_of_ble_eq_true rfl) ?_
    try first | done | assumption | (unfold in32; omega) | (unfold in64; omega)
    refine ⟨_, p_Re_leaveFirst (E := fun p => l_ex f p (M 145 p) (M 167 p) w (X p)) (D := fun p => cw_vl M3 (227 + 2 * M3 145 p)) hS3 hR3 hW (by rw [k3 148 (by omega) (by omega) (by omega)]; exact h1) (fun p q0 q1 => ⟨(e2 p q0 q1).cg (k3e _ (by omega) (by omega)) (k3e _ (by omega) (by omega)), ex_b hW q0 a2 (a3 p q0 (by omega)).2⟩) (fun p q0 q1 q => ?_) (by rw [e167]; exact h6), ?_⟩
    · have hp := (pos p q0 q1 q).1
      have b := (bd3 p hp).1
      refine ⟨by rw [e145]; exact lf p hp, (rw3 p hp).2.2.1, ?_, by have := ps3 p hp; omega⟩
      have := ab_rng (b := 848305681973849664000000) b
      have e : (848305681973849664000000 : Int) < 1073741824 ^ 3 := by decide
      exact Int.lt_of_le_of_lt this e
    · rintro q M4 ⟨rfl, F4, h4'⟩
      rcases h4' with ⟨z, -⟩ | ⟨b, hb, hE, hm, u1, u2⟩
      · exact absurd (z b0 hb0.1 hb0.2) (by omega)
      · obtain ⟨bT, bg, bk⟩ := pos b hb.1 hb.2 hE
        have kb := h6 b hb.1 (by omega)
        have k4 : ∀ a : Int, a ≠ 167 → a < 268 → M4 a = M3 a := fun a q q1 => F4.2 a (fun z => by have z : a = 167 ∨ (268 ≤ a ∧ a ≤ 273) := z; omega)
        have F04 : Fg Ay M0 M4 := F03.tr (F4.mo (fun a y => by have y : a = 167 ∨ (268 ≤ a ∧ a ≤ 273) := y; show 148 ≤ a ∧ a ≤ 275; omega))
        rw [e167] at u1 u2
        have nt := sv_nt T _ _ _ sv
        have e1 : (t_pq (l_sp f t (M 167)) T).2 * 1 - 0 * t_r (l_sp f t (M 167)) (fun _ => 0) T = w := by rw [a9]; omega
        rw [e1] at nt
        have cu := su_step (k' := M4 167) hW hT hs p4 a2.1 es a6 a7' hc nt (fun p hp => by
          rw [sv_leaf T _ _ _ sv p hp]; omega) ps3 bT bg ⟨kb.1, by omega⟩ (by rw [← exl b bT bg bk]; exact hE) (fun p hp hg => by
          by_cases q : M 167 p = 2
          · exact Or.inl q
          · refine Or.inr ?_
            rw [← exl p hp hg q, ← exl b bT bg bk]
            by_cases q2 : 0 < l_ex f p (M 145 p) (M 167 p) w (X p)
            · exact Or.inr (hm p (hT p hp).1 (hT p hp).2 q2)
            · rw [exl p hp hg q] at q2; exact Or.inl (by omega)) ⟨u1, u2⟩
        have ok4 : st_ok f T M4 := by
          unfold st_ok Pt
          have y : ∀ a : Int, a < 149 → M4 a = M a := fun a q => by rw [k4 a (by omega) (by omega), k3 a (by omega) (by omega) (by omega)]
          rw [y 148 (by omega), y 141 (by omega), y 142 (by omega), y 143 (by omega), y 144 (by omega), y 145 (by omega), k4 166 (by omega) (by omega), k3 166 (by omega) (by omega) (by omega)]
          refine ⟨h1, ⟨p1, p2, p3, p4⟩, h3, h4, h5, fun p q0 q1 => ?_, fun p q0 q1 q => ?_, fun p q0 q1 q => (h8 p q0 q1 q).cg (by rw [k4 _ (by omega) (by omega), k3 _ (by omega) (by omega) (by omega)]) (by rw [k4 _ (by omega) (by omega), k3 _ (by omega) (by omega) (by omega)])⟩
          · by_cases c : p = b
            · rw [c, u1]; omega
            · rw [u2 p c]; exact h6 p q0 q1
          · rw [u2 p (fun c => q (by rw [c]; exact ⟨hb.2, bg⟩))]; exact h7 p q0 q1 q
        simp only [w_tl0]
        exact nx M4 _ F04 ok4 (Or.inr cu) (s7_up ⟨hb.1, by omega⟩ ⟨u1, u2⟩)
  · have hu : ∀ p, t_in T p → f (10 + 12 * p) = 0 → M 167 p = 2 ∨ X p ≤ w * l_up f p (M 167 p) := fun p hp hg => by
      by_cases q : M 167 p = 2
      · exact Or.inl q
      · refine Or.inr ?_
        have := exl p hp hg q
        have : ¬ 0 < l_ex f p (M 145 p) (M 167 p) w (X p) := fun y => by
          have := hci.mpr ⟨p, hT p hp, y⟩
          omega
        omega
    have dn := su_done hs p4 a2.1 es a6 a7' hc hu
    refine k_Re_settle_182 _ _ _ _ _ _ _ _ ?_
    simp (disch := omega) only [↓w_nil, ↓w_goto, true_and, and_true, true_implies, false_implies, not_true_eq_false, not_false_eq_true, Int.reduceEq, Int.reduceLT, Int.reduceLE, Int.reduceNeg, w_up1, w_up2, w_up3]
    repeat refine And.intro (by first | assumption | exact IsW.kt (by assumption) | omega | (unfold in32; omega) | (unfold in64; omega) | exact True.intro | exact Or.inl True.intro | exact Or.inr True.intro | rfl | exact Nat.le_of_ble_eq_true rfl) ?_
    try first | done | assumption | (unfold in32; omega) | (unfold in64; omega)
    refine k_Re_settle_193 _ _ _ _ _ _ _ _ ?_
    simp (disch := omega) only [↓w_nil, ↓w_vret, true_and, and_true, true_implies, false_implies, not_true_eq_false, not_false_eq_true, Int.reduceEq, Int.reduceLT, Int.reduceLE, Int.reduceNeg, w_up1, w_up2, w_up3]
    repeat refine And.intro (by first | assumption | exact IsW.kt (by assumption) | omega | (unfold in32; omega) | (unfold in64; omega) | exact True.intro | exact Or.inl True.intro | exact Or.inr True.intro | rfl | exact Nat.le_of_ble_eq_true rfl) ?_
    try first | done | assumption | (unfold in32; omega) | (unfold in64; omega)
    have e167 : M2 167 = M 167 := k2 167 (by omega)
    refine ⟨w, X, F, ok2, ?_, ?_⟩
    · rw [e167]; exact at_cg ha p2 lf (fun a q => k2 a (by omega))
    · rw [e167]; exact dn
theorem p_Re_settle {g : cw_G} {M : cw_M} {t : Int} {f fl : Int → Int} {n : Int} {T : Tr} (hS : Sh M) (hR : RelS 1 f fl M) (hW : WF n f fl) (ht : 0 ≤ t ∧ t < 24) (hP : Pt M T) (hl : ∀ p : Int, 0 ≤ p → p < 7 → (M 145 p = -1 ↔ ¬ t_in T p)) (hT : ∀ q : Int, t_in T q → 0 ≤ q ∧ q < f 0 ∧ q < 7) (hk : ∀ p : Int, 0 ≤ p → p < 7 → -2 ≤ M 167 p ∧ M 167 p ≤ 2) :
    mC g y_Re_settle [.inr (.inr 148), .inr (.inr 2), .inr (.inr 141), .inl t] M (st_Q f t T M) := by
  have w0 := hW.1.1
  have loop : ∀ (d : Nat) (i : Int) (M1 : cw_M) (z : cw_V), i + d = 64 → 0 ≤ i → Fg Ay M M1 → st_ok f T M1 → (8 < i → l_sf f t T (M1 167) ∧ i - 22 ≤ s_7 (M1 167)) →
      mJ g y_Re_settle 79 [.inr (.inr 148), .inr (.inr 2), .inr (.inr 141), .inl t, .inl i, z] [] M1 (st_Q f t T M) := by
    intro d
    induction d with
    | zero =>
      intro i M1 z hi h0 hF hk hc
      have := (hc (by omega)).2
      have := s7_b hk.2.2.2.2.2.1
      omega
    | succ d ih =>
      intro i M1 z hi h0 hF hk hc
      have hS1 := hF.1
      have hR1 := fg_rel hF (fun a h => by have h : 148 ≤ a ∧ a ≤ 275 := h; omega) hR
      have fin : ∀ (M2 : cw_M), Fg Ay M M2 → st_ok f T M2 → (8 ≤ i → l_sf f t T (M2 167) ∧ i - 22 ≤ s_7 (M2 167)) → mJ g y_Re_settle 98 [.inr (.inr 148), .inr (.inr 2), .inr (.inr 141), .inl t, .inl i, z] [] M2 (st_Q f t T M) := by
        intro M2 F2 k2 c2
        have hR2 := fg_rel F2 (fun a h => by have h : 148 ≤ a ∧ a ≤ 275 := h; omega) hR
        refine st_round F2.1 hR2 hW ht k2 (fun M3 w X F F3 k3 e3 a3 => ?_)
        have F03 : Fg Ay M M3 := F2.tr (F3.mo (fun a y => by have y : (149 ≤ a ∧ a ≤ 275) ∧ a ≠ 166 ∧ a ≠ 167 := y; show 148 ≤ a ∧ a ≤ 275; omega))
        have hR3 := fg_rel F03 (fun a h => by have h : 148 ≤ a ∧ a ≤ 275 := h; omega) hR
        rw [← e3] at a3 c2
        refine k_Re_settle_155 _ _ _ _ _ _ _ _ ?_
        simp (disch := omega) only [↓w_nil, ↓w_cons, ↓w_ild4, ↓w_ic, ↓w_iclt, true_and, and_true, true_implies, false_implies, not_true_eq_false, not_false_eq_true, Int.reduceEq, Int.reduceLT, Int.reduceLE, Int.reduceNeg, w_up1, w_up2, w_up3]
        repeat refine And.intro (by first | assumption | exact IsW.kt (by assumption) | omega | (unfold in32; omega) | (unfold in64; omega) | exact True.intro | exact Or.inl True.intro | exact Or.inr True.intro | rfl | exact Nat.le_of_ble_eq_true rfl) ?_
        try first | done | assumption | (unfold in32; omega) | (unfold in64; omega)
        refine ⟨fun hc8 => ?_, fun hc8 => ?_⟩
        · refine st_guess hR3 hW F03 k3 a3 (fun M4 z4 F4 k4 => ?_)
          refine k_Re_settle_212 _ _ _ _ _ _ _ _ ?_
          simp (disch := omega) only [↓w_nil, ↓w_cons, ↓w_inc4, ↓w_goto, true_and, and_true, true_implies, false_implies, not_true_eq_false, not_false_eq_true, Int.reduceEq, Int.reduceLT, Int.reduceLE, Int.reduceNeg, w_nlI, w_nlL, w_nlR, w_up1, w_up2, w_up3]
          repeat refine And.intro (by first | assumption | exact IsW.kt (by assumption) | omega | (unfold in32; omega) | (unfold in64; omega) | exact True.intro | exact Or.inl True.intro | exact Or.inr True.intro | rfl | exact Nat.le_of_ble_eq_true rfl) ?_
          try first | done | assumption | (unfold in32; omega) | (unfold in64; omega)
          exact ih (i + 1) M4 z4 (by omega) (by omega) F4 k4 (fun q => by omega)
        · have c8 := c2 (by omega)
          refine st_sure hR3 hW ht F03 k3 a3 c8.1 (fun M4 z4 F4 k4 l4 s4 => ?_)
          refine k_Re_settle_212 _ _ _ _ _ _ _ _ ?_
          simp (disch := omega) only [↓w_nil, ↓w_cons, ↓w_inc4, ↓w_goto, true_and, and_true, true_implies, false_implies, not_true_eq_false, not_false_eq_true, Int.reduceEq, Int.reduceLT, Int.reduceLE, Int.reduceNeg, w_nlI, w_nlL, w_nlR, w_up1, w_up2, w_up3]
          repeat refine And.intro (by first | assumption | exact IsW.kt (by assumption) | omega | (unfold in32; omega) | (unfold in64; omega) | exact True.intro | exact Or.inl True.intro | exact Or.inr True.intro | rfl | exact Nat.le_of_ble_eq_true rfl) ?_
          try first | done | assumption | (unfold in32; omega) | (unfold in64; omega)
          exact ih (i + 1) M4 z4 (by omega) (by omega) F4 k4 (fun q => ⟨l4, by omega⟩)
      refine k_Re_settle_79 _ _ _ _ _ _ _ _ ?_
      simp (disch := omega) only [↓w_nil, ↓w_cons, ↓w_ild4, ↓w_ic, ↓w_icge, true_and, and_true, true_implies, false_implies, not_true_eq_false, not_false_eq_true, Int.reduceEq, Int.reduceLT, Int.reduceLE, Int.reduceNeg, w_up1, w_up2, w_up3]
      repeat refine And.intro (by first | assumption | exact IsW.kt (by assumption) | omega | (unfold in32; omega) | (unfold in64; omega) | exact True.intro | exact Or.inl True.intro | exact Or.inr True.intro | rfl | exact Nat.le_of_ble_eq_true rfl) ?_
      try first | done | assumption | (unfold in32; omega) | (unfold in64; omega)
      intro _
      refine k_Re_settle_86 _ _ _ _ _ _ _ _ ?_
      simp (disch := omega) only [↓w_nil, ↓w_cons, ↓w_ild4, ↓w_ic, ↓w_icne, true_and, and_true, true_implies, false_implies, not_true_eq_false, not_false_eq_true, Int.reduceEq, Int.reduceLT, Int.reduceLE, Int.reduceNeg, w_up1, w_up2, w_up3]
      repeat refine And.intro (by first | assumption | exact IsW.kt (by assumption) | omega | (unfold in32; omega) | (unfold in64; omega) | exact True.intro | exact Or.inl True.intro | exact Or.inr True.intro | rfl | exact Nat.le_of_ble_eq_true rfl) ?_
      try first | done | assumption | (unfold in32; omega) | (unfold in64; omega)
      refine ⟨fun hn => ?_, fun hn => ?_⟩
      · exact fin M1 hF hk (fun q => hc (by omega))
      · refine k_Re_settle_93 _ _ _ _ _ _ _ _ ?_
        simp (disch := omega) only [↓w_nil, ↓w_cons, ↓w_ald0, ↓w_ald1, ↓w_cv1, true_and, and_true, true_implies, false_implies, not_true_eq_false, not_false_eq_true, Int.reduceEq, Int.reduceLT, Int.reduceLE, Int.reduceNeg, w_c80, w_c8I, w_c8L, w_c8R, w_up1, w_up2, w_up3]
        repeat refine And.intro (by first | assumption | exact IsW.kt (by assumption) | omega | (unfold in32; omega) | (unfold in64; omega) | exact True.intro | exact Or.inl True.intro | exact Or.inr True.intro | rfl | exact Nat.le_of_ble_eq_true rfl) ?_
        try first | done | assumption | (unfold in32; omega) | (unfold in64; omega)
        refine ⟨_, p_Re_goLowest hS1 hR1 hW, ?_⟩
        rintro q M2 ⟨rfl, F2, l2⟩
        have k2 : ∀ a : Int, a ≠ 167 → M2 a = M1 a := fun a q => F2.2 a q
        have ok2 : st_ok f T M2 := by
          obtain ⟨h1, ⟨p1, p2, p3, p4⟩, h3, h4, h5, h6, h7, h8⟩ := id hk
          unfold st_ok Pt
          rw [k2 148 (by omega), k2 141 (by omega), k2 142 (by omega), k2 143 (by omega), k2 144 (by omega), k2 145 (by omega), k2 166 (by omega)]
          refine ⟨h1, ⟨p1, p2, p3, p4⟩, h3, h4, h5, fun p q0 q1 => ?_, fun p q0 q1 q => ?_, fun p q0 q1 q => (h8 p q0 q1 q).cg (k2 _ (by omega)) (k2 _ (by omega))⟩
          · rw [l2 p q0 q1]; split <;> omega
          · rw [l2 p q0 q1, if_neg q]
        simp only [w_tl0]
        refine fin M2 (hF.tr (F2.mo (fun a y => by have y : a = 167 := y; show 148 ≤ a ∧ a ≤ 275; omega))) ok2 (fun _ => ⟨Or.inl (fun p hp hg => ?_), ?_⟩)
        · have q := hk.2.2.2.1 p hp
          rw [l2 p q.1 q.2.2, if_pos ⟨q.2.1, hg⟩]
        · have := s7_b ok2.2.2.2.2.2.1; omega
  refine cw_C_of (L := [.inr (.inr 148), .inr (.inr 2), .inr (.inr 141), .inl t, cU, cU]) ok_Re_settle (Nat.le_refl _) (Nat.le_of_ble_eq_true rfl) rfl ?_
  have hS1 : Sh (cw_up M 148 2 141) := hS.up (by decide +kernel)
  have k1 : ∀ a : Int, a ≠ 148 → (cw_up M 148 2 141) a = M a := fun a q => cw_up_ne q
  have hR1 : RelS 1 f fl (cw_up M 148 2 141) := hR.cg (fun a q0 q1 => k1 a (by omega))
  refine k_Re_settle_0 _ _ _ _ _ _ _ _ ?_
  simp (disch := omega) only [↓w_nil, ↓w_cons, ↓w_ald0, ↓w_ald2, ↓w_pfR_2, ↓w_ic, ↓w_ist4, ↓w_fall, true_and, and_true, true_implies, false_implies, not_true_eq_false, not_false_eq_true, Int.reduceEq, Int.reduceLT, Int.reduceLE, Int.reduceNeg, w_nlI, w_nlL, w_nlR, w_up1, w_up2, w_up3]
  repeat refine And.intro (by first | assumption | exact IsW.kt (by assumption) | omega | (unfold in32; omega) | (unfold in64; omega) | exact True.intro | exact Or.inl True.intro | exact Or.inr True.intro | rfl | exact Nat.le_of_ble_eq_true rfl) ?_
  try first | done | assumption | (unfold in32; omega) | (unfold in64; omega)
  refine st_first hS1 hR1 hW (fun M2 F2 h2 => ?_)
  have k2 : ∀ a : Int, a < 148 → M2 a = M a := fun a q => by
    rw [F2.2 a (fun y => by have y : (152 ≤ a ∧ a ≤ 165) ∨ a = 166 ∨ a = 167 := y; omega), k1 a (by omega)]
  have ok2 : st_ok f T M2 := by
    obtain ⟨p1, p2, p3, p4⟩ := hP
    unfold st_ok Pt
    rw [k2 141 (by omega), k2 142 (by omega), k2 143 (by omega), k2 144 (by omega), k2 145 (by omega), F2.2 148 (fun y => by have y : (152 ≤ (148 : Int) ∧ (148 : Int) ≤ 165) ∨ (148 : Int) = 166 ∨ (148 : Int) = 167 := y; omega)]
    refine ⟨by rw [w_up1], ⟨p1, p2, p3, p4⟩, hl, hT, fun p q0 q1 => (h2 p q0 q1).1, fun p q0 q1 => ?_, fun p q0 q1 q => ?_, fun p q0 q1 q => (h2 p q0 q1).2.2⟩
    · rw [(h2 p q0 q1).2.1, k1 167 (by omega)]
      split
      · exact hk p q0 q1
      · omega
    · rw [(h2 p q0 q1).2.1, if_neg q]
  refine k_Re_settle_76 _ _ _ _ _ _ _ _ ?_
  simp (disch := omega) only [↓w_nil, ↓w_cons, ↓w_ic, ↓w_ist4, ↓w_fall, true_and, and_true, true_implies, false_implies, not_true_eq_false, not_false_eq_true, Int.reduceEq, Int.reduceLT, Int.reduceLE, Int.reduceNeg, w_nlI, w_nlL, w_nlR, w_up1, w_up2, w_up3]
  repeat refine And.intro (by first | assumption | exact IsW.kt (by assumption) | omega | (unfold in32; omega) | (unfold in64; omega) | exact True.intro | exact Or.inl True.intro | exact Or.inr True.intro | rfl | exact Nat.le_of_ble_eq_true rfl) ?_
  try first | done | assumption | (unfold in32; omega) | (unfold in64; omega)
  refine loop 64 0 M2 _ (by omega) (by omega) ⟨F2.1, fun a ha => ?_⟩ ok2 (fun q => by omega)
  have q : ¬ (148 ≤ a ∧ a ≤ 275) := ha
  rw [F2.2 a (fun y => by have y : (152 ≤ a ∧ a ≤ 165) ∨ a = 166 ∨ a = 167 := y; omega), k1 a (by omega)]
