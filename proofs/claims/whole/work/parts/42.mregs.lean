/-! the registers of the reference: digits 320, many 321, signs 322, product 323 -/
theorem m_k0 : cw_kt cw_NX 320 = (20, 7168) := by decide +kernel
theorem m_k1 : cw_kt cw_NX 321 = (20, 224) := by decide +kernel
theorem m_k2 : cw_kt cw_NX 322 = (20, 224) := by decide +kernel
theorem m_k3 : cw_kt cw_NX 323 = (21, 80) := by decide +kernel
theorem m_k9 : cw_kt cw_NX 319 = (12, 0) := by decide +kernel
theorem m_u01 {M : cw_M} {k v : Int} : cw_up M 320 k v 321 = M 321 := cw_up_ne (by decide)
theorem m_u02 {M : cw_M} {k v : Int} : cw_up M 320 k v 322 = M 322 := cw_up_ne (by decide)
theorem m_u03 {M : cw_M} {k v : Int} : cw_up M 320 k v 323 = M 323 := cw_up_ne (by decide)
theorem m_u09 {M : cw_M} {k v : Int} : cw_up M 320 k v 319 = M 319 := cw_up_ne (by decide)
theorem m_u10 {M : cw_M} {k v : Int} : cw_up M 321 k v 320 = M 320 := cw_up_ne (by decide)
theorem m_u12 {M : cw_M} {k v : Int} : cw_up M 321 k v 322 = M 322 := cw_up_ne (by decide)
theorem m_u13 {M : cw_M} {k v : Int} : cw_up M 321 k v 323 = M 323 := cw_up_ne (by decide)
theorem m_u19 {M : cw_M} {k v : Int} : cw_up M 321 k v 319 = M 319 := cw_up_ne (by decide)
theorem m_u20 {M : cw_M} {k v : Int} : cw_up M 322 k v 320 = M 320 := cw_up_ne (by decide)
theorem m_u21 {M : cw_M} {k v : Int} : cw_up M 322 k v 321 = M 321 := cw_up_ne (by decide)
theorem m_u23 {M : cw_M} {k v : Int} : cw_up M 322 k v 323 = M 323 := cw_up_ne (by decide)
theorem m_u29 {M : cw_M} {k v : Int} : cw_up M 322 k v 319 = M 319 := cw_up_ne (by decide)
theorem m_u30 {M : cw_M} {k v : Int} : cw_up M 323 k v 320 = M 320 := cw_up_ne (by decide)
theorem m_u31 {M : cw_M} {k v : Int} : cw_up M 323 k v 321 = M 321 := cw_up_ne (by decide)
theorem m_u32 {M : cw_M} {k v : Int} : cw_up M 323 k v 322 = M 322 := cw_up_ne (by decide)
theorem m_u39 {M : cw_M} {k v : Int} : cw_up M 323 k v 319 = M 319 := cw_up_ne (by decide)
theorem Sh.d0 {M : cw_M} (h : Sh M) : M 319 0 = 320 := (h _ _ (by decide +kernel)).trans (by decide +kernel)
theorem Sh.d1 {M : cw_M} (h : Sh M) : M 319 1 = 321 := (h _ _ (by decide +kernel)).trans (by decide +kernel)
theorem Sh.d2 {M : cw_M} (h : Sh M) : M 319 2 = 322 := (h _ _ (by decide +kernel)).trans (by decide +kernel)
theorem Sh.d3 {M : cw_M} (h : Sh M) : M 319 3 = 323 := (h _ _ (by decide +kernel)).trans (by decide +kernel)
def IR (r : Int) : Prop := 0 ≤ r ∧ r < 224
def cw_rd (M : cw_M) (r : Int) : Int → Int := fun j => M 320 (32 * r + j)
def RM (M : cw_M) (r v : Int) : Prop := ∃ n : Nat, n ≤ 32 ∧ M 321 r = n ∧ cw_dg (cw_rd M r) n ∧ (0 < n → cw_rd M r ((n : Int) - 1) ≠ 0) ∧ cw_mg (cw_rd M r) n = cw_ab v ∧ M 322 r = cw_sg v
def cw_rf (R : Int → Prop) (M M' : cw_M) : Prop := (∀ a, ¬ (320 ≤ a ∧ a ≤ 323) → M' a = M a) ∧ ∀ s, IR s → ¬ R s → M' 321 s = M 321 s ∧ M' 322 s = M 322 s ∧ ∀ j, 0 ≤ j → j < 32 → cw_rd M' s j = cw_rd M s j
theorem rf_rf {R : Int → Prop} {M : cw_M} : cw_rf R M M := ⟨fun _ _ => rfl, fun _ _ _ => ⟨rfl, rfl, fun _ _ _ => rfl⟩⟩
theorem rf_tr {R : Int → Prop} {M M1 M2 : cw_M} (h : cw_rf R M M1) (k : cw_rf R M1 M2) : cw_rf R M M2 :=
  ⟨fun a ha => (k.1 a ha).trans (h.1 a ha), fun s hs hr => ⟨(k.2 s hs hr).1.trans (h.2 s hs hr).1, (k.2 s hs hr).2.1.trans (h.2 s hs hr).2.1, fun j h0 h1 => ((k.2 s hs hr).2.2 j h0 h1).trans ((h.2 s hs hr).2.2 j h0 h1)⟩⟩
theorem rf_mo {R R' : Int → Prop} {M M1 : cw_M} (h : cw_rf R M M1) (k : ∀ s, R s → R' s) : cw_rf R' M M1 := ⟨h.1, fun s hs hr => h.2 s hs fun q => hr (k s q)⟩
theorem rf_fr {R : Int → Prop} {M M1 : cw_M} (h : cw_rf R M M1) : cw_fr (fun a => 320 ≤ a ∧ a ≤ 323) M M1 := by
  refine ⟨h.1, fun a k hr => ?_⟩
  by_cases q : 320 ≤ a ∧ a ≤ 323
  · exfalso
    rcases (show a = 320 ∨ a = 321 ∨ a = 322 ∨ a = 323 by omega) with rfl | rfl | rfl | rfl
    · unfold cw_rs at hr; rw [m_k0] at hr; exact absurd (show false = true from hr) (by decide)
    · unfold cw_rs at hr; rw [m_k1] at hr; exact absurd (show false = true from hr) (by decide)
    · unfold cw_rs at hr; rw [m_k2] at hr; exact absurd (show false = true from hr) (by decide)
    · unfold cw_rs at hr; rw [m_k3] at hr; exact absurd (show false = true from hr) (by decide)
  · rw [h.1 a q]
theorem Sh.rf {R : Int → Prop} {M M1 : cw_M} (h : Sh M) (k : cw_rf R M M1) : Sh M1 := h.fr (rf_fr k)
theorem rd_up {M : cw_M} {r k d j : Int} : cw_rd (cw_up M 320 (32 * r + k) d) r j = if j = k then d else cw_rd M r j := by
  unfold cw_rd
  by_cases h : j = k
  · subst h; rw [if_pos rfl, w_up1]
  · rw [if_neg h, w_up2 (by omega)]
theorem rd_ne {M : cw_M} {r s k d j : Int} (h : s ≠ r) (h0 : 0 ≤ k) (h1 : k < 32) (h2 : 0 ≤ j) (h3 : j < 32) : cw_rd (cw_up M 320 (32 * r + k) d) s j = cw_rd M s j := by
  unfold cw_rd
  rw [w_up2 (by omega)]
theorem rd_u1 {M : cw_M} {k v r : Int} : cw_rd (cw_up M 321 k v) r = cw_rd M r := by unfold cw_rd; rw [m_u10]
theorem rd_u2 {M : cw_M} {k v r : Int} : cw_rd (cw_up M 322 k v) r = cw_rd M r := by unfold cw_rd; rw [m_u20]
theorem rd_u3 {M : cw_M} {k v r : Int} : cw_rd (cw_up M 323 k v) r = cw_rd M r := by unfold cw_rd; rw [m_u30]
theorem rf_u0 {R : Int → Prop} {M M1 : cw_M} {r k d : Int} (h : cw_rf R M M1) (hr : R r) (h0 : 0 ≤ k) (h1 : k < 32) : cw_rf R M (cw_up M1 320 (32 * r + k) d) := by
  refine ⟨fun a ha => by rw [cw_up_ne (by omega)]; exact h.1 a ha, fun s hs hn => ?_⟩
  have ne : s ≠ r := fun q => hn (by rw [q]; exact hr)
  obtain ⟨q1, q2, q3⟩ := h.2 s hs hn
  refine ⟨by rw [m_u01]; exact q1, by rw [m_u02]; exact q2, fun j a b => by rw [rd_ne ne h0 h1 a b]; exact q3 j a b⟩
theorem rf_u1 {R : Int → Prop} {M M1 : cw_M} {r d : Int} (h : cw_rf R M M1) (hr : R r) : cw_rf R M (cw_up M1 321 r d) := by
  refine ⟨fun a ha => by rw [cw_up_ne (by omega)]; exact h.1 a ha, fun s hs hn => ?_⟩
  have ne : s ≠ r := fun q => hn (by rw [q]; exact hr)
  obtain ⟨q1, q2, q3⟩ := h.2 s hs hn
  refine ⟨by rw [w_up2 ne]; exact q1, by rw [m_u12]; exact q2, fun j a b => by rw [rd_u1]; exact q3 j a b⟩
theorem rf_u2 {R : Int → Prop} {M M1 : cw_M} {r d : Int} (h : cw_rf R M M1) (hr : R r) : cw_rf R M (cw_up M1 322 r d) := by
  refine ⟨fun a ha => by rw [cw_up_ne (by omega)]; exact h.1 a ha, fun s hs hn => ?_⟩
  have ne : s ≠ r := fun q => hn (by rw [q]; exact hr)
  obtain ⟨q1, q2, q3⟩ := h.2 s hs hn
  refine ⟨by rw [m_u21]; exact q1, by rw [w_up2 ne]; exact q2, fun j a b => by rw [rd_u2]; exact q3 j a b⟩
theorem rf_u3 {R : Int → Prop} {M M1 : cw_M} {k d : Int} (h : cw_rf R M M1) : cw_rf R M (cw_up M1 323 k d) := by
  refine ⟨fun a ha => by rw [cw_up_ne (by omega)]; exact h.1 a ha, fun s hs hn => ?_⟩
  obtain ⟨q1, q2, q3⟩ := h.2 s hs hn
  refine ⟨by rw [m_u31]; exact q1, by rw [m_u32]; exact q2, fun j a b => by rw [rd_u3]; exact q3 j a b⟩
theorem RM.rf {R : Int → Prop} {M M1 : cw_M} {s v : Int} (h : RM M s v) (hf : cw_rf R M M1) (hs : IR s) (hr : ¬ R s) : RM M1 s v := by
  obtain ⟨n, a1, a2, a3, a4, a5, a6⟩ := h
  obtain ⟨q1, q2, q3⟩ := hf.2 s hs hr
  refine ⟨n, a1, q1.trans a2, fun j hj => ?_, fun h => ?_, ?_, q2.trans a6⟩
  · rw [q3 _ (by omega) (by omega)]; exact a3 j hj
  · rw [q3 _ (by omega) (by omega)]; exact a4 h
  · rw [← a5]; exact mg_cg n fun j hj => q3 _ (by omega) (by omega)
