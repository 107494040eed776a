/-! what makes cells: new, new rows, constructors called -/
def cw_vs (b : Nat) : Nat := if (cw_kn b).1 < 20 then cw_cN (cw_kn b).1 else (cw_kn b).2
theorem sl_s : ∀ (l : List (Nat × Nat)) (k : Nat), cw_sl (l.take (k + 1)) = cw_sl (l.take k) + (if (l.getD k (99, 0)).1 < 20 then cw_cN (l.getD k (99, 0)).1 else (l.getD k (99, 0)).2)
  | [], k => by simp [cw_sl]
  | q :: t, 0 => by simp [cw_sl]
  | q :: t, k + 1 => by
    have ih := sl_s t k
    simp only [List.take_succ_cons, cw_sl, List.getD_cons_succ]
    rw [ih]; omega
theorem SL_s (k : Nat) : cw_SL (k + 1) = cw_SL k + cw_vs k := sl_s cw_kl k
theorem cw_H_grow {g : cw_G} {nx n' : Nat} {M M' : cw_M} {H H1 : Heap} (hH : cw_H g nx M H) (hz : H1.size = cw_B g + n') (ho : ∀ q : Nat, q < H.size → H1[q]? = H[q]?) (hn : ∀ k : Nat, nx ≤ k → k < n' → va_at (cw_dC g, cw_dI g) cw_cl (cw_B g + k, cw_E g M' k) H1) (he : ∀ k : Nat, k < nx → M' k = M k) : cw_H g n' M' H1 := by
  refine ⟨hz, fun k q hk => ?_⟩
  have hl : k < n' := by
    have := (List.getElem?_eq_some_iff.mp hk).1
    simpa [cw_w] using this
  rw [cw_w_get hl] at hk
  cases hk
  by_cases h : k < nx
  · have e : cw_E g M' k = cw_E g M k := by unfold cw_E; rw [he k h]
    rw [e]
    exact (hH.2 k _ (cw_w_get h)).kept (ho _ (by rw [hH.1]; show cw_B g + k < _; omega))
  · exact hn k (by omega) hl
theorem cw_S_grow {A : Nat → Prop} {H0 H H1 : Heap} {locs : List Loc} (hS : va_S A H0 H locs) (hz : H.size ≤ H1.size) (ho : ∀ q : Nat, q < H.size → H1[q]? = H[q]?) : va_S A H0 H1 locs :=
  ⟨Nat.le_trans hS.1 hz, fun x h1 h2 => (ho x (Nat.lt_of_lt_of_le h1 hS.1)).trans (hS.2.1 x h1 h2), hS.2.2⟩
theorem cw_N_grow {y : cw_Y} {R : Room} {n0 n1 nx n' mc ms : Nat} (h : cw_N y R n0 n1 nx mc ms) (h1 : nx ≤ n') (h2 : n' ≤ n1) : cw_N y R n0 n1 n' mc ms ∧ nx - n0 + (n' - nx) = n' - n0 ∧ cw_SL nx - cw_SL n0 + (cw_SL n' - cw_SL nx) = cw_SL n' - cw_SL n0 ∧ n' - n0 ≤ R.cells ∧ cw_SL n' - cw_SL n0 ≤ R.slots := by
  obtain ⟨a, b, c, d, e, f, i, j⟩ := h
  have m1 := cw_SL_mono i
  have m2 := cw_SL_mono h1
  have m3 := cw_SL_mono h2
  exact ⟨⟨a, b, c, d, e, f, by omega, h2⟩, by omega, by omega, by omega, by omega⟩
theorem cw_nat (k : Nat) : ((k : Nat) : Int).toNat = k := rfl
theorem cw_v_nx (g : cw_G) (k : Nat) : cw_v g (.inr (.inr (k : Int))) = .ref (cw_B g + k) := by rw [cw_v_ref g (by omega)]; rfl
/-- the fields of a new object -/
def cw_zr (ci : Nat) : Int → Int := fun k => if cw_fc ci k.toNat = 2 then -1 else 0
def t_new (ci nxt : Nat) : cw_T := fun _ n1 nx L S M _ K => cw_kn nx = (ci, 0) ∧ nx + 1 ≤ n1 ∧ ∀ (a : Int) (n' : Nat), a = nx → n' = nx + 1 → K n' nxt L (.inr (.inr a) :: S) (cw_sf M a (cw_zr ci))
theorem cw_z0 (g : cw_G) (ty : FieldType) (t : Nat) (h : cw_cd ty = t) (h9 : t ≠ 9) : defaultValue ty = cw_v g (cw_vt t (if t = 2 then -1 else 0)) := by
  subst h
  cases ty <;> first | rfl | exact absurd rfl h9
theorem tm_new {y : cw_Y} {pc idx ci : Nat} {C : String} {T : u_T} {N : Nat} (hd : decode y.2.1 pc = .ok (.new idx, 3)) (hc : cw_cl[ci]? = some (C, T, N)) (hl : Cond.classLink y.1.cls idx C ∈ cw_tb) (hi : Cond.instantiable C N ∈ cw_tb) (hini : Cond.initialized C ∈ cw_tb) (h9 : ∀ k, k < N → cw_fc ci k ≠ 9) : cw_tm y pc (t_new ci (pc + 3)) := by
  intro g n0 n1 nx L S M Q K hK h p e R s m args below meth c mc ms X N9 H locs ls hH hS hL
  obtain ⟨h1, h2, h3⟩ := h
  have h3 := h3 _ _ rfl rfl
  obtain ⟨c1, c2, c3, c4, c5, c6⟩ := cw_cls hc
  have hci : ci < 13 := (List.getElem?_eq_some_iff.mp hc).1
  have hKn := X.2.2.2.2.2.2.2.2.1.1 ci _ hc
  have hs := SL_s nx
  have hv : cw_vs nx = N := by unfold cw_vs; rw [h1]; exact (if_pos (show ci < 20 by omega)).trans c6.symm
  obtain ⟨N', ec, es, r1, r2⟩ := cw_N_grow N9 (show nx ≤ nx + 1 from Nat.le_succ nx) h2
  refine W.newcK X.1 X.2.1 X.2.2.2.2.1 (X.2.2.2.2.2.1 _ hl) (X.2.2.2.2.2.1 _ hi) (X.2.2.2.2.2.1 _ hini) rfl hd (by omega) (by omega) hKn.2.1 hH.1 fun H1 kC hkC e1 z1 o1 => ?_
  have ho : ∀ q : Nat, q < H.size → H1[q]? = H[q]? := fun q hq => o1 q (by rw [← hH.1]; exact hq)
  have hE : cw_E g (cw_sf M nx (cw_zr ci)) nx = .inr (ci, cw_fs g ci (cw_zr ci)) := by
    unfold cw_E
    rw [h1, sf_eq]
    exact if_pos (show ci < 20 by omega)
  have k9 := hK _ _ _ _ _ h3 p e R s m args below meth c mc ms X N' H1 locs ls (cw_H_grow hH (by rw [z1]; omega) ho (fun k k0 k1 => ?_) (fun k hk => sf_ne (by omega))) (cw_S_grow hS (by rw [z1, hH.1]; omega) ho) hL
  · rw [show nx + 1 - n0 = nx - n0 + 1 by have := N9.2.2.2.2.2.2.1; omega, show cw_SL (nx + 1) - cw_SL n0 = cw_SL nx - cw_SL n0 + N by have := cw_SL_mono N9.2.2.2.2.2.2.1; omega, List.map_cons, cw_v_nx] at k9
    exact k9
  · have ek : k = nx := by omega
    subst ek
    rw [hE]
    refine ⟨_, hc, (u_born (cw_fT ci) X.2.2.2.2.2.1 c1 hKn hkC e1 c2).to (fun j hj => ?_)⟩
    show defaultValue (cw_fT ci j) = (cw_fs g ci (cw_zr ci)).getD j .null
    rw [List.getD_eq_getElem?_getD, cw_fs_get (by rw [← c6]; exact hj)]
    exact cw_z0 g _ _ (c4 j hj) (h9 j hj)
/-- a new row -/
def t_na (t nxt : Nat) : cw_T := fun _ n1 nx L S M _ K => match S with
  | .inl n :: S => (cw_kn nx = (20 + t, n.toNat) ∧ 0 ≤ n ∧ n ≤ 7168) ∧ nx + 1 ≤ n1 ∧ ∀ (a : Int) (n' : Nat), a = nx → n' = nx + 1 → K n' nxt L (.inr (.inr a) :: S) (cw_sf M a (fun _ => 0))
  | _ => False
theorem cw_ln {n : Int} (h0 : 0 ≤ n) (h1 : n ≤ 7168) : ¬ Int32.ofInt n < 0 ∧ (Int32.ofInt n).toNatClampNeg = n.toNat := by
  have h : in32 n := ⟨by omega, by omega⟩
  refine ⟨fun q => ?_, ?_⟩
  · have := (cw_lt0 h).mp q; omega
  · show (Int32.ofInt n).toInt.toNat = n.toNat
    rw [cw_i32 h]
theorem cw_arr_new {g : cw_G} {nx t n : Nat} {M' : cw_M} (hk : cw_kn nx = (20 + t, n)) {f : Int → Int} (hM : M' nx = f) : cw_E g M' nx = .inl (cw_dA g t, n, cw_ct g t f) := by
  unfold cw_E
  rw [hk, hM, if_neg (show ¬ 20 + t < 20 by omega)]
  show (Sum.inl (cw_dA g (20 + t - 20), n, cw_ct g (20 + t - 20) f) : va_E) = _
  rw [Nat.add_sub_cancel_left]
theorem vs_arr {nx t n : Nat} (hk : cw_kn nx = (20 + t, n)) : cw_vs nx = n := by unfold cw_vs; rw [hk]; exact if_neg (by omega)
theorem tm_na {y : cw_Y} {pc t : Nat} {atype : ArrayType} (hd : decode y.2.1 pc = .ok (.newarray atype, 2)) (hty : newarray.typeOf atype = cw_ty t) (ht : t < 3) (harr : Cond.arrayClass (cw_ty t) ∈ cw_tb) : cw_tm y pc (t_na t (pc + 2)) := by
  intro g n0 n1 nx L S M Q K hK h p e R s m args below meth c mc ms X N9 H locs ls hH hS hL
  unfold t_na at h
  split at h
  · rename_i n S
    obtain ⟨⟨h1, h0, h7⟩, h2, h3⟩ := h
    have h3 := h3 _ _ rfl rfl
    have hw : (Cond.arrayClass (newarray.typeOf atype)).before args s = true := by rw [hty]; exact X.2.2.2.2.2.1 _ harr
    obtain ⟨l1, l2⟩ := cw_ln h0 h7
    have hs := SL_s nx
    have hv := vs_arr h1
    obtain ⟨N', ec, es, r1, r2⟩ := cw_N_grow N9 (show nx ≤ nx + 1 from Nat.le_succ nx) h2
    have hb : n.toNat * componentBytes (newarray.typeOf atype) ≤ 536870912 := by
      have : componentBytes (newarray.typeOf atype) ≤ 8 := by rw [hty]; rcases (show t = 0 ∨ t = 1 ∨ t = 2 by omega) with rfl | rfl | rfl <;> decide
      have := Nat.mul_le_mul (show n.toNat ≤ 7168 by omega) this
      omega
    rw [List.map_cons, cw_v_I]
    refine va_newaK X.1 X.2.1 hw rfl hd rfl l1 l2 hb (by omega) (by omega) hH.1 fun H1 cA e1 z1 o1 hAr hNm => ?_
    have ho : ∀ q : Nat, q < H.size → H1[q]? = H[q]? := fun q hq => o1 q (by rw [← hH.1]; exact hq)
    have hR := (X.2.2.2.2.2.2.2.2.1.2 t _ (cw_tys_get g (show t < 6 by omega))).2
    rw [hty] at hNm e1
    have hA : cA = cw_dA g t := by
      rcases (show t = 0 ∨ t = 1 ∨ t = 2 by omega) with rfl | rfl | rfl <;> exact Option.some.inj (hNm.symm.trans hR)
    have k9 := hK _ _ _ _ _ h3 p e R s m args below meth c mc ms X N' H1 locs ls (cw_H_grow hH (by rw [z1]; omega) ho (fun k k0 k1 => ?_) (fun k hk => sf_ne (by omega))) (cw_S_grow hS (by rw [z1, hH.1]; omega) ho) hL
    · rw [show nx + 1 - n0 = nx - n0 + 1 by have := N9.2.2.2.2.2.2.1; omega, show cw_SL (nx + 1) - cw_SL n0 = cw_SL nx - cw_SL n0 + n.toNat by have := cw_SL_mono N9.2.2.2.2.2.2.1; omega, List.map_cons, cw_v_nx] at k9
      exact k9
    · have ek : k = nx := by omega
      subst ek
      rw [cw_arr_new h1 sf_eq]
      show H1[cw_B g + k]? = some (vp_cell (cw_dA g t) (n.toNat, cw_ct g t (fun _ => 0)))
      rw [e1, hA]
      rcases (show t = 0 ∨ t = 1 ∨ t = 2 by omega) with rfl | rfl | rfl <;> rfl
  · exact h.elim
/-- a new row of references -/
def t_an (t nxt : Nat) : cw_T := fun _ n1 nx L S M _ K => match S with
  | .inl n :: S => (cw_kn nx = (20 + t, n.toNat) ∧ 0 ≤ n ∧ n ≤ 7168) ∧ nx + 1 ≤ n1 ∧ ∀ (a : Int) (n' : Nat), a = nx → n' = nx + 1 → K n' nxt L (.inr (.inr a) :: S) (cw_sf M a (fun _ => -1))
  | _ => False
theorem tm_an {y : cw_Y} {pc t idx : Nat} {C : String} (hd : decode y.2.1 pc = .ok (.anewarray idx, 3)) (hty : cw_ty t = .object C) (ht : t = 3 ∨ t = 4) (hl : Cond.classLink y.1.cls idx C ∈ cw_tb) : cw_tm y pc (t_an t (pc + 3)) := by
  intro g n0 n1 nx L S M Q K hK h p e R s m args below meth c mc ms X N9 H locs ls hH hS hL
  unfold t_an at h
  split at h
  · rename_i n S
    obtain ⟨⟨h1, h0, h7⟩, h2, h3⟩ := h
    have h3 := h3 _ _ rfl rfl
    have hover : (Cond.arrayOver (.object C)).before args s = true := by
      rcases ht with rfl | rfl
      · cases hty; exact va_AO.use (show cw_K g s from X.2.2.2.2.2.2.2.2).2.2.2.2.2.1
      · cases hty; exact va_AO.use (show cw_K g s from X.2.2.2.2.2.2.2.2).2.2.2.2.2.2.1
    obtain ⟨l1, l2⟩ := cw_ln h0 h7
    have hs := SL_s nx
    have hv := vs_arr h1
    obtain ⟨N', ec, es, r1, r2⟩ := cw_N_grow N9 (show nx ≤ nx + 1 from Nat.le_succ nx) h2
    rw [List.map_cons, cw_v_I]
    refine W.anew X.1 X.2.1 X.2.2.2.2.1 (X.2.2.2.2.2.1 _ hl) hover rfl hd rfl l1 (by rw [l2]; omega) (by omega) (by rw [l2]; omega) fun cA kA comp q1 q2 q3 q4 => ?_
    rw [l2]
    generalize hH1 : H.push { cls := cA, slots := Array.replicate n.toNat .null, vm := .none } = H1
    have z1 : H1.size = H.size + 1 := by rw [← hH1]; simp
    have ho : ∀ q : Nat, q < H.size → H1[q]? = H[q]? := fun q hq => by rw [← hH1, Array.getElem?_push, if_neg (Nat.ne_of_lt hq)]
    have e1 : H1[H.size]? = some (arrV cA n.toNat (fun _ => .null)) := by rw [← hH1, ← arrV_new]; simp
    have hR := (X.2.2.2.2.2.2.2.2.1.2 t _ (cw_tys_get g (show t < 6 by omega))).2
    have hA : cA = cw_dA g t := by
      rcases ht with rfl | rfl
      · cases hty; obtain ⟨_, _, _, _, _, w⟩ := hR; exact Option.some.inj (q1.symm.trans w)
      · cases hty; obtain ⟨_, _, _, _, _, w⟩ := hR; exact Option.some.inj (q1.symm.trans w)
    have k9 := hK _ _ _ _ _ h3 p e R s m args below meth c mc ms X N' H1 locs ls (cw_H_grow hH (by rw [z1, hH.1]; omega) ho (fun k k0 k1 => ?_) (fun k hk => sf_ne (by omega))) (cw_S_grow hS (by omega) ho) hL
    · rw [show nx + 1 - n0 = nx - n0 + 1 by have := N9.2.2.2.2.2.2.1; omega, show cw_SL (nx + 1) - cw_SL n0 = cw_SL nx - cw_SL n0 + n.toNat by have := cw_SL_mono N9.2.2.2.2.2.2.1; omega, List.map_cons, cw_v_nx, ← hH.1] at k9
      exact k9
    · have ek : k = nx := by omega
      subst ek
      rw [cw_arr_new h1 sf_eq]
      show H1[cw_B g + k]? = some (vp_cell (cw_dA g t) (n.toNat, cw_ct g t (fun _ => -1)))
      rw [← hH.1, e1, hA]
      rcases ht with rfl | rfl <;> rfl
  · exact h.elim
/-- a new row of rows -/
def cw_ml (M : cw_M) (nx a : Int) : cw_M := fun c => if c = nx then (fun j => if 0 ≤ j ∧ j < a then nx + 1 + j else -1) else if nx < c ∧ c ≤ nx + a then (fun _ => 0) else M c
def t_mn (nxt : Nat) : cw_T := fun _ n1 nx L S M _ K => match S with
  | .inl b :: .inl a :: S => ((0 ≤ b ∧ b ≤ 7168) ∧ (0 ≤ a ∧ a ≤ 7168)) ∧ (cw_kn nx = (25, a.toNat) ∧ ∀ j : Nat, j < a.toNat → cw_kn (nx + 1 + j) = (20, b.toNat)) ∧ nx + 1 + a.toNat ≤ n1 ∧ ∀ (c : Int) (n' : Nat), c = nx → n' = nx + 1 + a.toNat → K n' nxt L (.inr (.inr c) :: S) (cw_ml M c a)
  | _ => False
theorem SL_rows {nx b : Nat} : ∀ a : Nat, (∀ j : Nat, j < a → cw_kn (nx + j) = (20, b)) → cw_SL (nx + a) = cw_SL nx + a * b
  | 0, _ => by simp
  | a + 1, h => by
    have ih := SL_rows a (fun j hj => h j (by omega))
    have s := SL_s (nx + a)
    rw [vs_arr (t := 0) (h a (by omega)), ih] at s
    rw [show nx + (a + 1) = nx + a + 1 by omega, s, Nat.succ_mul]; omega
theorem tm_mn {y : cw_Y} {pc idx : Nat} (hd : decode y.2.1 pc = .ok (.multianewarray idx 2, 4)) (hl : Cond.classLink y.1.cls idx ("[" ++ (FieldType.array .int).toString) ∈ cw_tb) (harr : Cond.arrayClass .int ∈ cw_tb) : cw_tm y pc (t_mn (pc + 4)) := by
  intro g n0 n1 nx L S M Q K hK h p e R s m args below meth c mc ms X N9 H locs ls hH hS hL
  unfold t_mn at h
  split at h
  · rename_i b a S
    obtain ⟨⟨⟨b0, b7⟩, a0, a7⟩, ⟨h1, hr⟩, h2, h3⟩ := h
    have h3 := h3 _ _ rfl rfl
    have ea : ((a.toNat : Nat) : Int) = a := by omega
    obtain ⟨l1, l2⟩ := cw_ln b0 b7
    obtain ⟨l3, l4⟩ := cw_ln a0 a7
    have hs := SL_s nx
    have hv := vs_arr (t := 5) h1
    have hrow := SL_rows (nx := nx + 1) a.toNat hr
    obtain ⟨N', ec, es, r1, r2⟩ := cw_N_grow N9 (show nx ≤ nx + 1 + a.toNat by omega) h2
    rw [List.map_cons, List.map_cons, cw_v_I, cw_v_I]
    refine cw_mna X.1 X.2.1 X.2.2.2.2.1 (X.2.2.2.2.2.1 _ hl) (show (Cond.arrayOver (.array .int)).before args s = true from (show cw_K g s from X.2.2.2.2.2.2.2.2).2.2.2.2.2.2.2) (X.2.2.2.2.2.1 _ harr) l3 l1 l4 l2 (by omega) (by omega) (by omega) (by omega) hd fun cA cy H1 q1 q2 z1 ho e1 e2 => ?_
    have hR5 := (X.2.2.2.2.2.2.2.2.1.2 5 _ (cw_tys_get g (show 5 < 6 by omega))).2
    have hR0 := (X.2.2.2.2.2.2.2.2.1.2 0 _ (cw_tys_get g (show 0 < 6 by omega))).2
    have hA : cA = cw_dA g 5 := Option.some.inj (q1.symm.trans hR5)
    have hY : cy = cw_dA g 0 := Option.some.inj (q2.symm.trans hR0)
    subst hA
    subst hY
    have k9 := hK _ _ _ _ _ h3 p e R s m args below meth c mc ms X N' H1 locs ls (cw_H_grow hH (by rw [z1, hH.1]; omega) ho (fun k k0 k1 => ?_) (fun k hk => ?_)) (cw_S_grow hS (by omega) ho) hL
    · rw [show nx + 1 + a.toNat - n0 = nx - n0 + 1 + a.toNat by have := N9.2.2.2.2.2.2.1; omega, show cw_SL (nx + 1 + a.toNat) - cw_SL n0 = cw_SL nx - cw_SL n0 + a.toNat + a.toNat * b.toNat by have := cw_SL_mono N9.2.2.2.2.2.2.1; omega, List.map_cons, cw_v_nx, ← hH.1] at k9
      exact k9
    · by_cases ek : k = nx
      · subst ek
        rw [cw_arr_new (t := 5) h1 (show cw_ml M k a k = _ from if_pos rfl)]
        show H1[cw_B g + k]? = some (vp_cell (cw_dA g 5) (a.toNat, .inr (.inr (.inr (.inr (fun j : Nat => cw_ro g (if 0 ≤ (j : Int) ∧ (j : Int) < a then (k : Int) + 1 + j else -1)))))))
        rw [← hH.1, e1]
        congr 7
        funext j
        by_cases hj : j < a.toNat
        · rw [if_pos hj, if_pos (by omega), cw_ro_of g (by omega)]
          congr 1
          rw [hH.1]; omega
        · rw [if_neg hj, if_neg (by omega)]; rfl
      · obtain ⟨j, rfl⟩ : ∃ j, k = nx + 1 + j := ⟨k - nx - 1, by omega⟩
        rw [cw_arr_new (t := 0) (hr j (by omega)) (show cw_ml M nx a ((nx + 1 + j : Nat) : Int) = fun _ => 0 by unfold cw_ml; rw [if_neg (by omega), if_pos (by omega)])]
        show H1[cw_B g + (nx + 1 + j)]? = some (vp_cell (cw_dA g 0) (b.toNat, .inl (fun _ => Int32.ofInt 0)))
        have := e2 j (by omega)
        rw [hH.1] at this
        rw [show cw_B g + (nx + 1 + j) = cw_B g + nx + 1 + j by omega, this]; rfl
    · unfold cw_ml
      rw [if_neg (by omega), if_neg (by omega)]
  · exact h.elim
/-- an element that is a reference is laid -/
def o_aast (t ci : Nat) : cw_O := fun nx L S M K => match S with
  | .inr (.inr x) :: .inl i :: .inr (.inr a) :: S => (cw_kt nx a).1 = 20 + t ∧ (0 ≤ i ∧ i < (cw_kt nx a).2) ∧ cw_kt nx x = (ci, 0) ∧ K L S (cw_up M a i x)
  | _ => False
theorem at_aast {y : cw_Y} {pc t ci : Nat} {C : String} {T : u_T} {N : Nat} (hd : decode y.2.1 pc = .ok (.aastore, 1)) (hty : cw_ty t = .object C) (ht : t = 3 ∨ t = 4) (hc : cw_cl[ci]? = some (C, T, N)) : cw_at y pc (o_aast t ci) 1 := by
  intro g n0 n1 nx L S M Q K hK h p e R s m args below meth c mc ms X N9 H locs ls hH hS hL
  unfold o_aast at h
  split at h
  · rename_i x i a S
    obtain ⟨h1, h2, h3, h4⟩ := h
    have hci : ci < 13 := (List.getElem?_eq_some_iff.mp hc).1
    obtain ⟨ha0, hak, ha⟩ := cw_arr (g := g) (M := M) (t := t) h1 (by omega)
    obtain ⟨hx0, hxn, hxk⟩ := cw_kt_is h3 (show ci < 99 by omega)
    obtain ⟨hi, hcl⟩ := cw_ix h2.1 h2.2 (cw_kt_le nx a)
    have hx := cw_w_get (g := g) (M := M) hxn
    rw [cw_E_obj hx0 hxk (by omega)] at hx
    have ect : ∀ f : Int → Int, cw_ct g t f = .inr (.inr (.inr (.inr (fun j => cw_ro g (f j))))) := fun f => by rcases ht with rfl | rfl <;> rfl
    rw [ect] at ha
    rw [List.map_cons, List.map_cons, List.map_cons, cw_v_ref g ha0, cw_v_ref g hx0, cw_v_I]
    obtain ⟨r', hr', cellV, g1, g2, g3, -⟩ := hH.2 x.toNat _ hx
    have hcls := (X.2.2.2.2.2.2.2.2.1.1 ci _ hc).2
    have hRA := (X.2.2.2.2.2.2.2.2.1.2 t _ (cw_tys_get g (show t < 6 by omega))).2
    rw [hty] at hRA
    obtain ⟨kA, comp, k1, k2, k3, -⟩ := hRA
    have hcomp : comp = cw_dC g ci := Option.some.inj (k3.symm.trans hcls.1)
    subst hcomp
    obtain ⟨kC, hkC, -⟩ := hcls.2
    have hlt : (Int32.ofInt i).toNatClampNeg < (cw_kt nx a).2 := Nat.not_le.mp fun q => hi (Or.inr q)
    have hn0 : ¬ Int32.ofInt i < 0 := fun q => hi (Or.inl q)
    refine W.aast X.1 X.2.1 (hH.2 a.toNat _ ha) (fun q h => by cases h) (fun h => by cases h) k1 k2 rfl hkC ⟨hn0, by show _ < (arrV _ _ _).slots.size; rw [arrV_size]; exact hlt⟩ g1 (fun q h => by rw [g3] at h; cases h) (by rw [g2]; exact hkC) (by rw [g2]; exact va_assign hcls) rfl rfl hd fun H1 e1 e2 e3 => ?_
    refine hK _ _ _ h4 p e R s m args below meth c mc ms X N9 H1 _ ls (cw_ast (i := i) (x := x) (v := .ref (cw_B g + x.toNat)) h1 (by omega) hH (by rw [ect]; exact e1) e2 e3 ?_) (hS.put e2 e3 (Nat.le_add_right _ _)) hL
    rw [ect, ect, vp_cell_q, vp_cell_q, arrV_store]
    refine congrArg _ (funext fun j => ?_)
    unfold updV
    rw [hcl]
    by_cases hj : j = i.toNat
    · rw [if_pos hj, if_pos (by omega), cw_ro_of g hx0]; rfl
    · rw [if_neg hj, if_neg (by omega)]
  · exact h.elim
/-- Object.<init> -/
def t_oi (nxt : Nat) : cw_T := fun _ _ nx L S M _ K => match S with
  | .inr (.inr a) :: S => 0 ≤ a ∧ cw_c8 S ≤ 8 ∧ K nx nxt L S M
  | _ => False
theorem tm_oi {y : cw_Y} {pc idx : Nat} (hd : decode y.2.1 pc = .ok (.invokespecial idx, 3)) (hl : Cond.methodLink y.1.cls idx Lib.objectInit ∈ cw_tb) (hi : Cond.instanceMethod Lib.objectInit ∈ cw_tb) (hc : Cond.code Lib.objectInit ⟨#[0xb1]⟩ 1 none ∈ cw_tb) (hr : 1 ≤ y.2.2.2.2.1 ∧ 20 ≤ y.2.2.2.2.2) : cw_tm y pc (t_oi (pc + 3)) := by
  intro g n0 n1 nx L S M Q K hK h p e R s m args below meth c mc ms X N9 H locs ls hH hS hL
  unfold t_oi at h
  split at h
  · rename_i a S
    obtain ⟨h1, h2, h3⟩ := h
    rw [List.map_cons, cw_v_ref g h1]
    refine W.objInit X.1 X.2.1 X.2.2.2.2.1 (X.2.2.2.2.2.1 _ hl) (X.2.2.2.2.2.1 _ hi) (X.2.2.2.2.2.1 _ hc) rfl (hL.1.trans X.2.2.1.symm) rfl hd (by rw [N9.1]; exact hr.1) ?_ (hK _ _ _ _ _ h3 p e R s m args below meth c mc ms X N9 H locs ls hH hS hL)
    have q := hr.2
    rw [← N9.2.1] at q
    have k : 2 * (F0 m pc ls (.ref (cw_B g + a.toNat) :: S.map (cw_v g))).monitorRoom + ((S.map (cw_v g)).map fun v => v.category).sum ≤ 8 := lv_room (by rw [cw_c8_is]; exact h2)
    omega
  · exact h.elim
/-- a constructor is called: it may make cells -/
def t_ci (z : cw_Y) (n nxt : Nat) : cw_T := fun g n1 nx L S M _ K => match cw_ag (n + 1) S [] with
  | some (.inr (.inr a) :: As, rest) => (0 ≤ a ∧ cw_c8 rest ≤ 8) ∧ ∃ (n' : Nat) (P : Option cw_V → cw_M → Prop), cw_C g z (.inr (.inr a) :: As) M nx n' P ∧ n' ≤ n1 ∧ ∀ r M', P r M' → K n' nxt L (cw_tl r ++ rest) M'
  | _ => False
def cw_lI (y z : cw_Y) (idx n : Nat) : Prop := cw_ok z ∧ (Cond.methodLink y.1.cls idx z.1 ∈ cw_tb ∧ Cond.instanceMethod z.1 ∈ cw_tb) ∧ z.1.name = "<init>" ∧ (parseMethodDescriptor z.1.desc).map (fun d => d.parameters.length) = some n ∧ cw_fit y z ∧ z.2.2.2.1 = none
def cw_lN (y z : cw_Y) (host : String) (idx n : Nat) : Prop := cw_ok z ∧ (Cond.methodLinkNest y.1.cls idx z.1 host ∈ cw_nw ∧ Cond.instanceMethod z.1 ∈ cw_tb) ∧ z.1.name = "<init>" ∧ (parseMethodDescriptor z.1.desc).map (fun d => d.parameters.length) = some n ∧ cw_fit y z ∧ z.2.2.2.1 = none
theorem cw_wsn {z : cw_Y} (h : z.2.2.2.1 = none) : cw_ws z = Cond.code z.1 z.2.1 z.2.2.1 none :: cw_tb := by unfold cw_ws; rw [h]
theorem tm_ci {y z : cw_Y} {pc idx n : Nat} (hd : decode y.2.1 pc = .ok (.invokespecial idx, 3)) (hw : cw_lI y z idx n ∨ ∃ host, cw_lN y z host idx n) : cw_tm y pc (t_ci z n (pc + 3)) := by
  intro g n0 n1 nx L S M Q K hK h p e R s m args below meth c mc ms X N9 H locs ls hH hS hL
  unfold t_ci at h
  split at h
  · rename_i a As rest hag
    obtain ⟨⟨h1, h8⟩, n', P, hC, hn', hP⟩ := h
    obtain ⟨hag1, hag2⟩ := cw_ag_is _ _ _ _ _ hag
    obtain ⟨N', ec, es, r1, r2⟩ := cw_N_grow N9 hC.1 hn'
    have hstack : S.map (cw_v g) = (As.map (cw_v g)).reverse ++ .ref (cw_B g + a.toNat) :: rest.map (cw_v g) := by
      have e : S = (.inr (.inr a) :: As : List cw_V).reverse ++ rest := by simpa using hag1.symm
      rw [e, List.map_append, List.map_reverse, List.map_cons, List.reverse_cons, cw_v_ref g h1, List.append_assoc]
      rfl
    have hpre : (((.inr (.inr a) :: As : List cw_V)).map (cw_v g)) = .ref (cw_B g + a.toNat) :: As.map (cw_v g) := by rw [List.map_cons, cw_v_ref g h1]
    have hlen : (As.map (cw_v g)).length = n := by rw [List.length_map]; rw [List.length_cons] at hag2; simpa using hag2
    have run : va_Run p (cw_l g) e R s m args below meth c H locs (nx - n0) (cw_SL nx - cw_SL n0) (n' - nx) (cw_SL n' - cw_SL nx) (F0 m pc ls (S.map (cw_v g))) (rest.map (cw_v g)) (cw_Q g n' P (Value.ref (cw_B g + a.toNat) :: As.map (cw_v g)).toArray) (fun q => cw_B g ≤ q) := by
      have hp : PreS s H (cw_P g (.inr (.inr a) :: As) M nx) (.ref (cw_B g + a.toNat) :: As.map (cw_v g)) := ⟨cw_blind, fun U hU hW => ⟨by rw [hpre], by rw [hU]; exact hH, cw_K_warm X.2.2.2.2.2.2.2.2 hU hW hS⟩⟩
      rcases hw with ⟨hok, ⟨hw1, hw2⟩, hnm, hpar, hfit, hret⟩ | ⟨host, hok, ⟨hw1, hw2⟩, hnm, hpar, hfit, hret⟩
      · exact va_runI (As := As.map (cw_v g)) (rest := rest.map (cw_v g)) ⟨X.1, X.2.1, X.2.2.1, X.2.2.2.2.1, X.2.2.2.2.2.1⟩ hC.2 (cwI n X.2.2.2.2.2.1 (cw_ok_good hok) (cw_wsn hret) rfl rfl (X.2.2.2.2.2.1 _ hok.2.2.1) (X.2.2.2.2.2.1 _ hw1) (X.2.2.2.2.2.1 _ hw2) hnm ⟨hok.2.2.2.1, hok.2.2.2.2, hpar⟩ ⟨by rw [N9.1]; exact hfit.1, by rw [N9.2.1]; exact hfit.2⟩) hp rfl hlen hL.1 hstack (lv_room (by rw [cw_c8_is]; exact h8)) hd ⟨by omega, by omega⟩
      · exact va_runIN (As := As.map (cw_v g)) (rest := rest.map (cw_v g)) ⟨X.1, X.2.1, X.2.2.1, X.2.2.2.2.1, X.2.2.2.2.2.1⟩ hC.2 ⟨va_cnB n X.2.2.2.2.2.1 (cw_ok_good hok) (cw_wsn hret) rfl rfl ((show cw_K g s from X.2.2.2.2.2.2.2.2).2.1 _ hw1) (X.2.2.2.2.2.1 _ hok.2.2.1) ⟨hok.2.2.2.1, hok.2.2.2.2, hpar⟩ ⟨by rw [N9.1]; exact hfit.1, by rw [N9.2.1]; exact hfit.2⟩, hnm, X.2.2.2.2.2.1 _ hw2⟩ hp rfl hlen hL.1 hstack (lv_room (by rw [cw_c8_is]; exact h8)) hd ⟨by omega, by omega⟩
    refine cw_call run hS (fun r M' H1 locs1 hPr hH1 hS1 => ?_)
    rw [cw_tl_map, ec, es]
    exact hK _ _ _ _ _ (hP r M' hPr) p e R s m args below meth c mc ms X N' H1 locs1 ls hH1 hS1 hL
  · exact h.elim
/-- a static method that makes cells -/
def t_csg (z : cw_Y) (n nxt : Nat) : cw_T := fun g n1 nx L S M _ K => match cw_ag n S [] with
  | some (As, rest) => cw_c8 rest ≤ 8 ∧ ∃ (n' : Nat) (P : Option cw_V → cw_M → Prop), cw_C g z As M nx n' P ∧ n' ≤ n1 ∧ ∀ r M', P r M' → K n' nxt L (cw_tl r ++ rest) M'
  | _ => False
theorem tm_csg {y z : cw_Y} {pc idx n : Nat} (hd : decode y.2.1 pc = .ok (.invokestatic idx, 3)) (hw : cw_ls1 y z idx n) : cw_tm y pc (t_csg z n (pc + 3)) := by
  intro g n0 n1 nx L S M Q K hK h p e R s m args below meth c mc ms X N9 H locs ls hH hS hL
  unfold t_csg at h
  split at h
  · rename_i As rest hag
    obtain ⟨h8, n', P, hC, hn', hP⟩ := h
    obtain ⟨hok, ⟨hw1, hw2⟩, hn, hfit⟩ := hw
    obtain ⟨hag1, hag2⟩ := cw_ag_is _ _ _ _ _ hag
    obtain ⟨N', ec, es, r1, r2⟩ := cw_N_grow N9 hC.1 hn'
    have hG : GoodIn cw_tb (va_wsS y.1.cls idx z.1 (cw_ws z)) := by
      intro w hw
      rcases List.mem_append.mp (show w ∈ [Cond.methodLink y.1.cls idx z.1, Cond.static z.1, Cond.initialized z.1.cls] ++ cw_ws z from hw) with hw | hw
      · simp only [List.mem_cons, List.not_mem_nil, or_false] at hw
        rcases hw with rfl | rfl | rfl
        · exact ⟨hw1, cw_tb_good hw1⟩
        · exact ⟨hw2, cw_tb_good hw2⟩
        · exact ⟨hok.2.2.1, cw_tb_good hok.2.2.1⟩
      · exact cw_ok_good hok w hw
    have hstack : S.map (cw_v g) = (As.map (cw_v g)).reverse ++ rest.map (cw_v g) := by
      have e : S = As.reverse ++ rest := by simpa using hag1.symm
      rw [e, List.map_append, List.map_reverse]
    refine cw_call (va_runS (As := As.map (cw_v g)) (rest := rest.map (cw_v g)) ⟨X.1, X.2.1, X.2.2.1, X.2.2.2.2.1, X.2.2.2.2.2.1⟩ hC.2 (va_cwS n X.2.2.2.2.2.1 hG rfl rfl rfl ⟨hok.2.2.2.1, hok.2.2.2.2, hn⟩ ⟨by rw [N9.1]; exact hfit.1, by rw [N9.2.1]; exact hfit.2⟩)
      ⟨cw_blind, fun U hU hW => ⟨rfl, by rw [hU]; exact hH, cw_K_warm X.2.2.2.2.2.2.2.2 hU hW hS⟩⟩ rfl (by rw [List.length_map]; simpa using hag2) hL.1 hstack (lv_room (by rw [cw_c8_is]; exact h8)) hd ⟨by omega, by omega⟩) hS (fun r M' H1 locs1 hPr hH1 hS1 => ?_)
    rw [cw_tl_map, ec, es]
    exact hK _ _ _ _ _ (hP r M' hPr) p e R s m args below meth c mc ms X N' H1 locs1 ls hH1 hS1 hL
  · exact h.elim

/-! the run equations of what makes cells -/
theorem w_new {ci b : Nat} {g : cw_G} {n1 nx : Nat} {L S : List cw_V} {M : cw_M} {Q : Option cw_V → cw_M → Prop} {K : Nat → Nat → List cw_V → List cw_V → cw_M → Prop} : t_new ci b g n1 nx L S M Q K = (cw_kn nx = (ci, 0) ∧ nx + 1 ≤ n1 ∧ ∀ (a : Int) (n' : Nat), a = nx → n' = nx + 1 → K n' b L (.inr (.inr a) :: S) (cw_sf M a (cw_zr ci))) := rfl
theorem w_na {t b : Nat} {n : Int} {g : cw_G} {n1 nx : Nat} {L S : List cw_V} {M : cw_M} {Q : Option cw_V → cw_M → Prop} {K : Nat → Nat → List cw_V → List cw_V → cw_M → Prop} : t_na t b g n1 nx L (.inl n :: S) M Q K = ((cw_kn nx = (20 + t, n.toNat) ∧ 0 ≤ n ∧ n ≤ 7168) ∧ nx + 1 ≤ n1 ∧ ∀ (a : Int) (n' : Nat), a = nx → n' = nx + 1 → K n' b L (.inr (.inr a) :: S) (cw_sf M a (fun _ => 0))) := rfl
theorem w_an {t b : Nat} {n : Int} {g : cw_G} {n1 nx : Nat} {L S : List cw_V} {M : cw_M} {Q : Option cw_V → cw_M → Prop} {K : Nat → Nat → List cw_V → List cw_V → cw_M → Prop} : t_an t b g n1 nx L (.inl n :: S) M Q K = ((cw_kn nx = (20 + t, n.toNat) ∧ 0 ≤ n ∧ n ≤ 7168) ∧ nx + 1 ≤ n1 ∧ ∀ (a : Int) (n' : Nat), a = nx → n' = nx + 1 → K n' b L (.inr (.inr a) :: S) (cw_sf M a (fun _ => -1))) := rfl
theorem w_mn {b : Nat} {x y : Int} {g : cw_G} {n1 nx : Nat} {L S : List cw_V} {M : cw_M} {Q : Option cw_V → cw_M → Prop} {K : Nat → Nat → List cw_V → List cw_V → cw_M → Prop} : t_mn b g n1 nx L (.inl y :: .inl x :: S) M Q K = (((0 ≤ y ∧ y ≤ 7168) ∧ (0 ≤ x ∧ x ≤ 7168)) ∧ (cw_kn nx = (25, x.toNat) ∧ ∀ j : Nat, j < x.toNat → cw_kn (nx + 1 + j) = (20, y.toNat)) ∧ nx + 1 + x.toNat ≤ n1 ∧ ∀ (c : Int) (n' : Nat), c = nx → n' = nx + 1 + x.toNat → K n' b L (.inr (.inr c) :: S) (cw_ml M c x)) := rfl
theorem w_oi {b : Nat} {a : Int} {g : cw_G} {n1 nx : Nat} {L S : List cw_V} {M : cw_M} {Q : Option cw_V → cw_M → Prop} {K : Nat → Nat → List cw_V → List cw_V → cw_M → Prop} : t_oi b g n1 nx L (.inr (.inr a) :: S) M Q K = (0 ≤ a ∧ cw_c8 S ≤ 8 ∧ K nx b L S M) := rfl
theorem w_ci {z : cw_Y} {b : Nat} {a : Int} {g : cw_G} {n1 nx : Nat} {L S : List cw_V} {M : cw_M} {Q : Option cw_V → cw_M → Prop} {K : Nat → Nat → List cw_V → List cw_V → cw_M → Prop} : t_ci z 0 b g n1 nx L (.inr (.inr a) :: S) M Q K = ((0 ≤ a ∧ cw_c8 S ≤ 8) ∧ ∃ (n' : Nat) (P : Option cw_V → cw_M → Prop), cw_C g z [.inr (.inr a)] M nx n' P ∧ n' ≤ n1 ∧ ∀ r M', P r M' → K n' b L (cw_tl r ++ S) M') := rfl
theorem w_csg {z : cw_Y} {x0 : cw_V} {b : Nat} {g : cw_G} {n1 nx : Nat} {L S : List cw_V} {M : cw_M} {Q : Option cw_V → cw_M → Prop} {K : Nat → Nat → List cw_V → List cw_V → cw_M → Prop} : t_csg z 1 b g n1 nx L (x0 :: S) M Q K = (cw_c8 S ≤ 8 ∧ ∃ (n' : Nat) (P : Option cw_V → cw_M → Prop), cw_C g z [x0] M nx n' P ∧ n' ≤ n1 ∧ ∀ r M', P r M' → K n' b L (cw_tl r ++ S) M') := rfl
theorem w_aast {t ci nx : Nat} {x i a : Int} {L S : List cw_V} {M : cw_M} {K : List cw_V → List cw_V → cw_M → Prop} : o_aast t ci nx L (.inr (.inr x) :: .inl i :: .inr (.inr a) :: S) M K = ((cw_kt nx a).1 = 20 + t ∧ (0 ≤ i ∧ i < (cw_kt nx a).2) ∧ cw_kt nx x = (ci, 0) ∧ K L S (cw_up M a i x)) := rfl
