/-! arrays -/
theorem cw_ix {i : Int} {n : Nat} (h0 : 0 ≤ i) (h1 : i < n) (hn : n ≤ 7168) : vp_in (Int32.ofInt i) n ∧ (Int32.ofInt i).toNatClampNeg = i.toNat := by
  have h : in32 i := ⟨by omega, by omega⟩
  have e := cw_i32 h
  refine ⟨vp_in_iff.mpr ⟨by rw [e]; exact h0, by rw [e]; exact h1⟩, ?_⟩
  show (Int32.ofInt i).toInt.toNat = i.toNat
  rw [e]
theorem cw_arr {g : cw_G} {nx t : Nat} {M : cw_M} {a : Int} (h : (cw_kt nx a).1 = 20 + t) (ht : t < 6) : 0 ≤ a ∧ cw_kn a.toNat = (20 + t, (cw_kt nx a).2) ∧ (cw_w g nx M)[a.toNat]? = some (cw_B g + a.toNat, .inl (cw_dA g t, (cw_kt nx a).2, cw_ct g t (M a))) := by
  obtain ⟨h0, h1, h2⟩ := cw_kt_1 h (by omega)
  refine ⟨h0, h2, ?_⟩
  rw [cw_w_get h1, cw_E_arr h0 h2]
/-- elements are read: ints, longs, booleans, references -/
def o_iald : cw_O := fun nx L S M K => match S with
  | .inl i :: .inr (.inr a) :: S => (cw_kt nx a).1 = 20 ∧ (0 ≤ i ∧ i < (cw_kt nx a).2) ∧ K L (.inl (M a i) :: S) M
  | _ => False
def o_lald : cw_O := fun nx L S M K => match S with
  | .inl i :: .inr (.inr a) :: S => (cw_kt nx a).1 = 21 ∧ (0 ≤ i ∧ i < (cw_kt nx a).2) ∧ K L (.inr (.inl (M a i)) :: S) M
  | _ => False
def o_zald : cw_O := fun nx L S M K => match S with
  | .inl i :: .inr (.inr a) :: S => (cw_kt nx a).1 = 22 ∧ (0 ≤ i ∧ i < (cw_kt nx a).2) ∧ K L (.inl (M a i) :: S) M
  | _ => False
def o_aald (t : Nat) : cw_O := fun nx L S M K => match S with
  | .inl i :: .inr (.inr a) :: S => (cw_kt nx a).1 = 20 + t ∧ (0 ≤ i ∧ i < (cw_kt nx a).2) ∧ K L (.inr (.inr (M a i)) :: S) M
  | _ => False
theorem at_iald {y : cw_Y} {pc : Nat} (hd : decode y.2.1 pc = .ok (.iaload, 1)) : cw_at y pc o_iald 1 := by
  intro g n0 n1 nx L S M Q K hK h p e R s m args below meth c mc ms X N9 H locs ls hH hS hL
  unfold o_iald at h
  split at h
  · rename_i i a S
    obtain ⟨h1, h2, h3⟩ := h
    obtain ⟨ha0, hak, ha⟩ := cw_arr (g := g) (M := M) (t := 0) h1 (by decide)
    obtain ⟨hi, hc⟩ := cw_ix h2.1 h2.2 (cw_kt_le nx a)
    have k := hK _ _ _ h3 p e R s m args below meth c mc ms X N9 H locs ls hH hS hL
    rw [List.map_cons, cw_v_I] at k
    rw [List.map_cons, List.map_cons, cw_v_ref g ha0, cw_v_I]
    refine va_iald X.1 X.2.1 X.2.2.2.2.2.2.2.2.1 hH.2 a.toNat 0 ha (cw_tys_get g (t := 0) (by decide)) hi hd ?_
    rw [hc, Int.toNat_of_nonneg h2.1]
    exact k
  · exact h.elim
theorem at_lald {y : cw_Y} {pc : Nat} (hd : decode y.2.1 pc = .ok (.laload, 1)) : cw_at y pc o_lald 1 := by
  intro g n0 n1 nx L S M Q K hK h p e R s m args below meth c mc ms X N9 H locs ls hH hS hL
  unfold o_lald at h
  split at h
  · rename_i i a S
    obtain ⟨h1, h2, h3⟩ := h
    obtain ⟨ha0, hak, ha⟩ := cw_arr (g := g) (M := M) (t := 1) h1 (by decide)
    obtain ⟨hi, hc⟩ := cw_ix h2.1 h2.2 (cw_kt_le nx a)
    have k := hK _ _ _ h3 p e R s m args below meth c mc ms X N9 H locs ls hH hS hL
    rw [List.map_cons, cw_v_L] at k
    rw [List.map_cons, List.map_cons, cw_v_ref g ha0, cw_v_I]
    refine va_lald X.1 X.2.1 X.2.2.2.2.2.2.2.2.1 hH.2 a.toNat 1 ha (cw_tys_get g (t := 1) (by decide)) hi hd ?_
    rw [hc, Int.toNat_of_nonneg h2.1]
    exact k
  · exact h.elim
theorem at_zald {y : cw_Y} {pc : Nat} (hd : decode y.2.1 pc = .ok (.baload, 1)) : cw_at y pc o_zald 1 := by
  intro g n0 n1 nx L S M Q K hK h p e R s m args below meth c mc ms X N9 H locs ls hH hS hL
  unfold o_zald at h
  split at h
  · rename_i i a S
    obtain ⟨h1, h2, h3⟩ := h
    obtain ⟨ha0, hak, ha⟩ := cw_arr (g := g) (M := M) (t := 2) h1 (by decide)
    obtain ⟨hi, hc⟩ := cw_ix h2.1 h2.2 (cw_kt_le nx a)
    have k := hK _ _ _ h3 p e R s m args below meth c mc ms X N9 H locs ls hH hS hL
    rw [List.map_cons, cw_v_I] at k
    rw [List.map_cons, List.map_cons, cw_v_ref g ha0, cw_v_I]
    refine va_zald X.1 X.2.1 X.2.2.2.2.2.2.2.2.1 hH.2 a.toNat 2 ha (cw_tys_get g (t := 2) (by decide)) hi hd ?_
    rw [hc, Int.toNat_of_nonneg h2.1]
    exact k
  · exact h.elim
theorem at_aald {y : cw_Y} {pc t : Nat} (hd : decode y.2.1 pc = .ok (.aaload, 1)) (h3 : 3 ≤ t) (h6 : t < 6) : cw_at y pc (o_aald t) 1 := by
  intro g n0 n1 nx L S M Q K hK h p e R s m args below meth c mc ms X N9 H locs ls hH hS hL
  unfold o_aald at h
  split at h
  · rename_i i a S
    obtain ⟨h1, h2, h4⟩ := h
    obtain ⟨ha0, hak, ha⟩ := cw_arr (g := g) (M := M) (t := t) h1 h6
    obtain ⟨hi, hc⟩ := cw_ix h2.1 h2.2 (cw_kt_le nx a)
    have k := hK _ _ _ h4 p e R s m args below meth c mc ms X N9 H locs ls hH hS hL
    rw [List.map_cons, cw_v_R] at k
    rw [List.map_cons, List.map_cons, cw_v_ref g ha0, cw_v_I]
    have ect : cw_ct g t (M a) = .inr (.inr (.inr (.inr (fun j => cw_ro g (M a j))))) := by
      rcases (show t = 3 ∨ t = 4 ∨ t = 5 by omega) with rfl | rfl | rfl <;> rfl
    have hty : (cw_ty t).isReference = true := by
      rcases (show t = 3 ∨ t = 4 ∨ t = 5 by omega) with rfl | rfl | rfl <;> rfl
    rw [ect] at ha
    have hlt : (Int32.ofInt i).toNatClampNeg < (cw_kt nx a).2 := Nat.not_le.mp fun q => hi (Or.inr q)
    refine W.aald (v := va_rf (cw_ro g (M a i))) X.1 X.2.1 (hH.2 _ _ ha) ((X.2.2.2.2.2.2.2.2.1.2 t _ (cw_tys_get g h6)).1 _ (fun j => va_rf (cw_ro g (M a j)))) hty (fun q => by cases q) (by show ¬ (_ ∨ (arrV _ _ _).slots.size ≤ _); rw [arrV_size]; exact hi) (by show (arrV _ _ _).slots[_]? = _; rw [arrV_read _ _ hlt, hc]; show some (va_rf (cw_ro g (M a (i.toNat : Int)))) = _; rw [Int.toNat_of_nonneg h2.1]) rfl rfl hd k
  · exact h.elim
/-- an element is laid: the world behind it -/
theorem cw_arr_set {g : cw_G} {nx t : Nat} {M : cw_M} {a i x : Int} (h : (cw_kt nx a).1 = 20 + t) (ht : t < 6) {e : (Nat → Int32) ⊕ (Nat → Int64) ⊕ (Nat → UInt32) ⊕ (Nat → UInt64) ⊕ (Nat → Option Nat)} (he : cw_ct g t (fun j => if j = i then x else M a j) = e) :
    (cw_w g nx M).set a.toNat (cw_B g + a.toNat, .inl (cw_dA g t, (cw_kt nx a).2, e)) = cw_w g nx (cw_up M a i x) := by
  obtain ⟨ha0, hak, ha⟩ := cw_arr (g := g) (M := M) (t := t) h ht
  refine cw_w_set ?_ (fun j hj => cw_E_ne (by omega))
  rw [cw_E_arr ha0 hak, cw_up_at, he]
def o_iast : cw_O := fun nx L S M K => match S with
  | .inl x :: .inl i :: .inr (.inr a) :: S => (cw_kt nx a).1 = 20 ∧ (0 ≤ i ∧ i < (cw_kt nx a).2) ∧ K L S (cw_up M a i x)
  | _ => False
def o_last : cw_O := fun nx L S M K => match S with
  | .inr (.inl x) :: .inl i :: .inr (.inr a) :: S => (cw_kt nx a).1 = 21 ∧ (0 ≤ i ∧ i < (cw_kt nx a).2) ∧ K L S (cw_up M a i x)
  | _ => False
def o_zast : cw_O := fun nx L S M K => match S with
  | .inl x :: .inl i :: .inr (.inr a) :: S => (cw_kt nx a).1 = 22 ∧ (0 ≤ i ∧ i < (cw_kt nx a).2) ∧ (x = 0 ∨ x = 1) ∧ K L S (cw_up M a i x)
  | _ => False
theorem cw_ast {g : cw_G} {nx t : Nat} {M : cw_M} {a i x : Int} {H H' : Heap} {v : Value} (h : (cw_kt nx a).1 = 20 + t) (ht : t < 6) (hH : cw_H g nx M H)
    (e1 : H'[cw_B g + a.toNat]? = some ((vp_cell (cw_dA g t) ((cw_kt nx a).2, cw_ct g t (M a))).setSlot (Int32.ofInt i).toNatClampNeg v)) (e2 : H'.size = H.size) (e3 : ∀ q : Nat, q ≠ cw_B g + a.toNat → H'[q]? = H[q]?)
    (hv : (vp_cell (cw_dA g t) ((cw_kt nx a).2, cw_ct g t (M a))).setSlot (Int32.ofInt i).toNatClampNeg v = vp_cell (cw_dA g t) ((cw_kt nx a).2, cw_ct g t (fun j => if j = i then x else M a j))) : cw_H g nx (cw_up M a i x) H' := by
  obtain ⟨ha0, hak, ha⟩ := cw_arr (g := g) (M := M) (t := t) h ht
  refine ⟨e2.trans hH.1, ?_⟩
  rw [← cw_arr_set (g := g) (M := M) (i := i) (x := x) h ht rfl]
  refine hH.2.set (cw_D g nx M) ha ?_ e3
  show H'[cw_B g + a.toNat]? = some (vp_cell _ _)
  rw [e1, hv]
theorem cw_av {i : Int} {f : Int → Int} {x : Int} (mk : Int → Value) (h0 : 0 ≤ i) : updV (fun j : Nat => mk (f j)) i.toNat (mk x) = fun j : Nat => mk (if (j : Int) = i then x else f j) := by
  funext j
  by_cases hj : (j : Int) = i
  · have hj2 : j = i.toNat := by omega
    simp only [updV, if_pos hj, if_pos hj2]
  · have hj2 : ¬ j = i.toNat := by omega
    simp only [updV, if_neg hj, if_neg hj2]
theorem at_iast {y : cw_Y} {pc : Nat} (hd : decode y.2.1 pc = .ok (.iastore, 1)) : cw_at y pc o_iast 1 := by
  intro g n0 n1 nx L S M Q K hK h p e R s m args below meth c mc ms X N9 H locs ls hH hS hL
  unfold o_iast at h
  split at h
  · rename_i x i a S
    obtain ⟨h1, h2, h3⟩ := h
    obtain ⟨ha0, hak, ha⟩ := cw_arr (g := g) (M := M) (t := 0) h1 (by decide)
    obtain ⟨hi, hc⟩ := cw_ix h2.1 h2.2 (cw_kt_le nx a)
    rw [List.map_cons, List.map_cons, List.map_cons, cw_v_ref g ha0, cw_v_I, cw_v_I]
    have hcell := hH.2 _ _ ha
    refine W.iast X.1 X.2.1 (cell := vp_cell (cw_dA g 0) ((cw_kt nx a).2, cw_ct g 0 (M a))) hcell ((X.2.2.2.2.2.2.2.2.1.2 0 _ (cw_tys_get g (t := 0) (by decide))).1 _ (fun j : Nat => (fun z => Value.int (Int32.ofInt z)) (M a j))) (fun q => by cases q) (by show ¬ (_ ∨ (arrV _ _ _).slots.size ≤ _); rw [arrV_size]; exact hi) rfl rfl hd fun H' e1 e2 e3 => ?_
    refine hK _ _ _ h3 p e R s m args below meth c mc ms X N9 H' _ ls (cw_ast (t := 0) (i := i) (x := x) h1 (by decide) hH e1 e2 e3 ?_) (hS.put e2 e3 (Nat.le_add_right _ _)) hL
    show (arrV _ _ (fun j : Nat => (fun z => Value.int (Int32.ofInt z)) (M a j))).setSlot _ _ = arrV _ _ (fun j : Nat => (fun z => Value.int (Int32.ofInt z)) (if (j : Int) = i then x else M a j))
    rw [arrV_store, hc]
    exact congrArg _ (cw_av (fun z => Value.int (Int32.ofInt z)) h2.1)
  · exact h.elim
theorem at_last {y : cw_Y} {pc : Nat} (hd : decode y.2.1 pc = .ok (.lastore, 1)) : cw_at y pc o_last 1 := by
  intro g n0 n1 nx L S M Q K hK h p e R s m args below meth c mc ms X N9 H locs ls hH hS hL
  unfold o_last at h
  split at h
  · rename_i x i a S
    obtain ⟨h1, h2, h3⟩ := h
    obtain ⟨ha0, hak, ha⟩ := cw_arr (g := g) (M := M) (t := 1) h1 (by decide)
    obtain ⟨hi, hc⟩ := cw_ix h2.1 h2.2 (cw_kt_le nx a)
    rw [List.map_cons, List.map_cons, List.map_cons, cw_v_ref g ha0, cw_v_L, cw_v_I]
    have hcell := hH.2 _ _ ha
    refine W.last X.1 X.2.1 (cell := vp_cell (cw_dA g 1) ((cw_kt nx a).2, cw_ct g 1 (M a))) hcell ((X.2.2.2.2.2.2.2.2.1.2 1 _ (cw_tys_get g (t := 1) (by decide))).1 _ (fun j : Nat => (fun z => Value.long (Int64.ofInt z)) (M a j))) (fun q => by cases q) (by show ¬ (_ ∨ (arrV _ _ _).slots.size ≤ _); rw [arrV_size]; exact hi) rfl rfl hd fun H' e1 e2 e3 => ?_
    refine hK _ _ _ h3 p e R s m args below meth c mc ms X N9 H' _ ls (cw_ast (t := 1) (i := i) (x := x) h1 (by decide) hH e1 e2 e3 ?_) (hS.put e2 e3 (Nat.le_add_right _ _)) hL
    show (arrV _ _ (fun j : Nat => (fun z => Value.long (Int64.ofInt z)) (M a j))).setSlot _ _ = arrV _ _ (fun j : Nat => (fun z => Value.long (Int64.ofInt z)) (if (j : Int) = i then x else M a j))
    rw [arrV_store, hc]
    exact congrArg _ (cw_av (fun z => Value.long (Int64.ofInt z)) h2.1)
  · exact h.elim
theorem at_zast {y : cw_Y} {pc : Nat} (hd : decode y.2.1 pc = .ok (.bastore, 1)) : cw_at y pc o_zast 1 := by
  intro g n0 n1 nx L S M Q K hK h p e R s m args below meth c mc ms X N9 H locs ls hH hS hL
  unfold o_zast at h
  split at h
  · rename_i x i a S
    obtain ⟨h1, h2, hx01, h3⟩ := h
    obtain ⟨ha0, hak, ha⟩ := cw_arr (g := g) (M := M) (t := 2) h1 (by decide)
    obtain ⟨hi, hc⟩ := cw_ix h2.1 h2.2 (cw_kt_le nx a)
    rw [List.map_cons, List.map_cons, List.map_cons, cw_v_ref g ha0, cw_v_I, cw_v_I]
    have hcell := hH.2 _ _ ha
    have hnar : narrow .boolean (.int (Int32.ofInt x)) = .int (Int32.ofInt x) := by rcases hx01 with rfl | rfl <;> rfl
    refine W.zast X.1 X.2.1 (cell := vp_cell (cw_dA g 2) ((cw_kt nx a).2, cw_ct g 2 (M a))) hcell ((X.2.2.2.2.2.2.2.2.1.2 2 _ (cw_tys_get g (t := 2) (by decide))).1 _ (fun j : Nat => (fun z => Value.int (Int32.ofInt z)) (M a j))) (fun q => by cases q) (by show ¬ (_ ∨ (arrV _ _ _).slots.size ≤ _); rw [arrV_size]; exact hi) rfl rfl hd fun H' e1 e2 e3 => ?_
    refine hK _ _ _ h3 p e R s m args below meth c mc ms X N9 H' _ ls (cw_ast (t := 2) (i := i) (x := x) h1 (by decide) hH (e1.trans (by rw [hnar])) e2 e3 ?_) (hS.put e2 e3 (Nat.le_add_right _ _)) hL
    show (arrV _ _ (fun j : Nat => (fun z => Value.int (Int32.ofInt z)) (M a j))).setSlot _ _ = arrV _ _ (fun j : Nat => (fun z => Value.int (Int32.ofInt z)) (if (j : Int) = i then x else M a j))
    rw [arrV_store, hc]
    exact congrArg _ (cw_av (fun z => Value.int (Int32.ofInt z)) h2.1)
  · exact h.elim
