/-! System.arraycopy between two arrays of ints, or of longs -/
def cw_cp (M : cw_M) (a0 sp a dp n : Int) : cw_M := fun a' => if a' = a then (fun k => if dp ≤ k ∧ k < dp + n then M a0 (sp + (k - dp)) else M a k) else M a'
def o_cp (t : Nat) : cw_O := fun nx L S M K => match S with
  | .inl n :: .inl dp :: .inr (.inr a) :: .inl sp :: .inr (.inr a0) :: S => ((cw_kt nx a0).1 = 20 + t ∧ (cw_kt nx a).1 = 20 + t) ∧ (0 ≤ sp ∧ 0 ≤ dp ∧ 0 ≤ n ∧ sp + n ≤ (cw_kt nx a0).2 ∧ dp + n ≤ (cw_kt nx a).2) ∧ cw_c8 S ≤ 2 ∧ K L S (cw_cp M a0 sp a dp n)
  | _ => False
theorem cw_cpE {g : cw_G} {M : cw_M} {a0 sp a dp n : Int} {j : Nat} (h : (j : Int) ≠ a) : cw_E g (cw_cp M a0 sp a dp n) j = cw_E g M j := by
  unfold cw_E
  rw [show cw_cp M a0 sp a dp n (j : Int) = M j from if_neg h]
theorem cw_cpv {f h : Int → Int} {sp dp n : Int} (hs : 0 ≤ sp) (hd : 0 ≤ dp) (hn : 0 ≤ n) {α : Type} (mk : Int → α) :
    va_cpy (fun j : Nat => mk (f j)) (fun j : Nat => mk (h j)) sp.toNat dp.toNat n.toNat = fun j : Nat => mk (if dp ≤ (j : Int) ∧ (j : Int) < dp + n then f (sp + ((j : Int) - dp)) else h j) := by
  funext j
  unfold va_cpy
  by_cases hj : dp ≤ (j : Int) ∧ (j : Int) < dp + n
  · rw [if_pos (show dp.toNat ≤ j ∧ j < dp.toNat + n.toNat by omega), if_pos hj]
    have e : ((sp.toNat + (j - dp.toNat) : Nat) : Int) = sp + ((j : Int) - dp) := by omega
    show mk (f ((sp.toNat + (j - dp.toNat) : Nat) : Int)) = _
    rw [e]
  · rw [if_neg (show ¬ (dp.toNat ≤ j ∧ j < dp.toNat + n.toNat) by omega), if_neg hj]
theorem at_cp {y : cw_Y} {pc idx t : Nat} (hd : decode y.2.1 pc = .ok (.invokestatic idx, 3)) (ht : t < 2) (hw1 : Cond.methodLink y.1.cls idx arraycopyName ∈ cw_tb) (hw2 : Cond.native arraycopyName ∈ cw_tb) (hw3 : Cond.static arraycopyName ∈ cw_tb) (hw4 : Cond.initialized "java/lang/System" ∈ cw_tb) (hf : 1 ≤ y.2.2.2.2.1 ∧ 20 ≤ y.2.2.2.2.2) : cw_at y pc (o_cp t) 3 := by
  intro g n0 n1 nx L S M Q K hK h p e R s m args below meth c mc ms X N9 H locs ls hH hS hL
  unfold o_cp at h
  split at h
  · rename_i n dp a sp a0 S
    obtain ⟨⟨h1, h2⟩, ⟨hsp, hdp, hn, hb0, hb1⟩, hc8, hk⟩ := h
    have hle0 := cw_kt_le nx a0
    have hle1 := cw_kt_le nx a
    obtain ⟨ha0, hak0, hw0⟩ := cw_arr (g := g) (M := M) (t := t) h1 (by omega)
    obtain ⟨ha1, hak1, hw1'⟩ := cw_arr (g := g) (M := M) (t := t) h2 (by omega)
    rw [List.map_cons, List.map_cons, List.map_cons, List.map_cons, List.map_cons, cw_v_ref g ha0, cw_v_ref g ha1, cw_v_I, cw_v_I, cw_v_I]
    have esp : (Int32.ofInt sp).toInt = sp := cw_i32 ⟨by omega, by omega⟩
    have edp : (Int32.ofInt dp).toInt = dp := cw_i32 ⟨by omega, by omega⟩
    have en : (Int32.ofInt n).toInt = n := cw_i32 ⟨by omega, by omega⟩
    have nsp : (Int32.ofInt sp).toNatClampNeg = sp.toNat := by show (Int32.ofInt sp).toInt.toNat = _; rw [esp]
    have ndp : (Int32.ofInt dp).toNatClampNeg = dp.toNat := by show (Int32.ofInt dp).toInt.toNat = _; rw [edp]
    have nn : (Int32.ofInt n).toNatClampNeg = n.toNat := by show (Int32.ofInt n).toInt.toNat = _; rw [en]
    have neg : ∀ {z : Int}, (Int32.ofInt z).toInt = z → 0 ≤ z → ¬ Int32.ofInt z < 0 := fun e h q => by
      rw [Int32.lt_iff_toInt_lt, e] at q
      have : (0 : Int32).toInt = 0 := rfl
      omega
    -- the value of an element
    obtain ⟨mk, hmk, hfit⟩ : ∃ mk : Int → Value, (∀ (cA : ClassId) (N : Nat) (f : Int → Int), vp_cell cA (N, cw_ct g t f) = arrV cA N (fun j : Nat => mk (f j))) ∧ ∀ z, fits (cw_ty t) (mk z) = true ∧ ∀ (U : State) (q : ClassId), U.takes q (mk z) := by
      rcases (show t = 0 ∨ t = 1 by omega) with rfl | rfl
      · exact ⟨fun z => .int (Int32.ofInt z), fun _ _ _ => rfl, fun _ => ⟨rfl, fun _ _ => trivial⟩⟩
      · exact ⟨fun z => .long (Int64.ofInt z), fun _ _ _ => rfl, fun _ => ⟨rfl, fun _ _ => trivial⟩⟩
    have hc0 : H[cw_B g + a0.toNat]? = some (arrV (cw_dA g t) (cw_kt nx a0).2 (fun j : Nat => mk (M a0 j))) := by rw [← hmk]; exact hH.2 _ _ hw0
    have hc1 : H[cw_B g + a.toNat]? = some (arrV (cw_dA g t) (cw_kt nx a).2 (fun j : Nat => mk (M a j))) := by rw [← hmk]; exact hH.2 _ _ hw1'
    have hprim : refKind (cw_ty t) = false := by rcases (show t = 0 ∨ t = 1 by omega) with rfl | rfl <;> rfl
    have hArr := (X.2.2.2.2.2.2.2.2.1.2 t _ (cw_tys_get g (t := t) (by omega))).1
    obtain ⟨-, k0, hk0, cm0, hkk0⟩ := hArr (cw_kt nx a0).2 (fun j : Nat => mk (M a0 j))
    obtain ⟨-, k1, hk1, cm1, hkk1⟩ := hArr (cw_kt nx a).2 (fun j : Nat => mk (M a j))
    intro T hT X2
    obtain ⟨vm', X', step⟩ := X2.arraycopy X.1 X.2.2.2.2.1 (X.2.2.2.2.2.1 _ hw1) (X.2.2.2.2.2.1 _ hw2) (X.2.2.2.2.2.1 _ hw3) (X.2.2.2.2.2.1 _ hw4) (src := cw_B g + a0.toNat) (dst := cw_B g + a.toNat) (srcPos := Int32.ofInt sp) (destPos := Int32.ofInt dp) (n := Int32.ofInt n) (by rw [hT]; exact hc0) (by rw [hT]; exact hc1)
      (fun _ h => by cases h) (fun _ h => by cases h) (fun h => by cases h) (fun h => by cases h) hk0 hk1 hkk0 hkk1 (by simp [hprim]) (neg esp hsp) (neg edp hdp) (neg en hn)
      (by rw [esp, en, arrV_size]; omega) (by rw [edp, en, arrV_size]; omega)
      (fun vm₁ _ i hi => by
        rw [nn] at hi
        have e9 : (arrV (cw_dA g t) (cw_kt nx a0).2 (fun j : Nat => mk (M a0 j))).slots.getD ((Int32.ofInt sp).toNatClampNeg + i) .null = mk (M a0 (((Int32.ofInt sp).toNatClampNeg + i : Nat) : Int)) := by
          rw [Array.getD_eq_getD_getElem?, arrV_read _ _ (by rw [nsp]; omega)]
          rfl
        rw [e9]
        exact ⟨(hfit _).1, (hfit _).2 _ _⟩)
      (g := F0 m pc ls (.int (Int32.ofInt n) :: .int (Int32.ofInt dp) :: .ref (cw_B g + a.toNat) :: .int (Int32.ofInt sp) :: .ref (cw_B g + a0.toNat) :: S.map (cw_v g))) rfl (by show ls.size = _; rw [hL.1]; exact X.2.2.1.symm) (rest := S.map (cw_v g)) rfl (by rw [X.2.1]; exact hd) (by rw [N9.1]; exact hf.1)
      (by
        have h7 : nativeFrameWords "java/lang/System" "arraycopy" 5 = 7 := by decide +kernel
        show 2 * 0 + _ + _ ≤ _
        rw [cw_c8_is, h7, N9.2.1]
        omega)
    have e1 : copied (arrV (cw_dA g t) (cw_kt nx a0).2 (fun j : Nat => mk (M a0 j))) (arrV (cw_dA g t) (cw_kt nx a).2 (fun j : Nat => mk (M a j))) (Int32.ofInt sp) (Int32.ofInt dp) (Int32.ofInt n) = vp_cell (cw_dA g t) ((cw_kt nx a).2, cw_ct g t (cw_cp M a0 sp a dp n a)) := by
      have e2 := va_copied (fun z : Value => z) (cw_dA g t) (cw_dA g t) (n0 := (cw_kt nx a0).2) (n1 := (cw_kt nx a).2) (sp := sp.toNat) (dp := dp.toNat) (n := n.toNat) (fun j : Nat => mk (M a0 j)) (fun j : Nat => mk (M a j)) (by omega)
      rw [cw_cpv hsp hdp hn mk] at e2
      rw [hmk]
      rw [show cw_cp M a0 sp a dp n a = (fun k => if dp ≤ k ∧ k < dp + n then M a0 (sp + (k - dp)) else M a k) from if_pos rfl]
      refine Eq.trans ?_ e2
      unfold copied
      rw [nsp, ndp, nn]
    rw [e1] at X' step
    have hl : cw_B g + a.toNat < H.size := (Array.getElem?_eq_some_iff.mp hc1).1
    have hheap : ((T.setVm vm').setCell (cw_B g + a.toNat) (vp_cell (cw_dA g t) ((cw_kt nx a).2, cw_ct g t (cw_cp M a0 sp a dp n a)))).heap = H.setIfInBounds (cw_B g + a.toNat) (vp_cell (cw_dA g t) ((cw_kt nx a).2, cw_ct g t (cw_cp M a0 sp a dp n a))) := by rw [← hT]; rfl
    have oq : ∀ q : Nat, q ≠ cw_B g + a.toNat → (H.setIfInBounds (cw_B g + a.toNat) (vp_cell (cw_dA g t) ((cw_kt nx a).2, cw_ct g t (cw_cp M a0 sp a dp n a))))[q]? = H[q]? := fun q hq => by simp [Array.getElem?_setIfInBounds, Ne.symm hq]
    have hH1 : cw_H g nx (cw_cp M a0 sp a dp n) (H.setIfInBounds (cw_B g + a.toNat) (vp_cell (cw_dA g t) ((cw_kt nx a).2, cw_ct g t (cw_cp M a0 sp a dp n a)))) := by
      refine ⟨by rw [Array.size_setIfInBounds]; exact hH.1, ?_⟩
      have hset : (cw_w g nx M).set a.toNat (cw_B g + a.toNat, .inl (cw_dA g t, (cw_kt nx a).2, cw_ct g t (cw_cp M a0 sp a dp n a))) = cw_w g nx (cw_cp M a0 sp a dp n) :=
        cw_w_set (cw_E_arr ha1 hak1) (fun j hj => cw_cpE (by omega))
      rw [← hset]
      refine hH.2.set (cw_D g nx M) hw1' ?_ oq
      show (H.setIfInBounds (cw_B g + a.toNat) _)[cw_B g + a.toNat]? = some _
      simp [Array.getElem?_setIfInBounds, hl]
    obtain ⟨t2, a1, b1⟩ := hK _ _ _ hk p e R s m args below meth c mc ms X N9 _ _ ls hH1 (⟨by rw [Array.size_setIfInBounds]; exact hS.1, fun q g1 g2 => by
        rw [oq q (fun e => g2 (by rw [e]; exact Nat.le_add_right _ _))]
        exact hS.2.1 q g1 g2, fun q hq => by
        rcases List.mem_append.mp hq with h | h
        · exact hS.2.2 q h
        · obtain ⟨z, -, hz⟩ := List.mem_map.mp h
          rw [← hz]
          exact Nat.le_add_right _ _⟩) hL _ hheap X'
    exact ⟨t2, step t2 a1, b1⟩
  · exact h.elim
