/-! max and min of the library where the stack holds more: the two ticks -/
def o_maxIw : cw_O := fun _ L S M K => match S with
  | .inl y :: .inl x :: S => in32 x ∧ in32 y ∧ cw_c8 S ≤ 28 ∧ K L (.inl (max x y) :: S) M
  | _ => False
theorem at_maxIw {y : cw_Y} {pc idx : Nat} (hd : decode y.2.1 pc = .ok (.invokestatic idx, 3)) (hl : Cond.methodLink y.1.cls idx Lib.Math.max.name ∈ cw_tb) (hs : Cond.static Lib.Math.max.name ∈ cw_tb) (hi : Cond.initialized "java/lang/Math" ∈ cw_tb) (hcd : Cond.code Lib.Math.max.name Lib.Math.max.code 2 (some .int) ∈ cw_tb) (hf : 1 ≤ y.2.2.2.2.1 ∧ 43 ≤ y.2.2.2.2.2) : cw_at y pc o_maxIw 3 := by
  intro g n0 n1 nx L S M Q K hK h p e R s m args below meth c mc ms X N9 H locs ls hH hS hL
  unfold o_maxIw at h
  split at h
  · rename_i y x S
    obtain ⟨hx, hy, h8, h⟩ := h
    have k := hK _ _ _ h p e R s m args below meth c mc ms X N9 H locs ls hH hS hL
    rw [List.map_cons, cw_v_I] at k
    refine va_mmax X.1 X.2.1 (X.2.2.1.trans hL.1.symm) X.2.2.2.2.1 (X.2.2.2.2.2.1 _ hl) (X.2.2.2.2.2.1 _ hs) (X.2.2.2.2.2.1 _ hi) (X.2.2.2.2.2.1 _ hcd) (by rw [N9.1]; exact hf.1) (by rw [cw_c8_is, N9.2.1]; have := hf.2; omega) ?_ ?_ hd ?_
    · have := N9.2.2.1; have := N9.2.2.2.1; have := N9.2.2.2.2.2.2.2; omega
    · have := N9.2.2.2.2.1; have := N9.2.2.2.2.2.1; have := cw_SL_mono N9.2.2.2.2.2.2.2; omega
    ·
      by_cases q : x < y
      · rw [if_pos ((cw_lt2 hx hy).mpr q)]
        rw [show max x y = y by omega] at k
        exact k
      · rw [if_neg (fun z => q ((cw_lt2 hx hy).mp z))]
        rw [show max x y = x by omega] at k
        exact k
  · exact h.elim
def o_maxJw : cw_O := fun _ L S M K => match S with
  | .inr (.inl y) :: .inr (.inl x) :: S => in64 x ∧ in64 y ∧ cw_c8 S ≤ 28 ∧ K L (.inr (.inl (max x y)) :: S) M
  | _ => False
theorem at_maxJw {y : cw_Y} {pc idx : Nat} (hd : decode y.2.1 pc = .ok (.invokestatic idx, 3)) (hl : Cond.methodLink y.1.cls idx Lib.MathLoose.max_long.x ∈ cw_tb) (hs : Cond.static Lib.MathLoose.max_long.x ∈ cw_tb) (hi : Cond.initialized "java/lang/Math" ∈ cw_tb) (hcd : Cond.code Lib.MathLoose.max_long.x Lib.MathLoose.max_long.code 4 (some .long) ∈ cw_tb) (hf : 1 ≤ y.2.2.2.2.1 ∧ 43 ≤ y.2.2.2.2.2) : cw_at y pc o_maxJw 3 := by
  intro g n0 n1 nx L S M Q K hK h p e R s m args below meth c mc ms X N9 H locs ls hH hS hL
  unfold o_maxJw at h
  split at h
  · rename_i y x S
    obtain ⟨hx, hy, h8, h⟩ := h
    have k := hK _ _ _ h p e R s m args below meth c mc ms X N9 H locs ls hH hS hL
    rw [List.map_cons, cw_v_L] at k
    refine va_mmax_long X.1 X.2.1 (X.2.2.1.trans hL.1.symm) X.2.2.2.2.1 (X.2.2.2.2.2.1 _ hl) (X.2.2.2.2.2.1 _ hs) (X.2.2.2.2.2.1 _ hi) (X.2.2.2.2.2.1 _ hcd) (by rw [N9.1]; exact hf.1) (by rw [cw_c8_is, N9.2.1]; have := hf.2; omega) ?_ ?_ hd ?_
    · have := N9.2.2.1; have := N9.2.2.2.1; have := N9.2.2.2.2.2.2.2; omega
    · have := N9.2.2.2.2.1; have := N9.2.2.2.2.2.1; have := cw_SL_mono N9.2.2.2.2.2.2.2; omega
    ·
      have e : (Int64.ofInt y < Int64.ofInt x) ↔ y < x := by rw [Int64.lt_iff_toInt_lt, cw_i64 hx, cw_i64 hy]
      by_cases q : y < x
      · rw [if_pos (e.mpr q)]
        rw [show max x y = x by omega] at k
        exact k
      · rw [if_neg (fun z => q (e.mp z))]
        rw [show max x y = y by omega] at k
        exact k
  · exact h.elim
def o_minJw : cw_O := fun _ L S M K => match S with
  | .inr (.inl y) :: .inr (.inl x) :: S => in64 x ∧ in64 y ∧ cw_c8 S ≤ 28 ∧ K L (.inr (.inl (min x y)) :: S) M
  | _ => False
theorem at_minJw {y : cw_Y} {pc idx : Nat} (hd : decode y.2.1 pc = .ok (.invokestatic idx, 3)) (hl : Cond.methodLink y.1.cls idx Lib.MathLoose.min_long.x ∈ cw_tb) (hs : Cond.static Lib.MathLoose.min_long.x ∈ cw_tb) (hi : Cond.initialized "java/lang/Math" ∈ cw_tb) (hcd : Cond.code Lib.MathLoose.min_long.x Lib.MathLoose.min_long.code 4 (some .long) ∈ cw_tb) (hf : 1 ≤ y.2.2.2.2.1 ∧ 43 ≤ y.2.2.2.2.2) : cw_at y pc o_minJw 3 := by
  intro g n0 n1 nx L S M Q K hK h p e R s m args below meth c mc ms X N9 H locs ls hH hS hL
  unfold o_minJw at h
  split at h
  · rename_i y x S
    obtain ⟨hx, hy, h8, h⟩ := h
    have k := hK _ _ _ h p e R s m args below meth c mc ms X N9 H locs ls hH hS hL
    rw [List.map_cons, cw_v_L] at k
    refine va_mmin_long X.1 X.2.1 (X.2.2.1.trans hL.1.symm) X.2.2.2.2.1 (X.2.2.2.2.2.1 _ hl) (X.2.2.2.2.2.1 _ hs) (X.2.2.2.2.2.1 _ hi) (X.2.2.2.2.2.1 _ hcd) (by rw [N9.1]; exact hf.1) (by rw [cw_c8_is, N9.2.1]; have := hf.2; omega) ?_ ?_ hd ?_
    · have := N9.2.2.1; have := N9.2.2.2.1; have := N9.2.2.2.2.2.2.2; omega
    · have := N9.2.2.2.2.1; have := N9.2.2.2.2.2.1; have := cw_SL_mono N9.2.2.2.2.2.2.2; omega
    ·
      have e : (Int64.ofInt y < Int64.ofInt x) ↔ y < x := by rw [Int64.lt_iff_toInt_lt, cw_i64 hx, cw_i64 hy]
      by_cases q : y < x
      · rw [if_pos (e.mpr q)]
        rw [show min x y = y by omega] at k
        exact k
      · rw [if_neg (fun z => q (e.mp z))]
        rw [show min x y = x by omega] at k
        exact k
  · exact h.elim
theorem w_maxIw {nx : Nat} {x y : Int} {L S : List cw_V} {M : cw_M} {K : List cw_V → List cw_V → cw_M → Prop} : o_maxIw nx L (.inl y :: .inl x :: S) M K = (in32 x ∧ in32 y ∧ cw_c8 S ≤ 28 ∧ K L (.inl (max x y) :: S) M) := rfl
theorem w_maxJw {nx : Nat} {x y : Int} {L S : List cw_V} {M : cw_M} {K : List cw_V → List cw_V → cw_M → Prop} : o_maxJw nx L (.inr (.inl y) :: .inr (.inl x) :: S) M K = (in64 x ∧ in64 y ∧ cw_c8 S ≤ 28 ∧ K L (.inr (.inl (max x y)) :: S) M) := rfl
theorem w_minJw {nx : Nat} {x y : Int} {L S : List cw_V} {M : cw_M} {K : List cw_V → List cw_V → cw_M → Prop} : o_minJw nx L (.inr (.inl y) :: .inr (.inl x) :: S) M K = (in64 x ∧ in64 y ∧ cw_c8 S ≤ 28 ∧ K L (.inr (.inl (min x y)) :: S) M) := rfl
theorem k_Dr_tick_82w : cw_bk y_Dr_tick 82 [o_ald 0, o_gf 1 1 0, o_i2l, o_ald 0, o_gf 1 5 1, o_lmul, o_lsub, o_lst 1, o_ald 0, o_lc 0, o_ald 0, o_gf 1 5 1, o_lld 1, o_ic (1), o_ald 0, o_gf 1 2 0, o_maxIw, o_i2l, o_ldiv, o_ladd, o_maxJw, o_pfL 1 5, o_ald 0, o_dup, o_gf 1 8 0, o_ic (1), o_iadd, o_pfI 1 8] (t_vret) := cw_bcons (at_aldn (k := 0) (by decide +kernel) rfl) <| cw_bcons (at_gf (T := cw_F1) (by decide +kernel) rfl (by decide) fl_Dr_35 rfl) <| cw_bcons (at_i2l (by decide +kernel)) <| cw_bcons (at_aldn (k := 0) (by decide +kernel) rfl) <| cw_bcons (at_gf (T := cw_F1) (by decide +kernel) rfl (by decide) fl_Dr_23 rfl) <| cw_bcons (at_lmul (by decide +kernel)) <| cw_bcons (at_lsub (by decide +kernel)) <| cw_bcons (at_lstn (k := 1) (by decide +kernel) rfl (by decide +kernel)) <| cw_bcons (at_aldn (k := 0) (by decide +kernel) rfl) <| cw_bcons (at_lconst (k := 0) (by decide +kernel) rfl) <| cw_bcons (at_aldn (k := 0) (by decide +kernel) rfl) <| cw_bcons (at_gf (T := cw_F1) (by decide +kernel) rfl (by decide) fl_Dr_23 rfl) <| cw_bcons (at_lldn (k := 1) (by decide +kernel) rfl) <| cw_bcons (at_iconst (by decide +kernel)) <| cw_bcons (at_aldn (k := 0) (by decide +kernel) rfl) <| cw_bcons (at_gf (T := cw_F1) (by decide +kernel) rfl (by decide) fl_Dr_7 rfl) <| cw_bcons (at_maxIw (by decide +kernel) ml_Dr_38 mx_s_maxI in_Jm mx_c_maxI ⟨by decide +kernel, by decide +kernel⟩) <| cw_bcons (at_i2l (by decide +kernel)) <| cw_bcons (at_ldiv (by decide +kernel)) <| cw_bcons (at_ladd (by decide +kernel)) <| cw_bcons (at_maxJw (by decide +kernel) ml_Dr_44 mx_s_maxJ in_Jm mx_c_maxJ ⟨by decide +kernel, by decide +kernel⟩) <| cw_bcons (at_pfL (T := cw_F1) (by decide +kernel) rfl (by decide) fl_Dr_23 rfl (Or.inl rfl)) <| cw_bcons (at_aldn (k := 0) (by decide +kernel) rfl) <| cw_bcons (at_dup (by decide +kernel)) <| cw_bcons (at_gf (T := cw_F1) (by decide +kernel) rfl (by decide) fl_Dr_47 rfl) <| cw_bcons (at_iconst (by decide +kernel)) <| cw_bcons (at_iadd (by decide +kernel)) <| cw_bcons (at_pfI (T := cw_F1) (by decide +kernel) rfl (by decide) fl_Dr_47 rfl (Or.inl rfl)) <| cw_bnil (tm_vret (by decide +kernel) rfl)
theorem k_Bo_tick_75w : cw_bk y_Bo_tick 75 [o_ald 0, o_gf 0 5 2, o_ild 2, o_lc (1000000000), o_lc 0, o_ald 0, o_gf 0 0 2, o_ild 2, o_lald, o_lld 3, o_ic (1), o_ald 0, o_gf 0 1 2, o_ild 2, o_iald, o_maxIw, o_i2l, o_ldiv, o_ladd, o_maxJw, o_minJw, o_last, o_ald 0, o_gf 0 5 2, o_ild 2, o_lald, o_ald 0, o_gf 0 0 2, o_ild 2, o_lald] (t_lceq 129 127) := cw_bcons (at_aldn (k := 0) (by decide +kernel) rfl) <| cw_bcons (at_gf (T := cw_F0) (by decide +kernel) rfl (by decide) fl_Bo_30 rfl) <| cw_bcons (at_ildn (k := 2) (by decide +kernel) rfl) <| cw_bcons (at_ldc2 (by decide +kernel) kc_Bo_36 rfl) <| cw_bcons (at_lconst (k := 0) (by decide +kernel) rfl) <| cw_bcons (at_aldn (k := 0) (by decide +kernel) rfl) <| cw_bcons (at_gf (T := cw_F0) (by decide +kernel) rfl (by decide) fl_Bo_9 rfl) <| cw_bcons (at_ildn (k := 2) (by decide +kernel) rfl) <| cw_bcons (at_lald (by decide +kernel)) <| cw_bcons (at_lldn (k := 3) (by decide +kernel) rfl) <| cw_bcons (at_iconst (by decide +kernel)) <| cw_bcons (at_aldn (k := 0) (by decide +kernel) rfl) <| cw_bcons (at_gf (T := cw_F0) (by decide +kernel) rfl (by decide) fl_Bo_15 rfl) <| cw_bcons (at_ildn (k := 2) (by decide +kernel) rfl) <| cw_bcons (at_iald (by decide +kernel)) <| cw_bcons (at_maxIw (by decide +kernel) ml_Bo_38 mx_s_maxI in_Jm mx_c_maxI ⟨by decide +kernel, by decide +kernel⟩) <| cw_bcons (at_i2l (by decide +kernel)) <| cw_bcons (at_ldiv (by decide +kernel)) <| cw_bcons (at_ladd (by decide +kernel)) <| cw_bcons (at_maxJw (by decide +kernel) ml_Bo_44 mx_s_maxJ in_Jm mx_c_maxJ ⟨by decide +kernel, by decide +kernel⟩) <| cw_bcons (at_minJw (by decide +kernel) ml_Bo_47 mx_s_minJ in_Jm mx_c_minJ ⟨by decide +kernel, by decide +kernel⟩) <| cw_bcons (at_last (by decide +kernel)) <| cw_bcons (at_aldn (k := 0) (by decide +kernel) rfl) <| cw_bcons (at_gf (T := cw_F0) (by decide +kernel) rfl (by decide) fl_Bo_30 rfl) <| cw_bcons (at_ildn (k := 2) (by decide +kernel) rfl) <| cw_bcons (at_lald (by decide +kernel)) <| cw_bcons (at_aldn (k := 0) (by decide +kernel) rfl) <| cw_bcons (at_gf (T := cw_F0) (by decide +kernel) rfl (by decide) fl_Bo_9 rfl) <| cw_bcons (at_ildn (k := 2) (by decide +kernel) rfl) <| cw_bcons (at_lald (by decide +kernel)) <| cw_bnil (tm_lceq (off := 5) (by decide +kernel) (by decide +kernel) (by decide))
