/-! max, min and abs of the library -/
def cw_ab (x : Int) : Int := if 0 ≤ x then x else -x
def o_maxI : cw_O := fun _ L S M K => match S with
  | .inl y :: .inl x :: S => in32 x ∧ in32 y ∧ cw_c8 S ≤ 5 ∧ K L (.inl (max x y) :: S) M
  | _ => False
theorem at_maxI {y : cw_Y} {pc idx : Nat} (hd : decode y.2.1 pc = .ok (.invokestatic idx, 3)) (hl : Cond.methodLink y.1.cls idx Lib.Math.max.name ∈ cw_tb) (hs : Cond.static Lib.Math.max.name ∈ cw_tb) (hi : Cond.initialized "java/lang/Math" ∈ cw_tb) (hcd : Cond.code Lib.Math.max.name Lib.Math.max.code 2 (some .int) ∈ cw_tb) (hf : 1 ≤ y.2.2.2.2.1 ∧ 20 ≤ y.2.2.2.2.2) : cw_at y pc o_maxI 3 := by
  intro g n0 n1 nx L S M Q K hK h p e R s m args below meth c mc ms X N9 H locs ls hH hS hL
  unfold o_maxI at h
  split at h
  · rename_i y x S
    obtain ⟨hx, hy, h8, h⟩ := h
    have k := hK _ _ _ h p e R s m args below meth c mc ms X N9 H locs ls hH hS hL
    rw [List.map_cons, cw_v_I] at k
    refine va_mmax X.1 X.2.1 (X.2.2.1.trans hL.1.symm) X.2.2.2.2.1 (X.2.2.2.2.2.1 _ hl) (X.2.2.2.2.2.1 _ hs) (X.2.2.2.2.2.1 _ hi) (X.2.2.2.2.2.1 _ hcd) (by rw [N9.1]; exact hf.1) (by rw [cw_c8_is, N9.2.1]; have := hf.2; omega) ?_ ?_ hd ?_
    · have := N9.2.2.1; have := N9.2.2.2.1; have := N9.2.2.2.2.2.2.2; omega
    · have := N9.2.2.2.2.1; have := N9.2.2.2.2.2.1; have := cw_SL_mono N9.2.2.2.2.2.2.2; omega
    ·
      by_cases q : x < y
      · rw [if_pos ((cw_lt2 hx hy).mpr q)]
        rw [show max x y = y by omega] at k
        exact k
      · rw [if_neg (fun z => q ((cw_lt2 hx hy).mp z))]
        rw [show max x y = x by omega] at k
        exact k
  · exact h.elim
def o_minI : cw_O := fun _ L S M K => match S with
  | .inl y :: .inl x :: S => in32 x ∧ in32 y ∧ cw_c8 S ≤ 5 ∧ K L (.inl (min x y) :: S) M
  | _ => False
theorem at_minI {y : cw_Y} {pc idx : Nat} (hd : decode y.2.1 pc = .ok (.invokestatic idx, 3)) (hl : Cond.methodLink y.1.cls idx Lib.Math.min.name ∈ cw_tb) (hs : Cond.static Lib.Math.min.name ∈ cw_tb) (hi : Cond.initialized "java/lang/Math" ∈ cw_tb) (hcd : Cond.code Lib.Math.min.name Lib.Math.min.code 2 (some .int) ∈ cw_tb) (hf : 1 ≤ y.2.2.2.2.1 ∧ 20 ≤ y.2.2.2.2.2) : cw_at y pc o_minI 3 := by
  intro g n0 n1 nx L S M Q K hK h p e R s m args below meth c mc ms X N9 H locs ls hH hS hL
  unfold o_minI at h
  split at h
  · rename_i y x S
    obtain ⟨hx, hy, h8, h⟩ := h
    have k := hK _ _ _ h p e R s m args below meth c mc ms X N9 H locs ls hH hS hL
    rw [List.map_cons, cw_v_I] at k
    refine va_mmin X.1 X.2.1 (X.2.2.1.trans hL.1.symm) X.2.2.2.2.1 (X.2.2.2.2.2.1 _ hl) (X.2.2.2.2.2.1 _ hs) (X.2.2.2.2.2.1 _ hi) (X.2.2.2.2.2.1 _ hcd) (by rw [N9.1]; exact hf.1) (by rw [cw_c8_is, N9.2.1]; have := hf.2; omega) ?_ ?_ hd ?_
    · have := N9.2.2.1; have := N9.2.2.2.1; have := N9.2.2.2.2.2.2.2; omega
    · have := N9.2.2.2.2.1; have := N9.2.2.2.2.2.1; have := cw_SL_mono N9.2.2.2.2.2.2.2; omega
    ·
      by_cases q : y < x
      · rw [if_pos ((cw_lt2 hy hx).mpr q)]
        rw [show min x y = y by omega] at k
        exact k
      · rw [if_neg (fun z => q ((cw_lt2 hy hx).mp z))]
        rw [show min x y = x by omega] at k
        exact k
  · exact h.elim
def o_absI : cw_O := fun _ L S M K => match S with
  | .inl x :: S => in32 x ∧ cw_c8 S ≤ 5 ∧ K L (.inl (cw_ab x) :: S) M
  | _ => False
theorem at_absI {y : cw_Y} {pc idx : Nat} (hd : decode y.2.1 pc = .ok (.invokestatic idx, 3)) (hl : Cond.methodLink y.1.cls idx Lib.Math.abs.name ∈ cw_tb) (hs : Cond.static Lib.Math.abs.name ∈ cw_tb) (hi : Cond.initialized "java/lang/Math" ∈ cw_tb) (hcd : Cond.code Lib.Math.abs.name Lib.Math.abs.code 1 (some .int) ∈ cw_tb) (hf : 1 ≤ y.2.2.2.2.1 ∧ 20 ≤ y.2.2.2.2.2) : cw_at y pc o_absI 3 := by
  intro g n0 n1 nx L S M Q K hK h p e R s m args below meth c mc ms X N9 H locs ls hH hS hL
  unfold o_absI at h
  split at h
  · rename_i x S
    obtain ⟨hx, h8, h⟩ := h
    have k := hK _ _ _ h p e R s m args below meth c mc ms X N9 H locs ls hH hS hL
    rw [List.map_cons, cw_v_I] at k
    refine va_mabs X.1 X.2.1 (X.2.2.1.trans hL.1.symm) X.2.2.2.2.1 (X.2.2.2.2.2.1 _ hl) (X.2.2.2.2.2.1 _ hs) (X.2.2.2.2.2.1 _ hi) (X.2.2.2.2.2.1 _ hcd) (by rw [N9.1]; exact hf.1) (by rw [cw_c8_is, N9.2.1]; have := hf.2; omega) ?_ ?_ hd ?_
    · have := N9.2.2.1; have := N9.2.2.2.1; have := N9.2.2.2.2.2.2.2; omega
    · have := N9.2.2.2.2.1; have := N9.2.2.2.2.2.1; have := cw_SL_mono N9.2.2.2.2.2.2.2; omega
    ·
      by_cases q : 0 ≤ x
      · rw [if_pos ((cw_ge0 hx).mpr q)]
        unfold cw_ab at k
        rw [if_pos q] at k
        exact k
      · rw [if_neg (fun z => q ((cw_ge0 hx).mp z))]
        unfold cw_ab at k
        rw [if_neg q, Int32.ofInt_neg] at k
        rw [Int32.zero_sub]
        exact k
  · exact h.elim
def o_maxJ : cw_O := fun _ L S M K => match S with
  | .inr (.inl y) :: .inr (.inl x) :: S => in64 x ∧ in64 y ∧ cw_c8 S ≤ 5 ∧ K L (.inr (.inl (max x y)) :: S) M
  | _ => False
theorem at_maxJ {y : cw_Y} {pc idx : Nat} (hd : decode y.2.1 pc = .ok (.invokestatic idx, 3)) (hl : Cond.methodLink y.1.cls idx Lib.MathLoose.max_long.x ∈ cw_tb) (hs : Cond.static Lib.MathLoose.max_long.x ∈ cw_tb) (hi : Cond.initialized "java/lang/Math" ∈ cw_tb) (hcd : Cond.code Lib.MathLoose.max_long.x Lib.MathLoose.max_long.code 4 (some .long) ∈ cw_tb) (hf : 1 ≤ y.2.2.2.2.1 ∧ 20 ≤ y.2.2.2.2.2) : cw_at y pc o_maxJ 3 := by
  intro g n0 n1 nx L S M Q K hK h p e R s m args below meth c mc ms X N9 H locs ls hH hS hL
  unfold o_maxJ at h
  split at h
  · rename_i y x S
    obtain ⟨hx, hy, h8, h⟩ := h
    have k := hK _ _ _ h p e R s m args below meth c mc ms X N9 H locs ls hH hS hL
    rw [List.map_cons, cw_v_L] at k
    refine va_mmax_long X.1 X.2.1 (X.2.2.1.trans hL.1.symm) X.2.2.2.2.1 (X.2.2.2.2.2.1 _ hl) (X.2.2.2.2.2.1 _ hs) (X.2.2.2.2.2.1 _ hi) (X.2.2.2.2.2.1 _ hcd) (by rw [N9.1]; exact hf.1) (by rw [cw_c8_is, N9.2.1]; have := hf.2; omega) ?_ ?_ hd ?_
    · have := N9.2.2.1; have := N9.2.2.2.1; have := N9.2.2.2.2.2.2.2; omega
    · have := N9.2.2.2.2.1; have := N9.2.2.2.2.2.1; have := cw_SL_mono N9.2.2.2.2.2.2.2; omega
    ·
      have e : (Int64.ofInt y < Int64.ofInt x) ↔ y < x := by rw [Int64.lt_iff_toInt_lt, cw_i64 hx, cw_i64 hy]
      by_cases q : y < x
      · rw [if_pos (e.mpr q)]
        rw [show max x y = x by omega] at k
        exact k
      · rw [if_neg (fun z => q (e.mp z))]
        rw [show max x y = y by omega] at k
        exact k
  · exact h.elim
def o_minJ : cw_O := fun _ L S M K => match S with
  | .inr (.inl y) :: .inr (.inl x) :: S => in64 x ∧ in64 y ∧ cw_c8 S ≤ 5 ∧ K L (.inr (.inl (min x y)) :: S) M
  | _ => False
theorem at_minJ {y : cw_Y} {pc idx : Nat} (hd : decode y.2.1 pc = .ok (.invokestatic idx, 3)) (hl : Cond.methodLink y.1.cls idx Lib.MathLoose.min_long.x ∈ cw_tb) (hs : Cond.static Lib.MathLoose.min_long.x ∈ cw_tb) (hi : Cond.initialized "java/lang/Math" ∈ cw_tb) (hcd : Cond.code Lib.MathLoose.min_long.x Lib.MathLoose.min_long.code 4 (some .long) ∈ cw_tb) (hf : 1 ≤ y.2.2.2.2.1 ∧ 20 ≤ y.2.2.2.2.2) : cw_at y pc o_minJ 3 := by
  intro g n0 n1 nx L S M Q K hK h p e R s m args below meth c mc ms X N9 H locs ls hH hS hL
  unfold o_minJ at h
  split at h
  · rename_i y x S
    obtain ⟨hx, hy, h8, h⟩ := h
    have k := hK _ _ _ h p e R s m args below meth c mc ms X N9 H locs ls hH hS hL
    rw [List.map_cons, cw_v_L] at k
    refine va_mmin_long X.1 X.2.1 (X.2.2.1.trans hL.1.symm) X.2.2.2.2.1 (X.2.2.2.2.2.1 _ hl) (X.2.2.2.2.2.1 _ hs) (X.2.2.2.2.2.1 _ hi) (X.2.2.2.2.2.1 _ hcd) (by rw [N9.1]; exact hf.1) (by rw [cw_c8_is, N9.2.1]; have := hf.2; omega) ?_ ?_ hd ?_
    · have := N9.2.2.1; have := N9.2.2.2.1; have := N9.2.2.2.2.2.2.2; omega
    · have := N9.2.2.2.2.1; have := N9.2.2.2.2.2.1; have := cw_SL_mono N9.2.2.2.2.2.2.2; omega
    ·
      have e : (Int64.ofInt y < Int64.ofInt x) ↔ y < x := by rw [Int64.lt_iff_toInt_lt, cw_i64 hx, cw_i64 hy]
      by_cases q : y < x
      · rw [if_pos (e.mpr q)]
        rw [show min x y = y by omega] at k
        exact k
      · rw [if_neg (fun z => q (e.mp z))]
        rw [show min x y = x by omega] at k
        exact k
  · exact h.elim
def o_absJ : cw_O := fun _ L S M K => match S with
  | .inr (.inl x) :: S => in64 x ∧ cw_c8 S ≤ 5 ∧ K L (.inr (.inl (cw_ab x)) :: S) M
  | _ => False
theorem at_absJ {y : cw_Y} {pc idx : Nat} (hd : decode y.2.1 pc = .ok (.invokestatic idx, 3)) (hl : Cond.methodLink y.1.cls idx Lib.MathLoose.abs_long.x ∈ cw_tb) (hs : Cond.static Lib.MathLoose.abs_long.x ∈ cw_tb) (hi : Cond.initialized "java/lang/Math" ∈ cw_tb) (hcd : Cond.code Lib.MathLoose.abs_long.x Lib.MathLoose.abs_long.code 2 (some .long) ∈ cw_tb) (hf : 1 ≤ y.2.2.2.2.1 ∧ 20 ≤ y.2.2.2.2.2) : cw_at y pc o_absJ 3 := by
  intro g n0 n1 nx L S M Q K hK h p e R s m args below meth c mc ms X N9 H locs ls hH hS hL
  unfold o_absJ at h
  split at h
  · rename_i x S
    obtain ⟨hx, h8, h⟩ := h
    have k := hK _ _ _ h p e R s m args below meth c mc ms X N9 H locs ls hH hS hL
    rw [List.map_cons, cw_v_L] at k
    refine va_mabs_long X.1 X.2.1 (X.2.2.1.trans hL.1.symm) X.2.2.2.2.1 (X.2.2.2.2.2.1 _ hl) (X.2.2.2.2.2.1 _ hs) (X.2.2.2.2.2.1 _ hi) (X.2.2.2.2.2.1 _ hcd) (by rw [N9.1]; exact hf.1) (by rw [cw_c8_is, N9.2.1]; have := hf.2; omega) ?_ ?_ hd ?_
    · have := N9.2.2.1; have := N9.2.2.2.1; have := N9.2.2.2.2.2.2.2; omega
    · have := N9.2.2.2.2.1; have := N9.2.2.2.2.2.1; have := cw_SL_mono N9.2.2.2.2.2.2.2; omega
    ·
      have e : (0 < Int64.ofInt x) ↔ 0 < x := by rw [Int64.lt_iff_toInt_lt, cw_i64 hx]; rfl
      unfold cw_ab at k
      by_cases q : 0 < x
      · rw [if_pos (e.mpr q)]
        rw [if_pos (by omega)] at k
        exact k
      · rw [if_neg (fun z => q (e.mp z))]
        by_cases q0 : 0 ≤ x
        · have q1 : x = 0 := by omega
          subst q1
          exact k
        · rw [if_neg q0, Int64.ofInt_neg] at k
          exact k
  · exact h.elim
