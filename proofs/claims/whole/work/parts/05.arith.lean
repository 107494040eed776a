/-! arithmetic: ring operations as on whole numbers, the rest within its range -/
def o_iadd : cw_O := fun _ L S M K => match S with
  | .inl b :: .inl a :: S => K L (.inl (a + b) :: S) M
  | _ => False
theorem at_iadd {y : cw_Y} {pc : Nat} (hd : decode y.2.1 pc = .ok (.iadd, 1)) : cw_at y pc o_iadd 1 := by
  intro g n0 n1 nx L S M Q K hK h
  unfold o_iadd at h
  split at h
  · rename_i b a S
    refine cw_lift (fun p e R s m args below meth c Qw H locs cells slots ls hx hb k => ?_) (hK _ _ _ h)
    rw [List.map_cons, cw_v_I, Int32.ofInt_add] at k
    exact lv_iadd hx hb hd k
  · exact h.elim
def o_isub : cw_O := fun _ L S M K => match S with
  | .inl b :: .inl a :: S => K L (.inl (a - b) :: S) M
  | _ => False
theorem at_isub {y : cw_Y} {pc : Nat} (hd : decode y.2.1 pc = .ok (.isub, 1)) : cw_at y pc o_isub 1 := by
  intro g n0 n1 nx L S M Q K hK h
  unfold o_isub at h
  split at h
  · rename_i b a S
    refine cw_lift (fun p e R s m args below meth c Qw H locs cells slots ls hx hb k => ?_) (hK _ _ _ h)
    rw [List.map_cons, cw_v_I, Int32.ofInt_sub] at k
    exact lv_isub hx hb hd k
  · exact h.elim
def o_imul : cw_O := fun _ L S M K => match S with
  | .inl b :: .inl a :: S => K L (.inl (a * b) :: S) M
  | _ => False
theorem at_imul {y : cw_Y} {pc : Nat} (hd : decode y.2.1 pc = .ok (.imul, 1)) : cw_at y pc o_imul 1 := by
  intro g n0 n1 nx L S M Q K hK h
  unfold o_imul at h
  split at h
  · rename_i b a S
    refine cw_lift (fun p e R s m args below meth c Qw H locs cells slots ls hx hb k => ?_) (hK _ _ _ h)
    rw [List.map_cons, cw_v_I, Int32.ofInt_mul] at k
    exact lv_imul hx hb hd k
  · exact h.elim
def o_ladd : cw_O := fun _ L S M K => match S with
  | .inr (.inl b) :: .inr (.inl a) :: S => K L (.inr (.inl (a + b)) :: S) M
  | _ => False
theorem at_ladd {y : cw_Y} {pc : Nat} (hd : decode y.2.1 pc = .ok (.ladd, 1)) : cw_at y pc o_ladd 1 := by
  intro g n0 n1 nx L S M Q K hK h
  unfold o_ladd at h
  split at h
  · rename_i b a S
    refine cw_lift (fun p e R s m args below meth c Qw H locs cells slots ls hx hb k => ?_) (hK _ _ _ h)
    rw [List.map_cons, cw_v_L, Int64.ofInt_add] at k
    exact lv_ladd hx hb hd k
  · exact h.elim
def o_lsub : cw_O := fun _ L S M K => match S with
  | .inr (.inl b) :: .inr (.inl a) :: S => K L (.inr (.inl (a - b)) :: S) M
  | _ => False
theorem at_lsub {y : cw_Y} {pc : Nat} (hd : decode y.2.1 pc = .ok (.lsub, 1)) : cw_at y pc o_lsub 1 := by
  intro g n0 n1 nx L S M Q K hK h
  unfold o_lsub at h
  split at h
  · rename_i b a S
    refine cw_lift (fun p e R s m args below meth c Qw H locs cells slots ls hx hb k => ?_) (hK _ _ _ h)
    rw [List.map_cons, cw_v_L, Int64.ofInt_sub] at k
    exact lv_lsub hx hb hd k
  · exact h.elim
def o_lmul : cw_O := fun _ L S M K => match S with
  | .inr (.inl b) :: .inr (.inl a) :: S => K L (.inr (.inl (a * b)) :: S) M
  | _ => False
theorem at_lmul {y : cw_Y} {pc : Nat} (hd : decode y.2.1 pc = .ok (.lmul, 1)) : cw_at y pc o_lmul 1 := by
  intro g n0 n1 nx L S M Q K hK h
  unfold o_lmul at h
  split at h
  · rename_i b a S
    refine cw_lift (fun p e R s m args below meth c Qw H locs cells slots ls hx hb k => ?_) (hK _ _ _ h)
    rw [List.map_cons, cw_v_L, Int64.ofInt_mul] at k
    exact lv_lmul hx hb hd k
  · exact h.elim
def o_ineg : cw_O := fun _ L S M K => match S with
  | .inl a :: S => K L (.inl (-a) :: S) M
  | _ => False
theorem at_ineg {y : cw_Y} {pc : Nat} (hd : decode y.2.1 pc = .ok (.ineg, 1)) : cw_at y pc o_ineg 1 := by
  intro g n0 n1 nx L S M Q K hK h
  unfold o_ineg at h
  split at h
  · rename_i a S
    refine cw_lift (fun p e R s m args below meth c Qw H locs cells slots ls hx hb k => ?_) (hK _ _ _ h)
    rw [List.map_cons, cw_v_I, Int32.ofInt_neg] at k
    exact lv_ineg hx hb hd k
  · exact h.elim
def o_lneg : cw_O := fun _ L S M K => match S with
  | .inr (.inl a) :: S => K L (.inr (.inl (-a)) :: S) M
  | _ => False
theorem at_lneg {y : cw_Y} {pc : Nat} (hd : decode y.2.1 pc = .ok (.lneg, 1)) : cw_at y pc o_lneg 1 := by
  intro g n0 n1 nx L S M Q K hK h
  unfold o_lneg at h
  split at h
  · rename_i a S
    refine cw_lift (fun p e R s m args below meth c Qw H locs cells slots ls hx hb k => ?_) (hK _ _ _ h)
    rw [List.map_cons, cw_v_L, Int64.ofInt_neg] at k
    exact lv_lneg hx hb hd k
  · exact h.elim
theorem cw_ne32 {b : Int} (h : in32 b) (h0 : b ≠ 0) : ¬ Int32.ofInt b = 0 := fun q => h0 (by
  have := congrArg Int32.toInt q
  rw [cw_i32 h] at this
  simpa using this)
theorem cw_div32 {a b : Int} (ha : in32 a) (hb : in32 b) : Int32.ofInt a / Int32.ofInt b = Int32.ofInt (a.tdiv b) := by
  apply Int32.toInt_inj.mp
  rw [Int32.toInt_div, cw_i32 ha, cw_i32 hb, Int32.toInt_ofInt]
theorem cw_rem32 {a b : Int} (ha : in32 a) (hb : in32 b) : Int32.ofInt a - Int32.ofInt a / Int32.ofInt b * Int32.ofInt b = Int32.ofInt (a.tmod b) := by
  rw [cw_div32 ha hb, ← Int32.ofInt_mul, ← Int32.ofInt_sub, Int.tmod_def, Int.mul_comm b]
def o_idiv : cw_O := fun _ L S M K => match S with
  | .inl b :: .inl a :: S => in32 a ∧ in32 b ∧ b ≠ 0 ∧ K L (.inl (a.tdiv b) :: S) M
  | _ => False
theorem at_idiv {y : cw_Y} {pc : Nat} (hd : decode y.2.1 pc = .ok (.idiv, 1)) : cw_at y pc o_idiv 1 := by
  intro g n0 n1 nx L S M Q K hK h
  unfold o_idiv at h
  split at h
  · rename_i b a S
    obtain ⟨ha, hb, h0, h⟩ := h
    refine cw_lift (fun p e R s m args below meth c Qw H locs cells slots ls hx hb2 k => ?_) (hK _ _ _ h)
    rw [List.map_cons, cw_v_I, ← cw_div32 ha hb] at k
    exact lv_idiv hx hb2 hd (cw_ne32 hb h0) k
  · exact h.elim
def o_irem : cw_O := fun _ L S M K => match S with
  | .inl b :: .inl a :: S => in32 a ∧ in32 b ∧ b ≠ 0 ∧ K L (.inl (a.tmod b) :: S) M
  | _ => False
theorem at_irem {y : cw_Y} {pc : Nat} (hd : decode y.2.1 pc = .ok (.irem, 1)) : cw_at y pc o_irem 1 := by
  intro g n0 n1 nx L S M Q K hK h
  unfold o_irem at h
  split at h
  · rename_i b a S
    obtain ⟨ha, hb, h0, h⟩ := h
    refine cw_lift (fun p e R s m args below meth c Qw H locs cells slots ls hx hb2 k => ?_) (hK _ _ _ h)
    rw [List.map_cons, cw_v_I, ← cw_rem32 ha hb] at k
    exact lv_irem hx hb2 hd (cw_ne32 hb h0) k
  · exact h.elim
/-- bits -/
def cw_and32 (a b : Int) : Int := (Int32.ofInt a &&& Int32.ofInt b).toInt
def cw_or32 (a b : Int) : Int := (Int32.ofInt a ||| Int32.ofInt b).toInt
def o_iand : cw_O := fun _ L S M K => match S with
  | .inl b :: .inl a :: S => K L (.inl (cw_and32 a b) :: S) M
  | _ => False
theorem at_iand {y : cw_Y} {pc : Nat} (hd : decode y.2.1 pc = .ok (.iand, 1)) : cw_at y pc o_iand 1 := by
  intro g n0 n1 nx L S M Q K hK h
  unfold o_iand at h
  split at h
  · rename_i b a S
    refine cw_lift (fun p e R s m args below meth c Qw H locs cells slots ls hx hb2 k => ?_) (hK _ _ _ h)
    rw [List.map_cons, cw_v_I, cw_and32, Int32.ofInt_toInt] at k
    exact lv_iand hx hb2 hd k
  · exact h.elim
def o_ior : cw_O := fun _ L S M K => match S with
  | .inl b :: .inl a :: S => K L (.inl (cw_or32 a b) :: S) M
  | _ => False
theorem at_ior {y : cw_Y} {pc : Nat} (hd : decode y.2.1 pc = .ok (.ior, 1)) : cw_at y pc o_ior 1 := by
  intro g n0 n1 nx L S M Q K hK h
  unfold o_ior at h
  split at h
  · rename_i b a S
    refine cw_lift (fun p e R s m args below meth c Qw H locs cells slots ls hx hb2 k => ?_) (hK _ _ _ h)
    rw [List.map_cons, cw_v_I, cw_or32, Int32.ofInt_toInt] at k
    exact lv_ior hx hb2 hd k
  · exact h.elim
theorem cw_ne64 {b : Int} (h : in64 b) (h0 : b ≠ 0) : ¬ Int64.ofInt b = 0 := fun q => h0 (by
  have := congrArg Int64.toInt q
  rw [cw_i64 h] at this
  simpa using this)
theorem cw_div64 {a b : Int} (ha : in64 a) (hb : in64 b) : Int64.ofInt a / Int64.ofInt b = Int64.ofInt (a.tdiv b) := by
  apply Int64.toInt_inj.mp
  rw [Int64.toInt_div, cw_i64 ha, cw_i64 hb, Int64.toInt_ofInt]
theorem cw_rem64 {a b : Int} (ha : in64 a) (hb : in64 b) : Int64.ofInt a - Int64.ofInt a / Int64.ofInt b * Int64.ofInt b = Int64.ofInt (a.tmod b) := by
  rw [cw_div64 ha hb, ← Int64.ofInt_mul, ← Int64.ofInt_sub, Int.tmod_def, Int.mul_comm b]
def o_ldiv : cw_O := fun _ L S M K => match S with
  | .inr (.inl b) :: .inr (.inl a) :: S => in64 a ∧ in64 b ∧ b ≠ 0 ∧ K L (.inr (.inl (a.tdiv b)) :: S) M
  | _ => False
theorem at_ldiv {y : cw_Y} {pc : Nat} (hd : decode y.2.1 pc = .ok (.ldiv, 1)) : cw_at y pc o_ldiv 1 := by
  intro g n0 n1 nx L S M Q K hK h
  unfold o_ldiv at h
  split at h
  · rename_i b a S
    obtain ⟨ha, hb, h0, h⟩ := h
    refine cw_lift (fun p e R s m args below meth c Qw H locs cells slots ls hx hb2 k => ?_) (hK _ _ _ h)
    rw [List.map_cons, cw_v_L, ← cw_div64 ha hb] at k
    exact lv_ldiv hx hb2 hd (cw_ne64 hb h0) k
  · exact h.elim
def o_lrem : cw_O := fun _ L S M K => match S with
  | .inr (.inl b) :: .inr (.inl a) :: S => in64 a ∧ in64 b ∧ b ≠ 0 ∧ K L (.inr (.inl (a.tmod b)) :: S) M
  | _ => False
theorem at_lrem {y : cw_Y} {pc : Nat} (hd : decode y.2.1 pc = .ok (.lrem, 1)) : cw_at y pc o_lrem 1 := by
  intro g n0 n1 nx L S M Q K hK h
  unfold o_lrem at h
  split at h
  · rename_i b a S
    obtain ⟨ha, hb, h0, h⟩ := h
    refine cw_lift (fun p e R s m args below meth c Qw H locs cells slots ls hx hb2 k => ?_) (hK _ _ _ h)
    rw [List.map_cons, cw_v_L, ← cw_rem64 ha hb] at k
    exact lv_lrem hx hb2 hd (cw_ne64 hb h0) k
  · exact h.elim
/-- bits -/
def cw_and64 (a b : Int) : Int := (Int64.ofInt a &&& Int64.ofInt b).toInt
def cw_or64 (a b : Int) : Int := (Int64.ofInt a ||| Int64.ofInt b).toInt
def o_land : cw_O := fun _ L S M K => match S with
  | .inr (.inl b) :: .inr (.inl a) :: S => K L (.inr (.inl (cw_and64 a b)) :: S) M
  | _ => False
theorem at_land {y : cw_Y} {pc : Nat} (hd : decode y.2.1 pc = .ok (.land, 1)) : cw_at y pc o_land 1 := by
  intro g n0 n1 nx L S M Q K hK h
  unfold o_land at h
  split at h
  · rename_i b a S
    refine cw_lift (fun p e R s m args below meth c Qw H locs cells slots ls hx hb2 k => ?_) (hK _ _ _ h)
    rw [List.map_cons, cw_v_L, cw_and64, Int64.ofInt_toInt] at k
    exact lv_land hx hb2 hd k
  · exact h.elim
def o_lor : cw_O := fun _ L S M K => match S with
  | .inr (.inl b) :: .inr (.inl a) :: S => K L (.inr (.inl (cw_or64 a b)) :: S) M
  | _ => False
theorem at_lor {y : cw_Y} {pc : Nat} (hd : decode y.2.1 pc = .ok (.lor, 1)) : cw_at y pc o_lor 1 := by
  intro g n0 n1 nx L S M Q K hK h
  unfold o_lor at h
  split at h
  · rename_i b a S
    refine cw_lift (fun p e R s m args below meth c Qw H locs cells slots ls hx hb2 k => ?_) (hK _ _ _ h)
    rw [List.map_cons, cw_v_L, cw_or64, Int64.ofInt_toInt] at k
    exact lv_lor hx hb2 hd k
  · exact h.elim
def o_i2l : cw_O := fun _ L S M K => match S with
  | .inl a :: S => in32 a ∧ K L (.inr (.inl a) :: S) M
  | _ => False
theorem at_i2l {y : cw_Y} {pc : Nat} (hd : decode y.2.1 pc = .ok (.i2l, 1)) : cw_at y pc o_i2l 1 := by
  intro g n0 n1 nx L S M Q K hK h
  unfold o_i2l at h
  split at h
  · rename_i a S
    refine cw_lift (fun p e R s m args below meth c Qw H locs cells slots ls hx hb k => ?_) (hK _ _ _ h.2)
    refine lv_i2l hx hb hd (v := Int64.ofInt a) ?_ k
    apply Int64.toInt_inj.mp
    rw [Int32.toInt_toInt64, cw_i32 h.1, cw_i64 ⟨by have := h.1.1; omega, by have := h.1.2; omega⟩]
  · exact h.elim
def o_l2i : cw_O := fun _ L S M K => match S with
  | .inr (.inl a) :: S => K L (.inl a :: S) M
  | _ => False
theorem at_l2i {y : cw_Y} {pc : Nat} (hd : decode y.2.1 pc = .ok (.l2i, 1)) : cw_at y pc o_l2i 1 := by
  intro g n0 n1 nx L S M Q K hK h
  unfold o_l2i at h
  split at h
  · rename_i a S
    exact cw_lift (fun p e R s m args below meth c Qw H locs cells slots ls hx hb k => lv_l2i hx hb hd Int64.toInt32_ofInt k) (hK _ _ _ h)
  · exact h.elim
def o_dup : cw_O := fun _ L S M K => match S with
  | .inl a :: S => K L (.inl a :: .inl a :: S) M
  | .inr (.inr a) :: S => K L (.inr (.inr a) :: .inr (.inr a) :: S) M
  | _ => False
theorem cw_c1 {g : cw_G} {v : cw_V} (h : ¬ ∃ z, v = .inr (.inl z)) : (cw_v g v).category = 1 := by
  rcases lv_cat (cw_v g v) with q | q
  · exact q
  · exact absurd ((cw_cat g v).mp q) h
theorem at_dup {y : cw_Y} {pc : Nat} (hd : decode y.2.1 pc = .ok (.dup, 1)) : cw_at y pc o_dup 1 := by
  intro g n0 n1 nx L S M Q K hK h
  unfold o_dup at h
  split at h
  · exact cw_lift (fun p e R s m args below meth c Qw H locs cells slots ls hx hb k => lv_dup hx hb hd (cw_c1 (by simp)) k) (hK _ _ _ h)
  · exact cw_lift (fun p e R s m args below meth c Qw H locs cells slots ls hx hb k => lv_dup hx hb hd (cw_c1 (by simp)) k) (hK _ _ _ h)
  · exact h.elim
def o_dup2 : cw_O := fun _ L S M K => match S with
  | .inl b :: .inr (.inr a) :: S => K L (.inl b :: .inr (.inr a) :: .inl b :: .inr (.inr a) :: S) M
  | .inr (.inl a) :: S => K L (.inr (.inl a) :: .inr (.inl a) :: S) M
  | _ => False
theorem at_dup2 {y : cw_Y} {pc : Nat} (hd : decode y.2.1 pc = .ok (.dup2, 1)) : cw_at y pc o_dup2 1 := by
  intro g n0 n1 nx L S M Q K hK h
  unfold o_dup2 at h
  split at h
  · exact cw_lift (fun p e R s m args below meth c Qw H locs cells slots ls hx hb k => lv_dup2_11 hx hb hd (cw_c1 (by simp)) (cw_c1 (by simp)) k) (hK _ _ _ h)
  · exact cw_lift (fun p e R s m args below meth c Qw H locs cells slots ls hx hb k => lv_dup2_2 hx hb hd ((cw_cat _ _).mpr ⟨_, rfl⟩) k) (hK _ _ _ h)
  · exact h.elim
/-! shifts: by a number within the word -/
theorem cw_sh32 {b : Int} (h0 : 0 ≤ b) (h1 : b < 32) : (Int32.ofInt b &&& 31) = Int32.ofInt b := by
  obtain ⟨n, rfl⟩ := Int.eq_ofNat_of_zero_le h0
  have hn : n < 32 := by omega
  have : ∀ k : Nat, k < 32 → (Int32.ofInt (k : Int) &&& 31) = Int32.ofInt (k : Int) := by decide +kernel
  exact this n hn
theorem cw_sh64 {b : Int} (h0 : 0 ≤ b) (h1 : b < 64) : ((Int32.ofInt b).toInt64 &&& 63) = Int64.ofInt b := by
  obtain ⟨n, rfl⟩ := Int.eq_ofNat_of_zero_le h0
  have hn : n < 64 := by omega
  have : ∀ k : Nat, k < 64 → ((Int32.ofInt (k : Int)).toInt64 &&& 63) = Int64.ofInt (k : Int) := by decide +kernel
  exact this n hn
