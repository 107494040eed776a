/-! shifts by a number within the word -/
theorem cw_p2 (n : Nat) : (((2 ^ n : Nat)) : Int) = 2 ^ n := by rw [Int.natCast_pow]; rfl
theorem cw_p2pos (n : Nat) : (1 : Int) ≤ 2 ^ n := by
  have h : 0 < 2 ^ n := Nat.two_pow_pos n
  have e := cw_p2 n
  omega
theorem cw_divle {a lo hi d : Int} (hd : 1 ≤ d) (h1 : lo ≤ a) (h2 : a ≤ hi) (hl : lo ≤ 0) (hh : 0 ≤ hi) : lo ≤ a / d ∧ a / d ≤ hi := by
  by_cases h : a < 0
  · have e1 : a / d < 0 := Int.ediv_neg_of_neg_of_pos h (by omega)
    have e2 : a ≤ a / d := by
      rw [Int.le_ediv_iff_mul_le (by omega)]
      have := Int.mul_le_mul_of_nonpos_left (show a ≤ 0 by omega) hd
      omega
    omega
  · have h : 0 ≤ a := by omega
    have e1 : 0 ≤ a / d := Int.ediv_nonneg h (by omega)
    have e2 : a / d ≤ a := Int.ediv_le_self _ h
    omega
theorem cw_sm32 : ∀ k : Nat, k < 32 → ((Int32.ofInt (k : Int)).toBitVec.smod 32).toNat = k := by decide +kernel
theorem cw_tw32 : ∀ k : Nat, k < 32 → BitVec.twoPow 32 k = BitVec.ofInt 32 (2 ^ k) := by decide +kernel
theorem cw_us32 : ∀ k : Nat, k < 32 → (((Int32.ofInt (k : Int)).toUInt32 &&& Int32.toUInt32 31).toBitVec % 32).toNat = k := by decide +kernel
theorem cw_shl32 {a b : Int} (h0 : 0 ≤ b) (h1 : b < 32) : Int32.ofInt a <<< (Int32.ofInt b &&& 31) = Int32.ofInt (a * 2 ^ b.toNat) := by
  rw [cw_sh32 h0 h1]
  obtain ⟨n, rfl⟩ := Int.eq_ofNat_of_zero_le h0
  have hn : n < 32 := by omega
  apply Int32.toBitVec_inj.mp
  show (BitVec.ofInt 32 a) <<< ((Int32.ofInt (n : Int)).toBitVec.smod 32) = BitVec.ofInt 32 (a * 2 ^ n)
  rw [BitVec.shiftLeft_eq', cw_sm32 n hn, BitVec.shiftLeft_eq_mul_twoPow, cw_tw32 n hn, ← BitVec.ofInt_mul]
theorem cw_shr32 {a b : Int} (ha : in32 a) (h0 : 0 ≤ b) (h1 : b < 32) : Int32.ofInt a >>> (Int32.ofInt b &&& 31) = Int32.ofInt (a / 2 ^ b.toNat) := by
  rw [cw_sh32 h0 h1]
  obtain ⟨n, rfl⟩ := Int.eq_ofNat_of_zero_le h0
  have hn : n < 32 := by omega
  apply Int32.toInt_inj.mp
  show (BitVec.sshiftRight' (BitVec.ofInt 32 a) ((Int32.ofInt (n : Int)).toBitVec.smod 32)).toInt = (Int32.ofInt (a / 2 ^ n)).toInt
  have e : (BitVec.ofInt 32 a).toInt = a := cw_i32 ha
  rw [BitVec.sshiftRight_eq', cw_sm32 n hn, BitVec.toInt_sshiftRight, e, Int.shiftRight_eq_div_pow, cw_p2]
  have := cw_divle (cw_p2pos n) ha.1 ha.2 (by omega) (by omega)
  rw [cw_i32 this]
theorem cw_ushr32 {a b : Int} (ha0 : 0 ≤ a) (ha : in32 a) (h0 : 0 ≤ b) (h1 : b < 32) : ((Int32.ofInt a).toUInt32 >>> ((Int32.ofInt b).toUInt32 &&& Int32.toUInt32 31)).toInt32 = Int32.ofInt (a / 2 ^ b.toNat) := by
  obtain ⟨n, rfl⟩ := Int.eq_ofNat_of_zero_le h0
  obtain ⟨m, rfl⟩ := Int.eq_ofNat_of_zero_le ha0
  have hn : n < 32 := by omega
  have hm : m < 2 ^ 32 := by have := ha.2; omega
  apply Int32.toBitVec_inj.mp
  show (BitVec.ofInt 32 (m : Int)) >>> (((Int32.ofInt (n : Int)).toUInt32 &&& Int32.toUInt32 31).toBitVec % 32) = BitVec.ofInt 32 ((m : Int) / 2 ^ n)
  apply BitVec.eq_of_toNat_eq
  rw [BitVec.ushiftRight_eq', BitVec.toNat_ushiftRight, cw_us32 n hn, BitVec.toNat_ofInt, BitVec.toNat_ofInt, Nat.shiftRight_eq_div_pow, ← cw_p2, ← Int.natCast_ediv]
  have e0 : ((m : Int) % ((2 ^ 32 : Nat) : Int)).toNat = m := by omega
  rw [e0]
  have e1 : m / 2 ^ n ≤ m := Nat.div_le_self _ _
  generalize m / 2 ^ n = z at e1 ⊢
  omega
def o_ishl : cw_O := fun _ L S M K => match S with
  | .inl b :: .inl a :: S => (0 ≤ b ∧ b < 32) ∧ K L (.inl (a * 2 ^ b.toNat) :: S) M
  | _ => False
theorem at_ishl {y : cw_Y} {pc : Nat} (hd : decode y.2.1 pc = .ok (.ishl, 1)) : cw_at y pc o_ishl 1 := by
  intro g n0 n1 nx L S M Q K hK h
  unfold o_ishl at h
  split at h
  · rename_i b a S
    obtain ⟨hb, h⟩ := h
    refine cw_lift (fun p e R s m args below meth c Qw H locs cells slots ls hx hb2 k => ?_) (hK _ _ _ h)
    rw [List.map_cons, cw_v_I, ← cw_shl32 hb.1 hb.2] at k
    exact lv_ishl hx hb2 hd k
  · exact h.elim
def o_ishr : cw_O := fun _ L S M K => match S with
  | .inl b :: .inl a :: S => (0 ≤ b ∧ b < 32) ∧ in32 a ∧ K L (.inl (a / 2 ^ b.toNat) :: S) M
  | _ => False
theorem at_ishr {y : cw_Y} {pc : Nat} (hd : decode y.2.1 pc = .ok (.ishr, 1)) : cw_at y pc o_ishr 1 := by
  intro g n0 n1 nx L S M Q K hK h
  unfold o_ishr at h
  split at h
  · rename_i b a S
    obtain ⟨hb, ha, h⟩ := h
    refine cw_lift (fun p e R s m args below meth c Qw H locs cells slots ls hx hb2 k => ?_) (hK _ _ _ h)
    rw [List.map_cons, cw_v_I, ← cw_shr32 ha hb.1 hb.2] at k
    exact lv_ishr hx hb2 hd k
  · exact h.elim
def o_iushr : cw_O := fun _ L S M K => match S with
  | .inl b :: .inl a :: S => (0 ≤ b ∧ b < 32) ∧ 0 ≤ a ∧ in32 a ∧ K L (.inl (a / 2 ^ b.toNat) :: S) M
  | _ => False
theorem at_iushr {y : cw_Y} {pc : Nat} (hd : decode y.2.1 pc = .ok (.iushr, 1)) : cw_at y pc o_iushr 1 := by
  intro g n0 n1 nx L S M Q K hK h
  unfold o_iushr at h
  split at h
  · rename_i b a S
    obtain ⟨hb, ha0, ha, h⟩ := h
    refine cw_lift (fun p e R s m args below meth c Qw H locs cells slots ls hx hb2 k => ?_) (hK _ _ _ h)
    exact lv_iushr hx hb2 hd (cw_ushr32 ha0 ha hb.1 hb.2) k
  · exact h.elim
theorem cw_sm64 : ∀ k : Nat, k < 64 → ((Int64.ofInt (k : Int)).toBitVec.smod 64).toNat = k := by decide +kernel
theorem cw_tw64 : ∀ k : Nat, k < 64 → BitVec.twoPow 64 k = BitVec.ofInt 64 (2 ^ k) := by decide +kernel
theorem cw_us64 : ∀ k : Nat, k < 64 → (((Int32.ofInt (k : Int)).toInt64.toUInt64 &&& Int64.toUInt64 63).toBitVec % 64).toNat = k := by decide +kernel
theorem cw_shl64 {a b : Int} (h0 : 0 ≤ b) (h1 : b < 64) : Int64.ofInt a <<< ((Int32.ofInt b).toInt64 &&& 63) = Int64.ofInt (a * 2 ^ b.toNat) := by
  rw [cw_sh64 h0 h1]
  obtain ⟨n, rfl⟩ := Int.eq_ofNat_of_zero_le h0
  have hn : n < 64 := by omega
  apply Int64.toBitVec_inj.mp
  show (BitVec.ofInt 64 a) <<< ((Int64.ofInt (n : Int)).toBitVec.smod 64) = BitVec.ofInt 64 (a * 2 ^ n)
  rw [BitVec.shiftLeft_eq', cw_sm64 n hn, BitVec.shiftLeft_eq_mul_twoPow, cw_tw64 n hn, ← BitVec.ofInt_mul]
theorem cw_shr64 {a b : Int} (ha : in64 a) (h0 : 0 ≤ b) (h1 : b < 64) : Int64.ofInt a >>> ((Int32.ofInt b).toInt64 &&& 63) = Int64.ofInt (a / 2 ^ b.toNat) := by
  rw [cw_sh64 h0 h1]
  obtain ⟨n, rfl⟩ := Int.eq_ofNat_of_zero_le h0
  have hn : n < 64 := by omega
  apply Int64.toInt_inj.mp
  show (BitVec.sshiftRight' (BitVec.ofInt 64 a) ((Int64.ofInt (n : Int)).toBitVec.smod 64)).toInt = (Int64.ofInt (a / 2 ^ n)).toInt
  have e : (BitVec.ofInt 64 a).toInt = a := cw_i64 ha
  rw [BitVec.sshiftRight_eq', cw_sm64 n hn, BitVec.toInt_sshiftRight, e, Int.shiftRight_eq_div_pow, cw_p2]
  have := cw_divle (cw_p2pos n) ha.1 ha.2 (by omega) (by omega)
  rw [cw_i64 this]
theorem cw_ushr64 {a b : Int} (ha0 : 0 ≤ a) (ha : in64 a) (h0 : 0 ≤ b) (h1 : b < 64) : ((Int64.ofInt a).toUInt64 >>> ((Int32.ofInt b).toInt64.toUInt64 &&& Int64.toUInt64 63)).toInt64 = Int64.ofInt (a / 2 ^ b.toNat) := by
  obtain ⟨n, rfl⟩ := Int.eq_ofNat_of_zero_le h0
  obtain ⟨m, rfl⟩ := Int.eq_ofNat_of_zero_le ha0
  have hn : n < 64 := by omega
  have hm : m < 2 ^ 64 := by have := ha.2; omega
  apply Int64.toBitVec_inj.mp
  show (BitVec.ofInt 64 (m : Int)) >>> (((Int32.ofInt (n : Int)).toInt64.toUInt64 &&& Int64.toUInt64 63).toBitVec % 64) = BitVec.ofInt 64 ((m : Int) / 2 ^ n)
  apply BitVec.eq_of_toNat_eq
  rw [BitVec.ushiftRight_eq', BitVec.toNat_ushiftRight, cw_us64 n hn, BitVec.toNat_ofInt, BitVec.toNat_ofInt, Nat.shiftRight_eq_div_pow, ← cw_p2, ← Int.natCast_ediv]
  have e0 : ((m : Int) % ((2 ^ 64 : Nat) : Int)).toNat = m := by omega
  rw [e0]
  have e1 : m / 2 ^ n ≤ m := Nat.div_le_self _ _
  generalize m / 2 ^ n = z at e1 ⊢
  omega
def o_lshl : cw_O := fun _ L S M K => match S with
  | .inl b :: .inr (.inl a) :: S => (0 ≤ b ∧ b < 64) ∧ K L (.inr (.inl (a * 2 ^ b.toNat)) :: S) M
  | _ => False
theorem at_lshl {y : cw_Y} {pc : Nat} (hd : decode y.2.1 pc = .ok (.lshl, 1)) : cw_at y pc o_lshl 1 := by
  intro g n0 n1 nx L S M Q K hK h
  unfold o_lshl at h
  split at h
  · rename_i b a S
    obtain ⟨hb, h⟩ := h
    refine cw_lift (fun p e R s m args below meth c Qw H locs cells slots ls hx hb2 k => ?_) (hK _ _ _ h)
    rw [List.map_cons, cw_v_L, ← cw_shl64 hb.1 hb.2] at k
    exact lv_lshl hx hb2 hd rfl k
  · exact h.elim
def o_lshr : cw_O := fun _ L S M K => match S with
  | .inl b :: .inr (.inl a) :: S => (0 ≤ b ∧ b < 64) ∧ in64 a ∧ K L (.inr (.inl (a / 2 ^ b.toNat)) :: S) M
  | _ => False
theorem at_lshr {y : cw_Y} {pc : Nat} (hd : decode y.2.1 pc = .ok (.lshr, 1)) : cw_at y pc o_lshr 1 := by
  intro g n0 n1 nx L S M Q K hK h
  unfold o_lshr at h
  split at h
  · rename_i b a S
    obtain ⟨hb, ha, h⟩ := h
    refine cw_lift (fun p e R s m args below meth c Qw H locs cells slots ls hx hb2 k => ?_) (hK _ _ _ h)
    rw [List.map_cons, cw_v_L, ← cw_shr64 ha hb.1 hb.2] at k
    exact lv_lshr hx hb2 hd rfl k
  · exact h.elim
def o_lushr : cw_O := fun _ L S M K => match S with
  | .inl b :: .inr (.inl a) :: S => (0 ≤ b ∧ b < 64) ∧ 0 ≤ a ∧ in64 a ∧ K L (.inr (.inl (a / 2 ^ b.toNat)) :: S) M
  | _ => False
theorem at_lushr {y : cw_Y} {pc : Nat} (hd : decode y.2.1 pc = .ok (.lushr, 1)) : cw_at y pc o_lushr 1 := by
  intro g n0 n1 nx L S M Q K hK h
  unfold o_lushr at h
  split at h
  · rename_i b a S
    obtain ⟨hb, ha0, ha, h⟩ := h
    refine cw_lift (fun p e R s m args below meth c Qw H locs cells slots ls hx hb2 k => ?_) (hK _ _ _ h)
    exact lv_lushr hx hb2 hd (cw_ushr64 ha0 ha hb.1 hb.2) k
  · exact h.elim
