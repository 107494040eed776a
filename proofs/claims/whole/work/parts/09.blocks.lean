/-! blocks: straight stretches, and what ends them -/
def cw_wp : List cw_O → cw_O := fun os => match os with
  | [] => fun _ L S M K => K L S M
  | o :: os => fun nx L S M K => o nx L S M (fun L S M => cw_wp os nx L S M K)
abbrev cw_T : Type := cw_G → Nat → Nat → List cw_V → List cw_V → cw_M → (Option cw_V → cw_M → Prop) → (Nat → Nat → List cw_V → List cw_V → cw_M → Prop) → Prop
def cw_tm (y : cw_Y) (pc : Nat) (t : cw_T) : Prop := ∀ (g : cw_G) (n0 n1 nx : Nat) (L S : List cw_V) (M : cw_M) (Q : Option cw_V → cw_M → Prop) (K : Nat → Nat → List cw_V → List cw_V → cw_M → Prop),
  (∀ nx' pc' L' S' M', K nx' pc' L' S' M' → cw_J g y n0 n1 nx' pc' L' S' M' Q) → t g n1 nx L S M Q K → cw_J g y n0 n1 nx pc L S M Q
def cw_bk (y : cw_Y) (pc : Nat) (os : List cw_O) (t : cw_T) : Prop := ∀ (g : cw_G) (n0 n1 nx : Nat) (L S : List cw_V) (M : cw_M) (Q : Option cw_V → cw_M → Prop),
  cw_wp os nx L S M (fun L S M => t g n1 nx L S M Q (fun nx pc L S M => cw_J g y n0 n1 nx pc L S M Q)) → cw_J g y n0 n1 nx pc L S M Q
theorem cw_bnil {y : cw_Y} {pc : Nat} {t : cw_T} (h : cw_tm y pc t) : cw_bk y pc [] t := fun g n0 n1 nx L S M Q k => h g n0 n1 nx L S M Q _ (fun _ _ _ _ _ h => h) k
theorem cw_bcons {y : cw_Y} {pc len : Nat} {o : cw_O} {os : List cw_O} {t : cw_T} (h : cw_at y pc o len) (hb : cw_bk y (pc + len) os t) : cw_bk y pc (o :: os) t := fun g n0 n1 nx L S M Q k =>
  h g n0 n1 nx L S M Q _ (fun L' S' M' k' => hb g n0 n1 nx L' S' M' Q k') k
/-- on to the next block -/
def t_fall (nxt : Nat) : cw_T := fun _ _ nx L S M _ K => K nx nxt L S M
theorem tm_fall {y : cw_Y} {pc : Nat} : cw_tm y pc (t_fall pc) := fun g n0 n1 nx L S M Q K hK h => hK _ _ _ _ _ h
def t_goto (tgt : Nat) : cw_T := fun _ _ nx L S M _ K => K nx tgt L S M
theorem tm_goto {y : cw_Y} {pc tgt : Nat} {off : Int} (hd : decode y.2.1 pc = .ok (.goto off, 3)) (ht : (pc : Int) + off = (tgt : Int)) : cw_tm y pc (t_goto tgt) := by
  intro g n0 n1 nx L S M Q K hK h p e R s m args below meth c mc ms X N9 H locs ls hH hS hL
  exact lv_goto X.1 X.2.1 hd ht (hK _ _ _ _ _ h p e R s m args below meth c mc ms X N9 H locs ls hH hS hL)
theorem cw_eq0 {x : Int} (h : in32 x) : Int32.ofInt x = 0 ↔ x = 0 := by
  rw [← Int32.toInt_inj, cw_i32 h]; rfl
theorem cw_lt0 {x : Int} (h : in32 x) : Int32.ofInt x < 0 ↔ x < 0 := by
  rw [Int32.lt_iff_toInt_lt, cw_i32 h]; rfl
theorem cw_ge0 {x : Int} (h : in32 x) : 0 ≤ Int32.ofInt x ↔ 0 ≤ x := by
  rw [Int32.le_iff_toInt_le, cw_i32 h]; rfl
theorem cw_gt0 {x : Int} (h : in32 x) : 0 < Int32.ofInt x ↔ 0 < x := by
  rw [Int32.lt_iff_toInt_lt, cw_i32 h]; rfl
theorem cw_le0 {x : Int} (h : in32 x) : Int32.ofInt x ≤ 0 ↔ x ≤ 0 := by
  rw [Int32.le_iff_toInt_le, cw_i32 h]; rfl
theorem cw_eq2 {x y : Int} (h : in32 x) (k : in32 y) : Int32.ofInt x = Int32.ofInt y ↔ x = y := by
  rw [← Int32.toInt_inj, cw_i32 h, cw_i32 k]
theorem cw_lt2 {x y : Int} (h : in32 x) (k : in32 y) : Int32.ofInt x < Int32.ofInt y ↔ x < y := by
  rw [Int32.lt_iff_toInt_lt, cw_i32 h, cw_i32 k]
theorem cw_le2 {x y : Int} (h : in32 x) (k : in32 y) : Int32.ofInt x ≤ Int32.ofInt y ↔ x ≤ y := by
  rw [Int32.le_iff_toInt_le, cw_i32 h, cw_i32 k]
def t_ifeq (tgt nxt : Nat) : cw_T := fun _ _ nx L S M _ K => match S with
  | .inl x :: S => in32 x ∧ ((x = 0) → K nx tgt L S M) ∧ (¬ x = 0 → K nx nxt L S M)
  | _ => False
theorem tm_ifeq {y : cw_Y} {pc tgt : Nat} {off : Int} (hd : decode y.2.1 pc = .ok (.ifCond .eq off, 3)) (ht : (pc : Int) + off = (tgt : Int)) : cw_tm y pc (t_ifeq tgt (pc + 3)) := by
  intro g n0 n1 nx L S M Q K hK h p e R s m args below meth c mc ms X N9 H locs ls hH hS hL
  unfold t_ifeq at h
  split at h
  · rename_i x S
    obtain ⟨h32, k1, k2⟩ := h
    exact lv_if_eq X.1 X.2.1 hd ht (fun q => hK _ _ _ _ _ (k1 ((cw_eq0 h32).mp q)) p e R s m args below meth c mc ms X N9 H locs ls hH hS hL) (fun q => hK _ _ _ _ _ (k2 (fun z => q ((cw_eq0 h32).mpr z))) p e R s m args below meth c mc ms X N9 H locs ls hH hS hL)
  · exact h.elim
def t_ifne (tgt nxt : Nat) : cw_T := fun _ _ nx L S M _ K => match S with
  | .inl x :: S => in32 x ∧ (¬ x = 0 → K nx tgt L S M) ∧ (x = 0 → K nx nxt L S M)
  | _ => False
theorem tm_ifne {y : cw_Y} {pc tgt : Nat} {off : Int} (hd : decode y.2.1 pc = .ok (.ifCond .ne off, 3)) (ht : (pc : Int) + off = (tgt : Int)) : cw_tm y pc (t_ifne tgt (pc + 3)) := by
  intro g n0 n1 nx L S M Q K hK h p e R s m args below meth c mc ms X N9 H locs ls hH hS hL
  unfold t_ifne at h
  split at h
  · rename_i x S
    obtain ⟨h32, k1, k2⟩ := h
    exact lv_if_ne X.1 X.2.1 hd ht (fun q => hK _ _ _ _ _ (k1 (fun z => q ((cw_eq0 h32).mpr z))) p e R s m args below meth c mc ms X N9 H locs ls hH hS hL) (fun q => hK _ _ _ _ _ (k2 ((cw_eq0 h32).mp q)) p e R s m args below meth c mc ms X N9 H locs ls hH hS hL)
  · exact h.elim
def t_iflt (tgt nxt : Nat) : cw_T := fun _ _ nx L S M _ K => match S with
  | .inl x :: S => in32 x ∧ ((x < 0) → K nx tgt L S M) ∧ (¬ x < 0 → K nx nxt L S M)
  | _ => False
theorem tm_iflt {y : cw_Y} {pc tgt : Nat} {off : Int} (hd : decode y.2.1 pc = .ok (.ifCond .lt off, 3)) (ht : (pc : Int) + off = (tgt : Int)) : cw_tm y pc (t_iflt tgt (pc + 3)) := by
  intro g n0 n1 nx L S M Q K hK h p e R s m args below meth c mc ms X N9 H locs ls hH hS hL
  unfold t_iflt at h
  split at h
  · rename_i x S
    obtain ⟨h32, k1, k2⟩ := h
    exact lv_if_lt X.1 X.2.1 hd ht (fun q => hK _ _ _ _ _ (k1 ((cw_lt0 h32).mp q)) p e R s m args below meth c mc ms X N9 H locs ls hH hS hL) (fun q => hK _ _ _ _ _ (k2 (fun z => q ((cw_lt0 h32).mpr z))) p e R s m args below meth c mc ms X N9 H locs ls hH hS hL)
  · exact h.elim
def t_ifge (tgt nxt : Nat) : cw_T := fun _ _ nx L S M _ K => match S with
  | .inl x :: S => in32 x ∧ ((0 ≤ x) → K nx tgt L S M) ∧ (¬ 0 ≤ x → K nx nxt L S M)
  | _ => False
theorem tm_ifge {y : cw_Y} {pc tgt : Nat} {off : Int} (hd : decode y.2.1 pc = .ok (.ifCond .ge off, 3)) (ht : (pc : Int) + off = (tgt : Int)) : cw_tm y pc (t_ifge tgt (pc + 3)) := by
  intro g n0 n1 nx L S M Q K hK h p e R s m args below meth c mc ms X N9 H locs ls hH hS hL
  unfold t_ifge at h
  split at h
  · rename_i x S
    obtain ⟨h32, k1, k2⟩ := h
    exact lv_if_ge X.1 X.2.1 hd ht (fun q => hK _ _ _ _ _ (k1 ((cw_ge0 h32).mp q)) p e R s m args below meth c mc ms X N9 H locs ls hH hS hL) (fun q => hK _ _ _ _ _ (k2 (fun z => q ((cw_ge0 h32).mpr z))) p e R s m args below meth c mc ms X N9 H locs ls hH hS hL)
  · exact h.elim
def t_ifgt (tgt nxt : Nat) : cw_T := fun _ _ nx L S M _ K => match S with
  | .inl x :: S => in32 x ∧ ((0 < x) → K nx tgt L S M) ∧ (¬ 0 < x → K nx nxt L S M)
  | _ => False
theorem tm_ifgt {y : cw_Y} {pc tgt : Nat} {off : Int} (hd : decode y.2.1 pc = .ok (.ifCond .gt off, 3)) (ht : (pc : Int) + off = (tgt : Int)) : cw_tm y pc (t_ifgt tgt (pc + 3)) := by
  intro g n0 n1 nx L S M Q K hK h p e R s m args below meth c mc ms X N9 H locs ls hH hS hL
  unfold t_ifgt at h
  split at h
  · rename_i x S
    obtain ⟨h32, k1, k2⟩ := h
    exact lv_if_gt X.1 X.2.1 hd ht (fun q => hK _ _ _ _ _ (k1 ((cw_gt0 h32).mp q)) p e R s m args below meth c mc ms X N9 H locs ls hH hS hL) (fun q => hK _ _ _ _ _ (k2 (fun z => q ((cw_gt0 h32).mpr z))) p e R s m args below meth c mc ms X N9 H locs ls hH hS hL)
  · exact h.elim
def t_ifle (tgt nxt : Nat) : cw_T := fun _ _ nx L S M _ K => match S with
  | .inl x :: S => in32 x ∧ ((x ≤ 0) → K nx tgt L S M) ∧ (¬ x ≤ 0 → K nx nxt L S M)
  | _ => False
theorem tm_ifle {y : cw_Y} {pc tgt : Nat} {off : Int} (hd : decode y.2.1 pc = .ok (.ifCond .le off, 3)) (ht : (pc : Int) + off = (tgt : Int)) : cw_tm y pc (t_ifle tgt (pc + 3)) := by
  intro g n0 n1 nx L S M Q K hK h p e R s m args below meth c mc ms X N9 H locs ls hH hS hL
  unfold t_ifle at h
  split at h
  · rename_i x S
    obtain ⟨h32, k1, k2⟩ := h
    exact lv_if_le X.1 X.2.1 hd ht (fun q => hK _ _ _ _ _ (k1 ((cw_le0 h32).mp q)) p e R s m args below meth c mc ms X N9 H locs ls hH hS hL) (fun q => hK _ _ _ _ _ (k2 (fun z => q ((cw_le0 h32).mpr z))) p e R s m args below meth c mc ms X N9 H locs ls hH hS hL)
  · exact h.elim
def t_iceq (tgt nxt : Nat) : cw_T := fun _ _ nx L S M _ K => match S with
  | .inl y :: .inl x :: S => in32 x ∧ in32 y ∧ ((x = y) → K nx tgt L S M) ∧ (¬ x = y → K nx nxt L S M)
  | _ => False
theorem tm_iceq {y : cw_Y} {pc tgt : Nat} {off : Int} (hd : decode y.2.1 pc = .ok (.if_icmp .eq off, 3)) (ht : (pc : Int) + off = (tgt : Int)) : cw_tm y pc (t_iceq tgt (pc + 3)) := by
  intro g n0 n1 nx L S M Q K hK h p e R s m args below meth c mc ms X N9 H locs ls hH hS hL
  unfold t_iceq at h
  split at h
  · rename_i y x S
    obtain ⟨hx, hy, k1, k2⟩ := h
    exact lv_icmp_eq X.1 X.2.1 hd ht (fun q => hK _ _ _ _ _ (k1 ((cw_eq2 hx hy).mp q)) p e R s m args below meth c mc ms X N9 H locs ls hH hS hL) (fun q => hK _ _ _ _ _ (k2 (fun z => q ((cw_eq2 hx hy).mpr z))) p e R s m args below meth c mc ms X N9 H locs ls hH hS hL)
  · exact h.elim
def t_icne (tgt nxt : Nat) : cw_T := fun _ _ nx L S M _ K => match S with
  | .inl y :: .inl x :: S => in32 x ∧ in32 y ∧ (¬ x = y → K nx tgt L S M) ∧ (x = y → K nx nxt L S M)
  | _ => False
theorem tm_icne {y : cw_Y} {pc tgt : Nat} {off : Int} (hd : decode y.2.1 pc = .ok (.if_icmp .ne off, 3)) (ht : (pc : Int) + off = (tgt : Int)) : cw_tm y pc (t_icne tgt (pc + 3)) := by
  intro g n0 n1 nx L S M Q K hK h p e R s m args below meth c mc ms X N9 H locs ls hH hS hL
  unfold t_icne at h
  split at h
  · rename_i y x S
    obtain ⟨hx, hy, k1, k2⟩ := h
    exact lv_icmp_ne X.1 X.2.1 hd ht (fun q => hK _ _ _ _ _ (k1 (fun z => q ((cw_eq2 hx hy).mpr z))) p e R s m args below meth c mc ms X N9 H locs ls hH hS hL) (fun q => hK _ _ _ _ _ (k2 ((cw_eq2 hx hy).mp q)) p e R s m args below meth c mc ms X N9 H locs ls hH hS hL)
  · exact h.elim
def t_iclt (tgt nxt : Nat) : cw_T := fun _ _ nx L S M _ K => match S with
  | .inl y :: .inl x :: S => in32 x ∧ in32 y ∧ ((x < y) → K nx tgt L S M) ∧ (¬ x < y → K nx nxt L S M)
  | _ => False
theorem tm_iclt {y : cw_Y} {pc tgt : Nat} {off : Int} (hd : decode y.2.1 pc = .ok (.if_icmp .lt off, 3)) (ht : (pc : Int) + off = (tgt : Int)) : cw_tm y pc (t_iclt tgt (pc + 3)) := by
  intro g n0 n1 nx L S M Q K hK h p e R s m args below meth c mc ms X N9 H locs ls hH hS hL
  unfold t_iclt at h
  split at h
  · rename_i y x S
    obtain ⟨hx, hy, k1, k2⟩ := h
    exact lv_icmp_lt X.1 X.2.1 hd ht (fun q => hK _ _ _ _ _ (k1 ((cw_lt2 hx hy).mp q)) p e R s m args below meth c mc ms X N9 H locs ls hH hS hL) (fun q => hK _ _ _ _ _ (k2 (fun z => q ((cw_lt2 hx hy).mpr z))) p e R s m args below meth c mc ms X N9 H locs ls hH hS hL)
  · exact h.elim
def t_icge (tgt nxt : Nat) : cw_T := fun _ _ nx L S M _ K => match S with
  | .inl y :: .inl x :: S => in32 x ∧ in32 y ∧ ((y ≤ x) → K nx tgt L S M) ∧ (¬ y ≤ x → K nx nxt L S M)
  | _ => False
theorem tm_icge {y : cw_Y} {pc tgt : Nat} {off : Int} (hd : decode y.2.1 pc = .ok (.if_icmp .ge off, 3)) (ht : (pc : Int) + off = (tgt : Int)) : cw_tm y pc (t_icge tgt (pc + 3)) := by
  intro g n0 n1 nx L S M Q K hK h p e R s m args below meth c mc ms X N9 H locs ls hH hS hL
  unfold t_icge at h
  split at h
  · rename_i y x S
    obtain ⟨hx, hy, k1, k2⟩ := h
    exact lv_icmp_ge X.1 X.2.1 hd ht (fun q => hK _ _ _ _ _ (k1 ((cw_le2 hy hx).mp q)) p e R s m args below meth c mc ms X N9 H locs ls hH hS hL) (fun q => hK _ _ _ _ _ (k2 (fun z => q ((cw_le2 hy hx).mpr z))) p e R s m args below meth c mc ms X N9 H locs ls hH hS hL)
  · exact h.elim
def t_icgt (tgt nxt : Nat) : cw_T := fun _ _ nx L S M _ K => match S with
  | .inl y :: .inl x :: S => in32 x ∧ in32 y ∧ ((y < x) → K nx tgt L S M) ∧ (¬ y < x → K nx nxt L S M)
  | _ => False
theorem tm_icgt {y : cw_Y} {pc tgt : Nat} {off : Int} (hd : decode y.2.1 pc = .ok (.if_icmp .gt off, 3)) (ht : (pc : Int) + off = (tgt : Int)) : cw_tm y pc (t_icgt tgt (pc + 3)) := by
  intro g n0 n1 nx L S M Q K hK h p e R s m args below meth c mc ms X N9 H locs ls hH hS hL
  unfold t_icgt at h
  split at h
  · rename_i y x S
    obtain ⟨hx, hy, k1, k2⟩ := h
    exact lv_icmp_gt X.1 X.2.1 hd ht (fun q => hK _ _ _ _ _ (k1 ((cw_lt2 hy hx).mp q)) p e R s m args below meth c mc ms X N9 H locs ls hH hS hL) (fun q => hK _ _ _ _ _ (k2 (fun z => q ((cw_lt2 hy hx).mpr z))) p e R s m args below meth c mc ms X N9 H locs ls hH hS hL)
  · exact h.elim
def t_icle (tgt nxt : Nat) : cw_T := fun _ _ nx L S M _ K => match S with
  | .inl y :: .inl x :: S => in32 x ∧ in32 y ∧ ((x ≤ y) → K nx tgt L S M) ∧ (¬ x ≤ y → K nx nxt L S M)
  | _ => False
theorem tm_icle {y : cw_Y} {pc tgt : Nat} {off : Int} (hd : decode y.2.1 pc = .ok (.if_icmp .le off, 3)) (ht : (pc : Int) + off = (tgt : Int)) : cw_tm y pc (t_icle tgt (pc + 3)) := by
  intro g n0 n1 nx L S M Q K hK h p e R s m args below meth c mc ms X N9 H locs ls hH hS hL
  unfold t_icle at h
  split at h
  · rename_i y x S
    obtain ⟨hx, hy, k1, k2⟩ := h
    exact lv_icmp_le X.1 X.2.1 hd ht (fun q => hK _ _ _ _ _ (k1 ((cw_le2 hx hy).mp q)) p e R s m args below meth c mc ms X N9 H locs ls hH hS hL) (fun q => hK _ _ _ _ _ (k2 (fun z => q ((cw_le2 hx hy).mpr z))) p e R s m args below meth c mc ms X N9 H locs ls hH hS hL)
  · exact h.elim
theorem cw_cmp {x y : Int} (hx : in64 x) (hy : in64 y) : lg_cmp (Int64.ofInt x) (Int64.ofInt y) = Int32.ofInt (if y < x then 1 else if x = y then 0 else -1) := by
  unfold lg_cmp
  have e1 : (Int64.ofInt x > Int64.ofInt y) ↔ y < x := by
    show Int64.ofInt y < Int64.ofInt x ↔ _
    rw [Int64.lt_iff_toInt_lt, cw_i64 hx, cw_i64 hy]
  have e2 : (Int64.ofInt x = Int64.ofInt y) ↔ x = y := by
    rw [← Int64.toInt_inj, cw_i64 hx, cw_i64 hy]
  by_cases h1 : y < x
  · rw [if_pos (e1.mpr h1), if_pos h1]; rfl
  · rw [if_neg (fun q => h1 (e1.mp q)), if_neg h1]
    by_cases h2 : x = y
    · rw [if_pos (e2.mpr h2), if_pos h2]; rfl
    · rw [if_neg (fun q => h2 (e2.mp q)), if_neg h2]; rfl
theorem cw_cmp_self (z : Int64) : lg_cmp z z = 0 := by
  unfold lg_cmp
  rw [if_neg (by show ¬ z < z; rw [Int64.lt_iff_toInt_lt]; omega), if_pos rfl]
def cw_cm (x y : Int) : Int := if y < x then 1 else if x = y then 0 else -1
theorem cw_cm32 (x y : Int) : in32 (cw_cm x y) := by
  unfold cw_cm in32
  split
  · omega
  · split <;> omega
def t_lceq (tgt nxt : Nat) : cw_T := fun _ _ nx L S M _ K => match S with
  | .inr (.inl y) :: .inr (.inl x) :: S => in64 x ∧ in64 y ∧ ((x = y) → K nx tgt L S M) ∧ (¬ x = y → K nx nxt L S M)
  | _ => False
theorem tm_lceq {y : cw_Y} {pc tgt : Nat} {off : Int} (hd1 : decode y.2.1 pc = .ok (.lcmp, 1)) (hd : decode y.2.1 (pc + 1) = .ok (.ifCond .eq off, 3)) (ht : ((pc + 1 : Nat) : Int) + off = (tgt : Int)) : cw_tm y pc (t_lceq tgt (pc + 1 + 3)) := by
  intro g n0 n1 nx L S M Q K hK h p e R s m args below meth c mc ms X N9 H locs ls hH hS hL
  unfold t_lceq at h
  split at h
  · rename_i y x S
    obtain ⟨hx, hy, k1, k2⟩ := h
    refine W.lcmp X.1 X.2.1 hd1 ?_
    rw [cw_cmp hx hy]
    have h32 := cw_cm32 x y
    have hz : cw_cm x y = 0 ↔ x = y := by
      unfold cw_cm
      split
      · omega
      · split <;> omega
    exact lv_if_eq X.1 X.2.1 hd ht (fun q => hK _ _ _ _ _ (k1 (hz.mp ((cw_eq0 h32).mp q))) p e R s m args below meth c mc ms X N9 H locs ls hH hS hL) (fun q => hK _ _ _ _ _ (k2 (fun w => q ((cw_eq0 h32).mpr (hz.mpr w)))) p e R s m args below meth c mc ms X N9 H locs ls hH hS hL)
  · exact h.elim
def t_lcne (tgt nxt : Nat) : cw_T := fun _ _ nx L S M _ K => match S with
  | .inr (.inl y) :: .inr (.inl x) :: S => in64 x ∧ in64 y ∧ (¬ x = y → K nx tgt L S M) ∧ (x = y → K nx nxt L S M)
  | _ => False
theorem tm_lcne {y : cw_Y} {pc tgt : Nat} {off : Int} (hd1 : decode y.2.1 pc = .ok (.lcmp, 1)) (hd : decode y.2.1 (pc + 1) = .ok (.ifCond .ne off, 3)) (ht : ((pc + 1 : Nat) : Int) + off = (tgt : Int)) : cw_tm y pc (t_lcne tgt (pc + 1 + 3)) := by
  intro g n0 n1 nx L S M Q K hK h p e R s m args below meth c mc ms X N9 H locs ls hH hS hL
  unfold t_lcne at h
  split at h
  · rename_i y x S
    obtain ⟨hx, hy, k1, k2⟩ := h
    refine W.lcmp X.1 X.2.1 hd1 ?_
    rw [cw_cmp hx hy]
    have h32 := cw_cm32 x y
    have hz : cw_cm x y = 0 ↔ x = y := by
      unfold cw_cm
      split
      · omega
      · split <;> omega
    exact lv_if_ne X.1 X.2.1 hd ht (fun q => hK _ _ _ _ _ (k1 (fun w => q ((cw_eq0 h32).mpr (hz.mpr w)))) p e R s m args below meth c mc ms X N9 H locs ls hH hS hL) (fun q => hK _ _ _ _ _ (k2 (hz.mp ((cw_eq0 h32).mp q))) p e R s m args below meth c mc ms X N9 H locs ls hH hS hL)
  · exact h.elim
def t_lclt (tgt nxt : Nat) : cw_T := fun _ _ nx L S M _ K => match S with
  | .inr (.inl y) :: .inr (.inl x) :: S => in64 x ∧ in64 y ∧ ((x < y) → K nx tgt L S M) ∧ (¬ x < y → K nx nxt L S M)
  | _ => False
theorem tm_lclt {y : cw_Y} {pc tgt : Nat} {off : Int} (hd1 : decode y.2.1 pc = .ok (.lcmp, 1)) (hd : decode y.2.1 (pc + 1) = .ok (.ifCond .lt off, 3)) (ht : ((pc + 1 : Nat) : Int) + off = (tgt : Int)) : cw_tm y pc (t_lclt tgt (pc + 1 + 3)) := by
  intro g n0 n1 nx L S M Q K hK h p e R s m args below meth c mc ms X N9 H locs ls hH hS hL
  unfold t_lclt at h
  split at h
  · rename_i y x S
    obtain ⟨hx, hy, k1, k2⟩ := h
    refine W.lcmp X.1 X.2.1 hd1 ?_
    rw [cw_cmp hx hy]
    have h32 := cw_cm32 x y
    have hz : cw_cm x y < 0 ↔ x < y := by
      unfold cw_cm
      split
      · omega
      · split <;> omega
    exact lv_if_lt X.1 X.2.1 hd ht (fun q => hK _ _ _ _ _ (k1 (hz.mp ((cw_lt0 h32).mp q))) p e R s m args below meth c mc ms X N9 H locs ls hH hS hL) (fun q => hK _ _ _ _ _ (k2 (fun w => q ((cw_lt0 h32).mpr (hz.mpr w)))) p e R s m args below meth c mc ms X N9 H locs ls hH hS hL)
  · exact h.elim
def t_lcge (tgt nxt : Nat) : cw_T := fun _ _ nx L S M _ K => match S with
  | .inr (.inl y) :: .inr (.inl x) :: S => in64 x ∧ in64 y ∧ ((y ≤ x) → K nx tgt L S M) ∧ (¬ y ≤ x → K nx nxt L S M)
  | _ => False
theorem tm_lcge {y : cw_Y} {pc tgt : Nat} {off : Int} (hd1 : decode y.2.1 pc = .ok (.lcmp, 1)) (hd : decode y.2.1 (pc + 1) = .ok (.ifCond .ge off, 3)) (ht : ((pc + 1 : Nat) : Int) + off = (tgt : Int)) : cw_tm y pc (t_lcge tgt (pc + 1 + 3)) := by
  intro g n0 n1 nx L S M Q K hK h p e R s m args below meth c mc ms X N9 H locs ls hH hS hL
  unfold t_lcge at h
  split at h
  · rename_i y x S
    obtain ⟨hx, hy, k1, k2⟩ := h
    refine W.lcmp X.1 X.2.1 hd1 ?_
    rw [cw_cmp hx hy]
    have h32 := cw_cm32 x y
    have hz : 0 ≤ cw_cm x y ↔ y ≤ x := by
      unfold cw_cm
      split
      · omega
      · split <;> omega
    exact lv_if_ge X.1 X.2.1 hd ht (fun q => hK _ _ _ _ _ (k1 (hz.mp ((cw_ge0 h32).mp q))) p e R s m args below meth c mc ms X N9 H locs ls hH hS hL) (fun q => hK _ _ _ _ _ (k2 (fun w => q ((cw_ge0 h32).mpr (hz.mpr w)))) p e R s m args below meth c mc ms X N9 H locs ls hH hS hL)
  · exact h.elim
def t_lcgt (tgt nxt : Nat) : cw_T := fun _ _ nx L S M _ K => match S with
  | .inr (.inl y) :: .inr (.inl x) :: S => in64 x ∧ in64 y ∧ ((y < x) → K nx tgt L S M) ∧ (¬ y < x → K nx nxt L S M)
  | _ => False
theorem tm_lcgt {y : cw_Y} {pc tgt : Nat} {off : Int} (hd1 : decode y.2.1 pc = .ok (.lcmp, 1)) (hd : decode y.2.1 (pc + 1) = .ok (.ifCond .gt off, 3)) (ht : ((pc + 1 : Nat) : Int) + off = (tgt : Int)) : cw_tm y pc (t_lcgt tgt (pc + 1 + 3)) := by
  intro g n0 n1 nx L S M Q K hK h p e R s m args below meth c mc ms X N9 H locs ls hH hS hL
  unfold t_lcgt at h
  split at h
  · rename_i y x S
    obtain ⟨hx, hy, k1, k2⟩ := h
    refine W.lcmp X.1 X.2.1 hd1 ?_
    rw [cw_cmp hx hy]
    have h32 := cw_cm32 x y
    have hz : 0 < cw_cm x y ↔ y < x := by
      unfold cw_cm
      split
      · omega
      · split <;> omega
    exact lv_if_gt X.1 X.2.1 hd ht (fun q => hK _ _ _ _ _ (k1 (hz.mp ((cw_gt0 h32).mp q))) p e R s m args below meth c mc ms X N9 H locs ls hH hS hL) (fun q => hK _ _ _ _ _ (k2 (fun w => q ((cw_gt0 h32).mpr (hz.mpr w)))) p e R s m args below meth c mc ms X N9 H locs ls hH hS hL)
  · exact h.elim
def t_lcle (tgt nxt : Nat) : cw_T := fun _ _ nx L S M _ K => match S with
  | .inr (.inl y) :: .inr (.inl x) :: S => in64 x ∧ in64 y ∧ ((x ≤ y) → K nx tgt L S M) ∧ (¬ x ≤ y → K nx nxt L S M)
  | _ => False
theorem tm_lcle {y : cw_Y} {pc tgt : Nat} {off : Int} (hd1 : decode y.2.1 pc = .ok (.lcmp, 1)) (hd : decode y.2.1 (pc + 1) = .ok (.ifCond .le off, 3)) (ht : ((pc + 1 : Nat) : Int) + off = (tgt : Int)) : cw_tm y pc (t_lcle tgt (pc + 1 + 3)) := by
  intro g n0 n1 nx L S M Q K hK h p e R s m args below meth c mc ms X N9 H locs ls hH hS hL
  unfold t_lcle at h
  split at h
  · rename_i y x S
    obtain ⟨hx, hy, k1, k2⟩ := h
    refine W.lcmp X.1 X.2.1 hd1 ?_
    rw [cw_cmp hx hy]
    have h32 := cw_cm32 x y
    have hz : cw_cm x y ≤ 0 ↔ x ≤ y := by
      unfold cw_cm
      split
      · omega
      · split <;> omega
    exact lv_if_le X.1 X.2.1 hd ht (fun q => hK _ _ _ _ _ (k1 (hz.mp ((cw_le0 h32).mp q))) p e R s m args below meth c mc ms X N9 H locs ls hH hS hL) (fun q => hK _ _ _ _ _ (k2 (fun w => q ((cw_le0 h32).mpr (hz.mpr w)))) p e R s m args below meth c mc ms X N9 H locs ls hH hS hL)
  · exact h.elim
/-- returns -/
def t_iret : cw_T := fun _ n1 nx _ S M Q _ => match S with
  | [.inl x] => nx = n1 ∧ Q (some (.inl x)) M
  | _ => False
def t_zret : cw_T := fun _ n1 nx _ S M Q _ => match S with
  | [.inl x] => nx = n1 ∧ (x = 0 ∨ x = 1) ∧ Q (some (.inl x)) M
  | _ => False
def t_lret : cw_T := fun _ n1 nx _ S M Q _ => match S with
  | [.inr (.inl x)] => nx = n1 ∧ Q (some (.inr (.inl x))) M
  | _ => False
def t_aret : cw_T := fun _ n1 nx _ S M Q _ => match S with
  | [.inr (.inr x)] => nx = n1 ∧ 0 ≤ x ∧ Q (some (.inr (.inr x))) M
  | _ => False
def t_vret : cw_T := fun _ n1 nx _ S M Q _ => match S with
  | [] => nx = n1 ∧ Q none M
  | _ => False
theorem cw_out {g : cw_G} {n1 : Nat} {Q : Option cw_V → cw_M → Prop} {M : cw_M} {s t : State} {H : Heap} {locs : List Loc} {args : Array Value} {r : Option cw_V} (hH : cw_H g n1 M H) (hS : va_S (fun q => cw_B g ≤ q) s.heap H locs) (hQ : Q r M) (ht : t.heap = H) : cw_Q g n1 Q args s (.returned (r.map (cw_v g))) t :=
  ⟨⟨r, M, rfl, hQ, by rw [ht]; exact hH⟩, hS.F ht⟩
theorem tm_iret {y : cw_Y} {pc : Nat} (hd : decode y.2.1 pc = .ok (.ireturn, 1)) (hr : y.2.2.2.1 = some .int) : cw_tm y pc t_iret := by
  intro g n0 n1 nx L S M Q K hK h p e R s m args below meth c mc ms X N9 H locs ls hH hS hL
  unfold t_iret at h
  split at h
  · rename_i x
    obtain ⟨rfl, hQ⟩ := h
    refine W.widen N9.2.2.1 N9.2.2.2.2.1 ?_
    exact W.iret X.1 X.2.1 (X.2.2.2.1.trans hr) (fun t ht hW => cw_out (r := some (.inl x)) hH hS hQ ht) hS.2.2 hd X.2.2.2.2.2.2.1
  · exact h.elim
theorem tm_zret {y : cw_Y} {pc : Nat} (hd : decode y.2.1 pc = .ok (.ireturn, 1)) (hr : y.2.2.2.1 = some .boolean) : cw_tm y pc t_zret := by
  intro g n0 n1 nx L S M Q K hK h p e R s m args below meth c mc ms X N9 H locs ls hH hS hL
  unfold t_zret at h
  split at h
  · rename_i x
    obtain ⟨rfl, hx, hQ⟩ := h
    refine W.widen N9.2.2.1 N9.2.2.2.2.1 ?_
    exact W.zret X.1 X.2.1 (X.2.2.2.1.trans hr) (by rcases hx with rfl | rfl <;> rfl) (fun t ht hW => cw_out (r := some (.inl x)) hH hS hQ ht) hS.2.2 hd X.2.2.2.2.2.2.1
  · exact h.elim
theorem tm_lret {y : cw_Y} {pc : Nat} (hd : decode y.2.1 pc = .ok (.lreturn, 1)) (hr : y.2.2.2.1 = some .long) : cw_tm y pc t_lret := by
  intro g n0 n1 nx L S M Q K hK h p e R s m args below meth c mc ms X N9 H locs ls hH hS hL
  unfold t_lret at h
  split at h
  · rename_i x
    obtain ⟨rfl, hQ⟩ := h
    refine W.widen N9.2.2.1 N9.2.2.2.2.1 ?_
    exact W.lret X.1 X.2.1 (X.2.2.2.1.trans hr) (fun t ht hW => cw_out (r := some (.inr (.inl x))) hH hS hQ ht) hS.2.2 hd X.2.2.2.2.2.2.1
  · exact h.elim
theorem tm_aret {y : cw_Y} {pc : Nat} {rt : FieldType} (hd : decode y.2.1 pc = .ok (.areturn, 1)) (hr : y.2.2.2.1 = some rt) (hrt : (∃ n, rt = .object n) ∨ ∃ t, rt = .array t) : cw_tm y pc t_aret := by
  intro g n0 n1 nx L S M Q K hK h p e R s m args below meth c mc ms X N9 H locs ls hH hS hL
  unfold t_aret at h
  split at h
  · rename_i x
    obtain ⟨rfl, hx, hQ⟩ := h
    refine W.widen N9.2.2.1 N9.2.2.2.2.1 ?_
    refine W.aret X.1 X.2.1 (X.2.2.2.1.trans hr) hrt (v := cw_v g (.inr (.inr x))) (Or.inr ⟨_, cw_v_ref g hx⟩) (fun t ht hW => cw_out (r := some (.inr (.inr x))) hH hS hQ ht) hS.2.2 hd X.2.2.2.2.2.2.1
  · exact h.elim
theorem tm_vret {y : cw_Y} {pc : Nat} (hd : decode y.2.1 pc = .ok (.return_, 1)) (hr : y.2.2.2.1 = none) : cw_tm y pc t_vret := by
  intro g n0 n1 nx L S M Q K hK h p e R s m args below meth c mc ms X N9 H locs ls hH hS hL
  unfold t_vret at h
  split at h
  · obtain ⟨rfl, hQ⟩ := h
    refine W.widen N9.2.2.1 N9.2.2.2.2.1 ?_
    exact W.vret X.1 X.2.1 (X.2.2.2.1.trans hr) (fun t ht hW => cw_out (r := none) hH hS hQ ht) hS.2.2 hd X.2.2.2.2.2.2.1
  · exact h.elim
/-- a tableswitch from 0 on -/
def t_sw (tgts : List Nat) (dflt : Nat) : cw_T := fun _ _ nx L S M _ K => match S with
  | .inl x :: S => in32 x ∧ (x < 0 ∨ (tgts.length : Int) ≤ x → K nx dflt L S M) ∧ (∀ (i t : Nat), tgts[i]? = some t → x = i → K nx t L S M)
  | _ => False
theorem tm_sw {y : cw_Y} {pc len dt : Nat} {dflt hi : Int} {offs : Array Int} {tgts : List Nat} (hd : decode y.2.1 pc = .ok (.tableswitch dflt 0 hi offs, len)) (hhi : hi + 1 = tgts.length) (hdt : (pc : Int) + dflt = (dt : Int)) (ho : offs.toList.map (fun o => (pc : Int) + o) = tgts.map (fun t : Nat => (t : Int))) : cw_tm y pc (t_sw tgts dt) := by
  intro g n0 n1 nx L S M Q K hK h p e R s m args below meth c mc ms X N9 H locs ls hH hS hL
  unfold t_sw at h
  split at h
  · rename_i x S
    obtain ⟨h32, k1, k2⟩ := h
    have e1 := cw_i32 h32
    by_cases hx : x < 0 ∨ (tgts.length : Int) ≤ x
    · exact lv_tableOut X.1 X.2.1 hd (by rw [e1]; omega) hdt (hK _ _ _ _ _ (k1 hx) p e R s m args below meth c mc ms X N9 H locs ls hH hS hL)
    · have hlt : x.toNat < tgts.length := by omega
      have ht : tgts[x.toNat]? = some tgts[x.toNat] := List.getElem?_eq_getElem hlt
      have h2 : (tgts.map (fun t : Nat => (t : Int)))[x.toNat]? = some ((tgts[x.toNat] : Nat) : Int) := by rw [List.getElem?_map, ht]; rfl
      rw [← ho, List.getElem?_map] at h2
      cases hoff : offs.toList[x.toNat]? with
      | none => rw [hoff] at h2; cases h2
      | some off =>
        rw [hoff] at h2
        have h3 : (pc : Int) + off = ((tgts[x.toNat] : Nat) : Int) := Option.some.inj h2
        exact lv_tableIn X.1 X.2.1 hd (by rw [e1]; omega) (by rw [e1]; omega) (off := off) (by rw [e1, Int.sub_zero, ← Array.getElem?_toList]; exact hoff) h3 (hK _ _ _ _ _ (k2 x.toNat _ ht (by omega)) p e R s m args below meth c mc ms X N9 H locs ls hH hS hL)
  · exact h.elim
