/-! the law's ops: the script is read; blocks for one launch -/
def cw_sx (g : cw_G) : Int → Int := fun i => (cw_xs g i.toNat).toInt
def cg_at (g : cw_G) (y : cw_Y) (pc : Nat) (op : cw_O) (len : Nat) : Prop := ∀ (n0 n1 nx : Nat) (L S : List cw_V) (M : cw_M) (Q : Option cw_V → cw_M → Prop) (K : List cw_V → List cw_V → cw_M → Prop),
  (∀ L' S' M', K L' S' M' → cw_J g y n0 n1 nx (pc + len) L' S' M' Q) → op nx L S M K → cw_J g y n0 n1 nx pc L S M Q
def cg_bk (g : cw_G) (y : cw_Y) (pc : Nat) (os : List cw_O) (t : cw_T) : Prop := ∀ (n0 n1 nx : Nat) (L S : List cw_V) (M : cw_M) (Q : Option cw_V → cw_M → Prop),
  cw_wp os nx L S M (fun L S M => t g n1 nx L S M Q (fun nx pc L S M => cw_J g y n0 n1 nx pc L S M Q)) → cw_J g y n0 n1 nx pc L S M Q
theorem cg_nil {g : cw_G} {y : cw_Y} {pc : Nat} {t : cw_T} (h : cw_tm y pc t) : cg_bk g y pc [] t := fun n0 n1 nx L S M Q k => h g n0 n1 nx L S M Q _ (fun _ _ _ _ _ h => h) k
theorem cg_cons {g : cw_G} {y : cw_Y} {pc len : Nat} {o : cw_O} {os : List cw_O} {t : cw_T} (h : cg_at g y pc o len) (hb : cg_bk g y (pc + len) os t) : cg_bk g y pc (o :: os) t := fun n0 n1 nx L S M Q k =>
  h n0 n1 nx L S M Q _ (fun L' S' M' k' => hb n0 n1 nx L' S' M' Q k') k
theorem cg_con {g : cw_G} {y : cw_Y} {pc len : Nat} {o : cw_O} {os : List cw_O} {t : cw_T} (h : cw_at y pc o len) (hb : cg_bk g y (pc + len) os t) : cg_bk g y pc (o :: os) t := cg_cons (fun n0 n1 nx L S M Q K a b => h g n0 n1 nx L S M Q K a b) hb
def o_sald (f : Int → Int) (n : Nat) : cw_O := fun _ L S M K => match S with
  | .inl i :: .inr (.inr a) :: S => a = -5 ∧ ((0 ≤ i ∧ i < n) ∧ i < 100000) ∧ K L (.inl (f i) :: S) M
  | _ => False
def o_slen (n : Nat) : cw_O := fun _ L S M K => match S with
  | .inr (.inr a) :: S => a = -5 ∧ K L (.inl n :: S) M
  | _ => False
theorem cw_v_5 (g : cw_G) : cw_v g (.inr (.inr (-5))) = .ref (cw_sc g) := by
  rw [cw_v_R]
  have e : cw_ro g (-5) = some (cw_sc g) := by unfold cw_ro; rw [if_pos rfl]
  rw [e]; rfl
theorem at_sald {g : cw_G} {y : cw_Y} {pc : Nat} (hd : decode y.2.1 pc = .ok (.iaload, 1)) : cg_at g y pc (o_sald (cw_sx g) (cw_xL g)) 1 := by
  intro n0 n1 nx L S M Q K hK h p e R s m args below meth c mc ms X N9 H locs ls hH hS hL
  unfold o_sald at h
  split at h
  · rename_i i a S
    obtain ⟨ha, hi, h3⟩ := h
    subst ha
    have hk : cw_K g s := X.2.2.2.2.2.2.2.2
    have h32 : in32 i := ⟨by omega, by omega⟩
    have ei := cw_i32 h32
    have k := hK _ _ _ h3 p e R s m args below meth c mc ms X N9 H locs ls hH hS hL
    have ec : (Int32.ofInt i).toNatClampNeg = i.toNat := by
      show (Int32.ofInt i).toInt.toNat = i.toNat
      rw [ei]
    rw [List.map_cons, cw_v_I] at k
    rw [List.map_cons, List.map_cons, cw_v_I, cw_v_5]
    refine va_sld X.1 X.2.1 hk.2.2.2.2.1 (Nat.lt_of_lt_of_le hk.2.2.2.1 hk.2.2.1) (Nat.not_le.mpr hk.2.2.2.1) hS (vp_in_iff.mpr ⟨by rw [ei]; omega, by rw [ei]; omega⟩) hd ?_
    rw [ec]
    have e2 : Int32.ofInt (cw_sx g i) = cw_xs g i.toNat := Int32.ofInt_toInt _
    rw [e2] at k
    exact k
  · exact h.elim
theorem at_slen {g : cw_G} {y : cw_Y} {pc : Nat} (hd : decode y.2.1 pc = .ok (.arraylength, 1)) : cg_at g y pc (o_slen (cw_xL g)) 1 := by
  intro n0 n1 nx L S M Q K hK h p e R s m args below meth c mc ms X N9 H locs ls hH hS hL
  unfold o_slen at h
  split at h
  · rename_i a S
    obtain ⟨ha, h3⟩ := h
    subst ha
    have hk : cw_K g s := X.2.2.2.2.2.2.2.2
    have k := hK _ _ _ h3 p e R s m args below meth c mc ms X N9 H locs ls hH hS hL
    rw [List.map_cons, cw_v_I] at k
    rw [List.map_cons, cw_v_5]
    refine va_slen X.1 X.2.1 hk.2.2.2.2.1 (Nat.lt_of_lt_of_le hk.2.2.2.1 hk.2.2.1) (Nat.not_le.mpr hk.2.2.2.1) hS hd ?_
    have e2 : Int32.ofInt ((cw_xL g : Nat) : Int) = Int32.ofNat (cw_xL g) := Int32.ofInt_eq_ofNat
    rw [e2] at k
    exact k
  · exact h.elim
theorem w_sald {f : Int → Int} {n nx : Nat} {i a : Int} {L S : List cw_V} {M : cw_M} {K : List cw_V → List cw_V → cw_M → Prop} : o_sald f n nx L (.inl i :: .inr (.inr a) :: S) M K = (a = -5 ∧ ((0 ≤ i ∧ i < n) ∧ i < 100000) ∧ K L (.inl (f i) :: S) M) := rfl
theorem w_slen {n nx : Nat} {a : Int} {L S : List cw_V} {M : cw_M} {K : List cw_V → List cw_V → cw_M → Prop} : o_slen n nx L (.inr (.inr a) :: S) M K = (a = -5 ∧ K L (.inl n :: S) M) := rfl
