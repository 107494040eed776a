/-! one instruction at a time: what it does to the pure picture, and that the machine does so -/
abbrev cw_O : Type := Nat → List cw_V → List cw_V → cw_M → (List cw_V → List cw_V → cw_M → Prop) → Prop
def cw_at (y : cw_Y) (pc : Nat) (op : cw_O) (len : Nat) : Prop := ∀ (g : cw_G) (n0 n1 nx : Nat) (L S : List cw_V) (M : cw_M) (Q : Option cw_V → cw_M → Prop) (K : List cw_V → List cw_V → cw_M → Prop),
  (∀ L' S' M', K L' S' M' → cw_J g y n0 n1 nx (pc + len) L' S' M' Q) → op nx L S M K → cw_J g y n0 n1 nx pc L S M Q
def in32 (x : Int) : Prop := -2147483648 ≤ x ∧ x ≤ 2147483647
def in64 (x : Int) : Prop := -9223372036854775808 ≤ x ∧ x ≤ 9223372036854775807
theorem cw_i32 {x : Int} (h : in32 x) : (Int32.ofInt x).toInt = x := Int32.toInt_ofInt_of_le (by have := h.1; omega) (by have := h.2; omega)
theorem cw_i64 {x : Int} (h : in64 x) : (Int64.ofInt x).toInt = x := Int64.toInt_ofInt_of_le (by have := h.1; omega) (by have := h.2; omega)
/-- an instruction of the stack alone -/
theorem cw_lift {y : cw_Y} {pc len : Nat} {g : cw_G} {n0 n1 nx : Nat} {L S S' : List cw_V} {M : cw_M} {Q : Option cw_V → cw_M → Prop}
    (st : ∀ (p : Program) (e : Env) (R : Room) (s : State) (m : MethodId) (args : Array Value) (below : List Frame) (meth : Method) (c : Code) (Qw : State → Prop) (H : Heap) (locs : List Loc) (cells slots : Nat) (ls : Array Slot), p.tables.exec = Jvm.exec → c.code = y.2.1 →
      W p (cw_l g) e R s m args below meth c H locs cells slots Qw (F0 m (pc + len) ls (S'.map (cw_v g))) → W p (cw_l g) e R s m args below meth c H locs cells slots Qw (F0 m pc ls (S.map (cw_v g))))
    (h : cw_J g y n0 n1 nx (pc + len) L S' M Q) : cw_J g y n0 n1 nx pc L S M Q :=
  fun p e R s m args below meth c mc ms X N H locs ls hH hS hL => st p e R s m args below meth c _ H locs _ _ ls X.1 X.2.1 (h p e R s m args below meth c mc ms X N H locs ls hH hS hL)
-- ---- constants
def o_ic (n : Int) : cw_O := fun _ L S M K => K L (.inl n :: S) M
def o_lc (n : Int) : cw_O := fun _ L S M K => K L (.inr (.inl n) :: S) M
theorem at_iconst {y : cw_Y} {pc : Nat} {n : Int} (hd : decode y.2.1 pc = .ok (.iconst n, 1)) : cw_at y pc (o_ic n) 1 := fun g n0 n1 nx L S M Q K hK h =>
  cw_lift (fun p e R s m args below meth c Qw H locs cells slots ls hx hb k => lv_iconst hx hb hd rfl k) (hK _ _ _ h)
theorem at_bipush {y : cw_Y} {pc : Nat} {n : Int} (hd : decode y.2.1 pc = .ok (.bipush n, 2)) (hn : (Int8.ofInt n).toInt32 = Int32.ofInt n) : cw_at y pc (o_ic n) 2 := fun g n0 n1 nx L S M Q K hK h =>
  cw_lift (fun p e R s m args below meth c Qw H locs cells slots ls hx hb k => lv_bipush hx hb hd hn k) (hK _ _ _ h)
theorem at_sipush {y : cw_Y} {pc : Nat} {n : Int} (hd : decode y.2.1 pc = .ok (.sipush n, 3)) (hn : (Int16.ofInt n).toInt32 = Int32.ofInt n) : cw_at y pc (o_ic n) 3 := fun g n0 n1 nx L S M Q K hK h =>
  cw_lift (fun p e R s m args below meth c Qw H locs cells slots ls hx hb k => lv_sipush hx hb hd hn k) (hK _ _ _ h)
theorem at_lconst {y : cw_Y} {pc : Nat} {k : Fin 2} {n : Int} (hd : decode y.2.1 pc = .ok (.lconst k, 1)) (hn : Int64.ofNat (k : Nat) = Int64.ofInt n) : cw_at y pc (o_lc n) 1 := fun g n0 n1 nx L S M Q K hK h =>
  cw_lift (fun p e R s m args below meth c Qw H locs cells slots ls hx hb k => lv_lconst hx hb hd hn k) (hK _ _ _ h)
theorem at_ldc {y : cw_Y} {pc i : Nat} {n : Int} {v : Int32} (hd : decode y.2.1 pc = .ok (.ldc i, 2)) (hw : Jvm.Cond.constant y.1.cls i v ∈ cw_tb) (hn : v = Int32.ofInt n) : cw_at y pc (o_ic n) 2 := by
  intro g n0 n1 nx L S M Q K hK h p e R s m args below meth c mc ms X N H locs ls hH hS hL
  subst hn
  exact lv_ldc X.1 X.2.1 X.2.2.2.2.1 (X.2.2.2.2.2.1 _ hw) hd (hK _ _ _ h p e R s m args below meth c mc ms X N H locs ls hH hS hL)
theorem at_ldc2 {y : cw_Y} {pc i : Nat} {n : Int} {v : Int64} (hd : decode y.2.1 pc = .ok (.ldc2_w i, 3)) (hw : Jvm.Cond.constantLong y.1.cls i v ∈ cw_tb) (hn : v = Int64.ofInt n) : cw_at y pc (o_lc n) 3 := by
  intro g n0 n1 nx L S M Q K hK h p e R s m args below meth c mc ms X N H locs ls hH hS hL
  subst hn
  exact lv_ldc2 X.1 X.2.1 X.2.2.2.2.1 (X.2.2.2.2.2.1 _ hw) hd (hK _ _ _ h p e R s m args below meth c mc ms X N H locs ls hH hS hL)
-- ---- places of the frame
def cw_gt : List cw_V → Nat → cw_V := fun L i => match L, i with
  | [], _ => cU
  | x :: _, 0 => x
  | _ :: t, i + 1 => cw_gt t i
theorem cw_gt_is : ∀ (L : List cw_V) (i : Nat) (v : cw_V), cw_gt L i = v → v ≠ cU → L[i]? = some v
  | [], _, v, h, hu => absurd h.symm hu
  | x :: t, 0, v, h, _ => by simp only [cw_gt] at h; rw [h]; rfl
  | x :: t, i + 1, v, h, hu => by
    rw [List.getElem?_cons_succ]
    exact cw_gt_is t i v h hu
def o_ild (i : Nat) : cw_O := fun _ L S M K => match cw_gt L i with
  | .inl x => K L (.inl x :: S) M
  | _ => False
def o_lld (i : Nat) : cw_O := fun _ L S M K => match cw_gt L i with
  | .inr (.inl x) => K L (.inr (.inl x) :: S) M
  | _ => False
def o_ald (i : Nat) : cw_O := fun _ L S M K => match cw_gt L i with
  | .inr (.inr x) => (0 ≤ x ∨ x = -5) ∧ K L (.inr (.inr x) :: S) M
  | _ => False
theorem cw_gtI {g : cw_G} {nL i : Nat} {L : List cw_V} {ls : Array Slot} {x : Int} (hL : cw_L g nL L ls) (h : cw_gt L i = .inl x) : ls[i]? = some (.val (.int (Int32.ofInt x))) :=
  hL.2.2 i _ (cw_gt_is L i _ h (by simp [cU])) (by simp [cU])
theorem cw_gtL {g : cw_G} {nL i : Nat} {L : List cw_V} {ls : Array Slot} {x : Int} (hL : cw_L g nL L ls) (h : cw_gt L i = .inr (.inl x)) : ls[i]? = some (.val (.long (Int64.ofInt x))) :=
  hL.2.2 i _ (cw_gt_is L i _ h (by simp [cU])) (by simp [cU])
theorem cw_gtR {g : cw_G} {nL i : Nat} {L : List cw_V} {ls : Array Slot} {x : Int} (hL : cw_L g nL L ls) (h : cw_gt L i = .inr (.inr x)) (hx : 0 ≤ x ∨ x = -5) : ∃ a, cw_ro g x = some a ∧ ls[i]? = some (.val (.ref a)) := by
  have h1 := hL.2.2 i _ (cw_gt_is L i _ h (by simp [cU]; omega)) (by simp [cU]; omega)
  rw [cw_v_R] at h1
  rcases hx with hx | hx
  · rw [cw_ro_of g hx] at h1
    exact ⟨_, cw_ro_of g hx, h1⟩
  · subst hx
    exact ⟨cw_sc g, rfl, h1⟩
theorem at_ildn {y : cw_Y} {pc i : Nat} {k : Fin 4} (hd : decode y.2.1 pc = .ok (.iload_n k, 1)) (hi : (k : Nat) = i) : cw_at y pc (o_ild i) 1 := by
  intro g n0 n1 nx L S M Q K hK h p e R s m args below meth c mc ms X N H locs ls hH hS hL
  unfold o_ild at h
  split at h
  · rename_i x hx
    exact lv_iload_n X.1 X.2.1 hd hi (cw_gtI hL hx) (hK _ _ _ h p e R s m args below meth c mc ms X N H locs ls hH hS hL)
  · exact h.elim
theorem at_ild {y : cw_Y} {pc i : Nat} (hd : decode y.2.1 pc = .ok (.iload i, 2)) : cw_at y pc (o_ild i) 2 := by
  intro g n0 n1 nx L S M Q K hK h p e R s m args below meth c mc ms X N H locs ls hH hS hL
  unfold o_ild at h
  split at h
  · rename_i x hx
    exact lv_iload X.1 X.2.1 hd (cw_gtI hL hx) (hK _ _ _ h p e R s m args below meth c mc ms X N H locs ls hH hS hL)
  · exact h.elim
theorem at_lldn {y : cw_Y} {pc i : Nat} {k : Fin 4} (hd : decode y.2.1 pc = .ok (.lload_n k, 1)) (hi : (k : Nat) = i) : cw_at y pc (o_lld i) 1 := by
  intro g n0 n1 nx L S M Q K hK h p e R s m args below meth c mc ms X N H locs ls hH hS hL
  unfold o_lld at h
  split at h
  · rename_i x hx
    exact lv_lload_n X.1 X.2.1 hd hi (cw_gtL hL hx) (hK _ _ _ h p e R s m args below meth c mc ms X N H locs ls hH hS hL)
  · exact h.elim
theorem at_lld {y : cw_Y} {pc i : Nat} (hd : decode y.2.1 pc = .ok (.lload i, 2)) : cw_at y pc (o_lld i) 2 := by
  intro g n0 n1 nx L S M Q K hK h p e R s m args below meth c mc ms X N H locs ls hH hS hL
  unfold o_lld at h
  split at h
  · rename_i x hx
    exact lv_lload X.1 X.2.1 hd (cw_gtL hL hx) (hK _ _ _ h p e R s m args below meth c mc ms X N H locs ls hH hS hL)
  · exact h.elim
theorem at_aldn {y : cw_Y} {pc i : Nat} {k : Fin 4} (hd : decode y.2.1 pc = .ok (.aload_n k, 1)) (hi : (k : Nat) = i) : cw_at y pc (o_ald i) 1 := by
  intro g n0 n1 nx L S M Q K hK h p e R s m args below meth c mc ms X N H locs ls hH hS hL
  unfold o_ald at h
  split at h
  · rename_i x hx
    obtain ⟨a, ha, hl⟩ := cw_gtR hL hx h.1
    have k := hK _ _ _ h.2 p e R s m args below meth c mc ms X N H locs ls hH hS hL
    rw [List.map_cons, cw_v_R, ha] at k
    exact lv_aload_n X.1 X.2.1 hd hi hl k
  · exact h.elim
theorem at_ald {y : cw_Y} {pc i : Nat} (hd : decode y.2.1 pc = .ok (.aload i, 2)) : cw_at y pc (o_ald i) 2 := by
  intro g n0 n1 nx L S M Q K hK h p e R s m args below meth c mc ms X N H locs ls hH hS hL
  unfold o_ald at h
  split at h
  · rename_i x hx
    obtain ⟨a, ha, hl⟩ := cw_gtR hL hx h.1
    have k := hK _ _ _ h.2 p e R s m args below meth c mc ms X N H locs ls hH hS hL
    rw [List.map_cons, cw_v_R, ha] at k
    exact lv_aload X.1 X.2.1 hd hl k
  · exact h.elim
def cw_nl (v : cw_V) : cw_V := match v with
  | .inr (.inl _) => cU
  | v => v
/-- a value of one place is laid -/
def cw_s1 : List cw_V → Nat → cw_V → List cw_V := fun L i v => match L, i with
  | [], _ => []
  | _ :: t, 0 => v :: t
  | x :: t, 1 => cw_nl x :: cw_s1 t 0 v
  | x :: t, i + 2 => x :: cw_s1 t (i + 1) v
/-- a long is laid -/
def cw_s2 : List cw_V → Nat → cw_V → List cw_V := fun L i v => match L, i with
  | [], _ => []
  | [_], 0 => [v]
  | _ :: _ :: t, 0 => v :: cU :: t
  | x :: t, 1 => cw_nl x :: cw_s2 t 0 v
  | x :: t, i + 2 => x :: cw_s2 t (i + 1) v
theorem cw_nl_is {x w : cw_V} (h : cw_nl x = w) (hu : w ≠ cU) : x = w ∧ ¬ ∃ z, w = .inr (.inl z) := by
  rcases x with x | x | x
  · simp only [cw_nl] at h; subst h; simp
  · simp only [cw_nl] at h; exact absurd h.symm hu
  · simp only [cw_nl] at h; subst h; simp
theorem cw_s1_is : ∀ (L : List cw_V) (i : Nat) (v : cw_V) (j : Nat) (w : cw_V), (cw_s1 L i v)[j]? = some w → w ≠ cU → (j = i ∧ w = v) ∨ (j ≠ i ∧ L[j]? = some w ∧ ¬ (j + 1 = i ∧ ∃ z, w = .inr (.inl z)))
  | [], i, v, j, w, h, _ => by simp [cw_s1] at h
  | x :: t, 0, v, 0, w, h, _ => by simp [cw_s1] at h; exact Or.inl ⟨rfl, h.symm⟩
  | x :: t, 0, v, j + 1, w, h, _ => by
    simp only [cw_s1, List.getElem?_cons_succ] at h
    exact Or.inr ⟨by omega, h, by omega⟩
  | x :: t, 1, v, 0, w, h, hu => by
    simp [cw_s1] at h
    obtain ⟨h1, h2⟩ := cw_nl_is h hu
    exact Or.inr ⟨by omega, by rw [h1]; rfl, fun q => h2 q.2⟩
  | x :: t, 1, v, j + 1, w, h, hu => by
    simp only [cw_s1, List.getElem?_cons_succ] at h
    rcases cw_s1_is t 0 v j w h hu with ⟨h1, h2⟩ | ⟨h1, h2, h3⟩
    · exact Or.inl ⟨by omega, h2⟩
    · exact Or.inr ⟨by omega, h2, by omega⟩
  | x :: t, i + 2, v, 0, w, h, hu => by
    simp [cw_s1] at h
    exact Or.inr ⟨by omega, by rw [h]; rfl, by omega⟩
  | x :: t, i + 2, v, j + 1, w, h, hu => by
    simp only [cw_s1, List.getElem?_cons_succ] at h
    rcases cw_s1_is t (i + 1) v j w h hu with ⟨h1, h2⟩ | ⟨h1, h2, h3⟩
    · exact Or.inl ⟨by omega, h2⟩
    · exact Or.inr ⟨by omega, h2, fun q => h3 ⟨by omega, q.2⟩⟩
theorem cw_s2_is : ∀ (L : List cw_V) (i : Nat) (v : cw_V) (j : Nat) (w : cw_V), (cw_s2 L i v)[j]? = some w → w ≠ cU → (j = i ∧ w = v) ∨ (j ≠ i ∧ j ≠ i + 1 ∧ L[j]? = some w ∧ ¬ (j + 1 = i ∧ ∃ z, w = .inr (.inl z)))
  | [], i, v, j, w, h, _ => by simp [cw_s2] at h
  | [x], 0, v, 0, w, h, _ => by simp [cw_s2] at h; exact Or.inl ⟨rfl, h.symm⟩
  | [x], 0, v, j + 1, w, h, _ => by simp [cw_s2] at h
  | x :: x2 :: t, 0, v, 0, w, h, _ => by simp [cw_s2] at h; exact Or.inl ⟨rfl, h.symm⟩
  | x :: x2 :: t, 0, v, 1, w, h, hu => by simp [cw_s2] at h; exact absurd h.symm hu
  | x :: x2 :: t, 0, v, j + 2, w, h, hu => by
    simp only [cw_s2, List.getElem?_cons_succ] at h
    exact Or.inr ⟨by omega, by omega, h, by omega⟩
  | x :: t, 1, v, 0, w, h, hu => by
    simp [cw_s2] at h
    obtain ⟨h1, h2⟩ := cw_nl_is h hu
    exact Or.inr ⟨by omega, by omega, by rw [h1]; rfl, fun q => h2 q.2⟩
  | x :: t, 1, v, j + 1, w, h, hu => by
    simp only [cw_s2, List.getElem?_cons_succ] at h
    rcases cw_s2_is t 0 v j w h hu with ⟨h1, h2⟩ | ⟨h1, h1', h2, h3⟩
    · exact Or.inl ⟨by omega, h2⟩
    · exact Or.inr ⟨by omega, by omega, h2, by omega⟩
  | x :: t, i + 2, v, 0, w, h, hu => by
    simp [cw_s2] at h
    exact Or.inr ⟨by omega, by omega, by rw [h]; rfl, by omega⟩
  | x :: t, i + 2, v, j + 1, w, h, hu => by
    simp only [cw_s2, List.getElem?_cons_succ] at h
    rcases cw_s2_is t (i + 1) v j w h hu with ⟨h1, h2⟩ | ⟨h1, h1', h2, h3⟩
    · exact Or.inl ⟨by omega, h2⟩
    · exact Or.inr ⟨by omega, by omega, h2, fun q => h3 ⟨by omega, q.2⟩⟩
/-- the places as the kit lists them -/
def cw_ls (g : cw_G) (L : List cw_V) : List (Nat × Value) := (List.range L.length).filterMap (fun i => if cw_gt L i = cU then none else some (i, cw_v g (cw_gt L i)))
theorem cw_gt_get : ∀ (L : List cw_V) (i : Nat) (v : cw_V), L[i]? = some v → cw_gt L i = v
  | [], i, v, h => by simp at h
  | x :: t, 0, v, h => by simpa [cw_gt] using h
  | x :: t, i + 1, v, h => by
    rw [List.getElem?_cons_succ] at h
    exact cw_gt_get t i v h
theorem cw_ls_in {g : cw_G} {L : List cw_V} {i : Nat} {v : cw_V} (h : L[i]? = some v) (hu : v ≠ cU) : (i, cw_v g v) ∈ cw_ls g L := by
  refine List.mem_filterMap.mpr ⟨i, List.mem_range.mpr (List.getElem?_eq_some_iff.mp h).1, ?_⟩
  rw [cw_gt_get L i v h, if_neg hu]
theorem cw_L_has {g : cw_G} {nL : Nat} {L : List cw_V} {ls : Array Slot} (h : cw_L g nL L ls) : lv_has ls nL (cw_ls g L) := by
  refine ⟨h.1, h.2.1, fun q hq => ?_⟩
  obtain ⟨i, hi, hq⟩ := List.mem_filterMap.mp hq
  by_cases hu : cw_gt L i = cU
  · rw [if_pos hu] at hq; cases hq
  · rw [if_neg hu] at hq
    cases hq
    exact h.2.2 i _ (cw_gt_is L i _ rfl hu) hu
theorem cw_L_s1 {g : cw_G} {nL i : Nat} {L : List cw_V} {v : cw_V} {ls' : Array Slot} (h : lv_has ls' nL ((i, cw_v g v) :: (cw_ls g L).filter (fun q => !(q.1 == i) && !(q.1 + 1 == i && q.2.category == 2)))) : cw_L g nL (cw_s1 L i v) ls' := by
  refine ⟨h.1, h.2.1, fun j w hj hu => ?_⟩
  rcases cw_s1_is L i v j w hj hu with ⟨rfl, rfl⟩ | ⟨h1, h2, h3⟩
  · exact h.2.2 _ List.mem_cons_self
  · refine h.2.2 (j, cw_v g w) (List.mem_cons_of_mem _ (List.mem_filter.mpr ⟨cw_ls_in h2 hu, ?_⟩))
    have hc : ¬ (j + 1 = i ∧ (cw_v g w).category = 2) := fun q => h3 ⟨q.1, (cw_cat g w).mp q.2⟩
    simp only [Bool.and_eq_true, Bool.not_eq_true', beq_eq_false_iff_ne, Bool.and_eq_false_iff, ne_eq]
    refine ⟨h1, ?_⟩
    by_cases q : j + 1 = i
    · exact Or.inr fun z => hc ⟨q, z⟩
    · exact Or.inl q
theorem cw_L_s2 {g : cw_G} {nL i : Nat} {L : List cw_V} {v : cw_V} {ls' : Array Slot} (h : lv_has ls' nL ((i, cw_v g v) :: (cw_ls g L).filter (fun q => !(q.1 == i) && (!(q.1 == i + 1) && !(q.1 + 1 == i && q.2.category == 2))))) : cw_L g nL (cw_s2 L i v) ls' := by
  refine ⟨h.1, h.2.1, fun j w hj hu => ?_⟩
  rcases cw_s2_is L i v j w hj hu with ⟨rfl, rfl⟩ | ⟨h1, h1', h2, h3⟩
  · exact h.2.2 _ List.mem_cons_self
  · refine h.2.2 (j, cw_v g w) (List.mem_cons_of_mem _ (List.mem_filter.mpr ⟨cw_ls_in h2 hu, ?_⟩))
    have hc : ¬ (j + 1 = i ∧ (cw_v g w).category = 2) := fun q => h3 ⟨q.1, (cw_cat g w).mp q.2⟩
    simp only [Bool.and_eq_true, Bool.not_eq_true', beq_eq_false_iff_ne, Bool.and_eq_false_iff, ne_eq]
    refine ⟨h1, h1', ?_⟩
    by_cases q : j + 1 = i
    · exact Or.inr fun z => hc ⟨q, z⟩
    · exact Or.inl q
def o_ist (i : Nat) : cw_O := fun _ L S M K => match S with
  | .inl x :: S => K (cw_s1 L i (.inl x)) S M
  | _ => False
def o_lst (i : Nat) : cw_O := fun _ L S M K => match S with
  | .inr (.inl x) :: S => K (cw_s2 L i (.inr (.inl x))) S M
  | _ => False
def o_ast (i : Nat) : cw_O := fun _ L S M K => match S with
  | .inr (.inr x) :: S => (0 ≤ x ∨ x = -5) ∧ K (cw_s1 L i (.inr (.inr x))) S M
  | _ => False
def o_inc (i : Nat) (n : Int) : cw_O := fun _ L S M K => match cw_gt L i with
  | .inl x => K (cw_s1 L i (.inl (x + n))) S M
  | _ => False
theorem at_istn {y : cw_Y} {pc i : Nat} {k : Fin 4} (hd : decode y.2.1 pc = .ok (.istore_n k, 1)) (hi : (k : Nat) = i) (hn : i < y.2.2.1) : cw_at y pc (o_ist i) 1 := by
  intro g n0 n1 nx L S M Q K hK h p e R s m args below meth c mc ms X N H locs ls hH hS hL
  unfold o_ist at h
  split at h
  · rename_i x S
    exact lv_istore_n X.1 X.2.1 hd hi (cw_L_has hL) hn rfl fun ls' h' => hK _ _ _ h p e R s m args below meth c mc ms X N H locs ls' hH hS (cw_L_s1 (v := .inl x) h')
  · exact h.elim
theorem at_ist {y : cw_Y} {pc i : Nat} (hd : decode y.2.1 pc = .ok (.istore i, 2)) (hn : i < y.2.2.1) : cw_at y pc (o_ist i) 2 := by
  intro g n0 n1 nx L S M Q K hK h p e R s m args below meth c mc ms X N H locs ls hH hS hL
  unfold o_ist at h
  split at h
  · rename_i x S
    exact lv_istore X.1 X.2.1 hd (cw_L_has hL) hn rfl fun ls' h' => hK _ _ _ h p e R s m args below meth c mc ms X N H locs ls' hH hS (cw_L_s1 (v := .inl x) h')
  · exact h.elim
theorem at_lstn {y : cw_Y} {pc i : Nat} {k : Fin 4} (hd : decode y.2.1 pc = .ok (.lstore_n k, 1)) (hi : (k : Nat) = i) (hn : i + 1 < y.2.2.1) : cw_at y pc (o_lst i) 1 := by
  intro g n0 n1 nx L S M Q K hK h p e R s m args below meth c mc ms X N H locs ls hH hS hL
  unfold o_lst at h
  split at h
  · rename_i x S
    exact lv_lstore_n X.1 X.2.1 hd hi (cw_L_has hL) hn rfl fun ls' h' => hK _ _ _ h p e R s m args below meth c mc ms X N H locs ls' hH hS (cw_L_s2 (v := .inr (.inl x)) h')
  · exact h.elim
theorem at_lst {y : cw_Y} {pc i : Nat} (hd : decode y.2.1 pc = .ok (.lstore i, 2)) (hn : i + 1 < y.2.2.1) : cw_at y pc (o_lst i) 2 := by
  intro g n0 n1 nx L S M Q K hK h p e R s m args below meth c mc ms X N H locs ls hH hS hL
  unfold o_lst at h
  split at h
  · rename_i x S
    exact lv_lstore X.1 X.2.1 hd (cw_L_has hL) hn rfl fun ls' h' => hK _ _ _ h p e R s m args below meth c mc ms X N H locs ls' hH hS (cw_L_s2 (v := .inr (.inl x)) h')
  · exact h.elim
theorem cw_ref {g : cw_G} {x : Int} (hx : 0 ≤ x ∨ x = -5) : ∃ a, cw_v g (.inr (.inr x)) = .ref a ∧ cw_ro g x = some a := by
  rcases hx with hx | hx
  · exact ⟨_, cw_v_ref g hx, cw_ro_of g hx⟩
  · subst hx
    exact ⟨cw_sc g, rfl, rfl⟩
theorem at_astn {y : cw_Y} {pc i : Nat} {k : Fin 4} (hd : decode y.2.1 pc = .ok (.astore_n k, 1)) (hi : (k : Nat) = i) (hn : i < y.2.2.1) : cw_at y pc (o_ast i) 1 := by
  intro g n0 n1 nx L S M Q K hK h p e R s m args below meth c mc ms X N H locs ls hH hS hL
  unfold o_ast at h
  split at h
  · rename_i x S
    obtain ⟨a, ha, -⟩ := cw_ref (g := g) h.1
    rw [List.map_cons, ha]
    exact lv_astore_n X.1 X.2.1 hd hi (cw_L_has hL) hn rfl fun ls' h' => hK _ _ _ h.2 p e R s m args below meth c mc ms X N H locs ls' hH hS (cw_L_s1 (v := .inr (.inr x)) (by rw [ha]; exact h'))
  · exact h.elim
theorem at_ast {y : cw_Y} {pc i : Nat} (hd : decode y.2.1 pc = .ok (.astore i, 2)) (hn : i < y.2.2.1) : cw_at y pc (o_ast i) 2 := by
  intro g n0 n1 nx L S M Q K hK h p e R s m args below meth c mc ms X N H locs ls hH hS hL
  unfold o_ast at h
  split at h
  · rename_i x S
    obtain ⟨a, ha, -⟩ := cw_ref (g := g) h.1
    rw [List.map_cons, ha]
    exact lv_astore X.1 X.2.1 hd (cw_L_has hL) hn rfl fun ls' h' => hK _ _ _ h.2 p e R s m args below meth c mc ms X N H locs ls' hH hS (cw_L_s1 (v := .inr (.inr x)) (by rw [ha]; exact h'))
  · exact h.elim
theorem at_inc {y : cw_Y} {pc i : Nat} {n : Int} (hd : decode y.2.1 pc = .ok (.iinc i n, 3)) (hn : i < y.2.2.1) : cw_at y pc (o_inc i n) 3 := by
  intro g n0 n1 nx L S M Q K hK h p e R s m args below meth c mc ms X N H locs ls hH hS hL
  unfold o_inc at h
  split at h
  · rename_i x hx
    have hm := cw_ls_in (g := g) (cw_gt_is L i _ hx (by simp [cU])) (by simp [cU])
    obtain ⟨k, hk⟩ := List.getElem?_of_mem hm
    exact lv_iinc (x := Int32.ofInt x) X.1 X.2.1 hd (cw_L_has hL) hk rfl hn rfl fun ls' h' => hK _ _ _ h p e R s m args below meth c mc ms X N H locs ls' hH hS (cw_L_s1 (v := .inl (x + n)) (by rw [cw_v_I, Int32.ofInt_add]; exact h'))
  · exact h.elim
