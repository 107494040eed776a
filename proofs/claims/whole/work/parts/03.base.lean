/-! the pure picture of a run: values as whole numbers, a memory of cells by their number, and the judgement cw_J over it -/
abbrev cw_V : Type := Int ⊕ Int ⊕ Int
abbrev cI (x : Int) : cw_V := .inl x
abbrev cL (x : Int) : cw_V := .inr (.inl x)
abbrev cR (x : Int) : cw_V := .inr (.inr x)
/-- no value -/
abbrev cU : cw_V := .inr (.inr (-9))
abbrev cw_M : Type := Int → Int → Int
def cw_up (M : cw_M) (a k v : Int) : cw_M := fun a' => if a' = a then (fun k' => if k' = k then v else M a k') else M a'
theorem cw_up_ne {M : cw_M} {a k v a' : Int} (h : a' ≠ a) : cw_up M a k v a' = M a' := if_neg h
theorem cw_up_eq {M : cw_M} {a k v k' : Int} : cw_up M a k v a k' = if k' = k then v else M a k' := by simp [cw_up]
/-- the launch, the first cell, the numbers of classes, slots and array classes, the script -/
abbrev cw_G : Type := Launch × Nat × (Nat → ClassId) × (Nat → Nat → Nat) × (Nat → ClassId) × Nat × Nat × (Nat → Int32)
def cw_l (g : cw_G) : Launch := g.1
def cw_B (g : cw_G) : Nat := g.2.1
def cw_dC (g : cw_G) : Nat → ClassId := g.2.2.1
def cw_dI (g : cw_G) : Nat → Nat → Nat := g.2.2.2.1
def cw_dA (g : cw_G) : Nat → ClassId := g.2.2.2.2.1
def cw_sc (g : cw_G) : Nat := g.2.2.2.2.2.1
def cw_xL (g : cw_G) : Nat := g.2.2.2.2.2.2.1
def cw_xs (g : cw_G) : Nat → Int32 := g.2.2.2.2.2.2.2
def cw_ro (g : cw_G) (x : Int) : Option Nat := if x = -5 then some (cw_sc g) else if x < 0 then none else some (cw_B g + x.toNat)
def cw_v (g : cw_G) : cw_V → Value := fun v => match v with
  | .inl x => .int (Int32.ofInt x)
  | .inr (.inl x) => .long (Int64.ofInt x)
  | .inr (.inr x) => va_rf (cw_ro g x)
theorem cw_v_I (g : cw_G) (x : Int) : cw_v g (.inl x) = .int (Int32.ofInt x) := rfl
theorem cw_v_L (g : cw_G) (x : Int) : cw_v g (.inr (.inl x)) = .long (Int64.ofInt x) := rfl
theorem cw_v_R (g : cw_G) (x : Int) : cw_v g (.inr (.inr x)) = va_rf (cw_ro g x) := rfl
theorem cw_ro_of (g : cw_G) {a : Int} (h : 0 ≤ a) : cw_ro g a = some (cw_B g + a.toNat) := by
  unfold cw_ro
  rw [if_neg (by omega), if_neg (by omega)]
theorem cw_v_ref (g : cw_G) {a : Int} (h : 0 ≤ a) : cw_v g (.inr (.inr a)) = .ref (cw_B g + a.toNat) := by
  rw [cw_v_R, cw_ro_of g h]; rfl
def cw_vt (t : Nat) (x : Int) : cw_V := match t with
  | 1 => cL x
  | 2 => cR x
  | _ => cI x
def cw_ct (g : cw_G) (t : Nat) (f : Int → Int) : (Nat → Int32) ⊕ (Nat → Int64) ⊕ (Nat → UInt32) ⊕ (Nat → UInt64) ⊕ (Nat → Option Nat) := match t with
  | 0 => .inl (fun j => Int32.ofInt (f j))
  | 1 => .inr (.inl (fun j => Int64.ofInt (f j)))
  | 2 => .inl (fun j => Int32.ofInt (f j))
  | _ => .inr (.inr (.inr (.inr (fun j => cw_ro g (f j)))))
def cw_fs (g : cw_G) (ci : Nat) (f : Int → Int) : List Value := (List.range (cw_cN ci)).map (fun j => cw_v g (cw_vt (cw_fc ci j) (f j)))
def cw_E (g : cw_G) (M : cw_M) (k : Nat) : va_E :=
  if (cw_kn k).1 < 20 then .inr ((cw_kn k).1, cw_fs g (cw_kn k).1 (M k))
  else .inl (cw_dA g ((cw_kn k).1 - 20), (cw_kn k).2, cw_ct g ((cw_kn k).1 - 20) (M k))
def cw_w (g : cw_G) (nx : Nat) (M : cw_M) : va_W := (List.range nx).map (fun k => (cw_B g + k, cw_E g M k))
theorem cw_w_get {g : cw_G} {nx k : Nat} {M : cw_M} (h : k < nx) : (cw_w g nx M)[k]? = some (cw_B g + k, cw_E g M k) := by
  simp [cw_w, h]
theorem cw_w_set {g : cw_G} {nx k : Nat} {M M' : cw_M} {e : va_E} (he : cw_E g M' k = e) (ho : ∀ j : Nat, j ≠ k → cw_E g M' j = cw_E g M j) : (cw_w g nx M).set k (cw_B g + k, e) = cw_w g nx M' := by
  apply List.ext_getElem?
  intro i
  by_cases hi : i = k
  · subst hi
    by_cases hn : i < nx
    · rw [cw_w_get hn, List.getElem?_set_self (by simp [cw_w, hn]), he]
    · rw [List.getElem?_eq_none (by simp [cw_w]; omega), List.getElem?_eq_none (by simp [cw_w]; omega)]
  · rw [List.getElem?_set_ne (Ne.symm hi)]
    by_cases hn : i < nx
    · rw [cw_w_get hn, cw_w_get hn, ho i hi]
    · rw [List.getElem?_eq_none (by simp [cw_w]; omega), List.getElem?_eq_none (by simp [cw_w]; omega)]
theorem cw_D (g : cw_G) (nx : Nat) (M : cw_M) : va_D (fun q => cw_B g ≤ q) (cw_w g nx M) := by
  have hlt : ∀ (i : Nat) (p : Nat × va_E), (cw_w g nx M)[i]? = some p → p.1 = cw_B g + i := by
    intro i p hp
    have hl := (List.getElem?_eq_some_iff.mp hp).1
    have hl' : i < nx := by simpa [cw_w] using hl
    rw [cw_w_get hl'] at hp
    cases hp
    rfl
  refine ⟨fun i j p q hp hq hpq => ?_, fun k q hq => ?_⟩
  · have h1 := hlt i p hp
    have h2 := hlt j q hq
    omega
  · have h1 := hlt k q hq
    show cw_B g ≤ q.1
    omega
def cw_ty (t : Nat) : FieldType := match t with
  | 0 => .int
  | 1 => .long
  | 2 => .boolean
  | 3 => .object "CoilWorks$Whole"
  | 4 => .object "CoilWorks$State"
  | _ => .array .int
def cw_tys (g : cw_G) : List (ClassId × FieldType) := (List.range 6).map (fun t => (cw_dA g t, cw_ty t))
theorem cw_tys_get (g : cw_G) {t : Nat} (h : t < 6) : (cw_tys g)[t]? = some (cw_dA g t, cw_ty t) := by
  simp [cw_tys, h]
def cw_H (g : cw_G) (nx : Nat) (M : cw_M) (H : Heap) : Prop := H.size = cw_B g + nx ∧ va_P (cw_dC g, cw_dI g) cw_cl (cw_w g nx M) H
/-- the rows of the tables that hold behind a call, too -/
def cw_tb : List Cond := lw_tbl.filter goodWord
def cw_nw : List Cond := lw_tbl.filter (fun w => match w with | .methodLinkNest .. => true | _ => false)
theorem cw_tb_in {w : Cond} (h : w ∈ lw_tbl) (hg : goodWord w = true) : w ∈ cw_tb := List.mem_filter.mpr ⟨h, hg⟩
theorem cw_nw_in {a : String} {i : Nat} {x : MethodName} {b : String} (h : Cond.methodLinkNest a i x b ∈ lw_tbl) : Cond.methodLinkNest a i x b ∈ cw_nw := List.mem_filter.mpr ⟨h, rfl⟩
theorem cw_nw_is {w : Cond} (h : w ∈ cw_nw) : ∃ (a : String) (i : Nat) (x : MethodName) (b : String), w = .methodLinkNest a i x b := by
  have h2 := (List.mem_filter.mp h).2
  cases w <;> first | exact ⟨_, _, _, _, rfl⟩ | (simp at h2)
theorem cw_tb_good {w : Cond} (h : w ∈ cw_tb) : (w.onTables && w.keeps) = true ∨ ∃ ty, w = .arrayClass ty := good_of_word (List.mem_filter.mp h).2
def cw_ws (y : cw_Y) : List Cond := .code y.1 y.2.1 y.2.2.1 y.2.2.2.1 :: cw_tb
def cw_rm (y : cw_Y) (k n : Nat) : Room := { frames := y.2.2.2.2.1, cells := k, slots := n, locals := y.2.2.2.2.2 }
/-- what is known of the classes and of the script, at any state -/
def cw_K (g : cw_G) (s : State) : Prop := va_K (cw_dC g, cw_dI g) cw_cl (cw_tys g) s ∧ (∀ w ∈ cw_nw, va_Nw w s) ∧ cw_B g ≤ s.heap.size ∧ cw_sc g < cw_B g ∧ va_X (cw_sc g) (cw_xL g) (cw_xs g) s s.heap ∧ va_AO "CoilWorks$Whole" s ∧ va_AO "CoilWorks$State" s ∧ (Cond.arrayOver (.array .int)).before #[] s = true
def cw_P (g : cw_G) (args : List cw_V) (M : cw_M) (nx : Nat) : Array Value → State → Prop := fun v U => v = (args.map (cw_v g)).toArray ∧ cw_H g nx M U.heap ∧ cw_K g U
def cw_Q (g : cw_G) (nx : Nat) (P : Option cw_V → cw_M → Prop) : Array Value → State → Outcome → State → Prop := fun _ st o t =>
  (∃ (r : Option cw_V) (M' : cw_M), o = .returned (r.map (cw_v g)) ∧ P r M' ∧ cw_H g nx M' t.heap) ∧ va_F (fun q => cw_B g ≤ q) st t
/-- THE CONTRACT of a method at these arguments and this memory -/
def cw_C (g : cw_G) (y : cw_Y) (args : List cw_V) (M : cw_M) (nx n1 : Nat) (P : Option cw_V → cw_M → Prop) : Prop :=
  nx ≤ n1 ∧ Met (cw_l g) y.1 (cw_ws y) (cw_rm y (n1 - nx) (cw_SL n1 - cw_SL nx)) (cw_P g args M nx) (cw_Q g n1 P) (n1 - nx) (cw_SL n1 - cw_SL nx) (fun q => cw_B g ≤ q)
/-- what stands still while a method runs -/
def cw_X (g : cw_G) (y : cw_Y) (p : Program) (s : State) (m : MethodId) (args : Array Value) (meth : Method) (c : Code) : Prop :=
  p.tables.exec = Jvm.exec ∧ c.code = y.2.1 ∧ c.maxLocals = y.2.2.1 ∧ meth.sig.returnType = y.2.2.2.1 ∧ s.vm.findClass y.1.cls = some m.cls ∧ (∀ w ∈ cw_tb, w.before args s = true) ∧ meth.locks = false ∧ meth.name = y.1.name ∧ cw_K g s
def cw_N (y : cw_Y) (R : Room) (n0 n1 nx mc ms : Nat) : Prop := R.frames = y.2.2.2.2.1 ∧ R.locals = y.2.2.2.2.2 ∧ n1 - n0 ≤ mc ∧ mc ≤ R.cells ∧ cw_SL n1 - cw_SL n0 ≤ ms ∧ ms ≤ R.slots ∧ n0 ≤ nx ∧ nx ≤ n1
/-- the places of the frame -/
def cw_L (g : cw_G) (nL : Nat) (L : List cw_V) (ls : Array Slot) : Prop := ls.size = nL ∧ lv_wf ls ∧ ∀ (i : Nat) (v : cw_V), L[i]? = some v → v ≠ cU → ls[i]? = some (.val (cw_v g v))
/-- THE JUDGEMENT: from this instruction with these places, this stack and this memory the method comes to its end with Q -/
def cw_J (g : cw_G) (y : cw_Y) (n0 n1 nx pc : Nat) (L S : List cw_V) (M : cw_M) (Q : Option cw_V → cw_M → Prop) : Prop :=
  ∀ (p : Program) (e : Env) (R : Room) (s : State) (m : MethodId) (args : Array Value) (below : List Frame) (meth : Method) (c : Code) (mc ms : Nat), cw_X g y p s m args meth c → cw_N y R n0 n1 nx mc ms →
    ∀ (H : Heap) (locs : List Loc) (ls : Array Slot), cw_H g nx M H → va_S (fun q => cw_B g ≤ q) s.heap H locs → cw_L g y.2.2.1 L ls →
      W p (cw_l g) e R s m args below meth c H locs (nx - n0) (cw_SL nx - cw_SL n0) (MQ below (cw_Q g n1 Q) args s mc ms (fun q => cw_B g ≤ q)) (F0 m pc ls (S.map (cw_v g)))
theorem cw_K_call {g : cw_G} {U : State} {h : JFrame} {mk : MethodId} {a : Array Value} (q : cw_K g U) : cw_K g (U.calling h mk a) :=
  ⟨va_K.moved (u := U) (U := U.calling h mk a) (Vm.Alike.refl U.vm) q.1, fun w hw => by
    obtain ⟨a1, i, x, b, rfl⟩ := cw_nw_is hw
    exact va_Nw.same rfl (u := U) (U := U.calling h mk a) rfl (q.2.1 _ hw), q.2.2.1, q.2.2.2.1, va_X.moved (u := U) (U := U.calling h mk a) (Vm.Alike.refl U.vm) q.2.2.2.2.1, va_AO.moved (u := U) (U := U.calling h mk a) (Vm.Alike.refl U.vm) q.2.2.2.2.2.1, va_AO.moved (u := U) (U := U.calling h mk a) (Vm.Alike.refl U.vm) q.2.2.2.2.2.2.1, over_moved (u := U) (E := U.calling h mk a) (Vm.Alike.refl U.vm) q.2.2.2.2.2.2.2⟩
theorem cw_K_warm {g : cw_G} {s U : State} {H : Heap} {locs : List Loc} (q : cw_K g s) (hU : U.heap = H) (hW : s.WarmedH U.vm) (hS : va_S (fun q => cw_B g ≤ q) s.heap H locs) : cw_K g U :=
  ⟨va_K.moved hW.alike q.1, fun w hw => by
    obtain ⟨a1, i, x, b, rfl⟩ := cw_nw_is hw
    exact va_Nw.warmM hW (q.2.1 _ hw), by rw [hU]; exact Nat.le_trans q.2.2.1 hS.1, q.2.2.2.1, by
    refine va_X.kept (va_X.moved hW.alike q.2.2.2.2.1) ?_
    rw [hU]
    exact hS.2.1 _ (Nat.lt_of_lt_of_le q.2.2.2.1 q.2.2.1) (Nat.not_le.mpr q.2.2.2.1), va_AO.moved hW.alike q.2.2.2.2.2.1, va_AO.moved hW.alike q.2.2.2.2.2.2.1, over_moved hW.alike q.2.2.2.2.2.2.2⟩
/-- the first places of a frame: the arguments, a long in two -/
def cw_en : List cw_V → List cw_V := fun l => match l with
  | [] => []
  | .inr (.inl x) :: t => .inr (.inl x) :: cU :: cw_en t
  | v :: t => v :: cw_en t
theorem cw_cat (g : cw_G) (v : cw_V) : (cw_v g v).category = 2 ↔ ∃ x, v = .inr (.inl x) := by
  rcases v with x | x | x
  · simp [cw_v, Value.category]
  · simp [cw_v, Value.category]
  · rw [cw_v_R]
    cases cw_ro g x <;> simp [va_rf, Value.category]
theorem cw_en_args (g : cw_G) : ∀ (vs : List cw_V) (k i : Nat) (v : cw_V), (cw_en vs)[i]? = some v → v ≠ cU → (k + i, cw_v g v) ∈ lv_args k (vs.map (cw_v g))
  | [], k, i, v, h, _ => by simp [cw_en] at h
  | .inl x :: t, k, 0, v, h, _ => by
    simp [cw_en] at h
    subst h
    simp [lv_args]
  | .inl x :: t, k, i + 1, v, h, hu => by
    simp only [cw_en, List.getElem?_cons_succ] at h
    have := cw_en_args g t (k + 1) i v h hu
    rw [List.map_cons, lv_args, if_neg (by simp [cw_v, Value.category])]
    rw [show k + (i + 1) = k + 1 + i by omega]
    exact List.mem_cons_of_mem _ this
  | .inr (.inl x) :: t, k, 0, v, h, _ => by
    simp [cw_en] at h
    subst h
    simp [lv_args]
  | .inr (.inl x) :: t, k, 1, v, h, hu => by
    simp [cw_en] at h
    exact absurd h.symm hu
  | .inr (.inl x) :: t, k, i + 2, v, h, hu => by
    simp only [cw_en, List.getElem?_cons_succ] at h
    have := cw_en_args g t (k + 2) i v h hu
    rw [List.map_cons, lv_args, if_pos (by simp [cw_v, Value.category])]
    rw [show k + (i + 2) = k + 2 + i by omega]
    exact List.mem_cons_of_mem _ this
  | .inr (.inr x) :: t, k, 0, v, h, _ => by
    simp [cw_en] at h
    subst h
    simp [lv_args]
  | .inr (.inr x) :: t, k, i + 1, v, h, hu => by
    simp only [cw_en, List.getElem?_cons_succ] at h
    have := cw_en_args g t (k + 1) i v h hu
    rw [List.map_cons, lv_args, if_neg (by rw [cw_cat]; simp)]
    rw [show k + (i + 1) = k + 1 + i by omega]
    exact List.mem_cons_of_mem _ this
theorem cw_en_len (g : cw_G) : ∀ vs : List cw_V, (lg_sl (vs.map (cw_v g))).length = (cw_en vs).length
  | [] => rfl
  | .inl x :: t => by
    have := cw_en_len g t
    simp only [lg_sl, List.map_cons, List.flatMap_cons, List.length_append, cw_en, List.length_cons] at this ⊢
    rw [if_neg (by simp [cw_v, Value.category]), this]
    simp; omega
  | .inr (.inl x) :: t => by
    have := cw_en_len g t
    simp only [lg_sl, List.map_cons, List.flatMap_cons, List.length_append, cw_en, List.length_cons] at this ⊢
    rw [if_pos (by simp [cw_v, Value.category]), this]
    simp; omega
  | .inr (.inr x) :: t => by
    have := cw_en_len g t
    simp only [lg_sl, List.map_cons, List.flatMap_cons, List.length_append, cw_en, List.length_cons] at this ⊢
    rw [if_neg (by rw [cw_cat]; simp), this]
    simp; omega
/-- the frame at a method's entry -/
theorem cw_L_entry {g : cw_G} {nL : Nat} {args L : List cw_V} (hL : cw_en args ++ List.replicate (nL - (cw_en args).length) cU = L) (hn : (cw_en args).length ≤ nL) :
    cw_L g nL L ((lg_sl (args.map (cw_v g)) ++ List.replicate (nL - (lg_sl (args.map (cw_v g))).length) Slot.unset).toArray) := by
  obtain ⟨h1, h2, h3⟩ := lv_entry (args.map (cw_v g)) (n := nL) (by rw [cw_en_len]; exact hn)
  refine ⟨h1, h2, fun i v hi hu => ?_⟩
  rw [← hL] at hi
  by_cases h : i < (cw_en args).length
  · rw [List.getElem?_append_left h] at hi
    have := h3 _ (cw_en_args g args 0 i v hi hu)
    simpa using this
  · rw [List.getElem?_append_right (by omega)] at hi
    have := List.eq_of_mem_replicate (List.mem_of_getElem? hi)
    exact absurd this hu
/-- what a method of the table has -/
def cw_ok (y : cw_Y) : Prop := Cond.code y.1 y.2.1 y.2.2.1 y.2.2.2.1 ∈ cw_tb ∧ plainName y.1.cls = true ∧ Cond.initialized y.1.cls ∈ cw_tb ∧ y.1.cls ≠ "java/lang/invoke/MethodHandle" ∧ y.1.cls ≠ "java/lang/invoke/VarHandle"
theorem cw_ok_good {y : cw_Y} (h : cw_ok y) : GoodIn cw_tb (cw_ws y) := by
  intro w hw
  rcases List.mem_cons.mp hw with rfl | hw
  · exact ⟨h.1, cw_tb_good h.1⟩
  · exact ⟨hw, cw_tb_good hw⟩
/-- A METHOD IS ENTERED -/
theorem cw_C_of {g : cw_G} {y : cw_Y} {args L : List cw_V} {M : cw_M} {nx n1 : Nat} {Q : Option cw_V → cw_M → Prop} (hy : cw_ok y) (hn : nx ≤ n1) (hl : (cw_en args).length ≤ y.2.2.1) (hL : cw_en args ++ List.replicate (y.2.2.1 - (cw_en args).length) cU = L)
    (h : cw_J g y nx n1 nx 0 L [] M Q) : cw_C g y args M nx n1 Q := by
  refine ⟨hn, Met.ofW (cc := y.2.1) (maxL := y.2.2.1) (ret := y.2.2.2.1) hy.2.1 rfl ?_⟩
  intro p e s m ar below meth c s₁ B hml hv
  obtain ⟨rfl, hH, hK⟩ := hv
  have hts := atoms_spec (ws := cw_ws y) B.pre
  rw [lg_entry_eq]
  have k := h p e (headSpec (cw_ws y) (cw_rm y (n1 - nx) (cw_SL n1 - cw_SL nx))).room s m (args.map (cw_v g)).toArray below meth c (n1 - nx) (cw_SL n1 - cw_SL nx)
    ⟨B.exec, B.bytes, hml, B.returns, findClass_of_methodNamed B.named, fun w hw => hts w (List.mem_cons_of_mem _ hw), B.notSynchronized, (name_of_methodNamed B.named B.method).1, hK⟩
    ⟨rfl, rfl, Nat.le_refl _, Nat.le_refl _, Nat.le_refl _, Nat.le_refl _, Nat.le_refl _, hn⟩ s.heap [] _ hH va_S.rf (cw_L_entry hL hl)
  rw [Nat.sub_self, Nat.sub_self] at k
  exact k
