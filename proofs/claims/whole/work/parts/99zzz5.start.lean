/-! THE CLAIM OUT OF ONE WALK OF THE LAW'S BODY. Your part is whole_start (and what it stands on); all else here is the same for every law, but numbers. -/
def R_law : String := "CoilWorksLaw"
def lw_P (b : Addr) (xs : List Int32) (args : Array Value) (s : State) : Prop := args = #[.ref b] ∧ s.IntsAt b xs ∧ xs.length ≤ 3072 ∧ (Jvm.Cond.and given_1 narrow_1).before args s = true
def lw_Q (_ : Array Value) (s : State) (o : Outcome) (t : State) : Prop := o = .returned (some (.int 1)) ∧ Framed s o t [] 600000 7302250
def lw_Z (below : List Frame) (a : Array Value) (s : State) : State → Prop := fun t => ∃ o, t.status = .running ∧ Ended t below o ∧ lw_Q a s o t
/-- the law's own end, with 1 on the stack, nothing written that was there before, its room as the claim has it -/
theorem lw_ret {p : Program} {l : Launch} {e : Env} {s : State} {m : MethodId} {below : List Frame} {meth : Method} {c : Code} {b : Nat} (hx : p.tables.exec = Jvm.exec) (hb : c.code = code) (hr : meth.sig.returnType = ret) (hlocks : meth.locks = false) {pc : Nat} {H : Heap} {ls : Array Slot} (hdg : decode code pc = .ok (.ireturn, 1)) : W p l e room_1 s m #[Value.ref b] below meth c H [] 600000 7302250 (lw_Z below #[Value.ref b] s) (F0 m pc ls [.int 1]) := by
  intro T hT X
  obtain ⟨fs, hret, hrun, hended, hW, hframe⟩ := X.leave (v := some (.int 1)) (hlocks := hlocks) (fun h => by rw [hr] at h; cases h)
  have hmeth' : T.vm.method? m = some meth := X.method'
  refine ⟨T.setFrames fs, ?_, .returned (some (.int 1)), hrun, hended, rfl, ⟨_, rfl⟩, hW, hframe⟩
  jvm_step X.here [X.here.top, hx, hb, hdg, hmeth', hr, ret, narrow_b1]
  (try refine ⟨rfl, ?_⟩); (try refine ⟨rfl, ?_⟩)
  first | (intro acts; rw [hret _ acts rfl rfl rfl]) | rw [hret _ _ rfl rfl rfl]
  exact Steps.refl _
/-- what holds at the law's entry: the machine, the code, the tables' words (any of lw_tbl by 'hts w (by decide +kernel)'), the script of L ints xs at the cell b, what the Statement gives of the start (any of its parts by flat_of_before) -/
def lw_At (p : Program) (s : State) (m : MethodId) (meth : Method) (c : Code) (b L : Nat) (xs : Nat → Int32) : Prop :=
  p.tables.exec = Jvm.exec ∧ c.code = code ∧ meth.sig.returnType = ret ∧ c.maxLocals = 4 ∧ s.vm.findClass R_law = some m.cls ∧ (∀ w ∈ lw_tbl, w.before #[Value.ref b] s = true) ∧ va_X b L xs s s.heap ∧ b < s.heap.size ∧ meth.locks = false ∧ (Jvm.Cond.and given_1 narrow_1).before #[Value.ref b] s = true ∧ meth.name = x.name
/-- the classes and their slots -/
theorem cw_inst {c : Nat} {C : String} {T : u_T} {N : Nat} (h : cw_cl[c]? = some (C, T, N)) : ∃ n, Cond.instantiable C n ∈ cw_tb := by
  have hc : c < 13 := (List.getElem?_eq_some_iff.mp h).1
  rcases (show c = 0 ∨ c = 1 ∨ c = 2 ∨ c = 3 ∨ c = 4 ∨ c = 5 ∨ c = 6 ∨ c = 7 ∨ c = 8 ∨ c = 9 ∨ c = 10 ∨ c = 11 ∨ c = 12 by omega) with rfl | rfl | rfl | rfl | rfl | rfl | rfl | rfl | rfl | rfl | rfl | rfl | rfl
  · cases h; exact ⟨_, ni_Bo⟩
  · cases h; exact ⟨_, ni_Dr⟩
  · cases h; exact ⟨_, ni_Ma⟩
  · cases h; exact ⟨_, ni_Pa⟩
  · cases h; exact ⟨_, ni_Ra⟩
  · cases h; exact ⟨_, ni_Re⟩
  · cases h; exact ⟨_, ni_Se⟩
  · cases h; exact ⟨_, ni_Sl⟩
  · cases h; exact ⟨_, ni_St⟩
  · cases h; exact ⟨_, ni_Sa⟩
  · cases h; exact ⟨_, ni_Wh⟩
  · cases h; exact ⟨_, ni_Co⟩
  · cases h; exact ⟨_, ni_Mo⟩
theorem st_cls {s : State} {args : Array Value} (hts : ∀ w ∈ cw_tb, w.before args s = true) : ∃ (dC : Nat → ClassId) (dI : Nat → Nat → Nat), ∀ (c : Nat) (q : vw_C), cw_cl[c]? = some q → u_Kn s q.1 q.2.1 q.2.2 (dC c) (dI c) := by
  have one : ∀ c : Nat, ∃ (cC : ClassId) (iS : Nat → Nat), ∀ q : vw_C, cw_cl[c]? = some q → u_Kn s q.1 q.2.1 q.2.2 cC iS := by
    intro c
    by_cases h : ∃ q, cw_cl[c]? = some q
    · obtain ⟨⟨C, T, N⟩, hq⟩ := h
      obtain ⟨c1, -⟩ := cw_cls hq
      obtain ⟨n, hi⟩ := cw_inst hq
      obtain ⟨cC, iS, hk⟩ := u_known (N := N) hts c1 (hts _ hi)
      exact ⟨cC, iS, fun q e => by rw [hq] at e; cases e; exact hk⟩
    · exact ⟨(0 : Nat), fun _ => 0, fun q e => absurd ⟨q, e⟩ h⟩
  exact ⟨fun c => (one c).choose, fun c => (one c).choose_spec.choose, fun c => (one c).choose_spec.choose_spec⟩
theorem lt_o3 : Cond.arrayOver (.object "CoilWorks$Whole") ∈ lw_tbl := by decide +kernel
theorem lt_o4 : Cond.arrayOver (.object "CoilWorks$State") ∈ lw_tbl := by decide +kernel
theorem lt_o5 : Cond.arrayOver (.array .int) ∈ lw_tbl := by decide +kernel
theorem lt_c0 : Cond.arrayClass .int ∈ lw_tbl := by decide +kernel
theorem lt_c1 : Cond.arrayClass .long ∈ lw_tbl := by decide +kernel
theorem lt_c2 : Cond.arrayClass .boolean ∈ lw_tbl := by decide +kernel
theorem st_arr {s : State} {args : Array Value} (hts : ∀ w ∈ lw_tbl, w.before args s = true) : ∃ dA : Nat → ClassId, ∀ t : Nat, t < 6 → ArrOfT s (dA t) (cw_ty t) ∧ va_RA s (dA t) (cw_ty t) := by
  have one : ∀ t : Nat, ∃ cA : ClassId, t < 6 → ArrOfT s cA (cw_ty t) ∧ va_RA s cA (cw_ty t) := by
    intro t
    by_cases h : t < 6
    · rcases (show t = 0 ∨ t = 1 ∨ t = 2 ∨ t = 3 ∨ t = 4 ∨ t = 5 by omega) with rfl | rfl | rfl | rfl | rfl | rfl
      · obtain ⟨c, k, comp, h1, h2, h3⟩ := Cond.arrayClass_spec (hts _ lt_c0)
        exact ⟨c, fun _ => ⟨fun N z => ⟨(fun k h => by cases h), k, h2, comp, h3⟩, h1⟩⟩
      · obtain ⟨c, k, comp, h1, h2, h3⟩ := Cond.arrayClass_spec (hts _ lt_c1)
        exact ⟨c, fun _ => ⟨fun N z => ⟨(fun k h => by cases h), k, h2, comp, h3⟩, h1⟩⟩
      · obtain ⟨c, k, comp, h1, h2, h3⟩ := Cond.arrayClass_spec (hts _ lt_c2)
        exact ⟨c, fun _ => ⟨fun N z => ⟨(fun k h => by cases h), k, h2, comp, h3⟩, h1⟩⟩
      · obtain ⟨comp, c, k, h1, -, h2, h3, h4⟩ := Cond.arrayOver_spec (hts _ lt_o3)
        exact ⟨c, fun _ => ⟨fun N z => ⟨(fun k h => by cases h), k, h2, comp, h3⟩, ⟨k, comp, h2, h3, h1, h4⟩⟩⟩
      · obtain ⟨comp, c, k, h1, -, h2, h3, h4⟩ := Cond.arrayOver_spec (hts _ lt_o4)
        exact ⟨c, fun _ => ⟨fun N z => ⟨(fun k h => by cases h), k, h2, comp, h3⟩, ⟨k, comp, h2, h3, h1, h4⟩⟩⟩
      · obtain ⟨comp, c, k, h1, h2, h3, h4⟩ := Cond.arrayOver_specA (hts _ lt_o5)
        exact ⟨c, fun _ => ⟨fun N z => ⟨(fun k h => by cases h), k, h2, comp, h3⟩, h4⟩⟩
    · exact ⟨(0 : Nat), fun q => absurd q h⟩
  exact ⟨fun t => (one t).choose, fun t => (one t).choose_spec⟩
theorem st_weak {s t : State} {L : List Loc} {k n : Nat} (h : s.sameButNew t L k n) (hL : ∀ q ∈ L, s.heap.size ≤ q.base) : s.sameButNew t [] k n := by
  obtain ⟨h1, h2, h3, h4, h5, h6⟩ := h
  refine ⟨h1, h2, h3, h4, h5, fun a c hc => ?_⟩
  obtain ⟨c', x1, x2, x3, x4⟩ := h6 a c hc
  have hl : a < s.heap.size := (Array.getElem?_eq_some_iff.mp hc).1
  exact ⟨c', x1, x2, x3, fun i _ => x4 i (fun hm => Nat.not_lt.mpr (hL _ hm) hl)⟩
/-- from the entry, for every script of at most 3072 ints, the law comes to its end with true -/
theorem whole_start {p : Program} {e : Env} {s : State} {m : MethodId} {below : List Frame} {meth : Method} {c : Code} (l : Launch) (hflags : l.flags = flags0) {b L : Nat} {xs : Nat → Int32} (hL : L ≤ 3072) (C0 : lw_At p s m meth c b L xs) : W p l e room_1 s m #[Value.ref b] below meth c s.heap [] 0 0 (lw_Z below #[Value.ref b] s) (entryFrame m ([Value.ref b] : List Value).toArray 4) := by
  obtain ⟨hx, hcode, hret, hml, hown, hts, hX, hbl, hlocks, hgv, hname⟩ := C0
  have htb : ∀ w ∈ cw_tb, w.before #[Value.ref b] s = true := fun w hw => hts w (List.mem_filter.mp hw).1
  obtain ⟨dC, dI, hC⟩ := st_cls htb
  obtain ⟨dA, hA⟩ := st_arr hts
  have hK : cw_K (l, s.heap.size, dC, dI, dA, b, L, xs) s := by
    refine ⟨⟨hC, fun k q hk => ?_⟩, fun w hw => ?_, Nat.le_refl _, hbl, hX, va_AO.of (hts _ lt_o3), va_AO.of (hts _ lt_o4), hts _ lt_o5⟩
    · have hl : k < 6 := by
        have := (List.getElem?_eq_some_iff.mp hk).1
        simpa [cw_tys] using this
      rw [cw_tys_get _ hl] at hk
      cases hk
      exact hA k hl
    · have hw2 := (List.mem_filter.mp hw).1
      obtain ⟨a1, i, x1, b1, rfl⟩ := cw_nw_is hw
      exact va_Nw.of rfl (hts _ hw2)
  have hH : cw_H (l, s.heap.size, dC, dI, dA, b, L, xs) 0 (fun _ _ => 0) s.heap := ⟨rfl, fun k q hk => by simp [cw_w] at hk⟩
  have e5 : ([.inr (.inr (-5))] : List cw_V).map (cw_v (l, s.heap.size, dC, dI, dA, b, L, xs)) = [Value.ref b] := by
    rw [List.map_cons, cw_v_5]; rfl
  have hLs := cw_L_entry (g := (l, s.heap.size, dC, dI, dA, b, L, xs)) (nL := 4) (args := [.inr (.inr (-5))]) (L := [.inr (.inr (-5)), cU, cU, cU]) rfl (Nat.le_of_ble_eq_true rfl)
  rw [e5] at hLs
  have k := la_start (g := (l, s.heap.size, dC, dI, dA, b, L, xs)) (M := fun _ _ => 0) hL p e room_1 s m #[Value.ref b] below meth c 600000 7302250 ⟨hx, hcode, hml, hret, hown, htb, hlocks, hname, hK⟩
    ⟨rfl, rfl, by decide, Nat.le_refl _, by decide +kernel, Nat.le_refl _, Nat.le_refl _, by decide⟩ s.heap [] _ hH va_S.rf hLs
  rw [lg_entry_eq]
  intro T hT X
  obtain ⟨t, h1, o, h2, h3, ⟨⟨r, M', e1, e2, e3⟩, e4⟩, L', ⟨⟨v, hv⟩, h5, h6⟩, h7⟩ := k T hT X
  subst e2
  exact ⟨t, h1, o, h2, h3, e1, ⟨v, hv⟩, h5, st_weak h6 h7⟩
