/-! calls -/
theorem cw_call {g : cw_G} {n2 : Nat} {P : Option cw_V → cw_M → Prop} {p : Program} {l : Launch} {e : Env} {R : Room} {s : State} {m : MethodId} {args : Array Value} {below : List Frame} {meth : Method} {c : Code} {H : Heap} {locs : List Loc} {cells slots : Nat} {Qw : State → Prop} {pc mc ms : Nat} {ls : Array Slot} {rest st0 : List Value} {a : Array Value}
    (hr : va_Run p l e R s m args below meth c H locs cells slots mc ms (F0 m pc ls st0) rest (cw_Q g n2 P a) (fun q => cw_B g ≤ q)) (hS : va_S (fun q => cw_B g ≤ q) s.heap H locs)
    (kk : ∀ (r : Option cw_V) (M' : cw_M) (H1 : Heap) (locs1 : List Loc), P r M' → cw_H g n2 M' H1 → va_S (fun q => cw_B g ≤ q) s.heap H1 locs1 → W p l e R s m args below meth c H1 locs1 (cells + mc) (slots + ms) Qw (F0 m (pc + 3) ls ((r.map (cw_v g)).toList ++ rest))) : W p l e R s m args below meth c H locs cells slots Qw (F0 m pc ls st0) := by
  intro T hT X
  obtain ⟨v, st₀, t, T', L, h0, X', hL, e1, e2, ⟨⟨r, M', hv, hp, hb⟩, hz, hk⟩, st⟩ := hr T hT X
  cases hv
  rw [h0] at hz hk
  obtain ⟨t2, a1, b1⟩ := kk r M' T'.heap (locs ++ L) hp (by rw [e1]; exact hb)
    ⟨Nat.le_trans hS.1 (by rw [e1]; exact hz), fun q h1 h2 => by rw [e1, hk q (Nat.lt_of_lt_of_le h1 hS.1) h2]; exact hS.2.1 q h1 h2, fun q hq => by
      rcases List.mem_append.mp hq with h | h
      · exact hS.2.2 q h
      · exact hL q h⟩ T' rfl X'
  exact ⟨t2, st t2 a1, b1⟩
/-- the arguments off the stack -/
def cw_ag : Nat → List cw_V → List cw_V → Option (List cw_V × List cw_V) := fun n S acc => match n, S with
  | 0, S => some (acc, S)
  | _ + 1, [] => none
  | n + 1, x :: S => cw_ag n S (x :: acc)
theorem cw_ag_is : ∀ (n : Nat) (S acc A rest : List cw_V), cw_ag n S acc = some (A, rest) → A.reverse ++ rest = acc.reverse ++ S ∧ A.length = acc.length + n
  | 0, S, acc, A, rest, h => by
    simp only [cw_ag, Option.some.injEq, Prod.mk.injEq] at h
    obtain ⟨rfl, rfl⟩ := h
    exact ⟨rfl, rfl⟩
  | n + 1, [], acc, A, rest, h => by simp [cw_ag] at h
  | n + 1, x :: S, acc, A, rest, h => by
    simp only [cw_ag] at h
    obtain ⟨h1, h2⟩ := cw_ag_is n S (x :: acc) A rest h
    refine ⟨?_, by rw [h2, List.length_cons]; omega⟩
    rw [h1, List.reverse_cons, List.append_assoc]
    rfl
def cw_c8 : List cw_V → Nat := fun l => match l with
  | [] => 0
  | .inr (.inl _) :: t => 2 + cw_c8 t
  | _ :: t => 1 + cw_c8 t
theorem cw_c8_is (g : cw_G) : ∀ l : List cw_V, ((l.map (cw_v g)).map fun v => v.category).sum = cw_c8 l
  | [] => rfl
  | .inl x :: t => by
    have := cw_c8_is g t
    simp only [List.map_cons, List.sum_cons, cw_c8, this]
    rw [cw_c1 (by simp)]
  | .inr (.inl x) :: t => by
    have := cw_c8_is g t
    simp only [List.map_cons, List.sum_cons, cw_c8, this]
    rw [(cw_cat g _).mpr ⟨x, rfl⟩]
  | .inr (.inr x) :: t => by
    have := cw_c8_is g t
    simp only [List.map_cons, List.sum_cons, cw_c8, this]
    rw [cw_c1 (by simp)]
def cw_tl : Option cw_V → List cw_V := fun r => match r with
  | none => []
  | some v => [v]
theorem cw_tl_map (g : cw_G) (r : Option cw_V) (S : List cw_V) : (r.map (cw_v g)).toList ++ S.map (cw_v g) = (cw_tl r ++ S).map (cw_v g) := by
  cases r <;> rfl
theorem cw_sl_mono : ∀ (l : List (Nat × Nat)) (a b : Nat), a ≤ b → cw_sl (l.take a) ≤ cw_sl (l.take b)
  | [], a, b, _ => by simp [cw_sl]
  | q :: t, 0, b, _ => by simp [cw_sl]
  | q :: t, a + 1, 0, h => by omega
  | q :: t, a + 1, b + 1, h => by
    have := cw_sl_mono t a b (by omega)
    simp only [List.take_succ_cons, cw_sl]
    omega
theorem cw_SL_mono {a b : Nat} (h : a ≤ b) : cw_SL a ≤ cw_SL b := cw_sl_mono _ a b h
/-- the room of a call -/
def cw_fit (y z : cw_Y) : Prop := z.2.2.2.2.1 + 1 ≤ y.2.2.2.2.1 ∧ 8 + (z.2.2.1 + 11) + z.2.2.2.2.2 ≤ y.2.2.2.2.2
theorem cw_blind {g : cw_G} {A : List cw_V} {M : cw_M} {nx : Nat} : FrameBlind (cw_P g A M nx) := fun a U h mk q => ⟨q.1, q.2.1, cw_K_call q.2.2⟩
/-- what a call of a method of an object rests on: in the tables -/
def cw_lv (y z : cw_Y) (idx ci n : Nat) : Prop := cw_ok z ∧ (Cond.methodLink y.1.cls idx z.1 ∈ cw_tb ∧ Cond.instanceMethod z.1 ∈ cw_tb ∧ Cond.selects z.1.cls z.1 z.1 ∈ cw_tb) ∧ (parseMethodDescriptor z.1.desc).map (fun d => d.parameters.length) = some n ∧ cw_fit y z ∧ (cw_cl[ci]?).map (fun q => q.1) = some z.1.cls
def cw_ls1 (y z : cw_Y) (idx n : Nat) : Prop := cw_ok z ∧ (Cond.methodLink y.1.cls idx z.1 ∈ cw_tb ∧ Cond.static z.1 ∈ cw_tb) ∧ (parseMethodDescriptor z.1.desc).map (fun d => d.parameters.length) = some n ∧ cw_fit y z
def t_cv (z : cw_Y) (ci n nxt : Nat) : cw_T := fun g _ nx L S M _ K => match cw_ag (n + 1) S [] with
  | some (.inr (.inr a) :: As, rest) => cw_kt nx a = (ci, 0) ∧ cw_c8 rest ≤ 8 ∧ ∃ P : Option cw_V → cw_M → Prop, cw_C g z (.inr (.inr a) :: As) M nx nx P ∧ ∀ r M', P r M' → K nx nxt L (cw_tl r ++ rest) M'
  | _ => False
def t_cs (z : cw_Y) (n nxt : Nat) : cw_T := fun g _ nx L S M _ K => match cw_ag n S [] with
  | some (As, rest) => cw_c8 rest ≤ 8 ∧ ∃ P : Option cw_V → cw_M → Prop, cw_C g z As M nx nx P ∧ ∀ r M', P r M' → K nx nxt L (cw_tl r ++ rest) M'
  | _ => False
theorem tm_cv {y z : cw_Y} {pc idx ci n : Nat} (hd : decode y.2.1 pc = .ok (.invokevirtual idx, 3)) (hw : cw_lv y z idx ci n) : cw_tm y pc (t_cv z ci n (pc + 3)) := by
  intro g n0 n1 nx L S M Q K hK h p e R s m args below meth c mc ms X N9 H locs ls hH hS hL
  unfold t_cv at h
  split at h
  · rename_i a As rest hag
    obtain ⟨h1, h8, P, hC, hP⟩ := h
    obtain ⟨hok, ⟨hw1, hw2, hw3⟩, hn, hfit, hci⟩ := hw
    obtain ⟨hag1, hag2⟩ := cw_ag_is _ _ _ _ _ hag
    obtain ⟨q, hq, hqz⟩ : ∃ q, cw_cl[ci]? = some q ∧ q.1 = z.1.cls := by
      cases h9 : cw_cl[ci]? with
      | none => rw [h9] at hci; cases hci
      | some q => rw [h9] at hci; exact ⟨q, rfl, Option.some.inj hci⟩
    have hlt : ci < 13 := (List.getElem?_eq_some_iff.mp hq).1
    obtain ⟨ha0, han, hak⟩ := cw_kt_is h1 (show ci < 99 by omega)
    have he := cw_w_get (g := g) (M := M) han
    rw [cw_E_obj ha0 hak (by omega)] at he
    have hrec := va_recv X.2.2.2.2.2.2.2.2.1 hH.2 hq he
    rw [hqz] at hrec
    have hnn : nx - nx = 0 := Nat.sub_self _
    have hss : cw_SL nx - cw_SL nx = 0 := Nat.sub_self _
    have hM := hC.2
    rw [hnn, hss] at hM
    have hG : GoodIn cw_tb (wsV y.1.cls idx z.1.cls z.1 (cw_ws z)) := by
      intro w hw
      rcases List.mem_append.mp (show w ∈ [Cond.methodLink y.1.cls idx z.1, Cond.instanceMethod z.1, Cond.selects z.1.cls z.1 z.1, Cond.initialized z.1.cls] ++ cw_ws z from hw) with hw | hw
      · simp only [List.mem_cons, List.not_mem_nil, or_false] at hw
        rcases hw with rfl | rfl | rfl | rfl
        · exact ⟨hw1, cw_tb_good hw1⟩
        · exact ⟨hw2, cw_tb_good hw2⟩
        · exact ⟨hw3, cw_tb_good hw3⟩
        · exact ⟨hok.2.2.1, cw_tb_good hok.2.2.1⟩
      · exact cw_ok_good hok w hw
    have hstack : S.map (cw_v g) = (As.map (cw_v g)).reverse ++ .ref (cw_B g + a.toNat) :: rest.map (cw_v g) := by
      have e : S = (.inr (.inr a) :: As : List cw_V).reverse ++ rest := by simpa using hag1.symm
      rw [e, List.map_append, List.map_reverse, List.map_cons, List.reverse_cons, cw_v_ref g ha0, List.append_assoc]
      rfl
    have hpre : (((.inr (.inr a) :: As : List cw_V)).map (cw_v g)) = .ref (cw_B g + a.toNat) :: As.map (cw_v g) := by rw [List.map_cons, cw_v_ref g ha0]
    refine cw_call (va_runV (As := As.map (cw_v g)) (rest := rest.map (cw_v g)) ⟨X.1, X.2.1, X.2.2.1, X.2.2.2.2.1, X.2.2.2.2.2.1⟩ hM (cwV n X.2.2.2.2.2.1 hG rfl rfl rfl ⟨rfl, hok.2.2.2.1, hok.2.2.2.2, hn⟩ ⟨by rw [N9.1]; exact hfit.1, by rw [N9.2.1]; exact hfit.2⟩)
      ⟨cw_blind, hrec, fun U hU hW => ⟨by rw [hpre], by rw [hU]; exact hH, cw_K_warm X.2.2.2.2.2.2.2.2 hU hW hS⟩⟩ rfl (by rw [List.length_map]; rw [List.length_cons] at hag2; simpa using hag2) hL.1 hstack (lv_room (by rw [cw_c8_is]; exact h8)) hd ⟨?_, ?_⟩) hS (fun r M' H1 locs1 hPr hH1 hS1 => ?_)
    · have := N9.2.2.1; have := N9.2.2.2.1; have := N9.2.2.2.2.2.2.2; omega
    · have h5 := N9.2.2.2.2.1
      have h6 := N9.2.2.2.2.2.1
      have hmono := cw_SL_mono N9.2.2.2.2.2.2.2
      omega
    · rw [cw_tl_map]
      exact hK _ _ _ _ _ (hP r M' hPr) p e R s m args below meth c mc ms X N9 H1 locs1 ls hH1 hS1 hL
  · exact h.elim
theorem tm_cs {y z : cw_Y} {pc idx n : Nat} (hd : decode y.2.1 pc = .ok (.invokestatic idx, 3)) (hw : cw_ls1 y z idx n) : cw_tm y pc (t_cs z n (pc + 3)) := by
  intro g n0 n1 nx L S M Q K hK h p e R s m args below meth c mc ms X N9 H locs ls hH hS hL
  unfold t_cs at h
  split at h
  · rename_i As rest hag
    obtain ⟨h8, P, hC, hP⟩ := h
    obtain ⟨hok, ⟨hw1, hw2⟩, hn, hfit⟩ := hw
    obtain ⟨hag1, hag2⟩ := cw_ag_is _ _ _ _ _ hag
    have hnn : nx - nx = 0 := Nat.sub_self _
    have hss : cw_SL nx - cw_SL nx = 0 := Nat.sub_self _
    have hM := hC.2
    rw [hnn, hss] at hM
    have hG : GoodIn cw_tb (va_wsS y.1.cls idx z.1 (cw_ws z)) := by
      intro w hw
      rcases List.mem_append.mp (show w ∈ [Cond.methodLink y.1.cls idx z.1, Cond.static z.1, Cond.initialized z.1.cls] ++ cw_ws z from hw) with hw | hw
      · simp only [List.mem_cons, List.not_mem_nil, or_false] at hw
        rcases hw with rfl | rfl | rfl
        · exact ⟨hw1, cw_tb_good hw1⟩
        · exact ⟨hw2, cw_tb_good hw2⟩
        · exact ⟨hok.2.2.1, cw_tb_good hok.2.2.1⟩
      · exact cw_ok_good hok w hw
    have hstack : S.map (cw_v g) = (As.map (cw_v g)).reverse ++ rest.map (cw_v g) := by
      have e : S = As.reverse ++ rest := by simpa using hag1.symm
      rw [e, List.map_append, List.map_reverse]
    refine cw_call (va_runS (As := As.map (cw_v g)) (rest := rest.map (cw_v g)) ⟨X.1, X.2.1, X.2.2.1, X.2.2.2.2.1, X.2.2.2.2.2.1⟩ hM (va_cwS n X.2.2.2.2.2.1 hG rfl rfl rfl ⟨hok.2.2.2.1, hok.2.2.2.2, hn⟩ ⟨by rw [N9.1]; exact hfit.1, by rw [N9.2.1]; exact hfit.2⟩)
      ⟨cw_blind, fun U hU hW => ⟨rfl, by rw [hU]; exact hH, cw_K_warm X.2.2.2.2.2.2.2.2 hU hW hS⟩⟩ rfl (by rw [List.length_map]; simpa using hag2) hL.1 hstack (lv_room (by rw [cw_c8_is]; exact h8)) hd ⟨?_, ?_⟩) hS (fun r M' H1 locs1 hPr hH1 hS1 => ?_)
    · have := N9.2.2.1; have := N9.2.2.2.1; have := N9.2.2.2.2.2.2.2; omega
    · have h5 := N9.2.2.2.2.1
      have h6 := N9.2.2.2.2.2.1
      have hmono := cw_SL_mono N9.2.2.2.2.2.2.2
      omega
    · rw [cw_tl_map]
      exact hK _ _ _ _ _ (hP r M' hPr) p e R s m args below meth c mc ms X N9 H1 locs1 ls hH1 hS1 hL
  · exact h.elim
