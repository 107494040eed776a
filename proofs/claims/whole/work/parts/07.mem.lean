/-! the classes in the tables; fields and arrays -/
theorem cw_pl {ws : List Cond} (ps : List Nat) (hp : ws = ps.filterMap (fun i => lw_tbl[i]?)) (hg : ws.all goodWord = true) : ∀ w ∈ ws, w ∈ cw_tb := by
  intro w hw
  have h1 := List.all_eq_true.mp hg w hw
  rw [hp] at hw
  obtain ⟨i, -, hi⟩ := List.mem_filterMap.mp hw
  exact cw_tb_in (List.mem_of_getElem? hi) h1
theorem cw_p1 {w : Cond} (i : Nat) (h : lw_tbl[i]? = some w) (hg : goodWord w = true) : w ∈ cw_tb := cw_tb_in (List.mem_of_getElem? h) hg
def cw_cok (ci : Nat) (C : String) (T : u_T) (N : Nat) : Prop := (∀ w ∈ u_ws C T N, w ∈ cw_tb) ∧ (∀ k, k < N → parseFieldDescriptor (T k).2.2.1 = some (cw_fT ci k)) ∧ (∀ a, a < N → ∀ b, b < N → a ≠ b → (T a).2.1 ≠ (T b).2.1) ∧ (∀ k, k < N → cw_cd (cw_fT ci k) = cw_fc ci k) ∧ (∀ k, k < N → (T k).1 = C) ∧ N = cw_cN ci
theorem cw_cok0 : cw_cok 0 "CoilWorks$Bodies" cw_F0 7 := ⟨cw_pl [279, 281, 283, 285, 287, 289, 291] (by decide +kernel) (by decide +kernel), by decide +kernel, by decide +kernel, by decide +kernel, by decide +kernel, by decide +kernel⟩
theorem cw_cok1 : cw_cok 1 "CoilWorks$Drive" cw_F1 9 := ⟨cw_pl [241, 243, 245, 247, 249, 251, 253, 255, 257] (by decide +kernel) (by decide +kernel), by decide +kernel, by decide +kernel, by decide +kernel, by decide +kernel, by decide +kernel⟩
theorem cw_cok2 : cw_cok 2 "CoilWorks$Machine" cw_F2 9 := ⟨cw_pl [155, 157, 159, 161, 163, 165, 167, 169, 171] (by decide +kernel) (by decide +kernel), by decide +kernel, by decide +kernel, by decide +kernel, by decide +kernel, by decide +kernel⟩
theorem cw_cok3 : cw_cok 3 "CoilWorks$Path" cw_F3 10 := ⟨cw_pl [337, 339, 341, 343, 345, 347, 349, 351, 353, 355] (by decide +kernel) (by decide +kernel), by decide +kernel, by decide +kernel, by decide +kernel, by decide +kernel, by decide +kernel⟩
theorem cw_cok4 : cw_cok 4 "CoilWorks$Ratio" cw_F4 6 := ⟨cw_pl [493, 495, 497, 499, 501, 503] (by decide +kernel) (by decide +kernel), by decide +kernel, by decide +kernel, by decide +kernel, by decide +kernel, by decide +kernel⟩
theorem cw_cok5 : cw_cok 5 "CoilWorks$Rest" cw_F5 17 := ⟨cw_pl [407, 409, 411, 413, 415, 417, 419, 421, 423, 425, 427, 429, 431, 433, 435, 437, 439] (by decide +kernel) (by decide +kernel), by decide +kernel, by decide +kernel, by decide +kernel, by decide +kernel, by decide +kernel⟩
theorem cw_cok6 : cw_cok 6 "CoilWorks$Seen" cw_F6 4 := ⟨cw_pl [189, 191, 193, 195] (by decide +kernel) (by decide +kernel), by decide +kernel, by decide +kernel, by decide +kernel, by decide +kernel, by decide +kernel⟩
theorem cw_cok7 : cw_cok 7 "CoilWorks$Slots" cw_F7 3 := ⟨cw_pl [214, 216, 218] (by decide +kernel) (by decide +kernel), by decide +kernel, by decide +kernel, by decide +kernel, by decide +kernel, by decide +kernel⟩
theorem cw_cok8 : cw_cok 8 "CoilWorks$Stars" cw_F8 4 := ⟨cw_pl [454, 456, 458, 460] (by decide +kernel) (by decide +kernel), by decide +kernel, by decide +kernel, by decide +kernel, by decide +kernel, by decide +kernel⟩
theorem cw_cok9 : cw_cok 9 "CoilWorks$State" cw_F9 5 := ⟨cw_pl [304, 306, 308, 310, 312] (by decide +kernel) (by decide +kernel), by decide +kernel, by decide +kernel, by decide +kernel, by decide +kernel, by decide +kernel⟩
theorem cw_cok10 : cw_cok 10 "CoilWorks$Whole" cw_F10 3 := ⟨cw_pl [379, 381, 383] (by decide +kernel) (by decide +kernel), by decide +kernel, by decide +kernel, by decide +kernel, by decide +kernel, by decide +kernel⟩
theorem cw_cok11 : cw_cok 11 "CoilWorks" cw_F11 10 := ⟨cw_pl [516, 518, 520, 522, 524, 526, 528, 530, 532, 534] (by decide +kernel) (by decide +kernel), by decide +kernel, by decide +kernel, by decide +kernel, by decide +kernel, by decide +kernel⟩
theorem cw_cok12 : cw_cok 12 "CoilWorksModel" cw_F12 33 := ⟨cw_pl [1188, 1190, 1192, 1194, 1196, 1198, 1200, 1202, 1204, 1206, 1208, 1210, 1212, 1214, 1216, 1218, 1220, 1222, 1224, 1226, 1228, 1230, 1232, 1234, 1236, 1238, 1240, 1242, 1244, 1246, 1248, 1250, 1252] (by decide +kernel) (by decide +kernel), by decide +kernel, by decide +kernel, by decide +kernel, by decide +kernel, by decide +kernel⟩
theorem cw_cls {ci : Nat} {C : String} {T : u_T} {N : Nat} (h : cw_cl[ci]? = some (C, T, N)) : cw_cok ci C T N := by
  match ci, h with
  | 0, h => cases h; exact cw_cok0
  | 1, h => cases h; exact cw_cok1
  | 2, h => cases h; exact cw_cok2
  | 3, h => cases h; exact cw_cok3
  | 4, h => cases h; exact cw_cok4
  | 5, h => cases h; exact cw_cok5
  | 6, h => cases h; exact cw_cok6
  | 7, h => cases h; exact cw_cok7
  | 8, h => cases h; exact cw_cok8
  | 9, h => cases h; exact cw_cok9
  | 10, h => cases h; exact cw_cok10
  | 11, h => cases h; exact cw_cok11
  | 12, h => cases h; exact cw_cok12
  | n + 13, h => simp [cw_cl] at h
theorem cw_kn_le (k : Nat) : (cw_kn k).2 ≤ 7168 := by
  have h : cw_kl.all (fun q => decide (q.2 ≤ 7168)) = true := by decide +kernel
  unfold cw_kn
  rw [List.getD_eq_getElem?_getD]
  cases hk : cw_kl[k]? with
  | none => simp
  | some q => simpa using List.all_eq_true.mp h q (List.mem_of_getElem? hk)
/-- the kind of a cell that is there -/
def cw_kt (nx : Nat) (a : Int) : Nat × Nat := if 0 ≤ a ∧ a < nx then cw_kn a.toNat else (99, 0)
theorem cw_kt_is {nx : Nat} {a : Int} {q : Nat × Nat} (h : cw_kt nx a = q) (hq : q.1 < 99) : 0 ≤ a ∧ a.toNat < nx ∧ cw_kn a.toNat = q := by
  unfold cw_kt at h
  split at h
  · rename_i h1
    exact ⟨h1.1, by omega, h⟩
  · subst h
    exact absurd hq (by decide)
theorem cw_kt_le (nx : Nat) (a : Int) : (cw_kt nx a).2 ≤ 7168 := by
  unfold cw_kt
  split
  · exact cw_kn_le _
  · decide
theorem cw_kt_1 {nx : Nat} {a : Int} {t : Nat} (h : (cw_kt nx a).1 = t) (hq : t < 99) : 0 ≤ a ∧ a.toNat < nx ∧ cw_kn a.toNat = (t, (cw_kt nx a).2) := by
  have := cw_kt_is (q := (t, (cw_kt nx a).2)) (by rw [← h]) hq
  exact this
theorem cw_E_obj {g : cw_G} {M : cw_M} {a : Int} {ci n : Nat} (h0 : 0 ≤ a) (h : cw_kn a.toNat = (ci, n)) (hc : ci < 20) : cw_E g M a.toNat = .inr (ci, cw_fs g ci (M a)) := by
  unfold cw_E
  rw [h, Int.toNat_of_nonneg h0]
  exact if_pos hc
theorem cw_E_arr {g : cw_G} {M : cw_M} {a : Int} {t n : Nat} (h0 : 0 ≤ a) (h : cw_kn a.toNat = (20 + t, n)) : cw_E g M a.toNat = .inl (cw_dA g t, n, cw_ct g t (M a)) := by
  unfold cw_E
  rw [h, Int.toNat_of_nonneg h0]
  rw [if_neg (show ¬ 20 + t < 20 by omega)]
  show (Sum.inl (cw_dA g (20 + t - 20), n, cw_ct g (20 + t - 20) (M a)) : va_E) = _
  rw [Nat.add_sub_cancel_left]
theorem cw_E_ne {g : cw_G} {M : cw_M} {a k v : Int} {j : Nat} (h : (j : Int) ≠ a) : cw_E g (cw_up M a k v) j = cw_E g M j := by
  unfold cw_E
  rw [cw_up_ne h]
theorem cw_up_at {M : cw_M} {a k v : Int} : cw_up M a k v a = fun k' => if k' = k then v else M a k' := if_pos rfl
theorem cw_fs_len (g : cw_G) (ci : Nat) (f : Int → Int) : (cw_fs g ci f).length = cw_cN ci := by simp [cw_fs]
theorem cw_fs_get {g : cw_G} {ci k : Nat} {f : Int → Int} (h : k < cw_cN ci) : (cw_fs g ci f)[k]? = some (cw_v g (cw_vt (cw_fc ci k) (f k))) := by simp [cw_fs, h]
theorem cw_fs_set {g : cw_G} {ci k : Nat} {f : Int → Int} {x : Int} : (cw_fs g ci f).set k (cw_v g (cw_vt (cw_fc ci k) x)) = cw_fs g ci (fun j => if j = (k : Int) then x else f j) := by
  apply List.ext_getElem?
  intro i
  by_cases hi : i < cw_cN ci
  · by_cases hk : i = k
    · subst hk
      rw [List.getElem?_set_self (by rw [cw_fs_len]; exact hi), cw_fs_get hi, if_pos rfl]
    · rw [List.getElem?_set_ne (Ne.symm hk), cw_fs_get hi, cw_fs_get hi, if_neg (by omega)]
  · rw [List.getElem?_eq_none (by rw [List.length_set, cw_fs_len]; omega), List.getElem?_eq_none (by rw [cw_fs_len]; omega)]
/-- a field is read -/
def o_gf (ci k t : Nat) : cw_O := fun nx L S M K => match S with
  | .inr (.inr a) :: S => cw_kt nx a = (ci, 0) ∧ K L (cw_vt t (M a k) :: S) M
  | _ => False
theorem at_gf {y : cw_Y} {pc idx ci k t : Nat} {C : String} {T : u_T} {N : Nat} (hd : decode y.2.1 pc = .ok (.getfield idx, 3)) (hc : cw_cl[ci]? = some (C, T, N)) (hk : k < N) (hl : Cond.fieldLink y.1.cls idx (T k).1 (T k).2.1 (T k).2.2.1 ∈ cw_tb) (ht : cw_fc ci k = t) : cw_at y pc (o_gf ci k t) 3 := by
  intro g n0 n1 nx L S M Q K hK h p e R s m args below meth c mc ms X N9 H locs ls hH hS hL
  unfold o_gf at h
  split at h
  · rename_i a S
    obtain ⟨h1, h2⟩ := h
    have hci : ci < 13 := (List.getElem?_eq_some_iff.mp hc).1
    obtain ⟨ha0, han, hak⟩ := cw_kt_is h1 (show ci < 99 by omega)
    obtain ⟨c1, c2, c3, c4, c5, c6⟩ := cw_cls hc
    have he := cw_w_get (g := g) (M := M) han
    rw [cw_E_obj ha0 hak (by omega)] at he
    rw [List.map_cons, cw_v_ref g ha0]
    have k9 := hK _ _ _ h2 p e R s m args below meth c mc ms X N9 H locs ls hH hS hL
    rw [List.map_cons] at k9
    refine va_get X.1 X.2.1 X.2.2.2.2.2.1 c1 X.2.2.2.2.1 X.2.2.2.2.2.2.2.2.1 hH.2 a.toNat he hc k hk (X.2.2.2.2.2.1 _ hl) (fun _ h => h) (v := cw_v g (cw_vt t (M a k))) ?_ hd k9
    rw [← ht]
    exact cw_fs_get (by rw [← c6]; exact hk)
  · exact h.elim
/-- what a field may hold -/
def cw_may (t : Nat) (x : Int) : Prop := match t with
  | 2 => 0 ≤ x ∨ x = -5
  | 3 => x = 0 ∨ x = 1
  | _ => True
theorem cw_fits {g : cw_G} {ty : FieldType} {t : Nat} {x : Int} (h : cw_cd ty = t) (h9 : t ≠ 9) (hm : cw_may t x) : narrow ty (cw_v g (cw_vt t x)) = cw_v g (cw_vt t x) ∧ fits ty (cw_v g (cw_vt t x)) = true := by
  subst h
  cases ty with
  | int => exact ⟨rfl, rfl⟩
  | long => exact ⟨rfl, rfl⟩
  | boolean =>
    rcases (show x = 0 ∨ x = 1 from hm) with rfl | rfl
    · exact ⟨rfl, rfl⟩
    · exact ⟨rfl, rfl⟩
  | object n =>
    obtain ⟨a, ha, -⟩ := cw_ref (g := g) (show 0 ≤ x ∨ x = -5 from hm)
    show narrow (.object n) (cw_v g (.inr (.inr x))) = _ ∧ fits (.object n) (cw_v g (.inr (.inr x))) = true
    rw [ha]
    exact ⟨by show Value.ref a = cw_v g (.inr (.inr x)); rw [ha], rfl⟩
  | array n =>
    obtain ⟨a, ha, -⟩ := cw_ref (g := g) (show 0 ≤ x ∨ x = -5 from hm)
    show narrow (.array n) (cw_v g (.inr (.inr x))) = _ ∧ fits (.array n) (cw_v g (.inr (.inr x))) = true
    rw [ha]
    exact ⟨by show Value.ref a = cw_v g (.inr (.inr x)); rw [ha], rfl⟩
  | _ => exact absurd rfl h9
theorem cw_put {y : cw_Y} {pc idx ci k t : Nat} {C : String} {T : u_T} {N : Nat} (hd : decode y.2.1 pc = .ok (.putfield idx, 3)) (hc : cw_cl[ci]? = some (C, T, N)) (hk : k < N) (hl : Cond.fieldLink y.1.cls idx (T k).1 (T k).2.1 (T k).2.2.1 ∈ cw_tb) (ht : cw_fc ci k = t) (h9 : t ≠ 9) (hf : (T k).2.2.2 = false ∨ (y.1.name = "<init>" ∧ y.1.cls = C))
    {g : cw_G} {n0 n1 nx : Nat} {L S : List cw_V} {M : cw_M} {Q : Option cw_V → cw_M → Prop} {a x : Int} (h1 : cw_kt nx a = (ci, 0)) (hm : cw_may t x) (hJ : cw_J g y n0 n1 nx (pc + 3) L S (cw_up M a k x) Q) : cw_J g y n0 n1 nx pc L (cw_vt t x :: .inr (.inr a) :: S) M Q := by
  intro p e R s m args below meth c mc ms X N9 H locs ls hH hS hL
  have hci : ci < 13 := (List.getElem?_eq_some_iff.mp hc).1
  obtain ⟨ha0, han, hak⟩ := cw_kt_is h1 (show ci < 99 by omega)
  obtain ⟨c1, c2, c3, c4, c5, c6⟩ := cw_cls hc
  have he := cw_w_get (g := g) (M := M) han
  rw [cw_E_obj ha0 hak (by omega)] at he
  rw [List.map_cons, List.map_cons, cw_v_ref g ha0]
  obtain ⟨f1, f2⟩ := cw_fits (g := g) (x := x) ((c4 k hk).trans ht) h9 hm
  have hset : (cw_w g nx M).set a.toNat (cw_B g + a.toNat, .inr (ci, (cw_fs g ci (M a)).set k (cw_v g (cw_vt t x)))) = cw_w g nx (cw_up M a k x) := by
    refine cw_w_set ?_ (fun j hj => cw_E_ne (by omega))
    rw [cw_E_obj ha0 hak (by omega), cw_up_at, ← ht, cw_fs_set]
  have kk : ∀ (H1 : Heap) (locs1 : List Loc), va_P (cw_dC g, cw_dI g) cw_cl ((cw_w g nx M).set a.toNat (cw_B g + a.toNat, .inr (ci, (cw_fs g ci (M a)).set k (cw_v g (cw_vt t x))))) H1 → H1.size = H.size → va_S (fun q => cw_B g ≤ q) s.heap H1 locs1 →
      W p (cw_l g) e R s m args below meth c H1 locs1 (nx - n0) (cw_SL nx - cw_SL n0) (MQ below (cw_Q g n1 Q) args s mc ms (fun q => cw_B g ≤ q)) (F0 m (pc + 3) ls (S.map (cw_v g))) := by
    intro H1 locs1 hP hz hS1
    rw [hset] at hP
    exact hJ p e R s m args below meth c mc ms X N9 H1 locs1 ls ⟨hz.trans hH.1, hP⟩ hS1 hL
  have hap := va_apart (own := y.1.cls) X.2.2.2.2.2.1 c1 (cw_fT ci) c2 c3 X.2.2.2.2.2.2.2.2.1 hc
  obtain ⟨r, q0, cell, q1, q2, q3, q4⟩ := hH.2 a.toNat _ he
  have hr : r = (C, T, N) := Option.some.inj (q0.symm.trans hc)
  subst hr
  obtain ⟨hSl, hfc, kC, hkC, hkind⟩ := X.2.2.2.2.2.2.2.2.1.1 ci _ hc
  obtain ⟨cf, kf, fi, f, hi, hsl⟩ := hSl k hk
  have hD := cw_D g nx M
  have done : ∀ H' : Heap, H'[cw_B g + a.toNat]? = some (cell.setSlot f.slot (cw_v g (cw_vt t x))) → H'.size = H.size → (∀ q, q ≠ cw_B g + a.toNat → H'[q]? = H[q]?) → W p (cw_l g) e R s m args below meth c H' (locs ++ [⟨cw_B g + a.toNat, f.slot⟩]) (nx - n0) (cw_SL nx - cw_SL n0) (MQ below (cw_Q g n1 Q) args s mc ms (fun q => cw_B g ≤ q)) (F0 m (pc + 3) ls (S.map (cw_v g))) := by
    intro H' e1 e2 e3
    refine kk H' _ (hH.2.set hD he ?_ e3) e2 (hS.put e2 e3 (Nat.le_add_right _ _))
    refine ⟨_, hc, _, e1, q2, q3, ?_⟩
    rw [hsl]
    intro j hj
    have := t_set (iS := cw_dI g ci) q4 (fun a b ha hb hne => hap a b ha hb hne) hk (cw_v g (cw_vt t x)) j hj
    rw [this]
    congr 1
    exact vp_updV_set (by rw [cw_fs_len, ← c6]; exact hk) _ j
  have hslot : f.slot < cell.slots.size := by rw [hsl]; exact k2_hasslot (q4 k hk)
  by_cases hfin : (T k).2.2.2 = false
  · have hlay := X.2.2.2.2.2.1 _ (c1 _ (u_in_lay hk))
    unfold u_lay at hlay
    rw [if_neg (by rw [hfin]; decide)] at hlay
    exact W.putK X.1 X.2.1 (f := f) ⟨X.2.2.2.2.1, X.2.2.2.2.2.1 _ hl, ⟨_, _, _, hi⟩, (u_facts hfc hkC (Or.inl hlay) hi).1⟩ (by rw [q2]; exact u_store hfc hkC hkind hlay hi (c2 k hk) f1 f2) q1 q3 hslot rfl rfl hd done
  · rcases hf with hf | ⟨hf1, hf2⟩
    · exact absurd hf hfin
    have hfin' : (T k).2.2.2 = true := by simpa using hfin
    have hlays := u_lays X.2.2.2.2.2.1 c1 hk
    obtain ⟨g1, g2⟩ := u_fits hfc hkC hkind hlays hi (c2 k hk) f1 f2
    refine W.putFinK X.1 X.2.1 X.2.2.2.2.1 (X.2.2.2.2.2.1 _ hl) hi (u_facts hfc hkC hlays hi).1 ?_ (by rw [X.2.2.2.2.2.2.2.1]; exact hf1) (by rw [q2]; exact ⟨g1, g2⟩) q1 q3 hslot rfl rfl hd done
    have hlay := X.2.2.2.2.2.1 _ (c1 _ (u_in_lay hk))
    unfold u_lay at hlay
    rw [if_pos hfin'] at hlay
    have hown := X.2.2.2.2.1
    rw [hf2, ← c5 k hk] at hown
    rw [c5 k hk] at hlay hown hi
    exact laid_decl hown hlay hi
def o_pfI (ci k : Nat) : cw_O := fun nx L S M K => match S with
  | .inl x :: .inr (.inr a) :: S => cw_kt nx a = (ci, 0) ∧ K L S (cw_up M a k x)
  | _ => False
def o_pfL (ci k : Nat) : cw_O := fun nx L S M K => match S with
  | .inr (.inl x) :: .inr (.inr a) :: S => cw_kt nx a = (ci, 0) ∧ K L S (cw_up M a k x)
  | _ => False
def o_pfZ (ci k : Nat) : cw_O := fun nx L S M K => match S with
  | .inl x :: .inr (.inr a) :: S => cw_kt nx a = (ci, 0) ∧ (x = 0 ∨ x = 1) ∧ K L S (cw_up M a k x)
  | _ => False
def o_pfR (ci k : Nat) : cw_O := fun nx L S M K => match S with
  | .inr (.inr x) :: .inr (.inr a) :: S => cw_kt nx a = (ci, 0) ∧ 0 ≤ x ∧ K L S (cw_up M a k x)
  | _ => False
theorem at_pfI {y : cw_Y} {pc idx ci k : Nat} {C : String} {T : u_T} {N : Nat} (hd : decode y.2.1 pc = .ok (.putfield idx, 3)) (hc : cw_cl[ci]? = some (C, T, N)) (hk : k < N) (hl : Cond.fieldLink y.1.cls idx (T k).1 (T k).2.1 (T k).2.2.1 ∈ cw_tb) (ht : cw_fc ci k = 0) (hf : (T k).2.2.2 = false ∨ (y.1.name = "<init>" ∧ y.1.cls = C)) : cw_at y pc (o_pfI ci k) 3 := by
  intro g n0 n1 nx L S M Q K hK h
  unfold o_pfI at h
  split at h
  · exact cw_put hd hc hk hl ht (by decide) hf h.1 trivial (hK _ _ _ h.2)
  · exact h.elim
theorem at_pfL {y : cw_Y} {pc idx ci k : Nat} {C : String} {T : u_T} {N : Nat} (hd : decode y.2.1 pc = .ok (.putfield idx, 3)) (hc : cw_cl[ci]? = some (C, T, N)) (hk : k < N) (hl : Cond.fieldLink y.1.cls idx (T k).1 (T k).2.1 (T k).2.2.1 ∈ cw_tb) (ht : cw_fc ci k = 1) (hf : (T k).2.2.2 = false ∨ (y.1.name = "<init>" ∧ y.1.cls = C)) : cw_at y pc (o_pfL ci k) 3 := by
  intro g n0 n1 nx L S M Q K hK h
  unfold o_pfL at h
  split at h
  · exact cw_put hd hc hk hl ht (by decide) hf h.1 trivial (hK _ _ _ h.2)
  · exact h.elim
theorem at_pfZ {y : cw_Y} {pc idx ci k : Nat} {C : String} {T : u_T} {N : Nat} (hd : decode y.2.1 pc = .ok (.putfield idx, 3)) (hc : cw_cl[ci]? = some (C, T, N)) (hk : k < N) (hl : Cond.fieldLink y.1.cls idx (T k).1 (T k).2.1 (T k).2.2.1 ∈ cw_tb) (ht : cw_fc ci k = 3) (hf : (T k).2.2.2 = false ∨ (y.1.name = "<init>" ∧ y.1.cls = C)) : cw_at y pc (o_pfZ ci k) 3 := by
  intro g n0 n1 nx L S M Q K hK h
  unfold o_pfZ at h
  split at h
  · exact cw_put hd hc hk hl ht (by decide) hf h.1 h.2.1 (hK _ _ _ h.2.2)
  · exact h.elim
theorem at_pfR {y : cw_Y} {pc idx ci k : Nat} {C : String} {T : u_T} {N : Nat} (hd : decode y.2.1 pc = .ok (.putfield idx, 3)) (hc : cw_cl[ci]? = some (C, T, N)) (hk : k < N) (hl : Cond.fieldLink y.1.cls idx (T k).1 (T k).2.1 (T k).2.2.1 ∈ cw_tb) (ht : cw_fc ci k = 2) (hf : (T k).2.2.2 = false ∨ (y.1.name = "<init>" ∧ y.1.cls = C)) : cw_at y pc (o_pfR ci k) 3 := by
  intro g n0 n1 nx L S M Q K hK h
  unfold o_pfR at h
  split at h
  · exact cw_put hd hc hk hl ht (by decide) hf h.1 (Or.inl h.2.1) (hK _ _ _ h.2.2)
  · exact h.elim
