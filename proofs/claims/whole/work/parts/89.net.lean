/-! the tree as a net: p drop = q flow - r, in whole numbers -/
def t_pq (s : Int → Int) : Tr → Int × Int := fun t => match t with
  | .num p => (s p, 1)
  | .neg x => t_pq s x
  | .add a b => ((t_pq s a).1 * (t_pq s b).2 + (t_pq s b).1 * (t_pq s a).2, (t_pq s a).2 * (t_pq s b).2)
  | .mul a b => ((t_pq s a).1 * (t_pq s b).1, (t_pq s a).1 * (t_pq s b).2 + (t_pq s b).1 * (t_pq s a).2)
  | _ => (1, 1)
def t_r (s e : Int → Int) : Tr → Int := fun t => match t with
  | .num p => e p
  | .neg x => t_r s e x
  | .add a b => t_r s e a * (t_pq s b).2 + t_r s e b * (t_pq s a).2
  | .mul a b => t_r s e a * (t_pq s b).1 + t_r s e b * (t_pq s a).1
  | _ => 0
/-- what the pieces carry and drop when the rest of the net says: al flow + be drop = ga (al p + be q) -/
def t_sv (s e D F : Int → Int) : Tr → Int → Int → Int → Prop := fun t => match t with
  | .num p => fun al be ga => D p = ga - al * e p ∧ F p = s p * ga + be * e p
  | .neg x => fun al be ga => t_sv s e D F x al be ga
  | .add a b => fun al be ga => t_sv s e D F a (al * (t_pq s b).2) (be * (t_pq s b).2 + al * (t_pq s b).1) (ga * (t_pq s b).2 - al * t_r s e b) ∧ t_sv s e D F b (al * (t_pq s a).2) (be * (t_pq s a).2 + al * (t_pq s a).1) (ga * (t_pq s a).2 - al * t_r s e a)
  | .mul a b => fun al be ga => t_sv s e D F a (al * (t_pq s b).1 + be * (t_pq s b).2) (be * (t_pq s b).1) (ga * (t_pq s b).1 + be * t_r s e b) ∧ t_sv s e D F b (al * (t_pq s a).1 + be * (t_pq s a).2) (be * (t_pq s a).1) (ga * (t_pq s a).1 + be * t_r s e a)
  | _ => fun _ _ _ => False
/-- the drops of what is behind one another are together, the flows side by side -/
def t_nt (D F : Int → Int) : Tr → Int → Int → Prop := fun t => match t with
  | .num p => fun d f => D p = d ∧ F p = f
  | .neg x => fun d f => t_nt D F x d f
  | .add a b => fun d f => ∃ fa fb, fa + fb = f ∧ t_nt D F a d fa ∧ t_nt D F b d fb
  | .mul a b => fun d f => ∃ da db, da + db = d ∧ t_nt D F a da f ∧ t_nt D F b db f
  | _ => fun _ _ => False
theorem sv_nt {s e D F : Int → Int} : ∀ (t : Tr) (al be ga : Int), t_sv s e D F t al be ga → t_nt D F t ((t_pq s t).2 * ga - al * t_r s e t) ((t_pq s t).1 * ga + be * t_r s e t)
  | .num p, al, be, ga, ⟨h1, h2⟩ => ⟨by show D p = 1 * ga - al * e p; rw [h1]; omega, h2⟩
  | .neg x, al, be, ga, h => sv_nt x al be ga h
  | .add a b, al, be, ga, ⟨h1, h2⟩ => by
    have ka := sv_nt a _ _ _ h1
    have kb := sv_nt b _ _ _ h2
    have e1 : (t_pq s (.add a b)).2 * ga - al * t_r s e (.add a b) = (t_pq s a).2 * (ga * (t_pq s b).2 - al * t_r s e b) - al * (t_pq s b).2 * t_r s e a := by
      show (t_pq s a).2 * (t_pq s b).2 * ga - al * (t_r s e a * (t_pq s b).2 + t_r s e b * (t_pq s a).2) = _
      grind
    have e2 : (t_pq s (.add a b)).2 * ga - al * t_r s e (.add a b) = (t_pq s b).2 * (ga * (t_pq s a).2 - al * t_r s e a) - al * (t_pq s a).2 * t_r s e b := by
      show (t_pq s a).2 * (t_pq s b).2 * ga - al * (t_r s e a * (t_pq s b).2 + t_r s e b * (t_pq s a).2) = _
      grind
    rw [← e1] at ka
    rw [← e2] at kb
    refine ⟨_, _, ?_, ka, kb⟩
    show _ = ((t_pq s a).1 * (t_pq s b).2 + (t_pq s b).1 * (t_pq s a).2) * ga + be * (t_r s e a * (t_pq s b).2 + t_r s e b * (t_pq s a).2)
    grind
  | .mul a b, al, be, ga, ⟨h1, h2⟩ => by
    have ka := sv_nt a _ _ _ h1
    have kb := sv_nt b _ _ _ h2
    have e1 : (t_pq s (.mul a b)).1 * ga + be * t_r s e (.mul a b) = (t_pq s a).1 * (ga * (t_pq s b).1 + be * t_r s e b) + be * (t_pq s b).1 * t_r s e a := by
      show (t_pq s a).1 * (t_pq s b).1 * ga + be * (t_r s e a * (t_pq s b).1 + t_r s e b * (t_pq s a).1) = _
      grind
    have e2 : (t_pq s (.mul a b)).1 * ga + be * t_r s e (.mul a b) = (t_pq s b).1 * (ga * (t_pq s a).1 + be * t_r s e a) + be * (t_pq s a).1 * t_r s e b := by
      show (t_pq s a).1 * (t_pq s b).1 * ga + be * (t_r s e a * (t_pq s b).1 + t_r s e b * (t_pq s a).1) = _
      grind
    rw [← e1] at ka
    rw [← e2] at kb
    refine ⟨_, _, ?_, ka, kb⟩
    show _ = ((t_pq s a).1 * (t_pq s b).2 + (t_pq s b).1 * (t_pq s a).2) * ga - al * (t_r s e a * (t_pq s b).1 + t_r s e b * (t_pq s a).1)
    grind
/-- what a net carries and drops: two ways of it, against one another (Tellegen) -/
def t_tl (g : Int → Int) : Tr → Int := fun t => match t with
  | .num p => g p
  | .neg x => t_tl g x
  | .add a b => t_tl g a + t_tl g b
  | .mul a b => t_tl g a + t_tl g b
  | _ => 0
theorem nt_tl {D F D' F' : Int → Int} : ∀ (t : Tr) (d f d' f' : Int), t_nt D F t d f → t_nt D' F' t d' f' → t_tl (fun p => D p * F' p) t = d * f'
  | .num p, d, f, d', f', ⟨h1, _⟩, ⟨_, h4⟩ => by show D p * F' p = _; rw [h1, h4]
  | .neg x, d, f, d', f', h, k => nt_tl x d f d' f' h k
  | .add a b, d, f, d', f', ⟨fa, fb, h1, h2, h3⟩, ⟨fa', fb', k1, k2, k3⟩ => by
    show t_tl _ a + t_tl _ b = _
    rw [nt_tl a _ _ _ _ h2 k2, nt_tl b _ _ _ _ h3 k3, ← k1]
    grind
  | .mul a b, d, f, d', f', ⟨da, db, h1, h2, h3⟩, ⟨da', db', k1, k2, k3⟩ => by
    show t_tl _ a + t_tl _ b = _
    rw [nt_tl a _ _ _ _ h2 k2, nt_tl b _ _ _ _ h3 k3, ← h1]
    grind
/-- with straight pieces: q flow - p drop = r -/
theorem nt_rel {s e D F : Int → Int} {w : Int} : ∀ (t : Tr) (d f : Int), (∀ p, t_in t p → F p = s p * D p + e p * w) → t_nt D F t d f → (t_pq s t).2 * f = (t_pq s t).1 * d + t_r s e t * w
  | .num p, d, f, hl, ⟨h1, h2⟩ => by
    have := hl p rfl
    show 1 * f = s p * d + e p * w
    rw [← h1, ← h2, this]; omega
  | .neg x, d, f, hl, h => nt_rel x d f hl h
  | .add a b, d, f, hl, ⟨fa, fb, h1, h2, h3⟩ => by
    have ka := nt_rel a _ _ (fun p hp => hl p (Or.inl hp)) h2
    have kb := nt_rel b _ _ (fun p hp => hl p (Or.inr hp)) h3
    show (t_pq s a).2 * (t_pq s b).2 * f = ((t_pq s a).1 * (t_pq s b).2 + (t_pq s b).1 * (t_pq s a).2) * d + (t_r s e a * (t_pq s b).2 + t_r s e b * (t_pq s a).2) * w
    grind
  | .mul a b, d, f, hl, ⟨da, db, h1, h2, h3⟩ => by
    have ka := nt_rel a _ _ (fun p hp => hl p (Or.inl hp)) h2
    have kb := nt_rel b _ _ (fun p hp => hl p (Or.inr hp)) h3
    show ((t_pq s a).1 * (t_pq s b).2 + (t_pq s b).1 * (t_pq s a).2) * f = (t_pq s a).1 * (t_pq s b).1 * d + (t_r s e a * (t_pq s b).1 + t_r s e b * (t_pq s a).1) * w
    grind
