/-! what borders join; the tree of the least keys -/
def Cn (D : LD) (X : Nat → Prop) (p q : Nat) : Prop := ∀ T : Nat → Prop, T p → (∀ b, b < dB D → X b → (T (dFr D b) ↔ T (dTo D b))) → T q
theorem Cn.rf {D : LD} {X : Nat → Prop} (p : Nat) : Cn D X p p := fun _ h _ => h
theorem Cn.sy {D : LD} {X : Nat → Prop} {p q : Nat} (h : Cn D X p q) : Cn D X q p := fun T hq hc => h (fun r => T r → T p) id (fun b hb hx => by rw [hc b hb hx]) hq
theorem Cn.tr {D : LD} {X : Nat → Prop} {p q r : Nat} (h : Cn D X p q) (h2 : Cn D X q r) : Cn D X p r := fun T hp hc => h2 T (h T hp hc) hc
theorem Cn.ed {D : LD} {X : Nat → Prop} {b : Nat} (hb : b < dB D) (hx : X b) : Cn D X (dFr D b) (dTo D b) := fun _ hp hc => (hc b hb hx).mp hp
theorem Cn.ge {D : LD} {X Y : Nat → Prop} {p q : Nat} (h : Cn D X p q) (hxy : ∀ b, b < dB D → X b → Cn D Y (dFr D b) (dTo D b)) : Cn D Y p q :=
  h (fun r => Cn D Y p r) (Cn.rf p) (fun b hb hx => ⟨fun z => z.tr (hxy b hb hx), fun z => z.tr (hxy b hb hx).sy⟩)
theorem Cn.mo {D : LD} {X Y : Nat → Prop} {p q : Nat} (h : Cn D X p q) (hxy : ∀ b, b < dB D → X b → Y b) : Cn D Y p q := h.ge (fun b hb hx => Cn.ed hb (hxy b hb hx))
theorem Cn.add {D : LD} {X Y : Nat → Prop} {e p q : Nat} (h : Cn D Y p q) (hy : ∀ b, b < dB D → Y b → X b ∨ b = e) : Cn D X p q ∨ (Cn D X p (dFr D e) ∧ Cn D X (dTo D e) q) ∨ (Cn D X p (dTo D e) ∧ Cn D X (dFr D e) q) := by
  refine h (fun r => Cn D X p r ∨ (Cn D X p (dFr D e) ∧ Cn D X (dTo D e) r) ∨ (Cn D X p (dTo D e) ∧ Cn D X (dFr D e) r)) (Or.inl (Cn.rf p)) (fun b hb hYb => ?_)
  rcases hy b hb hYb with hx | rfl
  · have e1 := Cn.ed hb hx
    constructor
    · rintro (z | ⟨z, z2⟩ | ⟨z, z2⟩)
      · exact Or.inl (z.tr e1)
      · exact Or.inr (Or.inl ⟨z, z2.tr e1⟩)
      · exact Or.inr (Or.inr ⟨z, z2.tr e1⟩)
    · rintro (z | ⟨z, z2⟩ | ⟨z, z2⟩)
      · exact Or.inl (z.tr e1.sy)
      · exact Or.inr (Or.inl ⟨z, z2.tr e1.sy⟩)
      · exact Or.inr (Or.inr ⟨z, z2.tr e1.sy⟩)
  · constructor
    · rintro (z | ⟨z, z2⟩ | ⟨z, z2⟩)
      · exact Or.inr (Or.inl ⟨z, Cn.rf _⟩)
      · exact Or.inr (Or.inl ⟨z, Cn.rf _⟩)
      · exact Or.inl z
    · rintro (z | ⟨z, z2⟩ | ⟨z, z2⟩)
      · exact Or.inr (Or.inr ⟨z, Cn.rf _⟩)
      · exact Or.inl z
      · exact Or.inr (Or.inr ⟨z, Cn.rf _⟩)
/-- the borders of the tree: those that no lesser ones join -/
def tre (D : LD) (I : Nat → Prop) (K : Nat → Nat) (b : Nat) : Prop := I b ∧ ¬ Cn D (fun c => I c ∧ K c < K b) (dFr D b) (dTo D b)
theorem tre_le {D : LD} {I : Nat → Prop} {K : Nat → Nat} : ∀ n b, b < dB D → K b < n → I b → Cn D (fun c => tre D I K c ∧ K c ≤ K b) (dFr D b) (dTo D b) := by
  intro n
  induction n with
  | zero => intro b _ h; exact absurd h (Nat.not_lt_zero _)
  | succ n ih =>
    intro b hb hn hi
    by_cases ht : tre D I K b
    · exact Cn.ed hb ⟨ht, Nat.le_refl _⟩
    · have hc : Cn D (fun c => I c ∧ K c < K b) (dFr D b) (dTo D b) := Classical.not_not.mp (fun z => ht ⟨hi, z⟩)
      exact hc.ge (fun c hc2 hx => (ih c hc2 (by omega) hx.1).mo (fun a _ ha => ⟨ha.1, by omega⟩))
theorem tre_all {D : LD} {I : Nat → Prop} {K : Nat → Nat} {p q : Nat} : Cn D (tre D I K) p q ↔ Cn D I p q :=
  ⟨fun h => h.mo (fun _ _ hb => hb.1), fun h => h.ge (fun b hb hi => (tre_le (K b + 1) b hb (Nat.lt_succ_self _) hi).mo (fun _ _ ha => ha.1))⟩
theorem tre_below {D : LD} {I : Nat → Prop} {K : Nat → Nat} {n p q : Nat} : Cn D (fun b => tre D I K b ∧ K b < n) p q ↔ Cn D (fun b => I b ∧ K b < n) p q :=
  ⟨fun h => h.mo (fun _ _ hb => ⟨hb.1.1, hb.2⟩), fun h => h.ge (fun b hb hi => (tre_le (K b + 1) b hb (Nat.lt_succ_self _) hi.1).mo (fun _ _ ha => ⟨ha.1, Nat.lt_of_le_of_lt ha.2 hi.2⟩))⟩
theorem tre_cut {D : LD} {I : Nat → Prop} {K : Nat → Nat} (inj : ∀ b c, b < dB D → c < dB D → K b = K c → b = c) : ∀ n b, b < dB D → tre D I K b → K b < n → ¬ Cn D (fun c => tre D I K c ∧ K c < n ∧ c ≠ b) (dFr D b) (dTo D b) := by
  intro n
  induction n with
  | zero => intro b _ _ h; exact absurd h (Nat.not_lt_zero _)
  | succ n ih =>
    intro b hb ht hn hc
    by_cases hm : ∃ m, m < dB D ∧ tre D I K m ∧ K m = n
    · obtain ⟨m, hmB, hmT, hmn⟩ := hm
      by_cases hbm : b = m
      · subst hbm
        refine ht.2 (hc.mo (fun c hcB hx => ⟨hx.1.1, ?_⟩))
        have h1 : ¬ K c = K b := fun z => hx.2.2 (inj c b hcB hb z)
        have h2 := hx.2.1
        omega
      · have hKb : K b < n := by
          have h1 : ¬ K b = K m := fun z => hbm (inj b m hb hmB z)
          omega
        have up : ∀ {p q}, Cn D (fun c => tre D I K c ∧ K c < n ∧ c ≠ b) p q → Cn D (fun c => I c ∧ K c < K m) p q := fun z => z.mo (fun c _ hx => ⟨hx.1.1, by omega⟩)
        have eb : Cn D (fun c => I c ∧ K c < K m) (dFr D b) (dTo D b) := Cn.ed hb ⟨ht.1, by omega⟩
        rcases hc.add (X := fun c => tre D I K c ∧ K c < n ∧ c ≠ b) (e := m) (fun c hcB hx => by
          by_cases z : c = m
          · exact Or.inr z
          · refine Or.inl ⟨hx.1, ?_, hx.2.2⟩
            have h1 : ¬ K c = K m := fun t => z (inj c m hcB hmB t)
            have h2 := hx.2.1
            omega) with z | ⟨z, z2⟩ | ⟨z, z2⟩
        · exact ih b hb ht hKb z
        · exact hmT.2 ((up z).sy.tr (eb.tr (up z2).sy))
        · exact hmT.2 ((up z2).tr (eb.sy.tr (up z)))
    · refine ih b hb ht ?_ (hc.mo (fun c hcB hx => ⟨hx.1, ?_, hx.2.2⟩))
      · have h1 : ¬ K b = n := fun z => hm ⟨b, hb, ht, z⟩
        omega
      · have h1 : ¬ K c = n := fun z => hm ⟨c, hcB, hx.1, z⟩
        have h2 := hx.2.1
        omega
/-- a border of the tree parts its ends -/
theorem tre_parts {D : LD} {I : Nat → Prop} {K : Nat → Nat} (inj : ∀ b c, b < dB D → c < dB D → K b = K c → b = c) {N : Nat} (hN : ∀ b, b < dB D → K b < N) {b : Nat} (hb : b < dB D) (ht : tre D I K b) : ¬ Cn D (fun c => tre D I K c ∧ c ≠ b) (dFr D b) (dTo D b) := fun hc => tre_cut inj N b hb ht (hN b hb) (hc.mo (fun c hcB hx => ⟨hx.1, hN c hcB, hx.2⟩))
