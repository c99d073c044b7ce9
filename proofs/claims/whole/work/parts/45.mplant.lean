/-! plant(): the tree, as the model grows it -/
def itS (s : Int32) : Nat → Int32
  | 0 => s
  | n + 1 => nxS (itS s n)
/-- a border inside a set; its number; its key -/
def isIn (D : LD) (M : Nat → Bool) (b : Nat) : Bool := M (dFr D b) && M (dTo D b)
def nmN (D : LD) (M : Nat → Bool) (s : Int32) (b : Nat) : Nat := drN (itS s (fa_cnt (isIn D M) b))
def kyN (D : LD) (M : Nat → Bool) (s : Int32) (b : Nat) : Nat := nmN D M s b * 100 + b
theorem ky_inj {D : LD} (ok : okLD D) {M : Nat → Bool} {s : Int32} (b c : Nat) (hb : b < dB D) (hc : c < dB D) (h : kyN D M s b = kyN D M s c) : b = c := by
  have := ok.2.1
  unfold kyN at h
  omega
theorem ky_lt {D : LD} (ok : okLD D) {M : Nat → Bool} {s : Int32} (b : Nat) (hb : b < dB D) : kyN D M s b < 6553600 := by
  have h1 := ok.2.1
  have h2 : nmN D M s b < 65536 := drN_lt _
  unfold kyN
  omega
abbrev insP (D : LD) (M : Nat → Bool) (b : Nat) : Prop := isIn D M b = true
/-- the tree of a set -/
def trP (D : LD) (M : Nat → Bool) (s : Int32) (b : Nat) : Prop := tre D (insP D M) (kyN D M s) b
/-- a rising list of what is so -/
def lsT (tr : Nat → Nat) (m n : Nat) (P : Nat → Prop) : Prop := (∀ i, i < m → tr i < n ∧ P (tr i)) ∧ (∀ b, b < n → P b → ∃ i, i < m ∧ tr i = b) ∧ ∀ i j, i < j → j < m → tr i < tr j
def insL (tr : Nat → Nat) (k l : Nat) : Nat → Nat := fun j => if j < k then tr j else if j = k then l else tr (j - 1)
theorem lsT_ins {tr : Nat → Nat} {m n k l : Nat} {P : Nat → Prop} (h : lsT tr m n P) (hk : k ≤ m) (hl : l < n) (h1 : ∀ i, i < k → tr i < l) (h2 : ∀ i, k ≤ i → i < m → l < tr i) : lsT (insL tr k l) (m + 1) n (fun b => P b ∨ b = l) := by
  obtain ⟨g1, g2, g3⟩ := h
  refine ⟨fun i hi => ?_, fun b hb hp => ?_, fun i j hij hj => ?_⟩
  · unfold insL
    by_cases c : i < k
    · rw [if_pos c]; exact ⟨(g1 i (by omega)).1, Or.inl (g1 i (by omega)).2⟩
    · rw [if_neg c]
      by_cases c2 : i = k
      · rw [if_pos c2]; exact ⟨hl, Or.inr rfl⟩
      · rw [if_neg c2]; exact ⟨(g1 (i - 1) (by omega)).1, Or.inl (g1 (i - 1) (by omega)).2⟩
  · rcases hp with hp | rfl
    · obtain ⟨i, hi, e⟩ := g2 b hb hp
      by_cases c : i < k
      · exact ⟨i, by omega, by rw [insL, if_pos c]; exact e⟩
      · exact ⟨i + 1, by omega, by rw [insL, if_neg (by omega), if_neg (by omega), Nat.add_sub_cancel]; exact e⟩
    · exact ⟨k, by omega, by rw [insL, if_neg (by omega), if_pos rfl]⟩
  · unfold insL
    by_cases c : i < k
    · rw [if_pos c]
      by_cases c2 : j < k
      · rw [if_pos c2]; exact g3 i j hij (by omega)
      · rw [if_neg c2]
        by_cases c3 : j = k
        · rw [if_pos c3]; exact h1 i c
        · rw [if_neg c3]; exact g3 i (j - 1) (by omega) (by omega)
    · rw [if_neg c, if_neg (by omega : ¬ j < k), if_neg (by omega : ¬ j = k)]
      by_cases c2 : i = k
      · rw [if_pos c2]; exact h2 (j - 1) (by omega) (by omega)
      · rw [if_neg c2]; exact g3 (i - 1) (j - 1) (by omega) (by omega)
theorem lsT_cong {tr : Nat → Nat} {m n : Nat} {P Q : Nat → Prop} (h : lsT tr m n P) (e : ∀ b, b < n → (P b ↔ Q b)) : lsT tr m n Q := ⟨fun i hi => ⟨(h.1 i hi).1, (e _ (h.1 i hi).1).mp (h.1 i hi).2⟩, fun b hb hq => h.2.1 b hb ((e b hb).mpr hq), h.2.2⟩
/-- how far the growing has come: the borders X are done -/
def Kr (D : LD) (M : Nat → Bool) (s : Int32) (X : Nat → Bool) (rt tr : Nat → Nat) (m : Nat) : Prop := (∀ b, b < dB D → X b = true → isIn D M b = true) ∧ (∀ b c, b < dB D → c < dB D → X b = true → isIn D M c = true → X c = false → kyN D M s b < kyN D M s c) ∧ (∀ p, p < dN D → rt p < dN D) ∧ (∀ p, p < dN D → rt (rt p) = rt p) ∧ (∀ p q, p < dN D → q < dN D → (rt p = rt q ↔ Cn D (fun b => X b = true) p q)) ∧ (lsT tr m (dB D) (fun b => X b = true ∧ trP D M s b)) ∧ (fa_cnt (fun p => decide (rt p = p)) (dN D) + m = dN D)
theorem Kr.sub {D : LD} {M : Nat → Bool} {s : Int32} {X : Nat → Bool} {rt tr : Nat → Nat} {m : Nat} (k : Kr D M s X rt tr m) : ∀ b, b < dB D → X b = true → isIn D M b = true := k.1
theorem Kr.low {D : LD} {M : Nat → Bool} {s : Int32} {X : Nat → Bool} {rt tr : Nat → Nat} {m : Nat} (k : Kr D M s X rt tr m) : ∀ b c, b < dB D → c < dB D → X b = true → isIn D M c = true → X c = false → kyN D M s b < kyN D M s c := k.2.1
theorem Kr.rlt {D : LD} {M : Nat → Bool} {s : Int32} {X : Nat → Bool} {rt tr : Nat → Nat} {m : Nat} (k : Kr D M s X rt tr m) : ∀ p, p < dN D → rt p < dN D := k.2.2.1
theorem Kr.rid {D : LD} {M : Nat → Bool} {s : Int32} {X : Nat → Bool} {rt tr : Nat → Nat} {m : Nat} (k : Kr D M s X rt tr m) : ∀ p, p < dN D → rt (rt p) = rt p := k.2.2.2.1
theorem Kr.rcn {D : LD} {M : Nat → Bool} {s : Int32} {X : Nat → Bool} {rt tr : Nat → Nat} {m : Nat} (k : Kr D M s X rt tr m) : ∀ p q, p < dN D → q < dN D → (rt p = rt q ↔ Cn D (fun b => X b = true) p q) := k.2.2.2.2.1
theorem Kr.lst {D : LD} {M : Nat → Bool} {s : Int32} {X : Nat → Bool} {rt tr : Nat → Nat} {m : Nat} (k : Kr D M s X rt tr m) : lsT tr m (dB D) (fun b => X b = true ∧ trP D M s b) := k.2.2.2.2.2.1
theorem Kr.cnt {D : LD} {M : Nat → Bool} {s : Int32} {X : Nat → Bool} {rt tr : Nat → Nat} {m : Nat} (k : Kr D M s X rt tr m) : fa_cnt (fun p => decide (rt p = p)) (dN D) + m = dN D := k.2.2.2.2.2.2
theorem cnt_full (P : Nat → Bool) : ∀ n, (∀ i, i < n → P i = true) → fa_cnt P n = n
  | 0, _ => rfl
  | n + 1, h => by rw [fa_cnt_yes (h n (by omega)), cnt_full P n (fun i hi => h i (by omega))]
theorem Kr.start (D : LD) (M : Nat → Bool) (s : Int32) (tr : Nat → Nat) : Kr D M s (fun _ => false) (fun p => p) tr 0 := by
  refine ⟨fun _ _ h => absurd h Bool.false_ne_true, fun _ _ _ _ h => absurd h Bool.false_ne_true, fun _ h => h, fun _ _ => rfl, fun p q _ _ => ⟨fun h => (show p = q from h) ▸ Cn.rf p, fun h => ?_⟩, ⟨fun i hi => absurd hi (Nat.not_lt_zero i), fun b _ h => absurd h.1 Bool.false_ne_true, fun i j _ hj => absurd hj (Nat.not_lt_zero j)⟩, ?_⟩
  · exact h (fun r => p = r) rfl (fun b _ hb => absurd hb Bool.false_ne_true)
  · rw [cnt_full _ _ (fun i _ => by simp)]
    rfl
/-- the next border: the least one that is not done -/
def isNx (D : LD) (M : Nat → Bool) (s : Int32) (X : Nat → Bool) (l : Nat) : Prop := l < dB D ∧ isIn D M l = true ∧ X l = false ∧ ∀ c, c < dB D → isIn D M c = true → X c = false → kyN D M s l ≤ kyN D M s c
def addX (X : Nat → Bool) (l : Nat) : Nat → Bool := fun b => X b || decide (b = l)
theorem addX_iff {X : Nat → Bool} {l b : Nat} : addX X l b = true ↔ X b = true ∨ b = l := by
  unfold addX
  simp
theorem addX_no {X : Nat → Bool} {l b : Nat} : addX X l b = false ↔ X b = false ∧ b ≠ l := by
  unfold addX
  simp
theorem Kr.tre {D : LD} (ok : okLD D) {M : Nat → Bool} {s : Int32} {X : Nat → Bool} {rt tr : Nat → Nat} {m l : Nat} (k : Kr D M s X rt tr m) (hl : isNx D M s X l) : trP D M s l ↔ rt (dFr D l) ≠ rt (dTo D l) := by
  obtain ⟨h1, h2, h3, h4⟩ := hl
  have hbo := ok.2.2.2.1 l h1
  have hs : ∀ c, c < dB D → ((insP D M c ∧ kyN D M s c < kyN D M s l) ↔ X c = true) := by
    intro c hc
    constructor
    · rintro ⟨z1, z2⟩
      cases hx : X c with
      | true => rfl
      | false => have := h4 c hc z1 hx; omega
    · intro hx
      exact ⟨k.sub c hc hx, k.low c l hc h1 hx h2 h3⟩
  have e : Cn D (fun c => insP D M c ∧ kyN D M s c < kyN D M s l) (dFr D l) (dTo D l) ↔ rt (dFr D l) = rt (dTo D l) := by
    rw [k.rcn _ _ hbo.1 hbo.2.1]
    exact ⟨fun z => z.mo (fun b hb hx => (hs b hb).mp hx), fun z => z.mo (fun b hb hx => (hs b hb).mpr hx)⟩
  show (insP D M l ∧ ¬ Cn D (fun c => insP D M c ∧ kyN D M s c < kyN D M s l) (dFr D l) (dTo D l)) ↔ _
  rw [e]
  exact ⟨fun z => z.2, fun z => ⟨h2, z⟩⟩
theorem Kr.low' {D : LD} (ok : okLD D) {M : Nat → Bool} {s : Int32} {X : Nat → Bool} {rt tr : Nat → Nat} {m l : Nat} (k : Kr D M s X rt tr m) (hl : isNx D M s X l) : ∀ b c, b < dB D → c < dB D → addX X l b = true → isIn D M c = true → addX X l c = false → kyN D M s b < kyN D M s c := by
  intro b c hb hc h1 h2 h3
  obtain ⟨g3, h4⟩ := addX_no.mp h3
  rcases addX_iff.mp h1 with z | rfl
  · exact k.low b c hb hc z h2 g3
  · have h5 := hl.2.2.2 c hc h2 g3
    have h6 : ¬ kyN D M s b = kyN D M s c := fun z => h4 (ky_inj ok b c hb hc z).symm
    omega
theorem Kr.skip {D : LD} (ok : okLD D) {M : Nat → Bool} {s : Int32} {X : Nat → Bool} {rt tr : Nat → Nat} {m l : Nat} (k : Kr D M s X rt tr m) (hl : isNx D M s X l) (he : rt (dFr D l) = rt (dTo D l)) : Kr D M s (addX X l) rt tr m := by
  have hbo := ok.2.2.2.1 l hl.1
  have hnt : ¬ trP D M s l := fun z => (k.tre ok hl).mp z he
  refine ⟨fun b hb h => ?_, k.low' ok hl, k.rlt, k.rid, fun p q hp hq => ?_, lsT_cong k.lst (fun b hb => ?_), k.cnt⟩
  · rcases addX_iff.mp h with z | rfl
    · exact k.sub b hb z
    · exact hl.2.1
  · rw [k.rcn p q hp hq]
    constructor
    · exact fun z => z.mo (fun b _ hx => addX_iff.mpr (Or.inl hx))
    · refine fun z => z.ge (fun b hb hx => ?_)
      rcases addX_iff.mp hx with t | rfl
      · exact Cn.ed hb t
      · exact (k.rcn _ _ hbo.1 hbo.2.1).mp he
  · constructor
    · exact fun z => ⟨addX_iff.mpr (Or.inl z.1), z.2⟩
    · rintro ⟨z, z2⟩
      rcases addX_iff.mp z with t | rfl
      · exact ⟨t, z2⟩
      · exact absurd z2 hnt
/-- the roots when two clumps become one -/
def rtN (rt : Nat → Nat) (a c : Nat) : Nat → Nat := fun p => if rt p = c then a else rt p
theorem Kr.join {D : LD} (ok : okLD D) {M : Nat → Bool} {s : Int32} {X : Nat → Bool} {rt tr : Nat → Nat} {m l k : Nat} (kr : Kr D M s X rt tr m) (hl : isNx D M s X l) (he : rt (dFr D l) ≠ rt (dTo D l)) (hk : k ≤ m) (h1 : ∀ i, i < k → tr i < l) (h2 : ∀ i, k ≤ i → i < m → l < tr i) : Kr D M s (addX X l) (rtN rt (rt (dFr D l)) (rt (dTo D l))) (insL tr k l) (m + 1) := by
  have hbo := ok.2.2.2.1 l hl.1
  have ht : trP D M s l := (kr.tre ok hl).mpr he
  have ha := kr.rlt _ hbo.1
  have hc := kr.rlt _ hbo.2.1
  have ia := kr.rid _ hbo.1
  have ic := kr.rid _ hbo.2.1
  refine ⟨fun b hb h => ?_, kr.low' ok hl, fun p hp => ?_, fun p hp => ?_, fun p q hp hq => ?_, lsT_cong (lsT_ins kr.lst hk hl.1 h1 h2) (fun b hb => ?_), ?_⟩
  · rcases addX_iff.mp h with z | rfl
    · exact kr.sub b hb z
    · exact hl.2.1
  · unfold rtN
    split
    · exact ha
    · exact kr.rlt p hp
  · unfold rtN
    by_cases z : rt p = rt (dTo D l)
    · rw [if_pos z, ia, if_neg he]
    · rw [if_neg z, kr.rid p hp, if_neg z]
  · have up : ∀ {x y}, Cn D (fun b => X b = true) x y → Cn D (fun b => addX X l b = true) x y := fun z => z.mo (fun b _ hx => addX_iff.mpr (Or.inl hx))
    have el : Cn D (fun b => addX X l b = true) (dFr D l) (dTo D l) := Cn.ed hl.1 (addX_iff.mpr (Or.inr rfl))
    have key : Cn D (fun b => addX X l b = true) p q ↔ (rt p = rt q ∨ (rt p = rt (dFr D l) ∧ rt (dTo D l) = rt q) ∨ (rt p = rt (dTo D l) ∧ rt (dFr D l) = rt q)) := by
      rw [kr.rcn p q hp hq, kr.rcn p _ hp hbo.1, kr.rcn _ q hbo.2.1 hq, kr.rcn p _ hp hbo.2.1, kr.rcn _ q hbo.1 hq]
      constructor
      · exact fun z => z.add (fun b _ hx => addX_iff.mp hx)
      · rintro (z | ⟨z, z2⟩ | ⟨z, z2⟩)
        · exact up z
        · exact (up z).tr (el.tr (up z2))
        · exact (up z).tr (el.sy.tr (up z2))
    rw [key]
    unfold rtN
    by_cases z1 : rt p = rt (dTo D l) <;> by_cases z2 : rt q = rt (dTo D l)
    · rw [if_pos z1, if_pos z2]; exact ⟨fun _ => Or.inl (z1.trans z2.symm), fun _ => rfl⟩
    · rw [if_pos z1, if_neg z2]; exact ⟨fun z => Or.inr (Or.inr ⟨z1, z⟩), fun z => by omega⟩
    · rw [if_neg z1, if_pos z2]; exact ⟨fun z => Or.inr (Or.inl ⟨z, z2.symm⟩), fun z => by omega⟩
    · rw [if_neg z1, if_neg z2]; exact ⟨Or.inl, fun z => by omega⟩
  · constructor
    · rintro (z | rfl)
      · exact ⟨addX_iff.mpr (Or.inl z.1), z.2⟩
      · exact ⟨addX_iff.mpr (Or.inr rfl), ht⟩
    · rintro ⟨z, z2⟩
      rcases addX_iff.mp z with t | rfl
      · exact Or.inl ⟨t, z2⟩
      · exact Or.inr rfl
  · have h5 := kr.cnt
    rw [cnt_take (p := fun p => decide (rt p = p)) (j := rt (dTo D l)) (decide_eq_true ic) hc] at h5
    rw [fa_cnt_cong (q := fun i => decide (rt i = i) && !decide (i = rt (dTo D l))) (fun i hi => ?_)]
    · omega
    · unfold rtN
      by_cases z : rt i = rt (dTo D l)
      · rw [if_pos z]
        by_cases z2 : i = rt (dTo D l)
        · simp [z2, he]
        · have z3 : ¬ rt i = i := fun t => z2 (t.symm.trans z)
          have z4 : ¬ rt (dFr D l) = i := fun t => z3 (by rw [← t]; exact ia)
          simp [z2, z3, z4]
      · rw [if_neg z]
        have z2 : ¬ i = rt (dTo D l) := fun t => z (by rw [t]; exact ic)
        simp [z2]
theorem Kr.room {D : LD} (ok : okLD D) {M : Nat → Bool} {s : Int32} {X : Nat → Bool} {rt tr : Nat → Nat} {m l : Nat} (k : Kr D M s X rt tr m) (hl : isNx D M s X l) (he : rt (dFr D l) ≠ rt (dTo D l)) : m < dN D := by
  have hbo := ok.2.2.2.1 l hl.1
  have h5 := k.cnt
  have := cnt_take (p := fun p => decide (rt p = p)) (j := rt (dTo D l)) (decide_eq_true (k.rid _ hbo.2.1)) (k.rlt _ hbo.2.1)
  omega
