/-! the sets of a rest that have its least place, in order -/
theorem cs_ext {x y : Int32} (hx : hi0 x) (hy : hi0 y) (h : ∀ j, j < 30 → cs x j = cs y j) : x = y := by
  rw [cI_of hx, cI_of hy]
  exact cI_cong h
def gr (R : Int32) : Nat → Nat → Int32 → List Int32
  | 0, _, B => [B]
  | m + 1, p, B => (if cs R p then gr R m (p + 1) (B ||| onl p) else []) ++ gr R m (p + 1) B
def dif (R S : Int32) : Int32 := R &&& (S ^^^ -1)
theorem dif_hi {R S : Int32} (h : hi0 R) : hi0 (dif R S) := hi_and h
theorem dif_cs (R S : Int32) (j : Nat) : cs (dif R S) j = (cs R j && !cs S j) := by unfold dif; rw [cs_and, cs_not]
theorem onl_or {B : Int32} {p j : Nat} (hp : p < 30) (hj : j < 30) : cs (B ||| onl p) j = (cs B j || decide (j = p)) := by rw [cs_or, cs_onl hp hj]
theorem gr_mem {R : Int32} : ∀ m p B, p + m ≤ 30 → hi0 B → (∀ j, p ≤ j → j < 30 → cs B j = false) → ∀ S, S ∈ gr R m p B ↔ hi0 S ∧ (∀ j, j < 30 → (j < p ∨ p + m ≤ j) → cs S j = cs B j) ∧ ∀ j, p ≤ j → j < p + m → cs S j = true → cs R j = true
  | 0, p, B, hpm, hB, hB0, S => by
    rw [gr, List.mem_singleton]
    constructor
    · rintro rfl
      exact ⟨hB, fun _ _ _ => rfl, fun j h1 h2 => by omega⟩
    · rintro ⟨h1, h2, -⟩
      exact cs_ext h1 hB (fun j hj => h2 j hj (by omega))
  | m + 1, p, B, hpm, hB, hB0, S => by
    have hp : p < 30 := by omega
    have hB1 : hi0 (B ||| onl p) := hi_or hB (onl_hi hp)
    have hB2 : ∀ j, p + 1 ≤ j → j < 30 → cs (B ||| onl p) j = false := fun j h1 h2 => by rw [onl_or hp h2, hB0 j (by omega) h2, decide_eq_false (by omega)]; rfl
    have i1 := gr_mem (R := R) m (p + 1) (B ||| onl p) (by omega) hB1 hB2 S
    have i2 := gr_mem (R := R) m (p + 1) B (by omega) hB (fun j h1 h2 => hB0 j (by omega) h2) S
    rw [gr, List.mem_append, i2]
    constructor
    · rintro (h | h)
      · by_cases hR : cs R p = true
        · rw [if_pos hR] at h
          obtain ⟨a1, a2, a3⟩ := i1.mp h
          refine ⟨a1, fun j hj hc => ?_, fun j h1 h2 h3 => ?_⟩
          · rw [a2 j hj (by omega), onl_or hp hj, decide_eq_false (by omega), Bool.or_false]
          · rcases Nat.eq_or_lt_of_le h1 with q | q
            · rw [← q]; exact hR
            · exact a3 j (by omega) (by omega) h3
        · rw [if_neg hR] at h; cases h
      · obtain ⟨a1, a2, a3⟩ := h
        refine ⟨a1, fun j hj hc => a2 j hj (by omega), fun j h1 h2 h3 => ?_⟩
        rcases Nat.eq_or_lt_of_le h1 with q | q
        · subst q
          rw [a2 p hp (by omega), hB0 p (by omega) hp] at h3
          cases h3
        · exact a3 j (by omega) (by omega) h3
    · rintro ⟨a1, a2, a3⟩
      cases hS : cs S p with
      | true =>
        refine Or.inl ?_
        rw [if_pos (a3 p (by omega) (by omega) hS)]
        refine i1.mpr ⟨a1, fun j hj hc => ?_, fun j h1 h2 h3 => a3 j (by omega) (by omega) h3⟩
        rw [onl_or hp hj]
        by_cases hjp : j = p
        · subst hjp; rw [hS]; simp
        · rw [decide_eq_false hjp, Bool.or_false]; exact a2 j hj (by omega)
      | false =>
        refine Or.inr ⟨a1, fun j hj hc => ?_, fun j h1 h2 h3 => a3 j (by omega) (by omega) h3⟩
        by_cases hjp : j = p
        · subst hjp; rw [hS, hB0 j (by omega) hj]
        · exact a2 j hj (by omega)
theorem gr_nodup {R : Int32} : ∀ m p B, p + m ≤ 30 → hi0 B → (∀ j, p ≤ j → j < 30 → cs B j = false) → (gr R m p B).Nodup
  | 0, p, B, _, _, _ => by rw [gr]; simp
  | m + 1, p, B, hpm, hB, hB0 => by
    have hp : p < 30 := by omega
    have hB1 : hi0 (B ||| onl p) := hi_or hB (onl_hi hp)
    have hB2 : ∀ j, p + 1 ≤ j → j < 30 → cs (B ||| onl p) j = false := fun j h1 h2 => by rw [onl_or hp h2, hB0 j (by omega) h2, decide_eq_false (by omega)]; rfl
    have i1 := gr_nodup (R := R) m (p + 1) (B ||| onl p) (by omega) hB1 hB2
    have i2 := gr_nodup (R := R) m (p + 1) B (by omega) hB (fun j h1 h2 => hB0 j (by omega) h2)
    rw [gr]
    split
    · refine List.nodup_append.mpr ⟨i1, i2, fun a ha b hb e => ?_⟩
      subst e
      have h1 := ((gr_mem m (p + 1) (B ||| onl p) (by omega) hB1 hB2 a).mp ha).2.1 p hp (by omega)
      have h2 := ((gr_mem m (p + 1) B (by omega) hB (fun j h1 h2 => hB0 j (by omega) h2) a).mp hb).2.1 p hp (by omega)
      rw [h1, onl_or hp hp, hB0 p (by omega) hp] at h2
      simp at h2
    · simpa using i2
def cntR (R : Int32) : Nat → Nat → Nat
  | 0, _ => 0
  | m + 1, p => (if cs R p then 1 else 0) + cntR R m (p + 1)
theorem gr_len (R : Int32) : ∀ m p B, (gr R m p B).length = 2 ^ cntR R m p
  | 0, p, B => rfl
  | m + 1, p, B => by
    rw [gr, List.length_append, gr_len R m (p + 1) B, cntR]
    split
    · rw [gr_len R m (p + 1) _, Nat.add_comm 1, Nat.pow_succ]; omega
    · simp
theorem gr_pos (R : Int32) (m p : Nat) (B : Int32) : 0 < (gr R m p B).length := by rw [gr_len]; exact Nat.two_pow_pos _
theorem gr_last (R : Int32) : ∀ m p B, (gr R m p B)[(gr R m p B).length - 1]? = some B
  | 0, p, B => rfl
  | m + 1, p, B => by
    have h1 := gr_pos R m (p + 1) B
    rw [gr, List.length_append, List.getElem?_append_right (by omega)]
    have h2 := gr_last R m (p + 1) B
    rw [show ∀ a b : Nat, 0 < b → a + b - 1 - a = b - 1 from fun a b h => by omega]
    · exact h2
    · exact h1
theorem gr_head {R : Int32} (hR : hi0 R) : ∀ m p B, p + m ≤ 30 → hi0 B → (∀ j, p ≤ j → j < 30 → cs B j = false) → ∃ H, (gr R m p B)[0]? = some H ∧ hi0 H ∧ ∀ j, j < 30 → cs H j = if p ≤ j ∧ j < p + m then cs R j else cs B j
  | 0, p, B, _, hB, _ => ⟨B, rfl, hB, fun j hj => by rw [if_neg (by omega)]⟩
  | m + 1, p, B, hpm, hB, hB0 => by
    have hp : p < 30 := by omega
    have hB1 : hi0 (B ||| onl p) := hi_or hB (onl_hi hp)
    have hB2 : ∀ j, p + 1 ≤ j → j < 30 → cs (B ||| onl p) j = false := fun j h1 h2 => by rw [onl_or hp h2, hB0 j (by omega) h2, decide_eq_false (by omega)]; rfl
    by_cases hRp : cs R p = true
    · obtain ⟨H, e1, e2, e3⟩ := gr_head hR m (p + 1) (B ||| onl p) (by omega) hB1 hB2
      refine ⟨H, ?_, e2, fun j hj => ?_⟩
      · rw [gr, if_pos hRp, List.getElem?_append_left (gr_pos _ _ _ _)]; exact e1
      · rw [e3 j hj, onl_or hp hj]
        by_cases hjp : j = p
        · subst hjp; rw [if_neg (by omega), if_pos (by omega), hRp]; simp
        · rw [decide_eq_false hjp, Bool.or_false]
          by_cases hc : p + 1 ≤ j ∧ j < p + 1 + m
          · rw [if_pos hc, if_pos (by omega)]
          · rw [if_neg hc, if_neg (by omega)]
    · obtain ⟨H, e1, e2, e3⟩ := gr_head hR m (p + 1) B (by omega) hB (fun j h1 h2 => hB0 j (by omega) h2)
      refine ⟨H, ?_, e2, fun j hj => ?_⟩
      · rw [gr, if_neg hRp]; exact e1
      · rw [e3 j hj]
        by_cases hjp : j = p
        · subst hjp
          rw [if_neg (by omega), if_pos (by omega), hB0 j (by omega) hj]
          cases hc : cs R j with
          | false => rfl
          | true => exact absurd hc hRp
        · by_cases hc : p + 1 ≤ j ∧ j < p + 1 + m
          · rw [if_pos hc, if_pos (by omega)]
          · rw [if_neg hc, if_neg (by omega)]
theorem gr_chain {R : Int32} (hR : hi0 R) : ∀ m p B, p + m ≤ 30 → hi0 B → (∀ j, p ≤ j → j < 30 → cs B j = false) → (∀ j, j < p → cs B j = true → cs R j = true) → (∀ j, p + m ≤ j → j < 30 → cs R j = false) → ∀ i x y, (gr R m p B)[i]? = some x → (gr R m p B)[i + 1]? = some y → y = (x - 1) &&& R
  | 0, p, B, _, _, _, _, _, i, x, y, h1, h2 => by rw [gr] at h2; simp at h2
  | m + 1, p, B, hpm, hB, hB0, hBR, hR0, i, x, y, h1, h2 => by
    have hp : p < 30 := by omega
    have hB1 : hi0 (B ||| onl p) := hi_or hB (onl_hi hp)
    have hB2 : ∀ j, p + 1 ≤ j → j < 30 → cs (B ||| onl p) j = false := fun j h1 h2 => by rw [onl_or hp h2, hB0 j (by omega) h2, decide_eq_false (by omega)]; rfl
    have hB3 : ∀ j, p + 1 ≤ j → j < 30 → cs B j = false := fun j h1 h2 => hB0 j (by omega) h2
    have hBR' : ∀ j, j < p + 1 → cs B j = true → cs R j = true := fun j h1 h2 => by
      rcases Nat.lt_or_ge j p with q | q
      · exact hBR j q h2
      · rw [hB0 j q (by omega)] at h2; cases h2
    have i2 := gr_chain hR m (p + 1) B (by omega) hB hB3 hBR' (fun j h1 h2 => hR0 j (by omega) h2)
    by_cases hRp : cs R p = true
    · have i1 := gr_chain hR m (p + 1) (B ||| onl p) (by omega) hB1 hB2 (fun j h1 h2 => by
        rw [onl_or hp (by omega)] at h2
        by_cases hjp : j = p
        · rw [hjp]; exact hRp
        · rw [decide_eq_false hjp, Bool.or_false] at h2; exact hBR' j h1 h2) (fun j h1 h2 => hR0 j (by omega) h2)
      rw [gr, if_pos hRp] at h1 h2
      have hl := gr_last R m (p + 1) (B ||| onl p)
      have hpos := gr_pos R m (p + 1) (B ||| onl p)
      obtain ⟨H, g1, g2, g3⟩ := gr_head hR m (p + 1) B (by omega) hB hB3
      generalize gr R m (p + 1) (B ||| onl p) = A at *
      rcases Nat.lt_trichotomy (i + 1) A.length with q | q | q
      · rw [List.getElem?_append_left (by omega)] at h1 h2
        exact i1 i x y h1 h2
      · rw [List.getElem?_append_left (by omega)] at h1
        rw [List.getElem?_append_right (by omega), show i + 1 - A.length = 0 by omega, g1] at h2
        rw [show A.length - 1 = i by omega, h1] at hl
        have ex : x = B ||| onl p := Option.some.inj hl
        have ey : H = y := Option.some.inj h2
        rw [← ey, ex]
        have hb1 : bt (B ||| onl p) (29 - p) = true := by
          have := onl_or (B := B) hp hp
          unfold cs at this
          rw [this]; simp
        have hb2 : ∀ k, k < 29 - p → bt (B ||| onl p) k = false := fun k hk => by
          have := hB2 (29 - k) (by omega) (by omega)
          unfold cs at this
          rw [show 29 - (29 - k) = k by omega] at this
          exact this
        refine cs_ext g2 (hi_and' hR) (fun j hj => ?_)
        rw [g3 j hj, cs_and]
        have hs := b_sub1 (x := B ||| onl p) (k := 29 - p) (by omega) hb1 hb2 (29 - j) (by omega)
        have hs' : cs ((B ||| onl p) - 1) j = if 29 - j < 29 - p then true else if 29 - j = 29 - p then false else bt (B ||| onl p) (29 - j) := hs
        rw [hs']
        rcases Nat.lt_trichotomy j p with z | z | z
        · rw [if_neg (by omega), if_neg (by omega), if_neg (by omega)]
          have e : bt (B ||| onl p) (29 - j) = cs B j := by
            have := onl_or (B := B) hp hj
            unfold cs at this ⊢
            rw [this, decide_eq_false (by omega), Bool.or_false]
          rw [e]
          cases hb : cs B j with
          | false => rfl
          | true => rw [hBR j z hb]; rfl
        · subst z
          rw [if_neg (by omega), if_neg (by omega), if_pos rfl, hB0 j (by omega) hj]
          rfl
        · by_cases hc : p + 1 ≤ j ∧ j < p + 1 + m
          · rw [if_pos hc, if_pos (by omega)]; simp
          · rw [if_neg hc, if_pos (by omega), hB0 j (by omega) hj, hR0 j (by omega) hj]; rfl
      · rw [List.getElem?_append_right (by omega)] at h1 h2
        rw [show i + 1 - A.length = (i - A.length) + 1 by omega] at h2
        exact i2 _ x y h1 h2
    · rw [gr, if_neg hRp, List.nil_append] at h1 h2
      exact i2 i x y h1 h2
/-! the sets of a rest -/
def subs (n : Nat) (R : Int32) : List Int32 := match fstO (cs R) 30 with
  | none => []
  | some a => gr R (n - (a + 1)) (a + 1) (onl a)
/-- a set of places below n -/
def inS (n : Nat) (R : Int32) : Prop := hi0 R ∧ ∀ j, j < 30 → cs R j = true → j < n
theorem inS.no {n : Nat} {R : Int32} (h : inS n R) {j : Nat} (hj : j < 30) (hn : n ≤ j) : cs R j = false := by
  cases hb : cs R j with
  | false => rfl
  | true => have := h.2 j hj hb; omega
theorem inS.dif {n : Nat} {R S : Int32} (h : inS n R) : inS n (dif R S) := ⟨dif_hi h.1, fun j hj hb => by
  rw [dif_cs] at hb
  simp at hb
  exact h.2 j hj hb.1⟩
theorem cs_ne0 {R : Int32} (h : hi0 R) (h0 : R ≠ 0) : ∃ a, fstO (cs R) 30 = some a := by
  cases hf : fstO (cs R) 30 with
  | some a => exact ⟨a, rfl⟩
  | none =>
    refine absurd (cs_ext h (fun i _ => b_0 i) (fun j hj => ?_)) h0
    rw [fstO_none_iff.mp hf j hj, cs_0]
theorem fst_0 : fstO (cs 0) 30 = none := fstO_none (fun j _ => cs_0 j)
theorem subs_eq {n a : Nat} {R : Int32} (ha : fstO (cs R) 30 = some a) : subs n R = gr R (n - (a + 1)) (a + 1) (onl a) := by
  unfold subs
  rw [ha]
theorem subs_0 (n : Nat) : subs n 0 = [] := by
  unfold subs
  rw [fst_0]
theorem onl_cs0 {a : Nat} (ha : a < 30) : ∀ j, a + 1 ≤ j → j < 30 → cs (onl a) j = false := fun j h1 h2 => by
  rw [cs_onl ha h2]
  exact decide_eq_false (by omega)
theorem subs_mem {n a : Nat} {R : Int32} (hn : n ≤ 30) (hR : inS n R) (ha : fstO (cs R) 30 = some a) (S : Int32) : S ∈ subs n R ↔ hi0 S ∧ cs S a = true ∧ ∀ j, j < 30 → cs S j = true → cs R j = true := by
  obtain ⟨h1, h2, h3⟩ := fstO_lt ha
  have han := hR.2 a h1 h2
  rw [subs_eq ha, gr_mem _ _ _ (by omega) (onl_hi h1) (onl_cs0 h1)]
  constructor
  · rintro ⟨b1, b2, b3⟩
    have hSa : cs S a = true := by rw [b2 a h1 (by omega), cs_onl h1 h1]; simp
    refine ⟨b1, hSa, fun j hj hb => ?_⟩
    rcases Nat.lt_trichotomy j a with q | q | q
    · rw [b2 j hj (by omega), cs_onl h1 hj, decide_eq_false (by omega)] at hb; cases hb
    · rw [q]; exact h2
    · rcases Nat.lt_or_ge j n with z | z
      · exact b3 j (by omega) (by omega) hb
      · rw [b2 j hj (by omega), cs_onl h1 hj, decide_eq_false (by omega)] at hb; cases hb
  · rintro ⟨b1, b2, b3⟩
    refine ⟨b1, fun j hj hc => ?_, fun j c1 c2 hb => b3 j (by omega) hb⟩
    rw [cs_onl h1 hj]
    by_cases hja : j = a
    · subst hja; rw [b2]; simp
    · rw [decide_eq_false hja]
      cases hb : cs S j with
      | false => rfl
      | true =>
        have hr := b3 j hj hb
        rcases hc with q | q
        · rw [h3 j (by omega)] at hr; cases hr
        · have := hR.2 j hj hr; omega
theorem subs_nodup {n : Nat} {R : Int32} (hn : n ≤ 30) (hR : inS n R) : (subs n R).Nodup := by
  unfold subs
  split
  · exact List.nodup_nil
  · rename_i a ha
    obtain ⟨h1, h2, h3⟩ := fstO_lt ha
    have han := hR.2 a h1 h2
    exact gr_nodup _ _ _ (by omega) (onl_hi h1) (onl_cs0 h1)
theorem subs_head {n a : Nat} {R : Int32} (hn : n ≤ 30) (hR : inS n R) (ha : fstO (cs R) 30 = some a) : (subs n R)[0]? = some R := by
  obtain ⟨h1, h2, h3⟩ := fstO_lt ha
  have han := hR.2 a h1 h2
  obtain ⟨H, e1, e2, e3⟩ := gr_head hR.1 (n - (a + 1)) (a + 1) (onl a) (by omega) (onl_hi h1) (onl_cs0 h1)
  rw [subs_eq ha, e1]
  refine congrArg some (cs_ext e2 hR.1 (fun j hj => ?_))
  rw [e3 j hj]
  by_cases hc : a + 1 ≤ j ∧ j < a + 1 + (n - (a + 1))
  · rw [if_pos hc]
  · rw [if_neg hc, cs_onl h1 hj]
    by_cases hja : j = a
    · subst hja; rw [h2]; simp
    · rw [decide_eq_false hja]
      rcases Nat.lt_or_ge j a with q | q
      · exact (h3 j q).symm
      · exact (hR.no hj (by omega)).symm
theorem subs_chain {n a : Nat} {R : Int32} (hn : n ≤ 30) (hR : inS n R) (ha : fstO (cs R) 30 = some a) (i : Nat) (x y : Int32) (hx : (subs n R)[i]? = some x) (hy : (subs n R)[i + 1]? = some y) : y = (x - 1) &&& R := by
  obtain ⟨h1, h2, h3⟩ := fstO_lt ha
  have han := hR.2 a h1 h2
  rw [subs_eq ha] at hx hy
  refine gr_chain hR.1 _ _ _ (by omega) (onl_hi h1) (onl_cs0 h1) (fun j c1 c2 => ?_) (fun j c1 c2 => hR.no c2 (by omega)) i x y hx hy
  rw [cs_onl h1 (by omega)] at c2
  have : j = a := by simpa using c2
  rw [this]; exact h2
theorem subs_len {n a : Nat} {R : Int32} (ha : fstO (cs R) 30 = some a) : (subs n R).length = 2 ^ cntR R (n - (a + 1)) (a + 1) := by
  rw [subs_eq ha, gr_len]
