/-! a step: what it comes to -/
noncomputable def nthB (P : Nat → Bool) (n k : Nat) : Nat := Classical.epsilon (fun b => isNth P n k b)
theorem nthB_is {P : Nat → Bool} {n k : Nat} (h : k < fa_cnt P n) : isNth P n k (nthB P n k) := Classical.epsilon_spec (nth_ex h)
theorem nthB_eq {P : Nat → Bool} {n k b : Nat} (h : isNth P n k b) : nthB P n k = b := nth_one (nthB_is (nth_lt h)) h
/-- the border's lesser and greater district; the two melted -/
def xLo (D : LD) (ds : Nat → Nat) (b : Nat) : Nat := if ds (dFr D b) < ds (dTo D b) then ds (dFr D b) else ds (dTo D b)
def xHi (D : LD) (ds : Nat → Nat) (b : Nat) : Nat := if ds (dFr D b) < ds (dTo D b) then ds (dTo D b) else ds (dFr D b)
def mlt (D : LD) (ds : Nat → Nat) (b : Nat) : Nat → Bool := fun j => dP D ds (xLo D ds b) j || dP D ds (xHi D ds b) j
/-- the part with the least place when a border leaves the tree -/
noncomputable def sdB (D : LD) (M : Nat → Bool) (s : Int32) (t : Nat) : Nat → Bool := cnB D (fun c => trP D M s c ∧ c ≠ t) ((fstO M 30).getD 0)
noncomputable def smB (D : LD) (w : LW) (M : Nat → Bool) (s : Int32) (t : Nat) : Bool := @decide (trP D M s t ∧ fitN (wK w) (wT w) (pplN D (sdB D M s t)) (tot D) = true ∧ fitN (wK w) (wT w) (pplN D (fun j => M j && !sdB D M s t j)) (tot D) = true) (Classical.propDecidable _)
theorem smB_iff {D : LD} {w : LW} {M : Nat → Bool} {s : Int32} {t : Nat} : smB D w M s t = true ↔ trP D M s t ∧ fitN (wK w) (wT w) (pplN D (sdB D M s t)) (tot D) = true ∧ fitN (wK w) (wT w) (pplN D (fun j => M j && !sdB D M s t j)) (tot D) = true := by
  unfold smB
  exact @decide_eq_true_iff _ (Classical.propDecidable _)
def dealN (D : LD) (ds : Nat → Nat) (M P : Nat → Bool) (x y : Nat) : Nat → Nat := fun p => if p < dN D then (if P p then x else if M p then y else ds p) else ds p
def difN : Nat → (Nat → Nat) → (Nat → Nat) → Bool
  | 0, _, _ => false
  | n + 1, a, b => difN n a b || decide (a n ≠ b n)
theorem difN_iff {a b : Nat → Nat} : ∀ {n : Nat}, difN n a b = true ↔ ∃ p, p < n ∧ a p ≠ b p
  | 0 => ⟨fun h => absurd h (by simp [difN]), fun ⟨p, hp, _⟩ => absurd hp (Nat.not_lt_zero p)⟩
  | n + 1 => by
    rw [difN, Bool.or_eq_true, difN_iff, decide_eq_true_eq]
    constructor
    · rintro (⟨p, h1, h2⟩ | h)
      · exact ⟨p, by omega, h2⟩
      · exact ⟨n, by omega, h⟩
    · rintro ⟨p, h1, h2⟩
      by_cases c : p = n
      · exact Or.inr (c ▸ h2)
      · exact Or.inl ⟨p, by omega, h2⟩
theorem difN_self (a : Nat → Nat) : ∀ n, difN n a a = false
  | 0 => rfl
  | n + 1 => by rw [difN, difN_self a n]; simp
theorem ls_cnt {tr : Nat → Nat} {m n : Nat} {P : Nat → Prop} (h : lsT tr m n P) {Q : Nat → Bool} (hQ : ∀ b, Q b = true → P b) : ∀ i, i ≤ m → fa_cnt (fun j => Q (tr j)) i = fa_cnt Q (if i < m then tr i else n) := by
  obtain ⟨h1, h2, h3⟩ := h
  have gap : ∀ lo hi : Nat, hi ≤ n → (∀ j, j < m → lo ≤ tr j → hi ≤ tr j) → ∀ b, lo ≤ b → b < hi → Q b = false := by
    intro lo hi hn hg b hb1 hb2
    cases hq : Q b with
    | false => rfl
    | true =>
      obtain ⟨j, hj, e⟩ := h2 b (by omega) (hQ b hq)
      have := hg j hj (by omega)
      omega
  intro i
  induction i with
  | zero =>
    intro _
    refine (cnt_cut (n := 0) (Nat.zero_le _) (gap 0 _ ?_ ?_)).symm
    · split
      · have := (h1 0 (by assumption)).1; omega
      · exact Nat.le_refl _
    · intro j hj _
      rw [if_pos (by omega)]
      rcases Nat.eq_zero_or_pos j with c | c
      · rw [c]; exact Nat.le_refl _
      · have := h3 0 j c hj; omega
  | succ i ih =>
    intro hi
    have hti := h1 i (by omega)
    have ih := ih (by omega)
    rw [if_pos (by omega)] at ih
    have e : fa_cnt Q (if i + 1 < m then tr (i + 1) else n) = fa_cnt Q (tr i + 1) := by
      have hle : (if i + 1 < m then tr (i + 1) else n) ≤ n := by
        split
        · have := (h1 (i + 1) (by assumption)).1; omega
        · exact Nat.le_refl _
      refine cnt_cut ?_ (gap _ _ hle ?_)
      · split
        · have := h3 i (i + 1) (by omega) (by assumption); omega
        · omega
      · intro j hj hlo
        have hij : i < j := by
          rcases Nat.lt_or_ge i j with c | c
          · exact c
          · rcases Nat.eq_or_lt_of_le c with c2 | c2
            · rw [c2] at hlo; omega
            · have := h3 j i c2 (by omega); omega
        rw [if_pos (by omega)]
        rcases Nat.eq_or_lt_of_le (show i + 1 ≤ j from hij) with c2 | c2
        · rw [c2]; exact Nat.le_refl _
        · have := h3 (i + 1) j c2 hj; omega
    rw [e]
    cases hq : Q (tr i) with
    | true => rw [fa_cnt_yes (p := fun j => Q (tr j)) hq, fa_cnt_yes hq, ih]
    | false => rw [fa_cnt_no (p := fun j => Q (tr j)) hq, fa_cnt_no hq, ih]
theorem ls_nth {tr : Nat → Nat} {m n : Nat} {P : Nat → Prop} (h : lsT tr m n P) {Q : Nat → Bool} (hQ : ∀ b, Q b = true → P b) {k i : Nat} (hi : isNth (fun j => Q (tr j)) m k i) : isNth Q n k (tr i) := by
  have h1 := ls_cnt h hQ i (Nat.le_of_lt hi.1)
  rw [if_pos hi.1] at h1
  exact ⟨(h.1 i hi.1).1, hi.2.1, h1 ▸ hi.2.2⟩
theorem ls_one {tr : Nat → Nat} {m n : Nat} {P : Nat → Prop} (h : lsT tr m n P) {i j : Nat} (hi : i < m) (hj : j < m) (e : tr i = tr j) : i = j := by
  rcases Nat.lt_trichotomy i j with c | c | c
  · have := h.2.2 i j c hj; omega
  · exact c
  · have := h.2.2 j i c hi; omega
theorem ls_side {D : LD} {tr : Nat → Nat} {m : Nat} {P : Nat → Prop} (h : lsT tr m (dB D) P) {i : Nat} (hi : i < m) (a : Nat) : cnB D (lsX tr m i) a = cnB D (fun c => P c ∧ c ≠ tr i) a := by
  funext q
  refine cnB_eq ⟨fun z => (cnB_iff.mp z).mo ?_, fun z => cnB_iff.mpr (z.mo ?_)⟩
  · rintro b hb ⟨j, h1, h2, rfl⟩
    exact ⟨(h.1 j h1).2, fun e => h2 (ls_one h h1 hi e)⟩
  · rintro b hb ⟨h1, h2⟩
    obtain ⟨j, hj, rfl⟩ := h.2.1 b hb h1
    exact ⟨j, hj, fun e => h2 (by rw [e]), rfl⟩
