/-! bits: the class's sets hold place j at bit 29 - j -/
def onl (j : Nat) : Int32 := nI (2 ^ (29 - j))
theorem b_onl : ∀ j, j < 30 → ∀ i, i < 32 → bt (onl j) i = decide (i = 29 - j) := by decide +kernel
theorem only_eq : ∀ j, j < 30 → (1 : Int32) <<< ((29 - nI j) &&& 31) = onl j := by decide +kernel
theorem sub29 : ∀ j, j < 30 → (29 : Int32) - nI j = nI (29 - j) := by decide +kernel
theorem b_1 : ∀ i, i < 32 → bt 1 i = decide (i = 0) := by decide +kernel
theorem b_and1 (y : Int32) : y &&& 1 = 0 ↔ bt y 0 = false := by
  constructor
  · intro h
    have h1 : bt (y &&& 1) 0 = false := by rw [h]; exact b_0 0
    rw [b_and, b_1 0 (by decide)] at h1
    simpa using h1
  · intro h
    apply b_ext
    intro i hi
    rw [b_and, b_1 i hi, b_0]
    by_cases h0 : i = 0
    · subst h0; rw [h]; rfl
    · simp [h0]
theorem has_eq (x : Int32) {j : Nat} (hj : j < 30) : ((x.toUInt32 >>> ((29 - nI j).toUInt32 &&& Int32.toUInt32 31)).toInt32 &&& 1 = 0) ↔ bt x (29 - j) = false := by
  rw [b_and1, sub29 j hj, b_ushr (29 - j) (by omega) x 0]
  rfl
theorem b_not (x : Int32) {i : Nat} (hi : i < 32) : bt (x ^^^ (-1)) i = !bt x i := by
  rw [b_xor, b_m1 i hi]
  cases bt x i <;> rfl
/-- the lowest bit -/
theorem low_ex {x : Int32} (h : x ≠ 0) : ∃ k, k < 32 ∧ bt x k = true ∧ ∀ i, i < k → bt x i = false := by
  have h1 : ∃ k, k < 32 ∧ bt x k = true := by
    apply Classical.byContradiction
    intro hn
    apply h
    apply b_ext
    intro i hi
    rw [b_0]
    cases hb : bt x i with
    | false => rfl
    | true => exact absurd ⟨i, hi, hb⟩ hn
  obtain ⟨k, hk, hk2⟩ := pk_least (fun k => k < 32 ∧ bt x k = true) h1
  exact ⟨k, hk.1, hk.2, fun i hi => by
    cases hb : bt x i with
    | false => rfl
    | true => exact absurd ⟨by omega, hb⟩ (hk2 i hi)⟩
theorem bt_nI (n i : Nat) : bt (nI n) i = (decide (i < 32) && n.testBit i) := by
  unfold bt nI
  show (BitVec.ofNat 32 n).getLsbD i = _
  rw [BitVec.getLsbD_ofNat]
theorem nI_ex (x : Int32) : ∃ n, n < 2 ^ 32 ∧ x = nI n := ⟨x.toBitVec.toNat, x.toBitVec.isLt, by
  apply Int32.toBitVec_inj.mp
  show x.toBitVec = BitVec.ofNat 32 x.toBitVec.toNat
  simp⟩
theorem b_sub1 {x : Int32} {k : Nat} (hk : k < 32) (h1 : bt x k = true) (h2 : ∀ i, i < k → bt x i = false) : ∀ i, i < 32 → bt (x - 1) i = if i < k then true else if i = k then false else bt x i := by
  obtain ⟨n, hn, rfl⟩ := nI_ex x
  have t1 : n.testBit k = true := by rw [bt_nI] at h1; simpa [hk] using h1
  have t2 : ∀ i, i < k → n.testBit i = false := fun i hi => by
    have := h2 i hi
    rw [bt_nI] at this
    simpa [show i < 32 by omega] using this
  have hm : n % 2 ^ k = 0 := by
    apply Nat.eq_of_testBit_eq
    intro i
    rw [Nat.testBit_mod_two_pow, Nat.zero_testBit]
    by_cases hi : i < k
    · simp [t2 i hi]
    · simp [hi]
  have hd : n / 2 ^ k % 2 = 1 := by
    have := t1
    rw [Nat.testBit_eq_decide_div_mod_eq] at this
    simpa using this
  have hp : 0 < 2 ^ k := Nat.two_pow_pos k
  have hn1 : n = 2 ^ k * (n / 2 ^ k) := by
    have := Nat.div_add_mod n (2 ^ k)
    omega
  have hpos : 0 < n := by
    rcases Nat.eq_zero_or_pos n with h0 | h0
    · rw [h0] at hd; simp at hd
    · exact h0
  have hs : nI n - 1 = nI (n - 1) := by
    have := nI_pred (n - 1)
    rw [show n - 1 + 1 = n by omega] at this
    exact this
  have key : n - 1 = 2 ^ k * (n / 2 ^ k - 1) + (2 ^ k - 1) := by
    have h3 : 1 ≤ n / 2 ^ k := by
      rcases Nat.eq_zero_or_pos (n / 2 ^ k) with h0 | h0
      · rw [h0] at hd; simp at hd
      · exact h0
    have h4 : 2 ^ k * (n / 2 ^ k - 1) + 2 ^ k = 2 ^ k * (n / 2 ^ k) := by
      rw [← Nat.mul_succ]
      congr 1
      omega
    omega
  intro i hi
  rw [hs, bt_nI, bt_nI, key, Nat.testBit_two_pow_mul_add _ (by omega)]
  simp only [hi, decide_true, Bool.true_and]
  by_cases h5 : i < k
  · rw [if_pos h5, if_pos h5, Nat.testBit_two_pow_sub_one]
    simp [h5]
  · rw [if_neg h5, if_neg h5]
    by_cases h6 : i = k
    · subst h6
      rw [if_pos rfl, Nat.sub_self, Nat.testBit_eq_decide_div_mod_eq]
      simp
      omega
    · rw [if_neg h6]
      conv => rhs; rw [hn1, Nat.testBit_two_pow_mul]
      have h7 : k ≤ i := by omega
      simp only [ge_iff_le, h7, decide_true, Bool.true_and]
      have h8 : i - k = (i - k - 1) + 1 := by omega
      have h9 : (n / 2 ^ k - 1) / 2 = n / 2 ^ k / 2 := by
        generalize n / 2 ^ k = q at hd
        omega
      rw [h8, Nat.testBit_succ, Nat.testBit_succ, h9]
theorem neg_eq (x : Int32) : -x = (x - 1) ^^^ (-1) := by
  apply b_ext
  intro i hi
  rw [b_not _ hi]
  by_cases h0 : x = 0
  · subst h0
    exact (by decide +kernel : ∀ i, i < 32 → bt (-0) i = !bt (0 - 1) i) i hi
  · unfold bt
    have e : (-x).toBitVec = ~~~ (x - 1).toBitVec := by
      have e1 : (-x).toBitVec = -x.toBitVec := rfl
      have e2 : (x - 1).toBitVec = x.toBitVec - 1#32 := rfl
      rw [e1, e2, BitVec.neg_eq_not_add]
      apply BitVec.eq_of_toNat_eq
      simp
      have := x.toBitVec.isLt
      omega
    rw [e, BitVec.getLsbD_not]
    simp [hi]
theorem b_low {x : Int32} {k : Nat} (hk : k < 32) (h1 : bt x k = true) (h2 : ∀ i, i < k → bt x i = false) : x &&& -x = nI (2 ^ k) := by
  apply b_ext
  intro i hi
  rw [b_and, neg_eq, b_not _ hi, b_sub1 hk h1 h2 i hi, bt_nI, Nat.testBit_two_pow]
  simp only [hi, decide_true, Bool.true_and]
  by_cases h3 : i < k
  · rw [if_pos h3, h2 i h3]
    simp
    omega
  · rw [if_neg h3]
    by_cases h4 : i = k
    · subst h4; simp [h1]
    · rw [if_neg h4]
      have : ¬ k = i := by omega
      cases hb : bt x i <;> simp [this]
theorem b_clear {x : Int32} {k : Nat} (hk : k < 32) (h1 : bt x k = true) (h2 : ∀ i, i < k → bt x i = false) {i : Nat} (hi : i < 32) : bt (x &&& (x - 1)) i = (bt x i && !decide (i = k)) := by
  rw [b_and, b_sub1 hk h1 h2 i hi]
  by_cases h3 : i < k
  · rw [if_pos h3, h2 i h3]; rfl
  · rw [if_neg h3]
    by_cases h4 : i = k
    · subst h4; simp
    · simp [h4]
/-- Integer.bitCount, as it is computed -/
def ush (x : Int32) (s : Int32) : Int32 := (x.toUInt32 >>> (s.toUInt32 &&& Int32.toUInt32 31)).toInt32
def bc1 (x : Int32) : Int32 := x - (ush x 1 &&& 1431655765)
def bc2 (x : Int32) : Int32 := (x &&& 858993459) + (ush x 2 &&& 858993459)
def bc3 (x : Int32) : Int32 := (x + ush x 4) &&& 252645135
def bc4 (x : Int32) : Int32 := x + ush x 8
def bc5 (x : Int32) : Int32 := x + ush x 16
def bcI (x : Int32) : Int32 := bc5 (bc4 (bc3 (bc2 (bc1 x)))) &&& 63
theorem bcI_low : ∀ k, k < 32 → bcI (nI (2 ^ k) - 1) = nI k := by decide +kernel
theorem first_eq {p : Nat → Bool} {n j : Nat} (hj : j < n) (h1 : p j = true) (h2 : ∀ i, i < j → p i = false) : fa_first p n = j := by
  rcases Nat.lt_trichotomy (fa_first p n) j with q | q | q
  · have h3 := fa_first_yes p n (by omega)
    rw [h2 _ q] at h3
    cases h3
  · exact q
  · have h3 := fa_first_no p n j q
    rw [h1] at h3
    cases h3
theorem first_none {p : Nat → Bool} {n : Nat} (h : ∀ i, i < n → p i = false) : fa_first p n = n := by
  rcases Nat.lt_or_ge (fa_first p n) n with q | q
  · have h3 := fa_first_yes p n q
    rw [h _ q] at h3
    cases h3
  · have := fa_first_le p n
    omega
theorem first_cong {p q : Nat → Bool} {n : Nat} (h : ∀ i, i < n → p i = q i) : fa_first p n = fa_first q n := by
  rcases Nat.lt_or_ge (fa_first p n) n with c | c
  · exact (first_eq c (by rw [← h _ c]; exact fa_first_yes p n c) (fun i hi => by rw [← h i (by omega)]; exact fa_first_no p n i hi)).symm
  · have hp : fa_first p n = n := by have := fa_first_le p n; omega
    rw [hp]
    exact (first_none (fun i hi => by rw [← h i hi]; exact fa_first_no p n i (by omega))).symm
