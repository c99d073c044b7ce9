/-! three numbers in a long -/
def lwB3 (g : Nat) : Int32 := nI (21 * g)
theorem sh_r : ∀ g, g < 3 → (((lwB3 g).toInt64.toUInt64 &&& Int64.toUInt64 63).toBitVec % 64).toNat = 21 * g := by decide +kernel
theorem sh_l : ∀ g, g < 3 → (((lwB3 g).toInt64 &&& 63).toBitVec.smod 64).toNat = 21 * g := by decide +kernel
theorem ent_eq (X : Int64) {g : Nat} (hg : g < 3) : ((X.toUInt64 >>> ((lwB3 g).toInt64.toUInt64 &&& Int64.toUInt64 63)).toInt64).toInt32 &&& 2097151 = nI (X.toBitVec.toNat / 2 ^ (21 * g) % 2 ^ 21) := by
  apply b_ext
  intro i hi
  rw [b_and, show (2097151 : Int32) = nI (2 ^ 21 - 1) from rfl, bt_nI, bt_nI, Nat.testBit_two_pow_sub_one, Nat.testBit_mod_two_pow, Nat.testBit_div_two_pow, decide_eq_true hi]
  have e : bt ((X.toUInt64 >>> ((lwB3 g).toInt64.toUInt64 &&& Int64.toUInt64 63)).toInt64).toInt32 i = X.toBitVec.toNat.testBit (i + 21 * g) := by
    unfold bt
    show (((X.toUInt64 >>> ((lwB3 g).toInt64.toUInt64 &&& Int64.toUInt64 63)).toBitVec).signExtend 32).getLsbD i = _
    rw [UInt64.toBitVec_shiftRight, BitVec.signExtend_eq_setWidth_of_le _ (by omega), BitVec.getLsbD_setWidth, BitVec.ushiftRight_eq', BitVec.getLsbD_ushiftRight, sh_r g hg, decide_eq_true hi, Bool.true_and, Nat.add_comm]
    rfl
  rw [e]
  cases decide (i < 21) <;> simp
def orJ (X : Int64) (e g : Nat) : Int64 := X ||| ((nI e).toInt64 <<< ((lwB3 g).toInt64 &&& 63))
theorem ent_or (X : Int64) {e g g' : Nat} (he : e < 2 ^ 21) (hg : g < 3) (hg' : g' < 3) (h0 : X.toBitVec.toNat / 2 ^ (21 * g) % 2 ^ 21 = 0) : (orJ X e g).toBitVec.toNat / 2 ^ (21 * g') % 2 ^ 21 = if g' = g then e else X.toBitVec.toNat / 2 ^ (21 * g') % 2 ^ 21 := by
  have hb : ∀ j, j < 64 → (orJ X e g).toBitVec.toNat.testBit j = (X.toBitVec.toNat.testBit j || (decide (21 * g ≤ j) && e.testBit (j - 21 * g))) := by
    intro j hj
    show ((X.toBitVec ||| ((nI e).toInt64.toBitVec <<< (((lwB3 g).toInt64 &&& 63).toBitVec.smod 64)))).getLsbD j = _
    rw [BitVec.getLsbD_or, BitVec.shiftLeft_eq', BitVec.getLsbD_shiftLeft, sh_l g hg, decide_eq_true hj, Bool.true_and]
    have e1 : (nI e).toInt64.toBitVec.getLsbD (j - 21 * g) = e.testBit (j - 21 * g) := by
      show ((BitVec.ofNat 32 e).signExtend 64).getLsbD (j - 21 * g) = _
      have hm : (BitVec.ofNat 32 e).msb = false := by
        rw [BitVec.msb_eq_getLsbD_last, BitVec.getLsbD_ofNat, Nat.testBit_lt_two_pow (Nat.lt_of_lt_of_le he (Nat.pow_le_pow_right (by omega) (by omega)))]
        simp
      rw [BitVec.signExtend_eq_setWidth_of_msb_false hm, BitVec.getLsbD_setWidth, BitVec.getLsbD_ofNat]
      by_cases c : j - 21 * g < 21
      · rw [decide_eq_true (by omega), decide_eq_true (by omega)]; rfl
      · rw [Nat.testBit_lt_two_pow (Nat.lt_of_lt_of_le he (Nat.pow_le_pow_right (by omega) (by omega)))]; simp
    rw [e1]
    have e2 : (!decide (j < 21 * g)) = decide (21 * g ≤ j) := by
      by_cases c : j < 21 * g
      · rw [decide_eq_true c, decide_eq_false (by omega)]; rfl
      · rw [decide_eq_false c, decide_eq_true (by omega)]; rfl
    rw [e2]
    rfl
  apply Nat.eq_of_testBit_eq
  intro i
  rw [Nat.testBit_mod_two_pow, Nat.testBit_div_two_pow]
  by_cases hi : i < 21
  · rw [decide_eq_true hi, Bool.true_and, hb _ (by omega)]
    by_cases c : g' = g
    · subst c
      rw [if_pos rfl, decide_eq_true (by omega), Bool.true_and, show i + 21 * g' - 21 * g' = i by omega]
      have hz : (X.toBitVec.toNat / 2 ^ (21 * g') % 2 ^ 21).testBit i = false := by rw [h0, Nat.zero_testBit]
      rw [Nat.testBit_mod_two_pow, Nat.testBit_div_two_pow, decide_eq_true hi, Bool.true_and] at hz
      rw [hz, Bool.false_or]
    · rw [if_neg c, Nat.testBit_mod_two_pow, Nat.testBit_div_two_pow, decide_eq_true hi, Bool.true_and]
      have : (decide (21 * g ≤ i + 21 * g') && e.testBit (i + 21 * g' - 21 * g)) = false := by
        by_cases c2 : g < g'
        · rw [Nat.testBit_lt_two_pow (Nat.lt_of_lt_of_le he (Nat.pow_le_pow_right (by omega) (by omega)))]; simp
        · rw [decide_eq_false (by omega)]; rfl
      rw [this, Bool.or_false]
  · rw [decide_eq_false hi, Bool.false_and]
    symm
    by_cases c : g' = g
    · rw [if_pos c]
      exact Nat.testBit_lt_two_pow (Nat.lt_of_lt_of_le he (Nat.pow_le_pow_right (by omega) (by omega)))
    · rw [if_neg c, Nat.testBit_mod_two_pow, decide_eq_false hi]; rfl
theorem ent_lt (h : Hp) (s g : Nat) : ent h s g < 2 ^ 21 := Nat.mod_lt _ (Nat.two_pow_pos _)
/-- what is kept of one rest lies apart from what is kept of another -/
theorem slN_hi {n m : Nat} (hn : n ≤ 30) (hm : m ≤ n) {R : Int32} (hR : inS n R) (h : ∀ p, p < m → p < 30 → cs R p = false) : slN n R < 2 ^ (n - m) := by
  obtain ⟨x, hx, rfl⟩ := inS_nI hn hR
  rw [(nI_slot hn hx).2]
  apply Nat.lt_pow_two_of_testBit
  intro i hi
  rcases Nat.lt_or_ge i n with z | z
  · have h1 := h (n - 1 - i) (by omega) (by omega)
    unfold cs at h1
    rw [bt_nI, decide_eq_true (by omega), Bool.true_and, Nat.mul_comm, Nat.testBit_two_pow_mul, decide_eq_true (by omega), Bool.true_and, show 29 - (n - 1 - i) - (30 - n) = i by omega] at h1
    exact h1
  · exact Nat.testBit_lt_two_pow (Nat.lt_of_lt_of_le hx (Nat.pow_le_pow_right (by omega) z))
theorem okT_lt {D : LD} {w : LW} (hN : dN D ≤ 30) {l b : Nat} {R : Int32} (h : okT D w l R b) (h0 : R ≠ 0) : wK w - l < dN D := by
  obtain ⟨a, ha⟩ := cs_ne0 h.2.2.1.1 h0
  obtain ⟨a1, a2, a3⟩ := fstO_lt ha
  have h1 := h.2.2.1.2 a a1 a2
  rcases Nat.lt_or_ge (wK w - l) (dN D) with z | z
  · exact z
  · rw [h.2.2.2.1 a (by omega) a1] at a2; cases a2
theorem tSl_lt {D : LD} {w : LW} (hN : dN D ≤ 12) {l b : Nat} {R : Int32} (h : okT D w l R b) (h0 : R ≠ 0) (hl : l < wK w) : slN (dN D) R < 2 ^ (dN D - (wK w - l)) ∧ 2 ^ (dN D - (wK w - l)) + slN (dN D) R < 2 ^ dN D ∧ tSl (dN D) (wK w) l R b < 8192 := by
  have h1 := okT_lt (by omega) h h0
  have h2 := slN_hi (by omega) (by omega) h.2.2.1 (m := wK w - l) h.2.2.2.1
  have h3 : 2 * 2 ^ (dN D - (wK w - l)) ≤ 2 ^ dN D := by
    rw [show 2 * 2 ^ (dN D - (wK w - l)) = 2 ^ (dN D - (wK w - l) + 1) by rw [Nat.pow_succ]; omega]
    exact Nat.pow_le_pow_right (by omega) (by omega)
  have h4 : 2 ^ dN D ≤ 2 ^ 12 := Nat.pow_le_pow_right (by omega) hN
  have h5 := bdg_le (w := w) hN
  have h6 := h.2.2.2.2
  refine ⟨h2, by omega, ?_⟩
  unfold tSl
  have h7 : b / 3 ≤ 1 := by omega
  have h8 : b / 3 * 2 ^ dN D ≤ 1 * 2 ^ dN D := Nat.mul_le_mul_right _ h7
  have h9 : (2 : Nat) ^ 12 = 4096 := by decide
  omega
theorem tSl_inj {D : LD} {w : LW} (hN : dN D ≤ 12) {l b l' b' : Nat} {R R' : Int32} (h : okT D w l R b) (h0 : R ≠ 0) (hl : l < wK w) (h' : okT D w l' R' b') (h0' : R' ≠ 0) (hl' : l' < wK w) (e : tSl (dN D) (wK w) l R b = tSl (dN D) (wK w) l' R' b') (eg : b % 3 = b' % 3) : l = l' ∧ R = R' ∧ b = b' := by
  obtain ⟨a1, a2, a3⟩ := tSl_lt hN h h0 hl
  obtain ⟨c1, c2, c3⟩ := tSl_lt hN h' h0' hl'
  have k1 := okT_lt (by omega) h h0
  have k2 := okT_lt (by omega) h' h0'
  unfold tSl at e
  have ed : b / 3 = b' / 3 := by
    have e1 : (b / 3 * 2 ^ dN D + (2 ^ (dN D - (wK w - l)) + slN (dN D) R)) / 2 ^ dN D = b / 3 := by
      rw [Nat.mul_comm, Nat.mul_add_div (Nat.two_pow_pos _), Nat.div_eq_of_lt a2, Nat.add_zero]
    have e2 : (b' / 3 * 2 ^ dN D + (2 ^ (dN D - (wK w - l')) + slN (dN D) R')) / 2 ^ dN D = b' / 3 := by
      rw [Nat.mul_comm, Nat.mul_add_div (Nat.two_pow_pos _), Nat.div_eq_of_lt c2, Nat.add_zero]
    rw [← e1, ← e2, ← Nat.add_assoc, ← Nat.add_assoc, e]
  have eb : b = b' := by omega
  rw [ed] at e
  have er : 2 ^ (dN D - (wK w - l)) + slN (dN D) R = 2 ^ (dN D - (wK w - l')) + slN (dN D) R' := by omega
  have ej : dN D - (wK w - l) = dN D - (wK w - l') := by
    rcases Nat.lt_trichotomy (dN D - (wK w - l)) (dN D - (wK w - l')) with z | z | z
    · have : 2 * 2 ^ (dN D - (wK w - l)) ≤ 2 ^ (dN D - (wK w - l')) := by
        rw [show 2 * 2 ^ (dN D - (wK w - l)) = 2 ^ (dN D - (wK w - l) + 1) by rw [Nat.pow_succ]; omega]
        exact Nat.pow_le_pow_right (by omega) (by omega)
      omega
    · exact z
    · have : 2 * 2 ^ (dN D - (wK w - l')) ≤ 2 ^ (dN D - (wK w - l)) := by
        rw [show 2 * 2 ^ (dN D - (wK w - l')) = 2 ^ (dN D - (wK w - l') + 1) by rw [Nat.pow_succ]; omega]
        exact Nat.pow_le_pow_right (by omega) (by omega)
      omega
  have el : l = l' := by omega
  subst el
  refine ⟨rfl, ?_, eb⟩
  have es : slN (dN D) R = slN (dN D) R' := by omega
  rw [(slN_lt (by omega) h.2.2.1).2, (slN_lt (by omega) h'.2.2.1).2, es]
theorem or_bit (X : Int64) {e g : Nat} (he : e < 2 ^ 21) (hg : g < 3) (j : Nat) (hj : j < 64) : (orJ X e g).toBitVec.toNat.testBit j = (X.toBitVec.toNat.testBit j || (decide (21 * g ≤ j) && e.testBit (j - 21 * g))) := by
  show ((X.toBitVec ||| ((nI e).toInt64.toBitVec <<< (((lwB3 g).toInt64 &&& 63).toBitVec.smod 64)))).getLsbD j = _
  rw [BitVec.getLsbD_or, BitVec.shiftLeft_eq', BitVec.getLsbD_shiftLeft, sh_l g hg, decide_eq_true hj, Bool.true_and]
  have e1 : (nI e).toInt64.toBitVec.getLsbD (j - 21 * g) = e.testBit (j - 21 * g) := by
    show ((BitVec.ofNat 32 e).signExtend 64).getLsbD (j - 21 * g) = _
    have hm : (BitVec.ofNat 32 e).msb = false := by
      rw [BitVec.msb_eq_getLsbD_last, BitVec.getLsbD_ofNat, Nat.testBit_lt_two_pow (Nat.lt_of_lt_of_le he (Nat.pow_le_pow_right (by omega) (by omega)))]
      simp
    rw [BitVec.signExtend_eq_setWidth_of_msb_false hm, BitVec.getLsbD_setWidth, BitVec.getLsbD_ofNat]
    by_cases c : j - 21 * g < 21
    · rw [decide_eq_true (by omega), decide_eq_true (by omega)]; rfl
    · rw [Nat.testBit_lt_two_pow (Nat.lt_of_lt_of_le he (Nat.pow_le_pow_right (by omega) (by omega)))]; simp
  rw [e1]
  have e2 : (!decide (j < 21 * g)) = decide (21 * g ≤ j) := by
    by_cases c : j < 21 * g
    · rw [decide_eq_true c, decide_eq_false (by omega)]; rfl
    · rw [decide_eq_false c, decide_eq_true (by omega)]; rfl
  rw [e2]
  rfl
theorem ent_or3 (X : Int64) {e g g' : Nat} (he : e < 2 ^ 21) (hg : g < 3) (hg' : g' < 3) (c : g' ≠ g) : (orJ X e g).toBitVec.toNat / 2 ^ (21 * g') % 2 ^ 21 = X.toBitVec.toNat / 2 ^ (21 * g') % 2 ^ 21 := by
  apply Nat.eq_of_testBit_eq
  intro i
  rw [Nat.testBit_mod_two_pow, Nat.testBit_div_two_pow, Nat.testBit_mod_two_pow, Nat.testBit_div_two_pow]
  by_cases hi : i < 21
  · rw [decide_eq_true hi, Bool.true_and, Bool.true_and, or_bit X he hg _ (by omega)]
    have : (decide (21 * g ≤ i + 21 * g') && e.testBit (i + 21 * g' - 21 * g)) = false := by
      by_cases c2 : g < g'
      · rw [Nat.testBit_lt_two_pow (Nat.lt_of_lt_of_le he (Nat.pow_le_pow_right (by omega) (by omega)))]; simp
      · rw [decide_eq_false (by omega)]; rfl
    rw [this, Bool.or_false]
  · rw [decide_eq_false hi, Bool.false_and, Bool.false_and]
theorem ent_or2 (X : Int64) {e g : Nat} (he : e < 2 ^ 21) (hg : g < 3) (h0 : X.toBitVec.toNat / 2 ^ (21 * g) % 2 ^ 21 = e) : (orJ X e g).toBitVec.toNat / 2 ^ (21 * g) % 2 ^ 21 = e := by
  apply Nat.eq_of_testBit_eq
  intro i
  rw [Nat.testBit_mod_two_pow, Nat.testBit_div_two_pow]
  have h1 : e.testBit i = (decide (i < 21) && X.toBitVec.toNat.testBit (i + 21 * g)) := by
    conv => lhs; rw [← h0, Nat.testBit_mod_two_pow, Nat.testBit_div_two_pow]
  by_cases hi : i < 21
  · rw [decide_eq_true hi, Bool.true_and] at h1
    rw [decide_eq_true hi, Bool.true_and, or_bit X he hg _ (by omega), decide_eq_true (by omega), Bool.true_and, show i + 21 * g - 21 * g = i by omega, ← h1, Bool.or_self]
  · rw [decide_eq_false hi, Bool.false_and, h1, decide_eq_false hi, Bool.false_and]
