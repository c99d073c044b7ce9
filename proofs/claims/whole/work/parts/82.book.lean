/-! the class's book: sets as slots -/
theorem inS_nI {n : Nat} (hn : n ≤ 30) {S : Int32} (h : inS n S) : ∃ x, x < 2 ^ n ∧ S = nI (x * 2 ^ (30 - n)) := by
  obtain ⟨N, hN, rfl⟩ := nI_ex S
  have hbits : ∀ i, i < 32 → N.testBit i = true → 30 - n ≤ i ∧ i < 30 := by
    intro i hi hb
    have hb' : bt (nI N) i = true := by rw [bt_nI, hb]; simp [hi]
    have h30 : i < 30 := by
      rcases Nat.lt_or_ge i 30 with z | z
      · exact z
      · rw [h.1 i z] at hb'; cases hb'
    have := h.2 (29 - i) (by omega) (by unfold cs; rw [show 29 - (29 - i) = i by omega]; exact hb')
    omega
  have e : N / 2 ^ (30 - n) * 2 ^ (30 - n) = N := by
    apply Nat.eq_of_testBit_eq
    intro i
    rw [Nat.mul_comm, Nat.testBit_two_pow_mul, Nat.testBit_div_two_pow]
    by_cases c : 30 - n ≤ i
    · simp only [ge_iff_le, c, decide_true, Bool.true_and]
      rw [show i - (30 - n) + (30 - n) = i by omega]
    · simp only [ge_iff_le, c, decide_false, Bool.false_and]
      cases hb : N.testBit i with
      | false => rfl
      | true => have := (hbits i (by omega) hb).1; omega
  have h30 : N < 2 ^ 30 := by
    apply Nat.lt_pow_two_of_testBit
    intro i hi
    cases hb : N.testBit i with
    | false => rfl
    | true =>
      rcases Nat.lt_or_ge i 32 with z | z
      · have := (hbits i z hb).2; omega
      · rw [Nat.testBit_lt_two_pow (Nat.lt_of_lt_of_le hN (Nat.pow_le_pow_right (by omega) z))] at hb
        cases hb
  refine ⟨N / 2 ^ (30 - n), ?_, by rw [e]⟩
  rw [Nat.div_lt_iff_lt_mul (Nat.two_pow_pos _), ← Nat.pow_add, show n + (30 - n) = 30 by omega]
  exact h30
theorem slot_lt {n x : Nat} (hn : n ≤ 30) (hx : x < 2 ^ n) : x * 2 ^ (30 - n) < 2 ^ 30 := by
  have h1 : (2 : Nat) ^ 30 = 2 ^ n * 2 ^ (30 - n) := by rw [← Nat.pow_add]; congr 1; omega
  rw [h1]
  exact Nat.mul_lt_mul_of_pos_right hx (Nat.two_pow_pos _)
theorem nI_slot {n x : Nat} (hn : n ≤ 30) (hx : x < 2 ^ n) : inS n (nI (x * 2 ^ (30 - n))) ∧ slN n (nI (x * 2 ^ (30 - n))) = x := by
  have hl := slot_lt hn hx
  refine ⟨⟨fun i hi => ?_, fun j hj hb => ?_⟩, ?_⟩
  · rw [bt_nI, Nat.testBit_lt_two_pow (Nat.lt_of_lt_of_le hl (Nat.pow_le_pow_right (by omega) hi)), Bool.and_false]
  · unfold cs at hb
    rw [bt_nI, Nat.mul_comm, Nat.testBit_two_pow_mul] at hb
    simp only [ge_iff_le, Bool.and_eq_true, decide_eq_true_eq] at hb
    omega
  · unfold slN
    rw [nI_clamp (by omega), Nat.mul_div_cancel _ (Nat.two_pow_pos _)]
theorem slN_lt {n : Nat} (hn : n ≤ 30) {S : Int32} (h : inS n S) : slN n S < 2 ^ n ∧ S = nI (slN n S * 2 ^ (30 - n)) := by
  obtain ⟨x, hx, rfl⟩ := inS_nI hn h
  have := (nI_slot hn hx).2
  rw [this]
  exact ⟨hx, rfl⟩
theorem ush_slot {n : Nat} (hn : n ≤ 30) {S : Int32} (h : inS n S) : (S.toUInt32 >>> ((nI (30 - n)).toUInt32 &&& Int32.toUInt32 31)).toInt32 = nI (slN n S) := by
  obtain ⟨x, hx, rfl⟩ := inS_nI hn h
  have hl := slot_lt hn hx
  have e := ush_nI (n := x * 2 ^ (30 - n)) (by omega) (s := 30 - n) (by omega)
  unfold ush at e
  rw [e, (nI_slot hn hx).2, Nat.mul_div_cancel _ (Nat.two_pow_pos _)]
theorem shl_slot {n x : Nat} (hn : n ≤ 30) (hx : x < 2 ^ n) : (nI x) <<< ((nI (30 - n)) &&& 31) = nI (x * 2 ^ (30 - n)) := by
  have hl := slot_lt hn hx
  have e31 : nI (30 - n) &&& 31 = nI (30 - n) := by
    have := and_nI (30 - n) 31
    rw [show (31 : Int32) = nI 31 from rfl, this, show (31 : Nat) = 2 ^ 5 - 1 from rfl, Nat.and_two_pow_sub_one_eq_mod, Nat.mod_eq_of_lt (by omega)]
  apply Int32.toBitVec_inj.mp
  rw [e31]
  have hs : (nI (30 - n)).toBitVec.smod 32 = BitVec.ofNat 32 (30 - n) := by
    have : ∀ k, k < 32 → (nI k).toBitVec.smod 32 = BitVec.ofNat 32 k := by decide +kernel
    exact this _ (by omega)
  show (nI x).toBitVec <<< ((nI (30 - n)).toBitVec.smod 32) = _
  rw [hs]
  apply BitVec.eq_of_toNat_eq
  show ((BitVec.ofNat 32 x) <<< (BitVec.ofNat 32 (30 - n))).toNat = (BitVec.ofNat 32 (x * 2 ^ (30 - n))).toNat
  rw [BitVec.shiftLeft_eq', BitVec.toNat_shiftLeft, BitVec.toNat_ofNat, BitVec.toNat_ofNat, BitVec.toNat_ofNat, Nat.mod_eq_of_lt (show 30 - n < 2 ^ 32 by omega), Nat.shiftLeft_eq, Nat.mod_mul_mod]
theorem shl_pow {k x : Nat} (hk : k ≤ 20) (hx : x < 2 ^ 10) : (nI x) <<< ((nI k) &&& 31) = nI (x * 2 ^ k) := by
  have e31 : nI k &&& 31 = nI k := by
    have := and_nI k 31
    rw [show (31 : Int32) = nI 31 from rfl, this, show (31 : Nat) = 2 ^ 5 - 1 from rfl, Nat.and_two_pow_sub_one_eq_mod, Nat.mod_eq_of_lt (by omega)]
  apply Int32.toBitVec_inj.mp
  rw [e31]
  have hs : (nI k).toBitVec.smod 32 = BitVec.ofNat 32 k := by
    have : ∀ k, k < 32 → (nI k).toBitVec.smod 32 = BitVec.ofNat 32 k := by decide +kernel
    exact this _ (by omega)
  show (nI x).toBitVec <<< ((nI k).toBitVec.smod 32) = _
  rw [hs]
  apply BitVec.eq_of_toNat_eq
  show ((BitVec.ofNat 32 x) <<< (BitVec.ofNat 32 k)).toNat = (BitVec.ofNat 32 (x * 2 ^ k)).toNat
  rw [BitVec.shiftLeft_eq', BitVec.toNat_shiftLeft, BitVec.toNat_ofNat, BitVec.toNat_ofNat, BitVec.toNat_ofNat, Nat.mod_eq_of_lt (show k < 2 ^ 32 by omega), Nat.shiftLeft_eq, Nat.mod_mul_mod]
theorem c_choicesOf {E : Wd} (h : Hp) {n a : Nat} (hn : n ≤ 12) {R : Int32} (hR : inS n R) (ha : fstO (cs R) 30 = some a) : Cd E 1 m_ClassBook_choicesOf [.int R] h (some (.int (nI (subs n R).length))) h := by
  have hp := pcn_fst (by omega) hR ha
  have hl := subs_len (n := n) ha
  have hc := fa_cnt_le (cs R) 30
  have hR0 : R ≠ 0 := by
    intro z
    rw [z, fst_0] at ha
    cases ha
  have hp12 : pcn R ≤ 12 := by
    unfold pcn
    rw [cnt_cut (m := 30) (n := 12) (by omega) (fun i h1 h2 => hR.no h2 (by omega))]
    exact fa_cnt_le _ 12
  clear ha
  refine Cd_of ok_ClassBook_choicesOf rfl (Nat.le_of_ble_eq_true rfl) (L := [some (.int R)]) rfl ?_
  refine V_iload_n d_ClassBook_choicesOf_0 rfl ?_
  refine V_if_ne (tgt := 8) d_ClassBook_choicesOf_1 (by decide) (fun b1 => ?_) (fun b1 => ?_)
  · refine V_iconst (v := 1) d_ClassBook_choicesOf_8 (by decide) ?_
    refine V_iload_n d_ClassBook_choicesOf_9 rfl ?_
    refine V_callS1 d_ClassBook_choicesOf_10 k_ClassBook_138 rfl (c_bitCount h R) rfl (by first | decide | omega) rfl (Nat.le_of_ble_eq_true rfl) ?_
    rw [bcI_pcn hR.1]
    refine V_iconst (v := 1) d_ClassBook_choicesOf_13 (by decide) ?_
    refine V_isub d_ClassBook_choicesOf_14 ?_
    refine V_ishl d_ClassBook_choicesOf_15 ?_
    refine V_iret d_ClassBook_choicesOf_16 rfl ?_
    rw [show (1 : Int32) = nI 1 from rfl, pk_sub (by omega), shl_pow (by omega) (by omega), Nat.one_mul, hl, show pcn R - 1 = cntR R (n - (a + 1)) (a + 1) by omega]
    exact ⟨rfl, rfl⟩
  · exact absurd b1 hR0
theorem c_choices0 {E : Wd} (h : Hp) (n : Nat) : Cd E 1 m_ClassBook_choicesOf [.int 0] h (some (.int (nI (subs n 0).length))) h := by
  rw [subs_0]
  refine Cd_of ok_ClassBook_choicesOf rfl (Nat.le_of_ble_eq_true rfl) (L := [some (.int 0)]) rfl ?_
  refine V_iload_n d_ClassBook_choicesOf_0 rfl ?_
  refine V_if_ne (tgt := 8) d_ClassBook_choicesOf_1 (by decide) (fun b1 => ?_) (fun b1 => ?_)
  · exact absurd rfl b1
  · refine V_iconst (v := 0) d_ClassBook_choicesOf_4 (by decide) ?_
    refine V_goto (tgt := 16) d_ClassBook_choicesOf_5 (by decide) ?_
    refine V_iret d_ClassBook_choicesOf_16 rfl ?_
    exact ⟨rfl, rfl⟩
theorem c_following {E : Wd} (h : Hp) (S R : Int32) : Cd E 0 m_ClassBook_following [.int S, .int R] h (some (.int ((S - 1) &&& R))) h := by
  refine Cd_of ok_ClassBook_following rfl (Nat.le_of_ble_eq_true rfl) (L := [some (.int S), some (.int R)]) rfl ?_
  refine V_iload_n d_ClassBook_following_0 rfl ?_
  refine V_iconst (v := 1) d_ClassBook_following_1 (by decide) ?_
  refine V_isub d_ClassBook_following_2 ?_
  refine V_iload_n d_ClassBook_following_3 rfl ?_
  refine V_iand d_ClassBook_following_4 ?_
  refine V_iret d_ClassBook_following_5 rfl ?_
  exact ⟨rfl, rfl⟩
theorem c_choices {E : Wd} (h : Hp) {n : Nat} (hn : n ≤ 12) {R : Int32} (hR : inS n R) : Cd E 1 m_ClassBook_choicesOf [.int R] h (some (.int (nI (subs n R).length))) h := by
  by_cases h0 : R = 0
  · rw [h0]; exact c_choices0 h n
  · obtain ⟨a, ha⟩ := cs_ne0 hR.1 h0
    exact c_choicesOf h hn hR ha
theorem subs_len12 {n : Nat} (hn : n ≤ 12) {R : Int32} (hR : inS n R) : (subs n R).length ≤ 4096 := by
  by_cases h0 : R = 0
  · rw [h0, subs_0]; exact Nat.zero_le _
  · obtain ⟨a, ha⟩ := cs_ne0 hR.1 h0
    have hp := pcn_fst (by omega) hR ha
    have hp12 : pcn R ≤ 12 := by
      unfold pcn
      rw [cnt_cut (m := 30) (n := 12) (by omega) (fun i h1 h2 => hR.no h2 (by omega))]
      exact fa_cnt_le _ 12
    rw [subs_len ha]
    exact Nat.le_trans (Nat.pow_le_pow_right (by omega) (show cntR R (n - (a + 1)) (a + 1) ≤ 12 by omega)) (by decide)
/-- the i-th set of a rest -/
theorem subs_get {n i : Nat} (hn : n ≤ 30) {R : Int32} (hR : inS n R) (hi : i < (subs n R).length) : ∃ S a, (subs n R)[i]? = some S ∧ fstO (cs R) 30 = some a ∧ inS n S ∧ cs S a = true ∧ (∀ j, j < 30 → cs S j = true → cs R j = true) ∧ S ≠ 0 := by
  have hR0 : R ≠ 0 := by
    intro z
    rw [z, subs_0] at hi
    exact absurd hi (Nat.not_lt_zero i)
  obtain ⟨a, ha⟩ := cs_ne0 hR.1 hR0
  have hS := (subs_mem hn hR ha _).mp (List.getElem_mem hi)
  exact ⟨(subs n R)[i], a, List.getElem?_eq_getElem hi, ha, ⟨hS.1, fun j hj hb => hR.2 j hj (hS.2.2 j hj hb)⟩, hS.2.1, hS.2.2, cs_ne hS.2.1⟩
