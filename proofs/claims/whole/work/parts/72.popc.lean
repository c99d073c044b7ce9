/-! Integer.bitCount counts the bits -/
theorem and_b (y M : Nat) {a m : Nat} (ha : a < 256) (hm : m < 256) : (256 * y + a) &&& (256 * M + m) = 256 * (y &&& M) + (a &&& m) := by
  have h1 : a &&& m < 2 ^ 8 := Nat.and_lt_two_pow _ hm
  apply Nat.eq_of_testBit_eq
  intro j
  rw [Nat.testBit_and, show (256 : Nat) = 2 ^ 8 from rfl, Nat.testBit_two_pow_mul_add _ ha, Nat.testBit_two_pow_mul_add _ hm, Nat.testBit_two_pow_mul_add _ h1]
  by_cases h : j < 8
  · rw [if_pos h, if_pos h, if_pos h, Nat.testBit_and]
  · rw [if_neg h, if_neg h, if_neg h, Nat.testBit_and]
theorem dc_1 : ∀ c, c < 2 → ∀ a, a < 256 → (128 * c + a / 2) &&& 85 = a / 2 &&& 85 := by decide +kernel
theorem dc_2 : ∀ c, c < 4 → ∀ a, a < 256 → (64 * c + a / 4) &&& 51 = a / 4 &&& 51 := by decide +kernel
def g1 (M n : Nat) : Nat := n - (n / 2 &&& M)
def g2 (M n : Nat) : Nat := (n &&& M) + (n / 4 &&& M)
def g3 (M n : Nat) : Nat := (n + n / 16) &&& M
theorem g1_b (M y : Nat) {a : Nat} (ha : a < 256) : g1 (256 * M + 85) (256 * y + a) = 256 * g1 M y + g1 85 a := by
  unfold g1
  have e : (256 * y + a) / 2 = 256 * (y / 2) + (128 * (y % 2) + a / 2) := by omega
  rw [e, and_b _ _ (by omega) (by omega), dc_1 _ (by omega) a ha]
  have h1 : y / 2 &&& M ≤ y / 2 := Nat.and_le_left
  have h2 : a / 2 &&& 85 ≤ a / 2 := Nat.and_le_left
  omega
theorem g2_b (M y : Nat) {a : Nat} (ha : a < 256) : g2 (256 * M + 51) (256 * y + a) = 256 * g2 M y + g2 51 a := by
  unfold g2
  have e : (256 * y + a) / 4 = 256 * (y / 4) + (64 * (y % 4) + a / 4) := by omega
  rw [e, and_b _ _ ha (by omega), and_b _ _ (by omega) (by omega), dc_2 _ (by omega) a ha]
  omega
theorem g3_b (M y : Nat) {a : Nat} (ha : a ≤ 68) (hy : y % 16 ≤ 4) : g3 (256 * M + 15) (256 * y + a) = 256 * g3 M y + g3 15 a := by
  unfold g3
  have e : 256 * y + a + (256 * y + a) / 16 = 256 * (y + y / 16) + (a + a / 16 + 16 * (y % 16)) := by omega
  have e2 : (a + a / 16 + 16 * (y % 16)) &&& 15 = (a + a / 16) &&& 15 := by
    rw [show (15 : Nat) = 2 ^ 4 - 1 from rfl, Nat.and_two_pow_sub_one_eq_mod, Nat.and_two_pow_sub_one_eq_mod]
    omega
  rw [e, and_b _ _ (by omega) (by omega), e2]
theorem by_1 : ∀ a, a < 256 → g1 85 a < 256 ∧ g2 51 (g1 85 a) ≤ 68 ∧ g2 51 (g1 85 a) % 16 ≤ 4 ∧ g3 15 (g2 51 (g1 85 a)) = fa_cnt a.testBit 8 := by decide +kernel
theorem cnt_split (p : Nat → Bool) (k : Nat) : ∀ m, fa_cnt p (k + m) = fa_cnt p k + fa_cnt (fun i => p (k + i)) m
  | 0 => rfl
  | m + 1 => by
    rw [show k + (m + 1) = (k + m) + 1 by omega]
    by_cases h : p (k + m) = true
    · rw [fa_cnt_yes h, fa_cnt_yes (p := fun i => p (k + i)) h, cnt_split p k m]; omega
    · have h' : p (k + m) = false := by
        cases hh : p (k + m) with
        | false => rfl
        | true => exact absurd hh h
      rw [fa_cnt_no h', fa_cnt_no (p := fun i => p (k + i)) h', cnt_split p k m]
theorem cnt_byte (y m : Nat) {a : Nat} (ha : a < 256) : fa_cnt (256 * y + a).testBit (8 + m) = fa_cnt a.testBit 8 + fa_cnt y.testBit m := by
  rw [cnt_split]
  have e1 : fa_cnt (256 * y + a).testBit 8 = fa_cnt a.testBit 8 := fa_cnt_cong (fun i hi => by
    rw [show (256 : Nat) = 2 ^ 8 from rfl, Nat.testBit_two_pow_mul_add _ ha, if_pos hi])
  have e2 : fa_cnt (fun i => (256 * y + a).testBit (8 + i)) m = fa_cnt y.testBit m := fa_cnt_cong (fun i hi => by
    rw [show (256 : Nat) = 2 ^ 8 from rfl, Nat.testBit_two_pow_mul_add _ ha, if_neg (by omega), show 8 + i - 8 = i by omega])
  rw [e1, e2]
theorem sum4 {p0 p1 p2 p3 : Nat} (h0 : p0 ≤ 8) (h1 : p1 ≤ 8) (h2 : p2 ≤ 8) (h3 : p3 ≤ 8) : (256 * (256 * (256 * p3 + p2) + p1) + p0 + (256 * (256 * (256 * p3 + p2) + p1) + p0) / 256 + (256 * (256 * (256 * p3 + p2) + p1) + p0 + (256 * (256 * (256 * p3 + p2) + p1) + p0) / 256) / 65536) % 64 = p0 + (p1 + (p2 + p3)) := by
  have e1 : (256 * (256 * (256 * p3 + p2) + p1) + p0) / 256 = 256 * (256 * p3 + p2) + p1 := by omega
  rw [e1]
  have e2 : (256 * (256 * (256 * p3 + p2) + p1) + p0 + (256 * (256 * p3 + p2) + p1)) / 65536 = 256 * p3 + (p2 + p3) := by omega
  rw [e2]
  omega
theorem popN {n : Nat} (hn : n < 2 ^ 32) : (g3 252645135 (g2 858993459 (g1 1431655765 n)) + g3 252645135 (g2 858993459 (g1 1431655765 n)) / 256 + (g3 252645135 (g2 858993459 (g1 1431655765 n)) + g3 252645135 (g2 858993459 (g1 1431655765 n)) / 256) / 65536) % 64 = fa_cnt n.testBit 32 ∧ g1 1431655765 n < 2 ^ 32 ∧ g2 858993459 (g1 1431655765 n) < 2 ^ 31 ∧ g3 252645135 (g2 858993459 (g1 1431655765 n)) < 2 ^ 28 := by
  obtain ⟨a0, y0, h0, e0⟩ : ∃ a y, a < 256 ∧ n = 256 * y + a := ⟨n % 256, n / 256, by omega, by omega⟩
  obtain ⟨a1, y1, h1, e1⟩ : ∃ a y, a < 256 ∧ y0 = 256 * y + a := ⟨y0 % 256, y0 / 256, by omega, by omega⟩
  obtain ⟨a2, y2, h2, e2⟩ : ∃ a y, a < 256 ∧ y1 = 256 * y + a := ⟨y1 % 256, y1 / 256, by omega, by omega⟩
  have h3 : y2 < 256 := by omega
  subst e0 e1 e2
  have b0 := by_1 a0 h0
  have b1 := by_1 a1 h1
  have b2 := by_1 a2 h2
  have b3 := by_1 y2 h3
  have c0 := fa_cnt_le a0.testBit 8
  have c1 := fa_cnt_le a1.testBit 8
  have c2 := fa_cnt_le a2.testBit 8
  have c3 := fa_cnt_le y2.testBit 8
  have eg1 : g1 1431655765 (256 * (256 * (256 * y2 + a2) + a1) + a0) = 256 * (256 * (256 * g1 85 y2 + g1 85 a2) + g1 85 a1) + g1 85 a0 := by
    rw [show (1431655765 : Nat) = 256 * 5592405 + 85 from rfl, g1_b _ _ h0, show (5592405 : Nat) = 256 * 21845 + 85 from rfl, g1_b _ _ h1, show (21845 : Nat) = 256 * 85 + 85 from rfl, g1_b _ _ h2]
  have eg2 : g2 858993459 (256 * (256 * (256 * g1 85 y2 + g1 85 a2) + g1 85 a1) + g1 85 a0) = 256 * (256 * (256 * g2 51 (g1 85 y2) + g2 51 (g1 85 a2)) + g2 51 (g1 85 a1)) + g2 51 (g1 85 a0) := by
    rw [show (858993459 : Nat) = 256 * 3355443 + 51 from rfl, g2_b _ _ b0.1, show (3355443 : Nat) = 256 * 13107 + 51 from rfl, g2_b _ _ b1.1, show (13107 : Nat) = 256 * 51 + 51 from rfl, g2_b _ _ b2.1]
  have eg3 : g3 252645135 (256 * (256 * (256 * g2 51 (g1 85 y2) + g2 51 (g1 85 a2)) + g2 51 (g1 85 a1)) + g2 51 (g1 85 a0)) = 256 * (256 * (256 * fa_cnt y2.testBit 8 + fa_cnt a2.testBit 8) + fa_cnt a1.testBit 8) + fa_cnt a0.testBit 8 := by
    rw [show (252645135 : Nat) = 256 * 986895 + 15 from rfl, g3_b _ _ b0.2.1 (by omega), show (986895 : Nat) = 256 * 3855 + 15 from rfl, g3_b _ _ b1.2.1 (by omega), show (3855 : Nat) = 256 * 15 + 15 from rfl, g3_b _ _ b2.2.1 (by omega), b0.2.2.2, b1.2.2.2, b2.2.2.2, b3.2.2.2]
  rw [eg1, eg2, eg3, show (32 : Nat) = 8 + (8 + (8 + 8)) from rfl, cnt_byte _ _ h0, cnt_byte _ _ h1, cnt_byte _ _ h2]
  exact ⟨sum4 c0 c1 c2 c3, by omega, by omega, by omega⟩
theorem ush_nI {n : Nat} (hn : n < 2 ^ 32) {s : Nat} (hs : s < 32) : ush (nI n) (nI s) = nI (n / 2 ^ s) := by
  apply b_ext
  intro i hi
  unfold ush
  rw [b_ushr s hs, Nat.add_comm s i, bt_nI, bt_nI, Nat.testBit_div_two_pow, decide_eq_true hi, Bool.true_and]
  by_cases h : i + s < 32
  · rw [decide_eq_true h, Bool.true_and]
  · rw [decide_eq_false h, Bool.false_and]
    symm
    apply Nat.testBit_lt_two_pow
    exact Nat.lt_of_lt_of_le hn (Nat.pow_le_pow_right (by omega) (by omega))
theorem and_nI (n m : Nat) : nI n &&& nI m = nI (n &&& m) := by
  apply b_ext
  intro i hi
  rw [b_and, bt_nI, bt_nI, bt_nI, Nat.testBit_and, decide_eq_true hi]
  rfl
theorem bcI_N {n : Nat} (hn : n < 2 ^ 32) : bcI (nI n) = nI (fa_cnt n.testBit 32) := by
  obtain ⟨p1, p2, p3, p4⟩ := popN hn
  have e1 : bc1 (nI n) = nI (g1 1431655765 n) := by
    unfold bc1 g1
    rw [show (1 : Int32) = nI 1 from rfl, ush_nI hn (by omega), show (1431655765 : Int32) = nI 1431655765 from rfl, and_nI]
    have h1 : n / 2 ^ 1 &&& 1431655765 ≤ n / 2 ^ 1 := Nat.and_le_left
    exact pk_sub (by omega)
  have e2 : bc2 (nI (g1 1431655765 n)) = nI (g2 858993459 (g1 1431655765 n)) := by
    unfold bc2 g2
    rw [show (2 : Int32) = nI 2 from rfl, ush_nI p2 (by omega), show (858993459 : Int32) = nI 858993459 from rfl, and_nI, and_nI, nI_add]
  have e3 : bc3 (nI (g2 858993459 (g1 1431655765 n))) = nI (g3 252645135 (g2 858993459 (g1 1431655765 n))) := by
    unfold bc3 g3
    rw [show (4 : Int32) = nI 4 from rfl, ush_nI (by omega) (by omega), show (252645135 : Int32) = nI 252645135 from rfl, nI_add, and_nI]
  unfold bcI
  rw [e1, e2, e3]
  generalize g3 252645135 (g2 858993459 (g1 1431655765 n)) = u at *
  unfold bc5 bc4
  rw [show (8 : Int32) = nI 8 from rfl, ush_nI (by omega) (by omega), nI_add, show (16 : Int32) = nI 16 from rfl, ush_nI (by omega) (by omega), nI_add, show (63 : Int32) = nI 63 from rfl, and_nI, show (63 : Nat) = 2 ^ 6 - 1 from rfl, Nat.and_two_pow_sub_one_eq_mod]
  exact congrArg nI p1
theorem bcI_pop {x : Int32} (hx : hi0 x) : bcI x = nI (pop x 30) := by
  obtain ⟨n, hn, rfl⟩ := nI_ex x
  rw [bcI_N hn]
  refine congrArg nI ?_
  have e : fa_cnt n.testBit 32 = fa_cnt (bt (nI n)) 32 := fa_cnt_cong (fun i hi => by rw [bt_nI, decide_eq_true hi, Bool.true_and])
  rw [e]
  exact cnt_cut (by omega) (fun i h1 h2 => hx i h1)
/-- bits 0 to 29 are places 29 to 0 -/
theorem cnt_rev : ∀ (n : Nat) (p : Nat → Bool), fa_cnt (fun i => p (n - i)) (n + 1) = fa_cnt p (n + 1)
  | 0, p => by
    refine fa_cnt_cong (fun i hi => ?_)
    rw [show 0 - i = i by omega]
  | n + 1, p => by
    rw [show n + 1 + 1 = 1 + (n + 1) by omega, cnt_split (fun i => p (n + 1 - i)) 1 (n + 1), show 1 + (n + 1) = (n + 1) + 1 by omega]
    have e : fa_cnt (fun i => p (n + 1 - (1 + i))) (n + 1) = fa_cnt p (n + 1) := by
      rw [← cnt_rev n p]
      exact fa_cnt_cong (fun i hi => by rw [show n + 1 - (1 + i) = n - i by omega])
    rw [e]
    by_cases h : p (n + 1) = true
    · rw [fa_cnt_yes h, fa_cnt_yes (p := fun i => p (n + 1 - i)) (n := 0) h]
      show 0 + 1 + _ = _
      omega
    · have h' : p (n + 1) = false := by
        cases hh : p (n + 1) with
        | false => rfl
        | true => exact absurd hh h
      rw [fa_cnt_no h', fa_cnt_no (p := fun i => p (n + 1 - i)) (n := 0) h']
      show 0 + _ = _
      omega
theorem bcI_pcn {x : Int32} (hx : hi0 x) : bcI x = nI (pcn x) := by
  rw [bcI_pop hx]
  refine congrArg nI ?_
  unfold pop pcn cs
  exact (cnt_rev 29 (bt x)).symm
theorem pcn_cI (P : Nat → Bool) : pcn (cI P) = fa_cnt P 30 := fa_cnt_cong (fun _ hj => cI_cs P hj)
theorem c_Ddistrict {E : Wd} {h : Hp} {S : ST} (hc : ClW h S) (ok : okST S) (d x : Int32) : CC E 3 m_DC_district [.int d, .int x] h (opDistrict S d x) := by
  have hn := ok.1.1
  have hk6 := ok.2.1.2.1
  obtain ⟨l1, l2, l3, l4, l5, l6, l7⟩ := id hc.1
  refine Cq_of2 ok_DC_district rfl (Nat.le_of_ble_eq_true rfl) (L := [some (.ref 0), some (.int d), some (.int x), none]) rfl ?_
  refine V_aload_n d_DC_district_0 rfl ?_
  refine V_getR d_DC_district_1 f_DC_29 rfl (by first | rfl | assumption) (by first | rfl | assumption) ?_
  refine V_iload_n d_DC_district_4 rfl ?_
  refine V_callV1 d_DC_district_5 k_DC_149 rfl (c_hasDistrict hc.2.1 ok.2.1 d) (by first | rfl | assumption) rfl rfl (by first | decide | omega) rfl (Nat.le_of_ble_eq_true rfl) ?_
  refine V_if_ne (tgt := 13) d_DC_district_8 (by decide) (fun b8 => ?_) (fun b8 => ?_)
  · have h1 := b2in.mp b8
    obtain ⟨e, he, rfl⟩ := isPl_iff.mp h1
    have hin : vp_in (nI e) 6 := vp_in_nI (by omega) (by omega)
    refine V_aload_n d_DC_district_13 rfl ?_
    refine V_getR d_DC_district_14 f_DC_36 rfl (by first | rfl | assumption) (by first | rfl | assumption) ?_
    refine V_getR d_DC_district_17 f_DC_170 rfl (by first | rfl | assumption) (by first | rfl | assumption) ?_
    refine V_iload_n d_DC_district_20 rfl ?_
    refine V_iald d_DC_district_21 (by first | rfl | assumption) (by first | assumption | exact vp_in_nI (by omega) (by omega)) ?_
    refine V_istore_n d_DC_district_22 (by decide) ?_
    dsimp only [List.set]
    refine V_iload_n d_DC_district_23 rfl ?_
    rw [nI_clamp (by omega), hc.2.2.1.2 e (by omega)]
    have hP : ∀ j, j < 30 → dP S.1 S.2.2.1 e j = true → j < dN S.1 := fun j _ => dP_sub
    have cut : ∀ (f g : Nat → Int32), (∀ p, p < dN S.1 → f p = g p) → smP f (cs (cI (dP S.1 S.2.2.1 e))) 30 = smP g (dP S.1 S.2.2.1 e) (dN S.1) := fun f g hf => sum_row hn hf hP
    show V E 3 m_DC_district _ 24 [_, _, _, some (.int (cI (dP S.1 S.2.2.1 e)))] _ h
    by_cases hr : x.toInt < 0 ∨ 7 < x.toInt
    · refine V_tableOut (tgt := 156) d_DC_district_24 hr (by decide) ?_
      refine V_iconst (v := -1) d_DC_district_156 (by decide) ?_
      refine V_iret d_DC_district_157 rfl ?_
      have hno : ¬ (isPl (wK S.2.1) (nI e) = true ∧ inR x 0 7) := fun q => by
        obtain ⟨y, hy, rfl⟩ := (inR_nI (n := 7) (by omega)).mp q.2
        rw [nI_toInt (by omega)] at hr
        omega
      rw [opDistrict_no hno]
      exact ⟨rfl, hc, fun _ _ => rfl⟩
    · obtain ⟨y, hy, rfl⟩ : ∃ y, y ≤ 7 ∧ x = nI y := by
        refine (inR_nI (n := 7) (by omega)).mp ⟨?_, ?_⟩
        · rw [fa_le]; have e0 : (0 : Int32).toInt = 0 := by decide
          omega
        · rw [fa_le, nI_toInt (by omega)]; omega
      rw [opDistrict_yes he hk6 hy]
      generalize dP S.1 S.2.2.1 e = P at *
      rcases (show y = 0 ∨ y = 1 ∨ y = 2 ∨ y = 3 ∨ y = 4 ∨ y = 5 ∨ y = 6 ∨ y = 7 by omega) with rfl | rfl | rfl | rfl | rfl | rfl | rfl | rfl
      · refine V_tableIn (off := 48) (tgt := 72) d_DC_district_24 (by decide) (by decide) (by decide) (by decide) ?_
        refine V_iload_n d_DC_district_72 rfl ?_
        refine V_callS1 d_DC_district_73 k_DC_183 rfl (c_bitCount h _) rfl (by first | decide | omega) rfl (Nat.le_of_ble_eq_true rfl) ?_
        refine V_iret d_DC_district_76 rfl ?_
        refine ⟨?_, hc, fun _ _ => rfl⟩
        rw [dst_0, bcI_pcn (cI_hi _), pcn_cI, cnt_cut hn (fun i c1 c2 => ?_)]
        cases hb : P i with
        | false => rfl
        | true => have := hP i c2 hb; omega
      · refine V_tableIn (off := 53) (tgt := 77) d_DC_district_24 (by decide) (by decide) (by decide) (by decide) ?_
        refine V_aload_n d_DC_district_77 rfl ?_
        refine V_getR d_DC_district_78 f_DC_23 rfl (by first | rfl | assumption) (by first | rfl | assumption) ?_
        refine V_getR d_DC_district_81 f_DC_187 rfl (by first | rfl | assumption) (by first | rfl | assumption) ?_
        refine V_iload_n d_DC_district_84 rfl ?_
        refine V_callS1 d_DC_district_85 k_DC_190 rfl (c_sum h rfl (cI_hi _)) rfl (by first | decide | omega) rfl (Nat.le_of_ble_eq_true rfl) ?_
        refine V_iret d_DC_district_88 rfl ?_
        exact ⟨by rw [dst_1, sum_ppl hc.1 ok.1 hP], hc, fun _ _ => rfl⟩
      · refine V_tableIn (off := 65) (tgt := 89) d_DC_district_24 (by decide) (by decide) (by decide) (by decide) ?_
        refine V_aload_n d_DC_district_89 rfl ?_
        refine V_getR d_DC_district_90 f_DC_23 rfl (by first | rfl | assumption) (by first | rfl | assumption) ?_
        refine V_getR d_DC_district_93 f_DC_194 rfl (by first | rfl | assumption) (by first | rfl | assumption) ?_
        refine V_iload_n d_DC_district_96 rfl ?_
        refine V_callS1 d_DC_district_97 k_DC_190 rfl (c_sum h rfl (cI_hi _)) rfl (by first | decide | omega) rfl (Nat.le_of_ble_eq_true rfl) ?_
        refine V_iret d_DC_district_100 rfl ?_
        exact ⟨by rw [dst_2, cut _ _ (fun p hp => (l4 p hp).2.1)], hc, fun _ _ => rfl⟩
      · refine V_tableIn (off := 77) (tgt := 101) d_DC_district_24 (by decide) (by decide) (by decide) (by decide) ?_
        refine V_aload_n d_DC_district_101 rfl ?_
        refine V_getR d_DC_district_102 f_DC_23 rfl (by first | rfl | assumption) (by first | rfl | assumption) ?_
        refine V_getR d_DC_district_105 f_DC_197 rfl (by first | rfl | assumption) (by first | rfl | assumption) ?_
        refine V_iload_n d_DC_district_108 rfl ?_
        refine V_callS1 d_DC_district_109 k_DC_190 rfl (c_sum h rfl (cI_hi _)) rfl (by first | decide | omega) rfl (Nat.le_of_ble_eq_true rfl) ?_
        refine V_iret d_DC_district_112 rfl ?_
        exact ⟨by rw [dst_3, cut _ _ (fun p hp => (l4 p hp).2.2.1)], hc, fun _ _ => rfl⟩
      · refine V_tableIn (off := 89) (tgt := 113) d_DC_district_24 (by decide) (by decide) (by decide) (by decide) ?_
        refine V_aload_n d_DC_district_113 rfl ?_
        refine V_getR d_DC_district_114 f_DC_23 rfl (by first | rfl | assumption) (by first | rfl | assumption) ?_
        refine V_getR d_DC_district_117 f_DC_200 rfl (by first | rfl | assumption) (by first | rfl | assumption) ?_
        refine V_iload_n d_DC_district_120 rfl ?_
        refine V_callS1 d_DC_district_121 k_DC_190 rfl (c_sum h rfl (cI_hi _)) rfl (by first | decide | omega) rfl (Nat.le_of_ble_eq_true rfl) ?_
        refine V_iret d_DC_district_124 rfl ?_
        exact ⟨by rw [dst_4, cut _ _ (fun p hp => (l4 p hp).2.2.2)], hc, fun _ _ => rfl⟩
      · refine V_tableIn (off := 101) (tgt := 125) d_DC_district_24 (by decide) (by decide) (by decide) (by decide) ?_
        refine V_aload_n d_DC_district_125 rfl ?_
        refine V_getR d_DC_district_126 f_DC_23 rfl (by first | rfl | assumption) (by first | rfl | assumption) ?_
        refine V_iload_n d_DC_district_129 rfl ?_
        refine V_callV1 d_DC_district_130 k_DC_203 rfl (c_outline hc.1 ok.1 _) (by first | rfl | assumption) rfl rfl (by first | decide | omega) rfl (Nat.le_of_ble_eq_true rfl) ?_
        refine V_iret d_DC_district_133 rfl ?_
        refine ⟨?_, hc, fun _ _ => rfl⟩
        rw [dst_5, smP_cong (fun b hb => ?_)]
        have hbb := ok.1.2.2.2.1 b hb
        rw [cI_cs _ (by omega), cI_cs _ (by omega)]
      · refine V_tableIn (off := 110) (tgt := 134) d_DC_district_24 (by decide) (by decide) (by decide) (by decide) ?_
        refine V_aload_n d_DC_district_134 rfl ?_
        refine V_getR d_DC_district_135 f_DC_40 rfl (by first | rfl | assumption) (by first | rfl | assumption) ?_
        refine V_iload_n d_DC_district_138 rfl ?_
        refine V_callV1 d_DC_district_139 k_DC_206 rfl (c_hangs hc.1 (cI_hi _)) (by first | rfl | assumption) rfl rfl (by first | decide | omega) rfl (Nat.le_of_ble_eq_true rfl) ?_
        rw [hang_cs]
        refine V_if_eq (tgt := 149) d_DC_district_142 (by decide) (fun b142 => ?_) (fun b142 => ?_)
        · refine V_iconst (v := 0) d_DC_district_149 (by decide) ?_
          refine V_iret d_DC_district_150 rfl ?_
          exact ⟨by rw [dst_6, b2i.mp b142]; rfl, hc, fun _ _ => rfl⟩
        · refine V_iconst (v := 1) d_DC_district_145 (by decide) ?_
          refine V_goto (tgt := 150) d_DC_district_146 (by decide) ?_
          refine V_iret d_DC_district_150 rfl ?_
          exact ⟨by rw [dst_6, b2in.mp b142]; rfl, hc, fun _ _ => rfl⟩
      · refine V_tableIn (off := 127) (tgt := 151) d_DC_district_24 (by decide) (by decide) (by decide) (by decide) ?_
        refine V_iload_n d_DC_district_151 rfl ?_
        refine V_callS1 d_DC_district_152 k_DC_209 rfl (c_first h _) rfl (by first | decide | omega) rfl (Nat.le_of_ble_eq_true rfl) ?_
        refine V_iret d_DC_district_155 rfl ?_
        exact ⟨by rw [dst_7, fsI_cI], hc, fun _ _ => rfl⟩
  · refine V_iconst (v := -1) d_DC_district_11 (by decide) ?_
    refine V_iret d_DC_district_12 rfl ?_
    have hno : ¬ (isPl (wK S.2.1) d = true ∧ inR x 0 7) := fun q => by
      have q1 := q.1
      rw [b2i.mp b8] at q1
      cases q1
    rw [opDistrict_no hno]
    exact ⟨rfl, hc, fun _ _ => rfl⟩
