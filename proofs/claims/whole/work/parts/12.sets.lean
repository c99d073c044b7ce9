/-! the class's sets, and the JDK's small methods -/
theorem c_isWithin {E : Wd} (h : Hp) (v lo hi : Int32) : Cd E 0 m_DC_isWithin [.int v, .int lo, .int hi] h (some (.int (if lo ≤ v ∧ v ≤ hi then 1 else 0))) h := by
  refine Cd_of ok_DC_isWithin rfl (Nat.le_of_ble_eq_true rfl) (L := [some (.int v), some (.int lo), some (.int hi)]) rfl ?_
  refine V_iload_n d_DC_isWithin_0 rfl ?_
  refine V_iload_n d_DC_isWithin_1 rfl ?_
  refine V_icmp_lt (tgt := 14) d_DC_isWithin_2 (by decide) (fun b2 => ?_) (fun b2 => ?_)
  · refine V_iconst (v := 0) d_DC_isWithin_14 (by decide) ?_
    refine V_zret d_DC_isWithin_15 rfl (by first | rfl | decide | assumption) ?_
    exact ⟨by rw [if_neg (fun q => (fa_of_lt b2).2.1 q.1)], rfl⟩
  · refine V_iload_n d_DC_isWithin_5 rfl ?_
    refine V_iload_n d_DC_isWithin_6 rfl ?_
    refine V_icmp_gt (tgt := 14) d_DC_isWithin_7 (by decide) (fun b7 => ?_) (fun b7 => ?_)
    · refine V_iconst (v := 0) d_DC_isWithin_14 (by decide) ?_
      refine V_zret d_DC_isWithin_15 rfl (by first | rfl | decide | assumption) ?_
      exact ⟨by rw [if_neg (fun q => (fa_of_lt b7).2.1 q.2)], rfl⟩
    · refine V_iconst (v := 1) d_DC_isWithin_10 (by decide) ?_
      refine V_goto (tgt := 15) d_DC_isWithin_11 (by decide) ?_
      refine V_zret d_DC_isWithin_15 rfl (by first | rfl | decide | assumption) ?_
      exact ⟨by rw [if_pos ⟨fa_of_nlt b2, fa_of_nlt b7⟩], rfl⟩
theorem c_compare {E : Wd} (h : Hp) (x y : Int32) : Cd E 0 m_Integer_compare_7cf53 [.int x, .int y] h (some (.int (if x < y then -1 else if x = y then 0 else 1))) h := by
  refine Cd_of ok_Integer_compare_7cf53 rfl (Nat.le_of_ble_eq_true rfl) (L := [some (.int x), some (.int y)]) rfl ?_
  refine V_iload_n d_Integer_compare_7cf53_0 rfl ?_
  refine V_iload_n d_Integer_compare_7cf53_1 rfl ?_
  refine V_icmp_ge (tgt := 9) d_Integer_compare_7cf53_2 (by decide) (fun b2 => ?_) (fun b2 => ?_)
  · refine V_iload_n d_Integer_compare_7cf53_9 rfl ?_
    refine V_iload_n d_Integer_compare_7cf53_10 rfl ?_
    refine V_icmp_ne (tgt := 18) d_Integer_compare_7cf53_11 (by decide) (fun b11 => ?_) (fun b11 => ?_)
    · refine V_iconst (v := 1) d_Integer_compare_7cf53_18 (by decide) ?_
      refine V_iret d_Integer_compare_7cf53_19 rfl ?_
      exact ⟨by rw [if_neg (fun q => (fa_of_lt q).2.1 b2), if_neg b11], rfl⟩
    · refine V_iconst (v := 0) d_Integer_compare_7cf53_14 (by decide) ?_
      refine V_goto (tgt := 19) d_Integer_compare_7cf53_15 (by decide) ?_
      refine V_iret d_Integer_compare_7cf53_19 rfl ?_
      exact ⟨by rw [if_neg (fun q => (fa_of_lt q).2.1 b2), if_pos b11], rfl⟩
  · refine V_iconst (v := -1) d_Integer_compare_7cf53_5 (by decide) ?_
    refine V_goto (tgt := 19) d_Integer_compare_7cf53_6 (by decide) ?_
    refine V_iret d_Integer_compare_7cf53_19 rfl ?_
    exact ⟨by rw [if_pos (fa_of_nle b2)], rfl⟩
theorem c_bitCount {E : Wd} (h : Hp) (x : Int32) : Cd E 0 m_Integer_bitCount_0f7a4 [.int x] h (some (.int (bcI x))) h := by
  refine Cd_of ok_Integer_bitCount_0f7a4 rfl (Nat.le_of_ble_eq_true rfl) (L := [some (.int x)]) rfl ?_
  refine V_iload_n d_Integer_bitCount_0f7a4_0 rfl ?_
  refine V_iload_n d_Integer_bitCount_0f7a4_1 rfl ?_
  refine V_iconst (v := 1) d_Integer_bitCount_0f7a4_2 (by decide) ?_
  refine V_iushr d_Integer_bitCount_0f7a4_3 rfl ?_
  refine V_ldc_w d_Integer_bitCount_0f7a4_4 v_Integer_265 rfl ?_
  refine V_iand d_Integer_bitCount_0f7a4_7 ?_
  refine V_isub d_Integer_bitCount_0f7a4_8 ?_
  refine V_istore_n d_Integer_bitCount_0f7a4_9 (by decide) ?_
  dsimp only [List.set]
  refine V_iload_n d_Integer_bitCount_0f7a4_10 rfl ?_
  refine V_ldc_w d_Integer_bitCount_0f7a4_11 v_Integer_266 rfl ?_
  refine V_iand d_Integer_bitCount_0f7a4_14 ?_
  refine V_iload_n d_Integer_bitCount_0f7a4_15 rfl ?_
  refine V_iconst (v := 2) d_Integer_bitCount_0f7a4_16 (by decide) ?_
  refine V_iushr d_Integer_bitCount_0f7a4_17 rfl ?_
  refine V_ldc_w d_Integer_bitCount_0f7a4_18 v_Integer_266 rfl ?_
  refine V_iand d_Integer_bitCount_0f7a4_21 ?_
  refine V_iadd d_Integer_bitCount_0f7a4_22 ?_
  refine V_istore_n d_Integer_bitCount_0f7a4_23 (by decide) ?_
  dsimp only [List.set]
  refine V_iload_n d_Integer_bitCount_0f7a4_24 rfl ?_
  refine V_iload_n d_Integer_bitCount_0f7a4_25 rfl ?_
  refine V_iconst (v := 4) d_Integer_bitCount_0f7a4_26 (by decide) ?_
  refine V_iushr d_Integer_bitCount_0f7a4_27 rfl ?_
  refine V_iadd d_Integer_bitCount_0f7a4_28 ?_
  refine V_ldc_w d_Integer_bitCount_0f7a4_29 v_Integer_267 rfl ?_
  refine V_iand d_Integer_bitCount_0f7a4_32 ?_
  refine V_istore_n d_Integer_bitCount_0f7a4_33 (by decide) ?_
  dsimp only [List.set]
  refine V_iload_n d_Integer_bitCount_0f7a4_34 rfl ?_
  refine V_iload_n d_Integer_bitCount_0f7a4_35 rfl ?_
  refine V_bipush (v := 8) d_Integer_bitCount_0f7a4_36 (by decide) ?_
  refine V_iushr d_Integer_bitCount_0f7a4_38 rfl ?_
  refine V_iadd d_Integer_bitCount_0f7a4_39 ?_
  refine V_istore_n d_Integer_bitCount_0f7a4_40 (by decide) ?_
  dsimp only [List.set]
  refine V_iload_n d_Integer_bitCount_0f7a4_41 rfl ?_
  refine V_iload_n d_Integer_bitCount_0f7a4_42 rfl ?_
  refine V_bipush (v := 16) d_Integer_bitCount_0f7a4_43 (by decide) ?_
  refine V_iushr d_Integer_bitCount_0f7a4_45 rfl ?_
  refine V_iadd d_Integer_bitCount_0f7a4_46 ?_
  refine V_istore_n d_Integer_bitCount_0f7a4_47 (by decide) ?_
  dsimp only [List.set]
  refine V_iload_n d_Integer_bitCount_0f7a4_48 rfl ?_
  refine V_bipush (v := 63) d_Integer_bitCount_0f7a4_49 (by decide) ?_
  refine V_iand d_Integer_bitCount_0f7a4_51 ?_
  refine V_iret d_Integer_bitCount_0f7a4_52 rfl ?_
  exact ⟨rfl, rfl⟩
theorem c_only {E : Wd} (h : Hp) {j : Nat} (hj : j < 30) : Cd E 0 m_Sets_only [.int (nI j)] h (some (.int (onl j))) h := by
  refine Cd_of ok_Sets_only rfl (Nat.le_of_ble_eq_true rfl) (L := [some (.int (nI j))]) rfl ?_
  refine V_iconst (v := 1) d_Sets_only_0 (by decide) ?_
  refine V_bipush (v := 29) d_Sets_only_1 (by decide) ?_
  refine V_iload_n d_Sets_only_3 rfl ?_
  refine V_isub d_Sets_only_4 ?_
  refine V_ishl d_Sets_only_5 ?_
  refine V_iret d_Sets_only_6 rfl ?_
  exact ⟨by rw [only_eq j hj], rfl⟩
theorem c_has {E : Wd} (h : Hp) (x : Int32) {j : Nat} (hj : j < 30) : Cd E 0 m_Sets_has [.int x, .int (nI j)] h (some (.int (if bt x (29 - j) then 1 else 0))) h := by
  refine Cd_of ok_Sets_has rfl (Nat.le_of_ble_eq_true rfl) (L := [some (.int x), some (.int (nI j))]) rfl ?_
  refine V_iload_n d_Sets_has_0 rfl ?_
  refine V_bipush (v := 29) d_Sets_has_1 (by decide) ?_
  refine V_iload_n d_Sets_has_3 rfl ?_
  refine V_isub d_Sets_has_4 ?_
  refine V_iushr d_Sets_has_5 rfl ?_
  refine V_iconst (v := 1) d_Sets_has_6 (by decide) ?_
  refine V_iand d_Sets_has_7 ?_
  refine V_if_eq (tgt := 15) d_Sets_has_8 (by decide) (fun b8 => ?_) (fun b8 => ?_)
  · refine V_iconst (v := 0) d_Sets_has_15 (by decide) ?_
    refine V_zret d_Sets_has_16 rfl (by first | rfl | decide | assumption) ?_
    exact ⟨by rw [(has_eq x hj).mp b8]; rfl, rfl⟩
  · refine V_iconst (v := 1) d_Sets_has_11 (by decide) ?_
    refine V_goto (tgt := 16) d_Sets_has_12 (by decide) ?_
    refine V_zret d_Sets_has_16 rfl (by first | rfl | decide | assumption) ?_
    have : bt x (29 - j) = true := by
      cases hb : bt x (29 - j) with
      | true => rfl
      | false => exact absurd ((has_eq x hj).mpr hb) b8
    exact ⟨by rw [this]; rfl, rfl⟩
/-- the least place of a set, -1 if there is none -/
def fsI (x : Int32) : Int32 := if fa_first (fun j => bt x (29 - j)) 30 < 30 then nI (fa_first (fun j => bt x (29 - j)) 30) else -1
theorem c_first {E : Wd} (h : Hp) (x : Int32) : Cd E 1 m_Sets_first [.int x] h (some (.int (fsI x))) h := by
  refine Cd_of ok_Sets_first rfl (Nat.le_of_ble_eq_true rfl) (L := [some (.int x), none]) rfl ?_
  refine V_iconst (v := 0) d_Sets_first_0 (by decide) ?_
  refine V_istore_n d_Sets_first_1 (by decide) ?_
  dsimp only [List.set]
  have loop : ∀ n j, j + n = 30 → (∀ i, i < j → bt x (29 - i) = false) → V E 1 m_Sets_first (fun v' h' => v' = some (.int (fsI x)) ∧ h' = h) 2 [some (.int x), some (.int (nI j))] [] h := by
    intro n
    induction n with
    | zero =>
      intro j hj hno
      have hj : j = 30 := by omega
      subst hj
      refine V_iload_n d_Sets_first_2 rfl ?_
      refine V_bipush (v := 30) d_Sets_first_3 (by decide) ?_
      refine V_icmp_ge (tgt := 24) d_Sets_first_5 (by decide) (fun b5 => ?_) (fun b5 => ?_)
      · refine V_iconst (v := -1) d_Sets_first_24 (by decide) ?_
        refine V_iret d_Sets_first_25 rfl ?_
        refine ⟨?_, rfl⟩
        unfold fsI
        rw [first_none hno, if_neg (Nat.lt_irrefl _)]
      · exact absurd (by decide) b5
    | succ n ih =>
      intro j hj hno
      refine V_iload_n d_Sets_first_2 rfl ?_
      refine V_bipush (v := 30) d_Sets_first_3 (by decide) ?_
      refine V_icmp_ge (tgt := 24) d_Sets_first_5 (by decide) (fun b5 => ?_) (fun b5 => ?_)
      · exact absurd b5 (by rw [show (30 : Int32) = nI 30 from rfl, nI_leI (by omega) (by omega)]; omega)
      · refine V_iload_n d_Sets_first_8 rfl ?_
        refine V_iload_n d_Sets_first_9 rfl ?_
        refine V_callS1 d_Sets_first_10 k_Sets_9 rfl (c_has h x (show j < 30 by omega)) rfl (by first | decide | omega) rfl (Nat.le_of_ble_eq_true rfl) ?_
        refine V_if_eq (tgt := 18) d_Sets_first_13 (by decide) (fun b13 => ?_) (fun b13 => ?_)
        · refine V_iincw (w := 1) d_Sets_first_18 rfl (by decide) (by decide) ?_
          dsimp only [List.set]
          refine V_goto (tgt := 2) d_Sets_first_21 (by decide) ?_
          rw [nI_1]
          refine ih (j + 1) (by omega) (fun i hi => ?_)
          rcases Nat.lt_or_ge i j with q | q
          · exact hno i q
          · have : i = j := by omega
            subst this
            cases hb : bt x (29 - i) with
            | false => rfl
            | true => rw [hb] at b13; exact absurd b13 (by decide)
        · refine V_iload_n d_Sets_first_16 rfl ?_
          refine V_iret d_Sets_first_17 rfl ?_
          have hb : bt x (29 - j) = true := by
            cases hb : bt x (29 - j) with
            | true => rfl
            | false => rw [hb] at b13; exact absurd rfl b13
          refine ⟨?_, rfl⟩
          unfold fsI
          rw [first_eq (show j < 30 by omega) hb hno, if_pos (by omega)]
  exact loop 30 0 rfl (fun i hi => absurd hi (Nat.not_lt_zero i))
/-- no bits beyond the places -/
def hi0 (x : Int32) : Prop := ∀ i, 30 ≤ i → bt x i = false
theorem c_last {E : Wd} (h : Hp) {x : Int32} {k : Nat} (hk : k < 30) (h1 : bt x k = true) (h2 : ∀ i, i < k → bt x i = false) : Cd E 1 m_Sets_last [.int x] h (some (.int (nI (29 - k)))) h := by
  refine Cd_of ok_Sets_last rfl (Nat.le_of_ble_eq_true rfl) (L := [some (.int x)]) rfl ?_
  refine V_bipush (v := 29) d_Sets_last_0 (by decide) ?_
  refine V_iload_n d_Sets_last_2 rfl ?_
  refine V_iload_n d_Sets_last_3 rfl ?_
  refine V_ineg d_Sets_last_4 ?_
  refine V_iand d_Sets_last_5 ?_
  refine V_iconst (v := 1) d_Sets_last_6 (by decide) ?_
  refine V_isub d_Sets_last_7 ?_
  rw [b_low (by omega) h1 h2]
  refine V_callS1 d_Sets_last_8 k_Sets_15 rfl (c_bitCount h _) rfl (by first | decide | omega) rfl (Nat.le_of_ble_eq_true rfl) ?_
  rw [bcI_low k (by omega)]
  refine V_isub d_Sets_last_11 ?_
  refine V_iret d_Sets_last_12 rfl ?_
  exact ⟨by rw [sub29 k hk], rfl⟩
/-- the sum of a row over the places of a set -/
def smP (f : Nat → Int32) (P : Nat → Bool) : Nat → Int32
  | 0 => 0
  | n + 1 => smP f P n + if P n then f n else 0
theorem smP_cong {f : Nat → Int32} {P P' : Nat → Bool} : ∀ {n : Nat}, (∀ i, i < n → P i = P' i) → smP f P n = smP f P' n
  | 0, _ => rfl
  | n + 1, h => by rw [smP, smP, smP_cong (fun i hi => h i (by omega)), h n (by omega)]
theorem smP_none {f : Nat → Int32} {P : Nat → Bool} : ∀ {n : Nat}, (∀ i, i < n → P i = false) → smP f P n = 0
  | 0, _ => rfl
  | n + 1, h => by rw [smP, smP_none (fun i hi => h i (by omega)), h n (by omega)]; rfl
/-- without one place -/
theorem smP_take {f : Nat → Int32} {P : Nat → Bool} {j : Nat} (hP : P j = true) : ∀ {n : Nat}, j < n → smP f P n = smP f (fun i => P i && !decide (i = j)) n + f j
  | 0, h => absurd h (Nat.not_lt_zero j)
  | n + 1, h => by
    rw [smP, smP]
    rcases Nat.lt_or_ge j n with q | q
    · rw [smP_take hP q]
      have : (P n && !decide (n = j)) = P n := by simp [show ¬ n = j by omega]
      rw [this, Int32.add_assoc, Int32.add_assoc, Int32.add_comm (f j)]
    · have : n = j := by omega
      subst this
      have e1 : smP f (fun i => P i && !decide (i = n)) n = smP f P n := smP_cong (fun i hi => by simp [show ¬ i = n by omega])
      rw [e1, hP]
      simp
def cs (x : Int32) : Nat → Bool := fun j => bt x (29 - j)
/-- how many bits below n -/
def pop (x : Int32) (n : Nat) : Nat := fa_cnt (bt x) n
theorem pop_le (x : Int32) (n : Nat) : pop x n ≤ n := fa_cnt_le _ n
theorem pop_pos {x : Int32} {k n : Nat} (hk : k < n) (h : bt x k = true) : 0 < pop x n := by
  induction n with
  | zero => omega
  | succ n ih =>
    unfold pop fa_cnt
    rcases Nat.lt_or_ge k n with q | q
    · have := ih q
      unfold pop at this
      omega
    · have : k = n := by omega
      subst this
      rw [h]
      simp
theorem cnt_take {p : Nat → Bool} {j : Nat} (hP : p j = true) : ∀ {n : Nat}, j < n → fa_cnt p n = fa_cnt (fun i => p i && !decide (i = j)) n + 1
  | 0, h => absurd h (Nat.not_lt_zero j)
  | n + 1, h => by
    rw [fa_cnt, fa_cnt]
    rcases Nat.lt_or_ge j n with q | q
    · rw [cnt_take hP q]
      have : (p n && !decide (n = j)) = p n := by simp [show ¬ n = j by omega]
      rw [this]
      omega
    · have : n = j := by omega
      subst this
      have e1 : fa_cnt (fun i => p i && !decide (i = n)) n = fa_cnt p n := fa_cnt_cong (fun i hi => by simp [show ¬ i = n by omega])
      rw [e1, hP]
      simp
theorem low30 {x : Int32} (hx : hi0 x) (h : x ≠ 0) : ∃ k, k < 30 ∧ bt x k = true ∧ ∀ i, i < k → bt x i = false := by
  obtain ⟨k, hk, h1, h2⟩ := low_ex h
  refine ⟨k, ?_, h1, h2⟩
  rcases Nat.lt_or_ge k 30 with q | q
  · exact q
  · rw [hx k q] at h1; cases h1
theorem clear_bt {x : Int32} {k : Nat} (hk : k < 30) (h1 : bt x k = true) (h2 : ∀ i, i < k → bt x i = false) (i : Nat) : bt (x &&& (x - 1)) i = (bt x i && !decide (i = k)) := by
  rcases Nat.lt_or_ge i 32 with q | q
  · exact b_clear (by omega) h1 h2 q
  · rw [b_big q, b_big q]; rfl
theorem clear_hi {x : Int32} {k : Nat} (hx : hi0 x) (hk : k < 30) (h1 : bt x k = true) (h2 : ∀ i, i < k → bt x i = false) : hi0 (x &&& (x - 1)) := fun i hi => by rw [clear_bt hk h1 h2, hx i hi]; rfl
theorem clear_pop {x : Int32} {k : Nat} (hk : k < 30) (h1 : bt x k = true) (h2 : ∀ i, i < k → bt x i = false) : pop x 30 = pop (x &&& (x - 1)) 30 + 1 := by
  unfold pop
  rw [cnt_take h1 hk]
  congr 1
  exact fa_cnt_cong (fun i _ => (clear_bt hk h1 h2 i).symm)
theorem clear_sum {f : Nat → Int32} {x : Int32} {k : Nat} (hk : k < 30) (h1 : bt x k = true) (h2 : ∀ i, i < k → bt x i = false) : smP f (cs x) 30 = smP f (cs (x &&& (x - 1))) 30 + f (29 - k) := by
  have e : smP f (fun i => cs x i && !decide (i = 29 - k)) 30 = smP f (cs (x &&& (x - 1))) 30 := by
    apply smP_cong
    intro i hi
    unfold cs
    rw [clear_bt hk h1 h2, show decide (i = 29 - k) = decide (29 - i = k) from decide_eq_decide.mpr (by omega)]
  rw [smP_take (P := cs x) (j := 29 - k) (by unfold cs; rw [show 29 - (29 - k) = k by omega]; exact h1) (by omega), e]
theorem sum_0 (f : Nat → Int32) : smP f (cs 0) 30 = 0 := smP_none (fun i _ => b_0 _)
theorem c_sum {E : Wd} (h : Hp) {r : Nat} (hr : shp[r]? = some (.inl (false, 30))) {x : Int32} (hx : hi0 x) : Cd E 2 m_Sets_sum [.ref r, .int x] h (some (.int (smP (h r) (cs x) 30))) h := by
  refine Cd_of ok_Sets_sum rfl (Nat.le_of_ble_eq_true rfl) (L := [some (.ref r), some (.int x), none, none, none]) rfl ?_
  refine V_iconst (v := 0) d_Sets_sum_0 (by decide) ?_
  refine V_istore_n d_Sets_sum_1 (by decide) ?_
  dsimp only [List.set]
  refine V_iload_n d_Sets_sum_2 rfl ?_
  refine V_istore_n d_Sets_sum_3 (by decide) ?_
  dsimp only [List.set]
  refine V_iconst (v := 0) d_Sets_sum_4 (by decide) ?_
  refine V_istore d_Sets_sum_5 (by decide) ?_
  dsimp only [List.set]
  have loop : ∀ n i (s o : Int32), i + n = 30 → hi0 o → pop o 30 ≤ n → s + smP (h r) (cs o) 30 = smP (h r) (cs x) 30 → V E 2 m_Sets_sum (fun v' h' => v' = some (.int (smP (h r) (cs x) 30)) ∧ h' = h) 7 [some (.ref r), some (.int x), some (.int s), some (.int o), some (.int (nI i))] [] h := by
    intro n
    induction n with
    | zero =>
      intro i s o hi ho hp hs
      have hi : i = 30 := by omega
      subst hi
      refine V_iload d_Sets_sum_7 rfl ?_
      refine V_bipush (v := 30) d_Sets_sum_9 (by decide) ?_
      refine V_icmp_ge (tgt := 39) d_Sets_sum_11 (by decide) (fun b11 => ?_) (fun b11 => ?_)
      · refine V_iload_n d_Sets_sum_39 rfl ?_
        refine V_iret d_Sets_sum_40 rfl ?_
        refine ⟨?_, rfl⟩
        have h0 : o = 0 := by
          apply Classical.byContradiction
          intro hn
          obtain ⟨k, hk, h1, h2⟩ := low30 ho hn
          have := pop_pos hk h1
          omega
        rw [← hs, h0, sum_0, Int32.add_zero]
      · exact absurd (by decide) b11
    | succ n ih =>
      intro i s o hi ho hp hs
      refine V_iload d_Sets_sum_7 rfl ?_
      refine V_bipush (v := 30) d_Sets_sum_9 (by decide) ?_
      refine V_icmp_ge (tgt := 39) d_Sets_sum_11 (by decide) (fun b11 => ?_) (fun b11 => ?_)
      · exact absurd b11 (by rw [show (30 : Int32) = nI 30 from rfl, nI_leI (by omega) (by omega)]; omega)
      · refine V_iload_n d_Sets_sum_14 rfl ?_
        refine V_if_eq (tgt := 39) d_Sets_sum_15 (by decide) (fun b15 => ?_) (fun b15 => ?_)
        · refine V_iload_n d_Sets_sum_39 rfl ?_
          refine V_iret d_Sets_sum_40 rfl ?_
          refine ⟨?_, rfl⟩
          rw [← hs, b15, sum_0, Int32.add_zero]
        · obtain ⟨k, hk, h1, h2⟩ := low30 ho b15
          refine V_iload_n d_Sets_sum_18 rfl ?_
          refine V_aload_n d_Sets_sum_19 rfl ?_
          refine V_iload_n d_Sets_sum_20 rfl ?_
          refine V_callS1 d_Sets_sum_21 k_Sets_21 rfl (c_last h hk h1 h2) rfl (by first | decide | omega) rfl (Nat.le_of_ble_eq_true rfl) ?_
          refine V_iald d_Sets_sum_24 (by first | rfl | assumption) (by first | assumption | exact vp_in_nI (by omega) (by omega)) ?_
          refine V_iadd d_Sets_sum_25 ?_
          refine V_istore_n d_Sets_sum_26 (by decide) ?_
          dsimp only [List.set]
          refine V_iload_n d_Sets_sum_27 rfl ?_
          refine V_iload_n d_Sets_sum_28 rfl ?_
          refine V_iconst (v := 1) d_Sets_sum_29 (by decide) ?_
          refine V_isub d_Sets_sum_30 ?_
          refine V_iand d_Sets_sum_31 ?_
          refine V_istore_n d_Sets_sum_32 (by decide) ?_
          dsimp only [List.set]
          refine V_iincw (w := 1) d_Sets_sum_33 rfl (by decide) (by decide) ?_
          dsimp only [List.set]
          refine V_goto (tgt := 7) d_Sets_sum_36 (by decide) ?_
          rw [nI_1]
          refine ih (i + 1) _ _ (by omega) (clear_hi ho hk h1 h2) ?_ ?_
          · have := clear_pop hk h1 h2
            omega
          · rw [← hs, clear_sum (f := h r) hk h1 h2, nI_clamp (by omega), Int32.add_assoc, Int32.add_comm (h r (29 - k))]
  exact loop 30 0 0 x rfl hx (pop_le _ _) (Int32.zero_add _)
