/-! sets as numbers; what one comes to -/
def encN (P : Nat → Bool) : Nat → Nat
  | 0 => 0
  | n + 1 => encN P n + if P n then 2 ^ n else 0
theorem encN_lt (P : Nat → Bool) : ∀ n, encN P n < 2 ^ n
  | 0 => by simp [encN]
  | n + 1 => by
    have := encN_lt P n
    rw [encN, Nat.pow_succ]
    split <;> omega
theorem encN_bit (P : Nat → Bool) (i : Nat) : ∀ n, (encN P n).testBit i = (decide (i < n) && P i)
  | 0 => by simp [encN]
  | n + 1 => by
    have h1 := encN_bit P i n
    have h2 := encN_lt P n
    rw [encN]
    cases hp : P n with
    | false =>
      simp only [Bool.false_eq_true, if_false, Nat.add_zero]
      rw [h1]
      by_cases q : i = n
      · subst q; simp [hp]
      · rw [show decide (i < n + 1) = decide (i < n) from decide_eq_decide.mpr (by omega)]
    | true =>
      simp only [if_true]
      rw [Nat.add_comm, show 2 ^ n + encN P n = 2 ^ n * 1 + encN P n by omega, Nat.testBit_two_pow_mul_add _ h2]
      rcases Nat.lt_trichotomy i n with q | q | q
      · rw [if_pos q, h1]; simp [q, show i < n + 1 by omega]
      · subst q; simp [hp]
      · rw [if_neg (by omega)]
        have h9 : i - n = (i - n - 1) + 1 := by omega
        rw [h9, Nat.testBit_succ]
        simp [show ¬ i < n + 1 by omega]
/-- the class's number of a set of places; the model's -/
def cI (P : Nat → Bool) : Int32 := nI (encN (fun i => P (29 - i)) 30)
def mI (P : Nat → Bool) : Int32 := nI (encN P 30)
theorem cI_bit (P : Nat → Bool) (i : Nat) : bt (cI P) i = (decide (i < 30) && P (29 - i)) := by
  unfold cI
  rw [bt_nI, encN_bit]
  by_cases h : i < 30
  · simp [h, show i < 32 by omega]
  · simp [h]
theorem mI_bit (P : Nat → Bool) (i : Nat) : bt (mI P) i = (decide (i < 30) && P i) := by
  unfold mI
  rw [bt_nI, encN_bit]
  by_cases h : i < 30
  · simp [h, show i < 32 by omega]
  · simp [h]
theorem cI_hi (P : Nat → Bool) : hi0 (cI P) := fun i hi => by rw [cI_bit]; simp [show ¬ i < 30 by omega]
theorem mI_hi (P : Nat → Bool) : hi0 (mI P) := fun i hi => by rw [mI_bit]; simp [show ¬ i < 30 by omega]
theorem cI_cs (P : Nat → Bool) {j : Nat} (hj : j < 30) : cs (cI P) j = P j := by
  unfold cs
  rw [cI_bit, show 29 - (29 - j) = j by omega]
  simp [show 29 - j < 30 by omega]
theorem cI_of {x : Int32} (hx : hi0 x) : x = cI (cs x) := by
  apply b_ext
  intro i hi
  rw [cI_bit]
  unfold cs
  by_cases h : i < 30
  · rw [show 29 - (29 - i) = i by omega]; simp [h]
  · rw [hx i (by omega)]; simp [h]
theorem cI_eq {x : Int32} (hx : hi0 x) {P : Nat → Bool} (h : ∀ j, j < 30 → cs x j = P j) : x = cI P := by
  rw [cI_of hx]
  apply b_ext
  intro i hi
  rw [cI_bit, cI_bit]
  by_cases q : i < 30
  · rw [h _ (by omega)]
  · simp [q]
theorem cI_cong {P P' : Nat → Bool} (h : ∀ j, j < 30 → P j = P' j) : cI P = cI P' := cI_eq (cI_hi P) (fun j hj => by rw [cI_cs P hj, h j hj])
theorem mI_eq {x : Int32} (hx : hi0 x) {P : Nat → Bool} (h : ∀ j, j < 30 → bt x j = P j) : x = mI P := by
  apply b_ext
  intro i hi
  rw [mI_bit]
  by_cases q : i < 30
  · rw [h i q]; simp [q]
  · rw [hx i (by omega)]; simp [q]
theorem mI_cong {P P' : Nat → Bool} (h : ∀ j, j < 30 → P j = P' j) : mI P = mI P' := mI_eq (mI_hi P) (fun j hj => by rw [mI_bit]; simp [hj, h j hj])
theorem cI_inj {P P' : Nat → Bool} (h : cI P = cI P') {j : Nat} (hj : j < 30) : P j = P' j := by rw [← cI_cs P hj, h, cI_cs P' hj]
theorem mI_inj {P P' : Nat → Bool} (h : mI P = mI P') {j : Nat} (hj : j < 30) : P j = P' j := by
  have h1 : bt (mI P) j = bt (mI P') j := by rw [h]
  rw [mI_bit, mI_bit] at h1
  simpa [hj] using h1
/-- a set that holds what X has of S, and with each place its neighbours in S -/
def cloP (N : Nat → Nat → Bool) (S X T : Nat → Bool) : Prop := (∀ j, j < 30 → X j = true → S j = true → T j = true) ∧ ∀ i j, i < 30 → j < 30 → T i = true → S j = true → N i j = true → T j = true
noncomputable def cloB (N : Nat → Nat → Bool) (S X : Nat → Bool) : Nat → Bool := fun j => @decide (∀ T, cloP N S X T → T j = true) (Classical.propDecidable _)
theorem cloB_iff {N : Nat → Nat → Bool} {S X : Nat → Bool} {j : Nat} : cloB N S X j = true ↔ ∀ T, cloP N S X T → T j = true := by
  unfold cloB
  exact @decide_eq_true_iff _ (Classical.propDecidable _)
/-- what is closed, and has nothing that it need not, is the closure -/
theorem cloB_eq {N : Nat → Nat → Bool} {S X F : Nat → Bool} (h1 : cloP N S X F) (h2 : ∀ T, cloP N S X T → ∀ j, j < 30 → F j = true → T j = true) {j : Nat} (hj : j < 30) : F j = cloB N S X j := by
  cases hF : F j with
  | true => exact (cloB_iff.mpr (fun T hT => h2 T hT j hj hF)).symm
  | false =>
    cases hc : cloB N S X j with
    | false => rfl
    | true => rw [cloB_iff.mp hc F h1] at hF; cases hF
theorem pop_or {x y : Int32} : ∀ {n : Nat}, (∀ i, i < n → ¬ (bt x i = true ∧ bt y i = true)) → pop (x ||| y) n = pop x n + pop y n
  | 0, _ => rfl
  | n + 1, h => by
    have ih := pop_or (x := x) (y := y) (n := n) (fun i hi => h i (by omega))
    unfold pop at ih ⊢
    rw [fa_cnt, fa_cnt, fa_cnt, ih, b_or]
    have := h n (by omega)
    cases h1 : bt x n <;> cases h2 : bt y n <;> simp_all <;> omega
theorem pop_0 {x : Int32} (hx : hi0 x) (h : pop x 30 = 0) : x = 0 := by
  apply Classical.byContradiction
  intro hn
  obtain ⟨k, hk, h1, h2⟩ := low30 hx hn
  have := pop_pos hk h1
  omega
theorem cs_and (x y : Int32) (j : Nat) : cs (x &&& y) j = (cs x j && cs y j) := b_and _ _ _
theorem cs_or (x y : Int32) (j : Nat) : cs (x ||| y) j = (cs x j || cs y j) := b_or _ _ _
theorem cs_not (x : Int32) (j : Nat) : cs (x ^^^ (-1)) j = !cs x j := b_not _ (by omega)
theorem hi_or {x y : Int32} (hx : hi0 x) (hy : hi0 y) : hi0 (x ||| y) := fun i hi => by rw [b_or, hx i hi, hy i hi]; rfl
theorem hi_and {x y : Int32} (hx : hi0 x) : hi0 (x &&& y) := fun i hi => by rw [b_and, hx i hi]; rfl
theorem hi_and' {x y : Int32} (hy : hi0 y) : hi0 (x &&& y) := fun i hi => by rw [b_and, hy i hi, Bool.and_false]
theorem cs_clear {x : Int32} {k : Nat} (hk : k < 30) (h1 : bt x k = true) (h2 : ∀ i, i < k → bt x i = false) {j : Nat} (hj : j < 30) : cs (x &&& (x - 1)) j = (cs x j && !decide (j = 29 - k)) := by
  unfold cs
  rw [clear_bt hk h1 h2, show decide (29 - j = k) = decide (j = 29 - k) from decide_eq_decide.mpr (by omega)]
/-- spread(next, set, start) -/
theorem c_spread {E : Wd} (h : Hp) {r : Nat} (hr : shp[r]? = some (.inl (false, 30))) (S X : Int32) (hS : hi0 S) :
    Cd E 1 m_Sets_spread [.ref r, .int S, .int X] h (some (.int (cI (cloB (fun i j => cs (h r i) j) (cs S) (cs X))))) h := by
  refine Cd_of ok_Sets_spread rfl (Nat.le_of_ble_eq_true rfl) (L := [some (.ref r), some (.int S), some (.int X), none, none, none, none, none]) rfl ?_
  refine V_iload_n d_Sets_spread_0 rfl ?_
  refine V_iload_n d_Sets_spread_1 rfl ?_
  refine V_iand d_Sets_spread_2 ?_
  refine V_istore_n d_Sets_spread_3 (by decide) ?_
  dsimp only [List.set]
  refine V_iload_n d_Sets_spread_4 rfl ?_
  refine V_istore d_Sets_spread_5 (by decide) ?_
  dsimp only [List.set]
  refine V_iconst (v := 0) d_Sets_spread_7 (by decide) ?_
  refine V_istore d_Sets_spread_8 (by decide) ?_
  dsimp only [List.set]
  have loop : ∀ n i (F O : Int32) (u7 u8 : Option Value), i + n = 30 → hi0 F → hi0 O → pop F 30 = pop O 30 + i → (∀ j, j < 30 → cs O j = true → cs F j = true) → (∀ j, j < 30 → cs F j = true → cs S j = true) →
      (∀ j, j < 30 → cs X j = true → cs S j = true → cs F j = true) → (∀ T, cloP (fun i j => cs (h r i) j) (cs S) (cs X) T → ∀ j, j < 30 → cs F j = true → T j = true) →
      (∀ a b, a < 30 → b < 30 → cs F a = true → cs O a = false → cs S b = true → cs (h r a) b = true → cs F b = true) →
      V E 1 m_Sets_spread (fun v' h' => v' = some (.int (cI (cloB (fun i j => cs (h r i) j) (cs S) (cs X)))) ∧ h' = h) 10 [some (.ref r), some (.int S), some (.int X), some (.int F), some (.int O), some (.int (nI i)), u7, u8] [] h := by
    intro n
    induction n with
    | zero =>
      intro i F O u7 u8 hi hF hO hp hOF hFS hXF hmin hcl
      have hi : i = 30 := by omega
      subst hi
      have h0 : O = 0 := by
        apply pop_0 hO
        have := pop_le F 30
        omega
      refine V_iload d_Sets_spread_10 rfl ?_
      refine V_bipush (v := 30) d_Sets_spread_12 (by decide) ?_
      refine V_icmp_ge (tgt := 73) d_Sets_spread_14 (by decide) (fun b14 => ?_) (fun b14 => ?_)
      · refine V_iload_n d_Sets_spread_73 rfl ?_
        refine V_iret d_Sets_spread_74 rfl ?_
        refine ⟨?_, rfl⟩
        rw [cI_eq hF (fun j hj => cloB_eq ⟨hXF, fun a b ha hb h1 h2 h3 => hcl a b ha hb h1 (by rw [h0]; exact b_0 _) h2 h3⟩ hmin hj)]
      · exact absurd (by decide) b14
    | succ n ih =>
      intro i F O u7 u8 hi hF hO hp hOF hFS hXF hmin hcl
      refine V_iload d_Sets_spread_10 rfl ?_
      refine V_bipush (v := 30) d_Sets_spread_12 (by decide) ?_
      refine V_icmp_ge (tgt := 73) d_Sets_spread_14 (by decide) (fun b14 => ?_) (fun b14 => ?_)
      · exact absurd b14 (by rw [show (30 : Int32) = nI 30 from rfl, nI_leI (by omega) (by omega)]; omega)
      · refine V_iload d_Sets_spread_17 rfl ?_
        refine V_if_eq (tgt := 73) d_Sets_spread_19 (by decide) (fun b19 => ?_) (fun b19 => ?_)
        · refine V_iload_n d_Sets_spread_73 rfl ?_
          refine V_iret d_Sets_spread_74 rfl ?_
          refine ⟨?_, rfl⟩
          rw [cI_eq hF (fun j hj => cloB_eq ⟨hXF, fun a b ha hb h1 h2 h3 => hcl a b ha hb h1 (by rw [b19]; exact b_0 _) h2 h3⟩ hmin hj)]
        · obtain ⟨k, hk, h1, h2⟩ := low30 hO b19
          refine V_bipush (v := 29) d_Sets_spread_22 (by decide) ?_
          refine V_iload d_Sets_spread_24 rfl ?_
          refine V_iload d_Sets_spread_26 rfl ?_
          refine V_ineg d_Sets_spread_28 ?_
          refine V_iand d_Sets_spread_29 ?_
          refine V_iconst (v := 1) d_Sets_spread_30 (by decide) ?_
          refine V_isub d_Sets_spread_31 ?_
          rw [b_low (by omega) h1 h2]
          refine V_callS1 d_Sets_spread_32 k_Sets_15 rfl (c_bitCount h _) rfl (by first | decide | omega) rfl (Nat.le_of_ble_eq_true rfl) ?_
          rw [bcI_low k (by omega)]
          refine V_isub d_Sets_spread_35 ?_
          rw [sub29 k hk]
          refine V_istore d_Sets_spread_36 (by decide) ?_
          dsimp only [List.set]
          refine V_aload_n d_Sets_spread_38 rfl ?_
          refine V_iload d_Sets_spread_39 rfl ?_
          refine V_iald d_Sets_spread_41 (by first | rfl | assumption) (by first | assumption | exact vp_in_nI (by omega) (by omega)) ?_
          refine V_iload_n d_Sets_spread_42 rfl ?_
          refine V_iand d_Sets_spread_43 ?_
          refine V_iload_n d_Sets_spread_44 rfl ?_
          refine V_iconst (v := -1) d_Sets_spread_45 (by decide) ?_
          refine V_ixor d_Sets_spread_46 ?_
          refine V_iand d_Sets_spread_47 ?_
          refine V_istore d_Sets_spread_48 (by decide) ?_
          dsimp only [List.set]
          refine V_iload_n d_Sets_spread_50 rfl ?_
          refine V_iload d_Sets_spread_51 rfl ?_
          refine V_ior d_Sets_spread_53 ?_
          refine V_istore_n d_Sets_spread_54 (by decide) ?_
          dsimp only [List.set]
          refine V_iload d_Sets_spread_55 rfl ?_
          refine V_iload d_Sets_spread_57 rfl ?_
          refine V_iconst (v := 1) d_Sets_spread_59 (by decide) ?_
          refine V_isub d_Sets_spread_60 ?_
          refine V_iand d_Sets_spread_61 ?_
          refine V_iload d_Sets_spread_62 rfl ?_
          refine V_ior d_Sets_spread_64 ?_
          refine V_istore d_Sets_spread_65 (by decide) ?_
          dsimp only [List.set]
          refine V_iincw (w := 1) d_Sets_spread_67 rfl (by decide) (by decide) ?_
          dsimp only [List.set]
          refine V_goto (tgt := 10) d_Sets_spread_70 (by decide) ?_
          rw [nI_clamp (by omega), nI_1]
          have hfr : ∀ j, cs (h r (29 - k) &&& S &&& (F ^^^ -1)) j = (cs (h r (29 - k)) j && cs S j && !cs F j) := fun j => by rw [cs_and, cs_and, cs_not]
          generalize hg : h r (29 - k) &&& S &&& (F ^^^ -1) = G at hfr ⊢
          have hG : hi0 G := by rw [← hg]; exact hi_and (hi_and' hS)
          have hka : cs O (29 - k) = true := by unfold cs; rw [show 29 - (29 - k) = k by omega]; exact h1
          have hdis : ∀ j, j < 30 → cs G j = true → cs F j = false := fun j hj hgj => by
            rw [hfr] at hgj
            simp at hgj
            exact hgj.2
          have bits : ∀ {x y : Int32}, (∀ j, j < 30 → cs x j = true → cs y j = false) → ∀ i, i < 30 → ¬ (bt y i = true ∧ bt x i = true) := by
            intro x y hxy i hi q
            have := hxy (29 - i) (by omega) (by unfold cs; rw [show 29 - (29 - i) = i by omega]; exact q.2)
            unfold cs at this
            rw [show 29 - (29 - i) = i by omega, q.1] at this
            cases this
          refine ih (i + 1) _ _ _ _ (by omega) (hi_or hF hG) (hi_or (clear_hi hO hk h1 h2) hG) ?_ ?_ ?_ ?_ ?_ ?_
          · rw [pop_or (bits hdis), pop_or (bits (fun j hj hgj => ?_))]
            · have := clear_pop hk h1 h2
              omega
            · rw [cs_clear hk h1 h2 hj]
              cases ho : cs O j with
              | false => rfl
              | true => have := hOF j hj ho; rw [hdis j hj hgj] at this; cases this
          · intro j hj q
            rw [cs_or, cs_clear hk h1 h2 hj] at q
            rw [cs_or]
            cases hgj : cs G j with
            | true => simp
            | false =>
              rw [hgj] at q
              simp at q
              simp [hOF j hj q.1]
          · intro j hj q
            rw [cs_or] at q
            cases hfj : cs F j with
            | true => exact hFS j hj hfj
            | false =>
              rw [hfj, hfr] at q
              simp at q
              exact q.1.2
          · intro j hj q1 q2
            rw [cs_or, hXF j hj q1 q2]
            rfl
          · intro T hT j hj q
            rw [cs_or] at q
            cases hfj : cs F j with
            | true => exact hmin T hT j hj hfj
            | false =>
              rw [hfj, hfr] at q
              simp at q
              exact hT.2 (29 - k) j (by omega) hj (hmin T hT _ (by omega) (hOF _ (by omega) hka)) q.1.2 q.1.1
          · intro a b ha hb q1 q2 q3 q4
            rw [cs_or]
            rw [cs_or] at q1 q2
            rw [cs_clear hk h1 h2 ha] at q2
            have hga : cs G a = false := by
              cases hx : cs G a with
              | false => rfl
              | true => rw [hx, Bool.or_true] at q2; cases q2
            rw [hga, Bool.or_false] at q1 q2
            by_cases hak : a = 29 - k
            · subst hak
              cases hfb : cs F b with
              | true => rfl
              | false => rw [hfr, q4, q3, hfb]; rfl
            · simp [hak] at q2
              rw [hcl a b ha hb q1 q2 q3 q4]
              rfl
  refine loop 30 0 _ _ _ _ rfl (hi_and' hS) (hi_and' hS) rfl (fun j _ q => q) ?_ ?_ ?_ ?_
  · intro j hj q
    rw [cs_and] at q
    simp at q
    exact q.2
  · intro j hj q1 q2
    rw [cs_and, q1, q2]
    rfl
  · intro T hT j hj q
    rw [cs_and] at q
    simp at q
    exact hT.1 j hj q.1 q.2
  · intro a b ha hb q1 q2
    rw [q1] at q2
    cases q2
