theorem c_votesOf {E : Wd} {h : Hp} {D : LD} (hl : MoLand h D) (ok : okLD D) {ds : Nat → Nat} (hd : MoDs h ds) {e q : Nat} (he : e < 2 ^ 31) (hq : q ≤ 1) : Cd E 0 m_Mo_votesOf [.ref 41, .int (nI e), .int (nI q)] h (some (.int (smP (if q = 0 then dZe D else dOn D) (dP D ds e) (dN D)))) h := by
  have hn := ok.1
  obtain ⟨F, hF⟩ : ∃ F, F = (if q = 0 then dZe D else dOn D) := ⟨_, rfl⟩
  rw [← hF]
  have hrow : ∀ p, p < dN D → h 43 (2 * p + q) = F p := by
    intro p hp
    have := hl.2.2.1 p hp
    rw [hF]
    rcases (show q = 0 ∨ q = 1 by omega) with rfl | rfl
    · exact this.2.1
    · exact this.2.2.1
  refine Cd_of ok_Mo_votesOf rfl (Nat.le_of_ble_eq_true rfl) (L := [some (.ref 41), some (.int (nI e)), some (.int (nI q)), none, none]) rfl ?_
  refine V_iconst (v := 0) d_Mo_votesOf_0 (by decide) ?_
  refine V_istore_n d_Mo_votesOf_1 (by decide) ?_
  dsimp only [List.set]
  refine V_iconst (v := 0) d_Mo_votesOf_2 (by decide) ?_
  refine V_istore d_Mo_votesOf_3 (by decide) ?_
  dsimp only [List.set]
  have loop : ∀ i, i ≤ dN D → V E 0 m_Mo_votesOf (fun v' h' => v' = some (.int (smP F (dP D ds e) (dN D))) ∧ h' = h) 5 [some (.ref 41), some (.int (nI e)), some (.int (nI q)), some (.int (smP F (dP D ds e) i)), some (.int (nI i))] [] h := by
    refine up_ind (dN D) ?_
    intro i hi ih
    refine V_iload d_Mo_votesOf_5 rfl ?_
    refine V_aload_n d_Mo_votesOf_7 rfl ?_
    refine V_getI d_Mo_votesOf_8 f_Mo_91 rfl (by first | rfl | assumption) (by first | rfl | assumption) ?_
    rw [hl.1]
    refine V_icmp_ge (tgt := 49) d_Mo_votesOf_11 (by decide) (fun b11 => ?_) (fun b11 => ?_)
    · obtain rfl := ge_eq b11 rfl rfl (by omega) hi
      refine V_iload_n d_Mo_votesOf_49 rfl ?_
      refine V_iret d_Mo_votesOf_50 rfl ?_
      exact ⟨rfl, rfl⟩
    · have hin' := nge_lt b11 rfl rfl (by omega) hi
      have hin : vp_in (nI i) 30 := vp_in_nI (by omega) (by omega)
      have hdi := hd i (by omega)
      have ih := ih hin'
      rw [smP] at ih
      refine V_iload_n d_Mo_votesOf_14 rfl ?_
      refine V_aload_n d_Mo_votesOf_15 rfl ?_
      refine V_getR d_Mo_votesOf_16 f_Mo_51 rfl (by first | rfl | assumption) (by first | rfl | assumption) ?_
      refine V_iload d_Mo_votesOf_19 rfl ?_
      refine V_iald d_Mo_votesOf_21 (by first | rfl | assumption) (by first | assumption | exact vp_in_nI (by omega) (by omega)) ?_
      rw [nI_clamp (by omega), hdi.2]
      refine V_iload_n d_Mo_votesOf_22 rfl ?_
      refine V_icmp_ne (tgt := 40) d_Mo_votesOf_23 (by decide) (fun b23 => ?_) (fun b23 => ?_)
      · have hP : dP D ds e i = false := by
          unfold dP
          rw [show decide (ds i = e) = false from decide_eq_false (fun z => b23 (by rw [z])), Bool.and_false]
        rw [hP] at ih
        refine V_iconst (v := 0) d_Mo_votesOf_40 (by decide) ?_
        refine V_iadd d_Mo_votesOf_41 ?_
        refine V_istore_n d_Mo_votesOf_42 (by decide) ?_
        dsimp only [List.set]
        refine V_iincw (w := 1) d_Mo_votesOf_43 rfl (by decide) (by decide) ?_
        dsimp only [List.set]
        refine V_goto (tgt := 5) d_Mo_votesOf_46 (by decide) ?_
        rw [nI_1]
        exact ih
      · have hP : dP D ds e i = true := by
          unfold dP inN
          simp [hin', (nI_eq (by omega) he).mp b23]
        rw [hP] at ih
        refine V_aload_n d_Mo_votesOf_26 rfl ?_
        refine V_getR d_Mo_votesOf_27 f_Mo_13 rfl (by first | rfl | assumption) (by first | rfl | assumption) ?_
        refine V_iconst (v := 2) d_Mo_votesOf_30 (by decide) ?_
        refine V_iload d_Mo_votesOf_31 rfl ?_
        refine V_imul d_Mo_votesOf_33 ?_
        refine V_iload_n d_Mo_votesOf_34 rfl ?_
        refine V_iadd d_Mo_votesOf_35 ?_
        rw [show (2 : Int32) = nI 2 from rfl, pk_mul, nI_add]
        have hin2 : vp_in (nI (2 * i + q)) 60 := vp_in_nI (by omega) (by omega)
        refine V_iald d_Mo_votesOf_36 (by first | rfl | assumption) (by first | assumption | exact vp_in_nI (by omega) (by omega)) ?_
        refine V_goto (tgt := 41) d_Mo_votesOf_37 (by decide) ?_
        refine V_iadd d_Mo_votesOf_41 ?_
        refine V_istore_n d_Mo_votesOf_42 (by decide) ?_
        dsimp only [List.set]
        refine V_iincw (w := 1) d_Mo_votesOf_43 rfl (by decide) (by decide) ?_
        dsimp only [List.set]
        refine V_goto (tgt := 5) d_Mo_votesOf_46 (by decide) ?_
        rw [nI_1, nI_clamp (by omega), hrow i hin']
        exact ih
  exact loop 0 (Nat.zero_le _)
/-! sums over districts -/
theorem smI_0 (k : Nat) : smI (fun _ => 0) k = 0 := by
  induction k with
  | zero => rfl
  | succ k ih =>
    unfold smI at ih ⊢
    rw [smP, ih]
    rfl
theorem smI_add (f g : Nat → Int32) (k : Nat) : smI (fun d => f d + g d) k = smI f k + smI g k := by
  induction k with
  | zero => rfl
  | succ k ih =>
    unfold smI at ih ⊢
    rw [smP, smP, smP, ih]
    simp only [if_true]
    rw [Int32.add_assoc, Int32.add_assoc]
    congr 1
    rw [← Int32.add_assoc, ← Int32.add_assoc, Int32.add_comm (smP g (fun _ => true) k)]
theorem smI_congf {f g : Nat → Int32} {k : Nat} (h : ∀ d, d < k → f d = g d) : smI f k = smI g k := smP_congf h
theorem smI_one {a k : Nat} (ha : a < k) (x : Int32) : smI (fun d => if d = a then x else 0) k = x := by
  induction k with
  | zero => omega
  | succ k ih =>
    unfold smI at ih ⊢
    rw [smP]
    simp only [if_true]
    rcases Nat.lt_or_ge a k with c | c
    · rw [ih c, if_neg (by omega), Int32.add_zero]
    · have : a = k := by omega
      subst this
      rw [if_pos rfl, smP_congf (g := fun _ => 0) (fun i hi => by rw [if_neg (by omega)])]
      have := smI_0 a
      unfold smI at this
      rw [this, Int32.zero_add]
theorem smI_smP (f : Nat → Int32) (P : Nat → Nat → Bool) (k : Nat) : ∀ n, smI (fun d => smP f (P d) n) k = smP (fun b => smI (fun d => if P d b then f b else 0) k) (fun _ => true) n
  | 0 => by
    show smI (fun _ => 0) k = 0
    exact smI_0 k
  | n + 1 => by
    rw [smP, ← smI_smP f P k n]
    simp only [if_true]
    rw [← smI_add]
    rfl
theorem smP_all (f : Nat → Int32) (P : Nat → Bool) : ∀ n, smP (fun b => if P b then f b else 0) (fun _ => true) n = smP f P n
  | 0 => rfl
  | n + 1 => by
    rw [smP, smP, smP_all f P n]
    simp
theorem val_0 {D : LD} {w : LW} (ok : okLD D) {ds : Nat → Nat} (okd : okDs D w ds) : val D w ds 0 = smP (dLn D) (fun b => decide (ds (dFr D b) ≠ ds (dTo D b))) (dB D) := by
  show smI (fun d => smP (dLn D) (fun b => dP D ds d (dFr D b) && !dP D ds d (dTo D b)) (dB D)) (wK w) = _
  rw [smI_smP, ← smP_all (dLn D) (fun b => decide (ds (dFr D b) ≠ ds (dTo D b))) (dB D)]
  refine smP_congf (fun b hb => ?_)
  have hbb := ok.2.2.2.1 b hb
  have e : ∀ d, (dP D ds d (dFr D b) && !dP D ds d (dTo D b)) = (decide (d = ds (dFr D b)) && decide (ds (dFr D b) ≠ ds (dTo D b))) := by
    intro d
    unfold dP inN
    simp only [hbb.1, hbb.2.1, decide_true, Bool.true_and]
    by_cases h1 : ds (dFr D b) = d
    · subst h1
      by_cases h2 : ds (dTo D b) = ds (dFr D b)
      · simp [h2]
      · simp [h2, Ne.symm h2]
    · simp [h1, Ne.symm h1]
  by_cases hne : ds (dFr D b) ≠ ds (dTo D b)
  · rw [smI_congf (g := fun d => if d = ds (dFr D b) then dLn D b else 0) (fun d hd => by rw [e, decide_eq_true hne, Bool.and_true]; by_cases z : d = ds (dFr D b) <;> simp [z]), smI_one (okd _ hbb.1)]
    simp [hne]
  · rw [smI_congf (g := fun _ => 0) (fun d hd => by rw [e, decide_eq_false hne, Bool.and_false]; rfl), smI_0]
    simp [hne]
theorem town_last {D : LD} {t : Nat} (h : ∃ j, town D t j = true) : ∃ a, town D t a = true ∧ ∀ j, town D t j = true → j ≤ a := by
  obtain ⟨j, hj⟩ := h
  have : ∀ m, (∃ a, town D t a = true ∧ dN D - m ≤ a) → ∃ a, town D t a = true ∧ ∀ j, town D t j = true → j ≤ a := by
    intro m
    induction m with
    | zero =>
      rintro ⟨a, h1, h2⟩
      have := town_lt h1
      omega
    | succ m ih =>
      rintro ⟨a, h1, h2⟩
      by_cases hx : ∃ a, town D t a = true ∧ dN D - m ≤ a
      · exact ih hx
      · refine ⟨a, h1, fun j hj => ?_⟩
        rcases Nat.lt_or_ge a j with c | c
        · exact absurd ⟨j, hj, by omega⟩ hx
        · exact c
  exact this (dN D) ⟨j, hj, by omega⟩
theorem nI_cnt (P : Nat → Bool) : ∀ n, nI (fa_cnt P n) = smP (fun _ => 1) P n
  | 0 => rfl
  | n + 1 => by
    rw [fa_cnt, smP, ← nI_add, nI_cnt P n]
    cases P n <;> rfl
theorem val_1 {D : LD} {w : LW} {ds : Nat → Nat} (okd : okDs D w ds) : val D w ds 1 = nI (fa_cnt (cutB D ds) 10) := by
  show smI (fun d => nI (fa_cnt (headB D (dP D ds d)) 10)) (wK w) = _
  rw [smI_congf (fun d _ => nI_cnt (headB D (dP D ds d)) 10), smI_smP (fun _ => 1) (fun d => headB D (dP D ds d)) (wK w) 10, nI_cnt, ← smP_all (fun _ => 1) (cutB D ds) 10]
  refine smP_congf (fun t ht => ?_)
  by_cases hx : ∃ j, town D t j = true
  · obtain ⟨a, h1, h2⟩ := town_last hx
    have e : ∀ d, headB D (dP D ds d) t = (decide (d = ds a) && cutB D ds t) := by
      intro d
      cases hc : headB D (dP D ds d) t with
      | true =>
        obtain ⟨a', q1, q2, q3, j, q4, q5⟩ := headB_iff.mp hc
        have : a' = a := by
          have := h2 a' q1
          have := q2 a h1
          omega
        subst this
        have hj := town_lt q4
        have ha := town_lt q1
        unfold dP inN at q3 q5
        simp [ha] at q3
        simp [hj] at q5
        rw [cutB_iff.mpr ⟨j, a', q4, q1, fun z => q5 (z.trans q3)⟩]
        simp [q3]
      | false =>
        cases hz : (decide (d = ds a) && cutB D ds t) with
        | false => rfl
        | true =>
          simp only [Bool.and_eq_true, decide_eq_true_eq] at hz
          obtain ⟨i, j, q1, q2, q3⟩ := cutB_iff.mp hz.2
          have ha := town_lt h1
          have hex : ∃ j, town D t j = true ∧ dP D ds d j = false := by
            by_cases z : ds i = d
            · refine ⟨j, q2, ?_⟩
              unfold dP
              rw [decide_eq_false (fun y => q3 (z.trans y.symm)), Bool.and_false]
            · refine ⟨i, q1, ?_⟩
              unfold dP
              rw [decide_eq_false z, Bool.and_false]
          rw [headB_iff.mpr ⟨a, h1, h2, by unfold dP inN; simp [ha, hz.1], hex⟩] at hc
          cases hc
    cases hcut : cutB D ds t with
    | true =>
      rw [smI_congf (g := fun d => if d = ds a then 1 else 0) (fun d hd => by rw [e, hcut, Bool.and_true]; by_cases z : d = ds a <;> simp [z]), smI_one (okd _ (town_lt h1))]
      rfl
    | false =>
      rw [smI_congf (g := fun _ => 0) (fun d hd => by rw [e, hcut, Bool.and_false]; rfl), smI_0]
      rfl
  · have hcut : cutB D ds t = false := by
      cases hz : cutB D ds t with
      | false => rfl
      | true =>
        obtain ⟨i, j, q1, -⟩ := cutB_iff.mp hz
        exact absurd ⟨i, q1⟩ hx
    have e : ∀ d, headB D (dP D ds d) t = false := by
      intro d
      cases hz : headB D (dP D ds d) t with
      | false => rfl
      | true =>
        obtain ⟨a, q1, -⟩ := headB_iff.mp hz
        exact absurd ⟨a, q1⟩ hx
    rw [smI_congf (g := fun _ => 0) (fun d hd => by rw [e]; rfl), smI_0, hcut]
    rfl
theorem c_value {E : Wd} {h : Hp} {D : LD} {w : LW} (hl : MoLand h D) (ok : okLD D) (hw : MoLaw h w) (okw : okLW w) {ds : Nat → Nat} (hd : MoDs h ds) (okd : okDs D w ds) {m : Nat} (hm : m ≤ 6) : Cd E 2 m_Mo_value [.ref 41, .int (nI m)] h (some (.int (val D w ds m))) h := by
  have hn := ok.1
  have hb100 := ok.2.1
  have h6 := okw.2.1
  refine Cd_of ok_Mo_value rfl (Nat.le_of_ble_eq_true rfl) (L := [some (.ref 41), some (.int (nI m)), none, none, none, none, none, none, none, none]) rfl ?_
  refine V_iconst (v := 0) d_Mo_value_0 (by decide) ?_
  refine V_istore_n d_Mo_value_1 (by decide) ?_
  dsimp only [List.set]
  refine V_iload_n d_Mo_value_2 rfl ?_
  refine V_if_ne (tgt := 62) d_Mo_value_3 (by decide) (fun b3 => ?_) (fun b3 => ?_)
  · have hm0 : ¬ m = 0 := fun q => b3 (by rw [q]; rfl)
    refine V_iload_n d_Mo_value_62 rfl ?_
    refine V_iconst (v := 1) d_Mo_value_63 (by decide) ?_
    refine V_icmp_ne (tgt := 99) d_Mo_value_64 (by decide) (fun b64 => ?_) (fun b64 => ?_)
    · have hm1 : ¬ m = 1 := fun q => b64 (by rw [q]; rfl)
      refine V_ldc d_Mo_value_99 v_Mo_145 rfl ?_
      refine V_istore_n d_Mo_value_101 (by decide) ?_
      dsimp only [List.set]
      refine V_iconst (v := 0) d_Mo_value_102 (by decide) ?_
      refine V_istore d_Mo_value_103 (by decide) ?_
      dsimp only [List.set]
      refine V_iconst (v := 0) d_Mo_value_105 (by decide) ?_
      refine V_istore d_Mo_value_106 (by decide) ?_
      dsimp only [List.set]
      have loop : ∀ i, i ≤ wK w → ∀ u6 u7 u8 u9 (n : Int32), (m ≤ 5 → n = smI (fun d => shr D m (dP D ds d)) i) → V E 2 m_Mo_value (fun v' h' => v' = some (.int (val D w ds m)) ∧ h' = h) 108 [some (.ref 41), some (.int (nI m)), some (.int n), some (.int (mnI (fun d => nI (pplN D (dP D ds d))) i)), some (.int (mxI (fun d => nI (pplN D (dP D ds d))) i)), some (.int (nI i)), u6, u7, u8, u9] [] h := by
        refine up_ind (wK w) ?_
        intro i hi ih u6 u7 u8 u9 n hN
        refine V_iload d_Mo_value_108 rfl ?_
        refine V_aload_n d_Mo_value_110 rfl ?_
        refine V_getI d_Mo_value_111 f_Mo_34 rfl (by first | rfl | assumption) (by first | rfl | assumption) ?_
        rw [hw.1]
        refine V_icmp_ge (tgt := 241) d_Mo_value_114 (by decide) (fun b114 => ?_) (fun b114 => ?_)
        · obtain rfl := ge_eq b114 rfl rfl (by omega) hi
          refine V_iload_n d_Mo_value_241 rfl ?_
          refine V_bipush (v := 6) d_Mo_value_242 (by decide) ?_
          refine V_icmp_ne (tgt := 254) d_Mo_value_244 (by decide) (fun b244 => ?_) (fun b244 => ?_)
          · refine V_iload_n d_Mo_value_254 rfl ?_
            refine V_iret d_Mo_value_255 rfl ?_
            refine ⟨?_, rfl⟩
            have hm6 : ¬ m = 6 := fun q => b244 (by rw [q]; rfl)
            rw [hN (by omega)]
            unfold val tgI
            rw [if_neg hm6]
          · refine V_iload d_Mo_value_247 rfl ?_
            refine V_iload_n d_Mo_value_249 rfl ?_
            refine V_isub d_Mo_value_250 ?_
            refine V_goto (tgt := 255) d_Mo_value_251 (by decide) ?_
            refine V_iret d_Mo_value_255 rfl ?_
            refine ⟨?_, rfl⟩
            have hm6 : m = 6 := (eq_nI m 6 rfl rfl (by omega) (by decide)).mp b244
            subst hm6
            rfl
        · have hik := nge_lt b114 rfl rfl (by omega) hi
          have hP := c_bitsOf (E := E) hl ok hd (e := i) (by omega)
          have ih := ih hik
          refine V_aload_n d_Mo_value_117 rfl ?_
          refine V_aload_n d_Mo_value_118 rfl ?_
          refine V_iload d_Mo_value_119 rfl ?_
          refine V_callV1 d_Mo_value_121 k_Mo_121 rfl (c_bitsOf hl ok hd (show i < 2 ^ 31 by omega)) (by first | rfl | assumption) rfl rfl (by first | decide | omega) rfl (Nat.le_of_ble_eq_true rfl) ?_
          refine V_callV1 d_Mo_value_124 k_Mo_105 rfl (c_peopleOf hl ok (dP D ds i)) (by first | rfl | assumption) rfl rfl (by first | decide | omega) rfl (Nat.le_of_ble_eq_true rfl) ?_
          refine V_istore d_Mo_value_127 (by decide) ?_
          dsimp only [List.set]
          refine V_iload d_Mo_value_129 rfl ?_
          refine V_iload_n d_Mo_value_131 rfl ?_
          have hmod : nI m - nI m / 2 * 2 = nI (m % 2) := pk_rem (d := 2) (by omega) (by omega) (by omega)
          have afterMax : ∀ x4 u6, x4 = mxI (fun d => nI (pplN D (dP D ds d))) (i + 1) → V E 2 m_Mo_value (fun v' h' => v' = some (.int (val D w ds m)) ∧ h' = h) 158 [some (.ref 41), some (.int (nI m)), some (.int n), some (.int (mnI (fun d => nI (pplN D (dP D ds d))) (i + 1))), some (.int x4), some (.int (nI i)), u6, u7, u8, u9] [] h := by
            intro x4 u6 hx4
            subst hx4
            have h20 : ¬ (2 : Int32) = 0 := by decide
            refine V_iload_n d_Mo_value_158 rfl ?_
            refine V_iconst (v := 2) d_Mo_value_159 (by decide) ?_
            refine V_irem d_Mo_value_160 (by assumption) ?_
            rw [hmod]
            refine V_istore d_Mo_value_161 (by decide) ?_
            dsimp only [List.set]
            refine V_aload_n d_Mo_value_163 rfl ?_
            refine V_iload d_Mo_value_164 rfl ?_
            refine V_iload d_Mo_value_166 rfl ?_
            refine V_callV1 d_Mo_value_168 k_Mo_146 rfl (c_votesOf hl ok hd (show i < 2 ^ 31 by omega) (show m % 2 ≤ 1 by omega)) (by first | rfl | assumption) rfl rfl (by first | decide | omega) rfl (Nat.le_of_ble_eq_true rfl) ?_
            refine V_istore d_Mo_value_171 (by decide) ?_
            dsimp only [List.set]
            refine V_aload_n d_Mo_value_173 rfl ?_
            refine V_iload d_Mo_value_174 rfl ?_
            refine V_iconst (v := 1) d_Mo_value_176 (by decide) ?_
            refine V_iload d_Mo_value_177 rfl ?_
            refine V_isub d_Mo_value_179 ?_
            rw [show (1 : Int32) - nI (m % 2) = nI (1 - m % 2) from pk_sub (a := 1) (by omega)]
            refine V_callV1 d_Mo_value_180 k_Mo_146 rfl (c_votesOf hl ok hd (show i < 2 ^ 31 by omega) (show 1 - m % 2 ≤ 1 by omega)) (by first | rfl | assumption) rfl rfl (by first | decide | omega) rfl (Nat.le_of_ble_eq_true rfl) ?_
            obtain ⟨A, hA⟩ : ∃ A, A = smP (if m % 2 = 0 then dZe D else dOn D) (dP D ds i) (dN D) := ⟨_, rfl⟩
            obtain ⟨B, hB⟩ : ∃ B, B = smP (if 1 - m % 2 = 0 then dZe D else dOn D) (dP D ds i) (dN D) := ⟨_, rfl⟩
            rw [← hA, ← hB]
            have tail : ∀ x, (m ≤ 5 → x = shr D m (dP D ds i)) → ∀ u7 u8 u9, V E 2 m_Mo_value (fun v' h' => v' = some (.int (val D w ds m)) ∧ h' = h) 235 [some (.ref 41), some (.int (nI m)), some (.int (n + x)), some (.int (mnI (fun d => nI (pplN D (dP D ds d))) (i + 1))), some (.int (mxI (fun d => nI (pplN D (dP D ds d))) (i + 1))), some (.int (nI i)), u6, u7, u8, u9] [] h := by
              intro x hx u7 u8 u9
              refine V_iincw (w := 1) d_Mo_value_235 rfl (by decide) (by decide) ?_
              dsimp only [List.set]
              refine V_goto (tgt := 108) d_Mo_value_238 (by decide) ?_
              rw [nI_1]
              refine ih _ _ _ _ _ (fun h5 => ?_)
              rw [hN h5, hx h5]
              rfl
            refine V_istore d_Mo_value_183 (by decide) ?_
            dsimp only [List.set]
            refine V_iload_n d_Mo_value_185 rfl ?_
            refine V_iconst (v := 4) d_Mo_value_186 (by decide) ?_
            refine V_icmp_ge (tgt := 208) d_Mo_value_187 (by decide) (fun b187 => ?_) (fun b187 => ?_)
            · have hm4 : 4 ≤ m := (le_nI 4 m rfl rfl (by decide) (by omega)).mp b187
              have hw4 : m ≤ 5 → wst A B = shr D m (dP D ds i) := by
                intro h5
                rw [hA, hB]
                rcases (show m = 4 ∨ m = 5 by omega) with rfl | rfl <;> rfl
              refine V_iload_n d_Mo_value_208 rfl ?_
              refine V_iload d_Mo_value_209 rfl ?_
              refine V_iload d_Mo_value_211 rfl ?_
              refine V_icmp_le (tgt := 231) d_Mo_value_213 (by decide) (fun b213 => ?_) (fun b213 => ?_)
              · refine V_iload d_Mo_value_231 rfl ?_
                refine V_iadd d_Mo_value_233 ?_
                refine V_istore_n d_Mo_value_234 (by decide) ?_
                dsimp only [List.set]
                refine tail A (fun h5 => ?_) _ _ _
                rw [← hw4 h5]
                unfold wst
                rw [if_neg (fun z => (fa_of_lt z).2.1 b213)]
              · refine V_iload d_Mo_value_216 rfl ?_
                refine V_iload d_Mo_value_218 rfl ?_
                refine V_iload d_Mo_value_220 rfl ?_
                refine V_iadd d_Mo_value_222 ?_
                refine V_iconst (v := 2) d_Mo_value_223 (by decide) ?_
                refine V_idiv d_Mo_value_224 (by assumption) ?_
                refine V_isub d_Mo_value_225 ?_
                refine V_iconst (v := 1) d_Mo_value_226 (by decide) ?_
                refine V_isub d_Mo_value_227 ?_
                refine V_goto (tgt := 233) d_Mo_value_228 (by decide) ?_
                refine V_iadd d_Mo_value_233 ?_
                refine V_istore_n d_Mo_value_234 (by decide) ?_
                dsimp only [List.set]
                refine tail _ (fun h5 => ?_) _ _ _
                rw [← hw4 h5]
                unfold wst
                rw [if_pos (fa_of_nle b213)]
            · have hm4 : m < 4 := by
                rcases Nat.lt_or_ge m 4 with c | c
                · exact c
                · exact absurd ((le_nI 4 m rfl rfl (by decide) (by omega)).mpr c) b187
              have hs : (if B < A then (1 : Int32) else 0) = shr D m (dP D ds i) := by
                rw [hA, hB]
                rcases (show m = 2 ∨ m = 3 by omega) with rfl | rfl <;> rfl
              refine V_iload_n d_Mo_value_190 rfl ?_
              refine V_iload d_Mo_value_191 rfl ?_
              refine V_iload d_Mo_value_193 rfl ?_
              refine V_icmp_le (tgt := 202) d_Mo_value_195 (by decide) (fun b195 => ?_) (fun b195 => ?_)
              · refine V_iconst (v := 0) d_Mo_value_202 (by decide) ?_
                refine V_iadd d_Mo_value_203 ?_
                refine V_istore_n d_Mo_value_204 (by decide) ?_
                dsimp only [List.set]
                refine V_goto (tgt := 235) d_Mo_value_205 (by decide) ?_
                refine tail 0 (fun h5 => ?_) _ _ _
                rw [← hs, if_neg (fun z => (fa_of_lt z).2.1 b195)]
              · refine V_iconst (v := 1) d_Mo_value_198 (by decide) ?_
                refine V_goto (tgt := 203) d_Mo_value_199 (by decide) ?_
                refine V_iadd d_Mo_value_203 ?_
                refine V_istore_n d_Mo_value_204 (by decide) ?_
                dsimp only [List.set]
                refine V_goto (tgt := 235) d_Mo_value_205 (by decide) ?_
                refine tail 1 (fun h5 => ?_) _ _ _
                rw [← hs, if_pos (fa_of_nle b195)]
          have afterMin : ∀ x3 u6, u6 = some (.int (nI (pplN D (dP D ds i)))) → x3 = mnI (fun d => nI (pplN D (dP D ds d))) (i + 1) → V E 2 m_Mo_value (fun v' h' => v' = some (.int (val D w ds m)) ∧ h' = h) 142 [some (.ref 41), some (.int (nI m)), some (.int n), some (.int x3), some (.int (mxI (fun d => nI (pplN D (dP D ds d))) i)), some (.int (nI i)), u6, u7, u8, u9] [] h := by
            intro x3 u6 hu hx3
            subst hx3; subst hu
            refine V_iload d_Mo_value_142 rfl ?_
            refine V_iload d_Mo_value_144 rfl ?_
            refine V_icmp_le (tgt := 154) d_Mo_value_146 (by decide) (fun b146 => ?_) (fun b146 => ?_)
            · refine V_iload d_Mo_value_154 rfl ?_
              refine V_istore d_Mo_value_156 (by decide) ?_
              dsimp only [List.set]
              refine afterMax _ _ ?_
              rw [mxI, if_neg (fun z => (fa_of_lt z).2.1 b146)]
            · refine V_iload d_Mo_value_149 rfl ?_
              refine V_goto (tgt := 156) d_Mo_value_151 (by decide) ?_
              refine V_istore d_Mo_value_156 (by decide) ?_
              dsimp only [List.set]
              refine afterMax _ _ ?_
              rw [mxI, if_pos (fa_of_nle b146)]
          refine V_icmp_ge (tgt := 140) d_Mo_value_132 (by decide) (fun b132 => ?_) (fun b132 => ?_)
          · refine V_iload_n d_Mo_value_140 rfl ?_
            refine V_istore_n d_Mo_value_141 (by decide) ?_
            dsimp only [List.set]
            refine afterMin _ _ rfl ?_
            rw [mnI, if_neg (fun z => (fa_of_lt z).2.1 b132)]
          · refine V_iload d_Mo_value_135 rfl ?_
            refine V_goto (tgt := 141) d_Mo_value_137 (by decide) ?_
            refine V_istore_n d_Mo_value_141 (by decide) ?_
            dsimp only [List.set]
            refine afterMin _ _ rfl ?_
            rw [mnI, if_pos (fa_of_nle b132)]
      exact loop 0 (Nat.zero_le _) _ _ _ _ _ (fun _ => rfl)
    · have hm1 : m = 1 := (eq_nI m 1 rfl rfl (by omega) (by decide)).mp b64
      subst hm1
      rw [val_1 okd]
      obtain ⟨R, hR⟩ : ∃ R, R = fa_cnt (cutB D ds) 10 := ⟨_, rfl⟩
      rw [← hR]
      refine V_iconst (v := 0) d_Mo_value_67 (by decide) ?_
      refine V_istore_n d_Mo_value_68 (by decide) ?_
      dsimp only [List.set]
      have loop : ∀ i, i ≤ 10 → V E 2 m_Mo_value (fun v' h' => v' = some (.int (nI R)) ∧ h' = h) 69 [some (.ref 41), some (.int (nI 1)), some (.int (nI (fa_cnt (cutB D ds) i))), some (.int (nI i)), none, none, none, none, none, none] [] h := by
        refine up_ind 10 ?_
        intro i hi ih
        refine V_iload_n d_Mo_value_69 rfl ?_
        refine V_bipush (v := 10) d_Mo_value_70 (by decide) ?_
        refine V_icmp_ge (tgt := 97) d_Mo_value_72 (by decide) (fun b72 => ?_) (fun b72 => ?_)
        · obtain rfl := ge_eq b72 rfl rfl (by decide) hi
          refine V_iload_n d_Mo_value_97 rfl ?_
          refine V_iret d_Mo_value_98 rfl ?_
          exact ⟨by rw [hR], rfl⟩
        · have hi10 := nge_lt b72 rfl rfl (by decide) hi
          have ih := ih hi10
          refine V_iload_n d_Mo_value_75 rfl ?_
          refine V_aload_n d_Mo_value_76 rfl ?_
          refine V_iload_n d_Mo_value_77 rfl ?_
          refine V_callV1 d_Mo_value_78 k_Mo_136 rfl (c_MisCut hl ok hd hi10) (by first | rfl | assumption) rfl rfl (by first | decide | omega) rfl (Nat.le_of_ble_eq_true rfl) ?_
          refine V_if_eq (tgt := 88) d_Mo_value_81 (by decide) (fun b81 => ?_) (fun b81 => ?_)
          · refine V_iconst (v := 0) d_Mo_value_88 (by decide) ?_
            refine V_iadd d_Mo_value_89 ?_
            refine V_istore_n d_Mo_value_90 (by decide) ?_
            dsimp only [List.set]
            refine V_iincw (w := 1) d_Mo_value_91 rfl (by decide) (by decide) ?_
            dsimp only [List.set]
            refine V_goto (tgt := 69) d_Mo_value_94 (by decide) ?_
            rw [fa_cnt_no (b2i.mp b81)] at ih
            rw [nI_1, Int32.add_zero]
            exact ih
          · refine V_iconst (v := 1) d_Mo_value_84 (by decide) ?_
            refine V_goto (tgt := 89) d_Mo_value_85 (by decide) ?_
            refine V_iadd d_Mo_value_89 ?_
            refine V_istore_n d_Mo_value_90 (by decide) ?_
            dsimp only [List.set]
            refine V_iincw (w := 1) d_Mo_value_91 rfl (by decide) (by decide) ?_
            dsimp only [List.set]
            refine V_goto (tgt := 69) d_Mo_value_94 (by decide) ?_
            rw [fa_cnt_yes (b2in.mp b81)] at ih
            rw [nI_1, nI_1]
            exact ih
      exact loop 0 (by omega)
  · have hm0 : m = 0 := (eq_nI m 0 rfl rfl (by omega) (by decide)).mp b3
    subst hm0
    rw [val_0 ok okd]
    refine V_iconst (v := 0) d_Mo_value_6 (by decide) ?_
    refine V_istore_n d_Mo_value_7 (by decide) ?_
    dsimp only [List.set]
    have loop : ∀ i, i ≤ dB D → V E 2 m_Mo_value (fun v' h' => v' = some (.int (smP (dLn D) (fun b => decide (ds (dFr D b) ≠ ds (dTo D b))) (dB D))) ∧ h' = h) 8 [some (.ref 41), some (.int (nI 0)), some (.int (smP (dLn D) (fun b => decide (ds (dFr D b) ≠ ds (dTo D b))) i)), some (.int (nI i)), none, none, none, none, none, none] [] h := by
      refine up_ind (dB D) ?_
      intro i hi ih
      refine V_iload_n d_Mo_value_8 rfl ?_
      refine V_aload_n d_Mo_value_9 rfl ?_
      refine V_getI d_Mo_value_10 f_Mo_102 rfl (by first | rfl | assumption) (by first | rfl | assumption) ?_
      rw [hl.2.1]
      refine V_icmp_ge (tgt := 60) d_Mo_value_13 (by decide) (fun b13 => ?_) (fun b13 => ?_)
      · obtain rfl := ge_eq b13 rfl rfl (by omega) hi
        refine V_iload_n d_Mo_value_60 rfl ?_
        refine V_iret d_Mo_value_61 rfl ?_
        exact ⟨rfl, rfl⟩
      · have hib := nge_lt b13 rfl rfl (by omega) hi
        have hin := zin100 ok hib
        have hbb := ok.2.2.2.1 i hib
        have hrow := hl.2.2.2.1 i hib
        have ih := ih hib
        rw [smP] at ih
        have hf := hd (dFr D i) (by omega)
        have ht := hd (dTo D i) (by omega)
        have hinf : vp_in (nI (dFr D i)) 30 := vp_in_nI (by omega) (by omega)
        have hint : vp_in (nI (dTo D i)) 30 := vp_in_nI (by omega) (by omega)
        refine V_iload_n d_Mo_value_16 rfl ?_
        refine V_aload_n d_Mo_value_17 rfl ?_
        refine V_getR d_Mo_value_18 f_Mo_51 rfl (by first | rfl | assumption) (by first | rfl | assumption) ?_
        refine V_aload_n d_Mo_value_21 rfl ?_
        refine V_getR d_Mo_value_22 f_Mo_22 rfl (by first | rfl | assumption) (by first | rfl | assumption) ?_
        refine V_iload_n d_Mo_value_25 rfl ?_
        refine V_iald d_Mo_value_26 (by first | rfl | assumption) (by first | assumption | exact vp_in_nI (by omega) (by omega)) ?_
        rw [nI_clamp (by omega), hrow.1]
        refine V_iald d_Mo_value_27 (by first | rfl | assumption) (by first | assumption | exact vp_in_nI (by omega) (by omega)) ?_
        refine V_aload_n d_Mo_value_28 rfl ?_
        refine V_getR d_Mo_value_29 f_Mo_51 rfl (by first | rfl | assumption) (by first | rfl | assumption) ?_
        refine V_aload_n d_Mo_value_32 rfl ?_
        refine V_getR d_Mo_value_33 f_Mo_25 rfl (by first | rfl | assumption) (by first | rfl | assumption) ?_
        refine V_iload_n d_Mo_value_36 rfl ?_
        refine V_iald d_Mo_value_37 (by first | rfl | assumption) (by first | assumption | exact vp_in_nI (by omega) (by omega)) ?_
        rw [nI_clamp (by omega), nI_clamp (by omega), hrow.2.1, hf.2]
        refine V_iald d_Mo_value_38 (by first | rfl | assumption) (by first | assumption | exact vp_in_nI (by omega) (by omega)) ?_
        rw [nI_clamp (by omega), ht.2]
        refine V_icmp_eq (tgt := 51) d_Mo_value_39 (by decide) (fun b39 => ?_) (fun b39 => ?_)
        · have heq := (nI_eq (by omega) (by omega)).mp b39
          refine V_iconst (v := 0) d_Mo_value_51 (by decide) ?_
          refine V_iadd d_Mo_value_52 ?_
          refine V_istore_n d_Mo_value_53 (by decide) ?_
          dsimp only [List.set]
          refine V_iincw (w := 1) d_Mo_value_54 rfl (by decide) (by decide) ?_
          dsimp only [List.set]
          refine V_goto (tgt := 8) d_Mo_value_57 (by decide) ?_
          rw [nI_1]
          rw [decide_eq_false (fun z => z heq)] at ih
          exact ih
        · have hne : ds (dFr D i) ≠ ds (dTo D i) := fun z => b39 (by rw [z])
          refine V_aload_n d_Mo_value_42 rfl ?_
          refine V_getR d_Mo_value_43 f_Mo_28 rfl (by first | rfl | assumption) (by first | rfl | assumption) ?_
          refine V_iload_n d_Mo_value_46 rfl ?_
          refine V_iald d_Mo_value_47 (by first | rfl | assumption) (by first | assumption | exact vp_in_nI (by omega) (by omega)) ?_
          refine V_goto (tgt := 52) d_Mo_value_48 (by decide) ?_
          refine V_iadd d_Mo_value_52 ?_
          refine V_istore_n d_Mo_value_53 (by decide) ?_
          dsimp only [List.set]
          refine V_iincw (w := 1) d_Mo_value_54 rfl (by decide) (by decide) ?_
          dsimp only [List.set]
          refine V_goto (tgt := 8) d_Mo_value_57 (by decide) ?_
          rw [nI_1, nI_clamp (by omega), hrow.2.2]
          rw [decide_eq_true hne] at ih
          exact ih
    exact loop 0 (Nat.zero_le _)
