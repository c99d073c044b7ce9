/-! rows, loops, and Parting -/
theorem up_ind (N : Nat) {P : Nat → Prop} (h : ∀ i, i ≤ N → (i < N → P (i + 1)) → P i) : ∀ i, i ≤ N → P i := by
  have key : ∀ m i, i + m = N → P i := by
    intro m
    induction m with
    | zero => intro i hi; exact h i (by omega) (fun q => by omega)
    | succ m ih => intro i hi; exact h i (by omega) (fun _ => ih (i + 1) (by omega))
  intro i hi
  exact key (N - i) i (by omega)
theorem le_nI {x y : Int32} (a b : Nat) (hx : x = nI a) (hy : y = nI b) (ha : a < 2 ^ 31) (hb : b < 2 ^ 31) : x ≤ y ↔ a ≤ b := by rw [hx, hy]; exact nI_leI ha hb
theorem lt_nI {x y : Int32} (a b : Nat) (hx : x = nI a) (hy : y = nI b) (ha : a < 2 ^ 31) (hb : b < 2 ^ 31) : x < y ↔ a < b := by rw [hx, hy]; exact nI_ltI ha hb
theorem eq_nI {x y : Int32} (a b : Nat) (hx : x = nI a) (hy : y = nI b) (ha : a < 2 ^ 31) (hb : b < 2 ^ 31) : x = y ↔ a = b := by rw [hx, hy]; exact nI_eq ha hb
theorem hup_hrow (h : Hp) (o i : Nat) (f : Nat → Int32) (x : Int32) : hup (hrow h o f) o i x = hrow h o (upd f i x) := by
  rw [hup_row, hrow_twice, hrow_same]
theorem hup_ne {h : Hp} {o q i : Nat} {x : Int32} (hq : q ≠ o) : hup h o i x q = h q := by simp [hup, hq]
theorem hup_same (h : Hp) (o i : Nat) (x : Int32) : hup h o i x o = upd (h o) i x := by simp [hup]
theorem c_fill {E : Wd} (h : Hp) {a n : Nat} (hn : n < 2 ^ 31) (ha : shp[a]? = some (.inl (false, n))) (v : Int32) : Cd E 0 m_Arrays_fill_53178 [.ref a, .int v] h none (hrow h a (fa_fill (fun _ => v) (h a) n)) := by
  refine Cd_of ok_Arrays_fill_53178 rfl (Nat.le_of_ble_eq_true rfl) (L := [some (.ref a), some (.int v), none, none]) rfl ?_
  refine V_iconst (v := 0) d_Arrays_fill_53178_0 (by decide) ?_
  refine V_istore_n d_Arrays_fill_53178_1 (by decide) ?_
  dsimp only [List.set]
  refine V_aload_n d_Arrays_fill_53178_2 rfl ?_
  refine V_alen d_Arrays_fill_53178_3 (by first | rfl | assumption) rfl ?_
  refine V_istore_n d_Arrays_fill_53178_4 (by decide) ?_
  dsimp only [List.set]
  have loop : ∀ i, i ≤ n → V E 0 m_Arrays_fill_53178 (fun v' h' => v' = none ∧ h' = hrow h a (fa_fill (fun _ => v) (h a) n)) 5 [some (.ref a), some (.int v), some (.int (nI i)), some (.int (Int32.ofNat n))] [] (hrow h a (fa_fill (fun _ => v) (h a) i)) := by
    refine up_ind n ?_
    intro i hi ih
    refine V_iload_n d_Arrays_fill_53178_5 rfl ?_
    refine V_iload_n d_Arrays_fill_53178_6 rfl ?_
    refine V_icmp_ge (tgt := 20) d_Arrays_fill_53178_7 (by decide) (fun b7 => ?_) (fun b7 => ?_)
    · have hin : i = n := by
        have := (le_nI n i rfl rfl hn (by omega)).mp b7
        omega
      subst hin
      refine V_vret d_Arrays_fill_53178_20 rfl ?_
      exact ⟨rfl, rfl⟩
    · have hin : i < n := by
        rcases Nat.lt_or_ge i n with q | q
        · exact q
        · exact absurd ((le_nI n i rfl rfl hn (by omega)).mpr q) b7
      refine V_aload_n d_Arrays_fill_53178_10 rfl ?_
      refine V_iload_n d_Arrays_fill_53178_11 rfl ?_
      refine V_iload_n d_Arrays_fill_53178_12 rfl ?_
      refine V_iast d_Arrays_fill_53178_13 (by first | rfl | assumption) (by first | assumption | exact vp_in_nI (by omega) (by omega)) ?_
      refine V_iincw (w := 1) d_Arrays_fill_53178_14 rfl (by decide) (by decide) ?_
      dsimp only [List.set]
      refine V_goto (tgt := 5) d_Arrays_fill_53178_17 (by decide) ?_
      rw [nI_clamp (by omega), hup_hrow, show upd (fa_fill (fun _ => v) (h a) i) i v = fa_fill (fun _ => v) (h a) (i + 1) from fa_fill_succ (fun _ => v) (h a) i, nI_1]
      exact ih hin
  have h0 := loop 0 (Nat.zero_le n)
  rw [fa_fill_0, hrow_self] at h0
  exact h0
/-- a Parting's cells -/
def isPt (o : Nat) : Prop := shp[o]? = some (.inr (6, [some (o + 1), some (o + 2)])) ∧ shp[o + 1]? = some (.inl (false, 30)) ∧ shp[o + 2]? = some (.inl (false, 6))
theorem pt_14 : isPt 14 := ⟨rfl, rfl, rfl⟩
theorem pt_w : isPt 30 := ⟨rfl, rfl, rfl⟩
theorem pt_t : isPt 35 := ⟨rfl, rfl, rfl⟩
theorem pt_b : isPt 38 := ⟨rfl, rfl, rfl⟩
/-- where[j] = ds j; sets[d] = the places j of A with ds j = d -/
def PartW (h : Hp) (o : Nat) (A : Nat → Bool) (ds : Nat → Nat) : Prop := (∀ j, j < 30 → ds j < 6 ∧ h (o + 1) j = nI (ds j)) ∧ ∀ d, d < 6 → h (o + 2) d = cI (fun j => A j && decide (ds j = d))
theorem PartW.cong {h h' : Hp} {o : Nat} {A A' : Nat → Bool} {ds ds' : Nat → Nat} (hw : PartW h o A ds) (e1 : h' (o + 1) = h (o + 1)) (e2 : h' (o + 2) = h (o + 2)) (hA : ∀ j, j < 30 → A j = A' j) (hd : ∀ j, j < 30 → ds j = ds' j) : PartW h' o A' ds' := by
  refine ⟨fun j hj => ?_, fun d hd6 => ?_⟩
  · rw [e1, ← hd j hj]; exact hw.1 j hj
  · rw [e2, hw.2 d hd6]
    exact cI_cong (fun j hj => by rw [hA j hj, hd j hj])
def setA (A : Nat → Bool) (p : Nat) : Nat → Bool := fun j => decide (j = p) || A j
def setN (ds : Nat → Nat) (p d : Nat) : Nat → Nat := fun j => if j = p then d else ds j
theorem cs_onl {p j : Nat} (hp : p < 30) (hj : j < 30) : cs (onl p) j = decide (j = p) := by
  unfold cs
  rw [b_onl p hp (29 - j) (by omega)]
  exact decide_eq_decide.mpr (by omega)
theorem onl_hi {p : Nat} (hp : p < 30) : hi0 (onl p) := fun i hi => by
  rcases Nat.lt_or_ge i 32 with q | q
  · rw [b_onl p hp i q]; simp; omega
  · exact b_big q
theorem c_move {E : Wd} (h : Hp) {o : Nat} (ho : isPt o) {A : Nat → Bool} {ds : Nat → Nat} (hw : PartW h o A ds) {p d : Nat} (hp : p < 30) (hd : d < 6) :
    Cq E 1 m_Parting_move [.ref o, .int (nI p), .int (nI d)] h (fun v h' => v = none ∧ PartW h' o (setA A p) (setN ds p d) ∧ ∀ q, q ≠ o + 1 → q ≠ o + 2 → h' q = h q) := by
  obtain ⟨ho0, ho1, ho2⟩ := ho
  refine Cq_of2 ok_Parting_move rfl (Nat.le_of_ble_eq_true rfl) (L := [some (.ref o), some (.int (nI p)), some (.int (nI d))]) rfl ?_
  have hin : vp_in (nI p) 30 := vp_in_nI hp (by omega)
  have hin2 : vp_in (nI d) 6 := vp_in_nI hd (by omega)
  refine V_aload_n d_Parting_move_0 rfl ?_
  refine V_getR d_Parting_move_1 f_Parting_15 rfl (by first | rfl | assumption) (by first | rfl | assumption) ?_
  refine V_aload_n d_Parting_move_4 rfl ?_
  refine V_getR d_Parting_move_5 f_Parting_9 rfl (by first | rfl | assumption) (by first | rfl | assumption) ?_
  refine V_iload_n d_Parting_move_8 rfl ?_
  refine V_iald d_Parting_move_9 (by first | rfl | assumption) (by first | assumption | exact vp_in_nI (by omega) (by omega)) ?_
  rw [nI_clamp (by omega), (hw.1 p hp).2]
  have hin3 : vp_in (nI (ds p)) 6 := vp_in_nI (hw.1 p hp).1 (by omega)
  refine V_dup2 d_Parting_move_10 rfl rfl ?_
  refine V_iald d_Parting_move_11 (by first | rfl | assumption) (by first | assumption | exact vp_in_nI (by omega) (by omega)) ?_
  refine V_iload_n d_Parting_move_12 rfl ?_
  refine V_callS1 d_Parting_move_13 k_Parting_18 rfl (c_only h hp) rfl (by first | decide | omega) rfl (Nat.le_of_ble_eq_true rfl) ?_
  refine V_iconst (v := -1) d_Parting_move_16 (by decide) ?_
  refine V_ixor d_Parting_move_17 ?_
  refine V_iand d_Parting_move_18 ?_
  refine V_iast d_Parting_move_19 (by first | rfl | assumption) (by first | assumption | exact vp_in_nI (by omega) (by omega)) ?_
  refine V_aload_n d_Parting_move_20 rfl ?_
  refine V_getR d_Parting_move_21 f_Parting_15 rfl (by first | rfl | assumption) (by first | rfl | assumption) ?_
  refine V_iload_n d_Parting_move_24 rfl ?_
  refine V_dup2 d_Parting_move_25 rfl rfl ?_
  refine V_iald d_Parting_move_26 (by first | rfl | assumption) (by first | assumption | exact vp_in_nI (by omega) (by omega)) ?_
  refine V_iload_n d_Parting_move_27 rfl ?_
  refine V_callS1 d_Parting_move_28 k_Parting_18 rfl (c_only _ hp) rfl (by first | decide | omega) rfl (Nat.le_of_ble_eq_true rfl) ?_
  refine V_ior d_Parting_move_31 ?_
  refine V_iast d_Parting_move_32 (by first | rfl | assumption) (by first | assumption | exact vp_in_nI (by omega) (by omega)) ?_
  refine V_aload_n d_Parting_move_33 rfl ?_
  refine V_getR d_Parting_move_34 f_Parting_9 rfl (by first | rfl | assumption) (by first | rfl | assumption) ?_
  refine V_iload_n d_Parting_move_37 rfl ?_
  refine V_iload_n d_Parting_move_38 rfl ?_
  refine V_iast d_Parting_move_39 (by first | rfl | assumption) (by first | assumption | exact vp_in_nI (by omega) (by omega)) ?_
  refine V_vret d_Parting_move_40 rfl ?_
  have h6 := (hw.1 p hp).1
  rw [nI_clamp (by omega), nI_clamp (by omega), nI_clamp (by omega)]
  refine ⟨rfl, ⟨fun j hj => ?_, fun e he => ?_⟩, fun q h1 h2 => ?_⟩
  · rw [hup_same, hup_ne (by omega), hup_ne (by omega)]
    unfold setN upd
    by_cases hjp : j = p
    · rw [if_pos hjp, if_pos hjp]; exact ⟨hd, rfl⟩
    · rw [if_neg hjp, if_neg hjp]; exact hw.1 j hj
  · rw [hup_ne (by omega), hup_same, hup_same]
    have base : ∀ e, e < 6 → upd (h (o + 2)) (ds p) (h (o + 2) (ds p) &&& (onl p ^^^ -1)) e = cI (fun j => A j && decide (ds j = e) && !decide (j = p)) := by
      intro e he
      unfold upd
      by_cases h1 : e = ds p
      · rw [if_pos h1, h1, hw.2 _ h6]
        refine cI_eq (hi_and (cI_hi _)) (fun j hj => ?_)
        rw [cs_and, cs_not, cI_cs _ hj, cs_onl hp hj]
      · rw [if_neg h1, hw.2 e he]
        apply cI_cong
        intro j hj
        by_cases h2 : j = p
        · subst h2
          simp [show ¬ ds j = e by omega]
        · simp [h2]
    unfold upd
    by_cases h1 : e = d
    · rw [if_pos h1, h1]
      have := base d hd
      unfold upd at this
      rw [this]
      refine cI_eq (hi_or (cI_hi _) (onl_hi hp)) (fun j hj => ?_)
      rw [cs_or, cI_cs _ hj, cs_onl hp hj]
      unfold setA setN
      by_cases h2 : j = p
      · simp [h2]
      · simp [h2]
    · rw [if_neg h1]
      have := base e he
      unfold upd at this
      rw [this]
      apply cI_cong
      intro j hj
      unfold setA setN
      by_cases h2 : j = p
      · simp [h2]; omega
      · simp [h2]
  · rw [hup_ne h1, hup_ne h2, hup_ne h2]
theorem c_gather {E : Wd} (h : Hp) {o : Nat} (ho : isPt o) (A : Nat → Bool) :
    Cq E 1 m_Parting_gather [.ref o, .int (cI A)] h (fun v h' => v = none ∧ PartW h' o A (fun _ => 0) ∧ ∀ q, q ≠ o + 1 → q ≠ o + 2 → h' q = h q) := by
  obtain ⟨ho0, ho1, ho2⟩ := ho
  refine Cq_of2 ok_Parting_gather rfl (Nat.le_of_ble_eq_true rfl) (L := [some (.ref o), some (.int (cI A))]) rfl ?_
  refine V_aload_n d_Parting_gather_0 rfl ?_
  refine V_getR d_Parting_gather_1 f_Parting_9 rfl (by first | rfl | assumption) (by first | rfl | assumption) ?_
  refine V_iconst (v := 0) d_Parting_gather_4 (by decide) ?_
  refine V_callS0 d_Parting_gather_5 k_Parting_24 rfl (c_fill h (by omega) ho1 0) rfl (by first | decide | omega) rfl (Nat.le_of_ble_eq_true rfl) ?_
  refine V_aload_n d_Parting_gather_8 rfl ?_
  refine V_getR d_Parting_gather_9 f_Parting_15 rfl (by first | rfl | assumption) (by first | rfl | assumption) ?_
  refine V_iconst (v := 0) d_Parting_gather_12 (by decide) ?_
  refine V_callS0 d_Parting_gather_13 k_Parting_24 rfl (c_fill _ (by omega) ho2 0) rfl (by first | decide | omega) rfl (Nat.le_of_ble_eq_true rfl) ?_
  have hin : vp_in 0 6 := vp_in_nI (n := 0) (by omega) (by omega)
  refine V_aload_n d_Parting_gather_16 rfl ?_
  refine V_getR d_Parting_gather_17 f_Parting_15 rfl (by first | rfl | assumption) (by first | rfl | assumption) ?_
  refine V_iconst (v := 0) d_Parting_gather_20 (by decide) ?_
  refine V_iload_n d_Parting_gather_21 rfl ?_
  refine V_iast d_Parting_gather_22 (by first | rfl | assumption) (by first | assumption | exact vp_in_nI (by omega) (by omega)) ?_
  refine V_vret d_Parting_gather_23 rfl ?_
  refine ⟨rfl, ⟨fun j hj => ?_, fun e he => ?_⟩, fun q h1 h2 => ?_⟩
  · rw [hup_ne (by omega), hrow_ne (by omega), hrow_same, fa_fill_in hj]
    exact ⟨show 0 < 6 by omega, rfl⟩
  · rw [hup_same, hrow_same]
    unfold upd
    by_cases h1 : e = 0
    · rw [if_pos (by rw [h1]; rfl), h1]
      exact cI_cong (fun j hj => by simp)
    · rw [if_neg (fun q => h1 (q.trans (by rfl))), fa_fill_in he]
      have : (0 : Int32) = cI (fun _ => false) := by decide +kernel
      rw [this]
      exact cI_cong (fun j hj => by simp [Ne.symm h1])
  · rw [hup_ne h2, hrow_ne h2, hrow_ne h1]
theorem c_deal {E : Wd} (h : Hp) {o : Nat} (ho : isPt o) (S : Int32) {d : Nat} (hd : d < 6) :
    Cd E 1 m_Parting_deal [.ref o, .int (nI d), .int S] h none (hrow (hup h (o + 2) d S) (o + 1) (fun j => if j < 30 ∧ cs S j = true then nI d else h (o + 1) j)) := by
  obtain ⟨ho0, ho1, ho2⟩ := ho
  refine Cd_of ok_Parting_deal rfl (Nat.le_of_ble_eq_true rfl) (L := [some (.ref o), some (.int (nI d)), some (.int S), none]) rfl ?_
  have hin2 : vp_in (nI d) 6 := vp_in_nI hd (by omega)
  refine V_aload_n d_Parting_deal_0 rfl ?_
  refine V_getR d_Parting_deal_1 f_Parting_15 rfl (by first | rfl | assumption) (by first | rfl | assumption) ?_
  refine V_iload_n d_Parting_deal_4 rfl ?_
  refine V_iload_n d_Parting_deal_5 rfl ?_
  refine V_iast d_Parting_deal_6 (by first | rfl | assumption) (by first | assumption | exact vp_in_nI (by omega) (by omega)) ?_
  refine V_iconst (v := 0) d_Parting_deal_7 (by decide) ?_
  refine V_istore_n d_Parting_deal_8 (by decide) ?_
  dsimp only [List.set]
  rw [nI_clamp (by omega)]
  have loop : ∀ i, i ≤ 30 → V E 1 m_Parting_deal (fun v' h' => v' = none ∧ h' = hrow (hup h (o + 2) d S) (o + 1) (fun j => if j < 30 ∧ cs S j = true then nI d else h (o + 1) j)) 9 [some (.ref o), some (.int (nI d)), some (.int S), some (.int (nI i))] [] (hrow (hup h (o + 2) d S) (o + 1) (fun j => if j < i ∧ cs S j = true then nI d else h (o + 1) j)) := by
    refine up_ind 30 ?_
    intro i hi ih
    refine V_iload_n d_Parting_deal_9 rfl ?_
    refine V_bipush (v := 30) d_Parting_deal_10 (by decide) ?_
    refine V_icmp_ge (tgt := 36) d_Parting_deal_12 (by decide) (fun b12 => ?_) (fun b12 => ?_)
    · have hin : i = 30 := by
        have := (le_nI 30 i rfl rfl (by omega) (by omega)).mp b12
        omega
      subst hin
      refine V_vret d_Parting_deal_36 rfl ?_
      exact ⟨rfl, rfl⟩
    · have hin : i < 30 := by
        rcases Nat.lt_or_ge i 30 with q | q
        · exact q
        · exact absurd ((le_nI 30 i rfl rfl (by omega) (by omega)).mpr q) b12
      have ih := ih hin
      refine V_iload_n d_Parting_deal_15 rfl ?_
      refine V_iload_n d_Parting_deal_16 rfl ?_
      refine V_callS1 d_Parting_deal_17 k_Parting_30 rfl (c_has _ S hin) rfl (by first | decide | omega) rfl (Nat.le_of_ble_eq_true rfl) ?_
      refine V_if_eq (tgt := 30) d_Parting_deal_20 (by decide) (fun b20 => ?_) (fun b20 => ?_)
      · refine V_iincw (w := 1) d_Parting_deal_30 rfl (by decide) (by decide) ?_
        dsimp only [List.set]
        refine V_goto (tgt := 9) d_Parting_deal_33 (by decide) ?_
        have hb : cs S i = false := by
          unfold cs
          cases hb : bt S (29 - i) with
          | false => rfl
          | true => rw [hb] at b20; exact absurd b20 (by decide)
        rw [nI_1]
        have e : (fun j => if j < i + 1 ∧ cs S j = true then nI d else h (o + 1) j) = (fun j => if j < i ∧ cs S j = true then nI d else h (o + 1) j) := by
          funext j
          by_cases hj : j = i
          · subst hj; simp [hb]
          · simp only [show (j < i + 1) = (j < i) from propext ⟨fun _ => by omega, fun _ => by omega⟩]
        rw [e] at ih
        exact ih
      · have hb : cs S i = true := by
          unfold cs
          cases hb : bt S (29 - i) with
          | true => rfl
          | false => rw [hb] at b20; exact absurd rfl b20
        refine V_aload_n d_Parting_deal_23 rfl ?_
        refine V_getR d_Parting_deal_24 f_Parting_9 rfl (by first | rfl | assumption) (by first | rfl | assumption) ?_
        refine V_iload_n d_Parting_deal_27 rfl ?_
        refine V_iload_n d_Parting_deal_28 rfl ?_
        refine V_iast d_Parting_deal_29 (by first | rfl | assumption) (by first | assumption | exact vp_in_nI (by omega) (by omega)) ?_
        refine V_iincw (w := 1) d_Parting_deal_30 rfl (by decide) (by decide) ?_
        dsimp only [List.set]
        refine V_goto (tgt := 9) d_Parting_deal_33 (by decide) ?_
        rw [nI_clamp (by omega), hup_hrow, nI_1]
        have e : upd (fun j => if j < i ∧ cs S j = true then nI d else h (o + 1) j) i (nI d) = (fun j => if j < i + 1 ∧ cs S j = true then nI d else h (o + 1) j) := by
          funext j
          unfold upd
          by_cases hj : j = i
          · subst hj; simp [hb]
          · rw [if_neg hj]
            simp only [show (j < i + 1) = (j < i) from propext ⟨fun _ => by omega, fun _ => by omega⟩]
        rw [e]
        exact ih
  have h0 := loop 0 (by omega)
  have e : (fun j => if j < 0 ∧ cs S j = true then nI d else h (o + 1) j) = (hup h (o + 2) d S) (o + 1) := by
    funext j
    rw [hup_ne (by omega), if_neg (fun q => Nat.not_lt_zero _ q.1)]
  rw [e, hrow_self] at h0
  exact h0
theorem c_become {E : Wd} (h : Hp) {o q : Nat} (ho : isPt o) (hq : isPt q) (hne : o ≠ q) (hne1 : o + 1 ≠ q + 2) (hne2 : o + 2 ≠ q + 1) {A : Nat → Bool} {ds : Nat → Nat} (hw : PartW h q A ds) :
    Cq E 1 m_Parting_become [.ref o, .ref q] h (fun v h' => v = none ∧ PartW h' o A ds ∧ ∀ z, z ≠ o + 1 → z ≠ o + 2 → h' z = h z) := by
  obtain ⟨ho0, ho1, ho2⟩ := ho
  obtain ⟨hq0, hq1, hq2⟩ := hq
  refine Cq_of2 ok_Parting_become rfl (Nat.le_of_ble_eq_true rfl) (L := [some (.ref o), some (.ref q)]) rfl ?_
  refine V_aload_n d_Parting_become_0 rfl ?_
  refine V_getR d_Parting_become_1 f_Parting_9 rfl (by first | rfl | assumption) (by first | rfl | assumption) ?_
  refine V_iconst (v := 0) d_Parting_become_4 (by decide) ?_
  refine V_aload_n d_Parting_become_5 rfl ?_
  refine V_getR d_Parting_become_6 f_Parting_9 rfl (by first | rfl | assumption) (by first | rfl | assumption) ?_
  refine V_iconst (v := 0) d_Parting_become_9 (by decide) ?_
  refine V_bipush (v := 30) d_Parting_become_10 (by decide) ?_
  refine V_copy d_Parting_become_12 kA_Parting_34 rfl (by first | rfl | assumption) (by first | rfl | assumption) (by first | decide | omega) (Nat.le_of_ble_eq_true rfl) (by decide) (by decide) (by decide) ?_
  refine V_aload_n d_Parting_become_15 rfl ?_
  refine V_getR d_Parting_become_16 f_Parting_15 rfl (by first | rfl | assumption) (by first | rfl | assumption) ?_
  refine V_iconst (v := 0) d_Parting_become_19 (by decide) ?_
  refine V_aload_n d_Parting_become_20 rfl ?_
  refine V_getR d_Parting_become_21 f_Parting_15 rfl (by first | rfl | assumption) (by first | rfl | assumption) ?_
  refine V_iconst (v := 0) d_Parting_become_24 (by decide) ?_
  refine V_bipush (v := 6) d_Parting_become_25 (by decide) ?_
  refine V_copy d_Parting_become_27 kA_Parting_34 rfl (by first | rfl | assumption) (by first | rfl | assumption) (by first | decide | omega) (Nat.le_of_ble_eq_true rfl) (by decide) (by decide) (by decide) ?_
  refine V_vret d_Parting_become_30 rfl ?_
  refine ⟨rfl, ⟨fun j hj => ?_, fun e he => ?_⟩, fun z h1 h2 => ?_⟩
  · rw [hrow_ne (by omega), hrow_same, pk_cpy_in (Nat.zero_le _) (by simpa using hj)]
    simpa using hw.1 j hj
  · rw [hrow_same, pk_cpy_in (Nat.zero_le _) (by simpa using he), hrow_ne (by omega)]
    simpa using hw.2 e he
  · rw [hrow_ne h2, hrow_ne h1]
