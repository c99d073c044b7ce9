/-! numbers drawn; borders between districts -/
def nxS (s : Int32) : Int32 := s * 1103515245 + 12345
def drN (s : Int32) : Nat := (nxS s).toUInt32.toNat / 65536
theorem drN_lt (s : Int32) : drN s < 65536 := by
  unfold drN
  have := (nxS s).toUInt32.toNat_lt
  omega
theorem drI_nI (s : Int32) : ((nxS s).toUInt32 >>> (Int32.toUInt32 16 &&& Int32.toUInt32 31)).toInt32 = nI (drN s) := by
  have e : (Int32.toUInt32 16 &&& Int32.toUInt32 31) = 16 := by decide
  rw [e]
  have h1 : ((nxS s).toUInt32 >>> 16).toNat = drN s := by
    rw [UInt32.toNat_shiftRight]
    unfold drN
    rw [Nat.shiftRight_eq_div_pow]
    rfl
  rw [← h1]
  unfold nI
  generalize (nxS s).toUInt32 >>> 16 = u
  apply Int32.toBitVec_inj.mp
  apply BitVec.eq_of_toNat_eq
  simp
theorem c_Mdraw {E : Wd} (h : Hp) : Cd E 0 m_Mo_draw [.ref 41] h (some (.int (nI (drN (h 41 19))))) (hup h 41 19 (nxS (h 41 19))) := by
  refine Cd_of ok_Mo_draw rfl (Nat.le_of_ble_eq_true rfl) (L := [some (.ref 41)]) rfl ?_
  refine V_aload_n d_Mo_draw_0 rfl ?_
  refine V_aload_n d_Mo_draw_1 rfl ?_
  refine V_getI d_Mo_draw_2 f_Mo_192 rfl (by first | rfl | assumption) (by first | rfl | assumption) ?_
  refine V_ldc d_Mo_draw_5 v_Mo_195 rfl ?_
  refine V_imul d_Mo_draw_7 ?_
  refine V_sipush (v := 12345) d_Mo_draw_8 (by decide) ?_
  refine V_iadd d_Mo_draw_11 ?_
  refine V_put (ty := .int) d_Mo_draw_12 f_Mo_192 rfl (by first | rfl | assumption) (by first | rfl | assumption) (by decide +kernel) (by first | rfl | assumption) (by first | rfl | assumption) ?_
  refine V_aload_n d_Mo_draw_15 rfl ?_
  refine V_getI d_Mo_draw_16 f_Mo_192 rfl (by first | rfl | assumption) (by first | rfl | assumption) ?_
  refine V_bipush (v := 16) d_Mo_draw_19 (by decide) ?_
  rw [hup_same, upd_s]
  refine V_iushr d_Mo_draw_21 (drI_nI _) ?_
  refine V_iret d_Mo_draw_22 rfl ?_
  exact ⟨rfl, rfl⟩
/-- a border between two districts -/
def crs (D : LD) (ds : Nat → Nat) (b : Nat) : Bool := decide (ds (dFr D b) ≠ ds (dTo D b))
/-- the k-th one of n that are so -/
def isNth (P : Nat → Bool) (n k b : Nat) : Prop := b < n ∧ P b = true ∧ fa_cnt P b = k
theorem nth_ex {P : Nat → Bool} : ∀ {n k : Nat}, k < fa_cnt P n → ∃ b, isNth P n k b
  | 0, k, h => absurd h (Nat.not_lt_zero k)
  | n + 1, k, h => by
    cases hp : P n with
    | true =>
      rw [fa_cnt_yes hp] at h
      rcases Nat.lt_or_ge k (fa_cnt P n) with c | c
      · obtain ⟨b, h1, h2, h3⟩ := nth_ex c
        exact ⟨b, by omega, h2, h3⟩
      · exact ⟨n, by omega, hp, by omega⟩
    | false =>
      rw [fa_cnt_no hp] at h
      obtain ⟨b, h1, h2, h3⟩ := nth_ex h
      exact ⟨b, by omega, h2, h3⟩
theorem cnt_up (P : Nat → Bool) {a b : Nat} (h : a ≤ b) : fa_cnt P a ≤ fa_cnt P b := by
  induction b with
  | zero => rw [show a = 0 by omega]; exact Nat.le_refl _
  | succ b ih =>
    rcases Nat.lt_or_ge a (b + 1) with c | c
    · have := ih (by omega)
      rw [fa_cnt]
      omega
    · rw [show a = b + 1 by omega]; exact Nat.le_refl _
theorem nth_lt {P : Nat → Bool} {n k b : Nat} (h : isNth P n k b) : k < fa_cnt P n := by
  have h1 := cnt_up P (show b + 1 ≤ n from h.1)
  rw [fa_cnt_yes h.2.1, h.2.2] at h1
  omega
theorem nth_one {P : Nat → Bool} {n k b b' : Nat} (h : isNth P n k b) (h' : isNth P n k b') : b = b' := by
  rcases Nat.lt_trichotomy b b' with c | c | c
  · have := nth_lt ⟨c, h.2.1, h.2.2⟩
    have := h'.2.2
    omega
  · exact c
  · have := nth_lt ⟨c, h'.2.1, h'.2.2⟩
    have := h.2.2
    omega
theorem c_between {E : Wd} {h : Hp} {D : LD} (hl : MoLand h D) (ok : okLD D) {ds : Nat → Nat} (hd : MoDs h ds) : Cd E 0 m_Mo_between [.ref 41, .int (-1)] h (some (.int (-1))) (hup h 41 30 (nI (fa_cnt (crs D ds) (dB D)))) := by
  have hB := ok.2.1
  have hN := ok.1
  refine Cd_of ok_Mo_between rfl (Nat.le_of_ble_eq_true rfl) (L := [some (.ref 41), some (.int (-1)), none, none]) rfl ?_
  refine V_iconst (v := 0) d_Mo_between_0 (by decide) ?_
  refine V_istore_n d_Mo_between_1 (by decide) ?_
  dsimp only [List.set]
  refine V_iconst (v := 0) d_Mo_between_2 (by decide) ?_
  refine V_istore_n d_Mo_between_3 (by decide) ?_
  dsimp only [List.set]
  have loop : ∀ i, i ≤ dB D → V E 0 m_Mo_between (fun v' h' => v' = some (.int (-1)) ∧ h' = hup h 41 30 (nI (fa_cnt (crs D ds) (dB D)))) 4 [some (.ref 41), some (.int (-1)), some (.int (nI (fa_cnt (crs D ds) i))), some (.int (nI i))] [] h := by
    refine up_ind (dB D) ?_
    intro i hi ih
    refine V_iload_n d_Mo_between_4 rfl ?_
    refine V_aload_n d_Mo_between_5 rfl ?_
    refine V_getI d_Mo_between_6 f_Mo_102 rfl (by first | rfl | assumption) (by first | rfl | assumption) ?_
    rw [hl.2.1]
    refine V_icmp_ge (tgt := 53) d_Mo_between_9 (by decide) (fun b9 => ?_) (fun b9 => ?_)
    · obtain rfl := ge_eq b9 rfl rfl (by omega) hi
      refine V_aload_n d_Mo_between_53 rfl ?_
      refine V_iload_n d_Mo_between_54 rfl ?_
      refine V_put (ty := .int) d_Mo_between_55 f_Mo_164 rfl (by first | rfl | assumption) (by first | rfl | assumption) (by decide +kernel) (by first | rfl | assumption) (by first | rfl | assumption) ?_
      refine V_iconst (v := -1) d_Mo_between_58 (by decide) ?_
      refine V_iret d_Mo_between_59 rfl ?_
      exact ⟨rfl, rfl⟩
    · have hin' := nge_lt b9 rfl rfl (by omega) hi
      have hbo := ok.2.2.2.1 i hin'
      have hbr := hl.2.2.2.1 i hin'
      have ih := ih hin'
      have hle := fa_cnt_le (crs D ds) i
      have df := hd (dFr D i) (by omega)
      have dt := hd (dTo D i) (by omega)
      refine V_aload_n d_Mo_between_12 rfl ?_
      refine V_getR d_Mo_between_13 f_Mo_51 rfl (by first | rfl | assumption) (by first | rfl | assumption) ?_
      refine V_aload_n d_Mo_between_16 rfl ?_
      refine V_getR d_Mo_between_17 f_Mo_22 rfl (by first | rfl | assumption) (by first | rfl | assumption) ?_
      refine V_iload_n d_Mo_between_20 rfl ?_
      refine V_iald d_Mo_between_21 (by first | rfl | assumption) (by first | assumption | exact vp_in_nI (by omega) (by omega)) ?_
      rw [nI_clamp (by omega), hbr.1]
      refine V_iald d_Mo_between_22 (by first | rfl | assumption) (by first | assumption | exact vp_in_nI (by omega) (by omega)) ?_
      refine V_aload_n d_Mo_between_23 rfl ?_
      refine V_getR d_Mo_between_24 f_Mo_51 rfl (by first | rfl | assumption) (by first | rfl | assumption) ?_
      refine V_aload_n d_Mo_between_27 rfl ?_
      refine V_getR d_Mo_between_28 f_Mo_25 rfl (by first | rfl | assumption) (by first | rfl | assumption) ?_
      refine V_iload_n d_Mo_between_31 rfl ?_
      refine V_iald d_Mo_between_32 (by first | rfl | assumption) (by first | assumption | exact vp_in_nI (by omega) (by omega)) ?_
      rw [nI_clamp (by omega), hbr.2.1]
      refine V_iald d_Mo_between_33 (by first | rfl | assumption) (by first | assumption | exact vp_in_nI (by omega) (by omega)) ?_
      rw [nI_clamp (by omega), nI_clamp (by omega), df.2, dt.2]
      refine V_icmp_eq (tgt := 47) d_Mo_between_34 (by decide) (fun b34 => ?_) (fun b34 => ?_)
      · have heq := (nI_eq (by omega) (by omega)).mp b34
        refine V_iincw (w := 1) d_Mo_between_47 rfl (by decide) (by decide) ?_
        dsimp only [List.set]
        refine V_goto (tgt := 4) d_Mo_between_50 (by decide) ?_
        rw [nI_1]
        rw [fa_cnt_no (by unfold crs; simp [heq])] at ih
        exact ih
      · have hne : ¬ ds (dFr D i) = ds (dTo D i) := fun z => b34 (by rw [z])
        refine V_iload_n d_Mo_between_37 rfl ?_
        refine V_iload_n d_Mo_between_38 rfl ?_
        refine V_icmp_ne (tgt := 44) d_Mo_between_39 (by decide) (fun b39 => ?_) (fun b39 => ?_)
        · refine V_iincw (w := 1) d_Mo_between_44 rfl (by decide) (by decide) ?_
          dsimp only [List.set]
          refine V_iincw (w := 1) d_Mo_between_47 rfl (by decide) (by decide) ?_
          dsimp only [List.set]
          refine V_goto (tgt := 4) d_Mo_between_50 (by decide) ?_
          rw [nI_1, nI_1]
          rw [fa_cnt_yes (by unfold crs; simp [hne])] at ih
          exact ih
        · have hp : ¬ nI (fa_cnt (crs D ds) i) < 0 := nI_pos (by omega)
          rw [b39] at hp
          exact absurd (by decide) hp
  exact loop 0 (Nat.zero_le _)
theorem c_betweenK {E : Wd} {h : Hp} {D : LD} (hl : MoLand h D) (ok : okLD D) {ds : Nat → Nat} (hd : MoDs h ds) {k b : Nat} (hk : isNth (crs D ds) (dB D) k b) : Cd E 0 m_Mo_between [.ref 41, .int (nI k)] h (some (.int (nI b))) h := by
  have hB := ok.2.1
  have hN := ok.1
  have hkl := nth_lt hk
  have hkl2 := fa_cnt_le (crs D ds) (dB D)
  refine Cd_of ok_Mo_between rfl (Nat.le_of_ble_eq_true rfl) (L := [some (.ref 41), some (.int (nI k)), none, none]) rfl ?_
  refine V_iconst (v := 0) d_Mo_between_0 (by decide) ?_
  refine V_istore_n d_Mo_between_1 (by decide) ?_
  dsimp only [List.set]
  refine V_iconst (v := 0) d_Mo_between_2 (by decide) ?_
  refine V_istore_n d_Mo_between_3 (by decide) ?_
  dsimp only [List.set]
  have loop : ∀ i, i ≤ dB D → i ≤ b → V E 0 m_Mo_between (fun v' h' => v' = some (.int (nI b)) ∧ h' = h) 4 [some (.ref 41), some (.int (nI k)), some (.int (nI (fa_cnt (crs D ds) i))), some (.int (nI i))] [] h := by
    refine up_ind (dB D) ?_
    intro i hi ih hib
    have hb := hk.1
    refine V_iload_n d_Mo_between_4 rfl ?_
    refine V_aload_n d_Mo_between_5 rfl ?_
    refine V_getI d_Mo_between_6 f_Mo_102 rfl (by first | rfl | assumption) (by first | rfl | assumption) ?_
    rw [hl.2.1]
    refine V_icmp_ge (tgt := 53) d_Mo_between_9 (by decide) (fun b9 => ?_) (fun b9 => ?_)
    · obtain rfl := ge_eq b9 rfl rfl (by omega) hi
      omega
    · have hin' := nge_lt b9 rfl rfl (by omega) hi
      have hbo := ok.2.2.2.1 i hin'
      have hbr := hl.2.2.2.1 i hin'
      have ih := ih hin'
      have hle := fa_cnt_le (crs D ds) i
      have df := hd (dFr D i) (by omega)
      have dt := hd (dTo D i) (by omega)
      refine V_aload_n d_Mo_between_12 rfl ?_
      refine V_getR d_Mo_between_13 f_Mo_51 rfl (by first | rfl | assumption) (by first | rfl | assumption) ?_
      refine V_aload_n d_Mo_between_16 rfl ?_
      refine V_getR d_Mo_between_17 f_Mo_22 rfl (by first | rfl | assumption) (by first | rfl | assumption) ?_
      refine V_iload_n d_Mo_between_20 rfl ?_
      refine V_iald d_Mo_between_21 (by first | rfl | assumption) (by first | assumption | exact vp_in_nI (by omega) (by omega)) ?_
      rw [nI_clamp (by omega), hbr.1]
      refine V_iald d_Mo_between_22 (by first | rfl | assumption) (by first | assumption | exact vp_in_nI (by omega) (by omega)) ?_
      refine V_aload_n d_Mo_between_23 rfl ?_
      refine V_getR d_Mo_between_24 f_Mo_51 rfl (by first | rfl | assumption) (by first | rfl | assumption) ?_
      refine V_aload_n d_Mo_between_27 rfl ?_
      refine V_getR d_Mo_between_28 f_Mo_25 rfl (by first | rfl | assumption) (by first | rfl | assumption) ?_
      refine V_iload_n d_Mo_between_31 rfl ?_
      refine V_iald d_Mo_between_32 (by first | rfl | assumption) (by first | assumption | exact vp_in_nI (by omega) (by omega)) ?_
      rw [nI_clamp (by omega), hbr.2.1]
      refine V_iald d_Mo_between_33 (by first | rfl | assumption) (by first | assumption | exact vp_in_nI (by omega) (by omega)) ?_
      rw [nI_clamp (by omega), nI_clamp (by omega), df.2, dt.2]
      refine V_icmp_eq (tgt := 47) d_Mo_between_34 (by decide) (fun b34 => ?_) (fun b34 => ?_)
      · have heq := (nI_eq (by omega) (by omega)).mp b34
        have hno : crs D ds i = false := by unfold crs; simp [heq]
        refine V_iincw (w := 1) d_Mo_between_47 rfl (by decide) (by decide) ?_
        dsimp only [List.set]
        refine V_goto (tgt := 4) d_Mo_between_50 (by decide) ?_
        rw [nI_1]
        rw [fa_cnt_no hno] at ih
        refine ih ?_
        rcases Nat.lt_or_ge i b with c | c
        · omega
        · rw [show b = i by omega, isNth, hno] at hk
          exact absurd hk.2.1 (by decide)
      · have hne : ¬ ds (dFr D i) = ds (dTo D i) := fun z => b34 (by rw [z])
        have hyes : crs D ds i = true := by unfold crs; simp [hne]
        refine V_iload_n d_Mo_between_37 rfl ?_
        refine V_iload_n d_Mo_between_38 rfl ?_
        refine V_icmp_ne (tgt := 44) d_Mo_between_39 (by decide) (fun b39 => ?_) (fun b39 => ?_)
        · have hnk : ¬ fa_cnt (crs D ds) i = k := fun z => b39 (by rw [z])
          refine V_iincw (w := 1) d_Mo_between_44 rfl (by decide) (by decide) ?_
          dsimp only [List.set]
          refine V_iincw (w := 1) d_Mo_between_47 rfl (by decide) (by decide) ?_
          dsimp only [List.set]
          refine V_goto (tgt := 4) d_Mo_between_50 (by decide) ?_
          rw [nI_1, nI_1]
          rw [fa_cnt_yes hyes] at ih
          refine ih ?_
          rcases Nat.lt_or_ge i b with c | c
          · omega
          · rw [show b = i by omega, isNth] at hk
            exact absurd hk.2.2 hnk
        · have hek : fa_cnt (crs D ds) i = k := (nI_eq (by omega) (by omega)).mp b39
          have hib2 : i = b := nth_one ⟨hin', hyes, hek⟩ hk
          refine V_iload_n d_Mo_between_42 rfl ?_
          refine V_iret d_Mo_between_43 rfl ?_
          rw [hib2]
          exact ⟨rfl, rfl⟩
  exact loop 0 (Nat.zero_le _) (Nat.zero_le _)
