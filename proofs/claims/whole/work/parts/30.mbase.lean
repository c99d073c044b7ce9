/-! the model's cells and small methods -/
def MoLand (h : Hp) (D : LD) : Prop := h 41 4 = nI (dN D) ∧ h 41 8 = nI (dB D) ∧
  (∀ p, p < dN D → h 42 p = dPe D p ∧ h 43 (2 * p) = dZe D p ∧ h 43 (2 * p + 1) = dOn D p ∧ h 44 p = dAr D p ∧ h 45 p = nI (dTw D p)) ∧
  (∀ b, b < dB D → h 46 b = nI (dFr D b) ∧ h 47 b = nI (dTo D b) ∧ h 48 b = dLn D b) ∧ ∀ i, i < 30 → h 49 i = mI (dNb D i)
def MoLaw (h : Hp) (w : LW) : Prop := h 41 10 = nI (wK w) ∧ h 41 11 = nI (wT w) ∧ h 41 13 = nI (wC w) ∧ (∀ t, t < 10 → h 50 t = if wKp w t then 1 else 0) ∧ ∀ p, p < 30 → h 51 p = fxI (wFx w p)
def MoDs (h : Hp) (ds : Nat → Nat) : Prop := ∀ j, j < 30 → ds j < 6 ∧ h 52 j = nI (ds j)
/-- the model's land and law stay -/
def mKeep (h h' : Hp) : Prop := (∀ q, 42 ≤ q → q ≤ 51 → h' q = h q) ∧ h' 41 4 = h 41 4 ∧ h' 41 8 = h 41 8 ∧ h' 41 10 = h 41 10 ∧ h' 41 11 = h 41 11 ∧ h' 41 13 = h 41 13
theorem mKeep.rf (h : Hp) : mKeep h h := ⟨fun _ _ _ => rfl, rfl, rfl, rfl, rfl, rfl⟩
theorem mKeep.tr {h h' h2 : Hp} (a : mKeep h h') (b : mKeep h' h2) : mKeep h h2 := ⟨fun q h1 h3 => (b.1 q h1 h3).trans (a.1 q h1 h3), b.2.1.trans a.2.1, b.2.2.1.trans a.2.2.1, b.2.2.2.1.trans a.2.2.2.1, b.2.2.2.2.1.trans a.2.2.2.2.1, b.2.2.2.2.2.trans a.2.2.2.2.2⟩
theorem MoLand.of {h h' : Hp} {D : LD} (hl : MoLand h D) (e : mKeep h h') : MoLand h' D := by
  unfold MoLand
  rw [e.2.1, e.2.2.1, e.1 42 (by omega) (by omega), e.1 43 (by omega) (by omega), e.1 44 (by omega) (by omega), e.1 45 (by omega) (by omega), e.1 46 (by omega) (by omega), e.1 47 (by omega) (by omega), e.1 48 (by omega) (by omega), e.1 49 (by omega) (by omega)]
  exact hl
theorem MoLaw.of {h h' : Hp} {w : LW} (hl : MoLaw h w) (e : mKeep h h') : MoLaw h' w := by
  unfold MoLaw
  rw [e.2.2.2.1, e.2.2.2.2.1, e.2.2.2.2.2, e.1 50 (by omega) (by omega), e.1 51 (by omega) (by omega)]
  exact hl
theorem mKeep.row {h : Hp} {o : Nat} {f : Nat → Int32} (ho : 51 < o) : mKeep h (hrow h o f) := ⟨fun q _ h2 => hrow_ne (by omega), by rw [hrow_ne (by omega)], by rw [hrow_ne (by omega)], by rw [hrow_ne (by omega)], by rw [hrow_ne (by omega)], by rw [hrow_ne (by omega)]⟩
theorem mKeep.fld {h : Hp} {k : Nat} {x : Int32} (hk : 16 ≤ k) : mKeep h (hup h 41 k x) := ⟨fun q h1 _ => hup_ne (by omega), by rw [hup_same, upd_n (by omega)], by rw [hup_same, upd_n (by omega)], by rw [hup_same, upd_n (by omega)], by rw [hup_same, upd_n (by omega)], by rw [hup_same, upd_n (by omega)]⟩
theorem MoDs.of {h h' : Hp} {ds : Nat → Nat} (hd : MoDs h ds) (e : h' 52 = h 52) : MoDs h' ds := fun j hj => by rw [e]; exact hd j hj
theorem c_Min {E : Wd} (h : Hp) (v lo hi : Int32) : Cd E 0 m_Mo_in [.int v, .int lo, .int hi] h (some (.int (if lo ≤ v ∧ v ≤ hi then 1 else 0))) h := by
  refine Cd_of ok_Mo_in rfl (Nat.le_of_ble_eq_true rfl) (L := [some (.int v), some (.int lo), some (.int hi)]) rfl ?_
  refine V_iload_n d_Mo_in_0 rfl ?_
  refine V_iload_n d_Mo_in_1 rfl ?_
  refine V_icmp_lt (tgt := 14) d_Mo_in_2 (by decide) (fun b2 => ?_) (fun b2 => ?_)
  · refine V_iconst (v := 0) d_Mo_in_14 (by decide) ?_
    refine V_zret d_Mo_in_15 rfl (by first | rfl | decide | assumption) ?_
    exact ⟨by rw [if_neg (fun q => (fa_of_lt b2).2.1 q.1)], rfl⟩
  · refine V_iload_n d_Mo_in_5 rfl ?_
    refine V_iload_n d_Mo_in_6 rfl ?_
    refine V_icmp_gt (tgt := 14) d_Mo_in_7 (by decide) (fun b7 => ?_) (fun b7 => ?_)
    · refine V_iconst (v := 0) d_Mo_in_14 (by decide) ?_
      refine V_zret d_Mo_in_15 rfl (by first | rfl | decide | assumption) ?_
      exact ⟨by rw [if_neg (fun q => (fa_of_lt b7).2.1 q.2)], rfl⟩
    · refine V_iconst (v := 1) d_Mo_in_10 (by decide) ?_
      refine V_goto (tgt := 15) d_Mo_in_11 (by decide) ?_
      refine V_zret d_Mo_in_15 rfl (by first | rfl | decide | assumption) ?_
      exact ⟨by rw [if_pos ⟨fa_of_nlt b2, fa_of_nlt b7⟩], rfl⟩
theorem and1_1 (y : Int32) : y &&& 1 = 1 ↔ bt y 0 = true := by
  constructor
  · intro h
    have h1 : bt (y &&& 1) 0 = true := by rw [h]; decide
    rw [b_and] at h1
    simp only [Bool.and_eq_true] at h1
    exact h1.1
  · intro h
    apply b_ext
    intro i hi
    rw [b_and, b_1 i hi]
    by_cases h0 : i = 0
    · subst h0; rw [h]; rfl
    · simp [h0]
theorem c_Mhas {E : Wd} (h : Hp) (x : Int32) {j : Nat} (hj : j < 32) : Cd E 0 m_Mo_has [.int x, .int (nI j)] h (some (.int (if bt x j then 1 else 0))) h := by
  have key : (x >>> (nI j &&& 31)) &&& 1 = 1 ↔ bt x j = true := by
    rw [and1_1, b_sshr j hj x (by omega), if_pos (by omega)]
    rfl
  refine Cd_of ok_Mo_has rfl (Nat.le_of_ble_eq_true rfl) (L := [some (.int x), some (.int (nI j))]) rfl ?_
  refine V_iload_n d_Mo_has_0 rfl ?_
  refine V_iload_n d_Mo_has_1 rfl ?_
  refine V_ishr d_Mo_has_2 ?_
  refine V_iconst (v := 1) d_Mo_has_3 (by decide) ?_
  refine V_iand d_Mo_has_4 ?_
  refine V_iconst (v := 1) d_Mo_has_5 (by decide) ?_
  refine V_icmp_ne (tgt := 13) d_Mo_has_6 (by decide) (fun b6 => ?_) (fun b6 => ?_)
  · refine V_iconst (v := 0) d_Mo_has_13 (by decide) ?_
    refine V_zret d_Mo_has_14 rfl (by first | rfl | decide | assumption) ?_
    cases hb : bt x j with
    | true => exact absurd (key.mpr hb) b6
    | false => exact ⟨rfl, rfl⟩
  · refine V_iconst (v := 1) d_Mo_has_9 (by decide) ?_
    refine V_goto (tgt := 14) d_Mo_has_10 (by decide) ?_
    refine V_zret d_Mo_has_14 rfl (by first | rfl | decide | assumption) ?_
    rw [key.mp b6]
    exact ⟨rfl, rfl⟩
theorem mI_b {P : Nat → Bool} {j : Nat} (hj : j < 30) : bt (mI P) j = P j := by rw [mI_bit]; simp [hj]
theorem isPl_lt {n : Nat} (hn : n ≤ 30) (x : Int32) : (0 ≤ x ∧ x < nI n) ↔ ∃ j, j < n ∧ x = nI j := by
  constructor
  · rintro ⟨h1, h2⟩
    obtain ⟨j, hj, rfl⟩ := nI_of (x := x) (fun q => (fa_of_lt q).2.1 h1)
    exact ⟨j, (nI_ltI hj (by omega)).mp h2, rfl⟩
  · rintro ⟨j, hj, rfl⟩
    exact ⟨nI_pos' (by omega), nI_lt hj (by omega)⟩
theorem c_isPlace {E : Wd} {h : Hp} {D : LD} (hl : MoLand h D) (ok : okLD D) (x : Int32) : Cd E 0 m_Mo_isPlace [.ref 41, .int x] h (some (.int (if isPl (dN D) x then 1 else 0))) h := by
  have key : isPl (dN D) x = true ↔ (0 ≤ x ∧ x < nI (dN D)) := isPl_iff.trans (isPl_lt ok.1 x).symm
  refine Cd_of ok_Mo_isPlace rfl (Nat.le_of_ble_eq_true rfl) (L := [some (.ref 41), some (.int x)]) rfl ?_
  refine V_iload_n d_Mo_isPlace_0 rfl ?_
  refine V_if_lt (tgt := 16) d_Mo_isPlace_1 (by decide) (fun b1 => ?_) (fun b1 => ?_)
  · refine V_iconst (v := 0) d_Mo_isPlace_16 (by decide) ?_
    refine V_zret d_Mo_isPlace_17 rfl (by first | rfl | decide | assumption) ?_
    cases hb : isPl (dN D) x with
    | true => exact absurd (key.mp hb).1 (fa_of_lt b1).2.1
    | false => exact ⟨rfl, rfl⟩
  · refine V_iload_n d_Mo_isPlace_4 rfl ?_
    refine V_aload_n d_Mo_isPlace_5 rfl ?_
    refine V_getI d_Mo_isPlace_6 f_Mo_91 rfl (by first | rfl | assumption) (by first | rfl | assumption) ?_
    rw [hl.1]
    refine V_icmp_ge (tgt := 16) d_Mo_isPlace_9 (by decide) (fun b9 => ?_) (fun b9 => ?_)
    · refine V_iconst (v := 0) d_Mo_isPlace_16 (by decide) ?_
      refine V_zret d_Mo_isPlace_17 rfl (by first | rfl | decide | assumption) ?_
      cases hb : isPl (dN D) x with
      | true => exact absurd b9 (fa_of_lt (key.mp hb).2).2.1
      | false => exact ⟨rfl, rfl⟩
    · refine V_iconst (v := 1) d_Mo_isPlace_12 (by decide) ?_
      refine V_goto (tgt := 17) d_Mo_isPlace_13 (by decide) ?_
      refine V_zret d_Mo_isPlace_17 rfl (by first | rfl | decide | assumption) ?_
      rw [key.mpr ⟨fa_of_nlt b1, fa_of_nle b9⟩]
      exact ⟨rfl, rfl⟩
theorem shl1 : ∀ p, p < 30 → (1 : Int32) <<< (nI p &&& 31) = mI (fun j => decide (j = p)) := by decide +kernel
theorem shl1m : ∀ n, n ≤ 30 → (1 : Int32) <<< (nI n &&& 31) - 1 = mI (fun j => decide (j < n)) := by
  have : ∀ n, n < 31 → (1 : Int32) <<< (nI n &&& 31) - 1 = mI (fun j => decide (j < n)) := by decide +kernel
  exact fun n hn => this n (by omega)
theorem hi_mor {x y : Int32} (hx : hi0 x) (hy : hi0 y) : hi0 (x ||| y) := hi_or hx hy
theorem mI_or (P Q : Nat → Bool) : mI P ||| mI Q = mI (fun j => P j || Q j) := mI_eq (hi_or (mI_hi _) (mI_hi _)) (fun j hj => by rw [b_or, mI_b hj, mI_b hj])
theorem mI_and (P Q : Nat → Bool) : mI P &&& mI Q = mI (fun j => P j && Q j) := mI_eq (hi_and (mI_hi _)) (fun j hj => by rw [b_and, mI_b hj, mI_b hj])
theorem mI_dif (P Q : Nat → Bool) : mI P &&& (mI Q ^^^ -1) = mI (fun j => P j && !Q j) := mI_eq (hi_and (mI_hi _)) (fun j hj => by rw [b_and, b_not _ (by omega), mI_b hj, mI_b hj])
theorem mI_eq0 {P : Nat → Bool} : mI P = 0 ↔ ∀ j, j < 30 → P j = false := by
  constructor
  · intro h j hj
    have := mI_b (P := P) hj
    rw [h, b_0] at this
    exact this.symm
  · intro h
    rw [mI_cong (P' := fun _ => false) h]
    decide +kernel
theorem mI_0 : mI (fun _ => false) = 0 := by decide +kernel
theorem c_bitsOf {E : Wd} {h : Hp} {D : LD} (hl : MoLand h D) (ok : okLD D) {ds : Nat → Nat} (hd : MoDs h ds) {e : Nat} (he : e < 2 ^ 31) : Cd E 0 m_Mo_bitsOf [.ref 41, .int (nI e)] h (some (.int (mI (dP D ds e)))) h := by
  have hn := ok.1
  refine Cd_of ok_Mo_bitsOf rfl (Nat.le_of_ble_eq_true rfl) (L := [some (.ref 41), some (.int (nI e)), none, none]) rfl ?_
  refine V_iconst (v := 0) d_Mo_bitsOf_0 (by decide) ?_
  refine V_istore_n d_Mo_bitsOf_1 (by decide) ?_
  dsimp only [List.set]
  refine V_iconst (v := 0) d_Mo_bitsOf_2 (by decide) ?_
  refine V_istore_n d_Mo_bitsOf_3 (by decide) ?_
  dsimp only [List.set]
  have loop : ∀ i, i ≤ dN D → V E 0 m_Mo_bitsOf (fun v' h' => v' = some (.int (mI (dP D ds e))) ∧ h' = h) 4 [some (.ref 41), some (.int (nI e)), some (.int (mI (fun j => decide (j < i) && decide (ds j = e)))), some (.int (nI i))] [] h := by
    refine up_ind (dN D) ?_
    intro i hi ih
    refine V_iload_n d_Mo_bitsOf_4 rfl ?_
    refine V_aload_n d_Mo_bitsOf_5 rfl ?_
    refine V_getI d_Mo_bitsOf_6 f_Mo_91 rfl (by first | rfl | assumption) (by first | rfl | assumption) ?_
    rw [hl.1]
    refine V_icmp_ge (tgt := 38) d_Mo_bitsOf_9 (by decide) (fun b9 => ?_) (fun b9 => ?_)
    · obtain rfl := ge_eq b9 rfl rfl (by omega) hi
      refine V_iload_n d_Mo_bitsOf_38 rfl ?_
      refine V_iret d_Mo_bitsOf_39 rfl ?_
      exact ⟨rfl, rfl⟩
    · have hin' := nge_lt b9 rfl rfl (by omega) hi
      have hin : vp_in (nI i) 30 := vp_in_nI (by omega) (by omega)
      have hdi := hd i (by omega)
      have ih := ih hin'
      refine V_iload_n d_Mo_bitsOf_12 rfl ?_
      refine V_aload_n d_Mo_bitsOf_13 rfl ?_
      refine V_getR d_Mo_bitsOf_14 f_Mo_51 rfl (by first | rfl | assumption) (by first | rfl | assumption) ?_
      refine V_iload_n d_Mo_bitsOf_17 rfl ?_
      refine V_iald d_Mo_bitsOf_18 (by first | rfl | assumption) (by first | assumption | exact vp_in_nI (by omega) (by omega)) ?_
      rw [nI_clamp (by omega), hdi.2]
      refine V_iload_n d_Mo_bitsOf_19 rfl ?_
      refine V_icmp_ne (tgt := 29) d_Mo_bitsOf_20 (by decide) (fun b20 => ?_) (fun b20 => ?_)
      · have hne : ¬ ds i = e := fun q => b20 (by rw [q])
        refine V_iconst (v := 0) d_Mo_bitsOf_29 (by decide) ?_
        refine V_ior d_Mo_bitsOf_30 ?_
        refine V_istore_n d_Mo_bitsOf_31 (by decide) ?_
        dsimp only [List.set]
        refine V_iincw (w := 1) d_Mo_bitsOf_32 rfl (by decide) (by decide) ?_
        dsimp only [List.set]
        refine V_goto (tgt := 4) d_Mo_bitsOf_35 (by decide) ?_
        rw [nI_1, ← mI_0, mI_or]
        rw [mI_cong (P := fun j => decide (j < i + 1) && decide (ds j = e)) (P' := fun j => decide (j < i) && decide (ds j = e) || false) (fun j hj => ?_)] at ih
        · exact ih
        · by_cases q : j = i
          · subst q; simp [hne]
          · rw [show decide (j < i + 1) = decide (j < i) from decide_eq_decide.mpr (by omega)]; simp
      · have heq : ds i = e := (nI_eq (by omega) he).mp b20
        refine V_iconst (v := 1) d_Mo_bitsOf_23 (by decide) ?_
        refine V_iload_n d_Mo_bitsOf_24 rfl ?_
        refine V_ishl d_Mo_bitsOf_25 ?_
        refine V_goto (tgt := 30) d_Mo_bitsOf_26 (by decide) ?_
        refine V_ior d_Mo_bitsOf_30 ?_
        refine V_istore_n d_Mo_bitsOf_31 (by decide) ?_
        dsimp only [List.set]
        refine V_iincw (w := 1) d_Mo_bitsOf_32 rfl (by decide) (by decide) ?_
        dsimp only [List.set]
        refine V_goto (tgt := 4) d_Mo_bitsOf_35 (by decide) ?_
        rw [nI_1, shl1 i (by omega), mI_or]
        rw [mI_cong (P := fun j => decide (j < i + 1) && decide (ds j = e)) (P' := fun j => decide (j < i) && decide (ds j = e) || decide (j = i)) (fun j hj => ?_)] at ih
        · exact ih
        · by_cases q : j = i
          · subst q; simp [heq]
          · rw [show decide (j < i + 1) = decide (j < i) from decide_eq_decide.mpr (by omega)]; simp [q]
  have h0 := loop 0 (Nat.zero_le _)
  rw [mI_cong (P := fun j => decide (j < 0) && decide (ds j = e)) (P' := fun _ => false) (fun j _ => by simp), mI_0] at h0
  exact h0
theorem c_peopleOf {E : Wd} {h : Hp} {D : LD} (hl : MoLand h D) (ok : okLD D) (P : Nat → Bool) : Cd E 1 m_Mo_peopleOf [.ref 41, .int (mI P)] h (some (.int (nI (pplN D P)))) h := by
  have hn := ok.1
  have e0 : nI (pplN D P) = smP (dPe D) P (dN D) := (smP_nI (fun i hi => (pe_nI ok hi).1)).symm
  rw [e0]
  refine Cd_of ok_Mo_peopleOf rfl (Nat.le_of_ble_eq_true rfl) (L := [some (.ref 41), some (.int (mI P)), none, none]) rfl ?_
  refine V_iconst (v := 0) d_Mo_peopleOf_0 (by decide) ?_
  refine V_istore_n d_Mo_peopleOf_1 (by decide) ?_
  dsimp only [List.set]
  refine V_iconst (v := 0) d_Mo_peopleOf_2 (by decide) ?_
  refine V_istore_n d_Mo_peopleOf_3 (by decide) ?_
  dsimp only [List.set]
  have loop : ∀ i, i ≤ dN D → V E 1 m_Mo_peopleOf (fun v' h' => v' = some (.int (smP (dPe D) P (dN D))) ∧ h' = h) 4 [some (.ref 41), some (.int (mI P)), some (.int (smP (dPe D) P i)), some (.int (nI i))] [] h := by
    refine up_ind (dN D) ?_
    intro i hi ih
    refine V_iload_n d_Mo_peopleOf_4 rfl ?_
    refine V_aload_n d_Mo_peopleOf_5 rfl ?_
    refine V_getI d_Mo_peopleOf_6 f_Mo_91 rfl (by first | rfl | assumption) (by first | rfl | assumption) ?_
    rw [hl.1]
    refine V_icmp_ge (tgt := 39) d_Mo_peopleOf_9 (by decide) (fun b9 => ?_) (fun b9 => ?_)
    · obtain rfl := ge_eq b9 rfl rfl (by omega) hi
      refine V_iload_n d_Mo_peopleOf_39 rfl ?_
      refine V_iret d_Mo_peopleOf_40 rfl ?_
      exact ⟨rfl, rfl⟩
    · have hin' := nge_lt b9 rfl rfl (by omega) hi
      have hin : vp_in (nI i) 30 := vp_in_nI (by omega) (by omega)
      have ih := ih hin'
      rw [smP] at ih
      refine V_iload_n d_Mo_peopleOf_12 rfl ?_
      refine V_iload_n d_Mo_peopleOf_13 rfl ?_
      refine V_iload_n d_Mo_peopleOf_14 rfl ?_
      refine V_callS1 d_Mo_peopleOf_15 k_Mo_98 rfl (c_Mhas h (mI P) (show i < 32 by omega)) rfl (by first | decide | omega) rfl (Nat.le_of_ble_eq_true rfl) ?_
      rw [mI_b (by omega)]
      refine V_if_eq (tgt := 30) d_Mo_peopleOf_18 (by decide) (fun b18 => ?_) (fun b18 => ?_)
      · rw [b2i.mp b18] at ih
        refine V_iconst (v := 0) d_Mo_peopleOf_30 (by decide) ?_
        refine V_iadd d_Mo_peopleOf_31 ?_
        refine V_istore_n d_Mo_peopleOf_32 (by decide) ?_
        dsimp only [List.set]
        refine V_iincw (w := 1) d_Mo_peopleOf_33 rfl (by decide) (by decide) ?_
        dsimp only [List.set]
        refine V_goto (tgt := 4) d_Mo_peopleOf_36 (by decide) ?_
        rw [nI_1]
        exact ih
      · rw [b2in.mp b18] at ih
        refine V_aload_n d_Mo_peopleOf_21 rfl ?_
        refine V_getR d_Mo_peopleOf_22 f_Mo_9 rfl (by first | rfl | assumption) (by first | rfl | assumption) ?_
        refine V_iload_n d_Mo_peopleOf_25 rfl ?_
        refine V_iald d_Mo_peopleOf_26 (by first | rfl | assumption) (by first | assumption | exact vp_in_nI (by omega) (by omega)) ?_
        refine V_goto (tgt := 31) d_Mo_peopleOf_27 (by decide) ?_
        refine V_iadd d_Mo_peopleOf_31 ?_
        refine V_istore_n d_Mo_peopleOf_32 (by decide) ?_
        dsimp only [List.set]
        refine V_iincw (w := 1) d_Mo_peopleOf_33 rfl (by decide) (by decide) ?_
        dsimp only [List.set]
        refine V_goto (tgt := 4) d_Mo_peopleOf_36 (by decide) ?_
        rw [nI_1, nI_clamp (by omega), (hl.2.2.1 i hin').1]
        exact ih
  exact loop 0 (Nat.zero_le _)
theorem c_all {E : Wd} {h : Hp} {D : LD} (hl : MoLand h D) (ok : okLD D) : Cd E 2 m_Mo_all [.ref 41] h (some (.int (nI (tot D)))) h := by
  refine Cd_of ok_Mo_all rfl (Nat.le_of_ble_eq_true rfl) (L := [some (.ref 41)]) rfl ?_
  refine V_aload_n d_Mo_all_0 rfl ?_
  refine V_iconst (v := 1) d_Mo_all_1 (by decide) ?_
  refine V_aload_n d_Mo_all_2 rfl ?_
  refine V_getI d_Mo_all_3 f_Mo_91 rfl (by first | rfl | assumption) (by first | rfl | assumption) ?_
  refine V_ishl d_Mo_all_6 ?_
  refine V_iconst (v := 1) d_Mo_all_7 (by decide) ?_
  refine V_isub d_Mo_all_8 ?_
  rw [hl.1, shl1m _ ok.1]
  refine V_callV1 d_Mo_all_9 k_Mo_105 rfl (c_peopleOf hl ok _) (by first | rfl | assumption) rfl rfl (by first | decide | omega) rfl (Nat.le_of_ble_eq_true rfl) ?_
  refine V_iret d_Mo_all_12 rfl ?_
  refine ⟨?_, rfl⟩
  rw [show pplN D (fun j => decide (j < dN D)) = tot D from smN_cong (fun i hi => by simp [hi])]
theorem c_leastOf {E : Wd} (h : Hp) {P : Nat → Bool} {a : Nat} (ha : fstO P 30 = some a) : Cd E 1 m_Mo_leastOf [.int (mI P)] h (some (.int (nI a))) h := by
  obtain ⟨ha30, hPa, hno⟩ := fstO_lt ha
  refine Cd_of ok_Mo_leastOf rfl (Nat.le_of_ble_eq_true rfl) (L := [some (.int (mI P)), none]) rfl ?_
  refine V_iconst (v := 0) d_Mo_leastOf_0 (by decide) ?_
  refine V_istore_n d_Mo_leastOf_1 (by decide) ?_
  dsimp only [List.set]
  have loop : ∀ i, i ≤ a → V E 1 m_Mo_leastOf (fun v' h' => v' = some (.int (nI a)) ∧ h' = h) 2 [some (.int (mI P)), some (.int (nI i))] [] h := by
    refine up_ind a ?_
    intro i hi ih
    refine V_iload_n d_Mo_leastOf_2 rfl ?_
    refine V_iload_n d_Mo_leastOf_3 rfl ?_
    refine V_callS1 d_Mo_leastOf_4 k_Mo_98 rfl (c_Mhas h (mI P) (show i < 32 by omega)) rfl (by first | decide | omega) rfl (Nat.le_of_ble_eq_true rfl) ?_
    rw [mI_b (by omega)]
    refine V_if_ne (tgt := 16) d_Mo_leastOf_7 (by decide) (fun b7 => ?_) (fun b7 => ?_)
    · refine V_iload_n d_Mo_leastOf_16 rfl ?_
      refine V_iret d_Mo_leastOf_17 rfl ?_
      have : i = a := by
        rcases Nat.lt_or_ge i a with q | q
        · have := b2in.mp b7
          rw [hno i q] at this
          cases this
        · omega
      exact ⟨by rw [this], rfl⟩
    · have hia : i < a := by
        rcases Nat.lt_or_ge i a with q | q
        · exact q
        · have e : i = a := by omega
          have := b2i.mp b7
          rw [e, hPa] at this
          cases this
      refine V_iincw (w := 1) d_Mo_leastOf_10 rfl (by decide) (by decide) ?_
      dsimp only [List.set]
      refine V_goto (tgt := 2) d_Mo_leastOf_13 (by decide) ?_
      rw [nI_1]
      exact ih hia
  exact loop 0 (Nat.zero_le _)
