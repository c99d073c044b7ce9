theorem cs_0 (j : Nat) : cs 0 j = false := b_0 _
theorem cI_ne0 {P : Nat → Bool} : cI P ≠ 0 ↔ ∃ j, j < 30 ∧ P j = true := by
  constructor
  · intro h
    obtain ⟨k, hk, h1, -⟩ := low30 (cI_hi P) h
    rw [cI_bit] at h1
    simp only [Bool.and_eq_true] at h1
    exact ⟨29 - k, by omega, h1.2⟩
  · rintro ⟨j, hj, hP⟩ h
    have := cI_cs P hj
    rw [h, cs_0, hP] at this
    cases this
theorem cI_eq0 {P : Nat → Bool} : cI P = 0 ↔ ∀ j, j < 30 → P j = false := by
  constructor
  · intro h j hj
    have := cI_cs P hj
    rw [h, cs_0] at this
    exact this.symm
  · intro h
    apply Classical.byContradiction
    intro hn
    obtain ⟨j, hj, hP⟩ := cI_ne0.mp hn
    rw [h j hj] at hP
    cases hP
theorem cI_and (P Q : Nat → Bool) : cI P &&& cI Q = cI (fun j => P j && Q j) := cI_eq (hi_and (cI_hi _)) (fun j hj => by rw [cs_and, cI_cs _ hj, cI_cs _ hj])
theorem cI_or (P Q : Nat → Bool) : cI P ||| cI Q = cI (fun j => P j || Q j) := cI_eq (hi_or (cI_hi _) (cI_hi _)) (fun j hj => by rw [cs_or, cI_cs _ hj, cI_cs _ hj])
theorem cI_dif (P Q : Nat → Bool) : cI P &&& (cI Q ^^^ -1) = cI (fun j => P j && !Q j) := cI_eq (hi_and (cI_hi _)) (fun j hj => by rw [cs_and, cs_not, cI_cs _ hj, cI_cs _ hj])
theorem cI_csI {S : Int32} (hS : hi0 S) : cI (cs S) = S := (cI_of hS).symm
/-- the places of a town -/
def town (D : LD) (t : Nat) : Nat → Bool := fun j => decide (j < dN D) && decide (dTw D j = t)
/-- a town is cut -/
noncomputable def cutB (D : LD) (ds : Nat → Nat) (t : Nat) : Bool := @decide (∃ i j, town D t i = true ∧ town D t j = true ∧ ds i ≠ ds j) (Classical.propDecidable _)
theorem cutB_iff {D : LD} {ds : Nat → Nat} {t : Nat} : cutB D ds t = true ↔ ∃ i j, town D t i = true ∧ town D t j = true ∧ ds i ≠ ds j := by
  unfold cutB
  exact @decide_eq_true_iff _ (Classical.propDecidable _)
theorem town_lt {D : LD} {t j : Nat} (h : town D t j = true) : j < dN D := by
  unfold town at h
  simp only [Bool.and_eq_true, decide_eq_true_eq] at h
  exact h.1
/-- the greatest place of a set that isn't empty -/
theorem cI_last {P : Nat → Bool} (h : cI P ≠ 0) : ∃ k, k < 30 ∧ bt (cI P) k = true ∧ (∀ i, i < k → bt (cI P) i = false) ∧ P (29 - k) = true ∧ ∀ j, 29 - k < j → j < 30 → P j = false := by
  obtain ⟨k, hk, h1, h2⟩ := low30 (cI_hi P) h
  refine ⟨k, hk, h1, h2, ?_, fun j hj1 hj2 => ?_⟩
  · rw [cI_bit] at h1
    simp only [Bool.and_eq_true] at h1
    exact h1.2
  · have := h2 (29 - j) (by omega)
    rw [cI_bit, show 29 - (29 - j) = j by omega] at this
    simpa [show 29 - j < 30 by omega] using this
theorem c_isCut {E : Wd} {h : Hp} {D : LD} (hl : LandW h D) (ok : okLD D) {o : Nat} (ho : isPt o) {ds : Nat → Nat} (hp : PartW h o (inN D) ds) {t : Nat} (ht : t < 10) : Cd E 2 m_Court_isCut [.ref 17, .int (nI t), .ref o] h (some (.int (if cutB D ds t then 1 else 0))) h := by
  obtain ⟨ho0, ho1, ho2⟩ := ho
  have hn := ok.1
  have hin : vp_in (nI t) 10 := vp_in_nI ht (by omega)
  refine Cd_of ok_Court_isCut rfl (Nat.le_of_ble_eq_true rfl) (L := [some (.ref 17), some (.int (nI t)), some (.ref o), none]) rfl ?_
  refine V_aload_n d_Court_isCut_0 rfl ?_
  refine V_getR d_Court_isCut_1 f_Court_9 rfl (by first | rfl | assumption) (by first | rfl | assumption) ?_
  refine V_getR d_Court_isCut_4 f_Court_97 rfl (by first | rfl | assumption) (by first | rfl | assumption) ?_
  refine V_iload_n d_Court_isCut_7 rfl ?_
  refine V_iald d_Court_isCut_8 (by first | rfl | assumption) (by first | assumption | exact vp_in_nI (by omega) (by omega)) ?_
  rw [nI_clamp (by omega), hl.2.2.2.2.2.2 t ht]
  have hT : ∀ j, (fun j => decide (j < dN D) && decide (dTw D j = t)) j = town D t j := fun j => rfl
  rw [show (fun j => decide (j < dN D) && decide (dTw D j = t)) = town D t from rfl]
  refine V_istore_n d_Court_isCut_9 (by decide) ?_
  dsimp only [List.set]
  refine V_iload_n d_Court_isCut_10 rfl ?_
  refine V_if_eq (tgt := 39) d_Court_isCut_11 (by decide) (fun b11 => ?_) (fun b11 => ?_)
  · refine V_iconst (v := 0) d_Court_isCut_39 (by decide) ?_
    refine V_zret d_Court_isCut_40 rfl (by first | rfl | decide | assumption) ?_
    refine ⟨?_, rfl⟩
    cases hb : cutB D ds t with
    | false => rfl
    | true =>
      obtain ⟨i, j, h1, -⟩ := cutB_iff.mp hb
      have h2 := town_lt h1
      rw [cI_eq0.mp b11 i (by omega)] at h1
      cases h1
  · obtain ⟨k, hk, h1, h2, h3, h4⟩ := cI_last b11
    refine V_iload_n d_Court_isCut_14 rfl ?_
    refine V_aload_n d_Court_isCut_15 rfl ?_
    refine V_getR d_Court_isCut_16 f_Court_61 rfl (by first | rfl | assumption) (by first | rfl | assumption) ?_
    refine V_aload_n d_Court_isCut_19 rfl ?_
    refine V_getR d_Court_isCut_20 f_Court_118 rfl (by first | rfl | assumption) (by first | rfl | assumption) ?_
    refine V_iload_n d_Court_isCut_23 rfl ?_
    refine V_callS1 d_Court_isCut_24 k_Court_124 rfl (c_last h hk h1 h2) rfl (by first | decide | omega) rfl (Nat.le_of_ble_eq_true rfl) ?_
    have hk2 := hp.1 (29 - k) (by omega)
    have hin2 : vp_in (nI (29 - k)) 30 := vp_in_nI (by omega) (by omega)
    refine V_iald d_Court_isCut_27 (by first | rfl | assumption) (by first | assumption | exact vp_in_nI (by omega) (by omega)) ?_
    rw [nI_clamp (by omega), hk2.2]
    have hin3 : vp_in (nI (ds (29 - k))) 6 := vp_in_nI hk2.1 (by omega)
    have hk6 := hk2.1
    refine V_iald d_Court_isCut_28 (by first | rfl | assumption) (by first | assumption | exact vp_in_nI (by omega) (by omega)) ?_
    refine V_iconst (v := -1) d_Court_isCut_29 (by decide) ?_
    refine V_ixor d_Court_isCut_30 ?_
    refine V_iand d_Court_isCut_31 ?_
    rw [nI_clamp (by omega), hp.2 _ hk2.1, cI_dif]
    refine V_if_eq (tgt := 39) d_Court_isCut_32 (by decide) (fun b32 => ?_) (fun b32 => ?_)
    · refine V_iconst (v := 0) d_Court_isCut_39 (by decide) ?_
      refine V_zret d_Court_isCut_40 rfl (by first | rfl | decide | assumption) ?_
      refine ⟨?_, rfl⟩
      cases hb : cutB D ds t with
      | false => rfl
      | true =>
        obtain ⟨i, j, q1, q2, q3⟩ := cutB_iff.mp hb
        have key : ∀ i, town D t i = true → ds i = ds (29 - k) := by
          intro i hi
          have hlt := town_lt hi
          have := cI_eq0.mp b32 i (by omega)
          rw [hi] at this
          unfold inN at this
          simp [hlt] at this
          exact this
        exact absurd ((key i q1).trans (key j q2).symm) q3
    · refine V_iconst (v := 1) d_Court_isCut_35 (by decide) ?_
      refine V_goto (tgt := 40) d_Court_isCut_36 (by decide) ?_
      refine V_zret d_Court_isCut_40 rfl (by first | rfl | decide | assumption) ?_
      refine ⟨?_, rfl⟩
      have : cutB D ds t = true := by
        obtain ⟨i, hi, hP⟩ := cI_ne0.mp b32
        simp only [Bool.and_eq_true] at hP
        refine cutB_iff.mpr ⟨i, 29 - k, hP.1, h3, fun q => ?_⟩
        have hlt := town_lt hP.1
        unfold inN at hP
        simp [hlt, q] at hP
      rw [this]
      rfl
/-- the first below n, as a number or -1 -/
def fstO (p : Nat → Bool) (n : Nat) : Option Nat := if fa_first p n < n then some (fa_first p n) else none
theorem fstO_some {p : Nat → Bool} {n i : Nat} (hi : i < n) (h1 : p i = true) (h2 : ∀ j, j < i → p j = false) : fstO p n = some i := by
  unfold fstO
  rw [first_eq hi h1 h2, if_pos hi]
theorem fstO_none {p : Nat → Bool} {n : Nat} (h : ∀ j, j < n → p j = false) : fstO p n = none := by
  unfold fstO
  rw [first_none h, if_neg (Nat.lt_irrefl n)]
theorem fstO_cong {p q : Nat → Bool} {n : Nat} (h : ∀ i, i < n → p i = q i) : fstO p n = fstO q n := by
  unfold fstO
  rw [first_cong h]
theorem fstO_none_iff {p : Nat → Bool} {n : Nat} : fstO p n = none ↔ ∀ j, j < n → p j = false := by
  constructor
  · intro h j hj
    unfold fstO at h
    split at h
    · cases h
    · exact fa_first_no p n j (by omega)
  · exact fstO_none
theorem fstO_lt {p : Nat → Bool} {n i : Nat} (h : fstO p n = some i) : i < n ∧ p i = true ∧ ∀ j, j < i → p j = false := by
  unfold fstO at h
  split at h
  · rename_i q
    have e := Option.some.inj h
    rw [← e]
    exact ⟨q, fa_first_yes p n q, fun j hj => fa_first_no p n j hj⟩
  · cases h
theorem c_cutKeptTown {E : Wd} {h : Hp} {D : LD} {w : LW} (hl : LandW h D) (ok : okLD D) (hw : LawW h w) {o : Nat} (ho : isPt o) {ds : Nat → Nat} (hp : PartW h o (inN D) ds) : Cd E 3 m_Court_cutKeptTown [.ref 17, .ref o] h (some (.int (fxI (fstO (fun t => wKp w t && cutB D ds t) 10)))) h := by
  obtain ⟨R, hR⟩ : ∃ R, R = fstO (fun t => wKp w t && cutB D ds t) 10 := ⟨_, rfl⟩
  rw [← hR]
  refine Cd_of ok_Court_cutKeptTown rfl (Nat.le_of_ble_eq_true rfl) (L := [some (.ref 17), some (.ref o), none]) rfl ?_
  refine V_iconst (v := 0) d_Court_cutKeptTown_0 (by decide) ?_
  refine V_istore_n d_Court_cutKeptTown_1 (by decide) ?_
  dsimp only [List.set]
  have loop : ∀ i, i ≤ 10 → (∀ j, j < i → (wKp w j && cutB D ds j) = false) → V E 3 m_Court_cutKeptTown (fun v' h' => v' = some (.int (fxI R)) ∧ h' = h) 2 [some (.ref 17), some (.ref o), some (.int (nI i))] [] h := by
    refine up_ind 10 ?_
    intro i hi ih hno
    refine V_iload_n d_Court_cutKeptTown_2 rfl ?_
    refine V_bipush (v := 10) d_Court_cutKeptTown_3 (by decide) ?_
    refine V_icmp_ge (tgt := 37) d_Court_cutKeptTown_5 (by decide) (fun b5 => ?_) (fun b5 => ?_)
    · obtain rfl := ge_eq b5 rfl rfl (by decide) hi
      refine V_iconst (v := -1) d_Court_cutKeptTown_37 (by decide) ?_
      refine V_iret d_Court_cutKeptTown_38 rfl ?_
      exact ⟨by rw [hR, fstO_none hno]; rfl, rfl⟩
    · have hi10 := nge_lt b5 rfl rfl (by decide) hi
      have hin : vp_in (nI i) 10 := vp_in_nI hi10 (by omega)
      have hk := hw.2.2.2.1 i hi10
      have next : (wKp w i && cutB D ds i) = false → V E 3 m_Court_cutKeptTown (fun v' h' => v' = some (.int (fxI R)) ∧ h' = h) 31 [some (.ref 17), some (.ref o), some (.int (nI i))] [] h := by
        intro hf
        refine V_iincw (w := 1) d_Court_cutKeptTown_31 rfl (by decide) (by decide) ?_
        dsimp only [List.set]
        refine V_goto (tgt := 2) d_Court_cutKeptTown_34 (by decide) ?_
        rw [nI_1]
        refine ih hi10 (fun j hj => ?_)
        rcases Nat.lt_or_ge j i with q | q
        · exact hno j q
        · rw [show j = i by omega]; exact hf
      refine V_aload_n d_Court_cutKeptTown_8 rfl ?_
      refine V_getR d_Court_cutKeptTown_9 f_Court_15 rfl (by first | rfl | assumption) (by first | rfl | assumption) ?_
      refine V_getR d_Court_cutKeptTown_12 f_Court_100 rfl (by first | rfl | assumption) (by first | rfl | assumption) ?_
      refine V_iload_n d_Court_cutKeptTown_15 rfl ?_
      refine V_zald d_Court_cutKeptTown_16 (by first | rfl | assumption) (by first | assumption | exact vp_in_nI (by omega) (by omega)) ?_
      rw [nI_clamp (by omega), hk]
      refine V_if_eq (tgt := 31) d_Court_cutKeptTown_17 (by decide) (fun b17 => ?_) (fun b17 => ?_)
      · exact next (by rw [b2i.mp b17]; rfl)
      · refine V_aload_n d_Court_cutKeptTown_20 rfl ?_
        refine V_iload_n d_Court_cutKeptTown_21 rfl ?_
        refine V_aload_n d_Court_cutKeptTown_22 rfl ?_
        refine V_callV1 d_Court_cutKeptTown_23 k_Court_108 rfl (c_isCut hl ok ho hp hi10) (by first | rfl | assumption) rfl rfl (by first | decide | omega) rfl (Nat.le_of_ble_eq_true rfl) ?_
        refine V_if_eq (tgt := 31) d_Court_cutKeptTown_26 (by decide) (fun b26 => ?_) (fun b26 => ?_)
        · exact next (by rw [b2i.mp b26, Bool.and_false])
        · refine V_iload_n d_Court_cutKeptTown_29 rfl ?_
          refine V_iret d_Court_cutKeptTown_30 rfl ?_
          exact ⟨by rw [hR, fstO_some hi10 (by rw [b2in.mp b26, b2in.mp b17]; rfl) hno]; rfl, rfl⟩
  exact loop 0 (by omega) (fun j hj => absurd hj (Nat.not_lt_zero j))
def strayB (w : LW) (ds : Nat → Nat) (p : Nat) : Bool := match wFx w p with
  | none => false
  | some d => decide (d ≠ ds p)
theorem c_strayPlace {E : Wd} {h : Hp} {D : LD} {w : LW} (hl : LandW h D) (ok : okLD D) (hw : LawW h w) (okw : okLW w) {o : Nat} (ho : isPt o) {A : Nat → Bool} {ds : Nat → Nat} (hp : PartW h o A ds) : Cd E 1 m_Court_strayPlace [.ref 17, .ref o] h (some (.int (fxI (fstO (strayB w ds) (dN D))))) h := by
  obtain ⟨ho0, ho1, ho2⟩ := ho
  have hn := ok.1
  refine Cd_of ok_Court_strayPlace rfl (Nat.le_of_ble_eq_true rfl) (L := [some (.ref 17), some (.ref o), none]) rfl ?_
  refine V_iconst (v := 0) d_Court_strayPlace_0 (by decide) ?_
  refine V_istore_n d_Court_strayPlace_1 (by decide) ?_
  dsimp only [List.set]
  have loop : ∀ i, i ≤ dN D → (∀ j, j < i → strayB w ds j = false) → V E 1 m_Court_strayPlace (fun v' h' => v' = some (.int (fxI (fstO (strayB w ds) (dN D)))) ∧ h' = h) 2 [some (.ref 17), some (.ref o), some (.int (nI i))] [] h := by
    refine up_ind (dN D) ?_
    intro i hi ih hno
    refine V_iload_n d_Court_strayPlace_2 rfl ?_
    refine V_aload_n d_Court_strayPlace_3 rfl ?_
    refine V_getR d_Court_strayPlace_4 f_Court_9 rfl (by first | rfl | assumption) (by first | rfl | assumption) ?_
    refine V_getI d_Court_strayPlace_7 f_Court_112 rfl (by first | rfl | assumption) (by first | rfl | assumption) ?_
    rw [hl.1]
    refine V_icmp_ge (tgt := 52) d_Court_strayPlace_10 (by decide) (fun b10 => ?_) (fun b10 => ?_)
    · obtain rfl := ge_eq b10 rfl rfl (by omega) hi
      refine V_iconst (v := -1) d_Court_strayPlace_52 (by decide) ?_
      refine V_iret d_Court_strayPlace_53 rfl ?_
      exact ⟨by rw [fstO_none hno]; rfl, rfl⟩
    · have hin' := nge_lt b10 rfl rfl (by omega) hi
      have hin : vp_in (nI i) 30 := vp_in_nI (by omega) (by omega)
      have hf := hw.2.2.2.2 i (by omega)
      have hd := hp.1 i (by omega)
      have next : strayB w ds i = false → V E 1 m_Court_strayPlace (fun v' h' => v' = some (.int (fxI (fstO (strayB w ds) (dN D)))) ∧ h' = h) 46 [some (.ref 17), some (.ref o), some (.int (nI i))] [] h := by
        intro hf
        refine V_iincw (w := 1) d_Court_strayPlace_46 rfl (by decide) (by decide) ?_
        dsimp only [List.set]
        refine V_goto (tgt := 2) d_Court_strayPlace_49 (by decide) ?_
        rw [nI_1]
        refine ih hin' (fun j hj => ?_)
        rcases Nat.lt_or_ge j i with q | q
        · exact hno j q
        · rw [show j = i by omega]; exact hf
      refine V_aload_n d_Court_strayPlace_13 rfl ?_
      refine V_getR d_Court_strayPlace_14 f_Court_15 rfl (by first | rfl | assumption) (by first | rfl | assumption) ?_
      refine V_getR d_Court_strayPlace_17 f_Court_115 rfl (by first | rfl | assumption) (by first | rfl | assumption) ?_
      refine V_iload_n d_Court_strayPlace_20 rfl ?_
      refine V_iald d_Court_strayPlace_21 (by first | rfl | assumption) (by first | assumption | exact vp_in_nI (by omega) (by omega)) ?_
      rw [nI_clamp (by omega), hf]
      refine V_iconst (v := -1) d_Court_strayPlace_22 (by decide) ?_
      refine V_icmp_eq (tgt := 46) d_Court_strayPlace_23 (by decide) (fun b23 => ?_) (fun b23 => ?_)
      · refine next ?_
        unfold strayB
        rw [(fxI_none okw).mp b23]
      · refine V_aload_n d_Court_strayPlace_26 rfl ?_
        refine V_getR d_Court_strayPlace_27 f_Court_15 rfl (by first | rfl | assumption) (by first | rfl | assumption) ?_
        refine V_getR d_Court_strayPlace_30 f_Court_115 rfl (by first | rfl | assumption) (by first | rfl | assumption) ?_
        refine V_iload_n d_Court_strayPlace_33 rfl ?_
        refine V_iald d_Court_strayPlace_34 (by first | rfl | assumption) (by first | assumption | exact vp_in_nI (by omega) (by omega)) ?_
        refine V_aload_n d_Court_strayPlace_35 rfl ?_
        refine V_getR d_Court_strayPlace_36 f_Court_118 rfl (by first | rfl | assumption) (by first | rfl | assumption) ?_
        refine V_iload_n d_Court_strayPlace_39 rfl ?_
        refine V_iald d_Court_strayPlace_40 (by first | rfl | assumption) (by first | assumption | exact vp_in_nI (by omega) (by omega)) ?_
        rw [nI_clamp (by omega), hf, hd.2]
        cases hq : wFx w i with
        | none => rw [hq] at b23; exact absurd rfl b23
        | some e =>
          have he := okw.2.2.2.2 i e hq
          have h6 := okw.2.1
          rw [show fxI (some e) = nI e from rfl]
          refine V_icmp_eq (tgt := 46) d_Court_strayPlace_41 (by decide) (fun b41 => ?_) (fun b41 => ?_)
          · refine next ?_
            have := (nI_eq (by omega) (by omega)).mp b41
            unfold strayB
            rw [hq]
            simp [this]
          · refine V_iload_n d_Court_strayPlace_44 rfl ?_
            refine V_iret d_Court_strayPlace_45 rfl ?_
            refine ⟨?_, rfl⟩
            rw [fstO_some hin' ?_ hno]
            · rfl
            · unfold strayB
              rw [hq]
              simp
              intro q
              exact b41 (by rw [q])
  exact loop 0 (Nat.zero_le _) (fun j hj => absurd hj (Nat.not_lt_zero j))
/-- town t is cut, and with it more than the law's cuts are -/
noncomputable def manyB (D : LD) (w : LW) (ds : Nat → Nat) (t : Nat) : Bool := cutB D ds t && decide (wC w < fa_cnt (cutB D ds) (t + 1))
theorem c_townTooMany {E : Wd} {h : Hp} {D : LD} {w : LW} (hl : LandW h D) (ok : okLD D) (hw : LawW h w) (okw : okLW w) {o : Nat} (ho : isPt o) {ds : Nat → Nat} (hp : PartW h o (inN D) ds) : Cd E 3 m_Court_townTooMany [.ref 17, .ref o] h (some (.int (fxI (fstO (manyB D w ds) 10)))) h := by
  have hc := okw.2.2.2.1
  obtain ⟨R, hR⟩ : ∃ R, R = fstO (manyB D w ds) 10 := ⟨_, rfl⟩
  rw [← hR]
  refine Cd_of ok_Court_townTooMany rfl (Nat.le_of_ble_eq_true rfl) (L := [some (.ref 17), some (.ref o), none, none]) rfl ?_
  refine V_iconst (v := 0) d_Court_townTooMany_0 (by decide) ?_
  refine V_istore_n d_Court_townTooMany_1 (by decide) ?_
  dsimp only [List.set]
  refine V_iconst (v := 0) d_Court_townTooMany_2 (by decide) ?_
  refine V_istore_n d_Court_townTooMany_3 (by decide) ?_
  dsimp only [List.set]
  have loop : ∀ i, i ≤ 10 → (∀ j, j < i → manyB D w ds j = false) → V E 3 m_Court_townTooMany (fun v' h' => v' = some (.int (fxI R)) ∧ h' = h) 4 [some (.ref 17), some (.ref o), some (.int (nI (fa_cnt (cutB D ds) i))), some (.int (nI i))] [] h := by
    refine up_ind 10 ?_
    intro i hi ih hno
    refine V_iload_n d_Court_townTooMany_4 rfl ?_
    refine V_bipush (v := 10) d_Court_townTooMany_5 (by decide) ?_
    refine V_icmp_ge (tgt := 41) d_Court_townTooMany_7 (by decide) (fun b7 => ?_) (fun b7 => ?_)
    · obtain rfl := ge_eq b7 rfl rfl (by decide) hi
      refine V_iconst (v := -1) d_Court_townTooMany_41 (by decide) ?_
      refine V_iret d_Court_townTooMany_42 rfl ?_
      exact ⟨by rw [hR, fstO_none hno]; rfl, rfl⟩
    · have hi10 := nge_lt b7 rfl rfl (by decide) hi
      have hle := fa_cnt_le (cutB D ds) i
      have next : ∀ m, m = fa_cnt (cutB D ds) (i + 1) → manyB D w ds i = false → V E 3 m_Court_townTooMany (fun v' h' => v' = some (.int (fxI R)) ∧ h' = h) 35 [some (.ref 17), some (.ref o), some (.int (nI m)), some (.int (nI i))] [] h := by
        intro m hm hf
        subst hm
        refine V_iincw (w := 1) d_Court_townTooMany_35 rfl (by decide) (by decide) ?_
        dsimp only [List.set]
        refine V_goto (tgt := 4) d_Court_townTooMany_38 (by decide) ?_
        rw [nI_1]
        refine ih hi10 (fun j hj => ?_)
        rcases Nat.lt_or_ge j i with q | q
        · exact hno j q
        · rw [show j = i by omega]; exact hf
      refine V_aload_n d_Court_townTooMany_10 rfl ?_
      refine V_iload_n d_Court_townTooMany_11 rfl ?_
      refine V_aload_n d_Court_townTooMany_12 rfl ?_
      refine V_callV1 d_Court_townTooMany_13 k_Court_108 rfl (c_isCut hl ok ho hp hi10) (by first | rfl | assumption) rfl rfl (by first | decide | omega) rfl (Nat.le_of_ble_eq_true rfl) ?_
      refine V_if_eq (tgt := 35) d_Court_townTooMany_16 (by decide) (fun b16 => ?_) (fun b16 => ?_)
      · have hf := b2i.mp b16
        exact next _ (fa_cnt_no hf).symm (by unfold manyB; rw [hf]; rfl)
      · have hf := b2in.mp b16
        have e := fa_cnt_yes hf
        refine V_iincw (w := 1) d_Court_townTooMany_19 rfl (by decide) (by decide) ?_
        dsimp only [List.set]
        refine V_iload_n d_Court_townTooMany_22 rfl ?_
        refine V_aload_n d_Court_townTooMany_23 rfl ?_
        refine V_getR d_Court_townTooMany_24 f_Court_15 rfl (by first | rfl | assumption) (by first | rfl | assumption) ?_
        refine V_getI d_Court_townTooMany_27 f_Court_121 rfl (by first | rfl | assumption) (by first | rfl | assumption) ?_
        rw [hw.2.2.1, nI_1, ← e]
        refine V_icmp_le (tgt := 35) d_Court_townTooMany_30 (by decide) (fun b30 => ?_) (fun b30 => ?_)
        · have := (nI_leI (by omega) (by omega)).mp b30
          exact next _ rfl (by unfold manyB; rw [decide_eq_false (by omega), Bool.and_false])
        · have : wC w < fa_cnt (cutB D ds) (i + 1) := by
            rcases Nat.lt_or_ge (wC w) (fa_cnt (cutB D ds) (i + 1)) with q | q
            · exact q
            · exact absurd (nI_le q (by omega)) b30
          refine V_iload_n d_Court_townTooMany_33 rfl ?_
          refine V_iret d_Court_townTooMany_34 rfl ?_
          refine ⟨?_, rfl⟩
          rw [hR, fstO_some hi10 ?_ hno]
          · rfl
          · unfold manyB
            rw [hf, decide_eq_true this]
            rfl
  exact loop 0 (by omega) (fun j hj => absurd hj (Nat.not_lt_zero j))
