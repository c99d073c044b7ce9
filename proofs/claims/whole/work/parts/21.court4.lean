def okDs (D : LD) (w : LW) (ds : Nat → Nat) : Prop := ∀ p, p < dN D → ds p < wK w
theorem lkB_iff {D : LD} {w : LW} {P : Nat → Bool} : lkB D w P = true ↔ ∀ t, t < 10 → keepB D w P t = true := by
  unfold lkB
  constructor
  · intro h t ht
    cases hq : fstO (fun t => !keepB D w P t) 10 with
    | some i => rw [hq] at h; cases h
    | none =>
      have := fstO_none_iff.mp hq t ht
      simpa using this
  · intro h
    rw [fstO_none (fun t ht => by rw [h t ht]; rfl)]
    rfl
theorem keepB_iff {D : LD} {w : LW} (ok : okLD D) {P : Nat → Bool} {t : Nat} : keepB D w P t = true ↔ (wKp w t = true → (∀ j, town D t j = true → P j = false) ∨ (∀ j, town D t j = true → P j = true)) := by
  have hn := ok.1
  have e1 : cI (fun j => town D t j && P j) = 0 ↔ ∀ j, town D t j = true → P j = false := by
    rw [cI_eq0]
    constructor
    · intro h j hj
      have := h j (by have := town_lt hj; omega)
      rw [hj] at this
      simpa using this
    · intro h j hj
      cases ht : town D t j with
      | false => rfl
      | true => rw [h j ht]; rfl
  have e2 : cI (fun j => town D t j && P j) = cI (town D t) ↔ ∀ j, town D t j = true → P j = true := by
    constructor
    · intro h j hj
      have := cI_inj h (show j < 30 by have := town_lt hj; omega)
      rw [hj] at this
      simpa using this
    · intro h
      refine cI_cong (fun j hj => ?_)
      cases ht : town D t j with
      | false => rfl
      | true => rw [h j ht]; rfl
  unfold keepB
  rw [Bool.or_eq_true, Bool.or_eq_true, decide_eq_true_iff, decide_eq_true_iff, e1, e2]
  cases wKp w t <;> simp
theorem lk_all {D : LD} {w : LW} (ok : okLD D) {ds : Nat → Nat} (okd : okDs D w ds) : (∀ d, d < wK w → lkB D w (dP D ds d) = true) ↔ cul D w ds 4 = none := by
  show _ ↔ fstO (fun t => wKp w t && cutB D ds t) 10 = none
  rw [fstO_none_iff]
  constructor
  · intro h t ht
    cases hk : wKp w t with
    | false => rfl
    | true =>
      cases hc : cutB D ds t with
      | false => rfl
      | true =>
        exfalso
        obtain ⟨i, j, h1, h2, h3⟩ := cutB_iff.mp hc
        have hi := town_lt h1
        have hj := town_lt h2
        rcases (keepB_iff ok).mp (lkB_iff.mp (h (ds i) (okd i hi)) t ht) hk with q | q
        · have := q i h1
          unfold dP inN at this
          simp [hi] at this
        · have := q j h2
          unfold dP inN at this
          simp [hj] at this
          exact h3 this.symm
  · intro h d hd
    rw [lkB_iff]
    intro t ht
    rw [keepB_iff ok]
    intro hk
    have hc : cutB D ds t = false := by
      have := h t ht
      rw [hk] at this
      simpa using this
    have all : ∀ i j, town D t i = true → town D t j = true → ds i = ds j := by
      intro i j h1 h2
      apply Classical.byContradiction
      intro q
      rw [cutB_iff.mpr ⟨i, j, h1, h2, q⟩] at hc
      cases hc
    by_cases hx : ∃ i, town D t i = true ∧ ds i = d
    · right
      obtain ⟨i, h1, h2⟩ := hx
      intro j hj
      have := town_lt hj
      unfold dP inN
      simp [this, (all j i hj h1).trans h2]
    · left
      intro j hj
      have := town_lt hj
      unfold dP inN
      simp [this]
      intro q
      exact hx ⟨j, hj, q⟩
theorem alw_iff {D : LD} {w : LW} (ok : okLD D) {ds : Nat → Nat} (okd : okDs D w ds) : brk D w ds = 0 ↔ ((∀ d, d < wK w → mayB D w (dP D ds d) = true) ∧ fstO (strayB w ds) (dN D) = none ∧ fstO (manyB D w ds) 10 = none) := by
  rw [brk_0]
  have may : ∀ d, mayB D w (dP D ds d) = true ↔ (badB D w 1 (dP D ds d) = false ∧ badB D w 2 (dP D ds d) = false ∧ badB D w 3 (dP D ds d) = false ∧ lkB D w (dP D ds d) = true) := by
    intro d
    rw [badB_1, badB_2, badB_3]
    unfold mayB
    cases decide (cI (dP D ds d) = 0) <;> cases fitN (wK w) (wT w) (pplN D (dP D ds d)) (tot D) <;> cases lkB D w (dP D ds d) <;> cases hang D (dP D ds d) <;> simp
  constructor
  · intro h
    have c1 : fstO (fun d => badB D w 1 (dP D ds d)) (wK w) = none := h 1 (by omega) (by omega)
    have c2 : fstO (fun d => badB D w 2 (dP D ds d)) (wK w) = none := h 2 (by omega) (by omega)
    have c3 : fstO (fun d => badB D w 3 (dP D ds d)) (wK w) = none := h 3 (by omega) (by omega)
    have c4 := (lk_all ok okd).mpr (h 4 (by omega) (by omega))
    exact ⟨fun d hd => (may d).mpr ⟨fstO_none_iff.mp c1 d hd, fstO_none_iff.mp c2 d hd, fstO_none_iff.mp c3 d hd, c4 d hd⟩, h 5 (by omega) (by omega), h 6 (by omega) (by omega)⟩
  · rintro ⟨h1, h5, h6⟩ m hm1 hm2
    rcases (show m = 1 ∨ m = 2 ∨ m = 3 ∨ m = 4 ∨ m = 5 ∨ m = 6 by omega) with rfl | rfl | rfl | rfl | rfl | rfl
    · exact fstO_none (fun d hd => ((may d).mp (h1 d hd)).1)
    · exact fstO_none (fun d hd => ((may d).mp (h1 d hd)).2.1)
    · exact fstO_none (fun d hd => ((may d).mp (h1 d hd)).2.2.1)
    · exact (lk_all ok okd).mp (fun d hd => ((may d).mp (h1 d hd)).2.2.2)
    · exact h5
    · exact h6
theorem c_allows {E : Wd} {h : Hp} {D : LD} {w : LW} (hl : LandW h D) (ok : okLD D) (hw : LawW h w) (okw : okLW w) {o : Nat} (ho : isPt o) {ds : Nat → Nat} (hp : PartW h o (inN D) ds) (okd : okDs D w ds) : Cd E 4 m_Court_allows [.ref 17, .ref o] h (some (.int (if brk D w ds = 0 then 1 else 0))) h := by
  have ho' := ho
  obtain ⟨ho0, ho1, ho2⟩ := ho'
  have h6 := okw.2.1
  have hn := ok.1
  have key := alw_iff (w := w) ok okd
  refine Cd_of ok_Court_allows rfl (Nat.le_of_ble_eq_true rfl) (L := [some (.ref 17), some (.ref o), none]) rfl ?_
  refine V_iconst (v := 0) d_Court_allows_0 (by decide) ?_
  refine V_istore_n d_Court_allows_1 (by decide) ?_
  dsimp only [List.set]
  have loop : ∀ i, i ≤ wK w → (∀ j, j < i → mayB D w (dP D ds j) = true) → V E 4 m_Court_allows (fun v' h' => v' = some (.int (if brk D w ds = 0 then 1 else 0)) ∧ h' = h) 2 [some (.ref 17), some (.ref o), some (.int (nI i))] [] h := by
    refine up_ind (wK w) ?_
    intro i hi ih hno
    refine V_iload_n d_Court_allows_2 rfl ?_
    refine V_aload_n d_Court_allows_3 rfl ?_
    refine V_getR d_Court_allows_4 f_Court_15 rfl (by first | rfl | assumption) (by first | rfl | assumption) ?_
    refine V_getI d_Court_allows_7 f_Court_55 rfl (by first | rfl | assumption) (by first | rfl | assumption) ?_
    rw [hw.1]
    refine V_icmp_ge (tgt := 34) d_Court_allows_10 (by decide) (fun b10 => ?_) (fun b10 => ?_)
    · obtain rfl := ge_eq b10 rfl rfl (by omega) hi
      refine V_aload_n d_Court_allows_34 rfl ?_
      refine V_aload_n d_Court_allows_35 rfl ?_
      refine V_callV1 d_Court_allows_36 k_Court_30 rfl (c_strayPlace hl ok hw okw ho hp) (by first | rfl | assumption) rfl rfl (by first | decide | omega) rfl (Nat.le_of_ble_eq_true rfl) ?_
      have f5 : fxI (fstO (strayB w ds) (dN D)) = -1 ↔ fstO (strayB w ds) (dN D) = none := by
        cases hq : fstO (strayB w ds) (dN D) with
        | none => exact ⟨fun _ => rfl, fun _ => rfl⟩
        | some d =>
          have := (fstO_lt hq).1
          constructor
          · intro z
            have h1 : 0 ≤ (nI d : Int32) := nI_pos' (by omega)
            rw [show fxI (some d) = nI d from rfl] at z
            rw [z] at h1
            exact absurd h1 (by decide)
          · intro z; cases z
      have f6 : fxI (fstO (manyB D w ds) 10) = -1 ↔ fstO (manyB D w ds) 10 = none := by
        cases hq : fstO (manyB D w ds) 10 with
        | none => exact ⟨fun _ => rfl, fun _ => rfl⟩
        | some d =>
          have := (fstO_lt hq).1
          constructor
          · intro z
            have h1 : 0 ≤ (nI d : Int32) := nI_pos' (by omega)
            rw [show fxI (some d) = nI d from rfl] at z
            rw [z] at h1
            exact absurd h1 (by decide)
          · intro z; cases z
      refine V_iconst (v := -1) d_Court_allows_39 (by decide) ?_
      refine V_icmp_ne (tgt := 56) d_Court_allows_40 (by decide) (fun b40 => ?_) (fun b40 => ?_)
      · refine V_iconst (v := 0) d_Court_allows_56 (by decide) ?_
        refine V_zret d_Court_allows_57 rfl (by first | rfl | decide | assumption) ?_
        exact ⟨by rw [if_neg (fun q => b40 (f5.mpr (key.mp q).2.1))], rfl⟩
      · refine V_aload_n d_Court_allows_43 rfl ?_
        refine V_aload_n d_Court_allows_44 rfl ?_
        refine V_callV1 d_Court_allows_45 k_Court_33 rfl (c_townTooMany hl ok hw okw ho hp) (by first | rfl | assumption) rfl rfl (by first | decide | omega) rfl (Nat.le_of_ble_eq_true rfl) ?_
        refine V_iconst (v := -1) d_Court_allows_48 (by decide) ?_
        refine V_icmp_ne (tgt := 56) d_Court_allows_49 (by decide) (fun b49 => ?_) (fun b49 => ?_)
        · refine V_iconst (v := 0) d_Court_allows_56 (by decide) ?_
          refine V_zret d_Court_allows_57 rfl (by first | rfl | decide | assumption) ?_
          exact ⟨by rw [if_neg (fun q => b49 (f6.mpr (key.mp q).2.2))], rfl⟩
        · refine V_iconst (v := 1) d_Court_allows_52 (by decide) ?_
          refine V_goto (tgt := 57) d_Court_allows_53 (by decide) ?_
          refine V_zret d_Court_allows_57 rfl (by first | rfl | decide | assumption) ?_
          exact ⟨by rw [if_pos (key.mpr ⟨hno, f5.mp b40, f6.mp b49⟩)], rfl⟩
    · have hik := nge_lt b10 rfl rfl (by omega) hi
      have hin : vp_in (nI i) 6 := vp_in_nI (by omega) (by omega)
      refine V_aload_n d_Court_allows_13 rfl ?_
      refine V_aload_n d_Court_allows_14 rfl ?_
      refine V_getR d_Court_allows_15 f_Court_61 rfl (by first | rfl | assumption) (by first | rfl | assumption) ?_
      refine V_iload_n d_Court_allows_18 rfl ?_
      refine V_iald d_Court_allows_19 (by first | rfl | assumption) (by first | assumption | exact vp_in_nI (by omega) (by omega)) ?_
      rw [nI_clamp (by omega), hp.2 i (by omega)]
      refine V_callV1 d_Court_allows_20 k_Court_66 rfl (c_mayBeDistrict (P := dP D ds i) hl ok hw okw (fun j _ q => dP_sub q)) (by first | rfl | assumption) rfl rfl (by first | decide | omega) rfl (Nat.le_of_ble_eq_true rfl) ?_
      refine V_if_ne (tgt := 28) d_Court_allows_23 (by decide) (fun b23 => ?_) (fun b23 => ?_)
      · refine V_iincw (w := 1) d_Court_allows_28 rfl (by decide) (by decide) ?_
        dsimp only [List.set]
        refine V_goto (tgt := 2) d_Court_allows_31 (by decide) ?_
        rw [nI_1]
        refine ih hik (fun j hj => ?_)
        rcases Nat.lt_or_ge j i with q | q
        · exact hno j q
        · rw [show j = i by omega]; exact b2in.mp b23
      · refine V_iconst (v := 0) d_Court_allows_26 (by decide) ?_
        refine V_zret d_Court_allows_27 rfl (by first | rfl | decide | assumption) ?_
        refine ⟨?_, rfl⟩
        rw [if_neg]
        intro q
        have := (key.mp q).1 i hik
        rw [b2i.mp b23] at this
        cases this
  exact loop 0 (Nat.zero_le _) (fun j hj => absurd hj (Nat.not_lt_zero j))
theorem fsI_cI (P : Nat → Bool) : fsI (cI P) = fxI (fstO P 30) := by
  unfold fsI fstO
  have e : fa_first (fun j => bt (cI P) (29 - j)) 30 = fa_first P 30 := first_cong (fun i hi => cI_cs P hi)
  rw [e]
  split <;> rfl
theorem c_looseEnd {E : Wd} {h : Hp} {D : LD} (hl : LandW h D) {P : Nat → Bool} {a : Nat} (ha : fstO P 30 = some a) (what : Int32) : Cd E 2 m_Court_looseEnd [.ref 17, .int (cI P), .int what] h (some (.int (if what = 1 then nI a else if what = 2 then fxI (fstO (fun j => P j && !reach D P a j) 30) else -1))) h := by
  obtain ⟨ha30, hPa, -⟩ := fstO_lt ha
  refine Cd_of ok_Court_looseEnd rfl (Nat.le_of_ble_eq_true rfl) (L := [some (.ref 17), some (.int (cI P)), some (.int what), none]) rfl ?_
  refine V_iload_n d_Court_looseEnd_0 rfl ?_
  refine V_callS1 d_Court_looseEnd_1 k_Court_36 rfl (c_first h (cI P)) rfl (by first | decide | omega) rfl (Nat.le_of_ble_eq_true rfl) ?_
  rw [fsI_cI, ha]
  refine V_istore_n d_Court_looseEnd_4 (by decide) ?_
  dsimp only [List.set]
  refine V_iload_n d_Court_looseEnd_5 rfl ?_
  refine V_iconst (v := 1) d_Court_looseEnd_6 (by decide) ?_
  refine V_icmp_ne (tgt := 12) d_Court_looseEnd_7 (by decide) (fun b7 => ?_) (fun b7 => ?_)
  · refine V_iload_n d_Court_looseEnd_12 rfl ?_
    refine V_iconst (v := 2) d_Court_looseEnd_13 (by decide) ?_
    refine V_icmp_ne (tgt := 22) d_Court_looseEnd_14 (by decide) (fun b14 => ?_) (fun b14 => ?_)
    · refine V_iconst (v := -1) d_Court_looseEnd_22 (by decide) ?_
      refine V_iret d_Court_looseEnd_23 rfl ?_
      exact ⟨by rw [if_neg b7, if_neg b14], rfl⟩
    · refine V_iload_n d_Court_looseEnd_17 rfl ?_
      refine V_iconst (v := -1) d_Court_looseEnd_18 (by decide) ?_
      refine V_icmp_ne (tgt := 24) d_Court_looseEnd_19 (by decide) (fun b19 => ?_) (fun b19 => ?_)
      · refine V_iload_n d_Court_looseEnd_24 rfl ?_
        refine V_aload_n d_Court_looseEnd_25 rfl ?_
        refine V_getR d_Court_looseEnd_26 f_Court_9 rfl (by first | rfl | assumption) (by first | rfl | assumption) ?_
        refine V_getR d_Court_looseEnd_29 f_Court_42 rfl (by first | rfl | assumption) (by first | rfl | assumption) ?_
        refine V_iload_n d_Court_looseEnd_32 rfl ?_
        refine V_iload_n d_Court_looseEnd_33 rfl ?_
        refine V_callS1 d_Court_looseEnd_34 k_Court_48 rfl (c_only h ha30) rfl (by first | decide | omega) rfl (Nat.le_of_ble_eq_true rfl) ?_
        refine V_callS1 d_Court_looseEnd_37 k_Court_51 rfl (c_spread h rfl (cI P) (onl a) (cI_hi P)) rfl (by first | decide | omega) rfl (Nat.le_of_ble_eq_true rfl) ?_
        rw [cI_cong (P' := reach D P a) (fun j hj => cloB_cong (fun i j hi hj => by rw [hl.2.2.2.2.2.1 i hi, cI_cs _ hj]) (fun j hj => cI_cs P hj) (fun j hj => cs_onl ha30 hj) j)]
        refine V_iconst (v := -1) d_Court_looseEnd_40 (by decide) ?_
        refine V_ixor d_Court_looseEnd_41 ?_
        refine V_iand d_Court_looseEnd_42 ?_
        rw [cI_dif]
        refine V_callS1 d_Court_looseEnd_43 k_Court_36 rfl (c_first h _) rfl (by first | decide | omega) rfl (Nat.le_of_ble_eq_true rfl) ?_
        rw [fsI_cI]
        refine V_iret d_Court_looseEnd_46 rfl ?_
        exact ⟨by rw [if_neg b7, if_pos b14], rfl⟩
      · exfalso
        have h1 : 0 ≤ (nI a : Int32) := nI_pos' (by omega)
        rw [show fxI (some a) = nI a from rfl] at b19
        rw [b19] at h1
        exact absurd h1 (by decide)
  · refine V_iload_n d_Court_looseEnd_10 rfl ?_
    refine V_iret d_Court_looseEnd_11 rfl ?_
    exact ⟨by rw [if_pos b7]; rfl, rfl⟩
