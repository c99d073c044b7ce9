/-- the places of a district -/
def dP (D : LD) (ds : Nat → Nat) (d : Nat) : Nat → Bool := fun j => inN D j && decide (ds j = d)
theorem dP_sub {D : LD} {ds : Nat → Nat} {d j : Nat} (h : dP D ds d j = true) : j < dN D := by
  unfold dP inN at h
  simp only [Bool.and_eq_true, decide_eq_true_eq] at h
  exact h.1
theorem smN_cong {f : Nat → Nat} {P P' : Nat → Bool} : ∀ {n : Nat}, (∀ i, i < n → P i = P' i) → smN f P n = smN f P' n
  | 0, _ => rfl
  | n + 1, h => by rw [smN, smN, smN_cong (fun i hi => h i (by omega)), h n (by omega)]
theorem pplN_cong {D : LD} {P P' : Nat → Bool} (h : ∀ i, i < dN D → P i = P' i) : pplN D P = pplN D P' := smN_cong h
theorem sum_row {f g : Nat → Int32} {n : Nat} (hn : n ≤ 30) (hf : ∀ p, p < n → f p = g p) {P : Nat → Bool} (hsub : ∀ j, j < 30 → P j = true → j < n) : smP f (cs (cI P)) 30 = smP g P n := by
  rw [smP_cong (P' := P) (fun i hi => cI_cs P hi), smP_cut hn (fun i h1 h2 => ?_), smP_congf hf]
  cases hP : P i with
  | false => rfl
  | true => have := hsub i h2 hP; omega
theorem sum_ppl {h : Hp} {D : LD} (hl : LandW h D) (ok : okLD D) {P : Nat → Bool} (hsub : ∀ j, j < 30 → P j = true → j < dN D) : smP (h 2) (cs (cI P)) 30 = nI (pplN D P) := by
  rw [sum_row ok.1 (fun p hp => (hl.2.2.2.1 p hp).1) hsub]
  exact smP_nI (fun i hi => (pe_nI ok hi).1)
/-- a kept town is in a set, or has nothing there -/
def keepB (D : LD) (w : LW) (P : Nat → Bool) (t : Nat) : Bool := !wKp w t || (decide (cI (fun j => town D t j && P j) = 0) || decide (cI (fun j => town D t j && P j) = cI (town D t)))
def lkB (D : LD) (w : LW) (P : Nat → Bool) : Bool := (fstO (fun t => !keepB D w P t) 10).isNone
theorem c_leavesKeptWhole {E : Wd} {h : Hp} {D : LD} {w : LW} (hl : LandW h D) (hw : LawW h w) (P : Nat → Bool) : Cd E 1 m_Court_leavesKeptWhole [.ref 17, .int (cI P)] h (some (.int (if lkB D w P then 1 else 0))) h := by
  obtain ⟨R, hR⟩ : ∃ R, R = lkB D w P := ⟨_, rfl⟩
  rw [← hR]
  refine Cd_of ok_Court_leavesKeptWhole rfl (Nat.le_of_ble_eq_true rfl) (L := [some (.ref 17), some (.int (cI P)), none, none]) rfl ?_
  refine V_iconst (v := 0) d_Court_leavesKeptWhole_0 (by decide) ?_
  refine V_istore_n d_Court_leavesKeptWhole_1 (by decide) ?_
  dsimp only [List.set]
  have loop : ∀ i, i ≤ 10 → ∀ u3, (∀ j, j < i → (!keepB D w P j) = false) → V E 1 m_Court_leavesKeptWhole (fun v' h' => v' = some (.int (if R then 1 else 0)) ∧ h' = h) 2 [some (.ref 17), some (.int (cI P)), some (.int (nI i)), u3] [] h := by
    refine up_ind 10 ?_
    intro i hi ih u3 hno
    refine V_iload_n d_Court_leavesKeptWhole_2 rfl ?_
    refine V_bipush (v := 10) d_Court_leavesKeptWhole_3 (by decide) ?_
    refine V_icmp_ge (tgt := 57) d_Court_leavesKeptWhole_5 (by decide) (fun b5 => ?_) (fun b5 => ?_)
    · obtain rfl := ge_eq b5 rfl rfl (by decide) hi
      refine V_iconst (v := 1) d_Court_leavesKeptWhole_57 (by decide) ?_
      refine V_zret d_Court_leavesKeptWhole_58 rfl (by first | rfl | decide | assumption) ?_
      refine ⟨?_, rfl⟩
      rw [hR]
      unfold lkB
      rw [fstO_none hno]
      rfl
    · have hi10 := nge_lt b5 rfl rfl (by decide) hi
      have hin : vp_in (nI i) 10 := vp_in_nI hi10 (by omega)
      have hk := hw.2.2.2.1 i hi10
      have ht : h 7 i = cI (town D i) := hl.2.2.2.2.2.2 i hi10
      refine V_aload_n d_Court_leavesKeptWhole_8 rfl ?_
      refine V_getR d_Court_leavesKeptWhole_9 f_Court_9 rfl (by first | rfl | assumption) (by first | rfl | assumption) ?_
      refine V_getR d_Court_leavesKeptWhole_12 f_Court_97 rfl (by first | rfl | assumption) (by first | rfl | assumption) ?_
      refine V_iload_n d_Court_leavesKeptWhole_15 rfl ?_
      refine V_iald d_Court_leavesKeptWhole_16 (by first | rfl | assumption) (by first | assumption | exact vp_in_nI (by omega) (by omega)) ?_
      refine V_iload_n d_Court_leavesKeptWhole_17 rfl ?_
      refine V_iand d_Court_leavesKeptWhole_18 ?_
      rw [nI_clamp (by omega), ht, cI_and]
      have next : keepB D w P i = true → ∀ u3, V E 1 m_Court_leavesKeptWhole (fun v' h' => v' = some (.int (if R then 1 else 0)) ∧ h' = h) 51 [some (.ref 17), some (.int (cI P)), some (.int (nI i)), u3] [] h := by
        intro hf u3
        refine V_iincw (w := 1) d_Court_leavesKeptWhole_51 rfl (by decide) (by decide) ?_
        dsimp only [List.set]
        refine V_goto (tgt := 2) d_Court_leavesKeptWhole_54 (by decide) ?_
        rw [nI_1]
        refine ih hi10 _ (fun j hj => ?_)
        rcases Nat.lt_or_ge j i with q | q
        · exact hno j q
        · rw [show j = i by omega, hf]; rfl
      refine V_istore_n d_Court_leavesKeptWhole_19 (by decide) ?_
      dsimp only [List.set]
      refine V_aload_n d_Court_leavesKeptWhole_20 rfl ?_
      refine V_getR d_Court_leavesKeptWhole_21 f_Court_15 rfl (by first | rfl | assumption) (by first | rfl | assumption) ?_
      refine V_getR d_Court_leavesKeptWhole_24 f_Court_100 rfl (by first | rfl | assumption) (by first | rfl | assumption) ?_
      refine V_iload_n d_Court_leavesKeptWhole_27 rfl ?_
      refine V_zald d_Court_leavesKeptWhole_28 (by first | rfl | assumption) (by first | assumption | exact vp_in_nI (by omega) (by omega)) ?_
      rw [nI_clamp (by omega), hk]
      refine V_if_eq (tgt := 51) d_Court_leavesKeptWhole_29 (by decide) (fun b29 => ?_) (fun b29 => ?_)
      · exact next (by unfold keepB; rw [b2i.mp b29]; rfl) _
      · refine V_iload_n d_Court_leavesKeptWhole_32 rfl ?_
        refine V_if_eq (tgt := 51) d_Court_leavesKeptWhole_33 (by decide) (fun b33 => ?_) (fun b33 => ?_)
        · exact next (by unfold keepB; rw [decide_eq_true b33]; simp) _
        · refine V_iload_n d_Court_leavesKeptWhole_36 rfl ?_
          refine V_aload_n d_Court_leavesKeptWhole_37 rfl ?_
          refine V_getR d_Court_leavesKeptWhole_38 f_Court_9 rfl (by first | rfl | assumption) (by first | rfl | assumption) ?_
          refine V_getR d_Court_leavesKeptWhole_41 f_Court_97 rfl (by first | rfl | assumption) (by first | rfl | assumption) ?_
          refine V_iload_n d_Court_leavesKeptWhole_44 rfl ?_
          refine V_iald d_Court_leavesKeptWhole_45 (by first | rfl | assumption) (by first | assumption | exact vp_in_nI (by omega) (by omega)) ?_
          rw [nI_clamp (by omega), ht]
          refine V_icmp_eq (tgt := 51) d_Court_leavesKeptWhole_46 (by decide) (fun b46 => ?_) (fun b46 => ?_)
          · exact next (by unfold keepB; rw [decide_eq_true b46]; simp) _
          · refine V_iconst (v := 0) d_Court_leavesKeptWhole_49 (by decide) ?_
            refine V_zret d_Court_leavesKeptWhole_50 rfl (by first | rfl | decide | assumption) ?_
            refine ⟨?_, rfl⟩
            rw [hR]
            unfold lkB
            rw [fstO_some hi10 ?_ hno]
            · rfl
            · unfold keepB
              rw [b2in.mp b29, decide_eq_false b33, decide_eq_false b46]
              rfl
  exact loop 0 (by omega) _ (fun j hj => absurd hj (Nat.not_lt_zero j))
theorem hang_cs {D : LD} (P : Nat → Bool) : hang D (cs (cI P)) = hang D P := hang_cong (fun j hj => cI_cs P hj)
/-- a set breaks no law that can be told from one district alone -/
noncomputable def mayB (D : LD) (w : LW) (P : Nat → Bool) : Bool := !decide (cI P = 0) && (fitN (wK w) (wT w) (pplN D P) (tot D) && (lkB D w P && hang D P))
theorem c_mayBeDistrict {E : Wd} {h : Hp} {D : LD} {w : LW} (hl : LandW h D) (ok : okLD D) (hw : LawW h w) (okw : okLW w) {P : Nat → Bool} (hsub : ∀ j, j < 30 → P j = true → j < dN D) : Cd E 3 m_Court_mayBeDistrict [.ref 17, .int (cI P)] h (some (.int (if mayB D w P then 1 else 0))) h := by
  refine Cd_of ok_Court_mayBeDistrict rfl (Nat.le_of_ble_eq_true rfl) (L := [some (.ref 17), some (.int (cI P))]) rfl ?_
  refine V_iload_n d_Court_mayBeDistrict_0 rfl ?_
  refine V_if_eq (tgt := 42) d_Court_mayBeDistrict_1 (by decide) (fun b1 => ?_) (fun b1 => ?_)
  · refine V_iconst (v := 0) d_Court_mayBeDistrict_42 (by decide) ?_
    refine V_zret d_Court_mayBeDistrict_43 rfl (by first | rfl | decide | assumption) ?_
    exact ⟨by unfold mayB; rw [decide_eq_true b1]; rfl, rfl⟩
  · refine V_aload_n d_Court_mayBeDistrict_4 rfl ?_
    refine V_aload_n d_Court_mayBeDistrict_5 rfl ?_
    refine V_getR d_Court_mayBeDistrict_6 f_Court_9 rfl (by first | rfl | assumption) (by first | rfl | assumption) ?_
    refine V_getR d_Court_mayBeDistrict_9 f_Court_70 rfl (by first | rfl | assumption) (by first | rfl | assumption) ?_
    refine V_iload_n d_Court_mayBeDistrict_12 rfl ?_
    refine V_callS1 d_Court_mayBeDistrict_13 k_Court_73 rfl (c_sum h rfl (cI_hi P)) rfl (by first | decide | omega) rfl (Nat.le_of_ble_eq_true rfl) ?_
    rw [sum_ppl hl ok hsub]
    refine V_callV1 d_Court_mayBeDistrict_16 k_Court_77 rfl (c_fits hl ok hw okw (pplN_le ok P)) (by first | rfl | assumption) rfl rfl (by first | decide | omega) rfl (Nat.le_of_ble_eq_true rfl) ?_
    refine V_if_eq (tgt := 42) d_Court_mayBeDistrict_19 (by decide) (fun b19 => ?_) (fun b19 => ?_)
    · refine V_iconst (v := 0) d_Court_mayBeDistrict_42 (by decide) ?_
      refine V_zret d_Court_mayBeDistrict_43 rfl (by first | rfl | decide | assumption) ?_
      exact ⟨by unfold mayB; rw [b2i.mp b19, Bool.false_and, Bool.and_false]; rfl, rfl⟩
    · refine V_aload_n d_Court_mayBeDistrict_22 rfl ?_
      refine V_iload_n d_Court_mayBeDistrict_23 rfl ?_
      refine V_callV1 d_Court_mayBeDistrict_24 k_Court_80 rfl (c_leavesKeptWhole hl hw P) (by first | rfl | assumption) rfl rfl (by first | decide | omega) rfl (Nat.le_of_ble_eq_true rfl) ?_
      refine V_if_eq (tgt := 42) d_Court_mayBeDistrict_27 (by decide) (fun b27 => ?_) (fun b27 => ?_)
      · refine V_iconst (v := 0) d_Court_mayBeDistrict_42 (by decide) ?_
        refine V_zret d_Court_mayBeDistrict_43 rfl (by first | rfl | decide | assumption) ?_
        exact ⟨by unfold mayB; rw [b2i.mp b27, Bool.false_and, Bool.and_false, Bool.and_false]; rfl, rfl⟩
      · refine V_aload_n d_Court_mayBeDistrict_30 rfl ?_
        refine V_iload_n d_Court_mayBeDistrict_31 rfl ?_
        refine V_callV1 d_Court_mayBeDistrict_32 k_Court_83 rfl (c_hangs hl (cI_hi P)) (by first | rfl | assumption) rfl rfl (by first | decide | omega) rfl (Nat.le_of_ble_eq_true rfl) ?_
        rw [hang_cs]
        refine V_if_eq (tgt := 42) d_Court_mayBeDistrict_35 (by decide) (fun b35 => ?_) (fun b35 => ?_)
        · refine V_iconst (v := 0) d_Court_mayBeDistrict_42 (by decide) ?_
          refine V_zret d_Court_mayBeDistrict_43 rfl (by first | rfl | decide | assumption) ?_
          exact ⟨by unfold mayB; rw [b2i.mp b35, Bool.and_false, Bool.and_false, Bool.and_false]; rfl, rfl⟩
        · refine V_iconst (v := 1) d_Court_mayBeDistrict_38 (by decide) ?_
          refine V_goto (tgt := 43) d_Court_mayBeDistrict_39 (by decide) ?_
          refine V_zret d_Court_mayBeDistrict_43 rfl (by first | rfl | decide | assumption) ?_
          exact ⟨by unfold mayB; rw [b2in.mp b35, b2in.mp b27, b2in.mp b19, decide_eq_false b1]; rfl, rfl⟩
/-- a set breaks law m (1 no place, 2 in pieces, 3 of another size) -/
noncomputable def badB (D : LD) (w : LW) : Nat → (Nat → Bool) → Bool
  | 1, P => decide (cI P = 0)
  | 2, P => !hang D P
  | _, P => !fitN (wK w) (wT w) (pplN D P) (tot D)
theorem badB_1 (D : LD) (w : LW) (P : Nat → Bool) : badB D w 1 P = decide (cI P = 0) := rfl
theorem badB_2 (D : LD) (w : LW) (P : Nat → Bool) : badB D w 2 P = !hang D P := rfl
theorem badB_3 (D : LD) (w : LW) (P : Nat → Bool) : badB D w 3 P = !fitN (wK w) (wT w) (pplN D P) (tot D) := rfl
theorem c_isBad {E : Wd} {h : Hp} {D : LD} {w : LW} (hl : LandW h D) (ok : okLD D) (hw : LawW h w) (okw : okLW w) {P : Nat → Bool} (hsub : ∀ j, j < 30 → P j = true → j < dN D) {m : Nat} (h1 : 1 ≤ m) (h3 : m ≤ 3) : Cd E 3 m_Court_isBad [.ref 17, .int (nI m), .int (cI P)] h (some (.int (if badB D w m P then 1 else 0))) h := by
  refine Cd_of ok_Court_isBad rfl (Nat.le_of_ble_eq_true rfl) (L := [some (.ref 17), some (.int (nI m)), some (.int (cI P))]) rfl ?_
  refine V_iload_n d_Court_isBad_0 rfl ?_
  rcases (show m = 1 ∨ m = 2 ∨ m = 3 by omega) with rfl | rfl | rfl
  · refine V_lookup (off := 27) (tgt := 28) d_Court_isBad_1 (by decide) (by decide) (by decide) ?_
    refine V_iload_n d_Court_isBad_28 rfl ?_
    refine V_if_ne (tgt := 36) d_Court_isBad_29 (by decide) (fun b29 => ?_) (fun b29 => ?_)
    · refine V_iconst (v := 0) d_Court_isBad_36 (by decide) ?_
      refine V_zret d_Court_isBad_37 rfl (by first | rfl | decide | assumption) ?_
      exact ⟨by rw [badB_1, decide_eq_false b29]; rfl, rfl⟩
    · refine V_iconst (v := 1) d_Court_isBad_32 (by decide) ?_
      refine V_goto (tgt := 37) d_Court_isBad_33 (by decide) ?_
      refine V_zret d_Court_isBad_37 rfl (by first | rfl | decide | assumption) ?_
      exact ⟨by rw [badB_1, decide_eq_true b29]; rfl, rfl⟩
  · refine V_lookup (off := 37) (tgt := 38) d_Court_isBad_1 (by decide) (by decide) (by decide) ?_
    refine V_aload_n d_Court_isBad_38 rfl ?_
    refine V_iload_n d_Court_isBad_39 rfl ?_
    refine V_callV1 d_Court_isBad_40 k_Court_83 rfl (c_hangs hl (cI_hi P)) (by first | rfl | assumption) rfl rfl (by first | decide | omega) rfl (Nat.le_of_ble_eq_true rfl) ?_
    rw [hang_cs]
    refine V_if_ne (tgt := 50) d_Court_isBad_43 (by decide) (fun b43 => ?_) (fun b43 => ?_)
    · refine V_iconst (v := 0) d_Court_isBad_50 (by decide) ?_
      refine V_zret d_Court_isBad_51 rfl (by first | rfl | decide | assumption) ?_
      exact ⟨by rw [badB_2, b2in.mp b43]; rfl, rfl⟩
    · refine V_iconst (v := 1) d_Court_isBad_46 (by decide) ?_
      refine V_goto (tgt := 51) d_Court_isBad_47 (by decide) ?_
      refine V_zret d_Court_isBad_51 rfl (by first | rfl | decide | assumption) ?_
      exact ⟨by rw [badB_2, b2i.mp b43]; rfl, rfl⟩
  · refine V_lookup (off := 51) (tgt := 52) d_Court_isBad_1 (by decide) (by decide) (by decide) ?_
    refine V_aload_n d_Court_isBad_52 rfl ?_
    refine V_aload_n d_Court_isBad_53 rfl ?_
    refine V_getR d_Court_isBad_54 f_Court_9 rfl (by first | rfl | assumption) (by first | rfl | assumption) ?_
    refine V_getR d_Court_isBad_57 f_Court_70 rfl (by first | rfl | assumption) (by first | rfl | assumption) ?_
    refine V_iload_n d_Court_isBad_60 rfl ?_
    refine V_callS1 d_Court_isBad_61 k_Court_73 rfl (c_sum h rfl (cI_hi P)) rfl (by first | decide | omega) rfl (Nat.le_of_ble_eq_true rfl) ?_
    rw [sum_ppl hl ok hsub]
    refine V_callV1 d_Court_isBad_64 k_Court_77 rfl (c_fits hl ok hw okw (pplN_le ok P)) (by first | rfl | assumption) rfl rfl (by first | decide | omega) rfl (Nat.le_of_ble_eq_true rfl) ?_
    refine V_if_ne (tgt := 74) d_Court_isBad_67 (by decide) (fun b67 => ?_) (fun b67 => ?_)
    · refine V_iconst (v := 0) d_Court_isBad_74 (by decide) ?_
      refine V_zret d_Court_isBad_75 rfl (by first | rfl | decide | assumption) ?_
      exact ⟨by rw [badB_3, b2in.mp b67]; rfl, rfl⟩
    · refine V_iconst (v := 1) d_Court_isBad_70 (by decide) ?_
      refine V_goto (tgt := 75) d_Court_isBad_71 (by decide) ?_
      refine V_zret d_Court_isBad_75 rfl (by first | rfl | decide | assumption) ?_
      exact ⟨by rw [badB_3, b2i.mp b67]; rfl, rfl⟩
theorem c_badDistrict {E : Wd} {h : Hp} {D : LD} {w : LW} (hl : LandW h D) (ok : okLD D) (hw : LawW h w) (okw : okLW w) {o : Nat} (ho : isPt o) {ds : Nat → Nat} (hp : PartW h o (inN D) ds) {m : Nat} (h1 : 1 ≤ m) (h3 : m ≤ 3) : Cd E 4 m_Court_badDistrict [.ref 17, .int (nI m), .ref o] h (some (.int (fxI (fstO (fun d => badB D w m (dP D ds d)) (wK w))))) h := by
  obtain ⟨ho0, ho1, ho2⟩ := ho
  have h6 := okw.2.1
  refine Cd_of ok_Court_badDistrict rfl (Nat.le_of_ble_eq_true rfl) (L := [some (.ref 17), some (.int (nI m)), some (.ref o), none]) rfl ?_
  refine V_iconst (v := 0) d_Court_badDistrict_0 (by decide) ?_
  refine V_istore_n d_Court_badDistrict_1 (by decide) ?_
  dsimp only [List.set]
  have loop : ∀ i, i ≤ wK w → (∀ j, j < i → badB D w m (dP D ds j) = false) → V E 4 m_Court_badDistrict (fun v' h' => v' = some (.int (fxI (fstO (fun d => badB D w m (dP D ds d)) (wK w)))) ∧ h' = h) 2 [some (.ref 17), some (.int (nI m)), some (.ref o), some (.int (nI i))] [] h := by
    refine up_ind (wK w) ?_
    intro i hi ih hno
    refine V_iload_n d_Court_badDistrict_2 rfl ?_
    refine V_aload_n d_Court_badDistrict_3 rfl ?_
    refine V_getR d_Court_badDistrict_4 f_Court_15 rfl (by first | rfl | assumption) (by first | rfl | assumption) ?_
    refine V_getI d_Court_badDistrict_7 f_Court_55 rfl (by first | rfl | assumption) (by first | rfl | assumption) ?_
    rw [hw.1]
    refine V_icmp_ge (tgt := 35) d_Court_badDistrict_10 (by decide) (fun b10 => ?_) (fun b10 => ?_)
    · obtain rfl := ge_eq b10 rfl rfl (by omega) hi
      refine V_iconst (v := -1) d_Court_badDistrict_35 (by decide) ?_
      refine V_iret d_Court_badDistrict_36 rfl ?_
      exact ⟨by rw [fstO_none hno]; rfl, rfl⟩
    · have hik := nge_lt b10 rfl rfl (by omega) hi
      have hin : vp_in (nI i) 6 := vp_in_nI (by omega) (by omega)
      refine V_aload_n d_Court_badDistrict_13 rfl ?_
      refine V_iload_n d_Court_badDistrict_14 rfl ?_
      refine V_aload_n d_Court_badDistrict_15 rfl ?_
      refine V_getR d_Court_badDistrict_16 f_Court_61 rfl (by first | rfl | assumption) (by first | rfl | assumption) ?_
      refine V_iload_n d_Court_badDistrict_19 rfl ?_
      refine V_iald d_Court_badDistrict_20 (by first | rfl | assumption) (by first | assumption | exact vp_in_nI (by omega) (by omega)) ?_
      rw [nI_clamp (by omega), hp.2 i (by omega)]
      refine V_callV1 d_Court_badDistrict_21 k_Court_104 rfl (c_isBad (P := dP D ds i) hl ok hw okw (fun j _ q => dP_sub q) h1 h3) (by first | rfl | assumption) rfl rfl (by first | decide | omega) rfl (Nat.le_of_ble_eq_true rfl) ?_
      refine V_if_eq (tgt := 29) d_Court_badDistrict_24 (by decide) (fun b24 => ?_) (fun b24 => ?_)
      · refine V_iincw (w := 1) d_Court_badDistrict_29 rfl (by decide) (by decide) ?_
        dsimp only [List.set]
        refine V_goto (tgt := 2) d_Court_badDistrict_32 (by decide) ?_
        rw [nI_1]
        refine ih hik (fun j hj => ?_)
        rcases Nat.lt_or_ge j i with q | q
        · exact hno j q
        · rw [show j = i by omega]; exact b2i.mp b24
      · refine V_iload_n d_Court_badDistrict_27 rfl ?_
        refine V_iret d_Court_badDistrict_28 rfl ?_
        exact ⟨by rw [fstO_some hik (b2in.mp b24) hno]; rfl, rfl⟩
  exact loop 0 (Nat.zero_le _) (fun j hj => absurd hj (Nat.not_lt_zero j))
/-- which district, town or place breaks law m first -/
noncomputable def cul (D : LD) (w : LW) (ds : Nat → Nat) : Nat → Option Nat
  | 4 => fstO (fun t => wKp w t && cutB D ds t) 10
  | 5 => fstO (strayB w ds) (dN D)
  | 6 => fstO (manyB D w ds) 10
  | m => fstO (fun d => badB D w m (dP D ds d)) (wK w)
theorem c_culprit {E : Wd} {h : Hp} {D : LD} {w : LW} (hl : LandW h D) (ok : okLD D) (hw : LawW h w) (okw : okLW w) {o : Nat} (ho : isPt o) {ds : Nat → Nat} (hp : PartW h o (inN D) ds) {m : Nat} (h1 : 1 ≤ m) (hm : m ≤ 6) : Cd E 5 m_Court_culprit [.ref 17, .int (nI m), .ref o] h (some (.int (fxI (cul D w ds m)))) h := by
  refine Cd_of ok_Court_culprit rfl (Nat.le_of_ble_eq_true rfl) (L := [some (.ref 17), some (.int (nI m)), some (.ref o)]) rfl ?_
  refine V_iload_n d_Court_culprit_0 rfl ?_
  have case123 : m ≤ 3 → cul D w ds m = fstO (fun d => badB D w m (dP D ds d)) (wK w) := by
    intro h3
    rcases (show m = 1 ∨ m = 2 ∨ m = 3 by omega) with rfl | rfl | rfl <;> rfl
  by_cases h3 : m ≤ 3
  · rw [case123 h3]
    have go : V E 5 m_Court_culprit (fun v' h' => v' = some (.int (fxI (fstO (fun d => badB D w m (dP D ds d)) (wK w)))) ∧ h' = h) 36 [some (.ref 17), some (.int (nI m)), some (.ref o)] [] h := by
      refine V_aload_n d_Court_culprit_36 rfl ?_
      refine V_iload_n d_Court_culprit_37 rfl ?_
      refine V_aload_n d_Court_culprit_38 rfl ?_
      refine V_callV1 d_Court_culprit_39 k_Court_23 rfl (c_badDistrict hl ok hw okw ho hp h1 h3) (by first | rfl | assumption) rfl rfl (by first | decide | omega) rfl (Nat.le_of_ble_eq_true rfl) ?_
      refine V_iret d_Court_culprit_42 rfl ?_
      exact ⟨rfl, rfl⟩
    rcases (show m = 1 ∨ m = 2 ∨ m = 3 by omega) with rfl | rfl | rfl
    · exact V_tableIn (off := 35) (tgt := 36) d_Court_culprit_1 (by decide) (by decide) (by decide) (by decide) go
    · exact V_tableIn (off := 35) (tgt := 36) d_Court_culprit_1 (by decide) (by decide) (by decide) (by decide) go
    · exact V_tableIn (off := 35) (tgt := 36) d_Court_culprit_1 (by decide) (by decide) (by decide) (by decide) go
  · rcases (show m = 4 ∨ m = 5 ∨ m = 6 by omega) with rfl | rfl | rfl
    · refine V_tableIn (off := 42) (tgt := 43) d_Court_culprit_1 (by decide) (by decide) (by decide) (by decide) ?_
      refine V_aload_n d_Court_culprit_43 rfl ?_
      refine V_aload_n d_Court_culprit_44 rfl ?_
      refine V_callV1 d_Court_culprit_45 k_Court_26 rfl (c_cutKeptTown hl ok hw ho hp) (by first | rfl | assumption) rfl rfl (by first | decide | omega) rfl (Nat.le_of_ble_eq_true rfl) ?_
      refine V_iret d_Court_culprit_48 rfl ?_
      exact ⟨rfl, rfl⟩
    · refine V_tableIn (off := 48) (tgt := 49) d_Court_culprit_1 (by decide) (by decide) (by decide) (by decide) ?_
      refine V_aload_n d_Court_culprit_49 rfl ?_
      refine V_aload_n d_Court_culprit_50 rfl ?_
      refine V_callV1 d_Court_culprit_51 k_Court_30 rfl (c_strayPlace hl ok hw okw ho hp) (by first | rfl | assumption) rfl rfl (by first | decide | omega) rfl (Nat.le_of_ble_eq_true rfl) ?_
      refine V_iret d_Court_culprit_54 rfl ?_
      exact ⟨rfl, rfl⟩
    · refine V_tableOut (tgt := 55) d_Court_culprit_1 (by decide) (by decide) ?_
      refine V_aload_n d_Court_culprit_55 rfl ?_
      refine V_aload_n d_Court_culprit_56 rfl ?_
      refine V_callV1 d_Court_culprit_57 k_Court_33 rfl (c_townTooMany hl ok hw okw ho hp) (by first | rfl | assumption) rfl rfl (by first | decide | omega) rfl (Nat.le_of_ble_eq_true rfl) ?_
      refine V_iret d_Court_culprit_60 rfl ?_
      exact ⟨rfl, rfl⟩
theorem fxI_neg {r : Option Nat} (h : ∀ d, r = some d → d < 2 ^ 31) : fxI r < 0 ↔ r = none := by
  cases r with
  | none => exact ⟨fun _ => rfl, fun _ => by decide⟩
  | some d =>
    constructor
    · intro q
      exact absurd q (nI_pos (h d rfl))
    · intro q
      cases q
theorem cul_lt {D : LD} {w : LW} (ok : okLD D) (okw : okLW w) {ds : Nat → Nat} {m d : Nat} (h : cul D w ds m = some d) : d < 30 := by
  have h1 := ok.1
  have h2 := okw.2.1
  unfold cul at h
  split at h <;> (have := (fstO_lt h).1; omega)
/-- the first law that is broken; 0 if none is -/
noncomputable def brk (D : LD) (w : LW) (ds : Nat → Nat) : Nat := match fstO (fun i => (cul D w ds (i + 1)).isSome) 6 with
  | some i => i + 1
  | none => 0
theorem c_brokenLaw {E : Wd} {h : Hp} {D : LD} {w : LW} (hl : LandW h D) (ok : okLD D) (hw : LawW h w) (okw : okLW w) {o : Nat} (ho : isPt o) {ds : Nat → Nat} (hp : PartW h o (inN D) ds) : Cd E 6 m_Court_brokenLaw [.ref 17, .ref o] h (some (.int (nI (brk D w ds)))) h := by
  obtain ⟨R, hR⟩ : ∃ R, R = brk D w ds := ⟨_, rfl⟩
  rw [← hR]
  refine Cd_of ok_Court_brokenLaw rfl (Nat.le_of_ble_eq_true rfl) (L := [some (.ref 17), some (.ref o), none]) rfl ?_
  refine V_iconst (v := 1) d_Court_brokenLaw_0 (by decide) ?_
  refine V_istore_n d_Court_brokenLaw_1 (by decide) ?_
  dsimp only [List.set]
  have loop : ∀ i, i ≤ 6 → (∀ j, j < i → (cul D w ds (j + 1)).isSome = false) → V E 6 m_Court_brokenLaw (fun v' h' => v' = some (.int (nI R)) ∧ h' = h) 2 [some (.ref 17), some (.ref o), some (.int (nI (i + 1)))] [] h := by
    refine up_ind 6 ?_
    intro i hi ih hno
    refine V_iload_n d_Court_brokenLaw_2 rfl ?_
    refine V_bipush (v := 6) d_Court_brokenLaw_3 (by decide) ?_
    refine V_icmp_gt (tgt := 25) d_Court_brokenLaw_5 (by decide) (fun b5 => ?_) (fun b5 => ?_)
    · have hi6 : i = 6 := by
        have := (lt_nI 6 (i + 1) rfl rfl (by decide) (by omega)).mp b5
        omega
      subst hi6
      refine V_iconst (v := 0) d_Court_brokenLaw_25 (by decide) ?_
      refine V_iret d_Court_brokenLaw_26 rfl ?_
      refine ⟨?_, rfl⟩
      rw [hR]
      unfold brk
      rw [fstO_none hno]
      rfl
    · have hi6 : i < 6 := by
        rcases Nat.lt_or_ge i 6 with q | q
        · exact q
        · exact absurd ((lt_nI 6 (i + 1) rfl rfl (by decide) (by omega)).mpr (by omega)) b5
      refine V_aload_n d_Court_brokenLaw_8 rfl ?_
      refine V_iload_n d_Court_brokenLaw_9 rfl ?_
      refine V_aload_n d_Court_brokenLaw_10 rfl ?_
      refine V_callV1 d_Court_brokenLaw_11 k_Court_19 rfl (c_culprit hl ok hw okw ho hp (show 1 ≤ i + 1 by omega) (show i + 1 ≤ 6 by omega)) (by first | rfl | assumption) rfl rfl (by first | decide | omega) rfl (Nat.le_of_ble_eq_true rfl) ?_
      have hneg := fxI_neg (r := cul D w ds (i + 1)) (fun d hd => by have := cul_lt ok okw hd; omega)
      refine V_if_lt (tgt := 19) d_Court_brokenLaw_14 (by decide) (fun b14 => ?_) (fun b14 => ?_)
      · refine V_iincw (w := 1) d_Court_brokenLaw_19 rfl (by decide) (by decide) ?_
        dsimp only [List.set]
        refine V_goto (tgt := 2) d_Court_brokenLaw_22 (by decide) ?_
        rw [nI_1]
        refine ih hi6 (fun j hj => ?_)
        rcases Nat.lt_or_ge j i with q | q
        · exact hno j q
        · rw [show j = i by omega, hneg.mp b14]; rfl
      · refine V_iload_n d_Court_brokenLaw_17 rfl ?_
        refine V_iret d_Court_brokenLaw_18 rfl ?_
        refine ⟨?_, rfl⟩
        rw [hR]
        unfold brk
        rw [fstO_some hi6 ?_ hno]
        cases hq : cul D w ds (i + 1) with
        | none => exact absurd (hneg.mpr hq) b14
        | some d => rfl
  exact loop 0 (by omega) (fun j hj => absurd hj (Nat.not_lt_zero j))
theorem brk_0 {D : LD} {w : LW} {ds : Nat → Nat} : brk D w ds = 0 ↔ ∀ m, 1 ≤ m → m ≤ 6 → cul D w ds m = none := by
  unfold brk
  constructor
  · intro h m h1 h2
    cases hq : fstO (fun i => (cul D w ds (i + 1)).isSome) 6 with
    | some i => rw [hq] at h; simp at h
    | none =>
      have := fstO_none_iff.mp hq (m - 1) (by omega)
      rw [show m - 1 + 1 = m by omega] at this
      cases hc : cul D w ds m with
      | none => rfl
      | some d => rw [hc] at this; cases this
  · intro h
    rw [fstO_none (fun j hj => by rw [h (j + 1) (by omega) (by omega)]; rfl)]
