/-! measures: the class's Scale -/
def wst (own others : Int32) : Int32 := if others < own then own - (own + others) / 2 - 1 else own
theorem c_wasted {E : Wd} (h : Hp) (x y : Int32) : Cd E 0 m_Scale_wasted [.int x, .int y] h (some (.int (wst x y))) h := by
  refine Cd_of ok_Scale_wasted rfl (Nat.le_of_ble_eq_true rfl) (L := [some (.int x), some (.int y)]) rfl ?_
  refine V_iload_n d_Scale_wasted_0 rfl ?_
  refine V_iload_n d_Scale_wasted_1 rfl ?_
  refine V_icmp_le (tgt := 17) d_Scale_wasted_2 (by decide) (fun b2 => ?_) (fun b2 => ?_)
  · refine V_iload_n d_Scale_wasted_17 rfl ?_
    refine V_iret d_Scale_wasted_18 rfl ?_
    exact ⟨by unfold wst; rw [if_neg (fun q => (fa_of_lt q).2.1 b2)], rfl⟩
  · have h2 : ¬ (2 : Int32) = 0 := by decide
    refine V_iload_n d_Scale_wasted_5 rfl ?_
    refine V_iload_n d_Scale_wasted_6 rfl ?_
    refine V_iload_n d_Scale_wasted_7 rfl ?_
    refine V_iadd d_Scale_wasted_8 ?_
    refine V_iconst (v := 2) d_Scale_wasted_9 (by decide) ?_
    refine V_idiv d_Scale_wasted_10 (by assumption) ?_
    refine V_isub d_Scale_wasted_11 ?_
    refine V_iconst (v := 1) d_Scale_wasted_12 (by decide) ?_
    refine V_isub d_Scale_wasted_13 ?_
    refine V_goto (tgt := 18) d_Scale_wasted_14 (by decide) ?_
    refine V_iret d_Scale_wasted_18 rfl ?_
    exact ⟨by unfold wst; rw [if_pos (fa_of_nle b2)], rfl⟩
/-- town t is told by the set of its last place, and isn't whole there -/
noncomputable def headB (D : LD) (P : Nat → Bool) (t : Nat) : Bool := @decide (∃ a, town D t a = true ∧ (∀ j, town D t j = true → j ≤ a) ∧ P a = true ∧ ∃ j, town D t j = true ∧ P j = false) (Classical.propDecidable _)
theorem headB_iff {D : LD} {P : Nat → Bool} {t : Nat} : headB D P t = true ↔ ∃ a, town D t a = true ∧ (∀ j, town D t j = true → j ≤ a) ∧ P a = true ∧ ∃ j, town D t j = true ∧ P j = false := by
  unfold headB
  exact @decide_eq_true_iff _ (Classical.propDecidable _)
theorem c_cutTowns {E : Wd} {h : Hp} {D : LD} (hl : LandW h D) (ok : okLD D) (P : Nat → Bool) : Cd E 2 m_Scale_cutTowns [.ref 18, .int (cI P)] h (some (.int (nI (fa_cnt (headB D P) 10)))) h := by
  have hn := ok.1
  obtain ⟨R, hR⟩ : ∃ R, R = fa_cnt (headB D P) 10 := ⟨_, rfl⟩
  rw [← hR]
  refine Cd_of ok_Scale_cutTowns rfl (Nat.le_of_ble_eq_true rfl) (L := [some (.ref 18), some (.int (cI P)), none, none, none]) rfl ?_
  refine V_iconst (v := 0) d_Scale_cutTowns_0 (by decide) ?_
  refine V_istore_n d_Scale_cutTowns_1 (by decide) ?_
  dsimp only [List.set]
  refine V_iconst (v := 0) d_Scale_cutTowns_2 (by decide) ?_
  refine V_istore_n d_Scale_cutTowns_3 (by decide) ?_
  dsimp only [List.set]
  have loop : ∀ i, i ≤ 10 → ∀ u4, V E 2 m_Scale_cutTowns (fun v' h' => v' = some (.int (nI R)) ∧ h' = h) 4 [some (.ref 18), some (.int (cI P)), some (.int (nI (fa_cnt (headB D P) i))), some (.int (nI i)), u4] [] h := by
    refine up_ind 10 ?_
    intro i hi ih u4
    refine V_iload_n d_Scale_cutTowns_4 rfl ?_
    refine V_bipush (v := 10) d_Scale_cutTowns_5 (by decide) ?_
    refine V_icmp_ge (tgt := 56) d_Scale_cutTowns_7 (by decide) (fun b7 => ?_) (fun b7 => ?_)
    · obtain rfl := ge_eq b7 rfl rfl (by decide) hi
      refine V_iload_n d_Scale_cutTowns_56 rfl ?_
      refine V_iret d_Scale_cutTowns_57 rfl ?_
      exact ⟨by rw [hR], rfl⟩
    · have hi10 := nge_lt b7 rfl rfl (by decide) hi
      have hin : vp_in (nI i) 10 := vp_in_nI hi10 (by omega)
      have ht : h 7 i = cI (town D i) := hl.2.2.2.2.2.2 i hi10
      have next : headB D P i = false → ∀ u4, V E 2 m_Scale_cutTowns (fun v' h' => v' = some (.int (nI R)) ∧ h' = h) 50 [some (.ref 18), some (.int (cI P)), some (.int (nI (fa_cnt (headB D P) i))), some (.int (nI i)), u4] [] h := by
        intro hf u4
        refine V_iincw (w := 1) d_Scale_cutTowns_50 rfl (by decide) (by decide) ?_
        dsimp only [List.set]
        refine V_goto (tgt := 4) d_Scale_cutTowns_53 (by decide) ?_
        rw [nI_1]
        have := ih hi10 u4
        rw [fa_cnt_no hf] at this
        exact this
      refine V_aload_n d_Scale_cutTowns_10 rfl ?_
      refine V_getR d_Scale_cutTowns_11 f_Scale_9 rfl (by first | rfl | assumption) (by first | rfl | assumption) ?_
      refine V_getR d_Scale_cutTowns_14 f_Scale_82 rfl (by first | rfl | assumption) (by first | rfl | assumption) ?_
      refine V_iload_n d_Scale_cutTowns_17 rfl ?_
      refine V_iald d_Scale_cutTowns_18 (by first | rfl | assumption) (by first | assumption | exact vp_in_nI (by omega) (by omega)) ?_
      rw [nI_clamp (by omega), ht]
      refine V_istore d_Scale_cutTowns_19 (by decide) ?_
      dsimp only [List.set]
      refine V_iload d_Scale_cutTowns_21 rfl ?_
      refine V_if_eq (tgt := 50) d_Scale_cutTowns_23 (by decide) (fun b23 => ?_) (fun b23 => ?_)
      · refine next ?_ _
        cases hb : headB D P i with
        | false => rfl
        | true =>
          obtain ⟨a, h1, -⟩ := headB_iff.mp hb
          have := town_lt h1
          rw [cI_eq0.mp b23 a (by omega)] at h1
          cases h1
      · obtain ⟨k, hk, h1, h2, h3, h4⟩ := cI_last b23
        have hmax : ∀ j, town D i j = true → j ≤ 29 - k := by
          intro j hj
          rcases Nat.lt_or_ge (29 - k) j with q | q
          · have h5 := town_lt hj
            rw [h4 j q (by omega)] at hj
            cases hj
          · exact q
        refine V_iload_n d_Scale_cutTowns_26 rfl ?_
        refine V_iload d_Scale_cutTowns_27 rfl ?_
        refine V_callS1 d_Scale_cutTowns_29 k_Scale_85 rfl (c_last h hk h1 h2) rfl (by first | decide | omega) rfl (Nat.le_of_ble_eq_true rfl) ?_
        refine V_callS1 d_Scale_cutTowns_32 k_Scale_88 rfl (c_has h (cI P) (show 29 - k < 30 by omega)) rfl (by first | decide | omega) rfl (Nat.le_of_ble_eq_true rfl) ?_
        rw [show bt (cI P) (29 - (29 - k)) = P (29 - k) from cI_cs P (by omega)]
        refine V_if_eq (tgt := 50) d_Scale_cutTowns_35 (by decide) (fun b35 => ?_) (fun b35 => ?_)
        · refine next ?_ _
          cases hb : headB D P i with
          | false => rfl
          | true =>
            obtain ⟨a, q1, q2, q3, -⟩ := headB_iff.mp hb
            have : a = 29 - k := by
              have := q2 _ h3
              have := hmax _ q1
              omega
            subst this
            rw [b2i.mp b35] at q3
            cases q3
        · have hPk := b2in.mp b35
          refine V_iload d_Scale_cutTowns_38 rfl ?_
          refine V_iload_n d_Scale_cutTowns_40 rfl ?_
          refine V_iconst (v := -1) d_Scale_cutTowns_41 (by decide) ?_
          refine V_ixor d_Scale_cutTowns_42 ?_
          refine V_iand d_Scale_cutTowns_43 ?_
          rw [cI_dif]
          refine V_if_eq (tgt := 50) d_Scale_cutTowns_44 (by decide) (fun b44 => ?_) (fun b44 => ?_)
          · refine next ?_ _
            cases hb : headB D P i with
            | false => rfl
            | true =>
              obtain ⟨a, q1, q2, q3, j, q4, q5⟩ := headB_iff.mp hb
              have h5 := town_lt q4
              have := cI_eq0.mp b44 j (by omega)
              rw [q4, q5] at this
              cases this
          · have hf : headB D P i = true := by
              obtain ⟨j, hj, hP⟩ := cI_ne0.mp b44
              simp only [Bool.and_eq_true] at hP
              exact headB_iff.mpr ⟨29 - k, h3, hmax, hPk, j, hP.1, by simpa using hP.2⟩
            refine V_iincw (w := 1) d_Scale_cutTowns_47 rfl (by decide) (by decide) ?_
            dsimp only [List.set]
            refine V_iincw (w := 1) d_Scale_cutTowns_50 rfl (by decide) (by decide) ?_
            dsimp only [List.set]
            refine V_goto (tgt := 4) d_Scale_cutTowns_53 (by decide) ?_
            rw [nI_1, nI_1]
            have := ih hi10 (some (.int (cI (town D i))))
            rw [fa_cnt_yes hf] at this
            exact this
  exact loop 0 (by omega) _
/-- what a set gives to a measure -/
noncomputable def shr (D : LD) (m : Nat) (P : Nat → Bool) : Int32 := match m with
  | 0 => smP (dLn D) (fun b => P (dFr D b) && !P (dTo D b)) (dB D)
  | 1 => nI (fa_cnt (headB D P) 10)
  | 2 => if smP (dOn D) P (dN D) < smP (dZe D) P (dN D) then 1 else 0
  | 3 => if smP (dZe D) P (dN D) < smP (dOn D) P (dN D) then 1 else 0
  | 4 => wst (smP (dZe D) P (dN D)) (smP (dOn D) P (dN D))
  | 5 => wst (smP (dOn D) P (dN D)) (smP (dZe D) P (dN D))
  | _ => nI (pplN D P)
theorem c_voteShare {E : Wd} {h : Hp} {D : LD} (hl : LandW h D) (ok : okLD D) {P : Nat → Bool} (hsub : ∀ j, j < 30 → P j = true → j < dN D) {m : Nat} (h2 : 2 ≤ m) (h5 : m ≤ 5) : Cd E 3 m_Scale_voteShare [.ref 18, .int (cI P), .int (nI m)] h (some (.int (shr D m P))) h := by
  refine Cd_of ok_Scale_voteShare rfl (Nat.le_of_ble_eq_true rfl) (L := [some (.ref 18), some (.int (cI P)), some (.int (nI m)), none, none]) rfl ?_
  refine V_aload_n d_Scale_voteShare_0 rfl ?_
  refine V_getR d_Scale_voteShare_1 f_Scale_9 rfl (by first | rfl | assumption) (by first | rfl | assumption) ?_
  refine V_getR d_Scale_voteShare_4 f_Scale_73 rfl (by first | rfl | assumption) (by first | rfl | assumption) ?_
  refine V_iload_n d_Scale_voteShare_7 rfl ?_
  refine V_callS1 d_Scale_voteShare_8 k_Scale_64 rfl (c_sum h rfl (cI_hi P)) rfl (by first | decide | omega) rfl (Nat.le_of_ble_eq_true rfl) ?_
  rw [sum_row ok.1 (fun p hp => (hl.2.2.2.1 p hp).2.1) hsub]
  refine V_istore_n d_Scale_voteShare_11 (by decide) ?_
  dsimp only [List.set]
  refine V_aload_n d_Scale_voteShare_12 rfl ?_
  refine V_getR d_Scale_voteShare_13 f_Scale_9 rfl (by first | rfl | assumption) (by first | rfl | assumption) ?_
  refine V_getR d_Scale_voteShare_16 f_Scale_76 rfl (by first | rfl | assumption) (by first | rfl | assumption) ?_
  refine V_iload_n d_Scale_voteShare_19 rfl ?_
  refine V_callS1 d_Scale_voteShare_20 k_Scale_64 rfl (c_sum h rfl (cI_hi P)) rfl (by first | decide | omega) rfl (Nat.le_of_ble_eq_true rfl) ?_
  rw [sum_row ok.1 (fun p hp => (hl.2.2.2.1 p hp).2.2.1) hsub]
  refine V_istore d_Scale_voteShare_23 (by decide) ?_
  dsimp only [List.set]
  refine V_iload_n d_Scale_voteShare_25 rfl ?_
  rcases (show m = 2 ∨ m = 3 ∨ m = 4 ∨ m = 5 by omega) with rfl | rfl | rfl | rfl
  · refine V_tableIn (off := 26) (tgt := 52) d_Scale_voteShare_26 (by decide) (by decide) (by decide) (by decide) ?_
    refine V_iload_n d_Scale_voteShare_52 rfl ?_
    refine V_iload d_Scale_voteShare_53 rfl ?_
    refine V_icmp_le (tgt := 62) d_Scale_voteShare_55 (by decide) (fun b55 => ?_) (fun b55 => ?_)
    · refine V_iconst (v := 0) d_Scale_voteShare_62 (by decide) ?_
      refine V_iret d_Scale_voteShare_63 rfl ?_
      exact ⟨by rw [shr, if_neg (fun q => (fa_of_lt q).2.1 b55)], rfl⟩
    · refine V_iconst (v := 1) d_Scale_voteShare_58 (by decide) ?_
      refine V_goto (tgt := 63) d_Scale_voteShare_59 (by decide) ?_
      refine V_iret d_Scale_voteShare_63 rfl ?_
      exact ⟨by rw [shr, if_pos (fa_of_nle b55)], rfl⟩
  · refine V_tableIn (off := 38) (tgt := 64) d_Scale_voteShare_26 (by decide) (by decide) (by decide) (by decide) ?_
    refine V_iload d_Scale_voteShare_64 rfl ?_
    refine V_iload_n d_Scale_voteShare_66 rfl ?_
    refine V_icmp_le (tgt := 74) d_Scale_voteShare_67 (by decide) (fun b67 => ?_) (fun b67 => ?_)
    · refine V_iconst (v := 0) d_Scale_voteShare_74 (by decide) ?_
      refine V_iret d_Scale_voteShare_75 rfl ?_
      exact ⟨by rw [shr, if_neg (fun q => (fa_of_lt q).2.1 b67)], rfl⟩
    · refine V_iconst (v := 1) d_Scale_voteShare_70 (by decide) ?_
      refine V_goto (tgt := 75) d_Scale_voteShare_71 (by decide) ?_
      refine V_iret d_Scale_voteShare_75 rfl ?_
      exact ⟨by rw [shr, if_pos (fa_of_nle b67)], rfl⟩
  · refine V_tableIn (off := 50) (tgt := 76) d_Scale_voteShare_26 (by decide) (by decide) (by decide) (by decide) ?_
    refine V_iload_n d_Scale_voteShare_76 rfl ?_
    refine V_iload d_Scale_voteShare_77 rfl ?_
    refine V_callS1 d_Scale_voteShare_79 k_Scale_79 rfl (c_wasted h _ _) rfl (by first | decide | omega) rfl (Nat.le_of_ble_eq_true rfl) ?_
    refine V_iret d_Scale_voteShare_82 rfl ?_
    exact ⟨rfl, rfl⟩
  · refine V_tableOut (tgt := 83) d_Scale_voteShare_26 (by decide) (by decide) ?_
    refine V_iload d_Scale_voteShare_83 rfl ?_
    refine V_iload_n d_Scale_voteShare_85 rfl ?_
    refine V_callS1 d_Scale_voteShare_86 k_Scale_79 rfl (c_wasted h _ _) rfl (by first | decide | omega) rfl (Nat.le_of_ble_eq_true rfl) ?_
    refine V_iret d_Scale_voteShare_89 rfl ?_
    exact ⟨rfl, rfl⟩
theorem c_shareOf {E : Wd} {h : Hp} {D : LD} (hl : LandW h D) (ok : okLD D) {P : Nat → Bool} (hsub : ∀ j, j < 30 → P j = true → j < dN D) {m : Nat} (hm : m ≤ 6) : Cd E 4 m_Scale_shareOf [.ref 18, .int (cI P), .int (nI m)] h (some (.int (shr D m P))) h := by
  have hn := ok.1
  refine Cd_of ok_Scale_shareOf rfl (Nat.le_of_ble_eq_true rfl) (L := [some (.ref 18), some (.int (cI P)), some (.int (nI m))]) rfl ?_
  refine V_iload_n d_Scale_shareOf_0 rfl ?_
  rcases (show m = 0 ∨ m = 1 ∨ m = 6 ∨ (2 ≤ m ∧ m ≤ 5) by omega) with rfl | rfl | rfl | ⟨h2, h5⟩
  · refine V_lookup (off := 35) (tgt := 36) d_Scale_shareOf_1 (by decide) (by decide) (by decide) ?_
    refine V_aload_n d_Scale_shareOf_36 rfl ?_
    refine V_getR d_Scale_shareOf_37 f_Scale_9 rfl (by first | rfl | assumption) (by first | rfl | assumption) ?_
    refine V_iload_n d_Scale_shareOf_40 rfl ?_
    refine V_callV1 d_Scale_shareOf_41 k_Scale_53 rfl (c_outgoing hl ok (cI P)) (by first | rfl | assumption) rfl rfl (by first | decide | omega) rfl (Nat.le_of_ble_eq_true rfl) ?_
    refine V_iret d_Scale_shareOf_44 rfl ?_
    refine ⟨?_, rfl⟩
    rw [shr, smP_cong (fun b hb => ?_)]
    have hbb := ok.2.2.2.1 b hb
    rw [cI_cs P (by omega), cI_cs P (by omega)]
  · refine V_lookup (off := 44) (tgt := 45) d_Scale_shareOf_1 (by decide) (by decide) (by decide) ?_
    refine V_aload_n d_Scale_shareOf_45 rfl ?_
    refine V_iload_n d_Scale_shareOf_46 rfl ?_
    refine V_callV1 d_Scale_shareOf_47 k_Scale_58 rfl (c_cutTowns hl ok P) (by first | rfl | assumption) rfl rfl (by first | decide | omega) rfl (Nat.le_of_ble_eq_true rfl) ?_
    refine V_iret d_Scale_shareOf_50 rfl ?_
    exact ⟨rfl, rfl⟩
  · refine V_lookup (off := 50) (tgt := 51) d_Scale_shareOf_1 (by decide) (by decide) (by decide) ?_
    refine V_aload_n d_Scale_shareOf_51 rfl ?_
    refine V_getR d_Scale_shareOf_52 f_Scale_9 rfl (by first | rfl | assumption) (by first | rfl | assumption) ?_
    refine V_getR d_Scale_shareOf_55 f_Scale_61 rfl (by first | rfl | assumption) (by first | rfl | assumption) ?_
    refine V_iload_n d_Scale_shareOf_58 rfl ?_
    refine V_callS1 d_Scale_shareOf_59 k_Scale_64 rfl (c_sum h rfl (cI_hi P)) rfl (by first | decide | omega) rfl (Nat.le_of_ble_eq_true rfl) ?_
    rw [sum_ppl hl ok hsub]
    refine V_iret d_Scale_shareOf_62 rfl ?_
    exact ⟨rfl, rfl⟩
  · have go : V E 4 m_Scale_shareOf (fun v' h' => v' = some (.int (shr D m P)) ∧ h' = h) 63 [some (.ref 18), some (.int (cI P)), some (.int (nI m))] [] h := by
      refine V_aload_n d_Scale_shareOf_63 rfl ?_
      refine V_iload_n d_Scale_shareOf_64 rfl ?_
      refine V_iload_n d_Scale_shareOf_65 rfl ?_
      refine V_callV1 d_Scale_shareOf_66 k_Scale_70 rfl (c_voteShare hl ok hsub h2 h5) (by first | rfl | assumption) rfl rfl (by first | decide | omega) rfl (Nat.le_of_ble_eq_true rfl) ?_
      refine V_iret d_Scale_shareOf_69 rfl ?_
      exact ⟨rfl, rfl⟩
    rcases (show m = 2 ∨ m = 3 ∨ m = 4 ∨ m = 5 by omega) with rfl | rfl | rfl | rfl
    · exact V_lookup (off := 62) (tgt := 63) d_Scale_shareOf_1 (by decide) (by decide) (by decide) go
    · exact V_lookup (off := 62) (tgt := 63) d_Scale_shareOf_1 (by decide) (by decide) (by decide) go
    · exact V_lookup (off := 62) (tgt := 63) d_Scale_shareOf_1 (by decide) (by decide) (by decide) go
    · exact V_lookup (off := 62) (tgt := 63) d_Scale_shareOf_1 (by decide) (by decide) (by decide) go
def mxI (f : Nat → Int32) : Nat → Int32
  | 0 => 0
  | n + 1 => if mxI f n < f n then f n else mxI f n
def mnI (f : Nat → Int32) : Nat → Int32
  | 0 => 2147483647
  | n + 1 => if f n < mnI f n then f n else mnI f n
def smI (f : Nat → Int32) (n : Nat) : Int32 := smP f (fun _ => true) n
/-- the measure of a parting whose districts give f -/
def tgI (f : Nat → Int32) (k m : Nat) : Int32 := if m = 6 then mxI f k - mnI f k else smI f k
theorem c_together {E : Wd} {h : Hp} {w : LW} (hw : LawW h w) (okw : okLW w) {m : Nat} (hm : m ≤ 6) : Cd E 1 m_Scale_together [.ref 18, .int (nI m)] h (some (.int (tgI (h 19) (wK w) m))) h := by
  have h6 := okw.2.1
  refine Cd_of ok_Scale_together rfl (Nat.le_of_ble_eq_true rfl) (L := [some (.ref 18), some (.int (nI m)), none, none, none, none]) rfl ?_
  refine V_iconst (v := 0) d_Scale_together_0 (by decide) ?_
  refine V_istore_n d_Scale_together_1 (by decide) ?_
  dsimp only [List.set]
  refine V_iconst (v := 0) d_Scale_together_2 (by decide) ?_
  refine V_istore_n d_Scale_together_3 (by decide) ?_
  dsimp only [List.set]
  refine V_ldc d_Scale_together_4 v_Scale_44 rfl ?_
  refine V_istore d_Scale_together_6 (by decide) ?_
  dsimp only [List.set]
  refine V_iconst (v := 0) d_Scale_together_8 (by decide) ?_
  refine V_istore d_Scale_together_9 (by decide) ?_
  dsimp only [List.set]
  have loop : ∀ i, i ≤ wK w → V E 1 m_Scale_together (fun v' h' => v' = some (.int (tgI (h 19) (wK w) m)) ∧ h' = h) 11 [some (.ref 18), some (.int (nI m)), some (.int (smI (h 19) i)), some (.int (mxI (h 19) i)), some (.int (mnI (h 19) i)), some (.int (nI i))] [] h := by
    refine up_ind (wK w) ?_
    intro i hi ih
    refine V_iload d_Scale_together_11 rfl ?_
    refine V_aload_n d_Scale_together_13 rfl ?_
    refine V_getR d_Scale_together_14 f_Scale_15 rfl (by first | rfl | assumption) (by first | rfl | assumption) ?_
    refine V_getI d_Scale_together_17 f_Scale_23 rfl (by first | rfl | assumption) (by first | rfl | assumption) ?_
    rw [hw.1]
    refine V_icmp_ge (tgt := 65) d_Scale_together_20 (by decide) (fun b20 => ?_) (fun b20 => ?_)
    · obtain rfl := ge_eq b20 rfl rfl (by omega) hi
      refine V_iload_n d_Scale_together_65 rfl ?_
      refine V_bipush (v := 6) d_Scale_together_66 (by decide) ?_
      refine V_icmp_ne (tgt := 78) d_Scale_together_68 (by decide) (fun b68 => ?_) (fun b68 => ?_)
      · refine V_iload_n d_Scale_together_78 rfl ?_
        refine V_iret d_Scale_together_79 rfl ?_
        refine ⟨?_, rfl⟩
        unfold tgI
        rw [if_neg (fun q => b68 (by rw [q]; rfl))]
      · refine V_iload_n d_Scale_together_71 rfl ?_
        refine V_iload d_Scale_together_72 rfl ?_
        refine V_isub d_Scale_together_74 ?_
        refine V_goto (tgt := 79) d_Scale_together_75 (by decide) ?_
        refine V_iret d_Scale_together_79 rfl ?_
        refine ⟨?_, rfl⟩
        have := (eq_nI m 6 rfl rfl (by omega) (by decide)).mp b68
        unfold tgI
        rw [if_pos this]
    · have hik := nge_lt b20 rfl rfl (by omega) hi
      have hin : vp_in (nI i) 6 := vp_in_nI (by omega) (by omega)
      refine V_iload_n d_Scale_together_23 rfl ?_
      refine V_aload_n d_Scale_together_24 rfl ?_
      refine V_getR d_Scale_together_25 f_Scale_19 rfl (by first | rfl | assumption) (by first | rfl | assumption) ?_
      refine V_iload d_Scale_together_28 rfl ?_
      refine V_iald d_Scale_together_30 (by first | rfl | assumption) (by first | assumption | exact vp_in_nI (by omega) (by omega)) ?_
      refine V_iadd d_Scale_together_31 ?_
      refine V_istore_n d_Scale_together_32 (by decide) ?_
      dsimp only [List.set]
      refine V_iload_n d_Scale_together_33 rfl ?_
      refine V_aload_n d_Scale_together_34 rfl ?_
      refine V_getR d_Scale_together_35 f_Scale_19 rfl (by first | rfl | assumption) (by first | rfl | assumption) ?_
      refine V_iload d_Scale_together_38 rfl ?_
      refine V_iald d_Scale_together_40 (by first | rfl | assumption) (by first | assumption | exact vp_in_nI (by omega) (by omega)) ?_
      refine V_mmax d_Scale_together_41 kM_Scale_45 rfl (by first | decide | omega) (Nat.le_of_ble_eq_true rfl) ?_
      refine V_istore_n d_Scale_together_44 (by decide) ?_
      dsimp only [List.set]
      refine V_iload d_Scale_together_45 rfl ?_
      refine V_aload_n d_Scale_together_47 rfl ?_
      refine V_getR d_Scale_together_48 f_Scale_19 rfl (by first | rfl | assumption) (by first | rfl | assumption) ?_
      refine V_iload d_Scale_together_51 rfl ?_
      refine V_iald d_Scale_together_53 (by first | rfl | assumption) (by first | assumption | exact vp_in_nI (by omega) (by omega)) ?_
      refine V_mmin d_Scale_together_54 kM_Scale_50 rfl (by first | decide | omega) (Nat.le_of_ble_eq_true rfl) ?_
      refine V_istore d_Scale_together_57 (by decide) ?_
      dsimp only [List.set]
      refine V_iincw (w := 1) d_Scale_together_59 rfl (by decide) (by decide) ?_
      dsimp only [List.set]
      refine V_goto (tgt := 11) d_Scale_together_62 (by decide) ?_
      rw [nI_clamp (by omega), nI_1]
      have := ih hik
      unfold smI at this ⊢
      rw [smP, mxI, mnI] at this
      exact this
  exact loop 0 (Nat.zero_le _)
/-- a measure of a parting -/
noncomputable def val (D : LD) (w : LW) (ds : Nat → Nat) (m : Nat) : Int32 := tgI (fun d => shr D m (dP D ds d)) (wK w) m
theorem mxI_cong {f g : Nat → Int32} : ∀ {n : Nat}, (∀ i, i < n → f i = g i) → mxI f n = mxI g n
  | 0, _ => rfl
  | n + 1, h => by rw [mxI, mxI, mxI_cong (fun i hi => h i (by omega)), h n (by omega)]
theorem mnI_cong {f g : Nat → Int32} : ∀ {n : Nat}, (∀ i, i < n → f i = g i) → mnI f n = mnI g n
  | 0, _ => rfl
  | n + 1, h => by rw [mnI, mnI, mnI_cong (fun i hi => h i (by omega)), h n (by omega)]
theorem tgI_cong {f g : Nat → Int32} {n m : Nat} (h : ∀ i, i < n → f i = g i) : tgI f n m = tgI g n m := by
  unfold tgI smI
  rw [mxI_cong h, mnI_cong h, smP_congf h]
theorem c_weigh {E : Wd} {h : Hp} {D : LD} {w : LW} (hl : LandW h D) (ok : okLD D) (hw : LawW h w) (okw : okLW w) {o : Nat} (ho : isPt o) (hos : o + 2 ≠ 19) {ds : Nat → Nat} (hp : PartW h o (inN D) ds) {m : Nat} (hm : m ≤ 6) : Cq E 5 m_Scale_weigh [.ref 18, .ref o, .int (nI m)] h (fun v h' => v = some (.int (val D w ds m)) ∧ ∃ f, h' = hrow h 19 f) := by
  obtain ⟨ho0, ho1, ho2⟩ := ho
  have h6 := okw.2.1
  refine Cq_of2 ok_Scale_weigh rfl (Nat.le_of_ble_eq_true rfl) (L := [some (.ref 18), some (.ref o), some (.int (nI m)), none]) rfl ?_
  refine V_iconst (v := 0) d_Scale_weigh_0 (by decide) ?_
  refine V_istore_n d_Scale_weigh_1 (by decide) ?_
  dsimp only [List.set]
  have loop : ∀ i, i ≤ wK w → ∀ f, (∀ j, j < i → f j = shr D m (dP D ds j)) → V E 5 m_Scale_weigh (fun v h' => v = some (.int (val D w ds m)) ∧ ∃ f, h' = hrow h 19 f) 2 [some (.ref 18), some (.ref o), some (.int (nI m)), some (.int (nI i))] [] (hrow h 19 f) := by
    refine up_ind (wK w) ?_
    intro i hi ih f hf
    have hl' : LandW (hrow h 19 f) D := hl.of (fun q h1 h2 => hrow_ne (by omega))
    have hw' : LawW (hrow h 19 f) w := hw.of (fun q h1 h2 => hrow_ne (by omega))
    refine V_iload_n d_Scale_weigh_2 rfl ?_
    refine V_aload_n d_Scale_weigh_3 rfl ?_
    refine V_getR d_Scale_weigh_4 f_Scale_15 rfl (by first | rfl | assumption) (by first | rfl | assumption) ?_
    refine V_getI d_Scale_weigh_7 f_Scale_23 rfl (by first | rfl | assumption) (by first | rfl | assumption) ?_
    rw [hw'.1]
    refine V_icmp_ge (tgt := 36) d_Scale_weigh_10 (by decide) (fun b10 => ?_) (fun b10 => ?_)
    · obtain rfl := ge_eq b10 rfl rfl (by omega) hi
      refine V_aload_n d_Scale_weigh_36 rfl ?_
      refine V_iload_n d_Scale_weigh_37 rfl ?_
      refine V_callV1 d_Scale_weigh_38 k_Scale_38 rfl (c_together hw' okw hm) (by first | rfl | assumption) rfl rfl (by first | decide | omega) rfl (Nat.le_of_ble_eq_true rfl) ?_
      rw [hrow_same]
      refine V_iret d_Scale_weigh_41 rfl ?_
      refine ⟨?_, f, rfl⟩
      unfold val
      rw [tgI_cong hf]
    · have hik := nge_lt b10 rfl rfl (by omega) hi
      have hin : vp_in (nI i) 6 := vp_in_nI (by omega) (by omega)
      refine V_aload_n d_Scale_weigh_13 rfl ?_
      refine V_getR d_Scale_weigh_14 f_Scale_19 rfl (by first | rfl | assumption) (by first | rfl | assumption) ?_
      refine V_iload_n d_Scale_weigh_17 rfl ?_
      refine V_aload_n d_Scale_weigh_18 rfl ?_
      refine V_aload_n d_Scale_weigh_19 rfl ?_
      refine V_getR d_Scale_weigh_20 f_Scale_29 rfl (by first | rfl | assumption) (by first | rfl | assumption) ?_
      refine V_iload_n d_Scale_weigh_23 rfl ?_
      refine V_iald d_Scale_weigh_24 (by first | rfl | assumption) (by first | assumption | exact vp_in_nI (by omega) (by omega)) ?_
      refine V_iload_n d_Scale_weigh_25 rfl ?_
      rw [nI_clamp (by omega), hrow_ne hos, hp.2 i (by omega)]
      refine V_callV1 d_Scale_weigh_26 k_Scale_34 rfl (c_shareOf (P := dP D ds i) hl' ok (fun j _ q => dP_sub q) hm) (by first | rfl | assumption) rfl rfl (by first | decide | omega) rfl (Nat.le_of_ble_eq_true rfl) ?_
      refine V_iast d_Scale_weigh_29 (by first | rfl | assumption) (by first | assumption | exact vp_in_nI (by omega) (by omega)) ?_
      refine V_iincw (w := 1) d_Scale_weigh_30 rfl (by decide) (by decide) ?_
      dsimp only [List.set]
      refine V_goto (tgt := 2) d_Scale_weigh_33 (by decide) ?_
      rw [nI_clamp (by omega), hup_hrow, nI_1]
      refine ih hik _ (fun j hj => ?_)
      by_cases hji : j = i
      · rw [hji, upd_s]
      · rw [upd_n hji]
        exact hf j (by omega)
  have h0 := loop 0 (Nat.zero_le _) (h 19) (fun j hj => absurd hj (Nat.not_lt_zero j))
  rw [hrow_self] at h0
  exact h0
