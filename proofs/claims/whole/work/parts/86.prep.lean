/-! prepare() -/
theorem LC_wf (D : LD) (w : LW) : LC D (wfr true w) = LC D w := rfl
theorem c_several {E : Wd} {h : Hp} {D : LD} (hl : LandW h D) : Cd E 1 m_ClassBook_severalPlaceTowns [.ref 20] h (some (.int (nI (fa_cnt (sevB D) 10)))) h := by
  obtain ⟨R, hR⟩ : ∃ R, R = fa_cnt (sevB D) 10 := ⟨_, rfl⟩
  rw [← hR]
  refine Cd_of ok_ClassBook_severalPlaceTowns rfl (Nat.le_of_ble_eq_true rfl) (L := [some (.ref 20), none, none]) rfl ?_
  refine V_iconst (v := 0) d_ClassBook_severalPlaceTowns_0 (by decide) ?_
  refine V_istore_n d_ClassBook_severalPlaceTowns_1 (by decide) ?_
  dsimp only [List.set]
  refine V_iconst (v := 0) d_ClassBook_severalPlaceTowns_2 (by decide) ?_
  refine V_istore_n d_ClassBook_severalPlaceTowns_3 (by decide) ?_
  dsimp only [List.set]
  have loop : ∀ i, i ≤ 10 → V E 1 m_ClassBook_severalPlaceTowns (fun v' h' => v' = some (.int (nI R)) ∧ h' = h) 4 [some (.ref 20), some (.int (nI (fa_cnt (sevB D) i))), some (.int (nI i))] [] h := by
    refine up_ind 10 ?_
    intro i hi ih
    refine V_iload_n d_ClassBook_severalPlaceTowns_4 rfl ?_
    refine V_bipush (v := 10) d_ClassBook_severalPlaceTowns_5 (by decide) ?_
    refine V_icmp_ge (tgt := 35) d_ClassBook_severalPlaceTowns_7 (by decide) (fun b7 => ?_) (fun b7 => ?_)
    · have hii : i = 10 := ge_eq (N := 10) b7 rfl rfl (by decide) hi
      subst hii
      refine V_iload_n d_ClassBook_severalPlaceTowns_35 rfl ?_
      refine V_iret d_ClassBook_severalPlaceTowns_36 rfl ?_
      exact ⟨by rw [hR], rfl⟩
    · have hi' := nge_lt (N := 10) b7 rfl rfl (by decide) hi
      have ih := ih hi'
      have hin : vp_in (nI i) 10 := vp_in_nI hi' (by omega)
      have htw : h 7 i = cI (town D i) := hl.2.2.2.2.2.2 i hi'
      have hcl := fa_cnt_le (town D i) 30
      refine V_aload_n d_ClassBook_severalPlaceTowns_10 rfl ?_
      refine V_getR d_ClassBook_severalPlaceTowns_11 f_ClassBook_11 rfl (by first | rfl | assumption) (by first | rfl | assumption) ?_
      refine V_getR d_ClassBook_severalPlaceTowns_14 f_ClassBook_135 rfl (by first | rfl | assumption) (by first | rfl | assumption) ?_
      refine V_iload_n d_ClassBook_severalPlaceTowns_17 rfl ?_
      refine V_iald d_ClassBook_severalPlaceTowns_18 (by first | rfl | assumption) (by first | assumption | exact vp_in_nI (by omega) (by omega)) ?_
      rw [nI_clamp (by omega), htw]
      refine V_callS1 d_ClassBook_severalPlaceTowns_19 k_ClassBook_138 rfl (c_bitCount h _) rfl (by first | decide | omega) rfl (Nat.le_of_ble_eq_true rfl) ?_
      rw [bcI_pcn (cI_hi _), pcn_cI]
      refine V_iconst (v := 1) d_ClassBook_severalPlaceTowns_22 (by decide) ?_
      refine V_icmp_le (tgt := 29) d_ClassBook_severalPlaceTowns_23 (by decide) (fun b23 => ?_) (fun b23 => ?_)
      · have hle := (le_nI (fa_cnt (town D i) 30) 1 rfl rfl (by omega) (by decide)).mp b23
        refine V_iincw (w := 1) d_ClassBook_severalPlaceTowns_29 rfl (by decide) (by decide) ?_
        dsimp only [List.set]
        refine V_goto (tgt := 4) d_ClassBook_severalPlaceTowns_32 (by decide) ?_
        rw [fa_cnt_no (by unfold sevB; exact decide_eq_false (by omega))] at ih
        rw [nI_1]
        exact ih
      · have hgt : 2 ≤ fa_cnt (town D i) 30 := by
          rcases Nat.lt_or_ge 1 (fa_cnt (town D i) 30) with z | z
          · exact z
          · exact absurd ((le_nI (fa_cnt (town D i) 30) 1 rfl rfl (by omega) (by decide)).mpr z) b23
        refine V_iincw (w := 1) d_ClassBook_severalPlaceTowns_26 rfl (by decide) (by decide) ?_
        dsimp only [List.set]
        refine V_iincw (w := 1) d_ClassBook_severalPlaceTowns_29 rfl (by decide) (by decide) ?_
        dsimp only [List.set]
        refine V_goto (tgt := 4) d_ClassBook_severalPlaceTowns_32 (by decide) ?_
        rw [fa_cnt_yes (by unfold sevB; exact decide_eq_true hgt)] at ih
        rw [nI_1, nI_1]
        exact ih
  exact loop 0 (by omega)
theorem c_fillPrices {E : Wd} {h : Hp} {D : LD} {w : LW} (hl : LandW h D) (ok : okLD D) (hw : LawW h w) (okw : okLW w) (h12 : dN D ≤ 12) (hsh : h 20 11 = nI (30 - dN D)) {c : Bool} (hc : c = bndB D w) : Cq E 4 m_ClassBook_fillPrices [.ref 20, .int (if c then 1 else 0)] h (fun v h' => v = none ∧ ∃ f, h' = hrow h 23 f ∧ ∀ x, x < 2 ^ dN D → f x = prI D w (nI (x * 2 ^ (30 - dN D)))) := by
  have hN := ok.1
  have hp12 : 2 ^ dN D ≤ 2 ^ 12 := Nat.pow_le_pow_right (by omega) h12
  have hp12' : (2 : Nat) ^ 12 = 4096 := by decide
  refine Cq_of2 ok_ClassBook_fillPrices rfl (Nat.le_of_ble_eq_true rfl) (L := [some (.ref 20), some (.int (if c then 1 else 0)), none, none, none]) rfl ?_
  refine V_iconst (v := 1) d_ClassBook_fillPrices_0 (by decide) ?_
  refine V_aload_n d_ClassBook_fillPrices_1 rfl ?_
  refine V_getR d_ClassBook_fillPrices_2 f_ClassBook_11 rfl (by first | rfl | assumption) (by first | rfl | assumption) ?_
  refine V_getI d_ClassBook_fillPrices_5 f_ClassBook_54 rfl (by first | rfl | assumption) (by first | rfl | assumption) ?_
  rw [hl.1]
  refine V_ishl d_ClassBook_fillPrices_8 ?_
  refine V_istore_n d_ClassBook_fillPrices_9 (by decide) ?_
  dsimp only [List.set]
  refine V_iconst (v := 0) d_ClassBook_fillPrices_10 (by decide) ?_
  refine V_istore_n d_ClassBook_fillPrices_11 (by decide) ?_
  dsimp only [List.set]
  rw [show (1 : Int32) = nI 1 from rfl, shl_pow (by omega) (by omega), Nat.one_mul]
  have loop : ∀ i, i ≤ 2 ^ dN D → ∀ f u4, (∀ x, x < i → f x = prI D w (nI (x * 2 ^ (30 - dN D)))) → V E 4 m_ClassBook_fillPrices (fun v h' => v = none ∧ ∃ f, h' = hrow h 23 f ∧ ∀ x, x < 2 ^ dN D → f x = prI D w (nI (x * 2 ^ (30 - dN D)))) 12 [some (.ref 20), some (.int (if c then 1 else 0)), some (.int (nI (2 ^ dN D))), some (.int (nI i)), u4] [] (hrow h 23 f) := by
    refine up_ind (2 ^ dN D) ?_
    intro i hi ih f u4 hf
    have hlf : LandW (hrow h 23 f) D := hl.of (fun q _ _ => hrow_ne (by omega))
    have hwf : LawW (hrow h 23 f) w := hw.of (fun q _ _ => hrow_ne (by omega))
    refine V_iload_n d_ClassBook_fillPrices_12 rfl ?_
    refine V_iload_n d_ClassBook_fillPrices_13 rfl ?_
    refine V_icmp_ge (tgt := 76) d_ClassBook_fillPrices_14 (by decide) (fun b14 => ?_) (fun b14 => ?_)
    · have hii : i = 2 ^ dN D := ge_eq b14 rfl rfl (by omega) hi
      refine V_vret d_ClassBook_fillPrices_76 rfl ?_
      exact ⟨rfl, f, rfl, fun x hx => hf x (by omega)⟩
    · have hi' := nge_lt b14 rfl rfl (by omega) hi
      have ih := ih hi'
      have hin : vp_in (nI i) 4096 := vp_in_nI (by omega) (by omega)
      have hS := (nI_slot (by omega) hi').1
      refine V_iload_n d_ClassBook_fillPrices_17 rfl ?_
      refine V_aload_n d_ClassBook_fillPrices_18 rfl ?_
      refine V_getI d_ClassBook_fillPrices_19 f_ClassBook_57 rfl (by first | rfl | assumption) (by first | rfl | assumption) ?_
      rw [hrow_ne (by omega), hsh]
      refine V_ishl d_ClassBook_fillPrices_22 ?_
      rw [shl_slot (by omega) hi']
      obtain ⟨S, hSe⟩ : ∃ S, S = nI (i * 2 ^ (30 - dN D)) := ⟨_, rfl⟩
      rw [← hSe] at hS ⊢
      have hSc : S = cI (cs S) := cI_of hS.1
      have next : ∀ x u4, x = prI D w S → V E 4 m_ClassBook_fillPrices (fun v h' => v = none ∧ ∃ f, h' = hrow h 23 f ∧ ∀ x, x < 2 ^ dN D → f x = prI D w (nI (x * 2 ^ (30 - dN D)))) 70 [some (.ref 20), some (.int (if c then 1 else 0)), some (.int (nI (2 ^ dN D))), some (.int (nI i)), u4] [] (hrow h 23 (upd f i x)) := by
        intro x u4 hx
        refine V_iincw (w := 1) d_ClassBook_fillPrices_70 rfl (by decide) (by decide) ?_
        dsimp only [List.set]
        refine V_goto (tgt := 12) d_ClassBook_fillPrices_73 (by decide) ?_
        rw [nI_1]
        refine ih _ _ (fun y hy => ?_)
        by_cases e : y = i
        · rw [e, upd_s, hx, hSe]
        · rw [upd_n e]; exact hf y (by omega)
      have hmay := c_mayBeDistrict (E := E) (P := cs S) hlf ok hwf okw hS.2
      rw [← hSc] at hmay
      refine V_istore d_ClassBook_fillPrices_23 (by decide) ?_
      dsimp only [List.set]
      refine V_aload_n d_ClassBook_fillPrices_25 rfl ?_
      refine V_getR d_ClassBook_fillPrices_26 f_ClassBook_19 rfl (by first | rfl | assumption) (by first | rfl | assumption) ?_
      refine V_iload d_ClassBook_fillPrices_29 rfl ?_
      refine V_callV1 d_ClassBook_fillPrices_31 k_ClassBook_143 rfl (hmay) (by first | rfl | assumption) rfl rfl (by first | decide | omega) rfl (Nat.le_of_ble_eq_true rfl) ?_
      refine V_if_ne (tgt := 47) d_ClassBook_fillPrices_34 (by decide) (fun b34 => ?_) (fun b34 => ?_)
      · have hm := b2in.mp b34
        refine V_aload_n d_ClassBook_fillPrices_47 rfl ?_
        refine V_getR d_ClassBook_fillPrices_48 f_ClassBook_34 rfl (by first | rfl | assumption) (by first | rfl | assumption) ?_
        refine V_iload_n d_ClassBook_fillPrices_51 rfl ?_
        refine V_iload_n d_ClassBook_fillPrices_52 rfl ?_
        refine V_if_eq (tgt := 68) d_ClassBook_fillPrices_53 (by decide) (fun b53 => ?_) (fun b53 => ?_)
        · have hcf := b2i.mp b53
          refine V_iconst (v := 0) d_ClassBook_fillPrices_68 (by decide) ?_
          refine V_iast d_ClassBook_fillPrices_69 (by first | rfl | assumption) (by first | assumption | exact vp_in_nI (by omega) (by omega)) ?_
          rw [nI_clamp (by omega), hup_hrow]
          refine next _ _ ?_
          unfold prI prN
          rw [if_pos hm, ← hc, hcf]
          rfl
        · have hcf := b2in.mp b53
          have hct := c_cutTowns (E := E) hlf ok (cs S)
          rw [← hSc] at hct
          refine V_aload_n d_ClassBook_fillPrices_56 rfl ?_
          refine V_getR d_ClassBook_fillPrices_57 f_ClassBook_23 rfl (by first | rfl | assumption) (by first | rfl | assumption) ?_
          refine V_iload d_ClassBook_fillPrices_60 rfl ?_
          refine V_callV1 d_ClassBook_fillPrices_62 k_ClassBook_149 rfl (hct) (by first | rfl | assumption) rfl rfl (by first | decide | omega) rfl (Nat.le_of_ble_eq_true rfl) ?_
          refine V_goto (tgt := 69) d_ClassBook_fillPrices_65 (by decide) ?_
          refine V_iast d_ClassBook_fillPrices_69 (by first | rfl | assumption) (by first | assumption | exact vp_in_nI (by omega) (by omega)) ?_
          rw [nI_clamp (by omega), hup_hrow]
          refine next _ _ ?_
          unfold prI prN
          rw [if_pos hm, ← hc, hcf]
          rfl
      · have hm := b2i.mp b34
        refine V_aload_n d_ClassBook_fillPrices_37 rfl ?_
        refine V_getR d_ClassBook_fillPrices_38 f_ClassBook_34 rfl (by first | rfl | assumption) (by first | rfl | assumption) ?_
        refine V_iload_n d_ClassBook_fillPrices_41 rfl ?_
        refine V_iconst (v := -1) d_ClassBook_fillPrices_42 (by decide) ?_
        refine V_iast d_ClassBook_fillPrices_43 (by first | rfl | assumption) (by first | assumption | exact vp_in_nI (by omega) (by omega)) ?_
        refine V_goto (tgt := 70) d_ClassBook_fillPrices_44 (by decide) ?_
        rw [nI_clamp (by omega), hup_hrow]
        exact next _ _ (prI_m1.mpr hm).symm
  have h0 := loop 0 (Nat.zero_le _) (h 23) none (fun x hx => absurd hx (Nat.not_lt_zero x))
  rw [hrow_self] at h0
  exact h0
theorem c_clearTold {E : Wd} {h : Hp} {D : LD} {w : LW} (hl : LandW h D) (h12 : dN D ≤ 12) (hbu : h 20 12 = nI (bdg D w)) : Cq E 0 m_ClassBook_clearTold [.ref 20] h (fun v h' => v = none ∧ ∃ f, h' = hrow h 24 f ∧ ∀ s, s < (bdg D w / 3 + 1) * 2 ^ dN D → jnr f s = 0) := by
  have hbl := bdg_le (w := w) h12
  have hp12 : 2 ^ dN D ≤ 2 ^ 12 := Nat.pow_le_pow_right (by omega) h12
  have hp12' : (2 : Nat) ^ 12 = 4096 := by decide
  have hmx : (bdg D w / 3 + 1) * 2 ^ dN D ≤ 2 * 4096 := Nat.mul_le_mul (by omega) (by omega)
  refine Cq_of2 ok_ClassBook_clearTold rfl (Nat.le_of_ble_eq_true rfl) (L := [some (.ref 20), none, none]) rfl ?_
  refine V_aload_n d_ClassBook_clearTold_0 rfl ?_
  refine V_getI d_ClassBook_clearTold_1 f_ClassBook_68 rfl (by first | rfl | assumption) (by first | rfl | assumption) ?_
  rw [hbu]
  refine V_iconst (v := 3) d_ClassBook_clearTold_4 (by decide) ?_
  refine V_idiv d_ClassBook_clearTold_5 (by decide) ?_
  refine V_iconst (v := 1) d_ClassBook_clearTold_6 (by decide) ?_
  refine V_iadd d_ClassBook_clearTold_7 ?_
  rw [show (3 : Int32) = nI 3 from rfl, pk_div (by omega) (by omega) (by omega), nI_1]
  refine V_aload_n d_ClassBook_clearTold_8 rfl ?_
  refine V_getR d_ClassBook_clearTold_9 f_ClassBook_11 rfl (by first | rfl | assumption) (by first | rfl | assumption) ?_
  refine V_getI d_ClassBook_clearTold_12 f_ClassBook_54 rfl (by first | rfl | assumption) (by first | rfl | assumption) ?_
  rw [hl.1]
  refine V_ishl d_ClassBook_clearTold_15 ?_
  refine V_istore_n d_ClassBook_clearTold_16 (by decide) ?_
  dsimp only [List.set]
  refine V_iconst (v := 0) d_ClassBook_clearTold_17 (by decide) ?_
  refine V_istore_n d_ClassBook_clearTold_18 (by decide) ?_
  dsimp only [List.set]
  rw [shl_pow (by omega) (by omega)]
  obtain ⟨N, hN⟩ : ∃ N, N = (bdg D w / 3 + 1) * 2 ^ dN D := ⟨_, rfl⟩
  rw [← hN] at hmx ⊢
  have loop : ∀ i, i ≤ N → ∀ f, (∀ s, s < i → jnr f s = 0) → V E 0 m_ClassBook_clearTold (fun v h' => v = none ∧ ∃ f, h' = hrow h 24 f ∧ ∀ s, s < N → jnr f s = 0) 19 [some (.ref 20), some (.int (nI N)), some (.int (nI i))] [] (hrow h 24 f) := by
    refine up_ind N ?_
    intro i hi ih f hf
    refine V_iload_n d_ClassBook_clearTold_19 rfl ?_
    refine V_iload_n d_ClassBook_clearTold_20 rfl ?_
    refine V_icmp_ge (tgt := 37) d_ClassBook_clearTold_21 (by decide) (fun b21 => ?_) (fun b21 => ?_)
    · have hii : i = N := ge_eq b21 rfl rfl (by omega) hi
      refine V_vret d_ClassBook_clearTold_37 rfl ?_
      exact ⟨rfl, f, rfl, fun s hs => hf s (by omega)⟩
    · have hi' := nge_lt b21 rfl rfl (by omega) hi
      have hin : vp_in (nI i) 8192 := vp_in_nI (by omega) (by omega)
      refine V_aload_n d_ClassBook_clearTold_24 rfl ?_
      refine V_getR d_ClassBook_clearTold_25 f_ClassBook_37 rfl (by first | rfl | assumption) (by first | rfl | assumption) ?_
      refine V_iload_n d_ClassBook_clearTold_28 rfl ?_
      refine V_lconst (v := 0) d_ClassBook_clearTold_29 (by decide) ?_
      refine V_last (n := 8192) d_ClassBook_clearTold_30 rfl (by first | assumption | exact vp_in_nI (by omega) (by omega)) ?_
      refine V_iincw (w := 1) d_ClassBook_clearTold_31 rfl (by decide) (by decide) ?_
      dsimp only [List.set]
      refine V_goto (tgt := 19) d_ClassBook_clearTold_34 (by decide) ?_
      rw [nI_clamp (by omega), hrow_twice, hrow_same, nI_1]
      refine ih hi' _ (fun s hs => ?_)
      rw [jnr_updJ]
      unfold vp_updL
      by_cases c : s = i
      · rw [if_pos c]
      · rw [if_neg c]; exact hf s (by omega)
  have h0 := loop 0 (Nat.zero_le _) (h 24) (fun s hs => absurd hs (Nat.not_lt_zero s))
  rw [hrow_self] at h0
  exact h0
/-- the book is ready -/
def bkR (h : Hp) (D : LD) (w : LW) : Prop := bkS h D (wfr true w) ∧ h 20 9 = 1 ∧ h 20 13 = nI (LC D w).length
theorem bkR.w {h : Hp} {D : LD} {w : LW} (h1 : bkR h D w) : BkW h D w := Or.inr ⟨h1.2.1, h1.1.2.2.2.2, h1.2.2⟩
def bFr (h h' : Hp) : Prop := ∀ q, q ≠ 20 → q ≠ 23 → q ≠ 24 → h' q = h q
theorem c_prepare {E : Wd} {h : Hp} {D : LD} {w : LW} (hl : LandW h D) (ok : okLD D) (hw : LawW h w) (okw : okLW w) (h1 : 1 ≤ dN D) (h12 : dN D ≤ 12) (hb : BkW h D w) : Cq E 22 m_ClassBook_prepare [.ref 20] h (fun v h' => v = none ∧ bFr h h' ∧ bkR h' D w) := by
  have hN := ok.1
  have hk1 := okw.1
  have hk6 := okw.2.1
  have hC := okw.2.2.2.1
  have okf := okw.fr true
  refine Cq_of2 ok_ClassBook_prepare rfl (Nat.le_of_ble_eq_true rfl) (L := [some (.ref 20), none]) rfl ?_
  rcases hb with hz | ⟨hf, hb1, hb2⟩
  · refine V_aload_n d_ClassBook_prepare_0 rfl ?_
    refine V_getI d_ClassBook_prepare_1 f_ClassBook_41 rfl (by first | rfl | assumption) (by first | rfl | assumption) ?_
    rw [hz]
    refine V_if_eq (tgt := 8) d_ClassBook_prepare_4 (by decide) (fun b4 => ?_) (fun b4 => ?_)
    · refine V_aload_n d_ClassBook_prepare_8 rfl ?_
      refine V_iconst (v := 1) d_ClassBook_prepare_9 (by decide) ?_
      refine V_put (ty := .boolean) d_ClassBook_prepare_10 f_ClassBook_41 rfl (by first | rfl | assumption) (by first | rfl | assumption) (by decide +kernel) (by first | rfl | assumption) (by first | rfl | assumption) ?_
      refine V_aload_n d_ClassBook_prepare_13 rfl ?_
      refine V_aload_n d_ClassBook_prepare_14 rfl ?_
      refine V_getR d_ClassBook_prepare_15 f_ClassBook_11 rfl (by first | rfl | assumption) (by first | rfl | assumption) ?_
      have hl1 : LandW (hup h 20 9 1) D := hl.of (fun q _ _ => hup_ne (by omega))
      refine V_callV1 d_ClassBook_prepare_18 k_ClassBook_45 rfl (c_everywhere hl1 ok) (by first | rfl | assumption) rfl rfl (by first | decide | omega) rfl (Nat.le_of_ble_eq_true rfl) ?_
      refine V_put (ty := .int) d_ClassBook_prepare_21 f_ClassBook_51 rfl (by first | rfl | assumption) (by first | rfl | assumption) (by decide +kernel) (by first | rfl | assumption) (by first | rfl | assumption) ?_
      refine V_aload_n d_ClassBook_prepare_24 rfl ?_
      refine V_bipush (v := 30) d_ClassBook_prepare_25 (by decide) ?_
      refine V_aload_n d_ClassBook_prepare_27 rfl ?_
      refine V_getR d_ClassBook_prepare_28 f_ClassBook_11 rfl (by first | rfl | assumption) (by first | rfl | assumption) ?_
      refine V_getI d_ClassBook_prepare_31 f_ClassBook_54 rfl (by first | rfl | assumption) (by first | rfl | assumption) ?_
      rw [hup_ne (by omega), hup_ne (by omega), hl.1, show (30 : Int32) = nI 30 from rfl]
      refine V_isub d_ClassBook_prepare_34 ?_
      refine V_put (ty := .int) d_ClassBook_prepare_35 f_ClassBook_57 rfl (by first | rfl | assumption) (by first | rfl | assumption) (by decide +kernel) (by first | rfl | assumption) (by first | rfl | assumption) ?_
      refine V_aload_n d_ClassBook_prepare_38 rfl ?_
      rw [pk_sub (by omega)]
      obtain ⟨H1, hH1⟩ : ∃ H1, H1 = hup (hup (hup h 20 9 1) 20 10 (cI (inN D))) 20 11 (nI (30 - dN D)) := ⟨_, rfl⟩
      rw [← hH1]
      have e1 : ∀ q, q ≠ 20 → H1 q = h q := fun q hq => by rw [hH1, hup_ne hq, hup_ne hq, hup_ne hq]
      have f9 : H1 20 9 = 1 := by rw [hH1]; simp [hup, upd]
      have f10 : H1 20 10 = cI (inN D) := by rw [hH1]; simp [hup, upd]
      have f11 : H1 20 11 = nI (30 - dN D) := by rw [hH1]; simp [hup, upd]
      clear hH1
      have hlA : LandW H1 D := hl.of (fun q _ _ => e1 q (by omega))
      have hcl := fa_cnt_le (sevB D) 10
      refine V_callV1 d_ClassBook_prepare_39 k_ClassBook_60 rfl (c_several hlA) (by first | rfl | assumption) rfl rfl (by first | decide | omega) rfl (Nat.le_of_ble_eq_true rfl) ?_
      refine V_aload_n d_ClassBook_prepare_42 rfl ?_
      refine V_getR d_ClassBook_prepare_43 f_ClassBook_15 rfl (by first | rfl | assumption) (by first | rfl | assumption) ?_
      refine V_getI d_ClassBook_prepare_46 f_ClassBook_63 rfl (by first | rfl | assumption) (by first | rfl | assumption) ?_
      rw [e1 11 (by omega), hw.2.2.1]
      have rest : ∀ c : Bool, c = bndB D w → V E 22 m_ClassBook_prepare (fun v h' => v = none ∧ bFr h h' ∧ bkR h' D w) 57 [some (.ref 20), none] [.int (if c then 1 else 0)] H1 := by
        intro c hc
        have rest2 : ∀ x, x = nI (bdg D w) → V E 22 m_ClassBook_prepare (fun v h' => v = none ∧ bFr h h' ∧ bkR h' D w) 74 [some (.ref 20), some (.int (if c then 1 else 0))] [.int x, .ref 20] H1 := by
          intro x hx
          refine V_put (ty := .int) d_ClassBook_prepare_74 f_ClassBook_68 rfl (by first | rfl | assumption) (by first | rfl | assumption) (by decide +kernel) (by first | rfl | assumption) (by first | rfl | assumption) ?_
          refine V_aload_n d_ClassBook_prepare_77 rfl ?_
          refine V_iload_n d_ClassBook_prepare_78 rfl ?_
          rw [hx]
          have e2 : ∀ q, q ≠ 20 → (hup H1 20 12 (nI (bdg D w))) q = h q := fun q hq => by rw [hup_ne hq, e1 q hq]
          have g9 : (hup H1 20 12 (nI (bdg D w))) 20 9 = 1 := by rw [hup_same, upd_n (by omega)]; exact f9
          have g10 : (hup H1 20 12 (nI (bdg D w))) 20 10 = cI (inN D) := by rw [hup_same, upd_n (by omega)]; exact f10
          have g11 : (hup H1 20 12 (nI (bdg D w))) 20 11 = nI (30 - dN D) := by rw [hup_same, upd_n (by omega)]; exact f11
          have g12 : (hup H1 20 12 (nI (bdg D w))) 20 12 = nI (bdg D w) := by rw [hup_same, upd_s]
          generalize hup H1 20 12 (nI (bdg D w)) = H2 at *
          refine V_callV d_ClassBook_prepare_79 k_ClassBook_71 rfl (c_fillPrices (hl.of (fun q _ _ => e2 q (by omega))) ok (hw.of (fun q _ _ => e2 q (by omega))) okw h12 g11 hc) (by first | rfl | assumption) rfl rfl (by first | decide | omega) rfl (Nat.le_of_ble_eq_true rfl) (fun v_ h_ q_ => ?_)
          obtain ⟨rfl, f, rfl, hpf⟩ := q_
          show V E _ m_ClassBook_prepare _ 82 _ [] _
          refine V_aload_n d_ClassBook_prepare_82 rfl ?_
          refine V_callV d_ClassBook_prepare_83 k_ClassBook_75 rfl (c_clearTold (w := w) (hl.of (fun q _ _ => by rw [hrow_ne (by omega)]; exact e2 q (by omega))) h12 (by rw [hrow_ne (by omega)]; exact g12)) (by first | rfl | assumption) rfl rfl (by first | decide | omega) rfl (Nat.le_of_ble_eq_true rfl) (fun v_ h_ q_ => ?_)
          obtain ⟨rfl, t, rfl, htl⟩ := q_
          have e3 : ∀ q, q ≠ 20 → q ≠ 23 → q ≠ 24 → (hrow (hrow H2 23 f) 24 t) q = h q := fun q c1 c2 c3 => by rw [hrow_ne c3, hrow_ne c2]; exact e2 q c1
          have e4 : (hrow (hrow H2 23 f) 24 t) 20 = H2 20 := by rw [hrow_ne (by omega), hrow_ne (by omega)]
          have hlw : (hrow (hrow H2 23 f) 24 t) 11 0 = nI (wK w) := by rw [e3 _ (by omega) (by omega) (by omega)]; exact hw.1
          have hS : bkS (hrow (hrow H2 23 f) 24 t) D (wfr true w) := by
            refine ⟨hl.of (fun q _ _ => e3 q (by omega) (by omega) (by omega)), ok, hlw, okf, ⟨h1, h12⟩, by rw [e4]; exact g10, by rw [e4]; exact g11, by rw [e4]; exact g12, fun x hx => ?_, fun l R b hT h2 hlk hR0 => Or.inl ?_⟩
            · rw [hrow_ne (by omega), hrow_same]; exact hpf x hx
            · have hts := tSl_lt h12 hT hR0 hlk
              have hbd := hT.2.2.2.2
              have hlt : tSl (dN D) (wK (wfr true w)) l R b < (bdg D w / 3 + 1) * 2 ^ dN D := by
                unfold tSl
                have h5 : b / 3 * 2 ^ dN D ≤ bdg D w / 3 * 2 ^ dN D := Nat.mul_le_mul_right _ (Nat.div_le_div_right hbd)
                rw [Nat.add_mul, Nat.one_mul]
                have := hts.2.1
                omega
              unfold ent
              rw [hrow_same, htl _ hlt]
              show (0 : Nat) / 2 ^ (21 * (b % 3)) % 2 ^ 21 = 0
              rw [Nat.zero_div]
          have g9' : (hrow (hrow H2 23 f) 24 t) 20 9 = 1 := by rw [e4]; exact g9
          have g10' : (hrow (hrow H2 23 f) 24 t) 20 10 = cI (inN D) := by rw [e4]; exact g10
          have g12' : (hrow (hrow H2 23 f) 24 t) 20 12 = nI (bdg D w) := by rw [e4]; exact g12
          have e5 : bFr h (hrow (hrow H2 23 f) 24 t) := fun q c1 c2 c3 => e3 q c1 c2 c3
          clear e3 e4 hpf htl
          generalize hrow (hrow H2 23 f) 24 t = H3 at *
          have hT0 : okT D (wfr true w) (wK w) (cI (inN D)) (bdg D w) := ⟨hk1, Nat.le_refl _, inN_S, fun p hp _ => absurd hp (by show ¬ p < wK w - wK w; omega), Nat.le_refl _⟩
          have hLC : (sq D (wfr true w) (wK w) (cI (inN D)) (bdg D w)).length = (LC D w).length := by
            rw [← LC_wf, LC_sq ok okf]
            rfl
          have last : ∀ (H : Hp), tF H3 H → bkS H D (wfr true w) → V E 22 m_ClassBook_prepare (fun v h' => v = none ∧ bFr h h' ∧ bkR h' D w) 140 [some (.ref 20), some (.int (if c then 1 else 0))] [.int (nI (LC D w).length), .ref 20] H := by
            intro H fr hbH
            refine V_put (ty := .int) d_ClassBook_prepare_140 f_ClassBook_89 rfl (by first | rfl | assumption) (by first | rfl | assumption) (by decide +kernel) (by first | rfl | assumption) (by first | rfl | assumption) ?_
            refine V_vret d_ClassBook_prepare_143 rfl ?_
            have hH : ∀ k, k ≠ 13 → hup H 20 13 (nI (LC D w).length) 20 k = H 20 k := fun k hk => by rw [hup_same, upd_n hk]
            have e6 : ∀ q, q ≠ 20 → hup H 20 13 (nI (LC D w).length) q = H q := fun q hq => hup_ne hq
            refine ⟨rfl, fun q c1 c2 c3 => by rw [e6 q c1, fr.ne c3]; exact e5 q c1 c2 c3, ?_, by rw [hH 9 (by omega), fr.ne (by omega)]; exact g9', by rw [hup_same, upd_s]⟩
            obtain ⟨r1, r2, r3, r4, r5, r6, r7, r8, r9, r10⟩ := hbH
            refine ⟨r1.of (fun q _ _ => e6 q (by omega)), r2, by rw [e6 _ (by omega)]; exact r3, r4, r5, by rw [hH 10 (by omega)]; exact r6, by rw [hH 11 (by omega)]; exact r7, by rw [hH 12 (by omega)]; exact r8, fun x hx => by rw [e6 _ (by omega)]; exact r9 x hx, fun l R b hT h2 hlk hR0 => ?_⟩
            have := r10 l R b hT h2 hlk hR0
            unfold ent at this ⊢
            rw [e6 _ (by omega)]
            exact this
          show V E _ m_ClassBook_prepare _ 86 _ [] _
          refine V_aload_n d_ClassBook_prepare_86 rfl ?_
          refine V_aload_n d_ClassBook_prepare_87 rfl ?_
          refine V_getR d_ClassBook_prepare_88 f_ClassBook_15 rfl (by first | rfl | assumption) (by first | rfl | assumption) ?_
          refine V_getI d_ClassBook_prepare_91 f_ClassBook_78 rfl (by first | rfl | assumption) (by first | rfl | assumption) ?_
          rw [hlw]
          refine V_iconst (v := 1) d_ClassBook_prepare_94 (by decide) ?_
          refine V_icmp_le (tgt := 121) d_ClassBook_prepare_95 (by decide) (fun b95 => ?_) (fun b95 => ?_)
          · have hk : wK w = 1 := by
              have := (le_nI (wK w) 1 rfl rfl (by omega) (by decide)).mp b95
              omega
            refine V_aload_n d_ClassBook_prepare_121 rfl ?_
            refine V_aload_n d_ClassBook_prepare_122 rfl ?_
            refine V_getR d_ClassBook_prepare_123 f_ClassBook_15 rfl (by first | rfl | assumption) (by first | rfl | assumption) ?_
            refine V_getI d_ClassBook_prepare_126 f_ClassBook_78 rfl (by first | rfl | assumption) (by first | rfl | assumption) ?_
            refine V_aload_n d_ClassBook_prepare_129 rfl ?_
            refine V_getI d_ClassBook_prepare_130 f_ClassBook_51 rfl (by first | rfl | assumption) (by first | rfl | assumption) ?_
            refine V_aload_n d_ClassBook_prepare_133 rfl ?_
            refine V_getI d_ClassBook_prepare_134 f_ClassBook_68 rfl (by first | rfl | assumption) (by first | rfl | assumption) ?_
            rw [hlw, g10', g12']
            have hc1 := c_ways1 (E := E) hS (R := cI (inN D)) (b := bdg D w) (by rw [hk] at hT0; exact hT0) (Or.inl rfl)
            rw [hk] at hLC ⊢
            refine V_callV d_ClassBook_prepare_137 k_ClassBook_85 rfl (hc1) (by first | rfl | assumption) rfl rfl (by first | decide | omega) rfl (Nat.le_of_ble_eq_true rfl) (fun v_ h_ q_ => ?_)
            obtain ⟨rfl, q1, q2⟩ := q_
            rw [hLC]
            exact last _ q1 q2
          · have hk : 2 ≤ wK w := by
              rcases Nat.lt_or_ge 1 (wK w) with z | z
              · exact z
              · exact absurd ((le_nI (wK w) 1 rfl rfl (by omega) (by decide)).mpr z) b95
            have hno : ∀ i, i < (subs (dN D) (cI (inN D))).length → (subs (dN D) (cI (inN D)))[i]? ≠ some 0 := by
              intro i hi z
              obtain ⟨T, a, hT1, -, -, -, -, hT0⟩ := subs_get (by omega) inN_S hi
              rw [hT1] at z
              exact hT0 (Option.some.inj z)
            have hc1 := c_ahead (E := E) (w := wfr true w) (l := wK w) hk1 hk6 hS hT0 (Nat.le_refl _) hno (fun z => absurd z (Nat.lt_irrefl _))
            have hal : ahN D (wfr true w) (wK w) (cI (inN D)) (bdg D w) (subs (dN D) (cI (inN D))).length = (LC D w).length := by
              obtain ⟨l, hl2⟩ : ∃ l, wK w = l + 2 := ⟨wK w - 2, by omega⟩
              rw [← hLC, hl2, ah_len]
            rw [hal] at hc1
            refine V_aload_n d_ClassBook_prepare_98 rfl ?_
            refine V_aload_n d_ClassBook_prepare_99 rfl ?_
            refine V_getR d_ClassBook_prepare_100 f_ClassBook_15 rfl (by first | rfl | assumption) (by first | rfl | assumption) ?_
            refine V_getI d_ClassBook_prepare_103 f_ClassBook_78 rfl (by first | rfl | assumption) (by first | rfl | assumption) ?_
            refine V_aload_n d_ClassBook_prepare_106 rfl ?_
            refine V_getI d_ClassBook_prepare_107 f_ClassBook_51 rfl (by first | rfl | assumption) (by first | rfl | assumption) ?_
            refine V_aload_n d_ClassBook_prepare_110 rfl ?_
            refine V_getI d_ClassBook_prepare_111 f_ClassBook_68 rfl (by first | rfl | assumption) (by first | rfl | assumption) ?_
            refine V_iconst (v := 0) d_ClassBook_prepare_114 (by decide) ?_
            rw [hlw, g10', g12']
            refine V_callV d_ClassBook_prepare_115 k_ClassBook_81 rfl (hc1) (by first | rfl | assumption) rfl rfl (by first | decide | omega) rfl (Nat.le_of_ble_eq_true rfl) (fun v_ h_ q_ => ?_)
            obtain ⟨rfl, q1, q2⟩ := q_
            show V E _ m_ClassBook_prepare _ 118 _ [.int (nI (LC D w).length), .ref 20] _
            refine V_goto (tgt := 140) d_ClassBook_prepare_118 (by decide) ?_
            exact last _ q1 q2
        refine V_istore_n d_ClassBook_prepare_57 (by decide) ?_
        dsimp only [List.set]
        refine V_aload_n d_ClassBook_prepare_58 rfl ?_
        refine V_iload_n d_ClassBook_prepare_59 rfl ?_
        refine V_if_eq (tgt := 73) d_ClassBook_prepare_60 (by decide) (fun b60 => ?_) (fun b60 => ?_)
        · have hcf := b2i.mp b60
          refine V_iconst (v := 0) d_ClassBook_prepare_73 (by decide) ?_
          refine rest2 _ ?_
          unfold bdg
          rw [← hc, hcf]
          rfl
        · have hct := b2in.mp b60
          refine V_aload_n d_ClassBook_prepare_63 rfl ?_
          refine V_getR d_ClassBook_prepare_64 f_ClassBook_15 rfl (by first | rfl | assumption) (by first | rfl | assumption) ?_
          refine V_getI d_ClassBook_prepare_67 f_ClassBook_63 rfl (by first | rfl | assumption) (by first | rfl | assumption) ?_
          refine V_goto (tgt := 74) d_ClassBook_prepare_70 (by decide) ?_
          refine rest2 _ ?_
          rw [e1 11 (by omega), hw.2.2.1]
          unfold bdg
          rw [← hc, hct]
          rfl
      refine V_icmp_le (tgt := 56) d_ClassBook_prepare_49 (by decide) (fun b49 => ?_) (fun b49 => ?_)
      · have hle := (nI_leI (by omega) (by omega)).mp b49
        refine V_iconst (v := 0) d_ClassBook_prepare_56 (by decide) ?_
        refine rest false ?_
        unfold bndB
        exact (decide_eq_false (by omega)).symm
      · have hgt : wC w < fa_cnt (sevB D) 10 := by
          rcases Nat.lt_or_ge (wC w) (fa_cnt (sevB D) 10) with z | z
          · exact z
          · exact absurd ((nI_leI (by omega) (by omega)).mpr z) b49
        refine V_iconst (v := 1) d_ClassBook_prepare_52 (by decide) ?_
        refine V_goto (tgt := 57) d_ClassBook_prepare_53 (by decide) ?_
        refine rest true ?_
        unfold bndB
        exact (decide_eq_true hgt).symm
    · exact absurd rfl b4
  · refine V_aload_n d_ClassBook_prepare_0 rfl ?_
    refine V_getI d_ClassBook_prepare_1 f_ClassBook_41 rfl (by first | rfl | assumption) (by first | rfl | assumption) ?_
    rw [hf]
    refine V_if_eq (tgt := 8) d_ClassBook_prepare_4 (by decide) (fun b4 => ?_) (fun b4 => ?_)
    · exact absurd b4 (by decide)
    · refine V_vret d_ClassBook_prepare_7 rfl ?_
      exact ⟨rfl, fun _ _ _ _ => rfl, ⟨hl, ok, hw.1, okf, hb1⟩, hf, hb2⟩
