theorem c_plant {E : Wd} {h : Hp} {D : LD} (hl : MoLand h D) (ok : okLD D) (M : Nat → Bool) : Cq E 1 m_Mo_plant [.ref 41, .int (mI M)] h (plQ h D M (h 41 19)) := by
  have hB := ok.2.1
  have hN := ok.1
  obtain ⟨s, hs⟩ : ∃ s, s = h 41 19 := ⟨_, rfl⟩
  rw [← hs]
  refine Cq_of2 ok_Mo_plant rfl (Nat.le_of_ble_eq_true rfl) (L := [some (.ref 41), some (.int (mI M)), none, none, none, none, none, none]) rfl ?_
  refine V_iconst (v := 0) d_Mo_plant_0 (by decide) ?_
  refine V_istore_n d_Mo_plant_1 (by decide) ?_
  dsimp only [List.set]
  have ph2 : ∀ i, i ≤ dN D → ∀ f g u3 u4 u5 u6 u7, (∀ b, b < dB D → f b = if pnd D M (fun _ => false) b then nI (nmN D M s b) else -1) → (∀ p, p < i → g p = nI p) → V E 1 m_Mo_plant (plQ h D M s) 68 [some (.ref 41), some (.int (mI M)), some (.int (nI i)), u3, u4, u5, u6, u7] [] (HP h (itS s (fa_cnt (isIn D M) (dB D))) f g (h 54)) := by
    refine up_ind (dN D) ?_
    intro i hi ih f g u3 u4 u5 u6 u7 hf hg
    refine V_iload_n d_Mo_plant_68 rfl ?_
    refine V_aload_n d_Mo_plant_69 rfl ?_
    refine V_getI d_Mo_plant_70 f_Mo_91 rfl (by first | rfl | assumption) (by first | rfl | assumption) ?_
    rw [HP_f (by omega), hl.1]
    refine V_icmp_ge (tgt := 89) d_Mo_plant_73 (by decide) (fun b73 => ?_) (fun b73 => ?_)
    · obtain rfl := ge_eq b73 rfl rfl (by omega) hi
      refine V_iconst (v := 0) d_Mo_plant_89 (by decide) ?_
      refine V_istore_n d_Mo_plant_90 (by decide) ?_
      dsimp only [List.set]
      refine V_iconst (v := 1) d_Mo_plant_91 (by decide) ?_
      refine V_istore_n d_Mo_plant_92 (by decide) ?_
      dsimp only [List.set]
      exact pl_main hl ok (fa_cnt (pnd D M (fun _ => false)) (dB D) + 1) (fun _ => false) (fun p => p) (fun p => p) 0 f g _ _ _ _ _ (by omega) (Kr.start D M s _) hf hg (fun i hi => absurd hi (Nat.not_lt_zero i))
    · have hin' := nge_lt b73 rfl rfl (by omega) hi
      have hin : vp_in (nI i) 30 := vp_in_nI (by omega) (by omega)
      refine V_aload_n d_Mo_plant_76 rfl ?_
      refine V_getR d_Mo_plant_77 f_Mo_60 rfl (by first | rfl | assumption) (by first | rfl | assumption) ?_
      refine V_iload_n d_Mo_plant_80 rfl ?_
      refine V_iload_n d_Mo_plant_81 rfl ?_
      refine V_iast d_Mo_plant_82 (by first | rfl | assumption) (by first | assumption | exact vp_in_nI (by omega) (by omega)) ?_
      refine V_iincw (w := 1) d_Mo_plant_83 rfl (by decide) (by decide) ?_
      dsimp only [List.set]
      refine V_goto (tgt := 68) d_Mo_plant_86 (by decide) ?_
      rw [nI_clamp (by omega), HP_ur, nI_1]
      refine ih hin' _ _ _ _ _ _ _ hf (fun p hp => ?_)
      by_cases c : p = i
      · rw [c, upd_s]
      · rw [upd_n c]; exact hg p (by omega)
  have ph1 : ∀ i, i ≤ dB D → ∀ f u3, (∀ b, b < i → f b = if isIn D M b then nI (nmN D M s b) else -1) → V E 1 m_Mo_plant (plQ h D M s) 2 [some (.ref 41), some (.int (mI M)), some (.int (nI i)), u3, none, none, none, none] [] (HP h (itS s (fa_cnt (isIn D M) i)) f (h 55) (h 54)) := by
    refine up_ind (dB D) ?_
    intro i hi ih f u3 hf
    refine V_iload_n d_Mo_plant_2 rfl ?_
    refine V_aload_n d_Mo_plant_3 rfl ?_
    refine V_getI d_Mo_plant_4 f_Mo_102 rfl (by first | rfl | assumption) (by first | rfl | assumption) ?_
    rw [HP_f (by omega), hl.2.1]
    refine V_icmp_ge (tgt := 66) d_Mo_plant_7 (by decide) (fun b7 => ?_) (fun b7 => ?_)
    · obtain rfl := ge_eq b7 rfl rfl (by omega) hi
      refine V_iconst (v := 0) d_Mo_plant_66 (by decide) ?_
      refine V_istore_n d_Mo_plant_67 (by decide) ?_
      dsimp only [List.set]
      refine ph2 0 (Nat.zero_le _) f _ _ _ _ _ _ (fun b hb => ?_) (fun p hp => absurd hp (Nat.not_lt_zero p))
      rw [hf b hb, show pnd D M (fun _ => false) b = isIn D M b from by unfold pnd; simp]
    · have hin' := nge_lt b7 rfl rfl (by omega) hi
      have hin2 : vp_in (nI i) 100 := vp_in_nI (by omega) (by omega)
      have hbo := ok.2.2.2.1 i hin'
      have hbr := hl.2.2.2.1 i hin'
      have ih := ih hin'
      have next : ∀ x, (x = if isIn D M i then nI (nmN D M s i) else -1) → ∀ b, b < i + 1 → upd f i x b = if isIn D M b then nI (nmN D M s b) else -1 := by
        intro x e b hb
        by_cases c : b = i
        · rw [c, upd_s, e]
        · rw [upd_n c]; exact hf b (by omega)
      have out : isIn D M i = false → V E 1 m_Mo_plant (plQ h D M s) 40 [some (.ref 41), some (.int (mI M)), some (.int (nI i)), u3, none, none, none, none] [] (HP h (itS s (fa_cnt (isIn D M) i)) f (h 55) (h 54)) := by
        intro hno
        refine V_iconst (v := 0) d_Mo_plant_40 (by decide) ?_
        refine V_istore_n d_Mo_plant_41 (by decide) ?_
        dsimp only [List.set]
        refine V_aload_n d_Mo_plant_42 rfl ?_
        refine V_getR d_Mo_plant_43 f_Mo_54 rfl (by first | rfl | assumption) (by first | rfl | assumption) ?_
        refine V_iload_n d_Mo_plant_46 rfl ?_
        refine V_iload_n d_Mo_plant_47 rfl ?_
        refine V_if_eq (tgt := 58) d_Mo_plant_48 (by decide) (fun b48 => ?_) (fun b48 => ?_)
        · refine V_iconst (v := -1) d_Mo_plant_58 (by decide) ?_
          refine V_iast d_Mo_plant_59 (by first | rfl | assumption) (by first | assumption | exact vp_in_nI (by omega) (by omega)) ?_
          refine V_iincw (w := 1) d_Mo_plant_60 rfl (by decide) (by decide) ?_
          dsimp only [List.set]
          refine V_goto (tgt := 2) d_Mo_plant_63 (by decide) ?_
          rw [nI_clamp (by omega), HP_un, nI_1]
          have h1 := ih (upd f i (-1)) (some (.int 0)) (next _ (by rw [hno]; rfl))
          rw [fa_cnt_no hno] at h1
          exact h1
        · exact absurd rfl b48
      refine V_iload_n d_Mo_plant_10 rfl ?_
      refine V_aload_n d_Mo_plant_11 rfl ?_
      refine V_getR d_Mo_plant_12 f_Mo_22 rfl (by first | rfl | assumption) (by first | rfl | assumption) ?_
      refine V_iload_n d_Mo_plant_15 rfl ?_
      refine V_iald d_Mo_plant_16 (by first | rfl | assumption) (by first | assumption | exact vp_in_nI (by omega) (by omega)) ?_
      rw [nI_clamp (by omega), HP_ne (by omega) (by omega) (by omega) (by omega), hbr.1]
      refine V_callS1 d_Mo_plant_17 k_Mo_98 rfl (c_Mhas _ (mI M) (j := dFr D i) (by omega)) rfl (by first | decide | omega) rfl (Nat.le_of_ble_eq_true rfl) ?_
      rw [mI_b (by omega)]
      refine V_if_eq (tgt := 40) d_Mo_plant_20 (by decide) (fun b20 => ?_) (fun b20 => ?_)
      · exact out (by rw [isIn, b2i.mp b20]; rfl)
      · refine V_iload_n d_Mo_plant_23 rfl ?_
        refine V_aload_n d_Mo_plant_24 rfl ?_
        refine V_getR d_Mo_plant_25 f_Mo_25 rfl (by first | rfl | assumption) (by first | rfl | assumption) ?_
        refine V_iload_n d_Mo_plant_28 rfl ?_
        refine V_iald d_Mo_plant_29 (by first | rfl | assumption) (by first | assumption | exact vp_in_nI (by omega) (by omega)) ?_
        rw [nI_clamp (by omega), HP_ne (by omega) (by omega) (by omega) (by omega), hbr.2.1]
        refine V_callS1 d_Mo_plant_30 k_Mo_98 rfl (c_Mhas _ (mI M) (j := dTo D i) (by omega)) rfl (by first | decide | omega) rfl (Nat.le_of_ble_eq_true rfl) ?_
        rw [mI_b (by omega)]
        refine V_if_eq (tgt := 40) d_Mo_plant_33 (by decide) (fun b33 => ?_) (fun b33 => ?_)
        · exact out (by rw [isIn, b2i.mp b33]; simp)
        · have hyes : isIn D M i = true := by
            rw [isIn, b2in.mp b20, b2in.mp b33]
            rfl
          refine V_iconst (v := 1) d_Mo_plant_36 (by decide) ?_
          refine V_goto (tgt := 41) d_Mo_plant_37 (by decide) ?_
          refine V_istore_n d_Mo_plant_41 (by decide) ?_
          dsimp only [List.set]
          refine V_aload_n d_Mo_plant_42 rfl ?_
          refine V_getR d_Mo_plant_43 f_Mo_54 rfl (by first | rfl | assumption) (by first | rfl | assumption) ?_
          refine V_iload_n d_Mo_plant_46 rfl ?_
          refine V_iload_n d_Mo_plant_47 rfl ?_
          refine V_if_eq (tgt := 58) d_Mo_plant_48 (by decide) (fun b48 => ?_) (fun b48 => ?_)
          · exact absurd b48 (by decide)
          · refine V_aload_n d_Mo_plant_51 rfl ?_
            refine V_callV1 d_Mo_plant_52 k_Mo_196 rfl (c_Mdraw _) (by first | rfl | assumption) rfl rfl (by first | decide | omega) rfl (Nat.le_of_ble_eq_true rfl) ?_
            rw [HP_s, HP_us]
            refine V_goto (tgt := 59) d_Mo_plant_55 (by decide) ?_
            refine V_iast d_Mo_plant_59 (by first | rfl | assumption) (by first | assumption | exact vp_in_nI (by omega) (by omega)) ?_
            refine V_iincw (w := 1) d_Mo_plant_60 rfl (by decide) (by decide) ?_
            dsimp only [List.set]
            refine V_goto (tgt := 2) d_Mo_plant_63 (by decide) ?_
            rw [nI_clamp (by omega), HP_un, nI_1]
            have h1 := ih (upd f i (nI (nmN D M s i))) (some (.int 1)) (next _ (by rw [hyes]; rfl))
            rw [fa_cnt_yes hyes] at h1
            exact h1
  have h0 := ph1 0 (Nat.zero_le _) (h 53) none (fun b hb => absurd hb (Nat.not_lt_zero b))
  rw [show itS s (fa_cnt (isIn D M) 0) = h 41 19 from hs, HP_self] at h0
  exact h0
