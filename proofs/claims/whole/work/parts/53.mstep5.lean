/-- the border that a step draws -/
noncomputable def stB (D : LD) (ds : Nat → Nat) (s : Int32) : Nat := nthB (crs D ds) (dB D) (drN s % fa_cnt (crs D ds) (dB D))
/-- a step from ds with the seed s: whether it is another parting, the parting, the seed -/
noncomputable def stpS (D : LD) (w : LW) (ds : Nat → Nat) (s : Int32) : Bool × (Nat → Nat) × Int32 :=
  if fa_cnt (crs D ds) (dB D) = 0 then (false, ds, s) else
  stpT D w ds (mlt D ds (stB D ds s)) (xLo D ds (stB D ds s)) (xHi D ds (stB D ds s)) (nxS s) (itS (nxS s) (fa_cnt (isIn D (mlt D ds (stB D ds s))) (dB D)))
theorem mlt_fst {D : LD} (ok : okLD D) {ds : Nat → Nat} {b : Nat} (hb : b < dB D) : ∃ a, fstO (mlt D ds b) 30 = some a ∧ a < dN D := by
  have hN := ok.1
  have hbo := ok.2.2.2.1 b hb
  have h1 : mlt D ds b (dFr D b) = true := by
    unfold mlt dP xLo xHi inN
    by_cases c : ds (dFr D b) < ds (dTo D b)
    · simp [c, hbo.1]
    · simp [c, hbo.1]
  obtain ⟨a, ⟨ha1, ha2⟩, hmin⟩ := pk_least (fun a => a < 30 ∧ mlt D ds b a = true) ⟨_, by omega, h1⟩
  refine ⟨a, fstO_some ha1 ha2 (fun j hj => ?_), ?_⟩
  · cases hq : mlt D ds b j with
    | false => rfl
    | true => exact absurd ⟨by omega, hq⟩ (hmin j hj)
  · unfold mlt dP inN at ha2
    simp only [Bool.or_eq_true, Bool.and_eq_true, decide_eq_true_eq] at ha2
    rcases ha2 with z | z
    · exact z.1
    · exact z.1
theorem c_stepOn {E : Wd} {h : Hp} {D : LD} {w : LW} (hl : MoLand h D) (ok : okLD D) (hw : MoLaw h w) (okw : okLW w) {ds : Nat → Nat} (hd : MoDs h ds) : Cq E 5 m_Mo_stepOn [.ref 41] h (stQ h (stpS D w ds (h 41 19))) := by
  have hN := ok.1
  have hB := ok.2.1
  have hcl := fa_cnt_le (crs D ds) (dB D)
  obtain ⟨s, hs⟩ : ∃ s, s = h 41 19 := ⟨_, rfl⟩
  rw [← hs]
  refine Cq_of2 ok_Mo_stepOn rfl (Nat.le_of_ble_eq_true rfl) (L := [some (.ref 41), none, none, none, none, none, none, none, none, none, none, none, none]) rfl ?_
  refine V_aload_n d_Mo_stepOn_0 rfl ?_
  refine V_iconst (v := -1) d_Mo_stepOn_1 (by decide) ?_
  refine V_callV1 d_Mo_stepOn_2 k_Mo_199 rfl (c_between hl ok hd) (by first | rfl | assumption) rfl rfl (by first | decide | omega) rfl (Nat.le_of_ble_eq_true rfl) ?_
  have fr1 : wFr h (hup h 41 30 (nI (fa_cnt (crs D ds) (dB D)))) := wFr.fld (Or.inr rfl)
  have ef : (hup h 41 30 (nI (fa_cnt (crs D ds) (dB D)))) 41 30 = nI (fa_cnt (crs D ds) (dB D)) := by rw [hup_same, upd_s]
  have es1 : (hup h 41 30 (nI (fa_cnt (crs D ds) (dB D)))) 41 19 = s := by rw [hup_same, upd_n (by omega), hs]
  have ed1 : (hup h 41 30 (nI (fa_cnt (crs D ds) (dB D)))) 52 = h 52 := hup_ne (by omega)
  generalize hup h 41 30 (nI (fa_cnt (crs D ds) (dB D))) = H1 at *
  refine V_istore_n d_Mo_stepOn_5 (by decide) ?_
  dsimp only [List.set]
  refine V_aload_n d_Mo_stepOn_6 rfl ?_
  refine V_getI d_Mo_stepOn_7 f_Mo_164 rfl (by first | rfl | assumption) (by first | rfl | assumption) ?_
  rw [ef]
  refine V_if_ne (tgt := 15) d_Mo_stepOn_10 (by decide) (fun b10 => ?_) (fun b10 => ?_)
  · have hn0 : ¬ fa_cnt (crs D ds) (dB D) = 0 := fun z => b10 (by rw [z]; rfl)
    have hmod : drN s % fa_cnt (crs D ds) (dB D) < fa_cnt (crs D ds) (dB D) := Nat.mod_lt _ (by omega)
    have hdl := drN_lt s
    have hst : isNth (crs D ds) (dB D) (drN s % fa_cnt (crs D ds) (dB D)) (stB D ds s) := nthB_is hmod
    have eR : stpS D w ds s = stpT D w ds (mlt D ds (stB D ds s)) (xLo D ds (stB D ds s)) (xHi D ds (stB D ds s)) (nxS s) (itS (nxS s) (fa_cnt (isIn D (mlt D ds (stB D ds s))) (dB D))) := by
      unfold stpS
      rw [if_neg hn0]
    rw [eR]
    clear eR
    generalize stB D ds s = b at *
    refine V_aload_n d_Mo_stepOn_15 rfl ?_
    refine V_aload_n d_Mo_stepOn_16 rfl ?_
    refine V_callV1 d_Mo_stepOn_17 k_Mo_196 rfl (c_Mdraw _) (by first | rfl | assumption) rfl rfl (by first | decide | omega) rfl (Nat.le_of_ble_eq_true rfl) ?_
    rw [es1]
    have fr2 := fr1.tr (wFr.fld (h := H1) (k := 19) (x := nxS s) (Or.inl rfl))
    have ef2 : (hup H1 41 19 (nxS s)) 41 30 = nI (fa_cnt (crs D ds) (dB D)) := by rw [hup_same, upd_n (by omega), ef]
    have es2 : (hup H1 41 19 (nxS s)) 41 19 = nxS s := by rw [hup_same, upd_s]
    have ed2 : (hup H1 41 19 (nxS s)) 52 = h 52 := by rw [hup_ne (by omega)]; exact ed1
    generalize hup H1 41 19 (nxS s) = H2 at *
    have hl2 : MoLand H2 D := hl.of fr2.keep
    have hw2 : MoLaw H2 w := hw.of fr2.keep
    have hd2 : MoDs H2 ds := hd.of ed2
    refine V_aload_n d_Mo_stepOn_20 rfl ?_
    refine V_getI d_Mo_stepOn_21 f_Mo_164 rfl (by first | rfl | assumption) (by first | rfl | assumption) ?_
    rw [ef2]
    refine V_irem d_Mo_stepOn_24 (by assumption) ?_
    rw [pk_rem (by omega) (by omega) (by omega)]
    refine V_callV1 d_Mo_stepOn_25 k_Mo_199 rfl (c_betweenK hl2 ok hd2 hst) (by first | rfl | assumption) rfl rfl (by first | decide | omega) rfl (Nat.le_of_ble_eq_true rfl) ?_
    have hbB := hst.1
    have hbo := ok.2.2.2.1 b hbB
    have hbr := hl2.2.2.2.1 b hbB
    have df := hd2 (dFr D b) (by omega)
    have dt := hd2 (dTo D b) (by omega)
    have hin2 : vp_in (nI b) 100 := vp_in_nI (by omega) (by omega)
    obtain ⟨a, ha, haN⟩ := mlt_fst ok (ds := ds) hbB
    have hlo : xLo D ds b < 6 := by unfold xLo; split <;> omega
    have hhi : xHi D ds b < 6 := by unfold xHi; split <;> omega
    have hsum : nI (ds (dFr D b)) + nI (ds (dTo D b)) - nI (xLo D ds b) = nI (xHi D ds b) := by
      unfold xLo xHi
      by_cases c : ds (dFr D b) < ds (dTo D b)
      · rw [if_pos c, if_pos c, Int32.add_comm]; exact Int32.add_sub_cancel _ _
      · rw [if_neg c, if_neg c]; exact Int32.add_sub_cancel _ _
    -- from x on
    have rest : ∀ u1, V E 5 m_Mo_stepOn (stQ h (stpT D w ds (mlt D ds b) (xLo D ds b) (xHi D ds b) (nxS s) (itS (nxS s) (fa_cnt (isIn D (mlt D ds b)) (dB D))))) 79 [some (.ref 41), u1, some (.int (nI b)), none, none, none, none, none, none, none, none, none, none] [.int (nI (xLo D ds b))] H2 := by
      intro u1
      refine V_istore_n d_Mo_stepOn_79 (by decide) ?_
      dsimp only [List.set]
      refine V_aload_n d_Mo_stepOn_80 rfl ?_
      refine V_getR d_Mo_stepOn_81 f_Mo_51 rfl (by first | rfl | assumption) (by first | rfl | assumption) ?_
      refine V_aload_n d_Mo_stepOn_84 rfl ?_
      refine V_getR d_Mo_stepOn_85 f_Mo_22 rfl (by first | rfl | assumption) (by first | rfl | assumption) ?_
      refine V_iload_n d_Mo_stepOn_88 rfl ?_
      refine V_iald d_Mo_stepOn_89 (by first | rfl | assumption) (by first | assumption | exact vp_in_nI (by omega) (by omega)) ?_
      rw [nI_clamp (by omega), hbr.1]
      refine V_iald d_Mo_stepOn_90 (by first | rfl | assumption) (by first | assumption | exact vp_in_nI (by omega) (by omega)) ?_
      refine V_aload_n d_Mo_stepOn_91 rfl ?_
      refine V_getR d_Mo_stepOn_92 f_Mo_51 rfl (by first | rfl | assumption) (by first | rfl | assumption) ?_
      refine V_aload_n d_Mo_stepOn_95 rfl ?_
      refine V_getR d_Mo_stepOn_96 f_Mo_25 rfl (by first | rfl | assumption) (by first | rfl | assumption) ?_
      refine V_iload_n d_Mo_stepOn_99 rfl ?_
      refine V_iald d_Mo_stepOn_100 (by first | rfl | assumption) (by first | assumption | exact vp_in_nI (by omega) (by omega)) ?_
      rw [nI_clamp (by omega), hbr.2.1]
      refine V_iald d_Mo_stepOn_101 (by first | rfl | assumption) (by first | assumption | exact vp_in_nI (by omega) (by omega)) ?_
      rw [nI_clamp (by omega), nI_clamp (by omega), df.2, dt.2]
      refine V_iadd d_Mo_stepOn_102 ?_
      refine V_iload_n d_Mo_stepOn_103 rfl ?_
      refine V_isub d_Mo_stepOn_104 ?_
      rw [hsum]
      refine V_istore d_Mo_stepOn_105 (by decide) ?_
      dsimp only [List.set]
      refine V_aload_n d_Mo_stepOn_107 rfl ?_
      refine V_iload_n d_Mo_stepOn_108 rfl ?_
      refine V_callV1 d_Mo_stepOn_109 k_Mo_121 rfl (c_bitsOf hl2 ok hd2 (e := xLo D ds b) (by omega)) (by first | rfl | assumption) rfl rfl (by first | decide | omega) rfl (Nat.le_of_ble_eq_true rfl) ?_
      refine V_aload_n d_Mo_stepOn_112 rfl ?_
      refine V_iload d_Mo_stepOn_113 rfl ?_
      refine V_callV1 d_Mo_stepOn_115 k_Mo_121 rfl (c_bitsOf hl2 ok hd2 (e := xHi D ds b) (by omega)) (by first | rfl | assumption) rfl rfl (by first | decide | omega) rfl (Nat.le_of_ble_eq_true rfl) ?_
      refine V_ior d_Mo_stepOn_118 ?_
      rw [mI_or]
      refine V_istore d_Mo_stepOn_119 (by decide) ?_
      dsimp only [List.set]
      refine V_aload_n d_Mo_stepOn_121 rfl ?_
      refine V_iload d_Mo_stepOn_122 rfl ?_
      refine V_callV d_Mo_stepOn_124 k_Mo_202 rfl (c_plant hl2 ok (mlt D ds b)) (by first | rfl | assumption) rfl rfl (by first | decide | omega) rfl (Nat.le_of_ble_eq_true rfl) (fun v_ h_ q_ => ?_)
      obtain ⟨f, g, t, tr, m, rfl, rfl, hls, hm, ht⟩ := q_
      rw [es2] at hls ⊢
      refine V_istore d_Mo_stepOn_127 (by decide) ?_
      dsimp only [List.set]
      refine V_iload d_Mo_stepOn_129 rfl ?_
      refine V_callS1 d_Mo_stepOn_131 k_Mo_109 rfl (c_leastOf _ ha) rfl (by first | decide | omega) rfl (Nat.le_of_ble_eq_true rfl) ?_
      refine V_istore d_Mo_stepOn_134 (by decide) ?_
      dsimp only [List.set]
      have fr3 := wFr.hp H2 (itS (nxS s) (fa_cnt (isIn D (mlt D ds b)) (dB D))) f g t
      have h1 := so_seams (E := E) (u1 := u1) (u2 := some (.int (nI b))) (fr2.tr fr3) (hl2.of fr3.keep) ok (hw2.of fr3.keep) okw (hd2.of HP_ds) hlo hhi ha haN hm hls (fun i hi => by rw [HP_t]; exact ht i hi)
      rw [HP_s] at h1
      exact h1
    refine V_istore_n d_Mo_stepOn_28 (by decide) ?_
    dsimp only [List.set]
    refine V_aload_n d_Mo_stepOn_29 rfl ?_
    refine V_getR d_Mo_stepOn_30 f_Mo_51 rfl (by first | rfl | assumption) (by first | rfl | assumption) ?_
    refine V_aload_n d_Mo_stepOn_33 rfl ?_
    refine V_getR d_Mo_stepOn_34 f_Mo_22 rfl (by first | rfl | assumption) (by first | rfl | assumption) ?_
    refine V_iload_n d_Mo_stepOn_37 rfl ?_
    refine V_iald d_Mo_stepOn_38 (by first | rfl | assumption) (by first | assumption | exact vp_in_nI (by omega) (by omega)) ?_
    rw [nI_clamp (by omega), hbr.1]
    refine V_iald d_Mo_stepOn_39 (by first | rfl | assumption) (by first | assumption | exact vp_in_nI (by omega) (by omega)) ?_
    refine V_aload_n d_Mo_stepOn_40 rfl ?_
    refine V_getR d_Mo_stepOn_41 f_Mo_51 rfl (by first | rfl | assumption) (by first | rfl | assumption) ?_
    refine V_aload_n d_Mo_stepOn_44 rfl ?_
    refine V_getR d_Mo_stepOn_45 f_Mo_25 rfl (by first | rfl | assumption) (by first | rfl | assumption) ?_
    refine V_iload_n d_Mo_stepOn_48 rfl ?_
    refine V_iald d_Mo_stepOn_49 (by first | rfl | assumption) (by first | assumption | exact vp_in_nI (by omega) (by omega)) ?_
    rw [nI_clamp (by omega), hbr.2.1]
    refine V_iald d_Mo_stepOn_50 (by first | rfl | assumption) (by first | assumption | exact vp_in_nI (by omega) (by omega)) ?_
    rw [nI_clamp (by omega), nI_clamp (by omega), df.2, dt.2]
    refine V_icmp_ge (tgt := 68) d_Mo_stepOn_51 (by decide) (fun b51 => ?_) (fun b51 => ?_)
    · have hge := (nI_leI (by omega) (by omega)).mp b51
      refine V_aload_n d_Mo_stepOn_68 rfl ?_
      refine V_getR d_Mo_stepOn_69 f_Mo_51 rfl (by first | rfl | assumption) (by first | rfl | assumption) ?_
      refine V_aload_n d_Mo_stepOn_72 rfl ?_
      refine V_getR d_Mo_stepOn_73 f_Mo_25 rfl (by first | rfl | assumption) (by first | rfl | assumption) ?_
      refine V_iload_n d_Mo_stepOn_76 rfl ?_
      refine V_iald d_Mo_stepOn_77 (by first | rfl | assumption) (by first | assumption | exact vp_in_nI (by omega) (by omega)) ?_
      rw [nI_clamp (by omega), hbr.2.1]
      refine V_iald d_Mo_stepOn_78 (by first | rfl | assumption) (by first | assumption | exact vp_in_nI (by omega) (by omega)) ?_
      rw [nI_clamp (by omega), dt.2, show ds (dTo D b) = xLo D ds b from by unfold xLo; rw [if_neg (by omega)]]
      exact rest _
    · have hlt : ds (dFr D b) < ds (dTo D b) := by
        rcases Nat.lt_or_ge (ds (dFr D b)) (ds (dTo D b)) with c | c
        · exact c
        · exact absurd (nI_le c (by omega)) b51
      refine V_aload_n d_Mo_stepOn_54 rfl ?_
      refine V_getR d_Mo_stepOn_55 f_Mo_51 rfl (by first | rfl | assumption) (by first | rfl | assumption) ?_
      refine V_aload_n d_Mo_stepOn_58 rfl ?_
      refine V_getR d_Mo_stepOn_59 f_Mo_22 rfl (by first | rfl | assumption) (by first | rfl | assumption) ?_
      refine V_iload_n d_Mo_stepOn_62 rfl ?_
      refine V_iald d_Mo_stepOn_63 (by first | rfl | assumption) (by first | assumption | exact vp_in_nI (by omega) (by omega)) ?_
      rw [nI_clamp (by omega), hbr.1]
      refine V_iald d_Mo_stepOn_64 (by first | rfl | assumption) (by first | assumption | exact vp_in_nI (by omega) (by omega)) ?_
      refine V_goto (tgt := 79) d_Mo_stepOn_65 (by decide) ?_
      rw [nI_clamp (by omega), df.2, show ds (dFr D b) = xLo D ds b from by unfold xLo; rw [if_pos hlt]]
      exact rest _
  · have hn0 : fa_cnt (crs D ds) (dB D) = 0 := (eq_nI _ 0 rfl rfl (by omega) (by decide)).mp b10
    refine V_iconst (v := 0) d_Mo_stepOn_13 (by decide) ?_
    refine V_zret d_Mo_stepOn_14 rfl (by first | rfl | decide | assumption) ?_
    unfold stpS
    rw [if_pos hn0]
    exact ⟨rfl, hd.of ed1, es1, fr1⟩
