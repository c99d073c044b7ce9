/-! the class's better() -/
theorem c_changeRefusal {E : Wd} {h : Hp} {S : ST} (hc : ClW h S) (ok : okST S) : Cd E 5 m_DC_changeRefusal [.ref 0] h (some (.int (if dN S.1 = 0 then -5 else if brk S.1 S.2.1 S.2.2.1 = 0 then 0 else -3))) h := by
  have hn := ok.1.1
  refine Cd_of ok_DC_changeRefusal rfl (Nat.le_of_ble_eq_true rfl) (L := [some (.ref 0)]) rfl ?_
  refine V_aload_n d_DC_changeRefusal_0 rfl ?_
  refine V_getR d_DC_changeRefusal_1 f_DC_23 rfl (by first | rfl | assumption) (by first | rfl | assumption) ?_
  refine V_getI d_DC_changeRefusal_4 f_DC_90 rfl (by first | rfl | assumption) (by first | rfl | assumption) ?_
  rw [hc.1.1]
  refine V_if_ne (tgt := 13) d_DC_changeRefusal_7 (by decide) (fun b7 => ?_) (fun b7 => ?_)
  · have h0 : ¬ dN S.1 = 0 := fun z => b7 (by rw [z]; rfl)
    refine V_aload_n d_DC_changeRefusal_13 rfl ?_
    refine V_getR d_DC_changeRefusal_14 f_DC_40 rfl (by first | rfl | assumption) (by first | rfl | assumption) ?_
    refine V_aload_n d_DC_changeRefusal_17 rfl ?_
    refine V_getR d_DC_changeRefusal_18 f_DC_36 rfl (by first | rfl | assumption) (by first | rfl | assumption) ?_
    refine V_callV1 d_DC_changeRefusal_21 k_DC_274 rfl (c_allows hc.1 ok.1 hc.2.1 ok.2.1 pt_14 hc.2.2.1 ok.2.2.1) (by first | rfl | assumption) rfl rfl (by first | decide | omega) rfl (Nat.le_of_ble_eq_true rfl) ?_
    refine V_if_eq (tgt := 31) d_DC_changeRefusal_24 (by decide) (fun b24 => ?_) (fun b24 => ?_)
    · refine V_bipush (v := -3) d_DC_changeRefusal_31 (by decide) ?_
      refine V_iret d_DC_changeRefusal_33 rfl ?_
      exact ⟨by rw [if_neg h0, if_neg (p2i.mp b24)], rfl⟩
    · refine V_iconst (v := 0) d_DC_changeRefusal_27 (by decide) ?_
      refine V_goto (tgt := 33) d_DC_changeRefusal_28 (by decide) ?_
      refine V_iret d_DC_changeRefusal_33 rfl ?_
      exact ⟨by rw [if_neg h0, if_pos (p2in.mp b24)], rfl⟩
  · have h0 : dN S.1 = 0 := (eq_nI _ 0 rfl rfl (by omega) (by decide)).mp b7
    refine V_bipush (v := -5) d_DC_changeRefusal_10 (by decide) ?_
    refine V_iret d_DC_changeRefusal_12 rfl ?_
    exact ⟨by rw [if_pos h0], rfl⟩
/-- what a move changes of the edge -/
theorem ed_mv {D : LD} (ok : okLD D) {ds : Nat → Nat} {p d : Nat} (hd : d ≠ ds p) : ∀ n, n ≤ dB D → smN (lnN D) (fun b => decide (setN ds p d (dFr D b) ≠ setN ds p d (dTo D b))) n + smN (lnN D) (touch D p (dP D ds d)) n = smN (lnN D) (fun b => decide (ds (dFr D b) ≠ ds (dTo D b))) n + smN (lnN D) (touch D p (dP D ds (ds p))) n
  | 0, _ => rfl
  | n + 1, hn => by
    have ih := ed_mv ok hd n (by omega)
    have hb := ok.2.2.2.1 n (by omega)
    have inn : ∀ q, q < dN D → ∀ e, dP D ds e q = decide (ds q = e) := fun q hq e => by
      unfold dP inN
      rw [decide_eq_true hq]
      rfl
    rw [smN, smN, smN, smN]
    have key : ∀ e, touch D p (dP D ds e) n = ((decide (dFr D n = p) && decide (ds (dTo D n) = e)) || (decide (dTo D n = p) && decide (ds (dFr D n) = e))) := fun e => by
      unfold touch
      rw [inn _ hb.1, inn _ hb.2.1]
    rw [key, key]
    generalize smN (lnN D) (fun b => decide (setN ds p d (dFr D b) ≠ setN ds p d (dTo D b))) n = A1 at ih ⊢
    generalize smN (lnN D) (touch D p (dP D ds d)) n = A2 at ih ⊢
    generalize smN (lnN D) (fun b => decide (ds (dFr D b) ≠ ds (dTo D b))) n = A3 at ih ⊢
    generalize smN (lnN D) (touch D p (dP D ds (ds p))) n = A4 at ih ⊢
    unfold setN
    by_cases h1 : dFr D n = p
    · have h2 : ¬ dTo D n = p := fun z => hb.2.2.1 (by rw [h1, z])
      rw [if_pos h1, if_neg h2, decide_eq_true h1, decide_eq_false h2]
      simp only [Bool.true_and, Bool.false_and, Bool.or_false, h1]
      by_cases c1 : ds (dTo D n) = d
      · have c2 : ¬ ds (dTo D n) = ds p := fun z => hd (by rw [← c1, z])
        simp [c1, hd, Ne.symm hd]
        omega
      · by_cases c2 : ds (dTo D n) = ds p
        · simp [c2, Ne.symm hd, hd]
          omega
        · simp [c1, c2, Ne.symm c1, Ne.symm c2, Ne.intro c1, Ne.intro c2]
          omega
    · by_cases h2 : dTo D n = p
      · rw [if_neg h1, if_pos h2, decide_eq_true h2, decide_eq_false h1]
        simp only [Bool.true_and, Bool.false_and, Bool.false_or, h2]
        by_cases c1 : ds (dFr D n) = d
        · have c2 : ¬ ds (dFr D n) = ds p := fun z => hd (by rw [← c1, z])
          simp [c1, hd, Ne.symm hd]
          omega
        · by_cases c2 : ds (dFr D n) = ds p
          · simp [c2, Ne.symm hd, hd]
            omega
          · simp [c1, c2]
            omega
      · rw [if_neg h1, if_neg h2, decide_eq_false h1, decide_eq_false h2]
        simp only [Bool.false_and, Bool.or_false]
        simp
        omega
theorem ln_nI {D : LD} (ok : okLD D) {b : Nat} (hb : b < dB D) : dLn D b = nI (lnN D b) ∧ lnN D b ≤ 100 := upTo_eq (ok.2.2.2.1 b hb).2.2.2 (by omega)
theorem con_nI {D : LD} (ok : okLD D) (P : Nat → Bool) : smP (dLn D) P (dB D) = nI (smN (lnN D) P (dB D)) ∧ smN (lnN D) P (dB D) ≤ 10000 := by
  refine ⟨smP_nI (fun b hb => (ln_nI ok hb).1), ?_⟩
  have h1 := smN_le (g := lnN D) (P := P) (c := 100) (n := dB D) (fun b hb => (ln_nI ok hb).2)
  have h2 := ok.2.1
  omega
theorem touch_cs {D : LD} (ok : okLD D) {p : Nat} (P : Nat → Bool) : smP (dLn D) (touch D p (cs (cI P))) (dB D) = smP (dLn D) (touch D p P) (dB D) := smP_cong (fun b hb => by
  have hbb := ok.2.2.2.1 b hb
  have hn := ok.1
  unfold touch
  rw [cI_cs _ (by omega), cI_cs _ (by omega)])
theorem c_isShorter {E : Wd} {h : Hp} {D : LD} {w : LW} (hl : LandW h D) (ok : okLD D) (okw : okLW w) {ds : Nat → Nat} (hp : PartW h 14 (inN D) ds) (okd : okDs D w ds) {p d : Nat} (hpn : p < dN D) (hd : d < wK w) : Cd E 2 m_Improver_isShorter [.ref 33, .ref 14, .int (nI p), .int (nI d)] h (some (.int (if d ≠ ds p ∧ val D w (setN ds p d) 0 < val D w ds 0 then 1 else 0))) h := by
  have hn := ok.1
  have hk6 := okw.2.1
  have hpk := okd p hpn
  have hin : vp_in (nI p) 30 := vp_in_nI (by omega) (by omega)
  have hin2 : vp_in (nI d) 6 := vp_in_nI (by omega) (by omega)
  have hin3 : vp_in (nI (ds p)) 6 := vp_in_nI (by omega) (by omega)
  refine Cd_of ok_Improver_isShorter rfl (Nat.le_of_ble_eq_true rfl) (L := [some (.ref 33), some (.ref 14), some (.int (nI p)), some (.int (nI d)), none]) rfl ?_
  refine V_aload_n d_Improver_isShorter_0 rfl ?_
  refine V_getR d_Improver_isShorter_1 f_Improver_33 rfl (by first | rfl | assumption) (by first | rfl | assumption) ?_
  refine V_iload_n d_Improver_isShorter_4 rfl ?_
  refine V_iald d_Improver_isShorter_5 (by first | rfl | assumption) (by first | assumption | exact vp_in_nI (by omega) (by omega)) ?_
  rw [nI_clamp (by omega), (hp.1 p (by omega)).2]
  refine V_istore d_Improver_isShorter_6 (by decide) ?_
  dsimp only [List.set]
  refine V_iload_n d_Improver_isShorter_8 rfl ?_
  refine V_iload d_Improver_isShorter_9 rfl ?_
  refine V_icmp_eq (tgt := 50) d_Improver_isShorter_11 (by decide) (fun b11 => ?_) (fun b11 => ?_)
  · have hq : d = ds p := (nI_eq (by omega) (by omega)).mp b11
    refine V_iconst (v := 0) d_Improver_isShorter_50 (by decide) ?_
    refine V_zret d_Improver_isShorter_51 rfl (by first | rfl | decide | assumption) ?_
    exact ⟨by rw [if_neg (fun z => z.1 hq)], rfl⟩
  · have hq : d ≠ ds p := fun z => b11 (by rw [z])
    have e1 := edN_val ok okd
    have e2 := edN_val ok (okd.set (p := p) hd)
    have e3 := ed_mv ok hq (dB D) (Nat.le_refl _)
    have c1 := con_nI ok (touch D p (dP D ds d))
    have c2 := con_nI ok (touch D p (dP D ds (ds p)))
    have hv : (val D w (setN ds p d) 0 < val D w ds 0) ↔ smN (lnN D) (touch D p (dP D ds (ds p))) (dB D) < smN (lnN D) (touch D p (dP D ds d)) (dB D) := by
      rw [e1.1, e2.1, nI_ltI (by omega) (by omega)]
      unfold edN
      omega
    refine V_aload_n d_Improver_isShorter_14 rfl ?_
    refine V_getR d_Improver_isShorter_15 f_Improver_9 rfl (by first | rfl | assumption) (by first | rfl | assumption) ?_
    refine V_iload_n d_Improver_isShorter_18 rfl ?_
    refine V_aload_n d_Improver_isShorter_19 rfl ?_
    refine V_getR d_Improver_isShorter_20 f_Improver_57 rfl (by first | rfl | assumption) (by first | rfl | assumption) ?_
    refine V_iload_n d_Improver_isShorter_23 rfl ?_
    refine V_iald d_Improver_isShorter_24 (by first | rfl | assumption) (by first | assumption | exact vp_in_nI (by omega) (by omega)) ?_
    rw [nI_clamp (by omega), hp.2 d (by omega)]
    refine V_callV1 d_Improver_isShorter_25 k_Improver_60 rfl (c_contact hl ok (show p < 30 by omega) _) (by first | rfl | assumption) rfl rfl (by first | decide | omega) rfl (Nat.le_of_ble_eq_true rfl) ?_
    refine V_aload_n d_Improver_isShorter_28 rfl ?_
    refine V_getR d_Improver_isShorter_29 f_Improver_9 rfl (by first | rfl | assumption) (by first | rfl | assumption) ?_
    refine V_iload_n d_Improver_isShorter_32 rfl ?_
    refine V_aload_n d_Improver_isShorter_33 rfl ?_
    refine V_getR d_Improver_isShorter_34 f_Improver_57 rfl (by first | rfl | assumption) (by first | rfl | assumption) ?_
    refine V_iload d_Improver_isShorter_37 rfl ?_
    refine V_iald d_Improver_isShorter_39 (by first | rfl | assumption) (by first | assumption | exact vp_in_nI (by omega) (by omega)) ?_
    rw [nI_clamp (by omega), hp.2 (ds p) (by omega)]
    refine V_callV1 d_Improver_isShorter_40 k_Improver_60 rfl (c_contact hl ok (show p < 30 by omega) _) (by first | rfl | assumption) rfl rfl (by first | decide | omega) rfl (Nat.le_of_ble_eq_true rfl) ?_
    rw [touch_cs ok, touch_cs ok]
    show V E _ m_Improver_isShorter _ 43 _ [.int (smP (dLn D) (touch D p (dP D ds (ds p))) (dB D)), .int (smP (dLn D) (touch D p (dP D ds d)) (dB D))] _
    rw [c1.1, c2.1]
    refine V_icmp_le (tgt := 50) d_Improver_isShorter_43 (by decide) (fun b43 => ?_) (fun b43 => ?_)
    · refine V_iconst (v := 0) d_Improver_isShorter_50 (by decide) ?_
      refine V_zret d_Improver_isShorter_51 rfl (by first | rfl | decide | assumption) ?_
      have := (nI_leI (by omega) (by omega)).mp b43
      exact ⟨by rw [if_neg (fun z => by have := hv.mp z.2; omega)], rfl⟩
    · refine V_iconst (v := 1) d_Improver_isShorter_46 (by decide) ?_
      refine V_goto (tgt := 51) d_Improver_isShorter_47 (by decide) ?_
      refine V_zret d_Improver_isShorter_51 rfl (by first | rfl | decide | assumption) ?_
      have : smN (lnN D) (touch D p (dP D ds (ds p))) (dB D) < smN (lnN D) (touch D p (dP D ds d)) (dB D) := by
        rcases Nat.lt_or_ge (smN (lnN D) (touch D p (dP D ds (ds p))) (dB D)) (smN (lnN D) (touch D p (dP D ds d)) (dB D)) with z | z
        · exact z
        · exact absurd ((nI_leI (by omega) (by omega)).mpr z) b43
      exact ⟨by rw [if_pos ⟨hq, hv.mpr this⟩], rfl⟩
/-- only a parting's rows are other ones -/
def pFr (o : Nat) (h h' : Hp) : Prop := ∀ q, q ≠ o + 1 → q ≠ o + 2 → h' q = h q
theorem pFr.tr {o : Nat} {h h' h2 : Hp} (a : pFr o h h') (b : pFr o h' h2) : pFr o h h2 := fun q h1 h2 => (b q h1 h2).trans (a q h1 h2)
theorem PartW.mv {h' : Hp} {o : Nat} {D : LD} {ds : Nat → Nat} {p d : Nat} (hp : p < dN D) (hw : PartW h' o (setA (inN D) p) (setN ds p d)) : PartW h' o (inN D) (setN ds p d) := hw.cong rfl rfl (fun i _ => setA_in hp i) (fun _ _ => rfl)
theorem c_moveOne {E : Wd} {h : Hp} {D : LD} {w : LW} (hl : LandW h D) (ok : okLD D) (hw : LawW h w) (okw : okLW w) {ds : Nat → Nat} (hp : PartW h 14 (inN D) ds) (okd : okDs D w ds) : Cq E 5 m_Improver_moveOne [.ref 33, .ref 14] h (fun v h' => pFr 14 h h' ∧ match bmv D w ds with
    | none => v = some (.int 0) ∧ PartW h' 14 (inN D) ds
    | some pd => v = some (.int 1) ∧ PartW h' 14 (inN D) (setN ds pd.1 pd.2)) := by
  have hn := ok.1
  have hk6 := okw.2.1
  obtain ⟨Q, hQ⟩ : ∃ Q : Option Value → Hp → Prop, Q = fun v h' => pFr 14 h h' ∧ match bmv D w ds with
    | none => v = some (.int 0) ∧ PartW h' 14 (inN D) ds
    | some pd => v = some (.int 1) ∧ PartW h' 14 (inN D) (setN ds pd.1 pd.2) := ⟨_, rfl⟩
  rw [← hQ]
  have q0 : bmv D w ds = none → ∀ H, pFr 14 h H → PartW H 14 (inN D) ds → Q (some (.int 0)) H := by
    intro hb H h1 h2
    rw [hQ]
    dsimp only
    rw [hb]
    exact ⟨h1, rfl, h2⟩
  have q1 : ∀ p d, bmv D w ds = some (p, d) → ∀ H, pFr 14 h H → PartW H 14 (inN D) (setN ds p d) → Q (some (.int 1)) H := by
    intro p d hb H h1 h2
    rw [hQ]
    dsimp only
    rw [hb]
    exact ⟨h1, rfl, h2⟩
  clear hQ
  refine Cq_of2 ok_Improver_moveOne rfl (Nat.le_of_ble_eq_true rfl) (L := [some (.ref 33), some (.ref 14), none, none, none]) rfl ?_
  refine V_iconst (v := 0) d_Improver_moveOne_0 (by decide) ?_
  refine V_istore_n d_Improver_moveOne_1 (by decide) ?_
  dsimp only [List.set]
  have outer : ∀ i, i ≤ dN D → ∀ (H : Hp) u3 u4, pFr 14 h H → PartW H 14 (inN D) ds → (∀ q, q < i → fstO (goodMv D w ds q) (wK w) = none) → V E 5 m_Improver_moveOne Q 2 [some (.ref 33), some (.ref 14), some (.int (nI i)), u3, u4] [] H := by
    refine up_ind (dN D) ?_
    intro i hi ih H u3 u4 fr hpH hno
    have hlH : LandW H D := hl.of (fun q c1 c2 => fr q (by omega) (by omega))
    have hwH : LawW H w := hw.of (fun q c1 c2 => fr q (by omega) (by omega))
    refine V_iload_n d_Improver_moveOne_2 rfl ?_
    refine V_aload_n d_Improver_moveOne_3 rfl ?_
    refine V_getR d_Improver_moveOne_4 f_Improver_9 rfl (by first | rfl | assumption) (by first | rfl | assumption) ?_
    refine V_getI d_Improver_moveOne_7 f_Improver_27 rfl (by first | rfl | assumption) (by first | rfl | assumption) ?_
    rw [hlH.1]
    refine V_icmp_ge (tgt := 84) d_Improver_moveOne_10 (by decide) (fun b10 => ?_) (fun b10 => ?_)
    · obtain rfl := ge_eq b10 rfl rfl (by omega) hi
      refine V_iconst (v := 0) d_Improver_moveOne_84 (by decide) ?_
      refine V_zret d_Improver_moveOne_85 rfl (by first | rfl | decide | assumption) ?_
      exact q0 (bmv_none hno) H fr hpH
    · have hin' := nge_lt b10 rfl rfl (by omega) hi
      have hin : vp_in (nI i) 30 := vp_in_nI (by omega) (by omega)
      have hpk := okd i hin'
      refine V_aload_n d_Improver_moveOne_13 rfl ?_
      refine V_getR d_Improver_moveOne_14 f_Improver_33 rfl (by first | rfl | assumption) (by first | rfl | assumption) ?_
      refine V_iload_n d_Improver_moveOne_17 rfl ?_
      refine V_iald d_Improver_moveOne_18 (by first | rfl | assumption) (by first | assumption | exact vp_in_nI (by omega) (by omega)) ?_
      refine V_istore_n d_Improver_moveOne_19 (by decide) ?_
      dsimp only [List.set]
      refine V_iconst (v := 0) d_Improver_moveOne_20 (by decide) ?_
      refine V_istore d_Improver_moveOne_21 (by decide) ?_
      dsimp only [List.set]
      rw [nI_clamp (by omega), (hpH.1 i (by omega)).2]
      have inner : ∀ e, e ≤ wK w → ∀ (H : Hp), pFr 14 h H → PartW H 14 (inN D) ds → (∀ d, d < e → goodMv D w ds i d = false) → V E 5 m_Improver_moveOne Q 23 [some (.ref 33), some (.ref 14), some (.int (nI i)), some (.int (nI (ds i))), some (.int (nI e))] [] H := by
        refine up_ind (wK w) ?_
        intro e he ihe H fr hpH hne
        have hlH : LandW H D := hl.of (fun q c1 c2 => fr q (by omega) (by omega))
        have hwH : LawW H w := hw.of (fun q c1 c2 => fr q (by omega) (by omega))
        refine V_iload d_Improver_moveOne_23 rfl ?_
        refine V_aload_n d_Improver_moveOne_25 rfl ?_
        refine V_getR d_Improver_moveOne_26 f_Improver_15 rfl (by first | rfl | assumption) (by first | rfl | assumption) ?_
        refine V_getI d_Improver_moveOne_29 f_Improver_39 rfl (by first | rfl | assumption) (by first | rfl | assumption) ?_
        rw [hwH.1]
        refine V_icmp_ge (tgt := 78) d_Improver_moveOne_32 (by decide) (fun b32 => ?_) (fun b32 => ?_)
        · obtain rfl := ge_eq b32 rfl rfl (by omega) he
          refine V_iincw (w := 1) d_Improver_moveOne_78 rfl (by decide) (by decide) ?_
          dsimp only [List.set]
          refine V_goto (tgt := 2) d_Improver_moveOne_81 (by decide) ?_
          rw [nI_1]
          refine ih hin' H _ _ fr hpH (fun q hq => ?_)
          rcases Nat.lt_or_ge q i with z | z
          · exact hno q z
          · rw [show q = i by omega]; exact fstO_none hne
        · have hek := nge_lt b32 rfl rfl (by omega) he
          have ihe := ihe hek
          have next : ∀ H, pFr 14 h H → PartW H 14 (inN D) ds → goodMv D w ds i e = false → V E 5 m_Improver_moveOne Q 72 [some (.ref 33), some (.ref 14), some (.int (nI i)), some (.int (nI (ds i))), some (.int (nI e))] [] H := by
            intro H fr hpH hg
            refine V_iincw (w := 1) d_Improver_moveOne_72 rfl (by decide) (by decide) ?_
            dsimp only [List.set]
            refine V_goto (tgt := 23) d_Improver_moveOne_75 (by decide) ?_
            rw [nI_1]
            refine ihe H fr hpH (fun d hd => ?_)
            rcases Nat.lt_or_ge d e with z | z
            · exact hne d z
            · rw [show d = e by omega]; exact hg
          refine V_aload_n d_Improver_moveOne_35 rfl ?_
          refine V_aload_n d_Improver_moveOne_36 rfl ?_
          refine V_iload_n d_Improver_moveOne_37 rfl ?_
          refine V_iload d_Improver_moveOne_38 rfl ?_
          refine V_callV1 d_Improver_moveOne_40 k_Improver_44 rfl (c_isShorter hlH ok okw hpH okd hin' hek) (by first | rfl | assumption) rfl rfl (by first | decide | omega) rfl (Nat.le_of_ble_eq_true rfl) ?_
          refine V_if_eq (tgt := 72) d_Improver_moveOne_43 (by decide) (fun b43 => ?_) (fun b43 => ?_)
          · refine next H fr hpH ?_
            unfold goodMv
            have := p2i.mp b43
            by_cases c1 : e ≠ ds i
            · rw [decide_eq_false (fun z => this ⟨c1, z⟩)]; simp
            · rw [decide_eq_false c1]; rfl
          · have hsh := p2in.mp b43
            refine V_aload_n d_Improver_moveOne_46 rfl ?_
            refine V_iload_n d_Improver_moveOne_47 rfl ?_
            refine V_iload d_Improver_moveOne_48 rfl ?_
            refine V_callV d_Improver_moveOne_50 k_Improver_48 rfl (c_move _ pt_14 hpH (show i < 30 by omega) (show e < 6 by omega)) (by first | rfl | assumption) rfl rfl (by first | decide | omega) rfl (Nat.le_of_ble_eq_true rfl) (fun v_ h_ q_ => ?_)
            obtain ⟨rfl, r1, r2⟩ := q_
            have fr2 : pFr 14 h h_ := pFr.tr fr r2
            have r1 := PartW.mv hin' r1
            show V E _ m_Improver_moveOne _ 53 _ [] _
            refine V_aload_n d_Improver_moveOne_53 rfl ?_
            refine V_getR d_Improver_moveOne_54 f_Improver_19 rfl (by first | rfl | assumption) (by first | rfl | assumption) ?_
            refine V_aload_n d_Improver_moveOne_57 rfl ?_
            refine V_callV1 d_Improver_moveOne_58 k_Improver_52 rfl (c_allows (hl.of (fun q c1 c2 => fr2 q (by omega) (by omega))) ok (hw.of (fun q c1 c2 => fr2 q (by omega) (by omega))) okw pt_14 r1 (okd.set hek)) (by first | rfl | assumption) rfl rfl (by first | decide | omega) rfl (Nat.le_of_ble_eq_true rfl) ?_
            refine V_if_eq (tgt := 66) d_Improver_moveOne_61 (by decide) (fun b61 => ?_) (fun b61 => ?_)
            · refine V_aload_n d_Improver_moveOne_66 rfl ?_
              refine V_iload_n d_Improver_moveOne_67 rfl ?_
              refine V_iload_n d_Improver_moveOne_68 rfl ?_
              refine V_callV d_Improver_moveOne_69 k_Improver_48 rfl (c_move _ pt_14 r1 (show i < 30 by omega) (show ds i < 6 by omega)) (by first | rfl | assumption) rfl rfl (by first | decide | omega) rfl (Nat.le_of_ble_eq_true rfl) (fun v_ h_ q_ => ?_)
              rename_i h3 _
              obtain ⟨rfl, r3, r4⟩ := q_
              have r3 := PartW.mv hin' r3
              rw [setN_twice, setN_self] at r3
              refine next _ (pFr.tr fr2 r4) r3 ?_
              unfold goodMv
              rw [decide_eq_false (p2i.mp b61), Bool.and_false, Bool.and_false]
            · refine V_iconst (v := 1) d_Improver_moveOne_64 (by decide) ?_
              refine V_zret d_Improver_moveOne_65 rfl (by first | rfl | decide | assumption) ?_
              refine q1 i e (bmv_some hin' hno (fstO_some hek ?_ hne)) _ fr2 r1
              unfold goodMv
              rw [decide_eq_true hsh.1, decide_eq_true hsh.2, decide_eq_true (p2in.mp b61)]
              rfl
      exact inner 0 (Nat.zero_le _) H fr hpH (fun d hd => absurd hd (Nat.not_lt_zero d))
  exact outer 0 (Nat.zero_le _) h none none (fun _ _ _ => rfl) hp (fun q hq => absurd hq (Nat.not_lt_zero q))
theorem c_improve {E : Wd} {h : Hp} {D : LD} {w : LW} (hl : LandW h D) (ok : okLD D) (hw : LawW h w) (okw : okLW w) {ds : Nat → Nat} (hp : PartW h 14 (inN D) ds) (okd : okDs D w ds) : Cq E 6 m_Improver_improve [.ref 33, .ref 14] h (fun v h' => v = some (.int (nI (btr D w 10001 ds).1)) ∧ PartW h' 14 (inN D) (btr D w 10001 ds).2 ∧ pFr 14 h h') := by
  refine Cq_of2 ok_Improver_improve rfl (Nat.le_of_ble_eq_true rfl) (L := [some (.ref 33), some (.ref 14), none]) rfl ?_
  refine V_iconst (v := 0) d_Improver_improve_0 (by decide) ?_
  refine V_istore_n d_Improver_improve_1 (by decide) ?_
  dsimp only [List.set]
  have loop : ∀ i, i ≤ 10000 → ∀ (H : Hp) (e : Nat → Nat), pFr 14 h H → PartW H 14 (inN D) e → okDs D w e → edN D e + i ≤ 10000 → (btr D w 10001 ds).1 = i + (btr D w (10001 - i) e).1 → (btr D w 10001 ds).2 = (btr D w (10001 - i) e).2 → V E 6 m_Improver_improve (fun v h' => v = some (.int (nI (btr D w 10001 ds).1)) ∧ PartW h' 14 (inN D) (btr D w 10001 ds).2 ∧ pFr 14 h h') 2 [some (.ref 33), some (.ref 14), some (.int (nI i))] [] H := by
    refine up_ind 10000 ?_
    intro i hi ih H e fr hpH oke hed h1 h2
    have hlH : LandW H D := hl.of (fun q c1 c2 => fr q (by omega) (by omega))
    have hwH : LawW H w := hw.of (fun q c1 c2 => fr q (by omega) (by omega))
    have fin : bmv D w e = none → ∀ H, pFr 14 h H → PartW H 14 (inN D) e → V E 6 m_Improver_improve (fun v h' => v = some (.int (nI (btr D w 10001 ds).1)) ∧ PartW h' 14 (inN D) (btr D w 10001 ds).2 ∧ pFr 14 h h') 23 [some (.ref 33), some (.ref 14), some (.int (nI i))] [] H := by
      intro hb H fr hpH
      rw [btr_none hb] at h1 h2
      refine V_iload_n d_Improver_improve_23 rfl ?_
      refine V_iret d_Improver_improve_24 rfl ?_
      rw [h1, h2]
      exact ⟨rfl, hpH, fr⟩
    refine V_iload_n d_Improver_improve_2 rfl ?_
    refine V_sipush (v := 10000) d_Improver_improve_3 (by decide) ?_
    refine V_icmp_ge (tgt := 23) d_Improver_improve_6 (by decide) (fun b6 => ?_) (fun b6 => ?_)
    · have hii : i = 10000 := ge_eq (N := 10000) b6 rfl rfl (by decide) hi
      refine fin ?_ H fr hpH
      cases hb : bmv D w e with
      | none => rfl
      | some pd =>
        have := (bmv_less ok oke hb).2.1
        omega
    · have hi' := nge_lt (N := 10000) b6 rfl rfl (by decide) hi
      refine V_aload_n d_Improver_improve_9 rfl ?_
      refine V_aload_n d_Improver_improve_10 rfl ?_
      refine V_callV d_Improver_improve_11 k_Improver_23 rfl (c_moveOne hlH ok hwH okw hpH oke) (by first | rfl | assumption) rfl rfl (by first | decide | omega) rfl (Nat.le_of_ble_eq_true rfl) (fun v_ h_ q_ => ?_)
      obtain ⟨q1, q2⟩ := q_
      cases hb : bmv D w e with
      | none =>
        rw [hb] at q2
        obtain ⟨rfl, q3⟩ := q2
        show V E _ m_Improver_improve _ 14 _ [.int 0] _
        refine V_if_eq (tgt := 23) d_Improver_improve_14 (by decide) (fun b14 => ?_) (fun b14 => ?_)
        · exact fin hb _ (pFr.tr fr q1) q3
        · exact absurd rfl b14
      | some pd =>
        rw [hb] at q2
        obtain ⟨rfl, q3⟩ := q2
        obtain ⟨l1, l2, l3⟩ := bmv_less ok oke hb
        have eb := btr_some hb (10001 - (i + 1))
        rw [show 10001 - (i + 1) + 1 = 10001 - i by omega] at eb
        show V E _ m_Improver_improve _ 14 _ [.int 1] _
        refine V_if_eq (tgt := 23) d_Improver_improve_14 (by decide) (fun b14 => ?_) (fun b14 => ?_)
        · exact absurd b14 (by decide)
        · refine V_iincw (w := 1) d_Improver_improve_17 rfl (by decide) (by decide) ?_
          dsimp only [List.set]
          refine V_goto (tgt := 2) d_Improver_improve_20 (by decide) ?_
          rw [nI_1]
          refine ih hi' _ (setN e pd.1 pd.2) (pFr.tr fr q1) q3 l1 (by omega) ?_ ?_
          · rw [h1, eb]; dsimp only; omega
          · rw [h2, eb]
  have e0 := (edN_val (w := w) ok okd).2
  exact loop 0 (by omega) h ds (fun _ _ _ => rfl) hp okd (by omega) (Nat.zero_add _).symm rfl
theorem c_Dbetter {E : Wd} {h : Hp} {S : ST} (hc : ClW h S) (ok : okST S) : CC E 7 m_DC_better [] h (opBetter S) := by
  refine Cq_of2 ok_DC_better rfl (Nat.le_of_ble_eq_true rfl) (L := [some (.ref 0), none]) rfl ?_
  refine V_aload_n d_DC_better_0 rfl ?_
  refine V_callV1 d_DC_better_1 k_DC_244 rfl (c_changeRefusal hc ok) (by first | rfl | assumption) rfl rfl (by first | decide | omega) rfl (Nat.le_of_ble_eq_true rfl) ?_
  by_cases h0 : dN S.1 = 0
  · have hop : opBetter S = (-5, S) := by unfold opBetter; rw [if_pos h0]
    rw [hop, if_pos h0]
    refine V_istore_n d_DC_better_4 (by decide) ?_
    dsimp only [List.set]
    refine V_iload_n d_DC_better_5 rfl ?_
    refine V_if_ge (tgt := 13) d_DC_better_6 (by decide) (fun b6 => ?_) (fun b6 => ?_)
    · exact absurd b6 (by decide)
    · refine V_iload_n d_DC_better_9 rfl ?_
      refine V_goto (tgt := 24) d_DC_better_10 (by decide) ?_
      refine V_iret d_DC_better_24 rfl ?_
      exact ⟨rfl, hc, fun _ _ => rfl⟩
  · by_cases hb : brk S.1 S.2.1 S.2.2.1 = 0
    · have hop : opBetter S = (nI (btr S.1 S.2.1 10001 S.2.2.1).1, (S.1, S.2.1, (btr S.1 S.2.1 10001 S.2.2.1).2, S.2.2.2)) := by unfold opBetter; rw [if_neg h0, if_pos hb]
      rw [hop, if_neg h0, if_pos hb]
      refine V_istore_n d_DC_better_4 (by decide) ?_
      dsimp only [List.set]
      refine V_iload_n d_DC_better_5 rfl ?_
      refine V_if_ge (tgt := 13) d_DC_better_6 (by decide) (fun b6 => ?_) (fun b6 => ?_)
      · refine V_aload_n d_DC_better_13 rfl ?_
        refine V_getR d_DC_better_14 f_DC_71 rfl (by first | rfl | assumption) (by first | rfl | assumption) ?_
        refine V_aload_n d_DC_better_17 rfl ?_
        refine V_getR d_DC_better_18 f_DC_36 rfl (by first | rfl | assumption) (by first | rfl | assumption) ?_
        refine V_callV d_DC_better_21 k_DC_265 rfl (c_improve hc.1 ok.1 hc.2.1 ok.2.1 hc.2.2.1 ok.2.2.1) (by first | rfl | assumption) rfl rfl (by first | decide | omega) rfl (Nat.le_of_ble_eq_true rfl) (fun v_ h_ q_ => ?_)
        obtain ⟨rfl, r1, r2⟩ := q_
        show V E _ m_DC_better _ 24 _ [.int (nI (btr S.1 S.2.1 10001 S.2.2.1).1)] _
        refine V_iret d_DC_better_24 rfl ?_
        exact ⟨rfl, ⟨hc.1.of (fun q c1 c2 => r2 q (by omega) (by omega)), hc.2.1.of (fun q c1 c2 => r2 q (by omega) (by omega)), r1, hc.2.2.2.1.of (r2 _ (by omega) (by omega)) (r2 _ (by omega) (by omega)), hc.2.2.2.2.of (fun q c1 c2 _ _ => r2 q (by omega) (by omega))⟩, fun q hq => r2 q (by omega) (by omega)⟩
      · exact absurd (by decide) b6
    · have hop : opBetter S = (-3, S) := by unfold opBetter; rw [if_neg h0, if_neg hb]
      rw [hop, if_neg h0, if_neg hb]
      refine V_istore_n d_DC_better_4 (by decide) ?_
      dsimp only [List.set]
      refine V_iload_n d_DC_better_5 rfl ?_
      refine V_if_ge (tgt := 13) d_DC_better_6 (by decide) (fun b6 => ?_) (fun b6 => ?_)
      · exact absurd b6 (by decide)
      · refine V_iload_n d_DC_better_9 rfl ?_
        refine V_goto (tgt := 24) d_DC_better_10 (by decide) ?_
        refine V_iret d_DC_better_24 rfl ?_
        exact ⟨rfl, hc, fun _ _ => rfl⟩
