/-! takeStep() -/
theorem deal_back {D : LD} {ds : Nat → Nat} {M P : Nat → Bool} {x y : Nat} (hM : ∀ j, M j = (dP D ds x j || dP D ds y j)) (hPM : ∀ j, P j = true → M j = true) : dealN D (dealN D ds M P x y) M (dP D ds x) x y = ds := by
  funext j
  unfold dealN
  by_cases hj : j < dN D
  · rw [if_pos hj, if_pos hj]
    have hx : dP D ds x j = decide (ds j = x) := by unfold dP inN; simp [hj]
    have hy : dP D ds y j = decide (ds j = y) := by unfold dP inN; simp [hj]
    have hMj := hM j
    rw [hx, hy] at hMj
    rw [hx]
    by_cases c1 : ds j = x
    · rw [decide_eq_true c1, if_pos rfl, c1]
    · rw [decide_eq_false c1] at hMj ⊢
      rw [Bool.false_or] at hMj
      by_cases c2 : ds j = y
      · rw [hMj, decide_eq_true c2]; simp [c2]
      · rw [decide_eq_false c2] at hMj
        have hPj : P j = false := by
          cases hh : P j with
          | false => rfl
          | true => rw [hPM j hh] at hMj; cases hMj
        rw [hMj, hPj]; simp
  · rw [if_neg hj, if_neg hj]
theorem deal_same {D : LD} {ds : Nat → Nat} {M P : Nat → Bool} {x y : Nat} (hM : ∀ j, M j = (dP D ds x j || dP D ds y j)) (hP : ∀ j, j < dN D → P j = dP D ds x j) : dealN D ds M P x y = ds := by
  funext j
  unfold dealN
  by_cases hj : j < dN D
  · rw [if_pos hj, hP j hj, hM j]
    have hx : dP D ds x j = decide (ds j = x) := by unfold dP inN; simp [hj]
    have hy : dP D ds y j = decide (ds j = y) := by unfold dP inN; simp [hj]
    rw [hx, hy]
    by_cases c1 : ds j = x
    · simp [c1]
    · by_cases c2 : ds j = y
      · have c3 : ¬ y = x := fun z => c1 (by rw [c2, z])
        simp [c2, c3]
      · simp [c1, c2]
  · rw [if_neg hj]
theorem deal_dP {D : LD} {ds : Nat → Nat} {M P : Nat → Bool} {x y : Nat} (hxy : x ≠ y) (hM : ∀ j, M j = (dP D ds x j || dP D ds y j)) (hPM : ∀ j, P j = true → M j = true) (j : Nat) : dP D (dealN D ds M P x y) x j = P j ∧ dP D (dealN D ds M P x y) y j = (M j && !P j) := by
  have hMn : M j = true → j < dN D := fun hj => by
    rw [hM, Bool.or_eq_true] at hj
    rcases hj with z | z <;> exact dP_sub z
  unfold dP inN dealN
  by_cases hj : j < dN D
  · have hMj := hM j
    have hx : dP D ds x j = decide (ds j = x) := by unfold dP inN; simp [hj]
    have hy : dP D ds y j = decide (ds j = y) := by unfold dP inN; simp [hj]
    rw [hx, hy] at hMj
    simp only [hj, decide_true, Bool.true_and, if_true]
    cases hPj : P j with
    | true => rw [hPM j hPj]; simp [hxy]
    | false =>
      cases hh : M j with
      | true => simp [Ne.symm hxy]
      | false =>
        rw [hh] at hMj
        have c1 : ¬ ds j = x := fun z => by rw [decide_eq_true z] at hMj; cases hMj
        have c2 : ¬ ds j = y := fun z => by rw [decide_eq_true z, Bool.or_true] at hMj; cases hMj
        simp [c1, c2]
  · have hMj : M j = false := by
      cases hh : M j with
      | false => rfl
      | true => exact absurd (hMn hh) hj
    have hPj : P j = false := by
      cases hh : P j with
      | false => rfl
      | true => rw [hPM j hh] at hMj; cases hMj
    rw [hMj, hPj]
    simp [hj]
/-- a step's cells: the parting's rows and the walker's -/
def sFr (o : Nat) (h h' : Hp) : Prop := (∀ q, q ≠ o + 1 → q ≠ o + 2 → q ≠ 25 → q ≠ 27 → q ≠ 28 → q ≠ 29 → h' q = h q) ∧ h' 25 1 = h 25 1
theorem sFr.tr {o : Nat} {h h' h2 : Hp} (a : sFr o h h') (b : sFr o h' h2) : sFr o h h2 := ⟨fun q h1 h3 h4 h5 h6 h7 => (b.1 q h1 h3 h4 h5 h6 h7).trans (a.1 q h1 h3 h4 h5 h6 h7), b.2.trans a.2⟩
theorem kFr.s {o : Nat} {h h' : Hp} (a : kFr h h') : sFr o h h' := ⟨fun q _ _ h1 h2 h3 h4 => a.1 q h1 h2 h3 h4, a.2⟩
def isW (o : Nat) : Prop := o = 14 ∨ o = 30
theorem isW.pt {o : Nat} (h : isW o) : isPt o := by
  rcases h with rfl | rfl
  · exact pt_14
  · exact pt_w
theorem sFr.land {o : Nat} (ho : isW o) {h h' : Hp} {D : LD} (a : sFr o h h') (hl : LandW h D) : LandW h' D := hl.of (fun q _ _ => a.1 q (by rcases ho with rfl | rfl <;> omega) (by rcases ho with rfl | rfl <;> omega) (by omega) (by omega) (by omega) (by omega))
theorem sFr.law {o : Nat} (ho : isW o) {h h' : Hp} {w : LW} (a : sFr o h h') (hl : LawW h w) : LawW h' w := hl.of (fun q _ _ => a.1 q (by rcases ho with rfl | rfl <;> omega) (by rcases ho with rfl | rfl <;> omega) (by omega) (by omega) (by omega) (by omega))
/-- two deals -/
theorem deals {h : Hp} {o : Nat} (ho : isW o) {D : LD} {ds : Nat → Nat} (hN : dN D ≤ 30) (hp : PartW h o (inN D) ds) {M P : Nat → Bool} {x y : Nat} (hx : x < 6) (hy : y < 6) (hxy : x ≠ y) (hM : ∀ j, M j = (dP D ds x j || dP D ds y j)) (hPM : ∀ j, P j = true → M j = true) {h1 h2 : Hp} (e1 : h1 = hrow (hup h (o + 2) x (cI P)) (o + 1) (fun j => if j < 30 ∧ cs (cI P) j = true then nI x else h (o + 1) j)) (e2 : h2 = hrow (hup h1 (o + 2) y (cI (fun j => M j && !P j))) (o + 1) (fun j => if j < 30 ∧ cs (cI (fun j => M j && !P j)) j = true then nI y else h1 (o + 1) j)) : PartW h2 o (inN D) (dealN D ds M P x y) ∧ sFr o h h2 := by
  refine ⟨PartW_deal hN hp hx hy hxy hM hPM ?_ ?_, ?_, ?_⟩
  · rw [e2, hrow_same, e1, hrow_same]
  · rw [e2, hrow_ne (by omega), hup_same, e1, hrow_ne (by omega), hup_same]
  · intro q c1 c2 _ _ _ _
    rw [e2, hrow_ne c1, hup_ne c2, e1, hrow_ne c1, hup_ne c2]
  · have : 25 ≠ o + 1 ∧ 25 ≠ o + 2 := by rcases ho with rfl | rfl <;> omega
    rw [e2, hrow_ne this.1, hup_ne this.2, e1, hrow_ne this.1, hup_ne this.2]
theorem min_nI {a b : Nat} (ha : a < 2 ^ 31) (hb : b < 2 ^ 31) : (if nI b < nI a then nI b else nI a) = nI (if a < b then a else b) := by
  by_cases c : b < a
  · rw [if_pos ((nI_ltI hb ha).mpr c), if_neg (by omega)]
  · rw [if_neg (fun z => c ((nI_ltI hb ha).mp z))]
    by_cases c2 : a < b
    · rw [if_pos c2]
    · rw [if_neg c2, show a = b by omega]
theorem max_nI {a b : Nat} (ha : a < 2 ^ 31) (hb : b < 2 ^ 31) : (if nI a < nI b then nI b else nI a) = nI (if a < b then b else a) := by
  by_cases c : a < b
  · rw [if_pos ((nI_ltI ha hb).mpr c), if_pos c]
  · rw [if_neg (fun z => c ((nI_ltI ha hb).mp z)), if_neg c]
theorem c_takeStep {E : Wd} {h : Hp} {D : LD} {w : LW} (hl : LandW h D) (ok : okLD D) (hw : LawW h w) (okw : okLW w) {o : Nat} (ho : isW o) {ds : Nat → Nat} (hp : PartW h o (inN D) ds) (okd : okDs D w ds) (hb0 : brk D w ds = 0) : Cq E 5 m_Walker_takeStep [.ref 25, .ref o] h (fun v h' => v = some (.int (if (stpS D w ds (h 25 0)).1 then 1 else 0)) ∧ PartW h' o (inN D) (stpS D w ds (h 25 0)).2.1 ∧ h' 25 0 = (stpS D w ds (h 25 0)).2.2 ∧ sFr o h h') := by
  have hN := ok.1
  have hB := ok.2.1
  have hk6 := okw.2.1
  obtain ⟨s, hs⟩ : ∃ s, s = h 25 0 := ⟨_, rfl⟩
  rw [← hs]
  have hpt := ho.pt
  obtain ⟨hpt0, hpt1, hpt2⟩ := id hpt
  have hor : o + 1 ≠ 29 := by rcases ho with rfl | rfl <;> omega
  have how : o + 1 ≠ 25 ∧ o + 2 ≠ 25 ∧ o + 2 ≠ 29 := by rcases ho with rfl | rfl <;> omega
  refine Cq_of2 ok_Walker_takeStep rfl (Nat.le_of_ble_eq_true rfl) (L := [some (.ref 25), some (.ref o), none, none, none, none, none, none, none, none]) rfl ?_
  refine V_aload_n d_Walker_takeStep_0 rfl ?_
  refine V_aload_n d_Walker_takeStep_1 rfl ?_
  refine V_callV d_Walker_takeStep_2 k_Walker_81 rfl (c_drawCrossing hl ok hpt hor hp) (by first | rfl | assumption) rfl rfl (by first | decide | omega) rfl (Nat.le_of_ble_eq_true rfl) (fun v_ h_ q_ => ?_)
  obtain ⟨f, q_⟩ := q_
  rw [← hs] at q_
  by_cases hn0 : fa_cnt (crs D ds) (dB D) = 0
  · rw [if_pos hn0] at q_
    obtain ⟨rfl, rfl⟩ := q_
    have hst : stpS D w ds s = (false, ds, s) := by unfold stpS; rw [if_pos hn0]
    rw [hst]
    show V E _ m_Walker_takeStep _ 5 _ [.int (-1)] _
    refine V_istore_n d_Walker_takeStep_5 (by decide) ?_
    dsimp only [List.set]
    refine V_iload_n d_Walker_takeStep_6 rfl ?_
    refine V_iconst (v := -1) d_Walker_takeStep_7 (by decide) ?_
    refine V_icmp_ne (tgt := 13) d_Walker_takeStep_8 (by decide) (fun b8 => ?_) (fun b8 => ?_)
    · exact absurd rfl b8
    · refine V_iconst (v := 0) d_Walker_takeStep_11 (by decide) ?_
      refine V_zret d_Walker_takeStep_12 rfl (by first | rfl | decide | assumption) ?_
      exact ⟨rfl, hp.at (hrow_ne hor) (hrow_ne how.2.2), by rw [hrow_ne (by omega)]; exact hs.symm, kFr.row.s⟩
  · rw [if_neg hn0] at q_
    obtain ⟨rfl, rfl⟩ := q_
    obtain ⟨b, hb⟩ : ∃ b, b = stB D ds s := ⟨_, rfl⟩
    have hnth : isNth (crs D ds) (dB D) (drN s % fa_cnt (crs D ds) (dB D)) b := by rw [hb]; exact nthB_is (Nat.mod_lt _ (by omega))
    have hst : stpS D w ds s = stpT D w ds (mlt D ds b) (xLo D ds b) (xHi D ds b) (nxS s) (itS (nxS s) (fa_cnt (isIn D (mlt D ds b)) (dB D))) := by unfold stpS; rw [if_neg hn0, hb]
    rw [hst, ← hb]
    clear hst hb
    generalize nxS s = s1
    obtain ⟨hbB, hcr, -⟩ := hnth
    have hcr : ds (dFr D b) ≠ ds (dTo D b) := by unfold crs at hcr; simpa using hcr
    have hbb := ok.2.2.2.1 b hbB
    obtain ⟨a, ha, haN⟩ := mlt_fst ok (ds := ds) hbB
    have hmc := melt_cn ok okd hb0 hbB
    have hxy : xLo D ds b ≠ xHi D ds b := by
      rcases xx_or (D := D) (ds := ds) b with ⟨e1, e2⟩ | ⟨e1, e2⟩ <;> rw [e1, e2]
      · exact hcr
      · exact Ne.symm hcr
    have hk : xLo D ds b < wK w ∧ xHi D ds b < wK w := by
      have h1 := okd _ hbb.1
      have h2 := okd _ hbb.2.1
      rcases xx_or (D := D) (ds := ds) b with ⟨e1, e2⟩ | ⟨e1, e2⟩ <;> rw [e1, e2] <;> exact ⟨by assumption, by assumption⟩
    obtain ⟨x, hx⟩ : ∃ x, x = xLo D ds b := ⟨_, rfl⟩
    obtain ⟨y, hy⟩ : ∃ y, y = xHi D ds b := ⟨_, rfl⟩
    obtain ⟨M, hMe⟩ : ∃ M, M = mlt D ds b := ⟨_, rfl⟩
    have hM : ∀ j, M j = (dP D ds x j || dP D ds y j) := fun j => by rw [hMe, hx, hy]; rfl
    have hMN : ∀ j, M j = true → j < dN D := fun j hj => by
      rw [hM, Bool.or_eq_true] at hj
      rcases hj with z | z <;> exact dP_sub z
    rw [← hx, ← hy] at hxy hk
    rw [← hMe] at ha hmc ⊢
    rw [← hx, ← hy]
    have haW : True ∧ fstO M 30 = some a := ⟨trivial, ha⟩
    clear ha hb0
    have fr1 : kFr h (hup (hrow h 29 f) 25 0 s1) := kFr.row.tr kFr.sd
    have hl1 := fr1.land hl
    have hw1 := fr1.law hw
    have es1 : (hup (hrow h 29 f) 25 0 s1) 25 0 = s1 := by rw [hup_same, upd_s]
    have hp1 : PartW (hup (hrow h 29 f) 25 0 s1) o (inN D) ds := hp.at (by rw [hup_ne how.1, hrow_ne hor]) (by rw [hup_ne how.2.1, hrow_ne how.2.2])
    generalize hup (hrow h 29 f) 25 0 s1 = H1 at *
    have hrw := hl1.2.2.2.2.1 b hbB
    have hf1 := hp1.1 (dFr D b) (by omega)
    have hf2 := hp1.1 (dTo D b) (by omega)
    have hin : vp_in (nI b) 100 := vp_in_nI (by omega) (by omega)
    have hin1 : vp_in (nI (dFr D b)) 30 := vp_in_nI (by omega) (by omega)
    have hin2 : vp_in (nI (dTo D b)) 30 := vp_in_nI (by omega) (by omega)
    have hin3 : vp_in (nI x) 6 := vp_in_nI (by omega) (by omega)
    have hin4 : vp_in (nI y) 6 := vp_in_nI (by omega) (by omega)
    obtain ⟨s2, hs2⟩ : ∃ s2, itS s1 (fa_cnt (isIn D M) (dB D)) = s2 := ⟨_, rfl⟩
    rw [hs2]
    show V E _ m_Walker_takeStep _ 5 _ [.int (nI b)] _
    refine V_istore_n d_Walker_takeStep_5 (by decide) ?_
    dsimp only [List.set]
    refine V_iload_n d_Walker_takeStep_6 rfl ?_
    refine V_iconst (v := -1) d_Walker_takeStep_7 (by decide) ?_
    refine V_icmp_ne (tgt := 13) d_Walker_takeStep_8 (by decide) (fun b8 => ?_) (fun b8 => ?_)
    · refine V_aload_n d_Walker_takeStep_13 rfl ?_
      refine V_getR d_Walker_takeStep_14 f_Walker_85 rfl (by first | rfl | assumption) (by first | rfl | assumption) ?_
      refine V_aload_n d_Walker_takeStep_17 rfl ?_
      refine V_getR d_Walker_takeStep_18 f_Walker_9 rfl (by first | rfl | assumption) (by first | rfl | assumption) ?_
      refine V_getR d_Walker_takeStep_21 f_Walker_88 rfl (by first | rfl | assumption) (by first | rfl | assumption) ?_
      refine V_iload_n d_Walker_takeStep_24 rfl ?_
      refine V_iald d_Walker_takeStep_25 (by first | rfl | assumption) (by first | assumption | exact vp_in_nI (by omega) (by omega)) ?_
      rw [nI_clamp (by omega), hrw.1]
      refine V_iald d_Walker_takeStep_26 (by first | rfl | assumption) (by first | assumption | exact vp_in_nI (by omega) (by omega)) ?_
      rw [nI_clamp (by omega), hf1.2]
      refine V_istore_n d_Walker_takeStep_27 (by decide) ?_
      dsimp only [List.set]
      refine V_aload_n d_Walker_takeStep_28 rfl ?_
      refine V_getR d_Walker_takeStep_29 f_Walker_85 rfl (by first | rfl | assumption) (by first | rfl | assumption) ?_
      refine V_aload_n d_Walker_takeStep_32 rfl ?_
      refine V_getR d_Walker_takeStep_33 f_Walker_9 rfl (by first | rfl | assumption) (by first | rfl | assumption) ?_
      refine V_getR d_Walker_takeStep_36 f_Walker_93 rfl (by first | rfl | assumption) (by first | rfl | assumption) ?_
      refine V_iload_n d_Walker_takeStep_39 rfl ?_
      refine V_iald d_Walker_takeStep_40 (by first | rfl | assumption) (by first | assumption | exact vp_in_nI (by omega) (by omega)) ?_
      rw [nI_clamp (by omega), hrw.2.1]
      refine V_iald d_Walker_takeStep_41 (by first | rfl | assumption) (by first | assumption | exact vp_in_nI (by omega) (by omega)) ?_
      rw [nI_clamp (by omega), hf2.2]
      refine V_istore d_Walker_takeStep_42 (by decide) ?_
      dsimp only [List.set]
      refine V_iload_n d_Walker_takeStep_44 rfl ?_
      refine V_iload d_Walker_takeStep_45 rfl ?_
      refine V_mmin d_Walker_takeStep_47 kM_Walker_69 rfl (by first | decide | omega) (Nat.le_of_ble_eq_true rfl) ?_
      rw [min_nI (by omega) (by omega), show (if ds (dFr D b) < ds (dTo D b) then ds (dFr D b) else ds (dTo D b)) = x from hx.symm]
      refine V_istore d_Walker_takeStep_50 (by decide) ?_
      dsimp only [List.set]
      refine V_iload_n d_Walker_takeStep_52 rfl ?_
      refine V_iload d_Walker_takeStep_53 rfl ?_
      refine V_mmax d_Walker_takeStep_55 kM_Walker_74 rfl (by first | decide | omega) (Nat.le_of_ble_eq_true rfl) ?_
      rw [max_nI (by omega) (by omega), show (if ds (dFr D b) < ds (dTo D b) then ds (dTo D b) else ds (dFr D b)) = y from hy.symm]
      refine V_istore d_Walker_takeStep_58 (by decide) ?_
      dsimp only [List.set]
      refine V_aload_n d_Walker_takeStep_60 rfl ?_
      refine V_getR d_Walker_takeStep_61 f_Walker_96 rfl (by first | rfl | assumption) (by first | rfl | assumption) ?_
      refine V_iload d_Walker_takeStep_64 rfl ?_
      refine V_iald d_Walker_takeStep_66 (by first | rfl | assumption) (by first | assumption | exact vp_in_nI (by omega) (by omega)) ?_
      rw [nI_clamp (by omega), hp1.2 x (by omega)]
      refine V_istore d_Walker_takeStep_67 (by decide) ?_
      dsimp only [List.set]
      refine V_iload d_Walker_takeStep_69 rfl ?_
      refine V_aload_n d_Walker_takeStep_71 rfl ?_
      refine V_getR d_Walker_takeStep_72 f_Walker_96 rfl (by first | rfl | assumption) (by first | rfl | assumption) ?_
      refine V_iload d_Walker_takeStep_75 rfl ?_
      refine V_iald d_Walker_takeStep_77 (by first | rfl | assumption) (by first | assumption | exact vp_in_nI (by omega) (by omega)) ?_
      rw [nI_clamp (by omega), hp1.2 y (by omega)]
      refine V_ior d_Walker_takeStep_78 ?_
      refine V_istore d_Walker_takeStep_79 (by decide) ?_
      dsimp only [List.set]
      refine V_aload_n d_Walker_takeStep_81 rfl ?_
      refine V_iload d_Walker_takeStep_82 rfl ?_
      rw [cI_or, show cI (fun j => (inN D j && decide (ds j = x)) || (inN D j && decide (ds j = y))) = cI M from cI_cong (fun j _ => (hM j).symm)]
      show V E 5 m_Walker_takeStep _ 84 [_, _, _, _, _, _, _, some (.int (cI (dP D ds x))), _, _] _ _
      refine V_callV d_Walker_takeStep_84 k_Walker_99 rfl (c_drawLeadingPart hl1 ok hw1 okw hMN haW.2 hmc es1 hs2) (by first | rfl | assumption) rfl rfl (by first | decide | omega) rfl (Nat.le_of_ble_eq_true rfl) (fun v_ h_ q_ => ?_)
      obtain ⟨fr2, q_⟩ := q_
      have fr2 := fr1.tr fr2
      have hp2 : PartW h_ o (inN D) ds := hp.at (by rcases ho with rfl | rfl <;> exact fr2.1 _ (by omega) (by omega) (by omega) (by omega)) (by rcases ho with rfl | rfl <;> exact fr2.1 _ (by omega) (by omega) (by omega) (by omega))
      by_cases hz : fa_cnt (smB D w M s1) (dB D) = 0
      · rw [if_pos hz] at q_
        obtain ⟨rfl, es2⟩ := q_
        have hst : stpT D w ds M x y s1 s2 = (false, ds, s2) := by unfold stpT; rw [if_pos hz]
        rw [hst]
        show V E _ m_Walker_takeStep _ 87 _ [.int 0] _
        refine V_istore d_Walker_takeStep_87 (by decide) ?_
        dsimp only [List.set]
        refine V_iload d_Walker_takeStep_89 rfl ?_
        refine V_if_eq (tgt := 101) d_Walker_takeStep_91 (by decide) (fun b91 => ?_) (fun b91 => ?_)
        · refine V_iconst (v := 0) d_Walker_takeStep_101 (by decide) ?_
          refine V_zret d_Walker_takeStep_102 rfl (by first | rfl | decide | assumption) ?_
          exact ⟨rfl, hp2, es2, fr2.s⟩
        · exact absurd rfl b91
      · rw [if_neg hz] at q_
        obtain ⟨rfl, es2⟩ := q_
        obtain ⟨P, hPe⟩ : ∃ P, P = ldB D w M s1 s2 := ⟨_, rfl⟩
        have hst : stpT D w ds M x y s1 s2 = if brk D w (dealN D ds M P x y) = 0 then (difN (dN D) (dealN D ds M P x y) ds, dealN D ds M P x y, nxS s2) else (false, ds, nxS s2) := by
          unfold stpT
          rw [if_neg hz, hPe]
          rfl
        rw [hst, ← hPe]
        have hPM : ∀ j, P j = true → M j = true := fun j hj => by
          rw [hPe] at hj
          exact sd_sub haW.2 hj
        have hPa : P a = true := by
          rw [hPe]
          unfold ldB sdB
          rw [haW.2]
          exact cnB_iff.mpr (Cn.rf _)
        clear hPe hst
        generalize nxS s2 = s3 at es2 ⊢
        show V E _ m_Walker_takeStep _ 87 _ [.int (cI P)] _
        refine V_istore d_Walker_takeStep_87 (by decide) ?_
        dsimp only [List.set]
        refine V_iload d_Walker_takeStep_89 rfl ?_
        refine V_if_eq (tgt := 101) d_Walker_takeStep_91 (by decide) (fun b91 => ?_) (fun b91 => ?_)
        · exact absurd b91 (cI_ne0.mpr ⟨a, (fstO_lt haW.2).1, hPa⟩)
        · refine V_iload d_Walker_takeStep_94 rfl ?_
          refine V_iload d_Walker_takeStep_96 rfl ?_
          refine V_icmp_ne (tgt := 103) d_Walker_takeStep_98 (by decide) (fun b98 => ?_) (fun b98 => ?_)
          · have hdif : difN (dN D) (dealN D ds M P x y) ds = true := by
              cases hd : difN (dN D) (dealN D ds M P x y) ds with
              | true => rfl
              | false =>
                exfalso
                apply b98
                refine cI_cong (fun j hj => ?_)
                have hd1 := deal_dP hxy hM hPM j
                rw [← hd1.1]
                unfold dP
                by_cases hjn : j < dN D
                · have : dealN D ds M P x y j = ds j := by
                    apply Classical.byContradiction
                    intro z
                    rw [difN_iff.mpr ⟨j, hjn, z⟩] at hd
                    cases hd
                  rw [this]
                · have : inN D j = false := by unfold inN; exact decide_eq_false hjn
                  rw [this]; rfl
            refine V_aload_n d_Walker_takeStep_103 rfl ?_
            refine V_iload d_Walker_takeStep_104 rfl ?_
            refine V_iload d_Walker_takeStep_106 rfl ?_
            refine V_callV0 d_Walker_takeStep_108 k_Walker_103 rfl (c_deal _ hpt (cI P) (show x < 6 by omega)) (by first | rfl | assumption) rfl rfl (by first | decide | omega) rfl (Nat.le_of_ble_eq_true rfl) ?_
            refine V_aload_n d_Walker_takeStep_111 rfl ?_
            refine V_iload d_Walker_takeStep_112 rfl ?_
            refine V_iload d_Walker_takeStep_114 rfl ?_
            refine V_iload d_Walker_takeStep_116 rfl ?_
            refine V_iconst (v := -1) d_Walker_takeStep_118 (by decide) ?_
            refine V_ixor d_Walker_takeStep_119 ?_
            refine V_iand d_Walker_takeStep_120 ?_
            rw [cI_dif]
            refine V_callV0 d_Walker_takeStep_121 k_Walker_103 rfl (c_deal _ hpt (cI (fun j => M j && !P j)) (show y < 6 by omega)) (by first | rfl | assumption) rfl rfl (by first | decide | omega) rfl (Nat.le_of_ble_eq_true rfl) ?_
            obtain ⟨d1, d2⟩ := deals ho hN hp2 (show x < 6 by omega) (show y < 6 by omega) hxy hM hPM rfl rfl
            have hdM : ∀ j, M j = (dP D (dealN D ds M P x y) x j || dP D (dealN D ds M P x y) y j) := fun j => by
              have := deal_dP hxy hM hPM j
              rw [this.1, this.2]
              cases hPj : P j with
              | true => rw [hPM j hPj]; rfl
              | false => cases M j <;> rfl
            have es3 : (hrow (hup (hrow (hup h_ (o + 2) x (cI P)) (o + 1) (fun j => if j < 30 ∧ cs (cI P) j = true then nI x else h_ (o + 1) j)) (o + 2) y (cI (fun j => M j && !P j))) (o + 1) (fun j => if j < 30 ∧ cs (cI (fun j => M j && !P j)) j = true then nI y else (hrow (hup h_ (o + 2) x (cI P)) (o + 1) (fun j => if j < 30 ∧ cs (cI P) j = true then nI x else h_ (o + 1) j)) (o + 1) j)) 25 0 = s3 := by
              rw [hrow_ne (Ne.symm how.1), hup_ne (Ne.symm how.2.1), hrow_ne (Ne.symm how.1), hup_ne (Ne.symm how.2.1)]
              exact es2
            have fr3 : sFr o h _ := sFr.tr fr2.s d2
            generalize hrow (hup (hrow (hup h_ (o + 2) x (cI P)) (o + 1) (fun j => if j < 30 ∧ cs (cI P) j = true then nI x else h_ (o + 1) j)) (o + 2) y (cI (fun j => M j && !P j))) (o + 1) (fun j => if j < 30 ∧ cs (cI (fun j => M j && !P j)) j = true then nI y else (hrow (hup h_ (o + 2) x (cI P)) (o + 1) (fun j => if j < 30 ∧ cs (cI P) j = true then nI x else h_ (o + 1) j)) (o + 1) j) = H3 at *
            refine V_aload_n d_Walker_takeStep_124 rfl ?_
            refine V_getR d_Walker_takeStep_125 f_Walker_15 rfl (by first | rfl | assumption) (by first | rfl | assumption) ?_
            refine V_aload_n d_Walker_takeStep_128 rfl ?_
            refine V_callV1 d_Walker_takeStep_129 k_Walker_107 rfl (c_allows (fr3.land ho hl) ok (fr3.law ho hw) okw hpt d1 (fun p hpp => dealN_lt hk.1 hk.2 (okd p hpp))) (by first | rfl | assumption) rfl rfl (by first | decide | omega) rfl (Nat.le_of_ble_eq_true rfl) ?_
            refine V_if_eq (tgt := 137) d_Walker_takeStep_132 (by decide) (fun b132 => ?_) (fun b132 => ?_)
            · have hnb := p2i.mp b132
              rw [if_neg hnb]
              refine V_aload_n d_Walker_takeStep_137 rfl ?_
              refine V_iload d_Walker_takeStep_138 rfl ?_
              refine V_iload d_Walker_takeStep_140 rfl ?_
              refine V_callV0 d_Walker_takeStep_142 k_Walker_103 rfl (c_deal _ hpt _ (show x < 6 by omega)) (by first | rfl | assumption) rfl rfl (by first | decide | omega) rfl (Nat.le_of_ble_eq_true rfl) ?_
              refine V_aload_n d_Walker_takeStep_145 rfl ?_
              refine V_iload d_Walker_takeStep_146 rfl ?_
              refine V_iload d_Walker_takeStep_148 rfl ?_
              refine V_iload d_Walker_takeStep_150 rfl ?_
              refine V_iconst (v := -1) d_Walker_takeStep_152 (by decide) ?_
              refine V_ixor d_Walker_takeStep_153 ?_
              refine V_iand d_Walker_takeStep_154 ?_
              rw [show cI M &&& (cI (dP D ds x) ^^^ -1) = cI (fun j => M j && !dP D ds x j) from cI_dif _ _]
              refine V_callV0 d_Walker_takeStep_155 k_Walker_103 rfl (c_deal _ hpt (cI (fun j => M j && !dP D ds x j)) (show y < 6 by omega)) (by first | rfl | assumption) rfl rfl (by first | decide | omega) rfl (Nat.le_of_ble_eq_true rfl) ?_
              refine V_iconst (v := 0) d_Walker_takeStep_158 (by decide) ?_
              refine V_zret d_Walker_takeStep_159 rfl (by first | rfl | decide | assumption) ?_
              obtain ⟨d3, d4⟩ := deals ho hN d1 (show x < 6 by omega) (show y < 6 by omega) hxy hdM (P := dP D ds x) (fun j hj => by rw [hM, hj]; rfl) rfl rfl
              rw [deal_back hM hPM] at d3
              refine ⟨rfl, d3, ?_, sFr.tr fr3 d4⟩
              rw [hrow_ne (Ne.symm how.1), hup_ne (Ne.symm how.2.1), hrow_ne (Ne.symm how.1), hup_ne (Ne.symm how.2.1)]
              exact es3
            · have hb := p2in.mp b132
              rw [if_pos hb, hdif]
              refine V_iconst (v := 1) d_Walker_takeStep_135 (by decide) ?_
              refine V_zret d_Walker_takeStep_136 rfl (by first | rfl | decide | assumption) ?_
              exact ⟨rfl, d1, es3, fr3⟩
          · refine V_iconst (v := 0) d_Walker_takeStep_101 (by decide) ?_
            refine V_zret d_Walker_takeStep_102 rfl (by first | rfl | decide | assumption) ?_
            have hsame : dealN D ds M P x y = ds := deal_same hM (fun j hj => cI_inj b98 (by omega))
            rw [hsame, difN_self]
            have e : (if brk D w ds = 0 then (false, ds, s3) else (false, ds, s3)) = (false, ds, s3) := by split <;> rfl
            rw [e]
            exact ⟨rfl, hp2, es2, fr2.s⟩
    · exact absurd b8 (by
        intro z
        have h1 : 0 ≤ (nI b : Int32) := nI_pos' (by omega)
        rw [z] at h1
        exact absurd h1 (by decide))
