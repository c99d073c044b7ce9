/-! the class's step -/
def kFr (h h' : Hp) : Prop := (∀ q, q ≠ 25 → q ≠ 27 → q ≠ 28 → q ≠ 29 → h' q = h q) ∧ h' 25 1 = h 25 1
theorem kFr.tr {h h' h2 : Hp} (a : kFr h h') (b : kFr h' h2) : kFr h h2 := ⟨fun q h1 h3 h4 h5 => (b.1 q h1 h3 h4 h5).trans (a.1 q h1 h3 h4 h5), b.2.trans a.2⟩
theorem kFr.row {h : Hp} {f : Nat → Int32} : kFr h (hrow h 29 f) := ⟨fun q _ _ _ h4 => hrow_ne h4, by rw [hrow_ne (by omega)]⟩
theorem kFr.sd {h : Hp} {x : Int32} : kFr h (hup h 25 0 x) := ⟨fun q h1 _ _ _ => hup_ne h1, by rw [hup_same, upd_n (by omega)]⟩
theorem kFr.land {h h' : Hp} {D : LD} (a : kFr h h') (hl : LandW h D) : LandW h' D := hl.of (fun q _ _ => a.1 q (by omega) (by omega) (by omega) (by omega))
theorem kFr.law {h h' : Hp} {w : LW} (a : kFr h h') (hl : LawW h w) : LawW h' w := hl.of (fun q _ _ => a.1 q (by omega) (by omega) (by omega) (by omega))
noncomputable def ldB (D : LD) (w : LW) (M : Nat → Bool) (s1 s2 : Int32) : Nat → Bool := sdB D M s1 (nthB (smB D w M s1) (dB D) (drN s2 % fa_cnt (smB D w M s1) (dB D)))
theorem c_drawLeadingPart {E : Wd} {h : Hp} {D : LD} {w : LW} (hl : LandW h D) (ok : okLD D) (hw : LawW h w) (okw : okLW w) {M : Nat → Bool} (hMN : ∀ j, M j = true → j < dN D) {a : Nat} (ha : fstO M 30 = some a) (hM : mCn D M) {s1 s2 : Int32} (hs1 : h 25 0 = s1) (hs2 : itS s1 (fa_cnt (isIn D M) (dB D)) = s2) : Cq E 4 m_Walker_drawLeadingPart [.ref 25, .int (cI M)] h (fun v h' => kFr h h' ∧ if fa_cnt (smB D w M s1) (dB D) = 0 then v = some (.int 0) ∧ h' 25 0 = s2 else v = some (.int (cI (ldB D w M s1 s2))) ∧ h' 25 0 = nxS s2) := by
  have hN := ok.1
  have hB := ok.2.1
  have hcl := fa_cnt_le (smB D w M s1) (dB D)
  have hdl := drN_lt s2
  obtain ⟨Q, hQ⟩ : ∃ Q : Option Value → Hp → Prop, Q = fun v h' => kFr h h' ∧ if fa_cnt (smB D w M s1) (dB D) = 0 then v = some (.int 0) ∧ h' 25 0 = s2 else v = some (.int (cI (ldB D w M s1 s2))) ∧ h' 25 0 = nxS s2 := ⟨_, rfl⟩
  rw [← hQ]
  refine Cq_of2 ok_Walker_drawLeadingPart rfl (Nat.le_of_ble_eq_true rfl) (L := [some (.ref 25), some (.int (cI M)), none, none, none]) rfl ?_
  refine V_aload_n d_Walker_drawLeadingPart_0 rfl ?_
  refine V_iload_n d_Walker_drawLeadingPart_1 rfl ?_
  refine V_callV d_Walker_drawLeadingPart_2 k_Walker_112 rfl (c_drawOrder hl ok M) (by first | rfl | assumption) rfl rfl (by first | decide | omega) rfl (Nat.le_of_ble_eq_true rfl) (fun v_ h_ q_ => ?_)
  obtain ⟨rfl, f, ks, rfl, hks, hf⟩ := q_
  rw [hs1] at hks
  rw [hs1, hs2]
  have fr1 : kFr h (hup (hrow h 29 f) 25 0 s2) := kFr.row.tr kFr.sd
  show V E _ m_Walker_drawLeadingPart _ 5 _ [.int (nI (fa_cnt (isIn D M) (dB D)))] _
  refine V_istore_n d_Walker_drawLeadingPart_5 (by decide) ?_
  dsimp only [List.set]
  refine V_aload_n d_Walker_drawLeadingPart_6 rfl ?_
  refine V_iload_n d_Walker_drawLeadingPart_7 rfl ?_
  refine V_callV d_Walker_drawLeadingPart_8 k_Walker_115 rfl (c_growTree (fr1.land hl) ok hks (fun i hi => by rw [hup_ne (by omega), hrow_same]; exact hf i hi)) (by first | rfl | assumption) rfl rfl (by first | decide | omega) rfl (Nat.le_of_ble_eq_true rfl) (fun v_ h_ q_ => ?_)
  obtain ⟨rfl, g1, g2⟩ := q_
  have es : h_ 25 0 = s2 := by rw [g1 _ (by omega) (by omega), hup_same, upd_s]
  have fr2 : kFr h h_ := fr1.tr ⟨fun q c1 c2 c3 c4 => g1 q c2 c3, by rw [g1 _ (by omega) (by omega)]⟩
  clear g1 fr1
  show V E _ m_Walker_drawLeadingPart _ 11 _ [] _
  refine V_aload_n d_Walker_drawLeadingPart_11 rfl ?_
  refine V_iload_n d_Walker_drawLeadingPart_12 rfl ?_
  refine V_callV d_Walker_drawLeadingPart_13 k_Walker_119 rfl (c_findSeams (fr2.land hl) ok (fr2.law hw) okw hMN g2 ha hM) (by first | rfl | assumption) rfl rfl (by first | decide | omega) rfl (Nat.le_of_ble_eq_true rfl) (fun v_ h_ q_ => ?_)
  obtain ⟨rfl, q, rfl, hq⟩ := q_
  have fr3 : kFr h (hrow h_ 29 q) := fr2.tr kFr.row
  have es3 : (hrow h_ 29 q) 25 0 = s2 := by rw [hrow_ne (by omega)]; exact es
  have g3 : gT (hrow h_ 29 q) D M s1 (insP D M) := g2.of (hrow_ne (by omega)) (hrow_ne (by omega))
  show V E _ m_Walker_drawLeadingPart _ 16 _ [.int (nI (fa_cnt (smB D w M s1) (dB D)))] _
  refine V_istore_n d_Walker_drawLeadingPart_16 (by decide) ?_
  dsimp only [List.set]
  refine V_iload_n d_Walker_drawLeadingPart_17 rfl ?_
  refine V_if_ne (tgt := 23) d_Walker_drawLeadingPart_18 (by decide) (fun b18 => ?_) (fun b18 => ?_)
  · have hn0 : ¬ fa_cnt (smB D w M s1) (dB D) = 0 := fun z => b18 (by rw [z]; rfl)
    have hmod : drN s2 % fa_cnt (smB D w M s1) (dB D) < fa_cnt (smB D w M s1) (dB D) := Nat.mod_lt _ (by omega)
    obtain ⟨t, hnt, et⟩ := hq _ hmod
    have htB := hnt.1
    have htr := (smB_iff.mp hnt.2.1).1
    have hin : vp_in (nI (drN s2 % fa_cnt (smB D w M s1) (dB D))) 100 := vp_in_nI (by omega) (by omega)
    refine V_aload_n d_Walker_drawLeadingPart_23 rfl ?_
    refine V_aload_n d_Walker_drawLeadingPart_24 rfl ?_
    refine V_getR d_Walker_drawLeadingPart_25 f_Walker_40 rfl (by first | rfl | assumption) (by first | rfl | assumption) ?_
    refine V_aload_n d_Walker_drawLeadingPart_28 rfl ?_
    refine V_callV1 d_Walker_drawLeadingPart_29 k_Walker_122 rfl (c_Wdraw _) (by first | rfl | assumption) rfl rfl (by first | decide | omega) rfl (Nat.le_of_ble_eq_true rfl) ?_
    rw [es3]
    have fr4 := fr3.tr (kFr.sd (h := hrow h_ 29 q) (x := nxS s2))
    have es4 : (hup (hrow h_ 29 q) 25 0 (nxS s2)) 25 0 = nxS s2 := by rw [hup_same, upd_s]
    have g4 : gT (hup (hrow h_ 29 q) 25 0 (nxS s2)) D M s1 (insP D M) := g3.of (hup_ne (by omega)) (hup_ne (by omega))
    refine V_iload_n d_Walker_drawLeadingPart_32 rfl ?_
    refine V_irem d_Walker_drawLeadingPart_33 (by assumption) ?_
    rw [pk_rem (by omega) (by omega) (by omega)]
    refine V_iald d_Walker_drawLeadingPart_34 (by first | rfl | assumption) (by first | assumption | exact vp_in_nI (by omega) (by omega)) ?_
    refine V_iload_n d_Walker_drawLeadingPart_35 rfl ?_
    rw [nI_clamp (by omega), hup_ne (by omega), hrow_same, et]
    refine V_callV1 d_Walker_drawLeadingPart_36 k_Walker_126 rfl (c_partBefore (fr4.land hl) ok g4 htB htr) (by first | rfl | assumption) rfl rfl (by first | decide | omega) rfl (Nat.le_of_ble_eq_true rfl) ?_
    refine V_istore d_Walker_drawLeadingPart_39 (by decide) ?_
    dsimp only [List.set]
    refine V_iload d_Walker_drawLeadingPart_41 rfl ?_
    refine V_iload_n d_Walker_drawLeadingPart_43 rfl ?_
    refine V_callS1 d_Walker_drawLeadingPart_44 k_Walker_129 rfl (c_first _ _) rfl (by first | decide | omega) rfl (Nat.le_of_ble_eq_true rfl) ?_
    rw [fsI_cI, ha]
    show V E _ m_Walker_drawLeadingPart _ 47 _ [.int (nI a), .int (cI (fsB D M s1 t))] _
    obtain ⟨a1, a2, a3⟩ := fstO_lt ha
    refine V_callS1 d_Walker_drawLeadingPart_47 k_Walker_134 rfl (c_has _ _ a1) rfl (by first | decide | omega) rfl (Nat.le_of_ble_eq_true rfl) ?_
    have eh : bt (cI (fsB D M s1 t)) (29 - a) = fsB D M s1 t a := cI_cs _ a1
    rw [eh]
    have hld : ldB D w M s1 s2 = sdB D M s1 t := by
      unfold ldB
      rw [nthB_eq hnt]
    have saa : sdB D M s1 t a = true := by
      unfold sdB
      rw [ha]
      exact cnB_iff.mpr (Cn.rf _)
    have fin : ∀ x, x = cI (sdB D M s1 t) → Q (some (.int x)) (hup (hrow h_ 29 q) 25 0 (nxS s2)) := by
      intro x hx
      rw [hQ]
      refine ⟨fr4, ?_⟩
      rw [if_neg hn0, hld, hx]
      exact ⟨rfl, es4⟩
    refine V_if_eq (tgt := 58) d_Walker_drawLeadingPart_50 (by decide) (fun b50 => ?_) (fun b50 => ?_)
    · have hb := b2i.mp b50
      refine V_iload_n d_Walker_drawLeadingPart_58 rfl ?_
      refine V_iload d_Walker_drawLeadingPart_59 rfl ?_
      refine V_iconst (v := -1) d_Walker_drawLeadingPart_61 (by decide) ?_
      refine V_ixor d_Walker_drawLeadingPart_62 ?_
      refine V_iand d_Walker_drawLeadingPart_63 ?_
      refine V_iret d_Walker_drawLeadingPart_64 rfl ?_
      refine fin _ ?_
      rw [cI_dif]
      refine cI_cong (fun j _ => ?_)
      rcases sides ok ha hM htB htr with z | z
      · rw [z a, hb] at saa; cases saa
      · exact (z j).symm
    · have hb := b2in.mp b50
      refine V_iload d_Walker_drawLeadingPart_53 rfl ?_
      refine V_goto (tgt := 64) d_Walker_drawLeadingPart_55 (by decide) ?_
      refine V_iret d_Walker_drawLeadingPart_64 rfl ?_
      refine fin _ (cI_cong (fun j _ => ?_))
      rcases sides ok ha hM htB htr with z | z
      · exact (z j).symm
      · rw [z a, hb] at saa
        simp at saa
  · have hn0 : fa_cnt (smB D w M s1) (dB D) = 0 := (eq_nI _ 0 rfl rfl (by omega) (by decide)).mp b18
    refine V_iconst (v := 0) d_Walker_drawLeadingPart_21 (by decide) ?_
    refine V_iret d_Walker_drawLeadingPart_22 rfl ?_
    rw [hQ]
    refine ⟨fr3, ?_⟩
    rw [if_pos hn0]
    exact ⟨rfl, es3⟩
/-- districts that hang together, joined by a border, hang together -/
theorem hang_cn {D : LD} (ok : okLD D) {M P : Nat → Bool} (hP : ∀ j, P j = true → j < dN D) (hPM : ∀ j, P j = true → M j = true) (hh : hang D P = true) {p q : Nat} (hp : P p = true) (hq : P q = true) : Cn D (insP D M) p q := by
  have hN := ok.1
  have hr := hang_iff.mp hh p q (by have := hP p hp; omega) (by have := hP q hq; omega) hp hq
  have := cloB_iff.mp hr (cnB D (insP D M) p) ⟨fun j _ h1 _ => ?_, fun i j hi hj h1 h2 h3 => ?_⟩
  · exact cnB_iff.mp this
  · rw [show j = p by simpa using h1]; exact cnB_iff.mpr (Cn.rf _)
  · obtain ⟨b, hb, hj2⟩ := nbB_ex h3
    have h1 := cnB_iff.mp h1
    refine cnB_iff.mpr (h1.tr ?_)
    have hiM : M i = true := by
      exact Cn_in (fun _ _ z => z) h1 (hPM p hp)
    have hjM := hPM j h2
    have hin : insP D M b := by
      unfold insP isIn
      rcases hj2 with ⟨z1, z2⟩ | ⟨z1, z2⟩
      · rw [z1, z2, hiM, hjM]; rfl
      · rw [z1, z2, hiM, hjM]; rfl
    rcases hj2 with ⟨z1, z2⟩ | ⟨z1, z2⟩
    · rw [← z1, ← z2]; exact Cn.ed hb hin
    · rw [← z1, ← z2]; exact (Cn.ed hb hin).sy
theorem xx_or {D : LD} {ds : Nat → Nat} (b : Nat) : (xLo D ds b = ds (dFr D b) ∧ xHi D ds b = ds (dTo D b)) ∨ (xLo D ds b = ds (dTo D b) ∧ xHi D ds b = ds (dFr D b)) := by
  unfold xLo xHi
  split
  · exact Or.inl ⟨rfl, rfl⟩
  · exact Or.inr ⟨rfl, rfl⟩
theorem melt_cn {D : LD} {w : LW} (ok : okLD D) {ds : Nat → Nat} (okd : okDs D w ds) (hb0 : brk D w ds = 0) {b : Nat} (hb : b < dB D) : mCn D (mlt D ds b) := by
  have hbb := ok.2.2.2.1 b hb
  have hh : ∀ d, d < wK w → hang D (dP D ds d) = true := fun d hd => by
    have h2 := (brk_0.mp hb0) 2 (by omega) (by omega)
    have h2 : fstO (fun d => badB D w 2 (dP D ds d)) (wK w) = none := h2
    have := fstO_none_iff.mp h2 d hd
    rw [badB_2] at this
    simpa using this
  have hsub : ∀ e, (e = xLo D ds b ∨ e = xHi D ds b) → ∀ j, dP D ds e j = true → mlt D ds b j = true := fun e he j hj => by
    unfold mlt
    rcases he with rfl | rfl
    · rw [hj]; rfl
    · rw [hj]; simp
  have hk : xLo D ds b < wK w ∧ xHi D ds b < wK w := by
    have h1 := okd _ hbb.1
    have h2 := okd _ hbb.2.1
    rcases xx_or (D := D) (ds := ds) b with ⟨e1, e2⟩ | ⟨e1, e2⟩ <;> rw [e1, e2] <;> exact ⟨by assumption, by assumption⟩
  have fF : dP D ds (ds (dFr D b)) (dFr D b) = true := by unfold dP inN; simp [hbb.1]
  have fT : dP D ds (ds (dTo D b)) (dTo D b) = true := by unfold dP inN; simp [hbb.2.1]
  have eF : ds (dFr D b) = xLo D ds b ∨ ds (dFr D b) = xHi D ds b := by
    rcases xx_or (D := D) (ds := ds) b with ⟨e1, e2⟩ | ⟨e1, e2⟩
    · exact Or.inl e1.symm
    · exact Or.inr e2.symm
  have eT : ds (dTo D b) = xLo D ds b ∨ ds (dTo D b) = xHi D ds b := by
    rcases xx_or (D := D) (ds := ds) b with ⟨e1, e2⟩ | ⟨e1, e2⟩
    · exact Or.inr e2.symm
    · exact Or.inl e1.symm
  have same : ∀ e, (e = xLo D ds b ∨ e = xHi D ds b) → ∀ p q, dP D ds e p = true → dP D ds e q = true → Cn D (insP D (mlt D ds b)) p q := by
    intro e he p q h1 h2
    refine hang_cn ok (fun j => dP_sub) (hsub e he) (hh e ?_) h1 h2
    rcases he with rfl | rfl
    · exact hk.1
    · exact hk.2
  have cross : Cn D (insP D (mlt D ds b)) (dFr D b) (dTo D b) := by
    refine Cn.ed hb ?_
    unfold insP isIn
    rw [hsub _ eF _ fF, hsub _ eT _ fT]
    rfl
  have toF : ∀ p, mlt D ds b p = true → Cn D (insP D (mlt D ds b)) p (dFr D b) := by
    intro p hp
    have hp' : dP D ds (ds (dFr D b)) p = true ∨ dP D ds (ds (dTo D b)) p = true := by
      unfold mlt at hp
      rw [Bool.or_eq_true] at hp
      rcases xx_or (D := D) (ds := ds) b with ⟨e1, e2⟩ | ⟨e1, e2⟩
      · rw [e1, e2] at hp; exact hp
      · rw [e1, e2] at hp; exact hp.symm
    rcases hp' with z | z
    · exact same _ eF p _ z fF
    · exact (same _ eT p _ z fT).tr cross.sy
  intro p q hp hq
  exact (toF p hp).tr (toF q hq).sy
/-- two districts dealt anew -/
theorem PartW_deal {h : Hp} {o : Nat} {D : LD} {ds : Nat → Nat} (hN : dN D ≤ 30) (hp : PartW h o (inN D) ds) {M P : Nat → Bool} {x y : Nat} (hx : x < 6) (hy : y < 6) (hxy : x ≠ y) (hM : ∀ j, M j = (dP D ds x j || dP D ds y j)) (hPM : ∀ j, P j = true → M j = true) {h' : Hp} (e1 : h' (o + 1) = fun j => if j < 30 ∧ cs (cI (fun j => M j && !P j)) j = true then nI y else (fun j => if j < 30 ∧ cs (cI P) j = true then nI x else h (o + 1) j) j) (e2 : h' (o + 2) = upd (upd (h (o + 2)) x (cI P)) y (cI (fun j => M j && !P j))) : PartW h' o (inN D) (dealN D ds M P x y) := by
  have hMn : ∀ j, M j = true → j < dN D := fun j hj => by
    rw [hM, Bool.or_eq_true] at hj
    rcases hj with z | z <;> exact dP_sub z
  have hMd : ∀ j, j < dN D → (M j = true ↔ ds j = x ∨ ds j = y) := fun j hj => by
    rw [hM, Bool.or_eq_true]
    unfold dP inN
    simp [hj]
  refine ⟨fun j hj => ?_, fun e he => ?_⟩
  · have hj6 := hp.1 j hj
    rw [e1]
    dsimp only
    rw [cI_cs _ hj, cI_cs _ hj]
    unfold dealN
    by_cases hjn : j < dN D
    · rw [if_pos hjn]
      cases hPj : P j with
      | true =>
        simp [hj, hx]
      | false =>
        cases hMj : M j with
        | true => simp [hj, hy]
        | false => simp; exact hj6
    · have hMj : M j = false := by
        cases hh : M j with
        | false => rfl
        | true => exact absurd (hMn j hh) hjn
      have hPj : P j = false := by
        cases hh : P j with
        | false => rfl
        | true => rw [hPM j hh] at hMj; cases hMj
      rw [if_neg hjn, hPj, hMj]
      simp
      exact hj6
  · rw [e2]
    have key : ∀ j, j < 30 → (inN D j && decide (dealN D ds M P x y j = e)) = if e = y then (M j && !P j) else if e = x then P j else (inN D j && decide (ds j = e)) := by
      intro j hj
      unfold dealN inN
      by_cases hjn : j < dN D
      · simp only [hjn, decide_true, Bool.true_and, if_true]
        cases hPj : P j with
        | true =>
          have hMj := hPM j hPj
          rw [hMj]
          simp only [if_true]
          by_cases c1 : e = y
          · rw [if_pos c1, c1, decide_eq_false hxy]; rfl
          · rw [if_neg c1]
            by_cases c2 : e = x
            · rw [if_pos c2, c2]; simp
            · rw [if_neg c2, decide_eq_false (Ne.symm c2)]
              symm
              apply decide_eq_false
              intro z
              rcases (hMd j hjn).mp hMj with q | q <;> omega
        | false =>
          simp only [Bool.false_eq_true, if_false]
          cases hMj : M j with
          | true =>
            simp only [if_true]
            by_cases c1 : e = y
            · rw [if_pos c1, c1]; simp
            · rw [if_neg c1, decide_eq_false (Ne.symm c1)]
              by_cases c2 : e = x
              · rw [if_pos c2]
              · rw [if_neg c2]
                symm
                apply decide_eq_false
                intro z
                rcases (hMd j hjn).mp hMj with q | q <;> omega
          | false =>
            simp only [Bool.false_eq_true, if_false]
            have hne : ¬ (ds j = x ∨ ds j = y) := fun z => by
              rw [(hMd j hjn).mpr z] at hMj
              cases hMj
            by_cases c1 : e = y
            · rw [if_pos c1, c1, decide_eq_false (fun z => hne (Or.inr z))]; rfl
            · rw [if_neg c1]
              by_cases c2 : e = x
              · rw [if_pos c2, c2, decide_eq_false (fun z => hne (Or.inl z))]
              · rw [if_neg c2]
      · have hMj : M j = false := by
          cases hh : M j with
          | false => rfl
          | true => exact absurd (hMn j hh) hjn
        have hPj : P j = false := by
          cases hh : P j with
          | false => rfl
          | true => rw [hPM j hh] at hMj; cases hMj
        rw [hMj, hPj]
        simp [hjn]
    rw [cI_cong key]
    unfold upd
    by_cases c1 : e = y
    · rw [if_pos c1]
      exact cI_cong (fun j _ => by rw [if_pos c1])
    · rw [if_neg c1]
      by_cases c2 : e = x
      · rw [if_pos c2]
        exact cI_cong (fun j _ => by rw [if_neg c1, if_pos c2])
      · rw [if_neg c2, hp.2 e he]
        exact cI_cong (fun j _ => by rw [if_neg c1, if_neg c2])
