/-! the class's calls, on -/
theorem c_Dcuts {E : Wd} {h : Hp} {S : ST} (hc : ClW h S) (ok : okST S) (n : Int32) : CC E 2 m_DC_cuts [.int n] h (opCuts S n) := by
  refine Cq_of2 ok_DC_cuts rfl (Nat.le_of_ble_eq_true rfl) (L := [some (.ref 0), some (.int n), none]) rfl ?_
  refine V_iload_n d_DC_cuts_0 rfl ?_
  refine V_iconst (v := 0) d_DC_cuts_1 (by decide) ?_
  refine V_bipush (v := 10) d_DC_cuts_2 (by decide) ?_
  refine V_callS1 d_DC_cuts_4 k_DC_82 rfl (c_isWithin h _ _ _) rfl (by first | decide | omega) rfl (Nat.le_of_ble_eq_true rfl) ?_
  refine V_if_ne (tgt := 12) d_DC_cuts_7 (by decide) (fun b7 => ?_) (fun b7 => ?_)
  · have hok := p2in.mp b7
    rw [opCuts_yes hok]
    obtain ⟨y, hy, rfl⟩ := (inR_nI (n := 10) (by omega)).mp hok
    rw [nI_clamp (by omega)]
    obtain ⟨w1, w2, w3, w4, w5⟩ := id hc.2.1
    refine V_aload_n d_DC_cuts_12 rfl ?_
    refine V_getR d_DC_cuts_13 f_DC_29 rfl (by first | rfl | assumption) (by first | rfl | assumption) ?_
    refine V_getI d_DC_cuts_16 f_DC_146 rfl (by first | rfl | assumption) (by first | rfl | assumption) ?_
    refine V_istore_n d_DC_cuts_19 (by decide) ?_
    dsimp only [List.set]
    refine V_aload_n d_DC_cuts_20 rfl ?_
    refine V_getR d_DC_cuts_21 f_DC_29 rfl (by first | rfl | assumption) (by first | rfl | assumption) ?_
    refine V_iload_n d_DC_cuts_24 rfl ?_
    refine V_put (ty := .int) d_DC_cuts_25 f_DC_146 rfl (by first | rfl | assumption) (by first | rfl | assumption) (by decide +kernel) (by first | rfl | assumption) (by first | rfl | assumption) ?_
    refine V_aload_n d_DC_cuts_28 rfl ?_
    refine V_getR d_DC_cuts_29 f_DC_53 rfl (by first | rfl | assumption) (by first | rfl | assumption) ?_
    refine V_callV0 d_DC_cuts_32 k_DC_102 rfl (c_forget _) (by first | rfl | assumption) rfl rfl (by first | decide | omega) rfl (Nat.le_of_ble_eq_true rfl) ?_
    refine V_iload_n d_DC_cuts_35 rfl ?_
    refine V_iret d_DC_cuts_36 rfl ?_
    rw [w3]
    refine ⟨rfl, ⟨hc.1.of (fun q c1 c2 => by rw [hup_ne (by omega), hup_ne (by omega)]), ⟨?_, ?_, ?_, fun s hs => ?_, fun p hp => ?_⟩, hc.2.2.1.at (by rw [hup_ne (by omega), hup_ne (by omega)]) (by rw [hup_ne (by omega), hup_ne (by omega)]), hc.2.2.2.1.of (by rw [hup_ne (by omega), hup_ne (by omega)]) (by rw [hup_ne (by omega), hup_ne (by omega)]), fgt⟩, fun q hq => by rw [hup_ne (by omega), hup_ne (by omega)]⟩
    · rw [hup_ne (by omega), hup_same, upd_n (by omega)]; exact w1
    · rw [hup_ne (by omega), hup_same, upd_n (by omega)]; exact w2
    · rw [hup_ne (by omega), hup_same, upd_s]; rfl
    · rw [hup_ne (by omega), hup_ne (by omega)]; exact w4 s hs
    · rw [hup_ne (by omega), hup_ne (by omega)]; exact w5 p hp
  · rw [opCuts_no (p2i.mp b7)]
    refine V_iconst (v := -1) d_DC_cuts_10 (by decide) ?_
    refine V_iret d_DC_cuts_11 rfl ?_
    exact ⟨rfl, hc, fun _ _ => rfl⟩
theorem c_Dfix {E : Wd} {h : Hp} {S : ST} (hc : ClW h S) (ok : okST S) (p d : Int32) : CC E 2 m_DC_fix [.int p, .int d] h (opFix S p d) := by
  have hn := ok.1.1
  have hk6 := ok.2.1.2.1
  have no : ¬ (isPl (dN S.1) p = true ∧ (d = -1 ∨ isPl (wK S.2.1) d = true)) → V E 2 m_DC_fix (fun r h' => r = some (.int (opFix S p d).1) ∧ ClW h' (opFix S p d).2 ∧ ∀ q, 41 ≤ q → h' q = h q) 27 [some (.ref 0), some (.int p), some (.int d), none] [] h := by
    intro hno
    rw [opFix_no hno]
    refine V_iconst (v := -1) d_DC_fix_27 (by decide) ?_
    refine V_iret d_DC_fix_28 rfl ?_
    exact ⟨rfl, hc, fun _ _ => rfl⟩
  obtain ⟨w1, w2, w3, w4, w5⟩ := id hc.2.1
  have yes : isPl (dN S.1) p = true → (d = -1 ∨ isPl (wK S.2.1) d = true) → V E 2 m_DC_fix (fun r h' => r = some (.int (opFix S p d).1) ∧ ClW h' (opFix S p d).2 ∧ ∀ q, 41 ≤ q → h' q = h q) 29 [some (.ref 0), some (.int p), some (.int d), none] [] h := by
    intro h1 h2
    rw [opFix_yes ⟨h1, h2⟩]
    obtain ⟨j, hj, rfl⟩ := isPl_iff.mp h1
    rw [nI_clamp (by omega)]
    have hin : vp_in (nI j) 30 := vp_in_nI (by omega) (by omega)
    refine V_aload_n d_DC_fix_29 rfl ?_
    refine V_getR d_DC_fix_30 f_DC_29 rfl (by first | rfl | assumption) (by first | rfl | assumption) ?_
    refine V_getR d_DC_fix_33 f_DC_152 rfl (by first | rfl | assumption) (by first | rfl | assumption) ?_
    refine V_iload_n d_DC_fix_36 rfl ?_
    refine V_iald d_DC_fix_37 (by first | rfl | assumption) (by first | assumption | exact vp_in_nI (by omega) (by omega)) ?_
    refine V_istore_n d_DC_fix_38 (by decide) ?_
    dsimp only [List.set]
    refine V_aload_n d_DC_fix_39 rfl ?_
    refine V_getR d_DC_fix_40 f_DC_29 rfl (by first | rfl | assumption) (by first | rfl | assumption) ?_
    refine V_getR d_DC_fix_43 f_DC_152 rfl (by first | rfl | assumption) (by first | rfl | assumption) ?_
    refine V_iload_n d_DC_fix_46 rfl ?_
    refine V_iload_n d_DC_fix_47 rfl ?_
    refine V_iast d_DC_fix_48 (by first | rfl | assumption) (by first | assumption | exact vp_in_nI (by omega) (by omega)) ?_
    refine V_iload_n d_DC_fix_49 rfl ?_
    refine V_iret d_DC_fix_50 rfl ?_
    rw [nI_clamp (by omega)]
    refine ⟨by rw [w5 j (by omega)], ⟨hc.1.of (fun q c1 c2 => by rw [hup_ne (by omega)]), ⟨?_, ?_, ?_, fun s hs => ?_, fun p hp => ?_⟩, hc.2.2.1.at (by rw [hup_ne (by omega)]) (by rw [hup_ne (by omega)]), hc.2.2.2.1.of (by rw [hup_ne (by omega)]) (by rw [hup_ne (by omega)]), ?_⟩, fun q hq => by rw [hup_ne (by omega)]⟩
    · rw [hup_ne (by omega)]; exact w1
    · rw [hup_ne (by omega)]; exact w2
    · rw [hup_ne (by omega)]; exact w3
    · rw [hup_ne (by omega)]; exact w4 s hs
    · rw [hup_same]
      show _ = fxI (updA (wFx S.2.1) j (fxO d) p)
      by_cases h1 : p = j
      · rw [h1, upd_s, updA_same, fxO_I hk6 h2]
      · rw [upd_n h1, updA_ne h1]; exact w5 p hp
    · have hb : BkW (hup h 13 j d) S.1 S.2.1 := hc.2.2.2.2.of (fun q _ _ _ _ => hup_ne (by omega))
      exact hb
  refine Cq_of2 ok_DC_fix rfl (Nat.le_of_ble_eq_true rfl) (L := [some (.ref 0), some (.int p), some (.int d), none]) rfl ?_
  refine V_aload_n d_DC_fix_0 rfl ?_
  refine V_getR d_DC_fix_1 f_DC_23 rfl (by first | rfl | assumption) (by first | rfl | assumption) ?_
  refine V_iload_n d_DC_fix_4 rfl ?_
  refine V_callV1 d_DC_fix_5 k_DC_105 rfl (c_hasPlace hc.1 ok.1 p) (by first | rfl | assumption) rfl rfl (by first | decide | omega) rfl (Nat.le_of_ble_eq_true rfl) ?_
  refine V_if_eq (tgt := 27) d_DC_fix_8 (by decide) (fun b8 => ?_) (fun b8 => ?_)
  · exact no (fun q => by have q1 := q.1; rw [b2i.mp b8] at q1; cases q1)
  · refine V_iload_n d_DC_fix_11 rfl ?_
    refine V_iconst (v := -1) d_DC_fix_12 (by decide) ?_
    refine V_icmp_eq (tgt := 29) d_DC_fix_13 (by decide) (fun b13 => ?_) (fun b13 => ?_)
    · exact yes (b2in.mp b8) (Or.inl b13)
    · refine V_aload_n d_DC_fix_16 rfl ?_
      refine V_getR d_DC_fix_17 f_DC_29 rfl (by first | rfl | assumption) (by first | rfl | assumption) ?_
      refine V_iload_n d_DC_fix_20 rfl ?_
      refine V_callV1 d_DC_fix_21 k_DC_149 rfl (c_hasDistrict hc.2.1 ok.2.1 d) (by first | rfl | assumption) rfl rfl (by first | decide | omega) rfl (Nat.le_of_ble_eq_true rfl) ?_
      refine V_if_ne (tgt := 29) d_DC_fix_24 (by decide) (fun b24 => ?_) (fun b24 => ?_)
      · exact yes (b2in.mp b8) (Or.inr (b2in.mp b24))
      · refine no (fun q => q.2.elim b13 (fun z => ?_))
        rw [b2i.mp b24] at z
        cases z
theorem c_Dpeople {E : Wd} {h : Hp} {S : ST} (hc : ClW h S) (ok : okST S) (p v : Int32) : CC E 2 m_DC_people [.int p, .int v] h (opPeople S p v) := by
  have hn := ok.1.1
  have no : ¬ (isPl (dN S.1) p = true ∧ inR v 0 1000) → V E 2 m_DC_people (fun r h' => r = some (.int (opPeople S p v).1) ∧ ClW h' (opPeople S p v).2 ∧ ∀ q, 41 ≤ q → h' q = h q) 22 [some (.ref 0), some (.int p), some (.int v)] [] h := by
    intro hno
    rw [opPeople_no hno]
    refine V_iconst (v := -1) d_DC_people_22 (by decide) ?_
    refine V_iret d_DC_people_23 rfl ?_
    exact ⟨rfl, hc, fun _ _ => rfl⟩
  refine Cq_of2 ok_DC_people rfl (Nat.le_of_ble_eq_true rfl) (L := [some (.ref 0), some (.int p), some (.int v)]) rfl ?_
  refine V_aload_n d_DC_people_0 rfl ?_
  refine V_getR d_DC_people_1 f_DC_23 rfl (by first | rfl | assumption) (by first | rfl | assumption) ?_
  refine V_iload_n d_DC_people_4 rfl ?_
  refine V_callV1 d_DC_people_5 k_DC_105 rfl (c_hasPlace hc.1 ok.1 p) (by first | rfl | assumption) rfl rfl (by first | decide | omega) rfl (Nat.le_of_ble_eq_true rfl) ?_
  refine V_if_eq (tgt := 22) d_DC_people_8 (by decide) (fun b8 => ?_) (fun b8 => ?_)
  · exact no (fun q => by have q1 := q.1; rw [b2i.mp b8] at q1; cases q1)
  · refine V_iload_n d_DC_people_11 rfl ?_
    refine V_iconst (v := 0) d_DC_people_12 (by decide) ?_
    refine V_sipush (v := 1000) d_DC_people_13 (by decide) ?_
    refine V_callS1 d_DC_people_16 k_DC_82 rfl (c_isWithin h _ _ _) rfl (by first | decide | omega) rfl (Nat.le_of_ble_eq_true rfl) ?_
    refine V_if_ne (tgt := 24) d_DC_people_19 (by decide) (fun b19 => ?_) (fun b19 => ?_)
    · have h1 := b2in.mp b8
      rw [opPeople_yes ⟨h1, p2in.mp b19⟩]
      obtain ⟨j, hj, rfl⟩ := isPl_iff.mp h1
      rw [nI_clamp (by omega)]
      refine V_aload_n d_DC_people_24 rfl ?_
      refine V_getR d_DC_people_25 f_DC_53 rfl (by first | rfl | assumption) (by first | rfl | assumption) ?_
      refine V_callV0 d_DC_people_28 k_DC_102 rfl (c_forget _) (by first | rfl | assumption) rfl rfl (by first | decide | omega) rfl (Nat.le_of_ble_eq_true rfl) ?_
      refine V_aload_n d_DC_people_31 rfl ?_
      refine V_getR d_DC_people_32 f_DC_23 rfl (by first | rfl | assumption) (by first | rfl | assumption) ?_
      refine V_iload_n d_DC_people_35 rfl ?_
      refine V_iload_n d_DC_people_36 rfl ?_
      refine V_callV d_DC_people_37 k_DC_155 rfl (c_changePeople (hc.1.of (fun q c1 c2 => hup_ne (by omega))) ok.1 hj v) (by first | rfl | assumption) rfl rfl (by first | decide | omega) rfl (Nat.le_of_ble_eq_true rfl) (fun v_ h_ q_ => ?_)
      obtain ⟨rfl, q1, q2⟩ := q_
      show V E _ m_DC_people _ 40 _ [.int (dPe S.1 j)] _
      refine V_iret d_DC_people_40 rfl ?_
      exact ⟨rfl, ⟨q1, hc.2.1.of (fun q c1 c2 => by rw [q2 q (by omega), hup_ne (by omega)]), hc.2.2.1.at (by rw [q2 _ (by omega), hup_ne (by omega)]) (by rw [q2 _ (by omega), hup_ne (by omega)]), hc.2.2.2.1.of (by rw [q2 _ (by omega), hup_ne (by omega)]) (by rw [q2 _ (by omega), hup_ne (by omega)]), BkW.no (by rw [q2 _ (by omega), hup_same, upd_s])⟩, fun q hq => by rw [q2 q (by omega), hup_ne (by omega)]⟩
    · exact no (fun q => p2i.mp b19 q.2)
theorem setA_in {D : LD} {p : Nat} (hp : p < dN D) (j : Nat) : setA (inN D) p j = inN D j := by
  unfold setA inN
  by_cases c : j = p
  · rw [c]; simp [hp]
  · rw [decide_eq_false c]; rfl
theorem c_Dput {E : Wd} {h : Hp} {S : ST} (hc : ClW h S) (ok : okST S) (p d : Int32) : CC E 2 m_DC_put [.int p, .int d] h (opPut S p d) := by
  have hn := ok.1.1
  have hk6 := ok.2.1.2.1
  have no : ¬ (isPl (dN S.1) p = true ∧ isPl (wK S.2.1) d = true) → V E 2 m_DC_put (fun r h' => r = some (.int (opPut S p d).1) ∧ ClW h' (opPut S p d).2 ∧ ∀ q, 41 ≤ q → h' q = h q) 22 [some (.ref 0), some (.int p), some (.int d), none] [] h := by
    intro hno
    rw [opPut_no hno]
    refine V_iconst (v := -1) d_DC_put_22 (by decide) ?_
    refine V_iret d_DC_put_23 rfl ?_
    exact ⟨rfl, hc, fun _ _ => rfl⟩
  refine Cq_of2 ok_DC_put rfl (Nat.le_of_ble_eq_true rfl) (L := [some (.ref 0), some (.int p), some (.int d), none]) rfl ?_
  refine V_aload_n d_DC_put_0 rfl ?_
  refine V_getR d_DC_put_1 f_DC_23 rfl (by first | rfl | assumption) (by first | rfl | assumption) ?_
  refine V_iload_n d_DC_put_4 rfl ?_
  refine V_callV1 d_DC_put_5 k_DC_105 rfl (c_hasPlace hc.1 ok.1 p) (by first | rfl | assumption) rfl rfl (by first | decide | omega) rfl (Nat.le_of_ble_eq_true rfl) ?_
  refine V_if_eq (tgt := 22) d_DC_put_8 (by decide) (fun b8 => ?_) (fun b8 => ?_)
  · exact no (fun q => by have q1 := q.1; rw [b2i.mp b8] at q1; cases q1)
  · refine V_aload_n d_DC_put_11 rfl ?_
    refine V_getR d_DC_put_12 f_DC_29 rfl (by first | rfl | assumption) (by first | rfl | assumption) ?_
    refine V_iload_n d_DC_put_15 rfl ?_
    refine V_callV1 d_DC_put_16 k_DC_149 rfl (c_hasDistrict hc.2.1 ok.2.1 d) (by first | rfl | assumption) rfl rfl (by first | decide | omega) rfl (Nat.le_of_ble_eq_true rfl) ?_
    refine V_if_ne (tgt := 24) d_DC_put_19 (by decide) (fun b19 => ?_) (fun b19 => ?_)
    · have h1 := b2in.mp b8
      have h2 := b2in.mp b19
      rw [opPut_yes ⟨h1, h2⟩]
      obtain ⟨j, hj, rfl⟩ := isPl_iff.mp h1
      obtain ⟨e, he, rfl⟩ := isPl_iff.mp h2
      rw [nI_clamp (by omega), nI_clamp (by omega)]
      have hin : vp_in (nI j) 30 := vp_in_nI (by omega) (by omega)
      refine V_aload_n d_DC_put_24 rfl ?_
      refine V_getR d_DC_put_25 f_DC_36 rfl (by first | rfl | assumption) (by first | rfl | assumption) ?_
      refine V_getR d_DC_put_28 f_DC_159 rfl (by first | rfl | assumption) (by first | rfl | assumption) ?_
      refine V_iload_n d_DC_put_31 rfl ?_
      refine V_iald d_DC_put_32 (by first | rfl | assumption) (by first | assumption | exact vp_in_nI (by omega) (by omega)) ?_
      refine V_istore_n d_DC_put_33 (by decide) ?_
      dsimp only [List.set]
      refine V_aload_n d_DC_put_34 rfl ?_
      refine V_getR d_DC_put_35 f_DC_36 rfl (by first | rfl | assumption) (by first | rfl | assumption) ?_
      refine V_iload_n d_DC_put_38 rfl ?_
      refine V_iload_n d_DC_put_39 rfl ?_
      refine V_callV d_DC_put_40 k_DC_98 rfl (c_move _ pt_14 hc.2.2.1 (show j < 30 by omega) (show e < 6 by omega)) (by first | rfl | assumption) rfl rfl (by first | decide | omega) rfl (Nat.le_of_ble_eq_true rfl) (fun v_ h_ q_ => ?_)
      obtain ⟨rfl, r1, r2⟩ := q_
      show V E _ m_DC_put _ 43 _ [] _
      refine V_iload_n d_DC_put_43 rfl ?_
      refine V_iret d_DC_put_44 rfl ?_
      rw [nI_clamp (by omega), (hc.2.2.1.1 j (by omega)).2]
      exact ⟨rfl, ⟨hc.1.of (fun q c1 c2 => r2 q (by omega) (by omega)), hc.2.1.of (fun q c1 c2 => r2 q (by omega) (by omega)), r1.cong rfl rfl (fun i _ => setA_in hj i) (fun _ _ => rfl), hc.2.2.2.1.of (r2 _ (by omega) (by omega)) (r2 _ (by omega) (by omega)), hc.2.2.2.2.of (fun q c1 c2 _ _ => r2 q (by omega) (by omega))⟩, fun q hq => r2 q (by omega) (by omega)⟩
    · exact no (fun q => by have q1 := q.2; rw [b2i.mp b19] at q1; cases q1)
theorem c_Dat {E : Wd} {h : Hp} {S : ST} (hc : ClW h S) (ok : okST S) (p : Int32) : CC E 2 m_DC_at [.int p] h (opAt S p) := by
  have hn := ok.1.1
  refine Cq_of2 ok_DC_at rfl (Nat.le_of_ble_eq_true rfl) (L := [some (.ref 0), some (.int p)]) rfl ?_
  refine V_aload_n d_DC_at_0 rfl ?_
  refine V_getR d_DC_at_1 f_DC_23 rfl (by first | rfl | assumption) (by first | rfl | assumption) ?_
  refine V_iload_n d_DC_at_4 rfl ?_
  refine V_callV1 d_DC_at_5 k_DC_105 rfl (c_hasPlace hc.1 ok.1 p) (by first | rfl | assumption) rfl rfl (by first | decide | omega) rfl (Nat.le_of_ble_eq_true rfl) ?_
  refine V_if_eq (tgt := 23) d_DC_at_8 (by decide) (fun b8 => ?_) (fun b8 => ?_)
  · refine V_iconst (v := -1) d_DC_at_23 (by decide) ?_
    refine V_iret d_DC_at_24 rfl ?_
    exact ⟨by unfold opAt; rw [b2i.mp b8]; rfl, hc, fun _ _ => rfl⟩
  · have h1 := b2in.mp b8
    obtain ⟨j, hj, rfl⟩ := isPl_iff.mp h1
    have hin : vp_in (nI j) 30 := vp_in_nI (by omega) (by omega)
    refine V_aload_n d_DC_at_11 rfl ?_
    refine V_getR d_DC_at_12 f_DC_36 rfl (by first | rfl | assumption) (by first | rfl | assumption) ?_
    refine V_getR d_DC_at_15 f_DC_159 rfl (by first | rfl | assumption) (by first | rfl | assumption) ?_
    refine V_iload_n d_DC_at_18 rfl ?_
    refine V_iald d_DC_at_19 (by first | rfl | assumption) (by first | assumption | exact vp_in_nI (by omega) (by omega)) ?_
    refine V_goto (tgt := 24) d_DC_at_20 (by decide) ?_
    refine V_iret d_DC_at_24 rfl ?_
    refine ⟨?_, hc, fun _ _ => rfl⟩
    unfold opAt
    rw [if_pos h1, nI_clamp (by omega), (hc.2.2.1.1 j (by omega)).2]
theorem c_Dlawful {E : Wd} {h : Hp} {S : ST} (hc : ClW h S) (ok : okST S) : CC E 7 m_DC_lawful [] h (opLawful S) := by
  have hn := ok.1.1
  refine Cq_of2 ok_DC_lawful rfl (Nat.le_of_ble_eq_true rfl) (L := [some (.ref 0)]) rfl ?_
  refine V_aload_n d_DC_lawful_0 rfl ?_
  refine V_getR d_DC_lawful_1 f_DC_23 rfl (by first | rfl | assumption) (by first | rfl | assumption) ?_
  refine V_getI d_DC_lawful_4 f_DC_90 rfl (by first | rfl | assumption) (by first | rfl | assumption) ?_
  rw [hc.1.1]
  refine V_if_ne (tgt := 15) d_DC_lawful_7 (by decide) (fun b7 => ?_) (fun b7 => ?_)
  · have h0 : ¬ dN S.1 = 0 := fun z => b7 (by rw [z]; rfl)
    refine V_aload_n d_DC_lawful_15 rfl ?_
    refine V_getR d_DC_lawful_16 f_DC_40 rfl (by first | rfl | assumption) (by first | rfl | assumption) ?_
    refine V_aload_n d_DC_lawful_19 rfl ?_
    refine V_getR d_DC_lawful_20 f_DC_36 rfl (by first | rfl | assumption) (by first | rfl | assumption) ?_
    refine V_callV1 d_DC_lawful_23 k_DC_162 rfl (c_brokenLaw hc.1 ok.1 hc.2.1 ok.2.1 pt_14 hc.2.2.1) (by first | rfl | assumption) rfl rfl (by first | decide | omega) rfl (Nat.le_of_ble_eq_true rfl) ?_
    refine V_iret d_DC_lawful_26 rfl ?_
    exact ⟨by unfold opLawful; rw [if_neg h0], hc, fun _ _ => rfl⟩
  · have h0 : dN S.1 = 0 := (eq_nI _ 0 rfl rfl (by omega) (by decide)).mp b7
    refine V_bipush (v := -5) d_DC_lawful_10 (by decide) ?_
    refine V_goto (tgt := 26) d_DC_lawful_12 (by decide) ?_
    refine V_iret d_DC_lawful_26 rfl ?_
    exact ⟨by unfold opLawful; rw [if_pos h0], hc, fun _ _ => rfl⟩
theorem c_Dwhy {E : Wd} {h : Hp} {S : ST} (hc : ClW h S) (ok : okST S) (what : Int32) : CC E 7 m_DC_why [.int what] h (opWhy S what) := by
  have hn := ok.1.1
  have hk6 := ok.2.1.2.1
  refine Cq_of2 ok_DC_why rfl (Nat.le_of_ble_eq_true rfl) (L := [some (.ref 0), some (.int what), none, none]) rfl ?_
  refine V_aload_n d_DC_why_0 rfl ?_
  refine V_getR d_DC_why_1 f_DC_23 rfl (by first | rfl | assumption) (by first | rfl | assumption) ?_
  refine V_getI d_DC_why_4 f_DC_90 rfl (by first | rfl | assumption) (by first | rfl | assumption) ?_
  rw [hc.1.1]
  refine V_if_ne (tgt := 14) d_DC_why_7 (by decide) (fun b7 => ?_) (fun b7 => ?_)
  · have h0 : ¬ dN S.1 = 0 := fun z => b7 (by rw [z]; rfl)
    have hop : opWhy S what = (whyI S.1 S.2.1 S.2.2.1 what (brk S.1 S.2.1 S.2.2.1), S) := by unfold opWhy; rw [if_neg h0]
    rw [hop]
    refine V_aload_n d_DC_why_14 rfl ?_
    refine V_getR d_DC_why_15 f_DC_40 rfl (by first | rfl | assumption) (by first | rfl | assumption) ?_
    refine V_aload_n d_DC_why_18 rfl ?_
    refine V_getR d_DC_why_19 f_DC_36 rfl (by first | rfl | assumption) (by first | rfl | assumption) ?_
    refine V_callV1 d_DC_why_22 k_DC_162 rfl (c_brokenLaw hc.1 ok.1 hc.2.1 ok.2.1 pt_14 hc.2.2.1) (by first | rfl | assumption) rfl rfl (by first | decide | omega) rfl (Nat.le_of_ble_eq_true rfl) ?_
    obtain ⟨m, hm⟩ : ∃ m, brk S.1 S.2.1 S.2.2.1 = m := ⟨_, rfl⟩
    rw [hm]
    have hm6 : m ≤ 6 := by
      rcases Nat.eq_zero_or_pos m with z | z
      · omega
      · exact (brk_some hm (by omega)).1
    refine V_istore_n d_DC_why_25 (by decide) ?_
    dsimp only [List.set]
    refine V_iload_n d_DC_why_26 rfl ?_
    refine V_if_ne (tgt := 32) d_DC_why_27 (by decide) (fun b27 => ?_) (fun b27 => ?_)
    · have hm0 : m ≠ 0 := fun z => b27 (by rw [z]; rfl)
      obtain ⟨d, hd⟩ := (brk_some hm hm0).2
      have hd30 := cul_lt ok.1 ok.2.1 hd
      refine V_aload_n d_DC_why_32 rfl ?_
      refine V_getR d_DC_why_33 f_DC_40 rfl (by first | rfl | assumption) (by first | rfl | assumption) ?_
      refine V_iload_n d_DC_why_36 rfl ?_
      refine V_aload_n d_DC_why_37 rfl ?_
      refine V_getR d_DC_why_38 f_DC_36 rfl (by first | rfl | assumption) (by first | rfl | assumption) ?_
      refine V_callV1 d_DC_why_41 k_DC_166 rfl (c_culprit hc.1 ok.1 hc.2.1 ok.2.1 pt_14 hc.2.2.1 (show 1 ≤ m by omega) hm6) (by first | rfl | assumption) rfl rfl (by first | decide | omega) rfl (Nat.le_of_ble_eq_true rfl) ?_
      rw [hd]
      refine V_istore_n d_DC_why_44 (by decide) ?_
      dsimp only [List.set]
      refine V_iload_n d_DC_why_45 rfl ?_
      refine V_if_ne (tgt := 51) d_DC_why_46 (by decide) (fun b46 => ?_) (fun b46 => ?_)
      · refine V_iload_n d_DC_why_51 rfl ?_
        refine V_iconst (v := 2) d_DC_why_52 (by decide) ?_
        refine V_icmp_ne (tgt := 76) d_DC_why_53 (by decide) (fun b53 => ?_) (fun b53 => ?_)
        · refine V_iconst (v := -1) d_DC_why_76 (by decide) ?_
          refine V_iret d_DC_why_77 rfl ?_
          have hm2 : m ≠ 2 := fun z => b53 (by rw [z]; rfl)
          refine ⟨?_, hc, fun _ _ => rfl⟩
          unfold whyI
          rw [if_neg hm0, if_neg hm2, if_neg b46]
        · have hm2 : m = 2 := (eq_nI m 2 rfl rfl (by omega) (by decide)).mp b53
          subst hm2
          obtain ⟨a, ha⟩ := cul2_fst hd
          have hdk : d < wK S.2.1 := by
            have hd' : fstO (fun d => badB S.1 S.2.1 2 (dP S.1 S.2.2.1 d)) (wK S.2.1) = some d := hd
            exact (fstO_lt hd').1
          have hin : vp_in (nI d) 6 := vp_in_nI (by omega) (by omega)
          show V E _ m_DC_why _ 56 [_, _, _, some (.int (nI d))] _ _
          refine V_aload_n d_DC_why_56 rfl ?_
          refine V_getR d_DC_why_57 f_DC_40 rfl (by first | rfl | assumption) (by first | rfl | assumption) ?_
          refine V_aload_n d_DC_why_60 rfl ?_
          refine V_getR d_DC_why_61 f_DC_36 rfl (by first | rfl | assumption) (by first | rfl | assumption) ?_
          refine V_getR d_DC_why_64 f_DC_170 rfl (by first | rfl | assumption) (by first | rfl | assumption) ?_
          refine V_iload_n d_DC_why_67 rfl ?_
          refine V_iald d_DC_why_68 (by first | rfl | assumption) (by first | assumption | exact vp_in_nI (by omega) (by omega)) ?_
          refine V_iload_n d_DC_why_69 rfl ?_
          rw [nI_clamp (by omega), hc.2.2.1.2 d (by omega)]
          show V E _ m_DC_why _ 70 _ (.int what :: .int (cI (dP S.1 S.2.2.1 d)) :: _) _
          refine V_callV1 d_DC_why_70 k_DC_173 rfl (c_looseEnd hc.1 ha what) (by first | rfl | assumption) rfl rfl (by first | decide | omega) rfl (Nat.le_of_ble_eq_true rfl) ?_
          refine V_goto (tgt := 77) d_DC_why_73 (by decide) ?_
          refine V_iret d_DC_why_77 rfl ?_
          refine ⟨?_, hc, fun _ _ => rfl⟩
          unfold whyI
          rw [if_neg (c := (2 : Nat) = 0) (by omega), if_pos (c := (2 : Nat) = 2) rfl, why2_eq hd ha, if_neg b46]
      · refine V_iload_n d_DC_why_49 rfl ?_
        refine V_iret d_DC_why_50 rfl ?_
        refine ⟨?_, hc, fun _ _ => rfl⟩
        unfold whyI
        rw [if_neg hm0]
        by_cases hm2 : m = 2
        · subst hm2
          obtain ⟨a, ha⟩ := cul2_fst hd
          rw [if_pos rfl, why2_eq hd ha, if_pos b46]
          rfl
        · rw [if_neg hm2, if_pos b46, hd]
    · have hm0 : m = 0 := (eq_nI m 0 rfl rfl (by omega) (by decide)).mp b27
      refine V_iconst (v := -1) d_DC_why_30 (by decide) ?_
      refine V_iret d_DC_why_31 rfl ?_
      exact ⟨by unfold whyI; rw [if_pos hm0], hc, fun _ _ => rfl⟩
  · have h0 : dN S.1 = 0 := (eq_nI _ 0 rfl rfl (by omega) (by decide)).mp b7
    have hop : opWhy S what = (-1, S) := by unfold opWhy; rw [if_pos h0]
    rw [hop]
    refine V_iconst (v := 0) d_DC_why_10 (by decide) ?_
    refine V_goto (tgt := 25) d_DC_why_11 (by decide) ?_
    refine V_istore_n d_DC_why_25 (by decide) ?_
    dsimp only [List.set]
    refine V_iload_n d_DC_why_26 rfl ?_
    refine V_if_ne (tgt := 32) d_DC_why_27 (by decide) (fun b27 => ?_) (fun b27 => ?_)
    · exact absurd rfl b27
    · refine V_iconst (v := -1) d_DC_why_30 (by decide) ?_
      refine V_iret d_DC_why_31 rfl ?_
      exact ⟨rfl, hc, fun _ _ => rfl⟩
theorem c_Dmeasure {E : Wd} {h : Hp} {S : ST} (hc : ClW h S) (ok : okST S) (m : Int32) : CC E 6 m_DC_measure [.int m] h (opMeasure S m) := by
  refine Cq_of2 ok_DC_measure rfl (Nat.le_of_ble_eq_true rfl) (L := [some (.ref 0), some (.int m)]) rfl ?_
  refine V_iload_n d_DC_measure_0 rfl ?_
  refine V_callS1 d_DC_measure_1 k_DC_176 rfl (c_isMeasure h _) rfl (by first | decide | omega) rfl (Nat.le_of_ble_eq_true rfl) ?_
  refine V_if_eq (tgt := 22) d_DC_measure_4 (by decide) (fun b4 => ?_) (fun b4 => ?_)
  · refine V_iconst (v := -1) d_DC_measure_22 (by decide) ?_
    refine V_iret d_DC_measure_23 rfl ?_
    exact ⟨by unfold opMeasure; rw [@if_neg _ (Classical.propDecidable _) (p2i.mp b4)], hc, fun _ _ => rfl⟩
  · have hok := p2in.mp b4
    obtain ⟨y, hy, rfl⟩ := (inR_nI (n := 6) (by omega)).mp hok
    refine V_aload_n d_DC_measure_7 rfl ?_
    refine V_getR d_DC_measure_8 f_DC_44 rfl (by first | rfl | assumption) (by first | rfl | assumption) ?_
    refine V_aload_n d_DC_measure_11 rfl ?_
    refine V_getR d_DC_measure_12 f_DC_36 rfl (by first | rfl | assumption) (by first | rfl | assumption) ?_
    refine V_iload_n d_DC_measure_15 rfl ?_
    refine V_callV d_DC_measure_16 k_DC_179 rfl (c_weigh hc.1 ok.1 hc.2.1 ok.2.1 pt_14 (by omega) hc.2.2.1 hy) (by first | rfl | assumption) rfl rfl (by first | decide | omega) rfl (Nat.le_of_ble_eq_true rfl) (fun v_ h_ q_ => ?_)
    obtain ⟨rfl, f, rfl⟩ := q_
    show V E _ m_DC_measure _ 19 _ [.int (val S.1 S.2.1 S.2.2.1 y)] _
    refine V_goto (tgt := 23) d_DC_measure_19 (by decide) ?_
    refine V_iret d_DC_measure_23 rfl ?_
    exact ⟨by unfold opMeasure; rw [@if_pos _ (Classical.propDecidable _) hok, nI_clamp (by omega)], hc.of (fun q _ c2 _ _ _ _ _ => hrow_ne c2), fun q hq => hrow_ne (by omega)⟩
theorem c_Dland {E : Wd} {h : Hp} {S : ST} (hc : ClW h S) (ok : okST S) (what : Int32) : CC E 3 m_DC_land [.int what] h (opLand S what) := by
  have hn := ok.1.1
  obtain ⟨l1, l2, l3, -⟩ := id hc.1
  have l3 := all_nI hc.1 ok.1
  obtain ⟨w1, w2, w3, w4, w5⟩ := id hc.2.1
  refine Cq_of2 ok_DC_land rfl (Nat.le_of_ble_eq_true rfl) (L := [some (.ref 0), some (.int what)]) rfl ?_
  refine V_iload_n d_DC_land_0 rfl ?_
  by_cases hr : what.toInt < 0 ∨ 6 < what.toInt
  · refine V_tableOut (tgt := 100) d_DC_land_1 hr (by decide) ?_
    refine V_iconst (v := -1) d_DC_land_100 (by decide) ?_
    refine V_iret d_DC_land_101 rfl ?_
    refine ⟨?_, hc, fun _ _ => rfl⟩
    have ne : ∀ n : Int32, 0 ≤ n.toInt → n.toInt ≤ 6 → ¬ what = n := fun n q1 q2 q => by rw [q] at hr; omega
    unfold opLand
    rw [if_neg (ne 0 (by decide) (by decide)), if_neg (ne 1 (by decide) (by decide)), if_neg (ne 2 (by decide) (by decide)), if_neg (ne 3 (by decide) (by decide)), if_neg (ne 4 (by decide) (by decide)), if_neg (ne 5 (by decide) (by decide)), if_neg (ne 6 (by decide) (by decide))]
  · obtain ⟨x, hx, rfl⟩ : ∃ x, x ≤ 6 ∧ what = nI x := by
      refine (inR_nI (n := 6) (by omega)).mp ⟨?_, ?_⟩
      · rw [fa_le]; have e0 : (0 : Int32).toInt = 0 := by decide
        omega
      · rw [fa_le, nI_toInt (by omega)]; omega
    rcases (show x = 0 ∨ x = 1 ∨ x = 2 ∨ x = 3 ∨ x = 4 ∨ x = 5 ∨ x = 6 by omega) with rfl | rfl | rfl | rfl | rfl | rfl | rfl
    · refine V_tableIn (off := 43) (tgt := 44) d_DC_land_1 (by decide) (by decide) (by decide) (by decide) ?_
      refine V_aload_n d_DC_land_44 rfl ?_
      refine V_getR d_DC_land_45 f_DC_23 rfl (by first | rfl | assumption) (by first | rfl | assumption) ?_
      refine V_getI d_DC_land_48 f_DC_90 rfl (by first | rfl | assumption) (by first | rfl | assumption) ?_
      refine V_iret d_DC_land_51 rfl ?_
      exact ⟨by rw [l1]; rfl, hc, fun _ _ => rfl⟩
    · refine V_tableIn (off := 51) (tgt := 52) d_DC_land_1 (by decide) (by decide) (by decide) (by decide) ?_
      refine V_aload_n d_DC_land_52 rfl ?_
      refine V_getR d_DC_land_53 f_DC_23 rfl (by first | rfl | assumption) (by first | rfl | assumption) ?_
      refine V_getI d_DC_land_56 f_DC_118 rfl (by first | rfl | assumption) (by first | rfl | assumption) ?_
      refine V_iret d_DC_land_59 rfl ?_
      exact ⟨by rw [l2]; rfl, hc, fun _ _ => rfl⟩
    · refine V_tableIn (off := 59) (tgt := 60) d_DC_land_1 (by decide) (by decide) (by decide) (by decide) ?_
      refine V_aload_n d_DC_land_60 rfl ?_
      refine V_getR d_DC_land_61 f_DC_23 rfl (by first | rfl | assumption) (by first | rfl | assumption) ?_
      refine V_getI d_DC_land_64 f_DC_212 rfl (by first | rfl | assumption) (by first | rfl | assumption) ?_
      refine V_iret d_DC_land_67 rfl ?_
      exact ⟨by rw [l3]; rfl, hc, fun _ _ => rfl⟩
    · refine V_tableIn (off := 67) (tgt := 68) d_DC_land_1 (by decide) (by decide) (by decide) (by decide) ?_
      refine V_aload_n d_DC_land_68 rfl ?_
      refine V_getR d_DC_land_69 f_DC_29 rfl (by first | rfl | assumption) (by first | rfl | assumption) ?_
      refine V_getI d_DC_land_72 f_DC_125 rfl (by first | rfl | assumption) (by first | rfl | assumption) ?_
      refine V_iret d_DC_land_75 rfl ?_
      exact ⟨by rw [w1]; rfl, hc, fun _ _ => rfl⟩
    · refine V_tableIn (off := 75) (tgt := 76) d_DC_land_1 (by decide) (by decide) (by decide) (by decide) ?_
      refine V_aload_n d_DC_land_76 rfl ?_
      refine V_getR d_DC_land_77 f_DC_29 rfl (by first | rfl | assumption) (by first | rfl | assumption) ?_
      refine V_getI d_DC_land_80 f_DC_128 rfl (by first | rfl | assumption) (by first | rfl | assumption) ?_
      refine V_iret d_DC_land_83 rfl ?_
      exact ⟨by rw [w2]; rfl, hc, fun _ _ => rfl⟩
    · refine V_tableIn (off := 83) (tgt := 84) d_DC_land_1 (by decide) (by decide) (by decide) (by decide) ?_
      refine V_aload_n d_DC_land_84 rfl ?_
      refine V_getR d_DC_land_85 f_DC_29 rfl (by first | rfl | assumption) (by first | rfl | assumption) ?_
      refine V_callV1 d_DC_land_88 k_DC_215 rfl (c_fixedPlaces hc.2.1 ok.2.1) (by first | rfl | assumption) rfl rfl (by first | decide | omega) rfl (Nat.le_of_ble_eq_true rfl) ?_
      refine V_iret d_DC_land_91 rfl ?_
      exact ⟨rfl, hc, fun _ _ => rfl⟩
    · refine V_tableIn (off := 91) (tgt := 92) d_DC_land_1 (by decide) (by decide) (by decide) (by decide) ?_
      refine V_aload_n d_DC_land_92 rfl ?_
      refine V_getR d_DC_land_93 f_DC_29 rfl (by first | rfl | assumption) (by first | rfl | assumption) ?_
      refine V_getI d_DC_land_96 f_DC_146 rfl (by first | rfl | assumption) (by first | rfl | assumption) ?_
      refine V_iret d_DC_land_99 rfl ?_
      exact ⟨by rw [w3]; rfl, hc, fun _ _ => rfl⟩
theorem c_Dseen {E : Wd} {h : Hp} {S : ST} (hc : ClW h S) (ok : okST S) (i : Int32) : CC E 2 m_DC_seen [.int i] h (opSeen S i) := by
  refine Cq_of2 ok_DC_seen rfl (Nat.le_of_ble_eq_true rfl) (L := [some (.ref 0), some (.int i)]) rfl ?_
  refine V_aload_n d_DC_seen_0 rfl ?_
  refine V_getR d_DC_seen_1 f_DC_62 rfl (by first | rfl | assumption) (by first | rfl | assumption) ?_
  refine V_getI d_DC_seen_4 f_DC_261 rfl (by first | rfl | assumption) (by first | rfl | assumption) ?_
  rw [hc.2.2.2.1.1]
  refine V_if_eq (tgt := 31) d_DC_seen_7 (by decide) (fun b7 => ?_) (fun b7 => ?_)
  · refine V_iconst (v := -1) d_DC_seen_31 (by decide) ?_
    refine V_iret d_DC_seen_32 rfl ?_
    refine ⟨?_, hc, fun _ _ => rfl⟩
    unfold opSeen
    cases hs : S.2.2.2 with
    | none => rfl
    | some f => rw [hs] at b7; exact absurd b7 (show ¬ (1 : Int32) = 0 by decide)
  · obtain ⟨f, hf⟩ : ∃ f, S.2.2.2 = some f := by
      cases hs : S.2.2.2 with
      | none => rw [hs] at b7; exact absurd rfl b7
      | some f => exact ⟨f, rfl⟩
    refine V_iload_n d_DC_seen_10 rfl ?_
    refine V_iconst (v := 0) d_DC_seen_11 (by decide) ?_
    refine V_iconst (v := 5) d_DC_seen_12 (by decide) ?_
    refine V_callS1 d_DC_seen_13 k_DC_82 rfl (c_isWithin h _ _ _) rfl (by first | decide | omega) rfl (Nat.le_of_ble_eq_true rfl) ?_
    refine V_if_eq (tgt := 31) d_DC_seen_16 (by decide) (fun b16 => ?_) (fun b16 => ?_)
    · refine V_iconst (v := -1) d_DC_seen_31 (by decide) ?_
      refine V_iret d_DC_seen_32 rfl ?_
      refine ⟨?_, hc, fun _ _ => rfl⟩
      unfold opSeen
      rw [hf]
      show _ = some (Value.int (@ite _ (inR i 0 5) (Classical.propDecidable _) (f i.toNatClampNeg) (-1)))
      rw [@if_neg _ (Classical.propDecidable _) (p2i.mp b16)]
    · have hok := p2in.mp b16
      obtain ⟨y, hy, rfl⟩ := (inR_nI (n := 5) (by omega)).mp hok
      have hin : vp_in (nI y) 6 := vp_in_nI (by omega) (by omega)
      refine V_aload_n d_DC_seen_19 rfl ?_
      refine V_getR d_DC_seen_20 f_DC_62 rfl (by first | rfl | assumption) (by first | rfl | assumption) ?_
      refine V_getR d_DC_seen_23 f_DC_258 rfl (by first | rfl | assumption) (by first | rfl | assumption) ?_
      refine V_iload_n d_DC_seen_26 rfl ?_
      refine V_iald d_DC_seen_27 (by first | rfl | assumption) (by first | assumption | exact vp_in_nI (by omega) (by omega)) ?_
      refine V_goto (tgt := 32) d_DC_seen_28 (by decide) ?_
      refine V_iret d_DC_seen_32 rfl ?_
      refine ⟨?_, hc, fun _ _ => rfl⟩
      unfold opSeen
      rw [hf]
      show _ = some (Value.int (@ite _ (inR (nI y) 0 5) (Classical.propDecidable _) (f (nI y).toNatClampNeg) (-1)))
      rw [@if_pos _ (Classical.propDecidable _) hok, nI_clamp (by omega), hc.2.2.2.1.2 f hf y (by omega)]
