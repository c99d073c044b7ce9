theorem c_repair {E : Wd} {h : Hp} {S : ST} (hl : LandW h S.1) (ok : okST S) (hw : LawW h S.2.1) (hp : PartW h 14 (inN S.1) S.2.2.1) {n : Nat} (hn2 : n ≤ 2) : Cq E 9 m_Mender_repair [.ref 34, .ref 14, .int (nI n)] h (fun v h' => v = some (.int (mnd S n).1) ∧ (mnd S n).2.1 = S.1 ∧ (mnd S n).2.2.1 = S.2.1 ∧ (mnd S n).2.2.2.2 = S.2.2.2 ∧ PartW h' 14 (inN S.1) (mnd S n).2.2.2.1 ∧ ∀ q, q ≠ 14 + 1 → q ≠ 14 + 2 → q ≠ 34 → q ≠ 35 + 1 → q ≠ 35 + 2 → q ≠ 38 + 1 → q ≠ 38 + 2 → h' q = h q) := by
  refine Cq_of2 ok_Mender_repair rfl (Nat.le_of_ble_eq_true rfl) (L := [some (.ref 34), some (.ref 14), some (.int (nI n)), none]) rfl ?_
  refine V_aload_n d_Mender_repair_0 rfl ?_
  refine V_ldc d_Mender_repair_1 v_Mender_35 rfl ?_
  refine V_put (ty := .int) d_Mender_repair_3 f_Mender_36 rfl (by first | rfl | assumption) (by first | rfl | assumption) (by decide +kernel) (by first | rfl | assumption) (by first | rfl | assumption) ?_
  refine V_aload_n d_Mender_repair_6 rfl ?_
  refine V_iconst (v := 0) d_Mender_repair_7 (by decide) ?_
  refine V_put (ty := .int) d_Mender_repair_8 f_Mender_40 rfl (by first | rfl | assumption) (by first | rfl | assumption) (by decide +kernel) (by first | rfl | assumption) (by first | rfl | assumption) ?_
  refine V_aload_n d_Mender_repair_11 rfl ?_
  refine V_getR d_Mender_repair_12 f_Mender_26 rfl (by first | rfl | assumption) (by first | rfl | assumption) ?_
  refine V_aload_n d_Mender_repair_15 rfl ?_
  refine V_callV d_Mender_repair_16 k_Mender_43 rfl (c_become _ pt_t pt_14 (by omega) (by omega) (by omega) (hp.at (by rw [hup_ne (by omega), hup_ne (by omega)]) (by rw [hup_ne (by omega), hup_ne (by omega)]))) (by first | rfl | assumption) rfl rfl (by first | decide | omega) rfl (Nat.le_of_ble_eq_true rfl) (fun v_ h_ q_ => ?_)
  obtain ⟨rfl, r1, r2⟩ := q_
  have fr0 : tFr h h_ := fun q c1 c2 c3 c4 c5 => by rw [r2 q c2 c3, hup_ne c1, hup_ne c1]
  have hb0 : bsC h_ S.1 S.2.1 S.2.2.1 (fun _ => False) := Or.inl ⟨by rw [r2 _ (by omega) (by omega), hup_same, upd_n (by omega), hup_same, upd_s]; rfl, fun x hx => hx.elim⟩
  clear r2
  show V E _ m_Mender_repair _ 19 _ [] _
  refine V_iconst (v := 0) d_Mender_repair_19 (by decide) ?_
  refine V_istore_n d_Mender_repair_20 (by decide) ?_
  dsimp only [List.set]
  have loop : ∀ i, i ≤ n + 1 → ∀ H, tFr h H → PartW H 35 (inN S.1) S.2.2.1 → bsC H S.1 S.2.1 S.2.2.1 (fun y => ∃ m, m < i ∧ Re S.1 S.2.1 m 0 S.2.2.1 y) → V E 9 m_Mender_repair (fun v h' => v = some (.int (mnd S n).1) ∧ (mnd S n).2.1 = S.1 ∧ (mnd S n).2.2.1 = S.2.1 ∧ (mnd S n).2.2.2.2 = S.2.2.2 ∧ PartW h' 14 (inN S.1) (mnd S n).2.2.2.1 ∧ ∀ q, q ≠ 14 + 1 → q ≠ 14 + 2 → q ≠ 34 → q ≠ 35 + 1 → q ≠ 35 + 2 → q ≠ 38 + 1 → q ≠ 38 + 2 → h' q = h q) 21 [some (.ref 34), some (.ref 14), some (.int (nI n)), some (.int (nI i))] [] H := by
    refine up_ind (n + 1) ?_
    intro i hi ih H fr hpt hb
    refine V_iload_n d_Mender_repair_21 rfl ?_
    refine V_iload_n d_Mender_repair_22 rfl ?_
    refine V_icmp_gt (tgt := 40) d_Mender_repair_23 (by decide) (fun b23 => ?_) (fun b23 => ?_)
    · have hgt := (nI_ltI (by omega) (by omega)).mp b23
      have hii : i = n + 1 := by omega
      subst hii
      have hX : ∀ y, (∃ m, m < n + 1 ∧ Re S.1 S.2.1 m 0 S.2.2.1 y) ↔ Rm S.1 S.2.1 n 0 S.2.2.1 y := fun y => by
        rw [Rm_Re]
        exact ⟨fun ⟨m, h1, h2⟩ => ⟨m, by omega, h2⟩, fun ⟨m, h1, h2⟩ => ⟨m, by omega, h2⟩⟩
      have hb := hb.cong rfl rfl rfl hX
      rcases hb with ⟨g1, g2⟩ | ⟨b, hB, g1, g2, g3⟩
      · rw [mnd_none g2]
        refine V_aload_n d_Mender_repair_40 rfl ?_
        refine V_getI d_Mender_repair_41 f_Mender_36 rfl (by first | rfl | assumption) (by first | rfl | assumption) ?_
        rw [g1]
        refine V_ldc d_Mender_repair_44 v_Mender_35 rfl ?_
        refine V_icmp_ne (tgt := 52) d_Mender_repair_46 (by decide) (fun b46 => ?_) (fun b46 => ?_)
        · exact absurd rfl b46
        · refine V_bipush (v := -6) d_Mender_repair_49 (by decide) ?_
          refine V_iret d_Mender_repair_51 rfl ?_
          exact ⟨rfl, rfl, rfl, rfl, hp.at (fr _ (by omega) (by omega) (by omega) (by omega) (by omega)) (fr _ (by omega) (by omega) (by omega) (by omega) (by omega)), fun q c1 c2 c3 c4 c5 c6 c7 => fr q c3 c4 c5 c6 c7⟩
      · rw [mnd_some hB]
        have hPb := mvP_le ok.1 S.2.2.1 b
        refine V_aload_n d_Mender_repair_40 rfl ?_
        refine V_getI d_Mender_repair_41 f_Mender_36 rfl (by first | rfl | assumption) (by first | rfl | assumption) ?_
        rw [g1]
        refine V_ldc d_Mender_repair_44 v_Mender_35 rfl ?_
        refine V_icmp_ne (tgt := 52) d_Mender_repair_46 (by decide) (fun b46 => ?_) (fun b46 => ?_)
        · refine V_aload_n d_Mender_repair_52 rfl ?_
          refine V_aload_n d_Mender_repair_53 rfl ?_
          refine V_getR d_Mender_repair_54 f_Mender_30 rfl (by first | rfl | assumption) (by first | rfl | assumption) ?_
          refine V_callV d_Mender_repair_57 k_Mender_43 rfl (c_become _ pt_14 pt_b (by omega) (by omega) (by omega) g3) (by first | rfl | assumption) rfl rfl (by first | decide | omega) rfl (Nat.le_of_ble_eq_true rfl) (fun v_ h_ q_ => ?_)
          obtain ⟨rfl, s1, s2⟩ := q_
          show V E _ m_Mender_repair _ 60 _ [] _
          refine V_aload_n d_Mender_repair_60 rfl ?_
          refine V_getI d_Mender_repair_61 f_Mender_36 rfl (by first | rfl | assumption) (by first | rfl | assumption) ?_
          refine V_iret d_Mender_repair_64 rfl ?_
          exact ⟨by rw [s2 _ (by omega) (by omega), g1], rfl, rfl, rfl, s1, fun q c1 c2 c3 c4 c5 c6 c7 => by rw [s2 q c1 c2]; exact fr q c3 c4 c5 c6 c7⟩
        · have := (eq_nI (mvP S.1 S.2.2.1 b) 2147483647 rfl rfl (by omega) (by omega)).mp b46
          omega
    · have hle : i ≤ n := by
        rcases Nat.lt_or_ge n i with z | z
        · exact absurd ((nI_ltI (by omega) (by omega)).mpr z) b23
        · exact z
      have hv := mv_self S.1 S.2.2.1
      have hc := c_tryMoves (E := E) ok.1 ok.2.1 (ds := S.2.2.1) (m := i) (by omega) i (by omega) (a := 0) (fr.land hl) (fr.law hw) hpt ok.2.2.1 (Nat.zero_le _) (fun _ _ => rfl) (by rw [hv.2, Nat.zero_add]) (fun z hz => by
        obtain ⟨m, h1, h2⟩ := hz
        obtain ⟨t1, t2, t3⟩ := Re_mv (ds := S.2.2.1) m (fun _ _ => rfl) h2
        rw [hv.2] at t1
        exact ⟨by omega, t3⟩) hb
      rw [hv.1] at hc
      refine V_aload_n d_Mender_repair_26 rfl ?_
      refine V_iload_n d_Mender_repair_27 rfl ?_
      refine V_iload_n d_Mender_repair_28 rfl ?_
      refine V_iconst (v := 0) d_Mender_repair_29 (by decide) ?_
      refine V_iconst (v := 0) d_Mender_repair_30 (by decide) ?_
      refine V_callV d_Mender_repair_31 k_Mender_47 rfl (hc) (by first | rfl | assumption) rfl rfl (by first | decide | omega) rfl (Nat.le_of_ble_eq_true rfl) (fun v_ h_ q_ => ?_)
      obtain ⟨rfl, fr2, hp2, hb2⟩ := q_
      show V E _ m_Mender_repair _ 34 _ [] _
      refine V_iincw (w := 1) d_Mender_repair_34 rfl (by decide) (by decide) ?_
      dsimp only [List.set]
      refine V_goto (tgt := 21) d_Mender_repair_37 (by decide) ?_
      rw [nI_1]
      refine ih (by omega) _ (fr.tr fr2) hp2 (hb2.cong rfl rfl rfl (fun y => ?_))
      constructor
      · rintro (⟨m, h1, h2⟩ | h2)
        · exact ⟨m, by omega, h2⟩
        · exact ⟨i, by omega, h2⟩
      · rintro ⟨m, h1, h2⟩
        rcases Nat.lt_or_ge m i with z | z
        · exact Or.inl ⟨m, z, h2⟩
        · exact Or.inr (by rw [show i = m by omega]; exact h2)
  exact loop 0 (by omega) h_ fr0 r1 (hb0.cong rfl rfl rfl (fun y => ⟨fun z => z.elim, fun ⟨m, h1, _⟩ => absurd h1 (Nat.not_lt_zero m)⟩))
theorem c_Dmend {E : Wd} {h : Hp} {S : ST} (hc : ClW h S) (ok : okST S) (n : Int32) : CC E 10 m_DC_mend [.int n] h (opMend S n) := by
  have hN := ok.1.1
  refine Cq_of2 ok_DC_mend rfl (Nat.le_of_ble_eq_true rfl) (L := [some (.ref 0), some (.int n)]) rfl ?_
  refine V_iload_n d_DC_mend_0 rfl ?_
  refine V_iconst (v := 0) d_DC_mend_1 (by decide) ?_
  refine V_iconst (v := 2) d_DC_mend_2 (by decide) ?_
  refine V_callS1 d_DC_mend_3 k_DC_82 rfl (c_isWithin h _ _ _) rfl (by first | decide | omega) rfl (Nat.le_of_ble_eq_true rfl) ?_
  refine V_if_ne (tgt := 11) d_DC_mend_6 (by decide) (fun b6 => ?_) (fun b6 => ?_)
  · have hok := p2in.mp b6
    obtain ⟨y, hy, rfl⟩ := (inR_nI (n := 2) (by omega)).mp hok
    rw [opMend_yes hok, nI_clamp (by omega)]
    refine V_aload_n d_DC_mend_11 rfl ?_
    refine V_getR d_DC_mend_12 f_DC_23 rfl (by first | rfl | assumption) (by first | rfl | assumption) ?_
    refine V_getI d_DC_mend_15 f_DC_90 rfl (by first | rfl | assumption) (by first | rfl | assumption) ?_
    rw [hc.1.1]
    refine V_if_ne (tgt := 26) d_DC_mend_18 (by decide) (fun b18 => ?_) (fun b18 => ?_)
    · have h0 : ¬ dN S.1 = 0 := fun z => b18 (by rw [z]; rfl)
      rw [if_neg h0]
      refine V_aload_n d_DC_mend_26 rfl ?_
      refine V_getR d_DC_mend_27 f_DC_78 rfl (by first | rfl | assumption) (by first | rfl | assumption) ?_
      refine V_aload_n d_DC_mend_30 rfl ?_
      refine V_getR d_DC_mend_31 f_DC_36 rfl (by first | rfl | assumption) (by first | rfl | assumption) ?_
      refine V_iload_n d_DC_mend_34 rfl ?_
      refine V_callV d_DC_mend_35 k_DC_268 rfl (c_repair hc.1 ok hc.2.1 hc.2.2.1 hy) (by first | rfl | assumption) rfl rfl (by first | decide | omega) rfl (Nat.le_of_ble_eq_true rfl) (fun v_ h_ q_ => ?_)
      obtain ⟨rfl, e1, e2, e3, r1, r2⟩ := q_
      show V E _ m_DC_mend _ 38 _ [.int (mnd S y).1] _
      refine V_iret d_DC_mend_38 rfl ?_
      generalize mnd S y = r at *
      obtain ⟨a, D', w', ds', s'⟩ := r
      dsimp only at e1 e2 e3 r1
      subst e1 e2 e3
      exact ⟨rfl, ⟨hc.1.of (fun q c1 c2 => r2 q (by omega) (by omega) (by omega) (by omega) (by omega) (by omega) (by omega)), hc.2.1.of (fun q c1 c2 => r2 q (by omega) (by omega) (by omega) (by omega) (by omega) (by omega) (by omega)), r1, hc.2.2.2.1.of (r2 _ (by omega) (by omega) (by omega) (by omega) (by omega) (by omega) (by omega)) (r2 _ (by omega) (by omega) (by omega) (by omega) (by omega) (by omega) (by omega)), hc.2.2.2.2.of (fun q c1 c2 _ _ => r2 q (by omega) (by omega) (by omega) (by omega) (by omega) (by omega) (by omega))⟩, fun q hq => r2 q (by omega) (by omega) (by omega) (by omega) (by omega) (by omega) (by omega)⟩
    · have h0 : dN S.1 = 0 := (eq_nI _ 0 rfl rfl (by omega) (by decide)).mp b18
      rw [if_pos h0]
      refine V_bipush (v := -5) d_DC_mend_21 (by decide) ?_
      refine V_goto (tgt := 38) d_DC_mend_23 (by decide) ?_
      refine V_iret d_DC_mend_38 rfl ?_
      exact ⟨rfl, hc, fun _ _ => rfl⟩
  · rw [opMend_no (p2i.mp b6)]
    refine V_iconst (v := -1) d_DC_mend_9 (by decide) ?_
    refine V_iret d_DC_mend_10 rfl ?_
    exact ⟨rfl, hc, fun _ _ => rfl⟩
