/-! visit() -/
/-- the book as visit() leaves it -/
def vFrB (h h' : Hp) : Prop := (∀ q, q ≠ 20 → q ≠ 21 → q ≠ 24 → q ≠ 19 → h' q = h q) ∧ ∀ k, k ≠ 0 → h' 20 k = h 20 k
theorem vFrB.rf (h : Hp) : vFrB h h := ⟨fun _ _ _ _ _ => rfl, fun _ _ => rfl⟩
theorem vFrB.tr {h h' h2 : Hp} (a : vFrB h h') (b : vFrB h' h2) : vFrB h h2 := ⟨fun q h1 h3 h4 h5 => (b.1 q h1 h3 h4 h5).trans (a.1 q h1 h3 h4 h5), fun k hk => (b.2 k hk).trans (a.2 k hk)⟩
theorem vFrB.tf {h h' : Hp} (a : tF h h') : vFrB h h' := ⟨fun q _ _ c3 _ => a.ne c3, fun k _ => by rw [a.ne (by omega)]⟩
theorem vFrB.sh {h : Hp} {i : Nat} {x : Int32} : vFrB h (hup h 19 i x) := ⟨fun q _ _ _ c4 => hup_ne c4, fun k _ => by rw [hup_ne (by omega)]⟩
theorem bkS.vf {h h' : Hp} {D : LD} {w : LW} (hb : bkS h D w) (a : vFrB h h') (ht : h' 24 = h 24) : bkS h' D w := by
  obtain ⟨r1, r2, r3, r4, r5, r6, r7, r8, r9, r10⟩ := hb
  refine ⟨r1.of (fun q _ _ => a.1 q (by omega) (by omega) (by omega) (by omega)), r2, by rw [a.1 _ (by omega) (by omega) (by omega) (by omega)]; exact r3, r4, r5, by rw [a.2 _ (by omega)]; exact r6, by rw [a.2 _ (by omega)]; exact r7, by rw [a.2 _ (by omega)]; exact r8, fun x hx => by rw [a.1 _ (by omega) (by omega) (by omega) (by omega)]; exact r9 x hx, fun l R b a1 a2 a3 a4 => ?_⟩
  have := r10 l R b a1 a2 a3 a4
  unfold ent at this ⊢
  rw [ht]
  exact this
theorem svW.of {h h' : Hp} {o : Option Int32} {f : Nat → Int32} {mk : Int32} (hs : svW h o f mk) (e1 : h' 20 = h 20) (e2 : h' 21 = h 21) : svW h' o f mk := by
  unfold svW
  rw [e1, e2]
  exact hs
def vsQ (h : Hp) (D : LD) (w : LW) (m n : Nat) (o : Option Int32) (f : Nat → Int32) (mk : Int32) (v : List Int32 → Int32) (L : List (List Int32)) : Option Value → Hp → Prop := fun r h' => r = none ∧ vFrB h h' ∧ bkS h' D (wfr true w) ∧ svW h' (lsF v L o) (sdF mk v L f) mk ∧ ∀ i, i < n → h' 19 i = h 19 i
theorem c_visit {E : Wd} {D : LD} {w : LW} {m : Nat} (hm : m ≤ 6) {mk : Int32} : ∀ (l : Nat) {h : Hp} {R : Int32} {b : Nat} {pre : List Int32} {o : Option Int32} {f : Nat → Int32}, bkS h D (wfr true w) → LawW h w → okLW w → okT D (wfr true w) (l + 1) R b → 0 < (sq D (wfr true w) (l + 1) R b).length → pre.length + (l + 1) = wK w → (∀ i, i < pre.length → h 19 i = shr D m (cs (gD pre i))) → svW h o f mk →
    Cq E (3 * l + 8) m_ClassBook_visit [.ref 20, .int (nI (l + 1)), .int R, .int (nI b), .int (nI m)] h (vsQ h D w m pre.length o f mk (fun t => vq D w m (pre ++ t)) (sq D (wfr true w) (l + 1) R b)) := by
  intro l
  induction l with
  | zero =>
    intro h R b pre o f hb hw okw hT hpos hlen hsh hsv
    have hk6 := okw.2.1
    have ok := hb.2.1
    have hR := hT.2.2.1
    have hRc : R = cI (cs R) := cI_of hR.1
    have hg : goS D (wfr true w) R b = true := by
      rw [sq] at hpos
      by_cases c : goS D (wfr true w) R b = true
      · exact c
      · rw [if_neg c] at hpos; exact absurd hpos (by simp)
    have hsq : sq D (wfr true w) (0 + 1) R b = [[R]] := by
      show sq D (wfr true w) 1 R b = _
      rw [sq, if_pos hg]
    rw [hsq]
    have hso := c_shareOf (E := E) (P := cs R) hb.1 ok hR.2 hm
    rw [← hRc] at hso
    have hin : vp_in (nI (wK w - 1)) 6 := vp_in_nI (by omega) (by omega)
    refine Cq_of2 ok_ClassBook_visit rfl (Nat.le_of_ble_eq_true rfl) (L := [some (.ref 20), some (.int (nI (0 + 1))), some (.int R), some (.int (nI b)), some (.int (nI m)), none, none, none]) rfl ?_
    refine V_iload_n d_ClassBook_visit_0 rfl ?_
    refine V_iconst (v := 1) d_ClassBook_visit_1 (by decide) ?_
    refine V_icmp_gt (tgt := 46) d_ClassBook_visit_2 (by decide) (fun b2 => ?_) (fun b2 => ?_)
    · exact absurd b2 (by decide)
    · refine V_aload_n d_ClassBook_visit_5 rfl ?_
      refine V_getR d_ClassBook_visit_6 f_ClassBook_23 rfl (by first | rfl | assumption) (by first | rfl | assumption) ?_
      refine V_getR d_ClassBook_visit_9 f_ClassBook_168 rfl (by first | rfl | assumption) (by first | rfl | assumption) ?_
      refine V_aload_n d_ClassBook_visit_12 rfl ?_
      refine V_getR d_ClassBook_visit_13 f_ClassBook_15 rfl (by first | rfl | assumption) (by first | rfl | assumption) ?_
      refine V_getI d_ClassBook_visit_16 f_ClassBook_78 rfl (by first | rfl | assumption) (by first | rfl | assumption) ?_
      refine V_iconst (v := 1) d_ClassBook_visit_19 (by decide) ?_
      rw [hw.1, show (1 : Int32) = nI 1 from rfl]
      refine V_isub d_ClassBook_visit_20 ?_
      rw [pk_sub (by omega)]
      refine V_aload_n d_ClassBook_visit_21 rfl ?_
      refine V_getR d_ClassBook_visit_22 f_ClassBook_23 rfl (by first | rfl | assumption) (by first | rfl | assumption) ?_
      refine V_iload_n d_ClassBook_visit_25 rfl ?_
      refine V_iload d_ClassBook_visit_26 rfl ?_
      refine V_callV1 d_ClassBook_visit_28 k_ClassBook_171 rfl (hso) (by first | rfl | assumption) rfl rfl (by first | decide | omega) rfl (Nat.le_of_ble_eq_true rfl) ?_
      refine V_iast d_ClassBook_visit_31 (by first | rfl | assumption) (by first | assumption | exact vp_in_nI (by omega) (by omega)) ?_
      refine V_aload_n d_ClassBook_visit_32 rfl ?_
      refine V_aload_n d_ClassBook_visit_33 rfl ?_
      refine V_getR d_ClassBook_visit_34 f_ClassBook_23 rfl (by first | rfl | assumption) (by first | rfl | assumption) ?_
      refine V_iload d_ClassBook_visit_37 rfl ?_
      rw [nI_clamp (by omega)]
      have fr1 : vFrB h (hup h 19 (wK w - 1) (shr D m (cs R))) := vFrB.sh
      refine V_callV1 d_ClassBook_visit_39 k_ClassBook_174 rfl (c_together (hw.of (fun q _ _ => hup_ne (by omega))) okw hm) (by first | rfl | assumption) rfl rfl (by first | decide | omega) rfl (Nat.le_of_ble_eq_true rfl) ?_
      have ev : tgI ((hup h 19 (wK w - 1) (shr D m (cs R))) 19) (wK w) m = vq D w m (pre ++ [R]) := by
        unfold vq
        refine tgI_cong (fun d hd => ?_)
        rw [hup_same]
        by_cases c : d = wK w - 1
        · have : d = pre.length := by omega
          rw [c, upd_s, ← c, this, gD_app_r]
        · rw [upd_n c, gD_app_l (by omega)]
          exact hsh d (by omega)
      rw [ev]
      refine V_callV d_ClassBook_visit_42 k_ClassBook_177 rfl (c_note (hsv.of (hup_ne (by omega)) (hup_ne (by omega))) (vq_ne ok okw m _)) (by first | rfl | assumption) rfl rfl (by first | decide | omega) rfl (Nat.le_of_ble_eq_true rfl) (fun v_ h_ q_ => ?_)
      obtain ⟨rfl, q1, q2, q3⟩ := q_
      show V E _ m_ClassBook_visit _ 45 _ [] _
      refine V_vret d_ClassBook_visit_45 rfl ?_
      have fr2 : vFrB (hup h 19 (wK w - 1) (shr D m (cs R))) h_ := ⟨fun q c1 c2 _ _ => q2 q c1 c2, q3⟩
      refine ⟨rfl, fr1.tr fr2, hb.vf (fr1.tr fr2) (by rw [q2 _ (by omega) (by omega), hup_ne (by omega)]), q1, fun i hi => ?_⟩
      rw [q2 _ (by omega) (by omega), hup_same, upd_n (by omega)]
  | succ l ih =>
    intro h R b pre o f hb hw okw hT hpos hlen hsh hsv
    have hk6 := okw.2.1
    have ok := hb.2.1
    have hN := ok.1
    have h12 := hb.2.2.2.2.1.2
    have hR := hT.2.2.1
    have hbb := hT.2.2.2.2
    have hbl := bdg_le (w := wfr true w) h12
    have hlens := subs_len12 h12 hR
    obtain ⟨F, hF⟩ : ∃ F : Int32 → List (List Int32), F = fun S => if goS D (wfr true w) S b then (sq D (wfr true w) (l + 1) (dif R S) (b - prN D (wfr true w) S)).map (fun t => S :: t) else [] := ⟨_, rfl⟩
    have hsq : sq D (wfr true w) (l + 1 + 1) R b = (subs (dN D) R).flatMap F := by rw [hF, sq]
    rw [hsq]
    refine Cq_of2 ok_ClassBook_visit rfl (Nat.le_of_ble_eq_true rfl) (L := [some (.ref 20), some (.int (nI (l + 1 + 1))), some (.int R), some (.int (nI b)), some (.int (nI m)), none, none, none]) rfl ?_
    refine V_iload_n d_ClassBook_visit_0 rfl ?_
    refine V_iconst (v := 1) d_ClassBook_visit_1 (by decide) ?_
    refine V_icmp_gt (tgt := 46) d_ClassBook_visit_2 (by decide) (fun b2 => ?_) (fun b2 => ?_)
    · refine V_iload_n d_ClassBook_visit_46 rfl ?_
      refine V_istore d_ClassBook_visit_47 (by decide) ?_
      dsimp only [List.set]
      refine V_iload_n d_ClassBook_visit_49 rfl ?_
      refine V_callS1 d_ClassBook_visit_50 k_ClassBook_158 rfl (c_choices h h12 hR) rfl (by first | decide | omega) rfl (Nat.le_of_ble_eq_true rfl) ?_
      refine V_istore d_ClassBook_visit_53 (by decide) ?_
      dsimp only [List.set]
      refine V_iconst (v := 0) d_ClassBook_visit_55 (by decide) ?_
      refine V_istore d_ClassBook_visit_56 (by decide) ?_
      dsimp only [List.set]
      have loop : ∀ i, i ≤ (subs (dN D) R).length → ∀ (H : Hp) (S : Int32), vFrB h H → bkS H D (wfr true w) → svW H (lsF (fun t => vq D w m (pre ++ t)) (((subs (dN D) R).take i).flatMap F) o) (sdF mk (fun t => vq D w m (pre ++ t)) (((subs (dN D) R).take i).flatMap F) f) mk → (∀ j, j < pre.length → H 19 j = h 19 j) → (i < (subs (dN D) R).length → (subs (dN D) R)[i]? = some S) → V E (3 * (l + 1) + 8) m_ClassBook_visit (vsQ h D w m pre.length o f mk (fun t => vq D w m (pre ++ t)) ((subs (dN D) R).flatMap F)) 58 [some (.ref 20), some (.int (nI (l + 1 + 1))), some (.int R), some (.int (nI b)), some (.int (nI m)), some (.int S), some (.int (nI (subs (dN D) R).length)), some (.int (nI i))] [] H := by
        refine up_ind (subs (dN D) R).length ?_
        intro i hi ihi H S fr hbH hsvH hshH hS
        have hwH : LawW H w := hw.of (fun q _ _ => fr.1 q (by omega) (by omega) (by omega) (by omega))
        refine V_iload d_ClassBook_visit_58 rfl ?_
        refine V_iload d_ClassBook_visit_60 rfl ?_
        refine V_icmp_ge (tgt := 148) d_ClassBook_visit_62 (by decide) (fun b62 => ?_) (fun b62 => ?_)
        · have hii : i = (subs (dN D) R).length := ge_eq b62 rfl rfl (by omega) hi
          refine V_vret d_ClassBook_visit_148 rfl ?_
          rw [hii, List.take_length] at hsvH
          exact ⟨rfl, fr, hbH, hsvH, hshH⟩
        · have hil := nge_lt b62 rfl rfl (by omega) hi
          have hSi := hS hil
          have hmem := List.mem_of_getElem? hSi
          have hSin := subs_in hN hR hmem
          have ihi := ihi hil
          have htk : ((subs (dN D) R).take (i + 1)).flatMap F = ((subs (dN D) R).take i).flatMap F ++ F S := by
            rw [List.take_succ, hSi, List.flatMap_append]
            simp
          rw [htk, lsF_app, sdF_app] at ihi
          have next : ∀ H', vFrB h H' → bkS H' D (wfr true w) → svW H' (lsF (fun t => vq D w m (pre ++ t)) (F S) (lsF (fun t => vq D w m (pre ++ t)) (((subs (dN D) R).take i).flatMap F) o)) (sdF mk (fun t => vq D w m (pre ++ t)) (F S) (sdF mk (fun t => vq D w m (pre ++ t)) (((subs (dN D) R).take i).flatMap F) f)) mk → (∀ j, j < pre.length → H' 19 j = h 19 j) → V E (3 * (l + 1) + 8) m_ClassBook_visit (vsQ h D w m pre.length o f mk (fun t => vq D w m (pre ++ t)) ((subs (dN D) R).flatMap F)) 134 [some (.ref 20), some (.int (nI (l + 1 + 1))), some (.int R), some (.int (nI b)), some (.int (nI m)), some (.int S), some (.int (nI (subs (dN D) R).length)), some (.int (nI i))] [] H' := by
            intro H' fr' hb' hsv' hsh'
            refine V_iload d_ClassBook_visit_134 rfl ?_
            refine V_iload_n d_ClassBook_visit_136 rfl ?_
            refine V_callS1 d_ClassBook_visit_137 k_ClassBook_164 rfl (c_following _ S R) rfl (by first | decide | omega) rfl (Nat.le_of_ble_eq_true rfl) ?_
            refine V_istore d_ClassBook_visit_140 (by decide) ?_
            dsimp only [List.set]
            refine V_iincw (w := 1) d_ClassBook_visit_142 rfl (by decide) (by decide) ?_
            dsimp only [List.set]
            refine V_goto (tgt := 58) d_ClassBook_visit_145 (by decide) ?_
            rw [nI_1]
            refine ihi _ _ fr' hb' hsv' hsh' (fun hi1 => ?_)
            obtain ⟨T, a, hT1, ha, -⟩ := subs_get hN hR hi1
            rw [hT1, subs_chain hN hR ha i S T hSi hT1]
          have hwyl : wyN D (wfr true w) (l + 1 + 1) R b S ≤ 1400000 := by
            have h1 := ah_bd (w := wfr true w) h12 (show 1 ≤ l + 1 + 1 by omega) (by omega) hR b (i + 1)
            rw [ah_succ hSi] at h1
            omega
          refine V_aload_n d_ClassBook_visit_65 rfl ?_
          refine V_iload_n d_ClassBook_visit_66 rfl ?_
          refine V_iload_n d_ClassBook_visit_67 rfl ?_
          refine V_iload_n d_ClassBook_visit_68 rfl ?_
          refine V_iload d_ClassBook_visit_69 rfl ?_
          refine V_callV d_ClassBook_visit_71 k_ClassBook_161 rfl (c_with (by omega) (by omega) hbH hT hmem) (by first | rfl | assumption) rfl rfl (by first | decide | omega) rfl (Nat.le_of_ble_eq_true rfl) (fun v_ h_ q_ => ?_)
          obtain ⟨rfl, q1, q2⟩ := q_
          have fr1 := fr.tr (vFrB.tf q1)
          have hsv1 := hsvH.of (h' := h_) (q1.ne (by omega)) (q1.ne (by omega))
          have hsh1 : ∀ j, j < pre.length → h_ 19 j = h 19 j := fun j hj => by rw [q1.ne (by omega)]; exact hshH j hj
          have hwy : wyN D (wfr true w) (l + 1 + 1) R b S = (F S).length := by
            rw [hF]
            unfold wyN
            dsimp only
            by_cases c : goS D (wfr true w) S b = true
            · rw [if_pos c, if_pos (c := 2 ≤ l + 1 + 1 ∧ goS D (wfr true w) S b = true) ⟨by omega, c⟩, List.length_map, show l + 1 + 1 - 1 = l + 1 by omega]
            · rw [if_neg c, if_neg (c := 2 ≤ l + 1 + 1 ∧ goS D (wfr true w) S b = true) (fun z => c z.2), List.length_nil]
          show V E _ m_ClassBook_visit _ 74 _ [.int (nI (wyN D (wfr true w) (l + 1 + 1) R b S))] _
          refine V_if_le (tgt := 134) d_ClassBook_visit_74 (by decide) (fun b74 => ?_) (fun b74 => ?_)
          · have h0 := (le_nI (wyN D (wfr true w) (l + 1 + 1) R b S) 0 rfl rfl (by omega) (by decide)).mp b74
            have hnil : F S = [] := List.length_eq_zero_iff.mp (by omega)
            rw [hnil] at next
            exact next _ fr1 q2 hsv1 hsh1
          · have hp0 : 0 < wyN D (wfr true w) (l + 1 + 1) R b S := by
              rcases Nat.eq_zero_or_pos (wyN D (wfr true w) (l + 1 + 1) R b S) with z | z
              · exact absurd ((le_nI (wyN D (wfr true w) (l + 1 + 1) R b S) 0 rfl rfl (by omega) (by decide)).mpr (by omega)) b74
              · exact z
            have hg : goS D (wfr true w) S b = true := by
              apply Classical.byContradiction
              intro z
              unfold wyN at hp0
              rw [if_neg (fun y => z y.2)] at hp0
              omega
            have hFS : F S = (sq D (wfr true w) (l + 1) (dif R S) (b - prN D (wfr true w) S)).map (fun t => S :: t) := by
              rw [hF]
              dsimp only
              rw [if_pos hg]
            have hpos2 : 0 < (sq D (wfr true w) (l + 1) (dif R S) (b - prN D (wfr true w) S)).length := by
              rw [hwy, hFS, List.length_map] at hp0
              exact hp0
            have hpr : prN D (wfr true w) S ≤ b := by
              unfold goS at hg
              simp only [Bool.and_eq_true, decide_eq_true_eq] at hg
              exact hg.2
            have hmay : mayB D (wfr true w) (cs S) = true := by
              unfold goS at hg
              simp only [Bool.and_eq_true] at hg
              exact hg.1
            have hprl := prN_le D (wfr true w) S
            have hTn := okT_next hN hT hmem
            have hSc : S = cI (cs S) := cI_of hSin.1
            have hso := c_shareOf (E := E) (P := cs S) q2.1 ok hSin.2 hm
            rw [← hSc] at hso
            have hin : vp_in (nI (wK w - (l + 1 + 1))) 6 := vp_in_nI (by omega) (by omega)
            have hw1 : LawW h_ w := hw.of (fun q _ _ => fr1.1 q (by omega) (by omega) (by omega) (by omega))
            have hsl := slN_lt hN hSin
            have hp12 : 2 ^ dN D ≤ 2 ^ 12 := Nat.pow_le_pow_right (by omega) h12
            have hp12' : (2 : Nat) ^ 12 = 4096 := by decide
            have hin2 : vp_in (nI (slN (dN D) S)) 4096 := vp_in_nI (by omega) (by omega)
            refine V_aload_n d_ClassBook_visit_77 rfl ?_
            refine V_getR d_ClassBook_visit_78 f_ClassBook_23 rfl (by first | rfl | assumption) (by first | rfl | assumption) ?_
            refine V_getR d_ClassBook_visit_81 f_ClassBook_168 rfl (by first | rfl | assumption) (by first | rfl | assumption) ?_
            refine V_aload_n d_ClassBook_visit_84 rfl ?_
            refine V_getR d_ClassBook_visit_85 f_ClassBook_15 rfl (by first | rfl | assumption) (by first | rfl | assumption) ?_
            refine V_getI d_ClassBook_visit_88 f_ClassBook_78 rfl (by first | rfl | assumption) (by first | rfl | assumption) ?_
            refine V_iload_n d_ClassBook_visit_91 rfl ?_
            rw [hw1.1]
            refine V_isub d_ClassBook_visit_92 ?_
            rw [pk_sub (by omega)]
            refine V_aload_n d_ClassBook_visit_93 rfl ?_
            refine V_getR d_ClassBook_visit_94 f_ClassBook_23 rfl (by first | rfl | assumption) (by first | rfl | assumption) ?_
            refine V_iload d_ClassBook_visit_97 rfl ?_
            refine V_iload d_ClassBook_visit_99 rfl ?_
            refine V_callV1 d_ClassBook_visit_101 k_ClassBook_171 rfl (hso) (by first | rfl | assumption) rfl rfl (by first | decide | omega) rfl (Nat.le_of_ble_eq_true rfl) ?_
            refine V_iast d_ClassBook_visit_104 (by first | rfl | assumption) (by first | assumption | exact vp_in_nI (by omega) (by omega)) ?_
            refine V_aload_n d_ClassBook_visit_105 rfl ?_
            refine V_iload_n d_ClassBook_visit_106 rfl ?_
            refine V_iconst (v := 1) d_ClassBook_visit_107 (by decide) ?_
            refine V_isub d_ClassBook_visit_108 ?_
            refine V_iload_n d_ClassBook_visit_109 rfl ?_
            refine V_iload d_ClassBook_visit_110 rfl ?_
            refine V_iconst (v := -1) d_ClassBook_visit_112 (by decide) ?_
            refine V_ixor d_ClassBook_visit_113 ?_
            refine V_iand d_ClassBook_visit_114 ?_
            refine V_iload_n d_ClassBook_visit_115 rfl ?_
            refine V_aload_n d_ClassBook_visit_116 rfl ?_
            refine V_getR d_ClassBook_visit_117 f_ClassBook_34 rfl (by first | rfl | assumption) (by first | rfl | assumption) ?_
            refine V_iload d_ClassBook_visit_120 rfl ?_
            refine V_aload_n d_ClassBook_visit_122 rfl ?_
            refine V_getI d_ClassBook_visit_123 f_ClassBook_57 rfl (by first | rfl | assumption) (by first | rfl | assumption) ?_
            rw [nI_clamp (by omega)]
            have fr2 : vFrB h_ (hup h_ 19 (wK w - (l + 1 + 1)) (shr D m (cs S))) := vFrB.sh
            have hb2 := q2.vf fr2 (hup_ne (by omega))
            have hw2 : LawW (hup h_ 19 (wK w - (l + 1 + 1)) (shr D m (cs S))) w := hw1.of (fun q _ _ => hup_ne (by omega))
            have hsv2 := hsv1.of (h' := hup h_ 19 (wK w - (l + 1 + 1)) (shr D m (cs S))) (hup_ne (by omega)) (hup_ne (by omega))
            rw [show (hup h_ 19 (wK w - (l + 1 + 1)) (shr D m (cs S))) 20 11 = nI (30 - dN D) from hb2.2.2.2.2.2.2.1]
            refine V_iushr d_ClassBook_visit_126 rfl ?_
            rw [ush_slot hN hSin]
            refine V_iald d_ClassBook_visit_127 (by first | rfl | assumption) (by first | assumption | exact vp_in_nI (by omega) (by omega)) ?_
            rw [nI_clamp (by omega), prc_at h12 hb2.2.2.2.2.2.2.2.2.1 hSin, show prI D (wfr true w) S = nI (prN D (wfr true w) S) from by unfold prI; rw [if_pos hmay]]
            refine V_isub d_ClassBook_visit_128 ?_
            refine V_iload d_ClassBook_visit_129 rfl ?_
            rw [pk_sub hpr, show nI (l + 1 + 1) - 1 = nI (l + 1) from nI_pred (l + 1)]
            have hpl : (pre ++ [S]).length = pre.length + 1 := by simp
            have hcv := ih (pre := pre ++ [S]) hb2 hw2 okw hTn hpos2 (by omega) (fun j hj => by
              rw [hup_same]
              by_cases c : j = wK w - (l + 1 + 1)
              · have : j = pre.length := by omega
                rw [c, upd_s, ← c, this, gD_app_r]
              · rw [upd_n c, gD_app_l (by omega), hsh1 j (by omega)]
                exact hsh j (by omega)) hsv2
            refine V_callV d_ClassBook_visit_131 k_ClassBook_131 rfl (hcv) (by first | rfl | assumption) rfl rfl (by first | decide | omega) rfl (Nat.le_of_ble_eq_true rfl) (fun v_ h_ q_ => ?_)
            obtain ⟨rfl, t1, t2, t3, t4⟩ := q_
            refine next _ (fr1.tr (fr2.tr t1)) t2 ?_ (fun j hj => ?_)
            · rw [hFS, lsF_map, sdF_map]
              have ev : (fun q => (fun t => vq D w m (pre ++ t)) (S :: q)) = fun t => vq D w m ((pre ++ [S]) ++ t) := by
                funext q
                dsimp only
                rw [List.append_assoc, List.singleton_append]
              rw [ev]
              exact t3
            · rw [t4 j (by omega), hup_same, upd_n (by omega)]
              exact hsh1 j hj
      have h0 := loop 0 (Nat.zero_le _) h R (vFrB.rf h) hb hsv (fun _ _ => rfl) (fun h1 => by
        obtain ⟨T, a, hT1, ha, -⟩ := subs_get hN hR h1
        exact subs_head hN hR ha)
      exact h0
    · exact absurd ((lt_nI 1 (l + 1 + 1) rfl rfl (by omega) (by omega)).mpr (by omega)) b2
