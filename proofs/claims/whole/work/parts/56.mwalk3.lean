noncomputable def opWalk (S : ST) (n s m : Int32) : Int32 × ST := @ite _ (inR n 1 200 ∧ inR m 0 6) (Classical.propDecidable _) (if dN S.1 = 0 then (-5, S) else if brk S.1 S.2.1 S.2.2.1 = 0 then ((wkN S.1 S.2.1 m.toNatClampNeg (val S.1 S.2.1 S.2.2.1 m.toNatClampNeg) S.2.2.1 s n.toNatClampNeg).2.2 0, (S.1, S.2.1, S.2.2.1, some (wkN S.1 S.2.1 m.toNatClampNeg (val S.1 S.2.1 S.2.2.1 m.toNatClampNeg) S.2.2.1 s n.toNatClampNeg).2.2)) else (-3, S)) (-1, S)
theorem opWalk_no {S : ST} {n s m : Int32} (h : ¬ (inR n 1 200 ∧ inR m 0 6)) : opWalk S n s m = (-1, S) := @if_neg _ (Classical.propDecidable _) h _ _ _
theorem opWalk_yes {S : ST} {n s m : Int32} (h : inR n 1 200 ∧ inR m 0 6) : opWalk S n s m = if dN S.1 = 0 then (-5, S) else if brk S.1 S.2.1 S.2.2.1 = 0 then ((wkN S.1 S.2.1 m.toNatClampNeg (val S.1 S.2.1 S.2.2.1 m.toNatClampNeg) S.2.2.1 s n.toNatClampNeg).2.2 0, (S.1, S.2.1, S.2.2.1, some (wkN S.1 S.2.1 m.toNatClampNeg (val S.1 S.2.1 S.2.2.1 m.toNatClampNeg) S.2.2.1 s n.toNatClampNeg).2.2)) else (-3, S) := @if_pos _ (Classical.propDecidable _) h _ _ _
/-- the rows of the walk after i steps -/
def wkI (h H : Hp) (D : LD) (ds : Nat → Nat) (z : (Nat → Nat) × Int32 × (Nat → Int32)) : Prop := gFr h H ∧ MoDs H z.1 ∧ H 41 19 = z.2.1 ∧ (∀ j, j < 6 → H 59 j = z.2.2 j) ∧ ∀ j, j < dN D → H 58 j = nI (ds j)
theorem wk_loop {E : Wd} {h : Hp} {S : ST} (hm : MoW h S) (ok : okST S) {n m : Nat} (hn : n ≤ 200) (hm6 : m ≤ 6) {s0 s own : Int32} {Q : Option Value → Hp → Prop}
    (k : ∀ H u6, wkI h H S.1 S.2.2.1 (wkN S.1 S.2.1 m own S.2.2.1 s n) → V E 6 m_Mo_walk Q 253 [some (.ref 41), some (.int (nI n)), some (.int s0), some (.int (nI m)), some (.int own), some (.int (nI n)), u6] [] H) :
    ∀ i, i ≤ n → ∀ H u6, wkI h H S.1 S.2.2.1 (wkN S.1 S.2.1 m own S.2.2.1 s i) → V E 6 m_Mo_walk Q 115 [some (.ref 41), some (.int (nI n)), some (.int s0), some (.int (nI m)), some (.int own), some (.int (nI i)), u6] [] H := by
  refine up_ind n ?_
  intro i hi ih H u6 hI
  refine V_iload d_Mo_walk_115 rfl ?_
  refine V_iload_n d_Mo_walk_117 rfl ?_
  refine V_icmp_ge (tgt := 253) d_Mo_walk_118 (by decide) (fun b118 => ?_) (fun b118 => ?_)
  · obtain rfl := ge_eq b118 rfl rfl (by omega) hi
    exact k H u6 hI
  · have hin' := nge_lt b118 rfl rfl (by omega) hi
    have ih := ih hin'
    obtain ⟨fr, hd, hs, hseen, hbest⟩ := hI
    have okz := wkN_ok (m := m) (own := own) (s := s) ok.1 ok.2.2.1 i
    obtain ⟨z, hz⟩ : ∃ z, z = wkN S.1 S.2.1 m own S.2.2.1 s i := ⟨_, rfl⟩
    have hz1 : wkN S.1 S.2.1 m own S.2.2.1 s (i + 1) = ((stpS S.1 S.2.1 z.1 z.2.1).2.1, (stpS S.1 S.2.1 z.1 z.2.1).2.2, sgt own (val S.1 S.2.1 (stpS S.1 S.2.1 z.1 z.2.1).2.1 m) i (stpS S.1 S.2.1 z.1 z.2.1).1 z.2.2) := by rw [hz]; rfl
    rw [hz1] at ih
    rw [← hz] at hd hs hseen okz
    have in5 : vp_in (5 : Int32) 6 := vp_in_nI (n := 5) (by omega) (by omega)
    have hl : MoLand H S.1 := hm.1.of fr.keep
    have hw : MoLaw H S.2.1 := hm.2.1.of fr.keep
    refine V_aload_n d_Mo_walk_121 rfl ?_
    refine V_getR d_Mo_walk_122 f_Mo_72 rfl (by first | rfl | assumption) (by first | rfl | assumption) ?_
    refine V_iconst (v := 5) d_Mo_walk_125 (by decide) ?_
    refine V_dup2 d_Mo_walk_126 rfl rfl ?_
    refine V_iald d_Mo_walk_127 (by first | rfl | assumption) (by first | assumption | exact vp_in_nI (by omega) (by omega)) ?_
    refine V_aload_n d_Mo_walk_128 rfl ?_
    have hc := c_stepOn (E := E) hl ok.1 hw ok.2.1 hd
    rw [hs] at hc
    refine V_callV d_Mo_walk_129 k_Mo_209 rfl (hc) (by first | rfl | assumption) rfl rfl (by first | decide | omega) rfl (Nat.le_of_ble_eq_true rfl) (fun v_ h_ q_ => ?_)
    obtain ⟨rfl, hd2, hs2, fr2⟩ := q_
    have okr := stpS_ok ok.1 okz z.2.1
    generalize stpS S.1 S.2.1 z.1 z.2.1 = r at *
    have fr3 := fr.tr fr2.gf
    have eseen : h_ 59 = H 59 := fr2.1 _ (by omega) (by omega) (by omega) (by omega) (by omega) (by omega) (by omega)
    have ebest : h_ 58 = H 58 := fr2.1 _ (by omega) (by omega) (by omega) (by omega) (by omega) (by omega) (by omega)
    have e5 : H 59 5 = z.2.2 5 := hseen 5 (by omega)
    -- from the sum on
    have rest : V E 6 m_Mo_walk Q 140 [some (.ref 41), some (.int (nI n)), some (.int s0), some (.int (nI m)), some (.int own), some (.int (nI i)), u6] [.int (if r.1 then 1 else 0), .int (H 59 5), .int 5, .ref 59] h_ := by
      refine V_iadd d_Mo_walk_140 ?_
      refine V_iast d_Mo_walk_141 (by first | rfl | assumption) (by first | assumption | exact vp_in_nI (by omega) (by omega)) ?_
      rw [show hup h_ 59 (Int32.toNatClampNeg 5) (H 59 5 + (if r.1 then 1 else 0)) = hrow h_ 59 (sg1 r.1 (H 59)) from by rw [hup_row, eseen]; rfl]
      have frS : gFr h_ (hrow h_ 59 (sg1 r.1 (H 59))) := gFr.row (Or.inr (Or.inr rfl))
      have frA := fr3.tr frS
      refine V_aload_n d_Mo_walk_142 rfl ?_
      refine V_iload_n d_Mo_walk_143 rfl ?_
      refine V_callV1 d_Mo_walk_144 k_Mo_150 rfl (c_value (m := m) (hm.1.of frA.keep) ok.1 (hm.2.1.of frA.keep) ok.2.1 (hd2.of (hrow_ne (by omega))) okr hm6) (by first | rfl | assumption) rfl rfl (by first | decide | omega) rfl (Nat.le_of_ble_eq_true rfl) ?_
      refine V_istore d_Mo_walk_147 (by decide) ?_
      dsimp only [List.set]
      refine wk_seen (by omega) (ih _ _ ⟨fr3.tr (gFr.row (Or.inr (Or.inr rfl))), hd2.of (hrow_ne (by omega)), by rw [hrow_ne (by omega)]; exact hs2, fun j hj => ?_, fun j hj => ?_⟩)
      · rw [hrow_same]
        have c0 : ∀ c (f g : Nat → Int32), (∀ j, j < 6 → f j = g j) → ∀ j, j < 6 → sg1 c f j = sg1 c g j := by
          intro c f g e j hj
          unfold sg1 upd
          by_cases q : j = 5
          · rw [if_pos q, if_pos q, e 5 (by omega)]
          · rw [if_neg q, if_neg q, e j hj]
        have c2 : ∀ v (f g : Nat → Int32), (∀ j, j < 6 → f j = g j) → ∀ j, j < 6 → sg2 own v f j = sg2 own v g j := by
          intro v f g e j hj
          have : whS own v < 6 := by unfold whS; split; omega; split <;> omega
          unfold sg2 upd
          by_cases q : j = whS own v
          · rw [if_pos q, if_pos q, e _ this]
          · rw [if_neg q, if_neg q, e j hj]
        have c3 : ∀ v (f g : Nat → Int32), (∀ j, j < 6 → f j = g j) → ∀ j, j < 6 → sg3 v i f j = sg3 v i g j := by
          intro v f g e j hj
          unfold sg3 upd
          by_cases q : j = 3
          · rw [if_pos q, if_pos q, e 3 (by omega)]
          · rw [if_neg q, if_neg q, e j hj]
        have c4 : ∀ v (f g : Nat → Int32), (∀ j, j < 6 → f j = g j) → ∀ j, j < 6 → sg4 v i f j = sg4 v i g j := by
          intro v f g e j hj
          unfold sg4 upd
          by_cases q : j = 4
          · rw [if_pos q, if_pos q, e 4 (by omega)]
          · rw [if_neg q, if_neg q, e j hj]
        exact c4 _ _ _ (c3 _ _ _ (c2 _ _ _ (c0 _ _ _ hseen))) j hj
      · rw [hrow_ne (by omega), ebest]; exact hbest j hj
    show V E 6 m_Mo_walk _ 132 _ [.int (if r.1 then 1 else 0), .int (H 59 5), .int 5, .ref 59] h_
    refine V_if_eq (tgt := 139) d_Mo_walk_132 (by decide) (fun b132 => ?_) (fun b132 => ?_)
    · rw [b2i.mp b132] at rest
      refine V_iconst (v := 0) d_Mo_walk_139 (by decide) ?_
      exact rest
    · rw [b2in.mp b132] at rest
      refine V_iconst (v := 1) d_Mo_walk_135 (by decide) ?_
      refine V_goto (tgt := 140) d_Mo_walk_136 (by decide) ?_
      exact rest
