/-! step() -/
noncomputable def opStep (S : ST) (s : Int32) : Int32 × ST := if dN S.1 = 0 then (-5, S) else if brk S.1 S.2.1 S.2.2.1 = 0 then ((if (stpS S.1 S.2.1 S.2.2.1 s).1 then 1 else 0), (S.1, S.2.1, (stpS S.1 S.2.1 S.2.2.1 s).2.1, S.2.2.2)) else (-3, S)
theorem MoW_w {h h' : Hp} {S : ST} (hm : MoW h S) (fr : wFr h h') {ds : Nat → Nat} (hd : MoDs h' ds) : MoW h' (S.1, S.2.1, ds, S.2.2.2) := by
  refine ⟨hm.1.of fr.keep, hm.2.1.of fr.keep, hd, ?_, fun x hx i hi => ?_⟩
  · rw [fr.2 27 (by omega) (by omega) (by omega) (by omega) (by omega)]
    exact hm.2.2.2.1
  · rw [fr.1 _ (by omega) (by omega) (by omega) (by omega) (by omega) (by omega) (by omega)]
    exact hm.2.2.2.2 x hx i hi
theorem c_Mstep {E : Wd} {h : Hp} {S : ST} (hm : MoW h S) (ok : okST S) (s : Int32) : MC E 6 m_Mo_step [.int s] h (opStep S s) := by
  have hn := ok.1.1
  refine Cq_of2 ok_Mo_step rfl (Nat.le_of_ble_eq_true rfl) (L := [some (.ref 41), some (.int s)]) rfl ?_
  refine V_aload_n d_Mo_step_0 rfl ?_
  refine V_getI d_Mo_step_1 f_Mo_91 rfl (by first | rfl | assumption) (by first | rfl | assumption) ?_
  rw [hm.1.1]
  refine V_if_ne (tgt := 10) d_Mo_step_4 (by decide) (fun b4 => ?_) (fun b4 => ?_)
  · have h0 : ¬ dN S.1 = 0 := fun q => b4 (by rw [q]; rfl)
    refine V_aload_n d_Mo_step_10 rfl ?_
    refine V_iconst (v := 0) d_Mo_step_11 (by decide) ?_
    refine V_callV d_Mo_step_12 k_Mo_139 rfl (c_Mbroken hm.1 ok.1 hm.2.1 ok.2.1 hm.2.2.1 false) (by first | rfl | assumption) rfl rfl (by first | decide | omega) rfl (Nat.le_of_ble_eq_true rfl) (fun v_ h_ q_ => ?_)
    obtain ⟨rfl, g, hg, rfl⟩ := q_
    show V E 6 m_Mo_step _ 15 _ [.int (nI (brk S.1 (wfr false S.2.1) S.2.2.1))] _
    rw [wfr_f]
    have hb6 : brk S.1 S.2.1 S.2.2.1 ≤ 6 := by
      by_cases q : brk S.1 S.2.1 S.2.2.1 = 0
      · omega
      · exact (brk_some rfl q).1
    refine V_if_eq (tgt := 21) d_Mo_step_15 (by decide) (fun b15 => ?_) (fun b15 => ?_)
    · have hb0 : brk S.1 S.2.1 S.2.2.1 = 0 := (eq_nI _ 0 rfl rfl (by omega) (by decide)).mp b15
      have opE : opStep S s = ((if (stpS S.1 S.2.1 S.2.2.1 s).1 then 1 else 0), (S.1, S.2.1, (stpS S.1 S.2.1 S.2.2.1 s).2.1, S.2.2.2)) := by
        unfold opStep
        rw [if_neg h0, if_pos hb0]
      rw [opE]
      refine V_aload_n d_Mo_step_21 rfl ?_
      refine V_iload_n d_Mo_step_22 rfl ?_
      refine V_put (ty := .int) d_Mo_step_23 f_Mo_192 rfl (by first | rfl | assumption) (by first | rfl | assumption) (by decide +kernel) (by first | rfl | assumption) (by first | rfl | assumption) ?_
      refine V_aload_n d_Mo_step_26 rfl ?_
      have fr1 : wFr h (hup (hrow h 41 g) 41 19 s) := (wFr.g hg).tr (wFr.fld (Or.inl rfl))
      have es : (hup (hrow h 41 g) 41 19 s) 41 19 = s := by rw [hup_same, upd_s]
      have ed : (hup (hrow h 41 g) 41 19 s) 52 = h 52 := by rw [hup_ne (by omega), hrow_ne (by omega)]
      generalize (hup (hrow h 41 g) 41 19 s) = H at *
      have hc := c_stepOn (E := E) (hm.1.of fr1.keep) ok.1 (hm.2.1.of fr1.keep) ok.2.1 (hm.2.2.1.of ed)
      rw [es] at hc
      refine V_callV d_Mo_step_27 k_Mo_209 rfl (hc) (by first | rfl | assumption) rfl rfl (by first | decide | omega) rfl (Nat.le_of_ble_eq_true rfl) (fun v_ h_ q_ => ?_)
      obtain ⟨rfl, hd2, -, fr2⟩ := q_
      have fr := fr1.tr fr2
      have low : ∀ q, q < 41 → h_ q = h q := fun q hq => fr.1 q (by omega) (by omega) (by omega) (by omega) (by omega) (by omega) (by omega)
      show V E 6 m_Mo_step _ 30 _ [.int (if (stpS S.1 S.2.1 S.2.2.1 s).1 then 1 else 0)] _
      refine V_if_eq (tgt := 37) d_Mo_step_30 (by decide) (fun b30 => ?_) (fun b30 => ?_)
      · rw [b2i.mp b30]
        refine V_iconst (v := 0) d_Mo_step_37 (by decide) ?_
        refine V_iret d_Mo_step_38 rfl ?_
        exact ⟨rfl, MoW_w hm fr hd2, low⟩
      · rw [b2in.mp b30]
        refine V_iconst (v := 1) d_Mo_step_33 (by decide) ?_
        refine V_goto (tgt := 38) d_Mo_step_34 (by decide) ?_
        refine V_iret d_Mo_step_38 rfl ?_
        exact ⟨rfl, MoW_w hm fr hd2, low⟩
    · have hbn : ¬ brk S.1 S.2.1 S.2.2.1 = 0 := fun q => b15 (by rw [q]; rfl)
      refine V_bipush (v := -3) d_Mo_step_18 (by decide) ?_
      refine V_iret d_Mo_step_20 rfl ?_
      have opE : opStep S s = (-3, S) := by
        unfold opStep
        rw [if_neg h0, if_neg hbn]
      rw [opE]
      exact ⟨rfl, MoW_g hm hg, fun q hq => hrow_ne (by omega)⟩
  · have h0 : dN S.1 = 0 := (eq_nI (dN S.1) 0 rfl rfl (by omega) (by decide)).mp b4
    refine V_bipush (v := -5) d_Mo_step_7 (by decide) ?_
    refine V_iret d_Mo_step_9 rfl ?_
    have opE : opStep S s = (-5, S) := by
      unfold opStep
      rw [if_pos h0]
    rw [opE]
    exact ⟨rfl, hm, fun _ _ => rfl⟩
