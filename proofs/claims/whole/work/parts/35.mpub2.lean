/-! the model's calls, on -/
def okBo (D : LD) (a b l : Int32) : Prop := isPl (dN D) a = true ∧ isPl (dN D) b = true ∧ a ≠ b ∧ dNb D a.toNatClampNeg b.toNatClampNeg = false ∧ inR l 1 100
noncomputable def opBorder (S : ST) (a b l : Int32) : Int32 × ST := @ite _ (okBo S.1 a b l) (Classical.propDecidable _) (if dB S.1 = 100 then (-2, S) else (nI (dB S.1), (addBo S.1 a.toNatClampNeg b.toNatClampNeg l, S.2))) (-1, S)
theorem opBorder_no {S : ST} {a b l : Int32} (h : ¬ okBo S.1 a b l) : opBorder S a b l = (-1, S) := @if_neg _ (Classical.propDecidable _) h _ _ _
theorem opBorder_yes {S : ST} {a b l : Int32} (h : okBo S.1 a b l) : opBorder S a b l = if dB S.1 = 100 then (-2, S) else (nI (dB S.1), (addBo S.1 a.toNatClampNeg b.toNatClampNeg l, S.2)) := @if_pos _ (Classical.propDecidable _) h _ _ _
theorem c_Mborder {E : Wd} {h : Hp} {S : ST} (hm : MoW h S) (ok : okST S) (a b l : Int32) : MC E 1 m_Mo_border [.int a, .int b, .int l] h (opBorder S a b l) := by
  have hn := ok.1.1
  have hb100 := ok.1.2.1
  have no : ¬ okBo S.1 a b l → V E 1 m_Mo_border (fun r h' => r = some (.int (opBorder S a b l).1) ∧ MoW h' (opBorder S a b l).2 ∧ ∀ q, q < 41 → h' q = h q) 44 [some (.ref 41), some (.int a), some (.int b), some (.int l)] [] h := by
    intro hno
    rw [opBorder_no hno]
    refine V_iconst (v := -1) d_Mo_border_44 (by decide) ?_
    refine V_iret d_Mo_border_45 rfl ?_
    exact ⟨rfl, hm, fun _ _ => rfl⟩
  refine Cq_of2 ok_Mo_border rfl (Nat.le_of_ble_eq_true rfl) (L := [some (.ref 41), some (.int a), some (.int b), some (.int l)]) rfl ?_
  refine V_aload_n d_Mo_border_0 rfl ?_
  refine V_iload_n d_Mo_border_1 rfl ?_
  refine V_callV1 d_Mo_border_2 k_Mo_94 rfl (c_isPlace hm.1 ok.1 a) (by first | rfl | assumption) rfl rfl (by first | decide | omega) rfl (Nat.le_of_ble_eq_true rfl) ?_
  refine V_if_eq (tgt := 44) d_Mo_border_5 (by decide) (fun b5 => ?_) (fun b5 => ?_)
  · exact no (fun q => by have q1 := q.1; rw [b2i.mp b5] at q1; cases q1)
  · obtain ⟨i, hi, rfl⟩ := isPl_iff.mp (b2in.mp b5)
    refine V_aload_n d_Mo_border_8 rfl ?_
    refine V_iload_n d_Mo_border_9 rfl ?_
    refine V_callV1 d_Mo_border_10 k_Mo_94 rfl (c_isPlace hm.1 ok.1 b) (by first | rfl | assumption) rfl rfl (by first | decide | omega) rfl (Nat.le_of_ble_eq_true rfl) ?_
    refine V_if_eq (tgt := 44) d_Mo_border_13 (by decide) (fun b13 => ?_) (fun b13 => ?_)
    · exact no (fun q => by have q1 := q.2.1; rw [b2i.mp b13] at q1; cases q1)
    · obtain ⟨j, hj, rfl⟩ := isPl_iff.mp (b2in.mp b13)
      have ei : (nI i).toNatClampNeg = i := nI_clamp (by omega)
      have ej : (nI j).toNatClampNeg = j := nI_clamp (by omega)
      have hini : vp_in (nI i) 30 := vp_in_nI (by omega) (by omega)
      have hinj : vp_in (nI j) 30 := vp_in_nI (by omega) (by omega)
      obtain ⟨l1, l2, l3, l4, l5⟩ := hm.1
      refine V_iload_n d_Mo_border_16 rfl ?_
      refine V_iload_n d_Mo_border_17 rfl ?_
      refine V_icmp_eq (tgt := 44) d_Mo_border_18 (by decide) (fun b18 => ?_) (fun b18 => ?_)
      · exact no (fun q => q.2.2.1 b18)
      · have hij : i ≠ j := fun q => b18 (by rw [q])
        refine V_aload_n d_Mo_border_21 rfl ?_
        refine V_getR d_Mo_border_22 f_Mo_31 rfl (by first | rfl | assumption) (by first | rfl | assumption) ?_
        refine V_iload_n d_Mo_border_25 rfl ?_
        refine V_iald d_Mo_border_26 (by first | rfl | assumption) (by first | assumption | exact vp_in_nI (by omega) (by omega)) ?_
        refine V_iload_n d_Mo_border_27 rfl ?_
        rw [ei, l5 i (by omega)]
        refine V_callS1 d_Mo_border_28 k_Mo_98 rfl (c_Mhas h _ (show j < 32 by omega)) rfl (by first | decide | omega) rfl (Nat.le_of_ble_eq_true rfl) ?_
        rw [mI_b (by omega)]
        refine V_if_ne (tgt := 44) d_Mo_border_31 (by decide) (fun b31 => ?_) (fun b31 => ?_)
        · refine no (fun q => ?_)
          have := q.2.2.2.1
          rw [ei, ej, b2in.mp b31] at this
          cases this
        · refine V_iload_n d_Mo_border_34 rfl ?_
          refine V_iconst (v := 1) d_Mo_border_35 (by decide) ?_
          refine V_bipush (v := 100) d_Mo_border_36 (by decide) ?_
          refine V_callS1 d_Mo_border_38 k_Mo_87 rfl (c_Min h _ _ _) rfl (by first | decide | omega) rfl (Nat.le_of_ble_eq_true rfl) ?_
          refine V_if_ne (tgt := 46) d_Mo_border_41 (by decide) (fun b41 => ?_) (fun b41 => ?_)
          · have hok : okBo S.1 (nI i) (nI j) l := ⟨b2in.mp b5, b2in.mp b13, b18, by rw [ei, ej]; exact b2i.mp b31, p2in.mp b41⟩
            rw [opBorder_yes hok, ei, ej]
            refine V_aload_n d_Mo_border_46 rfl ?_
            refine V_getI d_Mo_border_47 f_Mo_102 rfl (by first | rfl | assumption) (by first | rfl | assumption) ?_
            rw [l2]
            refine V_bipush (v := 100) d_Mo_border_50 (by decide) ?_
            refine V_icmp_ne (tgt := 58) d_Mo_border_52 (by decide) (fun b52 => ?_) (fun b52 => ?_)
            · have hne : ¬ dB S.1 = 100 := fun q => b52 (by rw [q]; rfl)
              rw [if_neg hne]
              have hin : vp_in (nI (dB S.1)) 100 := vp_in_nI (by omega) (by omega)
              refine V_aload_n d_Mo_border_58 rfl ?_
              refine V_getR d_Mo_border_59 f_Mo_22 rfl (by first | rfl | assumption) (by first | rfl | assumption) ?_
              refine V_aload_n d_Mo_border_62 rfl ?_
              refine V_getI d_Mo_border_63 f_Mo_102 rfl (by first | rfl | assumption) (by first | rfl | assumption) ?_
              rw [l2]
              refine V_iload_n d_Mo_border_66 rfl ?_
              refine V_iast d_Mo_border_67 (by first | rfl | assumption) (by first | assumption | exact vp_in_nI (by omega) (by omega)) ?_
              refine V_aload_n d_Mo_border_68 rfl ?_
              refine V_getR d_Mo_border_69 f_Mo_25 rfl (by first | rfl | assumption) (by first | rfl | assumption) ?_
              refine V_aload_n d_Mo_border_72 rfl ?_
              refine V_getI d_Mo_border_73 f_Mo_102 rfl (by first | rfl | assumption) (by first | rfl | assumption) ?_
              rw [hup_ne (by omega), l2]
              refine V_iload_n d_Mo_border_76 rfl ?_
              refine V_iast d_Mo_border_77 (by first | rfl | assumption) (by first | assumption | exact vp_in_nI (by omega) (by omega)) ?_
              refine V_aload_n d_Mo_border_78 rfl ?_
              refine V_getR d_Mo_border_79 f_Mo_28 rfl (by first | rfl | assumption) (by first | rfl | assumption) ?_
              refine V_aload_n d_Mo_border_82 rfl ?_
              refine V_getI d_Mo_border_83 f_Mo_102 rfl (by first | rfl | assumption) (by first | rfl | assumption) ?_
              rw [hup_ne (by omega), hup_ne (by omega), l2]
              refine V_iload_n d_Mo_border_86 rfl ?_
              refine V_iast d_Mo_border_87 (by first | rfl | assumption) (by first | assumption | exact vp_in_nI (by omega) (by omega)) ?_
              refine V_aload_n d_Mo_border_88 rfl ?_
              refine V_getR d_Mo_border_89 f_Mo_31 rfl (by first | rfl | assumption) (by first | rfl | assumption) ?_
              refine V_iload_n d_Mo_border_92 rfl ?_
              refine V_dup2 d_Mo_border_93 rfl rfl ?_
              refine V_iald d_Mo_border_94 (by first | rfl | assumption) (by first | assumption | exact vp_in_nI (by omega) (by omega)) ?_
              refine V_iconst (v := 1) d_Mo_border_95 (by decide) ?_
              refine V_iload_n d_Mo_border_96 rfl ?_
              refine V_ishl d_Mo_border_97 ?_
              refine V_ior d_Mo_border_98 ?_
              refine V_iast d_Mo_border_99 (by first | rfl | assumption) (by first | assumption | exact vp_in_nI (by omega) (by omega)) ?_
              refine V_aload_n d_Mo_border_100 rfl ?_
              refine V_getR d_Mo_border_101 f_Mo_31 rfl (by first | rfl | assumption) (by first | rfl | assumption) ?_
              refine V_iload_n d_Mo_border_104 rfl ?_
              refine V_dup2 d_Mo_border_105 rfl rfl ?_
              refine V_iald d_Mo_border_106 (by first | rfl | assumption) (by first | assumption | exact vp_in_nI (by omega) (by omega)) ?_
              refine V_iconst (v := 1) d_Mo_border_107 (by decide) ?_
              refine V_iload_n d_Mo_border_108 rfl ?_
              refine V_ishl d_Mo_border_109 ?_
              refine V_ior d_Mo_border_110 ?_
              refine V_iast d_Mo_border_111 (by first | rfl | assumption) (by first | assumption | exact vp_in_nI (by omega) (by omega)) ?_
              refine V_aload_n d_Mo_border_112 rfl ?_
              refine V_dup d_Mo_border_113 rfl ?_
              refine V_getI d_Mo_border_114 f_Mo_102 rfl (by first | rfl | assumption) (by first | rfl | assumption) ?_
              refine V_iconst (v := 1) d_Mo_border_117 (by decide) ?_
              refine V_iadd d_Mo_border_118 ?_
              refine V_put (ty := .int) d_Mo_border_119 f_Mo_102 rfl (by first | rfl | assumption) (by first | rfl | assumption) (by decide +kernel) (by first | rfl | assumption) (by first | rfl | assumption) ?_
              refine V_aload_n d_Mo_border_122 rfl ?_
              refine V_getI d_Mo_border_123 f_Mo_102 rfl (by first | rfl | assumption) (by first | rfl | assumption) ?_
              refine V_iconst (v := 1) d_Mo_border_126 (by decide) ?_
              refine V_isub d_Mo_border_127 ?_
              refine V_iret d_Mo_border_128 rfl ?_
              rw [nI_clamp (by omega), ei, ej]
              refine ⟨?_, ⟨⟨?_, ?_, fun p hp => ?_, fun c hc => ?_, fun x hx => ?_⟩, ?_, ?_, ?_, fun f hf i hi => ?_⟩, fun q hq => ?_⟩
              · simp [hup, upd, l2, Int32.add_sub_cancel]
              · simp [hup, upd]
                exact l1
              · simp [hup, upd, l2, nI_1]
                rfl
              · simp [hup, upd]
                exact l3 p hp
              · have hc : c < dB S.1 + 1 := hc
                by_cases h1 : c = dB S.1
                · subst h1
                  simp [hup, upd]
                  exact ⟨congrArg nI (updA_same _ _ _).symm, congrArg nI (updA_same _ _ _).symm, (updA_same _ _ _).symm⟩
                · obtain ⟨a1, a2, a3⟩ := l4 c (by omega)
                  simp [hup, upd, h1]
                  exact ⟨a1.trans (congrArg nI (updA_ne h1).symm), a2.trans (congrArg nI (updA_ne h1).symm), a3.trans (updA_ne h1).symm⟩
              · have e : ∀ x y, y < 30 → mI (dNb S.1 x) ||| (1 : Int32) <<< (nI y &&& 31) = mI (fun j => dNb S.1 x j || decide (j = y)) := by
                  intro x y hy
                  rw [shl1 y hy, mI_or]
                simp [hup, upd, Ne.symm hij]
                by_cases h1 : x = j
                · subst h1
                  rw [if_pos rfl, l5 x hx, e x i (by omega)]
                  refine mI_cong (fun z hz => ?_)
                  rw [dNb_add]
                  by_cases h2 : z = i
                  · subst h2; simp
                  · simp [h2, hij, Ne.symm h2]
                · rw [if_neg h1]
                  by_cases h2 : x = i
                  · subst h2
                    rw [if_pos rfl, l5 x hx, e x j (by omega)]
                    refine mI_cong (fun z hz => ?_)
                    rw [dNb_add]
                    by_cases h3 : z = j
                    · subst h3; simp
                    · simp [h3, Ne.symm h3, Ne.symm h1]
                  · rw [if_neg h2, l5 x hx]
                    refine mI_cong (fun z hz => ?_)
                    rw [dNb_add]
                    simp [Ne.symm h2, Ne.symm h1]
              · obtain ⟨w1, w2, w3, w4, w5⟩ := hm.2.1
                refine ⟨?_, ?_, ?_, fun t ht => ?_, fun p hp => ?_⟩
                · simp [hup, upd]; exact w1
                · simp [hup, upd]; exact w2
                · simp [hup, upd]; exact w3
                · simp [hup, upd]; exact w4 t ht
                · simp [hup, upd]; exact w5 p hp
              · intro j hj
                simp [hup, upd]
                exact hm.2.2.1 j hj
              · simp [hup, upd]
                exact hm.2.2.2.1
              · simp [hup, upd]
                exact hm.2.2.2.2 f hf i hi
              · have n1 : ¬ q = 41 := by omega
                have n2 : ¬ q = 46 := by omega
                have n3 : ¬ q = 47 := by omega
                have n4 : ¬ q = 48 := by omega
                have n5 : ¬ q = 49 := by omega
                simp [hup, n1, n2, n3, n4, n5]
            · have hE : dB S.1 = 100 := (eq_nI (dB S.1) 100 rfl rfl (by omega) (by decide)).mp b52
              rw [if_pos hE]
              refine V_bipush (v := -2) d_Mo_border_55 (by decide) ?_
              refine V_iret d_Mo_border_57 rfl ?_
              exact ⟨rfl, hm, fun _ _ => rfl⟩
          · exact no (fun q => p2i.mp b41 q.2.2.2.2)
noncomputable def opLaw (S : ST) (k t : Int32) : Int32 × ST := @ite _ (inR k 1 6 ∧ inR t 0 1000) (Classical.propDecidable _) (1, (S.1, ((k.toNatClampNeg, t.toNatClampNeg, wC S.2.1), wKp S.2.1, fun _ => none), (fun _ => 0), S.2.2.2)) (-1, S)
theorem opLaw_no {S : ST} {k t : Int32} (h : ¬ (inR k 1 6 ∧ inR t 0 1000)) : opLaw S k t = (-1, S) := @if_neg _ (Classical.propDecidable _) h _ _ _
theorem opLaw_yes {S : ST} {k t : Int32} (h : inR k 1 6 ∧ inR t 0 1000) : opLaw S k t = (1, (S.1, ((k.toNatClampNeg, t.toNatClampNeg, wC S.2.1), wKp S.2.1, fun _ => none), (fun _ => 0), S.2.2.2)) := @if_pos _ (Classical.propDecidable _) h _ _ _
theorem inR_pos {x : Int32} {n : Nat} (hn : n < 2 ^ 31) (h : inR x 1 (nI n)) : ∃ j, 1 ≤ j ∧ j ≤ n ∧ x = nI j := by
  obtain ⟨j, hj, rfl⟩ := (inR_nI hn).mp ⟨by
    have h1 := h.1
    rw [fa_le] at h1 ⊢
    have e1 : (1 : Int32).toInt = 1 := by decide
    have e0 : (0 : Int32).toInt = 0 := by decide
    omega, h.2⟩
  exact ⟨j, (le_nI 1 j rfl rfl (by decide) (by omega)).mp h.1, hj, rfl⟩
theorem c_Mlaw {E : Wd} {h : Hp} {S : ST} (hm : MoW h S) (ok : okST S) (k t : Int32) : MC E 1 m_Mo_law [.int k, .int t] h (opLaw S k t) := by
  have no : ¬ (inR k 1 6 ∧ inR t 0 1000) → V E 1 m_Mo_law (fun r h' => r = some (.int (opLaw S k t).1) ∧ MoW h' (opLaw S k t).2 ∧ ∀ q, q < 41 → h' q = h q) 21 [some (.ref 41), some (.int k), some (.int t), none] [] h := by
    intro hno
    rw [opLaw_no hno]
    refine V_iconst (v := -1) d_Mo_law_21 (by decide) ?_
    refine V_iret d_Mo_law_22 rfl ?_
    exact ⟨rfl, hm, fun _ _ => rfl⟩
  refine Cq_of2 ok_Mo_law rfl (Nat.le_of_ble_eq_true rfl) (L := [some (.ref 41), some (.int k), some (.int t), none]) rfl ?_
  refine V_iload_n d_Mo_law_0 rfl ?_
  refine V_iconst (v := 1) d_Mo_law_1 (by decide) ?_
  refine V_bipush (v := 6) d_Mo_law_2 (by decide) ?_
  refine V_callS1 d_Mo_law_4 k_Mo_87 rfl (c_Min h _ _ _) rfl (by first | decide | omega) rfl (Nat.le_of_ble_eq_true rfl) ?_
  refine V_if_eq (tgt := 21) d_Mo_law_7 (by decide) (fun b7 => ?_) (fun b7 => ?_)
  · exact no (fun q => p2i.mp b7 q.1)
  · refine V_iload_n d_Mo_law_10 rfl ?_
    refine V_iconst (v := 0) d_Mo_law_11 (by decide) ?_
    refine V_sipush (v := 1000) d_Mo_law_12 (by decide) ?_
    refine V_callS1 d_Mo_law_15 k_Mo_87 rfl (c_Min h _ _ _) rfl (by first | decide | omega) rfl (Nat.le_of_ble_eq_true rfl) ?_
    refine V_if_ne (tgt := 23) d_Mo_law_18 (by decide) (fun b18 => ?_) (fun b18 => ?_)
    · have hok : inR k 1 6 ∧ inR t 0 1000 := ⟨p2in.mp b7, p2in.mp b18⟩
      rw [opLaw_yes hok]
      obtain ⟨k', hk1, hk6, rfl⟩ := inR_pos (n := 6) (by omega) hok.1
      obtain ⟨t', ht', rfl⟩ := (inR_nI (n := 1000) (by omega)).mp hok.2
      rw [nI_clamp (by omega), nI_clamp (by omega)]
      refine V_aload_n d_Mo_law_23 rfl ?_
      refine V_iload_n d_Mo_law_24 rfl ?_
      refine V_put (ty := .int) d_Mo_law_25 f_Mo_34 rfl (by first | rfl | assumption) (by first | rfl | assumption) (by decide +kernel) (by first | rfl | assumption) (by first | rfl | assumption) ?_
      refine V_aload_n d_Mo_law_28 rfl ?_
      refine V_iload_n d_Mo_law_29 rfl ?_
      refine V_put (ty := .int) d_Mo_law_30 f_Mo_38 rfl (by first | rfl | assumption) (by first | rfl | assumption) (by decide +kernel) (by first | rfl | assumption) (by first | rfl | assumption) ?_
      refine V_iconst (v := 0) d_Mo_law_33 (by decide) ?_
      refine V_istore_n d_Mo_law_34 (by decide) ?_
      dsimp only [List.set]
      obtain ⟨H, hH⟩ : ∃ H, H = hup (hup h 41 10 (nI k')) 41 11 (nI t') := ⟨_, rfl⟩
      rw [← hH]
      have loop : ∀ i, i ≤ 30 → ∀ f g : Nat → Int32, (∀ j, j < i → f j = 0 ∧ g j = -1) → V E 1 m_Mo_law (fun r h' => r = some (.int 1) ∧ MoW h' (S.1, ((k', t', wC S.2.1), wKp S.2.1, fun _ => none), (fun _ => 0), S.2.2.2) ∧ ∀ q, q < 41 → h' q = h q) 35 [some (.ref 41), some (.int (nI k')), some (.int (nI t')), some (.int (nI i))] [] (hrow (hrow H 52 f) 51 g) := by
        refine up_ind 30 ?_
        intro i hi ih f g hfg
        refine V_iload_n d_Mo_law_35 rfl ?_
        refine V_bipush (v := 30) d_Mo_law_36 (by decide) ?_
        refine V_icmp_ge (tgt := 61) d_Mo_law_38 (by decide) (fun b38 => ?_) (fun b38 => ?_)
        · obtain rfl := ge_eq b38 rfl rfl (by decide) hi
          refine V_iconst (v := 1) d_Mo_law_61 (by decide) ?_
          refine V_iret d_Mo_law_62 rfl ?_
          obtain ⟨w1, w2, w3, w4, w5⟩ := hm.2.1
          refine ⟨rfl, ⟨?_, ⟨?_, ?_, ?_, fun t ht => ?_, fun p hp => ?_⟩, fun j hj => ?_, ?_, fun f hf i hi => ?_⟩, fun q hq => ?_⟩
          · obtain ⟨l1, l2, l3, l4, l5⟩ := hm.1
            refine ⟨?_, ?_, fun p hp => ?_, fun b hb => ?_, fun x hx => ?_⟩
            · simp [hrow, hH, hup, upd]; exact l1
            · simp [hrow, hH, hup, upd]; exact l2
            · simp [hrow, hH, hup, upd]; exact l3 p hp
            · simp [hrow, hH, hup, upd]; exact l4 b hb
            · simp [hrow, hH, hup, upd]; exact l5 x hx
          · simp [hrow, hH, hup, upd]; rfl
          · simp [hrow, hH, hup, upd]; rfl
          · simp [hrow, hH, hup, upd]; exact w3
          · simp [hrow, hH, hup, upd]; exact w4 t ht
          · simp [hrow]; exact (hfg p hp).2
          · simp [hrow]; exact (hfg j hj).1
          · simp [hrow, hH, hup, upd]; exact hm.2.2.2.1
          · simp [hrow, hH, hup, upd]; exact hm.2.2.2.2 f hf i hi
          · have n1 : ¬ q = 41 := by omega
            have n2 : ¬ q = 52 := by omega
            have n3 : ¬ q = 51 := by omega
            simp [hrow, hH, hup, n1, n2, n3]
        · have hi30 := nge_lt b38 rfl rfl (by decide) hi
          have hin : vp_in (nI i) 30 := vp_in_nI hi30 (by omega)
          refine V_aload_n d_Mo_law_41 rfl ?_
          refine V_getR d_Mo_law_42 f_Mo_51 rfl (by first | rfl | assumption) (by first | rfl | assumption) ?_
          refine V_iload_n d_Mo_law_45 rfl ?_
          refine V_iconst (v := 0) d_Mo_law_46 (by decide) ?_
          refine V_iast d_Mo_law_47 (by first | rfl | assumption) (by first | assumption | exact vp_in_nI (by omega) (by omega)) ?_
          refine V_aload_n d_Mo_law_48 rfl ?_
          refine V_getR d_Mo_law_49 f_Mo_48 rfl (by first | rfl | assumption) (by first | rfl | assumption) ?_
          refine V_iload_n d_Mo_law_52 rfl ?_
          refine V_iconst (v := -1) d_Mo_law_53 (by decide) ?_
          refine V_iast d_Mo_law_54 (by first | rfl | assumption) (by first | assumption | exact vp_in_nI (by omega) (by omega)) ?_
          refine V_iincw (w := 1) d_Mo_law_55 rfl (by decide) (by decide) ?_
          dsimp only [List.set]
          refine V_goto (tgt := 35) d_Mo_law_58 (by decide) ?_
          rw [nI_clamp (by omega), nI_1]
          have e : hup (hup (hrow (hrow H 52 f) 51 g) 52 i 0) 51 i (-1) = hrow (hrow H 52 (upd f i 0)) 51 (upd g i (-1)) := by
            funext q
            by_cases q1 : q = 52
            · subst q1; simp [hup, hrow]
            · by_cases q2 : q = 51
              · subst q2; simp [hup, hrow]
              · simp [hup, hrow, q1, q2]
          rw [e]
          refine ih hi30 _ _ (fun j hj => ?_)
          by_cases hji : j = i
          · rw [hji, upd_s, upd_s]; exact ⟨rfl, rfl⟩
          · rw [upd_n hji, upd_n hji]; exact hfg j (by omega)
      have h0 := loop 0 (by omega) (H 52) (H 51) (fun j hj => absurd hj (Nat.not_lt_zero j))
      rw [hrow_self, hrow_self] at h0
      exact h0
    · exact no (fun q => p2i.mp b18 q.2)
