/-! what a state of the office is, and the model's calls -/
abbrev ST : Type := LD × LW × (Nat → Nat) × Option (Nat → Int32)
def okST (S : ST) : Prop := okLD S.1 ∧ okLW S.2.1 ∧ okDs S.1 S.2.1 S.2.2.1 ∧ (∀ p, dN S.1 ≤ p → S.2.2.1 p = 0) ∧ ∀ p, dN S.1 ≤ p → wFx S.2.1 p = none
theorem okST.d6 {S : ST} (ok : okST S) (p : Nat) : S.2.2.1 p < 6 := by
  have h6 := ok.2.1.2.1
  rcases Nat.lt_or_ge p (dN S.1) with c | c
  · have := ok.2.2.1 p c; omega
  · rw [ok.2.2.2.1 p c]; omega
def MoW (h : Hp) (S : ST) : Prop := MoLand h S.1 ∧ MoLaw h S.2.1 ∧ MoDs h S.2.2.1 ∧ h 41 27 = (if S.2.2.2.isSome then 1 else 0) ∧ ∀ f, S.2.2.2 = some f → ∀ i, i < 6 → h 59 i = f i
/-- a call of the model: its answer and its state; the class's cells stay -/
def MC (E : Wd) (d : Nat) (mt : Mt) (args : List Value) (h : Hp) (r : Int32 × ST) : Prop := Cq E d mt (.ref 41 :: args) h (fun v h' => v = some (.int r.1) ∧ MoW h' r.2 ∧ ∀ q, q < 41 → h' q = h q)
theorem MoW.of {h h' : Hp} {S : ST} (hm : MoW h S) (k : mKeep h h') (e1 : h' 52 = h 52) (e2 : h' 41 27 = h 41 27) (e3 : h' 59 = h 59) : MoW h' S :=
  ⟨hm.1.of k, hm.2.1.of k, hm.2.2.1.of e1, by rw [e2]; exact hm.2.2.2.1, fun f hf i hi => by rw [e3]; exact hm.2.2.2.2 f hf i hi⟩
theorem p2i {p : Prop} [Decidable p] : ((if p then (1 : Int32) else 0) = 0) ↔ ¬ p := by
  by_cases h : p
  · simp [h]
  · simp [h]
theorem p2in {p : Prop} [Decidable p] : ¬ ((if p then (1 : Int32) else 0) = 0) ↔ p := by
  by_cases h : p
  · simp [h]
  · simp [h]
abbrev inR (x lo hi : Int32) : Prop := lo ≤ x ∧ x ≤ hi
theorem inR_nI {x : Int32} {n : Nat} (hn : n < 2 ^ 31) : inR x 0 (nI n) ↔ ∃ j, j ≤ n ∧ x = nI j := by
  constructor
  · rintro ⟨h1, h2⟩
    obtain ⟨j, hj, rfl⟩ := nI_of (x := x) (fun q => (fa_of_lt q).2.1 h1)
    exact ⟨j, (nI_leI hj hn).mp h2, rfl⟩
  · rintro ⟨j, hj, rfl⟩
    exact ⟨nI_pos' (by omega), nI_le hj hn⟩
def okPl (v z o s t : Int32) : Prop := inR v 0 1000 ∧ inR z 0 1000 ∧ inR o 0 1000 ∧ inR s 1 100 ∧ inR t 0 9
noncomputable def opPlace (S : ST) (v z o s t : Int32) : Int32 × ST := @ite _ (okPl v z o s t) (Classical.propDecidable _) (if dN S.1 = 30 then (-2, S) else (nI (dN S.1), (addPl S.1 v z o s t.toNatClampNeg, S.2))) (-1, S)
theorem opPlace_no {S : ST} {v z o s t : Int32} (h : ¬ okPl v z o s t) : opPlace S v z o s t = (-1, S) := @if_neg _ (Classical.propDecidable _) h _ _ _
theorem opPlace_yes {S : ST} {v z o s t : Int32} (h : okPl v z o s t) : opPlace S v z o s t = if dN S.1 = 30 then (-2, S) else (nI (dN S.1), (addPl S.1 v z o s t.toNatClampNeg, S.2)) := @if_pos _ (Classical.propDecidable _) h _ _ _
theorem c_Mplace {E : Wd} {h : Hp} {S : ST} (hm : MoW h S) (ok : okST S) (v z o s t : Int32) : MC E 1 m_Mo_place [.int v, .int z, .int o, .int s, .int t] h (opPlace S v z o s t) := by
  have hn := ok.1.1
  have no : ∀ u6, ¬ okPl v z o s t → V E 1 m_Mo_place (fun r h' => r = some (.int (opPlace S v z o s t).1) ∧ MoW h' (opPlace S v z o s t).2 ∧ ∀ q, q < 41 → h' q = h q) 55 [some (.ref 41), some (.int v), some (.int z), some (.int o), some (.int s), some (.int t), u6] [] h := by
    intro u6 hno
    rw [opPlace_no hno]
    refine V_iconst (v := -1) d_Mo_place_55 (by decide) ?_
    refine V_iret d_Mo_place_56 rfl ?_
    exact ⟨rfl, hm, fun _ _ => rfl⟩
  refine Cq_of2 ok_Mo_place rfl (Nat.le_of_ble_eq_true rfl) (L := [some (.ref 41), some (.int v), some (.int z), some (.int o), some (.int s), some (.int t), none]) rfl ?_
  refine V_iload_n d_Mo_place_0 rfl ?_
  refine V_iconst (v := 0) d_Mo_place_1 (by decide) ?_
  refine V_sipush (v := 1000) d_Mo_place_2 (by decide) ?_
  refine V_callS1 d_Mo_place_5 k_Mo_87 rfl (c_Min h _ _ _) rfl (by first | decide | omega) rfl (Nat.le_of_ble_eq_true rfl) ?_
  refine V_if_eq (tgt := 55) d_Mo_place_8 (by decide) (fun b8 => ?_) (fun b8 => ?_)
  · exact no _ (fun q => p2i.mp b8 q.1)
  · refine V_iload_n d_Mo_place_11 rfl ?_
    refine V_iconst (v := 0) d_Mo_place_12 (by decide) ?_
    refine V_sipush (v := 1000) d_Mo_place_13 (by decide) ?_
    refine V_callS1 d_Mo_place_16 k_Mo_87 rfl (c_Min h _ _ _) rfl (by first | decide | omega) rfl (Nat.le_of_ble_eq_true rfl) ?_
    refine V_if_eq (tgt := 55) d_Mo_place_19 (by decide) (fun b19 => ?_) (fun b19 => ?_)
    · exact no _ (fun q => p2i.mp b19 q.2.1)
    · refine V_iload_n d_Mo_place_22 rfl ?_
      refine V_iconst (v := 0) d_Mo_place_23 (by decide) ?_
      refine V_sipush (v := 1000) d_Mo_place_24 (by decide) ?_
      refine V_callS1 d_Mo_place_27 k_Mo_87 rfl (c_Min h _ _ _) rfl (by first | decide | omega) rfl (Nat.le_of_ble_eq_true rfl) ?_
      refine V_if_eq (tgt := 55) d_Mo_place_30 (by decide) (fun b30 => ?_) (fun b30 => ?_)
      · exact no _ (fun q => p2i.mp b30 q.2.2.1)
      · refine V_iload d_Mo_place_33 rfl ?_
        refine V_iconst (v := 1) d_Mo_place_35 (by decide) ?_
        refine V_bipush (v := 100) d_Mo_place_36 (by decide) ?_
        refine V_callS1 d_Mo_place_38 k_Mo_87 rfl (c_Min h _ _ _) rfl (by first | decide | omega) rfl (Nat.le_of_ble_eq_true rfl) ?_
        refine V_if_eq (tgt := 55) d_Mo_place_41 (by decide) (fun b41 => ?_) (fun b41 => ?_)
        · exact no _ (fun q => p2i.mp b41 q.2.2.2.1)
        · refine V_iload d_Mo_place_44 rfl ?_
          refine V_iconst (v := 0) d_Mo_place_46 (by decide) ?_
          refine V_bipush (v := 9) d_Mo_place_47 (by decide) ?_
          refine V_callS1 d_Mo_place_49 k_Mo_87 rfl (c_Min h _ _ _) rfl (by first | decide | omega) rfl (Nat.le_of_ble_eq_true rfl) ?_
          refine V_if_ne (tgt := 57) d_Mo_place_52 (by decide) (fun b52 => ?_) (fun b52 => ?_)
          · have hok : okPl v z o s t := ⟨p2in.mp b8, p2in.mp b19, p2in.mp b30, p2in.mp b41, p2in.mp b52⟩
            rw [opPlace_yes hok]
            obtain ⟨t', ht', rfl⟩ := (inR_nI (n := 9) (by omega)).mp hok.2.2.2.2
            obtain ⟨l1, l2, l3, l4, l5⟩ := hm.1
            refine V_aload_n d_Mo_place_57 rfl ?_
            refine V_getI d_Mo_place_58 f_Mo_91 rfl (by first | rfl | assumption) (by first | rfl | assumption) ?_
            rw [l1]
            refine V_bipush (v := 30) d_Mo_place_61 (by decide) ?_
            refine V_icmp_ne (tgt := 69) d_Mo_place_63 (by decide) (fun b63 => ?_) (fun b63 => ?_)
            · have hne : ¬ dN S.1 = 30 := fun q => b63 (by rw [q]; rfl)
              rw [if_neg hne]
              have hin : vp_in (nI (dN S.1)) 30 := vp_in_nI (by omega) (by omega)
              refine V_aload_n d_Mo_place_69 rfl ?_
              refine V_getI d_Mo_place_70 f_Mo_91 rfl (by first | rfl | assumption) (by first | rfl | assumption) ?_
              rw [l1]
              refine V_istore d_Mo_place_73 (by decide) ?_
              dsimp only [List.set]
              refine V_aload_n d_Mo_place_75 rfl ?_
              refine V_getR d_Mo_place_76 f_Mo_9 rfl (by first | rfl | assumption) (by first | rfl | assumption) ?_
              refine V_iload d_Mo_place_79 rfl ?_
              refine V_iload_n d_Mo_place_81 rfl ?_
              refine V_iast d_Mo_place_82 (by first | rfl | assumption) (by first | assumption | exact vp_in_nI (by omega) (by omega)) ?_
              refine V_aload_n d_Mo_place_83 rfl ?_
              refine V_getR d_Mo_place_84 f_Mo_13 rfl (by first | rfl | assumption) (by first | rfl | assumption) ?_
              refine V_iconst (v := 2) d_Mo_place_87 (by decide) ?_
              refine V_iload d_Mo_place_88 rfl ?_
              refine V_imul d_Mo_place_90 ?_
              refine V_iload_n d_Mo_place_91 rfl ?_
              rw [show (2 : Int32) = nI 2 from rfl, pk_mul]
              have hin2 : vp_in (nI (2 * dN S.1)) 60 := vp_in_nI (by omega) (by omega)
              refine V_iast d_Mo_place_92 (by first | rfl | assumption) (by first | assumption | exact vp_in_nI (by omega) (by omega)) ?_
              refine V_aload_n d_Mo_place_93 rfl ?_
              refine V_getR d_Mo_place_94 f_Mo_13 rfl (by first | rfl | assumption) (by first | rfl | assumption) ?_
              refine V_iconst (v := 2) d_Mo_place_97 (by decide) ?_
              refine V_iload d_Mo_place_98 rfl ?_
              refine V_imul d_Mo_place_100 ?_
              refine V_iconst (v := 1) d_Mo_place_101 (by decide) ?_
              refine V_iadd d_Mo_place_102 ?_
              rw [show (2 : Int32) = nI 2 from rfl, pk_mul, nI_1]
              have hin3 : vp_in (nI (2 * dN S.1 + 1)) 60 := vp_in_nI (by omega) (by omega)
              refine V_iload_n d_Mo_place_103 rfl ?_
              refine V_iast d_Mo_place_104 (by first | rfl | assumption) (by first | assumption | exact vp_in_nI (by omega) (by omega)) ?_
              refine V_aload_n d_Mo_place_105 rfl ?_
              refine V_getR d_Mo_place_106 f_Mo_16 rfl (by first | rfl | assumption) (by first | rfl | assumption) ?_
              refine V_iload d_Mo_place_109 rfl ?_
              refine V_iload d_Mo_place_111 rfl ?_
              refine V_iast d_Mo_place_113 (by first | rfl | assumption) (by first | assumption | exact vp_in_nI (by omega) (by omega)) ?_
              refine V_aload_n d_Mo_place_114 rfl ?_
              refine V_getR d_Mo_place_115 f_Mo_19 rfl (by first | rfl | assumption) (by first | rfl | assumption) ?_
              refine V_iload d_Mo_place_118 rfl ?_
              refine V_iload d_Mo_place_120 rfl ?_
              refine V_iast d_Mo_place_122 (by first | rfl | assumption) (by first | assumption | exact vp_in_nI (by omega) (by omega)) ?_
              refine V_aload_n d_Mo_place_123 rfl ?_
              refine V_dup d_Mo_place_124 rfl ?_
              refine V_getI d_Mo_place_125 f_Mo_91 rfl (by first | rfl | assumption) (by first | rfl | assumption) ?_
              refine V_iconst (v := 1) d_Mo_place_128 (by decide) ?_
              refine V_iadd d_Mo_place_129 ?_
              refine V_put (ty := .int) d_Mo_place_130 f_Mo_91 rfl (by first | rfl | assumption) (by first | rfl | assumption) (by decide +kernel) (by first | rfl | assumption) (by first | rfl | assumption) ?_
              refine V_iload d_Mo_place_133 rfl ?_
              refine V_iret d_Mo_place_135 rfl ?_
              rw [nI_clamp (by omega), nI_clamp (by omega), nI_clamp (by omega), nI_clamp (by omega)]
              refine ⟨rfl, ⟨⟨?_, ?_, fun p hp => ?_, fun b hb => ?_, fun i hi => ?_⟩, ?_, ?_, ?_, fun f hf i hi => ?_⟩, fun q hq => ?_⟩
              · simp [hup, upd, l1, nI_1]
                rfl
              · simp [hup, upd, l2]
                rfl
              · have hp : p < dN S.1 + 1 := hp
                by_cases h1 : p = dN S.1
                · subst h1
                  simp [hup, upd]
                  refine ⟨(updA_same _ _ _).symm, ?_, (updA_same _ _ _).symm, (updA_same _ _ _).symm, congrArg nI (updA_same _ _ _).symm⟩
                  exact (updA_same _ _ _).symm
                · obtain ⟨a1, a2, a3, a4, a5⟩ := l3 p (by omega)
                  have e2 : ¬ 2 * p = 2 * dN S.1 + 1 := by omega
                  have e3 : ¬ 2 * p + 1 = 2 * dN S.1 := by omega
                  have e4 : ¬ 2 * p = 2 * dN S.1 := by omega
                  simp [hup, upd, h1, e2, e3, e4]
                  exact ⟨a1.trans (updA_ne h1).symm, a2.trans (updA_ne h1).symm, a3.trans (updA_ne h1).symm, a4.trans (updA_ne h1).symm, a5.trans (congrArg nI (updA_ne h1).symm)⟩
              · simp [hup, upd]
                exact l4 b hb
              · simp [hup, upd]
                exact l5 i hi
              · obtain ⟨w1, w2, w3, w4, w5⟩ := hm.2.1
                refine ⟨?_, ?_, ?_, fun t ht => ?_, fun p hp => ?_⟩
                · simp [hup, upd]; exact w1
                · simp [hup, upd]; exact w2
                · simp [hup, upd]; exact w3
                · simp [hup, upd]; exact w4 t ht
                · simp [hup, upd]; exact w5 p hp
              · intro j hj
                simp [hup, upd]
                exact hm.2.2.1 j hj
              · simp [hup, upd]
                exact hm.2.2.2.1
              · simp [hup, upd]
                exact hm.2.2.2.2 f hf i hi
              · have n1 : ¬ q = 41 := by omega
                have n2 : ¬ q = 42 := by omega
                have n3 : ¬ q = 43 := by omega
                have n4 : ¬ q = 44 := by omega
                have n5 : ¬ q = 45 := by omega
                simp [hup, n1, n2, n3, n4, n5]
            · have hE : dN S.1 = 30 := (eq_nI (dN S.1) 30 rfl rfl (by omega) (by decide)).mp b63
              rw [if_pos hE]
              refine V_bipush (v := -2) d_Mo_place_66 (by decide) ?_
              refine V_iret d_Mo_place_68 rfl ?_
              exact ⟨rfl, hm, fun _ _ => rfl⟩
          · exact no _ (fun q => p2i.mp b52 q.2.2.2.2)
theorem Cq_mono {E : Wd} {d : Nat} {mt : Mt} {args : List Value} {h : Hp} {Q Q' : Option Value → Hp → Prop} (hq : ∀ v h', Q v h' → Q' v h') (hc : Cq E d mt args h Q) : Cq E d mt args h Q' := by
  intro sz
  refine MetFree.mono (hc sz) (fun a s q => q) (fun _ _ _ _ _ k => k) (fun a s o t _ q => ?_)
  obtain ⟨⟨⟨v, h', e1, q1, q2⟩, hF⟩, L⟩ := q
  exact ⟨⟨⟨v, h', e1, hq v h' q1, q2⟩, hF⟩, L⟩
