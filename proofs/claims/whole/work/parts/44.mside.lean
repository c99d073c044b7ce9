/-! sideOf(): the part of a tree with a place, without a border -/
/-- the borders of a list but one -/
def lsX (tr : Nat → Nat) (m wo b : Nat) : Prop := ∃ i, i < m ∧ i ≠ wo ∧ tr i = b
noncomputable def cnB (D : LD) (X : Nat → Prop) (p q : Nat) : Bool := @decide (Cn D X p q) (Classical.propDecidable _)
theorem cnB_iff {D : LD} {X : Nat → Prop} {p q : Nat} : cnB D X p q = true ↔ Cn D X p q := by
  unfold cnB
  exact @decide_eq_true_iff _ (Classical.propDecidable _)
theorem cnB_eq {D : LD} {X : Nat → Prop} {p q : Nat} {c : Bool} (h : c = true ↔ Cn D X p q) : c = cnB D X p q := by
  cases c with
  | true => exact (cnB_iff.mpr (h.mp rfl)).symm
  | false =>
    cases hq : cnB D X p q with
    | true => exact absurd (h.mpr (cnB_iff.mp hq)) (by decide)
    | false => rfl
theorem c_sideOf {E : Wd} {h : Hp} {D : LD} (hl : MoLand h D) (ok : okLD D) {tr : Nat → Nat} {m wo a : Nat} (hm : m ≤ 30) (htr : ∀ i, i < m → tr i < dB D ∧ h 54 i = nI (tr i)) (hwo : wo < 2 ^ 31) (ha : a < dN D) : Cd E 1 m_Mo_sideOf [.ref 41, .int (nI m), .int (nI wo), .int (nI a)] h (some (.int (mI (cnB D (lsX tr m wo) a)))) h := by
  have hB := ok.2.1
  have hN := ok.1
  refine Cd_of ok_Mo_sideOf rfl (Nat.le_of_ble_eq_true rfl) (L := [some (.ref 41), some (.int (nI m)), some (.int (nI wo)), some (.int (nI a)), none, none, none, none]) rfl ?_
  refine V_iconst (v := 1) d_Mo_sideOf_0 (by decide) ?_
  refine V_iload_n d_Mo_sideOf_1 rfl ?_
  refine V_ishl d_Mo_sideOf_2 ?_
  refine V_istore d_Mo_sideOf_3 (by decide) ?_
  dsimp only [List.set]
  refine V_iconst (v := 1) d_Mo_sideOf_5 (by decide) ?_
  refine V_istore d_Mo_sideOf_6 (by decide) ?_
  dsimp only [List.set]
  rw [shl1 a (by omega)]
  have outer : ∀ n (S : Nat → Bool) u6 u7, 30 < n + fa_cnt S 30 → S a = true → (∀ p, S p = true → Cn D (lsX tr m wo) a p) → V E 1 m_Mo_sideOf (fun v' h' => v' = some (.int (mI (cnB D (lsX tr m wo) a))) ∧ h' = h) 8 [some (.ref 41), some (.int (nI m)), some (.int (nI wo)), some (.int (nI a)), some (.int (mI S)), some (.int 1), u6, u7] [] h := by
    intro n
    induction n with
    | zero =>
      intro S u6 u7 h1
      have := fa_cnt_le S 30
      omega
    | succ n ih =>
      intro S u6 u7 hcnt hSa hS
      refine V_iload d_Mo_sideOf_8 rfl ?_
      refine V_if_eq (tgt := 103) d_Mo_sideOf_10 (by decide) (fun b10 => ?_) (fun b10 => ?_)
      · exact absurd b10 (by decide)
      · refine V_iconst (v := 0) d_Mo_sideOf_13 (by decide) ?_
        refine V_istore d_Mo_sideOf_14 (by decide) ?_
        dsimp only [List.set]
        refine V_iconst (v := 0) d_Mo_sideOf_16 (by decide) ?_
        refine V_istore d_Mo_sideOf_17 (by decide) ?_
        dsimp only [List.set]
        have inner : ∀ i, i ≤ m → ∀ (S' : Nat → Bool) (mo : Bool) u7, S' a = true → (∀ p, S' p = true → Cn D (lsX tr m wo) a p) → (mo = true → fa_cnt S 30 < fa_cnt S' 30) → fa_cnt S 30 ≤ fa_cnt S' 30 → (mo = false → ∀ j, j < i → j ≠ wo → S' (dFr D (tr j)) = S' (dTo D (tr j))) → V E 1 m_Mo_sideOf (fun v' h' => v' = some (.int (mI (cnB D (lsX tr m wo) a))) ∧ h' = h) 19 [some (.ref 41), some (.int (nI m)), some (.int (nI wo)), some (.int (nI a)), some (.int (mI S')), some (.int (if mo then 1 else 0)), some (.int (nI i)), u7] [] h := by
          refine up_ind m ?_
          intro i hi ihi S' mo u7 hSa' hS' hmo hle hnmo
          refine V_iload d_Mo_sideOf_19 rfl ?_
          refine V_iload_n d_Mo_sideOf_21 rfl ?_
          refine V_icmp_ge (tgt := 100) d_Mo_sideOf_22 (by decide) (fun b22 => ?_) (fun b22 => ?_)
          · obtain rfl := ge_eq b22 rfl rfl (by omega) hi
            refine V_goto (tgt := 8) d_Mo_sideOf_100 (by decide) ?_
            cases mo with
            | true =>
              have := hmo rfl
              exact ih S' _ _ (by omega) hSa' hS'
            | false =>
              have hcl := hnmo rfl
              show V E 1 m_Mo_sideOf _ 8 [some (.ref 41), some (.int (nI i)), some (.int (nI wo)), some (.int (nI a)), some (.int (mI S')), some (.int 0), some (.int (nI i)), u7] [] h
              refine V_iload d_Mo_sideOf_8 rfl ?_
              refine V_if_eq (tgt := 103) d_Mo_sideOf_10 (by decide) (fun b10 => ?_) (fun b10 => ?_)
              · refine V_iload d_Mo_sideOf_103 rfl ?_
                refine V_iret d_Mo_sideOf_105 rfl ?_
                refine ⟨?_, rfl⟩
                rw [mI_cong (P' := cnB D (lsX tr i wo) a) (fun j _ => cnB_eq ⟨hS' j, fun hc => ?_⟩)]
                refine hc (fun p => S' p = true) hSa' ?_
                rintro b hb ⟨k, hk, hkw, rfl⟩
                rw [hcl k hk hkw]
              · exact absurd rfl b10
          · have him := nge_lt b22 rfl rfl (by omega) hi
            have hti := htr i him
            have hbo := ok.2.2.2.1 (tr i) hti.1
            have hbr := hl.2.2.2.1 (tr i) hti.1
            have ihi := ihi him
            have next : ∀ mo u7, (mo = true → fa_cnt S 30 < fa_cnt S' 30) → (mo = false → ∀ j, j < i + 1 → j ≠ wo → S' (dFr D (tr j)) = S' (dTo D (tr j))) → V E 1 m_Mo_sideOf (fun v' h' => v' = some (.int (mI (cnB D (lsX tr m wo) a))) ∧ h' = h) 94 [some (.ref 41), some (.int (nI m)), some (.int (nI wo)), some (.int (nI a)), some (.int (mI S')), some (.int (if mo then 1 else 0)), some (.int (nI i)), u7] [] h := by
              intro mo u7 h1 h2
              refine V_iincw (w := 1) d_Mo_sideOf_94 rfl (by decide) (by decide) ?_
              dsimp only [List.set]
              refine V_goto (tgt := 19) d_Mo_sideOf_97 (by decide) ?_
              rw [nI_1]
              exact ihi S' mo u7 hSa' hS' h1 hle h2
            refine V_aload_n d_Mo_sideOf_25 rfl ?_
            refine V_getR d_Mo_sideOf_26 f_Mo_57 rfl (by first | rfl | assumption) (by first | rfl | assumption) ?_
            refine V_iload d_Mo_sideOf_29 rfl ?_
            refine V_iald d_Mo_sideOf_31 (by first | rfl | assumption) (by first | assumption | exact vp_in_nI (by omega) (by omega)) ?_
            rw [nI_clamp (by omega), hti.2]
            refine V_istore d_Mo_sideOf_32 (by decide) ?_
            dsimp only [List.set]
            refine V_iload d_Mo_sideOf_34 rfl ?_
            refine V_iload_n d_Mo_sideOf_36 rfl ?_
            refine V_icmp_eq (tgt := 94) d_Mo_sideOf_37 (by decide) (fun b37 => ?_) (fun b37 => ?_)
            · have heq := (nI_eq (by omega) hwo).mp b37
              refine next _ _ hmo (fun q j hj hjw => hnmo q j (by omega) hjw)
            · have hne : ¬ i = wo := fun z => b37 (by rw [z])
              refine V_iload d_Mo_sideOf_40 rfl ?_
              refine V_aload_n d_Mo_sideOf_42 rfl ?_
              refine V_getR d_Mo_sideOf_43 f_Mo_22 rfl (by first | rfl | assumption) (by first | rfl | assumption) ?_
              refine V_iload d_Mo_sideOf_46 rfl ?_
              refine V_iald d_Mo_sideOf_48 (by first | rfl | assumption) (by first | assumption | exact vp_in_nI (by omega) (by omega)) ?_
              rw [nI_clamp (by omega), hbr.1]
              refine V_callS1 d_Mo_sideOf_49 k_Mo_98 rfl (c_Mhas h (mI S') (j := dFr D (tr i)) (by omega)) rfl (by first | decide | omega) rfl (Nat.le_of_ble_eq_true rfl) ?_
              refine V_iload d_Mo_sideOf_52 rfl ?_
              refine V_aload_n d_Mo_sideOf_54 rfl ?_
              refine V_getR d_Mo_sideOf_55 f_Mo_25 rfl (by first | rfl | assumption) (by first | rfl | assumption) ?_
              refine V_iload d_Mo_sideOf_58 rfl ?_
              refine V_iald d_Mo_sideOf_60 (by first | rfl | assumption) (by first | assumption | exact vp_in_nI (by omega) (by omega)) ?_
              rw [nI_clamp (by omega), hbr.2.1]
              refine V_callS1 d_Mo_sideOf_61 k_Mo_98 rfl (c_Mhas h (mI S') (j := dTo D (tr i)) (by omega)) rfl (by first | decide | omega) rfl (Nat.le_of_ble_eq_true rfl) ?_
              rw [mI_b (by omega), mI_b (by omega)]
              refine V_icmp_eq (tgt := 94) d_Mo_sideOf_64 (by decide) (fun b64 => ?_) (fun b64 => ?_)
              · have hsame : S' (dFr D (tr i)) = S' (dTo D (tr i)) := by
                  cases h1 : S' (dFr D (tr i)) <;> cases h2 : S' (dTo D (tr i)) <;> rw [h1, h2] at b64 <;> first | rfl | exact absurd b64 (by decide)
                refine next _ _ hmo (fun q j hj hjw => ?_)
                rcases Nat.lt_or_ge j i with c | c
                · exact hnmo q j c hjw
                · rw [show j = i by omega]; exact hsame
              · have hdif : S' (dFr D (tr i)) ≠ S' (dTo D (tr i)) := fun z => b64 (by rw [z])
                refine V_iload d_Mo_sideOf_67 rfl ?_
                refine V_iconst (v := 1) d_Mo_sideOf_69 (by decide) ?_
                refine V_aload_n d_Mo_sideOf_70 rfl ?_
                refine V_getR d_Mo_sideOf_71 f_Mo_22 rfl (by first | rfl | assumption) (by first | rfl | assumption) ?_
                refine V_iload d_Mo_sideOf_74 rfl ?_
                refine V_iald d_Mo_sideOf_76 (by first | rfl | assumption) (by first | assumption | exact vp_in_nI (by omega) (by omega)) ?_
                rw [nI_clamp (by omega), hbr.1]
                refine V_ishl d_Mo_sideOf_77 ?_
                refine V_iconst (v := 1) d_Mo_sideOf_78 (by decide) ?_
                refine V_aload_n d_Mo_sideOf_79 rfl ?_
                refine V_getR d_Mo_sideOf_80 f_Mo_25 rfl (by first | rfl | assumption) (by first | rfl | assumption) ?_
                refine V_iload d_Mo_sideOf_83 rfl ?_
                refine V_iald d_Mo_sideOf_85 (by first | rfl | assumption) (by first | assumption | exact vp_in_nI (by omega) (by omega)) ?_
                rw [nI_clamp (by omega), hbr.2.1]
                refine V_ishl d_Mo_sideOf_86 ?_
                refine V_ior d_Mo_sideOf_87 ?_
                refine V_ior d_Mo_sideOf_88 ?_
                refine V_istore d_Mo_sideOf_89 (by decide) ?_
                dsimp only [List.set]
                refine V_iconst (v := 1) d_Mo_sideOf_91 (by decide) ?_
                refine V_istore d_Mo_sideOf_92 (by decide) ?_
                dsimp only [List.set]
                rw [shl1 _ (by omega), shl1 _ (by omega), mI_or, mI_or]
                refine V_iincw (w := 1) d_Mo_sideOf_94 rfl (by decide) (by decide) ?_
                dsimp only [List.set]
                refine V_goto (tgt := 19) d_Mo_sideOf_97 (by decide) ?_
                rw [nI_1]
                have hed : Cn D (lsX tr m wo) (dFr D (tr i)) (dTo D (tr i)) := Cn.ed hti.1 ⟨i, him, hne, rfl⟩
                have both : Cn D (lsX tr m wo) a (dFr D (tr i)) ∧ Cn D (lsX tr m wo) a (dTo D (tr i)) := by
                  cases h1 : S' (dFr D (tr i)) with
                  | true => exact ⟨hS' _ h1, (hS' _ h1).tr hed⟩
                  | false =>
                    cases h2 : S' (dTo D (tr i)) with
                    | true => exact ⟨(hS' _ h2).tr hed.sy, hS' _ h2⟩
                    | false => exact absurd (h1.trans h2.symm) hdif
                have hlt : fa_cnt S' 30 < fa_cnt (fun j => S' j || (decide (j = dFr D (tr i)) || decide (j = dTo D (tr i)))) 30 := by
                  cases h1 : S' (dFr D (tr i)) with
                  | false => exact cnt_lt (fun j _ hj => by simp [hj]) (dFr D (tr i)) (by omega) h1 (by simp)
                  | true =>
                    cases h2 : S' (dTo D (tr i)) with
                    | false => exact cnt_lt (fun j _ hj => by simp [hj]) (dTo D (tr i)) (by omega) h2 (by simp)
                    | true => exact absurd (h1.trans h2.symm) hdif
                refine ihi (fun j => S' j || (decide (j = dFr D (tr i)) || decide (j = dTo D (tr i)))) true _ (by simp [hSa']) (fun p hp => ?_) (fun _ => by omega) (by omega) (fun q => absurd q (by decide))
                · simp only [Bool.or_eq_true, decide_eq_true_eq] at hp
                  rcases hp with hp | rfl | rfl
                  · exact hS' p hp
                  · exact both.1
                  · exact both.2
        exact inner 0 (Nat.zero_le _) S false _ hSa hS (fun q => absurd q (by decide)) (Nat.le_refl _) (fun _ j hj => absurd hj (Nat.not_lt_zero j))
  exact outer 31 (fun j => decide (j = a)) none none (by omega) (by simp) (fun p hp => by rw [of_decide_eq_true hp]; exact Cn.rf a)
