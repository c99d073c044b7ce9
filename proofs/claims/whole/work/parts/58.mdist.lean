/-! the model's district() -/
noncomputable def dstI (D : LD) (P : Nat → Bool) (x : Nat) : Int32 := if x = 0 then nI (fa_cnt P (dN D)) else if x = 1 then nI (pplN D P) else if x = 2 then smP (dZe D) P (dN D) else if x = 3 then smP (dOn D) P (dN D) else if x = 4 then smP (dAr D) P (dN D) else if x = 5 then smP (dLn D) (fun b => P (dFr D b) != P (dTo D b)) (dB D) else if x = 6 then (if hang D P then 1 else 0) else fxI (fstO P 30)
noncomputable def opDistrict (S : ST) (d x : Int32) : Int32 × ST := (@ite _ (isPl (wK S.2.1) d = true ∧ inR x 0 7) (Classical.propDecidable _) (dstI S.1 (dP S.1 S.2.2.1 d.toNatClampNeg) x.toNatClampNeg) (-1), S)
theorem opDistrict_no {S : ST} {d x : Int32} (h : ¬ (isPl (wK S.2.1) d = true ∧ inR x 0 7)) : opDistrict S d x = (-1, S) := by
  unfold opDistrict
  rw [@if_neg _ (Classical.propDecidable _) h _ _ _]
theorem opDistrict_yes {S : ST} {d x : Nat} (hd : d < wK S.2.1) (h6 : wK S.2.1 ≤ 6) (hx : x ≤ 7) : opDistrict S (nI d) (nI x) = (dstI S.1 (dP S.1 S.2.2.1 d) x, S) := by
  unfold opDistrict
  rw [@if_pos _ (Classical.propDecidable _) ⟨isPl_iff.mpr ⟨d, hd, rfl⟩, (inR_nI (n := 7) (by omega)).mpr ⟨x, hx, rfl⟩⟩ _ _ _, nI_clamp (by omega), nI_clamp (by omega)]
theorem dst_0 (D : LD) (P : Nat → Bool) : dstI D P 0 = nI (fa_cnt P (dN D)) := by unfold dstI; rw [if_pos rfl]
theorem dst_1 (D : LD) (P : Nat → Bool) : dstI D P 1 = nI (pplN D P) := by unfold dstI; rw [if_neg (by omega), if_pos rfl]
theorem dst_2 (D : LD) (P : Nat → Bool) : dstI D P 2 = smP (dZe D) P (dN D) := by unfold dstI; rw [if_neg (by omega), if_neg (by omega), if_pos rfl]
theorem dst_3 (D : LD) (P : Nat → Bool) : dstI D P 3 = smP (dOn D) P (dN D) := by unfold dstI; rw [if_neg (by omega), if_neg (by omega), if_neg (by omega), if_pos rfl]
theorem dst_4 (D : LD) (P : Nat → Bool) : dstI D P 4 = smP (dAr D) P (dN D) := by unfold dstI; rw [if_neg (by omega), if_neg (by omega), if_neg (by omega), if_neg (by omega), if_pos rfl]
theorem dst_5 (D : LD) (P : Nat → Bool) : dstI D P 5 = smP (dLn D) (fun b => P (dFr D b) != P (dTo D b)) (dB D) := by unfold dstI; rw [if_neg (by omega), if_neg (by omega), if_neg (by omega), if_neg (by omega), if_neg (by omega), if_pos rfl]
theorem dst_6 (D : LD) (P : Nat → Bool) : dstI D P 6 = if hang D P then 1 else 0 := by unfold dstI; rw [if_neg (by omega), if_neg (by omega), if_neg (by omega), if_neg (by omega), if_neg (by omega), if_neg (by omega), if_pos rfl]
theorem dst_7 (D : LD) (P : Nat → Bool) : dstI D P 7 = fxI (fstO P 30) := by unfold dstI; rw [if_neg (by omega), if_neg (by omega), if_neg (by omega), if_neg (by omega), if_neg (by omega), if_neg (by omega), if_neg (by omega)]
theorem hang_reach {D : LD} {P : Nat → Bool} {a : Nat} (ha : fstO P 30 = some a) : mI (reach D P a) = mI P ↔ hang D P = true := by
  obtain ⟨h1, h2, h3⟩ := fstO_lt ha
  rw [hang_from h1 h2]
  constructor
  · intro h j hj hP
    rw [mI_inj h hj]
    exact hP
  · intro h
    apply mI_cong
    intro j hj
    cases hb : P j with
    | true => exact h j hj hb
    | false =>
      cases hr : reach D P a j with
      | false => rfl
      | true =>
        have := cloB_sub hr hj
        rw [hb] at this
        cases this
theorem hang_0 {D : LD} {P : Nat → Bool} (h : ∀ j, j < 30 → P j = false) : hang D P = true := hang_iff.mpr (fun a j ha _ h1 _ => by rw [h a ha] at h1; cases h1)
theorem c_Mdistrict {E : Wd} {h : Hp} {S : ST} (hm : MoW h S) (ok : okST S) (d x : Int32) : MC E 3 m_Mo_district [.int d, .int x] h (opDistrict S d x) := by
  have hn := ok.1.1
  have hk6 := ok.2.1.2.1
  obtain ⟨l1, l2, l3, l4, l5⟩ := id hm.1
  obtain ⟨w1, w2, w3, w4, w5⟩ := id hm.2.1
  refine Cq_of2 ok_Mo_district rfl (Nat.le_of_ble_eq_true rfl) (L := [some (.ref 41), some (.int d), some (.int x), none, none, none]) rfl ?_
  refine V_iload_n d_Mo_district_0 rfl ?_
  refine V_iconst (v := 0) d_Mo_district_1 (by decide) ?_
  refine V_aload_n d_Mo_district_2 rfl ?_
  refine V_getI d_Mo_district_3 f_Mo_34 rfl (by first | rfl | assumption) (by first | rfl | assumption) ?_
  refine V_iconst (v := 1) d_Mo_district_6 (by decide) ?_
  refine V_isub d_Mo_district_7 ?_
  rw [w1]
  refine V_callS1 d_Mo_district_8 k_Mo_87 rfl (c_Min h _ _ _) rfl (by first | decide | omega) rfl (Nat.le_of_ble_eq_true rfl) ?_
  refine V_if_eq (tgt := 24) d_Mo_district_11 (by decide) (fun b11 => ?_) (fun b11 => ?_)
  · refine V_iconst (v := -1) d_Mo_district_24 (by decide) ?_
    refine V_iret d_Mo_district_25 rfl ?_
    rw [p2i] at b11
    exact ⟨by rw [opDistrict_no (fun q => b11 ((sub1_nI (by omega) d).mpr (isPl_iff.mp q.1)))], by rw [opDistrict_no (fun q => b11 ((sub1_nI (by omega) d).mpr (isPl_iff.mp q.1)))]; exact hm, fun _ _ => rfl⟩
  · rw [p2in] at b11
    obtain ⟨e, he, rfl⟩ := (sub1_nI (by omega) d).mp b11
    refine V_iload_n d_Mo_district_14 rfl ?_
    refine V_iconst (v := 0) d_Mo_district_15 (by decide) ?_
    refine V_bipush (v := 7) d_Mo_district_16 (by decide) ?_
    refine V_callS1 d_Mo_district_18 k_Mo_87 rfl (c_Min h _ _ _) rfl (by first | decide | omega) rfl (Nat.le_of_ble_eq_true rfl) ?_
    refine V_if_ne (tgt := 26) d_Mo_district_21 (by decide) (fun b21 => ?_) (fun b21 => ?_)
    · rw [p2in] at b21
      obtain ⟨y, hy, rfl⟩ := (inR_nI (n := 7) (by omega)).mp b21
      rw [opDistrict_yes he hk6 hy]
      refine V_aload_n d_Mo_district_26 rfl ?_
      refine V_iload_n d_Mo_district_27 rfl ?_
      refine V_callV1 d_Mo_district_28 k_Mo_121 rfl (c_bitsOf hm.1 ok.1 hm.2.2.1 (show e < 2 ^ 31 by omega)) (by first | rfl | assumption) rfl rfl (by first | decide | omega) rfl (Nat.le_of_ble_eq_true rfl) ?_
      refine V_istore_n d_Mo_district_31 (by decide) ?_
      dsimp only [List.set]
      refine V_iconst (v := 0) d_Mo_district_32 (by decide) ?_
      refine V_istore d_Mo_district_33 (by decide) ?_
      dsimp only [List.set]
      refine V_iload_n d_Mo_district_35 rfl ?_
      have hv0 := c_votesOf (E := E) hm.1 ok.1 hm.2.2.1 (show e < 2 ^ 31 by omega) (q := 0) (by omega)
      have hv1 := c_votesOf (E := E) hm.1 ok.1 hm.2.2.1 (show e < 2 ^ 31 by omega) (q := 1) (by omega)
      have hP : ∀ j, dP S.1 S.2.2.1 e j = true → j < dN S.1 := fun j => dP_sub
      generalize dP S.1 S.2.2.1 e = P at hP hv0 hv1 ⊢
      have last : ∀ c : Nat, (c = 0 ∨ c = 4) → y = c → V E 3 m_Mo_district (fun r h' => r = some (.int (dstI S.1 P y)) ∧ MoW h' S ∧ ∀ q, q < 41 → h' q = h q) 189 [some (.ref 41), some (.int (nI e)), some (.int (nI y)), some (.int (mI P)), some (.int 0), none] [] h := by
        intro c hc hyc
        refine V_iconst (v := 0) d_Mo_district_189 (by decide) ?_
        refine V_istore d_Mo_district_190 (by decide) ?_
        dsimp only [List.set]
        have loop : ∀ i, i ≤ dN S.1 → V E 3 m_Mo_district (fun r h' => r = some (.int (dstI S.1 P y)) ∧ MoW h' S ∧ ∀ q, q < 41 → h' q = h q) 192 [some (.ref 41), some (.int (nI e)), some (.int (nI y)), some (.int (mI P)), some (.int (if c = 0 then nI (fa_cnt P i) else smP (dAr S.1) P i)), some (.int (nI i))] [] h := by
          refine up_ind (dN S.1) ?_
          intro i hi ih
          refine V_iload d_Mo_district_192 rfl ?_
          refine V_aload_n d_Mo_district_194 rfl ?_
          refine V_getI d_Mo_district_195 f_Mo_91 rfl (by first | rfl | assumption) (by first | rfl | assumption) ?_
          rw [l1]
          refine V_icmp_ge (tgt := 240) d_Mo_district_198 (by decide) (fun b198 => ?_) (fun b198 => ?_)
          · obtain rfl := ge_eq b198 rfl rfl (by omega) hi
            refine V_iload d_Mo_district_240 rfl ?_
            refine V_iret d_Mo_district_242 rfl ?_
            refine ⟨?_, hm, fun _ _ => rfl⟩
            rw [hyc]
            rcases hc with rfl | rfl
            · rw [dst_0, if_pos rfl]
            · rw [dst_4, if_neg (by omega)]
          · have hin' := nge_lt b198 rfl rfl (by omega) hi
            have hin : vp_in (nI i) 30 := vp_in_nI (by omega) (by omega)
            have ih := ih hin'
            refine V_iload d_Mo_district_201 rfl ?_
            refine V_iload_n d_Mo_district_203 rfl ?_
            refine V_iload d_Mo_district_204 rfl ?_
            refine V_callS1 d_Mo_district_206 k_Mo_98 rfl (c_Mhas h (mI P) (show i < 32 by omega)) rfl (by first | decide | omega) rfl (Nat.le_of_ble_eq_true rfl) ?_
            rw [mI_b (show i < 30 by omega)]
            refine V_if_ne (tgt := 216) d_Mo_district_209 (by decide) (fun b209 => ?_) (fun b209 => ?_)
            · have hb := b2in.mp b209
              rw [fa_cnt_yes hb, smP, hb] at ih
              simp only [if_true] at ih
              refine V_iload_n d_Mo_district_216 rfl ?_
              refine V_if_ne (tgt := 224) d_Mo_district_217 (by decide) (fun b217 => ?_) (fun b217 => ?_)
              · have hc4 : c = 4 := by
                  rcases hc with rfl | rfl
                  · exact absurd (by rw [hyc]; rfl) b217
                  · rfl
                subst hc4
                refine V_aload_n d_Mo_district_224 rfl ?_
                refine V_getR d_Mo_district_225 f_Mo_16 rfl (by first | rfl | assumption) (by first | rfl | assumption) ?_
                refine V_iload d_Mo_district_228 rfl ?_
                refine V_iald d_Mo_district_230 (by first | rfl | assumption) (by first | assumption | exact vp_in_nI (by omega) (by omega)) ?_
                refine V_iadd d_Mo_district_231 ?_
                refine V_istore d_Mo_district_232 (by decide) ?_
                dsimp only [List.set]
                refine V_iincw (w := 1) d_Mo_district_234 rfl (by decide) (by decide) ?_
                dsimp only [List.set]
                refine V_goto (tgt := 192) d_Mo_district_237 (by decide) ?_
                rw [nI_1, nI_clamp (by omega), (l3 i hin').2.2.2.1]
                exact ih
              · have hc0 : c = 0 := by
                  rcases hc with rfl | rfl
                  · rfl
                  · rw [hyc] at b217; exact absurd b217 (by decide)
                subst hc0
                refine V_iconst (v := 1) d_Mo_district_220 (by decide) ?_
                refine V_goto (tgt := 231) d_Mo_district_221 (by decide) ?_
                refine V_iadd d_Mo_district_231 ?_
                refine V_istore d_Mo_district_232 (by decide) ?_
                dsimp only [List.set]
                refine V_iincw (w := 1) d_Mo_district_234 rfl (by decide) (by decide) ?_
                dsimp only [List.set]
                refine V_goto (tgt := 192) d_Mo_district_237 (by decide) ?_
                rw [if_pos rfl] at ih ⊢
                rw [nI_1, nI_1]
                exact ih
            · have hb := b2i.mp b209
              rw [fa_cnt_no hb, smP, hb] at ih
              simp only [Bool.false_eq_true, if_false, Int32.add_zero] at ih
              refine V_iconst (v := 0) d_Mo_district_212 (by decide) ?_
              refine V_goto (tgt := 231) d_Mo_district_213 (by decide) ?_
              refine V_iadd d_Mo_district_231 ?_
              refine V_istore d_Mo_district_232 (by decide) ?_
              dsimp only [List.set]
              refine V_iincw (w := 1) d_Mo_district_234 rfl (by decide) (by decide) ?_
              dsimp only [List.set]
              refine V_goto (tgt := 192) d_Mo_district_237 (by decide) ?_
              rw [nI_1, Int32.add_zero]
              exact ih
        have h0 := loop 0 (Nat.zero_le _)
        have e0 : (if c = 0 then nI (fa_cnt P 0) else smP (dAr S.1) P 0) = 0 := by split <;> rfl
        rw [e0] at h0
        exact h0
      rcases (show y = 0 ∨ y = 1 ∨ y = 2 ∨ y = 3 ∨ y = 4 ∨ y = 5 ∨ y = 6 ∨ y = 7 by omega) with rfl | rfl | rfl | rfl | rfl | rfl | rfl | rfl
      · refine V_tableOut (tgt := 189) d_Mo_district_36 (by decide) (by decide) ?_
        exact last 0 (Or.inl rfl) rfl
      · refine V_tableIn (off := 44) (tgt := 80) d_Mo_district_36 (by decide) (by decide) (by decide) (by decide) ?_
        refine V_aload_n d_Mo_district_80 rfl ?_
        refine V_iload_n d_Mo_district_81 rfl ?_
        refine V_callV1 d_Mo_district_82 k_Mo_105 rfl (c_peopleOf hm.1 ok.1 P) (by first | rfl | assumption) rfl rfl (by first | decide | omega) rfl (Nat.le_of_ble_eq_true rfl) ?_
        refine V_iret d_Mo_district_85 rfl ?_
        exact ⟨by rw [dst_1], hm, fun _ _ => rfl⟩
      · refine V_tableIn (off := 50) (tgt := 86) d_Mo_district_36 (by decide) (by decide) (by decide) (by decide) ?_
        refine V_aload_n d_Mo_district_86 rfl ?_
        refine V_iload_n d_Mo_district_87 rfl ?_
        refine V_iload_n d_Mo_district_88 rfl ?_
        refine V_iconst (v := 2) d_Mo_district_89 (by decide) ?_
        refine V_isub d_Mo_district_90 ?_
        refine V_callV1 d_Mo_district_91 k_Mo_146 rfl (hv0) (by first | rfl | assumption) rfl rfl (by first | decide | omega) rfl (Nat.le_of_ble_eq_true rfl) ?_
        refine V_iret d_Mo_district_94 rfl ?_
        exact ⟨by rw [dst_2, if_pos rfl], hm, fun _ _ => rfl⟩
      · refine V_tableIn (off := 50) (tgt := 86) d_Mo_district_36 (by decide) (by decide) (by decide) (by decide) ?_
        refine V_aload_n d_Mo_district_86 rfl ?_
        refine V_iload_n d_Mo_district_87 rfl ?_
        refine V_iload_n d_Mo_district_88 rfl ?_
        refine V_iconst (v := 2) d_Mo_district_89 (by decide) ?_
        refine V_isub d_Mo_district_90 ?_
        refine V_callV1 d_Mo_district_91 k_Mo_146 rfl (hv1) (by first | rfl | assumption) rfl rfl (by first | decide | omega) rfl (Nat.le_of_ble_eq_true rfl) ?_
        refine V_iret d_Mo_district_94 rfl ?_
        exact ⟨by rw [dst_3, if_neg (by omega)], hm, fun _ _ => rfl⟩
      · refine V_tableIn (off := 153) (tgt := 189) d_Mo_district_36 (by decide) (by decide) (by decide) (by decide) ?_
        exact last 4 (Or.inr rfl) rfl
      · refine V_tableIn (off := 59) (tgt := 95) d_Mo_district_36 (by decide) (by decide) (by decide) (by decide) ?_
        refine V_iconst (v := 0) d_Mo_district_95 (by decide) ?_
        refine V_istore d_Mo_district_96 (by decide) ?_
        dsimp only [List.set]
        have hb100 := ok.1.2.1
        have loop : ∀ i, i ≤ dB S.1 → V E 3 m_Mo_district (fun r h' => r = some (.int (dstI S.1 P 5)) ∧ MoW h' S ∧ ∀ q, q < 41 → h' q = h q) 98 [some (.ref 41), some (.int (nI e)), some (.int (nI 5)), some (.int (mI P)), some (.int (smP (dLn S.1) (fun b => P (dFr S.1 b) != P (dTo S.1 b)) i)), some (.int (nI i))] [] h := by
          refine up_ind (dB S.1) ?_
          intro i hi ih
          refine V_iload d_Mo_district_98 rfl ?_
          refine V_aload_n d_Mo_district_100 rfl ?_
          refine V_getI d_Mo_district_101 f_Mo_102 rfl (by first | rfl | assumption) (by first | rfl | assumption) ?_
          rw [l2]
          refine V_icmp_ge (tgt := 154) d_Mo_district_104 (by decide) (fun b104 => ?_) (fun b104 => ?_)
          · obtain rfl := ge_eq b104 rfl rfl (by omega) hi
            refine V_iload d_Mo_district_154 rfl ?_
            refine V_iret d_Mo_district_156 rfl ?_
            exact ⟨by rw [dst_5], hm, fun _ _ => rfl⟩
          · have hin' := nge_lt b104 rfl rfl (by omega) hi
            have hin : vp_in (nI i) 100 := vp_in_nI (by omega) (by omega)
            have ih := ih hin'
            have hbb := ok.1.2.2.2.1 i hin'
            have hrw := l4 i hin'
            rw [smP] at ih
            refine V_iload d_Mo_district_107 rfl ?_
            refine V_iload_n d_Mo_district_109 rfl ?_
            refine V_aload_n d_Mo_district_110 rfl ?_
            refine V_getR d_Mo_district_111 f_Mo_22 rfl (by first | rfl | assumption) (by first | rfl | assumption) ?_
            refine V_iload d_Mo_district_114 rfl ?_
            refine V_iald d_Mo_district_116 (by first | rfl | assumption) (by first | assumption | exact vp_in_nI (by omega) (by omega)) ?_
            rw [nI_clamp (by omega), hrw.1]
            refine V_callS1 d_Mo_district_117 k_Mo_98 rfl (c_Mhas h (mI P) (show dFr S.1 i < 32 by omega)) rfl (by first | decide | omega) rfl (Nat.le_of_ble_eq_true rfl) ?_
            rw [mI_b (show dFr S.1 i < 30 by omega)]
            refine V_iload_n d_Mo_district_120 rfl ?_
            refine V_aload_n d_Mo_district_121 rfl ?_
            refine V_getR d_Mo_district_122 f_Mo_25 rfl (by first | rfl | assumption) (by first | rfl | assumption) ?_
            refine V_iload d_Mo_district_125 rfl ?_
            refine V_iald d_Mo_district_127 (by first | rfl | assumption) (by first | assumption | exact vp_in_nI (by omega) (by omega)) ?_
            rw [nI_clamp (by omega), hrw.2.1]
            refine V_callS1 d_Mo_district_128 k_Mo_98 rfl (c_Mhas h (mI P) (show dTo S.1 i < 32 by omega)) rfl (by first | decide | omega) rfl (Nat.le_of_ble_eq_true rfl) ?_
            rw [mI_b (show dTo S.1 i < 30 by omega)]
            refine V_icmp_eq (tgt := 144) d_Mo_district_131 (by decide) (fun b131 => ?_) (fun b131 => ?_)
            · refine V_iconst (v := 0) d_Mo_district_144 (by decide) ?_
              refine V_iadd d_Mo_district_145 ?_
              refine V_istore d_Mo_district_146 (by decide) ?_
              dsimp only [List.set]
              refine V_iincw (w := 1) d_Mo_district_148 rfl (by decide) (by decide) ?_
              dsimp only [List.set]
              refine V_goto (tgt := 98) d_Mo_district_151 (by decide) ?_
              have e2 : (P (dFr S.1 i) != P (dTo S.1 i)) = false := by
                revert b131
                cases P (dFr S.1 i) <;> cases P (dTo S.1 i) <;> simp
              rw [e2] at ih
              simp only [Bool.false_eq_true, if_false, Int32.add_zero] at ih
              rw [nI_1, Int32.add_zero]
              exact ih
            · refine V_aload_n d_Mo_district_134 rfl ?_
              refine V_getR d_Mo_district_135 f_Mo_28 rfl (by first | rfl | assumption) (by first | rfl | assumption) ?_
              refine V_iload d_Mo_district_138 rfl ?_
              refine V_iald d_Mo_district_140 (by first | rfl | assumption) (by first | assumption | exact vp_in_nI (by omega) (by omega)) ?_
              refine V_goto (tgt := 145) d_Mo_district_141 (by decide) ?_
              refine V_iadd d_Mo_district_145 ?_
              refine V_istore d_Mo_district_146 (by decide) ?_
              dsimp only [List.set]
              refine V_iincw (w := 1) d_Mo_district_148 rfl (by decide) (by decide) ?_
              dsimp only [List.set]
              refine V_goto (tgt := 98) d_Mo_district_151 (by decide) ?_
              have e2 : (P (dFr S.1 i) != P (dTo S.1 i)) = true := by
                revert b131
                cases P (dFr S.1 i) <;> cases P (dTo S.1 i) <;> simp
              rw [e2] at ih
              simp only [if_true] at ih
              rw [nI_1, nI_clamp (by omega), hrw.2.2]
              exact ih
        exact loop 0 (Nat.zero_le _)
      · refine V_tableIn (off := 121) (tgt := 157) d_Mo_district_36 (by decide) (by decide) (by decide) (by decide) ?_
        refine V_iload_n d_Mo_district_157 rfl ?_
        refine V_if_eq (tgt := 170) d_Mo_district_158 (by decide) (fun b158 => ?_) (fun b158 => ?_)
        · refine V_iconst (v := 1) d_Mo_district_170 (by decide) ?_
          refine V_goto (tgt := 175) d_Mo_district_171 (by decide) ?_
          refine V_iret d_Mo_district_175 rfl ?_
          refine ⟨?_, hm, fun _ _ => rfl⟩
          rw [dst_6]
          rw [if_pos (hang_0 (mI_eq0.mp b158))]
        · obtain ⟨a, ha⟩ : ∃ a, fstO P 30 = some a := by
            cases hf : fstO P 30 with
            | some a => exact ⟨a, rfl⟩
            | none => exact absurd (mI_eq0.mpr (fstO_none_iff.mp hf)) b158
          refine V_aload_n d_Mo_district_161 rfl ?_
          refine V_iload_n d_Mo_district_162 rfl ?_
          refine V_callV1 d_Mo_district_163 k_Mo_124 rfl (c_reached hm.1 ok.1 (fun j _ => hP j) ha) (by first | rfl | assumption) rfl rfl (by first | decide | omega) rfl (Nat.le_of_ble_eq_true rfl) ?_
          refine V_iload_n d_Mo_district_166 rfl ?_
          refine V_icmp_ne (tgt := 174) d_Mo_district_167 (by decide) (fun b167 => ?_) (fun b167 => ?_)
          · refine V_iconst (v := 0) d_Mo_district_174 (by decide) ?_
            refine V_iret d_Mo_district_175 rfl ?_
            refine ⟨?_, hm, fun _ _ => rfl⟩
            rw [dst_6]
            rw [if_neg (fun q => b167 ((hang_reach ha).mpr q))]
          · refine V_iconst (v := 1) d_Mo_district_170 (by decide) ?_
            refine V_goto (tgt := 175) d_Mo_district_171 (by decide) ?_
            refine V_iret d_Mo_district_175 rfl ?_
            refine ⟨?_, hm, fun _ _ => rfl⟩
            rw [dst_6]
            rw [if_pos ((hang_reach ha).mp b167)]
      · refine V_tableIn (off := 140) (tgt := 176) d_Mo_district_36 (by decide) (by decide) (by decide) (by decide) ?_
        refine V_iload_n d_Mo_district_176 rfl ?_
        refine V_if_ne (tgt := 184) d_Mo_district_177 (by decide) (fun b177 => ?_) (fun b177 => ?_)
        · obtain ⟨a, ha⟩ : ∃ a, fstO P 30 = some a := by
            cases hf : fstO P 30 with
            | some a => exact ⟨a, rfl⟩
            | none => exact absurd (mI_eq0.mpr (fstO_none_iff.mp hf)) b177
          refine V_iload_n d_Mo_district_184 rfl ?_
          refine V_callS1 d_Mo_district_185 k_Mo_109 rfl (c_leastOf h ha) rfl (by first | decide | omega) rfl (Nat.le_of_ble_eq_true rfl) ?_
          refine V_iret d_Mo_district_188 rfl ?_
          refine ⟨?_, hm, fun _ _ => rfl⟩
          rw [dst_7, ha]
          rfl
        · refine V_iconst (v := -1) d_Mo_district_180 (by decide) ?_
          refine V_goto (tgt := 188) d_Mo_district_181 (by decide) ?_
          refine V_iret d_Mo_district_188 rfl ?_
          refine ⟨?_, hm, fun _ _ => rfl⟩
          rw [dst_7, fstO_none_iff.mpr (mI_eq0.mp b177)]
          rfl
    · refine V_iconst (v := -1) d_Mo_district_24 (by decide) ?_
      refine V_iret d_Mo_district_25 rfl ?_
      rw [p2i] at b21
      exact ⟨by rw [opDistrict_no (fun q => b21 q.2)], by rw [opDistrict_no (fun q => b21 q.2)]; exact hm, fun _ _ => rfl⟩
