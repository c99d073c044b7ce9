def exB (q : Nat → Bool) : Nat → Bool
  | 0 => false
  | n + 1 => exB q n || q n
theorem exB_iff {q : Nat → Bool} : ∀ {n : Nat}, exB q n = true ↔ ∃ i, i < n ∧ q i = true
  | 0 => by simp [exB]
  | n + 1 => by
    rw [exB, Bool.or_eq_true, exB_iff]
    constructor
    · rintro (⟨i, hi, h⟩ | h)
      · exact ⟨i, by omega, h⟩
      · exact ⟨n, by omega, h⟩
    · rintro ⟨i, hi, h⟩
      rcases Nat.lt_or_ge i n with c | c
      · exact Or.inl ⟨i, c, h⟩
      · right
        rw [show n = i by omega]
        exact h
theorem cnt_mono {p q : Nat → Bool} : ∀ {n : Nat}, (∀ i, i < n → p i = true → q i = true) → fa_cnt p n ≤ fa_cnt q n
  | 0, _ => Nat.le_refl _
  | n + 1, h => by
    have h1 := cnt_mono (fun i hi => h i (Nat.lt_succ_of_lt hi)) (n := n)
    have h2 := h n (by omega)
    rw [fa_cnt, fa_cnt]
    cases hp : p n <;> cases hq : q n <;> simp_all <;> omega
theorem cnt_lt {p q : Nat → Bool} : ∀ {n : Nat}, (∀ i, i < n → p i = true → q i = true) → ∀ j, j < n → p j = false → q j = true → fa_cnt p n < fa_cnt q n
  | 0, _, j, hj, _, _ => absurd hj (Nat.not_lt_zero j)
  | n + 1, h, j, hj, h1, h2 => by
    rw [fa_cnt, fa_cnt]
    rcases Nat.lt_or_ge j n with c | c
    · have := cnt_lt (fun i hi => h i (Nat.lt_succ_of_lt hi)) j c h1 h2
      have h3 := h n (by omega)
      cases hp : p n <;> cases hq : q n <;> simp_all <;> omega
    · have : j = n := by omega
      subst this
      have := cnt_mono (fun i hi => h i (Nat.lt_succ_of_lt hi)) (n := j)
      rw [h1, h2]
      simp
      omega
theorem c_reached {E : Wd} {h : Hp} {D : LD} (hl : MoLand h D) (ok : okLD D) {P : Nat → Bool} (hsub : ∀ j, j < 30 → P j = true → j < dN D) {a : Nat} (ha : fstO P 30 = some a) : Cd E 2 m_Mo_reached [.ref 41, .int (mI P)] h (some (.int (mI (reach D P a)))) h := by
  have hn := ok.1
  obtain ⟨ha30, hPa, hno⟩ := fstO_lt ha
  refine Cd_of ok_Mo_reached rfl (Nat.le_of_ble_eq_true rfl) (L := [some (.ref 41), some (.int (mI P)), none, none, none, none]) rfl ?_
  refine V_iconst (v := 1) d_Mo_reached_0 (by decide) ?_
  refine V_iload_n d_Mo_reached_1 rfl ?_
  refine V_callS1 d_Mo_reached_2 k_Mo_109 rfl (c_leastOf h ha) rfl (by first | decide | omega) rfl (Nat.le_of_ble_eq_true rfl) ?_
  refine V_ishl d_Mo_reached_5 ?_
  refine V_istore_n d_Mo_reached_6 (by decide) ?_
  dsimp only [List.set]
  refine V_iconst (v := 1) d_Mo_reached_7 (by decide) ?_
  refine V_istore_n d_Mo_reached_8 (by decide) ?_
  dsimp only [List.set]
  rw [shl1 a ha30]
  have main : ∀ m (C : Nat → Bool) u4 u5, 30 - fa_cnt C 30 ≤ m → C a = true → (∀ j, j < 30 → C j = true → P j = true) → (∀ T, cloP (dNb D) P (fun j => decide (j = a)) T → ∀ j, j < 30 → C j = true → T j = true) →
      V E 2 m_Mo_reached (fun v' h' => v' = some (.int (mI (reach D P a))) ∧ h' = h) 9 [some (.ref 41), some (.int (mI P)), some (.int (mI C)), some (.int 1), u4, u5] [] h := by
    have step : ∀ m, (∀ (C : Nat → Bool) u4 u5, 30 - fa_cnt C 30 < m → C a = true → (∀ j, j < 30 → C j = true → P j = true) → (∀ T, cloP (dNb D) P (fun j => decide (j = a)) T → ∀ j, j < 30 → C j = true → T j = true) →
      V E 2 m_Mo_reached (fun v' h' => v' = some (.int (mI (reach D P a))) ∧ h' = h) 9 [some (.ref 41), some (.int (mI P)), some (.int (mI C)), some (.int 1), u4, u5] [] h) →
      ∀ (C : Nat → Bool) u4 u5, 30 - fa_cnt C 30 ≤ m → C a = true → (∀ j, j < 30 → C j = true → P j = true) → (∀ T, cloP (dNb D) P (fun j => decide (j = a)) T → ∀ j, j < 30 → C j = true → T j = true) →
      V E 2 m_Mo_reached (fun v' h' => v' = some (.int (mI (reach D P a))) ∧ h' = h) 9 [some (.ref 41), some (.int (mI P)), some (.int (mI C)), some (.int 1), u4, u5] [] h := by
      intro m ih C u4 u5 hm hCa hCP hmin
      refine V_iload_n d_Mo_reached_9 rfl ?_
      refine V_if_eq (tgt := 79) d_Mo_reached_10 (by decide) (fun b10 => ?_) (fun b10 => ?_)
      · exact absurd b10 (by decide)
      · refine V_iload_n d_Mo_reached_13 rfl ?_
        refine V_istore d_Mo_reached_14 (by decide) ?_
        dsimp only [List.set]
        refine V_iconst (v := 0) d_Mo_reached_16 (by decide) ?_
        refine V_istore d_Mo_reached_17 (by decide) ?_
        dsimp only [List.set]
        have inner : ∀ i, i ≤ dN D → V E 2 m_Mo_reached (fun v' h' => v' = some (.int (mI (reach D P a))) ∧ h' = h) 19 [some (.ref 41), some (.int (mI P)), some (.int (mI C)), some (.int 1), some (.int (mI (fun j => C j || exB (fun p => C p && (dNb D p j && P j)) i))), some (.int (nI i))] [] h := by
          refine up_ind (dN D) ?_
          intro i hi ihi
          refine V_iload d_Mo_reached_19 rfl ?_
          refine V_aload_n d_Mo_reached_21 rfl ?_
          refine V_getI d_Mo_reached_22 f_Mo_91 rfl (by first | rfl | assumption) (by first | rfl | assumption) ?_
          rw [hl.1]
          refine V_icmp_ge (tgt := 61) d_Mo_reached_25 (by decide) (fun b25 => ?_) (fun b25 => ?_)
          · obtain rfl := ge_eq b25 rfl rfl (by omega) hi
            clear ihi
            have hsup : ∀ j, j < 30 → C j = true → (C j || exB (fun p => C p && (dNb D p j && P j)) (dN D)) = true := fun j _ q => by rw [q]; rfl
            refine V_iload d_Mo_reached_61 rfl ?_
            refine V_iload_n d_Mo_reached_63 rfl ?_
            refine V_icmp_eq (tgt := 71) d_Mo_reached_64 (by decide) (fun b64 => ?_) (fun b64 => ?_)
            · refine V_iconst (v := 0) d_Mo_reached_71 (by decide) ?_
              refine V_istore_n d_Mo_reached_72 (by decide) ?_
              dsimp only [List.set]
              refine V_iload d_Mo_reached_73 rfl ?_
              refine V_istore_n d_Mo_reached_75 (by decide) ?_
              dsimp only [List.set]
              refine V_goto (tgt := 9) d_Mo_reached_76 (by decide) ?_
              have hsame : ∀ j, j < 30 → (C j || exB (fun p => C p && (dNb D p j && P j)) (dN D)) = C j := fun j hj => mI_inj b64 hj
              rw [mI_cong hsame]
              refine V_iload_n d_Mo_reached_9 rfl ?_
              refine V_if_eq (tgt := 79) d_Mo_reached_10 (by decide) (fun b10 => ?_) (fun b10 => ?_)
              · refine V_iload_n d_Mo_reached_79 rfl ?_
                refine V_iret d_Mo_reached_80 rfl ?_
                refine ⟨?_, rfl⟩
                rw [mI_cong (P := C) (P' := reach D P a) (fun j hj => ?_)]
                refine cloB_eq ⟨fun j hj q1 q2 => ?_, fun i j hi hj q1 q2 q3 => ?_⟩ hmin hj
                · rw [show j = a by simpa using q1]; exact hCa
                · rw [← hsame j hj, Bool.or_eq_true]
                  right
                  exact exB_iff.mpr ⟨i, hsub i hi (hCP i hi q1), by rw [q1, q2, q3]; rfl⟩
              · exact absurd rfl b10
            · refine V_iconst (v := 1) d_Mo_reached_67 (by decide) ?_
              refine V_goto (tgt := 72) d_Mo_reached_68 (by decide) ?_
              refine V_istore_n d_Mo_reached_72 (by decide) ?_
              dsimp only [List.set]
              refine V_iload d_Mo_reached_73 rfl ?_
              refine V_istore_n d_Mo_reached_75 (by decide) ?_
              dsimp only [List.set]
              refine V_goto (tgt := 9) d_Mo_reached_76 (by decide) ?_
              have hex : ∃ j, j < 30 ∧ C j = false ∧ (C j || exB (fun p => C p && (dNb D p j && P j)) (dN D)) = true := by
                apply Classical.byContradiction
                intro hn2
                apply b64
                refine mI_cong (fun j hj => ?_)
                cases hc : C j with
                | true => rfl
                | false =>
                  cases hz : exB (fun p => C p && (dNb D p j && P j)) (dN D) with
                  | false => rfl
                  | true => exact (hn2 ⟨j, hj, hc, by rw [hz, Bool.or_true]⟩).elim
              obtain ⟨j, hj, q1, q2⟩ := hex
              have hlt := cnt_lt (p := C) (q := fun j => C j || exB (fun p => C p && (dNb D p j && P j)) (dN D)) hsup j hj q1 q2
              have hle := fa_cnt_le (fun j => C j || exB (fun p => C p && (dNb D p j && P j)) (dN D)) 30
              refine ih _ _ _ (by omega) (by rw [hCa]; rfl) (fun j hj q => ?_) (fun T hT j hj q => ?_)
              · rw [Bool.or_eq_true] at q
                rcases q with q | q
                · exact hCP j hj q
                · obtain ⟨p, hp, q⟩ := exB_iff.mp q
                  simp only [Bool.and_eq_true] at q
                  exact q.2.2
              · rw [Bool.or_eq_true] at q
                rcases q with q | q
                · exact hmin T hT j hj q
                · obtain ⟨p, hp, q⟩ := exB_iff.mp q
                  simp only [Bool.and_eq_true] at q
                  exact hT.2 p j (by omega) hj (hmin T hT p (by omega) q.1) q.2.2 q.2.1
          · have hin' := nge_lt b25 rfl rfl (by omega) hi
            have hin : vp_in (nI i) 30 := vp_in_nI (by omega) (by omega)
            have ihi := ihi hin'
            refine V_iload d_Mo_reached_28 rfl ?_
            refine V_iload_n d_Mo_reached_30 rfl ?_
            refine V_iload d_Mo_reached_31 rfl ?_
            refine V_callS1 d_Mo_reached_33 k_Mo_98 rfl (c_Mhas h (mI C) (show i < 32 by omega)) rfl (by first | decide | omega) rfl (Nat.le_of_ble_eq_true rfl) ?_
            rw [mI_b (by omega)]
            refine V_if_eq (tgt := 51) d_Mo_reached_36 (by decide) (fun b36 => ?_) (fun b36 => ?_)
            · refine V_iconst (v := 0) d_Mo_reached_51 (by decide) ?_
              refine V_ior d_Mo_reached_52 ?_
              refine V_istore d_Mo_reached_53 (by decide) ?_
              dsimp only [List.set]
              refine V_iincw (w := 1) d_Mo_reached_55 rfl (by decide) (by decide) ?_
              dsimp only [List.set]
              refine V_goto (tgt := 19) d_Mo_reached_58 (by decide) ?_
              rw [nI_1, ← mI_0, mI_or]
              rw [mI_cong (P := fun j => C j || exB (fun p => C p && (dNb D p j && P j)) (i + 1)) (P' := fun j => C j || exB (fun p => C p && (dNb D p j && P j)) i || false) (fun j hj => by rw [exB, b2i.mp b36]; simp)] at ihi
              exact ihi
            · refine V_aload_n d_Mo_reached_39 rfl ?_
              refine V_getR d_Mo_reached_40 f_Mo_31 rfl (by first | rfl | assumption) (by first | rfl | assumption) ?_
              refine V_iload d_Mo_reached_43 rfl ?_
              refine V_iald d_Mo_reached_45 (by first | rfl | assumption) (by first | assumption | exact vp_in_nI (by omega) (by omega)) ?_
              refine V_iload_n d_Mo_reached_46 rfl ?_
              refine V_iand d_Mo_reached_47 ?_
              refine V_goto (tgt := 52) d_Mo_reached_48 (by decide) ?_
              refine V_ior d_Mo_reached_52 ?_
              refine V_istore d_Mo_reached_53 (by decide) ?_
              dsimp only [List.set]
              refine V_iincw (w := 1) d_Mo_reached_55 rfl (by decide) (by decide) ?_
              dsimp only [List.set]
              refine V_goto (tgt := 19) d_Mo_reached_58 (by decide) ?_
              rw [nI_1, nI_clamp (by omega), hl.2.2.2.2 i (by omega), mI_and, mI_or]
              rw [mI_cong (P := fun j => C j || exB (fun p => C p && (dNb D p j && P j)) (i + 1)) (P' := fun j => C j || exB (fun p => C p && (dNb D p j && P j)) i || (dNb D i j && P j)) (fun j hj => by rw [exB, b2in.mp b36]; simp [Bool.or_assoc])] at ihi
              exact ihi
        have h0 := inner 0 (Nat.zero_le _)
        rw [mI_cong (P := fun j => C j || exB (fun p => C p && (dNb D p j && P j)) 0) (P' := C) (fun j hj => by simp [exB])] at h0
        exact h0
    intro m
    induction m with
    | zero => exact step 0 (fun C u4 u5 hlt => absurd hlt (Nat.not_lt_zero _))
    | succ m ih => exact step (m + 1) (fun C u4 u5 hlt => ih C u4 u5 (by omega))
  refine main 30 (fun j => decide (j = a)) _ _ (Nat.sub_le _ _) (by simp) (fun j hj q => ?_) (fun T hT j hj q => ?_)
  · rw [show j = a by simpa using q]; exact hPa
  · exact hT.1 j hj q (by rw [show j = a by simpa using q]; exact hPa)
theorem lcmp_gt (x y : Int64) : 0 < lg_cmp x y ↔ y < x := by
  unfold lg_cmp
  by_cases h : x > y
  · rw [if_pos h]
    exact ⟨fun _ => h, fun _ => by decide⟩
  · rw [if_neg h]
    constructor
    · intro q
      split at q <;> exact absurd q (by decide)
    · intro q
      exact absurd q h
theorem c_Mfits {E : Wd} {h : Hp} {D : LD} {w : LW} (hl : MoLand h D) (ok : okLD D) (hw : MoLaw h w) (okw : okLW w) (P : Nat → Bool) : Cd E 3 m_Mo_fits [.ref 41, .int (mI P)] h (some (.int (if fitN (wK w) (wT w) (pplN D P) (tot D) then 1 else 0))) h := by
  have ha := tot_le ok
  have hq := pplN_le ok P
  have hk := okw.2.1
  have ht := okw.2.2.1
  have hkq : wK w * pplN D P ≤ 6 * 30000 := Nat.mul_le_mul hk hq
  have hta : wT w * tot D ≤ 1000 * 30000 := Nat.mul_le_mul ht ha
  refine Cd_of ok_Mo_fits rfl (Nat.le_of_ble_eq_true rfl) (L := [some (.ref 41), some (.int (mI P)), none]) rfl ?_
  refine V_aload_n d_Mo_fits_0 rfl ?_
  refine V_getI d_Mo_fits_1 f_Mo_34 rfl (by first | rfl | assumption) (by first | rfl | assumption) ?_
  refine V_aload_n d_Mo_fits_4 rfl ?_
  refine V_iload_n d_Mo_fits_5 rfl ?_
  refine V_callV1 d_Mo_fits_6 k_Mo_105 rfl (c_peopleOf hl ok P) (by first | rfl | assumption) rfl rfl (by first | decide | omega) rfl (Nat.le_of_ble_eq_true rfl) ?_
  refine V_imul d_Mo_fits_9 ?_
  refine V_aload_n d_Mo_fits_10 rfl ?_
  refine V_callV1 d_Mo_fits_11 k_Mo_112 rfl (c_all hl ok) (by first | rfl | assumption) rfl rfl (by first | decide | omega) rfl (Nat.le_of_ble_eq_true rfl) ?_
  rw [hw.1, pk_mul]
  have fin : ∀ m u2, m = (if wK w * pplN D P < tot D then tot D - wK w * pplN D P else wK w * pplN D P - tot D) → V E 3 m_Mo_fits (fun v' h' => v' = some (.int (if fitN (wK w) (wT w) (pplN D P) (tot D) then 1 else 0)) ∧ h' = h) 29 [some (.ref 41), some (.int (mI P)), u2] [.int (nI m), .long 1000] h := by
    intro m u2 hm
    have hm2 : m ≤ 180000 := by rw [hm]; split <;> omega
    refine V_i2l d_Mo_fits_29 rfl ?_
    refine V_lmul d_Mo_fits_30 ?_
    refine V_aload_n d_Mo_fits_31 rfl ?_
    refine V_getI d_Mo_fits_32 f_Mo_38 rfl (by first | rfl | assumption) (by first | rfl | assumption) ?_
    refine V_i2l d_Mo_fits_35 rfl ?_
    refine V_aload_n d_Mo_fits_36 rfl ?_
    refine V_callV1 d_Mo_fits_37 k_Mo_112 rfl (c_all hl ok) (by first | rfl | assumption) rfl rfl (by first | decide | omega) rfl (Nat.le_of_ble_eq_true rfl) ?_
    refine V_i2l d_Mo_fits_40 rfl ?_
    refine V_lmul d_Mo_fits_41 ?_
    refine V_lcmp d_Mo_fits_42 ?_
    rw [hw.2.1, nI_l (by omega), nI_l (by omega), nI_l (by omega), show (1000 : Int64) = lN 1000 from rfl, lN_mul, lN_mul]
    refine V_if_gt (tgt := 50) d_Mo_fits_43 (by decide) (fun b43 => ?_) (fun b43 => ?_)
    · rw [lcmp_gt, pk_lLT (by omega) (by omega)] at b43
      refine V_iconst (v := 0) d_Mo_fits_50 (by decide) ?_
      refine V_zret d_Mo_fits_51 rfl (by first | rfl | decide | assumption) ?_
      refine ⟨?_, rfl⟩
      unfold fitN
      rw [decide_eq_false (by rw [← hm]; omega)]
      rfl
    · rw [lcmp_gt, pk_lLT (by omega) (by omega)] at b43
      refine V_iconst (v := 1) d_Mo_fits_46 (by decide) ?_
      refine V_goto (tgt := 51) d_Mo_fits_47 (by decide) ?_
      refine V_zret d_Mo_fits_51 rfl (by first | rfl | decide | assumption) ?_
      refine ⟨?_, rfl⟩
      unfold fitN
      rw [decide_eq_true (by rw [← hm]; omega)]
      rfl
  refine V_isub d_Mo_fits_14 ?_
  refine V_istore_n d_Mo_fits_15 (by decide) ?_
  dsimp only [List.set]
  refine V_ldc2_w d_Mo_fits_16 v_Mo_116 rfl ?_
  refine V_iload_n d_Mo_fits_19 rfl ?_
  refine V_if_ge (tgt := 28) d_Mo_fits_20 (by decide) (fun b20 => ?_) (fun b20 => ?_)
  · refine V_iload_n d_Mo_fits_28 rfl ?_
    have hge : ¬ wK w * pplN D P < tot D := fun q => (fa_of_lt (pk_sneg (by omega) q)).2.1 b20
    rw [pk_sub (by omega)]
    exact fin _ _ (by rw [if_neg hge])
  · refine V_iload_n d_Mo_fits_23 rfl ?_
    refine V_ineg d_Mo_fits_24 ?_
    refine V_goto (tgt := 29) d_Mo_fits_25 (by decide) ?_
    have hlt : wK w * pplN D P < tot D := by
      rcases Nat.lt_or_ge (wK w * pplN D P) (tot D) with q | q
      · exact q
      · exact absurd (by rw [pk_sub q]; exact nI_pos' (by omega)) b20
    rw [Int32.neg_sub, pk_sub (a := tot D) (b := wK w * pplN D P) (by omega)]
    exact fin _ _ (by rw [if_pos hlt])
/-- a town is cut among the places below i -/
noncomputable def cutI (D : LD) (ds : Nat → Nat) (t i : Nat) : Bool := @decide (∃ a b, a < i ∧ b < i ∧ town D t a = true ∧ town D t b = true ∧ ds a ≠ ds b) (Classical.propDecidable _)
theorem cutI_iff {D : LD} {ds : Nat → Nat} {t i : Nat} : cutI D ds t i = true ↔ ∃ a b, a < i ∧ b < i ∧ town D t a = true ∧ town D t b = true ∧ ds a ≠ ds b := by
  unfold cutI
  exact @decide_eq_true_iff _ (Classical.propDecidable _)
theorem cutI_n {D : LD} {ds : Nat → Nat} {t : Nat} : cutI D ds t (dN D) = cutB D ds t := by
  cases h1 : cutB D ds t with
  | true =>
    obtain ⟨a, b, q1, q2, q3⟩ := cutB_iff.mp h1
    exact cutI_iff.mpr ⟨a, b, town_lt q1, town_lt q2, q1, q2, q3⟩
  | false =>
    cases h2 : cutI D ds t (dN D) with
    | false => rfl
    | true =>
      obtain ⟨a, b, -, -, q1, q2, q3⟩ := cutI_iff.mp h2
      rw [cutB_iff.mpr ⟨a, b, q1, q2, q3⟩] at h1
      cases h1
theorem cutI_no {D : LD} {ds : Nat → Nat} {t i : Nat} (h : cutI D ds t i = false) {a b : Nat} (ha : a < i) (hb : b < i) (h1 : town D t a = true) (h2 : town D t b = true) : ds a = ds b := by
  apply Classical.byContradiction
  intro q
  rw [cutI_iff.mpr ⟨a, b, ha, hb, h1, h2, q⟩] at h
  cases h
theorem cutI_skip {D : LD} {ds : Nat → Nat} {t i : Nat} (h : town D t i = false) : cutI D ds t (i + 1) = cutI D ds t i := by
  have key : ∀ a, a < i + 1 → town D t a = true → a < i := by
    intro a ha hq
    rcases Nat.lt_or_ge a i with c | c
    · exact c
    · rw [show a = i by omega, h] at hq; cases hq
  cases h1 : cutI D ds t i with
  | true =>
    obtain ⟨a, b, q1, q2, q3⟩ := cutI_iff.mp h1
    exact cutI_iff.mpr ⟨a, b, by omega, by omega, q3⟩
  | false =>
    cases h2 : cutI D ds t (i + 1) with
    | false => rfl
    | true =>
      obtain ⟨a, b, q1, q2, q3, q4, q5⟩ := cutI_iff.mp h2
      exact absurd (cutI_no h1 (key a q1 q3) (key b q2 q4) q3 q4) q5
theorem c_MisCut {E : Wd} {h : Hp} {D : LD} (hl : MoLand h D) (ok : okLD D) {ds : Nat → Nat} (hd : MoDs h ds) {t : Nat} (ht : t < 10) : Cd E 0 m_Mo_isCut [.ref 41, .int (nI t)] h (some (.int (if cutB D ds t then 1 else 0))) h := by
  have hn := ok.1
  refine Cd_of ok_Mo_isCut rfl (Nat.le_of_ble_eq_true rfl) (L := [some (.ref 41), some (.int (nI t)), none, none, none]) rfl ?_
  refine V_iconst (v := -1) d_Mo_isCut_0 (by decide) ?_
  refine V_istore_n d_Mo_isCut_1 (by decide) ?_
  dsimp only [List.set]
  refine V_iconst (v := 0) d_Mo_isCut_2 (by decide) ?_
  refine V_istore_n d_Mo_isCut_3 (by decide) ?_
  dsimp only [List.set]
  refine V_iconst (v := 0) d_Mo_isCut_4 (by decide) ?_
  refine V_istore d_Mo_isCut_5 (by decide) ?_
  dsimp only [List.set]
  have loop : ∀ i, i ≤ dN D → ∀ dd : Int32, ((∀ a, a < i → town D t a = false) ∧ dd = -1 ∨ ∃ a, a < i ∧ town D t a = true ∧ dd = nI (ds a)) → V E 0 m_Mo_isCut (fun v' h' => v' = some (.int (if cutB D ds t then 1 else 0)) ∧ h' = h) 7 [some (.ref 41), some (.int (nI t)), some (.int dd), some (.int (if cutI D ds t i then 1 else 0)), some (.int (nI i))] [] h := by
    refine up_ind (dN D) ?_
    intro i hi ih dd hdd
    refine V_iload d_Mo_isCut_7 rfl ?_
    refine V_aload_n d_Mo_isCut_9 rfl ?_
    refine V_getI d_Mo_isCut_10 f_Mo_91 rfl (by first | rfl | assumption) (by first | rfl | assumption) ?_
    rw [hl.1]
    refine V_icmp_ge (tgt := 66) d_Mo_isCut_13 (by decide) (fun b13 => ?_) (fun b13 => ?_)
    · obtain rfl := ge_eq b13 rfl rfl (by omega) hi
      refine V_iload_n d_Mo_isCut_66 rfl ?_
      refine V_zret d_Mo_isCut_67 rfl (by split <;> rfl) ?_
      exact ⟨by rw [cutI_n], rfl⟩
    · have hin' := nge_lt b13 rfl rfl (by omega) hi
      have hin : vp_in (nI i) 30 := vp_in_nI (by omega) (by omega)
      have hdi := hd i (by omega)
      have hti := (hl.2.2.1 i hin').2.2.2.2
      have htw := (ok.2.2.1 i hin').2.2.2.2
      have ih := ih hin'
      have tail : ∀ c : Bool, town D t i = true → cutI D ds t (i + 1) = c → V E 0 m_Mo_isCut (fun v' h' => v' = some (.int (if cutB D ds t then 1 else 0)) ∧ h' = h) 51 [some (.ref 41), some (.int (nI t)), some (.int dd), some (.int (if cutI D ds t i then 1 else 0)), some (.int (nI i))] [.int (if c then 1 else 0)] h := by
        intro c hT hc
        refine V_istore_n d_Mo_isCut_51 (by decide) ?_
        dsimp only [List.set]
        refine V_aload_n d_Mo_isCut_52 rfl ?_
        refine V_getR d_Mo_isCut_53 f_Mo_51 rfl (by first | rfl | assumption) (by first | rfl | assumption) ?_
        refine V_iload d_Mo_isCut_56 rfl ?_
        refine V_iald d_Mo_isCut_58 (by first | rfl | assumption) (by first | assumption | exact vp_in_nI (by omega) (by omega)) ?_
        refine V_istore_n d_Mo_isCut_59 (by decide) ?_
        dsimp only [List.set]
        refine V_iincw (w := 1) d_Mo_isCut_60 rfl (by decide) (by decide) ?_
        dsimp only [List.set]
        refine V_goto (tgt := 7) d_Mo_isCut_63 (by decide) ?_
        rw [nI_1, nI_clamp (by omega), hdi.2, ← hc]
        exact ih _ (Or.inr ⟨i, by omega, hT, rfl⟩)
      refine V_aload_n d_Mo_isCut_16 rfl ?_
      refine V_getR d_Mo_isCut_17 f_Mo_19 rfl (by first | rfl | assumption) (by first | rfl | assumption) ?_
      refine V_iload d_Mo_isCut_20 rfl ?_
      refine V_iald d_Mo_isCut_22 (by first | rfl | assumption) (by first | assumption | exact vp_in_nI (by omega) (by omega)) ?_
      rw [nI_clamp (by omega), hti]
      refine V_iload_n d_Mo_isCut_23 rfl ?_
      refine V_icmp_ne (tgt := 60) d_Mo_isCut_24 (by decide) (fun b24 => ?_) (fun b24 => ?_)
      · have hT : town D t i = false := by
          unfold town
          rw [show decide (dTw D i = t) = false from decide_eq_false (fun q => b24 (by rw [q])), Bool.and_false]
        refine V_iincw (w := 1) d_Mo_isCut_60 rfl (by decide) (by decide) ?_
        dsimp only [List.set]
        refine V_goto (tgt := 7) d_Mo_isCut_63 (by decide) ?_
        rw [nI_1, ← cutI_skip hT]
        refine ih dd ?_
        rcases hdd with ⟨q1, q2⟩ | ⟨a, q1, q2⟩
        · left
          refine ⟨fun a ha => ?_, q2⟩
          rcases Nat.lt_or_ge a i with c | c
          · exact q1 a c
          · rw [show a = i by omega]; exact hT
        · right
          exact ⟨a, by omega, q2⟩
      · have hT : town D t i = true := by
          have := (nI_eq (by omega) (by omega)).mp b24
          unfold town
          simp [hin', this]
        refine V_iload_n d_Mo_isCut_27 rfl ?_
        refine V_if_ne (tgt := 46) d_Mo_isCut_28 (by decide) (fun b28 => ?_) (fun b28 => ?_)
        · have hc := b2in.mp b28
          refine V_iconst (v := 1) d_Mo_isCut_46 (by decide) ?_
          refine V_goto (tgt := 51) d_Mo_isCut_47 (by decide) ?_
          refine tail true hT ?_
          obtain ⟨a, b, q1, q2, q3⟩ := cutI_iff.mp hc
          exact cutI_iff.mpr ⟨a, b, by omega, by omega, q3⟩
        · have hc := b2i.mp b28
          refine V_iload_n d_Mo_isCut_31 rfl ?_
          refine V_if_lt (tgt := 50) d_Mo_isCut_32 (by decide) (fun b32 => ?_) (fun b32 => ?_)
          · refine V_iconst (v := 0) d_Mo_isCut_50 (by decide) ?_
            refine tail false hT ?_
            rcases hdd with ⟨q1, q2⟩ | ⟨a, q1, q2, q3⟩
            · cases hz : cutI D ds t (i + 1) with
              | false => rfl
              | true =>
                obtain ⟨a, b, r1, r2, r3, r4, r5⟩ := cutI_iff.mp hz
                have ea : a = i := by
                  rcases Nat.lt_or_ge a i with c | c
                  · rw [q1 a c] at r3; cases r3
                  · omega
                have eb : b = i := by
                  rcases Nat.lt_or_ge b i with c | c
                  · rw [q1 b c] at r4; cases r4
                  · omega
                rw [ea, eb] at r5
                exact absurd rfl r5
            · rw [q3] at b32
              exact absurd b32 (nI_pos (by have := (hd a (by omega)).1; omega))
          · rcases hdd with ⟨q1, q2⟩ | ⟨a, q1, q2, q3⟩
            · rw [q2] at b32
              exact absurd (by decide) b32
            · subst q3
              have ha6 := (hd a (by omega)).1
              refine V_aload_n d_Mo_isCut_35 rfl ?_
              refine V_getR d_Mo_isCut_36 f_Mo_51 rfl (by first | rfl | assumption) (by first | rfl | assumption) ?_
              refine V_iload d_Mo_isCut_39 rfl ?_
              refine V_iald d_Mo_isCut_41 (by first | rfl | assumption) (by first | assumption | exact vp_in_nI (by omega) (by omega)) ?_
              refine V_iload_n d_Mo_isCut_42 rfl ?_
              rw [nI_clamp (by omega), hdi.2]
              refine V_icmp_eq (tgt := 50) d_Mo_isCut_43 (by decide) (fun b43 => ?_) (fun b43 => ?_)
              · refine V_iconst (v := 0) d_Mo_isCut_50 (by decide) ?_
                have heq := (nI_eq (by omega) (by omega)).mp b43
                refine tail false hT ?_
                cases hz : cutI D ds t (i + 1) with
                | false => rfl
                | true =>
                  obtain ⟨x, y, r1, r2, r3, r4, r5⟩ := cutI_iff.mp hz
                  have key : ∀ x, x < i + 1 → town D t x = true → ds x = ds a := by
                    intro x hx hxt
                    rcases Nat.lt_or_ge x i with c | c
                    · exact cutI_no hc c q1 hxt q2
                    · rw [show x = i by omega]; exact heq
                  exact absurd ((key x r1 r3).trans (key y r2 r4).symm) r5
              · refine V_iconst (v := 1) d_Mo_isCut_46 (by decide) ?_
                refine V_goto (tgt := 51) d_Mo_isCut_47 (by decide) ?_
                refine tail true hT ?_
                exact cutI_iff.mpr ⟨i, a, by omega, by omega, hT, q2, fun q => b43 (by rw [q])⟩
  have h0 := loop 0 (Nat.zero_le _) (-1) (Or.inl ⟨fun a ha => absurd ha (Nat.not_lt_zero a), rfl⟩)
  have e : cutI D ds t 0 = false := by
    cases hz : cutI D ds t 0 with
    | false => rfl
    | true =>
      obtain ⟨a, b, r1, -⟩ := cutI_iff.mp hz
      exact absurd r1 (Nat.not_lt_zero a)
  rw [e] at h0
  exact h0
