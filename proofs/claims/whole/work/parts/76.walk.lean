/-! the class's Walker: drawing -/
theorem c_Wdraw {E : Wd} (h : Hp) : Cd E 0 m_Walker_draw [.ref 25] h (some (.int (nI (drN (h 25 0))))) (hup h 25 0 (nxS (h 25 0))) := by
  refine Cd_of ok_Walker_draw rfl (Nat.le_of_ble_eq_true rfl) (L := [some (.ref 25)]) rfl ?_
  refine V_aload_n d_Walker_draw_0 rfl ?_
  refine V_aload_n d_Walker_draw_1 rfl ?_
  refine V_getI d_Walker_draw_2 f_Walker_138 rfl (by first | rfl | assumption) (by first | rfl | assumption) ?_
  refine V_ldc d_Walker_draw_5 v_Walker_142 rfl ?_
  refine V_imul d_Walker_draw_7 ?_
  refine V_sipush (v := 12345) d_Walker_draw_8 (by decide) ?_
  refine V_iadd d_Walker_draw_11 ?_
  refine V_put (ty := .int) d_Walker_draw_12 f_Walker_138 rfl (by first | rfl | assumption) (by first | rfl | assumption) (by decide +kernel) (by first | rfl | assumption) (by first | rfl | assumption) ?_
  refine V_aload_n d_Walker_draw_15 rfl ?_
  refine V_getI d_Walker_draw_16 f_Walker_138 rfl (by first | rfl | assumption) (by first | rfl | assumption) ?_
  refine V_bipush (v := 16) d_Walker_draw_19 (by decide) ?_
  refine V_iushr d_Walker_draw_21 rfl ?_
  refine V_iret d_Walker_draw_22 rfl ?_
  refine ⟨?_, rfl⟩
  rw [hup_same, upd_s]
  exact congrArg (fun x => some (Value.int x)) (drI_nI _)
theorem c_drawCrossing {E : Wd} {h : Hp} {D : LD} (hl : LandW h D) (ok : okLD D) {o : Nat} (ho : isPt o) (ho1 : o + 1 ≠ 29) {A : Nat → Bool} {ds : Nat → Nat} (hp : PartW h o A ds) : Cq E 1 m_Walker_drawCrossing [.ref 25, .ref o] h (fun v h' => ∃ f, if fa_cnt (crs D ds) (dB D) = 0 then v = some (.int (-1)) ∧ h' = hrow h 29 f else v = some (.int (nI (stB D ds (h 25 0)))) ∧ h' = hup (hrow h 29 f) 25 0 (nxS (h 25 0))) := by
  have hN := ok.1
  have hB := ok.2.1
  obtain ⟨ho0, hoa, hob⟩ := ho
  obtain ⟨Q, hQ⟩ : ∃ Q : Option Value → Hp → Prop, Q = fun v h' => ∃ f, if fa_cnt (crs D ds) (dB D) = 0 then v = some (.int (-1)) ∧ h' = hrow h 29 f else v = some (.int (nI (stB D ds (h 25 0)))) ∧ h' = hup (hrow h 29 f) 25 0 (nxS (h 25 0)) := ⟨_, rfl⟩
  rw [← hQ]
  refine Cq_of2 ok_Walker_drawCrossing rfl (Nat.le_of_ble_eq_true rfl) (L := [some (.ref 25), some (.ref o), none, none]) rfl ?_
  refine V_iconst (v := 0) d_Walker_drawCrossing_0 (by decide) ?_
  refine V_istore_n d_Walker_drawCrossing_1 (by decide) ?_
  dsimp only [List.set]
  refine V_iconst (v := 0) d_Walker_drawCrossing_2 (by decide) ?_
  refine V_istore_n d_Walker_drawCrossing_3 (by decide) ?_
  dsimp only [List.set]
  have loop : ∀ i, i ≤ dB D → ∀ f, (∀ k, k < fa_cnt (crs D ds) i → ∃ b, isNth (crs D ds) i k b ∧ f k = nI b) → V E 1 m_Walker_drawCrossing Q 4 [some (.ref 25), some (.ref o), some (.int (nI (fa_cnt (crs D ds) i))), some (.int (nI i))] [] (hrow h 29 f) := by
    refine up_ind (dB D) ?_
    intro i hi ih f hf
    have hlf : LandW (hrow h 29 f) D := hl.of (fun q c1 c2 => hrow_ne (by omega))
    have hcl := fa_cnt_le (crs D ds) i
    refine V_iload_n d_Walker_drawCrossing_4 rfl ?_
    refine V_aload_n d_Walker_drawCrossing_5 rfl ?_
    refine V_getR d_Walker_drawCrossing_6 f_Walker_9 rfl (by first | rfl | assumption) (by first | rfl | assumption) ?_
    refine V_getI d_Walker_drawCrossing_9 f_Walker_143 rfl (by first | rfl | assumption) (by first | rfl | assumption) ?_
    rw [hlf.2.1]
    refine V_icmp_ge (tgt := 62) d_Walker_drawCrossing_12 (by decide) (fun b12 => ?_) (fun b12 => ?_)
    · obtain rfl := ge_eq b12 rfl rfl (by omega) hi
      refine V_iload_n d_Walker_drawCrossing_62 rfl ?_
      refine V_if_ne (tgt := 70) d_Walker_drawCrossing_63 (by decide) (fun b63 => ?_) (fun b63 => ?_)
      · have hn0 : ¬ fa_cnt (crs D ds) (dB D) = 0 := fun z => b63 (by rw [z]; rfl)
        have es : (hrow h 29 f) 25 0 = h 25 0 := by rw [hrow_ne (by omega)]
        have hmod : drN (h 25 0) % fa_cnt (crs D ds) (dB D) < fa_cnt (crs D ds) (dB D) := Nat.mod_lt _ (by omega)
        have hdl := drN_lt (h 25 0)
        obtain ⟨b, hb, eb⟩ := hf _ hmod
        refine V_aload_n d_Walker_drawCrossing_70 rfl ?_
        refine V_getR d_Walker_drawCrossing_71 f_Walker_40 rfl (by first | rfl | assumption) (by first | rfl | assumption) ?_
        refine V_aload_n d_Walker_drawCrossing_74 rfl ?_
        refine V_callV1 d_Walker_drawCrossing_75 k_Walker_122 rfl (c_Wdraw _) (by first | rfl | assumption) rfl rfl (by first | decide | omega) rfl (Nat.le_of_ble_eq_true rfl) ?_
        rw [es]
        refine V_iload_n d_Walker_drawCrossing_78 rfl ?_
        refine V_irem d_Walker_drawCrossing_79 (by assumption) ?_
        rw [pk_rem (by omega) (by omega) (by omega)]
        have hin : vp_in (nI (drN (h 25 0) % fa_cnt (crs D ds) (dB D))) 100 := vp_in_nI (by omega) (by omega)
        refine V_iald d_Walker_drawCrossing_80 (by first | rfl | assumption) (by first | assumption | exact vp_in_nI (by omega) (by omega)) ?_
        refine V_iret d_Walker_drawCrossing_81 rfl ?_
        rw [nI_clamp (by omega), hup_ne (by omega), hrow_same, eb, hQ]
        refine ⟨f, ?_⟩
        rw [if_neg hn0]
        unfold stB
        rw [nthB_eq hb]
        exact ⟨rfl, rfl⟩
      · have hn0 : fa_cnt (crs D ds) (dB D) = 0 := (eq_nI _ 0 rfl rfl (by omega) (by decide)).mp b63
        refine V_iconst (v := -1) d_Walker_drawCrossing_66 (by decide) ?_
        refine V_goto (tgt := 81) d_Walker_drawCrossing_67 (by decide) ?_
        refine V_iret d_Walker_drawCrossing_81 rfl ?_
        rw [hQ]
        refine ⟨f, ?_⟩
        rw [if_pos hn0]
        exact ⟨rfl, rfl⟩
    · have hib := nge_lt b12 rfl rfl (by omega) hi
      have ih := ih hib
      have hin : vp_in (nI i) 100 := vp_in_nI (by omega) (by omega)
      have hbb := ok.2.2.2.1 i hib
      have hrw := hlf.2.2.2.2.1 i hib
      have hf1 := hp.1 (dFr D i) (by omega)
      have hf2 := hp.1 (dTo D i) (by omega)
      have hin1 : vp_in (nI (dFr D i)) 30 := vp_in_nI (by omega) (by omega)
      have hin2 : vp_in (nI (dTo D i)) 30 := vp_in_nI (by omega) (by omega)
      refine V_aload_n d_Walker_drawCrossing_15 rfl ?_
      refine V_getR d_Walker_drawCrossing_16 f_Walker_85 rfl (by first | rfl | assumption) (by first | rfl | assumption) ?_
      refine V_aload_n d_Walker_drawCrossing_19 rfl ?_
      refine V_getR d_Walker_drawCrossing_20 f_Walker_9 rfl (by first | rfl | assumption) (by first | rfl | assumption) ?_
      refine V_getR d_Walker_drawCrossing_23 f_Walker_88 rfl (by first | rfl | assumption) (by first | rfl | assumption) ?_
      refine V_iload_n d_Walker_drawCrossing_26 rfl ?_
      refine V_iald d_Walker_drawCrossing_27 (by first | rfl | assumption) (by first | assumption | exact vp_in_nI (by omega) (by omega)) ?_
      rw [nI_clamp (by omega), hrw.1]
      refine V_iald d_Walker_drawCrossing_28 (by first | rfl | assumption) (by first | assumption | exact vp_in_nI (by omega) (by omega)) ?_
      refine V_aload_n d_Walker_drawCrossing_29 rfl ?_
      refine V_getR d_Walker_drawCrossing_30 f_Walker_85 rfl (by first | rfl | assumption) (by first | rfl | assumption) ?_
      refine V_aload_n d_Walker_drawCrossing_33 rfl ?_
      refine V_getR d_Walker_drawCrossing_34 f_Walker_9 rfl (by first | rfl | assumption) (by first | rfl | assumption) ?_
      refine V_getR d_Walker_drawCrossing_37 f_Walker_93 rfl (by first | rfl | assumption) (by first | rfl | assumption) ?_
      refine V_iload_n d_Walker_drawCrossing_40 rfl ?_
      refine V_iald d_Walker_drawCrossing_41 (by first | rfl | assumption) (by first | assumption | exact vp_in_nI (by omega) (by omega)) ?_
      rw [show (nI (dFr D i)).toNatClampNeg = dFr D i from nI_clamp (by omega), hrow_ne ho1, hf1.2, nI_clamp (by omega), hrw.2.1]
      refine V_iald d_Walker_drawCrossing_42 (by first | rfl | assumption) (by first | assumption | exact vp_in_nI (by omega) (by omega)) ?_
      rw [nI_clamp (by omega), hrow_ne ho1, hf2.2]
      refine V_icmp_eq (tgt := 56) d_Walker_drawCrossing_43 (by decide) (fun b43 => ?_) (fun b43 => ?_)
      · have hc : crs D ds i = false := by
          unfold crs
          exact decide_eq_false (fun z => z ((nI_eq (by omega) (by omega)).mp b43))
        refine V_iincw (w := 1) d_Walker_drawCrossing_56 rfl (by decide) (by decide) ?_
        dsimp only [List.set]
        refine V_goto (tgt := 4) d_Walker_drawCrossing_59 (by decide) ?_
        rw [fa_cnt_no hc] at ih
        rw [nI_1]
        refine ih f (fun k hk => ?_)
        obtain ⟨b, ⟨g1, g2, g3⟩, g4⟩ := hf k hk
        exact ⟨b, ⟨by omega, g2, g3⟩, g4⟩
      · have hc : crs D ds i = true := by
          unfold crs
          exact decide_eq_true (fun z => b43 (by rw [z]))
        rw [fa_cnt_yes hc] at ih
        have hin3 : vp_in (nI (fa_cnt (crs D ds) i)) 100 := vp_in_nI (by omega) (by omega)
        refine V_aload_n d_Walker_drawCrossing_46 rfl ?_
        refine V_getR d_Walker_drawCrossing_47 f_Walker_40 rfl (by first | rfl | assumption) (by first | rfl | assumption) ?_
        refine V_iload_n d_Walker_drawCrossing_50 rfl ?_
        refine V_iload_n d_Walker_drawCrossing_51 rfl ?_
        refine V_iast d_Walker_drawCrossing_52 (by first | rfl | assumption) (by first | assumption | exact vp_in_nI (by omega) (by omega)) ?_
        refine V_iincw (w := 1) d_Walker_drawCrossing_53 rfl (by decide) (by decide) ?_
        dsimp only [List.set]
        refine V_iincw (w := 1) d_Walker_drawCrossing_56 rfl (by decide) (by decide) ?_
        dsimp only [List.set]
        refine V_goto (tgt := 4) d_Walker_drawCrossing_59 (by decide) ?_
        rw [nI_clamp (by omega), hup_hrow, nI_1, nI_1]
        refine ih _ (fun k hk => ?_)
        by_cases c : k = fa_cnt (crs D ds) i
        · rw [c, upd_s]
          exact ⟨i, ⟨by omega, hc, rfl⟩, rfl⟩
        · rw [upd_n c]
          obtain ⟨b, ⟨g1, g2, g3⟩, g4⟩ := hf k (by omega)
          exact ⟨b, ⟨by omega, g2, g3⟩, g4⟩
  have h0 := loop 0 (Nat.zero_le _) (h 29) (fun k hk => absurd hk (Nat.not_lt_zero k))
  rw [hrow_self] at h0
  exact h0
theorem c_Winsert {E : Wd} {h : Hp} {ks : Nat → Nat} {m key : Nat} (hm : m < 100) (hk : key < 2 ^ 31) (hr : ∀ i, i < m → h 29 i = nI (ks i) ∧ ks i < 2 ^ 31 ∧ ks i ≠ key) (hinc : ∀ i j, i < j → j < m → ks i < ks j) : Cq E 0 m_Walker_insert [.ref 25, .int (nI key), .int (nI m)] h (fun v h' => v = none ∧ ∃ f k, h' = hrow h 29 f ∧ k ≤ m ∧ (∀ i, i < k → ks i < key) ∧ (∀ i, k ≤ i → i < m → key < ks i) ∧ ∀ i, i < m + 1 → f i = nI (insL ks k key i)) := by
  refine Cq_of2 ok_Walker_insert rfl (Nat.le_of_ble_eq_true rfl) (L := [some (.ref 25), some (.int (nI key)), some (.int (nI m)), none]) rfl ?_
  refine V_iload_n d_Walker_insert_0 rfl ?_
  refine V_istore_n d_Walker_insert_1 (by decide) ?_
  dsimp only [List.set]
  have loop : ∀ j, j ≤ m → ∀ f, (∀ i, i < j → f i = nI (ks i)) → (∀ i, j < i → i ≤ m → f i = nI (ks (i - 1))) → (∀ i, j ≤ i → i < m → key < ks i) → V E 0 m_Walker_insert (fun v h' => v = none ∧ ∃ f k, h' = hrow h 29 f ∧ k ≤ m ∧ (∀ i, i < k → ks i < key) ∧ (∀ i, k ≤ i → i < m → key < ks i) ∧ ∀ i, i < m + 1 → f i = nI (insL ks k key i)) 2 [some (.ref 25), some (.int (nI key)), some (.int (nI m)), some (.int (nI j))] [] (hrow h 29 f) := by
    intro j
    have fin : ∀ j, j ≤ m → ∀ f, (∀ i, i < j → f i = nI (ks i)) → (∀ i, j < i → i ≤ m → f i = nI (ks (i - 1))) → (∀ i, j ≤ i → i < m → key < ks i) → (∀ i, i < j → ks i < key) → V E 0 m_Walker_insert (fun v h' => v = none ∧ ∃ f k, h' = hrow h 29 f ∧ k ≤ m ∧ (∀ i, i < k → ks i < key) ∧ (∀ i, k ≤ i → i < m → key < ks i) ∧ ∀ i, i < m + 1 → f i = nI (insL ks k key i)) 38 [some (.ref 25), some (.int (nI key)), some (.int (nI m)), some (.int (nI j))] [] (hrow h 29 f) := by
      intro j hj f f1 f2 f3 f4
      have hin : vp_in (nI j) 100 := vp_in_nI (by omega) (by omega)
      refine V_aload_n d_Walker_insert_38 rfl ?_
      refine V_getR d_Walker_insert_39 f_Walker_40 rfl (by first | rfl | assumption) (by first | rfl | assumption) ?_
      refine V_iload_n d_Walker_insert_42 rfl ?_
      refine V_iload_n d_Walker_insert_43 rfl ?_
      refine V_iast d_Walker_insert_44 (by first | rfl | assumption) (by first | assumption | exact vp_in_nI (by omega) (by omega)) ?_
      refine V_vret d_Walker_insert_45 rfl ?_
      rw [nI_clamp (by omega), hup_hrow]
      refine ⟨rfl, _, j, rfl, hj, f4, f3, fun i hi => ?_⟩
      unfold insL
      by_cases c1 : i < j
      · rw [if_pos c1, upd_n (by omega)]; exact f1 i c1
      · rw [if_neg c1]
        by_cases c2 : i = j
        · rw [if_pos c2, c2, upd_s]
        · rw [if_neg c2, upd_n c2]; exact f2 i (by omega) (by omega)
    induction j with
    | zero =>
      intro hj f f1 f2 f3
      refine V_iload_n d_Walker_insert_2 rfl ?_
      refine V_if_le (tgt := 38) d_Walker_insert_3 (by decide) (fun b3 => ?_) (fun b3 => ?_)
      · exact fin 0 hj f f1 f2 f3 (fun i hi => absurd hi (Nat.not_lt_zero i))
      · exact absurd (by decide) b3
    | succ j ih =>
      intro hj f f1 f2 f3
      have hrj := hr j (by omega)
      have hin : vp_in (nI j) 100 := vp_in_nI (by omega) (by omega)
      have hin2 : vp_in (nI (j + 1)) 100 := vp_in_nI (by omega) (by omega)
      have e1 : nI (j + 1) - 1 = nI j := by rw [← nI_1]; simp
      refine V_iload_n d_Walker_insert_2 rfl ?_
      refine V_if_le (tgt := 38) d_Walker_insert_3 (by decide) (fun b3 => ?_) (fun b3 => ?_)
      · have := (le_nI (j + 1) 0 rfl rfl (by omega) (by decide)).mp b3
        omega
      · refine V_aload_n d_Walker_insert_6 rfl ?_
        refine V_getR d_Walker_insert_7 f_Walker_40 rfl (by first | rfl | assumption) (by first | rfl | assumption) ?_
        refine V_iload_n d_Walker_insert_10 rfl ?_
        refine V_iconst (v := 1) d_Walker_insert_11 (by decide) ?_
        refine V_isub d_Walker_insert_12 ?_
        rw [e1]
        refine V_iald d_Walker_insert_13 (by first | rfl | assumption) (by first | assumption | exact vp_in_nI (by omega) (by omega)) ?_
        rw [nI_clamp (by omega), hrow_same, f1 j (by omega)]
        refine V_iload_n d_Walker_insert_14 rfl ?_
        refine V_icmp_le (tgt := 38) d_Walker_insert_15 (by decide) (fun b15 => ?_) (fun b15 => ?_)
        · have hle := (nI_leI (by omega) (by omega)).mp b15
          refine fin (j + 1) hj f f1 f2 f3 (fun i hi => ?_)
          rcases Nat.lt_or_ge i j with z | z
          · have := hinc i j z (by omega); omega
          · rw [show i = j by omega]; omega
        · have hgt : key < ks j := by
            rcases Nat.lt_or_ge key (ks j) with z | z
            · exact z
            · exact absurd ((nI_leI (by omega) (by omega)).mpr z) b15
          refine V_aload_n d_Walker_insert_18 rfl ?_
          refine V_getR d_Walker_insert_19 f_Walker_40 rfl (by first | rfl | assumption) (by first | rfl | assumption) ?_
          refine V_iload_n d_Walker_insert_22 rfl ?_
          refine V_aload_n d_Walker_insert_23 rfl ?_
          refine V_getR d_Walker_insert_24 f_Walker_40 rfl (by first | rfl | assumption) (by first | rfl | assumption) ?_
          refine V_iload_n d_Walker_insert_27 rfl ?_
          refine V_iconst (v := 1) d_Walker_insert_28 (by decide) ?_
          refine V_isub d_Walker_insert_29 ?_
          rw [e1]
          refine V_iald d_Walker_insert_30 (by first | rfl | assumption) (by first | assumption | exact vp_in_nI (by omega) (by omega)) ?_
          refine V_iast d_Walker_insert_31 (by first | rfl | assumption) (by first | assumption | exact vp_in_nI (by omega) (by omega)) ?_
          refine V_iincw (w := -1) d_Walker_insert_32 rfl (by decide) (by decide) ?_
          dsimp only [List.set]
          refine V_goto (tgt := 2) d_Walker_insert_35 (by decide) ?_
          rw [nI_clamp (by omega), nI_clamp (by omega), hup_hrow, hrow_same, f1 j (by omega), show nI (j + 1) + -1 = nI j from by rw [← Int32.sub_eq_add_neg, e1]]
          refine ih (by omega) _ (fun i hi => ?_) (fun i h1 h2 => ?_) (fun i h1 h2 => ?_)
          · rw [upd_n (by omega)]; exact f1 i (by omega)
          · by_cases c : i = j + 1
            · rw [c, upd_s]; rfl
            · rw [upd_n c]; exact f2 i (by omega) h2
          · rcases Nat.lt_or_ge i (j + 1) with z | z
            · rw [show i = j by omega]; exact hgt
            · exact f3 i z h2
  have h0 := loop m (Nat.le_refl _) (h 29) (fun i hi => (hr i hi).1) (fun i h1 h2 => by omega) (fun i h1 h2 => by omega)
  rw [hrow_self] at h0
  exact h0
/-- the keys of the borders inside, up to one, rising -/
def ksT (D : LD) (M : Nat → Bool) (s : Int32) (i : Nat) (ks : Nat → Nat) : Prop := lsT ks (fa_cnt (isIn D M) i) 6553600 (fun y => ∃ b, b < i ∧ insP D M b ∧ y = kyN D M s b)
theorem c_drawOrder {E : Wd} {h : Hp} {D : LD} (hl : LandW h D) (ok : okLD D) (M : Nat → Bool) : Cq E 2 m_Walker_drawOrder [.ref 25, .int (cI M)] h (fun v h' => v = some (.int (nI (fa_cnt (isIn D M) (dB D)))) ∧ ∃ f ks, h' = hup (hrow h 29 f) 25 0 (itS (h 25 0) (fa_cnt (isIn D M) (dB D))) ∧ ksT D M (h 25 0) (dB D) ks ∧ ∀ i, i < fa_cnt (isIn D M) (dB D) → f i = nI (ks i)) := by
  have hN := ok.1
  have hB := ok.2.1
  obtain ⟨s, hs⟩ : ∃ s, s = h 25 0 := ⟨_, rfl⟩
  rw [← hs]
  refine Cq_of2 ok_Walker_drawOrder rfl (Nat.le_of_ble_eq_true rfl) (L := [some (.ref 25), some (.int (cI M)), none, none]) rfl ?_
  refine V_iconst (v := 0) d_Walker_drawOrder_0 (by decide) ?_
  refine V_istore_n d_Walker_drawOrder_1 (by decide) ?_
  dsimp only [List.set]
  refine V_iconst (v := 0) d_Walker_drawOrder_2 (by decide) ?_
  refine V_istore_n d_Walker_drawOrder_3 (by decide) ?_
  dsimp only [List.set]
  have loop : ∀ i, i ≤ dB D → ∀ f ks, ksT D M s i ks → (∀ j, j < fa_cnt (isIn D M) i → f j = nI (ks j)) → V E 2 m_Walker_drawOrder (fun v h' => v = some (.int (nI (fa_cnt (isIn D M) (dB D)))) ∧ ∃ f ks, h' = hup (hrow h 29 f) 25 0 (itS s (fa_cnt (isIn D M) (dB D))) ∧ ksT D M s (dB D) ks ∧ ∀ i, i < fa_cnt (isIn D M) (dB D) → f i = nI (ks i)) 4 [some (.ref 25), some (.int (cI M)), some (.int (nI (fa_cnt (isIn D M) i))), some (.int (nI i))] [] (hup (hrow h 29 f) 25 0 (itS s (fa_cnt (isIn D M) i))) := by
    refine up_ind (dB D) ?_
    intro i hi ih f ks hks hf
    have hlf : LandW (hup (hrow h 29 f) 25 0 (itS s (fa_cnt (isIn D M) i))) D := hl.of (fun q c1 c2 => by rw [hup_ne (by omega), hrow_ne (by omega)])
    have hcl := fa_cnt_le (isIn D M) i
    refine V_iload_n d_Walker_drawOrder_4 rfl ?_
    refine V_aload_n d_Walker_drawOrder_5 rfl ?_
    refine V_getR d_Walker_drawOrder_6 f_Walker_9 rfl (by first | rfl | assumption) (by first | rfl | assumption) ?_
    refine V_getI d_Walker_drawOrder_9 f_Walker_143 rfl (by first | rfl | assumption) (by first | rfl | assumption) ?_
    rw [hlf.2.1]
    refine V_icmp_ge (tgt := 50) d_Walker_drawOrder_12 (by decide) (fun b12 => ?_) (fun b12 => ?_)
    · obtain rfl := ge_eq b12 rfl rfl (by omega) hi
      refine V_iload_n d_Walker_drawOrder_50 rfl ?_
      refine V_iret d_Walker_drawOrder_51 rfl ?_
      exact ⟨rfl, f, ks, rfl, hks, hf⟩
    · have hib := nge_lt b12 rfl rfl (by omega) hi
      have ih := ih hib
      have hbb := ok.2.2.2.1 i hib
      refine V_aload_n d_Walker_drawOrder_15 rfl ?_
      refine V_getR d_Walker_drawOrder_16 f_Walker_9 rfl (by first | rfl | assumption) (by first | rfl | assumption) ?_
      refine V_iload_n d_Walker_drawOrder_19 rfl ?_
      refine V_iload_n d_Walker_drawOrder_20 rfl ?_
      refine V_callV1 d_Walker_drawOrder_21 k_Walker_146 rfl (c_isInside hlf ok hib (cI M)) (by first | rfl | assumption) rfl rfl (by first | decide | omega) rfl (Nat.le_of_ble_eq_true rfl) ?_
      rw [show (cs (cI M) (dFr D i) && cs (cI M) (dTo D i)) = isIn D M i from by unfold isIn; rw [cI_cs _ (by omega), cI_cs _ (by omega)]]
      refine V_if_eq (tgt := 44) d_Walker_drawOrder_24 (by decide) (fun b24 => ?_) (fun b24 => ?_)
      · have hc := b2i.mp b24
        rw [fa_cnt_no hc] at ih
        refine V_iincw (w := 1) d_Walker_drawOrder_44 rfl (by decide) (by decide) ?_
        dsimp only [List.set]
        refine V_goto (tgt := 4) d_Walker_drawOrder_47 (by decide) ?_
        rw [nI_1]
        refine ih f ks ?_ hf
        unfold ksT
        rw [fa_cnt_no hc]
        obtain ⟨g1, g2, g3⟩ := hks
        refine ⟨fun j hj => ⟨(g1 j hj).1, ?_⟩, fun y hy hP => g2 y hy ?_, g3⟩
        · obtain ⟨b, z1, z2, z3⟩ := (g1 j hj).2
          exact ⟨b, by omega, z2, z3⟩
        · obtain ⟨b, z1, z2, z3⟩ := hP
          refine ⟨b, ?_, z2, z3⟩
          rcases Nat.lt_or_ge b i with z | z
          · exact z
          · have : b = i := by omega
            rw [this] at z2
            have z2 : isIn D M i = true := z2
            rw [hc] at z2
            cases z2
      · have hc := b2in.mp b24
        rw [fa_cnt_yes hc] at ih
        have hnm : nmN D M s i = drN (itS s (fa_cnt (isIn D M) i)) := rfl
        have hdl := drN_lt (itS s (fa_cnt (isIn D M) i))
        have hkl := ky_lt ok (M := M) (s := s) i hib
        have hcne : ∀ j, j < fa_cnt (isIn D M) i → ks j ≠ kyN D M s i := by
          intro j hj e
          obtain ⟨b, z1, z2, z3⟩ := (hks.1 j hj).2
          rw [z3] at e
          have := ky_inj ok b i (by omega) hib e
          omega
        refine V_aload_n d_Walker_drawOrder_27 rfl ?_
        refine V_aload_n d_Walker_drawOrder_28 rfl ?_
        refine V_callV1 d_Walker_drawOrder_29 k_Walker_122 rfl (c_Wdraw _) (by first | rfl | assumption) rfl rfl (by first | decide | omega) rfl (Nat.le_of_ble_eq_true rfl) ?_
        rw [hup_same, upd_s, ← hnm]
        refine V_bipush (v := 100) d_Walker_drawOrder_32 (by decide) ?_
        refine V_imul d_Walker_drawOrder_34 ?_
        refine V_iload_n d_Walker_drawOrder_35 rfl ?_
        refine V_iadd d_Walker_drawOrder_36 ?_
        refine V_iload_n d_Walker_drawOrder_37 rfl ?_
        rw [show (100 : Int32) = nI 100 from rfl, pk_mul, nI_add, show nmN D M s i * 100 + i = kyN D M s i from rfl]
        have hH : hup (hup (hrow h 29 f) 25 0 (itS s (fa_cnt (isIn D M) i))) 25 0 (nxS (itS s (fa_cnt (isIn D M) i))) = hup (hrow h 29 f) 25 0 (itS s (fa_cnt (isIn D M) i + 1)) := by
          funext q
          by_cases c : q = 25
          · subst c
            rw [hup_same, hup_same, hup_same]
            funext j
            unfold upd
            by_cases c2 : j = 0
            · rw [if_pos c2, if_pos c2]; rfl
            · rw [if_neg c2, if_neg c2, if_neg c2]
          · rw [hup_ne c, hup_ne c, hup_ne c]
        rw [hH]
        refine V_callV d_Walker_drawOrder_38 k_Walker_149 rfl (c_Winsert (ks := ks) (by omega) (by omega) (fun j hj => ⟨by rw [hup_ne (by omega), hrow_same]; exact hf j hj, by have := (hks.1 j hj).1; omega, hcne j hj⟩) hks.2.2) (by first | rfl | assumption) rfl rfl (by first | decide | omega) rfl (Nat.le_of_ble_eq_true rfl) (fun v_ h_ q_ => ?_)
        obtain ⟨rfl, f2, k, rfl, hk1, hk2, hk3, hk4⟩ := q_
        show V E _ m_Walker_drawOrder _ 41 _ [] _
        refine V_iincw (w := 1) d_Walker_drawOrder_41 rfl (by decide) (by decide) ?_
        dsimp only [List.set]
        refine V_iincw (w := 1) d_Walker_drawOrder_44 rfl (by decide) (by decide) ?_
        dsimp only [List.set]
        refine V_goto (tgt := 4) d_Walker_drawOrder_47 (by decide) ?_
        rw [nI_1, nI_1]
        have hH2 : hrow (hup (hrow h 29 f) 25 0 (itS s (fa_cnt (isIn D M) i + 1))) 29 f2 = hup (hrow h 29 f2) 25 0 (itS s (fa_cnt (isIn D M) i + 1)) := by
          rw [hup_row, hup_row, hrow_comm _ (by omega), hrow_twice, hrow_ne (by omega), hrow_ne (by omega)]
        rw [hH2]
        refine ih f2 (insL ks k (kyN D M s i)) ?_ hk4
        unfold ksT
        rw [fa_cnt_yes hc]
        refine lsT_cong (lsT_ins hks hk1 hkl hk2 hk3) (fun y hy => ?_)
        constructor
        · rintro (⟨b, z1, z2, z3⟩ | z)
          · exact ⟨b, by omega, z2, z3⟩
          · exact ⟨i, by omega, hc, z⟩
        · rintro ⟨b, z1, z2, z3⟩
          rcases Nat.lt_or_ge b i with z | z
          · exact Or.inl ⟨b, z, z2, z3⟩
          · exact Or.inr (by rw [z3, show b = i by omega])
  have h0 := loop 0 (Nat.zero_le _) (h 29) (fun _ => 0) ⟨fun i hi => absurd hi (Nat.not_lt_zero i), fun y _ ⟨b, hb, _⟩ => absurd hb (Nat.not_lt_zero b), fun i j _ hj => absurd hj (Nat.not_lt_zero j)⟩ (fun j hj => absurd hj (Nat.not_lt_zero j))
  have e0 : hup (hrow h 29 (h 29)) 25 0 (itS s (fa_cnt (isIn D M) 0)) = h := by
    rw [hrow_self]
    funext q
    by_cases c : q = 25
    · subst c
      rw [hup_same]
      funext j
      unfold upd
      by_cases c2 : j = 0
      · rw [if_pos c2, c2]; exact hs
      · rw [if_neg c2]
    · rw [hup_ne c]
  rw [e0] at h0
  exact h0
