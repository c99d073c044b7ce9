theorem ixF_no {own : List Int32} : ∀ (L : List (List Int32)) (n : Nat) (r : Int32), own ∉ L → ixF own L n r = r
  | [], _, _, _ => rfl
  | q :: L, n, r, h => by
    rw [ixF, if_neg (fun z => h (by rw [z]; exact List.mem_cons_self))]
    exact ixF_no L (n + 1) r (fun z => h (List.mem_cons_of_mem _ z))
theorem ixF_at {own : List Int32} : ∀ (L : List (List Int32)) (n i : Nat) (r : Int32), L.Nodup → L[i]? = some own → ixF own L n r = nI (n + i)
  | [], _, _, _, _, h => by simp at h
  | q :: L, n, 0, r, hn, h => by
    rw [List.getElem?_cons_zero] at h
    have e := Option.some.inj h
    rw [ixF, if_pos e, ixF_no L _ _ (fun z => (List.nodup_cons.mp hn).1 (by rw [e]; exact z)), Nat.add_zero]
  | q :: L, n, i + 1, r, hn, h => by
    rw [List.getElem?_cons_succ] at h
    rw [ixF, ixF_at L (n + 1) i _ (List.nodup_cons.mp hn).2 h, show n + 1 + i = n + (i + 1) by omega]
theorem rk_whI {S : ST} (ok : okST S) {x : Int32} (h : rkQ S.1 (wfr true S.2.1) S.2.2.1 (wK S.2.1) (cI (inN S.1)) (bdg S.1 (wfr true S.2.1)) 0 x) : x = whI S := by
  have hk1 := ok.2.1.1
  have e1 : sqx S.1 (wfr true S.2.1) (wK S.2.1) (cI (inN S.1)) (bdg S.1 (wfr true S.2.1)) = LC S.1 S.2.1 := by
    rw [← LC_wf, LC_sq ok.1 (ok.2.1.fr true)]
    obtain ⟨k, hk⟩ : ∃ k, wK S.2.1 = k + 1 := ⟨wK S.2.1 - 1, by omega⟩
    show sqx _ _ (wK S.2.1) _ _ = sq _ _ (wK S.2.1) _ _
    rw [hk, sqx]
  unfold rkQ at h
  rw [e1, oq_ownQ] at h
  unfold whI
  rcases h with ⟨r, h1, h2⟩ | ⟨h1, h2⟩
  · rw [ixF_at _ 0 r _ (LC_nodup ok.1) h1, h2]
  · rw [ixF_no _ _ _ h1, h2]
theorem c_rankS {E : Wd} {h : Hp} {S : ST} (hc : ClW h S) (ok : okST S) (hb : bkR h S.1 S.2.1) : Cq E 19 m_ClassBook_rank [.ref 20, .ref 14] h (fun v h' => v = some (.int (whI S)) ∧ ClW h' S ∧ (∀ q, 41 ≤ q → h' q = h q) ∧ bkR h' S.1 S.2.1) := by
  refine Cq_mono (fun v h' hq => ?_) (c_rank hb.1 hc.2.2.1 ok.2.2.1)
  obtain ⟨⟨x, rfl, hx⟩, q1, q2⟩ := hq
  rw [rk_whI ok hx]
  have hb' : bkR h' S.1 S.2.1 := ⟨q2, by rw [q1.ne (by omega)]; exact hb.2.1, by rw [q1.ne (by omega)]; exact hb.2.2⟩
  exact ⟨rfl, bFr.cl hc (fun q _ _ c3 => q1.ne c3) hb', fun q hq => q1.ne (by omega), hb'⟩
theorem c_Dwhich {E : Wd} {h : Hp} {S : ST} (hc : ClW h S) (ok : okST S) : CC E 24 m_DC_which [] h (opWhich S) := by
  refine Cq_of2 ok_DC_which rfl (Nat.le_of_ble_eq_true rfl) (L := [some (.ref 0), none]) rfl ?_
  refine V_aload_n d_DC_which_0 rfl ?_
  refine V_ldc d_DC_which_1 v_DC_218 rfl ?_
  refine V_callV d_DC_which_3 k_DC_219 rfl (c_openClasses hc ok _) (by first | rfl | assumption) rfl rfl (by first | decide | omega) rfl (Nat.le_of_ble_eq_true rfl) (fun v_ h_ q_ => ?_)
  obtain ⟨rfl, q1, q2, q3⟩ := q_
  rw [open_any ok]
  by_cases hz : szI S = 0
  · rw [if_pos hz]
    show V E _ m_DC_which _ 6 _ [.int 0] _
    refine V_istore_n d_DC_which_6 (by decide) ?_
    dsimp only [List.set]
    refine V_iload_n d_DC_which_7 rfl ?_
    refine V_if_ge (tgt := 15) d_DC_which_8 (by decide) (fun b8 => ?_) (fun b8 => ?_)
    · refine V_aload_n d_DC_which_15 rfl ?_
      refine V_getR d_DC_which_16 f_DC_53 rfl (by first | rfl | assumption) (by first | rfl | assumption) ?_
      refine V_aload_n d_DC_which_19 rfl ?_
      refine V_getR d_DC_which_20 f_DC_36 rfl (by first | rfl | assumption) (by first | rfl | assumption) ?_
      refine V_callV d_DC_which_23 k_DC_232 rfl (c_rankS q1 ok (q3 hz)) (by first | rfl | assumption) rfl rfl (by first | decide | omega) rfl (Nat.le_of_ble_eq_true rfl) (fun v_ h_ q_ => ?_)
      obtain ⟨rfl, r1, r2, r3⟩ := q_
      show V E _ m_DC_which _ 26 _ [.int (whI S)] _
      refine V_iret d_DC_which_26 rfl ?_
      exact ⟨by unfold opWhich; rw [if_pos hz], r1, fun q hq => by rw [r2 q hq, q2 q hq]⟩
    · exact absurd (by decide) b8
  · rw [if_neg hz]
    show V E _ m_DC_which _ 6 _ [.int (szI S)] _
    refine V_istore_n d_DC_which_6 (by decide) ?_
    dsimp only [List.set]
    refine V_iload_n d_DC_which_7 rfl ?_
    refine V_if_ge (tgt := 15) d_DC_which_8 (by decide) (fun b8 => ?_) (fun b8 => ?_)
    · exact absurd b8 (fun z => (fa_of_lt (sz_neg hz)).2.1 z)
    · refine V_iload_n d_DC_which_11 rfl ?_
      refine V_goto (tgt := 26) d_DC_which_12 (by decide) ?_
      refine V_iret d_DC_which_26 rfl ?_
      exact ⟨by unfold opWhich; rw [if_neg hz], q1, q2⟩
theorem c_hasNumber {E : Wd} {h : Hp} {n : Nat} (hn : n < 2 ^ 30) (ha : h 20 13 = nI n) (x : Int32) : Cd E 1 m_ClassBook_hasNumber [.ref 20, .int x] h (some (.int (if isPl n x then 1 else 0))) h := by
  have key : (0 ≤ x ∧ x ≤ nI n - 1) ↔ isPl n x = true := by
    rw [isPl_iff]
    rcases Nat.eq_zero_or_pos n with h0 | h0
    · subst h0
      constructor
      · rintro ⟨h1, h2⟩
        exfalso
        rw [show (nI 0 - 1 : Int32) = -1 by decide] at h2
        rw [fa_le] at h1 h2
        have e1 : (0 : Int32).toInt = 0 := by decide
        have e2 : (-1 : Int32).toInt = -1 := by decide
        omega
      · rintro ⟨j, hj, -⟩
        omega
    · have e : nI n - 1 = nI (n - 1) := by
        have := nI_pred (n - 1)
        rw [show n - 1 + 1 = n by omega] at this
        exact this
      rw [e]
      constructor
      · rintro ⟨h1, h2⟩
        obtain ⟨j, hj, rfl⟩ := nI_of (x := x) (fun q => (fa_of_lt q).2.1 h1)
        exact ⟨j, by have := (nI_leI hj (by omega)).mp h2; omega, rfl⟩
      · rintro ⟨j, hj, rfl⟩
        exact ⟨nI_pos' (by omega), (nI_leI (by omega) (by omega)).mpr (by omega)⟩
  refine Cd_of ok_ClassBook_hasNumber rfl (Nat.le_of_ble_eq_true rfl) (L := [some (.ref 20), some (.int x)]) rfl ?_
  refine V_iload_n d_ClassBook_hasNumber_0 rfl ?_
  refine V_iconst (v := 0) d_ClassBook_hasNumber_1 (by decide) ?_
  refine V_aload_n d_ClassBook_hasNumber_2 rfl ?_
  refine V_getI d_ClassBook_hasNumber_3 f_ClassBook_89 rfl (by first | rfl | assumption) (by first | rfl | assumption) ?_
  refine V_iconst (v := 1) d_ClassBook_hasNumber_6 (by decide) ?_
  refine V_isub d_ClassBook_hasNumber_7 ?_
  rw [ha]
  refine V_callN1 d_ClassBook_hasNumber_8 k_ClassBook_92 rfl (c_isWithin h _ _ _) rfl (by first | decide | omega) rfl (Nat.le_of_ble_eq_true rfl) ?_
  refine V_zret d_ClassBook_hasNumber_11 rfl (by split <;> rfl) ⟨?_, rfl⟩
  cases hb : isPl n x with
  | true => rw [if_pos (key.mpr hb)]; rfl
  | false =>
    rw [if_neg (fun q => ?_)]
    · rfl
    · rw [key.mp q] at hb; cases hb
theorem c_Dsame {E : Wd} {h : Hp} {S : ST} (hc : ClW h S) (ok : okST S) (i : Int32) : CC E 24 m_DC_same [.int i] h (opSame S i) := by
  refine Cq_of2 ok_DC_same rfl (Nat.le_of_ble_eq_true rfl) (L := [some (.ref 0), some (.int i), none]) rfl ?_
  refine V_aload_n d_DC_same_0 rfl ?_
  refine V_ldc d_DC_same_1 v_DC_218 rfl ?_
  refine V_callV d_DC_same_3 k_DC_219 rfl (c_openClasses hc ok _) (by first | rfl | assumption) rfl rfl (by first | decide | omega) rfl (Nat.le_of_ble_eq_true rfl) (fun v_ h_ q_ => ?_)
  obtain ⟨rfl, q1, q2, q3⟩ := q_
  rw [open_any ok]
  by_cases hz : szI S = 0
  · have hle := LC_le (w := S.2.1) ok.1 ok.2.1 (szI_0 hz).1
    rw [if_pos hz]
    show V E _ m_DC_same _ 6 _ [.int 0] _
    refine V_istore_n d_DC_same_6 (by decide) ?_
    dsimp only [List.set]
    refine V_iload_n d_DC_same_7 rfl ?_
    refine V_if_ge (tgt := 13) d_DC_same_8 (by decide) (fun b8 => ?_) (fun b8 => ?_)
    · refine V_aload_n d_DC_same_13 rfl ?_
      refine V_getR d_DC_same_14 f_DC_53 rfl (by first | rfl | assumption) (by first | rfl | assumption) ?_
      refine V_iload_n d_DC_same_17 rfl ?_
      refine V_callV1 d_DC_same_18 k_DC_225 rfl (c_hasNumber (show (LC S.1 S.2.1).length < 2 ^ 30 by omega) (q3 hz).2.2 i) (by first | rfl | assumption) rfl rfl (by first | decide | omega) rfl (Nat.le_of_ble_eq_true rfl) ?_
      refine V_if_ne (tgt := 26) d_DC_same_21 (by decide) (fun b21 => ?_) (fun b21 => ?_)
      · have hb := b2in.mp b21
        refine V_aload_n d_DC_same_26 rfl ?_
        refine V_getR d_DC_same_27 f_DC_53 rfl (by first | rfl | assumption) (by first | rfl | assumption) ?_
        refine V_aload_n d_DC_same_30 rfl ?_
        refine V_getR d_DC_same_31 f_DC_36 rfl (by first | rfl | assumption) (by first | rfl | assumption) ?_
        refine V_callV d_DC_same_34 k_DC_232 rfl (c_rankS q1 ok (q3 hz)) (by first | rfl | assumption) rfl rfl (by first | decide | omega) rfl (Nat.le_of_ble_eq_true rfl) (fun v_ h_ q_ => ?_)
        obtain ⟨rfl, r1, r2, r3⟩ := q_
        show V E _ m_DC_same _ 37 _ [.int (whI S)] _
        refine V_iload_n d_DC_same_37 rfl ?_
        refine V_icmp_ne (tgt := 45) d_DC_same_38 (by decide) (fun b38 => ?_) (fun b38 => ?_)
        · refine V_iconst (v := 0) d_DC_same_45 (by decide) ?_
          refine V_iret d_DC_same_46 rfl ?_
          exact ⟨by unfold opSame; rw [if_pos hz, if_pos hb, if_neg b38], r1, fun q hq => by rw [r2 q hq, q2 q hq]⟩
        · refine V_iconst (v := 1) d_DC_same_41 (by decide) ?_
          refine V_goto (tgt := 46) d_DC_same_42 (by decide) ?_
          refine V_iret d_DC_same_46 rfl ?_
          exact ⟨by unfold opSame; rw [if_pos hz, if_pos hb, if_pos b38], r1, fun q hq => by rw [r2 q hq, q2 q hq]⟩
      · have hb := b2i.mp b21
        refine V_iconst (v := -1) d_DC_same_24 (by decide) ?_
        refine V_iret d_DC_same_25 rfl ?_
        exact ⟨by unfold opSame; rw [if_pos hz, if_neg (by rw [hb]; decide)], q1, q2⟩
    · exact absurd (by decide) b8
  · rw [if_neg hz]
    show V E _ m_DC_same _ 6 _ [.int (szI S)] _
    refine V_istore_n d_DC_same_6 (by decide) ?_
    dsimp only [List.set]
    refine V_iload_n d_DC_same_7 rfl ?_
    refine V_if_ge (tgt := 13) d_DC_same_8 (by decide) (fun b8 => ?_) (fun b8 => ?_)
    · exact absurd b8 (fun z => (fa_of_lt (sz_neg hz)).2.1 z)
    · refine V_iload_n d_DC_same_11 rfl ?_
      refine V_iret d_DC_same_12 rfl ?_
      exact ⟨by unfold opSame; rw [if_neg hz], q1, q2⟩
/-! choose() and lay() -/
theorem sq_1 {D : LD} {w : LW} {R : Int32} {b i : Nat} {t : List Int32} (h : (sq D w 1 R b)[i]? = some t) : t = [R] := by
  rw [sq] at h
  split at h
  · cases i with
    | zero => exact (Option.some.inj h).symm
    | succ i => simp at h
  · simp at h
def hFr (h h' : Hp) : Prop := ∀ q, q ≠ 24 → q ≠ 22 → h' q = h q
theorem c_choose {E : Wd} {h : Hp} {D : LD} {w : LW} (hb : bkS h D w) {x : Nat} {q : List Int32} (hq : (sq D w (wK w) (cI (inN D)) (bdg D w))[x]? = some q) : Cq E 19 m_ClassBook_choose [.ref 20, .int (nI x)] h (fun v h' => v = none ∧ hFr h h' ∧ bkS h' D w ∧ ∀ d, d < wK w → h' 22 d = gD q d) := by
  obtain ⟨g1, g2, g3, g4, ⟨g5, g5'⟩, g6, g7, g8, g9, g10⟩ := id hb
  have hk1 := g4.1
  have hk6 := g4.2.1
  have hbl := bdg_le (w := w) g5'
  have hN := g2.1
  refine Cq_of2 ok_ClassBook_choose rfl (Nat.le_of_ble_eq_true rfl) (L := [some (.ref 20), some (.int (nI x)), none, none, none, none, none, none, none, none]) rfl ?_
  refine V_aload_n d_ClassBook_choose_0 rfl ?_
  refine V_getI d_ClassBook_choose_1 f_ClassBook_51 rfl (by first | rfl | assumption) (by first | rfl | assumption) ?_
  refine V_istore_n d_ClassBook_choose_4 (by decide) ?_
  dsimp only [List.set]
  refine V_aload_n d_ClassBook_choose_5 rfl ?_
  refine V_getI d_ClassBook_choose_6 f_ClassBook_68 rfl (by first | rfl | assumption) (by first | rfl | assumption) ?_
  refine V_istore_n d_ClassBook_choose_9 (by decide) ?_
  dsimp only [List.set]
  refine V_iload_n d_ClassBook_choose_10 rfl ?_
  refine V_istore d_ClassBook_choose_11 (by decide) ?_
  dsimp only [List.set]
  refine V_aload_n d_ClassBook_choose_13 rfl ?_
  refine V_getR d_ClassBook_choose_14 f_ClassBook_15 rfl (by first | rfl | assumption) (by first | rfl | assumption) ?_
  refine V_getI d_ClassBook_choose_17 f_ClassBook_78 rfl (by first | rfl | assumption) (by first | rfl | assumption) ?_
  refine V_istore d_ClassBook_choose_20 (by decide) ?_
  dsimp only [List.set]
  rw [g3, g6, g8]
  have loop : ∀ l, l < wK w → ∀ (H : Hp) (R : Int32) (b A : Nat) (t : List Int32) u6 u7 u8 u9, hFr h H → bkS H D w → okT D w (l + 1) R b → (sq D w (l + 1) R b)[A]? = some t → (∀ d, d < wK w - (l + 1) → H 22 d = gD q d) → (∀ d, d < l + 1 → gD q (wK w - (l + 1) + d) = gD t d) → V E 19 m_ClassBook_choose (fun v h' => v = none ∧ hFr h h' ∧ bkS h' D w ∧ ∀ d, d < wK w → h' 22 d = gD q d) 22 [some (.ref 20), some (.int (nI x)), some (.int R), some (.int (nI b)), some (.int (nI A)), some (.int (nI (l + 1))), u6, u7, u8, u9] [] H := by
    intro l
    induction l with
    | zero =>
      intro hlk H R b A t u6 u7 u8 u9 fr hbH hT hA hch hqt
      have ht := sq_1 hA
      have hkH := hbH.2.2.1
      refine V_iload d_ClassBook_choose_22 rfl ?_
      refine V_iconst (v := 1) d_ClassBook_choose_24 (by decide) ?_
      refine V_icmp_le (tgt := 135) d_ClassBook_choose_25 (by decide) (fun b25 => ?_) (fun b25 => ?_)
      · refine V_aload_n d_ClassBook_choose_135 rfl ?_
        refine V_getR d_ClassBook_choose_136 f_ClassBook_31 rfl (by first | rfl | assumption) (by first | rfl | assumption) ?_
        refine V_aload_n d_ClassBook_choose_139 rfl ?_
        refine V_getR d_ClassBook_choose_140 f_ClassBook_15 rfl (by first | rfl | assumption) (by first | rfl | assumption) ?_
        refine V_getI d_ClassBook_choose_143 f_ClassBook_78 rfl (by first | rfl | assumption) (by first | rfl | assumption) ?_
        refine V_iconst (v := 1) d_ClassBook_choose_146 (by decide) ?_
        rw [hkH, show (1 : Int32) = nI 1 from rfl]
        refine V_isub d_ClassBook_choose_147 ?_
        rw [pk_sub (by omega)]
        have hin : vp_in (nI (wK w - 1)) 6 := vp_in_nI (by omega) (by omega)
        refine V_iload_n d_ClassBook_choose_148 rfl ?_
        refine V_iast d_ClassBook_choose_149 (by first | rfl | assumption) (by first | assumption | exact vp_in_nI (by omega) (by omega)) ?_
        refine V_vret d_ClassBook_choose_150 rfl ?_
        rw [nI_clamp (by omega)]
        obtain ⟨r1, r2, r3, r4, r5, r6, r7, r8, r9, r10⟩ := hbH
        refine ⟨rfl, fun z c1 c2 => by rw [hup_ne c2]; exact fr z c1 c2, ⟨r1.of (fun z _ _ => hup_ne (by omega)), r2, by rw [hup_ne (by omega)]; exact r3, r4, r5, by rw [hup_ne (by omega)]; exact r6, by rw [hup_ne (by omega)]; exact r7, by rw [hup_ne (by omega)]; exact r8, fun y hy => by rw [hup_ne (by omega)]; exact r9 y hy, fun l R b a1 a2 a3 a4 => by have := r10 l R b a1 a2 a3 a4; unfold ent at this ⊢; rw [hup_ne (by omega)]; exact this⟩, fun d hd => ?_⟩
        rw [hup_same]
        by_cases c : d = wK w - 1
        · have e := hqt 0 (by omega)
          rw [c, upd_s, show wK w - 1 = wK w - (0 + 1) + 0 by omega, e, ht, gD_zero]
        · rw [upd_n c]; exact hch d (by omega)
      · exact absurd (by decide) b25
    | succ l ih =>
      intro hlk H R b A t u6 u7 u8 u9 fr hbH hT hA hch hqt
      have hR := hT.2.2.1
      have hbb := hT.2.2.2.2
      have hlen := subs_len12 g5' hR
      have hAlt : A < ahN D w (l + 2) R b (subs (dN D) R).length := by
        rw [ah_len]
        exact (List.getElem?_eq_some_iff.mp hA).1
      refine V_iload d_ClassBook_choose_22 rfl ?_
      refine V_iconst (v := 1) d_ClassBook_choose_24 (by decide) ?_
      refine V_icmp_le (tgt := 135) d_ClassBook_choose_25 (by decide) (fun b25 => ?_) (fun b25 => ?_)
      · have := (le_nI (l + 1 + 1) 1 rfl rfl (by omega) (by decide)).mp b25
        omega
      · refine V_iload_n d_ClassBook_choose_28 rfl ?_
        refine V_istore d_ClassBook_choose_29 (by decide) ?_
        dsimp only [List.set]
        refine V_iload_n d_ClassBook_choose_31 rfl ?_
        refine V_callS1 d_ClassBook_choose_32 k_ClassBook_158 rfl (c_choices H g5' hR) rfl (by first | decide | omega) rfl (Nat.le_of_ble_eq_true rfl) ?_
        refine V_istore d_ClassBook_choose_35 (by decide) ?_
        dsimp only [List.set]
        refine V_iconst (v := 0) d_ClassBook_choose_37 (by decide) ?_
        refine V_istore d_ClassBook_choose_38 (by decide) ?_
        dsimp only [List.set]
        have inner : ∀ i, i ≤ (subs (dN D) R).length → ∀ (H : Hp) (S : Int32) u9, hFr h H → bkS H D w → (∀ d, d < wK w - (l + 2) → H 22 d = gD q d) → ahN D w (l + 2) R b i ≤ A → (i < (subs (dN D) R).length → (subs (dN D) R)[i]? = some S) → V E 19 m_ClassBook_choose (fun v h' => v = none ∧ hFr h h' ∧ bkS h' D w ∧ ∀ d, d < wK w → h' 22 d = gD q d) 40 [some (.ref 20), some (.int (nI x)), some (.int R), some (.int (nI b)), some (.int (nI (A - ahN D w (l + 2) R b i))), some (.int (nI (l + 1 + 1))), some (.int S), some (.int (nI (subs (dN D) R).length)), some (.int (nI i)), u9] [] H := by
          refine up_ind (subs (dN D) R).length ?_
          intro i hi ihi H S u9 fr hbH hch hle hS
          have hil : i < (subs (dN D) R).length := by
            rcases Nat.lt_or_ge i (subs (dN D) R).length with z | z
            · exact z
            · rw [show i = (subs (dN D) R).length by omega] at hle
              omega
          have hSi := hS hil
          have hmem := List.mem_of_getElem? hSi
          have hSin := subs_in hN hR hmem
          have hAb := ah_bd (w := w) g5' (show 1 ≤ l + 2 by omega) (by omega) hR b (subs (dN D) R).length
          have hwl : ahN D w (l + 2) R b (i + 1) ≤ ahN D w (l + 2) R b (subs (dN D) R).length := ah_le
          rw [ah_succ hSi] at hwl
          refine V_iload d_ClassBook_choose_40 rfl ?_
          refine V_iload d_ClassBook_choose_42 rfl ?_
          refine V_icmp_ge (tgt := 90) d_ClassBook_choose_44 (by decide) (fun b44 => ?_) (fun b44 => ?_)
          · have := (le_nI (subs (dN D) R).length i rfl rfl (by omega) (by omega)).mp b44
            omega
          · refine V_aload_n d_ClassBook_choose_47 rfl ?_
            refine V_iload d_ClassBook_choose_48 rfl ?_
            refine V_iload_n d_ClassBook_choose_50 rfl ?_
            refine V_iload_n d_ClassBook_choose_51 rfl ?_
            refine V_iload d_ClassBook_choose_52 rfl ?_
            refine V_callV d_ClassBook_choose_54 k_ClassBook_161 rfl (c_with (by omega) (by omega) hbH hT hmem) (by first | rfl | assumption) rfl rfl (by first | decide | omega) rfl (Nat.le_of_ble_eq_true rfl) (fun v_ h_ q_ => ?_)
            obtain ⟨rfl, q1, q2⟩ := q_
            have fr2 : hFr h h_ := fun z c1 c2 => by rw [q1.ne c1]; exact fr z c1 c2
            have hch2 : ∀ d, d < wK w - (l + 2) → h_ 22 d = gD q d := fun d hd => by rw [q1.ne (by omega)]; exact hch d hd
            show V E _ m_ClassBook_choose _ 57 _ [.int (nI (wyN D w (l + 2) R b S))] _
            refine V_istore d_ClassBook_choose_57 (by decide) ?_
            dsimp only [List.set]
            refine V_iload d_ClassBook_choose_59 rfl ?_
            refine V_iload d_ClassBook_choose_61 rfl ?_
            refine V_icmp_ge (tgt := 69) d_ClassBook_choose_63 (by decide) (fun b63 => ?_) (fun b63 => ?_)
            · have hge := (nI_leI (by omega) (by omega)).mp b63
              refine V_iload d_ClassBook_choose_69 rfl ?_
              refine V_iload d_ClassBook_choose_71 rfl ?_
              refine V_isub d_ClassBook_choose_73 ?_
              refine V_istore d_ClassBook_choose_74 (by decide) ?_
              dsimp only [List.set]
              refine V_iload d_ClassBook_choose_76 rfl ?_
              refine V_iload_n d_ClassBook_choose_78 rfl ?_
              rw [pk_sub hge]
              refine V_callS1 d_ClassBook_choose_79 k_ClassBook_164 rfl (c_following _ S R) rfl (by first | decide | omega) rfl (Nat.le_of_ble_eq_true rfl) ?_
              refine V_istore d_ClassBook_choose_82 (by decide) ?_
              dsimp only [List.set]
              refine V_iincw (w := 1) d_ClassBook_choose_84 rfl (by decide) (by decide) ?_
              dsimp only [List.set]
              refine V_goto (tgt := 40) d_ClassBook_choose_87 (by decide) ?_
              rw [nI_1, show A - ahN D w (l + 2) R b i - wyN D w (l + 2) R b S = A - ahN D w (l + 2) R b (i + 1) from by rw [ah_succ hSi]; omega]
              refine ihi hil _ _ _ fr2 q2 hch2 (by rw [ah_succ hSi]; omega) (fun hi1 => ?_)
              obtain ⟨T, a, hT1, ha, -⟩ := subs_get hN hR hi1
              rw [hT1, subs_chain hN hR ha i S T hSi hT1]
            · have hlt : A - ahN D w (l + 2) R b i < wyN D w (l + 2) R b S := by
                rcases Nat.lt_or_ge (A - ahN D w (l + 2) R b i) (wyN D w (l + 2) R b S) with z | z
                · exact z
                · exact absurd ((nI_leI (by omega) (by omega)).mpr z) b63
              have hg : goS D w S b = true := by
                apply Classical.byContradiction
                intro z
                unfold wyN at hlt
                rw [if_neg (fun y => z y.2)] at hlt
                omega
              have hwy : wyN D w (l + 2) R b S = (sq D w (l + 1) (dif R S) (b - prN D w S)).length := by
                unfold wyN
                rw [if_pos ⟨by omega, hg⟩]
                rfl
              rw [hwy] at hlt
              have ht' := List.getElem?_eq_getElem hlt
              have hAt := sq_at hSi hg ht'
              rw [show ahN D w (l + 2) R b i + (A - ahN D w (l + 2) R b i) = A by omega, hA] at hAt
              have htt := Option.some.inj hAt
              have hpr : prN D w S ≤ b := by
                unfold goS at hg
                simp only [Bool.and_eq_true, decide_eq_true_eq] at hg
                exact hg.2
              have hmay : mayB D w (cs S) = true := by
                unfold goS at hg
                simp only [Bool.and_eq_true] at hg
                exact hg.1
              have hprl := prN_le D w S
              have hTn := okT_next hN hT hmem
              obtain ⟨r1, r2, r3, r4, r5, r6, r7, r8, r9, r10⟩ := id q2
              have hsl := slN_lt hN hSin
              have h12 : 2 ^ dN D ≤ 2 ^ 12 := Nat.pow_le_pow_right (by omega) g5'
              have h12' : (2 : Nat) ^ 12 = 4096 := by decide
              have hin2 : vp_in (nI (slN (dN D) S)) 4096 := vp_in_nI (by omega) (by omega)
              have hin3 : vp_in (nI (wK w - (l + 1 + 1))) 6 := vp_in_nI (by omega) (by omega)
              refine V_goto (tgt := 90) d_ClassBook_choose_66 (by decide) ?_
              refine V_aload_n d_ClassBook_choose_90 rfl ?_
              refine V_getR d_ClassBook_choose_91 f_ClassBook_31 rfl (by first | rfl | assumption) (by first | rfl | assumption) ?_
              refine V_aload_n d_ClassBook_choose_94 rfl ?_
              refine V_getR d_ClassBook_choose_95 f_ClassBook_15 rfl (by first | rfl | assumption) (by first | rfl | assumption) ?_
              refine V_getI d_ClassBook_choose_98 f_ClassBook_78 rfl (by first | rfl | assumption) (by first | rfl | assumption) ?_
              refine V_iload d_ClassBook_choose_101 rfl ?_
              rw [r3]
              refine V_isub d_ClassBook_choose_103 ?_
              rw [pk_sub (by omega)]
              refine V_iload d_ClassBook_choose_104 rfl ?_
              refine V_iast d_ClassBook_choose_106 (by first | rfl | assumption) (by first | assumption | exact vp_in_nI (by omega) (by omega)) ?_
              refine V_iload_n d_ClassBook_choose_107 rfl ?_
              refine V_iload d_ClassBook_choose_108 rfl ?_
              refine V_iconst (v := -1) d_ClassBook_choose_110 (by decide) ?_
              refine V_ixor d_ClassBook_choose_111 ?_
              refine V_iand d_ClassBook_choose_112 ?_
              refine V_istore_n d_ClassBook_choose_113 (by decide) ?_
              dsimp only [List.set]
              refine V_iload_n d_ClassBook_choose_114 rfl ?_
              refine V_aload_n d_ClassBook_choose_115 rfl ?_
              refine V_getR d_ClassBook_choose_116 f_ClassBook_34 rfl (by first | rfl | assumption) (by first | rfl | assumption) ?_
              refine V_iload d_ClassBook_choose_119 rfl ?_
              refine V_aload_n d_ClassBook_choose_121 rfl ?_
              refine V_getI d_ClassBook_choose_122 f_ClassBook_57 rfl (by first | rfl | assumption) (by first | rfl | assumption) ?_
              rw [nI_clamp (by omega), hup_ne (by omega), r7]
              refine V_iushr d_ClassBook_choose_125 rfl ?_
              rw [ush_slot hN hSin]
              refine V_iald d_ClassBook_choose_126 (by first | rfl | assumption) (by first | assumption | exact vp_in_nI (by omega) (by omega)) ?_
              rw [nI_clamp (by omega), hup_ne (by omega), prc_at g5' r9 hSin, show prI D w S = nI (prN D w S) from by unfold prI; rw [if_pos hmay]]
              refine V_isub d_ClassBook_choose_127 ?_
              refine V_istore_n d_ClassBook_choose_128 (by decide) ?_
              dsimp only [List.set]
              refine V_iincw (w := -1) d_ClassBook_choose_129 rfl (by decide) (by decide) ?_
              dsimp only [List.set]
              refine V_goto (tgt := 22) d_ClassBook_choose_132 (by decide) ?_
              rw [pk_sub hpr, show nI (l + 1 + 1) + -1 = nI (l + 1) from by rw [← Int32.sub_eq_add_neg]; exact nI_pred (l + 1)]
              refine ih (by omega) _ (dif R S) _ (A - ahN D w (l + 2) R b i) _ _ _ _ _ (fun z c1 c2 => by rw [hup_ne c2]; exact fr2 z c1 c2) ⟨r1.of (fun z _ _ => hup_ne (by omega)), r2, by rw [hup_ne (by omega)]; exact r3, r4, r5, by rw [hup_ne (by omega)]; exact r6, by rw [hup_ne (by omega)]; exact r7, by rw [hup_ne (by omega)]; exact r8, fun y hy => by rw [hup_ne (by omega)]; exact r9 y hy, fun l R b a1 a2 a3 a4 => by have := r10 l R b a1 a2 a3 a4; unfold ent at this ⊢; rw [hup_ne (by omega)]; exact this⟩ hTn ht' (fun d hd => ?_) (fun d hd => ?_)
              · rw [hup_same]
                by_cases c : d = wK w - (l + 1 + 1)
                · have e := hqt 0 (by omega)
                  rw [c, upd_s, show wK w - (l + 1 + 1) = wK w - (l + 1 + 1) + 0 by omega, e, htt, gD_zero]
                · rw [upd_n c]; exact hch2 d (by omega)
              · have e := hqt (d + 1) (by omega)
                rw [htt, gD_cons] at e
                rw [← e, show wK w - (l + 1 + 1) + (d + 1) = wK w - (l + 1) + d by omega]
        have h0 := inner 0 (Nat.zero_le _) H R u9 fr hbH hch (by rw [ah_0]; exact Nat.zero_le _) (fun h1 => by
          obtain ⟨T, a, hT1, ha, -⟩ := subs_get hN hR h1
          exact subs_head hN hR ha)
        rw [ah_0, Nat.sub_zero] at h0
        exact h0
  obtain ⟨k, hk⟩ : ∃ k, wK w = k + 1 := ⟨wK w - 1, by omega⟩
  have h0 := loop k (by omega) h (cI (inN D)) (bdg D w) x q none none none none (fun _ _ _ => rfl) hb ⟨by omega, by omega, inN_S, fun p hp _ => absurd hp (by omega), Nat.le_refl _⟩ (by rw [← hk]; exact hq) (fun d hd => absurd hd (by omega)) (fun d hd => by rw [← hk, Nat.sub_self, Nat.zero_add])
  rw [← hk] at h0
  exact h0
