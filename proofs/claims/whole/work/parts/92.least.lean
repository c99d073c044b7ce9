theorem c_survey {E : Wd} {h : Hp} {S : ST} (ok : okST S) (hw : LawW h S.2.1) (hb : bkR h S.1 S.2.1) {m : Nat} (hm : m ≤ 6) (mk : Int32) : Cq E 24 m_ClassBook_survey [.ref 20, .int (nI m), .int mk] h (fun v h' => v = none ∧ (∀ q, q ≠ 20 → q ≠ 21 → q ≠ 24 → q ≠ 19 → h' q = h q) ∧ bkR h' S.1 S.2.1 ∧ h' 20 0 = (lsF (vaF S.1 S.2.1 (nI m)) (LC S.1 S.2.1) none).getD (-2000000) ∧ ∀ s, s < 3 → h' 21 s = sdF mk (vaF S.1 S.2.1 (nI m)) (LC S.1 S.2.1) (fun _ => 0) s) := by
  have okw := ok.2.1
  have hk1 := okw.1
  have hk6 := okw.2.1
  have h12 := hb.1.2.2.2.2.1.2
  have hle := LC_le (w := S.2.1) ok.1 okw h12
  have hLC : LC S.1 S.2.1 = sq S.1 (wfr true S.2.1) (wK S.2.1) (cI (inN S.1)) (bdg S.1 (wfr true S.2.1)) := by
    have e := LC_sq (w := wfr true S.2.1) ok.1 (okw.fr true)
    rw [LC_wf] at e
    exact e
  have hva : ∀ q ∈ LC S.1 S.2.1, vaF S.1 S.2.1 (nI m) q = vq S.1 S.2.1 m q := by
    intro q hq
    unfold vaF
    rw [nI_clamp (by omega)]
    exact va_vq ok.1 (LC_is ok.1 hq).1
  rw [lsF_cong hva, sdF_cong hva]
  refine Cq_of2 ok_ClassBook_survey rfl (Nat.le_of_ble_eq_true rfl) (L := [some (.ref 20), some (.int (nI m)), some (.int mk)]) rfl ?_
  refine V_aload_n d_ClassBook_survey_0 rfl ?_
  refine V_ldc d_ClassBook_survey_1 v_ClassBook_118 rfl ?_
  refine V_put (ty := .int) d_ClassBook_survey_3 f_ClassBook_119 rfl (by first | rfl | assumption) (by first | rfl | assumption) (by decide +kernel) (by first | rfl | assumption) (by first | rfl | assumption) ?_
  refine V_aload_n d_ClassBook_survey_6 rfl ?_
  refine V_iload_n d_ClassBook_survey_7 rfl ?_
  refine V_put (ty := .int) d_ClassBook_survey_8 f_ClassBook_122 rfl (by first | rfl | assumption) (by first | rfl | assumption) (by decide +kernel) (by first | rfl | assumption) (by first | rfl | assumption) ?_
  refine V_aload_n d_ClassBook_survey_11 rfl ?_
  refine V_getR d_ClassBook_survey_12 f_ClassBook_27 rfl (by first | rfl | assumption) (by first | rfl | assumption) ?_
  refine V_iconst (v := 0) d_ClassBook_survey_15 (by decide) ?_
  refine V_callS0 d_ClassBook_survey_16 k_ClassBook_125 rfl (c_fill _ (by decide) rfl 0) rfl (by first | decide | omega) rfl (Nat.le_of_ble_eq_true rfl) ?_
  obtain ⟨H1, hH1⟩ : ∃ H1, H1 = hrow (hup (hup h 20 0 (-2000000)) 20 14 mk) 21 (fa_fill (fun _ => 0) ((hup (hup h 20 0 (-2000000)) 20 14 mk) 21) 3) := ⟨_, rfl⟩
  rw [← hH1]
  have e1 : ∀ q, q ≠ 20 → q ≠ 21 → H1 q = h q := fun q c1 c2 => by rw [hH1, hrow_ne c2, hup_ne c1, hup_ne c1]
  have e2 : ∀ k, k ≠ 0 → k ≠ 14 → H1 20 k = h 20 k := fun k c1 c2 => by rw [hH1, hrow_ne (by omega), hup_same, upd_n c2, hup_same, upd_n c1]
  have sv0 : svW H1 none (fun _ => 0) mk := by
    refine ⟨?_, fun y hy => (by cases hy), fun s hs => ?_, ?_⟩
    · rw [hH1, hrow_ne (by omega), hup_same, upd_n (by omega), hup_same, upd_s]; rfl
    · rw [hH1, hrow_same, fa_fill_in hs]
    · rw [hH1, hrow_ne (by omega), hup_same, upd_s]
  clear hH1
  have hb1 : bkS H1 S.1 (wfr true S.2.1) := by
    obtain ⟨r1, r2, r3, r4, r5, r6, r7, r8, r9, r10⟩ := hb.1
    refine ⟨r1.of (fun q _ _ => e1 q (by omega) (by omega)), r2, by rw [e1 _ (by omega) (by omega)]; exact r3, r4, r5, by rw [e2 _ (by omega) (by omega)]; exact r6, by rw [e2 _ (by omega) (by omega)]; exact r7, by rw [e2 _ (by omega) (by omega)]; exact r8, fun x hx => by rw [e1 _ (by omega) (by omega)]; exact r9 x hx, fun l R b a1 a2 a3 a4 => ?_⟩
    have := r10 l R b a1 a2 a3 a4
    unfold ent at this ⊢
    rw [e1 _ (by omega) (by omega)]
    exact this
  have hw1 : LawW H1 S.2.1 := hw.of (fun q _ _ => e1 q (by omega) (by omega))
  have hall : H1 20 13 = nI (LC S.1 S.2.1).length := by rw [e2 _ (by omega) (by omega)]; exact hb.2.2
  have hfresh : H1 20 9 = 1 := by rw [e2 _ (by omega) (by omega)]; exact hb.2.1
  refine V_aload_n d_ClassBook_survey_19 rfl ?_
  refine V_getI d_ClassBook_survey_20 f_ClassBook_89 rfl (by first | rfl | assumption) (by first | rfl | assumption) ?_
  rw [hall]
  refine V_if_le (tgt := 46) d_ClassBook_survey_23 (by decide) (fun b23 => ?_) (fun b23 => ?_)
  · have h0 : LC S.1 S.2.1 = [] := List.length_eq_zero_iff.mp (by have := (le_nI _ 0 rfl rfl (by omega) (by decide)).mp b23; omega)
    refine V_vret d_ClassBook_survey_46 rfl ?_
    refine ⟨rfl, fun q c1 c2 _ _ => e1 q c1 c2, ⟨hb1, hfresh, hall⟩, ?_, ?_⟩
    · rw [h0]; exact sv0.1
    · rw [h0]; exact sv0.2.2.1
  · have hpos : 0 < (LC S.1 S.2.1).length := by
      rcases Nat.eq_zero_or_pos (LC S.1 S.2.1).length with z | z
      · exact absurd ((le_nI _ 0 rfl rfl (by omega) (by decide)).mpr (by omega)) b23
      · exact z
    obtain ⟨k, hk⟩ : ∃ k, wK S.2.1 = k + 1 := ⟨wK S.2.1 - 1, by omega⟩
    have hpos2 : 0 < (sq S.1 (wfr true S.2.1) (k + 1) (cI (inN S.1)) (bdg S.1 (wfr true S.2.1))).length := by
      rw [← hk, ← hLC]; exact hpos
    have hT : okT S.1 (wfr true S.2.1) (k + 1) (cI (inN S.1)) (bdg S.1 (wfr true S.2.1)) := ⟨by omega, by show k + 1 ≤ wK S.2.1; omega, inN_S, fun p hp _ => absurd hp (by show ¬ p < wK S.2.1 - (k + 1); omega), Nat.le_refl _⟩
    have hv := c_visit (E := E) (w := S.2.1) hm (mk := mk) k (pre := []) hb1 hw1 okw hT hpos2 (by show 0 + (k + 1) = _; omega) (fun i hi => absurd hi (Nat.not_lt_zero i)) sv0
    refine V_aload_n d_ClassBook_survey_26 rfl ?_
    refine V_aload_n d_ClassBook_survey_27 rfl ?_
    refine V_getR d_ClassBook_survey_28 f_ClassBook_15 rfl (by first | rfl | assumption) (by first | rfl | assumption) ?_
    refine V_getI d_ClassBook_survey_31 f_ClassBook_78 rfl (by first | rfl | assumption) (by first | rfl | assumption) ?_
    refine V_aload_n d_ClassBook_survey_34 rfl ?_
    refine V_getI d_ClassBook_survey_35 f_ClassBook_51 rfl (by first | rfl | assumption) (by first | rfl | assumption) ?_
    refine V_aload_n d_ClassBook_survey_38 rfl ?_
    refine V_getI d_ClassBook_survey_39 f_ClassBook_68 rfl (by first | rfl | assumption) (by first | rfl | assumption) ?_
    refine V_iload_n d_ClassBook_survey_42 rfl ?_
    rw [hw1.1, hb1.2.2.2.2.2.1, hb1.2.2.2.2.2.2.2.1, hk]
    refine V_callV d_ClassBook_survey_43 k_ClassBook_131 rfl (hv) (by first | rfl | assumption) rfl rfl (by first | decide | omega) rfl (Nat.le_of_ble_eq_true rfl) (fun v_ h_ q_ => ?_)
    obtain ⟨rfl, t1, t2, t3, t4⟩ := q_
    show V E _ m_ClassBook_survey _ 46 _ [] _
    refine V_vret d_ClassBook_survey_46 rfl ?_
    have ev : (fun t => vq S.1 S.2.1 m ([] ++ t)) = vq S.1 S.2.1 m := by
      funext t
      rw [List.nil_append]
    rw [ev, ← hk, ← hLC] at t3
    exact ⟨rfl, fun q c1 c2 c3 c4 => by rw [t1.1 q c1 c2 c3 c4, e1 q c1 c2], ⟨t2, by rw [t1.2 _ (by omega)]; exact hfresh, by rw [t1.2 _ (by omega)]; exact hall⟩, t3.1, t3.2.2.1⟩
theorem open_most {S : ST} (ok : okST S) : (if szI S = 0 then (if (20000 : Int32) < nI (LC S.1 S.2.1).length then (-4 : Int32) else 0) else szI S) = if szI S = 0 then (if 20000 < (LC S.1 S.2.1).length then -4 else 0) else szI S := by
  by_cases hz : szI S = 0
  · have hle := LC_le (w := S.2.1) ok.1 ok.2.1 (szI_0 hz).1
    rw [if_pos hz, if_pos hz]
    by_cases c : 20000 < (LC S.1 S.2.1).length
    · rw [if_pos c, if_pos ((lt_nI (x := (20000 : Int32)) 20000 _ rfl rfl (by omega) (by omega)).mpr c)]
    · rw [if_neg c, if_neg (fun z => c ((lt_nI (x := (20000 : Int32)) 20000 _ rfl rfl (by omega) (by omega)).mp z))]
  · rw [if_neg hz, if_neg hz]
theorem sv_cl {h h' : Hp} {S : ST} (hc : ClW h S) (a : ∀ q, q ≠ 20 → q ≠ 21 → q ≠ 24 → q ≠ 19 → h' q = h q) (hb : bkR h' S.1 S.2.1) : ClW h' S := ⟨hc.1.of (fun q _ _ => a q (by omega) (by omega) (by omega) (by omega)), hc.2.1.of (fun q _ _ => a q (by omega) (by omega) (by omega) (by omega)), hc.2.2.1.at (a _ (by omega) (by omega) (by omega) (by omega)) (a _ (by omega) (by omega) (by omega) (by omega)), hc.2.2.2.1.of (a _ (by omega) (by omega) (by omega) (by omega)) (a _ (by omega) (by omega) (by omega) (by omega)), hb.w⟩
theorem c_Dleast {E : Wd} {h : Hp} {S : ST} (hc : ClW h S) (ok : okST S) (m : Int32) : CC E 25 m_DC_least [.int m] h (opLeast S m) := by
  refine Cq_of2 ok_DC_least rfl (Nat.le_of_ble_eq_true rfl) (L := [some (.ref 0), some (.int m), none]) rfl ?_
  refine V_iload_n d_DC_least_0 rfl ?_
  refine V_callS1 d_DC_least_1 k_DC_176 rfl (c_isMeasure h _) rfl (by first | decide | omega) rfl (Nat.le_of_ble_eq_true rfl) ?_
  refine V_if_ne (tgt := 9) d_DC_least_4 (by decide) (fun b4 => ?_) (fun b4 => ?_)
  · have hin := p2in.mp b4
    obtain ⟨y, hy, rfl⟩ := (inR_nI (n := 6) (by omega)).mp hin
    have e : opLeast S (nI y) = ((if szI S = 0 then (if 20000 < (LC S.1 S.2.1).length then -4 else (lsF (vaF S.1 S.2.1 (nI y)) (LC S.1 S.2.1) none).getD (-2000000)) else szI S), S) := by
      unfold opLeast
      rw [@if_pos _ (Classical.propDecidable _) hin _ _ _]
    rw [e]
    clear e
    refine V_aload_n d_DC_least_9 rfl ?_
    refine V_sipush (v := 20000) d_DC_least_10 (by decide) ?_
    refine V_callV d_DC_least_13 k_DC_219 rfl (c_openClasses hc ok _) (by first | rfl | assumption) rfl rfl (by first | decide | omega) rfl (Nat.le_of_ble_eq_true rfl) (fun v_ h_ q_ => ?_)
    obtain ⟨rfl, q1, q2, q3⟩ := q_
    rw [open_most ok]
    by_cases hz : szI S = 0
    · rw [if_pos hz, if_pos hz]
      by_cases hs : 20000 < (LC S.1 S.2.1).length
      · rw [if_pos hs, if_pos hs]
        show V E _ m_DC_least _ 16 _ [.int (-4)] _
        refine V_istore_n d_DC_least_16 (by decide) ?_
        dsimp only [List.set]
        refine V_iload_n d_DC_least_17 rfl ?_
        refine V_if_ge (tgt := 23) d_DC_least_18 (by decide) (fun b18 => ?_) (fun b18 => ?_)
        · exact absurd b18 (by decide)
        · refine V_iload_n d_DC_least_21 rfl ?_
          refine V_iret d_DC_least_22 rfl ?_
          exact ⟨rfl, q1, q2⟩
      · rw [if_neg hs, if_neg hs]
        show V E _ m_DC_least _ 16 _ [.int 0] _
        refine V_istore_n d_DC_least_16 (by decide) ?_
        dsimp only [List.set]
        refine V_iload_n d_DC_least_17 rfl ?_
        refine V_if_ge (tgt := 23) d_DC_least_18 (by decide) (fun b18 => ?_) (fun b18 => ?_)
        · refine V_aload_n d_DC_least_23 rfl ?_
          refine V_getR d_DC_least_24 f_DC_53 rfl (by first | rfl | assumption) (by first | rfl | assumption) ?_
          refine V_iload_n d_DC_least_27 rfl ?_
          refine V_iconst (v := 0) d_DC_least_28 (by decide) ?_
          refine V_callV d_DC_least_29 k_DC_235 rfl (c_survey ok q1.2.1 (q3 hz) hy 0) (by first | rfl | assumption) rfl rfl (by first | decide | omega) rfl (Nat.le_of_ble_eq_true rfl) (fun v_ h_ q_ => ?_)
          obtain ⟨rfl, t1, t2, t3, t4⟩ := q_
          show V E _ m_DC_least _ 32 _ [] _
          refine V_aload_n d_DC_least_32 rfl ?_
          refine V_getR d_DC_least_33 f_DC_53 rfl (by first | rfl | assumption) (by first | rfl | assumption) ?_
          refine V_getI d_DC_least_36 f_DC_238 rfl (by first | rfl | assumption) (by first | rfl | assumption) ?_
          refine V_iret d_DC_least_39 rfl ?_
          exact ⟨by rw [t3], sv_cl q1 t1 t2, fun q hq => by rw [t1 q (by omega) (by omega) (by omega) (by omega), q2 q hq]⟩
        · exact absurd (by decide) b18
    · rw [if_neg hz, if_neg hz]
      show V E _ m_DC_least _ 16 _ [.int (szI S)] _
      refine V_istore_n d_DC_least_16 (by decide) ?_
      dsimp only [List.set]
      refine V_iload_n d_DC_least_17 rfl ?_
      refine V_if_ge (tgt := 23) d_DC_least_18 (by decide) (fun b18 => ?_) (fun b18 => ?_)
      · exact absurd b18 (fun z => (fa_of_lt (sz_neg hz)).2.1 z)
      · refine V_iload_n d_DC_least_21 rfl ?_
        refine V_iret d_DC_least_22 rfl ?_
        exact ⟨rfl, q1, q2⟩
  · have hin := p2i.mp b4
    have e : opLeast S m = (-1, S) := by
      unfold opLeast
      rw [@if_neg _ (Classical.propDecidable _) hin _ _ _]
    rw [e]
    refine V_iconst (v := -1) d_DC_least_7 (by decide) ?_
    refine V_iret d_DC_least_8 rfl ?_
    exact ⟨rfl, hc, fun _ _ => rfl⟩
theorem c_Damong {E : Wd} {h : Hp} {S : ST} (hc : ClW h S) (ok : okST S) (m how : Int32) : CC E 25 m_DC_among [.int m, .int how] h (opAmong S m how) := by
  have no : ¬ (inR m 0 6 ∧ inR how 0 2) → V E 25 m_DC_among (fun r h' => r = some (.int (opAmong S m how).1) ∧ ClW h' (opAmong S m how).2 ∧ ∀ q, 41 ≤ q → h' q = h q) 16 [some (.ref 0), some (.int m), some (.int how), none] [] h := by
    intro hn
    have e : opAmong S m how = (-1, S) := by
      unfold opAmong
      rw [@if_neg _ (Classical.propDecidable _) hn _ _ _]
    rw [e]
    refine V_iconst (v := -1) d_DC_among_16 (by decide) ?_
    refine V_iret d_DC_among_17 rfl ?_
    exact ⟨rfl, hc, fun _ _ => rfl⟩
  refine Cq_of2 ok_DC_among rfl (Nat.le_of_ble_eq_true rfl) (L := [some (.ref 0), some (.int m), some (.int how), none]) rfl ?_
  refine V_iload_n d_DC_among_0 rfl ?_
  refine V_callS1 d_DC_among_1 k_DC_176 rfl (c_isMeasure h _) rfl (by first | decide | omega) rfl (Nat.le_of_ble_eq_true rfl) ?_
  refine V_if_eq (tgt := 16) d_DC_among_4 (by decide) (fun b4 => ?_) (fun b4 => ?_)
  · exact no (fun q => p2i.mp b4 q.1)
  · have hin := p2in.mp b4
    refine V_iload_n d_DC_among_7 rfl ?_
    refine V_iconst (v := 0) d_DC_among_8 (by decide) ?_
    refine V_iconst (v := 2) d_DC_among_9 (by decide) ?_
    refine V_callS1 d_DC_among_10 k_DC_82 rfl (c_isWithin h _ _ _) rfl (by first | decide | omega) rfl (Nat.le_of_ble_eq_true rfl) ?_
    refine V_if_ne (tgt := 18) d_DC_among_13 (by decide) (fun b13 => ?_) (fun b13 => ?_)
    · have hin2 := p2in.mp b13
      obtain ⟨y, hy, rfl⟩ := (inR_nI (n := 6) (by omega)).mp hin
      obtain ⟨g, hg, rfl⟩ := (inR_nI (n := 2) (by omega)).mp hin2
      have e : opAmong S (nI y) (nI g) = ((if szI S = 0 then (if 20000 < (LC S.1 S.2.1).length then -4 else sdF (val S.1 S.2.1 S.2.2.1 (nI y).toNatClampNeg) (vaF S.1 S.2.1 (nI y)) (LC S.1 S.2.1) (fun _ => 0) (nI g).toNatClampNeg) else szI S), S) := by
        unfold opAmong
        rw [@if_pos _ (Classical.propDecidable _) ⟨hin, hin2⟩ _ _ _]
      rw [e]
      clear e no
      refine V_aload_n d_DC_among_18 rfl ?_
      refine V_sipush (v := 20000) d_DC_among_19 (by decide) ?_
      refine V_callV d_DC_among_22 k_DC_219 rfl (c_openClasses hc ok _) (by first | rfl | assumption) rfl rfl (by first | decide | omega) rfl (Nat.le_of_ble_eq_true rfl) (fun v_ h_ q_ => ?_)
      obtain ⟨rfl, q1, q2, q3⟩ := q_
      rw [open_most ok]
      by_cases hz : szI S = 0
      · rw [if_pos hz, if_pos hz]
        by_cases hs : 20000 < (LC S.1 S.2.1).length
        · rw [if_pos hs, if_pos hs]
          show V E _ m_DC_among _ 25 _ [.int (-4)] _
          refine V_istore_n d_DC_among_25 (by decide) ?_
          dsimp only [List.set]
          refine V_iload_n d_DC_among_26 rfl ?_
          refine V_if_ge (tgt := 32) d_DC_among_27 (by decide) (fun b27 => ?_) (fun b27 => ?_)
          · exact absurd b27 (by decide)
          · refine V_iload_n d_DC_among_30 rfl ?_
            refine V_iret d_DC_among_31 rfl ?_
            exact ⟨rfl, q1, q2⟩
        · rw [if_neg hs, if_neg hs]
          show V E _ m_DC_among _ 25 _ [.int 0] _
          refine V_istore_n d_DC_among_25 (by decide) ?_
          dsimp only [List.set]
          refine V_iload_n d_DC_among_26 rfl ?_
          refine V_if_ge (tgt := 32) d_DC_among_27 (by decide) (fun b27 => ?_) (fun b27 => ?_)
          · refine V_aload_n d_DC_among_32 rfl ?_
            refine V_getR d_DC_among_33 f_DC_53 rfl (by first | rfl | assumption) (by first | rfl | assumption) ?_
            refine V_iload_n d_DC_among_36 rfl ?_
            refine V_aload_n d_DC_among_37 rfl ?_
            refine V_getR d_DC_among_38 f_DC_44 rfl (by first | rfl | assumption) (by first | rfl | assumption) ?_
            refine V_aload_n d_DC_among_41 rfl ?_
            refine V_getR d_DC_among_42 f_DC_36 rfl (by first | rfl | assumption) (by first | rfl | assumption) ?_
            refine V_iload_n d_DC_among_45 rfl ?_
            refine V_callV d_DC_among_46 k_DC_179 rfl (c_weigh q1.1 ok.1 q1.2.1 ok.2.1 pt_14 (by omega) q1.2.2.1 hy) (by first | rfl | assumption) rfl rfl (by first | decide | omega) rfl (Nat.le_of_ble_eq_true rfl) (fun v_ h_ q_ => ?_)
            obtain ⟨rfl, f, rfl⟩ := q_
            have hbR : bkR (hrow h_ 19 f) S.1 S.2.1 := by
              have hb := q3 hz
              exact ⟨hb.1.vf ⟨fun q _ _ _ c4 => hrow_ne c4, fun k _ => by rw [hrow_ne (by omega)]⟩ (hrow_ne (by omega)), by rw [hrow_ne (by omega)]; exact hb.2.1, by rw [hrow_ne (by omega)]; exact hb.2.2⟩
            show V E _ m_DC_among _ 49 _ [.int (val S.1 S.2.1 S.2.2.1 y), .int (nI y), .ref 20] _
            refine V_callV d_DC_among_49 k_DC_235 rfl (c_survey ok (q1.2.1.of (fun q _ _ => hrow_ne (by omega))) hbR hy (val S.1 S.2.1 S.2.2.1 y)) (by first | rfl | assumption) rfl rfl (by first | decide | omega) rfl (Nat.le_of_ble_eq_true rfl) (fun v_ h_ q_ => ?_)
            obtain ⟨rfl, t1, t2, t3, t4⟩ := q_
            show V E _ m_DC_among _ 52 _ [] _
            have hin3 : vp_in (nI g) 3 := vp_in_nI (by omega) (by omega)
            refine V_aload_n d_DC_among_52 rfl ?_
            refine V_getR d_DC_among_53 f_DC_53 rfl (by first | rfl | assumption) (by first | rfl | assumption) ?_
            refine V_getR d_DC_among_56 f_DC_241 rfl (by first | rfl | assumption) (by first | rfl | assumption) ?_
            refine V_iload_n d_DC_among_59 rfl ?_
            refine V_iald d_DC_among_60 (by first | rfl | assumption) (by first | assumption | exact vp_in_nI (by omega) (by omega)) ?_
            refine V_iret d_DC_among_61 rfl ?_
            refine ⟨?_, sv_cl q1 (fun q c1 c2 c3 c4 => by rw [t1 q c1 c2 c3 c4, hrow_ne c4]) t2, fun q hq => by rw [t1 q (by omega) (by omega) (by omega) (by omega), hrow_ne (by omega), q2 q hq]⟩
            rw [nI_clamp (show g < 2 ^ 31 by omega), nI_clamp (show y < 2 ^ 31 by omega), t4 g (by omega)]
          · exact absurd (by decide) b27
      · rw [if_neg hz, if_neg hz]
        show V E _ m_DC_among _ 25 _ [.int (szI S)] _
        refine V_istore_n d_DC_among_25 (by decide) ?_
        dsimp only [List.set]
        refine V_iload_n d_DC_among_26 rfl ?_
        refine V_if_ge (tgt := 32) d_DC_among_27 (by decide) (fun b27 => ?_) (fun b27 => ?_)
        · exact absurd b27 (fun z => (fa_of_lt (sz_neg hz)).2.1 z)
        · refine V_iload_n d_DC_among_30 rfl ?_
          refine V_iret d_DC_among_31 rfl ?_
          exact ⟨rfl, q1, q2⟩
    · exact no (fun q => p2i.mp b13 q.2)
