/-! the class's step() and walk() -/
theorem stpS_law {D : LD} {w : LW} {ds : Nat → Nat} {s : Int32} (hb : brk D w ds = 0) : brk D w (stpS D w ds s).2.1 = 0 := by
  unfold stpS
  split
  · exact hb
  · unfold stpT
    split
    · exact hb
    · split
      · assumption
      · exact hb
theorem stpS_same {D : LD} {w : LW} {ds : Nat → Nat} {s : Int32} (h : (stpS D w ds s).1 = false) : ∀ p, p < dN D → (stpS D w ds s).2.1 p = ds p := by
  intro p hp
  revert h
  unfold stpS
  split
  · intro _; rfl
  · unfold stpT
    split
    · intro _; rfl
    · split
      · intro h
        apply Classical.byContradiction
        intro z
        have h : difN (dN D) _ _ = false := h
        rw [difN_iff.mpr ⟨p, hp, z⟩] at h
        cases h
      · intro _; rfl
theorem dP_cong {D : LD} {a b : Nat → Nat} (h : ∀ p, p < dN D → a p = b p) (d : Nat) : dP D a d = dP D b d := by
  funext j
  unfold dP inN
  by_cases hj : j < dN D
  · rw [h j hj]
  · rw [decide_eq_false hj]; rfl
theorem val_cong {D : LD} {w : LW} {a b : Nat → Nat} (h : ∀ p, p < dN D → a p = b p) (m : Nat) : val D w a m = val D w b m := by
  have e : (fun d => shr D m (dP D a d)) = fun d => shr D m (dP D b d) := by
    funext d
    rw [dP_cong h]
  unfold val
  rw [e]
theorem c_Dstep {E : Wd} {h : Hp} {S : ST} (hc : ClW h S) (ok : okST S) (s : Int32) : CC E 6 m_DC_step [.int s] h (opStep S s) := by
  refine Cq_of2 ok_DC_step rfl (Nat.le_of_ble_eq_true rfl) (L := [some (.ref 0), some (.int s), none]) rfl ?_
  refine V_aload_n d_DC_step_0 rfl ?_
  refine V_callV1 d_DC_step_1 k_DC_244 rfl (c_changeRefusal hc ok) (by first | rfl | assumption) rfl rfl (by first | decide | omega) rfl (Nat.le_of_ble_eq_true rfl) ?_
  by_cases h0 : dN S.1 = 0
  · have hop : opStep S s = (-5, S) := by unfold opStep; rw [if_pos h0]
    rw [hop, if_pos h0]
    refine V_istore_n d_DC_step_4 (by decide) ?_
    dsimp only [List.set]
    refine V_iload_n d_DC_step_5 rfl ?_
    refine V_if_ge (tgt := 11) d_DC_step_6 (by decide) (fun b6 => ?_) (fun b6 => ?_)
    · exact absurd b6 (by decide)
    · refine V_iload_n d_DC_step_9 rfl ?_
      refine V_iret d_DC_step_10 rfl ?_
      exact ⟨rfl, hc, fun _ _ => rfl⟩
  · by_cases hb : brk S.1 S.2.1 S.2.2.1 = 0
    · have hop : opStep S s = ((if (stpS S.1 S.2.1 S.2.2.1 s).1 then 1 else 0), (S.1, S.2.1, (stpS S.1 S.2.1 S.2.2.1 s).2.1, S.2.2.2)) := by unfold opStep; rw [if_neg h0, if_pos hb]
      rw [hop, if_neg h0, if_pos hb]
      have hc1 : ClW (hup h 25 0 s) S := ⟨hc.1.of (fun q c1 c2 => hup_ne (by omega)), hc.2.1.of (fun q c1 c2 => hup_ne (by omega)), hc.2.2.1.at (hup_ne (by omega)) (hup_ne (by omega)), ⟨by rw [hup_same, upd_n (by omega)]; exact hc.2.2.2.1.1, by rw [hup_ne (by omega)]; exact hc.2.2.2.1.2⟩, hc.2.2.2.2.of (fun q c1 c2 _ _ => hup_ne (by omega))⟩
      have hs : (hup h 25 0 s) 25 0 = s := by rw [hup_same, upd_s]
      have hct := c_takeStep (E := E) hc1.1 ok.1 hc1.2.1 ok.2.1 (Or.inl rfl) hc1.2.2.1 ok.2.2.1 hb
      rw [hs] at hct
      refine V_istore_n d_DC_step_4 (by decide) ?_
      dsimp only [List.set]
      refine V_iload_n d_DC_step_5 rfl ?_
      refine V_if_ge (tgt := 11) d_DC_step_6 (by decide) (fun b6 => ?_) (fun b6 => ?_)
      · refine V_aload_n d_DC_step_11 rfl ?_
        refine V_getR d_DC_step_12 f_DC_62 rfl (by first | rfl | assumption) (by first | rfl | assumption) ?_
        refine V_iload_n d_DC_step_15 rfl ?_
        refine V_put (ty := .int) d_DC_step_16 f_DC_247 rfl (by first | rfl | assumption) (by first | rfl | assumption) (by decide +kernel) (by first | rfl | assumption) (by first | rfl | assumption) ?_
        refine V_aload_n d_DC_step_19 rfl ?_
        refine V_getR d_DC_step_20 f_DC_62 rfl (by first | rfl | assumption) (by first | rfl | assumption) ?_
        refine V_aload_n d_DC_step_23 rfl ?_
        refine V_getR d_DC_step_24 f_DC_36 rfl (by first | rfl | assumption) (by first | rfl | assumption) ?_
        refine V_callV d_DC_step_27 k_DC_250 rfl (hct) (by first | rfl | assumption) rfl rfl (by first | decide | omega) rfl (Nat.le_of_ble_eq_true rfl) (fun v_ h_ q_ => ?_)
        obtain ⟨rfl, r1, r2, r3⟩ := q_
        have fin : ClW h_ (S.1, S.2.1, (stpS S.1 S.2.1 S.2.2.1 s).2.1, S.2.2.2) := ⟨r3.land (Or.inl rfl) hc1.1, r3.law (Or.inl rfl) hc1.2.1, r1, ⟨by rw [r3.2]; exact hc1.2.2.2.1.1, by rw [r3.1 _ (by omega) (by omega) (by omega) (by omega) (by omega) (by omega)]; exact hc1.2.2.2.1.2⟩, hc1.2.2.2.2.of (fun q c1 c2 _ _ => r3.1 q (by omega) (by omega) (by omega) (by omega) (by omega) (by omega))⟩
        have fr : ∀ q, 41 ≤ q → h_ q = h q := fun q hq => by rw [r3.1 q (by omega) (by omega) (by omega) (by omega) (by omega) (by omega), hup_ne (by omega)]
        show V E _ m_DC_step _ 30 _ [.int (if (stpS S.1 S.2.1 S.2.2.1 s).1 then 1 else 0)] _
        refine V_if_eq (tgt := 37) d_DC_step_30 (by decide) (fun b30 => ?_) (fun b30 => ?_)
        · refine V_iconst (v := 0) d_DC_step_37 (by decide) ?_
          refine V_iret d_DC_step_38 rfl ?_
          exact ⟨by rw [b2i.mp b30]; rfl, fin, fr⟩
        · refine V_iconst (v := 1) d_DC_step_33 (by decide) ?_
          refine V_goto (tgt := 38) d_DC_step_34 (by decide) ?_
          refine V_iret d_DC_step_38 rfl ?_
          exact ⟨by rw [b2in.mp b30]; rfl, fin, fr⟩
      · exact absurd (by decide) b6
    · have hop : opStep S s = (-3, S) := by unfold opStep; rw [if_neg h0, if_neg hb]
      rw [hop, if_neg h0, if_neg hb]
      refine V_istore_n d_DC_step_4 (by decide) ?_
      dsimp only [List.set]
      refine V_iload_n d_DC_step_5 rfl ?_
      refine V_if_ge (tgt := 11) d_DC_step_6 (by decide) (fun b6 => ?_) (fun b6 => ?_)
      · exact absurd b6 (by decide)
      · refine V_iload_n d_DC_step_9 rfl ?_
        refine V_iret d_DC_step_10 rfl ?_
        exact ⟨rfl, hc, fun _ _ => rfl⟩
/-- what a walk leaves: the trial's rows, the walker's cells, the shares -/
def rFr (h h' : Hp) : Prop := ∀ q, q ≠ 30 + 1 → q ≠ 30 + 2 → q ≠ 25 → q ≠ 27 → q ≠ 28 → q ≠ 29 → q ≠ 26 → q ≠ 19 → h' q = h q
theorem rFr.tr {h h' h2 : Hp} (a : rFr h h') (b : rFr h' h2) : rFr h h2 := fun q h1 h3 h4 h5 h6 h7 h8 h9 => (b q h1 h3 h4 h5 h6 h7 h8 h9).trans (a q h1 h3 h4 h5 h6 h7 h8 h9)
theorem rFr.land {h h' : Hp} {D : LD} (a : rFr h h') (hl : LandW h D) : LandW h' D := hl.of (fun q _ _ => a q (by omega) (by omega) (by omega) (by omega) (by omega) (by omega) (by omega) (by omega))
theorem rFr.law {h h' : Hp} {w : LW} (a : rFr h h') (hl : LawW h w) : LawW h' w := hl.of (fun q _ _ => a q (by omega) (by omega) (by omega) (by omega) (by omega) (by omega) (by omega) (by omega))
section Roam
variable {E : Wd} {Q : Option Value → Hp → Prop} {H : Hp} {n m own v : Int32} {i : Nat}
theorem ro_seen (hi : i ≤ 200) {f : Nat → Int32} (k : V E 6 m_Walker_roam Q 34 [some (.ref 25), some (.ref 14), some (.int n), some (.int m), some (.int own), some (.int v), some (.int (nI (i + 1)))] [] (hrow H 26 (sg4 v i (sg3 v i (sg2 own v f))))) : V E 6 m_Walker_roam Q 75 [some (.ref 25), some (.ref 14), some (.int n), some (.int m), some (.int own), some (.int v), some (.int (nI i))] [] (hrow H 26 f) := by
  have in3 : vp_in (3 : Int32) 6 := vp_in_nI (n := 3) (by omega) (by omega)
  have in4 : vp_in (4 : Int32) 6 := vp_in_nI (n := 4) (by omega) (by omega)
  have i0 : (nI i = 0) ↔ i = 0 := eq_nI i 0 rfl rfl (by omega) (by decide)
  have p4 : ∀ f, V E 6 m_Walker_roam Q 34 [some (.ref 25), some (.ref 14), some (.int n), some (.int m), some (.int own), some (.int v), some (.int (nI (i + 1)))] [] (hrow H 26 (sg4 v i f)) → V E 6 m_Walker_roam Q 120 [some (.ref 25), some (.ref 14), some (.int n), some (.int m), some (.int own), some (.int v), some (.int (nI i))] [] (hrow H 26 f) := by
    intro f k
    have st : ∀ x, x = (if i = 0 ∨ f 4 < v then v else f 4) → V E 6 m_Walker_roam Q 146 [some (.ref 25), some (.ref 14), some (.int n), some (.int m), some (.int own), some (.int v), some (.int (nI i))] [.int x, .int 4, .ref 26] (hrow H 26 f) := by
      intro x hx
      refine V_iast d_Walker_roam_146 (by first | rfl | assumption) (by first | assumption | exact vp_in_nI (by omega) (by omega)) ?_
      refine V_iincw (w := 1) d_Walker_roam_147 rfl (by decide) (by decide) ?_
      dsimp only [List.set]
      refine V_goto (tgt := 34) d_Walker_roam_150 (by decide) ?_
      rw [hup_hrow, nI_1, hx]
      exact k
    refine V_aload_n d_Walker_roam_120 rfl ?_
    refine V_getR d_Walker_roam_121 f_Walker_23 rfl (by first | rfl | assumption) (by first | rfl | assumption) ?_
    refine V_iconst (v := 4) d_Walker_roam_124 (by decide) ?_
    refine V_iload d_Walker_roam_125 rfl ?_
    refine V_if_ne (tgt := 135) d_Walker_roam_127 (by decide) (fun b127 => ?_) (fun b127 => ?_)
    · have hne : ¬ i = 0 := fun q => b127 (i0.mpr q)
      refine V_aload_n d_Walker_roam_135 rfl ?_
      refine V_getR d_Walker_roam_136 f_Walker_23 rfl (by first | rfl | assumption) (by first | rfl | assumption) ?_
      refine V_iconst (v := 4) d_Walker_roam_139 (by decide) ?_
      refine V_iald d_Walker_roam_140 (by first | rfl | assumption) (by first | assumption | exact vp_in_nI (by omega) (by omega)) ?_
      refine V_iload d_Walker_roam_141 rfl ?_
      rw [hrow_same]
      refine V_mmax d_Walker_roam_143 kM_Walker_74 rfl (by first | decide | omega) (Nat.le_of_ble_eq_true rfl) ?_
      refine st _ ?_
      show (if f 4 < v then v else f 4) = _
      by_cases c : f 4 < v
      · rw [if_pos c, if_pos (Or.inr c)]
      · rw [if_neg c, if_neg (fun z => z.elim hne c)]
    · refine V_iload d_Walker_roam_130 rfl ?_
      refine V_goto (tgt := 146) d_Walker_roam_132 (by decide) ?_
      exact st v (by rw [if_pos (Or.inl (i0.mp b127))])
  have p3 : ∀ f, V E 6 m_Walker_roam Q 120 [some (.ref 25), some (.ref 14), some (.int n), some (.int m), some (.int own), some (.int v), some (.int (nI i))] [] (hrow H 26 (sg3 v i f)) → V E 6 m_Walker_roam Q 93 [some (.ref 25), some (.ref 14), some (.int n), some (.int m), some (.int own), some (.int v), some (.int (nI i))] [] (hrow H 26 f) := by
    intro f k
    have st : ∀ x, x = (if i = 0 ∨ v < f 3 then v else f 3) → V E 6 m_Walker_roam Q 119 [some (.ref 25), some (.ref 14), some (.int n), some (.int m), some (.int own), some (.int v), some (.int (nI i))] [.int x, .int 3, .ref 26] (hrow H 26 f) := by
      intro x hx
      refine V_iast d_Walker_roam_119 (by first | rfl | assumption) (by first | assumption | exact vp_in_nI (by omega) (by omega)) ?_
      rw [hup_hrow, hx]
      exact k
    refine V_aload_n d_Walker_roam_93 rfl ?_
    refine V_getR d_Walker_roam_94 f_Walker_23 rfl (by first | rfl | assumption) (by first | rfl | assumption) ?_
    refine V_iconst (v := 3) d_Walker_roam_97 (by decide) ?_
    refine V_iload d_Walker_roam_98 rfl ?_
    refine V_if_ne (tgt := 108) d_Walker_roam_100 (by decide) (fun b100 => ?_) (fun b100 => ?_)
    · have hne : ¬ i = 0 := fun q => b100 (i0.mpr q)
      refine V_aload_n d_Walker_roam_108 rfl ?_
      refine V_getR d_Walker_roam_109 f_Walker_23 rfl (by first | rfl | assumption) (by first | rfl | assumption) ?_
      refine V_iconst (v := 3) d_Walker_roam_112 (by decide) ?_
      refine V_iald d_Walker_roam_113 (by first | rfl | assumption) (by first | assumption | exact vp_in_nI (by omega) (by omega)) ?_
      refine V_iload d_Walker_roam_114 rfl ?_
      rw [hrow_same]
      refine V_mmin d_Walker_roam_116 kM_Walker_69 rfl (by first | decide | omega) (Nat.le_of_ble_eq_true rfl) ?_
      refine st _ ?_
      show (if v < f 3 then v else f 3) = _
      by_cases c : v < f 3
      · rw [if_pos c, if_pos (Or.inr c)]
      · rw [if_neg c, if_neg (fun z => z.elim hne c)]
    · refine V_iload d_Walker_roam_103 rfl ?_
      refine V_goto (tgt := 119) d_Walker_roam_105 (by decide) ?_
      exact st v (by rw [if_pos (Or.inl (i0.mp b100))])
  refine V_aload_n d_Walker_roam_75 rfl ?_
  refine V_getR d_Walker_roam_76 f_Walker_23 rfl (by first | rfl | assumption) (by first | rfl | assumption) ?_
  refine V_iconst (v := 1) d_Walker_roam_79 (by decide) ?_
  refine V_iload d_Walker_roam_80 rfl ?_
  refine V_iload d_Walker_roam_82 rfl ?_
  refine V_callS1 d_Walker_roam_84 k_Walker_63 rfl (c_compare _ v own) rfl (by first | decide | omega) rfl (Nat.le_of_ble_eq_true rfl) ?_
  refine V_iadd d_Walker_roam_87 ?_
  have hidx : ∀ x, x = (1 : Int32) + (if v < own then -1 else if v = own then 0 else 1) → x = nI (whS own v) := by
    intro x hx
    rw [hx]
    unfold whS
    by_cases c1 : v < own
    · rw [if_pos c1, if_pos c1]; decide
    · rw [if_neg c1, if_neg c1]
      by_cases c2 : v = own
      · rw [if_pos c2, if_pos c2]; decide
      · rw [if_neg c2, if_neg c2]; decide
  rw [hidx _ rfl]
  have hw3 : whS own v < 3 := by unfold whS; split; omega; split <;> omega
  have hin : vp_in (nI (whS own v)) 6 := vp_in_nI (by omega) (by omega)
  refine V_dup2 d_Walker_roam_88 rfl rfl ?_
  refine V_iald d_Walker_roam_89 (by first | rfl | assumption) (by first | assumption | exact vp_in_nI (by omega) (by omega)) ?_
  refine V_iconst (v := 1) d_Walker_roam_90 (by decide) ?_
  refine V_iadd d_Walker_roam_91 ?_
  refine V_iast d_Walker_roam_92 (by first | rfl | assumption) (by first | assumption | exact vp_in_nI (by omega) (by omega)) ?_
  rw [nI_clamp (by omega), hup_hrow, hrow_same]
  exact p3 _ (p4 _ k)
end Roam
theorem wk_cong {own v : Int32} {i : Nat} {c : Bool} {f g : Nat → Int32} (h : ∀ j, j < 6 → f j = g j) : ∀ j, j < 6 → sgt own v i c f j = sgt own v i c g j := by
  have hw3 : whS own v < 3 := by unfold whS; split; omega; split <;> omega
  have c1 : ∀ j, j < 6 → sg1 c f j = sg1 c g j := by
    intro j hj
    unfold sg1 upd
    by_cases q : j = 5
    · rw [if_pos q, if_pos q, h 5 (by omega)]
    · rw [if_neg q, if_neg q, h j hj]
  have c2 : ∀ j, j < 6 → sg2 own v (sg1 c f) j = sg2 own v (sg1 c g) j := by
    intro j hj
    unfold sg2
    unfold upd
    by_cases q : j = whS own v
    · rw [if_pos q, if_pos q, c1 _ (by omega)]
    · rw [if_neg q, if_neg q, c1 j hj]
  have c3 : ∀ j, j < 6 → sg3 v i (sg2 own v (sg1 c f)) j = sg3 v i (sg2 own v (sg1 c g)) j := by
    intro j hj
    unfold sg3
    unfold upd
    by_cases q : j = 3
    · rw [if_pos q, if_pos q, c2 3 (by omega)]
    · rw [if_neg q, if_neg q, c2 j hj]
  intro j hj
  unfold sgt sg4
  unfold upd
  by_cases q : j = 4
  · rw [if_pos q, if_pos q, c3 4 (by omega)]
  · rw [if_neg q, if_neg q, c3 j hj]
theorem c_roam {E : Wd} {h : Hp} {S : ST} (hl : LandW h S.1) (ok : okST S) (hw : LawW h S.2.1) (hp : PartW h 14 (inN S.1) S.2.2.1) (hb : brk S.1 S.2.1 S.2.2.1 = 0) {n m : Nat} (hn : n ≤ 200) (hm : m ≤ 6) {s : Int32} (hs : h 25 0 = s) : Cq E 6 m_Walker_roam [.ref 25, .ref 14, .int (nI n), .int (nI m)] h (fun v h' => v = none ∧ rFr h h' ∧ h' 25 1 = 1 ∧ ∀ j, j < 6 → h' 26 j = (wkN S.1 S.2.1 m (val S.1 S.2.1 S.2.2.1 m) S.2.2.1 s n).2.2 j) := by
  refine Cq_of2 ok_Walker_roam rfl (Nat.le_of_ble_eq_true rfl) (L := [some (.ref 25), some (.ref 14), some (.int (nI n)), some (.int (nI m)), none, none, none]) rfl ?_
  refine V_aload_n d_Walker_roam_0 rfl ?_
  refine V_getR d_Walker_roam_1 f_Walker_30 rfl (by first | rfl | assumption) (by first | rfl | assumption) ?_
  refine V_aload_n d_Walker_roam_4 rfl ?_
  refine V_callV d_Walker_roam_5 k_Walker_43 rfl (c_become _ pt_w pt_14 (by omega) (by omega) (by omega) hp) (by first | rfl | assumption) rfl rfl (by first | decide | omega) rfl (Nat.le_of_ble_eq_true rfl) (fun v_ h_ q_ => ?_)
  obtain ⟨rfl, r1, r2⟩ := q_
  have fr1 : rFr h h_ := fun q c1 c2 _ _ _ _ _ _ => r2 q c1 c2
  have es1 : h_ 25 0 = s := by rw [r2 _ (by omega) (by omega)]; exact hs
  have hp1 : PartW h_ 14 (inN S.1) S.2.2.1 := hp.at (r2 _ (by omega) (by omega)) (r2 _ (by omega) (by omega))
  clear r2
  show V E _ m_Walker_roam _ 8 _ [] _
  refine V_aload_n d_Walker_roam_8 rfl ?_
  refine V_getR d_Walker_roam_9 f_Walker_19 rfl (by first | rfl | assumption) (by first | rfl | assumption) ?_
  refine V_aload_n d_Walker_roam_12 rfl ?_
  refine V_iload_n d_Walker_roam_13 rfl ?_
  refine V_callV d_Walker_roam_14 k_Walker_47 rfl (c_weigh (fr1.land hl) ok.1 (fr1.law hw) ok.2.1 pt_14 (by omega) hp1 hm) (by first | rfl | assumption) rfl rfl (by first | decide | omega) rfl (Nat.le_of_ble_eq_true rfl) (fun v_ h_ q_ => ?_)
  obtain ⟨rfl, f, rfl⟩ := q_
  obtain ⟨own, hown⟩ : ∃ own, own = val S.1 S.2.1 S.2.2.1 m := ⟨_, rfl⟩
  rw [← hown]
  show V E _ m_Walker_roam _ 17 _ [.int own] _
  refine V_istore d_Walker_roam_17 (by decide) ?_
  dsimp only [List.set]
  refine V_iload d_Walker_roam_19 rfl ?_
  refine V_istore d_Walker_roam_21 (by decide) ?_
  dsimp only [List.set]
  refine V_aload_n d_Walker_roam_23 rfl ?_
  refine V_getR d_Walker_roam_24 f_Walker_23 rfl (by first | rfl | assumption) (by first | rfl | assumption) ?_
  refine V_iconst (v := 0) d_Walker_roam_27 (by decide) ?_
  refine V_callS0 d_Walker_roam_28 k_Walker_53 rfl (c_fill _ (by decide) rfl 0) rfl (by first | decide | omega) rfl (Nat.le_of_ble_eq_true rfl) ?_
  have fr2 : rFr h (hrow (hrow h_ 19 f) 26 (fa_fill (fun _ => 0) ((hrow h_ 19 f) 26) 6)) := fr1.tr (fun q _ _ _ _ _ _ c7 c8 => by rw [hrow_ne c7, hrow_ne c8])
  have es2 : (hrow (hrow h_ 19 f) 26 (fa_fill (fun _ => 0) ((hrow h_ 19 f) 26) 6)) 25 0 = s := by rw [hrow_ne (by omega), hrow_ne (by omega)]; exact es1
  have hp2 : PartW (hrow (hrow h_ 19 f) 26 (fa_fill (fun _ => 0) ((hrow h_ 19 f) 26) 6)) 30 (inN S.1) S.2.2.1 := r1.at (by rw [hrow_ne (by omega), hrow_ne (by omega)]) (by rw [hrow_ne (by omega), hrow_ne (by omega)])
  have hs2 : ∀ j, j < 6 → (hrow (hrow h_ 19 f) 26 (fa_fill (fun _ => 0) ((hrow h_ 19 f) 26) 6)) 26 j = 0 := fun j hj => by rw [hrow_same, fa_fill_in hj]
  generalize hrow (hrow h_ 19 f) 26 (fa_fill (fun _ => 0) ((hrow h_ 19 f) 26) 6) = H0 at *
  refine V_iconst (v := 0) d_Walker_roam_31 (by decide) ?_
  refine V_istore d_Walker_roam_32 (by decide) ?_
  dsimp only [List.set]
  have loop : ∀ i, i ≤ n → ∀ H, rFr h H → PartW H 30 (inN S.1) (wkN S.1 S.2.1 m own S.2.2.1 s i).1 → brk S.1 S.2.1 (wkN S.1 S.2.1 m own S.2.2.1 s i).1 = 0 → H 25 0 = (wkN S.1 S.2.1 m own S.2.2.1 s i).2.1 → (∀ j, j < 6 → H 26 j = (wkN S.1 S.2.1 m own S.2.2.1 s i).2.2 j) → V E 6 m_Walker_roam (fun v h' => v = none ∧ rFr h h' ∧ h' 25 1 = 1 ∧ ∀ j, j < 6 → h' 26 j = (wkN S.1 S.2.1 m own S.2.2.1 s n).2.2 j) 34 [some (.ref 25), some (.ref 14), some (.int (nI n)), some (.int (nI m)), some (.int own), some (.int (val S.1 S.2.1 (wkN S.1 S.2.1 m own S.2.2.1 s i).1 m)), some (.int (nI i))] [] H := by
    refine up_ind n ?_
    intro i hi ih H fr hpH hbH hsH hsi
    have okd := wkN_ok (m := m) (own := own) (s := s) ok.1 ok.2.2.1 i
    refine V_iload d_Walker_roam_34 rfl ?_
    refine V_iload_n d_Walker_roam_36 rfl ?_
    refine V_icmp_ge (tgt := 153) d_Walker_roam_37 (by decide) (fun b37 => ?_) (fun b37 => ?_)
    · obtain rfl := ge_eq b37 rfl rfl (by omega) hi
      refine V_aload_n d_Walker_roam_153 rfl ?_
      refine V_iconst (v := 1) d_Walker_roam_154 (by decide) ?_
      refine V_put (ty := .boolean) d_Walker_roam_155 f_Walker_77 rfl (by first | rfl | assumption) (by first | rfl | assumption) (by decide +kernel) (by first | rfl | assumption) (by first | rfl | assumption) ?_
      refine V_vret d_Walker_roam_158 rfl ?_
      refine ⟨rfl, fr.tr (fun q _ _ c3 _ _ _ _ _ => hup_ne c3), by rw [hup_same, upd_s], fun j hj => by rw [hup_ne (by omega)]; exact hsi j hj⟩
    · have hin' := nge_lt b37 rfl rfl (by omega) hi
      have ih := ih hin'
      have hwk : wkN S.1 S.2.1 m own S.2.2.1 s (i + 1) = ((stpS S.1 S.2.1 (wkN S.1 S.2.1 m own S.2.2.1 s i).1 (wkN S.1 S.2.1 m own S.2.2.1 s i).2.1).2.1, (stpS S.1 S.2.1 (wkN S.1 S.2.1 m own S.2.2.1 s i).1 (wkN S.1 S.2.1 m own S.2.2.1 s i).2.1).2.2, sgt own (val S.1 S.2.1 (stpS S.1 S.2.1 (wkN S.1 S.2.1 m own S.2.2.1 s i).1 (wkN S.1 S.2.1 m own S.2.2.1 s i).2.1).2.1 m) i (stpS S.1 S.2.1 (wkN S.1 S.2.1 m own S.2.2.1 s i).1 (wkN S.1 S.2.1 m own S.2.2.1 s i).2.1).1 (wkN S.1 S.2.1 m own S.2.2.1 s i).2.2) := rfl
      rw [hwk] at ih
      dsimp only at ih
      generalize wkN S.1 S.2.1 m own S.2.2.1 s i = z at *
      obtain ⟨ds, t, g⟩ := z
      dsimp only at *
      have hst := c_takeStep (E := E) (fr.land hl) ok.1 (fr.law hw) ok.2.1 (Or.inr rfl) hpH okd hbH
      rw [hsH] at hst
      have hlaw := stpS_law (s := t) hbH
      have hsame := stpS_same (D := S.1) (w := S.2.1) (ds := ds) (s := t)
      have okd2 := stpS_ok (w := S.2.1) ok.1 okd t
      generalize stpS S.1 S.2.1 ds t = r at *
      refine V_aload_n d_Walker_roam_40 rfl ?_
      refine V_aload_n d_Walker_roam_41 rfl ?_
      refine V_getR d_Walker_roam_42 f_Walker_30 rfl (by first | rfl | assumption) (by first | rfl | assumption) ?_
      refine V_callV d_Walker_roam_45 k_Walker_59 rfl (hst) (by first | rfl | assumption) rfl rfl (by first | decide | omega) rfl (Nat.le_of_ble_eq_true rfl) (fun v_ h_ q_ => ?_)
      obtain ⟨rfl, q1, q2, q3⟩ := q_
      have fr2 : rFr h h_ := fr.tr (fun q c1 c2 c3 c4 c5 c6 _ _ => q3.1 q c1 c2 c3 c4 c5 c6)
      have es : h_ 26 = H 26 := q3.1 _ (by omega) (by omega) (by omega) (by omega) (by omega) (by omega)
      have rest : ∀ H, rFr h H → PartW H 30 (inN S.1) r.2.1 → H 25 0 = r.2.2 → (∀ j, j < 6 → H 26 j = sg1 r.1 g j) → V E 6 m_Walker_roam (fun v h' => v = none ∧ rFr h h' ∧ h' 25 1 = 1 ∧ ∀ j, j < 6 → h' 26 j = (wkN S.1 S.2.1 m own S.2.2.1 s n).2.2 j) 75 [some (.ref 25), some (.ref 14), some (.int (nI n)), some (.int (nI m)), some (.int own), some (.int (val S.1 S.2.1 r.2.1 m)), some (.int (nI i))] [] H := by
        intro H fr hpH hsH hg
        have k := ro_seen (E := E) (Q := fun v h' => v = none ∧ rFr h h' ∧ h' 25 1 = 1 ∧ ∀ j, j < 6 → h' 26 j = (wkN S.1 S.2.1 m own S.2.2.1 s n).2.2 j) (H := H) (n := nI n) (m := nI m) (own := own) (v := val S.1 S.2.1 r.2.1 m) (i := i) (by omega) (f := H 26)
        rw [hrow_self] at k
        refine k (ih _ (fr.tr (fun q _ _ _ _ _ _ c7 _ => hrow_ne c7)) (hpH.at (hrow_ne (by omega)) (hrow_ne (by omega))) hlaw (by rw [hrow_ne (by omega)]; exact hsH) (fun j hj => ?_))
        rw [hrow_same]
        have e := wk_cong (own := own) (v := val S.1 S.2.1 r.2.1 m) (i := i) (c := false) (f := H 26) (g := sg1 r.1 g) hg j hj
        have e1 : ∀ F : Nat → Int32, sg1 false F = F := fun F => by
          funext x
          unfold sg1 upd
          split
          · rename_i hx; rw [hx]; simp
          · rfl
        unfold sgt at e ⊢
        rw [e1, e1] at e
        exact e
      show V E _ m_Walker_roam _ 48 _ [.int (if r.1 then 1 else 0)] _
      refine V_if_eq (tgt := 75) d_Walker_roam_48 (by decide) (fun b48 => ?_) (fun b48 => ?_)
      · have hr := b2i.mp b48
        have ev : val S.1 S.2.1 ds m = val S.1 S.2.1 r.2.1 m := val_cong (fun p hp => (hsame hr p hp).symm) m
        rw [ev]
        refine rest _ fr2 q1 q2 (fun j hj => ?_)
        rw [es, hsi j hj, hr]
        unfold sg1 upd
        split
        · rename_i hx; rw [hx]; simp
        · rfl
      · have hr := b2in.mp b48
        have in5 : vp_in (5 : Int32) 6 := vp_in_nI (n := 5) (by omega) (by omega)
        refine V_aload_n d_Walker_roam_51 rfl ?_
        refine V_getR d_Walker_roam_52 f_Walker_23 rfl (by first | rfl | assumption) (by first | rfl | assumption) ?_
        refine V_iconst (v := 5) d_Walker_roam_55 (by decide) ?_
        refine V_dup2 d_Walker_roam_56 rfl rfl ?_
        refine V_iald d_Walker_roam_57 (by first | rfl | assumption) (by first | assumption | exact vp_in_nI (by omega) (by omega)) ?_
        refine V_iconst (v := 1) d_Walker_roam_58 (by decide) ?_
        refine V_iadd d_Walker_roam_59 ?_
        refine V_iast d_Walker_roam_60 (by first | rfl | assumption) (by first | assumption | exact vp_in_nI (by omega) (by omega)) ?_
        refine V_aload_n d_Walker_roam_61 rfl ?_
        refine V_getR d_Walker_roam_62 f_Walker_19 rfl (by first | rfl | assumption) (by first | rfl | assumption) ?_
        refine V_aload_n d_Walker_roam_65 rfl ?_
        refine V_getR d_Walker_roam_66 f_Walker_30 rfl (by first | rfl | assumption) (by first | rfl | assumption) ?_
        refine V_iload_n d_Walker_roam_69 rfl ?_
        have c5 : (5 : Int32).toNatClampNeg = 5 := by decide
        rw [c5]
        have hp3 : PartW (hup h_ 26 5 (h_ 26 5 + 1)) 30 (inN S.1) r.2.1 := q1.at (hup_ne (by omega)) (hup_ne (by omega))
        have fr3 : rFr h (hup h_ 26 5 (h_ 26 5 + 1)) := fr2.tr (fun q _ _ _ _ _ _ c7 _ => hup_ne c7)
        refine V_callV d_Walker_roam_70 k_Walker_47 rfl (c_weigh (fr3.land hl) ok.1 (fr3.law hw) ok.2.1 pt_w (by omega) hp3 hm) (by first | rfl | assumption) rfl rfl (by first | decide | omega) rfl (Nat.le_of_ble_eq_true rfl) (fun v_ h_ q_ => ?_)
        obtain ⟨rfl, f, rfl⟩ := q_
        show V E _ m_Walker_roam _ 73 _ [.int (val S.1 S.2.1 r.2.1 m)] _
        refine V_istore d_Walker_roam_73 (by decide) ?_
        dsimp only [List.set]
        refine rest _ (fr3.tr (fun q _ _ _ _ _ _ _ c8 => hrow_ne c8)) (hp3.at (hrow_ne (by omega)) (hrow_ne (by omega))) (by rw [hrow_ne (by omega), hup_ne (by omega)]; exact q2) (fun j hj => ?_)
        rw [hrow_ne (by omega), hup_same, es, hr]
        unfold sg1 upd
        by_cases c : j = 5
        · rw [if_pos c, if_pos c, hsi 5 (by omega)]; rfl
        · rw [if_neg c, if_neg c, hsi j hj]
  have h0 := loop 0 (Nat.zero_le _) H0 fr2 hp2 hb es2 (fun j hj => by rw [hs2 j hj]; rfl)
  have ev : val S.1 S.2.1 (wkN S.1 S.2.1 m own S.2.2.1 s 0).1 m = own := hown.symm
  rw [ev] at h0
  exact h0
theorem c_Dwalk {E : Wd} {h : Hp} {S : ST} (hc : ClW h S) (ok : okST S) (n s m : Int32) : CC E 7 m_DC_walk [.int n, .int s, .int m] h (opWalk S n s m) := by
  have no : ¬ (inR n 1 200 ∧ inR m 0 6) → V E 7 m_DC_walk (fun r h' => r = some (.int (opWalk S n s m).1) ∧ ClW h' (opWalk S n s m).2 ∧ ∀ q, 41 ≤ q → h' q = h q) 18 [some (.ref 0), some (.int n), some (.int s), some (.int m), none] [] h := by
    intro hno
    rw [opWalk_no hno]
    refine V_iconst (v := -1) d_DC_walk_18 (by decide) ?_
    refine V_iret d_DC_walk_19 rfl ?_
    exact ⟨rfl, hc, fun _ _ => rfl⟩
  refine Cq_of2 ok_DC_walk rfl (Nat.le_of_ble_eq_true rfl) (L := [some (.ref 0), some (.int n), some (.int s), some (.int m), none]) rfl ?_
  refine V_iload_n d_DC_walk_0 rfl ?_
  refine V_iconst (v := 1) d_DC_walk_1 (by decide) ?_
  refine V_sipush (v := 200) d_DC_walk_2 (by decide) ?_
  refine V_callS1 d_DC_walk_5 k_DC_82 rfl (c_isWithin h _ _ _) rfl (by first | decide | omega) rfl (Nat.le_of_ble_eq_true rfl) ?_
  refine V_if_eq (tgt := 18) d_DC_walk_8 (by decide) (fun b8 => ?_) (fun b8 => ?_)
  · exact no (fun q => p2i.mp b8 q.1)
  · refine V_iload_n d_DC_walk_11 rfl ?_
    refine V_callS1 d_DC_walk_12 k_DC_176 rfl (c_isMeasure h _) rfl (by first | decide | omega) rfl (Nat.le_of_ble_eq_true rfl) ?_
    refine V_if_ne (tgt := 20) d_DC_walk_15 (by decide) (fun b15 => ?_) (fun b15 => ?_)
    · have hok : inR n 1 200 ∧ inR m 0 6 := ⟨p2in.mp b8, p2in.mp b15⟩
      rw [opWalk_yes hok]
      obtain ⟨n', hn1, hn2, rfl⟩ := inR_pos (n := 200) (by omega) hok.1
      obtain ⟨m', hm', rfl⟩ := (inR_nI (n := 6) (by omega)).mp hok.2
      rw [nI_clamp (by omega), nI_clamp (by omega)]
      refine V_aload_n d_DC_walk_20 rfl ?_
      refine V_callV1 d_DC_walk_21 k_DC_244 rfl (c_changeRefusal hc ok) (by first | rfl | assumption) rfl rfl (by first | decide | omega) rfl (Nat.le_of_ble_eq_true rfl) ?_
      by_cases h0 : dN S.1 = 0
      · rw [if_pos h0, if_pos h0]
        refine V_istore d_DC_walk_24 (by decide) ?_
        dsimp only [List.set]
        refine V_iload d_DC_walk_26 rfl ?_
        refine V_if_ge (tgt := 34) d_DC_walk_28 (by decide) (fun b28 => ?_) (fun b28 => ?_)
        · exact absurd b28 (by decide)
        · refine V_iload d_DC_walk_31 rfl ?_
          refine V_iret d_DC_walk_33 rfl ?_
          exact ⟨rfl, hc, fun _ _ => rfl⟩
      · rw [if_neg h0, if_neg h0]
        by_cases hb : brk S.1 S.2.1 S.2.2.1 = 0
        · rw [if_pos hb, if_pos hb]
          have hs : (hup h 25 0 s) 25 0 = s := by rw [hup_same, upd_s]
          refine V_istore d_DC_walk_24 (by decide) ?_
          dsimp only [List.set]
          refine V_iload d_DC_walk_26 rfl ?_
          refine V_if_ge (tgt := 34) d_DC_walk_28 (by decide) (fun b28 => ?_) (fun b28 => ?_)
          · refine V_aload_n d_DC_walk_34 rfl ?_
            refine V_getR d_DC_walk_35 f_DC_62 rfl (by first | rfl | assumption) (by first | rfl | assumption) ?_
            refine V_iload_n d_DC_walk_38 rfl ?_
            refine V_put (ty := .int) d_DC_walk_39 f_DC_247 rfl (by first | rfl | assumption) (by first | rfl | assumption) (by decide +kernel) (by first | rfl | assumption) (by first | rfl | assumption) ?_
            refine V_aload_n d_DC_walk_42 rfl ?_
            refine V_getR d_DC_walk_43 f_DC_62 rfl (by first | rfl | assumption) (by first | rfl | assumption) ?_
            refine V_aload_n d_DC_walk_46 rfl ?_
            refine V_getR d_DC_walk_47 f_DC_36 rfl (by first | rfl | assumption) (by first | rfl | assumption) ?_
            refine V_iload_n d_DC_walk_50 rfl ?_
            refine V_iload_n d_DC_walk_51 rfl ?_
            refine V_callV d_DC_walk_52 k_DC_254 rfl (c_roam (hc.1.of (fun q c1 c2 => hup_ne (by omega))) ok (hc.2.1.of (fun q c1 c2 => hup_ne (by omega))) (hc.2.2.1.at (hup_ne (by omega)) (hup_ne (by omega))) hb hn2 hm' hs) (by first | rfl | assumption) rfl rfl (by first | decide | omega) rfl (Nat.le_of_ble_eq_true rfl) (fun v_ h_ q_ => ?_)
            obtain ⟨rfl, r1, r2, r3⟩ := q_
            show V E _ m_DC_walk _ 55 _ [] _
            have in0 : vp_in (0 : Int32) 6 := vp_in_nI (n := 0) (by omega) (by omega)
            refine V_aload_n d_DC_walk_55 rfl ?_
            refine V_getR d_DC_walk_56 f_DC_62 rfl (by first | rfl | assumption) (by first | rfl | assumption) ?_
            refine V_getR d_DC_walk_59 f_DC_258 rfl (by first | rfl | assumption) (by first | rfl | assumption) ?_
            refine V_iconst (v := 0) d_DC_walk_62 (by decide) ?_
            refine V_iald d_DC_walk_63 (by first | rfl | assumption) (by first | assumption | exact vp_in_nI (by omega) (by omega)) ?_
            refine V_iret d_DC_walk_64 rfl ?_
            have e : ∀ q, q ≠ 30 + 1 → q ≠ 30 + 2 → q ≠ 25 → q ≠ 27 → q ≠ 28 → q ≠ 29 → q ≠ 26 → q ≠ 19 → h_ q = h q := fun q c1 c2 c3 c4 c5 c6 c7 c8 => by rw [r1 q c1 c2 c3 c4 c5 c6 c7 c8]; exact hup_ne c3
            refine ⟨?_, ⟨hc.1.of (fun q c1 c2 => e q (by omega) (by omega) (by omega) (by omega) (by omega) (by omega) (by omega) (by omega)), hc.2.1.of (fun q c1 c2 => e q (by omega) (by omega) (by omega) (by omega) (by omega) (by omega) (by omega) (by omega)), hc.2.2.1.at (e _ (by omega) (by omega) (by omega) (by omega) (by omega) (by omega) (by omega) (by omega)) (e _ (by omega) (by omega) (by omega) (by omega) (by omega) (by omega) (by omega) (by omega)), ⟨r2, fun f hf i hi => by rw [r3 i hi, ← Option.some.inj hf]⟩, hc.2.2.2.2.of (fun q c1 c2 _ _ => e q (by omega) (by omega) (by omega) (by omega) (by omega) (by omega) (by omega) (by omega))⟩, fun q hq => e q (by omega) (by omega) (by omega) (by omega) (by omega) (by omega) (by omega) (by omega)⟩
            exact congrArg (fun x => some (Value.int x)) (r3 0 (by omega))
          · exact absurd (by decide) b28
        · rw [if_neg hb, if_neg hb]
          refine V_istore d_DC_walk_24 (by decide) ?_
          dsimp only [List.set]
          refine V_iload d_DC_walk_26 rfl ?_
          refine V_if_ge (tgt := 34) d_DC_walk_28 (by decide) (fun b28 => ?_) (fun b28 => ?_)
          · exact absurd b28 (by decide)
          · refine V_iload d_DC_walk_31 rfl ?_
            refine V_iret d_DC_walk_33 rfl ?_
            exact ⟨rfl, hc, fun _ _ => rfl⟩
    · exact no (fun q => p2i.mp b15 q.2)
