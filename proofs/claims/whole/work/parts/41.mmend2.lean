/-! mend() of the model, and what the partings within n moves are -/
theorem Rm_out {D : LD} {w : LW} : ∀ l {a : Nat} {x y : Nat → Nat}, Rm D w l a x y → ∀ q, q < a ∨ dN D ≤ q → y q = x q := by
  intro l
  induction l with
  | zero => intro a x y h q hq; rw [show y = x from h]
  | succ l ih =>
    intro a x y h q hq
    rcases h with rfl | ⟨p, d, h1, h2, h3, h4, h5⟩
    · rfl
    · rw [ih h5 q (by omega), setN, if_neg (by omega)]
theorem Rm_iff {D : LD} {w : LW} : ∀ l {a : Nat} {x y : Nat → Nat}, Rm D w l a x y ↔ (∀ q, q < a ∨ dN D ≤ q → y q = x q) ∧ (∀ q, y q ≠ x q → y q < wK w) ∧ fa_cnt (fun q => decide (y q ≠ x q)) (dN D) ≤ l := by
  have none : ∀ {x y : Nat → Nat} {n : Nat}, fa_cnt (fun q => decide (y q ≠ x q)) n = 0 → ∀ q, q < n → y q = x q := by
    intro x y n
    induction n with
    | zero => intro _ q hq; exact absurd hq (Nat.not_lt_zero q)
    | succ n ih =>
      intro h q hq
      rw [fa_cnt] at h
      by_cases c : q = n
      · subst c
        apply Classical.byContradiction
        intro z
        rw [if_pos (decide_eq_true z)] at h
        omega
      · exact ih (by omega) q (by omega)
  intro l
  induction l with
  | zero =>
    intro a x y
    constructor
    · intro h
      rw [show y = x from h]
      refine ⟨fun _ _ => rfl, fun q hq => absurd rfl hq, ?_⟩
      rw [fa_cnt_cong (q := fun _ => false) (fun k _ => by simp), cnt_smN]
      have : ∀ n, smN (fun _ => 1) (fun _ => false) n = 0 := by
        intro n
        induction n with
        | zero => rfl
        | succ n ih => rw [smN, ih]; rfl
      rw [this]
      exact Nat.le_refl _
    · rintro ⟨h1, h2, h3⟩
      show y = x
      funext q
      rcases Nat.lt_or_ge q (dN D) with c | c
      · exact none (by omega) q c
      · exact h1 q (Or.inr c)
  | succ l ih =>
    intro a x y
    constructor
    · rintro (rfl | ⟨p, d, h1, h2, h3, h4, h5⟩)
      · refine ⟨fun _ _ => rfl, fun q hq => absurd rfl hq, ?_⟩
        have := (ih (a := a) (x := y) (y := y)).mp
        have h0 : Rm D w l a y y := by
          cases l with
          | zero => rfl
          | succ l => exact Or.inl rfl
        have := (this h0).2.2
        omega
      · obtain ⟨g1, g2, g3⟩ := ih.mp h5
        have hyp : y p = d := by rw [g1 p (by omega), setN, if_pos rfl]
        refine ⟨fun q hq => ?_, fun q hq => ?_, ?_⟩
        · rw [g1 q (by omega), setN, if_neg (by omega)]
        · by_cases c : q = p
          · rw [c, hyp]; exact h3
          · exact g2 q (by rw [setN, if_neg c]; exact hq)
        · have := smN_one (f := fun _ => 1) (P := fun q => decide (y q ≠ setN x p d q)) (P' := fun q => decide (y q ≠ x q)) (p := p) (by rw [hyp]; simp [setN]) (by rw [hyp]; simp [h4]) (fun q hq => by simp only [setN, if_neg hq]) (dN D) h2
          rw [← cnt_smN, ← cnt_smN] at this
          omega
    · rintro ⟨h1, h2, h3⟩
      by_cases c : ∃ q, q < dN D ∧ y q ≠ x q
      · obtain ⟨p, ⟨hp, hne⟩, hmin⟩ := pk_least (fun q => q < dN D ∧ y q ≠ x q) c
        have hap : a ≤ p := by
          rcases Nat.lt_or_ge p a with z | z
          · exact absurd (h1 p (Or.inl z)) hne
          · exact z
        refine Or.inr ⟨p, y p, hap, hp, h2 p hne, hne, ih.mpr ⟨fun q hq => ?_, fun q hq => ?_, ?_⟩⟩
        · by_cases c : q = p
          · rw [c, setN, if_pos rfl]
          · rw [setN, if_neg c]
            rcases hq with hq | hq
            · apply Classical.byContradiction
              intro z
              exact hmin q (by omega) ⟨by omega, z⟩
            · exact h1 q (Or.inr hq)
        · by_cases c : q = p
          · rw [c, setN, if_pos rfl] at hq
            exact absurd rfl hq
          · rw [setN, if_neg c] at hq
            exact h2 q hq
        · have := smN_one (f := fun _ => 1) (P := fun q => decide (y q ≠ setN x p (y p) q)) (P' := fun q => decide (y q ≠ x q)) (p := p) (by simp [setN]) (by simp [hne]) (fun q hq => by simp only [setN, if_neg hq]) (dN D) hp
          rw [← cnt_smN, ← cnt_smN] at this
          omega
      · left
        funext q
        rcases Nat.lt_or_ge q (dN D) with z | z
        · apply Classical.byContradiction
          intro t
          exact c ⟨q, z, t⟩
        · exact h1 q (Or.inr z)
theorem isB_one {D : LD} {w : LW} {ds : Nat → Nat} {l : Nat} {b b' : Nat → Nat} (h : isB D w ds (Rm D w l 0 ds) b) (h' : isB D w ds (Rm D w l 0 ds) b') : b = b' := by
  have h1 := key_tot (h'.2.2 b h.1 h.2.1) (h.2.2 b' h'.1 h'.2.1)
  funext q
  rcases Nat.lt_or_ge q (dN D) with c | c
  · exact h1.2.2 q c
  · rw [Rm_out l h.1 q (Or.inr c), Rm_out l h'.1 q (Or.inr c)]
noncomputable def mnd (S : ST) (l : Nat) : Int32 × ST := @dite _ (∃ b, isB S.1 S.2.1 S.2.2.1 (Rm S.1 S.2.1 l 0 S.2.2.1) b) (Classical.propDecidable _) (fun h => (nI (mvP S.1 S.2.2.1 (Classical.choose h)), (S.1, S.2.1, Classical.choose h, S.2.2.2))) (fun _ => (-6, S))
theorem mnd_some {S : ST} {l : Nat} {b : Nat → Nat} (h : isB S.1 S.2.1 S.2.2.1 (Rm S.1 S.2.1 l 0 S.2.2.1) b) : mnd S l = (nI (mvP S.1 S.2.2.1 b), (S.1, S.2.1, b, S.2.2.2)) := by
  have hx : ∃ b, isB S.1 S.2.1 S.2.2.1 (Rm S.1 S.2.1 l 0 S.2.2.1) b := ⟨b, h⟩
  have e : Classical.choose hx = b := isB_one (Classical.choose_spec hx) h
  unfold mnd
  rw [dif_pos hx, e]
theorem mnd_none {S : ST} {l : Nat} (h : ∀ x, Rm S.1 S.2.1 l 0 S.2.2.1 x → brk S.1 S.2.1 x ≠ 0) : mnd S l = (-6, S) := by
  unfold mnd
  rw [dif_neg (fun ⟨b, hb⟩ => h b hb.1 hb.2.1)]
noncomputable def opMend (S : ST) (n : Int32) : Int32 × ST := @ite _ (inR n 0 2) (Classical.propDecidable _) (if dN S.1 = 0 then (-5, S) else mnd S n.toNatClampNeg) (-1, S)
theorem opMend_no {S : ST} {n : Int32} (h : ¬ inR n 0 2) : opMend S n = (-1, S) := @if_neg _ (Classical.propDecidable _) h _ _ _
theorem opMend_yes {S : ST} {n : Int32} (h : inR n 0 2) : opMend S n = if dN S.1 = 0 then (-5, S) else mnd S n.toNatClampNeg := @if_pos _ (Classical.propDecidable _) h _ _ _
theorem mv_self (D : LD) (ds : Nat → Nat) : mvP D ds ds = 0 ∧ mvC D ds ds = 0 := by
  have : ∀ (f : Nat → Nat) n, smN f (fun p => decide (ds p ≠ ds p)) n = 0 := by
    intro f n
    induction n with
    | zero => rfl
    | succ n ih => rw [smN, ih]; simp
  unfold mvP mvC
  rw [cnt_smN]
  exact ⟨this _ _, this _ _⟩
theorem c_Mmend {E : Wd} {h : Hp} {S : ST} (hm : MoW h S) (ok : okST S) (n : Int32) : MC E 9 m_Mo_mend [.int n] h (opMend S n) := by
  have hn := ok.1.1
  refine Cq_of2 ok_Mo_mend rfl (Nat.le_of_ble_eq_true rfl) (L := [some (.ref 41), some (.int n), none]) rfl ?_
  refine V_iload_n d_Mo_mend_0 rfl ?_
  refine V_iconst (v := 0) d_Mo_mend_1 (by decide) ?_
  refine V_iconst (v := 2) d_Mo_mend_2 (by decide) ?_
  refine V_callS1 d_Mo_mend_3 k_Mo_87 rfl (c_Min h n 0 2) rfl (by first | decide | omega) rfl (Nat.le_of_ble_eq_true rfl) ?_
  refine V_if_ne (tgt := 11) d_Mo_mend_6 (by decide) (fun b6 => ?_) (fun b6 => ?_)
  · have hin : inR n 0 2 := p2in.mp b6
    rw [opMend_yes hin]
    obtain ⟨l, hl2, rfl⟩ := (inR_nI (n := 2) (by omega)).mp hin
    rw [nI_clamp (by omega)]
    refine V_aload_n d_Mo_mend_11 rfl ?_
    refine V_getI d_Mo_mend_12 f_Mo_91 rfl (by first | rfl | assumption) (by first | rfl | assumption) ?_
    rw [hm.1.1]
    refine V_if_ne (tgt := 21) d_Mo_mend_15 (by decide) (fun b15 => ?_) (fun b15 => ?_)
    · have h0 : ¬ dN S.1 = 0 := fun q => b15 (by rw [q]; rfl)
      rw [if_neg h0]
      refine V_aload_n d_Mo_mend_21 rfl ?_
      refine V_iconst (v := -1) d_Mo_mend_22 (by decide) ?_
      refine V_put (ty := .int) d_Mo_mend_23 f_Mo_220 rfl (by first | rfl | assumption) (by first | rfl | assumption) (by decide +kernel) (by first | rfl | assumption) (by first | rfl | assumption) ?_
      refine V_aload_n d_Mo_mend_26 rfl ?_
      refine V_iload_n d_Mo_mend_27 rfl ?_
      refine V_iconst (v := 0) d_Mo_mend_28 (by decide) ?_
      refine V_iconst (v := 0) d_Mo_mend_29 (by decide) ?_
      refine V_iconst (v := 0) d_Mo_mend_30 (by decide) ?_
      obtain ⟨H, hH⟩ : ∃ H, H = hup h 41 39 (-1) := ⟨_, rfl⟩
      rw [← hH]
      have frH : vFr h H := ⟨fun q h1 _ _ => by rw [hH, hup_ne h1], fun f _ _ _ _ h6 => by rw [hH, hup_same, upd_n h6]⟩
      have hbH : bsM H S.1 S.2.1 S.2.2.1 (fun _ => False) := Or.inl ⟨by rw [hH, hup_same, upd_s], fun x hx => absurd hx id⟩
      have edH : H 52 = h 52 := by rw [hH, hup_ne (by omega)]
      clear hH
      have hc := c_Mmove (E := E) ok.1 ok.2.1 ok.2.2.1 l hl2 (a := 0) (hm.1.of frH.keep) (hm.2.1.of frH.keep) (hm.2.2.1.of edH) (Nat.zero_le _) (fun _ _ => rfl) hbH
      rw [(mv_self S.1 S.2.2.1).1, (mv_self S.1 S.2.2.1).2] at hc
      refine V_callV d_Mo_mend_31 k_Mo_229 rfl (hc) (by first | rfl | assumption) rfl rfl (by first | decide | omega) rfl (Nat.le_of_ble_eq_true rfl) (fun v_ h_ q_ => ?_)
      obtain ⟨rfl, fr2, hd2, hb2⟩ := q_
      have fr := frH.tr fr2
      have hl' : MoLand h_ S.1 := hm.1.of fr.keep
      have hw' : MoLaw h_ S.2.1 := hm.2.1.of fr.keep
      have seen' : h_ 41 27 = (if S.2.2.2.isSome then 1 else 0) ∧ ∀ f, S.2.2.2 = some f → ∀ i, i < 6 → h_ 59 i = f i := ⟨by rw [fr.2 27 (by omega) (by omega) (by omega) (by omega) (by omega)]; exact hm.2.2.2.1, fun f hf i hi => by rw [fr.1 _ (by omega) (by omega) (by omega)]; exact hm.2.2.2.2 f hf i hi⟩
      show V E 9 m_Mo_mend _ 34 _ [] h_
      rcases hb2 with ⟨hno, hall⟩ | ⟨b, hB, e38, e39, ebest⟩
      · rw [mnd_none (fun x hx => hall x (Or.inr hx))]
        refine V_aload_n d_Mo_mend_34 rfl ?_
        refine V_getI d_Mo_mend_35 f_Mo_220 rfl (by first | rfl | assumption) (by first | rfl | assumption) ?_
        rw [hno]
        refine V_if_ge (tgt := 44) d_Mo_mend_38 (by decide) (fun b38 => ?_) (fun b38 => ?_)
        · exact absurd b38 (by decide)
        · refine V_bipush (v := -6) d_Mo_mend_41 (by decide) ?_
          refine V_iret d_Mo_mend_43 rfl ?_
          exact ⟨rfl, ⟨hl', hw', hd2, seen'⟩, fun q hq => fr.1 q (by omega) (by omega) (by omega)⟩
      · have hB' : isB S.1 S.2.1 S.2.2.1 (Rm S.1 S.2.1 l 0 S.2.2.1) b := ⟨hB.1.resolve_left id, hB.2.1, fun x hx => hB.2.2 x (Or.inr hx)⟩
        rw [mnd_some hB']
        have hCb := mvC_le ok.1 S.2.2.1 b
        refine V_aload_n d_Mo_mend_34 rfl ?_
        refine V_getI d_Mo_mend_35 f_Mo_220 rfl (by first | rfl | assumption) (by first | rfl | assumption) ?_
        rw [e39]
        refine V_if_ge (tgt := 44) d_Mo_mend_38 (by decide) (fun b38 => ?_) (fun b38 => ?_)
        · refine V_iconst (v := 0) d_Mo_mend_44 (by decide) ?_
          refine V_istore_n d_Mo_mend_45 (by decide) ?_
          dsimp only [List.set]
          have loop : ∀ i, i ≤ dN S.1 → ∀ f : Nat → Int32, (∀ j, j < 30 → f j = if j < i then nI (b j) else nI (S.2.2.1 j)) → V E 9 m_Mo_mend (fun v h' => v = some (.int (nI (mvP S.1 S.2.2.1 b))) ∧ MoW h' (S.1, S.2.1, b, S.2.2.2) ∧ ∀ q, q < 41 → h' q = h q) 46 [some (.ref 41), some (.int (nI l)), some (.int (nI i))] [] (hrow h_ 52 f) := by
            refine up_ind (dN S.1) ?_
            intro i hi ih f hf
            have k1 : mKeep h_ (hrow h_ 52 f) := mKeep.row (by omega)
            refine V_iload_n d_Mo_mend_46 rfl ?_
            refine V_aload_n d_Mo_mend_47 rfl ?_
            refine V_getI d_Mo_mend_48 f_Mo_91 rfl (by first | rfl | assumption) (by first | rfl | assumption) ?_
            rw [hrow_ne (by omega), hl'.1]
            refine V_icmp_ge (tgt := 72) d_Mo_mend_51 (by decide) (fun b51 => ?_) (fun b51 => ?_)
            · obtain rfl := ge_eq b51 rfl rfl (by omega) hi
              refine V_aload_n d_Mo_mend_72 rfl ?_
              refine V_getI d_Mo_mend_73 f_Mo_223 rfl (by first | rfl | assumption) (by first | rfl | assumption) ?_
              refine V_iret d_Mo_mend_76 rfl ?_
              refine ⟨by rw [hrow_ne (by omega), e38], ⟨hl'.of k1, hw'.of k1, fun j hj => ?_, ?_, fun g hg j hj => ?_⟩, fun q hq => ?_⟩
              · rw [hrow_same, hf j hj]
                by_cases c : j < dN S.1
                · rw [if_pos c]; exact ⟨(ebest j c).1, rfl⟩
                · rw [if_neg c, ← Rm_out l hB'.1 j (Or.inr (by omega))]
                  refine ⟨?_, rfl⟩
                  show b j < 6
                  rw [Rm_out l hB'.1 j (Or.inr (by omega))]
                  exact ok.d6 j
              · rw [hrow_ne (by omega)]; exact seen'.1
              · rw [hrow_ne (by omega)]; exact seen'.2 g hg j hj
              · rw [hrow_ne (by omega)]; exact fr.1 q (by omega) (by omega) (by omega)
            · have hin' := nge_lt b51 rfl rfl (by omega) hi
              have hin : vp_in (nI i) 30 := vp_in_nI (by omega) (by omega)
              refine V_aload_n d_Mo_mend_54 rfl ?_
              refine V_getR d_Mo_mend_55 f_Mo_51 rfl (by first | rfl | assumption) (by first | rfl | assumption) ?_
              refine V_iload_n d_Mo_mend_58 rfl ?_
              refine V_aload_n d_Mo_mend_59 rfl ?_
              refine V_getR d_Mo_mend_60 f_Mo_69 rfl (by first | rfl | assumption) (by first | rfl | assumption) ?_
              refine V_iload_n d_Mo_mend_63 rfl ?_
              refine V_iald d_Mo_mend_64 (by first | rfl | assumption) (by first | assumption | exact vp_in_nI (by omega) (by omega)) ?_
              refine V_iast d_Mo_mend_65 (by first | rfl | assumption) (by first | assumption | exact vp_in_nI (by omega) (by omega)) ?_
              refine V_iincw (w := 1) d_Mo_mend_66 rfl (by decide) (by decide) ?_
              dsimp only [List.set]
              refine V_goto (tgt := 46) d_Mo_mend_69 (by decide) ?_
              rw [nI_clamp (by omega), hup_hrow, hrow_ne (by omega), (ebest i hin').2, nI_1]
              refine ih hin' _ (fun j hj => ?_)
              by_cases c : j = i
              · rw [c, upd_s, if_pos (by omega)]
              · rw [upd_n c, hf j hj]
                by_cases c2 : j < i
                · rw [if_pos c2, if_pos (by omega)]
                · rw [if_neg c2, if_neg (by omega)]
          have h0' := loop 0 (Nat.zero_le _) (h_ 52) (fun j hj => by rw [if_neg (Nat.not_lt_zero j)]; exact (hd2 j hj).2)
          rw [hrow_self] at h0'
          exact h0'
        · exact absurd (nI_pos' (by omega)) b38
    · have h0 : dN S.1 = 0 := (eq_nI (dN S.1) 0 rfl rfl (by omega) (by decide)).mp b15
      rw [if_pos h0]
      refine V_bipush (v := -5) d_Mo_mend_18 (by decide) ?_
      refine V_iret d_Mo_mend_20 rfl ?_
      exact ⟨rfl, hm, fun _ _ => rfl⟩
  · have hin : ¬ inR n 0 2 := p2i.mp b6
    rw [opMend_no hin]
    refine V_iconst (v := -1) d_Mo_mend_9 (by decide) ?_
    refine V_iret d_Mo_mend_10 rfl ?_
    exact ⟨rfl, hm, fun _ _ => rfl⟩
