/-! move(): all partings within so many moves; mend() -/
theorem cnt_smN (P : Nat → Bool) : ∀ n, fa_cnt P n = smN (fun _ => 1) P n
  | 0 => rfl
  | n + 1 => by rw [fa_cnt, smN, cnt_smN P n]
theorem smN_one {f : Nat → Nat} {P P' : Nat → Bool} {p : Nat} (h0 : P p = false) (h1 : P' p = true) (he : ∀ q, q ≠ p → P' q = P q) : ∀ n, p < n → smN f P' n = smN f P n + f p
  | 0, h => absurd h (Nat.not_lt_zero p)
  | n + 1, h => by
    rw [smN, smN]
    by_cases q : n = p
    · subst q
      rw [h0, h1, smN_cong (P := P') (P' := P) (fun i hi => he i (by omega))]
      simp
    · rw [smN_one h0 h1 he n (by omega), he n q]
      omega
theorem mvP_set {D : LD} {ds x : Nat → Nat} {p d : Nat} (hp : p < dN D) (h0 : x p = ds p) (h1 : d ≠ ds p) : mvP D ds (setN x p d) = mvP D ds x + peN D p := by
  unfold mvP
  refine smN_one (p := p) ?_ ?_ ?_ _ hp
  · simp [h0]
  · simp [setN, h1]
  · intro q hq
    simp only [setN, if_neg hq]
theorem mvC_set {D : LD} {ds x : Nat → Nat} {p d : Nat} (hp : p < dN D) (h0 : x p = ds p) (h1 : d ≠ ds p) : mvC D ds (setN x p d) = mvC D ds x + 1 := by
  unfold mvC
  rw [cnt_smN, cnt_smN]
  refine smN_one (f := fun _ => 1) (p := p) ?_ ?_ ?_ _ hp
  · simp [h0]
  · simp [setN, h1]
  · intro q hq
    simp only [setN, if_neg hq]
/-- what move(l, a, ..) comes to from x -/
def Rm (D : LD) (w : LW) : Nat → Nat → (Nat → Nat) → (Nat → Nat) → Prop
  | 0, _, x => fun y => y = x
  | l + 1, a, x => fun y => y = x ∨ ∃ p d, a ≤ p ∧ p < dN D ∧ d < wK w ∧ d ≠ x p ∧ Rm D w l (p + 1) (setN x p d) y
/-- the moves up to place p, at p up to district e -/
def Rn (D : LD) (w : LW) (l a p e : Nat) (x y : Nat → Nat) : Prop := ∃ p' d, a ≤ p' ∧ p' < dN D ∧ d < wK w ∧ d ≠ x p' ∧ (p' < p ∨ p' = p ∧ d < e) ∧ Rm D w l (p' + 1) (setN x p' d) y
/-- what move may change -/
def vFr (h h' : Hp) : Prop := (∀ q, q ≠ 41 → q ≠ 58 → q ≠ 52 → h' q = h q) ∧ ∀ f, f ≠ 16 → f ≠ 17 → f ≠ 18 → f ≠ 38 → f ≠ 39 → h' 41 f = h 41 f
theorem vFr.rf (h : Hp) : vFr h h := ⟨fun _ _ _ _ => rfl, fun _ _ _ _ _ _ => rfl⟩
theorem vFr.tr {h h' h2 : Hp} (a : vFr h h') (b : vFr h' h2) : vFr h h2 := ⟨fun q h1 h3 h4 => (b.1 q h1 h3 h4).trans (a.1 q h1 h3 h4), fun f h1 h3 h4 h5 h6 => (b.2 f h1 h3 h4 h5 h6).trans (a.2 f h1 h3 h4 h5 h6)⟩
theorem vFr.keep {h h' : Hp} (a : vFr h h') : mKeep h h' := ⟨fun q h1 h2 => a.1 q (by omega) (by omega) (by omega), a.2 4 (by omega) (by omega) (by omega) (by omega) (by omega), a.2 8 (by omega) (by omega) (by omega) (by omega) (by omega), a.2 10 (by omega) (by omega) (by omega) (by omega) (by omega), a.2 11 (by omega) (by omega) (by omega) (by omega) (by omega), a.2 13 (by omega) (by omega) (by omega) (by omega) (by omega)⟩
theorem mFr.v {h h' : Hp} (a : mFr h h') : vFr h h' := ⟨fun q h1 h2 _ => a.1 q h1 h2, a.2⟩
theorem vFr.d (h : Hp) (i : Nat) (x : Int32) : vFr h (hup h 52 i x) := ⟨fun q _ _ h3 => hup_ne h3, fun f _ _ _ _ _ => by rw [hup_ne (by omega)]⟩
theorem MoDs_set {h : Hp} {ds : Nat → Nat} (hd : MoDs h ds) (p : Nat) {d : Nat} (hd6 : d < 6) : MoDs (hup h 52 p (nI d)) (setN ds p d) := by
  intro j hj
  rw [hup_same]
  exact isDs_set hd p hd6 j hj
theorem bsM_d {h : Hp} {D : LD} {w : LW} {ds : Nat → Nat} {X : (Nat → Nat) → Prop} (hb : bsM h D w ds X) (i : Nat) (x : Int32) : bsM (hup h 52 i x) D w ds X := hb.cong (by rw [hup_ne (by omega)]) (by rw [hup_ne (by omega)]) (by rw [hup_ne (by omega)]) (fun _ => Iff.rfl)
theorem c_Mmove {E : Wd} {D : LD} {w : LW} (ok : okLD D) (okw : okLW w) {ds : Nat → Nat} (okd : okDs D w ds) : ∀ l, l ≤ 2 → ∀ {h : Hp} {a : Nat} {x : Nat → Nat} {X : (Nat → Nat) → Prop}, MoLand h D → MoLaw h w → MoDs h x → a ≤ dN D → (∀ q, a ≤ q → x q = ds q) → bsM h D w ds X → Cq E (6 + l) m_Mo_move [.ref 41, .int (nI l), .int (nI a), .int (nI (mvP D ds x)), .int (nI (mvC D ds x))] h (fun v h' => v = none ∧ vFr h h' ∧ MoDs h' x ∧ bsM h' D w ds (fun y => X y ∨ Rm D w l a x y)) := by
  intro l
  have hn := ok.1
  have h6 := okw.2.1
  induction l with
  | zero =>
    intro _ h a x X hl hw hd ha hx hb
    refine Cq_of2 ok_Mo_move rfl (Nat.le_of_ble_eq_true rfl) (L := [some (.ref 41), some (.int (nI 0)), some (.int (nI a)), some (.int (nI (mvP D ds x))), some (.int (nI (mvC D ds x))), none, none, none]) rfl ?_
    refine V_aload_n d_Mo_move_0 rfl ?_
    refine V_iload_n d_Mo_move_1 rfl ?_
    refine V_iload d_Mo_move_2 rfl ?_
    refine V_callV d_Mo_move_4 k_Mo_226 rfl (c_offer hl ok hw okw hd hb) (by first | rfl | assumption) rfl rfl (by first | decide | omega) rfl (Nat.le_of_ble_eq_true rfl) (fun v_ h_ q_ => ?_)
    obtain ⟨rfl, fr, hb'⟩ := q_
    have hl' : MoLand h_ D := hl.of fr.keep
    have fin : ∀ u5 u6 u7, V E (6 + 0) m_Mo_move (fun v h' => v = none ∧ vFr h h' ∧ MoDs h' x ∧ bsM h' D w ds (fun y => X y ∨ Rm D w 0 a x y)) 105 [some (.ref 41), some (.int (nI 0)), some (.int (nI a)), some (.int (nI (mvP D ds x))), some (.int (nI (mvC D ds x))), u5, u6, u7] [] h_ := by
      intro u5 u6 u7
      refine V_vret d_Mo_move_105 rfl ?_
      exact ⟨rfl, fr.v, hd.of (fr.1 _ (by omega) (by omega)), hb'⟩
    refine V_iload_n d_Mo_move_7 rfl ?_
    refine V_istore d_Mo_move_8 (by decide) ?_
    dsimp only [List.set]
    show V E (6 + 0) m_Mo_move _ 10 _ [] h_
    refine V_iload d_Mo_move_10 rfl ?_
    refine V_aload_n d_Mo_move_12 rfl ?_
    refine V_getI d_Mo_move_13 f_Mo_91 rfl (by first | rfl | assumption) (by first | rfl | assumption) ?_
    rw [hl'.1]
    refine V_icmp_ge (tgt := 105) d_Mo_move_16 (by decide) (fun b16 => ?_) (fun b16 => ?_)
    · exact fin _ _ _
    · refine V_iload_n d_Mo_move_19 rfl ?_
      refine V_if_le (tgt := 105) d_Mo_move_20 (by decide) (fun b20 => ?_) (fun b20 => ?_)
      · exact fin _ _ _
      · exact absurd (by decide) b20
  | succ l ih =>
    intro hl2 h a x X hl hw hd ha hx hb
    refine Cq_of2 ok_Mo_move rfl (Nat.le_of_ble_eq_true rfl) (L := [some (.ref 41), some (.int (nI (l + 1))), some (.int (nI a)), some (.int (nI (mvP D ds x))), some (.int (nI (mvC D ds x))), none, none, none]) rfl ?_
    refine V_aload_n d_Mo_move_0 rfl ?_
    refine V_iload_n d_Mo_move_1 rfl ?_
    refine V_iload d_Mo_move_2 rfl ?_
    refine V_callV d_Mo_move_4 k_Mo_226 rfl (c_offer hl ok hw okw hd hb) (by first | rfl | assumption) rfl rfl (by first | decide | omega) rfl (Nat.le_of_ble_eq_true rfl) (fun v_ h_ q_ => ?_)
    obtain ⟨rfl, fr, hb'⟩ := q_
    refine V_iload_n d_Mo_move_7 rfl ?_
    refine V_istore d_Mo_move_8 (by decide) ?_
    dsimp only [List.set]
    have outer : ∀ i, i ≤ dN D → a ≤ i → ∀ (H : Hp) u6 u7, vFr h H → MoDs H x → bsM H D w ds (fun y => X y ∨ y = x ∨ Rn D w l a i 0 x y) → V E (6 + (l + 1)) m_Mo_move (fun v h' => v = none ∧ vFr h h' ∧ MoDs h' x ∧ bsM h' D w ds (fun y => X y ∨ Rm D w (l + 1) a x y)) 10 [some (.ref 41), some (.int (nI (l + 1))), some (.int (nI a)), some (.int (nI (mvP D ds x))), some (.int (nI (mvC D ds x))), some (.int (nI i)), u6, u7] [] H := by
      refine up_ind (dN D) ?_
      intro i hi ihi hai H u6 u7 frH hdH hbH
      have hlH : MoLand H D := hl.of frH.keep
      have hwH : MoLaw H w := hw.of frH.keep
      refine V_iload d_Mo_move_10 rfl ?_
      refine V_aload_n d_Mo_move_12 rfl ?_
      refine V_getI d_Mo_move_13 f_Mo_91 rfl (by first | rfl | assumption) (by first | rfl | assumption) ?_
      rw [hlH.1]
      refine V_icmp_ge (tgt := 105) d_Mo_move_16 (by decide) (fun b16 => ?_) (fun b16 => ?_)
      · obtain rfl := ge_eq b16 rfl rfl (by omega) hi
        refine V_vret d_Mo_move_105 rfl ?_
        refine ⟨rfl, frH, hdH, hbH.cong rfl rfl rfl (fun y => ?_)⟩
        constructor
        · rintro (z | z | ⟨p, d, z1, z2, z3, z4, -, z5⟩)
          · exact Or.inl z
          · exact Or.inr (Or.inl z)
          · exact Or.inr (Or.inr ⟨p, d, z1, z2, z3, z4, z5⟩)
        · rintro (z | z | ⟨p, d, z1, z2, z3, z4, z5⟩)
          · exact Or.inl z
          · exact Or.inr (Or.inl z)
          · exact Or.inr (Or.inr ⟨p, d, z1, z2, z3, z4, Or.inl z2, z5⟩)
      · have hin' := nge_lt b16 rfl rfl (by omega) hi
        have hin : vp_in (nI i) 30 := vp_in_nI (by omega) (by omega)
        have hxi := hdH i (by omega)
        have hxd := hx i hai
        have ihi := ihi hin' (by omega)
        have hpe := pe_nI ok hin'
        have hPx := mvP_le ok ds x
        have hCx := mvC_le ok ds x
        refine V_iload_n d_Mo_move_19 rfl ?_
        refine V_if_le (tgt := 105) d_Mo_move_20 (by decide) (fun b20 => ?_) (fun b20 => ?_)
        · exact absurd b20 (by rw [show ((0 : Int32)) = nI 0 from rfl, nI_leI (by omega) (by omega)]; omega)
        · refine V_aload_n d_Mo_move_23 rfl ?_
          refine V_getR d_Mo_move_24 f_Mo_51 rfl (by first | rfl | assumption) (by first | rfl | assumption) ?_
          refine V_iload d_Mo_move_27 rfl ?_
          refine V_iald d_Mo_move_29 (by first | rfl | assumption) (by first | assumption | exact vp_in_nI (by omega) (by omega)) ?_
          rw [nI_clamp (by omega), hxi.2]
          refine V_istore d_Mo_move_30 (by decide) ?_
          dsimp only [List.set]
          refine V_iconst (v := 0) d_Mo_move_32 (by decide) ?_
          refine V_istore d_Mo_move_33 (by decide) ?_
          dsimp only [List.set]
          have inner : ∀ e, e ≤ wK w → ∀ (H : Hp) c, c < 6 → vFr h H → MoDs H (setN x i c) → bsM H D w ds (fun y => X y ∨ y = x ∨ Rn D w l a i e x y) → V E (6 + (l + 1)) m_Mo_move (fun v h' => v = none ∧ vFr h h' ∧ MoDs h' x ∧ bsM h' D w ds (fun y => X y ∨ Rm D w (l + 1) a x y)) 35 [some (.ref 41), some (.int (nI (l + 1))), some (.int (nI a)), some (.int (nI (mvP D ds x))), some (.int (nI (mvC D ds x))), some (.int (nI i)), some (.int (nI (x i))), some (.int (nI e))] [] H := by
            refine up_ind (wK w) ?_
            intro e he ihe H c hc frH hdH hbH
            have hlH : MoLand H D := hl.of frH.keep
            have hwH : MoLaw H w := hw.of frH.keep
            refine V_iload d_Mo_move_35 rfl ?_
            refine V_aload_n d_Mo_move_37 rfl ?_
            refine V_getI d_Mo_move_38 f_Mo_34 rfl (by first | rfl | assumption) (by first | rfl | assumption) ?_
            rw [hwH.1]
            refine V_icmp_ge (tgt := 90) d_Mo_move_41 (by decide) (fun b41 => ?_) (fun b41 => ?_)
            · obtain rfl := ge_eq b41 rfl rfl (by omega) he
              refine V_aload_n d_Mo_move_90 rfl ?_
              refine V_getR d_Mo_move_91 f_Mo_51 rfl (by first | rfl | assumption) (by first | rfl | assumption) ?_
              refine V_iload d_Mo_move_94 rfl ?_
              refine V_iload d_Mo_move_96 rfl ?_
              refine V_iast d_Mo_move_98 (by first | rfl | assumption) (by first | assumption | exact vp_in_nI (by omega) (by omega)) ?_
              refine V_iincw (w := 1) d_Mo_move_99 rfl (by decide) (by decide) ?_
              dsimp only [List.set]
              refine V_goto (tgt := 10) d_Mo_move_102 (by decide) ?_
              rw [nI_clamp (by omega), nI_1]
              have hd2 := MoDs_set hdH i hxi.1
              rw [setN_twice, setN_self] at hd2
              refine ihi _ _ _ (frH.tr (vFr.d _ _ _)) hd2 ((bsM_d hbH _ _).cong rfl rfl rfl (fun y => ?_))
              constructor
              · rintro (z | z | ⟨p, d, z1, z2, z3, z4, z6, z5⟩)
                · exact Or.inl z
                · exact Or.inr (Or.inl z)
                · exact Or.inr (Or.inr ⟨p, d, z1, z2, z3, z4, Or.inl (by omega), z5⟩)
              · rintro (z | z | ⟨p, d, z1, z2, z3, z4, z6, z5⟩)
                · exact Or.inl z
                · exact Or.inr (Or.inl z)
                · exact Or.inr (Or.inr ⟨p, d, z1, z2, z3, z4, by omega, z5⟩)
            · have hek := nge_lt b41 rfl rfl (by omega) he
              have ihe := ihe hek
              refine V_iload d_Mo_move_44 rfl ?_
              refine V_iload d_Mo_move_46 rfl ?_
              refine V_icmp_eq (tgt := 84) d_Mo_move_48 (by decide) (fun b48 => ?_) (fun b48 => ?_)
              · have heq := (nI_eq (by omega) (by have := hxi.1; omega)).mp b48
                refine V_iincw (w := 1) d_Mo_move_84 rfl (by decide) (by decide) ?_
                dsimp only [List.set]
                refine V_goto (tgt := 35) d_Mo_move_87 (by decide) ?_
                rw [nI_1]
                refine ihe _ c hc frH hdH (hbH.cong rfl rfl rfl (fun y => ?_))
                constructor
                · rintro (z | z | ⟨p, d, z1, z2, z3, z4, z6, z5⟩)
                  · exact Or.inl z
                  · exact Or.inr (Or.inl z)
                  · exact Or.inr (Or.inr ⟨p, d, z1, z2, z3, z4, by omega, z5⟩)
                · rintro (z | z | ⟨p, d, z1, z2, z3, z4, z6, z5⟩)
                  · exact Or.inl z
                  · exact Or.inr (Or.inl z)
                  · refine Or.inr (Or.inr ⟨p, d, z1, z2, z3, z4, ?_, z5⟩)
                    rcases z6 with z6 | ⟨rfl, z6⟩
                    · exact Or.inl z6
                    · exact Or.inr ⟨rfl, by omega⟩
              · have hne : e ≠ x i := fun z => b48 (by rw [z])
                have hd2 := MoDs_set hdH i (d := e) (by omega)
                rw [setN_twice] at hd2
                have fr2 := frH.tr (vFr.d H i (nI e))
                have hl2' : MoLand (hup H 52 i (nI e)) D := hl.of fr2.keep
                have hw2 : MoLaw (hup H 52 i (nI e)) w := hw.of fr2.keep
                have hb2 := bsM_d hbH i (nI e)
                refine V_aload_n d_Mo_move_51 rfl ?_
                refine V_getR d_Mo_move_52 f_Mo_51 rfl (by first | rfl | assumption) (by first | rfl | assumption) ?_
                refine V_iload d_Mo_move_55 rfl ?_
                refine V_iload d_Mo_move_57 rfl ?_
                refine V_iast d_Mo_move_59 (by first | rfl | assumption) (by first | assumption | exact vp_in_nI (by omega) (by omega)) ?_
                refine V_aload_n d_Mo_move_60 rfl ?_
                refine V_iload_n d_Mo_move_61 rfl ?_
                refine V_iconst (v := 1) d_Mo_move_62 (by decide) ?_
                refine V_isub d_Mo_move_63 ?_
                refine V_iload d_Mo_move_64 rfl ?_
                refine V_iconst (v := 1) d_Mo_move_66 (by decide) ?_
                refine V_iadd d_Mo_move_67 ?_
                refine V_iload_n d_Mo_move_68 rfl ?_
                refine V_aload_n d_Mo_move_69 rfl ?_
                refine V_getR d_Mo_move_70 f_Mo_9 rfl (by first | rfl | assumption) (by first | rfl | assumption) ?_
                refine V_iload d_Mo_move_73 rfl ?_
                refine V_iald d_Mo_move_75 (by first | rfl | assumption) (by first | assumption | exact vp_in_nI (by omega) (by omega)) ?_
                rw [nI_clamp (by omega), (hl2'.2.2.1 i hin').1, hpe.1]
                refine V_iadd d_Mo_move_76 ?_
                refine V_iload d_Mo_move_77 rfl ?_
                refine V_iconst (v := 1) d_Mo_move_79 (by decide) ?_
                refine V_iadd d_Mo_move_80 ?_
                rw [nI_1, nI_1, show nI (l + 1) - 1 = nI l from by rw [← nI_1]; simp, nI_add, ← mvP_set hin' hxd (hxd ▸ hne), ← mvC_set hin' hxd (hxd ▸ hne)]
                refine V_callV d_Mo_move_81 k_Mo_229 rfl (ih (by omega) hl2' hw2 hd2 (by omega : i + 1 ≤ dN D) (fun q hq => by rw [show setN x i e q = x q from if_neg (by omega)]; exact hx q (by omega)) hb2) (by first | rfl | assumption) rfl rfl (by first | decide | omega) rfl (Nat.le_of_ble_eq_true rfl) (fun v_ h_ q_ => ?_)
                obtain ⟨rfl, fr3, hd3, hb3⟩ := q_
                refine V_iincw (w := 1) d_Mo_move_84 rfl (by decide) (by decide) ?_
                dsimp only [List.set]
                refine V_goto (tgt := 35) d_Mo_move_87 (by decide) ?_
                rw [nI_1]
                refine ihe _ e (by omega) (fr2.tr fr3) hd3 (hb3.cong rfl rfl rfl (fun y => ?_))
                constructor
                · rintro ((z | z | ⟨p, d, z1, z2, z3, z4, z6, z5⟩) | z)
                  · exact Or.inl z
                  · exact Or.inr (Or.inl z)
                  · exact Or.inr (Or.inr ⟨p, d, z1, z2, z3, z4, by omega, z5⟩)
                  · exact Or.inr (Or.inr ⟨i, e, hai, hin', hek, hne, Or.inr ⟨rfl, by omega⟩, z⟩)
                · rintro (z | z | ⟨p, d, z1, z2, z3, z4, z6, z5⟩)
                  · exact Or.inl (Or.inl z)
                  · exact Or.inl (Or.inr (Or.inl z))
                  · by_cases q : p = i ∧ d = e
                    · obtain ⟨rfl, rfl⟩ := q
                      exact Or.inr z5
                    · exact Or.inl (Or.inr (Or.inr ⟨p, d, z1, z2, z3, z4, by omega, z5⟩))
          refine inner 0 (Nat.zero_le _) H (x i) hxi.1 frH (by rw [setN_self]; exact hdH) hbH
    refine outer a ha (Nat.le_refl _) h_ none none fr.v (hd.of (fr.1 _ (by omega) (by omega))) (hb'.cong rfl rfl rfl (fun y => ?_))
    constructor
    · rintro (z | z)
      · exact Or.inl z
      · exact Or.inr (Or.inl z)
    · rintro (z | z | ⟨p, d, z1, z2, z3, z4, z6, z5⟩)
      · exact Or.inl z
      · exact Or.inr z
      · omega
