/-! better(): moves of single places -/
theorem V_mono {E : Wd} {d : Nat} {mt : Mt} {Q Q' : Option Value → Hp → Prop} {pc : Nat} {L : List (Option Value)} {st : List Value} {h : Hp} (hq : ∀ v h', Q v h' → Q' v h') (k : V E d mt Q pc L st h) : V E d mt Q' pc L st h := by
  intro p e s m args below meth c A C hA H locs hP hD hS ls hl T hT X
  obtain ⟨t, h1, o, a1, a2, ⟨⟨v, h', e1, q1, q2⟩, hF⟩, L2⟩ := k p e s m args below meth c A C hA H locs hP hD hS ls hl T hT X
  exact ⟨t, h1, o, a1, a2, ⟨⟨v, h', e1, hq v h' q1, q2⟩, hF⟩, L2⟩
noncomputable def goodMv (D : LD) (w : LW) (ds : Nat → Nat) (p d : Nat) : Bool := decide (d ≠ ds p) && (decide (val D w (setN ds p d) 0 < val D w ds 0) && decide (brk D w (setN ds p d) = 0))
noncomputable def bmv (D : LD) (w : LW) (ds : Nat → Nat) : Option (Nat × Nat) := match fstO (fun p => (fstO (goodMv D w ds p) (wK w)).isSome) (dN D) with
  | none => none
  | some p => (fstO (goodMv D w ds p) (wK w)).map (fun d => (p, d))
theorem bmv_none {D : LD} {w : LW} {ds : Nat → Nat} (h : ∀ p, p < dN D → fstO (goodMv D w ds p) (wK w) = none) : bmv D w ds = none := by
  unfold bmv
  rw [fstO_none (fun p hp => by rw [h p hp]; rfl)]
theorem bmv_some {D : LD} {w : LW} {ds : Nat → Nat} {p d : Nat} (hp : p < dN D) (hno : ∀ q, q < p → fstO (goodMv D w ds q) (wK w) = none) (hd : fstO (goodMv D w ds p) (wK w) = some d) : bmv D w ds = some (p, d) := by
  unfold bmv
  rw [fstO_some hp (by rw [hd]; rfl) (fun q hq => by rw [hno q hq]; rfl)]
  simp only []
  rw [hd]
  rfl
/-- the model's heap with another district row and other notes -/
abbrev HG (h : Hp) (f g : Nat → Int32) : Hp := hrow (hrow h 52 f) 41 g
theorem HG_keep {h : Hp} {f g : Nat → Int32} (hg : okg h g) : mKeep h (HG h f g) := by
  have k1 : mKeep h (hrow h 52 f) := mKeep.row (by omega)
  have k2 : mKeep (hrow h 52 f) (HG h f g) := okg.keep (fun q h1 h2 h3 => by rw [hrow_ne (by omega)]; exact hg q h1 h2 h3)
  exact k1.tr k2
theorem HG_d (h : Hp) (f g : Nat → Int32) : HG h f g 52 = f := by
  show hrow (hrow h 52 f) 41 g 52 = f
  rw [hrow_ne (by omega), hrow_same]
theorem HG_up (h : Hp) (f g : Nat → Int32) (i : Nat) (x : Int32) : hup (HG h f g) 52 i x = HG h (upd f i x) g := by
  rw [hup_row, HG_d, hrow_comm _ (by omega), hrow_twice]
theorem HG_row (h : Hp) (f g g' : Nat → Int32) : hrow (HG h f g) 41 g' = HG h f g' := hrow_twice _ _ _ _
theorem HG_okg {h : Hp} {f g g' : Nat → Int32} (hg : okg h g) (hg' : okg (HG h f g) g') : okg h g' := fun q h1 h2 h3 => by
  rw [hg' q h1 h2 h3]
  show hrow (hrow h 52 f) 41 g 41 q = h 41 q
  rw [hrow_same]
  exact hg q h1 h2 h3
theorem HG_self (h : Hp) : HG h (h 52) (h 41) = h := by
  show hrow (hrow h 52 (h 52)) 41 (h 41) = h
  rw [hrow_self, hrow_self]
def isDs (f : Nat → Int32) (ds : Nat → Nat) : Prop := ∀ j, j < 30 → ds j < 6 ∧ f j = nI (ds j)
theorem HG_ds {h : Hp} {f g : Nat → Int32} {ds : Nat → Nat} (hf : isDs f ds) : MoDs (HG h f g) ds := fun j hj => by rw [HG_d]; exact hf j hj
theorem isDs_set {f : Nat → Int32} {ds : Nat → Nat} (hf : isDs f ds) (p : Nat) {d : Nat} (hd : d < 6) : isDs (upd f p (nI d)) (setN ds p d) := by
  intro j hj
  unfold setN upd
  by_cases h1 : j = p
  · rw [if_pos h1, if_pos h1]; exact ⟨hd, rfl⟩
  · rw [if_neg h1, if_neg h1]; exact hf j hj
theorem setN_twice (ds : Nat → Nat) (p d e : Nat) : setN (setN ds p d) p e = setN ds p e := by
  funext j
  unfold setN
  by_cases h : j = p
  · rw [if_pos h, if_pos h]
  · rw [if_neg h, if_neg h, if_neg h]
theorem setN_self (ds : Nat → Nat) (p : Nat) : setN ds p (ds p) = ds := by
  funext j
  unfold setN
  by_cases h : j = p
  · rw [if_pos h, h]
  · rw [if_neg h]
theorem okDs.set {D : LD} {w : LW} {ds : Nat → Nat} (h : okDs D w ds) {p d : Nat} (hd : d < wK w) : okDs D w (setN ds p d) := by
  intro q hq
  unfold setN
  by_cases h1 : q = p
  · rw [if_pos h1]; exact hd
  · rw [if_neg h1]; exact h q hq
theorem c_betters {E : Wd} {h : Hp} {D : LD} {w : LW} (hl : MoLand h D) (ok : okLD D) (hw : MoLaw h w) (okw : okLW w) {ds : Nat → Nat} (hd : MoDs h ds) (okd : okDs D w ds) : Cq E 5 m_Mo_betters [.ref 41] h (fun v h' => ∃ f g, okg h g ∧ h' = HG h f g ∧ match bmv D w ds with
    | none => v = some (.int 0) ∧ isDs f ds
    | some pd => v = some (.int 1) ∧ isDs f (setN ds pd.1 pd.2)) := by
  have hn := ok.1
  have h6 := okw.2.1
  refine Cq_of2 ok_Mo_betters rfl (Nat.le_of_ble_eq_true rfl) (L := [some (.ref 41), none, none, none, none]) rfl ?_
  refine V_aload_n d_Mo_betters_0 rfl ?_
  refine V_iconst (v := 0) d_Mo_betters_1 (by decide) ?_
  refine V_callV1 d_Mo_betters_2 k_Mo_150 rfl (c_value (m := 0) hl ok hw okw hd okd (by omega)) (by first | rfl | assumption) rfl rfl (by first | decide | omega) rfl (Nat.le_of_ble_eq_true rfl) ?_
  refine V_istore_n d_Mo_betters_5 (by decide) ?_
  dsimp only [List.set]
  refine V_iconst (v := 0) d_Mo_betters_6 (by decide) ?_
  refine V_istore_n d_Mo_betters_7 (by decide) ?_
  dsimp only [List.set]
  have outer : ∀ i, i ≤ dN D → ∀ f g u3 u4, okg h g → isDs f ds → (∀ q, q < i → fstO (goodMv D w ds q) (wK w) = none) → V E 5 m_Mo_betters (fun v h' => ∃ f g, okg h g ∧ h' = HG h f g ∧ match bmv D w ds with
    | none => v = some (.int 0) ∧ isDs f ds
    | some pd => v = some (.int 1) ∧ isDs f (setN ds pd.1 pd.2)) 8 [some (.ref 41), some (.int (val D w ds 0)), some (.int (nI i)), u3, u4] [] (HG h f g) := by
    refine up_ind (dN D) ?_
    intro i hi ih f g u3 u4 hg hf hno
    have hl' : MoLand (HG h f g) D := hl.of (HG_keep hg)
    refine V_iload_n d_Mo_betters_8 rfl ?_
    refine V_aload_n d_Mo_betters_9 rfl ?_
    refine V_getI d_Mo_betters_10 f_Mo_91 rfl (by first | rfl | assumption) (by first | rfl | assumption) ?_
    rw [hl'.1]
    refine V_icmp_ge (tgt := 87) d_Mo_betters_13 (by decide) (fun b13 => ?_) (fun b13 => ?_)
    · obtain rfl := ge_eq b13 rfl rfl (by omega) hi
      refine V_iconst (v := 0) d_Mo_betters_87 (by decide) ?_
      refine V_zret d_Mo_betters_88 rfl (by first | rfl | decide | assumption) ?_
      refine ⟨f, g, hg, rfl, ?_⟩
      rw [bmv_none hno]
      exact ⟨rfl, hf⟩
    · have hin' := nge_lt b13 rfl rfl (by omega) hi
      have hin : vp_in (nI i) 30 := vp_in_nI (by omega) (by omega)
      have hfi := hf i (by omega)
      have ih := ih hin'
      refine V_aload_n d_Mo_betters_16 rfl ?_
      refine V_getR d_Mo_betters_17 f_Mo_51 rfl (by first | rfl | assumption) (by first | rfl | assumption) ?_
      refine V_iload_n d_Mo_betters_20 rfl ?_
      refine V_iald d_Mo_betters_21 (by first | rfl | assumption) (by first | assumption | exact vp_in_nI (by omega) (by omega)) ?_
      rw [HG_d, nI_clamp (by omega), hfi.2]
      refine V_istore_n d_Mo_betters_22 (by decide) ?_
      dsimp only [List.set]
      refine V_iconst (v := 0) d_Mo_betters_23 (by decide) ?_
      refine V_istore d_Mo_betters_24 (by decide) ?_
      dsimp only [List.set]
      have inner : ∀ e, e ≤ wK w → ∀ f g x, x < 6 → okg h g → isDs f (setN ds i x) → (∀ d, d < e → goodMv D w ds i d = false) → V E 5 m_Mo_betters (fun v h' => ∃ f g, okg h g ∧ h' = HG h f g ∧ match bmv D w ds with
          | none => v = some (.int 0) ∧ isDs f ds
          | some pd => v = some (.int 1) ∧ isDs f (setN ds pd.1 pd.2)) 26 [some (.ref 41), some (.int (val D w ds 0)), some (.int (nI i)), some (.int (nI (ds i))), some (.int (nI e))] [] (HG h f g) := by
        refine up_ind (wK w) ?_
        intro e he ihe f g x hx hg hf hnoe
        have hw' : MoLaw (HG h f g) w := hw.of (HG_keep hg)
        refine V_iload d_Mo_betters_26 rfl ?_
        refine V_aload_n d_Mo_betters_28 rfl ?_
        refine V_getI d_Mo_betters_29 f_Mo_34 rfl (by first | rfl | assumption) (by first | rfl | assumption) ?_
        rw [hw'.1]
        refine V_icmp_ge (tgt := 74) d_Mo_betters_32 (by decide) (fun b32 => ?_) (fun b32 => ?_)
        · obtain rfl := ge_eq b32 rfl rfl (by omega) he
          refine V_aload_n d_Mo_betters_74 rfl ?_
          refine V_getR d_Mo_betters_75 f_Mo_51 rfl (by first | rfl | assumption) (by first | rfl | assumption) ?_
          refine V_iload_n d_Mo_betters_78 rfl ?_
          refine V_iload_n d_Mo_betters_79 rfl ?_
          refine V_iast d_Mo_betters_80 (by first | rfl | assumption) (by first | assumption | exact vp_in_nI (by omega) (by omega)) ?_
          refine V_iincw (w := 1) d_Mo_betters_81 rfl (by decide) (by decide) ?_
          dsimp only [List.set]
          refine V_goto (tgt := 8) d_Mo_betters_84 (by decide) ?_
          rw [nI_clamp (by omega), HG_up, nI_1]
          refine ih _ _ _ _ hg ?_ (fun q hq => ?_)
          · have := isDs_set hf i hfi.1
            rw [setN_twice, setN_self] at this
            exact this
          · rcases Nat.lt_or_ge q i with c | c
            · exact hno q c
            · rw [show q = i by omega]
              exact fstO_none hnoe
        · have hek := nge_lt b32 rfl rfl (by omega) he
          have ihe := ihe hek
          have hf2 : isDs (upd f i (nI e)) (setN ds i e) := by
            have := isDs_set hf i (d := e) (by omega)
            rw [setN_twice] at this
            exact this
          have okd2 : okDs D w (setN ds i e) := okd.set hek
          have next : ∀ g, okg h g → goodMv D w ds i e = false → V E 5 m_Mo_betters (fun v h' => ∃ f g, okg h g ∧ h' = HG h f g ∧ match bmv D w ds with
              | none => v = some (.int 0) ∧ isDs f ds
              | some pd => v = some (.int 1) ∧ isDs f (setN ds pd.1 pd.2)) 68 [some (.ref 41), some (.int (val D w ds 0)), some (.int (nI i)), some (.int (nI (ds i))), some (.int (nI e))] [] (HG h (upd f i (nI e)) g) := by
            intro g hg hbad
            refine V_iincw (w := 1) d_Mo_betters_68 rfl (by decide) (by decide) ?_
            dsimp only [List.set]
            refine V_goto (tgt := 26) d_Mo_betters_71 (by decide) ?_
            rw [nI_1]
            refine ihe _ _ e (by omega) hg hf2 (fun d hd => ?_)
            rcases Nat.lt_or_ge d e with c | c
            · exact hnoe d c
            · rw [show d = e by omega]; exact hbad
          refine V_aload_n d_Mo_betters_35 rfl ?_
          refine V_getR d_Mo_betters_36 f_Mo_51 rfl (by first | rfl | assumption) (by first | rfl | assumption) ?_
          refine V_iload_n d_Mo_betters_39 rfl ?_
          refine V_iload d_Mo_betters_40 rfl ?_
          refine V_iast d_Mo_betters_42 (by first | rfl | assumption) (by first | assumption | exact vp_in_nI (by omega) (by omega)) ?_
          rw [nI_clamp (by omega), HG_up]
          have hl2 : MoLand (HG h (upd f i (nI e)) g) D := hl.of (HG_keep hg)
          have hw2 : MoLaw (HG h (upd f i (nI e)) g) w := hw.of (HG_keep hg)
          have hd2 : MoDs (HG h (upd f i (nI e)) g) (setN ds i e) := HG_ds hf2
          refine V_iload d_Mo_betters_43 rfl ?_
          refine V_iload_n d_Mo_betters_45 rfl ?_
          refine V_icmp_eq (tgt := 68) d_Mo_betters_46 (by decide) (fun b46 => ?_) (fun b46 => ?_)
          · have heq := (nI_eq (by omega) (by have := hfi.1; omega)).mp b46
            refine next g hg ?_
            unfold goodMv
            rw [show decide (e ≠ ds i) = false from decide_eq_false (fun z => z heq)]
            rfl
          · have hne : e ≠ ds i := fun z => b46 (by rw [z])
            refine V_aload_n d_Mo_betters_49 rfl ?_
            refine V_iconst (v := 0) d_Mo_betters_50 (by decide) ?_
            refine V_callV1 d_Mo_betters_51 k_Mo_150 rfl (c_value (m := 0) hl2 ok hw2 okw hd2 okd2 (by omega)) (by first | rfl | assumption) rfl rfl (by first | decide | omega) rfl (Nat.le_of_ble_eq_true rfl) ?_
            refine V_iload_n d_Mo_betters_54 rfl ?_
            refine V_icmp_ge (tgt := 68) d_Mo_betters_55 (by decide) (fun b55 => ?_) (fun b55 => ?_)
            · refine next g hg ?_
              unfold goodMv
              rw [show decide (val D w (setN ds i e) 0 < val D w ds 0) = false from decide_eq_false (fun z => (fa_of_lt z).2.1 b55)]
              simp
            · refine V_aload_n d_Mo_betters_58 rfl ?_
              refine V_iconst (v := 0) d_Mo_betters_59 (by decide) ?_
              refine V_callV d_Mo_betters_60 k_Mo_139 rfl (c_Mbroken hl2 ok hw2 okw hd2 false) (by first | rfl | assumption) rfl rfl (by first | decide | omega) rfl (Nat.le_of_ble_eq_true rfl) (fun v_ h_ q_ => ?_)
              obtain ⟨rfl, g', hg', rfl⟩ := q_
              rw [HG_row]
              have hg2 := HG_okg hg hg'
              show V E 5 m_Mo_betters _ 63 _ [.int (nI (brk D (wfr false w) (setN ds i e)))] _
              rw [wfr_f]
              have hb6 : brk D w (setN ds i e) ≤ 6 := by
                by_cases q : brk D w (setN ds i e) = 0
                · omega
                · exact (brk_some rfl q).1
              refine V_if_ne (tgt := 68) d_Mo_betters_63 (by decide) (fun b63 => ?_) (fun b63 => ?_)
              · refine next g' hg2 ?_
                unfold goodMv
                rw [show decide (brk D w (setN ds i e) = 0) = false from decide_eq_false (fun z => b63 (by rw [z]; rfl))]
                simp
              · have hb0 := (eq_nI _ 0 rfl rfl (by omega) (by decide)).mp b63
                refine V_iconst (v := 1) d_Mo_betters_66 (by decide) ?_
                refine V_zret d_Mo_betters_67 rfl (by first | rfl | decide | assumption) ?_
                refine ⟨_, g', hg2, rfl, ?_⟩
                have hgood : goodMv D w ds i e = true := by
                  unfold goodMv
                  rw [decide_eq_true hne, decide_eq_true (fa_of_nle b55), decide_eq_true hb0]
                  rfl
                rw [bmv_some hin' hno (fstO_some hek hgood hnoe)]
                exact ⟨rfl, hf2⟩
      refine inner 0 (Nat.zero_le _) f g (ds i) hfi.1 hg ?_ (fun d hd => absurd hd (Nat.not_lt_zero d))
      rw [setN_self]
      exact hf
  have h0 := outer 0 (Nat.zero_le _) (h 52) (h 41) none none (fun _ _ _ _ => rfl) hd (fun q hq => absurd hq (Nat.not_lt_zero q))
  rw [HG_self] at h0
  exact h0
/-- moves as long as there are some, at most n of them: how many, and the parting then -/
noncomputable def btr (D : LD) (w : LW) : Nat → (Nat → Nat) → Nat × (Nat → Nat)
  | 0, ds => (0, ds)
  | n + 1, ds => match bmv D w ds with
    | none => (0, ds)
    | some pd => ((btr D w n (setN ds pd.1 pd.2)).1 + 1, (btr D w n (setN ds pd.1 pd.2)).2)
theorem btr_none {D : LD} {w : LW} {ds : Nat → Nat} (h : bmv D w ds = none) (n : Nat) : btr D w n ds = (0, ds) := by
  cases n with
  | zero => rfl
  | succ n => unfold btr; rw [h]
theorem btr_some {D : LD} {w : LW} {ds : Nat → Nat} {pd : Nat × Nat} (h : bmv D w ds = some pd) (n : Nat) : btr D w (n + 1) ds = ((btr D w n (setN ds pd.1 pd.2)).1 + 1, (btr D w n (setN ds pd.1 pd.2)).2) := by
  conv => lhs; unfold btr
  rw [h]
/-- the edge, as a number -/
def lnN (D : LD) (b : Nat) : Nat := (dLn D b).toNatClampNeg
def edN (D : LD) (ds : Nat → Nat) : Nat := smN (lnN D) (fun b => decide (ds (dFr D b) ≠ ds (dTo D b))) (dB D)
theorem edN_val {D : LD} {w : LW} (ok : okLD D) {ds : Nat → Nat} (okd : okDs D w ds) : val D w ds 0 = nI (edN D ds) ∧ edN D ds ≤ 10000 := by
  have hln : ∀ b, b < dB D → dLn D b = nI (lnN D b) ∧ lnN D b ≤ 100 := fun b hb => upTo_eq (ok.2.2.2.1 b hb).2.2.2 (by omega)
  refine ⟨(val_0 ok okd).trans (smP_nI (fun b hb => (hln b hb).1)), ?_⟩
  have h1 := smN_le (g := lnN D) (P := fun b => decide (ds (dFr D b) ≠ ds (dTo D b))) (c := 100) (n := dB D) (fun b hb => (hln b hb).2)
  have h2 := ok.2.1
  unfold edN
  omega
theorem bmv_spec {D : LD} {w : LW} {ds : Nat → Nat} {pd : Nat × Nat} (h : bmv D w ds = some pd) : pd.1 < dN D ∧ pd.2 < wK w ∧ goodMv D w ds pd.1 pd.2 = true := by
  unfold bmv at h
  cases hq : fstO (fun p => (fstO (goodMv D w ds p) (wK w)).isSome) (dN D) with
  | none => rw [hq] at h; cases h
  | some p =>
    rw [hq] at h
    simp only [] at h
    cases hr : fstO (goodMv D w ds p) (wK w) with
    | none => rw [hr] at h; cases h
    | some d =>
      rw [hr] at h
      have e := Option.some.inj h
      rw [← e]
      exact ⟨(fstO_lt hq).1, (fstO_lt hr).1, (fstO_lt hr).2.1⟩
theorem bmv_less {D : LD} {w : LW} (ok : okLD D) {ds : Nat → Nat} (okd : okDs D w ds) {pd : Nat × Nat} (h : bmv D w ds = some pd) : okDs D w (setN ds pd.1 pd.2) ∧ edN D (setN ds pd.1 pd.2) < edN D ds ∧ brk D w (setN ds pd.1 pd.2) = 0 := by
  obtain ⟨h1, h2, h3⟩ := bmv_spec h
  have okd2 := okd.set (p := pd.1) h2
  unfold goodMv at h3
  simp only [Bool.and_eq_true, decide_eq_true_eq] at h3
  refine ⟨okd2, ?_, h3.2.2⟩
  have e1 := edN_val ok okd
  have e2 := edN_val ok okd2
  have := h3.2.1
  rw [e1.1, e2.1] at this
  exact (nI_ltI (by omega) (by omega)).mp this
noncomputable def opBetter (S : ST) : Int32 × ST := if dN S.1 = 0 then (-5, S) else if brk S.1 S.2.1 S.2.2.1 = 0 then (nI (btr S.1 S.2.1 10001 S.2.2.1).1, (S.1, S.2.1, (btr S.1 S.2.1 10001 S.2.2.1).2, S.2.2.2)) else (-3, S)
theorem MoW_HG {h : Hp} {S : ST} (hm : MoW h S) {f g : Nat → Int32} {ds : Nat → Nat} (hg : okg h g) (hf : isDs f ds) : MoW (HG h f g) (S.1, S.2.1, ds, S.2.2.2) := by
  refine ⟨hm.1.of (HG_keep hg), hm.2.1.of (HG_keep hg), HG_ds hf, ?_, fun x hx i hi => ?_⟩
  · show hrow (hrow h 52 f) 41 g 41 27 = _
    rw [hrow_same, hg 27 (by omega) (by omega) (by omega)]
    exact hm.2.2.2.1
  · show hrow (hrow h 52 f) 41 g 59 i = _
    rw [hrow_ne (by omega), hrow_ne (by omega)]
    exact hm.2.2.2.2 x hx i hi
theorem HG_HG (h : Hp) (f g f' g' : Nat → Int32) : HG (HG h f g) f' g' = HG h f' g' := by
  show hrow (hrow (hrow (hrow h 52 f) 41 g) 52 f') 41 g' = hrow (hrow h 52 f') 41 g'
  rw [hrow_comm (hrow h 52 f) (by omega : (41 : Nat) ≠ 52), hrow_twice, hrow_twice]
theorem c_Mbetter {E : Wd} {h : Hp} {S : ST} (hm : MoW h S) (ok : okST S) : MC E 6 m_Mo_better [] h (opBetter S) := by
  have hn := ok.1.1
  refine Cq_of2 ok_Mo_better rfl (Nat.le_of_ble_eq_true rfl) (L := [some (.ref 41), none]) rfl ?_
  refine V_aload_n d_Mo_better_0 rfl ?_
  refine V_getI d_Mo_better_1 f_Mo_91 rfl (by first | rfl | assumption) (by first | rfl | assumption) ?_
  rw [hm.1.1]
  refine V_if_ne (tgt := 10) d_Mo_better_4 (by decide) (fun b4 => ?_) (fun b4 => ?_)
  · have h0 : ¬ dN S.1 = 0 := fun q => b4 (by rw [q]; rfl)
    refine V_aload_n d_Mo_better_10 rfl ?_
    refine V_iconst (v := 0) d_Mo_better_11 (by decide) ?_
    refine V_callV d_Mo_better_12 k_Mo_139 rfl (c_Mbroken hm.1 ok.1 hm.2.1 ok.2.1 hm.2.2.1 false) (by first | rfl | assumption) rfl rfl (by first | decide | omega) rfl (Nat.le_of_ble_eq_true rfl) (fun v_ h_ q_ => ?_)
    obtain ⟨rfl, g, hg, rfl⟩ := q_
    show V E 6 m_Mo_better _ 15 _ [.int (nI (brk S.1 (wfr false S.2.1) S.2.2.1))] _
    rw [wfr_f]
    have hb6 : brk S.1 S.2.1 S.2.2.1 ≤ 6 := by
      by_cases q : brk S.1 S.2.1 S.2.2.1 = 0
      · omega
      · exact (brk_some rfl q).1
    refine V_if_eq (tgt := 21) d_Mo_better_15 (by decide) (fun b15 => ?_) (fun b15 => ?_)
    · have hb0 : brk S.1 S.2.1 S.2.2.1 = 0 := (eq_nI _ 0 rfl rfl (by omega) (by decide)).mp b15
      refine V_iconst (v := 0) d_Mo_better_21 (by decide) ?_
      refine V_istore_n d_Mo_better_22 (by decide) ?_
      dsimp only [List.set]
      have loop : ∀ m c (ds : Nat → Nat) f g, edN S.1 ds < m → c + m ≤ 20003 → okDs S.1 S.2.1 ds → okg h g → isDs f ds → V E 6 m_Mo_better (fun r h' => ∃ f g ds', r = some (.int (nI (c + (btr S.1 S.2.1 m ds).1))) ∧ okg h g ∧ h' = HG h f g ∧ ds' = (btr S.1 S.2.1 m ds).2 ∧ isDs f ds') 23 [some (.ref 41), some (.int (nI c))] [] (HG h f g) := by
        intro m
        induction m with
        | zero => intro c ds f g hlt; exact absurd hlt (Nat.not_lt_zero _)
        | succ m ih =>
          intro c ds f g hlt hcm okd hg hf
          have hl' : MoLand (HG h f g) S.1 := hm.1.of (HG_keep hg)
          have hw' : MoLaw (HG h f g) S.2.1 := hm.2.1.of (HG_keep hg)
          refine V_aload_n d_Mo_better_23 rfl ?_
          refine V_callV d_Mo_better_24 k_Mo_217 rfl (c_betters hl' ok.1 hw' ok.2.1 (HG_ds hf) okd) (by first | rfl | assumption) rfl rfl (by first | decide | omega) rfl (Nat.le_of_ble_eq_true rfl) (fun v_ h_ q_ => ?_)
          obtain ⟨f', g', hg', rfl, hq⟩ := q_
          rw [HG_HG]
          have hg2 := HG_okg hg hg'
          cases hb : bmv S.1 S.2.1 ds with
          | none =>
            rw [hb] at hq
            obtain ⟨rfl, hf'⟩ := hq
            show V E 6 m_Mo_better _ 27 _ [.int 0] _
            refine V_if_eq (tgt := 36) d_Mo_better_27 (by decide) (fun b27 => ?_) (fun b27 => ?_)
            · refine V_iload_n d_Mo_better_36 rfl ?_
              refine V_iret d_Mo_better_37 rfl ?_
              exact ⟨f', g', ds, by rw [btr_none hb]; rfl, hg2, rfl, by rw [btr_none hb], hf'⟩
            · exact absurd rfl b27
          | some pd =>
            rw [hb] at hq
            obtain ⟨rfl, hf'⟩ := hq
            obtain ⟨okd2, hless, -⟩ := bmv_less ok.1 okd hb
            show V E 6 m_Mo_better _ 27 _ [.int 1] _
            refine V_if_eq (tgt := 36) d_Mo_better_27 (by decide) (fun b27 => ?_) (fun b27 => ?_)
            · exact absurd b27 (by decide)
            · refine V_iincw (w := 1) d_Mo_better_30 rfl (by decide) (by decide) ?_
              dsimp only [List.set]
              refine V_goto (tgt := 23) d_Mo_better_33 (by decide) ?_
              rw [nI_1]
              have := ih (c + 1) (setN ds pd.1 pd.2) f' g' (by omega) (by omega) okd2 hg2 hf'
              rw [btr_some hb, show c + ((btr S.1 S.2.1 m (setN ds pd.1 pd.2)).1 + 1) = c + 1 + (btr S.1 S.2.1 m (setN ds pd.1 pd.2)).1 by omega]
              exact this
      have e1 := edN_val ok.1 ok.2.2.1
      have h1 := loop 10001 0 S.2.2.1 (h 52) g (by omega) (by omega) ok.2.2.1 hg hm.2.2.1
      rw [show HG h (h 52) g = hrow h 41 g from by show hrow (hrow h 52 (h 52)) 41 g = _; rw [hrow_self]] at h1
      have opE : opBetter S = (nI (btr S.1 S.2.1 10001 S.2.2.1).1, (S.1, S.2.1, (btr S.1 S.2.1 10001 S.2.2.1).2, S.2.2.2)) := by
        unfold opBetter
        rw [if_neg h0, if_pos hb0]
      rw [opE]
      refine V_mono ?_ h1
      rintro v h' ⟨f, g, ds', rfl, hg, rfl, rfl, hf⟩
      refine ⟨by rw [Nat.zero_add], MoW_HG hm hg hf, fun q hq => ?_⟩
      show hrow (hrow h 52 f) 41 g q = h q
      rw [hrow_ne (by omega), hrow_ne (by omega)]
    · have hbn : ¬ brk S.1 S.2.1 S.2.2.1 = 0 := fun q => b15 (by rw [q]; rfl)
      refine V_bipush (v := -3) d_Mo_better_18 (by decide) ?_
      refine V_iret d_Mo_better_20 rfl ?_
      refine ⟨?_, ?_, fun q hq => hrow_ne (by omega)⟩
      · unfold opBetter
        rw [if_neg h0, if_neg hbn]
      · unfold opBetter
        rw [if_neg h0, if_neg hbn]
        exact MoW_g hm hg
  · have h0 : dN S.1 = 0 := (eq_nI (dN S.1) 0 rfl rfl (by omega) (by decide)).mp b4
    refine V_bipush (v := -5) d_Mo_better_7 (by decide) ?_
    refine V_iret d_Mo_better_9 rfl ?_
    refine ⟨?_, ?_, fun _ _ => rfl⟩
    · unfold opBetter
      rw [if_pos h0]
    · unfold opBetter
      rw [if_pos h0]
      exact hm
