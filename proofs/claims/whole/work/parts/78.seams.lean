/-! the class's seams, as the model has them -/
theorem Cn_in {D : LD} {M : Nat → Bool} {X : Nat → Prop} (hX : ∀ b, b < dB D → X b → insP D M b) {p q : Nat} (h : Cn D X p q) (hp : M p = true) : M q = true := by
  refine h (fun r => M r = true) hp (fun b hb hx => ?_)
  have := hX b hb hx
  unfold insP isIn at this
  simp only [Bool.and_eq_true] at this
  exact ⟨fun _ => this.2, fun _ => this.1⟩
theorem trP_in {D : LD} {M : Nat → Bool} {s : Int32} {b : Nat} (h : trP D M s b) : M (dFr D b) = true ∧ M (dTo D b) = true := by
  have := h.1
  unfold insP isIn at this
  simpa using this
theorem trP_cut {D : LD} (ok : okLD D) {M : Nat → Bool} {s : Int32} {b : Nat} (hb : b < dB D) (h : trP D M s b) : ¬ Cn D (fun c => trP D M s c ∧ c ≠ b) (dFr D b) (dTo D b) := tre_parts (ky_inj ok) (N := 6553600) (fun c hc => ky_lt ok c hc) hb h
/-- the part of the tree with a border's first place -/
noncomputable def fsB (D : LD) (M : Nat → Bool) (s : Int32) (t : Nat) : Nat → Bool := cnB D (fun c => trP D M s c ∧ c ≠ t) (dFr D t)
theorem part_eq {h : Hp} {D : LD} (ok : okLD D) {M : Nat → Bool} {s : Int32} (hg : gT h D M s (insP D M)) {t : Nat} (ht : t < dB D) (htr : trP D M s t) {j : Nat} (hj : j < 30) : cloB (fun i j => cs (h 27 i) j) (fun j => M j && !decide (j = dTo D t)) (fun j => decide (j = dFr D t)) j = fsB D M s t j := by
  have hN := ok.1
  have hbt := ok.2.2.2.1 t ht
  have hcut := trP_cut ok ht htr
  have hin := trP_in htr
  obtain ⟨Y, hY⟩ : ∃ Y : Nat → Prop, Y = fun c => trP D M s c ∧ c ≠ t := ⟨_, rfl⟩
  rw [← hY] at hcut
  have fwd : ∀ r, cloB (fun i j => cs (h 27 i) j) (fun j => M j && !decide (j = dTo D t)) (fun j => decide (j = dFr D t)) r = true → Cn D Y (dFr D t) r := by
    intro r hr
    have := cloB_iff.mp hr (cnB D Y (dFr D t)) ⟨fun j _ h1 _ => ?_, fun i j hi hj h1 h2 h3 => ?_⟩
    · exact cnB_iff.mp this
    · rw [show j = dFr D t by simpa using h1]; exact cnB_iff.mpr (Cn.rf _)
    · have h3 := (((hg i hi).1).2 j hj).mp h3
      obtain ⟨c, c1, c2, c3, c4⟩ := h3
      simp only [Bool.and_eq_true, Bool.not_eq_true', decide_eq_false_iff_not] at h2
      by_cases ct : c = t
      · subst ct
        rcases c4 with ⟨z1, z2⟩ | ⟨z1, z2⟩
        · exact absurd z2.symm h2.2
        · rw [← z1]; exact cnB_iff.mpr (Cn.rf _)
      · have hYc : Y c := by rw [hY]; exact ⟨c2, ct⟩
        have h1 := cnB_iff.mp h1
        refine cnB_iff.mpr (h1.tr ?_)
        rcases c4 with ⟨z1, z2⟩ | ⟨z1, z2⟩
        · rw [← z1, ← z2]; exact Cn.ed c1 hYc
        · rw [← z1, ← z2]; exact (Cn.ed c1 hYc).sy
  have hcl := cloB_closed (fun i j => cs (h 27 i) j) (fun j => M j && !decide (j = dTo D t)) (fun j => decide (j = dFr D t))
  have bwd : ∀ r, Cn D Y (dFr D t) r → cloB (fun i j => cs (h 27 i) j) (fun j => M j && !decide (j = dTo D t)) (fun j => decide (j = dFr D t)) r = true := by
    intro r hr
    refine hr (fun r => cloB (fun i j => cs (h 27 i) j) (fun j => M j && !decide (j = dTo D t)) (fun j => decide (j = dFr D t)) r = true) ?_ (fun c hc hYc => ?_)
    · refine hcl.1 _ (by omega) (by simp) ?_
      simp only [Bool.and_eq_true, Bool.not_eq_true', decide_eq_false_iff_not]
      exact ⟨hin.1, hbt.2.2.1⟩
    · have hbc := ok.2.2.2.1 c hc
      have hYc' : trP D M s c ∧ c ≠ t := by rw [hY] at hYc; exact hYc
      have hic := trP_in hYc'.1
      constructor
      · intro z
        refine hcl.2 _ _ (by omega) (by omega) z ?_ ((((hg _ (by omega)).1).2 _ (by omega)).mpr ⟨c, hc, hYc'.1, hYc'.1.1, Or.inl ⟨rfl, rfl⟩⟩)
        simp only [Bool.and_eq_true, Bool.not_eq_true', decide_eq_false_iff_not]
        exact ⟨hic.2, fun e => hcut (by rw [← e]; exact (fwd _ z).tr (Cn.ed hc hYc))⟩
      · intro z
        refine hcl.2 _ _ (by omega) (by omega) z ?_ ((((hg _ (by omega)).1).2 _ (by omega)).mpr ⟨c, hc, hYc'.1, hYc'.1.1, Or.inr ⟨rfl, rfl⟩⟩)
        simp only [Bool.and_eq_true, Bool.not_eq_true', decide_eq_false_iff_not]
        exact ⟨hic.1, fun e => hcut (by rw [← e]; exact (fwd _ z).tr (Cn.ed hc hYc).sy)⟩
  unfold fsB
  rw [← hY]
  exact cnB_eq ⟨fwd j, bwd j⟩
/-- the melted places hang together -/
def mCn (D : LD) (M : Nat → Bool) : Prop := ∀ p q, M p = true → M q = true → Cn D (insP D M) p q
theorem sides {D : LD} (ok : okLD D) {M : Nat → Bool} {s : Int32} {a : Nat} (ha : fstO M 30 = some a) (hM : mCn D M) {t : Nat} (ht : t < dB D) (htr : trP D M s t) : (∀ j, sdB D M s t j = fsB D M s t j) ∨ ∀ j, sdB D M s t j = (M j && !fsB D M s t j) := by
  have hin := trP_in htr
  have haM := (fstO_lt ha).2.1
  obtain ⟨X, hX⟩ : ∃ X : Nat → Prop, X = fun c => trP D M s c ∧ c ≠ t := ⟨_, rfl⟩
  have hXin : ∀ b, b < dB D → X b → insP D M b := fun b _ hb => by rw [hX] at hb; exact hb.1.1
  have sd : ∀ j, sdB D M s t j = true ↔ Cn D X a j := fun j => by
    unfold sdB
    rw [ha, hX]
    exact cnB_iff
  have fs : ∀ j, fsB D M s t j = true ↔ Cn D X (dFr D t) j := fun j => by
    unfold fsB
    rw [hX]
    exact cnB_iff
  by_cases c : Cn D X a (dFr D t)
  · refine Or.inl (fun j => ?_)
    rw [Bool.eq_iff_iff, sd, fs]
    exact ⟨fun z => c.sy.tr z, fun z => c.tr z⟩
  · refine Or.inr (fun j => ?_)
    rw [Bool.eq_iff_iff, sd, Bool.and_eq_true, Bool.not_eq_true', ← Bool.not_eq_true, fs]
    constructor
    · intro z
      exact ⟨Cn_in hXin z haM, fun y => c (z.tr y.sy)⟩
    · rintro ⟨z1, z2⟩
      have h1 : Cn D (trP D M s) a j := tre_all.mpr (hM a j haM z1)
      rcases h1.add (X := X) (e := t) (fun b hb hy => by
        by_cases e : b = t
        · exact Or.inr e
        · exact Or.inl (by rw [hX]; exact ⟨hy, e⟩)) with y | ⟨y, -⟩ | ⟨-, y⟩
      · exact y
      · exact absurd y c
      · exact absurd y z2
theorem sd_sub {D : LD} {M : Nat → Bool} {s : Int32} {a t : Nat} (ha : fstO M 30 = some a) {j : Nat} (h : sdB D M s t j = true) : M j = true := by
  unfold sdB at h
  rw [ha] at h
  exact Cn_in (fun b _ hb => hb.1.1) (cnB_iff.mp h) (fstO_lt ha).2.1
theorem fs_sub {D : LD} {M : Nat → Bool} {s : Int32} {t : Nat} (htr : trP D M s t) {j : Nat} (h : fsB D M s t j = true) : M j = true := Cn_in (fun b _ hb => hb.1.1) (cnB_iff.mp h) (trP_in htr).1
theorem ppl_dif {D : LD} {M P : Nat → Bool} (h : ∀ j, P j = true → M j = true) : pplN D (fun j => M j && !P j) + pplN D P = pplN D M := by
  unfold pplN
  have key : ∀ n, smN (peN D) (fun j => M j && !P j) n + smN (peN D) P n = smN (peN D) M n := by
    intro n
    induction n with
    | zero => rfl
    | succ n ih =>
      rw [smN, smN, smN]
      cases hP : P n with
      | true => rw [h n hP]; simp; omega
      | false => cases hm : M n <;> simp <;> omega
  exact key _
theorem seam_iff {D : LD} {w : LW} (ok : okLD D) {M : Nat → Bool} {s : Int32} {a : Nat} (ha : fstO M 30 = some a) (hM : mCn D M) {t : Nat} (ht : t < dB D) : smB D w M s t = true ↔ trP D M s t ∧ fitN (wK w) (wT w) (pplN D (fsB D M s t)) (tot D) = true ∧ fitN (wK w) (wT w) (pplN D M - pplN D (fsB D M s t)) (tot D) = true := by
  rw [smB_iff]
  by_cases htr : trP D M s t
  · have e1 := ppl_dif (D := D) (M := M) (P := sdB D M s t) (fun j hj => sd_sub ha hj)
    have e2 := ppl_dif (D := D) (M := M) (P := fsB D M s t) (fun j hj => fs_sub htr hj)
    rcases sides ok ha hM ht htr (s := s) with z | z
    · have e3 : pplN D (sdB D M s t) = pplN D (fsB D M s t) := pplN_cong (fun i _ => z i)
      rw [show pplN D (fun j => M j && !sdB D M s t j) = pplN D M - pplN D (fsB D M s t) by omega, e3]
    · have e3 : pplN D (sdB D M s t) = pplN D (fun j => M j && !fsB D M s t j) := pplN_cong (fun i _ => z i)
      rw [show pplN D (fun j => M j && !sdB D M s t j) = pplN D (fsB D M s t) by omega, show pplN D (sdB D M s t) = pplN D M - pplN D (fsB D M s t) by omega]
      constructor
      · rintro ⟨h1, h2, h3⟩; exact ⟨h1, h3, h2⟩
      · rintro ⟨h1, h2, h3⟩; exact ⟨h1, h3, h2⟩
  · exact ⟨fun z => absurd z.1 htr, fun z => absurd z.1 htr⟩
theorem tree_has {h : Hp} {D : LD} (ok : okLD D) {M : Nat → Bool} {s : Int32} (hg : gT h D M s (insP D M)) {t : Nat} (ht : t < dB D) : cs (h 27 (dFr D t)) (dTo D t) = true ↔ trP D M s t := by
  have hN := ok.1
  have hbt := ok.2.2.2.1 t ht
  rw [((hg _ (by omega)).1).2 _ (by omega)]
  constructor
  · rintro ⟨c, c1, c2, c3, c4⟩
    have : c = t := by
      rcases Nat.lt_trichotomy c t with z | z | z
      · exact absurd c4 (ok.2.2.2.2 c t z ht)
      · exact z
      · have := ok.2.2.2.2 t c z c1
        rcases c4 with ⟨z1, z2⟩ | ⟨z1, z2⟩
        · exact absurd (Or.inl ⟨z1.symm, z2.symm⟩) this
        · exact absurd (Or.inr ⟨z2.symm, z1.symm⟩) this
    rw [← this]; exact c2
  · intro z
    exact ⟨t, ht, z, z.1, Or.inl ⟨rfl, rfl⟩⟩
theorem c_partBefore {E : Wd} {h : Hp} {D : LD} (hl : LandW h D) (ok : okLD D) {M : Nat → Bool} {s : Int32} (hg : gT h D M s (insP D M)) {t : Nat} (ht : t < dB D) (htr : trP D M s t) : Cd E 2 m_Walker_partBefore [.ref 25, .int (nI t), .int (cI M)] h (some (.int (cI (fsB D M s t)))) h := by
  have hN := ok.1
  have hB := ok.2.1
  have hbt := ok.2.2.2.1 t ht
  have hrw := hl.2.2.2.2.1 t ht
  have hin : vp_in (nI t) 100 := vp_in_nI (by omega) (by omega)
  refine Cd_of ok_Walker_partBefore rfl (Nat.le_of_ble_eq_true rfl) (L := [some (.ref 25), some (.int (nI t)), some (.int (cI M)), none]) rfl ?_
  refine V_iload_n d_Walker_partBefore_0 rfl ?_
  refine V_aload_n d_Walker_partBefore_1 rfl ?_
  refine V_getR d_Walker_partBefore_2 f_Walker_9 rfl (by first | rfl | assumption) (by first | rfl | assumption) ?_
  refine V_getR d_Walker_partBefore_5 f_Walker_93 rfl (by first | rfl | assumption) (by first | rfl | assumption) ?_
  refine V_iload_n d_Walker_partBefore_8 rfl ?_
  refine V_iald d_Walker_partBefore_9 (by first | rfl | assumption) (by first | assumption | exact vp_in_nI (by omega) (by omega)) ?_
  rw [nI_clamp (by omega), hrw.2.1]
  refine V_callS1 d_Walker_partBefore_10 k_Walker_152 rfl (c_only _ (show dTo D t < 30 by omega)) rfl (by first | decide | omega) rfl (Nat.le_of_ble_eq_true rfl) ?_
  refine V_iconst (v := -1) d_Walker_partBefore_13 (by decide) ?_
  refine V_ixor d_Walker_partBefore_14 ?_
  refine V_iand d_Walker_partBefore_15 ?_
  refine V_istore_n d_Walker_partBefore_16 (by decide) ?_
  dsimp only [List.set]
  refine V_aload_n d_Walker_partBefore_17 rfl ?_
  refine V_getR d_Walker_partBefore_18 f_Walker_34 rfl (by first | rfl | assumption) (by first | rfl | assumption) ?_
  refine V_iload_n d_Walker_partBefore_21 rfl ?_
  refine V_aload_n d_Walker_partBefore_22 rfl ?_
  refine V_getR d_Walker_partBefore_23 f_Walker_9 rfl (by first | rfl | assumption) (by first | rfl | assumption) ?_
  refine V_getR d_Walker_partBefore_26 f_Walker_88 rfl (by first | rfl | assumption) (by first | rfl | assumption) ?_
  refine V_iload_n d_Walker_partBefore_29 rfl ?_
  refine V_iald d_Walker_partBefore_30 (by first | rfl | assumption) (by first | assumption | exact vp_in_nI (by omega) (by omega)) ?_
  rw [nI_clamp (by omega), hrw.1]
  refine V_callS1 d_Walker_partBefore_31 k_Walker_152 rfl (c_only _ (show dFr D t < 30 by omega)) rfl (by first | decide | omega) rfl (Nat.le_of_ble_eq_true rfl) ?_
  refine V_callS1 d_Walker_partBefore_34 k_Walker_169 rfl (c_spread h rfl (cI M &&& (onl (dTo D t) ^^^ -1)) (onl (dFr D t)) (hi_and (cI_hi _))) rfl (by first | decide | omega) rfl (Nat.le_of_ble_eq_true rfl) ?_
  refine V_iret d_Walker_partBefore_37 rfl ?_
  refine ⟨?_, rfl⟩
  refine congrArg (fun x => some (Value.int x)) (cI_cong (fun j hj => ?_))
  rw [← part_eq ok hg ht htr hj]
  refine cloB_cong (fun _ _ _ _ => rfl) (fun i hi => ?_) (fun i hi => ?_) j
  · rw [cs_and, cs_not, cI_cs _ hi, cs_onl (by omega) hi]
  · rw [cs_onl (by omega) hi]
theorem c_findSeams {E : Wd} {h : Hp} {D : LD} {w : LW} (hl : LandW h D) (ok : okLD D) (hw : LawW h w) (okw : okLW w) {M : Nat → Bool} (hMN : ∀ j, M j = true → j < dN D) {s : Int32} (hg : gT h D M s (insP D M)) {a : Nat} (ha : fstO M 30 = some a) (hM : mCn D M) : Cq E 3 m_Walker_findSeams [.ref 25, .int (cI M)] h (fun v h' => v = some (.int (nI (fa_cnt (smB D w M s) (dB D)))) ∧ ∃ f, h' = hrow h 29 f ∧ ∀ k, k < fa_cnt (smB D w M s) (dB D) → ∃ b, isNth (smB D w M s) (dB D) k b ∧ f k = nI b) := by
  have hN := ok.1
  have hB := ok.2.1
  have hWM := pplN_le ok M
  refine Cq_of2 ok_Walker_findSeams rfl (Nat.le_of_ble_eq_true rfl) (L := [some (.ref 25), some (.int (cI M)), none, none, none, none]) rfl ?_
  refine V_iconst (v := 0) d_Walker_findSeams_0 (by decide) ?_
  refine V_istore_n d_Walker_findSeams_1 (by decide) ?_
  dsimp only [List.set]
  refine V_aload_n d_Walker_findSeams_2 rfl ?_
  refine V_getR d_Walker_findSeams_3 f_Walker_9 rfl (by first | rfl | assumption) (by first | rfl | assumption) ?_
  refine V_getR d_Walker_findSeams_6 f_Walker_158 rfl (by first | rfl | assumption) (by first | rfl | assumption) ?_
  refine V_iload_n d_Walker_findSeams_9 rfl ?_
  refine V_callS1 d_Walker_findSeams_10 k_Walker_161 rfl (c_sum h rfl (cI_hi M)) rfl (by first | decide | omega) rfl (Nat.le_of_ble_eq_true rfl) ?_
  rw [sum_ppl hl ok (fun j _ => hMN j)]
  refine V_istore_n d_Walker_findSeams_13 (by decide) ?_
  dsimp only [List.set]
  refine V_iconst (v := 0) d_Walker_findSeams_14 (by decide) ?_
  refine V_istore d_Walker_findSeams_15 (by decide) ?_
  dsimp only [List.set]
  have loop : ∀ i, i ≤ dB D → ∀ f u5, (∀ k, k < fa_cnt (smB D w M s) i → ∃ b, isNth (smB D w M s) i k b ∧ f k = nI b) → V E 3 m_Walker_findSeams (fun v h' => v = some (.int (nI (fa_cnt (smB D w M s) (dB D)))) ∧ ∃ f, h' = hrow h 29 f ∧ ∀ k, k < fa_cnt (smB D w M s) (dB D) → ∃ b, isNth (smB D w M s) (dB D) k b ∧ f k = nI b) 17 [some (.ref 25), some (.int (cI M)), some (.int (nI (fa_cnt (smB D w M s) i))), some (.int (nI (pplN D M))), some (.int (nI i)), u5] [] (hrow h 29 f) := by
    refine up_ind (dB D) ?_
    intro i hi ih f u5 hf
    have hlf : LandW (hrow h 29 f) D := hl.of (fun q c1 c2 => hrow_ne (by omega))
    have hwf : LawW (hrow h 29 f) w := hw.of (fun q c1 c2 => hrow_ne (by omega))
    have hgf : gT (hrow h 29 f) D M s (insP D M) := hg.of (hrow_ne (by omega)) (hrow_ne (by omega))
    have hcl := fa_cnt_le (smB D w M s) i
    refine V_iload d_Walker_findSeams_17 rfl ?_
    refine V_aload_n d_Walker_findSeams_19 rfl ?_
    refine V_getR d_Walker_findSeams_20 f_Walker_9 rfl (by first | rfl | assumption) (by first | rfl | assumption) ?_
    refine V_getI d_Walker_findSeams_23 f_Walker_143 rfl (by first | rfl | assumption) (by first | rfl | assumption) ?_
    rw [hlf.2.1]
    refine V_icmp_ge (tgt := 122) d_Walker_findSeams_26 (by decide) (fun b26 => ?_) (fun b26 => ?_)
    · obtain rfl := ge_eq b26 rfl rfl (by omega) hi
      refine V_iload_n d_Walker_findSeams_122 rfl ?_
      refine V_iret d_Walker_findSeams_123 rfl ?_
      exact ⟨rfl, f, rfl, hf⟩
    · have hib := nge_lt b26 rfl rfl (by omega) hi
      have ih := ih hib
      have hbb := ok.2.2.2.1 i hib
      have hrw := hlf.2.2.2.2.1 i hib
      have hin : vp_in (nI i) 100 := vp_in_nI (by omega) (by omega)
      have hinf : vp_in (nI (dFr D i)) 30 := vp_in_nI (by omega) (by omega)
      have hsi := seam_iff (w := w) ok ha hM (s := s) hib
      have no : smB D w M s i = false → ∀ u5, V E 3 m_Walker_findSeams (fun v h' => v = some (.int (nI (fa_cnt (smB D w M s) (dB D)))) ∧ ∃ f, h' = hrow h 29 f ∧ ∀ k, k < fa_cnt (smB D w M s) (dB D) → ∃ b, isNth (smB D w M s) (dB D) k b ∧ f k = nI b) 116 [some (.ref 25), some (.int (cI M)), some (.int (nI (fa_cnt (smB D w M s) i))), some (.int (nI (pplN D M))), some (.int (nI i)), u5] [] (hrow h 29 f) := by
        intro hc u5
        refine V_iincw (w := 1) d_Walker_findSeams_116 rfl (by decide) (by decide) ?_
        dsimp only [List.set]
        refine V_goto (tgt := 17) d_Walker_findSeams_119 (by decide) ?_
        rw [fa_cnt_no hc] at ih
        rw [nI_1]
        refine ih f _ (fun k hk => ?_)
        obtain ⟨b, ⟨g1, g2, g3⟩, g4⟩ := hf k hk
        exact ⟨b, ⟨by omega, g2, g3⟩, g4⟩
      have nob : ¬ smB D w M s i = true → smB D w M s i = false := fun z => by
        cases hh : smB D w M s i with
        | false => rfl
        | true => exact absurd hh z
      refine V_aload_n d_Walker_findSeams_29 rfl ?_
      refine V_getR d_Walker_findSeams_30 f_Walker_34 rfl (by first | rfl | assumption) (by first | rfl | assumption) ?_
      refine V_aload_n d_Walker_findSeams_33 rfl ?_
      refine V_getR d_Walker_findSeams_34 f_Walker_9 rfl (by first | rfl | assumption) (by first | rfl | assumption) ?_
      refine V_getR d_Walker_findSeams_37 f_Walker_88 rfl (by first | rfl | assumption) (by first | rfl | assumption) ?_
      refine V_iload d_Walker_findSeams_40 rfl ?_
      refine V_iald d_Walker_findSeams_42 (by first | rfl | assumption) (by first | assumption | exact vp_in_nI (by omega) (by omega)) ?_
      rw [nI_clamp (by omega), hrw.1]
      refine V_iald d_Walker_findSeams_43 (by first | rfl | assumption) (by first | assumption | exact vp_in_nI (by omega) (by omega)) ?_
      refine V_aload_n d_Walker_findSeams_44 rfl ?_
      refine V_getR d_Walker_findSeams_45 f_Walker_9 rfl (by first | rfl | assumption) (by first | rfl | assumption) ?_
      refine V_getR d_Walker_findSeams_48 f_Walker_93 rfl (by first | rfl | assumption) (by first | rfl | assumption) ?_
      refine V_iload d_Walker_findSeams_51 rfl ?_
      refine V_iald d_Walker_findSeams_53 (by first | rfl | assumption) (by first | assumption | exact vp_in_nI (by omega) (by omega)) ?_
      rw [show (nI (dFr D i)).toNatClampNeg = dFr D i from nI_clamp (by omega), nI_clamp (by omega), hrw.2.1]
      refine V_callS1 d_Walker_findSeams_54 k_Walker_134 rfl (c_has _ _ (show dTo D i < 30 by omega)) rfl (by first | decide | omega) rfl (Nat.le_of_ble_eq_true rfl) ?_
      have hth := tree_has ok hgf hib
      refine V_if_eq (tgt := 116) d_Walker_findSeams_57 (by decide) (fun b57 => ?_) (fun b57 => ?_)
      · have hb : cs ((hrow h 29 f) 27 (dFr D i)) (dTo D i) = false := b2i.mp b57
        refine no (nob (fun z => ?_)) _
        have := hth.mpr (hsi.mp z).1
        rw [hb] at this
        cases this
      · have hb : cs ((hrow h 29 f) 27 (dFr D i)) (dTo D i) = true := b2in.mp b57
        have htr := hth.mp hb
        have hpl := pplN_le ok (fsB D M s i)
        have hdf := ppl_dif (D := D) (M := M) (P := fsB D M s i) (fun j hj => fs_sub htr hj)
        refine V_aload_n d_Walker_findSeams_60 rfl ?_
        refine V_getR d_Walker_findSeams_61 f_Walker_9 rfl (by first | rfl | assumption) (by first | rfl | assumption) ?_
        refine V_getR d_Walker_findSeams_64 f_Walker_158 rfl (by first | rfl | assumption) (by first | rfl | assumption) ?_
        refine V_aload_n d_Walker_findSeams_67 rfl ?_
        refine V_iload d_Walker_findSeams_68 rfl ?_
        refine V_iload_n d_Walker_findSeams_70 rfl ?_
        refine V_callV1 d_Walker_findSeams_71 k_Walker_126 rfl (c_partBefore hlf ok hgf hib htr) (by first | rfl | assumption) rfl rfl (by first | decide | omega) rfl (Nat.le_of_ble_eq_true rfl) ?_
        refine V_callS1 d_Walker_findSeams_74 k_Walker_161 rfl (c_sum _ rfl (cI_hi _)) rfl (by first | decide | omega) rfl (Nat.le_of_ble_eq_true rfl) ?_
        rw [sum_ppl hlf ok (fun j _ hj => hMN j (fs_sub htr hj))]
        refine V_istore d_Walker_findSeams_77 (by decide) ?_
        dsimp only [List.set]
        refine V_aload_n d_Walker_findSeams_79 rfl ?_
        refine V_getR d_Walker_findSeams_80 f_Walker_15 rfl (by first | rfl | assumption) (by first | rfl | assumption) ?_
        refine V_iload d_Walker_findSeams_83 rfl ?_
        refine V_callV1 d_Walker_findSeams_85 k_Walker_165 rfl (c_fits hlf ok hwf okw hpl) (by first | rfl | assumption) rfl rfl (by first | decide | omega) rfl (Nat.le_of_ble_eq_true rfl) ?_
        refine V_if_eq (tgt := 116) d_Walker_findSeams_88 (by decide) (fun b88 => ?_) (fun b88 => ?_)
        · refine no (nob (fun z => ?_)) _
          have := (hsi.mp z).2.1
          rw [b2i.mp b88] at this
          cases this
        · refine V_aload_n d_Walker_findSeams_91 rfl ?_
          refine V_getR d_Walker_findSeams_92 f_Walker_15 rfl (by first | rfl | assumption) (by first | rfl | assumption) ?_
          refine V_iload_n d_Walker_findSeams_95 rfl ?_
          refine V_iload d_Walker_findSeams_96 rfl ?_
          refine V_isub d_Walker_findSeams_98 ?_
          rw [pk_sub (by omega)]
          refine V_callV1 d_Walker_findSeams_99 k_Walker_165 rfl (c_fits hlf ok hwf okw (show pplN D M - pplN D (fsB D M s i) ≤ 30000 by omega)) (by first | rfl | assumption) rfl rfl (by first | decide | omega) rfl (Nat.le_of_ble_eq_true rfl) ?_
          refine V_if_eq (tgt := 116) d_Walker_findSeams_102 (by decide) (fun b102 => ?_) (fun b102 => ?_)
          · refine no (nob (fun z => ?_)) _
            have := (hsi.mp z).2.2
            rw [b2i.mp b102] at this
            cases this
          · have hc : smB D w M s i = true := hsi.mpr ⟨htr, b2in.mp b88, b2in.mp b102⟩
            rw [fa_cnt_yes hc] at ih
            have hin3 : vp_in (nI (fa_cnt (smB D w M s) i)) 100 := vp_in_nI (by omega) (by omega)
            refine V_aload_n d_Walker_findSeams_105 rfl ?_
            refine V_getR d_Walker_findSeams_106 f_Walker_40 rfl (by first | rfl | assumption) (by first | rfl | assumption) ?_
            refine V_iload_n d_Walker_findSeams_109 rfl ?_
            refine V_iload d_Walker_findSeams_110 rfl ?_
            refine V_iast d_Walker_findSeams_112 (by first | rfl | assumption) (by first | assumption | exact vp_in_nI (by omega) (by omega)) ?_
            refine V_iincw (w := 1) d_Walker_findSeams_113 rfl (by decide) (by decide) ?_
            dsimp only [List.set]
            refine V_iincw (w := 1) d_Walker_findSeams_116 rfl (by decide) (by decide) ?_
            dsimp only [List.set]
            refine V_goto (tgt := 17) d_Walker_findSeams_119 (by decide) ?_
            rw [nI_clamp (by omega), hup_hrow, nI_1, nI_1]
            refine ih _ _ (fun k hk => ?_)
            by_cases c : k = fa_cnt (smB D w M s) i
            · rw [c, upd_s]
              exact ⟨i, ⟨by omega, hc, rfl⟩, rfl⟩
            · rw [upd_n c]
              obtain ⟨b, ⟨g1, g2, g3⟩, g4⟩ := hf k (by omega)
              exact ⟨b, ⟨by omega, g2, g3⟩, g4⟩
  have h0 := loop 0 (Nat.zero_le _) (h 29) none (fun k hk => absurd hk (Nat.not_lt_zero k))
  rw [hrow_self] at h0
  exact h0
