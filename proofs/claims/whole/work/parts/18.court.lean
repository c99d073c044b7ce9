/-! the court: what the laws say, and the class's Court -/
def smN (f : Nat → Nat) (P : Nat → Bool) : Nat → Nat
  | 0 => 0
  | n + 1 => smN f P n + if P n then f n else 0
theorem smP_nI {f : Nat → Int32} {g : Nat → Nat} {P : Nat → Bool} : ∀ {n : Nat}, (∀ i, i < n → f i = nI (g i)) → smP f P n = nI (smN g P n)
  | 0, _ => rfl
  | n + 1, h => by
    rw [smP, smN, smP_nI (fun i hi => h i (by omega)), h n (by omega)]
    cases P n
    · simp
    · simp [nI_add]
theorem smN_le {g : Nat → Nat} {P : Nat → Bool} {c : Nat} : ∀ {n : Nat}, (∀ i, i < n → g i ≤ c) → smN g P n ≤ n * c
  | 0, _ => by simp [smN]
  | n + 1, h => by
    have h1 := smN_le (P := P) (fun i hi => h i (Nat.lt_succ_of_lt hi)) (n := n)
    have h2 := h n (by omega)
    rw [smN, Nat.succ_mul]
    split <;> omega
theorem smP_cut {f : Nat → Int32} {P : Nat → Bool} {n : Nat} : ∀ {m : Nat}, n ≤ m → (∀ i, n ≤ i → i < m → P i = false) → smP f P m = smP f P n
  | 0, h, _ => by rw [show n = 0 by omega]
  | m + 1, h, hp => by
    rcases Nat.lt_or_ge n (m + 1) with q | q
    · rw [smP, smP_cut (by omega) (fun i h1 h2 => hp i h1 (by omega)), hp m (by omega) (by omega)]
      simp
    · rw [show n = m + 1 by omega]
def peN (D : LD) (p : Nat) : Nat := (dPe D p).toNatClampNeg
theorem upTo_eq {m : Nat} {x : Int32} (h : upTo m x) (hm : m < 2 ^ 31) : x = nI x.toNatClampNeg ∧ x.toNatClampNeg ≤ m := by
  obtain ⟨q, hq, rfl⟩ := h
  rw [nI_clamp (by omega)]
  exact ⟨rfl, hq⟩
theorem pe_nI {D : LD} (ok : okLD D) {p : Nat} (hp : p < dN D) : dPe D p = nI (peN D p) ∧ peN D p ≤ 1000 := upTo_eq (ok.2.2.1 p hp).1 (by omega)
/-- how many people a set has; all of them -/
def pplN (D : LD) (P : Nat → Bool) : Nat := smN (peN D) P (dN D)
def tot (D : LD) : Nat := smN (peN D) (fun _ => true) (dN D)
theorem pplN_le {D : LD} (ok : okLD D) (P : Nat → Bool) : pplN D P ≤ 30000 := by
  have h1 := smN_le (g := peN D) (P := P) (c := 1000) (n := dN D) (fun i hi => (pe_nI ok hi).2)
  have := ok.1
  unfold pplN
  omega
theorem tot_le {D : LD} (ok : okLD D) : tot D ≤ 30000 := pplN_le ok _
theorem all_nI {h : Hp} {D : LD} (hl : LandW h D) (ok : okLD D) : h 1 2 = nI (tot D) := by
  rw [hl.2.2.1]
  exact smP_nI (fun i hi => (pe_nI ok hi).1)
def fitN (k t q a : Nat) : Bool := decide (1000 * (if k * q < a then a - k * q else k * q - a) ≤ t * a)
theorem absI {u a : Nat} (hu : u < 2 ^ 30) (ha : a < 2 ^ 30) : (if 0 ≤ nI u - nI a then nI u - nI a else 0 - (nI u - nI a)) = nI (if u < a then a - u else u - a) := by
  by_cases h : u < a
  · rw [if_pos h, if_neg (fun q => (fa_of_lt (pk_sneg ha h)).2.1 q), ← pk_sub (by omega)]
    rw [Int32.zero_sub, Int32.neg_sub]
  · rw [if_neg h, pk_sub (by omega), if_pos (nI_pos' (by omega))]
/-- the Court's cells -/
theorem c_fits {E : Wd} {h : Hp} {D : LD} {w : LW} (hl : LandW h D) (ok : okLD D) (hw : LawW h w) (okw : okLW w) {q : Nat} (hq : q ≤ 30000) : Cd E 1 m_Court_fits [.ref 17, .int (nI q)] h (some (.int (if fitN (wK w) (wT w) q (tot D) then 1 else 0))) h := by
  have ha := tot_le ok
  have hk := okw.2.1
  have ht := okw.2.2.1
  have hkq : wK w * q ≤ 6 * 30000 := Nat.mul_le_mul hk hq
  have hta : wT w * tot D ≤ 1000 * 30000 := Nat.mul_le_mul ht ha
  refine Cd_of ok_Court_fits rfl (Nat.le_of_ble_eq_true rfl) (L := [some (.ref 17), some (.int (nI q)), none]) rfl ?_
  refine V_aload_n d_Court_fits_0 rfl ?_
  refine V_getR d_Court_fits_1 f_Court_15 rfl (by first | rfl | assumption) (by first | rfl | assumption) ?_
  refine V_getI d_Court_fits_4 f_Court_55 rfl (by first | rfl | assumption) (by first | rfl | assumption) ?_
  refine V_iload_n d_Court_fits_7 rfl ?_
  refine V_imul d_Court_fits_8 ?_
  refine V_aload_n d_Court_fits_9 rfl ?_
  refine V_getR d_Court_fits_10 f_Court_9 rfl (by first | rfl | assumption) (by first | rfl | assumption) ?_
  refine V_getI d_Court_fits_13 f_Court_86 rfl (by first | rfl | assumption) (by first | rfl | assumption) ?_
  refine V_isub d_Court_fits_16 ?_
  rw [hw.1, all_nI hl ok, pk_mul]
  refine V_mabs d_Court_fits_17 kM_Court_89 rfl (by first | decide | omega) (Nat.le_of_ble_eq_true rfl) ?_
  rw [absI (by omega) (by omega)]
  refine V_istore_n d_Court_fits_20 (by decide) ?_
  dsimp only [List.set]
  refine V_sipush (v := 1000) d_Court_fits_21 (by decide) ?_
  refine V_iload_n d_Court_fits_24 rfl ?_
  refine V_imul d_Court_fits_25 ?_
  refine V_aload_n d_Court_fits_26 rfl ?_
  refine V_getR d_Court_fits_27 f_Court_15 rfl (by first | rfl | assumption) (by first | rfl | assumption) ?_
  refine V_getI d_Court_fits_30 f_Court_94 rfl (by first | rfl | assumption) (by first | rfl | assumption) ?_
  refine V_aload_n d_Court_fits_33 rfl ?_
  refine V_getR d_Court_fits_34 f_Court_9 rfl (by first | rfl | assumption) (by first | rfl | assumption) ?_
  refine V_getI d_Court_fits_37 f_Court_86 rfl (by first | rfl | assumption) (by first | rfl | assumption) ?_
  refine V_imul d_Court_fits_40 ?_
  rw [hw.2.1, all_nI hl ok, show (1000 : Int32) = nI 1000 from rfl, pk_mul, pk_mul]
  have hm : (if wK w * q < tot D then tot D - wK w * q else wK w * q - tot D) ≤ 180000 := by split <;> omega
  refine V_icmp_gt (tgt := 48) d_Court_fits_41 (by decide) (fun b41 => ?_) (fun b41 => ?_)
  · refine V_iconst (v := 0) d_Court_fits_48 (by decide) ?_
    refine V_zret d_Court_fits_49 rfl (by first | rfl | decide | assumption) ?_
    have := (nI_ltI (by omega) (by omega)).mp b41
    refine ⟨?_, rfl⟩
    unfold fitN
    rw [decide_eq_false (by omega)]
    rfl
  · refine V_iconst (v := 1) d_Court_fits_44 (by decide) ?_
    refine V_goto (tgt := 49) d_Court_fits_45 (by decide) ?_
    refine V_zret d_Court_fits_49 rfl (by first | rfl | decide | assumption) ?_
    refine ⟨?_, rfl⟩
    unfold fitN
    rw [decide_eq_true]
    · rfl
    · rcases Nat.lt_or_ge (wT w * tot D) (1000 * (if wK w * q < tot D then tot D - wK w * q else wK w * q - tot D)) with z | z
      · exact absurd ((nI_ltI (by omega) (by omega)).mpr z) b41
      · exact z
/-- what one comes to from a place within a set -/
noncomputable def reach (D : LD) (P : Nat → Bool) (a : Nat) : Nat → Bool := cloB (dNb D) P (fun j => decide (j = a))
theorem nbB_symm (fr to : Nat → Nat) (i j : Nat) : ∀ n, nbB fr to n i j = nbB fr to n j i
  | 0 => rfl
  | n + 1 => by
    rw [nbB, nbB, nbB_symm fr to i j n]
    cases nbB fr to n j i <;> cases decide (fr n = i) <;> cases decide (to n = j) <;> cases decide (fr n = j) <;> cases decide (to n = i) <;> rfl
theorem dNb_symm (D : LD) (i j : Nat) : dNb D i j = dNb D j i := nbB_symm _ _ _ _ _
theorem cloP_all (N : Nat → Nat → Bool) (S X : Nat → Bool) : cloP N S X (fun _ => true) := ⟨fun _ _ _ _ => rfl, fun _ _ _ _ _ _ _ => rfl⟩
theorem cloB_closed (N : Nat → Nat → Bool) (S X : Nat → Bool) : cloP N S X (cloB N S X) := by
  refine ⟨fun j hj h1 h2 => cloB_iff.mpr (fun T hT => hT.1 j hj h1 h2), fun i j hi hj h1 h2 h3 => cloB_iff.mpr (fun T hT => hT.2 i j hi hj (cloB_iff.mp h1 T hT) h2 h3)⟩
theorem cloB_sub {N : Nat → Nat → Bool} {S X : Nat → Bool} {j : Nat} (h : cloB N S X j = true) (hj : j < 30) : S j = true := by
  refine cloB_iff.mp h S ⟨fun _ _ _ h2 => h2, fun _ _ _ _ _ h2 _ => h2⟩
theorem cloB_cong {N N' : Nat → Nat → Bool} {S S' X X' : Nat → Bool} (hN : ∀ i j, i < 30 → j < 30 → N i j = N' i j) (hS : ∀ j, j < 30 → S j = S' j) (hX : ∀ j, j < 30 → X j = X' j) (j : Nat) : cloB N S X j = cloB N' S' X' j := by
  have key : ∀ {N N' : Nat → Nat → Bool} {S S' X X' : Nat → Bool}, (∀ i j, i < 30 → j < 30 → N i j = N' i j) → (∀ j, j < 30 → S j = S' j) → (∀ j, j < 30 → X j = X' j) → ∀ T, cloP N S X T → cloP N' S' X' T := by
    intro N N' S S' X X' hN hS hX T hT
    exact ⟨fun j hj h1 h2 => hT.1 j hj (by rw [hX j hj]; exact h1) (by rw [hS j hj]; exact h2), fun i j hi hj h1 h2 h3 => hT.2 i j hi hj h1 (by rw [hS j hj]; exact h2) (by rw [hN i j hi hj]; exact h3)⟩
  cases h1 : cloB N' S' X' j with
  | true => exact cloB_iff.mpr (fun T hT => cloB_iff.mp h1 T (key hN hS hX T hT))
  | false =>
    cases h2 : cloB N S X j with
    | false => rfl
    | true =>
      have := cloB_iff.mpr (fun T hT => cloB_iff.mp h2 T (key (fun i j hi hj => (hN i j hi hj).symm) (fun j hj => (hS j hj).symm) (fun j hj => (hX j hj).symm) T hT))
      rw [h1] at this
      cases this
/-- a set hangs together: from each place one comes to each -/
noncomputable def hang (D : LD) (P : Nat → Bool) : Bool := @decide (∀ a j, a < 30 → j < 30 → P a = true → P j = true → reach D P a j = true) (Classical.propDecidable _)
theorem hang_iff {D : LD} {P : Nat → Bool} : hang D P = true ↔ ∀ a j, a < 30 → j < 30 → P a = true → P j = true → reach D P a j = true := by
  unfold hang
  exact @decide_eq_true_iff _ (Classical.propDecidable _)
theorem hang_from {D : LD} {P : Nat → Bool} {a : Nat} (ha : a < 30) (hPa : P a = true) : hang D P = true ↔ ∀ j, j < 30 → P j = true → reach D P a j = true := by
  rw [hang_iff]
  constructor
  · intro h j hj hP
    exact h a j ha hj hPa hP
  · intro h b j hb hj hPb hPj
    refine cloB_iff.mpr (fun T hT => ?_)
    have ha2 : T a = true := by
      apply Classical.byContradiction
      intro hn
      have hU : cloP (dNb D) P (fun j => decide (j = a)) (fun j => P j && !T j) := by
        refine ⟨fun j _ h1 h2 => ?_, fun i j hi hj h1 h2 h3 => ?_⟩
        · have : j = a := by simpa using h1
          subst this
          show (P j && !T j) = true
          rw [h2]
          cases hT2 : T j with
          | true => exact absurd hT2 hn
          | false => rfl
        · simp only [Bool.and_eq_true] at h1 ⊢
          refine ⟨h2, ?_⟩
          cases hT2 : T j with
          | false => rfl
          | true =>
            have := hT.2 j i hj hi hT2 h1.1 (by rw [dNb_symm]; exact h3)
            rw [this] at h1
            simp at h1
      have h4 := cloB_iff.mp (h b hb hPb) _ hU
      have h5 := hT.1 b hb (by simp) hPb
      rw [h5] at h4
      simp at h4
    exact cloB_iff.mp (h j hj hPj) T ⟨fun i hi h1 h2 => by
      have : i = a := by simpa using h1
      subst this
      exact ha2, hT.2⟩
theorem hang_cong {D : LD} {P P' : Nat → Bool} (h : ∀ j, j < 30 → P j = P' j) : hang D P = hang D P' := by
  have key : ∀ {P P' : Nat → Bool}, (∀ j, j < 30 → P j = P' j) → hang D P = true → hang D P' = true := by
    intro P P' h q
    rw [hang_iff] at q ⊢
    intro a j ha hj h1 h2
    have := q a j ha hj (by rw [h a ha]; exact h1) (by rw [h j hj]; exact h2)
    unfold reach at this ⊢
    rw [cloB_cong (fun _ _ _ _ => rfl) (fun j hj => (h j hj).symm) (fun _ _ => rfl) j]
    exact this
  cases h1 : hang D P' with
  | true => exact key (fun j hj => (h j hj).symm) h1
  | false =>
    cases h2 : hang D P with
    | false => rfl
    | true => rw [key h h2] at h1; cases h1
theorem c_hangs {E : Wd} {h : Hp} {D : LD} (hl : LandW h D) {S : Int32} (hS : hi0 S) : Cd E 2 m_Court_hangs [.ref 17, .int S] h (some (.int (if hang D (cs S) then 1 else 0))) h := by
  refine Cd_of ok_Court_hangs rfl (Nat.le_of_ble_eq_true rfl) (L := [some (.ref 17), some (.int S)]) rfl ?_
  refine V_aload_n d_Court_hangs_0 rfl ?_
  refine V_getR d_Court_hangs_1 f_Court_9 rfl (by first | rfl | assumption) (by first | rfl | assumption) ?_
  refine V_getR d_Court_hangs_4 f_Court_42 rfl (by first | rfl | assumption) (by first | rfl | assumption) ?_
  refine V_iload_n d_Court_hangs_7 rfl ?_
  refine V_iload_n d_Court_hangs_8 rfl ?_
  refine V_iload_n d_Court_hangs_9 rfl ?_
  refine V_ineg d_Court_hangs_10 ?_
  refine V_iand d_Court_hangs_11 ?_
  refine V_callS1 d_Court_hangs_12 k_Court_51 rfl (c_spread h rfl S (S &&& -S) hS) rfl (by first | decide | omega) rfl (Nat.le_of_ble_eq_true rfl) ?_
  have hN : ∀ X j, cloB (fun i j => cs (h 6 i) j) (cs S) X j = cloB (dNb D) (cs S) X j := fun X j => cloB_cong (fun i j hi hj => by rw [hl.2.2.2.2.2.1 i hi, cI_cs _ hj]) (fun _ _ => rfl) (fun _ _ => rfl) j
  rw [cI_cong (fun j _ => hN _ j)]
  by_cases h0 : S = 0
  · have e : hang D (cs S) = true := hang_iff.mpr (fun a j ha hj h1 _ => by
      rw [h0] at h1
      unfold cs at h1
      rw [b_0] at h1
      cases h1)
    rw [e]
    refine V_iload_n d_Court_hangs_15 rfl ?_
    refine V_icmp_ne (tgt := 23) d_Court_hangs_16 (by decide) (fun b16 => ?_) (fun b16 => ?_)
    · exfalso
      apply b16
      rw [cI_cong (P' := cs S) (fun j hj => ?_)]
      · exact (cI_of hS).symm
      · cases hq : cs S j with
        | true => rw [h0] at hq; unfold cs at hq; rw [b_0] at hq; cases hq
        | false =>
          cases hz : cloB (dNb D) (cs S) (cs (S &&& -S)) j with
          | false => rfl
          | true => rw [cloB_sub hz hj] at hq; cases hq
    · refine V_iconst (v := 1) d_Court_hangs_19 (by decide) ?_
      refine V_goto (tgt := 24) d_Court_hangs_20 (by decide) ?_
      refine V_zret d_Court_hangs_24 rfl (by first | rfl | decide | assumption) ?_
      exact ⟨rfl, rfl⟩
  · obtain ⟨k, hk, h1, h2⟩ := low30 hS h0
    have hka : cs S (29 - k) = true := by unfold cs; rw [show 29 - (29 - k) = k by omega]; exact h1
    have hX : ∀ j, j < 30 → cs (S &&& -S) j = decide (j = 29 - k) := by
      intro j hj
      rw [b_low (by omega) h1 h2, show nI (2 ^ k) = onl (29 - k) by unfold onl; rw [show 29 - (29 - k) = k by omega], cs_onl (by omega) hj]
    rw [cI_cong (P' := reach D (cs S) (29 - k)) (fun j hj => cloB_cong (fun _ _ _ _ => rfl) (fun _ _ => rfl) hX j)]
    have hh := hang_from (D := D) (P := cs S) (a := 29 - k) (by omega) hka
    have heq : cI (reach D (cs S) (29 - k)) = S ↔ hang D (cs S) = true := by
      rw [hh]
      constructor
      · intro e j hj hP
        have h5 : cs (cI (reach D (cs S) (29 - k))) j = true := by rw [e]; exact hP
        rw [cI_cs _ hj] at h5
        exact h5
      · intro q
        refine (cI_eq hS (fun j hj => ?_)).symm
        cases hz : reach D (cs S) (29 - k) j with
        | true => exact cloB_sub hz hj
        | false =>
          cases hq : cs S j with
          | false => rfl
          | true => rw [q j hj hq] at hz; cases hz
    refine V_iload_n d_Court_hangs_15 rfl ?_
    refine V_icmp_ne (tgt := 23) d_Court_hangs_16 (by decide) (fun b16 => ?_) (fun b16 => ?_)
    · refine V_iconst (v := 0) d_Court_hangs_23 (by decide) ?_
      refine V_zret d_Court_hangs_24 rfl (by first | rfl | decide | assumption) ?_
      cases hb : hang D (cs S) with
      | true => exact absurd (heq.mpr hb) b16
      | false => exact ⟨rfl, rfl⟩
    · refine V_iconst (v := 1) d_Court_hangs_19 (by decide) ?_
      refine V_goto (tgt := 24) d_Court_hangs_20 (by decide) ?_
      refine V_zret d_Court_hangs_24 rfl (by first | rfl | decide | assumption) ?_
      rw [heq.mp b16]
      exact ⟨rfl, rfl⟩
