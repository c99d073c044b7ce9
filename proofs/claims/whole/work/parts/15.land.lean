/-! the land's and the law's data, and their cells -/
abbrev LD : Type := (Nat × Nat) × ((Nat → Int32) × (Nat → Int32) × (Nat → Int32) × (Nat → Int32) × (Nat → Nat)) × ((Nat → Nat) × (Nat → Nat) × (Nat → Int32))
def dN (D : LD) : Nat := D.1.1
def dB (D : LD) : Nat := D.1.2
def dPe (D : LD) : Nat → Int32 := D.2.1.1
def dZe (D : LD) : Nat → Int32 := D.2.1.2.1
def dOn (D : LD) : Nat → Int32 := D.2.1.2.2.1
def dAr (D : LD) : Nat → Int32 := D.2.1.2.2.2.1
def dTw (D : LD) : Nat → Nat := D.2.1.2.2.2.2
def dFr (D : LD) : Nat → Nat := D.2.2.1
def dTo (D : LD) : Nat → Nat := D.2.2.2.1
def dLn (D : LD) : Nat → Int32 := D.2.2.2.2
def nbB (fr to : Nat → Nat) : Nat → Nat → Nat → Bool
  | 0, _, _ => false
  | b + 1, i, j => nbB fr to b i j || (decide (fr b = i) && decide (to b = j)) || (decide (fr b = j) && decide (to b = i))
def dNb (D : LD) : Nat → Nat → Bool := nbB (dFr D) (dTo D) (dB D)
/-- a number from 0 to m -/
def upTo (m : Nat) (x : Int32) : Prop := ∃ q, q ≤ m ∧ x = nI q
def okLD (D : LD) : Prop := dN D ≤ 30 ∧ dB D ≤ 100 ∧ (∀ p, p < dN D → upTo 1000 (dPe D p) ∧ upTo 1000 (dZe D p) ∧ upTo 1000 (dOn D p) ∧ upTo 100 (dAr D p) ∧ dTw D p < 10) ∧ (∀ b, b < dB D → dFr D b < dN D ∧ dTo D b < dN D ∧ dFr D b ≠ dTo D b ∧ upTo 100 (dLn D b)) ∧ ∀ b c, b < c → c < dB D → ¬ ((dFr D b = dFr D c ∧ dTo D b = dTo D c) ∨ (dFr D b = dTo D c ∧ dTo D b = dFr D c))
def inN (D : LD) : Nat → Bool := fun j => decide (j < dN D)
def LandW (h : Hp) (D : LD) : Prop := h 1 0 = nI (dN D) ∧ h 1 1 = nI (dB D) ∧ h 1 2 = smP (dPe D) (fun _ => true) (dN D) ∧
  (∀ p, p < dN D → h 2 p = dPe D p ∧ h 3 p = dZe D p ∧ h 4 p = dOn D p ∧ h 5 p = dAr D p) ∧
  (∀ b, b < dB D → h 8 b = nI (dFr D b) ∧ h 9 b = nI (dTo D b) ∧ h 10 b = dLn D b) ∧
  (∀ i, i < 30 → h 6 i = cI (dNb D i)) ∧ (∀ t, t < 10 → h 7 t = cI (fun j => decide (j < dN D) && decide (dTw D j = t)))
theorem LandW.of {h h' : Hp} {D : LD} (hl : LandW h D) (e : ∀ q, 1 ≤ q → q ≤ 10 → h' q = h q) : LandW h' D := by
  unfold LandW
  rw [e 1 (by omega) (by omega), e 2 (by omega) (by omega), e 3 (by omega) (by omega), e 4 (by omega) (by omega), e 5 (by omega) (by omega), e 8 (by omega) (by omega), e 9 (by omega) (by omega), e 10 (by omega) (by omega), e 6 (by omega) (by omega), e 7 (by omega) (by omega)]
  exact hl
abbrev LW : Type := (Nat × Nat × Nat) × (Nat → Bool) × (Nat → Option Nat)
def wK (w : LW) : Nat := w.1.1
def wT (w : LW) : Nat := w.1.2.1
def wC (w : LW) : Nat := w.1.2.2
def wKp (w : LW) : Nat → Bool := w.2.1
def wFx (w : LW) : Nat → Option Nat := w.2.2
def fxI : Option Nat → Int32
  | none => -1
  | some d => nI d
def okLW (w : LW) : Prop := 1 ≤ wK w ∧ wK w ≤ 6 ∧ wT w ≤ 1000 ∧ wC w ≤ 10 ∧ ∀ p d, wFx w p = some d → d < wK w
def LawW (h : Hp) (w : LW) : Prop := h 11 0 = nI (wK w) ∧ h 11 1 = nI (wT w) ∧ h 11 2 = nI (wC w) ∧ (∀ t, t < 10 → h 12 t = if wKp w t then 1 else 0) ∧ ∀ p, p < 30 → h 13 p = fxI (wFx w p)
theorem LawW.of {h h' : Hp} {w : LW} (hl : LawW h w) (e : ∀ q, 11 ≤ q → q ≤ 13 → h' q = h q) : LawW h' w := by
  unfold LawW
  rw [e 11 (by omega) (by omega), e 12 (by omega) (by omega), e 13 (by omega) (by omega)]
  exact hl
theorem b2i {b : Bool} : ((if b then (1 : Int32) else 0) = 0) ↔ b = false := by cases b <;> decide
theorem sub1_nI {n : Nat} (hn : n ≤ 30) (x : Int32) : (0 ≤ x ∧ x ≤ nI n - 1) ↔ ∃ j, j < n ∧ x = nI j := by
  rcases Nat.eq_zero_or_pos n with h0 | h0
  · subst h0
    constructor
    · rintro ⟨h1, h2⟩
      exfalso
      have h3 : (nI 0 - 1 : Int32) = -1 := by decide
      rw [h3] at h2
      rw [fa_le] at h1 h2
      have e1 : (0 : Int32).toInt = 0 := by decide
      have e2 : (-1 : Int32).toInt = -1 := by decide
      omega
    · rintro ⟨j, hj, -⟩
      omega
  · have e : nI n - 1 = nI (n - 1) := by
      have := nI_pred (n - 1)
      rw [show n - 1 + 1 = n by omega] at this
      exact this
    rw [e]
    constructor
    · rintro ⟨h1, h2⟩
      obtain ⟨j, hj, rfl⟩ := nI_of (x := x) (fun q => (fa_of_lt q).2.1 h1)
      exact ⟨j, by have := (nI_leI hj (by omega)).mp h2; omega, rfl⟩
    · rintro ⟨j, hj, rfl⟩
      exact ⟨nI_pos' (by omega), nI_le (by omega) (by omega)⟩
noncomputable def isPl (n : Nat) (x : Int32) : Bool := @decide (∃ j, j < n ∧ x = nI j) (Classical.propDecidable _)
theorem isPl_iff {n : Nat} {x : Int32} : isPl n x = true ↔ ∃ j, j < n ∧ x = nI j := by
  unfold isPl
  exact @decide_eq_true_iff _ (Classical.propDecidable _)
theorem c_hasPlace {E : Wd} {h : Hp} {D : LD} (hl : LandW h D) (ok : okLD D) (x : Int32) : Cd E 1 m_Land_hasPlace [.ref 1, .int x] h (some (.int (if isPl (dN D) x then 1 else 0))) h := by
  refine Cd_of ok_Land_hasPlace rfl (Nat.le_of_ble_eq_true rfl) (L := [some (.ref 1), some (.int x)]) rfl ?_
  refine V_iload_n d_Land_hasPlace_0 rfl ?_
  refine V_iconst (v := 0) d_Land_hasPlace_1 (by decide) ?_
  refine V_aload_n d_Land_hasPlace_2 rfl ?_
  refine V_getI d_Land_hasPlace_3 f_Land_39 rfl (by first | rfl | assumption) (by first | rfl | assumption) ?_
  refine V_iconst (v := 1) d_Land_hasPlace_6 (by decide) ?_
  refine V_isub d_Land_hasPlace_7 ?_
  rw [hl.1]
  refine V_callN1 d_Land_hasPlace_8 k_Land_43 rfl (c_isWithin h _ _ _) rfl (by first | decide | omega) rfl (Nat.le_of_ble_eq_true rfl) ?_
  refine V_zret d_Land_hasPlace_11 rfl (by split <;> rfl) ⟨?_, rfl⟩
  cases hb : isPl (dN D) x with
  | true => rw [if_pos ((sub1_nI ok.1 x).mpr (isPl_iff.mp hb))]; rfl
  | false =>
    rw [if_neg (fun q => ?_)]
    · rfl
    · rw [isPl_iff.mpr ((sub1_nI ok.1 x).mp q)] at hb; cases hb
theorem c_hasDistrict {E : Wd} {h : Hp} {w : LW} (hl : LawW h w) (ok : okLW w) (x : Int32) : Cd E 1 m_Law_hasDistrict [.ref 11, .int x] h (some (.int (if isPl (wK w) x then 1 else 0))) h := by
  refine Cd_of ok_Law_hasDistrict rfl (Nat.le_of_ble_eq_true rfl) (L := [some (.ref 11), some (.int x)]) rfl ?_
  refine V_iload_n d_Law_hasDistrict_0 rfl ?_
  refine V_iconst (v := 0) d_Law_hasDistrict_1 (by decide) ?_
  refine V_aload_n d_Law_hasDistrict_2 rfl ?_
  refine V_getI d_Law_hasDistrict_3 f_Law_9 rfl (by first | rfl | assumption) (by first | rfl | assumption) ?_
  refine V_iconst (v := 1) d_Law_hasDistrict_6 (by decide) ?_
  refine V_isub d_Law_hasDistrict_7 ?_
  rw [hl.1]
  refine V_callN1 d_Law_hasDistrict_8 k_Law_35 rfl (c_isWithin h _ _ _) rfl (by first | decide | omega) rfl (Nat.le_of_ble_eq_true rfl) ?_
  have h6 := ok.2.1
  refine V_zret d_Law_hasDistrict_11 rfl (by split <;> rfl) ⟨?_, rfl⟩
  cases hb : isPl (wK w) x with
  | true => rw [if_pos ((sub1_nI (by omega) x).mpr (isPl_iff.mp hb))]; rfl
  | false =>
    rw [if_neg (fun q => ?_)]
    · rfl
    · rw [isPl_iff.mpr ((sub1_nI (by omega) x).mp q)] at hb; cases hb
theorem c_everywhere {E : Wd} {h : Hp} {D : LD} (hl : LandW h D) (ok : okLD D) : Cd E 1 m_Land_everywhere [.ref 1] h (some (.int (cI (inN D)))) h := by
  refine Cd_of ok_Land_everywhere rfl (Nat.le_of_ble_eq_true rfl) (L := [some (.ref 1), none, none]) rfl ?_
  refine V_iconst (v := 0) d_Land_everywhere_0 (by decide) ?_
  refine V_istore_n d_Land_everywhere_1 (by decide) ?_
  dsimp only [List.set]
  refine V_iconst (v := 0) d_Land_everywhere_2 (by decide) ?_
  refine V_istore_n d_Land_everywhere_3 (by decide) ?_
  dsimp only [List.set]
  have hn := ok.1
  have loop : ∀ i, i ≤ dN D → V E 1 m_Land_everywhere (fun v' h' => v' = some (.int (cI (inN D))) ∧ h' = h) 4 [some (.ref 1), some (.int (cI (fun j => decide (j < i)))), some (.int (nI i))] [] h := by
    refine up_ind (dN D) ?_
    intro i hi ih
    refine V_iload_n d_Land_everywhere_4 rfl ?_
    refine V_aload_n d_Land_everywhere_5 rfl ?_
    refine V_getI d_Land_everywhere_6 f_Land_39 rfl (by first | rfl | assumption) (by first | rfl | assumption) ?_
    rw [hl.1]
    refine V_icmp_ge (tgt := 25) d_Land_everywhere_9 (by decide) (fun b9 => ?_) (fun b9 => ?_)
    · have hin : i = dN D := by
        have := (le_nI (dN D) i rfl rfl (by omega) (by omega)).mp b9
        omega
      subst hin
      refine V_iload_n d_Land_everywhere_25 rfl ?_
      refine V_iret d_Land_everywhere_26 rfl ?_
      exact ⟨rfl, rfl⟩
    · have hin : i < dN D := by
        rcases Nat.lt_or_ge i (dN D) with q | q
        · exact q
        · exact absurd ((le_nI (dN D) i rfl rfl (by omega) (by omega)).mpr q) b9
      refine V_iload_n d_Land_everywhere_12 rfl ?_
      refine V_iload_n d_Land_everywhere_13 rfl ?_
      refine V_callS1 d_Land_everywhere_14 k_Land_50 rfl (c_only h (show i < 30 by omega)) rfl (by first | decide | omega) rfl (Nat.le_of_ble_eq_true rfl) ?_
      refine V_ior d_Land_everywhere_17 ?_
      refine V_istore_n d_Land_everywhere_18 (by decide) ?_
      dsimp only [List.set]
      refine V_iincw (w := 1) d_Land_everywhere_19 rfl (by decide) (by decide) ?_
      dsimp only [List.set]
      refine V_goto (tgt := 4) d_Land_everywhere_22 (by decide) ?_
      have e : cI (fun j => decide (j < i)) ||| onl i = cI (fun j => decide (j < i + 1)) := by
        refine cI_eq (hi_or (cI_hi _) (onl_hi (by omega))) (fun j hj => ?_)
        rw [cs_or, cI_cs _ hj, cs_onl (by omega) hj]
        by_cases h1 : j < i
        · simp [h1]; omega
        · by_cases h2 : j = i
          · simp [h2]
          · simp [h1, h2]; omega
      rw [e, nI_1]
      exact ih hin
  have h0 := loop 0 (Nat.zero_le _)
  rw [show cI (fun j => decide (j < 0)) = 0 by decide +kernel] at h0
  exact h0
theorem zin100 {D : LD} (ok : okLD D) {b : Nat} (hb : b < dB D) : vp_in (nI b) 100 := vp_in_nI (by have := ok.2.1; omega) (by omega)
theorem zin30 {D : LD} (ok : okLD D) {p : Nat} (hp : p < dN D) : vp_in (nI p) 30 := vp_in_nI (by have := ok.1; omega) (by omega)
theorem c_isInside {E : Wd} {h : Hp} {D : LD} (hl : LandW h D) (ok : okLD D) {b : Nat} (hb : b < dB D) (S : Int32) : Cd E 1 m_Land_isInside [.ref 1, .int (nI b), .int S] h (some (.int (if cs S (dFr D b) && cs S (dTo D b) then 1 else 0))) h := by
  have hin := zin100 ok hb
  have hbb := ok.2.2.2.1 b hb
  have hrow := hl.2.2.2.2.1 b hb
  have hn := ok.1
  have hb100 := ok.2.1
  refine Cd_of ok_Land_isInside rfl (Nat.le_of_ble_eq_true rfl) (L := [some (.ref 1), some (.int (nI b)), some (.int S)]) rfl ?_
  refine V_iload_n d_Land_isInside_0 rfl ?_
  refine V_aload_n d_Land_isInside_1 rfl ?_
  refine V_getR d_Land_isInside_2 f_Land_30 rfl (by first | rfl | assumption) (by first | rfl | assumption) ?_
  refine V_iload_n d_Land_isInside_5 rfl ?_
  refine V_iald d_Land_isInside_6 (by first | rfl | assumption) (by first | assumption | exact vp_in_nI (by omega) (by omega)) ?_
  rw [nI_clamp (by omega), hrow.1]
  refine V_callS1 d_Land_isInside_7 k_Land_59 rfl (c_has h S (show dFr D b < 30 by omega)) rfl (by first | decide | omega) rfl (Nat.le_of_ble_eq_true rfl) ?_
  refine V_if_eq (tgt := 30) d_Land_isInside_10 (by decide) (fun b10 => ?_) (fun b10 => ?_)
  · refine V_iconst (v := 0) d_Land_isInside_30 (by decide) ?_
    refine V_zret d_Land_isInside_31 rfl (by first | rfl | decide | assumption) ?_
    rw [b2i] at b10
    exact ⟨by unfold cs; rw [b10]; rfl, rfl⟩
  · refine V_iload_n d_Land_isInside_13 rfl ?_
    refine V_aload_n d_Land_isInside_14 rfl ?_
    refine V_getR d_Land_isInside_15 f_Land_33 rfl (by first | rfl | assumption) (by first | rfl | assumption) ?_
    refine V_iload_n d_Land_isInside_18 rfl ?_
    refine V_iald d_Land_isInside_19 (by first | rfl | assumption) (by first | assumption | exact vp_in_nI (by omega) (by omega)) ?_
    rw [nI_clamp (by omega), hrow.2.1]
    refine V_callS1 d_Land_isInside_20 k_Land_59 rfl (c_has h S (show dTo D b < 30 by omega)) rfl (by first | decide | omega) rfl (Nat.le_of_ble_eq_true rfl) ?_
    rw [b2i] at b10
    refine V_if_eq (tgt := 30) d_Land_isInside_23 (by decide) (fun b23 => ?_) (fun b23 => ?_)
    · rw [b2i] at b23
      refine V_iconst (v := 0) d_Land_isInside_30 (by decide) ?_
      refine V_zret d_Land_isInside_31 rfl (by first | rfl | decide | assumption) ?_
      exact ⟨by unfold cs; rw [b23, Bool.and_false]; rfl, rfl⟩
    · rw [b2i] at b23
      refine V_iconst (v := 1) d_Land_isInside_26 (by decide) ?_
      refine V_goto (tgt := 31) d_Land_isInside_27 (by decide) ?_
      refine V_zret d_Land_isInside_31 rfl (by first | rfl | decide | assumption) ?_
      exact ⟨by unfold cs; simp at b10 b23; rw [b10, b23]; rfl, rfl⟩
