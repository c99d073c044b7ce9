/-! ways(), waysAhead(), waysWith() -/
def tF (h h' : Hp) : Prop := ∃ f, h' = hrow h 24 f
theorem tF.rf (h : Hp) : tF h h := ⟨h 24, (hrow_self h _).symm⟩
theorem tF.tr {h h' h2 : Hp} (a : tF h h') (b : tF h' h2) : tF h h2 := by
  obtain ⟨f, rfl⟩ := a
  obtain ⟨g, rfl⟩ := b
  exact ⟨g, hrow_twice _ _ _ _⟩
theorem tF.ne {h h' : Hp} (a : tF h h') {q : Nat} (hq : q ≠ 24) : h' q = h q := by
  obtain ⟨f, rfl⟩ := a
  exact hrow_ne hq
def bkS (h : Hp) (D : LD) (w : LW) : Prop := LandW h D ∧ okLD D ∧ h 11 0 = nI (wK w) ∧ okLW w ∧ bkF h D w
theorem bkS.tf {h h' : Hp} {D : LD} {w : LW} (hb : bkS h D w) (a : tF h h') (ht : tldW h' D w) : bkS h' D w := by
  obtain ⟨h1, h2, h3, h4, h5, h6, h7, h8, h9, h10⟩ := hb
  refine ⟨h1.of (fun q _ _ => a.ne (by omega)), h2, by rw [a.ne (by omega)]; exact h3, h4, h5, by rw [a.ne (by omega)]; exact h6, by rw [a.ne (by omega)]; exact h7, by rw [a.ne (by omega)]; exact h8, fun x hx => by rw [a.ne (by omega)]; exact h9 x hx, ht⟩
noncomputable def wyN (D : LD) (w : LW) (l : Nat) (R : Int32) (b : Nat) (S : Int32) : Nat := if 2 ≤ l ∧ goS D w S b = true then (sq D w (l - 1) (dif R S) (b - prN D w S)).length else 0
noncomputable def ahN (D : LD) (w : LW) (l : Nat) (R : Int32) (b i : Nat) : Nat := (((subs (dN D) R).take i).map (wyN D w l R b)).sum
theorem ah_0 (D : LD) (w : LW) (l : Nat) (R : Int32) (b : Nat) : ahN D w l R b 0 = 0 := by unfold ahN; rw [List.take_zero]; rfl
theorem ah_succ {D : LD} {w : LW} {l : Nat} {R : Int32} {b i : Nat} {S : Int32} (h : (subs (dN D) R)[i]? = some S) : ahN D w l R b (i + 1) = ahN D w l R b i + wyN D w l R b S := by
  unfold ahN
  rw [List.take_succ, h]
  simp
theorem ah_len {D : LD} {w : LW} {l : Nat} {R : Int32} {b : Nat} : ahN D w (l + 2) R b (subs (dN D) R).length = (sq D w (l + 2) R b).length := by
  unfold ahN
  have e : (fun S => (if goS D w S b = true then (sq D w (l + 1) (dif R S) (b - prN D w S)).map (fun t => S :: t) else []).length) = wyN D w (l + 2) R b := by
    funext S
    unfold wyN
    by_cases h : goS D w S b = true
    · rw [if_pos h, if_pos (c := 2 ≤ l + 2 ∧ goS D w S b = true) ⟨by omega, h⟩, List.length_map, show l + 2 - 1 = l + 1 by omega]
    · rw [if_neg h, if_neg (c := 2 ≤ l + 2 ∧ goS D w S b = true) (fun z => h z.2), List.length_nil]
  rw [List.take_length, sq, flat_len, e]
theorem ah_le {D : LD} {w : LW} {l : Nat} {R : Int32} {b i : Nat} : ahN D w l R b i ≤ ahN D w l R b (subs (dN D) R).length := by
  unfold ahN
  rw [List.take_length]
  have : ∀ (L : List Int32) (i : Nat), ((L.take i).map (wyN D w l R b)).sum ≤ (L.map (wyN D w l R b)).sum := by
    intro L
    induction L with
    | nil => intro i; simp
    | cons x L ih =>
      intro i
      cases i with
      | zero => simp
      | succ i =>
        rw [List.take_succ_cons, List.map_cons, List.map_cons, List.sum_cons, List.sum_cons]
        have := ih i
        omega
  exact this _ i
theorem ah_1 {D : LD} {w : LW} {R : Int32} {b i : Nat} : ahN D w 1 R b i = 0 := by
  unfold ahN
  have : ∀ L : List Int32, (L.map (wyN D w 1 R b)).sum = 0 := by
    intro L
    induction L with
    | nil => rfl
    | cons x L ih =>
      rw [List.map_cons, List.sum_cons, ih]
      unfold wyN
      rw [if_neg (fun z => by omega)]
  exact this _
theorem ah_bd {D : LD} {w : LW} (h12 : dN D ≤ 12) {l : Nat} (hl1 : 1 ≤ l) (hl : l ≤ 6) {R : Int32} (hR : inS (dN D) R) (b i : Nat) : ahN D w l R b i ≤ 1400000 := by
  rcases (show l = 1 ∨ ∃ k, l = k + 2 from by
    rcases Nat.lt_or_ge 1 l with z | z
    · exact Or.inr ⟨l - 2, by omega⟩
    · exact Or.inl (by omega)) with rfl | ⟨k, rfl⟩
  · rw [ah_1]; exact Nat.zero_le _
  · have h1 := ah_le (D := D) (w := w) (l := k + 2) (R := R) (b := b) (i := i)
    rw [ah_len] at h1
    have := sq_le (w := w) h12 hl hR b
    omega
theorem prN_le (D : LD) (w : LW) (S : Int32) : prN D w S ≤ 10 := by
  unfold prN
  split
  · exact fa_cnt_le _ 10
  · exact Nat.zero_le _
theorem prI_m1 {D : LD} {w : LW} {S : Int32} : prI D w S = -1 ↔ mayB D w (cs S) = false := by
  unfold prI
  have hp := prN_le D w S
  cases hm : mayB D w (cs S) with
  | false => exact ⟨fun _ => rfl, fun _ => rfl⟩
  | true =>
    constructor
    · intro z
      rw [if_pos rfl] at z
      have h1 : 0 ≤ (nI (prN D w S) : Int32) := nI_pos' (by omega)
      rw [z] at h1
      exact absurd h1 (by decide)
    · intro z; cases z
theorem prc_at {h : Hp} {D : LD} {w : LW} (h12 : dN D ≤ 12) (hp : prcW h D w) {S : Int32} (hS : inS (dN D) S) : h 23 (slN (dN D) S) = prI D w S := by
  obtain ⟨h1, h2⟩ := slN_lt (by omega) hS
  have := hp _ h1
  rw [← h2] at this
  exact this
theorem okT_next {D : LD} {w : LW} (hN : dN D ≤ 30) {l b : Nat} {R S : Int32} (h : okT D w (l + 2) R b) (hS : S ∈ subs (dN D) R) : okT D w (l + 1) (dif R S) (b - prN D w S) := by
  obtain ⟨h1, h2, h3, h4, h5⟩ := h
  refine ⟨by omega, by omega, h3.dif, fun p hp hp30 => ?_, by omega⟩
  have hR0 : R ≠ 0 := by
    intro z
    rw [z, subs_0] at hS
    cases hS
  obtain ⟨a, ha⟩ := cs_ne0 h3.1 hR0
  obtain ⟨a1, a2, a3⟩ := fstO_lt ha
  have hS1 := (subs_mem hN h3 ha S).mp hS
  rw [dif_cs]
  cases hb : cs R p with
  | false => rfl
  | true =>
    have : p = a := by
      rcases Nat.lt_trichotomy p a with z | z | z
      · rw [a3 p z] at hb; cases hb
      · exact z
      · rw [h4 a (by omega) a1] at a2; cases a2
    rw [this, hS1.2.1]
    rfl
def WaysC (E : Wd) (D : LD) (w : LW) (l : Nat) : Prop := ∀ {h : Hp} {R : Int32} {b : Nat}, bkS h D w → okT D w l R b → (l = 1 ∨ l < wK w) → Cq E (3 * l + 1) m_ClassBook_ways [.ref 20, .int (nI l), .int R, .int (nI b)] h (fun v h' => v = some (.int (nI (sq D w l R b).length)) ∧ tF h h' ∧ bkS h' D w)
def WithC (E : Wd) (D : LD) (w : LW) (l : Nat) : Prop := ∀ {h : Hp} {R : Int32} {b : Nat} {S : Int32}, bkS h D w → okT D w l R b → S ∈ subs (dN D) R → Cq E (3 * l - 1) m_ClassBook_waysWith [.ref 20, .int (nI l), .int R, .int (nI b), .int S] h (fun v h' => v = some (.int (nI (wyN D w l R b S))) ∧ tF h h' ∧ bkS h' D w)
def AheadC (E : Wd) (D : LD) (w : LW) (l : Nat) : Prop := ∀ {h : Hp} {R : Int32} {b : Nat} {e : Int32} {i0 : Nat}, bkS h D w → okT D w l R b → i0 ≤ (subs (dN D) R).length → (∀ i, i < i0 → (subs (dN D) R)[i]? ≠ some e) → (i0 < (subs (dN D) R).length → (subs (dN D) R)[i0]? = some e) → Cq E (3 * l) m_ClassBook_waysAhead [.ref 20, .int (nI l), .int R, .int (nI b), .int e] h (fun v h' => v = some (.int (nI (ahN D w l R b i0))) ∧ tF h h' ∧ bkS h' D w)
theorem subs_in {n : Nat} (hn : n ≤ 30) {R S : Int32} (hR : inS n R) (hS : S ∈ subs n R) : inS n S := by
  have hR0 : R ≠ 0 := by
    intro z
    rw [z, subs_0] at hS
    cases hS
  obtain ⟨a, ha⟩ := cs_ne0 hR.1 hR0
  have hS1 := (subs_mem hn hR ha S).mp hS
  exact ⟨hS1.1, fun j hj hb => hR.2 j hj (hS1.2.2 j hj hb)⟩
theorem c_waysWith {E : Wd} {D : LD} {w : LW} {l : Nat} (hl1 : 1 ≤ l) (hW : 2 ≤ l → WaysC E D w (l - 1)) : WithC E D w l := by
  intro h R b S hb hT hS
  obtain ⟨g1, g2, g3, g4, ⟨g5, g5'⟩, g6, g7, g8, g9, g10⟩ := id hb
  have hk6 := g4.2.1
  have hSi := subs_in (by omega) hT.2.2.1 hS
  have hsl := slN_lt (by omega) hSi
  have h12 : 2 ^ dN D ≤ 2 ^ 12 := Nat.pow_le_pow_right (by omega) g5'
  have h12' : (2 : Nat) ^ 12 = 4096 := by decide
  have hin : vp_in (nI (slN (dN D) S)) 4096 := vp_in_nI (by omega) (by omega)
  have hpr := prN_le D w S
  have hbd := hT.2.2.2.2
  have hbl := bdg_le (w := w) g5'
  have hprc := prc_at g5' g9 hSi
  have no : ¬ (2 ≤ l ∧ goS D w S b = true) → V E (3 * l - 1) m_ClassBook_waysWith (fun v h' => v = some (.int (nI (wyN D w l R b S))) ∧ tF h h' ∧ bkS h' D w) 31 [some (.ref 20), some (.int (nI l)), some (.int R), some (.int (nI b)), some (.int S), some (.int (prI D w S))] [] h := by
    intro hn
    refine V_iconst (v := 0) d_ClassBook_waysWith_31 (by decide) ?_
    refine V_iret d_ClassBook_waysWith_32 rfl ?_
    exact ⟨by unfold wyN; rw [if_neg hn]; rfl, tF.rf h, hb⟩
  have hTl := hT.2.1
  refine Cq_of2 ok_ClassBook_waysWith rfl (Nat.le_of_ble_eq_true rfl) (L := [some (.ref 20), some (.int (nI l)), some (.int R), some (.int (nI b)), some (.int S), none]) rfl ?_
  refine V_aload_n d_ClassBook_waysWith_0 rfl ?_
  refine V_getR d_ClassBook_waysWith_1 f_ClassBook_34 rfl (by first | rfl | assumption) (by first | rfl | assumption) ?_
  refine V_iload d_ClassBook_waysWith_4 rfl ?_
  refine V_aload_n d_ClassBook_waysWith_6 rfl ?_
  refine V_getI d_ClassBook_waysWith_7 f_ClassBook_57 rfl (by first | rfl | assumption) (by first | rfl | assumption) ?_
  rw [g7]
  refine V_iushr d_ClassBook_waysWith_10 rfl ?_
  rw [ush_slot (by omega) hSi]
  refine V_iald d_ClassBook_waysWith_11 (by first | rfl | assumption) (by first | assumption | exact vp_in_nI (by omega) (by omega)) ?_
  rw [nI_clamp (by omega), hprc]
  refine V_istore d_ClassBook_waysWith_12 (by decide) ?_
  dsimp only [List.set]
  refine V_iload_n d_ClassBook_waysWith_14 rfl ?_
  refine V_iconst (v := 1) d_ClassBook_waysWith_15 (by decide) ?_
  refine V_icmp_le (tgt := 31) d_ClassBook_waysWith_16 (by decide) (fun b16 => ?_) (fun b16 => ?_)
  · have := (le_nI l 1 rfl rfl (by omega) (by decide)).mp b16
    exact no (fun z => by omega)
  · have hl2 : 2 ≤ l := by
      rcases Nat.lt_or_ge 1 l with z | z
      · omega
      · exact absurd ((le_nI l 1 rfl rfl (by omega) (by decide)).mpr z) b16
    refine V_iload d_ClassBook_waysWith_19 rfl ?_
    refine V_iconst (v := -1) d_ClassBook_waysWith_21 (by decide) ?_
    refine V_icmp_eq (tgt := 31) d_ClassBook_waysWith_22 (by decide) (fun b22 => ?_) (fun b22 => ?_)
    · refine no (fun z => ?_)
      have h2 := z.2
      unfold goS at h2
      rw [prI_m1.mp b22] at h2
      cases h2
    · have hm : mayB D w (cs S) = true := by
        cases hh : mayB D w (cs S) with
        | true => rfl
        | false => exact absurd (prI_m1.mpr hh) b22
      have hpe : prI D w S = nI (prN D w S) := by unfold prI; rw [if_pos hm]
      rw [hpe] at no ⊢
      refine V_iload d_ClassBook_waysWith_25 rfl ?_
      refine V_iload_n d_ClassBook_waysWith_27 rfl ?_
      refine V_icmp_le (tgt := 33) d_ClassBook_waysWith_28 (by decide) (fun b28 => ?_) (fun b28 => ?_)
      · have hle := (nI_leI (by omega) (by omega)).mp b28
        have hg : goS D w S b = true := by unfold goS; rw [hm, decide_eq_true hle]; rfl
        obtain ⟨k, rfl⟩ : ∃ k, l = k + 2 := ⟨l - 2, by omega⟩
        have hTn := okT_next (by omega) hT hS
        refine V_aload_n d_ClassBook_waysWith_33 rfl ?_
        refine V_iload_n d_ClassBook_waysWith_34 rfl ?_
        refine V_iconst (v := 1) d_ClassBook_waysWith_35 (by decide) ?_
        refine V_isub d_ClassBook_waysWith_36 ?_
        refine V_iload_n d_ClassBook_waysWith_37 rfl ?_
        refine V_iload d_ClassBook_waysWith_38 rfl ?_
        refine V_iconst (v := -1) d_ClassBook_waysWith_40 (by decide) ?_
        refine V_ixor d_ClassBook_waysWith_41 ?_
        refine V_iand d_ClassBook_waysWith_42 ?_
        refine V_iload_n d_ClassBook_waysWith_43 rfl ?_
        refine V_iload d_ClassBook_waysWith_44 rfl ?_
        refine V_isub d_ClassBook_waysWith_46 ?_
        rw [show nI (k + 2) - 1 = nI (k + 1) from nI_pred (k + 1), pk_sub hle]
        show V E _ m_ClassBook_waysWith _ 47 _ (.int (nI (b - prN D w S)) :: .int (dif R S) :: _) _
        refine V_callV d_ClassBook_waysWith_47 k_ClassBook_85 rfl (hW hl2 hb hTn (by omega)) (by first | rfl | assumption) rfl rfl (by first | decide | omega) rfl (Nat.le_of_ble_eq_true rfl) (fun v_ h_ q_ => ?_)
        obtain ⟨rfl, q1, q2⟩ := q_
        show V E _ m_ClassBook_waysWith _ 50 _ [.int (nI (sq D w (k + 1) (dif R S) (b - prN D w S)).length)] _
        refine V_iret d_ClassBook_waysWith_50 rfl ?_
        exact ⟨by unfold wyN; rw [if_pos ⟨hl2, hg⟩]; rfl, q1, q2⟩
      · refine no (fun z => ?_)
        have h2 := z.2
        unfold goS at h2
        rw [hm, Bool.true_and, decide_eq_true_eq] at h2
        exact absurd ((nI_leI (by omega) (by omega)).mpr h2) b28
theorem c_waysAhead {E : Wd} {D : LD} {w : LW} {l : Nat} (hl1 : 1 ≤ l) (hl6 : l ≤ 6) (hW : WithC E D w l) : AheadC E D w l := by
  intro h R b e i0 hb hT hi0 hno hat
  obtain ⟨g1, g2, g3, g4, ⟨g5, g5'⟩, g6, g7, g8, g9, g10⟩ := id hb
  have hR := hT.2.2.1
  have hlen := subs_len12 g5' hR
  refine Cq_of2 ok_ClassBook_waysAhead rfl (Nat.le_of_ble_eq_true rfl) (L := [some (.ref 20), some (.int (nI l)), some (.int R), some (.int (nI b)), some (.int e), none, none, none, none]) rfl ?_
  refine V_iconst (v := 0) d_ClassBook_waysAhead_0 (by decide) ?_
  refine V_istore d_ClassBook_waysAhead_1 (by decide) ?_
  dsimp only [List.set]
  refine V_iload_n d_ClassBook_waysAhead_3 rfl ?_
  refine V_istore d_ClassBook_waysAhead_4 (by decide) ?_
  dsimp only [List.set]
  refine V_iload_n d_ClassBook_waysAhead_6 rfl ?_
  refine V_callS1 d_ClassBook_waysAhead_7 k_ClassBook_158 rfl (c_choices h g5' hR) rfl (by first | decide | omega) rfl (Nat.le_of_ble_eq_true rfl) ?_
  refine V_istore d_ClassBook_waysAhead_10 (by decide) ?_
  dsimp only [List.set]
  refine V_iconst (v := 0) d_ClassBook_waysAhead_12 (by decide) ?_
  refine V_istore d_ClassBook_waysAhead_13 (by decide) ?_
  dsimp only [List.set]
  have loop : ∀ i, i ≤ i0 → ∀ (H : Hp) (S : Int32), tF h H → bkS H D w → (i < (subs (dN D) R).length → (subs (dN D) R)[i]? = some S) → V E (3 * l) m_ClassBook_waysAhead (fun v h' => v = some (.int (nI (ahN D w l R b i0))) ∧ tF h h' ∧ bkS h' D w) 15 [some (.ref 20), some (.int (nI l)), some (.int R), some (.int (nI b)), some (.int e), some (.int (nI (ahN D w l R b i))), some (.int S), some (.int (nI (subs (dN D) R).length)), some (.int (nI i))] [] H := by
    refine up_ind i0 ?_
    intro i hi ih H S fr hbH hS
    have fin : i = i0 → V E (3 * l) m_ClassBook_waysAhead (fun v h' => v = some (.int (nI (ahN D w l R b i0))) ∧ tF h h' ∧ bkS h' D w) 57 [some (.ref 20), some (.int (nI l)), some (.int R), some (.int (nI b)), some (.int e), some (.int (nI (ahN D w l R b i))), some (.int S), some (.int (nI (subs (dN D) R).length)), some (.int (nI i))] [] H := by
      intro hii
      refine V_iload d_ClassBook_waysAhead_57 rfl ?_
      refine V_iret d_ClassBook_waysAhead_59 rfl ?_
      exact ⟨by rw [hii], fr, hbH⟩
    refine V_iload d_ClassBook_waysAhead_15 rfl ?_
    refine V_iload d_ClassBook_waysAhead_17 rfl ?_
    refine V_icmp_ge (tgt := 57) d_ClassBook_waysAhead_19 (by decide) (fun b19 => ?_) (fun b19 => ?_)
    · have := (le_nI (subs (dN D) R).length i rfl rfl (by omega) (by omega)).mp b19
      exact fin (by omega)
    · have hil : i < (subs (dN D) R).length := by
        rcases Nat.lt_or_ge i (subs (dN D) R).length with z | z
        · exact z
        · exact absurd ((le_nI (subs (dN D) R).length i rfl rfl (by omega) (by omega)).mpr z) b19
      have hSi := hS hil
      refine V_iload d_ClassBook_waysAhead_22 rfl ?_
      refine V_iload d_ClassBook_waysAhead_24 rfl ?_
      refine V_icmp_eq (tgt := 57) d_ClassBook_waysAhead_26 (by decide) (fun b26 => ?_) (fun b26 => ?_)
      · refine fin ?_
        rcases Nat.lt_or_ge i i0 with z | z
        · exact absurd (by rw [hSi, b26]) (hno i z)
        · omega
      · have hlt : i < i0 := by
          rcases Nat.lt_or_ge i i0 with z | z
          · exact z
          · have hii : i = i0 := by omega
            have h1 := hat (by omega)
            rw [← hii, hSi] at h1
            exact absurd (Option.some.inj h1) b26
        have ih := ih hlt
        have hmem := List.mem_of_getElem? hSi
        have hab := ah_bd (w := w) g5' hl1 hl6 hR b (i + 1)
        rw [ah_succ hSi] at hab ih
        refine V_iload d_ClassBook_waysAhead_29 rfl ?_
        refine V_aload_n d_ClassBook_waysAhead_31 rfl ?_
        refine V_iload_n d_ClassBook_waysAhead_32 rfl ?_
        refine V_iload_n d_ClassBook_waysAhead_33 rfl ?_
        refine V_iload_n d_ClassBook_waysAhead_34 rfl ?_
        refine V_iload d_ClassBook_waysAhead_35 rfl ?_
        refine V_callV d_ClassBook_waysAhead_37 k_ClassBook_161 rfl (hW hbH hT hmem) (by first | rfl | assumption) rfl rfl (by first | decide | omega) rfl (Nat.le_of_ble_eq_true rfl) (fun v_ h_ q_ => ?_)
        obtain ⟨rfl, q1, q2⟩ := q_
        show V E _ m_ClassBook_waysAhead _ 40 _ [.int (nI (wyN D w l R b S)), .int (nI (ahN D w l R b i))] _
        refine V_iadd d_ClassBook_waysAhead_40 ?_
        refine V_istore d_ClassBook_waysAhead_41 (by decide) ?_
        dsimp only [List.set]
        refine V_iload d_ClassBook_waysAhead_43 rfl ?_
        refine V_iload_n d_ClassBook_waysAhead_45 rfl ?_
        rw [nI_add]
        refine V_callS1 d_ClassBook_waysAhead_46 k_ClassBook_164 rfl (c_following _ S R) rfl (by first | decide | omega) rfl (Nat.le_of_ble_eq_true rfl) ?_
        refine V_istore d_ClassBook_waysAhead_49 (by decide) ?_
        dsimp only [List.set]
        refine V_iincw (w := 1) d_ClassBook_waysAhead_51 rfl (by decide) (by decide) ?_
        dsimp only [List.set]
        refine V_goto (tgt := 15) d_ClassBook_waysAhead_54 (by decide) ?_
        rw [nI_1]
        refine ih _ _ (fr.tr q1) q2 (fun hi1 => ?_)
        obtain ⟨T, a, hT1, ha, -⟩ := subs_get (by omega) hR hi1
        rw [hT1, subs_chain (by omega) hR ha i S T hSi hT1]
  have h0 := loop 0 (Nat.zero_le _) h R (tF.rf h) hb (fun h1 => by
    obtain ⟨T, a, hT1, ha, -⟩ := subs_get (by omega) hR h1
    exact subs_head (by omega) hR ha)
  rw [ah_0] at h0
  exact h0
theorem c_slotOf {E : Wd} {h : Hp} {D : LD} {w : LW} (hb : bkS h D w) {l : Nat} {R : Int32} {b : Nat} (hT : okT D w l R b) (h0 : R ≠ 0) (hl : l < wK w) : Cd E 0 m_ClassBook_slotOf [.ref 20, .int (nI l), .int R, .int (nI b)] h (some (.int (nI (tSl (dN D) (wK w) l R b)))) h := by
  obtain ⟨g1, g2, g3, g4, ⟨g5, g5'⟩, g6, g7, g8, g9, g10⟩ := id hb
  have hk6 := g4.2.1
  have hlt := okT_lt (by omega) hT h0
  have hbd := hT.2.2.2.2
  have hbl := bdg_le (w := w) g5'
  refine Cd_of ok_ClassBook_slotOf rfl (Nat.le_of_ble_eq_true rfl) (L := [some (.ref 20), some (.int (nI l)), some (.int R), some (.int (nI b)), none]) rfl ?_
  refine V_iconst (v := 1) d_ClassBook_slotOf_0 (by decide) ?_
  refine V_aload_n d_ClassBook_slotOf_1 rfl ?_
  refine V_getR d_ClassBook_slotOf_2 f_ClassBook_11 rfl (by first | rfl | assumption) (by first | rfl | assumption) ?_
  refine V_getI d_ClassBook_slotOf_5 f_ClassBook_54 rfl (by first | rfl | assumption) (by first | rfl | assumption) ?_
  refine V_aload_n d_ClassBook_slotOf_8 rfl ?_
  refine V_getR d_ClassBook_slotOf_9 f_ClassBook_15 rfl (by first | rfl | assumption) (by first | rfl | assumption) ?_
  refine V_getI d_ClassBook_slotOf_12 f_ClassBook_78 rfl (by first | rfl | assumption) (by first | rfl | assumption) ?_
  refine V_iload_n d_ClassBook_slotOf_15 rfl ?_
  refine V_isub d_ClassBook_slotOf_16 ?_
  refine V_isub d_ClassBook_slotOf_17 ?_
  rw [g1.1, g3, pk_sub (by omega), pk_sub (by omega)]
  refine V_ishl d_ClassBook_slotOf_18 ?_
  rw [show (1 : Int32) = nI 1 from rfl, shl_pow (by omega) (by omega), Nat.one_mul]
  refine V_istore d_ClassBook_slotOf_19 (by decide) ?_
  dsimp only [List.set]
  refine V_iload_n d_ClassBook_slotOf_21 rfl ?_
  refine V_iconst (v := 3) d_ClassBook_slotOf_22 (by decide) ?_
  refine V_idiv d_ClassBook_slotOf_23 (by decide) ?_
  rw [show (3 : Int32) = nI 3 from rfl, pk_div (by omega) (by omega) (by omega)]
  refine V_aload_n d_ClassBook_slotOf_24 rfl ?_
  refine V_getR d_ClassBook_slotOf_25 f_ClassBook_11 rfl (by first | rfl | assumption) (by first | rfl | assumption) ?_
  refine V_getI d_ClassBook_slotOf_28 f_ClassBook_54 rfl (by first | rfl | assumption) (by first | rfl | assumption) ?_
  rw [g1.1]
  refine V_ishl d_ClassBook_slotOf_31 ?_
  refine V_iload d_ClassBook_slotOf_32 rfl ?_
  refine V_iadd d_ClassBook_slotOf_34 ?_
  refine V_iload_n d_ClassBook_slotOf_35 rfl ?_
  refine V_aload_n d_ClassBook_slotOf_36 rfl ?_
  refine V_getI d_ClassBook_slotOf_37 f_ClassBook_57 rfl (by first | rfl | assumption) (by first | rfl | assumption) ?_
  rw [shl_pow (by omega) (by omega), nI_add, g7]
  refine V_iushr d_ClassBook_slotOf_40 rfl ?_
  refine V_iadd d_ClassBook_slotOf_41 ?_
  refine V_iret d_ClassBook_slotOf_42 rfl ?_
  rw [ush_slot (by omega) hT.2.2.1, nI_add]
  exact ⟨rfl, rfl⟩
theorem c_ways1 {E : Wd} {D : LD} {w : LW} : WaysC E D w 1 := by
  intro h R b hb hT _
  obtain ⟨g1, g2, g3, g4, ⟨g5, g5'⟩, g6, g7, g8, g9, g10⟩ := id hb
  have hR := hT.2.2.1
  have hsl := slN_lt (by omega) hR
  have h12 : 2 ^ dN D ≤ 2 ^ 12 := Nat.pow_le_pow_right (by omega) g5'
  have h12' : (2 : Nat) ^ 12 = 4096 := by decide
  have hin : vp_in (nI (slN (dN D) R)) 4096 := vp_in_nI (by omega) (by omega)
  have hpr := prN_le D w R
  have hbd := hT.2.2.2.2
  have hbl := bdg_le (w := w) g5'
  have hprc := prc_at g5' g9 hR
  have len : ∀ c : Bool, goS D w R b = c → (sq D w 1 R b).length = if c then 1 else 0 := by
    intro c hc
    rw [sq, hc]
    cases c <;> rfl
  refine Cq_of2 ok_ClassBook_ways rfl (Nat.le_of_ble_eq_true rfl) (L := [some (.ref 20), some (.int (nI 1)), some (.int R), some (.int (nI b)), none, none, none]) rfl ?_
  refine V_iload_n d_ClassBook_ways_0 rfl ?_
  refine V_iconst (v := 1) d_ClassBook_ways_1 (by decide) ?_
  refine V_icmp_gt (tgt := 36) d_ClassBook_ways_2 (by decide) (fun b2 => ?_) (fun b2 => ?_)
  · exact absurd b2 (by decide)
  · refine V_aload_n d_ClassBook_ways_5 rfl ?_
    refine V_getR d_ClassBook_ways_6 f_ClassBook_34 rfl (by first | rfl | assumption) (by first | rfl | assumption) ?_
    refine V_iload_n d_ClassBook_ways_9 rfl ?_
    refine V_aload_n d_ClassBook_ways_10 rfl ?_
    refine V_getI d_ClassBook_ways_11 f_ClassBook_57 rfl (by first | rfl | assumption) (by first | rfl | assumption) ?_
    rw [g7]
    refine V_iushr d_ClassBook_ways_14 rfl ?_
    rw [ush_slot (by omega) hR]
    refine V_iald d_ClassBook_ways_15 (by first | rfl | assumption) (by first | assumption | exact vp_in_nI (by omega) (by omega)) ?_
    rw [nI_clamp (by omega), hprc]
    refine V_istore d_ClassBook_ways_16 (by decide) ?_
    dsimp only [List.set]
    refine V_iload d_ClassBook_ways_18 rfl ?_
    refine V_iconst (v := -1) d_ClassBook_ways_20 (by decide) ?_
    refine V_icmp_eq (tgt := 34) d_ClassBook_ways_21 (by decide) (fun b21 => ?_) (fun b21 => ?_)
    · refine V_iconst (v := 0) d_ClassBook_ways_34 (by decide) ?_
      refine V_iret d_ClassBook_ways_35 rfl ?_
      refine ⟨?_, tF.rf h, hb⟩
      rw [len false (by unfold goS; rw [prI_m1.mp b21]; rfl)]
      rfl
    · have hm : mayB D w (cs R) = true := by
        cases hh : mayB D w (cs R) with
        | true => rfl
        | false => exact absurd (prI_m1.mpr hh) b21
      have hpe : prI D w R = nI (prN D w R) := by unfold prI; rw [if_pos hm]
      rw [hpe]
      refine V_iload d_ClassBook_ways_24 rfl ?_
      refine V_iload_n d_ClassBook_ways_26 rfl ?_
      refine V_icmp_gt (tgt := 34) d_ClassBook_ways_27 (by decide) (fun b27 => ?_) (fun b27 => ?_)
      · have hlt := (nI_ltI (by omega) (by omega)).mp b27
        refine V_iconst (v := 0) d_ClassBook_ways_34 (by decide) ?_
        refine V_iret d_ClassBook_ways_35 rfl ?_
        refine ⟨?_, tF.rf h, hb⟩
        rw [len false (by unfold goS; rw [hm, decide_eq_false (by omega)]; rfl)]
        rfl
      · have hle : prN D w R ≤ b := by
          rcases Nat.lt_or_ge b (prN D w R) with z | z
          · exact absurd ((nI_ltI (by omega) (by omega)).mpr z) b27
          · exact z
        refine V_iconst (v := 1) d_ClassBook_ways_30 (by decide) ?_
        refine V_goto (tgt := 35) d_ClassBook_ways_31 (by decide) ?_
        refine V_iret d_ClassBook_ways_35 rfl ?_
        refine ⟨?_, tF.rf h, hb⟩
        rw [len true (by unfold goS; rw [hm, decide_eq_true hle]; rfl)]
        rfl
theorem c_ways2 {E : Wd} {D : LD} {w : LW} {l : Nat} (hA : AheadC E D w (l + 2)) : WaysC E D w (l + 2) := by
  intro h R b hb hT hlk
  obtain ⟨g1, g2, g3, g4, ⟨g5, g5'⟩, g6, g7, g8, g9, g10⟩ := id hb
  have hk6 := g4.2.1
  have hR := hT.2.2.1
  have hbd := hT.2.2.2.2
  have hbl := bdg_le (w := w) g5'
  have hlk : l + 2 < wK w := by omega
  refine Cq_of2 ok_ClassBook_ways rfl (Nat.le_of_ble_eq_true rfl) (L := [some (.ref 20), some (.int (nI (l + 2))), some (.int R), some (.int (nI b)), none, none, none]) rfl ?_
  refine V_iload_n d_ClassBook_ways_0 rfl ?_
  refine V_iconst (v := 1) d_ClassBook_ways_1 (by decide) ?_
  refine V_icmp_gt (tgt := 36) d_ClassBook_ways_2 (by decide) (fun b2 => ?_) (fun b2 => ?_)
  · refine V_iload_n d_ClassBook_ways_36 rfl ?_
    refine V_if_ne (tgt := 42) d_ClassBook_ways_37 (by decide) (fun b37 => ?_) (fun b37 => ?_)
    · have hts := tSl_lt g5' hT b37 hlk
      have hin : vp_in (nI (tSl (dN D) (wK w) (l + 2) R b)) 8192 := vp_in_nI hts.2.2 (by omega)
      have hmod : b % 3 < 3 := Nat.mod_lt _ (by omega)
      have hlen := sq_le2 (w := w) g5' (show l + 2 ≤ 5 by omega) hR (hT.2.2.2.1 0 (by omega) (by omega)) b
      have hent := g10 (l + 2) R b hT (by omega) hlk b37
      obtain ⟨s, hs⟩ : ∃ s, s = tSl (dN D) (wK w) (l + 2) R b := ⟨_, rfl⟩
      have hs8 : s < 8192 := by rw [hs]; exact hts.2.2
      have hwy : (sq D w (l + 2) R b).length = ahN D w (l + 2) R b (subs (dN D) R).length := ah_len.symm
      refine V_aload_n d_ClassBook_ways_42 rfl ?_
      refine V_iload_n d_ClassBook_ways_43 rfl ?_
      refine V_iload_n d_ClassBook_ways_44 rfl ?_
      refine V_iload_n d_ClassBook_ways_45 rfl ?_
      refine V_callV1 d_ClassBook_ways_46 k_ClassBook_154 rfl (c_slotOf hb hT b37 hlk) (by first | rfl | assumption) rfl rfl (by first | decide | omega) rfl (Nat.le_of_ble_eq_true rfl) ?_
      rw [← hs] at hin hent ⊢
      refine V_istore d_ClassBook_ways_49 (by decide) ?_
      dsimp only [List.set]
      refine V_iload_n d_ClassBook_ways_51 rfl ?_
      refine V_iconst (v := 3) d_ClassBook_ways_52 (by decide) ?_
      refine V_irem d_ClassBook_ways_53 (by decide) ?_
      rw [show (3 : Int32) = nI 3 from rfl, pk_rem (by omega) (by omega) (by omega)]
      refine V_bipush (v := 21) d_ClassBook_ways_54 (by decide) ?_
      refine V_imul d_ClassBook_ways_56 ?_
      rw [show (21 : Int32) = nI 21 from rfl, pk_mul, Nat.mul_comm (b % 3) 21, show nI (21 * (b % 3)) = lwB3 (b % 3) from rfl]
      refine V_istore d_ClassBook_ways_57 (by decide) ?_
      dsimp only [List.set]
      refine V_aload_n d_ClassBook_ways_59 rfl ?_
      refine V_getR d_ClassBook_ways_60 f_ClassBook_37 rfl (by first | rfl | assumption) (by first | rfl | assumption) ?_
      refine V_iload d_ClassBook_ways_63 rfl ?_
      refine V_lald (n := 8192) d_ClassBook_ways_65 rfl (by first | assumption | exact vp_in_nI (by omega) (by omega)) ?_
      refine V_iload d_ClassBook_ways_66 rfl ?_
      refine V_lushr d_ClassBook_ways_68 rfl ?_
      refine V_l2i d_ClassBook_ways_69 rfl ?_
      refine V_ldc d_ClassBook_ways_70 v_ClassBook_157 rfl ?_
      refine V_iand d_ClassBook_ways_72 ?_
      rw [nI_clamp (by omega), ent_eq _ hmod, show (jnr (h 24) s).toBitVec.toNat / 2 ^ (21 * (b % 3)) % 2 ^ 21 = ent h s (b % 3) from rfl]
      have hel := ent_lt h s (b % 3)
      refine V_istore d_ClassBook_ways_73 (by decide) ?_
      dsimp only [List.set]
      refine V_iload d_ClassBook_ways_75 rfl ?_
      refine V_if_ne (tgt := 108) d_ClassBook_ways_77 (by decide) (fun b77 => ?_) (fun b77 => ?_)
      · have hne : ent h s (b % 3) ≠ 0 := fun z => b77 (by rw [z]; rfl)
        have he := hent.resolve_left hne
        refine V_iload d_ClassBook_ways_108 rfl ?_
        refine V_iconst (v := 1) d_ClassBook_ways_110 (by decide) ?_
        refine V_isub d_ClassBook_ways_111 ?_
        refine V_iret d_ClassBook_ways_112 rfl ?_
        refine ⟨?_, tF.rf h, hb⟩
        rw [show (1 : Int32) = nI 1 from rfl, pk_sub (by omega), he, Nat.add_sub_cancel_left]
      · have he0 : ent h s (b % 3) = 0 := (eq_nI _ 0 rfl rfl (by omega) (by decide)).mp b77
        have hno : ∀ i, i < (subs (dN D) R).length → (subs (dN D) R)[i]? ≠ some 0 := by
          intro i hi z
          obtain ⟨T, a, hT1, -, -, -, -, hT0⟩ := subs_get (by omega) hR hi
          rw [hT1] at z
          exact hT0 (Option.some.inj z)
        refine V_iconst (v := 1) d_ClassBook_ways_80 (by decide) ?_
        refine V_aload_n d_ClassBook_ways_81 rfl ?_
        refine V_iload_n d_ClassBook_ways_82 rfl ?_
        refine V_iload_n d_ClassBook_ways_83 rfl ?_
        refine V_iload_n d_ClassBook_ways_84 rfl ?_
        refine V_iconst (v := 0) d_ClassBook_ways_85 (by decide) ?_
        refine V_callV d_ClassBook_ways_86 k_ClassBook_81 rfl (hA hb hT (Nat.le_refl _) hno (fun z => absurd z (Nat.lt_irrefl _))) (by first | rfl | assumption) rfl rfl (by first | decide | omega) rfl (Nat.le_of_ble_eq_true rfl) (fun v_ h_ q_ => ?_)
        obtain ⟨rfl, q1, q2⟩ := q_
        rw [← hwy]
        obtain ⟨r1, r2, r3, r4, ⟨r5, r5'⟩, r6, r7, r8, r9, r10⟩ := id q2
        show V E _ m_ClassBook_ways _ 89 _ [.int (nI (sq D w (l + 2) R b).length), .int 1] _
        refine V_iadd d_ClassBook_ways_89 ?_
        refine V_istore d_ClassBook_ways_90 (by decide) ?_
        dsimp only [List.set]
        refine V_aload_n d_ClassBook_ways_92 rfl ?_
        refine V_getR d_ClassBook_ways_93 f_ClassBook_37 rfl (by first | rfl | assumption) (by first | rfl | assumption) ?_
        refine V_iload d_ClassBook_ways_96 rfl ?_
        refine V_dup2 d_ClassBook_ways_98 rfl rfl ?_
        refine V_lald (n := 8192) d_ClassBook_ways_99 rfl (by first | assumption | exact vp_in_nI (by omega) (by omega)) ?_
        refine V_iload d_ClassBook_ways_100 rfl ?_
        refine V_i2l d_ClassBook_ways_102 rfl ?_
        refine V_iload d_ClassBook_ways_103 rfl ?_
        refine V_lshl d_ClassBook_ways_105 rfl ?_
        refine V_lor d_ClassBook_ways_106 ?_
        refine V_last (n := 8192) d_ClassBook_ways_107 rfl (by first | assumption | exact vp_in_nI (by omega) (by omega)) ?_
        refine V_iload d_ClassBook_ways_108 rfl ?_
        refine V_iconst (v := 1) d_ClassBook_ways_110 (by decide) ?_
        refine V_isub d_ClassBook_ways_111 ?_
        refine V_iret d_ClassBook_ways_112 rfl ?_
        rw [show (1 : Int32) = nI 1 from rfl, nI_add, nI_clamp (by omega)]
        rw [show (jnr (h_ 24) s ||| (nI (1 + (sq D w (l + 2) R b).length)).toInt64 <<< ((lwB3 (b % 3)).toInt64 &&& 63)) = orJ (jnr (h_ 24) s) (1 + (sq D w (l + 2) R b).length) (b % 3) from rfl]
        have fr2 : tF h_ (hrow h_ 24 (updJ (h_ 24) s (orJ (jnr (h_ 24) s) (1 + (sq D w (l + 2) R b).length) (b % 3)))) := ⟨_, rfl⟩
        have hT2 : tldW (hrow h_ 24 (updJ (h_ 24) s (orJ (jnr (h_ 24) s) (1 + (sq D w (l + 2) R b).length) (b % 3)))) D w := by
          intro l' R' b' hT' hl2' hlk' hR0'
          have hold := r10 l' R' b' hT' hl2' hlk' hR0'
          have hmod' : b' % 3 < 3 := Nat.mod_lt _ (by omega)
          have hself := r10 (l + 2) R b hT (by omega) hlk b37
          rw [← hs] at hself
          have key : ∀ s' g', g' < 3 → ent (hrow h_ 24 (updJ (h_ 24) s (orJ (jnr (h_ 24) s) (1 + (sq D w (l + 2) R b).length) (b % 3)))) s' g' = if s' = s then (orJ (jnr (h_ 24) s) (1 + (sq D w (l + 2) R b).length) (b % 3)).toBitVec.toNat / 2 ^ (21 * g') % 2 ^ 21 else ent h_ s' g' := by
            intro s' g' _
            unfold ent
            rw [hrow_same, jnr_updJ]
            unfold vp_updL
            by_cases c : s' = s
            · rw [if_pos c, if_pos c]
            · rw [if_neg c, if_neg c]
          rw [key _ _ hmod']
          by_cases c : tSl (dN D) (wK w) l' R' b' = s
          · rw [if_pos c]
            rcases hself with hz | hz
            · rw [ent_or _ (by omega) hmod hmod' hz]
              by_cases cg : b' % 3 = b % 3
              · rw [if_pos cg]
                obtain ⟨e1, e2, e3⟩ := tSl_inj g5' hT' hR0' hlk' hT b37 hlk (by rw [c, hs]) cg
                subst e1 e2 e3
                exact Or.inr rfl
              · rw [if_neg cg]
                rw [c] at hold
                exact hold
            · -- told meanwhile: the same number, or'ed once more
              by_cases cg : b' % 3 = b % 3
              · obtain ⟨e1, e2, e3⟩ := tSl_inj g5' hT' hR0' hlk' hT b37 hlk (by rw [c, hs]) cg
                subst e1 e2 e3
                exact Or.inr (ent_or2 _ (by omega) hmod hz)
              · rw [ent_or3 _ (by omega) hmod hmod' cg]
                rw [c] at hold
                exact hold
          · rw [if_neg c]
            exact hold
        refine ⟨?_, q1.tr fr2, q2.tf fr2 hT2⟩
        rw [pk_sub (by omega), Nat.add_sub_cancel_left]
    · refine V_iconst (v := 0) d_ClassBook_ways_40 (by decide) ?_
      refine V_iret d_ClassBook_ways_41 rfl ?_
      refine ⟨?_, tF.rf h, hb⟩
      rw [b37, sq, subs_0]
      rfl
  · exact absurd ((lt_nI 1 (l + 2) rfl rfl (by omega) (by omega)).mpr (by omega)) b2
theorem c_ways {E : Wd} {D : LD} {w : LW} : ∀ l, l < 6 → WaysC E D w (l + 1)
  | 0, _ => c_ways1
  | l + 1, hl => c_ways2 (c_waysAhead (by omega) (by omega) (c_waysWith (by omega) (fun _ => c_ways l (by omega))))
theorem c_with {E : Wd} {D : LD} {w : LW} {l : Nat} (hl1 : 1 ≤ l) (hl6 : l ≤ 6) : WithC E D w l := c_waysWith hl1 (fun h2 => by
  have h3 : WaysC E D w (l - 2 + 1) := c_ways (l - 2) (by omega)
  rw [show l - 2 + 1 = l - 1 by omega] at h3
  exact @h3)
theorem c_ahead {E : Wd} {D : LD} {w : LW} {l : Nat} (hl1 : 1 ≤ l) (hl6 : l ≤ 6) : AheadC E D w l := c_waysAhead hl1 hl6 (c_with hl1 hl6)
