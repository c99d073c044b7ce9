theorem ge_eq {N i : Nat} {x y : Int32} (b : x ≤ y) (hx : x = nI N) (hy : y = nI i) (hN : N < 2 ^ 31) (hi : i ≤ N) : i = N := by
  have := (le_nI N i hx hy hN (by omega)).mp b
  omega
theorem nge_lt {N i : Nat} {x y : Int32} (b : ¬ x ≤ y) (hx : x = nI N) (hy : y = nI i) (hN : N < 2 ^ 31) (hi : i ≤ N) : i < N := by
  rcases Nat.lt_or_ge i N with q | q
  · exact q
  · exact absurd ((le_nI N i hx hy hN (by omega)).mpr q) b
theorem b2in {b : Bool} : ¬ ((if b then (1 : Int32) else 0) = 0) ↔ b = true := by cases b <;> decide
theorem c_outline {E : Wd} {h : Hp} {D : LD} (hl : LandW h D) (ok : okLD D) (S : Int32) : Cd E 1 m_Land_outline [.ref 1, .int S] h (some (.int (smP (dLn D) (fun b => cs S (dFr D b) != cs S (dTo D b)) (dB D)))) h := by
  have hn := ok.1
  have hb100 := ok.2.1
  refine Cd_of ok_Land_outline rfl (Nat.le_of_ble_eq_true rfl) (L := [some (.ref 1), some (.int S), none, none]) rfl ?_
  refine V_iconst (v := 0) d_Land_outline_0 (by decide) ?_
  refine V_istore_n d_Land_outline_1 (by decide) ?_
  dsimp only [List.set]
  refine V_iconst (v := 0) d_Land_outline_2 (by decide) ?_
  refine V_istore_n d_Land_outline_3 (by decide) ?_
  dsimp only [List.set]
  have loop : ∀ i, i ≤ dB D → V E 1 m_Land_outline (fun v' h' => v' = some (.int (smP (dLn D) (fun b => cs S (dFr D b) != cs S (dTo D b)) (dB D))) ∧ h' = h) 4 [some (.ref 1), some (.int S), some (.int (smP (dLn D) (fun b => cs S (dFr D b) != cs S (dTo D b)) i)), some (.int (nI i))] [] h := by
    refine up_ind (dB D) ?_
    intro i hi ih
    refine V_iload_n d_Land_outline_4 rfl ?_
    refine V_aload_n d_Land_outline_5 rfl ?_
    refine V_getI d_Land_outline_6 f_Land_56 rfl (by first | rfl | assumption) (by first | rfl | assumption) ?_
    rw [hl.2.1]
    refine V_icmp_ge (tgt := 50) d_Land_outline_9 (by decide) (fun b9 => ?_) (fun b9 => ?_)
    · obtain rfl := ge_eq b9 rfl rfl (by omega) hi
      refine V_iload_n d_Land_outline_50 rfl ?_
      refine V_iret d_Land_outline_51 rfl ?_
      exact ⟨rfl, rfl⟩
    · have hib := nge_lt b9 rfl rfl (by omega) hi
      have ih := ih hib
      rw [smP] at ih
      have hin := zin100 ok hib
      have hbb := ok.2.2.2.1 i hib
      have hrow := hl.2.2.2.2.1 i hib
      refine V_iload_n d_Land_outline_12 rfl ?_
      refine V_aload_n d_Land_outline_13 rfl ?_
      refine V_getR d_Land_outline_14 f_Land_30 rfl (by first | rfl | assumption) (by first | rfl | assumption) ?_
      refine V_iload_n d_Land_outline_17 rfl ?_
      refine V_iald d_Land_outline_18 (by first | rfl | assumption) (by first | assumption | exact vp_in_nI (by omega) (by omega)) ?_
      rw [nI_clamp (by omega), hrow.1]
      refine V_callS1 d_Land_outline_19 k_Land_59 rfl (c_has h S (show dFr D i < 30 by omega)) rfl (by first | decide | omega) rfl (Nat.le_of_ble_eq_true rfl) ?_
      refine V_iload_n d_Land_outline_22 rfl ?_
      refine V_aload_n d_Land_outline_23 rfl ?_
      refine V_getR d_Land_outline_24 f_Land_33 rfl (by first | rfl | assumption) (by first | rfl | assumption) ?_
      refine V_iload_n d_Land_outline_27 rfl ?_
      refine V_iald d_Land_outline_28 (by first | rfl | assumption) (by first | assumption | exact vp_in_nI (by omega) (by omega)) ?_
      rw [nI_clamp (by omega), hrow.2.1]
      refine V_callS1 d_Land_outline_29 k_Land_59 rfl (c_has h S (show dTo D i < 30 by omega)) rfl (by first | decide | omega) rfl (Nat.le_of_ble_eq_true rfl) ?_
      refine V_icmp_eq (tgt := 44) d_Land_outline_32 (by decide) (fun b32 => ?_) (fun b32 => ?_)
      · refine V_iincw (w := 1) d_Land_outline_44 rfl (by decide) (by decide) ?_
        dsimp only [List.set]
        refine V_goto (tgt := 4) d_Land_outline_47 (by decide) ?_
        have e : (cs S (dFr D i) != cs S (dTo D i)) = false := by
          unfold cs
          revert b32
          cases bt S (29 - dFr D i) <;> cases bt S (29 - dTo D i) <;> simp
        rw [e] at ih
        simp only [Bool.false_eq_true, if_false, Int32.add_zero] at ih
        rw [nI_1]
        exact ih
      · refine V_iload_n d_Land_outline_35 rfl ?_
        refine V_aload_n d_Land_outline_36 rfl ?_
        refine V_getR d_Land_outline_37 f_Land_36 rfl (by first | rfl | assumption) (by first | rfl | assumption) ?_
        refine V_iload_n d_Land_outline_40 rfl ?_
        refine V_iald d_Land_outline_41 (by first | rfl | assumption) (by first | assumption | exact vp_in_nI (by omega) (by omega)) ?_
        refine V_iadd d_Land_outline_42 ?_
        refine V_istore_n d_Land_outline_43 (by decide) ?_
        dsimp only [List.set]
        refine V_iincw (w := 1) d_Land_outline_44 rfl (by decide) (by decide) ?_
        dsimp only [List.set]
        refine V_goto (tgt := 4) d_Land_outline_47 (by decide) ?_
        have e : (cs S (dFr D i) != cs S (dTo D i)) = true := by
          unfold cs
          revert b32
          cases bt S (29 - dFr D i) <;> cases bt S (29 - dTo D i) <;> simp
        rw [e] at ih
        simp only [if_true] at ih
        rw [nI_1, nI_clamp (by omega), hrow.2.2]
        exact ih
  exact loop 0 (Nat.zero_le _)
theorem c_outgoing {E : Wd} {h : Hp} {D : LD} (hl : LandW h D) (ok : okLD D) (S : Int32) : Cd E 1 m_Land_outgoing [.ref 1, .int S] h (some (.int (smP (dLn D) (fun b => cs S (dFr D b) && !cs S (dTo D b)) (dB D)))) h := by
  have hn := ok.1
  have hb100 := ok.2.1
  refine Cd_of ok_Land_outgoing rfl (Nat.le_of_ble_eq_true rfl) (L := [some (.ref 1), some (.int S), none, none]) rfl ?_
  refine V_iconst (v := 0) d_Land_outgoing_0 (by decide) ?_
  refine V_istore_n d_Land_outgoing_1 (by decide) ?_
  dsimp only [List.set]
  refine V_iconst (v := 0) d_Land_outgoing_2 (by decide) ?_
  refine V_istore_n d_Land_outgoing_3 (by decide) ?_
  dsimp only [List.set]
  have loop : ∀ i, i ≤ dB D → V E 1 m_Land_outgoing (fun v' h' => v' = some (.int (smP (dLn D) (fun b => cs S (dFr D b) && !cs S (dTo D b)) (dB D))) ∧ h' = h) 4 [some (.ref 1), some (.int S), some (.int (smP (dLn D) (fun b => cs S (dFr D b) && !cs S (dTo D b)) i)), some (.int (nI i))] [] h := by
    refine up_ind (dB D) ?_
    intro i hi ih
    refine V_iload_n d_Land_outgoing_4 rfl ?_
    refine V_aload_n d_Land_outgoing_5 rfl ?_
    refine V_getI d_Land_outgoing_6 f_Land_56 rfl (by first | rfl | assumption) (by first | rfl | assumption) ?_
    rw [hl.2.1]
    refine V_icmp_ge (tgt := 53) d_Land_outgoing_9 (by decide) (fun b9 => ?_) (fun b9 => ?_)
    · obtain rfl := ge_eq b9 rfl rfl (by omega) hi
      refine V_iload_n d_Land_outgoing_53 rfl ?_
      refine V_iret d_Land_outgoing_54 rfl ?_
      exact ⟨rfl, rfl⟩
    · have hib := nge_lt b9 rfl rfl (by omega) hi
      have ih := ih hib
      rw [smP] at ih
      have hin := zin100 ok hib
      have hbb := ok.2.2.2.1 i hib
      have hrow := hl.2.2.2.2.1 i hib
      refine V_iload_n d_Land_outgoing_12 rfl ?_
      refine V_aload_n d_Land_outgoing_13 rfl ?_
      refine V_getR d_Land_outgoing_14 f_Land_30 rfl (by first | rfl | assumption) (by first | rfl | assumption) ?_
      refine V_iload_n d_Land_outgoing_17 rfl ?_
      refine V_iald d_Land_outgoing_18 (by first | rfl | assumption) (by first | assumption | exact vp_in_nI (by omega) (by omega)) ?_
      rw [nI_clamp (by omega), hrow.1]
      refine V_callS1 d_Land_outgoing_19 k_Land_59 rfl (c_has h S (show dFr D i < 30 by omega)) rfl (by first | decide | omega) rfl (Nat.le_of_ble_eq_true rfl) ?_
      refine V_if_eq (tgt := 47) d_Land_outgoing_22 (by decide) (fun b22 => ?_) (fun b22 => ?_)
      · refine V_iincw (w := 1) d_Land_outgoing_47 rfl (by decide) (by decide) ?_
        dsimp only [List.set]
        refine V_goto (tgt := 4) d_Land_outgoing_50 (by decide) ?_
        have e : (cs S (dFr D i) && !cs S (dTo D i)) = false := by
          unfold cs
          rw [b2i.mp b22]
          rfl
        rw [e] at ih
        simp only [Bool.false_eq_true, if_false, Int32.add_zero] at ih
        rw [nI_1]
        exact ih
      · refine V_iload_n d_Land_outgoing_25 rfl ?_
        refine V_aload_n d_Land_outgoing_26 rfl ?_
        refine V_getR d_Land_outgoing_27 f_Land_33 rfl (by first | rfl | assumption) (by first | rfl | assumption) ?_
        refine V_iload_n d_Land_outgoing_30 rfl ?_
        refine V_iald d_Land_outgoing_31 (by first | rfl | assumption) (by first | assumption | exact vp_in_nI (by omega) (by omega)) ?_
        rw [nI_clamp (by omega), hrow.2.1]
        refine V_callS1 d_Land_outgoing_32 k_Land_59 rfl (c_has h S (show dTo D i < 30 by omega)) rfl (by first | decide | omega) rfl (Nat.le_of_ble_eq_true rfl) ?_
        refine V_if_ne (tgt := 47) d_Land_outgoing_35 (by decide) (fun b35 => ?_) (fun b35 => ?_)
        · refine V_iincw (w := 1) d_Land_outgoing_47 rfl (by decide) (by decide) ?_
          dsimp only [List.set]
          refine V_goto (tgt := 4) d_Land_outgoing_50 (by decide) ?_
          have e : (cs S (dFr D i) && !cs S (dTo D i)) = false := by
            unfold cs
            rw [b2in.mp b35]
            simp
          rw [e] at ih
          simp only [Bool.false_eq_true, if_false, Int32.add_zero] at ih
          rw [nI_1]
          exact ih
        · refine V_iload_n d_Land_outgoing_38 rfl ?_
          refine V_aload_n d_Land_outgoing_39 rfl ?_
          refine V_getR d_Land_outgoing_40 f_Land_36 rfl (by first | rfl | assumption) (by first | rfl | assumption) ?_
          refine V_iload_n d_Land_outgoing_43 rfl ?_
          refine V_iald d_Land_outgoing_44 (by first | rfl | assumption) (by first | assumption | exact vp_in_nI (by omega) (by omega)) ?_
          refine V_iadd d_Land_outgoing_45 ?_
          refine V_istore_n d_Land_outgoing_46 (by decide) ?_
          dsimp only [List.set]
          refine V_iincw (w := 1) d_Land_outgoing_47 rfl (by decide) (by decide) ?_
          dsimp only [List.set]
          refine V_goto (tgt := 4) d_Land_outgoing_50 (by decide) ?_
          have e : (cs S (dFr D i) && !cs S (dTo D i)) = true := by
            unfold cs
            rw [b2i.mp b35, b2in.mp b22]
            rfl
          rw [e] at ih
          simp only [if_true] at ih
          rw [nI_1, nI_clamp (by omega), hrow.2.2]
          exact ih
  exact loop 0 (Nat.zero_le _)
/-- the borders of a place with places of a set -/
def touch (D : LD) (p : Nat) (S : Nat → Bool) : Nat → Bool := fun b => (decide (dFr D b = p) && S (dTo D b)) || (decide (dTo D b = p) && S (dFr D b))
theorem nbB_of {fr to : Nat → Nat} {i j : Nat} : ∀ {n b : Nat}, b < n → ((fr b = i ∧ to b = j) ∨ (fr b = j ∧ to b = i)) → nbB fr to n i j = true
  | 0, b, h, _ => absurd h (Nat.not_lt_zero b)
  | n + 1, b, h, q => by
    rw [nbB]
    rcases Nat.lt_or_ge b n with hb | hb
    · rw [nbB_of hb q]; rfl
    · have : b = n := by omega
      subst this
      rcases q with q | q
      · simp [q.1, q.2]
      · simp [q.1, q.2]
theorem nbB_ex {fr to : Nat → Nat} {i j : Nat} : ∀ {n : Nat}, nbB fr to n i j = true → ∃ b, b < n ∧ ((fr b = i ∧ to b = j) ∨ (fr b = j ∧ to b = i))
  | 0, h => by simp [nbB] at h
  | n + 1, h => by
    rw [nbB] at h
    simp only [Bool.or_eq_true, Bool.and_eq_true, decide_eq_true_eq] at h
    rcases h with (h | h) | h
    · obtain ⟨b, hb, q⟩ := nbB_ex h
      exact ⟨b, by omega, q⟩
    · exact ⟨n, by omega, Or.inl h⟩
    · exact ⟨n, by omega, Or.inr h⟩
theorem touch_none {D : LD} (ok : okLD D) {p : Nat} (hp : p < 30) {S : Int32} (h0 : cI (dNb D p) &&& S = 0) {b : Nat} (hb : b < dB D) : touch D p (cs S) b = false := by
  have hbb := ok.2.2.2.1 b hb
  have hn := ok.1
  have key : ∀ j, j < 30 → dNb D p j = true → cs S j = true → False := by
    intro j hj h1 h2
    have h3 : cs (cI (dNb D p) &&& S) j = true := by rw [cs_and, cI_cs _ hj, h1, h2]; rfl
    rw [h0] at h3
    unfold cs at h3
    rw [b_0] at h3
    cases h3
  unfold touch
  cases hq : (decide (dFr D b = p) && cs S (dTo D b)) with
  | true =>
    simp only [Bool.and_eq_true, decide_eq_true_eq] at hq
    exact (key _ (by omega) (nbB_of hb (Or.inl ⟨hq.1, rfl⟩)) hq.2).elim
  | false =>
    cases hq2 : (decide (dTo D b = p) && cs S (dFr D b)) with
    | true =>
      simp only [Bool.and_eq_true, decide_eq_true_eq] at hq2
      exact (key _ (by omega) (nbB_of hb (Or.inr ⟨rfl, hq2.1⟩)) hq2.2).elim
    | false => rfl
theorem c_contact {E : Wd} {h : Hp} {D : LD} (hl : LandW h D) (ok : okLD D) {p : Nat} (hp : p < 30) (S : Int32) : Cd E 1 m_Land_contact [.ref 1, .int (nI p), .int S] h (some (.int (smP (dLn D) (touch D p (cs S)) (dB D)))) h := by
  have hn := ok.1
  have hb100 := ok.2.1
  have hinp : vp_in (nI p) 30 := vp_in_nI hp (by omega)
  refine Cd_of ok_Land_contact rfl (Nat.le_of_ble_eq_true rfl) (L := [some (.ref 1), some (.int (nI p)), some (.int S), none, none, none]) rfl ?_
  refine V_aload_n d_Land_contact_0 rfl ?_
  refine V_getR d_Land_contact_1 f_Land_24 rfl (by first | rfl | assumption) (by first | rfl | assumption) ?_
  refine V_iload_n d_Land_contact_4 rfl ?_
  refine V_iald d_Land_contact_5 (by first | rfl | assumption) (by first | assumption | exact vp_in_nI (by omega) (by omega)) ?_
  refine V_iload_n d_Land_contact_6 rfl ?_
  refine V_iand d_Land_contact_7 ?_
  rw [nI_clamp (by omega), hl.2.2.2.2.2.1 p hp]
  refine V_if_ne (tgt := 13) d_Land_contact_8 (by decide) (fun b8 => ?_) (fun b8 => ?_)
  · refine V_iconst (v := 0) d_Land_contact_13 (by decide) ?_
    refine V_istore_n d_Land_contact_14 (by decide) ?_
    dsimp only [List.set]
    refine V_iconst (v := 0) d_Land_contact_15 (by decide) ?_
    refine V_istore d_Land_contact_16 (by decide) ?_
    dsimp only [List.set]
    have loop : ∀ i, i ≤ dB D → ∀ u5, V E 1 m_Land_contact (fun v' h' => v' = some (.int (smP (dLn D) (touch D p (cs S)) (dB D))) ∧ h' = h) 18 [some (.ref 1), some (.int (nI p)), some (.int S), some (.int (smP (dLn D) (touch D p (cs S)) i)), some (.int (nI i)), u5] [] h := by
      refine up_ind (dB D) ?_
      intro i hi ih u5
      refine V_iload d_Land_contact_18 rfl ?_
      refine V_aload_n d_Land_contact_20 rfl ?_
      refine V_getI d_Land_contact_21 f_Land_56 rfl (by first | rfl | assumption) (by first | rfl | assumption) ?_
      rw [hl.2.1]
      refine V_icmp_ge (tgt := 105) d_Land_contact_24 (by decide) (fun b24 => ?_) (fun b24 => ?_)
      · obtain rfl := ge_eq b24 rfl rfl (by omega) hi
        refine V_iload_n d_Land_contact_105 rfl ?_
        refine V_iret d_Land_contact_106 rfl ?_
        exact ⟨rfl, rfl⟩
      · have hib := nge_lt b24 rfl rfl (by omega) hi
        have ih := fun u => ih hib u
        have hin := zin100 ok hib
        have hbb := ok.2.2.2.1 i hib
        have hrow := hl.2.2.2.2.1 i hib
        have last : ∀ t : Bool, touch D p (cs S) i = t → V E 1 m_Land_contact (fun v' h' => v' = some (.int (smP (dLn D) (touch D p (cs S)) (dB D))) ∧ h' = h) 82 [some (.ref 1), some (.int (nI p)), some (.int S), some (.int (smP (dLn D) (touch D p (cs S)) i)), some (.int (nI i)), u5] [.int (if t then 1 else 0)] h := by
          intro t ht
          have ih := ih (some (.int (if t then 1 else 0)))
          rw [smP, ht] at ih
          refine V_istore d_Land_contact_82 (by decide) ?_
          dsimp only [List.set]
          refine V_iload d_Land_contact_84 rfl ?_
          refine V_if_eq (tgt := 99) d_Land_contact_86 (by decide) (fun b86 => ?_) (fun b86 => ?_)
          · refine V_iincw (w := 1) d_Land_contact_99 rfl (by decide) (by decide) ?_
            dsimp only [List.set]
            refine V_goto (tgt := 18) d_Land_contact_102 (by decide) ?_
            rw [b2i.mp b86] at ih ⊢
            simp only [Bool.false_eq_true, if_false, Int32.add_zero] at ih
            rw [nI_1]
            exact ih
          · refine V_iload_n d_Land_contact_89 rfl ?_
            refine V_aload_n d_Land_contact_90 rfl ?_
            refine V_getR d_Land_contact_91 f_Land_36 rfl (by first | rfl | assumption) (by first | rfl | assumption) ?_
            refine V_iload d_Land_contact_94 rfl ?_
            refine V_iald d_Land_contact_96 (by first | rfl | assumption) (by first | assumption | exact vp_in_nI (by omega) (by omega)) ?_
            refine V_iadd d_Land_contact_97 ?_
            refine V_istore_n d_Land_contact_98 (by decide) ?_
            dsimp only [List.set]
            refine V_iincw (w := 1) d_Land_contact_99 rfl (by decide) (by decide) ?_
            dsimp only [List.set]
            refine V_goto (tgt := 18) d_Land_contact_102 (by decide) ?_
            rw [b2in.mp b86] at ih ⊢
            simp only [if_true] at ih
            rw [nI_1, nI_clamp (by omega), hrow.2.2]
            exact ih
        have second : (decide (dFr D i = p) && cs S (dTo D i)) = false → V E 1 m_Land_contact (fun v' h' => v' = some (.int (smP (dLn D) (touch D p (cs S)) (dB D))) ∧ h' = h) 52 [some (.ref 1), some (.int (nI p)), some (.int S), some (.int (smP (dLn D) (touch D p (cs S)) i)), some (.int (nI i)), u5] [] h := by
          intro h1
          refine V_aload_n d_Land_contact_52 rfl ?_
          refine V_getR d_Land_contact_53 f_Land_33 rfl (by first | rfl | assumption) (by first | rfl | assumption) ?_
          refine V_iload d_Land_contact_56 rfl ?_
          refine V_iald d_Land_contact_58 (by first | rfl | assumption) (by first | assumption | exact vp_in_nI (by omega) (by omega)) ?_
          refine V_iload_n d_Land_contact_59 rfl ?_
          rw [nI_clamp (by omega), hrow.2.1]
          refine V_icmp_ne (tgt := 81) d_Land_contact_60 (by decide) (fun b60 => ?_) (fun b60 => ?_)
          · refine V_iconst (v := 0) d_Land_contact_81 (by decide) ?_
            refine last false ?_
            unfold touch
            rw [h1, decide_eq_false (fun q => b60 (by rw [q]))]
            rfl
          · have hp2 : dTo D i = p := (nI_eq (by omega) (by omega)).mp b60
            refine V_iload_n d_Land_contact_63 rfl ?_
            refine V_aload_n d_Land_contact_64 rfl ?_
            refine V_getR d_Land_contact_65 f_Land_30 rfl (by first | rfl | assumption) (by first | rfl | assumption) ?_
            refine V_iload d_Land_contact_68 rfl ?_
            refine V_iald d_Land_contact_70 (by first | rfl | assumption) (by first | assumption | exact vp_in_nI (by omega) (by omega)) ?_
            rw [nI_clamp (by omega), hrow.1]
            refine V_callS1 d_Land_contact_71 k_Land_59 rfl (c_has h S (show dFr D i < 30 by omega)) rfl (by first | decide | omega) rfl (Nat.le_of_ble_eq_true rfl) ?_
            refine V_if_eq (tgt := 81) d_Land_contact_74 (by decide) (fun b74 => ?_) (fun b74 => ?_)
            · refine V_iconst (v := 0) d_Land_contact_81 (by decide) ?_
              refine last false ?_
              unfold touch cs
              rw [b2i.mp b74]
              unfold cs at h1
              rw [h1]
              simp
            · refine V_iconst (v := 1) d_Land_contact_77 (by decide) ?_
              refine V_goto (tgt := 82) d_Land_contact_78 (by decide) ?_
              refine last true ?_
              unfold touch cs
              rw [b2in.mp b74, hp2]
              simp
        refine V_aload_n d_Land_contact_27 rfl ?_
        refine V_getR d_Land_contact_28 f_Land_30 rfl (by first | rfl | assumption) (by first | rfl | assumption) ?_
        refine V_iload d_Land_contact_31 rfl ?_
        refine V_iald d_Land_contact_33 (by first | rfl | assumption) (by first | assumption | exact vp_in_nI (by omega) (by omega)) ?_
        refine V_iload_n d_Land_contact_34 rfl ?_
        rw [nI_clamp (by omega), hrow.1]
        refine V_icmp_ne (tgt := 52) d_Land_contact_35 (by decide) (fun b35 => ?_) (fun b35 => ?_)
        · exact second (by rw [decide_eq_false (fun q => b35 (by rw [q]))]; rfl)
        · have hp1 : dFr D i = p := (nI_eq (by omega) (by omega)).mp b35
          refine V_iload_n d_Land_contact_38 rfl ?_
          refine V_aload_n d_Land_contact_39 rfl ?_
          refine V_getR d_Land_contact_40 f_Land_33 rfl (by first | rfl | assumption) (by first | rfl | assumption) ?_
          refine V_iload d_Land_contact_43 rfl ?_
          refine V_iald d_Land_contact_45 (by first | rfl | assumption) (by first | assumption | exact vp_in_nI (by omega) (by omega)) ?_
          rw [nI_clamp (by omega), hrow.2.1]
          refine V_callS1 d_Land_contact_46 k_Land_59 rfl (c_has h S (show dTo D i < 30 by omega)) rfl (by first | decide | omega) rfl (Nat.le_of_ble_eq_true rfl) ?_
          refine V_if_ne (tgt := 77) d_Land_contact_49 (by decide) (fun b49 => ?_) (fun b49 => ?_)
          · refine V_iconst (v := 1) d_Land_contact_77 (by decide) ?_
            refine V_goto (tgt := 82) d_Land_contact_78 (by decide) ?_
            refine last true ?_
            unfold touch cs
            rw [b2in.mp b49, hp1]
            simp
          · exact second (by unfold cs; rw [b2i.mp b49, Bool.and_false])
    exact loop 0 (Nat.zero_le _) _
  · refine V_iconst (v := 0) d_Land_contact_11 (by decide) ?_
    refine V_iret d_Land_contact_12 rfl ?_
    exact ⟨by rw [smP_none (fun b hb => touch_none ok hp b8 hb)], rfl⟩
theorem fxI_none {w : LW} (ok : okLW w) {p : Nat} : fxI (wFx w p) = -1 ↔ wFx w p = none := by
  cases hq : wFx w p with
  | none => exact ⟨fun _ => rfl, fun _ => rfl⟩
  | some d =>
    have := ok.2.2.2.2 p d hq
    have h6 := ok.2.1
    constructor
    · intro h
      have h1 : 0 ≤ (nI d : Int32) := nI_pos' (by omega)
      rw [show fxI (some d) = nI d from rfl] at h
      rw [h] at h1
      exact absurd h1 (by decide)
    · intro h
      cases h
theorem c_fixedPlaces {E : Wd} {h : Hp} {w : LW} (hl : LawW h w) (ok : okLW w) : Cd E 1 m_Law_fixedPlaces [.ref 11] h (some (.int (nI (fa_cnt (fun p => (wFx w p).isSome) 30)))) h := by
  obtain ⟨R, hR⟩ : ∃ R, R = fa_cnt (fun p => (wFx w p).isSome) 30 := ⟨_, rfl⟩
  rw [← hR]
  refine Cd_of ok_Law_fixedPlaces rfl (Nat.le_of_ble_eq_true rfl) (L := [some (.ref 11), none, none]) rfl ?_
  refine V_iconst (v := 0) d_Law_fixedPlaces_0 (by decide) ?_
  refine V_istore_n d_Law_fixedPlaces_1 (by decide) ?_
  dsimp only [List.set]
  refine V_iconst (v := 0) d_Law_fixedPlaces_2 (by decide) ?_
  refine V_istore_n d_Law_fixedPlaces_3 (by decide) ?_
  dsimp only [List.set]
  have loop : ∀ i, i ≤ 30 → V E 1 m_Law_fixedPlaces (fun v' h' => v' = some (.int (nI R)) ∧ h' = h) 4 [some (.ref 11), some (.int (nI (fa_cnt (fun p => (wFx w p).isSome) i))), some (.int (nI i))] [] h := by
    refine up_ind 30 ?_
    intro i hi ih
    refine V_iload_n d_Law_fixedPlaces_4 rfl ?_
    refine V_bipush (v := 30) d_Law_fixedPlaces_5 (by decide) ?_
    refine V_icmp_ge (tgt := 29) d_Law_fixedPlaces_7 (by decide) (fun b7 => ?_) (fun b7 => ?_)
    · obtain rfl := ge_eq b7 rfl rfl (by decide) hi
      refine V_iload_n d_Law_fixedPlaces_29 rfl ?_
      refine V_iret d_Law_fixedPlaces_30 rfl ?_
      exact ⟨by rw [hR], rfl⟩
    · have hi30 := nge_lt b7 rfl rfl (by decide) hi
      have ih := ih hi30
      rw [fa_cnt] at ih
      have hin : vp_in (nI i) 30 := vp_in_nI hi30 (by omega)
      have hf := hl.2.2.2.2 i hi30
      refine V_aload_n d_Law_fixedPlaces_10 rfl ?_
      refine V_getR d_Law_fixedPlaces_11 f_Law_25 rfl (by first | rfl | assumption) (by first | rfl | assumption) ?_
      refine V_iload_n d_Law_fixedPlaces_14 rfl ?_
      refine V_iald d_Law_fixedPlaces_15 (by first | rfl | assumption) (by first | assumption | exact vp_in_nI (by omega) (by omega)) ?_
      rw [nI_clamp (by omega), hf]
      refine V_iconst (v := -1) d_Law_fixedPlaces_16 (by decide) ?_
      refine V_icmp_eq (tgt := 23) d_Law_fixedPlaces_17 (by decide) (fun b17 => ?_) (fun b17 => ?_)
      · refine V_iincw (w := 1) d_Law_fixedPlaces_23 rfl (by decide) (by decide) ?_
        dsimp only [List.set]
        refine V_goto (tgt := 4) d_Law_fixedPlaces_26 (by decide) ?_
        rw [(fxI_none ok).mp b17] at ih
        rw [nI_1]
        exact ih
      · refine V_iincw (w := 1) d_Law_fixedPlaces_20 rfl (by decide) (by decide) ?_
        dsimp only [List.set]
        refine V_iincw (w := 1) d_Law_fixedPlaces_23 rfl (by decide) (by decide) ?_
        dsimp only [List.set]
        refine V_goto (tgt := 4) d_Law_fixedPlaces_26 (by decide) ?_
        cases hq : wFx w i with
        | none => rw [hq] at b17; exact absurd rfl b17
        | some d => rw [hq] at ih; rw [nI_1, nI_1]; exact ih
  exact loop 0 (by omega)
/-! what changes the land -/
def updA {α : Type} (f : Nat → α) (k : Nat) (v : α) : Nat → α := fun j => if j = k then v else f j
def addPl (D : LD) (pe ze on ar : Int32) (tw : Nat) : LD := ((dN D + 1, dB D), (updA (dPe D) (dN D) pe, updA (dZe D) (dN D) ze, updA (dOn D) (dN D) on, updA (dAr D) (dN D) ar, updA (dTw D) (dN D) tw), (dFr D, dTo D, dLn D))
def addBo (D : LD) (a b : Nat) (ln : Int32) : LD := ((dN D, dB D + 1), (dPe D, dZe D, dOn D, dAr D, dTw D), (updA (dFr D) (dB D) a, updA (dTo D) (dB D) b, updA (dLn D) (dB D) ln))
def setPe (D : LD) (p : Nat) (v : Int32) : LD := ((dN D, dB D), (updA (dPe D) p v, dZe D, dOn D, dAr D, dTw D), (dFr D, dTo D, dLn D))
theorem smP_congf {f g : Nat → Int32} {P : Nat → Bool} : ∀ {n : Nat}, (∀ i, i < n → f i = g i) → smP f P n = smP g P n
  | 0, _ => rfl
  | n + 1, h => by rw [smP, smP, smP_congf (fun i hi => h i (by omega)), h n (by omega)]
theorem smP_upd {f : Nat → Int32} {p : Nat} {v : Int32} : ∀ {n : Nat}, p < n → smP (updA f p v) (fun _ => true) n = smP f (fun _ => true) n + (v - f p)
  | 0, h => absurd h (Nat.not_lt_zero p)
  | n + 1, h => by
    rw [smP, smP]
    simp only [if_true]
    rcases Nat.lt_or_ge p n with q | q
    · rw [smP_upd q]
      have : updA f p v n = f n := by unfold updA; rw [if_neg (by omega)]
      rw [this, Int32.add_assoc, Int32.add_assoc, Int32.add_comm (v - f p)]
    · have : p = n := by omega
      subst this
      have e1 : smP (updA f p v) (fun _ => true) p = smP f (fun _ => true) p := smP_congf (fun i hi => by unfold updA; rw [if_neg (by omega)])
      have e2 : updA f p v p = v := by unfold updA; rw [if_pos rfl]
      rw [e1, e2, Int32.add_assoc]
      congr 1
      rw [Int32.add_comm, Int32.sub_add_cancel]
