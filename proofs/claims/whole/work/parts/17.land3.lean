theorem updA_same {α : Type} (f : Nat → α) (k : Nat) (v : α) : updA f k v k = v := if_pos rfl
theorem updA_ne {α : Type} {f : Nat → α} {k j : Nat} {v : α} (h : j ≠ k) : updA f k v j = f j := if_neg h
theorem upd_s (f : Nat → Int32) (k : Nat) (v : Int32) : upd f k v k = v := if_pos rfl
theorem upd_n {f : Nat → Int32} {k j : Nat} {v : Int32} (h : j ≠ k) : upd f k v j = f j := if_neg h
theorem c_addPlace {E : Wd} {h : Hp} {D : LD} (hl : LandW h D) (ok : okLD D) (hn : dN D < 30) (pe ze on ar : Int32) {t : Nat} (ht : t < 10) :
    Cq E 1 m_Land_addPlace [.ref 1, .int pe, .int ze, .int on, .int ar, .int (nI t)] h (fun v h' => v = some (.int (nI (dN D))) ∧ LandW h' (addPl D pe ze on ar t) ∧ ∀ q, (q < 1 ∨ 10 < q) → h' q = h q) := by
  obtain ⟨l1, l2, l3, l4, l5, l6, l7⟩ := hl
  have hin : vp_in (nI (dN D)) 30 := vp_in_nI hn (by omega)
  have hin2 : vp_in (nI t) 10 := vp_in_nI ht (by omega)
  refine Cq_of2 ok_Land_addPlace rfl (Nat.le_of_ble_eq_true rfl) (L := [some (.ref 1), some (.int pe), some (.int ze), some (.int on), some (.int ar), some (.int (nI t)), none]) rfl ?_
  refine V_aload_n d_Land_addPlace_0 rfl ?_
  refine V_getI d_Land_addPlace_1 f_Land_39 rfl (by first | rfl | assumption) (by first | rfl | assumption) ?_
  rw [l1]
  refine V_istore d_Land_addPlace_4 (by decide) ?_
  dsimp only [List.set]
  refine V_aload_n d_Land_addPlace_6 rfl ?_
  refine V_dup d_Land_addPlace_7 rfl ?_
  refine V_getI d_Land_addPlace_8 f_Land_39 rfl (by first | rfl | assumption) (by first | rfl | assumption) ?_
  refine V_iconst (v := 1) d_Land_addPlace_11 (by decide) ?_
  refine V_iadd d_Land_addPlace_12 ?_
  refine V_put (ty := .int) d_Land_addPlace_13 f_Land_39 rfl (by first | rfl | assumption) (by first | rfl | assumption) (by decide +kernel) (by first | rfl | assumption) (by first | rfl | assumption) ?_
  refine V_aload_n d_Land_addPlace_16 rfl ?_
  refine V_getR d_Land_addPlace_17 f_Land_9 rfl (by first | rfl | assumption) (by first | rfl | assumption) ?_
  refine V_iload d_Land_addPlace_20 rfl ?_
  refine V_iload_n d_Land_addPlace_22 rfl ?_
  refine V_iast d_Land_addPlace_23 (by first | rfl | assumption) (by first | assumption | exact vp_in_nI (by omega) (by omega)) ?_
  refine V_aload_n d_Land_addPlace_24 rfl ?_
  refine V_dup d_Land_addPlace_25 rfl ?_
  refine V_getI d_Land_addPlace_26 f_Land_47 rfl (by first | rfl | assumption) (by first | rfl | assumption) ?_
  refine V_iload_n d_Land_addPlace_29 rfl ?_
  refine V_iadd d_Land_addPlace_30 ?_
  refine V_put (ty := .int) d_Land_addPlace_31 f_Land_47 rfl (by first | rfl | assumption) (by first | rfl | assumption) (by decide +kernel) (by first | rfl | assumption) (by first | rfl | assumption) ?_
  refine V_aload_n d_Land_addPlace_34 rfl ?_
  refine V_getR d_Land_addPlace_35 f_Land_15 rfl (by first | rfl | assumption) (by first | rfl | assumption) ?_
  refine V_iload d_Land_addPlace_38 rfl ?_
  refine V_iload_n d_Land_addPlace_40 rfl ?_
  refine V_iast d_Land_addPlace_41 (by first | rfl | assumption) (by first | assumption | exact vp_in_nI (by omega) (by omega)) ?_
  refine V_aload_n d_Land_addPlace_42 rfl ?_
  refine V_getR d_Land_addPlace_43 f_Land_18 rfl (by first | rfl | assumption) (by first | rfl | assumption) ?_
  refine V_iload d_Land_addPlace_46 rfl ?_
  refine V_iload_n d_Land_addPlace_48 rfl ?_
  refine V_iast d_Land_addPlace_49 (by first | rfl | assumption) (by first | assumption | exact vp_in_nI (by omega) (by omega)) ?_
  refine V_aload_n d_Land_addPlace_50 rfl ?_
  refine V_getR d_Land_addPlace_51 f_Land_21 rfl (by first | rfl | assumption) (by first | rfl | assumption) ?_
  refine V_iload d_Land_addPlace_54 rfl ?_
  refine V_iload d_Land_addPlace_56 rfl ?_
  refine V_iast d_Land_addPlace_58 (by first | rfl | assumption) (by first | assumption | exact vp_in_nI (by omega) (by omega)) ?_
  refine V_aload_n d_Land_addPlace_59 rfl ?_
  refine V_getR d_Land_addPlace_60 f_Land_27 rfl (by first | rfl | assumption) (by first | rfl | assumption) ?_
  refine V_iload d_Land_addPlace_63 rfl ?_
  refine V_dup2 d_Land_addPlace_65 rfl rfl ?_
  refine V_iald d_Land_addPlace_66 (by first | rfl | assumption) (by first | assumption | exact vp_in_nI (by omega) (by omega)) ?_
  refine V_iload d_Land_addPlace_67 rfl ?_
  refine V_callS1 d_Land_addPlace_69 k_Land_50 rfl (c_only _ hn) rfl (by first | decide | omega) rfl (Nat.le_of_ble_eq_true rfl) ?_
  refine V_ior d_Land_addPlace_72 ?_
  refine V_iast d_Land_addPlace_73 (by first | rfl | assumption) (by first | assumption | exact vp_in_nI (by omega) (by omega)) ?_
  refine V_iload d_Land_addPlace_74 rfl ?_
  refine V_iret d_Land_addPlace_76 rfl ?_
  rw [nI_clamp (by omega), nI_clamp (by omega)]
  refine ⟨rfl, ⟨?_, ?_, ?_, fun p hp => ?_, fun b hb => ?_, fun i hi => ?_, fun s hs => ?_⟩, fun q hq => ?_⟩
  · simp [hup, upd, l1, nI_1]
    rfl
  · simp [hup, upd, l2]
    rfl
  · simp [hup, upd, l3]
    show smP (dPe D) (fun _ => true) (dN D) + pe = smP (updA (dPe D) (dN D) pe) (fun _ => true) (dN D + 1)
    rw [smP, updA_same]
    simp only [if_true]
    rw [smP_congf (f := updA (dPe D) (dN D) pe) (g := dPe D) (fun i hi => updA_ne (by omega))]
  · have hp : p < dN D + 1 := hp
    by_cases h1 : p = dN D
    · subst h1
      simp [hup, upd]
      exact ⟨(updA_same _ _ _).symm, (updA_same _ _ _).symm, (updA_same _ _ _).symm, (updA_same _ _ _).symm⟩
    · simp [hup, upd, h1]
      obtain ⟨a1, a2, a3, a4⟩ := l4 p (by omega)
      exact ⟨a1.trans (updA_ne h1).symm, a2.trans (updA_ne h1).symm, a3.trans (updA_ne h1).symm, a4.trans (updA_ne h1).symm⟩
  · simp [hup, upd]
    exact l5 b hb
  · simp [hup, upd]
    exact l6 i hi
  · simp [hup, upd]
    show _ = cI (fun j => decide (j < dN D + 1) && decide (updA (dTw D) (dN D) t j = s))
    by_cases h1 : s = t
    · subst h1
      rw [if_pos rfl, l7 s hs]
      refine cI_eq (hi_or (cI_hi _) (onl_hi hn)) (fun j hj => ?_)
      rw [cs_or, cI_cs _ hj, cs_onl hn hj]
      by_cases h2 : j = dN D
      · subst h2; simp [updA_same]
      · rw [updA_ne h2, show decide (j < dN D + 1) = decide (j < dN D) from decide_eq_decide.mpr (by omega)]
        simp [h2]
    · rw [if_neg h1, l7 s hs]
      refine cI_cong (fun j hj => ?_)
      by_cases h2 : j = dN D
      · subst h2; simp [updA_same, Ne.symm h1]
      · rw [updA_ne h2, show decide (j < dN D + 1) = decide (j < dN D) from decide_eq_decide.mpr (by omega)]
  · simp only [hup]
    have n1 : ¬ q = 1 := by omega
    have n2 : ¬ q = 2 := by omega
    have n3 : ¬ q = 3 := by omega
    have n4 : ¬ q = 4 := by omega
    have n5 : ¬ q = 5 := by omega
    have n6 : ¬ q = 7 := by omega
    simp [n1, n2, n3, n4, n5, n6]
theorem nbB_cong {fr to fr' to' : Nat → Nat} {i j : Nat} : ∀ {n : Nat}, (∀ b, b < n → fr b = fr' b ∧ to b = to' b) → nbB fr to n i j = nbB fr' to' n i j
  | 0, _ => rfl
  | n + 1, h => by rw [nbB, nbB, nbB_cong (fun b hb => h b (by omega)), (h n (by omega)).1, (h n (by omega)).2]
theorem dNb_add (D : LD) (a b : Nat) (ln : Int32) (i j : Nat) : dNb (addBo D a b ln) i j = (dNb D i j || (decide (a = i) && decide (b = j)) || (decide (a = j) && decide (b = i))) := by
  show nbB (updA (dFr D) (dB D) a) (updA (dTo D) (dB D) b) (dB D + 1) i j = _
  rw [nbB, updA_same, updA_same, nbB_cong (fr' := dFr D) (to' := dTo D) (fun c hc => ⟨updA_ne (by omega), updA_ne (by omega)⟩)]
  rfl
theorem c_addBorder {E : Wd} {h : Hp} {D : LD} (hl : LandW h D) (ok : okLD D) (hb : dB D < 100) {a b : Nat} (ha : a < 30) (hbb : b < 30) (hab : a ≠ b) (ln : Int32) :
    Cq E 1 m_Land_addBorder [.ref 1, .int (nI a), .int (nI b), .int ln] h (fun v h' => v = some (.int (nI (dB D))) ∧ LandW h' (addBo D a b ln) ∧ ∀ q, (q < 1 ∨ 10 < q) → h' q = h q) := by
  obtain ⟨l1, l2, l3, l4, l5, l6, l7⟩ := hl
  have hin : vp_in (nI (dB D)) 100 := vp_in_nI hb (by omega)
  have hina : vp_in (nI a) 30 := vp_in_nI ha (by omega)
  have hinb : vp_in (nI b) 30 := vp_in_nI hbb (by omega)
  refine Cq_of2 ok_Land_addBorder rfl (Nat.le_of_ble_eq_true rfl) (L := [some (.ref 1), some (.int (nI a)), some (.int (nI b)), some (.int ln), none]) rfl ?_
  refine V_aload_n d_Land_addBorder_0 rfl ?_
  refine V_getI d_Land_addBorder_1 f_Land_56 rfl (by first | rfl | assumption) (by first | rfl | assumption) ?_
  rw [l2]
  refine V_istore d_Land_addBorder_4 (by decide) ?_
  dsimp only [List.set]
  refine V_aload_n d_Land_addBorder_6 rfl ?_
  refine V_dup d_Land_addBorder_7 rfl ?_
  refine V_getI d_Land_addBorder_8 f_Land_56 rfl (by first | rfl | assumption) (by first | rfl | assumption) ?_
  refine V_iconst (v := 1) d_Land_addBorder_11 (by decide) ?_
  refine V_iadd d_Land_addBorder_12 ?_
  refine V_put (ty := .int) d_Land_addBorder_13 f_Land_56 rfl (by first | rfl | assumption) (by first | rfl | assumption) (by decide +kernel) (by first | rfl | assumption) (by first | rfl | assumption) ?_
  refine V_aload_n d_Land_addBorder_16 rfl ?_
  refine V_getR d_Land_addBorder_17 f_Land_30 rfl (by first | rfl | assumption) (by first | rfl | assumption) ?_
  refine V_iload d_Land_addBorder_20 rfl ?_
  refine V_iload_n d_Land_addBorder_22 rfl ?_
  refine V_iast d_Land_addBorder_23 (by first | rfl | assumption) (by first | assumption | exact vp_in_nI (by omega) (by omega)) ?_
  refine V_aload_n d_Land_addBorder_24 rfl ?_
  refine V_getR d_Land_addBorder_25 f_Land_33 rfl (by first | rfl | assumption) (by first | rfl | assumption) ?_
  refine V_iload d_Land_addBorder_28 rfl ?_
  refine V_iload_n d_Land_addBorder_30 rfl ?_
  refine V_iast d_Land_addBorder_31 (by first | rfl | assumption) (by first | assumption | exact vp_in_nI (by omega) (by omega)) ?_
  refine V_aload_n d_Land_addBorder_32 rfl ?_
  refine V_getR d_Land_addBorder_33 f_Land_36 rfl (by first | rfl | assumption) (by first | rfl | assumption) ?_
  refine V_iload d_Land_addBorder_36 rfl ?_
  refine V_iload_n d_Land_addBorder_38 rfl ?_
  refine V_iast d_Land_addBorder_39 (by first | rfl | assumption) (by first | assumption | exact vp_in_nI (by omega) (by omega)) ?_
  refine V_aload_n d_Land_addBorder_40 rfl ?_
  refine V_getR d_Land_addBorder_41 f_Land_24 rfl (by first | rfl | assumption) (by first | rfl | assumption) ?_
  refine V_iload_n d_Land_addBorder_44 rfl ?_
  refine V_dup2 d_Land_addBorder_45 rfl rfl ?_
  refine V_iald d_Land_addBorder_46 (by first | rfl | assumption) (by first | assumption | exact vp_in_nI (by omega) (by omega)) ?_
  refine V_iload_n d_Land_addBorder_47 rfl ?_
  refine V_callS1 d_Land_addBorder_48 k_Land_50 rfl (c_only _ hbb) rfl (by first | decide | omega) rfl (Nat.le_of_ble_eq_true rfl) ?_
  refine V_ior d_Land_addBorder_51 ?_
  refine V_iast d_Land_addBorder_52 (by first | rfl | assumption) (by first | assumption | exact vp_in_nI (by omega) (by omega)) ?_
  refine V_aload_n d_Land_addBorder_53 rfl ?_
  refine V_getR d_Land_addBorder_54 f_Land_24 rfl (by first | rfl | assumption) (by first | rfl | assumption) ?_
  refine V_iload_n d_Land_addBorder_57 rfl ?_
  refine V_dup2 d_Land_addBorder_58 rfl rfl ?_
  refine V_iald d_Land_addBorder_59 (by first | rfl | assumption) (by first | assumption | exact vp_in_nI (by omega) (by omega)) ?_
  refine V_iload_n d_Land_addBorder_60 rfl ?_
  refine V_callS1 d_Land_addBorder_61 k_Land_50 rfl (c_only _ ha) rfl (by first | decide | omega) rfl (Nat.le_of_ble_eq_true rfl) ?_
  refine V_ior d_Land_addBorder_64 ?_
  refine V_iast d_Land_addBorder_65 (by first | rfl | assumption) (by first | assumption | exact vp_in_nI (by omega) (by omega)) ?_
  refine V_iload d_Land_addBorder_66 rfl ?_
  refine V_iret d_Land_addBorder_68 rfl ?_
  rw [nI_clamp (by omega), nI_clamp (by omega), nI_clamp (by omega)]
  refine ⟨rfl, ⟨?_, ?_, ?_, fun p hp => ?_, fun c hc => ?_, fun i hi => ?_, fun s hs => ?_⟩, fun q hq => ?_⟩
  · simp [hup, upd, l1]
    rfl
  · simp [hup, upd, l2, nI_1]
    rfl
  · simp [hup, upd]
    exact l3
  · simp [hup, upd]
    exact l4 p hp
  · have hc : c < dB D + 1 := hc
    by_cases h1 : c = dB D
    · subst h1
      simp [hup, upd]
      exact ⟨congrArg nI (updA_same _ _ _).symm, congrArg nI (updA_same _ _ _).symm, (updA_same _ _ _).symm⟩
    · simp [hup, upd, h1]
      obtain ⟨a1, a2, a3⟩ := l5 c (by omega)
      exact ⟨a1.trans (congrArg nI (updA_ne h1).symm), a2.trans (congrArg nI (updA_ne h1).symm), a3.trans (updA_ne h1).symm⟩
  · simp [hup, upd, Ne.symm hab]
    have e : ∀ x y, x < 30 → y < 30 → cI (dNb D x) ||| onl y = cI (fun j => dNb D x j || decide (j = y)) := by
      intro x y hx hy
      refine cI_eq (hi_or (cI_hi _) (onl_hi hy)) (fun j hj => ?_)
      rw [cs_or, cI_cs _ hj, cs_onl hy hj]
    by_cases h1 : i = b
    · subst h1
      rw [if_pos rfl, l6 i hi, e i a hi ha]
      refine cI_cong (fun j hj => ?_)
      rw [dNb_add]
      by_cases h2 : j = a
      · subst h2; simp
      · simp [h2, hab, Ne.symm h2]
    · rw [if_neg h1]
      by_cases h2 : i = a
      · subst h2
        rw [if_pos rfl, l6 i hi, e i b hi hbb]
        refine cI_cong (fun j hj => ?_)
        rw [dNb_add]
        by_cases h3 : j = b
        · subst h3; simp
        · simp [h3, Ne.symm h3, Ne.symm h1]
      · rw [if_neg h2, l6 i hi]
        refine cI_cong (fun j hj => ?_)
        rw [dNb_add]
        simp [Ne.symm h2, Ne.symm h1]
  · simp [hup, upd]
    exact l7 s hs
  · simp only [hup]
    have n1 : ¬ q = 1 := by omega
    have n2 : ¬ q = 8 := by omega
    have n3 : ¬ q = 9 := by omega
    have n4 : ¬ q = 10 := by omega
    have n5 : ¬ q = 6 := by omega
    simp [n1, n2, n3, n4, n5]
theorem c_changePeople {E : Wd} {h : Hp} {D : LD} (hl : LandW h D) (ok : okLD D) {p : Nat} (hp : p < dN D) (v : Int32) :
    Cq E 1 m_Land_changePeople [.ref 1, .int (nI p), .int v] h (fun r h' => r = some (.int (dPe D p)) ∧ LandW h' (setPe D p v) ∧ ∀ q, (q < 1 ∨ 10 < q) → h' q = h q) := by
  obtain ⟨l1, l2, l3, l4, l5, l6, l7⟩ := hl
  have hn := ok.1
  have hin : vp_in (nI p) 30 := vp_in_nI (by omega) (by omega)
  refine Cq_of2 ok_Land_changePeople rfl (Nat.le_of_ble_eq_true rfl) (L := [some (.ref 1), some (.int (nI p)), some (.int v), none]) rfl ?_
  refine V_aload_n d_Land_changePeople_0 rfl ?_
  refine V_getR d_Land_changePeople_1 f_Land_9 rfl (by first | rfl | assumption) (by first | rfl | assumption) ?_
  refine V_iload_n d_Land_changePeople_4 rfl ?_
  refine V_iald d_Land_changePeople_5 (by first | rfl | assumption) (by first | assumption | exact vp_in_nI (by omega) (by omega)) ?_
  rw [nI_clamp (by omega), (l4 p hp).1]
  refine V_istore_n d_Land_changePeople_6 (by decide) ?_
  dsimp only [List.set]
  refine V_aload_n d_Land_changePeople_7 rfl ?_
  refine V_getR d_Land_changePeople_8 f_Land_9 rfl (by first | rfl | assumption) (by first | rfl | assumption) ?_
  refine V_iload_n d_Land_changePeople_11 rfl ?_
  refine V_iload_n d_Land_changePeople_12 rfl ?_
  refine V_iast d_Land_changePeople_13 (by first | rfl | assumption) (by first | assumption | exact vp_in_nI (by omega) (by omega)) ?_
  refine V_aload_n d_Land_changePeople_14 rfl ?_
  refine V_dup d_Land_changePeople_15 rfl ?_
  refine V_getI d_Land_changePeople_16 f_Land_47 rfl (by first | rfl | assumption) (by first | rfl | assumption) ?_
  refine V_iload_n d_Land_changePeople_19 rfl ?_
  refine V_iload_n d_Land_changePeople_20 rfl ?_
  refine V_isub d_Land_changePeople_21 ?_
  refine V_iadd d_Land_changePeople_22 ?_
  refine V_put (ty := .int) d_Land_changePeople_23 f_Land_47 rfl (by first | rfl | assumption) (by first | rfl | assumption) (by decide +kernel) (by first | rfl | assumption) (by first | rfl | assumption) ?_
  refine V_iload_n d_Land_changePeople_26 rfl ?_
  refine V_iret d_Land_changePeople_27 rfl ?_
  rw [nI_clamp (by omega)]
  refine ⟨rfl, ⟨?_, ?_, ?_, fun q hq => ?_, fun c hc => ?_, fun i hi => ?_, fun s hs => ?_⟩, fun q hq => ?_⟩
  · simp [hup, upd, l1]
    rfl
  · simp [hup, upd, l2]
    rfl
  · simp [hup, upd, l3]
    exact (smP_upd hp).symm
  · simp [hup, upd]
    obtain ⟨a1, a2, a3, a4⟩ := l4 q hq
    refine ⟨?_, a2, a3, a4⟩
    show _ = updA (dPe D) p v q
    by_cases h1 : q = p
    · rw [if_pos h1, h1, updA_same]
    · rw [if_neg h1, updA_ne h1]; exact a1
  · simp [hup, upd]
    exact l5 c hc
  · simp [hup, upd]
    exact l6 i hi
  · simp [hup, upd]
    exact l7 s hs
  · simp only [hup]
    have n1 : ¬ q = 1 := by omega
    have n2 : ¬ q = 2 := by omega
    simp [n1, n2]
theorem c_fixNothing {E : Wd} {h : Hp} : Cd E 1 m_Law_fixNothing [.ref 11] h none (hrow h 13 (fa_fill (fun _ => -1) (h 13) 30)) := by
  refine Cd_of ok_Law_fixNothing rfl (Nat.le_of_ble_eq_true rfl) (L := [some (.ref 11)]) rfl ?_
  refine V_aload_n d_Law_fixNothing_0 rfl ?_
  refine V_getR d_Law_fixNothing_1 f_Law_25 rfl (by first | rfl | assumption) (by first | rfl | assumption) ?_
  refine V_iconst (v := -1) d_Law_fixNothing_4 (by decide) ?_
  refine V_callS0 d_Law_fixNothing_5 k_Law_29 rfl (c_fill h (by decide) rfl (-1)) rfl (by first | decide | omega) rfl (Nat.le_of_ble_eq_true rfl) ?_
  refine V_vret d_Law_fixNothing_8 rfl ?_
  exact ⟨rfl, rfl⟩
