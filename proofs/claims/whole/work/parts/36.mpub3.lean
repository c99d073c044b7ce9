/-! the model's calls, on: keep, cuts, fix, people, put, at, lawful, measure, land, seen -/
noncomputable def opKeep (S : ST) (t is : Int32) : Int32 × ST := @ite _ (inR t 0 9 ∧ inR is 0 1) (Classical.propDecidable _) ((if wKp S.2.1 t.toNatClampNeg then 1 else 0), (S.1, ((wK S.2.1, wT S.2.1, wC S.2.1), updA (wKp S.2.1) t.toNatClampNeg (decide (is = 1)), wFx S.2.1), S.2.2)) (-1, S)
theorem opKeep_no {S : ST} {t is : Int32} (h : ¬ (inR t 0 9 ∧ inR is 0 1)) : opKeep S t is = (-1, S) := @if_neg _ (Classical.propDecidable _) h _ _ _
theorem opKeep_yes {S : ST} {t is : Int32} (h : inR t 0 9 ∧ inR is 0 1) : opKeep S t is = ((if wKp S.2.1 t.toNatClampNeg then 1 else 0), (S.1, ((wK S.2.1, wT S.2.1, wC S.2.1), updA (wKp S.2.1) t.toNatClampNeg (decide (is = 1)), wFx S.2.1), S.2.2)) := @if_pos _ (Classical.propDecidable _) h _ _ _
theorem c_Mkeep {E : Wd} {h : Hp} {S : ST} (hm : MoW h S) (ok : okST S) (t is : Int32) : MC E 1 m_Mo_keep [.int t, .int is] h (opKeep S t is) := by
  have no : ¬ (inR t 0 9 ∧ inR is 0 1) → V E 1 m_Mo_keep (fun r h' => r = some (.int (opKeep S t is).1) ∧ MoW h' (opKeep S t is).2 ∧ ∀ q, q < 41 → h' q = h q) 19 [some (.ref 41), some (.int t), some (.int is), none] [] h := by
    intro hno
    rw [opKeep_no hno]
    refine V_iconst (v := -1) d_Mo_keep_19 (by decide) ?_
    refine V_iret d_Mo_keep_20 rfl ?_
    exact ⟨rfl, hm, fun _ _ => rfl⟩
  refine Cq_of2 ok_Mo_keep rfl (Nat.le_of_ble_eq_true rfl) (L := [some (.ref 41), some (.int t), some (.int is), none]) rfl ?_
  refine V_iload_n d_Mo_keep_0 rfl ?_
  refine V_iconst (v := 0) d_Mo_keep_1 (by decide) ?_
  refine V_bipush (v := 9) d_Mo_keep_2 (by decide) ?_
  refine V_callS1 d_Mo_keep_4 k_Mo_87 rfl (c_Min h _ _ _) rfl (by first | decide | omega) rfl (Nat.le_of_ble_eq_true rfl) ?_
  refine V_if_eq (tgt := 19) d_Mo_keep_7 (by decide) (fun b7 => ?_) (fun b7 => ?_)
  · exact no (fun q => p2i.mp b7 q.1)
  · refine V_iload_n d_Mo_keep_10 rfl ?_
    refine V_iconst (v := 0) d_Mo_keep_11 (by decide) ?_
    refine V_iconst (v := 1) d_Mo_keep_12 (by decide) ?_
    refine V_callS1 d_Mo_keep_13 k_Mo_87 rfl (c_Min h _ _ _) rfl (by first | decide | omega) rfl (Nat.le_of_ble_eq_true rfl) ?_
    refine V_if_ne (tgt := 21) d_Mo_keep_16 (by decide) (fun b16 => ?_) (fun b16 => ?_)
    · have hok : inR t 0 9 ∧ inR is 0 1 := ⟨p2in.mp b7, p2in.mp b16⟩
      rw [opKeep_yes hok]
      obtain ⟨t', ht', rfl⟩ := (inR_nI (n := 9) (by omega)).mp hok.1
      rw [nI_clamp (by omega)]
      have hin : vp_in (nI t') 10 := vp_in_nI (by omega) (by omega)
      obtain ⟨w1, w2, w3, w4, w5⟩ := hm.2.1
      have fin : ∀ x : Int32, x = (if wKp S.2.1 t' then 1 else 0) → V E 1 m_Mo_keep (fun r h' => r = some (.int (if wKp S.2.1 t' then 1 else 0)) ∧ MoW h' (S.1, ((wK S.2.1, wT S.2.1, wC S.2.1), updA (wKp S.2.1) t' (decide (is = 1)), wFx S.2.1), S.2.2) ∧ ∀ q, q < 41 → h' q = h q) 35 [some (.ref 41), some (.int (nI t')), some (.int is), none] [.int x] h := by
        intro x hx
        have sto : ∀ b : Bool, decide (is = 1) = b → V E 1 m_Mo_keep (fun r h' => r = some (.int (if wKp S.2.1 t' then 1 else 0)) ∧ MoW h' (S.1, ((wK S.2.1, wT S.2.1, wC S.2.1), updA (wKp S.2.1) t' (decide (is = 1)), wFx S.2.1), S.2.2) ∧ ∀ q, q < 41 → h' q = h q) 51 [some (.ref 41), some (.int (nI t')), some (.int is), some (.int x)] [.int (if b then 1 else 0), .int (nI t'), .ref 50] h := by
          intro b hb
          refine V_zast d_Mo_keep_51 rfl hin (by cases b <;> decide) ?_
          refine V_iload_n d_Mo_keep_52 rfl ?_
          refine V_iret d_Mo_keep_53 rfl ?_
          rw [nI_clamp (by omega), hx, hb]
          refine ⟨rfl, ⟨?_, ⟨?_, ?_, ?_, fun s hs => ?_, fun p hp => ?_⟩, fun j hj => ?_, ?_, fun f hf i hi => ?_⟩, fun q hq => hup_ne (by omega)⟩
          · obtain ⟨l1, l2, l3, l4, l5⟩ := hm.1
            refine ⟨?_, ?_, fun p hp => ?_, fun b hb => ?_, fun x hx => ?_⟩
            · simp [hup]; exact l1
            · simp [hup]; exact l2
            · simp [hup]; exact l3 p hp
            · simp [hup]; exact l4 b hb
            · simp [hup]; exact l5 x hx
          · simp [hup]; exact w1
          · simp [hup]; exact w2
          · simp [hup]; exact w3
          · show hup h 50 t' (if b = true then 1 else 0) 50 s = if updA (wKp S.2.1) t' b s then 1 else 0
            rw [hup_same]
            by_cases h1 : s = t'
            · rw [h1, upd_s, updA_same]
            · rw [upd_n h1, updA_ne h1]; exact w4 s hs
          · simp [hup]; exact w5 p hp
          · simp [hup]; exact hm.2.2.1 j hj
          · simp [hup]; exact hm.2.2.2.1
          · simp [hup]; exact hm.2.2.2.2 f hf i hi
        refine V_istore_n d_Mo_keep_35 (by decide) ?_
        dsimp only [List.set]
        refine V_aload_n d_Mo_keep_36 rfl ?_
        refine V_getR d_Mo_keep_37 f_Mo_41 rfl (by first | rfl | assumption) (by first | rfl | assumption) ?_
        refine V_iload_n d_Mo_keep_40 rfl ?_
        refine V_iload_n d_Mo_keep_41 rfl ?_
        refine V_iconst (v := 1) d_Mo_keep_42 (by decide) ?_
        refine V_icmp_ne (tgt := 50) d_Mo_keep_43 (by decide) (fun b43 => ?_) (fun b43 => ?_)
        · refine V_iconst (v := 0) d_Mo_keep_50 (by decide) ?_
          exact sto false (decide_eq_false b43)
        · refine V_iconst (v := 1) d_Mo_keep_46 (by decide) ?_
          refine V_goto (tgt := 51) d_Mo_keep_47 (by decide) ?_
          exact sto true (decide_eq_true b43)
      refine V_aload_n d_Mo_keep_21 rfl ?_
      refine V_getR d_Mo_keep_22 f_Mo_41 rfl (by first | rfl | assumption) (by first | rfl | assumption) ?_
      refine V_iload_n d_Mo_keep_25 rfl ?_
      refine V_zald d_Mo_keep_26 (by first | rfl | assumption) (by first | assumption | exact vp_in_nI (by omega) (by omega)) ?_
      rw [nI_clamp (by omega), w4 t' (by omega)]
      refine V_if_eq (tgt := 34) d_Mo_keep_27 (by decide) (fun b27 => ?_) (fun b27 => ?_)
      · refine V_iconst (v := 0) d_Mo_keep_34 (by decide) ?_
        exact fin 0 (by rw [b2i.mp b27]; rfl)
      · refine V_iconst (v := 1) d_Mo_keep_30 (by decide) ?_
        refine V_goto (tgt := 35) d_Mo_keep_31 (by decide) ?_
        exact fin 1 (by rw [b2in.mp b27]; rfl)
    · exact no (fun q => p2i.mp b16 q.2)
noncomputable def opCuts (S : ST) (n : Int32) : Int32 × ST := @ite _ (inR n 0 10) (Classical.propDecidable _) (nI (wC S.2.1), (S.1, ((wK S.2.1, wT S.2.1, n.toNatClampNeg), wKp S.2.1, wFx S.2.1), S.2.2)) (-1, S)
theorem opCuts_no {S : ST} {n : Int32} (h : ¬ inR n 0 10) : opCuts S n = (-1, S) := @if_neg _ (Classical.propDecidable _) h _ _ _
theorem opCuts_yes {S : ST} {n : Int32} (h : inR n 0 10) : opCuts S n = (nI (wC S.2.1), (S.1, ((wK S.2.1, wT S.2.1, n.toNatClampNeg), wKp S.2.1, wFx S.2.1), S.2.2)) := @if_pos _ (Classical.propDecidable _) h _ _ _
theorem c_Mcuts {E : Wd} {h : Hp} {S : ST} (hm : MoW h S) (ok : okST S) (n : Int32) : MC E 1 m_Mo_cuts [.int n] h (opCuts S n) := by
  refine Cq_of2 ok_Mo_cuts rfl (Nat.le_of_ble_eq_true rfl) (L := [some (.ref 41), some (.int n), none]) rfl ?_
  refine V_iload_n d_Mo_cuts_0 rfl ?_
  refine V_iconst (v := 0) d_Mo_cuts_1 (by decide) ?_
  refine V_bipush (v := 10) d_Mo_cuts_2 (by decide) ?_
  refine V_callS1 d_Mo_cuts_4 k_Mo_87 rfl (c_Min h _ _ _) rfl (by first | decide | omega) rfl (Nat.le_of_ble_eq_true rfl) ?_
  refine V_if_ne (tgt := 12) d_Mo_cuts_7 (by decide) (fun b7 => ?_) (fun b7 => ?_)
  · have hok : inR n 0 10 := p2in.mp b7
    rw [opCuts_yes hok]
    obtain ⟨n', hn', rfl⟩ := (inR_nI (n := 10) (by omega)).mp hok
    rw [nI_clamp (by omega)]
    obtain ⟨w1, w2, w3, w4, w5⟩ := hm.2.1
    refine V_aload_n d_Mo_cuts_12 rfl ?_
    refine V_getI d_Mo_cuts_13 f_Mo_45 rfl (by first | rfl | assumption) (by first | rfl | assumption) ?_
    refine V_istore_n d_Mo_cuts_16 (by decide) ?_
    dsimp only [List.set]
    refine V_aload_n d_Mo_cuts_17 rfl ?_
    refine V_iload_n d_Mo_cuts_18 rfl ?_
    refine V_put (ty := .int) d_Mo_cuts_19 f_Mo_45 rfl (by first | rfl | assumption) (by first | rfl | assumption) (by decide +kernel) (by first | rfl | assumption) (by first | rfl | assumption) ?_
    refine V_iload_n d_Mo_cuts_22 rfl ?_
    refine V_iret d_Mo_cuts_23 rfl ?_
    refine ⟨by rw [w3], ⟨?_, ⟨?_, ?_, ?_, fun s hs => ?_, fun p hp => ?_⟩, fun j hj => ?_, ?_, fun f hf i hi => ?_⟩, fun q hq => hup_ne (by omega)⟩
    · obtain ⟨l1, l2, l3, l4, l5⟩ := hm.1
      refine ⟨?_, ?_, fun p hp => ?_, fun b hb => ?_, fun x hx => ?_⟩
      · simp [hup, upd]; exact l1
      · simp [hup, upd]; exact l2
      · simp [hup, upd]; exact l3 p hp
      · simp [hup, upd]; exact l4 b hb
      · simp [hup, upd]; exact l5 x hx
    · simp [hup, upd]; exact w1
    · simp [hup, upd]; exact w2
    · simp [hup, upd]; rfl
    · simp [hup, upd]; exact w4 s hs
    · simp [hup, upd]; exact w5 p hp
    · simp [hup, upd]; exact hm.2.2.1 j hj
    · simp [hup, upd]; exact hm.2.2.2.1
    · simp [hup, upd]; exact hm.2.2.2.2 f hf i hi
  · rw [opCuts_no (p2i.mp b7)]
    refine V_iconst (v := -1) d_Mo_cuts_10 (by decide) ?_
    refine V_iret d_Mo_cuts_11 rfl ?_
    exact ⟨rfl, hm, fun _ _ => rfl⟩
/-- a district, or -1, as it is fixed -/
noncomputable def fxO (x : Int32) : Option Nat := if x = -1 then none else some x.toNatClampNeg
noncomputable def opFix (S : ST) (p d : Int32) : Int32 × ST := @ite _ (isPl (dN S.1) p = true ∧ (d = -1 ∨ isPl (wK S.2.1) d = true)) (Classical.propDecidable _) (fxI (wFx S.2.1 p.toNatClampNeg), (S.1, ((wK S.2.1, wT S.2.1, wC S.2.1), wKp S.2.1, updA (wFx S.2.1) p.toNatClampNeg (fxO d)), S.2.2)) (-1, S)
theorem opFix_no {S : ST} {p d : Int32} (h : ¬ (isPl (dN S.1) p = true ∧ (d = -1 ∨ isPl (wK S.2.1) d = true))) : opFix S p d = (-1, S) := @if_neg _ (Classical.propDecidable _) h _ _ _
theorem opFix_yes {S : ST} {p d : Int32} (h : isPl (dN S.1) p = true ∧ (d = -1 ∨ isPl (wK S.2.1) d = true)) : opFix S p d = (fxI (wFx S.2.1 p.toNatClampNeg), (S.1, ((wK S.2.1, wT S.2.1, wC S.2.1), wKp S.2.1, updA (wFx S.2.1) p.toNatClampNeg (fxO d)), S.2.2)) := @if_pos _ (Classical.propDecidable _) h _ _ _
theorem fix_rng {k : Nat} (h1 : 1 ≤ k) (h6 : k ≤ 6) (d : Int32) : (-1 ≤ d ∧ d ≤ nI k - 1) ↔ (d = -1 ∨ isPl k d = true) := by
  rw [isPl_iff, ← sub1_nI (by omega) d]
  constructor
  · rintro ⟨q1, q2⟩
    by_cases h0 : 0 ≤ d
    · exact Or.inr ⟨h0, q2⟩
    · left
      rw [fa_eq]
      rw [fa_le] at q1 h0
      have e1 : (-1 : Int32).toInt = -1 := by decide
      have e0 : (0 : Int32).toInt = 0 := by decide
      omega
  · rintro (rfl | ⟨q1, q2⟩)
    · refine ⟨by decide, ?_⟩
      have e : nI k - 1 = nI (k - 1) := by
        have := nI_pred (k - 1)
        rw [show k - 1 + 1 = k by omega] at this
        exact this
      rw [e, fa_le, nI_toInt (by omega)]
      have e1 : (-1 : Int32).toInt = -1 := by decide
      omega
    · refine ⟨?_, q2⟩
      rw [fa_le] at q1 ⊢
      have e1 : (-1 : Int32).toInt = -1 := by decide
      have e0 : (0 : Int32).toInt = 0 := by decide
      omega
theorem fxO_I {k : Nat} (h6 : k ≤ 6) {d : Int32} (h : d = -1 ∨ isPl k d = true) : fxI (fxO d) = d := by
  unfold fxO
  rcases h with rfl | h
  · rfl
  · obtain ⟨j, hj, rfl⟩ := isPl_iff.mp h
    have hne : ¬ nI j = -1 := by
      intro q
      have h1 : 0 ≤ (nI j : Int32) := nI_pos' (by omega)
      rw [q] at h1
      exact absurd h1 (by decide)
    rw [if_neg hne, nI_clamp (by omega)]
    rfl
theorem c_Mfix {E : Wd} {h : Hp} {S : ST} (hm : MoW h S) (ok : okST S) (p d : Int32) : MC E 1 m_Mo_fix [.int p, .int d] h (opFix S p d) := by
  have hn := ok.1.1
  have hk1 := ok.2.1.1
  have hk6 := ok.2.1.2.1
  have no : ¬ (isPl (dN S.1) p = true ∧ (d = -1 ∨ isPl (wK S.2.1) d = true)) → V E 1 m_Mo_fix (fun r h' => r = some (.int (opFix S p d).1) ∧ MoW h' (opFix S p d).2 ∧ ∀ q, q < 41 → h' q = h q) 22 [some (.ref 41), some (.int p), some (.int d), none] [] h := by
    intro hno
    rw [opFix_no hno]
    refine V_iconst (v := -1) d_Mo_fix_22 (by decide) ?_
    refine V_iret d_Mo_fix_23 rfl ?_
    exact ⟨rfl, hm, fun _ _ => rfl⟩
  obtain ⟨w1, w2, w3, w4, w5⟩ := hm.2.1
  refine Cq_of2 ok_Mo_fix rfl (Nat.le_of_ble_eq_true rfl) (L := [some (.ref 41), some (.int p), some (.int d), none]) rfl ?_
  refine V_aload_n d_Mo_fix_0 rfl ?_
  refine V_iload_n d_Mo_fix_1 rfl ?_
  refine V_callV1 d_Mo_fix_2 k_Mo_94 rfl (c_isPlace hm.1 ok.1 p) (by first | rfl | assumption) rfl rfl (by first | decide | omega) rfl (Nat.le_of_ble_eq_true rfl) ?_
  refine V_if_eq (tgt := 22) d_Mo_fix_5 (by decide) (fun b5 => ?_) (fun b5 => ?_)
  · exact no (fun q => by have q1 := q.1; rw [b2i.mp b5] at q1; cases q1)
  · refine V_iload_n d_Mo_fix_8 rfl ?_
    refine V_iconst (v := -1) d_Mo_fix_9 (by decide) ?_
    refine V_aload_n d_Mo_fix_10 rfl ?_
    refine V_getI d_Mo_fix_11 f_Mo_34 rfl (by first | rfl | assumption) (by first | rfl | assumption) ?_
    refine V_iconst (v := 1) d_Mo_fix_14 (by decide) ?_
    refine V_isub d_Mo_fix_15 ?_
    rw [w1]
    refine V_callS1 d_Mo_fix_16 k_Mo_87 rfl (c_Min h _ _ _) rfl (by first | decide | omega) rfl (Nat.le_of_ble_eq_true rfl) ?_
    refine V_if_ne (tgt := 24) d_Mo_fix_19 (by decide) (fun b19 => ?_) (fun b19 => ?_)
    · have hok : isPl (dN S.1) p = true ∧ (d = -1 ∨ isPl (wK S.2.1) d = true) := ⟨b2in.mp b5, (fix_rng hk1 hk6 d).mp (p2in.mp b19)⟩
      rw [opFix_yes hok]
      obtain ⟨j, hj, rfl⟩ := isPl_iff.mp hok.1
      rw [nI_clamp (by omega)]
      have hin : vp_in (nI j) 30 := vp_in_nI (by omega) (by omega)
      refine V_aload_n d_Mo_fix_24 rfl ?_
      refine V_getR d_Mo_fix_25 f_Mo_48 rfl (by first | rfl | assumption) (by first | rfl | assumption) ?_
      refine V_iload_n d_Mo_fix_28 rfl ?_
      refine V_iald d_Mo_fix_29 (by first | rfl | assumption) (by first | assumption | exact vp_in_nI (by omega) (by omega)) ?_
      refine V_istore_n d_Mo_fix_30 (by decide) ?_
      dsimp only [List.set]
      refine V_aload_n d_Mo_fix_31 rfl ?_
      refine V_getR d_Mo_fix_32 f_Mo_48 rfl (by first | rfl | assumption) (by first | rfl | assumption) ?_
      refine V_iload_n d_Mo_fix_35 rfl ?_
      refine V_iload_n d_Mo_fix_36 rfl ?_
      refine V_iast d_Mo_fix_37 (by first | rfl | assumption) (by first | assumption | exact vp_in_nI (by omega) (by omega)) ?_
      refine V_iload_n d_Mo_fix_38 rfl ?_
      refine V_iret d_Mo_fix_39 rfl ?_
      rw [nI_clamp (by omega)]
      refine ⟨by rw [w5 j (by omega)], ⟨?_, ⟨?_, ?_, ?_, fun s hs => ?_, fun p hp => ?_⟩, fun j hj => ?_, ?_, fun f hf i hi => ?_⟩, fun q hq => hup_ne (by omega)⟩
      · obtain ⟨l1, l2, l3, l4, l5⟩ := hm.1
        refine ⟨?_, ?_, fun p hp => ?_, fun b hb => ?_, fun x hx => ?_⟩
        · simp [hup]; exact l1
        · simp [hup]; exact l2
        · simp [hup]; exact l3 p hp
        · simp [hup]; exact l4 b hb
        · simp [hup]; exact l5 x hx
      · simp [hup]; exact w1
      · simp [hup]; exact w2
      · simp [hup]; exact w3
      · simp [hup]; exact w4 s hs
      · show hup h 51 j d 51 p = fxI (updA (wFx S.2.1) j (fxO d) p)
        rw [hup_same]
        by_cases h1 : p = j
        · rw [h1, upd_s, updA_same, fxO_I hk6 hok.2]
        · rw [upd_n h1, updA_ne h1]; exact w5 p hp
      · simp [hup]; exact hm.2.2.1 j hj
      · simp [hup]; exact hm.2.2.2.1
      · simp [hup]; exact hm.2.2.2.2 f hf i hi
    · exact no (fun q => p2i.mp b19 ((fix_rng hk1 hk6 d).mpr q.2))
noncomputable def opPeople (S : ST) (p v : Int32) : Int32 × ST := @ite _ (isPl (dN S.1) p = true ∧ inR v 0 1000) (Classical.propDecidable _) (dPe S.1 p.toNatClampNeg, (setPe S.1 p.toNatClampNeg v, S.2)) (-1, S)
theorem opPeople_no {S : ST} {p v : Int32} (h : ¬ (isPl (dN S.1) p = true ∧ inR v 0 1000)) : opPeople S p v = (-1, S) := @if_neg _ (Classical.propDecidable _) h _ _ _
theorem opPeople_yes {S : ST} {p v : Int32} (h : isPl (dN S.1) p = true ∧ inR v 0 1000) : opPeople S p v = (dPe S.1 p.toNatClampNeg, (setPe S.1 p.toNatClampNeg v, S.2)) := @if_pos _ (Classical.propDecidable _) h _ _ _
theorem c_Mpeople {E : Wd} {h : Hp} {S : ST} (hm : MoW h S) (ok : okST S) (p v : Int32) : MC E 1 m_Mo_people [.int p, .int v] h (opPeople S p v) := by
  have hn := ok.1.1
  have no : ¬ (isPl (dN S.1) p = true ∧ inR v 0 1000) → V E 1 m_Mo_people (fun r h' => r = some (.int (opPeople S p v).1) ∧ MoW h' (opPeople S p v).2 ∧ ∀ q, q < 41 → h' q = h q) 19 [some (.ref 41), some (.int p), some (.int v), none] [] h := by
    intro hno
    rw [opPeople_no hno]
    refine V_iconst (v := -1) d_Mo_people_19 (by decide) ?_
    refine V_iret d_Mo_people_20 rfl ?_
    exact ⟨rfl, hm, fun _ _ => rfl⟩
  refine Cq_of2 ok_Mo_people rfl (Nat.le_of_ble_eq_true rfl) (L := [some (.ref 41), some (.int p), some (.int v), none]) rfl ?_
  refine V_aload_n d_Mo_people_0 rfl ?_
  refine V_iload_n d_Mo_people_1 rfl ?_
  refine V_callV1 d_Mo_people_2 k_Mo_94 rfl (c_isPlace hm.1 ok.1 p) (by first | rfl | assumption) rfl rfl (by first | decide | omega) rfl (Nat.le_of_ble_eq_true rfl) ?_
  refine V_if_eq (tgt := 19) d_Mo_people_5 (by decide) (fun b5 => ?_) (fun b5 => ?_)
  · exact no (fun q => by have q1 := q.1; rw [b2i.mp b5] at q1; cases q1)
  · refine V_iload_n d_Mo_people_8 rfl ?_
    refine V_iconst (v := 0) d_Mo_people_9 (by decide) ?_
    refine V_sipush (v := 1000) d_Mo_people_10 (by decide) ?_
    refine V_callS1 d_Mo_people_13 k_Mo_87 rfl (c_Min h _ _ _) rfl (by first | decide | omega) rfl (Nat.le_of_ble_eq_true rfl) ?_
    refine V_if_ne (tgt := 21) d_Mo_people_16 (by decide) (fun b16 => ?_) (fun b16 => ?_)
    · have hok : isPl (dN S.1) p = true ∧ inR v 0 1000 := ⟨b2in.mp b5, p2in.mp b16⟩
      rw [opPeople_yes hok]
      obtain ⟨j, hj, rfl⟩ := isPl_iff.mp hok.1
      rw [nI_clamp (by omega)]
      have hin : vp_in (nI j) 30 := vp_in_nI (by omega) (by omega)
      obtain ⟨l1, l2, l3, l4, l5⟩ := hm.1
      obtain ⟨w1, w2, w3, w4, w5⟩ := hm.2.1
      refine V_aload_n d_Mo_people_21 rfl ?_
      refine V_getR d_Mo_people_22 f_Mo_9 rfl (by first | rfl | assumption) (by first | rfl | assumption) ?_
      refine V_iload_n d_Mo_people_25 rfl ?_
      refine V_iald d_Mo_people_26 (by first | rfl | assumption) (by first | assumption | exact vp_in_nI (by omega) (by omega)) ?_
      refine V_istore_n d_Mo_people_27 (by decide) ?_
      dsimp only [List.set]
      refine V_aload_n d_Mo_people_28 rfl ?_
      refine V_getR d_Mo_people_29 f_Mo_9 rfl (by first | rfl | assumption) (by first | rfl | assumption) ?_
      refine V_iload_n d_Mo_people_32 rfl ?_
      refine V_iload_n d_Mo_people_33 rfl ?_
      refine V_iast d_Mo_people_34 (by first | rfl | assumption) (by first | assumption | exact vp_in_nI (by omega) (by omega)) ?_
      refine V_iload_n d_Mo_people_35 rfl ?_
      refine V_iret d_Mo_people_36 rfl ?_
      rw [nI_clamp (by omega)]
      refine ⟨by rw [(l3 j hj).1], ⟨⟨?_, ?_, fun p hp => ?_, fun b hb => ?_, fun x hx => ?_⟩, ⟨?_, ?_, ?_, fun s hs => ?_, fun p hp => ?_⟩, fun j hj => ?_, ?_, fun f hf i hi => ?_⟩, fun q hq => hup_ne (by omega)⟩
      · simp [hup]; exact l1
      · simp [hup]; exact l2
      · obtain ⟨a1, a2⟩ := l3 p hp
        simp [hup]
        refine ⟨?_, a2⟩
        show upd (h 42) j v p = updA (dPe S.1) j v p
        by_cases h1 : p = j
        · rw [h1, upd_s, updA_same]
        · rw [upd_n h1, updA_ne h1]; exact a1
      · simp [hup]; exact l4 b hb
      · simp [hup]; exact l5 x hx
      · simp [hup]; exact w1
      · simp [hup]; exact w2
      · simp [hup]; exact w3
      · simp [hup]; exact w4 s hs
      · simp [hup]; exact w5 p hp
      · simp [hup]; exact hm.2.2.1 j hj
      · simp [hup]; exact hm.2.2.2.1
      · simp [hup]; exact hm.2.2.2.2 f hf i hi
    · exact no (fun q => p2i.mp b16 q.2)
noncomputable def opPut (S : ST) (p d : Int32) : Int32 × ST := @ite _ (isPl (dN S.1) p = true ∧ isPl (wK S.2.1) d = true) (Classical.propDecidable _) (nI (S.2.2.1 p.toNatClampNeg), (S.1, S.2.1, setN S.2.2.1 p.toNatClampNeg d.toNatClampNeg, S.2.2.2)) (-1, S)
theorem opPut_no {S : ST} {p d : Int32} (h : ¬ (isPl (dN S.1) p = true ∧ isPl (wK S.2.1) d = true)) : opPut S p d = (-1, S) := @if_neg _ (Classical.propDecidable _) h _ _ _
theorem opPut_yes {S : ST} {p d : Int32} (h : isPl (dN S.1) p = true ∧ isPl (wK S.2.1) d = true) : opPut S p d = (nI (S.2.2.1 p.toNatClampNeg), (S.1, S.2.1, setN S.2.2.1 p.toNatClampNeg d.toNatClampNeg, S.2.2.2)) := @if_pos _ (Classical.propDecidable _) h _ _ _
theorem MoW_ds {h : Hp} {S : ST} (hm : MoW h S) {f : Nat → Int32} {ds : Nat → Nat} (hf : ∀ j, j < 30 → ds j < 6 ∧ f j = nI (ds j)) : MoW (hrow h 52 f) (S.1, S.2.1, ds, S.2.2.2) := by
  have k : mKeep h (hrow h 52 f) := mKeep.row (by omega)
  exact ⟨hm.1.of k, hm.2.1.of k, fun j hj => by rw [hrow_same]; exact hf j hj, by rw [hrow_ne (by omega)]; exact hm.2.2.2.1, fun g hg i hi => by rw [hrow_ne (by omega)]; exact hm.2.2.2.2 g hg i hi⟩
theorem c_Mput {E : Wd} {h : Hp} {S : ST} (hm : MoW h S) (ok : okST S) (p d : Int32) : MC E 1 m_Mo_put [.int p, .int d] h (opPut S p d) := by
  have hn := ok.1.1
  have hk6 := ok.2.1.2.1
  have no : ¬ (isPl (dN S.1) p = true ∧ isPl (wK S.2.1) d = true) → V E 1 m_Mo_put (fun r h' => r = some (.int (opPut S p d).1) ∧ MoW h' (opPut S p d).2 ∧ ∀ q, q < 41 → h' q = h q) 22 [some (.ref 41), some (.int p), some (.int d), none] [] h := by
    intro hno
    rw [opPut_no hno]
    refine V_iconst (v := -1) d_Mo_put_22 (by decide) ?_
    refine V_iret d_Mo_put_23 rfl ?_
    exact ⟨rfl, hm, fun _ _ => rfl⟩
  refine Cq_of2 ok_Mo_put rfl (Nat.le_of_ble_eq_true rfl) (L := [some (.ref 41), some (.int p), some (.int d), none]) rfl ?_
  refine V_aload_n d_Mo_put_0 rfl ?_
  refine V_iload_n d_Mo_put_1 rfl ?_
  refine V_callV1 d_Mo_put_2 k_Mo_94 rfl (c_isPlace hm.1 ok.1 p) (by first | rfl | assumption) rfl rfl (by first | decide | omega) rfl (Nat.le_of_ble_eq_true rfl) ?_
  refine V_if_eq (tgt := 22) d_Mo_put_5 (by decide) (fun b5 => ?_) (fun b5 => ?_)
  · exact no (fun q => by have q1 := q.1; rw [b2i.mp b5] at q1; cases q1)
  · refine V_iload_n d_Mo_put_8 rfl ?_
    refine V_iconst (v := 0) d_Mo_put_9 (by decide) ?_
    refine V_aload_n d_Mo_put_10 rfl ?_
    refine V_getI d_Mo_put_11 f_Mo_34 rfl (by first | rfl | assumption) (by first | rfl | assumption) ?_
    refine V_iconst (v := 1) d_Mo_put_14 (by decide) ?_
    refine V_isub d_Mo_put_15 ?_
    rw [hm.2.1.1]
    refine V_callS1 d_Mo_put_16 k_Mo_87 rfl (c_Min h _ _ _) rfl (by first | decide | omega) rfl (Nat.le_of_ble_eq_true rfl) ?_
    refine V_if_ne (tgt := 24) d_Mo_put_19 (by decide) (fun b19 => ?_) (fun b19 => ?_)
    · have hok : isPl (dN S.1) p = true ∧ isPl (wK S.2.1) d = true := ⟨b2in.mp b5, isPl_iff.mpr ((sub1_nI (by omega) d).mp (p2in.mp b19))⟩
      rw [opPut_yes hok]
      obtain ⟨j, hj, rfl⟩ := isPl_iff.mp hok.1
      obtain ⟨e, he, rfl⟩ := isPl_iff.mp hok.2
      rw [nI_clamp (by omega), nI_clamp (by omega)]
      have hin : vp_in (nI j) 30 := vp_in_nI (by omega) (by omega)
      refine V_aload_n d_Mo_put_24 rfl ?_
      refine V_getR d_Mo_put_25 f_Mo_51 rfl (by first | rfl | assumption) (by first | rfl | assumption) ?_
      refine V_iload_n d_Mo_put_28 rfl ?_
      refine V_iald d_Mo_put_29 (by first | rfl | assumption) (by first | assumption | exact vp_in_nI (by omega) (by omega)) ?_
      refine V_istore_n d_Mo_put_30 (by decide) ?_
      dsimp only [List.set]
      refine V_aload_n d_Mo_put_31 rfl ?_
      refine V_getR d_Mo_put_32 f_Mo_51 rfl (by first | rfl | assumption) (by first | rfl | assumption) ?_
      refine V_iload_n d_Mo_put_35 rfl ?_
      refine V_iload_n d_Mo_put_36 rfl ?_
      refine V_iast d_Mo_put_37 (by first | rfl | assumption) (by first | assumption | exact vp_in_nI (by omega) (by omega)) ?_
      refine V_iload_n d_Mo_put_38 rfl ?_
      refine V_iret d_Mo_put_39 rfl ?_
      rw [nI_clamp (by omega), (hm.2.2.1 j (by omega)).2, hup_row]
      refine ⟨rfl, MoW_ds hm (fun i hi => ?_), fun q hq => hrow_ne (by omega)⟩
      unfold setN upd
      by_cases h1 : i = j
      · rw [if_pos h1, if_pos h1]; exact ⟨by omega, rfl⟩
      · rw [if_neg h1, if_neg h1]; exact hm.2.2.1 i hi
    · exact no (fun q => p2i.mp b19 ((sub1_nI (by omega) d).mpr (isPl_iff.mp q.2)))
noncomputable def opAt (S : ST) (p : Int32) : Int32 × ST := (if isPl (dN S.1) p then nI (S.2.2.1 p.toNatClampNeg) else -1, S)
theorem c_Mat {E : Wd} {h : Hp} {S : ST} (hm : MoW h S) (ok : okST S) (p : Int32) : MC E 1 m_Mo_at [.int p] h (opAt S p) := by
  have hn := ok.1.1
  refine Cq_of2 ok_Mo_at rfl (Nat.le_of_ble_eq_true rfl) (L := [some (.ref 41), some (.int p)]) rfl ?_
  refine V_aload_n d_Mo_at_0 rfl ?_
  refine V_iload_n d_Mo_at_1 rfl ?_
  refine V_callV1 d_Mo_at_2 k_Mo_94 rfl (c_isPlace hm.1 ok.1 p) (by first | rfl | assumption) rfl rfl (by first | decide | omega) rfl (Nat.le_of_ble_eq_true rfl) ?_
  refine V_if_eq (tgt := 17) d_Mo_at_5 (by decide) (fun b5 => ?_) (fun b5 => ?_)
  · refine V_iconst (v := -1) d_Mo_at_17 (by decide) ?_
    refine V_iret d_Mo_at_18 rfl ?_
    exact ⟨by unfold opAt; rw [b2i.mp b5]; rfl, hm, fun _ _ => rfl⟩
  · obtain ⟨j, hj, rfl⟩ := isPl_iff.mp (b2in.mp b5)
    have hin : vp_in (nI j) 30 := vp_in_nI (by omega) (by omega)
    refine V_aload_n d_Mo_at_8 rfl ?_
    refine V_getR d_Mo_at_9 f_Mo_51 rfl (by first | rfl | assumption) (by first | rfl | assumption) ?_
    refine V_iload_n d_Mo_at_12 rfl ?_
    refine V_iald d_Mo_at_13 (by first | rfl | assumption) (by first | assumption | exact vp_in_nI (by omega) (by omega)) ?_
    refine V_goto (tgt := 18) d_Mo_at_14 (by decide) ?_
    refine V_iret d_Mo_at_18 rfl ?_
    refine ⟨?_, hm, fun _ _ => rfl⟩
    unfold opAt
    rw [b2in.mp b5, nI_clamp (by omega), (hm.2.2.1 j (by omega)).2]
    rfl
noncomputable def opLawful (S : ST) : Int32 × ST := (if dN S.1 = 0 then -5 else nI (brk S.1 S.2.1 S.2.2.1), S)
theorem MoW_g {h : Hp} {S : ST} (hm : MoW h S) {g : Nat → Int32} (hg : okg h g) : MoW (hrow h 41 g) S := hm.of hg.keep (hrow_ne (by omega)) (by rw [hrow_same]; exact hg 27 (by omega) (by omega) (by omega)) (hrow_ne (by omega))
theorem c_Mbroken {E : Wd} {h : Hp} {D : LD} {w : LW} (hl : MoLand h D) (ok : okLD D) (hw : MoLaw h w) (okw : okLW w) {ds : Nat → Nat} (hd : MoDs h ds) (fr : Bool) : Cq E 4 m_Mo_broken [.ref 41, .int (if fr then 1 else 0)] h (fun v h' => v = some (.int (nI (brk D (wfr fr w) ds))) ∧ ∃ g, okg h g ∧ h' = hrow h 41 g) := by
  refine Cq_of2 ok_Mo_broken rfl (Nat.le_of_ble_eq_true rfl) (L := [some (.ref 41), some (.int (if fr then 1 else 0)), none, none, none, none]) rfl ?_
  exact Mbroken_core hl ok hw okw hd fr _ (fun m g hg hb _ _ => ⟨by rw [hb], g, hg, rfl⟩)
theorem c_Mlawful {E : Wd} {h : Hp} {S : ST} (hm : MoW h S) (ok : okST S) : MC E 5 m_Mo_lawful [] h (opLawful S) := by
  have hn := ok.1.1
  refine Cq_of2 ok_Mo_lawful rfl (Nat.le_of_ble_eq_true rfl) (L := [some (.ref 41)]) rfl ?_
  refine V_aload_n d_Mo_lawful_0 rfl ?_
  refine V_getI d_Mo_lawful_1 f_Mo_91 rfl (by first | rfl | assumption) (by first | rfl | assumption) ?_
  rw [hm.1.1]
  refine V_if_ne (tgt := 12) d_Mo_lawful_4 (by decide) (fun b4 => ?_) (fun b4 => ?_)
  · refine V_aload_n d_Mo_lawful_12 rfl ?_
    refine V_iconst (v := 0) d_Mo_lawful_13 (by decide) ?_
    refine V_callV d_Mo_lawful_14 k_Mo_139 rfl (c_Mbroken hm.1 ok.1 hm.2.1 ok.2.1 hm.2.2.1 false) (by first | rfl | assumption) rfl rfl (by first | decide | omega) rfl (Nat.le_of_ble_eq_true rfl) (fun v_ h_ q_ => ?_)
    obtain ⟨rfl, g, hg, rfl⟩ := q_
    refine V_iret d_Mo_lawful_17 rfl ?_
    refine ⟨?_, MoW_g hm hg, fun q hq => hrow_ne (by omega)⟩
    unfold opLawful
    rw [if_neg (fun q => b4 (by rw [q]; rfl))]
    rfl
  · have h0 : dN S.1 = 0 := (eq_nI (dN S.1) 0 rfl rfl (by omega) (by decide)).mp b4
    refine V_bipush (v := -5) d_Mo_lawful_7 (by decide) ?_
    refine V_goto (tgt := 17) d_Mo_lawful_9 (by decide) ?_
    refine V_iret d_Mo_lawful_17 rfl ?_
    exact ⟨by unfold opLawful; rw [if_pos h0], hm, fun _ _ => rfl⟩
noncomputable def opMeasure (S : ST) (m : Int32) : Int32 × ST := (@ite _ (inR m 0 6) (Classical.propDecidable _) (val S.1 S.2.1 S.2.2.1 m.toNatClampNeg) (-1), S)
theorem c_Mmeasure {E : Wd} {h : Hp} {S : ST} (hm : MoW h S) (ok : okST S) (m : Int32) : MC E 3 m_Mo_measure [.int m] h (opMeasure S m) := by
  refine Cq_of2 ok_Mo_measure rfl (Nat.le_of_ble_eq_true rfl) (L := [some (.ref 41), some (.int m)]) rfl ?_
  refine V_iload_n d_Mo_measure_0 rfl ?_
  refine V_iconst (v := 0) d_Mo_measure_1 (by decide) ?_
  refine V_bipush (v := 6) d_Mo_measure_2 (by decide) ?_
  refine V_callS1 d_Mo_measure_4 k_Mo_87 rfl (c_Min h _ _ _) rfl (by first | decide | omega) rfl (Nat.le_of_ble_eq_true rfl) ?_
  refine V_if_eq (tgt := 18) d_Mo_measure_7 (by decide) (fun b7 => ?_) (fun b7 => ?_)
  · refine V_iconst (v := -1) d_Mo_measure_18 (by decide) ?_
    refine V_iret d_Mo_measure_19 rfl ?_
    exact ⟨by unfold opMeasure; rw [@if_neg _ (Classical.propDecidable _) (p2i.mp b7)], hm, fun _ _ => rfl⟩
  · have hok : inR m 0 6 := p2in.mp b7
    obtain ⟨m', hm', rfl⟩ := (inR_nI (n := 6) (by omega)).mp hok
    refine V_aload_n d_Mo_measure_10 rfl ?_
    refine V_iload_n d_Mo_measure_11 rfl ?_
    refine V_callV1 d_Mo_measure_12 k_Mo_150 rfl (c_value hm.1 ok.1 hm.2.1 ok.2.1 hm.2.2.1 ok.2.2.1 hm') (by first | rfl | assumption) rfl rfl (by first | decide | omega) rfl (Nat.le_of_ble_eq_true rfl) ?_
    refine V_goto (tgt := 19) d_Mo_measure_15 (by decide) ?_
    refine V_iret d_Mo_measure_19 rfl ?_
    exact ⟨by unfold opMeasure; rw [@if_pos _ (Classical.propDecidable _) hok, nI_clamp (by omega)], hm, fun _ _ => rfl⟩
noncomputable def opSeen (S : ST) (i : Int32) : Int32 × ST := (match S.2.2.2 with
  | some f => @ite _ (inR i 0 5) (Classical.propDecidable _) (f i.toNatClampNeg) (-1)
  | none => -1, S)
theorem c_Mseen {E : Wd} {h : Hp} {S : ST} (hm : MoW h S) (ok : okST S) (i : Int32) : MC E 1 m_Mo_seen [.int i] h (opSeen S i) := by
  refine Cq_of2 ok_Mo_seen rfl (Nat.le_of_ble_eq_true rfl) (L := [some (.ref 41), some (.int i)]) rfl ?_
  refine V_aload_n d_Mo_seen_0 rfl ?_
  refine V_getI d_Mo_seen_1 f_Mo_213 rfl (by first | rfl | assumption) (by first | rfl | assumption) ?_
  rw [hm.2.2.2.1]
  refine V_if_eq (tgt := 25) d_Mo_seen_4 (by decide) (fun b4 => ?_) (fun b4 => ?_)
  · refine V_iconst (v := -1) d_Mo_seen_25 (by decide) ?_
    refine V_iret d_Mo_seen_26 rfl ?_
    refine ⟨?_, hm, fun _ _ => rfl⟩
    unfold opSeen
    cases hq : S.2.2.2 with
    | none => rfl
    | some f => rw [hq] at b4; exact absurd b4 (show ¬ ((1 : Int32) = 0) by decide)
  · cases hq : S.2.2.2 with
    | none => rw [hq] at b4; exact absurd rfl b4
    | some f =>
      refine V_iload_n d_Mo_seen_7 rfl ?_
      refine V_iconst (v := 0) d_Mo_seen_8 (by decide) ?_
      refine V_iconst (v := 5) d_Mo_seen_9 (by decide) ?_
      refine V_callS1 d_Mo_seen_10 k_Mo_87 rfl (c_Min h _ _ _) rfl (by first | decide | omega) rfl (Nat.le_of_ble_eq_true rfl) ?_
      refine V_if_eq (tgt := 25) d_Mo_seen_13 (by decide) (fun b13 => ?_) (fun b13 => ?_)
      · refine V_iconst (v := -1) d_Mo_seen_25 (by decide) ?_
        refine V_iret d_Mo_seen_26 rfl ?_
        refine ⟨?_, hm, fun _ _ => rfl⟩
        unfold opSeen
        rw [hq]
        simp only []
        rw [@if_neg _ (Classical.propDecidable _) (p2i.mp b13)]
      · have hok : inR i 0 5 := p2in.mp b13
        obtain ⟨i', hi', rfl⟩ := (inR_nI (n := 5) (by omega)).mp hok
        have hin : vp_in (nI i') 6 := vp_in_nI (by omega) (by omega)
        refine V_aload_n d_Mo_seen_16 rfl ?_
        refine V_getR d_Mo_seen_17 f_Mo_72 rfl (by first | rfl | assumption) (by first | rfl | assumption) ?_
        refine V_iload_n d_Mo_seen_20 rfl ?_
        refine V_iald d_Mo_seen_21 (by first | rfl | assumption) (by first | assumption | exact vp_in_nI (by omega) (by omega)) ?_
        refine V_goto (tgt := 26) d_Mo_seen_22 (by decide) ?_
        refine V_iret d_Mo_seen_26 rfl ?_
        refine ⟨?_, hm, fun _ _ => rfl⟩
        unfold opSeen
        rw [hq]
        simp only []
        rw [@if_pos _ (Classical.propDecidable _) hok, nI_clamp (by omega), hm.2.2.2.2 f hq i' (by omega)]
