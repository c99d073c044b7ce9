/-! the model's calls, on: why, district, land -/
noncomputable def why2 (D : LD) (w : LW) (ds : Nat → Nat) (what : Int32) : Int32 := match cul D w ds 2 with
  | none => -1
  | some d => match fstO (dP D ds d) 30 with
    | none => -1
    | some a => if what = 0 then nI d else if what = 1 then nI a else if what = 2 then fxI (fstO (fun j => dP D ds d j && !reach D (dP D ds d) a j) 30) else -1
theorem why2_eq {D : LD} {w : LW} {ds : Nat → Nat} {what : Int32} {d a : Nat} (hd : cul D w ds 2 = some d) (ha : fstO (dP D ds d) 30 = some a) : why2 D w ds what = if what = 0 then nI d else if what = 1 then nI a else if what = 2 then fxI (fstO (fun j => dP D ds d j && !reach D (dP D ds d) a j) 30) else -1 := by
  unfold why2
  rw [hd]
  simp only []
  rw [ha]
noncomputable def whyI (D : LD) (w : LW) (ds : Nat → Nat) (what : Int32) (m : Nat) : Int32 := if m = 0 then -1 else if m = 2 then why2 D w ds what else if what = 0 then fxI (cul D w ds m) else -1
noncomputable def opWhy (S : ST) (what : Int32) : Int32 × ST := (if dN S.1 = 0 then -1 else whyI S.1 S.2.1 S.2.2.1 what (brk S.1 S.2.1 S.2.2.1), S)
theorem brk_some {D : LD} {w : LW} {ds : Nat → Nat} {m : Nat} (h : brk D w ds = m) (hm : m ≠ 0) : m ≤ 6 ∧ ∃ d, cul D w ds m = some d := by
  unfold brk at h
  cases hq : fstO (fun i => (cul D w ds (i + 1)).isSome) 6 with
  | none => rw [hq] at h; exact absurd h.symm hm
  | some i =>
    rw [hq] at h
    have h : i + 1 = m := h
    obtain ⟨h1, h2, -⟩ := fstO_lt hq
    rw [h] at h2
    refine ⟨by omega, ?_⟩
    cases hc : cul D w ds m with
    | none => rw [hc] at h2; cases h2
    | some d => exact ⟨d, rfl⟩
theorem cul2_fst {D : LD} {w : LW} {ds : Nat → Nat} {d : Nat} (h : cul D w ds 2 = some d) : ∃ a, fstO (dP D ds d) 30 = some a := by
  have h : fstO (fun d => badB D w 2 (dP D ds d)) (wK w) = some d := h
  obtain ⟨-, h2, -⟩ := fstO_lt h
  rw [badB_2] at h2
  cases hq : fstO (dP D ds d) 30 with
  | some a => exact ⟨a, rfl⟩
  | none =>
    have hno := fstO_none_iff.mp hq
    have : hang D (dP D ds d) = true := hang_iff.mpr (fun a j ha _ h1 _ => by rw [hno a ha] at h1; cases h1)
    rw [this] at h2
    cases h2
theorem c_Mwhy {E : Wd} {h : Hp} {S : ST} (hm : MoW h S) (ok : okST S) (what : Int32) : MC E 5 m_Mo_why [.int what] h (opWhy S what) := by
  have hn := ok.1.1
  refine Cq_of2 ok_Mo_why rfl (Nat.le_of_ble_eq_true rfl) (L := [some (.ref 41), some (.int what), none]) rfl ?_
  refine V_aload_n d_Mo_why_0 rfl ?_
  refine V_getI d_Mo_why_1 f_Mo_91 rfl (by first | rfl | assumption) (by first | rfl | assumption) ?_
  rw [hm.1.1]
  refine V_if_ne (tgt := 9) d_Mo_why_4 (by decide) (fun b4 => ?_) (fun b4 => ?_)
  · have h0 : ¬ dN S.1 = 0 := fun q => b4 (by rw [q]; rfl)
    refine V_aload_n d_Mo_why_9 rfl ?_
    refine V_iconst (v := 0) d_Mo_why_10 (by decide) ?_
    have key : Cq E 4 m_Mo_broken [.ref 41, .int 0] h (fun v h' => ∃ m g, v = some (.int (nI m)) ∧ okg h g ∧ h' = hrow h 41 g ∧ brk S.1 S.2.1 S.2.2.1 = m ∧ (∀ d, m ≠ 0 → cul S.1 S.2.1 S.2.2.1 m = some d → g 16 = nI d) ∧ (m = 2 → ∀ d a, cul S.1 S.2.1 S.2.2.1 2 = some d → fstO (dP S.1 S.2.2.1 d) 30 = some a → g 17 = nI a ∧ g 18 = fxI (fstO (fun j => dP S.1 S.2.2.1 d j && !reach S.1 (dP S.1 S.2.2.1 d) a j) 30))) := by
      refine Cq_of2 ok_Mo_broken rfl (Nat.le_of_ble_eq_true rfl) (L := [some (.ref 41), some (.int 0), none, none, none, none]) rfl ?_
      exact Mbroken_core hm.1 ok.1 hm.2.1 ok.2.1 hm.2.2.1 false _ (fun m g hg hb c1 c2 => ⟨m, g, rfl, hg, rfl, hb, c1, c2⟩)
    refine V_callV d_Mo_why_11 k_Mo_139 rfl (key) (by first | rfl | assumption) rfl rfl (by first | decide | omega) rfl (Nat.le_of_ble_eq_true rfl) (fun v_ h_ q_ => ?_)
    obtain ⟨m, g, rfl, hg, rfl, hb, c1, c2⟩ := q_
    have hend : ∀ x, x = (opWhy S what).1 → (fun (r : Option Value) (h' : Hp) => r = some (.int (opWhy S what).1) ∧ MoW h' (opWhy S what).2 ∧ ∀ q, q < 41 → h' q = h q) (some (.int x)) (hrow h 41 g) := by
      intro x hx
      subst hx
      exact ⟨rfl, MoW_g hm hg, fun q hq => hrow_ne (by omega)⟩
    have hop : (opWhy S what).1 = whyI S.1 S.2.1 S.2.2.1 what m := by
      unfold opWhy
      rw [if_neg h0, hb]
    have m6 : m ≤ 6 := by
      by_cases q : m = 0
      · omega
      · exact (brk_some hb q).1
    have neg : ¬ (m ≠ 0 ∧ (what = 0 ∨ (m = 2 ∧ (what = 1 ∨ what = 2)))) → (opWhy S what).1 = -1 := by
      intro hno
      rw [hop]
      unfold whyI
      by_cases q0 : m = 0
      · rw [if_pos q0]
      · rw [if_neg q0]
        by_cases q2 : m = 2
        · subst q2
          obtain ⟨-, d, hd⟩ := brk_some hb (by omega)
          obtain ⟨a, ha⟩ := cul2_fst hd
          rw [if_pos rfl, why2_eq hd ha, if_neg (fun z => hno ⟨by omega, Or.inl z⟩), if_neg (fun z => hno ⟨by omega, Or.inr ⟨rfl, Or.inl z⟩⟩), if_neg (fun z => hno ⟨by omega, Or.inr ⟨rfl, Or.inr z⟩⟩)]
        · have hw0 : ¬ what = 0 := fun z => hno ⟨q0, Or.inl z⟩
          rw [if_neg q2, if_neg hw0]
    have fin : m ≠ 0 → (what = 0 ∨ (m = 2 ∧ (what = 1 ∨ what = 2))) → V E 5 m_Mo_why (fun r h' => r = some (.int (opWhy S what).1) ∧ MoW h' (opWhy S what).2 ∧ ∀ q, q < 41 → h' q = h q) 39 [some (.ref 41), some (.int what), some (.int (nI m))] [] (hrow h 41 g) := by
      intro hm0 hwh
      obtain ⟨-, d, hd⟩ := brk_some hb hm0
      refine V_iload_n d_Mo_why_39 rfl ?_
      refine V_if_ne (tgt := 50) d_Mo_why_40 (by decide) (fun b40 => ?_) (fun b40 => ?_)
      · have hwh2 : m = 2 ∧ (what = 1 ∨ what = 2) := by
          rcases hwh with z | z
          · exact absurd z b40
          · exact z
        obtain ⟨rfl, hw12⟩ := hwh2
        obtain ⟨a, ha⟩ := cul2_fst hd
        obtain ⟨e1, e2⟩ := c2 rfl d a hd ha
        refine V_iload_n d_Mo_why_50 rfl ?_
        refine V_iconst (v := 1) d_Mo_why_51 (by decide) ?_
        refine V_icmp_ne (tgt := 62) d_Mo_why_52 (by decide) (fun b52 => ?_) (fun b52 => ?_)
        · refine V_aload_n d_Mo_why_62 rfl ?_
          refine V_getI d_Mo_why_63 f_Mo_130 rfl (by first | rfl | assumption) (by first | rfl | assumption) ?_
          refine V_iret d_Mo_why_66 rfl ?_
          refine hend _ ?_
          rw [hrow_same, e2, hop]
          unfold whyI
          rw [if_neg hm0, if_pos rfl, why2_eq hd ha, if_neg b40, if_neg b52]
          rcases hw12 with z | z
          · exact absurd z b52
          · rw [if_pos z]
        · refine V_aload_n d_Mo_why_55 rfl ?_
          refine V_getI d_Mo_why_56 f_Mo_127 rfl (by first | rfl | assumption) (by first | rfl | assumption) ?_
          refine V_goto (tgt := 66) d_Mo_why_59 (by decide) ?_
          refine V_iret d_Mo_why_66 rfl ?_
          refine hend _ ?_
          rw [hrow_same, e1, hop]
          unfold whyI
          rw [if_neg hm0, if_pos rfl, why2_eq hd ha, if_neg b40, if_pos b52]
      · refine V_aload_n d_Mo_why_43 rfl ?_
        refine V_getI d_Mo_why_44 f_Mo_118 rfl (by first | rfl | assumption) (by first | rfl | assumption) ?_
        refine V_goto (tgt := 66) d_Mo_why_47 (by decide) ?_
        refine V_iret d_Mo_why_66 rfl ?_
        refine hend _ ?_
        rw [hrow_same, c1 d hm0 hd, hop]
        unfold whyI
        rw [if_neg hm0]
        by_cases q2 : m = 2
        · subst q2
          obtain ⟨a, ha⟩ := cul2_fst hd
          rw [if_pos rfl, why2_eq hd ha, if_pos b40]
        · rw [if_neg q2, if_pos b40, hd]
          rfl
    have ret : (opWhy S what).1 = -1 → V E 5 m_Mo_why (fun r h' => r = some (.int (opWhy S what).1) ∧ MoW h' (opWhy S what).2 ∧ ∀ q, q < 41 → h' q = h q) 37 [some (.ref 41), some (.int what), some (.int (nI m))] [] (hrow h 41 g) := by
      intro hx
      refine V_iconst (v := -1) d_Mo_why_37 (by decide) ?_
      refine V_iret d_Mo_why_38 rfl ?_
      exact hend _ hx.symm
    show V E 5 m_Mo_why _ 14 _ [.int (nI m)] _
    refine V_istore_n d_Mo_why_14 (by decide) ?_
    dsimp only [List.set]
    refine V_iload_n d_Mo_why_15 rfl ?_
    refine V_if_eq (tgt := 37) d_Mo_why_16 (by decide) (fun b16 => ?_) (fun b16 => ?_)
    · have hm0 : m = 0 := (eq_nI m 0 rfl rfl (by omega) (by decide)).mp b16
      exact ret (neg (fun z => z.1 hm0))
    · have hm0 : m ≠ 0 := fun q => b16 (by rw [q]; rfl)
      refine V_iload_n d_Mo_why_19 rfl ?_
      refine V_if_lt (tgt := 37) d_Mo_why_20 (by decide) (fun b20 => ?_) (fun b20 => ?_)
      · refine ret (neg (fun z => ?_))
        rcases z.2 with z | ⟨-, z | z⟩
        · rw [z] at b20; exact absurd b20 (by decide)
        · rw [z] at b20; exact absurd b20 (by decide)
        · rw [z] at b20; exact absurd b20 (by decide)
      · refine V_iload_n d_Mo_why_23 rfl ?_
        refine V_iload_n d_Mo_why_24 rfl ?_
        refine V_iconst (v := 2) d_Mo_why_25 (by decide) ?_
        refine V_icmp_ne (tgt := 33) d_Mo_why_26 (by decide) (fun b26 => ?_) (fun b26 => ?_)
        · have hm2 : ¬ m = 2 := fun q => b26 (by rw [q]; rfl)
          refine V_iconst (v := 0) d_Mo_why_33 (by decide) ?_
          refine V_icmp_le (tgt := 39) d_Mo_why_34 (by decide) (fun b34 => ?_) (fun b34 => ?_)
          · refine fin hm0 (Or.inl ?_)
            rw [fa_eq]
            rw [fa_le] at b34
            rw [fa_lt] at b20
            have e0 : (0 : Int32).toInt = 0 := by decide
            omega
          · refine ret (neg (fun z => ?_))
            rcases z.2 with z | ⟨z, -⟩
            · rw [z] at b34; exact absurd (by decide) b34
            · exact hm2 z
        · have hm2 : m = 2 := (eq_nI m 2 rfl rfl (by omega) (by decide)).mp b26
          refine V_iconst (v := 2) d_Mo_why_29 (by decide) ?_
          refine V_goto (tgt := 34) d_Mo_why_30 (by decide) ?_
          refine V_icmp_le (tgt := 39) d_Mo_why_34 (by decide) (fun b34 => ?_) (fun b34 => ?_)
          · refine fin hm0 ?_
            rw [fa_le] at b34
            rw [fa_lt] at b20
            have e0 : (0 : Int32).toInt = 0 := by decide
            have e1 : (1 : Int32).toInt = 1 := by decide
            have e2 : (2 : Int32).toInt = 2 := by decide
            rcases (show what.toInt = 0 ∨ what.toInt = 1 ∨ what.toInt = 2 by omega) with z | z | z
            · exact Or.inl (by rw [fa_eq]; omega)
            · exact Or.inr ⟨hm2, Or.inl (by rw [fa_eq]; omega)⟩
            · exact Or.inr ⟨hm2, Or.inr (by rw [fa_eq]; omega)⟩
          · refine ret (neg (fun z => ?_))
            rcases z.2 with z | ⟨-, z | z⟩
            · rw [z] at b34; exact absurd (by decide) b34
            · rw [z] at b34; exact absurd (by decide) b34
            · rw [z] at b34; exact absurd (by decide) b34
  · have h0 : dN S.1 = 0 := (eq_nI (dN S.1) 0 rfl rfl (by omega) (by decide)).mp b4
    refine V_iconst (v := -1) d_Mo_why_7 (by decide) ?_
    refine V_iret d_Mo_why_8 rfl ?_
    exact ⟨by unfold opWhy; rw [if_pos h0], hm, fun _ _ => rfl⟩
noncomputable def opLand (S : ST) (what : Int32) : Int32 × ST := (if what = 0 then nI (dN S.1) else if what = 1 then nI (dB S.1) else if what = 2 then nI (tot S.1) else if what = 3 then nI (wK S.2.1) else if what = 4 then nI (wT S.2.1) else if what = 5 then nI (fa_cnt (fun p => (wFx S.2.1 p).isSome) 30) else if what = 6 then nI (wC S.2.1) else -1, S)
theorem cnt_cut {p : Nat → Bool} {n : Nat} : ∀ {m : Nat}, n ≤ m → (∀ i, n ≤ i → i < m → p i = false) → fa_cnt p m = fa_cnt p n
  | 0, h, _ => by rw [show n = 0 by omega]
  | m + 1, h, hp => by
    rcases Nat.lt_or_ge n (m + 1) with q | q
    · rw [fa_cnt, cnt_cut (by omega) (fun i h1 h2 => hp i h1 (by omega)), hp m (by omega) (by omega)]
      simp
    · rw [show n = m + 1 by omega]
theorem c_Mland {E : Wd} {h : Hp} {S : ST} (hm : MoW h S) (ok : okST S) (what : Int32) : MC E 3 m_Mo_land [.int what] h (opLand S what) := by
  have hn := ok.1.1
  obtain ⟨l1, l2, l3, l4, l5⟩ := id hm.1
  obtain ⟨w1, w2, w3, w4, w5⟩ := id hm.2.1
  refine Cq_of2 ok_Mo_land rfl (Nat.le_of_ble_eq_true rfl) (L := [some (.ref 41), some (.int what), none, none]) rfl ?_
  refine V_iconst (v := 0) d_Mo_land_0 (by decide) ?_
  refine V_istore_n d_Mo_land_1 (by decide) ?_
  dsimp only [List.set]
  refine V_iload_n d_Mo_land_2 rfl ?_
  by_cases hr : what.toInt < 0 ∨ 6 < what.toInt
  · refine V_tableOut (tgt := 109) d_Mo_land_3 hr (by decide) ?_
    refine V_iconst (v := -1) d_Mo_land_109 (by decide) ?_
    refine V_iret d_Mo_land_110 rfl ?_
    refine ⟨?_, hm, fun _ _ => rfl⟩
    have ne : ∀ n : Int32, 0 ≤ n.toInt → n.toInt ≤ 6 → ¬ what = n := fun n q1 q2 q => by rw [q] at hr; omega
    unfold opLand
    rw [if_neg (ne 0 (by decide) (by decide)), if_neg (ne 1 (by decide) (by decide)), if_neg (ne 2 (by decide) (by decide)), if_neg (ne 3 (by decide) (by decide)), if_neg (ne 4 (by decide) (by decide)), if_neg (ne 5 (by decide) (by decide)), if_neg (ne 6 (by decide) (by decide))]
  · obtain ⟨x, hx, rfl⟩ : ∃ x, x ≤ 6 ∧ what = nI x := by
      refine (inR_nI (n := 6) (by omega)).mp ⟨?_, ?_⟩
      · rw [fa_le]; have e0 : (0 : Int32).toInt = 0 := by decide
        omega
      · rw [fa_le, nI_toInt (by omega)]; omega
    rcases (show x = 0 ∨ x = 1 ∨ x = 2 ∨ x = 3 ∨ x = 4 ∨ x = 5 ∨ x = 6 by omega) with rfl | rfl | rfl | rfl | rfl | rfl | rfl
    · refine V_tableIn (off := 41) (tgt := 44) d_Mo_land_3 (by decide) (by decide) (by decide) (by decide) ?_
      refine V_aload_n d_Mo_land_44 rfl ?_
      refine V_getI d_Mo_land_45 f_Mo_91 rfl (by first | rfl | assumption) (by first | rfl | assumption) ?_
      refine V_iret d_Mo_land_48 rfl ?_
      exact ⟨by rw [l1]; rfl, hm, fun _ _ => rfl⟩
    · refine V_tableIn (off := 46) (tgt := 49) d_Mo_land_3 (by decide) (by decide) (by decide) (by decide) ?_
      refine V_aload_n d_Mo_land_49 rfl ?_
      refine V_getI d_Mo_land_50 f_Mo_102 rfl (by first | rfl | assumption) (by first | rfl | assumption) ?_
      refine V_iret d_Mo_land_53 rfl ?_
      exact ⟨by rw [l2]; rfl, hm, fun _ _ => rfl⟩
    · refine V_tableIn (off := 51) (tgt := 54) d_Mo_land_3 (by decide) (by decide) (by decide) (by decide) ?_
      refine V_aload_n d_Mo_land_54 rfl ?_
      refine V_callV1 d_Mo_land_55 k_Mo_112 rfl (c_all hm.1 ok.1) (by first | rfl | assumption) rfl rfl (by first | decide | omega) rfl (Nat.le_of_ble_eq_true rfl) ?_
      refine V_iret d_Mo_land_58 rfl ?_
      exact ⟨rfl, hm, fun _ _ => rfl⟩
    · refine V_tableIn (off := 56) (tgt := 59) d_Mo_land_3 (by decide) (by decide) (by decide) (by decide) ?_
      refine V_aload_n d_Mo_land_59 rfl ?_
      refine V_getI d_Mo_land_60 f_Mo_34 rfl (by first | rfl | assumption) (by first | rfl | assumption) ?_
      refine V_iret d_Mo_land_63 rfl ?_
      exact ⟨by rw [w1]; rfl, hm, fun _ _ => rfl⟩
    · refine V_tableIn (off := 61) (tgt := 64) d_Mo_land_3 (by decide) (by decide) (by decide) (by decide) ?_
      refine V_aload_n d_Mo_land_64 rfl ?_
      refine V_getI d_Mo_land_65 f_Mo_38 rfl (by first | rfl | assumption) (by first | rfl | assumption) ?_
      refine V_iret d_Mo_land_68 rfl ?_
      exact ⟨by rw [w2]; rfl, hm, fun _ _ => rfl⟩
    · refine V_tableIn (off := 66) (tgt := 69) d_Mo_land_3 (by decide) (by decide) (by decide) (by decide) ?_
      refine V_iconst (v := 0) d_Mo_land_69 (by decide) ?_
      refine V_istore_n d_Mo_land_70 (by decide) ?_
      dsimp only [List.set]
      have loop : ∀ i, i ≤ dN S.1 → V E 3 m_Mo_land (fun r h' => r = some (.int (opLand S (nI 5)).1) ∧ MoW h' (opLand S (nI 5)).2 ∧ ∀ q, q < 41 → h' q = h q) 71 [some (.ref 41), some (.int (nI 5)), some (.int (nI (fa_cnt (fun p => (wFx S.2.1 p).isSome) i))), some (.int (nI i))] [] h := by
        refine up_ind (dN S.1) ?_
        intro i hi ih
        refine V_iload_n d_Mo_land_71 rfl ?_
        refine V_aload_n d_Mo_land_72 rfl ?_
        refine V_getI d_Mo_land_73 f_Mo_91 rfl (by first | rfl | assumption) (by first | rfl | assumption) ?_
        rw [l1]
        refine V_icmp_ge (tgt := 102) d_Mo_land_76 (by decide) (fun b76 => ?_) (fun b76 => ?_)
        · obtain rfl := ge_eq b76 rfl rfl (by omega) hi
          refine V_iload_n d_Mo_land_102 rfl ?_
          refine V_iret d_Mo_land_103 rfl ?_
          refine ⟨?_, hm, fun _ _ => rfl⟩
          show some (Value.int (nI _)) = some (Value.int (nI (fa_cnt (fun p => (wFx S.2.1 p).isSome) 30)))
          rw [cnt_cut (m := 30) hn (fun i h1 h2 => by rw [ok.2.2.2.2 i h1]; rfl)]
        · have hin' := nge_lt b76 rfl rfl (by omega) hi
          have hin : vp_in (nI i) 30 := vp_in_nI (by omega) (by omega)
          have ih := ih hin'
          have hneg := fxI_neg (r := wFx S.2.1 i) (fun d hd => by have := ok.2.1.2.2.2.2 i d hd; have := ok.2.1.2.1; omega)
          refine V_iload_n d_Mo_land_79 rfl ?_
          refine V_aload_n d_Mo_land_80 rfl ?_
          refine V_getR d_Mo_land_81 f_Mo_48 rfl (by first | rfl | assumption) (by first | rfl | assumption) ?_
          refine V_iload_n d_Mo_land_84 rfl ?_
          refine V_iald d_Mo_land_85 (by first | rfl | assumption) (by first | assumption | exact vp_in_nI (by omega) (by omega)) ?_
          rw [nI_clamp (by omega), w5 i (by omega)]
          refine V_if_lt (tgt := 93) d_Mo_land_86 (by decide) (fun b86 => ?_) (fun b86 => ?_)
          · refine V_iconst (v := 0) d_Mo_land_93 (by decide) ?_
            refine V_iadd d_Mo_land_94 ?_
            refine V_istore_n d_Mo_land_95 (by decide) ?_
            dsimp only [List.set]
            refine V_iincw (w := 1) d_Mo_land_96 rfl (by decide) (by decide) ?_
            dsimp only [List.set]
            refine V_goto (tgt := 71) d_Mo_land_99 (by decide) ?_
            rw [fa_cnt_no (by rw [hneg.mp b86]; rfl)] at ih
            rw [nI_1, Int32.add_zero]
            exact ih
          · refine V_iconst (v := 1) d_Mo_land_89 (by decide) ?_
            refine V_goto (tgt := 94) d_Mo_land_90 (by decide) ?_
            refine V_iadd d_Mo_land_94 ?_
            refine V_istore_n d_Mo_land_95 (by decide) ?_
            dsimp only [List.set]
            refine V_iincw (w := 1) d_Mo_land_96 rfl (by decide) (by decide) ?_
            dsimp only [List.set]
            refine V_goto (tgt := 71) d_Mo_land_99 (by decide) ?_
            rw [fa_cnt_yes (by cases hq : wFx S.2.1 i with
              | none => exact absurd (hneg.mpr hq) b86
              | some d => rfl)] at ih
            rw [nI_1, nI_1]
            exact ih
      exact loop 0 (Nat.zero_le _)
    · refine V_tableIn (off := 101) (tgt := 104) d_Mo_land_3 (by decide) (by decide) (by decide) (by decide) ?_
      refine V_aload_n d_Mo_land_104 rfl ?_
      refine V_getI d_Mo_land_105 f_Mo_45 rfl (by first | rfl | assumption) (by first | rfl | assumption) ?_
      refine V_iret d_Mo_land_108 rfl ?_
      exact ⟨by rw [w3]; rfl, hm, fun _ _ => rfl⟩
