/-! the model's class calls -/
theorem c_size {E : Wd} {h : Hp} {S : ST} (hm : MoW h S) (ok : okST S) : Cd E 0 m_Mo_size [.ref 41] h (some (.int (szI S))) h := by
  have hn := ok.1.1
  refine Cd_of ok_Mo_size rfl (Nat.le_of_ble_eq_true rfl) (L := [some (.ref 41)]) rfl ?_
  refine V_aload_n d_Mo_size_0 rfl ?_
  refine V_getI d_Mo_size_1 f_Mo_91 rfl (by first | rfl | assumption) (by first | rfl | assumption) ?_
  rw [hm.1.1]
  refine V_bipush (v := 12) d_Mo_size_4 (by decide) ?_
  refine V_icmp_le (tgt := 14) d_Mo_size_6 (by decide) (fun b6 => ?_) (fun b6 => ?_)
  · have h12 : ¬ 12 < dN S.1 := by have := (le_nI _ 12 rfl rfl (by omega) (by decide)).mp b6; omega
    refine V_aload_n d_Mo_size_14 rfl ?_
    refine V_getI d_Mo_size_15 f_Mo_91 rfl (by first | rfl | assumption) (by first | rfl | assumption) ?_
    rw [hm.1.1]
    refine V_if_ne (tgt := 26) d_Mo_size_18 (by decide) (fun b18 => ?_) (fun b18 => ?_)
    · have h0 : ¬ dN S.1 = 0 := fun z => b18 (by rw [z]; rfl)
      refine V_iconst (v := 0) d_Mo_size_26 (by decide) ?_
      refine V_iret d_Mo_size_27 rfl ?_
      exact ⟨by unfold szI; rw [if_neg h12, if_neg h0], rfl⟩
    · have h0 : dN S.1 = 0 := (eq_nI _ 0 rfl rfl (by omega) (by decide)).mp b18
      refine V_bipush (v := -5) d_Mo_size_21 (by decide) ?_
      refine V_goto (tgt := 27) d_Mo_size_23 (by decide) ?_
      refine V_iret d_Mo_size_27 rfl ?_
      exact ⟨by unfold szI; rw [if_neg h12, if_pos h0], rfl⟩
  · have h12 : 12 < dN S.1 := by
      rcases Nat.lt_or_ge 12 (dN S.1) with z | z
      · exact z
      · exact absurd ((le_nI _ 12 rfl rfl (by omega) (by decide)).mpr z) b6
    refine V_bipush (v := -4) d_Mo_size_9 (by decide) ?_
    refine V_goto (tgt := 27) d_Mo_size_11 (by decide) ?_
    refine V_iret d_Mo_size_27 rfl ?_
    exact ⟨by unfold szI; rw [if_pos h12], rfl⟩
theorem szI_0 {S : ST} (h : szI S = 0) : dN S.1 ≤ 12 ∧ dN S.1 ≠ 0 := by
  unfold szI at h
  by_cases h1 : 12 < dN S.1
  · rw [if_pos h1] at h; exact absurd h (by decide)
  · rw [if_neg h1] at h
    by_cases h2 : dN S.1 = 0
    · rw [if_pos h2] at h; exact absurd h (by decide)
    · exact ⟨by omega, h2⟩
theorem c_Mcount {E : Wd} {h : Hp} {S : ST} (hm : MoW h S) (ok : okST S) : MC E 206 m_Mo_count [] h (opCount S) := by
  refine Cq_of2 ok_Mo_count rfl (Nat.le_of_ble_eq_true rfl) (L := [some (.ref 41)]) rfl ?_
  refine V_aload_n d_Mo_count_0 rfl ?_
  refine V_callV1 d_Mo_count_1 k_Mo_182 rfl (c_size hm ok) (by first | rfl | assumption) rfl rfl (by first | decide | omega) rfl (Nat.le_of_ble_eq_true rfl) ?_
  refine V_if_eq (tgt := 12) d_Mo_count_4 (by decide) (fun b4 => ?_) (fun b4 => ?_)
  · refine V_aload_n d_Mo_count_12 rfl ?_
    refine V_iconst (v := -1) d_Mo_count_13 (by decide) ?_
    refine V_iconst (v := -1) d_Mo_count_14 (by decide) ?_
    refine V_callV d_Mo_count_15 k_Mo_185 rfl (c_goThrough hm ok (x := -1) (m := -1) (fun z => absurd (by decide) z)) (by first | rfl | assumption) rfl rfl (by first | decide | omega) rfl (Nat.le_of_ble_eq_true rfl) (fun v_ h_ q_ => ?_)
    obtain ⟨rfl, ⟨m1, m2⟩, z1, z2, z3⟩ := q_
    have hz := goZ_is ok (szI_0 b4).1 (-1) (-1)
    show V E _ m_Mo_count _ 18 _ [] _
    refine V_aload_n d_Mo_count_18 rfl ?_
    refine V_getI d_Mo_count_19 f_Mo_164 rfl (by first | rfl | assumption) (by first | rfl | assumption) ?_
    refine V_iret d_Mo_count_22 rfl ?_
    refine ⟨?_, m1, m2⟩
    unfold opCount
    rw [z1, hz.1, if_pos b4]
  · refine V_aload_n d_Mo_count_7 rfl ?_
    refine V_callV1 d_Mo_count_8 k_Mo_182 rfl (c_size hm ok) (by first | rfl | assumption) rfl rfl (by first | decide | omega) rfl (Nat.le_of_ble_eq_true rfl) ?_
    refine V_iret d_Mo_count_11 rfl ?_
    exact ⟨by unfold opCount; rw [if_neg b4], hm, fun _ _ => rfl⟩
theorem c_Mwhich {E : Wd} {h : Hp} {S : ST} (hm : MoW h S) (ok : okST S) : MC E 206 m_Mo_which [] h (opWhich S) := by
  refine Cq_of2 ok_Mo_which rfl (Nat.le_of_ble_eq_true rfl) (L := [some (.ref 41)]) rfl ?_
  refine V_aload_n d_Mo_which_0 rfl ?_
  refine V_callV1 d_Mo_which_1 k_Mo_182 rfl (c_size hm ok) (by first | rfl | assumption) rfl rfl (by first | decide | omega) rfl (Nat.le_of_ble_eq_true rfl) ?_
  refine V_if_eq (tgt := 12) d_Mo_which_4 (by decide) (fun b4 => ?_) (fun b4 => ?_)
  · refine V_aload_n d_Mo_which_12 rfl ?_
    refine V_iconst (v := -1) d_Mo_which_13 (by decide) ?_
    refine V_iconst (v := -1) d_Mo_which_14 (by decide) ?_
    refine V_callV d_Mo_which_15 k_Mo_185 rfl (c_goThrough hm ok (x := -1) (m := -1) (fun z => absurd (by decide) z)) (by first | rfl | assumption) rfl rfl (by first | decide | omega) rfl (Nat.le_of_ble_eq_true rfl) (fun v_ h_ q_ => ?_)
    obtain ⟨rfl, ⟨m1, m2⟩, z1, z2, z3⟩ := q_
    have hz := goZ_is ok (szI_0 b4).1 (-1) (-1)
    show V E _ m_Mo_which _ 18 _ [] _
    refine V_aload_n d_Mo_which_18 rfl ?_
    refine V_getI d_Mo_which_19 f_Mo_167 rfl (by first | rfl | assumption) (by first | rfl | assumption) ?_
    refine V_iret d_Mo_which_22 rfl ?_
    refine ⟨?_, m1, m2⟩
    unfold opWhich
    rw [z2, hz.2.1, if_pos b4]
  · refine V_aload_n d_Mo_which_7 rfl ?_
    refine V_callV1 d_Mo_which_8 k_Mo_182 rfl (c_size hm ok) (by first | rfl | assumption) rfl rfl (by first | decide | omega) rfl (Nat.le_of_ble_eq_true rfl) ?_
    refine V_iret d_Mo_which_11 rfl ?_
    exact ⟨by unfold opWhich; rw [if_neg b4], hm, fun _ _ => rfl⟩
theorem isPl_lt2 {n : Nat} (hn : n < 2 ^ 31) (x : Int32) : (0 ≤ x ∧ x < nI n) ↔ isPl n x = true := by
  rw [isPl_iff]
  constructor
  · rintro ⟨h1, h2⟩
    obtain ⟨j, hj, rfl⟩ := nI_of (x := x) (fun q => (fa_of_lt q).2.1 h1)
    exact ⟨j, (nI_ltI hj hn).mp h2, rfl⟩
  · rintro ⟨j, hj, rfl⟩
    exact ⟨nI_pos' (by omega), (nI_ltI (by omega) hn).mpr hj⟩
theorem c_isClass {E : Wd} {h : Hp} {S : ST} (hm : MoW h S) (ok : okST S) (h12 : dN S.1 ≤ 12) (i : Int32) : Cq E 206 m_Mo_isClass [.ref 41, .int i] h (fun v h' => v = some (.int (if isPl (LC S.1 S.2.1).length i then 1 else 0)) ∧ (MoW h' S ∧ ∀ q, q < 41 → h' q = h q) ∧ zM h' (wK S.2.1) (paO S.1 S.2.1 S.2.2.1 i (-1)) (goZ S i (-1))) := by
  have hle := LC_le (w := S.2.1) ok.1 ok.2.1 h12
  have hz := goZ_is ok h12 i (-1)
  have hpl := isPl_lt2 (n := (LC S.1 S.2.1).length) (by omega) i
  refine Cq_of2 ok_Mo_isClass rfl (Nat.le_of_ble_eq_true rfl) (L := [some (.ref 41), some (.int i)]) rfl ?_
  refine V_aload_n d_Mo_isClass_0 rfl ?_
  refine V_iload_n d_Mo_isClass_1 rfl ?_
  refine V_iconst (v := -1) d_Mo_isClass_2 (by decide) ?_
  refine V_callV d_Mo_isClass_3 k_Mo_185 rfl (c_goThrough hm ok (x := i) (m := -1) (fun z => absurd (by decide) z)) (by first | rfl | assumption) rfl rfl (by first | decide | omega) rfl (Nat.le_of_ble_eq_true rfl) (fun v_ h_ q_ => ?_)
  obtain ⟨rfl, m1, z⟩ := q_
  show V E _ m_Mo_isClass _ 6 _ [] _
  have no : ¬ (0 ≤ i ∧ i < nI (LC S.1 S.2.1).length) → isPl (LC S.1 S.2.1).length i = false := fun hn => by
    cases hb : isPl (LC S.1 S.2.1).length i with
    | false => rfl
    | true => exact absurd (hpl.mpr hb) hn
  refine V_iload_n d_Mo_isClass_6 rfl ?_
  refine V_if_lt (tgt := 22) d_Mo_isClass_7 (by decide) (fun b7 => ?_) (fun b7 => ?_)
  · refine V_iconst (v := 0) d_Mo_isClass_22 (by decide) ?_
    refine V_zret d_Mo_isClass_23 rfl (by first | rfl | decide | assumption) ?_
    exact ⟨by rw [no (fun q => (fa_of_lt b7).2.1 q.1)]; rfl, m1, z⟩
  · refine V_iload_n d_Mo_isClass_10 rfl ?_
    refine V_aload_n d_Mo_isClass_11 rfl ?_
    refine V_getI d_Mo_isClass_12 f_Mo_164 rfl (by first | rfl | assumption) (by first | rfl | assumption) ?_
    rw [z.1, hz.1]
    refine V_icmp_ge (tgt := 22) d_Mo_isClass_15 (by decide) (fun b15 => ?_) (fun b15 => ?_)
    · refine V_iconst (v := 0) d_Mo_isClass_22 (by decide) ?_
      refine V_zret d_Mo_isClass_23 rfl (by first | rfl | decide | assumption) ?_
      exact ⟨by rw [no (fun q => (fa_of_lt q.2).2.1 b15)]; rfl, m1, z⟩
    · refine V_iconst (v := 1) d_Mo_isClass_18 (by decide) ?_
      refine V_goto (tgt := 23) d_Mo_isClass_19 (by decide) ?_
      refine V_zret d_Mo_isClass_23 rfl (by first | rfl | decide | assumption) ?_
      exact ⟨by rw [hpl.mp ⟨fa_of_nlt b7, fa_of_nle b15⟩]; rfl, m1, z⟩
theorem c_Msame {E : Wd} {h : Hp} {S : ST} (hm : MoW h S) (ok : okST S) (i : Int32) : MC E 207 m_Mo_same [.int i] h (opSame S i) := by
  refine Cq_of2 ok_Mo_same rfl (Nat.le_of_ble_eq_true rfl) (L := [some (.ref 41), some (.int i)]) rfl ?_
  refine V_aload_n d_Mo_same_0 rfl ?_
  refine V_callV1 d_Mo_same_1 k_Mo_182 rfl (c_size hm ok) (by first | rfl | assumption) rfl rfl (by first | decide | omega) rfl (Nat.le_of_ble_eq_true rfl) ?_
  refine V_if_eq (tgt := 12) d_Mo_same_4 (by decide) (fun b4 => ?_) (fun b4 => ?_)
  · have h12 := (szI_0 b4).1
    have hz := goZ_is ok h12 i (-1)
    refine V_aload_n d_Mo_same_12 rfl ?_
    refine V_iload_n d_Mo_same_13 rfl ?_
    refine V_callV d_Mo_same_14 k_Mo_188 rfl (c_isClass hm ok h12 i) (by first | rfl | assumption) rfl rfl (by first | decide | omega) rfl (Nat.le_of_ble_eq_true rfl) (fun v_ h_ q_ => ?_)
    obtain ⟨rfl, ⟨m1, m2⟩, z1, z2, z3⟩ := q_
    show V E _ m_Mo_same _ 17 _ [.int (if isPl (LC S.1 S.2.1).length i then 1 else 0)] _
    refine V_if_ne (tgt := 22) d_Mo_same_17 (by decide) (fun b17 => ?_) (fun b17 => ?_)
    · have hb := b2in.mp b17
      refine V_aload_n d_Mo_same_22 rfl ?_
      refine V_getI d_Mo_same_23 f_Mo_167 rfl (by first | rfl | assumption) (by first | rfl | assumption) ?_
      refine V_iload_n d_Mo_same_26 rfl ?_
      rw [z2, hz.2.1]
      refine V_icmp_ne (tgt := 34) d_Mo_same_27 (by decide) (fun b27 => ?_) (fun b27 => ?_)
      · refine V_iconst (v := 0) d_Mo_same_34 (by decide) ?_
        refine V_iret d_Mo_same_35 rfl ?_
        exact ⟨by unfold opSame; rw [if_pos b4, if_pos hb, if_neg b27], m1, m2⟩
      · refine V_iconst (v := 1) d_Mo_same_30 (by decide) ?_
        refine V_goto (tgt := 35) d_Mo_same_31 (by decide) ?_
        refine V_iret d_Mo_same_35 rfl ?_
        exact ⟨by unfold opSame; rw [if_pos b4, if_pos hb, if_pos b27], m1, m2⟩
    · have hb := b2i.mp b17
      refine V_iconst (v := -1) d_Mo_same_20 (by decide) ?_
      refine V_iret d_Mo_same_21 rfl ?_
      exact ⟨by unfold opSame; rw [if_pos b4, if_neg (by rw [hb]; decide)], m1, m2⟩
  · refine V_aload_n d_Mo_same_7 rfl ?_
    refine V_callV1 d_Mo_same_8 k_Mo_182 rfl (c_size hm ok) (by first | rfl | assumption) rfl rfl (by first | decide | omega) rfl (Nat.le_of_ble_eq_true rfl) ?_
    refine V_iret d_Mo_same_11 rfl ?_
    exact ⟨by unfold opSame; rw [if_neg b4], hm, fun _ _ => rfl⟩
theorem c_Mleast {E : Wd} {h : Hp} {S : ST} (hm : MoW h S) (ok : okST S) (m : Int32) : MC E 206 m_Mo_least [.int m] h (opLeast S m) := by
  refine Cq_of2 ok_Mo_least rfl (Nat.le_of_ble_eq_true rfl) (L := [some (.ref 41), some (.int m)]) rfl ?_
  refine V_iload_n d_Mo_least_0 rfl ?_
  refine V_iconst (v := 0) d_Mo_least_1 (by decide) ?_
  refine V_bipush (v := 6) d_Mo_least_2 (by decide) ?_
  refine V_callS1 d_Mo_least_4 k_Mo_87 rfl (c_Min h _ _ _) rfl (by first | decide | omega) rfl (Nat.le_of_ble_eq_true rfl) ?_
  refine V_if_ne (tgt := 12) d_Mo_least_7 (by decide) (fun b7 => ?_) (fun b7 => ?_)
  · have hin := p2in.mp b7
    obtain ⟨y, hy, rfl⟩ := (inR_nI (n := 6) (by omega)).mp hin
    have e : opLeast S (nI y) = ((if szI S = 0 then (if 20000 < (LC S.1 S.2.1).length then -4 else (lsF (vaF S.1 S.2.1 (nI y)) (LC S.1 S.2.1) none).getD (-2000000)) else szI S), S) := by
      unfold opLeast
      rw [@if_pos _ (Classical.propDecidable _) hin _ _ _]
    rw [e]
    refine V_aload_n d_Mo_least_12 rfl ?_
    refine V_callV1 d_Mo_least_13 k_Mo_182 rfl (c_size hm ok) (by first | rfl | assumption) rfl rfl (by first | decide | omega) rfl (Nat.le_of_ble_eq_true rfl) ?_
    refine V_if_eq (tgt := 24) d_Mo_least_16 (by decide) (fun b16 => ?_) (fun b16 => ?_)
    · have h12 := (szI_0 b16).1
      have hz := goZ_is ok h12 (-1) (nI y)
      have hle := LC_le (w := S.2.1) ok.1 ok.2.1 h12
      have hnn : ¬ nI y < 0 := fun q => (fa_of_lt q).2.1 (nI_pos' (by omega))
      rw [if_pos b16]
      refine V_aload_n d_Mo_least_24 rfl ?_
      refine V_iconst (v := -1) d_Mo_least_25 (by decide) ?_
      refine V_iload_n d_Mo_least_26 rfl ?_
      refine V_callV d_Mo_least_27 k_Mo_185 rfl (c_goThrough hm ok (x := -1) (m := nI y) (fun _ => ⟨y, hy, rfl⟩)) (by first | rfl | assumption) rfl rfl (by first | decide | omega) rfl (Nat.le_of_ble_eq_true rfl) (fun v_ h_ q_ => ?_)
      obtain ⟨rfl, ⟨m1, m2⟩, z1, z2, z3, z4, z5⟩ := q_
      show V E _ m_Mo_least _ 30 _ [] _
      refine V_aload_n d_Mo_least_30 rfl ?_
      refine V_getI d_Mo_least_31 f_Mo_164 rfl (by first | rfl | assumption) (by first | rfl | assumption) ?_
      refine V_sipush (v := 20000) d_Mo_least_34 (by decide) ?_
      rw [z1, hz.1]
      refine V_icmp_le (tgt := 45) d_Mo_least_37 (by decide) (fun b37 => ?_) (fun b37 => ?_)
      · have hs : ¬ 20000 < (LC S.1 S.2.1).length := by have := (le_nI _ 20000 rfl rfl (by omega) (by decide)).mp b37; omega
        rw [if_neg hs]
        refine V_aload_n d_Mo_least_45 rfl ?_
        refine V_getI d_Mo_least_46 f_Mo_164 rfl (by first | rfl | assumption) (by first | rfl | assumption) ?_
        rw [z1, hz.1]
        refine V_if_ne (tgt := 57) d_Mo_least_49 (by decide) (fun b49 => ?_) (fun b49 => ?_)
        · have hne : (LC S.1 S.2.1).length ≠ 0 := fun q => b49 (by rw [q]; rfl)
          obtain ⟨v, hv⟩ := lsF_some (vaF S.1 S.2.1 (nI y)) (LC S.1 S.2.1) none (Or.inl (fun q => hne (by rw [q]; rfl)))
          refine V_aload_n d_Mo_least_57 rfl ?_
          refine V_getI d_Mo_least_58 f_Mo_176 rfl (by first | rfl | assumption) (by first | rfl | assumption) ?_
          refine V_iret d_Mo_least_61 rfl ?_
          refine ⟨?_, m1, m2⟩
          rw [z4 hnn (by rw [hz.1]; exact b49), hz.2.2.2.1 hnn v hv, hv]
          rfl
        · have h0 : LC S.1 S.2.1 = [] := List.length_eq_zero_iff.mp ((eq_nI _ 0 rfl rfl (by omega) (by decide)).mp b49)
          refine V_ldc d_Mo_least_52 v_Mo_191 rfl ?_
          refine V_goto (tgt := 61) d_Mo_least_54 (by decide) ?_
          refine V_iret d_Mo_least_61 rfl ?_
          exact ⟨by rw [h0]; rfl, m1, m2⟩
      · have hs : 20000 < (LC S.1 S.2.1).length := by
          rcases Nat.lt_or_ge 20000 (LC S.1 S.2.1).length with z | z
          · exact z
          · exact absurd ((le_nI _ 20000 rfl rfl (by omega) (by decide)).mpr z) b37
        rw [if_pos hs]
        refine V_bipush (v := -4) d_Mo_least_40 (by decide) ?_
        refine V_goto (tgt := 61) d_Mo_least_42 (by decide) ?_
        refine V_iret d_Mo_least_61 rfl ?_
        exact ⟨rfl, m1, m2⟩
    · rw [if_neg b16]
      refine V_aload_n d_Mo_least_19 rfl ?_
      refine V_callV1 d_Mo_least_20 k_Mo_182 rfl (c_size hm ok) (by first | rfl | assumption) rfl rfl (by first | decide | omega) rfl (Nat.le_of_ble_eq_true rfl) ?_
      refine V_iret d_Mo_least_23 rfl ?_
      exact ⟨rfl, hm, fun _ _ => rfl⟩
  · have hin := p2i.mp b7
    have e : opLeast S m = (-1, S) := by
      unfold opLeast
      rw [@if_neg _ (Classical.propDecidable _) hin _ _ _]
    rw [e]
    refine V_iconst (v := -1) d_Mo_least_10 (by decide) ?_
    refine V_iret d_Mo_least_11 rfl ?_
    exact ⟨rfl, hm, fun _ _ => rfl⟩
theorem c_Mamong {E : Wd} {h : Hp} {S : ST} (hm : MoW h S) (ok : okST S) (m how : Int32) : MC E 206 m_Mo_among [.int m, .int how] h (opAmong S m how) := by
  have no : ¬ (inR m 0 6 ∧ inR how 0 2) → opAmong S m how = (-1, S) := fun hn => by
    unfold opAmong
    rw [@if_neg _ (Classical.propDecidable _) hn _ _ _]
  refine Cq_of2 ok_Mo_among rfl (Nat.le_of_ble_eq_true rfl) (L := [some (.ref 41), some (.int m), some (.int how)]) rfl ?_
  refine V_iload_n d_Mo_among_0 rfl ?_
  refine V_iconst (v := 0) d_Mo_among_1 (by decide) ?_
  refine V_bipush (v := 6) d_Mo_among_2 (by decide) ?_
  refine V_callS1 d_Mo_among_4 k_Mo_87 rfl (c_Min h _ _ _) rfl (by first | decide | omega) rfl (Nat.le_of_ble_eq_true rfl) ?_
  refine V_if_eq (tgt := 19) d_Mo_among_7 (by decide) (fun b7 => ?_) (fun b7 => ?_)
  · have hin := p2i.mp b7
    rw [no (fun q => hin q.1)]
    refine V_iconst (v := -1) d_Mo_among_19 (by decide) ?_
    refine V_iret d_Mo_among_20 rfl ?_
    exact ⟨rfl, hm, fun _ _ => rfl⟩
  · have hin := p2in.mp b7
    refine V_iload_n d_Mo_among_10 rfl ?_
    refine V_iconst (v := 0) d_Mo_among_11 (by decide) ?_
    refine V_iconst (v := 2) d_Mo_among_12 (by decide) ?_
    refine V_callS1 d_Mo_among_13 k_Mo_87 rfl (c_Min h _ _ _) rfl (by first | decide | omega) rfl (Nat.le_of_ble_eq_true rfl) ?_
    refine V_if_ne (tgt := 21) d_Mo_among_16 (by decide) (fun b16 => ?_) (fun b16 => ?_)
    · have hin2 := p2in.mp b16
      obtain ⟨y, hy, rfl⟩ := (inR_nI (n := 6) (by omega)).mp hin
      obtain ⟨g, hg, rfl⟩ := (inR_nI (n := 2) (by omega)).mp hin2
      have e : opAmong S (nI y) (nI g) = ((if szI S = 0 then (if 20000 < (LC S.1 S.2.1).length then -4 else sdF (val S.1 S.2.1 S.2.2.1 (nI y).toNatClampNeg) (vaF S.1 S.2.1 (nI y)) (LC S.1 S.2.1) (fun _ => 0) (nI g).toNatClampNeg) else szI S), S) := by
        unfold opAmong
        rw [@if_pos _ (Classical.propDecidable _) ⟨hin, hin2⟩ _ _ _]
      rw [e]
      refine V_aload_n d_Mo_among_21 rfl ?_
      refine V_callV1 d_Mo_among_22 k_Mo_182 rfl (c_size hm ok) (by first | rfl | assumption) rfl rfl (by first | decide | omega) rfl (Nat.le_of_ble_eq_true rfl) ?_
      refine V_if_eq (tgt := 33) d_Mo_among_25 (by decide) (fun b25 => ?_) (fun b25 => ?_)
      · have h12 := (szI_0 b25).1
        have hz := goZ_is ok h12 (-1) (nI y)
        have hle := LC_le (w := S.2.1) ok.1 ok.2.1 h12
        have hnn : ¬ nI y < 0 := fun q => (fa_of_lt q).2.1 (nI_pos' (by omega))
        rw [if_pos b25]
        refine V_aload_n d_Mo_among_33 rfl ?_
        refine V_iconst (v := -1) d_Mo_among_34 (by decide) ?_
        refine V_iload_n d_Mo_among_35 rfl ?_
        refine V_callV d_Mo_among_36 k_Mo_185 rfl (c_goThrough hm ok (x := -1) (m := nI y) (fun _ => ⟨y, hy, rfl⟩)) (by first | rfl | assumption) rfl rfl (by first | decide | omega) rfl (Nat.le_of_ble_eq_true rfl) (fun v_ h_ q_ => ?_)
        obtain ⟨rfl, ⟨m1, m2⟩, z1, z2, z3, z4, z5⟩ := q_
        show V E _ m_Mo_among _ 39 _ [] _
        refine V_aload_n d_Mo_among_39 rfl ?_
        refine V_getI d_Mo_among_40 f_Mo_164 rfl (by first | rfl | assumption) (by first | rfl | assumption) ?_
        refine V_sipush (v := 20000) d_Mo_among_43 (by decide) ?_
        rw [z1, hz.1]
        refine V_icmp_le (tgt := 54) d_Mo_among_46 (by decide) (fun b46 => ?_) (fun b46 => ?_)
        · have hs : ¬ 20000 < (LC S.1 S.2.1).length := by have := (le_nI _ 20000 rfl rfl (by omega) (by decide)).mp b46; omega
          rw [if_neg hs]
          have hin3 : vp_in (nI g) 3 := vp_in_nI (by omega) (by omega)
          refine V_aload_n d_Mo_among_54 rfl ?_
          refine V_getR d_Mo_among_55 f_Mo_81 rfl (by first | rfl | assumption) (by first | rfl | assumption) ?_
          refine V_iload_n d_Mo_among_58 rfl ?_
          refine V_iald d_Mo_among_59 (by first | rfl | assumption) (by first | assumption | exact vp_in_nI (by omega) (by omega)) ?_
          refine V_iret d_Mo_among_60 rfl ?_
          refine ⟨?_, m1, m2⟩
          rw [nI_clamp (show g < 2 ^ 31 by omega), z5 g (by omega), hz.2.2.2.2 hnn]
        · have hs : 20000 < (LC S.1 S.2.1).length := by
            rcases Nat.lt_or_ge 20000 (LC S.1 S.2.1).length with z | z
            · exact z
            · exact absurd ((le_nI _ 20000 rfl rfl (by omega) (by decide)).mpr z) b46
          rw [if_pos hs]
          refine V_bipush (v := -4) d_Mo_among_49 (by decide) ?_
          refine V_goto (tgt := 60) d_Mo_among_51 (by decide) ?_
          refine V_iret d_Mo_among_60 rfl ?_
          exact ⟨rfl, m1, m2⟩
      · rw [if_neg b25]
        refine V_aload_n d_Mo_among_28 rfl ?_
        refine V_callV1 d_Mo_among_29 k_Mo_182 rfl (c_size hm ok) (by first | rfl | assumption) rfl rfl (by first | decide | omega) rfl (Nat.le_of_ble_eq_true rfl) ?_
        refine V_iret d_Mo_among_32 rfl ?_
        exact ⟨rfl, hm, fun _ _ => rfl⟩
    · have hin2 := p2i.mp b16
      rw [no (fun q => hin2 q.2)]
      refine V_iconst (v := -1) d_Mo_among_19 (by decide) ?_
      refine V_iret d_Mo_among_20 rfl ?_
      exact ⟨rfl, hm, fun _ _ => rfl⟩
theorem c_Mkth {E : Wd} {h : Hp} {S : ST} (hm : MoW h S) (ok : okST S) (i : Int32) : MC E 207 m_Mo_kth [.int i] h (opKth S i) := by
  have hk6 := ok.2.1.2.1
  have hn := ok.1.1
  refine Cq_of2 ok_Mo_kth rfl (Nat.le_of_ble_eq_true rfl) (L := [some (.ref 41), some (.int i), none, none]) rfl ?_
  refine V_aload_n d_Mo_kth_0 rfl ?_
  refine V_callV1 d_Mo_kth_1 k_Mo_182 rfl (c_size hm ok) (by first | rfl | assumption) rfl rfl (by first | decide | omega) rfl (Nat.le_of_ble_eq_true rfl) ?_
  refine V_if_eq (tgt := 12) d_Mo_kth_4 (by decide) (fun b4 => ?_) (fun b4 => ?_)
  · have h12 := (szI_0 b4).1
    have hz := goZ_is ok h12 i (-1)
    have hle := LC_le (w := S.2.1) ok.1 ok.2.1 h12
    refine V_aload_n d_Mo_kth_12 rfl ?_
    refine V_iload_n d_Mo_kth_13 rfl ?_
    refine V_callV d_Mo_kth_14 k_Mo_188 rfl (c_isClass hm ok h12 i) (by first | rfl | assumption) rfl rfl (by first | decide | omega) rfl (Nat.le_of_ble_eq_true rfl) (fun v_ h_ q_ => ?_)
    obtain ⟨rfl, ⟨m1, m2⟩, z1, z2, z3, z4, z5⟩ := q_
    show V E _ m_Mo_kth _ 17 _ [.int (if isPl (LC S.1 S.2.1).length i then 1 else 0)] _
    refine V_if_ne (tgt := 22) d_Mo_kth_17 (by decide) (fun b17 => ?_) (fun b17 => ?_)
    · have hb := b2in.mp b17
      obtain ⟨x, hx, rfl⟩ := isPl_iff.mp hb
      have hx1 := hz.2.2.1 x hx rfl
      have hmem := List.mem_of_getElem? hx1
      have hget : (LC S.1 S.2.1).getD (nI x).toNatClampNeg [] = (goZ S (nI x) (-1)).2.2.1 := by
        rw [nI_clamp (by omega), List.getD_eq_getElem?_getD, hx1]
        rfl
      have hop : opKth S (nI x) = (1, (S.1, S.2.1, lay (dN S.1) (goZ S (nI x) (-1)).2.2.1, S.2.2.2)) := by
        unfold opKth
        rw [if_pos b4, if_pos hb, hget]
      rw [hop]
      clear hop hget hx1
      generalize (goZ S (nI x) (-1)).2.2.1 = q at *
      obtain ⟨⟨c1, c2, c3, c4⟩, -⟩ := LC_is ok.1 hmem
      have hne : q ≠ [] := by
        intro e
        rw [e] at c1
        have := ok.2.1.1
        simp at c1
        omega
      have hset := z3 hne
      refine V_iconst (v := 0) d_Mo_kth_22 (by decide) ?_
      refine V_istore_n d_Mo_kth_23 (by decide) ?_
      dsimp only [List.set]
      have outer : ∀ d, d ≤ wK S.2.1 → ∀ g u3, isDs g (fun p => if p < dN S.1 then layK (gD q) S.2.2.1 d p else S.2.2.1 p) → V E 207 m_Mo_kth (fun v h' => v = some (.int 1) ∧ MoW h' (S.1, S.2.1, lay (dN S.1) q, S.2.2.2) ∧ ∀ r, r < 41 → h' r = h r) 24 [some (.ref 41), some (.int (nI x)), some (.int (nI d)), u3] [] (hrow h_ 52 g) := by
        refine up_ind (wK S.2.1) ?_
        intro d hd ih g u3 hg
        refine V_iload_n d_Mo_kth_24 rfl ?_
        refine V_aload_n d_Mo_kth_25 rfl ?_
        refine V_getI d_Mo_kth_26 f_Mo_34 rfl (by first | rfl | assumption) (by first | rfl | assumption) ?_
        rw [hrow_ne (by omega), m1.2.1.1]
        refine V_icmp_ge (tgt := 83) d_Mo_kth_29 (by decide) (fun b29 => ?_) (fun b29 => ?_)
        · obtain rfl := ge_eq b29 rfl rfl (by omega) hd
          refine V_iconst (v := 1) d_Mo_kth_83 (by decide) ?_
          refine V_iret d_Mo_kth_84 rfl ?_
          have fr : eFr h_ (hrow h_ 52 g) := eFr.row (by omega) (by omega)
          refine ⟨rfl, ⟨m1.1.of fr.2.1, m1.2.1.of fr.2.1, fun p hp => ?_, by rw [fr.2.2.1]; exact m1.2.2.2.1, by rw [fr.2.2.2]; exact m1.2.2.2.2⟩, fun r hr => by rw [fr.1 r hr, m2 r hr]⟩
          rw [hrow_same]
          have := hg p hp
          dsimp only at this
          have e : (if p < dN S.1 then layK (gD q) S.2.2.1 (wK S.2.1) p else S.2.2.1 p) = lay (dN S.1) q p := by
            unfold lay
            by_cases c : p < dN S.1
            · rw [if_pos c, if_pos c, c1]
              refine layK_any ((c3 p hp).mp ?_)
              rw [cI_cs _ hp]
              unfold inN
              exact decide_eq_true c
            · rw [if_neg c, if_neg c]; exact ok.2.2.2.1 p (by omega)
          show lay (dN S.1) q p < 6 ∧ g p = nI (lay (dN S.1) q p)
          rw [← e]
          exact this
        · have hdk := nge_lt b29 rfl rfl (by omega) hd
          have ih := ih hdk
          refine V_iconst (v := 0) d_Mo_kth_32 (by decide) ?_
          refine V_istore_n d_Mo_kth_33 (by decide) ?_
          dsimp only [List.set]
          have inner : ∀ j, j ≤ dN S.1 → ∀ g, isDs g (fun p => if p < j then layK (gD q) S.2.2.1 (d + 1) p else if p < dN S.1 then layK (gD q) S.2.2.1 d p else S.2.2.1 p) → V E 207 m_Mo_kth (fun v h' => v = some (.int 1) ∧ MoW h' (S.1, S.2.1, lay (dN S.1) q, S.2.2.2) ∧ ∀ r, r < 41 → h' r = h r) 34 [some (.ref 41), some (.int (nI x)), some (.int (nI d)), some (.int (nI j))] [] (hrow h_ 52 g) := by
            refine up_ind (dN S.1) ?_
            intro j hj ihj g hg
            refine V_iload_n d_Mo_kth_34 rfl ?_
            refine V_aload_n d_Mo_kth_35 rfl ?_
            refine V_getI d_Mo_kth_36 f_Mo_91 rfl (by first | rfl | assumption) (by first | rfl | assumption) ?_
            rw [hrow_ne (by omega), m1.1.1]
            refine V_icmp_ge (tgt := 77) d_Mo_kth_39 (by decide) (fun b39 => ?_) (fun b39 => ?_)
            · obtain rfl := ge_eq b39 rfl rfl (by omega) hj
              refine V_iincw (w := 1) d_Mo_kth_77 rfl (by decide) (by decide) ?_
              dsimp only [List.set]
              refine V_goto (tgt := 24) d_Mo_kth_80 (by decide) ?_
              rw [nI_1]
              refine ih g _ (fun p hp => ?_)
              have := hg p hp
              dsimp only at this ⊢
              by_cases c : p < dN S.1
              · rw [if_pos c] at this ⊢; exact this
              · rw [if_neg c, if_neg c] at this; rw [if_neg c]; exact this
            · have hjn := nge_lt b39 rfl rfl (by omega) hj
              have hin : vp_in (nI d) 6 := vp_in_nI (by omega) (by omega)
              have hin2 : vp_in (nI j) 30 := vp_in_nI (by omega) (by omega)
              have ihj := ihj hjn
              have hgj := hg j (by omega)
              dsimp only at hgj
              rw [if_neg (Nat.lt_irrefl j), if_pos hjn] at hgj
              have step : ∀ x : Nat, x = layK (gD q) S.2.2.1 (d + 1) j → x < 6 → isDs (upd g j (nI x)) (fun p => if p < j + 1 then layK (gD q) S.2.2.1 (d + 1) p else if p < dN S.1 then layK (gD q) S.2.2.1 d p else S.2.2.1 p) := by
                intro x hx hx6 p hp
                dsimp only
                by_cases c : p = j
                · subst c
                  rw [upd_s, if_pos (by omega), ← hx]
                  exact ⟨hx6, rfl⟩
                · rw [upd_n c]
                  have := hg p hp
                  dsimp only at this
                  by_cases c2 : p < j
                  · rw [if_pos c2] at this; rw [if_pos (by omega)]; exact this
                  · rw [if_neg c2] at this; rw [if_neg (by omega)]; exact this
              refine V_aload_n d_Mo_kth_42 rfl ?_
              refine V_getR d_Mo_kth_43 f_Mo_51 rfl (by first | rfl | assumption) (by first | rfl | assumption) ?_
              refine V_iload_n d_Mo_kth_46 rfl ?_
              refine V_aload_n d_Mo_kth_47 rfl ?_
              refine V_getR d_Mo_kth_48 f_Mo_84 rfl (by first | rfl | assumption) (by first | rfl | assumption) ?_
              refine V_iload_n d_Mo_kth_51 rfl ?_
              refine V_iald d_Mo_kth_52 (by first | rfl | assumption) (by first | assumption | exact vp_in_nI (by omega) (by omega)) ?_
              rw [nI_clamp (by omega), hrow_ne (by omega), hset d hdk]
              refine V_iload_n d_Mo_kth_53 rfl ?_
              refine V_callS1 d_Mo_kth_54 k_Mo_98 rfl (c_Mhas _ (mI (cs (gD q d))) (show j < 32 by omega)) rfl (by first | decide | omega) rfl (Nat.le_of_ble_eq_true rfl) ?_
              rw [mI_b (show j < 30 by omega)]
              refine V_if_eq (tgt := 64) d_Mo_kth_57 (by decide) (fun b57 => ?_) (fun b57 => ?_)
              · have hb := b2i.mp b57
                refine V_aload_n d_Mo_kth_64 rfl ?_
                refine V_getR d_Mo_kth_65 f_Mo_51 rfl (by first | rfl | assumption) (by first | rfl | assumption) ?_
                refine V_iload_n d_Mo_kth_68 rfl ?_
                refine V_iald d_Mo_kth_69 (by first | rfl | assumption) (by first | assumption | exact vp_in_nI (by omega) (by omega)) ?_
                refine V_iast d_Mo_kth_70 (by first | rfl | assumption) (by first | assumption | exact vp_in_nI (by omega) (by omega)) ?_
                refine V_iincw (w := 1) d_Mo_kth_71 rfl (by decide) (by decide) ?_
                dsimp only [List.set]
                refine V_goto (tgt := 34) d_Mo_kth_74 (by decide) ?_
                rw [nI_clamp (by omega), hup_hrow, hrow_same, hgj.2, nI_1]
                exact ihj _ (step _ (by rw [layK, hb]; rfl) hgj.1)
              · have hb := b2in.mp b57
                refine V_iload_n d_Mo_kth_60 rfl ?_
                refine V_goto (tgt := 70) d_Mo_kth_61 (by decide) ?_
                refine V_iast d_Mo_kth_70 (by first | rfl | assumption) (by first | assumption | exact vp_in_nI (by omega) (by omega)) ?_
                refine V_iincw (w := 1) d_Mo_kth_71 rfl (by decide) (by decide) ?_
                dsimp only [List.set]
                refine V_goto (tgt := 34) d_Mo_kth_74 (by decide) ?_
                rw [nI_clamp (by omega), hup_hrow, nI_1]
                exact ihj _ (step _ (by rw [layK, hb]; rfl) (by omega))
          refine inner 0 (Nat.zero_le _) g (fun p hp => ?_)
          dsimp only
          rw [if_neg (Nat.not_lt_zero p)]
          exact hg p hp
      have h0 := outer 0 (Nat.zero_le _) (h_ 52) none (fun p hp => by
        have := m1.2.2.1 p hp
        have e : (if p < dN S.1 then layK (gD q) S.2.2.1 0 p else S.2.2.1 p) = S.2.2.1 p := by
          split
          · rfl
          · rfl
        dsimp only
        rw [e]
        exact this)
      rw [hrow_self] at h0
      exact h0
    · have hb := b2i.mp b17
      refine V_iconst (v := -1) d_Mo_kth_20 (by decide) ?_
      refine V_iret d_Mo_kth_21 rfl ?_
      have hop : opKth S i = (-1, S) := by unfold opKth; rw [if_pos b4, if_neg (by rw [hb]; decide)]
      rw [hop]
      exact ⟨rfl, m1, m2⟩
  · refine V_aload_n d_Mo_kth_7 rfl ?_
    refine V_callV1 d_Mo_kth_8 k_Mo_182 rfl (c_size hm ok) (by first | rfl | assumption) rfl rfl (by first | decide | omega) rfl (Nat.le_of_ble_eq_true rfl) ?_
    refine V_iret d_Mo_kth_11 rfl ?_
    have hop : opKth S i = (szI S, S) := by unfold opKth; rw [if_neg b4]
    rw [hop]
    exact ⟨rfl, hm, fun _ _ => rfl⟩
