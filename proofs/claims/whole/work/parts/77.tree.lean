/-! the class's tree -/
theorem c_join {E : Wd} {h : Hp} {a b : Nat} (ha : a < 30) (hb : b < 30) (hab : a ≠ b) : Cq E 1 m_Walker_join [.ref 25, .int (nI a), .int (nI b)] h (fun v h' => v = none ∧ ∃ T C, h' = hrow (hrow h 27 T) 28 C ∧ (∀ i, i < 30 → T i = if i = a then h 27 a ||| onl b else if i = b then h 27 b ||| onl a else h 27 i) ∧ ∀ i, i < 30 → C i = if cs (h 28 a ||| h 28 b) i then h 28 a ||| h 28 b else h 28 i) := by
  have hina : vp_in (nI a) 30 := vp_in_nI ha (by omega)
  have hinb : vp_in (nI b) 30 := vp_in_nI hb (by omega)
  have ca : (nI a).toNatClampNeg = a := nI_clamp (by omega)
  have cb : (nI b).toNatClampNeg = b := nI_clamp (by omega)
  refine Cq_of2 ok_Walker_join rfl (Nat.le_of_ble_eq_true rfl) (L := [some (.ref 25), some (.int (nI a)), some (.int (nI b)), none, none]) rfl ?_
  refine V_aload_n d_Walker_join_0 rfl ?_
  refine V_getR d_Walker_join_1 f_Walker_34 rfl (by first | rfl | assumption) (by first | rfl | assumption) ?_
  refine V_iload_n d_Walker_join_4 rfl ?_
  refine V_dup2 d_Walker_join_5 rfl rfl ?_
  refine V_iald d_Walker_join_6 (by first | rfl | assumption) (by first | assumption | exact vp_in_nI (by omega) (by omega)) ?_
  refine V_iload_n d_Walker_join_7 rfl ?_
  refine V_callS1 d_Walker_join_8 k_Walker_152 rfl (c_only _ hb) rfl (by first | decide | omega) rfl (Nat.le_of_ble_eq_true rfl) ?_
  refine V_ior d_Walker_join_11 ?_
  refine V_iast d_Walker_join_12 (by first | rfl | assumption) (by first | assumption | exact vp_in_nI (by omega) (by omega)) ?_
  refine V_aload_n d_Walker_join_13 rfl ?_
  refine V_getR d_Walker_join_14 f_Walker_34 rfl (by first | rfl | assumption) (by first | rfl | assumption) ?_
  refine V_iload_n d_Walker_join_17 rfl ?_
  refine V_dup2 d_Walker_join_18 rfl rfl ?_
  refine V_iald d_Walker_join_19 (by first | rfl | assumption) (by first | assumption | exact vp_in_nI (by omega) (by omega)) ?_
  refine V_iload_n d_Walker_join_20 rfl ?_
  refine V_callS1 d_Walker_join_21 k_Walker_152 rfl (c_only _ ha) rfl (by first | decide | omega) rfl (Nat.le_of_ble_eq_true rfl) ?_
  refine V_ior d_Walker_join_24 ?_
  refine V_iast d_Walker_join_25 (by first | rfl | assumption) (by first | assumption | exact vp_in_nI (by omega) (by omega)) ?_
  refine V_aload_n d_Walker_join_26 rfl ?_
  refine V_getR d_Walker_join_27 f_Walker_37 rfl (by first | rfl | assumption) (by first | rfl | assumption) ?_
  refine V_iload_n d_Walker_join_30 rfl ?_
  refine V_iald d_Walker_join_31 (by first | rfl | assumption) (by first | assumption | exact vp_in_nI (by omega) (by omega)) ?_
  refine V_aload_n d_Walker_join_32 rfl ?_
  refine V_getR d_Walker_join_33 f_Walker_37 rfl (by first | rfl | assumption) (by first | rfl | assumption) ?_
  refine V_iload_n d_Walker_join_36 rfl ?_
  refine V_iald d_Walker_join_37 (by first | rfl | assumption) (by first | assumption | exact vp_in_nI (by omega) (by omega)) ?_
  refine V_ior d_Walker_join_38 ?_
  refine V_istore_n d_Walker_join_39 (by decide) ?_
  dsimp only [List.set]
  refine V_iconst (v := 0) d_Walker_join_40 (by decide) ?_
  refine V_istore d_Walker_join_41 (by decide) ?_
  dsimp only [List.set]
  rw [ca, cb]
  have e1 : hup (hup h 27 a (h 27 a ||| onl b)) 27 b ((hup h 27 a (h 27 a ||| onl b)) 27 b ||| onl a) = hrow h 27 (upd (upd (h 27) a (h 27 a ||| onl b)) b (h 27 b ||| onl a)) := by
    rw [hup_row h, hup_hrow, hrow_same, upd_n (Ne.symm hab)]
  rw [e1, hrow_ne (by omega)]
  obtain ⟨G, hG⟩ : ∃ G, G = h 28 a ||| h 28 b := ⟨_, rfl⟩
  rw [← hG]
  obtain ⟨T, hT⟩ : ∃ T, T = upd (upd (h 27) a (h 27 a ||| onl b)) b (h 27 b ||| onl a) := ⟨_, rfl⟩
  rw [← hT]
  have hT' : ∀ i, i < 30 → T i = if i = a then h 27 a ||| onl b else if i = b then h 27 b ||| onl a else h 27 i := by
    intro i hi
    rw [hT]
    by_cases c1 : i = a
    · rw [if_pos c1, c1, upd_n hab, upd_s]
    · rw [if_neg c1]
      by_cases c2 : i = b
      · rw [if_pos c2, c2, upd_s]
      · rw [if_neg c2, upd_n c2, upd_n c1]
  clear hT
  have loop : ∀ i, i ≤ 30 → ∀ C, (∀ j, j < 30 → C j = if j < i ∧ cs G j = true then G else h 28 j) → V E 1 m_Walker_join (fun v h' => v = none ∧ ∃ T C, h' = hrow (hrow h 27 T) 28 C ∧ (∀ i, i < 30 → T i = if i = a then h 27 a ||| onl b else if i = b then h 27 b ||| onl a else h 27 i) ∧ ∀ i, i < 30 → C i = if cs G i then G else h 28 i) 43 [some (.ref 25), some (.int (nI a)), some (.int (nI b)), some (.int G), some (.int (nI i))] [] (hrow (hrow h 27 T) 28 C) := by
    refine up_ind 30 ?_
    intro i hi ih C hC
    refine V_iload d_Walker_join_43 rfl ?_
    refine V_bipush (v := 30) d_Walker_join_45 (by decide) ?_
    refine V_icmp_ge (tgt := 73) d_Walker_join_47 (by decide) (fun b47 => ?_) (fun b47 => ?_)
    · have hii : i = 30 := ge_eq (N := 30) b47 rfl rfl (by decide) hi
      refine V_vret d_Walker_join_73 rfl ?_
      refine ⟨rfl, T, C, rfl, hT', fun j hj => ?_⟩
      rw [hC j hj]
      by_cases c : cs G j = true
      · rw [if_pos ⟨by omega, c⟩, if_pos c]
      · rw [if_neg (fun z => c z.2), if_neg c]
    · have hi' := nge_lt (N := 30) b47 rfl rfl (by decide) hi
      have hin : vp_in (nI i) 30 := vp_in_nI hi' (by omega)
      have ih := ih hi'
      refine V_iload_n d_Walker_join_50 rfl ?_
      refine V_iload d_Walker_join_51 rfl ?_
      refine V_callS1 d_Walker_join_53 k_Walker_134 rfl (c_has _ G hi') rfl (by first | decide | omega) rfl (Nat.le_of_ble_eq_true rfl) ?_
      refine V_if_eq (tgt := 67) d_Walker_join_56 (by decide) (fun b56 => ?_) (fun b56 => ?_)
      · have hb : cs G i = false := b2i.mp b56
        refine V_iincw (w := 1) d_Walker_join_67 rfl (by decide) (by decide) ?_
        dsimp only [List.set]
        refine V_goto (tgt := 43) d_Walker_join_70 (by decide) ?_
        rw [nI_1]
        refine ih C (fun j hj => ?_)
        rw [hC j hj]
        by_cases c : j < i ∧ cs G j = true
        · rw [if_pos c, if_pos ⟨by omega, c.2⟩]
        · rw [if_neg c, if_neg (fun z => by
            by_cases c2 : j = i
            · rw [c2, hb] at z; cases z.2
            · exact c ⟨by omega, z.2⟩)]
      · have hb : cs G i = true := b2in.mp b56
        refine V_aload_n d_Walker_join_59 rfl ?_
        refine V_getR d_Walker_join_60 f_Walker_37 rfl (by first | rfl | assumption) (by first | rfl | assumption) ?_
        refine V_iload d_Walker_join_63 rfl ?_
        refine V_iload_n d_Walker_join_65 rfl ?_
        refine V_iast d_Walker_join_66 (by first | rfl | assumption) (by first | assumption | exact vp_in_nI (by omega) (by omega)) ?_
        refine V_iincw (w := 1) d_Walker_join_67 rfl (by decide) (by decide) ?_
        dsimp only [List.set]
        refine V_goto (tgt := 43) d_Walker_join_70 (by decide) ?_
        rw [nI_clamp (by omega), hup_hrow, nI_1]
        refine ih _ (fun j hj => ?_)
        by_cases c2 : j = i
        · rw [c2, upd_s, if_pos ⟨by omega, hb⟩]
        · rw [upd_n c2, hC j hj]
          by_cases c : j < i ∧ cs G j = true
          · rw [if_pos c, if_pos ⟨by omega, c.2⟩]
          · rw [if_neg c, if_neg (fun z => c ⟨by omega, z.2⟩)]
  have h0 := loop 0 (by omega) (h 28) (fun j hj => by rw [if_neg (fun z => absurd z.1 (Nat.not_lt_zero j))])
  have e2 : hrow (hrow h 27 T) 28 (h 28) = hrow h 27 T := by
    have e3 : (hrow h 27 T) 28 = h 28 := hrow_ne (by omega)
    rw [← e3, hrow_self]
  rw [e2] at h0
  exact h0
/-- a border joins two places -/
def jns (D : LD) (b i j : Nat) : Prop := (dFr D b = i ∧ dTo D b = j) ∨ (dFr D b = j ∧ dTo D b = i)
def XI (D : LD) (M : Nat → Bool) (s : Int32) (ks : Nat → Nat) (i : Nat) (c : Nat) : Prop := insP D M c ∧ ∃ j, j < i ∧ ks j = kyN D M s c
def gT (h : Hp) (D : LD) (M : Nat → Bool) (s : Int32) (X : Nat → Prop) : Prop := ∀ i, i < 30 → (hi0 (h 27 i) ∧ ∀ j, j < 30 → (cs (h 27 i) j = true ↔ ∃ b, b < dB D ∧ trP D M s b ∧ X b ∧ jns D b i j)) ∧ hi0 (h 28 i) ∧ ∀ j, j < 30 → (cs (h 28 i) j = true ↔ Cn D X i j)
theorem gT.of {h h' : Hp} {D : LD} {M : Nat → Bool} {s : Int32} {X : Nat → Prop} (g : gT h D M s X) (e1 : h' 27 = h 27) (e2 : h' 28 = h 28) : gT h' D M s X := by
  unfold gT
  rw [e1, e2]
  exact g
theorem Cn_add {D : LD} {X Y : Nat → Prop} {l p q : Nat} (hl : l < dB D) (hy : ∀ b, b < dB D → (Y b ↔ X b ∨ b = l)) : Cn D Y p q ↔ Cn D X p q ∨ (Cn D X p (dFr D l) ∧ Cn D X (dTo D l) q) ∨ (Cn D X p (dTo D l) ∧ Cn D X (dFr D l) q) := by
  have up : ∀ {p q}, Cn D X p q → Cn D Y p q := fun h => h.mo (fun b hb hx => (hy b hb).mpr (Or.inl hx))
  have ed : Cn D Y (dFr D l) (dTo D l) := Cn.ed hl ((hy l hl).mpr (Or.inr rfl))
  constructor
  · intro h
    exact h.add (fun b hb hyb => (hy b hb).mp hyb)
  · rintro (h | ⟨h1, h2⟩ | ⟨h1, h2⟩)
    · exact up h
    · exact ((up h1).tr ed).tr (up h2)
    · exact ((up h1).tr ed.sy).tr (up h2)
theorem c_growTree {E : Wd} {h : Hp} {D : LD} (hl : LandW h D) (ok : okLD D) {M : Nat → Bool} {s : Int32} {ks : Nat → Nat} (hks : ksT D M s (dB D) ks) (hrk : ∀ i, i < fa_cnt (isIn D M) (dB D) → h 29 i = nI (ks i)) : Cq E 2 m_Walker_growTree [.ref 25, .int (nI (fa_cnt (isIn D M) (dB D)))] h (fun v h' => v = none ∧ (∀ q, q ≠ 27 → q ≠ 28 → h' q = h q) ∧ gT h' D M s (insP D M)) := by
  have hN := ok.1
  have hB := ok.2.1
  have hcl := fa_cnt_le (isIn D M) (dB D)
  obtain ⟨m, hm⟩ : ∃ m, m = fa_cnt (isIn D M) (dB D) := ⟨_, rfl⟩
  unfold ksT at hks
  rw [← hm] at hks hrk hcl ⊢
  obtain ⟨k1, k2, k3⟩ := hks
  have kmono : ∀ i j, i < m → j < m → (ks i < ks j ↔ i < j) := by
    intro i j hi hj
    constructor
    · intro z
      rcases Nat.lt_trichotomy i j with q | q | q
      · exact q
      · rw [q] at z; omega
      · have := k3 j i q hi; omega
    · intro z
      exact k3 i j z hj
  -- the borders of the first keys
  have surj : ∀ c, c < dB D → insP D M c → ∃ j, j < m ∧ ks j = kyN D M s c := fun c hc hi => k2 _ (ky_lt ok c hc) ⟨c, hc, hi, rfl⟩
  refine Cq_of2 ok_Walker_growTree rfl (Nat.le_of_ble_eq_true rfl) (L := [some (.ref 25), some (.int (nI m)), none, none]) rfl ?_
  refine V_iconst (v := 0) d_Walker_growTree_0 (by decide) ?_
  refine V_istore_n d_Walker_growTree_1 (by decide) ?_
  dsimp only [List.set]
  have second : ∀ i, i ≤ m → ∀ (H : Hp) u3, (∀ q, q ≠ 27 → q ≠ 28 → H q = h q) → gT H D M s (XI D M s ks i) → V E 2 m_Walker_growTree (fun v h' => v = none ∧ (∀ q, q ≠ 27 → q ≠ 28 → h' q = h q) ∧ gT h' D M s (insP D M)) 33 [some (.ref 25), some (.int (nI m)), some (.int (nI i)), u3] [] H := by
    refine up_ind m ?_
    intro i hi ih H u3 fr hg
    have hlH : LandW H D := hl.of (fun q c1 c2 => fr q (by omega) (by omega))
    refine V_iload_n d_Walker_growTree_33 rfl ?_
    refine V_iload_n d_Walker_growTree_34 rfl ?_
    refine V_icmp_ge (tgt := 105) d_Walker_growTree_35 (by decide) (fun b35 => ?_) (fun b35 => ?_)
    · obtain rfl := ge_eq b35 rfl rfl (by omega) hi
      refine V_vret d_Walker_growTree_105 rfl ?_
      refine ⟨rfl, fr, ?_⟩
      have hX : ∀ c, c < dB D → (XI D M s ks i c ↔ insP D M c) := fun c hc => ⟨fun z => z.1, fun z => ⟨z, surj c hc z⟩⟩
      intro p hp
      obtain ⟨⟨g1, g2⟩, g3, g4⟩ := hg p hp
      refine ⟨⟨g1, fun j hj => (g2 j hj).trans ?_⟩, g3, fun j hj => (g4 j hj).trans ?_⟩
      · constructor
        · rintro ⟨b, z1, z2, z3, z4⟩
          exact ⟨b, z1, z2, (hX b z1).mp z3, z4⟩
        · rintro ⟨b, z1, z2, z3, z4⟩
          exact ⟨b, z1, z2, (hX b z1).mpr z3, z4⟩
      · exact ⟨fun z => z.mo (fun b hb => (hX b hb).mp), fun z => z.mo (fun b hb => (hX b hb).mpr)⟩
    · have hi' := nge_lt b35 rfl rfl (by omega) hi
      have ih := ih hi'
      obtain ⟨kl, l, hlB, hlI, hlk⟩ := k1 i hi'
      have hbb := ok.2.2.2.1 l hlB
      have hmod : ks i % 100 = l := by
        rw [hlk]
        unfold kyN
        omega
      have hXl : ∀ c, c < dB D → (XI D M s ks i c ↔ (insP D M c ∧ kyN D M s c < kyN D M s l)) := by
        intro c hc
        constructor
        · rintro ⟨z1, j, z2, z3⟩
          exact ⟨z1, by rw [← z3, ← hlk]; exact k3 j i z2 hi'⟩
        · rintro ⟨z1, z2⟩
          obtain ⟨j, z3, z4⟩ := surj c hc z1
          refine ⟨z1, j, ?_, z4⟩
          rw [← z4, ← hlk] at z2
          exact (kmono j i z3 hi').mp z2
      have hXs : ∀ c, c < dB D → (XI D M s ks (i + 1) c ↔ XI D M s ks i c ∨ c = l) := by
        intro c hc
        constructor
        · rintro ⟨z1, j, z2, z3⟩
          rcases Nat.lt_or_ge j i with z | z
          · exact Or.inl ⟨z1, j, z, z3⟩
          · rw [show j = i by omega, hlk] at z3
            exact Or.inr (ky_inj ok c l hc hlB z3.symm)
        · rintro (⟨z1, j, z2, z3⟩ | z)
          · exact ⟨z1, j, by omega, z3⟩
          · rw [z]; exact ⟨hlI, i, by omega, hlk⟩
      have htr : trP D M s l ↔ ¬ Cn D (XI D M s ks i) (dFr D l) (dTo D l) := by
        unfold trP tre
        constructor
        · rintro ⟨-, z⟩ z2
          exact z (z2.mo (fun b hb => (hXl b hb).mp))
        · intro z
          exact ⟨hlI, fun z2 => z (z2.mo (fun b hb => (hXl b hb).mpr))⟩
      have hin : vp_in (nI i) 100 := vp_in_nI (by omega) (by omega)
      have hinl : vp_in (nI l) 100 := vp_in_nI (by omega) (by omega)
      have hinf : vp_in (nI (dFr D l)) 30 := vp_in_nI (by omega) (by omega)
      have hrw := hlH.2.2.2.2.1 l hlB
      refine V_aload_n d_Walker_growTree_38 rfl ?_
      refine V_getR d_Walker_growTree_39 f_Walker_40 rfl (by first | rfl | assumption) (by first | rfl | assumption) ?_
      refine V_iload_n d_Walker_growTree_42 rfl ?_
      refine V_iald d_Walker_growTree_43 (by first | rfl | assumption) (by first | assumption | exact vp_in_nI (by omega) (by omega)) ?_
      rw [nI_clamp (by omega), fr _ (by omega) (by omega), hrk i hi']
      refine V_bipush (v := 100) d_Walker_growTree_44 (by decide) ?_
      refine V_irem d_Walker_growTree_46 (by decide) ?_
      rw [show (100 : Int32) = nI 100 from rfl, pk_rem (by omega) (by omega) (by omega), hmod]
      refine V_istore_n d_Walker_growTree_47 (by decide) ?_
      dsimp only [List.set]
      refine V_aload_n d_Walker_growTree_48 rfl ?_
      refine V_getR d_Walker_growTree_49 f_Walker_37 rfl (by first | rfl | assumption) (by first | rfl | assumption) ?_
      refine V_aload_n d_Walker_growTree_52 rfl ?_
      refine V_getR d_Walker_growTree_53 f_Walker_9 rfl (by first | rfl | assumption) (by first | rfl | assumption) ?_
      refine V_getR d_Walker_growTree_56 f_Walker_88 rfl (by first | rfl | assumption) (by first | rfl | assumption) ?_
      refine V_iload_n d_Walker_growTree_59 rfl ?_
      refine V_iald d_Walker_growTree_60 (by first | rfl | assumption) (by first | assumption | exact vp_in_nI (by omega) (by omega)) ?_
      rw [nI_clamp (by omega), hrw.1]
      refine V_iald d_Walker_growTree_61 (by first | rfl | assumption) (by first | assumption | exact vp_in_nI (by omega) (by omega)) ?_
      refine V_aload_n d_Walker_growTree_62 rfl ?_
      refine V_getR d_Walker_growTree_63 f_Walker_9 rfl (by first | rfl | assumption) (by first | rfl | assumption) ?_
      refine V_getR d_Walker_growTree_66 f_Walker_93 rfl (by first | rfl | assumption) (by first | rfl | assumption) ?_
      refine V_iload_n d_Walker_growTree_69 rfl ?_
      refine V_iald d_Walker_growTree_70 (by first | rfl | assumption) (by first | assumption | exact vp_in_nI (by omega) (by omega)) ?_
      rw [show (nI (dFr D l)).toNatClampNeg = dFr D l from nI_clamp (by omega), nI_clamp (by omega), hrw.2.1]
      refine V_callS1 d_Walker_growTree_71 k_Walker_134 rfl (c_has _ _ (show dTo D l < 30 by omega)) rfl (by first | decide | omega) rfl (Nat.le_of_ble_eq_true rfl) ?_
      have hcf := (hg (dFr D l) (by omega)).2.2 (dTo D l) (by omega)
      refine V_if_ne (tgt := 99) d_Walker_growTree_74 (by decide) (fun b74 => ?_) (fun b74 => ?_)
      · have hb : cs (H 28 (dFr D l)) (dTo D l) = true := b2in.mp b74
        have hcn := hcf.mp hb
        refine V_iincw (w := 1) d_Walker_growTree_99 rfl (by decide) (by decide) ?_
        dsimp only [List.set]
        refine V_goto (tgt := 33) d_Walker_growTree_102 (by decide) ?_
        rw [nI_1]
        refine ih _ _ fr (fun p hp => ?_)
        obtain ⟨⟨g1, g2⟩, g3, g4⟩ := hg p hp
        refine ⟨⟨g1, fun j hj => (g2 j hj).trans ?_⟩, g3, fun j hj => (g4 j hj).trans ?_⟩
        · constructor
          · rintro ⟨b, z1, z2, z3, z4⟩
            exact ⟨b, z1, z2, (hXs b z1).mpr (Or.inl z3), z4⟩
          · rintro ⟨b, z1, z2, z3, z4⟩
            rcases (hXs b z1).mp z3 with z | z
            · exact ⟨b, z1, z2, z, z4⟩
            · rw [z] at z2
              exact absurd hcn (htr.mp z2)
        · constructor
          · intro z
            exact z.mo (fun b hb zb => (hXs b hb).mpr (Or.inl zb))
          · intro z
            refine z.ge (fun b hb zb => ?_)
            rcases (hXs b hb).mp zb with y | y
            · exact Cn.ed hb y
            · rw [y]; exact hcn
      · have hb : cs (H 28 (dFr D l)) (dTo D l) = false := b2i.mp b74
        have hncn : ¬ Cn D (XI D M s ks i) (dFr D l) (dTo D l) := fun z => by
          rw [hcf.mpr z] at hb
          cases hb
        have htl := htr.mpr hncn
        refine V_aload_n d_Walker_growTree_77 rfl ?_
        refine V_aload_n d_Walker_growTree_78 rfl ?_
        refine V_getR d_Walker_growTree_79 f_Walker_9 rfl (by first | rfl | assumption) (by first | rfl | assumption) ?_
        refine V_getR d_Walker_growTree_82 f_Walker_88 rfl (by first | rfl | assumption) (by first | rfl | assumption) ?_
        refine V_iload_n d_Walker_growTree_85 rfl ?_
        refine V_iald d_Walker_growTree_86 (by first | rfl | assumption) (by first | assumption | exact vp_in_nI (by omega) (by omega)) ?_
        rw [nI_clamp (by omega), hrw.1]
        refine V_aload_n d_Walker_growTree_87 rfl ?_
        refine V_getR d_Walker_growTree_88 f_Walker_9 rfl (by first | rfl | assumption) (by first | rfl | assumption) ?_
        refine V_getR d_Walker_growTree_91 f_Walker_93 rfl (by first | rfl | assumption) (by first | rfl | assumption) ?_
        refine V_iload_n d_Walker_growTree_94 rfl ?_
        refine V_iald d_Walker_growTree_95 (by first | rfl | assumption) (by first | assumption | exact vp_in_nI (by omega) (by omega)) ?_
        rw [nI_clamp (by omega), hrw.2.1]
        refine V_callV d_Walker_growTree_96 k_Walker_155 rfl (c_join (show dFr D l < 30 by omega) (show dTo D l < 30 by omega) hbb.2.2.1) (by first | rfl | assumption) rfl rfl (by first | decide | omega) rfl (Nat.le_of_ble_eq_true rfl) (fun v_ h_ q_ => ?_)
        obtain ⟨rfl, T, C, rfl, hT, hC⟩ := q_
        show V E _ m_Walker_growTree _ 99 _ [] _
        refine V_iincw (w := 1) d_Walker_growTree_99 rfl (by decide) (by decide) ?_
        dsimp only [List.set]
        refine V_goto (tgt := 33) d_Walker_growTree_102 (by decide) ?_
        rw [nI_1]
        refine ih _ _ (fun q c1 c2 => by rw [hrow_ne c2, hrow_ne c1]; exact fr q c1 c2) (fun p hp => ?_)
        obtain ⟨⟨g1, g2⟩, g3, g4⟩ := hg p hp
        obtain ⟨⟨f1, f2⟩, f3, f4⟩ := hg (dFr D l) (by omega)
        obtain ⟨⟨t1, t2⟩, t3, t4⟩ := hg (dTo D l) (by omega)
        have hCn : ∀ q, Cn D (XI D M s ks (i + 1)) p q ↔ Cn D (XI D M s ks i) p q ∨ (Cn D (XI D M s ks i) p (dFr D l) ∧ Cn D (XI D M s ks i) (dTo D l) q) ∨ (Cn D (XI D M s ks i) p (dTo D l) ∧ Cn D (XI D M s ks i) (dFr D l) q) := fun q => Cn_add hlB hXs
        rw [hrow_ne (by omega), hrow_same, hrow_same, hT p hp, hC p hp]
        refine ⟨⟨?_, fun j hj => ?_⟩, ?_, fun j hj => ?_⟩
        · split
          · exact hi_or f1 (onl_hi (by omega))
          · split
            · exact hi_or t1 (onl_hi (by omega))
            · exact g1
        · have old : (∃ b, b < dB D ∧ trP D M s b ∧ XI D M s ks (i + 1) b ∧ jns D b p j) ↔ (∃ b, b < dB D ∧ trP D M s b ∧ XI D M s ks i b ∧ jns D b p j) ∨ jns D l p j := by
            constructor
            · rintro ⟨b, z1, z2, z3, z4⟩
              rcases (hXs b z1).mp z3 with z | z
              · exact Or.inl ⟨b, z1, z2, z, z4⟩
              · rw [z] at z4; exact Or.inr z4
            · rintro (⟨b, z1, z2, z3, z4⟩ | z)
              · exact ⟨b, z1, z2, (hXs b z1).mpr (Or.inl z3), z4⟩
              · exact ⟨l, hlB, htl, (hXs l hlB).mpr (Or.inr rfl), z⟩
          rw [old, ← g2 j hj]
          have hne := hbb.2.2.1
          by_cases c1 : p = dFr D l
          · rw [if_pos c1, onl_or (by omega) hj, ← c1, Bool.or_eq_true, decide_eq_true_eq]
            refine or_congr Iff.rfl ?_
            unfold jns
            constructor
            · intro z; exact Or.inl ⟨c1.symm, z.symm⟩
            · rintro (z | z)
              · exact z.2.symm
              · exact absurd (c1.symm.trans z.2.symm) hne
          · rw [if_neg c1]
            by_cases c2 : p = dTo D l
            · rw [if_pos c2, onl_or (by omega) hj, ← c2, Bool.or_eq_true, decide_eq_true_eq]
              refine or_congr Iff.rfl ?_
              unfold jns
              constructor
              · intro z; exact Or.inr ⟨z.symm, c2.symm⟩
              · rintro (z | z)
                · exact absurd z.1.symm c1
                · exact z.1.symm
            · rw [if_neg c2]
              constructor
              · intro z; exact Or.inl z
              · rintro (z | z | z)
                · exact z
                · exact absurd z.1.symm c1
                · exact absurd z.2.symm c2
        · split
          · exact hi_or f3 t3
          · exact g3
        · rw [hCn j]
          have hG : ∀ r, r < 30 → (cs (H 28 (dFr D l) ||| H 28 (dTo D l)) r = true ↔ Cn D (XI D M s ks i) (dFr D l) r ∨ Cn D (XI D M s ks i) (dTo D l) r) := fun r hr => by
            rw [cs_or, Bool.or_eq_true, f4 r hr, t4 r hr]
          by_cases c : cs (H 28 (dFr D l) ||| H 28 (dTo D l)) p = true
          · rw [if_pos c, hG j hj]
            rcases (hG p hp).mp c with z | z
            · constructor
              · rintro (y | y)
                · exact Or.inl (z.sy.tr y)
                · exact Or.inr (Or.inl ⟨z.sy, y⟩)
              · rintro (y | ⟨y1, y2⟩ | ⟨y1, y2⟩)
                · exact Or.inl (z.tr y)
                · exact Or.inr y2
                · exact Or.inl y2
            · constructor
              · rintro (y | y)
                · exact Or.inr (Or.inr ⟨z.sy, y⟩)
                · exact Or.inl (z.sy.tr y)
              · rintro (y | ⟨y1, y2⟩ | ⟨y1, y2⟩)
                · exact Or.inr (z.tr y)
                · exact Or.inr y2
                · exact Or.inl y2
          · rw [if_neg c, g4 j hj]
            have n1 : ¬ Cn D (XI D M s ks i) p (dFr D l) := fun z => c ((hG p hp).mpr (Or.inl z.sy))
            have n2 : ¬ Cn D (XI D M s ks i) p (dTo D l) := fun z => c ((hG p hp).mpr (Or.inr z.sy))
            constructor
            · intro z; exact Or.inl z
            · rintro (z | ⟨z, -⟩ | ⟨z, -⟩)
              · exact z
              · exact absurd z n1
              · exact absurd z n2
  have first : ∀ i, i ≤ 30 → ∀ T C, (∀ p, p < i → T p = 0 ∧ C p = onl p) → V E 2 m_Walker_growTree (fun v h' => v = none ∧ (∀ q, q ≠ 27 → q ≠ 28 → h' q = h q) ∧ gT h' D M s (insP D M)) 2 [some (.ref 25), some (.int (nI m)), some (.int (nI i)), none] [] (hrow (hrow h 27 T) 28 C) := by
    refine up_ind 30 ?_
    intro i hi ih T C hTC
    refine V_iload_n d_Walker_growTree_2 rfl ?_
    refine V_bipush (v := 30) d_Walker_growTree_3 (by decide) ?_
    refine V_icmp_ge (tgt := 31) d_Walker_growTree_5 (by decide) (fun b5 => ?_) (fun b5 => ?_)
    · have hii : i = 30 := ge_eq (N := 30) b5 rfl rfl (by decide) hi
      subst hii
      refine V_iconst (v := 0) d_Walker_growTree_31 (by decide) ?_
      refine V_istore_n d_Walker_growTree_32 (by decide) ?_
      dsimp only [List.set]
      refine second 0 (Nat.zero_le _) _ _ (fun q c1 c2 => by rw [hrow_ne c2, hrow_ne c1]) (fun p hp => ?_)
      obtain ⟨e1, e2⟩ := hTC p hp
      rw [hrow_ne (by omega), hrow_same, hrow_same, e1, e2]
      have no : ∀ b, ¬ XI D M s ks 0 b := fun b ⟨_, j, hj, _⟩ => absurd hj (Nat.not_lt_zero j)
      refine ⟨⟨fun i _ => b_0 i, fun j hj => ?_⟩, onl_hi hp, fun j hj => ?_⟩
      · rw [cs_0]
        exact ⟨fun z => (by cases z), fun ⟨b, _, _, z, _⟩ => absurd z (no b)⟩
      · rw [cs_onl hp hj, decide_eq_true_eq]
        constructor
        · intro z; rw [z]; exact Cn.rf p
        · intro z
          exact z (fun r => r = p) rfl (fun b _ hb => absurd hb (no b))
    · have hi' := nge_lt (N := 30) b5 rfl rfl (by decide) hi
      have hin : vp_in (nI i) 30 := vp_in_nI hi' (by omega)
      refine V_aload_n d_Walker_growTree_8 rfl ?_
      refine V_getR d_Walker_growTree_9 f_Walker_34 rfl (by first | rfl | assumption) (by first | rfl | assumption) ?_
      refine V_iload_n d_Walker_growTree_12 rfl ?_
      refine V_iconst (v := 0) d_Walker_growTree_13 (by decide) ?_
      refine V_iast d_Walker_growTree_14 (by first | rfl | assumption) (by first | assumption | exact vp_in_nI (by omega) (by omega)) ?_
      refine V_aload_n d_Walker_growTree_15 rfl ?_
      refine V_getR d_Walker_growTree_16 f_Walker_37 rfl (by first | rfl | assumption) (by first | rfl | assumption) ?_
      refine V_iload_n d_Walker_growTree_19 rfl ?_
      refine V_iload_n d_Walker_growTree_20 rfl ?_
      refine V_callS1 d_Walker_growTree_21 k_Walker_152 rfl (c_only _ hi') rfl (by first | decide | omega) rfl (Nat.le_of_ble_eq_true rfl) ?_
      refine V_iast d_Walker_growTree_24 (by first | rfl | assumption) (by first | assumption | exact vp_in_nI (by omega) (by omega)) ?_
      refine V_iincw (w := 1) d_Walker_growTree_25 rfl (by decide) (by decide) ?_
      dsimp only [List.set]
      refine V_goto (tgt := 2) d_Walker_growTree_28 (by decide) ?_
      rw [nI_clamp (by omega), nI_1]
      have e : hup (hup (hrow (hrow h 27 T) 28 C) 27 i 0) 28 i (onl i) = hrow (hrow h 27 (upd T i 0)) 28 (upd C i (onl i)) := by
        funext q
        by_cases q1 : q = 27
        · subst q1; simp [hup, hrow]
        · by_cases q2 : q = 28
          · subst q2; simp [hup, hrow]
          · simp [hup, hrow, q1, q2]
      rw [e]
      refine ih hi' _ _ (fun p hp => ?_)
      by_cases c : p = i
      · rw [c, upd_s, upd_s]; exact ⟨rfl, rfl⟩
      · rw [upd_n c, upd_n c]; exact hTC p (by omega)
  have h0 := first 0 (by omega) (h 27) (h 28) (fun p hp => absurd hp (Nat.not_lt_zero p))
  have e0 : hrow (hrow h 27 (h 27)) 28 (h 28) = h := by rw [hrow_self, hrow_self]
  rw [e0] at h0
  exact h0
