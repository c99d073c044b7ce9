/-! mend(): the lawful parting that moves the fewest people -/
def mvP (D : LD) (ds x : Nat → Nat) : Nat := smN (peN D) (fun p => decide (x p ≠ ds p)) (dN D)
def mvC (D : LD) (ds x : Nat → Nat) : Nat := fa_cnt (fun p => decide (x p ≠ ds p)) (dN D)
def lexL (n : Nat) (a b : Nat → Nat) : Prop := ∃ p, p < n ∧ a p < b p ∧ ∀ q, q < p → a q = b q
def keyL (D : LD) (ds a b : Nat → Nat) : Prop := mvP D ds a < mvP D ds b ∨ (mvP D ds a = mvP D ds b ∧ (mvC D ds a < mvC D ds b ∨ (mvC D ds a = mvC D ds b ∧ lexL (dN D) a b)))
theorem lex_tot {n : Nat} {a b : Nat → Nat} : (∀ p, p < n → a p = b p) ∨ lexL n a b ∨ lexL n b a := by
  by_cases h : ∃ p, p < n ∧ a p ≠ b p
  · right
    obtain ⟨p, ⟨hp, hne⟩, hmin⟩ := pk_least (fun p => p < n ∧ a p ≠ b p) h
    have hq : ∀ q, q < p → a q = b q := fun q hq => by
      apply Classical.byContradiction
      intro z
      exact hmin q hq ⟨by omega, z⟩
    rcases Nat.lt_or_ge (a p) (b p) with c | c
    · exact Or.inl ⟨p, hp, c, hq⟩
    · exact Or.inr ⟨p, hp, by omega, fun q h => (hq q h).symm⟩
  · left
    intro p hp
    apply Classical.byContradiction
    intro z
    exact h ⟨p, hp, z⟩
theorem lex_irr {n : Nat} {a b : Nat → Nat} (h1 : lexL n a b) (h2 : lexL n b a) : False := by
  obtain ⟨p, hp, h3, h4⟩ := h1
  obtain ⟨q, hq, h5, h6⟩ := h2
  rcases Nat.lt_trichotomy p q with c | c | c
  · have := h6 p c; omega
  · subst c; omega
  · have := h4 q c; omega
theorem lex_trans {n : Nat} {a b c : Nat → Nat} (h1 : lexL n a b) (h2 : lexL n b c) : lexL n a c := by
  obtain ⟨p, hp, h3, h4⟩ := h1
  obtain ⟨q, hq, h5, h6⟩ := h2
  rcases Nat.lt_trichotomy p q with z | z | z
  · exact ⟨p, hp, by rw [← h6 p z]; exact h3, fun r hr => (h4 r hr).trans (h6 r (by omega))⟩
  · subst z; exact ⟨p, hp, by omega, fun r hr => (h4 r hr).trans (h6 r hr)⟩
  · exact ⟨q, hq, by rw [h4 q z]; exact h5, fun r hr => (h4 r (by omega)).trans (h6 r hr)⟩
theorem key_trans {D : LD} {ds a b c : Nat → Nat} (h1 : keyL D ds a b) (h2 : keyL D ds b c) : keyL D ds a c := by
  unfold keyL at *
  rcases h1 with h1 | ⟨h1, h1' | ⟨h1', h1''⟩⟩ <;> rcases h2 with h2 | ⟨h2, h2' | ⟨h2', h2''⟩⟩
  · left; omega
  · left; omega
  · left; omega
  · left; omega
  · right; exact ⟨by omega, Or.inl (by omega)⟩
  · right; exact ⟨by omega, Or.inl (by omega)⟩
  · left; omega
  · right; exact ⟨by omega, Or.inl (by omega)⟩
  · right; exact ⟨by omega, Or.inr ⟨by omega, lex_trans h1'' h2''⟩⟩
theorem key_irr {D : LD} {ds a b : Nat → Nat} (h1 : keyL D ds a b) (h2 : keyL D ds b a) : False := by
  have h := key_trans h1 h2
  unfold keyL at h
  rcases h with h | ⟨-, h | ⟨-, h⟩⟩
  · omega
  · omega
  · exact lex_irr h h
theorem key_tot {D : LD} {ds a b : Nat → Nat} (h : ¬ keyL D ds a b) (h2 : ¬ keyL D ds b a) : mvP D ds a = mvP D ds b ∧ mvC D ds a = mvC D ds b ∧ ∀ p, p < dN D → a p = b p := by
  unfold keyL at h h2
  have e1 : mvP D ds a = mvP D ds b := by
    rcases Nat.lt_trichotomy (mvP D ds a) (mvP D ds b) with c | c | c
    · exact absurd (Or.inl c) h
    · exact c
    · exact absurd (Or.inl c) h2
  have e2 : mvC D ds a = mvC D ds b := by
    rcases Nat.lt_trichotomy (mvC D ds a) (mvC D ds b) with c | c | c
    · exact absurd (Or.inr ⟨e1, Or.inl c⟩) h
    · exact c
    · exact absurd (Or.inr ⟨e1.symm, Or.inl c⟩) h2
  refine ⟨e1, e2, ?_⟩
  rcases lex_tot (n := dN D) (a := a) (b := b) with c | c | c
  · exact c
  · exact absurd (Or.inr ⟨e1, Or.inr ⟨e2, c⟩⟩) h
  · exact absurd (Or.inr ⟨e1.symm, Or.inr ⟨e2.symm, c⟩⟩) h2
/-- b is the best lawful one of X -/
def isB (D : LD) (w : LW) (ds : Nat → Nat) (X : (Nat → Nat) → Prop) (b : Nat → Nat) : Prop := X b ∧ brk D w b = 0 ∧ ∀ x, X x → brk D w x = 0 → ¬ keyL D ds x b
/-- what the model holds of the best one of X -/
def bsM (h : Hp) (D : LD) (w : LW) (ds : Nat → Nat) (X : (Nat → Nat) → Prop) : Prop := (h 41 39 = -1 ∧ ∀ x, X x → brk D w x ≠ 0) ∨ ∃ b, isB D w ds X b ∧ h 41 38 = nI (mvP D ds b) ∧ h 41 39 = nI (mvC D ds b) ∧ ∀ j, j < dN D → b j < 6 ∧ h 58 j = nI (b j)
theorem bsM.cong {h h' : Hp} {D : LD} {w : LW} {ds : Nat → Nat} {X Y : (Nat → Nat) → Prop} (hb : bsM h D w ds X) (e1 : h' 41 38 = h 41 38) (e2 : h' 41 39 = h 41 39) (e3 : h' 58 = h 58) (hX : ∀ x, X x ↔ Y x) : bsM h' D w ds Y := by
  have : X = Y := funext (fun x => propext (hX x))
  subst this
  unfold bsM
  rw [e1, e2, e3]
  exact hb
theorem mvP_le {D : LD} (ok : okLD D) (ds x : Nat → Nat) : mvP D ds x ≤ 30000 := pplN_le ok _
theorem mvC_le {D : LD} (ok : okLD D) (ds x : Nat → Nat) : mvC D ds x ≤ 30 := by
  have h1 := fa_cnt_le (fun p => decide (x p ≠ ds p)) (dN D)
  have := ok.1
  unfold mvC
  omega
/-- what offer and move may change -/
def mFr (h h' : Hp) : Prop := (∀ q, q ≠ 41 → q ≠ 58 → h' q = h q) ∧ ∀ f, f ≠ 16 → f ≠ 17 → f ≠ 18 → f ≠ 38 → f ≠ 39 → h' 41 f = h 41 f
theorem mFr.tr {h h' h2 : Hp} (a : mFr h h') (b : mFr h' h2) : mFr h h2 := ⟨fun q h1 h3 => (b.1 q h1 h3).trans (a.1 q h1 h3), fun f h1 h3 h4 h5 h6 => (b.2 f h1 h3 h4 h5 h6).trans (a.2 f h1 h3 h4 h5 h6)⟩
theorem mFr.keep {h h' : Hp} (a : mFr h h') : mKeep h h' := ⟨fun q h1 h2 => a.1 q (by omega) (by omega), a.2 4 (by omega) (by omega) (by omega) (by omega) (by omega), a.2 8 (by omega) (by omega) (by omega) (by omega) (by omega), a.2 10 (by omega) (by omega) (by omega) (by omega) (by omega), a.2 11 (by omega) (by omega) (by omega) (by omega) (by omega), a.2 13 (by omega) (by omega) (by omega) (by omega) (by omega)⟩
theorem c_offer {E : Wd} {h : Hp} {D : LD} {w : LW} (hl : MoLand h D) (ok : okLD D) (hw : MoLaw h w) (okw : okLW w) {ds x : Nat → Nat} (hd : MoDs h x) {X : (Nat → Nat) → Prop} (hb : bsM h D w ds X) : Cq E 5 m_Mo_offer [.ref 41, .int (nI (mvP D ds x)), .int (nI (mvC D ds x))] h (fun v h' => v = none ∧ mFr h h' ∧ bsM h' D w ds (fun y => X y ∨ y = x)) := by
  have hn := ok.1
  have hP := mvP_le ok ds x
  have hC := mvC_le ok ds x
  refine Cq_of2 ok_Mo_offer rfl (Nat.le_of_ble_eq_true rfl) (L := [some (.ref 41), some (.int (nI (mvP D ds x))), some (.int (nI (mvC D ds x))), none, none]) rfl ?_
  refine V_aload_n d_Mo_offer_0 rfl ?_
  refine V_iconst (v := 0) d_Mo_offer_1 (by decide) ?_
  refine V_callV d_Mo_offer_2 k_Mo_139 rfl (c_Mbroken hl ok hw okw hd false) (by first | rfl | assumption) rfl rfl (by first | decide | omega) rfl (Nat.le_of_ble_eq_true rfl) (fun v_ h_ q_ => ?_)
  obtain ⟨rfl, g, hg, rfl⟩ := q_
  show V E 5 m_Mo_offer _ 5 _ [.int (nI (brk D (wfr false w) x))] _
  rw [wfr_f]
  have hb6 : brk D w x ≤ 6 := by
    by_cases q : brk D w x = 0
    · omega
    · exact (brk_some rfl q).1
  have fr1 : mFr h (hrow h 41 g) := ⟨fun q h1 h2 => hrow_ne h1, fun f h1 h2 h3 h4 h5 => by rw [hrow_same]; exact hg f h1 h2 h3⟩
  have hb1 : bsM (hrow h 41 g) D w ds X := hb.cong (by rw [hrow_same]; exact hg 38 (by omega) (by omega) (by omega)) (by rw [hrow_same]; exact hg 39 (by omega) (by omega) (by omega)) (hrow_ne (by omega)) (fun _ => Iff.rfl)
  obtain ⟨H, hH⟩ : ∃ H, H = hrow h 41 g := ⟨_, rfl⟩
  rw [← hH] at fr1 hb1 ⊢
  have hlH : MoLand H D := hl.of fr1.keep
  have hdH : MoDs H x := hd.of (fr1.1 _ (by omega) (by omega))
  clear hH hb
  refine V_if_eq (tgt := 9) d_Mo_offer_5 (by decide) (fun b5 => ?_) (fun b5 => ?_)
  · have hb0 : brk D w x = 0 := (eq_nI _ 0 rfl rfl (by omega) (by decide)).mp b5
    -- x is put down as the best
    have put : ∀ u3 u4, isB D w ds (fun y => X y ∨ y = x) x → V E 5 m_Mo_offer (fun v h' => v = none ∧ mFr h h' ∧ bsM h' D w ds (fun y => X y ∨ y = x)) 137 [some (.ref 41), some (.int (nI (mvP D ds x))), some (.int (nI (mvC D ds x))), u3, u4] [] H := by
      intro u3 u4 hB
      refine V_aload_n d_Mo_offer_137 rfl ?_
      refine V_iload_n d_Mo_offer_138 rfl ?_
      refine V_put (ty := .int) d_Mo_offer_139 f_Mo_223 rfl (by first | rfl | assumption) (by first | rfl | assumption) (by decide +kernel) (by first | rfl | assumption) (by first | rfl | assumption) ?_
      refine V_aload_n d_Mo_offer_142 rfl ?_
      refine V_iload_n d_Mo_offer_143 rfl ?_
      refine V_put (ty := .int) d_Mo_offer_144 f_Mo_220 rfl (by first | rfl | assumption) (by first | rfl | assumption) (by decide +kernel) (by first | rfl | assumption) (by first | rfl | assumption) ?_
      refine V_iconst (v := 0) d_Mo_offer_147 (by decide) ?_
      refine V_istore d_Mo_offer_148 (by decide) ?_
      dsimp only [List.set]
      obtain ⟨H2, hH2⟩ : ∃ H2, H2 = hup (hup H 41 38 (nI (mvP D ds x))) 41 39 (nI (mvC D ds x)) := ⟨_, rfl⟩
      rw [← hH2]
      have frH : mFr H H2 := ⟨fun q h1 h2 => by rw [hH2, hup_ne h1, hup_ne h1], fun f h1 h2 h3 h4 h5 => by rw [hH2, hup_same, upd_n h5, hup_same, upd_n h4]⟩
      have e38 : H2 41 38 = nI (mvP D ds x) := by rw [hH2, hup_same, upd_n (by omega), hup_same, upd_s]
      have e39 : H2 41 39 = nI (mvC D ds x) := by rw [hH2, hup_same, upd_s]
      have hl2 : MoLand H2 D := hlH.of frH.keep
      have hd2 : MoDs H2 x := hdH.of (frH.1 _ (by omega) (by omega))
      clear hH2
      have loop : ∀ i, i ≤ dN D → ∀ f : Nat → Int32, (∀ j, j < i → f j = nI (x j)) → V E 5 m_Mo_offer (fun v h' => v = none ∧ mFr h h' ∧ bsM h' D w ds (fun y => X y ∨ y = x)) 150 [some (.ref 41), some (.int (nI (mvP D ds x))), some (.int (nI (mvC D ds x))), u3, some (.int (nI i))] [] (hrow H2 58 f) := by
        refine up_ind (dN D) ?_
        intro i hi ih f hf
        have frB : mFr H2 (hrow H2 58 f) := ⟨fun q h1 h2 => hrow_ne h2, fun k _ _ _ _ _ => by rw [hrow_ne (by omega)]⟩
        refine V_iload d_Mo_offer_150 rfl ?_
        refine V_aload_n d_Mo_offer_152 rfl ?_
        refine V_getI d_Mo_offer_153 f_Mo_91 rfl (by first | rfl | assumption) (by first | rfl | assumption) ?_
        rw [hrow_ne (by omega), hl2.1]
        refine V_icmp_ge (tgt := 179) d_Mo_offer_156 (by decide) (fun b156 => ?_) (fun b156 => ?_)
        · obtain rfl := ge_eq b156 rfl rfl (by omega) hi
          refine V_vret d_Mo_offer_179 rfl ?_
          refine ⟨rfl, (fr1.tr frH).tr frB, Or.inr ⟨x, hB, ?_, ?_, fun j hj => ?_⟩⟩
          · rw [hrow_ne (by omega)]; exact e38
          · rw [hrow_ne (by omega)]; exact e39
          · rw [hrow_same]; exact ⟨(hd2 j (by omega)).1, hf j hj⟩
        · have hin' := nge_lt b156 rfl rfl (by omega) hi
          have hin : vp_in (nI i) 30 := vp_in_nI (by omega) (by omega)
          refine V_aload_n d_Mo_offer_159 rfl ?_
          refine V_getR d_Mo_offer_160 f_Mo_69 rfl (by first | rfl | assumption) (by first | rfl | assumption) ?_
          refine V_iload d_Mo_offer_163 rfl ?_
          refine V_aload_n d_Mo_offer_165 rfl ?_
          refine V_getR d_Mo_offer_166 f_Mo_51 rfl (by first | rfl | assumption) (by first | rfl | assumption) ?_
          refine V_iload d_Mo_offer_169 rfl ?_
          refine V_iald d_Mo_offer_171 (by first | rfl | assumption) (by first | assumption | exact vp_in_nI (by omega) (by omega)) ?_
          refine V_iast d_Mo_offer_172 (by first | rfl | assumption) (by first | assumption | exact vp_in_nI (by omega) (by omega)) ?_
          refine V_iincw (w := 1) d_Mo_offer_173 rfl (by decide) (by decide) ?_
          dsimp only [List.set]
          refine V_goto (tgt := 150) d_Mo_offer_176 (by decide) ?_
          rw [nI_clamp (by omega), hup_hrow, hrow_ne (by omega), (hd2 i (by omega)).2, nI_1]
          refine ih hin' _ (fun j hj => ?_)
          by_cases hji : j = i
          · rw [hji, upd_s]
          · rw [upd_n hji]; exact hf j (by omega)
      have h0 := loop 0 (Nat.zero_le _) (H2 58) (fun j hj => absurd hj (Nat.not_lt_zero j))
      rw [hrow_self] at h0
      exact h0
    -- the best one stays
    have stay : ∀ u4, bsM H D w ds (fun y => X y ∨ y = x) → V E 5 m_Mo_offer (fun v h' => v = none ∧ mFr h h' ∧ bsM h' D w ds (fun y => X y ∨ y = x)) 133 [some (.ref 41), some (.int (nI (mvP D ds x))), some (.int (nI (mvC D ds x))), some (.int 0), u4] [] H := by
      intro u4 hB
      refine V_iload_n d_Mo_offer_133 rfl ?_
      refine V_if_eq (tgt := 179) d_Mo_offer_134 (by decide) (fun b134 => ?_) (fun b134 => ?_)
      · refine V_vret d_Mo_offer_179 rfl ?_
        exact ⟨rfl, fr1, hB⟩
      · exact absurd rfl b134
    have putA : isB D w ds (fun y => X y ∨ y = x) x → V E 5 m_Mo_offer (fun v h' => v = none ∧ mFr h h' ∧ bsM h' D w ds (fun y => X y ∨ y = x)) 40 [some (.ref 41), some (.int (nI (mvP D ds x))), some (.int (nI (mvC D ds x))), none, none] [] H := by
      intro hB
      refine V_iconst (v := 1) d_Mo_offer_40 (by decide) ?_
      refine V_goto (tgt := 45) d_Mo_offer_41 (by decide) ?_
      refine V_istore_n d_Mo_offer_45 (by decide) ?_
      dsimp only [List.set]
      refine V_iload_n d_Mo_offer_46 rfl ?_
      refine V_if_ne (tgt := 133) d_Mo_offer_47 (by decide) (fun b47 => ?_) (fun b47 => ?_)
      · refine V_iload_n d_Mo_offer_133 rfl ?_
        refine V_if_eq (tgt := 179) d_Mo_offer_134 (by decide) (fun b134 => ?_) (fun b134 => ?_)
        · exact absurd b134 (by decide)
        · exact put _ _ hB
      · exact absurd b47 (by decide)
    rcases hb1 with ⟨hnone, hall⟩ | ⟨b, hB, e38, e39, ebest⟩
    · refine V_aload_n d_Mo_offer_9 rfl ?_
      refine V_getI d_Mo_offer_10 f_Mo_220 rfl (by first | rfl | assumption) (by first | rfl | assumption) ?_
      rw [hnone]
      refine V_if_lt (tgt := 40) d_Mo_offer_13 (by decide) (fun b13 => ?_) (fun b13 => ?_)
      · refine putA ⟨Or.inr rfl, hb0, fun y hy hy0 => ?_⟩
        rcases hy with hy | hy
        · exact absurd hy0 (hall y hy)
        · subst hy
          exact fun z => key_irr z z
      · exact absurd (by decide) b13
    · have hPb := mvP_le ok ds b
      have hCb := mvC_le ok ds b
      -- better than the best: it becomes the best
      have win : keyL D ds x b → isB D w ds (fun y => X y ∨ y = x) x := by
        intro hk
        refine ⟨Or.inr rfl, hb0, fun y hy hy0 => ?_⟩
        rcases hy with hy | hy
        · exact fun z => hB.2.2 y hy hy0 (key_trans z hk)
        · subst hy
          exact fun z => key_irr z z
      have lose : ¬ keyL D ds x b → bsM H D w ds (fun y => X y ∨ y = x) := by
        intro hk
        refine Or.inr ⟨b, ⟨Or.inl hB.1, hB.2.1, fun y hy hy0 => ?_⟩, e38, e39, ebest⟩
        rcases hy with hy | hy
        · exact hB.2.2 y hy hy0
        · subst hy
          exact hk
      refine V_aload_n d_Mo_offer_9 rfl ?_
      refine V_getI d_Mo_offer_10 f_Mo_220 rfl (by first | rfl | assumption) (by first | rfl | assumption) ?_
      rw [e39]
      refine V_if_lt (tgt := 40) d_Mo_offer_13 (by decide) (fun b13 => ?_) (fun b13 => ?_)
      · exact absurd b13 (nI_pos (by omega))
      · refine V_iload_n d_Mo_offer_16 rfl ?_
        refine V_aload_n d_Mo_offer_17 rfl ?_
        refine V_getI d_Mo_offer_18 f_Mo_223 rfl (by first | rfl | assumption) (by first | rfl | assumption) ?_
        rw [e38]
        refine V_icmp_lt (tgt := 40) d_Mo_offer_21 (by decide) (fun b21 => ?_) (fun b21 => ?_)
        · have hlt := (nI_ltI (by omega) (by omega)).mp b21
          exact putA (win (Or.inl hlt))
        · have hnlt : ¬ mvP D ds x < mvP D ds b := fun z => b21 (nI_lt z (by omega))
          -- not ahead by numbers: compare the districts, if both numbers are alike
          have cmp : (¬ (mvP D ds x = mvP D ds b ∧ mvC D ds x < mvC D ds b)) → V E 5 m_Mo_offer (fun v h' => v = none ∧ mFr h h' ∧ bsM h' D w ds (fun y => X y ∨ y = x)) 44 [some (.ref 41), some (.int (nI (mvP D ds x))), some (.int (nI (mvC D ds x))), none, none] [] H := by
            intro hno
            refine V_iconst (v := 0) d_Mo_offer_44 (by decide) ?_
            refine V_istore_n d_Mo_offer_45 (by decide) ?_
            dsimp only [List.set]
            refine V_iload_n d_Mo_offer_46 rfl ?_
            refine V_if_ne (tgt := 133) d_Mo_offer_47 (by decide) (fun b47 => ?_) (fun b47 => ?_)
            · exact absurd rfl b47
            · refine V_iload_n d_Mo_offer_50 rfl ?_
              refine V_aload_n d_Mo_offer_51 rfl ?_
              refine V_getI d_Mo_offer_52 f_Mo_223 rfl (by first | rfl | assumption) (by first | rfl | assumption) ?_
              rw [e38]
              refine V_icmp_ne (tgt := 133) d_Mo_offer_55 (by decide) (fun b55 => ?_) (fun b55 => ?_)
              · have hne : ¬ mvP D ds x = mvP D ds b := fun z => b55 (by rw [z])
                refine stay _ (lose (fun z => ?_))
                rcases z with z | ⟨z, -⟩
                · exact hnlt z
                · exact hne z
              · have heq : mvP D ds x = mvP D ds b := (nI_eq (by omega) (by omega)).mp b55
                refine V_iload_n d_Mo_offer_58 rfl ?_
                refine V_aload_n d_Mo_offer_59 rfl ?_
                refine V_getI d_Mo_offer_60 f_Mo_220 rfl (by first | rfl | assumption) (by first | rfl | assumption) ?_
                rw [e39]
                refine V_icmp_ne (tgt := 133) d_Mo_offer_63 (by decide) (fun b63 => ?_) (fun b63 => ?_)
                · have hne : ¬ mvC D ds x = mvC D ds b := fun z => b63 (by rw [z])
                  refine stay _ (lose (fun z => ?_))
                  rcases z with z | ⟨z, z2 | ⟨z2, -⟩⟩
                  · exact hnlt z
                  · exact hno ⟨z, z2⟩
                  · exact hne z2
                · have heq2 : mvC D ds x = mvC D ds b := (nI_eq (by omega) (by omega)).mp b63
                  refine V_iconst (v := 0) d_Mo_offer_66 (by decide) ?_
                  refine V_istore d_Mo_offer_67 (by decide) ?_
                  dsimp only [List.set]
                  have keyLex : keyL D ds x b ↔ lexL (dN D) x b := by
                    constructor
                    · rintro (z | ⟨z, z2 | ⟨z2, z3⟩⟩)
                      · omega
                      · omega
                      · exact z3
                    · exact fun z => Or.inr ⟨heq, Or.inr ⟨heq2, z⟩⟩
                  have loop : ∀ i, i ≤ dN D → (∀ j, j < i → x j = b j) → V E 5 m_Mo_offer (fun v h' => v = none ∧ mFr h h' ∧ bsM h' D w ds (fun y => X y ∨ y = x)) 69 [some (.ref 41), some (.int (nI (mvP D ds x))), some (.int (nI (mvC D ds x))), some (.int 0), some (.int (nI i))] [] H := by
                    refine up_ind (dN D) ?_
                    intro i hi ih hsame
                    refine V_iload d_Mo_offer_69 rfl ?_
                    refine V_aload_n d_Mo_offer_71 rfl ?_
                    refine V_getI d_Mo_offer_72 f_Mo_91 rfl (by first | rfl | assumption) (by first | rfl | assumption) ?_
                    rw [hlH.1]
                    refine V_icmp_ge (tgt := 101) d_Mo_offer_75 (by decide) (fun b75 => ?_) (fun b75 => ?_)
                    · obtain rfl := ge_eq b75 rfl rfl (by omega) hi
                      refine V_iload d_Mo_offer_101 rfl ?_
                      refine V_aload_n d_Mo_offer_103 rfl ?_
                      refine V_getI d_Mo_offer_104 f_Mo_91 rfl (by first | rfl | assumption) (by first | rfl | assumption) ?_
                      rw [hlH.1]
                      refine V_icmp_ge (tgt := 131) d_Mo_offer_107 (by decide) (fun b107 => ?_) (fun b107 => ?_)
                      · refine V_iconst (v := 0) d_Mo_offer_131 (by decide) ?_
                        refine V_istore_n d_Mo_offer_132 (by decide) ?_
                        dsimp only [List.set]
                        refine stay _ (lose (fun z => ?_))
                        obtain ⟨p, hp, hlt, -⟩ := keyLex.mp z
                        have := hsame p hp
                        omega
                      · exact absurd (by rw [fa_le]; exact Int.le_refl _) b107
                    · have hin' := nge_lt b75 rfl rfl (by omega) hi
                      have hin : vp_in (nI i) 30 := vp_in_nI (by omega) (by omega)
                      have hxi := hdH i (by omega)
                      have hbi := ebest i hin'
                      refine V_aload_n d_Mo_offer_78 rfl ?_
                      refine V_getR d_Mo_offer_79 f_Mo_51 rfl (by first | rfl | assumption) (by first | rfl | assumption) ?_
                      refine V_iload d_Mo_offer_82 rfl ?_
                      refine V_iald d_Mo_offer_84 (by first | rfl | assumption) (by first | assumption | exact vp_in_nI (by omega) (by omega)) ?_
                      refine V_aload_n d_Mo_offer_85 rfl ?_
                      refine V_getR d_Mo_offer_86 f_Mo_69 rfl (by first | rfl | assumption) (by first | rfl | assumption) ?_
                      refine V_iload d_Mo_offer_89 rfl ?_
                      refine V_iald d_Mo_offer_91 (by first | rfl | assumption) (by first | assumption | exact vp_in_nI (by omega) (by omega)) ?_
                      rw [nI_clamp (by omega), hxi.2, hbi.2]
                      have h61 := hxi.1
                      have h62 := hbi.1
                      refine V_icmp_ne (tgt := 101) d_Mo_offer_92 (by decide) (fun b92 => ?_) (fun b92 => ?_)
                      · have hne : ¬ x i = b i := fun z => b92 (by rw [z])
                        refine V_iload d_Mo_offer_101 rfl ?_
                        refine V_aload_n d_Mo_offer_103 rfl ?_
                        refine V_getI d_Mo_offer_104 f_Mo_91 rfl (by first | rfl | assumption) (by first | rfl | assumption) ?_
                        rw [hlH.1]
                        refine V_icmp_ge (tgt := 131) d_Mo_offer_107 (by decide) (fun b107 => ?_) (fun b107 => ?_)
                        · exact absurd b107 (nI_ge hin' (by omega))
                        · refine V_aload_n d_Mo_offer_110 rfl ?_
                          refine V_getR d_Mo_offer_111 f_Mo_51 rfl (by first | rfl | assumption) (by first | rfl | assumption) ?_
                          refine V_iload d_Mo_offer_114 rfl ?_
                          refine V_iald d_Mo_offer_116 (by first | rfl | assumption) (by first | assumption | exact vp_in_nI (by omega) (by omega)) ?_
                          refine V_aload_n d_Mo_offer_117 rfl ?_
                          refine V_getR d_Mo_offer_118 f_Mo_69 rfl (by first | rfl | assumption) (by first | rfl | assumption) ?_
                          refine V_iload d_Mo_offer_121 rfl ?_
                          refine V_iald d_Mo_offer_123 (by first | rfl | assumption) (by first | assumption | exact vp_in_nI (by omega) (by omega)) ?_
                          rw [nI_clamp (by omega), hxi.2, hbi.2]
                          refine V_icmp_ge (tgt := 131) d_Mo_offer_124 (by decide) (fun b124 => ?_) (fun b124 => ?_)
                          · have hge := (nI_leI (by omega) (by omega)).mp b124
                            refine V_iconst (v := 0) d_Mo_offer_131 (by decide) ?_
                            refine V_istore_n d_Mo_offer_132 (by decide) ?_
                            dsimp only [List.set]
                            refine stay _ (lose (fun z => lex_irr (keyLex.mp z) ⟨i, hin', by omega, fun q hq => (hsame q hq).symm⟩))
                          · have hlt : x i < b i := by
                              rcases Nat.lt_or_ge (x i) (b i) with c | c
                              · exact c
                              · exact absurd (nI_le c (by omega)) b124
                            refine V_iconst (v := 1) d_Mo_offer_127 (by decide) ?_
                            refine V_goto (tgt := 132) d_Mo_offer_128 (by decide) ?_
                            refine V_istore_n d_Mo_offer_132 (by decide) ?_
                            dsimp only [List.set]
                            refine V_iload_n d_Mo_offer_133 rfl ?_
                            refine V_if_eq (tgt := 179) d_Mo_offer_134 (by decide) (fun b134 => ?_) (fun b134 => ?_)
                            · exact absurd b134 (by decide)
                            · exact put _ _ (win (keyLex.mpr ⟨i, hin', hlt, hsame⟩))
                      · have heqi := (nI_eq (by omega) (by omega)).mp b92
                        refine V_iincw (w := 1) d_Mo_offer_95 rfl (by decide) (by decide) ?_
                        dsimp only [List.set]
                        refine V_goto (tgt := 69) d_Mo_offer_98 (by decide) ?_
                        rw [nI_1]
                        refine ih hin' (fun j hj => ?_)
                        rcases Nat.lt_or_ge j i with c | c
                        · exact hsame j c
                        · rw [show j = i by omega]; exact heqi
                  exact loop 0 (Nat.zero_le _) (fun j hj => absurd hj (Nat.not_lt_zero j))
          refine V_iload_n d_Mo_offer_24 rfl ?_
          refine V_aload_n d_Mo_offer_25 rfl ?_
          refine V_getI d_Mo_offer_26 f_Mo_223 rfl (by first | rfl | assumption) (by first | rfl | assumption) ?_
          rw [e38]
          refine V_icmp_ne (tgt := 44) d_Mo_offer_29 (by decide) (fun b29 => ?_) (fun b29 => ?_)
          · have hne : ¬ mvP D ds x = mvP D ds b := fun z => b29 (by rw [z])
            exact cmp (fun z => hne z.1)
          · have heq : mvP D ds x = mvP D ds b := (nI_eq (by omega) (by omega)).mp b29
            refine V_iload_n d_Mo_offer_32 rfl ?_
            refine V_aload_n d_Mo_offer_33 rfl ?_
            refine V_getI d_Mo_offer_34 f_Mo_220 rfl (by first | rfl | assumption) (by first | rfl | assumption) ?_
            rw [e39]
            refine V_icmp_ge (tgt := 44) d_Mo_offer_37 (by decide) (fun b37 => ?_) (fun b37 => ?_)
            · have hge := (nI_leI (by omega) (by omega)).mp b37
              exact cmp (fun z => by omega)
            · have hlt : mvC D ds x < mvC D ds b := by
                rcases Nat.lt_or_ge (mvC D ds x) (mvC D ds b) with c | c
                · exact c
                · exact absurd (nI_le c (by omega)) b37
              exact putA (win (Or.inr ⟨heq, Or.inl hlt⟩))
  · have hbn : ¬ brk D w x = 0 := fun q => b5 (by rw [q]; rfl)
    refine V_vret d_Mo_offer_8 rfl ?_
    refine ⟨rfl, fr1, ?_⟩
    rcases hb1 with ⟨hnone, hall⟩ | ⟨b, hB, rest⟩
    · refine Or.inl ⟨hnone, fun y hy => ?_⟩
      rcases hy with hy | hy
      · exact hall y hy
      · rw [hy]; exact hbn
    · refine Or.inr ⟨b, ⟨Or.inl hB.1, hB.2.1, fun y hy hy0 => ?_⟩, rest⟩
      rcases hy with hy | hy
      · exact hB.2.2 y hy hy0
      · rw [hy] at hy0
        exact absurd hy0 hbn
