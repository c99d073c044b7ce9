noncomputable def stpT (D : LD) (w : LW) (ds : Nat → Nat) (M : Nat → Bool) (x y : Nat) (s1 s2 : Int32) : Bool × (Nat → Nat) × Int32 :=
  if fa_cnt (smB D w M s1) (dB D) = 0 then (false, ds, s2) else
  if brk D w (dealN D ds M (sdB D M s1 (nthB (smB D w M s1) (dB D) (drN s2 % fa_cnt (smB D w M s1) (dB D)))) x y) = 0 then (difN (dN D) (dealN D ds M (sdB D M s1 (nthB (smB D w M s1) (dB D) (drN s2 % fa_cnt (smB D w M s1) (dB D)))) x y) ds, dealN D ds M (sdB D M s1 (nthB (smB D w M s1) (dB D) (drN s2 % fa_cnt (smB D w M s1) (dB D)))) x y, nxS s2) else (false, ds, nxS s2)
theorem so_seams {E : Wd} {h0 h : Hp} {D : LD} {w : LW} (fr0 : wFr h0 h) (hl : MoLand h D) (ok : okLD D) (hw : MoLaw h w) (okw : okLW w) {ds : Nat → Nat} (hd : MoDs h ds) {M : Nat → Bool} {x y a m : Nat} (hx : x < 6) (hy : y < 6) (ha : fstO M 30 = some a) (haN : a < dN D) (hm : m ≤ 30) {tr : Nat → Nat} {s1 : Int32} (hls : lsT tr m (dB D) (trP D M s1)) (ht : ∀ i, i < m → h 54 i = nI (tr i)) {u1 u2 : Option Value} : V E 5 m_Mo_stepOn (stQ h0 (stpT D w ds M x y s1 (h 41 19))) 136 [some (.ref 41), u1, u2, some (.int (nI x)), some (.int (nI y)), some (.int (mI M)), some (.int (nI m)), some (.int (nI a)), none, none, none, none, none] [] h := by
  have hN := ok.1
  have eS : ∀ i, i < m → cnB D (lsX tr m i) a = sdB D M s1 (tr i) := by
    intro i hi
    rw [ls_side hls hi]
    unfold sdB
    rw [ha]
    rfl
  have hQ : ∀ b, smB D w M s1 b = true → trP D M s1 b := fun b hb => (smB_iff.mp hb).1
  refine V_iconst (v := 0) d_Mo_stepOn_136 (by decide) ?_
  refine V_istore d_Mo_stepOn_137 (by decide) ?_
  dsimp only [List.set]
  refine V_iconst (v := 0) d_Mo_stepOn_139 (by decide) ?_
  refine V_istore d_Mo_stepOn_140 (by decide) ?_
  dsimp only [List.set]
  have loop : ∀ i, i ≤ m → ∀ (q : Nat → Int32) u10, (∀ k, k < fa_cnt (fun j => smB D w M s1 (tr j)) i → ∃ i', isNth (fun j => smB D w M s1 (tr j)) i k i' ∧ q k = nI i') → V E 5 m_Mo_stepOn (stQ h0 (stpT D w ds M x y s1 (h 41 19))) 142 [some (.ref 41), u1, u2, some (.int (nI x)), some (.int (nI y)), some (.int (mI M)), some (.int (nI m)), some (.int (nI a)), some (.int (nI (fa_cnt (fun j => smB D w M s1 (tr j)) i))), some (.int (nI i)), u10, none, none] [] (hrow h 56 q) := by
    refine up_ind m ?_
    intro i hi ih q u10 hq
    have frq : wFr h (hrow h 56 q) := wFr.row (Or.inr (Or.inl rfl))
    have hl' : MoLand (hrow h 56 q) D := hl.of frq.keep
    have hw' : MoLaw (hrow h 56 q) w := hw.of frq.keep
    have htr' : ∀ i, i < m → tr i < dB D ∧ (hrow h 56 q) 54 i = nI (tr i) := fun i hi => ⟨(hls.1 i hi).1, by rw [hrow_ne (by omega)]; exact ht i hi⟩
    have hcl := fa_cnt_le (fun j => smB D w M s1 (tr j)) i
    refine V_iload d_Mo_stepOn_142 rfl ?_
    refine V_iload d_Mo_stepOn_144 rfl ?_
    refine V_icmp_ge (tgt := 202) d_Mo_stepOn_146 (by decide) (fun b146 => ?_) (fun b146 => ?_)
    · obtain rfl := ge_eq b146 rfl rfl (by omega) hi
      have hcn : fa_cnt (fun j => smB D w M s1 (tr j)) i = fa_cnt (smB D w M s1) (dB D) := by
        have := ls_cnt hls hQ i (Nat.le_refl _)
        rw [if_neg (Nat.lt_irrefl i)] at this
        exact this
      rw [hcn] at hq hcl ⊢
      refine V_iload d_Mo_stepOn_202 rfl ?_
      refine V_if_ne (tgt := 209) d_Mo_stepOn_204 (by decide) (fun b204 => ?_) (fun b204 => ?_)
      · have hn0 : ¬ fa_cnt (smB D w M s1) (dB D) = 0 := fun z => b204 (by rw [z]; rfl)
        have hmod : drN (h 41 19) % fa_cnt (smB D w M s1) (dB D) < fa_cnt (smB D w M s1) (dB D) := Nat.mod_lt _ (by omega)
        have hdl := drN_lt (h 41 19)
        obtain ⟨i', hi', eq'⟩ := hq _ hmod
        have hnth := nthB_eq (ls_nth hls hQ hi')
        have es : (hrow h 56 q) 41 19 = h 41 19 := by rw [hrow_ne (by omega)]
        refine V_aload_n d_Mo_stepOn_209 rfl ?_
        refine V_iload d_Mo_stepOn_210 rfl ?_
        refine V_aload_n d_Mo_stepOn_212 rfl ?_
        refine V_getR d_Mo_stepOn_213 f_Mo_63 rfl (by first | rfl | assumption) (by first | rfl | assumption) ?_
        refine V_aload_n d_Mo_stepOn_216 rfl ?_
        refine V_callV1 d_Mo_stepOn_217 k_Mo_196 rfl (c_Mdraw _) (by first | rfl | assumption) rfl rfl (by first | decide | omega) rfl (Nat.le_of_ble_eq_true rfl) ?_
        rw [es]
        refine V_iload d_Mo_stepOn_220 rfl ?_
        refine V_irem d_Mo_stepOn_222 (by assumption) ?_
        rw [pk_rem (by omega) (by omega) (by omega)]
        have hin : vp_in (nI (drN (h 41 19) % fa_cnt (smB D w M s1) (dB D))) 30 := vp_in_nI (by omega) (by omega)
        refine V_iald d_Mo_stepOn_223 (by first | rfl | assumption) (by first | assumption | exact vp_in_nI (by omega) (by omega)) ?_
        rw [nI_clamp (by omega), hup_ne (by omega), hrow_same, eq']
        have fr2 : wFr (hrow h 56 q) (hup (hrow h 56 q) 41 19 (nxS (h 41 19))) := wFr.fld (Or.inl rfl)
        have fr3 := frq.tr fr2
        refine V_iload d_Mo_stepOn_224 rfl ?_
        refine V_callV1 d_Mo_stepOn_226 k_Mo_205 rfl (c_sideOf (hl.of fr3.keep) ok hm (tr := tr) (fun i hi => ⟨(hls.1 i hi).1, by rw [hup_ne (by omega), hrow_ne (by omega)]; exact ht i hi⟩) (wo := i') (by have := hi'.1; omega) haN) (by first | rfl | assumption) rfl rfl (by first | decide | omega) rfl (Nat.le_of_ble_eq_true rfl) ?_
        rw [eS i' hi'.1]
        refine V_istore d_Mo_stepOn_229 (by decide) ?_
        dsimp only [List.set]
        have h1 := so_deal (E := E) (h0 := h0) (h := hup (hrow h 56 q) 41 19 (nxS (h 41 19))) (D := D) (w := w) (ds := ds) (M := M) (P := sdB D M s1 (tr i')) (x := x) (y := y) (u1 := u1) (u2 := u2) (u6 := some (.int (nI i))) (u7 := some (.int (nI a))) (u8 := some (.int (nI (fa_cnt (smB D w M s1) (dB D))))) (u10 := u10) (fr0.tr fr3) (hl.of fr3.keep) ok (hw.of fr3.keep) okw (hd.of (by rw [hup_ne (by omega), hrow_ne (by omega)])) hx hy
        rw [show (hup (hrow h 56 q) 41 19 (nxS (h 41 19))) 41 19 = nxS (h 41 19) from by rw [hup_same, upd_s]] at h1
        unfold stpT
        rw [if_neg hn0, hnth]
        exact h1
      · have hn0 : fa_cnt (smB D w M s1) (dB D) = 0 := (eq_nI _ 0 rfl rfl (by omega) (by decide)).mp b204
        refine V_iconst (v := 0) d_Mo_stepOn_207 (by decide) ?_
        refine V_zret d_Mo_stepOn_208 rfl (by first | rfl | decide | assumption) ?_
        unfold stpT
        rw [if_pos hn0]
        exact ⟨rfl, hd.of (by rw [hrow_ne (by omega)]), by rw [hrow_ne (by omega)], fr0.tr frq⟩
    · have him := nge_lt b146 rfl rfl (by omega) hi
      have ih := ih him
      have no : ∀ u10, smB D w M s1 (tr i) = false → V E 5 m_Mo_stepOn (stQ h0 (stpT D w ds M x y s1 (h 41 19))) 196 [some (.ref 41), u1, u2, some (.int (nI x)), some (.int (nI y)), some (.int (mI M)), some (.int (nI m)), some (.int (nI a)), some (.int (nI (fa_cnt (fun j => smB D w M s1 (tr j)) i))), some (.int (nI i)), u10, none, none] [] (hrow h 56 q) := by
        intro u10 hno
        refine V_iincw (w := 1) d_Mo_stepOn_196 rfl (by decide) (by decide) ?_
        dsimp only [List.set]
        refine V_goto (tgt := 142) d_Mo_stepOn_199 (by decide) ?_
        rw [nI_1]
        have h1 := ih q u10
        rw [fa_cnt_no (p := fun j => smB D w M s1 (tr j)) hno] at h1
        refine h1 (fun k hk => ?_)
        obtain ⟨i', ⟨z1, z2, z3⟩, z4⟩ := hq k hk
        exact ⟨i', ⟨by omega, z2, z3⟩, z4⟩
      refine V_aload_n d_Mo_stepOn_149 rfl ?_
      refine V_iload d_Mo_stepOn_150 rfl ?_
      refine V_iload d_Mo_stepOn_152 rfl ?_
      refine V_iload d_Mo_stepOn_154 rfl ?_
      refine V_callV1 d_Mo_stepOn_156 k_Mo_205 rfl (c_sideOf hl' ok hm htr' (wo := i) (by omega) haN) (by first | rfl | assumption) rfl rfl (by first | decide | omega) rfl (Nat.le_of_ble_eq_true rfl) ?_
      rw [eS i him]
      refine V_istore d_Mo_stepOn_159 (by decide) ?_
      dsimp only [List.set]
      refine V_aload_n d_Mo_stepOn_161 rfl ?_
      refine V_iload d_Mo_stepOn_162 rfl ?_
      refine V_callV1 d_Mo_stepOn_164 k_Mo_133 rfl (c_Mfits hl' ok hw' okw (sdB D M s1 (tr i))) (by first | rfl | assumption) rfl rfl (by first | decide | omega) rfl (Nat.le_of_ble_eq_true rfl) ?_
      refine V_if_eq (tgt := 196) d_Mo_stepOn_167 (by decide) (fun b167 => ?_) (fun b167 => ?_)
      · have hno := b2i.mp b167
        refine no _ ?_
        cases hb : smB D w M s1 (tr i) with
        | false => rfl
        | true => rw [(smB_iff.mp hb).2.1] at hno; exact absurd hno (by decide)
      · have hyes1 := b2in.mp b167
        refine V_aload_n d_Mo_stepOn_170 rfl ?_
        refine V_iload d_Mo_stepOn_171 rfl ?_
        refine V_iload d_Mo_stepOn_173 rfl ?_
        refine V_iconst (v := -1) d_Mo_stepOn_175 (by decide) ?_
        refine V_ixor d_Mo_stepOn_176 ?_
        refine V_iand d_Mo_stepOn_177 ?_
        rw [mI_dif]
        refine V_callV1 d_Mo_stepOn_178 k_Mo_133 rfl (c_Mfits hl' ok hw' okw (fun j => M j && !sdB D M s1 (tr i) j)) (by first | rfl | assumption) rfl rfl (by first | decide | omega) rfl (Nat.le_of_ble_eq_true rfl) ?_
        refine V_if_eq (tgt := 196) d_Mo_stepOn_181 (by decide) (fun b181 => ?_) (fun b181 => ?_)
        · have hno := b2i.mp b181
          refine no _ ?_
          cases hb : smB D w M s1 (tr i) with
          | false => rfl
          | true => rw [(smB_iff.mp hb).2.2] at hno; exact absurd hno (by decide)
        · have hyes2 := b2in.mp b181
          have hyes : smB D w M s1 (tr i) = true := smB_iff.mpr ⟨(hls.1 i him).2, hyes1, hyes2⟩
          have hin : vp_in (nI (fa_cnt (fun j => smB D w M s1 (tr j)) i)) 30 := vp_in_nI (by omega) (by omega)
          refine V_aload_n d_Mo_stepOn_184 rfl ?_
          refine V_getR d_Mo_stepOn_185 f_Mo_63 rfl (by first | rfl | assumption) (by first | rfl | assumption) ?_
          refine V_iload d_Mo_stepOn_188 rfl ?_
          refine V_iload d_Mo_stepOn_190 rfl ?_
          refine V_iast d_Mo_stepOn_192 (by first | rfl | assumption) (by first | assumption | exact vp_in_nI (by omega) (by omega)) ?_
          refine V_iincw (w := 1) d_Mo_stepOn_193 rfl (by decide) (by decide) ?_
          dsimp only [List.set]
          refine V_iincw (w := 1) d_Mo_stepOn_196 rfl (by decide) (by decide) ?_
          dsimp only [List.set]
          refine V_goto (tgt := 142) d_Mo_stepOn_199 (by decide) ?_
          rw [nI_clamp (by omega), hup_hrow, nI_1, nI_1]
          have h1 := ih (upd q (fa_cnt (fun j => smB D w M s1 (tr j)) i) (nI i)) (some (.int (mI (sdB D M s1 (tr i)))))
          rw [fa_cnt_yes (p := fun j => smB D w M s1 (tr j)) hyes] at h1
          refine h1 (fun k hk => ?_)
          by_cases c : k = fa_cnt (fun j => smB D w M s1 (tr j)) i
          · exact ⟨i, ⟨by omega, hyes, c.symm⟩, by rw [c, upd_s]⟩
          · obtain ⟨i', ⟨z1, z2, z3⟩, z4⟩ := hq k (by omega)
            exact ⟨i', ⟨by omega, z2, z3⟩, by rw [upd_n c]; exact z4⟩
  have h1 := loop 0 (Nat.zero_le _) (h 56) none (fun k hk => absurd hk (Nat.not_lt_zero k))
  rw [hrow_self] at h1
  exact h1
