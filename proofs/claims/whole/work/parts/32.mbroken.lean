/-- the law, FIXED places left aside if fr -/
def wfr (fr : Bool) (w : LW) : LW := (w.1, w.2.1, if fr then fun _ => none else w.2.2)
theorem wfr_f (w : LW) : wfr false w = w := rfl
theorem okLW.fr {w : LW} (ok : okLW w) (fr : Bool) : okLW (wfr fr w) := by
  refine ⟨ok.1, ok.2.1, ok.2.2.1, ok.2.2.2.1, fun p d h => ?_⟩
  cases fr with
  | true => cases h
  | false => exact ok.2.2.2.2 p d h
theorem brk_eq {D : LD} {w : LW} {ds : Nat → Nat} {m d : Nat} (h1 : 1 ≤ m) (h6 : m ≤ 6) (hno : ∀ j, 1 ≤ j → j < m → cul D w ds j = none) (hs : cul D w ds m = some d) : brk D w ds = m := by
  unfold brk
  rw [fstO_some (i := m - 1) (by omega) (by rw [show m - 1 + 1 = m by omega, hs]; rfl) (fun j hj => by rw [hno (j + 1) (by omega) (by omega)]; rfl)]
  show m - 1 + 1 = m
  omega
theorem fstO_succ {p : Nat → Bool} {n : Nat} : fstO p (n + 1) = match fstO p n with
    | some t => some t
    | none => if p n then some n else none := by
  cases hq : fstO p n with
  | some t =>
    obtain ⟨h1, h2, h3⟩ := fstO_lt hq
    exact fstO_some (by omega) h2 h3
  | none =>
    have hno := fstO_none_iff.mp hq
    cases hp : p n with
    | true => exact fstO_some (by omega) hp hno
    | false =>
      refine fstO_none (fun j hj => ?_)
      rcases Nat.lt_or_ge j n with c | c
      · exact hno j c
      · rw [show j = n by omega]; exact hp
theorem many_inv {D : LD} {w : LW} {ds : Nat → Nat} : ∀ i, fstO (manyB D w ds) i = none ↔ fa_cnt (cutB D ds) i ≤ wC w
  | 0 => by
    constructor
    · intro _; exact Nat.zero_le _
    · intro _; exact fstO_none (fun j hj => absurd hj (Nat.not_lt_zero j))
  | i + 1 => by
    rw [fstO_succ]
    have ih := many_inv (D := D) (w := w) (ds := ds) i
    cases hq : fstO (manyB D w ds) i with
    | some t =>
      have h1 : ¬ fa_cnt (cutB D ds) i ≤ wC w := fun q => by rw [ih.mpr q] at hq; cases hq
      constructor
      · intro q; cases q
      · intro q
        rw [fa_cnt] at q
        omega
    | none =>
      have h1 := ih.mp hq
      simp only []
      cases hc : cutB D ds i with
      | false =>
        have : manyB D w ds i = false := by unfold manyB; rw [hc]; rfl
        rw [this, fa_cnt_no hc]
        simp [h1]
      | true =>
        have e := fa_cnt_yes hc
        unfold manyB
        rw [hc, e]
        by_cases hz : wC w < fa_cnt (cutB D ds) i + 1
        · simp [hz]
        · simp [hz]; omega
theorem dP_ne {D : LD} {w : LW} (ok : okLD D) {ds : Nat → Nat} {d : Nat} (h : badB D w 1 (dP D ds d) = false) : ∃ a, fstO (dP D ds d) 30 = some a := by
  rw [badB_1] at h
  have h1 : cI (dP D ds d) ≠ 0 := by simpa using h
  cases hq : fstO (dP D ds d) 30 with
  | some a => exact ⟨a, rfl⟩
  | none =>
    obtain ⟨j, hj, hP⟩ := cI_ne0.mp h1
    rw [fstO_none_iff.mp hq j hj] at hP
    cases hP
theorem bits_0 {D : LD} {w : LW} {ds : Nat → Nat} {d : Nat} : mI (dP D ds d) = 0 ↔ badB D w 1 (dP D ds d) = true := by
  rw [badB_1, decide_eq_true_iff, mI_eq0, cI_eq0]
/-- what the model notes down of a broken law -/
def okg (h : Hp) (g : Nat → Int32) : Prop := ∀ f, f ≠ 16 → f ≠ 17 → f ≠ 18 → g f = h 41 f
theorem okg.keep {h : Hp} {g : Nat → Int32} (hg : okg h g) : mKeep h (hrow h 41 g) := ⟨fun q h1 h2 => hrow_ne (by omega), by rw [hrow_same]; exact hg 4 (by omega) (by omega) (by omega), by rw [hrow_same]; exact hg 8 (by omega) (by omega) (by omega), by rw [hrow_same]; exact hg 10 (by omega) (by omega) (by omega), by rw [hrow_same]; exact hg 11 (by omega) (by omega) (by omega), by rw [hrow_same]; exact hg 13 (by omega) (by omega) (by omega)⟩
theorem okg.set {h : Hp} {g : Nat → Int32} (hg : okg h g) {k : Nat} (hk : k = 16 ∨ k = 17 ∨ k = 18) (x : Int32) : okg h (upd g k x) := fun f h1 h2 h3 => by rw [upd_n (by omega)]; exact hg f h1 h2 h3
theorem Mbroken_core {E : Wd} {h : Hp} {D : LD} {w : LW} (hl : MoLand h D) (ok : okLD D) (hw : MoLaw h w) (okw : okLW w) {ds : Nat → Nat} (hd : MoDs h ds) (fr : Bool) (Q : Option Value → Hp → Prop)
    (hQ : ∀ (m : Nat) (g : Nat → Int32), okg h g → brk D (wfr fr w) ds = m → (∀ d, m ≠ 0 → cul D (wfr fr w) ds m = some d → g 16 = nI d) → (m = 2 → ∀ d a, cul D (wfr fr w) ds 2 = some d → fstO (dP D ds d) 30 = some a → g 17 = nI a ∧ g 18 = fxI (fstO (fun j => dP D ds d j && !reach D (dP D ds d) a j) 30)) → Q (some (.int (nI m))) (hrow h 41 g)) :
    V E 4 m_Mo_broken Q 0 [some (.ref 41), some (.int (if fr then 1 else 0)), none, none, none, none] [] h := by
  have hn := ok.1
  have h6 := okw.2.1
  have hc10 := okw.2.2.2.1
  have hgl : ∀ {g}, okg h g → MoLand (hrow h 41 g) D := fun hg => hl.of hg.keep
  have hgw : ∀ {g}, okg h g → MoLaw (hrow h 41 g) w := fun hg => hw.of hg.keep
  have hgd : ∀ {g : Nat → Int32}, okg h g → MoDs (hrow h 41 g) ds := fun hg => hd.of (hrow_ne (by omega))
  -- the end: law 6, or none
  have fin : ∀ (g : Nat → Int32) u2 u4 u5, okg h g → (∀ j, 1 ≤ j → j < 6 → cul D (wfr fr w) ds j = none) → V E 4 m_Mo_broken Q 271 [some (.ref 41), some (.int (if fr then 1 else 0)), u2, some (.int (fxI (fstO (manyB D w ds) 10))), u4, u5] [] (hrow h 41 g) := by
    intro g u2 u4 u5 hg hno
    have h6' : cul D (wfr fr w) ds 6 = fstO (manyB D w ds) 10 := rfl
    have hneg := fxI_neg (r := fstO (manyB D w ds) 10) (fun d hd => by have := (fstO_lt hd).1; omega)
    refine V_aload_n d_Mo_broken_271 rfl ?_
    refine V_iload_n d_Mo_broken_272 rfl ?_
    refine V_put (ty := .int) d_Mo_broken_273 f_Mo_118 rfl (by first | rfl | assumption) (by first | rfl | assumption) (by decide +kernel) (by first | rfl | assumption) (by first | rfl | assumption) ?_
    refine V_iload_n d_Mo_broken_276 rfl ?_
    refine V_if_lt (tgt := 285) d_Mo_broken_277 (by decide) (fun b277 => ?_) (fun b277 => ?_)
    · have hnone := hneg.mp b277
      refine V_iconst (v := 0) d_Mo_broken_285 (by decide) ?_
      refine V_iret d_Mo_broken_286 rfl ?_
      rw [hup_hrow]
      refine hQ 0 _ (hg.set (Or.inl rfl) _) (brk_0.mpr (fun m h1 h2 => ?_)) (fun d q => absurd rfl q) (fun q => by omega)
      rcases Nat.lt_or_ge m 6 with c | c
      · exact hno m h1 c
      · rw [show m = 6 by omega, h6']; exact hnone
    · refine V_bipush (v := 6) d_Mo_broken_280 (by decide) ?_
      refine V_goto (tgt := 286) d_Mo_broken_282 (by decide) ?_
      refine V_iret d_Mo_broken_286 rfl ?_
      rw [hup_hrow]
      cases hq : fstO (manyB D w ds) 10 with
      | none => exact absurd (hneg.mpr hq) b277
      | some d =>
        refine hQ 6 _ (hg.set (Or.inl rfl) _) (brk_eq (d := d) (by omega) (by omega) hno (h6'.trans hq)) (fun e _ he => ?_) (fun q => by omega)
        rw [upd_s]
        rw [h6', hq] at he
        cases he
        rfl
  -- law 5
  have st5 : ∀ i, i ≤ dN D → ∀ (g : Nat → Int32) u2 u5, okg h g → (∀ j, 1 ≤ j → j < 5 → cul D (wfr fr w) ds j = none) → (∀ j, j < i → strayB (wfr fr w) ds j = false) → (i = 0 ∨ fr = false) → V E 4 m_Mo_broken Q 217 [some (.ref 41), some (.int (if fr then 1 else 0)), u2, some (.int (fxI (fstO (manyB D w ds) 10))), some (.int (nI i)), u5] [] (hrow h 41 g) := by
    refine up_ind (dN D) ?_
    intro i hi ih g u2 u5 hg hno hst hfi
    have done : (∀ j, j < dN D → strayB (wfr fr w) ds j = false) → V E 4 m_Mo_broken Q 271 [some (.ref 41), some (.int (if fr then 1 else 0)), u2, some (.int (fxI (fstO (manyB D w ds) 10))), some (.int (nI i)), u5] [] (hrow h 41 g) := by
      intro hall
      refine fin g _ _ _ hg (fun j h1 h2 => ?_)
      rcases Nat.lt_or_ge j 5 with c | c
      · exact hno j h1 c
      · rw [show j = 5 by omega]
        exact fstO_none hall
    refine V_iload d_Mo_broken_217 rfl ?_
    refine V_aload_n d_Mo_broken_219 rfl ?_
    refine V_getI d_Mo_broken_220 f_Mo_91 rfl (by first | rfl | assumption) (by first | rfl | assumption) ?_
    rw [(hgl hg).1]
    refine V_icmp_ge (tgt := 271) d_Mo_broken_223 (by decide) (fun b223 => ?_) (fun b223 => ?_)
    · obtain rfl := ge_eq b223 rfl rfl (by omega) hi
      exact done hst
    · have hin' := nge_lt b223 rfl rfl (by omega) hi
      have hin : vp_in (nI i) 30 := vp_in_nI (by omega) (by omega)
      refine V_iload_n d_Mo_broken_226 rfl ?_
      refine V_if_ne (tgt := 271) d_Mo_broken_227 (by decide) (fun b227 => ?_) (fun b227 => ?_)
      · refine done (fun j hj => ?_)
        have hfr := b2in.mp b227
        subst hfr
        rfl
      · have hfr := b2i.mp b227
        subst hfr
        have hdi := hd i (by omega)
        have hfx := hw.2.2.2.2 i (by omega)
        refine V_aload_n d_Mo_broken_230 rfl ?_
        refine V_iload d_Mo_broken_231 rfl ?_
        refine V_put (ty := .int) d_Mo_broken_233 f_Mo_118 rfl (by first | rfl | assumption) (by first | rfl | assumption) (by decide +kernel) (by first | rfl | assumption) (by first | rfl | assumption) ?_
        refine V_aload_n d_Mo_broken_236 rfl ?_
        refine V_getR d_Mo_broken_237 f_Mo_48 rfl (by first | rfl | assumption) (by first | rfl | assumption) ?_
        refine V_iload d_Mo_broken_240 rfl ?_
        refine V_iald d_Mo_broken_242 (by first | rfl | assumption) (by first | assumption | exact vp_in_nI (by omega) (by omega)) ?_
        rw [hup_hrow, hrow_ne (by omega), nI_clamp (by omega), hfx]
        have hg' := hg.set (k := 16) (Or.inl rfl) (nI i)
        have next : strayB w ds i = false → V E 4 m_Mo_broken Q 265 [some (.ref 41), some (.int (if false then 1 else 0)), u2, some (.int (fxI (fstO (manyB D w ds) 10))), some (.int (nI i)), u5] [] (hrow h 41 (upd g 16 (nI i))) := by
          intro hs
          refine V_iincw (w := 1) d_Mo_broken_265 rfl (by decide) (by decide) ?_
          dsimp only [List.set]
          refine V_goto (tgt := 217) d_Mo_broken_268 (by decide) ?_
          rw [nI_1]
          refine ih hin' _ _ _ hg' hno (fun j hj => ?_) (Or.inr rfl)
          rcases Nat.lt_or_ge j i with c | c
          · exact hst j c
          · rw [show j = i by omega]; exact hs
        have hneg := fxI_neg (r := wFx w i) (fun d hd => by have := okw.2.2.2.2 i d hd; omega)
        refine V_if_lt (tgt := 265) d_Mo_broken_243 (by decide) (fun b243 => ?_) (fun b243 => ?_)
        · refine next ?_
          unfold strayB
          rw [hneg.mp b243]
        · refine V_aload_n d_Mo_broken_246 rfl ?_
          refine V_getR d_Mo_broken_247 f_Mo_48 rfl (by first | rfl | assumption) (by first | rfl | assumption) ?_
          refine V_iload d_Mo_broken_250 rfl ?_
          refine V_iald d_Mo_broken_252 (by first | rfl | assumption) (by first | assumption | exact vp_in_nI (by omega) (by omega)) ?_
          refine V_aload_n d_Mo_broken_253 rfl ?_
          refine V_getR d_Mo_broken_254 f_Mo_51 rfl (by first | rfl | assumption) (by first | rfl | assumption) ?_
          refine V_iload d_Mo_broken_257 rfl ?_
          refine V_iald d_Mo_broken_259 (by first | rfl | assumption) (by first | assumption | exact vp_in_nI (by omega) (by omega)) ?_
          rw [hrow_ne (by omega), hrow_ne (by omega), nI_clamp (by omega), hfx, hdi.2]
          cases hq : wFx w i with
          | none => exact absurd (hneg.mpr hq) b243
          | some e =>
            have he := okw.2.2.2.2 i e hq
            rw [show fxI (some e) = nI e from rfl]
            refine V_icmp_eq (tgt := 265) d_Mo_broken_260 (by decide) (fun b260 => ?_) (fun b260 => ?_)
            · refine next ?_
              have := (nI_eq (by omega) (by omega)).mp b260
              unfold strayB
              rw [hq]
              simp [this]
            · refine V_iconst (v := 5) d_Mo_broken_263 (by decide) ?_
              refine V_iret d_Mo_broken_264 rfl ?_
              have hs : strayB w ds i = true := by
                unfold strayB
                rw [hq]
                simp
                intro q
                exact b260 (by rw [q])
              have h5 : cul D (wfr false w) ds 5 = some i := fstO_some hin' hs hst
              refine hQ 5 _ hg' (brk_eq (d := i) (by omega) (by omega) hno h5) (fun e _ he => ?_) (fun q => by omega)
              rw [upd_s]
              rw [h5] at he
              cases he
              rfl
  -- laws 4 and 6
  have st4 : ∀ i, i ≤ 10 → ∀ (g : Nat → Int32) u5, okg h g → (∀ j, 1 ≤ j → j < 4 → cul D (wfr fr w) ds j = none) → (∀ j, j < i → (wKp w j && cutB D ds j) = false) → V E 4 m_Mo_broken Q 135 [some (.ref 41), some (.int (if fr then 1 else 0)), some (.int (nI (fa_cnt (cutB D ds) i))), some (.int (fxI (fstO (manyB D w ds) i))), some (.int (nI i)), u5] [] (hrow h 41 g) := by
    refine up_ind 10 ?_
    intro i hi ih g u5 hg hno hk
    refine V_iload d_Mo_broken_135 rfl ?_
    refine V_bipush (v := 10) d_Mo_broken_137 (by decide) ?_
    refine V_icmp_ge (tgt := 214) d_Mo_broken_139 (by decide) (fun b139 => ?_) (fun b139 => ?_)
    · obtain rfl := ge_eq b139 rfl rfl (by decide) hi
      refine V_iconst (v := 0) d_Mo_broken_214 (by decide) ?_
      refine V_istore d_Mo_broken_215 (by decide) ?_
      dsimp only [List.set]
      refine st5 0 (Nat.zero_le _) g _ _ hg (fun j h1 h2 => ?_) (fun j hj => absurd hj (Nat.not_lt_zero j)) (Or.inl rfl)
      rcases Nat.lt_or_ge j 4 with c | c
      · exact hno j h1 c
      · rw [show j = 4 by omega]
        exact fstO_none hk
    · have hi10 := nge_lt b139 rfl rfl (by decide) hi
      have hin : vp_in (nI i) 10 := vp_in_nI hi10 (by omega)
      have hcl := fa_cnt_le (cutB D ds) i
      refine V_aload_n d_Mo_broken_142 rfl ?_
      refine V_iload d_Mo_broken_143 rfl ?_
      refine V_callV1 d_Mo_broken_145 k_Mo_136 rfl (c_MisCut (hgl hg) ok (hgd hg) hi10) (by first | rfl | assumption) rfl rfl (by first | decide | omega) rfl (Nat.le_of_ble_eq_true rfl) ?_
      refine V_istore d_Mo_broken_148 (by decide) ?_
      dsimp only [List.set]
      refine V_aload_n d_Mo_broken_150 rfl ?_
      refine V_iload d_Mo_broken_151 rfl ?_
      refine V_put (ty := .int) d_Mo_broken_153 f_Mo_118 rfl (by first | rfl | assumption) (by first | rfl | assumption) (by decide +kernel) (by first | rfl | assumption) (by first | rfl | assumption) ?_
      refine V_iload d_Mo_broken_156 rfl ?_
      rw [hup_hrow]
      have hg' := hg.set (k := 16) (Or.inl rfl) (nI i)
      have next : (wKp w i && cutB D ds i) = false → V E 4 m_Mo_broken Q 173 [some (.ref 41), some (.int (if fr then 1 else 0)), some (.int (nI (fa_cnt (cutB D ds) i))), some (.int (fxI (fstO (manyB D w ds) i))), some (.int (nI i)), some (.int (if cutB D ds i then 1 else 0))] [] (hrow h 41 (upd g 16 (nI i))) := by
        intro hf
        have go : ∀ r, r = fstO (manyB D w ds) (i + 1) → V E 4 m_Mo_broken Q 207 [some (.ref 41), some (.int (if fr then 1 else 0)), some (.int (nI (fa_cnt (cutB D ds) (i + 1)))), some (.int (fxI (fstO (manyB D w ds) i))), some (.int (nI i)), some (.int (if cutB D ds i then 1 else 0))] [.int (fxI r)] (hrow h 41 (upd g 16 (nI i))) := by
          intro r hr
          refine V_istore_n d_Mo_broken_207 (by decide) ?_
          dsimp only [List.set]
          refine V_iincw (w := 1) d_Mo_broken_208 rfl (by decide) (by decide) ?_
          dsimp only [List.set]
          refine V_goto (tgt := 135) d_Mo_broken_211 (by decide) ?_
          rw [nI_1, hr]
          refine ih hi10 _ _ hg' hno (fun j hj => ?_)
          rcases Nat.lt_or_ge j i with c | c
          · exact hk j c
          · rw [show j = i by omega]; exact hf
        refine V_iload_n d_Mo_broken_173 rfl ?_
        refine V_iload d_Mo_broken_174 rfl ?_
        refine V_if_eq (tgt := 183) d_Mo_broken_176 (by decide) (fun b176 => ?_) (fun b176 => ?_)
        · have hc := b2i.mp b176
          refine V_iconst (v := 0) d_Mo_broken_183 (by decide) ?_
          refine V_iadd d_Mo_broken_184 ?_
          refine V_istore_n d_Mo_broken_185 (by decide) ?_
          dsimp only [List.set]
          refine V_iload d_Mo_broken_186 rfl ?_
          · rw [Int32.add_zero, ← fa_cnt_no hc]
            refine V_if_eq (tgt := 206) d_Mo_broken_188 (by decide) (fun b188 => ?_) (fun b188 => ?_)
            · refine V_iload_n d_Mo_broken_206 rfl ?_
              refine go _ ?_
              rw [fstO_succ]
              cases fstO (manyB D w ds) i with
              | some t => rfl
              | none =>
                have : manyB D w ds i = false := by unfold manyB; rw [hc]; rfl
                rw [this]
                rfl
            · exact absurd hc (by rw [b2in.mp b188]; decide)
        · have hc := b2in.mp b176
          refine V_iconst (v := 1) d_Mo_broken_179 (by decide) ?_
          refine V_goto (tgt := 184) d_Mo_broken_180 (by decide) ?_
          refine V_iadd d_Mo_broken_184 ?_
          refine V_istore_n d_Mo_broken_185 (by decide) ?_
          dsimp only [List.set]
          refine V_iload d_Mo_broken_186 rfl ?_
          · rw [nI_1, ← fa_cnt_yes hc]
            have e1 := fa_cnt_yes hc
            refine V_if_eq (tgt := 206) d_Mo_broken_188 (by decide) (fun b188 => ?_) (fun b188 => ?_)
            · exact absurd hc (by rw [b2i.mp b188]; decide)
            · refine V_iload_n d_Mo_broken_191 rfl ?_
              refine V_aload_n d_Mo_broken_192 rfl ?_
              refine V_getI d_Mo_broken_193 f_Mo_45 rfl (by first | rfl | assumption) (by first | rfl | assumption) ?_
              refine V_iconst (v := 1) d_Mo_broken_196 (by decide) ?_
              refine V_iadd d_Mo_broken_197 ?_
              rw [(hgw hg').2.2.1, nI_1]
              refine V_icmp_ne (tgt := 206) d_Mo_broken_198 (by decide) (fun b198 => ?_) (fun b198 => ?_)
              · refine V_iload_n d_Mo_broken_206 rfl ?_
                refine go _ ?_
                have hne : ¬ fa_cnt (cutB D ds) (i + 1) = wC w + 1 := fun q => b198 (by rw [q])
                rw [fstO_succ]
                cases hq : fstO (manyB D w ds) i with
                | some t => rfl
                | none =>
                  have h1 := (many_inv i).mp hq
                  have : manyB D w ds i = false := by unfold manyB; rw [decide_eq_false (by omega), Bool.and_false]
                  rw [this]
                  rfl
              · refine V_iload d_Mo_broken_201 rfl ?_
                refine V_goto (tgt := 207) d_Mo_broken_203 (by decide) ?_
                have heq : fa_cnt (cutB D ds) (i + 1) = wC w + 1 := (nI_eq (by omega) (by omega)).mp b198
                refine go (some i) ?_
                rw [fstO_succ]
                have hq : fstO (manyB D w ds) i = none := (many_inv i).mpr (by omega)
                have : manyB D w ds i = true := by unfold manyB; rw [hc, decide_eq_true (by omega)]; rfl
                rw [hq, this]
                rfl
      refine V_if_eq (tgt := 173) d_Mo_broken_158 (by decide) (fun b158 => ?_) (fun b158 => ?_)
      · exact next (by rw [b2i.mp b158, Bool.and_false])
      · refine V_aload_n d_Mo_broken_161 rfl ?_
        refine V_getR d_Mo_broken_162 f_Mo_41 rfl (by first | rfl | assumption) (by first | rfl | assumption) ?_
        refine V_iload d_Mo_broken_165 rfl ?_
        refine V_zald d_Mo_broken_167 (by first | rfl | assumption) (by first | assumption | exact vp_in_nI (by omega) (by omega)) ?_
        rw [hrow_ne (by omega), nI_clamp (by omega), hw.2.2.2.1 i hi10]
        refine V_if_eq (tgt := 173) d_Mo_broken_168 (by decide) (fun b168 => ?_) (fun b168 => ?_)
        · exact next (by rw [b2i.mp b168]; rfl)
        · refine V_iconst (v := 4) d_Mo_broken_171 (by decide) ?_
          refine V_iret d_Mo_broken_172 rfl ?_
          have h4 : cul D (wfr fr w) ds 4 = some i := fstO_some hi10 (by show (wKp w i && cutB D ds i) = true; rw [b2in.mp b158, b2in.mp b168]; rfl) hk
          refine hQ 4 _ hg' (brk_eq (d := i) (by omega) (by omega) hno h4) (fun e _ he => ?_) (fun q => by omega)
          rw [upd_s]
          rw [h4] at he
          cases he
          rfl
  -- law 3
  have st3 : ∀ i, i ≤ wK w → ∀ (g : Nat → Int32) u3 u4 u5, okg h g → (∀ j, 1 ≤ j → j < 3 → cul D (wfr fr w) ds j = none) → (∀ j, j < i → badB D w 3 (dP D ds j) = false) → V E 4 m_Mo_broken Q 95 [some (.ref 41), some (.int (if fr then 1 else 0)), some (.int (nI i)), u3, u4, u5] [] (hrow h 41 g) := by
    refine up_ind (wK w) ?_
    intro i hi ih g u3 u4 u5 hg hno hb
    refine V_iload_n d_Mo_broken_95 rfl ?_
    refine V_aload_n d_Mo_broken_96 rfl ?_
    refine V_getI d_Mo_broken_97 f_Mo_34 rfl (by first | rfl | assumption) (by first | rfl | assumption) ?_
    rw [(hgw hg).1]
    refine V_icmp_ge (tgt := 128) d_Mo_broken_100 (by decide) (fun b100 => ?_) (fun b100 => ?_)
    · obtain rfl := ge_eq b100 rfl rfl (by omega) hi
      refine V_iconst (v := 0) d_Mo_broken_128 (by decide) ?_
      refine V_istore_n d_Mo_broken_129 (by decide) ?_
      dsimp only [List.set]
      refine V_iconst (v := -1) d_Mo_broken_130 (by decide) ?_
      refine V_istore_n d_Mo_broken_131 (by decide) ?_
      dsimp only [List.set]
      refine V_iconst (v := 0) d_Mo_broken_132 (by decide) ?_
      refine V_istore d_Mo_broken_133 (by decide) ?_
      dsimp only [List.set]
      have := st4 0 (by omega) g u5 hg (fun j h1 h2 => ?_) (fun j hj => absurd hj (Nat.not_lt_zero j))
      · rw [show fstO (manyB D w ds) 0 = none from fstO_none (fun j hj => absurd hj (Nat.not_lt_zero j))] at this
        exact this
      · rcases Nat.lt_or_ge j 3 with c | c
        · exact hno j h1 c
        · rw [show j = 3 by omega]
          exact fstO_none hb
    · have hik := nge_lt b100 rfl rfl (by omega) hi
      have hg' := hg.set (k := 16) (Or.inl rfl) (nI i)
      refine V_aload_n d_Mo_broken_103 rfl ?_
      refine V_iload_n d_Mo_broken_104 rfl ?_
      refine V_put (ty := .int) d_Mo_broken_105 f_Mo_118 rfl (by first | rfl | assumption) (by first | rfl | assumption) (by decide +kernel) (by first | rfl | assumption) (by first | rfl | assumption) ?_
      refine V_aload_n d_Mo_broken_108 rfl ?_
      refine V_aload_n d_Mo_broken_109 rfl ?_
      refine V_iload_n d_Mo_broken_110 rfl ?_
      rw [hup_hrow]
      refine V_callV1 d_Mo_broken_111 k_Mo_121 rfl (c_bitsOf (hgl hg') ok (hgd hg') (show i < 2 ^ 31 by omega)) (by first | rfl | assumption) rfl rfl (by first | decide | omega) rfl (Nat.le_of_ble_eq_true rfl) ?_
      refine V_callV1 d_Mo_broken_114 k_Mo_133 rfl (c_Mfits (hgl hg') ok (hgw hg') okw (dP D ds i)) (by first | rfl | assumption) rfl rfl (by first | decide | omega) rfl (Nat.le_of_ble_eq_true rfl) ?_
      refine V_if_ne (tgt := 122) d_Mo_broken_117 (by decide) (fun b117 => ?_) (fun b117 => ?_)
      · refine V_iincw (w := 1) d_Mo_broken_122 rfl (by decide) (by decide) ?_
        dsimp only [List.set]
        refine V_goto (tgt := 95) d_Mo_broken_125 (by decide) ?_
        rw [nI_1]
        refine ih hik _ _ _ _ hg' hno (fun j hj => ?_)
        rcases Nat.lt_or_ge j i with c | c
        · exact hb j c
        · rw [show j = i by omega, badB_3, b2in.mp b117]; rfl
      · refine V_iconst (v := 3) d_Mo_broken_120 (by decide) ?_
        refine V_iret d_Mo_broken_121 rfl ?_
        have h3 : cul D (wfr fr w) ds 3 = some i := fstO_some hik (by show badB D w 3 (dP D ds i) = true; rw [badB_3, b2i.mp b117]; rfl) hb
        refine hQ 3 _ hg' (brk_eq (d := i) (by omega) (by omega) hno h3) (fun e _ he => ?_) (fun q => by omega)
        rw [upd_s]
        rw [h3] at he
        cases he
        rfl
  -- law 2
  have st2 : ∀ i, i ≤ wK w → ∀ (g : Nat → Int32) u3 u4 u5, okg h g → (∀ d, d < wK w → badB D w 1 (dP D ds d) = false) → (∀ j, j < i → badB D w 2 (dP D ds j) = false) → V E 4 m_Mo_broken Q 33 [some (.ref 41), some (.int (if fr then 1 else 0)), some (.int (nI i)), u3, u4, u5] [] (hrow h 41 g) := by
    refine up_ind (wK w) ?_
    intro i hi ih g u3 u4 u5 hg hne hb
    have h1 : cul D (wfr fr w) ds 1 = none := fstO_none hne
    refine V_iload_n d_Mo_broken_33 rfl ?_
    refine V_aload_n d_Mo_broken_34 rfl ?_
    refine V_getI d_Mo_broken_35 f_Mo_34 rfl (by first | rfl | assumption) (by first | rfl | assumption) ?_
    rw [(hgw hg).1]
    refine V_icmp_ge (tgt := 93) d_Mo_broken_38 (by decide) (fun b38 => ?_) (fun b38 => ?_)
    · obtain rfl := ge_eq b38 rfl rfl (by omega) hi
      refine V_iconst (v := 0) d_Mo_broken_93 (by decide) ?_
      refine V_istore_n d_Mo_broken_94 (by decide) ?_
      dsimp only [List.set]
      refine st3 0 (Nat.zero_le _) g _ _ _ hg (fun j q1 q2 => ?_) (fun j hj => absurd hj (Nat.not_lt_zero j))
      rcases (show j = 1 ∨ j = 2 by omega) with rfl | rfl
      · exact h1
      · exact fstO_none hb
    · have hik := nge_lt b38 rfl rfl (by omega) hi
      obtain ⟨a, ha⟩ := dP_ne (w := w) ok (hne i hik)
      obtain ⟨ha30, hPa, -⟩ := fstO_lt ha
      have hh := hang_from (D := D) (P := dP D ds i) ha30 hPa
      refine V_aload_n d_Mo_broken_41 rfl ?_
      refine V_iload_n d_Mo_broken_42 rfl ?_
      refine V_callV1 d_Mo_broken_43 k_Mo_121 rfl (c_bitsOf (hgl hg) ok (hgd hg) (show i < 2 ^ 31 by omega)) (by first | rfl | assumption) rfl rfl (by first | decide | omega) rfl (Nat.le_of_ble_eq_true rfl) ?_
      refine V_istore_n d_Mo_broken_46 (by decide) ?_
      dsimp only [List.set]
      refine V_iload_n d_Mo_broken_47 rfl ?_
      refine V_aload_n d_Mo_broken_48 rfl ?_
      refine V_iload_n d_Mo_broken_49 rfl ?_
      refine V_callV1 d_Mo_broken_50 k_Mo_124 rfl (c_reached (hgl hg) ok (fun j _ q => dP_sub q) ha) (by first | rfl | assumption) rfl rfl (by first | decide | omega) rfl (Nat.le_of_ble_eq_true rfl) ?_
      refine V_iconst (v := -1) d_Mo_broken_53 (by decide) ?_
      refine V_ixor d_Mo_broken_54 ?_
      refine V_iand d_Mo_broken_55 ?_
      refine V_istore d_Mo_broken_56 (by decide) ?_
      dsimp only [List.set]
      refine V_iload d_Mo_broken_58 rfl ?_
      rw [mI_dif]
      refine V_if_eq (tgt := 87) d_Mo_broken_60 (by decide) (fun b60 => ?_) (fun b60 => ?_)
      · refine V_iincw (w := 1) d_Mo_broken_87 rfl (by decide) (by decide) ?_
        dsimp only [List.set]
        refine V_goto (tgt := 33) d_Mo_broken_90 (by decide) ?_
        rw [nI_1]
        refine ih hik _ _ _ _ hg hne (fun j hj => ?_)
        rcases Nat.lt_or_ge j i with c | c
        · exact hb j c
        · rw [show j = i by omega, badB_2, hh.mpr (fun j hj hP => ?_)]
          · rfl
          · have := mI_eq0.mp b60 j hj
            rw [hP] at this
            simpa using this
      · obtain ⟨b, hbb⟩ : ∃ b, fstO (fun j => dP D ds i j && !reach D (dP D ds i) a j) 30 = some b := by
          cases hq : fstO (fun j => dP D ds i j && !reach D (dP D ds i) a j) 30 with
          | some b => exact ⟨b, rfl⟩
          | none => exact absurd (mI_eq0.mpr (fstO_none_iff.mp hq)) b60
        have hbad : badB D w 2 (dP D ds i) = true := by
          rw [badB_2]
          cases hz : hang D (dP D ds i) with
          | false => rfl
          | true =>
            obtain ⟨q1, q2, -⟩ := fstO_lt hbb
            simp only [Bool.and_eq_true] at q2
            rw [hh.mp hz b q1 q2.1] at q2
            simp at q2
        refine V_aload_n d_Mo_broken_63 rfl ?_
        refine V_iload_n d_Mo_broken_64 rfl ?_
        refine V_put (ty := .int) d_Mo_broken_65 f_Mo_118 rfl (by first | rfl | assumption) (by first | rfl | assumption) (by decide +kernel) (by first | rfl | assumption) (by first | rfl | assumption) ?_
        refine V_aload_n d_Mo_broken_68 rfl ?_
        refine V_iload_n d_Mo_broken_69 rfl ?_
        rw [hup_hrow]
        refine V_callS1 d_Mo_broken_70 k_Mo_109 rfl (c_leastOf _ ha) rfl (by first | decide | omega) rfl (Nat.le_of_ble_eq_true rfl) ?_
        refine V_put (ty := .int) d_Mo_broken_73 f_Mo_127 rfl (by first | rfl | assumption) (by first | rfl | assumption) (by decide +kernel) (by first | rfl | assumption) (by first | rfl | assumption) ?_
        refine V_aload_n d_Mo_broken_76 rfl ?_
        refine V_iload d_Mo_broken_77 rfl ?_
        rw [hup_hrow]
        refine V_callS1 d_Mo_broken_79 k_Mo_109 rfl (c_leastOf _ hbb) rfl (by first | decide | omega) rfl (Nat.le_of_ble_eq_true rfl) ?_
        refine V_put (ty := .int) d_Mo_broken_82 f_Mo_130 rfl (by first | rfl | assumption) (by first | rfl | assumption) (by decide +kernel) (by first | rfl | assumption) (by first | rfl | assumption) ?_
        refine V_iconst (v := 2) d_Mo_broken_85 (by decide) ?_
        refine V_iret d_Mo_broken_86 rfl ?_
        rw [hup_hrow]
        have h2 : cul D (wfr fr w) ds 2 = some i := fstO_some hik hbad hb
        refine hQ 2 _ (((hg.set (k := 16) (Or.inl rfl) _).set (k := 17) (Or.inr (Or.inl rfl)) _).set (k := 18) (Or.inr (Or.inr rfl)) _) (brk_eq (d := i) (by omega) (by omega) (fun j q1 q2 => by rw [show j = 1 by omega]; exact h1) h2) (fun e _ he => ?_) (fun _ e a' he ha' => ?_)
        · rw [upd_n (by omega), upd_n (by omega), upd_s]
          rw [h2] at he
          cases he
          rfl
        · rw [h2] at he
          cases he
          rw [ha] at ha'
          cases ha'
          rw [upd_n (by omega), upd_s, upd_s, hbb]
          exact ⟨rfl, rfl⟩
  -- law 1
  have st1 : ∀ i, i ≤ wK w → ∀ (g : Nat → Int32), okg h g → (∀ j, j < i → badB D w 1 (dP D ds j) = false) → V E 4 m_Mo_broken Q 2 [some (.ref 41), some (.int (if fr then 1 else 0)), some (.int (nI i)), none, none, none] [] (hrow h 41 g) := by
    refine up_ind (wK w) ?_
    intro i hi ih g hg hb
    refine V_iload_n d_Mo_broken_2 rfl ?_
    refine V_aload_n d_Mo_broken_3 rfl ?_
    refine V_getI d_Mo_broken_4 f_Mo_34 rfl (by first | rfl | assumption) (by first | rfl | assumption) ?_
    rw [(hgw hg).1]
    refine V_icmp_ge (tgt := 31) d_Mo_broken_7 (by decide) (fun b7 => ?_) (fun b7 => ?_)
    · obtain rfl := ge_eq b7 rfl rfl (by omega) hi
      refine V_iconst (v := 0) d_Mo_broken_31 (by decide) ?_
      refine V_istore_n d_Mo_broken_32 (by decide) ?_
      dsimp only [List.set]
      exact st2 0 (Nat.zero_le _) g _ _ _ hg hb (fun j hj => absurd hj (Nat.not_lt_zero j))
    · have hik := nge_lt b7 rfl rfl (by omega) hi
      have hg' := hg.set (k := 16) (Or.inl rfl) (nI i)
      refine V_aload_n d_Mo_broken_10 rfl ?_
      refine V_iload_n d_Mo_broken_11 rfl ?_
      refine V_put (ty := .int) d_Mo_broken_12 f_Mo_118 rfl (by first | rfl | assumption) (by first | rfl | assumption) (by decide +kernel) (by first | rfl | assumption) (by first | rfl | assumption) ?_
      refine V_aload_n d_Mo_broken_15 rfl ?_
      refine V_iload_n d_Mo_broken_16 rfl ?_
      rw [hup_hrow]
      refine V_callV1 d_Mo_broken_17 k_Mo_121 rfl (c_bitsOf (hgl hg') ok (hgd hg') (show i < 2 ^ 31 by omega)) (by first | rfl | assumption) rfl rfl (by first | decide | omega) rfl (Nat.le_of_ble_eq_true rfl) ?_
      refine V_if_ne (tgt := 25) d_Mo_broken_20 (by decide) (fun b20 => ?_) (fun b20 => ?_)
      · refine V_iincw (w := 1) d_Mo_broken_25 rfl (by decide) (by decide) ?_
        dsimp only [List.set]
        refine V_goto (tgt := 2) d_Mo_broken_28 (by decide) ?_
        rw [nI_1]
        refine ih hik _ hg' (fun j hj => ?_)
        rcases Nat.lt_or_ge j i with c | c
        · exact hb j c
        · rw [show j = i by omega]
          cases hz : badB D w 1 (dP D ds i) with
          | false => rfl
          | true => exact absurd (bits_0.mpr hz) b20
      · refine V_iconst (v := 1) d_Mo_broken_23 (by decide) ?_
        refine V_iret d_Mo_broken_24 rfl ?_
        have h1 : cul D (wfr fr w) ds 1 = some i := fstO_some hik (bits_0.mp b20) hb
        refine hQ 1 _ hg' (brk_eq (d := i) (by omega) (by omega) (fun j q1 q2 => by omega) h1) (fun e _ he => ?_) (fun q => by omega)
        rw [upd_s]
        rw [h1] at he
        cases he
        rfl
  refine V_iconst (v := 0) d_Mo_broken_0 (by decide) ?_
  refine V_istore_n d_Mo_broken_1 (by decide) ?_
  dsimp only [List.set]
  have h0 := st1 0 (Nat.zero_le _) (h 41) (fun f _ _ _ => rfl) (fun j hj => absurd hj (Nat.not_lt_zero j))
  rw [hrow_self] at h0
  exact h0
