/-! the model's whole(): a parting that is laid, and what is kept of it -/
def layK (f : Nat → Int32) (ds : Nat → Nat) : Nat → Nat → Nat
  | 0, p => ds p
  | i + 1, p => if cs (f i) p then i else layK f ds i p
theorem layK_any {f : Nat → Int32} {ds ds' : Nat → Nat} {p : Nat} : ∀ {k : Nat}, (∃ d, d < k ∧ cs (f d) p = true) → layK f ds k p = layK f ds' k p
  | 0, ⟨d, hd, _⟩ => absurd hd (Nat.not_lt_zero d)
  | k + 1, ⟨d, hd, hc⟩ => by
    rw [layK, layK]
    by_cases hk : cs (f k) p = true
    · rw [if_pos hk, if_pos hk]
    · rw [if_neg hk, if_neg hk]
      refine layK_any ⟨d, ?_, hc⟩
      rcases Nat.lt_or_ge d k with q | q
      · exact q
      · rw [show d = k by omega] at hc; exact absurd hc hk
theorem layK_lt {f : Nat → Int32} {ds : Nat → Nat} {p c : Nat} (h : ds p < c) : ∀ {k : Nat}, k ≤ c → layK f ds k p < c
  | 0, _ => h
  | k + 1, hk => by
    rw [layK]
    split
    · omega
    · exact layK_lt h (by omega)
def gD (q : List Int32) (d : Nat) : Int32 := q.getD d 0
def lay (n : Nat) (q : List Int32) : Nat → Nat := fun p => if p < n then layK (gD q) (fun _ => 0) q.length p else 0
theorem lay_lt {n k : Nat} {q : List Int32} (hq : q.length ≤ k) (hk : 0 < k) (p : Nat) : lay n q p < k := by
  unfold lay
  split
  · exact layK_lt hk hq
  · exact hk
abbrev Zt : Type := Int32 × Int32 × List Int32 × Int32 × (Nat → Int32)
/-- own, wanted, asked, own value -/
abbrev Pa : Type := List Int32 × Int32 × Int32 × Int32
def zst (a : Pa) (v : Int32) (z : Zt) (q : List Int32) : Zt := (z.1 + 1, (if q = a.1 then z.1 else z.2.1), (if z.1 = a.2.1 then q else z.2.2.1), (if a.2.2.1 < 0 then z.2.2.2.1 else if z.1 = 0 ∨ v < z.2.2.2.1 then v else z.2.2.2.1), if a.2.2.1 < 0 then z.2.2.2.2 else sg2 a.2.2.2 v z.2.2.2.2)
noncomputable def zsp (D : LD) (w : LW) (a : Pa) (z : Zt) (q : List Int32) : Zt := if brk D (wfr true w) (lay (dN D) q) = 0 then zst a (val D w (lay (dN D) q) a.2.2.1.toNatClampNeg) z q else z
def zM (h : Hp) (k : Nat) (a : Pa) (z : Zt) : Prop := h 41 30 = z.1 ∧ h 41 36 = z.2.1 ∧ (z.2.2.1 ≠ [] → ∀ d, d < k → h 63 d = mI (cs (gD z.2.2.1 d))) ∧ (¬ a.2.2.1 < 0 → z.1 ≠ 0 → h 41 34 = z.2.2.2.1) ∧ ∀ s, s < 3 → h 62 s = z.2.2.2.2 s
def paM (h : Hp) (k : Nat) (a : Pa) : Prop := h 41 31 = a.2.1 ∧ h 41 32 = a.2.2.1 ∧ h 41 33 = a.2.2.2 ∧ (∀ d, d < k → h 61 d = mI (cs (gD a.1 d))) ∧ a.1.length = k ∧ (∀ S ∈ a.1, hi0 S) ∧ (¬ a.2.2.1 < 0 → ∃ m, m ≤ 6 ∧ a.2.2.1 = nI m)
def cFr (h h' : Hp) : Prop := (∀ q, q ≠ 41 → q ≠ 52 → q ≠ 60 → q ≠ 63 → q ≠ 62 → h' q = h q) ∧ ∀ f, f ≠ 16 → f ≠ 17 → f ≠ 18 → f ≠ 30 → f ≠ 34 → f ≠ 36 → h' 41 f = h 41 f
theorem cFr.rf (h : Hp) : cFr h h := ⟨fun _ _ _ _ _ _ => rfl, fun _ _ _ _ _ _ _ => rfl⟩
theorem cFr.tr {h h' h2 : Hp} (a : cFr h h') (b : cFr h' h2) : cFr h h2 := ⟨fun q h1 h3 h4 h5 h6 => (b.1 q h1 h3 h4 h5 h6).trans (a.1 q h1 h3 h4 h5 h6), fun f h1 h3 h4 h5 h6 h7 => (b.2 f h1 h3 h4 h5 h6 h7).trans (a.2 f h1 h3 h4 h5 h6 h7)⟩
theorem cFr.keep {h h' : Hp} (a : cFr h h') : mKeep h h' := ⟨fun q h1 h2 => a.1 q (by omega) (by omega) (by omega) (by omega) (by omega), a.2 4 (by omega) (by omega) (by omega) (by omega) (by omega) (by omega), a.2 8 (by omega) (by omega) (by omega) (by omega) (by omega) (by omega), a.2 10 (by omega) (by omega) (by omega) (by omega) (by omega) (by omega), a.2 11 (by omega) (by omega) (by omega) (by omega) (by omega) (by omega), a.2 13 (by omega) (by omega) (by omega) (by omega) (by omega) (by omega)⟩
theorem cFr.fld {h : Hp} {k : Nat} {x : Int32} (hk : k = 30 ∨ k = 34 ∨ k = 36) : cFr h (hup h 41 k x) := ⟨fun q h1 _ _ _ _ => hup_ne h1, fun f _ _ _ h4 h5 h6 => by rw [hup_same, upd_n (by omega)]⟩
theorem cFr.row {h : Hp} {o : Nat} {f : Nat → Int32} (ho : o = 52 ∨ o = 60 ∨ o = 63 ∨ o = 62) : cFr h (hrow h o f) := ⟨fun q _ h2 h3 h4 h5 => hrow_ne (by omega), fun f _ _ _ _ _ _ => by rw [hrow_ne (by omega)]⟩
theorem cFr.g {h : Hp} {g : Nat → Int32} (hg : okg h g) : cFr h (hrow h 41 g) := ⟨fun q h1 _ _ _ _ => hrow_ne h1, fun f h1 h2 h3 _ _ _ => by rw [hrow_same]; exact hg f h1 h2 h3⟩
theorem paM.of {h h' : Hp} {k : Nat} {a : Pa} (hp : paM h k a) (fr : cFr h h') : paM h' k a := by
  unfold paM
  rw [fr.2 31 (by omega) (by omega) (by omega) (by omega) (by omega) (by omega), fr.2 32 (by omega) (by omega) (by omega) (by omega) (by omega) (by omega), fr.2 33 (by omega) (by omega) (by omega) (by omega) (by omega) (by omega), fr.1 61 (by omega) (by omega) (by omega) (by omega) (by omega)]
  exact hp
theorem mc_inj {x y : Int32} (hx : hi0 x) (hy : hi0 y) : mI (cs x) = mI (cs y) ↔ x = y := ⟨fun e => cs_ext hx hy (fun _ hj => mI_inj e hj), fun e => by rw [e]⟩
theorem gD_mem {q : List Int32} {d : Nat} (h : d < q.length) : gD q d ∈ q := by
  unfold gD
  rw [List.getD_eq_getElem?_getD, List.getElem?_eq_getElem h]
  exact List.getElem_mem h
theorem gD_ext {a b : List Int32} (hl : a.length = b.length) (h : ∀ d, d < a.length → gD a d = gD b d) : a = b := by
  apply List.ext_getElem hl
  intro i h1 h2
  have := h i h1
  unfold gD at this
  rw [List.getD_eq_getElem?_getD, List.getD_eq_getElem?_getD, List.getElem?_eq_getElem h1, List.getElem?_eq_getElem h2] at this
  exact this
section Whole
variable {E : Wd} {Q : Option Value → Hp → Prop} {u1 u2 : Option Value}
theorem wh_A {H : Hp} (k : Q none (hup H 41 30 (H 41 30 + 1))) : V E 5 m_Mo_whole Q 248 [some (.ref 41), u1, u2] [] H := by
  refine V_aload_n d_Mo_whole_248 rfl ?_
  refine V_dup d_Mo_whole_249 rfl ?_
  refine V_getI d_Mo_whole_250 f_Mo_164 rfl (by first | rfl | assumption) (by first | rfl | assumption) ?_
  refine V_iconst (v := 1) d_Mo_whole_253 (by decide) ?_
  refine V_iadd d_Mo_whole_254 ?_
  refine V_put (ty := .int) d_Mo_whole_255 f_Mo_164 rfl (by first | rfl | assumption) (by first | rfl | assumption) (by decide +kernel) (by first | rfl | assumption) (by first | rfl | assumption) ?_
  refine V_vret d_Mo_whole_258 rfl ?_
  exact k
theorem wh_B {H : Hp} {D : LD} {w : LW} (hl : MoLand H D) (ok : okLD D) (hw : MoLaw H w) (okw : okLW w) {ds : Nat → Nat} (hd : MoDs H ds) (okd : okDs D w ds) {a : Pa} (hp : paM H (wK w) a) {v : Int32} (hv : v = val D w ds a.2.2.1.toNatClampNeg)
    (k : ∀ u2, V E 5 m_Mo_whole Q 248 [some (.ref 41), u1, u2] [] (if a.2.2.1 < 0 then H else hrow (hup H 41 34 (if H 41 30 = 0 ∨ v < H 41 34 then v else H 41 34)) 62 (sg2 a.2.2.2 v (H 62)))) : V E 5 m_Mo_whole Q 171 [some (.ref 41), u1, u2] [] H := by
  obtain ⟨p1, p2, p3, p4, p5, p6, p7⟩ := hp
  have in0 : vp_in (0 : Int32) 3 := vp_in_nI (n := 0) (by omega) (by omega)
  have in1 : vp_in (1 : Int32) 3 := vp_in_nI (n := 1) (by omega) (by omega)
  have in2 : vp_in (2 : Int32) 3 := vp_in_nI (n := 2) (by omega) (by omega)
  refine V_aload_n d_Mo_whole_171 rfl ?_
  refine V_getI d_Mo_whole_172 f_Mo_173 rfl (by first | rfl | assumption) (by first | rfl | assumption) ?_
  rw [p2]
  refine V_if_lt (tgt := 248) d_Mo_whole_175 (by decide) (fun b175 => ?_) (fun b175 => ?_)
  · have k := k u2
    rw [if_pos b175] at k
    exact k
  · obtain ⟨m, hm, em⟩ := p7 b175
    rw [em, nI_clamp (by omega)] at hv
    refine V_aload_n d_Mo_whole_178 rfl ?_
    refine V_aload_n d_Mo_whole_179 rfl ?_
    refine V_getI d_Mo_whole_180 f_Mo_173 rfl (by first | rfl | assumption) (by first | rfl | assumption) ?_
    rw [p2, em]
    refine V_callV1 d_Mo_whole_183 k_Mo_150 rfl (c_value hl ok hw okw hd okd hm) (by first | rfl | assumption) rfl rfl (by first | decide | omega) rfl (Nat.le_of_ble_eq_true rfl) ?_
    rw [← hv]
    have k := k (some (.int v))
    rw [if_neg b175] at k
    refine V_istore_n d_Mo_whole_186 (by decide) ?_
    dsimp only [List.set]
    have sd : ∀ x, V E 5 m_Mo_whole Q 248 [some (.ref 41), u1, some (.int v)] [] (hrow (hup H 41 34 x) 62 (sg2 a.2.2.2 v (H 62))) → V E 5 m_Mo_whole Q 214 [some (.ref 41), u1, some (.int v)] [] (hup H 41 34 x) := by
      intro x k
      have f33 : (hup H 41 34 x) 41 33 = a.2.2.2 := by rw [hup_same, upd_n (by omega)]; exact p3
      have fs : (hup H 41 34 x) 62 = H 62 := hup_ne (by omega)
      have e1 : (1 : Int32).toNatClampNeg = 1 := by decide
      have e2 : (2 : Int32).toNatClampNeg = 2 := by decide
      have e0 : (0 : Int32).toNatClampNeg = 0 := by decide
      unfold sg2 whS at k
      refine V_aload_n d_Mo_whole_214 rfl ?_
      refine V_getR d_Mo_whole_215 f_Mo_81 rfl (by first | rfl | assumption) (by first | rfl | assumption) ?_
      refine V_iload_n d_Mo_whole_218 rfl ?_
      refine V_aload_n d_Mo_whole_219 rfl ?_
      refine V_getI d_Mo_whole_220 f_Mo_179 rfl (by first | rfl | assumption) (by first | rfl | assumption) ?_
      rw [f33]
      refine V_icmp_ge (tgt := 230) d_Mo_whole_223 (by decide) (fun b223 => ?_) (fun b223 => ?_)
      · refine V_iload_n d_Mo_whole_230 rfl ?_
        refine V_aload_n d_Mo_whole_231 rfl ?_
        refine V_getI d_Mo_whole_232 f_Mo_179 rfl (by first | rfl | assumption) (by first | rfl | assumption) ?_
        rw [f33]
        have hnlt : ¬ v < a.2.2.2 := fun q => (fa_of_lt q).2.1 b223
        refine V_icmp_ne (tgt := 242) d_Mo_whole_235 (by decide) (fun b235 => ?_) (fun b235 => ?_)
        · refine V_iconst (v := 2) d_Mo_whole_242 (by decide) ?_
          refine V_dup2 d_Mo_whole_243 rfl rfl ?_
          refine V_iald d_Mo_whole_244 (by first | rfl | assumption) (by first | assumption | exact vp_in_nI (by omega) (by omega)) ?_
          refine V_iconst (v := 1) d_Mo_whole_245 (by decide) ?_
          refine V_iadd d_Mo_whole_246 ?_
          refine V_iast d_Mo_whole_247 (by first | rfl | assumption) (by first | assumption | exact vp_in_nI (by omega) (by omega)) ?_
          rw [if_neg hnlt, if_neg b235] at k
          rw [hup_row (hup H 41 34 x), fs, e2]
          exact k
        · refine V_iconst (v := 1) d_Mo_whole_238 (by decide) ?_
          refine V_goto (tgt := 243) d_Mo_whole_239 (by decide) ?_
          refine V_dup2 d_Mo_whole_243 rfl rfl ?_
          refine V_iald d_Mo_whole_244 (by first | rfl | assumption) (by first | assumption | exact vp_in_nI (by omega) (by omega)) ?_
          refine V_iconst (v := 1) d_Mo_whole_245 (by decide) ?_
          refine V_iadd d_Mo_whole_246 ?_
          refine V_iast d_Mo_whole_247 (by first | rfl | assumption) (by first | assumption | exact vp_in_nI (by omega) (by omega)) ?_
          rw [if_neg hnlt, if_pos b235] at k
          rw [hup_row (hup H 41 34 x), fs, e1]
          exact k
      · refine V_iconst (v := 0) d_Mo_whole_226 (by decide) ?_
        refine V_goto (tgt := 243) d_Mo_whole_227 (by decide) ?_
        refine V_dup2 d_Mo_whole_243 rfl rfl ?_
        refine V_iald d_Mo_whole_244 (by first | rfl | assumption) (by first | assumption | exact vp_in_nI (by omega) (by omega)) ?_
        refine V_iconst (v := 1) d_Mo_whole_245 (by decide) ?_
        refine V_iadd d_Mo_whole_246 ?_
        refine V_iast d_Mo_whole_247 (by first | rfl | assumption) (by first | assumption | exact vp_in_nI (by omega) (by omega)) ?_
        rw [if_pos (fa_of_nle b223)] at k
        rw [hup_row (hup H 41 34 x), fs, e0]
        exact k
    refine V_aload_n d_Mo_whole_187 rfl ?_
    refine V_aload_n d_Mo_whole_188 rfl ?_
    refine V_getI d_Mo_whole_189 f_Mo_164 rfl (by first | rfl | assumption) (by first | rfl | assumption) ?_
    refine V_if_eq (tgt := 203) d_Mo_whole_192 (by decide) (fun b192 => ?_) (fun b192 => ?_)
    · have k : V E 5 m_Mo_whole Q 248 [some (.ref 41), u1, some (.int v)] [] (hrow (hup H 41 34 v) 62 (sg2 a.2.2.2 v (H 62))) := by
        rw [if_pos (Or.inl b192)] at k
        exact k
      refine V_iload_n d_Mo_whole_203 rfl ?_
      refine V_goto (tgt := 211) d_Mo_whole_204 (by decide) ?_
      refine V_put (ty := .int) d_Mo_whole_211 f_Mo_176 rfl (by first | rfl | assumption) (by first | rfl | assumption) (by decide +kernel) (by first | rfl | assumption) (by first | rfl | assumption) ?_
      exact sd v k
    · refine V_iload_n d_Mo_whole_195 rfl ?_
      refine V_aload_n d_Mo_whole_196 rfl ?_
      refine V_getI d_Mo_whole_197 f_Mo_176 rfl (by first | rfl | assumption) (by first | rfl | assumption) ?_
      refine V_icmp_ge (tgt := 207) d_Mo_whole_200 (by decide) (fun b200 => ?_) (fun b200 => ?_)
      · refine V_aload_n d_Mo_whole_207 rfl ?_
        refine V_getI d_Mo_whole_208 f_Mo_176 rfl (by first | rfl | assumption) (by first | rfl | assumption) ?_
        refine V_put (ty := .int) d_Mo_whole_211 f_Mo_176 rfl (by first | rfl | assumption) (by first | rfl | assumption) (by decide +kernel) (by first | rfl | assumption) (by first | rfl | assumption) ?_
        rw [if_neg (fun q => q.elim b192 (fun q => (fa_of_lt q).2.1 b200))] at k
        exact sd _ k
      · refine V_iload_n d_Mo_whole_203 rfl ?_
        refine V_goto (tgt := 211) d_Mo_whole_204 (by decide) ?_
        refine V_put (ty := .int) d_Mo_whole_211 f_Mo_176 rfl (by first | rfl | assumption) (by first | rfl | assumption) (by decide +kernel) (by first | rfl | assumption) (by first | rfl | assumption) ?_
        rw [if_pos (Or.inr (fa_of_nle b200))] at k
        exact sd _ k
theorem wh_C {H : Hp} {w : LW} (hw : MoLaw H w) (okw : okLW w) {a : Pa} (hp : paM H (wK w) a)
    (k : ∀ u2, V E 5 m_Mo_whole Q 171 [some (.ref 41), u1, u2] [] (if H 41 30 = a.2.1 then hrow H 63 (fa_fill (H 60) (H 63) (wK w)) else H)) : V E 5 m_Mo_whole Q 132 [some (.ref 41), u1, u2] [] H := by
  have hk6 := okw.2.1
  refine V_aload_n d_Mo_whole_132 rfl ?_
  refine V_getI d_Mo_whole_133 f_Mo_164 rfl (by first | rfl | assumption) (by first | rfl | assumption) ?_
  refine V_aload_n d_Mo_whole_136 rfl ?_
  refine V_getI d_Mo_whole_137 f_Mo_170 rfl (by first | rfl | assumption) (by first | rfl | assumption) ?_
  rw [hp.1]
  refine V_icmp_ne (tgt := 171) d_Mo_whole_140 (by decide) (fun b140 => ?_) (fun b140 => ?_)
  · have k := k u2
    rw [if_neg b140] at k
    exact k
  · rw [if_pos b140] at k
    refine V_iconst (v := 0) d_Mo_whole_143 (by decide) ?_
    refine V_istore_n d_Mo_whole_144 (by decide) ?_
    dsimp only [List.set]
    have loop : ∀ i, i ≤ wK w → V E 5 m_Mo_whole Q 145 [some (.ref 41), u1, some (.int (nI i))] [] (hrow H 63 (fa_fill (H 60) (H 63) i)) := by
      refine up_ind (wK w) ?_
      intro i hi ih
      refine V_iload_n d_Mo_whole_145 rfl ?_
      refine V_aload_n d_Mo_whole_146 rfl ?_
      refine V_getI d_Mo_whole_147 f_Mo_34 rfl (by first | rfl | assumption) (by first | rfl | assumption) ?_
      rw [hrow_ne (by omega), hw.1]
      refine V_icmp_ge (tgt := 171) d_Mo_whole_150 (by decide) (fun b150 => ?_) (fun b150 => ?_)
      · obtain rfl := ge_eq b150 rfl rfl (by omega) hi
        exact k _
      · have hik := nge_lt b150 rfl rfl (by omega) hi
        have hin : vp_in (nI i) 6 := vp_in_nI (by omega) (by omega)
        have ih := ih hik
        refine V_aload_n d_Mo_whole_153 rfl ?_
        refine V_getR d_Mo_whole_154 f_Mo_84 rfl (by first | rfl | assumption) (by first | rfl | assumption) ?_
        refine V_iload_n d_Mo_whole_157 rfl ?_
        refine V_aload_n d_Mo_whole_158 rfl ?_
        refine V_getR d_Mo_whole_159 f_Mo_75 rfl (by first | rfl | assumption) (by first | rfl | assumption) ?_
        refine V_iload_n d_Mo_whole_162 rfl ?_
        refine V_iald d_Mo_whole_163 (by first | rfl | assumption) (by first | assumption | exact vp_in_nI (by omega) (by omega)) ?_
        refine V_iast d_Mo_whole_164 (by first | rfl | assumption) (by first | assumption | exact vp_in_nI (by omega) (by omega)) ?_
        refine V_iincw (w := 1) d_Mo_whole_165 rfl (by decide) (by decide) ?_
        dsimp only [List.set]
        refine V_goto (tgt := 145) d_Mo_whole_168 (by decide) ?_
        rw [nI_clamp (by omega), hup_hrow, hrow_ne (by omega), show upd (fa_fill (H 60) (H 63) i) i (H 60 i) = fa_fill (H 60) (H 63) (i + 1) from fa_fill_succ (H 60) (H 63) i, nI_1]
        exact ih
    have h0 := loop 0 (Nat.zero_le _)
    rw [fa_fill_0, hrow_self] at h0
    exact h0
theorem wh_D {H : Hp} {w : LW} (hw : MoLaw H w) (okw : okLW w) {a : Pa} (hp : paM H (wK w) a) {q : List Int32} (hlen : q.length = wK w) (hs : ∀ S ∈ q, hi0 S) (hset : ∀ d, d < wK w → H 60 d = mI (cs (gD q d)))
    (k : ∀ u1 u2, V E 5 m_Mo_whole Q 132 [some (.ref 41), u1, u2] [] (hup H 41 36 (if q = a.1 then H 41 30 else H 41 36))) : V E 5 m_Mo_whole Q 70 [some (.ref 41), u1, u2] [] H := by
  have hk6 := okw.2.1
  obtain ⟨p1, p2, p3, p4, p5, p6, p7⟩ := hp
  have one : ∀ d, d < wK w → (H 60 d = H 61 d ↔ gD q d = gD a.1 d) := by
    intro d hd
    rw [hset d hd, p4 d hd]
    exact mc_inj (hs _ (gD_mem (by omega))) (p6 _ (gD_mem (by omega)))
  refine V_iconst (v := 1) d_Mo_whole_70 (by decide) ?_
  refine V_istore_n d_Mo_whole_71 (by decide) ?_
  dsimp only [List.set]
  refine V_iconst (v := 0) d_Mo_whole_72 (by decide) ?_
  refine V_istore_n d_Mo_whole_73 (by decide) ?_
  dsimp only [List.set]
  have loop : ∀ i, i ≤ wK w → ∀ c : Bool, (c = true ↔ ∀ d, d < i → gD q d = gD a.1 d) → V E 5 m_Mo_whole Q 74 [some (.ref 41), some (.int (if c then 1 else 0)), some (.int (nI i))] [] H := by
    refine up_ind (wK w) ?_
    intro i hi ih c hc
    refine V_iload_n d_Mo_whole_74 rfl ?_
    refine V_aload_n d_Mo_whole_75 rfl ?_
    refine V_getI d_Mo_whole_76 f_Mo_34 rfl (by first | rfl | assumption) (by first | rfl | assumption) ?_
    rw [hw.1]
    refine V_icmp_ge (tgt := 113) d_Mo_whole_79 (by decide) (fun b79 => ?_) (fun b79 => ?_)
    · obtain rfl := ge_eq b79 rfl rfl (by omega) hi
      have hall : c = true ↔ q = a.1 := hc.trans ⟨fun z => gD_ext (by rw [hlen, p5]) (fun d hd => z d (by omega)), fun z d _ => by rw [z]⟩
      refine V_aload_n d_Mo_whole_113 rfl ?_
      refine V_iload_n d_Mo_whole_114 rfl ?_
      refine V_if_eq (tgt := 125) d_Mo_whole_115 (by decide) (fun b115 => ?_) (fun b115 => ?_)
      · refine V_aload_n d_Mo_whole_125 rfl ?_
        refine V_getI d_Mo_whole_126 f_Mo_167 rfl (by first | rfl | assumption) (by first | rfl | assumption) ?_
        refine V_put (ty := .int) d_Mo_whole_129 f_Mo_167 rfl (by first | rfl | assumption) (by first | rfl | assumption) (by decide +kernel) (by first | rfl | assumption) (by first | rfl | assumption) ?_
        have k := k (some (.int (if c then 1 else 0))) (some (.int (nI (wK w))))
        rw [if_neg (c := q = a.1) (fun z => by rw [hall.mpr z] at b115; exact absurd b115 (by decide))] at k
        exact k
      · refine V_aload_n d_Mo_whole_118 rfl ?_
        refine V_getI d_Mo_whole_119 f_Mo_164 rfl (by first | rfl | assumption) (by first | rfl | assumption) ?_
        refine V_goto (tgt := 129) d_Mo_whole_122 (by decide) ?_
        refine V_put (ty := .int) d_Mo_whole_129 f_Mo_167 rfl (by first | rfl | assumption) (by first | rfl | assumption) (by decide +kernel) (by first | rfl | assumption) (by first | rfl | assumption) ?_
        have k := k (some (.int (if c then 1 else 0))) (some (.int (nI (wK w))))
        rw [if_pos (c := q = a.1) (hall.mp (b2in.mp b115))] at k
        exact k
    · have hik := nge_lt b79 rfl rfl (by omega) hi
      have hin : vp_in (nI i) 6 := vp_in_nI (by omega) (by omega)
      have ih := ih hik
      refine V_iload_n d_Mo_whole_82 rfl ?_
      refine V_if_eq (tgt := 105) d_Mo_whole_83 (by decide) (fun b83 => ?_) (fun b83 => ?_)
      · refine V_iconst (v := 0) d_Mo_whole_105 (by decide) ?_
        refine V_istore_n d_Mo_whole_106 (by decide) ?_
        dsimp only [List.set]
        refine V_iincw (w := 1) d_Mo_whole_107 rfl (by decide) (by decide) ?_
        dsimp only [List.set]
        refine V_goto (tgt := 74) d_Mo_whole_110 (by decide) ?_
        rw [nI_1]
        refine ih false ⟨fun z => (by cases z), fun z => ?_⟩
        have := hc.mpr (fun d hd => z d (by omega))
        rw [b2i.mp b83] at this
        exact this
      · refine V_aload_n d_Mo_whole_86 rfl ?_
        refine V_getR d_Mo_whole_87 f_Mo_75 rfl (by first | rfl | assumption) (by first | rfl | assumption) ?_
        refine V_iload_n d_Mo_whole_90 rfl ?_
        refine V_iald d_Mo_whole_91 (by first | rfl | assumption) (by first | assumption | exact vp_in_nI (by omega) (by omega)) ?_
        refine V_aload_n d_Mo_whole_92 rfl ?_
        refine V_getR d_Mo_whole_93 f_Mo_78 rfl (by first | rfl | assumption) (by first | rfl | assumption) ?_
        refine V_iload_n d_Mo_whole_96 rfl ?_
        refine V_iald d_Mo_whole_97 (by first | rfl | assumption) (by first | assumption | exact vp_in_nI (by omega) (by omega)) ?_
        rw [nI_clamp (by omega)]
        refine V_icmp_ne (tgt := 105) d_Mo_whole_98 (by decide) (fun b98 => ?_) (fun b98 => ?_)
        · refine V_iconst (v := 0) d_Mo_whole_105 (by decide) ?_
          refine V_istore_n d_Mo_whole_106 (by decide) ?_
          dsimp only [List.set]
          refine V_iincw (w := 1) d_Mo_whole_107 rfl (by decide) (by decide) ?_
          dsimp only [List.set]
          refine V_goto (tgt := 74) d_Mo_whole_110 (by decide) ?_
          rw [nI_1]
          exact ih false ⟨fun z => (by cases z), fun z => absurd ((one i hik).mpr (z i (by omega))) b98⟩
        · refine V_iconst (v := 1) d_Mo_whole_101 (by decide) ?_
          refine V_goto (tgt := 106) d_Mo_whole_102 (by decide) ?_
          refine V_istore_n d_Mo_whole_106 (by decide) ?_
          dsimp only [List.set]
          refine V_iincw (w := 1) d_Mo_whole_107 rfl (by decide) (by decide) ?_
          dsimp only [List.set]
          refine V_goto (tgt := 74) d_Mo_whole_110 (by decide) ?_
          rw [nI_1]
          refine ih true ⟨fun _ d hd => ?_, fun _ => rfl⟩
          rcases Nat.lt_or_ge d i with z | z
          · exact hc.mp (b2in.mp b83) d z
          · rw [show d = i by omega]; exact (one i hik).mp b98
  exact loop 0 (Nat.zero_le _) true ⟨fun _ d hd => absurd hd (Nat.not_lt_zero d), fun _ => rfl⟩
theorem wh_F {H : Hp} {D : LD} {w : LW} (hl : MoLand H D) (ok : okLD D) (hw : MoLaw H w) (okw : okLW w) {ds : Nat → Nat} (hd : MoDs H ds) {f : Nat → Int32} (hset : ∀ d, d < wK w → H 60 d = mI (cs (f d)))
    (k : ∀ u1 u2 g, isDs g (fun p => if p < dN D then layK f ds (wK w) p else ds p) → V E 5 m_Mo_whole Q 61 [some (.ref 41), u1, u2] [] (hrow H 52 g)) : V E 5 m_Mo_whole Q 0 [some (.ref 41), u1, u2] [] H := by
  have hk6 := okw.2.1
  have hn := ok.1
  refine V_iconst (v := 0) d_Mo_whole_0 (by decide) ?_
  refine V_istore_n d_Mo_whole_1 (by decide) ?_
  dsimp only [List.set]
  have outer : ∀ i, i ≤ wK w → ∀ g u2, isDs g (fun p => if p < dN D then layK f ds i p else ds p) → V E 5 m_Mo_whole Q 2 [some (.ref 41), some (.int (nI i)), u2] [] (hrow H 52 g) := by
    refine up_ind (wK w) ?_
    intro i hi ih g u2 hg
    refine V_iload_n d_Mo_whole_2 rfl ?_
    refine V_aload_n d_Mo_whole_3 rfl ?_
    refine V_getI d_Mo_whole_4 f_Mo_34 rfl (by first | rfl | assumption) (by first | rfl | assumption) ?_
    rw [hrow_ne (by omega), hw.1]
    refine V_icmp_ge (tgt := 61) d_Mo_whole_7 (by decide) (fun b7 => ?_) (fun b7 => ?_)
    · obtain rfl := ge_eq b7 rfl rfl (by omega) hi
      exact k _ _ g hg
    · have hik := nge_lt b7 rfl rfl (by omega) hi
      have ih := ih hik
      refine V_iconst (v := 0) d_Mo_whole_10 (by decide) ?_
      refine V_istore_n d_Mo_whole_11 (by decide) ?_
      dsimp only [List.set]
      have inner : ∀ j, j ≤ dN D → ∀ g, isDs g (fun p => if p < j then layK f ds (i + 1) p else if p < dN D then layK f ds i p else ds p) → V E 5 m_Mo_whole Q 12 [some (.ref 41), some (.int (nI i)), some (.int (nI j))] [] (hrow H 52 g) := by
        refine up_ind (dN D) ?_
        intro j hj ihj g hg
        refine V_iload_n d_Mo_whole_12 rfl ?_
        refine V_aload_n d_Mo_whole_13 rfl ?_
        refine V_getI d_Mo_whole_14 f_Mo_91 rfl (by first | rfl | assumption) (by first | rfl | assumption) ?_
        rw [hrow_ne (by omega), hl.1]
        refine V_icmp_ge (tgt := 55) d_Mo_whole_17 (by decide) (fun b17 => ?_) (fun b17 => ?_)
        · obtain rfl := ge_eq b17 rfl rfl (by omega) hj
          refine V_iincw (w := 1) d_Mo_whole_55 rfl (by decide) (by decide) ?_
          dsimp only [List.set]
          refine V_goto (tgt := 2) d_Mo_whole_58 (by decide) ?_
          rw [nI_1]
          refine ih g _ (fun p hp => ?_)
          have := hg p hp
          dsimp only at this ⊢
          by_cases c : p < dN D
          · rw [if_pos c] at this ⊢; exact this
          · rw [if_neg c, if_neg c] at this; rw [if_neg c]; exact this
        · have hjn := nge_lt b17 rfl rfl (by omega) hj
          have hin : vp_in (nI i) 6 := vp_in_nI (by omega) (by omega)
          have hin2 : vp_in (nI j) 30 := vp_in_nI (by omega) (by omega)
          have ihj := ihj hjn
          have hgj := hg j (by omega)
          dsimp only at hgj
          rw [if_neg (Nat.lt_irrefl j), if_pos hjn] at hgj
          have step : ∀ x : Nat, x = layK f ds (i + 1) j → x < 6 → isDs (upd g j (nI x)) (fun p => if p < j + 1 then layK f ds (i + 1) p else if p < dN D then layK f ds i p else ds p) := by
            intro x hx hx6 p hp
            dsimp only
            by_cases c : p = j
            · subst c
              rw [upd_s, if_pos (by omega), ← hx]
              exact ⟨hx6, rfl⟩
            · rw [upd_n c]
              have := hg p hp
              dsimp only at this
              by_cases c2 : p < j
              · rw [if_pos c2] at this; rw [if_pos (by omega)]; exact this
              · rw [if_neg c2] at this; rw [if_neg (by omega)]; exact this
          refine V_aload_n d_Mo_whole_20 rfl ?_
          refine V_getR d_Mo_whole_21 f_Mo_51 rfl (by first | rfl | assumption) (by first | rfl | assumption) ?_
          refine V_iload_n d_Mo_whole_24 rfl ?_
          refine V_aload_n d_Mo_whole_25 rfl ?_
          refine V_getR d_Mo_whole_26 f_Mo_75 rfl (by first | rfl | assumption) (by first | rfl | assumption) ?_
          refine V_iload_n d_Mo_whole_29 rfl ?_
          refine V_iald d_Mo_whole_30 (by first | rfl | assumption) (by first | assumption | exact vp_in_nI (by omega) (by omega)) ?_
          rw [nI_clamp (by omega), hrow_ne (by omega), hset i hik]
          refine V_iload_n d_Mo_whole_31 rfl ?_
          refine V_callS1 d_Mo_whole_32 k_Mo_98 rfl (c_Mhas _ (mI (cs (f i))) (show j < 32 by omega)) rfl (by first | decide | omega) rfl (Nat.le_of_ble_eq_true rfl) ?_
          rw [mI_b (show j < 30 by omega)]
          refine V_if_eq (tgt := 42) d_Mo_whole_35 (by decide) (fun b35 => ?_) (fun b35 => ?_)
          · have hb := b2i.mp b35
            refine V_aload_n d_Mo_whole_42 rfl ?_
            refine V_getR d_Mo_whole_43 f_Mo_51 rfl (by first | rfl | assumption) (by first | rfl | assumption) ?_
            refine V_iload_n d_Mo_whole_46 rfl ?_
            refine V_iald d_Mo_whole_47 (by first | rfl | assumption) (by first | assumption | exact vp_in_nI (by omega) (by omega)) ?_
            refine V_iast d_Mo_whole_48 (by first | rfl | assumption) (by first | assumption | exact vp_in_nI (by omega) (by omega)) ?_
            refine V_iincw (w := 1) d_Mo_whole_49 rfl (by decide) (by decide) ?_
            dsimp only [List.set]
            refine V_goto (tgt := 12) d_Mo_whole_52 (by decide) ?_
            rw [nI_clamp (by omega), hup_hrow, hrow_same, hgj.2, nI_1]
            exact ihj _ (step _ (by rw [layK, hb]; rfl) hgj.1)
          · have hb := b2in.mp b35
            refine V_iload_n d_Mo_whole_38 rfl ?_
            refine V_goto (tgt := 48) d_Mo_whole_39 (by decide) ?_
            refine V_iast d_Mo_whole_48 (by first | rfl | assumption) (by first | assumption | exact vp_in_nI (by omega) (by omega)) ?_
            refine V_iincw (w := 1) d_Mo_whole_49 rfl (by decide) (by decide) ?_
            dsimp only [List.set]
            refine V_goto (tgt := 12) d_Mo_whole_52 (by decide) ?_
            rw [nI_clamp (by omega), hup_hrow, nI_1]
            exact ihj _ (step _ (by rw [layK, hb]; rfl) (by omega))
      refine inner 0 (Nat.zero_le _) g (fun p hp => ?_)
      dsimp only
      rw [if_neg (Nat.not_lt_zero p)]
      exact hg p hp
  have h0 := outer 0 (Nat.zero_le _) (H 52) u2 (fun p hp => by
    have := hd p hp
    have e : (if p < dN D then layK f ds 0 p else ds p) = ds p := by
      split
      · rfl
      · rfl
    dsimp only
    rw [e]
    exact this)
  rw [hrow_self] at h0
  exact h0
end Whole
theorem c_whole {E : Wd} {h : Hp} {D : LD} {w : LW} (hl : MoLand h D) (ok : okLD D) (hw : MoLaw h w) (okw : okLW w) {ds : Nat → Nat} (hd : MoDs h ds) (hout : ∀ p, dN D ≤ p → ds p = 0) {q : List Int32} (hlen : q.length = wK w) (hs : ∀ S ∈ q, hi0 S) (hset : ∀ d, d < wK w → h 60 d = mI (cs (gD q d)))
    (hcov : ∀ p, p < dN D → ∃ d, d < wK w ∧ cs (gD q d) p = true) {a : Pa} (hp : paM h (wK w) a) {z : Zt} (hz : zM h (wK w) a z) :
    Cq E 5 m_Mo_whole [.ref 41] h (fun v h' => v = none ∧ cFr h h' ∧ h' 60 = h 60 ∧ MoDs h' (lay (dN D) q) ∧ zM h' (wK w) a (zsp D w a z q)) := by
  have hk1 := okw.1
  refine Cq_of2 ok_Mo_whole rfl (Nat.le_of_ble_eq_true rfl) (L := [some (.ref 41), none, none]) rfl ?_
  refine wh_F hl ok hw okw hd hset (fun u1 u2 g hg => ?_)
  have hgl : isDs g (lay (dN D) q) := by
    intro p hp
    have := hg p hp
    have e : (if p < dN D then layK (gD q) ds (wK w) p else ds p) = lay (dN D) q p := by
      unfold lay
      by_cases c : p < dN D
      · rw [if_pos c, if_pos c, hlen]; exact layK_any (hcov p c)
      · rw [if_neg c, if_neg c]; exact hout p (by omega)
    rw [← e]
    exact this
  clear hg
  have fr1 : cFr h (hrow h 52 g) := cFr.row (Or.inl rfl)
  have hd1 : MoDs (hrow h 52 g) (lay (dN D) q) := fun j hj => by rw [hrow_same]; exact hgl j hj
  have okd : okDs D w (lay (dN D) q) := fun p _ => lay_lt (by omega) (by omega) p
  refine V_aload_n d_Mo_whole_61 rfl ?_
  refine V_iconst (v := 1) d_Mo_whole_62 (by decide) ?_
  refine V_callV d_Mo_whole_63 k_Mo_139 rfl (c_Mbroken (hl.of fr1.keep) ok (hw.of fr1.keep) okw hd1 true) (by first | rfl | assumption) rfl rfl (by first | decide | omega) rfl (Nat.le_of_ble_eq_true rfl) (fun v_ h_ q_ => ?_)
  obtain ⟨rfl, g2, hg2, rfl⟩ := q_
  have fr2 := fr1.tr (cFr.g hg2)
  have e30 : (hrow (hrow h 52 g) 41 g2) 41 30 = h 41 30 := by rw [hrow_same, hg2 30 (by omega) (by omega) (by omega), hrow_ne (by omega)]
  have e34 : (hrow (hrow h 52 g) 41 g2) 41 34 = h 41 34 := by rw [hrow_same, hg2 34 (by omega) (by omega) (by omega), hrow_ne (by omega)]
  have e36 : (hrow (hrow h 52 g) 41 g2) 41 36 = h 41 36 := by rw [hrow_same, hg2 36 (by omega) (by omega) (by omega), hrow_ne (by omega)]
  have ed : (hrow (hrow h 52 g) 41 g2) 52 = g := by rw [hrow_ne (by omega), hrow_same]
  have er : ∀ q, q ≠ 52 → q ≠ 41 → (hrow (hrow h 52 g) 41 g2) q = h q := fun q h1 h2 => by rw [hrow_ne h2, hrow_ne h1]
  generalize hrow (hrow h 52 g) 41 g2 = H1 at *
  have hd2 : MoDs H1 (lay (dN D) q) := fun j hj => by rw [ed]; exact hgl j hj
  have hb6 : brk D (wfr true w) (lay (dN D) q) ≤ 6 := by
    rcases Nat.eq_zero_or_pos (brk D (wfr true w) (lay (dN D) q)) with z | z
    · omega
    · exact (brk_some rfl (by omega)).1
  show V E 5 m_Mo_whole _ 66 _ [.int (nI (brk D (wfr true w) (lay (dN D) q)))] _
  refine V_if_eq (tgt := 70) d_Mo_whole_66 (by decide) (fun b66 => ?_) (fun b66 => ?_)
  · have hb0 : brk D (wfr true w) (lay (dN D) q) = 0 := (eq_nI _ 0 rfl rfl (by omega) (by decide)).mp b66
    have hp1 := hp.of fr2
    have ze : zsp D w a z q = zst a (val D w (lay (dN D) q) a.2.2.1.toNatClampNeg) z q := if_pos hb0
    rw [ze]
    obtain ⟨z1, z2, z3, z4, z5⟩ := hz
    refine wh_D (hw.of fr2.keep) okw hp1 hlen hs (fun d hd => by rw [er _ (by omega) (by omega)]; exact hset d hd) (fun v1 v2 => ?_)
    have fr3 := fr2.tr (cFr.fld (h := H1) (x := if q = a.1 then H1 41 30 else H1 41 36) (Or.inr (Or.inr rfl)))
    refine wh_C (hw.of fr3.keep) okw (hp.of fr3) (fun v3 => ?_)
    have fe : (hup H1 41 36 (if q = a.1 then H1 41 30 else H1 41 36)) 41 30 = z.1 := by rw [hup_same, upd_n (by omega), e30, z1]
    have le : (hup H1 41 36 (if q = a.1 then H1 41 30 else H1 41 36)) 41 34 = h 41 34 := by rw [hup_same, upd_n (by omega), e34]
    have oe : (hup H1 41 36 (if q = a.1 then H1 41 30 else H1 41 36)) 41 36 = if q = a.1 then z.1 else z.2.1 := by rw [hup_same, upd_s, e30, e36, z1, z2]
    have er3 : ∀ r, r ≠ 52 → r ≠ 41 → (hup H1 41 36 (if q = a.1 then H1 41 30 else H1 41 36)) r = h r := fun r h1 h2 => by rw [hup_ne h2, er r h1 h2]
    have ed3 : (hup H1 41 36 (if q = a.1 then H1 41 30 else H1 41 36)) 52 = g := by rw [hup_ne (by omega), ed]
    generalize hup H1 41 36 (if q = a.1 then H1 41 30 else H1 41 36) = H2 at *
    rw [fe]
    obtain ⟨H3, hH3⟩ : ∃ H3, H3 = (if z.1 = a.2.1 then hrow H2 63 (fa_fill (H2 60) (H2 63) (wK w)) else H2) := ⟨_, rfl⟩
    rw [← hH3]
    have fr4 : cFr h H3 := by
      rw [hH3]
      split
      · exact fr3.tr (cFr.row (Or.inr (Or.inr (Or.inl rfl))))
      · exact fr3
    have er4 : ∀ r, r ≠ 63 → H3 r = H2 r := fun r hr => by
      rw [hH3]
      split
      · exact hrow_ne hr
      · rfl
    have w4 : (if z.1 = a.2.1 then q else z.2.2.1) ≠ [] → ∀ d, d < wK w → H3 63 d = mI (cs (gD (if z.1 = a.2.1 then q else z.2.2.1) d)) := by
      intro hne d hd
      rw [hH3]
      by_cases c : z.1 = a.2.1
      · rw [if_pos c, if_pos c, hrow_same, fa_fill_in hd, er3 _ (by omega) (by omega)]
        exact hset d hd
      · rw [if_neg c] at hne ⊢
        rw [if_neg c, er3 _ (by omega) (by omega)]
        exact z3 hne d hd
    clear hH3
    refine wh_B (hl.of fr4.keep) ok (hw.of fr4.keep) okw (ds := lay (dN D) q) (fun j hj => by rw [er4 _ (by omega), ed3]; exact hgl j hj) okd (hp.of fr4) rfl (fun v4 => ?_)
    rw [er4 41 (by omega), fe, le]
    generalize val D w (lay (dN D) q) a.2.2.1.toNatClampNeg = v
    rw [show H3 62 = h 62 from by rw [er4 _ (by omega), er3 _ (by omega) (by omega)]]
    refine wh_A ?_
    have fr5 : cFr h (if a.2.2.1 < 0 then H3 else hrow (hup H3 41 34 (if z.1 = 0 ∨ v < h 41 34 then v else h 41 34)) 62 (sg2 a.2.2.2 v (h 62))) := by
      by_cases c : a.2.2.1 < 0
      · rw [if_pos c]; exact fr4
      · rw [if_neg c]; exact (fr4.tr (cFr.fld (Or.inr (Or.inl rfl)))).tr (cFr.row (Or.inr (Or.inr (Or.inr rfl))))
    refine ⟨rfl, fr5.tr (cFr.fld (Or.inl rfl)), ?_, fun j hj => ?_, ?_, ?_, ?_, ?_, ?_⟩
    · rw [hup_ne (by omega)]
      by_cases c : a.2.2.1 < 0
      · rw [if_pos c, er4 _ (by omega), er3 _ (by omega) (by omega)]
      · rw [if_neg c, hrow_ne (by omega), hup_ne (by omega), er4 _ (by omega), er3 _ (by omega) (by omega)]
    · rw [hup_ne (by omega)]
      by_cases c : a.2.2.1 < 0
      · rw [if_pos c, er4 _ (by omega), ed3]; exact hgl j hj
      · rw [if_neg c, hrow_ne (by omega), hup_ne (by omega), er4 _ (by omega), ed3]; exact hgl j hj
    · rw [hup_same, upd_s]
      show _ = z.1 + 1
      by_cases c : a.2.2.1 < 0
      · rw [if_pos c, er4 _ (by omega), fe]
      · rw [if_neg c, hrow_ne (by omega), hup_same, upd_n (by omega), er4 _ (by omega), fe]
    · rw [hup_same, upd_n (by omega)]
      show _ = if q = a.1 then z.1 else z.2.1
      by_cases c : a.2.2.1 < 0
      · rw [if_pos c, er4 _ (by omega), oe]
      · rw [if_neg c, hrow_ne (by omega), hup_same, upd_n (by omega), er4 _ (by omega), oe]
    · intro hne d hd
      rw [hup_ne (by omega)]
      have := w4 hne d hd
      by_cases c : a.2.2.1 < 0
      · rw [if_pos c]; exact this
      · rw [if_neg c, hrow_ne (by omega), hup_ne (by omega)]; exact this
    · intro c _
      rw [hup_same, upd_n (by omega), if_neg c, hrow_ne (by omega), hup_same, upd_s]
      show _ = if a.2.2.1 < 0 then z.2.2.2.1 else if z.1 = 0 ∨ v < z.2.2.2.1 then v else z.2.2.2.1
      rw [if_neg c]
      by_cases c0 : z.1 = 0
      · rw [if_pos (Or.inl c0), if_pos (Or.inl c0)]
      · rw [z4 c c0]
    · intro s hs3
      rw [hup_ne (by omega)]
      show _ = (if a.2.2.1 < 0 then z.2.2.2.2 else sg2 a.2.2.2 v z.2.2.2.2) s
      by_cases c : a.2.2.1 < 0
      · rw [if_pos c, if_pos c, er4 _ (by omega), er3 _ (by omega) (by omega)]; exact z5 s hs3
      · rw [if_neg c, if_neg c, hrow_same]
        have hw3 : whS a.2.2.2 v < 3 := by unfold whS; split; omega; split <;> omega
        unfold sg2 upd
        by_cases c2 : s = whS a.2.2.2 v
        · rw [if_pos c2, if_pos c2, z5 _ hw3]
        · rw [if_neg c2, if_neg c2]; exact z5 s hs3
  · have hb0 : ¬ brk D (wfr true w) (lay (dN D) q) = 0 := fun z => b66 (by rw [z]; rfl)
    have ze : zsp D w a z q = z := if_neg hb0
    rw [ze]
    refine V_vret d_Mo_whole_69 rfl ?_
    obtain ⟨z1, z2, z3, z4, z5⟩ := hz
    exact ⟨rfl, fr2, er _ (by omega) (by omega), hd2, by rw [e30]; exact z1, by rw [e36]; exact z2, fun hne d hd => by rw [er _ (by omega) (by omega)]; exact z3 hne d hd, fun c1 c2 => by rw [e34]; exact z4 c1 c2, fun s hs3 => by rw [er _ (by omega) (by omega)]; exact z5 s hs3⟩
