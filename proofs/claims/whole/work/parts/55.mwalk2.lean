/-! walk() -/
theorem stpT_ok {D : LD} {w : LW} {ds : Nat → Nat} (okd : okDs D w ds) {M : Nat → Bool} {x y : Nat} (hx : x < wK w) (hy : y < wK w) (s1 s2 : Int32) : okDs D w (stpT D w ds M x y s1 s2).2.1 := by
  unfold stpT
  split
  · exact okd
  · split
    · exact fun p hp => dealN_lt hx hy (okd p hp)
    · exact okd
theorem stpS_ok {D : LD} {w : LW} (ok : okLD D) {ds : Nat → Nat} (okd : okDs D w ds) (s : Int32) : okDs D w (stpS D w ds s).2.1 := by
  unfold stpS
  split
  · exact okd
  · rename_i hn
    have hb : stB D ds s < dB D := (nthB_is (Nat.mod_lt _ (by omega))).1
    have hbo := ok.2.2.2.1 _ hb
    have h1 := okd _ hbo.1
    have h2 := okd _ hbo.2.1
    refine stpT_ok okd ?_ ?_ _ _
    · unfold xLo; split <;> omega
    · unfold xHi; split <;> omega
def whS (own v : Int32) : Nat := if v < own then 0 else if v = own then 1 else 2
/-- what is seen after one more step -/
def sg1 (c : Bool) (f : Nat → Int32) : Nat → Int32 := upd f 5 (f 5 + if c then 1 else 0)
def sg2 (own v : Int32) (f : Nat → Int32) : Nat → Int32 := upd f (whS own v) (f (whS own v) + 1)
def sg3 (v : Int32) (i : Nat) (f : Nat → Int32) : Nat → Int32 := upd f 3 (if i = 0 ∨ v < f 3 then v else f 3)
def sg4 (v : Int32) (i : Nat) (f : Nat → Int32) : Nat → Int32 := upd f 4 (if i = 0 ∨ f 4 < v then v else f 4)
def sgt (own v : Int32) (i : Nat) (c : Bool) (f : Nat → Int32) : Nat → Int32 := sg4 v i (sg3 v i (sg2 own v (sg1 c f)))
noncomputable def wkN (D : LD) (w : LW) (m : Nat) (own : Int32) (ds : Nat → Nat) (s : Int32) : Nat → (Nat → Nat) × Int32 × (Nat → Int32)
  | 0 => (ds, s, fun _ => 0)
  | n + 1 => ((stpS D w (wkN D w m own ds s n).1 (wkN D w m own ds s n).2.1).2.1, (stpS D w (wkN D w m own ds s n).1 (wkN D w m own ds s n).2.1).2.2, sgt own (val D w (stpS D w (wkN D w m own ds s n).1 (wkN D w m own ds s n).2.1).2.1 m) n (stpS D w (wkN D w m own ds s n).1 (wkN D w m own ds s n).2.1).1 (wkN D w m own ds s n).2.2)
theorem wkN_ok {D : LD} {w : LW} (ok : okLD D) {m : Nat} {own : Int32} {ds : Nat → Nat} {s : Int32} (okd : okDs D w ds) : ∀ n, okDs D w (wkN D w m own ds s n).1
  | 0 => okd
  | n + 1 => by rw [wkN]; exact stpS_ok ok (wkN_ok ok okd n) _
/-- what a walk may change -/
def gFr (h h' : Hp) : Prop := (∀ q, q ≠ 41 → q ≠ 52 → q ≠ 53 → q ≠ 55 → q ≠ 54 → q ≠ 56 → q ≠ 57 → q ≠ 58 → q ≠ 59 → h' q = h q) ∧ ∀ f, f ≠ 16 → f ≠ 17 → f ≠ 18 → f ≠ 19 → f ≠ 30 → h' 41 f = h 41 f
theorem gFr.tr {h h' h2 : Hp} (a : gFr h h') (b : gFr h' h2) : gFr h h2 := ⟨fun q h1 h3 h4 h5 h6 h7 h8 h9 h10 => (b.1 q h1 h3 h4 h5 h6 h7 h8 h9 h10).trans (a.1 q h1 h3 h4 h5 h6 h7 h8 h9 h10), fun f h1 h3 h4 h5 h6 => (b.2 f h1 h3 h4 h5 h6).trans (a.2 f h1 h3 h4 h5 h6)⟩
theorem wFr.gf {h h' : Hp} (a : wFr h h') : gFr h h' := ⟨fun q h1 h2 h3 h4 h5 h6 h7 _ _ => a.1 q h1 h2 h3 h4 h5 h6 h7, a.2⟩
theorem gFr.keep {h h' : Hp} (a : gFr h h') : mKeep h h' := ⟨fun q h1 h2 => a.1 q (by omega) (by omega) (by omega) (by omega) (by omega) (by omega) (by omega) (by omega) (by omega), a.2 4 (by omega) (by omega) (by omega) (by omega) (by omega), a.2 8 (by omega) (by omega) (by omega) (by omega) (by omega), a.2 10 (by omega) (by omega) (by omega) (by omega) (by omega), a.2 11 (by omega) (by omega) (by omega) (by omega) (by omega), a.2 13 (by omega) (by omega) (by omega) (by omega) (by omega)⟩
theorem gFr.row {h : Hp} {o : Nat} {f : Nat → Int32} (ho : o = 52 ∨ o = 58 ∨ o = 59) : gFr h (hrow h o f) := ⟨fun q _ h2 _ _ _ _ _ h8 h9 => hrow_ne (by omega), fun f _ _ _ _ _ => by rw [hrow_ne (by omega)]⟩
theorem wk_seen {E : Wd} {H : Hp} {Q : Option Value → Hp → Prop} {n s m own v : Int32} {i : Nat} (hi : i ≤ 200) {f : Nat → Int32} (k : V E 6 m_Mo_walk Q 115 [some (.ref 41), some (.int n), some (.int s), some (.int m), some (.int own), some (.int (nI (i + 1))), some (.int v)] [] (hrow H 59 (sg4 v i (sg3 v i (sg2 own v f))))) : V E 6 m_Mo_walk Q 149 [some (.ref 41), some (.int n), some (.int s), some (.int m), some (.int own), some (.int (nI i)), some (.int v)] [] (hrow H 59 f) := by
  have in0 : vp_in (0 : Int32) 6 := vp_in_nI (n := 0) (by omega) (by omega)
  have in1 : vp_in (1 : Int32) 6 := vp_in_nI (n := 1) (by omega) (by omega)
  have in2 : vp_in (2 : Int32) 6 := vp_in_nI (n := 2) (by omega) (by omega)
  have in3 : vp_in (3 : Int32) 6 := vp_in_nI (n := 3) (by omega) (by omega)
  have in4 : vp_in (4 : Int32) 6 := vp_in_nI (n := 4) (by omega) (by omega)
  have i0 : (nI i = 0) ↔ i = 0 := eq_nI i 0 rfl rfl (by omega) (by decide)
  -- the greatest
  have p4 : ∀ f, V E 6 m_Mo_walk Q 115 [some (.ref 41), some (.int n), some (.int s), some (.int m), some (.int own), some (.int (nI (i + 1))), some (.int v)] [] (hrow H 59 (sg4 v i f)) → V E 6 m_Mo_walk Q 214 [some (.ref 41), some (.int n), some (.int s), some (.int m), some (.int own), some (.int (nI i)), some (.int v)] [] (hrow H 59 f) := by
    intro f k
    have yes : (i = 0 ∨ f 4 < v) → V E 6 m_Mo_walk Q 235 [some (.ref 41), some (.int n), some (.int s), some (.int m), some (.int own), some (.int (nI i)), some (.int v)] [.int 4, .ref 59] (hrow H 59 f) := by
      intro c
      refine V_iload d_Mo_walk_235 rfl ?_
      refine V_goto (tgt := 246) d_Mo_walk_237 (by decide) ?_
      refine V_iast d_Mo_walk_246 (by first | rfl | assumption) (by first | assumption | exact vp_in_nI (by omega) (by omega)) ?_
      refine V_iincw (w := 1) d_Mo_walk_247 rfl (by decide) (by decide) ?_
      dsimp only [List.set]
      refine V_goto (tgt := 115) d_Mo_walk_250 (by decide) ?_
      rw [hup_hrow, nI_1]
      unfold sg4 at k
      rw [if_pos c] at k
      exact k
    refine V_aload_n d_Mo_walk_214 rfl ?_
    refine V_getR d_Mo_walk_215 f_Mo_72 rfl (by first | rfl | assumption) (by first | rfl | assumption) ?_
    refine V_iconst (v := 4) d_Mo_walk_218 (by decide) ?_
    refine V_iload d_Mo_walk_219 rfl ?_
    refine V_if_eq (tgt := 235) d_Mo_walk_221 (by decide) (fun b221 => ?_) (fun b221 => ?_)
    · exact yes (Or.inl (i0.mp b221))
    · have hne : ¬ i = 0 := fun q => b221 (i0.mpr q)
      refine V_iload d_Mo_walk_224 rfl ?_
      refine V_aload_n d_Mo_walk_226 rfl ?_
      refine V_getR d_Mo_walk_227 f_Mo_72 rfl (by first | rfl | assumption) (by first | rfl | assumption) ?_
      refine V_iconst (v := 4) d_Mo_walk_230 (by decide) ?_
      refine V_iald d_Mo_walk_231 (by first | rfl | assumption) (by first | assumption | exact vp_in_nI (by omega) (by omega)) ?_
      rw [hrow_same]
      refine V_icmp_le (tgt := 240) d_Mo_walk_232 (by decide) (fun b232 => ?_) (fun b232 => ?_)
      · refine V_aload_n d_Mo_walk_240 rfl ?_
        refine V_getR d_Mo_walk_241 f_Mo_72 rfl (by first | rfl | assumption) (by first | rfl | assumption) ?_
        refine V_iconst (v := 4) d_Mo_walk_244 (by decide) ?_
        refine V_iald d_Mo_walk_245 (by first | rfl | assumption) (by first | assumption | exact vp_in_nI (by omega) (by omega)) ?_
        refine V_iast d_Mo_walk_246 (by first | rfl | assumption) (by first | assumption | exact vp_in_nI (by omega) (by omega)) ?_
        refine V_iincw (w := 1) d_Mo_walk_247 rfl (by decide) (by decide) ?_
        dsimp only [List.set]
        refine V_goto (tgt := 115) d_Mo_walk_250 (by decide) ?_
        rw [hup_hrow, hrow_same, nI_1]
        unfold sg4 at k
        rw [if_neg (fun z => z.elim hne (fun z => (fa_of_lt z).2.1 b232))] at k
        exact k
      · exact yes (Or.inr (fa_of_nle b232))
  have p3 : ∀ f, V E 6 m_Mo_walk Q 115 [some (.ref 41), some (.int n), some (.int s), some (.int m), some (.int own), some (.int (nI (i + 1))), some (.int v)] [] (hrow H 59 (sg4 v i (sg3 v i f))) → V E 6 m_Mo_walk Q 181 [some (.ref 41), some (.int n), some (.int s), some (.int m), some (.int own), some (.int (nI i)), some (.int v)] [] (hrow H 59 f) := by
    intro f k
    have yes : (i = 0 ∨ v < f 3) → V E 6 m_Mo_walk Q 202 [some (.ref 41), some (.int n), some (.int s), some (.int m), some (.int own), some (.int (nI i)), some (.int v)] [.int 3, .ref 59] (hrow H 59 f) := by
      intro c
      refine V_iload d_Mo_walk_202 rfl ?_
      refine V_goto (tgt := 213) d_Mo_walk_204 (by decide) ?_
      refine V_iast d_Mo_walk_213 (by first | rfl | assumption) (by first | assumption | exact vp_in_nI (by omega) (by omega)) ?_
      rw [hup_hrow]
      refine p4 _ ?_
      rw [sg3, if_pos c] at k
      exact k
    refine V_aload_n d_Mo_walk_181 rfl ?_
    refine V_getR d_Mo_walk_182 f_Mo_72 rfl (by first | rfl | assumption) (by first | rfl | assumption) ?_
    refine V_iconst (v := 3) d_Mo_walk_185 (by decide) ?_
    refine V_iload d_Mo_walk_186 rfl ?_
    refine V_if_eq (tgt := 202) d_Mo_walk_188 (by decide) (fun b188 => ?_) (fun b188 => ?_)
    · exact yes (Or.inl (i0.mp b188))
    · have hne : ¬ i = 0 := fun q => b188 (i0.mpr q)
      refine V_iload d_Mo_walk_191 rfl ?_
      refine V_aload_n d_Mo_walk_193 rfl ?_
      refine V_getR d_Mo_walk_194 f_Mo_72 rfl (by first | rfl | assumption) (by first | rfl | assumption) ?_
      refine V_iconst (v := 3) d_Mo_walk_197 (by decide) ?_
      refine V_iald d_Mo_walk_198 (by first | rfl | assumption) (by first | assumption | exact vp_in_nI (by omega) (by omega)) ?_
      rw [hrow_same]
      refine V_icmp_ge (tgt := 207) d_Mo_walk_199 (by decide) (fun b199 => ?_) (fun b199 => ?_)
      · refine V_aload_n d_Mo_walk_207 rfl ?_
        refine V_getR d_Mo_walk_208 f_Mo_72 rfl (by first | rfl | assumption) (by first | rfl | assumption) ?_
        refine V_iconst (v := 3) d_Mo_walk_211 (by decide) ?_
        refine V_iald d_Mo_walk_212 (by first | rfl | assumption) (by first | assumption | exact vp_in_nI (by omega) (by omega)) ?_
        refine V_iast d_Mo_walk_213 (by first | rfl | assumption) (by first | assumption | exact vp_in_nI (by omega) (by omega)) ?_
        rw [hup_hrow, hrow_same]
        refine p4 _ ?_
        rw [sg3, if_neg (fun z => z.elim hne (fun z => (fa_of_lt z).2.1 b199))] at k
        exact k
      · exact yes (Or.inr (fa_of_nle b199))
  have k := p3 (sg2 own v f) k
  have p2 : ∀ j : Nat, j < 3 → whS own v = j → V E 6 m_Mo_walk Q 176 [some (.ref 41), some (.int n), some (.int s), some (.int m), some (.int own), some (.int (nI i)), some (.int v)] [.int (nI j), .ref 59] (hrow H 59 f) := by
    intro j hj e
    have hin : vp_in (nI j) 6 := vp_in_nI (by omega) (by omega)
    refine V_dup2 d_Mo_walk_176 rfl rfl ?_
    refine V_iald d_Mo_walk_177 (by first | rfl | assumption) (by first | assumption | exact vp_in_nI (by omega) (by omega)) ?_
    refine V_iconst (v := 1) d_Mo_walk_178 (by decide) ?_
    refine V_iadd d_Mo_walk_179 ?_
    refine V_iast d_Mo_walk_180 (by first | rfl | assumption) (by first | assumption | exact vp_in_nI (by omega) (by omega)) ?_
    rw [nI_clamp (by omega), hup_hrow, hrow_same]
    unfold sg2 at k
    rw [e] at k
    exact k
  refine V_aload_n d_Mo_walk_149 rfl ?_
  refine V_getR d_Mo_walk_150 f_Mo_72 rfl (by first | rfl | assumption) (by first | rfl | assumption) ?_
  refine V_iload d_Mo_walk_153 rfl ?_
  refine V_iload d_Mo_walk_155 rfl ?_
  refine V_icmp_ge (tgt := 164) d_Mo_walk_157 (by decide) (fun b157 => ?_) (fun b157 => ?_)
  · refine V_iload d_Mo_walk_164 rfl ?_
    refine V_iload d_Mo_walk_166 rfl ?_
    refine V_icmp_ne (tgt := 175) d_Mo_walk_168 (by decide) (fun b168 => ?_) (fun b168 => ?_)
    · refine V_iconst (v := 2) d_Mo_walk_175 (by decide) ?_
      exact p2 2 (by omega) (by unfold whS; rw [if_neg (fun z => (fa_of_lt z).2.1 b157), if_neg b168])
    · refine V_iconst (v := 1) d_Mo_walk_171 (by decide) ?_
      refine V_goto (tgt := 176) d_Mo_walk_172 (by decide) ?_
      exact p2 1 (by omega) (by unfold whS; rw [if_neg (fun z => (fa_of_lt z).2.1 b157), if_pos b168])
  · refine V_iconst (v := 0) d_Mo_walk_160 (by decide) ?_
    refine V_goto (tgt := 176) d_Mo_walk_161 (by decide) ?_
    exact p2 0 (by omega) (by unfold whS; rw [if_pos (fa_of_nle b157)])
