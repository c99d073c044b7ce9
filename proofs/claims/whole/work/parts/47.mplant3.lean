theorem pl_least {E : Wd} {h : Hp} {D : LD} (hl : MoLand h D) (ok : okLD D) {M X : Nat → Bool} {s z : Int32} {Q : Option Value → Hp → Prop} {u1 u2 u3 u6 u7 : Option Value} {f g t : Nat → Int32} (hf : ∀ b, b < dB D → f b = if pnd D M X b then nI (nmN D M s b) else -1)
    (k : ∀ o u5, ((o = none ∧ ∀ c, c < dB D → pnd D M X c = false) ∨ ∃ l, o = some l ∧ isNx D M s X l) → V E 1 m_Mo_plant Q 159 [some (.ref 41), u1, u2, u3, some (.int (fxI o)), u5, u6, u7] [] (HP h z f g t)) :
    ∀ i, i ≤ dB D → ∀ o, ((o = none ∧ ∀ c, c < i → pnd D M X c = false) ∨ ∃ l, o = some l ∧ l < i ∧ pnd D M X l = true ∧ ∀ c, c < i → pnd D M X c = true → kyN D M s l ≤ kyN D M s c) → V E 1 m_Mo_plant Q 103 [some (.ref 41), u1, u2, u3, some (.int (fxI o)), some (.int (nI i)), u6, u7] [] (HP h z f g t) := by
  have hB := ok.2.1
  have hlt : ∀ b, nmN D M s b < 65536 := fun b => drN_lt _
  refine up_ind (dB D) ?_
  intro i hi ih o ho
  refine V_iload d_Mo_plant_103 rfl ?_
  refine V_aload_n d_Mo_plant_105 rfl ?_
  refine V_getI d_Mo_plant_106 f_Mo_102 rfl (by first | rfl | assumption) (by first | rfl | assumption) ?_
  rw [HP_f (by omega), hl.2.1]
  refine V_icmp_ge (tgt := 159) d_Mo_plant_109 (by decide) (fun b109 => ?_) (fun b109 => ?_)
  · obtain rfl := ge_eq b109 rfl rfl (by omega) hi
    refine k o _ ?_
    rcases ho with ho | ⟨l, h1, h2, h3, h4⟩
    · exact Or.inl ho
    · obtain ⟨h5, h6⟩ := pnd_iff.mp h3
      exact Or.inr ⟨l, h1, h2, h5, h6, fun c hc h7 h8 => h4 c hc (pnd_iff.mpr ⟨h7, h8⟩)⟩
  · have hin' := nge_lt b109 rfl rfl (by omega) hi
    have ih := ih hin'
    have hn := hlt i
    -- it stays as it was
    have stay : ((o = none ∧ ∀ c, c < i + 1 → pnd D M X c = false) ∨ ∃ l, o = some l ∧ l < i + 1 ∧ pnd D M X l = true ∧ ∀ c, c < i + 1 → pnd D M X c = true → kyN D M s l ≤ kyN D M s c) → V E 1 m_Mo_plant Q 149 [some (.ref 41), u1, u2, u3, some (.int (fxI o)), some (.int (nI i)), u6, u7] [] (HP h z f g t) := by
      intro hs
      refine V_iload d_Mo_plant_149 rfl ?_
      refine V_istore d_Mo_plant_151 (by decide) ?_
      dsimp only [List.set]
      refine V_iincw (w := 1) d_Mo_plant_153 rfl (by decide) (by decide) ?_
      dsimp only [List.set]
      refine V_goto (tgt := 103) d_Mo_plant_156 (by decide) ?_
      rw [nI_1]
      exact ih o hs
    have take : (pnd D M X i = true ∧ ∀ c, c < i + 1 → pnd D M X c = true → kyN D M s i ≤ kyN D M s c) → V E 1 m_Mo_plant Q 144 [some (.ref 41), u1, u2, u3, some (.int (fxI o)), some (.int (nI i)), u6, u7] [] (HP h z f g t) := by
      intro hs
      refine V_iload d_Mo_plant_144 rfl ?_
      refine V_goto (tgt := 151) d_Mo_plant_146 (by decide) ?_
      refine V_istore d_Mo_plant_151 (by decide) ?_
      dsimp only [List.set]
      refine V_iincw (w := 1) d_Mo_plant_153 rfl (by decide) (by decide) ?_
      dsimp only [List.set]
      refine V_goto (tgt := 103) d_Mo_plant_156 (by decide) ?_
      rw [nI_1]
      exact ih (some i) (Or.inr ⟨i, rfl, by omega, hs⟩)
    refine V_aload_n d_Mo_plant_112 rfl ?_
    refine V_getR d_Mo_plant_113 f_Mo_54 rfl (by first | rfl | assumption) (by first | rfl | assumption) ?_
    refine V_iload d_Mo_plant_116 rfl ?_
    refine V_iald d_Mo_plant_118 (by first | rfl | assumption) (by first | assumption | exact vp_in_nI (by omega) (by omega)) ?_
    rw [nI_clamp (by omega), HP_n, hf i hin']
    cases hp : pnd D M X i with
    | false =>
      show V E 1 m_Mo_plant _ 119 _ [.int (-1)] _
      refine V_if_lt (tgt := 149) d_Mo_plant_119 (by decide) (fun b119 => ?_) (fun b119 => ?_)
      · refine stay ?_
        rcases ho with ⟨h1, h2⟩ | ⟨l, h1, h2, h3, h4⟩
        · refine Or.inl ⟨h1, fun c hc => ?_⟩
          rcases Nat.lt_or_ge c i with q | q
          · exact h2 c q
          · rw [show c = i by omega]; exact hp
        · refine Or.inr ⟨l, h1, by omega, h3, fun c hc hpc => ?_⟩
          rcases Nat.lt_or_ge c i with q | q
          · exact h4 c q hpc
          · rw [show c = i by omega, hp] at hpc
            exact absurd hpc (by decide)
      · exact absurd (by decide) b119
    | true =>
      show V E 1 m_Mo_plant _ 119 _ [.int (nI (nmN D M s i))] _
      refine V_if_lt (tgt := 149) d_Mo_plant_119 (by decide) (fun b119 => ?_) (fun b119 => ?_)
      · exact absurd b119 (nI_pos (by omega))
      · rcases ho with ⟨rfl, h2⟩ | ⟨l, rfl, h2, h3, h4⟩
        · refine V_iload d_Mo_plant_122 rfl ?_
          refine V_if_lt (tgt := 144) d_Mo_plant_124 (by decide) (fun b124 => ?_) (fun b124 => ?_)
          · refine take ⟨hp, fun c hc hpc => ?_⟩
            rcases Nat.lt_or_ge c i with q | q
            · rw [h2 c q] at hpc
              exact absurd hpc (by decide)
            · rw [show c = i by omega]
              exact Nat.le_refl _
          · exact absurd (by decide) b124
        · have hnl := hlt l
          refine V_iload d_Mo_plant_122 rfl ?_
          refine V_if_lt (tgt := 144) d_Mo_plant_124 (by decide) (fun b124 => ?_) (fun b124 => ?_)
          · exact absurd b124 (nI_pos (n := l) (by omega))
          · have hin2 : vp_in (fxI (some l)) 100 := vp_in_nI (n := l) (by omega) (by omega)
            refine V_aload_n d_Mo_plant_127 rfl ?_
            refine V_getR d_Mo_plant_128 f_Mo_54 rfl (by first | rfl | assumption) (by first | rfl | assumption) ?_
            refine V_iload d_Mo_plant_131 rfl ?_
            refine V_iald d_Mo_plant_133 (by first | rfl | assumption) (by first | assumption | exact vp_in_nI (by omega) (by omega)) ?_
            refine V_aload_n d_Mo_plant_134 rfl ?_
            refine V_getR d_Mo_plant_135 f_Mo_54 rfl (by first | rfl | assumption) (by first | rfl | assumption) ?_
            refine V_iload d_Mo_plant_138 rfl ?_
            refine V_iald d_Mo_plant_140 (by first | rfl | assumption) (by first | assumption | exact vp_in_nI (by omega) (by omega)) ?_
            rw [show fxI (some l) = nI l from rfl, nI_clamp (by omega), nI_clamp (by omega), HP_n, hf i hin', hf l (by omega), hp, h3, if_pos rfl, if_pos rfl]
            refine V_icmp_ge (tgt := 149) d_Mo_plant_141 (by decide) (fun b141 => ?_) (fun b141 => ?_)
            · have hle := (nI_leI (by omega) (by omega)).mp b141
              refine stay (Or.inr ⟨l, rfl, by omega, h3, fun c hc hpc => ?_⟩)
              rcases Nat.lt_or_ge c i with q | q
              · exact h4 c q hpc
              · rw [show c = i by omega]
                unfold kyN
                omega
            · have hlt2 : nmN D M s i < nmN D M s l := by
                rcases Nat.lt_or_ge (nmN D M s i) (nmN D M s l) with q | q
                · exact q
                · exact absurd (nI_le q (by omega)) b141
              refine take ⟨hp, fun c hc hpc => ?_⟩
              rcases Nat.lt_or_ge c i with q | q
              · have := h4 c q hpc
                unfold kyN at this ⊢
                omega
              · rw [show c = i by omega]
                exact Nat.le_refl _
theorem pl_join {E : Wd} {h : Hp} {D : LD} (hl : MoLand h D) (ok : okLD D) {z : Int32} {Q : Option Value → Hp → Prop} {u1 u2 u3 u4 : Option Value} {f t : Nat → Int32} {rt : Nat → Nat} {a c : Nat} (ha : a < dN D) (hc : c < dN D) (hrt : ∀ p, p < dN D → rt p < dN D)
    (k : ∀ g u7, (∀ p, p < dN D → g p = nI (rtN rt a c p)) → V E 1 m_Mo_plant Q 266 [some (.ref 41), u1, u2, u3, u4, some (.int (nI a)), some (.int (nI c)), u7] [] (HP h z f g t)) :
    ∀ i, i ≤ dN D → ∀ g, (∀ p, p < dN D → g p = nI (if p < i then rtN rt a c p else rt p)) → V E 1 m_Mo_plant Q 220 [some (.ref 41), u1, u2, u3, u4, some (.int (nI a)), some (.int (nI c)), some (.int (nI i))] [] (HP h z f g t) := by
  have hN := ok.1
  refine up_ind (dN D) ?_
  intro i hi ih g hg
  refine V_iload d_Mo_plant_220 rfl ?_
  refine V_aload_n d_Mo_plant_222 rfl ?_
  refine V_getI d_Mo_plant_223 f_Mo_91 rfl (by first | rfl | assumption) (by first | rfl | assumption) ?_
  rw [HP_f (by omega), hl.1]
  refine V_icmp_ge (tgt := 266) d_Mo_plant_226 (by decide) (fun b226 => ?_) (fun b226 => ?_)
  · obtain rfl := ge_eq b226 rfl rfl (by omega) hi
    refine k g _ (fun p hp => ?_)
    rw [hg p hp, if_pos hp]
  · have hin' := nge_lt b226 rfl rfl (by omega) hi
    have hri := hrt i hin'
    have hgi : g i = nI (rt i) := by rw [hg i hin', if_neg (Nat.lt_irrefl i)]
    have next : ∀ g', (g' = upd g i (nI (rtN rt a c i))) → ∀ p, p < dN D → g' p = nI (if p < i + 1 then rtN rt a c p else rt p) := by
      intro g' e p hp
      rw [e]
      by_cases q : p = i
      · rw [q, upd_s, if_pos (by omega)]
      · rw [upd_n q, hg p hp]
        by_cases q2 : p < i
        · rw [if_pos q2, if_pos (by omega)]
        · rw [if_neg q2, if_neg (by omega)]
    refine V_aload_n d_Mo_plant_229 rfl ?_
    refine V_getR d_Mo_plant_230 f_Mo_60 rfl (by first | rfl | assumption) (by first | rfl | assumption) ?_
    refine V_iload d_Mo_plant_233 rfl ?_
    refine V_aload_n d_Mo_plant_235 rfl ?_
    refine V_getR d_Mo_plant_236 f_Mo_60 rfl (by first | rfl | assumption) (by first | rfl | assumption) ?_
    refine V_iload d_Mo_plant_239 rfl ?_
    refine V_iald d_Mo_plant_241 (by first | rfl | assumption) (by first | assumption | exact vp_in_nI (by omega) (by omega)) ?_
    rw [nI_clamp (by omega), HP_r, hgi]
    refine V_iload d_Mo_plant_242 rfl ?_
    refine V_icmp_ne (tgt := 252) d_Mo_plant_244 (by decide) (fun b244 => ?_) (fun b244 => ?_)
    · have hne : ¬ rt i = c := fun q => b244 (by rw [q])
      refine V_aload_n d_Mo_plant_252 rfl ?_
      refine V_getR d_Mo_plant_253 f_Mo_60 rfl (by first | rfl | assumption) (by first | rfl | assumption) ?_
      refine V_iload d_Mo_plant_256 rfl ?_
      refine V_iald d_Mo_plant_258 (by first | rfl | assumption) (by first | assumption | exact vp_in_nI (by omega) (by omega)) ?_
      refine V_iast d_Mo_plant_259 (by first | rfl | assumption) (by first | assumption | exact vp_in_nI (by omega) (by omega)) ?_
      refine V_iincw (w := 1) d_Mo_plant_260 rfl (by decide) (by decide) ?_
      dsimp only [List.set]
      refine V_goto (tgt := 220) d_Mo_plant_263 (by decide) ?_
      rw [nI_clamp (by omega), HP_ur, HP_r, hgi, nI_1]
      exact ih hin' _ (next _ (by rw [rtN, if_neg hne]))
    · have heq : rt i = c := (nI_eq (by omega) (by omega)).mp b244
      refine V_iload d_Mo_plant_247 rfl ?_
      refine V_goto (tgt := 259) d_Mo_plant_249 (by decide) ?_
      refine V_iast d_Mo_plant_259 (by first | rfl | assumption) (by first | assumption | exact vp_in_nI (by omega) (by omega)) ?_
      refine V_iincw (w := 1) d_Mo_plant_260 rfl (by decide) (by decide) ?_
      dsimp only [List.set]
      refine V_goto (tgt := 220) d_Mo_plant_263 (by decide) ?_
      rw [nI_clamp (by omega), HP_ur, nI_1]
      exact ih hin' _ (next _ (by rw [rtN, if_pos heq]))
theorem pl_main {E : Wd} {h : Hp} {D : LD} (hl : MoLand h D) (ok : okLD D) {M : Nat → Bool} {s : Int32} {u1 : Option Value} : ∀ n (X : Nat → Bool) (rt tr : Nat → Nat) (m : Nat) (f g t : Nat → Int32) u4 u5 u6 u7, fa_cnt (pnd D M X) (dB D) < n → Kr D M s X rt tr m → (∀ b, b < dB D → f b = if pnd D M X b then nI (nmN D M s b) else -1) → (∀ p, p < dN D → g p = nI (rt p)) → (∀ i, i < m → t i = nI (tr i)) → V E 1 m_Mo_plant (plQ h D M s) 93 [some (.ref 41), u1, some (.int (nI m)), some (.int 1), u4, u5, u6, u7] [] (HP h (itS s (fa_cnt (isIn D M) (dB D))) f g t) := by
  have hB := ok.2.1
  have hN := ok.1
  intro n
  induction n with
  | zero => intro X rt tr m f g t u4 u5 u6 u7 hn; exact absurd hn (Nat.not_lt_zero _)
  | succ n ih =>
    intro X rt tr m f g t u4 u5 u6 u7 hn kr hf hg ht
    have hm30 : m ≤ 30 := by
      have := kr.cnt
      omega
    refine V_iload_n d_Mo_plant_93 rfl ?_
    refine V_if_eq (tgt := 325) d_Mo_plant_94 (by decide) (fun b94 => ?_) (fun b94 => ?_)
    · exact absurd b94 (by decide)
    · refine V_iconst (v := -1) d_Mo_plant_97 (by decide) ?_
      refine V_istore d_Mo_plant_98 (by decide) ?_
      dsimp only [List.set]
      refine V_iconst (v := 0) d_Mo_plant_100 (by decide) ?_
      refine V_istore d_Mo_plant_101 (by decide) ?_
      dsimp only [List.set]
      refine pl_least (o := none) hl ok hf ?_ 0 (Nat.zero_le _) (Or.inl ⟨rfl, fun c hc => absurd hc (Nat.not_lt_zero c)⟩)
      rintro o u5 (⟨rfl, hnone⟩ | ⟨l, rfl, hx⟩)
      · refine V_iload d_Mo_plant_159 rfl ?_
        refine V_if_lt (tgt := 168) d_Mo_plant_161 (by decide) (fun b161 => ?_) (fun b161 => ?_)
        · refine V_iconst (v := 0) d_Mo_plant_168 (by decide) ?_
          refine V_istore_n d_Mo_plant_169 (by decide) ?_
          dsimp only [List.set]
          refine V_iload_n d_Mo_plant_170 rfl ?_
          refine V_if_eq (tgt := 322) d_Mo_plant_171 (by decide) (fun b171 => ?_) (fun b171 => ?_)
          · refine V_goto (tgt := 93) d_Mo_plant_322 (by decide) ?_
            refine V_iload_n d_Mo_plant_93 rfl ?_
            refine V_if_eq (tgt := 325) d_Mo_plant_94 (by decide) (fun b94 => ?_) (fun b94 => ?_)
            · refine V_iload_n d_Mo_plant_325 rfl ?_
              refine V_iret d_Mo_plant_326 rfl ?_
              refine ⟨f, g, t, tr, m, rfl, rfl, lsT_cong kr.lst (fun b hb => ⟨fun q => q.2, fun q => ⟨?_, q⟩⟩), hm30, ht⟩
              cases hX : X b with
              | true => rfl
              | false =>
                have := hnone b hb
                rw [pnd_iff.mpr ⟨q.1, hX⟩] at this
                exact absurd this (by decide)
            · exact absurd rfl b94
          · exact absurd rfl b171
        · exact absurd (by decide) b161
      · have hlB := hx.1
        have hbo := ok.2.2.2.1 l hlB
        have hbr := hl.2.2.2.1 l hlB
        have hra := kr.rlt _ hbo.1
        have hrc := kr.rlt _ hbo.2.1
        have hin2 : vp_in (nI l) 100 := vp_in_nI (by omega) (by omega)
        have hpl : pnd D M X l = true := pnd_iff.mpr ⟨hx.2.1, hx.2.2.1⟩
        have hcnt : fa_cnt (pnd D M (addX X l)) (dB D) < fa_cnt (pnd D M X) (dB D) := by
          refine cnt_lt (fun i _ h1 => ?_) l hlB ?_ hpl
          · obtain ⟨z1, z2⟩ := pnd_iff.mp h1
            exact pnd_iff.mpr ⟨z1, (addX_no.mp z2).1⟩
          · unfold pnd
            rw [show addX X l l = true from addX_iff.mpr (Or.inr rfl)]
            simp
        have hf2 : ∀ b, b < dB D → upd f l (-1) b = if pnd D M (addX X l) b then nI (nmN D M s b) else -1 := by
          intro b hb
          by_cases q : b = l
          · rw [q, upd_s, show pnd D M (addX X l) l = false from by unfold pnd; rw [show addX X l l = true from addX_iff.mpr (Or.inr rfl)]; simp]
            rfl
          · rw [upd_n q, hf b hb]
            have e : pnd D M (addX X l) b = pnd D M X b := by
              unfold pnd addX
              simp [q]
            rw [e]
        show V E 1 m_Mo_plant _ 159 [some (.ref 41), u1, some (.int (nI m)), some (.int 1), some (.int (nI l)), u5, u6, u7] [] _
        refine V_iload d_Mo_plant_159 rfl ?_
        refine V_if_lt (tgt := 168) d_Mo_plant_161 (by decide) (fun b161 => ?_) (fun b161 => ?_)
        · exact absurd b161 (nI_pos (by omega))
        · refine V_iconst (v := 1) d_Mo_plant_164 (by decide) ?_
          refine V_goto (tgt := 169) d_Mo_plant_165 (by decide) ?_
          refine V_istore_n d_Mo_plant_169 (by decide) ?_
          dsimp only [List.set]
          refine V_iload_n d_Mo_plant_170 rfl ?_
          refine V_if_eq (tgt := 322) d_Mo_plant_171 (by decide) (fun b171 => ?_) (fun b171 => ?_)
          · exact absurd b171 (by decide)
          · refine V_aload_n d_Mo_plant_174 rfl ?_
            refine V_getR d_Mo_plant_175 f_Mo_54 rfl (by first | rfl | assumption) (by first | rfl | assumption) ?_
            refine V_iload d_Mo_plant_178 rfl ?_
            refine V_iconst (v := -1) d_Mo_plant_180 (by decide) ?_
            refine V_iast d_Mo_plant_181 (by first | rfl | assumption) (by first | assumption | exact vp_in_nI (by omega) (by omega)) ?_
            refine V_aload_n d_Mo_plant_182 rfl ?_
            refine V_getR d_Mo_plant_183 f_Mo_60 rfl (by first | rfl | assumption) (by first | rfl | assumption) ?_
            refine V_aload_n d_Mo_plant_186 rfl ?_
            refine V_getR d_Mo_plant_187 f_Mo_22 rfl (by first | rfl | assumption) (by first | rfl | assumption) ?_
            refine V_iload d_Mo_plant_190 rfl ?_
            rw [nI_clamp (by omega), HP_un]
            refine V_iald d_Mo_plant_192 (by first | rfl | assumption) (by first | assumption | exact vp_in_nI (by omega) (by omega)) ?_
            rw [nI_clamp (by omega), HP_ne (by omega) (by omega) (by omega) (by omega), hbr.1]
            refine V_iald d_Mo_plant_193 (by first | rfl | assumption) (by first | assumption | exact vp_in_nI (by omega) (by omega)) ?_
            refine V_istore d_Mo_plant_194 (by decide) ?_
            dsimp only [List.set]
            refine V_aload_n d_Mo_plant_196 rfl ?_
            refine V_getR d_Mo_plant_197 f_Mo_60 rfl (by first | rfl | assumption) (by first | rfl | assumption) ?_
            refine V_aload_n d_Mo_plant_200 rfl ?_
            refine V_getR d_Mo_plant_201 f_Mo_25 rfl (by first | rfl | assumption) (by first | rfl | assumption) ?_
            refine V_iload d_Mo_plant_204 rfl ?_
            rw [nI_clamp (by omega), HP_r, hg _ hbo.1]
            refine V_iald d_Mo_plant_206 (by first | rfl | assumption) (by first | assumption | exact vp_in_nI (by omega) (by omega)) ?_
            rw [nI_clamp (by omega), HP_ne (by omega) (by omega) (by omega) (by omega), hbr.2.1]
            refine V_iald d_Mo_plant_207 (by first | rfl | assumption) (by first | assumption | exact vp_in_nI (by omega) (by omega)) ?_
            rw [nI_clamp (by omega), HP_r, hg _ hbo.2.1]
            refine V_istore d_Mo_plant_208 (by decide) ?_
            dsimp only [List.set]
            refine V_iload d_Mo_plant_210 rfl ?_
            refine V_iload d_Mo_plant_212 rfl ?_
            refine V_icmp_eq (tgt := 322) d_Mo_plant_214 (by decide) (fun b214 => ?_) (fun b214 => ?_)
            · have heq := (nI_eq (by omega) (by omega)).mp b214
              refine V_goto (tgt := 93) d_Mo_plant_322 (by decide) ?_
              exact ih (addX X l) rt tr m _ g t _ _ _ _ (by omega) (kr.skip ok hx heq) hf2 hg ht
            · have hne : rt (dFr D l) ≠ rt (dTo D l) := fun q => b214 (by rw [q])
              have hroom := kr.room ok hx hne
              refine V_iconst (v := 0) d_Mo_plant_217 (by decide) ?_
              refine V_istore d_Mo_plant_218 (by decide) ?_
              dsimp only [List.set]
              refine pl_join hl ok hra hrc kr.rlt ?_ 0 (Nat.zero_le _) g (fun p hp => by rw [if_neg (Nat.not_lt_zero p)]; exact hg p hp)
              intro g' u7 hg'
              refine V_iload_n d_Mo_plant_266 rfl ?_
              refine V_istore d_Mo_plant_267 (by decide) ?_
              dsimp only [List.set]
              refine pl_sort hl ok (tr := tr) (by omega) (by omega) (fun i hi => ?_) kr.lst.2.2 ?_ m (Nat.le_refl _) t ht (fun j h1 h2 => by omega) (fun i h1 h2 => by omega)
              · have := kr.lst.1 i hi
                refine ⟨by omega, fun q => ?_⟩
                have h2 : X (tr i) = true := this.2.1
                rw [q, hx.2.2.1] at h2
                exact absurd h2 (by decide)
              · intro a t' u7 h1 h2 h3 h4
                refine V_goto (tgt := 93) d_Mo_plant_322 (by decide) ?_
                exact ih (addX X l) _ _ (m + 1) _ g' t' _ _ _ _ (by omega) (kr.join ok hx hne h1 h2 h3) hf2 hg' h4
