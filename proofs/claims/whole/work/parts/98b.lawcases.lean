set_option maxRecDepth 100000
theorem lc_place {p : Program} {e : Env} {s : State} {m : MethodId} {below : List Frame} {meth : Method} {c : Code} {b L : Nat} {xs : Nat → Int32} {E : Wd} {j : Nat} {h : Hp} {S : ST} (C : lA p s m meth c b L xs E) (hL : L ≤ 3072) (hj : 6 * j + 6 ≤ L) (hc : ClW h S) (hm : MoW h S) (ok : okST S) (kk : ∀ h2 S2, ClW h2 S2 → MoW h2 S2 → okST S2 → X p e s m below meth c b E 833 [some (.ref 64), some (.ref 0), some (.ref 41), some (.int (nI (6 * j)))] [] h2) : X p e s m below meth c b E 148 [some (.ref 64), some (.ref 0), some (.ref 41), some (.int (nI (6 * j)))] [] h := by
  refine X_aload_n C d_L_law_148 rfl ?_
  refine X_aload_n C d_L_law_149 rfl ?_
  refine X_iload_n C d_L_law_150 rfl ?_
  refine X_iconst (v := 1) C d_L_law_151 (by decide) ?_
  refine X_iadd C d_L_law_152 ?_
  refine X_ald (j := 6 * j + 1) C d_L_law_153 (nI_plus 1 (6 * j)) (by omega) hL ?_
  refine X_aload_n C d_L_law_154 rfl ?_
  refine X_iload_n C d_L_law_155 rfl ?_
  refine X_iconst (v := 2) C d_L_law_156 (by decide) ?_
  refine X_iadd C d_L_law_157 ?_
  refine X_ald (j := 6 * j + 2) C d_L_law_158 (nI_plus 2 (6 * j)) (by omega) hL ?_
  refine X_aload_n C d_L_law_159 rfl ?_
  refine X_iload_n C d_L_law_160 rfl ?_
  refine X_iconst (v := 3) C d_L_law_161 (by decide) ?_
  refine X_iadd C d_L_law_162 ?_
  refine X_ald (j := 6 * j + 3) C d_L_law_163 (nI_plus 3 (6 * j)) (by omega) hL ?_
  refine X_aload_n C d_L_law_164 rfl ?_
  refine X_iload_n C d_L_law_165 rfl ?_
  refine X_iconst (v := 4) C d_L_law_166 (by decide) ?_
  refine X_iadd C d_L_law_167 ?_
  refine X_ald (j := 6 * j + 4) C d_L_law_168 (nI_plus 4 (6 * j)) (by omega) hL ?_
  refine X_aload_n C d_L_law_169 rfl ?_
  refine X_iload_n C d_L_law_170 rfl ?_
  refine X_iconst (v := 5) C d_L_law_171 (by decide) ?_
  refine X_iadd C d_L_law_172 ?_
  refine X_ald (j := 6 * j + 5) C d_L_law_173 (nI_plus 5 (6 * j)) (by omega) hL ?_
  refine X_call (as := [.int (xs (6 * j + 1)), .int (xs (6 * j + 2)), .int (xs (6 * j + 3)), .int (xs (6 * j + 4)), .int (xs (6 * j + 5))]) (rest := []) (o := 0) C d_L_law_174 k_L_13 rfl (c_Dplace hc ok (xs (6 * j + 1)) (xs (6 * j + 2)) (xs (6 * j + 3)) (xs (6 * j + 4)) (xs (6 * j + 5))) rfl rfl rfl (by decide) rfl (by decide) (fun v1 h1 q1 => ?_)
  obtain ⟨e1, c1, f1⟩ := q1
  subst e1
  have m1 := hm.mv f1
  show X p e s m below meth c b E 177 _ [.int (opPlace S (xs (6 * j + 1)) (xs (6 * j + 2)) (xs (6 * j + 3)) (xs (6 * j + 4)) (xs (6 * j + 5))).1] h1
  refine X_aload_n C d_L_law_177 rfl ?_
  refine X_aload_n C d_L_law_178 rfl ?_
  refine X_iload_n C d_L_law_179 rfl ?_
  refine X_iconst (v := 1) C d_L_law_180 (by decide) ?_
  refine X_iadd C d_L_law_181 ?_
  refine X_ald (j := 6 * j + 1) C d_L_law_182 (nI_plus 1 (6 * j)) (by omega) hL ?_
  refine X_aload_n C d_L_law_183 rfl ?_
  refine X_iload_n C d_L_law_184 rfl ?_
  refine X_iconst (v := 2) C d_L_law_185 (by decide) ?_
  refine X_iadd C d_L_law_186 ?_
  refine X_ald (j := 6 * j + 2) C d_L_law_187 (nI_plus 2 (6 * j)) (by omega) hL ?_
  refine X_aload_n C d_L_law_188 rfl ?_
  refine X_iload_n C d_L_law_189 rfl ?_
  refine X_iconst (v := 3) C d_L_law_190 (by decide) ?_
  refine X_iadd C d_L_law_191 ?_
  refine X_ald (j := 6 * j + 3) C d_L_law_192 (nI_plus 3 (6 * j)) (by omega) hL ?_
  refine X_aload_n C d_L_law_193 rfl ?_
  refine X_iload_n C d_L_law_194 rfl ?_
  refine X_iconst (v := 4) C d_L_law_195 (by decide) ?_
  refine X_iadd C d_L_law_196 ?_
  refine X_ald (j := 6 * j + 4) C d_L_law_197 (nI_plus 4 (6 * j)) (by omega) hL ?_
  refine X_aload_n C d_L_law_198 rfl ?_
  refine X_iload_n C d_L_law_199 rfl ?_
  refine X_iconst (v := 5) C d_L_law_200 (by decide) ?_
  refine X_iadd C d_L_law_201 ?_
  refine X_ald (j := 6 * j + 5) C d_L_law_202 (nI_plus 5 (6 * j)) (by omega) hL ?_
  refine X_call (as := [.int (xs (6 * j + 1)), .int (xs (6 * j + 2)), .int (xs (6 * j + 3)), .int (xs (6 * j + 4)), .int (xs (6 * j + 5))]) (rest := [.int (opPlace S (xs (6 * j + 1)) (xs (6 * j + 2)) (xs (6 * j + 3)) (xs (6 * j + 4)) (xs (6 * j + 5))).1]) (o := 41) C d_L_law_203 k_L_17 rfl (c_Mplace m1 ok (xs (6 * j + 1)) (xs (6 * j + 2)) (xs (6 * j + 3)) (xs (6 * j + 4)) (xs (6 * j + 5))) rfl rfl rfl (by decide) rfl (Nat.le_of_ble_eq_true rfl) (fun v2 h2 q2 => ?_)
  obtain ⟨e2, m2, f2⟩ := q2
  subst e2
  have c2 := c1.mv f2
  show X p e s m below meth c b E 206 _ [.int (opPlace S (xs (6 * j + 1)) (xs (6 * j + 2)) (xs (6 * j + 3)) (xs (6 * j + 4)) (xs (6 * j + 5))).1, .int (opPlace S (xs (6 * j + 1)) (xs (6 * j + 2)) (xs (6 * j + 3)) (xs (6 * j + 4)) (xs (6 * j + 5))).1] h2
  refine X_icmp_same (tgt := 833) C d_L_law_206 (by decide) ?_
  exact kk h2 _ c2 m2 (k_place ok (xs (6 * j + 1)) (xs (6 * j + 2)) (xs (6 * j + 3)) (xs (6 * j + 4)) (xs (6 * j + 5)))
theorem lc_border {p : Program} {e : Env} {s : State} {m : MethodId} {below : List Frame} {meth : Method} {c : Code} {b L : Nat} {xs : Nat → Int32} {E : Wd} {j : Nat} {h : Hp} {S : ST} (C : lA p s m meth c b L xs E) (hL : L ≤ 3072) (hj : 6 * j + 6 ≤ L) (hc : ClW h S) (hm : MoW h S) (ok : okST S) (kk : ∀ h2 S2, ClW h2 S2 → MoW h2 S2 → okST S2 → X p e s m below meth c b E 833 [some (.ref 64), some (.ref 0), some (.ref 41), some (.int (nI (6 * j)))] [] h2) : X p e s m below meth c b E 211 [some (.ref 64), some (.ref 0), some (.ref 41), some (.int (nI (6 * j)))] [] h := by
  refine X_aload_n C d_L_law_211 rfl ?_
  refine X_aload_n C d_L_law_212 rfl ?_
  refine X_iload_n C d_L_law_213 rfl ?_
  refine X_iconst (v := 1) C d_L_law_214 (by decide) ?_
  refine X_iadd C d_L_law_215 ?_
  refine X_ald (j := 6 * j + 1) C d_L_law_216 (nI_plus 1 (6 * j)) (by omega) hL ?_
  refine X_aload_n C d_L_law_217 rfl ?_
  refine X_iload_n C d_L_law_218 rfl ?_
  refine X_iconst (v := 2) C d_L_law_219 (by decide) ?_
  refine X_iadd C d_L_law_220 ?_
  refine X_ald (j := 6 * j + 2) C d_L_law_221 (nI_plus 2 (6 * j)) (by omega) hL ?_
  refine X_aload_n C d_L_law_222 rfl ?_
  refine X_iload_n C d_L_law_223 rfl ?_
  refine X_iconst (v := 3) C d_L_law_224 (by decide) ?_
  refine X_iadd C d_L_law_225 ?_
  refine X_ald (j := 6 * j + 3) C d_L_law_226 (nI_plus 3 (6 * j)) (by omega) hL ?_
  refine X_call (as := [.int (xs (6 * j + 1)), .int (xs (6 * j + 2)), .int (xs (6 * j + 3))]) (rest := []) (o := 0) C d_L_law_227 k_L_18 rfl (c_Dborder hc ok (xs (6 * j + 1)) (xs (6 * j + 2)) (xs (6 * j + 3))) rfl rfl rfl (by decide) rfl (by decide) (fun v1 h1 q1 => ?_)
  obtain ⟨e1, c1, f1⟩ := q1
  subst e1
  have m1 := hm.mv f1
  show X p e s m below meth c b E 230 _ [.int (opBorder S (xs (6 * j + 1)) (xs (6 * j + 2)) (xs (6 * j + 3))).1] h1
  refine X_aload_n C d_L_law_230 rfl ?_
  refine X_aload_n C d_L_law_231 rfl ?_
  refine X_iload_n C d_L_law_232 rfl ?_
  refine X_iconst (v := 1) C d_L_law_233 (by decide) ?_
  refine X_iadd C d_L_law_234 ?_
  refine X_ald (j := 6 * j + 1) C d_L_law_235 (nI_plus 1 (6 * j)) (by omega) hL ?_
  refine X_aload_n C d_L_law_236 rfl ?_
  refine X_iload_n C d_L_law_237 rfl ?_
  refine X_iconst (v := 2) C d_L_law_238 (by decide) ?_
  refine X_iadd C d_L_law_239 ?_
  refine X_ald (j := 6 * j + 2) C d_L_law_240 (nI_plus 2 (6 * j)) (by omega) hL ?_
  refine X_aload_n C d_L_law_241 rfl ?_
  refine X_iload_n C d_L_law_242 rfl ?_
  refine X_iconst (v := 3) C d_L_law_243 (by decide) ?_
  refine X_iadd C d_L_law_244 ?_
  refine X_ald (j := 6 * j + 3) C d_L_law_245 (nI_plus 3 (6 * j)) (by omega) hL ?_
  refine X_call (as := [.int (xs (6 * j + 1)), .int (xs (6 * j + 2)), .int (xs (6 * j + 3))]) (rest := [.int (opBorder S (xs (6 * j + 1)) (xs (6 * j + 2)) (xs (6 * j + 3))).1]) (o := 41) C d_L_law_246 k_L_22 rfl (c_Mborder m1 ok (xs (6 * j + 1)) (xs (6 * j + 2)) (xs (6 * j + 3))) rfl rfl rfl (by decide) rfl (Nat.le_of_ble_eq_true rfl) (fun v2 h2 q2 => ?_)
  obtain ⟨e2, m2, f2⟩ := q2
  subst e2
  have c2 := c1.mv f2
  show X p e s m below meth c b E 249 _ [.int (opBorder S (xs (6 * j + 1)) (xs (6 * j + 2)) (xs (6 * j + 3))).1, .int (opBorder S (xs (6 * j + 1)) (xs (6 * j + 2)) (xs (6 * j + 3))).1] h2
  refine X_icmp_same (tgt := 833) C d_L_law_249 (by decide) ?_
  exact kk h2 _ c2 m2 (k_border ok (xs (6 * j + 1)) (xs (6 * j + 2)) (xs (6 * j + 3)))
theorem lc_law {p : Program} {e : Env} {s : State} {m : MethodId} {below : List Frame} {meth : Method} {c : Code} {b L : Nat} {xs : Nat → Int32} {E : Wd} {j : Nat} {h : Hp} {S : ST} (C : lA p s m meth c b L xs E) (hL : L ≤ 3072) (hj : 6 * j + 6 ≤ L) (hc : ClW h S) (hm : MoW h S) (ok : okST S) (kk : ∀ h2 S2, ClW h2 S2 → MoW h2 S2 → okST S2 → X p e s m below meth c b E 833 [some (.ref 64), some (.ref 0), some (.ref 41), some (.int (nI (6 * j)))] [] h2) : X p e s m below meth c b E 254 [some (.ref 64), some (.ref 0), some (.ref 41), some (.int (nI (6 * j)))] [] h := by
  refine X_aload_n C d_L_law_254 rfl ?_
  refine X_aload_n C d_L_law_255 rfl ?_
  refine X_iload_n C d_L_law_256 rfl ?_
  refine X_iconst (v := 1) C d_L_law_257 (by decide) ?_
  refine X_iadd C d_L_law_258 ?_
  refine X_ald (j := 6 * j + 1) C d_L_law_259 (nI_plus 1 (6 * j)) (by omega) hL ?_
  refine X_aload_n C d_L_law_260 rfl ?_
  refine X_iload_n C d_L_law_261 rfl ?_
  refine X_iconst (v := 2) C d_L_law_262 (by decide) ?_
  refine X_iadd C d_L_law_263 ?_
  refine X_ald (j := 6 * j + 2) C d_L_law_264 (nI_plus 2 (6 * j)) (by omega) hL ?_
  refine X_call (as := [.int (xs (6 * j + 1)), .int (xs (6 * j + 2))]) (rest := []) (o := 0) C d_L_law_265 k_L_23 rfl (c_Dlaw hc ok (xs (6 * j + 1)) (xs (6 * j + 2))) rfl rfl rfl (by decide) rfl (by decide) (fun v1 h1 q1 => ?_)
  obtain ⟨e1, c1, f1⟩ := q1
  subst e1
  have m1 := hm.mv f1
  show X p e s m below meth c b E 268 _ [.int (opLaw S (xs (6 * j + 1)) (xs (6 * j + 2))).1] h1
  refine X_aload_n C d_L_law_268 rfl ?_
  refine X_aload_n C d_L_law_269 rfl ?_
  refine X_iload_n C d_L_law_270 rfl ?_
  refine X_iconst (v := 1) C d_L_law_271 (by decide) ?_
  refine X_iadd C d_L_law_272 ?_
  refine X_ald (j := 6 * j + 1) C d_L_law_273 (nI_plus 1 (6 * j)) (by omega) hL ?_
  refine X_aload_n C d_L_law_274 rfl ?_
  refine X_iload_n C d_L_law_275 rfl ?_
  refine X_iconst (v := 2) C d_L_law_276 (by decide) ?_
  refine X_iadd C d_L_law_277 ?_
  refine X_ald (j := 6 * j + 2) C d_L_law_278 (nI_plus 2 (6 * j)) (by omega) hL ?_
  refine X_call (as := [.int (xs (6 * j + 1)), .int (xs (6 * j + 2))]) (rest := [.int (opLaw S (xs (6 * j + 1)) (xs (6 * j + 2))).1]) (o := 41) C d_L_law_279 k_L_27 rfl (c_Mlaw m1 ok (xs (6 * j + 1)) (xs (6 * j + 2))) rfl rfl rfl (by decide) rfl (Nat.le_of_ble_eq_true rfl) (fun v2 h2 q2 => ?_)
  obtain ⟨e2, m2, f2⟩ := q2
  subst e2
  have c2 := c1.mv f2
  show X p e s m below meth c b E 282 _ [.int (opLaw S (xs (6 * j + 1)) (xs (6 * j + 2))).1, .int (opLaw S (xs (6 * j + 1)) (xs (6 * j + 2))).1] h2
  refine X_icmp_same (tgt := 833) C d_L_law_282 (by decide) ?_
  exact kk h2 _ c2 m2 (k_law ok (xs (6 * j + 1)) (xs (6 * j + 2)))
theorem lc_keep {p : Program} {e : Env} {s : State} {m : MethodId} {below : List Frame} {meth : Method} {c : Code} {b L : Nat} {xs : Nat → Int32} {E : Wd} {j : Nat} {h : Hp} {S : ST} (C : lA p s m meth c b L xs E) (hL : L ≤ 3072) (hj : 6 * j + 6 ≤ L) (hc : ClW h S) (hm : MoW h S) (ok : okST S) (kk : ∀ h2 S2, ClW h2 S2 → MoW h2 S2 → okST S2 → X p e s m below meth c b E 833 [some (.ref 64), some (.ref 0), some (.ref 41), some (.int (nI (6 * j)))] [] h2) : X p e s m below meth c b E 287 [some (.ref 64), some (.ref 0), some (.ref 41), some (.int (nI (6 * j)))] [] h := by
  refine X_aload_n C d_L_law_287 rfl ?_
  refine X_aload_n C d_L_law_288 rfl ?_
  refine X_iload_n C d_L_law_289 rfl ?_
  refine X_iconst (v := 1) C d_L_law_290 (by decide) ?_
  refine X_iadd C d_L_law_291 ?_
  refine X_ald (j := 6 * j + 1) C d_L_law_292 (nI_plus 1 (6 * j)) (by omega) hL ?_
  refine X_aload_n C d_L_law_293 rfl ?_
  refine X_iload_n C d_L_law_294 rfl ?_
  refine X_iconst (v := 2) C d_L_law_295 (by decide) ?_
  refine X_iadd C d_L_law_296 ?_
  refine X_ald (j := 6 * j + 2) C d_L_law_297 (nI_plus 2 (6 * j)) (by omega) hL ?_
  refine X_call (as := [.int (xs (6 * j + 1)), .int (xs (6 * j + 2))]) (rest := []) (o := 0) C d_L_law_298 k_L_28 rfl (c_Dkeep hc ok (xs (6 * j + 1)) (xs (6 * j + 2))) rfl rfl rfl (by decide) rfl (by decide) (fun v1 h1 q1 => ?_)
  obtain ⟨e1, c1, f1⟩ := q1
  subst e1
  have m1 := hm.mv f1
  show X p e s m below meth c b E 301 _ [.int (opKeep S (xs (6 * j + 1)) (xs (6 * j + 2))).1] h1
  refine X_aload_n C d_L_law_301 rfl ?_
  refine X_aload_n C d_L_law_302 rfl ?_
  refine X_iload_n C d_L_law_303 rfl ?_
  refine X_iconst (v := 1) C d_L_law_304 (by decide) ?_
  refine X_iadd C d_L_law_305 ?_
  refine X_ald (j := 6 * j + 1) C d_L_law_306 (nI_plus 1 (6 * j)) (by omega) hL ?_
  refine X_aload_n C d_L_law_307 rfl ?_
  refine X_iload_n C d_L_law_308 rfl ?_
  refine X_iconst (v := 2) C d_L_law_309 (by decide) ?_
  refine X_iadd C d_L_law_310 ?_
  refine X_ald (j := 6 * j + 2) C d_L_law_311 (nI_plus 2 (6 * j)) (by omega) hL ?_
  refine X_call (as := [.int (xs (6 * j + 1)), .int (xs (6 * j + 2))]) (rest := [.int (opKeep S (xs (6 * j + 1)) (xs (6 * j + 2))).1]) (o := 41) C d_L_law_312 k_L_31 rfl (c_Mkeep m1 ok (xs (6 * j + 1)) (xs (6 * j + 2))) rfl rfl rfl (by decide) rfl (Nat.le_of_ble_eq_true rfl) (fun v2 h2 q2 => ?_)
  obtain ⟨e2, m2, f2⟩ := q2
  subst e2
  have c2 := c1.mv f2
  show X p e s m below meth c b E 315 _ [.int (opKeep S (xs (6 * j + 1)) (xs (6 * j + 2))).1, .int (opKeep S (xs (6 * j + 1)) (xs (6 * j + 2))).1] h2
  refine X_icmp_same (tgt := 833) C d_L_law_315 (by decide) ?_
  exact kk h2 _ c2 m2 (k_keep ok (xs (6 * j + 1)) (xs (6 * j + 2)))
theorem lc_cuts {p : Program} {e : Env} {s : State} {m : MethodId} {below : List Frame} {meth : Method} {c : Code} {b L : Nat} {xs : Nat → Int32} {E : Wd} {j : Nat} {h : Hp} {S : ST} (C : lA p s m meth c b L xs E) (hL : L ≤ 3072) (hj : 6 * j + 6 ≤ L) (hc : ClW h S) (hm : MoW h S) (ok : okST S) (kk : ∀ h2 S2, ClW h2 S2 → MoW h2 S2 → okST S2 → X p e s m below meth c b E 833 [some (.ref 64), some (.ref 0), some (.ref 41), some (.int (nI (6 * j)))] [] h2) : X p e s m below meth c b E 320 [some (.ref 64), some (.ref 0), some (.ref 41), some (.int (nI (6 * j)))] [] h := by
  refine X_aload_n C d_L_law_320 rfl ?_
  refine X_aload_n C d_L_law_321 rfl ?_
  refine X_iload_n C d_L_law_322 rfl ?_
  refine X_iconst (v := 1) C d_L_law_323 (by decide) ?_
  refine X_iadd C d_L_law_324 ?_
  refine X_ald (j := 6 * j + 1) C d_L_law_325 (nI_plus 1 (6 * j)) (by omega) hL ?_
  refine X_call (as := [.int (xs (6 * j + 1))]) (rest := []) (o := 0) C d_L_law_326 k_L_32 rfl (c_Dcuts hc ok (xs (6 * j + 1))) rfl rfl rfl (by decide) rfl (by decide) (fun v1 h1 q1 => ?_)
  obtain ⟨e1, c1, f1⟩ := q1
  subst e1
  have m1 := hm.mv f1
  show X p e s m below meth c b E 329 _ [.int (opCuts S (xs (6 * j + 1))).1] h1
  refine X_aload_n C d_L_law_329 rfl ?_
  refine X_aload_n C d_L_law_330 rfl ?_
  refine X_iload_n C d_L_law_331 rfl ?_
  refine X_iconst (v := 1) C d_L_law_332 (by decide) ?_
  refine X_iadd C d_L_law_333 ?_
  refine X_ald (j := 6 * j + 1) C d_L_law_334 (nI_plus 1 (6 * j)) (by omega) hL ?_
  refine X_call (as := [.int (xs (6 * j + 1))]) (rest := [.int (opCuts S (xs (6 * j + 1))).1]) (o := 41) C d_L_law_335 k_L_36 rfl (c_Mcuts m1 ok (xs (6 * j + 1))) rfl rfl rfl (by decide) rfl (Nat.le_of_ble_eq_true rfl) (fun v2 h2 q2 => ?_)
  obtain ⟨e2, m2, f2⟩ := q2
  subst e2
  have c2 := c1.mv f2
  show X p e s m below meth c b E 338 _ [.int (opCuts S (xs (6 * j + 1))).1, .int (opCuts S (xs (6 * j + 1))).1] h2
  refine X_icmp_same (tgt := 833) C d_L_law_338 (by decide) ?_
  exact kk h2 _ c2 m2 (k_cuts ok (xs (6 * j + 1)))
theorem lc_fix {p : Program} {e : Env} {s : State} {m : MethodId} {below : List Frame} {meth : Method} {c : Code} {b L : Nat} {xs : Nat → Int32} {E : Wd} {j : Nat} {h : Hp} {S : ST} (C : lA p s m meth c b L xs E) (hL : L ≤ 3072) (hj : 6 * j + 6 ≤ L) (hc : ClW h S) (hm : MoW h S) (ok : okST S) (kk : ∀ h2 S2, ClW h2 S2 → MoW h2 S2 → okST S2 → X p e s m below meth c b E 833 [some (.ref 64), some (.ref 0), some (.ref 41), some (.int (nI (6 * j)))] [] h2) : X p e s m below meth c b E 343 [some (.ref 64), some (.ref 0), some (.ref 41), some (.int (nI (6 * j)))] [] h := by
  refine X_aload_n C d_L_law_343 rfl ?_
  refine X_aload_n C d_L_law_344 rfl ?_
  refine X_iload_n C d_L_law_345 rfl ?_
  refine X_iconst (v := 1) C d_L_law_346 (by decide) ?_
  refine X_iadd C d_L_law_347 ?_
  refine X_ald (j := 6 * j + 1) C d_L_law_348 (nI_plus 1 (6 * j)) (by omega) hL ?_
  refine X_aload_n C d_L_law_349 rfl ?_
  refine X_iload_n C d_L_law_350 rfl ?_
  refine X_iconst (v := 2) C d_L_law_351 (by decide) ?_
  refine X_iadd C d_L_law_352 ?_
  refine X_ald (j := 6 * j + 2) C d_L_law_353 (nI_plus 2 (6 * j)) (by omega) hL ?_
  refine X_call (as := [.int (xs (6 * j + 1)), .int (xs (6 * j + 2))]) (rest := []) (o := 0) C d_L_law_354 k_L_37 rfl (c_Dfix hc ok (xs (6 * j + 1)) (xs (6 * j + 2))) rfl rfl rfl (by decide) rfl (by decide) (fun v1 h1 q1 => ?_)
  obtain ⟨e1, c1, f1⟩ := q1
  subst e1
  have m1 := hm.mv f1
  show X p e s m below meth c b E 357 _ [.int (opFix S (xs (6 * j + 1)) (xs (6 * j + 2))).1] h1
  refine X_aload_n C d_L_law_357 rfl ?_
  refine X_aload_n C d_L_law_358 rfl ?_
  refine X_iload_n C d_L_law_359 rfl ?_
  refine X_iconst (v := 1) C d_L_law_360 (by decide) ?_
  refine X_iadd C d_L_law_361 ?_
  refine X_ald (j := 6 * j + 1) C d_L_law_362 (nI_plus 1 (6 * j)) (by omega) hL ?_
  refine X_aload_n C d_L_law_363 rfl ?_
  refine X_iload_n C d_L_law_364 rfl ?_
  refine X_iconst (v := 2) C d_L_law_365 (by decide) ?_
  refine X_iadd C d_L_law_366 ?_
  refine X_ald (j := 6 * j + 2) C d_L_law_367 (nI_plus 2 (6 * j)) (by omega) hL ?_
  refine X_call (as := [.int (xs (6 * j + 1)), .int (xs (6 * j + 2))]) (rest := [.int (opFix S (xs (6 * j + 1)) (xs (6 * j + 2))).1]) (o := 41) C d_L_law_368 k_L_40 rfl (c_Mfix m1 ok (xs (6 * j + 1)) (xs (6 * j + 2))) rfl rfl rfl (by decide) rfl (Nat.le_of_ble_eq_true rfl) (fun v2 h2 q2 => ?_)
  obtain ⟨e2, m2, f2⟩ := q2
  subst e2
  have c2 := c1.mv f2
  show X p e s m below meth c b E 371 _ [.int (opFix S (xs (6 * j + 1)) (xs (6 * j + 2))).1, .int (opFix S (xs (6 * j + 1)) (xs (6 * j + 2))).1] h2
  refine X_icmp_same (tgt := 833) C d_L_law_371 (by decide) ?_
  exact kk h2 _ c2 m2 (k_fix ok (xs (6 * j + 1)) (xs (6 * j + 2)))
theorem lc_people {p : Program} {e : Env} {s : State} {m : MethodId} {below : List Frame} {meth : Method} {c : Code} {b L : Nat} {xs : Nat → Int32} {E : Wd} {j : Nat} {h : Hp} {S : ST} (C : lA p s m meth c b L xs E) (hL : L ≤ 3072) (hj : 6 * j + 6 ≤ L) (hc : ClW h S) (hm : MoW h S) (ok : okST S) (kk : ∀ h2 S2, ClW h2 S2 → MoW h2 S2 → okST S2 → X p e s m below meth c b E 833 [some (.ref 64), some (.ref 0), some (.ref 41), some (.int (nI (6 * j)))] [] h2) : X p e s m below meth c b E 376 [some (.ref 64), some (.ref 0), some (.ref 41), some (.int (nI (6 * j)))] [] h := by
  refine X_aload_n C d_L_law_376 rfl ?_
  refine X_aload_n C d_L_law_377 rfl ?_
  refine X_iload_n C d_L_law_378 rfl ?_
  refine X_iconst (v := 1) C d_L_law_379 (by decide) ?_
  refine X_iadd C d_L_law_380 ?_
  refine X_ald (j := 6 * j + 1) C d_L_law_381 (nI_plus 1 (6 * j)) (by omega) hL ?_
  refine X_aload_n C d_L_law_382 rfl ?_
  refine X_iload_n C d_L_law_383 rfl ?_
  refine X_iconst (v := 2) C d_L_law_384 (by decide) ?_
  refine X_iadd C d_L_law_385 ?_
  refine X_ald (j := 6 * j + 2) C d_L_law_386 (nI_plus 2 (6 * j)) (by omega) hL ?_
  refine X_call (as := [.int (xs (6 * j + 1)), .int (xs (6 * j + 2))]) (rest := []) (o := 0) C d_L_law_387 k_L_41 rfl (c_Dpeople hc ok (xs (6 * j + 1)) (xs (6 * j + 2))) rfl rfl rfl (by decide) rfl (by decide) (fun v1 h1 q1 => ?_)
  obtain ⟨e1, c1, f1⟩ := q1
  subst e1
  have m1 := hm.mv f1
  show X p e s m below meth c b E 390 _ [.int (opPeople S (xs (6 * j + 1)) (xs (6 * j + 2))).1] h1
  refine X_aload_n C d_L_law_390 rfl ?_
  refine X_aload_n C d_L_law_391 rfl ?_
  refine X_iload_n C d_L_law_392 rfl ?_
  refine X_iconst (v := 1) C d_L_law_393 (by decide) ?_
  refine X_iadd C d_L_law_394 ?_
  refine X_ald (j := 6 * j + 1) C d_L_law_395 (nI_plus 1 (6 * j)) (by omega) hL ?_
  refine X_aload_n C d_L_law_396 rfl ?_
  refine X_iload_n C d_L_law_397 rfl ?_
  refine X_iconst (v := 2) C d_L_law_398 (by decide) ?_
  refine X_iadd C d_L_law_399 ?_
  refine X_ald (j := 6 * j + 2) C d_L_law_400 (nI_plus 2 (6 * j)) (by omega) hL ?_
  refine X_call (as := [.int (xs (6 * j + 1)), .int (xs (6 * j + 2))]) (rest := [.int (opPeople S (xs (6 * j + 1)) (xs (6 * j + 2))).1]) (o := 41) C d_L_law_401 k_L_44 rfl (c_Mpeople m1 ok (xs (6 * j + 1)) (xs (6 * j + 2))) rfl rfl rfl (by decide) rfl (Nat.le_of_ble_eq_true rfl) (fun v2 h2 q2 => ?_)
  obtain ⟨e2, m2, f2⟩ := q2
  subst e2
  have c2 := c1.mv f2
  show X p e s m below meth c b E 404 _ [.int (opPeople S (xs (6 * j + 1)) (xs (6 * j + 2))).1, .int (opPeople S (xs (6 * j + 1)) (xs (6 * j + 2))).1] h2
  refine X_icmp_same (tgt := 833) C d_L_law_404 (by decide) ?_
  exact kk h2 _ c2 m2 (k_people ok (xs (6 * j + 1)) (xs (6 * j + 2)))
theorem lc_put {p : Program} {e : Env} {s : State} {m : MethodId} {below : List Frame} {meth : Method} {c : Code} {b L : Nat} {xs : Nat → Int32} {E : Wd} {j : Nat} {h : Hp} {S : ST} (C : lA p s m meth c b L xs E) (hL : L ≤ 3072) (hj : 6 * j + 6 ≤ L) (hc : ClW h S) (hm : MoW h S) (ok : okST S) (kk : ∀ h2 S2, ClW h2 S2 → MoW h2 S2 → okST S2 → X p e s m below meth c b E 833 [some (.ref 64), some (.ref 0), some (.ref 41), some (.int (nI (6 * j)))] [] h2) : X p e s m below meth c b E 409 [some (.ref 64), some (.ref 0), some (.ref 41), some (.int (nI (6 * j)))] [] h := by
  refine X_aload_n C d_L_law_409 rfl ?_
  refine X_aload_n C d_L_law_410 rfl ?_
  refine X_iload_n C d_L_law_411 rfl ?_
  refine X_iconst (v := 1) C d_L_law_412 (by decide) ?_
  refine X_iadd C d_L_law_413 ?_
  refine X_ald (j := 6 * j + 1) C d_L_law_414 (nI_plus 1 (6 * j)) (by omega) hL ?_
  refine X_aload_n C d_L_law_415 rfl ?_
  refine X_iload_n C d_L_law_416 rfl ?_
  refine X_iconst (v := 2) C d_L_law_417 (by decide) ?_
  refine X_iadd C d_L_law_418 ?_
  refine X_ald (j := 6 * j + 2) C d_L_law_419 (nI_plus 2 (6 * j)) (by omega) hL ?_
  refine X_call (as := [.int (xs (6 * j + 1)), .int (xs (6 * j + 2))]) (rest := []) (o := 0) C d_L_law_420 k_L_45 rfl (c_Dput hc ok (xs (6 * j + 1)) (xs (6 * j + 2))) rfl rfl rfl (by decide) rfl (by decide) (fun v1 h1 q1 => ?_)
  obtain ⟨e1, c1, f1⟩ := q1
  subst e1
  have m1 := hm.mv f1
  show X p e s m below meth c b E 423 _ [.int (opPut S (xs (6 * j + 1)) (xs (6 * j + 2))).1] h1
  refine X_aload_n C d_L_law_423 rfl ?_
  refine X_aload_n C d_L_law_424 rfl ?_
  refine X_iload_n C d_L_law_425 rfl ?_
  refine X_iconst (v := 1) C d_L_law_426 (by decide) ?_
  refine X_iadd C d_L_law_427 ?_
  refine X_ald (j := 6 * j + 1) C d_L_law_428 (nI_plus 1 (6 * j)) (by omega) hL ?_
  refine X_aload_n C d_L_law_429 rfl ?_
  refine X_iload_n C d_L_law_430 rfl ?_
  refine X_iconst (v := 2) C d_L_law_431 (by decide) ?_
  refine X_iadd C d_L_law_432 ?_
  refine X_ald (j := 6 * j + 2) C d_L_law_433 (nI_plus 2 (6 * j)) (by omega) hL ?_
  refine X_call (as := [.int (xs (6 * j + 1)), .int (xs (6 * j + 2))]) (rest := [.int (opPut S (xs (6 * j + 1)) (xs (6 * j + 2))).1]) (o := 41) C d_L_law_434 k_L_48 rfl (c_Mput m1 ok (xs (6 * j + 1)) (xs (6 * j + 2))) rfl rfl rfl (by decide) rfl (Nat.le_of_ble_eq_true rfl) (fun v2 h2 q2 => ?_)
  obtain ⟨e2, m2, f2⟩ := q2
  subst e2
  have c2 := c1.mv f2
  show X p e s m below meth c b E 437 _ [.int (opPut S (xs (6 * j + 1)) (xs (6 * j + 2))).1, .int (opPut S (xs (6 * j + 1)) (xs (6 * j + 2))).1] h2
  refine X_icmp_same (tgt := 833) C d_L_law_437 (by decide) ?_
  exact kk h2 _ c2 m2 (k_put ok (xs (6 * j + 1)) (xs (6 * j + 2)))
theorem lc_at {p : Program} {e : Env} {s : State} {m : MethodId} {below : List Frame} {meth : Method} {c : Code} {b L : Nat} {xs : Nat → Int32} {E : Wd} {j : Nat} {h : Hp} {S : ST} (C : lA p s m meth c b L xs E) (hL : L ≤ 3072) (hj : 6 * j + 6 ≤ L) (hc : ClW h S) (hm : MoW h S) (ok : okST S) (kk : ∀ h2 S2, ClW h2 S2 → MoW h2 S2 → okST S2 → X p e s m below meth c b E 833 [some (.ref 64), some (.ref 0), some (.ref 41), some (.int (nI (6 * j)))] [] h2) : X p e s m below meth c b E 442 [some (.ref 64), some (.ref 0), some (.ref 41), some (.int (nI (6 * j)))] [] h := by
  refine X_aload_n C d_L_law_442 rfl ?_
  refine X_aload_n C d_L_law_443 rfl ?_
  refine X_iload_n C d_L_law_444 rfl ?_
  refine X_iconst (v := 1) C d_L_law_445 (by decide) ?_
  refine X_iadd C d_L_law_446 ?_
  refine X_ald (j := 6 * j + 1) C d_L_law_447 (nI_plus 1 (6 * j)) (by omega) hL ?_
  refine X_call (as := [.int (xs (6 * j + 1))]) (rest := []) (o := 0) C d_L_law_448 k_L_49 rfl (c_Dat hc ok (xs (6 * j + 1))) rfl rfl rfl (by decide) rfl (by decide) (fun v1 h1 q1 => ?_)
  obtain ⟨e1, c1, f1⟩ := q1
  subst e1
  have m1 := hm.mv f1
  show X p e s m below meth c b E 451 _ [.int (opAt S (xs (6 * j + 1))).1] h1
  refine X_aload_n C d_L_law_451 rfl ?_
  refine X_aload_n C d_L_law_452 rfl ?_
  refine X_iload_n C d_L_law_453 rfl ?_
  refine X_iconst (v := 1) C d_L_law_454 (by decide) ?_
  refine X_iadd C d_L_law_455 ?_
  refine X_ald (j := 6 * j + 1) C d_L_law_456 (nI_plus 1 (6 * j)) (by omega) hL ?_
  refine X_call (as := [.int (xs (6 * j + 1))]) (rest := [.int (opAt S (xs (6 * j + 1))).1]) (o := 41) C d_L_law_457 k_L_52 rfl (c_Mat m1 ok (xs (6 * j + 1))) rfl rfl rfl (by decide) rfl (Nat.le_of_ble_eq_true rfl) (fun v2 h2 q2 => ?_)
  obtain ⟨e2, m2, f2⟩ := q2
  subst e2
  have c2 := c1.mv f2
  show X p e s m below meth c b E 460 _ [.int (opAt S (xs (6 * j + 1))).1, .int (opAt S (xs (6 * j + 1))).1] h2
  refine X_icmp_same (tgt := 833) C d_L_law_460 (by decide) ?_
  exact kk h2 _ c2 m2 ok
theorem lc_lawful {p : Program} {e : Env} {s : State} {m : MethodId} {below : List Frame} {meth : Method} {c : Code} {b L : Nat} {xs : Nat → Int32} {E : Wd} {j : Nat} {h : Hp} {S : ST} (C : lA p s m meth c b L xs E) (hL : L ≤ 3072) (hj : 6 * j + 6 ≤ L) (hc : ClW h S) (hm : MoW h S) (ok : okST S) (kk : ∀ h2 S2, ClW h2 S2 → MoW h2 S2 → okST S2 → X p e s m below meth c b E 833 [some (.ref 64), some (.ref 0), some (.ref 41), some (.int (nI (6 * j)))] [] h2) : X p e s m below meth c b E 465 [some (.ref 64), some (.ref 0), some (.ref 41), some (.int (nI (6 * j)))] [] h := by
  refine X_aload_n C d_L_law_465 rfl ?_
  refine X_call (as := []) (rest := []) (o := 0) C d_L_law_466 k_L_53 rfl (c_Dlawful hc ok ) rfl rfl rfl (by decide) rfl (by decide) (fun v1 h1 q1 => ?_)
  obtain ⟨e1, c1, f1⟩ := q1
  subst e1
  have m1 := hm.mv f1
  show X p e s m below meth c b E 469 _ [.int (opLawful S ).1] h1
  refine X_aload_n C d_L_law_469 rfl ?_
  refine X_call (as := []) (rest := [.int (opLawful S ).1]) (o := 41) C d_L_law_470 k_L_57 rfl (c_Mlawful m1 ok ) rfl rfl rfl (by decide) rfl (Nat.le_of_ble_eq_true rfl) (fun v2 h2 q2 => ?_)
  obtain ⟨e2, m2, f2⟩ := q2
  subst e2
  have c2 := c1.mv f2
  show X p e s m below meth c b E 473 _ [.int (opLawful S ).1, .int (opLawful S ).1] h2
  refine X_icmp_same (tgt := 833) C d_L_law_473 (by decide) ?_
  exact kk h2 _ c2 m2 ok
theorem lc_why {p : Program} {e : Env} {s : State} {m : MethodId} {below : List Frame} {meth : Method} {c : Code} {b L : Nat} {xs : Nat → Int32} {E : Wd} {j : Nat} {h : Hp} {S : ST} (C : lA p s m meth c b L xs E) (hL : L ≤ 3072) (hj : 6 * j + 6 ≤ L) (hc : ClW h S) (hm : MoW h S) (ok : okST S) (kk : ∀ h2 S2, ClW h2 S2 → MoW h2 S2 → okST S2 → X p e s m below meth c b E 833 [some (.ref 64), some (.ref 0), some (.ref 41), some (.int (nI (6 * j)))] [] h2) : X p e s m below meth c b E 478 [some (.ref 64), some (.ref 0), some (.ref 41), some (.int (nI (6 * j)))] [] h := by
  refine X_aload_n C d_L_law_478 rfl ?_
  refine X_aload_n C d_L_law_479 rfl ?_
  refine X_iload_n C d_L_law_480 rfl ?_
  refine X_iconst (v := 1) C d_L_law_481 (by decide) ?_
  refine X_iadd C d_L_law_482 ?_
  refine X_ald (j := 6 * j + 1) C d_L_law_483 (nI_plus 1 (6 * j)) (by omega) hL ?_
  refine X_call (as := [.int (xs (6 * j + 1))]) (rest := []) (o := 0) C d_L_law_484 k_L_58 rfl (c_Dwhy hc ok (xs (6 * j + 1))) rfl rfl rfl (by decide) rfl (by decide) (fun v1 h1 q1 => ?_)
  obtain ⟨e1, c1, f1⟩ := q1
  subst e1
  have m1 := hm.mv f1
  show X p e s m below meth c b E 487 _ [.int (opWhy S (xs (6 * j + 1))).1] h1
  refine X_aload_n C d_L_law_487 rfl ?_
  refine X_aload_n C d_L_law_488 rfl ?_
  refine X_iload_n C d_L_law_489 rfl ?_
  refine X_iconst (v := 1) C d_L_law_490 (by decide) ?_
  refine X_iadd C d_L_law_491 ?_
  refine X_ald (j := 6 * j + 1) C d_L_law_492 (nI_plus 1 (6 * j)) (by omega) hL ?_
  refine X_call (as := [.int (xs (6 * j + 1))]) (rest := [.int (opWhy S (xs (6 * j + 1))).1]) (o := 41) C d_L_law_493 k_L_61 rfl (c_Mwhy m1 ok (xs (6 * j + 1))) rfl rfl rfl (by decide) rfl (Nat.le_of_ble_eq_true rfl) (fun v2 h2 q2 => ?_)
  obtain ⟨e2, m2, f2⟩ := q2
  subst e2
  have c2 := c1.mv f2
  show X p e s m below meth c b E 496 _ [.int (opWhy S (xs (6 * j + 1))).1, .int (opWhy S (xs (6 * j + 1))).1] h2
  refine X_icmp_same (tgt := 833) C d_L_law_496 (by decide) ?_
  exact kk h2 _ c2 m2 ok
theorem lc_measure {p : Program} {e : Env} {s : State} {m : MethodId} {below : List Frame} {meth : Method} {c : Code} {b L : Nat} {xs : Nat → Int32} {E : Wd} {j : Nat} {h : Hp} {S : ST} (C : lA p s m meth c b L xs E) (hL : L ≤ 3072) (hj : 6 * j + 6 ≤ L) (hc : ClW h S) (hm : MoW h S) (ok : okST S) (kk : ∀ h2 S2, ClW h2 S2 → MoW h2 S2 → okST S2 → X p e s m below meth c b E 833 [some (.ref 64), some (.ref 0), some (.ref 41), some (.int (nI (6 * j)))] [] h2) : X p e s m below meth c b E 501 [some (.ref 64), some (.ref 0), some (.ref 41), some (.int (nI (6 * j)))] [] h := by
  refine X_aload_n C d_L_law_501 rfl ?_
  refine X_aload_n C d_L_law_502 rfl ?_
  refine X_iload_n C d_L_law_503 rfl ?_
  refine X_iconst (v := 1) C d_L_law_504 (by decide) ?_
  refine X_iadd C d_L_law_505 ?_
  refine X_ald (j := 6 * j + 1) C d_L_law_506 (nI_plus 1 (6 * j)) (by omega) hL ?_
  refine X_call (as := [.int (xs (6 * j + 1))]) (rest := []) (o := 0) C d_L_law_507 k_L_62 rfl (c_Dmeasure hc ok (xs (6 * j + 1))) rfl rfl rfl (by decide) rfl (by decide) (fun v1 h1 q1 => ?_)
  obtain ⟨e1, c1, f1⟩ := q1
  subst e1
  have m1 := hm.mv f1
  show X p e s m below meth c b E 510 _ [.int (opMeasure S (xs (6 * j + 1))).1] h1
  refine X_aload_n C d_L_law_510 rfl ?_
  refine X_aload_n C d_L_law_511 rfl ?_
  refine X_iload_n C d_L_law_512 rfl ?_
  refine X_iconst (v := 1) C d_L_law_513 (by decide) ?_
  refine X_iadd C d_L_law_514 ?_
  refine X_ald (j := 6 * j + 1) C d_L_law_515 (nI_plus 1 (6 * j)) (by omega) hL ?_
  refine X_call (as := [.int (xs (6 * j + 1))]) (rest := [.int (opMeasure S (xs (6 * j + 1))).1]) (o := 41) C d_L_law_516 k_L_65 rfl (c_Mmeasure m1 ok (xs (6 * j + 1))) rfl rfl rfl (by decide) rfl (Nat.le_of_ble_eq_true rfl) (fun v2 h2 q2 => ?_)
  obtain ⟨e2, m2, f2⟩ := q2
  subst e2
  have c2 := c1.mv f2
  show X p e s m below meth c b E 519 _ [.int (opMeasure S (xs (6 * j + 1))).1, .int (opMeasure S (xs (6 * j + 1))).1] h2
  refine X_icmp_same (tgt := 833) C d_L_law_519 (by decide) ?_
  exact kk h2 _ c2 m2 ok
theorem lc_district {p : Program} {e : Env} {s : State} {m : MethodId} {below : List Frame} {meth : Method} {c : Code} {b L : Nat} {xs : Nat → Int32} {E : Wd} {j : Nat} {h : Hp} {S : ST} (C : lA p s m meth c b L xs E) (hL : L ≤ 3072) (hj : 6 * j + 6 ≤ L) (hc : ClW h S) (hm : MoW h S) (ok : okST S) (kk : ∀ h2 S2, ClW h2 S2 → MoW h2 S2 → okST S2 → X p e s m below meth c b E 833 [some (.ref 64), some (.ref 0), some (.ref 41), some (.int (nI (6 * j)))] [] h2) : X p e s m below meth c b E 524 [some (.ref 64), some (.ref 0), some (.ref 41), some (.int (nI (6 * j)))] [] h := by
  refine X_aload_n C d_L_law_524 rfl ?_
  refine X_aload_n C d_L_law_525 rfl ?_
  refine X_iload_n C d_L_law_526 rfl ?_
  refine X_iconst (v := 1) C d_L_law_527 (by decide) ?_
  refine X_iadd C d_L_law_528 ?_
  refine X_ald (j := 6 * j + 1) C d_L_law_529 (nI_plus 1 (6 * j)) (by omega) hL ?_
  refine X_aload_n C d_L_law_530 rfl ?_
  refine X_iload_n C d_L_law_531 rfl ?_
  refine X_iconst (v := 2) C d_L_law_532 (by decide) ?_
  refine X_iadd C d_L_law_533 ?_
  refine X_ald (j := 6 * j + 2) C d_L_law_534 (nI_plus 2 (6 * j)) (by omega) hL ?_
  refine X_call (as := [.int (xs (6 * j + 1)), .int (xs (6 * j + 2))]) (rest := []) (o := 0) C d_L_law_535 k_L_66 rfl (c_Ddistrict hc ok (xs (6 * j + 1)) (xs (6 * j + 2))) rfl rfl rfl (by decide) rfl (by decide) (fun v1 h1 q1 => ?_)
  obtain ⟨e1, c1, f1⟩ := q1
  subst e1
  have m1 := hm.mv f1
  show X p e s m below meth c b E 538 _ [.int (opDistrict S (xs (6 * j + 1)) (xs (6 * j + 2))).1] h1
  refine X_aload_n C d_L_law_538 rfl ?_
  refine X_aload_n C d_L_law_539 rfl ?_
  refine X_iload_n C d_L_law_540 rfl ?_
  refine X_iconst (v := 1) C d_L_law_541 (by decide) ?_
  refine X_iadd C d_L_law_542 ?_
  refine X_ald (j := 6 * j + 1) C d_L_law_543 (nI_plus 1 (6 * j)) (by omega) hL ?_
  refine X_aload_n C d_L_law_544 rfl ?_
  refine X_iload_n C d_L_law_545 rfl ?_
  refine X_iconst (v := 2) C d_L_law_546 (by decide) ?_
  refine X_iadd C d_L_law_547 ?_
  refine X_ald (j := 6 * j + 2) C d_L_law_548 (nI_plus 2 (6 * j)) (by omega) hL ?_
  refine X_call (as := [.int (xs (6 * j + 1)), .int (xs (6 * j + 2))]) (rest := [.int (opDistrict S (xs (6 * j + 1)) (xs (6 * j + 2))).1]) (o := 41) C d_L_law_549 k_L_69 rfl (c_Mdistrict m1 ok (xs (6 * j + 1)) (xs (6 * j + 2))) rfl rfl rfl (by decide) rfl (Nat.le_of_ble_eq_true rfl) (fun v2 h2 q2 => ?_)
  obtain ⟨e2, m2, f2⟩ := q2
  subst e2
  have c2 := c1.mv f2
  show X p e s m below meth c b E 552 _ [.int (opDistrict S (xs (6 * j + 1)) (xs (6 * j + 2))).1, .int (opDistrict S (xs (6 * j + 1)) (xs (6 * j + 2))).1] h2
  refine X_icmp_same (tgt := 833) C d_L_law_552 (by decide) ?_
  exact kk h2 _ c2 m2 ok
theorem lc_land {p : Program} {e : Env} {s : State} {m : MethodId} {below : List Frame} {meth : Method} {c : Code} {b L : Nat} {xs : Nat → Int32} {E : Wd} {j : Nat} {h : Hp} {S : ST} (C : lA p s m meth c b L xs E) (hL : L ≤ 3072) (hj : 6 * j + 6 ≤ L) (hc : ClW h S) (hm : MoW h S) (ok : okST S) (kk : ∀ h2 S2, ClW h2 S2 → MoW h2 S2 → okST S2 → X p e s m below meth c b E 833 [some (.ref 64), some (.ref 0), some (.ref 41), some (.int (nI (6 * j)))] [] h2) : X p e s m below meth c b E 557 [some (.ref 64), some (.ref 0), some (.ref 41), some (.int (nI (6 * j)))] [] h := by
  refine X_aload_n C d_L_law_557 rfl ?_
  refine X_aload_n C d_L_law_558 rfl ?_
  refine X_iload_n C d_L_law_559 rfl ?_
  refine X_iconst (v := 1) C d_L_law_560 (by decide) ?_
  refine X_iadd C d_L_law_561 ?_
  refine X_ald (j := 6 * j + 1) C d_L_law_562 (nI_plus 1 (6 * j)) (by omega) hL ?_
  refine X_call (as := [.int (xs (6 * j + 1))]) (rest := []) (o := 0) C d_L_law_563 k_L_70 rfl (c_Dland hc ok (xs (6 * j + 1))) rfl rfl rfl (by decide) rfl (by decide) (fun v1 h1 q1 => ?_)
  obtain ⟨e1, c1, f1⟩ := q1
  subst e1
  have m1 := hm.mv f1
  show X p e s m below meth c b E 566 _ [.int (opLand S (xs (6 * j + 1))).1] h1
  refine X_aload_n C d_L_law_566 rfl ?_
  refine X_aload_n C d_L_law_567 rfl ?_
  refine X_iload_n C d_L_law_568 rfl ?_
  refine X_iconst (v := 1) C d_L_law_569 (by decide) ?_
  refine X_iadd C d_L_law_570 ?_
  refine X_ald (j := 6 * j + 1) C d_L_law_571 (nI_plus 1 (6 * j)) (by omega) hL ?_
  refine X_call (as := [.int (xs (6 * j + 1))]) (rest := [.int (opLand S (xs (6 * j + 1))).1]) (o := 41) C d_L_law_572 k_L_73 rfl (c_Mland m1 ok (xs (6 * j + 1))) rfl rfl rfl (by decide) rfl (Nat.le_of_ble_eq_true rfl) (fun v2 h2 q2 => ?_)
  obtain ⟨e2, m2, f2⟩ := q2
  subst e2
  have c2 := c1.mv f2
  show X p e s m below meth c b E 575 _ [.int (opLand S (xs (6 * j + 1))).1, .int (opLand S (xs (6 * j + 1))).1] h2
  refine X_icmp_same (tgt := 833) C d_L_law_575 (by decide) ?_
  exact kk h2 _ c2 m2 ok
theorem lc_count {p : Program} {e : Env} {s : State} {m : MethodId} {below : List Frame} {meth : Method} {c : Code} {b L : Nat} {xs : Nat → Int32} {E : Wd} {j : Nat} {h : Hp} {S : ST} (C : lA p s m meth c b L xs E) (hL : L ≤ 3072) (hj : 6 * j + 6 ≤ L) (hc : ClW h S) (hm : MoW h S) (ok : okST S) (kk : ∀ h2 S2, ClW h2 S2 → MoW h2 S2 → okST S2 → X p e s m below meth c b E 833 [some (.ref 64), some (.ref 0), some (.ref 41), some (.int (nI (6 * j)))] [] h2) : X p e s m below meth c b E 580 [some (.ref 64), some (.ref 0), some (.ref 41), some (.int (nI (6 * j)))] [] h := by
  refine X_aload_n C d_L_law_580 rfl ?_
  refine X_call (as := []) (rest := []) (o := 0) C d_L_law_581 k_L_74 rfl (c_Dcount hc ok ) rfl rfl rfl (by decide) rfl (by decide) (fun v1 h1 q1 => ?_)
  obtain ⟨e1, c1, f1⟩ := q1
  subst e1
  have m1 := hm.mv f1
  show X p e s m below meth c b E 584 _ [.int (opCount S ).1] h1
  refine X_aload_n C d_L_law_584 rfl ?_
  refine X_call (as := []) (rest := [.int (opCount S ).1]) (o := 41) C d_L_law_585 k_L_77 rfl (c_Mcount m1 ok ) rfl rfl rfl (by decide) rfl (Nat.le_of_ble_eq_true rfl) (fun v2 h2 q2 => ?_)
  obtain ⟨e2, m2, f2⟩ := q2
  subst e2
  have c2 := c1.mv f2
  show X p e s m below meth c b E 588 _ [.int (opCount S ).1, .int (opCount S ).1] h2
  refine X_icmp_same (tgt := 833) C d_L_law_588 (by decide) ?_
  exact kk h2 _ c2 m2 ok
theorem lc_kth {p : Program} {e : Env} {s : State} {m : MethodId} {below : List Frame} {meth : Method} {c : Code} {b L : Nat} {xs : Nat → Int32} {E : Wd} {j : Nat} {h : Hp} {S : ST} (C : lA p s m meth c b L xs E) (hL : L ≤ 3072) (hj : 6 * j + 6 ≤ L) (hc : ClW h S) (hm : MoW h S) (ok : okST S) (kk : ∀ h2 S2, ClW h2 S2 → MoW h2 S2 → okST S2 → X p e s m below meth c b E 833 [some (.ref 64), some (.ref 0), some (.ref 41), some (.int (nI (6 * j)))] [] h2) : X p e s m below meth c b E 593 [some (.ref 64), some (.ref 0), some (.ref 41), some (.int (nI (6 * j)))] [] h := by
  refine X_aload_n C d_L_law_593 rfl ?_
  refine X_aload_n C d_L_law_594 rfl ?_
  refine X_iload_n C d_L_law_595 rfl ?_
  refine X_iconst (v := 1) C d_L_law_596 (by decide) ?_
  refine X_iadd C d_L_law_597 ?_
  refine X_ald (j := 6 * j + 1) C d_L_law_598 (nI_plus 1 (6 * j)) (by omega) hL ?_
  refine X_call (as := [.int (xs (6 * j + 1))]) (rest := []) (o := 0) C d_L_law_599 k_L_78 rfl (c_Dkth hc ok (xs (6 * j + 1))) rfl rfl rfl (by decide) rfl (by decide) (fun v1 h1 q1 => ?_)
  obtain ⟨e1, c1, f1⟩ := q1
  subst e1
  have m1 := hm.mv f1
  show X p e s m below meth c b E 602 _ [.int (opKth S (xs (6 * j + 1))).1] h1
  refine X_aload_n C d_L_law_602 rfl ?_
  refine X_aload_n C d_L_law_603 rfl ?_
  refine X_iload_n C d_L_law_604 rfl ?_
  refine X_iconst (v := 1) C d_L_law_605 (by decide) ?_
  refine X_iadd C d_L_law_606 ?_
  refine X_ald (j := 6 * j + 1) C d_L_law_607 (nI_plus 1 (6 * j)) (by omega) hL ?_
  refine X_call (as := [.int (xs (6 * j + 1))]) (rest := [.int (opKth S (xs (6 * j + 1))).1]) (o := 41) C d_L_law_608 k_L_81 rfl (c_Mkth m1 ok (xs (6 * j + 1))) rfl rfl rfl (by decide) rfl (Nat.le_of_ble_eq_true rfl) (fun v2 h2 q2 => ?_)
  obtain ⟨e2, m2, f2⟩ := q2
  subst e2
  have c2 := c1.mv f2
  show X p e s m below meth c b E 611 _ [.int (opKth S (xs (6 * j + 1))).1, .int (opKth S (xs (6 * j + 1))).1] h2
  refine X_icmp_same (tgt := 833) C d_L_law_611 (by decide) ?_
  exact kk h2 _ c2 m2 (k_kth ok (xs (6 * j + 1)))
theorem lc_which {p : Program} {e : Env} {s : State} {m : MethodId} {below : List Frame} {meth : Method} {c : Code} {b L : Nat} {xs : Nat → Int32} {E : Wd} {j : Nat} {h : Hp} {S : ST} (C : lA p s m meth c b L xs E) (hL : L ≤ 3072) (hj : 6 * j + 6 ≤ L) (hc : ClW h S) (hm : MoW h S) (ok : okST S) (kk : ∀ h2 S2, ClW h2 S2 → MoW h2 S2 → okST S2 → X p e s m below meth c b E 833 [some (.ref 64), some (.ref 0), some (.ref 41), some (.int (nI (6 * j)))] [] h2) : X p e s m below meth c b E 616 [some (.ref 64), some (.ref 0), some (.ref 41), some (.int (nI (6 * j)))] [] h := by
  refine X_aload_n C d_L_law_616 rfl ?_
  refine X_call (as := []) (rest := []) (o := 0) C d_L_law_617 k_L_82 rfl (c_Dwhich hc ok ) rfl rfl rfl (by decide) rfl (by decide) (fun v1 h1 q1 => ?_)
  obtain ⟨e1, c1, f1⟩ := q1
  subst e1
  have m1 := hm.mv f1
  show X p e s m below meth c b E 620 _ [.int (opWhich S ).1] h1
  refine X_aload_n C d_L_law_620 rfl ?_
  refine X_call (as := []) (rest := [.int (opWhich S ).1]) (o := 41) C d_L_law_621 k_L_85 rfl (c_Mwhich m1 ok ) rfl rfl rfl (by decide) rfl (Nat.le_of_ble_eq_true rfl) (fun v2 h2 q2 => ?_)
  obtain ⟨e2, m2, f2⟩ := q2
  subst e2
  have c2 := c1.mv f2
  show X p e s m below meth c b E 624 _ [.int (opWhich S ).1, .int (opWhich S ).1] h2
  refine X_icmp_same (tgt := 833) C d_L_law_624 (by decide) ?_
  exact kk h2 _ c2 m2 ok
theorem lc_same {p : Program} {e : Env} {s : State} {m : MethodId} {below : List Frame} {meth : Method} {c : Code} {b L : Nat} {xs : Nat → Int32} {E : Wd} {j : Nat} {h : Hp} {S : ST} (C : lA p s m meth c b L xs E) (hL : L ≤ 3072) (hj : 6 * j + 6 ≤ L) (hc : ClW h S) (hm : MoW h S) (ok : okST S) (kk : ∀ h2 S2, ClW h2 S2 → MoW h2 S2 → okST S2 → X p e s m below meth c b E 833 [some (.ref 64), some (.ref 0), some (.ref 41), some (.int (nI (6 * j)))] [] h2) : X p e s m below meth c b E 629 [some (.ref 64), some (.ref 0), some (.ref 41), some (.int (nI (6 * j)))] [] h := by
  refine X_aload_n C d_L_law_629 rfl ?_
  refine X_aload_n C d_L_law_630 rfl ?_
  refine X_iload_n C d_L_law_631 rfl ?_
  refine X_iconst (v := 1) C d_L_law_632 (by decide) ?_
  refine X_iadd C d_L_law_633 ?_
  refine X_ald (j := 6 * j + 1) C d_L_law_634 (nI_plus 1 (6 * j)) (by omega) hL ?_
  refine X_call (as := [.int (xs (6 * j + 1))]) (rest := []) (o := 0) C d_L_law_635 k_L_86 rfl (c_Dsame hc ok (xs (6 * j + 1))) rfl rfl rfl (by decide) rfl (by decide) (fun v1 h1 q1 => ?_)
  obtain ⟨e1, c1, f1⟩ := q1
  subst e1
  have m1 := hm.mv f1
  show X p e s m below meth c b E 638 _ [.int (opSame S (xs (6 * j + 1))).1] h1
  refine X_aload_n C d_L_law_638 rfl ?_
  refine X_aload_n C d_L_law_639 rfl ?_
  refine X_iload_n C d_L_law_640 rfl ?_
  refine X_iconst (v := 1) C d_L_law_641 (by decide) ?_
  refine X_iadd C d_L_law_642 ?_
  refine X_ald (j := 6 * j + 1) C d_L_law_643 (nI_plus 1 (6 * j)) (by omega) hL ?_
  refine X_call (as := [.int (xs (6 * j + 1))]) (rest := [.int (opSame S (xs (6 * j + 1))).1]) (o := 41) C d_L_law_644 k_L_89 rfl (c_Msame m1 ok (xs (6 * j + 1))) rfl rfl rfl (by decide) rfl (Nat.le_of_ble_eq_true rfl) (fun v2 h2 q2 => ?_)
  obtain ⟨e2, m2, f2⟩ := q2
  subst e2
  have c2 := c1.mv f2
  show X p e s m below meth c b E 647 _ [.int (opSame S (xs (6 * j + 1))).1, .int (opSame S (xs (6 * j + 1))).1] h2
  refine X_icmp_same (tgt := 833) C d_L_law_647 (by decide) ?_
  exact kk h2 _ c2 m2 ok
theorem lc_least {p : Program} {e : Env} {s : State} {m : MethodId} {below : List Frame} {meth : Method} {c : Code} {b L : Nat} {xs : Nat → Int32} {E : Wd} {j : Nat} {h : Hp} {S : ST} (C : lA p s m meth c b L xs E) (hL : L ≤ 3072) (hj : 6 * j + 6 ≤ L) (hc : ClW h S) (hm : MoW h S) (ok : okST S) (kk : ∀ h2 S2, ClW h2 S2 → MoW h2 S2 → okST S2 → X p e s m below meth c b E 833 [some (.ref 64), some (.ref 0), some (.ref 41), some (.int (nI (6 * j)))] [] h2) : X p e s m below meth c b E 652 [some (.ref 64), some (.ref 0), some (.ref 41), some (.int (nI (6 * j)))] [] h := by
  refine X_aload_n C d_L_law_652 rfl ?_
  refine X_aload_n C d_L_law_653 rfl ?_
  refine X_iload_n C d_L_law_654 rfl ?_
  refine X_iconst (v := 1) C d_L_law_655 (by decide) ?_
  refine X_iadd C d_L_law_656 ?_
  refine X_ald (j := 6 * j + 1) C d_L_law_657 (nI_plus 1 (6 * j)) (by omega) hL ?_
  refine X_call (as := [.int (xs (6 * j + 1))]) (rest := []) (o := 0) C d_L_law_658 k_L_90 rfl (c_Dleast hc ok (xs (6 * j + 1))) rfl rfl rfl (by decide) rfl (by decide) (fun v1 h1 q1 => ?_)
  obtain ⟨e1, c1, f1⟩ := q1
  subst e1
  have m1 := hm.mv f1
  show X p e s m below meth c b E 661 _ [.int (opLeast S (xs (6 * j + 1))).1] h1
  refine X_aload_n C d_L_law_661 rfl ?_
  refine X_aload_n C d_L_law_662 rfl ?_
  refine X_iload_n C d_L_law_663 rfl ?_
  refine X_iconst (v := 1) C d_L_law_664 (by decide) ?_
  refine X_iadd C d_L_law_665 ?_
  refine X_ald (j := 6 * j + 1) C d_L_law_666 (nI_plus 1 (6 * j)) (by omega) hL ?_
  refine X_call (as := [.int (xs (6 * j + 1))]) (rest := [.int (opLeast S (xs (6 * j + 1))).1]) (o := 41) C d_L_law_667 k_L_93 rfl (c_Mleast m1 ok (xs (6 * j + 1))) rfl rfl rfl (by decide) rfl (Nat.le_of_ble_eq_true rfl) (fun v2 h2 q2 => ?_)
  obtain ⟨e2, m2, f2⟩ := q2
  subst e2
  have c2 := c1.mv f2
  show X p e s m below meth c b E 670 _ [.int (opLeast S (xs (6 * j + 1))).1, .int (opLeast S (xs (6 * j + 1))).1] h2
  refine X_icmp_same (tgt := 833) C d_L_law_670 (by decide) ?_
  exact kk h2 _ c2 m2 ok
theorem lc_among {p : Program} {e : Env} {s : State} {m : MethodId} {below : List Frame} {meth : Method} {c : Code} {b L : Nat} {xs : Nat → Int32} {E : Wd} {j : Nat} {h : Hp} {S : ST} (C : lA p s m meth c b L xs E) (hL : L ≤ 3072) (hj : 6 * j + 6 ≤ L) (hc : ClW h S) (hm : MoW h S) (ok : okST S) (kk : ∀ h2 S2, ClW h2 S2 → MoW h2 S2 → okST S2 → X p e s m below meth c b E 833 [some (.ref 64), some (.ref 0), some (.ref 41), some (.int (nI (6 * j)))] [] h2) : X p e s m below meth c b E 675 [some (.ref 64), some (.ref 0), some (.ref 41), some (.int (nI (6 * j)))] [] h := by
  refine X_aload_n C d_L_law_675 rfl ?_
  refine X_aload_n C d_L_law_676 rfl ?_
  refine X_iload_n C d_L_law_677 rfl ?_
  refine X_iconst (v := 1) C d_L_law_678 (by decide) ?_
  refine X_iadd C d_L_law_679 ?_
  refine X_ald (j := 6 * j + 1) C d_L_law_680 (nI_plus 1 (6 * j)) (by omega) hL ?_
  refine X_aload_n C d_L_law_681 rfl ?_
  refine X_iload_n C d_L_law_682 rfl ?_
  refine X_iconst (v := 2) C d_L_law_683 (by decide) ?_
  refine X_iadd C d_L_law_684 ?_
  refine X_ald (j := 6 * j + 2) C d_L_law_685 (nI_plus 2 (6 * j)) (by omega) hL ?_
  refine X_call (as := [.int (xs (6 * j + 1)), .int (xs (6 * j + 2))]) (rest := []) (o := 0) C d_L_law_686 k_L_94 rfl (c_Damong hc ok (xs (6 * j + 1)) (xs (6 * j + 2))) rfl rfl rfl (by decide) rfl (by decide) (fun v1 h1 q1 => ?_)
  obtain ⟨e1, c1, f1⟩ := q1
  subst e1
  have m1 := hm.mv f1
  show X p e s m below meth c b E 689 _ [.int (opAmong S (xs (6 * j + 1)) (xs (6 * j + 2))).1] h1
  refine X_aload_n C d_L_law_689 rfl ?_
  refine X_aload_n C d_L_law_690 rfl ?_
  refine X_iload_n C d_L_law_691 rfl ?_
  refine X_iconst (v := 1) C d_L_law_692 (by decide) ?_
  refine X_iadd C d_L_law_693 ?_
  refine X_ald (j := 6 * j + 1) C d_L_law_694 (nI_plus 1 (6 * j)) (by omega) hL ?_
  refine X_aload_n C d_L_law_695 rfl ?_
  refine X_iload_n C d_L_law_696 rfl ?_
  refine X_iconst (v := 2) C d_L_law_697 (by decide) ?_
  refine X_iadd C d_L_law_698 ?_
  refine X_ald (j := 6 * j + 2) C d_L_law_699 (nI_plus 2 (6 * j)) (by omega) hL ?_
  refine X_call (as := [.int (xs (6 * j + 1)), .int (xs (6 * j + 2))]) (rest := [.int (opAmong S (xs (6 * j + 1)) (xs (6 * j + 2))).1]) (o := 41) C d_L_law_700 k_L_97 rfl (c_Mamong m1 ok (xs (6 * j + 1)) (xs (6 * j + 2))) rfl rfl rfl (by decide) rfl (Nat.le_of_ble_eq_true rfl) (fun v2 h2 q2 => ?_)
  obtain ⟨e2, m2, f2⟩ := q2
  subst e2
  have c2 := c1.mv f2
  show X p e s m below meth c b E 703 _ [.int (opAmong S (xs (6 * j + 1)) (xs (6 * j + 2))).1, .int (opAmong S (xs (6 * j + 1)) (xs (6 * j + 2))).1] h2
  refine X_icmp_same (tgt := 833) C d_L_law_703 (by decide) ?_
  exact kk h2 _ c2 m2 ok
theorem lc_step {p : Program} {e : Env} {s : State} {m : MethodId} {below : List Frame} {meth : Method} {c : Code} {b L : Nat} {xs : Nat → Int32} {E : Wd} {j : Nat} {h : Hp} {S : ST} (C : lA p s m meth c b L xs E) (hL : L ≤ 3072) (hj : 6 * j + 6 ≤ L) (hc : ClW h S) (hm : MoW h S) (ok : okST S) (kk : ∀ h2 S2, ClW h2 S2 → MoW h2 S2 → okST S2 → X p e s m below meth c b E 833 [some (.ref 64), some (.ref 0), some (.ref 41), some (.int (nI (6 * j)))] [] h2) : X p e s m below meth c b E 708 [some (.ref 64), some (.ref 0), some (.ref 41), some (.int (nI (6 * j)))] [] h := by
  refine X_aload_n C d_L_law_708 rfl ?_
  refine X_aload_n C d_L_law_709 rfl ?_
  refine X_iload_n C d_L_law_710 rfl ?_
  refine X_iconst (v := 1) C d_L_law_711 (by decide) ?_
  refine X_iadd C d_L_law_712 ?_
  refine X_ald (j := 6 * j + 1) C d_L_law_713 (nI_plus 1 (6 * j)) (by omega) hL ?_
  refine X_call (as := [.int (xs (6 * j + 1))]) (rest := []) (o := 0) C d_L_law_714 k_L_98 rfl (c_Dstep hc ok (xs (6 * j + 1))) rfl rfl rfl (by decide) rfl (by decide) (fun v1 h1 q1 => ?_)
  obtain ⟨e1, c1, f1⟩ := q1
  subst e1
  have m1 := hm.mv f1
  show X p e s m below meth c b E 717 _ [.int (opStep S (xs (6 * j + 1))).1] h1
  refine X_aload_n C d_L_law_717 rfl ?_
  refine X_aload_n C d_L_law_718 rfl ?_
  refine X_iload_n C d_L_law_719 rfl ?_
  refine X_iconst (v := 1) C d_L_law_720 (by decide) ?_
  refine X_iadd C d_L_law_721 ?_
  refine X_ald (j := 6 * j + 1) C d_L_law_722 (nI_plus 1 (6 * j)) (by omega) hL ?_
  refine X_call (as := [.int (xs (6 * j + 1))]) (rest := [.int (opStep S (xs (6 * j + 1))).1]) (o := 41) C d_L_law_723 k_L_101 rfl (c_Mstep m1 ok (xs (6 * j + 1))) rfl rfl rfl (by decide) rfl (Nat.le_of_ble_eq_true rfl) (fun v2 h2 q2 => ?_)
  obtain ⟨e2, m2, f2⟩ := q2
  subst e2
  have c2 := c1.mv f2
  show X p e s m below meth c b E 726 _ [.int (opStep S (xs (6 * j + 1))).1, .int (opStep S (xs (6 * j + 1))).1] h2
  refine X_icmp_same (tgt := 833) C d_L_law_726 (by decide) ?_
  exact kk h2 _ c2 m2 (k_step ok (xs (6 * j + 1)))
theorem lc_walk {p : Program} {e : Env} {s : State} {m : MethodId} {below : List Frame} {meth : Method} {c : Code} {b L : Nat} {xs : Nat → Int32} {E : Wd} {j : Nat} {h : Hp} {S : ST} (C : lA p s m meth c b L xs E) (hL : L ≤ 3072) (hj : 6 * j + 6 ≤ L) (hc : ClW h S) (hm : MoW h S) (ok : okST S) (kk : ∀ h2 S2, ClW h2 S2 → MoW h2 S2 → okST S2 → X p e s m below meth c b E 833 [some (.ref 64), some (.ref 0), some (.ref 41), some (.int (nI (6 * j)))] [] h2) : X p e s m below meth c b E 731 [some (.ref 64), some (.ref 0), some (.ref 41), some (.int (nI (6 * j)))] [] h := by
  refine X_aload_n C d_L_law_731 rfl ?_
  refine X_aload_n C d_L_law_732 rfl ?_
  refine X_iload_n C d_L_law_733 rfl ?_
  refine X_iconst (v := 1) C d_L_law_734 (by decide) ?_
  refine X_iadd C d_L_law_735 ?_
  refine X_ald (j := 6 * j + 1) C d_L_law_736 (nI_plus 1 (6 * j)) (by omega) hL ?_
  refine X_aload_n C d_L_law_737 rfl ?_
  refine X_iload_n C d_L_law_738 rfl ?_
  refine X_iconst (v := 2) C d_L_law_739 (by decide) ?_
  refine X_iadd C d_L_law_740 ?_
  refine X_ald (j := 6 * j + 2) C d_L_law_741 (nI_plus 2 (6 * j)) (by omega) hL ?_
  refine X_aload_n C d_L_law_742 rfl ?_
  refine X_iload_n C d_L_law_743 rfl ?_
  refine X_iconst (v := 3) C d_L_law_744 (by decide) ?_
  refine X_iadd C d_L_law_745 ?_
  refine X_ald (j := 6 * j + 3) C d_L_law_746 (nI_plus 3 (6 * j)) (by omega) hL ?_
  refine X_call (as := [.int (xs (6 * j + 1)), .int (xs (6 * j + 2)), .int (xs (6 * j + 3))]) (rest := []) (o := 0) C d_L_law_747 k_L_102 rfl (c_Dwalk hc ok (xs (6 * j + 1)) (xs (6 * j + 2)) (xs (6 * j + 3))) rfl rfl rfl (by decide) rfl (by decide) (fun v1 h1 q1 => ?_)
  obtain ⟨e1, c1, f1⟩ := q1
  subst e1
  have m1 := hm.mv f1
  show X p e s m below meth c b E 750 _ [.int (opWalk S (xs (6 * j + 1)) (xs (6 * j + 2)) (xs (6 * j + 3))).1] h1
  refine X_aload_n C d_L_law_750 rfl ?_
  refine X_aload_n C d_L_law_751 rfl ?_
  refine X_iload_n C d_L_law_752 rfl ?_
  refine X_iconst (v := 1) C d_L_law_753 (by decide) ?_
  refine X_iadd C d_L_law_754 ?_
  refine X_ald (j := 6 * j + 1) C d_L_law_755 (nI_plus 1 (6 * j)) (by omega) hL ?_
  refine X_aload_n C d_L_law_756 rfl ?_
  refine X_iload_n C d_L_law_757 rfl ?_
  refine X_iconst (v := 2) C d_L_law_758 (by decide) ?_
  refine X_iadd C d_L_law_759 ?_
  refine X_ald (j := 6 * j + 2) C d_L_law_760 (nI_plus 2 (6 * j)) (by omega) hL ?_
  refine X_aload_n C d_L_law_761 rfl ?_
  refine X_iload_n C d_L_law_762 rfl ?_
  refine X_iconst (v := 3) C d_L_law_763 (by decide) ?_
  refine X_iadd C d_L_law_764 ?_
  refine X_ald (j := 6 * j + 3) C d_L_law_765 (nI_plus 3 (6 * j)) (by omega) hL ?_
  refine X_call (as := [.int (xs (6 * j + 1)), .int (xs (6 * j + 2)), .int (xs (6 * j + 3))]) (rest := [.int (opWalk S (xs (6 * j + 1)) (xs (6 * j + 2)) (xs (6 * j + 3))).1]) (o := 41) C d_L_law_766 k_L_105 rfl (c_Mwalk m1 ok (xs (6 * j + 1)) (xs (6 * j + 2)) (xs (6 * j + 3))) rfl rfl rfl (by decide) rfl (Nat.le_of_ble_eq_true rfl) (fun v2 h2 q2 => ?_)
  obtain ⟨e2, m2, f2⟩ := q2
  subst e2
  have c2 := c1.mv f2
  show X p e s m below meth c b E 769 _ [.int (opWalk S (xs (6 * j + 1)) (xs (6 * j + 2)) (xs (6 * j + 3))).1, .int (opWalk S (xs (6 * j + 1)) (xs (6 * j + 2)) (xs (6 * j + 3))).1] h2
  refine X_icmp_same (tgt := 833) C d_L_law_769 (by decide) ?_
  exact kk h2 _ c2 m2 (k_walk ok (xs (6 * j + 1)) (xs (6 * j + 2)) (xs (6 * j + 3)))
theorem lc_seen {p : Program} {e : Env} {s : State} {m : MethodId} {below : List Frame} {meth : Method} {c : Code} {b L : Nat} {xs : Nat → Int32} {E : Wd} {j : Nat} {h : Hp} {S : ST} (C : lA p s m meth c b L xs E) (hL : L ≤ 3072) (hj : 6 * j + 6 ≤ L) (hc : ClW h S) (hm : MoW h S) (ok : okST S) (kk : ∀ h2 S2, ClW h2 S2 → MoW h2 S2 → okST S2 → X p e s m below meth c b E 833 [some (.ref 64), some (.ref 0), some (.ref 41), some (.int (nI (6 * j)))] [] h2) : X p e s m below meth c b E 774 [some (.ref 64), some (.ref 0), some (.ref 41), some (.int (nI (6 * j)))] [] h := by
  refine X_aload_n C d_L_law_774 rfl ?_
  refine X_aload_n C d_L_law_775 rfl ?_
  refine X_iload_n C d_L_law_776 rfl ?_
  refine X_iconst (v := 1) C d_L_law_777 (by decide) ?_
  refine X_iadd C d_L_law_778 ?_
  refine X_ald (j := 6 * j + 1) C d_L_law_779 (nI_plus 1 (6 * j)) (by omega) hL ?_
  refine X_call (as := [.int (xs (6 * j + 1))]) (rest := []) (o := 0) C d_L_law_780 k_L_106 rfl (c_Dseen hc ok (xs (6 * j + 1))) rfl rfl rfl (by decide) rfl (by decide) (fun v1 h1 q1 => ?_)
  obtain ⟨e1, c1, f1⟩ := q1
  subst e1
  have m1 := hm.mv f1
  show X p e s m below meth c b E 783 _ [.int (opSeen S (xs (6 * j + 1))).1] h1
  refine X_aload_n C d_L_law_783 rfl ?_
  refine X_aload_n C d_L_law_784 rfl ?_
  refine X_iload_n C d_L_law_785 rfl ?_
  refine X_iconst (v := 1) C d_L_law_786 (by decide) ?_
  refine X_iadd C d_L_law_787 ?_
  refine X_ald (j := 6 * j + 1) C d_L_law_788 (nI_plus 1 (6 * j)) (by omega) hL ?_
  refine X_call (as := [.int (xs (6 * j + 1))]) (rest := [.int (opSeen S (xs (6 * j + 1))).1]) (o := 41) C d_L_law_789 k_L_109 rfl (c_Mseen m1 ok (xs (6 * j + 1))) rfl rfl rfl (by decide) rfl (Nat.le_of_ble_eq_true rfl) (fun v2 h2 q2 => ?_)
  obtain ⟨e2, m2, f2⟩ := q2
  subst e2
  have c2 := c1.mv f2
  show X p e s m below meth c b E 792 _ [.int (opSeen S (xs (6 * j + 1))).1, .int (opSeen S (xs (6 * j + 1))).1] h2
  refine X_icmp_same (tgt := 833) C d_L_law_792 (by decide) ?_
  exact kk h2 _ c2 m2 ok
theorem lc_better {p : Program} {e : Env} {s : State} {m : MethodId} {below : List Frame} {meth : Method} {c : Code} {b L : Nat} {xs : Nat → Int32} {E : Wd} {j : Nat} {h : Hp} {S : ST} (C : lA p s m meth c b L xs E) (hL : L ≤ 3072) (hj : 6 * j + 6 ≤ L) (hc : ClW h S) (hm : MoW h S) (ok : okST S) (kk : ∀ h2 S2, ClW h2 S2 → MoW h2 S2 → okST S2 → X p e s m below meth c b E 833 [some (.ref 64), some (.ref 0), some (.ref 41), some (.int (nI (6 * j)))] [] h2) : X p e s m below meth c b E 797 [some (.ref 64), some (.ref 0), some (.ref 41), some (.int (nI (6 * j)))] [] h := by
  refine X_aload_n C d_L_law_797 rfl ?_
  refine X_call (as := []) (rest := []) (o := 0) C d_L_law_798 k_L_110 rfl (c_Dbetter hc ok ) rfl rfl rfl (by decide) rfl (by decide) (fun v1 h1 q1 => ?_)
  obtain ⟨e1, c1, f1⟩ := q1
  subst e1
  have m1 := hm.mv f1
  show X p e s m below meth c b E 801 _ [.int (opBetter S ).1] h1
  refine X_aload_n C d_L_law_801 rfl ?_
  refine X_call (as := []) (rest := [.int (opBetter S ).1]) (o := 41) C d_L_law_802 k_L_113 rfl (c_Mbetter m1 ok ) rfl rfl rfl (by decide) rfl (Nat.le_of_ble_eq_true rfl) (fun v2 h2 q2 => ?_)
  obtain ⟨e2, m2, f2⟩ := q2
  subst e2
  have c2 := c1.mv f2
  show X p e s m below meth c b E 805 _ [.int (opBetter S ).1, .int (opBetter S ).1] h2
  refine X_icmp_same (tgt := 833) C d_L_law_805 (by decide) ?_
  exact kk h2 _ c2 m2 (k_better ok )
theorem lc_mend {p : Program} {e : Env} {s : State} {m : MethodId} {below : List Frame} {meth : Method} {c : Code} {b L : Nat} {xs : Nat → Int32} {E : Wd} {j : Nat} {h : Hp} {S : ST} (C : lA p s m meth c b L xs E) (hL : L ≤ 3072) (hj : 6 * j + 6 ≤ L) (hc : ClW h S) (hm : MoW h S) (ok : okST S) (kk : ∀ h2 S2, ClW h2 S2 → MoW h2 S2 → okST S2 → X p e s m below meth c b E 833 [some (.ref 64), some (.ref 0), some (.ref 41), some (.int (nI (6 * j)))] [] h2) : X p e s m below meth c b E 810 [some (.ref 64), some (.ref 0), some (.ref 41), some (.int (nI (6 * j)))] [] h := by
  refine X_aload_n C d_L_law_810 rfl ?_
  refine X_aload_n C d_L_law_811 rfl ?_
  refine X_iload_n C d_L_law_812 rfl ?_
  refine X_iconst (v := 1) C d_L_law_813 (by decide) ?_
  refine X_iadd C d_L_law_814 ?_
  refine X_ald (j := 6 * j + 1) C d_L_law_815 (nI_plus 1 (6 * j)) (by omega) hL ?_
  refine X_call (as := [.int (xs (6 * j + 1))]) (rest := []) (o := 0) C d_L_law_816 k_L_114 rfl (c_Dmend hc ok (xs (6 * j + 1))) rfl rfl rfl (by decide) rfl (by decide) (fun v1 h1 q1 => ?_)
  obtain ⟨e1, c1, f1⟩ := q1
  subst e1
  have m1 := hm.mv f1
  show X p e s m below meth c b E 819 _ [.int (opMend S (xs (6 * j + 1))).1] h1
  refine X_aload_n C d_L_law_819 rfl ?_
  refine X_aload_n C d_L_law_820 rfl ?_
  refine X_iload_n C d_L_law_821 rfl ?_
  refine X_iconst (v := 1) C d_L_law_822 (by decide) ?_
  refine X_iadd C d_L_law_823 ?_
  refine X_ald (j := 6 * j + 1) C d_L_law_824 (nI_plus 1 (6 * j)) (by omega) hL ?_
  refine X_call (as := [.int (xs (6 * j + 1))]) (rest := [.int (opMend S (xs (6 * j + 1))).1]) (o := 41) C d_L_law_825 k_L_117 rfl (c_Mmend m1 ok (xs (6 * j + 1))) rfl rfl rfl (by decide) rfl (Nat.le_of_ble_eq_true rfl) (fun v2 h2 q2 => ?_)
  obtain ⟨e2, m2, f2⟩ := q2
  subst e2
  have c2 := c1.mv f2
  show X p e s m below meth c b E 828 _ [.int (opMend S (xs (6 * j + 1))).1, .int (opMend S (xs (6 * j + 1))).1] h2
  refine X_icmp_same (tgt := 833) C d_L_law_828 (by decide) ?_
  exact kk h2 _ c2 m2 (k_mend ok (xs (6 * j + 1)))
theorem lc_pick {p : Program} {e : Env} {s : State} {m : MethodId} {below : List Frame} {meth : Method} {c : Code} {b L : Nat} {xs : Nat → Int32} {E : Wd} {j t : Nat} {h : Hp} {S : ST} (C : lA p s m meth c b L xs E) (hL : L ≤ 3072) (hj : 6 * j + 6 ≤ L) (hc : ClW h S) (hm : MoW h S) (ok : okST S) (ht : t < 32) (kk : ∀ h2 S2, ClW h2 S2 → MoW h2 S2 → okST S2 → X p e s m below meth c b E 833 [some (.ref 64), some (.ref 0), some (.ref 41), some (.int (nI (6 * j)))] [] h2) : X p e s m below meth c b E 33 [some (.ref 64), some (.ref 0), some (.ref 41), some (.int (nI (6 * j)))] [.int (nI t)] h := by
  rcases (show t = 0 ∨ t = 1 ∨ t = 2 ∨ t = 3 ∨ t = 4 ∨ t = 5 ∨ t = 6 ∨ t = 7 ∨ t = 8 ∨ t = 9 ∨ t = 10 ∨ t = 11 ∨ t = 12 ∨ t = 13 ∨ t = 14 ∨ t = 15 ∨ t = 16 ∨ t = 17 ∨ t = 18 ∨ t = 19 ∨ t = 20 ∨ t = 21 ∨ t = 22 ∨ t = 23 ∨ t = 24 ∨ 25 ≤ t by omega) with rfl | rfl | rfl | rfl | rfl | rfl | rfl | rfl | rfl | rfl | rfl | rfl | rfl | rfl | rfl | rfl | rfl | rfl | rfl | rfl | rfl | rfl | rfl | rfl | rfl | hb
  · refine X_tableIn (off := 115) (tgt := 148) C d_L_law_33 (by decide) (by decide) (by decide) (by decide) ?_
    exact lc_place C hL hj hc hm ok kk
  · refine X_tableIn (off := 178) (tgt := 211) C d_L_law_33 (by decide) (by decide) (by decide) (by decide) ?_
    exact lc_border C hL hj hc hm ok kk
  · refine X_tableIn (off := 221) (tgt := 254) C d_L_law_33 (by decide) (by decide) (by decide) (by decide) ?_
    exact lc_law C hL hj hc hm ok kk
  · refine X_tableIn (off := 254) (tgt := 287) C d_L_law_33 (by decide) (by decide) (by decide) (by decide) ?_
    exact lc_keep C hL hj hc hm ok kk
  · refine X_tableIn (off := 287) (tgt := 320) C d_L_law_33 (by decide) (by decide) (by decide) (by decide) ?_
    exact lc_cuts C hL hj hc hm ok kk
  · refine X_tableIn (off := 310) (tgt := 343) C d_L_law_33 (by decide) (by decide) (by decide) (by decide) ?_
    exact lc_fix C hL hj hc hm ok kk
  · refine X_tableIn (off := 343) (tgt := 376) C d_L_law_33 (by decide) (by decide) (by decide) (by decide) ?_
    exact lc_people C hL hj hc hm ok kk
  · refine X_tableIn (off := 376) (tgt := 409) C d_L_law_33 (by decide) (by decide) (by decide) (by decide) ?_
    exact lc_put C hL hj hc hm ok kk
  · refine X_tableIn (off := 409) (tgt := 442) C d_L_law_33 (by decide) (by decide) (by decide) (by decide) ?_
    exact lc_at C hL hj hc hm ok kk
  · refine X_tableIn (off := 432) (tgt := 465) C d_L_law_33 (by decide) (by decide) (by decide) (by decide) ?_
    exact lc_lawful C hL hj hc hm ok kk
  · refine X_tableIn (off := 445) (tgt := 478) C d_L_law_33 (by decide) (by decide) (by decide) (by decide) ?_
    exact lc_why C hL hj hc hm ok kk
  · refine X_tableIn (off := 468) (tgt := 501) C d_L_law_33 (by decide) (by decide) (by decide) (by decide) ?_
    exact lc_measure C hL hj hc hm ok kk
  · refine X_tableIn (off := 491) (tgt := 524) C d_L_law_33 (by decide) (by decide) (by decide) (by decide) ?_
    exact lc_district C hL hj hc hm ok kk
  · refine X_tableIn (off := 524) (tgt := 557) C d_L_law_33 (by decide) (by decide) (by decide) (by decide) ?_
    exact lc_land C hL hj hc hm ok kk
  · refine X_tableIn (off := 547) (tgt := 580) C d_L_law_33 (by decide) (by decide) (by decide) (by decide) ?_
    exact lc_count C hL hj hc hm ok kk
  · refine X_tableIn (off := 560) (tgt := 593) C d_L_law_33 (by decide) (by decide) (by decide) (by decide) ?_
    exact lc_kth C hL hj hc hm ok kk
  · refine X_tableIn (off := 583) (tgt := 616) C d_L_law_33 (by decide) (by decide) (by decide) (by decide) ?_
    exact lc_which C hL hj hc hm ok kk
  · refine X_tableIn (off := 596) (tgt := 629) C d_L_law_33 (by decide) (by decide) (by decide) (by decide) ?_
    exact lc_same C hL hj hc hm ok kk
  · refine X_tableIn (off := 619) (tgt := 652) C d_L_law_33 (by decide) (by decide) (by decide) (by decide) ?_
    exact lc_least C hL hj hc hm ok kk
  · refine X_tableIn (off := 642) (tgt := 675) C d_L_law_33 (by decide) (by decide) (by decide) (by decide) ?_
    exact lc_among C hL hj hc hm ok kk
  · refine X_tableIn (off := 675) (tgt := 708) C d_L_law_33 (by decide) (by decide) (by decide) (by decide) ?_
    exact lc_step C hL hj hc hm ok kk
  · refine X_tableIn (off := 698) (tgt := 731) C d_L_law_33 (by decide) (by decide) (by decide) (by decide) ?_
    exact lc_walk C hL hj hc hm ok kk
  · refine X_tableIn (off := 741) (tgt := 774) C d_L_law_33 (by decide) (by decide) (by decide) (by decide) ?_
    exact lc_seen C hL hj hc hm ok kk
  · refine X_tableIn (off := 764) (tgt := 797) C d_L_law_33 (by decide) (by decide) (by decide) (by decide) ?_
    exact lc_better C hL hj hc hm ok kk
  · refine X_tableIn (off := 777) (tgt := 810) C d_L_law_33 (by decide) (by decide) (by decide) (by decide) ?_
    exact lc_mend C hL hj hc hm ok kk
  · refine X_tableOut (tgt := 833) C d_L_law_33 (Or.inr ?_) (by decide) (kk h S hc hm ok)
    rcases (show t = 25 ∨ t = 26 ∨ t = 27 ∨ t = 28 ∨ t = 29 ∨ t = 30 ∨ t = 31 by omega) with rfl | rfl | rfl | rfl | rfl | rfl | rfl <;> decide
