def HB (h : Hp) (f g : Nat → Int32) : Hp := hrow (hrow h 52 f) 57 g
theorem HB_d (h : Hp) (f g : Nat → Int32) : HB h f g 52 = f := by unfold HB; rw [hrow_ne (by omega), hrow_same]
theorem HB_b (h : Hp) (f g : Nat → Int32) : HB h f g 57 = g := by unfold HB; rw [hrow_same]
theorem HB_ne {h : Hp} {f g : Nat → Int32} {q : Nat} (h1 : q ≠ 52) (h2 : q ≠ 57) : HB h f g q = h q := by unfold HB; rw [hrow_ne h2, hrow_ne h1]
theorem HB_ud (h : Hp) (f g : Nat → Int32) (i : Nat) (x : Int32) : hup (HB h f g) 52 i x = HB h (upd f i x) g := by
  rw [hup_row, HB_d]
  unfold HB
  rw [hrow_comm _ (by omega), hrow_twice]
theorem HB_ub (h : Hp) (f g : Nat → Int32) (i : Nat) (x : Int32) : hup (HB h f g) 57 i x = HB h f (upd g i x) := by
  rw [hup_row, HB_b]
  unfold HB
  rw [hrow_twice]
theorem HB_fr (h : Hp) (f g : Nat → Int32) : wFr h (HB h f g) := (wFr.row (Or.inl rfl)).tr (wFr.row (Or.inr (Or.inr rfl)))
theorem HB_self (h : Hp) : HB h (h 52) (h 57) = h := by unfold HB; rw [hrow_self, hrow_self]
theorem dealN_lt {D : LD} {ds : Nat → Nat} {M P : Nat → Bool} {x y c : Nat} (hx : x < c) (hy : y < c) {j : Nat} (hj : ds j < c) : dealN D ds M P x y j < c := by
  unfold dealN
  split
  · split
    · exact hx
    · split
      · exact hy
      · exact hj
  · exact hj
theorem so_deal {E : Wd} {h0 h : Hp} {D : LD} {w : LW} (fr0 : wFr h0 h) (hl : MoLand h D) (ok : okLD D) (hw : MoLaw h w) (okw : okLW w) {ds : Nat → Nat} (hd : MoDs h ds) {M P : Nat → Bool} {x y : Nat} (hx : x < 6) (hy : y < 6) {u1 u2 u6 u7 u8 u10 : Option Value} : V E 5 m_Mo_stepOn (stQ h0 (if brk D w (dealN D ds M P x y) = 0 then (difN (dN D) (dealN D ds M P x y) ds, dealN D ds M P x y, h 41 19) else (false, ds, h 41 19))) 231 [some (.ref 41), u1, u2, some (.int (nI x)), some (.int (nI y)), some (.int (mI M)), u6, u7, u8, some (.int (mI P)), u10, none, none] [] h := by
  have hN := ok.1
  refine V_iconst (v := 0) d_Mo_stepOn_231 (by decide) ?_
  refine V_istore d_Mo_stepOn_232 (by decide) ?_
  dsimp only [List.set]
  have loop : ∀ i, i ≤ dN D → ∀ (f g : Nat → Int32), (∀ j, j < 30 → f j = nI (if j < i then dealN D ds M P x y j else ds j)) → (∀ j, j < i → g j = nI (ds j)) → V E 5 m_Mo_stepOn (stQ h0 (if brk D w (dealN D ds M P x y) = 0 then (difN (dN D) (dealN D ds M P x y) ds, dealN D ds M P x y, h 41 19) else (false, ds, h 41 19))) 234 [some (.ref 41), u1, u2, some (.int (nI x)), some (.int (nI y)), some (.int (mI M)), u6, u7, u8, some (.int (mI P)), some (.int (nI i)), none, none] [] (HB h f g) := by
    refine up_ind (dN D) ?_
    intro i hi ih f g hf hg
    have hl' : MoLand (HB h f g) D := hl.of (HB_fr h f g).keep
    refine V_iload d_Mo_stepOn_234 rfl ?_
    refine V_aload_n d_Mo_stepOn_236 rfl ?_
    refine V_getI d_Mo_stepOn_237 f_Mo_91 rfl (by first | rfl | assumption) (by first | rfl | assumption) ?_
    rw [hl'.1]
    refine V_icmp_ge (tgt := 306) d_Mo_stepOn_240 (by decide) (fun b240 => ?_) (fun b240 => ?_)
    · obtain rfl := ge_eq b240 rfl rfl (by omega) hi
      have h1 := so_end (E := E) (h0 := h0) (h := HB h f g) (D := D) (w := w) (ds := ds) (e := dealN D ds M P x y) (u1 := u1) (u2 := u2) (u3 := some (.int (nI x))) (u4 := some (.int (nI y))) (u5 := some (.int (mI M))) (u6 := u6) (u7 := u7) (u8 := u8) (u9 := some (.int (mI P))) (u10 := some (.int (nI (dN D)))) (fr0.tr (HB_fr h f g)) hl' ok (hw.of (HB_fr h f g).keep) okw (fun j hj => ?_) (fun j hj => ?_) (fun j hj => ?_)
      · rw [HB_ne (by omega) (by omega)] at h1
        exact h1
      · refine ⟨dealN_lt hx hy (hd j hj).1, ?_⟩
        rw [HB_d, hf j hj]
        by_cases c : j < dN D
        · rw [if_pos c]
        · rw [if_neg c, dealN, if_neg c]
      · rw [HB_b, hg j hj]
        exact ⟨(hd j (by omega)).1, rfl⟩
      · rw [dealN, if_neg (by omega)]
    · have hin' := nge_lt b240 rfl rfl (by omega) hi
      have hin : vp_in (nI i) 30 := vp_in_nI (by omega) (by omega)
      have ih := ih hin'
      have hfi : f i = nI (ds i) := by rw [hf i (by omega), if_neg (Nat.lt_irrefl i)]
      have next : ∀ v, v = dealN D ds M P x y i → V E 5 m_Mo_stepOn (stQ h0 (if brk D w (dealN D ds M P x y) = 0 then (difN (dN D) (dealN D ds M P x y) ds, dealN D ds M P x y, h 41 19) else (false, ds, h 41 19))) 299 [some (.ref 41), u1, u2, some (.int (nI x)), some (.int (nI y)), some (.int (mI M)), u6, u7, u8, some (.int (mI P)), some (.int (nI i)), none, none] [.int (nI v), .int (nI i), .ref 52] (HB h f (upd g i (nI (ds i)))) := by
        intro v hv
        refine V_iast d_Mo_stepOn_299 (by first | rfl | assumption) (by first | assumption | exact vp_in_nI (by omega) (by omega)) ?_
        refine V_iincw (w := 1) d_Mo_stepOn_300 rfl (by decide) (by decide) ?_
        dsimp only [List.set]
        refine V_goto (tgt := 234) d_Mo_stepOn_303 (by decide) ?_
        rw [nI_clamp (by omega), HB_ud, nI_1]
        refine ih _ _ (fun j hj => ?_) (fun j hj => ?_)
        · by_cases c : j = i
          · rw [c, upd_s, if_pos (by omega), hv]
          · rw [upd_n c, hf j hj]
            by_cases c2 : j < i
            · rw [if_pos c2, if_pos (by omega)]
            · rw [if_neg c2, if_neg (by omega)]
        · by_cases c : j = i
          · rw [c, upd_s]
          · rw [upd_n c]; exact hg j (by omega)
      refine V_aload_n d_Mo_stepOn_243 rfl ?_
      refine V_getR d_Mo_stepOn_244 f_Mo_66 rfl (by first | rfl | assumption) (by first | rfl | assumption) ?_
      refine V_iload d_Mo_stepOn_247 rfl ?_
      refine V_aload_n d_Mo_stepOn_249 rfl ?_
      refine V_getR d_Mo_stepOn_250 f_Mo_51 rfl (by first | rfl | assumption) (by first | rfl | assumption) ?_
      refine V_iload d_Mo_stepOn_253 rfl ?_
      refine V_iald d_Mo_stepOn_255 (by first | rfl | assumption) (by first | assumption | exact vp_in_nI (by omega) (by omega)) ?_
      refine V_iast d_Mo_stepOn_256 (by first | rfl | assumption) (by first | assumption | exact vp_in_nI (by omega) (by omega)) ?_
      rw [nI_clamp (by omega), HB_d, hfi, HB_ub]
      refine V_aload_n d_Mo_stepOn_257 rfl ?_
      refine V_getR d_Mo_stepOn_258 f_Mo_51 rfl (by first | rfl | assumption) (by first | rfl | assumption) ?_
      refine V_iload d_Mo_stepOn_261 rfl ?_
      refine V_iload d_Mo_stepOn_263 rfl ?_
      refine V_iload d_Mo_stepOn_265 rfl ?_
      refine V_callS1 d_Mo_stepOn_267 k_Mo_98 rfl (c_Mhas _ (mI P) (j := i) (by omega)) rfl (by first | decide | omega) rfl (Nat.le_of_ble_eq_true rfl) ?_
      rw [mI_b (by omega)]
      refine V_if_eq (tgt := 277) d_Mo_stepOn_270 (by decide) (fun b270 => ?_) (fun b270 => ?_)
      · have hP := b2i.mp b270
        refine V_iload d_Mo_stepOn_277 rfl ?_
        refine V_iload d_Mo_stepOn_279 rfl ?_
        refine V_callS1 d_Mo_stepOn_281 k_Mo_98 rfl (c_Mhas _ (mI M) (j := i) (by omega)) rfl (by first | decide | omega) rfl (Nat.le_of_ble_eq_true rfl) ?_
        rw [mI_b (by omega)]
        refine V_if_eq (tgt := 292) d_Mo_stepOn_284 (by decide) (fun b284 => ?_) (fun b284 => ?_)
        · have hM := b2i.mp b284
          refine V_aload_n d_Mo_stepOn_292 rfl ?_
          refine V_getR d_Mo_stepOn_293 f_Mo_51 rfl (by first | rfl | assumption) (by first | rfl | assumption) ?_
          refine V_iload d_Mo_stepOn_296 rfl ?_
          refine V_iald d_Mo_stepOn_298 (by first | rfl | assumption) (by first | assumption | exact vp_in_nI (by omega) (by omega)) ?_
          rw [nI_clamp (by omega), HB_d, hfi]
          exact next _ (by rw [dealN, if_pos hin', hP, hM]; rfl)
        · have hM := b2in.mp b284
          refine V_iload d_Mo_stepOn_287 rfl ?_
          refine V_goto (tgt := 299) d_Mo_stepOn_289 (by decide) ?_
          exact next _ (by rw [dealN, if_pos hin', hP, hM]; rfl)
      · have hP := b2in.mp b270
        refine V_iload_n d_Mo_stepOn_273 rfl ?_
        refine V_goto (tgt := 299) d_Mo_stepOn_274 (by decide) ?_
        exact next _ (by rw [dealN, if_pos hin', hP]; rfl)
  have h1 := loop 0 (Nat.zero_le _) (h 52) (h 57) (fun j hj => by rw [if_neg (Nat.not_lt_zero j)]; exact (hd j hj).2) (fun j hj => absurd hj (Nat.not_lt_zero j))
  rw [HB_self] at h1
  exact h1
