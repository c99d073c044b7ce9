/-! stepOn(), walked -/
/-- what a step may change -/
def wFr (h h' : Hp) : Prop := (∀ q, q ≠ 41 → q ≠ 52 → q ≠ 53 → q ≠ 55 → q ≠ 54 → q ≠ 56 → q ≠ 57 → h' q = h q) ∧ ∀ f, f ≠ 16 → f ≠ 17 → f ≠ 18 → f ≠ 19 → f ≠ 30 → h' 41 f = h 41 f
theorem wFr.rf (h : Hp) : wFr h h := ⟨fun _ _ _ _ _ _ _ _ => rfl, fun _ _ _ _ _ _ => rfl⟩
theorem wFr.tr {h h' h2 : Hp} (a : wFr h h') (b : wFr h' h2) : wFr h h2 := ⟨fun q h1 h3 h4 h5 h6 h7 h8 => (b.1 q h1 h3 h4 h5 h6 h7 h8).trans (a.1 q h1 h3 h4 h5 h6 h7 h8), fun f h1 h3 h4 h5 h6 => (b.2 f h1 h3 h4 h5 h6).trans (a.2 f h1 h3 h4 h5 h6)⟩
theorem wFr.keep {h h' : Hp} (a : wFr h h') : mKeep h h' := ⟨fun q h1 h2 => a.1 q (by omega) (by omega) (by omega) (by omega) (by omega) (by omega) (by omega), a.2 4 (by omega) (by omega) (by omega) (by omega) (by omega), a.2 8 (by omega) (by omega) (by omega) (by omega) (by omega), a.2 10 (by omega) (by omega) (by omega) (by omega) (by omega), a.2 11 (by omega) (by omega) (by omega) (by omega) (by omega), a.2 13 (by omega) (by omega) (by omega) (by omega) (by omega)⟩
theorem wFr.fld {h : Hp} {k : Nat} {x : Int32} (hk : k = 19 ∨ k = 30) : wFr h (hup h 41 k x) := ⟨fun q h1 _ _ _ _ _ _ => hup_ne h1, fun f _ _ _ h4 h5 => by rw [hup_same, upd_n (by omega)]⟩
theorem wFr.g {h : Hp} {g : Nat → Int32} (hg : okg h g) : wFr h (hrow h 41 g) := ⟨fun q h1 _ _ _ _ _ _ => hrow_ne h1, fun f h1 h2 h3 _ _ => by rw [hrow_same]; exact hg f h1 h2 h3⟩
theorem wFr.hp (h : Hp) (s : Int32) (f g t : Nat → Int32) : wFr h (HP h s f g t) := ⟨fun q h1 _ h3 h4 h5 _ _ => HP_ne h1 h3 h4 h5, fun f _ _ _ h4 _ => HP_f h4⟩
theorem wFr.row {h : Hp} {o : Nat} {f : Nat → Int32} (ho : o = 52 ∨ o = 56 ∨ o = 57) : wFr h (hrow h o f) := ⟨fun q _ h2 _ _ _ h6 h7 => hrow_ne (by omega), fun f _ _ _ _ _ => by rw [hrow_ne (by omega)]⟩
def stQ (h : Hp) (r : Bool × (Nat → Nat) × Int32) : Option Value → Hp → Prop := fun v h' => v = some (.int (if r.1 then 1 else 0)) ∧ MoDs h' r.2.1 ∧ h' 41 19 = r.2.2 ∧ wFr h h'
/-- the last part of a step: the parting is judged, and may go back -/
theorem so_end {E : Wd} {h0 h : Hp} {D : LD} {w : LW} (fr0 : wFr h0 h) (hl : MoLand h D) (ok : okLD D) (hw : MoLaw h w) (okw : okLW w) {ds e : Nat → Nat} (hd : MoDs h e) (hds : ∀ j, j < dN D → ds j < 6 ∧ h 57 j = nI (ds j)) (hout : ∀ j, dN D ≤ j → e j = ds j) {u1 u2 u3 u4 u5 u6 u7 u8 u9 u10 : Option Value} : V E 5 m_Mo_stepOn (stQ h0 (if brk D w e = 0 then (difN (dN D) e ds, e, h 41 19) else (false, ds, h 41 19))) 306 [some (.ref 41), u1, u2, u3, u4, u5, u6, u7, u8, u9, u10, none, none] [] h := by
  have hN := ok.1
  refine V_aload_n d_Mo_stepOn_306 rfl ?_
  refine V_iconst (v := 0) d_Mo_stepOn_307 (by decide) ?_
  refine V_callV d_Mo_stepOn_308 k_Mo_139 rfl (c_Mbroken hl ok hw okw hd false) (by first | rfl | assumption) rfl rfl (by first | decide | omega) rfl (Nat.le_of_ble_eq_true rfl) (fun v_ h_ q_ => ?_)
  obtain ⟨rfl, g, hg, rfl⟩ := q_
  show V E 5 m_Mo_stepOn _ 311 _ [.int (nI (brk D (wfr false w) e))] _
  rw [wfr_f]
  have hb6 : brk D w e ≤ 6 := by
    by_cases q : brk D w e = 0
    · omega
    · exact (brk_some rfl q).1
  have fr1 := fr0.tr (wFr.g hg)
  have hl1 : MoLand (hrow h 41 g) D := hl.of (wFr.g hg).keep
  have hd1 : MoDs (hrow h 41 g) e := hd.of (hrow_ne (by omega))
  have hb1 : ∀ j, j < dN D → ds j < 6 ∧ (hrow h 41 g) 57 j = nI (ds j) := fun j hj => by rw [hrow_ne (by omega)]; exact hds j hj
  have es : (hrow h 41 g) 41 19 = h 41 19 := by rw [hrow_same]; exact hg 19 (by omega) (by omega) (by omega)
  generalize (hrow h 41 g) = H at *
  -- the last loop: x is what stays
  have loop : ∀ (st : Bool) (x : Nat → Nat), (st = true → x = ds) → (st = false → x = e) → ∀ i, i ≤ dN D → ∀ (f : Nat → Int32), (∀ j, j < 30 → f j = nI (if j < i then x j else e j)) → V E 5 m_Mo_stepOn (stQ h0 (difN (dN D) x ds, x, h 41 19)) 327 [some (.ref 41), u1, u2, u3, u4, u5, u6, u7, u8, u9, some (.int (if st then 1 else 0)), some (.int (if difN i x ds then 1 else 0)), some (.int (nI i))] [] (hrow H 52 f) := by
    intro st x hx1 hx2
    have hx6 : ∀ j, j < 30 → x j < 6 := by
      intro j hj
      cases st with
      | false => rw [hx2 rfl]; exact (hd1 j hj).1
      | true =>
        rw [hx1 rfl]
        rcases Nat.lt_or_ge j (dN D) with c | c
        · exact (hds j c).1
        · rw [← hout j c]; exact (hd1 j hj).1
    have hxo : ∀ j, dN D ≤ j → x j = e j := by
      intro j hj
      cases st with
      | false => rw [hx2 rfl]
      | true => rw [hx1 rfl]; exact (hout j hj).symm
    refine up_ind (dN D) ?_
    intro i hi ih f hf
    refine V_iload d_Mo_stepOn_327 rfl ?_
    refine V_aload_n d_Mo_stepOn_329 rfl ?_
    refine V_getI d_Mo_stepOn_330 f_Mo_91 rfl (by first | rfl | assumption) (by first | rfl | assumption) ?_
    rw [hrow_ne (by omega), hl1.1]
    refine V_icmp_ge (tgt := 400) d_Mo_stepOn_333 (by decide) (fun b333 => ?_) (fun b333 => ?_)
    · obtain rfl := ge_eq b333 rfl rfl (by omega) hi
      have fin : ∀ o : Bool, difN (dN D) x ds = o → stQ h0 (o, x, h 41 19) (some (.int (if o then 1 else 0))) (hrow H 52 f) := by
        intro o _
        refine ⟨rfl, fun j hj => ?_, by rw [hrow_ne (by omega)]; exact es, fr1.tr (wFr.row (Or.inl rfl))⟩
        rw [hrow_same, hf j hj]
        refine ⟨hx6 j hj, ?_⟩
        by_cases c : j < dN D
        · rw [if_pos c]
        · rw [if_neg c, ← hxo j (by omega)]
      cases ho : difN (dN D) x ds with
      | true =>
        have := fin true ho
        show V E 5 m_Mo_stepOn _ 400 [some (.ref 41), u1, u2, u3, u4, u5, u6, u7, u8, u9, some (.int (if st then 1 else 0)), some (.int 1), some (.int (nI (dN D)))] [] _
        refine V_iload d_Mo_stepOn_400 rfl ?_
        refine V_zret d_Mo_stepOn_402 rfl (by first | rfl | decide | assumption) ?_
        exact this
      | false =>
        have := fin false ho
        show V E 5 m_Mo_stepOn _ 400 [some (.ref 41), u1, u2, u3, u4, u5, u6, u7, u8, u9, some (.int (if st then 1 else 0)), some (.int 0), some (.int (nI (dN D)))] [] _
        refine V_iload d_Mo_stepOn_400 rfl ?_
        refine V_zret d_Mo_stepOn_402 rfl (by first | rfl | decide | assumption) ?_
        exact this
    · have hin' := nge_lt b333 rfl rfl (by omega) hi
      have hin : vp_in (nI i) 30 := vp_in_nI (by omega) (by omega)
      have ih := ih hin'
      have hbi := hb1 i hin'
      have hxi := hx6 i (by omega)
      have hstep : difN (i + 1) x ds = (difN i x ds || decide (x i ≠ ds i)) := rfl
      have tail : ∀ f', (∀ j, j < 30 → f' j = nI (if j < i + 1 then x j else e j)) → V E 5 m_Mo_stepOn (stQ h0 (difN (dN D) x ds, x, h 41 19)) 365 [some (.ref 41), u1, u2, u3, u4, u5, u6, u7, u8, u9, some (.int (if st then 1 else 0)), some (.int (if difN i x ds then 1 else 0)), some (.int (nI i))] [] (hrow H 52 f') := by
        intro f' hf'
        have ih := ih f' hf'
        rw [hstep] at ih
        cases ho : difN i x ds with
        | true =>
          rw [ho] at ih
          show V E 5 m_Mo_stepOn _ 365 [some (.ref 41), u1, u2, u3, u4, u5, u6, u7, u8, u9, some (.int (if st then 1 else 0)), some (.int 1), some (.int (nI i))] [] _
          refine V_iload d_Mo_stepOn_365 rfl ?_
          refine V_if_ne (tgt := 387) d_Mo_stepOn_367 (by decide) (fun b367 => ?_) (fun b367 => ?_)
          · refine V_iconst (v := 1) d_Mo_stepOn_387 (by decide) ?_
            refine V_goto (tgt := 392) d_Mo_stepOn_388 (by decide) ?_
            refine V_istore d_Mo_stepOn_392 (by decide) ?_
            dsimp only [List.set]
            refine V_iincw (w := 1) d_Mo_stepOn_394 rfl (by decide) (by decide) ?_
            dsimp only [List.set]
            refine V_goto (tgt := 327) d_Mo_stepOn_397 (by decide) ?_
            rw [nI_1]
            exact ih
          · exact absurd b367 (by decide)
        | false =>
          rw [ho] at ih
          show V E 5 m_Mo_stepOn _ 365 [some (.ref 41), u1, u2, u3, u4, u5, u6, u7, u8, u9, some (.int (if st then 1 else 0)), some (.int 0), some (.int (nI i))] [] _
          refine V_iload d_Mo_stepOn_365 rfl ?_
          refine V_if_ne (tgt := 387) d_Mo_stepOn_367 (by decide) (fun b367 => ?_) (fun b367 => ?_)
          · exact absurd rfl b367
          · refine V_aload_n d_Mo_stepOn_370 rfl ?_
            refine V_getR d_Mo_stepOn_371 f_Mo_51 rfl (by first | rfl | assumption) (by first | rfl | assumption) ?_
            refine V_iload d_Mo_stepOn_374 rfl ?_
            refine V_iald d_Mo_stepOn_376 (by first | rfl | assumption) (by first | assumption | exact vp_in_nI (by omega) (by omega)) ?_
            refine V_aload_n d_Mo_stepOn_377 rfl ?_
            refine V_getR d_Mo_stepOn_378 f_Mo_66 rfl (by first | rfl | assumption) (by first | rfl | assumption) ?_
            refine V_iload d_Mo_stepOn_381 rfl ?_
            refine V_iald d_Mo_stepOn_383 (by first | rfl | assumption) (by first | assumption | exact vp_in_nI (by omega) (by omega)) ?_
            have hbi6 := hbi.1
            have hfi' : f' i = nI (x i) := by rw [hf' i (by omega), if_pos (by omega)]
            rw [nI_clamp (by omega), hrow_same, hfi', hrow_ne (by omega), hbi.2]
            refine V_icmp_eq (tgt := 391) d_Mo_stepOn_384 (by decide) (fun b384 => ?_) (fun b384 => ?_)
            · have heq := (nI_eq (by omega) (by omega)).mp b384
              refine V_iconst (v := 0) d_Mo_stepOn_391 (by decide) ?_
              refine V_istore d_Mo_stepOn_392 (by decide) ?_
              dsimp only [List.set]
              refine V_iincw (w := 1) d_Mo_stepOn_394 rfl (by decide) (by decide) ?_
              dsimp only [List.set]
              refine V_goto (tgt := 327) d_Mo_stepOn_397 (by decide) ?_
              rw [nI_1]
              rw [show decide (x i ≠ ds i) = false from by simp [heq]] at ih
              exact ih
            · have hne : ¬ x i = ds i := fun q => b384 (by rw [q])
              refine V_iconst (v := 1) d_Mo_stepOn_387 (by decide) ?_
              refine V_goto (tgt := 392) d_Mo_stepOn_388 (by decide) ?_
              refine V_istore d_Mo_stepOn_392 (by decide) ?_
              dsimp only [List.set]
              refine V_iincw (w := 1) d_Mo_stepOn_394 rfl (by decide) (by decide) ?_
              dsimp only [List.set]
              refine V_goto (tgt := 327) d_Mo_stepOn_397 (by decide) ?_
              rw [nI_1]
              rw [show decide (x i ≠ ds i) = true from by simp [hne]] at ih
              exact ih
      have fill : ∀ v, v = nI (x i) → ∀ j, j < 30 → upd f i v j = nI (if j < i + 1 then x j else e j) := by
        intro v hv j hj
        by_cases c : j = i
        · rw [c, upd_s, if_pos (by omega), hv]
        · rw [upd_n c, hf j hj]
          by_cases c2 : j < i
          · rw [if_pos c2, if_pos (by omega)]
          · rw [if_neg c2, if_neg (by omega)]
      refine V_aload_n d_Mo_stepOn_336 rfl ?_
      refine V_getR d_Mo_stepOn_337 f_Mo_51 rfl (by first | rfl | assumption) (by first | rfl | assumption) ?_
      refine V_iload d_Mo_stepOn_340 rfl ?_
      refine V_iload d_Mo_stepOn_342 rfl ?_
      refine V_if_eq (tgt := 357) d_Mo_stepOn_344 (by decide) (fun b344 => ?_) (fun b344 => ?_)
      · have hst : st = false := b2i.mp b344
        refine V_aload_n d_Mo_stepOn_357 rfl ?_
        refine V_getR d_Mo_stepOn_358 f_Mo_51 rfl (by first | rfl | assumption) (by first | rfl | assumption) ?_
        refine V_iload d_Mo_stepOn_361 rfl ?_
        refine V_iald d_Mo_stepOn_363 (by first | rfl | assumption) (by first | assumption | exact vp_in_nI (by omega) (by omega)) ?_
        refine V_iast d_Mo_stepOn_364 (by first | rfl | assumption) (by first | assumption | exact vp_in_nI (by omega) (by omega)) ?_
        rw [nI_clamp (by omega), hup_hrow, hrow_same]
        refine tail _ (fill _ ?_)
        rw [hf i (by omega), if_neg (Nat.lt_irrefl i), hx2 hst]
      · have hst : st = true := b2in.mp b344
        refine V_aload_n d_Mo_stepOn_347 rfl ?_
        refine V_getR d_Mo_stepOn_348 f_Mo_66 rfl (by first | rfl | assumption) (by first | rfl | assumption) ?_
        refine V_iload d_Mo_stepOn_351 rfl ?_
        refine V_iald d_Mo_stepOn_353 (by first | rfl | assumption) (by first | assumption | exact vp_in_nI (by omega) (by omega)) ?_
        refine V_goto (tgt := 364) d_Mo_stepOn_354 (by decide) ?_
        refine V_iast d_Mo_stepOn_364 (by first | rfl | assumption) (by first | assumption | exact vp_in_nI (by omega) (by omega)) ?_
        rw [nI_clamp (by omega), hup_hrow, hrow_ne (by omega)]
        refine tail _ (fill _ ?_)
        rw [hbi.2, hx1 hst]
  have go : ∀ (st : Bool) (x : Nat → Nat), (st = true → x = ds) → (st = false → x = e) → V E 5 m_Mo_stepOn (stQ h0 (difN (dN D) x ds, x, h 41 19)) 319 [some (.ref 41), u1, u2, u3, u4, u5, u6, u7, u8, u9, u10, none, none] [.int (if st then 1 else 0)] H := by
    intro st x hx1 hx2
    refine V_istore d_Mo_stepOn_319 (by decide) ?_
    dsimp only [List.set]
    refine V_iconst (v := 0) d_Mo_stepOn_321 (by decide) ?_
    refine V_istore d_Mo_stepOn_322 (by decide) ?_
    dsimp only [List.set]
    refine V_iconst (v := 0) d_Mo_stepOn_324 (by decide) ?_
    refine V_istore d_Mo_stepOn_325 (by decide) ?_
    dsimp only [List.set]
    have h1 := loop st x hx1 hx2 0 (Nat.zero_le _) (H 52) (fun j hj => by rw [if_neg (Nat.not_lt_zero j)]; exact (hd1 j hj).2)
    rw [hrow_self] at h1
    exact h1
  refine V_if_eq (tgt := 318) d_Mo_stepOn_311 (by decide) (fun b311 => ?_) (fun b311 => ?_)
  · have hb0 : brk D w e = 0 := (eq_nI _ 0 rfl rfl (by omega) (by decide)).mp b311
    rw [if_pos hb0]
    refine V_iconst (v := 0) d_Mo_stepOn_318 (by decide) ?_
    exact go false e (fun q => absurd q (by decide)) (fun _ => rfl)
  · have hbn : ¬ brk D w e = 0 := fun q => b311 (by rw [q]; rfl)
    rw [if_neg hbn]
    refine V_iconst (v := 1) d_Mo_stepOn_314 (by decide) ?_
    refine V_goto (tgt := 319) d_Mo_stepOn_315 (by decide) ?_
    have h1 := go true ds (fun _ => rfl) (fun q => absurd q (by decide))
    rw [difN_self] at h1
    exact h1
