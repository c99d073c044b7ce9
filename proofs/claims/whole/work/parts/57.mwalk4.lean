theorem stpS_out {D : LD} {w : LW} {ds : Nat → Nat} {s : Int32} {j : Nat} (hj : dN D ≤ j) : (stpS D w ds s).2.1 j = ds j := by
  unfold stpS
  split
  · rfl
  · unfold stpT
    split
    · rfl
    · split
      · unfold dealN
        exact if_neg (by omega)
      · rfl
theorem wkN_out {D : LD} {w : LW} {m : Nat} {own : Int32} {ds : Nat → Nat} {s : Int32} {j : Nat} (hj : dN D ≤ j) : ∀ n, (wkN D w m own ds s n).1 j = ds j
  | 0 => rfl
  | n + 1 => by
    show (stpS D w (wkN D w m own ds s n).1 (wkN D w m own ds s n).2.1).2.1 j = ds j
    rw [stpS_out hj, wkN_out hj n]
theorem c_Mwalk {E : Wd} {h : Hp} {S : ST} (hm : MoW h S) (ok : okST S) (n s m : Int32) : MC E 6 m_Mo_walk [.int n, .int s, .int m] h (opWalk S n s m) := by
  have hN := ok.1.1
  have bad : ¬ (inR n 1 200 ∧ inR m 0 6) → V E 6 m_Mo_walk (fun v h' => v = some (.int (opWalk S n s m).1) ∧ MoW h' (opWalk S n s m).2 ∧ ∀ q, q < 41 → h' q = h q) 21 [some (.ref 41), some (.int n), some (.int s), some (.int m), none, none, none] [] h := by
    intro hno
    rw [opWalk_no hno]
    refine V_iconst (v := -1) d_Mo_walk_21 (by decide) ?_
    refine V_iret d_Mo_walk_22 rfl ?_
    exact ⟨rfl, hm, fun _ _ => rfl⟩
  refine Cq_of2 ok_Mo_walk rfl (Nat.le_of_ble_eq_true rfl) (L := [some (.ref 41), some (.int n), some (.int s), some (.int m), none, none, none]) rfl ?_
  refine V_iload_n d_Mo_walk_0 rfl ?_
  refine V_iconst (v := 1) d_Mo_walk_1 (by decide) ?_
  refine V_sipush (v := 200) d_Mo_walk_2 (by decide) ?_
  refine V_callS1 d_Mo_walk_5 k_Mo_87 rfl (c_Min h n 1 200) rfl (by first | decide | omega) rfl (Nat.le_of_ble_eq_true rfl) ?_
  refine V_if_eq (tgt := 21) d_Mo_walk_8 (by decide) (fun b8 => ?_) (fun b8 => ?_)
  · exact bad (fun q => p2i.mp b8 q.1)
  · have hn : inR n 1 200 := p2in.mp b8
    refine V_iload_n d_Mo_walk_11 rfl ?_
    refine V_iconst (v := 0) d_Mo_walk_12 (by decide) ?_
    refine V_bipush (v := 6) d_Mo_walk_13 (by decide) ?_
    refine V_callS1 d_Mo_walk_15 k_Mo_87 rfl (c_Min h m 0 6) rfl (by first | decide | omega) rfl (Nat.le_of_ble_eq_true rfl) ?_
    refine V_if_ne (tgt := 23) d_Mo_walk_18 (by decide) (fun b18 => ?_) (fun b18 => ?_)
    · have hm6' : inR m 0 6 := p2in.mp b18
      rw [opWalk_yes ⟨hn, hm6'⟩]
      clear bad
      obtain ⟨n, hn1, hn200, rfl⟩ := inR_pos (n := 200) (by omega) hn
      obtain ⟨m, hm6, rfl⟩ := (inR_nI (n := 6) (by omega)).mp hm6'
      rw [nI_clamp (by omega), nI_clamp (by omega)]
      refine V_aload_n d_Mo_walk_23 rfl ?_
      refine V_getI d_Mo_walk_24 f_Mo_91 rfl (by first | rfl | assumption) (by first | rfl | assumption) ?_
      rw [hm.1.1]
      refine V_if_ne (tgt := 33) d_Mo_walk_27 (by decide) (fun b27 => ?_) (fun b27 => ?_)
      · have h0 : ¬ dN S.1 = 0 := fun q => b27 (by rw [q]; rfl)
        rw [if_neg h0]
        refine V_aload_n d_Mo_walk_33 rfl ?_
        refine V_iconst (v := 0) d_Mo_walk_34 (by decide) ?_
        refine V_callV d_Mo_walk_35 k_Mo_139 rfl (c_Mbroken hm.1 ok.1 hm.2.1 ok.2.1 hm.2.2.1 false) (by first | rfl | assumption) rfl rfl (by first | decide | omega) rfl (Nat.le_of_ble_eq_true rfl) (fun v_ h_ q_ => ?_)
        obtain ⟨rfl, g, hg, rfl⟩ := q_
        show V E 6 m_Mo_walk _ 38 _ [.int (nI (brk S.1 (wfr false S.2.1) S.2.2.1))] _
        rw [wfr_f]
        have hb6 : brk S.1 S.2.1 S.2.2.1 ≤ 6 := by
          by_cases q : brk S.1 S.2.1 S.2.2.1 = 0
          · omega
          · exact (brk_some rfl q).1
        refine V_if_eq (tgt := 44) d_Mo_walk_38 (by decide) (fun b38 => ?_) (fun b38 => ?_)
        · have hb0 : brk S.1 S.2.1 S.2.2.1 = 0 := (eq_nI _ 0 rfl rfl (by omega) (by decide)).mp b38
          rw [if_pos hb0]
          refine V_aload_n d_Mo_walk_44 rfl ?_
          refine V_iload_n d_Mo_walk_45 rfl ?_
          refine V_put (ty := .int) d_Mo_walk_46 f_Mo_192 rfl (by first | rfl | assumption) (by first | rfl | assumption) (by decide +kernel) (by first | rfl | assumption) (by first | rfl | assumption) ?_
          refine V_aload_n d_Mo_walk_49 rfl ?_
          refine V_iload_n d_Mo_walk_50 rfl ?_
          have fr1 : wFr h (hup (hrow h 41 g) 41 19 s) := (wFr.g hg).tr (wFr.fld (Or.inl rfl))
          have es : (hup (hrow h 41 g) 41 19 s) 41 19 = s := by rw [hup_same, upd_s]
          have ed : (hup (hrow h 41 g) 41 19 s) 52 = h 52 := by rw [hup_ne (by omega), hrow_ne (by omega)]
          generalize (hup (hrow h 41 g) 41 19 s) = H at *
          have hl : MoLand H S.1 := hm.1.of fr1.keep
          have hw : MoLaw H S.2.1 := hm.2.1.of fr1.keep
          have hd : MoDs H S.2.2.1 := hm.2.2.1.of ed
          refine V_callV1 d_Mo_walk_51 k_Mo_150 rfl (c_value (m := m) hl ok.1 hw ok.2.1 hd ok.2.2.1 hm6) (by first | rfl | assumption) rfl rfl (by first | decide | omega) rfl (Nat.le_of_ble_eq_true rfl) ?_
          refine V_istore d_Mo_walk_54 (by decide) ?_
          dsimp only [List.set]
          refine V_iconst (v := 0) d_Mo_walk_56 (by decide) ?_
          refine V_istore d_Mo_walk_57 (by decide) ?_
          dsimp only [List.set]
          generalize hown : val S.1 S.2.1 S.2.2.1 m = own at *
          obtain ⟨Q, hQ⟩ : ∃ Q : Option Value → Hp → Prop, Q = fun v h' => v = some (.int ((wkN S.1 S.2.1 m own S.2.2.1 s n).2.2 0, (S.1, S.2.1, S.2.2.1, some (wkN S.1 S.2.1 m own S.2.2.1 s n).2.2)).1) ∧ MoW h' ((wkN S.1 S.2.1 m own S.2.2.1 s n).2.2 0, (S.1, S.2.1, S.2.2.1, some (wkN S.1 S.2.1 m own S.2.2.1 s n).2.2)).2 ∧ ∀ q, q < 41 → h' q = h q := ⟨_, rfl⟩
          rw [← hQ]
          -- the last loop: the parting comes back
          have last : ∀ H u6, wkI h H S.1 S.2.2.1 (wkN S.1 S.2.1 m own S.2.2.1 s n) → V E 6 m_Mo_walk Q 253 [some (.ref 41), some (.int (nI n)), some (.int s), some (.int (nI m)), some (.int own), some (.int (nI n)), u6] [] H := by
            rintro H u6 ⟨fr, hdz, -, hseen, hbest⟩
            have hlH : MoLand H S.1 := hm.1.of fr.keep
            have hwH : MoLaw H S.2.1 := hm.2.1.of fr.keep
            refine V_iconst (v := 0) d_Mo_walk_253 (by decide) ?_
            refine V_istore d_Mo_walk_254 (by decide) ?_
            dsimp only [List.set]
            have loop : ∀ i, i ≤ dN S.1 → ∀ f : Nat → Int32, (∀ j, j < 30 → j < i ∨ dN S.1 ≤ j → f j = nI (S.2.2.1 j)) → V E 6 m_Mo_walk Q 256 [some (.ref 41), some (.int (nI n)), some (.int s), some (.int (nI m)), some (.int own), some (.int (nI i)), u6] [] (hrow H 52 f) := by
              refine up_ind (dN S.1) ?_
              intro i hi ih f hf
              refine V_iload d_Mo_walk_256 rfl ?_
              refine V_aload_n d_Mo_walk_258 rfl ?_
              refine V_getI d_Mo_walk_259 f_Mo_91 rfl (by first | rfl | assumption) (by first | rfl | assumption) ?_
              rw [hrow_ne (by omega), hlH.1]
              refine V_icmp_ge (tgt := 285) d_Mo_walk_262 (by decide) (fun b262 => ?_) (fun b262 => ?_)
              · obtain rfl := ge_eq b262 rfl rfl (by omega) hi
                have in0 : vp_in (0 : Int32) 6 := vp_in_nI (n := 0) (by omega) (by omega)
                refine V_aload_n d_Mo_walk_285 rfl ?_
                refine V_iconst (v := 1) d_Mo_walk_286 (by decide) ?_
                refine V_put (ty := .boolean) d_Mo_walk_287 f_Mo_213 rfl (by first | rfl | assumption) (by first | rfl | assumption) (by decide +kernel) (by first | rfl | assumption) (by first | rfl | assumption) ?_
                refine V_aload_n d_Mo_walk_290 rfl ?_
                refine V_getR d_Mo_walk_291 f_Mo_72 rfl (by first | rfl | assumption) (by first | rfl | assumption) ?_
                refine V_iconst (v := 0) d_Mo_walk_294 (by decide) ?_
                refine V_iald d_Mo_walk_295 (by first | rfl | assumption) (by first | assumption | exact vp_in_nI (by omega) (by omega)) ?_
                refine V_iret d_Mo_walk_296 rfl ?_
                have frD : gFr H (hrow H 52 f) := gFr.row (Or.inl rfl)
                have frA := fr.tr frD
                have k27 : mKeep (hrow H 52 f) (hup (hrow H 52 f) 41 27 1) := mKeep.fld (by omega)
                rw [hQ]
                refine ⟨?_, ⟨(hm.1.of frA.keep).of k27, (hm.2.1.of frA.keep).of k27, fun j hj => ?_, ?_, fun x hx j hj => ?_⟩, fun q hq => ?_⟩
                · rw [hup_ne (by omega), hrow_ne (by omega)]
                  exact congrArg (fun x => some (Value.int x)) (hseen 0 (by omega))
                · rw [hup_ne (by omega), hrow_same]
                  exact ⟨ok.d6 j, hf j hj (by omega)⟩
                · rw [hup_same, upd_s]; rfl
                · rw [hup_ne (by omega), hrow_ne (by omega), hseen j hj, ← Option.some.inj hx]
                · rw [hup_ne (by omega)]
                  exact frA.1 q (by omega) (by omega) (by omega) (by omega) (by omega) (by omega) (by omega) (by omega) (by omega)
              · have hin' := nge_lt b262 rfl rfl (by omega) hi
                have hin : vp_in (nI i) 30 := vp_in_nI (by omega) (by omega)
                refine V_aload_n d_Mo_walk_265 rfl ?_
                refine V_getR d_Mo_walk_266 f_Mo_51 rfl (by first | rfl | assumption) (by first | rfl | assumption) ?_
                refine V_iload d_Mo_walk_269 rfl ?_
                refine V_aload_n d_Mo_walk_271 rfl ?_
                refine V_getR d_Mo_walk_272 f_Mo_69 rfl (by first | rfl | assumption) (by first | rfl | assumption) ?_
                refine V_iload d_Mo_walk_275 rfl ?_
                refine V_iald d_Mo_walk_277 (by first | rfl | assumption) (by first | assumption | exact vp_in_nI (by omega) (by omega)) ?_
                refine V_iast d_Mo_walk_278 (by first | rfl | assumption) (by first | assumption | exact vp_in_nI (by omega) (by omega)) ?_
                refine V_iincw (w := 1) d_Mo_walk_279 rfl (by decide) (by decide) ?_
                dsimp only [List.set]
                refine V_goto (tgt := 256) d_Mo_walk_282 (by decide) ?_
                rw [nI_clamp (by omega), hup_hrow, hrow_ne (by omega), hbest i hin', nI_1]
                refine ih hin' _ (fun j hj hc => ?_)
                by_cases c : j = i
                · rw [c, upd_s]
                · rw [upd_n c]; exact hf j hj (by omega)
            have h1 := loop 0 (Nat.zero_le _) (H 52) (fun j hj hc => by
              rw [(hdz j hj).2, wkN_out (by omega) n])
            rw [hrow_self] at h1
            exact h1
          have zero : ∀ H, gFr h H → MoDs H S.2.2.1 → H 41 19 = s → (∀ j, j < dN S.1 → H 58 j = nI (S.2.2.1 j)) → ∀ i, i ≤ 6 → ∀ f : Nat → Int32, (∀ j, j < i → f j = 0) → V E 6 m_Mo_walk Q 91 [some (.ref 41), some (.int (nI n)), some (.int s), some (.int (nI m)), some (.int own), some (.int (nI i)), none] [] (hrow H 59 f) := by
            intro H fr hd hs hb
            refine up_ind 6 ?_
            intro i hi ih f hf
            refine V_iload d_Mo_walk_91 rfl ?_
            refine V_bipush (v := 6) d_Mo_walk_93 (by decide) ?_
            refine V_icmp_ge (tgt := 112) d_Mo_walk_95 (by decide) (fun b95 => ?_) (fun b95 => ?_)
            · obtain rfl := ge_eq (N := 6) b95 rfl rfl (by omega) hi
              refine V_iconst (v := 0) d_Mo_walk_112 (by decide) ?_
              refine V_istore d_Mo_walk_113 (by decide) ?_
              dsimp only [List.set]
              exact wk_loop hm ok hn200 hm6 last 0 (Nat.zero_le _) _ none ⟨fr.tr (gFr.row (Or.inr (Or.inr rfl))), hd.of (hrow_ne (by omega)), by rw [hrow_ne (by omega)]; exact hs, fun j hj => by rw [hrow_same]; exact hf j hj, fun j hj => by rw [hrow_ne (by omega)]; exact hb j hj⟩
            · have hin' := nge_lt (N := 6) b95 rfl rfl (by omega) hi
              have hin : vp_in (nI i) 6 := vp_in_nI (by omega) (by omega)
              refine V_aload_n d_Mo_walk_98 rfl ?_
              refine V_getR d_Mo_walk_99 f_Mo_72 rfl (by first | rfl | assumption) (by first | rfl | assumption) ?_
              refine V_iload d_Mo_walk_102 rfl ?_
              refine V_iconst (v := 0) d_Mo_walk_104 (by decide) ?_
              refine V_iast d_Mo_walk_105 (by first | rfl | assumption) (by first | assumption | exact vp_in_nI (by omega) (by omega)) ?_
              refine V_iincw (w := 1) d_Mo_walk_106 rfl (by decide) (by decide) ?_
              dsimp only [List.set]
              refine V_goto (tgt := 91) d_Mo_walk_109 (by decide) ?_
              rw [nI_clamp (by omega), hup_hrow, nI_1]
              refine ih hin' _ (fun j hj => ?_)
              by_cases c : j = i
              · rw [c, upd_s]
              · rw [upd_n c]; exact hf j (by omega)
          have copy : ∀ i, i ≤ dN S.1 → ∀ f : Nat → Int32, (∀ j, j < i → f j = nI (S.2.2.1 j)) → V E 6 m_Mo_walk Q 59 [some (.ref 41), some (.int (nI n)), some (.int s), some (.int (nI m)), some (.int own), some (.int (nI i)), none] [] (hrow H 58 f) := by
            refine up_ind (dN S.1) ?_
            intro i hi ih f hf
            refine V_iload d_Mo_walk_59 rfl ?_
            refine V_aload_n d_Mo_walk_61 rfl ?_
            refine V_getI d_Mo_walk_62 f_Mo_91 rfl (by first | rfl | assumption) (by first | rfl | assumption) ?_
            rw [hrow_ne (by omega), hl.1]
            refine V_icmp_ge (tgt := 88) d_Mo_walk_65 (by decide) (fun b65 => ?_) (fun b65 => ?_)
            · obtain rfl := ge_eq b65 rfl rfl (by omega) hi
              refine V_iconst (v := 0) d_Mo_walk_88 (by decide) ?_
              refine V_istore d_Mo_walk_89 (by decide) ?_
              dsimp only [List.set]
              have h1 := zero (hrow H 58 f) (fr1.gf.tr (gFr.row (Or.inr (Or.inl rfl)))) (hd.of (hrow_ne (by omega))) (by rw [hrow_ne (by omega)]; exact es) (fun j hj => by rw [hrow_same]; exact hf j hj) 0 (Nat.zero_le _) ((hrow H 58 f) 59) (fun j hj => absurd hj (Nat.not_lt_zero j))
              rw [hrow_self] at h1
              exact h1
            · have hin' := nge_lt b65 rfl rfl (by omega) hi
              have hin : vp_in (nI i) 30 := vp_in_nI (by omega) (by omega)
              refine V_aload_n d_Mo_walk_68 rfl ?_
              refine V_getR d_Mo_walk_69 f_Mo_69 rfl (by first | rfl | assumption) (by first | rfl | assumption) ?_
              refine V_iload d_Mo_walk_72 rfl ?_
              refine V_aload_n d_Mo_walk_74 rfl ?_
              refine V_getR d_Mo_walk_75 f_Mo_51 rfl (by first | rfl | assumption) (by first | rfl | assumption) ?_
              refine V_iload d_Mo_walk_78 rfl ?_
              refine V_iald d_Mo_walk_80 (by first | rfl | assumption) (by first | assumption | exact vp_in_nI (by omega) (by omega)) ?_
              refine V_iast d_Mo_walk_81 (by first | rfl | assumption) (by first | assumption | exact vp_in_nI (by omega) (by omega)) ?_
              refine V_iincw (w := 1) d_Mo_walk_82 rfl (by decide) (by decide) ?_
              dsimp only [List.set]
              refine V_goto (tgt := 59) d_Mo_walk_85 (by decide) ?_
              rw [nI_clamp (by omega), hup_hrow, hrow_ne (by omega), (hd i (by omega)).2, nI_1]
              refine ih hin' _ (fun j hj => ?_)
              by_cases c : j = i
              · rw [c, upd_s]
              · rw [upd_n c]; exact hf j (by omega)
          have h1 := copy 0 (Nat.zero_le _) (H 58) (fun j hj => absurd hj (Nat.not_lt_zero j))
          rw [hrow_self] at h1
          exact h1
        · have hbn : ¬ brk S.1 S.2.1 S.2.2.1 = 0 := fun q => b38 (by rw [q]; rfl)
          rw [if_neg hbn]
          refine V_bipush (v := -3) d_Mo_walk_41 (by decide) ?_
          refine V_iret d_Mo_walk_43 rfl ?_
          exact ⟨rfl, MoW_g hm hg, fun q hq => hrow_ne (by omega)⟩
      · have h0 : dN S.1 = 0 := (eq_nI (dN S.1) 0 rfl rfl (by omega) (by decide)).mp b27
        rw [if_pos h0]
        refine V_bipush (v := -5) d_Mo_walk_30 (by decide) ?_
        refine V_iret d_Mo_walk_32 rfl ?_
        exact ⟨rfl, hm, fun _ _ => rfl⟩
    · exact bad (fun q => p2i.mp b18 q.2)
