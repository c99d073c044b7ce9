/-! lay() and kth() -/
theorem c_lay {E : Wd} {h : Hp} {D : LD} {w : LW} (hb : bkS h D w) {ds : Nat → Nat} (hp : PartW h 14 (inN D) ds) (okd : okDs D w ds) (hout : ∀ p, dN D ≤ p → ds p = 0) {x : Nat} {q : List Int32} (hq : (sq D w (wK w) (cI (inN D)) (bdg D w))[x]? = some q) (hpq : isPq (dN D) (gdB D w) (wK w) (cI (inN D)) q) : Cq E 20 m_ClassBook_lay [.ref 20, .int (nI x), .ref 14] h (fun v h' => v = none ∧ (∀ z, z ≠ 24 → z ≠ 22 → z ≠ 15 → z ≠ 16 → h' z = h z) ∧ bkS h' D w ∧ PartW h' 14 (inN D) (lay (dN D) q)) := by
  have hk1 := hb.2.2.2.1.1
  have hk6 := hb.2.2.2.1.2.1
  have hN := hb.2.1.1
  obtain ⟨p1, p2, p3, p4⟩ := id hpq
  refine Cq_of2 ok_ClassBook_lay rfl (Nat.le_of_ble_eq_true rfl) (L := [some (.ref 20), some (.int (nI x)), some (.ref 14), none]) rfl ?_
  refine V_aload_n d_ClassBook_lay_0 rfl ?_
  refine V_iload_n d_ClassBook_lay_1 rfl ?_
  refine V_callV d_ClassBook_lay_2 k_ClassBook_110 rfl (c_choose hb hq) (by first | rfl | assumption) rfl rfl (by first | decide | omega) rfl (Nat.le_of_ble_eq_true rfl) (fun v_ h_ q_ => ?_)
  obtain ⟨rfl, fr, hb1, hch⟩ := q_
  have hp1 : PartW h_ 14 (inN D) ds := hp.at (fr _ (by omega) (by omega)) (fr _ (by omega) (by omega))
  show V E _ m_ClassBook_lay _ 5 _ [] _
  refine V_iconst (v := 0) d_ClassBook_lay_5 (by decide) ?_
  refine V_istore_n d_ClassBook_lay_6 (by decide) ?_
  dsimp only [List.set]
  have loop : ∀ i, i ≤ wK w → ∀ H, (∀ z, z ≠ 15 → z ≠ 16 → H z = h_ z) → (∀ j, j < 30 → H 15 j = nI (layK (gD q) ds i j)) → (∀ d, d < 6 → H 16 d = if d < i then gD q d else h_ 16 d) → V E 20 m_ClassBook_lay (fun v h' => v = none ∧ (∀ z, z ≠ 24 → z ≠ 22 → z ≠ 15 → z ≠ 16 → h' z = h z) ∧ bkS h' D w ∧ PartW h' 14 (inN D) (lay (dN D) q)) 7 [some (.ref 20), some (.int (nI x)), some (.ref 14), some (.int (nI i))] [] H := by
    refine up_ind (wK w) ?_
    intro i hi ih H frH hwh hse
    have hkH : H 11 0 = nI (wK w) := by rw [frH _ (by omega) (by omega)]; exact hb1.2.2.1
    refine V_iload_n d_ClassBook_lay_7 rfl ?_
    refine V_aload_n d_ClassBook_lay_8 rfl ?_
    refine V_getR d_ClassBook_lay_9 f_ClassBook_15 rfl (by first | rfl | assumption) (by first | rfl | assumption) ?_
    refine V_getI d_ClassBook_lay_12 f_ClassBook_78 rfl (by first | rfl | assumption) (by first | rfl | assumption) ?_
    rw [hkH]
    refine V_icmp_ge (tgt := 35) d_ClassBook_lay_15 (by decide) (fun b15 => ?_) (fun b15 => ?_)
    · obtain rfl := ge_eq b15 rfl rfl (by omega) hi
      refine V_vret d_ClassBook_lay_35 rfl ?_
      obtain ⟨r1, r2, r3, r4, r5, r6, r7, r8, r9, r10⟩ := hb1
      refine ⟨rfl, fun z c1 c2 c3 c4 => by rw [frH z c3 c4]; exact fr z c1 c2, ⟨r1.of (fun z _ _ => frH z (by omega) (by omega)), r2, hkH, r4, r5, by rw [frH _ (by omega) (by omega)]; exact r6, by rw [frH _ (by omega) (by omega)]; exact r7, by rw [frH _ (by omega) (by omega)]; exact r8, fun y hy => by rw [frH _ (by omega) (by omega)]; exact r9 y hy, fun l R b a1 a2 a3 a4 => by have := r10 l R b a1 a2 a3 a4; unfold ent at this ⊢; rw [frH _ (by omega) (by omega)]; exact this⟩, fun j hj => ?_, fun d hd => ?_⟩
      · have e : layK (gD q) ds (wK w) j = lay (dN D) q j := by
          unfold lay
          by_cases c : j < dN D
          · rw [if_pos c, p1]
            refine layK_any ((p3 j hj).mp ?_)
            rw [cI_cs _ hj]
            unfold inN
            exact decide_eq_true c
          · rw [if_neg c]
            have hno : ∀ k, k ≤ wK w → layK (gD q) ds k j = ds j := by
              intro k
              induction k with
              | zero => intro _; rfl
              | succ k ihk =>
                intro hk
                rw [layK, if_neg (fun z => ?_)]
                · exact ihk (by omega)
                · have hm := p2 (gD q k) (gD_mem (by omega))
                  have := hm.2.1.2 j hj z
                  omega
            rw [hno _ (Nat.le_refl _)]
            exact hout j (by omega)
        have h6 : lay (dN D) q j < 6 := by
          have := lay_lt (n := dN D) (q := q) (k := wK w) (by omega) (by omega) j
          omega
        refine ⟨h6, ?_⟩
        rw [← e]
        exact hwh j hj
      · have hs := hse d hd
        show H 16 d = _
        rw [hs]
        by_cases c : d < wK w
        · rw [if_pos c]
          have hm := p2 (gD q d) (gD_mem (by omega))
          refine cI_eq hm.2.1.1 (fun j hj => ?_)
          have := lay_dP hN hpq c hj
          unfold dP at this
          rw [this]
        · rw [if_neg c]
          have := hp1.2 d hd
          refine this.trans (cI_cong (fun j hj => ?_))
          by_cases cj : j < dN D
          · have h1 := okd j cj
            have h2 := lay_lt (n := dN D) (q := q) (k := wK w) (by omega) (by omega) j
            rw [decide_eq_false (by omega), decide_eq_false (by omega)]
          · unfold inN
            rw [decide_eq_false cj]; rfl
    · have hik := nge_lt b15 rfl rfl (by omega) hi
      have hin : vp_in (nI i) 6 := vp_in_nI (by omega) (by omega)
      refine V_aload_n d_ClassBook_lay_18 rfl ?_
      refine V_iload_n d_ClassBook_lay_19 rfl ?_
      refine V_aload_n d_ClassBook_lay_20 rfl ?_
      refine V_getR d_ClassBook_lay_21 f_ClassBook_31 rfl (by first | rfl | assumption) (by first | rfl | assumption) ?_
      refine V_iload_n d_ClassBook_lay_24 rfl ?_
      refine V_iald d_ClassBook_lay_25 (by first | rfl | assumption) (by first | assumption | exact vp_in_nI (by omega) (by omega)) ?_
      rw [nI_clamp (by omega), frH _ (by omega) (by omega), hch i hik]
      refine V_callV0 d_ClassBook_lay_26 k_ClassBook_114 rfl (c_deal _ pt_14 (gD q i) (show i < 6 by omega)) (by first | rfl | assumption) rfl rfl (by first | decide | omega) rfl (Nat.le_of_ble_eq_true rfl) ?_
      refine V_iincw (w := 1) d_ClassBook_lay_29 rfl (by decide) (by decide) ?_
      dsimp only [List.set]
      refine V_goto (tgt := 7) d_ClassBook_lay_32 (by decide) ?_
      rw [nI_1]
      refine ih hik _ (fun z c1 c2 => by rw [hrow_ne c1, hup_ne c2]; exact frH z c1 c2) (fun j hj => ?_) (fun d hd => ?_)
      · rw [hrow_same, layK]
        by_cases c : cs (gD q i) j = true
        · rw [if_pos ⟨hj, c⟩, if_pos c]
        · rw [if_neg (fun z => c z.2), if_neg c]
          exact hwh j hj
      · rw [hrow_ne (by omega), hup_same]
        by_cases c : d = i
        · rw [c, upd_s, if_pos (by omega)]
        · rw [upd_n c, hse d hd]
          by_cases c2 : d < i
          · rw [if_pos c2, if_pos (by omega)]
          · rw [if_neg c2, if_neg (by omega)]
  exact loop 0 (Nat.zero_le _) h_ (fun _ _ _ => rfl) (fun j hj => (hp1.1 j hj).2) (fun d hd => by rw [if_neg (Nat.not_lt_zero d)])
theorem c_Dkth {E : Wd} {h : Hp} {S : ST} (hc : ClW h S) (ok : okST S) (i : Int32) : CC E 24 m_DC_kth [.int i] h (opKth S i) := by
  refine Cq_of2 ok_DC_kth rfl (Nat.le_of_ble_eq_true rfl) (L := [some (.ref 0), some (.int i), none]) rfl ?_
  refine V_aload_n d_DC_kth_0 rfl ?_
  refine V_ldc d_DC_kth_1 v_DC_218 rfl ?_
  refine V_callV d_DC_kth_3 k_DC_219 rfl (c_openClasses hc ok _) (by first | rfl | assumption) rfl rfl (by first | decide | omega) rfl (Nat.le_of_ble_eq_true rfl) (fun v_ h_ q_ => ?_)
  obtain ⟨rfl, q1, q2, q3⟩ := q_
  rw [open_any ok]
  by_cases hz : szI S = 0
  · have hle := LC_le (w := S.2.1) ok.1 ok.2.1 (szI_0 hz).1
    have hb := q3 hz
    rw [if_pos hz]
    show V E _ m_DC_kth _ 6 _ [.int 0] _
    refine V_istore_n d_DC_kth_6 (by decide) ?_
    dsimp only [List.set]
    refine V_iload_n d_DC_kth_7 rfl ?_
    refine V_if_ge (tgt := 13) d_DC_kth_8 (by decide) (fun b8 => ?_) (fun b8 => ?_)
    · refine V_aload_n d_DC_kth_13 rfl ?_
      refine V_getR d_DC_kth_14 f_DC_53 rfl (by first | rfl | assumption) (by first | rfl | assumption) ?_
      refine V_iload_n d_DC_kth_17 rfl ?_
      refine V_callV1 d_DC_kth_18 k_DC_225 rfl (c_hasNumber (show (LC S.1 S.2.1).length < 2 ^ 30 by omega) hb.2.2 i) (by first | rfl | assumption) rfl rfl (by first | decide | omega) rfl (Nat.le_of_ble_eq_true rfl) ?_
      refine V_if_ne (tgt := 26) d_DC_kth_21 (by decide) (fun b21 => ?_) (fun b21 => ?_)
      · have hpl := b2in.mp b21
        obtain ⟨x, hx, rfl⟩ := isPl_iff.mp hpl
        have hget := List.getElem?_eq_getElem hx
        have hmem := List.getElem_mem hx
        have hop : opKth S (nI x) = (1, (S.1, S.2.1, lay (dN S.1) (LC S.1 S.2.1)[x], S.2.2.2)) := by
          unfold opKth
          rw [if_pos hz, if_pos hpl, nI_clamp (by omega), List.getD_eq_getElem?_getD, hget]
          rfl
        rw [hop]
        clear hop
        generalize (LC S.1 S.2.1)[x] = q at *
        have hpq := (LC_is ok.1 hmem).1
        have hsq : (sq S.1 (wfr true S.2.1) (wK S.2.1) (cI (inN S.1)) (bdg S.1 (wfr true S.2.1)))[x]? = some q := by
          have e := LC_sq (w := wfr true S.2.1) ok.1 (ok.2.1.fr true)
          rw [LC_wf] at e
          rw [e] at hget
          exact hget
        refine V_aload_n d_DC_kth_26 rfl ?_
        refine V_getR d_DC_kth_27 f_DC_53 rfl (by first | rfl | assumption) (by first | rfl | assumption) ?_
        refine V_iload_n d_DC_kth_30 rfl ?_
        refine V_aload_n d_DC_kth_31 rfl ?_
        refine V_getR d_DC_kth_32 f_DC_36 rfl (by first | rfl | assumption) (by first | rfl | assumption) ?_
        refine V_callV d_DC_kth_35 k_DC_228 rfl (c_lay hb.1 q1.2.2.1 ok.2.2.1 ok.2.2.2.1 hsq hpq) (by first | rfl | assumption) rfl rfl (by first | decide | omega) rfl (Nat.le_of_ble_eq_true rfl) (fun v_ h_ q_ => ?_)
        obtain ⟨rfl, r1, r2, r3⟩ := q_
        show V E _ m_DC_kth _ 38 _ [] _
        refine V_iconst (v := 1) d_DC_kth_38 (by decide) ?_
        refine V_iret d_DC_kth_39 rfl ?_
        refine ⟨rfl, ⟨q1.1.of (fun z _ _ => r1 z (by omega) (by omega) (by omega) (by omega)), q1.2.1.of (fun z _ _ => r1 z (by omega) (by omega) (by omega) (by omega)), r3, q1.2.2.2.1.of (r1 _ (by omega) (by omega) (by omega) (by omega)) (r1 _ (by omega) (by omega) (by omega) (by omega)), ?_⟩, fun z hz => by rw [r1 z (by omega) (by omega) (by omega) (by omega), q2 z hz]⟩
        exact Or.inr ⟨by rw [r1 _ (by omega) (by omega) (by omega) (by omega)]; exact hb.2.1, r2.2.2.2.2, by rw [r1 _ (by omega) (by omega) (by omega) (by omega)]; exact hb.2.2⟩
      · have hpl := b2i.mp b21
        refine V_iconst (v := -1) d_DC_kth_24 (by decide) ?_
        refine V_iret d_DC_kth_25 rfl ?_
        have hop : opKth S i = (-1, S) := by unfold opKth; rw [if_pos hz, if_neg (by rw [hpl]; decide)]
        rw [hop]
        exact ⟨rfl, q1, q2⟩
    · exact absurd (by decide) b8
  · rw [if_neg hz]
    show V E _ m_DC_kth _ 6 _ [.int (szI S)] _
    refine V_istore_n d_DC_kth_6 (by decide) ?_
    dsimp only [List.set]
    refine V_iload_n d_DC_kth_7 rfl ?_
    refine V_if_ge (tgt := 13) d_DC_kth_8 (by decide) (fun b8 => ?_) (fun b8 => ?_)
    · exact absurd b8 (fun z => (fa_of_lt (sz_neg hz)).2.1 z)
    · refine V_iload_n d_DC_kth_11 rfl ?_
      refine V_iret d_DC_kth_12 rfl ?_
      have hop : opKth S i = (szI S, S) := by unfold opKth; rw [if_neg hz]
      rw [hop]
      exact ⟨rfl, q1, q2⟩
