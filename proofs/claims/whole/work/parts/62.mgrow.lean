/-! the model's part() and grow(): all partings into so many sets -/
noncomputable def gdB (D : LD) (w : LW) (S : Int32) : Bool := hang D (cs S) && fitN (wK w) (wT w) (pplN D (cs S)) (tot D)
def pt (n : Nat) (G : Int32 → Bool) : Nat → Int32 → List (List Int32)
  | 0, R => if R = 0 then [[]] else []
  | l + 1, R => (subs n R).flatMap (fun S => if G S then (pt n G l (dif R S)).map (fun t => S :: t) else [])
def ptQ (D : LD) (a : Pa) (k : Nat) (h : Hp) (d : Nat) (z : Zt) : Option Value → Hp → Prop := fun v h' => v = none ∧ cFr h h' ∧ (∀ i, i < d → h' 60 i = h 60 i) ∧ (∃ ds, MoDs h' ds ∧ ∀ p, dN D ≤ p → ds p = 0) ∧ zM h' k a z
noncomputable def foZ (D : LD) (w : LW) (a : Pa) (pre : List Int32) (z : Zt) (L : List (List Int32)) : Zt := L.foldl (fun z t => zsp D w a z (pre ++ t)) z
def paS (D : LD) (w : LW) (a : Pa) (h : Hp) (pre : List Int32) (R : Int32) (z : Zt) : Prop := MoLand h D ∧ MoLaw h w ∧ (∃ ds, MoDs h ds ∧ ∀ p, dN D ≤ p → ds p = 0) ∧ paM h (wK w) a ∧ zM h (wK w) a z ∧ (∀ S ∈ pre, hi0 S) ∧ (∀ i, i < pre.length → h 60 i = mI (cs (gD pre i))) ∧ inS (dN D) R ∧ ∀ p, p < dN D → cs R p = true ∨ ∃ i, i < pre.length ∧ cs (gD pre i) p = true
theorem paS.to {D : LD} {w : LW} {a : Pa} {h h' : Hp} {pre : List Int32} {R : Int32} {z z' : Zt} (hs : paS D w a h pre R z) (hq : ptQ D a (wK w) h pre.length z' none h') : paS D w a h' pre R z' := by
  obtain ⟨h1, h2, h3, h4, h5, h6, h7, h8, h9⟩ := hs
  obtain ⟨-, q1, q2, q3, q4⟩ := hq
  exact ⟨h1.of q1.keep, h2.of q1.keep, q3, h4.of q1, q4, h6, fun i hi => by rw [q2 i hi]; exact h7 i hi, h8, h9⟩
def PartC (E : Wd) (D : LD) (w : LW) (a : Pa) (l : Nat) : Prop := ∀ {h : Hp} {pre : List Int32} {R : Int32} {z : Zt}, paS D w a h pre R z → pre.length + l = wK w → Cq E (6 + 32 * l) m_Mo_part [.ref 41, .int (nI pre.length), .int (mI (cs R))] h (ptQ D a (wK w) h pre.length (foZ D w a pre z (pt (dN D) (gdB D w) l R)))
theorem gD_app_l {a b : List Int32} {d : Nat} (h : d < a.length) : gD (a ++ b) d = gD a d := by
  unfold gD
  rw [List.getD_eq_getElem?_getD, List.getD_eq_getElem?_getD, List.getElem?_append_left h]
theorem gD_app_r (a : List Int32) (x : Int32) (b : List Int32) : gD (a ++ x :: b) a.length = x := by
  unfold gD
  rw [List.getD_eq_getElem?_getD, List.getElem?_append_right (Nat.le_refl _), Nat.sub_self]
  rfl
theorem foZ_app (D : LD) (w : LW) (a : Pa) (pre : List Int32) (z : Zt) (L L' : List (List Int32)) : foZ D w a pre z (L ++ L') = foZ D w a pre (foZ D w a pre z L) L' := List.foldl_append
theorem foZ_map (D : LD) (w : LW) (a : Pa) (pre : List Int32) (S : Int32) (z : Zt) (L : List (List Int32)) : foZ D w a pre z (L.map (fun t => S :: t)) = foZ D w a (pre ++ [S]) z L := by
  have e : (fun (z : Zt) (t : List Int32) => zsp D w a z (pre ++ S :: t)) = fun z t => zsp D w a z ((pre ++ [S]) ++ t) := by
    funext z t
    rw [List.append_assoc, List.singleton_append]
  unfold foZ
  rw [List.foldl_map, e]
theorem c_grow {E : Wd} {D : LD} {w : LW} (ok : okLD D) (okw : okLW w) {a : Pa} {l : Nat} (hp : PartC E D w a l) : ∀ (m : Nat) {h : Hp} {pre : List Int32} {R B : Int32} {p : Nat} {z : Zt}, paS D w a h pre R z → pre.length + (l + 1) = wK w → p + m = dN D → hi0 B → (∀ j, p ≤ j → j < 30 → cs B j = false) → (∀ j, j < 30 → cs B j = true → cs R j = true) → B ≠ 0 →
    Cq E (7 + 32 * l + m) m_Mo_grow [.ref 41, .int (nI pre.length), .int (mI (cs B)), .int (nI p), .int (mI (cs R))] h (ptQ D a (wK w) h pre.length (foZ D w a pre z ((gr R m p B).flatMap (fun S => if gdB D w S then (pt (dN D) (gdB D w) l (dif R S)).map (fun t => S :: t) else [])))) := by
  intro m
  have hn := ok.1
  have hk6 := okw.2.1
  induction m with
  | zero =>
    intro h pre R B p z hs hlen hpm hB hB0 hBR hBne
    have hpn : p = dN D := by omega
    subst hpn
    obtain ⟨h1, h2, ⟨ds, h3, h3'⟩, h4, h5, h6, h7, h8, h9⟩ := id hs
    have hsub : ∀ j, j < 30 → cs B j = true → j < dN D := fun j hj hb => h8.2 j hj (hBR j hj hb)
    obtain ⟨x, hx⟩ := cs_ne0 hB hBne
    have hgr : (gr R 0 (dN D) B).flatMap (fun S => if gdB D w S then (pt (dN D) (gdB D w) l (dif R S)).map (fun t => S :: t) else []) = if gdB D w B then (pt (dN D) (gdB D w) l (dif R B)).map (fun t => B :: t) else [] := by
      rw [gr]; simp
    rw [hgr]
    have stay : gdB D w B = false → ptQ D a (wK w) h pre.length (foZ D w a pre z (if gdB D w B then (pt (dN D) (gdB D w) l (dif R B)).map (fun t => B :: t) else [])) none h := by
      intro hb
      rw [hb]
      exact ⟨rfl, cFr.rf h, fun _ _ => rfl, ⟨ds, h3, h3'⟩, h5⟩
    refine Cq_of2 ok_Mo_grow rfl (Nat.le_of_ble_eq_true rfl) (L := [some (.ref 41), some (.int (nI pre.length)), some (.int (mI (cs B))), some (.int (nI (dN D))), some (.int (mI (cs R)))]) rfl ?_
    refine V_iload_n d_Mo_grow_0 rfl ?_
    refine V_aload_n d_Mo_grow_1 rfl ?_
    refine V_getI d_Mo_grow_2 f_Mo_91 rfl (by first | rfl | assumption) (by first | rfl | assumption) ?_
    rw [h1.1]
    refine V_icmp_ne (tgt := 46) d_Mo_grow_5 (by decide) (fun b5 => ?_) (fun b5 => ?_)
    · exact absurd rfl b5
    · refine V_aload_n d_Mo_grow_8 rfl ?_
      refine V_iload_n d_Mo_grow_9 rfl ?_
      refine V_callV1 d_Mo_grow_10 k_Mo_124 rfl (c_reached h1 ok hsub hx) (by first | rfl | assumption) rfl rfl (by first | decide | omega) rfl (Nat.le_of_ble_eq_true rfl) ?_
      refine V_iload_n d_Mo_grow_13 rfl ?_
      refine V_icmp_ne (tgt := 45) d_Mo_grow_14 (by decide) (fun b14 => ?_) (fun b14 => ?_)
      · refine V_vret d_Mo_grow_45 rfl ?_
        refine stay ?_
        unfold gdB
        cases hh : hang D (cs B) with
        | false => rfl
        | true => exact absurd ((hang_reach hx).mpr hh) b14
      · have hh := (hang_reach hx).mp b14
        refine V_aload_n d_Mo_grow_17 rfl ?_
        refine V_iload_n d_Mo_grow_18 rfl ?_
        refine V_callV1 d_Mo_grow_19 k_Mo_133 rfl (c_Mfits h1 ok h2 okw (cs B)) (by first | rfl | assumption) rfl rfl (by first | decide | omega) rfl (Nat.le_of_ble_eq_true rfl) ?_
        refine V_if_eq (tgt := 45) d_Mo_grow_22 (by decide) (fun b22 => ?_) (fun b22 => ?_)
        · refine V_vret d_Mo_grow_45 rfl ?_
          refine stay ?_
          unfold gdB
          rw [b2i.mp b22, Bool.and_false]
        · have hg : gdB D w B = true := by
            unfold gdB
            rw [hh, b2in.mp b22]
            rfl
          rw [hg, if_pos rfl, foZ_map]
          have hin : vp_in (nI pre.length) 6 := vp_in_nI (by omega) (by omega)
          refine V_aload_n d_Mo_grow_25 rfl ?_
          refine V_getR d_Mo_grow_26 f_Mo_75 rfl (by first | rfl | assumption) (by first | rfl | assumption) ?_
          refine V_iload_n d_Mo_grow_29 rfl ?_
          refine V_iload_n d_Mo_grow_30 rfl ?_
          refine V_iast d_Mo_grow_31 (by first | rfl | assumption) (by first | assumption | exact vp_in_nI (by omega) (by omega)) ?_
          refine V_aload_n d_Mo_grow_32 rfl ?_
          refine V_iload_n d_Mo_grow_33 rfl ?_
          refine V_iconst (v := 1) d_Mo_grow_34 (by decide) ?_
          refine V_iadd d_Mo_grow_35 ?_
          refine V_iload d_Mo_grow_36 rfl ?_
          refine V_iload_n d_Mo_grow_38 rfl ?_
          refine V_iconst (v := -1) d_Mo_grow_39 (by decide) ?_
          refine V_ixor d_Mo_grow_40 ?_
          refine V_iand d_Mo_grow_41 ?_
          rw [nI_clamp (by omega), nI_1, mI_dif, hup_row]
          have e1 : mI (fun j => cs R j && !cs B j) = mI (cs (dif R B)) := mI_cong (fun j _ => (dif_cs R B j).symm)
          rw [e1]
          have fr1 : cFr h (hrow h 60 (upd (h 60) pre.length (mI (cs B)))) := cFr.row (Or.inr (Or.inl rfl))
          have hlen2 : (pre ++ [B]).length = pre.length + 1 := by simp
          have hs1 : paS D w a (hrow h 60 (upd (h 60) pre.length (mI (cs B)))) (pre ++ [B]) (dif R B) z := by
            refine ⟨h1.of fr1.keep, h2.of fr1.keep, ⟨ds, h3.of (hrow_ne (by omega)), h3'⟩, h4.of fr1, ?_, ?_, ?_, h8.dif, ?_⟩
            · obtain ⟨z1, z2, z3, z4, z5⟩ := h5
              exact ⟨by rw [hrow_ne (by omega)]; exact z1, by rw [hrow_ne (by omega)]; exact z2, fun c d hd => by rw [hrow_ne (by omega)]; exact z3 c d hd, fun c1 c2 => by rw [hrow_ne (by omega)]; exact z4 c1 c2, fun s hs => by rw [hrow_ne (by omega)]; exact z5 s hs⟩
            · intro S hS
              rcases List.mem_append.mp hS with q | q
              · exact h6 S q
              · rw [List.mem_singleton.mp q]; exact hB
            · intro i hi
              rw [hrow_same]
              by_cases c : i = pre.length
              · subst c
                rw [upd_s, gD_app_r]
              · rw [upd_n c, gD_app_l (by omega)]
                exact h7 i (by omega)
            · intro j hj
              rw [dif_cs]
              rcases h9 j hj with q | ⟨i, hi, q⟩
              · cases hb : cs B j with
                | false => exact Or.inl (by rw [q]; rfl)
                | true => exact Or.inr ⟨pre.length, by omega, by rw [gD_app_r]; exact hb⟩
              · exact Or.inr ⟨i, by omega, by rw [gD_app_l hi]; exact q⟩
          have hc := hp hs1 (by omega)
          rw [hlen2] at hc
          refine V_callV d_Mo_grow_42 k_Mo_160 rfl (hc) (by first | rfl | assumption) rfl rfl (by first | decide | omega) rfl (Nat.le_of_ble_eq_true rfl) (fun v_ h_ q_ => ?_)
          obtain ⟨rfl, q1, q2, q3, q4⟩ := q_
          show V E _ m_Mo_grow _ 45 _ [] _
          refine V_vret d_Mo_grow_45 rfl ?_
          exact ⟨rfl, fr1.tr q1, fun i hi => by rw [q2 i (by omega), hrow_same, upd_n (by omega)], q3, q4⟩
  | succ m ih =>
    intro h pre R B p z hs hlen hpm hB hB0 hBR hBne
    have hp30 : p < 30 := by omega
    obtain ⟨h1, h2, h3, h4, h5, h6, h7, h8, h9⟩ := id hs
    rw [gr, List.flatMap_append, foZ_app]
    have second : ∀ {h' : Hp}, ptQ D a (wK w) h pre.length (foZ D w a pre z ((if cs R p then gr R m (p + 1) (B ||| onl p) else []).flatMap (fun S => if gdB D w S then (pt (dN D) (gdB D w) l (dif R S)).map (fun t => S :: t) else []))) none h' →
        V E (7 + 32 * l + (m + 1)) m_Mo_grow (ptQ D a (wK w) h pre.length (foZ D w a pre (foZ D w a pre z ((if cs R p then gr R m (p + 1) (B ||| onl p) else []).flatMap (fun S => if gdB D w S then (pt (dN D) (gdB D w) l (dif R S)).map (fun t => S :: t) else []))) ((gr R m (p + 1) B).flatMap (fun S => if gdB D w S then (pt (dN D) (gdB D w) l (dif R S)).map (fun t => S :: t) else [])))) 70 [some (.ref 41), some (.int (nI pre.length)), some (.int (mI (cs B))), some (.int (nI p)), some (.int (mI (cs R)))] [] h' := by
      intro h' hq
      have hs' := hs.to hq
      refine V_aload_n d_Mo_grow_70 rfl ?_
      refine V_iload_n d_Mo_grow_71 rfl ?_
      refine V_iload_n d_Mo_grow_72 rfl ?_
      refine V_iload_n d_Mo_grow_73 rfl ?_
      refine V_iconst (v := 1) d_Mo_grow_74 (by decide) ?_
      refine V_iadd d_Mo_grow_75 ?_
      refine V_iload d_Mo_grow_76 rfl ?_
      rw [nI_1]
      refine V_callV d_Mo_grow_78 k_Mo_156 rfl (ih hs' hlen (show p + 1 + m = dN D by omega) hB (fun j c1 c2 => hB0 j (by omega) c2) hBR hBne) (by first | rfl | assumption) rfl rfl (by first | decide | omega) rfl (Nat.le_of_ble_eq_true rfl) (fun v_ h_ q_ => ?_)
      obtain ⟨rfl, q1, q2, q3, q4⟩ := q_
      show V E _ m_Mo_grow _ 81 _ [] _
      refine V_vret d_Mo_grow_81 rfl ?_
      exact ⟨rfl, hq.2.1.tr q1, fun i hi => by rw [q2 i hi]; exact hq.2.2.1 i hi, q3, q4⟩
    refine Cq_of2 ok_Mo_grow rfl (Nat.le_of_ble_eq_true rfl) (L := [some (.ref 41), some (.int (nI pre.length)), some (.int (mI (cs B))), some (.int (nI p)), some (.int (mI (cs R)))]) rfl ?_
    refine V_iload_n d_Mo_grow_0 rfl ?_
    refine V_aload_n d_Mo_grow_1 rfl ?_
    refine V_getI d_Mo_grow_2 f_Mo_91 rfl (by first | rfl | assumption) (by first | rfl | assumption) ?_
    rw [h1.1]
    refine V_icmp_ne (tgt := 46) d_Mo_grow_5 (by decide) (fun b5 => ?_) (fun b5 => ?_)
    · refine V_iload d_Mo_grow_46 rfl ?_
      refine V_iload_n d_Mo_grow_48 rfl ?_
      refine V_callS1 d_Mo_grow_49 k_Mo_98 rfl (c_Mhas h (mI (cs R)) (show p < 32 by omega)) rfl (by first | decide | omega) rfl (Nat.le_of_ble_eq_true rfl) ?_
      rw [mI_b hp30]
      refine V_if_eq (tgt := 70) d_Mo_grow_52 (by decide) (fun b52 => ?_) (fun b52 => ?_)
      · refine second ?_
        rw [b2i.mp b52]
        exact ⟨rfl, cFr.rf h, fun _ _ => rfl, h3, h5⟩
      · have hR := b2in.mp b52
        refine V_aload_n d_Mo_grow_55 rfl ?_
        refine V_iload_n d_Mo_grow_56 rfl ?_
        refine V_iload_n d_Mo_grow_57 rfl ?_
        refine V_iconst (v := 1) d_Mo_grow_58 (by decide) ?_
        refine V_iload_n d_Mo_grow_59 rfl ?_
        refine V_ishl d_Mo_grow_60 ?_
        refine V_ior d_Mo_grow_61 ?_
        refine V_iload_n d_Mo_grow_62 rfl ?_
        refine V_iconst (v := 1) d_Mo_grow_63 (by decide) ?_
        refine V_iadd d_Mo_grow_64 ?_
        refine V_iload d_Mo_grow_65 rfl ?_
        rw [shl1 p hp30, mI_or, nI_1]
        have e1 : mI (fun j => cs B j || decide (j = p)) = mI (cs (B ||| onl p)) := mI_cong (fun j hj => (onl_or hp30 hj).symm)
        rw [e1]
        have hne : B ||| onl p ≠ 0 := by
          intro q
          have : cs (B ||| onl p) p = true := by rw [onl_or hp30 hp30]; simp
          rw [q, cs_0] at this
          cases this
        refine V_callV d_Mo_grow_67 k_Mo_156 rfl (ih hs hlen (show p + 1 + m = dN D by omega) (hi_or hB (onl_hi hp30)) (fun j c1 c2 => by rw [onl_or hp30 c2, hB0 j (by omega) c2, decide_eq_false (by omega)]; rfl) (fun j c1 c2 => by rw [onl_or hp30 c1] at c2; by_cases c : j = p; (rw [c]; exact hR); (rw [decide_eq_false c, Bool.or_false] at c2; exact hBR j c1 c2)) hne) (by first | rfl | assumption) rfl rfl (by first | decide | omega) rfl (Nat.le_of_ble_eq_true rfl) (fun v_ h_ q_ => ?_)
        obtain ⟨rfl, q1, q2, q3, q4⟩ := q_
        refine second ?_
        rw [if_pos hR]
        exact ⟨rfl, q1, q2, q3, q4⟩
    · have := (nI_eq (by omega) (by omega)).mp b5
      omega
theorem c_part {E : Wd} {D : LD} {w : LW} (ok : okLD D) (okw : okLW w) {a : Pa} : ∀ l, PartC E D w a l := by
  have hn := ok.1
  have hk6 := okw.2.1
  intro l
  induction l with
  | zero =>
    intro h pre R z hs hlen
    obtain ⟨h1, h2, ⟨ds, h3, h3'⟩, h4, h5, h6, h7, h8, h9⟩ := id hs
    have hlen : pre.length = wK w := by omega
    refine Cq_of2 ok_Mo_part rfl (Nat.le_of_ble_eq_true rfl) (L := [some (.ref 41), some (.int (nI pre.length)), some (.int (mI (cs R))), none]) rfl ?_
    refine V_iload_n d_Mo_part_0 rfl ?_
    refine V_aload_n d_Mo_part_1 rfl ?_
    refine V_getI d_Mo_part_2 f_Mo_34 rfl (by first | rfl | assumption) (by first | rfl | assumption) ?_
    rw [h2.1]
    refine V_icmp_ne (tgt := 17) d_Mo_part_5 (by decide) (fun b5 => ?_) (fun b5 => ?_)
    · exact absurd (by rw [hlen]) b5
    · refine V_iload_n d_Mo_part_8 rfl ?_
      refine V_if_ne (tgt := 16) d_Mo_part_9 (by decide) (fun b9 => ?_) (fun b9 => ?_)
      · refine V_vret d_Mo_part_16 rfl ?_
        have hR : R ≠ 0 := fun q => b9 (by rw [q]; exact mI_eq0.mpr (fun j _ => cs_0 j))
        have e : pt (dN D) (gdB D w) 0 R = [] := by rw [pt, if_neg hR]
        rw [e]
        exact ⟨rfl, cFr.rf h, fun _ _ => rfl, ⟨ds, h3, h3'⟩, h5⟩
      · have hR : R = 0 := cs_ext h8.1 (fun i _ => b_0 i) (fun j hj => by rw [mI_eq0.mp b9 j hj, cs_0])
        have e : pt (dN D) (gdB D w) 0 R = [[]] := by rw [pt, if_pos hR]
        rw [e]
        refine V_aload_n d_Mo_part_12 rfl ?_
        refine V_callV d_Mo_part_13 k_Mo_153 rfl (c_whole h1 ok h2 okw h3 h3' hlen h6 (fun d hd => h7 d (by omega)) (fun p hp => (h9 p hp).elim (fun q => by rw [hR, cs_0] at q; cases q) (fun ⟨i, hi, q⟩ => ⟨i, by omega, q⟩)) h4 h5) (by first | rfl | assumption) rfl rfl (by first | decide | omega) rfl (Nat.le_of_ble_eq_true rfl) (fun v_ h_ q_ => ?_)
        obtain ⟨rfl, q1, q2, q3, q4⟩ := q_
        show V E _ m_Mo_part _ 16 _ [] _
        refine V_vret d_Mo_part_16 rfl ?_
        refine ⟨rfl, q1, fun i _ => by rw [q2], ⟨_, q3, fun p hp => ?_⟩, ?_⟩
        · unfold lay
          rw [if_neg (by omega)]
        · show zM h_ (wK w) a (zsp D w a z (pre ++ []))
          rw [List.append_nil]
          exact q4
  | succ l ih =>
    intro h pre R z hs hlen
    obtain ⟨h1, h2, h3, h4, h5, h6, h7, h8, h9⟩ := id hs
    refine Cq_of2 ok_Mo_part rfl (Nat.le_of_ble_eq_true rfl) (L := [some (.ref 41), some (.int (nI pre.length)), some (.int (mI (cs R))), none]) rfl ?_
    refine V_iload_n d_Mo_part_0 rfl ?_
    refine V_aload_n d_Mo_part_1 rfl ?_
    refine V_getI d_Mo_part_2 f_Mo_34 rfl (by first | rfl | assumption) (by first | rfl | assumption) ?_
    rw [h2.1]
    refine V_icmp_ne (tgt := 17) d_Mo_part_5 (by decide) (fun b5 => ?_) (fun b5 => ?_)
    · refine V_iload_n d_Mo_part_17 rfl ?_
      refine V_if_eq (tgt := 38) d_Mo_part_18 (by decide) (fun b18 => ?_) (fun b18 => ?_)
      · refine V_vret d_Mo_part_38 rfl ?_
        have hR : R = 0 := cs_ext h8.1 (fun i _ => b_0 i) (fun j hj => by rw [mI_eq0.mp b18 j hj, cs_0])
        have e : pt (dN D) (gdB D w) (l + 1) R = [] := by rw [pt, hR, subs_0]; rfl
        rw [e]
        exact ⟨rfl, cFr.rf h, fun _ _ => rfl, h3, h5⟩
      · have hR : R ≠ 0 := fun q => b18 (by rw [q]; exact mI_eq0.mpr (fun j _ => cs_0 j))
        obtain ⟨x, hx⟩ := cs_ne0 h8.1 hR
        obtain ⟨x1, x2, x3⟩ := fstO_lt hx
        have hxn := h8.2 x x1 x2
        refine V_iload_n d_Mo_part_21 rfl ?_
        refine V_callS1 d_Mo_part_22 k_Mo_109 rfl (c_leastOf h hx) rfl (by first | decide | omega) rfl (Nat.le_of_ble_eq_true rfl) ?_
        refine V_istore_n d_Mo_part_25 (by decide) ?_
        dsimp only [List.set]
        refine V_aload_n d_Mo_part_26 rfl ?_
        refine V_iload_n d_Mo_part_27 rfl ?_
        refine V_iconst (v := 1) d_Mo_part_28 (by decide) ?_
        refine V_iload_n d_Mo_part_29 rfl ?_
        refine V_ishl d_Mo_part_30 ?_
        refine V_iload_n d_Mo_part_31 rfl ?_
        refine V_iconst (v := 1) d_Mo_part_32 (by decide) ?_
        refine V_iadd d_Mo_part_33 ?_
        refine V_iload_n d_Mo_part_34 rfl ?_
        rw [shl1 x x1, nI_1]
        have e1 : mI (fun j => decide (j = x)) = mI (cs (onl x)) := mI_cong (fun j hj => (cs_onl x1 hj).symm)
        rw [e1]
        have hne : onl x ≠ 0 := by
          intro q
          have : cs (onl x) x = true := by rw [cs_onl x1 x1]; simp
          rw [q, cs_0] at this
          cases this
        have hc := c_grow (E := E) ok okw ih (dN D - (x + 1)) (B := onl x) (p := x + 1) hs hlen (by omega) (onl_hi x1) (onl_cs0 x1) (fun j c1 c2 => by rw [cs_onl x1 c1] at c2; rw [show j = x by simpa using c2]; exact x2) hne
        refine V_callV d_Mo_part_35 k_Mo_156 rfl (hc) (by first | rfl | assumption) rfl rfl (by first | decide | omega) rfl (Nat.le_of_ble_eq_true rfl) (fun v_ h_ q_ => ?_)
        obtain ⟨rfl, q1, q2, q3, q4⟩ := q_
        show V E _ m_Mo_part _ 38 _ [] _
        refine V_vret d_Mo_part_38 rfl ?_
        have e : pt (dN D) (gdB D w) (l + 1) R = (gr R (dN D - (x + 1)) (x + 1) (onl x)).flatMap (fun S => if gdB D w S then (pt (dN D) (gdB D w) l (dif R S)).map (fun t => S :: t) else []) := by rw [pt, subs_eq hx]
        rw [e]
        exact ⟨rfl, q1, q2, q3, q4⟩
    · have := (nI_eq (by omega) (by omega)).mp b5
      omega
