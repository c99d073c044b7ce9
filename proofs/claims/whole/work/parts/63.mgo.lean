/-! the model's goThrough() -/
noncomputable def nxO (D : LD) (ds : Nat → Nat) (R : Int32) : Int32 := match fstO (cs R) 30 with
  | none => 0
  | some x => cI (dP D ds (ds x))
noncomputable def rsO (D : LD) (ds : Nat → Nat) : Nat → Int32
  | 0 => cI (inN D)
  | i + 1 => dif (rsO D ds i) (nxO D ds (rsO D ds i))
noncomputable def ownQ (D : LD) (ds : Nat → Nat) (k : Nat) : List Int32 := (List.range k).map (fun i => nxO D ds (rsO D ds i))
theorem ownQ_len (D : LD) (ds : Nat → Nat) (k : Nat) : (ownQ D ds k).length = k := by unfold ownQ; simp
theorem ownQ_gD {D : LD} {ds : Nat → Nat} {k d : Nat} (h : d < k) : gD (ownQ D ds k) d = nxO D ds (rsO D ds d) := by
  unfold gD ownQ
  rw [List.getD_eq_getElem?_getD, List.getElem?_map, List.getElem?_range h, Option.map_some, Option.getD_some]
theorem nxO_hi (D : LD) (ds : Nat → Nat) (R : Int32) : hi0 (nxO D ds R) := by
  unfold nxO
  split
  · exact fun i _ => b_0 i
  · exact cI_hi _
theorem ownQ_hi {D : LD} {ds : Nat → Nat} {k : Nat} : ∀ S ∈ ownQ D ds k, hi0 S := by
  intro S hS
  unfold ownQ at hS
  obtain ⟨i, -, rfl⟩ := List.mem_map.mp hS
  exact nxO_hi D ds _
theorem nxO_0 (D : LD) (ds : Nat → Nat) : nxO D ds 0 = 0 := by
  unfold nxO
  rw [fst_0]
theorem rsO_0 {D : LD} {ds : Nat → Nat} {n : Nat} (h : rsO D ds n = 0) : ∀ i, rsO D ds (n + i) = 0
  | 0 => h
  | i + 1 => by
    rw [show n + (i + 1) = (n + i) + 1 by omega, rsO, rsO_0 h i, nxO_0]
    decide
/-- the rest behind those districts that c names -/
def rsI (D : LD) (ds : Nat → Nat) (c : Nat → Bool) (R : Int32) : Prop := hi0 R ∧ ∀ j, j < 30 → cs R j = (decide (j < dN D) && !c (ds j))
theorem rsI.fst {D : LD} {ds : Nat → Nat} {c : Nat → Bool} {R : Int32} (h : rsI D ds c R) {x : Nat} (hx : fstO (cs R) 30 = some x) : x < dN D ∧ c (ds x) = false := by
  obtain ⟨h1, h2, h3⟩ := fstO_lt hx
  rw [h.2 x h1] at h2
  simp at h2
  exact h2
theorem rsI.nx {D : LD} {ds : Nat → Nat} {c : Nat → Bool} {R : Int32} (h : rsI D ds c R) {x : Nat} (hx : fstO (cs R) 30 = some x) : rsI D ds (fun d => c d || decide (d = ds x)) (dif R (nxO D ds R)) := by
  refine ⟨dif_hi h.1, fun j hj => ?_⟩
  rw [dif_cs, h.2 j hj]
  unfold nxO
  rw [hx]
  show (_ && !cs (cI (dP D ds (ds x))) j) = _
  rw [cI_cs _ hj]
  unfold dP inN
  dsimp only
  cases decide (j < dN D) <;> cases c (ds j) <;> cases decide (ds j = ds x) <;> rfl
theorem cnt_00 : ∀ n, fa_cnt (fun _ => false) n = 0
  | 0 => rfl
  | n + 1 => by rw [fa_cnt_no rfl]; exact cnt_00 n
theorem cnt_add {c : Nat → Bool} {e k : Nat} (he : e < k) (hc : c e = false) : fa_cnt (fun d => c d || decide (d = e)) k = fa_cnt c k + 1 := by
  rw [cnt_take (p := fun d => c d || decide (d = e)) (j := e) (by simp) he]
  congr 1
  apply fa_cnt_cong
  intro i hi
  by_cases q : i = e
  · subst q; simp [hc]
  · simp [q]
def zI : Zt := (0, -1, [], 0, fun _ => 0)
noncomputable def paO (D : LD) (w : LW) (ds : Nat → Nat) (x m : Int32) : Pa := (ownQ D ds (wK w), x, m, if m < 0 then 0 else val D w ds m.toNatClampNeg)
noncomputable def goZ (S : ST) (x m : Int32) : Zt := foZ S.1 S.2.1 (paO S.1 S.2.1 S.2.2.1 x m) [] zI (pt (dN S.1) (gdB S.1 S.2.1) (wK S.2.1) (cI (inN S.1)))
def eFr (h h' : Hp) : Prop := (∀ q, q < 41 → h' q = h q) ∧ mKeep h h' ∧ h' 41 27 = h 41 27 ∧ h' 59 = h 59
theorem eFr.rf (h : Hp) : eFr h h := ⟨fun _ _ => rfl, mKeep.rf h, rfl, rfl⟩
theorem eFr.tr {h h' h2 : Hp} (a : eFr h h') (b : eFr h' h2) : eFr h h2 := ⟨fun q hq => (b.1 q hq).trans (a.1 q hq), a.2.1.tr b.2.1, b.2.2.1.trans a.2.2.1, b.2.2.2.trans a.2.2.2⟩
theorem eFr.row {h : Hp} {o : Nat} {f : Nat → Int32} (ho : 51 < o) (hs : o ≠ 59) : eFr h (hrow h o f) := ⟨fun q hq => hrow_ne (by omega), mKeep.row ho, by rw [hrow_ne (by omega)], hrow_ne (Ne.symm hs)⟩
theorem eFr.fld {h : Hp} {k : Nat} {x : Int32} (hk : 28 ≤ k) : eFr h (hup h 41 k x) := ⟨fun q hq => hup_ne (by omega), mKeep.fld (by omega), by rw [hup_same, upd_n (by omega)], hup_ne (by omega)⟩
theorem cFr.e {h h' : Hp} (a : cFr h h') : eFr h h' := ⟨fun q hq => a.1 q (by omega) (by omega) (by omega) (by omega) (by omega), a.keep, a.2 27 (by omega) (by omega) (by omega) (by omega) (by omega) (by omega), a.1 _ (by omega) (by omega) (by omega) (by omega) (by omega)⟩
theorem eFr.mo {h h' : Hp} {S : ST} (a : eFr h h') (hm : MoW h S) (hd : MoDs h' S.2.2.1) : MoW h' S := ⟨hm.1.of a.2.1, hm.2.1.of a.2.1, hd, by rw [a.2.2.1]; exact hm.2.2.2.1, by rw [a.2.2.2]; exact hm.2.2.2.2⟩
def goQ (h : Hp) (S : ST) (x m : Int32) : Option Value → Hp → Prop := fun v h' => v = none ∧ (MoW h' S ∧ ∀ q, q < 41 → h' q = h q) ∧ zM h' (wK S.2.1) (paO S.1 S.2.1 S.2.2.1 x m) (goZ S x m)
section Go
variable {E : Wd} {Q : Option Value → Hp → Prop} {u0 u1 u2 u3 u4 u5 : Option Value}
/-- from 36: what is own -/
theorem go_own {H : Hp} {S : ST} (hm : MoLand H S.1) (ok : okST S) (hd : MoDs H S.2.2.1)
    (k : ∀ u3 u4 g, (∀ d, d < 6 → g d = mI (cs (nxO S.1 S.2.2.1 (rsO S.1 S.2.2.1 d)))) → V E 205 m_Mo_goThrough Q 80 [u0, u1, u2, u3, u4, u5] [] (hrow H 61 g)) (hu : u0 = some (.ref 41)) :
    ∀ g, (∀ d, d < 6 → g d = 0) → V E 205 m_Mo_goThrough Q 36 [u0, u1, u2, some (.int (nI 0)), some (.int (mI (cs (rsO S.1 S.2.2.1 0)))), u5] [] (hrow H 61 g) := by
  subst hu
  have hk6 := ok.2.1.2.1
  have hN := ok.1.1
  have loop : ∀ n, n ≤ wK S.2.1 → ∀ (c : Nat → Bool) (g : Nat → Int32), rsI S.1 S.2.2.1 c (rsO S.1 S.2.2.1 n) → fa_cnt c (wK S.2.1) = n → (∀ d, d < n → g d = mI (cs (nxO S.1 S.2.2.1 (rsO S.1 S.2.2.1 d)))) → (∀ d, n ≤ d → d < 6 → g d = 0) → V E 205 m_Mo_goThrough Q 36 [some (.ref 41), u1, u2, some (.int (nI n)), some (.int (mI (cs (rsO S.1 S.2.2.1 n)))), u5] [] (hrow H 61 g) := by
    refine up_ind (wK S.2.1) ?_
    intro n hn ih c g hc hcn g1 g2
    refine V_iload d_Mo_goThrough_36 rfl ?_
    refine V_if_eq (tgt := 80) d_Mo_goThrough_38 (by decide) (fun b38 => ?_) (fun b38 => ?_)
    · have hR : rsO S.1 S.2.2.1 n = 0 := cs_ext hc.1 (fun i _ => b_0 i) (fun j hj => by rw [mI_eq0.mp b38 j hj, cs_0])
      refine k _ _ g (fun d hd6 => ?_)
      rcases Nat.lt_or_ge d n with q | q
      · exact g1 d q
      · have := rsO_0 hR (d - n)
        rw [show n + (d - n) = d by omega] at this
        rw [g2 d q hd6, this, nxO_0]
        exact (mI_eq0.mpr (fun j _ => cs_0 j)).symm
    · obtain ⟨x, hx⟩ : ∃ x, fstO (cs (rsO S.1 S.2.2.1 n)) 30 = some x := by
        cases hf : fstO (cs (rsO S.1 S.2.2.1 n)) 30 with
        | some x => exact ⟨x, rfl⟩
        | none => exact absurd (mI_eq0.mpr (fstO_none_iff.mp hf)) b38
      obtain ⟨x1, x2⟩ := hc.fst hx
      have hxk := ok.2.2.1 x x1
      have hadd := cnt_add hxk x2
      have hle := fa_cnt_le (fun d => c d || decide (d = S.2.2.1 x)) (wK S.2.1)
      have hnk : n < wK S.2.1 := by omega
      have hin : vp_in (nI n) 6 := vp_in_nI (by omega) (by omega)
      have hin2 : vp_in (nI x) 30 := vp_in_nI (by omega) (by omega)
      have fr : eFr H (hrow H 61 g) := eFr.row (by omega) (by omega)
      refine V_aload_n d_Mo_goThrough_41 rfl ?_
      refine V_getR d_Mo_goThrough_42 f_Mo_78 rfl (by first | rfl | assumption) (by first | rfl | assumption) ?_
      refine V_iload_n d_Mo_goThrough_45 rfl ?_
      refine V_aload_n d_Mo_goThrough_46 rfl ?_
      refine V_aload_n d_Mo_goThrough_47 rfl ?_
      refine V_getR d_Mo_goThrough_48 f_Mo_51 rfl (by first | rfl | assumption) (by first | rfl | assumption) ?_
      refine V_iload d_Mo_goThrough_51 rfl ?_
      refine V_callS1 d_Mo_goThrough_53 k_Mo_109 rfl (c_leastOf _ hx) rfl (by first | decide | omega) rfl (Nat.le_of_ble_eq_true rfl) ?_
      refine V_iald d_Mo_goThrough_56 (by first | rfl | assumption) (by first | assumption | exact vp_in_nI (by omega) (by omega)) ?_
      rw [nI_clamp (by omega), hrow_ne (by omega), (hd x (by omega)).2]
      refine V_callV1 d_Mo_goThrough_57 k_Mo_121 rfl (c_bitsOf (hm.of fr.2.1) ok.1 (hd.of (hrow_ne (by omega))) (show S.2.2.1 x < 2 ^ 31 by omega)) (by first | rfl | assumption) rfl rfl (by first | decide | omega) rfl (Nat.le_of_ble_eq_true rfl) ?_
      refine V_iast d_Mo_goThrough_60 (by first | rfl | assumption) (by first | assumption | exact vp_in_nI (by omega) (by omega)) ?_
      refine V_iload d_Mo_goThrough_61 rfl ?_
      refine V_aload_n d_Mo_goThrough_63 rfl ?_
      refine V_getR d_Mo_goThrough_64 f_Mo_78 rfl (by first | rfl | assumption) (by first | rfl | assumption) ?_
      refine V_iload_n d_Mo_goThrough_67 rfl ?_
      refine V_iald d_Mo_goThrough_68 (by first | rfl | assumption) (by first | assumption | exact vp_in_nI (by omega) (by omega)) ?_
      refine V_iconst (v := -1) d_Mo_goThrough_69 (by decide) ?_
      refine V_ixor d_Mo_goThrough_70 ?_
      refine V_iand d_Mo_goThrough_71 ?_
      refine V_istore d_Mo_goThrough_72 (by decide) ?_
      dsimp only [List.set]
      refine V_iincw (w := 1) d_Mo_goThrough_74 rfl (by decide) (by decide) ?_
      dsimp only [List.set]
      refine V_goto (tgt := 36) d_Mo_goThrough_77 (by decide) ?_
      rw [nI_clamp (by omega), hup_hrow, hrow_same, upd_s, mI_dif, nI_1]
      have e1 : mI (dP S.1 S.2.2.1 (S.2.2.1 x)) = mI (cs (nxO S.1 S.2.2.1 (rsO S.1 S.2.2.1 n))) := by
        unfold nxO
        rw [hx]
        exact mI_cong (fun j hj => (cI_cs _ hj).symm)
      have e2 : mI (fun j => cs (rsO S.1 S.2.2.1 n) j && !dP S.1 S.2.2.1 (S.2.2.1 x) j) = mI (cs (rsO S.1 S.2.2.1 (n + 1))) := by
        apply mI_cong
        intro j hj
        rw [rsO, dif_cs]
        unfold nxO
        rw [hx]
        show _ = (_ && !cs (cI (dP S.1 S.2.2.1 (S.2.2.1 x))) j)
        rw [cI_cs _ hj]
      rw [e2]
      refine ih hnk (fun d => c d || decide (d = S.2.2.1 x)) _ (hc.nx hx) (by omega) (fun d hd => ?_) (fun d h1 h2 => ?_)
      · by_cases q : d = n
        · rw [q, upd_s]; exact e1
        · rw [upd_n q]; exact g1 d (by omega)
      · rw [upd_n (by omega)]; exact g2 d (by omega) h2
  intro g hg
  refine loop 0 (Nat.zero_le _) (fun _ => false) g ⟨cI_hi _, fun j hj => ?_⟩ ?_ (fun d hd => absurd hd (Nat.not_lt_zero d)) (fun d _ h2 => hg d h2)
  · rw [rsO, cI_cs _ hj]
    unfold inN
    simp
  · exact cnt_00 _
end Go
theorem c_goThrough {E : Wd} {h : Hp} {S : ST} (hm : MoW h S) (ok : okST S) {x m : Int32} (hmm : ¬ m < 0 → ∃ y, y ≤ 6 ∧ m = nI y) : Cq E 205 m_Mo_goThrough [.ref 41, .int x, .int m] h (goQ h S x m) := by
  have hN := ok.1.1
  have hk6 := ok.2.1.2.1
  have hk1 := ok.2.1.1
  have call : (1 : Int32) <<< (nI (dN S.1) &&& 31) - 1 = mI (cs (cI (inN S.1))) := by
    rw [shl1m _ hN]
    exact mI_cong (fun j hj => (cI_cs (inN S.1) hj).symm)
  refine Cq_of2 ok_Mo_goThrough rfl (Nat.le_of_ble_eq_true rfl) (L := [some (.ref 41), some (.int x), some (.int m), none, none, none]) rfl ?_
  refine V_iconst (v := 0) d_Mo_goThrough_0 (by decide) ?_
  refine V_istore_n d_Mo_goThrough_1 (by decide) ?_
  dsimp only [List.set]
  refine V_iconst (v := 1) d_Mo_goThrough_2 (by decide) ?_
  refine V_aload_n d_Mo_goThrough_3 rfl ?_
  refine V_getI d_Mo_goThrough_4 f_Mo_91 rfl (by first | rfl | assumption) (by first | rfl | assumption) ?_
  rw [hm.1.1]
  refine V_ishl d_Mo_goThrough_7 ?_
  refine V_iconst (v := 1) d_Mo_goThrough_8 (by decide) ?_
  refine V_isub d_Mo_goThrough_9 ?_
  refine V_istore d_Mo_goThrough_10 (by decide) ?_
  dsimp only [List.set]
  refine V_iconst (v := 0) d_Mo_goThrough_12 (by decide) ?_
  refine V_istore d_Mo_goThrough_13 (by decide) ?_
  dsimp only [List.set]
  rw [call]
  -- behind the copying
  have fin : ∀ (H : Hp) u3 u4, eFr h H → (∀ p, p < dN S.1 → H 57 p = nI (S.2.2.1 p)) → (∃ ds, MoDs H ds ∧ ∀ p, dN S.1 ≤ p → ds p = 0) → zM H (wK S.2.1) (paO S.1 S.2.1 S.2.2.1 x m) (goZ S x m) → V E 205 m_Mo_goThrough (goQ h S x m) 185 [some (.ref 41), some (.int x), some (.int m), u3, u4, some (.int (nI (dN S.1)))] [] H := by
    intro H u3 u4 fr hb hd hz
    obtain ⟨ds, hd1, hd2⟩ := hd
    refine V_iconst (v := 0) d_Mo_goThrough_185 (by decide) ?_
    refine V_istore d_Mo_goThrough_186 (by decide) ?_
    dsimp only [List.set]
    have loop : ∀ i, i ≤ dN S.1 → ∀ g, isDs g (fun p => if p < i then S.2.2.1 p else ds p) → V E 205 m_Mo_goThrough (goQ h S x m) 188 [some (.ref 41), some (.int x), some (.int m), u3, u4, some (.int (nI i))] [] (hrow H 52 g) := by
      refine up_ind (dN S.1) ?_
      intro i hi ih g hg
      have fr2 : eFr h (hrow H 52 g) := fr.tr (eFr.row (by omega) (by omega))
      refine V_iload d_Mo_goThrough_188 rfl ?_
      refine V_aload_n d_Mo_goThrough_190 rfl ?_
      refine V_getI d_Mo_goThrough_191 f_Mo_91 rfl (by first | rfl | assumption) (by first | rfl | assumption) ?_
      rw [(hm.1.of fr2.2.1).1]
      refine V_icmp_ge (tgt := 217) d_Mo_goThrough_194 (by decide) (fun b194 => ?_) (fun b194 => ?_)
      · obtain rfl := ge_eq b194 rfl rfl (by omega) hi
        refine V_vret d_Mo_goThrough_217 rfl ?_
        refine ⟨rfl, ⟨fr2.mo hm (fun j hj => ?_), fr2.1⟩, ?_⟩
        · rw [hrow_same]
          have := hg j hj
          dsimp only at this
          by_cases c : j < dN S.1
          · rw [if_pos c] at this; exact this
          · rw [if_neg c, hd2 j (by omega)] at this
            rw [ok.2.2.2.1 j (by omega)]; exact this
        · obtain ⟨z1, z2, z3, z4, z5⟩ := hz
          exact ⟨by rw [hrow_ne (by omega)]; exact z1, by rw [hrow_ne (by omega)]; exact z2, fun c d hd => by rw [hrow_ne (by omega)]; exact z3 c d hd, fun c1 c2 => by rw [hrow_ne (by omega)]; exact z4 c1 c2, fun s hs => by rw [hrow_ne (by omega)]; exact z5 s hs⟩
      · have hin' := nge_lt b194 rfl rfl (by omega) hi
        have hin : vp_in (nI i) 30 := vp_in_nI (by omega) (by omega)
        refine V_aload_n d_Mo_goThrough_197 rfl ?_
        refine V_getR d_Mo_goThrough_198 f_Mo_51 rfl (by first | rfl | assumption) (by first | rfl | assumption) ?_
        refine V_iload d_Mo_goThrough_201 rfl ?_
        refine V_aload_n d_Mo_goThrough_203 rfl ?_
        refine V_getR d_Mo_goThrough_204 f_Mo_66 rfl (by first | rfl | assumption) (by first | rfl | assumption) ?_
        refine V_iload d_Mo_goThrough_207 rfl ?_
        refine V_iald d_Mo_goThrough_209 (by first | rfl | assumption) (by first | assumption | exact vp_in_nI (by omega) (by omega)) ?_
        refine V_iast d_Mo_goThrough_210 (by first | rfl | assumption) (by first | assumption | exact vp_in_nI (by omega) (by omega)) ?_
        refine V_iincw (w := 1) d_Mo_goThrough_211 rfl (by decide) (by decide) ?_
        dsimp only [List.set]
        refine V_goto (tgt := 188) d_Mo_goThrough_214 (by decide) ?_
        rw [nI_clamp (by omega), hup_hrow, hrow_ne (by omega), hb i hin', nI_1]
        refine ih hin' _ (fun p hp => ?_)
        dsimp only
        by_cases c : p = i
        · subst c
          rw [upd_s, if_pos (by omega)]
          exact ⟨ok.d6 p, rfl⟩
        · rw [upd_n c]
          have := hg p hp
          dsimp only at this
          by_cases c2 : p < i
          · rw [if_pos c2] at this; rw [if_pos (by omega)]; exact this
          · rw [if_neg c2] at this; rw [if_neg (by omega)]; exact this
    have h0 := loop 0 (Nat.zero_le _) (H 52) (fun p hp => by
      dsimp only
      rw [if_neg (Nat.not_lt_zero p)]
      exact hd1 p hp)
    rw [hrow_self] at h0
    exact h0
  -- from the copying on
  have cop : ∀ (H : Hp) u3 u4 u5, eFr h H → MoDs H S.2.2.1 → paM H (wK S.2.1) (paO S.1 S.2.1 S.2.2.1 x m) → zM H (wK S.2.1) (paO S.1 S.2.1 S.2.2.1 x m) zI → V E 205 m_Mo_goThrough (goQ h S x m) 140 [some (.ref 41), some (.int x), some (.int m), u3, u4, u5] [] H := by
    intro H u3 u4 u5 fr hd hp hz
    refine V_iconst (v := 0) d_Mo_goThrough_140 (by decide) ?_
    refine V_istore d_Mo_goThrough_141 (by decide) ?_
    dsimp only [List.set]
    have loop : ∀ i, i ≤ dN S.1 → V E 205 m_Mo_goThrough (goQ h S x m) 143 [some (.ref 41), some (.int x), some (.int m), u3, u4, some (.int (nI i))] [] (hrow H 57 (fa_fill (H 52) (H 57) i)) := by
      refine up_ind (dN S.1) ?_
      intro i hi ih
      have fr2 : eFr h (hrow H 57 (fa_fill (H 52) (H 57) i)) := fr.tr (eFr.row (by omega) (by omega))
      refine V_iload d_Mo_goThrough_143 rfl ?_
      refine V_aload_n d_Mo_goThrough_145 rfl ?_
      refine V_getI d_Mo_goThrough_146 f_Mo_91 rfl (by first | rfl | assumption) (by first | rfl | assumption) ?_
      rw [(hm.1.of fr2.2.1).1]
      refine V_icmp_ge (tgt := 172) d_Mo_goThrough_149 (by decide) (fun b149 => ?_) (fun b149 => ?_)
      · obtain rfl := ge_eq b149 rfl rfl (by omega) hi
        refine V_aload_n d_Mo_goThrough_172 rfl ?_
        refine V_iconst (v := 0) d_Mo_goThrough_173 (by decide) ?_
        refine V_iconst (v := 1) d_Mo_goThrough_174 (by decide) ?_
        refine V_aload_n d_Mo_goThrough_175 rfl ?_
        refine V_getI d_Mo_goThrough_176 f_Mo_91 rfl (by first | rfl | assumption) (by first | rfl | assumption) ?_
        refine V_ishl d_Mo_goThrough_179 ?_
        refine V_iconst (v := 1) d_Mo_goThrough_180 (by decide) ?_
        refine V_isub d_Mo_goThrough_181 ?_
        rw [(hm.1.of fr2.2.1).1, call]
        have hp2 : paM (hrow H 57 (fa_fill (H 52) (H 57) (dN S.1))) (wK S.2.1) (paO S.1 S.2.1 S.2.2.1 x m) := by
          obtain ⟨p1, p2, p3, p4, p5⟩ := hp
          exact ⟨by rw [hrow_ne (by omega)]; exact p1, by rw [hrow_ne (by omega)]; exact p2, by rw [hrow_ne (by omega)]; exact p3, fun d hd => by rw [hrow_ne (by omega)]; exact p4 d hd, p5⟩
        have hz2 : zM (hrow H 57 (fa_fill (H 52) (H 57) (dN S.1))) (wK S.2.1) (paO S.1 S.2.1 S.2.2.1 x m) zI := by
          obtain ⟨z1, z2, z3, z4, z5⟩ := hz
          exact ⟨by rw [hrow_ne (by omega)]; exact z1, by rw [hrow_ne (by omega)]; exact z2, fun c d hd => by rw [hrow_ne (by omega)]; exact z3 c d hd, fun c1 c2 => by rw [hrow_ne (by omega)]; exact z4 c1 c2, fun s hs => by rw [hrow_ne (by omega)]; exact z5 s hs⟩
        have hs : paS S.1 S.2.1 (paO S.1 S.2.1 S.2.2.1 x m) (hrow H 57 (fa_fill (H 52) (H 57) (dN S.1))) [] (cI (inN S.1)) zI := by
          refine ⟨hm.1.of fr2.2.1, hm.2.1.of fr2.2.1, ⟨S.2.2.1, hd.of (hrow_ne (by omega)), ok.2.2.2.1⟩, hp2, hz2, fun T hT => (by cases hT), fun i hi => absurd hi (Nat.not_lt_zero i), ⟨cI_hi _, fun j hj hb => ?_⟩, fun p hp => Or.inl ?_⟩
          · rw [cI_cs _ hj] at hb
            simpa [inN] using hb
          · rw [cI_cs _ (by omega)]
            simpa [inN] using hp
        have hc := c_part (E := E) ok.1 ok.2.1 (wK S.2.1) hs (Nat.zero_add _)
        refine V_callV d_Mo_goThrough_182 k_Mo_160 rfl (hc) (by first | rfl | assumption) rfl rfl (by first | decide | omega) rfl (Nat.le_of_ble_eq_true rfl) (fun v_ h_ q_ => ?_)
        obtain ⟨rfl, q1, q2, q3, q4⟩ := q_
        refine fin _ _ _ (fr2.tr q1.e) (fun p hp => ?_) q3 q4
        rw [q1.1 _ (by omega) (by omega) (by omega) (by omega) (by omega), hrow_same, fa_fill_in hp]
        exact (hd p (by omega)).2
      · have hin' := nge_lt b149 rfl rfl (by omega) hi
        have hin : vp_in (nI i) 30 := vp_in_nI (by omega) (by omega)
        refine V_aload_n d_Mo_goThrough_152 rfl ?_
        refine V_getR d_Mo_goThrough_153 f_Mo_66 rfl (by first | rfl | assumption) (by first | rfl | assumption) ?_
        refine V_iload d_Mo_goThrough_156 rfl ?_
        refine V_aload_n d_Mo_goThrough_158 rfl ?_
        refine V_getR d_Mo_goThrough_159 f_Mo_51 rfl (by first | rfl | assumption) (by first | rfl | assumption) ?_
        refine V_iload d_Mo_goThrough_162 rfl ?_
        refine V_iald d_Mo_goThrough_164 (by first | rfl | assumption) (by first | assumption | exact vp_in_nI (by omega) (by omega)) ?_
        refine V_iast d_Mo_goThrough_165 (by first | rfl | assumption) (by first | assumption | exact vp_in_nI (by omega) (by omega)) ?_
        refine V_iincw (w := 1) d_Mo_goThrough_166 rfl (by decide) (by decide) ?_
        dsimp only [List.set]
        refine V_goto (tgt := 143) d_Mo_goThrough_169 (by decide) ?_
        rw [nI_clamp (by omega), hup_hrow, hrow_ne (by omega), show upd (fa_fill (H 52) (H 57) i) i (H 52 i) = fa_fill (H 52) (H 57) (i + 1) from fa_fill_succ (H 52) (H 57) i, nI_1]
        exact ih hin'
    have h0 := loop 0 (Nat.zero_le _)
    rw [fa_fill_0, hrow_self] at h0
    exact h0
  -- the sides
  have sid : ∀ (H : Hp) u3 u4 u5, eFr h H → MoDs H S.2.2.1 → paM H (wK S.2.1) (paO S.1 S.2.1 S.2.2.1 x m) → H 41 30 = 0 → H 41 36 = -1 → V E 205 m_Mo_goThrough (goQ h S x m) 117 [some (.ref 41), some (.int x), some (.int m), u3, u4, u5] [] H := by
    intro H u3 u4 u5 fr hd hp hf ho
    refine V_iconst (v := 0) d_Mo_goThrough_117 (by decide) ?_
    refine V_istore d_Mo_goThrough_118 (by decide) ?_
    dsimp only [List.set]
    have loop : ∀ i, i ≤ 3 → V E 205 m_Mo_goThrough (goQ h S x m) 120 [some (.ref 41), some (.int x), some (.int m), u3, u4, some (.int (nI i))] [] (hrow H 62 (fa_fill (fun _ => 0) (H 62) i)) := by
      refine up_ind 3 ?_
      intro i hi ih
      refine V_iload d_Mo_goThrough_120 rfl ?_
      refine V_iconst (v := 3) d_Mo_goThrough_122 (by decide) ?_
      refine V_icmp_ge (tgt := 140) d_Mo_goThrough_123 (by decide) (fun b123 => ?_) (fun b123 => ?_)
      · obtain rfl := ge_eq b123 rfl rfl (by decide) hi
        refine cop _ _ _ _ (fr.tr (eFr.row (by omega) (by omega))) (hd.of (hrow_ne (by omega))) ?_ ?_
        · obtain ⟨p1, p2, p3, p4, p5⟩ := hp
          exact ⟨by rw [hrow_ne (by omega)]; exact p1, by rw [hrow_ne (by omega)]; exact p2, by rw [hrow_ne (by omega)]; exact p3, fun d hd => by rw [hrow_ne (by omega)]; exact p4 d hd, p5⟩
        · exact ⟨by rw [hrow_ne (by omega)]; exact hf, by rw [hrow_ne (by omega)]; exact ho, fun c => absurd rfl c, fun _ c => absurd rfl c, fun s hs => by rw [hrow_same, fa_fill_in hs]; rfl⟩
      · have hin' := nge_lt b123 rfl rfl (by decide) hi
        have hin : vp_in (nI i) 3 := vp_in_nI (by omega) (by omega)
        refine V_aload_n d_Mo_goThrough_126 rfl ?_
        refine V_getR d_Mo_goThrough_127 f_Mo_81 rfl (by first | rfl | assumption) (by first | rfl | assumption) ?_
        refine V_iload d_Mo_goThrough_130 rfl ?_
        refine V_iconst (v := 0) d_Mo_goThrough_132 (by decide) ?_
        refine V_iast d_Mo_goThrough_133 (by first | rfl | assumption) (by first | assumption | exact vp_in_nI (by omega) (by omega)) ?_
        refine V_iincw (w := 1) d_Mo_goThrough_134 rfl (by decide) (by decide) ?_
        dsimp only [List.set]
        refine V_goto (tgt := 120) d_Mo_goThrough_137 (by decide) ?_
        rw [nI_clamp (by omega), hup_hrow, show upd (fa_fill (fun _ => 0) (H 62) i) i 0 = fa_fill (fun _ => 0) (H 62) (i + 1) from fa_fill_succ (fun _ => 0) (H 62) i, nI_1]
        exact ih hin'
    have h0 := loop 0 (Nat.zero_le _)
    rw [fa_fill_0, hrow_self] at h0
    exact h0
  have mid : ∀ u3 u4 u5 g, (∀ d, d < 6 → g d = mI (cs (nxO S.1 S.2.2.1 (rsO S.1 S.2.2.1 d)))) → V E 205 m_Mo_goThrough (goQ h S x m) 80 [some (.ref 41), some (.int x), some (.int m), u3, u4, u5] [] (hrow h 61 g) := by
    intro u3 u4 u5 g hg
    have fin2 : ∀ v, v = (if m < 0 then 0 else val S.1 S.2.1 S.2.2.1 m.toNatClampNeg) → V E 205 m_Mo_goThrough (goQ h S x m) 109 [some (.ref 41), some (.int x), some (.int m), u3, u4, u5] [.int v, .ref 41] (hup (hup (hup (hrow h 61 g) 41 30 0) 41 31 x) 41 32 m) := by
      intro v hv
      refine V_put (ty := .int) d_Mo_goThrough_109 f_Mo_179 rfl (by first | rfl | assumption) (by first | rfl | assumption) (by decide +kernel) (by first | rfl | assumption) (by first | rfl | assumption) ?_
      refine V_aload_n d_Mo_goThrough_112 rfl ?_
      refine V_iconst (v := -1) d_Mo_goThrough_113 (by decide) ?_
      refine V_put (ty := .int) d_Mo_goThrough_114 f_Mo_167 rfl (by first | rfl | assumption) (by first | rfl | assumption) (by decide +kernel) (by first | rfl | assumption) (by first | rfl | assumption) ?_
      refine sid _ _ _ _ ?_ (hm.2.2.1.of ?_) ⟨?_, ?_, ?_, fun d hd => ?_, ownQ_len _ _ _, ownQ_hi, hmm⟩ ?_ ?_
      · exact (((((eFr.row (by omega) (by omega)).tr (eFr.fld (by omega))).tr (eFr.fld (by omega))).tr (eFr.fld (by omega))).tr (eFr.fld (by omega))).tr (eFr.fld (by omega))
      · rw [hup_ne (by omega), hup_ne (by omega), hup_ne (by omega), hup_ne (by omega), hup_ne (by omega), hrow_ne (by omega)]
      · simp [hup, upd]; rfl
      · simp [hup, upd]; rfl
      · simp [hup, upd]; exact hv
      · rw [hup_ne (by omega), hup_ne (by omega), hup_ne (by omega), hup_ne (by omega), hup_ne (by omega), hrow_same, hg d (by omega)]
        show _ = mI (cs (gD (ownQ S.1 S.2.2.1 (wK S.2.1)) d))
        rw [ownQ_gD hd]
      · simp [hup, upd]
      · simp [hup, upd]
    refine V_aload_n d_Mo_goThrough_80 rfl ?_
    refine V_iconst (v := 0) d_Mo_goThrough_81 (by decide) ?_
    refine V_put (ty := .int) d_Mo_goThrough_82 f_Mo_164 rfl (by first | rfl | assumption) (by first | rfl | assumption) (by decide +kernel) (by first | rfl | assumption) (by first | rfl | assumption) ?_
    refine V_aload_n d_Mo_goThrough_85 rfl ?_
    refine V_iload_n d_Mo_goThrough_86 rfl ?_
    refine V_put (ty := .int) d_Mo_goThrough_87 f_Mo_170 rfl (by first | rfl | assumption) (by first | rfl | assumption) (by decide +kernel) (by first | rfl | assumption) (by first | rfl | assumption) ?_
    refine V_aload_n d_Mo_goThrough_90 rfl ?_
    refine V_iload_n d_Mo_goThrough_91 rfl ?_
    refine V_put (ty := .int) d_Mo_goThrough_92 f_Mo_173 rfl (by first | rfl | assumption) (by first | rfl | assumption) (by decide +kernel) (by first | rfl | assumption) (by first | rfl | assumption) ?_
    refine V_aload_n d_Mo_goThrough_95 rfl ?_
    refine V_iload_n d_Mo_goThrough_96 rfl ?_
    refine V_if_lt (tgt := 108) d_Mo_goThrough_97 (by decide) (fun b97 => ?_) (fun b97 => ?_)
    · refine V_iconst (v := 0) d_Mo_goThrough_108 (by decide) ?_
      exact fin2 0 (by rw [if_pos b97])
    · obtain ⟨y, hy, rfl⟩ := hmm b97
      have fr3 : eFr h (hup (hup (hup (hrow h 61 g) 41 30 0) 41 31 x) 41 32 (nI y)) := (((eFr.row (by omega) (by omega)).tr (eFr.fld (by omega))).tr (eFr.fld (by omega))).tr (eFr.fld (by omega))
      refine V_aload_n d_Mo_goThrough_100 rfl ?_
      refine V_iload_n d_Mo_goThrough_101 rfl ?_
      refine V_callV1 d_Mo_goThrough_102 k_Mo_150 rfl (c_value (hm.1.of fr3.2.1) ok.1 (hm.2.1.of fr3.2.1) ok.2.1 (hm.2.2.1.of (by rw [hup_ne (by omega), hup_ne (by omega), hup_ne (by omega), hrow_ne (by omega)])) ok.2.2.1 hy) (by first | rfl | assumption) rfl rfl (by first | decide | omega) rfl (Nat.le_of_ble_eq_true rfl) ?_
      refine V_goto (tgt := 109) d_Mo_goThrough_105 (by decide) ?_
      exact fin2 _ (by rw [if_neg b97, nI_clamp (by omega)])
  have loop : ∀ i, i ≤ 6 → V E 205 m_Mo_goThrough (goQ h S x m) 15 [some (.ref 41), some (.int x), some (.int m), some (.int 0), some (.int (mI (cs (cI (inN S.1))))), some (.int (nI i))] [] (hrow h 61 (fa_fill (fun _ => 0) (h 61) i)) := by
    refine up_ind 6 ?_
    intro i hi ih
    refine V_iload d_Mo_goThrough_15 rfl ?_
    refine V_bipush (v := 6) d_Mo_goThrough_17 (by decide) ?_
    refine V_icmp_ge (tgt := 36) d_Mo_goThrough_19 (by decide) (fun b19 => ?_) (fun b19 => ?_)
    · obtain rfl := ge_eq b19 rfl rfl (by decide) hi
      exact go_own hm.1 ok hm.2.2.1 (fun u3 u4 g hg => mid u3 u4 _ g hg) rfl _ (fun d hd => fa_fill_in hd)
    · have hin' := nge_lt b19 rfl rfl (by decide) hi
      have hin : vp_in (nI i) 6 := vp_in_nI (by omega) (by omega)
      refine V_aload_n d_Mo_goThrough_22 rfl ?_
      refine V_getR d_Mo_goThrough_23 f_Mo_78 rfl (by first | rfl | assumption) (by first | rfl | assumption) ?_
      refine V_iload d_Mo_goThrough_26 rfl ?_
      refine V_iconst (v := 0) d_Mo_goThrough_28 (by decide) ?_
      refine V_iast d_Mo_goThrough_29 (by first | rfl | assumption) (by first | assumption | exact vp_in_nI (by omega) (by omega)) ?_
      refine V_iincw (w := 1) d_Mo_goThrough_30 rfl (by decide) (by decide) ?_
      dsimp only [List.set]
      refine V_goto (tgt := 15) d_Mo_goThrough_33 (by decide) ?_
      rw [nI_clamp (by omega), hup_hrow, show upd (fa_fill (fun _ => 0) (h 61) i) i 0 = fa_fill (fun _ => 0) (h 61) (i + 1) from fa_fill_succ (fun _ => 0) (h 61) i, nI_1]
      exact ih hin'
  have h0 := loop 0 (Nat.zero_le _)
  rw [fa_fill_0, hrow_self] at h0
  exact h0
