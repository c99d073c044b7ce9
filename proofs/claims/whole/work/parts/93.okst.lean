/-! every call keeps the state in order -/
theorem inR_up {x : Int32} {n : Nat} (hn : n < 2 ^ 31) (h : inR x 0 (nI n)) : upTo n x := by
  obtain ⟨j, hj, e⟩ := (inR_nI hn).mp h
  exact ⟨j, hj, e⟩
theorem k_place {S : ST} (ok : okST S) (v z o s t : Int32) : okST (opPlace S v z o s t).2 := by
  by_cases h : okPl v z o s t
  · rw [opPlace_yes h]
    by_cases h30 : dN S.1 = 30
    · rw [if_pos h30]; exact ok
    · rw [if_neg h30]
      obtain ⟨⟨o1, o2, o3, o4, o5⟩, okw, okd, oka, okf⟩ := ok
      obtain ⟨h1, h2, h3, h4, h5⟩ := h
      obtain ⟨y, hy, rfl⟩ := (inR_nI (n := 9) (by omega)).mp h5
      rw [nI_clamp (by omega)]
      refine ⟨⟨?_, o2, fun p hp => ?_, fun b hb => ?_, o5⟩, okw, fun p hp => ?_, fun p hp => ?_, fun p hp => ?_⟩
      · show dN S.1 + 1 ≤ 30
        omega
      · have hp : p < dN S.1 + 1 := hp
        show upTo 1000 (updA (dPe S.1) (dN S.1) v p) ∧ upTo 1000 (updA (dZe S.1) (dN S.1) z p) ∧ upTo 1000 (updA (dOn S.1) (dN S.1) o p) ∧ upTo 100 (updA (dAr S.1) (dN S.1) s p) ∧ updA (dTw S.1) (dN S.1) y p < 10
        by_cases c : p = dN S.1
        · subst c
          rw [updA_same, updA_same, updA_same, updA_same, updA_same]
          obtain ⟨x, hx1, hx2, hx3⟩ := inR_pos (n := 100) (by omega) h4
          exact ⟨inR_up (n := 1000) (by omega) h1, inR_up (n := 1000) (by omega) h2, inR_up (n := 1000) (by omega) h3, ⟨x, hx2, hx3⟩, by omega⟩
        · rw [updA_ne c, updA_ne c, updA_ne c, updA_ne c, updA_ne c]
          exact o3 p (by omega)
      · obtain ⟨a1, a2, a3, a4⟩ := o4 b hb
        exact ⟨Nat.lt_succ_of_lt a1, Nat.lt_succ_of_lt a2, a3, a4⟩
      · have hp : p < dN S.1 + 1 := hp
        by_cases c : p = dN S.1
        · show S.2.2.1 p < wK S.2.1
          rw [oka p (by omega)]
          have := okw.1
          omega
        · exact okd p (by omega)
      · have hp : dN S.1 + 1 ≤ p := hp
        exact oka p (by omega)
      · have hp : dN S.1 + 1 ≤ p := hp
        exact okf p (by omega)
  · rw [opPlace_no h]; exact ok
theorem k_border {S : ST} (ok : okST S) (a b l : Int32) : okST (opBorder S a b l).2 := by
  by_cases h : okBo S.1 a b l
  · rw [opBorder_yes h]
    by_cases h100 : dB S.1 = 100
    · rw [if_pos h100]; exact ok
    · rw [if_neg h100]
      obtain ⟨⟨o1, o2, o3, o4, o5⟩, okw, okd, oka, okf⟩ := ok
      obtain ⟨h1, h2, h3, h4, h5⟩ := h
      obtain ⟨i, hi, rfl⟩ := isPl_iff.mp h1
      obtain ⟨j, hj, rfl⟩ := isPl_iff.mp h2
      rw [nI_clamp (show i < 2 ^ 31 by omega), nI_clamp (show j < 2 ^ 31 by omega)] at h4 ⊢
      obtain ⟨x, hx1, hx2, hx3⟩ := inR_pos (n := 100) (by omega) h5
      refine ⟨⟨o1, ?_, o3, fun c hc => ?_, fun c e hce he => ?_⟩, okw, okd, oka, okf⟩
      · show dB S.1 + 1 ≤ 100
        omega
      · have hc : c < dB S.1 + 1 := hc
        show updA (dFr S.1) (dB S.1) i c < dN S.1 ∧ updA (dTo S.1) (dB S.1) j c < dN S.1 ∧ updA (dFr S.1) (dB S.1) i c ≠ updA (dTo S.1) (dB S.1) j c ∧ upTo 100 (updA (dLn S.1) (dB S.1) l c)
        by_cases q : c = dB S.1
        · subst q
          rw [updA_same, updA_same, updA_same]
          exact ⟨hi, hj, fun z => h3 (by rw [z]), ⟨x, hx2, hx3⟩⟩
        · rw [updA_ne q, updA_ne q, updA_ne q]
          exact o4 c (by omega)
      · have he : e < dB S.1 + 1 := he
        show ¬ ((updA (dFr S.1) (dB S.1) i c = updA (dFr S.1) (dB S.1) i e ∧ updA (dTo S.1) (dB S.1) j c = updA (dTo S.1) (dB S.1) j e) ∨ (updA (dFr S.1) (dB S.1) i c = updA (dTo S.1) (dB S.1) j e ∧ updA (dTo S.1) (dB S.1) j c = updA (dFr S.1) (dB S.1) i e))
        have hcne : c ≠ dB S.1 := by omega
        rw [updA_ne (f := dFr S.1) (v := i) hcne, updA_ne (f := dTo S.1) (v := j) hcne]
        by_cases q : e = dB S.1
        · subst q
          rw [updA_same, updA_same]
          intro z
          have : dNb S.1 i j = true := nbB_of (b := c) hce z
          rw [this] at h4
          cases h4
        · rw [updA_ne q, updA_ne q]
          exact o5 c e hce (by omega)
  · rw [opBorder_no h]; exact ok
theorem k_law {S : ST} (ok : okST S) (k t : Int32) : okST (opLaw S k t).2 := by
  by_cases h : inR k 1 6 ∧ inR t 0 1000
  · rw [opLaw_yes h]
    obtain ⟨okl, okw, okd, oka, okf⟩ := ok
    obtain ⟨x, hx1, hx2, rfl⟩ := inR_pos (n := 6) (by omega) h.1
    obtain ⟨y, hy, rfl⟩ := (inR_nI (n := 1000) (by omega)).mp h.2
    rw [nI_clamp (by omega), nI_clamp (by omega)]
    refine ⟨okl, ⟨hx1, hx2, hy, okw.2.2.2.1, fun p d hd => (by cases hd)⟩, fun p _ => ?_, fun _ _ => rfl, fun _ _ => rfl⟩
    show 0 < x
    omega
  · rw [opLaw_no h]; exact ok
theorem k_keep {S : ST} (ok : okST S) (t is : Int32) : okST (opKeep S t is).2 := by
  by_cases h : inR t 0 9 ∧ inR is 0 1
  · rw [opKeep_yes h]; exact ok
  · rw [opKeep_no h]; exact ok
theorem k_cuts {S : ST} (ok : okST S) (n : Int32) : okST (opCuts S n).2 := by
  by_cases h : inR n 0 10
  · rw [opCuts_yes h]
    obtain ⟨okl, okw, okd, oka, okf⟩ := ok
    obtain ⟨y, hy, rfl⟩ := (inR_nI (n := 10) (by omega)).mp h
    rw [nI_clamp (by omega)]
    exact ⟨okl, ⟨okw.1, okw.2.1, okw.2.2.1, hy, okw.2.2.2.2⟩, okd, oka, okf⟩
  · rw [opCuts_no h]; exact ok
theorem k_fix {S : ST} (ok : okST S) (p d : Int32) : okST (opFix S p d).2 := by
  by_cases h : isPl (dN S.1) p = true ∧ (d = -1 ∨ isPl (wK S.2.1) d = true)
  · rw [opFix_yes h]
    obtain ⟨okl, okw, okd, oka, okf⟩ := ok
    obtain ⟨j, hj, rfl⟩ := isPl_iff.mp h.1
    have hN := okl.1
    rw [nI_clamp (by omega)]
    refine ⟨okl, ⟨okw.1, okw.2.1, okw.2.2.1, okw.2.2.2.1, fun q e he => ?_⟩, okd, oka, fun q hq => ?_⟩
    · have he : updA (wFx S.2.1) j (fxO d) q = some e := he
      by_cases c : q = j
      · subst c
        rw [updA_same] at he
        unfold fxO at he
        by_cases c2 : d = -1
        · rw [if_pos c2] at he; cases he
        · rw [if_neg c2] at he
          obtain ⟨x, hx, rfl⟩ := isPl_iff.mp (h.2.resolve_left c2)
          have h6 := okw.2.1
          rw [nI_clamp (by omega)] at he
          rw [← Option.some.inj he]
          exact hx
      · rw [updA_ne c] at he
        exact okw.2.2.2.2 q e he
    · show updA (wFx S.2.1) j (fxO d) q = none
      have hq : dN S.1 ≤ q := hq
      rw [updA_ne (by omega)]
      exact okf q hq
  · rw [opFix_no h]; exact ok
theorem k_people {S : ST} (ok : okST S) (p v : Int32) : okST (opPeople S p v).2 := by
  by_cases h : isPl (dN S.1) p = true ∧ inR v 0 1000
  · rw [opPeople_yes h]
    obtain ⟨⟨o1, o2, o3, o4, o5⟩, okw, okd, oka, okf⟩ := ok
    refine ⟨⟨o1, o2, fun q hq => ?_, o4, o5⟩, okw, okd, oka, okf⟩
    obtain ⟨a1, a2⟩ := o3 q hq
    refine ⟨?_, a2⟩
    show upTo 1000 (updA (dPe S.1) p.toNatClampNeg v q)
    by_cases c : q = p.toNatClampNeg
    · rw [c, updA_same]; exact inR_up (n := 1000) (by omega) h.2
    · rw [updA_ne c]; exact a1
  · rw [opPeople_no h]; exact ok
theorem ok_ds {S : ST} (ok : okST S) {ds : Nat → Nat} (h1 : okDs S.1 S.2.1 ds) (h2 : ∀ p, dN S.1 ≤ p → ds p = 0) (f : Option (Nat → Int32)) : okST (S.1, S.2.1, ds, f) := ⟨ok.1, ok.2.1, h1, h2, ok.2.2.2.2⟩
theorem k_put {S : ST} (ok : okST S) (p d : Int32) : okST (opPut S p d).2 := by
  by_cases h : isPl (dN S.1) p = true ∧ isPl (wK S.2.1) d = true
  · rw [opPut_yes h]
    obtain ⟨j, hj, rfl⟩ := isPl_iff.mp h.1
    obtain ⟨x, hx, rfl⟩ := isPl_iff.mp h.2
    have hN := ok.1.1
    have h6 := ok.2.1.2.1
    rw [nI_clamp (by omega), nI_clamp (by omega)]
    refine ok_ds ok (ok.2.2.1.set hx) (fun q hq => ?_) _
    rw [show setN S.2.2.1 j x q = S.2.2.1 q from if_neg (by omega)]
    exact ok.2.2.2.1 q hq
  · rw [opPut_no h]; exact ok
theorem k_kth {S : ST} (ok : okST S) (i : Int32) : okST (opKth S i).2 := by
  unfold opKth
  split
  · rename_i hz
    split
    · rename_i hp
      obtain ⟨x, hx, rfl⟩ := isPl_iff.mp hp
      have hle := LC_le (w := S.2.1) ok.1 ok.2.1 (szI_0 hz).1
      rw [nI_clamp (by omega), List.getD_eq_getElem?_getD, List.getElem?_eq_getElem hx, Option.getD_some]
      have hm := (LC_is ok.1 (List.getElem_mem hx)).1
      have hk1 := ok.2.1.1
      refine ok_ds ok (fun p _ => lay_lt (by rw [hm.1]; exact Nat.le_refl _) (by omega) p) (fun p hp => ?_) _
      unfold lay
      rw [if_neg (by omega)]
    · exact ok
  · exact ok
theorem k_step {S : ST} (ok : okST S) (s : Int32) : okST (opStep S s).2 := by
  unfold opStep
  split
  · exact ok
  · split
    · exact ok_ds ok (stpS_ok ok.1 ok.2.2.1 s) (fun p hp => by rw [stpS_out hp]; exact ok.2.2.2.1 p hp) _
    · exact ok
theorem k_walk {S : ST} (ok : okST S) (n s m : Int32) : okST (opWalk S n s m).2 := by
  by_cases h : inR n 1 200 ∧ inR m 0 6
  · rw [opWalk_yes h]
    split
    · exact ok
    · split
      · exact ok_ds ok ok.2.2.1 ok.2.2.2.1 _
      · exact ok
  · rw [opWalk_no h]; exact ok
theorem btr_ok {D : LD} {w : LW} (ok : okLD D) : ∀ n (ds : Nat → Nat), okDs D w ds → okDs D w (btr D w n ds).2 ∧ ∀ p, dN D ≤ p → (btr D w n ds).2 p = ds p
  | 0, ds, h => ⟨h, fun _ _ => rfl⟩
  | n + 1, ds, h => by
    cases hb : bmv D w ds with
    | none => rw [btr_none hb]; exact ⟨h, fun _ _ => rfl⟩
    | some pd =>
      rw [btr_some hb]
      have h1 := bmv_less ok h hb
      have h2 := bmv_spec hb
      obtain ⟨i1, i2⟩ := btr_ok ok n (setN ds pd.1 pd.2) h1.1
      exact ⟨i1, fun p hp => by
        show (btr D w n (setN ds pd.1 pd.2)).2 p = ds p
        rw [i2 p hp]; exact if_neg (by omega)⟩
theorem k_better {S : ST} (ok : okST S) : okST (opBetter S).2 := by
  unfold opBetter
  split
  · exact ok
  · split
    · have h1 := btr_ok (w := S.2.1) ok.1 10001 S.2.2.1 ok.2.2.1
      exact ok_ds ok h1.1 (fun p hp => by rw [h1.2 p hp]; exact ok.2.2.2.1 p hp) _
    · exact ok
theorem k_mend {S : ST} (ok : okST S) (n : Int32) : okST (opMend S n).2 := by
  by_cases h : inR n 0 2
  · rw [opMend_yes h]
    split
    · exact ok
    · by_cases hx : ∃ b, isB S.1 S.2.1 S.2.2.1 (Rm S.1 S.2.1 n.toNatClampNeg 0 S.2.2.1) b
      · obtain ⟨b, hb⟩ := hx
        rw [mnd_some hb]
        have h1 := (Rm_iff n.toNatClampNeg).mp hb.1
        refine ok_ds ok (fun p hp => ?_) (fun p hp => by rw [h1.1 p (Or.inr hp)]; exact ok.2.2.2.1 p hp) _
        by_cases c : b p = S.2.2.1 p
        · rw [c]; exact ok.2.2.1 p hp
        · exact h1.2.1 p c
      · have : mnd S n.toNatClampNeg = (-6, S) := by
          unfold mnd
          rw [dif_neg hx]
        rw [this]; exact ok
  · rw [opMend_no h]; exact ok
