theorem kn_one {own : String} {idx ci N : Nat} {fs : List Value} {s : State} {args : Array Value} (hw : NLk own idx ci N fs) (hg : ∀ w ∈ lw_g, w.before args s = true) : ∃ (cC : ClassId) (iS : Nat → Nat), ∀ q : vw_C, vcl[ci]? = some q → u_Kn s q.1 q.2.1 q.2.2 cC iS := by
  obtain ⟨Cn, T, ty, h1, h2, h3, h4, h5, h6, h7⟩ := hw
  obtain ⟨cC, iS, hk⟩ := u_known hg h5 (hg _ h3)
  refine ⟨cC, iS, fun q hq => ?_⟩
  have e1 := Option.some.inj (h1.symm.trans hq)
  subst e1
  exact hk
theorem kn_all {s : State} {args : Array Value} (hg : ∀ w ∈ lw_g, w.before args s = true) (k : Nat) : ∃ (cC : ClassId) (iS : Nat → Nat), ∀ q : vw_C, vcl[k]? = some q → u_Kn s q.1 q.2.1 q.2.2 cC iS := by
  match k with
  | 0 => exact kn_one kn_DC_48 hg
  | 1 => exact kn_one kn_DC_15 hg
  | 2 => exact kn_one kn_DC_66 hg
  | 3 => exact kn_one kn_DC_9 hg
  | 4 => exact kn_one kn_DC_12 hg
  | 5 => exact kn_one kn_DC_75 hg
  | 6 => exact kn_one kn_DC_33 hg
  | 7 => exact kn_one kn_DC_20 hg
  | 8 => exact kn_one kn_L_10 hg
  | 9 => exact kn_one kn_DC_57 hg
  | 10 => exact kn_one kn_L_7 hg
  | 11 => exact kn_one kn_L_10 hg
  | k + 12 =>
    obtain ⟨cC, iS, -⟩ := kn_one kn_L_7 hg
    refine ⟨cC, iS, fun q hq => ?_⟩
    have h1 := (List.getElem?_eq_some_iff.mp hq).1
    have h2 : vcl.length = 12 := rfl
    omega
/-- from the entry, for every script of at most 3072 ints, the law comes to its end with true -/
theorem whole_start {p : Program} {e : Env} {s : State} {m : MethodId} {below : List Frame} {meth : Method} {c : Code} (l : Launch) {b L : Nat} {xs : Nat → Int32} (hL : L ≤ 3072) (C0 : lw_At p s m meth c b L xs) : W p l e room_1 s m #[Value.ref b] below meth c s.heap [] 0 0 (lw_Z below #[Value.ref b] s) (entryFrame m ([Value.ref b] : List Value).toArray 4) := by
  obtain ⟨hx, hb, hr, hml, hown, hts, hX, hbl, hlk, hgv⟩ := id C0
  have hg : ∀ w ∈ lw_g, w.before #[Value.ref b] s = true := fun w hw => hts w (List.mem_filter.mp hw).1
  have hk := kn_all hg
  obtain ⟨cI, kI, pI, i1, i2, i3⟩ := Cond.arrayClass_spec (hg _ ka_I)
  obtain ⟨cB, kB, pB, b1, b2, b3⟩ := Cond.arrayClass_spec (hg _ ka_Z)
  obtain ⟨cL, kL, pL, l1, l2, l3⟩ := Cond.arrayClass_spec (hg _ ka_J)
  refine law_start l hL C0 (cI := cI) (cB := cB) (cL := cL) (G := (fun k => (hk k).choose, fun k => (hk k).choose_spec.choose)) ⟨fun k q hq => (hk k).choose_spec.choose_spec q hq, fun k q hq => ?_⟩
  match k, hq with
  | 0, hq => cases hq; exact ⟨fun n z => ⟨fun k h => (by cases h), kI, i2, pI, i3⟩, i1⟩
  | 1, hq => cases hq; exact ⟨fun n z => ⟨fun k h => (by cases h), kB, b2, pB, b3⟩, b1⟩
  | 2, hq => cases hq; exact ⟨fun n z => ⟨fun k h => (by cases h), kL, l2, pL, l3⟩, l1⟩
  | k + 3, hq => cases hq
