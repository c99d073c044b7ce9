/-! the lawful classes, and what goThrough() comes to -/
noncomputable def lwB (D : LD) (w : LW) (q : List Int32) : Bool := decide (brk D (wfr true w) (lay (dN D) q) = 0)
noncomputable def LC (D : LD) (w : LW) : List (List Int32) := (pt (dN D) (gdB D w) (wK w) (cI (inN D))).filter (lwB D w)
theorem inN_S {D : LD} : inS (dN D) (cI (inN D)) := ⟨cI_hi _, fun j hj hb => by
  rw [cI_cs _ hj] at hb
  simpa [inN] using hb⟩
theorem LC_is {D : LD} {w : LW} (ok : okLD D) {q : List Int32} (hq : q ∈ LC D w) : isPq (dN D) (gdB D w) (wK w) (cI (inN D)) q ∧ brk D (wfr true w) (lay (dN D) q) = 0 := by
  obtain ⟨h1, h2⟩ := List.mem_filter.mp hq
  exact ⟨pt_is ok.1 _ _ _ inN_S h1, by simpa [lwB] using h2⟩
theorem LC_nodup {D : LD} {w : LW} (ok : okLD D) : (LC D w).Nodup := (pt_nodup ok.1 _ _ inN_S).filter _
theorem pcn_inN {D : LD} (ok : okLD D) : pcn (cI (inN D)) = dN D := by
  unfold pcn
  have e : fa_cnt (cs (cI (inN D))) 30 = fa_cnt (inN D) 30 := fa_cnt_cong (fun j hj => cI_cs _ hj)
  have e2 : fa_cnt (inN D) 30 = fa_cnt (inN D) (dN D) := cnt_cut ok.1 (fun i h1 _ => by unfold inN; exact decide_eq_false (by omega))
  rw [e, e2]
  exact cnt_full _ _ (fun i hi => by unfold inN; exact decide_eq_true hi)
theorem LC_le {D : LD} {w : LW} (ok : okLD D) (okw : okLW w) (h12 : dN D ≤ 12) : (LC D w).length ≤ 1400000 := by
  have h1 := pt_le (G := gdB D w) ok.1 (wK w) (cI (inN D)) inN_S
  rw [pcn_inN ok] at h1
  have h2 := Fb_ok (wK w) (by have := okw.2.1; omega) (dN D) (by omega)
  have h3 := List.length_filter_le (lwB D w) (pt (dN D) (gdB D w) (wK w) (cI (inN D)))
  unfold LC
  omega
noncomputable def vaF (D : LD) (w : LW) (m : Int32) (q : List Int32) : Int32 := val D w (lay (dN D) q) m.toNatClampNeg
theorem fold_filter {α β : Type} (p : α → Bool) (f : β → α → β) : ∀ (L : List α) (z : β), L.foldl (fun z x => if p x = true then f z x else z) z = (L.filter p).foldl f z
  | [], z => rfl
  | x :: L, z => by
    rw [List.foldl_cons, List.filter_cons]
    by_cases h : p x = true
    · rw [if_pos h, if_pos h, List.foldl_cons]; exact fold_filter p f L _
    · rw [if_neg h, if_neg h]; exact fold_filter p f L _
theorem goZ_LC (S : ST) (x m : Int32) : goZ S x m = (LC S.1 S.2.1).foldl (fun z q => zst (paO S.1 S.2.1 S.2.2.1 x m) (vaF S.1 S.2.1 m q) z q) zI := by
  unfold goZ foZ LC
  rw [← fold_filter]
  have e : (fun (z : Zt) (t : List Int32) => zsp S.1 S.2.1 (paO S.1 S.2.1 S.2.2.1 x m) z ([] ++ t)) = fun z q => if lwB S.1 S.2.1 q = true then zst (paO S.1 S.2.1 S.2.2.1 x m) (vaF S.1 S.2.1 m q) z q else z := by
    funext z q
    rw [List.nil_append]
    unfold zsp lwB
    by_cases h : brk S.1 (wfr true S.2.1) (lay (dN S.1) q) = 0
    · rw [if_pos h, if_pos (decide_eq_true h)]
      rfl
    · rw [if_neg h, if_neg (by rw [decide_eq_false h]; decide)]
  rw [e]
def ixF (own : List Int32) : List (List Int32) → Nat → Int32 → Int32
  | [], _, r => r
  | q :: L, n, r => ixF own L (n + 1) (if q = own then nI n else r)
def lsS (y : Int32) : Option Int32 → Int32
  | none => y
  | some z => if y < z then y else z
def lsF (v : List Int32 → Int32) : List (List Int32) → Option Int32 → Option Int32
  | [], o => o
  | q :: L, o => lsF v L (some (lsS (v q) o))
def sdF (own : Int32) (v : List Int32 → Int32) : List (List Int32) → (Nat → Int32) → Nat → Int32
  | [], f => f
  | q :: L, f => sdF own v L (sg2 own (v q) f)
theorem zf_one (a : Pa) (v : List Int32 → Int32) : ∀ (L : List (List Int32)) (z : Zt) (n : Nat) (o : Option Int32), z.1 = nI n → n + L.length < 2 ^ 31 → (¬ a.2.2.1 < 0 → (o = none ↔ n = 0) ∧ ∀ y, o = some y → z.2.2.2.1 = y) →
    (L.foldl (fun z q => zst a (v q) z q) z).1 = nI (n + L.length) ∧ (L.foldl (fun z q => zst a (v q) z q) z).2.1 = ixF a.1 L n z.2.1 ∧ (∀ i, i < L.length → a.2.1 = nI (n + i) → L[i]? = some (L.foldl (fun z q => zst a (v q) z q) z).2.2.1) ∧ ((∀ i, i < L.length → a.2.1 ≠ nI (n + i)) → (L.foldl (fun z q => zst a (v q) z q) z).2.2.1 = z.2.2.1) ∧ (¬ a.2.2.1 < 0 → ∀ y, lsF v L o = some y → (L.foldl (fun z q => zst a (v q) z q) z).2.2.2.1 = y) ∧ (¬ a.2.2.1 < 0 → (L.foldl (fun z q => zst a (v q) z q) z).2.2.2.2 = sdF a.2.2.2 v L z.2.2.2.2)
  | [], z, n, o, hz, hn, ho => ⟨hz, rfl, fun i hi => absurd hi (Nat.not_lt_zero i), fun _ => rfl, fun c y hy => (ho c).2 y hy, fun _ => rfl⟩
  | q :: L, z, n, o, hz, hn, ho => by
    rw [List.length_cons] at hn
    have hn0 : z.1 = 0 ↔ n = 0 := by rw [hz]; exact eq_nI n 0 rfl rfl (by omega) (by decide)
    obtain ⟨i1, i2, i3, i3', i4, i5⟩ := zf_one a v L (zst a (v q) z q) (n + 1) (some (lsS (v q) o)) (by show z.1 + 1 = _; rw [hz, nI_1]) (by omega) (fun c => ⟨⟨fun h => (by cases h), fun h => (by omega)⟩, fun y hy => by
        have hy := Option.some.inj hy
        rw [← hy]
        show (if a.2.2.1 < 0 then z.2.2.2.1 else if z.1 = 0 ∨ v q < z.2.2.2.1 then v q else z.2.2.2.1) = _
        rw [if_neg c]
        obtain ⟨o1, o2⟩ := ho c
        cases o with
        | none => rw [if_pos (Or.inl (hn0.mpr (o1.mp rfl)))]; rfl
        | some y0 =>
          have hne : ¬ z.1 = 0 := fun e => by
            have := o1.mpr (hn0.mp e)
            cases this
          have e0 := o2 y0 rfl
          show _ = if v q < y0 then v q else y0
          rw [← e0]
          by_cases c2 : v q < z.2.2.2.1
          · rw [if_pos (Or.inr c2), if_pos c2]
          · rw [if_neg (fun h => h.elim hne c2), if_neg c2]⟩)
    rw [List.foldl_cons]
    refine ⟨?_, ?_, ?_, ?_, ?_, ?_⟩
    · rw [i1, List.length_cons, show n + 1 + L.length = n + (L.length + 1) by omega]
    · rw [i2, ixF]
      show ixF a.1 L (n + 1) (if q = a.1 then z.1 else z.2.1) = _
      rw [hz]
    · intro i hi hx
      rw [List.length_cons] at hi
      cases i with
      | zero =>
        rw [List.getElem?_cons_zero, i3' (fun i hi e => ?_)]
        · show some q = some (if z.1 = a.2.1 then q else z.2.2.1)
          rw [hz, hx, Nat.add_zero, if_pos rfl]
        · rw [hx] at e
          have := (nI_eq (by omega) (by omega)).mp e
          omega
      | succ i =>
        rw [List.getElem?_cons_succ]
        exact i3 i (by omega) (by rw [hx, show n + 1 + i = n + (i + 1) by omega])
    · intro hno
      rw [i3' (fun i hi e => hno (i + 1) (by rw [List.length_cons]; omega) (by rw [e, show n + 1 + i = n + (i + 1) by omega]))]
      show (if z.1 = a.2.1 then q else z.2.2.1) = _
      rw [if_neg (fun e => hno 0 (by rw [List.length_cons]; omega) (by rw [← e, hz]; rfl))]
    · intro c y hy
      rw [lsF] at hy
      exact i4 c y hy
    · intro c
      rw [i5 c, sdF]
      show sdF a.2.2.2 v L (if a.2.2.1 < 0 then z.2.2.2.2 else sg2 a.2.2.2 (v q) z.2.2.2.2) = _
      rw [if_neg c]
theorem lsF_some (v : List Int32 → Int32) : ∀ (L : List (List Int32)) (o : Option Int32), (L ≠ [] ∨ o ≠ none) → ∃ y, lsF v L o = some y
  | [], o, h => by
    cases o with
    | none => exact absurd rfl (h.elim (fun h => h) (fun h => absurd rfl h))
    | some y => exact ⟨y, rfl⟩
  | q :: L, o, _ => by
    rw [lsF]
    exact lsF_some v L _ (Or.inr (fun h => by cases h))
/-! the class calls as what they come to -/
noncomputable def szI (S : ST) : Int32 := if 12 < dN S.1 then -4 else if dN S.1 = 0 then -5 else 0
noncomputable def opCount (S : ST) : Int32 × ST := (if szI S = 0 then nI (LC S.1 S.2.1).length else szI S, S)
noncomputable def opKth (S : ST) (i : Int32) : Int32 × ST := if szI S = 0 then (if isPl (LC S.1 S.2.1).length i then (1, (S.1, S.2.1, lay (dN S.1) ((LC S.1 S.2.1).getD i.toNatClampNeg []), S.2.2.2)) else (-1, S)) else (szI S, S)
noncomputable def whI (S : ST) : Int32 := ixF (ownQ S.1 S.2.2.1 (wK S.2.1)) (LC S.1 S.2.1) 0 (-1)
noncomputable def opWhich (S : ST) : Int32 × ST := (if szI S = 0 then whI S else szI S, S)
noncomputable def opSame (S : ST) (i : Int32) : Int32 × ST := (if szI S = 0 then (if isPl (LC S.1 S.2.1).length i then (if whI S = i then 1 else 0) else -1) else szI S, S)
noncomputable def opLeast (S : ST) (m : Int32) : Int32 × ST := (@ite _ (inR m 0 6) (Classical.propDecidable _) (if szI S = 0 then (if 20000 < (LC S.1 S.2.1).length then -4 else (lsF (vaF S.1 S.2.1 m) (LC S.1 S.2.1) none).getD (-2000000)) else szI S) (-1), S)
noncomputable def opAmong (S : ST) (m how : Int32) : Int32 × ST := (@ite _ (inR m 0 6 ∧ inR how 0 2) (Classical.propDecidable _) (if szI S = 0 then (if 20000 < (LC S.1 S.2.1).length then -4 else sdF (val S.1 S.2.1 S.2.2.1 m.toNatClampNeg) (vaF S.1 S.2.1 m) (LC S.1 S.2.1) (fun _ => 0) how.toNatClampNeg) else szI S) (-1), S)
theorem goZ_is {S : ST} (ok : okST S) (h12 : dN S.1 ≤ 12) (x m : Int32) : (goZ S x m).1 = nI (LC S.1 S.2.1).length ∧ (goZ S x m).2.1 = whI S ∧ (∀ i, i < (LC S.1 S.2.1).length → x = nI i → (LC S.1 S.2.1)[i]? = some (goZ S x m).2.2.1) ∧ (¬ m < 0 → ∀ y, lsF (vaF S.1 S.2.1 m) (LC S.1 S.2.1) none = some y → (goZ S x m).2.2.2.1 = y) ∧ (¬ m < 0 → (goZ S x m).2.2.2.2 = sdF (val S.1 S.2.1 S.2.2.1 m.toNatClampNeg) (vaF S.1 S.2.1 m) (LC S.1 S.2.1) (fun _ => 0)) := by
  have hle := LC_le (w := S.2.1) ok.1 ok.2.1 h12
  rw [goZ_LC]
  obtain ⟨i1, i2, i3, -, i4, i5⟩ := zf_one (paO S.1 S.2.1 S.2.2.1 x m) (vaF S.1 S.2.1 m) (LC S.1 S.2.1) zI 0 none rfl (by omega) (fun _ => ⟨⟨fun _ => rfl, fun _ => rfl⟩, fun y hy => by cases hy⟩)
  rw [Nat.zero_add] at i1
  refine ⟨i1, i2, fun i hi hx => i3 i hi (by rw [Nat.zero_add]; exact hx), i4, fun c => ?_⟩
  rw [i5 c]
  show sdF (if m < 0 then 0 else val S.1 S.2.1 S.2.2.1 m.toNatClampNeg) _ _ _ = _
  rw [if_neg c]
  rfl
