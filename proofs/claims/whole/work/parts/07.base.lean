/-! THE BASE: a run's cells are fixed (shp); the state is a function of (cell, slot); V is the walk of a method's body over such states, Cq a method's contract -/
abbrev Hp : Type := Nat → Nat → Int32
abbrev Wd : Type := Launch × (Nat → Nat) × ClassId × ClassId × va_G × ClassId
/-! worlds -/
def cvv (ad : Nat → Nat) : Value → Value
  | .ref k => .ref (ad k)
  | v => v
theorem cvv_cat (ad : Nat → Nat) (v : Value) : (cvv ad v).category = v.category := by cases v <;> rfl
def hup (h : Hp) (o i : Nat) (x : Int32) : Hp := fun q => if q = o then upd (h o) i x else h q
def hrow (h : Hp) (o : Nat) (f : Nat → Int32) : Hp := fun q => if q = o then f else h q
theorem hup_row (h : Hp) (o i : Nat) (x : Int32) : hup h o i x = hrow h o (upd (h o) i x) := rfl
theorem hrow_same (h : Hp) (o : Nat) (f : Nat → Int32) : hrow h o f o = f := by simp [hrow]
theorem hrow_ne {h : Hp} {o q : Nat} {f : Nat → Int32} (hq : q ≠ o) : hrow h o f q = h q := by simp [hrow, hq]
theorem hrow_self (h : Hp) (o : Nat) : hrow h o (h o) = h := by
  funext q
  by_cases hq : q = o
  · subst hq; exact hrow_same _ _ _
  · exact hrow_ne hq
theorem hrow_twice (h : Hp) (o : Nat) (f g : Nat → Int32) : hrow (hrow h o f) o g = hrow h o g := by
  funext q
  by_cases hq : q = o
  · subst hq; rw [hrow_same, hrow_same]
  · rw [hrow_ne hq, hrow_ne hq, hrow_ne hq]
theorem hrow_comm (h : Hp) {o p : Nat} (hne : o ≠ p) (f g : Nat → Int32) : hrow (hrow h o f) p g = hrow (hrow h p g) o f := by
  funext q
  by_cases hq : q = o
  · subst hq; rw [hrow_ne hne, hrow_same, hrow_same]
  · rw [hrow_ne hq]
    by_cases hp : q = p
    · subst hp; rw [hrow_same, hrow_same]
    · rw [hrow_ne hp, hrow_ne hp, hrow_ne hq]
def wfl (ad : Nat → Nat) (f : Nat → Int32) (rs : List (Option Nat)) : List Value := rs.mapIdx fun k r => match r with
  | some q => Value.ref (ad q)
  | none => Value.int (f k)
/-- a long in two halves -/
def jn (a b : Int32) : Int64 := Int64.ofBitVec (b.toBitVec ++ a.toBitVec)
def lo6 (x : Int64) : Int32 := Int32.ofBitVec (x.toBitVec.extractLsb' 0 32)
def hi6 (x : Int64) : Int32 := Int32.ofBitVec (x.toBitVec.extractLsb' 32 32)
theorem jn_lohi (x : Int64) : jn (lo6 x) (hi6 x) = x := by
  apply Int64.toBitVec_inj.mp
  show x.toBitVec.extractLsb' 32 32 ++ x.toBitVec.extractLsb' 0 32 = x.toBitVec
  apply BitVec.eq_of_getLsbD_eq
  intro i hi
  rw [BitVec.getLsbD_append]
  by_cases h : i < 32
  · simp [h]
  · simp [h]
    rw [show 32 + (i - 32) = i by omega, decide_eq_true (by omega : i - 32 < 32)]
    rfl
def jnr (f : Nat → Int32) : Nat → Int64 := fun i => jn (f (2 * i)) (f (2 * i + 1))
def updJ (f : Nat → Int32) (i : Nat) (x : Int64) : Nat → Int32 := fun j => if j = 2 * i then lo6 x else if j = 2 * i + 1 then hi6 x else f j
theorem jnr_updJ (f : Nat → Int32) (i : Nat) (x : Int64) : jnr (updJ f i x) = vp_updL (jnr f) i x := by
  funext j
  unfold jnr updJ vp_updL
  by_cases h : j = i
  · subst h
    rw [if_pos rfl, if_pos rfl, if_neg (by omega), if_pos rfl, jn_lohi]
  · rw [if_neg h, if_neg (by omega), if_neg (by omega), if_neg (by omega), if_neg (by omega)]
def wce (E : Wd) (h : Hp) (o : Nat) (e : Sh) : Nat × va_E := (E.2.1 o, match e with
  | .inl (z, n) => .inl (if z then E.2.2.2.1 else E.2.2.1, n, .inl (h o))
  | .inr (ci, rs) => if 1000 ≤ ci then .inl (E.2.2.2.2.2, ci - 1000, .inr (.inl (jnr (h o)))) else .inr (ci, wfl E.2.1 (h o) rs))
def wld (E : Wd) (h : Hp) : va_W := shp.mapIdx fun o e => wce E h o e
abbrev wty (E : Wd) : List (ClassId × FieldType) := [(E.2.2.1, .int), (E.2.2.2.1, .boolean), (E.2.2.2.2.2, .long)]
theorem wld_at {E : Wd} {h : Hp} {o : Nat} {e : Sh} (he : shp[o]? = some e) : (wld E h)[o]? = some (wce E h o e) := by
  simp [wld, he]
theorem vcl_lt {ci : Nat} {q : vw_C} (h : vcl[ci]? = some q) : ci < 1000 := by
  have := (List.getElem?_eq_some_iff.mp h).1
  have e : vcl.length = 12 := rfl
  omega
theorem wld_atO {E : Wd} {h : Hp} {o ci : Nat} {rs : List (Option Nat)} (he : shp[o]? = some (.inr (ci, rs))) (hc : ci < 1000) : (wld E h)[o]? = some (E.2.1 o, .inr (ci, wfl E.2.1 (h o) rs)) := by
  rw [wld_at he]
  show some (E.2.1 o, if 1000 ≤ ci then _ else _) = _
  rw [if_neg (by omega)]
theorem wld_atL {E : Wd} {h : Hp} {o n : Nat} (he : shp[o]? = some (.inr (1000 + n, []))) : (wld E h)[o]? = some (E.2.1 o, .inl (E.2.2.2.2.2, n, .inr (.inl (jnr (h o))))) := by
  rw [wld_at he]
  show some (E.2.1 o, if 1000 ≤ 1000 + n then _ else _) = _
  rw [if_pos (by omega), show 1000 + n - 1000 = n by omega]
theorem wld_lt {o : Nat} {e : Sh} (he : shp[o]? = some e) : o < shp.length := (List.getElem?_eq_some_iff.mp he).1
theorem wld_setA {E : Wd} {h : Hp} {o n : Nat} {z : Bool} (he : shp[o]? = some (.inl (z, n))) (f : Nat → Int32) : (wld E h).set o (E.2.1 o, .inl (if z then E.2.2.2.1 else E.2.2.1, n, .inl f)) = wld E (hrow h o f) := by
  apply List.ext_getElem?
  intro j
  rw [List.getElem?_set]
  by_cases hj : o = j
  · subst hj
    rw [if_pos rfl, wld_at he, if_pos (by simp [wld]; exact wld_lt he)]
    simp [wce, hrow]
  · rw [if_neg hj]
    simp only [wld, List.getElem?_mapIdx]
    cases hs : shp[j]? with
    | none => rfl
    | some e => simp [wce, hrow, Ne.symm hj]
theorem wld_setL {E : Wd} {h : Hp} {o n : Nat} (he : shp[o]? = some (.inr (1000 + n, []))) (f : Nat → Int32) : (wld E h).set o (E.2.1 o, .inl (E.2.2.2.2.2, n, .inr (.inl (jnr f)))) = wld E (hrow h o f) := by
  apply List.ext_getElem?
  intro j
  rw [List.getElem?_set]
  by_cases hj : o = j
  · subst hj
    rw [if_pos rfl, wld_atL he, if_pos (by simp [wld]; exact wld_lt he), hrow_same]
  · rw [if_neg hj]
    simp only [wld, List.getElem?_mapIdx]
    cases hs : shp[j]? with
    | none => rfl
    | some e => simp [wce, hrow, Ne.symm hj]
theorem wfl_set {ad : Nat → Nat} {f : Nat → Int32} {rs : List (Option Nat)} {k : Nat} (hk : rs[k]? = some none) (x : Int32) : (wfl ad f rs).set k (.int x) = wfl ad (upd f k x) rs := by
  apply List.ext_getElem?
  intro j
  rw [List.getElem?_set]
  by_cases hj : k = j
  · subst hj
    have hlt := (List.getElem?_eq_some_iff.mp hk).1
    rw [if_pos rfl, if_pos (by simp [wfl]; exact hlt)]
    simp [wfl, hk, upd]
  · rw [if_neg hj]
    simp only [wfl, List.getElem?_mapIdx]
    cases hs : rs[j]? with
    | none => rfl
    | some e => cases e <;> simp [upd, Ne.symm hj]
theorem wld_setF {E : Wd} {h : Hp} {o ci k : Nat} {rs : List (Option Nat)} (he : shp[o]? = some (.inr (ci, rs))) (hc : ci < 1000) (hk : rs[k]? = some none) (x : Int32) : (wld E h).set o (E.2.1 o, .inr (ci, (wfl E.2.1 (h o) rs).set k (.int x))) = wld E (hup h o k x) := by
  rw [wfl_set hk]
  apply List.ext_getElem?
  intro j
  rw [List.getElem?_set]
  by_cases hj : o = j
  · subst hj
    rw [if_pos rfl, wld_atO he hc, if_pos (by simp [wld]; exact wld_lt he)]
    simp [hup]
  · rw [if_neg hj]
    simp only [wld, List.getElem?_mapIdx]
    cases hs : shp[j]? with
    | none => rfl
    | some e => simp [wce, hup, Ne.symm hj]
/-! locals -/
def lvh (ad : Nat → Nat) (ls : Array Slot) (n : Nat) (L : List (Option Value)) : Prop := ls.size = n ∧ lv_wf ls ∧ ∀ (i : Nat) (v : Value), L[i]? = some (some v) → v.category = 1 ∧ ls[i]? = some (.val (cvv ad v))
def lst (ad : Nat → Nat) (L : List (Option Value)) : List (Nat × Value) := (L.mapIdx fun i o => o.map fun v => (i, cvv ad v)).filterMap id
theorem lst_mem {ad : Nat → Nat} {L : List (Option Value)} {q : Nat × Value} : q ∈ lst ad L ↔ ∃ v, L[q.1]? = some (some v) ∧ q.2 = cvv ad v := by
  unfold lst
  rw [List.mem_filterMap]
  constructor
  · rintro ⟨a, ha, rfl⟩
    obtain ⟨i, hi⟩ := List.getElem?_of_mem ha
    rw [List.getElem?_mapIdx] at hi
    cases hL : L[i]? with
    | none => rw [hL] at hi; cases hi
    | some o =>
      rw [hL] at hi
      cases o with
      | none => simp at hi
      | some v =>
        simp at hi
        subst hi
        exact ⟨v, hL, rfl⟩
  · rintro ⟨v, h1, h2⟩
    obtain ⟨i, w⟩ := q
    subst h2
    refine ⟨some (i, cvv ad v), ?_, rfl⟩
    have h3 : (L.mapIdx fun i o => o.map fun v => (i, cvv ad v))[i]? = some (some (i, cvv ad v)) := by
      rw [List.getElem?_mapIdx, h1]; rfl
    exact List.mem_of_getElem? h3
theorem lvh.has {ad : Nat → Nat} {ls : Array Slot} {n : Nat} {L : List (Option Value)} (h : lvh ad ls n L) : lv_has ls n (lst ad L) := by
  refine ⟨h.1, h.2.1, fun q hq => ?_⟩
  obtain ⟨v, h1, h2⟩ := lst_mem.mp hq
  rw [h2]
  exact (h.2.2 _ _ h1).2
theorem lvh.set {ad : Nat → Nat} {ls ls' : Array Slot} {n i : Nat} {L : List (Option Value)} {v : Value} (h : lvh ad ls n L) (hc : v.category = 1)
    (h' : lv_has ls' n ((i, cvv ad v) :: (lst ad L).filter (fun q => !(q.1 == i) && !(q.1 + 1 == i && q.2.category == 2)))) : lvh ad ls' n (L.set i (some v)) := by
  refine ⟨h'.1, h'.2.1, fun j w hj => ?_⟩
  rw [List.getElem?_set] at hj
  by_cases hij : i = j
  · subst hij
    rw [if_pos rfl] at hj
    by_cases hl : i < L.length
    · rw [if_pos hl] at hj
      simp at hj
      subst hj
      exact ⟨hc, h'.2.2 (i, cvv ad v) List.mem_cons_self⟩
    · rw [if_neg hl] at hj; cases hj
  · rw [if_neg hij] at hj
    have hw := (h.2.2 j w hj).1
    refine ⟨hw, h'.2.2 (j, cvv ad w) (List.mem_cons_of_mem _ (List.mem_filter.mpr ⟨lst_mem.mpr ⟨w, hj, rfl⟩, ?_⟩))⟩
    have : (cvv ad w).category = 1 := by rw [cvv_cat]; exact hw
    simp [Ne.symm hij, this]
/-! the walk -/
def rmd (d : Nat) : Room := { frames := d, cells := 0, slots := 0, locals := 64 * d }
def Ctx (E : Wd) (mt : Mt) (p : Program) (s : State) (m : MethodId) (args : Array Value) (meth : Method) (c : Code) : Prop :=
  p.tables.exec = Jvm.exec ∧ c.code = mt.2.1 ∧ c.maxLocals = mt.2.2.1 ∧ meth.sig.returnType = mt.2.2.2 ∧ s.vm.findClass mt.1.cls = some m.cls ∧ (∀ w ∈ lw_g, w.before args s = true) ∧ meth.locks = false ∧ va_K E.2.2.2.2.1 vcl (wty E) s ∧ Nst s
def Qend (E : Wd) (A : Nat → Prop) (Q : Option Value → Hp → Prop) : Array Value → State → Outcome → State → Prop := fun _ st oc t =>
  (∃ (v : Option Value) (h' : Hp), oc = .returned (v.map (cvv E.2.1)) ∧ Q v h' ∧ va_P E.2.2.2.2.1 vcl (wld E h') t.heap ∧ va_K E.2.2.2.2.1 vcl (wty E) t ∧ va_D A (wld E h')) ∧ va_F A st t
def V (E : Wd) (d : Nat) (mt : Mt) (Q : Option Value → Hp → Prop) (pc : Nat) (L : List (Option Value)) (st : List Value) (h : Hp) : Prop :=
  ∀ (p : Program) (e : Env) (s : State) (m : MethodId) (args : Array Value) (below : List Frame) (meth : Method) (c : Code) (A : Nat → Prop), Ctx E mt p s m args meth c → (∀ q, s.heap.size ≤ q → A q) →
    ∀ (H : Heap) (locs : List Loc), va_P E.2.2.2.2.1 vcl (wld E h) H → va_D A (wld E h) → va_S A s.heap H locs → ∀ ls : Array Slot, lvh E.2.1 ls mt.2.2.1 L →
      W p E.1 e (rmd d) s m args below meth c H locs 0 0 (MQ below (Qend E A Q) args s 0 0 A) (F0 m pc ls (st.map (cvv E.2.1)))
def Cq (E : Wd) (d : Nat) (mt : Mt) (args : List Value) (h : Hp) (Q : Option Value → Hp → Prop) : Prop :=
  ∀ sz : Nat, Met E.1 mt.1 (.code mt.1 mt.2.1 mt.2.2.1 mt.2.2.2 :: lw_g) (rmd d)
    (va_Pc (args.map (cvv E.2.1)) (fun U => U.heap.size = sz ∧ va_P E.2.2.2.2.1 vcl (wld E h) U.heap ∧ va_K E.2.2.2.2.1 vcl (wty E) U ∧ va_D (fun _ => True) (wld E h) ∧ Nst U))
    (Qend E (va_A (wld E h) sz) Q) 0 0 (va_A (wld E h) sz)
theorem lvh_entry (ad : Nat → Nat) (vs : List Value) (hv : vs.all (fun v => v.category == 1) = true) {n : Nat} (hn : vs.length ≤ n) :
    lvh ad ((lg_sl (vs.map (cvv ad)) ++ List.replicate (n - (lg_sl (vs.map (cvv ad))).length) Slot.unset).toArray) n (vs.map some ++ List.replicate (n - vs.length) none) := by
  have hcat : ∀ v ∈ vs, v.category = 1 := fun v h => by simpa using List.all_eq_true.mp hv v h
  have hlen : (lg_sl (vs.map (cvv ad))).length = vs.length := by
    clear hn hv
    induction vs with
    | nil => rfl
    | cons v vs ih =>
      have h1 := hcat v List.mem_cons_self
      have ih := ih (fun w hw => hcat w (List.mem_cons_of_mem _ hw))
      simp only [lg_sl, List.map_cons, List.flatMap_cons, List.length_append] at ih ⊢
      rw [if_neg (by rw [cvv_cat, h1]; decide)]
      simp only [List.length_cons, List.length_nil]
      omega
  have he := lv_entry (vs.map (cvv ad)) (n := n) (by rw [hlen]; exact hn)
  refine ⟨he.1, he.2.1, fun i v hi => ?_⟩
  have hi2 : vs[i]? = some v := by
    by_cases hl : i < vs.length
    · rw [List.getElem?_append_left (by simpa using hl)] at hi
      rw [List.getElem?_map] at hi
      cases hq : vs[i]? with
      | none => rw [hq] at hi; cases hi
      | some w => rw [hq] at hi; simp at hi; rw [hi]
    · rw [List.getElem?_append_right (by simp; omega)] at hi
      rw [List.getElem?_replicate] at hi
      split at hi <;> simp at hi
  refine ⟨hcat v (List.mem_of_getElem? hi2), he.2.2 (i, cvv ad v) ?_⟩
  have key : ∀ (ws : List Value) (k : Nat), (∀ w ∈ ws, w.category = 1) → ∀ (j : Nat) (w : Value), ws[j]? = some w → (k + j, w) ∈ lv_args k ws := by
    intro ws
    induction ws with
    | nil => intro k _ j w hj; simp at hj
    | cons x xs ih =>
      intro k hc j w hj
      unfold lv_args
      cases j with
      | zero => simp at hj; subst hj; exact List.mem_cons_self
      | succ j =>
        rw [if_neg (by rw [hc x List.mem_cons_self]; decide)]
        have := ih (k + 1) (fun y hy => hc y (List.mem_cons_of_mem _ hy)) j w (by simpa using hj)
        exact List.mem_cons_of_mem _ (by rw [show k + (j + 1) = k + 1 + j by omega]; exact this)
  have := key (vs.map (cvv ad)) 0 (fun w hw => by obtain ⟨v, hv, rfl⟩ := List.mem_map.mp hw; rw [cvv_cat]; exact hcat v hv) i (cvv ad v) (by rw [List.getElem?_map, hi2]; rfl)
  simpa using this
theorem Cq_of {E : Wd} {d n : Nat} {mt : Mt} {args : List Value} {h : Hp} {Q : Option Value → Hp → Prop} (ok : okM mt n) (hv : args.all (fun v => v.category == 1) = true) (hn : args.length ≤ mt.2.2.1)
    (k : V E d mt Q 0 (args.map some ++ List.replicate (mt.2.2.1 - args.length) none) [] h) : Cq E d mt args h Q := by
  intro sz
  refine Met.ofW (cc := mt.2.1) (maxL := mt.2.2.1) (ret := mt.2.2.2) ok.2.2.1 rfl ?_
  intro p e s m args' below meth c s₁ B hml hvv
  obtain ⟨rfl, hsz, hP, hK, hD0, hN⟩ := hvv
  have hts := atoms_spec (ws := .code mt.1 mt.2.1 mt.2.2.1 mt.2.2.2 :: lw_g) B.pre
  have hown : s.vm.findClass mt.1.cls = some m.cls := findClass_of_methodNamed B.named
  subst hsz
  rw [lg_entry_eq]
  exact k p e s m _ below meth c (va_A (wld E h) s.heap.size) ⟨B.exec, B.bytes, hml, B.returns, hown, fun w hw => hts w (List.mem_cons_of_mem _ hw), B.notSynchronized, hK, hN⟩ (fun q hq => Or.inr hq) s.heap [] hP hD0.self va_S.rf _ (lvh_entry E.2.1 args hv hn)
