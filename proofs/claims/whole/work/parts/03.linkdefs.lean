def lw_g : List Cond := lw_tbl.filter goodWord
theorem lw_in (i : Nat) {w : Cond} (h : tables_1[i]? = some w) (hg : goodWord w = true) : w ∈ lw_g :=
  List.mem_filter.mpr ⟨List.mem_append_right _ (List.mem_of_getElem? h), hg⟩
theorem lw_inP (i : Nat) {w : Cond} (h : (k2_sels lw_privs)[i]? = some w) (hg : goodWord w = true) : w ∈ lw_g :=
  List.mem_filter.mpr ⟨List.mem_append_left _ (List.mem_of_getElem? h), hg⟩
def isNst : Cond → Bool
  | .methodLinkNest .. => true
  | _ => false
def lw_n : List Cond := lw_tbl.filter isNst
theorem lw_inN (i : Nat) {w : Cond} (h : tables_1[i]? = some w) (hg : isNst w = true) : w ∈ lw_n :=
  List.mem_filter.mpr ⟨List.mem_append_right _ (List.mem_of_getElem? h), hg⟩
def Nst (U : State) : Prop := ∀ w ∈ lw_n, va_Nw w U
theorem isNst_spec {w : Cond} (h : isNst w = true) : ∃ a i x q, w = .methodLinkNest a i x q := by
  cases w <;> first | exact ⟨_, _, _, _, rfl⟩ | (simp [isNst] at h)
theorem Nst.warm {s U : State} (hW : s.WarmedH U.vm) (h : Nst s) : Nst U := by
  intro w hw
  obtain ⟨a, i, x, q, rfl⟩ := isNst_spec (List.mem_filter.mp hw).2
  exact va_Nw.warmM hW (h _ hw)
theorem Nst.same {s U : State} (hv : s.vm = U.vm) (h : Nst s) : Nst U := by
  intro w hw
  have h1 := h w hw
  obtain ⟨a, i, x, q, rfl⟩ := isNst_spec (List.mem_filter.mp hw).2
  exact va_Nw.same rfl hv h1
/-! links -/
def okM (mt : Mt) (n : Nat) : Prop := Cond.code mt.1 mt.2.1 mt.2.2.1 mt.2.2.2 ∈ lw_g ∧ Cond.initialized mt.1.cls ∈ lw_g ∧ plainName mt.1.cls = true ∧ (mt.1.cls ≠ "java/lang/invoke/MethodHandle" ∧ mt.1.cls ≠ "java/lang/invoke/VarHandle") ∧ mt.2.2.1 ≤ 21 ∧ (parseMethodDescriptor mt.1.desc).map (fun d => d.parameters.length) = some n
def CLs (own : String) (idx : Nat) (mt : Mt) (n : Nat) : Prop := Cond.methodLink own idx mt.1 ∈ lw_g ∧ Cond.static mt.1 ∈ lw_g ∧ okM mt n
def CLn (own : String) (idx : Nat) (mt : Mt) (n : Nat) (host : String) : Prop := Cond.methodLinkNest own idx mt.1 host ∈ lw_n ∧ Cond.static mt.1 ∈ lw_g ∧ okM mt n
def CLv (own : String) (idx : Nat) (mt : Mt) (n : Nat) : Prop := Cond.methodLink own idx mt.1 ∈ lw_g ∧ Cond.instanceMethod mt.1 ∈ lw_g ∧ Cond.selects mt.1.cls mt.1 mt.1 ∈ lw_g ∧ okM mt n
def FL (own : String) (idx ci k : Nat) : Prop := ∃ (C : String) (T : u_T) (N : Nat) (ty : Nat → FieldType), vcl[ci]? = some (C, T, N) ∧ k < N ∧ Cond.fieldLink own idx (T k).1 (T k).2.1 (T k).2.2.1 ∈ lw_g ∧ (∀ w ∈ u_ws C T N, w ∈ lw_g) ∧ (∀ j, j < N → parseFieldDescriptor (T j).2.2.1 = some (ty j)) ∧ (∀ a, a < N → ∀ b, b < N → a ≠ b → (T a).2.1 ≠ (T b).2.1)
def MLk (own : String) (idx : Nat) (y : MethodName) (cd : ByteArray) (ml : Nat) : Prop := Cond.methodLink own idx y ∈ lw_g ∧ Cond.static y ∈ lw_g ∧ Cond.initialized "java/lang/Math" ∈ lw_g ∧ Cond.code y cd ml (some .int) ∈ lw_g
def ALk (own : String) (idx : Nat) : Prop := Cond.methodLink own idx arraycopyName ∈ lw_g ∧ Cond.native arraycopyName ∈ lw_g ∧ Cond.static arraycopyName ∈ lw_g ∧ Cond.initialized "java/lang/System" ∈ lw_g
