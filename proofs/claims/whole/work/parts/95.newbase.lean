/-! THE CONSTRUCTORS' WALK: the world is a list that grows; the ids of the rows are known from the start -/
def rmN (d K M : Nat) : Room := { frames := d, cells := K, slots := M, locals := 64 * d }
def QN (E : Wd) (A : Nat → Prop) (Q : va_W → Prop) : Array Value → State → Outcome → State → Prop := fun _ st oc t =>
  (∃ ws : va_W, oc = .returned none ∧ Q ws ∧ va_P E.2.2.2.2.1 vcl ws t.heap ∧ va_K E.2.2.2.2.1 vcl (wty E) t ∧ va_D A ws) ∧ va_F A st t
def N (E : Wd) (d K M : Nat) (mt : Mt) (Q : va_W → Prop) (pc : Nat) (L : List (Option Value)) (st : List Value) (ws : va_W) (k n : Nat) : Prop :=
  ∀ (p : Program) (e : Env) (s : State) (m : MethodId) (args : Array Value) (below : List Frame) (meth : Method) (c : Code) (A : Nat → Prop), Ctx E mt p s m args meth c ∧ meth.name = mt.1.name → (∀ q, s.heap.size ≤ q → A q) →
    ∀ (H : Heap) (locs : List Loc), va_P E.2.2.2.2.1 vcl ws H → va_D A ws → va_S A s.heap H locs → ∀ ls : Array Slot, lvh id ls mt.2.2.1 L →
      W p E.1 e (rmN d K M) s m args below meth c H locs k n (MQ below (QN E A Q) args s K M A) (F0 m pc ls st)
def CtN (E : Wd) (d K M : Nat) (mt : Mt) (args : List Value) (ws : va_W) (Q : va_W → Prop) : Prop :=
  ∀ sz : Nat, Met E.1 mt.1 (.code mt.1 mt.2.1 mt.2.2.1 mt.2.2.2 :: lw_g) (rmN d K M)
    (va_Pc args (fun U => U.heap.size = sz ∧ va_P E.2.2.2.2.1 vcl ws U.heap ∧ va_K E.2.2.2.2.1 vcl (wty E) U ∧ va_D (fun _ => True) ws ∧ Nst U))
    (QN E (va_A ws sz) Q) K M (va_A ws sz)
theorem cvv_id (v : Value) : cvv id v = v := by cases v <;> rfl
theorem cvv_ids (vs : List Value) : vs.map (cvv id) = vs := by
  induction vs with
  | nil => rfl
  | cons v vs ih => rw [List.map_cons, ih, cvv_id]
theorem CtN_of {E : Wd} {d K M n : Nat} {mt : Mt} {args : List Value} {ws : va_W} {Q : va_W → Prop} (ok : okM mt n) (hv : args.all (fun v => v.category == 1) = true) (hn : args.length ≤ mt.2.2.1) {L : List (Option Value)} (hL : args.map some ++ List.replicate (mt.2.2.1 - args.length) none = L)
    (k : N E d K M mt Q 0 L [] ws 0 0) : CtN E d K M mt args ws Q := by
  intro sz
  refine Met.ofW (cc := mt.2.1) (maxL := mt.2.2.1) (ret := mt.2.2.2) ok.2.2.1 rfl ?_
  intro p e s m args' below meth c s₁ B hml hvv
  obtain ⟨rfl, hsz, hP, hK, hD0, hN⟩ := hvv
  have hts := atoms_spec (ws := .code mt.1 mt.2.1 mt.2.2.1 mt.2.2.2 :: lw_g) B.pre
  have hown : s.vm.findClass mt.1.cls = some m.cls := findClass_of_methodNamed B.named
  have hin : meth.name = mt.1.name := (name_of_methodNamed B.named B.method).1
  subst hsz; subst hL
  rw [lg_entry_eq]
  have hl := lvh_entry id args hv hn
  rw [cvv_ids] at hl
  exact k p e s m _ below meth c (va_A ws s.heap.size) ⟨⟨B.exec, B.bytes, hml, B.returns, hown, fun w hw => hts w (List.mem_cons_of_mem _ hw), B.notSynchronized, hK, hN⟩, hin⟩ (fun q hq => Or.inr hq) s.heap [] hP hD0.self va_S.rf _ hl
section NRules
variable {E : Wd} {d K M : Nat} {mt : Mt} {Q : va_W → Prop} {pc : Nat} {L : List (Option Value)} {st : List Value} {ws : va_W} {k n : Nat}
theorem N_iconst {i : Int} {v : Int32} (hd : decode mt.2.1 pc = .ok (.iconst i, 1)) (hv : Int32.ofInt i = v) (kk : N E d K M mt Q (pc + 1) L (.int v :: st) ws k n) : N E d K M mt Q pc L st ws k n := by
  intro p e s m args below meth c A C hA H locs hP hD hS ls hl
  exact lv_iconst C.1.1 C.1.2.1 hd hv (kk p e s m args below meth c A C hA H locs hP hD hS ls hl)
theorem N_bipush {i : Int} {v : Int32} (hd : decode mt.2.1 pc = .ok (.bipush i, 2)) (hv : (Int8.ofInt i).toInt32 = v) (kk : N E d K M mt Q (pc + 2) L (.int v :: st) ws k n) : N E d K M mt Q pc L st ws k n := by
  intro p e s m args below meth c A C hA H locs hP hD hS ls hl
  exact lv_bipush C.1.1 C.1.2.1 hd hv (kk p e s m args below meth c A C hA H locs hP hD hS ls hl)
theorem N_sipush {i : Int} {v : Int32} (hd : decode mt.2.1 pc = .ok (.sipush i, 3)) (hv : (Int16.ofInt i).toInt32 = v) (kk : N E d K M mt Q (pc + 3) L (.int v :: st) ws k n) : N E d K M mt Q pc L st ws k n := by
  intro p e s m args below meth c A C hA H locs hP hD hS ls hl
  exact lv_sipush C.1.1 C.1.2.1 hd hv (kk p e s m args below meth c A C hA H locs hP hD hS ls hl)
theorem N_aload_n {i : Fin 4} {x : Nat} (hd : decode mt.2.1 pc = .ok (.aload_n i, 1)) (hi : L[(i : Nat)]? = some (some (.ref x))) (kk : N E d K M mt Q (pc + 1) L (.ref x :: st) ws k n) : N E d K M mt Q pc L st ws k n := by
  intro p e s m args below meth c A C hA H locs hP hD hS ls hl
  exact lv_aload_n C.1.1 C.1.2.1 hd rfl (hl.2.2 _ _ hi).2 (kk p e s m args below meth c A C hA H locs hP hD hS ls hl)
theorem N_aload {i : Nat} {x : Nat} (hd : decode mt.2.1 pc = .ok (.aload i, 2)) (hi : L[i]? = some (some (.ref x))) (kk : N E d K M mt Q (pc + 2) L (.ref x :: st) ws k n) : N E d K M mt Q pc L st ws k n := by
  intro p e s m args below meth c A C hA H locs hP hD hS ls hl
  exact lv_aload C.1.1 C.1.2.1 hd (hl.2.2 _ _ hi).2 (kk p e s m args below meth c A C hA H locs hP hD hS ls hl)
theorem N_dup {x : Nat} (hd : decode mt.2.1 pc = .ok (.dup, 1)) (kk : N E d K M mt Q (pc + 1) L (.ref x :: .ref x :: st) ws k n) : N E d K M mt Q pc L (.ref x :: st) ws k n := by
  intro p e s m args below meth c A C hA H locs hP hD hS ls hl
  exact lv_dup C.1.1 C.1.2.1 hd rfl (kk p e s m args below meth c A C hA H locs hP hD hS ls hl)
theorem N_astore_n {i : Fin 4} {x : Nat} (hd : decode mt.2.1 pc = .ok (.astore_n i, 1)) (hn : (i : Nat) < mt.2.2.1) (kk : N E d K M mt Q (pc + 1) (L.set (i : Nat) (some (.ref x))) st ws k n) : N E d K M mt Q pc L (.ref x :: st) ws k n := by
  intro p e s m args below meth c A C hA H locs hP hD hS ls hl
  exact lv_astore_n C.1.1 C.1.2.1 hd rfl hl.has hn rfl (fun ls' h' => kk p e s m args below meth c A C hA H locs hP hD hS ls' (hl.set (v := .ref x) rfl h'))
theorem N_astore {i : Nat} {x : Nat} (hd : decode mt.2.1 pc = .ok (.astore i, 2)) (hn : i < mt.2.2.1) (kk : N E d K M mt Q (pc + 2) (L.set i (some (.ref x))) st ws k n) : N E d K M mt Q pc L (.ref x :: st) ws k n := by
  intro p e s m args below meth c A C hA H locs hP hD hS ls hl
  exact lv_astore C.1.1 C.1.2.1 hd hl.has hn rfl (fun ls' h' => kk p e s m args below meth c A C hA H locs hP hD hS ls' (hl.set (v := .ref x) rfl h'))
theorem N_obj {R : String} {idx x : Nat} (hd : decode mt.2.1 pc = .ok (.invokespecial idx, 3)) (hk : OLk R idx) (hR : mt.1.cls = R) (hst : (st.map fun v => v.category).sum ≤ 8) (hdd : 0 < d) (kk : N E d K M mt Q (pc + 3) L st ws k n) : N E d K M mt Q pc L (.ref x :: st) ws k n := by
  intro p e s m args below meth c A C hA H locs hP hD hS ls hl
  subst hR
  refine W.objInit C.1.1 C.1.2.1 C.1.2.2.2.2.1 (C.1.2.2.2.2.2.1 _ hk.1) (C.1.2.2.2.2.2.1 _ hk.2.1) (C.1.2.2.2.2.2.1 _ hk.2.2) rfl (hl.1.trans C.1.2.2.1.symm) rfl hd (by show 1 ≤ d; omega) (by show _ ≤ 64 * d; simp [F0]; omega) ?_
  exact kk p e s m args below meth c A C hA H locs hP hD hS ls hl
theorem N_newa {at_ : ArrayType} {ty : FieldType} {v : Int32} {cnt : Nat} {t0 : Nat} {cA : ClassId} {a0 : vp_A} (hd : decode mt.2.1 pc = .ok (.newarray at_, 2)) (hty : newarray.typeOf at_ = ty) (hw : Cond.arrayClass ty ∈ lw_g) (ht : (wty E)[t0]? = some (cA, ty)) (hra : ∀ U cB, va_RA U cB ty → U.vm.findClass ("[" ++ ty.toString) = some cB) (ha : ∀ cB : ClassId, vp_cell cB a0 = arrV cB cnt (fun _ => defaultValue ty)) (hv : ¬ v < 0) (hc : v.toNatClampNeg = cnt) (hb : cnt * componentBytes ty ≤ 536870912) (hk : k + 1 ≤ K) (hn : n + cnt ≤ M)
    (kk : ∀ q : Nat, N E d K M mt Q (pc + 2) L (.ref q :: st) (ws ++ [(q, .inl (cA, a0))]) (k + 1) (n + cnt)) : N E d K M mt Q pc L (.int v :: st) ws k n := by
  intro p e s m args below meth c A C hA H locs hP hD hS ls hl
  subst hty
  refine va_newa C.1.1 C.1.2.1 (C.1.2.2.2.2.2.1 _ hw) rfl C.1.2.2.2.2.2.2.2.1 hP hD hS hA ha hv hc hb hk hn hd (fun q cB H1 hK1 hP1 hD1 hS1 => ?_)
  have e1 := hra _ _ (hK1.2 3 (cB, _) rfl).2
  have e2 := hra _ _ (C.1.2.2.2.2.2.2.2.1.2 t0 _ ht).2
  have e3 : cB = cA := Option.some.inj (e1.symm.trans e2)
  subst e3
  exact kk q p e s m args below meth c A C hA H1 locs hP1 hD1 hS1 ls hl
theorem N_new {R : String} {idx ci cnt : Nat} {fs : List Value} (hd : decode mt.2.1 pc = .ok (.new idx, 3)) (hw : NLk R idx ci cnt fs) (hR : mt.1.cls = R) (hk : k + 1 ≤ K) (hn : n + cnt ≤ M)
    (kk : ∀ q : Nat, N E d K M mt Q (pc + 3) L (.ref q :: st) (ws ++ [(q, .inr (ci, fs))]) (k + 1) (n + cnt)) : N E d K M mt Q pc L st ws k n := by
  intro p e s m args below meth c A C hA H locs hP hD hS ls hl
  subst hR
  obtain ⟨Cn, T, ty, h1, h2, h3, h4, h5, h6, h7⟩ := hw
  have hts := C.1.2.2.2.2.2.1
  exact va_new C.1.1 C.1.2.1 hts h5 ty h6 C.1.2.2.2.2.1 (hts _ h2) (hts _ h3) (hts _ h4) C.1.2.2.2.2.2.2.2.1 hP hD hS hA h1 h7 hk hn hd (fun q H1 hP1 hD1 hS1 => kk q p e s m args below meth c A C hA H1 locs hP1 hD1 hS1 ls hl)
theorem N_putF {R : String} {idx ci i q0 a : Nat} {fs : List Value} {v : Value} {ty : FieldType} (hd : decode mt.2.1 pc = .ok (.putfield idx, 3)) (hf : FL R idx ci i) (hR : mt.1.cls = R) (hin : mt.1.name = "<init>") (he : ws[q0]? = some (a, .inr (ci, fs))) (hnf : (vcl[ci]?).map (fun q => ((q.2.1 i).1, (q.2.1 i).2.2.2, parseFieldDescriptor (q.2.1 i).2.2.1)) = some (R, true, some ty)) (hn : narrow ty v = v) (hfit : fits ty v = true) (hl0 : i < fs.length)
    (kk : N E d K M mt Q (pc + 3) L st (ws.set q0 (a, .inr (ci, fs.set i v))) k n) : N E d K M mt Q pc L (v :: .ref a :: st) ws k n := by
  intro p e s m args below meth c A C hA H locs hP hD hS ls hl
  subst hR
  obtain ⟨Cn, T, N0, ty0, hc, hkN, hlink, hin2, hty, hnm⟩ := hf
  rw [hc] at hnf
  simp only [Option.map_some, Option.some.injEq, Prod.mk.injEq] at hnf
  exact va_putF C.1.1 C.1.2.1 C.1.2.2.2.2.2.1 hin2 ty0 hty hnm C.1.2.2.2.2.1 C.1.2.2.2.2.2.2.2.1 hP hD hS q0 he hc i hkN (C.1.2.2.2.2.2.1 _ hlink) (fun _ h9 => h9) hnf.2.1 (C.2.trans hin) hnf.1 hnf.2.2 hn hfit hl0 hd (fun H1 locs1 hP1 hD1 hS1 => kk p e s m args below meth c A C hA H1 locs1 hP1 hD1 hS1 ls hl)
theorem N_put {R : String} {idx ci i q0 a : Nat} {fs : List Value} {v : Value} {ty : FieldType} (hd : decode mt.2.1 pc = .ok (.putfield idx, 3)) (hf : FL R idx ci i) (hR : mt.1.cls = R) (he : ws[q0]? = some (a, .inr (ci, fs))) (hnf : (vcl[ci]?).map (fun q => ((q.2.1 i).2.2.2, parseFieldDescriptor (q.2.1 i).2.2.1)) = some (false, some ty)) (hn : narrow ty v = v) (hfit : fits ty v = true) (hl0 : i < fs.length)
    (kk : N E d K M mt Q (pc + 3) L st (ws.set q0 (a, .inr (ci, fs.set i v))) k n) : N E d K M mt Q pc L (v :: .ref a :: st) ws k n := by
  intro p e s m args below meth c A C hA H locs hP hD hS ls hl
  subst hR
  obtain ⟨Cn, T, N0, ty0, hc, hkN, hlink, hin2, hty, hnm⟩ := hf
  rw [hc] at hnf
  simp only [Option.map_some, Option.some.injEq, Prod.mk.injEq] at hnf
  exact va_put C.1.1 C.1.2.1 C.1.2.2.2.2.2.1 hin2 ty0 hty hnm C.1.2.2.2.2.1 C.1.2.2.2.2.2.2.2.1 hP hD hS q0 he hc i hkN (C.1.2.2.2.2.2.1 _ hlink) (fun _ h9 => h9) hnf.1 hnf.2 hn hfit hl0 hd (fun H1 locs1 hP1 hD1 hS1 => kk p e s m args below meth c A C hA H1 locs1 hP1 hD1 hS1 ls hl)
theorem N_vret (hd : decode mt.2.1 pc = .ok (.return_, 1)) (hr : mt.2.2.2 = none) (hk : k ≤ K) (hn : n ≤ M) (hq : Q ws) : N E d K M mt Q pc L [] ws k n := by
  intro p e s m args below meth c A C hA H locs hP hD hS ls hl
  refine W.widen (k := K) (n := M) hk hn ?_
  exact W.vret C.1.1 C.1.2.1 (C.1.2.2.2.1.trans hr) (fun t ht hW => ⟨⟨ws, rfl, hq, by rw [ht]; exact hP, va_K.moved hW.alike C.1.2.2.2.2.2.2.2.1, hD⟩, hS.F ht⟩) hS.2.2 hd C.1.2.2.2.2.2.2.1
end NRules
