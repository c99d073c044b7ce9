/-! THE LAW'S WALK: label 64 is the script -/
theorem MoW.mv {h h' : Hp} {S : ST} (hm : MoW h S) (e : ∀ q, 41 ≤ q → h' q = h q) : MoW h' S := by
  unfold MoW MoLand MoLaw MoDs at hm ⊢
  simp only [e _ (show 41 ≤ 41 by decide), e _ (show 41 ≤ 42 by decide), e _ (show 41 ≤ 43 by decide), e _ (show 41 ≤ 44 by decide), e _ (show 41 ≤ 45 by decide), e _ (show 41 ≤ 46 by decide), e _ (show 41 ≤ 47 by decide), e _ (show 41 ≤ 48 by decide), e _ (show 41 ≤ 49 by decide), e _ (show 41 ≤ 50 by decide), e _ (show 41 ≤ 51 by decide), e _ (show 41 ≤ 52 by decide), e _ (show 41 ≤ 59 by decide)]
  exact hm
theorem ClW.mv {h h' : Hp} {S : ST} (hc : ClW h S) (e : ∀ q, q < 41 → h' q = h q) : ClW h' S := hc.of (fun q hq _ _ _ _ _ _ => e q hq)
def lA (p : Program) (s : State) (m : MethodId) (meth : Method) (c : Code) (b L : Nat) (xs : Nat → Int32) (E : Wd) : Prop :=
  p.tables.exec = Jvm.exec ∧ c.code = c_L_law ∧ meth.sig.returnType = ret ∧ c.maxLocals = 4 ∧ s.vm.findClass R_L = some m.cls ∧ (∀ w ∈ lw_g, w.before #[Value.ref b] s = true) ∧ va_X b L xs s s.heap ∧ b < s.heap.size ∧ meth.locks = false ∧ va_K E.2.2.2.2.1 vcl (wty E) s ∧ Nst s ∧ E.2.1 64 = b
section LawRules
variable {p : Program} {e : Env} {s : State} {m : MethodId} {below : List Frame} {meth : Method} {c : Code} {b L : Nat} {xs : Nat → Int32} {E : Wd} {pc : Nat} {Lc : List (Option Value)} {st : List Value} {h : Hp}
def X (p : Program) (e : Env) (s : State) (m : MethodId) (below : List Frame) (meth : Method) (c : Code) (b : Nat) (E : Wd) (pc : Nat) (Lc : List (Option Value)) (st : List Value) (h : Hp) : Prop :=
  ∀ (H : Heap) (locs : List Loc), va_P E.2.2.2.2.1 vcl (wld E h) H → va_D (fun q => s.heap.size ≤ q) (wld E h) → va_S (fun q => s.heap.size ≤ q) s.heap H locs → ∀ ls : Array Slot, lvh E.2.1 ls 4 Lc →
    W p E.1 e room_1 s m #[Value.ref b] below meth c H locs 64 14054 (lw_Z below #[Value.ref b] s) (F0 m pc ls (st.map (cvv E.2.1)))
theorem X_iconst {i : Int} {v : Int32} (C : lA p s m meth c b L xs E) (hd : decode c_L_law pc = .ok (.iconst i, 1)) (hv : Int32.ofInt i = v) (k : X p e s m below meth c b E (pc + 1) Lc (.int v :: st) h) : X p e s m below meth c b E pc Lc st h := by
  intro H locs hP hD hS ls hl
  exact lv_iconst C.1 C.2.1 hd hv (k H locs hP hD hS ls hl)
theorem X_bipush {i : Int} {v : Int32} (C : lA p s m meth c b L xs E) (hd : decode c_L_law pc = .ok (.bipush i, 2)) (hv : (Int8.ofInt i).toInt32 = v) (k : X p e s m below meth c b E (pc + 2) Lc (.int v :: st) h) : X p e s m below meth c b E pc Lc st h := by
  intro H locs hP hD hS ls hl
  exact lv_bipush C.1 C.2.1 hd hv (k H locs hP hD hS ls hl)
theorem X_aload_n {i : Fin 4} {x : Nat} (C : lA p s m meth c b L xs E) (hd : decode c_L_law pc = .ok (.aload_n i, 1)) (hi : Lc[(i : Nat)]? = some (some (.ref x))) (k : X p e s m below meth c b E (pc + 1) Lc (.ref x :: st) h) : X p e s m below meth c b E pc Lc st h := by
  intro H locs hP hD hS ls hl
  exact lv_aload_n C.1 C.2.1 hd rfl (hl.2.2 _ _ hi).2 (k H locs hP hD hS ls hl)
theorem X_iload_n {i : Fin 4} {x : Int32} (C : lA p s m meth c b L xs E) (hd : decode c_L_law pc = .ok (.iload_n i, 1)) (hi : Lc[(i : Nat)]? = some (some (.int x))) (k : X p e s m below meth c b E (pc + 1) Lc (.int x :: st) h) : X p e s m below meth c b E pc Lc st h := by
  intro H locs hP hD hS ls hl
  exact lv_iload_n C.1 C.2.1 hd rfl (hl.2.2 _ _ hi).2 (k H locs hP hD hS ls hl)
theorem X_istore_n {i : Fin 4} {x : Int32} (C : lA p s m meth c b L xs E) (hd : decode c_L_law pc = .ok (.istore_n i, 1)) (hn : (i : Nat) < 4) (k : X p e s m below meth c b E (pc + 1) (Lc.set (i : Nat) (some (.int x))) st h) : X p e s m below meth c b E pc Lc (.int x :: st) h := by
  intro H locs hP hD hS ls hl
  exact lv_istore_n C.1 C.2.1 hd rfl hl.has hn rfl (fun ls' h' => k H locs hP hD hS ls' (hl.set (v := .int x) rfl h'))
theorem X_iinc {i : Nat} {j : Int} {x v : Int32} (C : lA p s m meth c b L xs E) (hd : decode c_L_law pc = .ok (.iinc i j, 3)) (hi : Lc[i]? = some (some (.int x))) (hv : x + Int32.ofInt j = v) (hn : i < 4) (k : X p e s m below meth c b E (pc + 3) (Lc.set i (some (.int v))) st h) : X p e s m below meth c b E pc Lc st h := by
  intro H locs hP hD hS ls hl
  obtain ⟨j, hj⟩ := List.getElem?_of_mem (lst_mem.mpr ⟨_, hi, rfl⟩ : (i, cvv E.2.1 (.int x)) ∈ lst E.2.1 Lc)
  exact lv_iinc C.1 C.2.1 hd hl.has hj hv hn rfl (fun ls' h' => k H locs hP hD hS ls' (hl.set (v := .int v) rfl h'))
theorem X_goto {off : Int} {tgt : Nat} (C : lA p s m meth c b L xs E) (hd : decode c_L_law pc = .ok (.goto off, 3)) (ht : (pc : Int) + off = (tgt : Int)) (k : X p e s m below meth c b E tgt Lc st h) : X p e s m below meth c b E pc Lc st h := by
  intro H locs hP hD hS ls hl
  exact lv_goto C.1 C.2.1 hd ht (k H locs hP hD hS ls hl)
theorem X_iadd {x y : Int32} (C : lA p s m meth c b L xs E) (hd : decode c_L_law pc = .ok (.iadd, 1)) (k : X p e s m below meth c b E (pc + 1) Lc (.int (x + y) :: st) h) : X p e s m below meth c b E pc Lc (.int y :: .int x :: st) h := by
  intro H locs hP hD hS ls hl
  exact lv_iadd C.1 C.2.1 hd (k H locs hP hD hS ls hl)
theorem X_isub {x y : Int32} (C : lA p s m meth c b L xs E) (hd : decode c_L_law pc = .ok (.isub, 1)) (k : X p e s m below meth c b E (pc + 1) Lc (.int (x - y) :: st) h) : X p e s m below meth c b E pc Lc (.int y :: .int x :: st) h := by
  intro H locs hP hD hS ls hl
  exact lv_isub C.1 C.2.1 hd (k H locs hP hD hS ls hl)
theorem X_iand {x y : Int32} (C : lA p s m meth c b L xs E) (hd : decode c_L_law pc = .ok (.iand, 1)) (k : X p e s m below meth c b E (pc + 1) Lc (.int (x &&& y) :: st) h) : X p e s m below meth c b E pc Lc (.int y :: .int x :: st) h := by
  intro H locs hP hD hS ls hl
  exact lv_iand C.1 C.2.1 hd (k H locs hP hD hS ls hl)
theorem X_alen (C : lA p s m meth c b L xs E) (hd : decode c_L_law pc = .ok (.arraylength, 1)) (k : X p e s m below meth c b E (pc + 1) Lc (.int (Int32.ofNat L) :: st) h) : X p e s m below meth c b E pc Lc (.ref 64 :: st) h := by
  intro H locs hP hD hS ls hl
  show W _ _ _ _ _ _ _ _ _ _ _ _ _ _ _ (F0 m pc ls (.ref (E.2.1 64) :: st.map (cvv E.2.1)))
  rw [C.2.2.2.2.2.2.2.2.2.2.2]
  exact va_slen C.1 C.2.1 C.2.2.2.2.2.2.1 C.2.2.2.2.2.2.2.1 (Nat.not_le.mpr C.2.2.2.2.2.2.2.1) hS hd (k H locs hP hD hS ls hl)
theorem X_ald {i : Int32} {j : Nat} (C : lA p s m meth c b L xs E) (hd : decode c_L_law pc = .ok (.iaload, 1)) (hi : i = nI j) (hj : j < L) (hL : L ≤ 3072) (k : X p e s m below meth c b E (pc + 1) Lc (.int (xs j) :: st) h) : X p e s m below meth c b E pc Lc (.int i :: .ref 64 :: st) h := by
  intro H locs hP hD hS ls hl
  show W _ _ _ _ _ _ _ _ _ _ _ _ _ _ _ (F0 m pc ls (.int i :: .ref (E.2.1 64) :: st.map (cvv E.2.1)))
  rw [C.2.2.2.2.2.2.2.2.2.2.2]
  have e1 : i.toNatClampNeg = j := by rw [hi]; exact nI_clamp (by omega)
  have kk := k H locs hP hD hS ls hl
  rw [← e1] at kk
  exact va_sld C.1 C.2.1 C.2.2.2.2.2.2.1 C.2.2.2.2.2.2.2.1 (Nat.not_le.mpr C.2.2.2.2.2.2.2.1) hS (by rw [hi]; exact vp_in_nI (by omega) (by omega)) hd kk
theorem X_icmp_gt {x y : Int32} {off : Int} {tgt : Nat} (C : lA p s m meth c b L xs E) (hd : decode c_L_law pc = .ok (.if_icmp .gt off, 3)) (ht : (pc : Int) + off = (tgt : Int)) (kt : y < x → X p e s m below meth c b E tgt Lc st h) (kf : ¬ (y < x) → X p e s m below meth c b E (pc + 3) Lc st h) : X p e s m below meth c b E pc Lc (.int y :: .int x :: st) h := by
  intro H locs hP hD hS ls hl
  exact lv_icmp_gt C.1 C.2.1 hd ht (fun q => kt q H locs hP hD hS ls hl) (fun q => kf q H locs hP hD hS ls hl)
theorem X_icmp_same {x : Int32} {off : Int} {tgt : Nat} (C : lA p s m meth c b L xs E) (hd : decode c_L_law pc = .ok (.if_icmp .eq off, 3)) (ht : (pc : Int) + off = (tgt : Int)) (kt : X p e s m below meth c b E tgt Lc st h) : X p e s m below meth c b E pc Lc (.int x :: .int x :: st) h := by
  intro H locs hP hD hS ls hl
  exact lv_icmp_eq C.1 C.2.1 hd ht (fun q => kt H locs hP hD hS ls hl) (fun q => absurd rfl q)
theorem X_tableIn {dflt lo hi : Int} {offs : Array Int} {len : Nat} {x : Int32} {off : Int} {tgt : Nat} (C : lA p s m meth c b L xs E) (hd : decode c_L_law pc = .ok (.tableswitch dflt lo hi offs, len)) (h1 : ¬ x.toInt < lo) (h2 : ¬ hi < x.toInt) (ho : offs[(x.toInt - lo).toNat]? = some off) (ht : (pc : Int) + off = (tgt : Int)) (k : X p e s m below meth c b E tgt Lc st h) : X p e s m below meth c b E pc Lc (.int x :: st) h := by
  intro H locs hP hD hS ls hl
  exact lv_tableIn C.1 C.2.1 hd h1 h2 ho ht (k H locs hP hD hS ls hl)
theorem X_tableOut {dflt lo hi : Int} {offs : Array Int} {len : Nat} {x : Int32} {tgt : Nat} (C : lA p s m meth c b L xs E) (hd : decode c_L_law pc = .ok (.tableswitch dflt lo hi offs, len)) (h1 : x.toInt < lo ∨ hi < x.toInt) (ht : (pc : Int) + dflt = (tgt : Int)) (k : X p e s m below meth c b E tgt Lc st h) : X p e s m below meth c b E pc Lc (.int x :: st) h := by
  intro H locs hP hD hS ls hl
  exact lv_tableOut C.1 C.2.1 hd h1 ht (k H locs hP hD hS ls hl)
theorem X_ret (C : lA p s m meth c b L xs E) (hd : decode c_L_law pc = .ok (.ireturn, 1)) : X p e s m below meth c b E pc Lc [.int 1] h := by
  intro H locs hP hD hS ls hl
  refine va_forget (fun q hq => hS.2.2 q hq) ?_
  refine W.widen (k := 600000) (n := 7302249) (by decide) (by decide) ?_
  exact lw_ret C.1 C.2.1 C.2.2.1 C.2.2.2.2.2.2.2.2.1 hd
theorem X_call {R : String} {idx n d' o ci : Nat} {rs : List (Option Nat)} {mt' : Mt} {as rest : List Value} {Q' : Option Value → Hp → Prop} (C : lA p s m meth c b L xs E) (hd : decode c_L_law pc = .ok (.invokevirtual idx, 3)) (hk : CLv R idx mt' n) (hR : R_L = R) (hc : Cq E d' mt' (.ref o :: as) h Q') (ho : shp[o]? = some (.inr (ci, rs))) (hC : (vcl[ci]?).map (fun q => q.1) = some mt'.1.cls) (hst : st = as.reverse ++ .ref o :: rest) (hdd : d' ≤ 1000) (hn : as.length = n) (hrm : (rest.map fun v => v.category).sum ≤ 8)
    (kk : ∀ v h', Q' v h' → X p e s m below meth c b E (pc + 3) Lc (v.toList ++ rest) h') : X p e s m below meth c b E pc Lc st h := by
  intro H locs hP hD hS ls hl
  subst hst; subst hR
  obtain ⟨hx, hb, hret, hml, hown, hts, hX, hbl, hlk, hK, hN, h64⟩ := id C
  obtain ⟨h1, h2, h3, hcode, hini, hpl, hne, hmx, hpm⟩ := hk
  obtain ⟨q, hq, hq1⟩ : ∃ q, vcl[ci]? = some q ∧ q.1 = mt'.1.cls := by
    cases hv : vcl[ci]? with
    | none => rw [hv] at hC; cases hC
    | some q => rw [hv] at hC; exact ⟨q, rfl, Option.some.inj hC⟩
  have hpre := preOf (E := E) (h := h) (as := .ref o :: as) hP hK hD hN
  have hrecv : ∃ cellB : Cell, H[E.2.1 o]? = some cellB ∧ cellB.vm.isStatics = false ∧ s.vm.findClass mt'.1.cls = some cellB.cls := by
    rw [← hq1]
    exact va_recv hK hP (ci := ci) (q0 := o) hq (wld_atO ho (vcl_lt hq))
  have hr : va_Run p E.1 e room_1 s m #[Value.ref b] below meth c H locs 64 14054 0 0 (F0 m pc ls ((as.reverse ++ .ref o :: rest).map (cvv E.2.1))) (rest.map (cvv E.2.1)) (Qend E (va_A (wld E h) H.size) Q' (Value.ref (E.2.1 o) :: as.map (cvv E.2.1)).toArray) (va_A (wld E h) H.size) := by
    refine va_runV (As := as.map (cvv E.2.1)) (n := n) (b := E.2.1 o) (C := mt'.1.cls) ⟨hx, hb, hml, hown, hts⟩ (hc H.size) ⟨callB_of n hts (lw_g_good (fun w hw => ?_)) rfl rfl rfl (hts _ hini) (hts _ h1) ⟨hne.1, hne.2, hpm⟩ ⟨?_, ?_⟩, hts _ h2, hts _ h3⟩ ⟨hpre.1, hrecv, hpre.2⟩ rfl (by simpa using hn) hl.1 (by simp [cvv]) (lv_room (by rw [catmap]; exact hrm)) hd ⟨by decide, by decide⟩
    · rcases List.mem_cons.mp hw with rfl | hw
      · exact hcode
      · exact hw
    · show d' + 1 ≤ 2048
      omega
    · show 8 + (mt'.2.2.1 + 11) + 64 * d' ≤ 84000
      omega
  intro T hT Y
  obtain ⟨v, st₀, t, T', L', h0, Y', hL, e1, e2, ⟨⟨v', h', hv, hq', hP1, hK1, hD1⟩, hz, hk⟩, stp⟩ := hr T hT Y
  have hv' : v = v'.map (cvv E.2.1) := by injection hv
  have hFA : ∀ q, va_A (wld E h) H.size q → s.heap.size ≤ q := by
    intro q hq
    rcases hq with ⟨k, e, hk⟩ | hq
    · exact hD.2 k _ hk
    · exact Nat.le_trans hS.1 hq
  rw [h0] at hz hk
  have hS1 : va_S (fun q => s.heap.size ≤ q) s.heap T'.heap (locs ++ L') := by
    refine ⟨Nat.le_trans hS.1 (by rw [e1]; exact hz), fun q h1 h2 => ?_, fun q hq => ?_⟩
    · rw [e1, hk q (Nat.lt_of_lt_of_le h1 hS.1) (fun z => h2 (hFA q z))]
      exact hS.2.1 q h1 h2
    · rcases List.mem_append.mp hq with h | h
      · exact hS.2.2 q h
      · exact hFA _ (hL q h)
  have key := kk v' h' hq' T'.heap (locs ++ L') (by rw [e1]; exact hP1) (hD1.weaken (fun k q _ h => hFA q.1 h)) hS1 ls hl
  obtain ⟨t2, a1, b1⟩ := key T' rfl Y'
  refine ⟨t2, stp t2 ?_, b1⟩
  have e3 : (v'.toList ++ rest).map (cvv E.2.1) = v.toList ++ rest.map (cvv E.2.1) := by
    rw [hv']
    cases v' <;> rfl
  rw [← e3]
  exact a1
end LawRules
theorem nI_plus (k i : Nat) : nI i + nI k = nI (i + k) := by
  show Int32.ofNat i + Int32.ofNat k = Int32.ofNat (i + k)
  rw [Int32.ofNat_add]
