theorem lw_g_good {ws : List Cond} (h : ∀ w ∈ ws, w ∈ lw_g) : GoodIn lw_g ws := fun w hw => ⟨h w hw, good_of_word (List.mem_filter.mp (h w hw)).2⟩
section Calls2
variable {E : Wd} {d : Nat} {mt : Mt} {Q : Option Value → Hp → Prop} {pc : Nat} {L : List (Option Value)} {st : List Value} {h : Hp}
theorem V_after {p : Program} {e : Env} {s : State} {m : MethodId} {args : Array Value} {below : List Frame} {meth : Method} {c : Code} {A : Nat → Prop} {H : Heap} {locs : List Loc} {ls : Array Slot} {rest : List Value} {st0 : List Value} {a : Array Value} {Q' : Option Value → Hp → Prop}
    (C : Ctx E mt p s m args meth c) (hA : ∀ q, s.heap.size ≤ q → A q) (hP : va_P E.2.2.2.2.1 vcl (wld E h) H) (hD : va_D A (wld E h)) (hS : va_S A s.heap H locs) (hl : lvh E.2.1 ls mt.2.2.1 L)
    (hr : va_Run p E.1 e (rmd d) s m args below meth c H locs 0 0 0 0 (F0 m pc ls st0) (rest.map (cvv E.2.1)) (Qend E (va_A (wld E h) H.size) Q' a) (va_A (wld E h) H.size))
    (kk : ∀ v h', Q' v h' → V E d mt Q (pc + 3) L (v.toList ++ rest) h') : W p E.1 e (rmd d) s m args below meth c H locs 0 0 (MQ below (Qend E A Q) args s 0 0 A) (F0 m pc ls st0) := by
  intro T hT X
  obtain ⟨v, st₀, t, T', L', h0, X', hL, e1, e2, ⟨⟨v', h', hv, hq, hP1, hK1, hD1⟩, hz, hk⟩, stp⟩ := hr T hT X
  have hv' : v = v'.map (cvv E.2.1) := by injection hv
  have hFA : ∀ q, va_A (wld E h) H.size q → A q := by
    intro q hq
    rcases hq with ⟨k, e, hk⟩ | hq
    · exact hD.2 k _ hk
    · exact hA q (Nat.le_trans hS.1 hq)
  rw [h0] at hz hk
  have hS1 : va_S A s.heap T'.heap (locs ++ L') := by
    refine ⟨Nat.le_trans hS.1 (by rw [e1]; exact hz), fun q h1 h2 => ?_, fun q hq => ?_⟩
    · rw [e1, hk q (Nat.lt_of_lt_of_le h1 hS.1) (fun z => h2 (hFA q z))]
      exact hS.2.1 q h1 h2
    · rcases List.mem_append.mp hq with h | h
      · exact hS.2.2 q h
      · exact hFA _ (hL q h)
  have key := kk v' h' hq p e s m args below meth c A C hA T'.heap (locs ++ L') (by rw [e1]; exact hP1) (hD1.weaken (fun k q _ h => hFA q.1 h)) hS1 ls hl
  obtain ⟨t2, a1, b1⟩ := key T' rfl X'
  refine ⟨t2, stp t2 ?_, b1⟩
  have e3 : (v'.toList ++ rest).map (cvv E.2.1) = v.toList ++ rest.map (cvv E.2.1) := by
    rw [hv']
    cases v' <;> rfl
  rw [← e3]
  exact a1
theorem preOf {s : State} {H : Heap} {A : Nat → Prop} {as : List Value} (hP : va_P E.2.2.2.2.1 vcl (wld E h) H) (hK : va_K E.2.2.2.2.1 vcl (wty E) s) (hD : va_D A (wld E h)) (hN : Nst s) :
    PreS s H (va_Pc (as.map (cvv E.2.1)) (fun U => U.heap.size = H.size ∧ va_P E.2.2.2.2.1 vcl (wld E h) U.heap ∧ va_K E.2.2.2.2.1 vcl (wty E) U ∧ va_D (fun _ => True) (wld E h) ∧ Nst U)) (as.map (cvv E.2.1)) := by
  refine ⟨fun a U g mk q => ?_, fun U hU hW => ?_⟩
  · obtain ⟨q0, q1, qP, qK, qD, qN⟩ := q
    exact ⟨q0, q1, qP, va_K.moved (u := U) (U := U.calling g mk a) (Vm.Alike.refl U.vm) qK, qD, Nst.same (s := U) (U := U.calling g mk a) rfl qN⟩
  · exact ⟨rfl, by rw [hU], by rw [hU]; exact hP, va_K.moved hW.alike hK, hD.weaken (fun _ _ _ _ => trivial), hN.warm hW⟩
theorem catmap (ad : Nat → Nat) (st : List Value) : ((st.map (cvv ad)).map fun v => v.category).sum = (st.map fun v => v.category).sum := by
  rw [List.map_map]
  congr 1
  apply List.map_congr_left
  intro v _
  exact cvv_cat ad v
theorem V_callS {R : String} {idx n d' : Nat} {mt' : Mt} {as rest : List Value} {Q' : Option Value → Hp → Prop} (hd : decode mt.2.1 pc = .ok (.invokestatic idx, 3)) (hk : CLs R idx mt' n) (hR : mt.1.cls = R) (hc : Cq E d' mt' as h Q') (hst : st = as.reverse ++ rest) (hdd : d' < d) (hn : as.length = n) (hrm : (rest.map fun v => v.category).sum ≤ 8)
    (kk : ∀ v h', Q' v h' → V E d mt Q (pc + 3) L (v.toList ++ rest) h') : V E d mt Q pc L st h := by
  intro p e s m args below meth c A C hA H locs hP hD hS ls hl
  subst hst; subst hR
  obtain ⟨hx, hb, hml, hret, hown, hts, hlk, hK, hN⟩ := id C
  obtain ⟨h1, h2, hcode, hini, hpl, hne, hmx, hpm⟩ := hk
  refine V_after (rest := rest) C hA hP hD hS hl (va_runS (As := as.map (cvv E.2.1)) (n := n) ⟨hx, hb, hml, hown, hts⟩ (hc H.size) ⟨callB_of n hts (lw_g_good (fun w hw => ?_)) rfl rfl rfl (hts _ hini) (hts _ h1) ⟨hne.1, hne.2, hpm⟩ ⟨?_, ?_⟩, hts _ h2⟩ (preOf hP hK hD hN) rfl (by simpa using hn) hl.1 (by simp) (lv_room (by rw [catmap]; exact hrm)) hd ⟨Nat.le_refl _, Nat.le_refl _⟩) kk
  · rcases List.mem_cons.mp hw with rfl | hw
    · exact hcode
    · exact hw
  · show d' + 1 ≤ d
    omega
  · show 8 + (mt'.2.2.1 + 11) + 64 * d' ≤ 64 * d
    omega
theorem V_callN {R host : String} {idx n d' : Nat} {mt' : Mt} {as rest : List Value} {Q' : Option Value → Hp → Prop} (hd : decode mt.2.1 pc = .ok (.invokestatic idx, 3)) (hk : CLn R idx mt' n host) (hR : mt.1.cls = R) (hc : Cq E d' mt' as h Q') (hst : st = as.reverse ++ rest) (hdd : d' < d) (hn : as.length = n) (hrm : (rest.map fun v => v.category).sum ≤ 8)
    (kk : ∀ v h', Q' v h' → V E d mt Q (pc + 3) L (v.toList ++ rest) h') : V E d mt Q pc L st h := by
  intro p e s m args below meth c A C hA H locs hP hD hS ls hl
  subst hst; subst hR
  obtain ⟨hx, hb, hml, hret, hown, hts, hlk, hK, hN⟩ := id C
  obtain ⟨h1, h2, hcode, hini, hpl, hne, hmx, hpm⟩ := hk
  refine V_after (rest := rest) C hA hP hD hS hl (va_runSN (As := as.map (cvv E.2.1)) (n := n) ⟨hx, hb, hml, hown, hts⟩ (hc H.size) ⟨va_cnB n hts (lw_g_good (fun w hw => ?_)) rfl rfl rfl (hN _ h1) (hts _ hini) ⟨hne.1, hne.2, hpm⟩ ⟨?_, ?_⟩, hts _ h2, trivial⟩ (preOf hP hK hD hN) rfl (by simpa using hn) hl.1 (by simp) (lv_room (by rw [catmap]; exact hrm)) hd ⟨Nat.le_refl _, Nat.le_refl _⟩) kk
  · rcases List.mem_cons.mp hw with rfl | hw
    · exact hcode
    · exact hw
  · show d' + 1 ≤ d
    omega
  · show 8 + (mt'.2.2.1 + 11) + 64 * d' ≤ 64 * d
    omega
theorem V_callV {R : String} {idx n d' o ci : Nat} {rs : List (Option Nat)} {mt' : Mt} {as rest : List Value} {Q' : Option Value → Hp → Prop} (hd : decode mt.2.1 pc = .ok (.invokevirtual idx, 3)) (hk : CLv R idx mt' n) (hR : mt.1.cls = R) (hc : Cq E d' mt' (.ref o :: as) h Q') (ho : shp[o]? = some (.inr (ci, rs))) (hC : (vcl[ci]?).map (fun q => q.1) = some mt'.1.cls) (hst : st = as.reverse ++ .ref o :: rest) (hdd : d' < d) (hn : as.length = n) (hrm : (rest.map fun v => v.category).sum ≤ 8)
    (kk : ∀ v h', Q' v h' → V E d mt Q (pc + 3) L (v.toList ++ rest) h') : V E d mt Q pc L st h := by
  intro p e s m args below meth c A C hA H locs hP hD hS ls hl
  subst hst; subst hR
  obtain ⟨hx, hb, hml, hret, hown, hts, hlk, hK, hN⟩ := id C
  obtain ⟨h1, h2, h3, hcode, hini, hpl, hne, hmx, hpm⟩ := hk
  obtain ⟨q, hq, hq1⟩ : ∃ q, vcl[ci]? = some q ∧ q.1 = mt'.1.cls := by
    cases hv : vcl[ci]? with
    | none => rw [hv] at hC; cases hC
    | some q => rw [hv] at hC; exact ⟨q, rfl, Option.some.inj hC⟩
  have hpre := preOf (E := E) (h := h) (as := .ref o :: as) hP hK hD hN
  have hrecv : ∃ cellB : Cell, H[E.2.1 o]? = some cellB ∧ cellB.vm.isStatics = false ∧ s.vm.findClass mt'.1.cls = some cellB.cls := by
    rw [← hq1]
    exact va_recv hK hP (ci := ci) (q0 := o) hq (wld_atO ho (vcl_lt hq))
  refine V_after (rest := rest) C hA hP hD hS hl (va_runV (As := as.map (cvv E.2.1)) (n := n) (b := E.2.1 o) (C := mt'.1.cls) ⟨hx, hb, hml, hown, hts⟩ (hc H.size) ⟨callB_of n hts (lw_g_good (fun w hw => ?_)) rfl rfl rfl (hts _ hini) (hts _ h1) ⟨hne.1, hne.2, hpm⟩ ⟨?_, ?_⟩, hts _ h2, hts _ h3⟩ ⟨hpre.1, hrecv, hpre.2⟩ rfl (by simpa using hn) hl.1 (by simp [cvv]) (lv_room (by rw [catmap]; exact hrm)) hd ⟨Nat.le_refl _, Nat.le_refl _⟩) kk
  · rcases List.mem_cons.mp hw with rfl | hw
    · exact hcode
    · exact hw
  · show d' + 1 ≤ d
    omega
  · show 8 + (mt'.2.2.1 + 11) + 64 * d' ≤ 64 * d
    omega
end Calls2
/-- a contract that says which answer comes and which state -/
def Cd (E : Wd) (d : Nat) (mt : Mt) (args : List Value) (h : Hp) (v : Option Value) (h2 : Hp) : Prop := Cq E d mt args h (fun v' h' => v' = v ∧ h' = h2)
section Lib2
variable {E : Wd} {d : Nat} {mt : Mt} {Q : Option Value → Hp → Prop} {pc : Nat} {L : List (Option Value)} {st : List Value} {h : Hp}
theorem V_mmax {R : String} {idx : Nat} {x y : Int32} (hd : decode mt.2.1 pc = .ok (.invokestatic idx, 3)) (hk : MLk R idx Lib.Math.max.name Lib.Math.max.code 2) (hR : mt.1.cls = R) (hdd : 0 < d) (hrm : (st.map fun v => v.category).sum ≤ 8) (kk : V E d mt Q (pc + 3) L (.int (if x < y then y else x) :: st) h) : V E d mt Q pc L (.int y :: .int x :: st) h := by
  intro p e s m args below meth c A C hA H locs hP hD hS ls hl
  subst hR
  exact va_mmax (R := rmd d) C.1 C.2.1 (C.2.2.1.trans hl.1.symm) C.2.2.2.2.1 (C.2.2.2.2.2.1 _ hk.1) (C.2.2.2.2.2.1 _ hk.2.1) (C.2.2.2.2.2.1 _ hk.2.2.1) (C.2.2.2.2.2.1 _ hk.2.2.2) hdd (by rw [catmap]; show _ ≤ 64 * d; omega) (Nat.zero_le _) (Nat.zero_le _) hd (kk p e s m args below meth c A C hA H locs hP hD hS ls hl)
theorem V_mmin {R : String} {idx : Nat} {x y : Int32} (hd : decode mt.2.1 pc = .ok (.invokestatic idx, 3)) (hk : MLk R idx Lib.Math.min.name Lib.Math.min.code 2) (hR : mt.1.cls = R) (hdd : 0 < d) (hrm : (st.map fun v => v.category).sum ≤ 8) (kk : V E d mt Q (pc + 3) L (.int (if y < x then y else x) :: st) h) : V E d mt Q pc L (.int y :: .int x :: st) h := by
  intro p e s m args below meth c A C hA H locs hP hD hS ls hl
  subst hR
  exact va_mmin (R := rmd d) C.1 C.2.1 (C.2.2.1.trans hl.1.symm) C.2.2.2.2.1 (C.2.2.2.2.2.1 _ hk.1) (C.2.2.2.2.2.1 _ hk.2.1) (C.2.2.2.2.2.1 _ hk.2.2.1) (C.2.2.2.2.2.1 _ hk.2.2.2) hdd (by rw [catmap]; show _ ≤ 64 * d; omega) (Nat.zero_le _) (Nat.zero_le _) hd (kk p e s m args below meth c A C hA H locs hP hD hS ls hl)
theorem V_mabs {R : String} {idx : Nat} {x : Int32} (hd : decode mt.2.1 pc = .ok (.invokestatic idx, 3)) (hk : MLk R idx Lib.Math.abs.name Lib.Math.abs.code 1) (hR : mt.1.cls = R) (hdd : 0 < d) (hrm : (st.map fun v => v.category).sum ≤ 8) (kk : V E d mt Q (pc + 3) L (.int (if 0 ≤ x then x else 0 - x) :: st) h) : V E d mt Q pc L (.int x :: st) h := by
  intro p e s m args below meth c A C hA H locs hP hD hS ls hl
  subst hR
  exact va_mabs (R := rmd d) C.1 C.2.1 (C.2.2.1.trans hl.1.symm) C.2.2.2.2.1 (C.2.2.2.2.2.1 _ hk.1) (C.2.2.2.2.2.1 _ hk.2.1) (C.2.2.2.2.2.1 _ hk.2.2.1) (C.2.2.2.2.2.1 _ hk.2.2.2) hdd (by rw [catmap]; show _ ≤ 64 * d; omega) (Nat.zero_le _) (Nat.zero_le _) hd (kk p e s m args below meth c A C hA H locs hP hD hS ls hl)
/-- System.arraycopy(from, 0, to, 0, n) of int rows -/
theorem V_copy {R : String} {idx o q n0 n1 : Nat} {n : Int32} (hd : decode mt.2.1 pc = .ok (.invokestatic idx, 3)) (hk : ALk R idx) (hR : mt.1.cls = R) (ho : shp[o]? = some (.inl (false, n0))) (hq : shp[q]? = some (.inl (false, n1))) (hdd : 0 < d) (hrm : (st.map fun v => v.category).sum ≤ 8) (hn : ¬ n < 0) (hn0 : n.toNatClampNeg ≤ n0) (hn1 : n.toNatClampNeg ≤ n1) (kk : V E d mt Q (pc + 3) L st (hrow h q (va_cpy (h o) (h q) 0 0 n.toNatClampNeg))) : V E d mt Q pc L (.int n :: .int 0 :: .ref q :: .int 0 :: .ref o :: st) h := by
  intro p e s m args below meth c A C hA H locs hP hD hS ls hl
  subst hR
  have hw : nativeFrameWords "java/lang/System" "arraycopy" 5 = 7 := by decide
  refine va_copyi (R := rmd d) (sp := 0) (dp := 0) C.1 C.2.1 (C.2.2.1.trans hl.1.symm) C.2.2.2.2.1 (C.2.2.2.2.2.1 _ hk.1) (C.2.2.2.2.2.1 _ hk.2.1) (C.2.2.2.2.2.1 _ hk.2.2.1) (C.2.2.2.2.2.1 _ hk.2.2.2) C.2.2.2.2.2.2.2.1 hP hD hS o q 0 0 (wld_at ho) (wld_at hq) (ty := .int) rfl rfl rfl (by decide) (by decide) hn (by simpa using hn0) (by simpa using hn1) (fun i _ => rfl) hdd (by rw [catmap, hw]; show _ ≤ 64 * d; omega) hd (fun H1 locs1 hP1 hD1 hS1 => ?_)
  have e1 := wld_setA (E := E) (h := h) hq (va_cpy (h o) (h q) 0 0 n.toNatClampNeg)
  exact kk p e s m args below meth c A C hA H1 locs1 (by rw [← e1]; exact hP1) (by rw [← e1]; exact hD1) hS1 ls hl
end Lib2
section Calls3
variable {E : Wd} {d : Nat} {mt : Mt} {Q : Option Value → Hp → Prop} {pc : Nat} {L : List (Option Value)} {st : List Value} {h : Hp}
theorem V_callS1 {R : String} {idx n d' : Nat} {mt' : Mt} {as rest : List Value} {x : Value} {h2 : Hp} (hd : decode mt.2.1 pc = .ok (.invokestatic idx, 3)) (hk : CLs R idx mt' n) (hR : mt.1.cls = R) (hc : Cd E d' mt' as h (some x) h2) (hst : st = as.reverse ++ rest) (hdd : d' < d) (hn : as.length = n) (hrm : (rest.map fun v => v.category).sum ≤ 8)
    (kk : V E d mt Q (pc + 3) L (x :: rest) h2) : V E d mt Q pc L st h := V_callS hd hk hR hc hst hdd hn hrm (fun v h' q => by obtain ⟨rfl, rfl⟩ := q; exact kk)
theorem V_callS0 {R : String} {idx n d' : Nat} {mt' : Mt} {as rest : List Value} {h2 : Hp} (hd : decode mt.2.1 pc = .ok (.invokestatic idx, 3)) (hk : CLs R idx mt' n) (hR : mt.1.cls = R) (hc : Cd E d' mt' as h none h2) (hst : st = as.reverse ++ rest) (hdd : d' < d) (hn : as.length = n) (hrm : (rest.map fun v => v.category).sum ≤ 8)
    (kk : V E d mt Q (pc + 3) L rest h2) : V E d mt Q pc L st h := V_callS hd hk hR hc hst hdd hn hrm (fun v h' q => by obtain ⟨rfl, rfl⟩ := q; exact kk)
theorem V_callN1 {R host : String} {idx n d' : Nat} {mt' : Mt} {as rest : List Value} {x : Value} {h2 : Hp} (hd : decode mt.2.1 pc = .ok (.invokestatic idx, 3)) (hk : CLn R idx mt' n host) (hR : mt.1.cls = R) (hc : Cd E d' mt' as h (some x) h2) (hst : st = as.reverse ++ rest) (hdd : d' < d) (hn : as.length = n) (hrm : (rest.map fun v => v.category).sum ≤ 8)
    (kk : V E d mt Q (pc + 3) L (x :: rest) h2) : V E d mt Q pc L st h := V_callN hd hk hR hc hst hdd hn hrm (fun v h' q => by obtain ⟨rfl, rfl⟩ := q; exact kk)
theorem V_callV1 {R : String} {idx n d' o ci : Nat} {rs : List (Option Nat)} {mt' : Mt} {as rest : List Value} {x : Value} {h2 : Hp} (hd : decode mt.2.1 pc = .ok (.invokevirtual idx, 3)) (hk : CLv R idx mt' n) (hR : mt.1.cls = R) (hc : Cd E d' mt' (.ref o :: as) h (some x) h2) (ho : shp[o]? = some (.inr (ci, rs))) (hC : (vcl[ci]?).map (fun q => q.1) = some mt'.1.cls) (hst : st = as.reverse ++ .ref o :: rest) (hdd : d' < d) (hn : as.length = n) (hrm : (rest.map fun v => v.category).sum ≤ 8)
    (kk : V E d mt Q (pc + 3) L (x :: rest) h2) : V E d mt Q pc L st h := V_callV hd hk hR hc ho hC hst hdd hn hrm (fun v h' q => by obtain ⟨rfl, rfl⟩ := q; exact kk)
theorem V_callV0 {R : String} {idx n d' o ci : Nat} {rs : List (Option Nat)} {mt' : Mt} {as rest : List Value} {h2 : Hp} (hd : decode mt.2.1 pc = .ok (.invokevirtual idx, 3)) (hk : CLv R idx mt' n) (hR : mt.1.cls = R) (hc : Cd E d' mt' (.ref o :: as) h none h2) (ho : shp[o]? = some (.inr (ci, rs))) (hC : (vcl[ci]?).map (fun q => q.1) = some mt'.1.cls) (hst : st = as.reverse ++ .ref o :: rest) (hdd : d' < d) (hn : as.length = n) (hrm : (rest.map fun v => v.category).sum ≤ 8)
    (kk : V E d mt Q (pc + 3) L rest h2) : V E d mt Q pc L st h := V_callV hd hk hR hc ho hC hst hdd hn hrm (fun v h' q => by obtain ⟨rfl, rfl⟩ := q; exact kk)
theorem V_iincw {i : Nat} {n : Int} {x w : Int32} (hd : decode mt.2.1 pc = .ok (.iinc i n, 3)) (hi : L[i]? = some (some (.int x))) (hw : Int32.ofInt n = w) (hn : i < mt.2.2.1) (k : V E d mt Q (pc + 3) (L.set i (some (.int (x + w)))) st h) : V E d mt Q pc L st h := by
  subst hw
  exact V_iinc hd hi rfl hn k
theorem Cd_of {n : Nat} {args : List Value} {v : Option Value} {h2 : Hp} (ok : okM mt n) (hv : args.all (fun v => v.category == 1) = true) (hn : args.length ≤ mt.2.2.1) {L : List (Option Value)} (hL : args.map some ++ List.replicate (mt.2.2.1 - args.length) none = L)
    (k : V E d mt (fun v' h' => v' = v ∧ h' = h2) 0 L [] h) : Cd E d mt args h v h2 := Cq_of ok hv hn (by rw [hL]; exact k)
theorem Cq_of2 {n : Nat} {args : List Value} (ok : okM mt n) (hv : args.all (fun v => v.category == 1) = true) (hn : args.length ≤ mt.2.2.1) {L : List (Option Value)} (hL : args.map some ++ List.replicate (mt.2.2.1 - args.length) none = L)
    (k : V E d mt Q 0 L [] h) : Cq E d mt args h Q := Cq_of ok hv hn (by rw [hL]; exact k)
end Calls3
