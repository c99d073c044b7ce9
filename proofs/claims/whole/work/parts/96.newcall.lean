/-! calls of constructors; rows in a growing world -/
theorem va_nd_range' (n a : Nat) : va_nd (List.range' a n) = true := by
  induction n generalizing a with
  | zero => rfl
  | succ n ih =>
    rw [List.range'_succ]
    simp only [va_nd, Bool.and_eq_true, decide_eq_true_eq]
    refine ⟨?_, ih (a + 1)⟩
    rw [List.mem_range'_1]
    omega
theorem pick_front (wr : va_W) (x : Nat × va_E) : (List.range' 0 wr.length).map (fun i => (wr ++ [x])[i]?) = wr.map some := by
  apply List.ext_getElem?
  intro j
  rw [List.getElem?_map, List.getElem?_map]
  by_cases hj : j < wr.length
  · rw [List.getElem?_range' (by omega)]
    simp only [Option.map_some, Nat.zero_add, Nat.one_mul]
    rw [List.getElem?_append_left hj, List.getElem?_eq_getElem hj]
    rfl
  · rw [List.getElem?_eq_none (by simp; omega), List.getElem?_eq_none (by omega)]
    rfl
theorem pick_last (wr : va_W) (x : Nat × va_E) : [wr.length].map (fun i => (wr ++ [x])[i]?) = [x].map some := by
  simp
section NCalls
variable {E : Wd} {d K M : Nat} {mt : Mt} {Q : va_W → Prop} {pc : Nat} {L : List (Option Value)} {st : List Value} {ws : va_W} {k n : Nat}
theorem preN {s : State} {H : Heap} {A : Nat → Prop} {as : List Value} {wc : va_W} (hP : va_P E.2.2.2.2.1 vcl wc H) (hK : va_K E.2.2.2.2.1 vcl (wty E) s) (hD : va_D A wc) (hN : Nst s) :
    PreS s H (va_Pc as (fun U => U.heap.size = H.size ∧ va_P E.2.2.2.2.1 vcl wc U.heap ∧ va_K E.2.2.2.2.1 vcl (wty E) U ∧ va_D (fun _ => True) wc ∧ Nst U)) as := by
  refine ⟨fun a U g mk q => ?_, fun U hU hW => ?_⟩
  · obtain ⟨q0, q1, qP, qK, qD, qN⟩ := q
    exact ⟨q0, q1, qP, va_K.moved (u := U) (U := U.calling g mk a) (Vm.Alike.refl U.vm) qK, qD, Nst.same (s := U) (U := U.calling g mk a) rfl qN⟩
  · exact ⟨rfl, by rw [hU], by rw [hU]; exact hP, va_K.moved hW.alike hK, hD.weaken (fun _ _ _ _ => trivial), hN.warm hW⟩
theorem N_init {R : String} {idx np d' K' M' q : Nat} {mt' : Mt} {as rest : List Value} {e0 : va_E} {wr : va_W} {Q' : va_W → Prop} (hd : decode mt.2.1 pc = .ok (.invokespecial idx, 3)) (hk : CLi R idx mt' np) (hR : mt.1.cls = R) (hc : CtN E d' K' M' mt' (.ref q :: as) [(q, e0)] Q') (hws : ws = wr ++ [(q, e0)]) (hst : st = as.reverse ++ .ref q :: rest) (hdd : d' < d) (hn : as.length = np) (hrm : (rest.map fun v => v.category).sum ≤ 8) (hk1 : k + K' ≤ K) (hn1 : n + M' ≤ M)
    (kk : ∀ w1, Q' w1 → N E d K M mt Q (pc + 3) L rest (wr ++ w1) (k + K') (n + M')) : N E d K M mt Q pc L st ws k n := by
  intro p e s m args below meth c A C hA H locs hP hD hS ls hl
  subst hst; subst hR; subst hws
  obtain ⟨⟨hx, hb, hml, hret, hown, hts, hlk, hK, hN⟩, hnm⟩ := id C
  obtain ⟨h1, h2, h3, h4, hcode, hini, hpl, hne, hmx, hpm⟩ := hk
  obtain ⟨y, cd, ml, rt⟩ := mt'
  dsimp only at h1 h2 h3 h4 hcode hini hpl hne hmx hpm
  subst h4
  have hPc : va_P E.2.2.2.2.1 vcl [(q, e0)] H := hP.by (fun _ => wr.length) (fun i x hx => by
    have hz : i < 1 := (List.getElem?_eq_some_iff.mp hx).1
    rw [show i = 0 by omega] at hx
    rw [List.getElem?_append_right (Nat.le_refl _), Nat.sub_self]
    exact hx)
  have hDc : va_D A [(q, e0)] := hD.sub [wr.length] rfl (pick_last wr _)
  have hFc := va_free (wc := [(q, e0)]) hD hS hA [wr.length] (pick_last wr _)
  refine va_callv (S := va_W) (post := Q') (B := fun w t => va_P E.2.2.2.2.1 vcl w t.heap ∧ va_K E.2.2.2.2.1 vcl (wty E) t ∧ va_D (va_A [(q, e0)] H.size) w) (A1 := va_A [(q, e0)] H.size) (va_runI (As := as) (rest := rest) (n := np) ⟨hx, hb, hml, hown, hts⟩ (hc H.size) ⟨callB_of np hts (lw_g_good (fun w hw => ?_)) rfl rfl rfl (hts _ hini) (hts _ h1) ⟨hne.1, hne.2, hpm⟩ ⟨?_, ?_⟩, h3, hts _ h2⟩ (preN hPc hK hDc hN) rfl hn hl.1 rfl (lv_room hrm) hd ⟨hk1, hn1⟩) hS (fun q _ h => hFc q h) hFc (fun u t H1 locs1 ht hvm hq hB hz1 hk2 hS1 => ?_)
  · rcases List.mem_cons.mp hw with rfl | hw
    · exact hcode
    · exact hw
  · show d' + 1 ≤ d
    omega
  · show 8 + (ml + 11) + 64 * d' ≤ 64 * d
    omega
  · obtain ⟨hP1, hK1, hD1⟩ := hB
    rw [ht] at hP1
    obtain ⟨hP2, hD2⟩ := va_join (wr := wr) (w1 := u) hP hD [wr.length] (List.range' 0 wr.length) (pick_last wr _) (pick_front wr _) (va_nd_range' _ _) (fun i hi hj => by
      rw [List.mem_range'_1] at hi
      rw [List.mem_singleton] at hj
      omega) hk2 hFc hP1 hD1
    exact kk u hq p e s m args below meth c A C hA H1 locs1 hP2 hD2 hS1 ls hl
/-- a static call that gets one row, the last of the world -/
theorem N_stat {R : String} {idx np d' K' M' q : Nat} {mt' : Mt} {as rest : List Value} {e0 : va_E} {wr : va_W} {Q' : va_W → Prop} (hd : decode mt.2.1 pc = .ok (.invokestatic idx, 3)) (hk : CLs R idx mt' np) (hR : mt.1.cls = R) (hc : CtN E d' K' M' mt' as [(q, e0)] Q') (hws : ws = wr ++ [(q, e0)]) (hst : st = as.reverse ++ rest) (hdd : d' < d) (hn : as.length = np) (hrm : (rest.map fun v => v.category).sum ≤ 8) (hk1 : k + K' ≤ K) (hn1 : n + M' ≤ M)
    (kk : ∀ w1, Q' w1 → N E d K M mt Q (pc + 3) L rest (wr ++ w1) (k + K') (n + M')) : N E d K M mt Q pc L st ws k n := by
  intro p e s m args below meth c A C hA H locs hP hD hS ls hl
  subst hst; subst hR; subst hws
  obtain ⟨⟨hx, hb, hml, hret, hown, hts, hlk, hK, hN⟩, hnm⟩ := id C
  obtain ⟨h1, h2, hcode, hini, hpl, hne, hmx, hpm⟩ := hk
  have hPc : va_P E.2.2.2.2.1 vcl [(q, e0)] H := hP.by (fun _ => wr.length) (fun i x hx => by
    have hz : i < 1 := (List.getElem?_eq_some_iff.mp hx).1
    rw [show i = 0 by omega] at hx
    rw [List.getElem?_append_right (Nat.le_refl _), Nat.sub_self]
    exact hx)
  have hDc : va_D A [(q, e0)] := hD.sub [wr.length] rfl (pick_last wr _)
  have hFc := va_free (wc := [(q, e0)]) hD hS hA [wr.length] (pick_last wr _)
  refine va_callv (S := va_W) (post := Q') (B := fun w t => va_P E.2.2.2.2.1 vcl w t.heap ∧ va_K E.2.2.2.2.1 vcl (wty E) t ∧ va_D (va_A [(q, e0)] H.size) w) (A1 := va_A [(q, e0)] H.size) (va_runS (As := as) (rest := rest) (n := np) ⟨hx, hb, hml, hown, hts⟩ (hc H.size) ⟨callB_of np hts (lw_g_good (fun w hw => ?_)) rfl rfl rfl (hts _ hini) (hts _ h1) ⟨hne.1, hne.2, hpm⟩ ⟨?_, ?_⟩, hts _ h2⟩ (preN hPc hK hDc hN) rfl hn hl.1 rfl (lv_room hrm) hd ⟨hk1, hn1⟩) hS (fun q _ h => hFc q h) hFc (fun u t H1 locs1 ht hvm hq hB hz1 hk2 hS1 => ?_)
  · rcases List.mem_cons.mp hw with rfl | hw
    · exact hcode
    · exact hw
  · show d' + 1 ≤ d
    omega
  · show 8 + (mt'.2.2.1 + 11) + 64 * d' ≤ 64 * d
    omega
  · obtain ⟨hP1, hK1, hD1⟩ := hB
    rw [ht] at hP1
    obtain ⟨hP2, hD2⟩ := va_join (wr := wr) (w1 := u) hP hD [wr.length] (List.range' 0 wr.length) (pick_last wr _) (pick_front wr _) (va_nd_range' _ _) (fun i hi hj => by
      rw [List.mem_range'_1] at hi
      rw [List.mem_singleton] at hj
      omega) hk2 hFc hP1 hD1
    exact kk u hq p e s m args below meth c A C hA H1 locs1 hP2 hD2 hS1 ls hl
theorem N_iload_n {i : Fin 4} {x : Int32} (hd : decode mt.2.1 pc = .ok (.iload_n i, 1)) (hi : L[(i : Nat)]? = some (some (.int x))) (kk : N E d K M mt Q (pc + 1) L (.int x :: st) ws k n) : N E d K M mt Q pc L st ws k n := by
  intro p e s m args below meth c A C hA H locs hP hD hS ls hl
  exact lv_iload_n C.1.1 C.1.2.1 hd rfl (hl.2.2 _ _ hi).2 (kk p e s m args below meth c A C hA H locs hP hD hS ls hl)
theorem N_istore_n {i : Fin 4} {x : Int32} (hd : decode mt.2.1 pc = .ok (.istore_n i, 1)) (hn : (i : Nat) < mt.2.2.1) (kk : N E d K M mt Q (pc + 1) (L.set (i : Nat) (some (.int x))) st ws k n) : N E d K M mt Q pc L (.int x :: st) ws k n := by
  intro p e s m args below meth c A C hA H locs hP hD hS ls hl
  exact lv_istore_n C.1.1 C.1.2.1 hd rfl hl.has hn rfl (fun ls' h' => kk p e s m args below meth c A C hA H locs hP hD hS ls' (hl.set (v := .int x) rfl h'))
theorem N_iinc {i : Nat} {j : Int} {x v : Int32} (hd : decode mt.2.1 pc = .ok (.iinc i j, 3)) (hi : L[i]? = some (some (.int x))) (hv : x + Int32.ofInt j = v) (hn : i < mt.2.2.1) (kk : N E d K M mt Q (pc + 3) (L.set i (some (.int v))) st ws k n) : N E d K M mt Q pc L st ws k n := by
  intro p e s m args below meth c A C hA H locs hP hD hS ls hl
  obtain ⟨j, hj⟩ := List.getElem?_of_mem (lst_mem.mpr ⟨_, hi, rfl⟩ : (i, cvv id (.int x)) ∈ lst id L)
  exact lv_iinc C.1.1 C.1.2.1 hd hl.has hj hv hn rfl (fun ls' h' => kk p e s m args below meth c A C hA H locs hP hD hS ls' (hl.set (v := .int v) rfl h'))
theorem N_goto {off : Int} {tgt : Nat} (hd : decode mt.2.1 pc = .ok (.goto off, 3)) (ht : (pc : Int) + off = (tgt : Int)) (kk : N E d K M mt Q tgt L st ws k n) : N E d K M mt Q pc L st ws k n := by
  intro p e s m args below meth c A C hA H locs hP hD hS ls hl
  exact lv_goto C.1.1 C.1.2.1 hd ht (kk p e s m args below meth c A C hA H locs hP hD hS ls hl)
theorem N_icmp_ge {x y : Int32} {off : Int} {tgt : Nat} (hd : decode mt.2.1 pc = .ok (.if_icmp .ge off, 3)) (ht : (pc : Int) + off = (tgt : Int)) (kt : y ≤ x → N E d K M mt Q tgt L st ws k n) (kf : ¬ (y ≤ x) → N E d K M mt Q (pc + 3) L st ws k n) : N E d K M mt Q pc L (.int y :: .int x :: st) ws k n := by
  intro p e s m args below meth c A C hA H locs hP hD hS ls hl
  exact lv_icmp_ge C.1.1 C.1.2.1 hd ht (fun q => kt q p e s m args below meth c A C hA H locs hP hD hS ls hl) (fun q => kf q p e s m args below meth c A C hA H locs hP hD hS ls hl)
theorem N_alen {q0 q cnt : Nat} {f : Nat → Int32} {v : Int32} (hd : decode mt.2.1 pc = .ok (.arraylength, 1)) (ha : ws[q0]? = some (q, .inl (E.2.2.1, cnt, .inl f))) (hv : Int32.ofNat cnt = v) (kk : N E d K M mt Q (pc + 1) L (.int v :: st) ws k n) : N E d K M mt Q pc L (.ref q :: st) ws k n := by
  intro p e s m args below meth c A C hA H locs hP hD hS ls hl
  exact va_alen C.1.1 C.1.2.1 C.1.2.2.2.2.2.2.2.1 hP q0 0 ha (ty := .int) rfl hv hd (kk p e s m args below meth c A C hA H locs hP hD hS ls hl)
theorem N_iast {q0 q cnt : Nat} {f : Nat → Int32} {i x : Int32} (hd : decode mt.2.1 pc = .ok (.iastore, 1)) (ha : ws[q0]? = some (q, .inl (E.2.2.1, cnt, .inl f))) (hin : vp_in i cnt) (kk : N E d K M mt Q (pc + 1) L st (ws.set q0 (q, .inl (E.2.2.1, cnt, .inl (upd f i.toNatClampNeg x)))) k n) : N E d K M mt Q pc L (.int x :: .int i :: .ref q :: st) ws k n := by
  intro p e s m args below meth c A C hA H locs hP hD hS ls hl
  exact va_iast C.1.1 C.1.2.1 C.1.2.2.2.2.2.2.2.1 hP hD hS q0 0 ha rfl hin hd (fun H1 locs1 hP1 hD1 hS1 => kk p e s m args below meth c A C hA H1 locs1 hP1 hD1 hS1 ls hl)
theorem N_get {R : String} {idx ci i q0 a : Nat} {fs : List Value} {v : Value} (hd : decode mt.2.1 pc = .ok (.getfield idx, 3)) (hf : FL R idx ci i) (hR : mt.1.cls = R) (he : ws[q0]? = some (a, .inr (ci, fs))) (hv : fs[i]? = some v) (kk : N E d K M mt Q (pc + 3) L (v :: st) ws k n) : N E d K M mt Q pc L (.ref a :: st) ws k n := by
  intro p e s m args below meth c A C hA H locs hP hD hS ls hl
  subst hR
  obtain ⟨Cn, T, N0, ty0, hc, hkN, hlink, hin2, hty, hnm⟩ := hf
  exact va_get C.1.1 C.1.2.1 C.1.2.2.2.2.2.1 hin2 C.1.2.2.2.2.1 C.1.2.2.2.2.2.2.2.1 hP q0 he hc i hkN (C.1.2.2.2.2.2.1 _ hlink) (fun _ h9 => h9) hv hd (kk p e s m args below meth c A C hA H locs hP hD hS ls hl)
end NCalls
theorem n_fill {E : Wd} (q : Nat) {n : Nat} (hn : n < 2 ^ 31) (f : Nat → Int32) (v : Int32) : CtN E 0 0 0 m_Arrays_fill_53178 [.ref q, .int v] [(q, .inl (E.2.2.1, n, .inl f))] (fun w => w = [(q, .inl (E.2.2.1, n, .inl (fa_fill (fun _ => v) f n)))]) := by
  refine CtN_of ok_Arrays_fill_53178 rfl (Nat.le_of_ble_eq_true rfl) (L := [some (.ref q), some (.int v), none, none]) rfl ?_
  refine N_iconst (v := 0) d_Arrays_fill_53178_0 (by decide) ?_
  refine N_istore_n d_Arrays_fill_53178_1 (by decide) ?_
  dsimp only [List.set]
  refine N_aload_n d_Arrays_fill_53178_2 rfl ?_
  refine N_alen (q0 := 0) d_Arrays_fill_53178_3 rfl rfl ?_
  refine N_istore_n d_Arrays_fill_53178_4 (by decide) ?_
  dsimp only [List.set]
  have loop : ∀ i, i ≤ n → N E 0 0 0 m_Arrays_fill_53178 (fun w => w = [(q, .inl (E.2.2.1, n, .inl (fa_fill (fun _ => v) f n)))]) 5 [some (.ref q), some (.int v), some (.int (nI i)), some (.int (Int32.ofNat n))] [] [(q, .inl (E.2.2.1, n, .inl (fa_fill (fun _ => v) f i)))] 0 0 := by
    refine up_ind n ?_
    intro i hi ih
    refine N_iload_n d_Arrays_fill_53178_5 rfl ?_
    refine N_iload_n d_Arrays_fill_53178_6 rfl ?_
    refine N_icmp_ge (tgt := 20) d_Arrays_fill_53178_7 (by decide) (fun b7 => ?_) (fun b7 => ?_)
    · have hin : i = n := by
        have := (le_nI n i rfl rfl hn (by omega)).mp b7
        omega
      subst hin
      exact N_vret d_Arrays_fill_53178_20 rfl (by decide) (by decide) rfl
    · have hin : i < n := by
        rcases Nat.lt_or_ge i n with q | q
        · exact q
        · exact absurd ((le_nI n i rfl rfl hn (by omega)).mpr q) b7
      refine N_aload_n d_Arrays_fill_53178_10 rfl ?_
      refine N_iload_n d_Arrays_fill_53178_11 rfl ?_
      refine N_iload_n d_Arrays_fill_53178_12 rfl ?_
      refine N_iast (q0 := 0) d_Arrays_fill_53178_13 rfl (vp_in_nI (by omega) (by omega)) ?_
      refine N_iinc d_Arrays_fill_53178_14 rfl rfl (by decide) ?_
      refine N_goto (tgt := 5) d_Arrays_fill_53178_17 (by decide) ?_
      dsimp only [List.set]
      rw [nI_clamp (by omega), show upd (fa_fill (fun _ => v) f i) i v = fa_fill (fun _ => v) f (i + 1) from fa_fill_succ (fun _ => v) f i, show nI i + Int32.ofInt 1 = nI (i + 1) from nI_1 i]
      exact ih hin
  have h0 := loop 0 (Nat.zero_le n)
  rw [fa_fill_0] at h0
  exact h0
