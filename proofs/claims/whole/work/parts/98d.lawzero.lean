/-! the state at the loop's first head -/
def fm00 : Nat → Int32 := fa_fill (fun _ => -1) (fun _ => 0) 30
def h00 : Hp := fun q => if q = 11 then (fun k => if k = 0 then 2 else if k = 1 then 100 else if k = 2 then 10 else 0) else if q = 13 then fm00 else if q = 41 then (fun k => if k = 10 then 2 else if k = 11 then 100 else if k = 13 then 10 else 0) else if q = 51 then fm00 else fun _ => 0
def S00 : ST := (((0, 0), (fun _ => 0, fun _ => 0, fun _ => 0, fun _ => 0, fun _ => 0), (fun _ => 0, fun _ => 0, fun _ => 0)), ((2, 100, 10), fun _ => false, fun _ => none), fun _ => 0, none)
theorem fm00_at {p : Nat} (hp : p < 30) : fm00 p = -1 := by
  unfold fm00 fa_fill
  simp [hp]
theorem cI_no {P : Nat → Bool} (h : ∀ j, P j = false) : (0 : Int32) = cI P := (cI_eq0.mpr (fun j _ => h j)).symm
theorem mI_no {P : Nat → Bool} (h : ∀ j, P j = false) : (0 : Int32) = mI P := mI_eq (by intro i hi; simp [bt]) (fun j _ => by rw [h j]; simp [bt])
theorem cl00 : ClW h00 S00 := by
  refine ⟨⟨rfl, rfl, rfl, fun p hp => absurd hp (Nat.not_lt_zero p), fun b hb => absurd hb (Nat.not_lt_zero b), fun i _ => cI_no (fun j => rfl), fun t _ => cI_no (fun j => by simp [S00, dN])⟩, ⟨rfl, rfl, rfl, fun t _ => rfl, fun p hp => fm00_at hp⟩, ⟨fun j _ => ⟨(show (0 : Nat) < 6 by decide), rfl⟩, fun d _ => cI_no (fun j => by simp [S00, inN, dN])⟩, ⟨rfl, fun f hf => by cases hf⟩, BkW.no rfl⟩
theorem mo00 : MoW h00 S00 := by
  refine ⟨⟨rfl, rfl, fun p hp => absurd hp (Nat.not_lt_zero p), fun b hb => absurd hb (Nat.not_lt_zero b), fun i _ => mI_no (fun j => rfl)⟩, ⟨rfl, rfl, rfl, fun t _ => rfl, fun p hp => fm00_at hp⟩, fun j _ => ⟨(show (0 : Nat) < 6 by decide), rfl⟩, rfl, fun f hf => by cases hf⟩
theorem ok00 : okST S00 := by
  refine ⟨⟨by decide, by decide, fun p hp => absurd hp (Nat.not_lt_zero p), fun b hb => absurd hb (Nat.not_lt_zero b), fun b c _ hc => absurd hc (Nat.not_lt_zero c)⟩, ⟨by decide, by decide, by decide, by decide, fun p d hd => by cases hd⟩, fun p hp => absurd hp (Nat.not_lt_zero p), fun p _ => rfl, fun p _ => rfl⟩
theorem jnr0 : jnr (fun _ => 0) = fun _ => (0 : Int64) := by
  funext i
  show jn 0 0 = 0
  decide
section YRules
variable {p : Program} {e : Env} {s : State} {m : MethodId} {below : List Frame} {meth : Method} {c : Code} {b L : Nat} {xs : Nat → Int32} {E : Wd} {pc : Nat} {Lc : List (Option Value)} {st : List Value} {ws : va_W} {k n : Nat}
def Y (p : Program) (e : Env) (s : State) (m : MethodId) (below : List Frame) (meth : Method) (c : Code) (b : Nat) (E : Wd) (pc : Nat) (Lc : List (Option Value)) (st : List Value) (ws : va_W) (k n : Nat) : Prop :=
  ∀ (H : Heap) (locs : List Loc), va_P E.2.2.2.2.1 vcl ws H → va_D (fun q => s.heap.size ≤ q) ws → va_S (fun q => s.heap.size ≤ q) s.heap H locs → ∀ ls : Array Slot, lvh id ls 4 Lc →
    W p E.1 e room_1 s m #[Value.ref b] below meth c H locs k n (lw_Z below #[Value.ref b] s) (F0 m pc ls st)
theorem Y_new {idx ci cnt : Nat} {fs : List Value} (C : lA p s m meth c b L xs E) (hd : decode c_L_law pc = .ok (.new idx, 3)) (hw : NLk R_L idx ci cnt fs) (hk : k + 1 ≤ 600000) (hn : n + cnt ≤ 7302249)
    (kk : ∀ q : Nat, Y p e s m below meth c b E (pc + 3) Lc (.ref q :: st) (ws ++ [(q, .inr (ci, fs))]) (k + 1) (n + cnt)) : Y p e s m below meth c b E pc Lc st ws k n := by
  intro H locs hP hD hS ls hl
  obtain ⟨Cn, T, ty, h1, h2, h3, h4, h5, h6, h7⟩ := hw
  obtain ⟨hx, hb, hret, hml, hown, hts, hX, hbl, hlk, hK, hN, h64⟩ := id C
  exact va_new hx hb hts h5 ty h6 hown (hts _ h2) (hts _ h3) (hts _ h4) hK hP hD hS (fun _ h => h) h1 h7 hk hn hd (fun q H1 hP1 hD1 hS1 => kk q H1 locs hP1 hD1 hS1 ls hl)
theorem Y_dup {x : Nat} (C : lA p s m meth c b L xs E) (hd : decode c_L_law pc = .ok (.dup, 1)) (kk : Y p e s m below meth c b E (pc + 1) Lc (.ref x :: .ref x :: st) ws k n) : Y p e s m below meth c b E pc Lc (.ref x :: st) ws k n := by
  intro H locs hP hD hS ls hl
  exact lv_dup C.1 C.2.1 hd rfl (kk H locs hP hD hS ls hl)
theorem Y_astore_n {i : Fin 4} {x : Nat} (C : lA p s m meth c b L xs E) (hd : decode c_L_law pc = .ok (.astore_n i, 1)) (hn : (i : Nat) < 4) (kk : Y p e s m below meth c b E (pc + 1) (Lc.set (i : Nat) (some (.ref x))) st ws k n) : Y p e s m below meth c b E pc Lc (.ref x :: st) ws k n := by
  intro H locs hP hD hS ls hl
  exact lv_astore_n C.1 C.2.1 hd rfl hl.has hn rfl (fun ls' h' => kk H locs hP hD hS ls' (hl.set (v := .ref x) rfl h'))
theorem Y_init {idx d' K' M' q : Nat} {mt' : Mt} {rest : List Value} {e0 : va_E} {wr : va_W} {Q' : va_W → Prop} (C : lA p s m meth c b L xs E) (hd : decode c_L_law pc = .ok (.invokespecial idx, 3)) (hk : CLi R_L idx mt' 0) (hc : CtN E d' K' M' mt' [.ref q] [(q, e0)] Q') (hws : ws = wr ++ [(q, e0)]) (hst : st = .ref q :: rest) (hdd : d' ≤ 1000) (hrm : (rest.map fun v => v.category).sum ≤ 8) (hk1 : k + K' ≤ 600000) (hn1 : n + M' ≤ 7302249)
    (kk : ∀ w1, Q' w1 → Y p e s m below meth c b E (pc + 3) Lc rest (wr ++ w1) (k + K') (n + M')) : Y p e s m below meth c b E pc Lc st ws k n := by
  intro H locs hP hD hS ls hl
  subst hst; subst hws
  obtain ⟨hx, hb, hret, hml, hown, hts, hX, hbl, hlk, hK, hN, h64⟩ := id C
  obtain ⟨h1, h2, h3, h4, hcode, hini, hpl, hne, hmx, hpm⟩ := hk
  obtain ⟨y, cd, ml, rt⟩ := mt'
  dsimp only at h1 h2 h3 h4 hcode hini hpl hne hmx hpm
  subst h4
  have hA : ∀ q : Nat, s.heap.size ≤ q → (fun q => s.heap.size ≤ q) q := fun _ h => h
  have hPc : va_P E.2.2.2.2.1 vcl [(q, e0)] H := hP.by (fun _ => wr.length) (fun i x hx => by
    have hz : i < 1 := (List.getElem?_eq_some_iff.mp hx).1
    rw [show i = 0 by omega] at hx
    rw [List.getElem?_append_right (Nat.le_refl _), Nat.sub_self]
    exact hx)
  have hDc := hD.sub (ws' := [(q, e0)]) [wr.length] rfl (pick_last wr _)
  have hFc := va_free (wc := [(q, e0)]) hD hS hA [wr.length] (pick_last wr _)
  refine va_callv (S := va_W) (post := Q') (B := fun w t => va_P E.2.2.2.2.1 vcl w t.heap ∧ va_K E.2.2.2.2.1 vcl (wty E) t ∧ va_D (va_A [(q, e0)] H.size) w) (A1 := va_A [(q, e0)] H.size) (va_runI (As := []) (rest := rest) (n := 0) ⟨hx, hb, hml, hown, hts⟩ (hc H.size) ⟨callB_of 0 hts (lw_g_good (fun w hw => ?_)) rfl rfl rfl (hts _ hini) (hts _ h1) ⟨hne.1, hne.2, hpm⟩ ⟨?_, ?_⟩, h3, hts _ h2⟩ (preN hPc hK hDc hN) rfl rfl hl.1 rfl (lv_room hrm) hd ⟨hk1, hn1⟩) hS (fun q _ h => hFc q h) hFc (fun u t H1 locs1 ht hvm hq hB hz1 hk2 hS1 => ?_)
  · rcases List.mem_cons.mp hw with rfl | hw
    · exact hcode
    · exact hw
  · show d' + 1 ≤ 2048
    omega
  · show 8 + (ml + 11) + 64 * d' ≤ 84000
    omega
  · obtain ⟨hP1, hK1, hD1⟩ := hB
    rw [ht] at hP1
    obtain ⟨hP2, hD2⟩ := va_join (wr := wr) (w1 := u) hP hD [wr.length] (List.range' 0 wr.length) (pick_last wr _) (pick_front wr _) (va_nd_range' _ _) (fun i hi hj => by
      rw [List.mem_range'_1] at hi
      rw [List.mem_singleton] at hj
      omega) hk2 hFc hP1 hD1
    exact kk u hq H1 locs1 hP2 hD2 hS1 ls hl
end YRules
