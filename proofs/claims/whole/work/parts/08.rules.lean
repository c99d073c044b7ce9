section Rules
variable {E : Wd} {d : Nat} {mt : Mt} {Q : Option Value → Hp → Prop} {pc : Nat} {L : List (Option Value)} {st : List Value} {h : Hp}
theorem V_iconst {n : Int} {v : Int32} (hd : decode mt.2.1 pc = .ok (.iconst n, 1)) (hv : Int32.ofInt n = v) (k : V E d mt Q (pc + 1) L (.int v :: st) h) : V E d mt Q pc L (st) h := by
  intro p e s m args below meth c A C hA H locs hP hD hS ls hl
  exact lv_iconst C.1 C.2.1 hd hv (k p e s m args below meth c A C hA H locs hP hD hS ls hl)
theorem V_bipush {n : Int} {v : Int32} (hd : decode mt.2.1 pc = .ok (.bipush n, 2)) (hv : (Int8.ofInt n).toInt32 = v) (k : V E d mt Q (pc + 2) L (.int v :: st) h) : V E d mt Q pc L (st) h := by
  intro p e s m args below meth c A C hA H locs hP hD hS ls hl
  exact lv_bipush C.1 C.2.1 hd hv (k p e s m args below meth c A C hA H locs hP hD hS ls hl)
theorem V_sipush {n : Int} {v : Int32} (hd : decode mt.2.1 pc = .ok (.sipush n, 3)) (hv : (Int16.ofInt n).toInt32 = v) (k : V E d mt Q (pc + 3) L (.int v :: st) h) : V E d mt Q pc L (st) h := by
  intro p e s m args below meth c A C hA H locs hP hD hS ls hl
  exact lv_sipush C.1 C.2.1 hd hv (k p e s m args below meth c A C hA H locs hP hD hS ls hl)
theorem V_lconst {n : Fin 2} {v : Int64} (hd : decode mt.2.1 pc = .ok (.lconst n, 1)) (hv : Int64.ofNat (n : Nat) = v) (k : V E d mt Q (pc + 1) L (.long v :: st) h) : V E d mt Q pc L (st) h := by
  intro p e s m args below meth c A C hA H locs hP hD hS ls hl
  exact lv_lconst C.1 C.2.1 hd hv (k p e s m args below meth c A C hA H locs hP hD hS ls hl)
theorem V_iload_n {i : Fin 4} {x : Int32} (hd : decode mt.2.1 pc = .ok (.iload_n i, 1)) (hi : L[(i : Nat)]? = some (some (.int x))) (k : V E d mt Q (pc + 1) L (.int x :: st) h) : V E d mt Q pc L (st) h := by
  intro p e s m args below meth c A C hA H locs hP hD hS ls hl
  exact lv_iload_n C.1 C.2.1 hd rfl (hl.2.2 _ _ hi).2 (k p e s m args below meth c A C hA H locs hP hD hS ls hl)
theorem V_iload {i : Nat} {x : Int32} (hd : decode mt.2.1 pc = .ok (.iload i, 2)) (hi : L[i]? = some (some (.int x))) (k : V E d mt Q (pc + 2) L (.int x :: st) h) : V E d mt Q pc L (st) h := by
  intro p e s m args below meth c A C hA H locs hP hD hS ls hl
  exact lv_iload C.1 C.2.1 hd (hl.2.2 _ _ hi).2 (k p e s m args below meth c A C hA H locs hP hD hS ls hl)
theorem V_aload_n {i : Fin 4} {x : Nat} (hd : decode mt.2.1 pc = .ok (.aload_n i, 1)) (hi : L[(i : Nat)]? = some (some (.ref x))) (k : V E d mt Q (pc + 1) L (.ref x :: st) h) : V E d mt Q pc L (st) h := by
  intro p e s m args below meth c A C hA H locs hP hD hS ls hl
  exact lv_aload_n C.1 C.2.1 hd rfl (hl.2.2 _ _ hi).2 (k p e s m args below meth c A C hA H locs hP hD hS ls hl)
theorem V_aload {i : Nat} {x : Nat} (hd : decode mt.2.1 pc = .ok (.aload i, 2)) (hi : L[i]? = some (some (.ref x))) (k : V E d mt Q (pc + 2) L (.ref x :: st) h) : V E d mt Q pc L (st) h := by
  intro p e s m args below meth c A C hA H locs hP hD hS ls hl
  exact lv_aload C.1 C.2.1 hd (hl.2.2 _ _ hi).2 (k p e s m args below meth c A C hA H locs hP hD hS ls hl)
theorem V_iadd {x y : Int32} (hd : decode mt.2.1 pc = .ok (.iadd, 1))  (k : V E d mt Q (pc + 1) L (.int (x + y) :: st) h) : V E d mt Q pc L (.int y :: .int x :: st) h := by
  intro p e s m args below meth c A C hA H locs hP hD hS ls hl
  exact lv_iadd C.1 C.2.1 hd  (k p e s m args below meth c A C hA H locs hP hD hS ls hl)
theorem V_isub {x y : Int32} (hd : decode mt.2.1 pc = .ok (.isub, 1))  (k : V E d mt Q (pc + 1) L (.int (x - y) :: st) h) : V E d mt Q pc L (.int y :: .int x :: st) h := by
  intro p e s m args below meth c A C hA H locs hP hD hS ls hl
  exact lv_isub C.1 C.2.1 hd  (k p e s m args below meth c A C hA H locs hP hD hS ls hl)
theorem V_imul {x y : Int32} (hd : decode mt.2.1 pc = .ok (.imul, 1))  (k : V E d mt Q (pc + 1) L (.int (x * y) :: st) h) : V E d mt Q pc L (.int y :: .int x :: st) h := by
  intro p e s m args below meth c A C hA H locs hP hD hS ls hl
  exact lv_imul C.1 C.2.1 hd  (k p e s m args below meth c A C hA H locs hP hD hS ls hl)
theorem V_iand {x y : Int32} (hd : decode mt.2.1 pc = .ok (.iand, 1))  (k : V E d mt Q (pc + 1) L (.int (x &&& y) :: st) h) : V E d mt Q pc L (.int y :: .int x :: st) h := by
  intro p e s m args below meth c A C hA H locs hP hD hS ls hl
  exact lv_iand C.1 C.2.1 hd  (k p e s m args below meth c A C hA H locs hP hD hS ls hl)
theorem V_ior {x y : Int32} (hd : decode mt.2.1 pc = .ok (.ior, 1))  (k : V E d mt Q (pc + 1) L (.int (x ||| y) :: st) h) : V E d mt Q pc L (.int y :: .int x :: st) h := by
  intro p e s m args below meth c A C hA H locs hP hD hS ls hl
  exact lv_ior C.1 C.2.1 hd  (k p e s m args below meth c A C hA H locs hP hD hS ls hl)
theorem V_ixor {x y : Int32} (hd : decode mt.2.1 pc = .ok (.ixor, 1))  (k : V E d mt Q (pc + 1) L (.int (x ^^^ y) :: st) h) : V E d mt Q pc L (.int y :: .int x :: st) h := by
  intro p e s m args below meth c A C hA H locs hP hD hS ls hl
  exact lv_ixor C.1 C.2.1 hd  (k p e s m args below meth c A C hA H locs hP hD hS ls hl)
theorem V_ishl {x y : Int32} (hd : decode mt.2.1 pc = .ok (.ishl, 1))  (k : V E d mt Q (pc + 1) L (.int (x <<< (y &&& 31)) :: st) h) : V E d mt Q pc L (.int y :: .int x :: st) h := by
  intro p e s m args below meth c A C hA H locs hP hD hS ls hl
  exact lv_ishl C.1 C.2.1 hd  (k p e s m args below meth c A C hA H locs hP hD hS ls hl)
theorem V_ishr {x y : Int32} (hd : decode mt.2.1 pc = .ok (.ishr, 1))  (k : V E d mt Q (pc + 1) L (.int (x >>> (y &&& 31)) :: st) h) : V E d mt Q pc L (.int y :: .int x :: st) h := by
  intro p e s m args below meth c A C hA H locs hP hD hS ls hl
  exact lv_ishr C.1 C.2.1 hd  (k p e s m args below meth c A C hA H locs hP hD hS ls hl)
theorem V_idiv {x y : Int32} (hd : decode mt.2.1 pc = .ok (.idiv, 1)) (hne : ¬ y = 0) (k : V E d mt Q (pc + 1) L (.int (x / y) :: st) h) : V E d mt Q pc L (.int y :: .int x :: st) h := by
  intro p e s m args below meth c A C hA H locs hP hD hS ls hl
  exact lv_idiv C.1 C.2.1 hd hne (k p e s m args below meth c A C hA H locs hP hD hS ls hl)
theorem V_irem {x y : Int32} (hd : decode mt.2.1 pc = .ok (.irem, 1)) (hne : ¬ y = 0) (k : V E d mt Q (pc + 1) L (.int (x - x / y * y) :: st) h) : V E d mt Q pc L (.int y :: .int x :: st) h := by
  intro p e s m args below meth c A C hA H locs hP hD hS ls hl
  exact lv_irem C.1 C.2.1 hd hne (k p e s m args below meth c A C hA H locs hP hD hS ls hl)
theorem V_ineg {x : Int32} (hd : decode mt.2.1 pc = .ok (.ineg, 1))  (k : V E d mt Q (pc + 1) L (.int (-x) :: st) h) : V E d mt Q pc L (.int x :: st) h := by
  intro p e s m args below meth c A C hA H locs hP hD hS ls hl
  exact lv_ineg C.1 C.2.1 hd  (k p e s m args below meth c A C hA H locs hP hD hS ls hl)
theorem V_iushr {x y v : Int32} (hd : decode mt.2.1 pc = .ok (.iushr, 1)) (hv : (x.toUInt32 >>> (y.toUInt32 &&& Int32.toUInt32 31)).toInt32 = v) (k : V E d mt Q (pc + 1) L (.int v :: st) h) : V E d mt Q pc L (.int y :: .int x :: st) h := by
  intro p e s m args below meth c A C hA H locs hP hD hS ls hl
  exact lv_iushr C.1 C.2.1 hd hv (k p e s m args below meth c A C hA H locs hP hD hS ls hl)
theorem V_i2l {x : Int32} {v : Int64} (hd : decode mt.2.1 pc = .ok (.i2l, 1)) (hv : x.toInt64 = v) (k : V E d mt Q (pc + 1) L (.long v :: st) h) : V E d mt Q pc L (.int x :: st) h := by
  intro p e s m args below meth c A C hA H locs hP hD hS ls hl
  exact lv_i2l C.1 C.2.1 hd hv (k p e s m args below meth c A C hA H locs hP hD hS ls hl)
theorem V_lmul {x y : Int64} (hd : decode mt.2.1 pc = .ok (.lmul, 1))  (k : V E d mt Q (pc + 1) L (.long (x * y) :: st) h) : V E d mt Q pc L (.long y :: .long x :: st) h := by
  intro p e s m args below meth c A C hA H locs hP hD hS ls hl
  exact lv_lmul C.1 C.2.1 hd  (k p e s m args below meth c A C hA H locs hP hD hS ls hl)
theorem V_lcmp {x y : Int64} (hd : decode mt.2.1 pc = .ok (.lcmp, 1))  (k : V E d mt Q (pc + 1) L (.int (lg_cmp x y) :: st) h) : V E d mt Q pc L (.long y :: .long x :: st) h := by
  intro p e s m args below meth c A C hA H locs hP hD hS ls hl
  exact W.lcmp C.1 C.2.1 hd  (k p e s m args below meth c A C hA H locs hP hD hS ls hl)
theorem V_dup {v : Value} (hd : decode mt.2.1 pc = .ok (.dup, 1)) (hc : v.category = 1) (k : V E d mt Q (pc + 1) L (v :: v :: st) h) : V E d mt Q pc L (v :: st) h := by
  intro p e s m args below meth c A C hA H locs hP hD hS ls hl
  exact lv_dup C.1 C.2.1 hd (by rw [cvv_cat]; exact hc) (k p e s m args below meth c A C hA H locs hP hD hS ls hl)
theorem V_pop {v : Value} (hd : decode mt.2.1 pc = .ok (.pop, 1)) (hc : v.category = 1) (k : V E d mt Q (pc + 1) L st h) : V E d mt Q pc L (v :: st) h := by
  intro p e s m args below meth c A C hA H locs hP hD hS ls hl
  exact lv_pop C.1 C.2.1 hd (by rw [cvv_cat]; exact hc) (k p e s m args below meth c A C hA H locs hP hD hS ls hl)
theorem V_dup2 {v w : Value} (hd : decode mt.2.1 pc = .ok (.dup2, 1)) (hc : v.category = 1) (hc2 : w.category = 1) (k : V E d mt Q (pc + 1) L (v :: w :: v :: w :: st) h) : V E d mt Q pc L (v :: w :: st) h := by
  intro p e s m args below meth c A C hA H locs hP hD hS ls hl
  exact lv_dup2_11 C.1 C.2.1 hd (by rw [cvv_cat]; exact hc) (by rw [cvv_cat]; exact hc2) (k p e s m args below meth c A C hA H locs hP hD hS ls hl)
theorem V_istore_n {i : Fin 4} {x : Int32} (hd : decode mt.2.1 pc = .ok (.istore_n i, 1)) (hn : (i : Nat) < mt.2.2.1) (k : V E d mt Q (pc + 1) (L.set (i : Nat) (some (.int x))) st h) : V E d mt Q pc L (.int x :: st) h := by
  intro p e s m args below meth c A C hA H locs hP hD hS ls hl
  exact lv_istore_n C.1 C.2.1 hd rfl hl.has hn rfl (fun ls' h' => k p e s m args below meth c A C hA H locs hP hD hS ls' (hl.set (v := .int x) rfl h'))
theorem V_istore {i : Nat} {x : Int32} (hd : decode mt.2.1 pc = .ok (.istore i, 2)) (hn : i < mt.2.2.1) (k : V E d mt Q (pc + 2) (L.set i (some (.int x))) st h) : V E d mt Q pc L (.int x :: st) h := by
  intro p e s m args below meth c A C hA H locs hP hD hS ls hl
  exact lv_istore C.1 C.2.1 hd hl.has hn rfl (fun ls' h' => k p e s m args below meth c A C hA H locs hP hD hS ls' (hl.set (v := .int x) rfl h'))
theorem V_astore_n {i : Fin 4} {x : Nat} (hd : decode mt.2.1 pc = .ok (.astore_n i, 1)) (hn : (i : Nat) < mt.2.2.1) (k : V E d mt Q (pc + 1) (L.set (i : Nat) (some (.ref x))) st h) : V E d mt Q pc L (.ref x :: st) h := by
  intro p e s m args below meth c A C hA H locs hP hD hS ls hl
  exact lv_astore_n C.1 C.2.1 hd rfl hl.has hn rfl (fun ls' h' => k p e s m args below meth c A C hA H locs hP hD hS ls' (hl.set (v := .ref x) rfl h'))
theorem V_astore {i : Nat} {x : Nat} (hd : decode mt.2.1 pc = .ok (.astore i, 2)) (hn : i < mt.2.2.1) (k : V E d mt Q (pc + 2) (L.set i (some (.ref x))) st h) : V E d mt Q pc L (.ref x :: st) h := by
  intro p e s m args below meth c A C hA H locs hP hD hS ls hl
  exact lv_astore C.1 C.2.1 hd hl.has hn rfl (fun ls' h' => k p e s m args below meth c A C hA H locs hP hD hS ls' (hl.set (v := .ref x) rfl h'))
theorem V_iinc {i : Nat} {n : Int} {x v : Int32} (hd : decode mt.2.1 pc = .ok (.iinc i n, 3)) (hi : L[i]? = some (some (.int x))) (hv : x + Int32.ofInt n = v) (hn : i < mt.2.2.1) (k : V E d mt Q (pc + 3) (L.set i (some (.int v))) st h) : V E d mt Q pc L st h := by
  intro p e s m args below meth c A C hA H locs hP hD hS ls hl
  obtain ⟨j, hj⟩ := List.getElem?_of_mem (lst_mem.mpr ⟨_, hi, rfl⟩ : (i, cvv E.2.1 (.int x)) ∈ lst E.2.1 L)
  exact lv_iinc C.1 C.2.1 hd hl.has hj hv hn rfl (fun ls' h' => k p e s m args below meth c A C hA H locs hP hD hS ls' (hl.set (v := .int v) rfl h'))
theorem V_goto {off : Int} {tgt : Nat} (hd : decode mt.2.1 pc = .ok (.goto off, 3)) (ht : (pc : Int) + off = (tgt : Int)) (k : V E d mt Q tgt L st h) : V E d mt Q pc L st h := by
  intro p e s m args below meth c A C hA H locs hP hD hS ls hl
  exact lv_goto C.1 C.2.1 hd ht (k p e s m args below meth c A C hA H locs hP hD hS ls hl)
theorem V_if_eq {x : Int32} {off : Int} {tgt : Nat} (hd : decode mt.2.1 pc = .ok (.ifCond .eq off, 3)) (ht : (pc : Int) + off = (tgt : Int)) (kt : x = 0 → V E d mt Q tgt L st h) (kf : ¬ (x = 0) → V E d mt Q (pc + 3) L st h) : V E d mt Q pc L (.int x :: st) h := by
  intro p e s m args below meth c A C hA H locs hP hD hS ls hl
  exact lv_if_eq C.1 C.2.1 hd ht (fun q => kt q p e s m args below meth c A C hA H locs hP hD hS ls hl) (fun q => kf q p e s m args below meth c A C hA H locs hP hD hS ls hl)
theorem V_icmp_eq {x y : Int32} {off : Int} {tgt : Nat} (hd : decode mt.2.1 pc = .ok (.if_icmp .eq off, 3)) (ht : (pc : Int) + off = (tgt : Int)) (kt : x = y → V E d mt Q tgt L st h) (kf : ¬ (x = y) → V E d mt Q (pc + 3) L st h) : V E d mt Q pc L (.int y :: .int x :: st) h := by
  intro p e s m args below meth c A C hA H locs hP hD hS ls hl
  exact lv_icmp_eq C.1 C.2.1 hd ht (fun q => kt q p e s m args below meth c A C hA H locs hP hD hS ls hl) (fun q => kf q p e s m args below meth c A C hA H locs hP hD hS ls hl)
theorem V_if_ne {x : Int32} {off : Int} {tgt : Nat} (hd : decode mt.2.1 pc = .ok (.ifCond .ne off, 3)) (ht : (pc : Int) + off = (tgt : Int)) (kt : ¬ x = 0 → V E d mt Q tgt L st h) (kf : x = 0 → V E d mt Q (pc + 3) L st h) : V E d mt Q pc L (.int x :: st) h := by
  intro p e s m args below meth c A C hA H locs hP hD hS ls hl
  exact lv_if_ne C.1 C.2.1 hd ht (fun q => kt q p e s m args below meth c A C hA H locs hP hD hS ls hl) (fun q => kf q p e s m args below meth c A C hA H locs hP hD hS ls hl)
theorem V_icmp_ne {x y : Int32} {off : Int} {tgt : Nat} (hd : decode mt.2.1 pc = .ok (.if_icmp .ne off, 3)) (ht : (pc : Int) + off = (tgt : Int)) (kt : ¬ x = y → V E d mt Q tgt L st h) (kf : x = y → V E d mt Q (pc + 3) L st h) : V E d mt Q pc L (.int y :: .int x :: st) h := by
  intro p e s m args below meth c A C hA H locs hP hD hS ls hl
  exact lv_icmp_ne C.1 C.2.1 hd ht (fun q => kt q p e s m args below meth c A C hA H locs hP hD hS ls hl) (fun q => kf q p e s m args below meth c A C hA H locs hP hD hS ls hl)
theorem V_if_lt {x : Int32} {off : Int} {tgt : Nat} (hd : decode mt.2.1 pc = .ok (.ifCond .lt off, 3)) (ht : (pc : Int) + off = (tgt : Int)) (kt : x < 0 → V E d mt Q tgt L st h) (kf : ¬ (x < 0) → V E d mt Q (pc + 3) L st h) : V E d mt Q pc L (.int x :: st) h := by
  intro p e s m args below meth c A C hA H locs hP hD hS ls hl
  exact lv_if_lt C.1 C.2.1 hd ht (fun q => kt q p e s m args below meth c A C hA H locs hP hD hS ls hl) (fun q => kf q p e s m args below meth c A C hA H locs hP hD hS ls hl)
theorem V_icmp_lt {x y : Int32} {off : Int} {tgt : Nat} (hd : decode mt.2.1 pc = .ok (.if_icmp .lt off, 3)) (ht : (pc : Int) + off = (tgt : Int)) (kt : x < y → V E d mt Q tgt L st h) (kf : ¬ (x < y) → V E d mt Q (pc + 3) L st h) : V E d mt Q pc L (.int y :: .int x :: st) h := by
  intro p e s m args below meth c A C hA H locs hP hD hS ls hl
  exact lv_icmp_lt C.1 C.2.1 hd ht (fun q => kt q p e s m args below meth c A C hA H locs hP hD hS ls hl) (fun q => kf q p e s m args below meth c A C hA H locs hP hD hS ls hl)
theorem V_if_ge {x : Int32} {off : Int} {tgt : Nat} (hd : decode mt.2.1 pc = .ok (.ifCond .ge off, 3)) (ht : (pc : Int) + off = (tgt : Int)) (kt : 0 ≤ x → V E d mt Q tgt L st h) (kf : ¬ (0 ≤ x) → V E d mt Q (pc + 3) L st h) : V E d mt Q pc L (.int x :: st) h := by
  intro p e s m args below meth c A C hA H locs hP hD hS ls hl
  exact lv_if_ge C.1 C.2.1 hd ht (fun q => kt q p e s m args below meth c A C hA H locs hP hD hS ls hl) (fun q => kf q p e s m args below meth c A C hA H locs hP hD hS ls hl)
theorem V_icmp_ge {x y : Int32} {off : Int} {tgt : Nat} (hd : decode mt.2.1 pc = .ok (.if_icmp .ge off, 3)) (ht : (pc : Int) + off = (tgt : Int)) (kt : y ≤ x → V E d mt Q tgt L st h) (kf : ¬ (y ≤ x) → V E d mt Q (pc + 3) L st h) : V E d mt Q pc L (.int y :: .int x :: st) h := by
  intro p e s m args below meth c A C hA H locs hP hD hS ls hl
  exact lv_icmp_ge C.1 C.2.1 hd ht (fun q => kt q p e s m args below meth c A C hA H locs hP hD hS ls hl) (fun q => kf q p e s m args below meth c A C hA H locs hP hD hS ls hl)
theorem V_if_gt {x : Int32} {off : Int} {tgt : Nat} (hd : decode mt.2.1 pc = .ok (.ifCond .gt off, 3)) (ht : (pc : Int) + off = (tgt : Int)) (kt : 0 < x → V E d mt Q tgt L st h) (kf : ¬ (0 < x) → V E d mt Q (pc + 3) L st h) : V E d mt Q pc L (.int x :: st) h := by
  intro p e s m args below meth c A C hA H locs hP hD hS ls hl
  exact lv_if_gt C.1 C.2.1 hd ht (fun q => kt q p e s m args below meth c A C hA H locs hP hD hS ls hl) (fun q => kf q p e s m args below meth c A C hA H locs hP hD hS ls hl)
theorem V_icmp_gt {x y : Int32} {off : Int} {tgt : Nat} (hd : decode mt.2.1 pc = .ok (.if_icmp .gt off, 3)) (ht : (pc : Int) + off = (tgt : Int)) (kt : y < x → V E d mt Q tgt L st h) (kf : ¬ (y < x) → V E d mt Q (pc + 3) L st h) : V E d mt Q pc L (.int y :: .int x :: st) h := by
  intro p e s m args below meth c A C hA H locs hP hD hS ls hl
  exact lv_icmp_gt C.1 C.2.1 hd ht (fun q => kt q p e s m args below meth c A C hA H locs hP hD hS ls hl) (fun q => kf q p e s m args below meth c A C hA H locs hP hD hS ls hl)
theorem V_if_le {x : Int32} {off : Int} {tgt : Nat} (hd : decode mt.2.1 pc = .ok (.ifCond .le off, 3)) (ht : (pc : Int) + off = (tgt : Int)) (kt : x ≤ 0 → V E d mt Q tgt L st h) (kf : ¬ (x ≤ 0) → V E d mt Q (pc + 3) L st h) : V E d mt Q pc L (.int x :: st) h := by
  intro p e s m args below meth c A C hA H locs hP hD hS ls hl
  exact lv_if_le C.1 C.2.1 hd ht (fun q => kt q p e s m args below meth c A C hA H locs hP hD hS ls hl) (fun q => kf q p e s m args below meth c A C hA H locs hP hD hS ls hl)
theorem V_icmp_le {x y : Int32} {off : Int} {tgt : Nat} (hd : decode mt.2.1 pc = .ok (.if_icmp .le off, 3)) (ht : (pc : Int) + off = (tgt : Int)) (kt : x ≤ y → V E d mt Q tgt L st h) (kf : ¬ (x ≤ y) → V E d mt Q (pc + 3) L st h) : V E d mt Q pc L (.int y :: .int x :: st) h := by
  intro p e s m args below meth c A C hA H locs hP hD hS ls hl
  exact lv_icmp_le C.1 C.2.1 hd ht (fun q => kt q p e s m args below meth c A C hA H locs hP hD hS ls hl) (fun q => kf q p e s m args below meth c A C hA H locs hP hD hS ls hl)
theorem V_tableIn {dflt lo hi : Int} {offs : Array Int} {len : Nat} {x : Int32} {off : Int} {tgt : Nat} (hd : decode mt.2.1 pc = .ok (.tableswitch dflt lo hi offs, len)) (h1 : ¬ x.toInt < lo) (h2 : ¬ hi < x.toInt) (ho : offs[(x.toInt - lo).toNat]? = some off) (ht : (pc : Int) + off = (tgt : Int)) (k : V E d mt Q tgt L st h) : V E d mt Q pc L (.int x :: st) h := by
  intro p e s m args below meth c A C hA H locs hP hD hS ls hl
  exact lv_tableIn C.1 C.2.1 hd h1 h2 ho ht (k p e s m args below meth c A C hA H locs hP hD hS ls hl)
theorem V_tableOut {dflt lo hi : Int} {offs : Array Int} {len : Nat} {x : Int32} {tgt : Nat} (hd : decode mt.2.1 pc = .ok (.tableswitch dflt lo hi offs, len)) (h1 : x.toInt < lo ∨ hi < x.toInt) (ht : (pc : Int) + dflt = (tgt : Int)) (k : V E d mt Q tgt L st h) : V E d mt Q pc L (.int x :: st) h := by
  intro p e s m args below meth c A C hA H locs hP hD hS ls hl
  exact lv_tableOut C.1 C.2.1 hd h1 ht (k p e s m args below meth c A C hA H locs hP hD hS ls hl)
theorem V_lookup {dflt : Int} {ps : Array (Int × Int)} {len : Nat} {x : Int32} {off : Int} {tgt : Nat} (hd : decode mt.2.1 pc = .ok (.lookupswitch dflt ps, len)) (hp : (ps.toList.zip (ps.toList.drop 1)).all (fun (a, next) => a.1 < next.1) = true) (ho : Op.lookupswitch.offset ps.toList dflt x.toInt = off) (ht : (pc : Int) + off = (tgt : Int)) (k : V E d mt Q tgt L st h) : V E d mt Q pc L (.int x :: st) h := by
  intro p e s m args below meth c A C hA H locs hP hD hS ls hl
  exact lv_lookup C.1 C.2.1 hd hp ho ht (k p e s m args below meth c A C hA H locs hP hD hS ls hl)
theorem V_ldc {R : String} {idx : Nat} {v : Int32} (hd : decode mt.2.1 pc = .ok (.ldc idx, 2)) (hw : Cond.constant R idx v ∈ lw_g) (hR : mt.1.cls = R) (k : V E d mt Q (pc + 2) L (.int v :: st) h) : V E d mt Q pc L st h := by
  intro p e s m args below meth c A C hA H locs hP hD hS ls hl
  exact lv_ldc C.1 C.2.1 (by rw [← hR]; exact C.2.2.2.2.1) (C.2.2.2.2.2.1 _ hw) hd (k p e s m args below meth c A C hA H locs hP hD hS ls hl)
theorem V_ldc_w {R : String} {idx : Nat} {v : Int32} (hd : decode mt.2.1 pc = .ok (.ldc_w idx, 3)) (hw : Cond.constant R idx v ∈ lw_g) (hR : mt.1.cls = R) (k : V E d mt Q (pc + 3) L (.int v :: st) h) : V E d mt Q pc L st h := by
  intro p e s m args below meth c A C hA H locs hP hD hS ls hl
  exact lv_ldcw C.1 C.2.1 (by rw [← hR]; exact C.2.2.2.2.1) (C.2.2.2.2.2.1 _ hw) hd (k p e s m args below meth c A C hA H locs hP hD hS ls hl)
theorem V_ldc2_w {R : String} {idx : Nat} {v : Int64} (hd : decode mt.2.1 pc = .ok (.ldc2_w idx, 3)) (hw : Cond.constantLong R idx v ∈ lw_g) (hR : mt.1.cls = R) (k : V E d mt Q (pc + 3) L (.long v :: st) h) : V E d mt Q pc L st h := by
  intro p e s m args below meth c A C hA H locs hP hD hS ls hl
  exact lv_ldc2 C.1 C.2.1 (by rw [← hR]; exact C.2.2.2.2.1) (C.2.2.2.2.2.1 _ hw) hd (k p e s m args below meth c A C hA H locs hP hD hS ls hl)
/-! fields -/
theorem V_getI {R : String} {idx o ci k : Nat} {rs : List (Option Nat)} (hd : decode mt.2.1 pc = .ok (.getfield idx, 3)) (hf : FL R idx ci k) (hR : mt.1.cls = R) (ho : shp[o]? = some (.inr (ci, rs))) (hk : rs[k]? = some none) (kk : V E d mt Q (pc + 3) L (.int (h o k) :: st) h) : V E d mt Q pc L (.ref o :: st) h := by
  intro p e s m args below meth c A C hA H locs hP hD hS ls hl
  obtain ⟨Cn, T, N, ty, hc, hkN, hlink, hin, hty, hnm⟩ := hf
  exact va_get C.1 C.2.1 C.2.2.2.2.2.1 hin (by rw [← hR]; exact C.2.2.2.2.1) C.2.2.2.2.2.2.2.1 hP o (wld_atO ho (vcl_lt hc)) hc k hkN (C.2.2.2.2.2.1 _ hlink) (fun _ h9 => h9) (v := .int (h o k)) (by simp [wfl, hk]) hd (kk p e s m args below meth c A C hA H locs hP hD hS ls hl)
theorem V_getR {R : String} {idx o ci k q : Nat} {rs : List (Option Nat)} (hd : decode mt.2.1 pc = .ok (.getfield idx, 3)) (hf : FL R idx ci k) (hR : mt.1.cls = R) (ho : shp[o]? = some (.inr (ci, rs))) (hk : rs[k]? = some (some q)) (kk : V E d mt Q (pc + 3) L (.ref q :: st) h) : V E d mt Q pc L (.ref o :: st) h := by
  intro p e s m args below meth c A C hA H locs hP hD hS ls hl
  obtain ⟨Cn, T, N, ty, hc, hkN, hlink, hin, hty, hnm⟩ := hf
  exact va_get C.1 C.2.1 C.2.2.2.2.2.1 hin (by rw [← hR]; exact C.2.2.2.2.1) C.2.2.2.2.2.2.2.1 hP o (wld_atO ho (vcl_lt hc)) hc k hkN (C.2.2.2.2.2.1 _ hlink) (fun _ h9 => h9) (v := .ref (E.2.1 q)) (by simp [wfl, hk]) hd (kk p e s m args below meth c A C hA H locs hP hD hS ls hl)
theorem V_put {R : String} {idx o ci k : Nat} {rs : List (Option Nat)} {x : Int32} {ty : FieldType} (hd : decode mt.2.1 pc = .ok (.putfield idx, 3)) (hf : FL R idx ci k) (hR : mt.1.cls = R) (ho : shp[o]? = some (.inr (ci, rs))) (hk : rs[k]? = some none) (hnf : (vcl[ci]?).map (fun q => ((q.2.1 k).2.2.2, parseFieldDescriptor (q.2.1 k).2.2.1)) = some (false, some ty)) (hn : narrow ty (.int x) = .int x) (hfit : fits ty (.int x) = true) (kk : V E d mt Q (pc + 3) L st (hup h o k x)) : V E d mt Q pc L (.int x :: .ref o :: st) h := by
  intro p e s m args below meth c A C hA H locs hP hD hS ls hl
  obtain ⟨Cn, T, N, ty0, hc, hkN, hlink, hin, hty, hnm⟩ := hf
  rw [hc] at hnf
  simp only [Option.map_some, Option.some.injEq, Prod.mk.injEq] at hnf
  refine va_put C.1 C.2.1 C.2.2.2.2.2.1 hin ty0 hty hnm (by rw [← hR]; exact C.2.2.2.2.1) C.2.2.2.2.2.2.2.1 hP hD hS o (wld_atO ho (vcl_lt hc)) hc k hkN (C.2.2.2.2.2.1 _ hlink) (fun _ h9 => h9) hnf.1 hnf.2 (v := .int x) hn hfit (by simp [wfl]; exact (List.getElem?_eq_some_iff.mp hk).1) hd (fun H1 locs1 hP1 hD1 hS1 => ?_)
  have e1 := wld_setF (E := E) (h := h) ho (vcl_lt hc) hk x
  exact kk p e s m args below meth c A C hA H1 locs1 (by rw [← e1]; exact hP1) (by rw [← e1]; exact hD1) hS1 ls hl
/-! arrays -/
theorem V_iald {o n : Nat} {i : Int32} (hd : decode mt.2.1 pc = .ok (.iaload, 1)) (ho : shp[o]? = some (.inl (false, n))) (hin : vp_in i n) (kk : V E d mt Q (pc + 1) L (.int (h o i.toNatClampNeg) :: st) h) : V E d mt Q pc L (.int i :: .ref o :: st) h := by
  intro p e s m args below meth c A C hA H locs hP hD hS ls hl
  exact va_iald C.1 C.2.1 C.2.2.2.2.2.2.2.1 hP o 0 (wld_at ho) rfl hin hd (kk p e s m args below meth c A C hA H locs hP hD hS ls hl)
theorem V_zald {o n : Nat} {i : Int32} (hd : decode mt.2.1 pc = .ok (.baload, 1)) (ho : shp[o]? = some (.inl (true, n))) (hin : vp_in i n) (kk : V E d mt Q (pc + 1) L (.int (h o i.toNatClampNeg) :: st) h) : V E d mt Q pc L (.int i :: .ref o :: st) h := by
  intro p e s m args below meth c A C hA H locs hP hD hS ls hl
  exact va_zald C.1 C.2.1 C.2.2.2.2.2.2.2.1 hP o 1 (wld_at ho) rfl hin hd (kk p e s m args below meth c A C hA H locs hP hD hS ls hl)
theorem V_alen {o n : Nat} {z : Bool} {v : Int32} (hd : decode mt.2.1 pc = .ok (.arraylength, 1)) (ho : shp[o]? = some (.inl (z, n))) (hv : Int32.ofNat n = v) (kk : V E d mt Q (pc + 1) L (.int v :: st) h) : V E d mt Q pc L (.ref o :: st) h := by
  intro p e s m args below meth c A C hA H locs hP hD hS ls hl
  cases z with
  | false => exact va_alen C.1 C.2.1 C.2.2.2.2.2.2.2.1 hP o 0 (wld_at ho) (ty := .int) rfl hv hd (kk p e s m args below meth c A C hA H locs hP hD hS ls hl)
  | true => exact va_alen C.1 C.2.1 C.2.2.2.2.2.2.2.1 hP o 1 (wld_at ho) (ty := .boolean) rfl hv hd (kk p e s m args below meth c A C hA H locs hP hD hS ls hl)
theorem V_iast {o n : Nat} {i x : Int32} (hd : decode mt.2.1 pc = .ok (.iastore, 1)) (ho : shp[o]? = some (.inl (false, n))) (hin : vp_in i n) (kk : V E d mt Q (pc + 1) L st (hup h o i.toNatClampNeg x)) : V E d mt Q pc L (.int x :: .int i :: .ref o :: st) h := by
  intro p e s m args below meth c A C hA H locs hP hD hS ls hl
  refine va_iast C.1 C.2.1 C.2.2.2.2.2.2.2.1 hP hD hS o 0 (wld_at ho) rfl hin hd (fun H1 locs1 hP1 hD1 hS1 => ?_)
  have e1 := wld_setA (E := E) (h := h) ho (upd (h o) i.toNatClampNeg x)
  exact kk p e s m args below meth c A C hA H1 locs1 (by rw [hup_row, ← e1]; exact hP1) (by rw [hup_row, ← e1]; exact hD1) hS1 ls hl
theorem V_zast {o n : Nat} {i x : Int32} (hd : decode mt.2.1 pc = .ok (.bastore, 1)) (ho : shp[o]? = some (.inl (true, n))) (hin : vp_in i n) (hx : vp_nar .boolean x = x) (kk : V E d mt Q (pc + 1) L st (hup h o i.toNatClampNeg x)) : V E d mt Q pc L (.int x :: .int i :: .ref o :: st) h := by
  intro p e s m args below meth c A C hA H locs hP hD hS ls hl
  refine va_zast C.1 C.2.1 C.2.2.2.2.2.2.2.1 hP hD hS o 1 (wld_at ho) rfl hin hd (fun H1 locs1 hP1 hD1 hS1 => ?_)
  have e1 := wld_setA (E := E) (h := h) ho (upd (h o) i.toNatClampNeg x)
  rw [hx] at hP1 hD1
  exact kk p e s m args below meth c A C hA H1 locs1 (by rw [hup_row, ← e1]; exact hP1) (by rw [hup_row, ← e1]; exact hD1) hS1 ls hl
theorem V_lor {x y : Int64} (hd : decode mt.2.1 pc = .ok (.lor, 1))  (k : V E d mt Q (pc + 1) L (.long (x ||| y) :: st) h) : V E d mt Q pc L (.long y :: .long x :: st) h := by
  intro p e s m args below meth c A C hA H locs hP hD hS ls hl
  exact lv_lor C.1 C.2.1 hd  (k p e s m args below meth c A C hA H locs hP hD hS ls hl)
theorem V_l2i {x : Int64} {v : Int32} (hd : decode mt.2.1 pc = .ok (.l2i, 1)) (hv : x.toInt32 = v) (k : V E d mt Q (pc + 1) L (.int v :: st) h) : V E d mt Q pc L (.long x :: st) h := by
  intro p e s m args below meth c A C hA H locs hP hD hS ls hl
  exact lv_l2i C.1 C.2.1 hd hv (k p e s m args below meth c A C hA H locs hP hD hS ls hl)
theorem V_lushr {x v : Int64} {y : Int32} (hd : decode mt.2.1 pc = .ok (.lushr, 1)) (hv : (x.toUInt64 >>> (y.toInt64.toUInt64 &&& Int64.toUInt64 63)).toInt64 = v) (k : V E d mt Q (pc + 1) L (.long v :: st) h) : V E d mt Q pc L (.int y :: .long x :: st) h := by
  intro p e s m args below meth c A C hA H locs hP hD hS ls hl
  exact lv_lushr C.1 C.2.1 hd hv (k p e s m args below meth c A C hA H locs hP hD hS ls hl)
theorem V_lshl {x v : Int64} {y : Int32} (hd : decode mt.2.1 pc = .ok (.lshl, 1)) (hv : x <<< (y.toInt64 &&& 63) = v) (k : V E d mt Q (pc + 1) L (.long v :: st) h) : V E d mt Q pc L (.int y :: .long x :: st) h := by
  intro p e s m args below meth c A C hA H locs hP hD hS ls hl
  exact lv_lshl C.1 C.2.1 hd hv (k p e s m args below meth c A C hA H locs hP hD hS ls hl)
theorem V_lald {o n : Nat} {i : Int32} (hd : decode mt.2.1 pc = .ok (.laload, 1)) (ho : shp[o]? = some (.inr (1000 + n, []))) (hin : vp_in i n) (kk : V E d mt Q (pc + 1) L (.long (jnr (h o) i.toNatClampNeg) :: st) h) : V E d mt Q pc L (.int i :: .ref o :: st) h := by
  intro p e s m args below meth c A C hA H locs hP hD hS ls hl
  exact va_lald C.1 C.2.1 C.2.2.2.2.2.2.2.1 hP o 2 (wld_atL ho) rfl hin hd (kk p e s m args below meth c A C hA H locs hP hD hS ls hl)
theorem V_last {o n : Nat} {i : Int32} {x : Int64} (hd : decode mt.2.1 pc = .ok (.lastore, 1)) (ho : shp[o]? = some (.inr (1000 + n, []))) (hin : vp_in i n) (kk : V E d mt Q (pc + 1) L st (hrow h o (updJ (h o) i.toNatClampNeg x))) : V E d mt Q pc L (.long x :: .int i :: .ref o :: st) h := by
  intro p e s m args below meth c A C hA H locs hP hD hS ls hl
  refine va_last C.1 C.2.1 C.2.2.2.2.2.2.2.1 hP hD hS o 2 (wld_atL ho) rfl hin hd (fun H1 locs1 hP1 hD1 hS1 => ?_)
  have e1 := wld_setL (E := E) (h := h) ho (updJ (h o) i.toNatClampNeg x)
  rw [jnr_updJ] at e1
  exact kk p e s m args below meth c A C hA H1 locs1 (by rw [← e1]; exact hP1) (by rw [← e1]; exact hD1) hS1 ls hl
/-! returns -/
theorem V_end {H : Heap} {locs : List Loc} {s : State} {A : Nat → Prop} {args : Array Value} (v : Option Value) (hP : va_P E.2.2.2.2.1 vcl (wld E h) H) (hD : va_D A (wld E h)) (hS : va_S A s.heap H locs) (hK : va_K E.2.2.2.2.1 vcl (wty E) s) (hq : Q v h) :
    ∀ t : State, t.heap = H → s.WarmedH t.vm → Qend E A Q args s (.returned (v.map (cvv E.2.1))) t :=
  fun t ht hW => ⟨⟨v, h, rfl, hq, by rw [ht]; exact hP, va_K.moved hW.alike hK, hD⟩, hS.F ht⟩
theorem V_iret {v : Int32} (hd : decode mt.2.1 pc = .ok (.ireturn, 1)) (hr : mt.2.2.2 = some .int) (hq : Q (some (.int v)) h) : V E d mt Q pc L [.int v] h := by
  intro p e s m args below meth c A C hA H locs hP hD hS ls hl
  exact W.iret C.1 C.2.1 (C.2.2.2.1.trans hr) (V_end (some (.int v)) hP hD hS C.2.2.2.2.2.2.2.1 hq) hS.2.2 hd C.2.2.2.2.2.2.1
theorem V_zret {v : Int32} (hd : decode mt.2.1 pc = .ok (.ireturn, 1)) (hr : mt.2.2.2 = some .boolean) (hn : narrow .boolean (.int v) = .int v) (hq : Q (some (.int v)) h) : V E d mt Q pc L [.int v] h := by
  intro p e s m args below meth c A C hA H locs hP hD hS ls hl
  exact W.zret C.1 C.2.1 (C.2.2.2.1.trans hr) hn (V_end (some (.int v)) hP hD hS C.2.2.2.2.2.2.2.1 hq) hS.2.2 hd C.2.2.2.2.2.2.1
theorem V_vret (hd : decode mt.2.1 pc = .ok (.return_, 1)) (hr : mt.2.2.2 = none) (hq : Q none h) : V E d mt Q pc L [] h := by
  intro p e s m args below meth c A C hA H locs hP hD hS ls hl
  exact W.vret C.1 C.2.1 (C.2.2.2.1.trans hr) (V_end none hP hD hS C.2.2.2.2.2.2.2.1 hq) hS.2.2 hd C.2.2.2.2.2.2.1
end Rules
