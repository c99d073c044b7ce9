/-! survey(), least(), among() -/
theorem lsF_app (v : List Int32 → Int32) : ∀ (L L' : List (List Int32)) (o : Option Int32), lsF v (L ++ L') o = lsF v L' (lsF v L o)
  | [], _, _ => rfl
  | q :: L, L', o => by rw [List.cons_append, lsF, lsF, lsF_app v L L']
theorem sdF_app (m : Int32) (v : List Int32 → Int32) : ∀ (L L' : List (List Int32)) (f : Nat → Int32), sdF m v (L ++ L') f = sdF m v L' (sdF m v L f)
  | [], _, _ => rfl
  | q :: L, L', f => by rw [List.cons_append, sdF, sdF, sdF_app m v L L']
theorem lsF_map (v : List Int32 → Int32) (g : List Int32 → List Int32) : ∀ (L : List (List Int32)) (o : Option Int32), lsF v (L.map g) o = lsF (fun q => v (g q)) L o
  | [], _ => rfl
  | q :: L, o => by rw [List.map_cons, lsF, lsF, lsF_map v g L]
theorem sdF_map (m : Int32) (v : List Int32 → Int32) (g : List Int32 → List Int32) : ∀ (L : List (List Int32)) (f : Nat → Int32), sdF m v (L.map g) f = sdF m (fun q => v (g q)) L f
  | [], _ => rfl
  | q :: L, f => by rw [List.map_cons, sdF, sdF, sdF_map m v g L]
theorem lsF_cong {v v' : List Int32 → Int32} : ∀ {L : List (List Int32)} {o : Option Int32}, (∀ q ∈ L, v q = v' q) → lsF v L o = lsF v' L o
  | [], _, _ => rfl
  | q :: L, o, h => by rw [lsF, lsF, h q List.mem_cons_self, lsF_cong (fun x hx => h x (List.mem_cons_of_mem _ hx))]
theorem sdF_cong {m : Int32} {v v' : List Int32 → Int32} : ∀ {L : List (List Int32)} {f : Nat → Int32}, (∀ q ∈ L, v q = v' q) → sdF m v L f = sdF m v' L f
  | [], _, _ => rfl
  | q :: L, f, h => by rw [sdF, sdF, h q List.mem_cons_self, sdF_cong (fun x hx => h x (List.mem_cons_of_mem _ hx))]
/-- the measure of a class by its sets -/
noncomputable def vq (D : LD) (w : LW) (m : Nat) (q : List Int32) : Int32 := tgI (fun d => shr D m (cs (gD q d))) (wK w) m
theorem shr_cong {D : LD} (ok : okLD D) {m : Nat} {P P' : Nat → Bool} (h : ∀ j, j < 30 → P j = P' j) : shr D m P = shr D m P' := by
  have hN := ok.1
  have e1 : smP (dOn D) P (dN D) = smP (dOn D) P' (dN D) := smP_cong (fun i hi => h i (by omega))
  have e2 : smP (dZe D) P (dN D) = smP (dZe D) P' (dN D) := smP_cong (fun i hi => h i (by omega))
  have e3 : pplN D P = pplN D P' := pplN_cong (fun i hi => h i (by omega))
  have e4 : fa_cnt (headB D P) 10 = fa_cnt (headB D P') 10 := fa_cnt_cong (fun t _ => headB_cong hN h t)
  have e5 : smP (dLn D) (fun b => P (dFr D b) && !P (dTo D b)) (dB D) = smP (dLn D) (fun b => P' (dFr D b) && !P' (dTo D b)) (dB D) := smP_cong (fun b hb => by
    have hbb := ok.2.2.2.1 b hb
    rw [h _ (by omega), h _ (by omega)])
  unfold shr
  split
  · exact e5
  · rw [e4]
  · rw [e1, e2]
  · rw [e1, e2]
  · rw [e1, e2]
  · rw [e1, e2]
  · rw [e3]
theorem va_vq {D : LD} {w : LW} (ok : okLD D) {m : Nat} {q : List Int32} (hq : isPq (dN D) (gdB D w) (wK w) (cI (inN D)) q) : val D w (lay (dN D) q) m = vq D w m q := by
  unfold val vq
  exact tgI_cong (fun d hd => shr_cong ok (fun j hj => lay_dP ok.1 hq hd hj))
theorem vt_nI {f : Nat → Int32} {n : Nat} {P : Nat → Bool} (hf : ∀ p, p < n → upTo 1000 (f p)) (hn : n ≤ 30) : ∃ x, x ≤ 30000 ∧ smP f P n = nI x := by
  refine ⟨smN (fun p => (f p).toNatClampNeg) P n, ?_, smP_nI (fun i hi => (upTo_eq (hf i hi) (by omega)).1)⟩
  have := smN_le (g := fun p => (f p).toNatClampNeg) (P := P) (c := 1000) (n := n) (fun i hi => (upTo_eq (hf i hi) (by omega)).2)
  omega
theorem wst_nI {a b : Nat} (ha : a ≤ 30000) (hb : b ≤ 30000) : ∃ x, x ≤ 30000 ∧ wst (nI a) (nI b) = nI x := by
  unfold wst
  by_cases c : nI b < nI a
  · have hlt := (nI_ltI (by omega) (by omega)).mp c
    refine ⟨a - (a + b) / 2 - 1, by omega, ?_⟩
    rw [if_pos c, nI_add, show (2 : Int32) = nI 2 from rfl, pk_div (by omega) (by omega) (by omega), pk_sub (by omega), show (1 : Int32) = nI 1 from rfl, pk_sub (by omega)]
  · exact ⟨a, ha, by rw [if_neg c]⟩
theorem shr_nI {D : LD} (ok : okLD D) (m : Nat) (P : Nat → Bool) : ∃ x, x ≤ 30000 ∧ shr D m P = nI x := by
  have hN := ok.1
  obtain ⟨a, ha, ea⟩ := vt_nI (f := dZe D) (n := dN D) (P := P) (fun p hp => (ok.2.2.1 p hp).2.1) hN
  obtain ⟨b, hb, eb⟩ := vt_nI (f := dOn D) (n := dN D) (P := P) (fun p hp => (ok.2.2.1 p hp).2.2.1) hN
  unfold shr
  split
  · have := con_nI ok (fun b => P (dFr D b) && !P (dTo D b))
    exact ⟨_, by have := this.2; omega, this.1⟩
  · exact ⟨_, by have := fa_cnt_le (headB D P) 10; omega, rfl⟩
  · split
    · exact ⟨1, by omega, rfl⟩
    · exact ⟨0, by omega, rfl⟩
  · split
    · exact ⟨1, by omega, rfl⟩
    · exact ⟨0, by omega, rfl⟩
  · rw [ea, eb]; exact wst_nI ha hb
  · rw [ea, eb]; exact wst_nI hb ha
  · exact ⟨_, pplN_le ok P, rfl⟩
theorem tg_nI {f : Nat → Int32} {k m : Nat} (hk1 : 1 ≤ k) (hk6 : k ≤ 6) (hf : ∀ d, d < k → ∃ x, x ≤ 30000 ∧ f d = nI x) : ∃ y, y ≤ 180000 ∧ tgI f k m = nI y := by
  have hs : ∀ n, n ≤ k → ∃ y, y ≤ n * 30000 ∧ smI f n = nI y := by
    intro n
    induction n with
    | zero => intro _; exact ⟨0, Nat.zero_le _, rfl⟩
    | succ n ih =>
      intro hn
      obtain ⟨y, hy, ey⟩ := ih (by omega)
      obtain ⟨x, hx, ex⟩ := hf n (by omega)
      refine ⟨y + x, by omega, ?_⟩
      unfold smI at ey ⊢
      rw [smP, ey, ex, if_pos rfl, nI_add]
  have hm : ∀ n, n ≤ k → ∃ a b, a ≤ 30000 ∧ b ≤ 2147483647 ∧ mxI f n = nI a ∧ mnI f n = nI b ∧ (1 ≤ n → b ≤ a) := by
    intro n
    induction n with
    | zero => intro _; exact ⟨0, 2147483647, by omega, by omega, rfl, rfl, fun z => by omega⟩
    | succ n ih =>
      intro hn
      obtain ⟨a, b, ha, hb, ea, eb, hab⟩ := ih (by omega)
      obtain ⟨x, hx, ex⟩ := hf n (by omega)
      refine ⟨if a < x then x else a, if x < b then x else b, by split <;> omega, by split <;> omega, ?_, ?_, fun _ => ?_⟩
      · rw [mxI, ea, ex]
        by_cases c : a < x
        · rw [if_pos c, if_pos ((nI_ltI (by omega) (by omega)).mpr c)]
        · rw [if_neg c, if_neg (fun z => c ((nI_ltI (by omega) (by omega)).mp z))]
      · rw [mnI, eb, ex]
        by_cases c : x < b
        · rw [if_pos c, if_pos ((nI_ltI (by omega) (by omega)).mpr c)]
        · rw [if_neg c, if_neg (fun z => c ((nI_ltI (by omega) (by omega)).mp z))]
      · split <;> split <;> omega
  unfold tgI
  by_cases c : m = 6
  · rw [if_pos c]
    obtain ⟨a, b, ha, hb, ea, eb, hab⟩ := hm k (Nat.le_refl _)
    have := hab hk1
    exact ⟨a - b, by omega, by rw [ea, eb, pk_sub this]⟩
  · rw [if_neg c]
    obtain ⟨y, hy, ey⟩ := hs k (Nat.le_refl _)
    exact ⟨y, by omega, ey⟩
theorem vq_ne {D : LD} {w : LW} (ok : okLD D) (okw : okLW w) (m : Nat) (q : List Int32) : vq D w m q ≠ -2000000 := by
  obtain ⟨y, hy, ey⟩ := tg_nI (f := fun d => shr D m (cs (gD q d))) (m := m) okw.1 okw.2.1 (fun d _ => shr_nI ok m _)
  unfold vq
  rw [ey]
  intro z
  have h1 : 0 ≤ (nI y : Int32) := nI_pos' (by omega)
  rw [z] at h1
  exact absurd h1 (by decide)
/-- what a survey has noted -/
def svW (h : Hp) (o : Option Int32) (f : Nat → Int32) (mk : Int32) : Prop := h 20 0 = o.getD (-2000000) ∧ (∀ y, o = some y → y ≠ -2000000) ∧ (∀ s, s < 3 → h 21 s = f s) ∧ h 20 14 = mk
theorem c_note {E : Wd} {h : Hp} {o : Option Int32} {f : Nat → Int32} {mk v : Int32} (hs : svW h o f mk) (hv : v ≠ -2000000) : Cq E 1 m_ClassBook_note [.ref 20, .int v] h (fun r h' => r = none ∧ svW h' (some (lsS v o)) (sg2 mk v f) mk ∧ (∀ q, q ≠ 20 → q ≠ 21 → h' q = h q) ∧ ∀ k, k ≠ 0 → h' 20 k = h 20 k) := by
  obtain ⟨s1, s2, s3, s4⟩ := hs
  have hw3 : whS mk v < 3 := by unfold whS; split; omega; split <;> omega
  have hin : vp_in (nI (whS mk v)) 3 := vp_in_nI hw3 (by omega)
  have hidx : (1 : Int32) + (if v < mk then -1 else if v = mk then 0 else 1) = nI (whS mk v) := by
    unfold whS
    by_cases c1 : v < mk
    · rw [if_pos c1, if_pos c1]; decide
    · rw [if_neg c1, if_neg c1]
      by_cases c2 : v = mk
      · rw [if_pos c2, if_pos c2]; decide
      · rw [if_neg c2, if_neg c2]; decide
  have tl : ∀ s, s < 3 → (hup h 21 (whS mk v) (h 21 (whS mk v) + 1)) 21 s = sg2 mk v f s := by
    intro s hs
    rw [hup_same]
    unfold sg2 upd
    by_cases c : s = whS mk v
    · rw [if_pos c, if_pos c, s3 _ hw3]
    · rw [if_neg c, if_neg c, s3 s hs]
  have hlw : lsS v o ≠ -2000000 := by
    cases o with
    | none => exact hv
    | some y =>
      show (if v < y then v else y) ≠ -2000000
      split
      · exact hv
      · exact s2 y rfl
  refine Cq_of2 ok_ClassBook_note rfl (Nat.le_of_ble_eq_true rfl) (L := [some (.ref 20), some (.int v)]) rfl ?_
  refine V_aload_n d_ClassBook_note_0 rfl ?_
  refine V_getR d_ClassBook_note_1 f_ClassBook_27 rfl (by first | rfl | assumption) (by first | rfl | assumption) ?_
  refine V_iconst (v := 1) d_ClassBook_note_4 (by decide) ?_
  refine V_iload_n d_ClassBook_note_5 rfl ?_
  refine V_aload_n d_ClassBook_note_6 rfl ?_
  refine V_getI d_ClassBook_note_7 f_ClassBook_122 rfl (by first | rfl | assumption) (by first | rfl | assumption) ?_
  rw [s4]
  refine V_callS1 d_ClassBook_note_10 k_ClassBook_180 rfl (c_compare h v mk) rfl (by first | decide | omega) rfl (Nat.le_of_ble_eq_true rfl) ?_
  refine V_iadd d_ClassBook_note_13 ?_
  rw [hidx]
  refine V_dup2 d_ClassBook_note_14 rfl rfl ?_
  refine V_iald d_ClassBook_note_15 (by first | rfl | assumption) (by first | assumption | exact vp_in_nI (by omega) (by omega)) ?_
  refine V_iconst (v := 1) d_ClassBook_note_16 (by decide) ?_
  refine V_iadd d_ClassBook_note_17 ?_
  refine V_iast d_ClassBook_note_18 (by first | rfl | assumption) (by first | assumption | exact vp_in_nI (by omega) (by omega)) ?_
  refine V_aload_n d_ClassBook_note_19 rfl ?_
  refine V_getI d_ClassBook_note_20 f_ClassBook_119 rfl (by first | rfl | assumption) (by first | rfl | assumption) ?_
  rw [nI_clamp (by omega), hup_ne (by omega), s1]
  have yes : (o = none ∨ ∃ y, o = some y ∧ v < y) → V E 1 m_ClassBook_note (fun r h' => r = none ∧ svW h' (some (lsS v o)) (sg2 mk v f) mk ∧ (∀ q, q ≠ 20 → q ≠ 21 → h' q = h q) ∧ ∀ k, k ≠ 0 → h' 20 k = h 20 k) 36 [some (.ref 20), some (.int v)] [] (hup h 21 (whS mk v) (h 21 (whS mk v) + 1)) := by
    intro hc
    have e : lsS v o = v := by
      rcases hc with rfl | ⟨y, rfl, hy⟩
      · rfl
      · exact if_pos hy
    refine V_aload_n d_ClassBook_note_36 rfl ?_
    refine V_iload_n d_ClassBook_note_37 rfl ?_
    refine V_put (ty := .int) d_ClassBook_note_38 f_ClassBook_119 rfl (by first | rfl | assumption) (by first | rfl | assumption) (by decide +kernel) (by first | rfl | assumption) (by first | rfl | assumption) ?_
    refine V_vret d_ClassBook_note_41 rfl ?_
    refine ⟨rfl, ⟨?_, fun y hy => ?_, fun s hs => ?_, ?_⟩, fun q c1 c2 => by rw [hup_ne c1, hup_ne c2], fun k hk => by rw [hup_same, upd_n hk, hup_ne (by omega)]⟩
    · rw [hup_same, upd_s, e]; rfl
    · rw [← Option.some.inj hy]; exact hlw
    · rw [hup_ne (by omega)]; exact tl s hs
    · rw [hup_same, upd_n (by omega), hup_ne (by omega)]; exact s4
  have no : (∃ y, o = some y ∧ ¬ v < y) → V E 1 m_ClassBook_note (fun r h' => r = none ∧ svW h' (some (lsS v o)) (sg2 mk v f) mk ∧ (∀ q, q ≠ 20 → q ≠ 21 → h' q = h q) ∧ ∀ k, k ≠ 0 → h' 20 k = h 20 k) 41 [some (.ref 20), some (.int v)] [] (hup h 21 (whS mk v) (h 21 (whS mk v) + 1)) := by
    rintro ⟨y, ho, hy⟩
    have e : (some (lsS v o)).getD (-2000000) = o.getD (-2000000) := by rw [ho]; exact if_neg hy
    refine V_vret d_ClassBook_note_41 rfl ?_
    refine ⟨rfl, ⟨?_, fun y hy => ?_, tl, ?_⟩, fun q c1 c2 => by rw [hup_ne c2], fun k hk => by rw [hup_ne (by omega)]⟩
    · rw [hup_ne (by omega), s1, e]
    · rw [← Option.some.inj hy]; exact hlw
    · rw [hup_ne (by omega)]; exact s4
  refine V_ldc d_ClassBook_note_23 v_ClassBook_118 rfl ?_
  refine V_icmp_eq (tgt := 36) d_ClassBook_note_25 (by decide) (fun b25 => ?_) (fun b25 => ?_)
  · refine yes ?_
    cases o with
    | none => exact Or.inl rfl
    | some y => exact absurd b25 (s2 y rfl)
  · obtain ⟨y, ho⟩ : ∃ y, o = some y := by
      cases o with
      | none => exact absurd rfl b25
      | some y => exact ⟨y, rfl⟩
    refine V_iload_n d_ClassBook_note_28 rfl ?_
    refine V_aload_n d_ClassBook_note_29 rfl ?_
    refine V_getI d_ClassBook_note_30 f_ClassBook_119 rfl (by first | rfl | assumption) (by first | rfl | assumption) ?_
    have e0 : o.getD (-2000000) = y := by rw [ho]; rfl
    rw [hup_ne (by omega), s1, e0]
    refine V_icmp_ge (tgt := 41) d_ClassBook_note_33 (by decide) (fun b33 => ?_) (fun b33 => ?_)
    · exact no ⟨y, ho, fun z => (fa_of_lt z).2.1 b33⟩
    · exact yes (Or.inr ⟨y, ho, fa_of_nle b33⟩)
