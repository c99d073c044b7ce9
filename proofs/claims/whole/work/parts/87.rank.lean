/-! openClasses(), count(), which(), same() -/
theorem bFr.cl {h h' : Hp} {S : ST} (hc : ClW h S) (a : bFr h h') (hb : bkR h' S.1 S.2.1) : ClW h' S := ⟨hc.1.of (fun q _ _ => a q (by omega) (by omega) (by omega)), hc.2.1.of (fun q _ _ => a q (by omega) (by omega) (by omega)), hc.2.2.1.at (a _ (by omega) (by omega) (by omega)) (a _ (by omega) (by omega) (by omega)), hc.2.2.2.1.of (a _ (by omega) (by omega) (by omega)) (a _ (by omega) (by omega) (by omega)), hb.w⟩
theorem c_total {E : Wd} (h : Hp) : Cd E 0 m_ClassBook_total [.ref 20] h (some (.int (h 20 13))) h := by
  refine Cd_of ok_ClassBook_total rfl (Nat.le_of_ble_eq_true rfl) (L := [some (.ref 20)]) rfl ?_
  refine V_aload_n d_ClassBook_total_0 rfl ?_
  refine V_getI d_ClassBook_total_1 f_ClassBook_89 rfl (by first | rfl | assumption) (by first | rfl | assumption) ?_
  refine V_iret d_ClassBook_total_4 rfl ?_
  exact ⟨rfl, rfl⟩
theorem c_openClasses {E : Wd} {h : Hp} {S : ST} (hc : ClW h S) (ok : okST S) (most : Int32) : Cq E 23 m_DC_openClasses [.ref 0, .int most] h (fun v h' => v = some (.int (if szI S = 0 then (if most < nI (LC S.1 S.2.1).length then -4 else 0) else szI S)) ∧ ClW h' S ∧ (∀ q, 41 ≤ q → h' q = h q) ∧ (szI S = 0 → bkR h' S.1 S.2.1)) := by
  have hn := ok.1.1
  refine Cq_of2 ok_DC_openClasses rfl (Nat.le_of_ble_eq_true rfl) (L := [some (.ref 0), some (.int most)]) rfl ?_
  refine V_aload_n d_DC_openClasses_0 rfl ?_
  refine V_getR d_DC_openClasses_1 f_DC_23 rfl (by first | rfl | assumption) (by first | rfl | assumption) ?_
  refine V_getI d_DC_openClasses_4 f_DC_90 rfl (by first | rfl | assumption) (by first | rfl | assumption) ?_
  rw [hc.1.1]
  refine V_bipush (v := 12) d_DC_openClasses_7 (by decide) ?_
  refine V_icmp_le (tgt := 15) d_DC_openClasses_9 (by decide) (fun b9 => ?_) (fun b9 => ?_)
  · have h12 : ¬ 12 < dN S.1 := by have := (le_nI _ 12 rfl rfl (by omega) (by decide)).mp b9; omega
    refine V_aload_n d_DC_openClasses_15 rfl ?_
    refine V_getR d_DC_openClasses_16 f_DC_23 rfl (by first | rfl | assumption) (by first | rfl | assumption) ?_
    refine V_getI d_DC_openClasses_19 f_DC_90 rfl (by first | rfl | assumption) (by first | rfl | assumption) ?_
    rw [hc.1.1]
    refine V_if_ne (tgt := 28) d_DC_openClasses_22 (by decide) (fun b22 => ?_) (fun b22 => ?_)
    · have h0 : ¬ dN S.1 = 0 := fun z => b22 (by rw [z]; rfl)
      have hsz : szI S = 0 := by unfold szI; rw [if_neg h12, if_neg h0]
      rw [hsz, if_pos rfl]
      refine V_aload_n d_DC_openClasses_28 rfl ?_
      refine V_getR d_DC_openClasses_29 f_DC_53 rfl (by first | rfl | assumption) (by first | rfl | assumption) ?_
      refine V_callV d_DC_openClasses_32 k_DC_271 rfl (c_prepare hc.1 ok.1 hc.2.1 ok.2.1 (by omega) (by omega) hc.2.2.2.2) (by first | rfl | assumption) rfl rfl (by first | decide | omega) rfl (Nat.le_of_ble_eq_true rfl) (fun v_ h_ q_ => ?_)
      obtain ⟨rfl, q1, q2⟩ := q_
      have fin := bFr.cl hc q1 q2
      have fr : ∀ q, 41 ≤ q → h_ q = h q := fun q hq => q1 q (by omega) (by omega) (by omega)
      show V E _ m_DC_openClasses _ 35 _ [] _
      refine V_aload_n d_DC_openClasses_35 rfl ?_
      refine V_getR d_DC_openClasses_36 f_DC_53 rfl (by first | rfl | assumption) (by first | rfl | assumption) ?_
      refine V_callV1 d_DC_openClasses_39 k_DC_222 rfl (c_total _) (by first | rfl | assumption) rfl rfl (by first | decide | omega) rfl (Nat.le_of_ble_eq_true rfl) ?_
      rw [q2.2.2]
      refine V_iload_n d_DC_openClasses_42 rfl ?_
      refine V_icmp_le (tgt := 51) d_DC_openClasses_43 (by decide) (fun b43 => ?_) (fun b43 => ?_)
      · refine V_iconst (v := 0) d_DC_openClasses_51 (by decide) ?_
        refine V_iret d_DC_openClasses_52 rfl ?_
        exact ⟨by rw [if_neg (fun z => (fa_of_lt z).2.1 b43)], fin, fr, fun _ => q2⟩
      · refine V_bipush (v := -4) d_DC_openClasses_46 (by decide) ?_
        refine V_goto (tgt := 52) d_DC_openClasses_48 (by decide) ?_
        refine V_iret d_DC_openClasses_52 rfl ?_
        exact ⟨by rw [if_pos (fa_of_nle b43)], fin, fr, fun _ => q2⟩
    · have h0 : dN S.1 = 0 := (eq_nI _ 0 rfl rfl (by omega) (by decide)).mp b22
      have hsz : szI S = -5 := by unfold szI; rw [if_neg h12, if_pos h0]
      refine V_bipush (v := -5) d_DC_openClasses_25 (by decide) ?_
      refine V_iret d_DC_openClasses_27 rfl ?_
      exact ⟨by rw [hsz]; rfl, hc, fun _ _ => rfl, fun z => by rw [hsz] at z; exact absurd z (by decide)⟩
  · have h12 : 12 < dN S.1 := by
      rcases Nat.lt_or_ge 12 (dN S.1) with z | z
      · exact z
      · exact absurd ((le_nI _ 12 rfl rfl (by omega) (by decide)).mpr z) b9
    have hsz : szI S = -4 := by unfold szI; rw [if_pos h12]
    refine V_bipush (v := -4) d_DC_openClasses_12 (by decide) ?_
    refine V_iret d_DC_openClasses_14 rfl ?_
    exact ⟨by rw [hsz]; rfl, hc, fun _ _ => rfl, fun z => by rw [hsz] at z; exact absurd z (by decide)⟩
theorem sz_neg {S : ST} (h : ¬ szI S = 0) : szI S < 0 := by
  unfold szI at h ⊢
  by_cases h1 : 12 < dN S.1
  · rw [if_pos h1]; decide
  · rw [if_neg h1] at h ⊢
    by_cases h2 : dN S.1 = 0
    · rw [if_pos h2]; decide
    · rw [if_neg h2] at h; exact absurd rfl h
/-- what openClasses() answers where every number is allowed -/
theorem open_any {S : ST} (ok : okST S) : (if szI S = 0 then (if (2147483647 : Int32) < nI (LC S.1 S.2.1).length then (-4 : Int32) else 0) else szI S) = if szI S = 0 then 0 else szI S := by
  by_cases hz : szI S = 0
  · have hle := LC_le (w := S.2.1) ok.1 ok.2.1 (szI_0 hz).1
    rw [if_pos hz, if_pos hz, if_neg]
    intro z
    have := (lt_nI 2147483647 (LC S.1 S.2.1).length rfl rfl (by omega) (by omega)).mp z
    omega
  · rw [if_neg hz, if_neg hz]
theorem c_Dcount {E : Wd} {h : Hp} {S : ST} (hc : ClW h S) (ok : okST S) : CC E 24 m_DC_count [] h (opCount S) := by
  refine Cq_of2 ok_DC_count rfl (Nat.le_of_ble_eq_true rfl) (L := [some (.ref 0), none]) rfl ?_
  refine V_aload_n d_DC_count_0 rfl ?_
  refine V_ldc d_DC_count_1 v_DC_218 rfl ?_
  refine V_callV d_DC_count_3 k_DC_219 rfl (c_openClasses hc ok _) (by first | rfl | assumption) rfl rfl (by first | decide | omega) rfl (Nat.le_of_ble_eq_true rfl) (fun v_ h_ q_ => ?_)
  obtain ⟨rfl, q1, q2, q3⟩ := q_
  rw [open_any ok]
  by_cases hz : szI S = 0
  · rw [if_pos hz]
    show V E _ m_DC_count _ 6 _ [.int 0] _
    refine V_istore_n d_DC_count_6 (by decide) ?_
    dsimp only [List.set]
    refine V_iload_n d_DC_count_7 rfl ?_
    refine V_if_ge (tgt := 15) d_DC_count_8 (by decide) (fun b8 => ?_) (fun b8 => ?_)
    · refine V_aload_n d_DC_count_15 rfl ?_
      refine V_getR d_DC_count_16 f_DC_53 rfl (by first | rfl | assumption) (by first | rfl | assumption) ?_
      refine V_callV1 d_DC_count_19 k_DC_222 rfl (c_total _) (by first | rfl | assumption) rfl rfl (by first | decide | omega) rfl (Nat.le_of_ble_eq_true rfl) ?_
      rw [(q3 hz).2.2]
      refine V_iret d_DC_count_22 rfl ?_
      exact ⟨by unfold opCount; rw [if_pos hz], q1, q2⟩
    · exact absurd (by decide) b8
  · rw [if_neg hz]
    show V E _ m_DC_count _ 6 _ [.int (szI S)] _
    refine V_istore_n d_DC_count_6 (by decide) ?_
    dsimp only [List.set]
    refine V_iload_n d_DC_count_7 rfl ?_
    refine V_if_ge (tgt := 15) d_DC_count_8 (by decide) (fun b8 => ?_) (fun b8 => ?_)
    · exact absurd b8 (fun z => (fa_of_lt (sz_neg hz)).2.1 z)
    · refine V_iload_n d_DC_count_11 rfl ?_
      refine V_goto (tgt := 22) d_DC_count_12 (by decide) ?_
      refine V_iret d_DC_count_22 rfl ?_
      exact ⟨by unfold opCount; rw [if_neg hz], q1, q2⟩
/-! the number of a class -/
theorem flat_at {α β : Type} (f : α → List β) : ∀ (L : List α) (i r : Nat) (S : α) (x : β), L[i]? = some S → (f S)[r]? = some x → (L.flatMap f)[((L.take i).map (fun y => (f y).length)).sum + r]? = some x
  | [], i, r, S, x, h, _ => by simp at h
  | y :: L, 0, r, S, x, h, hx => by
    rw [List.getElem?_cons_zero] at h
    rw [List.flatMap_cons, List.take_zero, List.map_nil, List.sum_nil, Nat.zero_add, Option.some.inj h, List.getElem?_append_left (List.getElem?_eq_some_iff.mp hx).1]
    exact hx
  | y :: L, i + 1, r, S, x, h, hx => by
    rw [List.getElem?_cons_succ] at h
    rw [List.flatMap_cons, List.take_succ_cons, List.map_cons, List.sum_cons, List.getElem?_append_right (by omega), show (f y).length + ((L.take i).map (fun y => (f y).length)).sum + r - (f y).length = ((L.take i).map (fun y => (f y).length)).sum + r by omega]
    exact flat_at f L i r S x h hx
theorem sq_at {D : LD} {w : LW} {l : Nat} {R : Int32} {b i r : Nat} {S : Int32} {t : List Int32} (hS : (subs (dN D) R)[i]? = some S) (hg : goS D w S b = true) (ht : (sq D w (l + 1) (dif R S) (b - prN D w S))[r]? = some t) : (sq D w (l + 2) R b)[ahN D w (l + 2) R b i + r]? = some (S :: t) := by
  have e : (fun S => (if goS D w S b = true then (sq D w (l + 1) (dif R S) (b - prN D w S)).map (fun t => S :: t) else []).length) = wyN D w (l + 2) R b := by
    funext S
    unfold wyN
    by_cases h : goS D w S b = true
    · rw [if_pos h, if_pos (c := 2 ≤ l + 2 ∧ goS D w S b = true) ⟨by omega, h⟩, List.length_map, show l + 2 - 1 = l + 1 by omega]
    · rw [if_neg h, if_neg (c := 2 ≤ l + 2 ∧ goS D w S b = true) (fun z => h z.2), List.length_nil]
  have := flat_at (fun S => if goS D w S b = true then (sq D w (l + 1) (dif R S) (b - prN D w S)).map (fun t => S :: t) else []) (subs (dN D) R) i r S (S :: t) hS (by rw [if_pos hg, List.getElem?_map, ht]; rfl)
  rw [e] at this
  rw [sq]
  exact this
noncomputable def oq (D : LD) (ds : Nat → Nat) : Nat → Int32 → List Int32
  | 0, _ => []
  | l + 1, R => nxO D ds R :: oq D ds l (dif R (nxO D ds R))
theorem oq_len {D : LD} {ds : Nat → Nat} : ∀ k R, (oq D ds k R).length = k
  | 0, _ => rfl
  | k + 1, R => by rw [oq, List.length_cons, oq_len k]
theorem oq_gD {D : LD} {ds : Nat → Nat} : ∀ k i d, d < k → gD (oq D ds k (rsO D ds i)) d = nxO D ds (rsO D ds (i + d))
  | 0, i, d, h => absurd h (Nat.not_lt_zero d)
  | k + 1, i, 0, h => by rw [oq, gD_zero, Nat.add_zero]
  | k + 1, i, d + 1, h => by
    have e := oq_gD (D := D) (ds := ds) k (i + 1) d (by omega)
    rw [rsO] at e
    rw [oq, gD_cons, e, show i + 1 + d = i + (d + 1) by omega]
theorem oq_ownQ {D : LD} {ds : Nat → Nat} (k : Nat) : oq D ds k (cI (inN D)) = ownQ D ds k := by
  refine gD_ext (by rw [oq_len, ownQ_len]) (fun d hd => ?_)
  rw [oq_len] at hd
  have e := oq_gD (D := D) (ds := ds) k 0 d hd
  rw [rsO, Nat.zero_add] at e
  rw [e, ownQ_gD hd]
theorem fsI_hi {R : Int32} (h : hi0 R) : fsI R = fxI (fstO (cs R) 30) := by
  have e := fsI_cI (cs R)
  rw [cI_csI h] at e
  exact e
noncomputable def sqx (D : LD) (w : LW) : Nat → Int32 → Nat → List (List Int32)
  | 0, _, _ => [[]]
  | l + 1, R, b => sq D w (l + 1) R b
def rkQ (D : LD) (w : LW) (ds : Nat → Nat) (l : Nat) (R : Int32) (b acc : Nat) (v : Int32) : Prop := (∃ r, (sqx D w l R b)[r]? = some (oq D ds l R) ∧ v = nI (acc + r)) ∨ (oq D ds l R ∉ sqx D w l R b ∧ v = -1)
theorem sq_mem {D : LD} {w : LW} {l : Nat} {R : Int32} {b : Nat} {S : Int32} {t : List Int32} (h : (S :: t) ∈ sq D w (l + 2) R b) : S ∈ subs (dN D) R ∧ goS D w S b = true ∧ t ∈ sq D w (l + 1) (dif R S) (b - prN D w S) := by
  rw [sq, List.mem_flatMap] at h
  obtain ⟨S', h1, h2⟩ := h
  by_cases hg : goS D w S' b = true
  · rw [if_pos hg] at h2
    obtain ⟨t', h3, h4⟩ := List.mem_map.mp h2
    obtain ⟨e1, e2⟩ := List.cons.inj h4
    subst e1 e2
    exact ⟨h1, hg, h3⟩
  · rw [if_neg hg] at h2; cases h2
theorem last_one {D : LD} {w : LW} {ds : Nat → Nat} (okd : okDs D w ds) {c : Nat → Bool} {R : Int32} (h : rsI D ds c R) (hc : fa_cnt c (wK w) + 1 = wK w) {a : Nat} (ha : fstO (cs R) 30 = some a) (hN : dN D ≤ 30) : nxO D ds R = R := by
  obtain ⟨x1, x2⟩ := h.fst ha
  have h2 := cnt_add (okd a x1) x2
  unfold nxO
  rw [ha]
  show cI (dP D ds (ds a)) = R
  refine (cI_eq h.1 (fun j hj => ?_)).symm
  rw [h.2 j hj]
  unfold dP inN
  by_cases hjn : j < dN D
  · rw [decide_eq_true hjn, Bool.true_and, Bool.true_and]
    by_cases e : ds j = ds a
    · rw [e, x2, decide_eq_true rfl]; rfl
    · rw [decide_eq_false e]
      cases hcj : c (ds j) with
      | true => rfl
      | false =>
        have h3 := cnt_add (c := fun d => c d || decide (d = ds a)) (okd j hjn) (by rw [hcj, decide_eq_false e]; rfl)
        have h4 := fa_cnt_le (fun d => (c d || decide (d = ds a)) || decide (d = ds j)) (wK w)
        omega
  · rw [decide_eq_false hjn]; rfl
theorem c_rank {E : Wd} {h : Hp} {D : LD} {w : LW} (hb : bkS h D w) {ds : Nat → Nat} (hp : PartW h 14 (inN D) ds) (okd : okDs D w ds) : Cq E 19 m_ClassBook_rank [.ref 20, .ref 14] h (fun v h' => (∃ x, v = some (.int x) ∧ rkQ D w ds (wK w) (cI (inN D)) (bdg D w) 0 x) ∧ tF h h' ∧ bkS h' D w) := by
  obtain ⟨g1, g2, g3, g4, ⟨g5, g5'⟩, g6, g7, g8, g9, g10⟩ := id hb
  have hk1 := g4.1
  have hk6 := g4.2.1
  have hbl := bdg_le (w := w) g5'
  obtain ⟨Q, hQ⟩ : ∃ Q : Option Value → Hp → Prop, Q = fun v h' => (∃ x, v = some (.int x) ∧ rkQ D w ds (wK w) (cI (inN D)) (bdg D w) 0 x) ∧ tF h h' ∧ bkS h' D w := ⟨_, rfl⟩
  rw [← hQ]
  refine Cq_of2 ok_ClassBook_rank rfl (Nat.le_of_ble_eq_true rfl) (L := [some (.ref 20), some (.ref 14), none, none, none, none, none, none, none]) rfl ?_
  refine V_aload_n d_ClassBook_rank_0 rfl ?_
  refine V_getI d_ClassBook_rank_1 f_ClassBook_51 rfl (by first | rfl | assumption) (by first | rfl | assumption) ?_
  refine V_istore_n d_ClassBook_rank_4 (by decide) ?_
  dsimp only [List.set]
  refine V_aload_n d_ClassBook_rank_5 rfl ?_
  refine V_getI d_ClassBook_rank_6 f_ClassBook_68 rfl (by first | rfl | assumption) (by first | rfl | assumption) ?_
  refine V_istore_n d_ClassBook_rank_9 (by decide) ?_
  dsimp only [List.set]
  refine V_iconst (v := 0) d_ClassBook_rank_10 (by decide) ?_
  refine V_istore d_ClassBook_rank_11 (by decide) ?_
  dsimp only [List.set]
  refine V_aload_n d_ClassBook_rank_13 rfl ?_
  refine V_getR d_ClassBook_rank_14 f_ClassBook_15 rfl (by first | rfl | assumption) (by first | rfl | assumption) ?_
  refine V_getI d_ClassBook_rank_17 f_ClassBook_78 rfl (by first | rfl | assumption) (by first | rfl | assumption) ?_
  refine V_istore d_ClassBook_rank_20 (by decide) ?_
  dsimp only [List.set]
  rw [g3, g6, g8]
  have loop : ∀ l, l ≤ wK w → ∀ (H : Hp) (R : Int32) (b acc : Nat) (c : Nat → Bool) u6 u7 u8, tF h H → bkS H D w → rsI D ds c R → fa_cnt c (wK w) + l = wK w → (1 ≤ l → okT D w l R b) → (∀ x, rkQ D w ds l R b acc x → rkQ D w ds (wK w) (cI (inN D)) (bdg D w) 0 x) → V E 19 m_ClassBook_rank Q 22 [some (.ref 20), some (.ref 14), some (.int R), some (.int (nI b)), some (.int (nI acc)), some (.int (nI l)), u6, u7, u8] [] H := by
    intro l
    induction l with
    | zero =>
      intro _ H R b acc c u6 u7 u8 fr hbH _ _ _ hres
      refine V_iload d_ClassBook_rank_22 rfl ?_
      refine V_if_le (tgt := 116) d_ClassBook_rank_24 (by decide) (fun b24 => ?_) (fun b24 => ?_)
      · refine V_iload d_ClassBook_rank_116 rfl ?_
        refine V_iret d_ClassBook_rank_118 rfl ?_
        rw [hQ]
        exact ⟨⟨_, rfl, hres _ (Or.inl ⟨0, rfl, rfl⟩)⟩, fr, hbH⟩
      · exact absurd (by decide) b24
    | succ l ih =>
      intro hlk H R b acc c u6 u7 u8 fr hbH hrs hcn hTT hres
      have hT := hTT (by omega)
      have hR := hT.2.2.1
      have hbb := hT.2.2.2.2
      obtain ⟨r1, r2, r3, r4, -, r6, r7, r8, r9, r10⟩ := id hbH
      have hpH : PartW H 14 (inN D) ds := hp.at (fr.ne (by omega)) (fr.ne (by omega))
      have out : oq D ds (l + 1) R ∉ sq D w (l + 1) R b → ∀ H, tF h H → bkS H D w → Q (some (.int (-1))) H := by
        intro hno H fr hbH
        rw [hQ]
        exact ⟨⟨_, rfl, hres _ (Or.inr ⟨hno, rfl⟩)⟩, fr, hbH⟩
      refine V_iload d_ClassBook_rank_22 rfl ?_
      refine V_if_le (tgt := 116) d_ClassBook_rank_24 (by decide) (fun b24 => ?_) (fun b24 => ?_)
      · have := (le_nI (l + 1) 0 rfl rfl (by omega) (by decide)).mp b24
        omega
      · refine V_iload_n d_ClassBook_rank_27 rfl ?_
        refine V_callS1 d_ClassBook_rank_28 k_ClassBook_96 rfl (c_first H R) rfl (by first | decide | omega) rfl (Nat.le_of_ble_eq_true rfl) ?_
        rw [fsI_hi hR.1]
        by_cases hR0 : R = 0
        · have hlead : fxI (fstO (cs R) 30) = -1 := by rw [hR0, fst_0]; rfl
          rw [hlead]
          refine V_istore d_ClassBook_rank_31 (by decide) ?_
          dsimp only [List.set]
          refine V_iload d_ClassBook_rank_33 rfl ?_
          refine V_iconst (v := -1) d_ClassBook_rank_35 (by decide) ?_
          refine V_icmp_ne (tgt := 41) d_ClassBook_rank_36 (by decide) (fun b36 => ?_) (fun b36 => ?_)
          · exact absurd rfl b36
          · refine V_iconst (v := -1) d_ClassBook_rank_39 (by decide) ?_
            refine V_iret d_ClassBook_rank_40 rfl ?_
            refine out (fun hm => ?_) H fr hbH
            cases l with
            | zero =>
              rw [sq, hR0] at hm
              unfold goS at hm
              rw [may_0] at hm
              cases hm
            | succ l =>
              rw [sq, hR0, subs_0] at hm
              cases hm
        · obtain ⟨a, ha⟩ := cs_ne0 hR.1 hR0
          obtain ⟨a1, a2, a3⟩ := fstO_lt ha
          have haN := hR.2 a a1 a2
          have hca := (hrs.fst ha).2
          have hak := okd a haN
          have hnx : nxO D ds R = cI (dP D ds (ds a)) := by unfold nxO; rw [ha]
          have hlast := fun (z : fa_cnt c (wK w) + 1 = wK w) => last_one okd hrs z ha r2.1
          have hrn := hrs.nx ha
          have hcn2 := cnt_add hak hca
          have hSm : nxO D ds R ∈ subs (dN D) R := by
            refine (subs_mem r2.1 hR ha _).mpr ⟨nxO_hi _ _ _, ?_, fun j hj hb => ?_⟩
            · rw [hnx, cI_cs _ a1]
              unfold dP inN
              simp [haN]
            · rw [hnx, cI_cs _ hj] at hb
              rw [hrs.2 j hj]
              unfold dP inN at hb
              simp only [Bool.and_eq_true, decide_eq_true_eq] at hb
              rw [hb.2, hca, decide_eq_true hb.1]; rfl
          have hSi := subs_in r2.1 hR hSm
          have hsl := slN_lt r2.1 hSi
          have hpr := prN_le D w (nxO D ds R)
          have hprc := prc_at g5' r9 hSi
          have hlead : fxI (fstO (cs R) 30) = nI a := by rw [ha]; rfl
          rw [hlead]
          clear hlead ha
          have h12 : 2 ^ dN D ≤ 2 ^ 12 := Nat.pow_le_pow_right (by omega) g5'
          have h12' : (2 : Nat) ^ 12 = 4096 := by decide
          have hin : vp_in (nI (slN (dN D) (nxO D ds R))) 4096 := vp_in_nI (by omega) (by omega)
          have hina : vp_in (nI a) 30 := vp_in_nI a1 (by omega)
          have hinb : vp_in (nI (ds a)) 6 := vp_in_nI (by omega) (by omega)
          have hgo : goS D w (nxO D ds R) b = false → oq D ds (l + 1) R ∉ sq D w (l + 1) R b := by
            intro hg hm
            cases l with
            | zero =>
              have e := hlast (by omega)
              rw [e] at hg
              rw [sq, hg] at hm
              cases hm
            | succ l =>
              rw [oq] at hm
              rw [(sq_mem hm).2.1] at hg
              cases hg
          refine V_istore d_ClassBook_rank_31 (by decide) ?_
          dsimp only [List.set]
          refine V_iload d_ClassBook_rank_33 rfl ?_
          refine V_iconst (v := -1) d_ClassBook_rank_35 (by decide) ?_
          refine V_icmp_ne (tgt := 41) d_ClassBook_rank_36 (by decide) (fun b36 => ?_) (fun b36 => ?_)
          · refine V_aload_n d_ClassBook_rank_41 rfl ?_
            refine V_getR d_ClassBook_rank_42 f_ClassBook_102 rfl (by first | rfl | assumption) (by first | rfl | assumption) ?_
            refine V_aload_n d_ClassBook_rank_45 rfl ?_
            refine V_getR d_ClassBook_rank_46 f_ClassBook_107 rfl (by first | rfl | assumption) (by first | rfl | assumption) ?_
            refine V_iload d_ClassBook_rank_49 rfl ?_
            refine V_iald d_ClassBook_rank_51 (by first | rfl | assumption) (by first | assumption | exact vp_in_nI (by omega) (by omega)) ?_
            rw [nI_clamp (by omega), (hpH.1 a a1).2]
            refine V_iald d_ClassBook_rank_52 (by first | rfl | assumption) (by first | assumption | exact vp_in_nI (by omega) (by omega)) ?_
            rw [nI_clamp (by omega), hpH.2 (ds a) (by omega), show cI (fun j => inN D j && decide (ds j = ds a)) = nxO D ds R from hnx.symm]
            refine V_istore d_ClassBook_rank_53 (by decide) ?_
            dsimp only [List.set]
            refine V_aload_n d_ClassBook_rank_55 rfl ?_
            refine V_getR d_ClassBook_rank_56 f_ClassBook_34 rfl (by first | rfl | assumption) (by first | rfl | assumption) ?_
            refine V_iload d_ClassBook_rank_59 rfl ?_
            refine V_aload_n d_ClassBook_rank_61 rfl ?_
            refine V_getI d_ClassBook_rank_62 f_ClassBook_57 rfl (by first | rfl | assumption) (by first | rfl | assumption) ?_
            rw [r7]
            refine V_iushr d_ClassBook_rank_65 rfl ?_
            rw [ush_slot r2.1 hSi]
            refine V_iald d_ClassBook_rank_66 (by first | rfl | assumption) (by first | assumption | exact vp_in_nI (by omega) (by omega)) ?_
            rw [nI_clamp (by omega), hprc]
            refine V_istore d_ClassBook_rank_67 (by decide) ?_
            dsimp only [List.set]
            refine V_iload d_ClassBook_rank_69 rfl ?_
            refine V_iconst (v := -1) d_ClassBook_rank_71 (by decide) ?_
            refine V_icmp_eq (tgt := 81) d_ClassBook_rank_72 (by decide) (fun b72 => ?_) (fun b72 => ?_)
            · refine V_iconst (v := -1) d_ClassBook_rank_81 (by decide) ?_
              refine V_iret d_ClassBook_rank_82 rfl ?_
              refine out (hgo ?_) H fr hbH
              unfold goS
              rw [prI_m1.mp b72]
              rfl
            · have hm : mayB D w (cs (nxO D ds R)) = true := by
                cases hh : mayB D w (cs (nxO D ds R)) with
                | true => rfl
                | false => exact absurd (prI_m1.mpr hh) b72
              have hpe : prI D w (nxO D ds R) = nI (prN D w (nxO D ds R)) := by unfold prI; rw [if_pos hm]
              rw [hpe]
              refine V_iload d_ClassBook_rank_75 rfl ?_
              refine V_iload_n d_ClassBook_rank_77 rfl ?_
              refine V_icmp_le (tgt := 83) d_ClassBook_rank_78 (by decide) (fun b78 => ?_) (fun b78 => ?_)
              · have hle := (nI_leI (by omega) (by omega)).mp b78
                have hg : goS D w (nxO D ds R) b = true := by unfold goS; rw [hm, decide_eq_true hle]; rfl
                obtain ⟨i0, hi0, hi1⟩ := List.getElem_of_mem hSm
                have hnd := subs_nodup r2.1 hR
                have hat : (subs (dN D) R)[i0]? = some (nxO D ds R) := by rw [List.getElem?_eq_getElem hi0, hi1]
                have hc1 := c_ahead (E := E) (D := D) (w := w) (l := l + 1) (by omega) (by omega) hbH hT (e := nxO D ds R) (i0 := i0) (by omega) (fun i hi z => by
                  have hil : i < (subs (dN D) R).length := by omega
                  rw [List.getElem?_eq_getElem hil] at z
                  have e1 := Option.some.inj z
                  have e2 : (subs (dN D) R)[i] = (subs (dN D) R)[i0] := by rw [e1, hi1]
                  have := (List.getElem_inj hnd).mp e2
                  omega) (fun _ => hat)
                refine V_iload d_ClassBook_rank_83 rfl ?_
                refine V_aload_n d_ClassBook_rank_85 rfl ?_
                refine V_iload d_ClassBook_rank_86 rfl ?_
                refine V_iload_n d_ClassBook_rank_88 rfl ?_
                refine V_iload_n d_ClassBook_rank_89 rfl ?_
                refine V_iload d_ClassBook_rank_90 rfl ?_
                refine V_callV d_ClassBook_rank_92 k_ClassBook_81 rfl (hc1) (by first | rfl | assumption) rfl rfl (by first | decide | omega) rfl (Nat.le_of_ble_eq_true rfl) (fun v_ h_ q_ => ?_)
                obtain ⟨rfl, q1, q2⟩ := q_
                show V E _ m_ClassBook_rank _ 95 _ [.int (nI (ahN D w (l + 1) R b i0)), .int (nI acc)] _
                refine V_iadd d_ClassBook_rank_95 ?_
                refine V_istore d_ClassBook_rank_96 (by decide) ?_
                dsimp only [List.set]
                refine V_iload_n d_ClassBook_rank_98 rfl ?_
                refine V_iload d_ClassBook_rank_99 rfl ?_
                refine V_iconst (v := -1) d_ClassBook_rank_101 (by decide) ?_
                refine V_ixor d_ClassBook_rank_102 ?_
                refine V_iand d_ClassBook_rank_103 ?_
                refine V_istore_n d_ClassBook_rank_104 (by decide) ?_
                dsimp only [List.set]
                refine V_iload_n d_ClassBook_rank_105 rfl ?_
                refine V_iload d_ClassBook_rank_106 rfl ?_
                refine V_isub d_ClassBook_rank_108 ?_
                refine V_istore_n d_ClassBook_rank_109 (by decide) ?_
                dsimp only [List.set]
                refine V_iincw (w := -1) d_ClassBook_rank_110 rfl (by decide) (by decide) ?_
                dsimp only [List.set]
                refine V_goto (tgt := 22) d_ClassBook_rank_113 (by decide) ?_
                rw [nI_add, pk_sub hle, show nI (l + 1) + -1 = nI l from by rw [← Int32.sub_eq_add_neg]; exact nI_pred l]
                refine ih (by omega) _ (dif R (nxO D ds R)) _ _ (fun d => c d || decide (d = ds a)) _ _ _ (fr.tr q1) q2 hrn (by omega) (fun h1 => ?_) (fun x hx => hres x ?_)
                · obtain ⟨l', rfl⟩ : ∃ l', l = l' + 1 := ⟨l - 1, by omega⟩
                  exact okT_next r2.1 hT hSm
                · cases l with
                  | zero =>
                    have e := hlast (by omega)
                    refine Or.inl ⟨0, ?_, ?_⟩
                    · show (sq D w 1 R b)[0]? = some (oq D ds 1 R)
                      rw [oq, oq, e, sq]
                      rw [e] at hg
                      rw [hg]
                      rfl
                    · rcases hx with ⟨r, hr, hv⟩ | ⟨hn, -⟩
                      · have : r = 0 := by
                          cases r with
                          | zero => rfl
                          | succ r => rw [sqx] at hr; simp at hr
                        rw [hv, this, ah_1]
                      · exact absurd (by rw [sqx]; exact List.mem_singleton.mpr rfl) hn
                  | succ l =>
                    rcases hx with ⟨r, hr, hv⟩ | ⟨hn, hv⟩
                    · refine Or.inl ⟨ahN D w (l + 2) R b i0 + r, ?_, by rw [hv, Nat.add_assoc]⟩
                      show (sq D w (l + 2) R b)[_]? = some (oq D ds (l + 2) R)
                      rw [oq]
                      exact sq_at hat hg hr
                    · refine Or.inr ⟨fun hm2 => hn ?_, hv⟩
                      have hm2 : oq D ds (l + 2) R ∈ sq D w (l + 2) R b := hm2
                      rw [oq] at hm2
                      exact (sq_mem hm2).2.2
              · refine V_iconst (v := -1) d_ClassBook_rank_81 (by decide) ?_
                refine V_iret d_ClassBook_rank_82 rfl ?_
                refine out (hgo ?_) H fr hbH
                unfold goS
                rw [hm, Bool.true_and]
                exact decide_eq_false (fun z => b78 ((nI_leI (by omega) (by omega)).mpr z))
          · exact absurd b36 (by
              intro z
              have h1 : 0 ≤ (nI a : Int32) := nI_pos' (by omega)
              rw [z] at h1
              exact absurd h1 (by decide))
  refine loop (wK w) (Nat.le_refl _) h _ _ 0 (fun _ => false) none none none (tF.rf h) hb ⟨cI_hi _, fun j hj => ?_⟩ (by rw [cnt_00, Nat.zero_add]) (fun _ => ⟨hk1, Nat.le_refl _, inN_S, fun p hp _ => absurd hp (by omega), Nat.le_refl _⟩) (fun x hx => hx)
  rw [cI_cs _ hj]
  unfold inN
  simp
