/-! the class: its book, its state, its first calls -/
def sevB (D : LD) (t : Nat) : Bool := decide (2 ≤ fa_cnt (town D t) 30)
def bndB (D : LD) (w : LW) : Bool := decide (wC w < fa_cnt (sevB D) 10)
def bdg (D : LD) (w : LW) : Nat := if bndB D w then wC w else 0
noncomputable def prN (D : LD) (w : LW) (S : Int32) : Nat := if bndB D w then fa_cnt (headB D (cs S)) 10 else 0
noncomputable def goS (D : LD) (w : LW) (S : Int32) (b : Nat) : Bool := mayB D w (cs S) && decide (prN D w S ≤ b)
noncomputable def sq (D : LD) (w : LW) : Nat → Int32 → Nat → List (List Int32)
  | 0, _, _ => []
  | 1, R, b => if goS D w R b then [[R]] else []
  | l + 2, R, b => (subs (dN D) R).flatMap (fun S => if goS D w S b then (sq D w (l + 1) (dif R S) (b - prN D w S)).map (fun t => S :: t) else [])
noncomputable def prI (D : LD) (w : LW) (S : Int32) : Int32 := if mayB D w (cs S) then nI (prN D w S) else -1
/-- where the ways of a rest are kept, and what is kept there -/
def slN (n : Nat) (S : Int32) : Nat := S.toNatClampNeg / 2 ^ (30 - n)
def tSl (n k l : Nat) (R : Int32) (b : Nat) : Nat := b / 3 * 2 ^ n + 2 ^ (n - (k - l)) + slN n R
def ent (h : Hp) (s g : Nat) : Nat := (jnr (h 24) s).toBitVec.toNat / 2 ^ (21 * g) % 2 ^ 21
/-- what ways() may be asked -/
def okT (D : LD) (w : LW) (l : Nat) (R : Int32) (b : Nat) : Prop := 1 ≤ l ∧ l ≤ wK w ∧ inS (dN D) R ∧ (∀ p, p < wK w - l → p < 30 → cs R p = false) ∧ b ≤ bdg D w
def tldW (h : Hp) (D : LD) (w : LW) : Prop := ∀ l R b, okT D w l R b → 2 ≤ l → l < wK w → R ≠ 0 → ent h (tSl (dN D) (wK w) l R b) (b % 3) = 0 ∨ ent h (tSl (dN D) (wK w) l R b) (b % 3) = 1 + (sq D w l R b).length
def prcW (h : Hp) (D : LD) (w : LW) : Prop := ∀ x, x < 2 ^ dN D → h 23 x = prI D w (nI (x * 2 ^ (30 - dN D)))
def bkF (h : Hp) (D : LD) (w : LW) : Prop := (1 ≤ dN D ∧ dN D ≤ 12) ∧ h 20 10 = cI (inN D) ∧ h 20 11 = nI (30 - dN D) ∧ h 20 12 = nI (bdg D w) ∧ prcW h D w ∧ tldW h D w
def bkW (h : Hp) (D : LD) (w : LW) : Prop := h 20 9 = 0 ∨ (h 20 9 = 1 ∧ bkF h D w ∧ h 20 13 = nI (LC D w).length)
def BkW (h : Hp) (D : LD) (w : LW) : Prop := bkW h D (wfr true w)
theorem BkW.of {h h' : Hp} {D : LD} {w : LW} (hb : BkW h D w) (e : ∀ q, 20 ≤ q → q ≤ 24 → q ≠ 21 → q ≠ 22 → h' q = h q) : BkW h' D w := by
  unfold BkW bkW bkF prcW tldW ent
  rw [e 20 (by omega) (by omega) (by omega) (by omega), e 23 (by omega) (by omega) (by omega) (by omega), e 24 (by omega) (by omega) (by omega) (by omega)]
  exact hb
theorem BkW.no {h : Hp} {D : LD} {w : LW} (e : h 20 9 = 0) : BkW h D w := Or.inl e
def WkW (h : Hp) (s : Option (Nat → Int32)) : Prop := h 25 1 = (if s.isSome then 1 else 0) ∧ ∀ f, s = some f → ∀ i, i < 6 → h 26 i = f i
theorem WkW.of {h h' : Hp} {s : Option (Nat → Int32)} (hw : WkW h s) (e1 : h' 25 = h 25) (e2 : h' 26 = h 26) : WkW h' s := by
  unfold WkW
  rw [e1, e2]
  exact hw
def ClW (h : Hp) (S : ST) : Prop := LandW h S.1 ∧ LawW h S.2.1 ∧ PartW h 14 (inN S.1) S.2.2.1 ∧ WkW h S.2.2.2 ∧ BkW h S.1 S.2.1
/-- a call of the class: the answer, the state, and the model's cells stay -/
def CC (E : Wd) (d : Nat) (mt : Mt) (args : List Value) (h : Hp) (r : Int32 × ST) : Prop := Cq E d mt (.ref 0 :: args) h (fun v h' => v = some (.int r.1) ∧ ClW h' r.2 ∧ ∀ q, 41 ≤ q → h' q = h q)
theorem PartW.at {h h' : Hp} {o : Nat} {A : Nat → Bool} {ds : Nat → Nat} (hp : PartW h o A ds) (e1 : h' (o + 1) = h (o + 1)) (e2 : h' (o + 2) = h (o + 2)) : PartW h' o A ds := hp.cong e1 e2 (fun _ _ => rfl) (fun _ _ => rfl)
theorem ClW.of {h h' : Hp} {S : ST} (hc : ClW h S) (e : ∀ q, q < 41 → q ≠ 19 → q ≠ 21 → q ≠ 22 → q ≠ 27 → q ≠ 28 → q ≠ 29 → h' q = h q) : ClW h' S := by
  refine ⟨hc.1.of (fun q h1 h2 => e q (by omega) (by omega) (by omega) (by omega) (by omega) (by omega) (by omega)), hc.2.1.of (fun q h1 h2 => e q (by omega) (by omega) (by omega) (by omega) (by omega) (by omega) (by omega)), hc.2.2.1.at (e _ (by omega) (by omega) (by omega) (by omega) (by omega) (by omega) (by omega)) (e _ (by omega) (by omega) (by omega) (by omega) (by omega) (by omega) (by omega)), hc.2.2.2.1.of (e _ (by omega) (by omega) (by omega) (by omega) (by omega) (by omega) (by omega)) (e _ (by omega) (by omega) (by omega) (by omega) (by omega) (by omega) (by omega)), hc.2.2.2.2.of (fun q h1 h2 h3 h4 => e q (by omega) (by omega) h3 h4 (by omega) (by omega) (by omega))⟩
theorem c_forget {E : Wd} (h : Hp) : Cd E 0 m_ClassBook_forget [.ref 20] h none (hup h 20 9 0) := by
  refine Cd_of ok_ClassBook_forget rfl (Nat.le_of_ble_eq_true rfl) (L := [some (.ref 20)]) rfl ?_
  refine V_aload_n d_ClassBook_forget_0 rfl ?_
  refine V_iconst (v := 0) d_ClassBook_forget_1 (by decide) ?_
  refine V_put (ty := .boolean) d_ClassBook_forget_2 f_ClassBook_41 rfl (by first | rfl | assumption) (by first | rfl | assumption) (by decide +kernel) (by first | rfl | assumption) (by first | rfl | assumption) ?_
  refine V_vret d_ClassBook_forget_5 rfl ?_
  exact ⟨rfl, rfl⟩
theorem fgt {h : Hp} {D : LD} {w : LW} : BkW (hup h 20 9 0) D w := BkW.no (by rw [hup_same, upd_s])
theorem c_isTown {E : Wd} (h : Hp) (t : Int32) : Cd E 1 m_DC_isTown [.int t] h (some (.int (if inR t 0 9 then 1 else 0))) h := by
  refine Cd_of ok_DC_isTown rfl (Nat.le_of_ble_eq_true rfl) (L := [some (.int t)]) rfl ?_
  refine V_iload_n d_DC_isTown_0 rfl ?_
  refine V_iconst (v := 0) d_DC_isTown_1 (by decide) ?_
  refine V_bipush (v := 9) d_DC_isTown_2 (by decide) ?_
  refine V_callS1 d_DC_isTown_4 k_DC_82 rfl (c_isWithin h _ _ _) rfl (by first | decide | omega) rfl (Nat.le_of_ble_eq_true rfl) ?_
  exact V_zret d_DC_isTown_7 rfl (by split <;> rfl) ⟨rfl, rfl⟩
theorem c_isMeasure {E : Wd} (h : Hp) (t : Int32) : Cd E 1 m_DC_isMeasure [.int t] h (some (.int (if inR t 0 6 then 1 else 0))) h := by
  refine Cd_of ok_DC_isMeasure rfl (Nat.le_of_ble_eq_true rfl) (L := [some (.int t)]) rfl ?_
  refine V_iload_n d_DC_isMeasure_0 rfl ?_
  refine V_iconst (v := 0) d_DC_isMeasure_1 (by decide) ?_
  refine V_bipush (v := 6) d_DC_isMeasure_2 (by decide) ?_
  refine V_callS1 d_DC_isMeasure_4 k_DC_82 rfl (c_isWithin h _ _ _) rfl (by first | decide | omega) rfl (Nat.le_of_ble_eq_true rfl) ?_
  exact V_zret d_DC_isMeasure_7 rfl (by split <;> rfl) ⟨rfl, rfl⟩
theorem c_Dplace {E : Wd} {h : Hp} {S : ST} (hc : ClW h S) (ok : okST S) (v z o s t : Int32) : CC E 2 m_DC_place [.int v, .int z, .int o, .int s, .int t] h (opPlace S v z o s t) := by
  have hn := ok.1.1
  have no : ¬ okPl v z o s t → V E 2 m_DC_place (fun r h' => r = some (.int (opPlace S v z o s t).1) ∧ ClW h' (opPlace S v z o s t).2 ∧ ∀ q, 41 ≤ q → h' q = h q) 56 [some (.ref 0), some (.int v), some (.int z), some (.int o), some (.int s), some (.int t), none, none] [] h := by
    intro hno
    rw [opPlace_no hno]
    refine V_iconst (v := 0) d_DC_place_56 (by decide) ?_
    refine V_istore d_DC_place_57 (by decide) ?_
    dsimp only [List.set]
    refine V_iload d_DC_place_59 rfl ?_
    refine V_if_ne (tgt := 66) d_DC_place_61 (by decide) (fun b61 => ?_) (fun b61 => ?_)
    · exact absurd rfl b61
    · refine V_iconst (v := -1) d_DC_place_64 (by decide) ?_
      refine V_iret d_DC_place_65 rfl ?_
      exact ⟨rfl, hc, fun _ _ => rfl⟩
  refine Cq_of2 ok_DC_place rfl (Nat.le_of_ble_eq_true rfl) (L := [some (.ref 0), some (.int v), some (.int z), some (.int o), some (.int s), some (.int t), none, none]) rfl ?_
  refine V_iload_n d_DC_place_0 rfl ?_
  refine V_iconst (v := 0) d_DC_place_1 (by decide) ?_
  refine V_sipush (v := 1000) d_DC_place_2 (by decide) ?_
  refine V_callS1 d_DC_place_5 k_DC_82 rfl (c_isWithin h _ _ _) rfl (by first | decide | omega) rfl (Nat.le_of_ble_eq_true rfl) ?_
  refine V_if_eq (tgt := 56) d_DC_place_8 (by decide) (fun b8 => ?_) (fun b8 => ?_)
  · exact no (fun q => p2i.mp b8 q.1)
  · refine V_iload_n d_DC_place_11 rfl ?_
    refine V_iconst (v := 0) d_DC_place_12 (by decide) ?_
    refine V_sipush (v := 1000) d_DC_place_13 (by decide) ?_
    refine V_callS1 d_DC_place_16 k_DC_82 rfl (c_isWithin h _ _ _) rfl (by first | decide | omega) rfl (Nat.le_of_ble_eq_true rfl) ?_
    refine V_if_eq (tgt := 56) d_DC_place_19 (by decide) (fun b19 => ?_) (fun b19 => ?_)
    · exact no (fun q => p2i.mp b19 q.2.1)
    · refine V_iload_n d_DC_place_22 rfl ?_
      refine V_iconst (v := 0) d_DC_place_23 (by decide) ?_
      refine V_sipush (v := 1000) d_DC_place_24 (by decide) ?_
      refine V_callS1 d_DC_place_27 k_DC_82 rfl (c_isWithin h _ _ _) rfl (by first | decide | omega) rfl (Nat.le_of_ble_eq_true rfl) ?_
      refine V_if_eq (tgt := 56) d_DC_place_30 (by decide) (fun b30 => ?_) (fun b30 => ?_)
      · exact no (fun q => p2i.mp b30 q.2.2.1)
      · refine V_iload d_DC_place_33 rfl ?_
        refine V_iconst (v := 1) d_DC_place_35 (by decide) ?_
        refine V_bipush (v := 100) d_DC_place_36 (by decide) ?_
        refine V_callS1 d_DC_place_38 k_DC_82 rfl (c_isWithin h _ _ _) rfl (by first | decide | omega) rfl (Nat.le_of_ble_eq_true rfl) ?_
        refine V_if_eq (tgt := 56) d_DC_place_41 (by decide) (fun b41 => ?_) (fun b41 => ?_)
        · exact no (fun q => p2i.mp b41 q.2.2.2.1)
        · refine V_iload d_DC_place_44 rfl ?_
          refine V_callS1 d_DC_place_46 k_DC_86 rfl (c_isTown h _) rfl (by first | decide | omega) rfl (Nat.le_of_ble_eq_true rfl) ?_
          refine V_if_eq (tgt := 56) d_DC_place_49 (by decide) (fun b49 => ?_) (fun b49 => ?_)
          · exact no (fun q => p2i.mp b49 q.2.2.2.2)
          · have hok : okPl v z o s t := ⟨p2in.mp b8, p2in.mp b19, p2in.mp b30, p2in.mp b41, p2in.mp b49⟩
            obtain ⟨y, hy, rfl⟩ := (inR_nI (n := 9) (by omega)).mp hok.2.2.2.2
            rw [opPlace_yes hok, nI_clamp (by omega)]
            refine V_iconst (v := 1) d_DC_place_52 (by decide) ?_
            refine V_goto (tgt := 57) d_DC_place_53 (by decide) ?_
            refine V_istore d_DC_place_57 (by decide) ?_
            dsimp only [List.set]
            refine V_iload d_DC_place_59 rfl ?_
            refine V_if_ne (tgt := 66) d_DC_place_61 (by decide) (fun b61 => ?_) (fun b61 => ?_)
            · refine V_aload_n d_DC_place_66 rfl ?_
              refine V_getR d_DC_place_67 f_DC_23 rfl (by first | rfl | assumption) (by first | rfl | assumption) ?_
              refine V_getI d_DC_place_70 f_DC_90 rfl (by first | rfl | assumption) (by first | rfl | assumption) ?_
              rw [hc.1.1]
              refine V_bipush (v := 30) d_DC_place_73 (by decide) ?_
              refine V_icmp_lt (tgt := 81) d_DC_place_75 (by decide) (fun b75 => ?_) (fun b75 => ?_)
              · have hlt : dN S.1 < 30 := (lt_nI _ 30 rfl rfl (by omega) (by decide)).mp b75
                rw [if_neg (by omega)]
                refine V_aload_n d_DC_place_81 rfl ?_
                refine V_getR d_DC_place_82 f_DC_23 rfl (by first | rfl | assumption) (by first | rfl | assumption) ?_
                refine V_iload_n d_DC_place_85 rfl ?_
                refine V_iload_n d_DC_place_86 rfl ?_
                refine V_iload_n d_DC_place_87 rfl ?_
                refine V_iload d_DC_place_88 rfl ?_
                refine V_iload d_DC_place_90 rfl ?_
                refine V_callV d_DC_place_92 k_DC_94 rfl (c_addPlace hc.1 ok.1 hlt v z o s (show y < 10 by omega)) (by first | rfl | assumption) rfl rfl (by first | decide | omega) rfl (Nat.le_of_ble_eq_true rfl) (fun v_ h_ q_ => ?_)
                obtain ⟨rfl, q1, q2⟩ := q_
                show V E _ m_DC_place _ 95 _ [.int (nI (dN S.1))] _
                refine V_istore d_DC_place_95 (by decide) ?_
                dsimp only [List.set]
                refine V_aload_n d_DC_place_97 rfl ?_
                refine V_getR d_DC_place_98 f_DC_36 rfl (by first | rfl | assumption) (by first | rfl | assumption) ?_
                refine V_iload d_DC_place_101 rfl ?_
                refine V_iconst (v := 0) d_DC_place_103 (by decide) ?_
                refine V_callV d_DC_place_104 k_DC_98 rfl (c_move _ pt_14 (hc.2.2.1.at (q2 _ (by omega)) (q2 _ (by omega))) hlt (show 0 < 6 by omega)) (by first | rfl | assumption) rfl rfl (by first | decide | omega) rfl (Nat.le_of_ble_eq_true rfl) (fun v_ h_ q_ => ?_)
                obtain ⟨rfl, r1, r2⟩ := q_
                show V E _ m_DC_place _ 107 _ [] _
                refine V_aload_n d_DC_place_107 rfl ?_
                refine V_getR d_DC_place_108 f_DC_53 rfl (by first | rfl | assumption) (by first | rfl | assumption) ?_
                refine V_callV0 d_DC_place_111 k_DC_102 rfl (c_forget _) (by first | rfl | assumption) rfl rfl (by first | decide | omega) rfl (Nat.le_of_ble_eq_true rfl) ?_
                refine V_iload d_DC_place_114 rfl ?_
                refine V_iret d_DC_place_116 rfl ?_
                refine ⟨rfl, ⟨(q1.of (fun q c1 c2 => r2 q (by omega) (by omega))).of (fun q c1 c2 => hup_ne (by omega)), hc.2.1.of (fun q c1 c2 => by rw [hup_ne (by omega), r2 q (by omega) (by omega), q2 q (by omega)]), ?_, hc.2.2.2.1.of (by rw [hup_ne (by omega), r2 _ (by omega) (by omega), q2 _ (by omega)]) (by rw [hup_ne (by omega), r2 _ (by omega) (by omega), q2 _ (by omega)]), fgt⟩, fun q hq => by rw [hup_ne (by omega), r2 q (by omega) (by omega), q2 q (by omega)]⟩
                refine r1.cong (hup_ne (by omega)) (hup_ne (by omega)) (fun j hj => ?_) (fun j hj => ?_)
                · show (decide (j = dN S.1) || decide (j < dN S.1)) = decide (j < dN S.1 + 1)
                  by_cases c : j = dN S.1
                  · rw [c]; simp
                  · rw [decide_eq_false c, Bool.false_or]; exact decide_eq_decide.mpr (by omega)
                · show (if j = dN S.1 then 0 else S.2.2.1 j) = S.2.2.1 j
                  split
                  · rw [ok.2.2.2.1 j (by omega)]
                  · rfl
              · have hge : dN S.1 = 30 := by
                  rcases Nat.lt_or_ge (dN S.1) 30 with z | z
                  · exact absurd ((lt_nI _ 30 rfl rfl (by omega) (by decide)).mpr z) b75
                  · omega
                rw [if_pos hge]
                refine V_bipush (v := -2) d_DC_place_78 (by decide) ?_
                refine V_iret d_DC_place_80 rfl ?_
                exact ⟨rfl, hc, fun _ _ => rfl⟩
            · exact absurd b61 (by decide)
theorem c_Dborder {E : Wd} {h : Hp} {S : ST} (hc : ClW h S) (ok : okST S) (a b l : Int32) : CC E 2 m_DC_border [.int a, .int b, .int l] h (opBorder S a b l) := by
  have hn := ok.1.1
  have hb100 := ok.1.2.1
  have no1 : ¬ okBo S.1 a b l → V E 2 m_DC_border (fun r h' => r = some (.int (opBorder S a b l).1) ∧ ClW h' (opBorder S a b l).2 ∧ ∀ q, 41 ≤ q → h' q = h q) 27 [some (.ref 0), some (.int a), some (.int b), some (.int l)] [] h := by
    intro hno
    rw [opBorder_no hno]
    refine V_iconst (v := -1) d_DC_border_27 (by decide) ?_
    refine V_iret d_DC_border_28 rfl ?_
    exact ⟨rfl, hc, fun _ _ => rfl⟩
  have no2 : ¬ okBo S.1 a b l → V E 2 m_DC_border (fun r h' => r = some (.int (opBorder S a b l).1) ∧ ClW h' (opBorder S a b l).2 ∧ ∀ q, 41 ≤ q → h' q = h q) 55 [some (.ref 0), some (.int a), some (.int b), some (.int l)] [] h := by
    intro hno
    rw [opBorder_no hno]
    refine V_iconst (v := -1) d_DC_border_55 (by decide) ?_
    refine V_iret d_DC_border_56 rfl ?_
    exact ⟨rfl, hc, fun _ _ => rfl⟩
  refine Cq_of2 ok_DC_border rfl (Nat.le_of_ble_eq_true rfl) (L := [some (.ref 0), some (.int a), some (.int b), some (.int l)]) rfl ?_
  refine V_aload_n d_DC_border_0 rfl ?_
  refine V_getR d_DC_border_1 f_DC_23 rfl (by first | rfl | assumption) (by first | rfl | assumption) ?_
  refine V_iload_n d_DC_border_4 rfl ?_
  refine V_callV1 d_DC_border_5 k_DC_105 rfl (c_hasPlace hc.1 ok.1 a) (by first | rfl | assumption) rfl rfl (by first | decide | omega) rfl (Nat.le_of_ble_eq_true rfl) ?_
  refine V_if_eq (tgt := 27) d_DC_border_8 (by decide) (fun b8 => ?_) (fun b8 => ?_)
  · exact no1 (fun q => by have q1 := q.1; rw [b2i.mp b8] at q1; cases q1)
  · obtain ⟨i, hi, rfl⟩ := isPl_iff.mp (b2in.mp b8)
    refine V_aload_n d_DC_border_11 rfl ?_
    refine V_getR d_DC_border_12 f_DC_23 rfl (by first | rfl | assumption) (by first | rfl | assumption) ?_
    refine V_iload_n d_DC_border_15 rfl ?_
    refine V_callV1 d_DC_border_16 k_DC_105 rfl (c_hasPlace hc.1 ok.1 b) (by first | rfl | assumption) rfl rfl (by first | decide | omega) rfl (Nat.le_of_ble_eq_true rfl) ?_
    refine V_if_eq (tgt := 27) d_DC_border_19 (by decide) (fun b19 => ?_) (fun b19 => ?_)
    · exact no1 (fun q => by have q1 := q.2.1; rw [b2i.mp b19] at q1; cases q1)
    · obtain ⟨j, hj, rfl⟩ := isPl_iff.mp (b2in.mp b19)
      have ei : (nI i).toNatClampNeg = i := nI_clamp (by omega)
      have ej : (nI j).toNatClampNeg = j := nI_clamp (by omega)
      have hini : vp_in (nI i) 30 := vp_in_nI (by omega) (by omega)
      obtain ⟨l1, l2, l3, l4, l5, l6, l7⟩ := id hc.1
      refine V_iload_n d_DC_border_22 rfl ?_
      refine V_iload_n d_DC_border_23 rfl ?_
      refine V_icmp_ne (tgt := 29) d_DC_border_24 (by decide) (fun b24 => ?_) (fun b24 => ?_)
      · have hij : i ≠ j := fun q => b24 (by rw [q])
        refine V_iload_n d_DC_border_29 rfl ?_
        refine V_iconst (v := 1) d_DC_border_30 (by decide) ?_
        refine V_bipush (v := 100) d_DC_border_31 (by decide) ?_
        refine V_callS1 d_DC_border_33 k_DC_82 rfl (c_isWithin h _ _ _) rfl (by first | decide | omega) rfl (Nat.le_of_ble_eq_true rfl) ?_
        refine V_if_eq (tgt := 55) d_DC_border_36 (by decide) (fun b36 => ?_) (fun b36 => ?_)
        · exact no2 (fun q => p2i.mp b36 q.2.2.2.2)
        · refine V_aload_n d_DC_border_39 rfl ?_
          refine V_getR d_DC_border_40 f_DC_23 rfl (by first | rfl | assumption) (by first | rfl | assumption) ?_
          refine V_getR d_DC_border_43 f_DC_108 rfl (by first | rfl | assumption) (by first | rfl | assumption) ?_
          refine V_iload_n d_DC_border_46 rfl ?_
          refine V_iald d_DC_border_47 (by first | rfl | assumption) (by first | assumption | exact vp_in_nI (by omega) (by omega)) ?_
          refine V_iload_n d_DC_border_48 rfl ?_
          rw [ei, l6 i (by omega)]
          refine V_callS1 d_DC_border_49 k_DC_112 rfl (c_has h _ (show j < 30 by omega)) rfl (by first | decide | omega) rfl (Nat.le_of_ble_eq_true rfl) ?_
          have eh : bt (cI (dNb S.1 i)) (29 - j) = dNb S.1 i j := cI_cs (dNb S.1 i) (by omega)
          rw [eh]
          refine V_if_eq (tgt := 57) d_DC_border_52 (by decide) (fun b52 => ?_) (fun b52 => ?_)
          · have hok : okBo S.1 (nI i) (nI j) l := ⟨b2in.mp b8, b2in.mp b19, b24, by rw [ei, ej]; exact b2i.mp b52, p2in.mp b36⟩
            rw [opBorder_yes hok, ei, ej]
            refine V_aload_n d_DC_border_57 rfl ?_
            refine V_getR d_DC_border_58 f_DC_23 rfl (by first | rfl | assumption) (by first | rfl | assumption) ?_
            refine V_getI d_DC_border_61 f_DC_118 rfl (by first | rfl | assumption) (by first | rfl | assumption) ?_
            rw [l2]
            refine V_bipush (v := 100) d_DC_border_64 (by decide) ?_
            refine V_icmp_lt (tgt := 72) d_DC_border_66 (by decide) (fun b66 => ?_) (fun b66 => ?_)
            · have hlt : dB S.1 < 100 := (lt_nI _ 100 rfl rfl (by omega) (by decide)).mp b66
              rw [if_neg (by omega)]
              refine V_aload_n d_DC_border_72 rfl ?_
              refine V_getR d_DC_border_73 f_DC_53 rfl (by first | rfl | assumption) (by first | rfl | assumption) ?_
              refine V_callV0 d_DC_border_76 k_DC_102 rfl (c_forget _) (by first | rfl | assumption) rfl rfl (by first | decide | omega) rfl (Nat.le_of_ble_eq_true rfl) ?_
              refine V_aload_n d_DC_border_79 rfl ?_
              refine V_getR d_DC_border_80 f_DC_23 rfl (by first | rfl | assumption) (by first | rfl | assumption) ?_
              refine V_iload_n d_DC_border_83 rfl ?_
              refine V_iload_n d_DC_border_84 rfl ?_
              refine V_iload_n d_DC_border_85 rfl ?_
              refine V_callV d_DC_border_86 k_DC_121 rfl (c_addBorder (hc.1.of (fun q c1 c2 => hup_ne (by omega))) ok.1 hlt (show i < 30 by omega) (show j < 30 by omega) hij l) (by first | rfl | assumption) rfl rfl (by first | decide | omega) rfl (Nat.le_of_ble_eq_true rfl) (fun v_ h_ q_ => ?_)
              obtain ⟨rfl, q1, q2⟩ := q_
              show V E _ m_DC_border _ 89 _ [.int (nI (dB S.1))] _
              refine V_iret d_DC_border_89 rfl ?_
              refine ⟨rfl, ⟨q1, hc.2.1.of (fun q c1 c2 => by rw [q2 q (by omega), hup_ne (by omega)]), hc.2.2.1.at (by rw [q2 _ (by omega), hup_ne (by omega)]) (by rw [q2 _ (by omega), hup_ne (by omega)]), hc.2.2.2.1.of (by rw [q2 _ (by omega), hup_ne (by omega)]) (by rw [q2 _ (by omega), hup_ne (by omega)]), BkW.no (by rw [q2 _ (by omega), hup_same, upd_s])⟩, fun q hq => by rw [q2 q (by omega), hup_ne (by omega)]⟩
            · have hge : dB S.1 = 100 := by
                rcases Nat.lt_or_ge (dB S.1) 100 with z | z
                · exact absurd ((lt_nI _ 100 rfl rfl (by omega) (by decide)).mpr z) b66
                · omega
              rw [if_pos hge]
              refine V_bipush (v := -2) d_DC_border_69 (by decide) ?_
              refine V_iret d_DC_border_71 rfl ?_
              exact ⟨rfl, hc, fun _ _ => rfl⟩
          · refine no2 (fun q => ?_)
            have := q.2.2.2.1
            rw [ei, ej, b2in.mp b52] at this
            cases this
      · exact no1 (fun q => q.2.2.1 b24)
theorem c_Dlaw {E : Wd} {h : Hp} {S : ST} (hc : ClW h S) (ok : okST S) (k t : Int32) : CC E 2 m_DC_law [.int k, .int t] h (opLaw S k t) := by
  have no : ¬ (inR k 1 6 ∧ inR t 0 1000) → V E 2 m_DC_law (fun r h' => r = some (.int (opLaw S k t).1) ∧ ClW h' (opLaw S k t).2 ∧ ∀ q, 41 ≤ q → h' q = h q) 21 [some (.ref 0), some (.int k), some (.int t)] [] h := by
    intro hno
    rw [opLaw_no hno]
    refine V_iconst (v := -1) d_DC_law_21 (by decide) ?_
    refine V_iret d_DC_law_22 rfl ?_
    exact ⟨rfl, hc, fun _ _ => rfl⟩
  refine Cq_of2 ok_DC_law rfl (Nat.le_of_ble_eq_true rfl) (L := [some (.ref 0), some (.int k), some (.int t)]) rfl ?_
  refine V_iload_n d_DC_law_0 rfl ?_
  refine V_iconst (v := 1) d_DC_law_1 (by decide) ?_
  refine V_bipush (v := 6) d_DC_law_2 (by decide) ?_
  refine V_callS1 d_DC_law_4 k_DC_82 rfl (c_isWithin h _ _ _) rfl (by first | decide | omega) rfl (Nat.le_of_ble_eq_true rfl) ?_
  refine V_if_eq (tgt := 21) d_DC_law_7 (by decide) (fun b7 => ?_) (fun b7 => ?_)
  · exact no (fun q => p2i.mp b7 q.1)
  · refine V_iload_n d_DC_law_10 rfl ?_
    refine V_iconst (v := 0) d_DC_law_11 (by decide) ?_
    refine V_sipush (v := 1000) d_DC_law_12 (by decide) ?_
    refine V_callS1 d_DC_law_15 k_DC_82 rfl (c_isWithin h _ _ _) rfl (by first | decide | omega) rfl (Nat.le_of_ble_eq_true rfl) ?_
    refine V_if_ne (tgt := 23) d_DC_law_18 (by decide) (fun b18 => ?_) (fun b18 => ?_)
    · have hok : inR k 1 6 ∧ inR t 0 1000 := ⟨p2in.mp b7, p2in.mp b18⟩
      rw [opLaw_yes hok]
      obtain ⟨k', hk1, hk6, rfl⟩ := inR_pos (n := 6) (by omega) hok.1
      obtain ⟨t', ht', rfl⟩ := (inR_nI (n := 1000) (by omega)).mp hok.2
      rw [nI_clamp (by omega), nI_clamp (by omega)]
      refine V_aload_n d_DC_law_23 rfl ?_
      refine V_getR d_DC_law_24 f_DC_29 rfl (by first | rfl | assumption) (by first | rfl | assumption) ?_
      refine V_iload_n d_DC_law_27 rfl ?_
      refine V_put (ty := .int) d_DC_law_28 f_DC_125 rfl (by first | rfl | assumption) (by first | rfl | assumption) (by decide +kernel) (by first | rfl | assumption) (by first | rfl | assumption) ?_
      refine V_aload_n d_DC_law_31 rfl ?_
      refine V_getR d_DC_law_32 f_DC_29 rfl (by first | rfl | assumption) (by first | rfl | assumption) ?_
      refine V_iload_n d_DC_law_35 rfl ?_
      refine V_put (ty := .int) d_DC_law_36 f_DC_128 rfl (by first | rfl | assumption) (by first | rfl | assumption) (by decide +kernel) (by first | rfl | assumption) (by first | rfl | assumption) ?_
      refine V_aload_n d_DC_law_39 rfl ?_
      refine V_getR d_DC_law_40 f_DC_29 rfl (by first | rfl | assumption) (by first | rfl | assumption) ?_
      refine V_callV0 d_DC_law_43 k_DC_131 rfl (c_fixNothing) (by first | rfl | assumption) rfl rfl (by first | decide | omega) rfl (Nat.le_of_ble_eq_true rfl) ?_
      refine V_aload_n d_DC_law_46 rfl ?_
      refine V_getR d_DC_law_47 f_DC_36 rfl (by first | rfl | assumption) (by first | rfl | assumption) ?_
      refine V_aload_n d_DC_law_50 rfl ?_
      refine V_getR d_DC_law_51 f_DC_23 rfl (by first | rfl | assumption) (by first | rfl | assumption) ?_
      have hl : LandW (hrow (hup (hup h 11 0 (nI k')) 11 1 (nI t')) 13 (fa_fill (fun _ => -1) ((hup (hup h 11 0 (nI k')) 11 1 (nI t')) 13) 30)) S.1 := hc.1.of (fun q c1 c2 => by rw [hrow_ne (by omega), hup_ne (by omega), hup_ne (by omega)])
      refine V_callV1 d_DC_law_54 k_DC_134 rfl (c_everywhere hl ok.1) (by first | rfl | assumption) rfl rfl (by first | decide | omega) rfl (Nat.le_of_ble_eq_true rfl) ?_
      refine V_callV d_DC_law_57 k_DC_138 rfl (c_gather _ pt_14 (inN S.1)) (by first | rfl | assumption) rfl rfl (by first | decide | omega) rfl (Nat.le_of_ble_eq_true rfl) (fun v_ h_ q_ => ?_)
      obtain ⟨rfl, r1, r2⟩ := q_
      show V E _ m_DC_law _ 60 _ [] _
      refine V_aload_n d_DC_law_60 rfl ?_
      refine V_getR d_DC_law_61 f_DC_53 rfl (by first | rfl | assumption) (by first | rfl | assumption) ?_
      refine V_callV0 d_DC_law_64 k_DC_102 rfl (c_forget _) (by first | rfl | assumption) rfl rfl (by first | decide | omega) rfl (Nat.le_of_ble_eq_true rfl) ?_
      refine V_iconst (v := 1) d_DC_law_67 (by decide) ?_
      refine V_iret d_DC_law_68 rfl ?_
      have e : ∀ q, q ≠ 15 → q ≠ 16 → q ≠ 20 → hup h_ 20 9 0 q = (hrow (hup (hup h 11 0 (nI k')) 11 1 (nI t')) 13 (fa_fill (fun _ => -1) ((hup (hup h 11 0 (nI k')) 11 1 (nI t')) 13) 30)) q := fun q c1 c2 c3 => by rw [hup_ne c3, r2 q c1 c2]
      have e2 : ∀ q, q ≠ 15 → q ≠ 16 → q ≠ 20 → q ≠ 11 → q ≠ 13 → hup h_ 20 9 0 q = h q := fun q c1 c2 c3 c4 c5 => by rw [e q c1 c2 c3, hrow_ne c5, hup_ne c4, hup_ne c4]
      refine ⟨rfl, ⟨hc.1.of (fun q c1 c2 => e2 q (by omega) (by omega) (by omega) (by omega) (by omega)), ⟨?_, ?_, ?_, fun s hs => ?_, fun p hp => ?_⟩, r1.at (hup_ne (by omega)) (hup_ne (by omega)), hc.2.2.2.1.of (e2 _ (by omega) (by omega) (by omega) (by omega) (by omega)) (e2 _ (by omega) (by omega) (by omega) (by omega) (by omega)), fgt⟩, fun q hq => e2 q (by omega) (by omega) (by omega) (by omega) (by omega)⟩
      · rw [e _ (by omega) (by omega) (by omega), hrow_ne (by omega), hup_same, upd_n (by omega), hup_same, upd_s]; rfl
      · rw [e _ (by omega) (by omega) (by omega), hrow_ne (by omega), hup_same, upd_s]; rfl
      · rw [e _ (by omega) (by omega) (by omega), hrow_ne (by omega), hup_same, upd_n (by omega), hup_same, upd_n (by omega)]; exact hc.2.1.2.2.1
      · rw [e2 _ (by omega) (by omega) (by omega) (by omega) (by omega)]; exact hc.2.1.2.2.2.1 s hs
      · rw [e _ (by omega) (by omega) (by omega), hrow_same, fa_fill_in hp]; rfl
    · exact no (fun q => p2i.mp b18 q.2)
theorem c_Dkeep {E : Wd} {h : Hp} {S : ST} (hc : ClW h S) (ok : okST S) (t is : Int32) : CC E 2 m_DC_keep [.int t, .int is] h (opKeep S t is) := by
  have no : ¬ (inR t 0 9 ∧ inR is 0 1) → V E 2 m_DC_keep (fun r h' => r = some (.int (opKeep S t is).1) ∧ ClW h' (opKeep S t is).2 ∧ ∀ q, 41 ≤ q → h' q = h q) 16 [some (.ref 0), some (.int t), some (.int is), none] [] h := by
    intro hno
    rw [opKeep_no hno]
    refine V_iconst (v := -1) d_DC_keep_16 (by decide) ?_
    refine V_iret d_DC_keep_17 rfl ?_
    exact ⟨rfl, hc, fun _ _ => rfl⟩
  refine Cq_of2 ok_DC_keep rfl (Nat.le_of_ble_eq_true rfl) (L := [some (.ref 0), some (.int t), some (.int is), none]) rfl ?_
  refine V_iload_n d_DC_keep_0 rfl ?_
  refine V_callS1 d_DC_keep_1 k_DC_86 rfl (c_isTown h _) rfl (by first | decide | omega) rfl (Nat.le_of_ble_eq_true rfl) ?_
  refine V_if_eq (tgt := 16) d_DC_keep_4 (by decide) (fun b4 => ?_) (fun b4 => ?_)
  · exact no (fun q => p2i.mp b4 q.1)
  · refine V_iload_n d_DC_keep_7 rfl ?_
    refine V_iconst (v := 0) d_DC_keep_8 (by decide) ?_
    refine V_iconst (v := 1) d_DC_keep_9 (by decide) ?_
    refine V_callS1 d_DC_keep_10 k_DC_82 rfl (c_isWithin h _ _ _) rfl (by first | decide | omega) rfl (Nat.le_of_ble_eq_true rfl) ?_
    refine V_if_ne (tgt := 18) d_DC_keep_13 (by decide) (fun b13 => ?_) (fun b13 => ?_)
    · have hok : inR t 0 9 ∧ inR is 0 1 := ⟨p2in.mp b4, p2in.mp b13⟩
      rw [opKeep_yes hok]
      obtain ⟨t', ht', rfl⟩ := (inR_nI (n := 9) (by omega)).mp hok.1
      rw [nI_clamp (by omega)]
      have hin : vp_in (nI t') 10 := vp_in_nI (by omega) (by omega)
      obtain ⟨w1, w2, w3, w4, w5⟩ := id hc.2.1
      have sto : ∀ (x : Int32) (b : Bool), x = (if wKp S.2.1 t' then 1 else 0) → decide (is = 1) = b → V E 2 m_DC_keep (fun r h' => r = some (.int (if wKp S.2.1 t' then 1 else 0)) ∧ ClW h' (S.1, ((wK S.2.1, wT S.2.1, wC S.2.1), updA (wKp S.2.1) t' (decide (is = 1)), wFx S.2.1), S.2.2) ∧ ∀ q, 41 ≤ q → h' q = h q) 54 [some (.ref 0), some (.int (nI t')), some (.int is), some (.int x)] [.int (if b then 1 else 0), .int (nI t'), .ref 12] h := by
        intro x b hx hb
        refine V_zast d_DC_keep_54 rfl hin (by cases b <;> decide) ?_
        refine V_aload_n d_DC_keep_55 rfl ?_
        refine V_getR d_DC_keep_56 f_DC_53 rfl (by first | rfl | assumption) (by first | rfl | assumption) ?_
        refine V_callV0 d_DC_keep_59 k_DC_102 rfl (c_forget _) (by first | rfl | assumption) rfl rfl (by first | decide | omega) rfl (Nat.le_of_ble_eq_true rfl) ?_
        refine V_iload_n d_DC_keep_62 rfl ?_
        refine V_iret d_DC_keep_63 rfl ?_
        rw [nI_clamp (by omega), hx, hb]
        refine ⟨rfl, ⟨hc.1.of (fun q c1 c2 => by rw [hup_ne (by omega), hup_ne (by omega)]), ⟨?_, ?_, ?_, fun s hs => ?_, fun p hp => ?_⟩, hc.2.2.1.at (by rw [hup_ne (by omega), hup_ne (by omega)]) (by rw [hup_ne (by omega), hup_ne (by omega)]), hc.2.2.2.1.of (by rw [hup_ne (by omega), hup_ne (by omega)]) (by rw [hup_ne (by omega), hup_ne (by omega)]), fgt⟩, fun q hq => by rw [hup_ne (by omega), hup_ne (by omega)]⟩
        · rw [hup_ne (by omega), hup_ne (by omega)]; exact w1
        · rw [hup_ne (by omega), hup_ne (by omega)]; exact w2
        · rw [hup_ne (by omega), hup_ne (by omega)]; exact w3
        · rw [hup_ne (by omega), hup_same]
          show _ = if updA (wKp S.2.1) t' b s then 1 else 0
          by_cases h1 : s = t'
          · rw [h1, upd_s, updA_same]
          · rw [upd_n h1, updA_ne h1]; exact w4 s hs
        · rw [hup_ne (by omega), hup_ne (by omega)]; exact w5 p hp
      have fin : ∀ x : Int32, x = (if wKp S.2.1 t' then 1 else 0) → V E 2 m_DC_keep (fun r h' => r = some (.int (if wKp S.2.1 t' then 1 else 0)) ∧ ClW h' (S.1, ((wK S.2.1, wT S.2.1, wC S.2.1), updA (wKp S.2.1) t' (decide (is = 1)), wFx S.2.1), S.2.2) ∧ ∀ q, 41 ≤ q → h' q = h q) 36 [some (.ref 0), some (.int (nI t')), some (.int is), some (.int x)] [] h := by
        intro x hx
        refine V_aload_n d_DC_keep_36 rfl ?_
        refine V_getR d_DC_keep_37 f_DC_29 rfl (by first | rfl | assumption) (by first | rfl | assumption) ?_
        refine V_getR d_DC_keep_40 f_DC_142 rfl (by first | rfl | assumption) (by first | rfl | assumption) ?_
        refine V_iload_n d_DC_keep_43 rfl ?_
        refine V_iload_n d_DC_keep_44 rfl ?_
        refine V_iconst (v := 1) d_DC_keep_45 (by decide) ?_
        refine V_icmp_ne (tgt := 53) d_DC_keep_46 (by decide) (fun b46 => ?_) (fun b46 => ?_)
        · refine V_iconst (v := 0) d_DC_keep_53 (by decide) ?_
          exact sto x false hx (decide_eq_false b46)
        · refine V_iconst (v := 1) d_DC_keep_49 (by decide) ?_
          refine V_goto (tgt := 54) d_DC_keep_50 (by decide) ?_
          exact sto x true hx (decide_eq_true b46)
      refine V_aload_n d_DC_keep_18 rfl ?_
      refine V_getR d_DC_keep_19 f_DC_29 rfl (by first | rfl | assumption) (by first | rfl | assumption) ?_
      refine V_getR d_DC_keep_22 f_DC_142 rfl (by first | rfl | assumption) (by first | rfl | assumption) ?_
      refine V_iload_n d_DC_keep_25 rfl ?_
      refine V_zald d_DC_keep_26 (by first | rfl | assumption) (by first | assumption | exact vp_in_nI (by omega) (by omega)) ?_
      rw [nI_clamp (by omega), w4 t' (by omega)]
      refine V_if_eq (tgt := 34) d_DC_keep_27 (by decide) (fun b27 => ?_) (fun b27 => ?_)
      · refine V_iconst (v := 0) d_DC_keep_34 (by decide) ?_
        refine V_istore_n d_DC_keep_35 (by decide) ?_
        dsimp only [List.set]
        exact fin _ (by rw [b2i.mp b27]; rfl)
      · refine V_iconst (v := 1) d_DC_keep_30 (by decide) ?_
        refine V_goto (tgt := 35) d_DC_keep_31 (by decide) ?_
        refine V_istore_n d_DC_keep_35 (by decide) ?_
        dsimp only [List.set]
        exact fin _ (by rw [b2in.mp b27]; rfl)
    · exact no (fun q => p2i.mp b13 q.2)
