/-! the class's mend() -/
def Re (D : LD) (w : LW) : Nat → Nat → (Nat → Nat) → (Nat → Nat) → Prop
  | 0, _, x => fun y => y = x
  | l + 1, a, x => fun y => ∃ p d, a ≤ p ∧ p < dN D ∧ d < wK w ∧ d ≠ x p ∧ Re D w l (p + 1) (setN x p d) y
def Rq (D : LD) (w : LW) (l a p e : Nat) (x y : Nat → Nat) : Prop := ∃ p' d, a ≤ p' ∧ p' < dN D ∧ d < wK w ∧ d ≠ x p' ∧ (p' < p ∨ p' = p ∧ d < e) ∧ Re D w l (p' + 1) (setN x p' d) y
theorem Rm_Re {D : LD} {w : LW} : ∀ l {a : Nat} {x y : Nat → Nat}, Rm D w l a x y ↔ ∃ m, m ≤ l ∧ Re D w m a x y
  | 0, a, x, y => ⟨fun h => ⟨0, Nat.le_refl _, h⟩, fun ⟨m, hm, h⟩ => by rw [show m = 0 by omega] at h; exact h⟩
  | l + 1, a, x, y => by
    constructor
    · rintro (h | ⟨p, d, h1, h2, h3, h4, h5⟩)
      · exact ⟨0, by omega, h⟩
      · obtain ⟨m, hm, h6⟩ := (Rm_Re l).mp h5
        exact ⟨m + 1, by omega, p, d, h1, h2, h3, h4, h6⟩
    · rintro ⟨m, hm, h⟩
      cases m with
      | zero => exact Or.inl h
      | succ m =>
        obtain ⟨p, d, h1, h2, h3, h4, h5⟩ := h
        exact Or.inr ⟨p, d, h1, h2, h3, h4, (Rm_Re l).mpr ⟨m, by omega, h5⟩⟩
theorem Re_mv {D : LD} {w : LW} {ds : Nat → Nat} : ∀ l {a : Nat} {x y : Nat → Nat}, (∀ q, a ≤ q → x q = ds q) → Re D w l a x y → mvC D ds y = mvC D ds x + l ∧ mvP D ds x ≤ mvP D ds y ∧ ∀ q, dN D ≤ q → y q = x q
  | 0, a, x, y, hx, h => by rw [show y = x from h]; exact ⟨rfl, Nat.le_refl _, fun _ _ => rfl⟩
  | l + 1, a, x, y, hx, h => by
    obtain ⟨p, d, h1, h2, h3, h4, h5⟩ := h
    have hxp := hx p h1
    obtain ⟨i1, i2, i3⟩ := Re_mv (ds := ds) l (fun q hq => by rw [show setN x p d q = x q from if_neg (by omega)]; exact hx q (by omega)) h5
    rw [mvC_set h2 hxp (hxp ▸ h4)] at i1
    rw [mvP_set h2 hxp (hxp ▸ h4)] at i2
    exact ⟨by omega, by omega, fun q hq => by rw [i3 q hq]; exact if_neg (by omega)⟩
def bsC (h : Hp) (D : LD) (w : LW) (ds : Nat → Nat) (X : (Nat → Nat) → Prop) : Prop := (h 34 5 = nI 2147483647 ∧ ∀ x, X x → brk D w x ≠ 0) ∨ ∃ b, isB D w ds X b ∧ h 34 5 = nI (mvP D ds b) ∧ h 34 6 = nI (mvC D ds b) ∧ PartW h 38 (inN D) b
theorem bsC.cong {h h' : Hp} {D : LD} {w : LW} {ds : Nat → Nat} {X Y : (Nat → Nat) → Prop} (hb : bsC h D w ds X) (e1 : h' 34 = h 34) (e2 : h' (38 + 1) = h (38 + 1)) (e3 : h' (38 + 2) = h (38 + 2)) (hX : ∀ x, X x ↔ Y x) : bsC h' D w ds Y := by
  have : X = Y := funext (fun x => propext (hX x))
  subst this
  rcases hb with ⟨h1, h2⟩ | ⟨b, h1, h2, h3, h4⟩
  · exact Or.inl ⟨by rw [e1]; exact h1, h2⟩
  · exact Or.inr ⟨b, h1, by rw [e1]; exact h2, by rw [e1]; exact h3, h4.at e2 e3⟩
def tFr (h h' : Hp) : Prop := ∀ q, q ≠ 34 → q ≠ 35 + 1 → q ≠ 35 + 2 → q ≠ 38 + 1 → q ≠ 38 + 2 → h' q = h q
theorem tFr.rf (h : Hp) : tFr h h := fun _ _ _ _ _ _ => rfl
theorem tFr.tr {h h' h2 : Hp} (a : tFr h h') (b : tFr h' h2) : tFr h h2 := fun q h1 h3 h4 h5 h6 => (b q h1 h3 h4 h5 h6).trans (a q h1 h3 h4 h5 h6)
theorem tFr.land {h h' : Hp} {D : LD} (a : tFr h h') (hl : LandW h D) : LandW h' D := hl.of (fun q _ _ => a q (by omega) (by omega) (by omega) (by omega) (by omega))
theorem tFr.law {h h' : Hp} {w : LW} (a : tFr h h') (hl : LawW h w) : LawW h' w := hl.of (fun q _ _ => a q (by omega) (by omega) (by omega) (by omega) (by omega))
theorem c_comesAhead {E : Wd} {h : Hp} {o q : Nat} (ho : isPt o) (hq : isPt q) {A B : Nat → Bool} {x b : Nat → Nat} (hx : PartW h o A x) (hb : PartW h q B b) : Cq E 0 m_Parting_comesAhead [.ref o, .ref q] h (fun v h' => h' = h ∧ ∃ c : Bool, v = some (.int (if c then 1 else 0)) ∧ (c = true ↔ lexL 30 x b)) := by
  obtain ⟨ho0, ho1, ho2⟩ := ho
  obtain ⟨hq0, hq1, hq2⟩ := hq
  refine Cq_of2 ok_Parting_comesAhead rfl (Nat.le_of_ble_eq_true rfl) (L := [some (.ref o), some (.ref q), none]) rfl ?_
  refine V_iconst (v := 0) d_Parting_comesAhead_0 (by decide) ?_
  refine V_istore_n d_Parting_comesAhead_1 (by decide) ?_
  dsimp only [List.set]
  have loop : ∀ i, i ≤ 30 → (∀ j, j < i → x j = b j) → V E 0 m_Parting_comesAhead (fun v h' => h' = h ∧ ∃ c : Bool, v = some (.int (if c then 1 else 0)) ∧ (c = true ↔ lexL 30 x b)) 2 [some (.ref o), some (.ref q), some (.int (nI i))] [] h := by
    refine up_ind 30 ?_
    intro i hi ih heq
    refine V_iload_n d_Parting_comesAhead_2 rfl ?_
    refine V_bipush (v := 30) d_Parting_comesAhead_3 (by decide) ?_
    refine V_icmp_ge (tgt := 50) d_Parting_comesAhead_5 (by decide) (fun b5 => ?_) (fun b5 => ?_)
    · have hii : i = 30 := ge_eq (N := 30) b5 rfl rfl (by decide) hi
      refine V_iconst (v := 0) d_Parting_comesAhead_50 (by decide) ?_
      refine V_zret d_Parting_comesAhead_51 rfl (by first | rfl | decide | assumption) ?_
      refine ⟨rfl, false, rfl, ⟨fun z => (by cases z), ?_⟩⟩
      rintro ⟨p, h1, h2, -⟩
      have := heq p (by omega)
      omega
    · have hi' := nge_lt (N := 30) b5 rfl rfl (by decide) hi
      have hin : vp_in (nI i) 30 := vp_in_nI (by omega) (by omega)
      have hxi := hx.1 i hi'
      have hbi := hb.1 i hi'
      refine V_aload_n d_Parting_comesAhead_8 rfl ?_
      refine V_getR d_Parting_comesAhead_9 f_Parting_9 rfl (by first | rfl | assumption) (by first | rfl | assumption) ?_
      refine V_iload_n d_Parting_comesAhead_12 rfl ?_
      refine V_iald d_Parting_comesAhead_13 (by first | rfl | assumption) (by first | assumption | exact vp_in_nI (by omega) (by omega)) ?_
      refine V_aload_n d_Parting_comesAhead_14 rfl ?_
      refine V_getR d_Parting_comesAhead_15 f_Parting_9 rfl (by first | rfl | assumption) (by first | rfl | assumption) ?_
      refine V_iload_n d_Parting_comesAhead_18 rfl ?_
      refine V_iald d_Parting_comesAhead_19 (by first | rfl | assumption) (by first | assumption | exact vp_in_nI (by omega) (by omega)) ?_
      rw [nI_clamp (by omega), hxi.2, hbi.2]
      refine V_icmp_eq (tgt := 44) d_Parting_comesAhead_20 (by decide) (fun b20 => ?_) (fun b20 => ?_)
      · have e := (nI_eq (by omega) (by omega)).mp b20
        refine V_iincw (w := 1) d_Parting_comesAhead_44 rfl (by decide) (by decide) ?_
        dsimp only [List.set]
        refine V_goto (tgt := 2) d_Parting_comesAhead_47 (by decide) ?_
        rw [nI_1]
        refine ih hi' (fun j hj => ?_)
        rcases Nat.lt_or_ge j i with z | z
        · exact heq j z
        · rw [show j = i by omega]; exact e
      · have hne : x i ≠ b i := fun z => b20 (by rw [z])
        refine V_aload_n d_Parting_comesAhead_23 rfl ?_
        refine V_getR d_Parting_comesAhead_24 f_Parting_9 rfl (by first | rfl | assumption) (by first | rfl | assumption) ?_
        refine V_iload_n d_Parting_comesAhead_27 rfl ?_
        refine V_iald d_Parting_comesAhead_28 (by first | rfl | assumption) (by first | assumption | exact vp_in_nI (by omega) (by omega)) ?_
        refine V_aload_n d_Parting_comesAhead_29 rfl ?_
        refine V_getR d_Parting_comesAhead_30 f_Parting_9 rfl (by first | rfl | assumption) (by first | rfl | assumption) ?_
        refine V_iload_n d_Parting_comesAhead_33 rfl ?_
        refine V_iald d_Parting_comesAhead_34 (by first | rfl | assumption) (by first | assumption | exact vp_in_nI (by omega) (by omega)) ?_
        rw [nI_clamp (by omega), hxi.2, hbi.2]
        refine V_icmp_ge (tgt := 42) d_Parting_comesAhead_35 (by decide) (fun b35 => ?_) (fun b35 => ?_)
        · have hge := (nI_leI (by omega) (by omega)).mp b35
          refine V_iconst (v := 0) d_Parting_comesAhead_42 (by decide) ?_
          refine V_zret d_Parting_comesAhead_43 rfl (by first | rfl | decide | assumption) ?_
          refine ⟨rfl, false, rfl, ⟨fun z => (by cases z), ?_⟩⟩
          rintro ⟨p, h1, h2, h3⟩
          rcases Nat.lt_trichotomy p i with z | z | z
          · have := heq p z; omega
          · subst z; omega
          · exact absurd (h3 i z) hne
        · have hlt : x i < b i := by
            rcases Nat.lt_or_ge (x i) (b i) with z | z
            · exact z
            · exact absurd ((nI_leI (by omega) (by omega)).mpr z) b35
          refine V_iconst (v := 1) d_Parting_comesAhead_38 (by decide) ?_
          refine V_goto (tgt := 43) d_Parting_comesAhead_39 (by decide) ?_
          refine V_zret d_Parting_comesAhead_43 rfl (by first | rfl | decide | assumption) ?_
          exact ⟨rfl, true, rfl, ⟨fun _ => ⟨i, hi', hlt, heq⟩, fun _ => rfl⟩⟩
  exact loop 0 (by omega) (fun j hj => absurd hj (Nat.not_lt_zero j))
/-- what is asked of those that were tried -/
def okX (D : LD) (ds : Nat → Nat) (m : Nat) (X : (Nat → Nat) → Prop) : Prop := ∀ z, X z → mvC D ds z ≤ m ∧ ∀ q, dN D ≤ q → z q = ds q
theorem lex_30 {D : LD} (hN : dN D ≤ 30) {x b : Nat → Nat} (h : ∀ q, dN D ≤ q → x q = b q) : lexL 30 x b ↔ lexL (dN D) x b := by
  constructor
  · rintro ⟨p, h1, h2, h3⟩
    refine ⟨p, ?_, h2, h3⟩
    rcases Nat.lt_or_ge p (dN D) with z | z
    · exact z
    · have := h p z; omega
  · rintro ⟨p, h1, h2, h3⟩
    exact ⟨p, by omega, h2, h3⟩
theorem c_isBetterM {E : Wd} {h : Hp} {D : LD} {w : LW} (ok : okLD D) {ds x : Nat → Nat} (hx : PartW h 35 (inN D) x) (hxo : ∀ q, dN D ≤ q → x q = ds q) {m : Nat} (hm : mvC D ds x = m) {X : (Nat → Nat) → Prop} (hX : okX D ds m X) (hb : bsC h D w ds X) : Cq E 1 m_Mender_isBetter [.ref 34, .int (nI m), .int (nI (mvP D ds x))] h (fun v h' => h' = h ∧ ∃ c : Bool, v = some (.int (if c then 1 else 0)) ∧ (c = true ↔ ∀ b, isB D w ds X b → h 34 5 = nI (mvP D ds b) → h 34 6 = nI (mvC D ds b) → keyL D ds x b)) := by
  have hPx := mvP_le ok ds x
  have hCx := mvC_le ok ds x
  have hN := ok.1
  obtain ⟨Q, hQ⟩ : ∃ Q : Option Value → Hp → Prop, Q = (fun v h' => h' = h ∧ ∃ c : Bool, v = some (.int (if c then 1 else 0)) ∧ (c = true ↔ ∀ b, isB D w ds X b → h 34 5 = nI (mvP D ds b) → h 34 6 = nI (mvC D ds b) → keyL D ds x b)) := ⟨_, rfl⟩
  rw [← hQ]
  refine Cq_of2 ok_Mender_isBetter rfl (Nat.le_of_ble_eq_true rfl) (L := [some (.ref 34), some (.int (nI m)), some (.int (nI (mvP D ds x)))]) rfl ?_
  rcases hb with ⟨hf, hno⟩ | ⟨b, hB, hf, hbm, hpb⟩
  · refine V_iload_n d_Mender_isBetter_0 rfl ?_
    refine V_aload_n d_Mender_isBetter_1 rfl ?_
    refine V_getI d_Mender_isBetter_2 f_Mender_36 rfl (by first | rfl | assumption) (by first | rfl | assumption) ?_
    rw [hf]
    refine V_icmp_lt (tgt := 38) d_Mender_isBetter_5 (by decide) (fun b5 => ?_) (fun b5 => ?_)
    · refine V_iconst (v := 1) d_Mender_isBetter_38 (by decide) ?_
      refine V_goto (tgt := 43) d_Mender_isBetter_39 (by decide) ?_
      refine V_zret d_Mender_isBetter_43 rfl (by first | rfl | decide | assumption) ?_
      rw [hQ]
      exact ⟨rfl, true, rfl, ⟨fun _ b hB _ _ => absurd hB.2.1 (hno b hB.1), fun _ => rfl⟩⟩
    · exact absurd ((nI_ltI (by omega) (by omega)).mpr (by omega)) b5
  · have hPb := mvP_le ok ds b
    have hCb := mvC_le ok ds b
    have hXb := hX b hB.1
    have uni : ∀ b', isB D w ds X b' → h 34 5 = nI (mvP D ds b') → h 34 6 = nI (mvC D ds b') → (keyL D ds x b' ↔ keyL D ds x b) := by
      intro b' hB' hf' hbm'
      have hPb' := mvP_le ok ds b'
      have hCb' := mvC_le ok ds b'
      rw [hf] at hf'
      rw [hbm] at hbm'
      have e1 := (nI_eq (by omega) (by omega)).mp hf'
      have e2 := (nI_eq (by omega) (by omega)).mp hbm'
      have h1 := key_tot (hB'.2.2 b hB.1 hB.2.1) (hB.2.2 b' hB'.1 hB'.2.1)
      unfold keyL lexL
      rw [← e1, ← e2]
      constructor
      · rintro (z | ⟨z1, z | ⟨z2, p, z3, z4, z5⟩⟩)
        · exact Or.inl z
        · exact Or.inr ⟨z1, Or.inl z⟩
        · exact Or.inr ⟨z1, Or.inr ⟨z2, p, z3, by rw [h1.2.2 p z3]; exact z4, fun q hq => by rw [h1.2.2 q (by omega)]; exact z5 q hq⟩⟩
      · rintro (z | ⟨z1, z | ⟨z2, p, z3, z4, z5⟩⟩)
        · exact Or.inl z
        · exact Or.inr ⟨z1, Or.inl z⟩
        · exact Or.inr ⟨z1, Or.inr ⟨z2, p, z3, by rw [← h1.2.2 p z3]; exact z4, fun q hq => by rw [← h1.2.2 q (by omega)]; exact z5 q hq⟩⟩
    have fin : ∀ c : Bool, (c = true ↔ keyL D ds x b) → Q (some (.int (if c then 1 else 0))) h := by
      intro c hc
      rw [hQ]
      exact ⟨rfl, c, rfl, hc.trans ⟨fun z b' g1 g2 g3 => (uni b' g1 g2 g3).mpr z, fun z => z b hB hf hbm⟩⟩
    clear hQ
    refine V_iload_n d_Mender_isBetter_0 rfl ?_
    refine V_aload_n d_Mender_isBetter_1 rfl ?_
    refine V_getI d_Mender_isBetter_2 f_Mender_36 rfl (by first | rfl | assumption) (by first | rfl | assumption) ?_
    rw [hf]
    refine V_icmp_lt (tgt := 38) d_Mender_isBetter_5 (by decide) (fun b5 => ?_) (fun b5 => ?_)
    · have hlt := (nI_ltI (by omega) (by omega)).mp b5
      refine V_iconst (v := 1) d_Mender_isBetter_38 (by decide) ?_
      refine V_goto (tgt := 43) d_Mender_isBetter_39 (by decide) ?_
      refine V_zret d_Mender_isBetter_43 rfl (by first | rfl | decide | assumption) ?_
      exact fin true ⟨fun _ => Or.inl hlt, fun _ => rfl⟩
    · have hge : ¬ mvP D ds x < mvP D ds b := fun z => b5 ((nI_ltI (by omega) (by omega)).mpr z)
      refine V_iload_n d_Mender_isBetter_8 rfl ?_
      refine V_aload_n d_Mender_isBetter_9 rfl ?_
      refine V_getI d_Mender_isBetter_10 f_Mender_36 rfl (by first | rfl | assumption) (by first | rfl | assumption) ?_
      rw [hf]
      refine V_icmp_ne (tgt := 42) d_Mender_isBetter_13 (by decide) (fun b13 => ?_) (fun b13 => ?_)
      · have hne : mvP D ds x ≠ mvP D ds b := fun z => b13 (by rw [z])
        refine V_iconst (v := 0) d_Mender_isBetter_42 (by decide) ?_
        refine V_zret d_Mender_isBetter_43 rfl (by first | rfl | decide | assumption) ?_
        exact fin false ⟨fun z => (by cases z), fun z => by rcases z with z | ⟨z, -⟩ <;> omega⟩
      · have heq := (nI_eq (by omega) (by omega)).mp b13
        refine V_iload_n d_Mender_isBetter_16 rfl ?_
        refine V_aload_n d_Mender_isBetter_17 rfl ?_
        refine V_getI d_Mender_isBetter_18 f_Mender_40 rfl (by first | rfl | assumption) (by first | rfl | assumption) ?_
        rw [hbm]
        refine V_icmp_ne (tgt := 42) d_Mender_isBetter_21 (by decide) (fun b21 => ?_) (fun b21 => ?_)
        · have hne : m ≠ mvC D ds b := fun z => b21 (by rw [z])
          refine V_iconst (v := 0) d_Mender_isBetter_42 (by decide) ?_
          refine V_zret d_Mender_isBetter_43 rfl (by first | rfl | decide | assumption) ?_
          exact fin false ⟨fun z => (by cases z), fun z => by rcases z with z | ⟨-, z | ⟨z, -⟩⟩ <;> omega⟩
        · have hmc := (nI_eq (by omega) (by omega)).mp b21
          refine V_aload_n d_Mender_isBetter_24 rfl ?_
          refine V_getR d_Mender_isBetter_25 f_Mender_26 rfl (by first | rfl | assumption) (by first | rfl | assumption) ?_
          refine V_aload_n d_Mender_isBetter_28 rfl ?_
          refine V_getR d_Mender_isBetter_29 f_Mender_30 rfl (by first | rfl | assumption) (by first | rfl | assumption) ?_
          refine V_callV d_Mender_isBetter_32 k_Mender_82 rfl (c_comesAhead pt_t pt_b hx hpb) (by first | rfl | assumption) rfl rfl (by first | decide | omega) rfl (Nat.le_of_ble_eq_true rfl) (fun v_ h_ q_ => ?_)
          obtain ⟨e_, c, rfl, hc⟩ := q_
          rw [e_]
          rw [lex_30 hN (fun q hq => by rw [hxo q hq, hXb.2 q hq])] at hc
          show V E _ m_Mender_isBetter _ 35 _ [.int (if c then 1 else 0)] h
          have hk : c = true ↔ keyL D ds x b := hc.trans ⟨fun z => Or.inr ⟨heq, Or.inr ⟨by omega, z⟩⟩, fun z => by
            rcases z with z | ⟨-, z | ⟨-, z⟩⟩
            · omega
            · omega
            · exact z⟩
          refine V_if_eq (tgt := 42) d_Mender_isBetter_35 (by decide) (fun b35 => ?_) (fun b35 => ?_)
          · rw [b2i.mp b35] at hk
            refine V_iconst (v := 0) d_Mender_isBetter_42 (by decide) ?_
            refine V_zret d_Mender_isBetter_43 rfl (by first | rfl | decide | assumption) ?_
            exact fin false hk
          · rw [b2in.mp b35] at hk
            refine V_iconst (v := 1) d_Mender_isBetter_38 (by decide) ?_
            refine V_goto (tgt := 43) d_Mender_isBetter_39 (by decide) ?_
            refine V_zret d_Mender_isBetter_43 rfl (by first | rfl | decide | assumption) ?_
            exact fin true hk
theorem c_tryMoves {E : Wd} {D : LD} {w : LW} (ok : okLD D) (okw : okLW w) {ds : Nat → Nat} {m : Nat} (hm2 : m ≤ 2) : ∀ l, l ≤ 2 → ∀ {h : Hp} {a : Nat} {x : Nat → Nat} {X : (Nat → Nat) → Prop}, LandW h D → LawW h w → PartW h 35 (inN D) x → okDs D w x → a ≤ dN D → (∀ q, a ≤ q → x q = ds q) → mvC D ds x + l = m → okX D ds m X → bsC h D w ds X → Cq E (6 + l) m_Mender_tryMoves [.ref 34, .int (nI m), .int (nI l), .int (nI a), .int (nI (mvP D ds x))] h (fun v h' => v = none ∧ tFr h h' ∧ PartW h' 35 (inN D) x ∧ bsC h' D w ds (fun y => X y ∨ Re D w l a x y)) := by
  intro l
  have hn := ok.1
  have h6 := okw.2.1
  have prune : ∀ (l : Nat) {h : Hp} {a : Nat} {x : Nat → Nat} {X : (Nat → Nat) → Prop}, (∀ q, a ≤ q → x q = ds q) → bsC h D w ds X → h 34 5 < nI (mvP D ds x) → bsC h D w ds (fun y => X y ∨ Re D w l a x y) := by
    intro l h a x X hx hb hlt
    have hPx := mvP_le ok ds x
    rcases hb with ⟨h1, -⟩ | ⟨b, hB, h2, h3, h4⟩
    · rw [h1] at hlt
      have := (nI_ltI (by omega) (by omega)).mp hlt
      omega
    · have hPb := mvP_le ok ds b
      rw [h2] at hlt
      have hlt := (nI_ltI (by omega) (by omega)).mp hlt
      refine Or.inr ⟨b, ⟨Or.inl hB.1, hB.2.1, fun y hy hb0 hk => ?_⟩, h2, h3, h4⟩
      rcases hy with hy | hy
      · exact hB.2.2 y hy hb0 hk
      · have := (Re_mv l hx hy).2.1
        rcases hk with z | ⟨z, -⟩ <;> omega
  induction l with
  | zero =>
    intro _ h a x X hl hw hp okx ha hx hmc hX hb
    have hPx := mvP_le ok ds x
    have same : bsC h D w ds X → (brk D w x = 0 → ∀ b, isB D w ds X b → ¬ keyL D ds x b) → (brk D w x = 0 → ∃ b, X b ∧ brk D w b = 0) → bsC h D w ds (fun y => X y ∨ Re D w 0 a x y) := by
      intro hb h1 h2
      rcases hb with ⟨g1, g2⟩ | ⟨b, hB, g2, g3, g4⟩
      · refine Or.inl ⟨g1, fun y hy => ?_⟩
        rcases hy with hy | hy
        · exact g2 y hy
        · rw [show y = x from hy]
          intro hb0
          obtain ⟨b, hXb, hb'⟩ := h2 hb0
          exact g2 b hXb hb'
      · refine Or.inr ⟨b, ⟨Or.inl hB.1, hB.2.1, fun y hy hb0 => ?_⟩, g2, g3, g4⟩
        rcases hy with hy | hy
        · exact hB.2.2 y hy hb0
        · rw [show y = x from hy] at hb0 ⊢
          exact h1 hb0 b hB
    refine Cq_of2 ok_Mender_tryMoves rfl (Nat.le_of_ble_eq_true rfl) (L := [some (.ref 34), some (.int (nI m)), some (.int (nI 0)), some (.int (nI a)), some (.int (nI (mvP D ds x))), none, none, none]) rfl ?_
    refine V_iload d_Mender_tryMoves_0 rfl ?_
    refine V_aload_n d_Mender_tryMoves_2 rfl ?_
    refine V_getI d_Mender_tryMoves_3 f_Mender_36 rfl (by first | rfl | assumption) (by first | rfl | assumption) ?_
    refine V_icmp_le (tgt := 10) d_Mender_tryMoves_6 (by decide) (fun b6 => ?_) (fun b6 => ?_)
    · refine V_iload_n d_Mender_tryMoves_10 rfl ?_
      refine V_if_gt (tgt := 61) d_Mender_tryMoves_11 (by decide) (fun b11 => ?_) (fun b11 => ?_)
      · exact absurd b11 (by decide)
      · refine V_aload_n d_Mender_tryMoves_14 rfl ?_
        refine V_iload_n d_Mender_tryMoves_15 rfl ?_
        refine V_iload d_Mender_tryMoves_16 rfl ?_
        refine V_callV d_Mender_tryMoves_18 k_Mender_51 rfl (c_isBetterM ok hp (fun q hq => hx q (by omega)) (by omega : mvC D ds x = m) hX hb) (by first | rfl | assumption) rfl rfl (by first | decide | omega) rfl (Nat.le_of_ble_eq_true rfl) (fun v_ h_ q_ => ?_)
        obtain ⟨e_, c, rfl, hc⟩ := q_
        rw [e_]
        show V E _ m_Mender_tryMoves _ 21 _ [.int (if c then 1 else 0)] h
        clear e_
        refine V_if_eq (tgt := 60) d_Mender_tryMoves_21 (by decide) (fun b21 => ?_) (fun b21 => ?_)
        · have hc0 := b2i.mp b21
          refine V_vret d_Mender_tryMoves_60 rfl ?_
          refine ⟨rfl, tFr.rf _, hp, ?_⟩
          rcases id hb with ⟨g1, g2⟩ | ⟨b, hB, g2, g3, g4⟩
          · exfalso
            rw [hc0] at hc
            have := hc.mpr (fun b hB _ _ => absurd hB.2.1 (g2 b hB.1))
            cases this
          · refine Or.inr ⟨b, ⟨Or.inl hB.1, hB.2.1, fun y hy hb0 hk => ?_⟩, g2, g3, g4⟩
            rcases hy with hy | hy
            · exact hB.2.2 y hy hb0 hk
            · rw [show y = x from hy] at hk
              rw [hc0] at hc
              have := hc.mpr (fun b' hB' f' m' => ?_)
              · cases this
              · have hPb := mvP_le ok ds b
                have hCb := mvC_le ok ds b
                have hPb' := mvP_le ok ds b'
                have hCb' := mvC_le ok ds b'
                rw [g2] at f'
                rw [g3] at m'
                have e1 := (nI_eq (by omega) (by omega)).mp f'
                have e2 := (nI_eq (by omega) (by omega)).mp m'
                have t := key_tot (hB'.2.2 b hB.1 hB.2.1) (hB.2.2 b' hB'.1 hB'.2.1)
                rcases hk with z | ⟨z1, z | ⟨z2, p, z3, z4, z5⟩⟩
                · exact Or.inl (by omega)
                · exact Or.inr ⟨by omega, Or.inl (by omega)⟩
                · exact Or.inr ⟨by omega, Or.inr ⟨by omega, p, z3, by rw [← t.2.2 p z3]; exact z4, fun q hq => by rw [← t.2.2 q (by omega)]; exact z5 q hq⟩⟩
        · have hc1 := b2in.mp b21
          have hkey := hc.mp hc1
          refine V_aload_n d_Mender_tryMoves_24 rfl ?_
          refine V_getR d_Mender_tryMoves_25 f_Mender_19 rfl (by first | rfl | assumption) (by first | rfl | assumption) ?_
          refine V_aload_n d_Mender_tryMoves_28 rfl ?_
          refine V_getR d_Mender_tryMoves_29 f_Mender_26 rfl (by first | rfl | assumption) (by first | rfl | assumption) ?_
          refine V_callV1 d_Mender_tryMoves_32 k_Mender_55 rfl (c_allows hl ok hw okw pt_t hp okx) (by first | rfl | assumption) rfl rfl (by first | decide | omega) rfl (Nat.le_of_ble_eq_true rfl) ?_
          refine V_if_eq (tgt := 60) d_Mender_tryMoves_35 (by decide) (fun b35 => ?_) (fun b35 => ?_)
          · refine V_vret d_Mender_tryMoves_60 rfl ?_
            have hnb := p2i.mp b35
            exact ⟨rfl, tFr.rf _, hp, same hb (fun z => absurd z hnb) (fun z => absurd z hnb)⟩
          · have hb0 := p2in.mp b35
            refine V_aload_n d_Mender_tryMoves_38 rfl ?_
            refine V_iload d_Mender_tryMoves_39 rfl ?_
            refine V_put (ty := .int) d_Mender_tryMoves_41 f_Mender_36 rfl (by first | rfl | assumption) (by first | rfl | assumption) (by decide +kernel) (by first | rfl | assumption) (by first | rfl | assumption) ?_
            refine V_aload_n d_Mender_tryMoves_44 rfl ?_
            refine V_iload_n d_Mender_tryMoves_45 rfl ?_
            refine V_put (ty := .int) d_Mender_tryMoves_46 f_Mender_40 rfl (by first | rfl | assumption) (by first | rfl | assumption) (by decide +kernel) (by first | rfl | assumption) (by first | rfl | assumption) ?_
            refine V_aload_n d_Mender_tryMoves_49 rfl ?_
            refine V_getR d_Mender_tryMoves_50 f_Mender_30 rfl (by first | rfl | assumption) (by first | rfl | assumption) ?_
            refine V_aload_n d_Mender_tryMoves_53 rfl ?_
            refine V_getR d_Mender_tryMoves_54 f_Mender_26 rfl (by first | rfl | assumption) (by first | rfl | assumption) ?_
            refine V_callV d_Mender_tryMoves_57 k_Mender_43 rfl (c_become _ pt_b pt_t (by omega) (by omega) (by omega) (hp.at (by rw [hup_ne (by omega), hup_ne (by omega)]) (by rw [hup_ne (by omega), hup_ne (by omega)]))) (by first | rfl | assumption) rfl rfl (by first | decide | omega) rfl (Nat.le_of_ble_eq_true rfl) (fun v_ h_ q_ => ?_)
            obtain ⟨rfl, r1, r2⟩ := q_
            show V E _ m_Mender_tryMoves _ 60 _ [] _
            refine V_vret d_Mender_tryMoves_60 rfl ?_
            rename Hp => h2
            have fr : tFr h h2 := by
              intro q c1 c2 c3 c4 c5
              rw [r2 q c4 c5, hup_ne c1, hup_ne c1]
            refine ⟨rfl, fr, hp.at (by rw [r2 _ (by omega) (by omega), hup_ne (by omega), hup_ne (by omega)]) (by rw [r2 _ (by omega) (by omega), hup_ne (by omega), hup_ne (by omega)]), Or.inr ⟨x, ⟨Or.inr rfl, hb0, fun y hy hy0 hk => ?_⟩, ?_, ?_, r1⟩⟩
            · rcases hy with hy | hy
              · rcases id hb with ⟨g1, g2⟩ | ⟨b, hB, g2, g3, g4⟩
                · exact g2 y hy hy0
                · exact hB.2.2 y hy hy0 (key_trans hk (hkey b hB g2 g3))
              · rw [show y = x from hy] at hk
                exact key_irr hk hk
            · rw [r2 _ (by omega) (by omega), hup_same, upd_n (by omega), hup_same, upd_s]
            · rw [r2 _ (by omega) (by omega), hup_same, upd_s, show mvC D ds x = m by omega]
    · refine V_vret d_Mender_tryMoves_9 rfl ?_
      exact ⟨rfl, tFr.rf h, hp, prune 0 hx hb (fa_of_nle b6)⟩
  | succ l ih =>
    intro hl2 h a x X hl hw hp okx ha hx hmc hX hb
    refine Cq_of2 ok_Mender_tryMoves rfl (Nat.le_of_ble_eq_true rfl) (L := [some (.ref 34), some (.int (nI m)), some (.int (nI (l + 1))), some (.int (nI a)), some (.int (nI (mvP D ds x))), none, none, none]) rfl ?_
    refine V_iload d_Mender_tryMoves_0 rfl ?_
    refine V_aload_n d_Mender_tryMoves_2 rfl ?_
    refine V_getI d_Mender_tryMoves_3 f_Mender_36 rfl (by first | rfl | assumption) (by first | rfl | assumption) ?_
    refine V_icmp_le (tgt := 10) d_Mender_tryMoves_6 (by decide) (fun b6 => ?_) (fun b6 => ?_)
    · refine V_iload_n d_Mender_tryMoves_10 rfl ?_
      refine V_if_gt (tgt := 61) d_Mender_tryMoves_11 (by decide) (fun b11 => ?_) (fun b11 => ?_)
      · refine V_iload_n d_Mender_tryMoves_61 rfl ?_
        refine V_istore d_Mender_tryMoves_62 (by decide) ?_
        dsimp only [List.set]
        have outer : ∀ i, i ≤ dN D → a ≤ i → ∀ (H : Hp) u6 u7, tFr h H → PartW H 35 (inN D) x → bsC H D w ds (fun y => X y ∨ Rq D w l a i 0 x y) → V E (6 + (l + 1)) m_Mender_tryMoves (fun v h' => v = none ∧ tFr h h' ∧ PartW h' 35 (inN D) x ∧ bsC h' D w ds (fun y => X y ∨ Re D w (l + 1) a x y)) 64 [some (.ref 34), some (.int (nI m)), some (.int (nI (l + 1))), some (.int (nI a)), some (.int (nI (mvP D ds x))), some (.int (nI i)), u6, u7] [] H := by
          refine up_ind (dN D) ?_
          intro i hi ihi hai H u6 u7 frH hpH hbH
          have hlH := frH.land hl
          have hwH := frH.law hw
          refine V_iload d_Mender_tryMoves_64 rfl ?_
          refine V_aload_n d_Mender_tryMoves_66 rfl ?_
          refine V_getR d_Mender_tryMoves_67 f_Mender_9 rfl (by first | rfl | assumption) (by first | rfl | assumption) ?_
          refine V_getI d_Mender_tryMoves_70 f_Mender_61 rfl (by first | rfl | assumption) (by first | rfl | assumption) ?_
          rw [hlH.1]
          refine V_icmp_ge (tgt := 169) d_Mender_tryMoves_73 (by decide) (fun b73 => ?_) (fun b73 => ?_)
          · obtain rfl := ge_eq b73 rfl rfl (by omega) hi
            refine V_vret d_Mender_tryMoves_169 rfl ?_
            refine ⟨rfl, frH, hpH, hbH.cong rfl rfl rfl (fun y => ?_)⟩
            constructor
            · rintro (z | ⟨p, d, z1, z2, z3, z4, -, z5⟩)
              · exact Or.inl z
              · exact Or.inr ⟨p, d, z1, z2, z3, z4, z5⟩
            · rintro (z | ⟨p, d, z1, z2, z3, z4, z5⟩)
              · exact Or.inl z
              · exact Or.inr ⟨p, d, z1, z2, z3, z4, Or.inl z2, z5⟩
          · have hin' := nge_lt b73 rfl rfl (by omega) hi
            have hin : vp_in (nI i) 30 := vp_in_nI (by omega) (by omega)
            have hxi := hpH.1 i (by omega)
            have hxd := hx i hai
            have ihi := ihi hin' (by omega)
            have hpe := pe_nI ok hin'
            have hPx := mvP_le ok ds x
            have hCx := mvC_le ok ds x
            refine V_aload_n d_Mender_tryMoves_76 rfl ?_
            refine V_getR d_Mender_tryMoves_77 f_Mender_26 rfl (by first | rfl | assumption) (by first | rfl | assumption) ?_
            refine V_getR d_Mender_tryMoves_80 f_Mender_66 rfl (by first | rfl | assumption) (by first | rfl | assumption) ?_
            refine V_iload d_Mender_tryMoves_83 rfl ?_
            refine V_iald d_Mender_tryMoves_85 (by first | rfl | assumption) (by first | assumption | exact vp_in_nI (by omega) (by omega)) ?_
            rw [nI_clamp (by omega), hxi.2]
            refine V_istore d_Mender_tryMoves_86 (by decide) ?_
            dsimp only [List.set]
            refine V_iconst (v := 0) d_Mender_tryMoves_88 (by decide) ?_
            refine V_istore d_Mender_tryMoves_89 (by decide) ?_
            dsimp only [List.set]
            have inner : ∀ e, e ≤ wK w → ∀ (H : Hp) c, c < wK w → tFr h H → PartW H 35 (inN D) (setN x i c) → bsC H D w ds (fun y => X y ∨ Rq D w l a i e x y) → V E (6 + (l + 1)) m_Mender_tryMoves (fun v h' => v = none ∧ tFr h h' ∧ PartW h' 35 (inN D) x ∧ bsC h' D w ds (fun y => X y ∨ Re D w (l + 1) a x y)) 91 [some (.ref 34), some (.int (nI m)), some (.int (nI (l + 1))), some (.int (nI a)), some (.int (nI (mvP D ds x))), some (.int (nI i)), some (.int (nI (x i))), some (.int (nI e))] [] H := by
              refine up_ind (wK w) ?_
              intro e he ihe H c hck frH hpH hbH
              have hlH := frH.land hl
              have hwH := frH.law hw
              refine V_iload d_Mender_tryMoves_91 rfl ?_
              refine V_aload_n d_Mender_tryMoves_93 rfl ?_
              refine V_getR d_Mender_tryMoves_94 f_Mender_15 rfl (by first | rfl | assumption) (by first | rfl | assumption) ?_
              refine V_getI d_Mender_tryMoves_97 f_Mender_70 rfl (by first | rfl | assumption) (by first | rfl | assumption) ?_
              rw [hwH.1]
              refine V_icmp_ge (tgt := 152) d_Mender_tryMoves_100 (by decide) (fun b100 => ?_) (fun b100 => ?_)
              · obtain rfl := ge_eq b100 rfl rfl (by omega) he
                refine V_aload_n d_Mender_tryMoves_152 rfl ?_
                refine V_getR d_Mender_tryMoves_153 f_Mender_26 rfl (by first | rfl | assumption) (by first | rfl | assumption) ?_
                refine V_iload d_Mender_tryMoves_156 rfl ?_
                refine V_iload d_Mender_tryMoves_158 rfl ?_
                refine V_callV d_Mender_tryMoves_160 k_Mender_75 rfl (c_move _ pt_t hpH (show i < 30 by omega) hxi.1) (by first | rfl | assumption) rfl rfl (by first | decide | omega) rfl (Nat.le_of_ble_eq_true rfl) (fun v_ h_ q_ => ?_)
                obtain ⟨rfl, r1, r2⟩ := q_
                have r1 := PartW.mv hin' r1
                rw [setN_twice, setN_self] at r1
                show V E _ m_Mender_tryMoves _ 163 _ [] _
                refine V_iincw (w := 1) d_Mender_tryMoves_163 rfl (by decide) (by decide) ?_
                dsimp only [List.set]
                refine V_goto (tgt := 64) d_Mender_tryMoves_166 (by decide) ?_
                rw [nI_1]
                refine ihi _ _ _ (frH.tr (fun q _ c2 c3 _ _ => r2 q c2 c3)) r1 (hbH.cong (r2 _ (by omega) (by omega)) (r2 _ (by omega) (by omega)) (r2 _ (by omega) (by omega)) (fun y => ?_))
                constructor
                · rintro (z | ⟨p, d, z1, z2, z3, z4, z6, z5⟩)
                  · exact Or.inl z
                  · exact Or.inr ⟨p, d, z1, z2, z3, z4, Or.inl (by omega), z5⟩
                · rintro (z | ⟨p, d, z1, z2, z3, z4, z6, z5⟩)
                  · exact Or.inl z
                  · exact Or.inr ⟨p, d, z1, z2, z3, z4, by omega, z5⟩
              · have hek := nge_lt b100 rfl rfl (by omega) he
                have ihe := ihe hek
                refine V_iload d_Mender_tryMoves_103 rfl ?_
                refine V_iload d_Mender_tryMoves_105 rfl ?_
                refine V_icmp_eq (tgt := 146) d_Mender_tryMoves_107 (by decide) (fun b107 => ?_) (fun b107 => ?_)
                · have heq := (nI_eq (by omega) (by have := hxi.1; omega)).mp b107
                  refine V_iincw (w := 1) d_Mender_tryMoves_146 rfl (by decide) (by decide) ?_
                  dsimp only [List.set]
                  refine V_goto (tgt := 91) d_Mender_tryMoves_149 (by decide) ?_
                  rw [nI_1]
                  refine ihe _ c hck frH hpH (hbH.cong rfl rfl rfl (fun y => ?_))
                  constructor
                  · rintro (z | ⟨p, d, z1, z2, z3, z4, z6, z5⟩)
                    · exact Or.inl z
                    · exact Or.inr ⟨p, d, z1, z2, z3, z4, by omega, z5⟩
                  · rintro (z | ⟨p, d, z1, z2, z3, z4, z6, z5⟩)
                    · exact Or.inl z
                    · refine Or.inr ⟨p, d, z1, z2, z3, z4, ?_, z5⟩
                      rcases z6 with z6 | ⟨rfl, z6⟩
                      · exact Or.inl z6
                      · exact Or.inr ⟨rfl, by omega⟩
                · have hne : e ≠ x i := fun z => b107 (by rw [z])
                  refine V_aload_n d_Mender_tryMoves_110 rfl ?_
                  refine V_getR d_Mender_tryMoves_111 f_Mender_26 rfl (by first | rfl | assumption) (by first | rfl | assumption) ?_
                  refine V_iload d_Mender_tryMoves_114 rfl ?_
                  refine V_iload d_Mender_tryMoves_116 rfl ?_
                  refine V_callV d_Mender_tryMoves_118 k_Mender_75 rfl (c_move _ pt_t hpH (show i < 30 by omega) (show e < 6 by omega)) (by first | rfl | assumption) rfl rfl (by first | decide | omega) rfl (Nat.le_of_ble_eq_true rfl) (fun v_ h_ q_ => ?_)
                  obtain ⟨rfl, r1, r2⟩ := q_
                  have r1 := PartW.mv hin' r1
                  rw [setN_twice] at r1
                  have fr2 : tFr h h_ := frH.tr (fun q _ c2 c3 _ _ => r2 q c2 c3)
                  have hb2 : bsC h_ D w ds (fun y => X y ∨ Rq D w l a i e x y) := hbH.cong (r2 _ (by omega) (by omega)) (r2 _ (by omega) (by omega)) (r2 _ (by omega) (by omega)) (fun _ => Iff.rfl)
                  have hX2 : okX D ds m (fun y => X y ∨ Rq D w l a i e x y) := by
                    rintro y (hy | ⟨p, d, z1, z2, z3, z4, z6, z5⟩)
                    · exact hX y hy
                    · have hxp := hx p z1
                      obtain ⟨t1, t2, t3⟩ := Re_mv (ds := ds) l (fun q hq => by rw [show setN x p d q = x q from if_neg (by omega)]; exact hx q (by omega)) z5
                      rw [mvC_set z2 hxp (hxp ▸ z4)] at t1
                      exact ⟨by omega, fun q hq => by rw [t3 q hq, show setN x p d q = x q from if_neg (by omega)]; exact hx q (by omega)⟩
                  show V E _ m_Mender_tryMoves _ 121 _ [] _
                  refine V_aload_n d_Mender_tryMoves_121 rfl ?_
                  refine V_iload_n d_Mender_tryMoves_122 rfl ?_
                  refine V_iload_n d_Mender_tryMoves_123 rfl ?_
                  refine V_iconst (v := 1) d_Mender_tryMoves_124 (by decide) ?_
                  refine V_isub d_Mender_tryMoves_125 ?_
                  refine V_iload d_Mender_tryMoves_126 rfl ?_
                  refine V_iconst (v := 1) d_Mender_tryMoves_128 (by decide) ?_
                  refine V_iadd d_Mender_tryMoves_129 ?_
                  refine V_iload d_Mender_tryMoves_130 rfl ?_
                  refine V_aload_n d_Mender_tryMoves_132 rfl ?_
                  refine V_getR d_Mender_tryMoves_133 f_Mender_9 rfl (by first | rfl | assumption) (by first | rfl | assumption) ?_
                  refine V_getR d_Mender_tryMoves_136 f_Mender_79 rfl (by first | rfl | assumption) (by first | rfl | assumption) ?_
                  refine V_iload d_Mender_tryMoves_139 rfl ?_
                  refine V_iald d_Mender_tryMoves_141 (by first | rfl | assumption) (by first | assumption | exact vp_in_nI (by omega) (by omega)) ?_
                  rw [nI_clamp (by omega), ((fr2.land hl).2.2.2.1 i hin').1, hpe.1]
                  refine V_iadd d_Mender_tryMoves_142 ?_
                  rw [nI_1, show nI (l + 1) - 1 = nI l from by rw [← nI_1]; simp, nI_add, ← mvP_set hin' hxd (hxd ▸ hne)]
                  refine V_callV d_Mender_tryMoves_143 k_Mender_47 rfl (ih (by omega) (fr2.land hl) (fr2.law hw) r1 (okx.set hek) (by omega : i + 1 ≤ dN D) (fun q hq => by rw [show setN x i e q = x q from if_neg (by omega)]; exact hx q (by omega)) (by rw [mvC_set hin' hxd (hxd ▸ hne)]; omega) hX2 hb2) (by first | rfl | assumption) rfl rfl (by first | decide | omega) rfl (Nat.le_of_ble_eq_true rfl) (fun v_ h_ q_ => ?_)
                  obtain ⟨rfl, fr3, hp3, hb3⟩ := q_
                  show V E _ m_Mender_tryMoves _ 146 _ [] _
                  refine V_iincw (w := 1) d_Mender_tryMoves_146 rfl (by decide) (by decide) ?_
                  dsimp only [List.set]
                  refine V_goto (tgt := 91) d_Mender_tryMoves_149 (by decide) ?_
                  rw [nI_1]
                  refine ihe _ e hek (fr2.tr fr3) hp3 (hb3.cong rfl rfl rfl (fun y => ?_))
                  constructor
                  · rintro ((z | ⟨p, d, z1, z2, z3, z4, z6, z5⟩) | z)
                    · exact Or.inl z
                    · exact Or.inr ⟨p, d, z1, z2, z3, z4, by omega, z5⟩
                    · exact Or.inr ⟨i, e, hai, hin', hek, hne, Or.inr ⟨rfl, by omega⟩, z⟩
                  · rintro (z | ⟨p, d, z1, z2, z3, z4, z6, z5⟩)
                    · exact Or.inl (Or.inl z)
                    · by_cases q : p = i ∧ d = e
                      · obtain ⟨rfl, rfl⟩ := q
                        exact Or.inr z5
                      · exact Or.inl (Or.inr ⟨p, d, z1, z2, z3, z4, by omega, z5⟩)
            refine inner 0 (Nat.zero_le _) H (x i) (okx i hin') frH (by rw [setN_self]; exact hpH) hbH
        refine outer a ha (Nat.le_refl _) h none none (tFr.rf h) hp (hb.cong rfl rfl rfl (fun y => ?_))
        constructor
        · intro z
          exact Or.inl z
        · rintro (z | ⟨p, d, z1, z2, z3, z4, z6, z5⟩)
          · exact z
          · omega
      · exact absurd ((lt_nI 0 (l + 1) rfl rfl (by omega) (by omega)).mpr (by omega)) b11
    · refine V_vret d_Mender_tryMoves_9 rfl ?_
      exact ⟨rfl, tFr.rf h, hp, prune (l + 1) hx hb (fa_of_nle b6)⟩
