/-! what the partings into sets are -/
theorem pt_mem {n : Nat} {G : Int32 → Bool} {l : Nat} {R : Int32} {q : List Int32} : q ∈ pt n G (l + 1) R ↔ ∃ S t, S ∈ subs n R ∧ G S = true ∧ t ∈ pt n G l (dif R S) ∧ q = S :: t := by
  rw [pt, List.mem_flatMap]
  constructor
  · rintro ⟨S, h1, h2⟩
    by_cases hG : G S = true
    · rw [if_pos hG] at h2
      obtain ⟨t, h3, h4⟩ := List.mem_map.mp h2
      exact ⟨S, t, h1, hG, h3, h4.symm⟩
    · rw [if_neg hG] at h2; cases h2
  · rintro ⟨S, t, h1, h2, h3, rfl⟩
    refine ⟨S, h1, ?_⟩
    rw [if_pos h2]
    exact List.mem_map.mpr ⟨t, h3, rfl⟩
theorem gD_cons (S : Int32) (t : List Int32) (d : Nat) : gD (S :: t) (d + 1) = gD t d := by
  unfold gD
  rw [List.getD_cons_succ]
theorem gD_zero (S : Int32) (t : List Int32) : gD (S :: t) 0 = S := by
  unfold gD
  rw [List.getD_cons_zero]
/-- q parts R into l sets, each with the least place that is left -/
def isPq (n : Nat) (G : Int32 → Bool) (l : Nat) (R : Int32) (q : List Int32) : Prop := q.length = l ∧ (∀ S ∈ q, G S = true ∧ inS n S ∧ S ≠ 0) ∧ (∀ j, j < 30 → (cs R j = true ↔ ∃ d, d < l ∧ cs (gD q d) j = true)) ∧ ∀ d e j, d < l → e < l → j < 30 → cs (gD q d) j = true → cs (gD q e) j = true → d = e
theorem cs_ne {S : Int32} {j : Nat} (h : cs S j = true) : S ≠ 0 := by
  intro q
  rw [q, cs_0] at h
  cases h
theorem pt_is {n : Nat} {G : Int32 → Bool} (hn : n ≤ 30) : ∀ l R q, inS n R → q ∈ pt n G l R → isPq n G l R q
  | 0, R, q, hR, hq => by
    rw [pt] at hq
    by_cases h0 : R = 0
    · rw [if_pos h0] at hq
      rw [List.mem_singleton.mp hq]
      exact ⟨rfl, fun S hS => (by cases hS), fun j hj => ⟨fun z => (by rw [h0, cs_0] at z; cases z), fun ⟨d, hd, _⟩ => absurd hd (Nat.not_lt_zero d)⟩, fun d e j hd => absurd hd (Nat.not_lt_zero d)⟩
    · rw [if_neg h0] at hq; cases hq
  | l + 1, R, q, hR, hq => by
    obtain ⟨S, t, h1, h2, h3, rfl⟩ := pt_mem.mp hq
    have hR0 : R ≠ 0 := by
      intro z
      rw [z, subs_0] at h1
      cases h1
    obtain ⟨a, ha⟩ := cs_ne0 hR.1 hR0
    obtain ⟨s1, s2, s3⟩ := (subs_mem hn hR ha S).mp h1
    obtain ⟨i1, i2, i3, i4⟩ := pt_is hn l (dif R S) t hR.dif h3
    have no : ∀ j, j < 30 → cs S j = true → ∀ d, d < l → cs (gD t d) j = true → False := by
      intro j hj hb d hd hc
      have := (i3 j hj).mpr ⟨d, hd, hc⟩
      rw [dif_cs, hb] at this
      simp at this
    refine ⟨by rw [List.length_cons, i1], ?_, fun j hj => ⟨fun hb => ?_, ?_⟩, ?_⟩
    · intro T hT
      rcases List.mem_cons.mp hT with e | hT
      · rw [e]; exact ⟨h2, ⟨s1, fun j hj hb => hR.2 j hj (s3 j hj hb)⟩, cs_ne s2⟩
      · exact i2 T hT
    · cases hS : cs S j with
      | true => exact ⟨0, by omega, by rw [gD_zero]; exact hS⟩
      | false =>
        obtain ⟨d, hd, hc⟩ := (i3 j hj).mp (by rw [dif_cs, hb, hS]; rfl)
        exact ⟨d + 1, by omega, by rw [gD_cons]; exact hc⟩
    · rintro ⟨d, hd, hc⟩
      cases d with
      | zero => rw [gD_zero] at hc; exact s3 j hj hc
      | succ d =>
        rw [gD_cons] at hc
        have := (i3 j hj).mpr ⟨d, by omega, hc⟩
        rw [dif_cs] at this
        simp at this
        exact this.1
    · intro d e j hd he hj hc1 hc2
      cases d with
      | zero =>
        cases e with
        | zero => rfl
        | succ e =>
          rw [gD_zero] at hc1
          rw [gD_cons] at hc2
          exact absurd hc2 (fun z => no j hj hc1 e (by omega) z)
      | succ d =>
        cases e with
        | zero =>
          rw [gD_zero] at hc2
          rw [gD_cons] at hc1
          exact absurd hc1 (fun z => no j hj hc2 d (by omega) z)
        | succ e =>
          rw [gD_cons] at hc1 hc2
          rw [i4 d e j (by omega) (by omega) hj hc1 hc2]
theorem layK_eq {f : Nat → Int32} {ds : Nat → Nat} {p d : Nat} : ∀ {k : Nat}, d < k → cs (f d) p = true → (∀ e, e < k → cs (f e) p = true → e = d) → layK f ds k p = d
  | 0, h, _, _ => absurd h (Nat.not_lt_zero d)
  | k + 1, h, hc, hu => by
    rw [layK]
    by_cases hk : cs (f k) p = true
    · rw [if_pos hk]; exact hu k (by omega) hk
    · rw [if_neg hk]
      refine layK_eq ?_ hc (fun e he hce => hu e (by omega) hce)
      rcases Nat.lt_or_ge d k with z | z
      · exact z
      · rw [show d = k by omega] at hc; exact absurd hc hk
/-- the districts of a parting that is laid are the sets -/
theorem lay_dP {D : LD} (hN : dN D ≤ 30) {G : Int32 → Bool} {l : Nat} {q : List Int32} (hq : isPq (dN D) G l (cI (inN D)) q) {d : Nat} (hd : d < l) {j : Nat} (hj : j < 30) : dP D (lay (dN D) q) d j = cs (gD q d) j := by
  obtain ⟨h1, h2, h3, h4⟩ := hq
  have hcov : ∀ j, j < 30 → (j < dN D ↔ ∃ d, d < l ∧ cs (gD q d) j = true) := fun j hj => by
    rw [← h3 j hj, cI_cs _ hj]
    unfold inN
    simp
  unfold dP inN
  by_cases hjn : j < dN D
  · obtain ⟨e, he, hc⟩ := (hcov j hj).mp hjn
    have hl : lay (dN D) q j = e := by
      unfold lay
      rw [if_pos hjn, h1]
      exact layK_eq he hc (fun e' he' hc' => h4 e' e j he' he hj hc' hc)
    rw [hl]
    simp only [hjn, decide_true, Bool.true_and]
    by_cases hed : e = d
    · rw [decide_eq_true hed, ← hed, hc]
    · rw [decide_eq_false hed]
      cases hcd : cs (gD q d) j with
      | false => rfl
      | true => exact absurd (h4 e d j he hd hj hc hcd) hed
  · simp only [hjn, decide_false, Bool.false_and]
    cases hcd : cs (gD q d) j with
    | false => rfl
    | true => exact absurd ((hcov j hj).mpr ⟨d, hd, hcd⟩) hjn
theorem flat_nodup {α β : Type} {f : α → List (List β)} {g : α → β} : ∀ (L : List α), L.Nodup → (∀ x y, x ∈ L → y ∈ L → g x = g y → x = y) → (∀ x ∈ L, (f x).Nodup ∧ ∀ q ∈ f x, ∃ t, q = g x :: t) → (L.flatMap f).Nodup
  | [], _, _, _ => by simp
  | x :: L, h1, h2, h3 => by
    rw [List.flatMap_cons]
    have hx := List.nodup_cons.mp h1
    refine List.nodup_append.mpr ⟨(h3 x List.mem_cons_self).1, flat_nodup L hx.2 (fun a b ha hb => h2 a b (List.mem_cons_of_mem _ ha) (List.mem_cons_of_mem _ hb)) (fun a ha => h3 a (List.mem_cons_of_mem _ ha)), fun a ha b hb e => ?_⟩
    subst e
    obtain ⟨t, ht⟩ := (h3 x List.mem_cons_self).2 a ha
    obtain ⟨y, hy, hay⟩ := List.mem_flatMap.mp hb
    obtain ⟨t', ht'⟩ := (h3 y (List.mem_cons_of_mem _ hy)).2 a hay
    rw [ht] at ht'
    have := h2 x y List.mem_cons_self (List.mem_cons_of_mem _ hy) (List.cons.inj ht').1
    exact hx.1 (this ▸ hy)
theorem pt_nodup {n : Nat} {G : Int32 → Bool} (hn : n ≤ 30) : ∀ l R, inS n R → (pt n G l R).Nodup
  | 0, R, _ => by
    rw [pt]
    split
    · simp
    · simp
  | l + 1, R, hR => by
    rw [pt]
    refine flat_nodup (g := fun S => S) _ (subs_nodup hn hR) (fun x y _ _ e => e) (fun S hS => ?_)
    by_cases hG : G S = true
    · rw [if_pos hG]
      refine ⟨?_, fun q hq => ?_⟩
      · refine List.Pairwise.map _ ?_ (pt_nodup hn l (dif R S) hR.dif)
        intro a b hab e
        exact hab (List.cons.inj e).2
      · obtain ⟨t, -, ht⟩ := List.mem_map.mp hq
        exact ⟨t, ht.symm⟩
    · rw [if_neg hG]
      exact ⟨by simp, fun q hq => by cases hq⟩
/-! how many they are -/
def pcn (R : Int32) : Nat := fa_cnt (cs R) 30
def Fs (F : Nat → Nat) : Nat → Nat → Nat
  | 0, s => F s
  | m + 1, s => Fs F m s + Fs F m (s + 1)
def Fb : Nat → Nat → Nat
  | 0, x => if x = 0 then 1 else 0
  | l + 1, x => if x = 0 then 0 else Fs (Fb l) (x - 1) 0
theorem Fb_ok : ∀ l, l < 7 → ∀ x, x < 13 → Fb l x ≤ 1400000 := by decide +kernel
theorem Fb_ok2 : ∀ l, l < 6 → ∀ x, x < 12 → Fb l x ≤ 246730 := by decide +kernel
theorem cnt_set {n : Nat} {p q : Nat → Bool} {a : Nat} (ha : a < n) (h1 : p a = true) (h2 : q a = false) (h : ∀ i, i < n → i ≠ a → p i = q i) : fa_cnt p n = fa_cnt q n + 1 := by
  rw [cnt_take h1 ha]
  have e : fa_cnt (fun i => p i && !decide (i = a)) n = fa_cnt q n := by
    apply fa_cnt_cong
    intro i hi
    by_cases c : i = a
    · subst c; rw [h2]; simp
    · rw [decide_eq_false c, h i hi c]; simp
  rw [e]
/-- sums over the sets of a rest, by what each leaves -/
theorem gr_sum {R : Int32} {F : Nat → Nat} {f : Int32 → Nat} (hf : ∀ S, hi0 S → (∀ j, j < 30 → cs S j = true → cs R j = true) → f S ≤ F (pcn (dif R S))) : ∀ m p B s, p + m ≤ 30 → hi0 B → (∀ j, p ≤ j → j < 30 → cs B j = false) → (∀ j, j < 30 → cs B j = true → cs R j = true) → (∀ j, p + m ≤ j → j < 30 → cs R j = false) → pcn (dif R B) = s + cntR R m p → ((gr R m p B).map f).sum ≤ Fs F (cntR R m p) s
  | 0, p, B, s, hpm, hB, hB0, hBR, hR0, hc => by
    rw [gr]
    simp only [List.map_cons, List.map_nil, List.sum_cons, List.sum_nil, Nat.add_zero]
    have := hf B hB hBR
    rw [hc] at this
    exact this
  | m + 1, p, B, s, hpm, hB, hB0, hBR, hR0, hc => by
    have hp : p < 30 := by omega
    have hB1 : hi0 (B ||| onl p) := hi_or hB (onl_hi hp)
    have hB2 : ∀ j, p + 1 ≤ j → j < 30 → cs (B ||| onl p) j = false := fun j h1 h2 => by rw [onl_or hp h2, hB0 j (by omega) h2, decide_eq_false (by omega)]; rfl
    have hB3 : ∀ j, p + 1 ≤ j → j < 30 → cs B j = false := fun j h1 h2 => hB0 j (by omega) h2
    rw [gr, List.map_append, List.sum_append, cntR] at *
    by_cases hRp : cs R p = true
    · rw [if_pos hRp] at hc ⊢
      rw [if_pos hRp, Nat.add_comm 1 (cntR R m (p + 1)), Fs]
      have hBp := hB0 p (by omega) hp
      have e1 : pcn (dif R B) = pcn (dif R (B ||| onl p)) + 1 := by
        unfold pcn
        refine cnt_set hp ?_ ?_ (fun i hi c => ?_)
        · rw [dif_cs, hRp, hBp]; rfl
        · rw [dif_cs, onl_or hp hp]; simp
        · rw [dif_cs, dif_cs, onl_or hp hi, decide_eq_false c, Bool.or_false]
      have i1 := gr_sum hf m (p + 1) (B ||| onl p) s (by omega) hB1 hB2 (fun j c1 c2 => by
        rw [onl_or hp c1] at c2
        by_cases c : j = p
        · rw [c]; exact hRp
        · rw [decide_eq_false c, Bool.or_false] at c2; exact hBR j c1 c2) (fun j c1 c2 => hR0 j (by omega) c2) (by omega)
      have i2 := gr_sum hf m (p + 1) B (s + 1) (by omega) hB hB3 hBR (fun j c1 c2 => hR0 j (by omega) c2) (by omega)
      omega
    · rw [if_neg hRp] at hc ⊢
      rw [if_neg hRp, Nat.zero_add]
      have i2 := gr_sum hf m (p + 1) B s (by omega) hB hB3 hBR (fun j c1 c2 => hR0 j (by omega) c2) (by omega)
      simp only [List.map_nil, List.sum_nil, Nat.zero_add]
      exact i2
theorem cntR_pop {R : Int32} : ∀ m p, p + m ≤ 30 → cntR R m p = fa_cnt (fun j => cs R j && decide (p ≤ j)) (p + m)
  | 0, p, h => by
    rw [cntR, Nat.add_zero]
    have e : fa_cnt (fun j => cs R j && decide (p ≤ j)) p = fa_cnt (fun _ => false) p := fa_cnt_cong (fun i hi => by rw [decide_eq_false (by omega), Bool.and_false])
    rw [e, cnt_00]
  | m + 1, p, h => by
    rw [cntR, cntR_pop m (p + 1) (by omega), show p + 1 + m = p + (m + 1) by omega]
    by_cases hb : cs R p = true
    · rw [if_pos hb]
      rw [cnt_set (p := fun j => cs R j && decide (p ≤ j)) (q := fun j => cs R j && decide (p + 1 ≤ j)) (a := p) (by omega) (by simp [hb]) (by simp) (fun i hi c => by
        have : decide (p ≤ i) = decide (p + 1 ≤ i) := decide_eq_decide.mpr (by omega)
        rw [this])]
      omega
    · rw [if_neg hb, Nat.zero_add]
      apply fa_cnt_cong
      intro i hi
      by_cases c : i = p
      · subst c
        have : cs R i = false := by
          cases h : cs R i with
          | false => rfl
          | true => exact absurd h hb
        rw [this]; rfl
      · have : decide (p ≤ i) = decide (p + 1 ≤ i) := decide_eq_decide.mpr (by omega)
        rw [this]
theorem pcn_fst {n a : Nat} {R : Int32} (hn : n ≤ 30) (hR : inS n R) (ha : fstO (cs R) 30 = some a) : pcn R = cntR R (n - (a + 1)) (a + 1) + 1 := by
  obtain ⟨h1, h2, h3⟩ := fstO_lt ha
  have han := hR.2 a h1 h2
  rw [cntR_pop _ _ (by omega), show a + 1 + (n - (a + 1)) = n by omega]
  have e : pcn R = fa_cnt (cs R) n := cnt_cut hn (fun i c1 c2 => hR.no c2 c1)
  rw [e]
  refine cnt_set han h2 (by simp) (fun i hi c => ?_)
  rcases Nat.lt_or_ge i a with q | q
  · rw [h3 i q]; rfl
  · rw [decide_eq_true (by omega), Bool.and_true]
theorem pcn_dif {n a : Nat} {R : Int32} (hn : n ≤ 30) (hR : inS n R) (ha : fstO (cs R) 30 = some a) : pcn (dif R (onl a)) = 0 + cntR R (n - (a + 1)) (a + 1) := by
  obtain ⟨h1, h2, h3⟩ := fstO_lt ha
  have e := pcn_fst hn hR ha
  have e2 : pcn R = pcn (dif R (onl a)) + 1 := by
    unfold pcn
    refine cnt_set h1 h2 ?_ (fun i hi c => ?_)
    · rw [dif_cs, cs_onl h1 h1]; simp
    · rw [dif_cs, cs_onl h1 hi, decide_eq_false c]; simp
  omega
theorem flat_len {α β : Type} (f : α → List β) : ∀ L : List α, (L.flatMap f).length = (L.map (fun x => (f x).length)).sum
  | [] => rfl
  | x :: L => by rw [List.flatMap_cons, List.length_append, List.map_cons, List.sum_cons, flat_len f L]
theorem pt_le {n : Nat} {G : Int32 → Bool} (hn : n ≤ 30) : ∀ l R, inS n R → (pt n G l R).length ≤ Fb l (pcn R)
  | 0, R, hR => by
    rw [pt, Fb]
    by_cases h0 : R = 0
    · have : pcn R = 0 := by
        unfold pcn
        rw [h0]
        exact (fa_cnt_cong (fun i _ => cs_0 i)).trans (cnt_00 30)
      rw [if_pos h0, if_pos this]
      simp
    · rw [if_neg h0]
      exact Nat.zero_le _
  | l + 1, R, hR => by
    rw [pt, flat_len]
    by_cases h0 : R = 0
    · rw [h0, subs_0]
      exact Nat.zero_le _
    · obtain ⟨a, ha⟩ := cs_ne0 hR.1 h0
      obtain ⟨h1, h2, h3⟩ := fstO_lt ha
      have han := hR.2 a h1 h2
      have e := pcn_fst hn hR ha
      rw [Fb, if_neg (by omega), subs_eq ha]
      rw [show pcn R - 1 = cntR R (n - (a + 1)) (a + 1) by omega]
      refine gr_sum (F := Fb l) (fun S hS hSR => ?_) _ _ _ _ (by omega) (onl_hi h1) (onl_cs0 h1) (fun j c1 c2 => ?_) (fun j c1 c2 => hR.no c2 (by omega)) (pcn_dif hn hR ha)
      · split
        · rw [List.length_map]; exact pt_le hn l (dif R S) hR.dif
        · exact Nat.zero_le _
      · rw [cs_onl h1 c1] at c2
        rw [show j = a by simpa using c2]; exact h2
