/-! the class's list of partings is the lawful classes -/
theorem flat_cong {α β : Type} {f g : α → List β} : ∀ {L : List α}, (∀ x ∈ L, f x = g x) → L.flatMap f = L.flatMap g
  | [], _ => rfl
  | x :: L, h => by rw [List.flatMap_cons, List.flatMap_cons, h x List.mem_cons_self, flat_cong (fun y hy => h y (List.mem_cons_of_mem _ hy))]
theorem flat_filter {α β : Type} (p : β → Bool) (f : α → List β) : ∀ L : List α, (L.flatMap f).filter p = L.flatMap (fun x => (f x).filter p)
  | [] => rfl
  | x :: L => by rw [List.flatMap_cons, List.flatMap_cons, List.filter_append, flat_filter p f L]
theorem map_filter {α β : Type} (p : β → Bool) (f : α → β) : ∀ L : List α, (L.map f).filter p = (L.filter (fun x => p (f x))).map f
  | [] => rfl
  | x :: L => by
    rw [List.map_cons, List.filter_cons, List.filter_cons, map_filter p f L]
    split
    · rw [List.map_cons]
    · rfl
noncomputable def okq (D : LD) (w : LW) (b : Nat) (q : List Int32) : Bool := q.all (fun S => lkB D w (cs S)) && decide ((q.map (prN D w)).sum ≤ b)
theorem may_gd {D : LD} {w : LW} {S : Int32} (hS : hi0 S) (h0 : S ≠ 0) : mayB D w (cs S) = (gdB D w S && lkB D w (cs S)) := by
  unfold mayB gdB
  rw [cI_csI hS, decide_eq_false h0]
  cases hang D (cs S) <;> cases fitN (wK w) (wT w) (pplN D (cs S)) (tot D) <;> cases lkB D w (cs S) <;> rfl
theorem may_0 {D : LD} {w : LW} : mayB D w (cs 0) = false := by
  unfold mayB
  rw [show cI (cs 0) = 0 from cI_csI (fun i _ => b_0 i), decide_eq_true rfl]
  rfl
theorem okq_cons {D : LD} {w : LW} {b : Nat} {S : Int32} {t : List Int32} : okq D w b (S :: t) = ((lkB D w (cs S) && decide (prN D w S ≤ b)) && okq D w (b - prN D w S) t) := by
  unfold okq
  rw [List.all_cons, List.map_cons, List.sum_cons]
  by_cases h : prN D w S ≤ b
  · have : decide (prN D w S + (t.map (prN D w)).sum ≤ b) = decide ((t.map (prN D w)).sum ≤ b - prN D w S) := decide_eq_decide.mpr (by omega)
    rw [this, decide_eq_true h]
    cases lkB D w (cs S) <;> cases t.all (fun S => lkB D w (cs S)) <;> simp
  · rw [decide_eq_false (show ¬ prN D w S + (t.map (prN D w)).sum ≤ b by omega), decide_eq_false h]
    simp
theorem pt_1 {n : Nat} {G : Int32 → Bool} (hn : n ≤ 30) {R : Int32} (hR : inS n R) : pt n G 1 R = if R ≠ 0 ∧ G R = true then [[R]] else [] := by
  by_cases h0 : R = 0
  · rw [if_neg (fun z => z.1 h0), h0, pt, subs_0]
    rfl
  · obtain ⟨a, ha⟩ := cs_ne0 hR.1 h0
    have hh := subs_head hn hR ha
    have hnd := subs_nodup hn hR
    have hm := subs_mem hn hR ha
    rw [pt]
    cases hL : subs n R with
    | nil => rw [hL] at hh; cases hh
    | cons x L =>
      rw [hL] at hh hnd hm
      have hx : x = R := by simpa using hh
      subst hx
      have e1 : dif x x = 0 := cs_ext (dif_hi hR.1) (fun i _ => b_0 i) (fun j hj => by rw [dif_cs, cs_0]; cases cs x j <;> rfl)
      have e2 : L.flatMap (fun S => if G S = true then (pt n G 0 (dif x S)).map (fun t => S :: t) else []) = L.flatMap (fun _ => []) := flat_cong (fun S hS => by
        have hS1 := (hm S).mp (List.mem_cons_of_mem _ hS)
        have hne : S ≠ x := fun z => (List.nodup_cons.mp hnd).1 (z ▸ hS)
        have : dif x S ≠ 0 := by
          intro z
          apply hne
          refine cs_ext hS1.1 hR.1 (fun j hj => ?_)
          have hz : cs (dif x S) j = false := by rw [z, cs_0]
          rw [dif_cs] at hz
          cases hb : cs S j with
          | true => exact (hS1.2.2 j hj hb).symm
          | false => rw [hb] at hz; cases hx : cs x j with
            | false => rfl
            | true => rw [hx] at hz; cases hz
        rw [pt, if_neg this]
        split <;> rfl)
      have e3 : L.flatMap (fun _ => ([] : List (List Int32))) = [] := by
        clear e2 hm hnd hh hL
        induction L with
        | nil => rfl
        | cons y L ih => rw [List.flatMap_cons, ih]; rfl
      rw [List.flatMap_cons, e2, e3, List.append_nil, pt, if_pos e1]
      by_cases hG : G x = true
      · rw [if_pos hG, if_pos ⟨h0, hG⟩]; rfl
      · rw [if_neg hG, if_neg (fun z => hG z.2)]
theorem sq_eq {D : LD} {w : LW} (hN : dN D ≤ 30) : ∀ l R b, inS (dN D) R → sq D w (l + 1) R b = (pt (dN D) (gdB D w) (l + 1) R).filter (okq D w b)
  | 0, R, b, hR => by
    rw [pt_1 hN hR, sq]
    unfold goS
    by_cases h0 : R = 0
    · rw [if_neg (c := R ≠ 0 ∧ gdB D w R = true) (fun z => z.1 h0), h0, may_0]
      rfl
    · rw [may_gd hR.1 h0]
      by_cases hG : gdB D w R = true
      · rw [if_pos (c := R ≠ 0 ∧ gdB D w R = true) ⟨h0, hG⟩, hG, List.filter_cons, okq_cons]
        have e : okq D w (b - prN D w R) [] = true := by
          unfold okq
          rw [List.all_nil, List.map_nil, List.sum_nil, decide_eq_true (Nat.zero_le _)]
          rfl
        rw [e, Bool.and_true, Bool.true_and, List.filter_nil]
      · have hG' : gdB D w R = false := by
          cases hh : gdB D w R with
          | false => rfl
          | true => exact absurd hh hG
        rw [if_neg (c := R ≠ 0 ∧ gdB D w R = true) (fun z => hG z.2), hG', List.filter_nil]
        rfl
  | l + 1, R, b, hR => by
    rw [sq, pt, flat_filter]
    refine flat_cong (fun S hS => ?_)
    have hR0 : R ≠ 0 := by
      intro z
      rw [z, subs_0] at hS
      cases hS
    obtain ⟨a, ha⟩ := cs_ne0 hR.1 hR0
    have hS1 := (subs_mem hN hR ha S).mp hS
    unfold goS
    rw [may_gd hS1.1 (cs_ne hS1.2.1)]
    by_cases hG : gdB D w S = true
    · rw [if_pos (c := gdB D w S = true) hG, hG, Bool.true_and, map_filter]
      by_cases hL : (lkB D w (cs S) && decide (prN D w S ≤ b)) = true
      · rw [if_pos hL, sq_eq hN l (dif R S) _ hR.dif]
        have e : (fun x => okq D w b (S :: x)) = okq D w (b - prN D w S) := by
          funext t
          rw [okq_cons, hL, Bool.true_and]
        rw [e]
      · rw [if_neg hL]
        have e : (fun x => okq D w b (S :: x)) = fun _ => false := by
          funext t
          rw [okq_cons]
          cases hh : (lkB D w (cs S) && decide (prN D w S ≤ b)) with
          | true => exact absurd hh hL
          | false => rfl
        rw [e]
        have e2 : ∀ L : List (List Int32), L.filter (fun _ => false) = [] := fun L => by induction L <;> simp_all
        rw [e2]
        rfl
    · have hG' : gdB D w S = false := by
        cases hh : gdB D w S with
        | false => rfl
        | true => exact absurd hh hG
      rw [if_neg (c := gdB D w S = true) hG, hG', List.filter_nil]
      rfl
theorem sq_le {D : LD} {w : LW} (hN : dN D ≤ 12) {l : Nat} (hl : l ≤ 6) {R : Int32} (hR : inS (dN D) R) (b : Nat) : (sq D w l R b).length ≤ 1400000 := by
  cases l with
  | zero => rw [sq]; exact Nat.zero_le _
  | succ l =>
    rw [sq_eq (by omega) l R b hR]
    have h1 := List.length_filter_le (okq D w b) (pt (dN D) (gdB D w) (l + 1) R)
    have h2 := pt_le (G := gdB D w) (by omega) (l + 1) R hR
    have hp12 : pcn R ≤ 12 := by
      unfold pcn
      rw [cnt_cut (m := 30) (n := 12) (by omega) (fun i h1 h2 => hR.no h2 (by omega))]
      exact fa_cnt_le _ 12
    have h3 := Fb_ok (l + 1) (by omega) (pcn R) (by omega)
    omega
theorem sq_le2 {D : LD} {w : LW} (hN : dN D ≤ 12) {l : Nat} (hl : l ≤ 5) {R : Int32} (hR : inS (dN D) R) (h0 : cs R 0 = false) (b : Nat) : (sq D w l R b).length ≤ 246730 := by
  cases l with
  | zero => rw [sq]; exact Nat.zero_le _
  | succ l =>
    rw [sq_eq (by omega) l R b hR]
    have h1 := List.length_filter_le (okq D w b) (pt (dN D) (gdB D w) (l + 1) R)
    have h2 := pt_le (G := gdB D w) (by omega) (l + 1) R hR
    have hp11 : pcn R ≤ 11 := by
      unfold pcn
      rw [cnt_cut (m := 30) (n := 12) (by omega) (fun i h1 h2 => hR.no h2 (by omega)), show (12 : Nat) = 1 + 11 from rfl, cnt_split]
      have e : fa_cnt (fun i => cs R i) 1 = 0 := by rw [show (1 : Nat) = 0 + 1 from rfl, fa_cnt_no h0]; rfl
      have := fa_cnt_le (fun i => cs R (1 + i)) 11
      omega
    have h3 := Fb_ok2 (l + 1) (by omega) (pcn R) (by omega)
    omega
theorem lkB_cong {D : LD} {w : LW} {P P' : Nat → Bool} (h : ∀ j, j < 30 → P j = P' j) : lkB D w P = lkB D w P' := by
  have e : (fun t => !keepB D w P t) = fun t => !keepB D w P' t := by
    funext t
    unfold keepB
    rw [cI_cong (P := fun j => town D t j && P j) (P' := fun j => town D t j && P' j) (fun j hj => by rw [h j hj])]
  unfold lkB
  rw [e]
theorem headB_cong {D : LD} (hN : dN D ≤ 30) {P P' : Nat → Bool} (h : ∀ j, j < 30 → P j = P' j) (t : Nat) : headB D P t = headB D P' t := by
  have key : ∀ {P P' : Nat → Bool}, (∀ j, j < 30 → P j = P' j) → headB D P t = true → headB D P' t = true := by
    intro P P' h hh
    obtain ⟨a, h1, h2, h3, j, h4, h5⟩ := headB_iff.mp hh
    have ha := town_lt h1
    have hj := town_lt h4
    exact headB_iff.mpr ⟨a, h1, h2, by rw [← h a (by omega)]; exact h3, j, h4, by rw [← h j (by omega)]; exact h5⟩
  rw [Bool.eq_iff_iff]
  exact ⟨key h, key (fun j hj => (h j hj).symm)⟩
theorem mayB_cong {D : LD} {w : LW} (hN : dN D ≤ 30) {P P' : Nat → Bool} (h : ∀ j, j < 30 → P j = P' j) : mayB D w P = mayB D w P' := by
  unfold mayB
  rw [cI_cong h, pplN_cong (fun i hi => h i (by omega)), lkB_cong h, hang_cong h]
/-- the cut towns, told by the districts -/
theorem heads_sum {D : LD} {w : LW} (okw : okLW w) {ds : Nat → Nat} (okd : okDs D w ds) : smN (fun d => fa_cnt (headB D (dP D ds d)) 10) (fun _ => true) (wK w) = fa_cnt (cutB D ds) 10 := by
  have h1 := val_1 (w := w) okd
  have h6 := okw.2.1
  have e : val D w ds 1 = nI (smN (fun d => fa_cnt (headB D (dP D ds d)) 10) (fun _ => true) (wK w)) := by
    unfold val tgI smI
    rw [if_neg (by omega)]
    exact smP_nI (fun d _ => rfl)
  rw [e] at h1
  have b1 := smN_le (g := fun d => fa_cnt (headB D (dP D ds d)) 10) (P := fun _ => true) (c := 10) (n := wK w) (fun i _ => fa_cnt_le _ 10)
  have b2 := fa_cnt_le (cutB D ds) 10
  exact (nI_eq (by omega) (by omega)).mp h1
theorem sum_list (f : Int32 → Nat) : ∀ q : List Int32, (q.map f).sum = smN (fun d => f (gD q d)) (fun _ => true) q.length := by
  intro q
  have key : ∀ (q : List Int32) (x : Int32), ((q ++ [x]).map f).sum = (q.map f).sum + f x := fun q x => by simp
  have : ∀ n (q : List Int32), q.length = n → (q.map f).sum = smN (fun d => f (gD q d)) (fun _ => true) q.length := by
    intro n
    induction n with
    | zero => intro q hq; rw [List.length_eq_zero_iff.mp hq]; rfl
    | succ n ih =>
      intro q hq
      have hne : q ≠ [] := fun z => by rw [z] at hq; cases hq
      obtain ⟨q', x, rfl⟩ : ∃ q' x, q = q' ++ [x] := ⟨q.dropLast, q.getLast hne, (List.dropLast_concat_getLast hne).symm⟩
      have hl : q'.length = n := by simpa using hq
      rw [key, ih q' hl, show (q' ++ [x]).length = q'.length + 1 by simp, smN, if_pos rfl, gD_app_r]
      have e : smN (fun d => f (gD q' d)) (fun _ => true) q'.length = smN (fun d => f (gD (q' ++ [x]) d)) (fun _ => true) q'.length := by
        have : ∀ m, m ≤ q'.length → smN (fun d => f (gD q' d)) (fun _ => true) m = smN (fun d => f (gD (q' ++ [x]) d)) (fun _ => true) m := by
          intro m
          induction m with
          | zero => intro _; rfl
          | succ m ihm => intro hm; rw [smN, smN, ihm (by omega), gD_app_l (by omega)]
        exact this _ (Nat.le_refl _)
      rw [e]
  exact this _ q rfl
theorem LC_sq {D : LD} {w : LW} (ok : okLD D) (okw : okLW w) : LC D w = sq D w (wK w) (cI (inN D)) (bdg D w) := by
  have hN := ok.1
  have hk1 := okw.1
  have hk6 := okw.2.1
  obtain ⟨k, hk⟩ : ∃ k, wK w = k + 1 := ⟨wK w - 1, by omega⟩
  have e := sq_eq (w := w) hN k (cI (inN D)) (bdg D w) inN_S
  rw [← hk] at e
  rw [e]
  unfold LC
  refine List.filter_congr (fun q hq => ?_)
  have hpq := pt_is hN _ _ _ inN_S hq
  obtain ⟨p1, p2, p3, p4⟩ := id hpq
  have okd : okDs D (wfr true w) (lay (dN D) q) := fun p _ => lay_lt (by rw [p1]; exact Nat.le_refl _) (show 0 < wK w by omega) p
  have okd' : okDs D w (lay (dN D) q) := okd
  have hS : ∀ d, d < wK w → gD q d ∈ q := fun d hd => gD_mem (by omega)
  rw [Bool.eq_iff_iff]
  unfold lwB okq
  rw [decide_eq_true_eq, alw_iff ok okd, Bool.and_eq_true, decide_eq_true_eq, List.all_eq_true]
  have hmay : (∀ d, d < wK (wfr true w) → mayB D (wfr true w) (dP D (lay (dN D) q) d) = true) ↔ ∀ S ∈ q, lkB D w (cs S) = true := by
    constructor
    · intro h S hSq
      obtain ⟨d, hd, rfl⟩ : ∃ d, d < wK w ∧ gD q d = S := by
        obtain ⟨d, hd, he⟩ := List.getElem_of_mem hSq
        refine ⟨d, by omega, ?_⟩
        unfold gD
        rw [List.getD_eq_getElem?_getD, List.getElem?_eq_getElem hd]
        exact he
      have h1 := h d hd
      rw [mayB_cong hN (fun j hj => lay_dP hN hpq hd hj)] at h1
      have h2 := p2 _ hSq
      have h1' : mayB D w (cs (gD q d)) = true := h1
      rw [may_gd h2.2.1.1 h2.2.2, h2.1, Bool.true_and] at h1'
      exact h1'
    · intro h d hd
      have h2 := p2 _ (hS d hd)
      rw [mayB_cong hN (fun j hj => lay_dP hN hpq hd hj)]
      show mayB D w (cs (gD q d)) = true
      rw [may_gd h2.2.1.1 h2.2.2, h2.1, Bool.true_and]
      exact h _ (hS d hd)
  have hstray : fstO (strayB (wfr true w) (lay (dN D) q)) (dN D) = none := fstO_none (fun j _ => rfl)
  have hmany : fstO (manyB D (wfr true w) (lay (dN D) q)) 10 = none ↔ fa_cnt (cutB D (lay (dN D) q)) 10 ≤ wC w := many_inv 10
  have hsum : (q.map (prN D w)).sum ≤ bdg D w ↔ fa_cnt (cutB D (lay (dN D) q)) 10 ≤ wC w := by
    unfold bdg
    by_cases hb : bndB D w = true
    · have e1 : (q.map (prN D w)).sum = fa_cnt (cutB D (lay (dN D) q)) 10 := by
        rw [sum_list, p1, ← heads_sum okw okd']
        have : ∀ m, m ≤ wK w → smN (fun d => prN D w (gD q d)) (fun _ => true) m = smN (fun d => fa_cnt (headB D (dP D (lay (dN D) q) d)) 10) (fun _ => true) m := by
          intro m
          induction m with
          | zero => intro _; rfl
          | succ m ih =>
            intro hm
            rw [smN, smN, ih (by omega)]
            have : prN D w (gD q m) = fa_cnt (headB D (dP D (lay (dN D) q) m)) 10 := by
              unfold prN
              rw [if_pos hb]
              exact fa_cnt_cong (fun t _ => headB_cong hN (fun j hj => (lay_dP hN hpq (by omega) hj).symm) t)
            rw [this]
        exact this _ (Nat.le_refl _)
      rw [if_pos hb, e1]
    · have e1 : (q.map (prN D w)).sum = 0 := by
        have : ∀ L : List Int32, (L.map (prN D w)).sum = 0 := by
          intro L
          induction L with
          | nil => rfl
          | cons x L ih =>
            rw [List.map_cons, List.sum_cons, ih]
            unfold prN
            rw [if_neg hb]
        exact this q
      rw [if_neg hb, e1]
      have hle : fa_cnt (cutB D (lay (dN D) q)) 10 ≤ fa_cnt (sevB D) 10 := by
        refine cnt_mono (fun t _ ht => ?_)
        obtain ⟨i, j, h1, h2, h3⟩ := cutB_iff.mp ht
        have hi := town_lt h1
        have hj := town_lt h2
        unfold sevB
        rw [decide_eq_true_eq]
        have hij : i ≠ j := fun z => h3 (by rw [z])
        have c1 := cnt_take h1 (show i < 30 by omega)
        have c2 := cnt_take (p := fun x => town D t x && !decide (x = i)) (j := j) (by simp [h2, Ne.symm hij]) (show j < 30 by omega)
        omega
      have hnb : ¬ wC w < fa_cnt (sevB D) 10 := fun z => hb (by unfold bndB; exact decide_eq_true z)
      exact ⟨fun _ => by omega, fun _ => Nat.le_refl _⟩
  rw [hmay, hmany, hsum]
  exact ⟨fun z => ⟨z.1, z.2.2⟩, fun z => ⟨z.1, hstray, z.2⟩⟩
theorem bdg_le {D : LD} {w : LW} (h12 : dN D ≤ 12) : bdg D w ≤ 5 := by
  unfold bdg
  by_cases hb : bndB D w = true
  · rw [if_pos hb]
    unfold bndB at hb
    rw [decide_eq_true_eq] at hb
    -- two places at least for each town
    have key : ∀ m, 2 * fa_cnt (sevB D) m ≤ fa_cnt (fun j => decide (j < dN D) && decide (dTw D j < m)) 30 := by
      intro m
      induction m with
      | zero => exact Nat.zero_le _
      | succ m ih =>
        have hsplit : fa_cnt (fun j => decide (j < dN D) && decide (dTw D j < m + 1)) 30 = fa_cnt (fun j => decide (j < dN D) && decide (dTw D j < m)) 30 + fa_cnt (town D m) 30 := by
          have : ∀ N, fa_cnt (fun j => decide (j < dN D) && decide (dTw D j < m + 1)) N = fa_cnt (fun j => decide (j < dN D) && decide (dTw D j < m)) N + fa_cnt (town D m) N := by
            intro N
            induction N with
            | zero => rfl
            | succ N ihN =>
              rw [fa_cnt, fa_cnt, fa_cnt, ihN]
              unfold town
              by_cases c1 : N < dN D
              · rcases Nat.lt_trichotomy (dTw D N) m with z | z | z
                · simp [c1, z, show dTw D N < m + 1 by omega, show ¬ dTw D N = m by omega]; omega
                · simp [c1, z]; omega
                · simp [c1, show ¬ dTw D N < m + 1 by omega, show ¬ dTw D N < m by omega, show ¬ dTw D N = m by omega]
              · simp [c1]
          exact this 30
        rw [hsplit]
        by_cases hs : sevB D m = true
        · rw [fa_cnt_yes hs]
          unfold sevB at hs
          rw [decide_eq_true_eq] at hs
          omega
        · have hs' : sevB D m = false := by
            cases hh : sevB D m with
            | false => rfl
            | true => exact absurd hh hs
          rw [fa_cnt_no hs']
          omega
    have h1 := key 10
    have h2 : fa_cnt (fun j => decide (j < dN D) && decide (dTw D j < 10)) 30 ≤ 12 := by
      rw [cnt_cut (m := 30) (n := 12) (by omega) (fun i c1 c2 => by rw [decide_eq_false (by omega)]; rfl)]
      exact fa_cnt_le _ 12
    omega
  · rw [if_neg hb]; omega
