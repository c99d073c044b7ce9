/-! plant(), walked -/
def HP (h : Hp) (s : Int32) (f g t : Nat → Int32) : Hp := hrow (hrow (hrow (hup h 41 19 s) 53 f) 55 g) 54 t
theorem HP_n (h : Hp) (s : Int32) (f g t : Nat → Int32) : HP h s f g t 53 = f := by unfold HP; rw [hrow_ne (by omega), hrow_ne (by omega), hrow_same]
theorem HP_r (h : Hp) (s : Int32) (f g t : Nat → Int32) : HP h s f g t 55 = g := by unfold HP; rw [hrow_ne (by omega), hrow_same]
theorem HP_t (h : Hp) (s : Int32) (f g t : Nat → Int32) : HP h s f g t 54 = t := by unfold HP; rw [hrow_same]
theorem HP_ne {h : Hp} {s : Int32} {f g t : Nat → Int32} {q : Nat} (h1 : q ≠ 41) (h2 : q ≠ 53) (h3 : q ≠ 55) (h4 : q ≠ 54) : HP h s f g t q = h q := by unfold HP; rw [hrow_ne h4, hrow_ne h3, hrow_ne h2, hup_ne h1]
theorem HP_f {h : Hp} {s : Int32} {f g t : Nat → Int32} {k : Nat} (hk : k ≠ 19) : HP h s f g t 41 k = h 41 k := by unfold HP; rw [hrow_ne (by omega), hrow_ne (by omega), hrow_ne (by omega), hup_same, upd_n hk]
theorem HP_s (h : Hp) (s : Int32) (f g t : Nat → Int32) : HP h s f g t 41 19 = s := by unfold HP; rw [hrow_ne (by omega), hrow_ne (by omega), hrow_ne (by omega), hup_same, upd_s]
theorem HP_un (h : Hp) (s : Int32) (f g t : Nat → Int32) (i : Nat) (x : Int32) : hup (HP h s f g t) 53 i x = HP h s (upd f i x) g t := by
  rw [hup_row, HP_n]
  unfold HP
  rw [hrow_comm _ (by omega), hrow_comm (hrow (hup h 41 19 s) 53 f) (by omega), hrow_twice]
theorem HP_ur (h : Hp) (s : Int32) (f g t : Nat → Int32) (i : Nat) (x : Int32) : hup (HP h s f g t) 55 i x = HP h s f (upd g i x) t := by
  rw [hup_row, HP_r]
  unfold HP
  rw [hrow_comm _ (by omega), hrow_twice]
theorem HP_ut (h : Hp) (s : Int32) (f g t : Nat → Int32) (i : Nat) (x : Int32) : hup (HP h s f g t) 54 i x = HP h s f g (upd t i x) := by
  rw [hup_row, HP_t]
  unfold HP
  rw [hrow_twice]
theorem hup_self (h : Hp) (o i : Nat) : hup h o i (h o i) = h := by
  rw [hup_row]
  have : upd (h o) i (h o i) = h o := by
    funext j
    by_cases c : j = i
    · rw [c, upd_s]
    · rw [upd_n c]
  rw [this, hrow_self]
theorem upd_twice (f : Nat → Int32) (i : Nat) (x y : Int32) : upd (upd f i x) i y = upd f i y := by
  funext j
  by_cases c : j = i
  · rw [c, upd_s, upd_s]
  · rw [upd_n c, upd_n c, upd_n c]
theorem HP_us (h : Hp) (s : Int32) (f g t : Nat → Int32) (x : Int32) : hup (HP h s f g t) 41 19 x = HP h x f g t := by
  unfold HP
  funext q
  by_cases c : q = 41
  · subst c
    rw [hup_same, hrow_ne (by omega), hrow_ne (by omega), hrow_ne (by omega), hup_same, hrow_ne (by omega), hrow_ne (by omega), hrow_ne (by omega), hup_same, upd_twice]
  · rw [hup_ne c]
    by_cases c1 : q = 54
    · subst c1; rw [hrow_same, hrow_same]
    · rw [hrow_ne c1, hrow_ne c1]
      by_cases c2 : q = 55
      · subst c2; rw [hrow_same, hrow_same]
      · rw [hrow_ne c2, hrow_ne c2]
        by_cases c3 : q = 53
        · subst c3; rw [hrow_same, hrow_same]
        · rw [hrow_ne c3, hrow_ne c3, hup_ne c, hup_ne c]
theorem HP_self (h : Hp) : HP h (h 41 19) (h 53) (h 55) (h 54) = h := by
  unfold HP
  rw [hup_self, hrow_self, hrow_self, hrow_self]
theorem HP_keep (h : Hp) (s : Int32) (f g t : Nat → Int32) : mKeep h (HP h s f g t) := ⟨fun q h1 h2 => HP_ne (by omega) (by omega) (by omega) (by omega), HP_f (by omega), HP_f (by omega), HP_f (by omega), HP_f (by omega), HP_f (by omega)⟩
theorem HP_ds {h : Hp} {s : Int32} {f g t : Nat → Int32} : HP h s f g t 52 = h 52 := HP_ne (by omega) (by omega) (by omega) (by omega)
def plQ (h : Hp) (D : LD) (M : Nat → Bool) (s : Int32) : Option Value → Hp → Prop := fun v h' => ∃ f g t tr m, v = some (.int (nI m)) ∧ h' = HP h (itS s (fa_cnt (isIn D M) (dB D))) f g t ∧ lsT tr m (dB D) (trP D M s) ∧ m ≤ 30 ∧ ∀ i, i < m → t i = nI (tr i)
def pnd (D : LD) (M X : Nat → Bool) (b : Nat) : Bool := isIn D M b && !X b
theorem pnd_iff {D : LD} {M X : Nat → Bool} {b : Nat} : pnd D M X b = true ↔ isIn D M b = true ∧ X b = false := by
  unfold pnd
  simp
theorem pl_sort {E : Wd} {h : Hp} {D : LD} (hl : MoLand h D) (ok : okLD D) {z : Int32} {tr : Nat → Nat} {m l : Nat} (hm : m < 30) (hl2 : l < 100) (htr : ∀ i, i < m → tr i < 100 ∧ tr i ≠ l) {Q : Option Value → Hp → Prop} {u1 u3 u5 u6 : Option Value} {f g : Nat → Int32} (hinc : ∀ i j, i < j → j < m → tr i < tr j) (k : ∀ a t u7, a ≤ m → (∀ i, i < a → tr i < l) → (∀ i, a ≤ i → i < m → l < tr i) → (∀ j, j < m + 1 → t j = nI (insL tr a l j)) → V E 1 m_Mo_plant Q 322 [some (.ref 41), u1, some (.int (nI (m + 1))), u3, some (.int (nI l)), u5, u6, u7] [] (HP h z f g t)) : ∀ a, a ≤ m → ∀ t, (∀ j, j < a → t j = nI (tr j)) → (∀ j, a < j → j < m + 1 → t j = nI (tr (j - 1))) → (∀ i, a ≤ i → i < m → l < tr i) → V E 1 m_Mo_plant Q 269 [some (.ref 41), u1, some (.int (nI m)), u3, some (.int (nI l)), u5, u6, some (.int (nI a))] [] (HP h z f g t) := by
  have put : ∀ a t, a ≤ m → (∀ i, i < a → tr i < l) → (∀ i, a ≤ i → i < m → l < tr i) → (∀ j, j < a → t j = nI (tr j)) → (∀ j, a < j → j < m + 1 → t j = nI (tr (j - 1))) → V E 1 m_Mo_plant Q 310 [some (.ref 41), u1, some (.int (nI m)), u3, some (.int (nI l)), u5, u6, some (.int (nI a))] [] (HP h z f g t) := by
    intro a t ha h1 h2 h3 h4
    refine V_aload_n d_Mo_plant_310 rfl ?_
    refine V_getR d_Mo_plant_311 f_Mo_57 rfl (by first | rfl | assumption) (by first | rfl | assumption) ?_
    refine V_iload d_Mo_plant_314 rfl ?_
    refine V_iload d_Mo_plant_316 rfl ?_
    refine V_iast d_Mo_plant_318 (by first | rfl | assumption) (by first | assumption | exact vp_in_nI (by omega) (by omega)) ?_
    refine V_iincw (w := 1) d_Mo_plant_319 rfl (by decide) (by decide) ?_
    dsimp only [List.set]
    rw [nI_clamp (by omega), HP_ut, nI_1]
    refine k a _ _ ha h1 h2 (fun j hj => ?_)
    unfold insL
    by_cases c : j < a
    · rw [if_pos c, upd_n (by omega)]; exact h3 j c
    · rw [if_neg c]
      by_cases c2 : j = a
      · rw [if_pos c2, c2, upd_s]
      · rw [if_neg c2, upd_n c2]; exact h4 j (by omega) hj
  intro a
  induction a with
  | zero =>
    intro _ t h3 h4 h2
    refine V_iload d_Mo_plant_269 rfl ?_
    refine V_if_le (tgt := 310) d_Mo_plant_271 (by decide) (fun b271 => ?_) (fun b271 => ?_)
    · exact put 0 t (by omega) (fun i hi => absurd hi (Nat.not_lt_zero i)) h2 h3 h4
    · exact absurd (by decide) b271
  | succ a ih =>
    intro ha t h3 h4 h2
    have hta := htr a (by omega)
    have em : nI (a + 1) - 1 = nI a := by rw [← nI_1]; simp
    have em2 : nI (a + 1) + -1 = nI a := by rw [← nI_1, Int32.add_assoc]; simp
    refine V_iload d_Mo_plant_269 rfl ?_
    refine V_if_le (tgt := 310) d_Mo_plant_271 (by decide) (fun b271 => ?_) (fun b271 => ?_)
    · exact absurd b271 (by rw [show ((0 : Int32)) = nI 0 from rfl, nI_leI (by omega) (by omega)]; omega)
    · refine V_aload_n d_Mo_plant_274 rfl ?_
      refine V_getR d_Mo_plant_275 f_Mo_57 rfl (by first | rfl | assumption) (by first | rfl | assumption) ?_
      refine V_iload d_Mo_plant_278 rfl ?_
      refine V_iconst (v := 1) d_Mo_plant_280 (by decide) ?_
      refine V_isub d_Mo_plant_281 ?_
      rw [em]
      refine V_iald d_Mo_plant_282 (by first | rfl | assumption) (by first | assumption | exact vp_in_nI (by omega) (by omega)) ?_
      rw [nI_clamp (by omega), HP_t, h3 a (by omega)]
      refine V_iload d_Mo_plant_283 rfl ?_
      refine V_icmp_le (tgt := 310) d_Mo_plant_285 (by decide) (fun b285 => ?_) (fun b285 => ?_)
      · have hle := (nI_leI (by omega) (by omega)).mp b285
        refine put (a + 1) t ha (fun i hi => ?_) h2 h3 h4
        rcases Nat.lt_or_ge i a with c | c
        · have := hinc i a c (by omega); omega
        · rw [show i = a by omega]; have := hta.2; omega
      · have hgt : l < tr a := by
          rcases Nat.lt_or_ge l (tr a) with c | c
          · exact c
          · exact absurd (nI_le c (by omega)) b285
        refine V_aload_n d_Mo_plant_288 rfl ?_
        refine V_getR d_Mo_plant_289 f_Mo_57 rfl (by first | rfl | assumption) (by first | rfl | assumption) ?_
        refine V_iload d_Mo_plant_292 rfl ?_
        refine V_aload_n d_Mo_plant_294 rfl ?_
        refine V_getR d_Mo_plant_295 f_Mo_57 rfl (by first | rfl | assumption) (by first | rfl | assumption) ?_
        refine V_iload d_Mo_plant_298 rfl ?_
        refine V_iconst (v := 1) d_Mo_plant_300 (by decide) ?_
        refine V_isub d_Mo_plant_301 ?_
        rw [em]
        refine V_iald d_Mo_plant_302 (by first | rfl | assumption) (by first | assumption | exact vp_in_nI (by omega) (by omega)) ?_
        refine V_iast d_Mo_plant_303 (by first | rfl | assumption) (by first | assumption | exact vp_in_nI (by omega) (by omega)) ?_
        rw [nI_clamp (by omega), nI_clamp (by omega), HP_t, h3 a (by omega), HP_ut]
        refine V_iincw (w := -1) d_Mo_plant_304 rfl (by decide) (by decide) ?_
        dsimp only [List.set]
        refine V_goto (tgt := 269) d_Mo_plant_307 (by decide) ?_
        rw [em2]
        refine ih (by omega) _ (fun j hj => ?_) (fun j hj hj2 => ?_) (fun i hi hi2 => ?_)
        · rw [upd_n (by omega)]; exact h3 j (by omega)
        · by_cases c : j = a + 1
          · rw [c, upd_s, Nat.add_sub_cancel]
          · rw [upd_n c]; exact h4 j (by omega) hj2
        · rcases Nat.lt_or_ge a i with c | c
          · exact h2 i (by omega) hi2
          · rw [show i = a by omega]; exact hgt
