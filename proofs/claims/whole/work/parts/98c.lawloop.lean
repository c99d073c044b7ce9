/-! the law's loop -/
theorem and31 (x : Int32) : ∃ t, t < 32 ∧ x &&& 31 = nI t := by
  refine ⟨(x &&& 31).toBitVec.toNat, ?_, ?_⟩
  · rw [Int32.toBitVec_and, BitVec.toNat_and]
    exact Nat.lt_of_le_of_lt Nat.and_le_right (by decide)
  · apply Int32.toBitVec_inj.mp
    show _ = BitVec.ofNat 32 _
    rw [BitVec.ofNat_toNat, BitVec.setWidth_eq]
theorem cmpL {L j : Nat} (hL : L ≤ 3072) (h : 6 * j ≤ L) : (Int32.ofNat L - 6 < nI (6 * j)) ↔ ¬ (6 * j + 6 ≤ L) := by
  by_cases h6 : 6 ≤ L
  · have e : Int32.ofNat L - 6 = nI (L - 6) := by
      have e2 := nI_plus 6 (L - 6)
      rw [show L - 6 + 6 = L by omega] at e2
      show nI L - nI 6 = _
      rw [← e2]
      exact Int32.add_sub_cancel _ _
    rw [e, ← Int32.not_le, le_nI (6 * j) (L - 6) rfl rfl (by omega) (by omega)]
    omega
  · have hj : j = 0 := by omega
    subst hj
    rcases (show L = 0 ∨ L = 1 ∨ L = 2 ∨ L = 3 ∨ L = 4 ∨ L = 5 by omega) with rfl | rfl | rfl | rfl | rfl | rfl <;> decide
theorem law_loop {p : Program} {e : Env} {s : State} {m : MethodId} {below : List Frame} {meth : Method} {c : Code} {b L : Nat} {xs : Nat → Int32} {E : Wd} (C : lA p s m meth c b L xs E) (hL : L ≤ 3072) : ∀ j, j ≤ 512 → ∀ (h : Hp) (S : ST), ClW h S → MoW h S → okST S → 6 * j ≤ L → X p e s m below meth c b E 18 [some (.ref 64), some (.ref 0), some (.ref 41), some (.int (nI (6 * j)))] [] h := by
  refine up_ind 512 ?_
  intro j hj ih h S hc hm ok h6
  refine X_iload_n C d_L_law_18 rfl ?_
  refine X_aload_n C d_L_law_19 rfl ?_
  refine X_alen C d_L_law_20 ?_
  refine X_bipush (v := 6) C d_L_law_21 (by decide) ?_
  refine X_isub C d_L_law_23 ?_
  refine X_icmp_gt (tgt := 839) C d_L_law_24 (by decide) (fun b24 => ?_) (fun b24 => ?_)
  · refine X_iconst (v := 1) C d_L_law_839 (by decide) ?_
    exact X_ret C d_L_law_840
  · have hb : 6 * j + 6 ≤ L := by
      rcases Nat.lt_or_ge L (6 * j + 6) with q | q
      · exact absurd ((cmpL hL h6).mpr (by omega)) b24
      · exact q
    refine X_aload_n C d_L_law_27 rfl ?_
    refine X_iload_n C d_L_law_28 rfl ?_
    refine X_ald (j := 6 * j) C d_L_law_29 rfl (by omega) hL ?_
    refine X_bipush (v := 31) C d_L_law_30 (by decide) ?_
    refine X_iand C d_L_law_32 ?_
    obtain ⟨t, ht, et⟩ := and31 (xs (6 * j))
    rw [et]
    refine lc_pick C hL hb hc hm ok ht (fun h2 S2 c2 m2 ok2 => ?_)
    refine X_iinc (v := nI (6 * (j + 1))) C d_L_law_833 rfl ?_ (by decide) ?_
    · show nI (6 * j) + nI 6 = _
      rw [nI_plus, show 6 * (j + 1) = 6 * j + 6 by omega]
    dsimp only [List.set]
    refine X_goto (tgt := 18) C d_L_law_836 (by decide) ?_
    exact ih (by omega) h2 S2 c2 m2 ok2 (by omega)
