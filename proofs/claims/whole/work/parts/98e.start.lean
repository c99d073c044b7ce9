set_option maxRecDepth 100000
theorem h00_z {q : Nat} (h : (q == 11 || q == 13 || q == 41 || q == 51) = false) : h00 q = fun _ => 0 := by
  simp only [Bool.or_eq_false_iff, beq_eq_false_iff_ne] at h
  unfold h00
  rw [if_neg h.1.1.1, if_neg h.1.1.2, if_neg h.1.2, if_neg h.2]
theorem h00_13 : h00 13 = fm00 := by
  unfold h00
  rw [if_neg (by decide), if_pos rfl]
theorem h00_51 : h00 51 = fm00 := by
  unfold h00
  rw [if_neg (by decide), if_neg (by decide), if_neg (by decide), if_pos rfl]
theorem h00_11 : h00 11 = fun k => if k = 0 then 2 else if k = 1 then 100 else if k = 2 then 10 else 0 := by
  unfold h00
  rw [if_pos rfl]
theorem h00_41 : h00 41 = fun k => if k = 10 then 2 else if k = 11 then 100 else if k = 13 then 10 else 0 := by
  unfold h00
  rw [if_neg (by decide), if_neg (by decide), if_pos rfl]
def wf2 (ad : Nat → Nat) (f : Nat → Int32) : Nat → List (Option Nat) → List Value
  | _, [] => []
  | k, r :: rs => (match r with | some q => .ref (ad q) | none => .int (f k)) :: wf2 ad f (k + 1) rs
theorem wfl_wf2 (ad : Nat → Nat) (f : Nat → Int32) (rs : List (Option Nat)) : wfl ad f rs = wf2 ad f 0 rs := by
  have key : ∀ (rs : List (Option Nat)) (n : Nat), (rs.mapIdx fun k r => match r with | some q => Value.ref (ad q) | none => .int (f (k + n))) = wf2 ad f n rs := by
    intro rs
    induction rs with
    | nil => intro n; rfl
    | cons r rs ih =>
      intro n
      rw [List.mapIdx_cons]
      show _ = (match r with | some q => Value.ref (ad q) | none => .int (f n)) :: wf2 ad f (n + 1) rs
      rw [← ih (n + 1)]
      simp only [Nat.zero_add, Nat.add_assoc, Nat.add_comm 1 n]
  exact key rs 0
theorem wc_0 (E : Wd) : wce E h00 0 (.inr (10, [some 1, some 11, some 14, some 17, some 18, some 20, some 25, some 33, some 34])) = ((E.2.1 0), .inr (10, [.ref (E.2.1 1), .ref (E.2.1 11), .ref (E.2.1 14), .ref (E.2.1 17), .ref (E.2.1 18), .ref (E.2.1 20), .ref (E.2.1 25), .ref (E.2.1 33), .ref (E.2.1 34)])) := by
  unfold wce
  rw [h00_z rfl]
  rfl
theorem wc_1 (E : Wd) : wce E h00 1 (.inr (3, [none, none, none, some 2, some 3, some 4, some 5, some 6, some 7, some 8, some 9, some 10])) = ((E.2.1 1), .inr (3, [.int 0, .int 0, .int 0, .ref (E.2.1 2), .ref (E.2.1 3), .ref (E.2.1 4), .ref (E.2.1 5), .ref (E.2.1 6), .ref (E.2.1 7), .ref (E.2.1 8), .ref (E.2.1 9), .ref (E.2.1 10)])) := by
  unfold wce
  rw [h00_z rfl]
  rfl
theorem wc_2 (E : Wd) : wce E h00 2 (.inl (false, 30)) = ((E.2.1 2), .inl (E.2.2.1, 30, .inl (fun _ => 0))) := by
  unfold wce
  rw [h00_z rfl]
  rfl
theorem wc_3 (E : Wd) : wce E h00 3 (.inl (false, 30)) = ((E.2.1 3), .inl (E.2.2.1, 30, .inl (fun _ => 0))) := by
  unfold wce
  rw [h00_z rfl]
  rfl
theorem wc_4 (E : Wd) : wce E h00 4 (.inl (false, 30)) = ((E.2.1 4), .inl (E.2.2.1, 30, .inl (fun _ => 0))) := by
  unfold wce
  rw [h00_z rfl]
  rfl
theorem wc_5 (E : Wd) : wce E h00 5 (.inl (false, 30)) = ((E.2.1 5), .inl (E.2.2.1, 30, .inl (fun _ => 0))) := by
  unfold wce
  rw [h00_z rfl]
  rfl
theorem wc_6 (E : Wd) : wce E h00 6 (.inl (false, 30)) = ((E.2.1 6), .inl (E.2.2.1, 30, .inl (fun _ => 0))) := by
  unfold wce
  rw [h00_z rfl]
  rfl
theorem wc_7 (E : Wd) : wce E h00 7 (.inl (false, 10)) = ((E.2.1 7), .inl (E.2.2.1, 10, .inl (fun _ => 0))) := by
  unfold wce
  rw [h00_z rfl]
  rfl
theorem wc_8 (E : Wd) : wce E h00 8 (.inl (false, 100)) = ((E.2.1 8), .inl (E.2.2.1, 100, .inl (fun _ => 0))) := by
  unfold wce
  rw [h00_z rfl]
  rfl
theorem wc_9 (E : Wd) : wce E h00 9 (.inl (false, 100)) = ((E.2.1 9), .inl (E.2.2.1, 100, .inl (fun _ => 0))) := by
  unfold wce
  rw [h00_z rfl]
  rfl
theorem wc_10 (E : Wd) : wce E h00 10 (.inl (false, 100)) = ((E.2.1 10), .inl (E.2.2.1, 100, .inl (fun _ => 0))) := by
  unfold wce
  rw [h00_z rfl]
  rfl
theorem wc_11 (E : Wd) : wce E h00 11 (.inr (4, [none, none, none, some 12, some 13])) = ((E.2.1 11), .inr (4, [.int 2, .int 100, .int 10, .ref (E.2.1 12), .ref (E.2.1 13)])) := by
  unfold wce
  rw [h00_11]
  rfl
theorem wc_12 (E : Wd) : wce E h00 12 (.inl (true, 10)) = ((E.2.1 12), .inl (E.2.2.2.1, 10, .inl (fun _ => 0))) := by
  unfold wce
  rw [h00_z rfl]
  rfl
theorem wc_13 (E : Wd) : wce E h00 13 (.inl (false, 30)) = ((E.2.1 13), .inl (E.2.2.1, 30, .inl (fm00))) := by
  unfold wce
  rw [h00_13]
  rfl
theorem wc_14 (E : Wd) : wce E h00 14 (.inr (6, [some 15, some 16])) = ((E.2.1 14), .inr (6, [.ref (E.2.1 15), .ref (E.2.1 16)])) := by
  unfold wce
  rw [h00_z rfl]
  rfl
theorem wc_15 (E : Wd) : wce E h00 15 (.inl (false, 30)) = ((E.2.1 15), .inl (E.2.2.1, 30, .inl (fun _ => 0))) := by
  unfold wce
  rw [h00_z rfl]
  rfl
theorem wc_16 (E : Wd) : wce E h00 16 (.inl (false, 6)) = ((E.2.1 16), .inl (E.2.2.1, 6, .inl (fun _ => 0))) := by
  unfold wce
  rw [h00_z rfl]
  rfl
theorem wc_17 (E : Wd) : wce E h00 17 (.inr (1, [some 1, some 11])) = ((E.2.1 17), .inr (1, [.ref (E.2.1 1), .ref (E.2.1 11)])) := by
  unfold wce
  rw [h00_z rfl]
  rfl
theorem wc_18 (E : Wd) : wce E h00 18 (.inr (7, [some 19, some 1, some 11])) = ((E.2.1 18), .inr (7, [.ref (E.2.1 19), .ref (E.2.1 1), .ref (E.2.1 11)])) := by
  unfold wce
  rw [h00_z rfl]
  rfl
theorem wc_19 (E : Wd) : wce E h00 19 (.inl (false, 6)) = ((E.2.1 19), .inl (E.2.2.1, 6, .inl (fun _ => 0))) := by
  unfold wce
  rw [h00_z rfl]
  rfl
theorem wc_20 (E : Wd) : wce E h00 20 (.inr (0, [none, some 21, some 1, some 11, some 17, some 18, some 22, some 23, some 24, none, none, none, none, none, none])) = ((E.2.1 20), .inr (0, [.int 0, .ref (E.2.1 21), .ref (E.2.1 1), .ref (E.2.1 11), .ref (E.2.1 17), .ref (E.2.1 18), .ref (E.2.1 22), .ref (E.2.1 23), .ref (E.2.1 24), .int 0, .int 0, .int 0, .int 0, .int 0, .int 0])) := by
  unfold wce
  rw [h00_z rfl]
  rfl
theorem wc_21 (E : Wd) : wce E h00 21 (.inl (false, 3)) = ((E.2.1 21), .inl (E.2.2.1, 3, .inl (fun _ => 0))) := by
  unfold wce
  rw [h00_z rfl]
  rfl
theorem wc_22 (E : Wd) : wce E h00 22 (.inl (false, 6)) = ((E.2.1 22), .inl (E.2.2.1, 6, .inl (fun _ => 0))) := by
  unfold wce
  rw [h00_z rfl]
  rfl
theorem wc_23 (E : Wd) : wce E h00 23 (.inl (false, 4096)) = ((E.2.1 23), .inl (E.2.2.1, 4096, .inl (fun _ => 0))) := by
  unfold wce
  rw [h00_z rfl]
  rfl
theorem wc_24 (E : Wd) : wce E h00 24 (.inr (9192, [])) = ((E.2.1 24), .inl (E.2.2.2.2.2, 8192, .inr (.inl (jnr (fun _ => 0))))) := by
  unfold wce
  rw [h00_z rfl]
  rfl
theorem wc_25 (E : Wd) : wce E h00 25 (.inr (9, [none, none, some 26, some 1, some 17, some 18, some 30, some 27, some 28, some 29])) = ((E.2.1 25), .inr (9, [.int 0, .int 0, .ref (E.2.1 26), .ref (E.2.1 1), .ref (E.2.1 17), .ref (E.2.1 18), .ref (E.2.1 30), .ref (E.2.1 27), .ref (E.2.1 28), .ref (E.2.1 29)])) := by
  unfold wce
  rw [h00_z rfl]
  rfl
theorem wc_26 (E : Wd) : wce E h00 26 (.inl (false, 6)) = ((E.2.1 26), .inl (E.2.2.1, 6, .inl (fun _ => 0))) := by
  unfold wce
  rw [h00_z rfl]
  rfl
theorem wc_27 (E : Wd) : wce E h00 27 (.inl (false, 30)) = ((E.2.1 27), .inl (E.2.2.1, 30, .inl (fun _ => 0))) := by
  unfold wce
  rw [h00_z rfl]
  rfl
theorem wc_28 (E : Wd) : wce E h00 28 (.inl (false, 30)) = ((E.2.1 28), .inl (E.2.2.1, 30, .inl (fun _ => 0))) := by
  unfold wce
  rw [h00_z rfl]
  rfl
theorem wc_29 (E : Wd) : wce E h00 29 (.inl (false, 100)) = ((E.2.1 29), .inl (E.2.2.1, 100, .inl (fun _ => 0))) := by
  unfold wce
  rw [h00_z rfl]
  rfl
theorem wc_30 (E : Wd) : wce E h00 30 (.inr (6, [some 31, some 32])) = ((E.2.1 30), .inr (6, [.ref (E.2.1 31), .ref (E.2.1 32)])) := by
  unfold wce
  rw [h00_z rfl]
  rfl
theorem wc_31 (E : Wd) : wce E h00 31 (.inl (false, 30)) = ((E.2.1 31), .inl (E.2.2.1, 30, .inl (fun _ => 0))) := by
  unfold wce
  rw [h00_z rfl]
  rfl
theorem wc_32 (E : Wd) : wce E h00 32 (.inl (false, 6)) = ((E.2.1 32), .inl (E.2.2.1, 6, .inl (fun _ => 0))) := by
  unfold wce
  rw [h00_z rfl]
  rfl
theorem wc_33 (E : Wd) : wce E h00 33 (.inr (2, [some 1, some 11, some 17])) = ((E.2.1 33), .inr (2, [.ref (E.2.1 1), .ref (E.2.1 11), .ref (E.2.1 17)])) := by
  unfold wce
  rw [h00_z rfl]
  rfl
theorem wc_34 (E : Wd) : wce E h00 34 (.inr (5, [some 1, some 11, some 17, some 35, some 38, none, none])) = ((E.2.1 34), .inr (5, [.ref (E.2.1 1), .ref (E.2.1 11), .ref (E.2.1 17), .ref (E.2.1 35), .ref (E.2.1 38), .int 0, .int 0])) := by
  unfold wce
  rw [h00_z rfl]
  rfl
theorem wc_35 (E : Wd) : wce E h00 35 (.inr (6, [some 36, some 37])) = ((E.2.1 35), .inr (6, [.ref (E.2.1 36), .ref (E.2.1 37)])) := by
  unfold wce
  rw [h00_z rfl]
  rfl
theorem wc_36 (E : Wd) : wce E h00 36 (.inl (false, 30)) = ((E.2.1 36), .inl (E.2.2.1, 30, .inl (fun _ => 0))) := by
  unfold wce
  rw [h00_z rfl]
  rfl
theorem wc_37 (E : Wd) : wce E h00 37 (.inl (false, 6)) = ((E.2.1 37), .inl (E.2.2.1, 6, .inl (fun _ => 0))) := by
  unfold wce
  rw [h00_z rfl]
  rfl
theorem wc_38 (E : Wd) : wce E h00 38 (.inr (6, [some 39, some 40])) = ((E.2.1 38), .inr (6, [.ref (E.2.1 39), .ref (E.2.1 40)])) := by
  unfold wce
  rw [h00_z rfl]
  rfl
theorem wc_39 (E : Wd) : wce E h00 39 (.inl (false, 30)) = ((E.2.1 39), .inl (E.2.2.1, 30, .inl (fun _ => 0))) := by
  unfold wce
  rw [h00_z rfl]
  rfl
theorem wc_40 (E : Wd) : wce E h00 40 (.inl (false, 6)) = ((E.2.1 40), .inl (E.2.2.1, 6, .inl (fun _ => 0))) := by
  unfold wce
  rw [h00_z rfl]
  rfl
theorem wc_41 (E : Wd) : wce E h00 41 (.inr (11, [some 42, some 43, some 44, some 45, none, some 46, some 47, some 48, none, some 49, none, none, some 50, none, some 51, some 52, none, none, none, none, some 53, some 54, some 55, some 56, some 57, some 58, some 59, none, some 60, some 61, none, none, none, none, none, some 62, none, some 63, none, none])) = ((E.2.1 41), .inr (11, [.ref (E.2.1 42), .ref (E.2.1 43), .ref (E.2.1 44), .ref (E.2.1 45), .int 0, .ref (E.2.1 46), .ref (E.2.1 47), .ref (E.2.1 48), .int 0, .ref (E.2.1 49), .int 2, .int 100, .ref (E.2.1 50), .int 10, .ref (E.2.1 51), .ref (E.2.1 52), .int 0, .int 0, .int 0, .int 0, .ref (E.2.1 53), .ref (E.2.1 54), .ref (E.2.1 55), .ref (E.2.1 56), .ref (E.2.1 57), .ref (E.2.1 58), .ref (E.2.1 59), .int 0, .ref (E.2.1 60), .ref (E.2.1 61), .int 0, .int 0, .int 0, .int 0, .int 0, .ref (E.2.1 62), .int 0, .ref (E.2.1 63), .int 0, .int 0])) := by
  unfold wce
  rw [h00_41]
  dsimp only
  rw [if_neg (by decide), wfl_wf2]
  rfl
theorem wc_42 (E : Wd) : wce E h00 42 (.inl (false, 30)) = ((E.2.1 42), .inl (E.2.2.1, 30, .inl (fun _ => 0))) := by
  unfold wce
  rw [h00_z rfl]
  rfl
theorem wc_43 (E : Wd) : wce E h00 43 (.inl (false, 60)) = ((E.2.1 43), .inl (E.2.2.1, 60, .inl (fun _ => 0))) := by
  unfold wce
  rw [h00_z rfl]
  rfl
theorem wc_44 (E : Wd) : wce E h00 44 (.inl (false, 30)) = ((E.2.1 44), .inl (E.2.2.1, 30, .inl (fun _ => 0))) := by
  unfold wce
  rw [h00_z rfl]
  rfl
theorem wc_45 (E : Wd) : wce E h00 45 (.inl (false, 30)) = ((E.2.1 45), .inl (E.2.2.1, 30, .inl (fun _ => 0))) := by
  unfold wce
  rw [h00_z rfl]
  rfl
theorem wc_46 (E : Wd) : wce E h00 46 (.inl (false, 100)) = ((E.2.1 46), .inl (E.2.2.1, 100, .inl (fun _ => 0))) := by
  unfold wce
  rw [h00_z rfl]
  rfl
theorem wc_47 (E : Wd) : wce E h00 47 (.inl (false, 100)) = ((E.2.1 47), .inl (E.2.2.1, 100, .inl (fun _ => 0))) := by
  unfold wce
  rw [h00_z rfl]
  rfl
theorem wc_48 (E : Wd) : wce E h00 48 (.inl (false, 100)) = ((E.2.1 48), .inl (E.2.2.1, 100, .inl (fun _ => 0))) := by
  unfold wce
  rw [h00_z rfl]
  rfl
theorem wc_49 (E : Wd) : wce E h00 49 (.inl (false, 30)) = ((E.2.1 49), .inl (E.2.2.1, 30, .inl (fun _ => 0))) := by
  unfold wce
  rw [h00_z rfl]
  rfl
theorem wc_50 (E : Wd) : wce E h00 50 (.inl (true, 10)) = ((E.2.1 50), .inl (E.2.2.2.1, 10, .inl (fun _ => 0))) := by
  unfold wce
  rw [h00_z rfl]
  rfl
theorem wc_51 (E : Wd) : wce E h00 51 (.inl (false, 30)) = ((E.2.1 51), .inl (E.2.2.1, 30, .inl (fm00))) := by
  unfold wce
  rw [h00_51]
  rfl
theorem wc_52 (E : Wd) : wce E h00 52 (.inl (false, 30)) = ((E.2.1 52), .inl (E.2.2.1, 30, .inl (fun _ => 0))) := by
  unfold wce
  rw [h00_z rfl]
  rfl
theorem wc_53 (E : Wd) : wce E h00 53 (.inl (false, 100)) = ((E.2.1 53), .inl (E.2.2.1, 100, .inl (fun _ => 0))) := by
  unfold wce
  rw [h00_z rfl]
  rfl
theorem wc_54 (E : Wd) : wce E h00 54 (.inl (false, 30)) = ((E.2.1 54), .inl (E.2.2.1, 30, .inl (fun _ => 0))) := by
  unfold wce
  rw [h00_z rfl]
  rfl
theorem wc_55 (E : Wd) : wce E h00 55 (.inl (false, 30)) = ((E.2.1 55), .inl (E.2.2.1, 30, .inl (fun _ => 0))) := by
  unfold wce
  rw [h00_z rfl]
  rfl
theorem wc_56 (E : Wd) : wce E h00 56 (.inl (false, 30)) = ((E.2.1 56), .inl (E.2.2.1, 30, .inl (fun _ => 0))) := by
  unfold wce
  rw [h00_z rfl]
  rfl
theorem wc_57 (E : Wd) : wce E h00 57 (.inl (false, 30)) = ((E.2.1 57), .inl (E.2.2.1, 30, .inl (fun _ => 0))) := by
  unfold wce
  rw [h00_z rfl]
  rfl
theorem wc_58 (E : Wd) : wce E h00 58 (.inl (false, 30)) = ((E.2.1 58), .inl (E.2.2.1, 30, .inl (fun _ => 0))) := by
  unfold wce
  rw [h00_z rfl]
  rfl
theorem wc_59 (E : Wd) : wce E h00 59 (.inl (false, 6)) = ((E.2.1 59), .inl (E.2.2.1, 6, .inl (fun _ => 0))) := by
  unfold wce
  rw [h00_z rfl]
  rfl
theorem wc_60 (E : Wd) : wce E h00 60 (.inl (false, 6)) = ((E.2.1 60), .inl (E.2.2.1, 6, .inl (fun _ => 0))) := by
  unfold wce
  rw [h00_z rfl]
  rfl
theorem wc_61 (E : Wd) : wce E h00 61 (.inl (false, 6)) = ((E.2.1 61), .inl (E.2.2.1, 6, .inl (fun _ => 0))) := by
  unfold wce
  rw [h00_z rfl]
  rfl
theorem wc_62 (E : Wd) : wce E h00 62 (.inl (false, 3)) = ((E.2.1 62), .inl (E.2.2.1, 3, .inl (fun _ => 0))) := by
  unfold wce
  rw [h00_z rfl]
  rfl
theorem wc_63 (E : Wd) : wce E h00 63 (.inl (false, 6)) = ((E.2.1 63), .inl (E.2.2.1, 6, .inl (fun _ => 0))) := by
  unfold wce
  rw [h00_z rfl]
  rfl
def stw (E : Wd) : va_W := [((E.2.1 0), .inr (10, [.ref (E.2.1 1), .ref (E.2.1 11), .ref (E.2.1 14), .ref (E.2.1 17), .ref (E.2.1 18), .ref (E.2.1 20), .ref (E.2.1 25), .ref (E.2.1 33), .ref (E.2.1 34)])), ((E.2.1 1), .inr (3, [.int 0, .int 0, .int 0, .ref (E.2.1 2), .ref (E.2.1 3), .ref (E.2.1 4), .ref (E.2.1 5), .ref (E.2.1 6), .ref (E.2.1 7), .ref (E.2.1 8), .ref (E.2.1 9), .ref (E.2.1 10)])), ((E.2.1 2), .inl (E.2.2.1, 30, .inl (fun _ => 0))), ((E.2.1 3), .inl (E.2.2.1, 30, .inl (fun _ => 0))), ((E.2.1 4), .inl (E.2.2.1, 30, .inl (fun _ => 0))), ((E.2.1 5), .inl (E.2.2.1, 30, .inl (fun _ => 0))), ((E.2.1 6), .inl (E.2.2.1, 30, .inl (fun _ => 0))), ((E.2.1 7), .inl (E.2.2.1, 10, .inl (fun _ => 0))), ((E.2.1 8), .inl (E.2.2.1, 100, .inl (fun _ => 0))), ((E.2.1 9), .inl (E.2.2.1, 100, .inl (fun _ => 0))), ((E.2.1 10), .inl (E.2.2.1, 100, .inl (fun _ => 0))), ((E.2.1 11), .inr (4, [.int 2, .int 100, .int 10, .ref (E.2.1 12), .ref (E.2.1 13)])), ((E.2.1 12), .inl (E.2.2.2.1, 10, .inl (fun _ => 0))), ((E.2.1 13), .inl (E.2.2.1, 30, .inl (fm00))), ((E.2.1 17), .inr (1, [.ref (E.2.1 1), .ref (E.2.1 11)])), ((E.2.1 18), .inr (7, [.ref (E.2.1 19), .ref (E.2.1 1), .ref (E.2.1 11)])), ((E.2.1 19), .inl (E.2.2.1, 6, .inl (fun _ => 0))), ((E.2.1 14), .inr (6, [.ref (E.2.1 15), .ref (E.2.1 16)])), ((E.2.1 15), .inl (E.2.2.1, 30, .inl (fun _ => 0))), ((E.2.1 16), .inl (E.2.2.1, 6, .inl (fun _ => 0))), ((E.2.1 20), .inr (0, [.int 0, .ref (E.2.1 21), .ref (E.2.1 1), .ref (E.2.1 11), .ref (E.2.1 17), .ref (E.2.1 18), .ref (E.2.1 22), .ref (E.2.1 23), .ref (E.2.1 24), .int 0, .int 0, .int 0, .int 0, .int 0, .int 0])), ((E.2.1 21), .inl (E.2.2.1, 3, .inl (fun _ => 0))), ((E.2.1 22), .inl (E.2.2.1, 6, .inl (fun _ => 0))), ((E.2.1 23), .inl (E.2.2.1, 4096, .inl (fun _ => 0))), ((E.2.1 24), .inl (E.2.2.2.2.2, 8192, .inr (.inl (jnr (fun _ => 0))))), ((E.2.1 25), .inr (9, [.int 0, .int 0, .ref (E.2.1 26), .ref (E.2.1 1), .ref (E.2.1 17), .ref (E.2.1 18), .ref (E.2.1 30), .ref (E.2.1 27), .ref (E.2.1 28), .ref (E.2.1 29)])), ((E.2.1 26), .inl (E.2.2.1, 6, .inl (fun _ => 0))), ((E.2.1 30), .inr (6, [.ref (E.2.1 31), .ref (E.2.1 32)])), ((E.2.1 31), .inl (E.2.2.1, 30, .inl (fun _ => 0))), ((E.2.1 32), .inl (E.2.2.1, 6, .inl (fun _ => 0))), ((E.2.1 27), .inl (E.2.2.1, 30, .inl (fun _ => 0))), ((E.2.1 28), .inl (E.2.2.1, 30, .inl (fun _ => 0))), ((E.2.1 29), .inl (E.2.2.1, 100, .inl (fun _ => 0))), ((E.2.1 33), .inr (2, [.ref (E.2.1 1), .ref (E.2.1 11), .ref (E.2.1 17)])), ((E.2.1 34), .inr (5, [.ref (E.2.1 1), .ref (E.2.1 11), .ref (E.2.1 17), .ref (E.2.1 35), .ref (E.2.1 38), .int 0, .int 0])), ((E.2.1 35), .inr (6, [.ref (E.2.1 36), .ref (E.2.1 37)])), ((E.2.1 36), .inl (E.2.2.1, 30, .inl (fun _ => 0))), ((E.2.1 37), .inl (E.2.2.1, 6, .inl (fun _ => 0))), ((E.2.1 38), .inr (6, [.ref (E.2.1 39), .ref (E.2.1 40)])), ((E.2.1 39), .inl (E.2.2.1, 30, .inl (fun _ => 0))), ((E.2.1 40), .inl (E.2.2.1, 6, .inl (fun _ => 0))), ((E.2.1 41), .inr (11, [.ref (E.2.1 42), .ref (E.2.1 43), .ref (E.2.1 44), .ref (E.2.1 45), .int 0, .ref (E.2.1 46), .ref (E.2.1 47), .ref (E.2.1 48), .int 0, .ref (E.2.1 49), .int 2, .int 100, .ref (E.2.1 50), .int 10, .ref (E.2.1 51), .ref (E.2.1 52), .int 0, .int 0, .int 0, .int 0, .ref (E.2.1 53), .ref (E.2.1 54), .ref (E.2.1 55), .ref (E.2.1 56), .ref (E.2.1 57), .ref (E.2.1 58), .ref (E.2.1 59), .int 0, .ref (E.2.1 60), .ref (E.2.1 61), .int 0, .int 0, .int 0, .int 0, .int 0, .ref (E.2.1 62), .int 0, .ref (E.2.1 63), .int 0, .int 0])), ((E.2.1 42), .inl (E.2.2.1, 30, .inl (fun _ => 0))), ((E.2.1 43), .inl (E.2.2.1, 60, .inl (fun _ => 0))), ((E.2.1 44), .inl (E.2.2.1, 30, .inl (fun _ => 0))), ((E.2.1 45), .inl (E.2.2.1, 30, .inl (fun _ => 0))), ((E.2.1 46), .inl (E.2.2.1, 100, .inl (fun _ => 0))), ((E.2.1 47), .inl (E.2.2.1, 100, .inl (fun _ => 0))), ((E.2.1 48), .inl (E.2.2.1, 100, .inl (fun _ => 0))), ((E.2.1 49), .inl (E.2.2.1, 30, .inl (fun _ => 0))), ((E.2.1 50), .inl (E.2.2.2.1, 10, .inl (fun _ => 0))), ((E.2.1 51), .inl (E.2.2.1, 30, .inl (fm00))), ((E.2.1 52), .inl (E.2.2.1, 30, .inl (fun _ => 0))), ((E.2.1 53), .inl (E.2.2.1, 100, .inl (fun _ => 0))), ((E.2.1 54), .inl (E.2.2.1, 30, .inl (fun _ => 0))), ((E.2.1 55), .inl (E.2.2.1, 30, .inl (fun _ => 0))), ((E.2.1 56), .inl (E.2.2.1, 30, .inl (fun _ => 0))), ((E.2.1 57), .inl (E.2.2.1, 30, .inl (fun _ => 0))), ((E.2.1 58), .inl (E.2.2.1, 30, .inl (fun _ => 0))), ((E.2.1 59), .inl (E.2.2.1, 6, .inl (fun _ => 0))), ((E.2.1 60), .inl (E.2.2.1, 6, .inl (fun _ => 0))), ((E.2.1 61), .inl (E.2.2.1, 6, .inl (fun _ => 0))), ((E.2.1 62), .inl (E.2.2.1, 3, .inl (fun _ => 0))), ((E.2.1 63), .inl (E.2.2.1, 6, .inl (fun _ => 0)))]
def gx (k : Nat) : Nat := (([0, 1, 2, 3, 4, 5, 6, 7, 8, 9, 10, 11, 12, 13, 17, 18, 19, 14, 15, 16, 20, 21, 22, 23, 24, 25, 26, 30, 31, 32, 27, 28, 29, 33, 34, 35, 36, 37, 38, 39, 40, 41, 42, 43, 44, 45, 46, 47, 48, 49, 50, 51, 52, 53, 54, 55, 56, 57, 58, 59, 60, 61, 62, 63] : List Nat)[k]?).getD 0
theorem sg_0 (E : Wd) : (stw E)[gx 0]? = some ((E.2.1 0), .inr (10, [.ref (E.2.1 1), .ref (E.2.1 11), .ref (E.2.1 14), .ref (E.2.1 17), .ref (E.2.1 18), .ref (E.2.1 20), .ref (E.2.1 25), .ref (E.2.1 33), .ref (E.2.1 34)])) := rfl
theorem sg_1 (E : Wd) : (stw E)[gx 1]? = some ((E.2.1 1), .inr (3, [.int 0, .int 0, .int 0, .ref (E.2.1 2), .ref (E.2.1 3), .ref (E.2.1 4), .ref (E.2.1 5), .ref (E.2.1 6), .ref (E.2.1 7), .ref (E.2.1 8), .ref (E.2.1 9), .ref (E.2.1 10)])) := rfl
theorem sg_2 (E : Wd) : (stw E)[gx 2]? = some ((E.2.1 2), .inl (E.2.2.1, 30, .inl (fun _ => 0))) := rfl
theorem sg_3 (E : Wd) : (stw E)[gx 3]? = some ((E.2.1 3), .inl (E.2.2.1, 30, .inl (fun _ => 0))) := rfl
theorem sg_4 (E : Wd) : (stw E)[gx 4]? = some ((E.2.1 4), .inl (E.2.2.1, 30, .inl (fun _ => 0))) := rfl
theorem sg_5 (E : Wd) : (stw E)[gx 5]? = some ((E.2.1 5), .inl (E.2.2.1, 30, .inl (fun _ => 0))) := rfl
theorem sg_6 (E : Wd) : (stw E)[gx 6]? = some ((E.2.1 6), .inl (E.2.2.1, 30, .inl (fun _ => 0))) := rfl
theorem sg_7 (E : Wd) : (stw E)[gx 7]? = some ((E.2.1 7), .inl (E.2.2.1, 10, .inl (fun _ => 0))) := rfl
theorem sg_8 (E : Wd) : (stw E)[gx 8]? = some ((E.2.1 8), .inl (E.2.2.1, 100, .inl (fun _ => 0))) := rfl
theorem sg_9 (E : Wd) : (stw E)[gx 9]? = some ((E.2.1 9), .inl (E.2.2.1, 100, .inl (fun _ => 0))) := rfl
theorem sg_10 (E : Wd) : (stw E)[gx 10]? = some ((E.2.1 10), .inl (E.2.2.1, 100, .inl (fun _ => 0))) := rfl
theorem sg_11 (E : Wd) : (stw E)[gx 11]? = some ((E.2.1 11), .inr (4, [.int 2, .int 100, .int 10, .ref (E.2.1 12), .ref (E.2.1 13)])) := rfl
theorem sg_12 (E : Wd) : (stw E)[gx 12]? = some ((E.2.1 12), .inl (E.2.2.2.1, 10, .inl (fun _ => 0))) := rfl
theorem sg_13 (E : Wd) : (stw E)[gx 13]? = some ((E.2.1 13), .inl (E.2.2.1, 30, .inl (fm00))) := rfl
theorem sg_14 (E : Wd) : (stw E)[gx 14]? = some ((E.2.1 14), .inr (6, [.ref (E.2.1 15), .ref (E.2.1 16)])) := rfl
theorem sg_15 (E : Wd) : (stw E)[gx 15]? = some ((E.2.1 15), .inl (E.2.2.1, 30, .inl (fun _ => 0))) := rfl
theorem sg_16 (E : Wd) : (stw E)[gx 16]? = some ((E.2.1 16), .inl (E.2.2.1, 6, .inl (fun _ => 0))) := rfl
theorem sg_17 (E : Wd) : (stw E)[gx 17]? = some ((E.2.1 17), .inr (1, [.ref (E.2.1 1), .ref (E.2.1 11)])) := rfl
theorem sg_18 (E : Wd) : (stw E)[gx 18]? = some ((E.2.1 18), .inr (7, [.ref (E.2.1 19), .ref (E.2.1 1), .ref (E.2.1 11)])) := rfl
theorem sg_19 (E : Wd) : (stw E)[gx 19]? = some ((E.2.1 19), .inl (E.2.2.1, 6, .inl (fun _ => 0))) := rfl
theorem sg_20 (E : Wd) : (stw E)[gx 20]? = some ((E.2.1 20), .inr (0, [.int 0, .ref (E.2.1 21), .ref (E.2.1 1), .ref (E.2.1 11), .ref (E.2.1 17), .ref (E.2.1 18), .ref (E.2.1 22), .ref (E.2.1 23), .ref (E.2.1 24), .int 0, .int 0, .int 0, .int 0, .int 0, .int 0])) := rfl
theorem sg_21 (E : Wd) : (stw E)[gx 21]? = some ((E.2.1 21), .inl (E.2.2.1, 3, .inl (fun _ => 0))) := rfl
theorem sg_22 (E : Wd) : (stw E)[gx 22]? = some ((E.2.1 22), .inl (E.2.2.1, 6, .inl (fun _ => 0))) := rfl
theorem sg_23 (E : Wd) : (stw E)[gx 23]? = some ((E.2.1 23), .inl (E.2.2.1, 4096, .inl (fun _ => 0))) := rfl
theorem sg_24 (E : Wd) : (stw E)[gx 24]? = some ((E.2.1 24), .inl (E.2.2.2.2.2, 8192, .inr (.inl (jnr (fun _ => 0))))) := rfl
theorem sg_25 (E : Wd) : (stw E)[gx 25]? = some ((E.2.1 25), .inr (9, [.int 0, .int 0, .ref (E.2.1 26), .ref (E.2.1 1), .ref (E.2.1 17), .ref (E.2.1 18), .ref (E.2.1 30), .ref (E.2.1 27), .ref (E.2.1 28), .ref (E.2.1 29)])) := rfl
theorem sg_26 (E : Wd) : (stw E)[gx 26]? = some ((E.2.1 26), .inl (E.2.2.1, 6, .inl (fun _ => 0))) := rfl
theorem sg_27 (E : Wd) : (stw E)[gx 27]? = some ((E.2.1 27), .inl (E.2.2.1, 30, .inl (fun _ => 0))) := rfl
theorem sg_28 (E : Wd) : (stw E)[gx 28]? = some ((E.2.1 28), .inl (E.2.2.1, 30, .inl (fun _ => 0))) := rfl
theorem sg_29 (E : Wd) : (stw E)[gx 29]? = some ((E.2.1 29), .inl (E.2.2.1, 100, .inl (fun _ => 0))) := rfl
theorem sg_30 (E : Wd) : (stw E)[gx 30]? = some ((E.2.1 30), .inr (6, [.ref (E.2.1 31), .ref (E.2.1 32)])) := rfl
theorem sg_31 (E : Wd) : (stw E)[gx 31]? = some ((E.2.1 31), .inl (E.2.2.1, 30, .inl (fun _ => 0))) := rfl
theorem sg_32 (E : Wd) : (stw E)[gx 32]? = some ((E.2.1 32), .inl (E.2.2.1, 6, .inl (fun _ => 0))) := rfl
theorem sg_33 (E : Wd) : (stw E)[gx 33]? = some ((E.2.1 33), .inr (2, [.ref (E.2.1 1), .ref (E.2.1 11), .ref (E.2.1 17)])) := rfl
theorem sg_34 (E : Wd) : (stw E)[gx 34]? = some ((E.2.1 34), .inr (5, [.ref (E.2.1 1), .ref (E.2.1 11), .ref (E.2.1 17), .ref (E.2.1 35), .ref (E.2.1 38), .int 0, .int 0])) := rfl
theorem sg_35 (E : Wd) : (stw E)[gx 35]? = some ((E.2.1 35), .inr (6, [.ref (E.2.1 36), .ref (E.2.1 37)])) := rfl
theorem sg_36 (E : Wd) : (stw E)[gx 36]? = some ((E.2.1 36), .inl (E.2.2.1, 30, .inl (fun _ => 0))) := rfl
theorem sg_37 (E : Wd) : (stw E)[gx 37]? = some ((E.2.1 37), .inl (E.2.2.1, 6, .inl (fun _ => 0))) := rfl
theorem sg_38 (E : Wd) : (stw E)[gx 38]? = some ((E.2.1 38), .inr (6, [.ref (E.2.1 39), .ref (E.2.1 40)])) := rfl
theorem sg_39 (E : Wd) : (stw E)[gx 39]? = some ((E.2.1 39), .inl (E.2.2.1, 30, .inl (fun _ => 0))) := rfl
theorem sg_40 (E : Wd) : (stw E)[gx 40]? = some ((E.2.1 40), .inl (E.2.2.1, 6, .inl (fun _ => 0))) := rfl
theorem sg_41 (E : Wd) : (stw E)[gx 41]? = some ((E.2.1 41), .inr (11, [.ref (E.2.1 42), .ref (E.2.1 43), .ref (E.2.1 44), .ref (E.2.1 45), .int 0, .ref (E.2.1 46), .ref (E.2.1 47), .ref (E.2.1 48), .int 0, .ref (E.2.1 49), .int 2, .int 100, .ref (E.2.1 50), .int 10, .ref (E.2.1 51), .ref (E.2.1 52), .int 0, .int 0, .int 0, .int 0, .ref (E.2.1 53), .ref (E.2.1 54), .ref (E.2.1 55), .ref (E.2.1 56), .ref (E.2.1 57), .ref (E.2.1 58), .ref (E.2.1 59), .int 0, .ref (E.2.1 60), .ref (E.2.1 61), .int 0, .int 0, .int 0, .int 0, .int 0, .ref (E.2.1 62), .int 0, .ref (E.2.1 63), .int 0, .int 0])) := rfl
theorem sg_42 (E : Wd) : (stw E)[gx 42]? = some ((E.2.1 42), .inl (E.2.2.1, 30, .inl (fun _ => 0))) := rfl
theorem sg_43 (E : Wd) : (stw E)[gx 43]? = some ((E.2.1 43), .inl (E.2.2.1, 60, .inl (fun _ => 0))) := rfl
theorem sg_44 (E : Wd) : (stw E)[gx 44]? = some ((E.2.1 44), .inl (E.2.2.1, 30, .inl (fun _ => 0))) := rfl
theorem sg_45 (E : Wd) : (stw E)[gx 45]? = some ((E.2.1 45), .inl (E.2.2.1, 30, .inl (fun _ => 0))) := rfl
theorem sg_46 (E : Wd) : (stw E)[gx 46]? = some ((E.2.1 46), .inl (E.2.2.1, 100, .inl (fun _ => 0))) := rfl
theorem sg_47 (E : Wd) : (stw E)[gx 47]? = some ((E.2.1 47), .inl (E.2.2.1, 100, .inl (fun _ => 0))) := rfl
theorem sg_48 (E : Wd) : (stw E)[gx 48]? = some ((E.2.1 48), .inl (E.2.2.1, 100, .inl (fun _ => 0))) := rfl
theorem sg_49 (E : Wd) : (stw E)[gx 49]? = some ((E.2.1 49), .inl (E.2.2.1, 30, .inl (fun _ => 0))) := rfl
theorem sg_50 (E : Wd) : (stw E)[gx 50]? = some ((E.2.1 50), .inl (E.2.2.2.1, 10, .inl (fun _ => 0))) := rfl
theorem sg_51 (E : Wd) : (stw E)[gx 51]? = some ((E.2.1 51), .inl (E.2.2.1, 30, .inl (fm00))) := rfl
theorem sg_52 (E : Wd) : (stw E)[gx 52]? = some ((E.2.1 52), .inl (E.2.2.1, 30, .inl (fun _ => 0))) := rfl
theorem sg_53 (E : Wd) : (stw E)[gx 53]? = some ((E.2.1 53), .inl (E.2.2.1, 100, .inl (fun _ => 0))) := rfl
theorem sg_54 (E : Wd) : (stw E)[gx 54]? = some ((E.2.1 54), .inl (E.2.2.1, 30, .inl (fun _ => 0))) := rfl
theorem sg_55 (E : Wd) : (stw E)[gx 55]? = some ((E.2.1 55), .inl (E.2.2.1, 30, .inl (fun _ => 0))) := rfl
theorem sg_56 (E : Wd) : (stw E)[gx 56]? = some ((E.2.1 56), .inl (E.2.2.1, 30, .inl (fun _ => 0))) := rfl
theorem sg_57 (E : Wd) : (stw E)[gx 57]? = some ((E.2.1 57), .inl (E.2.2.1, 30, .inl (fun _ => 0))) := rfl
theorem sg_58 (E : Wd) : (stw E)[gx 58]? = some ((E.2.1 58), .inl (E.2.2.1, 30, .inl (fun _ => 0))) := rfl
theorem sg_59 (E : Wd) : (stw E)[gx 59]? = some ((E.2.1 59), .inl (E.2.2.1, 6, .inl (fun _ => 0))) := rfl
theorem sg_60 (E : Wd) : (stw E)[gx 60]? = some ((E.2.1 60), .inl (E.2.2.1, 6, .inl (fun _ => 0))) := rfl
theorem sg_61 (E : Wd) : (stw E)[gx 61]? = some ((E.2.1 61), .inl (E.2.2.1, 6, .inl (fun _ => 0))) := rfl
theorem sg_62 (E : Wd) : (stw E)[gx 62]? = some ((E.2.1 62), .inl (E.2.2.1, 3, .inl (fun _ => 0))) := rfl
theorem sg_63 (E : Wd) : (stw E)[gx 63]? = some ((E.2.1 63), .inl (E.2.2.1, 6, .inl (fun _ => 0))) := rfl
theorem st_pick_0 (E : Wd) (k : Nat) (q : Nat × va_E) (h1 : 0 ≤ k) (h2 : k < 8) (hk : (wld E h00)[k]? = some q) : (stw E)[gx k]? = some q := by
  rcases (show k = 0 ∨ k = 1 ∨ k = 2 ∨ k = 3 ∨ k = 4 ∨ k = 5 ∨ k = 6 ∨ k = 7 by omega) with rfl | rfl | rfl | rfl | rfl | rfl | rfl | rfl
  · rw [wld_at (o := 0) (e := .inr (10, [some 1, some 11, some 14, some 17, some 18, some 20, some 25, some 33, some 34])) rfl, wc_0] at hk; rw [sg_0]; exact hk
  · rw [wld_at (o := 1) (e := .inr (3, [none, none, none, some 2, some 3, some 4, some 5, some 6, some 7, some 8, some 9, some 10])) rfl, wc_1] at hk; rw [sg_1]; exact hk
  · rw [wld_at (o := 2) (e := .inl (false, 30)) rfl, wc_2] at hk; rw [sg_2]; exact hk
  · rw [wld_at (o := 3) (e := .inl (false, 30)) rfl, wc_3] at hk; rw [sg_3]; exact hk
  · rw [wld_at (o := 4) (e := .inl (false, 30)) rfl, wc_4] at hk; rw [sg_4]; exact hk
  · rw [wld_at (o := 5) (e := .inl (false, 30)) rfl, wc_5] at hk; rw [sg_5]; exact hk
  · rw [wld_at (o := 6) (e := .inl (false, 30)) rfl, wc_6] at hk; rw [sg_6]; exact hk
  · rw [wld_at (o := 7) (e := .inl (false, 10)) rfl, wc_7] at hk; rw [sg_7]; exact hk
theorem st_pick_1 (E : Wd) (k : Nat) (q : Nat × va_E) (h1 : 8 ≤ k) (h2 : k < 16) (hk : (wld E h00)[k]? = some q) : (stw E)[gx k]? = some q := by
  rcases (show k = 8 ∨ k = 9 ∨ k = 10 ∨ k = 11 ∨ k = 12 ∨ k = 13 ∨ k = 14 ∨ k = 15 by omega) with rfl | rfl | rfl | rfl | rfl | rfl | rfl | rfl
  · rw [wld_at (o := 8) (e := .inl (false, 100)) rfl, wc_8] at hk; rw [sg_8]; exact hk
  · rw [wld_at (o := 9) (e := .inl (false, 100)) rfl, wc_9] at hk; rw [sg_9]; exact hk
  · rw [wld_at (o := 10) (e := .inl (false, 100)) rfl, wc_10] at hk; rw [sg_10]; exact hk
  · rw [wld_at (o := 11) (e := .inr (4, [none, none, none, some 12, some 13])) rfl, wc_11] at hk; rw [sg_11]; exact hk
  · rw [wld_at (o := 12) (e := .inl (true, 10)) rfl, wc_12] at hk; rw [sg_12]; exact hk
  · rw [wld_at (o := 13) (e := .inl (false, 30)) rfl, wc_13] at hk; rw [sg_13]; exact hk
  · rw [wld_at (o := 14) (e := .inr (6, [some 15, some 16])) rfl, wc_14] at hk; rw [sg_14]; exact hk
  · rw [wld_at (o := 15) (e := .inl (false, 30)) rfl, wc_15] at hk; rw [sg_15]; exact hk
theorem st_pick_2 (E : Wd) (k : Nat) (q : Nat × va_E) (h1 : 16 ≤ k) (h2 : k < 24) (hk : (wld E h00)[k]? = some q) : (stw E)[gx k]? = some q := by
  rcases (show k = 16 ∨ k = 17 ∨ k = 18 ∨ k = 19 ∨ k = 20 ∨ k = 21 ∨ k = 22 ∨ k = 23 by omega) with rfl | rfl | rfl | rfl | rfl | rfl | rfl | rfl
  · rw [wld_at (o := 16) (e := .inl (false, 6)) rfl, wc_16] at hk; rw [sg_16]; exact hk
  · rw [wld_at (o := 17) (e := .inr (1, [some 1, some 11])) rfl, wc_17] at hk; rw [sg_17]; exact hk
  · rw [wld_at (o := 18) (e := .inr (7, [some 19, some 1, some 11])) rfl, wc_18] at hk; rw [sg_18]; exact hk
  · rw [wld_at (o := 19) (e := .inl (false, 6)) rfl, wc_19] at hk; rw [sg_19]; exact hk
  · rw [wld_at (o := 20) (e := .inr (0, [none, some 21, some 1, some 11, some 17, some 18, some 22, some 23, some 24, none, none, none, none, none, none])) rfl, wc_20] at hk; rw [sg_20]; exact hk
  · rw [wld_at (o := 21) (e := .inl (false, 3)) rfl, wc_21] at hk; rw [sg_21]; exact hk
  · rw [wld_at (o := 22) (e := .inl (false, 6)) rfl, wc_22] at hk; rw [sg_22]; exact hk
  · rw [wld_at (o := 23) (e := .inl (false, 4096)) rfl, wc_23] at hk; rw [sg_23]; exact hk
theorem st_pick_3 (E : Wd) (k : Nat) (q : Nat × va_E) (h1 : 24 ≤ k) (h2 : k < 32) (hk : (wld E h00)[k]? = some q) : (stw E)[gx k]? = some q := by
  rcases (show k = 24 ∨ k = 25 ∨ k = 26 ∨ k = 27 ∨ k = 28 ∨ k = 29 ∨ k = 30 ∨ k = 31 by omega) with rfl | rfl | rfl | rfl | rfl | rfl | rfl | rfl
  · rw [wld_at (o := 24) (e := .inr (9192, [])) rfl, wc_24] at hk; rw [sg_24]; exact hk
  · rw [wld_at (o := 25) (e := .inr (9, [none, none, some 26, some 1, some 17, some 18, some 30, some 27, some 28, some 29])) rfl, wc_25] at hk; rw [sg_25]; exact hk
  · rw [wld_at (o := 26) (e := .inl (false, 6)) rfl, wc_26] at hk; rw [sg_26]; exact hk
  · rw [wld_at (o := 27) (e := .inl (false, 30)) rfl, wc_27] at hk; rw [sg_27]; exact hk
  · rw [wld_at (o := 28) (e := .inl (false, 30)) rfl, wc_28] at hk; rw [sg_28]; exact hk
  · rw [wld_at (o := 29) (e := .inl (false, 100)) rfl, wc_29] at hk; rw [sg_29]; exact hk
  · rw [wld_at (o := 30) (e := .inr (6, [some 31, some 32])) rfl, wc_30] at hk; rw [sg_30]; exact hk
  · rw [wld_at (o := 31) (e := .inl (false, 30)) rfl, wc_31] at hk; rw [sg_31]; exact hk
theorem st_pick_4 (E : Wd) (k : Nat) (q : Nat × va_E) (h1 : 32 ≤ k) (h2 : k < 40) (hk : (wld E h00)[k]? = some q) : (stw E)[gx k]? = some q := by
  rcases (show k = 32 ∨ k = 33 ∨ k = 34 ∨ k = 35 ∨ k = 36 ∨ k = 37 ∨ k = 38 ∨ k = 39 by omega) with rfl | rfl | rfl | rfl | rfl | rfl | rfl | rfl
  · rw [wld_at (o := 32) (e := .inl (false, 6)) rfl, wc_32] at hk; rw [sg_32]; exact hk
  · rw [wld_at (o := 33) (e := .inr (2, [some 1, some 11, some 17])) rfl, wc_33] at hk; rw [sg_33]; exact hk
  · rw [wld_at (o := 34) (e := .inr (5, [some 1, some 11, some 17, some 35, some 38, none, none])) rfl, wc_34] at hk; rw [sg_34]; exact hk
  · rw [wld_at (o := 35) (e := .inr (6, [some 36, some 37])) rfl, wc_35] at hk; rw [sg_35]; exact hk
  · rw [wld_at (o := 36) (e := .inl (false, 30)) rfl, wc_36] at hk; rw [sg_36]; exact hk
  · rw [wld_at (o := 37) (e := .inl (false, 6)) rfl, wc_37] at hk; rw [sg_37]; exact hk
  · rw [wld_at (o := 38) (e := .inr (6, [some 39, some 40])) rfl, wc_38] at hk; rw [sg_38]; exact hk
  · rw [wld_at (o := 39) (e := .inl (false, 30)) rfl, wc_39] at hk; rw [sg_39]; exact hk
theorem st_pick_5 (E : Wd) (k : Nat) (q : Nat × va_E) (h1 : 40 ≤ k) (h2 : k < 48) (hk : (wld E h00)[k]? = some q) : (stw E)[gx k]? = some q := by
  rcases (show k = 40 ∨ k = 41 ∨ k = 42 ∨ k = 43 ∨ k = 44 ∨ k = 45 ∨ k = 46 ∨ k = 47 by omega) with rfl | rfl | rfl | rfl | rfl | rfl | rfl | rfl
  · rw [wld_at (o := 40) (e := .inl (false, 6)) rfl, wc_40] at hk; rw [sg_40]; exact hk
  · rw [wld_at (o := 41) (e := .inr (11, [some 42, some 43, some 44, some 45, none, some 46, some 47, some 48, none, some 49, none, none, some 50, none, some 51, some 52, none, none, none, none, some 53, some 54, some 55, some 56, some 57, some 58, some 59, none, some 60, some 61, none, none, none, none, none, some 62, none, some 63, none, none])) rfl, wc_41] at hk; rw [sg_41]; exact hk
  · rw [wld_at (o := 42) (e := .inl (false, 30)) rfl, wc_42] at hk; rw [sg_42]; exact hk
  · rw [wld_at (o := 43) (e := .inl (false, 60)) rfl, wc_43] at hk; rw [sg_43]; exact hk
  · rw [wld_at (o := 44) (e := .inl (false, 30)) rfl, wc_44] at hk; rw [sg_44]; exact hk
  · rw [wld_at (o := 45) (e := .inl (false, 30)) rfl, wc_45] at hk; rw [sg_45]; exact hk
  · rw [wld_at (o := 46) (e := .inl (false, 100)) rfl, wc_46] at hk; rw [sg_46]; exact hk
  · rw [wld_at (o := 47) (e := .inl (false, 100)) rfl, wc_47] at hk; rw [sg_47]; exact hk
theorem st_pick_6 (E : Wd) (k : Nat) (q : Nat × va_E) (h1 : 48 ≤ k) (h2 : k < 56) (hk : (wld E h00)[k]? = some q) : (stw E)[gx k]? = some q := by
  rcases (show k = 48 ∨ k = 49 ∨ k = 50 ∨ k = 51 ∨ k = 52 ∨ k = 53 ∨ k = 54 ∨ k = 55 by omega) with rfl | rfl | rfl | rfl | rfl | rfl | rfl | rfl
  · rw [wld_at (o := 48) (e := .inl (false, 100)) rfl, wc_48] at hk; rw [sg_48]; exact hk
  · rw [wld_at (o := 49) (e := .inl (false, 30)) rfl, wc_49] at hk; rw [sg_49]; exact hk
  · rw [wld_at (o := 50) (e := .inl (true, 10)) rfl, wc_50] at hk; rw [sg_50]; exact hk
  · rw [wld_at (o := 51) (e := .inl (false, 30)) rfl, wc_51] at hk; rw [sg_51]; exact hk
  · rw [wld_at (o := 52) (e := .inl (false, 30)) rfl, wc_52] at hk; rw [sg_52]; exact hk
  · rw [wld_at (o := 53) (e := .inl (false, 100)) rfl, wc_53] at hk; rw [sg_53]; exact hk
  · rw [wld_at (o := 54) (e := .inl (false, 30)) rfl, wc_54] at hk; rw [sg_54]; exact hk
  · rw [wld_at (o := 55) (e := .inl (false, 30)) rfl, wc_55] at hk; rw [sg_55]; exact hk
theorem st_pick_7 (E : Wd) (k : Nat) (q : Nat × va_E) (h1 : 56 ≤ k) (h2 : k < 64) (hk : (wld E h00)[k]? = some q) : (stw E)[gx k]? = some q := by
  rcases (show k = 56 ∨ k = 57 ∨ k = 58 ∨ k = 59 ∨ k = 60 ∨ k = 61 ∨ k = 62 ∨ k = 63 by omega) with rfl | rfl | rfl | rfl | rfl | rfl | rfl | rfl
  · rw [wld_at (o := 56) (e := .inl (false, 30)) rfl, wc_56] at hk; rw [sg_56]; exact hk
  · rw [wld_at (o := 57) (e := .inl (false, 30)) rfl, wc_57] at hk; rw [sg_57]; exact hk
  · rw [wld_at (o := 58) (e := .inl (false, 30)) rfl, wc_58] at hk; rw [sg_58]; exact hk
  · rw [wld_at (o := 59) (e := .inl (false, 6)) rfl, wc_59] at hk; rw [sg_59]; exact hk
  · rw [wld_at (o := 60) (e := .inl (false, 6)) rfl, wc_60] at hk; rw [sg_60]; exact hk
  · rw [wld_at (o := 61) (e := .inl (false, 6)) rfl, wc_61] at hk; rw [sg_61]; exact hk
  · rw [wld_at (o := 62) (e := .inl (false, 3)) rfl, wc_62] at hk; rw [sg_62]; exact hk
  · rw [wld_at (o := 63) (e := .inl (false, 6)) rfl, wc_63] at hk; rw [sg_63]; exact hk
theorem st_pick (E : Wd) : ∀ (k : Nat) (q : Nat × va_E), (wld E h00)[k]? = some q → (stw E)[gx k]? = some q := by
  intro k q hk
  have h1 := (List.getElem?_eq_some_iff.mp hk).1
  have h2 : (wld E h00).length = 64 := by rw [wld, List.length_mapIdx]; rfl
  rw [h2] at h1
  rcases (show (0 ≤ k ∧ k < 8) ∨ (8 ≤ k ∧ k < 16) ∨ (16 ≤ k ∧ k < 24) ∨ (24 ≤ k ∧ k < 32) ∨ (32 ≤ k ∧ k < 40) ∨ (40 ≤ k ∧ k < 48) ∨ (48 ≤ k ∧ k < 56) ∨ (56 ≤ k ∧ k < 64) by omega) with ⟨a1, a2⟩ | ⟨a1, a2⟩ | ⟨a1, a2⟩ | ⟨a1, a2⟩ | ⟨a1, a2⟩ | ⟨a1, a2⟩ | ⟨a1, a2⟩ | ⟨a1, a2⟩
  · exact st_pick_0 E k q a1 a2 hk
  · exact st_pick_1 E k q a1 a2 hk
  · exact st_pick_2 E k q a1 a2 hk
  · exact st_pick_3 E k q a1 a2 hk
  · exact st_pick_4 E k q a1 a2 hk
  · exact st_pick_5 E k q a1 a2 hk
  · exact st_pick_6 E k q a1 a2 hk
  · exact st_pick_7 E k q a1 a2 hk
theorem gx_inj : ∀ i, i < 64 → ∀ j, j < 64 → gx i = gx j → i = j := by decide +kernel
theorem law_start {p : Program} {e : Env} {s : State} {m : MethodId} {below : List Frame} {meth : Method} {c : Code} (l : Launch) {b L : Nat} {xs : Nat → Int32} (hL : L ≤ 3072) (C0 : lw_At p s m meth c b L xs) {cI cB cL : ClassId} {G : va_G} (hK : va_K G vcl [(cI, .int), (cB, .boolean), (cL, .long)] s) : W p l e room_1 s m #[Value.ref b] below meth c s.heap [] 0 0 (lw_Z below #[Value.ref b] s) (entryFrame m ([Value.ref b] : List Value).toArray 4) := by
  obtain ⟨hx, hb, hr, hml, hown, hts, hX, hbl, hlk, hgv⟩ := id C0
  have hg : ∀ w ∈ lw_g, w.before #[Value.ref b] s = true := fun w hw => hts w (List.mem_filter.mp hw).1
  have hN : Nst s := fun w hw => by
    obtain ⟨a, i, x, q, rfl⟩ := isNst_spec (List.mem_filter.mp hw).2
    exact va_Nw.of rfl (hts _ (List.mem_filter.mp hw).1)
  have C : lA p s m meth c b L xs (l, fun _ => b, cI, cB, G, cL) := ⟨hx, hb, hr, hml, hown, hg, hX, hbl, hlk, hK, hN, rfl⟩
  have key : Y p e s m below meth c b (l, fun _ => b, cI, cB, G, cL) 0 [some (.ref b), none, none, none] [] [] 0 0 := by
    refine Y_new C d_L_law_0 kn_L_7 (by decide) (by decide) (fun qD => ?_)
    refine Y_dup C d_L_law_3 ?_
    refine Y_init (wr := []) C d_L_law_4 ki_L_9 (n_DC_init qD) rfl rfl (by decide) (Nat.le_of_ble_eq_true rfl) (by decide) (by decide) (fun w1 q1 => ?_)
    obtain ⟨Dr1, Dx8_r1, Dx8_r2, Dx8_r3, Dx8_r4, Dx8_r5, Dx8_r6, Dx8_r7, Dx8_r8, Dx8_r9, Dr2, Dx16_r1, Dx16_r2, Dr3, Dr4, Dx36_r1, Dr5, Dx56_r1, Dx56_r2, Dr6, Dx83_r1, Dx83_r2, Dx83_r3, Dx83_r4, Dr7, Dx98_r1, Dx98_r2, Dx98_x32_r1, Dx98_x32_r2, Dx98_r3, Dx98_r4, Dx98_r5, Dr8, Dr9, Dx126_r1, Dx126_x24_r1, Dx126_x24_r2, Dx126_r2, Dx126_x35_r1, Dx126_x35_r2, rfl⟩ := q1
    refine Y_astore_n C d_L_law_7 (by decide) ?_
    dsimp only [List.set]
    refine Y_new C d_L_law_8 kn_L_10 (by decide) (by decide) (fun qM => ?_)
    refine Y_dup C d_L_law_11 ?_
    refine Y_init (wr := [(qD, .inr (10, [.ref Dr1, .ref Dr2, .ref Dr5, .ref Dr3, .ref Dr4, .ref Dr6, .ref Dr7, .ref Dr8, .ref Dr9])), (Dr1, .inr (3, [.int 0, .int 0, .int 0, .ref Dx8_r1, .ref Dx8_r2, .ref Dx8_r3, .ref Dx8_r4, .ref Dx8_r5, .ref Dx8_r6, .ref Dx8_r7, .ref Dx8_r8, .ref Dx8_r9])), (Dx8_r1, .inl (cI, 30, .inl (fun _ => 0))), (Dx8_r2, .inl (cI, 30, .inl (fun _ => 0))), (Dx8_r3, .inl (cI, 30, .inl (fun _ => 0))), (Dx8_r4, .inl (cI, 30, .inl (fun _ => 0))), (Dx8_r5, .inl (cI, 30, .inl (fun _ => 0))), (Dx8_r6, .inl (cI, 10, .inl (fun _ => 0))), (Dx8_r7, .inl (cI, 100, .inl (fun _ => 0))), (Dx8_r8, .inl (cI, 100, .inl (fun _ => 0))), (Dx8_r9, .inl (cI, 100, .inl (fun _ => 0))), (Dr2, .inr (4, [.int 2, .int 100, .int 10, .ref Dx16_r1, .ref Dx16_r2])), (Dx16_r1, .inl (cB, 10, .inl (fun _ => 0))), (Dx16_r2, .inl (cI, 30, .inl (fa_fill (fun _ => (-1)) (fun _ => 0) 30))), (Dr3, .inr (1, [.ref Dr1, .ref Dr2])), (Dr4, .inr (7, [.ref Dx36_r1, .ref Dr1, .ref Dr2])), (Dx36_r1, .inl (cI, 6, .inl (fun _ => 0))), (Dr5, .inr (6, [.ref Dx56_r1, .ref Dx56_r2])), (Dx56_r1, .inl (cI, 30, .inl (fun _ => 0))), (Dx56_r2, .inl (cI, 6, .inl (fun _ => 0))), (Dr6, .inr (0, [.int 0, .ref Dx83_r1, .ref Dr1, .ref Dr2, .ref Dr3, .ref Dr4, .ref Dx83_r2, .ref Dx83_r3, .ref Dx83_r4, .int 0, .int 0, .int 0, .int 0, .int 0, .int 0])), (Dx83_r1, .inl (cI, 3, .inl (fun _ => 0))), (Dx83_r2, .inl (cI, 6, .inl (fun _ => 0))), (Dx83_r3, .inl (cI, 4096, .inl (fun _ => 0))), (Dx83_r4, .inl (cL, 8192, .inr (.inl (fun _ => 0)))), (Dr7, .inr (9, [.int 0, .int 0, .ref Dx98_r1, .ref Dr1, .ref Dr3, .ref Dr4, .ref Dx98_r2, .ref Dx98_r3, .ref Dx98_r4, .ref Dx98_r5])), (Dx98_r1, .inl (cI, 6, .inl (fun _ => 0))), (Dx98_r2, .inr (6, [.ref Dx98_x32_r1, .ref Dx98_x32_r2])), (Dx98_x32_r1, .inl (cI, 30, .inl (fun _ => 0))), (Dx98_x32_r2, .inl (cI, 6, .inl (fun _ => 0))), (Dx98_r3, .inl (cI, 30, .inl (fun _ => 0))), (Dx98_r4, .inl (cI, 30, .inl (fun _ => 0))), (Dx98_r5, .inl (cI, 100, .inl (fun _ => 0))), (Dr8, .inr (2, [.ref Dr1, .ref Dr2, .ref Dr3])), (Dr9, .inr (5, [.ref Dr1, .ref Dr2, .ref Dr3, .ref Dx126_r1, .ref Dx126_r2, .int 0, .int 0])), (Dx126_r1, .inr (6, [.ref Dx126_x24_r1, .ref Dx126_x24_r2])), (Dx126_x24_r1, .inl (cI, 30, .inl (fun _ => 0))), (Dx126_x24_r2, .inl (cI, 6, .inl (fun _ => 0))), (Dx126_r2, .inr (6, [.ref Dx126_x35_r1, .ref Dx126_x35_r2])), (Dx126_x35_r1, .inl (cI, 30, .inl (fun _ => 0))), (Dx126_x35_r2, .inl (cI, 6, .inl (fun _ => 0)))]) C d_L_law_12 ki_L_12 (n_Mo_init qM) rfl rfl (by decide) (Nat.le_of_ble_eq_true rfl) (by decide) (by decide) (fun w1 q1 => ?_)
    obtain ⟨Mr1, Mr2, Mr3, Mr4, Mr5, Mr6, Mr7, Mr8, Mr9, Mr10, Mr11, Mr12, Mr13, Mr14, Mr15, Mr16, Mr17, Mr18, Mr19, Mr20, Mr21, Mr22, rfl⟩ := q1
    refine Y_astore_n C d_L_law_15 (by decide) ?_
    dsimp only [List.set]
    intro H locs hP hD hS ls hl
    have hP : va_P G vcl [(qD, .inr (10, [.ref Dr1, .ref Dr2, .ref Dr5, .ref Dr3, .ref Dr4, .ref Dr6, .ref Dr7, .ref Dr8, .ref Dr9])), (Dr1, .inr (3, [.int 0, .int 0, .int 0, .ref Dx8_r1, .ref Dx8_r2, .ref Dx8_r3, .ref Dx8_r4, .ref Dx8_r5, .ref Dx8_r6, .ref Dx8_r7, .ref Dx8_r8, .ref Dx8_r9])), (Dx8_r1, .inl (cI, 30, .inl (fun _ => 0))), (Dx8_r2, .inl (cI, 30, .inl (fun _ => 0))), (Dx8_r3, .inl (cI, 30, .inl (fun _ => 0))), (Dx8_r4, .inl (cI, 30, .inl (fun _ => 0))), (Dx8_r5, .inl (cI, 30, .inl (fun _ => 0))), (Dx8_r6, .inl (cI, 10, .inl (fun _ => 0))), (Dx8_r7, .inl (cI, 100, .inl (fun _ => 0))), (Dx8_r8, .inl (cI, 100, .inl (fun _ => 0))), (Dx8_r9, .inl (cI, 100, .inl (fun _ => 0))), (Dr2, .inr (4, [.int 2, .int 100, .int 10, .ref Dx16_r1, .ref Dx16_r2])), (Dx16_r1, .inl (cB, 10, .inl (fun _ => 0))), (Dx16_r2, .inl (cI, 30, .inl (fa_fill (fun _ => (-1)) (fun _ => 0) 30))), (Dr3, .inr (1, [.ref Dr1, .ref Dr2])), (Dr4, .inr (7, [.ref Dx36_r1, .ref Dr1, .ref Dr2])), (Dx36_r1, .inl (cI, 6, .inl (fun _ => 0))), (Dr5, .inr (6, [.ref Dx56_r1, .ref Dx56_r2])), (Dx56_r1, .inl (cI, 30, .inl (fun _ => 0))), (Dx56_r2, .inl (cI, 6, .inl (fun _ => 0))), (Dr6, .inr (0, [.int 0, .ref Dx83_r1, .ref Dr1, .ref Dr2, .ref Dr3, .ref Dr4, .ref Dx83_r2, .ref Dx83_r3, .ref Dx83_r4, .int 0, .int 0, .int 0, .int 0, .int 0, .int 0])), (Dx83_r1, .inl (cI, 3, .inl (fun _ => 0))), (Dx83_r2, .inl (cI, 6, .inl (fun _ => 0))), (Dx83_r3, .inl (cI, 4096, .inl (fun _ => 0))), (Dx83_r4, .inl (cL, 8192, .inr (.inl (fun _ => 0)))), (Dr7, .inr (9, [.int 0, .int 0, .ref Dx98_r1, .ref Dr1, .ref Dr3, .ref Dr4, .ref Dx98_r2, .ref Dx98_r3, .ref Dx98_r4, .ref Dx98_r5])), (Dx98_r1, .inl (cI, 6, .inl (fun _ => 0))), (Dx98_r2, .inr (6, [.ref Dx98_x32_r1, .ref Dx98_x32_r2])), (Dx98_x32_r1, .inl (cI, 30, .inl (fun _ => 0))), (Dx98_x32_r2, .inl (cI, 6, .inl (fun _ => 0))), (Dx98_r3, .inl (cI, 30, .inl (fun _ => 0))), (Dx98_r4, .inl (cI, 30, .inl (fun _ => 0))), (Dx98_r5, .inl (cI, 100, .inl (fun _ => 0))), (Dr8, .inr (2, [.ref Dr1, .ref Dr2, .ref Dr3])), (Dr9, .inr (5, [.ref Dr1, .ref Dr2, .ref Dr3, .ref Dx126_r1, .ref Dx126_r2, .int 0, .int 0])), (Dx126_r1, .inr (6, [.ref Dx126_x24_r1, .ref Dx126_x24_r2])), (Dx126_x24_r1, .inl (cI, 30, .inl (fun _ => 0))), (Dx126_x24_r2, .inl (cI, 6, .inl (fun _ => 0))), (Dx126_r2, .inr (6, [.ref Dx126_x35_r1, .ref Dx126_x35_r2])), (Dx126_x35_r1, .inl (cI, 30, .inl (fun _ => 0))), (Dx126_x35_r2, .inl (cI, 6, .inl (fun _ => 0))), (qM, .inr (11, [.ref Mr1, .ref Mr2, .ref Mr3, .ref Mr4, .int 0, .ref Mr5, .ref Mr6, .ref Mr7, .int 0, .ref Mr8, .int 2, .int 100, .ref Mr9, .int 10, .ref Mr10, .ref Mr11, .int 0, .int 0, .int 0, .int 0, .ref Mr12, .ref Mr13, .ref Mr14, .ref Mr15, .ref Mr16, .ref Mr17, .ref Mr18, .int 0, .ref Mr19, .ref Mr20, .int 0, .int 0, .int 0, .int 0, .int 0, .ref Mr21, .int 0, .ref Mr22, .int 0, .int 0])), (Mr1, .inl (cI, 30, .inl (fun _ => 0))), (Mr2, .inl (cI, 60, .inl (fun _ => 0))), (Mr3, .inl (cI, 30, .inl (fun _ => 0))), (Mr4, .inl (cI, 30, .inl (fun _ => 0))), (Mr5, .inl (cI, 100, .inl (fun _ => 0))), (Mr6, .inl (cI, 100, .inl (fun _ => 0))), (Mr7, .inl (cI, 100, .inl (fun _ => 0))), (Mr8, .inl (cI, 30, .inl (fun _ => 0))), (Mr9, .inl (cB, 10, .inl (fun _ => 0))), (Mr10, .inl (cI, 30, .inl (fa_fill (fun _ => -1) (fun _ => 0) 30))), (Mr11, .inl (cI, 30, .inl (fun _ => 0))), (Mr12, .inl (cI, 100, .inl (fun _ => 0))), (Mr13, .inl (cI, 30, .inl (fun _ => 0))), (Mr14, .inl (cI, 30, .inl (fun _ => 0))), (Mr15, .inl (cI, 30, .inl (fun _ => 0))), (Mr16, .inl (cI, 30, .inl (fun _ => 0))), (Mr17, .inl (cI, 30, .inl (fun _ => 0))), (Mr18, .inl (cI, 6, .inl (fun _ => 0))), (Mr19, .inl (cI, 6, .inl (fun _ => 0))), (Mr20, .inl (cI, 6, .inl (fun _ => 0))), (Mr21, .inl (cI, 3, .inl (fun _ => 0))), (Mr22, .inl (cI, 6, .inl (fun _ => 0)))] H := hP
    have hD : va_D (fun q => s.heap.size ≤ q) [(qD, .inr (10, [.ref Dr1, .ref Dr2, .ref Dr5, .ref Dr3, .ref Dr4, .ref Dr6, .ref Dr7, .ref Dr8, .ref Dr9])), (Dr1, .inr (3, [.int 0, .int 0, .int 0, .ref Dx8_r1, .ref Dx8_r2, .ref Dx8_r3, .ref Dx8_r4, .ref Dx8_r5, .ref Dx8_r6, .ref Dx8_r7, .ref Dx8_r8, .ref Dx8_r9])), (Dx8_r1, .inl (cI, 30, .inl (fun _ => 0))), (Dx8_r2, .inl (cI, 30, .inl (fun _ => 0))), (Dx8_r3, .inl (cI, 30, .inl (fun _ => 0))), (Dx8_r4, .inl (cI, 30, .inl (fun _ => 0))), (Dx8_r5, .inl (cI, 30, .inl (fun _ => 0))), (Dx8_r6, .inl (cI, 10, .inl (fun _ => 0))), (Dx8_r7, .inl (cI, 100, .inl (fun _ => 0))), (Dx8_r8, .inl (cI, 100, .inl (fun _ => 0))), (Dx8_r9, .inl (cI, 100, .inl (fun _ => 0))), (Dr2, .inr (4, [.int 2, .int 100, .int 10, .ref Dx16_r1, .ref Dx16_r2])), (Dx16_r1, .inl (cB, 10, .inl (fun _ => 0))), (Dx16_r2, .inl (cI, 30, .inl (fa_fill (fun _ => (-1)) (fun _ => 0) 30))), (Dr3, .inr (1, [.ref Dr1, .ref Dr2])), (Dr4, .inr (7, [.ref Dx36_r1, .ref Dr1, .ref Dr2])), (Dx36_r1, .inl (cI, 6, .inl (fun _ => 0))), (Dr5, .inr (6, [.ref Dx56_r1, .ref Dx56_r2])), (Dx56_r1, .inl (cI, 30, .inl (fun _ => 0))), (Dx56_r2, .inl (cI, 6, .inl (fun _ => 0))), (Dr6, .inr (0, [.int 0, .ref Dx83_r1, .ref Dr1, .ref Dr2, .ref Dr3, .ref Dr4, .ref Dx83_r2, .ref Dx83_r3, .ref Dx83_r4, .int 0, .int 0, .int 0, .int 0, .int 0, .int 0])), (Dx83_r1, .inl (cI, 3, .inl (fun _ => 0))), (Dx83_r2, .inl (cI, 6, .inl (fun _ => 0))), (Dx83_r3, .inl (cI, 4096, .inl (fun _ => 0))), (Dx83_r4, .inl (cL, 8192, .inr (.inl (fun _ => 0)))), (Dr7, .inr (9, [.int 0, .int 0, .ref Dx98_r1, .ref Dr1, .ref Dr3, .ref Dr4, .ref Dx98_r2, .ref Dx98_r3, .ref Dx98_r4, .ref Dx98_r5])), (Dx98_r1, .inl (cI, 6, .inl (fun _ => 0))), (Dx98_r2, .inr (6, [.ref Dx98_x32_r1, .ref Dx98_x32_r2])), (Dx98_x32_r1, .inl (cI, 30, .inl (fun _ => 0))), (Dx98_x32_r2, .inl (cI, 6, .inl (fun _ => 0))), (Dx98_r3, .inl (cI, 30, .inl (fun _ => 0))), (Dx98_r4, .inl (cI, 30, .inl (fun _ => 0))), (Dx98_r5, .inl (cI, 100, .inl (fun _ => 0))), (Dr8, .inr (2, [.ref Dr1, .ref Dr2, .ref Dr3])), (Dr9, .inr (5, [.ref Dr1, .ref Dr2, .ref Dr3, .ref Dx126_r1, .ref Dx126_r2, .int 0, .int 0])), (Dx126_r1, .inr (6, [.ref Dx126_x24_r1, .ref Dx126_x24_r2])), (Dx126_x24_r1, .inl (cI, 30, .inl (fun _ => 0))), (Dx126_x24_r2, .inl (cI, 6, .inl (fun _ => 0))), (Dx126_r2, .inr (6, [.ref Dx126_x35_r1, .ref Dx126_x35_r2])), (Dx126_x35_r1, .inl (cI, 30, .inl (fun _ => 0))), (Dx126_x35_r2, .inl (cI, 6, .inl (fun _ => 0))), (qM, .inr (11, [.ref Mr1, .ref Mr2, .ref Mr3, .ref Mr4, .int 0, .ref Mr5, .ref Mr6, .ref Mr7, .int 0, .ref Mr8, .int 2, .int 100, .ref Mr9, .int 10, .ref Mr10, .ref Mr11, .int 0, .int 0, .int 0, .int 0, .ref Mr12, .ref Mr13, .ref Mr14, .ref Mr15, .ref Mr16, .ref Mr17, .ref Mr18, .int 0, .ref Mr19, .ref Mr20, .int 0, .int 0, .int 0, .int 0, .int 0, .ref Mr21, .int 0, .ref Mr22, .int 0, .int 0])), (Mr1, .inl (cI, 30, .inl (fun _ => 0))), (Mr2, .inl (cI, 60, .inl (fun _ => 0))), (Mr3, .inl (cI, 30, .inl (fun _ => 0))), (Mr4, .inl (cI, 30, .inl (fun _ => 0))), (Mr5, .inl (cI, 100, .inl (fun _ => 0))), (Mr6, .inl (cI, 100, .inl (fun _ => 0))), (Mr7, .inl (cI, 100, .inl (fun _ => 0))), (Mr8, .inl (cI, 30, .inl (fun _ => 0))), (Mr9, .inl (cB, 10, .inl (fun _ => 0))), (Mr10, .inl (cI, 30, .inl (fa_fill (fun _ => -1) (fun _ => 0) 30))), (Mr11, .inl (cI, 30, .inl (fun _ => 0))), (Mr12, .inl (cI, 100, .inl (fun _ => 0))), (Mr13, .inl (cI, 30, .inl (fun _ => 0))), (Mr14, .inl (cI, 30, .inl (fun _ => 0))), (Mr15, .inl (cI, 30, .inl (fun _ => 0))), (Mr16, .inl (cI, 30, .inl (fun _ => 0))), (Mr17, .inl (cI, 30, .inl (fun _ => 0))), (Mr18, .inl (cI, 6, .inl (fun _ => 0))), (Mr19, .inl (cI, 6, .inl (fun _ => 0))), (Mr20, .inl (cI, 6, .inl (fun _ => 0))), (Mr21, .inl (cI, 3, .inl (fun _ => 0))), (Mr22, .inl (cI, 6, .inl (fun _ => 0)))] := hD
    rw [← jnr0] at hP hD
    obtain ⟨ad, rfl, rfl, rfl, rfl, rfl, rfl, rfl, rfl, rfl, rfl, rfl, rfl, rfl, rfl, rfl, rfl, rfl, rfl, rfl, rfl, rfl, rfl, rfl, rfl, rfl, rfl, rfl, rfl, rfl, rfl, rfl, rfl, rfl, rfl, rfl, rfl, rfl, rfl, rfl, rfl, rfl, rfl, rfl, rfl, rfl, rfl, rfl, rfl, rfl, rfl, rfl, rfl, rfl, rfl, rfl, rfl, rfl, rfl, rfl, rfl, rfl, rfl, rfl, rfl, had⟩ : ∃ ad : Nat → Nat, qD = ad 0 ∧ Dr1 = ad 1 ∧ Dx8_r1 = ad 2 ∧ Dx8_r2 = ad 3 ∧ Dx8_r3 = ad 4 ∧ Dx8_r4 = ad 5 ∧ Dx8_r5 = ad 6 ∧ Dx8_r6 = ad 7 ∧ Dx8_r7 = ad 8 ∧ Dx8_r8 = ad 9 ∧ Dx8_r9 = ad 10 ∧ Dr2 = ad 11 ∧ Dx16_r1 = ad 12 ∧ Dx16_r2 = ad 13 ∧ Dr5 = ad 14 ∧ Dx56_r1 = ad 15 ∧ Dx56_r2 = ad 16 ∧ Dr3 = ad 17 ∧ Dr4 = ad 18 ∧ Dx36_r1 = ad 19 ∧ Dr6 = ad 20 ∧ Dx83_r1 = ad 21 ∧ Dx83_r2 = ad 22 ∧ Dx83_r3 = ad 23 ∧ Dx83_r4 = ad 24 ∧ Dr7 = ad 25 ∧ Dx98_r1 = ad 26 ∧ Dx98_r3 = ad 27 ∧ Dx98_r4 = ad 28 ∧ Dx98_r5 = ad 29 ∧ Dx98_r2 = ad 30 ∧ Dx98_x32_r1 = ad 31 ∧ Dx98_x32_r2 = ad 32 ∧ Dr8 = ad 33 ∧ Dr9 = ad 34 ∧ Dx126_r1 = ad 35 ∧ Dx126_x24_r1 = ad 36 ∧ Dx126_x24_r2 = ad 37 ∧ Dx126_r2 = ad 38 ∧ Dx126_x35_r1 = ad 39 ∧ Dx126_x35_r2 = ad 40 ∧ qM = ad 41 ∧ Mr1 = ad 42 ∧ Mr2 = ad 43 ∧ Mr3 = ad 44 ∧ Mr4 = ad 45 ∧ Mr5 = ad 46 ∧ Mr6 = ad 47 ∧ Mr7 = ad 48 ∧ Mr8 = ad 49 ∧ Mr9 = ad 50 ∧ Mr10 = ad 51 ∧ Mr11 = ad 52 ∧ Mr12 = ad 53 ∧ Mr13 = ad 54 ∧ Mr14 = ad 55 ∧ Mr15 = ad 56 ∧ Mr16 = ad 57 ∧ Mr17 = ad 58 ∧ Mr18 = ad 59 ∧ Mr19 = ad 60 ∧ Mr20 = ad 61 ∧ Mr21 = ad 62 ∧ Mr22 = ad 63 ∧ ad 64 = b := ⟨fun k => (([qD, Dr1, Dx8_r1, Dx8_r2, Dx8_r3, Dx8_r4, Dx8_r5, Dx8_r6, Dx8_r7, Dx8_r8, Dx8_r9, Dr2, Dx16_r1, Dx16_r2, Dr5, Dx56_r1, Dx56_r2, Dr3, Dr4, Dx36_r1, Dr6, Dx83_r1, Dx83_r2, Dx83_r3, Dx83_r4, Dr7, Dx98_r1, Dx98_r3, Dx98_r4, Dx98_r5, Dx98_r2, Dx98_x32_r1, Dx98_x32_r2, Dr8, Dr9, Dx126_r1, Dx126_x24_r1, Dx126_x24_r2, Dx126_r2, Dx126_x35_r1, Dx126_x35_r2, qM, Mr1, Mr2, Mr3, Mr4, Mr5, Mr6, Mr7, Mr8, Mr9, Mr10, Mr11, Mr12, Mr13, Mr14, Mr15, Mr16, Mr17, Mr18, Mr19, Mr20, Mr21, Mr22] : List Nat)[k]?).getD b, rfl, rfl, rfl, rfl, rfl, rfl, rfl, rfl, rfl, rfl, rfl, rfl, rfl, rfl, rfl, rfl, rfl, rfl, rfl, rfl, rfl, rfl, rfl, rfl, rfl, rfl, rfl, rfl, rfl, rfl, rfl, rfl, rfl, rfl, rfl, rfl, rfl, rfl, rfl, rfl, rfl, rfl, rfl, rfl, rfl, rfl, rfl, rfl, rfl, rfl, rfl, rfl, rfl, rfl, rfl, rfl, rfl, rfl, rfl, rfl, rfl, rfl, rfl, rfl, rfl⟩
    have C1 : lA p s m meth c b L xs (l, ad, cI, cB, G, cL) := ⟨hx, hb, hr, hml, hown, hg, hX, hbl, hlk, hK, hN, had⟩
    have hP1 : va_P G vcl (stw (l, ad, cI, cB, G, cL)) H := hP
    have hD1 : va_D (fun q => s.heap.size ≤ q) (stw (l, ad, cI, cB, G, cL)) := hD
    have hP2 : va_P G vcl (wld (l, ad, cI, cB, G, cL) h00) H := hP1.by gx (st_pick _)
    have hlen : (wld (l, ad, cI, cB, G, cL) h00).length = 64 := by rw [wld, List.length_mapIdx]; rfl
    have hD2 : va_D (fun q => s.heap.size ≤ q) (wld (l, ad, cI, cB, G, cL) h00) := hD1.by gx (st_pick _) (fun i j h1 h2 h3 => gx_inj i (by rw [hlen] at h1; exact h1) j (by rw [hlen] at h2; exact h2) h3)
    have kk := X_iconst (p := p) (e := e) (below := below) (st := []) (h := h00) (Lc := [some (.ref 64), some (.ref 0), some (.ref 41), none]) (v := 0) C1 d_L_law_16 (by decide) (X_istore_n C1 d_L_law_17 (by decide) (law_loop C1 hL 0 (by decide) h00 S00 cl00 mo00 ok00 (by omega)))
    refine kk H locs hP2 hD2 hS ls ⟨hl.1, hl.2.1, fun i v hv => ?_⟩
    match i, hv with
    | 0, hv =>
      cases hv
      refine ⟨rfl, ?_⟩
      show ls[0]? = some (.val (.ref (ad 64)))
      rw [had]
      exact (hl.2.2 0 (.ref b) rfl).2
    | 1, hv => cases hv; exact ⟨rfl, (hl.2.2 1 (.ref (ad 0)) rfl).2⟩
    | 2, hv => cases hv; exact ⟨rfl, (hl.2.2 2 (.ref (ad 41)) rfl).2⟩
    | 3, hv => cases hv
    | i + 4, hv => cases hv
  rw [lg_entry_eq]
  have hl := lvh_entry id [.ref b] rfl (n := 4) (Nat.le_of_ble_eq_true rfl)
  exact key s.heap [] (fun k q h => by simp at h) ⟨fun i j p q h => by simp at h, fun k q h => by simp at h⟩ va_S.rf _ hl
