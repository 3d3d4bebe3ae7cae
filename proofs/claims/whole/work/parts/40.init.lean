/-! the memory behind the two constructors -/
def M0 : qM := fun k => if k = 0 then (fun j => if j = 5 then 1 else if j = 6 then 5 else 0) else if k = 5 ∨ k = 6 ∨ k = 30 ∨ k = 31 then (fun j => if j < ((20 : Nat) : Int) then -1 else 0) else if k = 63 then (fun j => if j = 13 then 5 else 0) else fun _ => 0
theorem M0_in : qIn M0 := by
  intro k j
  unfold M0
  by_cases h : k = 0
  · rw [if_pos h]
    show qR (if j = 5 then 1 else if j = 6 then 5 else 0)
    by_cases a : j = 5
    · rw [if_pos a]; decide
    · rw [if_neg a]
      by_cases a : j = 6
      · rw [if_pos a]; decide
      · rw [if_neg a]; decide
  · rw [if_neg h]
    by_cases h : k = 5 ∨ k = 6 ∨ k = 30 ∨ k = 31
    · rw [if_pos h]
      show qR (if j < ((20 : Nat) : Int) then -1 else 0)
      by_cases a : j < ((20 : Nat) : Int)
      · rw [if_pos a]; decide
      · rw [if_neg a]; decide
    · rw [if_neg h]
      by_cases h : k = 63
      · rw [if_pos h]
        show qR (if j = 13 then 5 else 0)
        by_cases a : j = 13
        · rw [if_pos a]; decide
        · rw [if_neg a]; decide
      · rw [if_neg h]; exact (by decide : qR 0)
theorem M0_z {k : Nat} (h0 : k ≠ 0) (h1 : ¬ (k = 5 ∨ k = 6 ∨ k = 30 ∨ k = 31)) (h2 : k ≠ 63) : M0 k = fun _ => 0 := by
  unfold M0
  rw [if_neg h0, if_neg h1, if_neg h2]
theorem M0_f {j : Int} (h : j < 20) : M0 5 j = -1 ∧ M0 6 j = -1 := by
  constructor
  · show (if j < ((20 : Nat) : Int) then (-1 : Int) else 0) = -1
    rw [if_pos (by omega)]
  · show (if j < ((20 : Nat) : Int) then (-1 : Int) else 0) = -1
    rw [if_pos (by omega)]
theorem Rel_0 : Rel M0 := by
  refine ⟨fun _ _ => 0, fun _ _ => 0, 0, 5, ⟨⟨?_, ?_, ⟨?_, ?_⟩, ?_, ?_, ?_, ⟨?_, ?_⟩⟩, fun e => absurd e (by decide), Or.inl rfl, by decide⟩, ⟨⟨⟨rfl, ?_⟩, ⟨rfl, ?_, ?_, ?_, ?_⟩, ⟨rfl, ?_⟩, ⟨rfl, ?_⟩, ⟨rfl, ?_, ?_⟩, ⟨rfl, ?_, ?_, ?_⟩⟩, rfl, fun e => absurd e (by decide), rfl, Or.inr rfl, fun e => absurd (show (1 : Int) = 0 from e) (by decide)⟩, ⟨fun a ha => M0_z (by omega) (by omega) (by omega), rfl, fun e => absurd e (by decide), rfl⟩⟩
  · show voN (fun _ _ => 0)
    unfold voN
    decide
  · intro c h0 h1; exact absurd h1 (by show ¬ c < 0; omega)
  · intro c h0 h1; exact absurd h1 (by show ¬ c < 4 * 0; omega)
  · intro c h0 h1; exact absurd h1 (by show ¬ c < 0; omega)
  · intro c h0 h1; exact absurd h1 (by show ¬ c < 0; omega)
  · intro c h0 h1; exact absurd h1 (by show ¬ c < 0; omega)
  · intro c h0 h1; exact absurd h1 (by show ¬ c < 0; omega)
  · intro c h0 h1; exact absurd h1 (by show ¬ c < 0; omega)
  · intro c h0 h1; exact (by decide : (0 : Int) ≤ 0 ∧ (0 : Int) ≤ 9)
  · intro c h0 h1; exact absurd h1 (by show ¬ c < 0; omega)
  · intro c h0 h1; exact absurd h1 (by show ¬ c < 4 * 0; omega)
  · intro c h0 h1; exact M0_f h1
  · intro c h0 h1; exact absurd h1 (by show ¬ c < 0; omega)
  · intro c h0 h1; rfl
  · intro c h0 h1; exact absurd h1 (by show ¬ c < 0; omega)
  · intro c h0 h1; exact absurd h1 (by show ¬ c < 0; omega)
  · intro c h0 h1; exact absurd h1 (by show ¬ c < 0; omega)
  · intro c h0 h1; exact Or.inl rfl
  · intro c h0 h1; exact absurd h1 (by show ¬ c < 0; omega)
  · intro c h0 h1; exact Or.inl rfl
  · intro c h0 h1; rfl
/-- the cells' addresses: the class's block, the reference's, the script -/
def adL (ax am : Nat → Nat) (b : Nat) : Nat → Nat := fun k => if k < 63 then ax k else if k < 84 then am (k - 63) else b
section Q0
variable {l : Launch} {D : va_G} {cI cZ : ClassId} {ax am : Nat → Nat} {b : Nat}
theorem M0_k {k : Nat} (h : k = 5 ∨ k = 6 ∨ k = 30 ∨ k = 31) : (fun j : Nat => Int32.ofInt (M0 k j)) = kF 20 := by
  have e : M0 k = fun j => if j < ((20 : Nat) : Int) then -1 else 0 := by
    unfold M0
    rw [if_neg (by omega), if_pos h]
  rw [e]
  rfl
theorem qe_0 : qc (l, D, cI, cZ, adL ax am b) M0 0 (.inl (7, [some 1, some 26, some 51, some 54, none, none, none])) = (ax 0, .inr (7, [.ref (ax 1), .ref (ax 26), .ref (ax 51), .ref (ax 54), .int (Int32.ofInt 0), .int (Int32.ofInt 1), .int (Int32.ofInt 5)])) := by
  unfold qc
  simp only [List.mapIdx_cons, List.mapIdx_nil]
  rfl
theorem qe_1 : qc (l, D, cI, cZ, adL ax am b) M0 1 (.inl (0, [some 2, some 8, some 16, some 22])) = (ax 1, .inr (0, [.ref (ax 2), .ref (ax 8), .ref (ax 16), .ref (ax 22)])) := by
  unfold qc
  simp only [List.mapIdx_cons, List.mapIdx_nil]
  rfl
theorem qe_2 : qc (l, D, cI, cZ, adL ax am b) M0 2 (.inl (3, [none, some 3, some 4, none, some 5, some 6, some 7])) = (ax 2, .inr (3, [.int (Int32.ofInt 0), .ref (ax 3), .ref (ax 4), .int (Int32.ofInt 0), .ref (ax 5), .ref (ax 6), .ref (ax 7)])) := by
  unfold qc
  simp only [List.mapIdx_cons, List.mapIdx_nil]
  rfl
theorem qe_3 : qc (l, D, cI, cZ, adL ax am b) M0 3 (.inr (false, 10)) = (ax 3, zA cI 10) := rfl
theorem qe_4 : qc (l, D, cI, cZ, adL ax am b) M0 4 (.inr (false, 10)) = (ax 4, zA cI 10) := rfl
theorem qe_5 : qc (l, D, cI, cZ, adL ax am b) M0 5 (.inr (false, 20)) = (ax 5, zF cI 20) := by
  show (ax 5, Sum.inl (cI, 20, Sum.inl (fun j : Nat => Int32.ofInt (M0 5 j)))) = (ax 5, Sum.inl (cI, 20, Sum.inl (kF 20)))
  rw [M0_k (by decide)]
theorem qe_6 : qc (l, D, cI, cZ, adL ax am b) M0 6 (.inr (false, 20)) = (ax 6, zF cI 20) := by
  show (ax 6, Sum.inl (cI, 20, Sum.inl (fun j : Nat => Int32.ofInt (M0 6 j)))) = (ax 6, Sum.inl (cI, 20, Sum.inl (kF 20)))
  rw [M0_k (by decide)]
theorem qe_7 : qc (l, D, cI, cZ, adL ax am b) M0 7 (.inr (false, 5)) = (ax 7, zA cI 5) := rfl
theorem qe_8 : qc (l, D, cI, cZ, adL ax am b) M0 8 (.inl (6, [none, some 9, some 10, none, some 11, some 12, some 13, some 14, some 15])) = (ax 8, .inr (6, [.int (Int32.ofInt 0), .ref (ax 9), .ref (ax 10), .int (Int32.ofInt 0), .ref (ax 11), .ref (ax 12), .ref (ax 13), .ref (ax 14), .ref (ax 15)])) := by
  unfold qc
  simp only [List.mapIdx_cons, List.mapIdx_nil]
  rfl
theorem qe_9 : qc (l, D, cI, cZ, adL ax am b) M0 9 (.inr (false, 10)) = (ax 9, zA cI 10) := rfl
theorem qe_10 : qc (l, D, cI, cZ, adL ax am b) M0 10 (.inr (false, 10)) = (ax 10, zA cI 10) := rfl
theorem qe_11 : qc (l, D, cI, cZ, adL ax am b) M0 11 (.inr (false, 8)) = (ax 11, zA cI 8) := rfl
theorem qe_12 : qc (l, D, cI, cZ, adL ax am b) M0 12 (.inr (false, 8)) = (ax 12, zA cI 8) := rfl
theorem qe_13 : qc (l, D, cI, cZ, adL ax am b) M0 13 (.inr (false, 8)) = (ax 13, zA cI 8) := rfl
theorem qe_14 : qc (l, D, cI, cZ, adL ax am b) M0 14 (.inr (false, 8)) = (ax 14, zA cI 8) := rfl
theorem qe_15 : qc (l, D, cI, cZ, adL ax am b) M0 15 (.inr (false, 8)) = (ax 15, zA cI 8) := rfl
theorem qe_16 : qc (l, D, cI, cZ, adL ax am b) M0 16 (.inl (5, [none, some 17, some 18, some 19, some 20, some 21])) = (ax 16, .inr (5, [.int (Int32.ofInt 0), .ref (ax 17), .ref (ax 18), .ref (ax 19), .ref (ax 20), .ref (ax 21)])) := by
  unfold qc
  simp only [List.mapIdx_cons, List.mapIdx_nil]
  rfl
theorem qe_17 : qc (l, D, cI, cZ, adL ax am b) M0 17 (.inr (false, 80)) = (ax 17, zA cI 80) := rfl
theorem qe_18 : qc (l, D, cI, cZ, adL ax am b) M0 18 (.inr (false, 80)) = (ax 18, zA cI 80) := rfl
theorem qe_19 : qc (l, D, cI, cZ, adL ax am b) M0 19 (.inr (false, 80)) = (ax 19, zA cI 80) := rfl
theorem qe_20 : qc (l, D, cI, cZ, adL ax am b) M0 20 (.inr (false, 80)) = (ax 20, zA cI 80) := rfl
theorem qe_21 : qc (l, D, cI, cZ, adL ax am b) M0 21 (.inr (true, 80)) = (ax 21, zA cZ 80) := rfl
theorem qe_22 : qc (l, D, cI, cZ, adL ax am b) M0 22 (.inl (1, [none, some 23, some 24, some 25])) = (ax 22, .inr (1, [.int (Int32.ofInt 0), .ref (ax 23), .ref (ax 24), .ref (ax 25)])) := by
  unfold qc
  simp only [List.mapIdx_cons, List.mapIdx_nil]
  rfl
theorem qe_23 : qc (l, D, cI, cZ, adL ax am b) M0 23 (.inr (false, 3)) = (ax 23, zA cI 3) := rfl
theorem qe_24 : qc (l, D, cI, cZ, adL ax am b) M0 24 (.inr (true, 3)) = (ax 24, zA cZ 3) := rfl
theorem qe_25 : qc (l, D, cI, cZ, adL ax am b) M0 25 (.inr (false, 60)) = (ax 25, zA cI 60) := rfl
theorem qe_26 : qc (l, D, cI, cZ, adL ax am b) M0 26 (.inl (0, [some 27, some 33, some 41, some 47])) = (ax 26, .inr (0, [.ref (ax 27), .ref (ax 33), .ref (ax 41), .ref (ax 47)])) := by
  unfold qc
  simp only [List.mapIdx_cons, List.mapIdx_nil]
  rfl
theorem qe_27 : qc (l, D, cI, cZ, adL ax am b) M0 27 (.inl (3, [none, some 28, some 29, none, some 30, some 31, some 32])) = (ax 27, .inr (3, [.int (Int32.ofInt 0), .ref (ax 28), .ref (ax 29), .int (Int32.ofInt 0), .ref (ax 30), .ref (ax 31), .ref (ax 32)])) := by
  unfold qc
  simp only [List.mapIdx_cons, List.mapIdx_nil]
  rfl
theorem qe_28 : qc (l, D, cI, cZ, adL ax am b) M0 28 (.inr (false, 10)) = (ax 28, zA cI 10) := rfl
theorem qe_29 : qc (l, D, cI, cZ, adL ax am b) M0 29 (.inr (false, 10)) = (ax 29, zA cI 10) := rfl
theorem qe_30 : qc (l, D, cI, cZ, adL ax am b) M0 30 (.inr (false, 20)) = (ax 30, zF cI 20) := by
  show (ax 30, Sum.inl (cI, 20, Sum.inl (fun j : Nat => Int32.ofInt (M0 30 j)))) = (ax 30, Sum.inl (cI, 20, Sum.inl (kF 20)))
  rw [M0_k (by decide)]
theorem qe_31 : qc (l, D, cI, cZ, adL ax am b) M0 31 (.inr (false, 20)) = (ax 31, zF cI 20) := by
  show (ax 31, Sum.inl (cI, 20, Sum.inl (fun j : Nat => Int32.ofInt (M0 31 j)))) = (ax 31, Sum.inl (cI, 20, Sum.inl (kF 20)))
  rw [M0_k (by decide)]
theorem qe_32 : qc (l, D, cI, cZ, adL ax am b) M0 32 (.inr (false, 5)) = (ax 32, zA cI 5) := rfl
theorem qe_33 : qc (l, D, cI, cZ, adL ax am b) M0 33 (.inl (6, [none, some 34, some 35, none, some 36, some 37, some 38, some 39, some 40])) = (ax 33, .inr (6, [.int (Int32.ofInt 0), .ref (ax 34), .ref (ax 35), .int (Int32.ofInt 0), .ref (ax 36), .ref (ax 37), .ref (ax 38), .ref (ax 39), .ref (ax 40)])) := by
  unfold qc
  simp only [List.mapIdx_cons, List.mapIdx_nil]
  rfl
theorem qe_34 : qc (l, D, cI, cZ, adL ax am b) M0 34 (.inr (false, 10)) = (ax 34, zA cI 10) := rfl
theorem qe_35 : qc (l, D, cI, cZ, adL ax am b) M0 35 (.inr (false, 10)) = (ax 35, zA cI 10) := rfl
theorem qe_36 : qc (l, D, cI, cZ, adL ax am b) M0 36 (.inr (false, 8)) = (ax 36, zA cI 8) := rfl
theorem qe_37 : qc (l, D, cI, cZ, adL ax am b) M0 37 (.inr (false, 8)) = (ax 37, zA cI 8) := rfl
theorem qe_38 : qc (l, D, cI, cZ, adL ax am b) M0 38 (.inr (false, 8)) = (ax 38, zA cI 8) := rfl
theorem qe_39 : qc (l, D, cI, cZ, adL ax am b) M0 39 (.inr (false, 8)) = (ax 39, zA cI 8) := rfl
theorem qe_40 : qc (l, D, cI, cZ, adL ax am b) M0 40 (.inr (false, 8)) = (ax 40, zA cI 8) := rfl
theorem qe_41 : qc (l, D, cI, cZ, adL ax am b) M0 41 (.inl (5, [none, some 42, some 43, some 44, some 45, some 46])) = (ax 41, .inr (5, [.int (Int32.ofInt 0), .ref (ax 42), .ref (ax 43), .ref (ax 44), .ref (ax 45), .ref (ax 46)])) := by
  unfold qc
  simp only [List.mapIdx_cons, List.mapIdx_nil]
  rfl
theorem qe_42 : qc (l, D, cI, cZ, adL ax am b) M0 42 (.inr (false, 80)) = (ax 42, zA cI 80) := rfl
theorem qe_43 : qc (l, D, cI, cZ, adL ax am b) M0 43 (.inr (false, 80)) = (ax 43, zA cI 80) := rfl
theorem qe_44 : qc (l, D, cI, cZ, adL ax am b) M0 44 (.inr (false, 80)) = (ax 44, zA cI 80) := rfl
theorem qe_45 : qc (l, D, cI, cZ, adL ax am b) M0 45 (.inr (false, 80)) = (ax 45, zA cI 80) := rfl
theorem qe_46 : qc (l, D, cI, cZ, adL ax am b) M0 46 (.inr (true, 80)) = (ax 46, zA cZ 80) := rfl
theorem qe_47 : qc (l, D, cI, cZ, adL ax am b) M0 47 (.inl (1, [none, some 48, some 49, some 50])) = (ax 47, .inr (1, [.int (Int32.ofInt 0), .ref (ax 48), .ref (ax 49), .ref (ax 50)])) := by
  unfold qc
  simp only [List.mapIdx_cons, List.mapIdx_nil]
  rfl
theorem qe_48 : qc (l, D, cI, cZ, adL ax am b) M0 48 (.inr (false, 3)) = (ax 48, zA cI 3) := rfl
theorem qe_49 : qc (l, D, cI, cZ, adL ax am b) M0 49 (.inr (true, 3)) = (ax 49, zA cZ 3) := rfl
theorem qe_50 : qc (l, D, cI, cZ, adL ax am b) M0 50 (.inr (false, 60)) = (ax 50, zA cI 60) := rfl
theorem qe_51 : qc (l, D, cI, cZ, adL ax am b) M0 51 (.inl (2, [some 52, some 53])) = (ax 51, .inr (2, [.ref (ax 52), .ref (ax 53)])) := by
  unfold qc
  simp only [List.mapIdx_cons, List.mapIdx_nil]
  rfl
theorem qe_52 : qc (l, D, cI, cZ, adL ax am b) M0 52 (.inr (false, 100)) = (ax 52, zA cI 100) := rfl
theorem qe_53 : qc (l, D, cI, cZ, adL ax am b) M0 53 (.inr (false, 8)) = (ax 53, zA cI 8) := rfl
theorem qe_54 : qc (l, D, cI, cZ, adL ax am b) M0 54 (.inl (4, [some 55, some 56, some 57, some 58, some 59, some 60, some 61, some 62, none, none])) = (ax 54, .inr (4, [.ref (ax 55), .ref (ax 56), .ref (ax 57), .ref (ax 58), .ref (ax 59), .ref (ax 60), .ref (ax 61), .ref (ax 62), .int (Int32.ofInt 0), .int (Int32.ofInt 0)])) := by
  unfold qc
  simp only [List.mapIdx_cons, List.mapIdx_nil]
  rfl
theorem qe_55 : qc (l, D, cI, cZ, adL ax am b) M0 55 (.inr (false, 4)) = (ax 55, zA cI 4) := rfl
theorem qe_56 : qc (l, D, cI, cZ, adL ax am b) M0 56 (.inr (false, 5)) = (ax 56, zA cI 5) := rfl
theorem qe_57 : qc (l, D, cI, cZ, adL ax am b) M0 57 (.inr (false, 60)) = (ax 57, zA cI 60) := rfl
theorem qe_58 : qc (l, D, cI, cZ, adL ax am b) M0 58 (.inr (false, 15)) = (ax 58, zA cI 15) := rfl
theorem qe_59 : qc (l, D, cI, cZ, adL ax am b) M0 59 (.inr (false, 5)) = (ax 59, zA cI 5) := rfl
theorem qe_60 : qc (l, D, cI, cZ, adL ax am b) M0 60 (.inr (false, 5)) = (ax 60, zA cI 5) := rfl
theorem qe_61 : qc (l, D, cI, cZ, adL ax am b) M0 61 (.inr (false, 4)) = (ax 61, zA cI 4) := rfl
theorem qe_62 : qc (l, D, cI, cZ, adL ax am b) M0 62 (.inr (false, 4)) = (ax 62, zA cI 4) := rfl
theorem qe_63 : qc (l, D, cI, cZ, adL ax am b) M0 63 (.inl (8, [some 64, some 65, some 66, some 67, some 68, some 69, some 70, some 71, some 72, some 73, some 74, some 75, some 76, none, none, some 77, some 78, some 79, some 80, some 81, some 82, some 83, none, none, none])) = (am 0, .inr (8, [.ref (am 1), .ref (am 2), .ref (am 3), .ref (am 4), .ref (am 5), .ref (am 6), .ref (am 7), .ref (am 8), .ref (am 9), .ref (am 10), .ref (am 11), .ref (am 12), .ref (am 13), .int (Int32.ofInt 5), .int (Int32.ofInt 0), .ref (am 14), .ref (am 15), .ref (am 16), .ref (am 17), .ref (am 18), .ref (am 19), .ref (am 20), .int (Int32.ofInt 0), .int (Int32.ofInt 0), .int (Int32.ofInt 0)])) := by
  unfold qc
  simp only [List.mapIdx_cons, List.mapIdx_nil]
  rfl
theorem qe_64 : qc (l, D, cI, cZ, adL ax am b) M0 64 (.inr (false, 6)) = (am 1, zA cI 6) := rfl
theorem qe_65 : qc (l, D, cI, cZ, adL ax am b) M0 65 (.inr (false, 10)) = (am 2, zA cI 10) := rfl
theorem qe_66 : qc (l, D, cI, cZ, adL ax am b) M0 66 (.inr (false, 10)) = (am 3, zA cI 10) := rfl
theorem qe_67 : qc (l, D, cI, cZ, adL ax am b) M0 67 (.inr (false, 20)) = (am 4, zA cI 20) := rfl
theorem qe_68 : qc (l, D, cI, cZ, adL ax am b) M0 68 (.inr (false, 20)) = (am 5, zA cI 20) := rfl
theorem qe_69 : qc (l, D, cI, cZ, adL ax am b) M0 69 (.inr (false, 5)) = (am 6, zA cI 5) := rfl
theorem qe_70 : qc (l, D, cI, cZ, adL ax am b) M0 70 (.inr (false, 10)) = (am 7, zA cI 10) := rfl
theorem qe_71 : qc (l, D, cI, cZ, adL ax am b) M0 71 (.inr (false, 10)) = (am 8, zA cI 10) := rfl
theorem qe_72 : qc (l, D, cI, cZ, adL ax am b) M0 72 (.inr (false, 40)) = (am 9, zA cI 40) := rfl
theorem qe_73 : qc (l, D, cI, cZ, adL ax am b) M0 73 (.inr (false, 400)) = (am 10, zA cI 400) := rfl
theorem qe_74 : qc (l, D, cI, cZ, adL ax am b) M0 74 (.inr (false, 3)) = (am 11, zA cI 3) := rfl
theorem qe_75 : qc (l, D, cI, cZ, adL ax am b) M0 75 (.inr (false, 3)) = (am 12, zA cI 3) := rfl
theorem qe_76 : qc (l, D, cI, cZ, adL ax am b) M0 76 (.inr (false, 60)) = (am 13, zA cI 60) := rfl
theorem qe_77 : qc (l, D, cI, cZ, adL ax am b) M0 77 (.inr (false, 620)) = (am 14, zA cI 620) := rfl
theorem qe_78 : qc (l, D, cI, cZ, adL ax am b) M0 78 (.inr (false, 10)) = (am 15, zA cI 10) := rfl
theorem qe_79 : qc (l, D, cI, cZ, adL ax am b) M0 79 (.inr (false, 8)) = (am 16, zA cI 8) := rfl
theorem qe_80 : qc (l, D, cI, cZ, adL ax am b) M0 80 (.inr (false, 4)) = (am 17, zA cI 4) := rfl
theorem qe_81 : qc (l, D, cI, cZ, adL ax am b) M0 81 (.inr (false, 4)) = (am 18, zA cI 4) := rfl
theorem qe_82 : qc (l, D, cI, cZ, adL ax am b) M0 82 (.inr (false, 4)) = (am 19, zA cI 4) := rfl
theorem qe_83 : qc (l, D, cI, cZ, adL ax am b) M0 83 (.inr (false, 5)) = (am 20, zA cI 5) := rfl
set_option maxRecDepth 100000 in
set_option maxHeartbeats 4000000 in
theorem qC_P {H : Heap} (hP : va_P D vwCl (B_X7 (l, D, cI, cZ, fun _ => 0) ax ++ B_X8 (l, D, cI, cZ, fun _ => 0) am) H) : va_P D vwCl (qC (l, D, cI, cZ, adL ax am b) M0) H := by
  intro k q hq
  obtain ⟨y, hy, rfl⟩ := qC_of hq
  have hk := qLs_lt hy
  clear hq
  rcases (show k = 0 ∨ k = 1 ∨ k = 2 ∨ k = 3 ∨ k = 4 ∨ k = 5 ∨ k = 6 ∨ k = 7 ∨ k = 8 ∨ k = 9 ∨ k = 10 ∨ k = 11 ∨ k = 12 ∨ k = 13 ∨ k = 14 ∨ k = 15 ∨ k = 16 ∨ k = 17 ∨ k = 18 ∨ k = 19 ∨ k = 20 ∨ k = 21 ∨ k = 22 ∨ k = 23 ∨ k = 24 ∨ k = 25 ∨ k = 26 ∨ k = 27 ∨ k = 28 ∨ k = 29 ∨ k = 30 ∨ k = 31 ∨ k = 32 ∨ k = 33 ∨ k = 34 ∨ k = 35 ∨ k = 36 ∨ k = 37 ∨ k = 38 ∨ k = 39 ∨ k = 40 ∨ k = 41 ∨ k = 42 ∨ k = 43 ∨ k = 44 ∨ k = 45 ∨ k = 46 ∨ k = 47 ∨ k = 48 ∨ k = 49 ∨ k = 50 ∨ k = 51 ∨ k = 52 ∨ k = 53 ∨ k = 54 ∨ k = 55 ∨ k = 56 ∨ k = 57 ∨ k = 58 ∨ k = 59 ∨ k = 60 ∨ k = 61 ∨ k = 62 ∨ k = 63 ∨ k = 64 ∨ k = 65 ∨ k = 66 ∨ k = 67 ∨ k = 68 ∨ k = 69 ∨ k = 70 ∨ k = 71 ∨ k = 72 ∨ k = 73 ∨ k = 74 ∨ k = 75 ∨ k = 76 ∨ k = 77 ∨ k = 78 ∨ k = 79 ∨ k = 80 ∨ k = 81 ∨ k = 82 ∨ k = 83 by omega) with rfl | rfl | rfl | rfl | rfl | rfl | rfl | rfl | rfl | rfl | rfl | rfl | rfl | rfl | rfl | rfl | rfl | rfl | rfl | rfl | rfl | rfl | rfl | rfl | rfl | rfl | rfl | rfl | rfl | rfl | rfl | rfl | rfl | rfl | rfl | rfl | rfl | rfl | rfl | rfl | rfl | rfl | rfl | rfl | rfl | rfl | rfl | rfl | rfl | rfl | rfl | rfl | rfl | rfl | rfl | rfl | rfl | rfl | rfl | rfl | rfl | rfl | rfl | rfl | rfl | rfl | rfl | rfl | rfl | rfl | rfl | rfl | rfl | rfl | rfl | rfl | rfl | rfl | rfl | rfl | rfl | rfl | rfl | rfl
  · obtain rfl := Option.some.inj (ly_0.symm.trans hy)
    rw [qe_0]
    exact hP 0 _ rfl
  · obtain rfl := Option.some.inj (ly_1.symm.trans hy)
    rw [qe_1]
    exact hP 1 _ rfl
  · obtain rfl := Option.some.inj (ly_2.symm.trans hy)
    rw [qe_2]
    exact hP 2 _ rfl
  · obtain rfl := Option.some.inj (ly_3.symm.trans hy)
    rw [qe_3]
    exact hP 3 _ rfl
  · obtain rfl := Option.some.inj (ly_4.symm.trans hy)
    rw [qe_4]
    exact hP 4 _ rfl
  · obtain rfl := Option.some.inj (ly_5.symm.trans hy)
    rw [qe_5]
    exact hP 5 _ rfl
  · obtain rfl := Option.some.inj (ly_6.symm.trans hy)
    rw [qe_6]
    exact hP 6 _ rfl
  · obtain rfl := Option.some.inj (ly_7.symm.trans hy)
    rw [qe_7]
    exact hP 7 _ rfl
  · obtain rfl := Option.some.inj (ly_8.symm.trans hy)
    rw [qe_8]
    exact hP 8 _ rfl
  · obtain rfl := Option.some.inj (ly_9.symm.trans hy)
    rw [qe_9]
    exact hP 9 _ rfl
  · obtain rfl := Option.some.inj (ly_10.symm.trans hy)
    rw [qe_10]
    exact hP 10 _ rfl
  · obtain rfl := Option.some.inj (ly_11.symm.trans hy)
    rw [qe_11]
    exact hP 11 _ rfl
  · obtain rfl := Option.some.inj (ly_12.symm.trans hy)
    rw [qe_12]
    exact hP 12 _ rfl
  · obtain rfl := Option.some.inj (ly_13.symm.trans hy)
    rw [qe_13]
    exact hP 13 _ rfl
  · obtain rfl := Option.some.inj (ly_14.symm.trans hy)
    rw [qe_14]
    exact hP 14 _ rfl
  · obtain rfl := Option.some.inj (ly_15.symm.trans hy)
    rw [qe_15]
    exact hP 15 _ rfl
  · obtain rfl := Option.some.inj (ly_16.symm.trans hy)
    rw [qe_16]
    exact hP 16 _ rfl
  · obtain rfl := Option.some.inj (ly_17.symm.trans hy)
    rw [qe_17]
    exact hP 17 _ rfl
  · obtain rfl := Option.some.inj (ly_18.symm.trans hy)
    rw [qe_18]
    exact hP 18 _ rfl
  · obtain rfl := Option.some.inj (ly_19.symm.trans hy)
    rw [qe_19]
    exact hP 19 _ rfl
  · obtain rfl := Option.some.inj (ly_20.symm.trans hy)
    rw [qe_20]
    exact hP 20 _ rfl
  · obtain rfl := Option.some.inj (ly_21.symm.trans hy)
    rw [qe_21]
    exact hP 21 _ rfl
  · obtain rfl := Option.some.inj (ly_22.symm.trans hy)
    rw [qe_22]
    exact hP 22 _ rfl
  · obtain rfl := Option.some.inj (ly_23.symm.trans hy)
    rw [qe_23]
    exact hP 23 _ rfl
  · obtain rfl := Option.some.inj (ly_24.symm.trans hy)
    rw [qe_24]
    exact hP 24 _ rfl
  · obtain rfl := Option.some.inj (ly_25.symm.trans hy)
    rw [qe_25]
    exact hP 25 _ rfl
  · obtain rfl := Option.some.inj (ly_26.symm.trans hy)
    rw [qe_26]
    exact hP 26 _ rfl
  · obtain rfl := Option.some.inj (ly_27.symm.trans hy)
    rw [qe_27]
    exact hP 27 _ rfl
  · obtain rfl := Option.some.inj (ly_28.symm.trans hy)
    rw [qe_28]
    exact hP 28 _ rfl
  · obtain rfl := Option.some.inj (ly_29.symm.trans hy)
    rw [qe_29]
    exact hP 29 _ rfl
  · obtain rfl := Option.some.inj (ly_30.symm.trans hy)
    rw [qe_30]
    exact hP 30 _ rfl
  · obtain rfl := Option.some.inj (ly_31.symm.trans hy)
    rw [qe_31]
    exact hP 31 _ rfl
  · obtain rfl := Option.some.inj (ly_32.symm.trans hy)
    rw [qe_32]
    exact hP 32 _ rfl
  · obtain rfl := Option.some.inj (ly_33.symm.trans hy)
    rw [qe_33]
    exact hP 33 _ rfl
  · obtain rfl := Option.some.inj (ly_34.symm.trans hy)
    rw [qe_34]
    exact hP 34 _ rfl
  · obtain rfl := Option.some.inj (ly_35.symm.trans hy)
    rw [qe_35]
    exact hP 35 _ rfl
  · obtain rfl := Option.some.inj (ly_36.symm.trans hy)
    rw [qe_36]
    exact hP 36 _ rfl
  · obtain rfl := Option.some.inj (ly_37.symm.trans hy)
    rw [qe_37]
    exact hP 37 _ rfl
  · obtain rfl := Option.some.inj (ly_38.symm.trans hy)
    rw [qe_38]
    exact hP 38 _ rfl
  · obtain rfl := Option.some.inj (ly_39.symm.trans hy)
    rw [qe_39]
    exact hP 39 _ rfl
  · obtain rfl := Option.some.inj (ly_40.symm.trans hy)
    rw [qe_40]
    exact hP 40 _ rfl
  · obtain rfl := Option.some.inj (ly_41.symm.trans hy)
    rw [qe_41]
    exact hP 41 _ rfl
  · obtain rfl := Option.some.inj (ly_42.symm.trans hy)
    rw [qe_42]
    exact hP 42 _ rfl
  · obtain rfl := Option.some.inj (ly_43.symm.trans hy)
    rw [qe_43]
    exact hP 43 _ rfl
  · obtain rfl := Option.some.inj (ly_44.symm.trans hy)
    rw [qe_44]
    exact hP 44 _ rfl
  · obtain rfl := Option.some.inj (ly_45.symm.trans hy)
    rw [qe_45]
    exact hP 45 _ rfl
  · obtain rfl := Option.some.inj (ly_46.symm.trans hy)
    rw [qe_46]
    exact hP 46 _ rfl
  · obtain rfl := Option.some.inj (ly_47.symm.trans hy)
    rw [qe_47]
    exact hP 47 _ rfl
  · obtain rfl := Option.some.inj (ly_48.symm.trans hy)
    rw [qe_48]
    exact hP 48 _ rfl
  · obtain rfl := Option.some.inj (ly_49.symm.trans hy)
    rw [qe_49]
    exact hP 49 _ rfl
  · obtain rfl := Option.some.inj (ly_50.symm.trans hy)
    rw [qe_50]
    exact hP 50 _ rfl
  · obtain rfl := Option.some.inj (ly_51.symm.trans hy)
    rw [qe_51]
    exact hP 51 _ rfl
  · obtain rfl := Option.some.inj (ly_52.symm.trans hy)
    rw [qe_52]
    exact hP 52 _ rfl
  · obtain rfl := Option.some.inj (ly_53.symm.trans hy)
    rw [qe_53]
    exact hP 53 _ rfl
  · obtain rfl := Option.some.inj (ly_54.symm.trans hy)
    rw [qe_54]
    exact hP 54 _ rfl
  · obtain rfl := Option.some.inj (ly_55.symm.trans hy)
    rw [qe_55]
    exact hP 55 _ rfl
  · obtain rfl := Option.some.inj (ly_56.symm.trans hy)
    rw [qe_56]
    exact hP 56 _ rfl
  · obtain rfl := Option.some.inj (ly_57.symm.trans hy)
    rw [qe_57]
    exact hP 57 _ rfl
  · obtain rfl := Option.some.inj (ly_58.symm.trans hy)
    rw [qe_58]
    exact hP 58 _ rfl
  · obtain rfl := Option.some.inj (ly_59.symm.trans hy)
    rw [qe_59]
    exact hP 59 _ rfl
  · obtain rfl := Option.some.inj (ly_60.symm.trans hy)
    rw [qe_60]
    exact hP 60 _ rfl
  · obtain rfl := Option.some.inj (ly_61.symm.trans hy)
    rw [qe_61]
    exact hP 61 _ rfl
  · obtain rfl := Option.some.inj (ly_62.symm.trans hy)
    rw [qe_62]
    exact hP 62 _ rfl
  · obtain rfl := Option.some.inj (ly_63.symm.trans hy)
    rw [qe_63]
    exact hP 63 _ rfl
  · obtain rfl := Option.some.inj (ly_64.symm.trans hy)
    rw [qe_64]
    exact hP 64 _ rfl
  · obtain rfl := Option.some.inj (ly_65.symm.trans hy)
    rw [qe_65]
    exact hP 65 _ rfl
  · obtain rfl := Option.some.inj (ly_66.symm.trans hy)
    rw [qe_66]
    exact hP 66 _ rfl
  · obtain rfl := Option.some.inj (ly_67.symm.trans hy)
    rw [qe_67]
    exact hP 67 _ rfl
  · obtain rfl := Option.some.inj (ly_68.symm.trans hy)
    rw [qe_68]
    exact hP 68 _ rfl
  · obtain rfl := Option.some.inj (ly_69.symm.trans hy)
    rw [qe_69]
    exact hP 69 _ rfl
  · obtain rfl := Option.some.inj (ly_70.symm.trans hy)
    rw [qe_70]
    exact hP 70 _ rfl
  · obtain rfl := Option.some.inj (ly_71.symm.trans hy)
    rw [qe_71]
    exact hP 71 _ rfl
  · obtain rfl := Option.some.inj (ly_72.symm.trans hy)
    rw [qe_72]
    exact hP 72 _ rfl
  · obtain rfl := Option.some.inj (ly_73.symm.trans hy)
    rw [qe_73]
    exact hP 73 _ rfl
  · obtain rfl := Option.some.inj (ly_74.symm.trans hy)
    rw [qe_74]
    exact hP 74 _ rfl
  · obtain rfl := Option.some.inj (ly_75.symm.trans hy)
    rw [qe_75]
    exact hP 75 _ rfl
  · obtain rfl := Option.some.inj (ly_76.symm.trans hy)
    rw [qe_76]
    exact hP 76 _ rfl
  · obtain rfl := Option.some.inj (ly_77.symm.trans hy)
    rw [qe_77]
    exact hP 77 _ rfl
  · obtain rfl := Option.some.inj (ly_78.symm.trans hy)
    rw [qe_78]
    exact hP 78 _ rfl
  · obtain rfl := Option.some.inj (ly_79.symm.trans hy)
    rw [qe_79]
    exact hP 79 _ rfl
  · obtain rfl := Option.some.inj (ly_80.symm.trans hy)
    rw [qe_80]
    exact hP 80 _ rfl
  · obtain rfl := Option.some.inj (ly_81.symm.trans hy)
    rw [qe_81]
    exact hP 81 _ rfl
  · obtain rfl := Option.some.inj (ly_82.symm.trans hy)
    rw [qe_82]
    exact hP 82 _ rfl
  · obtain rfl := Option.some.inj (ly_83.symm.trans hy)
    rw [qe_83]
    exact hP 83 _ rfl
set_option maxRecDepth 100000 in
set_option maxHeartbeats 4000000 in
theorem qC_ad {A : Nat → Prop} (hD : va_D A (B_X7 (l, D, cI, cZ, fun _ => 0) ax ++ B_X8 (l, D, cI, cZ, fun _ => 0) am)) : qJ (l, D, cI, cZ, adL ax am b) ∧ ∀ k, k < 84 → A (adL ax am b k) := by
  have key : ∀ k, k < 84 → ∃ e : va_E, (B_X7 (l, D, cI, cZ, fun _ => 0) ax ++ B_X8 (l, D, cI, cZ, fun _ => 0) am)[k]? = some (adL ax am b k, e) := by
    intro k hk
    rcases (show k = 0 ∨ k = 1 ∨ k = 2 ∨ k = 3 ∨ k = 4 ∨ k = 5 ∨ k = 6 ∨ k = 7 ∨ k = 8 ∨ k = 9 ∨ k = 10 ∨ k = 11 ∨ k = 12 ∨ k = 13 ∨ k = 14 ∨ k = 15 ∨ k = 16 ∨ k = 17 ∨ k = 18 ∨ k = 19 ∨ k = 20 ∨ k = 21 ∨ k = 22 ∨ k = 23 ∨ k = 24 ∨ k = 25 ∨ k = 26 ∨ k = 27 ∨ k = 28 ∨ k = 29 ∨ k = 30 ∨ k = 31 ∨ k = 32 ∨ k = 33 ∨ k = 34 ∨ k = 35 ∨ k = 36 ∨ k = 37 ∨ k = 38 ∨ k = 39 ∨ k = 40 ∨ k = 41 ∨ k = 42 ∨ k = 43 ∨ k = 44 ∨ k = 45 ∨ k = 46 ∨ k = 47 ∨ k = 48 ∨ k = 49 ∨ k = 50 ∨ k = 51 ∨ k = 52 ∨ k = 53 ∨ k = 54 ∨ k = 55 ∨ k = 56 ∨ k = 57 ∨ k = 58 ∨ k = 59 ∨ k = 60 ∨ k = 61 ∨ k = 62 ∨ k = 63 ∨ k = 64 ∨ k = 65 ∨ k = 66 ∨ k = 67 ∨ k = 68 ∨ k = 69 ∨ k = 70 ∨ k = 71 ∨ k = 72 ∨ k = 73 ∨ k = 74 ∨ k = 75 ∨ k = 76 ∨ k = 77 ∨ k = 78 ∨ k = 79 ∨ k = 80 ∨ k = 81 ∨ k = 82 ∨ k = 83 by omega) with rfl | rfl | rfl | rfl | rfl | rfl | rfl | rfl | rfl | rfl | rfl | rfl | rfl | rfl | rfl | rfl | rfl | rfl | rfl | rfl | rfl | rfl | rfl | rfl | rfl | rfl | rfl | rfl | rfl | rfl | rfl | rfl | rfl | rfl | rfl | rfl | rfl | rfl | rfl | rfl | rfl | rfl | rfl | rfl | rfl | rfl | rfl | rfl | rfl | rfl | rfl | rfl | rfl | rfl | rfl | rfl | rfl | rfl | rfl | rfl | rfl | rfl | rfl | rfl | rfl | rfl | rfl | rfl | rfl | rfl | rfl | rfl | rfl | rfl | rfl | rfl | rfl | rfl | rfl | rfl | rfl | rfl | rfl | rfl
    · exact ⟨_, rfl⟩
    · exact ⟨_, rfl⟩
    · exact ⟨_, rfl⟩
    · exact ⟨_, rfl⟩
    · exact ⟨_, rfl⟩
    · exact ⟨_, rfl⟩
    · exact ⟨_, rfl⟩
    · exact ⟨_, rfl⟩
    · exact ⟨_, rfl⟩
    · exact ⟨_, rfl⟩
    · exact ⟨_, rfl⟩
    · exact ⟨_, rfl⟩
    · exact ⟨_, rfl⟩
    · exact ⟨_, rfl⟩
    · exact ⟨_, rfl⟩
    · exact ⟨_, rfl⟩
    · exact ⟨_, rfl⟩
    · exact ⟨_, rfl⟩
    · exact ⟨_, rfl⟩
    · exact ⟨_, rfl⟩
    · exact ⟨_, rfl⟩
    · exact ⟨_, rfl⟩
    · exact ⟨_, rfl⟩
    · exact ⟨_, rfl⟩
    · exact ⟨_, rfl⟩
    · exact ⟨_, rfl⟩
    · exact ⟨_, rfl⟩
    · exact ⟨_, rfl⟩
    · exact ⟨_, rfl⟩
    · exact ⟨_, rfl⟩
    · exact ⟨_, rfl⟩
    · exact ⟨_, rfl⟩
    · exact ⟨_, rfl⟩
    · exact ⟨_, rfl⟩
    · exact ⟨_, rfl⟩
    · exact ⟨_, rfl⟩
    · exact ⟨_, rfl⟩
    · exact ⟨_, rfl⟩
    · exact ⟨_, rfl⟩
    · exact ⟨_, rfl⟩
    · exact ⟨_, rfl⟩
    · exact ⟨_, rfl⟩
    · exact ⟨_, rfl⟩
    · exact ⟨_, rfl⟩
    · exact ⟨_, rfl⟩
    · exact ⟨_, rfl⟩
    · exact ⟨_, rfl⟩
    · exact ⟨_, rfl⟩
    · exact ⟨_, rfl⟩
    · exact ⟨_, rfl⟩
    · exact ⟨_, rfl⟩
    · exact ⟨_, rfl⟩
    · exact ⟨_, rfl⟩
    · exact ⟨_, rfl⟩
    · exact ⟨_, rfl⟩
    · exact ⟨_, rfl⟩
    · exact ⟨_, rfl⟩
    · exact ⟨_, rfl⟩
    · exact ⟨_, rfl⟩
    · exact ⟨_, rfl⟩
    · exact ⟨_, rfl⟩
    · exact ⟨_, rfl⟩
    · exact ⟨_, rfl⟩
    · exact ⟨_, rfl⟩
    · exact ⟨_, rfl⟩
    · exact ⟨_, rfl⟩
    · exact ⟨_, rfl⟩
    · exact ⟨_, rfl⟩
    · exact ⟨_, rfl⟩
    · exact ⟨_, rfl⟩
    · exact ⟨_, rfl⟩
    · exact ⟨_, rfl⟩
    · exact ⟨_, rfl⟩
    · exact ⟨_, rfl⟩
    · exact ⟨_, rfl⟩
    · exact ⟨_, rfl⟩
    · exact ⟨_, rfl⟩
    · exact ⟨_, rfl⟩
    · exact ⟨_, rfl⟩
    · exact ⟨_, rfl⟩
    · exact ⟨_, rfl⟩
    · exact ⟨_, rfl⟩
    · exact ⟨_, rfl⟩
    · exact ⟨_, rfl⟩
  refine ⟨fun i j hi hj e => ?_, fun k hk => ?_⟩
  · obtain ⟨e1, h1⟩ := key i hi
    obtain ⟨e2, h2⟩ := key j hj
    exact hD.1 i j _ _ h1 h2 e
  · obtain ⟨e1, h1⟩ := key k hk
    exact hD.2 k _ h1
end Q0
