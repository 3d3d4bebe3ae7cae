/-! keep and back, both sides -/
def szB : Nat → Int
  | 2 => 10 | 3 => 10 | 4 => 20 | 5 => 20 | 6 => 5 | 8 => 10 | 9 => 10 | 10 => 8 | 11 => 8 | 12 => 8 | 13 => 8 | 14 => 8 | 16 => 80 | 17 => 80 | 18 => 80 | 19 => 80 | 20 => 80 | 22 => 3 | 23 => 3 | 24 => 60 | _ => 0
theorem sameV.e {V W : qM} (h : sameV V W) (a : Nat) (ha : a < 13) (j : Int) (h0 : 0 ≤ j) (h1 : j < klen a) : W a j = V a j := (h a ha j h0 h1).symm
theorem voV_v {V W : qM} (hv : voV V) (h : sameV V W) : voV W := by
  obtain ⟨n, hc, hl, ht, hb, hs, hw⟩ := hv
  have e0 := fun i (a : 0 ≤ i) (b : i < 6) => h.e 0 (by decide) i a b
  have f0 := e0 0 (by decide) (by decide)
  have f1 := e0 1 (by decide) (by decide)
  have f2 := e0 2 (by decide) (by decide)
  have f3 := e0 3 (by decide) (by decide)
  have f4 := e0 4 (by decide) (by decide)
  have f5 := e0 5 (by decide) (by decide)
  have k := n
  refine ⟨?_, ?_, ⟨?_, ?_⟩, ?_, ?_, ?_, ⟨?_, ?_⟩⟩
  · show voN W
    unfold voN
    rw [f0, f1, f2, f3, f4, f5]; exact n
  · rw [f0]
    intro c c0 c1
    rw [h.e 1 (by decide) c c0 (by show c < 10; omega), h.e 2 (by decide) c c0 (by show c < 10; omega)]
    exact hc c c0 c1
  · rw [f1]
    intro c c0 c1
    rw [h.e 3 (by decide) c c0 (by show c < 20; omega), h.e 4 (by decide) c c0 (by show c < 20; omega)]
    exact hl.1 c c0 c1
  · rw [f1]
    intro c c0 c1
    rw [h.e 5 (by decide) c c0 (by show c < 5; omega)]
    exact hl.2 c c0 c1
  · rw [f2]
    intro c c0 c1
    rw [h.e 6 (by decide) c c0 (by show c < 10; omega), h.e 7 (by decide) c c0 (by show c < 10; omega)]
    exact ht c c0 c1
  · rw [f4]
    intro c c0 c1
    rw [h.e 8 (by decide) (5 * c) (by omega) (by show 5 * c < 40; omega), h.e 8 (by decide) (5 * c + 1) (by omega) (by show 5 * c + 1 < 40; omega), h.e 8 (by decide) (5 * c + 2) (by omega) (by show 5 * c + 2 < 40; omega), h.e 8 (by decide) (5 * c + 3) (by omega) (by show 5 * c + 3 < 40; omega), h.e 8 (by decide) (5 * c + 4) (by omega) (by show 5 * c + 4 < 40; omega)]
    exact hb c c0 c1
  · rw [f0, f1, f2, f3]
    intro c c0 c1
    rw [h.e 9 (by decide) (5 * c) (by omega) (by show 5 * c < 400; omega), h.e 9 (by decide) (5 * c + 1) (by omega) (by show 5 * c + 1 < 400; omega), h.e 9 (by decide) (5 * c + 2) (by omega) (by show 5 * c + 2 < 400; omega), h.e 9 (by decide) (5 * c + 3) (by omega) (by show 5 * c + 3 < 400; omega), h.e 9 (by decide) (5 * c + 4) (by omega) (by show 5 * c + 4 < 400; omega)]
    exact hs c c0 c1
  · rw [f5]
    intro c c0 c1
    rw [h.e 10 (by decide) c c0 (by show c < 3; omega), h.e 11 (by decide) c c0 (by show c < 3; omega)]
    exact hw.1 c c0 c1
  · intro c c0 c1
    rw [h.e 12 (by decide) c c0 (by show c < 60; omega)]
    exact hw.2 c c0 c1
/-- the book read in its places only -/
theorem bkV_c {B B' V W : qM} (n : voN V) (h : sameV V W) (hs : B' 1 0 = B 1 0 ∧ B' 1 3 = B 1 3 ∧ B' 7 0 = B 7 0 ∧ B' 7 3 = B 7 3 ∧ B' 15 0 = B 15 0 ∧ B' 21 0 = B 21 0) (ha : ∀ a : Nat, a < 25 → ∀ j, 0 ≤ j → j < szB a → B' a j = B a j) (hb : bkV B V) : bkV B' W := by
  have e0 := fun i (a : 0 ≤ i) (b : i < 6) => h.e 0 (by decide) i a b
  have f0 := e0 0 (by decide) (by decide)
  have f1 := e0 1 (by decide) (by decide)
  have f2 := e0 2 (by decide) (by decide)
  have f3 := e0 3 (by decide) (by decide)
  have f4 := e0 4 (by decide) (by decide)
  have f5 := e0 5 (by decide) (by decide)
  obtain ⟨s0, s1, s2, s3, s4, s5⟩ := hs
  obtain ⟨⟨g0, hc⟩, ⟨g1, hl1, hl2, hl3, hl4⟩, ⟨g2, ht⟩, ⟨g3, hb⟩, ⟨g4, hs1, hs2⟩, ⟨g5, hw1, hw2, hw3⟩⟩ := hb
  refine ⟨⟨by rw [s0, f0, g0], ?_⟩, ⟨by rw [s1, f1, g1], ?_, ?_, ?_, ?_⟩, ⟨by rw [s2, f2, g2], ?_⟩, ⟨by rw [s3, f4, g3], ?_⟩, ⟨by rw [s4, f3, g4], ?_, ?_⟩, ⟨by rw [s5, f5, g5], ?_, ?_, ?_⟩⟩
  · rw [f0]
    intro c c0 c1
    rw [ha 2 (by decide) c (by omega) (by show c < 10; omega), ha 3 (by decide) c (by omega) (by show c < 10; omega), h.e 1 (by decide) (c) (by omega) (by show c < 10; omega), h.e 2 (by decide) (c) (by omega) (by show c < 10; omega)]
    exact hc c c0 c1
  · rw [f1]
    intro c c0 c1
    rw [ha 4 (by decide) c (by omega) (by show c < 20; omega), ha 5 (by decide) c (by omega) (by show c < 20; omega), h.e 3 (by decide) (c) (by omega) (by show c < 20; omega), h.e 4 (by decide) (c) (by omega) (by show c < 20; omega)]
    exact hl1 c c0 c1
  · rw [f1]
    intro c c0 c1
    rw [ha 4 (by decide) c (by omega) (by show c < 20; omega), ha 5 (by decide) c (by omega) (by show c < 20; omega)]
    exact hl2 c c0 c1
  · rw [f1]
    intro c c0 c1
    rw [ha 6 (by decide) c (by omega) (by show c < 5; omega), h.e 5 (by decide) (c) (by omega) (by show c < 5; omega)]
    exact hl3 c c0 c1
  · rw [f1]
    intro c c0 c1
    rw [ha 6 (by decide) c (by omega) (by show c < 5; omega)]
    exact hl4 c c0 c1
  · rw [f2]
    intro c c0 c1
    rw [ha 8 (by decide) c (by omega) (by show c < 10; omega), ha 9 (by decide) c (by omega) (by show c < 10; omega), h.e 6 (by decide) (c) (by omega) (by show c < 10; omega), h.e 7 (by decide) (c) (by omega) (by show c < 10; omega)]
    exact ht c c0 c1
  · rw [f4]
    intro c c0 c1
    rw [ha 10 (by decide) c (by omega) (by show c < 8; omega), ha 11 (by decide) c (by omega) (by show c < 8; omega), ha 12 (by decide) c (by omega) (by show c < 8; omega), ha 13 (by decide) c (by omega) (by show c < 8; omega), ha 14 (by decide) c (by omega) (by show c < 8; omega), h.e 8 (by decide) (5 * c) (by omega) (by show 5 * c < 40; omega), h.e 8 (by decide) (5 * c + 1) (by omega) (by show 5 * c + 1 < 40; omega), h.e 8 (by decide) (5 * c + 2) (by omega) (by show 5 * c + 2 < 40; omega), h.e 8 (by decide) (5 * c + 3) (by omega) (by show 5 * c + 3 < 40; omega), h.e 8 (by decide) (5 * c + 4) (by omega) (by show 5 * c + 4 < 40; omega)]
    exact hb c c0 c1
  · rw [f3]
    intro c c0 c1
    rw [ha 16 (by decide) c (by omega) (by show c < 80; omega), ha 17 (by decide) c (by omega) (by show c < 80; omega), ha 18 (by decide) c (by omega) (by show c < 80; omega), ha 19 (by decide) c (by omega) (by show c < 80; omega), ha 20 (by decide) c (by omega) (by show c < 80; omega), h.e 9 (by decide) (5 * c) (by omega) (by show 5 * c < 400; omega), h.e 9 (by decide) (5 * c + 1) (by omega) (by show 5 * c + 1 < 400; omega), h.e 9 (by decide) (5 * c + 2) (by omega) (by show 5 * c + 2 < 400; omega), h.e 9 (by decide) (5 * c + 3) (by omega) (by show 5 * c + 3 < 400; omega), h.e 9 (by decide) (5 * c + 4) (by omega) (by show 5 * c + 4 < 400; omega)]
    exact hs1 c c0 c1
  · intro c c0 c1
    rw [ha 20 (by decide) c (by omega) (by show c < 80; omega)]
    exact hs2 c c0 c1
  · rw [f5]
    intro c c0 c1
    rw [ha 22 (by decide) c (by omega) (by show c < 3; omega), ha 23 (by decide) c (by omega) (by show c < 3; omega), h.e 10 (by decide) (c) (by omega) (by show c < 3; omega), h.e 11 (by decide) (c) (by omega) (by show c < 3; omega)]
    exact hw1 c c0 c1
  · intro c c0 c1
    rw [ha 23 (by decide) c (by omega) (by show c < 3; omega)]
    exact hw2 c c0 c1
  · intro c c0 c1
    rw [ha 24 (by decide) c (by omega) (by show c < 60; omega), h.e 12 (by decide) (c) (by omega) (by show c < 60; omega)]
    exact hw3 c c0 c1
theorem b_X3_become_k {g : qG} {d : Nat} {M : qM} : qOk g (d + 2) j_X3_become [.inr 27, .inr 2] M (qN fun M1 => M1 27 0 = M 2 0 ∧ M1 27 3 = M 2 3 ∧ (∀ j, 0 ≤ j → j < 10 → M1 28 j = M 3 j) ∧ (∀ j, 0 ≤ j → j < 10 → M1 29 j = M 4 j) ∧ (∀ j, 0 ≤ j → j < 20 → M1 30 j = M 5 j) ∧ (∀ j, 0 ≤ j → j < 20 → M1 31 j = M 6 j) ∧ (∀ j, 0 ≤ j → j < 5 → M1 32 j = M 7 j) ∧ (∀ k, (k < 27 ∨ 33 ≤ k) → M1 k = M k)) := by
  refine e_X3_become_k ?_
  refine e_X7_copyRow 10 ly_3 ly_28 rfl ?_
  refine e_X7_copyRow 10 ly_4 ly_29 rfl ?_
  refine e_X7_copyRow 20 ly_5 ly_30 rfl ?_
  refine e_X7_copyRow 20 ly_6 ly_31 rfl ?_
  refine e_X7_copyRow 5 ly_7 ly_32 rfl ?_
  refine ⟨?_, ?_, ?_, ?_, ?_, ?_, ?_, ?_⟩
  · simp [qCp_f, qCp_g, qU_f, qU_g, fU_a, fC_a]
  · simp [qCp_f, qCp_g, qU_f, qU_g, fU_a, fC_a]
  · intro j j0 j1; simp [qCp_f, qCp_g, qU_f, qU_g, fU_a, fC_a, j0, j1]
  · intro j j0 j1; simp [qCp_f, qCp_g, qU_f, qU_g, fU_a, fC_a, j0, j1]
  · intro j j0 j1; simp [qCp_f, qCp_g, qU_f, qU_g, fU_a, fC_a, j0, j1]
  · intro j j0 j1; simp [qCp_f, qCp_g, qU_f, qU_g, fU_a, fC_a, j0, j1]
  · intro j j0 j1; simp [qCp_f, qCp_g, qU_f, qU_g, fU_a, fC_a, j0, j1]
  · intro k hk
    repeat (first | rw [qCp_f (by omega)] | rw [qU_f (by omega)])
theorem b_X6_become_k {g : qG} {d : Nat} {M : qM} : qOk g (d + 2) j_X6_become [.inr 33, .inr 8] M (qN fun M1 => M1 33 0 = M 8 0 ∧ M1 33 3 = M 8 3 ∧ (∀ j, 0 ≤ j → j < 10 → M1 34 j = M 9 j) ∧ (∀ j, 0 ≤ j → j < 10 → M1 35 j = M 10 j) ∧ (∀ j, 0 ≤ j → j < 8 → M1 36 j = M 11 j) ∧ (∀ j, 0 ≤ j → j < 8 → M1 37 j = M 12 j) ∧ (∀ j, 0 ≤ j → j < 8 → M1 38 j = M 13 j) ∧ (∀ j, 0 ≤ j → j < 8 → M1 39 j = M 14 j) ∧ (∀ j, 0 ≤ j → j < 8 → M1 40 j = M 15 j) ∧ (∀ k, (k < 33 ∨ 41 ≤ k) → M1 k = M k)) := by
  refine e_X6_become_k ?_
  refine e_X7_copyRow 10 ly_9 ly_34 rfl ?_
  refine e_X7_copyRow 10 ly_10 ly_35 rfl ?_
  refine e_X7_copyRow 8 ly_11 ly_36 rfl ?_
  refine e_X7_copyRow 8 ly_12 ly_37 rfl ?_
  refine e_X7_copyRow 8 ly_13 ly_38 rfl ?_
  refine e_X7_copyRow 8 ly_14 ly_39 rfl ?_
  refine e_X7_copyRow 8 ly_15 ly_40 rfl ?_
  refine ⟨?_, ?_, ?_, ?_, ?_, ?_, ?_, ?_, ?_, ?_⟩
  · simp [qCp_f, qCp_g, qU_f, qU_g, fU_a, fC_a]
  · simp [qCp_f, qCp_g, qU_f, qU_g, fU_a, fC_a]
  · intro j j0 j1; simp [qCp_f, qCp_g, qU_f, qU_g, fU_a, fC_a, j0, j1]
  · intro j j0 j1; simp [qCp_f, qCp_g, qU_f, qU_g, fU_a, fC_a, j0, j1]
  · intro j j0 j1; simp [qCp_f, qCp_g, qU_f, qU_g, fU_a, fC_a, j0, j1]
  · intro j j0 j1; simp [qCp_f, qCp_g, qU_f, qU_g, fU_a, fC_a, j0, j1]
  · intro j j0 j1; simp [qCp_f, qCp_g, qU_f, qU_g, fU_a, fC_a, j0, j1]
  · intro j j0 j1; simp [qCp_f, qCp_g, qU_f, qU_g, fU_a, fC_a, j0, j1]
  · intro j j0 j1; simp [qCp_f, qCp_g, qU_f, qU_g, fU_a, fC_a, j0, j1]
  · intro k hk
    repeat (first | rw [qCp_f (by omega)] | rw [qU_f (by omega)])
theorem b_X5_become_k {g : qG} {d : Nat} {M : qM} (hb : ∀ j, 0 ≤ j → j < 80 → M 21 j = 0 ∨ M 21 j = 1) : qOk g (d + 2) j_X5_become [.inr 41, .inr 16] M (qN fun M1 => M1 41 0 = M 16 0 ∧ (∀ j, 0 ≤ j → j < 80 → M1 42 j = M 17 j) ∧ (∀ j, 0 ≤ j → j < 80 → M1 43 j = M 18 j) ∧ (∀ j, 0 ≤ j → j < 80 → M1 44 j = M 19 j) ∧ (∀ j, 0 ≤ j → j < 80 → M1 45 j = M 20 j) ∧ (∀ j, 0 ≤ j → j < 80 → M1 46 j = M 21 j) ∧ (∀ k, (k < 41 ∨ 47 ≤ k) → M1 k = M k)) := by
  refine e_X5_become_k ?_
  refine e_X7_copyRow 80 ly_17 ly_42 rfl ?_
  refine e_X7_copyRow 80 ly_18 ly_43 rfl ?_
  refine e_X7_copyRow 80 ly_19 ly_44 rfl ?_
  refine e_X7_copyRow 80 ly_20 ly_45 rfl ?_
  refine e_X7_copyMarks 80 ly_21 ly_46 rfl (fun j j0 j1 => by simpa [qCp_f, qCp_g, qU_f, qU_g, fU_a, fC_a] using hb j j0 j1) ?_
  refine ⟨?_, ?_, ?_, ?_, ?_, ?_, ?_⟩
  · simp [qCp_f, qCp_g, qU_f, qU_g, fU_a, fC_a]
  · intro j j0 j1; simp [qCp_f, qCp_g, qU_f, qU_g, fU_a, fC_a, j0, j1]
  · intro j j0 j1; simp [qCp_f, qCp_g, qU_f, qU_g, fU_a, fC_a, j0, j1]
  · intro j j0 j1; simp [qCp_f, qCp_g, qU_f, qU_g, fU_a, fC_a, j0, j1]
  · intro j j0 j1; simp [qCp_f, qCp_g, qU_f, qU_g, fU_a, fC_a, j0, j1]
  · intro j j0 j1; simp [qCp_f, qCp_g, qU_f, qU_g, fU_a, fC_a, j0, j1]
  · intro k hk
    repeat (first | rw [qCp_f (by omega)] | rw [qU_f (by omega)])
theorem b_X1_become_k {g : qG} {d : Nat} {M : qM} (hb : ∀ j, 0 ≤ j → j < 3 → M 24 j = 0 ∨ M 24 j = 1) : qOk g (d + 2) j_X1_become [.inr 47, .inr 22] M (qN fun M1 => M1 47 0 = M 22 0 ∧ (∀ j, 0 ≤ j → j < 3 → M1 48 j = M 23 j) ∧ (∀ j, 0 ≤ j → j < 3 → M1 49 j = M 24 j) ∧ (∀ j, 0 ≤ j → j < 60 → M1 50 j = M 25 j) ∧ (∀ k, (k < 47 ∨ 51 ≤ k) → M1 k = M k)) := by
  refine e_X1_become_k ?_
  refine e_X7_copyRow 3 ly_23 ly_48 rfl ?_
  refine e_X7_copyMarks 3 ly_24 ly_49 rfl (fun j j0 j1 => by simpa [qCp_f, qCp_g, qU_f, qU_g, fU_a, fC_a] using hb j j0 j1) ?_
  refine e_X7_copyRow 60 ly_25 ly_50 rfl ?_
  refine ⟨?_, ?_, ?_, ?_, ?_⟩
  · simp [qCp_f, qCp_g, qU_f, qU_g, fU_a, fC_a]
  · intro j j0 j1; simp [qCp_f, qCp_g, qU_f, qU_g, fU_a, fC_a, j0, j1]
  · intro j j0 j1; simp [qCp_f, qCp_g, qU_f, qU_g, fU_a, fC_a, j0, j1]
  · intro j j0 j1; simp [qCp_f, qCp_g, qU_f, qU_g, fU_a, fC_a, j0, j1]
  · intro k hk
    repeat (first | rw [qCp_f (by omega)] | rw [qU_f (by omega)])
theorem b_X0_become_k {g : qG} {d : Nat} {M V : qM} (n : voN V) (hb : bkV (bv M 1) V) : qOk g (d + 3) j_X0_become [.inr 26, .inr 1] M (qN fun M1 => bkV (bv M1 26) V ∧ ∀ k, (k < 26 ∨ 51 ≤ k) → M1 k = M k) := by
  refine e_X0_become_k ?_
  have hs2 : ∀ j, 0 ≤ j → j < 80 → M 21 j = 0 ∨ M 21 j = 1 := hb.2.2.2.2.1.2.2
  have hw2 : ∀ j, 0 ≤ j → j < 3 → M 24 j = 0 ∨ M 24 j = 1 := hb.2.2.2.2.2.2.2.1
  refine (b_X3_become_k).monoN (fun Ma _ hh => ?_)
  obtain ⟨a0, a1, a2, a3, a4, a5, a6, af⟩ := hh
  refine (b_X6_become_k).monoN (fun Mb _ hh => ?_)
  obtain ⟨b0, b1, b2, b3, b4, b5, b6, b7, b8, bf⟩ := hh
  refine (b_X5_become_k (hb := fun j j0 j1 => by rw [bf 21 (by decide), af 21 (by decide)]; exact hs2 j j0 j1)).monoN (fun Mc _ hh => ?_)
  obtain ⟨c0, c1, c2, c3, c4, c5, cf⟩ := hh
  refine (b_X1_become_k (hb := fun j j0 j1 => by rw [cf 24 (by decide), bf 24 (by decide), af 24 (by decide)]; exact hw2 j j0 j1)).monoN (fun Me _ hh => ?_)
  obtain ⟨e0, e1, e2, e3, ef⟩ := hh
  refine ⟨bkV_c n (fun _ _ _ _ _ => rfl) ⟨?_, ?_, ?_, ?_, ?_, ?_⟩ (fun a ha => ?_) hb, fun k hk => by rw [ef k (by omega), cf k (by omega), bf k (by omega), af k (by omega)]⟩
  · show Me 27 0 = M 2 0
    rw [ef 27 (by decide), cf 27 (by decide), bf 27 (by decide), a0]
  · show Me 27 3 = M 2 3
    rw [ef 27 (by decide), cf 27 (by decide), bf 27 (by decide), a1]
  · show Me 33 0 = M 8 0
    rw [ef 33 (by decide), cf 33 (by decide), b0, af 8 (by decide)]
  · show Me 33 3 = M 8 3
    rw [ef 33 (by decide), cf 33 (by decide), b1, af 8 (by decide)]
  · show Me 41 0 = M 16 0
    rw [ef 41 (by decide), c0, bf 16 (by decide), af 16 (by decide)]
  · show Me 47 0 = M 22 0
    rw [e0, cf 22 (by decide), bf 22 (by decide), af 22 (by decide)]
  · show ∀ j, 0 ≤ j → j < szB a → Me (26 + a) j = M (1 + a) j
    rcases (show a = 0 ∨ a = 1 ∨ a = 2 ∨ a = 3 ∨ a = 4 ∨ a = 5 ∨ a = 6 ∨ a = 7 ∨ a = 8 ∨ a = 9 ∨ a = 10 ∨ a = 11 ∨ a = 12 ∨ a = 13 ∨ a = 14 ∨ a = 15 ∨ a = 16 ∨ a = 17 ∨ a = 18 ∨ a = 19 ∨ a = 20 ∨ a = 21 ∨ a = 22 ∨ a = 23 ∨ a = 24 by omega) with rfl | rfl | rfl | rfl | rfl | rfl | rfl | rfl | rfl | rfl | rfl | rfl | rfl | rfl | rfl | rfl | rfl | rfl | rfl | rfl | rfl | rfl | rfl | rfl | rfl
    · intro j j0 j1; exact absurd (show j < 0 from j1) (by omega)
    · intro j j0 j1; exact absurd (show j < 0 from j1) (by omega)
    · intro j j0 j1
      show Me 28 j = M 3 j
      rw [ef 28 (by decide), cf 28 (by decide), bf 28 (by decide), a2 j j0 j1]
    · intro j j0 j1
      show Me 29 j = M 4 j
      rw [ef 29 (by decide), cf 29 (by decide), bf 29 (by decide), a3 j j0 j1]
    · intro j j0 j1
      show Me 30 j = M 5 j
      rw [ef 30 (by decide), cf 30 (by decide), bf 30 (by decide), a4 j j0 j1]
    · intro j j0 j1
      show Me 31 j = M 6 j
      rw [ef 31 (by decide), cf 31 (by decide), bf 31 (by decide), a5 j j0 j1]
    · intro j j0 j1
      show Me 32 j = M 7 j
      rw [ef 32 (by decide), cf 32 (by decide), bf 32 (by decide), a6 j j0 j1]
    · intro j j0 j1; exact absurd (show j < 0 from j1) (by omega)
    · intro j j0 j1
      show Me 34 j = M 9 j
      rw [ef 34 (by decide), cf 34 (by decide), b2 j j0 j1, af 9 (by decide)]
    · intro j j0 j1
      show Me 35 j = M 10 j
      rw [ef 35 (by decide), cf 35 (by decide), b3 j j0 j1, af 10 (by decide)]
    · intro j j0 j1
      show Me 36 j = M 11 j
      rw [ef 36 (by decide), cf 36 (by decide), b4 j j0 j1, af 11 (by decide)]
    · intro j j0 j1
      show Me 37 j = M 12 j
      rw [ef 37 (by decide), cf 37 (by decide), b5 j j0 j1, af 12 (by decide)]
    · intro j j0 j1
      show Me 38 j = M 13 j
      rw [ef 38 (by decide), cf 38 (by decide), b6 j j0 j1, af 13 (by decide)]
    · intro j j0 j1
      show Me 39 j = M 14 j
      rw [ef 39 (by decide), cf 39 (by decide), b7 j j0 j1, af 14 (by decide)]
    · intro j j0 j1
      show Me 40 j = M 15 j
      rw [ef 40 (by decide), cf 40 (by decide), b8 j j0 j1, af 15 (by decide)]
    · intro j j0 j1; exact absurd (show j < 0 from j1) (by omega)
    · intro j j0 j1
      show Me 42 j = M 17 j
      rw [ef 42 (by decide), c1 j j0 j1, bf 17 (by decide), af 17 (by decide)]
    · intro j j0 j1
      show Me 43 j = M 18 j
      rw [ef 43 (by decide), c2 j j0 j1, bf 18 (by decide), af 18 (by decide)]
    · intro j j0 j1
      show Me 44 j = M 19 j
      rw [ef 44 (by decide), c3 j j0 j1, bf 19 (by decide), af 19 (by decide)]
    · intro j j0 j1
      show Me 45 j = M 20 j
      rw [ef 45 (by decide), c4 j j0 j1, bf 20 (by decide), af 20 (by decide)]
    · intro j j0 j1
      show Me 46 j = M 21 j
      rw [ef 46 (by decide), c5 j j0 j1, bf 21 (by decide), af 21 (by decide)]
    · intro j j0 j1; exact absurd (show j < 0 from j1) (by omega)
    · intro j j0 j1
      show Me 48 j = M 23 j
      rw [e1 j j0 j1, cf 23 (by decide), bf 23 (by decide), af 23 (by decide)]
    · intro j j0 j1
      show Me 49 j = M 24 j
      rw [e2 j j0 j1, cf 24 (by decide), bf 24 (by decide), af 24 (by decide)]
    · intro j j0 j1
      show Me 50 j = M 25 j
      rw [e3 j j0 j1, cf 25 (by decide), bf 25 (by decide), af 25 (by decide)]
theorem b_X3_become_b {g : qG} {d : Nat} {M : qM} : qOk g (d + 2) j_X3_become [.inr 2, .inr 27] M (qN fun M1 => M1 2 0 = M 27 0 ∧ M1 2 3 = M 27 3 ∧ (∀ j, 0 ≤ j → j < 10 → M1 3 j = M 28 j) ∧ (∀ j, 0 ≤ j → j < 10 → M1 4 j = M 29 j) ∧ (∀ j, 0 ≤ j → j < 20 → M1 5 j = M 30 j) ∧ (∀ j, 0 ≤ j → j < 20 → M1 6 j = M 31 j) ∧ (∀ j, 0 ≤ j → j < 5 → M1 7 j = M 32 j) ∧ (∀ k, (k < 2 ∨ 8 ≤ k) → M1 k = M k)) := by
  refine e_X3_become_b ?_
  refine e_X7_copyRow 10 ly_28 ly_3 rfl ?_
  refine e_X7_copyRow 10 ly_29 ly_4 rfl ?_
  refine e_X7_copyRow 20 ly_30 ly_5 rfl ?_
  refine e_X7_copyRow 20 ly_31 ly_6 rfl ?_
  refine e_X7_copyRow 5 ly_32 ly_7 rfl ?_
  refine ⟨?_, ?_, ?_, ?_, ?_, ?_, ?_, ?_⟩
  · simp [qCp_f, qCp_g, qU_f, qU_g, fU_a, fC_a]
  · simp [qCp_f, qCp_g, qU_f, qU_g, fU_a, fC_a]
  · intro j j0 j1; simp [qCp_f, qCp_g, qU_f, qU_g, fU_a, fC_a, j0, j1]
  · intro j j0 j1; simp [qCp_f, qCp_g, qU_f, qU_g, fU_a, fC_a, j0, j1]
  · intro j j0 j1; simp [qCp_f, qCp_g, qU_f, qU_g, fU_a, fC_a, j0, j1]
  · intro j j0 j1; simp [qCp_f, qCp_g, qU_f, qU_g, fU_a, fC_a, j0, j1]
  · intro j j0 j1; simp [qCp_f, qCp_g, qU_f, qU_g, fU_a, fC_a, j0, j1]
  · intro k hk
    repeat (first | rw [qCp_f (by omega)] | rw [qU_f (by omega)])
theorem b_X6_become_b {g : qG} {d : Nat} {M : qM} : qOk g (d + 2) j_X6_become [.inr 8, .inr 33] M (qN fun M1 => M1 8 0 = M 33 0 ∧ M1 8 3 = M 33 3 ∧ (∀ j, 0 ≤ j → j < 10 → M1 9 j = M 34 j) ∧ (∀ j, 0 ≤ j → j < 10 → M1 10 j = M 35 j) ∧ (∀ j, 0 ≤ j → j < 8 → M1 11 j = M 36 j) ∧ (∀ j, 0 ≤ j → j < 8 → M1 12 j = M 37 j) ∧ (∀ j, 0 ≤ j → j < 8 → M1 13 j = M 38 j) ∧ (∀ j, 0 ≤ j → j < 8 → M1 14 j = M 39 j) ∧ (∀ j, 0 ≤ j → j < 8 → M1 15 j = M 40 j) ∧ (∀ k, (k < 8 ∨ 16 ≤ k) → M1 k = M k)) := by
  refine e_X6_become_b ?_
  refine e_X7_copyRow 10 ly_34 ly_9 rfl ?_
  refine e_X7_copyRow 10 ly_35 ly_10 rfl ?_
  refine e_X7_copyRow 8 ly_36 ly_11 rfl ?_
  refine e_X7_copyRow 8 ly_37 ly_12 rfl ?_
  refine e_X7_copyRow 8 ly_38 ly_13 rfl ?_
  refine e_X7_copyRow 8 ly_39 ly_14 rfl ?_
  refine e_X7_copyRow 8 ly_40 ly_15 rfl ?_
  refine ⟨?_, ?_, ?_, ?_, ?_, ?_, ?_, ?_, ?_, ?_⟩
  · simp [qCp_f, qCp_g, qU_f, qU_g, fU_a, fC_a]
  · simp [qCp_f, qCp_g, qU_f, qU_g, fU_a, fC_a]
  · intro j j0 j1; simp [qCp_f, qCp_g, qU_f, qU_g, fU_a, fC_a, j0, j1]
  · intro j j0 j1; simp [qCp_f, qCp_g, qU_f, qU_g, fU_a, fC_a, j0, j1]
  · intro j j0 j1; simp [qCp_f, qCp_g, qU_f, qU_g, fU_a, fC_a, j0, j1]
  · intro j j0 j1; simp [qCp_f, qCp_g, qU_f, qU_g, fU_a, fC_a, j0, j1]
  · intro j j0 j1; simp [qCp_f, qCp_g, qU_f, qU_g, fU_a, fC_a, j0, j1]
  · intro j j0 j1; simp [qCp_f, qCp_g, qU_f, qU_g, fU_a, fC_a, j0, j1]
  · intro j j0 j1; simp [qCp_f, qCp_g, qU_f, qU_g, fU_a, fC_a, j0, j1]
  · intro k hk
    repeat (first | rw [qCp_f (by omega)] | rw [qU_f (by omega)])
theorem b_X5_become_b {g : qG} {d : Nat} {M : qM} (hb : ∀ j, 0 ≤ j → j < 80 → M 46 j = 0 ∨ M 46 j = 1) : qOk g (d + 2) j_X5_become [.inr 16, .inr 41] M (qN fun M1 => M1 16 0 = M 41 0 ∧ (∀ j, 0 ≤ j → j < 80 → M1 17 j = M 42 j) ∧ (∀ j, 0 ≤ j → j < 80 → M1 18 j = M 43 j) ∧ (∀ j, 0 ≤ j → j < 80 → M1 19 j = M 44 j) ∧ (∀ j, 0 ≤ j → j < 80 → M1 20 j = M 45 j) ∧ (∀ j, 0 ≤ j → j < 80 → M1 21 j = M 46 j) ∧ (∀ k, (k < 16 ∨ 22 ≤ k) → M1 k = M k)) := by
  refine e_X5_become_b ?_
  refine e_X7_copyRow 80 ly_42 ly_17 rfl ?_
  refine e_X7_copyRow 80 ly_43 ly_18 rfl ?_
  refine e_X7_copyRow 80 ly_44 ly_19 rfl ?_
  refine e_X7_copyRow 80 ly_45 ly_20 rfl ?_
  refine e_X7_copyMarks 80 ly_46 ly_21 rfl (fun j j0 j1 => by simpa [qCp_f, qCp_g, qU_f, qU_g, fU_a, fC_a] using hb j j0 j1) ?_
  refine ⟨?_, ?_, ?_, ?_, ?_, ?_, ?_⟩
  · simp [qCp_f, qCp_g, qU_f, qU_g, fU_a, fC_a]
  · intro j j0 j1; simp [qCp_f, qCp_g, qU_f, qU_g, fU_a, fC_a, j0, j1]
  · intro j j0 j1; simp [qCp_f, qCp_g, qU_f, qU_g, fU_a, fC_a, j0, j1]
  · intro j j0 j1; simp [qCp_f, qCp_g, qU_f, qU_g, fU_a, fC_a, j0, j1]
  · intro j j0 j1; simp [qCp_f, qCp_g, qU_f, qU_g, fU_a, fC_a, j0, j1]
  · intro j j0 j1; simp [qCp_f, qCp_g, qU_f, qU_g, fU_a, fC_a, j0, j1]
  · intro k hk
    repeat (first | rw [qCp_f (by omega)] | rw [qU_f (by omega)])
theorem b_X1_become_b {g : qG} {d : Nat} {M : qM} (hb : ∀ j, 0 ≤ j → j < 3 → M 49 j = 0 ∨ M 49 j = 1) : qOk g (d + 2) j_X1_become [.inr 22, .inr 47] M (qN fun M1 => M1 22 0 = M 47 0 ∧ (∀ j, 0 ≤ j → j < 3 → M1 23 j = M 48 j) ∧ (∀ j, 0 ≤ j → j < 3 → M1 24 j = M 49 j) ∧ (∀ j, 0 ≤ j → j < 60 → M1 25 j = M 50 j) ∧ (∀ k, (k < 22 ∨ 26 ≤ k) → M1 k = M k)) := by
  refine e_X1_become_b ?_
  refine e_X7_copyRow 3 ly_48 ly_23 rfl ?_
  refine e_X7_copyMarks 3 ly_49 ly_24 rfl (fun j j0 j1 => by simpa [qCp_f, qCp_g, qU_f, qU_g, fU_a, fC_a] using hb j j0 j1) ?_
  refine e_X7_copyRow 60 ly_50 ly_25 rfl ?_
  refine ⟨?_, ?_, ?_, ?_, ?_⟩
  · simp [qCp_f, qCp_g, qU_f, qU_g, fU_a, fC_a]
  · intro j j0 j1; simp [qCp_f, qCp_g, qU_f, qU_g, fU_a, fC_a, j0, j1]
  · intro j j0 j1; simp [qCp_f, qCp_g, qU_f, qU_g, fU_a, fC_a, j0, j1]
  · intro j j0 j1; simp [qCp_f, qCp_g, qU_f, qU_g, fU_a, fC_a, j0, j1]
  · intro k hk
    repeat (first | rw [qCp_f (by omega)] | rw [qU_f (by omega)])
theorem b_X0_become_b {g : qG} {d : Nat} {M V : qM} (n : voN V) (hb : bkV (bv M 26) V) : qOk g (d + 3) j_X0_become [.inr 1, .inr 26] M (qN fun M1 => bkV (bv M1 1) V ∧ ∀ k, (k < 1 ∨ 26 ≤ k) → M1 k = M k) := by
  refine e_X0_become_b ?_
  have hs2 : ∀ j, 0 ≤ j → j < 80 → M 46 j = 0 ∨ M 46 j = 1 := hb.2.2.2.2.1.2.2
  have hw2 : ∀ j, 0 ≤ j → j < 3 → M 49 j = 0 ∨ M 49 j = 1 := hb.2.2.2.2.2.2.2.1
  refine (b_X3_become_b).monoN (fun Ma _ hh => ?_)
  obtain ⟨a0, a1, a2, a3, a4, a5, a6, af⟩ := hh
  refine (b_X6_become_b).monoN (fun Mb _ hh => ?_)
  obtain ⟨b0, b1, b2, b3, b4, b5, b6, b7, b8, bf⟩ := hh
  refine (b_X5_become_b (hb := fun j j0 j1 => by rw [bf 46 (by decide), af 46 (by decide)]; exact hs2 j j0 j1)).monoN (fun Mc _ hh => ?_)
  obtain ⟨c0, c1, c2, c3, c4, c5, cf⟩ := hh
  refine (b_X1_become_b (hb := fun j j0 j1 => by rw [cf 49 (by decide), bf 49 (by decide), af 49 (by decide)]; exact hw2 j j0 j1)).monoN (fun Me _ hh => ?_)
  obtain ⟨e0, e1, e2, e3, ef⟩ := hh
  refine ⟨bkV_c n (fun _ _ _ _ _ => rfl) ⟨?_, ?_, ?_, ?_, ?_, ?_⟩ (fun a ha => ?_) hb, fun k hk => by rw [ef k (by omega), cf k (by omega), bf k (by omega), af k (by omega)]⟩
  · show Me 2 0 = M 27 0
    rw [ef 2 (by decide), cf 2 (by decide), bf 2 (by decide), a0]
  · show Me 2 3 = M 27 3
    rw [ef 2 (by decide), cf 2 (by decide), bf 2 (by decide), a1]
  · show Me 8 0 = M 33 0
    rw [ef 8 (by decide), cf 8 (by decide), b0, af 33 (by decide)]
  · show Me 8 3 = M 33 3
    rw [ef 8 (by decide), cf 8 (by decide), b1, af 33 (by decide)]
  · show Me 16 0 = M 41 0
    rw [ef 16 (by decide), c0, bf 41 (by decide), af 41 (by decide)]
  · show Me 22 0 = M 47 0
    rw [e0, cf 47 (by decide), bf 47 (by decide), af 47 (by decide)]
  · show ∀ j, 0 ≤ j → j < szB a → Me (1 + a) j = M (26 + a) j
    rcases (show a = 0 ∨ a = 1 ∨ a = 2 ∨ a = 3 ∨ a = 4 ∨ a = 5 ∨ a = 6 ∨ a = 7 ∨ a = 8 ∨ a = 9 ∨ a = 10 ∨ a = 11 ∨ a = 12 ∨ a = 13 ∨ a = 14 ∨ a = 15 ∨ a = 16 ∨ a = 17 ∨ a = 18 ∨ a = 19 ∨ a = 20 ∨ a = 21 ∨ a = 22 ∨ a = 23 ∨ a = 24 by omega) with rfl | rfl | rfl | rfl | rfl | rfl | rfl | rfl | rfl | rfl | rfl | rfl | rfl | rfl | rfl | rfl | rfl | rfl | rfl | rfl | rfl | rfl | rfl | rfl | rfl
    · intro j j0 j1; exact absurd (show j < 0 from j1) (by omega)
    · intro j j0 j1; exact absurd (show j < 0 from j1) (by omega)
    · intro j j0 j1
      show Me 3 j = M 28 j
      rw [ef 3 (by decide), cf 3 (by decide), bf 3 (by decide), a2 j j0 j1]
    · intro j j0 j1
      show Me 4 j = M 29 j
      rw [ef 4 (by decide), cf 4 (by decide), bf 4 (by decide), a3 j j0 j1]
    · intro j j0 j1
      show Me 5 j = M 30 j
      rw [ef 5 (by decide), cf 5 (by decide), bf 5 (by decide), a4 j j0 j1]
    · intro j j0 j1
      show Me 6 j = M 31 j
      rw [ef 6 (by decide), cf 6 (by decide), bf 6 (by decide), a5 j j0 j1]
    · intro j j0 j1
      show Me 7 j = M 32 j
      rw [ef 7 (by decide), cf 7 (by decide), bf 7 (by decide), a6 j j0 j1]
    · intro j j0 j1; exact absurd (show j < 0 from j1) (by omega)
    · intro j j0 j1
      show Me 9 j = M 34 j
      rw [ef 9 (by decide), cf 9 (by decide), b2 j j0 j1, af 34 (by decide)]
    · intro j j0 j1
      show Me 10 j = M 35 j
      rw [ef 10 (by decide), cf 10 (by decide), b3 j j0 j1, af 35 (by decide)]
    · intro j j0 j1
      show Me 11 j = M 36 j
      rw [ef 11 (by decide), cf 11 (by decide), b4 j j0 j1, af 36 (by decide)]
    · intro j j0 j1
      show Me 12 j = M 37 j
      rw [ef 12 (by decide), cf 12 (by decide), b5 j j0 j1, af 37 (by decide)]
    · intro j j0 j1
      show Me 13 j = M 38 j
      rw [ef 13 (by decide), cf 13 (by decide), b6 j j0 j1, af 38 (by decide)]
    · intro j j0 j1
      show Me 14 j = M 39 j
      rw [ef 14 (by decide), cf 14 (by decide), b7 j j0 j1, af 39 (by decide)]
    · intro j j0 j1
      show Me 15 j = M 40 j
      rw [ef 15 (by decide), cf 15 (by decide), b8 j j0 j1, af 40 (by decide)]
    · intro j j0 j1; exact absurd (show j < 0 from j1) (by omega)
    · intro j j0 j1
      show Me 17 j = M 42 j
      rw [ef 17 (by decide), c1 j j0 j1, bf 42 (by decide), af 42 (by decide)]
    · intro j j0 j1
      show Me 18 j = M 43 j
      rw [ef 18 (by decide), c2 j j0 j1, bf 43 (by decide), af 43 (by decide)]
    · intro j j0 j1
      show Me 19 j = M 44 j
      rw [ef 19 (by decide), c3 j j0 j1, bf 44 (by decide), af 44 (by decide)]
    · intro j j0 j1
      show Me 20 j = M 45 j
      rw [ef 20 (by decide), c4 j j0 j1, bf 45 (by decide), af 45 (by decide)]
    · intro j j0 j1
      show Me 21 j = M 46 j
      rw [ef 21 (by decide), c5 j j0 j1, bf 46 (by decide), af 46 (by decide)]
    · intro j j0 j1; exact absurd (show j < 0 from j1) (by omega)
    · intro j j0 j1
      show Me 23 j = M 48 j
      rw [e1 j j0 j1, cf 48 (by decide), bf 48 (by decide), af 48 (by decide)]
    · intro j j0 j1
      show Me 24 j = M 49 j
      rw [e2 j j0 j1, cf 49 (by decide), bf 49 (by decide), af 49 (by decide)]
    · intro j j0 j1
      show Me 25 j = M 50 j
      rw [e3 j j0 j1, cf 50 (by decide), bf 50 (by decide), af 50 (by decide)]
theorem p_keep {g : qG} {d d' : Nat} {M : qM} (h : Rel M) : qOk g (d + 4) j_X7_keep [.inr 0] M (qI fun r M1 => qOk g (d' + 2) j_X8_keep [.inr 63] M1 (qI fun r2 M2 => r = r2 ∧ Rel M2)) := by
  obtain ⟨V, Vk, kp, rt, ⟨v1, v2, v3, v4⟩, h1, h2⟩ := h
  refine e_X7_keep ((b_X0_become_k v1.1 h1.1).monoN (fun M1 _ q => ?_))
  obtain ⟨q1, q2⟩ := q
  refine e_X8_keep (b_allK (fun M2 i => ?_))
  obtain ⟨i1, i2, i3, i4, i5⟩ := i
  obtain ⟨x1, x2, x3, x4, x5, x6⟩ := h1
  obtain ⟨m1, m2, m3, m4⟩ := h2
  have e0 : ∀ k, k ≠ 0 → k < 63 → qU M2 63 14 1 k = M1 k := fun k k0 k1 => by rw [qU_f (by omega), i4 k (by omega) (by omega), qU_f k0]
  have e1 : qU M2 63 14 1 0 = qU M1 0 4 1 0 := by rw [qU_f (by decide), i4 0 (by decide) (by decide)]
  have eM : M1 0 = M 0 := q2 0 (by omega)
  have e5 : qU M2 63 14 1 0 5 = M 0 5 := by rw [e1, qU_i (by decide), eM]
  refine ⟨rfl, V, V, 1, rt, ⟨v1, fun _ => v1, Or.inr rfl, v4⟩, ⟨?_, ?_, fun _ => ?_, ?_, ?_, fun c => ?_⟩, ⟨fun a ha => ?_, qU_s, fun _ a ha j j0 j1 => ?_, ?_⟩⟩
  · exact bv_c (fun k a b => by rw [e0 k (by omega) (by omega), q2 k (by omega)]) x1
  · rw [e1, qU_s]
  · exact bv_c (fun k a b => e0 k (by omega) (by omega)) q1
  · rw [e1, qU_i (by decide), eM]; exact x4
  · rw [e5]; exact x5
  · rw [e5] at c
    obtain ⟨a1, a2, a3, a4⟩ := x6 c
    exact ⟨by rw [e0 54 (by decide) (by decide), q2 54 (by omega)]; exact a1, by rw [e0 54 (by decide) (by decide), q2 54 (by omega)]; exact a2, by rw [e0 62 (by decide) (by decide), q2 62 (by omega)]; exact a3, by rw [e0 55 (by decide) (by decide), q2 55 (by omega)]; exact a4⟩
  · rw [qU_f (by omega), i4 _ (by omega) (by omega), qU_f (by omega), q2 _ (by omega)]; exact m1 a ha
  · rw [qU_f (by decide), (i3 a ha).2 j j0 j1, qU_f (by omega), q2 _ (by omega), m1 a ha]
  · rw [qU_i (by decide), i5 _ (by decide), qU_f (by decide), q2 _ (by omega)]; exact m4
theorem p_back {g : qG} {d d' : Nat} {M : qM} (h : Rel M) : qOk g (d + 4) j_X7_back [.inr 0] M (qI fun r M1 => qOk g (d' + 2) j_X8_back [.inr 63] M1 (qI fun r2 M2 => r = r2 ∧ Rel M2)) := by
  have h' := h
  obtain ⟨V, Vk, kp, rt, ⟨v1, v2, v3, v4⟩, h1, h2⟩ := h
  obtain ⟨x1, x2, x3, x4, x5, x6⟩ := h1
  obtain ⟨m1, m2, m3, m4⟩ := h2
  refine e_X7_back ⟨fun c => ?_, fun c => ?_⟩
  · have ek : kp = 1 := by omega
    subst ek
    refine (b_X0_become_b (v2 rfl).1 (x3 rfl)).monoN (fun M1 _ q => ?_)
    obtain ⟨q1, q2⟩ := q
    refine e_X8_back ⟨fun c => b_allB (fun M2 i => ?_), fun c => ?_⟩
    · obtain ⟨i1, i2, i3, i4, i5⟩ := i
      have sm : sameV Vk (fun a => M2 (64 + a)) := fun a ha j j0 j1 => by
        show Vk a j = M2 (64 + a) j
        rw [i3 a ha j j0 j1, qU_f (by decide), q2 77 (by omega)]
        exact (m3 rfl a ha j j0 j1).symm
      have e0 : ∀ k, k ≠ 0 → k < 63 → M2 k = M1 k := fun k k0 k1 => by rw [i4 k (by omega) (by omega), qU_f k0]
      have e1 : M2 0 = qU M1 0 5 1 0 := i4 0 (by omega) (by decide)
      have eM : M1 0 = M 0 ∨ True := Or.inr trivial
      have eA : ∀ j, j ≠ 5 → M2 0 j = M 0 j := fun j hj => by rw [e1, qU_i hj, q2 0 (by omega)]
      have e5 : M2 0 5 = 1 := by rw [e1, qU_s]
      refine ⟨rfl, fun a => M2 (64 + a), Vk, 1, rt, ⟨voV_v (v2 rfl) sm, v2, v3, v4⟩, ⟨?_, ?_, fun _ => ?_, ?_, Or.inr e5, fun c => ?_⟩, ⟨fun a ha => rfl, ?_, fun _ a ha j j0 j1 => ?_, ?_⟩⟩
      · refine bkV_c (B := bv M1 1) (v2 rfl).1 sm ⟨?_, ?_, ?_, ?_, ?_, ?_⟩ (fun a ha j _ _ => ?_) q1
        all_goals (unfold bv; rw [e0 _ (by omega) (by omega)])
      · rw [eA 4 (by decide)]; exact x2
      · exact bv_c (fun k a b => by rw [e0 k (by omega) (by omega), q2 k (by omega)]) (x3 rfl)
      · rw [eA 6 (by decide)]; exact x4
      · rw [e5] at c; cases c
      · rw [i5 _ (by decide), qU_f (by decide), q2 _ (by omega)]; exact m2
      · rw [i4 77 (by omega) (by decide), qU_f (by decide), q2 _ (by omega)]; exact m3 rfl a ha j j0 j1
      · rw [i5 _ (by decide), qU_f (by decide), q2 _ (by omega)]; exact m4
    · rw [qU_f (by decide), q2 _ (by omega)] at c; omega
  · have ek : kp = 0 := by omega
    refine e_X8_back ⟨fun c => ?_, fun c => ⟨rfl, h'⟩⟩
    omega
