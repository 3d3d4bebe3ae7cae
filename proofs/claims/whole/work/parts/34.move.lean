/-! keep and back -/
set_option maxRecDepth 20000 in
theorem e_X8_move {k n : Nat} (hk : qLs[k]? = some (.inr (false, n))) {g : qG} {d : Nat} {M : qM} {K : qM → Prop} {x2 : Int} {x3 : Int} (hx2 : qR x2) (hx3 : qR x3) (h : ∀ C : qX, qCk g C cX8_move RX8 5 d → qRt g C none (qN K) → qW g C 3 [some (.inr 63), some (.inr k), some (.inl x2), some (.inl x3), some (.inl 0)] [] M) : qOk g d j_X8_move [.inr 63, .inr k, .inl x2, .inl x3] M (qN K) := by
  refine qOk.of (by decide) (Nat.le_of_ble_eq_true rfl) (fun C hC hQ => ?_)
  have hC : qCk g C cX8_move RX8 5 d := hC
  have hQ : qRt g C none (qN K) := hQ
  have h := h C hC hQ
  show qW g C 0 [some (.inr 63), some (.inr k), some (.inl x2), some (.inl x3), none] [] M
  refine qW.rm (fun hM => ?_)
  refine q_iconst hC dX8_move_0 rfl ?_
  refine q_istore hC dX8_move_1 (Nat.le_of_ble_eq_true rfl) (loc' := [some (.inr 63), some (.inr k), some (.inl x2), some (.inl x3), some (.inl 0)]) rfl rfl ?_
  exact h
set_option maxRecDepth 20000 in
theorem s_X8_move_3 {k n : Nat} (hk : qLs[k]? = some (.inr (false, n))) {g : qG} {C : qX} {d : Nat} {M : qM} {K : qM → Prop} (hC : qCk g C cX8_move RX8 5 d) (hQ : qRt g C none (qN K)) {x2 : Int} {x3 : Int} {x4 : Int} (hx2 : qR x2) (hx3 : qR x3) (hx4 : qR x4) (h : ((x2 ≤ x4 → (K M)) ∧ (x4 < x2 → ((x3 = 0 → (0 ≤ (M 63 24) ∧ (M 63 24) < 620) ∧ (0 ≤ x4 ∧ x4 < (n : Int)) ∧ (qR (((qU M k x4 (M 77 (M 63 24))) 63 24) + 1)) ∧ (qW g C 3 [some (.inr 63), some (.inr k), some (.inl x2), some (.inl x3), some (.inl (x4 + 1))] [] (qU (qU M k x4 (M 77 (M 63 24))) 63 24 (((qU M k x4 (M 77 (M 63 24))) 63 24) + 1)))) ∧ (x3 ≠ 0 → (0 ≤ x4 ∧ x4 < (n : Int)) ∧ (0 ≤ (M 63 24) ∧ (M 63 24) < 620) ∧ (qR (((qU M 77 (M 63 24) (M k x4)) 63 24) + 1)) ∧ (qW g C 3 [some (.inr 63), some (.inr k), some (.inl x2), some (.inl x3), some (.inl (x4 + 1))] [] (qU (qU M 77 (M 63 24) (M k x4)) 63 24 (((qU M 77 (M 63 24) (M k x4)) 63 24) + 1)))))))) : qW g C 3 [some (.inr 63), some (.inr k), some (.inl x2), some (.inl x3), some (.inl x4)] [] M := by
  refine qW.rm (fun hM => ?_)
  refine q_iload hC dX8_move_3 rfl rfl ?_
  refine q_iload_n hC dX8_move_5 rfl rfl ?_
  refine q_icmp_ge hC dX8_move_6 (t := 58) (by decide) rfl hx4 hx2 (fun c => ?_) (fun c => ?_)
  · have h := h.1 c
    exact q_vret hC hQ dX8_move_58 h
  · have h := h.2 c
    refine q_iload_n hC dX8_move_9 rfl rfl ?_
    refine q_if_eq hC dX8_move_10 (t := 29) (by decide) rfl hx3 (fun c => ?_) (fun c => ?_)
    · have h := h.1 c
      refine q_aload_n hC dX8_move_29 rfl rfl ?_
      refine q_iload hC dX8_move_30 rfl rfl ?_
      refine q_aload_n hC dX8_move_32 rfl rfl ?_
      refine q_getr hC fl_X8_53 ly_63 rfl dX8_move_33 rfl ?_
      refine q_aload_n hC dX8_move_36 rfl rfl ?_
      refine q_geti hC fl_X8_149 ly_63 rfl (z := 24) rfl dX8_move_37 rfl ?_
      obtain ⟨r101, h⟩ := h
      refine q_iald hC ly_77 dX8_move_40 rfl r101 ?_
      obtain ⟨r102, h⟩ := h
      have hM103 : qIn (qU M k x4 (M 77 (M 63 24))) := (qU_in hM (hM 77 (M 63 24)))
      refine q_iast hC hk dX8_move_41 rfl r102 (hM 77 (M 63 24)) ?_
      refine q_aload_n hC dX8_move_42 rfl rfl ?_
      refine q_dup hC dX8_move_43 rfl ?_
      refine q_geti hC fl_X8_149 ly_63 rfl (z := 24) rfl dX8_move_44 rfl ?_
      refine q_iconst hC dX8_move_47 rfl ?_
      refine q_iadd hC dX8_move_48 rfl ?_
      obtain ⟨r104, h⟩ := h
      have hM105 : qIn (qU (qU M k x4 (M 77 (M 63 24))) 63 24 (((qU M k x4 (M 77 (M 63 24))) 63 24) + 1)) := (qU_in hM103 r104)
      refine q_puti hC fp_X8_149 ly_63 rfl (z := 24) rfl dX8_move_49 rfl r104 ?_
      refine q_iinc hC dX8_move_52 rfl (loc' := [some (.inr 63), some (.inr k), some (.inl x2), some (.inl x3), some (.inl (x4 + 1))]) rfl rfl ?_
      refine q_goto hC dX8_move_55 (q := 3) (by decide) ?_
      exact h
    · have h := h.2 c
      refine q_aload_n hC dX8_move_13 rfl rfl ?_
      refine q_getr hC fl_X8_53 ly_63 rfl dX8_move_14 rfl ?_
      refine q_aload_n hC dX8_move_17 rfl rfl ?_
      refine q_geti hC fl_X8_149 ly_63 rfl (z := 24) rfl dX8_move_18 rfl ?_
      refine q_aload_n hC dX8_move_21 rfl rfl ?_
      refine q_iload hC dX8_move_22 rfl rfl ?_
      obtain ⟨r106, h⟩ := h
      refine q_iald hC hk dX8_move_24 rfl r106 ?_
      obtain ⟨r107, h⟩ := h
      have hM108 : qIn (qU M 77 (M 63 24) (M k x4)) := (qU_in hM (hM k x4))
      refine q_iast hC ly_77 dX8_move_25 rfl r107 (hM k x4) ?_
      refine q_goto hC dX8_move_26 (q := 42) (by decide) ?_
      refine q_aload_n hC dX8_move_42 rfl rfl ?_
      refine q_dup hC dX8_move_43 rfl ?_
      refine q_geti hC fl_X8_149 ly_63 rfl (z := 24) rfl dX8_move_44 rfl ?_
      refine q_iconst hC dX8_move_47 rfl ?_
      refine q_iadd hC dX8_move_48 rfl ?_
      obtain ⟨r109, h⟩ := h
      have hM110 : qIn (qU (qU M 77 (M 63 24) (M k x4)) 63 24 (((qU M 77 (M 63 24) (M k x4)) 63 24) + 1)) := (qU_in hM108 r109)
      refine q_puti hC fp_X8_149 ly_63 rfl (z := 24) rfl dX8_move_49 rfl r109 ?_
      refine q_iinc hC dX8_move_52 rfl (loc' := [some (.inr 63), some (.inr k), some (.inl x2), some (.inl x3), some (.inl (x4 + 1))]) rfl rfl ?_
      refine q_goto hC dX8_move_55 (q := 3) (by decide) ?_
      exact h
def mvK (M : qM) (k : Nat) (n : Int) : qM := fun a j => if a = 77 ∧ M 63 24 ≤ j ∧ j < M 63 24 + n then M k (j - M 63 24) else if a = 63 ∧ j = 24 then M 63 24 + n else M a j
def mvB (M : qM) (k : Nat) (n : Int) : qM := fun a j => if a = k ∧ 0 ≤ j ∧ j < n then M 77 (M 63 24 + j) else if a = 63 ∧ j = 24 then M 63 24 + n else M a j
theorem qU_d (M : qM) (k : Nat) (i v : Int) (a : Nat) (j : Int) : qU M k i v a j = if a = k ∧ j = i then v else M a j := by
  by_cases h : a = k
  · subst h
    by_cases e : j = i
    · subst e; rw [qU_s, if_pos ⟨rfl, rfl⟩]
    · rw [qU_i e, if_neg (fun z => e z.2)]
  · rw [qU_k h, if_neg (fun z => h z.1)]
theorem mvK_0 (M : qM) (k : Nat) : mvK M k 0 = M := by
  funext a j
  unfold mvK
  rw [if_neg (by omega)]
  by_cases h : a = 63 ∧ j = 24
  · rw [if_pos h, h.1, h.2]; omega
  · rw [if_neg h]
theorem mvB_0 (M : qM) (k : Nat) : mvB M k 0 = M := by
  funext a j
  unfold mvB
  rw [if_neg (by omega)]
  by_cases h : a = 63 ∧ j = 24
  · rw [if_pos h, h.1, h.2]; omega
  · rw [if_neg h]
theorem mvK_at {M : qM} {k : Nat} {i : Int} : mvK M k i 63 24 = M 63 24 + i := by
  unfold mvK
  rw [if_neg (by omega), if_pos ⟨rfl, rfl⟩]
theorem mvB_at {M : qM} {k : Nat} {i : Int} (h : k ≠ 63) : mvB M k i 63 24 = M 63 24 + i := by
  unfold mvB
  rw [if_neg (by omega), if_pos ⟨rfl, rfl⟩]
theorem mvK_s {M : qM} {k : Nat} (h1 : k ≠ 77) (h2 : k ≠ 63) {i : Int} (hi : 0 ≤ i) : qU (qU (mvK M k i) 77 (mvK M k i 63 24) (mvK M k i k i)) 63 24 ((qU (mvK M k i) 77 (mvK M k i 63 24) (mvK M k i k i)) 63 24 + 1) = mvK M k (i + 1) := by
  have e0 : mvK M k i k i = M k i := by unfold mvK; rw [if_neg (by omega), if_neg (by omega)]
  rw [mvK_at, e0, qU_k (by decide), mvK_at]
  funext a j
  rw [qU_d, qU_d]
  unfold mvK
  by_cases c1 : a = 63 ∧ j = 24
  · rw [if_pos c1, if_neg (by omega), if_pos c1]; omega
  · rw [if_neg c1]
    by_cases c2 : a = 77 ∧ j = M 63 24 + i
    · rw [if_pos c2, if_pos (by omega), c2.2]; congr 1; omega
    · rw [if_neg c2]
      by_cases c3 : a = 77 ∧ M 63 24 ≤ j ∧ j < M 63 24 + i
      · rw [if_pos c3, if_pos (by omega)]
      · rw [if_neg c3, if_neg c1, if_neg (by omega), if_neg c1]
theorem mvB_s {M : qM} {k : Nat} (h1 : k ≠ 77) (h2 : k ≠ 63) {i : Int} (hi : 0 ≤ i) : qU (qU (mvB M k i) k i (mvB M k i 77 (mvB M k i 63 24))) 63 24 ((qU (mvB M k i) k i (mvB M k i 77 (mvB M k i 63 24))) 63 24 + 1) = mvB M k (i + 1) := by
  have e0 : mvB M k i 77 (M 63 24 + i) = M 77 (M 63 24 + i) := by unfold mvB; rw [if_neg (by omega), if_neg (by omega)]
  rw [mvB_at h2, e0, qU_k (fun z => h2 z.symm), mvB_at h2]
  funext a j
  rw [qU_d, qU_d]
  unfold mvB
  by_cases c1 : a = 63 ∧ j = 24
  · rw [if_pos c1, if_neg (by omega), if_pos c1]; omega
  · rw [if_neg c1]
    by_cases c2 : a = k ∧ j = i
    · rw [if_pos c2, if_pos (by omega), c2.2]
    · rw [if_neg c2]
      by_cases c3 : a = k ∧ 0 ≤ j ∧ j < i
      · rw [if_pos c3, if_pos (by omega)]
      · rw [if_neg c3, if_neg c1, if_neg (by omega), if_neg c1]
theorem lK {k n : Nat} (hk : qLs[k]? = some (.inr (false, n))) (h1 : k ≠ 77) (h2 : k ≠ 63) {g : qG} {C : qX} {d : Nat} {M : qM} {K : qM → Prop} (hC : qCk g C cX8_move RX8 5 d) (hQ : qRt g C none (qN K)) (h0 : 0 ≤ M 63 24 ∧ M 63 24 + n ≤ 620) (h : K (mvK M k n)) :
    ∀ (f : Nat) (i : Int), 0 ≤ i → i + f = n → qW g C 3 [some (.inr 63), some (.inr k), some (.inl n), some (.inl 1), some (.inl i)] [] (mvK M k i) := by
  have hn := qLs_sz hk
  intro f
  induction f with
  | zero =>
    intro i hi e
    have e : i = n := by omega
    subst e
    exact s_X8_move_3 hk hC hQ (by omega) (by decide) (by omega) ⟨fun _ => h, fun c => absurd c (by omega)⟩
  | succ f ih =>
    intro i hi e
    refine s_X8_move_3 hk hC hQ (by omega) (by decide) (by omega) ⟨fun c => absurd c (by omega), fun c => ⟨fun e => absurd e (by decide), fun _ => ⟨by omega, by rw [mvK_at]; omega, ?_, ?_⟩⟩⟩
    · rw [qU_k (by decide), mvK_at]; omega
    · rw [mvK_s h1 h2 hi]
      exact ih (i + 1) (by omega) (by omega)
theorem lB {k n : Nat} (hk : qLs[k]? = some (.inr (false, n))) (h1 : k ≠ 77) (h2 : k ≠ 63) {g : qG} {C : qX} {d : Nat} {M : qM} {K : qM → Prop} (hC : qCk g C cX8_move RX8 5 d) (hQ : qRt g C none (qN K)) (h0 : 0 ≤ M 63 24 ∧ M 63 24 + n ≤ 620) (h : K (mvB M k n)) :
    ∀ (f : Nat) (i : Int), 0 ≤ i → i + f = n → qW g C 3 [some (.inr 63), some (.inr k), some (.inl n), some (.inl 0), some (.inl i)] [] (mvB M k i) := by
  have hn := qLs_sz hk
  intro f
  induction f with
  | zero =>
    intro i hi e
    have e : i = n := by omega
    subst e
    exact s_X8_move_3 hk hC hQ (by omega) (by decide) (by omega) ⟨fun _ => h, fun c => absurd c (by omega)⟩
  | succ f ih =>
    intro i hi e
    refine s_X8_move_3 hk hC hQ (by omega) (by decide) (by omega) ⟨fun c => absurd c (by omega), fun c => ⟨fun _ => ⟨by rw [mvB_at h2]; omega, by omega, ?_, ?_⟩, fun e => absurd rfl e⟩⟩
    · rw [qU_k (fun z => h2 z.symm), mvB_at h2]; omega
    · rw [mvB_s h1 h2 hi]
      exact ih (i + 1) (by omega) (by omega)
theorem b_moveK {k n : Nat} (z : Int) (hk : qLs[k]? = some (.inr (false, n))) (h1 : k ≠ 77) (h2 : k ≠ 63) (hz : (n : Int) = z) {g : qG} {d : Nat} {M : qM} {K : qM → Prop} (h0 : 0 ≤ M 63 24 ∧ M 63 24 + z ≤ 620) (h : K (mvK M k z)) : qOk g d j_X8_move [.inr 63, .inr k, .inl z, .inl 1] M (qN K) := by
  subst hz
  have hn := qLs_sz hk
  refine e_X8_move hk (by omega) (by decide) (fun C hC hQ => ?_)
  have := lK hk h1 h2 hC hQ h0 h n 0 (by omega) (by omega)
  rwa [mvK_0] at this
theorem b_moveB {k n : Nat} (z : Int) (hk : qLs[k]? = some (.inr (false, n))) (h1 : k ≠ 77) (h2 : k ≠ 63) (hz : (n : Int) = z) {g : qG} {d : Nat} {M : qM} {K : qM → Prop} (h0 : 0 ≤ M 63 24 ∧ M 63 24 + z ≤ 620) (h : K (mvB M k z)) : qOk g d j_X8_move [.inr 63, .inr k, .inl z, .inl 0] M (qN K) := by
  subst hz
  have hn := qLs_sz hk
  refine e_X8_move hk (by omega) (by decide) (fun C hC hQ => ?_)
  have := lB hk h1 h2 hC hQ h0 h n 0 (by omega) (by omega)
  rwa [mvB_0] at this
/-- a rows of M stand in the kept row of M' -/
def iK (M : qM) (a : Nat) (t : Int) (M' : qM) : Prop := M' 63 24 = t ∧ 0 ≤ t ∧ (∀ b, b < a → koff b + klen b ≤ t ∧ ∀ j, 0 ≤ j → j < klen b → M' 77 (koff b + j) = M (64 + b) j) ∧ (∀ c, c ≠ 77 → c ≠ 63 → M' c = M c) ∧ ∀ j, j ≠ 24 → M' 63 j = M 63 j
def iB (M : qM) (a : Nat) (t : Int) (M' : qM) : Prop := M' 63 24 = t ∧ 0 ≤ t ∧ (∀ b, b < a → ∀ j, 0 ≤ j → j < klen b → M' (64 + b) j = M 77 (koff b + j)) ∧ (∀ c, (c < 64 ∨ 77 ≤ c) → c ≠ 63 → M' c = M c) ∧ ∀ j, j ≠ 24 → M' 63 j = M 63 j
theorem iK.s {M M' : qM} {a : Nat} {t : Int} (h : iK M a t M') (ha : a < 13) (e : koff a = t) (hl : 0 ≤ klen a) : iK M (a + 1) (t + klen a) (mvK M' (64 + a) (klen a)) := by
  obtain ⟨h1, h2, h3, h4, h5⟩ := h
  refine ⟨by rw [mvK_at, h1], by omega, fun b hb => ?_, fun c c1 c2 => ?_, fun j hj => ?_⟩
  · by_cases eb : b = a
    · subst eb
      refine ⟨by omega, fun j j0 j1 => ?_⟩
      unfold mvK
      rw [h1, if_pos (by omega), h4 _ (by omega) (by omega)]
      congr 1; omega
    · have := h3 b (by omega)
      refine ⟨by omega, fun j j0 j1 => ?_⟩
      unfold mvK
      rw [h1, if_neg (by omega), if_neg (by omega)]
      exact this.2 j j0 j1
  · funext j
    unfold mvK
    rw [if_neg (by omega), if_neg (by omega), h4 c c1 c2]
  · unfold mvK
    rw [if_neg (by omega), if_neg (by omega), h5 j hj]
theorem iB.s {M M' : qM} {a : Nat} {t : Int} (h : iB M a t M') (ha : a < 13) (e : koff a = t) (hl : 0 ≤ klen a) : iB M (a + 1) (t + klen a) (mvB M' (64 + a) (klen a)) := by
  obtain ⟨h1, h2, h3, h4, h5⟩ := h
  refine ⟨by rw [mvB_at (by omega), h1], by omega, fun b hb j j0 j1 => ?_, fun c c1 c2 => ?_, fun j hj => ?_⟩
  · by_cases eb : b = a
    · subst eb
      unfold mvB
      rw [h1, if_pos (by omega), h4 _ (by omega) (by omega), e]
    · unfold mvB
      rw [if_neg (by omega), if_neg (by omega)]
      exact h3 b (by omega) j j0 j1
  · funext j
    unfold mvB
    rw [if_neg (by omega), if_neg (by omega), h4 c c1 c2]
  · unfold mvB
    rw [if_neg (by omega), if_neg (by omega), h5 j hj]
theorem b_allK {g : qG} {d : Nat} {M : qM} {K : qM → Prop} (h : ∀ M1, iK M 13 597 M1 → K M1) : qOk g (d + 1) j_X8_moveAll [.inr 63, .inl 1] M (qN K) := by
  refine e_X8_moveAll (by decide) ?_
  have i : iK M 0 0 (qU M 63 24 0) := ⟨qU_s, by decide, fun b hb => absurd hb (by omega), fun c _ c2 => qU_f c2, fun j hj => qU_i hj⟩
  revert i
  generalize qU M 63 24 0 = M0
  intro i
  refine b_moveK 6 ly_64 (by decide) (by decide) rfl (by rw [i.1]; decide) ?_
  replace i : iK M 1 6 (mvK M0 64 6) := i.s (a := 0) (by decide) rfl (by decide)
  generalize mvK M0 64 6 = M1 at i ⊢
  refine b_moveK 10 ly_65 (by decide) (by decide) rfl (by rw [i.1]; decide) ?_
  replace i : iK M 2 16 (mvK M1 65 10) := i.s (a := 1) (by decide) rfl (by decide)
  generalize mvK M1 65 10 = M2 at i ⊢
  refine b_moveK 10 ly_66 (by decide) (by decide) rfl (by rw [i.1]; decide) ?_
  replace i : iK M 3 26 (mvK M2 66 10) := i.s (a := 2) (by decide) rfl (by decide)
  generalize mvK M2 66 10 = M3 at i ⊢
  refine b_moveK 20 ly_67 (by decide) (by decide) rfl (by rw [i.1]; decide) ?_
  replace i : iK M 4 46 (mvK M3 67 20) := i.s (a := 3) (by decide) rfl (by decide)
  generalize mvK M3 67 20 = M4 at i ⊢
  refine b_moveK 20 ly_68 (by decide) (by decide) rfl (by rw [i.1]; decide) ?_
  replace i : iK M 5 66 (mvK M4 68 20) := i.s (a := 4) (by decide) rfl (by decide)
  generalize mvK M4 68 20 = M5 at i ⊢
  refine b_moveK 5 ly_69 (by decide) (by decide) rfl (by rw [i.1]; decide) ?_
  replace i : iK M 6 71 (mvK M5 69 5) := i.s (a := 5) (by decide) rfl (by decide)
  generalize mvK M5 69 5 = M6 at i ⊢
  refine b_moveK 10 ly_70 (by decide) (by decide) rfl (by rw [i.1]; decide) ?_
  replace i : iK M 7 81 (mvK M6 70 10) := i.s (a := 6) (by decide) rfl (by decide)
  generalize mvK M6 70 10 = M7 at i ⊢
  refine b_moveK 10 ly_71 (by decide) (by decide) rfl (by rw [i.1]; decide) ?_
  replace i : iK M 8 91 (mvK M7 71 10) := i.s (a := 7) (by decide) rfl (by decide)
  generalize mvK M7 71 10 = M8 at i ⊢
  refine b_moveK 40 ly_72 (by decide) (by decide) rfl (by rw [i.1]; decide) ?_
  replace i : iK M 9 131 (mvK M8 72 40) := i.s (a := 8) (by decide) rfl (by decide)
  generalize mvK M8 72 40 = M9 at i ⊢
  refine b_moveK 400 ly_73 (by decide) (by decide) rfl (by rw [i.1]; decide) ?_
  replace i : iK M 10 531 (mvK M9 73 400) := i.s (a := 9) (by decide) rfl (by decide)
  generalize mvK M9 73 400 = M10 at i ⊢
  refine b_moveK 3 ly_74 (by decide) (by decide) rfl (by rw [i.1]; decide) ?_
  replace i : iK M 11 534 (mvK M10 74 3) := i.s (a := 10) (by decide) rfl (by decide)
  generalize mvK M10 74 3 = M11 at i ⊢
  refine b_moveK 3 ly_75 (by decide) (by decide) rfl (by rw [i.1]; decide) ?_
  replace i : iK M 12 537 (mvK M11 75 3) := i.s (a := 11) (by decide) rfl (by decide)
  generalize mvK M11 75 3 = M12 at i ⊢
  refine b_moveK 60 ly_76 (by decide) (by decide) rfl (by rw [i.1]; decide) ?_
  replace i : iK M 13 597 (mvK M12 76 60) := i.s (a := 12) (by decide) rfl (by decide)
  generalize mvK M12 76 60 = M13 at i ⊢
  exact h _ i
theorem b_allB {g : qG} {d : Nat} {M : qM} {K : qM → Prop} (h : ∀ M1, iB M 13 597 M1 → K M1) : qOk g (d + 1) j_X8_moveAll [.inr 63, .inl 0] M (qN K) := by
  refine e_X8_moveAll (by decide) ?_
  have i : iB M 0 0 (qU M 63 24 0) := ⟨qU_s, by decide, fun b hb => absurd hb (by omega), fun c _ c2 => qU_f (by omega), fun j hj => qU_i hj⟩
  revert i
  generalize qU M 63 24 0 = M0
  intro i
  refine b_moveB 6 ly_64 (by decide) (by decide) rfl (by rw [i.1]; decide) ?_
  replace i : iB M 1 6 (mvB M0 64 6) := i.s (a := 0) (by decide) rfl (by decide)
  generalize mvB M0 64 6 = M1 at i ⊢
  refine b_moveB 10 ly_65 (by decide) (by decide) rfl (by rw [i.1]; decide) ?_
  replace i : iB M 2 16 (mvB M1 65 10) := i.s (a := 1) (by decide) rfl (by decide)
  generalize mvB M1 65 10 = M2 at i ⊢
  refine b_moveB 10 ly_66 (by decide) (by decide) rfl (by rw [i.1]; decide) ?_
  replace i : iB M 3 26 (mvB M2 66 10) := i.s (a := 2) (by decide) rfl (by decide)
  generalize mvB M2 66 10 = M3 at i ⊢
  refine b_moveB 20 ly_67 (by decide) (by decide) rfl (by rw [i.1]; decide) ?_
  replace i : iB M 4 46 (mvB M3 67 20) := i.s (a := 3) (by decide) rfl (by decide)
  generalize mvB M3 67 20 = M4 at i ⊢
  refine b_moveB 20 ly_68 (by decide) (by decide) rfl (by rw [i.1]; decide) ?_
  replace i : iB M 5 66 (mvB M4 68 20) := i.s (a := 4) (by decide) rfl (by decide)
  generalize mvB M4 68 20 = M5 at i ⊢
  refine b_moveB 5 ly_69 (by decide) (by decide) rfl (by rw [i.1]; decide) ?_
  replace i : iB M 6 71 (mvB M5 69 5) := i.s (a := 5) (by decide) rfl (by decide)
  generalize mvB M5 69 5 = M6 at i ⊢
  refine b_moveB 10 ly_70 (by decide) (by decide) rfl (by rw [i.1]; decide) ?_
  replace i : iB M 7 81 (mvB M6 70 10) := i.s (a := 6) (by decide) rfl (by decide)
  generalize mvB M6 70 10 = M7 at i ⊢
  refine b_moveB 10 ly_71 (by decide) (by decide) rfl (by rw [i.1]; decide) ?_
  replace i : iB M 8 91 (mvB M7 71 10) := i.s (a := 7) (by decide) rfl (by decide)
  generalize mvB M7 71 10 = M8 at i ⊢
  refine b_moveB 40 ly_72 (by decide) (by decide) rfl (by rw [i.1]; decide) ?_
  replace i : iB M 9 131 (mvB M8 72 40) := i.s (a := 8) (by decide) rfl (by decide)
  generalize mvB M8 72 40 = M9 at i ⊢
  refine b_moveB 400 ly_73 (by decide) (by decide) rfl (by rw [i.1]; decide) ?_
  replace i : iB M 10 531 (mvB M9 73 400) := i.s (a := 9) (by decide) rfl (by decide)
  generalize mvB M9 73 400 = M10 at i ⊢
  refine b_moveB 3 ly_74 (by decide) (by decide) rfl (by rw [i.1]; decide) ?_
  replace i : iB M 11 534 (mvB M10 74 3) := i.s (a := 10) (by decide) rfl (by decide)
  generalize mvB M10 74 3 = M11 at i ⊢
  refine b_moveB 3 ly_75 (by decide) (by decide) rfl (by rw [i.1]; decide) ?_
  replace i : iB M 12 537 (mvB M11 75 3) := i.s (a := 11) (by decide) rfl (by decide)
  generalize mvB M11 75 3 = M12 at i ⊢
  refine b_moveB 60 ly_76 (by decide) (by decide) rfl (by rw [i.1]; decide) ?_
  replace i : iB M 13 597 (mvB M12 76 60) := i.s (a := 12) (by decide) rfl (by decide)
  generalize mvB M12 76 60 = M13 at i ⊢
  exact h _ i
