/-! the calls that change the state: sign, strike, site, wish, free, ratio, leader -/
def oSign (a b c e : Int) (V : qM) (rt : Int) : Int × qM × Int := if (0 ≤ a ∧ a < V 0 0) ∧ (0 ≤ b ∧ b < V 0 2) ∧ (0 ≤ c ∧ c < V 0 1) ∧ (0 ≤ e ∧ e ≤ 999) then (if V 0 3 < 80 then (V 0 3, qU (qU (qU (qU (qU (qU V 9 (5 * V 0 3) a) 9 (5 * V 0 3 + 1) b) 9 (5 * V 0 3 + 2) c) 9 (5 * V 0 3 + 3) e) 9 (5 * V 0 3 + 4) 0) 0 3 (V 0 3 + 1), rt) else (-2, V, rt)) else (-1, V, rt)
theorem x_sign {g : qG} {d : Nat} {a b c e : Int} (h1 : qR a) (h2 : qR b) (h3 : qR c) (h4 : qR e) (M V Vk : qM) (kp rt : Int) (hv : voV V) (hrt : 1 ≤ rt ∧ rt ≤ 10) (h : Xi M V Vk kp rt) : qOk g (d + 2) j_X7_sign [.inr 0, .inl a, .inl b, .inl c, .inl e] M (qI fun r M1 => r = (oSign a b c e V rt).1 ∧ Xi M1 (oSign a b c e V rt).2.1 Vk kp (oSign a b c e V rt).2.2 ∧ ∀ k, 63 ≤ k → M1 k = M k) := by
  obtain ⟨hvn, vC, vL, vT, vB, vS, vW⟩ := id hv
  obtain ⟨⟨hC, hL, hT, hB, hS, hW⟩, k1, k2, k3, k4, k5⟩ := id h
  obtain ⟨nC, hC⟩ := id hC
  obtain ⟨nL, hL, hL1, hL2, hL3⟩ := id hL
  obtain ⟨nT, hT⟩ := id hT
  obtain ⟨nB, hB⟩ := id hB
  obtain ⟨nS, hS, hS1⟩ := id hS
  obtain ⟨nW, hW, hW1, hW2⟩ := id hW
  have nC : M 2 0 = V 0 0 := nC
  have nL : M 2 3 = V 0 1 := nL
  have nT : M 8 0 = V 0 2 := nT
  have nB : M 8 3 = V 0 4 := nB
  have nS : M 16 0 = V 0 3 := nS
  have nW : M 22 0 = V 0 5 := nW
  refine qOk.kI (fun K hK => e_X7_sign h1 h2 h3 h4 ?_)
  rw [nS]
  repeat' first | omega | intro zc | apply And.intro
  all_goals first | exact hK _ _ (xr (by unfold oSign; rw [if_neg (by omega)]) h) | exact hK _ _ (xr (by unfold oSign; rw [if_pos (by omega), if_neg (by omega)]) h) | refine hK _ _ ?_
  refine xs (by unfold oSign; rw [if_pos (by omega), if_pos (by omega)]) (h.old ⟨by simpa [bv, qU_f, qU_g, fU_a] using h.1.1, by simpa [bv, qU_f, qU_g, fU_a] using h.1.2.1, by simpa [bv, qU_f, qU_g, fU_a] using h.1.2.2.1, by simpa [bv, qU_f, qU_g, fU_a] using h.1.2.2.2.1, ⟨by simp [bv, qU_f, qU_g, fU_a], fun j h0 h1 => ?_, fun j h0 h1 => ?_⟩, by simpa [bv, qU_f, qU_g, fU_a] using h.1.2.2.2.2.2⟩ (by simp [qU_f]) (fun k _ _ => by rw [qU_f (by omega), qU_f (by omega), qU_f (by omega), qU_f (by omega), qU_f (by omega), qU_f (by omega)]) (by unfold pxV szV rmV; simp [bv, qU_f, qU_g, fU_a])) (fun k _ => by rw [qU_f (by omega), qU_f (by omega), qU_f (by omega), qU_f (by omega), qU_f (by omega), qU_f (by omega)])
  · simp [bv, qU_f, qU_g] at h1 ⊢
    rw [fU_s] at h1
    show _ = f5 (V 9) (V 0 3) a b c e 0 _ ∧ _ = f5 (V 9) (V 0 3) a b c e 0 _ ∧ _ = f5 (V 9) (V 0 3) a b c e 0 _ ∧ _ = f5 (V 9) (V 0 3) a b c e 0 _ ∧ _ = f5 (V 9) (V 0 3) a b c e 0 _
    by_cases z : j = V 0 3
    · subst z
      obtain ⟨a1, a2, a3, a4, a5⟩ := f5_at (V 9) (V 0 3) a b c e 0
      rw [a1, a2, a3, a4, a5]
      simp [fU_a]
    · obtain ⟨a1, a2, a3, a4, a5⟩ := f5_o (V 9) (n := V 0 3) (a := a) (b := b) (c := c) (d := e) (e := 0) z
      rw [a1, a2, a3, a4, a5]
      have := hS j h0 (by omega)
      simp [bv] at this
      simp [fU_a, z, this]
  · have := hS1 j h0 h1
    simp [bv] at this
    simp [bv, qU_f, qU_g, fU_a]
    by_cases z : j = V 0 3
    · simp [z]
    · simp [z]; exact this
theorem m_sign {g : qG} {d : Nat} {a b c e : Int} (h1 : qR a) (h2 : qR b) (h3 : qR c) (h4 : qR e) (M V Vk : qM) (kp rt : Int) (hv : voV V) (hrt : 1 ≤ rt ∧ rt ≤ 10) (h : Mi M V Vk kp rt) : qOk g (d + 2) j_X8_sign [.inr 63, .inl a, .inl b, .inl c, .inl e] M (qI fun r M1 => r = (oSign a b c e V rt).1 ∧ Mi M1 (oSign a b c e V rt).2.1 Vk kp (oSign a b c e V rt).2.2 ∧ ∀ k, k < 63 → M1 k = M k) := by
  obtain ⟨hvn, vC, vL, vT, vB, vS, vW⟩ := id hv
  have m0 : M 64 = V 0 := h.1 0 (by decide)
  have m1 : M 65 = V 1 := h.1 1 (by decide)
  have m2 : M 66 = V 2 := h.1 2 (by decide)
  have m3 : M 67 = V 3 := h.1 3 (by decide)
  have m4 : M 68 = V 4 := h.1 4 (by decide)
  have m5 : M 69 = V 5 := h.1 5 (by decide)
  have m6 : M 70 = V 6 := h.1 6 (by decide)
  have m7 : M 71 = V 7 := h.1 7 (by decide)
  have m8 : M 72 = V 8 := h.1 8 (by decide)
  have m9 : M 73 = V 9 := h.1 9 (by decide)
  have m10 : M 74 = V 10 := h.1 10 (by decide)
  have m11 : M 75 = V 11 := h.1 11 (by decide)
  have m12 : M 76 = V 12 := h.1 12 (by decide)
  refine qOk.kI (fun K hK => e_X8_sign h1 h2 h3 h4 ?_)
  simp only [qU_f (show (64 : Nat) ≠ 73 by decide), m0]
  repeat' first | omega | intro zc | apply And.intro
  all_goals first | exact hK _ _ (mr (by unfold oSign; rw [if_neg (by omega)]) h) | exact hK _ _ (mr (by unfold oSign; rw [if_pos (by omega), if_neg (by omega)]) h) | refine hK _ _ ?_
  exact ms (by unfold oSign; rw [if_pos (by omega), if_pos (by omega)]) (h.new (miU (k := 0) (miU (k := 9) (miU (k := 9) (miU (k := 9) (miU (k := 9) (miU (k := 9) h.1)))))) (by simp [qU_f]) (by simp [qU_f])) (fun k _ => by rw [qU_f (by omega), qU_f (by omega), qU_f (by omega), qU_f (by omega), qU_f (by omega), qU_f (by omega)])
theorem v_sign {a b c e : Int} (V : qM) (rt : Int) (hv : voV V) (hrt : 1 ≤ rt ∧ rt ≤ 10) : voV (oSign a b c e V rt).2.1 ∧ (1 ≤ (oSign a b c e V rt).2.2 ∧ (oSign a b c e V rt).2.2 ≤ 10) := by
  obtain ⟨hvn, vC, vL, vT, vB, vS, vW⟩ := id hv
  unfold oSign
  split
  · split
    · refine ⟨⟨by simp [voN, bv, qU_f, qU_g, fU_a]; omega, by simpa [bv, qU_f, qU_g, fU_a] using vC, by simpa [bv, qU_f, qU_g, fU_a] using vL, by simpa [bv, qU_f, qU_g, fU_a] using vT, by simpa [bv, qU_f, qU_g, fU_a] using vB, fun j h0 h1 => ?_, by simpa [bv, qU_f, qU_g, fU_a] using vW⟩, hrt⟩
      simp only [bv, qU_f (show (9 : Nat) ≠ 0 by decide), qU_f (show (0 : Nat) ≠ 9 by decide), qU_g] at h1 ⊢
      rw [fU_s] at h1
      rw [fU_n (show (0 : Int) ≠ 3 by decide), fU_n (show (1 : Int) ≠ 3 by decide), fU_n (show (2 : Int) ≠ 3 by decide)]
      show (0 ≤ f5 (V 9) (V 0 3) a b c e 0 _ ∧ f5 (V 9) (V 0 3) a b c e 0 _ < V 0 0) ∧ (0 ≤ f5 (V 9) (V 0 3) a b c e 0 _ ∧ f5 (V 9) (V 0 3) a b c e 0 _ < V 0 2) ∧ (0 ≤ f5 (V 9) (V 0 3) a b c e 0 _ ∧ f5 (V 9) (V 0 3) a b c e 0 _ < V 0 1) ∧ (0 ≤ f5 (V 9) (V 0 3) a b c e 0 _ ∧ f5 (V 9) (V 0 3) a b c e 0 _ ≤ 999) ∧ (f5 (V 9) (V 0 3) a b c e 0 _ = 0 ∨ f5 (V 9) (V 0 3) a b c e 0 _ = 1)
      by_cases z : j = V 0 3
      · subst z
        obtain ⟨a1, a2, a3, a4, a5⟩ := f5_at (V 9) (V 0 3) a b c e 0
        rw [a1, a2, a3, a4, a5]
        omega
      · obtain ⟨a1, a2, a3, a4, a5⟩ := f5_o (V 9) (n := V 0 3) (a := a) (b := b) (c := c) (d := e) (e := 0) z
        rw [a1, a2, a3, a4, a5]
        exact vS j h0 (by omega)
    · exact ⟨hv, hrt⟩
  · exact ⟨hv, hrt⟩
-- strike
def oStrike (s : Int) (V : qM) (rt : Int) : Int × qM × Int := if 0 ≤ s ∧ s < V 0 3 then (if V 9 (5 * s + 4) = 1 then (-4, V, rt) else (1, qU V 9 (5 * s + 4) 1, rt)) else (-1, V, rt)
theorem x_strike {g : qG} {d : Nat} {s : Int} (h1 : qR s) (M V Vk : qM) (kp rt : Int) (hv : voV V) (hrt : 1 ≤ rt ∧ rt ≤ 10) (h : Xi M V Vk kp rt) : qOk g (d + 2) j_X7_strike [.inr 0, .inl s] M (qI fun r M1 => r = (oStrike s V rt).1 ∧ Xi M1 (oStrike s V rt).2.1 Vk kp (oStrike s V rt).2.2 ∧ ∀ k, 63 ≤ k → M1 k = M k) := by
  obtain ⟨hvn, vC, vL, vT, vB, vS, vW⟩ := id hv
  obtain ⟨⟨hC, hL, hT, hB, hS, hW⟩, k1, k2, k3, k4, k5⟩ := id h
  obtain ⟨nC, hC⟩ := id hC
  obtain ⟨nL, hL, hL1, hL2, hL3⟩ := id hL
  obtain ⟨nT, hT⟩ := id hT
  obtain ⟨nB, hB⟩ := id hB
  obtain ⟨nS, hS, hS1⟩ := id hS
  obtain ⟨nW, hW, hW1, hW2⟩ := id hW
  have nC : M 2 0 = V 0 0 := nC
  have nL : M 2 3 = V 0 1 := nL
  have nT : M 8 0 = V 0 2 := nT
  have nB : M 8 3 = V 0 4 := nB
  have nS : M 16 0 = V 0 3 := nS
  have nW : M 22 0 = V 0 5 := nW
  have q1 : (0 ≤ s ∧ s < V 0 3) → M 21 s = V 9 (5 * s + 4) ∧ (V 9 (5 * s + 4) = 0 ∨ V 9 (5 * s + 4) = 1) := fun z => ⟨(hS s z.1 z.2).2.2.2.2, (vS s z.1 z.2).2.2.2.2⟩
  refine qOk.kI (fun K hK => e_X7_strike h1 ?_)
  refine ⟨fun c1 => ⟨by omega, fun c2 => hK _ _ ?_, fun c2 => hK _ _ ?_⟩, fun c1 => hK _ _ ?_⟩
  · have q := q1 (by omega)
    refine xs (by unfold oStrike; rw [if_pos (by omega), if_neg (by omega)]) (h.old ⟨by simpa [bv, qU_f, qU_g, fU_a] using h.1.1, by simpa [bv, qU_f, qU_g, fU_a] using h.1.2.1, by simpa [bv, qU_f, qU_g, fU_a] using h.1.2.2.1, by simpa [bv, qU_f, qU_g, fU_a] using h.1.2.2.2.1, ⟨by simpa [bv, qU_f, qU_g, fU_a] using nS, fun j h0 h1 => ?_, fun j h0 h1 => ?_⟩, by simpa [bv, qU_f, qU_g, fU_a] using h.1.2.2.2.2.2⟩ (by simp [qU_f]) (fun k _ _ => by rw [qU_f (by omega)]) (by unfold pxV szV rmV; simp [bv, qU_f, qU_g, fU_a])) (fun k _ => by rw [qU_f (by omega)])
    · simp only [bv, qU_f (show (9 : Nat) ≠ 0 by decide), qU_f (show (0 : Nat) ≠ 9 by decide), qU_g] at h1 ⊢
      have := hS j h0 h1
      simp only [bv] at this
      rw [fU_n (show 5 * j ≠ 5 * s + 4 by omega), fU_n (show 5 * j + 1 ≠ 5 * s + 4 by omega), fU_n (show 5 * j + 2 ≠ 5 * s + 4 by omega), fU_n (show 5 * j + 3 ≠ 5 * s + 4 by omega)]
      refine ⟨by simpa [qU_f] using this.1, by simpa [qU_f] using this.2.1, by simpa [qU_f] using this.2.2.1, by simpa [qU_f] using this.2.2.2.1, ?_⟩
      by_cases z : j = s
      · subst z; rw [fU_s]; simp [bv, qU_f, qU_g, fU_a]
      · rw [fU_n (show 5 * j + 4 ≠ 5 * s + 4 by omega)]; simpa [bv, qU_f, qU_g, fU_a, z] using this.2.2.2.2
    · have := hS1 j h0 h1
      simp [bv] at this
      simp [bv, qU_f, qU_g, fU_a]
      by_cases z : j = s
      · simp [z]
      · simp [z]; exact this
  · have q := q1 (by omega)
    exact xr (by unfold oStrike; rw [if_pos (by omega), if_pos (by omega)]) h
  · exact xr (by unfold oStrike; rw [if_neg (by omega)]) h
theorem m_strike {g : qG} {d : Nat} {s : Int} (h1 : qR s) (M V Vk : qM) (kp rt : Int) (hv : voV V) (hrt : 1 ≤ rt ∧ rt ≤ 10) (h : Mi M V Vk kp rt) : qOk g (d + 2) j_X8_strike [.inr 63, .inl s] M (qI fun r M1 => r = (oStrike s V rt).1 ∧ Mi M1 (oStrike s V rt).2.1 Vk kp (oStrike s V rt).2.2 ∧ ∀ k, k < 63 → M1 k = M k) := by
  obtain ⟨hvn, vC, vL, vT, vB, vS, vW⟩ := id hv
  have m0 : M 64 = V 0 := h.1 0 (by decide)
  have m1 : M 65 = V 1 := h.1 1 (by decide)
  have m2 : M 66 = V 2 := h.1 2 (by decide)
  have m3 : M 67 = V 3 := h.1 3 (by decide)
  have m4 : M 68 = V 4 := h.1 4 (by decide)
  have m5 : M 69 = V 5 := h.1 5 (by decide)
  have m6 : M 70 = V 6 := h.1 6 (by decide)
  have m7 : M 71 = V 7 := h.1 7 (by decide)
  have m8 : M 72 = V 8 := h.1 8 (by decide)
  have m9 : M 73 = V 9 := h.1 9 (by decide)
  have m10 : M 74 = V 10 := h.1 10 (by decide)
  have m11 : M 75 = V 11 := h.1 11 (by decide)
  have m12 : M 76 = V 12 := h.1 12 (by decide)
  refine qOk.kI (fun K hK => e_X8_strike h1 ?_)
  simp only [m0, m9]
  refine ⟨by omega, fun c1 => ⟨by omega, fun c2 => hK _ _ ?_, fun c2 => hK _ _ ?_⟩, fun c1 => hK _ _ ?_⟩
  · exact ms (by unfold oStrike; rw [if_pos (by omega), if_neg (by omega)]) (h.new (miU (k := 9) h.1) (by simp [qU_f]) (by simp [qU_f])) (fun k _ => by rw [qU_f (by omega)])
  · exact mr (by unfold oStrike; rw [if_pos (by omega), if_pos (by omega)]) h
  · exact mr (by unfold oStrike; rw [if_neg (by omega)]) h
theorem v_strike {s : Int} (V : qM) (rt : Int) (hv : voV V) (hrt : 1 ≤ rt ∧ rt ≤ 10) : voV (oStrike s V rt).2.1 ∧ (1 ≤ (oStrike s V rt).2.2 ∧ (oStrike s V rt).2.2 ≤ 10) := by
  obtain ⟨hvn, vC, vL, vT, vB, vS, vW⟩ := id hv
  unfold oStrike
  split
  · split
    · exact ⟨hv, hrt⟩
    · refine ⟨⟨by simpa [voN, bv, qU_f, qU_g, fU_a] using hvn, by simpa [bv, qU_f, qU_g, fU_a] using vC, by simpa [bv, qU_f, qU_g, fU_a] using vL, by simpa [bv, qU_f, qU_g, fU_a] using vT, by simpa [bv, qU_f, qU_g, fU_a] using vB, fun j h0 h1 => ?_, by simpa [bv, qU_f, qU_g, fU_a] using vW⟩, hrt⟩
      simp only [bv, qU_f (show (9 : Nat) ≠ 0 by decide), qU_f (show (0 : Nat) ≠ 9 by decide), qU_g] at h1 ⊢
      have := vS j h0 h1
      rw [fU_n (show 5 * j ≠ 5 * s + 4 by omega), fU_n (show 5 * j + 1 ≠ 5 * s + 4 by omega), fU_n (show 5 * j + 2 ≠ 5 * s + 4 by omega), fU_n (show 5 * j + 3 ≠ 5 * s + 4 by omega)]
      refine ⟨this.1, this.2.1, this.2.2.1, this.2.2.2.1, ?_⟩
      by_cases z : j = s
      · subst z; rw [fU_s]; exact Or.inr rfl
      · rw [fU_n (show 5 * j + 4 ≠ 5 * s + 4 by omega)]; exact this.2.2.2.2
  · exact ⟨hv, hrt⟩
-- site
def oSite (b w : Int) (V : qM) (rt : Int) : Int × qM × Int := if 1 ≤ b ∧ b ≤ 10 then (if V 0 5 < 3 then (V 0 5, qU (qU (qU V 10 (V 0 5) b) 11 (V 0 5) w) 0 5 (V 0 5 + 1), rt) else (-2, V, rt)) else (-1, V, rt)
theorem x_site {g : qG} {d : Nat} {b w : Int} (h1 : qR b) (hw : w = 0 ∨ w = 1) (M V Vk : qM) (kp rt : Int) (hv : voV V) (hrt : 1 ≤ rt ∧ rt ≤ 10) (h : Xi M V Vk kp rt) : qOk g (d + 0) j_X7_site [.inr 0, .inl b, .inl w] M (qI fun r M1 => r = (oSite b w V rt).1 ∧ Xi M1 (oSite b w V rt).2.1 Vk kp (oSite b w V rt).2.2 ∧ ∀ k, 63 ≤ k → M1 k = M k) := by
  obtain ⟨hvn, vC, vL, vT, vB, vS, vW⟩ := id hv
  obtain ⟨⟨hC, hL, hT, hB, hS, hW⟩, k1, k2, k3, k4, k5⟩ := id h
  obtain ⟨nC, hC⟩ := id hC
  obtain ⟨nL, hL, hL1, hL2, hL3⟩ := id hL
  obtain ⟨nT, hT⟩ := id hT
  obtain ⟨nB, hB⟩ := id hB
  obtain ⟨nS, hS, hS1⟩ := id hS
  obtain ⟨nW, hW, hW1, hW2⟩ := id hW
  have nC : M 2 0 = V 0 0 := nC
  have nL : M 2 3 = V 0 1 := nL
  have nT : M 8 0 = V 0 2 := nT
  have nB : M 8 3 = V 0 4 := nB
  have nS : M 16 0 = V 0 3 := nS
  have nW : M 22 0 = V 0 5 := nW
  refine qOk.kI (fun K hK => e_X7_site h1 (q_rz hw) ?_)
  rw [nW]
  refine ⟨fun c1 => hK _ _ ?_, fun c1 => ⟨fun c2 => ⟨fun c3 => ⟨by omega, hw, by omega, hK _ _ ?_⟩, fun c3 => hK _ _ ?_⟩, fun c2 => hK _ _ ?_⟩⟩
  · exact xr (by unfold oSite; rw [if_neg (by omega)]) h
  · refine xs (by unfold oSite; rw [if_pos (by omega), if_pos (by omega)]) (h.new ⟨by simpa [bv, qU_f, qU_g, fU_a] using h.1.1, by simpa [bv, qU_f, qU_g, fU_a] using h.1.2.1, by simpa [bv, qU_f, qU_g, fU_a] using h.1.2.2.1, by simpa [bv, qU_f, qU_g, fU_a] using h.1.2.2.2.1, by simpa [bv, qU_f, qU_g, fU_a] using h.1.2.2.2.2.1, ⟨by simp [bv, qU_f, qU_g, fU_a], fun j h0 h1 => ?_, fun j h0 h1 => ?_, by simpa [bv, qU_f, qU_g, fU_a] using hW2⟩⟩ (by simp [qU_f, qU_g]) (fun k _ _ => by rw [qU_f (by omega), qU_f (by omega), qU_f (by omega), qU_f (by omega)])) (fun k _ => by rw [qU_f (by omega), qU_f (by omega), qU_f (by omega), qU_f (by omega)])
    · simp [bv, qU_f, qU_g, fU_a] at h1 ⊢
      by_cases z : j = V 0 5
      · simp [z]
      · have := hW j h0 (by omega)
        simp [bv] at this
        simp [z, this]
    · have := hW1 j h0 h1
      simp [bv] at this
      simp [bv, qU_f, qU_g, fU_a]
      by_cases z : j = V 0 5
      · simp [z]; exact hw
      · simp [z]; exact this
  · exact xr (by unfold oSite; rw [if_pos (by omega), if_neg (by omega)]) h
  · exact xr (by unfold oSite; rw [if_neg (by omega)]) h
theorem m_site {g : qG} {d : Nat} {b w : Int} (h1 : qR b) (hw : w = 0 ∨ w = 1) (M V Vk : qM) (kp rt : Int) (hv : voV V) (hrt : 1 ≤ rt ∧ rt ≤ 10) (h : Mi M V Vk kp rt) : qOk g (d + 1) j_X8_site [.inr 63, .inl b, .inl w] M (qI fun r M1 => r = (oSite b w V rt).1 ∧ Mi M1 (oSite b w V rt).2.1 Vk kp (oSite b w V rt).2.2 ∧ ∀ k, k < 63 → M1 k = M k) := by
  obtain ⟨hvn, vC, vL, vT, vB, vS, vW⟩ := id hv
  have m0 : M 64 = V 0 := h.1 0 (by decide)
  have m1 : M 65 = V 1 := h.1 1 (by decide)
  have m2 : M 66 = V 2 := h.1 2 (by decide)
  have m3 : M 67 = V 3 := h.1 3 (by decide)
  have m4 : M 68 = V 4 := h.1 4 (by decide)
  have m5 : M 69 = V 5 := h.1 5 (by decide)
  have m6 : M 70 = V 6 := h.1 6 (by decide)
  have m7 : M 71 = V 7 := h.1 7 (by decide)
  have m8 : M 72 = V 8 := h.1 8 (by decide)
  have m9 : M 73 = V 9 := h.1 9 (by decide)
  have m10 : M 74 = V 10 := h.1 10 (by decide)
  have m11 : M 75 = V 11 := h.1 11 (by decide)
  have m12 : M 76 = V 12 := h.1 12 (by decide)
  refine qOk.kI (fun K hK => e_X8_site h1 (q_rz hw) ?_)
  simp only [qU_f (show (64 : Nat) ≠ 74 by decide), qU_f (show (64 : Nat) ≠ 75 by decide), m0]
  refine ⟨fun c1 => ⟨fun c2 => ⟨by omega, fun c3 => ⟨by omega, by omega, hK _ _ ?_⟩, fun c3 => ⟨by omega, by omega, hK _ _ ?_⟩⟩, fun c2 => hK _ _ ?_⟩, fun c1 => hK _ _ ?_⟩
  · subst c3
    exact ms (by unfold oSite; rw [if_pos (by omega), if_pos (by omega)]) (h.new (miU (k := 0) (miU (k := 11) (miU (k := 10) h.1))) (by simp [qU_f]) (by simp [qU_f])) (fun k _ => by rw [qU_f (by omega), qU_f (by omega), qU_f (by omega)])
  · have e1 : w = 1 := by omega
    subst e1
    exact ms (by unfold oSite; rw [if_pos (by omega), if_pos (by omega)]) (h.new (miU (k := 0) (miU (k := 11) (miU (k := 10) h.1))) (by simp [qU_f]) (by simp [qU_f])) (fun k _ => by rw [qU_f (by omega), qU_f (by omega), qU_f (by omega)])
  · exact mr (by unfold oSite; rw [if_pos (by omega), if_neg (by omega)]) h
  · exact mr (by unfold oSite; rw [if_neg (by omega)]) h
theorem v_site {b w : Int} (hw : w = 0 ∨ w = 1) (V : qM) (rt : Int) (hv : voV V) (hrt : 1 ≤ rt ∧ rt ≤ 10) : voV (oSite b w V rt).2.1 ∧ (1 ≤ (oSite b w V rt).2.2 ∧ (oSite b w V rt).2.2 ≤ 10) := by
  obtain ⟨hvn, vC, vL, vT, vB, vS, vW⟩ := id hv
  unfold oSite
  split
  · split
    · refine ⟨⟨by simp [voN, bv, qU_f, qU_g, fU_a]; omega, by simpa [bv, qU_f, qU_g, fU_a] using vC, by simpa [bv, qU_f, qU_g, fU_a] using vL, by simpa [bv, qU_f, qU_g, fU_a] using vT, by simpa [bv, qU_f, qU_g, fU_a] using vB, by simpa [bv, qU_f, qU_g, fU_a] using vS, ⟨fun j h0 h1 => ?_, by simpa [bv, qU_f, qU_g, fU_a] using vW.2⟩⟩, hrt⟩
      simp [bv, qU_f, qU_g, fU_a] at h1 ⊢
      by_cases z : j = V 0 5
      · simp [z]; omega
      · simp [z]; exact vW.1 j h0 (by omega)
    · exact ⟨hv, hrt⟩
  · exact ⟨hv, hrt⟩
-- wish
def oWish (p w s v : Int) (V : qM) (rt : Int) : Int × qM × Int := if (0 ≤ p ∧ p ≤ 3) ∧ (0 ≤ w ∧ w ≤ 4) ∧ (0 ≤ s ∧ s ≤ 2) ∧ (0 ≤ v ∧ v ≤ 9) then (V 12 (15 * p + 3 * w + s), qU V 12 (15 * p + 3 * w + s) v, rt) else (-1, V, rt)
theorem x_wish {g : qG} {d : Nat} {p w s v : Int} (h1 : qR p) (h2 : qR w) (h3 : qR s) (h4 : qR v) (M V Vk : qM) (kp rt : Int) (hv : voV V) (hrt : 1 ≤ rt ∧ rt ≤ 10) (h : Xi M V Vk kp rt) : qOk g (d + 2) j_X7_wish [.inr 0, .inl p, .inl w, .inl s, .inl v] M (qI fun r M1 => r = (oWish p w s v V rt).1 ∧ Xi M1 (oWish p w s v V rt).2.1 Vk kp (oWish p w s v V rt).2.2 ∧ ∀ k, 63 ≤ k → M1 k = M k) := by
  obtain ⟨hvn, vC, vL, vT, vB, vS, vW⟩ := id hv
  obtain ⟨⟨hC, hL, hT, hB, hS, hW⟩, k1, k2, k3, k4, k5⟩ := id h
  obtain ⟨nC, hC⟩ := id hC
  obtain ⟨nL, hL, hL1, hL2, hL3⟩ := id hL
  obtain ⟨nT, hT⟩ := id hT
  obtain ⟨nB, hB⟩ := id hB
  obtain ⟨nS, hS, hS1⟩ := id hS
  obtain ⟨nW, hW, hW1, hW2⟩ := id hW
  have nC : M 2 0 = V 0 0 := nC
  have nL : M 2 3 = V 0 1 := nL
  have nT : M 8 0 = V 0 2 := nT
  have nB : M 8 3 = V 0 4 := nB
  have nS : M 16 0 = V 0 3 := nS
  have nW : M 22 0 = V 0 5 := nW
  refine qOk.kI (fun K hK => e_X7_wish h1 h2 h3 h4 ?_)
  rw [show p * 15 + w * 3 + s = 15 * p + 3 * w + s by omega]
  repeat' first | omega | intro zc | apply And.intro
  all_goals first | exact hK _ _ (xr (by unfold oWish; rw [if_neg (by omega)]) h) | refine hK _ _ ?_
  rw [qU_f (show (25 : Nat) ≠ 0 by decide), show M 25 (15 * p + 3 * w + s) = V 12 (15 * p + 3 * w + s) from hW2 _ (by omega) (by omega)]
  refine xs (by unfold oWish; rw [if_pos (by omega)]) (h.new ⟨by simpa [bv, qU_f, qU_g, fU_a] using h.1.1, by simpa [bv, qU_f, qU_g, fU_a] using h.1.2.1, by simpa [bv, qU_f, qU_g, fU_a] using h.1.2.2.1, by simpa [bv, qU_f, qU_g, fU_a] using h.1.2.2.2.1, by simpa [bv, qU_f, qU_g, fU_a] using h.1.2.2.2.2.1, ⟨by simpa [bv, qU_f, qU_g, fU_a] using nW, by simpa [bv, qU_f, qU_g, fU_a] using hW, by simpa [bv, qU_f, qU_g, fU_a] using hW1, fun j h0 h1 => ?_⟩⟩ (by simp [qU_f, qU_g]) (fun k _ _ => by rw [qU_f (by omega), qU_f (by omega)])) (fun k _ => by rw [qU_f (by omega), qU_f (by omega)])
  have := hW2 j h0 h1
  simp [bv] at this
  simp [bv, qU_f, qU_g, fU_a, this]
theorem m_wish {g : qG} {d : Nat} {p w s v : Int} (h1 : qR p) (h2 : qR w) (h3 : qR s) (h4 : qR v) (M V Vk : qM) (kp rt : Int) (hv : voV V) (hrt : 1 ≤ rt ∧ rt ≤ 10) (h : Mi M V Vk kp rt) : qOk g (d + 2) j_X8_wish [.inr 63, .inl p, .inl w, .inl s, .inl v] M (qI fun r M1 => r = (oWish p w s v V rt).1 ∧ Mi M1 (oWish p w s v V rt).2.1 Vk kp (oWish p w s v V rt).2.2 ∧ ∀ k, k < 63 → M1 k = M k) := by
  obtain ⟨hvn, vC, vL, vT, vB, vS, vW⟩ := id hv
  have m0 : M 64 = V 0 := h.1 0 (by decide)
  have m1 : M 65 = V 1 := h.1 1 (by decide)
  have m2 : M 66 = V 2 := h.1 2 (by decide)
  have m3 : M 67 = V 3 := h.1 3 (by decide)
  have m4 : M 68 = V 4 := h.1 4 (by decide)
  have m5 : M 69 = V 5 := h.1 5 (by decide)
  have m6 : M 70 = V 6 := h.1 6 (by decide)
  have m7 : M 71 = V 7 := h.1 7 (by decide)
  have m8 : M 72 = V 8 := h.1 8 (by decide)
  have m9 : M 73 = V 9 := h.1 9 (by decide)
  have m10 : M 74 = V 10 := h.1 10 (by decide)
  have m11 : M 75 = V 11 := h.1 11 (by decide)
  have m12 : M 76 = V 12 := h.1 12 (by decide)
  refine qOk.kI (fun K hK => e_X8_wish h1 h2 h3 h4 ?_)
  simp only [m12]
  repeat' first | omega | intro zc | apply And.intro
  all_goals first | exact hK _ _ (mr (by unfold oWish; rw [if_neg (by omega)]) h) | refine hK _ _ ?_
  exact ms (by unfold oWish; rw [if_pos (by omega)]) (h.new (miU (k := 12) h.1) (by simp [qU_f]) (by simp [qU_f])) (fun k _ => by rw [qU_f (by omega)])
theorem v_wish {p w s v : Int} (V : qM) (rt : Int) (hv : voV V) (hrt : 1 ≤ rt ∧ rt ≤ 10) : voV (oWish p w s v V rt).2.1 ∧ (1 ≤ (oWish p w s v V rt).2.2 ∧ (oWish p w s v V rt).2.2 ≤ 10) := by
  obtain ⟨hvn, vC, vL, vT, vB, vS, vW⟩ := id hv
  unfold oWish
  split
  · refine ⟨⟨by simpa [voN, bv, qU_f, qU_g, fU_a] using hvn, by simpa [bv, qU_f, qU_g, fU_a] using vC, by simpa [bv, qU_f, qU_g, fU_a] using vL, by simpa [bv, qU_f, qU_g, fU_a] using vT, by simpa [bv, qU_f, qU_g, fU_a] using vB, by simpa [bv, qU_f, qU_g, fU_a] using vS, ⟨by simpa [bv, qU_f, qU_g, fU_a] using vW.1, fun j h0 h1 => ?_⟩⟩, hrt⟩
    simp [bv, qU_f, qU_g, fU_a]
    have := vW.2 j h0 h1
    by_cases z : j = 15 * p + 3 * w + s
    · simp [z]; omega
    · simp [z]; exact this
  · exact ⟨hv, hrt⟩
-- free
def oFree (l b : Int) (V : qM) (rt : Int) : Int × qM × Int := if (0 ≤ l ∧ l < V 0 1) ∧ (0 ≤ b ∧ b ≤ 31) then (V 5 l, qU V 5 l b, rt) else (-1, V, rt)
theorem x_free {g : qG} {d : Nat} {l b : Int} (h1 : qR l) (h2 : qR b) (M V Vk : qM) (kp rt : Int) (hv : voV V) (hrt : 1 ≤ rt ∧ rt ≤ 10) (h : Xi M V Vk kp rt) : qOk g (d + 2) j_X7_free [.inr 0, .inl l, .inl b] M (qI fun r M1 => r = (oFree l b V rt).1 ∧ Xi M1 (oFree l b V rt).2.1 Vk kp (oFree l b V rt).2.2 ∧ ∀ k, 63 ≤ k → M1 k = M k) := by
  obtain ⟨hvn, vC, vL, vT, vB, vS, vW⟩ := id hv
  obtain ⟨⟨hC, hL, hT, hB, hS, hW⟩, k1, k2, k3, k4, k5⟩ := id h
  obtain ⟨nC, hC⟩ := id hC
  obtain ⟨nL, hL, hL1, hL2, hL3⟩ := id hL
  obtain ⟨nT, hT⟩ := id hT
  obtain ⟨nB, hB⟩ := id hB
  obtain ⟨nS, hS, hS1⟩ := id hS
  obtain ⟨nW, hW, hW1, hW2⟩ := id hW
  have nC : M 2 0 = V 0 0 := nC
  have nL : M 2 3 = V 0 1 := nL
  have nT : M 8 0 = V 0 2 := nT
  have nB : M 8 3 = V 0 4 := nB
  have nS : M 16 0 = V 0 3 := nS
  have nW : M 22 0 = V 0 5 := nW
  refine qOk.kI (fun K hK => e_X7_free h1 h2 ?_)
  repeat' first | omega | intro zc | apply And.intro
  all_goals first | exact hK _ _ (xr (by unfold oFree; rw [if_neg (by omega)]) h) | refine hK _ _ ?_
  rw [qU_f (show (7 : Nat) ≠ 0 by decide), show M 7 l = V 5 l from hL2 _ (by omega) (by omega)]
  refine xs (by unfold oFree; rw [if_pos (by omega)]) (h.new ⟨by simpa [bv, qU_f, qU_g, fU_a] using h.1.1, ⟨by simpa [bv, qU_f, qU_g, fU_a] using nL, by simpa [bv, qU_f, qU_g, fU_a] using hL, by simpa [bv, qU_f, qU_g, fU_a] using hL1, fun j h0 h1 => ?_, fun j h0 h1 => ?_⟩, by simpa [bv, qU_f, qU_g, fU_a] using h.1.2.2.1, by simpa [bv, qU_f, qU_g, fU_a] using h.1.2.2.2.1, by simpa [bv, qU_f, qU_g, fU_a] using h.1.2.2.2.2.1, by simpa [bv, qU_f, qU_g, fU_a] using h.1.2.2.2.2.2⟩ (by simp [qU_f, qU_g]) (fun k _ _ => by rw [qU_f (by omega), qU_f (by omega)])) (fun k _ => by rw [qU_f (by omega), qU_f (by omega)])
  · simp [bv, qU_f, qU_g, fU_a] at h1 ⊢
    have := hL2 j h0 h1
    simp [bv] at this
    simp [this]
  · simp [bv, qU_f, qU_g, fU_a] at h0 ⊢
    have := hL3 j h0 h1
    simp [bv] at this
    rw [if_neg (by omega)]
    exact this
theorem m_free {g : qG} {d : Nat} {l b : Int} (h1 : qR l) (h2 : qR b) (M V Vk : qM) (kp rt : Int) (hv : voV V) (hrt : 1 ≤ rt ∧ rt ≤ 10) (h : Mi M V Vk kp rt) : qOk g (d + 2) j_X8_free [.inr 63, .inl l, .inl b] M (qI fun r M1 => r = (oFree l b V rt).1 ∧ Mi M1 (oFree l b V rt).2.1 Vk kp (oFree l b V rt).2.2 ∧ ∀ k, k < 63 → M1 k = M k) := by
  obtain ⟨hvn, vC, vL, vT, vB, vS, vW⟩ := id hv
  have m0 : M 64 = V 0 := h.1 0 (by decide)
  have m1 : M 65 = V 1 := h.1 1 (by decide)
  have m2 : M 66 = V 2 := h.1 2 (by decide)
  have m3 : M 67 = V 3 := h.1 3 (by decide)
  have m4 : M 68 = V 4 := h.1 4 (by decide)
  have m5 : M 69 = V 5 := h.1 5 (by decide)
  have m6 : M 70 = V 6 := h.1 6 (by decide)
  have m7 : M 71 = V 7 := h.1 7 (by decide)
  have m8 : M 72 = V 8 := h.1 8 (by decide)
  have m9 : M 73 = V 9 := h.1 9 (by decide)
  have m10 : M 74 = V 10 := h.1 10 (by decide)
  have m11 : M 75 = V 11 := h.1 11 (by decide)
  have m12 : M 76 = V 12 := h.1 12 (by decide)
  refine qOk.kI (fun K hK => e_X8_free h1 h2 ?_)
  simp only [m0, m5]
  repeat' first | omega | intro zc | apply And.intro
  all_goals first | exact hK _ _ (mr (by unfold oFree; rw [if_neg (by omega)]) h) | refine hK _ _ ?_
  exact ms (by unfold oFree; rw [if_pos (by omega)]) (h.new (miU (k := 5) h.1) (by simp [qU_f]) (by simp [qU_f])) (fun k _ => by rw [qU_f (by omega)])
theorem v_free {l b : Int} (V : qM) (rt : Int) (hv : voV V) (hrt : 1 ≤ rt ∧ rt ≤ 10) : voV (oFree l b V rt).2.1 ∧ (1 ≤ (oFree l b V rt).2.2 ∧ (oFree l b V rt).2.2 ≤ 10) := by
  obtain ⟨hvn, vC, vL, vT, vB, vS, vW⟩ := id hv
  unfold oFree
  split
  · refine ⟨⟨by simpa [voN, bv, qU_f, qU_g, fU_a] using hvn, by simpa [bv, qU_f, qU_g, fU_a] using vC, ⟨by simpa [bv, qU_f, qU_g, fU_a] using vL.1, fun j h0 h1 => ?_⟩, by simpa [bv, qU_f, qU_g, fU_a] using vT, by simpa [bv, qU_f, qU_g, fU_a] using vB, by simpa [bv, qU_f, qU_g, fU_a] using vS, by simpa [bv, qU_f, qU_g, fU_a] using vW⟩, hrt⟩
    simp [bv, qU_f, qU_g, fU_a] at h1 ⊢
    have := vL.2 j h0 h1
    by_cases z : j = l
    · simp [z]; omega
    · simp [z]; exact this
  · exact ⟨hv, hrt⟩
-- ratio
def oRatio (v : Int) (V : qM) (rt : Int) : Int × qM × Int := if 1 ≤ v ∧ v ≤ 10 then (rt, V, v) else (-1, V, rt)
theorem x_ratio {g : qG} {d : Nat} {v : Int} (h1 : qR v) (M V Vk : qM) (kp rt : Int) (hv : voV V) (hrt : 1 ≤ rt ∧ rt ≤ 10) (h : Xi M V Vk kp rt) : qOk g (d + 0) j_X7_ratio [.inr 0, .inl v] M (qI fun r M1 => r = (oRatio v V rt).1 ∧ Xi M1 (oRatio v V rt).2.1 Vk kp (oRatio v V rt).2.2 ∧ ∀ k, 63 ≤ k → M1 k = M k) := by
  refine qOk.kI (fun K hK => e_X7_ratio h1 ?_)
  refine ⟨fun c1 => hK _ _ ?_, fun c1 => ⟨fun c2 => hK _ _ ?_, fun c2 => hK _ _ ?_⟩⟩
  · exact xr (by unfold oRatio; rw [if_neg (by omega)]) h
  · obtain ⟨a1, a2, a3, a4, a5, a6⟩ := h
    rw [a4]
    refine xs (by unfold oRatio; rw [if_pos (by omega)]) ⟨bv_c (fun k _ _ => by rw [qU_f (by omega), qU_f (by omega)]) a1, by simpa [bv, qU_f, qU_g, fU_a] using a2, fun e => bv_c (fun k _ _ => by rw [qU_f (by omega), qU_f (by omega)]) (a3 e), by simp [bv, qU_f, qU_g, fU_a], by simp [bv, qU_f, qU_g, fU_a], by simp [bv, qU_f, qU_g, fU_a]⟩ (fun k _ => by rw [qU_f (by omega), qU_f (by omega)])
  · exact xr (by unfold oRatio; rw [if_neg (by omega)]) h
theorem m_ratio {g : qG} {d : Nat} {v : Int} (h1 : qR v) (M V Vk : qM) (kp rt : Int) (hv : voV V) (hrt : 1 ≤ rt ∧ rt ≤ 10) (h : Mi M V Vk kp rt) : qOk g (d + 1) j_X8_ratio [.inr 63, .inl v] M (qI fun r M1 => r = (oRatio v V rt).1 ∧ Mi M1 (oRatio v V rt).2.1 Vk kp (oRatio v V rt).2.2 ∧ ∀ k, k < 63 → M1 k = M k) := by
  refine qOk.kI (fun K hK => e_X8_ratio h1 ?_)
  refine ⟨fun c1 => hK _ _ ?_, fun c1 => hK _ _ ?_⟩
  · obtain ⟨a1, a2, a3, a4⟩ := h
    rw [a4]
    exact ms (by unfold oRatio; rw [if_pos (by omega)]) ⟨fun a ha => by rw [qU_f (by omega)]; exact a1 a ha, by simpa [bv, qU_f, qU_g, fU_a] using a2, by simpa [bv, qU_f, qU_g, fU_a] using a3, by simp [bv, qU_f, qU_g, fU_a]⟩ (fun k _ => by rw [qU_f (by omega)])
  · exact mr (by unfold oRatio; rw [if_neg (by omega)]) h
theorem v_ratio {v : Int} (V : qM) (rt : Int) (hv : voV V) (hrt : 1 ≤ rt ∧ rt ≤ 10) : voV (oRatio v V rt).2.1 ∧ (1 ≤ (oRatio v V rt).2.2 ∧ (oRatio v V rt).2.2 ≤ 10) := by
  unfold oRatio
  split
  · exact ⟨hv, by omega⟩
  · exact ⟨hv, hrt⟩
