/-! the calls that change the state -/
def oChild (a p : Int) (V : qM) (rt : Int) : Int × qM × Int := if (6 ≤ a ∧ a ≤ 18) ∧ (0 ≤ p ∧ p ≤ 3) then (if V 0 0 < 10 then (V 0 0, qU (qU (qU V 1 (V 0 0) a) 2 (V 0 0) p) 0 0 (V 0 0 + 1), rt) else (-2, V, rt)) else (-1, V, rt)
theorem x_child {g : qG} {d : Nat} {a p : Int} (ha : qR a) (hp : qR p) (M V Vk : qM) (kp rt : Int) (hv : voV V) (hrt : 1 ≤ rt ∧ rt ≤ 10) (h : Xi M V Vk kp rt) : qOk g (d + 1) j_X7_child [.inr 0, .inl a, .inl p] M (qI fun r M1 => r = (oChild a p V rt).1 ∧ Xi M1 (oChild a p V rt).2.1 Vk kp (oChild a p V rt).2.2 ∧ ∀ k, 63 ≤ k → M1 k = M k) := by
  obtain ⟨hvn, vC, vL, vT, vB, vS, vW⟩ := id hv
  obtain ⟨⟨hC, hL, hT, hB, hS, hW⟩, k1, k2, k3, k4, k5⟩ := id h
  obtain ⟨nC, hC⟩ := id hC
  obtain ⟨nL, hL, hL1, hL2, hL3⟩ := id hL
  obtain ⟨nT, hT⟩ := id hT
  obtain ⟨nB, hB⟩ := id hB
  obtain ⟨nS, hS, hS1⟩ := id hS
  obtain ⟨nW, hW, hW1, hW2⟩ := id hW
  have nC : M 2 0 = V 0 0 := nC
  have nL : M 2 3 = V 0 1 := nL
  have nT : M 8 0 = V 0 2 := nT
  have nB : M 8 3 = V 0 4 := nB
  have nS : M 16 0 = V 0 3 := nS
  have nW : M 22 0 = V 0 5 := nW
  refine e_X7_child ha hp ⟨fun c1 => ⟨fun c2 => ⟨fun c3 => ⟨by omega, by omega, ?_⟩, fun c3 => ?_⟩, fun c2 => ?_⟩, fun c1 => ?_⟩
  · rw [nC]
    refine xs (by unfold oChild; rw [if_pos (by omega), if_pos (by omega)]) (h.new ⟨⟨by simp [bv, qU_f, qU_g, fU_a], fun c h0 h1 => ?_⟩, by simpa [bv, qU_f, qU_g, fU_a] using h.1.2.1, by simpa [bv, qU_f, qU_g, fU_a] using h.1.2.2.1, by simpa [bv, qU_f, qU_g, fU_a] using h.1.2.2.2.1, by simpa [bv, qU_f, qU_g, fU_a] using h.1.2.2.2.2.1, by simpa [bv, qU_f, qU_g, fU_a] using h.1.2.2.2.2.2⟩ (by simp [qU_f, qU_g]) (fun k _ _ => by rw [qU_f (by omega), qU_f (by omega), qU_f (by omega), qU_f (by omega)])) (fun k _ => by rw [qU_f (by omega), qU_f (by omega), qU_f (by omega), qU_f (by omega)])
    simp [bv, qU_f, qU_g, fU_a] at h1 ⊢
    by_cases e : c = V 0 0
    · simp [e]
    · have := hC c h0 (by omega)
      simp [bv] at this
      simp [e, this]
  · exact xr (by unfold oChild; rw [if_pos (by omega), if_neg (by omega)]) h
  · exact xr (by unfold oChild; rw [if_neg (by omega)]) h
  · exact xr (by unfold oChild; rw [if_neg (by omega)]) h
theorem m_child {g : qG} {d : Nat} {a p : Int} (ha : qR a) (hp : qR p) (M V Vk : qM) (kp rt : Int) (hv : voV V) (hrt : 1 ≤ rt ∧ rt ≤ 10) (h : Mi M V Vk kp rt) : qOk g (d + 2) j_X8_child [.inr 63, .inl a, .inl p] M (qI fun r M1 => r = (oChild a p V rt).1 ∧ Mi M1 (oChild a p V rt).2.1 Vk kp (oChild a p V rt).2.2 ∧ ∀ k, k < 63 → M1 k = M k) := by
  obtain ⟨hvn, vC, vL, vT, vB, vS, vW⟩ := id hv
  have m0 : M 64 = V 0 := h.1 0 (by decide)
  have m1 : M 65 = V 1 := h.1 1 (by decide)
  have m2 : M 66 = V 2 := h.1 2 (by decide)
  have m3 : M 67 = V 3 := h.1 3 (by decide)
  have m4 : M 68 = V 4 := h.1 4 (by decide)
  have m5 : M 69 = V 5 := h.1 5 (by decide)
  have m6 : M 70 = V 6 := h.1 6 (by decide)
  have m7 : M 71 = V 7 := h.1 7 (by decide)
  have m8 : M 72 = V 8 := h.1 8 (by decide)
  have m9 : M 73 = V 9 := h.1 9 (by decide)
  have m10 : M 74 = V 10 := h.1 10 (by decide)
  have m11 : M 75 = V 11 := h.1 11 (by decide)
  have m12 : M 76 = V 12 := h.1 12 (by decide)
  refine qOk.kI (fun K hK => e_X8_child ha hp ?_)
  simp only [qU_f (show (64 : Nat) ≠ 65 by decide), qU_f (show (64 : Nat) ≠ 66 by decide), m0]
  refine ⟨fun c1 => ⟨fun c2 => ⟨fun c3 => ⟨by omega, by omega, by omega, hK _ _ ?_⟩, fun c3 => hK _ _ ?_⟩, fun c2 => hK _ _ ?_⟩, fun c1 => hK _ _ ?_⟩
  · exact ms (by unfold oChild; rw [if_pos (by omega), if_pos (by omega)]) (h.new (miU (k := 0) (miU (k := 2) (miU (k := 1) h.1))) (by simp [qU_f]) (by simp [qU_f])) (fun k _ => by rw [qU_f (by omega), qU_f (by omega), qU_f (by omega)])
  · exact mr (by unfold oChild; rw [if_pos (by omega), if_neg (by omega)]) h
  · exact mr (by unfold oChild; rw [if_neg (by omega)]) h
  · exact mr (by unfold oChild; rw [if_neg (by omega)]) h
theorem v_child {a p : Int} (V : qM) (rt : Int) (hv : voV V) (hrt : 1 ≤ rt ∧ rt ≤ 10) : voV (oChild a p V rt).2.1 ∧ (1 ≤ (oChild a p V rt).2.2 ∧ (oChild a p V rt).2.2 ≤ 10) := by
  obtain ⟨hvn, vC, vL, vT, vB, vS, vW⟩ := id hv
  unfold oChild
  by_cases c1 : (6 ≤ a ∧ a ≤ 18) ∧ (0 ≤ p ∧ p ≤ 3)
  · rw [if_pos c1]
    by_cases c2 : V 0 0 < 10
    · rw [if_pos c2]
      refine ⟨⟨?_, fun c h0 h1 => ?_, by simpa [bv, qU_f, qU_g, fU_a] using vL, by simpa [bv, qU_f, qU_g, fU_a] using vT, by simpa [bv, qU_f, qU_g, fU_a] using vB, fun i h0 h1 => ?_, by simpa [bv, qU_f, qU_g, fU_a] using vW⟩, hrt⟩
      · simp [voN, bv, qU_f, qU_g, fU_a]; omega
      · simp [bv, qU_f, qU_g, fU_a] at h1 ⊢
        by_cases e : c = V 0 0
        · simp [e]; omega
        · simp [e]; exact vC c h0 (by omega)
      · simp [bv, qU_f, qU_g, fU_a] at h1 ⊢
        have := vS i h0 h1
        omega
    · rw [if_neg c2]; exact ⟨hv, hrt⟩
  · rw [if_neg c1]; exact ⟨hv, hrt⟩
-- change
def oChange (c w v : Int) (V : qM) (rt : Int) : Int × qM × Int := if 0 ≤ c ∧ c < V 0 0 then (if w = 0 ∧ (6 ≤ v ∧ v ≤ 18) then (V 1 c, qU V 1 c v, rt) else if w = 1 ∧ (0 ≤ v ∧ v ≤ 3) then (V 2 c, qU V 2 c v, rt) else (-1, V, rt)) else (-1, V, rt)
theorem x_change {g : qG} {d : Nat} {c w v : Int} (hc : qR c) (hw : qR w) (hv0 : qR v) (M V Vk : qM) (kp rt : Int) (hv : voV V) (hrt : 1 ≤ rt ∧ rt ≤ 10) (h : Xi M V Vk kp rt) : qOk g (d + 2) j_X7_change [.inr 0, .inl c, .inl w, .inl v] M (qI fun r M1 => r = (oChange c w v V rt).1 ∧ Xi M1 (oChange c w v V rt).2.1 Vk kp (oChange c w v V rt).2.2 ∧ ∀ k, 63 ≤ k → M1 k = M k) := by
  obtain ⟨hvn, vC, vL, vT, vB, vS, vW⟩ := id hv
  obtain ⟨⟨hC, hL, hT, hB, hS, hW⟩, k1, k2, k3, k4, k5⟩ := id h
  obtain ⟨nC, hC⟩ := id hC
  obtain ⟨nL, hL, hL1, hL2, hL3⟩ := id hL
  obtain ⟨nT, hT⟩ := id hT
  obtain ⟨nB, hB⟩ := id hB
  obtain ⟨nS, hS, hS1⟩ := id hS
  obtain ⟨nW, hW, hW1, hW2⟩ := id hW
  have nC : M 2 0 = V 0 0 := nC
  have nL : M 2 3 = V 0 1 := nL
  have nT : M 8 0 = V 0 2 := nT
  have nB : M 8 3 = V 0 4 := nB
  have nS : M 16 0 = V 0 3 := nS
  have nW : M 22 0 = V 0 5 := nW
  have q1 : (0 ≤ c ∧ c < V 0 0) → M 3 c = V 1 c ∧ M 4 c = V 2 c := fun z => hC c z.1 z.2
  have l2 : w = 1 → (0 ≤ v ∧ v < 4) → (0 ≤ c ∧ c < V 0 0) → (qU M 0 5 1) 4 c = (oChange c w v V rt).1 ∧ Xi (qU (qU M 0 5 1) 4 c v) (oChange c w v V rt).2.1 Vk kp (oChange c w v V rt).2.2 ∧ ∀ k, 63 ≤ k → (qU (qU M 0 5 1) 4 c v) k = M k := by
    intro c1 c2 c3
    rw [qU_f (show (4 : Nat) ≠ 0 by decide), (q1 c3).2]
    refine xs (by unfold oChange; rw [if_pos c3, if_neg (by omega), if_pos (by omega)]) (h.new ⟨⟨by simpa [bv, qU_f, qU_g, fU_a] using nC, fun i h0 h1 => ?_⟩, by simpa [bv, qU_f, qU_g, fU_a] using h.1.2.1, by simpa [bv, qU_f, qU_g, fU_a] using h.1.2.2.1, by simpa [bv, qU_f, qU_g, fU_a] using h.1.2.2.2.1, by simpa [bv, qU_f, qU_g, fU_a] using h.1.2.2.2.2.1, by simpa [bv, qU_f, qU_g, fU_a] using h.1.2.2.2.2.2⟩ (by simp [qU_f, qU_g]) (fun k _ _ => by rw [qU_f (by omega), qU_f (by omega)])) (fun k _ => by rw [qU_f (by omega), qU_f (by omega)])
    simp [bv, qU_f, qU_g, fU_a] at h1 ⊢
    have := hC i h0 h1
    simp [bv] at this
    simp [this]
  refine e_X7_change hc hw hv0 ⟨fun c1 => ⟨fun c2 => ⟨fun c3 => ?_, fun c3 => ⟨fun c4 => ⟨by omega, l2 c3 c4 (by omega)⟩, fun c4 => ?_⟩⟩, fun c2 => ⟨fun c3 => ⟨by omega, ?_⟩, fun c3 => ⟨fun c4 => ?_, fun c4 => absurd c4 (by omega)⟩⟩⟩, fun c1 => ?_⟩
  · exact xr (by unfold oChange; rw [if_pos (by omega), if_neg (by omega), if_neg (by omega)]) h
  · exact xr (by unfold oChange; rw [if_pos (by omega), if_neg (by omega), if_neg (by omega)]) h
  · rw [(q1 (by omega)).1]
    refine xs (by unfold oChange; rw [if_pos (by omega), if_pos (by omega)]) (h.old ⟨⟨by simpa [bv, qU_f, qU_g, fU_a] using nC, fun i h0 h1 => ?_⟩, by simpa [bv, qU_f, qU_g, fU_a] using h.1.2.1, by simpa [bv, qU_f, qU_g, fU_a] using h.1.2.2.1, by simpa [bv, qU_f, qU_g, fU_a] using h.1.2.2.2.1, by simpa [bv, qU_f, qU_g, fU_a] using h.1.2.2.2.2.1, by simpa [bv, qU_f, qU_g, fU_a] using h.1.2.2.2.2.2⟩ (by simp [qU_f]) (fun k _ _ => by rw [qU_f (by omega)]) (by unfold pxV szV rmV; simp [bv, qU_f, qU_g, fU_a])) (fun k _ => by rw [qU_f (by omega)])
    simp [bv, qU_f, qU_g, fU_a] at h1 ⊢
    have := hC i h0 h1
    simp [bv] at this
    simp [this]
  · exact xr (by unfold oChange; rw [if_pos (by omega), if_neg (by omega), if_neg (by omega)]) h
  · exact xr (by unfold oChange; rw [if_neg (by omega)]) h
theorem m_change {g : qG} {d : Nat} {c w v : Int} (hc : qR c) (hw : qR w) (hv0 : qR v) (M V Vk : qM) (kp rt : Int) (hv : voV V) (hrt : 1 ≤ rt ∧ rt ≤ 10) (h : Mi M V Vk kp rt) : qOk g (d + 2) j_X8_change [.inr 63, .inl c, .inl w, .inl v] M (qI fun r M1 => r = (oChange c w v V rt).1 ∧ Mi M1 (oChange c w v V rt).2.1 Vk kp (oChange c w v V rt).2.2 ∧ ∀ k, k < 63 → M1 k = M k) := by
  obtain ⟨hvn, vC, vL, vT, vB, vS, vW⟩ := id hv
  have m0 : M 64 = V 0 := h.1 0 (by decide)
  have m1 : M 65 = V 1 := h.1 1 (by decide)
  have m2 : M 66 = V 2 := h.1 2 (by decide)
  have m3 : M 67 = V 3 := h.1 3 (by decide)
  have m4 : M 68 = V 4 := h.1 4 (by decide)
  have m5 : M 69 = V 5 := h.1 5 (by decide)
  have m6 : M 70 = V 6 := h.1 6 (by decide)
  have m7 : M 71 = V 7 := h.1 7 (by decide)
  have m8 : M 72 = V 8 := h.1 8 (by decide)
  have m9 : M 73 = V 9 := h.1 9 (by decide)
  have m10 : M 74 = V 10 := h.1 10 (by decide)
  have m11 : M 75 = V 11 := h.1 11 (by decide)
  have m12 : M 76 = V 12 := h.1 12 (by decide)
  have r0 : (w < 0 ∨ 1 < w ∨ (w = 0 ∧ (v < 6 ∨ 18 < v)) ∨ (w = 1 ∧ (v < 0 ∨ 3 < v)) ∨ c < 0 ∨ V 0 0 ≤ c) → oChange c w v V rt = (-1, V, rt) := by
    intro z
    unfold oChange
    by_cases z1 : 0 ≤ c ∧ c < V 0 0
    · rw [if_pos z1, if_neg (by omega), if_neg (by omega)]
    · rw [if_neg z1]
  refine qOk.kI (fun K hK => e_X8_change hc hw hv0 ?_)
  simp only [m0, m1, m2]
  refine ⟨by omega, fun c1 => ⟨fun c2 => ⟨fun c3 => ⟨fun c4 => ⟨fun c5 => ⟨fun c6 => ⟨by omega, fun c7 => hK _ _ ?_, fun c7 => absurd c7 c6⟩, fun c6 => absurd c6 c4⟩, fun c5 => hK _ _ (mr (r0 (by omega)) h)⟩, fun c4 => absurd c4 c3⟩, fun c3 => ⟨fun c4 => absurd c3 c4, fun c4 => ⟨fun c5 => ⟨fun c6 => absurd c4 c6, fun c6 => ⟨by omega, fun c7 => absurd c6 c7, fun c7 => hK _ _ ?_⟩⟩, fun c5 => hK _ _ (mr (r0 (by omega)) h)⟩⟩⟩, fun c2 => hK _ _ (mr (r0 (by omega)) h)⟩, fun c1 => hK _ _ (mr (r0 (by omega)) h)⟩
  · exact ms (by unfold oChange; rw [if_pos (by omega), if_neg (by omega), if_pos (by omega)]) (h.new (miU (k := 2) h.1) (by simp [qU_f]) (by simp [qU_f])) (fun k _ => by rw [qU_f (by omega)])
  · exact ms (by unfold oChange; rw [if_pos (by omega), if_pos (by omega)]) (h.new (miU (k := 1) h.1) (by simp [qU_f]) (by simp [qU_f])) (fun k _ => by rw [qU_f (by omega)])
theorem v_change {c w v : Int} (V : qM) (rt : Int) (hv : voV V) (hrt : 1 ≤ rt ∧ rt ≤ 10) : voV (oChange c w v V rt).2.1 ∧ (1 ≤ (oChange c w v V rt).2.2 ∧ (oChange c w v V rt).2.2 ≤ 10) := by
  obtain ⟨hvn, vC, vL, vT, vB, vS, vW⟩ := id hv
  unfold oChange
  by_cases c1 : 0 ≤ c ∧ c < V 0 0
  · rw [if_pos c1]
    by_cases c2 : w = 0 ∧ (6 ≤ v ∧ v ≤ 18)
    · rw [if_pos c2]
      refine ⟨⟨by simpa [voN, bv, qU_f, qU_g, fU_a] using hvn, fun i h0 h1 => ?_, by simpa [bv, qU_f, qU_g, fU_a] using vL, by simpa [bv, qU_f, qU_g, fU_a] using vT, by simpa [bv, qU_f, qU_g, fU_a] using vB, by simpa [bv, qU_f, qU_g, fU_a] using vS, by simpa [bv, qU_f, qU_g, fU_a] using vW⟩, hrt⟩
      simp [bv, qU_f, qU_g, fU_a] at h1 ⊢
      have := vC i h0 h1
      by_cases e : i = c
      · simp [e] at this ⊢; omega
      · simp [e]; exact this
    · rw [if_neg c2]
      by_cases c3 : w = 1 ∧ (0 ≤ v ∧ v ≤ 3)
      · rw [if_pos c3]
        refine ⟨⟨by simpa [voN, bv, qU_f, qU_g, fU_a] using hvn, fun i h0 h1 => ?_, by simpa [bv, qU_f, qU_g, fU_a] using vL, by simpa [bv, qU_f, qU_g, fU_a] using vT, by simpa [bv, qU_f, qU_g, fU_a] using vB, by simpa [bv, qU_f, qU_g, fU_a] using vS, by simpa [bv, qU_f, qU_g, fU_a] using vW⟩, hrt⟩
        simp [bv, qU_f, qU_g, fU_a] at h1 ⊢
        have := vC i h0 h1
        by_cases e : i = c
        · simp [e] at this ⊢; omega
        · simp [e]; exact this
      · rw [if_neg c3]; exact ⟨hv, hrt⟩
  · rw [if_neg c1]; exact ⟨hv, hrt⟩
