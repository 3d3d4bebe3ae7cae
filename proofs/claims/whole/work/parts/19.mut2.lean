/-! the calls that change the state, on -/
def f5 (f : Int → Int) (n a b c d e : Int) : Int → Int := fU (fU (fU (fU (fU f (5 * n) a) (5 * n + 1) b) (5 * n + 2) c) (5 * n + 3) d) (5 * n + 4) e
theorem f5_at (f : Int → Int) (n a b c d e : Int) : f5 f n a b c d e (5 * n) = a ∧ f5 f n a b c d e (5 * n + 1) = b ∧ f5 f n a b c d e (5 * n + 2) = c ∧ f5 f n a b c d e (5 * n + 3) = d ∧ f5 f n a b c d e (5 * n + 4) = e := by
  simp only [f5, fU_a]
  refine ⟨?_, ?_, ?_, ?_, ?_⟩
  · rw [if_neg (by omega), if_neg (by omega), if_neg (by omega), if_neg (by omega), if_pos trivial]
  · rw [if_neg (by omega), if_neg (by omega), if_neg (by omega), if_pos trivial]
  · rw [if_neg (by omega), if_neg (by omega), if_pos trivial]
  · rw [if_neg (by omega), if_pos trivial]
  · rw [if_pos trivial]
theorem f5_o (f : Int → Int) {n a b c d e i : Int} (h : i ≠ n) : f5 f n a b c d e (5 * i) = f (5 * i) ∧ f5 f n a b c d e (5 * i + 1) = f (5 * i + 1) ∧ f5 f n a b c d e (5 * i + 2) = f (5 * i + 2) ∧ f5 f n a b c d e (5 * i + 3) = f (5 * i + 3) ∧ f5 f n a b c d e (5 * i + 4) = f (5 * i + 4) := by
  simp only [f5, fU_a]
  refine ⟨?_, ?_, ?_, ?_, ?_⟩ <;> rw [if_neg (by omega), if_neg (by omega), if_neg (by omega), if_neg (by omega), if_neg (by omega)]
-- paper
def oPaper (l s f t : Int) (V : qM) (rt : Int) : Int × qM × Int := if (0 ≤ l ∧ l < V 0 1) ∧ (0 ≤ s ∧ s ≤ 3) ∧ (0 ≤ f ∧ f ≤ 999) ∧ (0 ≤ t ∧ t ≤ 999) ∧ f ≤ t then (1, qU (qU V 3 (4 * l + s) f) 4 (4 * l + s) t, rt) else (-1, V, rt)
theorem x_paper {g : qG} {d : Nat} {l s f t : Int} (h1 : qR l) (h2 : qR s) (h3 : qR f) (h4 : qR t) (M V Vk : qM) (kp rt : Int) (hv : voV V) (hrt : 1 ≤ rt ∧ rt ≤ 10) (h : Xi M V Vk kp rt) : qOk g (d + 2) j_X7_paper [.inr 0, .inl l, .inl s, .inl f, .inl t] M (qI fun r M1 => r = (oPaper l s f t V rt).1 ∧ Xi M1 (oPaper l s f t V rt).2.1 Vk kp (oPaper l s f t V rt).2.2 ∧ ∀ k, 63 ≤ k → M1 k = M k) := by
  obtain ⟨hvn, vC, vL, vT, vB, vS, vW⟩ := id hv
  obtain ⟨⟨hC, hL, hT, hB, hS, hW⟩, k1, k2, k3, k4, k5⟩ := id h
  obtain ⟨nC, hC⟩ := id hC
  obtain ⟨nL, hL, hL1, hL2, hL3⟩ := id hL
  obtain ⟨nT, hT⟩ := id hT
  obtain ⟨nB, hB⟩ := id hB
  obtain ⟨nS, hS, hS1⟩ := id hS
  obtain ⟨nW, hW, hW1, hW2⟩ := id hW
  have nC : M 2 0 = V 0 0 := nC
  have nL : M 2 3 = V 0 1 := nL
  have nT : M 8 0 = V 0 2 := nT
  have nB : M 8 3 = V 0 4 := nB
  have nS : M 16 0 = V 0 3 := nS
  have nW : M 22 0 = V 0 5 := nW
  refine qOk.kI (fun K hK => e_X7_paper h1 h2 h3 h4 ?_)
  repeat' first | omega | intro zc | apply And.intro
  all_goals first | exact hK _ _ (xr (by unfold oPaper; rw [if_neg (by omega)]) h) | refine hK _ _ ?_
  rw [show l * 4 + s = 4 * l + s by omega]
  refine xs (by unfold oPaper; rw [if_pos (by omega)]) (h.old ⟨by simpa [bv, qU_f, qU_g, fU_a] using h.1.1, ⟨by simpa [bv, qU_f, qU_g, fU_a] using nL, fun j h0 h1 => ?_, fun j h0 h1 => ?_, by simpa [bv, qU_f, qU_g, fU_a] using hL2, by simpa [bv, qU_f, qU_g, fU_a] using hL3⟩, by simpa [bv, qU_f, qU_g, fU_a] using h.1.2.2.1, by simpa [bv, qU_f, qU_g, fU_a] using h.1.2.2.2.1, by simpa [bv, qU_f, qU_g, fU_a] using h.1.2.2.2.2.1, by simpa [bv, qU_f, qU_g, fU_a] using h.1.2.2.2.2.2⟩ (by simp [qU_f]) (fun k _ _ => by rw [qU_f (by omega), qU_f (by omega)]) (by unfold pxV szV rmV; simp [bv, qU_f, qU_g, fU_a])) (fun k _ => by rw [qU_f (by omega), qU_f (by omega)])
  · simp [bv, qU_f, qU_g, fU_a] at h1 ⊢
    have := hL j h0 h1
    simp [bv] at this
    by_cases e : j = 4 * l + s
    · simp [e]; omega
    · simp [e]; exact this
  · simp [bv, qU_f, qU_g, fU_a] at h0 ⊢
    have := hL1 j h0 h1
    simp [bv] at this
    rw [if_neg (by omega), if_neg (by omega)]
    exact this
theorem m_paper {g : qG} {d : Nat} {l s f t : Int} (h1 : qR l) (h2 : qR s) (h3 : qR f) (h4 : qR t) (M V Vk : qM) (kp rt : Int) (hv : voV V) (hrt : 1 ≤ rt ∧ rt ≤ 10) (h : Mi M V Vk kp rt) : qOk g (d + 2) j_X8_paper [.inr 63, .inl l, .inl s, .inl f, .inl t] M (qI fun r M1 => r = (oPaper l s f t V rt).1 ∧ Mi M1 (oPaper l s f t V rt).2.1 Vk kp (oPaper l s f t V rt).2.2 ∧ ∀ k, k < 63 → M1 k = M k) := by
  obtain ⟨hvn, vC, vL, vT, vB, vS, vW⟩ := id hv
  have m0 : M 64 = V 0 := h.1 0 (by decide)
  have m1 : M 65 = V 1 := h.1 1 (by decide)
  have m2 : M 66 = V 2 := h.1 2 (by decide)
  have m3 : M 67 = V 3 := h.1 3 (by decide)
  have m4 : M 68 = V 4 := h.1 4 (by decide)
  have m5 : M 69 = V 5 := h.1 5 (by decide)
  have m6 : M 70 = V 6 := h.1 6 (by decide)
  have m7 : M 71 = V 7 := h.1 7 (by decide)
  have m8 : M 72 = V 8 := h.1 8 (by decide)
  have m9 : M 73 = V 9 := h.1 9 (by decide)
  have m10 : M 74 = V 10 := h.1 10 (by decide)
  have m11 : M 75 = V 11 := h.1 11 (by decide)
  have m12 : M 76 = V 12 := h.1 12 (by decide)
  refine qOk.kI (fun K hK => e_X8_paper h1 h2 h3 h4 ?_)
  simp only [m0]
  repeat' first | omega | intro zc | apply And.intro
  all_goals first | exact hK _ _ (mr (by unfold oPaper; rw [if_neg (by omega)]) h) | refine hK _ _ ?_
  exact ms (by unfold oPaper; rw [if_pos (by omega)]) (h.new (miU (k := 4) (miU (k := 3) h.1)) (by simp [qU_f]) (by simp [qU_f])) (fun k _ => by rw [qU_f (by omega), qU_f (by omega)])
theorem v_paper {l s f t : Int} (V : qM) (rt : Int) (hv : voV V) (hrt : 1 ≤ rt ∧ rt ≤ 10) : voV (oPaper l s f t V rt).2.1 ∧ (1 ≤ (oPaper l s f t V rt).2.2 ∧ (oPaper l s f t V rt).2.2 ≤ 10) := by
  obtain ⟨hvn, vC, vL, vT, vB, vS, vW⟩ := id hv
  unfold oPaper
  split
  · refine ⟨⟨by simpa [voN, bv, qU_f, qU_g, fU_a] using hvn, by simpa [bv, qU_f, qU_g, fU_a] using vC, ⟨fun j h0 h1 => ?_, by simpa [bv, qU_f, qU_g, fU_a] using vL.2⟩, by simpa [bv, qU_f, qU_g, fU_a] using vT, by simpa [bv, qU_f, qU_g, fU_a] using vB, by simpa [bv, qU_f, qU_g, fU_a] using vS, by simpa [bv, qU_f, qU_g, fU_a] using vW⟩, hrt⟩
    simp [bv, qU_f, qU_g, fU_a] at h1 ⊢
    have := vL.1 j h0 h1
    by_cases e : j = 4 * l + s
    · simp [e]; omega
    · simp [e]; exact this
  · exact ⟨hv, hrt⟩
-- lose
def oLose (l s : Int) (V : qM) (rt : Int) : Int × qM × Int := if (0 ≤ l ∧ l < V 0 1) ∧ (0 ≤ s ∧ s ≤ 3) then (if 0 ≤ V 3 (4 * l + s) then (1, qU V 3 (4 * l + s) (-1), rt) else (-3, V, rt)) else (-1, V, rt)
theorem x_lose {g : qG} {d : Nat} {l s : Int} (h1 : qR l) (h2 : qR s) (M V Vk : qM) (kp rt : Int) (hv : voV V) (hrt : 1 ≤ rt ∧ rt ≤ 10) (h : Xi M V Vk kp rt) : qOk g (d + 2) j_X7_lose [.inr 0, .inl l, .inl s] M (qI fun r M1 => r = (oLose l s V rt).1 ∧ Xi M1 (oLose l s V rt).2.1 Vk kp (oLose l s V rt).2.2 ∧ ∀ k, 63 ≤ k → M1 k = M k) := by
  obtain ⟨hvn, vC, vL, vT, vB, vS, vW⟩ := id hv
  obtain ⟨⟨hC, hL, hT, hB, hS, hW⟩, k1, k2, k3, k4, k5⟩ := id h
  obtain ⟨nC, hC⟩ := id hC
  obtain ⟨nL, hL, hL1, hL2, hL3⟩ := id hL
  obtain ⟨nT, hT⟩ := id hT
  obtain ⟨nB, hB⟩ := id hB
  obtain ⟨nS, hS, hS1⟩ := id hS
  obtain ⟨nW, hW, hW1, hW2⟩ := id hW
  have nC : M 2 0 = V 0 0 := nC
  have nL : M 2 3 = V 0 1 := nL
  have nT : M 8 0 = V 0 2 := nT
  have nB : M 8 3 = V 0 4 := nB
  have nS : M 16 0 = V 0 3 := nS
  have nW : M 22 0 = V 0 5 := nW
  have q1 : (0 ≤ l ∧ l < V 0 1) → (0 ≤ s ∧ s ≤ 3) → M 5 (4 * l + s) = V 3 (4 * l + s) ∧ -1 ≤ V 3 (4 * l + s) := fun z1 z2 => ⟨(hL _ (by omega) (by omega)).1, (vL.1 _ (by omega) (by omega)).1.1⟩
  refine qOk.kI (fun K hK => e_X7_lose h1 h2 ?_)
  rw [show l * 4 + s = 4 * l + s by omega]
  refine ⟨fun c1 => ⟨fun c2 => ⟨by omega, fun c3 => hK _ _ ?_, fun c3 => hK _ _ ?_⟩, fun c2 => hK _ _ ?_⟩, fun c1 => hK _ _ ?_⟩
  · have q := q1 (by omega) (by omega)
    refine xs (by unfold oLose; rw [if_pos (by omega), if_pos (by omega)]) (h.old ⟨by simpa [bv, qU_f, qU_g, fU_a] using h.1.1, ⟨by simpa [bv, qU_f, qU_g, fU_a] using nL, fun j h0 h1 => ?_, fun j h0 h1 => ?_, by simpa [bv, qU_f, qU_g, fU_a] using hL2, by simpa [bv, qU_f, qU_g, fU_a] using hL3⟩, by simpa [bv, qU_f, qU_g, fU_a] using h.1.2.2.1, by simpa [bv, qU_f, qU_g, fU_a] using h.1.2.2.2.1, by simpa [bv, qU_f, qU_g, fU_a] using h.1.2.2.2.2.1, by simpa [bv, qU_f, qU_g, fU_a] using h.1.2.2.2.2.2⟩ (by simp [qU_f]) (fun k _ _ => by rw [qU_f (by omega), qU_f (by omega)]) (by unfold pxV szV rmV; simp [bv, qU_f, qU_g, fU_a])) (fun k _ => by rw [qU_f (by omega), qU_f (by omega)])
    · simp [bv, qU_f, qU_g, fU_a] at h1 ⊢
      have := hL j h0 h1
      simp [bv] at this
      by_cases e : j = 4 * l + s
      · simp [e]
      · simp [e]; exact this
    · simp [bv, qU_f, qU_g, fU_a] at h0 ⊢
      have := hL1 j h0 h1
      simp [bv] at this
      exact ⟨fun _ => this.1, fun _ => this.2⟩
  · have q := q1 (by omega) (by omega)
    exact xr (by unfold oLose; rw [if_pos (by omega), if_neg (by omega)]) h
  · exact xr (by unfold oLose; rw [if_neg (by omega)]) h
  · exact xr (by unfold oLose; rw [if_neg (by omega)]) h
theorem m_lose {g : qG} {d : Nat} {l s : Int} (h1 : qR l) (h2 : qR s) (M V Vk : qM) (kp rt : Int) (hv : voV V) (hrt : 1 ≤ rt ∧ rt ≤ 10) (h : Mi M V Vk kp rt) : qOk g (d + 2) j_X8_lose [.inr 63, .inl l, .inl s] M (qI fun r M1 => r = (oLose l s V rt).1 ∧ Mi M1 (oLose l s V rt).2.1 Vk kp (oLose l s V rt).2.2 ∧ ∀ k, k < 63 → M1 k = M k) := by
  obtain ⟨hvn, vC, vL, vT, vB, vS, vW⟩ := id hv
  have m0 : M 64 = V 0 := h.1 0 (by decide)
  have m1 : M 65 = V 1 := h.1 1 (by decide)
  have m2 : M 66 = V 2 := h.1 2 (by decide)
  have m3 : M 67 = V 3 := h.1 3 (by decide)
  have m4 : M 68 = V 4 := h.1 4 (by decide)
  have m5 : M 69 = V 5 := h.1 5 (by decide)
  have m6 : M 70 = V 6 := h.1 6 (by decide)
  have m7 : M 71 = V 7 := h.1 7 (by decide)
  have m8 : M 72 = V 8 := h.1 8 (by decide)
  have m9 : M 73 = V 9 := h.1 9 (by decide)
  have m10 : M 74 = V 10 := h.1 10 (by decide)
  have m11 : M 75 = V 11 := h.1 11 (by decide)
  have m12 : M 76 = V 12 := h.1 12 (by decide)
  refine qOk.kI (fun K hK => e_X8_lose h1 h2 ?_)
  simp only [m0, m3]
  refine ⟨by omega, fun c1 => ⟨fun c2 => ⟨by omega, fun c3 => hK _ _ ?_, fun c3 => hK _ _ ?_⟩, fun c2 => hK _ _ ?_⟩, fun c1 => hK _ _ ?_⟩
  · exact ms (by unfold oLose; rw [if_pos (by omega), if_pos (by omega)]) (h.new (miU (k := 3) h.1) (by simp [qU_f]) (by simp [qU_f])) (fun k _ => by rw [qU_f (by omega)])
  · exact mr (by unfold oLose; rw [if_pos (by omega), if_neg (by omega)]) h
  · exact mr (by unfold oLose; rw [if_neg (by omega)]) h
  · exact mr (by unfold oLose; rw [if_neg (by omega)]) h
theorem v_lose {l s : Int} (V : qM) (rt : Int) (hv : voV V) (hrt : 1 ≤ rt ∧ rt ≤ 10) : voV (oLose l s V rt).2.1 ∧ (1 ≤ (oLose l s V rt).2.2 ∧ (oLose l s V rt).2.2 ≤ 10) := by
  obtain ⟨hvn, vC, vL, vT, vB, vS, vW⟩ := id hv
  unfold oLose
  split
  · split
    · refine ⟨⟨by simpa [voN, bv, qU_f, qU_g, fU_a] using hvn, by simpa [bv, qU_f, qU_g, fU_a] using vC, ⟨fun j h0 h1 => ?_, by simpa [bv, qU_f, qU_g, fU_a] using vL.2⟩, by simpa [bv, qU_f, qU_g, fU_a] using vT, by simpa [bv, qU_f, qU_g, fU_a] using vB, by simpa [bv, qU_f, qU_g, fU_a] using vS, by simpa [bv, qU_f, qU_g, fU_a] using vW⟩, hrt⟩
      simp [bv, qU_f, qU_g, fU_a] at h1 ⊢
      have := vL.1 j h0 h1
      by_cases e : j = 4 * l + s
      · simp [e]
      · simp [e]; exact this
    · exact ⟨hv, hrt⟩
  · exact ⟨hv, hrt⟩
-- task
def oTask (s e : Int) (V : qM) (rt : Int) : Int × qM × Int := if (0 ≤ s ∧ s ≤ 3) ∧ (e = -1 ∨ (0 ≤ e ∧ e < V 0 2)) then (if V 0 2 < 10 then (V 0 2, qU (qU (qU V 6 (V 0 2) s) 7 (V 0 2) e) 0 2 (V 0 2 + 1), rt) else (-2, V, rt)) else (-1, V, rt)
theorem x_task {g : qG} {d : Nat} {s e : Int} (h1 : qR s) (h2 : qR e) (M V Vk : qM) (kp rt : Int) (hv : voV V) (hrt : 1 ≤ rt ∧ rt ≤ 10) (h : Xi M V Vk kp rt) : qOk g (d + 2) j_X7_task [.inr 0, .inl s, .inl e] M (qI fun r M1 => r = (oTask s e V rt).1 ∧ Xi M1 (oTask s e V rt).2.1 Vk kp (oTask s e V rt).2.2 ∧ ∀ k, 63 ≤ k → M1 k = M k) := by
  obtain ⟨hvn, vC, vL, vT, vB, vS, vW⟩ := id hv
  obtain ⟨⟨hC, hL, hT, hB, hS, hW⟩, k1, k2, k3, k4, k5⟩ := id h
  obtain ⟨nC, hC⟩ := id hC
  obtain ⟨nL, hL, hL1, hL2, hL3⟩ := id hL
  obtain ⟨nT, hT⟩ := id hT
  obtain ⟨nB, hB⟩ := id hB
  obtain ⟨nS, hS, hS1⟩ := id hS
  obtain ⟨nW, hW, hW1, hW2⟩ := id hW
  have nC : M 2 0 = V 0 0 := nC
  have nL : M 2 3 = V 0 1 := nL
  have nT : M 8 0 = V 0 2 := nT
  have nB : M 8 3 = V 0 4 := nB
  have nS : M 16 0 = V 0 3 := nS
  have nW : M 22 0 = V 0 5 := nW
  refine qOk.kI (fun K hK => e_X7_task h1 h2 ?_)
  rw [nT]
  repeat' first | omega | intro zc | apply And.intro
  all_goals first | exact hK _ _ (xr (by unfold oTask; rw [if_neg (by omega)]) h) | exact hK _ _ (xr (by unfold oTask; rw [if_pos (by omega), if_neg (by omega)]) h) | refine hK _ _ ?_
  all_goals
    refine xs (by unfold oTask; rw [if_pos (by omega), if_pos (by omega)]) (h.old ⟨by simpa [bv, qU_f, qU_g, fU_a] using h.1.1, by simpa [bv, qU_f, qU_g, fU_a] using h.1.2.1, ⟨by simp [bv, qU_f, qU_g, fU_a], fun j h0 h1 => ?_⟩, by simpa [bv, qU_f, qU_g, fU_a] using h.1.2.2.2.1, by simpa [bv, qU_f, qU_g, fU_a] using h.1.2.2.2.2.1, by simpa [bv, qU_f, qU_g, fU_a] using h.1.2.2.2.2.2⟩ (by simp [qU_f]) (fun k _ _ => by rw [qU_f (by omega), qU_f (by omega), qU_f (by omega)]) (by unfold pxV szV rmV; simp [bv, qU_f, qU_g, fU_a])) (fun k _ => by rw [qU_f (by omega), qU_f (by omega), qU_f (by omega)])
    simp [bv, qU_f, qU_g, fU_a] at h1 ⊢
    by_cases e : j = V 0 2
    · simp [e]
    · have := hT j h0 (by omega)
      simp [bv] at this
      simp [e, this]
theorem m_task {g : qG} {d : Nat} {s e : Int} (h1 : qR s) (h2 : qR e) (M V Vk : qM) (kp rt : Int) (hv : voV V) (hrt : 1 ≤ rt ∧ rt ≤ 10) (h : Mi M V Vk kp rt) : qOk g (d + 2) j_X8_task [.inr 63, .inl s, .inl e] M (qI fun r M1 => r = (oTask s e V rt).1 ∧ Mi M1 (oTask s e V rt).2.1 Vk kp (oTask s e V rt).2.2 ∧ ∀ k, k < 63 → M1 k = M k) := by
  obtain ⟨hvn, vC, vL, vT, vB, vS, vW⟩ := id hv
  have m0 : M 64 = V 0 := h.1 0 (by decide)
  have m1 : M 65 = V 1 := h.1 1 (by decide)
  have m2 : M 66 = V 2 := h.1 2 (by decide)
  have m3 : M 67 = V 3 := h.1 3 (by decide)
  have m4 : M 68 = V 4 := h.1 4 (by decide)
  have m5 : M 69 = V 5 := h.1 5 (by decide)
  have m6 : M 70 = V 6 := h.1 6 (by decide)
  have m7 : M 71 = V 7 := h.1 7 (by decide)
  have m8 : M 72 = V 8 := h.1 8 (by decide)
  have m9 : M 73 = V 9 := h.1 9 (by decide)
  have m10 : M 74 = V 10 := h.1 10 (by decide)
  have m11 : M 75 = V 11 := h.1 11 (by decide)
  have m12 : M 76 = V 12 := h.1 12 (by decide)
  refine qOk.kI (fun K hK => e_X8_task h1 h2 ?_)
  simp only [qU_f (show (64 : Nat) ≠ 70 by decide), qU_f (show (64 : Nat) ≠ 71 by decide), m0]
  repeat' first | omega | intro zc | apply And.intro
  all_goals first | exact hK _ _ (mr (by unfold oTask; rw [if_neg (by omega)]) h) | exact hK _ _ (mr (by unfold oTask; rw [if_pos (by omega), if_neg (by omega)]) h) | refine hK _ _ ?_
  all_goals exact ms (by unfold oTask; rw [if_pos (by omega), if_pos (by omega)]) (h.new (miU (k := 0) (miU (k := 7) (miU (k := 6) h.1))) (by simp [qU_f]) (by simp [qU_f])) (fun k _ => by rw [qU_f (by omega), qU_f (by omega), qU_f (by omega)])
theorem v_task {s e : Int} (V : qM) (rt : Int) (hv : voV V) (hrt : 1 ≤ rt ∧ rt ≤ 10) : voV (oTask s e V rt).2.1 ∧ (1 ≤ (oTask s e V rt).2.2 ∧ (oTask s e V rt).2.2 ≤ 10) := by
  obtain ⟨hvn, vC, vL, vT, vB, vS, vW⟩ := id hv
  unfold oTask
  split
  · split
    · refine ⟨⟨by simp [voN, bv, qU_f, qU_g, fU_a]; omega, by simpa [bv, qU_f, qU_g, fU_a] using vC, by simpa [bv, qU_f, qU_g, fU_a] using vL, fun j h0 h1 => ?_, by simpa [bv, qU_f, qU_g, fU_a] using vB, fun i h0 h1 => ?_, by simpa [bv, qU_f, qU_g, fU_a] using vW⟩, hrt⟩
      · simp [bv, qU_f, qU_g, fU_a] at h1 ⊢
        by_cases e : j = V 0 2
        · simp [e]; omega
        · simp [e]; exact vT j h0 (by omega)
      · simp [bv, qU_f, qU_g, fU_a] at h1 ⊢
        have := vS i h0 h1
        omega
    · exact ⟨hv, hrt⟩
  · exact ⟨hv, hrt⟩
-- badge
def oBadge (a b c e f : Int) (V : qM) (rt : Int) : Int × qM × Int := if (0 ≤ a ∧ a ≤ 1023) ∧ (0 ≤ b ∧ b ≤ 1023) ∧ (0 ≤ c ∧ c ≤ 10) ∧ (6 ≤ e ∧ e ≤ 18) ∧ (f = -1 ∨ (0 ≤ f ∧ f < V 0 4)) then (if V 0 4 < 8 then (V 0 4, qU (qU (qU (qU (qU (qU V 8 (5 * V 0 4) a) 8 (5 * V 0 4 + 1) b) 8 (5 * V 0 4 + 2) c) 8 (5 * V 0 4 + 3) e) 8 (5 * V 0 4 + 4) f) 0 4 (V 0 4 + 1), rt) else (-2, V, rt)) else (-1, V, rt)
theorem x_badge {g : qG} {d : Nat} {a b c e f : Int} (h1 : qR a) (h2 : qR b) (h3 : qR c) (h4 : qR e) (h5 : qR f) (M V Vk : qM) (kp rt : Int) (hv : voV V) (hrt : 1 ≤ rt ∧ rt ≤ 10) (h : Xi M V Vk kp rt) : qOk g (d + 2) j_X7_badge [.inr 0, .inl a, .inl b, .inl c, .inl e, .inl f] M (qI fun r M1 => r = (oBadge a b c e f V rt).1 ∧ Xi M1 (oBadge a b c e f V rt).2.1 Vk kp (oBadge a b c e f V rt).2.2 ∧ ∀ k, 63 ≤ k → M1 k = M k) := by
  obtain ⟨hvn, vC, vL, vT, vB, vS, vW⟩ := id hv
  obtain ⟨⟨hC, hL, hT, hB, hS, hW⟩, k1, k2, k3, k4, k5⟩ := id h
  obtain ⟨nC, hC⟩ := id hC
  obtain ⟨nL, hL, hL1, hL2, hL3⟩ := id hL
  obtain ⟨nT, hT⟩ := id hT
  obtain ⟨nB, hB⟩ := id hB
  obtain ⟨nS, hS, hS1⟩ := id hS
  obtain ⟨nW, hW, hW1, hW2⟩ := id hW
  have nC : M 2 0 = V 0 0 := nC
  have nL : M 2 3 = V 0 1 := nL
  have nT : M 8 0 = V 0 2 := nT
  have nB : M 8 3 = V 0 4 := nB
  have nS : M 16 0 = V 0 3 := nS
  have nW : M 22 0 = V 0 5 := nW
  refine qOk.kI (fun K hK => e_X7_badge h1 h2 h3 h4 h5 ?_)
  rw [nB]
  repeat' first | omega | intro zc | apply And.intro
  all_goals first | exact hK _ _ (xr (by unfold oBadge; rw [if_neg (by omega)]) h) | exact hK _ _ (xr (by unfold oBadge; rw [if_pos (by omega), if_neg (by omega)]) h) | refine hK _ _ ?_
  all_goals
    refine xs (by unfold oBadge; rw [if_pos (by omega), if_pos (by omega)]) (h.old ⟨by simpa [bv, qU_f, qU_g, fU_a] using h.1.1, by simpa [bv, qU_f, qU_g, fU_a] using h.1.2.1, by simpa [bv, qU_f, qU_g, fU_a] using h.1.2.2.1, ⟨by simp [bv, qU_f, qU_g, fU_a], fun j h0 h1 => ?_⟩, by simpa [bv, qU_f, qU_g, fU_a] using h.1.2.2.2.2.1, by simpa [bv, qU_f, qU_g, fU_a] using h.1.2.2.2.2.2⟩ (by simp [qU_f]) (fun k _ _ => by rw [qU_f (by omega), qU_f (by omega), qU_f (by omega), qU_f (by omega), qU_f (by omega), qU_f (by omega)]) (by unfold pxV szV rmV; simp [bv, qU_f, qU_g, fU_a])) (fun k _ => by rw [qU_f (by omega), qU_f (by omega), qU_f (by omega), qU_f (by omega), qU_f (by omega), qU_f (by omega)])
    simp [bv, qU_f, qU_g] at h1 ⊢
    rw [fU_s] at h1
    show _ = f5 (V 8) (V 0 4) a b c e f _ ∧ _ = f5 (V 8) (V 0 4) a b c e f _ ∧ _ = f5 (V 8) (V 0 4) a b c e f _ ∧ _ = f5 (V 8) (V 0 4) a b c e f _ ∧ _ = f5 (V 8) (V 0 4) a b c e f _
    by_cases z : j = V 0 4
    · subst z
      obtain ⟨a1, a2, a3, a4, a5⟩ := f5_at (V 8) (V 0 4) a b c e f
      rw [a1, a2, a3, a4, a5]
      simp [fU_a]
    · obtain ⟨a1, a2, a3, a4, a5⟩ := f5_o (V 8) (n := V 0 4) (a := a) (b := b) (c := c) (d := e) (e := f) z
      rw [a1, a2, a3, a4, a5]
      have := hB j h0 (by omega)
      simp [bv] at this
      simp [fU_a, z, this]
theorem m_badge {g : qG} {d : Nat} {a b c e f : Int} (h1 : qR a) (h2 : qR b) (h3 : qR c) (h4 : qR e) (h5 : qR f) (M V Vk : qM) (kp rt : Int) (hv : voV V) (hrt : 1 ≤ rt ∧ rt ≤ 10) (h : Mi M V Vk kp rt) : qOk g (d + 2) j_X8_badge [.inr 63, .inl a, .inl b, .inl c, .inl e, .inl f] M (qI fun r M1 => r = (oBadge a b c e f V rt).1 ∧ Mi M1 (oBadge a b c e f V rt).2.1 Vk kp (oBadge a b c e f V rt).2.2 ∧ ∀ k, k < 63 → M1 k = M k) := by
  obtain ⟨hvn, vC, vL, vT, vB, vS, vW⟩ := id hv
  have m0 : M 64 = V 0 := h.1 0 (by decide)
  have m1 : M 65 = V 1 := h.1 1 (by decide)
  have m2 : M 66 = V 2 := h.1 2 (by decide)
  have m3 : M 67 = V 3 := h.1 3 (by decide)
  have m4 : M 68 = V 4 := h.1 4 (by decide)
  have m5 : M 69 = V 5 := h.1 5 (by decide)
  have m6 : M 70 = V 6 := h.1 6 (by decide)
  have m7 : M 71 = V 7 := h.1 7 (by decide)
  have m8 : M 72 = V 8 := h.1 8 (by decide)
  have m9 : M 73 = V 9 := h.1 9 (by decide)
  have m10 : M 74 = V 10 := h.1 10 (by decide)
  have m11 : M 75 = V 11 := h.1 11 (by decide)
  have m12 : M 76 = V 12 := h.1 12 (by decide)
  refine qOk.kI (fun K hK => e_X8_badge h1 h2 h3 h4 h5 ?_)
  simp only [qU_f (show (64 : Nat) ≠ 72 by decide), m0]
  repeat' first | omega | intro zc | apply And.intro
  all_goals first | exact hK _ _ (mr (by unfold oBadge; rw [if_neg (by omega)]) h) | exact hK _ _ (mr (by unfold oBadge; rw [if_pos (by omega), if_neg (by omega)]) h) | refine hK _ _ ?_
  all_goals exact ms (by unfold oBadge; rw [if_pos (by omega), if_pos (by omega)]) (h.new (miU (k := 0) (miU (k := 8) (miU (k := 8) (miU (k := 8) (miU (k := 8) (miU (k := 8) h.1)))))) (by simp [qU_f]) (by simp [qU_f])) (fun k _ => by rw [qU_f (by omega), qU_f (by omega), qU_f (by omega), qU_f (by omega), qU_f (by omega), qU_f (by omega)])
theorem v_badge {a b c e f : Int} (V : qM) (rt : Int) (hv : voV V) (hrt : 1 ≤ rt ∧ rt ≤ 10) : voV (oBadge a b c e f V rt).2.1 ∧ (1 ≤ (oBadge a b c e f V rt).2.2 ∧ (oBadge a b c e f V rt).2.2 ≤ 10) := by
  obtain ⟨hvn, vC, vL, vT, vB, vS, vW⟩ := id hv
  unfold oBadge
  split
  · split
    · refine ⟨⟨by simp [voN, bv, qU_f, qU_g, fU_a]; omega, by simpa [bv, qU_f, qU_g, fU_a] using vC, by simpa [bv, qU_f, qU_g, fU_a] using vL, by simpa [bv, qU_f, qU_g, fU_a] using vT, fun j h0 h1 => ?_, by simpa [bv, qU_f, qU_g, fU_a] using vS, by simpa [bv, qU_f, qU_g, fU_a] using vW⟩, hrt⟩
      simp only [bv, qU_f (show (8 : Nat) ≠ 0 by decide), qU_f (show (0 : Nat) ≠ 8 by decide), qU_g] at h1 ⊢
      rw [fU_s] at h1
      show (0 ≤ f5 (V 8) (V 0 4) a b c e f _ ∧ f5 (V 8) (V 0 4) a b c e f _ ≤ 1023) ∧ (0 ≤ f5 (V 8) (V 0 4) a b c e f _ ∧ f5 (V 8) (V 0 4) a b c e f _ ≤ 1023) ∧ (0 ≤ f5 (V 8) (V 0 4) a b c e f _ ∧ f5 (V 8) (V 0 4) a b c e f _ ≤ 10) ∧ (6 ≤ f5 (V 8) (V 0 4) a b c e f _ ∧ f5 (V 8) (V 0 4) a b c e f _ ≤ 18) ∧ (-1 ≤ f5 (V 8) (V 0 4) a b c e f _ ∧ f5 (V 8) (V 0 4) a b c e f _ < j)
      by_cases z : j = V 0 4
      · subst z
        obtain ⟨a1, a2, a3, a4, a5⟩ := f5_at (V 8) (V 0 4) a b c e f
        rw [a1, a2, a3, a4, a5]
        omega
      · obtain ⟨a1, a2, a3, a4, a5⟩ := f5_o (V 8) (n := V 0 4) (a := a) (b := b) (c := c) (d := e) (e := f) z
        rw [a1, a2, a3, a4, a5]
        exact vB j h0 (by omega)
    · exact ⟨hv, hrt⟩
  · exact ⟨hv, hrt⟩
