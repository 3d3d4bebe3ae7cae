/-! leader -/
theorem qShr_0 (w : Int) : qShr 0 w = 0 := by
  unfold qShr
  have e : Int32.ofInt 0 = 0 := by decide
  rw [e, Int32.zero_shiftRight]
  decide
theorem rmF_c {f f' : Int → Int} {w rt : Int} : ∀ n : Nat, (∀ j : Int, 0 ≤ j → j < n → f j = f' j) → rmF f w rt n = rmF f' w rt n
  | 0, _ => rfl
  | n + 1, h => by
    unfold rmF
    rw [rmF_c n (fun j h0 h1 => h j h0 (by omega)), h n (by omega) (by omega)]
def oLeader (V : qM) (rt : Int) : Int × qM × Int := if V 0 1 < 5 then (V 0 1, qU (qU (qU (qU (qU (qU V 5 (V 0 1) 0) 3 (4 * V 0 1) (-1)) 3 (4 * V 0 1 + 1) (-1)) 3 (4 * V 0 1 + 2) (-1)) 3 (4 * V 0 1 + 3) (-1)) 0 1 (V 0 1 + 1), rt) else (-2, V, rt)
theorem l4_a (f : Int → Int) {n j : Int} (h : 0 ≤ j) (h2 : j < 4 * (n + 1)) : fU (fU (fU (fU f (4 * n) (-1)) (4 * n + 1) (-1)) (4 * n + 2) (-1)) (4 * n + 3) (-1) j = if j < 4 * n then f j else -1 := by
  simp only [fU_a]
  by_cases z : j < 4 * n
  · rw [if_neg (by omega), if_neg (by omega), if_neg (by omega), if_neg (by omega), if_pos z]
  · rw [if_neg z]
    rcases (show j = 4 * n ∨ j = 4 * n + 1 ∨ j = 4 * n + 2 ∨ j = 4 * n + 3 by omega) with e | e | e | e
    · rw [if_neg (by omega), if_neg (by omega), if_neg (by omega), if_pos e]
    · rw [if_neg (by omega), if_neg (by omega), if_pos e]
    · rw [if_neg (by omega), if_pos e]
    · rw [if_pos e]
theorem pxV_leader (V : qM) (rt : Int) (hn : 0 ≤ V 0 1) : pxV (qU (qU (qU (qU (qU (qU V 5 (V 0 1) 0) 3 (4 * V 0 1) (-1)) 3 (4 * V 0 1 + 1) (-1)) 3 (4 * V 0 1 + 2) (-1)) 3 (4 * V 0 1 + 3) (-1)) 0 1 (V 0 1 + 1)) rt = pxV V rt := by
  unfold pxV
  refine Prod.ext ?_ (Prod.ext ?_ ?_)
  · unfold szV; simp [bv, qU_f, qU_g, fU_a]
  · show rmV _ rt = rmV V rt
    funext w
    unfold rmV
    simp only [qU_f (show (5 : Nat) ≠ 0 by decide), qU_f (show (5 : Nat) ≠ 3 by decide), qU_g, fU_s]
    rw [show (V 0 1 + 1).toNat = (V 0 1).toNat + 1 by omega]
    show rmF _ w rt (V 0 1).toNat + _ = _
    have e : (((V 0 1).toNat : Nat) : Int) = V 0 1 := by omega
    rw [e, fU_s, qShr_0, if_neg (show ¬ qAnd 0 1 = 1 by decide)]
    rw [rmF_c (f' := V 5) (V 0 1).toNat (fun j h0 h1 => fU_n (by omega))]
    omega
  · simp [bv, qU_f, qU_g, fU_a]
theorem x_leader {g : qG} {d : Nat} (M V Vk : qM) (kp rt : Int) (hv : voV V) (hrt : 1 ≤ rt ∧ rt ≤ 10) (h : Xi M V Vk kp rt) : qOk g (d + 0) j_X7_leader [.inr 0] M (qI fun r M1 => r = (oLeader V rt).1 ∧ Xi M1 (oLeader V rt).2.1 Vk kp (oLeader V rt).2.2 ∧ ∀ k, 63 ≤ k → M1 k = M k) := by
  obtain ⟨hvn, vC, vL, vT, vB, vS, vW⟩ := id hv
  obtain ⟨⟨hC, hL, hT, hB, hS, hW⟩, k1, k2, k3, k4, k5⟩ := id h
  obtain ⟨nC, hC⟩ := id hC
  obtain ⟨nL, hL, hL1, hL2, hL3⟩ := id hL
  obtain ⟨nT, hT⟩ := id hT
  obtain ⟨nB, hB⟩ := id hB
  obtain ⟨nS, hS, hS1⟩ := id hS
  obtain ⟨nW, hW, hW1, hW2⟩ := id hW
  have nC : M 2 0 = V 0 0 := nC
  have nL : M 2 3 = V 0 1 := nL
  have nT : M 8 0 = V 0 2 := nT
  have nB : M 8 3 = V 0 4 := nB
  have nS : M 16 0 = V 0 3 := nS
  have nW : M 22 0 = V 0 5 := nW
  refine qOk.kI (fun K hK => e_X7_leader ?_)
  rw [nL]
  refine ⟨fun c1 => ⟨by omega, hK _ _ ?_⟩, fun c1 => hK _ _ ?_⟩
  · refine xs (by unfold oLeader; rw [if_pos (by omega)]) (h.old ⟨by simpa [bv, qU_f, qU_g, fU_a] using h.1.1, ⟨by simp [bv, qU_f, qU_g, fU_a], fun j h0 h1 => ?_, fun j h0 h1 => ?_, fun j h0 h1 => ?_, fun j h0 h1 => ?_⟩, by simpa [bv, qU_f, qU_g, fU_a] using h.1.2.2.1, by simpa [bv, qU_f, qU_g, fU_a] using h.1.2.2.2.1, by simpa [bv, qU_f, qU_g, fU_a] using h.1.2.2.2.2.1, by simpa [bv, qU_f, qU_g, fU_a] using h.1.2.2.2.2.2⟩ (by simp [qU_f]) (fun k _ _ => by rw [qU_f (by omega)]) (pxV_leader V rt (by omega))) (fun k _ => by rw [qU_f (by omega)])
    · simp only [bv, qU_f (show (3 : Nat) ≠ 0 by decide), qU_f (show (3 : Nat) ≠ 5 by decide), qU_f (show (4 : Nat) ≠ 0 by decide), qU_f (show (4 : Nat) ≠ 3 by decide), qU_f (show (4 : Nat) ≠ 5 by decide), qU_f (show (1 + 4 : Nat) ≠ 2 by decide), qU_f (show (1 + 5 : Nat) ≠ 2 by decide), qU_g, fU_s] at h1 ⊢
      rw [l4_a (V 3) h0 h1]
      by_cases z : j < 4 * V 0 1
      · rw [if_pos z]; exact hL j h0 z
      · rw [if_neg z]
        have := hL1 j (by omega) (by omega)
        simp only [bv] at this
        exact ⟨this.1, fun _ => this.2, fun q => by omega⟩
    · simp [bv, qU_f, qU_g, fU_a] at h0 ⊢
      exact hL1 j (by omega) h1
    · simp [bv, qU_f, qU_g, fU_a] at h1 ⊢
      by_cases z : j = V 0 1
      · simp [z]; exact hL3 _ (by omega) (by omega)
      · simp [z]; exact hL2 j h0 (by omega)
    · simp [bv, qU_f, qU_g, fU_a] at h0 ⊢
      exact hL3 j (by omega) h1
  · exact xr (by unfold oLeader; rw [if_neg (by omega)]) h
theorem m_leader {g : qG} {d : Nat} (M V Vk : qM) (kp rt : Int) (hv : voV V) (hrt : 1 ≤ rt ∧ rt ≤ 10) (h : Mi M V Vk kp rt) : qOk g (d + 1) j_X8_leader [.inr 63] M (qI fun r M1 => r = (oLeader V rt).1 ∧ Mi M1 (oLeader V rt).2.1 Vk kp (oLeader V rt).2.2 ∧ ∀ k, k < 63 → M1 k = M k) := by
  obtain ⟨hvn, vC, vL, vT, vB, vS, vW⟩ := id hv
  have m0 : M 64 = V 0 := h.1 0 (by decide)
  have m1 : M 65 = V 1 := h.1 1 (by decide)
  have m2 : M 66 = V 2 := h.1 2 (by decide)
  have m3 : M 67 = V 3 := h.1 3 (by decide)
  have m4 : M 68 = V 4 := h.1 4 (by decide)
  have m5 : M 69 = V 5 := h.1 5 (by decide)
  have m6 : M 70 = V 6 := h.1 6 (by decide)
  have m7 : M 71 = V 7 := h.1 7 (by decide)
  have m8 : M 72 = V 8 := h.1 8 (by decide)
  have m9 : M 73 = V 9 := h.1 9 (by decide)
  have m10 : M 74 = V 10 := h.1 10 (by decide)
  have m11 : M 75 = V 11 := h.1 11 (by decide)
  have m12 : M 76 = V 12 := h.1 12 (by decide)
  refine qOk.kI (fun K hK => e_X8_leader (fun C hC hQ => ?_))
  simp only [m0]
  refine ⟨fun c1 => ⟨by omega, ?_⟩, fun c1 => hK _ _ ?_⟩
  · refine s_X8_leader_29 hC hQ (by omega) (by decide) ⟨fun c => by omega, fun _ => ⟨by omega, ?_⟩⟩
    refine s_X8_leader_29 hC hQ (by omega) (by decide) ⟨fun c => by omega, fun _ => ⟨by omega, ?_⟩⟩
    refine s_X8_leader_29 hC hQ (by omega) (by decide) ⟨fun c => by omega, fun _ => ⟨by omega, ?_⟩⟩
    refine s_X8_leader_29 hC hQ (by omega) (by decide) ⟨fun c => by omega, fun _ => ⟨by omega, ?_⟩⟩
    refine s_X8_leader_29 hC hQ (by omega) (by decide) ?_
    simp only [qU_f (show (64 : Nat) ≠ 67 by decide), qU_f (show (64 : Nat) ≠ 69 by decide), m0]
    rw [show 4 * V 0 1 + 0 = 4 * V 0 1 by omega, show 4 * V 0 1 + (0 + 1) = 4 * V 0 1 + 1 by omega, show 4 * V 0 1 + (0 + 1 + 1) = 4 * V 0 1 + 2 by omega, show 4 * V 0 1 + (0 + 1 + 1 + 1) = 4 * V 0 1 + 3 by omega]
    refine ⟨fun _ => ⟨by omega, hK _ _ ?_⟩, fun c => by omega⟩
    exact ms (by unfold oLeader; rw [if_pos (by omega)]) (h.new (miU (k := 0) (miU (k := 3) (miU (k := 3) (miU (k := 3) (miU (k := 3) (miU (k := 5) h.1)))))) (by simp [qU_f]) (by simp [qU_f])) (fun k _ => by rw [qU_f (by omega), qU_f (by omega), qU_f (by omega), qU_f (by omega), qU_f (by omega), qU_f (by omega)])
  · exact mr (by unfold oLeader; rw [if_neg (by omega)]) h
theorem v_leader (V : qM) (rt : Int) (hv : voV V) (hrt : 1 ≤ rt ∧ rt ≤ 10) : voV (oLeader V rt).2.1 ∧ (1 ≤ (oLeader V rt).2.2 ∧ (oLeader V rt).2.2 ≤ 10) := by
  obtain ⟨hvn, vC, vL, vT, vB, vS, vW⟩ := id hv
  unfold oLeader
  split
  · refine ⟨⟨by simp [voN, bv, qU_f, qU_g, fU_a]; omega, by simpa [bv, qU_f, qU_g, fU_a] using vC, ⟨fun j h0 h1 => ?_, fun j h0 h1 => ?_⟩, by simpa [bv, qU_f, qU_g, fU_a] using vT, by simpa [bv, qU_f, qU_g, fU_a] using vB, fun i h0 h1 => ?_, by simpa [bv, qU_f, qU_g, fU_a] using vW⟩, hrt⟩
    · simp only [qU_f (show (3 : Nat) ≠ 0 by decide), qU_f (show (3 : Nat) ≠ 5 by decide), qU_f (show (4 : Nat) ≠ 0 by decide), qU_f (show (4 : Nat) ≠ 3 by decide), qU_f (show (4 : Nat) ≠ 5 by decide), qU_g, fU_s] at h1 ⊢
      rw [l4_a (V 3) h0 h1]
      by_cases z : j < 4 * V 0 1
      · rw [if_pos z]; exact vL.1 j h0 z
      · rw [if_neg z]; omega
    · simp [bv, qU_f, qU_g, fU_a] at h1 ⊢
      by_cases z : j = V 0 1
      · simp [z]
      · simp [z]; exact vL.2 j h0 (by omega)
    · simp [bv, qU_f, qU_g, fU_a] at h1 ⊢
      have := vS i h0 h1
      omega
  · exact ⟨hv, hrt⟩
