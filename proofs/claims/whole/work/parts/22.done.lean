/-! tasks that are done: the reference's findDone and the class's readDone -/
def Mv (M V : qM) : Prop := ∀ a : Nat, a < 13 → M (64 + a) = V a
theorem Mv.c {M M1 V : qM} (h : Mv M V) (hf : ∀ k, k < 77 → M1 k = M k) : Mv M1 V := fun a ha => by rw [hf _ (by omega)]; exact h a ha
theorem ct_c {V : qM} {f F : Int → Int} {s : Int} (h : 0 ≤ V 7 (tkV V s) → f (V 7 (tkV V s)) = F (V 7 (tkV V s))) : ctV V f s ↔ ctV V F s := by
  by_cases z : 0 ≤ V 7 (tkV V s)
  · simp only [ctV, h z]
  · have z' : V 7 (tkV V s) < 0 := by omega
    simp only [ctV, z', true_or, and_true]
section DONEM
variable {g : qG} {C : qX} {d : Nat} {V : qM}
theorem bm_counts {M : qM} {s : Int} (hv : voV V) (hm : Mv M V) (h0 : 0 ≤ s) (h1 : s < V 0 3) : qOk g d j_X8_counts [.inr 63, .inl s] M (qI fun x M1 => M1 = M ∧ ((x = 1 ∧ ctV V (M 78) s) ∨ (x = 0 ∧ ¬ ctV V (M 78) s))) := by
  obtain ⟨hvn, vC, vL, vT, vB, vS, vW⟩ := id hv
  have m3 : M 67 = V 3 := hm 3 (by decide)
  have m4 : M 68 = V 4 := hm 4 (by decide)
  have m6 : M 70 = V 6 := hm 6 (by decide)
  have m7 : M 71 = V 7 := hm 7 (by decide)
  have m9 : M 73 = V 9 := hm 9 (by decide)
  have a1 := vS s h0 h1
  have a2 := vT (V 9 (5 * s + 1)) a1.2.1.1 a1.2.1.2
  refine qOk.kI (fun K hK => e_X8_counts (by omega) ?_)
  simp only [m3, m4, m6, m7, m9]
  simp only [ctV, gdV, ppV, tkV, dyV] at hK
  repeat' first | omega | intro zc | apply And.intro
  all_goals first | exact hK 1 _ ⟨rfl, Or.inl ⟨rfl, by omega⟩⟩ | exact hK 0 _ ⟨rfl, Or.inr ⟨rfl, by omega⟩⟩
/-- the inner loop: over the signatures -/
theorem lm_fd21 {M0 : qM} {K : qM → Prop} {c t : Int} (hv : voV V) (hm : Mv M0 V) (hcr : qR c) (hC : qCk g C cX8_findDone RX8 6 (d + 1)) (hQ : qRt g C none (qN K)) (ht0 : 0 ≤ t) (ht1 : t < V 0 2) (F : Int → Int)
    (hnext : ∀ M' : qM, (∀ k, k ≠ 78 → M' k = M0 k) → (∀ j, 0 ≤ j → j < t → M' 78 j = F j) → M' 78 t = dvV V F c t (V 0 3).toNat → qW g C 2 [some (.inr 63), some (.inl c), some (.inl (t + 1)), none, none, none] [] M') :
    ∀ (k : Nat) (s : Int) (M : qM), 0 ≤ s → s + k = V 0 3 → (∀ k, k ≠ 78 → M k = M0 k) → (∀ j, 0 ≤ j → j < t → M 78 j = F j) → M 78 t = dvV V F c t s.toNat → qW g C 21 [some (.inr 63), some (.inl c), some (.inl t), some (.inl s), none, none] [] M := by
  obtain ⟨hvn, vC, vL, vT, vB, vS, vW⟩ := id hv
  have m0 : M0 64 = V 0 := hm 0 (by decide)
  have m9 : M0 73 = V 9 := hm 9 (by decide)
  intro k
  induction k with
  | zero =>
    intro s M h0 h1 hf hj ht
    have e0 : M 64 3 = V 0 3 := by rw [hf 64 (by decide), m0]
    refine s_X8_findDone_21 hC hQ hcr (by omega) (by omega) ⟨fun _ => hnext M hf hj ?_, fun c => absurd c (by omega)⟩
    rw [ht, show s = V 0 3 by omega]
  | succ k ih =>
    intro s M h0 h1 hf hj ht
    have e0 : M 64 3 = V 0 3 := by rw [hf 64 (by decide), m0]
    have e9 : M 73 = V 9 := by rw [hf 73 (by decide), m9]
    have a1 := vS s h0 (by omega)
    have en : (s + 1).toNat = s.toNat + 1 := by omega
    have ec : ((s.toNat : Nat) : Int) = s := by omega
    have step : dvV V F c t (s + 1).toNat = if (V 9 (5 * s) = c ∧ tkV V s = t ∧ ctV V F s) ∧ (M 78 t < 0 ∨ dyV V s < M 78 t) then dyV V s else M 78 t := by
      rw [en, ht]
      show (if _ then _ else _) = _
      rw [ec]
    -- the two ways on
    have keep : ¬ ((V 9 (5 * s) = c ∧ tkV V s = t ∧ ctV V F s) ∧ (M 78 t < 0 ∨ dyV V s < M 78 t)) → qW g C 21 [some (.inr 63), some (.inl c), some (.inl t), some (.inl (s + 1)), none, none] [] (qU M 78 t (M 78 t)) := by
      intro z
      refine ih (s + 1) _ (by omega) (by omega) (fun k hk => by rw [qU_f hk]; exact hf k hk) (fun j j0 j1 => by rw [qU_i (by omega)]; exact hj j j0 j1) ?_
      rw [qU_s, step, if_neg z]
    have take : ((V 9 (5 * s) = c ∧ tkV V s = t ∧ ctV V F s) ∧ (M 78 t < 0 ∨ dyV V s < M 78 t)) → qW g C 21 [some (.inr 63), some (.inl c), some (.inl t), some (.inl (s + 1)), none, none] [] (qU M 78 t (V 9 (5 * s + 3))) := by
      intro z
      refine ih (s + 1) _ (by omega) (by omega) (fun k hk => by rw [qU_f hk]; exact hf k hk) (fun j j0 j1 => by rw [qU_i (by omega)]; exact hj j j0 j1) ?_
      rw [qU_s, step, if_pos z]
    refine s_X8_findDone_21 hC hQ hcr (by omega) (by omega) ⟨fun c => absurd c (by omega), fun _ => ⟨by omega, by omega, ?_⟩⟩
    rw [e9]
    refine ⟨fun c1 => ⟨by omega, keep (fun z => c1 z.1.1)⟩, fun c1 => ⟨by omega, fun c2 => ⟨by omega, keep (fun z => c2 z.1.2.1)⟩, fun c2 => ?_⟩⟩
    refine (bm_counts hv (M := M) (fun a ha => by rw [hf _ (by omega)]; exact hm a ha) h0 (by omega)).monoI (fun x M1 _ _ hx => ?_)
    obtain ⟨rfl, hx⟩ := hx
    have a2 := vT t ht0 ht1
    have cc : ctV V (M1 78) s ↔ ctV V F s := ct_c (by
      intro z
      have e : tkV V s = t := c2
      rw [e] at z ⊢
      exact hj _ z a2.2.2)
    refine ⟨fun c3 => ⟨by omega, keep (fun z => ?_)⟩, fun c3 => ⟨by omega, fun c4 => take ⟨⟨c1, c2, ?_⟩, Or.inl c4⟩, fun c4 => ⟨fun c5 => keep (fun z => ?_), fun c5 => take ⟨⟨c1, c2, ?_⟩, Or.inr c5⟩⟩⟩⟩
    · rcases hx with hx | hx
      · omega
      · exact hx.2 (cc.mpr z.1.2.2)
    · rcases hx with hx | hx
      · exact cc.mp hx.2
      · omega
    · rcases z.2 with q | q
      · omega
      · exact absurd c5 (by have : dyV V s < M1 78 t := q; simp only [dyV] at this; omega)
    · rcases hx with hx | hx
      · exact cc.mp hx.2
      · omega
theorem lm_fd2 {M0 : qM} {K : qM → Prop} {c : Int} (hv : voV V) (hm : Mv M0 V) (hcr : qR c) (hC : qCk g C cX8_findDone RX8 6 (d + 1)) (hQ : qRt g C none (qN K))
    (hK : ∀ M1 : qM, (∀ k, k ≠ 78 → M1 k = M0 k) → (∀ t, 0 ≤ t → t < V 0 2 → M1 78 t = dnV V c t) → K M1) :
    ∀ (k : Nat) (t : Int) (M : qM), 0 ≤ t → t + k = V 0 2 → (∀ k, k ≠ 78 → M k = M0 k) → (∀ j, 0 ≤ j → j < t → M 78 j = dtV V c t.toNat j) → qW g C 2 [some (.inr 63), some (.inl c), some (.inl t), none, none, none] [] M := by
  obtain ⟨hvn, -⟩ := id hv
  have m0 : M0 64 = V 0 := hm 0 (by decide)
  intro k
  induction k with
  | zero =>
    intro t M h0 h1 hf hj
    have e0 : M 64 2 = V 0 2 := by rw [hf 64 (by decide), m0]
    refine s_X8_findDone_2 hC hQ hcr (by omega) ⟨fun _ => hK M hf (fun j j0 j1 => ?_), fun c => absurd c (by omega)⟩
    rw [hj j j0 (by omega), show t = V 0 2 by omega]
    rfl
  | succ k ih =>
    intro t M h0 h1 hf hj
    have e0 : M 64 2 = V 0 2 := by rw [hf 64 (by decide), m0]
    refine s_X8_findDone_2 hC hQ hcr (by omega) ⟨fun c => absurd c (by omega), fun _ => ⟨by omega, ?_⟩⟩
    refine lm_fd21 hv hm hcr hC hQ h0 (by omega) (dtV V c t.toNat) (fun M' hf' hj' ht' => ?_) (V 0 3).toNat 0 _ (by omega) (by omega) (fun k hk => by rw [qU_f hk]; exact hf k hk) (fun j j0 j1 => by rw [qU_i (by omega)]; exact hj j j0 j1) (by rw [qU_s]; rfl)
    refine ih (t + 1) M' (by omega) (by omega) hf' (fun j j0 j1 => ?_)
    rw [show (t + 1).toNat = t.toNat + 1 by omega]
    show M' 78 j = fU (dtV V c t.toNat) (t.toNat : Nat) _ j
    have ec : ((t.toNat : Nat) : Int) = t := by omega
    rw [ec]
    by_cases z : j = t
    · subst z; rw [fU_s, ht']
    · rw [fU_n z]; exact hj' j j0 (by omega)
theorem bm_findDone {M : qM} {c : Int} (hv : voV V) (hm : Mv M V) (hcr : qR c) : qOk g (d + 1) j_X8_findDone [.inr 63, .inl c] M (qN fun M1 => (∀ k, k ≠ 78 → M1 k = M k) ∧ ∀ t, 0 ≤ t → t < V 0 2 → M1 78 t = dnV V c t) := by
  obtain ⟨hvn, -⟩ := id hv
  refine e_X8_findDone hcr (fun C hC hQ => ?_)
  exact lm_fd2 hv hm hcr hC hQ (fun M1 h1 h2 => ⟨h1, h2⟩) (V 0 2).toNat 0 M (by omega) (by omega) (fun _ _ => rfl) (fun j j0 j1 => by omega)
end DONEM
-- the class
def nvF (z : Int) : Int := if z < 0 then 1000 else z
theorem nv_n {z : Int} (h : z < 0) : nvF z = 1000 := if_pos h
theorem nv_p {z : Int} (h : 0 ≤ z) : nvF z = z := if_neg (by omega)
theorem bk_s {M V : qM} {s : Int} (h : bkV (bv M 1) V) (h0 : 0 ≤ s) (h1 : s < V 0 3) : M 17 s = V 9 (5 * s) ∧ M 18 s = V 9 (5 * s + 1) ∧ M 19 s = V 9 (5 * s + 2) ∧ M 20 s = V 9 (5 * s + 3) ∧ M 21 s = V 9 (5 * s + 4) := h.2.2.2.2.1.2.1 s h0 h1
theorem bk_t {M V : qM} {t : Int} (h : bkV (bv M 1) V) (h0 : 0 ≤ t) (h1 : t < V 0 2) : M 9 t = V 6 t ∧ M 10 t = V 7 t := h.2.2.1.2 t h0 h1
theorem bk_p {M V : qM} {j : Int} (h : bkV (bv M 1) V) (h0 : 0 ≤ j) (h1 : j < 4 * V 0 1) : M 5 j = V 3 j ∧ (V 3 j < 0 → M 6 j = -1) ∧ (0 ≤ V 3 j → M 6 j = V 4 j) := h.2.1.2.1 j h0 h1
theorem bk_nT {M V : qM} (h : bkV (bv M 1) V) : M 8 0 = V 0 2 := h.2.2.1.1
theorem bk_nS {M V : qM} (h : bkV (bv M 1) V) : M 16 0 = V 0 3 := h.2.2.2.2.1.1
theorem bk_nC {M V : qM} (h : bkV (bv M 1) V) : M 2 0 = V 0 0 := h.1.1
theorem bk_nL {M V : qM} (h : bkV (bv M 1) V) : M 2 3 = V 0 1 := h.2.1.1
theorem bk_nB {M V : qM} (h : bkV (bv M 1) V) : M 8 3 = V 0 4 := h.2.2.2.1.1
theorem bk_nW {M V : qM} (h : bkV (bv M 1) V) : M 22 0 = V 0 5 := h.2.2.2.2.2.1
theorem bk_fr {M M1 V : qM} (h : bkV (bv M 1) V) (hf : ∀ k, k < 26 → M1 k = M k) : bkV (bv M1 1) V := bv_c (fun k _ _ => hf k (by omega)) h
theorem dt_ge {V : qM} {c : Int} : ∀ (n : Nat) (j : Int), (n : Int) ≤ j → dtV V c n j = -1
  | 0, _, _ => rfl
  | n + 1, j, h => by
    show fU (dtV V c n) n _ j = -1
    rw [fU_n (by omega)]
    exact dt_ge n j (by omega)
theorem dv_r {V : qM} {F : Int → Int} {c t : Int} (hv : voV V) : ∀ n : Nat, (n : Int) ≤ V 0 3 → -1 ≤ dvV V F c t n ∧ dvV V F c t n ≤ 999
  | 0, _ => by rw [dvV]; decide
  | n + 1, h => by
    have a := dv_r (F := F) (c := c) (t := t) hv n (by omega)
    have b := hv.2.2.2.2.2.1 n (by omega) (by omega)
    rw [dvV]
    split
    · simp only [dyV]; omega
    · exact a
theorem dt_r {V : qM} {c : Int} (hv : voV V) : ∀ (n : Nat) (j : Int), -1 ≤ dtV V c n j ∧ dtV V c n j ≤ 999
  | 0, _ => ⟨by show (-1 : Int) ≤ -1; decide, by show (-1 : Int) ≤ 999; decide⟩
  | n + 1, j => by
    have a := dt_r (c := c) hv n j
    show -1 ≤ fU (dtV V c n) n _ j ∧ fU (dtV V c n) n _ j ≤ 999
    by_cases z : j = n
    · subst z
      rw [fU_s]
      exact dv_r hv _ (by have := hv.1; omega)
    · rw [fU_n z]; exact a
theorem dn_r {V : qM} {c : Int} (hv : voV V) (j : Int) : -1 ≤ dnV V c j ∧ dnV V c j ≤ 999 := dt_r hv _ j
section DONEX
variable {g : qG} {C : qX} {d : Nat} {V : qM}
theorem bx_counts {M : qM} {s : Int} {f : Int → Int} (hv : voV V) (hb : bkV (bv M 1) V) (h0 : 0 ≤ s) (h1 : s < V 0 3) (hf : 0 ≤ V 7 (tkV V s) → M 52 (V 9 (5 * s) * 10 + V 7 (tkV V s)) = nvF (f (V 7 (tkV V s)))) : qOk g (d + 1) j_X2_counts [.inr 51, .inr 1, .inl s] M (qI fun x M1 => M1 = M ∧ ((x = 1 ∧ ctV V f s) ∨ (x = 0 ∧ ¬ ctV V f s))) := by
  obtain ⟨hvn, vC, vL, vT, vB, vS, vW⟩ := id hv
  have a1 := vS s h0 h1
  have a2 := vT (V 9 (5 * s + 1)) a1.2.1.1 a1.2.1.2
  obtain ⟨s0, s1, s2, s3, s4⟩ := bk_s hb h0 h1
  obtain ⟨t0, t1⟩ := bk_t hb a1.2.1.1 a1.2.1.2
  have e1 : V 9 (5 * s + 2) * 4 + V 6 (V 9 (5 * s + 1)) = 4 * V 9 (5 * s + 2) + V 6 (V 9 (5 * s + 1)) := by omega
  obtain ⟨p0, p1, p2⟩ := bk_p hb (j := 4 * V 9 (5 * s + 2) + V 6 (V 9 (5 * s + 1))) (by omega) (by omega)
  refine qOk.kI (fun K hK => e_X2_counts (by omega) ?_)
  simp only [s0, s1, s2, s3, s4, t0, t1, e1, p0]
  simp only [tkV] at hf
  simp only [ctV, gdV, ppV, tkV, dyV] at hK
  have q : 0 ≤ V 7 (V 9 (5 * s + 1)) → (f (V 7 (V 9 (5 * s + 1))) < 0 ∧ M 52 (V 9 (5 * s) * 10 + V 7 (V 9 (5 * s + 1))) = 1000) ∨ (0 ≤ f (V 7 (V 9 (5 * s + 1))) ∧ M 52 (V 9 (5 * s) * 10 + V 7 (V 9 (5 * s + 1))) = f (V 7 (V 9 (5 * s + 1)))) := by
    intro z
    rw [hf z]
    by_cases y : f (V 7 (V 9 (5 * s + 1))) < 0
    · exact Or.inl ⟨y, nv_n y⟩
    · exact Or.inr ⟨by omega, nv_p (by omega)⟩
  repeat' first | omega | intro zc | apply And.intro
  all_goals first | exact hK 1 _ ⟨rfl, Or.inl ⟨rfl, by omega⟩⟩ | exact hK 0 _ ⟨rfl, Or.inr ⟨rfl, by omega⟩⟩
/-- the done days of all, after t tasks and s signatures of task t -/
def dxV (V : qM) (c : Int) (t s : Nat) : Int → Int := fU (dtV V c t) t (dvV V (dtV V c t) c t s)
theorem lx_rt8 {M0 : qM} {K : qM → Prop} {t : Int} (hv : voV V) (hb : bkV (bv M0 1) V) (hC : qCk g C cX2_readTask RX2 6 (d + 2)) (hQ : qRt g C none (qN K)) (ht0 : 0 ≤ t) (ht1 : t < V 0 2)
    (hK : ∀ M' : qM, (∀ k, k ≠ 52 → M' k = M0 k) → (∀ c, 0 ≤ c → c < 10 → ∀ j, 0 ≤ j → j < 10 → M' 52 (c * 10 + j) = nvF (dxV V c t.toNat (V 0 3).toNat j)) → K M') :
    ∀ (k : Nat) (s : Int) (M : qM), 0 ≤ s → s + k = V 0 3 → (∀ k, k ≠ 52 → M k = M0 k) → (∀ c, 0 ≤ c → c < 10 → ∀ j, 0 ≤ j → j < 10 → M 52 (c * 10 + j) = nvF (dxV V c t.toNat s.toNat j)) → qW g C 8 [some (.inr 51), some (.inr 1), some (.inl t), some (.inr 16), some (.inl s), none] [] M := by
  obtain ⟨hvn, vC, vL, vT, vB, vS, vW⟩ := id hv
  have ect : ((t.toNat : Nat) : Int) = t := by omega
  intro k
  induction k with
  | zero =>
    intro s M h0 h1 hf hj
    have e0 := bk_nS (bk_fr hb (fun k hk => hf k (by omega)))
    refine s_X2_readTask_8 hC hQ (by omega) (by omega) ⟨fun _ => hK M hf ?_, fun c => absurd c (by omega)⟩
    rw [show (V 0 3).toNat = s.toNat by omega]
    exact hj
  | succ k ih =>
    intro s M h0 h1 hf hj
    have hb' := bk_fr hb (M1 := M) (fun k hk => hf k (by omega))
    have e0 := bk_nS hb'
    have a1 := vS s h0 (by omega)
    obtain ⟨s0, s1, s2, s3, s4⟩ := bk_s hb' h0 (by omega)
    have en : (s + 1).toNat = s.toNat + 1 := by omega
    have ec : ((s.toNat : Nat) : Int) = s := by omega
    have step : ∀ c, dvV V (dtV V c t.toNat) c t (s + 1).toNat = if (V 9 (5 * s) = c ∧ tkV V s = t ∧ ctV V (dtV V c t.toNat) s) ∧ (dvV V (dtV V c t.toNat) c t s.toNat < 0 ∨ dyV V s < dvV V (dtV V c t.toNat) c t s.toNat) then dyV V s else dvV V (dtV V c t.toNat) c t s.toNat := by
      intro c
      rw [en]
      show (if _ then _ else _) = _
      rw [ec]
    have same : ∀ c, ¬ (V 9 (5 * s) = c ∧ tkV V s = t ∧ ctV V (dtV V c t.toNat) s) → dxV V c t.toNat (s + 1).toNat = dxV V c t.toNat s.toNat := by
      intro c z
      unfold dxV
      rw [ect, step c, if_neg (fun y => z y.1)]
    have skip : ¬ (tkV V s = t ∧ ctV V (dtV V (V 9 (5 * s)) t.toNat) s) → qW g C 8 [some (.inr 51), some (.inr 1), some (.inl t), some (.inr 16), some (.inl (s + 1)), none] [] M := by
      intro z
      refine ih (s + 1) M (by omega) (by omega) hf (fun c c0 c1 j j0 j1 => ?_)
      rw [same c (fun y => z ⟨y.2.1, by rw [y.1]; exact y.2.2⟩)]
      exact hj c c0 c1 j j0 j1
    refine s_X2_readTask_8 hC hQ (by omega) (by omega) ⟨fun c => absurd c (by omega), fun _ => ⟨by omega, fun c1 => skip (fun z => c1 (by rw [s1]; exact z.1)), fun c1 => ?_⟩⟩
    rw [s1] at c1
    have a2 := vT t ht0 ht1
    have hl : 0 ≤ V 7 (tkV V s) → M 52 (V 9 (5 * s) * 10 + V 7 (tkV V s)) = nvF (dtV V (V 9 (5 * s)) t.toNat (V 7 (tkV V s))) := by
      intro z
      have e : tkV V s = t := c1
      rw [e] at z ⊢
      rw [hj _ a1.1.1 (by omega) _ z (by omega)]
      unfold dxV
      rw [ect, fU_n (by omega)]
    refine (bx_counts hv hb' h0 (by omega) hl).monoI (fun x M1 _ _ hx => ?_)
    obtain ⟨rfl, hx⟩ := hx
    refine ⟨fun c2 => skip (fun z => ?_), fun c2 => ?_⟩
    · rcases hx with hx | hx
      · omega
      · exact hx.2 z.2
    · have hct : ctV V (dtV V (V 9 (5 * s)) t.toNat) s := by
        rcases hx with hx | hx
        · exact hx.2
        · omega
      rw [s0, s3]
      refine ⟨by omega, ih (s + 1) _ (by omega) (by omega) (fun k hk => by rw [qU_f hk]; exact hf k hk) (fun c c0 c10 j j0 j1 => ?_)⟩
      by_cases z : c = V 9 (5 * s) ∧ j = t
      · obtain ⟨z1, z2⟩ := z
        subst z1; subst z2
        rw [qU_s, hj _ c0 c10 _ j0 j1]
        unfold dxV
        rw [ect, fU_s, fU_s, step]
        have r := dv_r (F := dtV V (V 9 (5 * s)) j.toNat) (c := V 9 (5 * s)) (t := j) hv s.toNat (by omega)
        have c1' : tkV V s = j := c1
        by_cases y : dvV V (dtV V (V 9 (5 * s)) j.toNat) (V 9 (5 * s)) j s.toNat < 0 ∨ dyV V s < dvV V (dtV V (V 9 (5 * s)) j.toNat) (V 9 (5 * s)) j s.toNat
        · rw [if_pos ⟨⟨rfl, c1', hct⟩, y⟩]
          simp only [dyV] at y ⊢
          rw [nv_p (z := V 9 (5 * s + 3)) (by omega)]
          rcases y with y | y
          · rw [nv_n y]; omega
          · by_cases w : dvV V (dtV V (V 9 (5 * s)) j.toNat) (V 9 (5 * s)) j s.toNat < 0
            · rw [nv_n w]; omega
            · rw [nv_p (by omega)]; omega
        · rw [if_neg (fun q => y q.2)]
          simp only [dyV] at y
          rw [nv_p (z := dvV V (dtV V (V 9 (5 * s)) j.toNat) (V 9 (5 * s)) j s.toNat) (by omega)]
          omega
      · rw [qU_i (by omega), hj c c0 c10 j j0 j1]
        by_cases y : c = V 9 (5 * s)
        · have y2 : j ≠ t := fun q => z ⟨y, q⟩
          unfold dxV
          rw [ect, fU_n y2, fU_n y2]
        · rw [same c (fun q => y q.1.symm)]
theorem bx_readTask {M : qM} {t : Int} (hv : voV V) (hb : bkV (bv M 1) V) (ht0 : 0 ≤ t) (ht1 : t < V 0 2) (hj : ∀ c, 0 ≤ c → c < 10 → ∀ j, 0 ≤ j → j < 10 → M 52 (c * 10 + j) = nvF (dtV V c t.toNat j)) :
    qOk g (d + 2) j_X2_readTask [.inr 51, .inr 1, .inl t] M (qN fun M1 => (∀ k, k ≠ 52 → M1 k = M k) ∧ ∀ c, 0 ≤ c → c < 10 → ∀ j, 0 ≤ j → j < 10 → M1 52 (c * 10 + j) = nvF (dtV V c (t.toNat + 1) j)) := by
  obtain ⟨hvn, -⟩ := id hv
  have ect : ((t.toNat : Nat) : Int) = t := by omega
  refine e_X2_readTask (by omega) (fun C hC hQ => ?_)
  refine lx_rt8 hv hb hC hQ ht0 ht1 (fun M' h1 h2 => ⟨h1, fun c c0 c1 j j0 j1 => ?_⟩) (V 0 3).toNat 0 M (by omega) (by omega) (fun _ _ => rfl) (fun c c0 c1 j j0 j1 => ?_)
  · rw [h2 c c0 c1 j j0 j1]
    rfl
  · rw [hj c c0 c1 j j0 j1]
    unfold dxV
    rw [ect]
    by_cases z : j = t
    · subst z; rw [fU_s, dt_ge _ _ (by omega)]; rfl
    · rw [fU_n z]
theorem lx_fill {x : Int} {M0 : qM} {K : qM → Prop} (hx : qR x) (hC : qCk g C cJ7_fill_53178 RJ7 4 d) (hQ : qRt g C none (qN K)) (hK : ∀ M1 : qM, (∀ k, k ≠ 52 → M1 k = M0 k) → (∀ j, 0 ≤ j → j < 100 → M1 52 j = x) → K M1) :
    ∀ (k : Nat) (i : Int) (M : qM), 0 ≤ i → i + k = 100 → (∀ k, k ≠ 52 → M k = M0 k) → (∀ j, 0 ≤ j → j < i → M 52 j = x) → qW g C 5 [some (.inr 52), some (.inl x), some (.inl i), some (.inl 100)] [] M := by
  intro k
  induction k with
  | zero =>
    intro i M h0 h1 hf hj
    exact s_J7_fill_53178_done_5 hC hQ hx (by omega) (by omega) ⟨fun _ => hK M hf (fun j j0 j1 => hj j j0 (by omega)), fun c => absurd c (by omega)⟩
  | succ k ih =>
    intro i M h0 h1 hf hj
    refine s_J7_fill_53178_done_5 hC hQ hx (by omega) (by omega) ⟨fun c => absurd c (by omega), fun _ => ⟨by omega, ?_⟩⟩
    refine ih (i + 1) _ (by omega) (by omega) (fun k hk => by rw [qU_f hk]; exact hf k hk) (fun j j0 j1 => ?_)
    by_cases z : j = i
    · subst z; rw [qU_s]
    · rw [qU_i z]; exact hj j j0 (by omega)
theorem bx_fill {x : Int} {M : qM} (hx : qR x) : qOk g d j_J7_fill_53178 [.inr 52, .inl x] M (qN fun M1 => (∀ k, k ≠ 52 → M1 k = M k) ∧ ∀ j, 0 ≤ j → j < 100 → M1 52 j = x) :=
  e_J7_fill_53178_done hx (fun C hC hQ => lx_fill hx hC hQ (fun M1 h1 h2 => ⟨h1, h2⟩) 100 0 M (by omega) (by omega) (fun _ _ => rfl) (fun j j0 j1 => by omega))
theorem lx_rd12 {M0 : qM} {K : qM → Prop} (hv : voV V) (hb : bkV (bv M0 1) V) (hC : qCk g C cX2_readDone RX2 3 (d + 3)) (hQ : qRt g C none (qN K))
    (hK : ∀ M' : qM, (∀ k, k ≠ 52 → M' k = M0 k) → (∀ c, 0 ≤ c → c < 10 → ∀ j, 0 ≤ j → j < 10 → M' 52 (c * 10 + j) = nvF (dnV V c j)) → K M') :
    ∀ (k : Nat) (t : Int) (M : qM), 0 ≤ t → t + k = V 0 2 → (∀ k, k ≠ 52 → M k = M0 k) → (∀ c, 0 ≤ c → c < 10 → ∀ j, 0 ≤ j → j < 10 → M 52 (c * 10 + j) = nvF (dtV V c t.toNat j)) → qW g C 12 [some (.inr 51), some (.inr 1), some (.inl t)] [] M := by
  obtain ⟨hvn, -⟩ := id hv
  intro k
  induction k with
  | zero =>
    intro t M h0 h1 hf hj
    have e0 := bk_nT (bk_fr hb (M1 := M) (fun k hk => hf k (by omega)))
    refine s_X2_readDone_12 hC hQ (by omega) ⟨fun _ => hK M hf ?_, fun c => absurd c (by omega)⟩
    unfold dnV
    rw [show (V 0 2).toNat = t.toNat by omega]
    exact hj
  | succ k ih =>
    intro t M h0 h1 hf hj
    have hb' := bk_fr hb (M1 := M) (fun k hk => hf k (by omega))
    have e0 := bk_nT hb'
    refine s_X2_readDone_12 hC hQ (by omega) ⟨fun c => absurd c (by omega), fun _ => ?_⟩
    refine (bx_readTask hv hb' h0 (by omega) hj).monoN (fun M1 _ h => ?_)
    obtain ⟨h2, h3⟩ := h
    refine ih (t + 1) M1 (by omega) (by omega) (fun k hk => by rw [h2 k hk]; exact hf k hk) ?_
    rw [show (t + 1).toNat = t.toNat + 1 by omega]
    exact h3
theorem bx_readDone {M : qM} (hv : voV V) (hb : bkV (bv M 1) V) : qOk g (d + 3) j_X2_readDone [.inr 51, .inr 1] M (qN fun M1 => (∀ k, k ≠ 52 → M1 k = M k) ∧ ∀ c, 0 ≤ c → c < 10 → ∀ j, 0 ≤ j → j < 10 → M1 52 (c * 10 + j) = nvF (dnV V c j)) := by
  obtain ⟨hvn, -⟩ := id hv
  refine e_X2_readDone (fun C hC hQ => ?_)
  refine (bx_fill (by decide)).monoN (fun M1 _ h => ?_)
  refine lx_rd12 (M0 := M) hv hb hC hQ (fun M' h1 h2 => ⟨h1, h2⟩) (V 0 2).toNat 0 M1 (by omega) (by omega) h.1 (fun c c0 c1 j j0 j1 => ?_)
  rw [h.2 _ (by omega) (by omega)]
  rfl
end DONEX
