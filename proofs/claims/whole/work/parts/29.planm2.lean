/-! the plan: the reference's findPlan, plan, planned -/
section PLANM2
variable {g : qG} {C : qX} {d : Nat} {V M0 : qM} {rt : Int}
theorem lm_fp2 {K : qM → Prop} (hv : voV V) (hm : Mv M0 V) (hC : qCk g C cX8_findPlan RX8 3 (d + 2)) (hnext : ∀ M : qM, (∀ k, k ≠ 82 → M k = M0 k) → (∀ p, 0 ≤ p → p < 4 → M 82 p = szV V p) → qW g C 26 [some (.inr 63), some (.inl 0), none] [] M) (hQ : qRt g C none (qN K)) :
    ∀ (k : Nat) (i : Int) (M : qM), 0 ≤ i → i + k = 4 → (∀ k, k ≠ 82 → M k = M0 k) → (∀ p, 0 ≤ p → p < i → M 82 p = szV V p) → qW g C 2 [some (.inr 63), some (.inl i), none] [] M := by
  intro k
  induction k with
  | zero =>
    intro i M h0 h1 hf hj
    exact s_X8_findPlan_2 hC hQ (by omega) ⟨fun _ => hnext M hf (fun p p0 p1 => hj p p0 (by omega)), fun z => by omega⟩
  | succ k ih =>
    intro i M h0 h1 hf hj
    refine s_X8_findPlan_2 hC hQ (by omega) ⟨fun z => by omega, fun _ => ?_⟩
    refine (bm_sizeOf hv (fun a ha => by rw [hf _ (by omega)]; exact hm a ha) (by omega)).monoI (fun y M1 _ _ hy => ?_)
    obtain ⟨rfl, rfl⟩ := hy
    refine ⟨by omega, ih (i + 1) _ (by omega) (by omega) (fun k hk => by rw [qU_f hk]; exact hf k hk) (fun p p0 p1 => ?_)⟩
    by_cases z : p = i
    · subst z; rw [qU_s]
    · rw [qU_i z]; exact hj p p0 (by omega)
theorem lm_fp40 {K : qM → Prop} {w : Int} (hv : voV V) (hm : Mv M0 V) (hr : M0 63 13 = rt) (hrt : 1 ≤ rt ∧ rt ≤ 10) (w0 : 0 ≤ w) (w1 : w < 5) (hC : qCk g C cX8_findPlan RX8 3 (d + 2)) (hQ : qRt g C none (qN K)) (hnext : ∀ M : qM, (∀ k, k ≠ 83 → M k = M0 k) → (∀ j, j ≠ w → M 83 j = M0 83 j) → M 83 w = rmV V rt w → qW g C 26 [some (.inr 63), some (.inl (w + 1)), none] [] M) :
    ∀ (k i : Nat) (M : qM), (i : Int) + k = V 0 1 → (∀ k, k ≠ 83 → M k = M0 k) → (∀ j, j ≠ w → M 83 j = M0 83 j) → M 83 w = rmF (V 5) w rt i → qW g C 40 [some (.inr 63), some (.inl w), some (.inl (i : Int))] [] M := by
  obtain ⟨hvn, -⟩ := id hv
  intro k
  induction k with
  | zero =>
    intro i M h1 hf hj hw
    have e0 : M 64 1 = V 0 1 := by rw [hf 64 (by decide), show M0 64 = V 0 from hm 0 (by decide)]
    refine s_X8_findPlan_40 hC hQ (by omega) (by omega) ⟨fun _ => hnext M hf hj ?_, fun z => by omega⟩
    rw [hw]
    unfold rmV
    rw [show (V 0 1).toNat = i by omega]
  | succ k ih =>
    intro i M h1 hf hj hw
    have e0 : M 64 1 = V 0 1 := by rw [hf 64 (by decide), show M0 64 = V 0 from hm 0 (by decide)]
    have e5 : M 69 = V 5 := by rw [hf 69 (by decide)]; exact hm 5 (by decide)
    have er : M 63 13 = rt := by rw [hf 63 (by decide)]; exact hr
    have b := rmF_r (f := V 5) (w := w) (rt := rt) (by omega) i
    have b2 : rt * (i : Int) ≤ 10 * 5 := Int.mul_le_mul (by omega) (by omega) (by omega) (by decide)
    have stp : ∀ z, z = (if qAnd (qShr (V 5 (i : Int)) w) 1 = 1 then rt else 0) → qW g C 40 [some (.inr 63), some (.inl w), some (.inl ((i : Int) + 1))] [] (qU M 83 w (M 83 w + z)) := by
      intro z hz
      have nxt := ih (i + 1) (qU M 83 w (M 83 w + z)) (by omega) (fun k hk => by rw [qU_f hk]; exact hf k hk) (fun j hjw => by rw [qU_i hjw]; exact hj j hjw) (by rw [qU_s, hw, hz]; rfl)
      rw [show ((i + 1 : Nat) : Int) = (i : Int) + 1 by omega] at nxt
      exact nxt
    refine s_X8_findPlan_40 hC hQ (by omega) (by omega) ⟨fun z => by omega, fun _ => ⟨by omega, by omega, ?_⟩⟩
    rw [e5, er]
    refine ⟨fun z => ⟨by omega, stp 0 (by rw [if_neg z])⟩, fun z => ⟨by omega, stp rt (by rw [if_pos z])⟩⟩
theorem lm_fp26 {K : qM → Prop} (hv : voV V) (hm : Mv M0 V) (hr : M0 63 13 = rt) (hrt : 1 ≤ rt ∧ rt ≤ 10) (hC : qCk g C cX8_findPlan RX8 3 (d + 2)) (hQ : qRt g C none (qN K)) (hnext : ∀ M : qM, (∀ k, k ≠ 83 → M k = M0 k) → (∀ w, 0 ≤ w → w < 5 → M 83 w = rmV V rt w) → qW g C 112 [some (.inr 63), some (.inl 0), none] [] (qU (qU (qU M 63 22 (-1)) 63 23 0) 80 0 (-1))) :
    ∀ (k : Nat) (i : Int) (M : qM), 0 ≤ i → i + k = 5 → (∀ k, k ≠ 83 → M k = M0 k) → (∀ w, 0 ≤ w → w < i → M 83 w = rmV V rt w) → qW g C 26 [some (.inr 63), some (.inl i), none] [] M := by
  obtain ⟨hvn, -⟩ := id hv
  intro k
  induction k with
  | zero =>
    intro i M h0 h1 hf hj
    exact s_X8_findPlan_26 hC hQ (by omega) ⟨fun _ => hnext M hf (fun w w0 w1 => hj w w0 (by omega)), fun z => by omega⟩
  | succ k ih =>
    intro i M h0 h1 hf hj
    refine s_X8_findPlan_26 hC hQ (by omega) ⟨fun z => by omega, fun _ => ⟨by omega, ?_⟩⟩
    refine lm_fp40 (M0 := qU M 83 i 0) (w := i) (rt := rt) hv (fun a ha => by rw [qU_f (by omega), hf _ (by omega)]; exact hm a ha) (by rw [qU_f (by decide), hf 63 (by decide)]; exact hr) hrt h0 (by omega) hC hQ (fun M' f1 f2 f3 => ?_) (V 0 1).toNat 0 _ (by omega) (fun _ _ => rfl) (fun _ _ => rfl) (by rw [qU_s]; rfl)
    refine ih (i + 1) M' (by omega) (by omega) (fun k hk => by rw [f1 k hk, qU_f hk]; exact hf k hk) (fun w w0 w1 => ?_)
    by_cases z : w = i
    · subst z; exact f3
    · rw [f2 w z, qU_i z]; exact hj w w0 (by omega)
/-- what findPlan leaves -/
def fpM (M M1 V : qM) (rt : Int) : Prop := (∀ k, k < 63 → M1 k = M k) ∧ (∀ k, 64 ≤ k → k < 80 → M1 k = M k) ∧ (∀ j, j ≠ 22 → j ≠ 23 → M1 63 j = M 63 j) ∧ M1 63 22 = (plF (pxV V rt)).1 ∧ M1 63 23 = (plF (pxV V rt)).2.1 ∧ chM M1 81 (plF (pxV V rt)).2.2 ∧ ∀ p, 0 ≤ p → p < 4 → M1 82 p = szV V p
theorem bm_findPlan {M : qM} (hv : voV V) (hm : Mv M V) (hr : M 63 13 = rt) (hrt : 1 ≤ rt ∧ rt ≤ 10) : qOk g (d + 2) j_X8_findPlan [.inr 63] M (qN fun M1 => fpM M M1 V rt) := by
  refine e_X8_findPlan (fun C hC hQ => ?_)
  refine lm_fp2 (M0 := M) hv hm hC (fun Ma fa ha => ?_) hQ 4 0 M (by omega) (by omega) (fun _ _ => rfl) (fun p p0 p1 => by omega)
  refine lm_fp26 (M0 := Ma) (rt := rt) hv (fun a h => by rw [fa _ (by omega)]; exact hm a h) (by rw [fa 63 (by decide)]; exact hr) hrt hC hQ (fun Mb fb hb => ?_) 5 0 Ma (by omega) (by omega) (fun _ _ => rfl) (fun w w0 w1 => by omega)
  have hpm : Pm Mb (pxV V rt) := by
    refine ⟨?_, ?_, ?_, ?_, fun p p0 p1 => ?_, hb⟩
    · rw [fb 64 (by decide), fa 64 (by decide), show M 64 = V 0 from hm 0 (by decide)]; rfl
    · rw [fb 74 (by decide), fa 74 (by decide)]; exact hm 10 (by decide)
    · rw [fb 75 (by decide), fa 75 (by decide)]; exact hm 11 (by decide)
    · rw [fb 76 (by decide), fa 76 (by decide)]; exact hm 12 (by decide)
    · rw [fb 82 (by decide)]; exact ha p p0 p1
  have hs : srM Mb (qU (qU (qU Mb 63 22 (-1)) 63 23 0) 80 0 (-1)) (pxV V rt) [] (-1, 0, []) := by
    refine ⟨fun k k1 k2 k3 => by rw [qU_f k2, qU_f k1, qU_f k1], fun j j1 j2 => by rw [qU_f (by decide), qU_i j2, qU_i j1], hpm.c (fun k k1 k2 _ => by rw [qU_f k2, qU_f k1, qU_f k1]), (fun i hi => absurd hi (Nat.not_lt_zero i)), ⟨by rw [qU_f (by decide), qU_i (by decide), qU_s], by rw [qU_f (by decide), qU_s], (fun i hi => absurd hi (Nat.not_lt_zero i))⟩, by decide⟩
  refine lm_fp112 (M0 := Mb) (px_ok hv hrt) hC hQ 3 [] rfl (fun o ho => by cases ho) 16 0 rfl _ (-1, 0, []) hs (by rw [show (([] : List Int).length : Int) = 0 from rfl, qU_s]; rfl) (fun M' hM' => ?_)
  rw [← rn_eq] at hM'
  obtain ⟨s1, s2, s3, s4, s5, s6⟩ := hM'
  refine s_X8_findPlan_112 hC hQ (by decide) ⟨fun _ => ⟨fun k hk => ?_, fun k k1 k2 => ?_, fun j j1 j2 => ?_, s5.1, s5.2.1, s5.2.2, fun p p0 p1 => s3.2.2.2.2.1 p p0 p1⟩, fun z => absurd z (by decide)⟩
  · rw [s1 k (by omega) (by omega) (by omega), fb k (by omega), fa k (by omega)]
  · rw [s1 k (by omega) (by omega) (by omega), fb k (by omega), fa k (by omega)]
  · rw [s2 j j1 j2, fb 63 (by decide), fa 63 (by decide)]
end PLANM2
theorem Mi.fp {M M1 V Vk : qM} {kp rt : Int} (h : Mi M V Vk kp rt) (hf : fpM M M1 V rt) : Mi M1 V Vk kp rt := by
  obtain ⟨h1, h2, h3, h4⟩ := h
  obtain ⟨f1, f2, f3, -⟩ := hf
  exact ⟨fun a ha => by rw [f2 _ (by omega) (by omega)]; exact h1 a ha, by rw [f3 14 (by decide) (by decide)]; exact h2, by rw [f2 77 (by decide) (by decide)]; exact h3, by rw [f3 13 (by decide) (by decide)]; exact h4⟩
-- plan
def vPlan (p : Int) (V : qM) (rt : Int) : Int := if 0 ≤ p ∧ p ≤ 3 then (if (plF (pxV V rt)).2.2.getD p.toNat 15 = 15 then -3 else (plF (pxV V rt)).2.2.getD p.toNat 15) else -1
def oPlan (p : Int) (V : qM) (rt : Int) : Int × qM × Int := (vPlan p V rt, V, rt)
theorem m_plan {g : qG} {d : Nat} {p : Int} (hp : qR p) (M V Vk : qM) (kp rt : Int) (hv : voV V) (hrt : 1 ≤ rt ∧ rt ≤ 10) (h : Mi M V Vk kp rt) : qOk g (d + 3) j_X8_plan [.inr 63, .inl p] M (qI fun r M1 => r = (oPlan p V rt).1 ∧ Mi M1 (oPlan p V rt).2.1 Vk kp (oPlan p V rt).2.2 ∧ ∀ k, k < 63 → M1 k = M k) := by
  refine qOk.kI (fun K hK => e_X8_plan hp ⟨fun c1 => ?_, fun c1 => hK _ _ (mr ?_ h)⟩)
  · refine (bm_findPlan hv h.1 h.2.2.2 hrt).monoN (fun M1 _ hf => ?_)
    have hl := (pl_ch (px_ok hv hrt)).1
    have e : M1 81 p = (plF (pxV V rt)).2.2.getD p.toNat 15 := by
      have := hf.2.2.2.2.2.1 p.toNat (by omega)
      rw [show ((p.toNat : Nat) : Int) = p by omega] at this
      exact this
    rw [e]
    refine ⟨by omega, fun z => hK _ _ (ms ?_ (h.fp hf) hf.1), fun z => hK _ _ (ms ?_ (h.fp hf) hf.1)⟩
    · unfold oPlan vPlan; rw [if_pos c1, if_neg z]
    · unfold oPlan vPlan; rw [if_pos c1, if_pos z]
  · unfold oPlan vPlan; rw [if_neg (by omega)]
-- planned
def vPlanned (w : Int) (V : qM) (rt : Int) : Int := if 0 ≤ w ∧ w ≤ 6 then (if w = 0 then (plF (pxV V rt)).1 else if w = 1 then (plF (pxV V rt)).2.1 else awL (szV V) (w - 2) 0 (plF (pxV V rt)).2.2) else -1
def oPlanned (w : Int) (V : qM) (rt : Int) : Int × qM × Int := (vPlanned w V rt, V, rt)
theorem lm_pd41 {g : qG} {C : qX} {d : Nat} {V M : qM} {l : List Int} {w : Int} {K : Int → qM → Prop} (hsz : ∀ p, 0 ≤ szV V p ∧ szV V p ≤ 10) (hs : ∀ p, 0 ≤ p → p < 4 → M 82 p = szV V p) (hl : chM M 81 l) (hc : chL l) (hn : l.length = 4) (w0 : 2 ≤ w) (w1 : w ≤ 6) (hC : qCk g C cX8_planned RX8 4 (d + 3)) (hQ : qRt g C (some .int) (qI K)) (hK : K (awL (szV V) (w - 2) 0 l) M) :
    ∀ (r a : List Int), l = a ++ r → qW g C 41 [some (.inr 63), some (.inl w), some (.inl (awL (szV V) (w - 2) 0 a)), some (.inl (a.length : Int))] [] M := by
  intro r
  induction r with
  | nil =>
    intro a e
    rw [List.append_nil] at e
    subst e
    have b := awL_r (w := w - 2) hsz l 0
    exact s_X8_planned_41 hC hQ (by omega) (by omega) (by omega) ⟨fun _ => hK, fun z => by omega⟩
  | cons o r ih =>
    intro a e
    have hlen : l.length = a.length + r.length + 1 := by rw [e]; simp; omega
    have ho : M 81 (a.length : Int) = o := by rw [hl a.length (by omega), e]; exact gd_at a r o
    have oc := hc o (by rw [e]; simp)
    have b := awL_r (w := w - 2) hsz a 0
    have nxt := ih (a ++ [o]) (by rw [e]; simp)
    rw [awL_app, List.length_append, List.length_singleton, show ((a.length + 1 : Nat) : Int) = (a.length : Int) + 1 by omega, Int.zero_add] at nxt
    refine s_X8_planned_41 hC hQ (by omega) (by omega) (by omega) ⟨fun z => by omega, fun _ => ⟨by omega, ?_⟩⟩
    rw [ho, hs _ (by omega) (by omega)]
    refine ⟨fun z => ?_, fun z => ⟨oc.1, by omega, by omega, fun y => ?_, fun y => ?_⟩⟩
    · rw [if_neg (fun q => q.1 z)] at nxt
      exact nxt
    · rw [if_neg (fun q => y q.2)] at nxt
      exact nxt
    · rw [if_pos ⟨z, y⟩] at nxt
      exact nxt
theorem m_planned {g : qG} {d : Nat} {w : Int} (hw : qR w) (M V Vk : qM) (kp rt : Int) (hv : voV V) (hrt : 1 ≤ rt ∧ rt ≤ 10) (h : Mi M V Vk kp rt) : qOk g (d + 3) j_X8_planned [.inr 63, .inl w] M (qI fun r M1 => r = (oPlanned w V rt).1 ∧ Mi M1 (oPlanned w V rt).2.1 Vk kp (oPlanned w V rt).2.2 ∧ ∀ k, k < 63 → M1 k = M k) := by
  refine qOk.kI (fun K hK => e_X8_planned hw (fun C hC hQ => ⟨fun c1 => ?_, fun c1 => hK _ _ (mr ?_ h)⟩))
  · refine (bm_findPlan hv h.1 h.2.2.2 hrt).monoN (fun M1 _ hf => ?_)
    have hl := pl_ch (px_ok hv hrt)
    refine ⟨fun z => ?_, fun z => ⟨fun y => ?_, fun y => ?_⟩⟩
    · refine lm_pd41 (l := (plF (pxV V rt)).2.2) (fun p => (px_ok hv hrt).1 p) hf.2.2.2.2.2.2 hf.2.2.2.2.2.1 hl.2.1 hl.1 z (by omega) hC hQ (hK _ _ (ms ?_ (h.fp hf) hf.1)) (plF (pxV V rt)).2.2 [] rfl
      unfold oPlanned vPlanned; rw [if_pos c1, if_neg (by omega), if_neg (by omega)]
    · rw [hf.2.2.2.2.1]
      refine hK _ _ (ms ?_ (h.fp hf) hf.1)
      unfold oPlanned vPlanned; rw [if_pos c1, if_neg y, if_pos (by omega)]
    · rw [hf.2.2.2.1]
      refine hK _ _ (ms ?_ (h.fp hf) hf.1)
      unfold oPlanned vPlanned; rw [if_pos c1, if_pos y]
  · unfold oPlanned vPlanned; rw [if_neg (by omega)]
