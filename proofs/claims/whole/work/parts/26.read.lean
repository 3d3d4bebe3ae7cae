/-! the calls that read: done, held, lacks, badges, of, many -/
section FR
variable {M M1 V Vk : qM} {kp rt : Int}
theorem Xi.fr (h : Xi M V Vk kp rt) (hf : ∀ k, k ≠ 52 → k ≠ 53 → M1 k = M k) : Xi M1 V Vk kp rt := by
  obtain ⟨h1, h2, h3, h4, h5, h6⟩ := h
  refine ⟨bv_c (fun k _ _ => hf k (by omega) (by omega)) h1, by rw [hf 0 (by decide) (by decide)]; exact h2, fun e => bv_c (fun k _ _ => hf k (by omega) (by omega)) (h3 e), by rw [hf 0 (by decide) (by decide)]; exact h4, by rw [hf 0 (by decide) (by decide)]; exact h5, fun e => ?_⟩
  rw [hf 0 (by decide) (by decide)] at e
  obtain ⟨a1, a2, a3, a4⟩ := h6 e
  exact ⟨by rw [hf 54 (by decide) (by decide)]; exact a1, by rw [hf 54 (by decide) (by decide)]; exact a2, by rw [hf 62 (by decide) (by decide)]; exact a3, by rw [hf 55 (by decide) (by decide)]; exact a4⟩
theorem Mi.fr (h : Mi M V Vk kp rt) (hf : ∀ k, k ≠ 78 → k ≠ 79 → M1 k = M k) : Mi M1 V Vk kp rt := by
  obtain ⟨h1, h2, h3, h4⟩ := h
  exact ⟨fun a ha => by rw [hf _ (by omega) (by omega)]; exact h1 a ha, by rw [hf 63 (by decide) (by decide)]; exact h2, by rw [hf 77 (by decide) (by decide)]; exact h3, by rw [hf 63 (by decide) (by decide)]; exact h4⟩
theorem xf {r : Int} {o : Int × qM × Int} (e : o = (r, V, rt)) (h : Xi M V Vk kp rt) (hf : ∀ k, k ≠ 52 → k ≠ 53 → M1 k = M k) : r = o.1 ∧ Xi M1 o.2.1 Vk kp o.2.2 ∧ ∀ k, 63 ≤ k → M1 k = M k := by
  subst e; exact ⟨rfl, h.fr hf, fun k hk => hf k (by omega) (by omega)⟩
theorem mf {r : Int} {o : Int × qM × Int} (e : o = (r, V, rt)) (h : Mi M V Vk kp rt) (hf : ∀ k, k ≠ 78 → k ≠ 79 → M1 k = M k) : r = o.1 ∧ Mi M1 o.2.1 Vk kp o.2.2 ∧ ∀ k, k < 63 → M1 k = M k := by
  subst e; exact ⟨rfl, h.fr hf, fun k hk => hf k (by omega) (by omega)⟩
end FR
theorem dX.fr {M M1 V : qM} (h : dX M V) (hf : M1 52 = M 52) : dX M1 V := fun c c0 c1 j j0 j1 => by rw [hf]; exact h c c0 c1 j j0 j1
theorem v_same {V : qM} {r rt : Int} {o : Int × qM × Int} (hv : voV V) (hrt : 1 ≤ rt ∧ rt ≤ 10) (e : o = (r, V, rt)) : voV o.2.1 ∧ (1 ≤ o.2.2 ∧ o.2.2 ≤ 10) := by subst e; exact ⟨hv, hrt⟩
-- done
def vDone (c t : Int) (V : qM) : Int := if (0 ≤ c ∧ c < V 0 0) ∧ (0 ≤ t ∧ t < V 0 2) then (if dnV V c t < 0 then -3 else dnV V c t) else -1
def oDone (c t : Int) (V : qM) (rt : Int) : Int × qM × Int := (vDone c t V, V, rt)
theorem x_done {g : qG} {d : Nat} {c t : Int} (hc : qR c) (ht : qR t) (M V Vk : qM) (kp rt : Int) (hv : voV V) (hrt : 1 ≤ rt ∧ rt ≤ 10) (h : Xi M V Vk kp rt) : qOk g (d + 4) j_X7_done [.inr 0, .inl c, .inl t] M (qI fun r M1 => r = (oDone c t V rt).1 ∧ Xi M1 (oDone c t V rt).2.1 Vk kp (oDone c t V rt).2.2 ∧ ∀ k, 63 ≤ k → M1 k = M k) := by
  have n1 := bk_nC h.1
  have n2 := bk_nT h.1
  obtain ⟨hvn, -⟩ := id hv
  refine qOk.kI (fun K hK => e_X7_done hc ht ⟨fun c1 => ⟨fun c2 => ?_, fun c2 => hK _ _ (xr ?_ h)⟩, fun c1 => hK _ _ (xr ?_ h)⟩)
  · refine (bx_readDone hv h.1).monoN (fun M1 _ hx => ?_)
    have q := hx.2 c (by omega) (by omega) t (by omega) (by omega)
    have r := nvF_r (dn_r (c := c) hv t)
    rw [q]
    refine ⟨by omega, fun z => hK _ _ (xf ?_ h (fun k k1 _ => hx.1 k k1)), fun z => hK _ _ (xf ?_ h (fun k k1 _ => hx.1 k k1))⟩
    · have : dnV V c t < 0 := by by_cases y : dnV V c t < 0; exact y; have := r.2.2.2 (by omega); have := dn_r (c := c) hv t; omega
      unfold oDone vDone; rw [if_pos (by omega), if_pos this]
    · have : 0 ≤ dnV V c t := by by_cases y : dnV V c t < 0; (have := r.2.2.1 y; omega); omega
      unfold oDone vDone; rw [if_pos (by omega), if_neg (by omega), nv_p this]
  · unfold oDone vDone; rw [if_neg (by omega)]
  · unfold oDone vDone; rw [if_neg (by omega)]
theorem m_done {g : qG} {d : Nat} {c t : Int} (hc : qR c) (ht : qR t) (M V Vk : qM) (kp rt : Int) (hv : voV V) (hrt : 1 ≤ rt ∧ rt ≤ 10) (h : Mi M V Vk kp rt) : qOk g (d + 2) j_X8_done [.inr 63, .inl c, .inl t] M (qI fun r M1 => r = (oDone c t V rt).1 ∧ Mi M1 (oDone c t V rt).2.1 Vk kp (oDone c t V rt).2.2 ∧ ∀ k, k < 63 → M1 k = M k) := by
  obtain ⟨hvn, vC, vL, vT, vB, vS, vW⟩ := id hv
  have m0 : M 64 = V 0 := h.1 0 (by decide)
  have m1 : M 65 = V 1 := h.1 1 (by decide)
  have m2 : M 66 = V 2 := h.1 2 (by decide)
  have m3 : M 67 = V 3 := h.1 3 (by decide)
  have m4 : M 68 = V 4 := h.1 4 (by decide)
  have m5 : M 69 = V 5 := h.1 5 (by decide)
  have m6 : M 70 = V 6 := h.1 6 (by decide)
  have m7 : M 71 = V 7 := h.1 7 (by decide)
  have m8 : M 72 = V 8 := h.1 8 (by decide)
  have m9 : M 73 = V 9 := h.1 9 (by decide)
  have m10 : M 74 = V 10 := h.1 10 (by decide)
  have m11 : M 75 = V 11 := h.1 11 (by decide)
  have m12 : M 76 = V 12 := h.1 12 (by decide)
  refine qOk.kI (fun K hK => e_X8_done hc ht ?_)
  simp only [m0]
  refine ⟨by omega, fun c1 => ⟨by omega, fun c2 => ?_, fun c2 => hK _ _ (mr ?_ h)⟩, fun c1 => hK _ _ (mr ?_ h)⟩
  · refine (bm_findDone hv h.1 hc).monoN (fun M1 _ hx => ?_)
    rw [hx.2 t (by omega) (by omega)]
    refine ⟨by omega, fun z => hK _ _ (mf ?_ h (fun k k1 _ => hx.1 k k1)), fun z => hK _ _ (mf ?_ h (fun k k1 _ => hx.1 k k1))⟩
    · unfold oDone vDone; rw [if_pos (by omega), if_neg (by omega)]
    · unfold oDone vDone; rw [if_pos (by omega), if_pos (by omega)]
  · unfold oDone vDone; rw [if_neg (by omega)]
  · unfold oDone vDone; rw [if_neg (by omega)]
-- held
def vHeld (c b : Int) (V : qM) : Int := if (0 ≤ c ∧ c < V 0 0) ∧ (0 ≤ b ∧ b < V 0 4) then (if hdV V c b < 0 then -3 else hdV V c b) else -1
def oHeld (c b : Int) (V : qM) (rt : Int) : Int × qM × Int := (vHeld c b V, V, rt)
theorem x_held {g : qG} {d : Nat} {c b : Int} (hc : qR c) (hb : qR b) (M V Vk : qM) (kp rt : Int) (hv : voV V) (hrt : 1 ≤ rt ∧ rt ≤ 10) (h : Xi M V Vk kp rt) : qOk g (d + 5) j_X7_held [.inr 0, .inl c, .inl b] M (qI fun r M1 => r = (oHeld c b V rt).1 ∧ Xi M1 (oHeld c b V rt).2.1 Vk kp (oHeld c b V rt).2.2 ∧ ∀ k, 63 ≤ k → M1 k = M k) := by
  have n1 := bk_nC h.1
  have n2 := bk_nB h.1
  obtain ⟨hvn, -⟩ := id hv
  refine qOk.kI (fun K hK => e_X7_held hc hb ⟨fun c1 => ⟨fun c2 => ?_, fun c2 => hK _ _ (xr ?_ h)⟩, fun c1 => hK _ _ (xr ?_ h)⟩)
  · refine (bx_readDone hv h.1).monoN (fun M1 _ hx => ?_)
    refine (bx_readHeld hv (bk_fr h.1 (fun k hk => hx.1 k (by omega))) hx.2 (by omega) (by omega)).monoN (fun M2 _ hy => ?_)
    have q := hy.2 b (by omega) (by omega)
    have r := nvF_r (hd_r (V := V) (c := c) b)
    rw [q]
    have hf : ∀ k, k ≠ 52 → k ≠ 53 → M2 k = M k := fun k k1 k2 => by rw [hy.1 k k2]; exact hx.1 k k1
    refine ⟨by omega, fun z => hK _ _ (xf ?_ h hf), fun z => hK _ _ (xf ?_ h hf)⟩
    · have : hdV V c b < 0 := by by_cases y : hdV V c b < 0; exact y; have := r.2.2.2 (by omega); have := hd_r (V := V) (c := c) b; omega
      unfold oHeld vHeld; rw [if_pos (by omega), if_pos this]
    · have : 0 ≤ hdV V c b := by by_cases y : hdV V c b < 0; (have := r.2.2.1 y; omega); omega
      unfold oHeld vHeld; rw [if_pos (by omega), if_neg (by omega), nv_p this]
  · unfold oHeld vHeld; rw [if_neg (by omega)]
  · unfold oHeld vHeld; rw [if_neg (by omega)]
theorem m_held {g : qG} {d : Nat} {c b : Int} (hc : qR c) (hb : qR b) (M V Vk : qM) (kp rt : Int) (hv : voV V) (hrt : 1 ≤ rt ∧ rt ≤ 10) (h : Mi M V Vk kp rt) : qOk g (d + 3) j_X8_held [.inr 63, .inl c, .inl b] M (qI fun r M1 => r = (oHeld c b V rt).1 ∧ Mi M1 (oHeld c b V rt).2.1 Vk kp (oHeld c b V rt).2.2 ∧ ∀ k, k < 63 → M1 k = M k) := by
  obtain ⟨hvn, vC, vL, vT, vB, vS, vW⟩ := id hv
  have m0 : M 64 = V 0 := h.1 0 (by decide)
  have m1 : M 65 = V 1 := h.1 1 (by decide)
  have m2 : M 66 = V 2 := h.1 2 (by decide)
  have m3 : M 67 = V 3 := h.1 3 (by decide)
  have m4 : M 68 = V 4 := h.1 4 (by decide)
  have m5 : M 69 = V 5 := h.1 5 (by decide)
  have m6 : M 70 = V 6 := h.1 6 (by decide)
  have m7 : M 71 = V 7 := h.1 7 (by decide)
  have m8 : M 72 = V 8 := h.1 8 (by decide)
  have m9 : M 73 = V 9 := h.1 9 (by decide)
  have m10 : M 74 = V 10 := h.1 10 (by decide)
  have m11 : M 75 = V 11 := h.1 11 (by decide)
  have m12 : M 76 = V 12 := h.1 12 (by decide)
  refine qOk.kI (fun K hK => e_X8_held hc hb ?_)
  simp only [m0]
  refine ⟨by omega, fun c1 => ⟨by omega, fun c2 => ?_, fun c2 => hK _ _ (mr ?_ h)⟩, fun c1 => hK _ _ (mr ?_ h)⟩
  · refine (bm_findHeld hv h.1 (by omega) (by omega)).monoN (fun M1 _ hx => ?_)
    rw [hx.2.2 b (by omega) (by omega)]
    refine ⟨by omega, fun z => hK _ _ (mf ?_ h hx.1), fun z => hK _ _ (mf ?_ h hx.1)⟩
    · unfold oHeld vHeld; rw [if_pos (by omega), if_neg (by omega)]
    · unfold oHeld vHeld; rw [if_pos (by omega), if_pos (by omega)]
  · unfold oHeld vHeld; rw [if_neg (by omega)]
  · unfold oHeld vHeld; rw [if_neg (by omega)]
-- badges
def vBadges (c day : Int) (V : qM) : Int := if (0 ≤ c ∧ c < V 0 0) ∧ (0 ≤ day ∧ day ≤ 999) then nhF (hdV V c) day (V 0 4).toNat else -1
def oBadges (c day : Int) (V : qM) (rt : Int) : Int × qM × Int := (vBadges c day V, V, rt)
theorem x_badges {g : qG} {d : Nat} {c day : Int} (hc : qR c) (hd : qR day) (M V Vk : qM) (kp rt : Int) (hv : voV V) (hrt : 1 ≤ rt ∧ rt ≤ 10) (h : Xi M V Vk kp rt) : qOk g (d + 5) j_X7_badges [.inr 0, .inl c, .inl day] M (qI fun r M1 => r = (oBadges c day V rt).1 ∧ Xi M1 (oBadges c day V rt).2.1 Vk kp (oBadges c day V rt).2.2 ∧ ∀ k, 63 ≤ k → M1 k = M k) := by
  have n1 := bk_nC h.1
  obtain ⟨hvn, -⟩ := id hv
  refine qOk.kI (fun K hK => e_X7_badges hc hd ⟨fun c1 => ⟨fun c2 => ?_, fun c2 => hK _ _ (xr ?_ h)⟩, fun c1 => hK _ _ (xr ?_ h)⟩)
  · refine (bx_readDone hv h.1).monoN (fun M1 _ hx => ?_)
    have hb1 := bk_fr h.1 (fun k hk => hx.1 k (by omega))
    refine (bx_readHeld hv hb1 hx.2 (by omega) (by omega)).monoN (fun M2 _ hy => ?_)
    refine (bx_countHeld hv (bk_fr hb1 (fun k hk => hy.1 k (by omega))) hy.2 (by omega) (by omega)).monoI (fun x M3 _ _ hz => ?_)
    obtain ⟨rfl, rfl⟩ := hz
    refine hK _ _ (xf ?_ h (fun k k1 k2 => by rw [hy.1 k k2]; exact hx.1 k k1))
    unfold oBadges vBadges; rw [if_pos (by omega)]
  · unfold oBadges vBadges; rw [if_neg (by omega)]
  · unfold oBadges vBadges; rw [if_neg (by omega)]
theorem lm_bg28 {g : qG} {C : qX} {d : Nat} {V M : qM} {c day : Int} {K : Int → qM → Prop} (hv : voV V) (e0 : M 64 4 = V 0 4) (hc : qR c) (hd : qR day) (hC : qCk g C cX8_badges RX8 5 (d + 3)) (hQ : qRt g C (some .int) (qI K)) (hj : ∀ j, 0 ≤ j → j < V 0 4 → M 79 j = hdV V c j) (hK : K (nhF (hdV V c) day (V 0 4).toNat) M) :
    ∀ (k i : Nat), (i : Int) + k = V 0 4 → qW g C 28 [some (.inr 63), some (.inl c), some (.inl day), some (.inl (nhF (hdV V c) day i)), some (.inl (i : Int))] [] M := by
  obtain ⟨hvn, -⟩ := id hv
  intro k
  induction k with
  | zero =>
    intro i h1
    have r := nh_r (hdV V c) day i
    rw [show (V 0 4).toNat = i by omega] at hK
    exact s_X8_badges_28 hC hQ hc hd (by omega) (by omega) ⟨fun _ => hK, fun z => by omega⟩
  | succ k ih =>
    intro i h1
    have r := nh_r (hdV V c) day i
    have nxt := ih (i + 1) (by omega)
    rw [show ((i + 1 : Nat) : Int) = (i : Int) + 1 by omega] at nxt
    simp only [nhF] at nxt
    have q := hj i (by omega) (by omega)
    refine s_X8_badges_28 hC hQ hc hd (by omega) (by omega) ⟨fun z => by omega, fun _ => ⟨by omega, fun z2 => ?_, fun z2 => ⟨fun z3 => ?_, fun z3 => ?_⟩⟩⟩
    · rw [if_neg (by omega)] at nxt
      exact nxt
    · rw [if_neg (by omega)] at nxt
      exact nxt
    · rw [if_pos (by omega)] at nxt
      exact nxt
theorem m_badges {g : qG} {d : Nat} {c day : Int} (hc : qR c) (hd : qR day) (M V Vk : qM) (kp rt : Int) (hv : voV V) (hrt : 1 ≤ rt ∧ rt ≤ 10) (h : Mi M V Vk kp rt) : qOk g (d + 3) j_X8_badges [.inr 63, .inl c, .inl day] M (qI fun r M1 => r = (oBadges c day V rt).1 ∧ Mi M1 (oBadges c day V rt).2.1 Vk kp (oBadges c day V rt).2.2 ∧ ∀ k, k < 63 → M1 k = M k) := by
  obtain ⟨hvn, vC, vL, vT, vB, vS, vW⟩ := id hv
  have m0 : M 64 = V 0 := h.1 0 (by decide)
  have m1 : M 65 = V 1 := h.1 1 (by decide)
  have m2 : M 66 = V 2 := h.1 2 (by decide)
  have m3 : M 67 = V 3 := h.1 3 (by decide)
  have m4 : M 68 = V 4 := h.1 4 (by decide)
  have m5 : M 69 = V 5 := h.1 5 (by decide)
  have m6 : M 70 = V 6 := h.1 6 (by decide)
  have m7 : M 71 = V 7 := h.1 7 (by decide)
  have m8 : M 72 = V 8 := h.1 8 (by decide)
  have m9 : M 73 = V 9 := h.1 9 (by decide)
  have m10 : M 74 = V 10 := h.1 10 (by decide)
  have m11 : M 75 = V 11 := h.1 11 (by decide)
  have m12 : M 76 = V 12 := h.1 12 (by decide)
  refine qOk.kI (fun K hK => e_X8_badges hc hd (fun C hC hQ => ?_))
  simp only [m0]
  refine ⟨by omega, fun c1 => ⟨fun c2 => ?_, fun c2 => hK _ _ (mr ?_ h)⟩, fun c1 => hK _ _ (mr ?_ h)⟩
  · refine (bm_findHeld hv h.1 (by omega) (by omega)).monoN (fun M1 _ hx => ?_)
    refine lm_bg28 hv (by rw [hx.1 64 (by decide) (by decide), m0]) hc hd hC hQ hx.2.2 (hK _ _ (mf ?_ h hx.1)) (V 0 4).toNat 0 (by omega)
    unfold oBadges vBadges; rw [if_pos (by omega)]
  · unfold oBadges vBadges; rw [if_neg (by omega)]
  · unfold oBadges vBadges; rw [if_neg (by omega)]
-- of
def vOf (s w : Int) (V : qM) : Int := if (0 ≤ s ∧ s < V 0 3) ∧ (0 ≤ w ∧ w ≤ 5) then (if w < 5 then V 9 (5 * s + w) else if ctV V (dnV V (V 9 (5 * s))) s then 1 else 0) else -1
def oOf (s w : Int) (V : qM) (rt : Int) : Int × qM × Int := (vOf s w V, V, rt)
theorem x_of {g : qG} {d : Nat} {s w : Int} (hs : qR s) (hw : qR w) (M V Vk : qM) (kp rt : Int) (hv : voV V) (hrt : 1 ≤ rt ∧ rt ≤ 10) (h : Xi M V Vk kp rt) : qOk g (d + 4) j_X7_of [.inr 0, .inl s, .inl w] M (qI fun r M1 => r = (oOf s w V rt).1 ∧ Xi M1 (oOf s w V rt).2.1 Vk kp (oOf s w V rt).2.2 ∧ ∀ k, 63 ≤ k → M1 k = M k) := by
  have n1 := bk_nS h.1
  obtain ⟨hvn, vC, vL, vT, vB, vS, vW⟩ := id hv
  have lf : ∀ j, (0 ≤ s ∧ s < V 0 3) → (0 ≤ j ∧ j < 5) → w = j → oOf s w V rt = (V 9 (5 * s + j), V, rt) := fun j z1 z2 z3 => by
    unfold oOf vOf; rw [z3, if_pos (by omega), if_pos (by omega)]
  refine qOk.kI (fun K hK => e_X7_of hs hw ⟨fun c1 => ⟨fun c2 => hK _ _ (xr ?_ h), fun c2 => ⟨by omega, ?_⟩, fun c2 => ⟨by omega, ?_⟩, fun c2 => ⟨by omega, ?_⟩, fun c2 => ⟨by omega, ?_⟩, fun c2 => ⟨by omega, fun z => ?_, fun z => ?_⟩, fun c2 => ?_⟩, fun c1 => hK _ _ (xr ?_ h)⟩)
  · unfold oOf vOf; rw [if_neg (by omega)]
  · rw [(bk_s h.1 (by omega) (by omega)).1]; exact hK _ _ (xr (by rw [lf 0 (by omega) (by decide) c2, Int.add_zero]) h)
  · rw [(bk_s h.1 (by omega) (by omega)).2.1]; exact hK _ _ (xr (lf 1 (by omega) (by decide) c2) h)
  · rw [(bk_s h.1 (by omega) (by omega)).2.2.1]; exact hK _ _ (xr (lf 2 (by omega) (by decide) c2) h)
  · rw [(bk_s h.1 (by omega) (by omega)).2.2.2.1]; exact hK _ _ (xr (lf 3 (by omega) (by decide) c2) h)
  · rw [(bk_s h.1 (by omega) (by omega)).2.2.2.2] at z
    exact hK _ _ (xr (by rw [lf 4 (by omega) (by decide) c2, z]) h)
  · rw [(bk_s h.1 (by omega) (by omega)).2.2.2.2] at z
    have := (vS s (by omega) (by omega)).2.2.2.2
    exact hK _ _ (xr (by rw [lf 4 (by omega) (by decide) c2, show V 9 (5 * s + 4) = 1 by omega]) h)
  · refine (bx_readDone hv h.1).monoN (fun M1 _ hx => ?_)
    refine (bx_counts hv (bk_fr h.1 (fun k hk => hx.1 k (by omega))) (by omega) (by omega) (dX_s hv hx.2 (by omega) (by omega))).monoI (fun x M2 _ _ hy => ?_)
    obtain ⟨rfl, hy⟩ := hy
    refine ⟨fun z => hK _ _ (xf ?_ h (fun k k1 _ => hx.1 k k1)), fun z => hK _ _ (xf ?_ h (fun k k1 _ => hx.1 k k1))⟩
    · unfold oOf vOf; rw [if_pos (by omega), if_neg (by omega), if_neg (by rcases hy with hy | hy; omega; exact hy.2)]
    · unfold oOf vOf; rw [if_pos (by omega), if_neg (by omega), if_pos (by rcases hy with hy | hy; exact hy.2; omega)]
  · unfold oOf vOf; rw [if_neg (by omega)]
theorem m_of {g : qG} {d : Nat} {s w : Int} (hs : qR s) (hw : qR w) (M V Vk : qM) (kp rt : Int) (hv : voV V) (hrt : 1 ≤ rt ∧ rt ≤ 10) (h : Mi M V Vk kp rt) : qOk g (d + 2) j_X8_of [.inr 63, .inl s, .inl w] M (qI fun r M1 => r = (oOf s w V rt).1 ∧ Mi M1 (oOf s w V rt).2.1 Vk kp (oOf s w V rt).2.2 ∧ ∀ k, k < 63 → M1 k = M k) := by
  obtain ⟨hvn, vC, vL, vT, vB, vS, vW⟩ := id hv
  have m0 : M 64 = V 0 := h.1 0 (by decide)
  have m1 : M 65 = V 1 := h.1 1 (by decide)
  have m2 : M 66 = V 2 := h.1 2 (by decide)
  have m3 : M 67 = V 3 := h.1 3 (by decide)
  have m4 : M 68 = V 4 := h.1 4 (by decide)
  have m5 : M 69 = V 5 := h.1 5 (by decide)
  have m6 : M 70 = V 6 := h.1 6 (by decide)
  have m7 : M 71 = V 7 := h.1 7 (by decide)
  have m8 : M 72 = V 8 := h.1 8 (by decide)
  have m9 : M 73 = V 9 := h.1 9 (by decide)
  have m10 : M 74 = V 10 := h.1 10 (by decide)
  have m11 : M 75 = V 11 := h.1 11 (by decide)
  have m12 : M 76 = V 12 := h.1 12 (by decide)
  refine qOk.kI (fun K hK => e_X8_of hs hw ?_)
  simp only [m0, m9]
  refine ⟨by omega, fun c1 => ⟨fun c2 => ⟨fun c3 => ⟨by omega, ?_⟩, fun c3 => ⟨by omega, hK _ _ (mr ?_ h)⟩⟩, fun c2 => hK _ _ (mr ?_ h)⟩, fun c1 => hK _ _ (mr ?_ h)⟩
  · have a1 := vS s (by omega) (by omega)
    have a2 := vT (V 9 (5 * s + 1)) a1.2.1.1 a1.2.1.2
    refine (bm_findDone hv h.1 (by omega)).monoN (fun M1 _ hx => ?_)
    refine (bm_counts hv (M := M1) (fun a ha => by rw [hx.1 _ (by omega)]; exact h.1 a ha) (by omega) (by omega)).monoI (fun x M2 _ _ hy => ?_)
    obtain ⟨rfl, hy⟩ := hy
    have cc : ctV V (M2 78) s ↔ ctV V (dnV V (V 9 (5 * s))) s := ct_c (fun z => hx.2 _ z (by simp only [tkV]; omega))
    rw [cc] at hy
    refine ⟨fun z => hK _ _ (mf ?_ h (fun k k1 _ => hx.1 k k1)), fun z => hK _ _ (mf ?_ h (fun k k1 _ => hx.1 k k1))⟩
    · unfold oOf vOf; rw [if_pos (by omega), if_neg (by omega), if_neg (by rcases hy with hy | hy; omega; exact hy.2)]
    · unfold oOf vOf; rw [if_pos (by omega), if_neg (by omega), if_pos (by rcases hy with hy | hy; exact hy.2; omega)]
  · unfold oOf vOf; rw [if_pos (by omega), if_pos c3]
  · unfold oOf vOf; rw [if_neg (by omega)]
  · unfold oOf vOf; rw [if_neg (by omega)]
-- many
theorem cP_r (f : Int → Int) (p : Int) : ∀ n : Nat, 0 ≤ cP f p n ∧ cP f p n ≤ n
  | 0 => by simp [cP]
  | n + 1 => by
    have := cP_r f p n
    simp only [cP]
    split <;> omega
theorem lx_cp {g : qG} {C : qX} {d : Nat} {V M : qM} {p : Int} {K : Int → qM → Prop} (hv : voV V) (hb : bkV (bv M 1) V) (hp : qR p) (hC : qCk g C cX3_countPatrol RX3 4 d) (hQ : qRt g C (some .int) (qI K)) (hK : K (szV V p) M) :
    ∀ (k i : Nat), (i : Int) + k = V 0 0 → qW g C 4 [some (.inr 2), some (.inl p), some (.inl (cP (V 2) p i)), some (.inl (i : Int))] [] M := by
  obtain ⟨hvn, -⟩ := id hv
  have e0 := bk_nC hb
  intro k
  induction k with
  | zero =>
    intro i h1
    have r := cP_r (V 2) p i
    unfold szV at hK
    rw [show (V 0 0).toNat = i by omega] at hK
    exact s_X3_countPatrol_4 hC hQ hp (by omega) (by omega) ⟨fun _ => hK, fun z => by omega⟩
  | succ k ih =>
    intro i h1
    have r := cP_r (V 2) p i
    have nxt := ih (i + 1) (by omega)
    rw [show ((i + 1 : Nat) : Int) = (i : Int) + 1 by omega] at nxt
    simp only [cP] at nxt
    have q := (bk_c hb (c := (i : Int)) (by omega) (by omega)).2
    refine s_X3_countPatrol_4 hC hQ hp (by omega) (by omega) ⟨fun z => by omega, fun _ => ⟨by omega, fun z2 => ?_, fun z2 => ?_⟩⟩
    · rw [if_neg (by omega), Int.add_zero] at nxt
      exact nxt
    · rw [if_pos (by omega)] at nxt
      exact nxt
theorem bx_countPatrol {g : qG} {d : Nat} {V M : qM} {p : Int} (hv : voV V) (hb : bkV (bv M 1) V) (hp : qR p) : qOk g d j_X3_countPatrol [.inr 2, .inl p] M (qI fun x M1 => M1 = M ∧ x = szV V p) := by
  obtain ⟨hvn, -⟩ := id hv
  exact e_X3_countPatrol hp (fun C hC hQ => lx_cp hv hb hp hC hQ ⟨rfl, rfl⟩ (V 0 0).toNat 0 (by omega))
theorem lm_sz {g : qG} {C : qX} {d : Nat} {V M : qM} {p : Int} {K : Int → qM → Prop} (hv : voV V) (hm : Mv M V) (hp : qR p) (hC : qCk g C cX8_sizeOf RX8 4 d) (hQ : qRt g C (some .int) (qI K)) (hK : K (szV V p) M) :
    ∀ (k i : Nat), (i : Int) + k = V 0 0 → qW g C 4 [some (.inr 63), some (.inl p), some (.inl (cP (V 2) p i)), some (.inl (i : Int))] [] M := by
  obtain ⟨hvn, -⟩ := id hv
  have e0 : M 64 0 = V 0 0 := by rw [show M 64 = V 0 from hm 0 (by decide)]
  have e2 : M 66 = V 2 := hm 2 (by decide)
  intro k
  induction k with
  | zero =>
    intro i h1
    have r := cP_r (V 2) p i
    unfold szV at hK
    rw [show (V 0 0).toNat = i by omega] at hK
    exact s_X8_sizeOf_4 hC hQ hp (by omega) (by omega) ⟨fun _ => hK, fun z => by omega⟩
  | succ k ih =>
    intro i h1
    have r := cP_r (V 2) p i
    have nxt := ih (i + 1) (by omega)
    rw [show ((i + 1 : Nat) : Int) = (i : Int) + 1 by omega] at nxt
    simp only [cP] at nxt
    refine s_X8_sizeOf_4 hC hQ hp (by omega) (by omega) ⟨fun z => by omega, fun _ => ⟨by omega, fun z2 => ?_, fun z2 => ?_⟩⟩
    · rw [e2] at z2
      rw [if_neg z2] at nxt
      exact nxt
    · rw [e2] at z2
      rw [if_pos z2] at nxt
      exact nxt
theorem bm_sizeOf {g : qG} {d : Nat} {V M : qM} {p : Int} (hv : voV V) (hm : Mv M V) (hp : qR p) : qOk g d j_X8_sizeOf [.inr 63, .inl p] M (qI fun x M1 => M1 = M ∧ x = szV V p) := by
  obtain ⟨hvn, -⟩ := id hv
  exact e_X8_sizeOf hp (fun C hC hQ => lm_sz hv hm hp hC hQ ⟨rfl, rfl⟩ (V 0 0).toNat 0 (by omega))
theorem lm_cn {g : qG} {C : qX} {d : Nat} {V Vk M0 : qM} {kp rt : Int} {K : Int → qM → Prop} (hv : voV V) (hrt : 1 ≤ rt ∧ rt ≤ 10) (h : Mi M0 V Vk kp rt) (hC : qCk g C cX8_counting RX8 3 (d + 3)) (hQ : qRt g C (some .int) (qI K)) (hK : ∀ M' : qM, Mi M' V Vk kp rt → (∀ k, k < 63 → M' k = M0 k) → K (ncV V (V 0 3).toNat) M') :
    ∀ (k i : Nat) (M : qM), (i : Int) + k = V 0 3 → Mi M V Vk kp rt → (∀ k, k < 63 → M k = M0 k) → qW g C 4 [some (.inr 63), some (.inl (ncV V i)), some (.inl (i : Int))] [] M := by
  obtain ⟨hvn, -⟩ := id hv
  intro k
  induction k with
  | zero =>
    intro i M h1 hM hf
    have e0 : M 64 3 = V 0 3 := by rw [show M 64 = V 0 from hM.1 0 (by decide)]
    have r := nc_r (V := V) i
    have hk := hK M hM hf
    rw [show (V 0 3).toNat = i by omega] at hk
    exact s_X8_counting_4 hC hQ (by omega) (by omega) ⟨fun _ => hk, fun z => by omega⟩
  | succ k ih =>
    intro i M h1 hM hf
    have e0 : M 64 3 = V 0 3 := by rw [show M 64 = V 0 from hM.1 0 (by decide)]
    have r := nc_r (V := V) i
    refine s_X8_counting_4 hC hQ (by omega) (by omega) ⟨fun z => by omega, fun _ => ?_⟩
    refine (m_of (by omega) (by decide) M V Vk kp rt hv hrt hM).monoI (fun x M1 _ _ hx => ?_)
    obtain ⟨x1, x2, x3⟩ := hx
    have nxt := ih (i + 1) M1 (by omega) x2 (fun k hk => by rw [x3 k hk]; exact hf k hk)
    rw [show ((i + 1 : Nat) : Int) = (i : Int) + 1 by omega, ncV] at nxt
    have ev : x = if ctV V (dnV V (V 9 (5 * (i : Int)))) i then 1 else 0 := by
      rw [x1]
      unfold oOf vOf
      rw [if_pos (by omega), if_neg (by decide)]
    rw [ev]
    exact nxt
theorem lm_hl {g : qG} {C : qX} {d : Nat} {V Vk M0 : qM} {kp rt : Int} {K : Int → qM → Prop} (hv : voV V) (hrt : 1 ≤ rt ∧ rt ≤ 10) (h : Mi M0 V Vk kp rt) (hC : qCk g C cX8_holding RX8 3 (d + 4)) (hQ : qRt g C (some .int) (qI K)) (hK : ∀ M' : qM, Mi M' V Vk kp rt → (∀ k, k < 63 → M' k = M0 k) → K (naV V (V 0 0).toNat) M') :
    ∀ (k i : Nat) (M : qM), (i : Int) + k = V 0 0 → Mi M V Vk kp rt → (∀ k, k < 63 → M k = M0 k) → qW g C 4 [some (.inr 63), some (.inl (naV V i)), some (.inl (i : Int))] [] M := by
  obtain ⟨hvn, -⟩ := id hv
  intro k
  induction k with
  | zero =>
    intro i M h1 hM hf
    have e0 : M 64 0 = V 0 0 := by rw [show M 64 = V 0 from hM.1 0 (by decide)]
    have r := na_r hv i
    have hk := hK M hM hf
    rw [show (V 0 0).toNat = i by omega] at hk
    exact s_X8_holding_4 hC hQ (by omega) (by omega) ⟨fun _ => hk, fun z => by omega⟩
  | succ k ih =>
    intro i M h1 hM hf
    have e0 : M 64 0 = V 0 0 := by rw [show M 64 = V 0 from hM.1 0 (by decide)]
    have r := na_r hv i
    refine s_X8_holding_4 hC hQ (by omega) (by omega) ⟨fun z => by omega, fun _ => ?_⟩
    refine (m_badges (by omega) (by decide) M V Vk kp rt hv hrt hM).monoI (fun x M1 _ _ hx => ?_)
    obtain ⟨x1, x2, x3⟩ := hx
    have nxt := ih (i + 1) M1 (by omega) x2 (fun k hk => by rw [x3 k hk]; exact hf k hk)
    rw [show ((i + 1 : Nat) : Int) = (i : Int) + 1 by omega, naV] at nxt
    have ev : x = nhF (hdV V i) 999 (V 0 4).toNat := by
      rw [x1]
      unfold oBadges vBadges
      rw [if_pos (by omega)]
    rw [ev]
    exact nxt
def vMany (w : Int) (V : qM) : Int := if 0 ≤ w ∧ w ≤ 11 then (if w < 6 then V 0 w else if w = 6 then ncV V (V 0 3).toNat else if w = 7 then naV V (V 0 0).toNat else szV V (w - 8)) else -1
def oMany (w : Int) (V : qM) (rt : Int) : Int × qM × Int := (vMany w V, V, rt)
theorem x_many {g : qG} {d : Nat} {w : Int} (hw : qR w) (M V Vk : qM) (kp rt : Int) (hv : voV V) (hrt : 1 ≤ rt ∧ rt ≤ 10) (h : Xi M V Vk kp rt) : qOk g (d + 6) j_X7_many [.inr 0, .inl w] M (qI fun r M1 => r = (oMany w V rt).1 ∧ Xi M1 (oMany w V rt).2.1 Vk kp (oMany w V rt).2.2 ∧ ∀ k, 63 ≤ k → M1 k = M k) := by
  obtain ⟨hvn, -⟩ := id hv
  have lf : ∀ j, (0 ≤ j ∧ j < 6) → w = j → oMany w V rt = (V 0 j, V, rt) := fun j z2 z3 => by
    unfold oMany vMany; rw [z3, if_pos (by omega), if_pos (by omega)]
  refine qOk.kI (fun K hK => e_X7_many hw ⟨fun c1 => ⟨fun c2 => ?_, fun c2 => hK _ _ (xr ?_ h)⟩, fun c1 => hK _ _ (xr ?_ h), fun c1 => hK _ _ (xr ?_ h), fun c1 => hK _ _ (xr ?_ h), fun c1 => hK _ _ (xr ?_ h), fun c1 => hK _ _ (xr ?_ h), fun c1 => hK _ _ (xr ?_ h), fun c1 => ?_, fun c1 => ?_⟩)
  · refine (bx_countPatrol hv h.1 (by omega)).monoI (fun x M1 _ _ hx => ?_)
    obtain ⟨rfl, rfl⟩ := hx
    refine hK _ _ (xr ?_ h)
    unfold oMany vMany; rw [if_pos (by omega), if_neg (by omega), if_neg (by omega), if_neg (by omega)]
  · unfold oMany vMany; rw [if_neg (by omega)]
  · rw [lf 0 (by decide) c1, bk_nC h.1]
  · rw [lf 1 (by decide) c1, bk_nL h.1]
  · rw [lf 2 (by decide) c1, bk_nT h.1]
  · rw [lf 3 (by decide) c1, bk_nS h.1]
  · rw [lf 4 (by decide) c1, bk_nB h.1]
  · rw [lf 5 (by decide) c1, bk_nW h.1]
  · refine (bx_readDone hv h.1).monoN (fun M1 _ hx => ?_)
    refine (bx_countCounting hv (bk_fr h.1 (fun k hk => hx.1 k (by omega))) hx.2).monoI (fun x M2 _ _ hy => ?_)
    obtain ⟨rfl, rfl⟩ := hy
    refine hK _ _ (xf ?_ h (fun k k1 _ => hx.1 k k1))
    unfold oMany vMany; rw [if_pos (by omega), if_neg (by omega), if_pos c1]
  · refine (bx_readDone hv h.1).monoN (fun M1 _ hx => ?_)
    refine (bx_countHeldOfAll hv (bk_fr h.1 (fun k hk => hx.1 k (by omega))) hx.2).monoI (fun x M2 _ _ hy => ?_)
    refine hK _ _ (xf ?_ h (fun k k1 k2 => by rw [hy.1 k k2]; exact hx.1 k k1))
    unfold oMany vMany; rw [if_pos (by omega), if_neg (by omega), if_neg (by omega), if_pos c1, hy.2]
theorem m_many {g : qG} {d : Nat} {w : Int} (hw : qR w) (M V Vk : qM) (kp rt : Int) (hv : voV V) (hrt : 1 ≤ rt ∧ rt ≤ 10) (h : Mi M V Vk kp rt) : qOk g (d + 5) j_X8_many [.inr 63, .inl w] M (qI fun r M1 => r = (oMany w V rt).1 ∧ Mi M1 (oMany w V rt).2.1 Vk kp (oMany w V rt).2.2 ∧ ∀ k, k < 63 → M1 k = M k) := by
  obtain ⟨hvn, vC, vL, vT, vB, vS, vW⟩ := id hv
  have m0 : M 64 = V 0 := h.1 0 (by decide)
  have m1 : M 65 = V 1 := h.1 1 (by decide)
  have m2 : M 66 = V 2 := h.1 2 (by decide)
  have m3 : M 67 = V 3 := h.1 3 (by decide)
  have m4 : M 68 = V 4 := h.1 4 (by decide)
  have m5 : M 69 = V 5 := h.1 5 (by decide)
  have m6 : M 70 = V 6 := h.1 6 (by decide)
  have m7 : M 71 = V 7 := h.1 7 (by decide)
  have m8 : M 72 = V 8 := h.1 8 (by decide)
  have m9 : M 73 = V 9 := h.1 9 (by decide)
  have m10 : M 74 = V 10 := h.1 10 (by decide)
  have m11 : M 75 = V 11 := h.1 11 (by decide)
  have m12 : M 76 = V 12 := h.1 12 (by decide)
  refine qOk.kI (fun K hK => e_X8_many hw ?_)
  simp only [m0]
  refine ⟨fun c1 => ⟨fun c2 => ⟨fun c3 => ⟨fun c4 => ?_, fun c4 => ?_⟩, fun c3 => ?_⟩, fun c2 => ⟨by omega, hK _ _ (mr ?_ h)⟩⟩, fun c1 => hK _ _ (mr ?_ h)⟩
  · refine (bm_sizeOf hv h.1 (by omega)).monoI (fun x M1 _ _ hx => ?_)
    obtain ⟨rfl, rfl⟩ := hx
    refine hK _ _ (mr ?_ h)
    unfold oMany vMany; rw [if_pos (by omega), if_neg (by omega), if_neg c3, if_neg c4]
  · refine e_X8_holding (fun C hC hQ => lm_hl hv hrt h hC hQ (fun M' a1 a2 => hK _ _ (ms ?_ a1 a2)) (V 0 0).toNat 0 M (by omega) h (fun _ _ => rfl))
    unfold oMany vMany; rw [if_pos (by omega), if_neg (by omega), if_neg c3, if_pos c4]
  · refine e_X8_counting (fun C hC hQ => lm_cn hv hrt h hC hQ (fun M' a1 a2 => hK _ _ (ms ?_ a1 a2)) (V 0 3).toNat 0 M (by omega) h (fun _ _ => rfl))
    unfold oMany vMany; rw [if_pos (by omega), if_neg (by omega), if_pos c3]
  · unfold oMany vMany; rw [if_pos (by omega), if_pos c2]
  · unfold oMany vMany; rw [if_neg (by omega)]
-- lacks
theorem qOr_0 {x : Int} (h : qR x) : qOr x 0 = x := by
  unfold qOr
  have e : Int32.ofInt 0 = 0 := by decide
  rw [e, Int32.or_zero, q_ti h]
def vLacks (c b w : Int) (V : qM) : Int := if (0 ≤ c ∧ c < V 0 0) ∧ (0 ≤ b ∧ b < V 0 4) ∧ (0 ≤ w ∧ w ≤ 3) then
  (if w = 0 then lkF (dnV V c) (V 8 (5 * b)) 10 else if w = 1 then max 0 (V 8 (5 * b + 2) - nbF (dnV V c) (V 8 (5 * b + 1)) 999 10) else if w = 2 then max 0 (V 8 (5 * b + 3) - V 1 c) else if 0 ≤ V 8 (5 * b + 4) ∧ hdV V c (V 8 (5 * b + 4)) < 0 then 1 else 0) else -1
def oLacks (c b w : Int) (V : qM) (rt : Int) : Int × qM × Int := (vLacks c b w V, V, rt)
theorem x_lacks {g : qG} {d : Nat} {c b w : Int} (hc : qR c) (hb : qR b) (hw : qR w) (M V Vk : qM) (kp rt : Int) (hv : voV V) (hrt : 1 ≤ rt ∧ rt ≤ 10) (h : Xi M V Vk kp rt) : qOk g (d + 5) j_X7_lacks [.inr 0, .inl c, .inl b, .inl w] M (qI fun r M1 => r = (oLacks c b w V rt).1 ∧ Xi M1 (oLacks c b w V rt).2.1 Vk kp (oLacks c b w V rt).2.2 ∧ ∀ k, 63 ≤ k → M1 k = M k) := by
  have n1 := bk_nC h.1
  have n2 := bk_nB h.1
  obtain ⟨hvn, vC, vL, vT, vB, vS, vW⟩ := id hv
  refine qOk.kI (fun K hK => e_X7_lacks hc hb hw ⟨fun c1 => ⟨fun c2 => ?_, fun c2 => hK _ _ (xr ?_ h)⟩, fun c1 => hK _ _ (xr ?_ h)⟩)
  · refine (bx_readDone hv h.1).monoN (fun M1 _ hx => ?_)
    have hb' := bk_fr h.1 (M1 := M1) (fun k hk => hx.1 k (by omega))
    obtain ⟨b0, b1, b2, b3, b4⟩ := bk_b hb' (i := b) (by omega) (by omega)
    have a := vB b (by omega) (by omega)
    have ag := vC c (by omega) (by omega)
    have e3 := (bk_c hb' (c := c) (by omega) (by omega)).1
    have hf : ∀ k, k ≠ 52 → k ≠ 53 → M1 k = M k := fun k k1 _ => hx.1 k k1
    refine ⟨fun z => hK _ _ (xf ?_ h hf), fun z => ⟨by omega, ?_⟩, fun z => ⟨by omega, ?_⟩, fun z => ⟨by omega, by omega, by omega, hK _ _ (xf ?_ h hf)⟩, fun z => ?_⟩
    · unfold oLacks vLacks; rw [if_neg (by omega)]
    · rw [b0]
      refine (bx_bitsNotDone hv hx.2 (by omega) (by omega) (by omega)).monoI (fun x M2 _ _ hy => ?_)
      obtain ⟨rfl, rfl⟩ := hy
      refine hK _ _ (xf ?_ h hf)
      unfold oLacks vLacks; rw [if_pos (by omega), if_pos z]
    · rw [b1, b2]
      refine (bx_doneBy hv hx.2 (by omega) (by omega) (by omega) (by decide) (by decide)).monoI (fun x M2 _ _ hy => ?_)
      obtain ⟨rfl, rfl⟩ := hy
      have r := nb_on (f := dnV V c) (b := V 8 (5 * b + 1)) (day := 999) 10
      refine ⟨by omega, hK _ _ (xf ?_ h hf)⟩
      unfold oLacks vLacks; rw [if_pos (by omega), if_neg (by omega), if_pos z]
    · unfold oLacks vLacks; rw [if_pos (by omega), if_neg (by omega), if_neg (by omega), if_pos z, b3, e3]
    · refine (bx_readHeld hv hb' hx.2 (by omega) (by omega)).monoN (fun M2 _ hy => ?_)
      have hf2 : ∀ k, k ≠ 52 → k ≠ 53 → M2 k = M k := fun k k1 k2 => by rw [hy.1 k k2]; exact hf k k1 k2
      rw [show M2 15 b = V 8 (5 * b + 4) by rw [hy.1 15 (by decide)]; exact b4]
      refine ⟨by omega, by omega, fun u => hK _ _ (xf ?_ h hf2), fun u => ⟨fun y => hK _ _ (xf ?_ h hf2), fun y => hK _ _ (xf ?_ h hf2)⟩⟩
      · unfold oLacks vLacks; rw [if_pos (by omega), if_neg (by omega), if_neg (by omega), if_neg (by omega), if_neg (by omega)]
      · rw [hy.2 _ (by omega) (by omega)] at y
        have r := nvF_r (hd_r (V := V) (c := c) (V 8 (5 * b + 4)))
        unfold oLacks vLacks; rw [if_pos (by omega), if_neg (by omega), if_neg (by omega), if_neg (by omega), if_neg (fun q => y (r.2.2.1 q.2))]
      · rw [hy.2 _ (by omega) (by omega)] at y
        have r := nvF_r (hd_r (V := V) (c := c) (V 8 (5 * b + 4)))
        have r2 := hd_r (V := V) (c := c) (V 8 (5 * b + 4))
        unfold oLacks vLacks; rw [if_pos (by omega), if_neg (by omega), if_neg (by omega), if_neg (by omega), if_pos ⟨by omega, by by_cases q : hdV V c (V 8 (5 * b + 4)) < 0; exact q; have := r.2.2.2 (by omega); omega⟩]
  · unfold oLacks vLacks; rw [if_neg (by omega)]
  · unfold oLacks vLacks; rw [if_neg (by omega)]
theorem lm_lk48 {g : qG} {C : qX} {d : Nat} {V M : qM} {c b w : Int} {K : Int → qM → Prop} (hv : voV V) (hm : Mv M V) (hd : dM M V c) (c0 : 0 ≤ c) (c1 : c < V 0 0) (b0 : 0 ≤ b) (b1 : b < V 0 4) (w0 : 0 ≤ w) (w1 : w ≤ 3) (hC : qCk g C cX8_lacks RX8 8 (d + 3)) (hQ : qRt g C (some .int) (qI K)) (hj : ∀ j, 0 ≤ j → j < V 0 4 → M 79 j = hdV V c j) (hK : K (vLacks c b w V) M) :
    ∀ (k t : Nat), t + k = 10 → qW g C 48 [some (.inr 63), some (.inl c), some (.inl b), some (.inl w), some (.inl (5 * b)), some (.inl (lkF (dnV V c) (V 8 (5 * b)) t)), some (.inl (nbF (dnV V c) (V 8 (5 * b + 1)) 999 t)), some (.inl (t : Int))] [] M := by
  obtain ⟨hvn, vC, vL, vT, vB, vS, vW⟩ := id hv
  have m0 : M 64 = V 0 := hm 0 (by decide)
  have m1 : M 65 = V 1 := hm 1 (by decide)
  have m8 : M 72 = V 8 := hm 8 (by decide)
  have a := vB b b0 b1
  have ag := vC c c0 c1
  unfold vLacks at hK
  rw [if_pos (by omega)] at hK
  intro k
  induction k with
  | zero =>
    intro t h1
    have e : t = 10 := by omega
    subst e
    have r := nb_on (f := dnV V c) (b := V 8 (5 * b + 1)) (day := 999) 10
    refine s_X8_lacks_48 hC hQ (by omega) (by omega) (by omega) (by omega) (lk_r _) (by omega) (by decide) ⟨fun _ => ?_, fun z => absurd z (by decide)⟩
    rw [m8, m1]
    refine ⟨fun z => ⟨by omega, fun y => ?_, fun y => ⟨by omega, fun u => ?_, fun u => ?_⟩⟩, fun z => ?_, fun z => ⟨by omega, fun y => ?_, fun y => ⟨by omega, ?_⟩⟩, fun z => ⟨by omega, by omega, fun y => ?_, fun y => ⟨by omega, ?_⟩⟩⟩
    · rw [if_neg (by omega), if_neg (by omega), if_neg (by omega), if_neg (by omega)] at hK
      exact hK
    · rw [hj _ (by omega) (by omega)] at u
      rw [if_neg (by omega), if_neg (by omega), if_neg (by omega), if_neg (by omega)] at hK
      exact hK
    · rw [hj _ (by omega) (by omega)] at u
      rw [if_neg (by omega), if_neg (by omega), if_neg (by omega), if_pos ⟨y, u⟩] at hK
      exact hK
    · rw [if_pos z] at hK
      exact hK
    · rw [if_neg (by omega), if_pos z, Int.max_eq_left (by omega)] at hK
      exact hK
    · rw [if_neg (by omega), if_pos z, Int.max_eq_right (by omega)] at hK
      exact hK
    · rw [if_neg (by omega), if_neg (by omega), if_pos z, Int.max_eq_left (by omega)] at hK
      exact hK
    · rw [if_neg (by omega), if_neg (by omega), if_pos z, Int.max_eq_right (by omega)] at hK
      exact hK
  | succ k ih =>
    intro t h1
    have r := nb_on (f := dnV V c) (b := V 8 (5 * b + 1)) (day := 999) t
    have nxt := ih (t + 1) (by omega)
    rw [show ((t + 1 : Nat) : Int) = (t : Int) + 1 by omega] at nxt
    simp only [lkF, nbF] at nxt
    have d9 : dnV V c t ≤ 999 := (dn_r hv _).2
    have dy : (t : Int) < V 0 2 ∧ 0 ≤ M 78 t → 0 ≤ dnV V c t := fun z => by rw [← hd t (by omega) z.1]; exact z.2
    have dn : V 0 2 ≤ (t : Int) ∨ M 78 t < 0 → dnV V c t < 0 := fun z => by
      by_cases y : (t : Int) < V 0 2
      · rw [← hd t (by omega) y]; omega
      · rw [dn_ge hv t (by omega)]; decide
    refine s_X8_lacks_48 hC hQ (by omega) (by omega) (by omega) (by omega) (lk_r _) (by omega) (by omega) ⟨fun z => by omega, fun _ => ⟨by omega, ?_⟩⟩
    rw [m8, m0, qOr_0 (lk_r _)]
    refine ⟨fun z1 => ⟨by omega, fun z2 => ?_, fun z2 => ⟨by omega, fun z3 => ?_, fun z3 => ?_⟩⟩, fun z1 => ⟨by omega, fun z3 => ⟨by omega, fun z2 => ?_, fun z2 => ⟨by omega, fun z4 => ?_, fun z4 => ?_⟩⟩, fun z3 => ⟨by omega, fun z2 => ?_, fun z2 => ⟨by omega, fun z4 => ?_, fun z4 => ?_⟩⟩⟩⟩
    · rw [if_neg (fun q => z1 q.1), if_neg (fun q => z2 q.1)] at nxt
      exact nxt
    · rw [if_neg (fun q => z1 q.1), if_pos ⟨z2, dy z3, d9⟩] at nxt
      exact nxt
    · rw [if_neg (fun q => z1 q.1), if_neg (fun q => by have := dn z3; omega)] at nxt
      exact nxt
    · rw [if_neg (fun q => by have := dy z3; omega), if_neg (fun q => z2 q.1)] at nxt
      exact nxt
    · rw [if_neg (fun q => by have := dy z3; omega), if_pos ⟨z2, dy z3, d9⟩] at nxt
      exact nxt
    · exact absurd (dn z4) (by have := dy z3; omega)
    · rw [if_pos ⟨z1, dn z3⟩, if_neg (fun q => z2 q.1)] at nxt
      exact nxt
    · exact absurd (dn z3) (by have := dy z4; omega)
    · rw [if_pos ⟨z1, dn z3⟩, if_neg (fun q => by have := dn z3; omega)] at nxt
      exact nxt
theorem m_lacks {g : qG} {d : Nat} {c b w : Int} (hc : qR c) (hb : qR b) (hw : qR w) (M V Vk : qM) (kp rt : Int) (hv : voV V) (hrt : 1 ≤ rt ∧ rt ≤ 10) (h : Mi M V Vk kp rt) : qOk g (d + 3) j_X8_lacks [.inr 63, .inl c, .inl b, .inl w] M (qI fun r M1 => r = (oLacks c b w V rt).1 ∧ Mi M1 (oLacks c b w V rt).2.1 Vk kp (oLacks c b w V rt).2.2 ∧ ∀ k, k < 63 → M1 k = M k) := by
  obtain ⟨hvn, vC, vL, vT, vB, vS, vW⟩ := id hv
  have m0 : M 64 = V 0 := h.1 0 (by decide)
  have m1 : M 65 = V 1 := h.1 1 (by decide)
  have m2 : M 66 = V 2 := h.1 2 (by decide)
  have m3 : M 67 = V 3 := h.1 3 (by decide)
  have m4 : M 68 = V 4 := h.1 4 (by decide)
  have m5 : M 69 = V 5 := h.1 5 (by decide)
  have m6 : M 70 = V 6 := h.1 6 (by decide)
  have m7 : M 71 = V 7 := h.1 7 (by decide)
  have m8 : M 72 = V 8 := h.1 8 (by decide)
  have m9 : M 73 = V 9 := h.1 9 (by decide)
  have m10 : M 74 = V 10 := h.1 10 (by decide)
  have m11 : M 75 = V 11 := h.1 11 (by decide)
  have m12 : M 76 = V 12 := h.1 12 (by decide)
  refine qOk.kI (fun K hK => e_X8_lacks hc hb hw (fun C hC hQ => ?_))
  simp only [m0]
  refine ⟨by omega, fun c1 => ⟨by omega, fun c2 => ⟨fun c3 => ?_, fun c3 => hK _ _ (mr ?_ h)⟩, fun c2 => hK _ _ (mr ?_ h)⟩, fun c1 => hK _ _ (mr ?_ h)⟩
  · refine (bm_findHeld hv h.1 (by omega) (by omega)).monoN (fun M1 _ hx => ?_)
    refine lm_lk48 hv (fun a ha => by rw [hx.1 _ (by omega) (by omega)]; exact h.1 a ha) hx.2.1 (by omega) (by omega) (by omega) (by omega) (by omega) (by omega) hC hQ hx.2.2 (hK _ _ (mf rfl h hx.1)) 10 0 (by omega)
  · unfold oLacks vLacks; rw [if_neg (by omega)]
  · unfold oLacks vLacks; rw [if_neg (by omega)]
  · unfold oLacks vLacks; rw [if_neg (by omega)]
