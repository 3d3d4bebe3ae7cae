/-! badges that are held: the reference -/
section HELDM
variable {g : qG} {C : qX} {d : Nat} {V M : qM} {c b day w : Int}
theorem dn_ge {V : qM} {c : Int} (hv : voV V) (j : Int) (h : V 0 2 ≤ j) : dnV V c j = -1 := dt_ge _ _ (by have := hv.1; omega)
/-- the done days of child c stand in the reference's row -/
def dM (M V : qM) (c : Int) : Prop := ∀ t, 0 ≤ t → t < V 0 2 → M 78 t = dnV V c t
theorem lm_ones {K : Int → qM → Prop} (hb : qR b) (hC : qCk g C cX8_ones RX8 3 d) (hQ : qRt g C (some .int) (qI K)) (hK : K (onF b 10) M) :
    ∀ (k t : Nat), t + k = 10 → qW g C 4 [some (.inl b), some (.inl (onF b t)), some (.inl (t : Int))] [] M := by
  intro k
  induction k with
  | zero =>
    intro t h1
    have e : t = 10 := by omega
    subst e
    have := nb_on (f := fun _ => 0) (b := b) (day := 0) 10
    exact s_X8_ones_4 hC hQ hb (by omega) (by decide) ⟨fun _ => hK, fun z => absurd z (by decide)⟩
  | succ k ih =>
    intro t h1
    have := nb_on (f := fun _ => 0) (b := b) (day := 0) t
    exact s_X8_ones_4 hC hQ hb (by omega) (by omega) ⟨fun z => by omega, fun _ => ih (t + 1) (by omega)⟩
theorem bm_ones (hb : qR b) : qOk g d j_X8_ones [.inl b] M (qI fun x M1 => M1 = M ∧ x = onF b 10) :=
  e_X8_ones hb (fun C hC hQ => lm_ones hb hC hQ ⟨rfl, rfl⟩ 10 0 (by omega))
theorem lm_do21 {K : Int → qM → Prop} {n : Int} (hv : voV V) (hm : Mv M V) (hd : dM M V c) (hb : qR b) (hn : qR n) (d0 : 0 ≤ day) (d1 : day < 1000) (hC : qCk g C cX8_dayOf RX8 6 (d + 1)) (hQ : qRt g C (some .int) (qI K))
    (hno : nbF (dnV V c) b day 10 < n → qW g C 8 [some (.inr 63), some (.inl b), some (.inl n), some (.inl (day + 1)), none, none] [] M) (hyes : n ≤ nbF (dnV V c) b day 10 → K day M) :
    ∀ (k t : Nat), t + k = 10 → qW g C 21 [some (.inr 63), some (.inl b), some (.inl n), some (.inl day), some (.inl (nbF (dnV V c) b day t)), some (.inl (t : Int))] [] M := by
  have e2 : M 64 2 = V 0 2 := by rw [show M 64 = V 0 from hm 0 (by decide)]
  obtain ⟨hvn, -⟩ := id hv
  intro k
  induction k with
  | zero =>
    intro t h1
    have e : t = 10 := by omega
    subst e
    have r := nb_on (f := dnV V c) (b := b) (day := day) 10
    exact s_X8_dayOf_21 hC hQ hb hn (by omega) (by omega) (by decide) ⟨fun _ => ⟨hno, hyes⟩, fun z => absurd z (by decide)⟩
  | succ k ih =>
    intro t h1
    have r := nb_on (f := dnV V c) (b := b) (day := day) t
    have nxt := ih (t + 1) (by omega)
    rw [show ((t + 1 : Nat) : Int) = (t : Int) + 1 by omega] at nxt
    simp only [nbF] at nxt
    refine s_X8_dayOf_21 hC hQ hb hn (by omega) (by omega) (by omega) ⟨fun z => by omega, fun _ => ⟨fun z1 => ?_, fun z1 => ⟨by omega, fun z2 => ⟨by omega, fun z3 => ?_, fun z3 => ?_⟩, fun z2 => ?_⟩⟩⟩
    · rw [if_neg (fun z => z1 z.1)] at nxt
      exact nxt
    · rw [hd t (by omega) (by omega)] at z3
      rw [if_neg (fun z => by omega)] at nxt
      exact nxt
    · have q := hd t (by omega) (by omega)
      rw [if_pos ⟨z1, by omega, by omega⟩] at nxt
      exact nxt
    · have q : dnV V c t < 0 := by
        by_cases y : (t : Int) < V 0 2
        · have := hd t (by omega) y; omega
        · have := dn_ge (c := c) hv t (by omega); omega
      rw [if_neg (fun z => by omega)] at nxt
      exact nxt
theorem lm_do8 {K : Int → qM → Prop} {n : Int} (hv : voV V) (hm : Mv M V) (hd : dM M V c) (hb : qR b) (hn : qR n) (hC : qCk g C cX8_dayOf RX8 6 (d + 1)) (hQ : qRt g C (some .int) (qI K)) :
    ∀ (k : Nat) (day : Int), 0 ≤ day → day + k = 1000 → K (dsF (dnV V c) b n k day) M → qW g C 8 [some (.inr 63), some (.inl b), some (.inl n), some (.inl day), none, none] [] M := by
  intro k
  induction k with
  | zero =>
    intro day h0 h1 hK
    exact s_X8_dayOf_8 hC hQ hb hn (by omega) ⟨fun _ => hK, fun z => by omega⟩
  | succ k ih =>
    intro day h0 h1 hK
    simp only [dsF] at hK
    refine s_X8_dayOf_8 hC hQ hb hn (by omega) ⟨fun z => by omega, fun _ => ?_⟩
    refine lm_do21 hv hm hd hb hn h0 (by omega) hC hQ (fun z => ih (day + 1) (by omega) (by omega) ?_) (fun z => ?_) 10 0 (by omega)
    · rw [if_neg (by omega)] at hK
      exact hK
    · rw [if_pos z] at hK
      exact hK
theorem bm_dayOf {n : Int} (hv : voV V) (hm : Mv M V) (hd : dM M V c) (hb : qR b) (hn : qR n) : qOk g (d + 1) j_X8_dayOf [.inr 63, .inl b, .inl n] M (qI fun x M1 => M1 = M ∧ x = doF (dnV V c) b n) := by
  refine e_X8_dayOf hb hn (fun C hC hQ => ⟨fun z => lm_do8 hv hm hd hb hn hC hQ 1000 0 (by decide) (by decide) ⟨rfl, ?_⟩, fun z => ⟨rfl, ?_⟩⟩)
  · unfold doF; rw [if_neg z]
  · unfold doF; rw [if_pos z]
theorem lm_fh7 {M0 : qM} {K : qM → Prop} (hv : voV V) (hm : Mv M0 V) (hd : dM M0 V c) (c0 : 0 ≤ c) (c1 : c < V 0 0) (hC : qCk g C cX8_findHeld RX8 5 (d + 2)) (hQ : qRt g C none (qN K))
    (hK : ∀ M' : qM, (∀ k, k ≠ 79 → M' k = M0 k) → (∀ j, 0 ≤ j → j < V 0 4 → M' 79 j = hdV V c j) → K M') :
    ∀ (k : Nat) (i : Int) (M : qM), 0 ≤ i → i + k = V 0 4 → (∀ k, k ≠ 79 → M k = M0 k) → (∀ j, 0 ≤ j → j < i → M 79 j = htV V c i.toNat j) → qW g C 7 [some (.inr 63), some (.inl c), some (.inl i), none, none] [] M := by
  obtain ⟨hvn, vC, vL, vT, vB, vS, vW⟩ := id hv
  have m0 : M0 64 = V 0 := hm 0 (by decide)
  have m1 : M0 65 = V 1 := hm 1 (by decide)
  have m8 : M0 72 = V 8 := hm 8 (by decide)
  intro k
  induction k with
  | zero =>
    intro i M h0 h1 hf hj
    have e0 : M 64 4 = V 0 4 := by rw [hf 64 (by decide), m0]
    refine s_X8_findHeld_7 hC hQ (by omega) (by omega) ⟨fun _ => hK M hf ?_, fun z => by omega⟩
    unfold hdV
    rw [show (V 0 4).toNat = i.toNat by omega]
    exact fun j j0 j1 => hj j j0 (by omega)
  | succ k ih =>
    intro i M h0 h1 hf hj
    have e0 : M 64 4 = V 0 4 := by rw [hf 64 (by decide), m0]
    have e1 : M 65 = V 1 := by rw [hf 65 (by decide), m1]
    have e8 : M 72 = V 8 := by rw [hf 72 (by decide), m8]
    have hm' : Mv M V := fun a ha => by rw [hf _ (by omega)]; exact hm a ha
    have hd' : dM M V c := fun t t0 t1 => by rw [hf 78 (by decide)]; exact hd t t0 t1
    have a := vB i h0 (by omega)
    have fin : ∀ v, v = hbV V (dnV V c) (htV V c i.toNat) c i → qW g C 7 [some (.inr 63), some (.inl c), some (.inl (i + 1)), none, none] [] (qU M 79 i v) := by
      intro v ev
      refine ih (i + 1) _ (by omega) (by omega) (fun k hk => by rw [qU_f hk]; exact hf k hk) (fun j j0 j1 => ?_)
      rw [show (i + 1).toNat = i.toNat + 1 by omega]
      show _ = fU (htV V c i.toNat) (i.toNat : Nat) _ j
      have ec : ((i.toNat : Nat) : Int) = i := by omega
      rw [ec]
      by_cases z : j = i
      · subst z; rw [qU_s, fU_s, ev]
      · rw [qU_i z, fU_n z]; exact hj j j0 (by omega)
    refine s_X8_findHeld_7 hC hQ (by omega) (by omega) ⟨fun z => by omega, fun _ => ⟨by omega, ?_⟩⟩
    rw [e8]
    refine (bm_ones (by omega)).monoI (fun x M1 hxr _ hx => ?_)
    obtain ⟨rfl, rfl⟩ := hx
    refine (bm_dayOf hv hm' hd' (by omega) hxr).monoI (fun x M2 _ _ hx => ?_)
    obtain ⟨rfl, rfl⟩ := hx
    rw [e8]
    refine ⟨by omega, by omega, ?_⟩
    refine (bm_dayOf hv hm' hd' (by omega) (by omega)).monoI (fun x M3 _ _ hx => ?_)
    obtain ⟨rfl, rfl⟩ := hx
    simp only [e1, e8]
    -- the day so far
    generalize hD1 : doF (dnV V c) (V 8 (5 * i)) (onF (V 8 (5 * i)) 10) = D1
    generalize hD2 : doF (dnV V c) (V 8 (5 * i + 1)) (V 8 (5 * i + 2)) = D2
    have hh : ∀ v, (V 8 (5 * i + 3) ≤ V 1 c → v = if V 8 (5 * i + 4) < 0 then ltF D1 D2 else ltF (ltF D1 D2) (htV V c i.toNat (V 8 (5 * i + 4)))) → (V 1 c < V 8 (5 * i + 3) → v = -1) → v = hbV V (dnV V c) (htV V c i.toNat) c i := by
      intro v h1 h2
      unfold hbV
      rw [hD1, hD2]
      by_cases z : V 8 (5 * i + 3) ≤ V 1 c
      · rw [if_pos z]; exact h1 z
      · rw [if_neg z]; exact h2 (by omega)
    have ho : 0 ≤ V 8 (5 * i + 4) → M3 79 (V 8 (5 * i + 4)) = htV V c i.toNat (V 8 (5 * i + 4)) := fun z => hj _ z (by omega)
    refine ⟨fun z1 => ⟨by omega, fun z2 => ⟨by omega, fun z3 => ⟨by omega, by omega, fun z4 => ⟨by omega, fin _ (hh _ (fun q => by omega) (fun _ => rfl))⟩, fun z4 => ⟨by omega, fin _ (hh _ (fun q => ?_) (fun _ => rfl))⟩⟩, fun z3 => by omega⟩, fun z2 => ⟨by omega, by omega, fun z4 => ⟨by omega, fin _ (hh _ (fun q => by omega) (fun _ => rfl))⟩, fun z4 => ⟨by omega, fin _ (hh _ (fun q => ?_) (fun _ => rfl))⟩⟩⟩, fun z1 => ⟨by omega, fun z2 => ⟨by omega, fun z3 => ⟨by omega, by omega, fun z4 => ⟨by omega, fin _ (hh _ (fun q => by omega) (fun _ => rfl))⟩, fun z4 => ⟨by omega, fin _ (hh _ (fun q => ?_) (fun _ => rfl))⟩⟩, fun z3 => ⟨by omega, by omega, fun z4 => ⟨by omega, fin _ (hh _ (fun q => by omega) (fun _ => rfl))⟩, fun z4 => ⟨by omega, fin _ (hh _ (fun q => ?_) (fun q => by omega))⟩⟩⟩, fun z2 => ⟨by omega, by omega, fun z4 => ⟨by omega, fin _ (hh _ (fun q => by omega) (fun _ => rfl))⟩, fun z4 => ⟨by omega, fin _ (hh _ (fun q => ?_) (fun q => by omega))⟩⟩⟩⟩
    · rw [if_neg (by omega)]
      unfold ltF
      rw [if_pos (Or.inl (by rw [if_pos z1]; decide))]
    · rw [if_pos z2]
      unfold ltF
      rw [if_pos z1]
    · rw [if_neg (by omega), ← ho z2]
      unfold ltF
      rw [if_neg (c := D1 < 0 ∨ D2 < 0) (by omega), if_pos z3]
    · rw [if_neg (by omega), ← ho z2]
      unfold ltF
      rw [if_neg (c := D1 < 0 ∨ D2 < 0) (by omega), if_neg (by omega)]
    · rw [if_pos z2]
      unfold ltF
      rw [if_neg (by omega)]
theorem bm_findHeld (hv : voV V) (hm : Mv M V) (c0 : 0 ≤ c) (c1 : c < V 0 0) : qOk g (d + 2) j_X8_findHeld [.inr 63, .inl c] M (qN fun M1 => (∀ k, k ≠ 78 → k ≠ 79 → M1 k = M k) ∧ dM M1 V c ∧ ∀ j, 0 ≤ j → j < V 0 4 → M1 79 j = hdV V c j) := by
  obtain ⟨hvn, -⟩ := id hv
  refine e_X8_findHeld (by omega) (fun C hC hQ => ?_)
  refine (bm_findDone hv hm (by omega)).monoN (fun M1 _ h => ?_)
  refine lm_fh7 (M0 := M1) hv (fun a ha => by rw [h.1 _ (by omega)]; exact hm a ha) h.2 c0 c1 hC hQ (fun M' h1 h2 => ⟨fun k k1 k2 => by rw [h1 k k2]; exact h.1 k k1, fun t t0 t1 => by rw [h1 78 (by decide)]; exact h.2 t t0 t1, h2⟩) (V 0 4).toNat 0 M1 (by omega) (by omega) (fun _ _ => rfl) (fun j j0 j1 => by omega)
end HELDM
