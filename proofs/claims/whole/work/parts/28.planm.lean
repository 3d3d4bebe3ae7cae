/-! the plan: the reference's search -/
theorem okO_iff (x : pX) (v o : Int) : okO x v o = true ↔ (o ≠ v ∧ ¬ ((o ≠ 15 ∧ o % 3 = v % 3) ∧ x.2.2.2.2.1 (v % 3) = 1 ∧ (o / 3 - v / 3 = 1 ∨ o / 3 - v / 3 = -1))) := by
  unfold okO
  rw [Bool.and_eq_true, Bool.not_eq_true', decide_eq_true_iff]
  constructor
  · rintro ⟨h1, h2⟩
    refine ⟨h1, fun ⟨⟨q1, q2⟩, q3, q4⟩ => ?_⟩
    have : (decide (o ≠ 15) && decide (o % 3 = v % 3) && decide (x.2.2.2.2.1 (v % 3) = 1) && (decide (o / 3 - v / 3 = 1) || decide (o / 3 - v / 3 = -1))) = true := by
      simp only [Bool.and_eq_true, Bool.or_eq_true, decide_eq_true_eq]
      exact ⟨⟨⟨q1, q2⟩, q3⟩, q4⟩
    rw [this] at h2
    cases h2
  · rintro ⟨h1, h2⟩
    refine ⟨h1, ?_⟩
    cases hq : (decide (o ≠ 15) && decide (o % 3 = v % 3) && decide (x.2.2.2.2.1 (v % 3) = 1) && (decide (o / 3 - v / 3 = 1) || decide (o / 3 - v / 3 = -1))) with
    | false => rfl
    | true =>
      simp only [Bool.and_eq_true, Bool.or_eq_true, decide_eq_true_eq] at hq
      exact absurd ⟨⟨hq.1.1.1, hq.1.1.2⟩, hq.1.2, hq.2⟩ h2
theorem okP_iff (x : pX) (l : List Int) (v : Int) : okP x l v = true ↔ (v = 15 ∨ ((0 < x.1 l.length ∧ v % 3 < x.2.2.1 ∧ x.1 l.length ≤ x.2.2.2.1 (v % 3)) ∧ (∀ o ∈ l, okO x v o = true) ∧ x.1 l.length + awL x.1 (v / 3) 0 l ≤ x.2.1 (v / 3))) := by
  unfold okP
  simp only [Bool.or_eq_true, Bool.and_eq_true, decide_eq_true_eq, List.all_eq_true]
  constructor
  · rintro (h | ⟨⟨⟨⟨h1, h2⟩, h3⟩, h4⟩, h5⟩)
    · exact Or.inl h
    · exact Or.inr ⟨⟨h1, h2, h3⟩, h4, h5⟩
  · rintro (h | ⟨⟨h1, h2, h3⟩, h4, h5⟩)
    · exact Or.inl h
    · exact Or.inr ⟨⟨⟨⟨h1, h2⟩, h3⟩, h4⟩, h5⟩
def Pm (M : qM) (x : pX) : Prop := M 64 5 = x.2.2.1 ∧ M 74 = x.2.2.2.1 ∧ M 75 = x.2.2.2.2.1 ∧ M 76 = x.2.2.2.2.2 ∧ (∀ p, 0 ≤ p → p < 4 → M 82 p = x.1 p) ∧ ∀ w, 0 ≤ w → w < 5 → M 83 w = x.2.1 w
def chM (M : qM) (k : Nat) (l : List Int) : Prop := ∀ i : Nat, i < l.length → M k (i : Int) = l.getD i 15
theorem gd_at (a r : List Int) (o : Int) : (a ++ o :: r).getD a.length 15 = o := by simp
section PLANM
variable {g : qG} {C : qX} {d : Nat} {x : pX} {M : qM} {l : List Int} {v : Int}
theorem lm_fits {K : Int → qM → Prop} (hx : pxO x) (hp : Pm M x) (hl : chM M 80 l) (hc : chL l) (hn : l.length < 4) (v0 : 0 ≤ v) (v1 : v < 15) (hC : qCk g C cX8_fits RX8 11 d) (hQ : qRt g C (some .boolean) (qI K))
    (hbase : 0 < x.1 l.length ∧ v % 3 < x.2.2.1 ∧ x.1 l.length ≤ x.2.2.2.1 (v % 3)) (h1 : okP x l v = true → K 1 M) (h0 : okP x l v = false → K 0 M) :
    ∀ (r a : List Int), l = a ++ r → (∀ o ∈ a, okO x v o = true) → qW g C 76 [some (.inr 63), some (.inl (l.length : Int)), some (.inl v), some (.inl (v % 3)), some (.inl (v / 3)), some (.inl 1), some (.inl (x.1 l.length + awL x.1 (v / 3) 0 a)), some (.inl (a.length : Int)), none, none, none] [] M := by
  obtain ⟨p1, p2, p3, p4, p5, p6⟩ := hp
  have rn : qR (l.length : Int) := by omega
  have rv3 : qR (v % 3) := by omega
  have rd3 : qR (v / 3) := by omega
  intro r
  induction r with
  | nil =>
    intro a e ha
    rw [List.append_nil] at e
    subst e
    have b1 := awL_r (w := v / 3) hx.1 l 0
    have b2 := hx.1 l.length
    refine s_X8_fits_76 hC hQ rn (by omega) rv3 rd3 (by decide) (by omega) rn ⟨fun _ => ⟨fun z => absurd z (by decide), fun _ => ⟨by omega, ?_⟩⟩, fun z => by omega⟩
    rw [p6 _ (by omega) (by omega)]
    refine ⟨fun z => h0 ?_, fun z => h1 ((okP_iff x l v).mpr (Or.inr ⟨hbase, ha, z⟩))⟩
    cases q : okP x l v with
    | false => rfl
    | true =>
      rcases (okP_iff x l v).mp q with y | y
      · omega
      · have := y.2.2; omega
  | cons o r ih =>
    intro a e ha
    have hlen : l.length = a.length + r.length + 1 := by rw [e]; simp; omega
    have ho : M 80 (a.length : Int) = o := by rw [hl a.length (by omega), e]; exact gd_at a r o
    have oc := hc o (by rw [e]; simp)
    have b1 := awL_r (w := v / 3) hx.1 a 0
    have b2 := hx.1 l.length
    have b3 := hx.1 a.length
    have ra : qR (a.length : Int) := by omega
    -- behind the step
    have nx1 : okO x v o = true → qW g C 76 [some (.inr 63), some (.inl (l.length : Int)), some (.inl v), some (.inl (v % 3)), some (.inl (v / 3)), some (.inl 1), some (.inl (x.1 l.length + awL x.1 (v / 3) 0 a + (if o ≠ 15 ∧ o / 3 = v / 3 then x.1 a.length else 0))), some (.inl ((a.length : Int) + 1)), none, none, none] [] M := by
      intro q
      have := ih (a ++ [o]) (by rw [e]; simp) (fun y hy => by
        rcases List.mem_append.mp hy with hy | hy
        · exact ha y hy
        · rw [List.mem_singleton.mp hy]; exact q)
      rw [awL_app, List.length_append, List.length_singleton, show ((a.length + 1 : Nat) : Int) = (a.length : Int) + 1 by omega, Int.zero_add, ← Int.add_assoc] at this
      exact this
    have nx0 : okO x v o = false → qW g C 76 [some (.inr 63), some (.inl (l.length : Int)), some (.inl v), some (.inl (v % 3)), some (.inl (v / 3)), some (.inl 0), some (.inl (x.1 l.length + awL x.1 (v / 3) 0 a + (if o ≠ 15 ∧ o / 3 = v / 3 then x.1 a.length else 0))), some (.inl ((a.length : Int) + 1)), none, none, none] [] M := by
      intro q
      have hz : K 0 M := h0 (by
        cases q2 : okP x l v with
        | false => rfl
        | true =>
          rcases (okP_iff x l v).mp q2 with y | y
          · omega
          · have := y.2.1 o (by rw [e]; simp)
            rw [q] at this
            cases this)
      refine s_X8_fits_76 hC hQ rn (by omega) rv3 rd3 (by decide) (by split <;> omega) (by omega) ⟨fun _ => ⟨fun _ => hz, fun z => absurd rfl z⟩, fun _ => ⟨fun _ => ⟨fun _ => hz, fun z => absurd rfl z⟩, fun z => absurd rfl z⟩⟩
    have st165 : ∀ (gd s0 : Int), (gd = 0 ∨ gd = 1) → (s0 = 0 ∨ s0 = 1) → (gd = 1 → okO x v o = true) → (gd = 0 → okO x v o = false) → qW g C 165 [some (.inr 63), some (.inl (l.length : Int)), some (.inl v), some (.inl (v % 3)), some (.inl (v / 3)), some (.inl 1), some (.inl (x.1 l.length + awL x.1 (v / 3) 0 a)), some (.inl (a.length : Int)), some (.inl o), some (.inl s0), some (.inl (o / 3 - v / 3))] [.inl gd] M := by
      intro gd s0 hg hs g1 g0
      have st196 : ∀ z, z = (if o ≠ 15 ∧ o / 3 = v / 3 then x.1 a.length else 0) → qW g C 196 [some (.inr 63), some (.inl (l.length : Int)), some (.inl v), some (.inl (v % 3)), some (.inl (v / 3)), some (.inl gd), some (.inl (x.1 l.length + awL x.1 (v / 3) 0 a)), some (.inl (a.length : Int)), some (.inl o), some (.inl s0), some (.inl (o / 3 - v / 3))] [.inl z, .inl (x.1 l.length + awL x.1 (v / 3) 0 a)] M := by
        intro z hz
        have rz : qR z := by rw [hz]; split <;> omega
        refine s_X8_fits_196 hC hQ rn (by omega) rv3 rd3 (by omega) (by omega) ra (by omega) (by omega) (by omega) rz (by omega) ?_
        rw [hz]
        rcases hg with q | q
        · subst q; exact nx0 (g0 rfl)
        · subst q; exact nx1 (g1 rfl)
      refine s_X8_fits_165 hC hQ rn (by omega) rv3 rd3 (by decide) (by omega) ra (by omega) (by omega) (by omega) (by omega) ⟨fun z => st196 0 (by rw [if_neg (fun q => q.1 z)]), fun z => ⟨oc.1, by omega, fun y => st196 0 (by rw [if_neg (fun q => y q.2)]), fun y => ⟨by omega, ?_⟩⟩⟩
      rw [p5 _ (by omega) (by omega)]
      exact st196 _ (by rw [if_pos ⟨z, y⟩])
    have st116 : ∀ s0 : Int, (s0 = 0 ∨ s0 = 1) → (s0 = 1 → (o ≠ 15 ∧ o % 3 = v % 3)) → (s0 = 0 → ¬ (o ≠ 15 ∧ o % 3 = v % 3)) → qW g C 116 [some (.inr 63), some (.inl (l.length : Int)), some (.inl v), some (.inl (v % 3)), some (.inl (v / 3)), some (.inl 1), some (.inl (x.1 l.length + awL x.1 (v / 3) 0 a)), some (.inl (a.length : Int)), some (.inl o), none, none] [.inl s0] M := by
      intro s0 hs s1 s00
      have no : ¬ (o ≠ v ∧ ¬ ((o ≠ 15 ∧ o % 3 = v % 3) ∧ x.2.2.2.2.1 (v % 3) = 1 ∧ (o / 3 - v / 3 = 1 ∨ o / 3 - v / 3 = -1))) → okO x v o = false := fun q => by
        cases q2 : okO x v o with
        | false => rfl
        | true => exact absurd ((okO_iff x v o).mp q2) q
      refine s_X8_fits_116 hC hQ rn (by omega) rv3 rd3 (by decide) (by omega) ra (by omega) (by omega) ⟨oc.1, fun z1 => st165 0 s0 (Or.inl rfl) hs (fun q => absurd q (by decide)) (fun _ => no (fun q => q.1 z1)), fun z1 => ⟨fun z2 => st165 1 s0 (Or.inr rfl) hs (fun _ => (okO_iff x v o).mpr ⟨z1, fun q => s00 z2 q.1⟩) (fun q => absurd q (by decide)), fun z2 => ⟨by omega, ?_⟩⟩⟩
      have s1' := s1 (by omega)
      rw [p3]
      refine ⟨fun z3 => st165 1 s0 (Or.inr rfl) hs (fun _ => (okO_iff x v o).mpr ⟨z1, fun q => z3 q.2.1⟩) (fun q => absurd q (by decide)), fun z3 => ⟨by omega, fun z4 => st165 0 s0 (Or.inl rfl) hs (fun q => absurd q (by decide)) (fun _ => no (fun q => q.2 ⟨s1', z3, Or.inl z4⟩)), fun z4 => ⟨fun z5 => st165 0 s0 (Or.inl rfl) hs (fun q => absurd q (by decide)) (fun _ => no (fun q => q.2 ⟨s1', z3, Or.inr z5⟩)), fun z5 => st165 1 s0 (Or.inr rfl) hs (fun _ => (okO_iff x v o).mpr ⟨z1, fun q => q.2.2.elim z4 z5⟩) (fun q => absurd q (by decide))⟩⟩⟩
    refine s_X8_fits_76 hC hQ rn (by omega) rv3 rd3 (by decide) (by omega) ra ⟨fun z => by omega, fun _ => ⟨fun z => absurd z (by decide), fun _ => ⟨by omega, ?_⟩⟩⟩
    rw [ho]
    exact ⟨fun z => st116 0 (Or.inl rfl) (fun q => absurd q (by decide)) (fun _ q => q.1 z), fun z => ⟨oc.1, by omega, fun y => st116 0 (Or.inl rfl) (fun q => absurd q (by decide)) (fun _ q => y q.2), fun y => st116 1 (Or.inr rfl) (fun _ => ⟨z, y⟩) (fun q => absurd q (by decide))⟩⟩
theorem bm_fits (hx : pxO x) (hp : Pm M x) (hl : chM M 80 l) (hc : chL l) (hn : l.length < 4) (hv : M 80 l.length = v) (v0 : 0 ≤ v) (v1 : v ≤ 15) :
    qOk g d j_X8_fits [.inr 63, .inl (l.length : Int)] M (qI fun y M1 => M1 = M ∧ ((y = 1 ∧ okP x l v = true) ∨ (y = 0 ∧ okP x l v = false))) := by
  obtain ⟨p1, p2, p3, p4, p5, p6⟩ := id hp
  refine e_X8_fits (by omega) (fun C hC hQ => ?_)
  rw [hv, p5 _ (by omega) (by omega)]
  refine ⟨by omega, fun z => ⟨v0, v0, ?_⟩, fun z => ⟨rfl, Or.inl ⟨rfl, by rw [z]; exact ok_15 x l⟩⟩⟩
  have b2 := hx.1 l.length
  have bad : ¬ (0 < x.1 l.length ∧ v % 3 < x.2.2.1 ∧ x.1 l.length ≤ x.2.2.2.1 (v % 3)) → qW g C 76 [some (.inr 63), some (.inl (l.length : Int)), some (.inl v), some (.inl (v % 3)), some (.inl (v / 3)), some (.inl 0), some (.inl (x.1 l.length)), some (.inl 0), none, none, none] [] M := by
    intro q
    have hz : okP x l v = false := by
      cases q2 : okP x l v with
      | false => rfl
      | true =>
        rcases (okP_iff x l v).mp q2 with y | y
        · exact absurd y z
        · exact absurd y.1 q
    refine s_X8_fits_76 hC hQ (by omega) (by omega) (by omega) (by omega) (by decide) (by omega) (by decide) ⟨fun _ => ⟨fun _ => ⟨rfl, Or.inr ⟨rfl, hz⟩⟩, fun z => absurd rfl z⟩, fun _ => ⟨fun _ => ⟨fun _ => ⟨rfl, Or.inr ⟨rfl, hz⟩⟩, fun z => absurd rfl z⟩, fun z => absurd rfl z⟩⟩
  refine ⟨fun z1 => bad (by omega), fun z1 => ⟨by omega, ?_⟩⟩
  rw [p1, p2]
  refine ⟨fun z2 => bad (by omega), fun z2 => ⟨by have := hx.2.2.1; omega, fun z3 => bad (by omega), fun z3 => ?_⟩⟩
  have := lm_fits hx hp hl hc hn v0 (by omega) hC hQ ⟨z1, z2, z3⟩ (fun q => ⟨rfl, Or.inl ⟨rfl, q⟩⟩) (fun q => ⟨rfl, Or.inr ⟨rfl, q⟩⟩) l [] rfl (fun o ho => by cases ho)
  simpa [awL] using this
-- takes
/-- the best so far stands in the reference's cells -/
def bsM (M : qM) (b : Int × Int × List Int) : Prop := M 63 22 = b.1 ∧ M 63 23 = b.2.1 ∧ chM M 81 b.2.2
theorem lm_tk80 {K : qM → Prop} {w n : Int} {M0 : qM} (hw : qR w) (hn : qR n) (hC : qCk g C cX8_takes RX8 4 (d + 1)) (hQ : qRt g C none (qN K)) (hK : ∀ M', (∀ k, k ≠ 81 → M' k = M0 k) → (∀ i, 0 ≤ i → i < 4 → M' 81 i = M0 80 i) → K M') :
    ∀ (k : Nat) (i : Int) (M : qM), 0 ≤ i → i + k = 4 → (∀ k, k ≠ 81 → M k = M0 k) → (∀ j, 0 ≤ j → j < i → M 81 j = M0 80 j) → qW g C 80 [some (.inr 63), some (.inl w), some (.inl n), some (.inl i)] [] M := by
  intro k
  induction k with
  | zero =>
    intro i M h0 h1 hf hj
    exact s_X8_takes_80 hC hQ hw hn (by omega) ⟨fun _ => hK M hf (fun j j0 j1 => hj j j0 (by omega)), fun z => by omega⟩
  | succ k ih =>
    intro i M h0 h1 hf hj
    refine s_X8_takes_80 hC hQ hw hn (by omega) ⟨fun z => by omega, fun _ => ⟨by omega, ih (i + 1) _ (by omega) (by omega) (fun k hk => by rw [qU_f hk]; exact hf k hk) (fun j j0 j1 => ?_)⟩⟩
    by_cases z : j = i
    · subst z; rw [qU_s, hf 80 (by decide)]
    · rw [qU_i z]; exact hj j j0 (by omega)
theorem lm_tk6 {K : qM → Prop} {b : Int × Int × List Int} (hx : pxO x) (hp : M 76 = x.2.2.2.2.2) (hl : chM M 80 l) (hc : chL l) (hn : l.length = 4) (hb : bsM M b) (hbl : b.2.2.length ≤ 4) (hC : qCk g C cX8_takes RX8 4 (d + 1)) (hQ : qRt g C none (qN K))
    (hK : ∀ M', (∀ k, k ≠ 63 → k ≠ 81 → M' k = M k) → (∀ j, j ≠ 22 → j ≠ 23 → M' 63 j = M 63 j) → bsM M' (stP x b l) → K M') :
    ∀ (r a : List Int), l = a ++ r → qW g C 6 [some (.inr 63), some (.inl (woL x.2.2.2.2.2 0 a)), some (.inl (nuL a)), some (.inl (a.length : Int))] [] M := by
  intro r
  induction r with
  | nil =>
    intro a e
    rw [List.append_nil] at e
    subst e
    have b1 := woL_r hx.2.2.2.2 l 0 hc (by omega) (by omega)
    have b2 := nuL_r l
    have take : (b.1 < woL x.2.2.2.2.2 0 l ∨ (woL x.2.2.2.2.2 0 l = b.1 ∧ nuL l < b.2.1)) → qW g C 80 [some (.inr 63), some (.inl (woL x.2.2.2.2.2 0 l)), some (.inl (nuL l)), some (.inl 0)] [] (qU (qU M 63 22 (woL x.2.2.2.2.2 0 l)) 63 23 (nuL l)) := by
      intro q
      refine lm_tk80 (by omega) (by omega) hC hQ (fun M' f1 f2 => hK M' (fun k k1 k2 => by rw [f1 k k2, qU_f k1, qU_f k1]) (fun j j1 j2 => by rw [f1 63 (by decide), qU_i j2, qU_i j1]) ?_) 4 0 _ (by omega) (by omega) (fun _ _ => rfl) (fun j j0 j1 => by omega)
      have e1 : stP x b l = (woL x.2.2.2.2.2 0 l, nuL l, l) := if_pos q
      rw [e1]
      refine ⟨by rw [f1 63 (by decide), qU_i (by decide), qU_s], by rw [f1 63 (by decide), qU_s], fun i hi => ?_⟩
      have hi4 : i < 4 := by have : i < l.length := hi; omega
      rw [f2 i (by omega) (by omega), qU_f (by decide), qU_f (by decide)]
      exact hl i hi
    have keep : ¬ (b.1 < woL x.2.2.2.2.2 0 l ∨ (woL x.2.2.2.2.2 0 l = b.1 ∧ nuL l < b.2.1)) → K M := by
      intro q
      refine hK M (fun _ _ _ => rfl) (fun _ _ _ => rfl) ?_
      have e1 : stP x b l = b := if_neg q
      rw [e1]
      exact hb
    refine s_X8_takes_6 hC hQ (by omega) (by omega) (by omega) ⟨fun _ => ?_, fun z => by omega⟩
    rw [hb.1, hb.2.1]
    exact ⟨fun z => take (Or.inl z), fun z => ⟨fun y => keep (by omega), fun y => ⟨fun u => keep (by omega), fun u => take (Or.inr ⟨y, u⟩)⟩⟩⟩
  | cons o r ih =>
    intro a e
    have hlen : l.length = a.length + r.length + 1 := by rw [e]; simp; omega
    have ho : M 80 (a.length : Int) = o := by rw [hl a.length (by omega), e]; exact gd_at a r o
    have oc := hc o (by rw [e]; simp)
    have b1 := woL_r hx.2.2.2.2 a 0 (fun q hq => hc q (by rw [e]; simp [hq])) (by omega) (by omega)
    have b2 := nuL_r a
    have nxt := ih (a ++ [o]) (by rw [e]; simp)
    rw [woL_app, nuL_app, List.length_append, List.length_singleton, show ((a.length + 1 : Nat) : Int) = (a.length : Int) + 1 by omega, Int.zero_add] at nxt
    refine s_X8_takes_6 hC hQ (by omega) (by omega) (by omega) ⟨fun z => by omega, fun _ => ⟨by omega, ?_⟩⟩
    rw [ho, hp]
    refine ⟨by omega, fun z => ⟨by omega, fun y => absurd z y, fun y => ?_⟩, fun z => ⟨by omega, fun y => ?_, fun y => absurd y z⟩⟩
    · rw [if_pos z, if_pos z] at nxt
      exact nxt
    · rw [if_neg z, if_neg z] at nxt
      exact nxt
theorem bm_takes {b : Int × Int × List Int} (hx : pxO x) (hp : M 76 = x.2.2.2.2.2) (hl : chM M 80 l) (hc : chL l) (hn : l.length = 4) (hb : bsM M b) (hbl : b.2.2.length ≤ 4) :
    qOk g (d + 1) j_X8_takes [.inr 63] M (qN fun M1 => (∀ k, k ≠ 63 → k ≠ 81 → M1 k = M k) ∧ (∀ j, j ≠ 22 → j ≠ 23 → M1 63 j = M 63 j) ∧ bsM M1 (stP x b l)) :=
  e_X8_takes (fun C hC hQ => lm_tk6 hx hp hl hc hn hb hbl hC hQ (fun M' h1 h2 h3 => ⟨h1, h2, h3⟩) l [] rfl)
theorem st_len {b : Int × Int × List Int} (hb : b.2.2.length ≤ 4) (hl : l.length ≤ 4) : (stP x b l).2.2.length ≤ 4 := by
  unfold stP
  split
  · exact hl
  · exact hb
-- the search itself
/-- the cells while the search stands at a list of choices l, with the best b so far -/
def srM (M0 M : qM) (x : pX) (l : List Int) (b : Int × Int × List Int) : Prop := (∀ k, k ≠ 63 → k ≠ 80 → k ≠ 81 → M k = M0 k) ∧ (∀ j, j ≠ 22 → j ≠ 23 → M 63 j = M0 63 j) ∧ Pm M x ∧ chM M 80 l ∧ bsM M b ∧ b.2.2.length ≤ 4
theorem Pm.c {M M1 : qM} (h : Pm M x) (hf : ∀ k, k ≠ 63 → k ≠ 80 → k ≠ 81 → M1 k = M k) : Pm M1 x := by
  obtain ⟨p1, p2, p3, p4, p5, p6⟩ := h
  exact ⟨by rw [hf 64 (by decide) (by decide) (by decide)]; exact p1, by rw [hf 74 (by decide) (by decide) (by decide)]; exact p2, by rw [hf 75 (by decide) (by decide) (by decide)]; exact p3, by rw [hf 76 (by decide) (by decide) (by decide)]; exact p4, by rw [hf 82 (by decide) (by decide) (by decide)]; exact p5, by rw [hf 83 (by decide) (by decide) (by decide)]; exact p6⟩
theorem srM.put {M0 M : qM} {b : Int × Int × List Int} {i z : Int} (h : srM M0 M x l b) (hi : (l.length : Int) ≤ i) : srM M0 (qU M 80 i z) x l b := by
  obtain ⟨h1, h2, h3, h4, h5, h6⟩ := h
  refine ⟨fun k k1 k2 k3 => by rw [qU_f k2]; exact h1 k k1 k2 k3, fun j j1 j2 => by rw [qU_f (by decide)]; exact h2 j j1 j2, h3.c (fun k _ k2 _ => qU_f k2), fun q hq => ?_, ⟨by rw [qU_f (by decide)]; exact h5.1, by rw [qU_f (by decide)]; exact h5.2.1, fun q hq => by rw [qU_f (by decide)]; exact h5.2.2 q hq⟩, h6⟩
  rw [qU_i (by omega)]
  exact h4 q hq
theorem chM_app {M : qM} {k : Nat} {o : Int} (h : chM M k l) (ho : M k (l.length : Int) = o) : chM M k (l ++ [o]) := by
  intro i hi
  rw [List.length_append, List.length_singleton] at hi
  by_cases z : i = l.length
  · subst z; rw [ho]; exact (gd_at l [] o).symm
  · rw [h i (by omega)]
    simp [List.getD_eq_getElem?_getD, List.getElem?_append_left (show i < l.length by omega)]
theorem chM_pre {M : qM} {k : Nat} {o : Int} (h : chM M k (l ++ [o])) : chM M k l ∧ M k (l.length : Int) = o := by
  refine ⟨fun i hi => ?_, ?_⟩
  · rw [h i (by simp; omega)]
    simp [List.getD_eq_getElem?_getD, List.getElem?_append_left hi]
  · rw [h l.length (by simp)]
    exact gd_at l [] o
theorem lm_fp112 {K : qM → Prop} {M0 : qM} (hx : pxO x) (hC : qCk g C cX8_findPlan RX8 3 (d + 2)) (hQ : qRt g C none (qN K)) :
    ∀ (k : Nat) (l : List Int), l.length + (k + 1) = 4 → chL l → ∀ (c v : Nat), v + c = 16 → ∀ (M : qM) (b : Int × Int × List Int), srM M0 M x l b → M 80 (l.length : Int) = (v : Int) - 1 →
      (∀ M' : qM, srM M0 M' x l (rnF x k l c v b) → qW g C 112 [some (.inr 63), some (.inl ((l.length : Int) - 1)), none] [] M') → qW g C 112 [some (.inr 63), some (.inl (l.length : Int)), none] [] M := by
  intro k
  induction k with
  | zero =>
    intro l hk hcl c
    induction c with
    | zero =>
      intro v hv M b hs hm hnext
      refine s_X8_findPlan_112 hC hQ (by omega) ⟨fun z => by omega, fun _ => ⟨by omega, by omega, ?_⟩⟩
      rw [qU_s, hm]
      refine ⟨fun z => by omega, fun _ => ?_⟩
      exact hnext _ (hs.put (Int.le_refl _))
    | succ c ihc =>
      intro v hv M b hs hm hnext
      have hs1 : srM M0 (qU M 80 (l.length : Int) (v : Int)) x l b := hs.put (Int.le_refl _)
      refine s_X8_findPlan_112 hC hQ (by omega) ⟨fun z => by omega, fun _ => ⟨by omega, by omega, ?_⟩⟩
      rw [qU_s, hm, show (v : Int) - 1 + 1 = (v : Int) by omega]
      refine ⟨fun _ => ?_, fun z => by omega⟩
      refine (bm_fits (v := (v : Int)) hx hs1.2.2.1 hs1.2.2.2.1 hcl (by omega) (by rw [qU_s]) (by omega) (by omega)).monoI (fun y M1 _ _ hy => ?_)
      obtain ⟨rfl, hy⟩ := hy
      refine ⟨fun z => ⟨fun _ => ?_, fun q => by omega⟩, fun z => ?_⟩
      · have ok : okP x l (v : Int) = true := by rcases hy with hy | hy; exact hy.2; omega
        have hch := chM_app (o := (v : Int)) hs1.2.2.2.1 (by rw [qU_s])
        refine (bm_takes hx hs1.2.2.1.2.2.2.1 hch (fun o ho => by
          rcases List.mem_append.mp ho with q | q
          · exact hcl o q
          · rw [List.mem_singleton.mp q]; omega) (by simp; omega) hs1.2.2.2.2.1 hs1.2.2.2.2.2).monoN (fun M2 _ h2 => ?_)
        obtain ⟨f1, f2, f3⟩ := h2
        refine ihc (v + 1) (by omega) M2 (stP x b (l ++ [(v : Int)])) ⟨fun k k1 k2 k3 => by rw [f1 k k1 k3]; exact hs1.1 k k1 k2 k3, fun j j1 j2 => by rw [f2 j j1 j2]; exact hs1.2.1 j j1 j2, hs1.2.2.1.c (fun k k1 _ k3 => f1 k k1 k3), fun i hi => by rw [f1 80 (by decide) (by decide)]; exact hs1.2.2.2.1 i hi, f3, st_len hs1.2.2.2.2.2 (by simp; omega)⟩ (by rw [f1 80 (by decide) (by decide), qU_s]; omega) (fun M' hM' => hnext M' ?_)
        have e : rnF x 0 l (c + 1) v b = rnF x 0 l c (v + 1) (stP x b (l ++ [(v : Int)])) := by
          show rnF x 0 l c (v + 1) (if okP x l (v : Int) then _ else _) = _
          rw [if_pos ok]
          rfl
        rw [e]
        exact hM'
      · have ok : ¬ okP x l (v : Int) = true := by rcases hy with hy | hy; omega; rw [hy.2]; decide
        refine ihc (v + 1) (by omega) _ b hs1 (by rw [qU_s]; omega) (fun M' hM' => hnext M' ?_)
        have e : rnF x 0 l (c + 1) v b = rnF x 0 l c (v + 1) b := by
          show rnF x 0 l c (v + 1) (if okP x l (v : Int) then _ else _) = _
          rw [if_neg ok]
        rw [e]
        exact hM'
  | succ k ihk =>
    intro l hk hcl c
    induction c with
    | zero =>
      intro v hv M b hs hm hnext
      refine s_X8_findPlan_112 hC hQ (by omega) ⟨fun z => by omega, fun _ => ⟨by omega, by omega, ?_⟩⟩
      rw [qU_s, hm]
      refine ⟨fun z => by omega, fun _ => ?_⟩
      exact hnext _ (hs.put (Int.le_refl _))
    | succ c ihc =>
      intro v hv M b hs hm hnext
      have hs1 : srM M0 (qU M 80 (l.length : Int) (v : Int)) x l b := hs.put (Int.le_refl _)
      refine s_X8_findPlan_112 hC hQ (by omega) ⟨fun z => by omega, fun _ => ⟨by omega, by omega, ?_⟩⟩
      rw [qU_s, hm, show (v : Int) - 1 + 1 = (v : Int) by omega]
      refine ⟨fun _ => ?_, fun z => by omega⟩
      refine (bm_fits (v := (v : Int)) hx hs1.2.2.1 hs1.2.2.2.1 hcl (by omega) (by rw [qU_s]) (by omega) (by omega)).monoI (fun y M1 _ _ hy => ?_)
      obtain ⟨rfl, hy⟩ := hy
      refine ⟨fun z => ⟨fun q => by omega, fun _ => ⟨by omega, ?_⟩⟩, fun z => ?_⟩
      · have ok : okP x l (v : Int) = true := by rcases hy with hy | hy; exact hy.2; omega
        have hch := chM_app (o := (v : Int)) hs1.2.2.2.1 (by rw [qU_s])
        have hs2 : srM M0 (qU M 80 (l.length : Int) (v : Int)) x (l ++ [(v : Int)]) b := ⟨hs1.1, hs1.2.1, hs1.2.2.1, hch, hs1.2.2.2.2.1, hs1.2.2.2.2.2⟩
        have hl1 : ((l ++ [(v : Int)]).length : Int) = (l.length : Int) + 1 := by simp
        have nk := ihk (l ++ [(v : Int)]) (by simp; omega) (fun o ho => by
          rcases List.mem_append.mp ho with q | q
          · exact hcl o q
          · rw [List.mem_singleton.mp q]; omega) 16 0 (by omega) (qU (qU M 80 (l.length : Int) (v : Int)) 80 ((l.length : Int) + 1) (-1)) b (hs2.put (by omega)) (by rw [hl1, qU_s]; decide)
        rw [hl1] at nk
        refine nk (fun M' hM' => ?_)
        rw [show (l.length : Int) + 1 - 1 = (l.length : Int) by omega]
        have hp := chM_pre hM'.2.2.2.1
        refine ihc (v + 1) (by omega) M' _ ⟨hM'.1, hM'.2.1, hM'.2.2.1, hp.1, hM'.2.2.2.2.1, hM'.2.2.2.2.2⟩ (by rw [hp.2]; omega) (fun M'' hM'' => hnext M'' ?_)
        have e : rnF x (k + 1) l (c + 1) v b = rnF x (k + 1) l c (v + 1) (rnF x k (l ++ [(v : Int)]) 16 0 b) := by
          show rnF x (k + 1) l c (v + 1) (if okP x l (v : Int) then _ else _) = _
          rw [if_pos ok, rn_eq]
        rw [e]
        exact hM''
      · have ok : ¬ okP x l (v : Int) = true := by rcases hy with hy | hy; omega; rw [hy.2]; decide
        refine ihc (v + 1) (by omega) _ b hs1 (by rw [qU_s]; omega) (fun M' hM' => hnext M' ?_)
        have e : rnF x (k + 1) l (c + 1) v b = rnF x (k + 1) l c (v + 1) b := by
          show rnF x (k + 1) l c (v + 1) (if okP x l (v : Int) then _ else _) = _
          rw [if_neg ok]
        rw [e]
        exact hM'
end PLANM
