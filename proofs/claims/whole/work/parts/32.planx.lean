/-! the plan: the class's seek -/
def m15 (o : Int) : Int := if o = 15 then -1 else o
/-- what the planner has read -/
def Pc (M : qM) (x : pX) : Prop := (∀ p, 0 ≤ p → p < 4 → M 55 p = x.1 p) ∧ (∀ p v, 0 ≤ p → p < 4 → 0 ≤ v → v < 15 → M 57 (p * 15 + v) = ofF x p v) ∧
  (∀ v : Nat, v < 15 → (v : Int) % 3 < x.2.2.1 → (x.2.2.2.2.1 ((v : Int) % 3) = 0 ∨ x.2.2.2.2.1 ((v : Int) % 3) = 1) ∧ (x.2.2.2.2.1 ((v : Int) % 3) = 0 → M 58 v = qShl 1 (v : Int)) ∧ (x.2.2.2.2.1 ((v : Int) % 3) = 1 → M 58 v = qOr (qOr (qShl 1 (v : Int)) (qShl (qShl 1 (v : Int)) 3)) (qShr (qShl 1 (v : Int)) 3))) ∧
  (∀ k : Nat, k ≤ 4 → M 59 (4 - (k : Int)) = hoK x k) ∧ ∀ k : Nat, k ≤ 4 → M 60 (4 - (k : Int)) = asK x k
theorem Pc.c {M M1 : qM} {x : pX} (h : Pc M x) (hf : ∀ k, k ≠ 54 → k ≠ 56 → k ≠ 61 → k ≠ 62 → M1 k = M k) : Pc M1 x := by
  obtain ⟨p1, p2, p3, p4, p5⟩ := h
  exact ⟨by rw [hf 55 (by decide) (by decide) (by decide) (by decide)]; exact p1, by rw [hf 57 (by decide) (by decide) (by decide) (by decide)]; exact p2, by rw [hf 58 (by decide) (by decide) (by decide) (by decide)]; exact p3, by rw [hf 59 (by decide) (by decide) (by decide) (by decide)]; exact p4, by rw [hf 60 (by decide) (by decide) (by decide) (by decide)]; exact p5⟩
/-- the best so far in the planner's cells -/
def bsX (M : qM) (b : Int × Int × List Int) : Prop := M 54 8 = b.1 ∧ M 54 9 = b.2.1 ∧ (∀ i : Nat, i < 4 → M 62 (i : Int) = m15 (b.2.2.getD i 15)) ∧ (0 ≤ b.1 ∧ b.1 ≤ 36) ∧ (0 ≤ b.2.1 ∧ b.2.1 ≤ 4)
def skX (M0 M : qM) (x : pX) (l : List Int) (b : Int × Int × List Int) : Prop := (∀ k, k ≠ 54 → k ≠ 56 → k ≠ 61 → k ≠ 62 → M k = M0 k) ∧ Pc M x ∧ (∀ w, 0 ≤ w → w < 5 → M 56 w = x.2.1 w - awL x.1 w 0 l) ∧ (∀ i : Nat, i < l.length → M 61 (i : Int) = m15 (l.getD i 15)) ∧ bsX M b
section SEEK
variable {g : qG} {C : qX} {d : Nat} {x : pX} {M M0 : qM} {l : List Int} {b : Int × Int × List Int}
theorem bx_isNoBetter {k : Nat} {w n : Int} (hx : pxO x) (h : skX M0 M x l b) (hk : l.length + k = 4) (hw : w = woL x.2.2.2.2.2 0 l) (hn : n = nuL l) (wr : 0 ≤ w ∧ w ≤ 36) (nr : 0 ≤ n ∧ n ≤ 4) : qOk g d j_X4_isNoBetter [.inr 54, .inl (l.length : Int), .inl w, .inl n] M (qI fun y M1 => M1 = M ∧ ((y = 1 ∧ noB x k l b) ∨ (y = 0 ∧ ¬ noB x k l b))) := by
  obtain ⟨f, ⟨p1, p2, p3, p4, p5⟩, r, t, b1, b2, b3, b4, b5⟩ := h
  have e4 : (l.length : Int) = 4 - (k : Int) := by omega
  have q4 := p4 k (by omega)
  have q5 := p5 k (by omega)
  have hr := ho_r hx k (by omega)
  refine qOk.kI (fun K hK => e_X4_isNoBetter (by omega) (by omega) (by omega) ?_)
  rw [e4, q4, q5, b1, b2]
  simp only [noB, ← hw, ← hn] at hK
  refine ⟨by omega, by omega, fun z => hK 1 _ ⟨rfl, Or.inl ⟨rfl, Or.inl z⟩⟩, fun z => ⟨fun y => hK 0 _ ⟨rfl, Or.inr ⟨rfl, by omega⟩⟩, fun y => ⟨by omega, fun u => hK 0 _ ⟨rfl, Or.inr ⟨rfl, by omega⟩⟩, fun u => hK 1 _ ⟨rfl, Or.inl ⟨rfl, Or.inr ⟨y, u⟩⟩⟩⟩⟩⟩
theorem st_rng {b : Int × Int × List Int} (hx : pxO x) (hc : chL l) (hl : l.length = 4) (h1 : 0 ≤ b.1 ∧ b.1 ≤ 36) (h2 : 0 ≤ b.2.1 ∧ b.2.1 ≤ 4) : (0 ≤ (stP x b l).1 ∧ (stP x b l).1 ≤ 36) ∧ (0 ≤ (stP x b l).2.1 ∧ (stP x b l).2.1 ≤ 4) := by
  have wr := woL_r hx.2.2.2.2 l 0 hc (by omega) (by omega)
  have nr := nuL_r l
  unfold stP
  split
  · exact ⟨by show 0 ≤ woL x.2.2.2.2.2 0 l ∧ woL x.2.2.2.2.2 0 l ≤ 36; omega, by show 0 ≤ nuL l ∧ nuL l ≤ 4; omega⟩
  · exact ⟨h1, h2⟩
theorem bx_takeTried {w n : Int} (hx : pxO x) (hc : chL l) (h : skX M0 M x l b) (hl : l.length = 4) (hw : w = woL x.2.2.2.2.2 0 l) (hn : n = nuL l) (hb : beP x l b) : qOk g (d + 2) j_X4_takeTried [.inr 54, .inl w, .inl n] M (qN fun M1 => skX M0 M1 x l (stP x b l)) := by
  obtain ⟨f, pc, r, t, b1, b2, b3, b4, b5⟩ := h
  have wr := woL_r hx.2.2.2.2 l 0 hc (by omega) (by omega)
  have nr := nuL_r l
  have sr := st_rng hx hc hl b4 b5
  refine e_X4_takeTried (by omega) (by omega) (e_X7_copyRow 4 ly_61 ly_62 rfl ?_)
  have fr : ∀ k, k ≠ 54 → k ≠ 62 → (qU (qU (qCp M 61 62 4) 54 8 w) 54 9 n) k = M k := fun k k1 k2 => by rw [qU_f k1, qU_f k1, qCp_f k2]
  refine ⟨fun k k1 k2 k3 k4 => by rw [fr k k1 k4]; exact f k k1 k2 k3 k4, pc.c (fun k k1 _ _ k4 => fr k k1 k4), by rw [fr 56 (by decide) (by decide)]; exact r, by rw [fr 61 (by decide) (by decide)]; exact t, ?_, ?_, fun i hi => ?_, sr⟩
  · rw [st_y hb, qU_i (by decide), qU_s, hw]
  · rw [st_y hb, qU_s, hn]
  · rw [qU_f (by decide), qU_f (by decide), qCp_g, fC_a, if_pos (by omega), t i (by omega), st_y hb]
theorem skX.pre {o : Int} (h : skX M0 M x (l ++ [o]) b) (ho : o = 15) : skX M0 M x l b := by
  obtain ⟨f, pc, r, t, bb⟩ := h
  refine ⟨f, pc, fun w w0 w1 => ?_, fun i hi => ?_, bb⟩
  · rw [r w w0 w1, awL_app, if_neg (fun z => z.1 ho), Int.add_zero]
  · rw [t i (by simp; omega)]
    simp [List.getD_eq_getElem?_getD, List.getElem?_append_left hi]
theorem skX.try {o z : Int} {i : Int} (h : skX M0 M x l b) (hi : i = (l.length : Int)) (hz : z = m15 o) (hn : l.length < 4) : (∀ q : Nat, q < (l ++ [o]).length → (qU M 61 i z) 61 (q : Int) = m15 ((l ++ [o]).getD q 15)) := by
  intro q hq
  rw [List.length_append, List.length_singleton] at hq
  subst hi
  by_cases y : q = l.length
  · subst y
    rw [qU_s, hz]
    congr 1
    exact (gd_at l [] o).symm
  · rw [qU_i (by omega), h.2.2.2.1 q (by omega)]
    simp [List.getD_eq_getElem?_getD, List.getElem?_append_left (show q < l.length by omega)]
theorem bsX.c {M1 : qM} (h : bsX M b) (h1 : M1 54 = M 54) (h2 : M1 62 = M 62) : bsX M1 b := by
  obtain ⟨b1, b2, b3, b4, b5⟩ := h
  exact ⟨by rw [h1]; exact b1, by rw [h1]; exact b2, by rw [h2]; exact b3, b4, b5⟩
theorem chL_app {o : Int} (hc : chL l) (ho : 0 ≤ o ∧ o ≤ 15) : chL (l ++ [o]) := fun q hq => by
  rcases List.mem_append.mp hq with y | y
  · exact hc q y
  · rw [List.mem_singleton.mp y]; exact ho
/-- the loop over the places, with the seek one deeper given -/
theorem lx_sk36 {K : qM → Prop} {k : Nat} {D : Nat} (hx : pxO x) (hk : l.length + (k + 1) = 4) (hc : chL l) {u : Int} (hu : usR u l) (ur : qR u) (hC : qCk g C cX4_seek RX4 9 (D + 1)) (hQ : qRt g C none (qN K))
    (rec : ∀ (o u : Int) (M : qM) (b : Int × Int × List Int), (0 ≤ o ∧ o ≤ 15) → usR u (l ++ [o]) → qR u → skX M0 M x (l ++ [o]) b → qOk g D j_X4_seek [.inr 54, .inl ((l.length : Int) + 1), .inl u, .inl (woL x.2.2.2.2.2 0 (l ++ [o])), .inl (nuL (l ++ [o]))] M (qN fun M1 => skX M0 M1 x (l ++ [o]) (dfF x k (l ++ [o]) b))) :
    ∀ (c v : Nat), v + c = 15 → ∀ (M : qM) (b : Int × Int × List Int), skX M0 M x l b → (∀ M1 : qM, skX M0 M1 x l (rdF x k l (c + 1) v b) → K M1) → qW g C 36 [some (.inr 54), some (.inl (l.length : Int)), some (.inl u), some (.inl (woL x.2.2.2.2.2 0 l)), some (.inl (nuL l)), some (.inl (x.1 l.length)), some (.inl (v : Int)), none, none] [] M := by
  have wr := woL_r hx.2.2.2.2 l 0 hc (by omega) (by omega)
  have nr := nuL_r l
  have sr := hx.1 l.length
  intro c
  induction c with
  | zero =>
    intro v hv M b hs hK
    have e : v = 15 := by omega
    subst e
    refine s_X4_seek_36 hC hQ (by omega) ur (by omega) (by omega) (by omega) (by decide) ⟨fun _ => ⟨by omega, ?_⟩, fun z => absurd z (by decide)⟩
    have fr : ∀ k, k ≠ 61 → (qU M 61 (l.length : Int) (-1)) k = M k := fun k hk => qU_f hk
    have hs1 : skX M0 (qU M 61 (l.length : Int) (-1)) x (l ++ [15]) b := ⟨fun k k1 k2 k3 k4 => by rw [fr k k3]; exact hs.1 k k1 k2 k3 k4, hs.2.1.c (fun k _ _ k3 _ => fr k k3), fun w w0 w1 => by rw [fr 56 (by decide), awL_app, if_neg (fun z => z.1 rfl), Int.add_zero]; exact hs.2.2.1 w w0 w1, hs.try rfl rfl (by omega), hs.2.2.2.2.c (fr 54 (by decide)) (fr 62 (by decide))⟩
    have q := rec 15 u _ b (by decide) (us_15 hu) ur hs1
    rw [woL_app, nuL_app, if_pos rfl, if_pos rfl, Int.add_zero, Int.add_zero] at q
    refine q.monoN (fun M1 _ h1 => hK M1 ?_)
    have e2 : rdF x k l (0 + 1) 15 b = dfF x k (l ++ [15]) b := by
      show (if okC x l ((15 : Nat) : Int) then dfF x k (l ++ [((15 : Nat) : Int)]) b else b) = _
      rw [if_pos (show okC x l ((15 : Nat) : Int) = true by unfold okC; rw [show ((15 : Nat) : Int) = 15 from rfl, ok_15]; rfl)]
      rfl
    rw [e2]
    exact h1.pre rfl
  | succ c ih =>
    intro v hv M b hs hK
    obtain ⟨f, pc, r, t, bb⟩ := id hs
    obtain ⟨p1, p2, p3, p4, p5⟩ := id pc
    have ev := p2 l.length v (by omega) (by omega) (by omega) (by omega)
    have ov := of_r hx (p := (l.length : Int)) (v := (v : Int)) (by omega) (by omega) (by omega) (by omega)
    have skip : ¬ okC x l (v : Int) = true → qW g C 36 [some (.inr 54), some (.inl (l.length : Int)), some (.inl u), some (.inl (woL x.2.2.2.2.2 0 l)), some (.inl (nuL l)), some (.inl (x.1 l.length)), some (.inl ((v : Int) + 1)), none, none] [] M := by
      intro z
      have nxt := ih (v + 1) (by omega) M b hs (fun M1 h1 => hK M1 (by
        have e : rdF x k l (c + 1 + 1) v b = rdF x k l (c + 1) (v + 1) b := by
          show rdF x k l (c + 1) (v + 1) (if okC x l (v : Int) then _ else _) = _
          rw [if_neg z]
        rw [e]; exact h1))
      rw [show ((v + 1 : Nat) : Int) = (v : Int) + 1 by omega] at nxt
      exact nxt
    have okc : okC x l (v : Int) = true → okP x l (v : Int) = true ∧ 0 < x.2.2.2.2.2 (15 * (l.length : Int) + v) ∧ 0 < ofF x l.length v := by
      intro z
      unfold okC at z
      rw [Bool.and_eq_true, Bool.or_eq_true, decide_eq_true_iff, decide_eq_true_iff] at z
      have z2 : 0 < x.2.2.2.2.2 (15 * (l.length : Int) + v) := by
        rcases z.2 with y | y
        · omega
        · exact y
      exact ⟨z.1, z2, by rw [ok_of hx z.1 (by omega)]; exact z2⟩
    refine s_X4_seek_36 hC hQ (by omega) ur (by omega) (by omega) (by omega) (by omega) ⟨fun z => by omega, fun _ => ⟨by omega, by omega, ?_⟩⟩
    rw [ev]
    refine ⟨fun z => skip (fun y => by have := (okc y).2.2; omega), fun z1 => ⟨by omega, fun z2 => skip (fun y => ?_), fun z2 => ?_⟩⟩
    · -- barred
      have q1 : (v : Int) % 3 < x.2.2.1 := by
        unfold ofF at z1
        by_cases w : x.1 l.length = 0 ∨ x.2.2.1 ≤ (v : Int) % 3 ∨ x.2.2.2.1 ((v : Int) % 3) < x.1 l.length ∨ x.2.1 ((v : Int) / 3) < x.1 l.length
        · rw [if_pos w] at z1; omega
        · omega
      have q2 := p3 v (by omega) q1
      have q3 := (us_bar (x := x) hu hc (by omega) q2.2.1 q2.2.2 q2.1)
      rcases (okP_iff x l v).mp (okc y).1 with w | w
      · omega
      · exact z2 (q3.mpr w.2.1)
    · have base : x.1 l.length ≠ 0 ∧ (v : Int) % 3 < x.2.2.1 ∧ x.1 l.length ≤ x.2.2.2.1 ((v : Int) % 3) ∧ ofF x l.length v = x.2.2.2.2.2 (15 * (l.length : Int) + v) := by
        unfold ofF at z1 ⊢
        by_cases w : x.1 l.length = 0 ∨ x.2.2.1 ≤ (v : Int) % 3 ∨ x.2.2.2.1 ((v : Int) % 3) < x.1 l.length ∨ x.2.1 ((v : Int) / 3) < x.1 l.length
        · rw [if_pos w] at z1; omega
        · rw [if_neg w]; omega
      have q2 := p3 v (by omega) base.2.1
      have q3 := (us_bar (x := x) hu hc (by omega) q2.2.1 q2.2.2 q2.1).mp z2
      have rw0 := r ((v : Int) / 3) (by omega) (by omega)
      have aw := awL_r (w := (v : Int) / 3) hx.1 l 0
      have rmr := hx.2.1 ((v : Int) / 3)
      rw [rw0]
      refine ⟨by omega, fun z3 => skip (fun y => ?_), fun z3 => ?_⟩
      · rcases (okP_iff x l v).mp (okc y).1 with w | w
        · omega
        · have := w.2.2; omega
      · have ok : okP x l (v : Int) = true := (okP_iff x l v).mpr (Or.inr ⟨by omega, q3, by omega⟩)
        have okk : okC x l (v : Int) = true := by
          unfold okC
          rw [ok, Bool.true_and, Bool.or_eq_true, decide_eq_true_iff, decide_eq_true_iff]
          exact Or.inr (by rw [← base.2.2.2]; exact z1)
        rw [qU_f (show (56 : Nat) ≠ 61 by decide), rw0]
        refine ⟨by omega, by omega, ?_⟩
        have fr : ∀ k, k ≠ 61 → k ≠ 56 → (qU (qU M 61 (l.length : Int) (v : Int)) 56 ((v : Int) / 3) (x.2.1 ((v : Int) / 3) - awL x.1 ((v : Int) / 3) 0 l - x.1 l.length)) k = M k := fun k k1 k2 => by rw [qU_f k2, qU_f k1]
        have v15 : (v : Int) ≠ 15 := by omega
        have hs1 : skX M0 (qU (qU M 61 (l.length : Int) (v : Int)) 56 ((v : Int) / 3) (x.2.1 ((v : Int) / 3) - awL x.1 ((v : Int) / 3) 0 l - x.1 l.length)) x (l ++ [(v : Int)]) b := by
          refine ⟨fun k k1 k2 k3 k4 => by rw [fr k k3 k2]; exact f k k1 k2 k3 k4, pc.c (fun k _ k2 k3 _ => fr k k3 k2), fun w w0 w1 => ?_, fun i hi => ?_, bb.c (fr 54 (by decide) (by decide)) (fr 62 (by decide) (by decide))⟩
          · rw [awL_app, Int.zero_add]
            by_cases y : w = (v : Int) / 3
            · subst y; rw [qU_s, if_pos ⟨v15, rfl⟩]; omega
            · rw [qU_i y, qU_f (by decide), r w w0 w1, if_neg (fun q => y q.2.symm), Int.add_zero]
          · rw [qU_f (by decide)]
            exact hs.try rfl (by unfold m15; rw [if_neg v15]) (by omega) i hi
        have q := rec (v : Int) (qOr u (qShl 1 (v : Int))) _ b (by omega) (us_v hu (by omega)) (qR_or _ _) hs1
        rw [woL_app, nuL_app, if_neg v15, if_neg v15, Int.zero_add, ← base.2.2.2] at q
        refine q.monoN (fun M1 _ h1 => ?_)
        obtain ⟨g1, g2, g3, g4, g5⟩ := h1
        have rr := g3 ((v : Int) / 3) (by omega) (by omega)
        rw [awL_app, Int.zero_add, if_pos ⟨v15, rfl⟩] at rr
        rw [rr]
        refine ⟨by omega, ?_⟩
        have hs2 : skX M0 (qU M1 56 ((v : Int) / 3) (x.2.1 ((v : Int) / 3) - (awL x.1 ((v : Int) / 3) 0 l + x.1 l.length) + x.1 l.length)) x l (dfF x k (l ++ [(v : Int)]) b) := by
          have fr2 : ∀ k, k ≠ 56 → (qU M1 56 ((v : Int) / 3) (x.2.1 ((v : Int) / 3) - (awL x.1 ((v : Int) / 3) 0 l + x.1 l.length) + x.1 l.length)) k = M1 k := fun k k1 => qU_f k1
          refine ⟨fun k k1 k2 k3 k4 => by rw [fr2 k k2]; exact g1 k k1 k2 k3 k4, g2.c (fun k _ k2 _ _ => fr2 k k2), fun w w0 w1 => ?_, fun i hi => ?_, g5.c (fr2 54 (by decide)) (fr2 62 (by decide))⟩
          · by_cases y : w = (v : Int) / 3
            · subst y; rw [qU_s]; omega
            · rw [qU_i y, g3 w w0 w1, awL_app, if_neg (fun q => y q.2.symm), Int.add_zero]
          · rw [fr2 61 (by decide), g4 i (by simp; omega)]
            simp [List.getD_eq_getElem?_getD, List.getElem?_append_left hi]
        have nxt := ih (v + 1) (by omega) _ _ hs2 (fun M2 h2 => hK M2 (by
          have e : rdF x k l (c + 1 + 1) v b = rdF x k l (c + 1) (v + 1) (dfF x k (l ++ [(v : Int)]) b) := by
            show rdF x k l (c + 1) (v + 1) (if okC x l (v : Int) then _ else _) = _
            rw [if_pos okk]
          rw [e]; exact h2))
        rw [show ((v + 1 : Nat) : Int) = (v : Int) + 1 by omega] at nxt
        exact nxt
theorem bx_seek (hx : pxO x) : ∀ (k : Nat) (D : Nat), k + 3 ≤ D → ∀ (l : List Int), l.length + k = 4 → chL l → ∀ (u : Int), usR u l → qR u → ∀ (M : qM) (b : Int × Int × List Int), skX M0 M x l b →
    qOk g D j_X4_seek [.inr 54, .inl (l.length : Int), .inl u, .inl (woL x.2.2.2.2.2 0 l), .inl (nuL l)] M (qN fun M1 => skX M0 M1 x l (dfF x k l b)) := by
  intro k
  induction k with
  | zero =>
    intro D hD l hk hc u hu ur M b hs
    have wr := woL_r hx.2.2.2.2 l 0 hc (by omega) (by omega)
    have nr := nuL_r l
    obtain ⟨D', rfl⟩ : ∃ D', D = D' + 2 + 1 := ⟨D - 3, by omega⟩
    refine e_X4_seek (by omega) ur (by omega) (by omega) (fun C hC hQ => ?_)
    refine (bx_isNoBetter hx hs (k := 0) (by omega) rfl rfl (by omega) (by omega)).monoI (fun y M1 _ _ hy => ?_)
    obtain ⟨rfl, hy⟩ := hy
    have e0 : noB x 0 l b ↔ ¬ beP x l b := by
      show (woL x.2.2.2.2.2 0 l + 0 < b.1 ∨ (woL x.2.2.2.2.2 0 l + 0 = b.1 ∧ b.2.1 ≤ nuL l + 0)) ↔ ¬ (b.1 < woL x.2.2.2.2.2 0 l ∨ (woL x.2.2.2.2.2 0 l = b.1 ∧ nuL l < b.2.1))
      omega
    refine ⟨fun z => ⟨fun q => by omega, fun _ => ?_⟩, fun z => ?_⟩
    · have hb : beP x l b := by
        rcases hy with hy | hy
        · omega
        · by_cases q : beP x l b
          · exact q
          · exact absurd (e0.mpr q) hy.2
      exact bx_takeTried hx hc hs (by omega) rfl rfl hb
    · have hb : ¬ beP x l b := by
        rcases hy with hy | hy
        · exact e0.mp hy.2
        · omega
      show skX M0 M1 x l (stP x b l)
      rw [st_n hb]
      exact hs
  | succ k ih =>
    intro D hD l hk hc u hu ur M b hs
    have wr := woL_r hx.2.2.2.2 l 0 hc (by omega) (by omega)
    have nr := nuL_r l
    obtain ⟨D', rfl⟩ : ∃ D', D = D' + 1 := ⟨D - 1, by omega⟩
    refine e_X4_seek (by omega) ur (by omega) (by omega) (fun C hC hQ => ?_)
    refine (bx_isNoBetter hx hs (k := k + 1) (by omega) rfl rfl (by omega) (by omega)).monoI (fun y M1 _ _ hy => ?_)
    obtain ⟨rfl, hy⟩ := hy
    refine ⟨fun z => ⟨fun _ => ⟨by omega, ?_⟩, fun q => by omega⟩, fun z => ?_⟩
    · have hb : ¬ noB x (k + 1) l b := by
        rcases hy with hy | hy
        · omega
        · exact hy.2
      rw [hs.2.1.1 _ (by omega) (by omega)]
      have hl1 : ∀ o : Int, ((l ++ [o]).length : Int) = (l.length : Int) + 1 := fun o => by simp
      refine lx_sk36 (M0 := M0) hx hk hc hu ur hC hQ (fun o u' M' b' ho hu' ur' hs' => ?_) 15 0 (by omega) M1 b hs (fun M2 h2 => ?_)
      · have := ih D' (by omega) (l ++ [o]) (by simp; omega) (chL_app hc ho) u' hu' ur' M' b' hs'
        rw [hl1 o] at this
        exact this
      · have e : dfF x (k + 1) l b = rdF x k l 16 0 b := by
          rw [← rd_eq]
          exact if_neg hb
        rw [e]
        exact h2
    · have hb : noB x (k + 1) l b := by
        rcases hy with hy | hy
        · exact hy.2
        · omega
      have e : dfF x (k + 1) l b = b := if_pos hb
      rw [e]
      exact hs
end SEEK
