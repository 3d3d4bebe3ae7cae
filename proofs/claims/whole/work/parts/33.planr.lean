/-! the plan: the class's read, search, plan, planned -/
def cfF (f : Int → Int) (w : Int) : Nat → Int
  | 0 => 0
  | n + 1 => cfF f w n + (if qAnd (qShr (f n) w) 1 = 1 then 1 else 0)
theorem cf_r (f : Int → Int) (w : Int) : ∀ n : Nat, 0 ≤ cfF f w n ∧ cfF f w n ≤ n
  | 0 => by simp [cfF]
  | n + 1 => by
    have := cf_r f w n
    simp only [cfF]
    split <;> omega
theorem cf_rm (f : Int → Int) (w rt : Int) : ∀ n : Nat, rmF f w rt n = rt * cfF f w n
  | 0 => by simp [rmF, cfF]
  | n + 1 => by
    simp only [rmF, cfF]
    rw [cf_rm f w rt n, Int.mul_add]
    split <;> simp
theorem bk_f {M V : qM} {l : Int} (h : bkV (bv M 1) V) (h0 : 0 ≤ l) (h1 : l < V 0 1) : M 7 l = V 5 l := h.2.1.2.2.2.1 l h0 h1
theorem bk_w {M V : qM} {i : Int} (h : bkV (bv M 1) V) (h0 : 0 ≤ i) (h1 : i < V 0 5) : M 23 i = V 10 i ∧ M 24 i = V 11 i := h.2.2.2.2.2.2.1 i h0 h1
theorem bk_wz {M V : qM} {i : Int} (h : bkV (bv M 1) V) (h0 : 0 ≤ i) (h1 : i < 3) : M 24 i = 0 ∨ M 24 i = 1 := h.2.2.2.2.2.2.2.1 i h0 h1
theorem bk_wi {M V : qM} {j : Int} (h : bkV (bv M 1) V) (h0 : 0 ≤ j) (h1 : j < 60) : M 25 j = V 12 j := h.2.2.2.2.2.2.2.2 j h0 h1
section READX
variable {g : qG} {C : qX} {d : Nat} {V M M0 : qM} {rt : Int}
theorem lx_cf {w : Int} {K : Int → qM → Prop} (hv : voV V) (hb : bkV (bv M 1) V) (hw : qR w) (hC : qCk g C cX3_countFree RX3 4 (d + 1)) (hQ : qRt g C (some .int) (qI K)) (hK : K (cfF (V 5) w (V 0 1).toNat) M) :
    ∀ (k i : Nat), (i : Int) + k = V 0 1 → qW g C 4 [some (.inr 2), some (.inl w), some (.inl (cfF (V 5) w i)), some (.inl (i : Int))] [] M := by
  obtain ⟨hvn, -⟩ := id hv
  have e0 := bk_nL hb
  intro k
  induction k with
  | zero =>
    intro i h1
    have r := cf_r (V 5) w i
    rw [show (V 0 1).toNat = i by omega] at hK
    exact s_X3_countFree_4 hC hQ hw (by omega) (by omega) ⟨fun _ => hK, fun z => by omega⟩
  | succ k ih =>
    intro i h1
    have r := cf_r (V 5) w i
    have nxt := ih (i + 1) (by omega)
    rw [show ((i + 1 : Nat) : Int) = (i : Int) + 1 by omega] at nxt
    simp only [cfF] at nxt
    have q := bk_f hb (l := (i : Int)) (by omega) (by omega)
    refine s_X3_countFree_4 hC hQ hw (by omega) (by omega) ⟨fun z => by omega, fun _ => ⟨by omega, fun z2 => ?_, fun z2 => ?_⟩⟩
    · rw [q] at z2
      rw [if_pos (show qAnd (qShr (V 5 (i : Int)) w) 1 = 1 from z2)] at nxt
      exact nxt
    · rw [q] at z2
      rw [if_neg (show ¬ qAnd (qShr (V 5 (i : Int)) w) 1 = 1 from z2), Int.add_zero] at nxt
      exact nxt
theorem bx_countFree {w : Int} (hv : voV V) (hb : bkV (bv M 1) V) (hw : qR w) : qOk g (d + 1) j_X3_countFree [.inr 2, .inl w] M (qI fun x M1 => M1 = M ∧ x = cfF (V 5) w (V 0 1).toNat) := by
  obtain ⟨hvn, -⟩ := id hv
  exact e_X3_countFree hw (fun C hC hQ => lx_cf hv hb hw hC hQ ⟨rfl, rfl⟩ (V 0 1).toNat 0 (by omega))
theorem bx_readOffer {p v : Int} (hv : voV V) (hrt : 1 ≤ rt ∧ rt ≤ 10) (hb : bkV (bv M 1) V) (p0 : 0 ≤ p) (p1 : p < 4) (v0 : 0 ≤ v) (v1 : v < 15) (h55 : M 55 p = szV V p) (h56 : ∀ w, 0 ≤ w → w < 5 → M 56 w = rmV V rt w) : qOk g d j_X4_readOffer [.inr 54, .inr 22, .inl p, .inl v] M (qI fun x M1 => M1 = M ∧ x = ofF (pxV V rt) p v) := by
  obtain ⟨hvn, vC, vL, vT, vB, vS, vW⟩ := id hv
  have n1 := bk_nW hb
  have hx := px_ok hv hrt
  have sr := hx.1 p
  have w1 := bk_wi hb (j := 15 * p + v) (by omega) (by omega)
  have sr' : 0 ≤ szV V p ∧ szV V p ≤ 10 := sr
  have no : (szV V p = 0 ∨ V 0 5 ≤ v % 3 ∨ V 10 (v % 3) < szV V p ∨ rmV V rt (v / 3) < szV V p) → (0 : Int) = ofF (pxV V rt) p v := fun z => (if_pos z).symm
  refine e_X4_readOffer (by omega) (by omega) ⟨v0, by omega, ?_⟩
  rw [h55, n1]
  refine ⟨fun z => ⟨rfl, no (Or.inl z)⟩, fun z => ⟨by omega, fun z1 => ⟨rfl, no (Or.inr (Or.inl z1))⟩, fun z1 => ⟨by omega, ?_⟩⟩⟩
  rw [(bk_w hb (i := v % 3) (by omega) (by omega)).1, h56 _ (by omega) (by omega)]
  refine ⟨fun z2 => ⟨rfl, no (Or.inr (Or.inr (Or.inl z2)))⟩, fun z2 => ⟨v0, by omega, fun z3 => ⟨by omega, rfl, ?_⟩, fun z3 => ⟨rfl, no (Or.inr (Or.inr (Or.inr z3)))⟩⟩⟩
  have e : ofF (pxV V rt) p v = V 12 (15 * p + v) := if_neg (show ¬ (szV V p = 0 ∨ V 0 5 ≤ v % 3 ∨ V 10 (v % 3) < szV V p ∨ rmV V rt (v / 3) < szV V p) by omega)
  rw [e, show p * 15 + v = 15 * p + v by omega, w1]
theorem lx_rd2 {K : qM → Prop} (hv : voV V) (hrt : 1 ≤ rt ∧ rt ≤ 10) (hb : bkV (bv M0 1) V) (hC : qCk g C cX4_read RX4 5 (d + 2)) (hQ : qRt g C none (qN K)) (hnext : ∀ M : qM, (∀ k, k ≠ 56 → M k = M0 k) → (∀ w, 0 ≤ w → w < 5 → M 56 w = rmV V rt w) → qW g C 31 [some (.inr 54), some (.inr 1), some (.inl rt), some (.inl 0), none] [] M) :
    ∀ (k : Nat) (i : Int) (M : qM), 0 ≤ i → i + k = 5 → (∀ k, k ≠ 56 → M k = M0 k) → (∀ w, 0 ≤ w → w < i → M 56 w = rmV V rt w) → qW g C 2 [some (.inr 54), some (.inr 1), some (.inl rt), some (.inl i), none] [] M := by
  obtain ⟨hvn, -⟩ := id hv
  intro k
  induction k with
  | zero =>
    intro i M h0 h1 hf hj
    exact s_X4_read_2 hC hQ (by omega) (by omega) ⟨fun _ => hnext M hf (fun w w0 w1 => hj w w0 (by omega)), fun z => by omega⟩
  | succ k ih =>
    intro i M h0 h1 hf hj
    refine s_X4_read_2 hC hQ (by omega) (by omega) ⟨fun z => by omega, fun _ => ?_⟩
    refine (bx_countFree hv (bk_fr hb (fun k hk => hf k (by omega))) (by omega)).monoI (fun y M1 _ _ hy => ?_)
    obtain ⟨rfl, rfl⟩ := hy
    have e : rt * cfF (V 5) i (V 0 1).toNat = rmV V rt i := by unfold rmV; rw [cf_rm]
    rw [e]
    have b := (px_ok hv hrt).2.1 i
    have b' : 0 ≤ rmV V rt i ∧ rmV V rt i ≤ 50 := b
    refine ⟨by omega, by omega, ih (i + 1) _ (by omega) (by omega) (fun k hk => by rw [qU_f hk]; exact hf k hk) (fun w w0 w1 => ?_)⟩
    by_cases z : w = i
    · subst z; rw [qU_s]
    · rw [qU_i z]; exact hj w w0 (by omega)
/-- the bars of a place -/
def brF (w v : Int) : Int := if w = 0 then qShl 1 v else qOr (qOr (qShl 1 v) (qShl (qShl 1 v) 3)) (qShr (qShl 1 v) 3)
theorem lx_rd31 {K : qM → Prop} (hrt : 1 ≤ rt ∧ rt ≤ 10) (hC : qCk g C cX4_read RX4 5 (d + 2)) (hQ : qRt g C none (qN K)) (hnext : ∀ M : qM, (∀ k, k ≠ 58 → M k = M0 k) → (∀ v, 0 ≤ v → v < 15 → M 58 v = brF (M0 24 (v % 3)) v) → qW g C 66 [some (.inr 54), some (.inr 1), some (.inl rt), some (.inl 0), none] [] M) :
    ∀ (k : Nat) (i : Int) (M : qM), 0 ≤ i → i + k = 15 → (∀ k, k ≠ 58 → M k = M0 k) → (∀ v, 0 ≤ v → v < i → M 58 v = brF (M0 24 (v % 3)) v) → qW g C 31 [some (.inr 54), some (.inr 1), some (.inl rt), some (.inl i), none] [] M := by
  intro k
  induction k with
  | zero =>
    intro i M h0 h1 hf hj
    exact s_X4_read_31 hC hQ (by omega) (by omega) ⟨fun _ => hnext M hf (fun w w0 w1 => hj w w0 (by omega)), fun z => by omega⟩
  | succ k ih =>
    intro i M h0 h1 hf hj
    refine s_X4_read_31 hC hQ (by omega) (by omega) ⟨fun z => by omega, fun _ => ⟨h0, by omega, ?_⟩⟩
    refine qOk.rm (fun hM => ?_)
    have fin : ∀ y, y = brF (M0 24 (i % 3)) i → (0 ≤ i ∧ i < 15) ∧ qW g C 31 [some (.inr 54), some (.inr 1), some (.inl rt), some (.inl (i + 1)), none] [] (qU M 58 i y) := by
      intro y hy
      refine ⟨by omega, ih (i + 1) _ (by omega) (by omega) (fun k hk => by rw [qU_f hk]; exact hf k hk) (fun v v0 v1 => ?_)⟩
      by_cases z : v = i
      · subst z; rw [qU_s, hy]
      · rw [qU_i z]; exact hj v v0 (by omega)
    refine e_X4_readBars (by omega) (hM _ _) ⟨fun z => fin _ ?_, fun z => fin _ ?_⟩
    · rw [hf 24 (by decide)] at z; unfold brF; rw [if_pos z]
    · rw [hf 24 (by decide)] at z; unfold brF; rw [if_neg z]
theorem lx_rd88 {K : qM → Prop} {p : Int} (hv : voV V) (hrt : 1 ≤ rt ∧ rt ≤ 10) (hb : bkV (bv M0 1) V) (p0 : 0 ≤ p) (p1 : p < 4) (h55 : M0 55 p = szV V p) (h56 : ∀ w, 0 ≤ w → w < 5 → M0 56 w = rmV V rt w) (hC : qCk g C cX4_read RX4 5 (d + 2)) (hQ : qRt g C none (qN K)) (hnext : ∀ M : qM, (∀ k, k ≠ 57 → M k = M0 k) → (∀ j, (j < p * 15 ∨ p * 15 + 15 ≤ j) → M 57 j = M0 57 j) → (∀ v, 0 ≤ v → v < 15 → M 57 (p * 15 + v) = ofF (pxV V rt) p v) → qW g C 66 [some (.inr 54), some (.inr 1), some (.inl rt), some (.inl (p + 1)), none] [] M) :
    ∀ (k : Nat) (i : Int) (M : qM), 0 ≤ i → i + k = 15 → (∀ k, k ≠ 57 → M k = M0 k) → (∀ j, (j < p * 15 ∨ p * 15 + 15 ≤ j) → M 57 j = M0 57 j) → (∀ v, 0 ≤ v → v < i → M 57 (p * 15 + v) = ofF (pxV V rt) p v) → qW g C 88 [some (.inr 54), some (.inr 1), some (.inl rt), some (.inl p), some (.inl i)] [] M := by
  intro k
  induction k with
  | zero =>
    intro i M h0 h1 hf ho hj
    exact s_X4_read_88 hC hQ (by omega) (by omega) (by omega) ⟨fun _ => hnext M hf ho (fun w w0 w1 => hj w w0 (by omega)), fun z => by omega⟩
  | succ k ih =>
    intro i M h0 h1 hf ho hj
    refine s_X4_read_88 hC hQ (by omega) (by omega) (by omega) ⟨fun z => by omega, fun _ => ?_⟩
    refine (bx_readOffer hv hrt (bk_fr hb (fun k hk => hf k (by omega))) p0 p1 h0 (by omega) (by rw [hf 55 (by decide)]; exact h55) (by rw [hf 56 (by decide)]; exact h56)).monoI (fun y M1 _ _ hy => ?_)
    obtain ⟨rfl, rfl⟩ := hy
    refine ⟨by omega, ih (i + 1) _ (by omega) (by omega) (fun k hk => by rw [qU_f hk]; exact hf k hk) (fun j hj' => by rw [qU_i (by omega)]; exact ho j hj') (fun v v0 v1 => ?_)⟩
    by_cases z : v = i
    · subst z; rw [qU_s]
    · rw [qU_i (by omega)]; exact hj v v0 (by omega)
theorem lx_rh24 {K : qM → Prop} {x : pX} {p : Int} (hx : pxO x) (p0 : 0 ≤ p) (p1 : p < 4) (h57 : ∀ v, 0 ≤ v → v < 15 → M 57 (p * 15 + v) = ofF x p v) (hC : qCk g C cX4_readHopes RX4 4 (d + 1)) (hQ : qRt g C none (qN K)) (h59 : 0 ≤ M 59 (p + 1) ∧ M 59 (p + 1) ≤ 36) (h60 : 0 ≤ M 60 (p + 1) ∧ M 60 (p + 1) ≤ 4)
    (hnext : qW g C 16 [some (.inr 54), some (.inl (p + (-1))), none, none] [] (qU (qU M 59 p (M 59 (p + 1) + gmF x p 15)) 60 p (M 60 (p + 1) + (if 0 < gmF x p 15 then 1 else 0)))) :
    ∀ (k v : Nat), v + k = 15 → qW g C 24 [some (.inr 54), some (.inl p), some (.inl (gmF x p v)), some (.inl (v : Int))] [] M := by
  intro k
  induction k with
  | zero =>
    intro v h1
    have e : v = 15 := by omega
    subst e
    have r := gm_r hx p0 p1 15 (by decide)
    refine s_X4_readHopes_24 hC hQ (by omega) (by omega) (by decide) ⟨fun _ => ⟨by omega, by omega, by omega, ?_⟩, fun z => absurd z (by decide)⟩
    rw [qU_f (show (60 : Nat) ≠ 59 by decide)]
    refine ⟨fun z => ⟨by omega, ?_⟩, fun z => ⟨by omega, ?_⟩⟩
    · rw [if_neg (by omega)] at hnext
      exact hnext
    · rw [if_pos z] at hnext
      exact hnext
  | succ k ih =>
    intro v h1
    have r := gm_r hx p0 p1 v (by omega)
    have nxt := ih (v + 1) (by omega)
    rw [show ((v + 1 : Nat) : Int) = (v : Int) + 1 by omega] at nxt
    simp only [gmF] at nxt
    refine s_X4_readHopes_24 hC hQ (by omega) (by omega) (by omega) ⟨fun z => by omega, fun _ => ⟨by omega, ?_⟩⟩
    rw [h57 v (by omega) (by omega)]
    exact nxt
theorem lx_rh16 {K : qM → Prop} {x : pX} (hx : pxO x) (h57 : ∀ p v, 0 ≤ p → p < 4 → 0 ≤ v → v < 15 → M0 57 (p * 15 + v) = ofF x p v) (hC : qCk g C cX4_readHopes RX4 4 (d + 1)) (hQ : qRt g C none (qN K)) (hK : ∀ M : qM, (∀ k, k ≠ 59 → k ≠ 60 → M k = M0 k) → (∀ j : Nat, j ≤ 4 → M 59 (4 - (j : Int)) = hoK x j ∧ M 60 (4 - (j : Int)) = asK x j) → K M) :
    ∀ (n k : Nat), k + n = 4 → ∀ (M : qM), (∀ k, k ≠ 59 → k ≠ 60 → M k = M0 k) → (∀ j : Nat, j ≤ k → M 59 (4 - (j : Int)) = hoK x j ∧ M 60 (4 - (j : Int)) = asK x j) → qW g C 16 [some (.inr 54), some (.inl (3 - (k : Int))), none, none] [] M := by
  intro n
  induction n with
  | zero =>
    intro k h1 M hf hj
    exact s_X4_readHopes_16 hC hQ (by omega) ⟨fun _ => hK M hf (fun j hj' => hj j (by omega)), fun z => by omega⟩
  | succ n ih =>
    intro k h1 M hf hj
    have hr := ho_r hx k (by omega)
    have q := hj k (by omega)
    have e1 : 3 - (k : Int) + 1 = 4 - (k : Int) := by omega
    refine s_X4_readHopes_16 hC hQ (by omega) ⟨fun z => by omega, fun _ => ?_⟩
    refine lx_rh24 hx (by omega) (by omega) (fun v v0 v1 => by rw [hf 57 (by decide) (by decide)]; exact h57 _ v (by omega) (by omega) v0 v1) hC hQ (by rw [e1, q.1]; omega) (by rw [e1, q.2]; omega) ?_ 15 0 (by omega)
    rw [e1, q.1, q.2, show 3 - (k : Int) + (-1) = 3 - ((k + 1 : Nat) : Int) by omega]
    refine ih (k + 1) (by omega) _ (fun j j1 j2 => by rw [qU_f j2, qU_f j1]; exact hf j j1 j2) (fun j hj' => ?_)
    by_cases z : j = k + 1
    · subst z
      have e2 : 4 - ((k + 1 : Nat) : Int) = 3 - (k : Int) := by omega
      rw [e2, qU_f (show (59 : Nat) ≠ 60 by decide), qU_s, qU_s]
      exact ⟨rfl, rfl⟩
    · rw [qU_f (show (59 : Nat) ≠ 60 by decide), qU_i (by omega), qU_i (by omega), qU_f (show (60 : Nat) ≠ 59 by decide)]
      exact hj j (by omega)
theorem bx_readHopes {x : pX} (hx : pxO x) (h57 : ∀ p v, 0 ≤ p → p < 4 → 0 ≤ v → v < 15 → M 57 (p * 15 + v) = ofF x p v) : qOk g (d + 1) j_X4_readHopes [.inr 54] M (qN fun M1 => (∀ k, k ≠ 59 → k ≠ 60 → M1 k = M k) ∧ ∀ j : Nat, j ≤ 4 → M1 59 (4 - (j : Int)) = hoK x j ∧ M1 60 (4 - (j : Int)) = asK x j) := by
  refine e_X4_readHopes (fun C hC hQ => ?_)
  refine lx_rh16 (M0 := M) hx h57 hC hQ (fun M1 h1 h2 => ⟨h1, h2⟩) 4 0 rfl _ (fun k k1 k2 => by rw [qU_f k2, qU_f k1]) (fun j hj => ?_)
  have e : j = 0 := by omega
  subst e
  rw [show 4 - ((0 : Nat) : Int) = 4 from rfl, qU_f (show (59 : Nat) ≠ 60 by decide), qU_s, qU_s]
  exact ⟨rfl, rfl⟩
theorem lx_rd66 {K : qM → Prop} (hv : voV V) (hrt : 1 ≤ rt ∧ rt ≤ 10) (hb : bkV (bv M0 1) V) (h56 : ∀ w, 0 ≤ w → w < 5 → M0 56 w = rmV V rt w) (hC : qCk g C cX4_read RX4 5 (d + 2)) (hQ : qRt g C none (qN K)) (hK : ∀ M : qM, (∀ k, k ≠ 55 → k ≠ 57 → k ≠ 59 → k ≠ 60 → M k = M0 k) → (∀ p, 0 ≤ p → p < 4 → M 55 p = szV V p) → (∀ p v, 0 ≤ p → p < 4 → 0 ≤ v → v < 15 → M 57 (p * 15 + v) = ofF (pxV V rt) p v) → (∀ j : Nat, j ≤ 4 → M 59 (4 - (j : Int)) = hoK (pxV V rt) j ∧ M 60 (4 - (j : Int)) = asK (pxV V rt) j) → K M) :
    ∀ (k : Nat) (i : Int) (M : qM), 0 ≤ i → i + k = 4 → (∀ k, k ≠ 55 → k ≠ 57 → M k = M0 k) → (∀ p, 0 ≤ p → p < i → M 55 p = szV V p) → (∀ p v, 0 ≤ p → p < i → 0 ≤ v → v < 15 → M 57 (p * 15 + v) = ofF (pxV V rt) p v) → qW g C 66 [some (.inr 54), some (.inr 1), some (.inl rt), some (.inl i), none] [] M := by
  intro k
  induction k with
  | zero =>
    intro i M h0 h1 hf h55 h57
    refine s_X4_read_66 hC hQ (by omega) (by omega) ⟨fun _ => ?_, fun z => by omega⟩
    refine (bx_readHopes (x := pxV V rt) (px_ok hv hrt) (fun p v p0 p1 v0 v1 => h57 p v p0 (by omega) v0 v1)).monoN (fun M1 _ h => hK M1 (fun k k1 k2 k3 k4 => by rw [h.1 k k3 k4]; exact hf k k1 k2) (fun p p0 p1 => by rw [h.1 55 (by decide) (by decide)]; exact h55 p p0 (by omega)) (fun p v p0 p1 v0 v1 => by rw [h.1 57 (by decide) (by decide)]; exact h57 p v p0 (by omega) v0 v1) h.2)
  | succ k ih =>
    intro i M h0 h1 hf h55 h57
    have hb' := bk_fr hb (M1 := M) (fun k hk => hf k (by omega) (by omega))
    refine s_X4_read_66 hC hQ (by omega) (by omega) ⟨fun z => by omega, fun _ => ?_⟩
    refine (bx_countPatrol hv hb' (by omega)).monoI (fun y M1 _ _ hy => ?_)
    obtain ⟨rfl, rfl⟩ := hy
    refine ⟨by omega, ?_⟩
    refine lx_rd88 (M0 := qU M1 55 i (szV V i)) (p := i) hv hrt (bk_fr hb' (fun k hk => qU_f (by omega))) h0 (by omega) (by rw [qU_s]) (by rw [qU_f (by decide), hf 56 (by decide) (by decide)]; exact h56) hC hQ (fun M2 f1 f2 f3 => ?_) 15 0 _ (by omega) (by omega) (fun _ _ => rfl) (fun _ _ => rfl) (fun v v0 v1 => by omega)
    refine ih (i + 1) M2 (by omega) (by omega) (fun k k1 k2 => by rw [f1 k k2, qU_f k1]; exact hf k k1 k2) (fun p p0 p1 => ?_) (fun p v p0 p1 v0 v1 => ?_)
    · rw [f1 55 (by decide)]
      by_cases z : p = i
      · subst z; rw [qU_s]
      · rw [qU_i z]; exact h55 p p0 (by omega)
    · by_cases z : p = i
      · subst z; exact f3 v v0 v1
      · rw [f2 _ (by omega), qU_f (by decide)]; exact h57 p v p0 (by omega) v0 v1
theorem bx_read (hv : voV V) (hrt : 1 ≤ rt ∧ rt ≤ 10) (hb : bkV (bv M 1) V) : qOk g (d + 2) j_X4_read [.inr 54, .inr 1, .inl rt] M (qN fun M1 => (∀ k, (k < 55 ∨ 60 < k) → M1 k = M k) ∧ Pc M1 (pxV V rt) ∧ ∀ w, 0 ≤ w → w < 5 → M1 56 w = rmV V rt w) := by
  refine e_X4_read (by omega) (fun C hC hQ => ?_)
  refine lx_rd2 (M0 := M) hv hrt hb hC hQ (fun Ma fa ha => ?_) 5 0 M (by omega) (by omega) (fun _ _ => rfl) (fun w w0 w1 => by omega)
  refine lx_rd31 (M0 := Ma) hrt hC hQ (fun Mb fb hbb => ?_) 15 0 Ma (by omega) (by omega) (fun _ _ => rfl) (fun w w0 w1 => by omega)
  have hb1 : bkV (bv Ma 1) V := bk_fr hb (fun k hk => fa k (by omega))
  refine lx_rd66 (M0 := Mb) hv hrt (bk_fr hb1 (fun k hk => fb k (by omega))) (by rw [fb 56 (by decide)]; exact ha) hC hQ (fun Mc fc h1 h2 h3 => ⟨fun k hk => by rw [fc k (by omega) (by omega) (by omega) (by omega), fb k (by omega), fa k (by omega)], ⟨h1, h2, fun v hv0 hv1 => ?_, fun j hj => (h3 j hj).1, fun j hj => (h3 j hj).2⟩, by rw [fc 56 (by decide) (by decide) (by decide) (by decide), fb 56 (by decide)]; exact ha⟩) 4 0 Mb (by omega) (by omega) (fun _ _ _ => rfl) (fun p p0 p1 => by omega) (fun p v p0 p1 => by omega)
  have e := hbb v (by omega) (by omega)
  have e24 : Ma 24 ((v : Int) % 3) = V 11 ((v : Int) % 3) := (bk_w hb1 (i := (v : Int) % 3) (by omega) hv1).2
  have z := bk_wz hb1 (i := (v : Int) % 3) (by omega) (by omega)
  rw [e24] at z
  rw [fc 58 (by decide) (by decide) (by decide) (by decide), e, e24]
  refine ⟨z, fun y => ?_, fun y => ?_⟩
  · have y' : V 11 ((v : Int) % 3) = 0 := y
    unfold brF; rw [if_pos y']
  · have y' : V 11 ((v : Int) % 3) = 1 := y
    unfold brF; rw [if_neg (by omega)]
theorem lx_fillb {xv : Int} {K : qM → Prop} (hxv : qR xv) (hC : qCk g C cJ7_fill_53178 RJ7 4 d) (hQ : qRt g C none (qN K)) (hK : ∀ M1 : qM, (∀ k, k ≠ 62 → M1 k = M0 k) → (∀ j, 0 ≤ j → j < 4 → M1 62 j = xv) → K M1) :
    ∀ (k : Nat) (i : Int) (M : qM), 0 ≤ i → i + k = 4 → (∀ k, k ≠ 62 → M k = M0 k) → (∀ j, 0 ≤ j → j < i → M 62 j = xv) → qW g C 5 [some (.inr 62), some (.inl xv), some (.inl i), some (.inl 4)] [] M := by
  intro k
  induction k with
  | zero =>
    intro i M h0 h1 hf hj
    exact s_J7_fill_53178_best_5 hC hQ hxv (by omega) (by omega) ⟨fun _ => hK M hf (fun j j0 j1 => hj j j0 (by omega)), fun c => absurd c (by omega)⟩
  | succ k ih =>
    intro i M h0 h1 hf hj
    refine s_J7_fill_53178_best_5 hC hQ hxv (by omega) (by omega) ⟨fun c => absurd c (by omega), fun _ => ⟨by omega, ?_⟩⟩
    refine ih (i + 1) _ (by omega) (by omega) (fun k hk => by rw [qU_f hk]; exact hf k hk) (fun j j0 j1 => ?_)
    by_cases z : j = i
    · subst z; rw [qU_s]
    · rw [qU_i z]; exact hj j j0 (by omega)
theorem bx_search {x : pX} (hx : pxO x) (hp : Pc M x) (hr : ∀ w, 0 ≤ w → w < 5 → M 56 w = x.2.1 w) : qOk g (d + 8) j_X4_search [.inr 54] M (qN fun M1 => (∀ k, k ≠ 54 → k ≠ 56 → k ≠ 61 → k ≠ 62 → M1 k = M k) ∧ bsX M1 (plF x)) := by
  refine e_X4_search (d := d + 4) ?_
  refine (e_J7_fill_53178_best (by decide) (fun C hC hQ => lx_fillb (M0 := M) (by decide) hC hQ (fun M1 h1 h2 => ?_) 4 0 M (by omega) (by omega) (fun _ _ => rfl) (fun j j0 j1 => by omega)))
  have fr : ∀ k, k ≠ 54 → k ≠ 62 → (qU (qU M1 54 8 0) 54 9 0) k = M k := fun k k1 k2 => by rw [qU_f k1, qU_f k1, h1 k k2]
  have hs : skX M (qU (qU M1 54 8 0) 54 9 0) x [] (0, 0, n4L) := by
    refine ⟨fun k k1 _ _ k4 => fr k k1 k4, hp.c (fun k k1 _ _ k4 => fr k k1 k4), fun w w0 w1 => ?_, (fun i hi => absurd hi (Nat.not_lt_zero i)), ?_, ?_, fun i hi => ?_, by decide, by decide⟩
    · rw [fr 56 (by decide) (by decide), hr w w0 w1]
      show x.2.1 w = x.2.1 w - 0
      omega
    · rw [qU_i (by decide), qU_s]
    · rw [qU_s]
    · rw [qU_f (by decide), qU_f (by decide), h2 i (by omega) (by omega)]
      rcases (show i = 0 ∨ i = 1 ∨ i = 2 ∨ i = 3 by omega) with e | e | e | e <;> subst e <;> rfl
  refine (bx_seek (M0 := M) hx 4 (d + 4 + 3) (by omega) [] rfl (fun o ho => by cases ho) 0 us_0 (by decide) _ _ hs).monoN (fun M2 _ h => ?_)
  rw [df_pl hx] at h
  exact ⟨h.1, h.2.2.2.2⟩
end READX
theorem bx_makePlan {g : qG} {d : Nat} {M V Vk : qM} {kp rt : Int} (hv : voV V) (hrt : 1 ≤ rt ∧ rt ≤ 10) (h : Xi M V Vk kp rt) : qOk g (d + 9) j_X7_makePlan [.inr 0] M (qN fun M1 => Xi M1 V Vk kp rt ∧ pcV M1 (pxV V rt) ∧ ∀ k, 63 ≤ k → M1 k = M k) := by
  obtain ⟨h1, h2, h3, h4, h5, h6⟩ := id h
  refine e_X7_makePlan (d := d + 4) ⟨fun z => ⟨h, h6 z, fun _ _ => rfl⟩, fun z => ?_⟩
  rw [h4]
  refine (bx_read hv hrt h1).monoN (fun M1 _ q => ?_)
  obtain ⟨f1, p1, r1⟩ := q
  refine (bx_search (x := pxV V rt) (px_ok hv hrt) p1 r1).monoN (fun M2 _ q => ?_)
  obtain ⟨f2, b1, b2, b3, b4, b5⟩ := q
  have fr : ∀ k, (0 < k ∧ k < 54) ∨ 63 ≤ k → (qU M2 0 5 0) k = M k := fun k hk => by rw [qU_f (by omega), f2 k (by omega) (by omega) (by omega) (by omega), f1 k (by omega)]
  have pc : pcV (qU M2 0 5 0) (pxV V rt) := by
    refine ⟨by rw [qU_f (by decide)]; exact b1, by rw [qU_f (by decide)]; exact b2, fun p hp => by rw [qU_f (by decide), b3 p hp]; rfl, fun p hp => ?_⟩
    rw [qU_f (by decide), f2 55 (by decide) (by decide) (by decide) (by decide)]
    exact p1.1 p (by omega) (by omega)
  have e0 : M2 0 = M 0 := by rw [f2 0 (by decide) (by decide) (by decide) (by decide), f1 0 (by omega)]
  refine ⟨⟨bv_c (fun k k1 k2 => fr k (by omega)) h1, by rw [qU_i (by decide), e0]; exact h2, fun e => bv_c (fun k k1 k2 => fr k (by omega)) (h3 e), by rw [qU_i (by decide), e0]; exact h4, by rw [qU_s]; exact Or.inl rfl, fun _ => pc⟩, pc, fun k hk => fr k (Or.inr hk)⟩
theorem x_plan {g : qG} {d : Nat} {p : Int} (hp : qR p) (M V Vk : qM) (kp rt : Int) (hv : voV V) (hrt : 1 ≤ rt ∧ rt ≤ 10) (h : Xi M V Vk kp rt) : qOk g (d + 10) j_X7_plan [.inr 0, .inl p] M (qI fun r M1 => r = (oPlan p V rt).1 ∧ Xi M1 (oPlan p V rt).2.1 Vk kp (oPlan p V rt).2.2 ∧ ∀ k, 63 ≤ k → M1 k = M k) := by
  have hl := pl_ch (px_ok hv hrt)
  refine qOk.kI (fun K hK => e_X7_plan (d := d + 4) hp ⟨fun c1 => ?_, fun c1 => hK _ _ (xr ?_ h)⟩)
  · refine (bx_makePlan hv hrt h).monoN (fun M1 _ q => ?_)
    obtain ⟨x1, ⟨-, -, a3, -⟩, f1⟩ := q
    have e := a3 p.toNat (by omega)
    rw [show ((p.toNat : Nat) : Int) = p by omega] at e
    rw [e]
    have oc : 0 ≤ (plF (pxV V rt)).2.2.getD p.toNat 15 := by
      rw [List.getD_eq_getElem?_getD, List.getElem?_eq_getElem (by omega)]
      exact (hl.2.1 _ (List.getElem_mem _)).1
    refine ⟨by omega, fun z => hK _ _ (xs ?_ x1 f1), fun z => hK _ _ (xs ?_ x1 f1)⟩
    · by_cases y : (plF (pxV V rt)).2.2.getD p.toNat 15 = 15
      · rw [if_pos y] at z; exact absurd rfl z
      · unfold oPlan vPlan; rw [if_pos (by omega), if_neg y, if_neg y]
    · by_cases y : (plF (pxV V rt)).2.2.getD p.toNat 15 = 15
      · unfold oPlan vPlan; rw [if_pos (by omega), if_pos y]
      · rw [if_neg y] at z; omega
  · unfold oPlan vPlan; rw [if_neg (by omega)]
theorem lx_ca {g : qG} {C : qX} {d : Nat} {x : pX} {M : qM} {l : List Int} {w : Int} {K : Int → qM → Prop} (hsz : ∀ p, 0 ≤ x.1 p ∧ x.1 p ≤ 10) (hs : ∀ p : Nat, p < 4 → M 55 p = x.1 p) (hl : ∀ p : Nat, p < 4 → M 62 p = if l.getD p 15 = 15 then -1 else l.getD p 15) (hc : chL l) (hn : l.length = 4) (hw : qR w) (hC : qCk g C cX4_countAway RX4 4 d) (hQ : qRt g C (some .int) (qI K)) (hK : K (awL x.1 w 0 l) M) :
    ∀ (r a : List Int), l = a ++ r → qW g C 4 [some (.inr 54), some (.inl w), some (.inl (awL x.1 w 0 a)), some (.inl (a.length : Int))] [] M := by
  intro r
  induction r with
  | nil =>
    intro a e
    rw [List.append_nil] at e
    subst e
    have b := awL_r (w := w) hsz l 0
    exact s_X4_countAway_4 hC hQ hw (by omega) (by omega) ⟨fun _ => hK, fun z => by omega⟩
  | cons o r ih =>
    intro a e
    have hlen : l.length = a.length + r.length + 1 := by rw [e]; simp; omega
    have ho : M 62 (a.length : Int) = if o = 15 then -1 else o := by
      rw [hl a.length (by omega)]
      have : l.getD a.length 15 = o := by rw [e]; exact gd_at a r o
      rw [this]
    have oc := hc o (by rw [e]; simp)
    have b := awL_r (w := w) hsz a 0
    have nxt := ih (a ++ [o]) (by rw [e]; simp)
    rw [awL_app, List.length_append, List.length_singleton, show ((a.length + 1 : Nat) : Int) = (a.length : Int) + 1 by omega, Int.zero_add] at nxt
    refine s_X4_countAway_4 hC hQ hw (by omega) (by omega) ⟨fun z => by omega, fun _ => ⟨by omega, ?_⟩⟩
    rw [ho, hs a.length (by omega)]
    by_cases y : o = 15
    · rw [if_pos y]
      refine ⟨fun _ => ?_, fun z => absurd rfl z⟩
      rw [if_neg (fun q => q.1 y), Int.add_zero] at nxt
      exact nxt
    · rw [if_neg y]
      refine ⟨fun z => by omega, fun z => ⟨oc.1, by omega, fun u => ?_, fun u => ?_⟩⟩
      · rw [if_neg (fun q => u q.2), Int.add_zero] at nxt
        exact nxt
      · rw [if_pos ⟨y, u⟩] at nxt
        exact nxt
theorem x_planned {g : qG} {d : Nat} {w : Int} (hw : qR w) (M V Vk : qM) (kp rt : Int) (hv : voV V) (hrt : 1 ≤ rt ∧ rt ≤ 10) (h : Xi M V Vk kp rt) : qOk g (d + 10) j_X7_planned [.inr 0, .inl w] M (qI fun r M1 => r = (oPlanned w V rt).1 ∧ Xi M1 (oPlanned w V rt).2.1 Vk kp (oPlanned w V rt).2.2 ∧ ∀ k, 63 ≤ k → M1 k = M k) := by
  have hl := pl_ch (px_ok hv hrt)
  refine qOk.kI (fun K hK => e_X7_planned (d := d + 4) hw ⟨fun c1 => ?_, fun c1 => hK _ _ (xr ?_ h)⟩)
  · refine (bx_makePlan hv hrt h).monoN (fun M1 _ q => ?_)
    obtain ⟨x1, ⟨a1, a2, a3, a4⟩, f1⟩ := q
    refine ⟨fun z => ?_, fun z => ?_, fun z => ?_⟩
    · refine e_X4_countAway (by omega) (fun C hC hQ => ?_)
      refine lx_ca (x := pxV V rt) (l := (plF (pxV V rt)).2.2) (fun p => (px_ok hv hrt).1 p) a4 a3 hl.2.1 hl.1 (by omega) hC hQ (hK _ _ (xs ?_ x1 f1)) (plF (pxV V rt)).2.2 [] rfl
      unfold oPlanned vPlanned; rw [if_pos (by omega), if_neg z.1, if_neg z.2]
      rfl
    · rw [a1]
      refine hK _ _ (xs ?_ x1 f1)
      unfold oPlanned vPlanned; rw [if_pos (by omega), if_pos z]
    · rw [a2]
      refine hK _ _ (xs ?_ x1 f1)
      unfold oPlanned vPlanned; rw [if_pos (by omega), if_neg (by omega), if_pos z]
  · unfold oPlanned vPlanned; rw [if_neg (by omega)]
