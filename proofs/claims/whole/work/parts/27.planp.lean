/-! the plan, as a mathematical value -/
theorem awL_app (sz : Int → Int) (w : Int) : ∀ (a : List Int) (i o : Int), awL sz w i (a ++ [o]) = awL sz w i a + (if o ≠ 15 ∧ o / 3 = w then sz (i + a.length) else 0)
  | [], i, o => by simp [awL]
  | x :: a, i, o => by
    show _ + awL sz w (i + 1) (a ++ [o]) = _ + awL sz w (i + 1) a + _
    rw [awL_app sz w a (i + 1) o, show i + 1 + (a.length : Int) = i + ((x :: a).length : Nat) by simp; omega]
    omega
theorem woL_app (w : Int → Int) : ∀ (a : List Int) (i o : Int), woL w i (a ++ [o]) = woL w i a + (if o = 15 then 0 else w (15 * (i + a.length) + o))
  | [], i, o => by simp [woL]
  | x :: a, i, o => by
    show _ + woL w (i + 1) (a ++ [o]) = _ + woL w (i + 1) a + _
    rw [woL_app w a (i + 1) o, show i + 1 + (a.length : Int) = i + ((x :: a).length : Nat) by simp; omega]
    omega
theorem nuL_app : ∀ (a : List Int) (o : Int), nuL (a ++ [o]) = nuL a + (if o = 15 then 0 else 1)
  | [], o => by simp [nuL]
  | x :: a, o => by
    show _ + nuL (a ++ [o]) = _ + nuL a + _
    rw [nuL_app a o]
    omega
theorem nuL_r : ∀ a : List Int, 0 ≤ nuL a ∧ nuL a ≤ a.length
  | [] => by simp [nuL]
  | o :: a => by
    have := nuL_r a
    simp only [nuL, List.length_cons]
    split <;> omega
/-- what is known of the numbers that a plan is made of -/
def pxO (x : pX) : Prop := (∀ p, 0 ≤ x.1 p ∧ x.1 p ≤ 10) ∧ (∀ w, 0 ≤ x.2.1 w ∧ x.2.1 w ≤ 50) ∧ (0 ≤ x.2.2.1 ∧ x.2.2.1 ≤ 3) ∧ (∀ i, 0 ≤ i → i < x.2.2.1 → 1 ≤ x.2.2.2.1 i ∧ x.2.2.2.1 i ≤ 10) ∧ ∀ j, 0 ≤ j → j < 60 → 0 ≤ x.2.2.2.2.2 j ∧ x.2.2.2.2.2 j ≤ 9
theorem awL_r {sz : Int → Int} {w : Int} (h : ∀ p, 0 ≤ sz p ∧ sz p ≤ 10) : ∀ (a : List Int) (i : Int), 0 ≤ awL sz w i a ∧ awL sz w i a ≤ 10 * a.length
  | [], i => by simp [awL]
  | o :: a, i => by
    have h1 := awL_r (w := w) h a (i + 1)
    have h2 := h i
    simp only [awL, List.length_cons]
    split <;> omega
/-- places of a list of choices -/
def chL (l : List Int) : Prop := ∀ o ∈ l, 0 ≤ o ∧ o ≤ 15
theorem woL_r {w : Int → Int} (h : ∀ j, 0 ≤ j → j < 60 → 0 ≤ w j ∧ w j ≤ 9) : ∀ (a : List Int) (i : Int), chL a → 0 ≤ i → i + a.length ≤ 4 → 0 ≤ woL w i a ∧ woL w i a ≤ 9 * a.length
  | [], i, _, _, _ => by simp [woL]
  | o :: a, i, hc, h0, h1 => by
    have hl : ((o :: a).length : Int) = a.length + 1 := by simp
    have h3 := woL_r h a (i + 1) (fun q hq => hc q (List.mem_cons_of_mem _ hq)) (by omega) (by omega)
    have h4 := hc o List.mem_cons_self
    simp only [woL, hl]
    by_cases z : o = 15
    · rw [if_pos z]; omega
    · rw [if_neg z]
      have := h (15 * i + o) (by omega) (by omega)
      omega
def rnF (x : pX) (k : Nat) (l : List Int) : Nat → Nat → (Int × Int × List Int) → (Int × Int × List Int)
  | 0, _, b => b
  | c + 1, v, b => rnF x k l c (v + 1) (if okP x l (v : Int) then (cpL x k (l ++ [(v : Int)])).foldl (stP x) b else b)
theorem rn_rg (x : pX) (k : Nat) (l : List Int) : ∀ (c v : Nat) (b : Int × Int × List Int), ((List.range' v c).flatMap (fun v : Nat => if okP x l (v : Int) then cpL x k (l ++ [(v : Int)]) else [])).foldl (stP x) b = rnF x k l c v b
  | 0, v, b => rfl
  | c + 1, v, b => by
    rw [List.range'_succ, List.flatMap_cons, List.foldl_append, rn_rg x k l c (v + 1)]
    show rnF x k l c (v + 1) _ = rnF x k l c (v + 1) _
    congr 1
    by_cases h : okP x l (v : Int) = true
    · rw [if_pos h, if_pos h]
    · rw [if_neg h, if_neg h]; rfl
theorem rn_eq (x : pX) (k : Nat) (l : List Int) (b : Int × Int × List Int) : (cpL x (k + 1) l).foldl (stP x) b = rnF x k l 16 0 b := by
  rw [← rn_rg]
  show ((List.range 16).flatMap _).foldl _ _ = _
  rw [List.range_eq_range']
theorem cp_in (x : pX) : ∀ (k : Nat) (l m : List Int), m ∈ cpL x k l → ∃ t, m = l ++ t ∧ t.length = k ∧ chL t
  | 0, l, m, h => by
    have e : m = l := by simpa [cpL] using h
    exact ⟨[], by simp [e], rfl, fun o ho => by cases ho⟩
  | k + 1, l, m, h => by
    obtain ⟨v, hv, hm⟩ := List.mem_flatMap.mp h
    by_cases q : okP x l (v : Int) = true
    · rw [if_pos q] at hm
      obtain ⟨t, t1, t2, t3⟩ := cp_in x k _ _ hm
      refine ⟨(v : Int) :: t, by rw [t1]; simp, by simp [t2], fun o ho => ?_⟩
      rcases List.mem_cons.mp ho with e | e
      · subst e
        have := List.mem_range.mp hv
        omega
      · exact t3 o e
    · rw [if_neg q] at hm
      cases hm
theorem ok_15 (x : pX) (l : List Int) : okP x l 15 = true := by simp [okP]
theorem cp_none (x : pX) : ∀ (k : Nat) (l : List Int), (l ++ List.replicate k 15) ∈ cpL x k l
  | 0, l => by simp [cpL]
  | k + 1, l => by
    refine List.mem_flatMap.mpr ⟨15, by simp, ?_⟩
    rw [show ((15 : Nat) : Int) = 15 from rfl, if_pos (ok_15 x l)]
    have := cp_none x k (l ++ [15])
    rw [show l ++ List.replicate (k + 1) (15 : Int) = l ++ [15] ++ List.replicate k 15 by simp [List.replicate_succ]]
    exact this
/-- the best of a row of plans is one of them -/
theorem fo_in (x : pX) : ∀ (L : List (List Int)) (b : Int × Int × List Int), (∀ m ∈ L, 0 ≤ woL x.2.2.2.2.2 0 m) → (L.foldl (stP x) b = b ∧ (b.1 < 0 → L = [])) ∨ ∃ m ∈ L, L.foldl (stP x) b = (woL x.2.2.2.2.2 0 m, nuL m, m)
  | [], b, _ => Or.inl ⟨rfl, fun _ => rfl⟩
  | a :: L, b, h => by
    have ha := h a List.mem_cons_self
    rw [List.foldl_cons]
    by_cases z : b.1 < woL x.2.2.2.2.2 0 a ∨ (woL x.2.2.2.2.2 0 a = b.1 ∧ nuL a < b.2.1)
    · have e : stP x b a = (woL x.2.2.2.2.2 0 a, nuL a, a) := if_pos z
      rw [e]
      rcases fo_in x L (woL x.2.2.2.2.2 0 a, nuL a, a) (fun m hm => h m (List.mem_cons_of_mem _ hm)) with q | ⟨m, m1, m2⟩
      · exact Or.inr ⟨a, List.mem_cons_self, q.1⟩
      · exact Or.inr ⟨m, List.mem_cons_of_mem _ m1, m2⟩
    · have e : stP x b a = b := if_neg z
      rw [e]
      rcases fo_in x L b (fun m hm => h m (List.mem_cons_of_mem _ hm)) with q | ⟨m, m1, m2⟩
      · refine Or.inl ⟨q.1, fun y => ?_⟩
        exact absurd (Or.inl (by omega)) z
      · exact Or.inr ⟨m, List.mem_cons_of_mem _ m1, m2⟩
theorem pl_in {x : pX} (h : pxO x) : ∃ m ∈ cpL x 4 [], plF x = (woL x.2.2.2.2.2 0 m, nuL m, m) := by
  have hw : ∀ m ∈ cpL x 4 [], 0 ≤ woL x.2.2.2.2.2 0 m := by
    intro m hm
    obtain ⟨t, t1, t2, t3⟩ := cp_in x 4 [] m hm
    rw [List.nil_append] at t1
    subst t1
    exact (woL_r h.2.2.2.2 m 0 t3 (by omega) (by omega)).1
  unfold plF
  rcases fo_in x (cpL x 4 []) (-1, 0, []) hw with q | q
  · exfalso
    have := cp_none x 4 []
    rw [q.2 (by decide)] at this
    cases this
  · exact q
theorem pl_ch {x : pX} (h : pxO x) : (plF x).2.2.length = 4 ∧ chL (plF x).2.2 ∧ (plF x).1 = woL x.2.2.2.2.2 0 (plF x).2.2 ∧ (plF x).2.1 = nuL (plF x).2.2 := by
  obtain ⟨m, m1, m2⟩ := pl_in h
  obtain ⟨t, t1, t2, t3⟩ := cp_in x 4 [] m m1
  rw [List.nil_append] at t1
  subst t1
  rw [m2]
  exact ⟨t2, t3, rfl, rfl⟩
theorem rmF_r {f : Int → Int} {w rt : Int} (h : 0 ≤ rt) : ∀ n : Nat, 0 ≤ rmF f w rt n ∧ rmF f w rt n ≤ rt * n
  | 0 => by simp [rmF]
  | n + 1 => by
    have h1 := rmF_r (f := f) (w := w) h n
    have h2 : rt * ((n + 1 : Nat) : Int) = rt * n + rt := by rw [Int.natCast_add, Int.mul_add]; simp
    rw [h2]
    simp only [rmF]
    split <;> omega
theorem px_ok {V : qM} {rt : Int} (hv : voV V) (hrt : 1 ≤ rt ∧ rt ≤ 10) : pxO (pxV V rt) := by
  obtain ⟨hvn, vC, vL, vT, vB, vS, vW⟩ := id hv
  refine ⟨fun p => ?_, fun w => ?_, ?_, fun i h0 h1 => (vW.1 i h0 h1).1, vW.2⟩
  · have := cP_r (V 2) p (V 0 0).toNat
    show 0 ≤ szV V p ∧ szV V p ≤ 10
    unfold szV
    omega
  · have h1 := rmF_r (f := V 5) (w := w) (rt := rt) (by omega) (V 0 1).toNat
    show 0 ≤ rmV V rt w ∧ rmV V rt w ≤ 50
    unfold rmV
    have h2 : rt * ((V 0 1).toNat : Int) ≤ 10 * 5 := Int.mul_le_mul (by omega) (by omega) (by omega) (by decide)
    omega
  · show 0 ≤ V 0 5 ∧ V 0 5 ≤ 3
    omega
