/-! the plan: the class's search comes to the same -/
-- bits
def qb (z : Int) (i : Nat) : Bool := (Int32.ofInt z).toBitVec.getLsbD i
theorem qb_or (x y : Int) (i : Nat) : qb (qOr x y) i = (qb x i || qb y i) := by
  unfold qb qOr
  rw [Int32.ofInt_toInt, Int32.toBitVec_or, BitVec.getLsbD_or]
theorem qb_and (x y : Int) (i : Nat) : qb (qAnd x y) i = (qb x i && qb y i) := by
  unfold qb qAnd
  rw [Int32.ofInt_toInt, Int32.toBitVec_and, BitVec.getLsbD_and]
theorem qb_0 (i : Nat) : qb 0 i = false := by
  unfold qb
  rw [show Int32.ofInt 0 = 0 by decide]
  simp
theorem qAnd_0 (x y : Int) : qAnd x y = 0 ↔ ∀ i, i < 32 → ¬ (qb x i = true ∧ qb y i = true) := by
  constructor
  · intro h i hi q
    have := qb_and x y i
    rw [h, qb_0, q.1, q.2] at this
    cases this
  · intro h
    have e : Int32.ofInt x &&& Int32.ofInt y = 0 := by
      apply Int32.toBitVec_inj.1
      apply BitVec.eq_of_getLsbD_eq
      intro i hi
      have q := h i hi
      rw [Int32.toBitVec_and, BitVec.getLsbD_and]
      unfold qb at q
      cases a : (Int32.ofInt x).toBitVec.getLsbD i <;> cases b : (Int32.ofInt y).toBitVec.getLsbD i <;> simp_all
    unfold qAnd
    rw [e]
    decide
theorem qb_one : ∀ v : Fin 15, ∀ i : Fin 32, qb (qShl 1 (v.val : Int)) i.val = decide (i.val = v.val) := by decide +kernel
theorem qb_bars : ∀ v : Fin 15, ∀ i : Fin 32, qb (qOr (qOr (qShl 1 (v.val : Int)) (qShl (qShl 1 (v.val : Int)) 3)) (qShr (qShl 1 (v.val : Int)) 3)) i.val = decide (i.val = v.val ∨ i.val = v.val + 3 ∨ i.val + 3 = v.val) := by decide +kernel
/-- the bits of what is used are the places in l -/
def usR (u : Int) (l : List Int) : Prop := ∀ i : Nat, i < 32 → (qb u i = true ↔ ((i : Int) ∈ l ∧ i < 15))
theorem us_0 : usR 0 [] := fun i _ => by rw [qb_0]; simp
theorem us_15 {u : Int} {l : List Int} (h : usR u l) : usR u (l ++ [15]) := by
  intro i hi
  rw [h i hi, List.mem_append, List.mem_singleton]
  constructor
  · rintro ⟨a, b⟩; exact ⟨Or.inl a, b⟩
  · rintro ⟨a | a, b⟩
    · exact ⟨a, b⟩
    · omega
theorem us_v {u : Int} {l : List Int} {v : Nat} (h : usR u l) (hv : v < 15) : usR (qOr u (qShl 1 (v : Int))) (l ++ [(v : Int)]) := by
  intro i hi
  rw [qb_or, Bool.or_eq_true, h i hi, qb_one ⟨v, hv⟩ ⟨i, hi⟩, decide_eq_true_iff, List.mem_append, List.mem_singleton]
  constructor
  · rintro (a | a)
    · exact ⟨Or.inl a.1, a.2⟩
    · have a' : i = v := a
      exact ⟨Or.inr (by rw [a']), by omega⟩
  · rintro ⟨a | a, b⟩
    · exact Or.inl ⟨a, b⟩
    · exact Or.inr (show i = v by omega)
theorem us_bar {x : pX} {u : Int} {l : List Int} {v : Nat} {bar : Int} (h : usR u l) (hc : chL l) (hv : v < 15) (hb0 : x.2.2.2.2.1 ((v : Int) % 3) = 0 → bar = qShl 1 (v : Int)) (hb1 : x.2.2.2.2.1 ((v : Int) % 3) = 1 → bar = qOr (qOr (qShl 1 (v : Int)) (qShl (qShl 1 (v : Int)) 3)) (qShr (qShl 1 (v : Int)) 3)) (hw : x.2.2.2.2.1 ((v : Int) % 3) = 0 ∨ x.2.2.2.2.1 ((v : Int) % 3) = 1) :
    qAnd u bar = 0 ↔ ∀ o ∈ l, okO x (v : Int) o = true := by
  rw [qAnd_0]
  constructor
  · intro q o ho
    rw [okO_iff]
    have oc := hc o ho
    by_cases z : o = 15
    · exact ⟨by omega, fun y => y.1.1 z⟩
    · have q1 := q o.toNat (by omega)
      have q2 : qb u o.toNat = true := (h o.toNat (by omega)).mpr ⟨by rw [show ((o.toNat : Nat) : Int) = o by omega]; exact ho, by omega⟩
      rcases hw with w | w
      · have e := qb_one ⟨v, hv⟩ ⟨o.toNat, by omega⟩
        rw [hb0 w] at q1
        refine ⟨fun y => q1 ⟨q2, ?_⟩, fun y => by omega⟩
        rw [e]
        exact decide_eq_true (by show o.toNat = v; omega)
      · have e := qb_bars ⟨v, hv⟩ ⟨o.toNat, by omega⟩
        rw [hb1 w] at q1
        refine ⟨fun y => q1 ⟨q2, ?_⟩, fun y => q1 ⟨q2, ?_⟩⟩
        · rw [e]
          exact decide_eq_true (by show o.toNat = v ∨ o.toNat = v + 3 ∨ o.toNat + 3 = v; omega)
        · rw [e]
          exact decide_eq_true (by show o.toNat = v ∨ o.toNat = v + 3 ∨ o.toNat + 3 = v; omega)
  · intro q i hi y
    have y1 := (h i hi).mp y.1
    have o1 := (okO_iff x (v : Int) (i : Int)).mp (q _ y1.1)
    rcases hw with w | w
    · have e := qb_one ⟨v, hv⟩ ⟨i, hi⟩
      have y2 := y.2
      rw [hb0 w, e] at y2
      have : i = v := of_decide_eq_true y2
      omega
    · have e := qb_bars ⟨v, hv⟩ ⟨i, hi⟩
      have y2 := y.2
      rw [hb1 w, e] at y2
      have z : i = v ∨ i = v + 3 ∨ i + 3 = v := of_decide_eq_true y2
      refine o1.2 ⟨⟨by omega, by omega⟩, w, by omega⟩
-- lists
theorem woL_ap (w : Int → Int) : ∀ (a t : List Int) (i : Int), woL w i (a ++ t) = woL w i a + woL w (i + a.length) t
  | [], t, i => by simp [woL]
  | o :: a, t, i => by
    show _ + woL w (i + 1) (a ++ t) = _ + woL w (i + 1) a + _
    rw [woL_ap w a t (i + 1), show i + 1 + (a.length : Int) = i + ((o :: a).length : Nat) by simp; omega]
    omega
theorem nuL_ap : ∀ (a t : List Int), nuL (a ++ t) = nuL a + nuL t
  | [], t => by simp [nuL]
  | o :: a, t => by
    show _ + nuL (a ++ t) = _ + nuL a + nuL t
    rw [nuL_ap a t]
    omega
/-- no place is given for no wishes -/
def poL (w : Int → Int) : Int → List Int → Bool
  | _, [] => true
  | i, o :: r => (decide (o = 15) || decide (0 < w (15 * i + o))) && poL w (i + 1) r
theorem poL_ap (w : Int → Int) : ∀ (a t : List Int) (i : Int), poL w i (a ++ t) = (poL w i a && poL w (i + a.length) t)
  | [], t, i => by simp [poL]
  | o :: a, t, i => by
    show (_ && poL w (i + 1) (a ++ t)) = ((_ && poL w (i + 1) a) && _)
    rw [poL_ap w a t (i + 1), show i + 1 + (a.length : Int) = i + ((o :: a).length : Nat) by simp; omega, Bool.and_assoc]
/-- t may follow l -/
def vaL (x : pX) : List Int → List Int → Prop
  | _, [] => True
  | l, v :: t => okP x l v = true ∧ (0 ≤ v ∧ v ≤ 15) ∧ vaL x (l ++ [v]) t
theorem cp_mem (x : pX) : ∀ (k : Nat) (l m : List Int), m ∈ cpL x k l ↔ ∃ t, m = l ++ t ∧ t.length = k ∧ vaL x l t
  | 0, l, m => by
    constructor
    · intro h
      have e : m = l := by simpa [cpL] using h
      exact ⟨[], by simp [e], rfl, trivial⟩
    · rintro ⟨t, t1, t2, -⟩
      have : t = [] := List.length_eq_zero_iff.mp t2
      subst this
      simp [cpL, t1]
  | k + 1, l, m => by
    constructor
    · intro h
      obtain ⟨v, hv, hm⟩ := List.mem_flatMap.mp h
      by_cases q : okP x l (v : Int) = true
      · rw [if_pos q] at hm
        obtain ⟨t, t1, t2, t3⟩ := (cp_mem x k _ _).mp hm
        have := List.mem_range.mp hv
        exact ⟨(v : Int) :: t, by rw [t1]; simp, by simp [t2], q, by omega, t3⟩
      · rw [if_neg q] at hm
        cases hm
    · rintro ⟨t, t1, t2, t3⟩
      cases t with
      | nil => cases t2
      | cons v t =>
        obtain ⟨q1, q2, q3⟩ := t3
        refine List.mem_flatMap.mpr ⟨v.toNat, List.mem_range.mpr (by omega), ?_⟩
        rw [show ((v.toNat : Nat) : Int) = v by omega, if_pos q1]
        exact (cp_mem x k _ _).mpr ⟨t, by rw [t1]; simp, by simpa using t2, q3⟩
theorem va_ch {x : pX} : ∀ (t l : List Int), vaL x l t → chL t
  | [], _, _ => fun o ho => by cases ho
  | v :: t, l, h => fun o ho => by
    rcases List.mem_cons.mp ho with e | e
    · rw [e]; exact h.2.1
    · exact va_ch t _ h.2.2 o e
-- better
def beP (x : pX) (m : List Int) (b : Int × Int × List Int) : Prop := b.1 < woL x.2.2.2.2.2 0 m ∨ (woL x.2.2.2.2.2 0 m = b.1 ∧ nuL m < b.2.1)
theorem st_y {x : pX} {b : Int × Int × List Int} {m : List Int} (h : beP x m b) : stP x b m = (woL x.2.2.2.2.2 0 m, nuL m, m) := if_pos h
theorem st_n {x : pX} {b : Int × Int × List Int} {m : List Int} (h : ¬ beP x m b) : stP x b m = b := if_neg h
theorem fo_id {x : pX} {b : Int × Int × List Int} : ∀ L : List (List Int), (∀ m ∈ L, ¬ beP x m b) → L.foldl (stP x) b = b
  | [], _ => rfl
  | a :: L, h => by
    rw [List.foldl_cons, st_n (h a List.mem_cons_self)]
    exact fo_id L (fun m hm => h m (List.mem_cons_of_mem _ hm))
/-- what comes out is not beaten by what went in -/
theorem fo_best {x : pX} : ∀ (L : List (List Int)) (b : Int × Int × List Int), (b.1 < (L.foldl (stP x) b).1 ∨ (b.1 = (L.foldl (stP x) b).1 ∧ (L.foldl (stP x) b).2.1 ≤ b.2.1)) ∧ ∀ m ∈ L, ¬ beP x m (L.foldl (stP x) b)
  | [], b => ⟨Or.inr ⟨rfl, Int.le_refl _⟩, fun m hm => by cases hm⟩
  | a :: L, b => by
    rw [List.foldl_cons]
    obtain ⟨h1, h2⟩ := fo_best L (stP x b a)
    generalize hr : L.foldl (stP x) (stP x b a) = r at h1 h2
    by_cases z : beP x a b
    · rw [st_y z] at h1
      have h1' : woL x.2.2.2.2.2 0 a < r.1 ∨ (woL x.2.2.2.2.2 0 a = r.1 ∧ r.2.1 ≤ nuL a) := h1
      have z' : b.1 < woL x.2.2.2.2.2 0 a ∨ (woL x.2.2.2.2.2 0 a = b.1 ∧ nuL a < b.2.1) := z
      refine ⟨by omega, fun m hm => ?_⟩
      rcases List.mem_cons.mp hm with e | e
      · subst e
        intro q
        have q' : r.1 < woL x.2.2.2.2.2 0 m ∨ (woL x.2.2.2.2.2 0 m = r.1 ∧ nuL m < r.2.1) := q
        omega
      · exact h2 m e
    · rw [st_n z] at h1
      have z' : ¬ (b.1 < woL x.2.2.2.2.2 0 a ∨ (woL x.2.2.2.2.2 0 a = b.1 ∧ nuL a < b.2.1)) := z
      refine ⟨h1, fun m hm => ?_⟩
      rcases List.mem_cons.mp hm with e | e
      · subst e
        intro q
        have q' : r.1 < woL x.2.2.2.2.2 0 m ∨ (woL x.2.2.2.2.2 0 m = r.1 ∧ nuL m < r.2.1) := q
        omega
      · exact h2 m e
-- a place given for no wishes may be taken away
def leL : List Int → List Int → Prop
  | [], [] => True
  | a :: l', b :: l => (a = b ∨ a = 15) ∧ leL l' l
  | _, _ => False
theorem le_rf : ∀ l : List Int, leL l l
  | [] => trivial
  | _ :: l => ⟨Or.inl rfl, le_rf l⟩
theorem le_ap : ∀ (l' l : List Int) (a b : Int), leL l' l → (a = b ∨ a = 15) → leL (l' ++ [a]) (l ++ [b])
  | [], [], a, b, _, h => ⟨h, trivial⟩
  | _ :: l', _ :: l, a, b, h, h2 => ⟨h.1, le_ap l' l a b h.2 h2⟩
  | [], _ :: _, _, _, h, _ => h.elim
  | _ :: _, [], _, _, h, _ => h.elim
theorem le_len : ∀ (l' l : List Int), leL l' l → l'.length = l.length
  | [], [], _ => rfl
  | _ :: l', _ :: l, h => by simp [le_len l' l h.2]
  | [], _ :: _, h => h.elim
  | _ :: _, [], h => h.elim
theorem le_all {x : pX} {v : Int} (hv : v ≠ 15) : ∀ (l' l : List Int), leL l' l → (∀ o ∈ l, okO x v o = true) → ∀ o ∈ l', okO x v o = true
  | [], [], _, _ => fun o ho => by cases ho
  | a :: l', b :: l, h, hl => fun o ho => by
    rcases List.mem_cons.mp ho with e | e
    · rcases h.1 with q | q
      · rw [e, q]; exact hl b List.mem_cons_self
      · rw [e, q, okO_iff]; exact ⟨fun z => hv z.symm, fun z => z.1.1 rfl⟩
    · exact le_all hv l' l h.2 (fun y hy => hl y (List.mem_cons_of_mem _ hy)) o e
  | [], _ :: _, h, _ => h.elim
  | _ :: _, [], h, _ => h.elim
theorem le_aw {sz : Int → Int} {w : Int} (hs : ∀ p, 0 ≤ sz p) : ∀ (l' l : List Int) (i : Int), leL l' l → awL sz w i l' ≤ awL sz w i l
  | [], [], _, _ => Int.le_refl _
  | a :: l', b :: l, i, h => by
    have r := le_aw (w := w) hs l' l (i + 1) h.2
    have s := hs i
    simp only [awL]
    rcases h.1 with q | q
    · rw [q]; omega
    · rw [if_neg (show ¬ (a ≠ 15 ∧ a / 3 = w) from fun z => z.1 q)]
      split <;> omega
  | [], _ :: _, _, h => h.elim
  | _ :: _, [], _, h => h.elim
theorem le_ok {x : pX} (hx : pxO x) {l' l : List Int} {v : Int} (h : leL l' l) (hv : okP x l v = true) : okP x l' v = true := by
  rw [okP_iff] at hv ⊢
  rcases hv with q | ⟨q1, q2, q3⟩
  · exact Or.inl q
  · by_cases z : v = 15
    · exact Or.inl z
    · have e := le_len l' l h
      have a := le_aw (w := v / 3) (fun p => (hx.1 p).1) l' l 0 h
      rw [e]
      exact Or.inr ⟨q1, le_all z l' l h q2, by omega⟩
theorem le_va {x : pX} (hx : pxO x) : ∀ (t l' l : List Int), leL l' l → vaL x l t → vaL x l' t
  | [], _, _, _, _ => trivial
  | v :: t, l', l, h, hv => ⟨le_ok hx h hv.1, hv.2.1, le_va hx t _ _ (le_ap l' l v v h (Or.inl rfl)) hv.2.2⟩
theorem drop_0 {x : pX} (hx : pxO x) : ∀ (t l : List Int), l.length + t.length ≤ 4 → vaL x l t → poL x.2.2.2.2.2 l.length t = false → ∃ t', t'.length = t.length ∧ vaL x l t' ∧ woL x.2.2.2.2.2 l.length t' = woL x.2.2.2.2.2 l.length t ∧ nuL t' < nuL t
  | [], _, _, _, h => by cases h
  | v :: t, l, hl, hv, h => by
    have hlen : (v :: t).length = t.length + 1 := rfl
    have hl1 : ((l ++ [v]).length : Int) = (l.length : Int) + 1 := by simp
    by_cases z : v = 15 ∨ 0 < x.2.2.2.2.2 (15 * (l.length : Int) + v)
    · have h2 : poL x.2.2.2.2.2 ((l ++ [v]).length : Int) t = false := by
        rw [hl1]
        simp only [poL] at h
        have e : (decide (v = 15) || decide (0 < x.2.2.2.2.2 (15 * (l.length : Int) + v))) = true := by
          rcases z with z | z
          · rw [decide_eq_true z]; rfl
          · rw [decide_eq_true z, Bool.or_true]
        rw [e, Bool.true_and] at h
        exact h
      obtain ⟨t', a1, a2, a3, a4⟩ := drop_0 hx t (l ++ [v]) (by simp; omega) hv.2.2 h2
      rw [hl1] at a3
      refine ⟨v :: t', by simp [a1], ⟨hv.1, hv.2.1, a2⟩, ?_, ?_⟩
      · simp only [woL]; rw [a3]
      · simp only [nuL]; omega
    · have z1 : v ≠ 15 := fun q => z (Or.inl q)
      have vr := hv.2.1
      have w0 := hx.2.2.2.2 (15 * (l.length : Int) + v) (by omega) (by omega)
      have z2 : x.2.2.2.2.2 (15 * (l.length : Int) + v) = 0 := by
        by_cases q : 0 < x.2.2.2.2.2 (15 * (l.length : Int) + v)
        · exact absurd (Or.inr q) z
        · omega
      refine ⟨15 :: t, by simp, ⟨ok_15 x l, by decide, le_va hx t _ _ (le_ap l l 15 v (le_rf l) (Or.inr rfl)) hv.2.2⟩, ?_, ?_⟩
      · simp only [woL]; rw [if_pos trivial, if_neg z1, z2]
      · simp only [nuL]; rw [if_pos trivial, if_neg z1]; omega
/-- the plan that gives nothing, and its worth -/
abbrev n4L : List Int := [15, 15, 15, 15]
theorem po_zero {w : Int → Int} (hw : ∀ j, 0 ≤ j → j < 60 → 0 ≤ w j) : ∀ (t : List Int) (i : Int), 0 ≤ i → i + t.length ≤ 4 → chL t → poL w i t = true → woL w i t = 0 → t = List.replicate t.length 15
  | [], _, _, _, _, _, _ => rfl
  | o :: t, i, h0, h1, hc, hp, hz => by
    have hlen : ((o :: t).length : Int) = t.length + 1 := by simp
    have oc := hc o List.mem_cons_self
    simp only [poL, Bool.and_eq_true, Bool.or_eq_true, decide_eq_true_eq] at hp
    have ge : ∀ (t : List Int) (i : Int), 0 ≤ i → i + t.length ≤ 4 → chL t → 0 ≤ woL w i t := by
      intro t
      induction t with
      | nil => intro i _ _ _; simp [woL]
      | cons a t ih =>
        intro i i0 i1 hc
        have hl : ((a :: t).length : Int) = t.length + 1 := by simp
        have r := ih (i + 1) (by omega) (by omega) (fun q hq => hc q (List.mem_cons_of_mem _ hq))
        have ac := hc a List.mem_cons_self
        simp only [woL]
        by_cases z : a = 15
        · rw [if_pos z]; omega
        · rw [if_neg z]
          have := hw (15 * i + a) (by omega) (by omega)
          omega
    have r := ge t (i + 1) (by omega) (by omega) (fun q hq => hc q (List.mem_cons_of_mem _ hq))
    simp only [woL] at hz
    by_cases z : o = 15
    · rw [if_pos z] at hz
      have e := po_zero hw t (i + 1) (by omega) (by omega) (fun q hq => hc q (List.mem_cons_of_mem _ hq)) hp.2 (by omega)
      rw [z]
      show 15 :: t = List.replicate (t.length + 1) 15
      rw [List.replicate_succ, ← e]
    · rw [if_neg z] at hz
      rcases hp.1 with q | q
      · exact absurd q z
      · omega
/-- the two folds, side by side -/
theorem fo_two {x : pX} (hx : pxO x) : ∀ (L : List (List Int)) (b1 b2 : Int × Int × List Int), (∀ m ∈ L, m ∈ cpL x 4 []) →
    (b1 = b2 ∨ ((b1 = (-1, 0, []) ∨ ∃ m ∈ cpL x 4 [], poL x.2.2.2.2.2 0 m = false ∧ b1 = (woL x.2.2.2.2.2 0 m, nuL m, m)) ∧ (¬ (b1.1 < b2.1 ∨ (b2.1 = b1.1 ∧ b2.2.1 < b1.2.1)) ∨ b2 = (0, 0, n4L)))) →
    (L.foldl (stP x) b1 = (L.filter (poL x.2.2.2.2.2 0)).foldl (stP x) b2 ∨ ((L.foldl (stP x) b1 = (-1, 0, []) ∨ ∃ m ∈ cpL x 4 [], poL x.2.2.2.2.2 0 m = false ∧ L.foldl (stP x) b1 = (woL x.2.2.2.2.2 0 m, nuL m, m))))
  | [], b1, b2, _, h => by
    rcases h with h | h
    · exact Or.inl h
    · exact Or.inr h.1
  | a :: L, b1, b2, hL, h => by
    have ha := hL a List.mem_cons_self
    obtain ⟨t, t1, t2, t3⟩ := cp_in x 4 [] a ha
    rw [List.nil_append] at t1
    subst t1
    have wa := woL_r hx.2.2.2.2 a 0 t3 (by omega) (by omega)
    have na := nuL_r a
    cases hp : poL x.2.2.2.2.2 0 a with
    | true =>
      rw [List.filter_cons_of_pos hp, List.foldl_cons, List.foldl_cons]
      refine fo_two hx L _ _ (fun m hm => hL m (List.mem_cons_of_mem _ hm)) ?_
      rcases h with h | ⟨h1, h2⟩
      · subst h; exact Or.inl rfl
      · by_cases z1 : beP x a b1
        · rw [st_y z1]
          have z1' : b1.1 < woL x.2.2.2.2.2 0 a ∨ (woL x.2.2.2.2.2 0 a = b1.1 ∧ nuL a < b1.2.1) := z1
          left
          by_cases z2 : beP x a b2
          · rw [st_y z2]
          · have z2' : ¬ (b2.1 < woL x.2.2.2.2.2 0 a ∨ (woL x.2.2.2.2.2 0 a = b2.1 ∧ nuL a < b2.2.1)) := z2
            rw [st_n z2]
            rcases h2 with h2 | h2
            · omega
            · rw [h2] at z2'
              have z3 : woL x.2.2.2.2.2 0 a = 0 := by
                have : ¬ ((0 : Int) < woL x.2.2.2.2.2 0 a ∨ (woL x.2.2.2.2.2 0 a = 0 ∧ nuL a < 0)) := z2'
                omega
              have e := po_zero (fun j j0 j1 => (hx.2.2.2.2 j j0 j1).1) a 0 (by decide) (by omega) t3 hp z3
              rw [t2] at e
              have e' : a = n4L := e
              rw [h2, z3, e']
              rfl
        · rw [st_n z1]
          have z1' : ¬ (b1.1 < woL x.2.2.2.2.2 0 a ∨ (woL x.2.2.2.2.2 0 a = b1.1 ∧ nuL a < b1.2.1)) := z1
          refine Or.inr ⟨h1, ?_⟩
          by_cases z2 : beP x a b2
          · rw [st_y z2]; exact Or.inl z1'
          · rw [st_n z2]; exact h2
    | false =>
      rw [List.filter_cons_of_neg (by rw [hp]; decide), List.foldl_cons]
      refine fo_two hx L _ _ (fun m hm => hL m (List.mem_cons_of_mem _ hm)) ?_
      by_cases z1 : beP x a b1
      · rw [st_y z1]
        have z1' : b1.1 < woL x.2.2.2.2.2 0 a ∨ (woL x.2.2.2.2.2 0 a = b1.1 ∧ nuL a < b1.2.1) := z1
        refine Or.inr ⟨Or.inr ⟨a, ha, hp, rfl⟩, ?_⟩
        rcases h with h | ⟨-, h2⟩
        · subst h
          left
          show ¬ (woL x.2.2.2.2.2 0 a < b1.1 ∨ (b1.1 = woL x.2.2.2.2.2 0 a ∧ b1.2.1 < nuL a))
          omega
        · rcases h2 with h2 | h2
          · left
            show ¬ (woL x.2.2.2.2.2 0 a < b2.1 ∨ (b2.1 = woL x.2.2.2.2.2 0 a ∧ b2.2.1 < nuL a))
            omega
          · exact Or.inr h2
      · rw [st_n z1]; exact h
theorem pl_two {x : pX} (hx : pxO x) : plF x = ((cpL x 4 []).filter (poL x.2.2.2.2.2 0)).foldl (stP x) (0, 0, n4L) := by
  rcases fo_two hx (cpL x 4 []) (-1, 0, []) (0, 0, n4L) (fun m hm => hm) (Or.inr ⟨Or.inl rfl, Or.inr rfl⟩) with h | h
  · exact h
  · exfalso
    obtain ⟨m, m1, m2⟩ := pl_in hx
    have hb := (fo_best (x := x) (cpL x 4 []) (-1, 0, [])).2
    have hpl : (cpL x 4 []).foldl (stP x) (-1, 0, []) = plF x := rfl
    rw [hpl] at h hb
    rcases h with h | ⟨q, q1, q2, q3⟩
    · rw [m2] at h
      obtain ⟨t, t1, t2, t3⟩ := cp_in x 4 [] m m1
      rw [List.nil_append] at t1
      subst t1
      have wa := woL_r hx.2.2.2.2 m 0 t3 (by omega) (by omega)
      have e : woL x.2.2.2.2.2 0 m = -1 := congrArg Prod.fst h
      omega
    · obtain ⟨t, t1, t2, t3⟩ := (cp_mem x 4 [] q).mp q1
      rw [List.nil_append] at t1
      subst t1
      obtain ⟨t', a1, a2, a3, a4⟩ := drop_0 hx q [] (by simp; omega) t3 q2
      refine hb t' ((cp_mem x 4 [] t').mpr ⟨t', by simp, by omega, a2⟩) ?_
      rw [q3]
      exact Or.inr ⟨a3, a4⟩
