/-! the class's search as a function -/
def ofF (x : pX) (p v : Int) : Int := if x.1 p = 0 ∨ x.2.2.1 ≤ v % 3 ∨ x.2.2.2.1 (v % 3) < x.1 p ∨ x.2.1 (v / 3) < x.1 p then 0 else x.2.2.2.2.2 (15 * p + v)
def gmF (x : pX) (p : Int) : Nat → Int
  | 0 => 0
  | n + 1 => max (gmF x p n) (ofF x p n)
def hoK (x : pX) : Nat → Int
  | 0 => 0
  | k + 1 => hoK x k + gmF x (3 - (k : Int)) 15
def asK (x : pX) : Nat → Int
  | 0 => 0
  | k + 1 => asK x k + (if 0 < gmF x (3 - (k : Int)) 15 then 1 else 0)
def okC (x : pX) (l : List Int) (v : Int) : Bool := okP x l v && (decide (v = 15) || decide (0 < x.2.2.2.2.2 (15 * (l.length : Int) + v)))
abbrev noB (x : pX) (k : Nat) (l : List Int) (b : Int × Int × List Int) : Prop := woL x.2.2.2.2.2 0 l + hoK x k < b.1 ∨ (woL x.2.2.2.2.2 0 l + hoK x k = b.1 ∧ b.2.1 ≤ nuL l + asK x k)
def dfF (x : pX) : Nat → List Int → (Int × Int × List Int) → (Int × Int × List Int)
  | 0, l, b => stP x b l
  | k + 1, l, b => if noB x (k + 1) l b then b else (List.range 16).foldl (fun b (v : Nat) => if okC x l (v : Int) then dfF x k (l ++ [(v : Int)]) b else b) b
theorem of_r {x : pX} (hx : pxO x) {p v : Int} (p0 : 0 ≤ p) (p1 : p < 4) (v0 : 0 ≤ v) (v1 : v < 15) : 0 ≤ ofF x p v ∧ ofF x p v ≤ 9 := by
  unfold ofF
  split
  · omega
  · exact hx.2.2.2.2 _ (by omega) (by omega)
theorem gm_r {x : pX} (hx : pxO x) {p : Int} (p0 : 0 ≤ p) (p1 : p < 4) : ∀ n : Nat, n ≤ 15 → 0 ≤ gmF x p n ∧ gmF x p n ≤ 9 ∧ ∀ v : Nat, v < n → ofF x p v ≤ gmF x p n
  | 0, _ => ⟨Int.le_refl _, by show (0 : Int) ≤ 9; decide, fun v hv => by omega⟩
  | n + 1, hn => by
    obtain ⟨h1, h2, h3⟩ := gm_r hx p0 p1 n (by omega)
    have o := of_r hx p0 p1 (v := (n : Int)) (by omega) (by omega)
    refine ⟨by simp only [gmF]; omega, by simp only [gmF]; omega, fun v hv => ?_⟩
    simp only [gmF]
    by_cases z : v = n
    · subst z; omega
    · have := h3 v (by omega); omega
theorem ho_r {x : pX} (hx : pxO x) : ∀ k : Nat, k ≤ 4 → (0 ≤ hoK x k ∧ hoK x k ≤ 9 * k) ∧ 0 ≤ asK x k ∧ asK x k ≤ k
  | 0, _ => by simp [hoK, asK]
  | k + 1, hk => by
    have h := ho_r hx k (by omega)
    have m := gm_r hx (p := 3 - (k : Int)) (by omega) (by omega) 15 (by decide)
    simp only [hoK, asK]
    split <;> omega
/-- a place that the reference allows is worth the offer there -/
theorem ok_of {x : pX} (hx : pxO x) {l : List Int} {v : Int} (h : okP x l v = true) (hv : v ≠ 15) : ofF x l.length v = x.2.2.2.2.2 (15 * (l.length : Int) + v) := by
  rcases (okP_iff x l v).mp h with q | ⟨q1, q2, q3⟩
  · exact absurd q hv
  · have a := awL_r (w := v / 3) hx.1 l 0
    unfold ofF
    rw [if_neg (by omega)]
theorem bnd {x : pX} (hx : pxO x) : ∀ (t l : List Int), l.length + t.length = 4 → vaL x l t → woL x.2.2.2.2.2 l.length t ≤ hoK x t.length ∧ (woL x.2.2.2.2.2 l.length t = hoK x t.length → asK x t.length ≤ nuL t)
  | [], l, _, _ => by simp [woL, hoK, asK, nuL]
  | v :: t, l, hl, hv => by
    have hlen : (v :: t).length = t.length + 1 := rfl
    have hl1 : ((l ++ [v]).length : Int) = (l.length : Int) + 1 := by simp
    have hp : 3 - ((t.length : Nat) : Int) = (l.length : Int) := by omega
    obtain ⟨r1, r2⟩ := bnd hx t (l ++ [v]) (by simp; omega) hv.2.2
    rw [hl1] at r1 r2
    have m := gm_r hx (p := (l.length : Int)) (by omega) (by omega) 15 (by decide)
    have ho : hoK x (v :: t).length = hoK x t.length + gmF x l.length 15 := by
      show hoK x t.length + gmF x (3 - ((t.length : Nat) : Int)) 15 = _
      rw [hp]
    have as : asK x (v :: t).length = asK x t.length + (if 0 < gmF x l.length 15 then 1 else 0) := by
      show asK x t.length + (if 0 < gmF x (3 - ((t.length : Nat) : Int)) 15 then 1 else 0) = _
      rw [hp]
    rw [ho, as]
    simp only [woL, nuL]
    have vr := hv.2.1
    by_cases z : v = 15
    · rw [if_pos z, if_pos z]
      refine ⟨by omega, fun e => ?_⟩
      have := r2 (by omega)
      rw [if_neg (by omega)]
      omega
    · rw [if_neg z, if_neg z]
      have o := ok_of hx hv.1 z
      have g := m.2.2 v.toNat (by omega)
      rw [show ((v.toNat : Nat) : Int) = v by omega, o] at g
      refine ⟨by omega, fun e => ?_⟩
      have := r2 (by omega)
      split <;> omega
theorem no_be {x : pX} (hx : pxO x) {k : Nat} {l m : List Int} {b : Int × Int × List Int} (hl : l.length + k = 4) (h : noB x k l b) (hm : m ∈ cpL x k l) : ¬ beP x m b := by
  obtain ⟨t, t1, t2, t3⟩ := (cp_mem x k l m).mp hm
  have q := bnd hx t l (by omega) t3
  rw [t2] at q
  intro z
  have z' : b.1 < woL x.2.2.2.2.2 0 m ∨ (woL x.2.2.2.2.2 0 m = b.1 ∧ nuL m < b.2.1) := z
  rw [t1, woL_ap, nuL_ap, Int.zero_add] at z'
  have h' : woL x.2.2.2.2.2 0 l + hoK x k < b.1 ∨ (woL x.2.2.2.2.2 0 l + hoK x k = b.1 ∧ b.2.1 ≤ nuL l + asK x k) := h
  by_cases y : woL x.2.2.2.2.2 (l.length : Int) t = hoK x k
  · have := q.2 y; omega
  · omega
theorem df_eq {x : pX} (hx : pxO x) : ∀ (k : Nat) (l : List Int) (b : Int × Int × List Int), l.length + k = 4 → poL x.2.2.2.2.2 0 l = true → dfF x k l b = ((cpL x k l).filter (poL x.2.2.2.2.2 0)).foldl (stP x) b
  | 0, l, b, _, hp => by
    show stP x b l = (List.filter _ [l]).foldl (stP x) b
    rw [List.filter_cons_of_pos hp]
    rfl
  | k + 1, l, b, hl, hp => by
    have one : ∀ (v : Nat) (b : Int × Int × List Int), (if okC x l (v : Int) then dfF x k (l ++ [(v : Int)]) b else b) = (List.filter (poL x.2.2.2.2.2 0) (if okP x l (v : Int) = true then cpL x k (l ++ [(v : Int)]) else [])).foldl (stP x) b := by
      intro v b
      by_cases q1 : okP x l (v : Int) = true
      · rw [if_pos q1]
        by_cases q2 : (decide ((v : Int) = 15) || decide (0 < x.2.2.2.2.2 (15 * (l.length : Int) + v))) = true
        · have q3 : okC x l (v : Int) = true := by unfold okC; rw [q1, q2]; rfl
          rw [if_pos q3]
          refine df_eq hx k (l ++ [(v : Int)]) b (by simp; omega) ?_
          rw [poL_ap, hp, Bool.true_and, Int.zero_add]
          simp only [poL, Bool.and_true]
          exact q2
        · have q3 : ¬ okC x l (v : Int) = true := by
            unfold okC
            rw [q1, Bool.true_and]
            exact q2
          rw [if_neg q3]
          have e0 : List.filter (poL x.2.2.2.2.2 0) (cpL x k (l ++ [(v : Int)])) = [] := by
            apply List.filter_eq_nil_iff.mpr
            intro m hm y
            obtain ⟨t, t1, -, -⟩ := (cp_mem x k _ m).mp hm
            rw [t1, poL_ap, poL_ap, hp, Bool.true_and, Int.zero_add, Bool.and_eq_true] at y
            have y1 := y.1
            simp only [poL, Bool.and_true] at y1
            exact q2 y1
          rw [e0]
          rfl
      · have q3 : ¬ okC x l (v : Int) = true := by
          unfold okC
          intro y
          rw [Bool.and_eq_true] at y
          exact q1 y.1
        rw [if_neg q1, if_neg q3]
        rfl
    have all : ∀ (vs : List Nat) (b : Int × Int × List Int), vs.foldl (fun b (v : Nat) => if okC x l (v : Int) then dfF x k (l ++ [(v : Int)]) b else b) b = ((vs.flatMap (fun v : Nat => if okP x l (v : Int) then cpL x k (l ++ [(v : Int)]) else [])).filter (poL x.2.2.2.2.2 0)).foldl (stP x) b := by
      intro vs
      induction vs with
      | nil => intro b; rfl
      | cons v vs ih =>
        intro b
        rw [List.foldl_cons, List.flatMap_cons, List.filter_append, List.foldl_append, one v b]
        exact ih _
    by_cases z : noB x (k + 1) l b
    · have e : dfF x (k + 1) l b = b := if_pos z
      rw [e, fo_id _ (fun m hm => no_be hx hl z (List.mem_filter.mp hm).1)]
    · have e : dfF x (k + 1) l b = (List.range 16).foldl (fun b (v : Nat) => if okC x l (v : Int) then dfF x k (l ++ [(v : Int)]) b else b) b := if_neg z
      rw [e]
      exact all (List.range 16) b
/-- the loop over the places from v on -/
def rdF (x : pX) (k : Nat) (l : List Int) : Nat → Nat → (Int × Int × List Int) → (Int × Int × List Int)
  | 0, _, b => b
  | c + 1, v, b => rdF x k l c (v + 1) (if okC x l (v : Int) then dfF x k (l ++ [(v : Int)]) b else b)
theorem rd_eq (x : pX) (k : Nat) (l : List Int) (b : Int × Int × List Int) : (List.range 16).foldl (fun b (v : Nat) => if okC x l (v : Int) then dfF x k (l ++ [(v : Int)]) b else b) b = rdF x k l 16 0 b := by
  have h : ∀ (c v : Nat) (b : Int × Int × List Int), (List.range' v c).foldl (fun b (v : Nat) => if okC x l (v : Int) then dfF x k (l ++ [(v : Int)]) b else b) b = rdF x k l c v b := by
    intro c
    induction c with
    | zero => intro v b; rfl
    | succ c ih =>
      intro v b
      rw [List.range'_succ, List.foldl_cons, ih (v + 1)]
      rfl
  rw [List.range_eq_range', h]
theorem df_pl {x : pX} (hx : pxO x) : dfF x 4 [] (0, 0, n4L) = plF x := by
  rw [df_eq hx 4 [] _ rfl rfl, ← pl_two hx]
