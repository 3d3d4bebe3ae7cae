/-! THE CALCULUS: after the two constructors no call makes an object, so the heap is a fixed row of cells; a memory is a function (cell, place) to whole numbers.
qW g C pc loc st M: the machine at pc with these locals and stack, over ANY heap that holds M, comes to its end. qOk g d j av M Q: method j's contract, d calls deep at most. -/
abbrev qR (z : Int) : Prop := -2147483648 ≤ z ∧ z ≤ 2147483647
abbrev qV : Type := Int ⊕ Nat
abbrev qM : Type := Nat → Int → Int
def qIn (M : qM) : Prop := ∀ k j, qR (M k j)
def qU (M : qM) (k : Nat) (i v : Int) : qM := fun a j => if a = k ∧ j = i then v else M a j
theorem qU_s {M : qM} {k : Nat} {i v : Int} : qU M k i v k i = v := by simp [qU]
theorem qU_i {M : qM} {k : Nat} {i j v : Int} (h : j ≠ i) : qU M k i v k j = M k j := by simp [qU, h]
theorem qU_k {M : qM} {k a : Nat} {i v : Int} (h : a ≠ k) (j : Int) : qU M k i v a j = M a j := by simp [qU, h]
theorem qU_in {M : qM} {k : Nat} {i v : Int} (h : qIn M) (hv : qR v) : qIn (qU M k i v) := by
  intro a j
  unfold qU
  by_cases q : a = k ∧ j = i
  · rw [if_pos q]; exact hv
  · rw [if_neg q]; exact h a j
abbrev qL : Type := (Nat × List (Option Nat)) ⊕ (Bool × Nat)
abbrev qG : Type := Launch × va_G × ClassId × ClassId × (Nat → Nat)
def qv (ad : Nat → Nat) : qV → Value
  | .inl z => .int (Int32.ofInt z)
  | .inr k => .ref (ad k)
/-- the cells: 0 the book of camps; 1 to 25 its book; 26 to 50 the kept one; 51 to 53 days; 54 to 62 the planner; 63 to 83 the reference; 84 stands for the script -/
def qBk (b : Nat) : List qL := [.inl (0, [some (b + 1), some (b + 7), some (b + 15), some (b + 21)]),
  .inl (3, [none, some (b + 2), some (b + 3), none, some (b + 4), some (b + 5), some (b + 6)]), .inr (false, 10), .inr (false, 10), .inr (false, 20), .inr (false, 20), .inr (false, 5),
  .inl (6, [none, some (b + 8), some (b + 9), none, some (b + 10), some (b + 11), some (b + 12), some (b + 13), some (b + 14)]), .inr (false, 10), .inr (false, 10), .inr (false, 8), .inr (false, 8), .inr (false, 8), .inr (false, 8), .inr (false, 8),
  .inl (5, [none, some (b + 16), some (b + 17), some (b + 18), some (b + 19), some (b + 20)]), .inr (false, 80), .inr (false, 80), .inr (false, 80), .inr (false, 80), .inr (true, 80),
  .inl (1, [none, some (b + 22), some (b + 23), some (b + 24)]), .inr (false, 3), .inr (true, 3), .inr (false, 60)]
def qLs : List qL := [.inl (7, [some 1, some 26, some 51, some 54, none, none, none])] ++ qBk 1 ++ qBk 26 ++
  [.inl (2, [some 52, some 53]), .inr (false, 100), .inr (false, 8),
  .inl (4, [some 55, some 56, some 57, some 58, some 59, some 60, some 61, some 62, none, none]), .inr (false, 4), .inr (false, 5), .inr (false, 60), .inr (false, 15), .inr (false, 5), .inr (false, 5), .inr (false, 4), .inr (false, 4),
  .inl (8, [some 64, some 65, some 66, some 67, some 68, some 69, some 70, some 71, some 72, some 73, some 74, some 75, some 76, none, none, some 77, some 78, some 79, some 80, some 81, some 82, some 83, none, none, none]),
  .inr (false, 6), .inr (false, 10), .inr (false, 10), .inr (false, 20), .inr (false, 20), .inr (false, 5), .inr (false, 10), .inr (false, 10), .inr (false, 40), .inr (false, 400), .inr (false, 3), .inr (false, 3), .inr (false, 60), .inr (false, 620), .inr (false, 10), .inr (false, 8), .inr (false, 4), .inr (false, 4), .inr (false, 4), .inr (false, 5)]
theorem qLs_len : qLs.length = 84 := by decide +kernel
/-- a slot of an object: a fixed reference, or a number of the memory -/
def qs (ad : Nat → Nat) (M : qM) (k j : Nat) (f : Option Nat) : Value := match f with
  | some q => .ref (ad q)
  | none => .int (Int32.ofInt (M k j))
def qc (g : qG) (M : qM) (k : Nat) (y : qL) : Nat × va_E := (g.2.2.2.2 k, match y with
  | .inl o => .inr (o.1, o.2.mapIdx (fun j f => qs g.2.2.2.2 M k j f))
  | .inr a => .inl (if a.1 = true then g.2.2.2.1 else g.2.2.1, a.2, .inl (fun j => Int32.ofInt (M k j))))
def qC (g : qG) (M : qM) : va_W := qLs.mapIdx (fun k y => qc g M k y)
theorem qC_at {g : qG} {M : qM} {k : Nat} {y : qL} (h : qLs[k]? = some y) : (qC g M)[k]? = some (qc g M k y) := by
  unfold qC
  rw [List.getElem?_mapIdx, h]
  rfl
theorem qC_of {g : qG} {M : qM} {k : Nat} {q : Nat × va_E} (h : (qC g M)[k]? = some q) : ∃ y, qLs[k]? = some y ∧ q = qc g M k y := by
  unfold qC at h
  rw [List.getElem?_mapIdx] at h
  cases hy : qLs[k]? with
  | none => rw [hy] at h; cases h
  | some y => rw [hy] at h; exact ⟨y, rfl, (Option.some.inj h).symm⟩
theorem qLs_lt {k : Nat} {y : qL} (h : qLs[k]? = some y) : k < 84 := by
  have := (List.getElem?_eq_some_iff.mp h).1
  rw [qLs_len] at this
  exact this
def qA (g : qG) : Nat → Prop := fun q => ∃ k, k < 84 ∧ q = g.2.2.2.2 k
def qJ (g : qG) : Prop := ∀ i j, i < 84 → j < 84 → g.2.2.2.2 i = g.2.2.2.2 j → i = j
theorem qD {g : qG} (h : qJ g) (M : qM) : va_D (qA g) (qC g M) := by
  refine ⟨fun i j p q hp hq e => ?_, fun k q hq => ?_⟩
  · obtain ⟨y, hy, rfl⟩ := qC_of hp
    obtain ⟨z, hz, rfl⟩ := qC_of hq
    exact h i j (qLs_lt hy) (qLs_lt hz) e
  · obtain ⟨y, hy, rfl⟩ := qC_of hq
    exact ⟨k, qLs_lt hy, rfl⟩
/-- the memory with one cell changed, as the kit's rows change a cell -/
theorem qC_sets {g : qG} {M M' : qM} {k : Nat} {y : qL} (hy : qLs[k]? = some y) (h' : ∀ a j, a ≠ k → M' a j = M a j) : (qC g M).set k (qc g M' k y) = qC g M' := by
  apply List.ext_getElem?
  intro n
  rw [List.getElem?_set]
  by_cases h : k = n
  · subst h
    have hl : k < (qC g M).length := by unfold qC; rw [List.length_mapIdx, qLs_len]; exact qLs_lt hy
    rw [if_pos rfl, if_pos hl, qC_at hy]
  · rw [if_neg h]
    unfold qC
    rw [List.getElem?_mapIdx, List.getElem?_mapIdx]
    cases hz : qLs[n]? with
    | none => rfl
    | some z =>
      show some (qc g M n z) = some (qc g M' n z)
      have e : ∀ j, M' n j = M n j := fun j => h' n j (fun q => h q.symm)
      unfold qc
      cases z with
      | inl o =>
        show some (_, Sum.inr (_, _)) = some (_, Sum.inr (_, _))
        have : o.2.mapIdx (fun j f => qs g.2.2.2.2 M n j f) = o.2.mapIdx (fun j f => qs g.2.2.2.2 M' n j f) := by
          congr 1
          funext j f
          cases f with
          | none => simp only [qs, e]
          | some q => rfl
        rw [this]
      | inr a =>
        show some (_, Sum.inl (_, _, Sum.inl _)) = some (_, Sum.inl (_, _, Sum.inl _))
        have : (fun j : Nat => Int32.ofInt (M n j)) = (fun j : Nat => Int32.ofInt (M' n j)) := by
          funext j
          rw [e]
        rw [this]
theorem qC_set {g : qG} {M : qM} {k : Nat} {y : qL} {i v : Int} (hy : qLs[k]? = some y) : (qC g M).set k (qc g (qU M k i v) k y) = qC g (qU M k i v) := qC_sets hy (fun _ j h => qU_k h j)
theorem qLs_n : ∀ y ∈ qLs, (match y with | .inr a => a.2 | .inl _ => 0) ≤ 620 := by decide +kernel
theorem qLs_sz {k : Nat} {b : Bool} {n : Nat} (h : qLs[k]? = some (.inr (b, n))) : n ≤ 620 := qLs_n _ (List.mem_of_getElem? h)
def qP (g : qG) (M : qM) (H : Heap) : Prop := qIn M ∧ va_P g.2.1 vwCl (qC g M) H
-- words
def qNe : Cond → Bool
  | .fieldLinkNest _ _ _ _ _ _ => true
  | .methodLinkNest _ _ _ _ => true
  | _ => false
def qNw : List Cond := tables_1.filter qNe
def qGw : List Cond := lw_tbl.filter goodWord
def qTy (g : qG) : List (ClassId × FieldType) := [(g.2.2.1, .int), (g.2.2.2.1, .boolean)]
def qK (g : qG) (U : State) : Prop := va_K g.2.1 vwCl (qTy g) U ∧ (∀ w ∈ qNw, va_Nw w U) ∧ qJ g
theorem qK.warm {g : qG} {s U : State} (hW : s.WarmedH U.vm) (h : qK g s) : qK g U := by
  refine ⟨va_K.moved hW.alike h.1, fun w hw => ?_, h.2.2⟩
  have h1 := h.2.1 w hw
  have h2 : qNe w = true := (List.mem_filter.mp hw).2
  cases w <;> first | exact va_Nw.warmF hW h1 | exact va_Nw.warmM hW h1 | cases h2
theorem qK.call {g : qG} {U : State} {f : JFrame} {mk : MethodId} {a : Array Value} (h : qK g U) : qK g (U.calling f mk a) := by
  refine ⟨va_K.moved (u := U) (U := U.calling f mk a) (Vm.Alike.refl U.vm) h.1, fun w hw => ?_, h.2.2⟩
  have h2 : qNe w = true := (List.mem_filter.mp hw).2
  refine va_Nw.same (u := U) ?_ rfl (h.2.1 w hw)
  cases w <;> first | rfl | cases h2
theorem qGw_in {w : Cond} (i : Nat) (h : lw_tbl[i]? = some w) (hg : goodWord w = true) : w ∈ qGw := List.mem_filter.mpr ⟨List.mem_of_getElem? h, hg⟩
theorem qNw_in {w : Cond} (i : Nat) (h : tables_1[i]? = some w) (hg : qNe w = true) : w ∈ qNw := List.mem_filter.mpr ⟨List.mem_of_getElem? h, hg⟩
-- methods
abbrev qj : Type := MethodName × ByteArray × Nat × Option FieldType
def qRm (d : Nat) : Room := { frames := d, cells := 0, slots := 0, locals := 60 * d }
def qWs (j : qj) : List Cond := Cond.code j.1 j.2.1 j.2.2.1 j.2.2.2 :: qGw
def qQ (g : qG) (Q : Option qV → qM → Prop) : Array Value → State → Outcome → State → Prop := fun _ st o t =>
  (∃ (r : Option qV) (M : qM), o = .returned (r.map (qv g.2.2.2.2)) ∧ Q r M ∧ qP g M t.heap) ∧ va_F (qA g) st t
def qPc (g : qG) (av : List qV) (M : qM) : Array Value → State → Prop := va_Pc (av.map (qv g.2.2.2.2)) (fun U => qP g M U.heap ∧ qK g U)
def qOk (g : qG) (d : Nat) (j : qj) (av : List qV) (M : qM) (Q : Option qV → qM → Prop) : Prop :=
  Met g.1 j.1 (qWs j) (qRm d) (qPc g av M) (qQ g Q) 0 0 (qA g)
def qI (K : Int → qM → Prop) : Option qV → qM → Prop := fun r M => ∃ x, r = some (.inl x) ∧ qR x ∧ K x M
def qN (K : qM → Prop) : Option qV → qM → Prop := fun r M => r = none ∧ K M
-- the frame that runs
abbrev qX : Type := Program × Env × Room × State × MethodId × Array Value × List Frame × Method × Code × Nat × Nat × (State → Prop)
def qLr (ad : Nat → Nat) (ls : Array Slot) (loc : List (Option qV)) : Prop := ls.size = loc.length ∧ lv_wf ls ∧ ∀ (i : Nat) (v : qV), loc[i]? = some (some v) → ls[i]? = some (.val (qv ad v))
def qW (g : qG) (C : qX) (pc : Nat) (loc : List (Option qV)) (st : List qV) (M : qM) : Prop := match C with
  | (p, e, R, s, m, args, below, meth, c, cells, slots, Q) => ∀ (H : Heap) (locs : List Loc) (ls : Array Slot), qP g M H → va_S (qA g) s.heap H locs → qLr g.2.2.2.2 ls loc →
      W p g.1 e R s m args below meth c H locs cells slots Q (F0 m pc ls (st.map (qv g.2.2.2.2)))
def qCk (g : qG) (C : qX) (cc : ByteArray) (own : String) (nL d : Nat) : Prop := match C with
  | (p, _, R, s, m, args, _, _, c, cells, slots, _) => p.tables.exec = Jvm.exec ∧ c.code = cc ∧ c.maxLocals = nL ∧ s.vm.findClass own = some m.cls ∧ (∀ w ∈ qGw, w.before args s = true) ∧ qK g s ∧ d ≤ R.frames ∧ 60 * d ≤ R.locals ∧ cells ≤ R.cells ∧ slots ≤ R.slots
def qRt (g : qG) (C : qX) (ret : Option FieldType) (Q : Option qV → qM → Prop) : Prop := match C with
  | (_, _, _, s, _, args, below, meth, _, cells, slots, Qw) => meth.sig.returnType = ret ∧ meth.locks = false ∧ cells = 0 ∧ slots = 0 ∧ Qw = MQ below (qQ g Q) args s 0 0 (qA g)
theorem qW.rm {g : qG} {C : qX} {pc : Nat} {loc : List (Option qV)} {st : List qV} {M : qM} (h : qIn M → qW g C pc loc st M) : qW g C pc loc st M := by
  obtain ⟨p, e, R, s, m, args, below, meth, c, cells, slots, Q⟩ := C
  exact fun H locs ls hP hS hL => h hP.1 H locs ls hP hS hL
theorem qcat (ad : Nat → Nat) (v : qV) : (qv ad v).category = 1 := by cases v <;> rfl
theorem qsl (ad : Nat → Nat) : ∀ av : List qV, lg_sl (av.map (qv ad)) = av.map (fun v => Slot.val (qv ad v))
  | [] => rfl
  | v :: av => by
    have h1 : ¬ (qv ad v).category = 2 := by rw [qcat]; decide
    have h := qsl ad av
    unfold lg_sl at h ⊢
    rw [List.map_cons, List.flatMap_cons, h, if_neg h1]
    rfl
theorem qargs (ad : Nat → Nat) : ∀ (av : List qV) (i k : Nat) (v : qV), av[k]? = some v → (i + k, qv ad v) ∈ lv_args i (av.map (qv ad))
  | [], _, _, _, h => by simp at h
  | w :: av, i, 0, v, h => by
    have e : w = v := by simpa using h
    subst e
    unfold lv_args
    exact List.mem_cons_self
  | w :: av, i, k + 1, v, h => by
    have h1 : ¬ (qv ad w).category = 2 := by rw [qcat]; decide
    have h2 := qargs ad av (i + 1) k v (by simpa using h)
    rw [List.map_cons]
    unfold lv_args
    rw [if_neg h1]
    have e : i + (k + 1) = i + 1 + k := by omega
    rw [e]
    exact List.mem_cons_of_mem _ h2
/-- a contract out of a walk from the entry -/
theorem qOk.of {g : qG} {d : Nat} {j : qj} {av : List qV} {M : qM} {Q : Option qV → qM → Prop} (hy : plainName j.1.cls = true) (hn : av.length ≤ j.2.2.1)
    (h : ∀ C : qX, qCk g C j.2.1 j.1.cls j.2.2.1 d → qRt g C j.2.2.2 Q → qW g C 0 (av.map some ++ List.replicate (j.2.2.1 - av.length) none) [] M) : qOk g d j av M Q := by
  obtain ⟨y, cc, maxL, ret⟩ := j
  refine Met.ofW (cc := cc) (maxL := maxL) (ret := ret) (ws' := qGw) hy rfl ?_
  intro p e s m args below meth c s₁ B hml hv
  obtain ⟨rfl, hP, hK⟩ := hv
  have hts := atoms_spec (ws := qWs (y, cc, maxL, ret)) B.pre
  have hown : s.vm.findClass y.cls = some m.cls := findClass_of_methodNamed B.named
  have h1 := h (p, e, qRm d, s, m, (av.map (qv g.2.2.2.2)).toArray, below, meth, c, 0, 0, MQ below (qQ g Q) (av.map (qv g.2.2.2.2)).toArray s 0 0 (qA g))
    ⟨B.exec, B.bytes, hml, hown, fun w hw => hts w (List.mem_cons_of_mem _ hw), hK, Nat.le_refl _, Nat.le_refl _, Nat.le_refl _, Nat.le_refl _⟩ ⟨B.returns, B.notSynchronized, rfl, rfl, rfl⟩
  have hlen : (lg_sl (av.map (qv g.2.2.2.2))).length = av.length := by rw [qsl, List.length_map]
  have hl := lv_entry (av.map (qv g.2.2.2.2)) (n := maxL) (by rw [hlen]; exact hn)
  rw [lg_entry_eq]
  refine h1 s.heap [] _ hP va_S.rf ⟨?_, hl.2.1, fun i v hi => ?_⟩
  · rw [hl.1]
    simp only [List.length_append, List.length_map, List.length_replicate]
    have hn' : av.length ≤ maxL := hn
    omega
  · have hi' : av[i]? = some v := by
      rw [List.getElem?_append] at hi
      by_cases q : i < (av.map some).length
      · rw [if_pos q, List.getElem?_map] at hi
        cases hx : av[i]? with
        | none => rw [hx] at hi; cases hi
        | some w => rw [hx] at hi; cases hi; rfl
      · rw [if_neg q, List.getElem?_replicate] at hi
        by_cases z : i - (av.map some).length < maxL - av.length
        · rw [if_pos z] at hi; cases hi
        · rw [if_neg z] at hi; cases hi
    have h2 := qargs g.2.2.2.2 av 0 i v hi'
    have h3 := hl.2.2 _ h2
    simpa using h3
theorem qOk.rm {g : qG} {d : Nat} {j : qj} {av : List qV} {M : qM} {Q : Option qV → qM → Prop} (h : qIn M → qOk g d j av M Q) : qOk g d j av M Q := by
  intro p e h1 h2 h3 s m args below h4 h5 h6 h7
  exact h h6.2.1.1 p e h1 h2 h3 s m args below h4 h5 h6 h7
theorem qOk.mono {g : qG} {d : Nat} {j : qj} {av : List qV} {M : qM} {Q Q' : Option qV → qM → Prop} (h : qOk g d j av M Q) (hq : ∀ r M', qIn M' → Q r M' → Q' r M') : qOk g d j av M Q' := by
  intro p e h1 h2 h3 s m args below h4 h5 h6 h7
  obtain ⟨n, o, a1, a2, a3, ⟨⟨r, M', b1, b2, b3⟩, b4⟩, a5⟩ := h p e h1 h2 h3 s m args below h4 h5 h6 h7
  exact ⟨n, o, a1, a2, a3, ⟨⟨r, M', b1, hq r M' b3.1 b2, b3⟩, b4⟩, a5⟩
theorem qOk.monoI {g : qG} {d : Nat} {j : qj} {av : List qV} {M : qM} {K K' : Int → qM → Prop} (h : qOk g d j av M (qI K)) (hq : ∀ x M', qR x → qIn M' → K x M' → K' x M') : qOk g d j av M (qI K') :=
  h.mono (fun r M' hM ⟨x, e, hx, hk⟩ => ⟨x, e, hx, hq x M' hx hM hk⟩)
theorem qOk.monoN {g : qG} {d : Nat} {j : qj} {av : List qV} {M : qM} {K K' : qM → Prop} (h : qOk g d j av M (qN K)) (hq : ∀ M', qIn M' → K M' → K' M') : qOk g d j av M (qN K') :=
  h.mono (fun r M' hM ⟨e, hk⟩ => ⟨e, hq M' hM hk⟩)
