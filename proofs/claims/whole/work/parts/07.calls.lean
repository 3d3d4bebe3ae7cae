/-! CALLS -/
def qMd (j : qj) (n : Nat) : Prop := Cond.code j.1 j.2.1 j.2.2.1 j.2.2.2 ∈ qGw ∧ Cond.initialized j.1.cls ∈ qGw ∧ (j.1.cls ≠ "java/lang/invoke/MethodHandle" ∧ j.1.cls ≠ "java/lang/invoke/VarHandle") ∧ (parseMethodDescriptor j.1.desc).map (fun d => d.parameters.length) = some n ∧ j.2.2.1 ≤ 21
def qMv (j : qj) : Prop := Cond.instanceMethod j.1 ∈ qGw ∧ Cond.selects j.1.cls j.1 j.1 ∈ qGw
def qMs (j : qj) : Prop := Cond.static j.1 ∈ qGw
def qMl (own : String) (idx : Nat) (j : qj) : Prop := Cond.methodLink own idx j.1 ∈ qGw ∨ ∃ host, Cond.methodLinkNest own idx j.1 host ∈ qNw
theorem qGood {j : qj} (h : Cond.code j.1 j.2.1 j.2.2.1 j.2.2.2 ∈ qGw) : GoodIn qGw (qWs j) := by
  intro w hw
  have h1 : w ∈ qGw := by
    rcases List.mem_cons.mp hw with e | e
    · rw [e]; exact h
    · exact e
  exact ⟨h1, good_of_word (List.mem_filter.mp h1).2⟩
theorem qsum (ad : Nat → Nat) : ∀ st : List qV, ((st.map (qv ad)).map fun v => v.category).sum = st.length
  | [] => rfl
  | v :: st => by
    rw [List.map_cons, List.map_cons, List.sum_cons, qsum ad st, qcat, List.length_cons]
    omega
section CALLR
variable {g : qG} {C : qX} {cc : ByteArray} {own : String} {nL d : Nat} {pc q : Nat} {loc loc' : List (Option qV)} {st stk : List qV} {M : qM}
/-- a call that has run: what the contract says -/
theorem q_use {p : Program} {e : Env} {R : Room} {s : State} {m : MethodId} {args : Array Value} {below : List Frame} {meth : Method} {c : Code} {H : Heap} {locs : List Loc} {cells slots : Nat} {Qw : State → Prop} {ls : Array Slot} {rest st0 : List Value} {a : Array Value} {Q : Option qV → qM → Prop}
    (hr : va_Run p g.1 e R s m args below meth c H locs cells slots 0 0 (F0 m pc ls st0) rest (qQ g Q a) (qA g)) (hS : va_S (qA g) s.heap H locs)
    (kk : ∀ (r : Option qV) (M1 : qM) (H1 : Heap) (locs1 : List Loc), Q r M1 → qP g M1 H1 → va_S (qA g) s.heap H1 locs1 → W p g.1 e R s m args below meth c H1 locs1 cells slots Qw (F0 m (pc + 3) ls ((r.map (qv g.2.2.2.2)).toList ++ rest))) : W p g.1 e R s m args below meth c H locs cells slots Qw (F0 m pc ls st0) := by
  intro T hT X
  obtain ⟨v, st₀, t, T', L, h0, X', hL, e1, e2, ⟨⟨r, M1, hv, hq, hp⟩, hz, hk⟩, stp⟩ := hr T hT X
  cases hv
  rw [h0] at hz hk
  obtain ⟨t2, a1, b1⟩ := kk r M1 T'.heap (locs ++ L) hq (by rw [e1]; exact hp)
    ⟨Nat.le_trans hS.1 (by rw [e1]; exact hz), fun q h1 h2 => by rw [e1, hk q (Nat.lt_of_lt_of_le h1 hS.1) h2]; exact hS.2.1 q h1 h2, fun q hq => by
      rcases List.mem_append.mp hq with h | h
      · exact hS.2.2 q h
      · exact hL q h⟩ T' rfl X'
  exact ⟨t2, stp t2 a1, b1⟩
theorem q_fb {av : List qV} : FrameBlind (qPc g av M) := fun _ _ _ _ h => ⟨h.1, h.2.1, h.2.2.call⟩
theorem q_callb (hC : qCk g C cc own nL (d + 1)) {j : qj} {n : Nat} (hj : qMd j n) : match C with
  | (_, _, R, s, _, args, _, _, _, _, _, _) => (qRm d).cells = 0 ∧ (qRm d).slots = 0 ∧ (qRm d).frames + 1 ≤ R.frames ∧ 8 + (j.2.2.1 + 11) + (qRm d).locals ≤ R.locals ∧ (∀ w ∈ qWs j, ∀ (a' : Array Value) (U : State), s.WarmedH U.vm → w.before a' U = true) ∧ Cond.code j.1 j.2.1 j.2.2.1 j.2.2.2 ∈ qWs j ∧
    (Cond.code j.1 j.2.1 j.2.2.1 j.2.2.2).before args s = true ∧ (Cond.initialized j.1.cls).before args s = true ∧ (∀ sig, parseMethodDescriptor j.1.desc = some sig → n = sig.parameters.length) := by
  obtain ⟨p, e, R, s, m, args, below, meth, c, cells, slots, Q⟩ := C
  obtain ⟨hx, hb, hml, hown, hts, hK, hf, hl, -⟩ := hC
  obtain ⟨h1, h2, h3, h4, h5⟩ := hj
  refine ⟨rfl, rfl, hf, ?_, pay_in hts (qGood h1), List.mem_cons_self, hts _ h1, hts _ h2, fun sig h => ?_⟩
  · show 8 + (j.2.2.1 + 11) + 60 * d ≤ R.locals
    omega
  · rw [h] at h4
    exact (Option.some.inj h4).symm
theorem q_callV (hC : qCk g C cc own nL (d + 1)) {j : qj} {idx ci k : Nat} {fs : List (Option Nat)} {As : List qV} {Q : Option qV → qM → Prop} (hj : qMd j As.length) (hv : qMv j) (hl : qMl own idx j) (hk : qLs[k]? = some (.inl (ci, fs))) (hci : (vwCl[ci]?).map (·.1) = some j.1.cls) (hd : decode cc pc = .ok (.invokevirtual idx, 3)) (hs : stk = As.reverse ++ .inr k :: st) (hr : st.length ≤ 8) (hn : loc.length = nL)
    (h : qOk g d j (.inr k :: As) M Q) (kk : ∀ (r : Option qV) (M1 : qM), qIn M1 → Q r M1 → qW g C (pc + 3) loc (r.toList ++ st) M1) : qW g C pc loc stk M := by
  have hb := q_callb hC hj
  obtain ⟨p, e, R, s, m, args, below, meth, c, cells, slots, Qw⟩ := C
  subst hs
  intro H locs ls hP hS hL
  obtain ⟨hx, hbc, hml, hown, hts, hK, hf1, hf2, hf3, hf4⟩ := hC
  obtain ⟨b1, b2, b3, b4, b5, b6, b7, b8, b9⟩ := hb
  obtain ⟨qc0, hq0, hq1⟩ : ∃ qc0, vwCl[ci]? = some qc0 ∧ qc0.1 = j.1.cls := by
    cases hz : vwCl[ci]? with
    | none => rw [hz] at hci; cases hci
    | some z => rw [hz] at hci; exact ⟨z, rfl, Option.some.inj hci⟩
  have hrec := va_recv hK.1 hP.2 hq0 (qC_at (g := g) (M := M) hk)
  rw [hq1] at hrec
  have hpre : PreV s H j.1.cls (g.2.2.2.2 k) (qPc g (.inr k :: As) M) (As.map (qv g.2.2.2.2)) := ⟨q_fb, hrec, fun U hU hW => ⟨rfl, by rw [hU]; exact hP, hK.warm hW⟩⟩
  have hst : (F0 m pc ls ((As.reverse ++ .inr k :: st).map (qv g.2.2.2.2))).stack = (As.map (qv g.2.2.2.2)).reverse ++ .ref (g.2.2.2.2 k) :: st.map (qv g.2.2.2.2) := by
    show (As.reverse ++ .inr k :: st).map (qv g.2.2.2.2) = _
    rw [List.map_append, List.map_reverse]
    rfl
  have hrm : 2 * (F0 m pc ls ((As.reverse ++ .inr k :: st).map (qv g.2.2.2.2))).monitorRoom + ((st.map (qv g.2.2.2.2)).map fun v => v.category).sum ≤ 8 := lv_room (by rw [qsum]; exact hr)
  have hsz : (F0 m pc ls ((As.reverse ++ .inr k :: st).map (qv g.2.2.2.2))).locals.size = nL := by show ls.size = nL; rw [hL.1]; exact hn
  have hrun : va_Run p g.1 e R s m args below meth c H locs cells slots 0 0 (F0 m pc ls ((As.reverse ++ .inr k :: st).map (qv g.2.2.2.2))) (st.map (qv g.2.2.2.2)) (qQ g Q (Value.ref (g.2.2.2.2 k) :: As.map (qv g.2.2.2.2)).toArray) (qA g) := by
    rcases hl with hl | ⟨host, hl⟩
    · exact va_runV (n := As.length) ⟨hx, hbc, hml, hown, hts⟩ h ⟨⟨b1, b2, b3, b4, b5, b6, b7, b8, hj.2.2.1, b9, hts _ hl⟩, hts _ hv.1, hts _ hv.2⟩ hpre rfl (List.length_map _) hsz hst hrm hd ⟨hf3, hf4⟩
    · exact va_runVN (n := As.length) (host := host) ⟨hx, hbc, hml, hown, hts⟩ h ⟨⟨⟨b1, b2, b3, b4, b5, b6⟩, b7, b8, hj.2.2.1, b9, va_Nw.use rfl (hK.2.1 _ hl)⟩, hts _ hv.1, hts _ hv.2⟩ hpre rfl (List.length_map _) hsz hst hrm hd ⟨hf3, hf4⟩
  refine q_use hrun hS (fun r M1 H1 locs1 a1 a2 a3 => ?_)
  have := kk r M1 a2.1 a1 H1 locs1 ls a2 a3 hL
  rw [List.map_append] at this
  cases r <;> exact this
theorem q_callS (hC : qCk g C cc own nL (d + 1)) {j : qj} {idx : Nat} {As : List qV} {Q : Option qV → qM → Prop} (hj : qMd j As.length) (hv : qMs j) (hl : qMl own idx j) (hd : decode cc pc = .ok (.invokestatic idx, 3)) (hs : stk = As.reverse ++ st) (hr : st.length ≤ 8) (hn : loc.length = nL)
    (h : qOk g d j As M Q) (kk : ∀ (r : Option qV) (M1 : qM), qIn M1 → Q r M1 → qW g C (pc + 3) loc (r.toList ++ st) M1) : qW g C pc loc stk M := by
  have hb := q_callb hC hj
  obtain ⟨p, e, R, s, m, args, below, meth, c, cells, slots, Qw⟩ := C
  subst hs
  intro H locs ls hP hS hL
  obtain ⟨hx, hbc, hml, hown, hts, hK, hf1, hf2, hf3, hf4⟩ := hC
  obtain ⟨b1, b2, b3, b4, b5, b6, b7, b8, b9⟩ := hb
  have hpre : PreS s H (qPc g As M) (As.map (qv g.2.2.2.2)) := ⟨q_fb, fun U hU hW => ⟨rfl, by rw [hU]; exact hP, hK.warm hW⟩⟩
  have hst : (F0 m pc ls ((As.reverse ++ st).map (qv g.2.2.2.2))).stack = (As.map (qv g.2.2.2.2)).reverse ++ st.map (qv g.2.2.2.2) := by
    show (As.reverse ++ st).map (qv g.2.2.2.2) = _
    rw [List.map_append, List.map_reverse]
  have hrm : 2 * (F0 m pc ls ((As.reverse ++ st).map (qv g.2.2.2.2))).monitorRoom + ((st.map (qv g.2.2.2.2)).map fun v => v.category).sum ≤ 8 := lv_room (by rw [qsum]; exact hr)
  have hsz : (F0 m pc ls ((As.reverse ++ st).map (qv g.2.2.2.2))).locals.size = nL := by show ls.size = nL; rw [hL.1]; exact hn
  have hrun : va_Run p g.1 e R s m args below meth c H locs cells slots 0 0 (F0 m pc ls ((As.reverse ++ st).map (qv g.2.2.2.2))) (st.map (qv g.2.2.2.2)) (qQ g Q (As.map (qv g.2.2.2.2)).toArray) (qA g) := by
    rcases hl with hl | ⟨host, hl⟩
    · exact va_runS (n := As.length) ⟨hx, hbc, hml, hown, hts⟩ h ⟨⟨b1, b2, b3, b4, b5, b6, b7, b8, hj.2.2.1, b9, hts _ hl⟩, hts _ hv⟩ hpre rfl (List.length_map _) hsz hst hrm hd ⟨hf3, hf4⟩
    · exact va_runSN (n := As.length) (host := host) ⟨hx, hbc, hml, hown, hts⟩ h ⟨⟨⟨b1, b2, b3, b4, b5, b6⟩, b7, b8, hj.2.2.1, b9, va_Nw.use rfl (hK.2.1 _ hl)⟩, hts _ hv, trivial⟩ hpre rfl (List.length_map _) hsz hst hrm hd ⟨hf3, hf4⟩
  refine q_use hrun hS (fun r M1 H1 locs1 a1 a2 a3 => ?_)
  have := kk r M1 a2.1 a1 H1 locs1 ls a2 a3 hL
  rw [List.map_append] at this
  cases r <;> exact this
/-- the four that the walks use: by what comes back -/
theorem q_callVi (hC : qCk g C cc own nL (d + 1)) {j : qj} {idx ci k : Nat} {fs : List (Option Nat)} {As : List qV} {K : Int → qM → Prop} (hj : qMd j As.length) (hv : qMv j) (hl : qMl own idx j) (hk : qLs[k]? = some (.inl (ci, fs))) (hci : (vwCl[ci]?).map (·.1) = some j.1.cls) (hd : decode cc pc = .ok (.invokevirtual idx, 3)) (hs : stk = As.reverse ++ .inr k :: st) (hr : st.length ≤ 8) (hn : loc.length = nL) (hq : pc + 3 = q)
    (h : qOk g d j (.inr k :: As) M (qI K)) (kk : ∀ (x : Int) (M1 : qM), qIn M1 → qR x → K x M1 → qW g C q loc (.inl x :: st) M1) : qW g C pc loc stk M := by
  subst hq
  exact q_callV hC hj hv hl hk hci hd hs hr hn h (fun r M1 hM ⟨x, e, hx, hk⟩ => by subst e; exact kk x M1 hM hx hk)
theorem q_callVv (hC : qCk g C cc own nL (d + 1)) {j : qj} {idx ci k : Nat} {fs : List (Option Nat)} {As : List qV} {K : qM → Prop} (hj : qMd j As.length) (hv : qMv j) (hl : qMl own idx j) (hk : qLs[k]? = some (.inl (ci, fs))) (hci : (vwCl[ci]?).map (·.1) = some j.1.cls) (hd : decode cc pc = .ok (.invokevirtual idx, 3)) (hs : stk = As.reverse ++ .inr k :: st) (hr : st.length ≤ 8) (hn : loc.length = nL) (hq : pc + 3 = q)
    (h : qOk g d j (.inr k :: As) M (qN K)) (kk : ∀ (M1 : qM), qIn M1 → K M1 → qW g C q loc st M1) : qW g C pc loc stk M := by
  subst hq
  exact q_callV hC hj hv hl hk hci hd hs hr hn h (fun r M1 hM ⟨e, hk⟩ => by subst e; exact kk M1 hM hk)
theorem q_callSi (hC : qCk g C cc own nL (d + 1)) {j : qj} {idx : Nat} {As : List qV} {K : Int → qM → Prop} (hj : qMd j As.length) (hv : qMs j) (hl : qMl own idx j) (hd : decode cc pc = .ok (.invokestatic idx, 3)) (hs : stk = As.reverse ++ st) (hr : st.length ≤ 8) (hn : loc.length = nL) (hq : pc + 3 = q)
    (h : qOk g d j As M (qI K)) (kk : ∀ (x : Int) (M1 : qM), qIn M1 → qR x → K x M1 → qW g C q loc (.inl x :: st) M1) : qW g C pc loc stk M := by
  subst hq
  exact q_callS hC hj hv hl hd hs hr hn h (fun r M1 hM ⟨x, e, hx, hk⟩ => by subst e; exact kk x M1 hM hx hk)
theorem q_callSv (hC : qCk g C cc own nL (d + 1)) {j : qj} {idx : Nat} {As : List qV} {K : qM → Prop} (hj : qMd j As.length) (hv : qMs j) (hl : qMl own idx j) (hd : decode cc pc = .ok (.invokestatic idx, 3)) (hs : stk = As.reverse ++ st) (hr : st.length ≤ 8) (hn : loc.length = nL) (hq : pc + 3 = q)
    (h : qOk g d j As M (qN K)) (kk : ∀ (M1 : qM), qIn M1 → K M1 → qW g C q loc st M1) : qW g C pc loc stk M := by
  subst hq
  exact q_callS hC hj hv hl hd hs hr hn h (fun r M1 hM ⟨e, hk⟩ => by subst e; exact kk M1 hM hk)
-- the JDK's
theorem q_mmax (hC : qCk g C cc own nL (d + 1)) {idx : Nat} {x y : Int} (hl : Cond.methodLink own idx Lib.Math.max.name ∈ qGw) (hm : Cond.static Lib.Math.max.name ∈ qGw ∧ Cond.initialized "java/lang/Math" ∈ qGw ∧ Cond.code Lib.Math.max.name Lib.Math.max.code 2 (some .int) ∈ qGw) (hd : decode cc pc = .ok (.invokestatic idx, 3)) (hr : st.length ≤ 8) (hn : loc.length = nL) (hq : pc + 3 = q) (hx : qR x) (hy : qR y)
    (kk : qW g C q loc (.inl (max x y) :: st) M) : qW g C pc loc (.inl y :: .inl x :: st) M := by
  obtain ⟨p, e, R, s, m, args, below, meth, c, cells, slots, Qw⟩ := C
  subst hq
  intro H locs ls hP hS hL
  obtain ⟨hxx, hbc, hml, hown, hts, hK, hf1, hf2, hf3, hf4⟩ := hC
  refine va_mmax hxx hbc (by rw [hml, hL.1, hn]) hown (hts _ hl) (hts _ hm.1) (hts _ hm.2.1) (hts _ hm.2.2) (by omega) (by rw [qsum]; omega) hf3 hf4 hd ?_
  have e1 : (if Int32.ofInt x < Int32.ofInt y then Int32.ofInt y else Int32.ofInt x) = Int32.ofInt (max x y) := by
    by_cases h : x < y
    · rw [if_pos ((q_lt hx hy).mpr h), Int.max_eq_right (by omega)]
    · rw [if_neg (fun z => h ((q_lt hx hy).mp z)), Int.max_eq_left (by omega)]
  rw [e1]
  exact kk H locs ls hP hS hL
theorem q_mmin (hC : qCk g C cc own nL (d + 1)) {idx : Nat} {x y : Int} (hl : Cond.methodLink own idx Lib.Math.min.name ∈ qGw) (hm : Cond.static Lib.Math.min.name ∈ qGw ∧ Cond.initialized "java/lang/Math" ∈ qGw ∧ Cond.code Lib.Math.min.name Lib.Math.min.code 2 (some .int) ∈ qGw) (hd : decode cc pc = .ok (.invokestatic idx, 3)) (hr : st.length ≤ 8) (hn : loc.length = nL) (hq : pc + 3 = q) (hx : qR x) (hy : qR y)
    (kk : qW g C q loc (.inl (min x y) :: st) M) : qW g C pc loc (.inl y :: .inl x :: st) M := by
  obtain ⟨p, e, R, s, m, args, below, meth, c, cells, slots, Qw⟩ := C
  subst hq
  intro H locs ls hP hS hL
  obtain ⟨hxx, hbc, hml, hown, hts, hK, hf1, hf2, hf3, hf4⟩ := hC
  refine va_mmin hxx hbc (by rw [hml, hL.1, hn]) hown (hts _ hl) (hts _ hm.1) (hts _ hm.2.1) (hts _ hm.2.2) (by omega) (by rw [qsum]; omega) hf3 hf4 hd ?_
  have e1 : (if Int32.ofInt y < Int32.ofInt x then Int32.ofInt y else Int32.ofInt x) = Int32.ofInt (min x y) := by
    by_cases h : y < x
    · rw [if_pos ((q_lt hy hx).mpr h), Int.min_eq_right (by omega)]
    · rw [if_neg (fun z => h ((q_lt hy hx).mp z)), Int.min_eq_left (by omega)]
  rw [e1]
  exact kk H locs ls hP hS hL
/-- the memory behind a copy of n places of cell a to cell b -/
def qCp (M : qM) (a b : Nat) (n : Int) : qM := fun k j => if k = b ∧ 0 ≤ j ∧ j < n then M a j else M k j
theorem qCp_in {a b : Nat} {n : Int} (h : qIn M) : qIn (qCp M a b n) := by
  intro k j
  unfold qCp
  by_cases z : k = b ∧ 0 ≤ j ∧ j < n
  · rw [if_pos z]; exact h _ _
  · rw [if_neg z]; exact h _ _
theorem q_copy (hC : qCk g C cc own nL (d + 1)) {idx k0 k1 n0 n1 : Nat} {b : Bool} {n : Int} (hk0 : qLs[k0]? = some (.inr (b, n0))) (hk1 : qLs[k1]? = some (.inr (b, n1))) (hl : Cond.methodLink own idx arraycopyName ∈ qGw) (hm : Cond.native arraycopyName ∈ qGw ∧ Cond.static arraycopyName ∈ qGw ∧ Cond.initialized "java/lang/System" ∈ qGw) (hd : decode cc pc = .ok (.invokestatic idx, 3)) (hr : st.length ≤ 8) (hn : loc.length = nL) (hq : pc + 3 = q)
    (h0 : 0 ≤ n) (h1 : n ≤ n0) (h2 : n ≤ n1) (hz : b = true → ∀ j, 0 ≤ j → j < n → M k0 j = 0 ∨ M k0 j = 1)
    (kk : qW g C q loc st (qCp M k0 k1 n)) : qW g C pc loc (.inl n :: .inl 0 :: .inr k1 :: .inl 0 :: .inr k0 :: st) M := by
  obtain ⟨p, e, R, s, m, args, below, meth, c, cells, slots, Qw⟩ := C
  subst hq
  intro H locs ls hP hS hL
  obtain ⟨hxx, hbc, hml, hown, hts, hK, hf1, hf2, hf3, hf4⟩ := hC
  have hs0 := qLs_sz hk0
  have ec : (Int32.ofInt n).toNatClampNeg = n.toNat := q_cl h0 (by omega)
  have e0 : (Int32.ofInt 0).toNatClampNeg = 0 := by decide
  have hn0 : ¬ Int32.ofInt n < 0 := by rw [q_0, q_lt ⟨by omega, by omega⟩ q_r0]; omega
  have ht : (qTy g)[if b = true then 1 else 0]? = some (if b = true then g.2.2.2.1 else g.2.2.1, if b = true then FieldType.boolean else FieldType.int) := by cases b <;> rfl
  refine va_copyi (n := Int32.ofInt n) (sp := Int32.ofInt 0) (dp := Int32.ofInt 0) hxx hbc (by rw [hml, hL.1, hn]) hown (hts _ hl) (hts _ hm.1) (hts _ hm.2.1) (hts _ hm.2.2) hK.1 hP.2 (qD hK.2.2 M) hS k0 k1 _ _ (qC_at (g := g) (M := M) hk0) (qC_at (g := g) (M := M) hk1) ht ht (by cases b <;> rfl) (by decide) (by decide) hn0 (by rw [ec, e0]; omega) (by rw [ec, e0]; omega) ?_ (by omega) (by rw [qsum]; show _ + (5 + 2 + 11) ≤ _; omega) hd (fun H1 locs1 a1 _ a3 => ?_)
  · intro i hi
    rw [ec] at hi
    cases b with
    | false => rfl
    | true =>
      refine q_fz ?_
      rw [e0]
      exact hz rfl _ (by omega) (by omega)
  · rw [ec, e0] at a1
    have e1 : (g.2.2.2.2 k1, (Sum.inl (if b = true then g.2.2.2.1 else g.2.2.1, n1, Sum.inl (va_cpy (fun j : Nat => Int32.ofInt (M k0 j)) (fun j : Nat => Int32.ofInt (M k1 j)) 0 0 n.toNat)) : va_E)) = qc g (qCp M k0 k1 n) k1 (.inr (b, n1)) := by
      unfold qc
      show (_, Sum.inl (_, _, Sum.inl _)) = (_, Sum.inl (_, _, Sum.inl _))
      congr 5
      funext j
      unfold va_cpy qCp
      by_cases z : j < n.toNat
      · rw [if_pos ⟨Nat.zero_le _, by omega⟩, if_pos ⟨rfl, by omega, by omega⟩]
        congr 2
        omega
      · rw [if_neg (by omega), if_neg (by omega)]
    have a2 : va_P g.2.1 vwCl ((qC g M).set k1 (qc g (qCp M k0 k1 n) k1 (.inr (b, n1)))) H1 := by rw [← e1]; exact a1
    rw [qC_sets hk1 (fun a j h => by unfold qCp; rw [if_neg (fun z => h z.1)])] at a2
    exact kk H1 locs1 ls ⟨qCp_in hP.1, a2⟩ a3 hL
-- switches
theorem q_tabIn (hC : qCk g C cc own nL d) {dflt lo hi off x v : Int} {offs : Array Int} {len t : Nat} (hd : decode cc pc = .ok (.tableswitch dflt lo hi offs, len)) (hx : qR x) (hv : x = v) (h1 : lo ≤ v ∧ v ≤ hi) (ho : offs[(v - lo).toNat]? = some off) (ht : (pc : Int) + off = (t : Int)) (kk : qW g C t loc st M) : qW g C pc loc (.inl x :: st) M := by
  obtain ⟨p, e, R, s, m, args, below, meth, c, cells, slots, Q⟩ := C
  subst hv
  intro H locs ls hP hS hL
  exact lv_tableIn hC.1 hC.2.1 hd (by rw [q_ti hx]; omega) (by rw [q_ti hx]; omega) (by rw [q_ti hx]; exact ho) ht (kk H locs ls hP hS hL)
theorem q_tabOut (hC : qCk g C cc own nL d) {dflt lo hi x : Int} {offs : Array Int} {len t : Nat} (hd : decode cc pc = .ok (.tableswitch dflt lo hi offs, len)) (hx : qR x) (h1 : x < lo ∨ hi < x) (ht : (pc : Int) + dflt = (t : Int)) (kk : qW g C t loc st M) : qW g C pc loc (.inl x :: st) M := by
  obtain ⟨p, e, R, s, m, args, below, meth, c, cells, slots, Q⟩ := C
  intro H locs ls hP hS hL
  exact lv_tableOut hC.1 hC.2.1 hd (by rw [q_ti hx]; exact h1) ht (kk H locs ls hP hS hL)
theorem q_look (hC : qCk g C cc own nL d) {dflt off x : Int} {ps : Array (Int × Int)} {len t : Nat} (hd : decode cc pc = .ok (.lookupswitch dflt ps, len)) (hx : qR x) (hp : (ps.toList.zip (ps.toList.drop 1)).all (fun (a, next) => a.1 < next.1) = true) (ho : Op.lookupswitch.offset ps.toList dflt x = off) (ht : (pc : Int) + off = (t : Int)) (kk : qW g C t loc st M) : qW g C pc loc (.inl x :: st) M := by
  obtain ⟨p, e, R, s, m, args, below, meth, c, cells, slots, Q⟩ := C
  intro H locs ls hP hS hL
  exact lv_lookup hC.1 hC.2.1 hd hp (by rw [q_ti hx]; exact ho) ht (kk H locs ls hP hS hL)
-- the script
def qSc (g : qG) (C : qX) (L : Nat) (xs : Int → Int) : Prop := match C with
  | (_, _, _, s, _, _, _, _, _, _, _, _) => va_X (g.2.2.2.2 84) L (fun j => Int32.ofInt (xs j)) s s.heap ∧ g.2.2.2.2 84 < s.heap.size ∧ ¬ qA g (g.2.2.2.2 84)
theorem q_sld (hC : qCk g C cc own nL d) {L : Nat} {xs : Int → Int} {i : Int} (hX : qSc g C L xs) (hL0 : L ≤ 3072) (hd : decode cc pc = .ok (.iaload, 1)) (hq : pc + 1 = q) (hi : 0 ≤ i ∧ i < L)
    (kk : qW g C q loc (.inl (xs i) :: st) M) : qW g C pc loc (.inl i :: .inr 84 :: st) M := by
  obtain ⟨p, e, R, s, m, args, below, meth, c, cells, slots, Q⟩ := C
  subst hq
  intro H locs ls hP hS hL
  have hv : vp_in (Int32.ofInt i) L := by
    intro h
    rcases h with h | h
    · rw [q_0, q_lt ⟨by omega, by omega⟩ q_r0] at h; omega
    · rw [q_cl hi.1 (by omega)] at h; omega
  refine va_sld hC.1 hC.2.1 hX.1 hX.2.1 hX.2.2 hS hv hd ?_
  have := kk H locs ls hP hS hL
  rw [q_cl hi.1 (by omega)]
  show W p g.1 e R s m args below meth c H locs cells slots Q (F0 m (pc + 1) ls (.int (Int32.ofInt (xs (i.toNat : Nat))) :: st.map (qv g.2.2.2.2)))
  rw [q_tn hi.1]
  exact this
theorem q_slen (hC : qCk g C cc own nL d) {L : Nat} {xs : Int → Int} (hX : qSc g C L xs) (hd : decode cc pc = .ok (.arraylength, 1)) (hq : pc + 1 = q)
    (kk : qW g C q loc (.inl (L : Int) :: st) M) : qW g C pc loc (.inr 84 :: st) M := by
  obtain ⟨p, e, R, s, m, args, below, meth, c, cells, slots, Q⟩ := C
  subst hq
  intro H locs ls hP hS hL
  refine va_slen hC.1 hC.2.1 hX.1 hX.2.1 hX.2.2 hS hd ?_
  rw [← Int32.ofInt_eq_ofNat]
  exact kk H locs ls hP hS hL
end CALLR
