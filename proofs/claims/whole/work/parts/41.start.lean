/-! THE CLAIM OUT OF ONE WALK OF THE LAW'S BODY. Your part is whole_start (and what it stands on); all else here is the same for every law, but numbers. -/
def R_law : String := "CampBookLaw"
def lw_P (b : Addr) (xs : List Int32) (args : Array Value) (s : State) : Prop := args = #[.ref b] ∧ s.IntsAt b xs ∧ xs.length ≤ 3072 ∧ (Jvm.Cond.and given_1 narrow_1).before args s = true
def lw_Q (_ : Array Value) (s : State) (o : Outcome) (t : State) : Prop := o = .returned (some (.int 1)) ∧ Framed s o t [] 600000 7302250
def lw_Z (below : List Frame) (a : Array Value) (s : State) : State → Prop := fun t => ∃ o, t.status = .running ∧ Ended t below o ∧ lw_Q a s o t
/-- the law's own end, with 1 on the stack, nothing written that was there before, its room as the claim has it -/
theorem lw_ret {p : Program} {l : Launch} {e : Env} {s : State} {m : MethodId} {below : List Frame} {meth : Method} {c : Code} {b : Nat} (hx : p.tables.exec = Jvm.exec) (hb : c.code = code) (hr : meth.sig.returnType = ret) (hlocks : meth.locks = false) {pc : Nat} {H : Heap} {ls : Array Slot} (hdg : decode code pc = .ok (.ireturn, 1)) : W p l e room_1 s m #[Value.ref b] below meth c H [] 600000 7302250 (lw_Z below #[Value.ref b] s) (F0 m pc ls [.int 1]) := by
  intro T hT X
  obtain ⟨fs, hret, hrun, hended, hW, hframe⟩ := X.leave (v := some (.int 1)) (hlocks := hlocks) (fun h => by rw [hr] at h; cases h)
  have hmeth' : T.vm.method? m = some meth := X.method'
  refine ⟨T.setFrames fs, ?_, .returned (some (.int 1)), hrun, hended, rfl, ⟨_, rfl⟩, hW, hframe⟩
  jvm_step X.here [X.here.top, hx, hb, hdg, hmeth', hr, ret, narrow_b1]
  (try refine ⟨rfl, ?_⟩); (try refine ⟨rfl, ?_⟩)
  first | (intro acts; rw [hret _ acts rfl rfl rfl]) | rw [hret _ _ rfl rfl rfl]
  exact Steps.refl _
/-- what holds at the law's entry: the machine, the code, the tables' words (any of lw_tbl by 'hts w (by decide +kernel)'), the script of L ints xs at the cell b, what the Statement gives of the start (any of its parts by flat_of_before) -/
def lw_At (p : Program) (s : State) (m : MethodId) (meth : Method) (c : Code) (b L : Nat) (xs : Nat → Int32) : Prop :=
  p.tables.exec = Jvm.exec ∧ c.code = code ∧ meth.sig.returnType = ret ∧ c.maxLocals = 4 ∧ s.vm.findClass R_law = some m.cls ∧ (∀ w ∈ lw_tbl, w.before #[Value.ref b] s = true) ∧ va_X b L xs s s.heap ∧ b < s.heap.size ∧ meth.locks = false ∧ (Jvm.Cond.and given_1 narrow_1).before #[Value.ref b] s = true
set_option maxHeartbeats 4000000 in
set_option maxRecDepth 100000 in
theorem law_on {p : Program} {e : Env} {s : State} {m : MethodId} {below : List Frame} {meth : Method} {c : Code} (l : Launch) {b L : Nat} {xs : Nat → Int32} (hL : L ≤ 3072) (hx : p.tables.exec = Jvm.exec) (hb : c.code = code) (hr : meth.sig.returnType = ret) (hml : c.maxLocals = 4) (hown : s.vm.findClass RL = some m.cls) (hts : ∀ w ∈ qGw, w.before #[Value.ref b] s = true) {D : va_G} {cI cZ : ClassId} (hT : va_K D vwCl [(cI, .int), (cZ, .boolean)] s) (hn : ∀ w ∈ qNw, va_Nw w s) (hX : va_X b L xs s s.heap) (hbl : b < s.heap.size) (hlocks : meth.locks = false)
    {ax am : Nat → Nat} {H : Heap} {locs : List Loc} {ls : Array Slot} (hP : va_P D vwCl (B_X7 (l, D, cI, cZ, fun _ => 0) ax ++ B_X8 (l, D, cI, cZ, fun _ => 0) am) H) (hD : va_D (fun q : Nat => s.heap.size ≤ q) (B_X7 (l, D, cI, cZ, fun _ => 0) ax ++ B_X8 (l, D, cI, cZ, fun _ => 0) am)) (hS : va_S (fun q : Nat => s.heap.size ≤ q) s.heap H locs)
    (hl : lv_has ls 4 [(3, .int (Int32.ofInt 0)), (2, .ref (am 0)), (1, .ref (ax 0)), (0, .ref b)]) : W p l e room_1 s m #[Value.ref b] below meth c H locs 84 2748 (lw_Z below #[Value.ref b] s) (F0 m 18 ls []) := by
  obtain ⟨hJ, hAd⟩ := qC_ad (b := b) hD
  refine va_forget (fun q hq => hS.2.2 q hq) ?_
  have hS0 : va_S (qA (l, D, cI, cZ, adL ax am b)) s.heap H [] := ⟨hS.1, fun q h1 _ => hS.2.1 q h1 (Nat.not_le.mpr h1), fun _ h => by cases h⟩
  have hE : ∀ (loc : List (Option qV)) (M : qM), qW (l, D, cI, cZ, adL ax am b) (p, e, room_1, s, m, #[Value.ref b], below, meth, c, 84, 2748, lw_Z below #[Value.ref b] s) 922 loc [.inl 1] M := by
    intro loc M H locs ls _ hS _
    refine va_forget (fun q hq => ?_) ?_
    · obtain ⟨k, hk, e⟩ := hS.2.2 q hq
      rw [e]
      exact hAd k hk
    · refine W.widen (k := 600000) (n := 7302250) (Nat.le_of_ble_eq_true rfl) (Nat.le_of_ble_eq_true rfl) ?_
      have e1 : Int32.ofInt 1 = 1 := by decide
      show W p l e room_1 s m #[Value.ref b] below meth c H [] 600000 7302250 (lw_Z below #[Value.ref b] s) (F0 m 922 ls [.int (Int32.ofInt 1)])
      rw [e1]
      exact lw_ret hx hb hr hlocks dL_law_922
  have ex : (fun j : Nat => Int32.ofInt ((fun j : Int => (xs j.toNat).toInt) (j : Int))) = xs := funext fun j => by
    show Int32.ofInt ((xs ((j : Int)).toNat).toInt) = xs j
    rw [Int.toNat_natCast, Int32.ofInt_toInt]
  have hC : qCk (l, D, cI, cZ, adL ax am b) (p, e, room_1, s, m, #[Value.ref b], below, meth, c, 84, 2748, lw_Z below #[Value.ref b] s) cL_law RL 4 (0 + 12) := ⟨hx, hb, hml, hown, hts, ⟨hT, hn, hJ⟩, Nat.le_of_ble_eq_true rfl, Nat.le_of_ble_eq_true rfl, Nat.le_of_ble_eq_true rfl, Nat.le_of_ble_eq_true rfl⟩
  have hSc : qSc (l, D, cI, cZ, adL ax am b) (p, e, room_1, s, m, #[Value.ref b], below, meth, c, 84, 2748, lw_Z below #[Value.ref b] s) L (fun j : Int => (xs j.toNat).toInt) := by
    refine ⟨?_, hbl, ?_⟩
    · show va_X b L (fun j : Nat => Int32.ofInt ((fun j : Int => (xs j.toNat).toInt) (j : Int))) s s.heap
      rw [ex]
      exact hX
    · intro ⟨k, hk, e⟩
      have e : b = adL ax am b k := e
      have h1 : s.heap.size ≤ adL ax am b k := hAd k hk
      rw [← e] at h1
      exact absurd hbl (Nat.not_lt.mpr h1)
  have key := law_loop hC hSc hL (fun j => qR_of _) hE (L + 7) 0 M0 (by decide) (by omega) (by omega) Rel_0
  refine key H [] ls ⟨M0_in, qC_P hP⟩ hS0 ⟨hl.1, hl.2.1, fun i v hv => ?_⟩
  have hi : i < 4 := (List.getElem?_eq_some_iff.mp hv).1
  rcases (show i = 0 ∨ i = 1 ∨ i = 2 ∨ i = 3 by omega) with rfl | rfl | rfl | rfl
  · cases hv; exact lv_at hl 3 rfl
  · cases hv; exact lv_at hl 2 rfl
  · cases hv; exact lv_at hl 1 rfl
  · cases hv; exact lv_at hl 0 rfl
set_option maxHeartbeats 4000000 in
set_option maxRecDepth 100000 in
theorem whole_start {p : Program} {e : Env} {s : State} {m : MethodId} {below : List Frame} {meth : Method} {c : Code} (l : Launch) {b L : Nat} {xs : Nat → Int32} (hL : L ≤ 3072) (C0 : lw_At p s m meth c b L xs) : W p l e room_1 s m #[Value.ref b] below meth c s.heap [] 0 0 (lw_Z below #[Value.ref b] s) (entryFrame m ([Value.ref b] : List Value).toArray 4) := by
  obtain ⟨hx, hb, hr, hml, hown, hts0, hX, hbl, hlocks, -⟩ := C0
  have hts : ∀ w ∈ qGw, w.before #[Value.ref b] s = true := fun w hw => hts0 w (List.mem_filter.mp hw).1
  have hown : s.vm.findClass RL = some m.cls := hown
  obtain ⟨c0, i0, k0⟩ := u_known (C := RX0) (T := TX0) (N := 4) (n := 4) hts ci_0 (hts (.instantiable RX0 4) (qGw_in 73 (by decide +kernel) (by decide +kernel)))
  obtain ⟨c1, i1, k1⟩ := u_known (C := RX1) (T := TX1) (N := 4) (n := 4) hts ci_1 (hts (.instantiable RX1 4) (qGw_in 210 (by decide +kernel) (by decide +kernel)))
  obtain ⟨c2, i2, k2⟩ := u_known (C := RX2) (T := TX2) (N := 2) (n := 2) hts ci_2 (hts (.instantiable RX2 2) (qGw_in 259 (by decide +kernel) (by decide +kernel)))
  obtain ⟨c3, i3, k3⟩ := u_known (C := RX3) (T := TX3) (N := 7) (n := 7) hts ci_3 (hts (.instantiable RX3 7) (qGw_in 79 (by decide +kernel) (by decide +kernel)))
  obtain ⟨c4, i4, k4⟩ := u_known (C := RX4) (T := TX4) (N := 10) (n := 10) hts ci_4 (hts (.instantiable RX4 10) (qGw_in 273 (by decide +kernel) (by decide +kernel)))
  obtain ⟨c5, i5, k5⟩ := u_known (C := RX5) (T := TX5) (N := 6) (n := 6) hts ci_5 (hts (.instantiable RX5 6) (qGw_in 172 (by decide +kernel) (by decide +kernel)))
  obtain ⟨c6, i6, k6⟩ := u_known (C := RX6) (T := TX6) (N := 9) (n := 9) hts ci_6 (hts (.instantiable RX6 9) (qGw_in 120 (by decide +kernel) (by decide +kernel)))
  obtain ⟨c7, i7, k7⟩ := u_known (C := RX7) (T := TX7) (N := 7) (n := 7) hts ci_7 (hts (.instantiable RX7 7) (qGw_in 65 (by decide +kernel) (by decide +kernel)))
  obtain ⟨c8, i8, k8⟩ := u_known (C := RX8) (T := TX8) (N := 25) (n := 25) hts ci_8 (hts (.instantiable RX8 25) (qGw_in 627 (by decide +kernel) (by decide +kernel)))
  obtain ⟨cI, kA, comp, f1, f2, f3⟩ := Cond.arrayClass_spec (hts (.arrayClass .int) (qGw_in 118 (by decide +kernel) (by decide +kernel)))
  obtain ⟨cZ, kA2, comp2, f4, f5, f6⟩ := Cond.arrayClass_spec (hts (.arrayClass .boolean) (qGw_in 208 (by decide +kernel) (by decide +kernel)))
  obtain ⟨D, hKc⟩ : ∃ D : va_G, ∀ (k : Nat) (q : vw_C), vwCl[k]? = some q → u_Kn s q.1 q.2.1 q.2.2 (D.1 k) (D.2 k) := by
    refine ⟨(fun k => if k = 0 then c0 else if k = 1 then c1 else if k = 2 then c2 else if k = 3 then c3 else if k = 4 then c4 else if k = 5 then c5 else if k = 6 then c6 else if k = 7 then c7 else c8, fun k => if k = 0 then i0 else if k = 1 then i1 else if k = 2 then i2 else if k = 3 then i3 else if k = 4 then i4 else if k = 5 then i5 else if k = 6 then i6 else if k = 7 then i7 else i8), ?_⟩
    intro k q hq
    match k, hq with
    | 0, hq => cases hq; exact k0
    | 1, hq => cases hq; exact k1
    | 2, hq => cases hq; exact k2
    | 3, hq => cases hq; exact k3
    | 4, hq => cases hq; exact k4
    | 5, hq => cases hq; exact k5
    | 6, hq => cases hq; exact k6
    | 7, hq => cases hq; exact k7
    | 8, hq => cases hq; exact k8
    | k + 9, hq => simp [vwCl] at hq
  have hn : ∀ w ∈ qNw, va_Nw w s := by
    intro w hw
    have h1 := hts0 w (List.mem_append_right _ (List.mem_filter.mp hw).1)
    have h2 : qNe w = true := (List.mem_filter.mp hw).2
    refine va_Nw.of ?_ h1
    cases w <;> first | rfl | cases h2
  have hT : va_K D vwCl [(cI, .int), (cZ, .boolean)] s := by
    refine ⟨hKc, fun k q hq => ?_⟩
    match k, hq with
    | 0, hq => cases hq; exact ⟨fun n z => ⟨fun k h => (by cases h), kA, f2, comp, f3⟩, f1⟩
    | 1, hq => cases hq; exact ⟨fun n z => ⟨fun k h => (by cases h), kA2, f5, comp2, f6⟩, f4⟩
    | k + 2, hq => simp at hq
  have hK : kK (l, D, cI, cZ, fun _ => 0) s := ⟨hT, hn⟩
  have hA : ∀ q : Nat, s.heap.size ≤ q → (fun q : Nat => s.heap.size ≤ q) q := fun _ h => h
  have hS : va_S (fun q : Nat => s.heap.size ≤ q) s.heap s.heap [] := va_S.rf
  have hP : va_P D vwCl [] s.heap := fun k q h => by simp at h
  have hD : va_D (fun q : Nat => s.heap.size ≤ q) [] := ⟨fun i j p q h => by simp at h, fun k q h => by simp at h⟩
  have hl := lv_entry ([.ref b]) (n := 4) (Nat.le_of_ble_eq_true rfl)
  rw [lg_entry_eq]
  generalize (lg_sl ([.ref b]) ++ List.replicate (4 - (lg_sl ([.ref b])).length) Slot.unset).toArray = ls at hl ⊢
  have hl : lv_has ls 4 [(0, .ref b)] := hl
  refine va_new (ci := 7) (fs := [.null, .null, .null, .null, .int (Int32.ofInt 0), .int (Int32.ofInt 0), .int (Int32.ofInt 0)]) (C := RX7) (T := TX7) (N := 7) hx hb hts ci_7 tyX7 tyX7_ok hown (hts (.classLink RL 7 RX7) (qGw_in 64 (by decide +kernel) (by decide +kernel))) (hts (.instantiable RX7 7) (qGw_in 65 (by decide +kernel) (by decide +kernel))) (hts (.initialized RX7) (qGw_in 52 (by decide +kernel) (by decide +kernel))) hT hP hD hS hA rfl (fun j hj => by rcases (show j = 0 ∨ j = 1 ∨ j = 2 ∨ j = 3 ∨ j = 4 ∨ j = 5 ∨ j = 6 by omega) with rfl | rfl | rfl | rfl | rfl | rfl | rfl <;> rfl) (Nat.le_of_ble_eq_true rfl) (Nat.le_of_ble_eq_true rfl) dL_law_0 (fun q0 H hP hD hS => ?_)
  have hP : va_P D vwCl [(q0, .inr (7, [.null, .null, .null, .null, .int (Int32.ofInt 0), .int (Int32.ofInt 0), .int (Int32.ofInt 0)]))] H := hP
  have hD : va_D (fun q : Nat => s.heap.size ≤ q) [(q0, .inr (7, [.null, .null, .null, .null, .int (Int32.ofInt 0), .int (Int32.ofInt 0), .int (Int32.ofInt 0)]))] := hD
  refine W.widen (k := 1) (n := 7) (Nat.le_of_ble_eq_true rfl) (Nat.le_of_ble_eq_true rfl) ?_
  refine lv_dup hx hb dL_law_3 rfl ?_
  refine k_init (g := (l, D, cI, cZ, fun _ => 0)) (wr := []) hx hb hml hown hts hK md_X7_init mi_X7_init rfl (Or.inl (qGw_in 66 (by decide +kernel) (by decide +kernel))) (c_X7_init _) (Nat.le_of_ble_eq_true rfl) (Nat.le_of_ble_eq_true rfl) (Nat.le_of_ble_eq_true rfl) (Nat.le_of_ble_eq_true rfl) hP hD hS hA [0] [] rfl rfl (by decide) (by decide) hl.1 (Nat.le_of_ble_eq_true rfl) dL_law_4 (fun ax H9 locs e9 hP9 hD9 hS9 => ?_)
  subst e9
  clear hP hD hS
  have hP : va_P D vwCl (B_X7 (l, D, cI, cZ, fun _ => 0) ax) H9 := hP9
  have hD : va_D (fun q : Nat => s.heap.size ≤ q) (B_X7 (l, D, cI, cZ, fun _ => 0) ax) := hD9
  have hS := hS9
  clear hP9 hD9 hS9
  generalize H9 = H at hP hS ⊢
  refine W.widen (k := 63) (n := 1471) (Nat.le_of_ble_eq_true rfl) (Nat.le_of_ble_eq_true rfl) ?_
  refine lv_astore_n (lv' := [(1, .ref (ax 0)), (0, .ref b)]) hx hb dL_law_7 rfl hl (by decide) rfl (fun ls hl => ?_)
  refine va_new (ci := 8) (fs := [.null, .null, .null, .null, .null, .null, .null, .null, .null, .null, .null, .null, .null, .int (Int32.ofInt 0), .int (Int32.ofInt 0), .null, .null, .null, .null, .null, .null, .null, .int (Int32.ofInt 0), .int (Int32.ofInt 0), .int (Int32.ofInt 0)]) (C := RX8) (T := TX8) (N := 25) hx hb hts ci_8 tyX8 tyX8_ok hown (hts (.classLink RL 10 RX8) (qGw_in 626 (by decide +kernel) (by decide +kernel))) (hts (.instantiable RX8 25) (qGw_in 627 (by decide +kernel) (by decide +kernel))) (hts (.initialized RX8) (qGw_in 61 (by decide +kernel) (by decide +kernel))) hT hP hD hS hA rfl (fun j hj => by rcases (show j = 0 ∨ j = 1 ∨ j = 2 ∨ j = 3 ∨ j = 4 ∨ j = 5 ∨ j = 6 ∨ j = 7 ∨ j = 8 ∨ j = 9 ∨ j = 10 ∨ j = 11 ∨ j = 12 ∨ j = 13 ∨ j = 14 ∨ j = 15 ∨ j = 16 ∨ j = 17 ∨ j = 18 ∨ j = 19 ∨ j = 20 ∨ j = 21 ∨ j = 22 ∨ j = 23 ∨ j = 24 by omega) with rfl | rfl | rfl | rfl | rfl | rfl | rfl | rfl | rfl | rfl | rfl | rfl | rfl | rfl | rfl | rfl | rfl | rfl | rfl | rfl | rfl | rfl | rfl | rfl | rfl <;> rfl) (Nat.le_of_ble_eq_true rfl) (Nat.le_of_ble_eq_true rfl) dL_law_8 (fun q8 H hP hD hS => ?_)
  have hP : va_P D vwCl (B_X7 (l, D, cI, cZ, fun _ => 0) ax ++ [(q8, .inr (8, [.null, .null, .null, .null, .null, .null, .null, .null, .null, .null, .null, .null, .null, .int (Int32.ofInt 0), .int (Int32.ofInt 0), .null, .null, .null, .null, .null, .null, .null, .int (Int32.ofInt 0), .int (Int32.ofInt 0), .int (Int32.ofInt 0)]))]) H := hP
  have hD : va_D (fun q : Nat => s.heap.size ≤ q) (B_X7 (l, D, cI, cZ, fun _ => 0) ax ++ [(q8, .inr (8, [.null, .null, .null, .null, .null, .null, .null, .null, .null, .null, .null, .null, .null, .int (Int32.ofInt 0), .int (Int32.ofInt 0), .null, .null, .null, .null, .null, .null, .null, .int (Int32.ofInt 0), .int (Int32.ofInt 0), .int (Int32.ofInt 0)]))]) := hD
  refine W.widen (k := 64) (n := 1496) (Nat.le_of_ble_eq_true rfl) (Nat.le_of_ble_eq_true rfl) ?_
  refine lv_dup hx hb dL_law_11 rfl ?_
  refine k_init (g := (l, D, cI, cZ, fun _ => 0)) (wr := B_X7 (l, D, cI, cZ, fun _ => 0) ax) hx hb hml hown hts hK md_X8_init mi_X8_init rfl (Or.inl (qGw_in 628 (by decide +kernel) (by decide +kernel))) (c_X8_init _) (Nat.le_of_ble_eq_true rfl) (Nat.le_of_ble_eq_true rfl) (Nat.le_of_ble_eq_true rfl) (Nat.le_of_ble_eq_true rfl) hP hD hS hA [63] [0, 1, 2, 3, 4, 5, 6, 7, 8, 9, 10, 11, 12, 13, 14, 15, 16, 17, 18, 19, 20, 21, 22, 23, 24, 25, 26, 27, 28, 29, 30, 31, 32, 33, 34, 35, 36, 37, 38, 39, 40, 41, 42, 43, 44, 45, 46, 47, 48, 49, 50, 51, 52, 53, 54, 55, 56, 57, 58, 59, 60, 61, 62] rfl rfl (by decide) (by decide) hl.1 (Nat.le_of_ble_eq_true rfl) dL_law_12 (fun am H9 locs e9 hP9 hD9 hS9 => ?_)
  subst e9
  clear hP hD hS
  have hP : va_P D vwCl (B_X7 (l, D, cI, cZ, fun _ => 0) ax ++ B_X8 (l, D, cI, cZ, fun _ => 0) am) H9 := hP9
  have hD : va_D (fun q : Nat => s.heap.size ≤ q) (B_X7 (l, D, cI, cZ, fun _ => 0) ax ++ B_X8 (l, D, cI, cZ, fun _ => 0) am) := hD9
  have hS := hS9
  clear hP9 hD9 hS9
  generalize H9 = H at hP hS ⊢
  refine W.widen (k := 84) (n := 2748) (Nat.le_of_ble_eq_true rfl) (Nat.le_of_ble_eq_true rfl) ?_
  refine lv_astore_n (lv' := [(2, .ref (am 0)), (1, .ref (ax 0)), (0, .ref b)]) hx hb dL_law_15 rfl hl (by decide) rfl (fun ls hl => ?_)
  refine lv_iconst (v := Int32.ofInt 0) hx hb dL_law_16 rfl ?_
  refine lv_istore_n (lv' := [(3, .int (Int32.ofInt 0)), (2, .ref (am 0)), (1, .ref (ax 0)), (0, .ref b)]) hx hb dL_law_17 rfl hl (by decide) rfl (fun ls hl => ?_)
  exact law_on l hL hx hb hr hml hown hts hT hn hX hbl hlocks hP hD hS hl
