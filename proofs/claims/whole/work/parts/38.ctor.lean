/-! THE CONSTRUCTORS: worlds that grow, by the kit's rows; a constructor's contract names its block's cells by a function -/
def kK (g : qG) (U : State) : Prop := va_K g.2.1 vwCl (qTy g) U ∧ ∀ w ∈ qNw, va_Nw w U
theorem kK.warm {g : qG} {s U : State} (hW : s.WarmedH U.vm) (h : kK g s) : kK g U := by
  refine ⟨va_K.moved hW.alike h.1, fun w hw => ?_⟩
  have h1 := h.2 w hw
  have h2 : qNe w = true := (List.mem_filter.mp hw).2
  cases w <;> first | exact va_Nw.warmF hW h1 | exact va_Nw.warmM hW h1 | cases h2
theorem kK.call {g : qG} {U : State} {f : JFrame} {mk : MethodId} {a : Array Value} (h : kK g U) : kK g (U.calling f mk a) := by
  refine ⟨va_K.moved (u := U) (U := U.calling f mk a) (Vm.Alike.refl U.vm) h.1, fun w hw => ?_⟩
  have h2 : qNe w = true := (List.mem_filter.mp hw).2
  refine va_Nw.same (u := U) ?_ rfl (h.2 w hw)
  cases w <;> first | rfl | cases h2
abbrev zA (c : ClassId) (n : Nat) : va_E := .inl (c, n, .inl (fun _ => Int32.ofInt 0))
def kF (i : Nat) : Nat → Int32 := fun j => Int32.ofInt (if (j : Int) < i then -1 else 0)
theorem kF_0 : kF 0 = fun _ => Int32.ofInt 0 := by
  funext j
  unfold kF
  rw [if_neg (by omega)]
theorem kF_s (i : Nat) : upd (kF i) i (Int32.ofInt (-1)) = kF (i + 1) := by
  funext j
  by_cases h : j = i
  · subst h
    rw [pk_us]
    unfold kF
    rw [if_pos (by omega)]
  · rw [pk_un h]
    unfold kF
    by_cases c : (j : Int) < i
    · rw [if_pos c, if_pos (by omega)]
    · rw [if_neg c, if_neg (by omega)]
abbrev zF (c : ClassId) (n : Nat) : va_E := .inl (c, n, .inl (kF n))
def kRm (d mc ms : Nat) : Room := { frames := d, cells := mc, slots := ms, locals := 60 * d }
theorem one_D (a : Nat) (e : va_E) : va_D (fun _ => True) [(a, e)] := by
  refine ⟨fun i j p q hp hq _ => ?_, fun _ _ _ => trivial⟩
  have h1 := (List.getElem?_eq_some_iff.mp hp).1
  have h2 := (List.getElem?_eq_some_iff.mp hq).1
  simp at h1 h2
  omega
/-- a method that changes the world [(h0, e0)] into B ad, and may make cells -/
def cOk (g : qG) (d : Nat) (j : qj) (av : Nat → List Value) (e0 : va_E) (mc ms : Nat) (B : (Nat → Nat) → va_W) : Prop := ∀ (h0 sz : Nat), Met g.1 j.1 (qWs j) (kRm d mc ms)
  (va_Pc (av h0) (fun U => U.heap.size = sz ∧ va_P g.2.1 vwCl [(h0, e0)] U.heap ∧ kK g U))
  (va_Qv (S := Unit) (fun _ => True) (fun _ t => ∃ ad : Nat → Nat, ad 0 = h0 ∧ va_P g.2.1 vwCl (B ad) t.heap ∧ va_D (va_A [(h0, e0)] sz) (B ad)) (va_A [(h0, e0)] sz)) mc ms (va_A [(h0, e0)] sz)
section KR
variable {g : qG} {p : Program} {e : Env} {R : Room} {s : State} {m : MethodId} {args : Array Value} {below : List Frame} {meth : Method} {c : Code} {H : Heap} {locs : List Loc} {cells slots : Nat} {Q : State → Prop}
variable {cc : ByteArray} {pc : Nat} {ls : Array Slot} {rest : List Value} {ws : va_W} {A : Nat → Prop} {H0 : Heap}
theorem k_cls {c1 : ClassId} (hK : kK g s) (h : va_K g.2.1 vwCl (qTy g ++ [(c1, .int)]) s) : c1 = g.2.2.1 := by
  have h1 : s.vm.findClass ("[" ++ FieldType.int.toString) = some c1 := (h.2 2 (c1, .int) rfl).2
  have h2 : s.vm.findClass ("[" ++ FieldType.int.toString) = some g.2.2.1 := (hK.1.2 0 (g.2.2.1, .int) rfl).2
  rw [h1] at h2
  exact Option.some.inj h2
theorem k_clz {c1 : ClassId} (hK : kK g s) (h : va_K g.2.1 vwCl (qTy g ++ [(c1, .boolean)]) s) : c1 = g.2.2.2.1 := by
  have h1 : s.vm.findClass ("[" ++ FieldType.boolean.toString) = some c1 := (h.2 2 (c1, .boolean) rfl).2
  have h2 : s.vm.findClass ("[" ++ FieldType.boolean.toString) = some g.2.2.2.1 := (hK.1.2 1 (g.2.2.2.1, .boolean) rfl).2
  rw [h1] at h2
  exact Option.some.inj h2
theorem k_newi (hexec : p.tables.exec = Jvm.exec) (hb : c.code = cc) (hts : ∀ w ∈ qGw, w.before args s = true) (hK : kK g s) (hP : va_P g.2.1 vwCl ws H) (hD : va_D A ws) (hS : va_S A H0 H locs) (hA : ∀ q, H0.size ≤ q → A q)
    {n : Int32} (N : Nat) (hn : ¬ n < 0) (hN : n.toNatClampNeg = N) (hbytes : N * componentBytes .int ≤ 536870912) (hcells : cells + 1 ≤ R.cells) (hslots : slots + N ≤ R.slots) (hdg : decode cc pc = .ok (.newarray .int, 2))
    (kk : ∀ (q : Nat) (H1 : Heap), va_P g.2.1 vwCl (ws ++ [(q, zA g.2.2.1 N)]) H1 → va_D A (ws ++ [(q, zA g.2.2.1 N)]) → va_S A H0 H1 locs →
      W p g.1 e R s m args below meth c H1 locs (cells + 1) (slots + N) Q (F0 m (pc + 2) ls (.ref q :: rest))) : W p g.1 e R s m args below meth c H locs cells slots Q (F0 m pc ls (.int n :: rest)) := by
  refine va_newa (ty := .int) (a0 := (N, .inl (fun _ => Int32.ofInt 0))) hexec hb (hts _ (qGw_in 118 (by decide +kernel) (by decide +kernel))) rfl hK.1 hP hD hS hA (fun _ => rfl) hn hN hbytes hcells hslots hdg (fun q cA H1 k1 p1 d1 s1 => ?_)
  have := k_cls hK k1
  subst this
  exact kk q H1 p1 d1 s1
theorem k_newz (hexec : p.tables.exec = Jvm.exec) (hb : c.code = cc) (hts : ∀ w ∈ qGw, w.before args s = true) (hK : kK g s) (hP : va_P g.2.1 vwCl ws H) (hD : va_D A ws) (hS : va_S A H0 H locs) (hA : ∀ q, H0.size ≤ q → A q)
    {n : Int32} (N : Nat) (hn : ¬ n < 0) (hN : n.toNatClampNeg = N) (hbytes : N * componentBytes .boolean ≤ 536870912) (hcells : cells + 1 ≤ R.cells) (hslots : slots + N ≤ R.slots) (hdg : decode cc pc = .ok (.newarray .boolean, 2))
    (kk : ∀ (q : Nat) (H1 : Heap), va_P g.2.1 vwCl (ws ++ [(q, zA g.2.2.2.1 N)]) H1 → va_D A (ws ++ [(q, zA g.2.2.2.1 N)]) → va_S A H0 H1 locs →
      W p g.1 e R s m args below meth c H1 locs (cells + 1) (slots + N) Q (F0 m (pc + 2) ls (.ref q :: rest))) : W p g.1 e R s m args below meth c H locs cells slots Q (F0 m pc ls (.int n :: rest)) := by
  refine va_newa (ty := .boolean) (a0 := (N, .inl (fun _ => Int32.ofInt 0))) hexec hb (hts _ (qGw_in 208 (by decide +kernel) (by decide +kernel))) rfl hK.1 hP hD hS hA (fun _ => rfl) hn hN hbytes hcells hslots hdg (fun q cA H1 k1 p1 d1 s1 => ?_)
  have := k_clz hK k1
  subst this
  exact kk q H1 p1 d1 s1
theorem k_fb {j : qj} {av : List Value} {e0 : va_E} {h0 sz : Nat} : FrameBlind (va_Pc av (fun U => U.heap.size = sz ∧ va_P g.2.1 vwCl [(h0, e0)] U.heap ∧ kK g U)) := fun _ _ _ _ h => ⟨h.1, h.2.1, h.2.2.1, h.2.2.2.call⟩
theorem k_callb (hts : ∀ w ∈ qGw, w.before args s = true) {j : qj} {n d mc ms : Nat} (hj : qMd j n) (hf : d + 1 ≤ R.frames) (hlo : 60 * (d + 1) ≤ R.locals) : (kRm d mc ms).cells = mc ∧ (kRm d mc ms).slots = ms ∧ (kRm d mc ms).frames + 1 ≤ R.frames ∧ 8 + (j.2.2.1 + 11) + (kRm d mc ms).locals ≤ R.locals ∧ (∀ w ∈ qWs j, ∀ (a' : Array Value) (U : State), s.WarmedH U.vm → w.before a' U = true) ∧ Cond.code j.1 j.2.1 j.2.2.1 j.2.2.2 ∈ qWs j ∧
    (Cond.code j.1 j.2.1 j.2.2.1 j.2.2.2).before args s = true ∧ (Cond.initialized j.1.cls).before args s = true ∧ (∀ sig, parseMethodDescriptor j.1.desc = some sig → n = sig.parameters.length) := by
  obtain ⟨h1, h2, h3, h4, h5⟩ := hj
  refine ⟨rfl, rfl, hf, ?_, pay_in hts (qGood h1), List.mem_cons_self, hts _ h1, hts _ h2, fun sig h => ?_⟩
  · show 8 + (j.2.2.1 + 11) + 60 * d ≤ R.locals
    omega
  · rw [h] at h4
    exact (Option.some.inj h4).symm
/-- a constructor's call -/
theorem k_init {own : String} {nL idx d ci mc ms q : Nat} {y : MethodName} {bc : ByteArray} {maxL : Nat} {fs0 : List Value} {B : (Nat → Nat) → va_W} {wr : va_W} (hx : p.tables.exec = Jvm.exec) (hb : c.code = cc) (hml : c.maxLocals = nL) (hown : s.vm.findClass own = some m.cls) (hts : ∀ w ∈ qGw, w.before args s = true) (hK : kK g s)
    (hj : qMd (y, bc, maxL, none) 0) (hi : Cond.instanceMethod y ∈ qGw) (hnm : y.name = "<init>") (hl : qMl own idx (y, bc, maxL, none)) (h : cOk g d (y, bc, maxL, none) (fun a => [.ref a]) (.inr (ci, fs0)) mc ms B) (hf : d + 1 ≤ R.frames) (hlo : 60 * (d + 1) ≤ R.locals) (hc : cells + mc ≤ R.cells) (hs : slots + ms ≤ R.slots)
    (hP : va_P g.2.1 vwCl ws H) (hD : va_D A ws) (hS : va_S A H0 H locs) (hA : ∀ q, H0.size ≤ q → A q) (isC isR : List Nat) (hC : isC.map (fun i => ws[i]?) = [(q, (.inr (ci, fs0) : va_E))].map some) (hR : isR.map (fun i => ws[i]?) = wr.map some) (hn : va_nd isR = true) (hdis : ∀ i ∈ isR, i ∉ isC)
    (hls : ls.size = nL) (hrest : (rest.map fun v => v.category).sum ≤ 8) (hd : decode cc pc = .ok (.invokespecial idx, 3))
    (kk : ∀ (ad : Nat → Nat) (H1 : Heap) (locs1 : List Loc), ad 0 = q → va_P g.2.1 vwCl (wr ++ B ad) H1 → va_D A (wr ++ B ad) → va_S A H0 H1 locs1 → W p g.1 e R s m args below meth c H1 locs1 (cells + mc) (slots + ms) Q (F0 m (pc + 3) ls rest)) :
    W p g.1 e R s m args below meth c H locs cells slots Q (F0 m pc ls (.ref q :: rest)) := by
  obtain ⟨b1, b2, b3, b4, b5, b6, b7, b8, b9⟩ := k_callb (args := args) (s := s) (R := R) (j := (y, bc, maxL, none)) (mc := mc) (ms := ms) hts hj hf hlo
  have hFc := va_free (wc := [(q, (.inr (ci, fs0) : va_E))]) hD hS hA isC hC
  have hPc : va_P g.2.1 vwCl [(q, (.inr (ci, fs0) : va_E))] H := by
    intro k x hx
    have h1 : (isC.map (fun i => ws[i]?))[k]? = some (some x) := by rw [hC, List.getElem?_map, hx]; rfl
    rw [List.getElem?_map] at h1
    cases hi : isC[k]? with
    | none => rw [hi] at h1; cases h1
    | some i => rw [hi] at h1; exact hP i x (Option.some.inj h1)
  have hpre : PreS s H (va_Pc [Value.ref q] (fun U => U.heap.size = H.size ∧ va_P g.2.1 vwCl [(q, (.inr (ci, fs0) : va_E))] U.heap ∧ kK g U)) (.ref q :: []) := ⟨k_fb (j := (y, bc, maxL, none)), fun U hU hW => ⟨rfl, by rw [hU], by rw [hU]; exact hPc, hK.warm hW⟩⟩
  have hrun : va_Run p g.1 e R s m args below meth c H locs cells slots mc ms (F0 m pc ls (.ref q :: rest)) rest (va_Qv (S := Unit) (fun _ => True) (fun _ t => ∃ ad : Nat → Nat, ad 0 = q ∧ va_P g.2.1 vwCl (B ad) t.heap ∧ va_D (va_A [(q, (.inr (ci, fs0) : va_E))] H.size) (B ad)) (va_A [(q, (.inr (ci, fs0) : va_E))] H.size) (Value.ref q :: []).toArray) (va_A [(q, (.inr (ci, fs0) : va_E))] H.size) := by
    rcases hl with hl | ⟨host, hl⟩
    · exact va_runI (As := []) (n := 0) ⟨hx, hb, hml, hown, hts⟩ (h q H.size) ⟨⟨b1, b2, b3, b4, b5, b6, b7, b8, hj.2.2.1, b9, hts _ hl⟩, hnm, hts _ hi⟩ hpre rfl rfl hls rfl (lv_room hrest) hd ⟨hc, hs⟩
    · exact va_runIN (As := []) (n := 0) (host := host) ⟨hx, hb, hml, hown, hts⟩ (h q H.size) ⟨⟨⟨b1, b2, b3, b4, b5, b6⟩, b7, b8, hj.2.2.1, b9, va_Nw.use rfl (hK.2 _ hl)⟩, hnm, hts _ hi⟩ hpre rfl rfl hls rfl (lv_room hrest) hd ⟨hc, hs⟩
  refine va_callv hrun hS (fun q _ h => hFc q h) hFc (fun u t H1 locs1 ht hvm _ hB hz1 hk1 hS1 => ?_)
  obtain ⟨ad, a0, hP1, hD1⟩ := hB
  rw [ht] at hP1
  obtain ⟨hP2, hD2⟩ := va_join hP hD isC isR hC hR hn hdis hk1 hFc hP1 hD1
  exact kk ad H1 locs1 a0 hP2 hD2 hS1
end KR
/-! Arrays.fill on a fresh row -/
theorem f_loop {g : qG} {q : Nat} {p : Program} {e : Env} {R : Room} {s : State} {m : MethodId} {args : Array Value} {below : List Frame} {meth : Method} {c : Code} {Q : State → Prop} {A : Nat → Prop} (hx : p.tables.exec = Jvm.exec) (hb : c.code = cJ7_fill_53178) (hK : kK g s)
    (hE : ∀ (H : Heap) (locs : List Loc) (ls : Array Slot), va_P g.2.1 vwCl [(q, zF g.2.2.1 20)] H → va_D A [(q, zF g.2.2.1 20)] → va_S A s.heap H locs → W p g.1 e R s m args below meth c H locs 0 0 Q (F0 m 20 ls [])) :
    ∀ (f : Nat) (i : Nat) (H : Heap) (locs : List Loc) (ls : Array Slot), i + f = 20 → va_P g.2.1 vwCl [(q, .inl (g.2.2.1, 20, .inl (kF i)))] H → va_D A [(q, .inl (g.2.2.1, 20, .inl (kF i)))] → va_S A s.heap H locs →
      lv_has ls 4 [(2, .int (Int32.ofInt (i : Int))), (0, .ref q), (1, .int (Int32.ofInt (-1))), (3, .int (Int32.ofInt 20))] → W p g.1 e R s m args below meth c H locs 0 0 Q (F0 m 5 ls []) := by
  intro f
  induction f with
  | zero =>
    intro i H locs ls hi hP hD hS hl
    have hi : i = 20 := by omega
    subst hi
    refine lv_iload_n hx hb dJ7_fill_53178_5 rfl (lv_at hl 0 rfl) ?_
    refine lv_iload_n hx hb dJ7_fill_53178_6 rfl (lv_at hl 3 rfl) ?_
    refine lv_icmp_ge hx hb dJ7_fill_53178_7 (tgt := 20) (by decide) (fun _ => hE H locs ls hP hD hS) (fun h => absurd ((q_le (by decide) (by decide)).mpr (by decide)) h)
  | succ f ih =>
    intro i H locs ls hi hP hD hS hl
    refine lv_iload_n hx hb dJ7_fill_53178_5 rfl (lv_at hl 0 rfl) ?_
    refine lv_iload_n hx hb dJ7_fill_53178_6 rfl (lv_at hl 3 rfl) ?_
    refine lv_icmp_ge hx hb dJ7_fill_53178_7 (tgt := 20) (by decide) (fun h => absurd ((q_le (by decide) (by omega)).mp h) (by omega)) (fun _ => ?_)
    refine lv_aload_n hx hb dJ7_fill_53178_10 rfl (lv_at hl 1 rfl) ?_
    refine lv_iload_n hx hb dJ7_fill_53178_11 rfl (lv_at hl 0 rfl) ?_
    refine lv_iload_n hx hb dJ7_fill_53178_12 rfl (lv_at hl 2 rfl) ?_
    refine va_iast hx hb hK.1 hP hD hS 0 0 rfl rfl (q_vin (by omega) (by omega) (by decide)) dJ7_fill_53178_13 (fun H1 locs1 p1 d1 s1 => ?_)
    rw [q_cl (by omega) (by omega), show ((i : Int).toNat) = i by omega, kF_s] at p1 d1
    refine lv_iinc hx hb dJ7_fill_53178_14 hl (k := 0) rfl (v := Int32.ofInt ((i + 1 : Nat) : Int)) ?_ (by decide) rfl (fun ls' hl' => ?_)
    · rw [← Int32.ofInt_add]; rfl
    refine lv_goto hx hb dJ7_fill_53178_17 (tgt := 5) (by decide) ?_
    exact ih (i + 1) H1 locs1 ls' (by omega) p1 d1 s1 hl'
theorem c_fill (g : qG) : cOk g 0 j_J7_fill_53178 (fun a => [.ref a, .int (Int32.ofInt (-1))]) (zA g.2.2.1 20) 0 0 (fun ad => [(ad 0, zF g.2.2.1 20)]) := by
  intro h0 sz
  refine Met.ofW (cc := cJ7_fill_53178) (maxL := 4) (ret := none) (ws' := qGw) (by decide) rfl ?_
  intro p e s m args below meth c s₁ B hml hv
  obtain ⟨rfl, hsz, hP, hK⟩ := hv
  have hx := B.exec
  have hb := B.bytes
  have hr := B.returns
  have hlocks := B.notSynchronized
  subst hsz
  have hD := (one_D h0 (zA g.2.2.1 20)).self (sz := s.heap.size)
  generalize hAe : va_A [(h0, zA g.2.2.1 20)] s.heap.size = A at hD ⊢
  have hS : va_S A s.heap s.heap [] := va_S.rf
  have hl := lv_entry ([.ref h0, .int (Int32.ofInt (-1))]) (n := 4) (Nat.le_of_ble_eq_true rfl)
  rw [lg_entry_eq]
  generalize (lg_sl ([.ref h0, .int (Int32.ofInt (-1))]) ++ List.replicate (4 - (lg_sl ([.ref h0, .int (Int32.ofInt (-1))])).length) Slot.unset).toArray = ls at hl ⊢
  have hl : lv_has ls 4 [(0, .ref h0), (1, .int (Int32.ofInt (-1)))] := hl
  refine lv_iconst (v := Int32.ofInt 0) hx hb dJ7_fill_53178_0 rfl ?_
  refine lv_istore_n hx hb dJ7_fill_53178_1 rfl hl (by decide) (lv' := [(2, .int (Int32.ofInt 0)), (0, .ref h0), (1, .int (Int32.ofInt (-1)))]) rfl (fun ls hl => ?_)
  refine lv_aload_n hx hb dJ7_fill_53178_2 rfl (lv_at hl 1 rfl) ?_
  refine va_alen hx hb hK.1 hP 0 0 rfl rfl (v := Int32.ofInt 20) rfl dJ7_fill_53178_3 ?_
  refine lv_istore_n hx hb dJ7_fill_53178_4 rfl hl (by decide) (lv' := [(3, .int (Int32.ofInt 20)), (2, .int (Int32.ofInt 0)), (0, .ref h0), (1, .int (Int32.ofInt (-1)))]) rfl (fun ls hl => ?_)
  have hl := lv_sub hl [1, 2, 3, 0] (l' := [(2, .int (Int32.ofInt 0)), (0, .ref h0), (1, .int (Int32.ofInt (-1))), (3, .int (Int32.ofInt 20))]) rfl
  refine f_loop hx hb hK (fun H locs ls hP hD hS => ?_) 20 0 s.heap [] ls rfl (by rw [kF_0]; exact hP) (by rw [kF_0]; exact hD) hS hl
  exact W.vret hx hb hr (fun t ht hW => ⟨⟨(), rfl, trivial, fun _ => h0, rfl, by rw [ht]; exact hP, hD⟩, hS.F ht⟩) hS.2.2 dJ7_fill_53178_20
