/-! THE RULES of fields, arrays, calls and ends -/
/-- a link of a field, by its own place in the reading class -/
def qF (own : String) (idx ci k : Nat) : Prop := ∃ (Cn : String) (T : u_T) (N : Nat), vwCl[ci]? = some (Cn, T, N) ∧ k < N ∧ (∀ w ∈ u_ws Cn T N, w ∈ qGw) ∧
  ((Cond.fieldLink own idx (T k).1 (T k).2.1 (T k).2.2.1 ∈ qGw) ∨ ∃ host, Cond.fieldLinkNest own idx (T k).1 (T k).2.1 (T k).2.2.1 host ∈ qNw)
def qFp (own : String) (idx ci k : Nat) (ty : FieldType) : Prop := ∃ (Cn : String) (T : u_T) (N : Nat) (ty0 : Nat → FieldType), vwCl[ci]? = some (Cn, T, N) ∧ k < N ∧ (∀ w ∈ u_ws Cn T N, w ∈ qGw) ∧
  (∀ k, k < N → parseFieldDescriptor (T k).2.2.1 = some (ty0 k)) ∧ (∀ a, a < N → ∀ b, b < N → a ≠ b → (T a).2.1 ≠ (T b).2.1) ∧ (T k).2.2.2 = false ∧ parseFieldDescriptor (T k).2.2.1 = some ty ∧
  ((Cond.fieldLink own idx (T k).1 (T k).2.1 (T k).2.2.1 ∈ qGw) ∨ ∃ host, Cond.fieldLinkNest own idx (T k).1 (T k).2.1 (T k).2.2.1 host ∈ qNw)
section HEAPR
variable {g : qG} {C : qX} {cc : ByteArray} {own : String} {nL d : Nat} {pc q : Nat} {loc loc' : List (Option qV)} {st stk : List qV} {M : qM}
theorem q_getv (hC : qCk g C cc own nL d) {idx ci sl k : Nat} {fs : List (Option Nat)} {f : Option Nat} (hF : qF own idx ci sl) (hk : qLs[k]? = some (.inl (ci, fs))) (hf : fs[sl]? = some f) (hd : decode cc pc = .ok (.getfield idx, 3)) {v : qV} (hv : qv g.2.2.2.2 v = qs g.2.2.2.2 M k sl f)
    (kk : qW g C (pc + 3) loc (v :: st) M) : qW g C pc loc (.inr k :: st) M := by
  obtain ⟨p, e, R, s, m, args, below, meth, c, cells, slots, Q⟩ := C
  intro H locs ls hP hS hL
  obtain ⟨hx, hb, hml, hown, hts, hK, -⟩ := hC
  obtain ⟨Cn, T, N, h1, h2, h3, h4⟩ := hF
  have he := qC_at (g := g) (M := M) hk
  have hv' : (fs.mapIdx (fun j f => qs g.2.2.2.2 M k j f))[sl]? = some (qv g.2.2.2.2 v) := by
    rw [List.getElem?_mapIdx, hf, hv]; rfl
  have hk' := kk H locs ls hP hS hL
  rcases h4 with h4 | ⟨host, h4⟩
  · exact va_get hx hb hts h3 hown hK.1 hP.2 k he h1 sl h2 (hts _ h4) (fun _ h => h) hv' hd hk'
  · exact va_getN (host := host) hx hb hts h3 hown hK.1 hP.2 k he h1 sl h2 (va_Nw.use rfl (hK.2.1 _ h4)) (fun _ h => h) hv' hd hk'
theorem q_geti (hC : qCk g C cc own nL d) {idx ci sl k : Nat} {fs : List (Option Nat)} (hF : qF own idx ci sl) (hk : qLs[k]? = some (.inl (ci, fs))) (hf : fs[sl]? = some none) {z : Int} (hz : (sl : Int) = z) (hd : decode cc pc = .ok (.getfield idx, 3)) (hq : pc + 3 = q)
    (kk : qW g C q loc (.inl (M k z) :: st) M) : qW g C pc loc (.inr k :: st) M := by
  subst hq; subst hz
  exact q_getv hC hF hk hf hd (v := .inl (M k sl)) rfl kk
theorem q_getr (hC : qCk g C cc own nL d) {idx ci sl k t : Nat} {fs : List (Option Nat)} (hF : qF own idx ci sl) (hk : qLs[k]? = some (.inl (ci, fs))) (hf : fs[sl]? = some (some t)) (hd : decode cc pc = .ok (.getfield idx, 3)) (hq : pc + 3 = q)
    (kk : qW g C q loc (.inr t :: st) M) : qW g C pc loc (.inr k :: st) M := by
  subst hq
  exact q_getv hC hF hk hf hd (v := .inr t) rfl kk
theorem q_puto {k sl : Nat} {ci : Nat} {fs : List (Option Nat)} {z : Int} (hf : fs[sl]? = some none) : (g.2.2.2.2 k, (Sum.inr (ci, (fs.mapIdx (fun j f => qs g.2.2.2.2 M k j f)).set sl (.int (Int32.ofInt z))) : va_E)) = qc g (qU M k sl z) k (.inl (ci, fs)) := by
  unfold qc
  show (_, Sum.inr (_, _)) = (_, Sum.inr (_, _))
  congr 3
  apply List.ext_getElem?
  intro n
  rw [List.getElem?_set]
  show _ = (List.mapIdx (fun j f => qs g.2.2.2.2 (qU M k sl z) k j f) fs)[n]?
  have hl : sl < (fs.mapIdx (fun j f => qs g.2.2.2.2 M k j f)).length := by rw [List.length_mapIdx]; exact (List.getElem?_eq_some_iff.mp hf).1
  by_cases h : sl = n
  · subst h
    rw [if_pos rfl, if_pos hl, List.getElem?_mapIdx, hf]
    show _ = some (Value.int (Int32.ofInt (qU M k sl z k sl)))
    rw [qU_s]
  · rw [if_neg h, List.getElem?_mapIdx, List.getElem?_mapIdx]
    cases fs[n]? with
    | none => rfl
    | some f =>
      cases f with
      | some t => rfl
      | none =>
        show some (Value.int (Int32.ofInt (M k n))) = some (Value.int (Int32.ofInt (qU M k sl z k n)))
        rw [qU_i (by omega)]
theorem q_putv (hC : qCk g C cc own nL d) {idx ci sl k : Nat} {fs : List (Option Nat)} {ty : FieldType} {x z : Int} (hF : qFp own idx ci sl ty) (hk : qLs[k]? = some (.inl (ci, fs))) (hf : fs[sl]? = some none) (hz : (sl : Int) = z) (hd : decode cc pc = .ok (.putfield idx, 3)) (hn : narrow ty (.int (Int32.ofInt x)) = .int (Int32.ofInt x)) (hfit : fits ty (.int (Int32.ofInt x)) = true) (hq : pc + 3 = q) (hx : qR x)
    (kk : qW g C q loc st (qU M k z x)) : qW g C pc loc (.inl x :: .inr k :: st) M := by
  obtain ⟨p, e, R, s, m, args, below, meth, c, cells, slots, Q⟩ := C
  subst hq; subst hz
  intro H locs ls hP hS hL
  obtain ⟨hxx, hb, hml, hown, hts, hK, -⟩ := hC
  obtain ⟨Cn, T, N, ty0, h1, h2, h3, h5, h6, h7, h8, h4⟩ := hF
  have he := qC_at (g := g) (M := M) hk
  have hlen : sl < (fs.mapIdx (fun j f => qs g.2.2.2.2 M k j f)).length := by rw [List.length_mapIdx]; exact (List.getElem?_eq_some_iff.mp hf).1
  have fin : ∀ (H1 : Heap) (locs1 : List Loc), va_P g.2.1 vwCl ((qC g M).set k (g.2.2.2.2 k, .inr (ci, (fs.mapIdx (fun j f => qs g.2.2.2.2 M k j f)).set sl (.int (Int32.ofInt x))))) H1 → va_D (qA g) ((qC g M).set k (g.2.2.2.2 k, .inr (ci, (fs.mapIdx (fun j f => qs g.2.2.2.2 M k j f)).set sl (.int (Int32.ofInt x))))) → va_S (qA g) s.heap H1 locs1 → W p g.1 e R s m args below meth c H1 locs1 cells slots Q (F0 m (pc + 3) ls (st.map (qv g.2.2.2.2))) := by
    intro H1 locs1 a1 _ a3
    rw [q_puto hf, qC_set hk] at a1
    exact kk H1 locs1 ls ⟨qU_in hP.1 hx, a1⟩ a3 hL
  rcases h4 with h4 | ⟨host, h4⟩
  · exact va_put hxx hb hts h3 ty0 h5 h6 hown hK.1 hP.2 (qD hK.2.2 M) hS k he h1 sl h2 (hts _ h4) (fun _ h => h) h7 h8 hn hfit hlen hd fin
  · exact va_putN (host := host) hxx hb hts h3 ty0 h5 h6 hown hK.1 hP.2 (qD hK.2.2 M) hS k he h1 sl h2 (va_Nw.use rfl (hK.2.1 _ h4)) (fun _ h => h) h7 h8 hn hfit hlen hd fin
theorem q_puti (hC : qCk g C cc own nL d) {idx ci sl k : Nat} {fs : List (Option Nat)} {x z : Int} (hF : qFp own idx ci sl .int) (hk : qLs[k]? = some (.inl (ci, fs))) (hf : fs[sl]? = some none) (hz : (sl : Int) = z) (hd : decode cc pc = .ok (.putfield idx, 3)) (hq : pc + 3 = q) (hx : qR x)
    (kk : qW g C q loc st (qU M k z x)) : qW g C pc loc (.inl x :: .inr k :: st) M := q_putv hC hF hk hf hz hd rfl rfl hq hx kk
theorem q_nz {x : Int} (h : x = 0 ∨ x = 1) : narrow .boolean (.int (Int32.ofInt x)) = .int (Int32.ofInt x) := by rcases h with rfl | rfl <;> decide
theorem q_fz {x : Int} (h : x = 0 ∨ x = 1) : fits .boolean (.int (Int32.ofInt x)) = true := by rcases h with rfl | rfl <;> decide
theorem q_rz {x : Int} (h : x = 0 ∨ x = 1) : qR x := by omega
theorem q_putz (hC : qCk g C cc own nL d) {idx ci sl k : Nat} {fs : List (Option Nat)} {x z : Int} (hF : qFp own idx ci sl .boolean) (hk : qLs[k]? = some (.inl (ci, fs))) (hf : fs[sl]? = some none) (hz : (sl : Int) = z) (hd : decode cc pc = .ok (.putfield idx, 3)) (hq : pc + 3 = q) (hx : x = 0 ∨ x = 1)
    (kk : qW g C q loc st (qU M k z x)) : qW g C pc loc (.inl x :: .inr k :: st) M := q_putv hC hF hk hf hz hd (q_nz hx) (q_fz hx) hq (q_rz hx) kk
theorem q_tn {i : Int} (h : 0 ≤ i) : ((i.toNat : Nat) : Int) = i := Int.toNat_of_nonneg h
theorem q_iald (hC : qCk g C cc own nL d) {k n : Nat} {i : Int} (hk : qLs[k]? = some (.inr (false, n))) (hd : decode cc pc = .ok (.iaload, 1)) (hq : pc + 1 = q) (hi : 0 ≤ i ∧ i < n)
    (kk : qW g C q loc (.inl (M k i) :: st) M) : qW g C pc loc (.inl i :: .inr k :: st) M := by
  obtain ⟨p, e, R, s, m, args, below, meth, c, cells, slots, Q⟩ := C
  subst hq
  intro H locs ls hP hS hL
  obtain ⟨hxx, hb, hml, hown, hts, hK, -⟩ := hC
  have hn := qLs_sz hk
  refine va_iald hxx hb hK.1 hP.2 k 0 (qC_at (g := g) (M := M) hk) rfl (q_vin hi.1 hi.2 hn) hd ?_
  have := kk H locs ls hP hS hL
  rw [q_cl hi.1 (by omega)]
  show W p g.1 e R s m args below meth c H locs cells slots Q (F0 m (pc + 1) ls (.int (Int32.ofInt (M k (i.toNat : Nat))) :: st.map (qv g.2.2.2.2)))
  rw [q_tn hi.1]
  exact this
theorem q_zald (hC : qCk g C cc own nL d) {k n : Nat} {i : Int} (hk : qLs[k]? = some (.inr (true, n))) (hd : decode cc pc = .ok (.baload, 1)) (hq : pc + 1 = q) (hi : 0 ≤ i ∧ i < n)
    (kk : qW g C q loc (.inl (M k i) :: st) M) : qW g C pc loc (.inl i :: .inr k :: st) M := by
  obtain ⟨p, e, R, s, m, args, below, meth, c, cells, slots, Q⟩ := C
  subst hq
  intro H locs ls hP hS hL
  obtain ⟨hxx, hb, hml, hown, hts, hK, -⟩ := hC
  have hn := qLs_sz hk
  refine va_zald hxx hb hK.1 hP.2 k 1 (qC_at (g := g) (M := M) hk) rfl (q_vin hi.1 hi.2 hn) hd ?_
  have := kk H locs ls hP hS hL
  rw [q_cl hi.1 (by omega)]
  show W p g.1 e R s m args below meth c H locs cells slots Q (F0 m (pc + 1) ls (.int (Int32.ofInt (M k (i.toNat : Nat))) :: st.map (qv g.2.2.2.2)))
  rw [q_tn hi.1]
  exact this
theorem q_aset {k n : Nat} {b : Bool} {i x : Int} (hi : 0 ≤ i) : (g.2.2.2.2 k, (Sum.inl (if b = true then g.2.2.2.1 else g.2.2.1, n, .inl (upd (fun j : Nat => Int32.ofInt (M k j)) i.toNat (Int32.ofInt x))) : va_E)) = qc g (qU M k i x) k (.inr (b, n)) := by
  unfold qc
  show (_, Sum.inl (_, _, Sum.inl _)) = (_, Sum.inl (_, _, Sum.inl _))
  congr 5
  funext j
  by_cases h : j = i.toNat
  · subst h
    have e : ((i.toNat : Nat) : Int) = i := q_tn hi
    rw [pk_us, e, qU_s]
  · rw [pk_un h, qU_i (by omega)]
theorem q_iast (hC : qCk g C cc own nL d) {k n : Nat} {i x : Int} (hk : qLs[k]? = some (.inr (false, n))) (hd : decode cc pc = .ok (.iastore, 1)) (hq : pc + 1 = q) (hi : 0 ≤ i ∧ i < n) (hx : qR x)
    (kk : qW g C q loc st (qU M k i x)) : qW g C pc loc (.inl x :: .inl i :: .inr k :: st) M := by
  obtain ⟨p, e, R, s, m, args, below, meth, c, cells, slots, Q⟩ := C
  subst hq
  intro H locs ls hP hS hL
  obtain ⟨hxx, hb, hml, hown, hts, hK, -⟩ := hC
  have hn := qLs_sz hk
  refine va_iast hxx hb hK.1 hP.2 (qD hK.2.2 M) hS k 0 (qC_at (g := g) (M := M) hk) rfl (q_vin hi.1 hi.2 hn) hd (fun H1 locs1 a1 _ a3 => ?_)
  rw [q_cl hi.1 (by omega)] at a1
  have e1 := q_aset (g := g) (M := M) (k := k) (n := n) (b := false) (x := x) hi.1
  rw [show (if false = true then g.2.2.2.1 else g.2.2.1) = g.2.2.1 from rfl] at e1
  have a2 : va_P g.2.1 vwCl ((qC g M).set k (qc g (qU M k i x) k (.inr (false, n)))) H1 := by rw [← e1]; exact a1
  rw [qC_set hk] at a2
  exact kk H1 locs1 ls ⟨qU_in hP.1 hx, a2⟩ a3 hL
theorem q_zast (hC : qCk g C cc own nL d) {k n : Nat} {i x : Int} (hk : qLs[k]? = some (.inr (true, n))) (hd : decode cc pc = .ok (.bastore, 1)) (hq : pc + 1 = q) (hi : 0 ≤ i ∧ i < n) (hx : x = 0 ∨ x = 1)
    (kk : qW g C q loc st (qU M k i x)) : qW g C pc loc (.inl x :: .inl i :: .inr k :: st) M := by
  obtain ⟨p, e, R, s, m, args, below, meth, c, cells, slots, Q⟩ := C
  subst hq
  intro H locs ls hP hS hL
  obtain ⟨hxx, hb, hml, hown, hts, hK, -⟩ := hC
  have hn := qLs_sz hk
  refine va_zast hxx hb hK.1 hP.2 (qD hK.2.2 M) hS k 1 (qC_at (g := g) (M := M) hk) rfl (q_vin hi.1 hi.2 hn) hd (fun H1 locs1 a1 _ a3 => ?_)
  have e0 : vp_nar .boolean (Int32.ofInt x) = Int32.ofInt x := by unfold vp_nar; rw [q_nz hx]
  rw [q_cl hi.1 (by omega), e0] at a1
  have e1 := q_aset (g := g) (M := M) (k := k) (n := n) (b := true) (x := x) hi.1
  rw [show (if true = true then g.2.2.2.1 else g.2.2.1) = g.2.2.2.1 from rfl] at e1
  have a2 : va_P g.2.1 vwCl ((qC g M).set k (qc g (qU M k i x) k (.inr (true, n)))) H1 := by rw [← e1]; exact a1
  rw [qC_set hk] at a2
  exact kk H1 locs1 ls ⟨qU_in hP.1 (q_rz hx), a2⟩ a3 hL
theorem q_alen (hC : qCk g C cc own nL d) {k n : Nat} {b : Bool} {z : Int} (hk : qLs[k]? = some (.inr (b, n))) (hz : (n : Int) = z) (hd : decode cc pc = .ok (.arraylength, 1)) (hq : pc + 1 = q)
    (kk : qW g C q loc (.inl z :: st) M) : qW g C pc loc (.inr k :: st) M := by
  obtain ⟨p, e, R, s, m, args, below, meth, c, cells, slots, Q⟩ := C
  subst hq; subst hz
  intro H locs ls hP hS hL
  obtain ⟨hxx, hb, hml, hown, hts, hK, -⟩ := hC
  have hk' := kk H locs ls hP hS hL
  cases b with
  | false => exact va_alen hxx hb hK.1 hP.2 k 0 (qC_at (g := g) (M := M) hk) (ty := .int) rfl (v := Int32.ofInt (n : Int)) (by rw [Int32.ofInt_eq_ofNat]) hd hk'
  | true => exact va_alen hxx hb hK.1 hP.2 k 1 (qC_at (g := g) (M := M) hk) (ty := .boolean) rfl (v := Int32.ofInt (n : Int)) (by rw [Int32.ofInt_eq_ofNat]) hd hk'
-- ends
theorem q_iret (hC : qCk g C cc own nL d) {K : Int → qM → Prop} {x : Int} (hQ : qRt g C (some .int) (qI K)) (hd : decode cc pc = .ok (.ireturn, 1)) (hx : qR x) (k : K x M) : qW g C pc loc [.inl x] M := by
  obtain ⟨p, e, R, s, m, args, below, meth, c, cells, slots, Q⟩ := C
  obtain ⟨hr, hlk, rfl, rfl, rfl⟩ := hQ
  intro H locs ls hP hS hL
  exact W.iret hC.1 hC.2.1 hr (fun t ht _ => ⟨⟨some (.inl x), M, rfl, ⟨x, rfl, hx, k⟩, by rw [ht]; exact hP⟩, hS.F ht⟩) hS.2.2 hd hlk
theorem q_zret (hC : qCk g C cc own nL d) {K : Int → qM → Prop} {x : Int} (hQ : qRt g C (some .boolean) (qI K)) (hd : decode cc pc = .ok (.ireturn, 1)) (hx : x = 0 ∨ x = 1) (k : K x M) : qW g C pc loc [.inl x] M := by
  obtain ⟨p, e, R, s, m, args, below, meth, c, cells, slots, Q⟩ := C
  obtain ⟨hr, hlk, rfl, rfl, rfl⟩ := hQ
  intro H locs ls hP hS hL
  exact W.zret hC.1 hC.2.1 hr (q_nz hx) (fun t ht _ => ⟨⟨some (.inl x), M, rfl, ⟨x, rfl, q_rz hx, k⟩, by rw [ht]; exact hP⟩, hS.F ht⟩) hS.2.2 hd hlk
theorem q_vret (hC : qCk g C cc own nL d) {K : qM → Prop} (hQ : qRt g C none (qN K)) (hd : decode cc pc = .ok (.return_, 1)) (k : K M) : qW g C pc loc [] M := by
  obtain ⟨p, e, R, s, m, args, below, meth, c, cells, slots, Q⟩ := C
  obtain ⟨hr, hlk, rfl, rfl, rfl⟩ := hQ
  intro H locs ls hP hS hL
  exact W.vret hC.1 hC.2.1 hr (fun t ht _ => ⟨⟨none, M, rfl, ⟨rfl, k⟩, by rw [ht]; exact hP⟩, hS.F ht⟩) hS.2.2 hd hlk
end HEAPR
