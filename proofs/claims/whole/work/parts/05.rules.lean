/-! THE RULES, one a kind of instruction -/
theorem q_ti {z : Int} (h : qR z) : (Int32.ofInt z).toInt = z := Int32.toInt_ofInt_of_le (by omega) (by omega)
theorem q_lt {x y : Int} (hx : qR x) (hy : qR y) : Int32.ofInt x < Int32.ofInt y ↔ x < y := by
  rw [Int32.lt_iff_toInt_lt, q_ti hx, q_ti hy]
theorem q_le {x y : Int} (hx : qR x) (hy : qR y) : Int32.ofInt x ≤ Int32.ofInt y ↔ x ≤ y := by
  rw [Int32.le_iff_toInt_le, q_ti hx, q_ti hy]
theorem q_eq {x y : Int} (hx : qR x) (hy : qR y) : Int32.ofInt x = Int32.ofInt y ↔ x = y := by
  rw [← Int32.toInt_inj, q_ti hx, q_ti hy]
theorem q_0 : (0 : Int32) = Int32.ofInt 0 := by decide
theorem q_r0 : qR 0 := by decide
theorem q_cl {i : Int} (h0 : 0 ≤ i) (h1 : i < 2147483648) : (Int32.ofInt i).toNatClampNeg = i.toNat := by
  show (Int32.ofInt i).toInt.toNat = i.toNat
  rw [q_ti ⟨by omega, by omega⟩]
theorem q_vin {i : Int} {n : Nat} (h0 : 0 ≤ i) (h1 : i < n) (hn : n ≤ 620) : vp_in (Int32.ofInt i) n := by
  intro h
  rcases h with h | h
  · rw [q_0, q_lt ⟨by omega, by omega⟩ q_r0] at h; omega
  · rw [q_cl h0 (by omega)] at h; omega
section RULES
variable {g : qG} {C : qX} {cc : ByteArray} {own : String} {nL d : Nat} {pc q : Nat} {loc loc' : List (Option qV)} {st : List qV} {M : qM}
theorem q_iconst (hC : qCk g C cc own nL d) {n : Int} (hd : decode cc pc = .ok (.iconst n, 1)) (hq : pc + 1 = q) (k : qW g C q loc (.inl n :: st) M) : qW g C pc loc st M := by
  obtain ⟨p, e, R, s, m, args, below, meth, c, cells, slots, Q⟩ := C
  subst hq
  exact fun H locs ls hP hS hL => lv_iconst hC.1 hC.2.1 hd rfl (k H locs ls hP hS hL)
theorem q_bipush (hC : qCk g C cc own nL d) {n : Int} (hd : decode cc pc = .ok (.bipush n, 2)) (hv : (Int8.ofInt n).toInt32 = Int32.ofInt n) (hq : pc + 2 = q) (k : qW g C q loc (.inl n :: st) M) : qW g C pc loc st M := by
  obtain ⟨p, e, R, s, m, args, below, meth, c, cells, slots, Q⟩ := C
  subst hq
  exact fun H locs ls hP hS hL => lv_bipush hC.1 hC.2.1 hd hv (k H locs ls hP hS hL)
theorem q_sipush (hC : qCk g C cc own nL d) {n : Int} (hd : decode cc pc = .ok (.sipush n, 3)) (hv : (Int16.ofInt n).toInt32 = Int32.ofInt n) (hq : pc + 3 = q) (k : qW g C q loc (.inl n :: st) M) : qW g C pc loc st M := by
  obtain ⟨p, e, R, s, m, args, below, meth, c, cells, slots, Q⟩ := C
  subst hq
  exact fun H locs ls hP hS hL => lv_sipush hC.1 hC.2.1 hd hv (k H locs ls hP hS hL)
theorem q_iload_n (hC : qCk g C cc own nL d) {i : Fin 4} {x : Int} (hd : decode cc pc = .ok (.iload_n i, 1)) (hl : loc[(i : Nat)]? = some (some (.inl x))) (hq : pc + 1 = q) (k : qW g C q loc (.inl x :: st) M) : qW g C pc loc st M := by
  obtain ⟨p, e, R, s, m, args, below, meth, c, cells, slots, Q⟩ := C
  subst hq
  exact fun H locs ls hP hS hL => lv_iload_n hC.1 hC.2.1 hd rfl (hL.2.2 _ _ hl) (k H locs ls hP hS hL)
theorem q_iload (hC : qCk g C cc own nL d) {i : Nat} {x : Int} (hd : decode cc pc = .ok (.iload i, 2)) (hl : loc[i]? = some (some (.inl x))) (hq : pc + 2 = q) (k : qW g C q loc (.inl x :: st) M) : qW g C pc loc st M := by
  obtain ⟨p, e, R, s, m, args, below, meth, c, cells, slots, Q⟩ := C
  subst hq
  exact fun H locs ls hP hS hL => lv_iload hC.1 hC.2.1 hd (hL.2.2 _ _ hl) (k H locs ls hP hS hL)
theorem q_aload_n (hC : qCk g C cc own nL d) {i : Fin 4} {x : Nat} (hd : decode cc pc = .ok (.aload_n i, 1)) (hl : loc[(i : Nat)]? = some (some (.inr x))) (hq : pc + 1 = q) (k : qW g C q loc (.inr x :: st) M) : qW g C pc loc st M := by
  obtain ⟨p, e, R, s, m, args, below, meth, c, cells, slots, Q⟩ := C
  subst hq
  exact fun H locs ls hP hS hL => lv_aload_n hC.1 hC.2.1 hd rfl (hL.2.2 _ _ hl) (k H locs ls hP hS hL)
theorem q_aload (hC : qCk g C cc own nL d) {i : Nat} {x : Nat} (hd : decode cc pc = .ok (.aload i, 2)) (hl : loc[i]? = some (some (.inr x))) (hq : pc + 2 = q) (k : qW g C q loc (.inr x :: st) M) : qW g C pc loc st M := by
  obtain ⟨p, e, R, s, m, args, below, meth, c, cells, slots, Q⟩ := C
  subst hq
  exact fun H locs ls hP hS hL => lv_aload hC.1 hC.2.1 hd (hL.2.2 _ _ hl) (k H locs ls hP hS hL)
/-- the locals as the kit lists them -/
def qAs (ad : Nat → Nat) (loc : List (Option qV)) : List (Nat × Value) := (List.range loc.length).filterMap (fun i => match loc[i]? with
  | some (some v) => some (i, qv ad v)
  | _ => none)
theorem qAs_in {ad : Nat → Nat} {i : Nat} {v : qV} (h : loc[i]? = some (some v)) : (i, qv ad v) ∈ qAs ad loc := by
  refine List.mem_filterMap.mpr ⟨i, List.mem_range.mpr (List.getElem?_eq_some_iff.mp h).1, ?_⟩
  rw [h]
theorem qAs_has {ad : Nat → Nat} {ls : Array Slot} (h : qLr ad ls loc) : lv_has ls loc.length (qAs ad loc) := by
  refine ⟨h.1, h.2.1, fun q hq => ?_⟩
  obtain ⟨i, hi, he⟩ := List.mem_filterMap.mp hq
  cases hx : loc[i]? with
  | none => rw [hx] at he; cases he
  | some w => cases w with
    | none => rw [hx] at he; cases he
    | some v =>
      rw [hx] at he
      cases he
      exact h.2.2 i v hx
theorem qLr_set {ad : Nat → Nat} {ls : Array Slot} {i : Nat} {v : qV} (h : lv_has ls loc.length ((i, qv ad v) :: (qAs ad loc).filter (fun q => !(q.1 == i) && !(q.1 + 1 == i && q.2.category == 2)))) : qLr ad ls (loc.set i (some v)) := by
  refine ⟨by rw [List.length_set]; exact h.1, h.2.1, fun j w hj => ?_⟩
  rw [List.getElem?_set] at hj
  by_cases e : i = j
  · subst e
    rw [if_pos rfl] at hj
    by_cases z : i < loc.length
    · rw [if_pos z] at hj
      cases hj
      exact h.2.2 _ List.mem_cons_self
    · rw [if_neg z] at hj; cases hj
  · rw [if_neg e] at hj
    refine h.2.2 (j, qv ad w) (List.mem_cons_of_mem _ (List.mem_filter.mpr ⟨qAs_in hj, ?_⟩))
    have e' : ¬ j = i := fun z => e z.symm
    simp [e', qcat]
theorem q_istore_n (hC : qCk g C cc own nL d) {i : Fin 4} {x : Int} (hd : decode cc pc = .ok (.istore_n i, 1)) (hn : (i : Nat) < loc.length) (hl : loc.set (i : Nat) (some (.inl x)) = loc') (hq : pc + 1 = q) (k : qW g C q loc' st M) : qW g C pc loc (.inl x :: st) M := by
  obtain ⟨p, e, R, s, m, args, below, meth, c, cells, slots, Q⟩ := C
  subst hq; subst hl
  exact fun H locs ls hP hS hL => lv_istore_n hC.1 hC.2.1 hd rfl (qAs_has hL) hn rfl (fun ls' h' => k H locs ls' hP hS (qLr_set h'))
theorem q_istore (hC : qCk g C cc own nL d) {i : Nat} {x : Int} (hd : decode cc pc = .ok (.istore i, 2)) (hn : i < loc.length) (hl : loc.set i (some (.inl x)) = loc') (hq : pc + 2 = q) (k : qW g C q loc' st M) : qW g C pc loc (.inl x :: st) M := by
  obtain ⟨p, e, R, s, m, args, below, meth, c, cells, slots, Q⟩ := C
  subst hq; subst hl
  exact fun H locs ls hP hS hL => lv_istore hC.1 hC.2.1 hd (qAs_has hL) hn rfl (fun ls' h' => k H locs ls' hP hS (qLr_set h'))
theorem q_astore_n (hC : qCk g C cc own nL d) {i : Fin 4} {x : Nat} (hd : decode cc pc = .ok (.astore_n i, 1)) (hn : (i : Nat) < loc.length) (hl : loc.set (i : Nat) (some (.inr x)) = loc') (hq : pc + 1 = q) (k : qW g C q loc' st M) : qW g C pc loc (.inr x :: st) M := by
  obtain ⟨p, e, R, s, m, args, below, meth, c, cells, slots, Q⟩ := C
  subst hq; subst hl
  exact fun H locs ls hP hS hL => lv_astore_n hC.1 hC.2.1 hd rfl (qAs_has hL) hn rfl (fun ls' h' => k H locs ls' hP hS (qLr_set h'))
theorem q_astore (hC : qCk g C cc own nL d) {i : Nat} {x : Nat} (hd : decode cc pc = .ok (.astore i, 2)) (hn : i < loc.length) (hl : loc.set i (some (.inr x)) = loc') (hq : pc + 2 = q) (k : qW g C q loc' st M) : qW g C pc loc (.inr x :: st) M := by
  obtain ⟨p, e, R, s, m, args, below, meth, c, cells, slots, Q⟩ := C
  subst hq; subst hl
  exact fun H locs ls hP hS hL => lv_astore hC.1 hC.2.1 hd (qAs_has hL) hn rfl (fun ls' h' => k H locs ls' hP hS (qLr_set h'))
theorem q_iinc (hC : qCk g C cc own nL d) {i : Nat} {n x : Int} (hd : decode cc pc = .ok (.iinc i n, 3)) (hx : loc[i]? = some (some (.inl x))) (hl : loc.set i (some (.inl (x + n))) = loc') (hq : pc + 3 = q) (k : qW g C q loc' st M) : qW g C pc loc st M := by
  obtain ⟨p, e, R, s, m, args, below, meth, c, cells, slots, Q⟩ := C
  subst hq; subst hl
  intro H locs ls hP hS hL
  obtain ⟨j, hj⟩ := List.getElem?_of_mem (qAs_in (ad := g.2.2.2.2) hx)
  exact lv_iinc hC.1 hC.2.1 hd (qAs_has hL) hj (Int32.ofInt_add x n).symm (List.getElem?_eq_some_iff.mp hx).1 rfl (fun ls' h' => k H locs ls' hP hS (qLr_set h'))
theorem q_iadd (hC : qCk g C cc own nL d) {x y : Int} (hd : decode cc pc = .ok (.iadd, 1)) (hq : pc + 1 = q) (k : qW g C q loc (.inl (x + y) :: st) M) : qW g C pc loc (.inl y :: .inl x :: st) M := by
  obtain ⟨p, e, R, s, m, args, below, meth, c, cells, slots, Q⟩ := C
  subst hq
  intro H locs ls hP hS hL
  refine lv_iadd hC.1 hC.2.1 hd ?_
  rw [← Int32.ofInt_add]
  exact k H locs ls hP hS hL
theorem q_isub (hC : qCk g C cc own nL d) {x y : Int} (hd : decode cc pc = .ok (.isub, 1)) (hq : pc + 1 = q) (k : qW g C q loc (.inl (x - y) :: st) M) : qW g C pc loc (.inl y :: .inl x :: st) M := by
  obtain ⟨p, e, R, s, m, args, below, meth, c, cells, slots, Q⟩ := C
  subst hq
  intro H locs ls hP hS hL
  refine lv_isub hC.1 hC.2.1 hd ?_
  rw [← Int32.ofInt_sub]
  exact k H locs ls hP hS hL
theorem q_imul (hC : qCk g C cc own nL d) {x y : Int} (hd : decode cc pc = .ok (.imul, 1)) (hq : pc + 1 = q) (k : qW g C q loc (.inl (x * y) :: st) M) : qW g C pc loc (.inl y :: .inl x :: st) M := by
  obtain ⟨p, e, R, s, m, args, below, meth, c, cells, slots, Q⟩ := C
  subst hq
  intro H locs ls hP hS hL
  refine lv_imul hC.1 hC.2.1 hd ?_
  rw [← Int32.ofInt_mul]
  exact k H locs ls hP hS hL
theorem q_dv {x y : Int} (hx : qR x) (hy : qR y) (h0 : 0 ≤ x) (h1 : 0 < y) : Int32.ofInt x / Int32.ofInt y = Int32.ofInt (x / y) := by
  have e : x.tdiv y = x / y := Int.tdiv_eq_ediv_of_nonneg h0
  have e1 : Int32.maxValue.toInt = 2147483647 := by decide
  have e2 : Int32.minValue.toInt = -2147483648 := by decide
  rw [← e, Int32.ofInt_tdiv (by rw [e2]; exact hx.1) (by rw [e1]; exact hx.2) (by rw [e2]; exact hy.1) (by rw [e1]; exact hy.2)]
theorem q_idiv (hC : qCk g C cc own nL d) {x y : Int} (hd : decode cc pc = .ok (.idiv, 1)) (hx : qR x) (hy : qR y) (h0 : 0 ≤ x) (h1 : 0 < y) (hq : pc + 1 = q) (k : qW g C q loc (.inl (x / y) :: st) M) : qW g C pc loc (.inl y :: .inl x :: st) M := by
  obtain ⟨p, e, R, s, m, args, below, meth, c, cells, slots, Q⟩ := C
  subst hq
  intro H locs ls hP hS hL
  refine lv_idiv hC.1 hC.2.1 hd (by rw [q_0, q_eq hy q_r0]; omega) ?_
  rw [q_dv hx hy h0 h1]
  exact k H locs ls hP hS hL
theorem q_irem (hC : qCk g C cc own nL d) {x y : Int} (hd : decode cc pc = .ok (.irem, 1)) (hx : qR x) (hy : qR y) (h0 : 0 ≤ x) (h1 : 0 < y) (hq : pc + 1 = q) (k : qW g C q loc (.inl (x % y) :: st) M) : qW g C pc loc (.inl y :: .inl x :: st) M := by
  obtain ⟨p, e, R, s, m, args, below, meth, c, cells, slots, Q⟩ := C
  subst hq
  intro H locs ls hP hS hL
  refine lv_irem hC.1 hC.2.1 hd (by rw [q_0, q_eq hy q_r0]; omega) ?_
  rw [q_dv hx hy h0 h1, ← Int32.ofInt_mul, ← Int32.ofInt_sub]
  have e : x - x / y * y = x % y := by have := Int.mul_ediv_add_emod x y; rw [Int.mul_comm]; omega
  rw [e]
  exact k H locs ls hP hS hL
/-- bits, as the machine has them -/
def qAnd (x y : Int) : Int := (Int32.ofInt x &&& Int32.ofInt y).toInt
def qOr (x y : Int) : Int := (Int32.ofInt x ||| Int32.ofInt y).toInt
def qShl (x y : Int) : Int := (Int32.ofInt x <<< (Int32.ofInt y &&& 31)).toInt
def qShr (x y : Int) : Int := (Int32.ofInt x >>> (Int32.ofInt y &&& 31)).toInt
theorem qR_of (x : Int32) : qR x.toInt := ⟨by have := Int32.le_toInt x; omega, by have := Int32.toInt_lt x; omega⟩
theorem qR_and (x y : Int) : qR (qAnd x y) := qR_of _
theorem qR_or (x y : Int) : qR (qOr x y) := qR_of _
theorem qR_shl (x y : Int) : qR (qShl x y) := qR_of _
theorem qR_shr (x y : Int) : qR (qShr x y) := qR_of _
theorem q_iand (hC : qCk g C cc own nL d) {x y : Int} (hd : decode cc pc = .ok (.iand, 1)) (hq : pc + 1 = q) (k : qW g C q loc (.inl (qAnd x y) :: st) M) : qW g C pc loc (.inl y :: .inl x :: st) M := by
  obtain ⟨p, e, R, s, m, args, below, meth, c, cells, slots, Q⟩ := C
  subst hq
  intro H locs ls hP hS hL
  refine lv_iand hC.1 hC.2.1 hd ?_
  rw [← Int32.ofInt_toInt (Int32.ofInt x &&& Int32.ofInt y)]
  exact k H locs ls hP hS hL
theorem q_ior (hC : qCk g C cc own nL d) {x y : Int} (hd : decode cc pc = .ok (.ior, 1)) (hq : pc + 1 = q) (k : qW g C q loc (.inl (qOr x y) :: st) M) : qW g C pc loc (.inl y :: .inl x :: st) M := by
  obtain ⟨p, e, R, s, m, args, below, meth, c, cells, slots, Q⟩ := C
  subst hq
  intro H locs ls hP hS hL
  refine lv_ior hC.1 hC.2.1 hd ?_
  rw [← Int32.ofInt_toInt (Int32.ofInt x ||| Int32.ofInt y)]
  exact k H locs ls hP hS hL
theorem q_ishl (hC : qCk g C cc own nL d) {x y : Int} (hd : decode cc pc = .ok (.ishl, 1)) (hq : pc + 1 = q) (k : qW g C q loc (.inl (qShl x y) :: st) M) : qW g C pc loc (.inl y :: .inl x :: st) M := by
  obtain ⟨p, e, R, s, m, args, below, meth, c, cells, slots, Q⟩ := C
  subst hq
  intro H locs ls hP hS hL
  refine lv_ishl hC.1 hC.2.1 hd ?_
  rw [← Int32.ofInt_toInt (Int32.ofInt x <<< (Int32.ofInt y &&& 31))]
  exact k H locs ls hP hS hL
theorem q_ishr (hC : qCk g C cc own nL d) {x y : Int} (hd : decode cc pc = .ok (.ishr, 1)) (hq : pc + 1 = q) (k : qW g C q loc (.inl (qShr x y) :: st) M) : qW g C pc loc (.inl y :: .inl x :: st) M := by
  obtain ⟨p, e, R, s, m, args, below, meth, c, cells, slots, Q⟩ := C
  subst hq
  intro H locs ls hP hS hL
  refine lv_ishr hC.1 hC.2.1 hd ?_
  rw [← Int32.ofInt_toInt (Int32.ofInt x >>> (Int32.ofInt y &&& 31))]
  exact k H locs ls hP hS hL
theorem q_dup (hC : qCk g C cc own nL d) {v : qV} (hd : decode cc pc = .ok (.dup, 1)) (hq : pc + 1 = q) (k : qW g C q loc (v :: v :: st) M) : qW g C pc loc (v :: st) M := by
  obtain ⟨p, e, R, s, m, args, below, meth, c, cells, slots, Q⟩ := C
  subst hq
  exact fun H locs ls hP hS hL => lv_dup hC.1 hC.2.1 hd (qcat _ v) (k H locs ls hP hS hL)
theorem q_dup2 (hC : qCk g C cc own nL d) {v w : qV} (hd : decode cc pc = .ok (.dup2, 1)) (hq : pc + 1 = q) (k : qW g C q loc (v :: w :: v :: w :: st) M) : qW g C pc loc (v :: w :: st) M := by
  obtain ⟨p, e, R, s, m, args, below, meth, c, cells, slots, Q⟩ := C
  subst hq
  exact fun H locs ls hP hS hL => lv_dup2_11 hC.1 hC.2.1 hd (qcat _ v) (qcat _ w) (k H locs ls hP hS hL)
theorem q_goto (hC : qCk g C cc own nL d) {off : Int} (hd : decode cc pc = .ok (.goto off, 3)) (hq : (pc : Int) + off = (q : Int)) (k : qW g C q loc st M) : qW g C pc loc st M := by
  obtain ⟨p, e, R, s, m, args, below, meth, c, cells, slots, Q⟩ := C
  exact fun H locs ls hP hS hL => lv_goto hC.1 hC.2.1 hd hq (k H locs ls hP hS hL)
theorem q_icmp_eq (hC : qCk g C cc own nL d) {x y : Int} {off : Int} {t : Nat} (hd : decode cc pc = .ok (.if_icmp .eq off, 3)) (ht : (pc : Int) + off = (t : Int)) (hq : pc + 3 = q) (hx : qR x) (hy : qR y) (kt : x = y → qW g C t loc st M) (kf : x ≠ y → qW g C q loc st M) : qW g C pc loc (.inl y :: .inl x :: st) M := by
  obtain ⟨p, e, R, s, m, args, below, meth, c, cells, slots, Q⟩ := C
  subst hq
  intro H locs ls hP hS hL
  exact lv_icmp_eq hC.1 hC.2.1 hd ht (fun h => kt ((q_eq hx hy).mp h) H locs ls hP hS hL) (fun h => kf (fun z => h ((q_eq hx hy).mpr z)) H locs ls hP hS hL)
theorem q_if_eq (hC : qCk g C cc own nL d) {x : Int} {off : Int} {t : Nat} (hd : decode cc pc = .ok (.ifCond .eq off, 3)) (ht : (pc : Int) + off = (t : Int)) (hq : pc + 3 = q) (hx : qR x) (kt : x = 0 → qW g C t loc st M) (kf : x ≠ 0 → qW g C q loc st M) : qW g C pc loc (.inl x :: st) M := by
  obtain ⟨p, e, R, s, m, args, below, meth, c, cells, slots, Q⟩ := C
  subst hq
  intro H locs ls hP hS hL
  exact lv_if_eq hC.1 hC.2.1 hd ht (fun h => kt ((q_eq hx q_r0).mp (q_0 ▸ h)) H locs ls hP hS hL) (fun h => kf (fun z => h (q_0 ▸ (q_eq hx q_r0).mpr z)) H locs ls hP hS hL)
theorem q_icmp_ne (hC : qCk g C cc own nL d) {x y : Int} {off : Int} {t : Nat} (hd : decode cc pc = .ok (.if_icmp .ne off, 3)) (ht : (pc : Int) + off = (t : Int)) (hq : pc + 3 = q) (hx : qR x) (hy : qR y) (kt : x ≠ y → qW g C t loc st M) (kf : x = y → qW g C q loc st M) : qW g C pc loc (.inl y :: .inl x :: st) M := by
  obtain ⟨p, e, R, s, m, args, below, meth, c, cells, slots, Q⟩ := C
  subst hq
  intro H locs ls hP hS hL
  exact lv_icmp_ne hC.1 hC.2.1 hd ht (fun h => kt (fun z => h ((q_eq hx hy).mpr z)) H locs ls hP hS hL) (fun h => kf ((q_eq hx hy).mp h) H locs ls hP hS hL)
theorem q_if_ne (hC : qCk g C cc own nL d) {x : Int} {off : Int} {t : Nat} (hd : decode cc pc = .ok (.ifCond .ne off, 3)) (ht : (pc : Int) + off = (t : Int)) (hq : pc + 3 = q) (hx : qR x) (kt : x ≠ 0 → qW g C t loc st M) (kf : x = 0 → qW g C q loc st M) : qW g C pc loc (.inl x :: st) M := by
  obtain ⟨p, e, R, s, m, args, below, meth, c, cells, slots, Q⟩ := C
  subst hq
  intro H locs ls hP hS hL
  exact lv_if_ne hC.1 hC.2.1 hd ht (fun h => kt (fun z => h (q_0 ▸ (q_eq hx q_r0).mpr z)) H locs ls hP hS hL) (fun h => kf ((q_eq hx q_r0).mp (q_0 ▸ h)) H locs ls hP hS hL)
theorem q_icmp_lt (hC : qCk g C cc own nL d) {x y : Int} {off : Int} {t : Nat} (hd : decode cc pc = .ok (.if_icmp .lt off, 3)) (ht : (pc : Int) + off = (t : Int)) (hq : pc + 3 = q) (hx : qR x) (hy : qR y) (kt : x < y → qW g C t loc st M) (kf : y ≤ x → qW g C q loc st M) : qW g C pc loc (.inl y :: .inl x :: st) M := by
  obtain ⟨p, e, R, s, m, args, below, meth, c, cells, slots, Q⟩ := C
  subst hq
  intro H locs ls hP hS hL
  exact lv_icmp_lt hC.1 hC.2.1 hd ht (fun h => kt ((q_lt hx hy).mp h) H locs ls hP hS hL) (fun h => kf (by rw [q_lt hx hy] at h; omega) H locs ls hP hS hL)
theorem q_if_lt (hC : qCk g C cc own nL d) {x : Int} {off : Int} {t : Nat} (hd : decode cc pc = .ok (.ifCond .lt off, 3)) (ht : (pc : Int) + off = (t : Int)) (hq : pc + 3 = q) (hx : qR x) (kt : x < 0 → qW g C t loc st M) (kf : 0 ≤ x → qW g C q loc st M) : qW g C pc loc (.inl x :: st) M := by
  obtain ⟨p, e, R, s, m, args, below, meth, c, cells, slots, Q⟩ := C
  subst hq
  intro H locs ls hP hS hL
  exact lv_if_lt hC.1 hC.2.1 hd ht (fun h => kt (by rw [q_0, q_lt hx q_r0] at h; exact h) H locs ls hP hS hL) (fun h => kf (by rw [q_0, q_lt hx q_r0] at h; omega) H locs ls hP hS hL)
theorem q_icmp_ge (hC : qCk g C cc own nL d) {x y : Int} {off : Int} {t : Nat} (hd : decode cc pc = .ok (.if_icmp .ge off, 3)) (ht : (pc : Int) + off = (t : Int)) (hq : pc + 3 = q) (hx : qR x) (hy : qR y) (kt : y ≤ x → qW g C t loc st M) (kf : x < y → qW g C q loc st M) : qW g C pc loc (.inl y :: .inl x :: st) M := by
  obtain ⟨p, e, R, s, m, args, below, meth, c, cells, slots, Q⟩ := C
  subst hq
  intro H locs ls hP hS hL
  exact lv_icmp_ge hC.1 hC.2.1 hd ht (fun h => kt ((q_le hy hx).mp h) H locs ls hP hS hL) (fun h => kf (by rw [q_le hy hx] at h; omega) H locs ls hP hS hL)
theorem q_if_ge (hC : qCk g C cc own nL d) {x : Int} {off : Int} {t : Nat} (hd : decode cc pc = .ok (.ifCond .ge off, 3)) (ht : (pc : Int) + off = (t : Int)) (hq : pc + 3 = q) (hx : qR x) (kt : 0 ≤ x → qW g C t loc st M) (kf : x < 0 → qW g C q loc st M) : qW g C pc loc (.inl x :: st) M := by
  obtain ⟨p, e, R, s, m, args, below, meth, c, cells, slots, Q⟩ := C
  subst hq
  intro H locs ls hP hS hL
  exact lv_if_ge hC.1 hC.2.1 hd ht (fun h => kt (by rw [q_0, q_le q_r0 hx] at h; exact h) H locs ls hP hS hL) (fun h => kf (by rw [q_0, q_le q_r0 hx] at h; omega) H locs ls hP hS hL)
theorem q_icmp_gt (hC : qCk g C cc own nL d) {x y : Int} {off : Int} {t : Nat} (hd : decode cc pc = .ok (.if_icmp .gt off, 3)) (ht : (pc : Int) + off = (t : Int)) (hq : pc + 3 = q) (hx : qR x) (hy : qR y) (kt : y < x → qW g C t loc st M) (kf : x ≤ y → qW g C q loc st M) : qW g C pc loc (.inl y :: .inl x :: st) M := by
  obtain ⟨p, e, R, s, m, args, below, meth, c, cells, slots, Q⟩ := C
  subst hq
  intro H locs ls hP hS hL
  exact lv_icmp_gt hC.1 hC.2.1 hd ht (fun h => kt ((q_lt hy hx).mp h) H locs ls hP hS hL) (fun h => kf (by rw [q_lt hy hx] at h; omega) H locs ls hP hS hL)
theorem q_if_gt (hC : qCk g C cc own nL d) {x : Int} {off : Int} {t : Nat} (hd : decode cc pc = .ok (.ifCond .gt off, 3)) (ht : (pc : Int) + off = (t : Int)) (hq : pc + 3 = q) (hx : qR x) (kt : 0 < x → qW g C t loc st M) (kf : x ≤ 0 → qW g C q loc st M) : qW g C pc loc (.inl x :: st) M := by
  obtain ⟨p, e, R, s, m, args, below, meth, c, cells, slots, Q⟩ := C
  subst hq
  intro H locs ls hP hS hL
  exact lv_if_gt hC.1 hC.2.1 hd ht (fun h => kt (by rw [q_0, q_lt q_r0 hx] at h; exact h) H locs ls hP hS hL) (fun h => kf (by rw [q_0, q_lt q_r0 hx] at h; omega) H locs ls hP hS hL)
theorem q_icmp_le (hC : qCk g C cc own nL d) {x y : Int} {off : Int} {t : Nat} (hd : decode cc pc = .ok (.if_icmp .le off, 3)) (ht : (pc : Int) + off = (t : Int)) (hq : pc + 3 = q) (hx : qR x) (hy : qR y) (kt : x ≤ y → qW g C t loc st M) (kf : y < x → qW g C q loc st M) : qW g C pc loc (.inl y :: .inl x :: st) M := by
  obtain ⟨p, e, R, s, m, args, below, meth, c, cells, slots, Q⟩ := C
  subst hq
  intro H locs ls hP hS hL
  exact lv_icmp_le hC.1 hC.2.1 hd ht (fun h => kt ((q_le hx hy).mp h) H locs ls hP hS hL) (fun h => kf (by rw [q_le hx hy] at h; omega) H locs ls hP hS hL)
theorem q_if_le (hC : qCk g C cc own nL d) {x : Int} {off : Int} {t : Nat} (hd : decode cc pc = .ok (.ifCond .le off, 3)) (ht : (pc : Int) + off = (t : Int)) (hq : pc + 3 = q) (hx : qR x) (kt : x ≤ 0 → qW g C t loc st M) (kf : 0 < x → qW g C q loc st M) : qW g C pc loc (.inl x :: st) M := by
  obtain ⟨p, e, R, s, m, args, below, meth, c, cells, slots, Q⟩ := C
  subst hq
  intro H locs ls hP hS hL
  exact lv_if_le hC.1 hC.2.1 hd ht (fun h => kt (by rw [q_0, q_le hx q_r0] at h; exact h) H locs ls hP hS hL) (fun h => kf (by rw [q_0, q_le hx q_r0] at h; omega) H locs ls hP hS hL)
end RULES
