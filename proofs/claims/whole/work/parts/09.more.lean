theorem q_rmax {x y : Int} (hx : qR x) (hy : qR y) : qR (max x y) := by omega
theorem q_rmin {x y : Int} (hx : qR x) (hy : qR y) : qR (min x y) := by omega
theorem qW.kill {g : qG} {C : qX} {pc : Nat} {loc loc' : List (Option qV)} {st : List qV} {M : qM} (i : Nat) (hl : loc.set i none = loc') (h : qW g C pc loc' st M) : qW g C pc loc st M := by
  obtain ⟨p, e, R, s, m, args, below, meth, c, cells, slots, Q⟩ := C
  subst hl
  refine fun H locs ls hP hS hL => h H locs ls hP hS ⟨by rw [List.length_set]; exact hL.1, hL.2.1, fun j v hj => ?_⟩
  rw [List.getElem?_set] at hj
  by_cases e : i = j
  · subst e
    rw [if_pos rfl] at hj
    by_cases z : i < loc.length
    · rw [if_pos z] at hj; cases hj
    · rw [if_neg z] at hj; cases hj
  · rw [if_neg e] at hj
    exact hL.2.2 j v hj
