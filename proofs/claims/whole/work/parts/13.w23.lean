set_option maxRecDepth 20000 in
theorem e_X3_countPatrol {g : qG} {d : Nat} {M : qM} {K : Int → qM → Prop} {x1 : Int} (hx1 : qR x1) (h : ∀ C : qX, qCk g C cX3_countPatrol RX3 4 d → qRt g C (some .int) (qI K) → qW g C 4 [some (.inr 2), some (.inl x1), some (.inl 0), some (.inl 0)] [] M) : qOk g d j_X3_countPatrol [.inr 2, .inl x1] M (qI K) := by
  refine qOk.of (by decide) (Nat.le_of_ble_eq_true rfl) (fun C hC hQ => ?_)
  have hC : qCk g C cX3_countPatrol RX3 4 d := hC
  have hQ : qRt g C (some .int) (qI K) := hQ
  have h := h C hC hQ
  show qW g C 0 [some (.inr 2), some (.inl x1), none, none] [] M
  refine qW.rm (fun hM => ?_)
  refine q_iconst hC dX3_countPatrol_0 rfl ?_
  refine q_istore_n hC dX3_countPatrol_1 (Nat.le_of_ble_eq_true rfl) (loc' := [some (.inr 2), some (.inl x1), some (.inl 0), none]) rfl rfl ?_
  refine q_iconst hC dX3_countPatrol_2 rfl ?_
  refine q_istore_n hC dX3_countPatrol_3 (Nat.le_of_ble_eq_true rfl) (loc' := [some (.inr 2), some (.inl x1), some (.inl 0), some (.inl 0)]) rfl rfl ?_
  exact h
set_option maxRecDepth 20000 in
theorem s_X3_countPatrol_4 {g : qG} {C : qX} {d : Nat} {M : qM} {K : Int → qM → Prop} (hC : qCk g C cX3_countPatrol RX3 4 d) (hQ : qRt g C (some .int) (qI K)) {x1 : Int} {x2 : Int} {x3 : Int} (hx1 : qR x1) (hx2 : qR x2) (hx3 : qR x3) (h : (((M 2 0) ≤ x3 → (K x2 M)) ∧ (x3 < (M 2 0) → (0 ≤ x3 ∧ x3 < 10) ∧ (((M 4 x3) ≠ x1 → (qW g C 4 [some (.inr 2), some (.inl x1), some (.inl x2), some (.inl (x3 + 1))] [] M)) ∧ ((M 4 x3) = x1 → (qW g C 4 [some (.inr 2), some (.inl x1), some (.inl (x2 + 1)), some (.inl (x3 + 1))] [] M)))))) : qW g C 4 [some (.inr 2), some (.inl x1), some (.inl x2), some (.inl x3)] [] M := by
  refine qW.rm (fun hM => ?_)
  refine q_iload_n hC dX3_countPatrol_4 rfl rfl ?_
  refine q_aload_n hC dX3_countPatrol_5 rfl rfl ?_
  refine q_geti hC fl_X3_33 ly_2 rfl (z := 0) rfl dX3_countPatrol_6 rfl ?_
  refine q_icmp_ge hC dX3_countPatrol_9 (t := 31) (by decide) rfl hx3 (hM 2 0) (fun c => ?_) (fun c => ?_)
  · have h := h.1 c
    refine q_iload_n hC dX3_countPatrol_31 rfl rfl ?_
    exact q_iret hC hQ dX3_countPatrol_32 hx2 h
  · have h := h.2 c
    refine q_aload_n hC dX3_countPatrol_12 rfl rfl ?_
    refine q_getr hC fl_X3_15 ly_2 rfl dX3_countPatrol_13 rfl ?_
    refine q_iload_n hC dX3_countPatrol_16 rfl rfl ?_
    obtain ⟨r101, h⟩ := h
    refine q_iald hC ly_4 dX3_countPatrol_17 rfl r101 ?_
    refine q_iload_n hC dX3_countPatrol_18 rfl rfl ?_
    refine q_icmp_ne hC dX3_countPatrol_19 (t := 25) (by decide) rfl (hM 4 x3) hx1 (fun c => ?_) (fun c => ?_)
    · have h := h.1 c
      refine q_iinc hC dX3_countPatrol_25 rfl (loc' := [some (.inr 2), some (.inl x1), some (.inl x2), some (.inl (x3 + 1))]) rfl rfl ?_
      refine q_goto hC dX3_countPatrol_28 (q := 4) (by decide) ?_
      exact h
    · have h := h.2 c
      refine q_iinc hC dX3_countPatrol_22 rfl (loc' := [some (.inr 2), some (.inl x1), some (.inl (x2 + 1)), some (.inl x3)]) rfl rfl ?_
      refine q_iinc hC dX3_countPatrol_25 rfl (loc' := [some (.inr 2), some (.inl x1), some (.inl (x2 + 1)), some (.inl (x3 + 1))]) rfl rfl ?_
      refine q_goto hC dX3_countPatrol_28 (q := 4) (by decide) ?_
      exact h
set_option maxRecDepth 20000 in
theorem e_X3_countFree {g : qG} {d : Nat} {M : qM} {K : Int → qM → Prop} {x1 : Int} (hx1 : qR x1) (h : ∀ C : qX, qCk g C cX3_countFree RX3 4 (d + 1) → qRt g C (some .int) (qI K) → qW g C 4 [some (.inr 2), some (.inl x1), some (.inl 0), some (.inl 0)] [] M) : qOk g (d + 1) j_X3_countFree [.inr 2, .inl x1] M (qI K) := by
  refine qOk.of (by decide) (Nat.le_of_ble_eq_true rfl) (fun C hC hQ => ?_)
  have hC : qCk g C cX3_countFree RX3 4 (d + 1) := hC
  have hQ : qRt g C (some .int) (qI K) := hQ
  have h := h C hC hQ
  show qW g C 0 [some (.inr 2), some (.inl x1), none, none] [] M
  refine qW.rm (fun hM => ?_)
  refine q_iconst hC dX3_countFree_0 rfl ?_
  refine q_istore_n hC dX3_countFree_1 (Nat.le_of_ble_eq_true rfl) (loc' := [some (.inr 2), some (.inl x1), some (.inl 0), none]) rfl rfl ?_
  refine q_iconst hC dX3_countFree_2 rfl ?_
  refine q_istore_n hC dX3_countFree_3 (Nat.le_of_ble_eq_true rfl) (loc' := [some (.inr 2), some (.inl x1), some (.inl 0), some (.inl 0)]) rfl rfl ?_
  exact h
set_option maxRecDepth 20000 in
theorem s_X3_countFree_4 {g : qG} {C : qX} {d : Nat} {M : qM} {K : Int → qM → Prop} (hC : qCk g C cX3_countFree RX3 4 (d + 1)) (hQ : qRt g C (some .int) (qI K)) {x1 : Int} {x2 : Int} {x3 : Int} (hx1 : qR x1) (hx2 : qR x2) (hx3 : qR x3) (h : (((M 2 3) ≤ x3 → (K x2 M)) ∧ (x3 < (M 2 3) → (0 ≤ x3 ∧ x3 < 5) ∧ (((qB (M 7 x3) x1) → (qW g C 4 [some (.inr 2), some (.inl x1), some (.inl (x2 + 1)), some (.inl (x3 + 1))] [] M)) ∧ ((¬ qB (M 7 x3) x1) → (qW g C 4 [some (.inr 2), some (.inl x1), some (.inl x2), some (.inl (x3 + 1))] [] M)))))) : qW g C 4 [some (.inr 2), some (.inl x1), some (.inl x2), some (.inl x3)] [] M := by
  refine qW.rm (fun hM => ?_)
  refine q_iload_n hC dX3_countFree_4 rfl rfl ?_
  refine q_aload_n hC dX3_countFree_5 rfl rfl ?_
  refine q_geti hC fl_X3_41 ly_2 rfl (z := 3) rfl dX3_countFree_6 rfl ?_
  refine q_icmp_ge hC dX3_countFree_9 (t := 34) (by decide) rfl hx3 (hM 2 3) (fun c => ?_) (fun c => ?_)
  · have h := h.1 c
    refine q_iload_n hC dX3_countFree_34 rfl rfl ?_
    exact q_iret hC hQ dX3_countFree_35 hx2 h
  · have h := h.2 c
    refine q_aload_n hC dX3_countFree_12 rfl rfl ?_
    refine q_getr hC fl_X3_24 ly_2 rfl dX3_countFree_13 rfl ?_
    refine q_iload_n hC dX3_countFree_16 rfl rfl ?_
    obtain ⟨r101, h⟩ := h
    refine q_iald hC ly_7 dX3_countFree_17 rfl r101 ?_
    refine q_iload_n hC dX3_countFree_18 rfl rfl ?_
    refine q_callSi hC (As := [.inl (M 7 x3), .inl x1]) md_X7_hasBit ms_X7_hasBit ml_X3_44 dX3_countFree_19 rfl (Nat.le_of_ble_eq_true rfl) rfl rfl (b_X7_hasBit (hM 7 x3) hx1) (fun x102 M103 hM104 r105 hk => ?_)
    obtain ⟨ee, hk⟩ := hk
    have ee := ee.symm
    subst ee
    rcases hk with ⟨ee, c⟩ | ⟨ee, c⟩
    · have ee := ee.symm
      subst ee
      have h := h.1 c
      refine q_if_eq hC dX3_countFree_22 (t := 28) (by decide) rfl (by decide) (fun c => ?_) (fun c => ?_)
      · exact absurd c (by decide)
      · refine q_iinc hC dX3_countFree_25 rfl (loc' := [some (.inr 2), some (.inl x1), some (.inl (x2 + 1)), some (.inl x3)]) rfl rfl ?_
        refine q_iinc hC dX3_countFree_28 rfl (loc' := [some (.inr 2), some (.inl x1), some (.inl (x2 + 1)), some (.inl (x3 + 1))]) rfl rfl ?_
        refine q_goto hC dX3_countFree_31 (q := 4) (by decide) ?_
        exact h
    · have ee := ee.symm
      subst ee
      have h := h.2 c
      refine q_if_eq hC dX3_countFree_22 (t := 28) (by decide) rfl (by decide) (fun c => ?_) (fun c => ?_)
      · refine q_iinc hC dX3_countFree_28 rfl (loc' := [some (.inr 2), some (.inl x1), some (.inl x2), some (.inl (x3 + 1))]) rfl rfl ?_
        refine q_goto hC dX3_countFree_31 (q := 4) (by decide) ?_
        exact h
      · exact absurd c (by decide)
set_option maxRecDepth 20000 in
theorem e_X2_bitsNotDone {g : qG} {d : Nat} {M : qM} {K : Int → qM → Prop} {x1 : Int} {x2 : Int} (hx1 : qR x1) (hx2 : qR x2) (h : ∀ C : qX, qCk g C cX2_bitsNotDone RX2 5 (d + 1) → qRt g C (some .int) (qI K) → qW g C 5 [some (.inr 51), some (.inl x1), some (.inl x2), some (.inl 0), some (.inl 0)] [] M) : qOk g (d + 1) j_X2_bitsNotDone [.inr 51, .inl x1, .inl x2] M (qI K) := by
  refine qOk.of (by decide) (Nat.le_of_ble_eq_true rfl) (fun C hC hQ => ?_)
  have hC : qCk g C cX2_bitsNotDone RX2 5 (d + 1) := hC
  have hQ : qRt g C (some .int) (qI K) := hQ
  have h := h C hC hQ
  show qW g C 0 [some (.inr 51), some (.inl x1), some (.inl x2), none, none] [] M
  refine qW.rm (fun hM => ?_)
  refine q_iconst hC dX2_bitsNotDone_0 rfl ?_
  refine q_istore_n hC dX2_bitsNotDone_1 (Nat.le_of_ble_eq_true rfl) (loc' := [some (.inr 51), some (.inl x1), some (.inl x2), some (.inl 0), none]) rfl rfl ?_
  refine q_iconst hC dX2_bitsNotDone_2 rfl ?_
  refine q_istore hC dX2_bitsNotDone_3 (Nat.le_of_ble_eq_true rfl) (loc' := [some (.inr 51), some (.inl x1), some (.inl x2), some (.inl 0), some (.inl 0)]) rfl rfl ?_
  exact h
set_option maxRecDepth 20000 in
theorem s_X2_bitsNotDone_5 {g : qG} {C : qX} {d : Nat} {M : qM} {K : Int → qM → Prop} (hC : qCk g C cX2_bitsNotDone RX2 5 (d + 1)) (hQ : qRt g C (some .int) (qI K)) {x1 : Int} {x2 : Int} {x3 : Int} {x4 : Int} (hx1 : qR x1) (hx2 : qR x2) (hx3 : qR x3) (hx4 : qR x4) (h : ((10 ≤ x4 → (K x3 M)) ∧ (x4 < 10 → (((qB x2 x4) → (0 ≤ ((x1 * 10) + x4) ∧ ((x1 * 10) + x4) < 100) ∧ (((M 52 ((x1 * 10) + x4)) ≠ 1000 → (qW g C 5 [some (.inr 51), some (.inl x1), some (.inl x2), some (.inl x3), some (.inl (x4 + 1))] [] M)) ∧ ((M 52 ((x1 * 10) + x4)) = 1000 → (qW g C 5 [some (.inr 51), some (.inl x1), some (.inl x2), some (.inl (qOr x3 (qShl 1 x4))), some (.inl (x4 + 1))] [] M)))) ∧ ((¬ qB x2 x4) → (qW g C 5 [some (.inr 51), some (.inl x1), some (.inl x2), some (.inl x3), some (.inl (x4 + 1))] [] M)))))) : qW g C 5 [some (.inr 51), some (.inl x1), some (.inl x2), some (.inl x3), some (.inl x4)] [] M := by
  refine qW.rm (fun hM => ?_)
  refine q_iload hC dX2_bitsNotDone_5 rfl rfl ?_
  refine q_bipush hC dX2_bitsNotDone_7 (by decide) rfl ?_
  refine q_icmp_ge hC dX2_bitsNotDone_9 (t := 47) (by decide) rfl hx4 (by decide) (fun c => ?_) (fun c => ?_)
  · have h := h.1 c
    refine q_iload_n hC dX2_bitsNotDone_47 rfl rfl ?_
    exact q_iret hC hQ dX2_bitsNotDone_48 hx3 h
  · have h := h.2 c
    refine q_iload_n hC dX2_bitsNotDone_12 rfl rfl ?_
    refine q_iload hC dX2_bitsNotDone_13 rfl rfl ?_
    refine q_callSi hC (As := [.inl x2, .inl x4]) md_X7_hasBit ms_X7_hasBit ml_X2_93 dX2_bitsNotDone_15 rfl (Nat.le_of_ble_eq_true rfl) rfl rfl (b_X7_hasBit hx2 hx4) (fun x101 M102 hM103 r104 hk => ?_)
    obtain ⟨ee, hk⟩ := hk
    have ee := ee.symm
    subst ee
    rcases hk with ⟨ee, c⟩ | ⟨ee, c⟩
    · have ee := ee.symm
      subst ee
      have h := h.1 c
      refine q_if_eq hC dX2_bitsNotDone_18 (t := 41) (by decide) rfl (by decide) (fun c => ?_) (fun c => ?_)
      · exact absurd c (by decide)
      · refine q_aload_n hC dX2_bitsNotDone_21 rfl rfl ?_
        refine q_iload_n hC dX2_bitsNotDone_22 rfl rfl ?_
        refine q_iload hC dX2_bitsNotDone_23 rfl rfl ?_
        obtain ⟨r105, h⟩ := h
        refine q_callVi hC (As := [.inl x1, .inl x4]) md_X2_doneFrom mv_X2_doneFrom ml_X2_90 ly_51 rfl dX2_bitsNotDone_25 rfl (Nat.le_of_ble_eq_true rfl) rfl rfl (b_X2_doneFrom hx1 hx4 r105) (fun x106 M107 hM108 r109 hk => ?_)
        obtain ⟨ee, hk⟩ := hk
        have ee := ee.symm
        subst ee
        have hk := hk.symm
        subst hk
        refine q_sipush hC dX2_bitsNotDone_28 (by decide) rfl ?_
        refine q_icmp_ne hC dX2_bitsNotDone_31 (t := 41) (by decide) rfl r109 (by decide) (fun c => ?_) (fun c => ?_)
        · have h := h.1 c
          refine q_iinc hC dX2_bitsNotDone_41 rfl (loc' := [some (.inr 51), some (.inl x1), some (.inl x2), some (.inl x3), some (.inl (x4 + 1))]) rfl rfl ?_
          refine q_goto hC dX2_bitsNotDone_44 (q := 5) (by decide) ?_
          exact h
        · have h := h.2 c
          refine q_iload_n hC dX2_bitsNotDone_34 rfl rfl ?_
          refine q_iconst hC dX2_bitsNotDone_35 rfl ?_
          refine q_iload hC dX2_bitsNotDone_36 rfl rfl ?_
          refine q_ishl hC dX2_bitsNotDone_38 rfl ?_
          refine q_ior hC dX2_bitsNotDone_39 rfl ?_
          refine q_istore_n hC dX2_bitsNotDone_40 (Nat.le_of_ble_eq_true rfl) (loc' := [some (.inr 51), some (.inl x1), some (.inl x2), some (.inl (qOr x3 (qShl 1 x4))), some (.inl x4)]) rfl rfl ?_
          refine q_iinc hC dX2_bitsNotDone_41 rfl (loc' := [some (.inr 51), some (.inl x1), some (.inl x2), some (.inl (qOr x3 (qShl 1 x4))), some (.inl (x4 + 1))]) rfl rfl ?_
          refine q_goto hC dX2_bitsNotDone_44 (q := 5) (by decide) ?_
          exact h
    · have ee := ee.symm
      subst ee
      have h := h.2 c
      refine q_if_eq hC dX2_bitsNotDone_18 (t := 41) (by decide) rfl (by decide) (fun c => ?_) (fun c => ?_)
      · refine q_iinc hC dX2_bitsNotDone_41 rfl (loc' := [some (.inr 51), some (.inl x1), some (.inl x2), some (.inl x3), some (.inl (x4 + 1))]) rfl rfl ?_
        refine q_goto hC dX2_bitsNotDone_44 (q := 5) (by decide) ?_
        exact h
      · exact absurd c (by decide)
set_option maxRecDepth 20000 in
theorem e_X2_doneBy {g : qG} {d : Nat} {M : qM} {K : Int → qM → Prop} {x1 : Int} {x2 : Int} {x3 : Int} (hx1 : qR x1) (hx2 : qR x2) (hx3 : qR x3) (h : ∀ C : qX, qCk g C cX2_doneBy RX2 6 (d + 1) → qRt g C (some .int) (qI K) → qW g C 6 [some (.inr 51), some (.inl x1), some (.inl x2), some (.inl x3), some (.inl 0), some (.inl 0)] [] M) : qOk g (d + 1) j_X2_doneBy [.inr 51, .inl x1, .inl x2, .inl x3] M (qI K) := by
  refine qOk.of (by decide) (Nat.le_of_ble_eq_true rfl) (fun C hC hQ => ?_)
  have hC : qCk g C cX2_doneBy RX2 6 (d + 1) := hC
  have hQ : qRt g C (some .int) (qI K) := hQ
  have h := h C hC hQ
  show qW g C 0 [some (.inr 51), some (.inl x1), some (.inl x2), some (.inl x3), none, none] [] M
  refine qW.rm (fun hM => ?_)
  refine q_iconst hC dX2_doneBy_0 rfl ?_
  refine q_istore hC dX2_doneBy_1 (Nat.le_of_ble_eq_true rfl) (loc' := [some (.inr 51), some (.inl x1), some (.inl x2), some (.inl x3), some (.inl 0), none]) rfl rfl ?_
  refine q_iconst hC dX2_doneBy_3 rfl ?_
  refine q_istore hC dX2_doneBy_4 (Nat.le_of_ble_eq_true rfl) (loc' := [some (.inr 51), some (.inl x1), some (.inl x2), some (.inl x3), some (.inl 0), some (.inl 0)]) rfl rfl ?_
  exact h
set_option maxRecDepth 20000 in
theorem s_X2_doneBy_6 {g : qG} {C : qX} {d : Nat} {M : qM} {K : Int → qM → Prop} (hC : qCk g C cX2_doneBy RX2 6 (d + 1)) (hQ : qRt g C (some .int) (qI K)) {x1 : Int} {x2 : Int} {x3 : Int} {x4 : Int} {x5 : Int} (hx1 : qR x1) (hx2 : qR x2) (hx3 : qR x3) (hx4 : qR x4) (hx5 : qR x5) (h : ((10 ≤ x5 → (K x4 M)) ∧ (x5 < 10 → (((qB x2 x5) → (0 ≤ ((x1 * 10) + x5) ∧ ((x1 * 10) + x5) < 100) ∧ ((x3 < (M 52 ((x1 * 10) + x5)) → (qW g C 6 [some (.inr 51), some (.inl x1), some (.inl x2), some (.inl x3), some (.inl x4), some (.inl (x5 + 1))] [] M)) ∧ ((M 52 ((x1 * 10) + x5)) ≤ x3 → (qW g C 6 [some (.inr 51), some (.inl x1), some (.inl x2), some (.inl x3), some (.inl (x4 + 1)), some (.inl (x5 + 1))] [] M)))) ∧ ((¬ qB x2 x5) → (qW g C 6 [some (.inr 51), some (.inl x1), some (.inl x2), some (.inl x3), some (.inl x4), some (.inl (x5 + 1))] [] M)))))) : qW g C 6 [some (.inr 51), some (.inl x1), some (.inl x2), some (.inl x3), some (.inl x4), some (.inl x5)] [] M := by
  refine qW.rm (fun hM => ?_)
  refine q_iload hC dX2_doneBy_6 rfl rfl ?_
  refine q_bipush hC dX2_doneBy_8 (by decide) rfl ?_
  refine q_icmp_ge hC dX2_doneBy_10 (t := 42) (by decide) rfl hx5 (by decide) (fun c => ?_) (fun c => ?_)
  · have h := h.1 c
    refine q_iload hC dX2_doneBy_42 rfl rfl ?_
    exact q_iret hC hQ dX2_doneBy_44 hx4 h
  · have h := h.2 c
    refine q_iload_n hC dX2_doneBy_13 rfl rfl ?_
    refine q_iload hC dX2_doneBy_14 rfl rfl ?_
    refine q_callSi hC (As := [.inl x2, .inl x5]) md_X7_hasBit ms_X7_hasBit ml_X2_93 dX2_doneBy_16 rfl (Nat.le_of_ble_eq_true rfl) rfl rfl (b_X7_hasBit hx2 hx5) (fun x101 M102 hM103 r104 hk => ?_)
    obtain ⟨ee, hk⟩ := hk
    have ee := ee.symm
    subst ee
    rcases hk with ⟨ee, c⟩ | ⟨ee, c⟩
    · have ee := ee.symm
      subst ee
      have h := h.1 c
      refine q_if_eq hC dX2_doneBy_19 (t := 36) (by decide) rfl (by decide) (fun c => ?_) (fun c => ?_)
      · exact absurd c (by decide)
      · refine q_aload_n hC dX2_doneBy_22 rfl rfl ?_
        refine q_iload_n hC dX2_doneBy_23 rfl rfl ?_
        refine q_iload hC dX2_doneBy_24 rfl rfl ?_
        obtain ⟨r105, h⟩ := h
        refine q_callVi hC (As := [.inl x1, .inl x5]) md_X2_doneFrom mv_X2_doneFrom ml_X2_90 ly_51 rfl dX2_doneBy_26 rfl (Nat.le_of_ble_eq_true rfl) rfl rfl (b_X2_doneFrom hx1 hx5 r105) (fun x106 M107 hM108 r109 hk => ?_)
        obtain ⟨ee, hk⟩ := hk
        have ee := ee.symm
        subst ee
        have hk := hk.symm
        subst hk
        refine q_iload_n hC dX2_doneBy_29 rfl rfl ?_
        refine q_icmp_gt hC dX2_doneBy_30 (t := 36) (by decide) rfl r109 hx3 (fun c => ?_) (fun c => ?_)
        · have h := h.1 c
          refine q_iinc hC dX2_doneBy_36 rfl (loc' := [some (.inr 51), some (.inl x1), some (.inl x2), some (.inl x3), some (.inl x4), some (.inl (x5 + 1))]) rfl rfl ?_
          refine q_goto hC dX2_doneBy_39 (q := 6) (by decide) ?_
          exact h
        · have h := h.2 c
          refine q_iinc hC dX2_doneBy_33 rfl (loc' := [some (.inr 51), some (.inl x1), some (.inl x2), some (.inl x3), some (.inl (x4 + 1)), some (.inl x5)]) rfl rfl ?_
          refine q_iinc hC dX2_doneBy_36 rfl (loc' := [some (.inr 51), some (.inl x1), some (.inl x2), some (.inl x3), some (.inl (x4 + 1)), some (.inl (x5 + 1))]) rfl rfl ?_
          refine q_goto hC dX2_doneBy_39 (q := 6) (by decide) ?_
          exact h
    · have ee := ee.symm
      subst ee
      have h := h.2 c
      refine q_if_eq hC dX2_doneBy_19 (t := 36) (by decide) rfl (by decide) (fun c => ?_) (fun c => ?_)
      · refine q_iinc hC dX2_doneBy_36 rfl (loc' := [some (.inr 51), some (.inl x1), some (.inl x2), some (.inl x3), some (.inl x4), some (.inl (x5 + 1))]) rfl rfl ?_
        refine q_goto hC dX2_doneBy_39 (q := 6) (by decide) ?_
        exact h
      · exact absurd c (by decide)
set_option maxRecDepth 20000 in
theorem e_X2_allFrom {g : qG} {d : Nat} {M : qM} {K : Int → qM → Prop} {x1 : Int} {x2 : Int} (hx1 : qR x1) (hx2 : qR x2) (h : ∀ C : qX, qCk g C cX2_allFrom RX2 5 (d + 1) → qRt g C (some .int) (qI K) → qW g C 5 [some (.inr 51), some (.inl x1), some (.inl x2), some (.inl 0), some (.inl 0)] [] M) : qOk g (d + 1) j_X2_allFrom [.inr 51, .inl x1, .inl x2] M (qI K) := by
  refine qOk.of (by decide) (Nat.le_of_ble_eq_true rfl) (fun C hC hQ => ?_)
  have hC : qCk g C cX2_allFrom RX2 5 (d + 1) := hC
  have hQ : qRt g C (some .int) (qI K) := hQ
  have h := h C hC hQ
  show qW g C 0 [some (.inr 51), some (.inl x1), some (.inl x2), none, none] [] M
  refine qW.rm (fun hM => ?_)
  refine q_iconst hC dX2_allFrom_0 rfl ?_
  refine q_istore_n hC dX2_allFrom_1 (Nat.le_of_ble_eq_true rfl) (loc' := [some (.inr 51), some (.inl x1), some (.inl x2), some (.inl 0), none]) rfl rfl ?_
  refine q_iconst hC dX2_allFrom_2 rfl ?_
  refine q_istore hC dX2_allFrom_3 (Nat.le_of_ble_eq_true rfl) (loc' := [some (.inr 51), some (.inl x1), some (.inl x2), some (.inl 0), some (.inl 0)]) rfl rfl ?_
  exact h
set_option maxRecDepth 20000 in
theorem s_X2_allFrom_5 {g : qG} {C : qX} {d : Nat} {M : qM} {K : Int → qM → Prop} (hC : qCk g C cX2_allFrom RX2 5 (d + 1)) (hQ : qRt g C (some .int) (qI K)) {x1 : Int} {x2 : Int} {x3 : Int} {x4 : Int} (hx1 : qR x1) (hx2 : qR x2) (hx3 : qR x3) (hx4 : qR x4) (h : ((10 ≤ x4 → (K x3 M)) ∧ (x4 < 10 → (((qB x2 x4) → (0 ≤ ((x1 * 10) + x4) ∧ ((x1 * 10) + x4) < 100) ∧ (qW g C 5 [some (.inr 51), some (.inl x1), some (.inl x2), some (.inl (max x3 (M 52 ((x1 * 10) + x4)))), some (.inl (x4 + 1))] [] M)) ∧ ((¬ qB x2 x4) → (qW g C 5 [some (.inr 51), some (.inl x1), some (.inl x2), some (.inl x3), some (.inl (x4 + 1))] [] M)))))) : qW g C 5 [some (.inr 51), some (.inl x1), some (.inl x2), some (.inl x3), some (.inl x4)] [] M := by
  refine qW.rm (fun hM => ?_)
  refine q_iload hC dX2_allFrom_5 rfl rfl ?_
  refine q_bipush hC dX2_allFrom_7 (by decide) rfl ?_
  refine q_icmp_ge hC dX2_allFrom_9 (t := 39) (by decide) rfl hx4 (by decide) (fun c => ?_) (fun c => ?_)
  · have h := h.1 c
    refine q_iload_n hC dX2_allFrom_39 rfl rfl ?_
    exact q_iret hC hQ dX2_allFrom_40 hx3 h
  · have h := h.2 c
    refine q_iload_n hC dX2_allFrom_12 rfl rfl ?_
    refine q_iload hC dX2_allFrom_13 rfl rfl ?_
    refine q_callSi hC (As := [.inl x2, .inl x4]) md_X7_hasBit ms_X7_hasBit ml_X2_93 dX2_allFrom_15 rfl (Nat.le_of_ble_eq_true rfl) rfl rfl (b_X7_hasBit hx2 hx4) (fun x101 M102 hM103 r104 hk => ?_)
    obtain ⟨ee, hk⟩ := hk
    have ee := ee.symm
    subst ee
    rcases hk with ⟨ee, c⟩ | ⟨ee, c⟩
    · have ee := ee.symm
      subst ee
      have h := h.1 c
      refine q_if_eq hC dX2_allFrom_18 (t := 33) (by decide) rfl (by decide) (fun c => ?_) (fun c => ?_)
      · exact absurd c (by decide)
      · refine q_iload_n hC dX2_allFrom_21 rfl rfl ?_
        refine q_aload_n hC dX2_allFrom_22 rfl rfl ?_
        refine q_iload_n hC dX2_allFrom_23 rfl rfl ?_
        refine q_iload hC dX2_allFrom_24 rfl rfl ?_
        obtain ⟨r105, h⟩ := h
        refine q_callVi hC (As := [.inl x1, .inl x4]) md_X2_doneFrom mv_X2_doneFrom ml_X2_90 ly_51 rfl dX2_allFrom_26 rfl (Nat.le_of_ble_eq_true rfl) rfl rfl (b_X2_doneFrom hx1 hx4 r105) (fun x106 M107 hM108 r109 hk => ?_)
        obtain ⟨ee, hk⟩ := hk
        have ee := ee.symm
        subst ee
        have hk := hk.symm
        subst hk
        refine q_mmax hC ml_X2_97 mm_max dX2_allFrom_29 (Nat.le_of_ble_eq_true rfl) rfl rfl hx3 r109 ?_
        refine q_istore_n hC dX2_allFrom_32 (Nat.le_of_ble_eq_true rfl) (loc' := [some (.inr 51), some (.inl x1), some (.inl x2), some (.inl (max x3 (M 52 ((x1 * 10) + x4)))), some (.inl x4)]) rfl rfl ?_
        refine q_iinc hC dX2_allFrom_33 rfl (loc' := [some (.inr 51), some (.inl x1), some (.inl x2), some (.inl (max x3 (M 52 ((x1 * 10) + x4)))), some (.inl (x4 + 1))]) rfl rfl ?_
        refine q_goto hC dX2_allFrom_36 (q := 5) (by decide) ?_
        exact h
    · have ee := ee.symm
      subst ee
      have h := h.2 c
      refine q_if_eq hC dX2_allFrom_18 (t := 33) (by decide) rfl (by decide) (fun c => ?_) (fun c => ?_)
      · refine q_iinc hC dX2_allFrom_33 rfl (loc' := [some (.inr 51), some (.inl x1), some (.inl x2), some (.inl x3), some (.inl (x4 + 1))]) rfl rfl ?_
        refine q_goto hC dX2_allFrom_36 (q := 5) (by decide) ?_
        exact h
      · exact absurd c (by decide)
set_option maxRecDepth 20000 in
theorem e_X2_someFrom {g : qG} {d : Nat} {M : qM} {K : Int → qM → Prop} {x1 : Int} {x2 : Int} {x3 : Int} (hx1 : qR x1) (hx2 : qR x2) (hx3 : qR x3) (h : ∀ C : qX, qCk g C cX2_someFrom RX2 7 (d + 2) → qRt g C (some .int) (qI K) → ((x3 ≠ 0 → (qW g C 14 [some (.inr 51), some (.inl x1), some (.inl x2), some (.inl x3), some (.inl 1000), some (.inl 0), none] [] M)) ∧ (x3 = 0 → (K 0 M)))) : qOk g (d + 2) j_X2_someFrom [.inr 51, .inl x1, .inl x2, .inl x3] M (qI K) := by
  refine qOk.of (by decide) (Nat.le_of_ble_eq_true rfl) (fun C hC hQ => ?_)
  have hC : qCk g C cX2_someFrom RX2 7 (d + 2) := hC
  have hQ : qRt g C (some .int) (qI K) := hQ
  have h := h C hC hQ
  show qW g C 0 [some (.inr 51), some (.inl x1), some (.inl x2), some (.inl x3), none, none, none] [] M
  refine qW.rm (fun hM => ?_)
  refine q_iload_n hC dX2_someFrom_0 rfl rfl ?_
  refine q_if_ne hC dX2_someFrom_1 (t := 6) (by decide) rfl hx3 (fun c => ?_) (fun c => ?_)
  · have h := h.1 c
    refine q_sipush hC dX2_someFrom_6 (by decide) rfl ?_
    refine q_istore hC dX2_someFrom_9 (Nat.le_of_ble_eq_true rfl) (loc' := [some (.inr 51), some (.inl x1), some (.inl x2), some (.inl x3), some (.inl 1000), none, none]) rfl rfl ?_
    refine q_iconst hC dX2_someFrom_11 rfl ?_
    refine q_istore hC dX2_someFrom_12 (Nat.le_of_ble_eq_true rfl) (loc' := [some (.inr 51), some (.inl x1), some (.inl x2), some (.inl x3), some (.inl 1000), some (.inl 0), none]) rfl rfl ?_
    exact h
  · have h := h.2 c
    refine q_iconst hC dX2_someFrom_4 rfl ?_
    exact q_iret hC hQ dX2_someFrom_5 (by decide) h
set_option maxRecDepth 20000 in
theorem s_X2_someFrom_14 {g : qG} {C : qX} {d : Nat} {M : qM} {K : Int → qM → Prop} (hC : qCk g C cX2_someFrom RX2 7 (d + 2)) (hQ : qRt g C (some .int) (qI K)) {x1 : Int} {x2 : Int} {x3 : Int} {x4 : Int} {x5 : Int} (hx1 : qR x1) (hx2 : qR x2) (hx3 : qR x3) (hx4 : qR x4) (hx5 : qR x5) (h : ((10 ≤ x5 → (K x4 M)) ∧ (x5 < 10 → (0 ≤ ((x1 * 10) + x5) ∧ ((x1 * 10) + x5) < 100) ∧ (((qB x2 x5) → ((x4 ≤ (M 52 ((x1 * 10) + x5)) → (qW g C 14 [some (.inr 51), some (.inl x1), some (.inl x2), some (.inl x3), some (.inl x4), some (.inl (x5 + 1)), none] [] M)) ∧ ((M 52 ((x1 * 10) + x5)) < x4 → (qOk g (d + 1) j_X2_doneBy [.inr 51, .inl x1, .inl x2, .inl (M 52 ((x1 * 10) + x5))] M (qI fun x112 M110 => ((x112 < x3 → (qW g C 14 [some (.inr 51), some (.inl x1), some (.inl x2), some (.inl x3), some (.inl x4), some (.inl (x5 + 1)), none] [] M110)) ∧ (x3 ≤ x112 → (qW g C 14 [some (.inr 51), some (.inl x1), some (.inl x2), some (.inl x3), some (.inl (M 52 ((x1 * 10) + x5))), some (.inl (x5 + 1)), none] [] M110)))))))) ∧ ((¬ qB x2 x5) → (qW g C 14 [some (.inr 51), some (.inl x1), some (.inl x2), some (.inl x3), some (.inl x4), some (.inl (x5 + 1)), none] [] M)))))) : qW g C 14 [some (.inr 51), some (.inl x1), some (.inl x2), some (.inl x3), some (.inl x4), some (.inl x5), none] [] M := by
  refine qW.rm (fun hM => ?_)
  refine q_iload hC dX2_someFrom_14 rfl rfl ?_
  refine q_bipush hC dX2_someFrom_16 (by decide) rfl ?_
  refine q_icmp_ge hC dX2_someFrom_18 (t := 68) (by decide) rfl hx5 (by decide) (fun c => ?_) (fun c => ?_)
  · have h := h.1 c
    refine q_iload hC dX2_someFrom_68 rfl rfl ?_
    exact q_iret hC hQ dX2_someFrom_70 hx4 h
  · have h := h.2 c
    refine q_aload_n hC dX2_someFrom_21 rfl rfl ?_
    refine q_iload_n hC dX2_someFrom_22 rfl rfl ?_
    refine q_iload hC dX2_someFrom_23 rfl rfl ?_
    obtain ⟨r101, h⟩ := h
    refine q_callVi hC (As := [.inl x1, .inl x5]) md_X2_doneFrom mv_X2_doneFrom ml_X2_90 ly_51 rfl dX2_someFrom_25 rfl (Nat.le_of_ble_eq_true rfl) rfl rfl (b_X2_doneFrom hx1 hx5 r101) (fun x102 M103 hM104 r105 hk => ?_)
    obtain ⟨ee, hk⟩ := hk
    have ee := ee.symm
    subst ee
    have hk := hk.symm
    subst hk
    refine q_istore hC dX2_someFrom_28 (Nat.le_of_ble_eq_true rfl) (loc' := [some (.inr 51), some (.inl x1), some (.inl x2), some (.inl x3), some (.inl x4), some (.inl x5), some (.inl (M 52 ((x1 * 10) + x5)))]) rfl rfl ?_
    refine q_iload_n hC dX2_someFrom_30 rfl rfl ?_
    refine q_iload hC dX2_someFrom_31 rfl rfl ?_
    refine q_callSi hC (As := [.inl x2, .inl x5]) md_X7_hasBit ms_X7_hasBit ml_X2_93 dX2_someFrom_33 rfl (Nat.le_of_ble_eq_true rfl) rfl rfl (b_X7_hasBit hx2 hx5) (fun x106 M107 hM108 r109 hk => ?_)
    obtain ⟨ee, hk⟩ := hk
    have ee := ee.symm
    subst ee
    rcases hk with ⟨ee, c⟩ | ⟨ee, c⟩
    · have ee := ee.symm
      subst ee
      have h := h.1 c
      refine q_if_eq hC dX2_someFrom_36 (t := 62) (by decide) rfl (by decide) (fun c => ?_) (fun c => ?_)
      · exact absurd c (by decide)
      · refine q_iload hC dX2_someFrom_39 rfl rfl ?_
        refine q_iload hC dX2_someFrom_41 rfl rfl ?_
        refine q_icmp_ge hC dX2_someFrom_43 (t := 62) (by decide) rfl r105 hx4 (fun c => ?_) (fun c => ?_)
        · have h := h.1 c
          refine q_iinc hC dX2_someFrom_62 rfl (loc' := [some (.inr 51), some (.inl x1), some (.inl x2), some (.inl x3), some (.inl x4), some (.inl (x5 + 1)), some (.inl (M 52 ((x1 * 10) + x5)))]) rfl rfl ?_
          refine q_goto hC dX2_someFrom_65 (q := 14) (by decide) ?_
          refine qW.kill 6 (loc' := [some (.inr 51), some (.inl x1), some (.inl x2), some (.inl x3), some (.inl x4), some (.inl (x5 + 1)), none]) rfl ?_
          exact h
        · have h := h.2 c
          refine q_aload_n hC dX2_someFrom_46 rfl rfl ?_
          refine q_iload_n hC dX2_someFrom_47 rfl rfl ?_
          refine q_iload_n hC dX2_someFrom_48 rfl rfl ?_
          refine q_iload hC dX2_someFrom_49 rfl rfl ?_
          refine q_callVi hC (As := [.inl x1, .inl x2, .inl (M 52 ((x1 * 10) + x5))]) md_X2_doneBy mv_X2_doneBy ml_X2_100 ly_51 rfl dX2_someFrom_51 rfl (Nat.le_of_ble_eq_true rfl) rfl rfl h (fun x112 M110 hM111 r113 h => ?_)
          refine q_iload_n hC dX2_someFrom_54 rfl rfl ?_
          refine q_icmp_lt hC dX2_someFrom_55 (t := 62) (by decide) rfl r113 hx3 (fun c => ?_) (fun c => ?_)
          · have h := h.1 c
            refine q_iinc hC dX2_someFrom_62 rfl (loc' := [some (.inr 51), some (.inl x1), some (.inl x2), some (.inl x3), some (.inl x4), some (.inl (x5 + 1)), some (.inl (M 52 ((x1 * 10) + x5)))]) rfl rfl ?_
            refine q_goto hC dX2_someFrom_65 (q := 14) (by decide) ?_
            refine qW.kill 6 (loc' := [some (.inr 51), some (.inl x1), some (.inl x2), some (.inl x3), some (.inl x4), some (.inl (x5 + 1)), none]) rfl ?_
            exact h
          · have h := h.2 c
            refine q_iload hC dX2_someFrom_58 rfl rfl ?_
            refine q_istore hC dX2_someFrom_60 (Nat.le_of_ble_eq_true rfl) (loc' := [some (.inr 51), some (.inl x1), some (.inl x2), some (.inl x3), some (.inl (M 52 ((x1 * 10) + x5))), some (.inl x5), some (.inl (M 52 ((x1 * 10) + x5)))]) rfl rfl ?_
            refine q_iinc hC dX2_someFrom_62 rfl (loc' := [some (.inr 51), some (.inl x1), some (.inl x2), some (.inl x3), some (.inl (M 52 ((x1 * 10) + x5))), some (.inl (x5 + 1)), some (.inl (M 52 ((x1 * 10) + x5)))]) rfl rfl ?_
            refine q_goto hC dX2_someFrom_65 (q := 14) (by decide) ?_
            refine qW.kill 6 (loc' := [some (.inr 51), some (.inl x1), some (.inl x2), some (.inl x3), some (.inl (M 52 ((x1 * 10) + x5))), some (.inl (x5 + 1)), none]) rfl ?_
            exact h
    · have ee := ee.symm
      subst ee
      have h := h.2 c
      refine q_if_eq hC dX2_someFrom_36 (t := 62) (by decide) rfl (by decide) (fun c => ?_) (fun c => ?_)
      · refine q_iinc hC dX2_someFrom_62 rfl (loc' := [some (.inr 51), some (.inl x1), some (.inl x2), some (.inl x3), some (.inl x4), some (.inl (x5 + 1)), some (.inl (M 52 ((x1 * 10) + x5)))]) rfl rfl ?_
        refine q_goto hC dX2_someFrom_65 (q := 14) (by decide) ?_
        refine qW.kill 6 (loc' := [some (.inr 51), some (.inl x1), some (.inl x2), some (.inl x3), some (.inl x4), some (.inl (x5 + 1)), none]) rfl ?_
        exact h
      · exact absurd c (by decide)
set_option maxRecDepth 20000 in
theorem e_X2_readDone {g : qG} {d : Nat} {M : qM} {K : qM → Prop}   (h : ∀ C : qX, qCk g C cX2_readDone RX2 3 (d + 3) → qRt g C none (qN K) → qOk g (d + 2) j_J7_fill_53178 [.inr 52, .inl 1000] M (qN fun M101 => qW g C 12 [some (.inr 51), some (.inr 1), some (.inl 0)] [] M101)) : qOk g (d + 3) j_X2_readDone [.inr 51, .inr 1] M (qN K) := by
  refine qOk.of (by decide) (Nat.le_of_ble_eq_true rfl) (fun C hC hQ => ?_)
  have hC : qCk g C cX2_readDone RX2 3 (d + 3) := hC
  have hQ : qRt g C none (qN K) := hQ
  have h := h C hC hQ
  show qW g C 0 [some (.inr 51), some (.inr 1), none] [] M
  refine qW.rm (fun hM => ?_)
  refine q_aload_n hC dX2_readDone_0 rfl rfl ?_
  refine q_getr hC fl_X2_9 ly_51 rfl dX2_readDone_1 rfl ?_
  refine q_sipush hC dX2_readDone_4 (by decide) rfl ?_
  refine q_callSv hC (As := [.inr 52, .inl 1000]) md_J7_fill_53178 ms_J7_fill_53178 ml_X2_18 dX2_readDone_7 rfl (Nat.le_of_ble_eq_true rfl) rfl rfl h (fun M101 hM102 h => ?_)
  refine q_iconst hC dX2_readDone_10 rfl ?_
  refine q_istore_n hC dX2_readDone_11 (Nat.le_of_ble_eq_true rfl) (loc' := [some (.inr 51), some (.inr 1), some (.inl 0)]) rfl rfl ?_
  exact h
set_option maxRecDepth 20000 in
theorem s_X2_readDone_12 {g : qG} {C : qX} {d : Nat} {M : qM} {K : qM → Prop} (hC : qCk g C cX2_readDone RX2 3 (d + 3)) (hQ : qRt g C none (qN K)) {x2 : Int} (hx2 : qR x2) (h : (((M 8 0) ≤ x2 → (K M)) ∧ (x2 < (M 8 0) → (qOk g (d + 2) j_X2_readTask [.inr 51, .inr 1, .inl x2] M (qN fun M101 => qW g C 12 [some (.inr 51), some (.inr 1), some (.inl (x2 + 1))] [] M101))))) : qW g C 12 [some (.inr 51), some (.inr 1), some (.inl x2)] [] M := by
  refine qW.rm (fun hM => ?_)
  refine q_iload_n hC dX2_readDone_12 rfl rfl ?_
  refine q_aload_n hC dX2_readDone_13 rfl rfl ?_
  refine q_getr hC fl_X2_24 ly_1 rfl dX2_readDone_14 rfl ?_
  refine q_geti hC fl_X2_30 ly_8 rfl (z := 0) rfl dX2_readDone_17 rfl ?_
  refine q_icmp_ge hC dX2_readDone_20 (t := 35) (by decide) rfl hx2 (hM 8 0) (fun c => ?_) (fun c => ?_)
  · have h := h.1 c
    exact q_vret hC hQ dX2_readDone_35 h
  · have h := h.2 c
    refine q_aload_n hC dX2_readDone_23 rfl rfl ?_
    refine q_aload_n hC dX2_readDone_24 rfl rfl ?_
    refine q_iload_n hC dX2_readDone_25 rfl rfl ?_
    refine q_callVv hC (As := [.inr 1, .inl x2]) md_X2_readTask mv_X2_readTask ml_X2_36 ly_51 rfl dX2_readDone_26 rfl (Nat.le_of_ble_eq_true rfl) rfl rfl h (fun M101 hM102 h => ?_)
    refine q_iinc hC dX2_readDone_29 rfl (loc' := [some (.inr 51), some (.inr 1), some (.inl (x2 + 1))]) rfl rfl ?_
    refine q_goto hC dX2_readDone_32 (q := 12) (by decide) ?_
    exact h
set_option maxRecDepth 20000 in
theorem e_X2_readTask {g : qG} {d : Nat} {M : qM} {K : qM → Prop} {x2 : Int} (hx2 : qR x2) (h : ∀ C : qX, qCk g C cX2_readTask RX2 6 (d + 2) → qRt g C none (qN K) → qW g C 8 [some (.inr 51), some (.inr 1), some (.inl x2), some (.inr 16), some (.inl 0), none] [] M) : qOk g (d + 2) j_X2_readTask [.inr 51, .inr 1, .inl x2] M (qN K) := by
  refine qOk.of (by decide) (Nat.le_of_ble_eq_true rfl) (fun C hC hQ => ?_)
  have hC : qCk g C cX2_readTask RX2 6 (d + 2) := hC
  have hQ : qRt g C none (qN K) := hQ
  have h := h C hC hQ
  show qW g C 0 [some (.inr 51), some (.inr 1), some (.inl x2), none, none, none] [] M
  refine qW.rm (fun hM => ?_)
  refine q_aload_n hC dX2_readTask_0 rfl rfl ?_
  refine q_getr hC fl_X2_40 ly_1 rfl dX2_readTask_1 rfl ?_
  refine q_astore_n hC dX2_readTask_4 (Nat.le_of_ble_eq_true rfl) (loc' := [some (.inr 51), some (.inr 1), some (.inl x2), some (.inr 16), none, none]) rfl rfl ?_
  refine q_iconst hC dX2_readTask_5 rfl ?_
  refine q_istore hC dX2_readTask_6 (Nat.le_of_ble_eq_true rfl) (loc' := [some (.inr 51), some (.inr 1), some (.inl x2), some (.inr 16), some (.inl 0), none]) rfl rfl ?_
  exact h
set_option maxRecDepth 20000 in
theorem s_X2_readTask_8 {g : qG} {C : qX} {d : Nat} {M : qM} {K : qM → Prop} (hC : qCk g C cX2_readTask RX2 6 (d + 2)) (hQ : qRt g C none (qN K)) {x2 : Int} {x4 : Int} (hx2 : qR x2) (hx4 : qR x4) (h : (((M 16 0) ≤ x4 → (K M)) ∧ (x4 < (M 16 0) → (0 ≤ x4 ∧ x4 < 80) ∧ (((M 18 x4) ≠ x2 → (qW g C 8 [some (.inr 51), some (.inr 1), some (.inl x2), some (.inr 16), some (.inl (x4 + 1)), none] [] M)) ∧ ((M 18 x4) = x2 → (qOk g (d + 1) j_X2_counts [.inr 51, .inr 1, .inl x4] M (qI fun x104 M102 => ((x104 = 0 → (qW g C 8 [some (.inr 51), some (.inr 1), some (.inl x2), some (.inr 16), some (.inl (x4 + 1)), none] [] M102)) ∧ (x104 ≠ 0 → (0 ≤ (((M102 17 x4) * 10) + x2) ∧ (((M102 17 x4) * 10) + x2) < 100) ∧ (qW g C 8 [some (.inr 51), some (.inr 1), some (.inl x2), some (.inr 16), some (.inl (x4 + 1)), none] [] (qU M102 52 (((M102 17 x4) * 10) + x2) (min (M102 52 (((M102 17 x4) * 10) + x2)) (M102 20 x4))))))))))))) : qW g C 8 [some (.inr 51), some (.inr 1), some (.inl x2), some (.inr 16), some (.inl x4), none] [] M := by
  refine qW.rm (fun hM => ?_)
  refine q_iload hC dX2_readTask_8 rfl rfl ?_
  refine q_aload_n hC dX2_readTask_10 rfl rfl ?_
  refine q_geti hC fl_X2_44 ly_16 rfl (z := 0) rfl dX2_readTask_11 rfl ?_
  refine q_icmp_ge hC dX2_readTask_14 (t := 82) (by decide) rfl hx4 (hM 16 0) (fun c => ?_) (fun c => ?_)
  · have h := h.1 c
    exact q_vret hC hQ dX2_readTask_82 h
  · have h := h.2 c
    refine q_aload_n hC dX2_readTask_17 rfl rfl ?_
    refine q_getr hC fl_X2_49 ly_16 rfl dX2_readTask_18 rfl ?_
    refine q_iload hC dX2_readTask_21 rfl rfl ?_
    obtain ⟨r101, h⟩ := h
    refine q_iald hC ly_18 dX2_readTask_23 rfl r101 ?_
    refine q_iload_n hC dX2_readTask_24 rfl rfl ?_
    refine q_icmp_ne hC dX2_readTask_25 (t := 76) (by decide) rfl (hM 18 x4) hx2 (fun c => ?_) (fun c => ?_)
    · have h := h.1 c
      refine q_iinc hC dX2_readTask_76 rfl (loc' := [some (.inr 51), some (.inr 1), some (.inl x2), some (.inr 16), some (.inl (x4 + 1)), none]) rfl rfl ?_
      refine q_goto hC dX2_readTask_79 (q := 8) (by decide) ?_
      exact h
    · have h := h.2 c
      refine q_aload_n hC dX2_readTask_28 rfl rfl ?_
      refine q_aload_n hC dX2_readTask_29 rfl rfl ?_
      refine q_iload hC dX2_readTask_30 rfl rfl ?_
      refine q_callVi hC (As := [.inr 1, .inl x4]) md_X2_counts mv_X2_counts ml_X2_51 ly_51 rfl dX2_readTask_32 rfl (Nat.le_of_ble_eq_true rfl) rfl rfl h (fun x104 M102 hM103 r105 h => ?_)
      refine q_if_eq hC dX2_readTask_35 (t := 76) (by decide) rfl r105 (fun c => ?_) (fun c => ?_)
      · have h := h.1 c
        refine q_iinc hC dX2_readTask_76 rfl (loc' := [some (.inr 51), some (.inr 1), some (.inl x2), some (.inr 16), some (.inl (x4 + 1)), none]) rfl rfl ?_
        refine q_goto hC dX2_readTask_79 (q := 8) (by decide) ?_
        exact h
      · have h := h.2 c
        refine q_aload_n hC dX2_readTask_38 rfl rfl ?_
        refine q_getr hC fl_X2_55 ly_16 rfl dX2_readTask_39 rfl ?_
        refine q_iload hC dX2_readTask_42 rfl rfl ?_
        refine q_iald hC ly_17 dX2_readTask_44 rfl r101 ?_
        refine q_bipush hC dX2_readTask_45 (by decide) rfl ?_
        refine q_imul hC dX2_readTask_47 rfl ?_
        refine q_iload_n hC dX2_readTask_48 rfl rfl ?_
        refine q_iadd hC dX2_readTask_49 rfl ?_
        refine q_istore hC dX2_readTask_50 (Nat.le_of_ble_eq_true rfl) (loc' := [some (.inr 51), some (.inr 1), some (.inl x2), some (.inr 16), some (.inl x4), some (.inl (((M102 17 x4) * 10) + x2))]) rfl rfl ?_
        refine q_aload_n hC dX2_readTask_52 rfl rfl ?_
        refine q_getr hC fl_X2_9 ly_51 rfl dX2_readTask_53 rfl ?_
        refine q_iload hC dX2_readTask_56 rfl rfl ?_
        refine q_aload_n hC dX2_readTask_58 rfl rfl ?_
        refine q_getr hC fl_X2_9 ly_51 rfl dX2_readTask_59 rfl ?_
        refine q_iload hC dX2_readTask_62 rfl rfl ?_
        obtain ⟨r106, h⟩ := h
        refine q_iald hC ly_52 dX2_readTask_64 rfl r106 ?_
        refine q_aload_n hC dX2_readTask_65 rfl rfl ?_
        refine q_getr hC fl_X2_58 ly_16 rfl dX2_readTask_66 rfl ?_
        refine q_iload hC dX2_readTask_69 rfl rfl ?_
        refine q_iald hC ly_20 dX2_readTask_71 rfl r101 ?_
        refine q_mmin hC ml_X2_61 mm_min dX2_readTask_72 (Nat.le_of_ble_eq_true rfl) rfl rfl (hM103 52 (((M102 17 x4) * 10) + x2)) (hM103 20 x4) ?_
        have hM107 : qIn (qU M102 52 (((M102 17 x4) * 10) + x2) (min (M102 52 (((M102 17 x4) * 10) + x2)) (M102 20 x4))) := (qU_in hM103 (q_rmin (hM103 52 (((M102 17 x4) * 10) + x2)) (hM103 20 x4)))
        refine q_iast hC ly_52 dX2_readTask_75 rfl r106 (q_rmin (hM103 52 (((M102 17 x4) * 10) + x2)) (hM103 20 x4)) ?_
        refine q_iinc hC dX2_readTask_76 rfl (loc' := [some (.inr 51), some (.inr 1), some (.inl x2), some (.inr 16), some (.inl (x4 + 1)), some (.inl (((M102 17 x4) * 10) + x2))]) rfl rfl ?_
        refine q_goto hC dX2_readTask_79 (q := 8) (by decide) ?_
        refine qW.kill 5 (loc' := [some (.inr 51), some (.inr 1), some (.inl x2), some (.inr 16), some (.inl (x4 + 1)), none]) rfl ?_
        exact h
set_option maxRecDepth 20000 in
theorem e_X2_counts {g : qG} {d : Nat} {M : qM} {K : Int → qM → Prop} {x2 : Int} (hx2 : qR x2) (h : (0 ≤ x2 ∧ x2 < 80) ∧ (((M 21 x2) = 0 → (0 ≤ (M 18 x2) ∧ (M 18 x2) < 10) ∧ (0 ≤ (((M 19 x2) * 4) + (M 9 (M 18 x2))) ∧ (((M 19 x2) * 4) + (M 9 (M 18 x2))) < 20) ∧ (((M 5 (((M 19 x2) * 4) + (M 9 (M 18 x2)))) ≤ (M 20 x2) ∧ (M 20 x2) ≤ (M 6 (((M 19 x2) * 4) + (M 9 (M 18 x2)))) → (((M 10 (M 18 x2)) = (-1) → (K 1 M)) ∧ ((M 10 (M 18 x2)) ≠ (-1) → (0 ≤ (((M 17 x2) * 10) + (M 10 (M 18 x2))) ∧ (((M 17 x2) * 10) + (M 10 (M 18 x2))) < 100) ∧ (((M 20 x2) < (M 52 (((M 17 x2) * 10) + (M 10 (M 18 x2)))) → (K 0 M)) ∧ ((M 52 (((M 17 x2) * 10) + (M 10 (M 18 x2)))) ≤ (M 20 x2) → (K 1 M)))))) ∧ ((M 20 x2) < (M 5 (((M 19 x2) * 4) + (M 9 (M 18 x2)))) ∨ (M 6 (((M 19 x2) * 4) + (M 9 (M 18 x2)))) < (M 20 x2) → (K 0 M)))) ∧ ((M 21 x2) ≠ 0 → (K 0 M)))) : qOk g (d + 1) j_X2_counts [.inr 51, .inr 1, .inl x2] M (qI K) := by
  refine qOk.of (by decide) (Nat.le_of_ble_eq_true rfl) (fun C hC hQ => ?_)
  have hC : qCk g C cX2_counts RX2 7 (d + 1) := hC
  have hQ : qRt g C (some .boolean) (qI K) := hQ
  show qW g C 0 [some (.inr 51), some (.inr 1), some (.inl x2), none, none, none, none] [] M
  refine qW.rm (fun hM => ?_)
  refine q_aload_n hC dX2_counts_0 rfl rfl ?_
  refine q_getr hC fl_X2_40 ly_1 rfl dX2_counts_1 rfl ?_
  refine q_astore_n hC dX2_counts_4 (Nat.le_of_ble_eq_true rfl) (loc' := [some (.inr 51), some (.inr 1), some (.inl x2), some (.inr 16), none, none, none]) rfl rfl ?_
  refine q_aload_n hC dX2_counts_5 rfl rfl ?_
  refine q_getr hC fl_X2_67 ly_16 rfl dX2_counts_6 rfl ?_
  refine q_iload_n hC dX2_counts_9 rfl rfl ?_
  obtain ⟨r101, h⟩ := h
  refine q_zald hC ly_21 dX2_counts_10 rfl r101 ?_
  refine q_if_eq hC dX2_counts_11 (t := 16) (by decide) rfl (hM 21 x2) (fun c => ?_) (fun c => ?_)
  · have h := h.1 c
    refine q_aload_n hC dX2_counts_16 rfl rfl ?_
    refine q_getr hC fl_X2_49 ly_16 rfl dX2_counts_17 rfl ?_
    refine q_iload_n hC dX2_counts_20 rfl rfl ?_
    refine q_iald hC ly_18 dX2_counts_21 rfl r101 ?_
    refine q_istore hC dX2_counts_22 (Nat.le_of_ble_eq_true rfl) (loc' := [some (.inr 51), some (.inr 1), some (.inl x2), some (.inr 16), some (.inl (M 18 x2)), none, none]) rfl rfl ?_
    refine q_aload_n hC dX2_counts_24 rfl rfl ?_
    refine q_getr hC fl_X2_58 ly_16 rfl dX2_counts_25 rfl ?_
    refine q_iload_n hC dX2_counts_28 rfl rfl ?_
    refine q_iald hC ly_20 dX2_counts_29 rfl r101 ?_
    refine q_istore hC dX2_counts_30 (Nat.le_of_ble_eq_true rfl) (loc' := [some (.inr 51), some (.inr 1), some (.inl x2), some (.inr 16), some (.inl (M 18 x2)), some (.inl (M 20 x2)), none]) rfl rfl ?_
    refine q_aload_n hC dX2_counts_32 rfl rfl ?_
    refine q_getr hC fl_X2_71 ly_1 rfl dX2_counts_33 rfl ?_
    refine q_aload_n hC dX2_counts_36 rfl rfl ?_
    refine q_getr hC fl_X2_75 ly_16 rfl dX2_counts_37 rfl ?_
    refine q_iload_n hC dX2_counts_40 rfl rfl ?_
    refine q_iald hC ly_19 dX2_counts_41 rfl r101 ?_
    refine q_aload_n hC dX2_counts_42 rfl rfl ?_
    refine q_getr hC fl_X2_24 ly_1 rfl dX2_counts_43 rfl ?_
    refine q_getr hC fl_X2_78 ly_8 rfl dX2_counts_46 rfl ?_
    refine q_iload hC dX2_counts_49 rfl rfl ?_
    obtain ⟨r102, h⟩ := h
    refine q_iald hC ly_9 dX2_counts_51 rfl r102 ?_
    refine q_iload hC dX2_counts_52 rfl rfl ?_
    obtain ⟨r103, h⟩ := h
    refine q_callVi hC (As := [.inl (M 19 x2), .inl (M 9 (M 18 x2)), .inl (M 20 x2)]) md_X3_hasPaper mv_X3_hasPaper ml_X2_81 ly_2 rfl dX2_counts_54 rfl (Nat.le_of_ble_eq_true rfl) rfl rfl (b_X3_hasPaper (hM 19 x2) (hM 9 (M 18 x2)) (hM 20 x2) r103) (fun x104 M105 hM106 r107 hk => ?_)
    obtain ⟨ee, hk⟩ := hk
    have ee := ee.symm
    subst ee
    rcases hk with ⟨ee, c⟩ | ⟨ee, c⟩
    · have ee := ee.symm
      subst ee
      have h := h.1 c
      refine q_if_ne hC dX2_counts_57 (t := 62) (by decide) rfl (by decide) (fun c => ?_) (fun c => ?_)
      · refine q_aload_n hC dX2_counts_62 rfl rfl ?_
        refine q_getr hC fl_X2_24 ly_1 rfl dX2_counts_63 rfl ?_
        refine q_getr hC fl_X2_87 ly_8 rfl dX2_counts_66 rfl ?_
        refine q_iload hC dX2_counts_69 rfl rfl ?_
        refine q_iald hC ly_10 dX2_counts_71 rfl r102 ?_
        refine q_istore hC dX2_counts_72 (Nat.le_of_ble_eq_true rfl) (loc' := [some (.inr 51), some (.inr 1), some (.inl x2), some (.inr 16), some (.inl (M 18 x2)), some (.inl (M 20 x2)), some (.inl (M 10 (M 18 x2)))]) rfl rfl ?_
        refine q_iload hC dX2_counts_74 rfl rfl ?_
        refine q_iconst hC dX2_counts_76 rfl ?_
        refine q_icmp_eq hC dX2_counts_77 (t := 97) (by decide) rfl (hM 10 (M 18 x2)) (by decide) (fun c => ?_) (fun c => ?_)
        · have h := h.1 c
          refine q_iconst hC dX2_counts_97 rfl ?_
          refine q_goto hC dX2_counts_98 (q := 102) (by decide) ?_
          exact q_zret hC hQ dX2_counts_102 (by decide) h
        · have h := h.2 c
          refine q_aload_n hC dX2_counts_80 rfl rfl ?_
          refine q_aload_n hC dX2_counts_81 rfl rfl ?_
          refine q_getr hC fl_X2_55 ly_16 rfl dX2_counts_82 rfl ?_
          refine q_iload_n hC dX2_counts_85 rfl rfl ?_
          refine q_iald hC ly_17 dX2_counts_86 rfl r101 ?_
          refine q_iload hC dX2_counts_87 rfl rfl ?_
          obtain ⟨r108, h⟩ := h
          refine q_callVi hC (As := [.inl (M 17 x2), .inl (M 10 (M 18 x2))]) md_X2_doneFrom mv_X2_doneFrom ml_X2_90 ly_51 rfl dX2_counts_89 rfl (Nat.le_of_ble_eq_true rfl) rfl rfl (b_X2_doneFrom (hM 17 x2) (hM 10 (M 18 x2)) r108) (fun x109 M110 hM111 r112 hk => ?_)
          obtain ⟨ee, hk⟩ := hk
          have ee := ee.symm
          subst ee
          have hk := hk.symm
          subst hk
          refine q_iload hC dX2_counts_92 rfl rfl ?_
          refine q_icmp_gt hC dX2_counts_94 (t := 101) (by decide) rfl r112 (hM 20 x2) (fun c => ?_) (fun c => ?_)
          · have h := h.1 c
            refine q_iconst hC dX2_counts_101 rfl ?_
            exact q_zret hC hQ dX2_counts_102 (by decide) h
          · have h := h.2 c
            refine q_iconst hC dX2_counts_97 rfl ?_
            refine q_goto hC dX2_counts_98 (q := 102) (by decide) ?_
            exact q_zret hC hQ dX2_counts_102 (by decide) h
      · exact absurd c (by decide)
    · have ee := ee.symm
      subst ee
      have h := h.2 c
      refine q_if_ne hC dX2_counts_57 (t := 62) (by decide) rfl (by decide) (fun c => ?_) (fun c => ?_)
      · exact absurd c (by decide)
      · refine q_iconst hC dX2_counts_60 rfl ?_
        exact q_zret hC hQ dX2_counts_61 (by decide) h
  · have h := h.2 c
    refine q_iconst hC dX2_counts_14 rfl ?_
    exact q_zret hC hQ dX2_counts_15 (by decide) h
set_option maxRecDepth 20000 in
theorem e_X2_countCounting {g : qG} {d : Nat} {M : qM} {K : Int → qM → Prop}   (h : ∀ C : qX, qCk g C cX2_countCounting RX2 4 (d + 2) → qRt g C (some .int) (qI K) → qW g C 4 [some (.inr 51), some (.inr 1), some (.inl 0), some (.inl 0)] [] M) : qOk g (d + 2) j_X2_countCounting [.inr 51, .inr 1] M (qI K) := by
  refine qOk.of (by decide) (Nat.le_of_ble_eq_true rfl) (fun C hC hQ => ?_)
  have hC : qCk g C cX2_countCounting RX2 4 (d + 2) := hC
  have hQ : qRt g C (some .int) (qI K) := hQ
  have h := h C hC hQ
  show qW g C 0 [some (.inr 51), some (.inr 1), none, none] [] M
  refine qW.rm (fun hM => ?_)
  refine q_iconst hC dX2_countCounting_0 rfl ?_
  refine q_istore_n hC dX2_countCounting_1 (Nat.le_of_ble_eq_true rfl) (loc' := [some (.inr 51), some (.inr 1), some (.inl 0), none]) rfl rfl ?_
  refine q_iconst hC dX2_countCounting_2 rfl ?_
  refine q_istore_n hC dX2_countCounting_3 (Nat.le_of_ble_eq_true rfl) (loc' := [some (.inr 51), some (.inr 1), some (.inl 0), some (.inl 0)]) rfl rfl ?_
  exact h
set_option maxRecDepth 20000 in
theorem s_X2_countCounting_4 {g : qG} {C : qX} {d : Nat} {M : qM} {K : Int → qM → Prop} (hC : qCk g C cX2_countCounting RX2 4 (d + 2)) (hQ : qRt g C (some .int) (qI K)) {x2 : Int} {x3 : Int} (hx2 : qR x2) (hx3 : qR x3) (h : (((M 16 0) ≤ x3 → (K x2 M)) ∧ (x3 < (M 16 0) → (qOk g (d + 1) j_X2_counts [.inr 51, .inr 1, .inl x3] M (qI fun x103 M101 => ((x103 = 0 → (qW g C 4 [some (.inr 51), some (.inr 1), some (.inl x2), some (.inl (x3 + 1))] [] M101)) ∧ (x103 ≠ 0 → (qW g C 4 [some (.inr 51), some (.inr 1), some (.inl (x2 + 1)), some (.inl (x3 + 1))] [] M101)))))))) : qW g C 4 [some (.inr 51), some (.inr 1), some (.inl x2), some (.inl x3)] [] M := by
  refine qW.rm (fun hM => ?_)
  refine q_iload_n hC dX2_countCounting_4 rfl rfl ?_
  refine q_aload_n hC dX2_countCounting_5 rfl rfl ?_
  refine q_getr hC fl_X2_40 ly_1 rfl dX2_countCounting_6 rfl ?_
  refine q_geti hC fl_X2_44 ly_16 rfl (z := 0) rfl dX2_countCounting_9 rfl ?_
  refine q_icmp_ge hC dX2_countCounting_12 (t := 33) (by decide) rfl hx3 (hM 16 0) (fun c => ?_) (fun c => ?_)
  · have h := h.1 c
    refine q_iload_n hC dX2_countCounting_33 rfl rfl ?_
    exact q_iret hC hQ dX2_countCounting_34 hx2 h
  · have h := h.2 c
    refine q_aload_n hC dX2_countCounting_15 rfl rfl ?_
    refine q_aload_n hC dX2_countCounting_16 rfl rfl ?_
    refine q_iload_n hC dX2_countCounting_17 rfl rfl ?_
    refine q_callVi hC (As := [.inr 1, .inl x3]) md_X2_counts mv_X2_counts ml_X2_51 ly_51 rfl dX2_countCounting_18 rfl (Nat.le_of_ble_eq_true rfl) rfl rfl h (fun x103 M101 hM102 r104 h => ?_)
    refine q_if_eq hC dX2_countCounting_21 (t := 27) (by decide) rfl r104 (fun c => ?_) (fun c => ?_)
    · have h := h.1 c
      refine q_iinc hC dX2_countCounting_27 rfl (loc' := [some (.inr 51), some (.inr 1), some (.inl x2), some (.inl (x3 + 1))]) rfl rfl ?_
      refine q_goto hC dX2_countCounting_30 (q := 4) (by decide) ?_
      exact h
    · have h := h.2 c
      refine q_iinc hC dX2_countCounting_24 rfl (loc' := [some (.inr 51), some (.inr 1), some (.inl (x2 + 1)), some (.inl x3)]) rfl rfl ?_
      refine q_iinc hC dX2_countCounting_27 rfl (loc' := [some (.inr 51), some (.inr 1), some (.inl (x2 + 1)), some (.inl (x3 + 1))]) rfl rfl ?_
      refine q_goto hC dX2_countCounting_30 (q := 4) (by decide) ?_
      exact h
set_option maxRecDepth 20000 in
theorem e_X2_readHeld {g : qG} {d : Nat} {M : qM} {K : qM → Prop} {x2 : Int} (hx2 : qR x2) (h : ∀ C : qX, qCk g C cX2_readHeld RX2 4 (d + 4) → qRt g C none (qN K) → qW g C 2 [some (.inr 51), some (.inr 1), some (.inl x2), some (.inl 0)] [] M) : qOk g (d + 4) j_X2_readHeld [.inr 51, .inr 1, .inl x2] M (qN K) := by
  refine qOk.of (by decide) (Nat.le_of_ble_eq_true rfl) (fun C hC hQ => ?_)
  have hC : qCk g C cX2_readHeld RX2 4 (d + 4) := hC
  have hQ : qRt g C none (qN K) := hQ
  have h := h C hC hQ
  show qW g C 0 [some (.inr 51), some (.inr 1), some (.inl x2), none] [] M
  refine qW.rm (fun hM => ?_)
  refine q_iconst hC dX2_readHeld_0 rfl ?_
  refine q_istore_n hC dX2_readHeld_1 (Nat.le_of_ble_eq_true rfl) (loc' := [some (.inr 51), some (.inr 1), some (.inl x2), some (.inl 0)]) rfl rfl ?_
  exact h
set_option maxRecDepth 20000 in
theorem s_X2_readHeld_2 {g : qG} {C : qX} {d : Nat} {M : qM} {K : qM → Prop} (hC : qCk g C cX2_readHeld RX2 4 (d + 4)) (hQ : qRt g C none (qN K)) {x2 : Int} {x3 : Int} (hx2 : qR x2) (hx3 : qR x3) (h : (((M 8 3) ≤ x3 → (K M)) ∧ (x3 < (M 8 3) → (qOk g (d + 3) j_X2_readBadge [.inr 51, .inr 1, .inl x2, .inl x3] M (qI fun x103 M101 => (0 ≤ x3 ∧ x3 < 8) ∧ (qW g C 2 [some (.inr 51), some (.inr 1), some (.inl x2), some (.inl (x3 + 1))] [] (qU M101 53 x3 x103))))))) : qW g C 2 [some (.inr 51), some (.inr 1), some (.inl x2), some (.inl x3)] [] M := by
  refine qW.rm (fun hM => ?_)
  refine q_iload_n hC dX2_readHeld_2 rfl rfl ?_
  refine q_aload_n hC dX2_readHeld_3 rfl rfl ?_
  refine q_getr hC fl_X2_24 ly_1 rfl dX2_readHeld_4 rfl ?_
  refine q_geti hC fl_X2_104 ly_8 rfl (z := 3) rfl dX2_readHeld_7 rfl ?_
  refine q_icmp_ge hC dX2_readHeld_10 (t := 32) (by decide) rfl hx3 (hM 8 3) (fun c => ?_) (fun c => ?_)
  · have h := h.1 c
    exact q_vret hC hQ dX2_readHeld_32 h
  · have h := h.2 c
    refine q_aload_n hC dX2_readHeld_13 rfl rfl ?_
    refine q_getr hC fl_X2_15 ly_51 rfl dX2_readHeld_14 rfl ?_
    refine q_iload_n hC dX2_readHeld_17 rfl rfl ?_
    refine q_aload_n hC dX2_readHeld_18 rfl rfl ?_
    refine q_aload_n hC dX2_readHeld_19 rfl rfl ?_
    refine q_iload_n hC dX2_readHeld_20 rfl rfl ?_
    refine q_iload_n hC dX2_readHeld_21 rfl rfl ?_
    refine q_callVi hC (As := [.inr 1, .inl x2, .inl x3]) md_X2_readBadge mv_X2_readBadge ml_X2_107 ly_51 rfl dX2_readHeld_22 rfl (Nat.le_of_ble_eq_true rfl) rfl rfl h (fun x103 M101 hM102 r104 h => ?_)
    obtain ⟨r105, h⟩ := h
    have hM106 : qIn (qU M101 53 x3 x103) := (qU_in hM102 r104)
    refine q_iast hC ly_53 dX2_readHeld_25 rfl r105 r104 ?_
    refine q_iinc hC dX2_readHeld_26 rfl (loc' := [some (.inr 51), some (.inr 1), some (.inl x2), some (.inl (x3 + 1))]) rfl rfl ?_
    refine q_goto hC dX2_readHeld_29 (q := 2) (by decide) ?_
    exact h
set_option maxRecDepth 20000 in
theorem e_X2_readBadge {g : qG} {d : Nat} {M : qM} {K : Int → qM → Prop} {x2 : Int} {x3 : Int} (hx2 : qR x2) (hx3 : qR x3) (h : (0 ≤ x2 ∧ x2 < 10) ∧ (0 ≤ x3 ∧ x3 < 8) ∧ (((M 14 x3) ≤ (M 3 x2) → (qOk g (d + 2) j_X2_allFrom [.inr 51, .inl x2, .inl (M 11 x3)] M (qI fun x105 M103 => qOk g (d + 2) j_X2_someFrom [.inr 51, .inl x2, .inl (M103 12 x3), .inl (M103 13 x3)] M103 (qI fun x109 M107 => ((M107 15 x3) ≠ (-1) → 0 ≤ (M107 15 x3) ∧ (M107 15 x3) < 8) ∧ (((M107 15 x3) = (-1) → (K (max (max x105 x109) 0) M107)) ∧ ((M107 15 x3) ≠ (-1) → (K (max (max x105 x109) (M107 53 (M107 15 x3))) M107))))))) ∧ ((M 3 x2) < (M 14 x3) → (K 1000 M)))) : qOk g (d + 3) j_X2_readBadge [.inr 51, .inr 1, .inl x2, .inl x3] M (qI K) := by
  refine qOk.of (by decide) (Nat.le_of_ble_eq_true rfl) (fun C hC hQ => ?_)
  have hC : qCk g C cX2_readBadge RX2 7 (d + 3) := hC
  have hQ : qRt g C (some .int) (qI K) := hQ
  show qW g C 0 [some (.inr 51), some (.inr 1), some (.inl x2), some (.inl x3), none, none, none] [] M
  refine qW.rm (fun hM => ?_)
  refine q_aload_n hC dX2_readBadge_0 rfl rfl ?_
  refine q_getr hC fl_X2_24 ly_1 rfl dX2_readBadge_1 rfl ?_
  refine q_astore hC dX2_readBadge_4 (Nat.le_of_ble_eq_true rfl) (loc' := [some (.inr 51), some (.inr 1), some (.inl x2), some (.inl x3), some (.inr 8), none, none]) rfl rfl ?_
  refine q_aload_n hC dX2_readBadge_6 rfl rfl ?_
  refine q_getr hC fl_X2_71 ly_1 rfl dX2_readBadge_7 rfl ?_
  refine q_getr hC fl_X2_111 ly_2 rfl dX2_readBadge_10 rfl ?_
  refine q_iload_n hC dX2_readBadge_13 rfl rfl ?_
  obtain ⟨r101, h⟩ := h
  refine q_iald hC ly_3 dX2_readBadge_14 rfl r101 ?_
  refine q_aload hC dX2_readBadge_15 rfl rfl ?_
  refine q_getr hC fl_X2_114 ly_8 rfl dX2_readBadge_17 rfl ?_
  refine q_iload_n hC dX2_readBadge_20 rfl rfl ?_
  obtain ⟨r102, h⟩ := h
  refine q_iald hC ly_14 dX2_readBadge_21 rfl r102 ?_
  refine q_icmp_ge hC dX2_readBadge_22 (t := 29) (by decide) rfl (hM 3 x2) (hM 14 x3) (fun c => ?_) (fun c => ?_)
  · have h := h.1 c
    refine q_aload_n hC dX2_readBadge_29 rfl rfl ?_
    refine q_iload_n hC dX2_readBadge_30 rfl rfl ?_
    refine q_aload hC dX2_readBadge_31 rfl rfl ?_
    refine q_getr hC fl_X2_115 ly_8 rfl dX2_readBadge_33 rfl ?_
    refine q_iload_n hC dX2_readBadge_36 rfl rfl ?_
    refine q_iald hC ly_11 dX2_readBadge_37 rfl r102 ?_
    refine q_callVi hC (As := [.inl x2, .inl (M 11 x3)]) md_X2_allFrom mv_X2_allFrom ml_X2_118 ly_51 rfl dX2_readBadge_38 rfl (Nat.le_of_ble_eq_true rfl) rfl rfl h (fun x105 M103 hM104 r106 h => ?_)
    refine q_istore hC dX2_readBadge_41 (Nat.le_of_ble_eq_true rfl) (loc' := [some (.inr 51), some (.inr 1), some (.inl x2), some (.inl x3), some (.inr 8), some (.inl x105), none]) rfl rfl ?_
    refine q_aload_n hC dX2_readBadge_43 rfl rfl ?_
    refine q_iload_n hC dX2_readBadge_44 rfl rfl ?_
    refine q_aload hC dX2_readBadge_45 rfl rfl ?_
    refine q_getr hC fl_X2_121 ly_8 rfl dX2_readBadge_47 rfl ?_
    refine q_iload_n hC dX2_readBadge_50 rfl rfl ?_
    refine q_iald hC ly_12 dX2_readBadge_51 rfl r102 ?_
    refine q_aload hC dX2_readBadge_52 rfl rfl ?_
    refine q_getr hC fl_X2_124 ly_8 rfl dX2_readBadge_54 rfl ?_
    refine q_iload_n hC dX2_readBadge_57 rfl rfl ?_
    refine q_iald hC ly_13 dX2_readBadge_58 rfl r102 ?_
    refine q_callVi hC (As := [.inl x2, .inl (M103 12 x3), .inl (M103 13 x3)]) md_X2_someFrom mv_X2_someFrom ml_X2_127 ly_51 rfl dX2_readBadge_59 rfl (Nat.le_of_ble_eq_true rfl) rfl rfl h (fun x109 M107 hM108 r110 h => ?_)
    refine q_istore hC dX2_readBadge_62 (Nat.le_of_ble_eq_true rfl) (loc' := [some (.inr 51), some (.inr 1), some (.inl x2), some (.inl x3), some (.inr 8), some (.inl x105), some (.inl x109)]) rfl rfl ?_
    refine q_iload hC dX2_readBadge_64 rfl rfl ?_
    refine q_iload hC dX2_readBadge_66 rfl rfl ?_
    refine q_mmax hC ml_X2_97 mm_max dX2_readBadge_68 (Nat.le_of_ble_eq_true rfl) rfl rfl r106 r110 ?_
    refine q_aload_n hC dX2_readBadge_71 rfl rfl ?_
    refine q_aload hC dX2_readBadge_72 rfl rfl ?_
    refine q_getr hC fl_X2_130 ly_8 rfl dX2_readBadge_74 rfl ?_
    refine q_iload_n hC dX2_readBadge_77 rfl rfl ?_
    refine q_iald hC ly_15 dX2_readBadge_78 rfl r102 ?_
    obtain ⟨r111, h⟩ := h
    refine q_callVi hC (As := [.inl (M107 15 x3)]) md_X2_otherFrom mv_X2_otherFrom ml_X2_133 ly_51 rfl dX2_readBadge_79 rfl (Nat.le_of_ble_eq_true rfl) rfl rfl (b_X2_otherFrom (hM108 15 x3) r111) (fun x112 M113 hM114 r115 hk => ?_)
    obtain ⟨ee, hk⟩ := hk
    have ee := ee.symm
    subst ee
    rcases hk with ⟨ee, c⟩ | ⟨ee, c⟩
    · have ee := ee.symm
      subst ee
      have h := h.1 c
      refine q_mmax hC ml_X2_97 mm_max dX2_readBadge_82 (Nat.le_of_ble_eq_true rfl) rfl rfl (q_rmax r106 r110) (by decide) ?_
      exact q_iret hC hQ dX2_readBadge_85 (q_rmax (q_rmax r106 r110) (by decide)) h
    · have ee := ee.symm
      subst ee
      have h := h.2 c
      refine q_mmax hC ml_X2_97 mm_max dX2_readBadge_82 (Nat.le_of_ble_eq_true rfl) rfl rfl (q_rmax r106 r110) r115 ?_
      exact q_iret hC hQ dX2_readBadge_85 (q_rmax (q_rmax r106 r110) r115) h
  · have h := h.2 c
    refine q_sipush hC dX2_readBadge_25 (by decide) rfl ?_
    exact q_iret hC hQ dX2_readBadge_28 (by decide) h
set_option maxRecDepth 20000 in
theorem e_X2_countHeld {g : qG} {d : Nat} {M : qM} {K : Int → qM → Prop} {x2 : Int} (hx2 : qR x2) (h : ∀ C : qX, qCk g C cX2_countHeld RX2 5 d → qRt g C (some .int) (qI K) → qW g C 5 [some (.inr 51), some (.inr 1), some (.inl x2), some (.inl 0), some (.inl 0)] [] M) : qOk g d j_X2_countHeld [.inr 51, .inr 1, .inl x2] M (qI K) := by
  refine qOk.of (by decide) (Nat.le_of_ble_eq_true rfl) (fun C hC hQ => ?_)
  have hC : qCk g C cX2_countHeld RX2 5 d := hC
  have hQ : qRt g C (some .int) (qI K) := hQ
  have h := h C hC hQ
  show qW g C 0 [some (.inr 51), some (.inr 1), some (.inl x2), none, none] [] M
  refine qW.rm (fun hM => ?_)
  refine q_iconst hC dX2_countHeld_0 rfl ?_
  refine q_istore_n hC dX2_countHeld_1 (Nat.le_of_ble_eq_true rfl) (loc' := [some (.inr 51), some (.inr 1), some (.inl x2), some (.inl 0), none]) rfl rfl ?_
  refine q_iconst hC dX2_countHeld_2 rfl ?_
  refine q_istore hC dX2_countHeld_3 (Nat.le_of_ble_eq_true rfl) (loc' := [some (.inr 51), some (.inr 1), some (.inl x2), some (.inl 0), some (.inl 0)]) rfl rfl ?_
  exact h
set_option maxRecDepth 20000 in
theorem s_X2_countHeld_5 {g : qG} {C : qX} {d : Nat} {M : qM} {K : Int → qM → Prop} (hC : qCk g C cX2_countHeld RX2 5 d) (hQ : qRt g C (some .int) (qI K)) {x2 : Int} {x3 : Int} {x4 : Int} (hx2 : qR x2) (hx3 : qR x3) (hx4 : qR x4) (h : (((M 8 3) ≤ x4 → (K x3 M)) ∧ (x4 < (M 8 3) → (0 ≤ x4 ∧ x4 < 8) ∧ ((x2 < (M 53 x4) → (qW g C 5 [some (.inr 51), some (.inr 1), some (.inl x2), some (.inl x3), some (.inl (x4 + 1))] [] M)) ∧ ((M 53 x4) ≤ x2 → (qW g C 5 [some (.inr 51), some (.inr 1), some (.inl x2), some (.inl (x3 + 1)), some (.inl (x4 + 1))] [] M)))))) : qW g C 5 [some (.inr 51), some (.inr 1), some (.inl x2), some (.inl x3), some (.inl x4)] [] M := by
  refine qW.rm (fun hM => ?_)
  refine q_iload hC dX2_countHeld_5 rfl rfl ?_
  refine q_aload_n hC dX2_countHeld_7 rfl rfl ?_
  refine q_getr hC fl_X2_24 ly_1 rfl dX2_countHeld_8 rfl ?_
  refine q_geti hC fl_X2_104 ly_8 rfl (z := 3) rfl dX2_countHeld_11 rfl ?_
  refine q_icmp_ge hC dX2_countHeld_14 (t := 37) (by decide) rfl hx4 (hM 8 3) (fun c => ?_) (fun c => ?_)
  · have h := h.1 c
    refine q_iload_n hC dX2_countHeld_37 rfl rfl ?_
    exact q_iret hC hQ dX2_countHeld_38 hx3 h
  · have h := h.2 c
    refine q_aload_n hC dX2_countHeld_17 rfl rfl ?_
    refine q_getr hC fl_X2_15 ly_51 rfl dX2_countHeld_18 rfl ?_
    refine q_iload hC dX2_countHeld_21 rfl rfl ?_
    obtain ⟨r101, h⟩ := h
    refine q_iald hC ly_53 dX2_countHeld_23 rfl r101 ?_
    refine q_iload_n hC dX2_countHeld_24 rfl rfl ?_
    refine q_icmp_gt hC dX2_countHeld_25 (t := 31) (by decide) rfl (hM 53 x4) hx2 (fun c => ?_) (fun c => ?_)
    · have h := h.1 c
      refine q_iinc hC dX2_countHeld_31 rfl (loc' := [some (.inr 51), some (.inr 1), some (.inl x2), some (.inl x3), some (.inl (x4 + 1))]) rfl rfl ?_
      refine q_goto hC dX2_countHeld_34 (q := 5) (by decide) ?_
      exact h
    · have h := h.2 c
      refine q_iinc hC dX2_countHeld_28 rfl (loc' := [some (.inr 51), some (.inr 1), some (.inl x2), some (.inl (x3 + 1)), some (.inl x4)]) rfl rfl ?_
      refine q_iinc hC dX2_countHeld_31 rfl (loc' := [some (.inr 51), some (.inr 1), some (.inl x2), some (.inl (x3 + 1)), some (.inl (x4 + 1))]) rfl rfl ?_
      refine q_goto hC dX2_countHeld_34 (q := 5) (by decide) ?_
      exact h
set_option maxRecDepth 20000 in
theorem e_X2_countHeldOfAll {g : qG} {d : Nat} {M : qM} {K : Int → qM → Prop}   (h : ∀ C : qX, qCk g C cX2_countHeldOfAll RX2 4 (d + 5) → qRt g C (some .int) (qI K) → qW g C 4 [some (.inr 51), some (.inr 1), some (.inl 0), some (.inl 0)] [] M) : qOk g (d + 5) j_X2_countHeldOfAll [.inr 51, .inr 1] M (qI K) := by
  refine qOk.of (by decide) (Nat.le_of_ble_eq_true rfl) (fun C hC hQ => ?_)
  have hC : qCk g C cX2_countHeldOfAll RX2 4 (d + 5) := hC
  have hQ : qRt g C (some .int) (qI K) := hQ
  have h := h C hC hQ
  show qW g C 0 [some (.inr 51), some (.inr 1), none, none] [] M
  refine qW.rm (fun hM => ?_)
  refine q_iconst hC dX2_countHeldOfAll_0 rfl ?_
  refine q_istore_n hC dX2_countHeldOfAll_1 (Nat.le_of_ble_eq_true rfl) (loc' := [some (.inr 51), some (.inr 1), some (.inl 0), none]) rfl rfl ?_
  refine q_iconst hC dX2_countHeldOfAll_2 rfl ?_
  refine q_istore_n hC dX2_countHeldOfAll_3 (Nat.le_of_ble_eq_true rfl) (loc' := [some (.inr 51), some (.inr 1), some (.inl 0), some (.inl 0)]) rfl rfl ?_
  exact h
set_option maxRecDepth 20000 in
theorem s_X2_countHeldOfAll_4 {g : qG} {C : qX} {d : Nat} {M : qM} {K : Int → qM → Prop} (hC : qCk g C cX2_countHeldOfAll RX2 4 (d + 5)) (hQ : qRt g C (some .int) (qI K)) {x2 : Int} {x3 : Int} (hx2 : qR x2) (hx3 : qR x3) (h : (((M 2 0) ≤ x3 → (K x2 M)) ∧ (x3 < (M 2 0) → (qOk g (d + 4) j_X2_readHeld [.inr 51, .inr 1, .inl x3] M (qN fun M101 => qOk g (d + 4) j_X2_countHeld [.inr 51, .inr 1, .inl 999] M101 (qI fun x105 M103 => qW g C 4 [some (.inr 51), some (.inr 1), some (.inl (x2 + x105)), some (.inl (x3 + 1))] [] M103)))))) : qW g C 4 [some (.inr 51), some (.inr 1), some (.inl x2), some (.inl x3)] [] M := by
  refine qW.rm (fun hM => ?_)
  refine q_iload_n hC dX2_countHeldOfAll_4 rfl rfl ?_
  refine q_aload_n hC dX2_countHeldOfAll_5 rfl rfl ?_
  refine q_getr hC fl_X2_71 ly_1 rfl dX2_countHeldOfAll_6 rfl ?_
  refine q_geti hC fl_X2_137 ly_2 rfl (z := 0) rfl dX2_countHeldOfAll_9 rfl ?_
  refine q_icmp_ge hC dX2_countHeldOfAll_12 (t := 38) (by decide) rfl hx3 (hM 2 0) (fun c => ?_) (fun c => ?_)
  · have h := h.1 c
    refine q_iload_n hC dX2_countHeldOfAll_38 rfl rfl ?_
    exact q_iret hC hQ dX2_countHeldOfAll_39 hx2 h
  · have h := h.2 c
    refine q_aload_n hC dX2_countHeldOfAll_15 rfl rfl ?_
    refine q_aload_n hC dX2_countHeldOfAll_16 rfl rfl ?_
    refine q_iload_n hC dX2_countHeldOfAll_17 rfl rfl ?_
    refine q_callVv hC (As := [.inr 1, .inl x3]) md_X2_readHeld mv_X2_readHeld ml_X2_139 ly_51 rfl dX2_countHeldOfAll_18 rfl (Nat.le_of_ble_eq_true rfl) rfl rfl h (fun M101 hM102 h => ?_)
    refine q_iload_n hC dX2_countHeldOfAll_21 rfl rfl ?_
    refine q_aload_n hC dX2_countHeldOfAll_22 rfl rfl ?_
    refine q_aload_n hC dX2_countHeldOfAll_23 rfl rfl ?_
    refine q_sipush hC dX2_countHeldOfAll_24 (by decide) rfl ?_
    refine q_callVi hC (As := [.inr 1, .inl 999]) md_X2_countHeld mv_X2_countHeld ml_X2_142 ly_51 rfl dX2_countHeldOfAll_27 rfl (Nat.le_of_ble_eq_true rfl) rfl rfl h (fun x105 M103 hM104 r106 h => ?_)
    refine q_iadd hC dX2_countHeldOfAll_30 rfl ?_
    refine q_istore_n hC dX2_countHeldOfAll_31 (Nat.le_of_ble_eq_true rfl) (loc' := [some (.inr 51), some (.inr 1), some (.inl (x2 + x105)), some (.inl x3)]) rfl rfl ?_
    refine q_iinc hC dX2_countHeldOfAll_32 rfl (loc' := [some (.inr 51), some (.inr 1), some (.inl (x2 + x105)), some (.inl (x3 + 1))]) rfl rfl ?_
    refine q_goto hC dX2_countHeldOfAll_35 (q := 4) (by decide) ?_
    exact h
set_option maxRecDepth 20000 in
theorem e_J7_fill_53178_done {g : qG} {d : Nat} {M : qM} {K : qM → Prop} {x1 : Int} (hx1 : qR x1) (h : ∀ C : qX, qCk g C cJ7_fill_53178 RJ7 4 d → qRt g C none (qN K) → qW g C 5 [some (.inr 52), some (.inl x1), some (.inl 0), some (.inl 100)] [] M) : qOk g d j_J7_fill_53178 [.inr 52, .inl x1] M (qN K) := by
  refine qOk.of (by decide) (Nat.le_of_ble_eq_true rfl) (fun C hC hQ => ?_)
  have hC : qCk g C cJ7_fill_53178 RJ7 4 d := hC
  have hQ : qRt g C none (qN K) := hQ
  have h := h C hC hQ
  show qW g C 0 [some (.inr 52), some (.inl x1), none, none] [] M
  refine qW.rm (fun hM => ?_)
  refine q_iconst hC dJ7_fill_53178_0 rfl ?_
  refine q_istore_n hC dJ7_fill_53178_1 (Nat.le_of_ble_eq_true rfl) (loc' := [some (.inr 52), some (.inl x1), some (.inl 0), none]) rfl rfl ?_
  refine q_aload_n hC dJ7_fill_53178_2 rfl rfl ?_
  refine q_alen hC ly_52 (z := 100) rfl dJ7_fill_53178_3 rfl ?_
  refine q_istore_n hC dJ7_fill_53178_4 (Nat.le_of_ble_eq_true rfl) (loc' := [some (.inr 52), some (.inl x1), some (.inl 0), some (.inl 100)]) rfl rfl ?_
  exact h
set_option maxRecDepth 20000 in
theorem s_J7_fill_53178_done_5 {g : qG} {C : qX} {d : Nat} {M : qM} {K : qM → Prop} (hC : qCk g C cJ7_fill_53178 RJ7 4 d) (hQ : qRt g C none (qN K)) {x1 : Int} {x2 : Int} {x3 : Int} (hx1 : qR x1) (hx2 : qR x2) (hx3 : qR x3) (h : ((x3 ≤ x2 → (K M)) ∧ (x2 < x3 → (0 ≤ x2 ∧ x2 < 100) ∧ (qW g C 5 [some (.inr 52), some (.inl x1), some (.inl (x2 + 1)), some (.inl x3)] [] (qU M 52 x2 x1))))) : qW g C 5 [some (.inr 52), some (.inl x1), some (.inl x2), some (.inl x3)] [] M := by
  refine qW.rm (fun hM => ?_)
  refine q_iload_n hC dJ7_fill_53178_5 rfl rfl ?_
  refine q_iload_n hC dJ7_fill_53178_6 rfl rfl ?_
  refine q_icmp_ge hC dJ7_fill_53178_7 (t := 20) (by decide) rfl hx2 hx3 (fun c => ?_) (fun c => ?_)
  · have h := h.1 c
    exact q_vret hC hQ dJ7_fill_53178_20 h
  · have h := h.2 c
    refine q_aload_n hC dJ7_fill_53178_10 rfl rfl ?_
    refine q_iload_n hC dJ7_fill_53178_11 rfl rfl ?_
    refine q_iload_n hC dJ7_fill_53178_12 rfl rfl ?_
    obtain ⟨r101, h⟩ := h
    have hM102 : qIn (qU M 52 x2 x1) := (qU_in hM hx1)
    refine q_iast hC ly_52 dJ7_fill_53178_13 rfl r101 hx1 ?_
    refine q_iinc hC dJ7_fill_53178_14 rfl (loc' := [some (.inr 52), some (.inl x1), some (.inl (x2 + 1)), some (.inl x3)]) rfl rfl ?_
    refine q_goto hC dJ7_fill_53178_17 (q := 5) (by decide) ?_
    exact h
set_option maxRecDepth 20000 in
theorem e_J7_fill_53178_best {g : qG} {d : Nat} {M : qM} {K : qM → Prop} {x1 : Int} (hx1 : qR x1) (h : ∀ C : qX, qCk g C cJ7_fill_53178 RJ7 4 d → qRt g C none (qN K) → qW g C 5 [some (.inr 62), some (.inl x1), some (.inl 0), some (.inl 4)] [] M) : qOk g d j_J7_fill_53178 [.inr 62, .inl x1] M (qN K) := by
  refine qOk.of (by decide) (Nat.le_of_ble_eq_true rfl) (fun C hC hQ => ?_)
  have hC : qCk g C cJ7_fill_53178 RJ7 4 d := hC
  have hQ : qRt g C none (qN K) := hQ
  have h := h C hC hQ
  show qW g C 0 [some (.inr 62), some (.inl x1), none, none] [] M
  refine qW.rm (fun hM => ?_)
  refine q_iconst hC dJ7_fill_53178_0 rfl ?_
  refine q_istore_n hC dJ7_fill_53178_1 (Nat.le_of_ble_eq_true rfl) (loc' := [some (.inr 62), some (.inl x1), some (.inl 0), none]) rfl rfl ?_
  refine q_aload_n hC dJ7_fill_53178_2 rfl rfl ?_
  refine q_alen hC ly_62 (z := 4) rfl dJ7_fill_53178_3 rfl ?_
  refine q_istore_n hC dJ7_fill_53178_4 (Nat.le_of_ble_eq_true rfl) (loc' := [some (.inr 62), some (.inl x1), some (.inl 0), some (.inl 4)]) rfl rfl ?_
  exact h
set_option maxRecDepth 20000 in
theorem s_J7_fill_53178_best_5 {g : qG} {C : qX} {d : Nat} {M : qM} {K : qM → Prop} (hC : qCk g C cJ7_fill_53178 RJ7 4 d) (hQ : qRt g C none (qN K)) {x1 : Int} {x2 : Int} {x3 : Int} (hx1 : qR x1) (hx2 : qR x2) (hx3 : qR x3) (h : ((x3 ≤ x2 → (K M)) ∧ (x2 < x3 → (0 ≤ x2 ∧ x2 < 4) ∧ (qW g C 5 [some (.inr 62), some (.inl x1), some (.inl (x2 + 1)), some (.inl x3)] [] (qU M 62 x2 x1))))) : qW g C 5 [some (.inr 62), some (.inl x1), some (.inl x2), some (.inl x3)] [] M := by
  refine qW.rm (fun hM => ?_)
  refine q_iload_n hC dJ7_fill_53178_5 rfl rfl ?_
  refine q_iload_n hC dJ7_fill_53178_6 rfl rfl ?_
  refine q_icmp_ge hC dJ7_fill_53178_7 (t := 20) (by decide) rfl hx2 hx3 (fun c => ?_) (fun c => ?_)
  · have h := h.1 c
    exact q_vret hC hQ dJ7_fill_53178_20 h
  · have h := h.2 c
    refine q_aload_n hC dJ7_fill_53178_10 rfl rfl ?_
    refine q_iload_n hC dJ7_fill_53178_11 rfl rfl ?_
    refine q_iload_n hC dJ7_fill_53178_12 rfl rfl ?_
    obtain ⟨r101, h⟩ := h
    have hM102 : qIn (qU M 62 x2 x1) := (qU_in hM hx1)
    refine q_iast hC ly_62 dJ7_fill_53178_13 rfl r101 hx1 ?_
    refine q_iinc hC dJ7_fill_53178_14 rfl (loc' := [some (.inr 62), some (.inl x1), some (.inl (x2 + 1)), some (.inl x3)]) rfl rfl ?_
    refine q_goto hC dJ7_fill_53178_17 (q := 5) (by decide) ?_
    exact h
set_option maxRecDepth 20000 in
theorem e_X0_become_k {g : qG} {d : Nat} {M : qM} {K : qM → Prop}   (h : qOk g (d + 2) j_X3_become [.inr 27, .inr 2] M (qN fun M101 => qOk g (d + 2) j_X6_become [.inr 33, .inr 8] M101 (qN fun M103 => qOk g (d + 2) j_X5_become [.inr 41, .inr 16] M103 (qN fun M105 => qOk g (d + 2) j_X1_become [.inr 47, .inr 22] M105 (qN fun M107 => K M107))))) : qOk g (d + 3) j_X0_become [.inr 26, .inr 1] M (qN K) := by
  refine qOk.of (by decide) (Nat.le_of_ble_eq_true rfl) (fun C hC hQ => ?_)
  have hC : qCk g C cX0_become RX0 2 (d + 3) := hC
  have hQ : qRt g C none (qN K) := hQ
  show qW g C 0 [some (.inr 26), some (.inr 1)] [] M
  refine qW.rm (fun hM => ?_)
  refine q_aload_n hC dX0_become_0 rfl rfl ?_
  refine q_getr hC fl_X0_10 ly_26 rfl dX0_become_1 rfl ?_
  refine q_aload_n hC dX0_become_4 rfl rfl ?_
  refine q_getr hC fl_X0_10 ly_1 rfl dX0_become_5 rfl ?_
  refine q_callVv hC (As := [.inr 2]) md_X3_become mv_X3_become ml_X0_37 ly_27 rfl dX0_become_8 rfl (Nat.le_of_ble_eq_true rfl) rfl rfl h (fun M101 hM102 h => ?_)
  refine q_aload_n hC dX0_become_11 rfl rfl ?_
  refine q_getr hC fl_X0_19 ly_26 rfl dX0_become_12 rfl ?_
  refine q_aload_n hC dX0_become_15 rfl rfl ?_
  refine q_getr hC fl_X0_19 ly_1 rfl dX0_become_16 rfl ?_
  refine q_callVv hC (As := [.inr 8]) md_X6_become mv_X6_become ml_X0_41 ly_33 rfl dX0_become_19 rfl (Nat.le_of_ble_eq_true rfl) rfl rfl h (fun M103 hM104 h => ?_)
  refine q_aload_n hC dX0_become_22 rfl rfl ?_
  refine q_getr hC fl_X0_26 ly_26 rfl dX0_become_23 rfl ?_
  refine q_aload_n hC dX0_become_26 rfl rfl ?_
  refine q_getr hC fl_X0_26 ly_1 rfl dX0_become_27 rfl ?_
  refine q_callVv hC (As := [.inr 16]) md_X5_become mv_X5_become ml_X0_44 ly_41 rfl dX0_become_30 rfl (Nat.le_of_ble_eq_true rfl) rfl rfl h (fun M105 hM106 h => ?_)
  refine q_aload_n hC dX0_become_33 rfl rfl ?_
  refine q_getr hC fl_X0_33 ly_26 rfl dX0_become_34 rfl ?_
  refine q_aload_n hC dX0_become_37 rfl rfl ?_
  refine q_getr hC fl_X0_33 ly_1 rfl dX0_become_38 rfl ?_
  refine q_callVv hC (As := [.inr 22]) md_X1_become mv_X1_become ml_X0_47 ly_47 rfl dX0_become_41 rfl (Nat.le_of_ble_eq_true rfl) rfl rfl h (fun M107 hM108 h => ?_)
  exact q_vret hC hQ dX0_become_44 h
set_option maxRecDepth 20000 in
theorem e_X3_become_k {g : qG} {d : Nat} {M : qM} {K : qM → Prop}   (h : qOk g (d + 1) j_X7_copyRow [.inr 3, .inr 28] (qU M 27 0 (M 2 0)) (qN fun M102 => qOk g (d + 1) j_X7_copyRow [.inr 4, .inr 29] M102 (qN fun M104 => qOk g (d + 1) j_X7_copyRow [.inr 5, .inr 30] (qU M104 27 3 (M104 2 3)) (qN fun M107 => qOk g (d + 1) j_X7_copyRow [.inr 6, .inr 31] M107 (qN fun M109 => qOk g (d + 1) j_X7_copyRow [.inr 7, .inr 32] M109 (qN fun M111 => K M111)))))) : qOk g (d + 2) j_X3_become [.inr 27, .inr 2] M (qN K) := by
  refine qOk.of (by decide) (Nat.le_of_ble_eq_true rfl) (fun C hC hQ => ?_)
  have hC : qCk g C cX3_become RX3 2 (d + 2) := hC
  have hQ : qRt g C none (qN K) := hQ
  show qW g C 0 [some (.inr 27), some (.inr 2)] [] M
  refine qW.rm (fun hM => ?_)
  refine q_aload_n hC dX3_become_0 rfl rfl ?_
  refine q_aload_n hC dX3_become_1 rfl rfl ?_
  refine q_geti hC fl_X3_33 ly_2 rfl (z := 0) rfl dX3_become_2 rfl ?_
  have hM101 : qIn (qU M 27 0 (M 2 0)) := (qU_in hM (hM 2 0))
  refine q_puti hC fp_X3_33 ly_27 rfl (z := 0) rfl dX3_become_5 rfl (hM 2 0) ?_
  refine q_aload_n hC dX3_become_8 rfl rfl ?_
  refine q_getr hC fl_X3_9 ly_2 rfl dX3_become_9 rfl ?_
  refine q_aload_n hC dX3_become_12 rfl rfl ?_
  refine q_getr hC fl_X3_9 ly_27 rfl dX3_become_13 rfl ?_
  refine q_callSv hC (As := [.inr 3, .inr 28]) md_X7_copyRow ms_X7_copyRow ml_X3_37 dX3_become_16 rfl (Nat.le_of_ble_eq_true rfl) rfl rfl h (fun M102 hM103 h => ?_)
  refine q_aload_n hC dX3_become_19 rfl rfl ?_
  refine q_getr hC fl_X3_15 ly_2 rfl dX3_become_20 rfl ?_
  refine q_aload_n hC dX3_become_23 rfl rfl ?_
  refine q_getr hC fl_X3_15 ly_27 rfl dX3_become_24 rfl ?_
  refine q_callSv hC (As := [.inr 4, .inr 29]) md_X7_copyRow ms_X7_copyRow ml_X3_37 dX3_become_27 rfl (Nat.le_of_ble_eq_true rfl) rfl rfl h (fun M104 hM105 h => ?_)
  refine q_aload_n hC dX3_become_30 rfl rfl ?_
  refine q_aload_n hC dX3_become_31 rfl rfl ?_
  refine q_geti hC fl_X3_41 ly_2 rfl (z := 3) rfl dX3_become_32 rfl ?_
  have hM106 : qIn (qU M104 27 3 (M104 2 3)) := (qU_in hM105 (hM105 2 3))
  refine q_puti hC fp_X3_41 ly_27 rfl (z := 3) rfl dX3_become_35 rfl (hM105 2 3) ?_
  refine q_aload_n hC dX3_become_38 rfl rfl ?_
  refine q_getr hC fl_X3_18 ly_2 rfl dX3_become_39 rfl ?_
  refine q_aload_n hC dX3_become_42 rfl rfl ?_
  refine q_getr hC fl_X3_18 ly_27 rfl dX3_become_43 rfl ?_
  refine q_callSv hC (As := [.inr 5, .inr 30]) md_X7_copyRow ms_X7_copyRow ml_X3_37 dX3_become_46 rfl (Nat.le_of_ble_eq_true rfl) rfl rfl h (fun M107 hM108 h => ?_)
  refine q_aload_n hC dX3_become_49 rfl rfl ?_
  refine q_getr hC fl_X3_21 ly_2 rfl dX3_become_50 rfl ?_
  refine q_aload_n hC dX3_become_53 rfl rfl ?_
  refine q_getr hC fl_X3_21 ly_27 rfl dX3_become_54 rfl ?_
  refine q_callSv hC (As := [.inr 6, .inr 31]) md_X7_copyRow ms_X7_copyRow ml_X3_37 dX3_become_57 rfl (Nat.le_of_ble_eq_true rfl) rfl rfl h (fun M109 hM110 h => ?_)
  refine q_aload_n hC dX3_become_60 rfl rfl ?_
  refine q_getr hC fl_X3_24 ly_2 rfl dX3_become_61 rfl ?_
  refine q_aload_n hC dX3_become_64 rfl rfl ?_
  refine q_getr hC fl_X3_24 ly_27 rfl dX3_become_65 rfl ?_
  refine q_callSv hC (As := [.inr 7, .inr 32]) md_X7_copyRow ms_X7_copyRow ml_X3_37 dX3_become_68 rfl (Nat.le_of_ble_eq_true rfl) rfl rfl h (fun M111 hM112 h => ?_)
  exact q_vret hC hQ dX3_become_71 h
set_option maxRecDepth 20000 in
theorem e_X6_become_k {g : qG} {d : Nat} {M : qM} {K : qM → Prop}   (h : qOk g (d + 1) j_X7_copyRow [.inr 9, .inr 34] (qU M 33 0 (M 8 0)) (qN fun M102 => qOk g (d + 1) j_X7_copyRow [.inr 10, .inr 35] M102 (qN fun M104 => qOk g (d + 1) j_X7_copyRow [.inr 11, .inr 36] (qU M104 33 3 (M104 8 3)) (qN fun M107 => qOk g (d + 1) j_X7_copyRow [.inr 12, .inr 37] M107 (qN fun M109 => qOk g (d + 1) j_X7_copyRow [.inr 13, .inr 38] M109 (qN fun M111 => qOk g (d + 1) j_X7_copyRow [.inr 14, .inr 39] M111 (qN fun M113 => qOk g (d + 1) j_X7_copyRow [.inr 15, .inr 40] M113 (qN fun M115 => K M115)))))))) : qOk g (d + 2) j_X6_become [.inr 33, .inr 8] M (qN K) := by
  refine qOk.of (by decide) (Nat.le_of_ble_eq_true rfl) (fun C hC hQ => ?_)
  have hC : qCk g C cX6_become RX6 2 (d + 2) := hC
  have hQ : qRt g C none (qN K) := hQ
  show qW g C 0 [some (.inr 33), some (.inr 8)] [] M
  refine qW.rm (fun hM => ?_)
  refine q_aload_n hC dX6_become_0 rfl rfl ?_
  refine q_aload_n hC dX6_become_1 rfl rfl ?_
  refine q_geti hC fl_X6_33 ly_8 rfl (z := 0) rfl dX6_become_2 rfl ?_
  have hM101 : qIn (qU M 33 0 (M 8 0)) := (qU_in hM (hM 8 0))
  refine q_puti hC fp_X6_33 ly_33 rfl (z := 0) rfl dX6_become_5 rfl (hM 8 0) ?_
  refine q_aload_n hC dX6_become_8 rfl rfl ?_
  refine q_getr hC fl_X6_9 ly_8 rfl dX6_become_9 rfl ?_
  refine q_aload_n hC dX6_become_12 rfl rfl ?_
  refine q_getr hC fl_X6_9 ly_33 rfl dX6_become_13 rfl ?_
  refine q_callSv hC (As := [.inr 9, .inr 34]) md_X7_copyRow ms_X7_copyRow ml_X6_37 dX6_become_16 rfl (Nat.le_of_ble_eq_true rfl) rfl rfl h (fun M102 hM103 h => ?_)
  refine q_aload_n hC dX6_become_19 rfl rfl ?_
  refine q_getr hC fl_X6_15 ly_8 rfl dX6_become_20 rfl ?_
  refine q_aload_n hC dX6_become_23 rfl rfl ?_
  refine q_getr hC fl_X6_15 ly_33 rfl dX6_become_24 rfl ?_
  refine q_callSv hC (As := [.inr 10, .inr 35]) md_X7_copyRow ms_X7_copyRow ml_X6_37 dX6_become_27 rfl (Nat.le_of_ble_eq_true rfl) rfl rfl h (fun M104 hM105 h => ?_)
  refine q_aload_n hC dX6_become_30 rfl rfl ?_
  refine q_aload_n hC dX6_become_31 rfl rfl ?_
  refine q_geti hC fl_X6_41 ly_8 rfl (z := 3) rfl dX6_become_32 rfl ?_
  have hM106 : qIn (qU M104 33 3 (M104 8 3)) := (qU_in hM105 (hM105 8 3))
  refine q_puti hC fp_X6_41 ly_33 rfl (z := 3) rfl dX6_become_35 rfl (hM105 8 3) ?_
  refine q_aload_n hC dX6_become_38 rfl rfl ?_
  refine q_getr hC fl_X6_18 ly_8 rfl dX6_become_39 rfl ?_
  refine q_aload_n hC dX6_become_42 rfl rfl ?_
  refine q_getr hC fl_X6_18 ly_33 rfl dX6_become_43 rfl ?_
  refine q_callSv hC (As := [.inr 11, .inr 36]) md_X7_copyRow ms_X7_copyRow ml_X6_37 dX6_become_46 rfl (Nat.le_of_ble_eq_true rfl) rfl rfl h (fun M107 hM108 h => ?_)
  refine q_aload_n hC dX6_become_49 rfl rfl ?_
  refine q_getr hC fl_X6_21 ly_8 rfl dX6_become_50 rfl ?_
  refine q_aload_n hC dX6_become_53 rfl rfl ?_
  refine q_getr hC fl_X6_21 ly_33 rfl dX6_become_54 rfl ?_
  refine q_callSv hC (As := [.inr 12, .inr 37]) md_X7_copyRow ms_X7_copyRow ml_X6_37 dX6_become_57 rfl (Nat.le_of_ble_eq_true rfl) rfl rfl h (fun M109 hM110 h => ?_)
  refine q_aload_n hC dX6_become_60 rfl rfl ?_
  refine q_getr hC fl_X6_24 ly_8 rfl dX6_become_61 rfl ?_
  refine q_aload_n hC dX6_become_64 rfl rfl ?_
  refine q_getr hC fl_X6_24 ly_33 rfl dX6_become_65 rfl ?_
  refine q_callSv hC (As := [.inr 13, .inr 38]) md_X7_copyRow ms_X7_copyRow ml_X6_37 dX6_become_68 rfl (Nat.le_of_ble_eq_true rfl) rfl rfl h (fun M111 hM112 h => ?_)
  refine q_aload_n hC dX6_become_71 rfl rfl ?_
  refine q_getr hC fl_X6_27 ly_8 rfl dX6_become_72 rfl ?_
  refine q_aload_n hC dX6_become_75 rfl rfl ?_
  refine q_getr hC fl_X6_27 ly_33 rfl dX6_become_76 rfl ?_
  refine q_callSv hC (As := [.inr 14, .inr 39]) md_X7_copyRow ms_X7_copyRow ml_X6_37 dX6_become_79 rfl (Nat.le_of_ble_eq_true rfl) rfl rfl h (fun M113 hM114 h => ?_)
  refine q_aload_n hC dX6_become_82 rfl rfl ?_
  refine q_getr hC fl_X6_30 ly_8 rfl dX6_become_83 rfl ?_
  refine q_aload_n hC dX6_become_86 rfl rfl ?_
  refine q_getr hC fl_X6_30 ly_33 rfl dX6_become_87 rfl ?_
  refine q_callSv hC (As := [.inr 15, .inr 40]) md_X7_copyRow ms_X7_copyRow ml_X6_37 dX6_become_90 rfl (Nat.le_of_ble_eq_true rfl) rfl rfl h (fun M115 hM116 h => ?_)
  exact q_vret hC hQ dX6_become_93 h
set_option maxRecDepth 20000 in
theorem e_X5_become_k {g : qG} {d : Nat} {M : qM} {K : qM → Prop}   (h : qOk g (d + 1) j_X7_copyRow [.inr 17, .inr 42] (qU M 41 0 (M 16 0)) (qN fun M102 => qOk g (d + 1) j_X7_copyRow [.inr 18, .inr 43] M102 (qN fun M104 => qOk g (d + 1) j_X7_copyRow [.inr 19, .inr 44] M104 (qN fun M106 => qOk g (d + 1) j_X7_copyRow [.inr 20, .inr 45] M106 (qN fun M108 => qOk g (d + 1) j_X7_copyMarks [.inr 21, .inr 46] M108 (qN fun M110 => K M110)))))) : qOk g (d + 2) j_X5_become [.inr 41, .inr 16] M (qN K) := by
  refine qOk.of (by decide) (Nat.le_of_ble_eq_true rfl) (fun C hC hQ => ?_)
  have hC : qCk g C cX5_become RX5 2 (d + 2) := hC
  have hQ : qRt g C none (qN K) := hQ
  show qW g C 0 [some (.inr 41), some (.inr 16)] [] M
  refine qW.rm (fun hM => ?_)
  refine q_aload_n hC dX5_become_0 rfl rfl ?_
  refine q_aload_n hC dX5_become_1 rfl rfl ?_
  refine q_geti hC fl_X5_28 ly_16 rfl (z := 0) rfl dX5_become_2 rfl ?_
  have hM101 : qIn (qU M 41 0 (M 16 0)) := (qU_in hM (hM 16 0))
  refine q_puti hC fp_X5_28 ly_41 rfl (z := 0) rfl dX5_become_5 rfl (hM 16 0) ?_
  refine q_aload_n hC dX5_become_8 rfl rfl ?_
  refine q_getr hC fl_X5_9 ly_16 rfl dX5_become_9 rfl ?_
  refine q_aload_n hC dX5_become_12 rfl rfl ?_
  refine q_getr hC fl_X5_9 ly_41 rfl dX5_become_13 rfl ?_
  refine q_callSv hC (As := [.inr 17, .inr 42]) md_X7_copyRow ms_X7_copyRow ml_X5_32 dX5_become_16 rfl (Nat.le_of_ble_eq_true rfl) rfl rfl h (fun M102 hM103 h => ?_)
  refine q_aload_n hC dX5_become_19 rfl rfl ?_
  refine q_getr hC fl_X5_15 ly_16 rfl dX5_become_20 rfl ?_
  refine q_aload_n hC dX5_become_23 rfl rfl ?_
  refine q_getr hC fl_X5_15 ly_41 rfl dX5_become_24 rfl ?_
  refine q_callSv hC (As := [.inr 18, .inr 43]) md_X7_copyRow ms_X7_copyRow ml_X5_32 dX5_become_27 rfl (Nat.le_of_ble_eq_true rfl) rfl rfl h (fun M104 hM105 h => ?_)
  refine q_aload_n hC dX5_become_30 rfl rfl ?_
  refine q_getr hC fl_X5_18 ly_16 rfl dX5_become_31 rfl ?_
  refine q_aload_n hC dX5_become_34 rfl rfl ?_
  refine q_getr hC fl_X5_18 ly_41 rfl dX5_become_35 rfl ?_
  refine q_callSv hC (As := [.inr 19, .inr 44]) md_X7_copyRow ms_X7_copyRow ml_X5_32 dX5_become_38 rfl (Nat.le_of_ble_eq_true rfl) rfl rfl h (fun M106 hM107 h => ?_)
  refine q_aload_n hC dX5_become_41 rfl rfl ?_
  refine q_getr hC fl_X5_21 ly_16 rfl dX5_become_42 rfl ?_
  refine q_aload_n hC dX5_become_45 rfl rfl ?_
  refine q_getr hC fl_X5_21 ly_41 rfl dX5_become_46 rfl ?_
  refine q_callSv hC (As := [.inr 20, .inr 45]) md_X7_copyRow ms_X7_copyRow ml_X5_32 dX5_become_49 rfl (Nat.le_of_ble_eq_true rfl) rfl rfl h (fun M108 hM109 h => ?_)
  refine q_aload_n hC dX5_become_52 rfl rfl ?_
  refine q_getr hC fl_X5_24 ly_16 rfl dX5_become_53 rfl ?_
  refine q_aload_n hC dX5_become_56 rfl rfl ?_
  refine q_getr hC fl_X5_24 ly_41 rfl dX5_become_57 rfl ?_
  refine q_callSv hC (As := [.inr 21, .inr 46]) md_X7_copyMarks ms_X7_copyMarks ml_X5_36 dX5_become_60 rfl (Nat.le_of_ble_eq_true rfl) rfl rfl h (fun M110 hM111 h => ?_)
  exact q_vret hC hQ dX5_become_63 h
set_option maxRecDepth 20000 in
theorem e_X1_become_k {g : qG} {d : Nat} {M : qM} {K : qM → Prop}   (h : qOk g (d + 1) j_X7_copyRow [.inr 23, .inr 48] (qU M 47 0 (M 22 0)) (qN fun M102 => qOk g (d + 1) j_X7_copyMarks [.inr 24, .inr 49] M102 (qN fun M104 => qOk g (d + 1) j_X7_copyRow [.inr 25, .inr 50] M104 (qN fun M106 => K M106)))) : qOk g (d + 2) j_X1_become [.inr 47, .inr 22] M (qN K) := by
  refine qOk.of (by decide) (Nat.le_of_ble_eq_true rfl) (fun C hC hQ => ?_)
  have hC : qCk g C cX1_become RX1 2 (d + 2) := hC
  have hQ : qRt g C none (qN K) := hQ
  show qW g C 0 [some (.inr 47), some (.inr 22)] [] M
  refine qW.rm (fun hM => ?_)
  refine q_aload_n hC dX1_become_0 rfl rfl ?_
  refine q_aload_n hC dX1_become_1 rfl rfl ?_
  refine q_geti hC fl_X1_22 ly_22 rfl (z := 0) rfl dX1_become_2 rfl ?_
  have hM101 : qIn (qU M 47 0 (M 22 0)) := (qU_in hM (hM 22 0))
  refine q_puti hC fp_X1_22 ly_47 rfl (z := 0) rfl dX1_become_5 rfl (hM 22 0) ?_
  refine q_aload_n hC dX1_become_8 rfl rfl ?_
  refine q_getr hC fl_X1_9 ly_22 rfl dX1_become_9 rfl ?_
  refine q_aload_n hC dX1_become_12 rfl rfl ?_
  refine q_getr hC fl_X1_9 ly_47 rfl dX1_become_13 rfl ?_
  refine q_callSv hC (As := [.inr 23, .inr 48]) md_X7_copyRow ms_X7_copyRow ml_X1_26 dX1_become_16 rfl (Nat.le_of_ble_eq_true rfl) rfl rfl h (fun M102 hM103 h => ?_)
  refine q_aload_n hC dX1_become_19 rfl rfl ?_
  refine q_getr hC fl_X1_15 ly_22 rfl dX1_become_20 rfl ?_
  refine q_aload_n hC dX1_become_23 rfl rfl ?_
  refine q_getr hC fl_X1_15 ly_47 rfl dX1_become_24 rfl ?_
  refine q_callSv hC (As := [.inr 24, .inr 49]) md_X7_copyMarks ms_X7_copyMarks ml_X1_30 dX1_become_27 rfl (Nat.le_of_ble_eq_true rfl) rfl rfl h (fun M104 hM105 h => ?_)
  refine q_aload_n hC dX1_become_30 rfl rfl ?_
  refine q_getr hC fl_X1_19 ly_22 rfl dX1_become_31 rfl ?_
  refine q_aload_n hC dX1_become_34 rfl rfl ?_
  refine q_getr hC fl_X1_19 ly_47 rfl dX1_become_35 rfl ?_
  refine q_callSv hC (As := [.inr 25, .inr 50]) md_X7_copyRow ms_X7_copyRow ml_X1_26 dX1_become_38 rfl (Nat.le_of_ble_eq_true rfl) rfl rfl h (fun M106 hM107 h => ?_)
  exact q_vret hC hQ dX1_become_41 h
set_option maxRecDepth 20000 in
theorem e_X0_become_b {g : qG} {d : Nat} {M : qM} {K : qM → Prop}   (h : qOk g (d + 2) j_X3_become [.inr 2, .inr 27] M (qN fun M101 => qOk g (d + 2) j_X6_become [.inr 8, .inr 33] M101 (qN fun M103 => qOk g (d + 2) j_X5_become [.inr 16, .inr 41] M103 (qN fun M105 => qOk g (d + 2) j_X1_become [.inr 22, .inr 47] M105 (qN fun M107 => K M107))))) : qOk g (d + 3) j_X0_become [.inr 1, .inr 26] M (qN K) := by
  refine qOk.of (by decide) (Nat.le_of_ble_eq_true rfl) (fun C hC hQ => ?_)
  have hC : qCk g C cX0_become RX0 2 (d + 3) := hC
  have hQ : qRt g C none (qN K) := hQ
  show qW g C 0 [some (.inr 1), some (.inr 26)] [] M
  refine qW.rm (fun hM => ?_)
  refine q_aload_n hC dX0_become_0 rfl rfl ?_
  refine q_getr hC fl_X0_10 ly_1 rfl dX0_become_1 rfl ?_
  refine q_aload_n hC dX0_become_4 rfl rfl ?_
  refine q_getr hC fl_X0_10 ly_26 rfl dX0_become_5 rfl ?_
  refine q_callVv hC (As := [.inr 27]) md_X3_become mv_X3_become ml_X0_37 ly_2 rfl dX0_become_8 rfl (Nat.le_of_ble_eq_true rfl) rfl rfl h (fun M101 hM102 h => ?_)
  refine q_aload_n hC dX0_become_11 rfl rfl ?_
  refine q_getr hC fl_X0_19 ly_1 rfl dX0_become_12 rfl ?_
  refine q_aload_n hC dX0_become_15 rfl rfl ?_
  refine q_getr hC fl_X0_19 ly_26 rfl dX0_become_16 rfl ?_
  refine q_callVv hC (As := [.inr 33]) md_X6_become mv_X6_become ml_X0_41 ly_8 rfl dX0_become_19 rfl (Nat.le_of_ble_eq_true rfl) rfl rfl h (fun M103 hM104 h => ?_)
  refine q_aload_n hC dX0_become_22 rfl rfl ?_
  refine q_getr hC fl_X0_26 ly_1 rfl dX0_become_23 rfl ?_
  refine q_aload_n hC dX0_become_26 rfl rfl ?_
  refine q_getr hC fl_X0_26 ly_26 rfl dX0_become_27 rfl ?_
  refine q_callVv hC (As := [.inr 41]) md_X5_become mv_X5_become ml_X0_44 ly_16 rfl dX0_become_30 rfl (Nat.le_of_ble_eq_true rfl) rfl rfl h (fun M105 hM106 h => ?_)
  refine q_aload_n hC dX0_become_33 rfl rfl ?_
  refine q_getr hC fl_X0_33 ly_1 rfl dX0_become_34 rfl ?_
  refine q_aload_n hC dX0_become_37 rfl rfl ?_
  refine q_getr hC fl_X0_33 ly_26 rfl dX0_become_38 rfl ?_
  refine q_callVv hC (As := [.inr 47]) md_X1_become mv_X1_become ml_X0_47 ly_22 rfl dX0_become_41 rfl (Nat.le_of_ble_eq_true rfl) rfl rfl h (fun M107 hM108 h => ?_)
  exact q_vret hC hQ dX0_become_44 h
set_option maxRecDepth 20000 in
theorem e_X3_become_b {g : qG} {d : Nat} {M : qM} {K : qM → Prop}   (h : qOk g (d + 1) j_X7_copyRow [.inr 28, .inr 3] (qU M 2 0 (M 27 0)) (qN fun M102 => qOk g (d + 1) j_X7_copyRow [.inr 29, .inr 4] M102 (qN fun M104 => qOk g (d + 1) j_X7_copyRow [.inr 30, .inr 5] (qU M104 2 3 (M104 27 3)) (qN fun M107 => qOk g (d + 1) j_X7_copyRow [.inr 31, .inr 6] M107 (qN fun M109 => qOk g (d + 1) j_X7_copyRow [.inr 32, .inr 7] M109 (qN fun M111 => K M111)))))) : qOk g (d + 2) j_X3_become [.inr 2, .inr 27] M (qN K) := by
  refine qOk.of (by decide) (Nat.le_of_ble_eq_true rfl) (fun C hC hQ => ?_)
  have hC : qCk g C cX3_become RX3 2 (d + 2) := hC
  have hQ : qRt g C none (qN K) := hQ
  show qW g C 0 [some (.inr 2), some (.inr 27)] [] M
  refine qW.rm (fun hM => ?_)
  refine q_aload_n hC dX3_become_0 rfl rfl ?_
  refine q_aload_n hC dX3_become_1 rfl rfl ?_
  refine q_geti hC fl_X3_33 ly_27 rfl (z := 0) rfl dX3_become_2 rfl ?_
  have hM101 : qIn (qU M 2 0 (M 27 0)) := (qU_in hM (hM 27 0))
  refine q_puti hC fp_X3_33 ly_2 rfl (z := 0) rfl dX3_become_5 rfl (hM 27 0) ?_
  refine q_aload_n hC dX3_become_8 rfl rfl ?_
  refine q_getr hC fl_X3_9 ly_27 rfl dX3_become_9 rfl ?_
  refine q_aload_n hC dX3_become_12 rfl rfl ?_
  refine q_getr hC fl_X3_9 ly_2 rfl dX3_become_13 rfl ?_
  refine q_callSv hC (As := [.inr 28, .inr 3]) md_X7_copyRow ms_X7_copyRow ml_X3_37 dX3_become_16 rfl (Nat.le_of_ble_eq_true rfl) rfl rfl h (fun M102 hM103 h => ?_)
  refine q_aload_n hC dX3_become_19 rfl rfl ?_
  refine q_getr hC fl_X3_15 ly_27 rfl dX3_become_20 rfl ?_
  refine q_aload_n hC dX3_become_23 rfl rfl ?_
  refine q_getr hC fl_X3_15 ly_2 rfl dX3_become_24 rfl ?_
  refine q_callSv hC (As := [.inr 29, .inr 4]) md_X7_copyRow ms_X7_copyRow ml_X3_37 dX3_become_27 rfl (Nat.le_of_ble_eq_true rfl) rfl rfl h (fun M104 hM105 h => ?_)
  refine q_aload_n hC dX3_become_30 rfl rfl ?_
  refine q_aload_n hC dX3_become_31 rfl rfl ?_
  refine q_geti hC fl_X3_41 ly_27 rfl (z := 3) rfl dX3_become_32 rfl ?_
  have hM106 : qIn (qU M104 2 3 (M104 27 3)) := (qU_in hM105 (hM105 27 3))
  refine q_puti hC fp_X3_41 ly_2 rfl (z := 3) rfl dX3_become_35 rfl (hM105 27 3) ?_
  refine q_aload_n hC dX3_become_38 rfl rfl ?_
  refine q_getr hC fl_X3_18 ly_27 rfl dX3_become_39 rfl ?_
  refine q_aload_n hC dX3_become_42 rfl rfl ?_
  refine q_getr hC fl_X3_18 ly_2 rfl dX3_become_43 rfl ?_
  refine q_callSv hC (As := [.inr 30, .inr 5]) md_X7_copyRow ms_X7_copyRow ml_X3_37 dX3_become_46 rfl (Nat.le_of_ble_eq_true rfl) rfl rfl h (fun M107 hM108 h => ?_)
  refine q_aload_n hC dX3_become_49 rfl rfl ?_
  refine q_getr hC fl_X3_21 ly_27 rfl dX3_become_50 rfl ?_
  refine q_aload_n hC dX3_become_53 rfl rfl ?_
  refine q_getr hC fl_X3_21 ly_2 rfl dX3_become_54 rfl ?_
  refine q_callSv hC (As := [.inr 31, .inr 6]) md_X7_copyRow ms_X7_copyRow ml_X3_37 dX3_become_57 rfl (Nat.le_of_ble_eq_true rfl) rfl rfl h (fun M109 hM110 h => ?_)
  refine q_aload_n hC dX3_become_60 rfl rfl ?_
  refine q_getr hC fl_X3_24 ly_27 rfl dX3_become_61 rfl ?_
  refine q_aload_n hC dX3_become_64 rfl rfl ?_
  refine q_getr hC fl_X3_24 ly_2 rfl dX3_become_65 rfl ?_
  refine q_callSv hC (As := [.inr 32, .inr 7]) md_X7_copyRow ms_X7_copyRow ml_X3_37 dX3_become_68 rfl (Nat.le_of_ble_eq_true rfl) rfl rfl h (fun M111 hM112 h => ?_)
  exact q_vret hC hQ dX3_become_71 h
set_option maxRecDepth 20000 in
theorem e_X6_become_b {g : qG} {d : Nat} {M : qM} {K : qM → Prop}   (h : qOk g (d + 1) j_X7_copyRow [.inr 34, .inr 9] (qU M 8 0 (M 33 0)) (qN fun M102 => qOk g (d + 1) j_X7_copyRow [.inr 35, .inr 10] M102 (qN fun M104 => qOk g (d + 1) j_X7_copyRow [.inr 36, .inr 11] (qU M104 8 3 (M104 33 3)) (qN fun M107 => qOk g (d + 1) j_X7_copyRow [.inr 37, .inr 12] M107 (qN fun M109 => qOk g (d + 1) j_X7_copyRow [.inr 38, .inr 13] M109 (qN fun M111 => qOk g (d + 1) j_X7_copyRow [.inr 39, .inr 14] M111 (qN fun M113 => qOk g (d + 1) j_X7_copyRow [.inr 40, .inr 15] M113 (qN fun M115 => K M115)))))))) : qOk g (d + 2) j_X6_become [.inr 8, .inr 33] M (qN K) := by
  refine qOk.of (by decide) (Nat.le_of_ble_eq_true rfl) (fun C hC hQ => ?_)
  have hC : qCk g C cX6_become RX6 2 (d + 2) := hC
  have hQ : qRt g C none (qN K) := hQ
  show qW g C 0 [some (.inr 8), some (.inr 33)] [] M
  refine qW.rm (fun hM => ?_)
  refine q_aload_n hC dX6_become_0 rfl rfl ?_
  refine q_aload_n hC dX6_become_1 rfl rfl ?_
  refine q_geti hC fl_X6_33 ly_33 rfl (z := 0) rfl dX6_become_2 rfl ?_
  have hM101 : qIn (qU M 8 0 (M 33 0)) := (qU_in hM (hM 33 0))
  refine q_puti hC fp_X6_33 ly_8 rfl (z := 0) rfl dX6_become_5 rfl (hM 33 0) ?_
  refine q_aload_n hC dX6_become_8 rfl rfl ?_
  refine q_getr hC fl_X6_9 ly_33 rfl dX6_become_9 rfl ?_
  refine q_aload_n hC dX6_become_12 rfl rfl ?_
  refine q_getr hC fl_X6_9 ly_8 rfl dX6_become_13 rfl ?_
  refine q_callSv hC (As := [.inr 34, .inr 9]) md_X7_copyRow ms_X7_copyRow ml_X6_37 dX6_become_16 rfl (Nat.le_of_ble_eq_true rfl) rfl rfl h (fun M102 hM103 h => ?_)
  refine q_aload_n hC dX6_become_19 rfl rfl ?_
  refine q_getr hC fl_X6_15 ly_33 rfl dX6_become_20 rfl ?_
  refine q_aload_n hC dX6_become_23 rfl rfl ?_
  refine q_getr hC fl_X6_15 ly_8 rfl dX6_become_24 rfl ?_
  refine q_callSv hC (As := [.inr 35, .inr 10]) md_X7_copyRow ms_X7_copyRow ml_X6_37 dX6_become_27 rfl (Nat.le_of_ble_eq_true rfl) rfl rfl h (fun M104 hM105 h => ?_)
  refine q_aload_n hC dX6_become_30 rfl rfl ?_
  refine q_aload_n hC dX6_become_31 rfl rfl ?_
  refine q_geti hC fl_X6_41 ly_33 rfl (z := 3) rfl dX6_become_32 rfl ?_
  have hM106 : qIn (qU M104 8 3 (M104 33 3)) := (qU_in hM105 (hM105 33 3))
  refine q_puti hC fp_X6_41 ly_8 rfl (z := 3) rfl dX6_become_35 rfl (hM105 33 3) ?_
  refine q_aload_n hC dX6_become_38 rfl rfl ?_
  refine q_getr hC fl_X6_18 ly_33 rfl dX6_become_39 rfl ?_
  refine q_aload_n hC dX6_become_42 rfl rfl ?_
  refine q_getr hC fl_X6_18 ly_8 rfl dX6_become_43 rfl ?_
  refine q_callSv hC (As := [.inr 36, .inr 11]) md_X7_copyRow ms_X7_copyRow ml_X6_37 dX6_become_46 rfl (Nat.le_of_ble_eq_true rfl) rfl rfl h (fun M107 hM108 h => ?_)
  refine q_aload_n hC dX6_become_49 rfl rfl ?_
  refine q_getr hC fl_X6_21 ly_33 rfl dX6_become_50 rfl ?_
  refine q_aload_n hC dX6_become_53 rfl rfl ?_
  refine q_getr hC fl_X6_21 ly_8 rfl dX6_become_54 rfl ?_
  refine q_callSv hC (As := [.inr 37, .inr 12]) md_X7_copyRow ms_X7_copyRow ml_X6_37 dX6_become_57 rfl (Nat.le_of_ble_eq_true rfl) rfl rfl h (fun M109 hM110 h => ?_)
  refine q_aload_n hC dX6_become_60 rfl rfl ?_
  refine q_getr hC fl_X6_24 ly_33 rfl dX6_become_61 rfl ?_
  refine q_aload_n hC dX6_become_64 rfl rfl ?_
  refine q_getr hC fl_X6_24 ly_8 rfl dX6_become_65 rfl ?_
  refine q_callSv hC (As := [.inr 38, .inr 13]) md_X7_copyRow ms_X7_copyRow ml_X6_37 dX6_become_68 rfl (Nat.le_of_ble_eq_true rfl) rfl rfl h (fun M111 hM112 h => ?_)
  refine q_aload_n hC dX6_become_71 rfl rfl ?_
  refine q_getr hC fl_X6_27 ly_33 rfl dX6_become_72 rfl ?_
  refine q_aload_n hC dX6_become_75 rfl rfl ?_
  refine q_getr hC fl_X6_27 ly_8 rfl dX6_become_76 rfl ?_
  refine q_callSv hC (As := [.inr 39, .inr 14]) md_X7_copyRow ms_X7_copyRow ml_X6_37 dX6_become_79 rfl (Nat.le_of_ble_eq_true rfl) rfl rfl h (fun M113 hM114 h => ?_)
  refine q_aload_n hC dX6_become_82 rfl rfl ?_
  refine q_getr hC fl_X6_30 ly_33 rfl dX6_become_83 rfl ?_
  refine q_aload_n hC dX6_become_86 rfl rfl ?_
  refine q_getr hC fl_X6_30 ly_8 rfl dX6_become_87 rfl ?_
  refine q_callSv hC (As := [.inr 40, .inr 15]) md_X7_copyRow ms_X7_copyRow ml_X6_37 dX6_become_90 rfl (Nat.le_of_ble_eq_true rfl) rfl rfl h (fun M115 hM116 h => ?_)
  exact q_vret hC hQ dX6_become_93 h
set_option maxRecDepth 20000 in
theorem e_X5_become_b {g : qG} {d : Nat} {M : qM} {K : qM → Prop}   (h : qOk g (d + 1) j_X7_copyRow [.inr 42, .inr 17] (qU M 16 0 (M 41 0)) (qN fun M102 => qOk g (d + 1) j_X7_copyRow [.inr 43, .inr 18] M102 (qN fun M104 => qOk g (d + 1) j_X7_copyRow [.inr 44, .inr 19] M104 (qN fun M106 => qOk g (d + 1) j_X7_copyRow [.inr 45, .inr 20] M106 (qN fun M108 => qOk g (d + 1) j_X7_copyMarks [.inr 46, .inr 21] M108 (qN fun M110 => K M110)))))) : qOk g (d + 2) j_X5_become [.inr 16, .inr 41] M (qN K) := by
  refine qOk.of (by decide) (Nat.le_of_ble_eq_true rfl) (fun C hC hQ => ?_)
  have hC : qCk g C cX5_become RX5 2 (d + 2) := hC
  have hQ : qRt g C none (qN K) := hQ
  show qW g C 0 [some (.inr 16), some (.inr 41)] [] M
  refine qW.rm (fun hM => ?_)
  refine q_aload_n hC dX5_become_0 rfl rfl ?_
  refine q_aload_n hC dX5_become_1 rfl rfl ?_
  refine q_geti hC fl_X5_28 ly_41 rfl (z := 0) rfl dX5_become_2 rfl ?_
  have hM101 : qIn (qU M 16 0 (M 41 0)) := (qU_in hM (hM 41 0))
  refine q_puti hC fp_X5_28 ly_16 rfl (z := 0) rfl dX5_become_5 rfl (hM 41 0) ?_
  refine q_aload_n hC dX5_become_8 rfl rfl ?_
  refine q_getr hC fl_X5_9 ly_41 rfl dX5_become_9 rfl ?_
  refine q_aload_n hC dX5_become_12 rfl rfl ?_
  refine q_getr hC fl_X5_9 ly_16 rfl dX5_become_13 rfl ?_
  refine q_callSv hC (As := [.inr 42, .inr 17]) md_X7_copyRow ms_X7_copyRow ml_X5_32 dX5_become_16 rfl (Nat.le_of_ble_eq_true rfl) rfl rfl h (fun M102 hM103 h => ?_)
  refine q_aload_n hC dX5_become_19 rfl rfl ?_
  refine q_getr hC fl_X5_15 ly_41 rfl dX5_become_20 rfl ?_
  refine q_aload_n hC dX5_become_23 rfl rfl ?_
  refine q_getr hC fl_X5_15 ly_16 rfl dX5_become_24 rfl ?_
  refine q_callSv hC (As := [.inr 43, .inr 18]) md_X7_copyRow ms_X7_copyRow ml_X5_32 dX5_become_27 rfl (Nat.le_of_ble_eq_true rfl) rfl rfl h (fun M104 hM105 h => ?_)
  refine q_aload_n hC dX5_become_30 rfl rfl ?_
  refine q_getr hC fl_X5_18 ly_41 rfl dX5_become_31 rfl ?_
  refine q_aload_n hC dX5_become_34 rfl rfl ?_
  refine q_getr hC fl_X5_18 ly_16 rfl dX5_become_35 rfl ?_
  refine q_callSv hC (As := [.inr 44, .inr 19]) md_X7_copyRow ms_X7_copyRow ml_X5_32 dX5_become_38 rfl (Nat.le_of_ble_eq_true rfl) rfl rfl h (fun M106 hM107 h => ?_)
  refine q_aload_n hC dX5_become_41 rfl rfl ?_
  refine q_getr hC fl_X5_21 ly_41 rfl dX5_become_42 rfl ?_
  refine q_aload_n hC dX5_become_45 rfl rfl ?_
  refine q_getr hC fl_X5_21 ly_16 rfl dX5_become_46 rfl ?_
  refine q_callSv hC (As := [.inr 45, .inr 20]) md_X7_copyRow ms_X7_copyRow ml_X5_32 dX5_become_49 rfl (Nat.le_of_ble_eq_true rfl) rfl rfl h (fun M108 hM109 h => ?_)
  refine q_aload_n hC dX5_become_52 rfl rfl ?_
  refine q_getr hC fl_X5_24 ly_41 rfl dX5_become_53 rfl ?_
  refine q_aload_n hC dX5_become_56 rfl rfl ?_
  refine q_getr hC fl_X5_24 ly_16 rfl dX5_become_57 rfl ?_
  refine q_callSv hC (As := [.inr 46, .inr 21]) md_X7_copyMarks ms_X7_copyMarks ml_X5_36 dX5_become_60 rfl (Nat.le_of_ble_eq_true rfl) rfl rfl h (fun M110 hM111 h => ?_)
  exact q_vret hC hQ dX5_become_63 h
set_option maxRecDepth 20000 in
theorem e_X1_become_b {g : qG} {d : Nat} {M : qM} {K : qM → Prop}   (h : qOk g (d + 1) j_X7_copyRow [.inr 48, .inr 23] (qU M 22 0 (M 47 0)) (qN fun M102 => qOk g (d + 1) j_X7_copyMarks [.inr 49, .inr 24] M102 (qN fun M104 => qOk g (d + 1) j_X7_copyRow [.inr 50, .inr 25] M104 (qN fun M106 => K M106)))) : qOk g (d + 2) j_X1_become [.inr 22, .inr 47] M (qN K) := by
  refine qOk.of (by decide) (Nat.le_of_ble_eq_true rfl) (fun C hC hQ => ?_)
  have hC : qCk g C cX1_become RX1 2 (d + 2) := hC
  have hQ : qRt g C none (qN K) := hQ
  show qW g C 0 [some (.inr 22), some (.inr 47)] [] M
  refine qW.rm (fun hM => ?_)
  refine q_aload_n hC dX1_become_0 rfl rfl ?_
  refine q_aload_n hC dX1_become_1 rfl rfl ?_
  refine q_geti hC fl_X1_22 ly_47 rfl (z := 0) rfl dX1_become_2 rfl ?_
  have hM101 : qIn (qU M 22 0 (M 47 0)) := (qU_in hM (hM 47 0))
  refine q_puti hC fp_X1_22 ly_22 rfl (z := 0) rfl dX1_become_5 rfl (hM 47 0) ?_
  refine q_aload_n hC dX1_become_8 rfl rfl ?_
  refine q_getr hC fl_X1_9 ly_47 rfl dX1_become_9 rfl ?_
  refine q_aload_n hC dX1_become_12 rfl rfl ?_
  refine q_getr hC fl_X1_9 ly_22 rfl dX1_become_13 rfl ?_
  refine q_callSv hC (As := [.inr 48, .inr 23]) md_X7_copyRow ms_X7_copyRow ml_X1_26 dX1_become_16 rfl (Nat.le_of_ble_eq_true rfl) rfl rfl h (fun M102 hM103 h => ?_)
  refine q_aload_n hC dX1_become_19 rfl rfl ?_
  refine q_getr hC fl_X1_15 ly_47 rfl dX1_become_20 rfl ?_
  refine q_aload_n hC dX1_become_23 rfl rfl ?_
  refine q_getr hC fl_X1_15 ly_22 rfl dX1_become_24 rfl ?_
  refine q_callSv hC (As := [.inr 49, .inr 24]) md_X7_copyMarks ms_X7_copyMarks ml_X1_30 dX1_become_27 rfl (Nat.le_of_ble_eq_true rfl) rfl rfl h (fun M104 hM105 h => ?_)
  refine q_aload_n hC dX1_become_30 rfl rfl ?_
  refine q_getr hC fl_X1_19 ly_47 rfl dX1_become_31 rfl ?_
  refine q_aload_n hC dX1_become_34 rfl rfl ?_
  refine q_getr hC fl_X1_19 ly_22 rfl dX1_become_35 rfl ?_
  refine q_callSv hC (As := [.inr 50, .inr 25]) md_X7_copyRow ms_X7_copyRow ml_X1_26 dX1_become_38 rfl (Nat.le_of_ble_eq_true rfl) rfl rfl h (fun M106 hM107 h => ?_)
  exact q_vret hC hQ dX1_become_41 h
