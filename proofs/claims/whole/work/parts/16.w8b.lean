set_option maxRecDepth 20000 in
theorem e_X8_of {g : qG} {d : Nat} {M : qM} {K : Int → qM → Prop} {x1 : Int} {x2 : Int} (hx1 : qR x1) (hx2 : qR x2) (h : (0 ≤ (M 64 3)) ∧ (((0 ≤ x1 ∧ x1 < (M 64 3)) → (((0 ≤ x2 ∧ x2 ≤ 5) → ((5 ≤ x2 → (0 ≤ (5 * x1) ∧ (5 * x1) < 400) ∧ (qOk g (d + 1) j_X8_findDone [.inr 63, .inl (M 73 (5 * x1))] M (qN fun M111 => qOk g (d + 1) j_X8_counts [.inr 63, .inl x1] M111 (qI fun x115 M113 => ((x115 = 0 → (K 0 M113)) ∧ (x115 ≠ 0 → (K 1 M113))))))) ∧ (x2 < 5 → (0 ≤ ((5 * x1) + x2) ∧ ((5 * x1) + x2) < 400) ∧ (K (M 73 ((5 * x1) + x2)) M)))) ∧ ((x2 < 0 ∨ 5 < x2) → (K (-1) M)))) ∧ ((x1 < 0 ∨ (M 64 3) ≤ x1) → (K (-1) M)))) : qOk g (d + 2) j_X8_of [.inr 63, .inl x1, .inl x2] M (qI K) := by
  refine qOk.of (by decide) (Nat.le_of_ble_eq_true rfl) (fun C hC hQ => ?_)
  have hC : qCk g C cX8_of RX8 3 (d + 2) := hC
  have hQ : qRt g C (some .int) (qI K) := hQ
  show qW g C 0 [some (.inr 63), some (.inl x1), some (.inl x2)] [] M
  refine qW.rm (fun hM => ?_)
  refine q_aload_n hC dX8_of_0 rfl rfl ?_
  refine q_iconst hC dX8_of_1 rfl ?_
  refine q_iload_n hC dX8_of_2 rfl rfl ?_
  obtain ⟨r101, h⟩ := h
  refine q_callVi hC (As := [.inl 3, .inl x1]) md_X8_is mv_X8_is ml_X8_86 ly_63 rfl dX8_of_3 rfl (Nat.le_of_ble_eq_true rfl) rfl rfl (b_X8_is (by decide) hx1 (by decide) r101) (fun x102 M103 hM104 r105 hk => ?_)
  obtain ⟨ee, hk⟩ := hk
  have ee := ee.symm
  subst ee
  rcases hk with ⟨ee, c⟩ | ⟨ee, c⟩
  · have ee := ee.symm
    subst ee
    have h := h.1 c
    refine q_if_eq hC dX8_of_6 (t := 18) (by decide) rfl (by decide) (fun c => ?_) (fun c => ?_)
    · exact absurd c (by decide)
    · refine q_iload_n hC dX8_of_9 rfl rfl ?_
      refine q_iconst hC dX8_of_10 rfl ?_
      refine q_iconst hC dX8_of_11 rfl ?_
      refine q_callSi hC (As := [.inl x2, .inl 0, .inl 5]) md_X8_in ms_X8_in ml_X8_74 dX8_of_12 rfl (Nat.le_of_ble_eq_true rfl) rfl rfl (b_X8_in hx2 (by decide) (by decide)) (fun x106 M107 hM108 r109 hk => ?_)
      obtain ⟨ee, hk⟩ := hk
      have ee := ee.symm
      subst ee
      rcases hk with ⟨ee, c⟩ | ⟨ee, c⟩
      · have ee := ee.symm
        subst ee
        have h := h.1 c
        refine q_if_ne hC dX8_of_15 (t := 20) (by decide) rfl (by decide) (fun c => ?_) (fun c => ?_)
        · refine q_iload_n hC dX8_of_20 rfl rfl ?_
          refine q_iconst hC dX8_of_21 rfl ?_
          refine q_icmp_ge hC dX8_of_22 (t := 36) (by decide) rfl hx2 (by decide) (fun c => ?_) (fun c => ?_)
          · have h := h.1 c
            refine q_aload_n hC dX8_of_36 rfl rfl ?_
            refine q_aload_n hC dX8_of_37 rfl rfl ?_
            refine q_getr hC fl_X8_37 ly_63 rfl dX8_of_38 rfl ?_
            refine q_iconst hC dX8_of_41 rfl ?_
            refine q_iload_n hC dX8_of_42 rfl rfl ?_
            refine q_imul hC dX8_of_43 rfl ?_
            obtain ⟨r110, h⟩ := h
            refine q_iald hC ly_73 dX8_of_44 rfl r110 ?_
            refine q_callVv hC (As := [.inl (M 73 (5 * x1))]) md_X8_findDone mv_X8_findDone ml_X8_99 ly_63 rfl dX8_of_45 rfl (Nat.le_of_ble_eq_true rfl) rfl rfl h (fun M111 hM112 h => ?_)
            refine q_aload_n hC dX8_of_48 rfl rfl ?_
            refine q_iload_n hC dX8_of_49 rfl rfl ?_
            refine q_callVi hC (As := [.inl x1]) md_X8_counts mv_X8_counts ml_X8_93 ly_63 rfl dX8_of_50 rfl (Nat.le_of_ble_eq_true rfl) rfl rfl h (fun x115 M113 hM114 r116 h => ?_)
            refine q_if_eq hC dX8_of_53 (t := 60) (by decide) rfl r116 (fun c => ?_) (fun c => ?_)
            · have h := h.1 c
              refine q_iconst hC dX8_of_60 rfl ?_
              exact q_iret hC hQ dX8_of_61 (by decide) h
            · have h := h.2 c
              refine q_iconst hC dX8_of_56 rfl ?_
              refine q_goto hC dX8_of_57 (q := 61) (by decide) ?_
              exact q_iret hC hQ dX8_of_61 (by decide) h
          · have h := h.2 c
            refine q_aload_n hC dX8_of_25 rfl rfl ?_
            refine q_getr hC fl_X8_37 ly_63 rfl dX8_of_26 rfl ?_
            refine q_iconst hC dX8_of_29 rfl ?_
            refine q_iload_n hC dX8_of_30 rfl rfl ?_
            refine q_imul hC dX8_of_31 rfl ?_
            refine q_iload_n hC dX8_of_32 rfl rfl ?_
            refine q_iadd hC dX8_of_33 rfl ?_
            obtain ⟨r117, h⟩ := h
            refine q_iald hC ly_73 dX8_of_34 rfl r117 ?_
            exact q_iret hC hQ dX8_of_35 (hM 73 ((5 * x1) + x2)) h
        · exact absurd c (by decide)
      · have ee := ee.symm
        subst ee
        have h := h.2 c
        refine q_if_ne hC dX8_of_15 (t := 20) (by decide) rfl (by decide) (fun c => ?_) (fun c => ?_)
        · exact absurd c (by decide)
        · refine q_iconst hC dX8_of_18 rfl ?_
          exact q_iret hC hQ dX8_of_19 (by decide) h
  · have ee := ee.symm
    subst ee
    have h := h.2 c
    refine q_if_eq hC dX8_of_6 (t := 18) (by decide) rfl (by decide) (fun c => ?_) (fun c => ?_)
    · refine q_iconst hC dX8_of_18 rfl ?_
      exact q_iret hC hQ dX8_of_19 (by decide) h
    · exact absurd c (by decide)
set_option maxRecDepth 20000 in
theorem e_X8_done {g : qG} {d : Nat} {M : qM} {K : Int → qM → Prop} {x1 : Int} {x2 : Int} (hx1 : qR x1) (hx2 : qR x2) (h : (0 ≤ (M 64 0)) ∧ (((0 ≤ x1 ∧ x1 < (M 64 0)) → (0 ≤ (M 64 2)) ∧ (((0 ≤ x2 ∧ x2 < (M 64 2)) → (qOk g (d + 1) j_X8_findDone [.inr 63, .inl x1] M (qN fun M111 => (0 ≤ x2 ∧ x2 < 10) ∧ ((0 ≤ (M111 78 x2) → (K (M111 78 x2) M111)) ∧ ((M111 78 x2) < 0 → (K (-3) M111)))))) ∧ ((x2 < 0 ∨ (M 64 2) ≤ x2) → (K (-1) M)))) ∧ ((x1 < 0 ∨ (M 64 0) ≤ x1) → (K (-1) M)))) : qOk g (d + 2) j_X8_done [.inr 63, .inl x1, .inl x2] M (qI K) := by
  refine qOk.of (by decide) (Nat.le_of_ble_eq_true rfl) (fun C hC hQ => ?_)
  have hC : qCk g C cX8_done RX8 3 (d + 2) := hC
  have hQ : qRt g C (some .int) (qI K) := hQ
  show qW g C 0 [some (.inr 63), some (.inl x1), some (.inl x2)] [] M
  refine qW.rm (fun hM => ?_)
  refine q_aload_n hC dX8_done_0 rfl rfl ?_
  refine q_iconst hC dX8_done_1 rfl ?_
  refine q_iload_n hC dX8_done_2 rfl rfl ?_
  obtain ⟨r101, h⟩ := h
  refine q_callVi hC (As := [.inl 0, .inl x1]) md_X8_is mv_X8_is ml_X8_86 ly_63 rfl dX8_done_3 rfl (Nat.le_of_ble_eq_true rfl) rfl rfl (b_X8_is (by decide) hx1 (by decide) r101) (fun x102 M103 hM104 r105 hk => ?_)
  obtain ⟨ee, hk⟩ := hk
  have ee := ee.symm
  subst ee
  rcases hk with ⟨ee, c⟩ | ⟨ee, c⟩
  · have ee := ee.symm
    subst ee
    have h := h.1 c
    refine q_if_eq hC dX8_done_6 (t := 18) (by decide) rfl (by decide) (fun c => ?_) (fun c => ?_)
    · exact absurd c (by decide)
    · refine q_aload_n hC dX8_done_9 rfl rfl ?_
      refine q_iconst hC dX8_done_10 rfl ?_
      refine q_iload_n hC dX8_done_11 rfl rfl ?_
      obtain ⟨r106, h⟩ := h
      refine q_callVi hC (As := [.inl 2, .inl x2]) md_X8_is mv_X8_is ml_X8_86 ly_63 rfl dX8_done_12 rfl (Nat.le_of_ble_eq_true rfl) rfl rfl (b_X8_is (by decide) hx2 (by decide) r106) (fun x107 M108 hM109 r110 hk => ?_)
      obtain ⟨ee, hk⟩ := hk
      have ee := ee.symm
      subst ee
      rcases hk with ⟨ee, c⟩ | ⟨ee, c⟩
      · have ee := ee.symm
        subst ee
        have h := h.1 c
        refine q_if_ne hC dX8_done_15 (t := 20) (by decide) rfl (by decide) (fun c => ?_) (fun c => ?_)
        · refine q_aload_n hC dX8_done_20 rfl rfl ?_
          refine q_iload_n hC dX8_done_21 rfl rfl ?_
          refine q_callVv hC (As := [.inl x1]) md_X8_findDone mv_X8_findDone ml_X8_99 ly_63 rfl dX8_done_22 rfl (Nat.le_of_ble_eq_true rfl) rfl rfl h (fun M111 hM112 h => ?_)
          refine q_aload_n hC dX8_done_25 rfl rfl ?_
          refine q_getr hC fl_X8_56 ly_63 rfl dX8_done_26 rfl ?_
          refine q_iload_n hC dX8_done_29 rfl rfl ?_
          obtain ⟨r113, h⟩ := h
          refine q_iald hC ly_78 dX8_done_30 rfl r113 ?_
          refine q_if_ge hC dX8_done_31 (t := 39) (by decide) rfl (hM112 78 x2) (fun c => ?_) (fun c => ?_)
          · have h := h.1 c
            refine q_aload_n hC dX8_done_39 rfl rfl ?_
            refine q_getr hC fl_X8_56 ly_63 rfl dX8_done_40 rfl ?_
            refine q_iload_n hC dX8_done_43 rfl rfl ?_
            refine q_iald hC ly_78 dX8_done_44 rfl r113 ?_
            exact q_iret hC hQ dX8_done_45 (hM112 78 x2) h
          · have h := h.2 c
            refine q_bipush hC dX8_done_34 (by decide) rfl ?_
            refine q_goto hC dX8_done_36 (q := 45) (by decide) ?_
            exact q_iret hC hQ dX8_done_45 (by decide) h
        · exact absurd c (by decide)
      · have ee := ee.symm
        subst ee
        have h := h.2 c
        refine q_if_ne hC dX8_done_15 (t := 20) (by decide) rfl (by decide) (fun c => ?_) (fun c => ?_)
        · exact absurd c (by decide)
        · refine q_iconst hC dX8_done_18 rfl ?_
          exact q_iret hC hQ dX8_done_19 (by decide) h
  · have ee := ee.symm
    subst ee
    have h := h.2 c
    refine q_if_eq hC dX8_done_6 (t := 18) (by decide) rfl (by decide) (fun c => ?_) (fun c => ?_)
    · refine q_iconst hC dX8_done_18 rfl ?_
      exact q_iret hC hQ dX8_done_19 (by decide) h
    · exact absurd c (by decide)
set_option maxRecDepth 20000 in
theorem e_X8_held {g : qG} {d : Nat} {M : qM} {K : Int → qM → Prop} {x1 : Int} {x2 : Int} (hx1 : qR x1) (hx2 : qR x2) (h : (0 ≤ (M 64 0)) ∧ (((0 ≤ x1 ∧ x1 < (M 64 0)) → (0 ≤ (M 64 4)) ∧ (((0 ≤ x2 ∧ x2 < (M 64 4)) → (qOk g (d + 2) j_X8_findHeld [.inr 63, .inl x1] M (qN fun M111 => (0 ≤ x2 ∧ x2 < 8) ∧ ((0 ≤ (M111 79 x2) → (K (M111 79 x2) M111)) ∧ ((M111 79 x2) < 0 → (K (-3) M111)))))) ∧ ((x2 < 0 ∨ (M 64 4) ≤ x2) → (K (-1) M)))) ∧ ((x1 < 0 ∨ (M 64 0) ≤ x1) → (K (-1) M)))) : qOk g (d + 3) j_X8_held [.inr 63, .inl x1, .inl x2] M (qI K) := by
  refine qOk.of (by decide) (Nat.le_of_ble_eq_true rfl) (fun C hC hQ => ?_)
  have hC : qCk g C cX8_held RX8 3 (d + 3) := hC
  have hQ : qRt g C (some .int) (qI K) := hQ
  show qW g C 0 [some (.inr 63), some (.inl x1), some (.inl x2)] [] M
  refine qW.rm (fun hM => ?_)
  refine q_aload_n hC dX8_held_0 rfl rfl ?_
  refine q_iconst hC dX8_held_1 rfl ?_
  refine q_iload_n hC dX8_held_2 rfl rfl ?_
  obtain ⟨r101, h⟩ := h
  refine q_callVi hC (As := [.inl 0, .inl x1]) md_X8_is mv_X8_is ml_X8_86 ly_63 rfl dX8_held_3 rfl (Nat.le_of_ble_eq_true rfl) rfl rfl (b_X8_is (by decide) hx1 (by decide) r101) (fun x102 M103 hM104 r105 hk => ?_)
  obtain ⟨ee, hk⟩ := hk
  have ee := ee.symm
  subst ee
  rcases hk with ⟨ee, c⟩ | ⟨ee, c⟩
  · have ee := ee.symm
    subst ee
    have h := h.1 c
    refine q_if_eq hC dX8_held_6 (t := 18) (by decide) rfl (by decide) (fun c => ?_) (fun c => ?_)
    · exact absurd c (by decide)
    · refine q_aload_n hC dX8_held_9 rfl rfl ?_
      refine q_iconst hC dX8_held_10 rfl ?_
      refine q_iload_n hC dX8_held_11 rfl rfl ?_
      obtain ⟨r106, h⟩ := h
      refine q_callVi hC (As := [.inl 4, .inl x2]) md_X8_is mv_X8_is ml_X8_86 ly_63 rfl dX8_held_12 rfl (Nat.le_of_ble_eq_true rfl) rfl rfl (b_X8_is (by decide) hx2 (by decide) r106) (fun x107 M108 hM109 r110 hk => ?_)
      obtain ⟨ee, hk⟩ := hk
      have ee := ee.symm
      subst ee
      rcases hk with ⟨ee, c⟩ | ⟨ee, c⟩
      · have ee := ee.symm
        subst ee
        have h := h.1 c
        refine q_if_ne hC dX8_held_15 (t := 20) (by decide) rfl (by decide) (fun c => ?_) (fun c => ?_)
        · refine q_aload_n hC dX8_held_20 rfl rfl ?_
          refine q_iload_n hC dX8_held_21 rfl rfl ?_
          refine q_callVv hC (As := [.inl x1]) md_X8_findHeld mv_X8_findHeld ml_X8_113 ly_63 rfl dX8_held_22 rfl (Nat.le_of_ble_eq_true rfl) rfl rfl h (fun M111 hM112 h => ?_)
          refine q_aload_n hC dX8_held_25 rfl rfl ?_
          refine q_getr hC fl_X8_59 ly_63 rfl dX8_held_26 rfl ?_
          refine q_iload_n hC dX8_held_29 rfl rfl ?_
          obtain ⟨r113, h⟩ := h
          refine q_iald hC ly_79 dX8_held_30 rfl r113 ?_
          refine q_if_ge hC dX8_held_31 (t := 39) (by decide) rfl (hM112 79 x2) (fun c => ?_) (fun c => ?_)
          · have h := h.1 c
            refine q_aload_n hC dX8_held_39 rfl rfl ?_
            refine q_getr hC fl_X8_59 ly_63 rfl dX8_held_40 rfl ?_
            refine q_iload_n hC dX8_held_43 rfl rfl ?_
            refine q_iald hC ly_79 dX8_held_44 rfl r113 ?_
            exact q_iret hC hQ dX8_held_45 (hM112 79 x2) h
          · have h := h.2 c
            refine q_bipush hC dX8_held_34 (by decide) rfl ?_
            refine q_goto hC dX8_held_36 (q := 45) (by decide) ?_
            exact q_iret hC hQ dX8_held_45 (by decide) h
        · exact absurd c (by decide)
      · have ee := ee.symm
        subst ee
        have h := h.2 c
        refine q_if_ne hC dX8_held_15 (t := 20) (by decide) rfl (by decide) (fun c => ?_) (fun c => ?_)
        · exact absurd c (by decide)
        · refine q_iconst hC dX8_held_18 rfl ?_
          exact q_iret hC hQ dX8_held_19 (by decide) h
  · have ee := ee.symm
    subst ee
    have h := h.2 c
    refine q_if_eq hC dX8_held_6 (t := 18) (by decide) rfl (by decide) (fun c => ?_) (fun c => ?_)
    · refine q_iconst hC dX8_held_18 rfl ?_
      exact q_iret hC hQ dX8_held_19 (by decide) h
    · exact absurd c (by decide)
set_option maxRecDepth 20000 in
theorem e_X8_lacks {g : qG} {d : Nat} {M : qM} {K : Int → qM → Prop} {x1 : Int} {x2 : Int} {x3 : Int} (hx1 : qR x1) (hx2 : qR x2) (hx3 : qR x3) (h : ∀ C : qX, qCk g C cX8_lacks RX8 8 (d + 3) → qRt g C (some .int) (qI K) → (0 ≤ (M 64 0)) ∧ (((0 ≤ x1 ∧ x1 < (M 64 0)) → (0 ≤ (M 64 4)) ∧ (((0 ≤ x2 ∧ x2 < (M 64 4)) → (((0 ≤ x3 ∧ x3 ≤ 3) → (qOk g (d + 2) j_X8_findHeld [.inr 63, .inl x1] M (qN fun M115 => qW g C 48 [some (.inr 63), some (.inl x1), some (.inl x2), some (.inl x3), some (.inl (5 * x2)), some (.inl 0), some (.inl 0), some (.inl 0)] [] M115))) ∧ ((x3 < 0 ∨ 3 < x3) → (K (-1) M)))) ∧ ((x2 < 0 ∨ (M 64 4) ≤ x2) → (K (-1) M)))) ∧ ((x1 < 0 ∨ (M 64 0) ≤ x1) → (K (-1) M)))) : qOk g (d + 3) j_X8_lacks [.inr 63, .inl x1, .inl x2, .inl x3] M (qI K) := by
  refine qOk.of (by decide) (Nat.le_of_ble_eq_true rfl) (fun C hC hQ => ?_)
  have hC : qCk g C cX8_lacks RX8 8 (d + 3) := hC
  have hQ : qRt g C (some .int) (qI K) := hQ
  have h := h C hC hQ
  show qW g C 0 [some (.inr 63), some (.inl x1), some (.inl x2), some (.inl x3), none, none, none, none] [] M
  refine qW.rm (fun hM => ?_)
  refine q_aload_n hC dX8_lacks_0 rfl rfl ?_
  refine q_iconst hC dX8_lacks_1 rfl ?_
  refine q_iload_n hC dX8_lacks_2 rfl rfl ?_
  obtain ⟨r101, h⟩ := h
  refine q_callVi hC (As := [.inl 0, .inl x1]) md_X8_is mv_X8_is ml_X8_86 ly_63 rfl dX8_lacks_3 rfl (Nat.le_of_ble_eq_true rfl) rfl rfl (b_X8_is (by decide) hx1 (by decide) r101) (fun x102 M103 hM104 r105 hk => ?_)
  obtain ⟨ee, hk⟩ := hk
  have ee := ee.symm
  subst ee
  rcases hk with ⟨ee, c⟩ | ⟨ee, c⟩
  · have ee := ee.symm
    subst ee
    have h := h.1 c
    refine q_if_eq hC dX8_lacks_6 (t := 27) (by decide) rfl (by decide) (fun c => ?_) (fun c => ?_)
    · exact absurd c (by decide)
    · refine q_aload_n hC dX8_lacks_9 rfl rfl ?_
      refine q_iconst hC dX8_lacks_10 rfl ?_
      refine q_iload_n hC dX8_lacks_11 rfl rfl ?_
      obtain ⟨r106, h⟩ := h
      refine q_callVi hC (As := [.inl 4, .inl x2]) md_X8_is mv_X8_is ml_X8_86 ly_63 rfl dX8_lacks_12 rfl (Nat.le_of_ble_eq_true rfl) rfl rfl (b_X8_is (by decide) hx2 (by decide) r106) (fun x107 M108 hM109 r110 hk => ?_)
      obtain ⟨ee, hk⟩ := hk
      have ee := ee.symm
      subst ee
      rcases hk with ⟨ee, c⟩ | ⟨ee, c⟩
      · have ee := ee.symm
        subst ee
        have h := h.1 c
        refine q_if_eq hC dX8_lacks_15 (t := 27) (by decide) rfl (by decide) (fun c => ?_) (fun c => ?_)
        · exact absurd c (by decide)
        · refine q_iload_n hC dX8_lacks_18 rfl rfl ?_
          refine q_iconst hC dX8_lacks_19 rfl ?_
          refine q_iconst hC dX8_lacks_20 rfl ?_
          refine q_callSi hC (As := [.inl x3, .inl 0, .inl 3]) md_X8_in ms_X8_in ml_X8_74 dX8_lacks_21 rfl (Nat.le_of_ble_eq_true rfl) rfl rfl (b_X8_in hx3 (by decide) (by decide)) (fun x111 M112 hM113 r114 hk => ?_)
          obtain ⟨ee, hk⟩ := hk
          have ee := ee.symm
          subst ee
          rcases hk with ⟨ee, c⟩ | ⟨ee, c⟩
          · have ee := ee.symm
            subst ee
            have h := h.1 c
            refine q_if_ne hC dX8_lacks_24 (t := 29) (by decide) rfl (by decide) (fun c => ?_) (fun c => ?_)
            · refine q_aload_n hC dX8_lacks_29 rfl rfl ?_
              refine q_iload_n hC dX8_lacks_30 rfl rfl ?_
              refine q_callVv hC (As := [.inl x1]) md_X8_findHeld mv_X8_findHeld ml_X8_113 ly_63 rfl dX8_lacks_31 rfl (Nat.le_of_ble_eq_true rfl) rfl rfl h (fun M115 hM116 h => ?_)
              refine q_iconst hC dX8_lacks_34 rfl ?_
              refine q_iload_n hC dX8_lacks_35 rfl rfl ?_
              refine q_imul hC dX8_lacks_36 rfl ?_
              refine q_istore hC dX8_lacks_37 (Nat.le_of_ble_eq_true rfl) (loc' := [some (.inr 63), some (.inl x1), some (.inl x2), some (.inl x3), some (.inl (5 * x2)), none, none, none]) rfl rfl ?_
              refine q_iconst hC dX8_lacks_39 rfl ?_
              refine q_istore hC dX8_lacks_40 (Nat.le_of_ble_eq_true rfl) (loc' := [some (.inr 63), some (.inl x1), some (.inl x2), some (.inl x3), some (.inl (5 * x2)), some (.inl 0), none, none]) rfl rfl ?_
              refine q_iconst hC dX8_lacks_42 rfl ?_
              refine q_istore hC dX8_lacks_43 (Nat.le_of_ble_eq_true rfl) (loc' := [some (.inr 63), some (.inl x1), some (.inl x2), some (.inl x3), some (.inl (5 * x2)), some (.inl 0), some (.inl 0), none]) rfl rfl ?_
              refine q_iconst hC dX8_lacks_45 rfl ?_
              refine q_istore hC dX8_lacks_46 (Nat.le_of_ble_eq_true rfl) (loc' := [some (.inr 63), some (.inl x1), some (.inl x2), some (.inl x3), some (.inl (5 * x2)), some (.inl 0), some (.inl 0), some (.inl 0)]) rfl rfl ?_
              exact h
            · exact absurd c (by decide)
          · have ee := ee.symm
            subst ee
            have h := h.2 c
            refine q_if_ne hC dX8_lacks_24 (t := 29) (by decide) rfl (by decide) (fun c => ?_) (fun c => ?_)
            · exact absurd c (by decide)
            · refine q_iconst hC dX8_lacks_27 rfl ?_
              exact q_iret hC hQ dX8_lacks_28 (by decide) h
      · have ee := ee.symm
        subst ee
        have h := h.2 c
        refine q_if_eq hC dX8_lacks_15 (t := 27) (by decide) rfl (by decide) (fun c => ?_) (fun c => ?_)
        · refine q_iconst hC dX8_lacks_27 rfl ?_
          exact q_iret hC hQ dX8_lacks_28 (by decide) h
        · exact absurd c (by decide)
  · have ee := ee.symm
    subst ee
    have h := h.2 c
    refine q_if_eq hC dX8_lacks_6 (t := 27) (by decide) rfl (by decide) (fun c => ?_) (fun c => ?_)
    · refine q_iconst hC dX8_lacks_27 rfl ?_
      exact q_iret hC hQ dX8_lacks_28 (by decide) h
    · exact absurd c (by decide)
set_option maxRecDepth 20000 in
theorem s_X8_lacks_48 {g : qG} {C : qX} {d : Nat} {M : qM} {K : Int → qM → Prop} (hC : qCk g C cX8_lacks RX8 8 (d + 3)) (hQ : qRt g C (some .int) (qI K)) {x1 : Int} {x2 : Int} {x3 : Int} {x4 : Int} {x5 : Int} {x6 : Int} {x7 : Int} (hx1 : qR x1) (hx2 : qR x2) (hx3 : qR x3) (hx4 : qR x4) (hx5 : qR x5) (hx6 : qR x6) (hx7 : qR x7) (h : ((10 ≤ x7 → (((x3 < 0 ∨ 2 < x3) → (0 ≤ (x4 + 4) ∧ (x4 + 4) < 40) ∧ (((M 72 (x4 + 4)) < 0 → (K 0 M)) ∧ (0 ≤ (M 72 (x4 + 4)) → (0 ≤ (M 72 (x4 + 4)) ∧ (M 72 (x4 + 4)) < 8) ∧ ((0 ≤ (M 79 (M 72 (x4 + 4))) → (K 0 M)) ∧ ((M 79 (M 72 (x4 + 4))) < 0 → (K 1 M)))))) ∧ (x3 = 0 → (K x5 M)) ∧ (x3 = 1 → (0 ≤ (x4 + 2) ∧ (x4 + 2) < 40) ∧ (((M 72 (x4 + 2)) ≤ x6 → (K 0 M)) ∧ (x6 < (M 72 (x4 + 2)) → (qR ((M 72 (x4 + 2)) - x6)) ∧ (K ((M 72 (x4 + 2)) - x6) M)))) ∧ (x3 = 2 → (0 ≤ (x4 + 3) ∧ (x4 + 3) < 40) ∧ (0 ≤ x1 ∧ x1 < 10) ∧ (((M 72 (x4 + 3)) ≤ (M 65 x1) → (K 0 M)) ∧ ((M 65 x1) < (M 72 (x4 + 3)) → (qR ((M 72 (x4 + 3)) - (M 65 x1))) ∧ (K ((M 72 (x4 + 3)) - (M 65 x1)) M)))))) ∧ (x7 < 10 → (0 ≤ x4 ∧ x4 < 40) ∧ (((qAnd (qShr (M 72 x4) x7) 1) ≠ 1 → (0 ≤ (x4 + 1) ∧ (x4 + 1) < 40) ∧ (((qAnd (qShr (M 72 (x4 + 1)) x7) 1) ≠ 1 → (qW g C 48 [some (.inr 63), some (.inl x1), some (.inl x2), some (.inl x3), some (.inl x4), some (.inl (qOr x5 0)), some (.inl (x6 + 0)), some (.inl (x7 + 1))] [] M)) ∧ ((qAnd (qShr (M 72 (x4 + 1)) x7) 1) = 1 → (x7 < (M 64 2) → 0 ≤ x7 ∧ x7 < 10) ∧ (((x7 < (M 64 2) ∧ 0 ≤ (M 78 x7)) → (qW g C 48 [some (.inr 63), some (.inl x1), some (.inl x2), some (.inl x3), some (.inl x4), some (.inl (qOr x5 0)), some (.inl (x6 + 1)), some (.inl (x7 + 1))] [] M)) ∧ ((M 64 2) ≤ x7 ∨ (M 78 x7) < 0 → (qW g C 48 [some (.inr 63), some (.inl x1), some (.inl x2), some (.inl x3), some (.inl x4), some (.inl (qOr x5 0)), some (.inl (x6 + 0)), some (.inl (x7 + 1))] [] M)))))) ∧ ((qAnd (qShr (M 72 x4) x7) 1) = 1 → (x7 < (M 64 2) → 0 ≤ x7 ∧ x7 < 10) ∧ (((x7 < (M 64 2) ∧ 0 ≤ (M 78 x7)) → (0 ≤ (x4 + 1) ∧ (x4 + 1) < 40) ∧ (((qAnd (qShr (M 72 (x4 + 1)) x7) 1) ≠ 1 → (qW g C 48 [some (.inr 63), some (.inl x1), some (.inl x2), some (.inl x3), some (.inl x4), some (.inl (qOr x5 0)), some (.inl (x6 + 0)), some (.inl (x7 + 1))] [] M)) ∧ ((qAnd (qShr (M 72 (x4 + 1)) x7) 1) = 1 → (x7 < (M 64 2) → 0 ≤ x7 ∧ x7 < 10) ∧ (((x7 < (M 64 2) ∧ 0 ≤ (M 78 x7)) → (qW g C 48 [some (.inr 63), some (.inl x1), some (.inl x2), some (.inl x3), some (.inl x4), some (.inl (qOr x5 0)), some (.inl (x6 + 1)), some (.inl (x7 + 1))] [] M)) ∧ ((M 64 2) ≤ x7 ∨ (M 78 x7) < 0 → (qW g C 48 [some (.inr 63), some (.inl x1), some (.inl x2), some (.inl x3), some (.inl x4), some (.inl (qOr x5 0)), some (.inl (x6 + 0)), some (.inl (x7 + 1))] [] M)))))) ∧ ((M 64 2) ≤ x7 ∨ (M 78 x7) < 0 → (0 ≤ (x4 + 1) ∧ (x4 + 1) < 40) ∧ (((qAnd (qShr (M 72 (x4 + 1)) x7) 1) ≠ 1 → (qW g C 48 [some (.inr 63), some (.inl x1), some (.inl x2), some (.inl x3), some (.inl x4), some (.inl (qOr x5 (qShl 1 x7))), some (.inl (x6 + 0)), some (.inl (x7 + 1))] [] M)) ∧ ((qAnd (qShr (M 72 (x4 + 1)) x7) 1) = 1 → (x7 < (M 64 2) → 0 ≤ x7 ∧ x7 < 10) ∧ (((x7 < (M 64 2) ∧ 0 ≤ (M 78 x7)) → (qW g C 48 [some (.inr 63), some (.inl x1), some (.inl x2), some (.inl x3), some (.inl x4), some (.inl (qOr x5 (qShl 1 x7))), some (.inl (x6 + 1)), some (.inl (x7 + 1))] [] M)) ∧ ((M 64 2) ≤ x7 ∨ (M 78 x7) < 0 → (qW g C 48 [some (.inr 63), some (.inl x1), some (.inl x2), some (.inl x3), some (.inl x4), some (.inl (qOr x5 (qShl 1 x7))), some (.inl (x6 + 0)), some (.inl (x7 + 1))] [] M)))))))))))) : qW g C 48 [some (.inr 63), some (.inl x1), some (.inl x2), some (.inl x3), some (.inl x4), some (.inl x5), some (.inl x6), some (.inl x7)] [] M := by
  refine qW.rm (fun hM => ?_)
  refine q_iload hC dX8_lacks_48 rfl rfl ?_
  refine q_bipush hC dX8_lacks_50 (by decide) rfl ?_
  refine q_icmp_ge hC dX8_lacks_52 (t := 136) (by decide) rfl hx7 (by decide) (fun c => ?_) (fun c => ?_)
  · have h := h.1 c
    refine q_iload_n hC dX8_lacks_136 rfl rfl ?_
    rcases (show (x3 < 0 ∨ 2 < x3) ∨ x3 = 0 ∨ x3 = 1 ∨ x3 = 2 by omega) with c | c | c | c
    · have h := h.1 c
      refine q_tabOut hC dX8_lacks_137 hx3 c (t := 237) (by decide) ?_
      refine q_aload_n hC dX8_lacks_237 rfl rfl ?_
      refine q_getr hC fl_X8_34 ly_63 rfl dX8_lacks_238 rfl ?_
      refine q_iload hC dX8_lacks_241 rfl rfl ?_
      refine q_iconst hC dX8_lacks_243 rfl ?_
      refine q_iadd hC dX8_lacks_244 rfl ?_
      obtain ⟨r101, h⟩ := h
      refine q_iald hC ly_72 dX8_lacks_245 rfl r101 ?_
      refine q_if_lt hC dX8_lacks_246 (t := 270) (by decide) rfl (hM 72 (x4 + 4)) (fun c => ?_) (fun c => ?_)
      · have h := h.1 c
        refine q_iconst hC dX8_lacks_270 rfl ?_
        exact q_iret hC hQ dX8_lacks_271 (by decide) h
      · have h := h.2 c
        refine q_aload_n hC dX8_lacks_249 rfl rfl ?_
        refine q_getr hC fl_X8_59 ly_63 rfl dX8_lacks_250 rfl ?_
        refine q_aload_n hC dX8_lacks_253 rfl rfl ?_
        refine q_getr hC fl_X8_34 ly_63 rfl dX8_lacks_254 rfl ?_
        refine q_iload hC dX8_lacks_257 rfl rfl ?_
        refine q_iconst hC dX8_lacks_259 rfl ?_
        refine q_iadd hC dX8_lacks_260 rfl ?_
        refine q_iald hC ly_72 dX8_lacks_261 rfl r101 ?_
        obtain ⟨r102, h⟩ := h
        refine q_iald hC ly_79 dX8_lacks_262 rfl r102 ?_
        refine q_if_ge hC dX8_lacks_263 (t := 270) (by decide) rfl (hM 79 (M 72 (x4 + 4))) (fun c => ?_) (fun c => ?_)
        · have h := h.1 c
          refine q_iconst hC dX8_lacks_270 rfl ?_
          exact q_iret hC hQ dX8_lacks_271 (by decide) h
        · have h := h.2 c
          refine q_iconst hC dX8_lacks_266 rfl ?_
          refine q_goto hC dX8_lacks_267 (q := 271) (by decide) ?_
          exact q_iret hC hQ dX8_lacks_271 (by decide) h
    · have h := h.2.1 c
      refine q_tabIn hC dX8_lacks_137 hx3 c (by decide) (off := 27) (by decide) (t := 164) (by decide) ?_
      refine q_iload hC dX8_lacks_164 rfl rfl ?_
      exact q_iret hC hQ dX8_lacks_166 hx5 h
    · have h := h.2.2.1 c
      refine q_tabIn hC dX8_lacks_137 hx3 c (by decide) (off := 30) (by decide) (t := 167) (by decide) ?_
      refine q_aload_n hC dX8_lacks_167 rfl rfl ?_
      refine q_getr hC fl_X8_34 ly_63 rfl dX8_lacks_168 rfl ?_
      refine q_iload hC dX8_lacks_171 rfl rfl ?_
      refine q_iconst hC dX8_lacks_173 rfl ?_
      refine q_iadd hC dX8_lacks_174 rfl ?_
      obtain ⟨r103, h⟩ := h
      refine q_iald hC ly_72 dX8_lacks_175 rfl r103 ?_
      refine q_iload hC dX8_lacks_176 rfl rfl ?_
      refine q_icmp_le hC dX8_lacks_178 (t := 196) (by decide) rfl (hM 72 (x4 + 2)) hx6 (fun c => ?_) (fun c => ?_)
      · have h := h.1 c
        refine q_iconst hC dX8_lacks_196 rfl ?_
        exact q_iret hC hQ dX8_lacks_197 (by decide) h
      · have h := h.2 c
        refine q_aload_n hC dX8_lacks_181 rfl rfl ?_
        refine q_getr hC fl_X8_34 ly_63 rfl dX8_lacks_182 rfl ?_
        refine q_iload hC dX8_lacks_185 rfl rfl ?_
        refine q_iconst hC dX8_lacks_187 rfl ?_
        refine q_iadd hC dX8_lacks_188 rfl ?_
        refine q_iald hC ly_72 dX8_lacks_189 rfl r103 ?_
        refine q_iload hC dX8_lacks_190 rfl rfl ?_
        refine q_isub hC dX8_lacks_192 rfl ?_
        refine q_goto hC dX8_lacks_193 (q := 197) (by decide) ?_
        obtain ⟨r104, h⟩ := h
        exact q_iret hC hQ dX8_lacks_197 r104 h
    · have h := h.2.2.2 c
      refine q_tabIn hC dX8_lacks_137 hx3 c (by decide) (off := 61) (by decide) (t := 198) (by decide) ?_
      refine q_aload_n hC dX8_lacks_198 rfl rfl ?_
      refine q_getr hC fl_X8_34 ly_63 rfl dX8_lacks_199 rfl ?_
      refine q_iload hC dX8_lacks_202 rfl rfl ?_
      refine q_iconst hC dX8_lacks_204 rfl ?_
      refine q_iadd hC dX8_lacks_205 rfl ?_
      obtain ⟨r105, h⟩ := h
      refine q_iald hC ly_72 dX8_lacks_206 rfl r105 ?_
      refine q_aload_n hC dX8_lacks_207 rfl rfl ?_
      refine q_getr hC fl_X8_13 ly_63 rfl dX8_lacks_208 rfl ?_
      refine q_iload_n hC dX8_lacks_211 rfl rfl ?_
      obtain ⟨r106, h⟩ := h
      refine q_iald hC ly_65 dX8_lacks_212 rfl r106 ?_
      refine q_icmp_le hC dX8_lacks_213 (t := 235) (by decide) rfl (hM 72 (x4 + 3)) (hM 65 x1) (fun c => ?_) (fun c => ?_)
      · have h := h.1 c
        refine q_iconst hC dX8_lacks_235 rfl ?_
        exact q_iret hC hQ dX8_lacks_236 (by decide) h
      · have h := h.2 c
        refine q_aload_n hC dX8_lacks_216 rfl rfl ?_
        refine q_getr hC fl_X8_34 ly_63 rfl dX8_lacks_217 rfl ?_
        refine q_iload hC dX8_lacks_220 rfl rfl ?_
        refine q_iconst hC dX8_lacks_222 rfl ?_
        refine q_iadd hC dX8_lacks_223 rfl ?_
        refine q_iald hC ly_72 dX8_lacks_224 rfl r105 ?_
        refine q_aload_n hC dX8_lacks_225 rfl rfl ?_
        refine q_getr hC fl_X8_13 ly_63 rfl dX8_lacks_226 rfl ?_
        refine q_iload_n hC dX8_lacks_229 rfl rfl ?_
        refine q_iald hC ly_65 dX8_lacks_230 rfl r106 ?_
        refine q_isub hC dX8_lacks_231 rfl ?_
        refine q_goto hC dX8_lacks_232 (q := 236) (by decide) ?_
        obtain ⟨r107, h⟩ := h
        exact q_iret hC hQ dX8_lacks_236 r107 h
  · have h := h.2 c
    refine q_iload hC dX8_lacks_55 rfl rfl ?_
    refine q_aload_n hC dX8_lacks_57 rfl rfl ?_
    refine q_getr hC fl_X8_34 ly_63 rfl dX8_lacks_58 rfl ?_
    refine q_iload hC dX8_lacks_61 rfl rfl ?_
    obtain ⟨r108, h⟩ := h
    refine q_iald hC ly_72 dX8_lacks_63 rfl r108 ?_
    refine q_iload hC dX8_lacks_64 rfl rfl ?_
    refine q_ishr hC dX8_lacks_66 rfl ?_
    refine q_iconst hC dX8_lacks_67 rfl ?_
    refine q_iand hC dX8_lacks_68 rfl ?_
    refine q_iconst hC dX8_lacks_69 rfl ?_
    refine q_icmp_ne hC dX8_lacks_70 (t := 89) (by decide) rfl (qR_and _ _) (by decide) (fun c => ?_) (fun c => ?_)
    · have h := h.1 c
      refine q_iconst hC dX8_lacks_89 rfl ?_
      refine q_ior hC dX8_lacks_90 rfl ?_
      refine q_istore hC dX8_lacks_91 (Nat.le_of_ble_eq_true rfl) (loc' := [some (.inr 63), some (.inl x1), some (.inl x2), some (.inl x3), some (.inl x4), some (.inl (qOr x5 0)), some (.inl x6), some (.inl x7)]) rfl rfl ?_
      refine q_iload hC dX8_lacks_93 rfl rfl ?_
      refine q_aload_n hC dX8_lacks_95 rfl rfl ?_
      refine q_getr hC fl_X8_34 ly_63 rfl dX8_lacks_96 rfl ?_
      refine q_iload hC dX8_lacks_99 rfl rfl ?_
      refine q_iconst hC dX8_lacks_101 rfl ?_
      refine q_iadd hC dX8_lacks_102 rfl ?_
      obtain ⟨r109, h⟩ := h
      refine q_iald hC ly_72 dX8_lacks_103 rfl r109 ?_
      refine q_iload hC dX8_lacks_104 rfl rfl ?_
      refine q_ishr hC dX8_lacks_106 rfl ?_
      refine q_iconst hC dX8_lacks_107 rfl ?_
      refine q_iand hC dX8_lacks_108 rfl ?_
      refine q_iconst hC dX8_lacks_109 rfl ?_
      refine q_icmp_ne hC dX8_lacks_110 (t := 126) (by decide) rfl (qR_and _ _) (by decide) (fun c => ?_) (fun c => ?_)
      · have h := h.1 c
        refine q_iconst hC dX8_lacks_126 rfl ?_
        refine q_iadd hC dX8_lacks_127 rfl ?_
        refine q_istore hC dX8_lacks_128 (Nat.le_of_ble_eq_true rfl) (loc' := [some (.inr 63), some (.inl x1), some (.inl x2), some (.inl x3), some (.inl x4), some (.inl (qOr x5 0)), some (.inl (x6 + 0)), some (.inl x7)]) rfl rfl ?_
        refine q_iinc hC dX8_lacks_130 rfl (loc' := [some (.inr 63), some (.inl x1), some (.inl x2), some (.inl x3), some (.inl x4), some (.inl (qOr x5 0)), some (.inl (x6 + 0)), some (.inl (x7 + 1))]) rfl rfl ?_
        refine q_goto hC dX8_lacks_133 (q := 48) (by decide) ?_
        exact h
      · have h := h.2 c
        refine q_aload_n hC dX8_lacks_113 rfl rfl ?_
        refine q_iload hC dX8_lacks_114 rfl rfl ?_
        obtain ⟨r110, h⟩ := h
        refine q_callVi hC (As := [.inl x7]) md_X8_isDone mv_X8_isDone ml_X8_96 ly_63 rfl dX8_lacks_116 rfl (Nat.le_of_ble_eq_true rfl) rfl rfl (b_X8_isDone hx7 r110) (fun x111 M112 hM113 r114 hk => ?_)
        obtain ⟨ee, hk⟩ := hk
        have ee := ee.symm
        subst ee
        rcases hk with ⟨ee, c⟩ | ⟨ee, c⟩
        · have ee := ee.symm
          subst ee
          have h := h.1 c
          refine q_if_eq hC dX8_lacks_119 (t := 126) (by decide) rfl (by decide) (fun c => ?_) (fun c => ?_)
          · exact absurd c (by decide)
          · refine q_iconst hC dX8_lacks_122 rfl ?_
            refine q_goto hC dX8_lacks_123 (q := 127) (by decide) ?_
            refine q_iadd hC dX8_lacks_127 rfl ?_
            refine q_istore hC dX8_lacks_128 (Nat.le_of_ble_eq_true rfl) (loc' := [some (.inr 63), some (.inl x1), some (.inl x2), some (.inl x3), some (.inl x4), some (.inl (qOr x5 0)), some (.inl (x6 + 1)), some (.inl x7)]) rfl rfl ?_
            refine q_iinc hC dX8_lacks_130 rfl (loc' := [some (.inr 63), some (.inl x1), some (.inl x2), some (.inl x3), some (.inl x4), some (.inl (qOr x5 0)), some (.inl (x6 + 1)), some (.inl (x7 + 1))]) rfl rfl ?_
            refine q_goto hC dX8_lacks_133 (q := 48) (by decide) ?_
            exact h
        · have ee := ee.symm
          subst ee
          have h := h.2 c
          refine q_if_eq hC dX8_lacks_119 (t := 126) (by decide) rfl (by decide) (fun c => ?_) (fun c => ?_)
          · refine q_iconst hC dX8_lacks_126 rfl ?_
            refine q_iadd hC dX8_lacks_127 rfl ?_
            refine q_istore hC dX8_lacks_128 (Nat.le_of_ble_eq_true rfl) (loc' := [some (.inr 63), some (.inl x1), some (.inl x2), some (.inl x3), some (.inl x4), some (.inl (qOr x5 0)), some (.inl (x6 + 0)), some (.inl x7)]) rfl rfl ?_
            refine q_iinc hC dX8_lacks_130 rfl (loc' := [some (.inr 63), some (.inl x1), some (.inl x2), some (.inl x3), some (.inl x4), some (.inl (qOr x5 0)), some (.inl (x6 + 0)), some (.inl (x7 + 1))]) rfl rfl ?_
            refine q_goto hC dX8_lacks_133 (q := 48) (by decide) ?_
            exact h
          · exact absurd c (by decide)
    · have h := h.2 c
      refine q_aload_n hC dX8_lacks_73 rfl rfl ?_
      refine q_iload hC dX8_lacks_74 rfl rfl ?_
      obtain ⟨r115, h⟩ := h
      refine q_callVi hC (As := [.inl x7]) md_X8_isDone mv_X8_isDone ml_X8_96 ly_63 rfl dX8_lacks_76 rfl (Nat.le_of_ble_eq_true rfl) rfl rfl (b_X8_isDone hx7 r115) (fun x116 M117 hM118 r119 hk => ?_)
      obtain ⟨ee, hk⟩ := hk
      have ee := ee.symm
      subst ee
      rcases hk with ⟨ee, c⟩ | ⟨ee, c⟩
      · have ee := ee.symm
        subst ee
        have h := h.1 c
        refine q_if_ne hC dX8_lacks_79 (t := 89) (by decide) rfl (by decide) (fun c => ?_) (fun c => ?_)
        · refine q_iconst hC dX8_lacks_89 rfl ?_
          refine q_ior hC dX8_lacks_90 rfl ?_
          refine q_istore hC dX8_lacks_91 (Nat.le_of_ble_eq_true rfl) (loc' := [some (.inr 63), some (.inl x1), some (.inl x2), some (.inl x3), some (.inl x4), some (.inl (qOr x5 0)), some (.inl x6), some (.inl x7)]) rfl rfl ?_
          refine q_iload hC dX8_lacks_93 rfl rfl ?_
          refine q_aload_n hC dX8_lacks_95 rfl rfl ?_
          refine q_getr hC fl_X8_34 ly_63 rfl dX8_lacks_96 rfl ?_
          refine q_iload hC dX8_lacks_99 rfl rfl ?_
          refine q_iconst hC dX8_lacks_101 rfl ?_
          refine q_iadd hC dX8_lacks_102 rfl ?_
          obtain ⟨r120, h⟩ := h
          refine q_iald hC ly_72 dX8_lacks_103 rfl r120 ?_
          refine q_iload hC dX8_lacks_104 rfl rfl ?_
          refine q_ishr hC dX8_lacks_106 rfl ?_
          refine q_iconst hC dX8_lacks_107 rfl ?_
          refine q_iand hC dX8_lacks_108 rfl ?_
          refine q_iconst hC dX8_lacks_109 rfl ?_
          refine q_icmp_ne hC dX8_lacks_110 (t := 126) (by decide) rfl (qR_and _ _) (by decide) (fun c => ?_) (fun c => ?_)
          · have h := h.1 c
            refine q_iconst hC dX8_lacks_126 rfl ?_
            refine q_iadd hC dX8_lacks_127 rfl ?_
            refine q_istore hC dX8_lacks_128 (Nat.le_of_ble_eq_true rfl) (loc' := [some (.inr 63), some (.inl x1), some (.inl x2), some (.inl x3), some (.inl x4), some (.inl (qOr x5 0)), some (.inl (x6 + 0)), some (.inl x7)]) rfl rfl ?_
            refine q_iinc hC dX8_lacks_130 rfl (loc' := [some (.inr 63), some (.inl x1), some (.inl x2), some (.inl x3), some (.inl x4), some (.inl (qOr x5 0)), some (.inl (x6 + 0)), some (.inl (x7 + 1))]) rfl rfl ?_
            refine q_goto hC dX8_lacks_133 (q := 48) (by decide) ?_
            exact h
          · have h := h.2 c
            refine q_aload_n hC dX8_lacks_113 rfl rfl ?_
            refine q_iload hC dX8_lacks_114 rfl rfl ?_
            obtain ⟨r121, h⟩ := h
            refine q_callVi hC (As := [.inl x7]) md_X8_isDone mv_X8_isDone ml_X8_96 ly_63 rfl dX8_lacks_116 rfl (Nat.le_of_ble_eq_true rfl) rfl rfl (b_X8_isDone hx7 r121) (fun x122 M123 hM124 r125 hk => ?_)
            obtain ⟨ee, hk⟩ := hk
            have ee := ee.symm
            subst ee
            rcases hk with ⟨ee, c⟩ | ⟨ee, c⟩
            · have ee := ee.symm
              subst ee
              have h := h.1 c
              refine q_if_eq hC dX8_lacks_119 (t := 126) (by decide) rfl (by decide) (fun c => ?_) (fun c => ?_)
              · exact absurd c (by decide)
              · refine q_iconst hC dX8_lacks_122 rfl ?_
                refine q_goto hC dX8_lacks_123 (q := 127) (by decide) ?_
                refine q_iadd hC dX8_lacks_127 rfl ?_
                refine q_istore hC dX8_lacks_128 (Nat.le_of_ble_eq_true rfl) (loc' := [some (.inr 63), some (.inl x1), some (.inl x2), some (.inl x3), some (.inl x4), some (.inl (qOr x5 0)), some (.inl (x6 + 1)), some (.inl x7)]) rfl rfl ?_
                refine q_iinc hC dX8_lacks_130 rfl (loc' := [some (.inr 63), some (.inl x1), some (.inl x2), some (.inl x3), some (.inl x4), some (.inl (qOr x5 0)), some (.inl (x6 + 1)), some (.inl (x7 + 1))]) rfl rfl ?_
                refine q_goto hC dX8_lacks_133 (q := 48) (by decide) ?_
                exact h
            · have ee := ee.symm
              subst ee
              have h := h.2 c
              refine q_if_eq hC dX8_lacks_119 (t := 126) (by decide) rfl (by decide) (fun c => ?_) (fun c => ?_)
              · refine q_iconst hC dX8_lacks_126 rfl ?_
                refine q_iadd hC dX8_lacks_127 rfl ?_
                refine q_istore hC dX8_lacks_128 (Nat.le_of_ble_eq_true rfl) (loc' := [some (.inr 63), some (.inl x1), some (.inl x2), some (.inl x3), some (.inl x4), some (.inl (qOr x5 0)), some (.inl (x6 + 0)), some (.inl x7)]) rfl rfl ?_
                refine q_iinc hC dX8_lacks_130 rfl (loc' := [some (.inr 63), some (.inl x1), some (.inl x2), some (.inl x3), some (.inl x4), some (.inl (qOr x5 0)), some (.inl (x6 + 0)), some (.inl (x7 + 1))]) rfl rfl ?_
                refine q_goto hC dX8_lacks_133 (q := 48) (by decide) ?_
                exact h
              · exact absurd c (by decide)
        · exact absurd c (by decide)
      · have ee := ee.symm
        subst ee
        have h := h.2 c
        refine q_if_ne hC dX8_lacks_79 (t := 89) (by decide) rfl (by decide) (fun c => ?_) (fun c => ?_)
        · exact absurd c (by decide)
        · refine q_iconst hC dX8_lacks_82 rfl ?_
          refine q_iload hC dX8_lacks_83 rfl rfl ?_
          refine q_ishl hC dX8_lacks_85 rfl ?_
          refine q_goto hC dX8_lacks_86 (q := 90) (by decide) ?_
          refine q_ior hC dX8_lacks_90 rfl ?_
          refine q_istore hC dX8_lacks_91 (Nat.le_of_ble_eq_true rfl) (loc' := [some (.inr 63), some (.inl x1), some (.inl x2), some (.inl x3), some (.inl x4), some (.inl (qOr x5 (qShl 1 x7))), some (.inl x6), some (.inl x7)]) rfl rfl ?_
          refine q_iload hC dX8_lacks_93 rfl rfl ?_
          refine q_aload_n hC dX8_lacks_95 rfl rfl ?_
          refine q_getr hC fl_X8_34 ly_63 rfl dX8_lacks_96 rfl ?_
          refine q_iload hC dX8_lacks_99 rfl rfl ?_
          refine q_iconst hC dX8_lacks_101 rfl ?_
          refine q_iadd hC dX8_lacks_102 rfl ?_
          obtain ⟨r126, h⟩ := h
          refine q_iald hC ly_72 dX8_lacks_103 rfl r126 ?_
          refine q_iload hC dX8_lacks_104 rfl rfl ?_
          refine q_ishr hC dX8_lacks_106 rfl ?_
          refine q_iconst hC dX8_lacks_107 rfl ?_
          refine q_iand hC dX8_lacks_108 rfl ?_
          refine q_iconst hC dX8_lacks_109 rfl ?_
          refine q_icmp_ne hC dX8_lacks_110 (t := 126) (by decide) rfl (qR_and _ _) (by decide) (fun c => ?_) (fun c => ?_)
          · have h := h.1 c
            refine q_iconst hC dX8_lacks_126 rfl ?_
            refine q_iadd hC dX8_lacks_127 rfl ?_
            refine q_istore hC dX8_lacks_128 (Nat.le_of_ble_eq_true rfl) (loc' := [some (.inr 63), some (.inl x1), some (.inl x2), some (.inl x3), some (.inl x4), some (.inl (qOr x5 (qShl 1 x7))), some (.inl (x6 + 0)), some (.inl x7)]) rfl rfl ?_
            refine q_iinc hC dX8_lacks_130 rfl (loc' := [some (.inr 63), some (.inl x1), some (.inl x2), some (.inl x3), some (.inl x4), some (.inl (qOr x5 (qShl 1 x7))), some (.inl (x6 + 0)), some (.inl (x7 + 1))]) rfl rfl ?_
            refine q_goto hC dX8_lacks_133 (q := 48) (by decide) ?_
            exact h
          · have h := h.2 c
            refine q_aload_n hC dX8_lacks_113 rfl rfl ?_
            refine q_iload hC dX8_lacks_114 rfl rfl ?_
            obtain ⟨r127, h⟩ := h
            refine q_callVi hC (As := [.inl x7]) md_X8_isDone mv_X8_isDone ml_X8_96 ly_63 rfl dX8_lacks_116 rfl (Nat.le_of_ble_eq_true rfl) rfl rfl (b_X8_isDone hx7 r127) (fun x128 M129 hM130 r131 hk => ?_)
            obtain ⟨ee, hk⟩ := hk
            have ee := ee.symm
            subst ee
            rcases hk with ⟨ee, c⟩ | ⟨ee, c⟩
            · have ee := ee.symm
              subst ee
              have h := h.1 c
              refine q_if_eq hC dX8_lacks_119 (t := 126) (by decide) rfl (by decide) (fun c => ?_) (fun c => ?_)
              · exact absurd c (by decide)
              · refine q_iconst hC dX8_lacks_122 rfl ?_
                refine q_goto hC dX8_lacks_123 (q := 127) (by decide) ?_
                refine q_iadd hC dX8_lacks_127 rfl ?_
                refine q_istore hC dX8_lacks_128 (Nat.le_of_ble_eq_true rfl) (loc' := [some (.inr 63), some (.inl x1), some (.inl x2), some (.inl x3), some (.inl x4), some (.inl (qOr x5 (qShl 1 x7))), some (.inl (x6 + 1)), some (.inl x7)]) rfl rfl ?_
                refine q_iinc hC dX8_lacks_130 rfl (loc' := [some (.inr 63), some (.inl x1), some (.inl x2), some (.inl x3), some (.inl x4), some (.inl (qOr x5 (qShl 1 x7))), some (.inl (x6 + 1)), some (.inl (x7 + 1))]) rfl rfl ?_
                refine q_goto hC dX8_lacks_133 (q := 48) (by decide) ?_
                exact h
            · have ee := ee.symm
              subst ee
              have h := h.2 c
              refine q_if_eq hC dX8_lacks_119 (t := 126) (by decide) rfl (by decide) (fun c => ?_) (fun c => ?_)
              · refine q_iconst hC dX8_lacks_126 rfl ?_
                refine q_iadd hC dX8_lacks_127 rfl ?_
                refine q_istore hC dX8_lacks_128 (Nat.le_of_ble_eq_true rfl) (loc' := [some (.inr 63), some (.inl x1), some (.inl x2), some (.inl x3), some (.inl x4), some (.inl (qOr x5 (qShl 1 x7))), some (.inl (x6 + 0)), some (.inl x7)]) rfl rfl ?_
                refine q_iinc hC dX8_lacks_130 rfl (loc' := [some (.inr 63), some (.inl x1), some (.inl x2), some (.inl x3), some (.inl x4), some (.inl (qOr x5 (qShl 1 x7))), some (.inl (x6 + 0)), some (.inl (x7 + 1))]) rfl rfl ?_
                refine q_goto hC dX8_lacks_133 (q := 48) (by decide) ?_
                exact h
              · exact absurd c (by decide)
set_option maxRecDepth 20000 in
theorem e_X8_badges {g : qG} {d : Nat} {M : qM} {K : Int → qM → Prop} {x1 : Int} {x2 : Int} (hx1 : qR x1) (hx2 : qR x2) (h : ∀ C : qX, qCk g C cX8_badges RX8 5 (d + 3) → qRt g C (some .int) (qI K) → (0 ≤ (M 64 0)) ∧ (((0 ≤ x1 ∧ x1 < (M 64 0)) → (((0 ≤ x2 ∧ x2 ≤ 999) → (qOk g (d + 2) j_X8_findHeld [.inr 63, .inl x1] M (qN fun M110 => qW g C 28 [some (.inr 63), some (.inl x1), some (.inl x2), some (.inl 0), some (.inl 0)] [] M110))) ∧ ((x2 < 0 ∨ 999 < x2) → (K (-1) M)))) ∧ ((x1 < 0 ∨ (M 64 0) ≤ x1) → (K (-1) M)))) : qOk g (d + 3) j_X8_badges [.inr 63, .inl x1, .inl x2] M (qI K) := by
  refine qOk.of (by decide) (Nat.le_of_ble_eq_true rfl) (fun C hC hQ => ?_)
  have hC : qCk g C cX8_badges RX8 5 (d + 3) := hC
  have hQ : qRt g C (some .int) (qI K) := hQ
  have h := h C hC hQ
  show qW g C 0 [some (.inr 63), some (.inl x1), some (.inl x2), none, none] [] M
  refine qW.rm (fun hM => ?_)
  refine q_aload_n hC dX8_badges_0 rfl rfl ?_
  refine q_iconst hC dX8_badges_1 rfl ?_
  refine q_iload_n hC dX8_badges_2 rfl rfl ?_
  obtain ⟨r101, h⟩ := h
  refine q_callVi hC (As := [.inl 0, .inl x1]) md_X8_is mv_X8_is ml_X8_86 ly_63 rfl dX8_badges_3 rfl (Nat.le_of_ble_eq_true rfl) rfl rfl (b_X8_is (by decide) hx1 (by decide) r101) (fun x102 M103 hM104 r105 hk => ?_)
  obtain ⟨ee, hk⟩ := hk
  have ee := ee.symm
  subst ee
  rcases hk with ⟨ee, c⟩ | ⟨ee, c⟩
  · have ee := ee.symm
    subst ee
    have h := h.1 c
    refine q_if_eq hC dX8_badges_6 (t := 16) (by decide) rfl (by decide) (fun c => ?_) (fun c => ?_)
    · exact absurd c (by decide)
    · refine q_iload_n hC dX8_badges_9 rfl rfl ?_
      refine q_callSi hC (As := [.inl x2]) md_X8_isDay ms_X8_isDay ml_X8_90 dX8_badges_10 rfl (Nat.le_of_ble_eq_true rfl) rfl rfl (b_X8_isDay hx2) (fun x106 M107 hM108 r109 hk => ?_)
      obtain ⟨ee, hk⟩ := hk
      have ee := ee.symm
      subst ee
      rcases hk with ⟨ee, c⟩ | ⟨ee, c⟩
      · have ee := ee.symm
        subst ee
        have h := h.1 c
        refine q_if_ne hC dX8_badges_13 (t := 18) (by decide) rfl (by decide) (fun c => ?_) (fun c => ?_)
        · refine q_aload_n hC dX8_badges_18 rfl rfl ?_
          refine q_iload_n hC dX8_badges_19 rfl rfl ?_
          refine q_callVv hC (As := [.inl x1]) md_X8_findHeld mv_X8_findHeld ml_X8_113 ly_63 rfl dX8_badges_20 rfl (Nat.le_of_ble_eq_true rfl) rfl rfl h (fun M110 hM111 h => ?_)
          refine q_iconst hC dX8_badges_23 rfl ?_
          refine q_istore_n hC dX8_badges_24 (Nat.le_of_ble_eq_true rfl) (loc' := [some (.inr 63), some (.inl x1), some (.inl x2), some (.inl 0), none]) rfl rfl ?_
          refine q_iconst hC dX8_badges_25 rfl ?_
          refine q_istore hC dX8_badges_26 (Nat.le_of_ble_eq_true rfl) (loc' := [some (.inr 63), some (.inl x1), some (.inl x2), some (.inl 0), some (.inl 0)]) rfl rfl ?_
          exact h
        · exact absurd c (by decide)
      · have ee := ee.symm
        subst ee
        have h := h.2 c
        refine q_if_ne hC dX8_badges_13 (t := 18) (by decide) rfl (by decide) (fun c => ?_) (fun c => ?_)
        · exact absurd c (by decide)
        · refine q_iconst hC dX8_badges_16 rfl ?_
          exact q_iret hC hQ dX8_badges_17 (by decide) h
  · have ee := ee.symm
    subst ee
    have h := h.2 c
    refine q_if_eq hC dX8_badges_6 (t := 16) (by decide) rfl (by decide) (fun c => ?_) (fun c => ?_)
    · refine q_iconst hC dX8_badges_16 rfl ?_
      exact q_iret hC hQ dX8_badges_17 (by decide) h
    · exact absurd c (by decide)
set_option maxRecDepth 20000 in
theorem s_X8_badges_28 {g : qG} {C : qX} {d : Nat} {M : qM} {K : Int → qM → Prop} (hC : qCk g C cX8_badges RX8 5 (d + 3)) (hQ : qRt g C (some .int) (qI K)) {x1 : Int} {x2 : Int} {x3 : Int} {x4 : Int} (hx1 : qR x1) (hx2 : qR x2) (hx3 : qR x3) (hx4 : qR x4) (h : (((M 64 4) ≤ x4 → (K x3 M)) ∧ (x4 < (M 64 4) → (0 ≤ x4 ∧ x4 < 8) ∧ (((M 79 x4) < 0 → (qW g C 28 [some (.inr 63), some (.inl x1), some (.inl x2), some (.inl (x3 + 0)), some (.inl (x4 + 1))] [] M)) ∧ (0 ≤ (M 79 x4) → ((x2 < (M 79 x4) → (qW g C 28 [some (.inr 63), some (.inl x1), some (.inl x2), some (.inl (x3 + 0)), some (.inl (x4 + 1))] [] M)) ∧ ((M 79 x4) ≤ x2 → (qW g C 28 [some (.inr 63), some (.inl x1), some (.inl x2), some (.inl (x3 + 1)), some (.inl (x4 + 1))] [] M)))))))) : qW g C 28 [some (.inr 63), some (.inl x1), some (.inl x2), some (.inl x3), some (.inl x4)] [] M := by
  refine qW.rm (fun hM => ?_)
  refine q_iload hC dX8_badges_28 rfl rfl ?_
  refine q_aload_n hC dX8_badges_30 rfl rfl ?_
  refine q_getr hC fl_X8_7 ly_63 rfl dX8_badges_31 rfl ?_
  refine q_iconst hC dX8_badges_34 rfl ?_
  refine q_iald hC ly_64 dX8_badges_35 rfl (by decide) ?_
  refine q_icmp_ge hC dX8_badges_36 (t := 74) (by decide) rfl hx4 (hM 64 4) (fun c => ?_) (fun c => ?_)
  · have h := h.1 c
    refine q_iload_n hC dX8_badges_74 rfl rfl ?_
    exact q_iret hC hQ dX8_badges_75 hx3 h
  · have h := h.2 c
    refine q_iload_n hC dX8_badges_39 rfl rfl ?_
    refine q_aload_n hC dX8_badges_40 rfl rfl ?_
    refine q_getr hC fl_X8_59 ly_63 rfl dX8_badges_41 rfl ?_
    refine q_iload hC dX8_badges_44 rfl rfl ?_
    obtain ⟨r101, h⟩ := h
    refine q_iald hC ly_79 dX8_badges_46 rfl r101 ?_
    refine q_if_lt hC dX8_badges_47 (t := 65) (by decide) rfl (hM 79 x4) (fun c => ?_) (fun c => ?_)
    · have h := h.1 c
      refine q_iconst hC dX8_badges_65 rfl ?_
      refine q_iadd hC dX8_badges_66 rfl ?_
      refine q_istore_n hC dX8_badges_67 (Nat.le_of_ble_eq_true rfl) (loc' := [some (.inr 63), some (.inl x1), some (.inl x2), some (.inl (x3 + 0)), some (.inl x4)]) rfl rfl ?_
      refine q_iinc hC dX8_badges_68 rfl (loc' := [some (.inr 63), some (.inl x1), some (.inl x2), some (.inl (x3 + 0)), some (.inl (x4 + 1))]) rfl rfl ?_
      refine q_goto hC dX8_badges_71 (q := 28) (by decide) ?_
      exact h
    · have h := h.2 c
      refine q_aload_n hC dX8_badges_50 rfl rfl ?_
      refine q_getr hC fl_X8_59 ly_63 rfl dX8_badges_51 rfl ?_
      refine q_iload hC dX8_badges_54 rfl rfl ?_
      refine q_iald hC ly_79 dX8_badges_56 rfl r101 ?_
      refine q_iload_n hC dX8_badges_57 rfl rfl ?_
      refine q_icmp_gt hC dX8_badges_58 (t := 65) (by decide) rfl (hM 79 x4) hx2 (fun c => ?_) (fun c => ?_)
      · have h := h.1 c
        refine q_iconst hC dX8_badges_65 rfl ?_
        refine q_iadd hC dX8_badges_66 rfl ?_
        refine q_istore_n hC dX8_badges_67 (Nat.le_of_ble_eq_true rfl) (loc' := [some (.inr 63), some (.inl x1), some (.inl x2), some (.inl (x3 + 0)), some (.inl x4)]) rfl rfl ?_
        refine q_iinc hC dX8_badges_68 rfl (loc' := [some (.inr 63), some (.inl x1), some (.inl x2), some (.inl (x3 + 0)), some (.inl (x4 + 1))]) rfl rfl ?_
        refine q_goto hC dX8_badges_71 (q := 28) (by decide) ?_
        exact h
      · have h := h.2 c
        refine q_iconst hC dX8_badges_61 rfl ?_
        refine q_goto hC dX8_badges_62 (q := 66) (by decide) ?_
        refine q_iadd hC dX8_badges_66 rfl ?_
        refine q_istore_n hC dX8_badges_67 (Nat.le_of_ble_eq_true rfl) (loc' := [some (.inr 63), some (.inl x1), some (.inl x2), some (.inl (x3 + 1)), some (.inl x4)]) rfl rfl ?_
        refine q_iinc hC dX8_badges_68 rfl (loc' := [some (.inr 63), some (.inl x1), some (.inl x2), some (.inl (x3 + 1)), some (.inl (x4 + 1))]) rfl rfl ?_
        refine q_goto hC dX8_badges_71 (q := 28) (by decide) ?_
        exact h
set_option maxRecDepth 20000 in
theorem e_X8_site {g : qG} {d : Nat} {M : qM} {K : Int → qM → Prop} {x1 : Int} {x2 : Int} (hx1 : qR x1) (hx2 : qR x2) (h : (((1 ≤ x1 ∧ x1 ≤ 10) → (((M 64 5) ≠ 3 → (0 ≤ (M 64 5) ∧ (M 64 5) < 3) ∧ ((x2 = 0 → (0 ≤ ((qU M 74 (M 64 5) x1) 64 5) ∧ ((qU M 74 (M 64 5) x1) 64 5) < 3) ∧ (0 ≤ ((qU (qU M 74 (M 64 5) x1) 75 ((qU M 74 (M 64 5) x1) 64 5) 0) 64 5) ∧ ((qU (qU M 74 (M 64 5) x1) 75 ((qU M 74 (M 64 5) x1) 64 5) 0) 64 5) ≤ 80) ∧ (K ((qU (qU M 74 (M 64 5) x1) 75 ((qU M 74 (M 64 5) x1) 64 5) 0) 64 5) (qU (qU (qU M 74 (M 64 5) x1) 75 ((qU M 74 (M 64 5) x1) 64 5) 0) 64 5 (((qU (qU M 74 (M 64 5) x1) 75 ((qU M 74 (M 64 5) x1) 64 5) 0) 64 5) + 1)))) ∧ (x2 ≠ 0 → (0 ≤ ((qU M 74 (M 64 5) x1) 64 5) ∧ ((qU M 74 (M 64 5) x1) 64 5) < 3) ∧ (0 ≤ ((qU (qU M 74 (M 64 5) x1) 75 ((qU M 74 (M 64 5) x1) 64 5) 1) 64 5) ∧ ((qU (qU M 74 (M 64 5) x1) 75 ((qU M 74 (M 64 5) x1) 64 5) 1) 64 5) ≤ 80) ∧ (K ((qU (qU M 74 (M 64 5) x1) 75 ((qU M 74 (M 64 5) x1) 64 5) 1) 64 5) (qU (qU (qU M 74 (M 64 5) x1) 75 ((qU M 74 (M 64 5) x1) 64 5) 1) 64 5 (((qU (qU M 74 (M 64 5) x1) 75 ((qU M 74 (M 64 5) x1) 64 5) 1) 64 5) + 1)))))) ∧ ((M 64 5) = 3 → (K (-2) M)))) ∧ ((x1 < 1 ∨ 10 < x1) → (K (-1) M)))) : qOk g (d + 1) j_X8_site [.inr 63, .inl x1, .inl x2] M (qI K) := by
  refine qOk.of (by decide) (Nat.le_of_ble_eq_true rfl) (fun C hC hQ => ?_)
  have hC : qCk g C cX8_site RX8 3 (d + 1) := hC
  have hQ : qRt g C (some .int) (qI K) := hQ
  show qW g C 0 [some (.inr 63), some (.inl x1), some (.inl x2)] [] M
  refine qW.rm (fun hM => ?_)
  refine q_iload_n hC dX8_site_0 rfl rfl ?_
  refine q_iconst hC dX8_site_1 rfl ?_
  refine q_bipush hC dX8_site_2 (by decide) rfl ?_
  refine q_callSi hC (As := [.inl x1, .inl 1, .inl 10]) md_X8_in ms_X8_in ml_X8_74 dX8_site_4 rfl (Nat.le_of_ble_eq_true rfl) rfl rfl (b_X8_in hx1 (by decide) (by decide)) (fun x101 M102 hM103 r104 hk => ?_)
  obtain ⟨ee, hk⟩ := hk
  have ee := ee.symm
  subst ee
  rcases hk with ⟨ee, c⟩ | ⟨ee, c⟩
  · have ee := ee.symm
    subst ee
    have h := h.1 c
    refine q_if_ne hC dX8_site_7 (t := 12) (by decide) rfl (by decide) (fun c => ?_) (fun c => ?_)
    · refine q_aload_n hC dX8_site_12 rfl rfl ?_
      refine q_getr hC fl_X8_7 ly_63 rfl dX8_site_13 rfl ?_
      refine q_iconst hC dX8_site_16 rfl ?_
      refine q_iald hC ly_64 dX8_site_17 rfl (by decide) ?_
      refine q_iconst hC dX8_site_18 rfl ?_
      refine q_icmp_ne hC dX8_site_19 (t := 25) (by decide) rfl (hM 64 5) (by decide) (fun c => ?_) (fun c => ?_)
      · have h := h.1 c
        refine q_aload_n hC dX8_site_25 rfl rfl ?_
        refine q_getr hC fl_X8_40 ly_63 rfl dX8_site_26 rfl ?_
        refine q_aload_n hC dX8_site_29 rfl rfl ?_
        refine q_getr hC fl_X8_7 ly_63 rfl dX8_site_30 rfl ?_
        refine q_iconst hC dX8_site_33 rfl ?_
        refine q_iald hC ly_64 dX8_site_34 rfl (by decide) ?_
        refine q_iload_n hC dX8_site_35 rfl rfl ?_
        obtain ⟨r105, h⟩ := h
        have hM106 : qIn (qU M 74 (M 64 5) x1) := (qU_in hM hx1)
        refine q_iast hC ly_74 dX8_site_36 rfl r105 hx1 ?_
        refine q_aload_n hC dX8_site_37 rfl rfl ?_
        refine q_getr hC fl_X8_43 ly_63 rfl dX8_site_38 rfl ?_
        refine q_aload_n hC dX8_site_41 rfl rfl ?_
        refine q_getr hC fl_X8_7 ly_63 rfl dX8_site_42 rfl ?_
        refine q_iconst hC dX8_site_45 rfl ?_
        refine q_iald hC ly_64 dX8_site_46 rfl (by decide) ?_
        refine q_iload_n hC dX8_site_47 rfl rfl ?_
        refine q_if_eq hC dX8_site_48 (t := 55) (by decide) rfl hx2 (fun c => ?_) (fun c => ?_)
        · have h := h.1 c
          refine q_iconst hC dX8_site_55 rfl ?_
          obtain ⟨r107, h⟩ := h
          have hM108 : qIn (qU (qU M 74 (M 64 5) x1) 75 ((qU M 74 (M 64 5) x1) 64 5) 0) := (qU_in hM106 (by decide))
          refine q_iast hC ly_75 dX8_site_56 rfl r107 (by decide) ?_
          refine q_aload_n hC dX8_site_57 rfl rfl ?_
          refine q_iconst hC dX8_site_58 rfl ?_
          obtain ⟨r109, h⟩ := h
          refine q_callVi hC (As := [.inl 5]) md_X8_came mv_X8_came ml_X8_82 ly_63 rfl dX8_site_59 rfl (Nat.le_of_ble_eq_true rfl) rfl rfl (b_X8_came (by decide) (by decide) r109) (fun x111 M112 hM110 r113 hk => ?_)
          obtain ⟨ee, hk⟩ := hk
          have ee := ee.symm
          subst ee
          have hk := hk.symm
          subst hk
          exact q_iret hC hQ dX8_site_62 r113 h
        · have h := h.2 c
          refine q_iconst hC dX8_site_51 rfl ?_
          refine q_goto hC dX8_site_52 (q := 56) (by decide) ?_
          obtain ⟨r114, h⟩ := h
          have hM115 : qIn (qU (qU M 74 (M 64 5) x1) 75 ((qU M 74 (M 64 5) x1) 64 5) 1) := (qU_in hM106 (by decide))
          refine q_iast hC ly_75 dX8_site_56 rfl r114 (by decide) ?_
          refine q_aload_n hC dX8_site_57 rfl rfl ?_
          refine q_iconst hC dX8_site_58 rfl ?_
          obtain ⟨r116, h⟩ := h
          refine q_callVi hC (As := [.inl 5]) md_X8_came mv_X8_came ml_X8_82 ly_63 rfl dX8_site_59 rfl (Nat.le_of_ble_eq_true rfl) rfl rfl (b_X8_came (by decide) (by decide) r116) (fun x118 M119 hM117 r120 hk => ?_)
          obtain ⟨ee, hk⟩ := hk
          have ee := ee.symm
          subst ee
          have hk := hk.symm
          subst hk
          exact q_iret hC hQ dX8_site_62 r120 h
      · have h := h.2 c
        refine q_bipush hC dX8_site_22 (by decide) rfl ?_
        exact q_iret hC hQ dX8_site_24 (by decide) h
    · exact absurd c (by decide)
  · have ee := ee.symm
    subst ee
    have h := h.2 c
    refine q_if_ne hC dX8_site_7 (t := 12) (by decide) rfl (by decide) (fun c => ?_) (fun c => ?_)
    · exact absurd c (by decide)
    · refine q_iconst hC dX8_site_10 rfl ?_
      exact q_iret hC hQ dX8_site_11 (by decide) h
set_option maxRecDepth 20000 in
theorem e_X8_wish {g : qG} {d : Nat} {M : qM} {K : Int → qM → Prop} {x1 : Int} {x2 : Int} {x3 : Int} {x4 : Int} (hx1 : qR x1) (hx2 : qR x2) (hx3 : qR x3) (hx4 : qR x4) (h : (((0 ≤ x1 ∧ x1 ≤ 3) → (((0 ≤ x2 ∧ x2 ≤ 4) → (((0 ≤ x3 ∧ x3 ≤ 2) → (((0 ≤ x4 ∧ x4 ≤ 9) → (0 ≤ (((15 * x1) + (3 * x2)) + x3) ∧ (((15 * x1) + (3 * x2)) + x3) < 60) ∧ (K (M 76 (((15 * x1) + (3 * x2)) + x3)) (qU M 76 (((15 * x1) + (3 * x2)) + x3) x4))) ∧ ((x4 < 0 ∨ 9 < x4) → (K (-1) M)))) ∧ ((x3 < 0 ∨ 2 < x3) → (K (-1) M)))) ∧ ((x2 < 0 ∨ 4 < x2) → (K (-1) M)))) ∧ ((x1 < 0 ∨ 3 < x1) → (K (-1) M)))) : qOk g (d + 2) j_X8_wish [.inr 63, .inl x1, .inl x2, .inl x3, .inl x4] M (qI K) := by
  refine qOk.of (by decide) (Nat.le_of_ble_eq_true rfl) (fun C hC hQ => ?_)
  have hC : qCk g C cX8_wish RX8 7 (d + 2) := hC
  have hQ : qRt g C (some .int) (qI K) := hQ
  show qW g C 0 [some (.inr 63), some (.inl x1), some (.inl x2), some (.inl x3), some (.inl x4), none, none] [] M
  refine qW.rm (fun hM => ?_)
  refine q_iload_n hC dX8_wish_0 rfl rfl ?_
  refine q_callSi hC (As := [.inl x1]) md_X8_isPatrol ms_X8_isPatrol ml_X8_78 dX8_wish_1 rfl (Nat.le_of_ble_eq_true rfl) rfl rfl (b_X8_isPatrol hx1) (fun x101 M102 hM103 r104 hk => ?_)
  obtain ⟨ee, hk⟩ := hk
  have ee := ee.symm
  subst ee
  rcases hk with ⟨ee, c⟩ | ⟨ee, c⟩
  · have ee := ee.symm
    subst ee
    have h := h.1 c
    refine q_if_eq hC dX8_wish_4 (t := 36) (by decide) rfl (by decide) (fun c => ?_) (fun c => ?_)
    · exact absurd c (by decide)
    · refine q_iload_n hC dX8_wish_7 rfl rfl ?_
      refine q_iconst hC dX8_wish_8 rfl ?_
      refine q_iconst hC dX8_wish_9 rfl ?_
      refine q_callSi hC (As := [.inl x2, .inl 0, .inl 4]) md_X8_in ms_X8_in ml_X8_74 dX8_wish_10 rfl (Nat.le_of_ble_eq_true rfl) rfl rfl (b_X8_in hx2 (by decide) (by decide)) (fun x105 M106 hM107 r108 hk => ?_)
      obtain ⟨ee, hk⟩ := hk
      have ee := ee.symm
      subst ee
      rcases hk with ⟨ee, c⟩ | ⟨ee, c⟩
      · have ee := ee.symm
        subst ee
        have h := h.1 c
        refine q_if_eq hC dX8_wish_13 (t := 36) (by decide) rfl (by decide) (fun c => ?_) (fun c => ?_)
        · exact absurd c (by decide)
        · refine q_iload_n hC dX8_wish_16 rfl rfl ?_
          refine q_iconst hC dX8_wish_17 rfl ?_
          refine q_iconst hC dX8_wish_18 rfl ?_
          refine q_callSi hC (As := [.inl x3, .inl 0, .inl 2]) md_X8_in ms_X8_in ml_X8_74 dX8_wish_19 rfl (Nat.le_of_ble_eq_true rfl) rfl rfl (b_X8_in hx3 (by decide) (by decide)) (fun x109 M110 hM111 r112 hk => ?_)
          obtain ⟨ee, hk⟩ := hk
          have ee := ee.symm
          subst ee
          rcases hk with ⟨ee, c⟩ | ⟨ee, c⟩
          · have ee := ee.symm
            subst ee
            have h := h.1 c
            refine q_if_eq hC dX8_wish_22 (t := 36) (by decide) rfl (by decide) (fun c => ?_) (fun c => ?_)
            · exact absurd c (by decide)
            · refine q_iload hC dX8_wish_25 rfl rfl ?_
              refine q_iconst hC dX8_wish_27 rfl ?_
              refine q_bipush hC dX8_wish_28 (by decide) rfl ?_
              refine q_callSi hC (As := [.inl x4, .inl 0, .inl 9]) md_X8_in ms_X8_in ml_X8_74 dX8_wish_30 rfl (Nat.le_of_ble_eq_true rfl) rfl rfl (b_X8_in hx4 (by decide) (by decide)) (fun x113 M114 hM115 r116 hk => ?_)
              obtain ⟨ee, hk⟩ := hk
              have ee := ee.symm
              subst ee
              rcases hk with ⟨ee, c⟩ | ⟨ee, c⟩
              · have ee := ee.symm
                subst ee
                have h := h.1 c
                refine q_if_ne hC dX8_wish_33 (t := 38) (by decide) rfl (by decide) (fun c => ?_) (fun c => ?_)
                · refine q_bipush hC dX8_wish_38 (by decide) rfl ?_
                  refine q_iload_n hC dX8_wish_40 rfl rfl ?_
                  refine q_imul hC dX8_wish_41 rfl ?_
                  refine q_iconst hC dX8_wish_42 rfl ?_
                  refine q_iload_n hC dX8_wish_43 rfl rfl ?_
                  refine q_imul hC dX8_wish_44 rfl ?_
                  refine q_iadd hC dX8_wish_45 rfl ?_
                  refine q_iload_n hC dX8_wish_46 rfl rfl ?_
                  refine q_iadd hC dX8_wish_47 rfl ?_
                  refine q_istore hC dX8_wish_48 (Nat.le_of_ble_eq_true rfl) (loc' := [some (.inr 63), some (.inl x1), some (.inl x2), some (.inl x3), some (.inl x4), some (.inl (((15 * x1) + (3 * x2)) + x3)), none]) rfl rfl ?_
                  refine q_aload_n hC dX8_wish_50 rfl rfl ?_
                  refine q_getr hC fl_X8_46 ly_63 rfl dX8_wish_51 rfl ?_
                  refine q_iload hC dX8_wish_54 rfl rfl ?_
                  obtain ⟨r117, h⟩ := h
                  refine q_iald hC ly_76 dX8_wish_56 rfl r117 ?_
                  refine q_istore hC dX8_wish_57 (Nat.le_of_ble_eq_true rfl) (loc' := [some (.inr 63), some (.inl x1), some (.inl x2), some (.inl x3), some (.inl x4), some (.inl (((15 * x1) + (3 * x2)) + x3)), some (.inl (M 76 (((15 * x1) + (3 * x2)) + x3)))]) rfl rfl ?_
                  refine q_aload_n hC dX8_wish_59 rfl rfl ?_
                  refine q_getr hC fl_X8_46 ly_63 rfl dX8_wish_60 rfl ?_
                  refine q_iload hC dX8_wish_63 rfl rfl ?_
                  refine q_iload hC dX8_wish_65 rfl rfl ?_
                  have hM118 : qIn (qU M 76 (((15 * x1) + (3 * x2)) + x3) x4) := (qU_in hM hx4)
                  refine q_iast hC ly_76 dX8_wish_67 rfl r117 hx4 ?_
                  refine q_iload hC dX8_wish_68 rfl rfl ?_
                  exact q_iret hC hQ dX8_wish_70 (hM 76 (((15 * x1) + (3 * x2)) + x3)) h
                · exact absurd c (by decide)
              · have ee := ee.symm
                subst ee
                have h := h.2 c
                refine q_if_ne hC dX8_wish_33 (t := 38) (by decide) rfl (by decide) (fun c => ?_) (fun c => ?_)
                · exact absurd c (by decide)
                · refine q_iconst hC dX8_wish_36 rfl ?_
                  exact q_iret hC hQ dX8_wish_37 (by decide) h
          · have ee := ee.symm
            subst ee
            have h := h.2 c
            refine q_if_eq hC dX8_wish_22 (t := 36) (by decide) rfl (by decide) (fun c => ?_) (fun c => ?_)
            · refine q_iconst hC dX8_wish_36 rfl ?_
              exact q_iret hC hQ dX8_wish_37 (by decide) h
            · exact absurd c (by decide)
      · have ee := ee.symm
        subst ee
        have h := h.2 c
        refine q_if_eq hC dX8_wish_13 (t := 36) (by decide) rfl (by decide) (fun c => ?_) (fun c => ?_)
        · refine q_iconst hC dX8_wish_36 rfl ?_
          exact q_iret hC hQ dX8_wish_37 (by decide) h
        · exact absurd c (by decide)
  · have ee := ee.symm
    subst ee
    have h := h.2 c
    refine q_if_eq hC dX8_wish_4 (t := 36) (by decide) rfl (by decide) (fun c => ?_) (fun c => ?_)
    · refine q_iconst hC dX8_wish_36 rfl ?_
      exact q_iret hC hQ dX8_wish_37 (by decide) h
    · exact absurd c (by decide)
set_option maxRecDepth 20000 in
theorem e_X8_free {g : qG} {d : Nat} {M : qM} {K : Int → qM → Prop} {x1 : Int} {x2 : Int} (hx1 : qR x1) (hx2 : qR x2) (h : (0 ≤ (M 64 1)) ∧ (((0 ≤ x1 ∧ x1 < (M 64 1)) → (((0 ≤ x2 ∧ x2 ≤ 31) → (0 ≤ x1 ∧ x1 < 5) ∧ (K (M 69 x1) (qU M 69 x1 x2))) ∧ ((x2 < 0 ∨ 31 < x2) → (K (-1) M)))) ∧ ((x1 < 0 ∨ (M 64 1) ≤ x1) → (K (-1) M)))) : qOk g (d + 2) j_X8_free [.inr 63, .inl x1, .inl x2] M (qI K) := by
  refine qOk.of (by decide) (Nat.le_of_ble_eq_true rfl) (fun C hC hQ => ?_)
  have hC : qCk g C cX8_free RX8 4 (d + 2) := hC
  have hQ : qRt g C (some .int) (qI K) := hQ
  show qW g C 0 [some (.inr 63), some (.inl x1), some (.inl x2), none] [] M
  refine qW.rm (fun hM => ?_)
  refine q_aload_n hC dX8_free_0 rfl rfl ?_
  refine q_iconst hC dX8_free_1 rfl ?_
  refine q_iload_n hC dX8_free_2 rfl rfl ?_
  obtain ⟨r101, h⟩ := h
  refine q_callVi hC (As := [.inl 1, .inl x1]) md_X8_is mv_X8_is ml_X8_86 ly_63 rfl dX8_free_3 rfl (Nat.le_of_ble_eq_true rfl) rfl rfl (b_X8_is (by decide) hx1 (by decide) r101) (fun x102 M103 hM104 r105 hk => ?_)
  obtain ⟨ee, hk⟩ := hk
  have ee := ee.symm
  subst ee
  rcases hk with ⟨ee, c⟩ | ⟨ee, c⟩
  · have ee := ee.symm
    subst ee
    have h := h.1 c
    refine q_if_eq hC dX8_free_6 (t := 19) (by decide) rfl (by decide) (fun c => ?_) (fun c => ?_)
    · exact absurd c (by decide)
    · refine q_iload_n hC dX8_free_9 rfl rfl ?_
      refine q_iconst hC dX8_free_10 rfl ?_
      refine q_bipush hC dX8_free_11 (by decide) rfl ?_
      refine q_callSi hC (As := [.inl x2, .inl 0, .inl 31]) md_X8_in ms_X8_in ml_X8_74 dX8_free_13 rfl (Nat.le_of_ble_eq_true rfl) rfl rfl (b_X8_in hx2 (by decide) (by decide)) (fun x106 M107 hM108 r109 hk => ?_)
      obtain ⟨ee, hk⟩ := hk
      have ee := ee.symm
      subst ee
      rcases hk with ⟨ee, c⟩ | ⟨ee, c⟩
      · have ee := ee.symm
        subst ee
        have h := h.1 c
        refine q_if_ne hC dX8_free_16 (t := 21) (by decide) rfl (by decide) (fun c => ?_) (fun c => ?_)
        · refine q_aload_n hC dX8_free_21 rfl rfl ?_
          refine q_getr hC fl_X8_25 ly_63 rfl dX8_free_22 rfl ?_
          refine q_iload_n hC dX8_free_25 rfl rfl ?_
          obtain ⟨r110, h⟩ := h
          refine q_iald hC ly_69 dX8_free_26 rfl r110 ?_
          refine q_istore_n hC dX8_free_27 (Nat.le_of_ble_eq_true rfl) (loc' := [some (.inr 63), some (.inl x1), some (.inl x2), some (.inl (M 69 x1))]) rfl rfl ?_
          refine q_aload_n hC dX8_free_28 rfl rfl ?_
          refine q_getr hC fl_X8_25 ly_63 rfl dX8_free_29 rfl ?_
          refine q_iload_n hC dX8_free_32 rfl rfl ?_
          refine q_iload_n hC dX8_free_33 rfl rfl ?_
          have hM111 : qIn (qU M 69 x1 x2) := (qU_in hM hx2)
          refine q_iast hC ly_69 dX8_free_34 rfl r110 hx2 ?_
          refine q_iload_n hC dX8_free_35 rfl rfl ?_
          exact q_iret hC hQ dX8_free_36 (hM 69 x1) h
        · exact absurd c (by decide)
      · have ee := ee.symm
        subst ee
        have h := h.2 c
        refine q_if_ne hC dX8_free_16 (t := 21) (by decide) rfl (by decide) (fun c => ?_) (fun c => ?_)
        · exact absurd c (by decide)
        · refine q_iconst hC dX8_free_19 rfl ?_
          exact q_iret hC hQ dX8_free_20 (by decide) h
  · have ee := ee.symm
    subst ee
    have h := h.2 c
    refine q_if_eq hC dX8_free_6 (t := 19) (by decide) rfl (by decide) (fun c => ?_) (fun c => ?_)
    · refine q_iconst hC dX8_free_19 rfl ?_
      exact q_iret hC hQ dX8_free_20 (by decide) h
    · exact absurd c (by decide)
set_option maxRecDepth 20000 in
theorem e_X8_ratio {g : qG} {d : Nat} {M : qM} {K : Int → qM → Prop} {x1 : Int} (hx1 : qR x1) (h : (((1 ≤ x1 ∧ x1 ≤ 10) → (K (M 63 13) (qU M 63 13 x1))) ∧ ((x1 < 1 ∨ 10 < x1) → (K (-1) M)))) : qOk g (d + 1) j_X8_ratio [.inr 63, .inl x1] M (qI K) := by
  refine qOk.of (by decide) (Nat.le_of_ble_eq_true rfl) (fun C hC hQ => ?_)
  have hC : qCk g C cX8_ratio RX8 3 (d + 1) := hC
  have hQ : qRt g C (some .int) (qI K) := hQ
  show qW g C 0 [some (.inr 63), some (.inl x1), none] [] M
  refine qW.rm (fun hM => ?_)
  refine q_iload_n hC dX8_ratio_0 rfl rfl ?_
  refine q_iconst hC dX8_ratio_1 rfl ?_
  refine q_bipush hC dX8_ratio_2 (by decide) rfl ?_
  refine q_callSi hC (As := [.inl x1, .inl 1, .inl 10]) md_X8_in ms_X8_in ml_X8_74 dX8_ratio_4 rfl (Nat.le_of_ble_eq_true rfl) rfl rfl (b_X8_in hx1 (by decide) (by decide)) (fun x101 M102 hM103 r104 hk => ?_)
  obtain ⟨ee, hk⟩ := hk
  have ee := ee.symm
  subst ee
  rcases hk with ⟨ee, c⟩ | ⟨ee, c⟩
  · have ee := ee.symm
    subst ee
    have h := h.1 c
    refine q_if_ne hC dX8_ratio_7 (t := 12) (by decide) rfl (by decide) (fun c => ?_) (fun c => ?_)
    · refine q_aload_n hC dX8_ratio_12 rfl rfl ?_
      refine q_geti hC fl_X8_49 ly_63 rfl (z := 13) rfl dX8_ratio_13 rfl ?_
      refine q_istore_n hC dX8_ratio_16 (Nat.le_of_ble_eq_true rfl) (loc' := [some (.inr 63), some (.inl x1), some (.inl (M 63 13))]) rfl rfl ?_
      refine q_aload_n hC dX8_ratio_17 rfl rfl ?_
      refine q_iload_n hC dX8_ratio_18 rfl rfl ?_
      have hM105 : qIn (qU M 63 13 x1) := (qU_in hM hx1)
      refine q_puti hC fp_X8_49 ly_63 rfl (z := 13) rfl dX8_ratio_19 rfl hx1 ?_
      refine q_iload_n hC dX8_ratio_22 rfl rfl ?_
      exact q_iret hC hQ dX8_ratio_23 (hM 63 13) h
    · exact absurd c (by decide)
  · have ee := ee.symm
    subst ee
    have h := h.2 c
    refine q_if_ne hC dX8_ratio_7 (t := 12) (by decide) rfl (by decide) (fun c => ?_) (fun c => ?_)
    · exact absurd c (by decide)
    · refine q_iconst hC dX8_ratio_10 rfl ?_
      exact q_iret hC hQ dX8_ratio_11 (by decide) h
set_option maxRecDepth 20000 in
theorem e_X8_sizeOf {g : qG} {d : Nat} {M : qM} {K : Int → qM → Prop} {x1 : Int} (hx1 : qR x1) (h : ∀ C : qX, qCk g C cX8_sizeOf RX8 4 d → qRt g C (some .int) (qI K) → qW g C 4 [some (.inr 63), some (.inl x1), some (.inl 0), some (.inl 0)] [] M) : qOk g d j_X8_sizeOf [.inr 63, .inl x1] M (qI K) := by
  refine qOk.of (by decide) (Nat.le_of_ble_eq_true rfl) (fun C hC hQ => ?_)
  have hC : qCk g C cX8_sizeOf RX8 4 d := hC
  have hQ : qRt g C (some .int) (qI K) := hQ
  have h := h C hC hQ
  show qW g C 0 [some (.inr 63), some (.inl x1), none, none] [] M
  refine qW.rm (fun hM => ?_)
  refine q_iconst hC dX8_sizeOf_0 rfl ?_
  refine q_istore_n hC dX8_sizeOf_1 (Nat.le_of_ble_eq_true rfl) (loc' := [some (.inr 63), some (.inl x1), some (.inl 0), none]) rfl rfl ?_
  refine q_iconst hC dX8_sizeOf_2 rfl ?_
  refine q_istore_n hC dX8_sizeOf_3 (Nat.le_of_ble_eq_true rfl) (loc' := [some (.inr 63), some (.inl x1), some (.inl 0), some (.inl 0)]) rfl rfl ?_
  exact h
set_option maxRecDepth 20000 in
theorem s_X8_sizeOf_4 {g : qG} {C : qX} {d : Nat} {M : qM} {K : Int → qM → Prop} (hC : qCk g C cX8_sizeOf RX8 4 d) (hQ : qRt g C (some .int) (qI K)) {x1 : Int} {x2 : Int} {x3 : Int} (hx1 : qR x1) (hx2 : qR x2) (hx3 : qR x3) (h : (((M 64 0) ≤ x3 → (K x2 M)) ∧ (x3 < (M 64 0) → (0 ≤ x3 ∧ x3 < 10) ∧ (((M 66 x3) ≠ x1 → (qW g C 4 [some (.inr 63), some (.inl x1), some (.inl (x2 + 0)), some (.inl (x3 + 1))] [] M)) ∧ ((M 66 x3) = x1 → (qW g C 4 [some (.inr 63), some (.inl x1), some (.inl (x2 + 1)), some (.inl (x3 + 1))] [] M)))))) : qW g C 4 [some (.inr 63), some (.inl x1), some (.inl x2), some (.inl x3)] [] M := by
  refine qW.rm (fun hM => ?_)
  refine q_iload_n hC dX8_sizeOf_4 rfl rfl ?_
  refine q_aload_n hC dX8_sizeOf_5 rfl rfl ?_
  refine q_getr hC fl_X8_7 ly_63 rfl dX8_sizeOf_6 rfl ?_
  refine q_iconst hC dX8_sizeOf_9 rfl ?_
  refine q_iald hC ly_64 dX8_sizeOf_10 rfl (by decide) ?_
  refine q_icmp_ge hC dX8_sizeOf_11 (t := 38) (by decide) rfl hx3 (hM 64 0) (fun c => ?_) (fun c => ?_)
  · have h := h.1 c
    refine q_iload_n hC dX8_sizeOf_38 rfl rfl ?_
    exact q_iret hC hQ dX8_sizeOf_39 hx2 h
  · have h := h.2 c
    refine q_iload_n hC dX8_sizeOf_14 rfl rfl ?_
    refine q_aload_n hC dX8_sizeOf_15 rfl rfl ?_
    refine q_getr hC fl_X8_16 ly_63 rfl dX8_sizeOf_16 rfl ?_
    refine q_iload_n hC dX8_sizeOf_19 rfl rfl ?_
    obtain ⟨r101, h⟩ := h
    refine q_iald hC ly_66 dX8_sizeOf_20 rfl r101 ?_
    refine q_iload_n hC dX8_sizeOf_21 rfl rfl ?_
    refine q_icmp_ne hC dX8_sizeOf_22 (t := 29) (by decide) rfl (hM 66 x3) hx1 (fun c => ?_) (fun c => ?_)
    · have h := h.1 c
      refine q_iconst hC dX8_sizeOf_29 rfl ?_
      refine q_iadd hC dX8_sizeOf_30 rfl ?_
      refine q_istore_n hC dX8_sizeOf_31 (Nat.le_of_ble_eq_true rfl) (loc' := [some (.inr 63), some (.inl x1), some (.inl (x2 + 0)), some (.inl x3)]) rfl rfl ?_
      refine q_iinc hC dX8_sizeOf_32 rfl (loc' := [some (.inr 63), some (.inl x1), some (.inl (x2 + 0)), some (.inl (x3 + 1))]) rfl rfl ?_
      refine q_goto hC dX8_sizeOf_35 (q := 4) (by decide) ?_
      exact h
    · have h := h.2 c
      refine q_iconst hC dX8_sizeOf_25 rfl ?_
      refine q_goto hC dX8_sizeOf_26 (q := 30) (by decide) ?_
      refine q_iadd hC dX8_sizeOf_30 rfl ?_
      refine q_istore_n hC dX8_sizeOf_31 (Nat.le_of_ble_eq_true rfl) (loc' := [some (.inr 63), some (.inl x1), some (.inl (x2 + 1)), some (.inl x3)]) rfl rfl ?_
      refine q_iinc hC dX8_sizeOf_32 rfl (loc' := [some (.inr 63), some (.inl x1), some (.inl (x2 + 1)), some (.inl (x3 + 1))]) rfl rfl ?_
      refine q_goto hC dX8_sizeOf_35 (q := 4) (by decide) ?_
      exact h
set_option maxRecDepth 20000 in
theorem e_X8_findPlan {g : qG} {d : Nat} {M : qM} {K : qM → Prop}   (h : ∀ C : qX, qCk g C cX8_findPlan RX8 3 (d + 2) → qRt g C none (qN K) → qW g C 2 [some (.inr 63), some (.inl 0), none] [] M) : qOk g (d + 2) j_X8_findPlan [.inr 63] M (qN K) := by
  refine qOk.of (by decide) (Nat.le_of_ble_eq_true rfl) (fun C hC hQ => ?_)
  have hC : qCk g C cX8_findPlan RX8 3 (d + 2) := hC
  have hQ : qRt g C none (qN K) := hQ
  have h := h C hC hQ
  show qW g C 0 [some (.inr 63), none, none] [] M
  refine qW.rm (fun hM => ?_)
  refine q_iconst hC dX8_findPlan_0 rfl ?_
  refine q_istore_n hC dX8_findPlan_1 (Nat.le_of_ble_eq_true rfl) (loc' := [some (.inr 63), some (.inl 0), none]) rfl rfl ?_
  exact h
set_option maxRecDepth 20000 in
theorem s_X8_findPlan_2 {g : qG} {C : qX} {d : Nat} {M : qM} {K : qM → Prop} (hC : qCk g C cX8_findPlan RX8 3 (d + 2)) (hQ : qRt g C none (qN K)) {x1 : Int} (hx1 : qR x1) (h : ((4 ≤ x1 → (qW g C 26 [some (.inr 63), some (.inl 0), none] [] M)) ∧ (x1 < 4 → (qOk g (d + 1) j_X8_sizeOf [.inr 63, .inl x1] M (qI fun x103 M101 => (0 ≤ x1 ∧ x1 < 4) ∧ (qW g C 2 [some (.inr 63), some (.inl (x1 + 1)), none] [] (qU M101 82 x1 x103))))))) : qW g C 2 [some (.inr 63), some (.inl x1), none] [] M := by
  refine qW.rm (fun hM => ?_)
  refine q_iload_n hC dX8_findPlan_2 rfl rfl ?_
  refine q_iconst hC dX8_findPlan_3 rfl ?_
  refine q_icmp_ge hC dX8_findPlan_4 (t := 24) (by decide) rfl hx1 (by decide) (fun c => ?_) (fun c => ?_)
  · have h := h.1 c
    refine q_iconst hC dX8_findPlan_24 rfl ?_
    refine q_istore_n hC dX8_findPlan_25 (Nat.le_of_ble_eq_true rfl) (loc' := [some (.inr 63), some (.inl 0), none]) rfl rfl ?_
    exact h
  · have h := h.2 c
    refine q_aload_n hC dX8_findPlan_7 rfl rfl ?_
    refine q_getr hC fl_X8_68 ly_63 rfl dX8_findPlan_8 rfl ?_
    refine q_iload_n hC dX8_findPlan_11 rfl rfl ?_
    refine q_aload_n hC dX8_findPlan_12 rfl rfl ?_
    refine q_iload_n hC dX8_findPlan_13 rfl rfl ?_
    refine q_callVi hC (As := [.inl x1]) md_X8_sizeOf mv_X8_sizeOf ml_X8_116 ly_63 rfl dX8_findPlan_14 rfl (Nat.le_of_ble_eq_true rfl) rfl rfl h (fun x103 M101 hM102 r104 h => ?_)
    obtain ⟨r105, h⟩ := h
    have hM106 : qIn (qU M101 82 x1 x103) := (qU_in hM102 r104)
    refine q_iast hC ly_82 dX8_findPlan_17 rfl r105 r104 ?_
    refine q_iinc hC dX8_findPlan_18 rfl (loc' := [some (.inr 63), some (.inl (x1 + 1)), none]) rfl rfl ?_
    refine q_goto hC dX8_findPlan_21 (q := 2) (by decide) ?_
    exact h
set_option maxRecDepth 20000 in
theorem s_X8_findPlan_26 {g : qG} {C : qX} {d : Nat} {M : qM} {K : qM → Prop} (hC : qCk g C cX8_findPlan RX8 3 (d + 2)) (hQ : qRt g C none (qN K)) {x1 : Int} (hx1 : qR x1) (h : ((5 ≤ x1 → (qW g C 112 [some (.inr 63), some (.inl 0), none] [] (qU (qU (qU M 63 22 (-1)) 63 23 0) 80 0 (-1)))) ∧ (x1 < 5 → (0 ≤ x1 ∧ x1 < 5) ∧ (qW g C 40 [some (.inr 63), some (.inl x1), some (.inl 0)] [] (qU M 83 x1 0))))) : qW g C 26 [some (.inr 63), some (.inl x1), none] [] M := by
  refine qW.rm (fun hM => ?_)
  refine q_iload_n hC dX8_findPlan_26 rfl rfl ?_
  refine q_iconst hC dX8_findPlan_27 rfl ?_
  refine q_icmp_ge hC dX8_findPlan_28 (t := 93) (by decide) rfl hx1 (by decide) (fun c => ?_) (fun c => ?_)
  · have h := h.1 c
    refine q_aload_n hC dX8_findPlan_93 rfl rfl ?_
    refine q_iconst hC dX8_findPlan_94 rfl ?_
    have hM101 : qIn (qU M 63 22 (-1)) := (qU_in hM (by decide))
    refine q_puti hC fp_X8_119 ly_63 rfl (z := 22) rfl dX8_findPlan_95 rfl (by decide) ?_
    refine q_aload_n hC dX8_findPlan_98 rfl rfl ?_
    refine q_iconst hC dX8_findPlan_99 rfl ?_
    have hM102 : qIn (qU (qU M 63 22 (-1)) 63 23 0) := (qU_in hM101 (by decide))
    refine q_puti hC fp_X8_122 ly_63 rfl (z := 23) rfl dX8_findPlan_100 rfl (by decide) ?_
    refine q_iconst hC dX8_findPlan_103 rfl ?_
    refine q_istore_n hC dX8_findPlan_104 (Nat.le_of_ble_eq_true rfl) (loc' := [some (.inr 63), some (.inl 0), none]) rfl rfl ?_
    refine q_aload_n hC dX8_findPlan_105 rfl rfl ?_
    refine q_getr hC fl_X8_62 ly_63 rfl dX8_findPlan_106 rfl ?_
    refine q_iconst hC dX8_findPlan_109 rfl ?_
    refine q_iconst hC dX8_findPlan_110 rfl ?_
    have hM103 : qIn (qU (qU (qU M 63 22 (-1)) 63 23 0) 80 0 (-1)) := (qU_in hM102 (by decide))
    refine q_iast hC ly_80 dX8_findPlan_111 rfl (by decide) (by decide) ?_
    exact h
  · have h := h.2 c
    refine q_aload_n hC dX8_findPlan_31 rfl rfl ?_
    refine q_getr hC fl_X8_71 ly_63 rfl dX8_findPlan_32 rfl ?_
    refine q_iload_n hC dX8_findPlan_35 rfl rfl ?_
    refine q_iconst hC dX8_findPlan_36 rfl ?_
    obtain ⟨r104, h⟩ := h
    have hM105 : qIn (qU M 83 x1 0) := (qU_in hM (by decide))
    refine q_iast hC ly_83 dX8_findPlan_37 rfl r104 (by decide) ?_
    refine q_iconst hC dX8_findPlan_38 rfl ?_
    refine q_istore_n hC dX8_findPlan_39 (Nat.le_of_ble_eq_true rfl) (loc' := [some (.inr 63), some (.inl x1), some (.inl 0)]) rfl rfl ?_
    exact h
set_option maxRecDepth 20000 in
theorem s_X8_findPlan_40 {g : qG} {C : qX} {d : Nat} {M : qM} {K : qM → Prop} (hC : qCk g C cX8_findPlan RX8 3 (d + 2)) (hQ : qRt g C none (qN K)) {x1 : Int} {x2 : Int} (hx1 : qR x1) (hx2 : qR x2) (h : (((M 64 1) ≤ x2 → (qW g C 26 [some (.inr 63), some (.inl (x1 + 1)), none] [] M)) ∧ (x2 < (M 64 1) → (0 ≤ x1 ∧ x1 < 5) ∧ (0 ≤ x2 ∧ x2 < 5) ∧ (((qAnd (qShr (M 69 x2) x1) 1) ≠ 1 → (qR ((M 83 x1) + 0)) ∧ (qW g C 40 [some (.inr 63), some (.inl x1), some (.inl (x2 + 1))] [] (qU M 83 x1 ((M 83 x1) + 0)))) ∧ ((qAnd (qShr (M 69 x2) x1) 1) = 1 → (qR ((M 83 x1) + (M 63 13))) ∧ (qW g C 40 [some (.inr 63), some (.inl x1), some (.inl (x2 + 1))] [] (qU M 83 x1 ((M 83 x1) + (M 63 13))))))))) : qW g C 40 [some (.inr 63), some (.inl x1), some (.inl x2)] [] M := by
  refine qW.rm (fun hM => ?_)
  refine q_iload_n hC dX8_findPlan_40 rfl rfl ?_
  refine q_aload_n hC dX8_findPlan_41 rfl rfl ?_
  refine q_getr hC fl_X8_7 ly_63 rfl dX8_findPlan_42 rfl ?_
  refine q_iconst hC dX8_findPlan_45 rfl ?_
  refine q_iald hC ly_64 dX8_findPlan_46 rfl (by decide) ?_
  refine q_icmp_ge hC dX8_findPlan_47 (t := 87) (by decide) rfl hx2 (hM 64 1) (fun c => ?_) (fun c => ?_)
  · have h := h.1 c
    refine q_iinc hC dX8_findPlan_87 rfl (loc' := [some (.inr 63), some (.inl (x1 + 1)), some (.inl x2)]) rfl rfl ?_
    refine q_goto hC dX8_findPlan_90 (q := 26) (by decide) ?_
    refine qW.kill 2 (loc' := [some (.inr 63), some (.inl (x1 + 1)), none]) rfl ?_
    exact h
  · have h := h.2 c
    refine q_aload_n hC dX8_findPlan_50 rfl rfl ?_
    refine q_getr hC fl_X8_71 ly_63 rfl dX8_findPlan_51 rfl ?_
    refine q_iload_n hC dX8_findPlan_54 rfl rfl ?_
    refine q_dup2 hC dX8_findPlan_55 rfl ?_
    obtain ⟨r101, h⟩ := h
    refine q_iald hC ly_83 dX8_findPlan_56 rfl r101 ?_
    refine q_aload_n hC dX8_findPlan_57 rfl rfl ?_
    refine q_getr hC fl_X8_25 ly_63 rfl dX8_findPlan_58 rfl ?_
    refine q_iload_n hC dX8_findPlan_61 rfl rfl ?_
    obtain ⟨r102, h⟩ := h
    refine q_iald hC ly_69 dX8_findPlan_62 rfl r102 ?_
    refine q_iload_n hC dX8_findPlan_63 rfl rfl ?_
    refine q_ishr hC dX8_findPlan_64 rfl ?_
    refine q_iconst hC dX8_findPlan_65 rfl ?_
    refine q_iand hC dX8_findPlan_66 rfl ?_
    refine q_iconst hC dX8_findPlan_67 rfl ?_
    refine q_icmp_ne hC dX8_findPlan_68 (t := 78) (by decide) rfl (qR_and _ _) (by decide) (fun c => ?_) (fun c => ?_)
    · have h := h.1 c
      refine q_iconst hC dX8_findPlan_78 rfl ?_
      refine q_iadd hC dX8_findPlan_79 rfl ?_
      obtain ⟨r103, h⟩ := h
      have hM104 : qIn (qU M 83 x1 ((M 83 x1) + 0)) := (qU_in hM r103)
      refine q_iast hC ly_83 dX8_findPlan_80 rfl r101 r103 ?_
      refine q_iinc hC dX8_findPlan_81 rfl (loc' := [some (.inr 63), some (.inl x1), some (.inl (x2 + 1))]) rfl rfl ?_
      refine q_goto hC dX8_findPlan_84 (q := 40) (by decide) ?_
      exact h
    · have h := h.2 c
      refine q_aload_n hC dX8_findPlan_71 rfl rfl ?_
      refine q_geti hC fl_X8_49 ly_63 rfl (z := 13) rfl dX8_findPlan_72 rfl ?_
      refine q_goto hC dX8_findPlan_75 (q := 79) (by decide) ?_
      refine q_iadd hC dX8_findPlan_79 rfl ?_
      obtain ⟨r105, h⟩ := h
      have hM106 : qIn (qU M 83 x1 ((M 83 x1) + (M 63 13))) := (qU_in hM r105)
      refine q_iast hC ly_83 dX8_findPlan_80 rfl r101 r105 ?_
      refine q_iinc hC dX8_findPlan_81 rfl (loc' := [some (.inr 63), some (.inl x1), some (.inl (x2 + 1))]) rfl rfl ?_
      refine q_goto hC dX8_findPlan_84 (q := 40) (by decide) ?_
      exact h
set_option maxRecDepth 20000 in
theorem s_X8_findPlan_112 {g : qG} {C : qX} {d : Nat} {M : qM} {K : qM → Prop} (hC : qCk g C cX8_findPlan RX8 3 (d + 2)) (hQ : qRt g C none (qN K)) {x1 : Int} (hx1 : qR x1) (h : ((x1 < 0 → (K M)) ∧ (0 ≤ x1 → (0 ≤ x1 ∧ x1 < 4) ∧ (qR ((M 80 x1) + 1)) ∧ ((((qU M 80 x1 ((M 80 x1) + 1)) 80 x1) ≤ 15 → (qOk g (d + 1) j_X8_fits [.inr 63, .inl x1] (qU M 80 x1 ((M 80 x1) + 1)) (qI fun x106 M104 => ((x106 ≠ 0 → ((3 ≤ x1 → (qOk g (d + 1) j_X8_takes [.inr 63] M104 (qN fun M108 => qW g C 112 [some (.inr 63), some (.inl x1), none] [] M108))) ∧ (x1 < 3 → (0 ≤ (x1 + 1) ∧ (x1 + 1) < 4) ∧ (qW g C 112 [some (.inr 63), some (.inl (x1 + 1)), none] [] (qU M104 80 (x1 + 1) (-1)))))) ∧ (x106 = 0 → (qW g C 112 [some (.inr 63), some (.inl x1), none] [] M104)))))) ∧ (15 < ((qU M 80 x1 ((M 80 x1) + 1)) 80 x1) → (qW g C 112 [some (.inr 63), some (.inl (x1 + (-1))), none] [] (qU M 80 x1 ((M 80 x1) + 1)))))))) : qW g C 112 [some (.inr 63), some (.inl x1), none] [] M := by
  refine qW.rm (fun hM => ?_)
  refine q_iload_n hC dX8_findPlan_112 rfl rfl ?_
  refine q_if_lt hC dX8_findPlan_113 (t := 179) (by decide) rfl hx1 (fun c => ?_) (fun c => ?_)
  · have h := h.1 c
    exact q_vret hC hQ dX8_findPlan_179 h
  · have h := h.2 c
    refine q_aload_n hC dX8_findPlan_116 rfl rfl ?_
    refine q_getr hC fl_X8_62 ly_63 rfl dX8_findPlan_117 rfl ?_
    refine q_iload_n hC dX8_findPlan_120 rfl rfl ?_
    refine q_dup2 hC dX8_findPlan_121 rfl ?_
    obtain ⟨r101, h⟩ := h
    refine q_iald hC ly_80 dX8_findPlan_122 rfl r101 ?_
    refine q_iconst hC dX8_findPlan_123 rfl ?_
    refine q_iadd hC dX8_findPlan_124 rfl ?_
    obtain ⟨r102, h⟩ := h
    have hM103 : qIn (qU M 80 x1 ((M 80 x1) + 1)) := (qU_in hM r102)
    refine q_iast hC ly_80 dX8_findPlan_125 rfl r101 r102 ?_
    refine q_aload_n hC dX8_findPlan_126 rfl rfl ?_
    refine q_getr hC fl_X8_62 ly_63 rfl dX8_findPlan_127 rfl ?_
    refine q_iload_n hC dX8_findPlan_130 rfl rfl ?_
    refine q_iald hC ly_80 dX8_findPlan_131 rfl r101 ?_
    refine q_bipush hC dX8_findPlan_132 (by decide) rfl ?_
    refine q_icmp_le hC dX8_findPlan_134 (t := 143) (by decide) rfl (hM103 80 x1) (by decide) (fun c => ?_) (fun c => ?_)
    · have h := h.1 c
      refine q_aload_n hC dX8_findPlan_143 rfl rfl ?_
      refine q_iload_n hC dX8_findPlan_144 rfl rfl ?_
      refine q_callVi hC (As := [.inl x1]) md_X8_fits mv_X8_fits ml_X8_125 ly_63 rfl dX8_findPlan_145 rfl (Nat.le_of_ble_eq_true rfl) rfl rfl h (fun x106 M104 hM105 r107 h => ?_)
      refine q_if_ne hC dX8_findPlan_148 (t := 154) (by decide) rfl r107 (fun c => ?_) (fun c => ?_)
      · have h := h.1 c
        refine q_iload_n hC dX8_findPlan_154 rfl rfl ?_
        refine q_iconst hC dX8_findPlan_155 rfl ?_
        refine q_icmp_ge hC dX8_findPlan_156 (t := 172) (by decide) rfl hx1 (by decide) (fun c => ?_) (fun c => ?_)
        · have h := h.1 c
          refine q_aload_n hC dX8_findPlan_172 rfl rfl ?_
          refine q_callVv hC (As := []) md_X8_takes mv_X8_takes ml_X8_128 ly_63 rfl dX8_findPlan_173 rfl (Nat.le_of_ble_eq_true rfl) rfl rfl h (fun M108 hM109 h => ?_)
          refine q_goto hC dX8_findPlan_176 (q := 112) (by decide) ?_
          exact h
        · have h := h.2 c
          refine q_iinc hC dX8_findPlan_159 rfl (loc' := [some (.inr 63), some (.inl (x1 + 1)), none]) rfl rfl ?_
          refine q_aload_n hC dX8_findPlan_162 rfl rfl ?_
          refine q_getr hC fl_X8_62 ly_63 rfl dX8_findPlan_163 rfl ?_
          refine q_iload_n hC dX8_findPlan_166 rfl rfl ?_
          refine q_iconst hC dX8_findPlan_167 rfl ?_
          obtain ⟨r110, h⟩ := h
          have hM111 : qIn (qU M104 80 (x1 + 1) (-1)) := (qU_in hM105 (by decide))
          refine q_iast hC ly_80 dX8_findPlan_168 rfl r110 (by decide) ?_
          refine q_goto hC dX8_findPlan_169 (q := 112) (by decide) ?_
          exact h
      · have h := h.2 c
        refine q_goto hC dX8_findPlan_151 (q := 112) (by decide) ?_
        exact h
    · have h := h.2 c
      refine q_iinc hC dX8_findPlan_137 rfl (loc' := [some (.inr 63), some (.inl (x1 + (-1))), none]) rfl rfl ?_
      refine q_goto hC dX8_findPlan_140 (q := 112) (by decide) ?_
      exact h
set_option maxRecDepth 20000 in
theorem e_X8_takes {g : qG} {d : Nat} {M : qM} {K : qM → Prop}   (h : ∀ C : qX, qCk g C cX8_takes RX8 4 (d + 1) → qRt g C none (qN K) → qW g C 6 [some (.inr 63), some (.inl 0), some (.inl 0), some (.inl 0)] [] M) : qOk g (d + 1) j_X8_takes [.inr 63] M (qN K) := by
  refine qOk.of (by decide) (Nat.le_of_ble_eq_true rfl) (fun C hC hQ => ?_)
  have hC : qCk g C cX8_takes RX8 4 (d + 1) := hC
  have hQ : qRt g C none (qN K) := hQ
  have h := h C hC hQ
  show qW g C 0 [some (.inr 63), none, none, none] [] M
  refine qW.rm (fun hM => ?_)
  refine q_iconst hC dX8_takes_0 rfl ?_
  refine q_istore_n hC dX8_takes_1 (Nat.le_of_ble_eq_true rfl) (loc' := [some (.inr 63), some (.inl 0), none, none]) rfl rfl ?_
  refine q_iconst hC dX8_takes_2 rfl ?_
  refine q_istore_n hC dX8_takes_3 (Nat.le_of_ble_eq_true rfl) (loc' := [some (.inr 63), some (.inl 0), some (.inl 0), none]) rfl rfl ?_
  refine q_iconst hC dX8_takes_4 rfl ?_
  refine q_istore_n hC dX8_takes_5 (Nat.le_of_ble_eq_true rfl) (loc' := [some (.inr 63), some (.inl 0), some (.inl 0), some (.inl 0)]) rfl rfl ?_
  exact h
set_option maxRecDepth 20000 in
theorem s_X8_takes_6 {g : qG} {C : qX} {d : Nat} {M : qM} {K : qM → Prop} (hC : qCk g C cX8_takes RX8 4 (d + 1)) (hQ : qRt g C none (qN K)) {x1 : Int} {x2 : Int} {x3 : Int} (hx1 : qR x1) (hx2 : qR x2) (hx3 : qR x3) (h : ((4 ≤ x3 → (((M 63 22) < x1 → (qW g C 80 [some (.inr 63), some (.inl x1), some (.inl x2), some (.inl 0)] [] (qU (qU M 63 22 x1) 63 23 x2))) ∧ (x1 ≤ (M 63 22) → ((x1 ≠ (M 63 22) → (K M)) ∧ (x1 = (M 63 22) → (((M 63 23) ≤ x2 → (K M)) ∧ (x2 < (M 63 23) → (qW g C 80 [some (.inr 63), some (.inl x1), some (.inl x2), some (.inl 0)] [] (qU (qU M 63 22 x1) 63 23 x2))))))))) ∧ (x3 < 4 → (0 ≤ x3 ∧ x3 < 4) ∧ ((M 80 x3) ≠ 15 → 0 ≤ ((15 * x3) + (M 80 x3)) ∧ ((15 * x3) + (M 80 x3)) < 60) ∧ (((M 80 x3) = 15 → (0 ≤ x3 ∧ x3 < 4) ∧ (((M 80 x3) ≠ 15 → (qW g C 6 [some (.inr 63), some (.inl (x1 + 0)), some (.inl (x2 + 1)), some (.inl (x3 + 1))] [] M)) ∧ ((M 80 x3) = 15 → (qW g C 6 [some (.inr 63), some (.inl (x1 + 0)), some (.inl (x2 + 0)), some (.inl (x3 + 1))] [] M)))) ∧ ((M 80 x3) ≠ 15 → (0 ≤ x3 ∧ x3 < 4) ∧ (((M 80 x3) ≠ 15 → (qW g C 6 [some (.inr 63), some (.inl (x1 + (M 76 ((15 * x3) + (M 80 x3))))), some (.inl (x2 + 1)), some (.inl (x3 + 1))] [] M)) ∧ ((M 80 x3) = 15 → (qW g C 6 [some (.inr 63), some (.inl (x1 + (M 76 ((15 * x3) + (M 80 x3))))), some (.inl (x2 + 0)), some (.inl (x3 + 1))] [] M)))))))) : qW g C 6 [some (.inr 63), some (.inl x1), some (.inl x2), some (.inl x3)] [] M := by
  refine qW.rm (fun hM => ?_)
  refine q_iload_n hC dX8_takes_6 rfl rfl ?_
  refine q_iconst hC dX8_takes_7 rfl ?_
  refine q_icmp_ge hC dX8_takes_8 (t := 44) (by decide) rfl hx3 (by decide) (fun c => ?_) (fun c => ?_)
  · have h := h.1 c
    refine q_iload_n hC dX8_takes_44 rfl rfl ?_
    refine q_aload_n hC dX8_takes_45 rfl rfl ?_
    refine q_geti hC fl_X8_119 ly_63 rfl (z := 22) rfl dX8_takes_46 rfl ?_
    refine q_icmp_gt hC dX8_takes_49 (t := 68) (by decide) rfl hx1 (hM 63 22) (fun c => ?_) (fun c => ?_)
    · have h := h.1 c
      refine q_aload_n hC dX8_takes_68 rfl rfl ?_
      refine q_iload_n hC dX8_takes_69 rfl rfl ?_
      have hM101 : qIn (qU M 63 22 x1) := (qU_in hM hx1)
      refine q_puti hC fp_X8_119 ly_63 rfl (z := 22) rfl dX8_takes_70 rfl hx1 ?_
      refine q_aload_n hC dX8_takes_73 rfl rfl ?_
      refine q_iload_n hC dX8_takes_74 rfl rfl ?_
      have hM102 : qIn (qU (qU M 63 22 x1) 63 23 x2) := (qU_in hM101 hx2)
      refine q_puti hC fp_X8_122 ly_63 rfl (z := 23) rfl dX8_takes_75 rfl hx2 ?_
      refine q_iconst hC dX8_takes_78 rfl ?_
      refine q_istore_n hC dX8_takes_79 (Nat.le_of_ble_eq_true rfl) (loc' := [some (.inr 63), some (.inl x1), some (.inl x2), some (.inl 0)]) rfl rfl ?_
      exact h
    · have h := h.2 c
      refine q_iload_n hC dX8_takes_52 rfl rfl ?_
      refine q_aload_n hC dX8_takes_53 rfl rfl ?_
      refine q_geti hC fl_X8_119 ly_63 rfl (z := 22) rfl dX8_takes_54 rfl ?_
      refine q_icmp_ne hC dX8_takes_57 (t := 103) (by decide) rfl hx1 (hM 63 22) (fun c => ?_) (fun c => ?_)
      · have h := h.1 c
        exact q_vret hC hQ dX8_takes_103 h
      · have h := h.2 c
        refine q_iload_n hC dX8_takes_60 rfl rfl ?_
        refine q_aload_n hC dX8_takes_61 rfl rfl ?_
        refine q_geti hC fl_X8_122 ly_63 rfl (z := 23) rfl dX8_takes_62 rfl ?_
        refine q_icmp_ge hC dX8_takes_65 (t := 103) (by decide) rfl hx2 (hM 63 23) (fun c => ?_) (fun c => ?_)
        · have h := h.1 c
          exact q_vret hC hQ dX8_takes_103 h
        · have h := h.2 c
          refine q_aload_n hC dX8_takes_68 rfl rfl ?_
          refine q_iload_n hC dX8_takes_69 rfl rfl ?_
          have hM103 : qIn (qU M 63 22 x1) := (qU_in hM hx1)
          refine q_puti hC fp_X8_119 ly_63 rfl (z := 22) rfl dX8_takes_70 rfl hx1 ?_
          refine q_aload_n hC dX8_takes_73 rfl rfl ?_
          refine q_iload_n hC dX8_takes_74 rfl rfl ?_
          have hM104 : qIn (qU (qU M 63 22 x1) 63 23 x2) := (qU_in hM103 hx2)
          refine q_puti hC fp_X8_122 ly_63 rfl (z := 23) rfl dX8_takes_75 rfl hx2 ?_
          refine q_iconst hC dX8_takes_78 rfl ?_
          refine q_istore_n hC dX8_takes_79 (Nat.le_of_ble_eq_true rfl) (loc' := [some (.inr 63), some (.inl x1), some (.inl x2), some (.inl 0)]) rfl rfl ?_
          exact h
  · have h := h.2 c
    refine q_iload_n hC dX8_takes_11 rfl rfl ?_
    refine q_aload_n hC dX8_takes_12 rfl rfl ?_
    refine q_iload_n hC dX8_takes_13 rfl rfl ?_
    obtain ⟨r105, h⟩ := h
    obtain ⟨r106, h⟩ := h
    refine q_callVi hC (As := [.inl x3]) md_X8_worthOf mv_X8_worthOf ml_X8_131 ly_63 rfl dX8_takes_14 rfl (Nat.le_of_ble_eq_true rfl) rfl rfl (b_X8_worthOf hx3 r105 r106) (fun x107 M108 hM109 r110 hk => ?_)
    obtain ⟨ee, hk⟩ := hk
    have ee := ee.symm
    subst ee
    rcases hk with ⟨ee, c⟩ | ⟨ee, c⟩
    · have ee := ee.symm
      subst ee
      have h := h.1 c
      refine q_iadd hC dX8_takes_17 rfl ?_
      refine q_istore_n hC dX8_takes_18 (Nat.le_of_ble_eq_true rfl) (loc' := [some (.inr 63), some (.inl (x1 + 0)), some (.inl x2), some (.inl x3)]) rfl rfl ?_
      refine q_iload_n hC dX8_takes_19 rfl rfl ?_
      refine q_aload_n hC dX8_takes_20 rfl rfl ?_
      refine q_getr hC fl_X8_62 ly_63 rfl dX8_takes_21 rfl ?_
      refine q_iload_n hC dX8_takes_24 rfl rfl ?_
      obtain ⟨r111, h⟩ := h
      refine q_iald hC ly_80 dX8_takes_25 rfl r111 ?_
      refine q_bipush hC dX8_takes_26 (by decide) rfl ?_
      refine q_icmp_ne hC dX8_takes_28 (t := 35) (by decide) rfl (hM 80 x3) (by decide) (fun c => ?_) (fun c => ?_)
      · have h := h.1 c
        refine q_iconst hC dX8_takes_35 rfl ?_
        refine q_iadd hC dX8_takes_36 rfl ?_
        refine q_istore_n hC dX8_takes_37 (Nat.le_of_ble_eq_true rfl) (loc' := [some (.inr 63), some (.inl (x1 + 0)), some (.inl (x2 + 1)), some (.inl x3)]) rfl rfl ?_
        refine q_iinc hC dX8_takes_38 rfl (loc' := [some (.inr 63), some (.inl (x1 + 0)), some (.inl (x2 + 1)), some (.inl (x3 + 1))]) rfl rfl ?_
        refine q_goto hC dX8_takes_41 (q := 6) (by decide) ?_
        exact h
      · have h := h.2 c
        refine q_iconst hC dX8_takes_31 rfl ?_
        refine q_goto hC dX8_takes_32 (q := 36) (by decide) ?_
        refine q_iadd hC dX8_takes_36 rfl ?_
        refine q_istore_n hC dX8_takes_37 (Nat.le_of_ble_eq_true rfl) (loc' := [some (.inr 63), some (.inl (x1 + 0)), some (.inl (x2 + 0)), some (.inl x3)]) rfl rfl ?_
        refine q_iinc hC dX8_takes_38 rfl (loc' := [some (.inr 63), some (.inl (x1 + 0)), some (.inl (x2 + 0)), some (.inl (x3 + 1))]) rfl rfl ?_
        refine q_goto hC dX8_takes_41 (q := 6) (by decide) ?_
        exact h
    · have ee := ee.symm
      subst ee
      have h := h.2 c
      refine q_iadd hC dX8_takes_17 rfl ?_
      refine q_istore_n hC dX8_takes_18 (Nat.le_of_ble_eq_true rfl) (loc' := [some (.inr 63), some (.inl (x1 + (M 76 ((15 * x3) + (M 80 x3))))), some (.inl x2), some (.inl x3)]) rfl rfl ?_
      refine q_iload_n hC dX8_takes_19 rfl rfl ?_
      refine q_aload_n hC dX8_takes_20 rfl rfl ?_
      refine q_getr hC fl_X8_62 ly_63 rfl dX8_takes_21 rfl ?_
      refine q_iload_n hC dX8_takes_24 rfl rfl ?_
      obtain ⟨r112, h⟩ := h
      refine q_iald hC ly_80 dX8_takes_25 rfl r112 ?_
      refine q_bipush hC dX8_takes_26 (by decide) rfl ?_
      refine q_icmp_ne hC dX8_takes_28 (t := 35) (by decide) rfl (hM 80 x3) (by decide) (fun c => ?_) (fun c => ?_)
      · have h := h.1 c
        refine q_iconst hC dX8_takes_35 rfl ?_
        refine q_iadd hC dX8_takes_36 rfl ?_
        refine q_istore_n hC dX8_takes_37 (Nat.le_of_ble_eq_true rfl) (loc' := [some (.inr 63), some (.inl (x1 + (M 76 ((15 * x3) + (M 80 x3))))), some (.inl (x2 + 1)), some (.inl x3)]) rfl rfl ?_
        refine q_iinc hC dX8_takes_38 rfl (loc' := [some (.inr 63), some (.inl (x1 + (M 76 ((15 * x3) + (M 80 x3))))), some (.inl (x2 + 1)), some (.inl (x3 + 1))]) rfl rfl ?_
        refine q_goto hC dX8_takes_41 (q := 6) (by decide) ?_
        exact h
      · have h := h.2 c
        refine q_iconst hC dX8_takes_31 rfl ?_
        refine q_goto hC dX8_takes_32 (q := 36) (by decide) ?_
        refine q_iadd hC dX8_takes_36 rfl ?_
        refine q_istore_n hC dX8_takes_37 (Nat.le_of_ble_eq_true rfl) (loc' := [some (.inr 63), some (.inl (x1 + (M 76 ((15 * x3) + (M 80 x3))))), some (.inl (x2 + 0)), some (.inl x3)]) rfl rfl ?_
        refine q_iinc hC dX8_takes_38 rfl (loc' := [some (.inr 63), some (.inl (x1 + (M 76 ((15 * x3) + (M 80 x3))))), some (.inl (x2 + 0)), some (.inl (x3 + 1))]) rfl rfl ?_
        refine q_goto hC dX8_takes_41 (q := 6) (by decide) ?_
        exact h
set_option maxRecDepth 20000 in
theorem s_X8_takes_80 {g : qG} {C : qX} {d : Nat} {M : qM} {K : qM → Prop} (hC : qCk g C cX8_takes RX8 4 (d + 1)) (hQ : qRt g C none (qN K)) {x1 : Int} {x2 : Int} {x3 : Int} (hx1 : qR x1) (hx2 : qR x2) (hx3 : qR x3) (h : ((4 ≤ x3 → (K M)) ∧ (x3 < 4 → (0 ≤ x3 ∧ x3 < 4) ∧ (qW g C 80 [some (.inr 63), some (.inl x1), some (.inl x2), some (.inl (x3 + 1))] [] (qU M 81 x3 (M 80 x3)))))) : qW g C 80 [some (.inr 63), some (.inl x1), some (.inl x2), some (.inl x3)] [] M := by
  refine qW.rm (fun hM => ?_)
  refine q_iload_n hC dX8_takes_80 rfl rfl ?_
  refine q_iconst hC dX8_takes_81 rfl ?_
  refine q_icmp_ge hC dX8_takes_82 (t := 103) (by decide) rfl hx3 (by decide) (fun c => ?_) (fun c => ?_)
  · have h := h.1 c
    exact q_vret hC hQ dX8_takes_103 h
  · have h := h.2 c
    refine q_aload_n hC dX8_takes_85 rfl rfl ?_
    refine q_getr hC fl_X8_65 ly_63 rfl dX8_takes_86 rfl ?_
    refine q_iload_n hC dX8_takes_89 rfl rfl ?_
    refine q_aload_n hC dX8_takes_90 rfl rfl ?_
    refine q_getr hC fl_X8_62 ly_63 rfl dX8_takes_91 rfl ?_
    refine q_iload_n hC dX8_takes_94 rfl rfl ?_
    obtain ⟨r101, h⟩ := h
    refine q_iald hC ly_80 dX8_takes_95 rfl r101 ?_
    have hM102 : qIn (qU M 81 x3 (M 80 x3)) := (qU_in hM (hM 80 x3))
    refine q_iast hC ly_81 dX8_takes_96 rfl r101 (hM 80 x3) ?_
    refine q_iinc hC dX8_takes_97 rfl (loc' := [some (.inr 63), some (.inl x1), some (.inl x2), some (.inl (x3 + 1))]) rfl rfl ?_
    refine q_goto hC dX8_takes_100 (q := 80) (by decide) ?_
    exact h
set_option maxRecDepth 20000 in
theorem e_X8_plan {g : qG} {d : Nat} {M : qM} {K : Int → qM → Prop} {x1 : Int} (hx1 : qR x1) (h : (((0 ≤ x1 ∧ x1 ≤ 3) → (qOk g (d + 2) j_X8_findPlan [.inr 63] M (qN fun M105 => (0 ≤ x1 ∧ x1 < 4) ∧ (((M105 81 x1) ≠ 15 → (K (M105 81 x1) M105)) ∧ ((M105 81 x1) = 15 → (K (-3) M105)))))) ∧ ((x1 < 0 ∨ 3 < x1) → (K (-1) M)))) : qOk g (d + 3) j_X8_plan [.inr 63, .inl x1] M (qI K) := by
  refine qOk.of (by decide) (Nat.le_of_ble_eq_true rfl) (fun C hC hQ => ?_)
  have hC : qCk g C cX8_plan RX8 2 (d + 3) := hC
  have hQ : qRt g C (some .int) (qI K) := hQ
  show qW g C 0 [some (.inr 63), some (.inl x1)] [] M
  refine qW.rm (fun hM => ?_)
  refine q_iload_n hC dX8_plan_0 rfl rfl ?_
  refine q_callSi hC (As := [.inl x1]) md_X8_isPatrol ms_X8_isPatrol ml_X8_78 dX8_plan_1 rfl (Nat.le_of_ble_eq_true rfl) rfl rfl (b_X8_isPatrol hx1) (fun x101 M102 hM103 r104 hk => ?_)
  obtain ⟨ee, hk⟩ := hk
  have ee := ee.symm
  subst ee
  rcases hk with ⟨ee, c⟩ | ⟨ee, c⟩
  · have ee := ee.symm
    subst ee
    have h := h.1 c
    refine q_if_ne hC dX8_plan_4 (t := 9) (by decide) rfl (by decide) (fun c => ?_) (fun c => ?_)
    · refine q_aload_n hC dX8_plan_9 rfl rfl ?_
      refine q_callVv hC (As := []) md_X8_findPlan mv_X8_findPlan ml_X8_134 ly_63 rfl dX8_plan_10 rfl (Nat.le_of_ble_eq_true rfl) rfl rfl h (fun M105 hM106 h => ?_)
      refine q_aload_n hC dX8_plan_13 rfl rfl ?_
      refine q_getr hC fl_X8_65 ly_63 rfl dX8_plan_14 rfl ?_
      refine q_iload_n hC dX8_plan_17 rfl rfl ?_
      obtain ⟨r107, h⟩ := h
      refine q_iald hC ly_81 dX8_plan_18 rfl r107 ?_
      refine q_bipush hC dX8_plan_19 (by decide) rfl ?_
      refine q_icmp_ne hC dX8_plan_21 (t := 29) (by decide) rfl (hM106 81 x1) (by decide) (fun c => ?_) (fun c => ?_)
      · have h := h.1 c
        refine q_aload_n hC dX8_plan_29 rfl rfl ?_
        refine q_getr hC fl_X8_65 ly_63 rfl dX8_plan_30 rfl ?_
        refine q_iload_n hC dX8_plan_33 rfl rfl ?_
        refine q_iald hC ly_81 dX8_plan_34 rfl r107 ?_
        exact q_iret hC hQ dX8_plan_35 (hM106 81 x1) h
      · have h := h.2 c
        refine q_bipush hC dX8_plan_24 (by decide) rfl ?_
        refine q_goto hC dX8_plan_26 (q := 35) (by decide) ?_
        exact q_iret hC hQ dX8_plan_35 (by decide) h
    · exact absurd c (by decide)
  · have ee := ee.symm
    subst ee
    have h := h.2 c
    refine q_if_ne hC dX8_plan_4 (t := 9) (by decide) rfl (by decide) (fun c => ?_) (fun c => ?_)
    · exact absurd c (by decide)
    · refine q_iconst hC dX8_plan_7 rfl ?_
      exact q_iret hC hQ dX8_plan_8 (by decide) h
set_option maxRecDepth 20000 in
theorem e_X8_planned {g : qG} {d : Nat} {M : qM} {K : Int → qM → Prop} {x1 : Int} (hx1 : qR x1) (h : ∀ C : qX, qCk g C cX8_planned RX8 4 (d + 3) → qRt g C (some .int) (qI K) → (((0 ≤ x1 ∧ x1 ≤ 6) → (qOk g (d + 2) j_X8_findPlan [.inr 63] M (qN fun M105 => ((2 ≤ x1 → (qW g C 41 [some (.inr 63), some (.inl x1), some (.inl 0), some (.inl 0)] [] M105)) ∧ (x1 < 2 → ((x1 ≠ 0 → (K (M105 63 23) M105)) ∧ (x1 = 0 → (K (M105 63 22) M105)))))))) ∧ ((x1 < 0 ∨ 6 < x1) → (K (-1) M)))) : qOk g (d + 3) j_X8_planned [.inr 63, .inl x1] M (qI K) := by
  refine qOk.of (by decide) (Nat.le_of_ble_eq_true rfl) (fun C hC hQ => ?_)
  have hC : qCk g C cX8_planned RX8 4 (d + 3) := hC
  have hQ : qRt g C (some .int) (qI K) := hQ
  have h := h C hC hQ
  show qW g C 0 [some (.inr 63), some (.inl x1), none, none] [] M
  refine qW.rm (fun hM => ?_)
  refine q_iload_n hC dX8_planned_0 rfl rfl ?_
  refine q_iconst hC dX8_planned_1 rfl ?_
  refine q_bipush hC dX8_planned_2 (by decide) rfl ?_
  refine q_callSi hC (As := [.inl x1, .inl 0, .inl 6]) md_X8_in ms_X8_in ml_X8_74 dX8_planned_4 rfl (Nat.le_of_ble_eq_true rfl) rfl rfl (b_X8_in hx1 (by decide) (by decide)) (fun x101 M102 hM103 r104 hk => ?_)
  obtain ⟨ee, hk⟩ := hk
  have ee := ee.symm
  subst ee
  rcases hk with ⟨ee, c⟩ | ⟨ee, c⟩
  · have ee := ee.symm
    subst ee
    have h := h.1 c
    refine q_if_ne hC dX8_planned_7 (t := 12) (by decide) rfl (by decide) (fun c => ?_) (fun c => ?_)
    · refine q_aload_n hC dX8_planned_12 rfl rfl ?_
      refine q_callVv hC (As := []) md_X8_findPlan mv_X8_findPlan ml_X8_134 ly_63 rfl dX8_planned_13 rfl (Nat.le_of_ble_eq_true rfl) rfl rfl h (fun M105 hM106 h => ?_)
      refine q_iload_n hC dX8_planned_16 rfl rfl ?_
      refine q_iconst hC dX8_planned_17 rfl ?_
      refine q_icmp_ge hC dX8_planned_18 (t := 37) (by decide) rfl hx1 (by decide) (fun c => ?_) (fun c => ?_)
      · have h := h.1 c
        refine q_iconst hC dX8_planned_37 rfl ?_
        refine q_istore_n hC dX8_planned_38 (Nat.le_of_ble_eq_true rfl) (loc' := [some (.inr 63), some (.inl x1), some (.inl 0), none]) rfl rfl ?_
        refine q_iconst hC dX8_planned_39 rfl ?_
        refine q_istore_n hC dX8_planned_40 (Nat.le_of_ble_eq_true rfl) (loc' := [some (.inr 63), some (.inl x1), some (.inl 0), some (.inl 0)]) rfl rfl ?_
        exact h
      · have h := h.2 c
        refine q_iload_n hC dX8_planned_21 rfl rfl ?_
        refine q_if_ne hC dX8_planned_22 (t := 32) (by decide) rfl hx1 (fun c => ?_) (fun c => ?_)
        · have h := h.1 c
          refine q_aload_n hC dX8_planned_32 rfl rfl ?_
          refine q_geti hC fl_X8_122 ly_63 rfl (z := 23) rfl dX8_planned_33 rfl ?_
          exact q_iret hC hQ dX8_planned_36 (hM106 63 23) h
        · have h := h.2 c
          refine q_aload_n hC dX8_planned_25 rfl rfl ?_
          refine q_geti hC fl_X8_119 ly_63 rfl (z := 22) rfl dX8_planned_26 rfl ?_
          refine q_goto hC dX8_planned_29 (q := 36) (by decide) ?_
          exact q_iret hC hQ dX8_planned_36 (hM106 63 22) h
    · exact absurd c (by decide)
  · have ee := ee.symm
    subst ee
    have h := h.2 c
    refine q_if_ne hC dX8_planned_7 (t := 12) (by decide) rfl (by decide) (fun c => ?_) (fun c => ?_)
    · exact absurd c (by decide)
    · refine q_iconst hC dX8_planned_10 rfl ?_
      exact q_iret hC hQ dX8_planned_11 (by decide) h
set_option maxRecDepth 20000 in
theorem s_X8_planned_41 {g : qG} {C : qX} {d : Nat} {M : qM} {K : Int → qM → Prop} (hC : qCk g C cX8_planned RX8 4 (d + 3)) (hQ : qRt g C (some .int) (qI K)) {x1 : Int} {x2 : Int} {x3 : Int} (hx1 : qR x1) (hx2 : qR x2) (hx3 : qR x3) (h : ((4 ≤ x3 → (K x2 M)) ∧ (x3 < 4 → (0 ≤ x3 ∧ x3 < 4) ∧ (((M 81 x3) = 15 → (qW g C 41 [some (.inr 63), some (.inl x1), some (.inl (x2 + 0)), some (.inl (x3 + 1))] [] M)) ∧ ((M 81 x3) ≠ 15 → (0 ≤ (M 81 x3)) ∧ (qR ((M 81 x3) / 3)) ∧ (qR (x1 - 2)) ∧ ((((M 81 x3) / 3) ≠ (x1 - 2) → (qW g C 41 [some (.inr 63), some (.inl x1), some (.inl (x2 + 0)), some (.inl (x3 + 1))] [] M)) ∧ (((M 81 x3) / 3) = (x1 - 2) → (qW g C 41 [some (.inr 63), some (.inl x1), some (.inl (x2 + (M 82 x3))), some (.inl (x3 + 1))] [] M)))))))) : qW g C 41 [some (.inr 63), some (.inl x1), some (.inl x2), some (.inl x3)] [] M := by
  refine qW.rm (fun hM => ?_)
  refine q_iload_n hC dX8_planned_41 rfl rfl ?_
  refine q_iconst hC dX8_planned_42 rfl ?_
  refine q_icmp_ge hC dX8_planned_43 (t := 90) (by decide) rfl hx3 (by decide) (fun c => ?_) (fun c => ?_)
  · have h := h.1 c
    refine q_iload_n hC dX8_planned_90 rfl rfl ?_
    exact q_iret hC hQ dX8_planned_91 hx2 h
  · have h := h.2 c
    refine q_iload_n hC dX8_planned_46 rfl rfl ?_
    refine q_aload_n hC dX8_planned_47 rfl rfl ?_
    refine q_getr hC fl_X8_65 ly_63 rfl dX8_planned_48 rfl ?_
    refine q_iload_n hC dX8_planned_51 rfl rfl ?_
    obtain ⟨r101, h⟩ := h
    refine q_iald hC ly_81 dX8_planned_52 rfl r101 ?_
    refine q_bipush hC dX8_planned_53 (by decide) rfl ?_
    refine q_icmp_eq hC dX8_planned_55 (t := 81) (by decide) rfl (hM 81 x3) (by decide) (fun c => ?_) (fun c => ?_)
    · have h := h.1 c
      refine q_iconst hC dX8_planned_81 rfl ?_
      refine q_iadd hC dX8_planned_82 rfl ?_
      refine q_istore_n hC dX8_planned_83 (Nat.le_of_ble_eq_true rfl) (loc' := [some (.inr 63), some (.inl x1), some (.inl (x2 + 0)), some (.inl x3)]) rfl rfl ?_
      refine q_iinc hC dX8_planned_84 rfl (loc' := [some (.inr 63), some (.inl x1), some (.inl (x2 + 0)), some (.inl (x3 + 1))]) rfl rfl ?_
      refine q_goto hC dX8_planned_87 (q := 41) (by decide) ?_
      exact h
    · have h := h.2 c
      refine q_aload_n hC dX8_planned_58 rfl rfl ?_
      refine q_getr hC fl_X8_65 ly_63 rfl dX8_planned_59 rfl ?_
      refine q_iload_n hC dX8_planned_62 rfl rfl ?_
      refine q_iald hC ly_81 dX8_planned_63 rfl r101 ?_
      refine q_iconst hC dX8_planned_64 rfl ?_
      obtain ⟨r102, h⟩ := h
      refine q_idiv hC dX8_planned_65 (hM 81 x3) (by decide) r102 (by decide) rfl ?_
      refine q_iload_n hC dX8_planned_66 rfl rfl ?_
      refine q_iconst hC dX8_planned_67 rfl ?_
      refine q_isub hC dX8_planned_68 rfl ?_
      obtain ⟨r103, h⟩ := h
      obtain ⟨r104, h⟩ := h
      refine q_icmp_ne hC dX8_planned_69 (t := 81) (by decide) rfl r103 r104 (fun c => ?_) (fun c => ?_)
      · have h := h.1 c
        refine q_iconst hC dX8_planned_81 rfl ?_
        refine q_iadd hC dX8_planned_82 rfl ?_
        refine q_istore_n hC dX8_planned_83 (Nat.le_of_ble_eq_true rfl) (loc' := [some (.inr 63), some (.inl x1), some (.inl (x2 + 0)), some (.inl x3)]) rfl rfl ?_
        refine q_iinc hC dX8_planned_84 rfl (loc' := [some (.inr 63), some (.inl x1), some (.inl (x2 + 0)), some (.inl (x3 + 1))]) rfl rfl ?_
        refine q_goto hC dX8_planned_87 (q := 41) (by decide) ?_
        exact h
      · have h := h.2 c
        refine q_aload_n hC dX8_planned_72 rfl rfl ?_
        refine q_getr hC fl_X8_68 ly_63 rfl dX8_planned_73 rfl ?_
        refine q_iload_n hC dX8_planned_76 rfl rfl ?_
        refine q_iald hC ly_82 dX8_planned_77 rfl r101 ?_
        refine q_goto hC dX8_planned_78 (q := 82) (by decide) ?_
        refine q_iadd hC dX8_planned_82 rfl ?_
        refine q_istore_n hC dX8_planned_83 (Nat.le_of_ble_eq_true rfl) (loc' := [some (.inr 63), some (.inl x1), some (.inl (x2 + (M 82 x3))), some (.inl x3)]) rfl rfl ?_
        refine q_iinc hC dX8_planned_84 rfl (loc' := [some (.inr 63), some (.inl x1), some (.inl (x2 + (M 82 x3))), some (.inl (x3 + 1))]) rfl rfl ?_
        refine q_goto hC dX8_planned_87 (q := 41) (by decide) ?_
        exact h
set_option maxRecDepth 20000 in
theorem e_X8_counting {g : qG} {d : Nat} {M : qM} {K : Int → qM → Prop}   (h : ∀ C : qX, qCk g C cX8_counting RX8 3 (d + 3) → qRt g C (some .int) (qI K) → qW g C 4 [some (.inr 63), some (.inl 0), some (.inl 0)] [] M) : qOk g (d + 3) j_X8_counting [.inr 63] M (qI K) := by
  refine qOk.of (by decide) (Nat.le_of_ble_eq_true rfl) (fun C hC hQ => ?_)
  have hC : qCk g C cX8_counting RX8 3 (d + 3) := hC
  have hQ : qRt g C (some .int) (qI K) := hQ
  have h := h C hC hQ
  show qW g C 0 [some (.inr 63), none, none] [] M
  refine qW.rm (fun hM => ?_)
  refine q_iconst hC dX8_counting_0 rfl ?_
  refine q_istore_n hC dX8_counting_1 (Nat.le_of_ble_eq_true rfl) (loc' := [some (.inr 63), some (.inl 0), none]) rfl rfl ?_
  refine q_iconst hC dX8_counting_2 rfl ?_
  refine q_istore_n hC dX8_counting_3 (Nat.le_of_ble_eq_true rfl) (loc' := [some (.inr 63), some (.inl 0), some (.inl 0)]) rfl rfl ?_
  exact h
set_option maxRecDepth 20000 in
theorem s_X8_counting_4 {g : qG} {C : qX} {d : Nat} {M : qM} {K : Int → qM → Prop} (hC : qCk g C cX8_counting RX8 3 (d + 3)) (hQ : qRt g C (some .int) (qI K)) {x1 : Int} {x2 : Int} (hx1 : qR x1) (hx2 : qR x2) (h : (((M 64 3) ≤ x2 → (K x1 M)) ∧ (x2 < (M 64 3) → (qOk g (d + 2) j_X8_of [.inr 63, .inl x2, .inl 5] M (qI fun x103 M101 => qW g C 4 [some (.inr 63), some (.inl (x1 + x103)), some (.inl (x2 + 1))] [] M101))))) : qW g C 4 [some (.inr 63), some (.inl x1), some (.inl x2)] [] M := by
  refine qW.rm (fun hM => ?_)
  refine q_iload_n hC dX8_counting_4 rfl rfl ?_
  refine q_aload_n hC dX8_counting_5 rfl rfl ?_
  refine q_getr hC fl_X8_7 ly_63 rfl dX8_counting_6 rfl ?_
  refine q_iconst hC dX8_counting_9 rfl ?_
  refine q_iald hC ly_64 dX8_counting_10 rfl (by decide) ?_
  refine q_icmp_ge hC dX8_counting_11 (t := 29) (by decide) rfl hx2 (hM 64 3) (fun c => ?_) (fun c => ?_)
  · have h := h.1 c
    refine q_iload_n hC dX8_counting_29 rfl rfl ?_
    exact q_iret hC hQ dX8_counting_30 hx1 h
  · have h := h.2 c
    refine q_iload_n hC dX8_counting_14 rfl rfl ?_
    refine q_aload_n hC dX8_counting_15 rfl rfl ?_
    refine q_iload_n hC dX8_counting_16 rfl rfl ?_
    refine q_iconst hC dX8_counting_17 rfl ?_
    refine q_callVi hC (As := [.inl x2, .inl 5]) md_X8_of mv_X8_of ml_X8_137 ly_63 rfl dX8_counting_18 rfl (Nat.le_of_ble_eq_true rfl) rfl rfl h (fun x103 M101 hM102 r104 h => ?_)
    refine q_iadd hC dX8_counting_21 rfl ?_
    refine q_istore_n hC dX8_counting_22 (Nat.le_of_ble_eq_true rfl) (loc' := [some (.inr 63), some (.inl (x1 + x103)), some (.inl x2)]) rfl rfl ?_
    refine q_iinc hC dX8_counting_23 rfl (loc' := [some (.inr 63), some (.inl (x1 + x103)), some (.inl (x2 + 1))]) rfl rfl ?_
    refine q_goto hC dX8_counting_26 (q := 4) (by decide) ?_
    exact h
set_option maxRecDepth 20000 in
theorem e_X8_holding {g : qG} {d : Nat} {M : qM} {K : Int → qM → Prop}   (h : ∀ C : qX, qCk g C cX8_holding RX8 3 (d + 4) → qRt g C (some .int) (qI K) → qW g C 4 [some (.inr 63), some (.inl 0), some (.inl 0)] [] M) : qOk g (d + 4) j_X8_holding [.inr 63] M (qI K) := by
  refine qOk.of (by decide) (Nat.le_of_ble_eq_true rfl) (fun C hC hQ => ?_)
  have hC : qCk g C cX8_holding RX8 3 (d + 4) := hC
  have hQ : qRt g C (some .int) (qI K) := hQ
  have h := h C hC hQ
  show qW g C 0 [some (.inr 63), none, none] [] M
  refine qW.rm (fun hM => ?_)
  refine q_iconst hC dX8_holding_0 rfl ?_
  refine q_istore_n hC dX8_holding_1 (Nat.le_of_ble_eq_true rfl) (loc' := [some (.inr 63), some (.inl 0), none]) rfl rfl ?_
  refine q_iconst hC dX8_holding_2 rfl ?_
  refine q_istore_n hC dX8_holding_3 (Nat.le_of_ble_eq_true rfl) (loc' := [some (.inr 63), some (.inl 0), some (.inl 0)]) rfl rfl ?_
  exact h
set_option maxRecDepth 20000 in
theorem s_X8_holding_4 {g : qG} {C : qX} {d : Nat} {M : qM} {K : Int → qM → Prop} (hC : qCk g C cX8_holding RX8 3 (d + 4)) (hQ : qRt g C (some .int) (qI K)) {x1 : Int} {x2 : Int} (hx1 : qR x1) (hx2 : qR x2) (h : (((M 64 0) ≤ x2 → (K x1 M)) ∧ (x2 < (M 64 0) → (qOk g (d + 3) j_X8_badges [.inr 63, .inl x2, .inl 999] M (qI fun x103 M101 => qW g C 4 [some (.inr 63), some (.inl (x1 + x103)), some (.inl (x2 + 1))] [] M101))))) : qW g C 4 [some (.inr 63), some (.inl x1), some (.inl x2)] [] M := by
  refine qW.rm (fun hM => ?_)
  refine q_iload_n hC dX8_holding_4 rfl rfl ?_
  refine q_aload_n hC dX8_holding_5 rfl rfl ?_
  refine q_getr hC fl_X8_7 ly_63 rfl dX8_holding_6 rfl ?_
  refine q_iconst hC dX8_holding_9 rfl ?_
  refine q_iald hC ly_64 dX8_holding_10 rfl (by decide) ?_
  refine q_icmp_ge hC dX8_holding_11 (t := 31) (by decide) rfl hx2 (hM 64 0) (fun c => ?_) (fun c => ?_)
  · have h := h.1 c
    refine q_iload_n hC dX8_holding_31 rfl rfl ?_
    exact q_iret hC hQ dX8_holding_32 hx1 h
  · have h := h.2 c
    refine q_iload_n hC dX8_holding_14 rfl rfl ?_
    refine q_aload_n hC dX8_holding_15 rfl rfl ?_
    refine q_iload_n hC dX8_holding_16 rfl rfl ?_
    refine q_sipush hC dX8_holding_17 (by decide) rfl ?_
    refine q_callVi hC (As := [.inl x2, .inl 999]) md_X8_badges mv_X8_badges ml_X8_140 ly_63 rfl dX8_holding_20 rfl (Nat.le_of_ble_eq_true rfl) rfl rfl h (fun x103 M101 hM102 r104 h => ?_)
    refine q_iadd hC dX8_holding_23 rfl ?_
    refine q_istore_n hC dX8_holding_24 (Nat.le_of_ble_eq_true rfl) (loc' := [some (.inr 63), some (.inl (x1 + x103)), some (.inl x2)]) rfl rfl ?_
    refine q_iinc hC dX8_holding_25 rfl (loc' := [some (.inr 63), some (.inl (x1 + x103)), some (.inl (x2 + 1))]) rfl rfl ?_
    refine q_goto hC dX8_holding_28 (q := 4) (by decide) ?_
    exact h
set_option maxRecDepth 20000 in
theorem e_X8_many {g : qG} {d : Nat} {M : qM} {K : Int → qM → Prop} {x1 : Int} (hx1 : qR x1) (h : (((0 ≤ x1 ∧ x1 ≤ 11) → ((6 ≤ x1 → ((x1 ≠ 6 → ((x1 ≠ 7 → (qOk g (d + 4) j_X8_sizeOf [.inr 63, .inl (x1 - 8)] M (qI fun x107 M105 => K x107 M105))) ∧ (x1 = 7 → (qOk g (d + 4) j_X8_holding [.inr 63] M (qI fun x111 M109 => K x111 M109))))) ∧ (x1 = 6 → (qOk g (d + 4) j_X8_counting [.inr 63] M (qI fun x115 M113 => K x115 M113))))) ∧ (x1 < 6 → (0 ≤ x1 ∧ x1 < 6) ∧ (K (M 64 x1) M)))) ∧ ((x1 < 0 ∨ 11 < x1) → (K (-1) M)))) : qOk g (d + 5) j_X8_many [.inr 63, .inl x1] M (qI K) := by
  refine qOk.of (by decide) (Nat.le_of_ble_eq_true rfl) (fun C hC hQ => ?_)
  have hC : qCk g C cX8_many RX8 2 (d + 5) := hC
  have hQ : qRt g C (some .int) (qI K) := hQ
  show qW g C 0 [some (.inr 63), some (.inl x1)] [] M
  refine qW.rm (fun hM => ?_)
  refine q_iload_n hC dX8_many_0 rfl rfl ?_
  refine q_iconst hC dX8_many_1 rfl ?_
  refine q_bipush hC dX8_many_2 (by decide) rfl ?_
  refine q_callSi hC (As := [.inl x1, .inl 0, .inl 11]) md_X8_in ms_X8_in ml_X8_74 dX8_many_4 rfl (Nat.le_of_ble_eq_true rfl) rfl rfl (b_X8_in hx1 (by decide) (by decide)) (fun x101 M102 hM103 r104 hk => ?_)
  obtain ⟨ee, hk⟩ := hk
  have ee := ee.symm
  subst ee
  rcases hk with ⟨ee, c⟩ | ⟨ee, c⟩
  · have ee := ee.symm
    subst ee
    have h := h.1 c
    refine q_if_ne hC dX8_many_7 (t := 12) (by decide) rfl (by decide) (fun c => ?_) (fun c => ?_)
    · refine q_iload_n hC dX8_many_12 rfl rfl ?_
      refine q_bipush hC dX8_many_13 (by decide) rfl ?_
      refine q_icmp_ge hC dX8_many_15 (t := 27) (by decide) rfl hx1 (by decide) (fun c => ?_) (fun c => ?_)
      · have h := h.1 c
        refine q_iload_n hC dX8_many_27 rfl rfl ?_
        refine q_bipush hC dX8_many_28 (by decide) rfl ?_
        refine q_icmp_ne hC dX8_many_30 (t := 40) (by decide) rfl hx1 (by decide) (fun c => ?_) (fun c => ?_)
        · have h := h.1 c
          refine q_iload_n hC dX8_many_40 rfl rfl ?_
          refine q_bipush hC dX8_many_41 (by decide) rfl ?_
          refine q_icmp_ne hC dX8_many_43 (t := 53) (by decide) rfl hx1 (by decide) (fun c => ?_) (fun c => ?_)
          · have h := h.1 c
            refine q_aload_n hC dX8_many_53 rfl rfl ?_
            refine q_iload_n hC dX8_many_54 rfl rfl ?_
            refine q_bipush hC dX8_many_55 (by decide) rfl ?_
            refine q_isub hC dX8_many_57 rfl ?_
            refine q_callVi hC (As := [.inl (x1 - 8)]) md_X8_sizeOf mv_X8_sizeOf ml_X8_116 ly_63 rfl dX8_many_58 rfl (Nat.le_of_ble_eq_true rfl) rfl rfl h (fun x107 M105 hM106 r108 h => ?_)
            exact q_iret hC hQ dX8_many_61 r108 h
          · have h := h.2 c
            refine q_aload_n hC dX8_many_46 rfl rfl ?_
            refine q_callVi hC (As := []) md_X8_holding mv_X8_holding ml_X8_146 ly_63 rfl dX8_many_47 rfl (Nat.le_of_ble_eq_true rfl) rfl rfl h (fun x111 M109 hM110 r112 h => ?_)
            refine q_goto hC dX8_many_50 (q := 61) (by decide) ?_
            exact q_iret hC hQ dX8_many_61 r112 h
        · have h := h.2 c
          refine q_aload_n hC dX8_many_33 rfl rfl ?_
          refine q_callVi hC (As := []) md_X8_counting mv_X8_counting ml_X8_142 ly_63 rfl dX8_many_34 rfl (Nat.le_of_ble_eq_true rfl) rfl rfl h (fun x115 M113 hM114 r116 h => ?_)
          refine q_goto hC dX8_many_37 (q := 61) (by decide) ?_
          exact q_iret hC hQ dX8_many_61 r116 h
      · have h := h.2 c
        refine q_aload_n hC dX8_many_18 rfl rfl ?_
        refine q_getr hC fl_X8_7 ly_63 rfl dX8_many_19 rfl ?_
        refine q_iload_n hC dX8_many_22 rfl rfl ?_
        obtain ⟨r117, h⟩ := h
        refine q_iald hC ly_64 dX8_many_23 rfl r117 ?_
        refine q_goto hC dX8_many_24 (q := 61) (by decide) ?_
        exact q_iret hC hQ dX8_many_61 (hM 64 x1) h
    · exact absurd c (by decide)
  · have ee := ee.symm
    subst ee
    have h := h.2 c
    refine q_if_ne hC dX8_many_7 (t := 12) (by decide) rfl (by decide) (fun c => ?_) (fun c => ?_)
    · exact absurd c (by decide)
    · refine q_iconst hC dX8_many_10 rfl ?_
      exact q_iret hC hQ dX8_many_11 (by decide) h
set_option maxRecDepth 20000 in
theorem e_X8_moveAll {g : qG} {d : Nat} {M : qM} {K : qM → Prop} {x1 : Int} (hx1 : qR x1) (h : qOk g d j_X8_move [.inr 63, .inr 64, .inl 6, .inl x1] (qU M 63 24 0) (qN fun M102 => qOk g d j_X8_move [.inr 63, .inr 65, .inl 10, .inl x1] M102 (qN fun M104 => qOk g d j_X8_move [.inr 63, .inr 66, .inl 10, .inl x1] M104 (qN fun M106 => qOk g d j_X8_move [.inr 63, .inr 67, .inl 20, .inl x1] M106 (qN fun M108 => qOk g d j_X8_move [.inr 63, .inr 68, .inl 20, .inl x1] M108 (qN fun M110 => qOk g d j_X8_move [.inr 63, .inr 69, .inl 5, .inl x1] M110 (qN fun M112 => qOk g d j_X8_move [.inr 63, .inr 70, .inl 10, .inl x1] M112 (qN fun M114 => qOk g d j_X8_move [.inr 63, .inr 71, .inl 10, .inl x1] M114 (qN fun M116 => qOk g d j_X8_move [.inr 63, .inr 72, .inl 40, .inl x1] M116 (qN fun M118 => qOk g d j_X8_move [.inr 63, .inr 73, .inl 400, .inl x1] M118 (qN fun M120 => qOk g d j_X8_move [.inr 63, .inr 74, .inl 3, .inl x1] M120 (qN fun M122 => qOk g d j_X8_move [.inr 63, .inr 75, .inl 3, .inl x1] M122 (qN fun M124 => qOk g d j_X8_move [.inr 63, .inr 76, .inl 60, .inl x1] M124 (qN fun M126 => K M126)))))))))))))) : qOk g (d + 1) j_X8_moveAll [.inr 63, .inl x1] M (qN K) := by
  refine qOk.of (by decide) (Nat.le_of_ble_eq_true rfl) (fun C hC hQ => ?_)
  have hC : qCk g C cX8_moveAll RX8 2 (d + 1) := hC
  have hQ : qRt g C none (qN K) := hQ
  show qW g C 0 [some (.inr 63), some (.inl x1)] [] M
  refine qW.rm (fun hM => ?_)
  refine q_aload_n hC dX8_moveAll_0 rfl rfl ?_
  refine q_iconst hC dX8_moveAll_1 rfl ?_
  have hM101 : qIn (qU M 63 24 0) := (qU_in hM (by decide))
  refine q_puti hC fp_X8_149 ly_63 rfl (z := 24) rfl dX8_moveAll_2 rfl (by decide) ?_
  refine q_aload_n hC dX8_moveAll_5 rfl rfl ?_
  refine q_aload_n hC dX8_moveAll_6 rfl rfl ?_
  refine q_getr hC fl_X8_7 ly_63 rfl dX8_moveAll_7 rfl ?_
  refine q_bipush hC dX8_moveAll_10 (by decide) rfl ?_
  refine q_iload_n hC dX8_moveAll_12 rfl rfl ?_
  refine q_callVv hC (As := [.inr 64, .inl 6, .inl x1]) md_X8_move mv_X8_move ml_X8_152 ly_63 rfl dX8_moveAll_13 rfl (Nat.le_of_ble_eq_true rfl) rfl rfl h (fun M102 hM103 h => ?_)
  refine q_aload_n hC dX8_moveAll_16 rfl rfl ?_
  refine q_aload_n hC dX8_moveAll_17 rfl rfl ?_
  refine q_getr hC fl_X8_13 ly_63 rfl dX8_moveAll_18 rfl ?_
  refine q_bipush hC dX8_moveAll_21 (by decide) rfl ?_
  refine q_iload_n hC dX8_moveAll_23 rfl rfl ?_
  refine q_callVv hC (As := [.inr 65, .inl 10, .inl x1]) md_X8_move mv_X8_move ml_X8_152 ly_63 rfl dX8_moveAll_24 rfl (Nat.le_of_ble_eq_true rfl) rfl rfl h (fun M104 hM105 h => ?_)
  refine q_aload_n hC dX8_moveAll_27 rfl rfl ?_
  refine q_aload_n hC dX8_moveAll_28 rfl rfl ?_
  refine q_getr hC fl_X8_16 ly_63 rfl dX8_moveAll_29 rfl ?_
  refine q_bipush hC dX8_moveAll_32 (by decide) rfl ?_
  refine q_iload_n hC dX8_moveAll_34 rfl rfl ?_
  refine q_callVv hC (As := [.inr 66, .inl 10, .inl x1]) md_X8_move mv_X8_move ml_X8_152 ly_63 rfl dX8_moveAll_35 rfl (Nat.le_of_ble_eq_true rfl) rfl rfl h (fun M106 hM107 h => ?_)
  refine q_aload_n hC dX8_moveAll_38 rfl rfl ?_
  refine q_aload_n hC dX8_moveAll_39 rfl rfl ?_
  refine q_getr hC fl_X8_19 ly_63 rfl dX8_moveAll_40 rfl ?_
  refine q_bipush hC dX8_moveAll_43 (by decide) rfl ?_
  refine q_iload_n hC dX8_moveAll_45 rfl rfl ?_
  refine q_callVv hC (As := [.inr 67, .inl 20, .inl x1]) md_X8_move mv_X8_move ml_X8_152 ly_63 rfl dX8_moveAll_46 rfl (Nat.le_of_ble_eq_true rfl) rfl rfl h (fun M108 hM109 h => ?_)
  refine q_aload_n hC dX8_moveAll_49 rfl rfl ?_
  refine q_aload_n hC dX8_moveAll_50 rfl rfl ?_
  refine q_getr hC fl_X8_22 ly_63 rfl dX8_moveAll_51 rfl ?_
  refine q_bipush hC dX8_moveAll_54 (by decide) rfl ?_
  refine q_iload_n hC dX8_moveAll_56 rfl rfl ?_
  refine q_callVv hC (As := [.inr 68, .inl 20, .inl x1]) md_X8_move mv_X8_move ml_X8_152 ly_63 rfl dX8_moveAll_57 rfl (Nat.le_of_ble_eq_true rfl) rfl rfl h (fun M110 hM111 h => ?_)
  refine q_aload_n hC dX8_moveAll_60 rfl rfl ?_
  refine q_aload_n hC dX8_moveAll_61 rfl rfl ?_
  refine q_getr hC fl_X8_25 ly_63 rfl dX8_moveAll_62 rfl ?_
  refine q_iconst hC dX8_moveAll_65 rfl ?_
  refine q_iload_n hC dX8_moveAll_66 rfl rfl ?_
  refine q_callVv hC (As := [.inr 69, .inl 5, .inl x1]) md_X8_move mv_X8_move ml_X8_152 ly_63 rfl dX8_moveAll_67 rfl (Nat.le_of_ble_eq_true rfl) rfl rfl h (fun M112 hM113 h => ?_)
  refine q_aload_n hC dX8_moveAll_70 rfl rfl ?_
  refine q_aload_n hC dX8_moveAll_71 rfl rfl ?_
  refine q_getr hC fl_X8_28 ly_63 rfl dX8_moveAll_72 rfl ?_
  refine q_bipush hC dX8_moveAll_75 (by decide) rfl ?_
  refine q_iload_n hC dX8_moveAll_77 rfl rfl ?_
  refine q_callVv hC (As := [.inr 70, .inl 10, .inl x1]) md_X8_move mv_X8_move ml_X8_152 ly_63 rfl dX8_moveAll_78 rfl (Nat.le_of_ble_eq_true rfl) rfl rfl h (fun M114 hM115 h => ?_)
  refine q_aload_n hC dX8_moveAll_81 rfl rfl ?_
  refine q_aload_n hC dX8_moveAll_82 rfl rfl ?_
  refine q_getr hC fl_X8_31 ly_63 rfl dX8_moveAll_83 rfl ?_
  refine q_bipush hC dX8_moveAll_86 (by decide) rfl ?_
  refine q_iload_n hC dX8_moveAll_88 rfl rfl ?_
  refine q_callVv hC (As := [.inr 71, .inl 10, .inl x1]) md_X8_move mv_X8_move ml_X8_152 ly_63 rfl dX8_moveAll_89 rfl (Nat.le_of_ble_eq_true rfl) rfl rfl h (fun M116 hM117 h => ?_)
  refine q_aload_n hC dX8_moveAll_92 rfl rfl ?_
  refine q_aload_n hC dX8_moveAll_93 rfl rfl ?_
  refine q_getr hC fl_X8_34 ly_63 rfl dX8_moveAll_94 rfl ?_
  refine q_bipush hC dX8_moveAll_97 (by decide) rfl ?_
  refine q_iload_n hC dX8_moveAll_99 rfl rfl ?_
  refine q_callVv hC (As := [.inr 72, .inl 40, .inl x1]) md_X8_move mv_X8_move ml_X8_152 ly_63 rfl dX8_moveAll_100 rfl (Nat.le_of_ble_eq_true rfl) rfl rfl h (fun M118 hM119 h => ?_)
  refine q_aload_n hC dX8_moveAll_103 rfl rfl ?_
  refine q_aload_n hC dX8_moveAll_104 rfl rfl ?_
  refine q_getr hC fl_X8_37 ly_63 rfl dX8_moveAll_105 rfl ?_
  refine q_sipush hC dX8_moveAll_108 (by decide) rfl ?_
  refine q_iload_n hC dX8_moveAll_111 rfl rfl ?_
  refine q_callVv hC (As := [.inr 73, .inl 400, .inl x1]) md_X8_move mv_X8_move ml_X8_152 ly_63 rfl dX8_moveAll_112 rfl (Nat.le_of_ble_eq_true rfl) rfl rfl h (fun M120 hM121 h => ?_)
  refine q_aload_n hC dX8_moveAll_115 rfl rfl ?_
  refine q_aload_n hC dX8_moveAll_116 rfl rfl ?_
  refine q_getr hC fl_X8_40 ly_63 rfl dX8_moveAll_117 rfl ?_
  refine q_iconst hC dX8_moveAll_120 rfl ?_
  refine q_iload_n hC dX8_moveAll_121 rfl rfl ?_
  refine q_callVv hC (As := [.inr 74, .inl 3, .inl x1]) md_X8_move mv_X8_move ml_X8_152 ly_63 rfl dX8_moveAll_122 rfl (Nat.le_of_ble_eq_true rfl) rfl rfl h (fun M122 hM123 h => ?_)
  refine q_aload_n hC dX8_moveAll_125 rfl rfl ?_
  refine q_aload_n hC dX8_moveAll_126 rfl rfl ?_
  refine q_getr hC fl_X8_43 ly_63 rfl dX8_moveAll_127 rfl ?_
  refine q_iconst hC dX8_moveAll_130 rfl ?_
  refine q_iload_n hC dX8_moveAll_131 rfl rfl ?_
  refine q_callVv hC (As := [.inr 75, .inl 3, .inl x1]) md_X8_move mv_X8_move ml_X8_152 ly_63 rfl dX8_moveAll_132 rfl (Nat.le_of_ble_eq_true rfl) rfl rfl h (fun M124 hM125 h => ?_)
  refine q_aload_n hC dX8_moveAll_135 rfl rfl ?_
  refine q_aload_n hC dX8_moveAll_136 rfl rfl ?_
  refine q_getr hC fl_X8_46 ly_63 rfl dX8_moveAll_137 rfl ?_
  refine q_bipush hC dX8_moveAll_140 (by decide) rfl ?_
  refine q_iload_n hC dX8_moveAll_142 rfl rfl ?_
  refine q_callVv hC (As := [.inr 76, .inl 60, .inl x1]) md_X8_move mv_X8_move ml_X8_152 ly_63 rfl dX8_moveAll_143 rfl (Nat.le_of_ble_eq_true rfl) rfl rfl h (fun M126 hM127 h => ?_)
  exact q_vret hC hQ dX8_moveAll_146 h
set_option maxRecDepth 20000 in
theorem e_X8_keep {g : qG} {d : Nat} {M : qM} {K : Int → qM → Prop}   (h : qOk g (d + 1) j_X8_moveAll [.inr 63, .inl 1] M (qN fun M101 => K 1 (qU M101 63 14 1))) : qOk g (d + 2) j_X8_keep [.inr 63] M (qI K) := by
  refine qOk.of (by decide) (Nat.le_of_ble_eq_true rfl) (fun C hC hQ => ?_)
  have hC : qCk g C cX8_keep RX8 1 (d + 2) := hC
  have hQ : qRt g C (some .int) (qI K) := hQ
  show qW g C 0 [some (.inr 63)] [] M
  refine qW.rm (fun hM => ?_)
  refine q_aload_n hC dX8_keep_0 rfl rfl ?_
  refine q_iconst hC dX8_keep_1 rfl ?_
  refine q_callVv hC (As := [.inl 1]) md_X8_moveAll mv_X8_moveAll ml_X8_156 ly_63 rfl dX8_keep_2 rfl (Nat.le_of_ble_eq_true rfl) rfl rfl h (fun M101 hM102 h => ?_)
  refine q_aload_n hC dX8_keep_5 rfl rfl ?_
  refine q_iconst hC dX8_keep_6 rfl ?_
  have hM103 : qIn (qU M101 63 14 1) := (qU_in hM102 (q_rz (by decide)))
  refine q_putz hC fp_X8_160 ly_63 rfl (z := 14) rfl dX8_keep_7 rfl (by decide) ?_
  refine q_iconst hC dX8_keep_10 rfl ?_
  exact q_iret hC hQ dX8_keep_11 (by decide) h
set_option maxRecDepth 20000 in
theorem e_X8_back {g : qG} {d : Nat} {M : qM} {K : Int → qM → Prop}   (h : (((M 63 14) ≠ 0 → (qOk g (d + 1) j_X8_moveAll [.inr 63, .inl 0] M (qN fun M101 => K 1 M101))) ∧ ((M 63 14) = 0 → (K (-3) M)))) : qOk g (d + 2) j_X8_back [.inr 63] M (qI K) := by
  refine qOk.of (by decide) (Nat.le_of_ble_eq_true rfl) (fun C hC hQ => ?_)
  have hC : qCk g C cX8_back RX8 1 (d + 2) := hC
  have hQ : qRt g C (some .int) (qI K) := hQ
  show qW g C 0 [some (.inr 63)] [] M
  refine qW.rm (fun hM => ?_)
  refine q_aload_n hC dX8_back_0 rfl rfl ?_
  refine q_geti hC fl_X8_160 ly_63 rfl (z := 14) rfl dX8_back_1 rfl ?_
  refine q_if_ne hC dX8_back_4 (t := 10) (by decide) rfl (hM 63 14) (fun c => ?_) (fun c => ?_)
  · have h := h.1 c
    refine q_aload_n hC dX8_back_10 rfl rfl ?_
    refine q_iconst hC dX8_back_11 rfl ?_
    refine q_callVv hC (As := [.inl 0]) md_X8_moveAll mv_X8_moveAll ml_X8_156 ly_63 rfl dX8_back_12 rfl (Nat.le_of_ble_eq_true rfl) rfl rfl h (fun M101 hM102 h => ?_)
    refine q_iconst hC dX8_back_15 rfl ?_
    exact q_iret hC hQ dX8_back_16 (by decide) h
  · have h := h.2 c
    refine q_bipush hC dX8_back_7 (by decide) rfl ?_
    exact q_iret hC hQ dX8_back_9 (by decide) h
set_option maxRecDepth 20000 in
theorem e_X8_fits {g : qG} {d : Nat} {M : qM} {K : Int → qM → Prop} {x1 : Int} (hx1 : qR x1) (h : ∀ C : qX, qCk g C cX8_fits RX8 11 d → qRt g C (some .boolean) (qI K) → (0 ≤ x1 ∧ x1 < 4) ∧ (((M 80 x1) ≠ 15 → (0 ≤ (M 80 x1)) ∧ (0 ≤ (M 80 x1)) ∧ (((M 82 x1) ≤ 0 → (qW g C 76 [some (.inr 63), some (.inl x1), some (.inl (M 80 x1)), some (.inl ((M 80 x1) % 3)), some (.inl ((M 80 x1) / 3)), some (.inl 0), some (.inl (M 82 x1)), some (.inl 0), none, none, none] [] M)) ∧ (0 < (M 82 x1) → (qR ((M 80 x1) % 3)) ∧ (((M 64 5) ≤ ((M 80 x1) % 3) → (qW g C 76 [some (.inr 63), some (.inl x1), some (.inl (M 80 x1)), some (.inl ((M 80 x1) % 3)), some (.inl ((M 80 x1) / 3)), some (.inl 0), some (.inl (M 82 x1)), some (.inl 0), none, none, none] [] M)) ∧ (((M 80 x1) % 3) < (M 64 5) → (0 ≤ ((M 80 x1) % 3) ∧ ((M 80 x1) % 3) < 3) ∧ (((M 74 ((M 80 x1) % 3)) < (M 82 x1) → (qW g C 76 [some (.inr 63), some (.inl x1), some (.inl (M 80 x1)), some (.inl ((M 80 x1) % 3)), some (.inl ((M 80 x1) / 3)), some (.inl 0), some (.inl (M 82 x1)), some (.inl 0), none, none, none] [] M)) ∧ ((M 82 x1) ≤ (M 74 ((M 80 x1) % 3)) → (qW g C 76 [some (.inr 63), some (.inl x1), some (.inl (M 80 x1)), some (.inl ((M 80 x1) % 3)), some (.inl ((M 80 x1) / 3)), some (.inl 1), some (.inl (M 82 x1)), some (.inl 0), none, none, none] [] M)))))))) ∧ ((M 80 x1) = 15 → (K 1 M)))) : qOk g d j_X8_fits [.inr 63, .inl x1] M (qI K) := by
  refine qOk.of (by decide) (Nat.le_of_ble_eq_true rfl) (fun C hC hQ => ?_)
  have hC : qCk g C cX8_fits RX8 11 d := hC
  have hQ : qRt g C (some .boolean) (qI K) := hQ
  have h := h C hC hQ
  show qW g C 0 [some (.inr 63), some (.inl x1), none, none, none, none, none, none, none, none, none] [] M
  refine qW.rm (fun hM => ?_)
  refine q_aload_n hC dX8_fits_0 rfl rfl ?_
  refine q_getr hC fl_X8_62 ly_63 rfl dX8_fits_1 rfl ?_
  refine q_iload_n hC dX8_fits_4 rfl rfl ?_
  obtain ⟨r101, h⟩ := h
  refine q_iald hC ly_80 dX8_fits_5 rfl r101 ?_
  refine q_istore_n hC dX8_fits_6 (Nat.le_of_ble_eq_true rfl) (loc' := [some (.inr 63), some (.inl x1), some (.inl (M 80 x1)), none, none, none, none, none, none, none, none]) rfl rfl ?_
  refine q_iload_n hC dX8_fits_7 rfl rfl ?_
  refine q_bipush hC dX8_fits_8 (by decide) rfl ?_
  refine q_icmp_ne hC dX8_fits_10 (t := 15) (by decide) rfl (hM 80 x1) (by decide) (fun c => ?_) (fun c => ?_)
  · have h := h.1 c
    refine q_iload_n hC dX8_fits_15 rfl rfl ?_
    refine q_iconst hC dX8_fits_16 rfl ?_
    obtain ⟨r102, h⟩ := h
    refine q_irem hC dX8_fits_17 (hM 80 x1) (by decide) r102 (by decide) rfl ?_
    refine q_istore_n hC dX8_fits_18 (Nat.le_of_ble_eq_true rfl) (loc' := [some (.inr 63), some (.inl x1), some (.inl (M 80 x1)), some (.inl ((M 80 x1) % 3)), none, none, none, none, none, none, none]) rfl rfl ?_
    refine q_iload_n hC dX8_fits_19 rfl rfl ?_
    refine q_iconst hC dX8_fits_20 rfl ?_
    obtain ⟨r103, h⟩ := h
    refine q_idiv hC dX8_fits_21 (hM 80 x1) (by decide) r103 (by decide) rfl ?_
    refine q_istore hC dX8_fits_22 (Nat.le_of_ble_eq_true rfl) (loc' := [some (.inr 63), some (.inl x1), some (.inl (M 80 x1)), some (.inl ((M 80 x1) % 3)), some (.inl ((M 80 x1) / 3)), none, none, none, none, none, none]) rfl rfl ?_
    refine q_aload_n hC dX8_fits_24 rfl rfl ?_
    refine q_getr hC fl_X8_68 ly_63 rfl dX8_fits_25 rfl ?_
    refine q_iload_n hC dX8_fits_28 rfl rfl ?_
    refine q_iald hC ly_82 dX8_fits_29 rfl r101 ?_
    refine q_if_le hC dX8_fits_30 (t := 62) (by decide) rfl (hM 82 x1) (fun c => ?_) (fun c => ?_)
    · have h := h.1 c
      refine q_iconst hC dX8_fits_62 rfl ?_
      refine q_istore hC dX8_fits_63 (Nat.le_of_ble_eq_true rfl) (loc' := [some (.inr 63), some (.inl x1), some (.inl (M 80 x1)), some (.inl ((M 80 x1) % 3)), some (.inl ((M 80 x1) / 3)), some (.inl 0), none, none, none, none, none]) rfl rfl ?_
      refine q_aload_n hC dX8_fits_65 rfl rfl ?_
      refine q_getr hC fl_X8_68 ly_63 rfl dX8_fits_66 rfl ?_
      refine q_iload_n hC dX8_fits_69 rfl rfl ?_
      refine q_iald hC ly_82 dX8_fits_70 rfl r101 ?_
      refine q_istore hC dX8_fits_71 (Nat.le_of_ble_eq_true rfl) (loc' := [some (.inr 63), some (.inl x1), some (.inl (M 80 x1)), some (.inl ((M 80 x1) % 3)), some (.inl ((M 80 x1) / 3)), some (.inl 0), some (.inl (M 82 x1)), none, none, none, none]) rfl rfl ?_
      refine q_iconst hC dX8_fits_73 rfl ?_
      refine q_istore hC dX8_fits_74 (Nat.le_of_ble_eq_true rfl) (loc' := [some (.inr 63), some (.inl x1), some (.inl (M 80 x1)), some (.inl ((M 80 x1) % 3)), some (.inl ((M 80 x1) / 3)), some (.inl 0), some (.inl (M 82 x1)), some (.inl 0), none, none, none]) rfl rfl ?_
      exact h
    · have h := h.2 c
      refine q_iload_n hC dX8_fits_33 rfl rfl ?_
      refine q_aload_n hC dX8_fits_34 rfl rfl ?_
      refine q_getr hC fl_X8_7 ly_63 rfl dX8_fits_35 rfl ?_
      refine q_iconst hC dX8_fits_38 rfl ?_
      refine q_iald hC ly_64 dX8_fits_39 rfl (by decide) ?_
      obtain ⟨r104, h⟩ := h
      refine q_icmp_ge hC dX8_fits_40 (t := 62) (by decide) rfl r104 (hM 64 5) (fun c => ?_) (fun c => ?_)
      · have h := h.1 c
        refine q_iconst hC dX8_fits_62 rfl ?_
        refine q_istore hC dX8_fits_63 (Nat.le_of_ble_eq_true rfl) (loc' := [some (.inr 63), some (.inl x1), some (.inl (M 80 x1)), some (.inl ((M 80 x1) % 3)), some (.inl ((M 80 x1) / 3)), some (.inl 0), none, none, none, none, none]) rfl rfl ?_
        refine q_aload_n hC dX8_fits_65 rfl rfl ?_
        refine q_getr hC fl_X8_68 ly_63 rfl dX8_fits_66 rfl ?_
        refine q_iload_n hC dX8_fits_69 rfl rfl ?_
        refine q_iald hC ly_82 dX8_fits_70 rfl r101 ?_
        refine q_istore hC dX8_fits_71 (Nat.le_of_ble_eq_true rfl) (loc' := [some (.inr 63), some (.inl x1), some (.inl (M 80 x1)), some (.inl ((M 80 x1) % 3)), some (.inl ((M 80 x1) / 3)), some (.inl 0), some (.inl (M 82 x1)), none, none, none, none]) rfl rfl ?_
        refine q_iconst hC dX8_fits_73 rfl ?_
        refine q_istore hC dX8_fits_74 (Nat.le_of_ble_eq_true rfl) (loc' := [some (.inr 63), some (.inl x1), some (.inl (M 80 x1)), some (.inl ((M 80 x1) % 3)), some (.inl ((M 80 x1) / 3)), some (.inl 0), some (.inl (M 82 x1)), some (.inl 0), none, none, none]) rfl rfl ?_
        exact h
      · have h := h.2 c
        refine q_aload_n hC dX8_fits_43 rfl rfl ?_
        refine q_getr hC fl_X8_68 ly_63 rfl dX8_fits_44 rfl ?_
        refine q_iload_n hC dX8_fits_47 rfl rfl ?_
        refine q_iald hC ly_82 dX8_fits_48 rfl r101 ?_
        refine q_aload_n hC dX8_fits_49 rfl rfl ?_
        refine q_getr hC fl_X8_40 ly_63 rfl dX8_fits_50 rfl ?_
        refine q_iload_n hC dX8_fits_53 rfl rfl ?_
        obtain ⟨r105, h⟩ := h
        refine q_iald hC ly_74 dX8_fits_54 rfl r105 ?_
        refine q_icmp_gt hC dX8_fits_55 (t := 62) (by decide) rfl (hM 82 x1) (hM 74 ((M 80 x1) % 3)) (fun c => ?_) (fun c => ?_)
        · have h := h.1 c
          refine q_iconst hC dX8_fits_62 rfl ?_
          refine q_istore hC dX8_fits_63 (Nat.le_of_ble_eq_true rfl) (loc' := [some (.inr 63), some (.inl x1), some (.inl (M 80 x1)), some (.inl ((M 80 x1) % 3)), some (.inl ((M 80 x1) / 3)), some (.inl 0), none, none, none, none, none]) rfl rfl ?_
          refine q_aload_n hC dX8_fits_65 rfl rfl ?_
          refine q_getr hC fl_X8_68 ly_63 rfl dX8_fits_66 rfl ?_
          refine q_iload_n hC dX8_fits_69 rfl rfl ?_
          refine q_iald hC ly_82 dX8_fits_70 rfl r101 ?_
          refine q_istore hC dX8_fits_71 (Nat.le_of_ble_eq_true rfl) (loc' := [some (.inr 63), some (.inl x1), some (.inl (M 80 x1)), some (.inl ((M 80 x1) % 3)), some (.inl ((M 80 x1) / 3)), some (.inl 0), some (.inl (M 82 x1)), none, none, none, none]) rfl rfl ?_
          refine q_iconst hC dX8_fits_73 rfl ?_
          refine q_istore hC dX8_fits_74 (Nat.le_of_ble_eq_true rfl) (loc' := [some (.inr 63), some (.inl x1), some (.inl (M 80 x1)), some (.inl ((M 80 x1) % 3)), some (.inl ((M 80 x1) / 3)), some (.inl 0), some (.inl (M 82 x1)), some (.inl 0), none, none, none]) rfl rfl ?_
          exact h
        · have h := h.2 c
          refine q_iconst hC dX8_fits_58 rfl ?_
          refine q_goto hC dX8_fits_59 (q := 63) (by decide) ?_
          refine q_istore hC dX8_fits_63 (Nat.le_of_ble_eq_true rfl) (loc' := [some (.inr 63), some (.inl x1), some (.inl (M 80 x1)), some (.inl ((M 80 x1) % 3)), some (.inl ((M 80 x1) / 3)), some (.inl 1), none, none, none, none, none]) rfl rfl ?_
          refine q_aload_n hC dX8_fits_65 rfl rfl ?_
          refine q_getr hC fl_X8_68 ly_63 rfl dX8_fits_66 rfl ?_
          refine q_iload_n hC dX8_fits_69 rfl rfl ?_
          refine q_iald hC ly_82 dX8_fits_70 rfl r101 ?_
          refine q_istore hC dX8_fits_71 (Nat.le_of_ble_eq_true rfl) (loc' := [some (.inr 63), some (.inl x1), some (.inl (M 80 x1)), some (.inl ((M 80 x1) % 3)), some (.inl ((M 80 x1) / 3)), some (.inl 1), some (.inl (M 82 x1)), none, none, none, none]) rfl rfl ?_
          refine q_iconst hC dX8_fits_73 rfl ?_
          refine q_istore hC dX8_fits_74 (Nat.le_of_ble_eq_true rfl) (loc' := [some (.inr 63), some (.inl x1), some (.inl (M 80 x1)), some (.inl ((M 80 x1) % 3)), some (.inl ((M 80 x1) / 3)), some (.inl 1), some (.inl (M 82 x1)), some (.inl 0), none, none, none]) rfl rfl ?_
          exact h
  · have h := h.2 c
    refine q_iconst hC dX8_fits_13 rfl ?_
    exact q_zret hC hQ dX8_fits_14 (by decide) h
set_option maxRecDepth 20000 in
theorem s_X8_fits_76 {g : qG} {C : qX} {d : Nat} {M : qM} {K : Int → qM → Prop} (hC : qCk g C cX8_fits RX8 11 d) (hQ : qRt g C (some .boolean) (qI K)) {x1 : Int} {x2 : Int} {x3 : Int} {x4 : Int} {x5 : Int} {x6 : Int} {x7 : Int} (hx1 : qR x1) (hx2 : qR x2) (hx3 : qR x3) (hx4 : qR x4) (hx5 : qR x5) (hx6 : qR x6) (hx7 : qR x7) (h : ((x1 ≤ x7 → ((x5 = 0 → (K 0 M)) ∧ (x5 ≠ 0 → (0 ≤ x4 ∧ x4 < 5) ∧ (((M 83 x4) < x6 → (K 0 M)) ∧ (x6 ≤ (M 83 x4) → (K 1 M)))))) ∧ (x7 < x1 → ((x5 = 0 → ((x5 = 0 → (K 0 M)) ∧ (x5 ≠ 0 → (0 ≤ x4 ∧ x4 < 5) ∧ (((M 83 x4) < x6 → (K 0 M)) ∧ (x6 ≤ (M 83 x4) → (K 1 M)))))) ∧ (x5 ≠ 0 → (0 ≤ x7 ∧ x7 < 4) ∧ (((M 80 x7) = 15 → (qW g C 116 [some (.inr 63), some (.inl x1), some (.inl x2), some (.inl x3), some (.inl x4), some (.inl x5), some (.inl x6), some (.inl x7), some (.inl (M 80 x7)), none, none] [.inl 0] M)) ∧ ((M 80 x7) ≠ 15 → (0 ≤ (M 80 x7)) ∧ (qR ((M 80 x7) % 3)) ∧ ((((M 80 x7) % 3) ≠ x3 → (qW g C 116 [some (.inr 63), some (.inl x1), some (.inl x2), some (.inl x3), some (.inl x4), some (.inl x5), some (.inl x6), some (.inl x7), some (.inl (M 80 x7)), none, none] [.inl 0] M)) ∧ (((M 80 x7) % 3) = x3 → (qW g C 116 [some (.inr 63), some (.inl x1), some (.inl x2), some (.inl x3), some (.inl x4), some (.inl x5), some (.inl x6), some (.inl x7), some (.inl (M 80 x7)), none, none] [.inl 1] M)))))))))) : qW g C 76 [some (.inr 63), some (.inl x1), some (.inl x2), some (.inl x3), some (.inl x4), some (.inl x5), some (.inl x6), some (.inl x7), none, none, none] [] M := by
  refine qW.rm (fun hM => ?_)
  refine q_iload hC dX8_fits_76 rfl rfl ?_
  refine q_iload_n hC dX8_fits_78 rfl rfl ?_
  refine q_icmp_ge hC dX8_fits_79 (t := 205) (by decide) rfl hx7 hx1 (fun c => ?_) (fun c => ?_)
  · have h := h.1 c
    refine q_iload hC dX8_fits_205 rfl rfl ?_
    refine q_if_eq hC dX8_fits_207 (t := 226) (by decide) rfl hx5 (fun c => ?_) (fun c => ?_)
    · have h := h.1 c
      refine q_iconst hC dX8_fits_226 rfl ?_
      exact q_zret hC hQ dX8_fits_227 (by decide) h
    · have h := h.2 c
      refine q_iload hC dX8_fits_210 rfl rfl ?_
      refine q_aload_n hC dX8_fits_212 rfl rfl ?_
      refine q_getr hC fl_X8_71 ly_63 rfl dX8_fits_213 rfl ?_
      refine q_iload hC dX8_fits_216 rfl rfl ?_
      obtain ⟨r101, h⟩ := h
      refine q_iald hC ly_83 dX8_fits_218 rfl r101 ?_
      refine q_icmp_gt hC dX8_fits_219 (t := 226) (by decide) rfl hx6 (hM 83 x4) (fun c => ?_) (fun c => ?_)
      · have h := h.1 c
        refine q_iconst hC dX8_fits_226 rfl ?_
        exact q_zret hC hQ dX8_fits_227 (by decide) h
      · have h := h.2 c
        refine q_iconst hC dX8_fits_222 rfl ?_
        refine q_goto hC dX8_fits_223 (q := 227) (by decide) ?_
        exact q_zret hC hQ dX8_fits_227 (by decide) h
  · have h := h.2 c
    refine q_iload hC dX8_fits_82 rfl rfl ?_
    refine q_if_eq hC dX8_fits_84 (t := 205) (by decide) rfl hx5 (fun c => ?_) (fun c => ?_)
    · have h := h.1 c
      refine q_iload hC dX8_fits_205 rfl rfl ?_
      refine q_if_eq hC dX8_fits_207 (t := 226) (by decide) rfl hx5 (fun c => ?_) (fun c => ?_)
      · have h := h.1 c
        refine q_iconst hC dX8_fits_226 rfl ?_
        exact q_zret hC hQ dX8_fits_227 (by decide) h
      · have h := h.2 c
        refine q_iload hC dX8_fits_210 rfl rfl ?_
        refine q_aload_n hC dX8_fits_212 rfl rfl ?_
        refine q_getr hC fl_X8_71 ly_63 rfl dX8_fits_213 rfl ?_
        refine q_iload hC dX8_fits_216 rfl rfl ?_
        obtain ⟨r102, h⟩ := h
        refine q_iald hC ly_83 dX8_fits_218 rfl r102 ?_
        refine q_icmp_gt hC dX8_fits_219 (t := 226) (by decide) rfl hx6 (hM 83 x4) (fun c => ?_) (fun c => ?_)
        · have h := h.1 c
          refine q_iconst hC dX8_fits_226 rfl ?_
          exact q_zret hC hQ dX8_fits_227 (by decide) h
        · have h := h.2 c
          refine q_iconst hC dX8_fits_222 rfl ?_
          refine q_goto hC dX8_fits_223 (q := 227) (by decide) ?_
          exact q_zret hC hQ dX8_fits_227 (by decide) h
    · have h := h.2 c
      refine q_aload_n hC dX8_fits_87 rfl rfl ?_
      refine q_getr hC fl_X8_62 ly_63 rfl dX8_fits_88 rfl ?_
      refine q_iload hC dX8_fits_91 rfl rfl ?_
      obtain ⟨r103, h⟩ := h
      refine q_iald hC ly_80 dX8_fits_93 rfl r103 ?_
      refine q_istore hC dX8_fits_94 (Nat.le_of_ble_eq_true rfl) (loc' := [some (.inr 63), some (.inl x1), some (.inl x2), some (.inl x3), some (.inl x4), some (.inl x5), some (.inl x6), some (.inl x7), some (.inl (M 80 x7)), none, none]) rfl rfl ?_
      refine q_iload hC dX8_fits_96 rfl rfl ?_
      refine q_bipush hC dX8_fits_98 (by decide) rfl ?_
      refine q_icmp_eq hC dX8_fits_100 (t := 115) (by decide) rfl (hM 80 x7) (by decide) (fun c => ?_) (fun c => ?_)
      · have h := h.1 c
        refine q_iconst hC dX8_fits_115 rfl ?_
        exact h
      · have h := h.2 c
        refine q_iload hC dX8_fits_103 rfl rfl ?_
        refine q_iconst hC dX8_fits_105 rfl ?_
        obtain ⟨r104, h⟩ := h
        refine q_irem hC dX8_fits_106 (hM 80 x7) (by decide) r104 (by decide) rfl ?_
        refine q_iload_n hC dX8_fits_107 rfl rfl ?_
        obtain ⟨r105, h⟩ := h
        refine q_icmp_ne hC dX8_fits_108 (t := 115) (by decide) rfl r105 hx3 (fun c => ?_) (fun c => ?_)
        · have h := h.1 c
          refine q_iconst hC dX8_fits_115 rfl ?_
          exact h
        · have h := h.2 c
          refine q_iconst hC dX8_fits_111 rfl ?_
          refine q_goto hC dX8_fits_112 (q := 116) (by decide) ?_
          exact h
set_option maxRecDepth 20000 in
theorem s_X8_fits_116 {g : qG} {C : qX} {d : Nat} {M : qM} {K : Int → qM → Prop} (hC : qCk g C cX8_fits RX8 11 d) (hQ : qRt g C (some .boolean) (qI K)) {x1 : Int} {x2 : Int} {x3 : Int} {x4 : Int} {x5 : Int} {x6 : Int} {x7 : Int} {x8 : Int} {s0 : Int} (hx1 : qR x1) (hx2 : qR x2) (hx3 : qR x3) (hx4 : qR x4) (hx5 : qR x5) (hx6 : qR x6) (hx7 : qR x7) (hx8 : qR x8) (hs0 : qR s0) (h : (0 ≤ x8) ∧ ((x8 = x2 → (qW g C 165 [some (.inr 63), some (.inl x1), some (.inl x2), some (.inl x3), some (.inl x4), some (.inl x5), some (.inl x6), some (.inl x7), some (.inl x8), some (.inl s0), some (.inl ((x8 / 3) - x4))] [.inl 0] M)) ∧ (x8 ≠ x2 → ((s0 = 0 → (qW g C 165 [some (.inr 63), some (.inl x1), some (.inl x2), some (.inl x3), some (.inl x4), some (.inl x5), some (.inl x6), some (.inl x7), some (.inl x8), some (.inl s0), some (.inl ((x8 / 3) - x4))] [.inl 1] M)) ∧ (s0 ≠ 0 → (0 ≤ x3 ∧ x3 < 3) ∧ (((M 75 x3) ≠ 1 → (qW g C 165 [some (.inr 63), some (.inl x1), some (.inl x2), some (.inl x3), some (.inl x4), some (.inl x5), some (.inl x6), some (.inl x7), some (.inl x8), some (.inl s0), some (.inl ((x8 / 3) - x4))] [.inl 1] M)) ∧ ((M 75 x3) = 1 → (qR ((x8 / 3) - x4)) ∧ ((((x8 / 3) - x4) = 1 → (qW g C 165 [some (.inr 63), some (.inl x1), some (.inl x2), some (.inl x3), some (.inl x4), some (.inl x5), some (.inl x6), some (.inl x7), some (.inl x8), some (.inl s0), some (.inl ((x8 / 3) - x4))] [.inl 0] M)) ∧ (((x8 / 3) - x4) ≠ 1 → ((((x8 / 3) - x4) = (-1) → (qW g C 165 [some (.inr 63), some (.inl x1), some (.inl x2), some (.inl x3), some (.inl x4), some (.inl x5), some (.inl x6), some (.inl x7), some (.inl x8), some (.inl s0), some (.inl ((x8 / 3) - x4))] [.inl 0] M)) ∧ (((x8 / 3) - x4) ≠ (-1) → (qW g C 165 [some (.inr 63), some (.inl x1), some (.inl x2), some (.inl x3), some (.inl x4), some (.inl x5), some (.inl x6), some (.inl x7), some (.inl x8), some (.inl s0), some (.inl ((x8 / 3) - x4))] [.inl 1] M)))))))))))) : qW g C 116 [some (.inr 63), some (.inl x1), some (.inl x2), some (.inl x3), some (.inl x4), some (.inl x5), some (.inl x6), some (.inl x7), some (.inl x8), none, none] [.inl s0] M := by
  refine qW.rm (fun hM => ?_)
  refine q_istore hC dX8_fits_116 (Nat.le_of_ble_eq_true rfl) (loc' := [some (.inr 63), some (.inl x1), some (.inl x2), some (.inl x3), some (.inl x4), some (.inl x5), some (.inl x6), some (.inl x7), some (.inl x8), some (.inl s0), none]) rfl rfl ?_
  refine q_iload hC dX8_fits_118 rfl rfl ?_
  refine q_iconst hC dX8_fits_120 rfl ?_
  obtain ⟨r101, h⟩ := h
  refine q_idiv hC dX8_fits_121 hx8 (by decide) r101 (by decide) rfl ?_
  refine q_iload hC dX8_fits_122 rfl rfl ?_
  refine q_isub hC dX8_fits_124 rfl ?_
  refine q_istore hC dX8_fits_125 (Nat.le_of_ble_eq_true rfl) (loc' := [some (.inr 63), some (.inl x1), some (.inl x2), some (.inl x3), some (.inl x4), some (.inl x5), some (.inl x6), some (.inl x7), some (.inl x8), some (.inl s0), some (.inl ((x8 / 3) - x4))]) rfl rfl ?_
  refine q_iload hC dX8_fits_127 rfl rfl ?_
  refine q_iload_n hC dX8_fits_129 rfl rfl ?_
  refine q_icmp_eq hC dX8_fits_130 (t := 164) (by decide) rfl hx8 hx2 (fun c => ?_) (fun c => ?_)
  · have h := h.1 c
    refine q_iconst hC dX8_fits_164 rfl ?_
    exact h
  · have h := h.2 c
    refine q_iload hC dX8_fits_133 rfl rfl ?_
    refine q_if_eq hC dX8_fits_135 (t := 160) (by decide) rfl hs0 (fun c => ?_) (fun c => ?_)
    · have h := h.1 c
      refine q_iconst hC dX8_fits_160 rfl ?_
      refine q_goto hC dX8_fits_161 (q := 165) (by decide) ?_
      exact h
    · have h := h.2 c
      refine q_aload_n hC dX8_fits_138 rfl rfl ?_
      refine q_getr hC fl_X8_43 ly_63 rfl dX8_fits_139 rfl ?_
      refine q_iload_n hC dX8_fits_142 rfl rfl ?_
      obtain ⟨r102, h⟩ := h
      refine q_iald hC ly_75 dX8_fits_143 rfl r102 ?_
      refine q_iconst hC dX8_fits_144 rfl ?_
      refine q_icmp_ne hC dX8_fits_145 (t := 160) (by decide) rfl (hM 75 x3) (by decide) (fun c => ?_) (fun c => ?_)
      · have h := h.1 c
        refine q_iconst hC dX8_fits_160 rfl ?_
        refine q_goto hC dX8_fits_161 (q := 165) (by decide) ?_
        exact h
      · have h := h.2 c
        refine q_iload hC dX8_fits_148 rfl rfl ?_
        refine q_iconst hC dX8_fits_150 rfl ?_
        obtain ⟨r103, h⟩ := h
        refine q_icmp_eq hC dX8_fits_151 (t := 164) (by decide) rfl r103 (by decide) (fun c => ?_) (fun c => ?_)
        · have h := h.1 c
          refine q_iconst hC dX8_fits_164 rfl ?_
          exact h
        · have h := h.2 c
          refine q_iload hC dX8_fits_154 rfl rfl ?_
          refine q_iconst hC dX8_fits_156 rfl ?_
          refine q_icmp_eq hC dX8_fits_157 (t := 164) (by decide) rfl r103 (by decide) (fun c => ?_) (fun c => ?_)
          · have h := h.1 c
            refine q_iconst hC dX8_fits_164 rfl ?_
            exact h
          · have h := h.2 c
            refine q_iconst hC dX8_fits_160 rfl ?_
            refine q_goto hC dX8_fits_161 (q := 165) (by decide) ?_
            exact h
set_option maxRecDepth 20000 in
theorem s_X8_fits_165 {g : qG} {C : qX} {d : Nat} {M : qM} {K : Int → qM → Prop} (hC : qCk g C cX8_fits RX8 11 d) (hQ : qRt g C (some .boolean) (qI K)) {x1 : Int} {x2 : Int} {x3 : Int} {x4 : Int} {x5 : Int} {x6 : Int} {x7 : Int} {x8 : Int} {x9 : Int} {x10 : Int} {s0 : Int} (hx1 : qR x1) (hx2 : qR x2) (hx3 : qR x3) (hx4 : qR x4) (hx5 : qR x5) (hx6 : qR x6) (hx7 : qR x7) (hx8 : qR x8) (hx9 : qR x9) (hx10 : qR x10) (hs0 : qR s0) (h : ((x8 = 15 → (qW g C 196 [some (.inr 63), some (.inl x1), some (.inl x2), some (.inl x3), some (.inl x4), some (.inl s0), some (.inl x6), some (.inl x7), some (.inl x8), some (.inl x9), some (.inl x10)] [.inl 0, .inl x6] M)) ∧ (x8 ≠ 15 → (0 ≤ x8) ∧ (qR (x8 / 3)) ∧ (((x8 / 3) ≠ x4 → (qW g C 196 [some (.inr 63), some (.inl x1), some (.inl x2), some (.inl x3), some (.inl x4), some (.inl s0), some (.inl x6), some (.inl x7), some (.inl x8), some (.inl x9), some (.inl x10)] [.inl 0, .inl x6] M)) ∧ ((x8 / 3) = x4 → (0 ≤ x7 ∧ x7 < 4) ∧ (qW g C 196 [some (.inr 63), some (.inl x1), some (.inl x2), some (.inl x3), some (.inl x4), some (.inl s0), some (.inl x6), some (.inl x7), some (.inl x8), some (.inl x9), some (.inl x10)] [.inl (M 82 x7), .inl x6] M)))))) : qW g C 165 [some (.inr 63), some (.inl x1), some (.inl x2), some (.inl x3), some (.inl x4), some (.inl x5), some (.inl x6), some (.inl x7), some (.inl x8), some (.inl x9), some (.inl x10)] [.inl s0] M := by
  refine qW.rm (fun hM => ?_)
  refine q_istore hC dX8_fits_165 (Nat.le_of_ble_eq_true rfl) (loc' := [some (.inr 63), some (.inl x1), some (.inl x2), some (.inl x3), some (.inl x4), some (.inl s0), some (.inl x6), some (.inl x7), some (.inl x8), some (.inl x9), some (.inl x10)]) rfl rfl ?_
  refine q_iload hC dX8_fits_167 rfl rfl ?_
  refine q_iload hC dX8_fits_169 rfl rfl ?_
  refine q_bipush hC dX8_fits_171 (by decide) rfl ?_
  refine q_icmp_eq hC dX8_fits_173 (t := 195) (by decide) rfl hx8 (by decide) (fun c => ?_) (fun c => ?_)
  · have h := h.1 c
    refine q_iconst hC dX8_fits_195 rfl ?_
    exact h
  · have h := h.2 c
    refine q_iload hC dX8_fits_176 rfl rfl ?_
    refine q_iconst hC dX8_fits_178 rfl ?_
    obtain ⟨r101, h⟩ := h
    refine q_idiv hC dX8_fits_179 hx8 (by decide) r101 (by decide) rfl ?_
    refine q_iload hC dX8_fits_180 rfl rfl ?_
    obtain ⟨r102, h⟩ := h
    refine q_icmp_ne hC dX8_fits_182 (t := 195) (by decide) rfl r102 hx4 (fun c => ?_) (fun c => ?_)
    · have h := h.1 c
      refine q_iconst hC dX8_fits_195 rfl ?_
      exact h
    · have h := h.2 c
      refine q_aload_n hC dX8_fits_185 rfl rfl ?_
      refine q_getr hC fl_X8_68 ly_63 rfl dX8_fits_186 rfl ?_
      refine q_iload hC dX8_fits_189 rfl rfl ?_
      obtain ⟨r103, h⟩ := h
      refine q_iald hC ly_82 dX8_fits_191 rfl r103 ?_
      refine q_goto hC dX8_fits_192 (q := 196) (by decide) ?_
      exact h
set_option maxRecDepth 20000 in
theorem s_X8_fits_196 {g : qG} {C : qX} {d : Nat} {M : qM} {K : Int → qM → Prop} (hC : qCk g C cX8_fits RX8 11 d) (hQ : qRt g C (some .boolean) (qI K)) {x1 : Int} {x2 : Int} {x3 : Int} {x4 : Int} {x5 : Int} {x6 : Int} {x7 : Int} {x8 : Int} {x9 : Int} {x10 : Int} {s0 : Int} {s1 : Int} (hx1 : qR x1) (hx2 : qR x2) (hx3 : qR x3) (hx4 : qR x4) (hx5 : qR x5) (hx6 : qR x6) (hx7 : qR x7) (hx8 : qR x8) (hx9 : qR x9) (hx10 : qR x10) (hs0 : qR s0) (hs1 : qR s1) (h : qW g C 76 [some (.inr 63), some (.inl x1), some (.inl x2), some (.inl x3), some (.inl x4), some (.inl x5), some (.inl (s1 + s0)), some (.inl (x7 + 1)), none, none, none] [] M) : qW g C 196 [some (.inr 63), some (.inl x1), some (.inl x2), some (.inl x3), some (.inl x4), some (.inl x5), some (.inl x6), some (.inl x7), some (.inl x8), some (.inl x9), some (.inl x10)] [.inl s0, .inl s1] M := by
  refine qW.rm (fun hM => ?_)
  refine q_iadd hC dX8_fits_196 rfl ?_
  refine q_istore hC dX8_fits_197 (Nat.le_of_ble_eq_true rfl) (loc' := [some (.inr 63), some (.inl x1), some (.inl x2), some (.inl x3), some (.inl x4), some (.inl x5), some (.inl (s1 + s0)), some (.inl x7), some (.inl x8), some (.inl x9), some (.inl x10)]) rfl rfl ?_
  refine q_iinc hC dX8_fits_199 rfl (loc' := [some (.inr 63), some (.inl x1), some (.inl x2), some (.inl x3), some (.inl x4), some (.inl x5), some (.inl (s1 + s0)), some (.inl (x7 + 1)), some (.inl x8), some (.inl x9), some (.inl x10)]) rfl rfl ?_
  refine q_goto hC dX8_fits_202 (q := 76) (by decide) ?_
  refine qW.kill 8 (loc' := [some (.inr 63), some (.inl x1), some (.inl x2), some (.inl x3), some (.inl x4), some (.inl x5), some (.inl (s1 + s0)), some (.inl (x7 + 1)), none, some (.inl x9), some (.inl x10)]) rfl ?_
  refine qW.kill 9 (loc' := [some (.inr 63), some (.inl x1), some (.inl x2), some (.inl x3), some (.inl x4), some (.inl x5), some (.inl (s1 + s0)), some (.inl (x7 + 1)), none, none, some (.inl x10)]) rfl ?_
  refine qW.kill 10 (loc' := [some (.inr 63), some (.inl x1), some (.inl x2), some (.inl x3), some (.inl x4), some (.inl x5), some (.inl (s1 + s0)), some (.inl (x7 + 1)), none, none, none]) rfl ?_
  exact h
