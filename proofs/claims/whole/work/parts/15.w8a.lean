set_option maxRecDepth 20000 in
theorem e_X8_ones {g : qG} {d : Nat} {M : qM} {K : Int → qM → Prop} {x0 : Int} (hx0 : qR x0) (h : ∀ C : qX, qCk g C cX8_ones RX8 3 d → qRt g C (some .int) (qI K) → qW g C 4 [some (.inl x0), some (.inl 0), some (.inl 0)] [] M) : qOk g d j_X8_ones [.inl x0] M (qI K) := by
  refine qOk.of (by decide) (Nat.le_of_ble_eq_true rfl) (fun C hC hQ => ?_)
  have hC : qCk g C cX8_ones RX8 3 d := hC
  have hQ : qRt g C (some .int) (qI K) := hQ
  have h := h C hC hQ
  show qW g C 0 [some (.inl x0), none, none] [] M
  refine qW.rm (fun hM => ?_)
  refine q_iconst hC dX8_ones_0 rfl ?_
  refine q_istore_n hC dX8_ones_1 (Nat.le_of_ble_eq_true rfl) (loc' := [some (.inl x0), some (.inl 0), none]) rfl rfl ?_
  refine q_iconst hC dX8_ones_2 rfl ?_
  refine q_istore_n hC dX8_ones_3 (Nat.le_of_ble_eq_true rfl) (loc' := [some (.inl x0), some (.inl 0), some (.inl 0)]) rfl rfl ?_
  exact h
set_option maxRecDepth 20000 in
theorem s_X8_ones_4 {g : qG} {C : qX} {d : Nat} {M : qM} {K : Int → qM → Prop} (hC : qCk g C cX8_ones RX8 3 d) (hQ : qRt g C (some .int) (qI K)) {x0 : Int} {x1 : Int} {x2 : Int} (hx0 : qR x0) (hx1 : qR x1) (hx2 : qR x2) (h : ((10 ≤ x2 → (K x1 M)) ∧ (x2 < 10 → (qW g C 4 [some (.inl x0), some (.inl (x1 + (qAnd (qShr x0 x2) 1))), some (.inl (x2 + 1))] [] M)))) : qW g C 4 [some (.inl x0), some (.inl x1), some (.inl x2)] [] M := by
  refine qW.rm (fun hM => ?_)
  refine q_iload_n hC dX8_ones_4 rfl rfl ?_
  refine q_bipush hC dX8_ones_5 (by decide) rfl ?_
  refine q_icmp_ge hC dX8_ones_7 (t := 24) (by decide) rfl hx2 (by decide) (fun c => ?_) (fun c => ?_)
  · have h := h.1 c
    refine q_iload_n hC dX8_ones_24 rfl rfl ?_
    exact q_iret hC hQ dX8_ones_25 hx1 h
  · have h := h.2 c
    refine q_iload_n hC dX8_ones_10 rfl rfl ?_
    refine q_iload_n hC dX8_ones_11 rfl rfl ?_
    refine q_iload_n hC dX8_ones_12 rfl rfl ?_
    refine q_ishr hC dX8_ones_13 rfl ?_
    refine q_iconst hC dX8_ones_14 rfl ?_
    refine q_iand hC dX8_ones_15 rfl ?_
    refine q_iadd hC dX8_ones_16 rfl ?_
    refine q_istore_n hC dX8_ones_17 (Nat.le_of_ble_eq_true rfl) (loc' := [some (.inl x0), some (.inl (x1 + (qAnd (qShr x0 x2) 1))), some (.inl x2)]) rfl rfl ?_
    refine q_iinc hC dX8_ones_18 rfl (loc' := [some (.inl x0), some (.inl (x1 + (qAnd (qShr x0 x2) 1))), some (.inl (x2 + 1))]) rfl rfl ?_
    refine q_goto hC dX8_ones_21 (q := 4) (by decide) ?_
    exact h
set_option maxRecDepth 20000 in
theorem e_X8_child {g : qG} {d : Nat} {M : qM} {K : Int → qM → Prop} {x1 : Int} {x2 : Int} (hx1 : qR x1) (hx2 : qR x2) (h : (((6 ≤ x1 ∧ x1 ≤ 18) → (((0 ≤ x2 ∧ x2 ≤ 3) → (((M 64 0) ≠ 10 → (0 ≤ (M 64 0) ∧ (M 64 0) < 10) ∧ (0 ≤ ((qU M 65 (M 64 0) x1) 64 0) ∧ ((qU M 65 (M 64 0) x1) 64 0) < 10) ∧ (0 ≤ ((qU (qU M 65 (M 64 0) x1) 66 ((qU M 65 (M 64 0) x1) 64 0) x2) 64 0) ∧ ((qU (qU M 65 (M 64 0) x1) 66 ((qU M 65 (M 64 0) x1) 64 0) x2) 64 0) ≤ 80) ∧ (K ((qU (qU M 65 (M 64 0) x1) 66 ((qU M 65 (M 64 0) x1) 64 0) x2) 64 0) (qU (qU (qU M 65 (M 64 0) x1) 66 ((qU M 65 (M 64 0) x1) 64 0) x2) 64 0 (((qU (qU M 65 (M 64 0) x1) 66 ((qU M 65 (M 64 0) x1) 64 0) x2) 64 0) + 1)))) ∧ ((M 64 0) = 10 → (K (-2) M)))) ∧ ((x2 < 0 ∨ 3 < x2) → (K (-1) M)))) ∧ ((x1 < 6 ∨ 18 < x1) → (K (-1) M)))) : qOk g (d + 2) j_X8_child [.inr 63, .inl x1, .inl x2] M (qI K) := by
  refine qOk.of (by decide) (Nat.le_of_ble_eq_true rfl) (fun C hC hQ => ?_)
  have hC : qCk g C cX8_child RX8 3 (d + 2) := hC
  have hQ : qRt g C (some .int) (qI K) := hQ
  show qW g C 0 [some (.inr 63), some (.inl x1), some (.inl x2)] [] M
  refine qW.rm (fun hM => ?_)
  refine q_iload_n hC dX8_child_0 rfl rfl ?_
  refine q_bipush hC dX8_child_1 (by decide) rfl ?_
  refine q_bipush hC dX8_child_3 (by decide) rfl ?_
  refine q_callSi hC (As := [.inl x1, .inl 6, .inl 18]) md_X8_in ms_X8_in ml_X8_74 dX8_child_5 rfl (Nat.le_of_ble_eq_true rfl) rfl rfl (b_X8_in hx1 (by decide) (by decide)) (fun x101 M102 hM103 r104 hk => ?_)
  obtain ⟨ee, hk⟩ := hk
  have ee := ee.symm
  subst ee
  rcases hk with ⟨ee, c⟩ | ⟨ee, c⟩
  · have ee := ee.symm
    subst ee
    have h := h.1 c
    refine q_if_eq hC dX8_child_8 (t := 18) (by decide) rfl (by decide) (fun c => ?_) (fun c => ?_)
    · exact absurd c (by decide)
    · refine q_iload_n hC dX8_child_11 rfl rfl ?_
      refine q_callSi hC (As := [.inl x2]) md_X8_isPatrol ms_X8_isPatrol ml_X8_78 dX8_child_12 rfl (Nat.le_of_ble_eq_true rfl) rfl rfl (b_X8_isPatrol hx2) (fun x105 M106 hM107 r108 hk => ?_)
      obtain ⟨ee, hk⟩ := hk
      have ee := ee.symm
      subst ee
      rcases hk with ⟨ee, c⟩ | ⟨ee, c⟩
      · have ee := ee.symm
        subst ee
        have h := h.1 c
        refine q_if_ne hC dX8_child_15 (t := 20) (by decide) rfl (by decide) (fun c => ?_) (fun c => ?_)
        · refine q_aload_n hC dX8_child_20 rfl rfl ?_
          refine q_getr hC fl_X8_7 ly_63 rfl dX8_child_21 rfl ?_
          refine q_iconst hC dX8_child_24 rfl ?_
          refine q_iald hC ly_64 dX8_child_25 rfl (by decide) ?_
          refine q_bipush hC dX8_child_26 (by decide) rfl ?_
          refine q_icmp_ne hC dX8_child_28 (t := 34) (by decide) rfl (hM 64 0) (by decide) (fun c => ?_) (fun c => ?_)
          · have h := h.1 c
            refine q_aload_n hC dX8_child_34 rfl rfl ?_
            refine q_getr hC fl_X8_13 ly_63 rfl dX8_child_35 rfl ?_
            refine q_aload_n hC dX8_child_38 rfl rfl ?_
            refine q_getr hC fl_X8_7 ly_63 rfl dX8_child_39 rfl ?_
            refine q_iconst hC dX8_child_42 rfl ?_
            refine q_iald hC ly_64 dX8_child_43 rfl (by decide) ?_
            refine q_iload_n hC dX8_child_44 rfl rfl ?_
            obtain ⟨r109, h⟩ := h
            have hM110 : qIn (qU M 65 (M 64 0) x1) := (qU_in hM hx1)
            refine q_iast hC ly_65 dX8_child_45 rfl r109 hx1 ?_
            refine q_aload_n hC dX8_child_46 rfl rfl ?_
            refine q_getr hC fl_X8_16 ly_63 rfl dX8_child_47 rfl ?_
            refine q_aload_n hC dX8_child_50 rfl rfl ?_
            refine q_getr hC fl_X8_7 ly_63 rfl dX8_child_51 rfl ?_
            refine q_iconst hC dX8_child_54 rfl ?_
            refine q_iald hC ly_64 dX8_child_55 rfl (by decide) ?_
            refine q_iload_n hC dX8_child_56 rfl rfl ?_
            obtain ⟨r111, h⟩ := h
            have hM112 : qIn (qU (qU M 65 (M 64 0) x1) 66 ((qU M 65 (M 64 0) x1) 64 0) x2) := (qU_in hM110 hx2)
            refine q_iast hC ly_66 dX8_child_57 rfl r111 hx2 ?_
            refine q_aload_n hC dX8_child_58 rfl rfl ?_
            refine q_iconst hC dX8_child_59 rfl ?_
            obtain ⟨r113, h⟩ := h
            refine q_callVi hC (As := [.inl 0]) md_X8_came mv_X8_came ml_X8_82 ly_63 rfl dX8_child_60 rfl (Nat.le_of_ble_eq_true rfl) rfl rfl (b_X8_came (by decide) (by decide) r113) (fun x115 M116 hM114 r117 hk => ?_)
            obtain ⟨ee, hk⟩ := hk
            have ee := ee.symm
            subst ee
            have hk := hk.symm
            subst hk
            exact q_iret hC hQ dX8_child_63 r117 h
          · have h := h.2 c
            refine q_bipush hC dX8_child_31 (by decide) rfl ?_
            exact q_iret hC hQ dX8_child_33 (by decide) h
        · exact absurd c (by decide)
      · have ee := ee.symm
        subst ee
        have h := h.2 c
        refine q_if_ne hC dX8_child_15 (t := 20) (by decide) rfl (by decide) (fun c => ?_) (fun c => ?_)
        · exact absurd c (by decide)
        · refine q_iconst hC dX8_child_18 rfl ?_
          exact q_iret hC hQ dX8_child_19 (by decide) h
  · have ee := ee.symm
    subst ee
    have h := h.2 c
    refine q_if_eq hC dX8_child_8 (t := 18) (by decide) rfl (by decide) (fun c => ?_) (fun c => ?_)
    · refine q_iconst hC dX8_child_18 rfl ?_
      exact q_iret hC hQ dX8_child_19 (by decide) h
    · exact absurd c (by decide)
set_option maxRecDepth 20000 in
theorem e_X8_change {g : qG} {d : Nat} {M : qM} {K : Int → qM → Prop} {x1 : Int} {x2 : Int} {x3 : Int} (hx1 : qR x1) (hx2 : qR x2) (hx3 : qR x3) (h : (0 ≤ (M 64 0)) ∧ (((0 ≤ x1 ∧ x1 < (M 64 0)) → (((0 ≤ x2 ∧ x2 ≤ 1) → ((x2 ≠ 0 → ((x2 ≠ 0 → (((0 ≤ x3 ∧ x3 ≤ 3) → ((x2 ≠ 0 → (0 ≤ x1 ∧ x1 < 10) ∧ ((x2 ≠ 0 → (K (M 66 x1) (qU M 66 x1 x3))) ∧ (x2 = 0 → (K (M 66 x1) (qU M 65 x1 x3))))) ∧ (x2 = 0 → (0 ≤ x1 ∧ x1 < 10) ∧ ((x2 ≠ 0 → (K (M 65 x1) (qU M 66 x1 x3))) ∧ (x2 = 0 → (K (M 65 x1) (qU M 65 x1 x3))))))) ∧ ((x3 < 0 ∨ 3 < x3) → (K (-1) M)))) ∧ (x2 = 0 → (((0 ≤ x3 ∧ x3 ≤ 18) → ((x2 ≠ 0 → (0 ≤ x1 ∧ x1 < 10) ∧ ((x2 ≠ 0 → (K (M 66 x1) (qU M 66 x1 x3))) ∧ (x2 = 0 → (K (M 66 x1) (qU M 65 x1 x3))))) ∧ (x2 = 0 → (0 ≤ x1 ∧ x1 < 10) ∧ ((x2 ≠ 0 → (K (M 65 x1) (qU M 66 x1 x3))) ∧ (x2 = 0 → (K (M 65 x1) (qU M 65 x1 x3))))))) ∧ ((x3 < 0 ∨ 18 < x3) → (K (-1) M)))))) ∧ (x2 = 0 → ((x2 ≠ 0 → (((6 ≤ x3 ∧ x3 ≤ 3) → ((x2 ≠ 0 → (0 ≤ x1 ∧ x1 < 10) ∧ ((x2 ≠ 0 → (K (M 66 x1) (qU M 66 x1 x3))) ∧ (x2 = 0 → (K (M 66 x1) (qU M 65 x1 x3))))) ∧ (x2 = 0 → (0 ≤ x1 ∧ x1 < 10) ∧ ((x2 ≠ 0 → (K (M 65 x1) (qU M 66 x1 x3))) ∧ (x2 = 0 → (K (M 65 x1) (qU M 65 x1 x3))))))) ∧ ((x3 < 6 ∨ 3 < x3) → (K (-1) M)))) ∧ (x2 = 0 → (((6 ≤ x3 ∧ x3 ≤ 18) → ((x2 ≠ 0 → (0 ≤ x1 ∧ x1 < 10) ∧ ((x2 ≠ 0 → (K (M 66 x1) (qU M 66 x1 x3))) ∧ (x2 = 0 → (K (M 66 x1) (qU M 65 x1 x3))))) ∧ (x2 = 0 → (0 ≤ x1 ∧ x1 < 10) ∧ ((x2 ≠ 0 → (K (M 65 x1) (qU M 66 x1 x3))) ∧ (x2 = 0 → (K (M 65 x1) (qU M 65 x1 x3))))))) ∧ ((x3 < 6 ∨ 18 < x3) → (K (-1) M)))))))) ∧ ((x2 < 0 ∨ 1 < x2) → (K (-1) M)))) ∧ ((x1 < 0 ∨ (M 64 0) ≤ x1) → (K (-1) M)))) : qOk g (d + 2) j_X8_change [.inr 63, .inl x1, .inl x2, .inl x3] M (qI K) := by
  refine qOk.of (by decide) (Nat.le_of_ble_eq_true rfl) (fun C hC hQ => ?_)
  have hC : qCk g C cX8_change RX8 5 (d + 2) := hC
  have hQ : qRt g C (some .int) (qI K) := hQ
  show qW g C 0 [some (.inr 63), some (.inl x1), some (.inl x2), some (.inl x3), none] [] M
  refine qW.rm (fun hM => ?_)
  refine q_aload_n hC dX8_change_0 rfl rfl ?_
  refine q_iconst hC dX8_change_1 rfl ?_
  refine q_iload_n hC dX8_change_2 rfl rfl ?_
  obtain ⟨r101, h⟩ := h
  refine q_callVi hC (As := [.inl 0, .inl x1]) md_X8_is mv_X8_is ml_X8_86 ly_63 rfl dX8_change_3 rfl (Nat.le_of_ble_eq_true rfl) rfl rfl (b_X8_is (by decide) hx1 (by decide) r101) (fun x102 M103 hM104 r105 hk => ?_)
  obtain ⟨ee, hk⟩ := hk
  have ee := ee.symm
  subst ee
  rcases hk with ⟨ee, c⟩ | ⟨ee, c⟩
  · have ee := ee.symm
    subst ee
    have h := h.1 c
    refine q_if_eq hC dX8_change_6 (t := 45) (by decide) rfl (by decide) (fun c => ?_) (fun c => ?_)
    · exact absurd c (by decide)
    · refine q_iload_n hC dX8_change_9 rfl rfl ?_
      refine q_iconst hC dX8_change_10 rfl ?_
      refine q_iconst hC dX8_change_11 rfl ?_
      refine q_callSi hC (As := [.inl x2, .inl 0, .inl 1]) md_X8_in ms_X8_in ml_X8_74 dX8_change_12 rfl (Nat.le_of_ble_eq_true rfl) rfl rfl (b_X8_in hx2 (by decide) (by decide)) (fun x106 M107 hM108 r109 hk => ?_)
      obtain ⟨ee, hk⟩ := hk
      have ee := ee.symm
      subst ee
      rcases hk with ⟨ee, c⟩ | ⟨ee, c⟩
      · have ee := ee.symm
        subst ee
        have h := h.1 c
        refine q_if_eq hC dX8_change_15 (t := 45) (by decide) rfl (by decide) (fun c => ?_) (fun c => ?_)
        · exact absurd c (by decide)
        · refine q_iload_n hC dX8_change_18 rfl rfl ?_
          refine q_iload_n hC dX8_change_19 rfl rfl ?_
          refine q_if_ne hC dX8_change_20 (t := 28) (by decide) rfl hx2 (fun c => ?_) (fun c => ?_)
          · have h := h.1 c
            refine q_iconst hC dX8_change_28 rfl ?_
            refine q_iload_n hC dX8_change_29 rfl rfl ?_
            refine q_if_ne hC dX8_change_30 (t := 38) (by decide) rfl hx2 (fun c => ?_) (fun c => ?_)
            · have h := h.1 c
              refine q_iconst hC dX8_change_38 rfl ?_
              refine q_callSi hC (As := [.inl x3, .inl 0, .inl 3]) md_X8_in ms_X8_in ml_X8_74 dX8_change_39 rfl (Nat.le_of_ble_eq_true rfl) rfl rfl (b_X8_in hx3 (by decide) (by decide)) (fun x110 M111 hM112 r113 hk => ?_)
              obtain ⟨ee, hk⟩ := hk
              have ee := ee.symm
              subst ee
              rcases hk with ⟨ee, c⟩ | ⟨ee, c⟩
              · have ee := ee.symm
                subst ee
                have h := h.1 c
                refine q_if_ne hC dX8_change_42 (t := 47) (by decide) rfl (by decide) (fun c => ?_) (fun c => ?_)
                · refine q_iload_n hC dX8_change_47 rfl rfl ?_
                  refine q_if_ne hC dX8_change_48 (t := 60) (by decide) rfl hx2 (fun c => ?_) (fun c => ?_)
                  · have h := h.1 c
                    refine q_aload_n hC dX8_change_60 rfl rfl ?_
                    refine q_getr hC fl_X8_16 ly_63 rfl dX8_change_61 rfl ?_
                    refine q_iload_n hC dX8_change_64 rfl rfl ?_
                    obtain ⟨r114, h⟩ := h
                    refine q_iald hC ly_66 dX8_change_65 rfl r114 ?_
                    refine q_istore hC dX8_change_66 (Nat.le_of_ble_eq_true rfl) (loc' := [some (.inr 63), some (.inl x1), some (.inl x2), some (.inl x3), some (.inl (M 66 x1))]) rfl rfl ?_
                    refine q_iload_n hC dX8_change_68 rfl rfl ?_
                    refine q_if_ne hC dX8_change_69 (t := 82) (by decide) rfl hx2 (fun c => ?_) (fun c => ?_)
                    · have h := h.1 c
                      refine q_aload_n hC dX8_change_82 rfl rfl ?_
                      refine q_getr hC fl_X8_16 ly_63 rfl dX8_change_83 rfl ?_
                      refine q_iload_n hC dX8_change_86 rfl rfl ?_
                      refine q_iload_n hC dX8_change_87 rfl rfl ?_
                      have hM115 : qIn (qU M 66 x1 x3) := (qU_in hM hx3)
                      refine q_iast hC ly_66 dX8_change_88 rfl r114 hx3 ?_
                      refine q_iload hC dX8_change_89 rfl rfl ?_
                      exact q_iret hC hQ dX8_change_91 (hM 66 x1) h
                    · have h := h.2 c
                      refine q_aload_n hC dX8_change_72 rfl rfl ?_
                      refine q_getr hC fl_X8_13 ly_63 rfl dX8_change_73 rfl ?_
                      refine q_iload_n hC dX8_change_76 rfl rfl ?_
                      refine q_iload_n hC dX8_change_77 rfl rfl ?_
                      have hM116 : qIn (qU M 65 x1 x3) := (qU_in hM hx3)
                      refine q_iast hC ly_65 dX8_change_78 rfl r114 hx3 ?_
                      refine q_goto hC dX8_change_79 (q := 89) (by decide) ?_
                      refine q_iload hC dX8_change_89 rfl rfl ?_
                      exact q_iret hC hQ dX8_change_91 (hM 66 x1) h
                  · have h := h.2 c
                    refine q_aload_n hC dX8_change_51 rfl rfl ?_
                    refine q_getr hC fl_X8_13 ly_63 rfl dX8_change_52 rfl ?_
                    refine q_iload_n hC dX8_change_55 rfl rfl ?_
                    obtain ⟨r117, h⟩ := h
                    refine q_iald hC ly_65 dX8_change_56 rfl r117 ?_
                    refine q_goto hC dX8_change_57 (q := 66) (by decide) ?_
                    refine q_istore hC dX8_change_66 (Nat.le_of_ble_eq_true rfl) (loc' := [some (.inr 63), some (.inl x1), some (.inl x2), some (.inl x3), some (.inl (M 65 x1))]) rfl rfl ?_
                    refine q_iload_n hC dX8_change_68 rfl rfl ?_
                    refine q_if_ne hC dX8_change_69 (t := 82) (by decide) rfl hx2 (fun c => ?_) (fun c => ?_)
                    · have h := h.1 c
                      refine q_aload_n hC dX8_change_82 rfl rfl ?_
                      refine q_getr hC fl_X8_16 ly_63 rfl dX8_change_83 rfl ?_
                      refine q_iload_n hC dX8_change_86 rfl rfl ?_
                      refine q_iload_n hC dX8_change_87 rfl rfl ?_
                      have hM118 : qIn (qU M 66 x1 x3) := (qU_in hM hx3)
                      refine q_iast hC ly_66 dX8_change_88 rfl r117 hx3 ?_
                      refine q_iload hC dX8_change_89 rfl rfl ?_
                      exact q_iret hC hQ dX8_change_91 (hM 65 x1) h
                    · have h := h.2 c
                      refine q_aload_n hC dX8_change_72 rfl rfl ?_
                      refine q_getr hC fl_X8_13 ly_63 rfl dX8_change_73 rfl ?_
                      refine q_iload_n hC dX8_change_76 rfl rfl ?_
                      refine q_iload_n hC dX8_change_77 rfl rfl ?_
                      have hM119 : qIn (qU M 65 x1 x3) := (qU_in hM hx3)
                      refine q_iast hC ly_65 dX8_change_78 rfl r117 hx3 ?_
                      refine q_goto hC dX8_change_79 (q := 89) (by decide) ?_
                      refine q_iload hC dX8_change_89 rfl rfl ?_
                      exact q_iret hC hQ dX8_change_91 (hM 65 x1) h
                · exact absurd c (by decide)
              · have ee := ee.symm
                subst ee
                have h := h.2 c
                refine q_if_ne hC dX8_change_42 (t := 47) (by decide) rfl (by decide) (fun c => ?_) (fun c => ?_)
                · exact absurd c (by decide)
                · refine q_iconst hC dX8_change_45 rfl ?_
                  exact q_iret hC hQ dX8_change_46 (by decide) h
            · have h := h.2 c
              refine q_bipush hC dX8_change_33 (by decide) rfl ?_
              refine q_goto hC dX8_change_35 (q := 39) (by decide) ?_
              refine q_callSi hC (As := [.inl x3, .inl 0, .inl 18]) md_X8_in ms_X8_in ml_X8_74 dX8_change_39 rfl (Nat.le_of_ble_eq_true rfl) rfl rfl (b_X8_in hx3 (by decide) (by decide)) (fun x120 M121 hM122 r123 hk => ?_)
              obtain ⟨ee, hk⟩ := hk
              have ee := ee.symm
              subst ee
              rcases hk with ⟨ee, c⟩ | ⟨ee, c⟩
              · have ee := ee.symm
                subst ee
                have h := h.1 c
                refine q_if_ne hC dX8_change_42 (t := 47) (by decide) rfl (by decide) (fun c => ?_) (fun c => ?_)
                · refine q_iload_n hC dX8_change_47 rfl rfl ?_
                  refine q_if_ne hC dX8_change_48 (t := 60) (by decide) rfl hx2 (fun c => ?_) (fun c => ?_)
                  · have h := h.1 c
                    refine q_aload_n hC dX8_change_60 rfl rfl ?_
                    refine q_getr hC fl_X8_16 ly_63 rfl dX8_change_61 rfl ?_
                    refine q_iload_n hC dX8_change_64 rfl rfl ?_
                    obtain ⟨r124, h⟩ := h
                    refine q_iald hC ly_66 dX8_change_65 rfl r124 ?_
                    refine q_istore hC dX8_change_66 (Nat.le_of_ble_eq_true rfl) (loc' := [some (.inr 63), some (.inl x1), some (.inl x2), some (.inl x3), some (.inl (M 66 x1))]) rfl rfl ?_
                    refine q_iload_n hC dX8_change_68 rfl rfl ?_
                    refine q_if_ne hC dX8_change_69 (t := 82) (by decide) rfl hx2 (fun c => ?_) (fun c => ?_)
                    · have h := h.1 c
                      refine q_aload_n hC dX8_change_82 rfl rfl ?_
                      refine q_getr hC fl_X8_16 ly_63 rfl dX8_change_83 rfl ?_
                      refine q_iload_n hC dX8_change_86 rfl rfl ?_
                      refine q_iload_n hC dX8_change_87 rfl rfl ?_
                      have hM125 : qIn (qU M 66 x1 x3) := (qU_in hM hx3)
                      refine q_iast hC ly_66 dX8_change_88 rfl r124 hx3 ?_
                      refine q_iload hC dX8_change_89 rfl rfl ?_
                      exact q_iret hC hQ dX8_change_91 (hM 66 x1) h
                    · have h := h.2 c
                      refine q_aload_n hC dX8_change_72 rfl rfl ?_
                      refine q_getr hC fl_X8_13 ly_63 rfl dX8_change_73 rfl ?_
                      refine q_iload_n hC dX8_change_76 rfl rfl ?_
                      refine q_iload_n hC dX8_change_77 rfl rfl ?_
                      have hM126 : qIn (qU M 65 x1 x3) := (qU_in hM hx3)
                      refine q_iast hC ly_65 dX8_change_78 rfl r124 hx3 ?_
                      refine q_goto hC dX8_change_79 (q := 89) (by decide) ?_
                      refine q_iload hC dX8_change_89 rfl rfl ?_
                      exact q_iret hC hQ dX8_change_91 (hM 66 x1) h
                  · have h := h.2 c
                    refine q_aload_n hC dX8_change_51 rfl rfl ?_
                    refine q_getr hC fl_X8_13 ly_63 rfl dX8_change_52 rfl ?_
                    refine q_iload_n hC dX8_change_55 rfl rfl ?_
                    obtain ⟨r127, h⟩ := h
                    refine q_iald hC ly_65 dX8_change_56 rfl r127 ?_
                    refine q_goto hC dX8_change_57 (q := 66) (by decide) ?_
                    refine q_istore hC dX8_change_66 (Nat.le_of_ble_eq_true rfl) (loc' := [some (.inr 63), some (.inl x1), some (.inl x2), some (.inl x3), some (.inl (M 65 x1))]) rfl rfl ?_
                    refine q_iload_n hC dX8_change_68 rfl rfl ?_
                    refine q_if_ne hC dX8_change_69 (t := 82) (by decide) rfl hx2 (fun c => ?_) (fun c => ?_)
                    · have h := h.1 c
                      refine q_aload_n hC dX8_change_82 rfl rfl ?_
                      refine q_getr hC fl_X8_16 ly_63 rfl dX8_change_83 rfl ?_
                      refine q_iload_n hC dX8_change_86 rfl rfl ?_
                      refine q_iload_n hC dX8_change_87 rfl rfl ?_
                      have hM128 : qIn (qU M 66 x1 x3) := (qU_in hM hx3)
                      refine q_iast hC ly_66 dX8_change_88 rfl r127 hx3 ?_
                      refine q_iload hC dX8_change_89 rfl rfl ?_
                      exact q_iret hC hQ dX8_change_91 (hM 65 x1) h
                    · have h := h.2 c
                      refine q_aload_n hC dX8_change_72 rfl rfl ?_
                      refine q_getr hC fl_X8_13 ly_63 rfl dX8_change_73 rfl ?_
                      refine q_iload_n hC dX8_change_76 rfl rfl ?_
                      refine q_iload_n hC dX8_change_77 rfl rfl ?_
                      have hM129 : qIn (qU M 65 x1 x3) := (qU_in hM hx3)
                      refine q_iast hC ly_65 dX8_change_78 rfl r127 hx3 ?_
                      refine q_goto hC dX8_change_79 (q := 89) (by decide) ?_
                      refine q_iload hC dX8_change_89 rfl rfl ?_
                      exact q_iret hC hQ dX8_change_91 (hM 65 x1) h
                · exact absurd c (by decide)
              · have ee := ee.symm
                subst ee
                have h := h.2 c
                refine q_if_ne hC dX8_change_42 (t := 47) (by decide) rfl (by decide) (fun c => ?_) (fun c => ?_)
                · exact absurd c (by decide)
                · refine q_iconst hC dX8_change_45 rfl ?_
                  exact q_iret hC hQ dX8_change_46 (by decide) h
          · have h := h.2 c
            refine q_bipush hC dX8_change_23 (by decide) rfl ?_
            refine q_goto hC dX8_change_25 (q := 29) (by decide) ?_
            refine q_iload_n hC dX8_change_29 rfl rfl ?_
            refine q_if_ne hC dX8_change_30 (t := 38) (by decide) rfl hx2 (fun c => ?_) (fun c => ?_)
            · have h := h.1 c
              refine q_iconst hC dX8_change_38 rfl ?_
              refine q_callSi hC (As := [.inl x3, .inl 6, .inl 3]) md_X8_in ms_X8_in ml_X8_74 dX8_change_39 rfl (Nat.le_of_ble_eq_true rfl) rfl rfl (b_X8_in hx3 (by decide) (by decide)) (fun x130 M131 hM132 r133 hk => ?_)
              obtain ⟨ee, hk⟩ := hk
              have ee := ee.symm
              subst ee
              rcases hk with ⟨ee, c⟩ | ⟨ee, c⟩
              · have ee := ee.symm
                subst ee
                have h := h.1 c
                refine q_if_ne hC dX8_change_42 (t := 47) (by decide) rfl (by decide) (fun c => ?_) (fun c => ?_)
                · refine q_iload_n hC dX8_change_47 rfl rfl ?_
                  refine q_if_ne hC dX8_change_48 (t := 60) (by decide) rfl hx2 (fun c => ?_) (fun c => ?_)
                  · have h := h.1 c
                    refine q_aload_n hC dX8_change_60 rfl rfl ?_
                    refine q_getr hC fl_X8_16 ly_63 rfl dX8_change_61 rfl ?_
                    refine q_iload_n hC dX8_change_64 rfl rfl ?_
                    obtain ⟨r134, h⟩ := h
                    refine q_iald hC ly_66 dX8_change_65 rfl r134 ?_
                    refine q_istore hC dX8_change_66 (Nat.le_of_ble_eq_true rfl) (loc' := [some (.inr 63), some (.inl x1), some (.inl x2), some (.inl x3), some (.inl (M 66 x1))]) rfl rfl ?_
                    refine q_iload_n hC dX8_change_68 rfl rfl ?_
                    refine q_if_ne hC dX8_change_69 (t := 82) (by decide) rfl hx2 (fun c => ?_) (fun c => ?_)
                    · have h := h.1 c
                      refine q_aload_n hC dX8_change_82 rfl rfl ?_
                      refine q_getr hC fl_X8_16 ly_63 rfl dX8_change_83 rfl ?_
                      refine q_iload_n hC dX8_change_86 rfl rfl ?_
                      refine q_iload_n hC dX8_change_87 rfl rfl ?_
                      have hM135 : qIn (qU M 66 x1 x3) := (qU_in hM hx3)
                      refine q_iast hC ly_66 dX8_change_88 rfl r134 hx3 ?_
                      refine q_iload hC dX8_change_89 rfl rfl ?_
                      exact q_iret hC hQ dX8_change_91 (hM 66 x1) h
                    · have h := h.2 c
                      refine q_aload_n hC dX8_change_72 rfl rfl ?_
                      refine q_getr hC fl_X8_13 ly_63 rfl dX8_change_73 rfl ?_
                      refine q_iload_n hC dX8_change_76 rfl rfl ?_
                      refine q_iload_n hC dX8_change_77 rfl rfl ?_
                      have hM136 : qIn (qU M 65 x1 x3) := (qU_in hM hx3)
                      refine q_iast hC ly_65 dX8_change_78 rfl r134 hx3 ?_
                      refine q_goto hC dX8_change_79 (q := 89) (by decide) ?_
                      refine q_iload hC dX8_change_89 rfl rfl ?_
                      exact q_iret hC hQ dX8_change_91 (hM 66 x1) h
                  · have h := h.2 c
                    refine q_aload_n hC dX8_change_51 rfl rfl ?_
                    refine q_getr hC fl_X8_13 ly_63 rfl dX8_change_52 rfl ?_
                    refine q_iload_n hC dX8_change_55 rfl rfl ?_
                    obtain ⟨r137, h⟩ := h
                    refine q_iald hC ly_65 dX8_change_56 rfl r137 ?_
                    refine q_goto hC dX8_change_57 (q := 66) (by decide) ?_
                    refine q_istore hC dX8_change_66 (Nat.le_of_ble_eq_true rfl) (loc' := [some (.inr 63), some (.inl x1), some (.inl x2), some (.inl x3), some (.inl (M 65 x1))]) rfl rfl ?_
                    refine q_iload_n hC dX8_change_68 rfl rfl ?_
                    refine q_if_ne hC dX8_change_69 (t := 82) (by decide) rfl hx2 (fun c => ?_) (fun c => ?_)
                    · have h := h.1 c
                      refine q_aload_n hC dX8_change_82 rfl rfl ?_
                      refine q_getr hC fl_X8_16 ly_63 rfl dX8_change_83 rfl ?_
                      refine q_iload_n hC dX8_change_86 rfl rfl ?_
                      refine q_iload_n hC dX8_change_87 rfl rfl ?_
                      have hM138 : qIn (qU M 66 x1 x3) := (qU_in hM hx3)
                      refine q_iast hC ly_66 dX8_change_88 rfl r137 hx3 ?_
                      refine q_iload hC dX8_change_89 rfl rfl ?_
                      exact q_iret hC hQ dX8_change_91 (hM 65 x1) h
                    · have h := h.2 c
                      refine q_aload_n hC dX8_change_72 rfl rfl ?_
                      refine q_getr hC fl_X8_13 ly_63 rfl dX8_change_73 rfl ?_
                      refine q_iload_n hC dX8_change_76 rfl rfl ?_
                      refine q_iload_n hC dX8_change_77 rfl rfl ?_
                      have hM139 : qIn (qU M 65 x1 x3) := (qU_in hM hx3)
                      refine q_iast hC ly_65 dX8_change_78 rfl r137 hx3 ?_
                      refine q_goto hC dX8_change_79 (q := 89) (by decide) ?_
                      refine q_iload hC dX8_change_89 rfl rfl ?_
                      exact q_iret hC hQ dX8_change_91 (hM 65 x1) h
                · exact absurd c (by decide)
              · have ee := ee.symm
                subst ee
                have h := h.2 c
                refine q_if_ne hC dX8_change_42 (t := 47) (by decide) rfl (by decide) (fun c => ?_) (fun c => ?_)
                · exact absurd c (by decide)
                · refine q_iconst hC dX8_change_45 rfl ?_
                  exact q_iret hC hQ dX8_change_46 (by decide) h
            · have h := h.2 c
              refine q_bipush hC dX8_change_33 (by decide) rfl ?_
              refine q_goto hC dX8_change_35 (q := 39) (by decide) ?_
              refine q_callSi hC (As := [.inl x3, .inl 6, .inl 18]) md_X8_in ms_X8_in ml_X8_74 dX8_change_39 rfl (Nat.le_of_ble_eq_true rfl) rfl rfl (b_X8_in hx3 (by decide) (by decide)) (fun x140 M141 hM142 r143 hk => ?_)
              obtain ⟨ee, hk⟩ := hk
              have ee := ee.symm
              subst ee
              rcases hk with ⟨ee, c⟩ | ⟨ee, c⟩
              · have ee := ee.symm
                subst ee
                have h := h.1 c
                refine q_if_ne hC dX8_change_42 (t := 47) (by decide) rfl (by decide) (fun c => ?_) (fun c => ?_)
                · refine q_iload_n hC dX8_change_47 rfl rfl ?_
                  refine q_if_ne hC dX8_change_48 (t := 60) (by decide) rfl hx2 (fun c => ?_) (fun c => ?_)
                  · have h := h.1 c
                    refine q_aload_n hC dX8_change_60 rfl rfl ?_
                    refine q_getr hC fl_X8_16 ly_63 rfl dX8_change_61 rfl ?_
                    refine q_iload_n hC dX8_change_64 rfl rfl ?_
                    obtain ⟨r144, h⟩ := h
                    refine q_iald hC ly_66 dX8_change_65 rfl r144 ?_
                    refine q_istore hC dX8_change_66 (Nat.le_of_ble_eq_true rfl) (loc' := [some (.inr 63), some (.inl x1), some (.inl x2), some (.inl x3), some (.inl (M 66 x1))]) rfl rfl ?_
                    refine q_iload_n hC dX8_change_68 rfl rfl ?_
                    refine q_if_ne hC dX8_change_69 (t := 82) (by decide) rfl hx2 (fun c => ?_) (fun c => ?_)
                    · have h := h.1 c
                      refine q_aload_n hC dX8_change_82 rfl rfl ?_
                      refine q_getr hC fl_X8_16 ly_63 rfl dX8_change_83 rfl ?_
                      refine q_iload_n hC dX8_change_86 rfl rfl ?_
                      refine q_iload_n hC dX8_change_87 rfl rfl ?_
                      have hM145 : qIn (qU M 66 x1 x3) := (qU_in hM hx3)
                      refine q_iast hC ly_66 dX8_change_88 rfl r144 hx3 ?_
                      refine q_iload hC dX8_change_89 rfl rfl ?_
                      exact q_iret hC hQ dX8_change_91 (hM 66 x1) h
                    · have h := h.2 c
                      refine q_aload_n hC dX8_change_72 rfl rfl ?_
                      refine q_getr hC fl_X8_13 ly_63 rfl dX8_change_73 rfl ?_
                      refine q_iload_n hC dX8_change_76 rfl rfl ?_
                      refine q_iload_n hC dX8_change_77 rfl rfl ?_
                      have hM146 : qIn (qU M 65 x1 x3) := (qU_in hM hx3)
                      refine q_iast hC ly_65 dX8_change_78 rfl r144 hx3 ?_
                      refine q_goto hC dX8_change_79 (q := 89) (by decide) ?_
                      refine q_iload hC dX8_change_89 rfl rfl ?_
                      exact q_iret hC hQ dX8_change_91 (hM 66 x1) h
                  · have h := h.2 c
                    refine q_aload_n hC dX8_change_51 rfl rfl ?_
                    refine q_getr hC fl_X8_13 ly_63 rfl dX8_change_52 rfl ?_
                    refine q_iload_n hC dX8_change_55 rfl rfl ?_
                    obtain ⟨r147, h⟩ := h
                    refine q_iald hC ly_65 dX8_change_56 rfl r147 ?_
                    refine q_goto hC dX8_change_57 (q := 66) (by decide) ?_
                    refine q_istore hC dX8_change_66 (Nat.le_of_ble_eq_true rfl) (loc' := [some (.inr 63), some (.inl x1), some (.inl x2), some (.inl x3), some (.inl (M 65 x1))]) rfl rfl ?_
                    refine q_iload_n hC dX8_change_68 rfl rfl ?_
                    refine q_if_ne hC dX8_change_69 (t := 82) (by decide) rfl hx2 (fun c => ?_) (fun c => ?_)
                    · have h := h.1 c
                      refine q_aload_n hC dX8_change_82 rfl rfl ?_
                      refine q_getr hC fl_X8_16 ly_63 rfl dX8_change_83 rfl ?_
                      refine q_iload_n hC dX8_change_86 rfl rfl ?_
                      refine q_iload_n hC dX8_change_87 rfl rfl ?_
                      have hM148 : qIn (qU M 66 x1 x3) := (qU_in hM hx3)
                      refine q_iast hC ly_66 dX8_change_88 rfl r147 hx3 ?_
                      refine q_iload hC dX8_change_89 rfl rfl ?_
                      exact q_iret hC hQ dX8_change_91 (hM 65 x1) h
                    · have h := h.2 c
                      refine q_aload_n hC dX8_change_72 rfl rfl ?_
                      refine q_getr hC fl_X8_13 ly_63 rfl dX8_change_73 rfl ?_
                      refine q_iload_n hC dX8_change_76 rfl rfl ?_
                      refine q_iload_n hC dX8_change_77 rfl rfl ?_
                      have hM149 : qIn (qU M 65 x1 x3) := (qU_in hM hx3)
                      refine q_iast hC ly_65 dX8_change_78 rfl r147 hx3 ?_
                      refine q_goto hC dX8_change_79 (q := 89) (by decide) ?_
                      refine q_iload hC dX8_change_89 rfl rfl ?_
                      exact q_iret hC hQ dX8_change_91 (hM 65 x1) h
                · exact absurd c (by decide)
              · have ee := ee.symm
                subst ee
                have h := h.2 c
                refine q_if_ne hC dX8_change_42 (t := 47) (by decide) rfl (by decide) (fun c => ?_) (fun c => ?_)
                · exact absurd c (by decide)
                · refine q_iconst hC dX8_change_45 rfl ?_
                  exact q_iret hC hQ dX8_change_46 (by decide) h
      · have ee := ee.symm
        subst ee
        have h := h.2 c
        refine q_if_eq hC dX8_change_15 (t := 45) (by decide) rfl (by decide) (fun c => ?_) (fun c => ?_)
        · refine q_iconst hC dX8_change_45 rfl ?_
          exact q_iret hC hQ dX8_change_46 (by decide) h
        · exact absurd c (by decide)
  · have ee := ee.symm
    subst ee
    have h := h.2 c
    refine q_if_eq hC dX8_change_6 (t := 45) (by decide) rfl (by decide) (fun c => ?_) (fun c => ?_)
    · refine q_iconst hC dX8_change_45 rfl ?_
      exact q_iret hC hQ dX8_change_46 (by decide) h
    · exact absurd c (by decide)
set_option maxRecDepth 20000 in
theorem e_X8_leader {g : qG} {d : Nat} {M : qM} {K : Int → qM → Prop}   (h : ∀ C : qX, qCk g C cX8_leader RX8 3 (d + 1) → qRt g C (some .int) (qI K) → (((M 64 1) ≠ 5 → (0 ≤ (M 64 1) ∧ (M 64 1) < 5) ∧ (qW g C 29 [some (.inr 63), some (.inl (M 64 1)), some (.inl 0)] [] (qU M 69 (M 64 1) 0))) ∧ ((M 64 1) = 5 → (K (-2) M)))) : qOk g (d + 1) j_X8_leader [.inr 63] M (qI K) := by
  refine qOk.of (by decide) (Nat.le_of_ble_eq_true rfl) (fun C hC hQ => ?_)
  have hC : qCk g C cX8_leader RX8 3 (d + 1) := hC
  have hQ : qRt g C (some .int) (qI K) := hQ
  have h := h C hC hQ
  show qW g C 0 [some (.inr 63), none, none] [] M
  refine qW.rm (fun hM => ?_)
  refine q_aload_n hC dX8_leader_0 rfl rfl ?_
  refine q_getr hC fl_X8_7 ly_63 rfl dX8_leader_1 rfl ?_
  refine q_iconst hC dX8_leader_4 rfl ?_
  refine q_iald hC ly_64 dX8_leader_5 rfl (by decide) ?_
  refine q_iconst hC dX8_leader_6 rfl ?_
  refine q_icmp_ne hC dX8_leader_7 (t := 13) (by decide) rfl (hM 64 1) (by decide) (fun c => ?_) (fun c => ?_)
  · have h := h.1 c
    refine q_aload_n hC dX8_leader_13 rfl rfl ?_
    refine q_getr hC fl_X8_7 ly_63 rfl dX8_leader_14 rfl ?_
    refine q_iconst hC dX8_leader_17 rfl ?_
    refine q_iald hC ly_64 dX8_leader_18 rfl (by decide) ?_
    refine q_istore_n hC dX8_leader_19 (Nat.le_of_ble_eq_true rfl) (loc' := [some (.inr 63), some (.inl (M 64 1)), none]) rfl rfl ?_
    refine q_aload_n hC dX8_leader_20 rfl rfl ?_
    refine q_getr hC fl_X8_25 ly_63 rfl dX8_leader_21 rfl ?_
    refine q_iload_n hC dX8_leader_24 rfl rfl ?_
    refine q_iconst hC dX8_leader_25 rfl ?_
    obtain ⟨r101, h⟩ := h
    have hM102 : qIn (qU M 69 (M 64 1) 0) := (qU_in hM (by decide))
    refine q_iast hC ly_69 dX8_leader_26 rfl r101 (by decide) ?_
    refine q_iconst hC dX8_leader_27 rfl ?_
    refine q_istore_n hC dX8_leader_28 (Nat.le_of_ble_eq_true rfl) (loc' := [some (.inr 63), some (.inl (M 64 1)), some (.inl 0)]) rfl rfl ?_
    exact h
  · have h := h.2 c
    refine q_bipush hC dX8_leader_10 (by decide) rfl ?_
    exact q_iret hC hQ dX8_leader_12 (by decide) h
set_option maxRecDepth 20000 in
theorem s_X8_leader_29 {g : qG} {C : qX} {d : Nat} {M : qM} {K : Int → qM → Prop} (hC : qCk g C cX8_leader RX8 3 (d + 1)) (hQ : qRt g C (some .int) (qI K)) {x1 : Int} {x2 : Int} (hx1 : qR x1) (hx2 : qR x2) (h : ((4 ≤ x2 → (0 ≤ (M 64 1) ∧ (M 64 1) ≤ 80) ∧ (K (M 64 1) (qU M 64 1 ((M 64 1) + 1)))) ∧ (x2 < 4 → (0 ≤ ((4 * x1) + x2) ∧ ((4 * x1) + x2) < 20) ∧ (qW g C 29 [some (.inr 63), some (.inl x1), some (.inl (x2 + 1))] [] (qU M 67 ((4 * x1) + x2) (-1)))))) : qW g C 29 [some (.inr 63), some (.inl x1), some (.inl x2)] [] M := by
  refine qW.rm (fun hM => ?_)
  refine q_iload_n hC dX8_leader_29 rfl rfl ?_
  refine q_iconst hC dX8_leader_30 rfl ?_
  refine q_icmp_ge hC dX8_leader_31 (t := 51) (by decide) rfl hx2 (by decide) (fun c => ?_) (fun c => ?_)
  · have h := h.1 c
    refine q_aload_n hC dX8_leader_51 rfl rfl ?_
    refine q_iconst hC dX8_leader_52 rfl ?_
    obtain ⟨r101, h⟩ := h
    refine q_callVi hC (As := [.inl 1]) md_X8_came mv_X8_came ml_X8_82 ly_63 rfl dX8_leader_53 rfl (Nat.le_of_ble_eq_true rfl) rfl rfl (b_X8_came (by decide) (by decide) r101) (fun x103 M104 hM102 r105 hk => ?_)
    obtain ⟨ee, hk⟩ := hk
    have ee := ee.symm
    subst ee
    have hk := hk.symm
    subst hk
    exact q_iret hC hQ dX8_leader_56 r105 h
  · have h := h.2 c
    refine q_aload_n hC dX8_leader_34 rfl rfl ?_
    refine q_getr hC fl_X8_19 ly_63 rfl dX8_leader_35 rfl ?_
    refine q_iconst hC dX8_leader_38 rfl ?_
    refine q_iload_n hC dX8_leader_39 rfl rfl ?_
    refine q_imul hC dX8_leader_40 rfl ?_
    refine q_iload_n hC dX8_leader_41 rfl rfl ?_
    refine q_iadd hC dX8_leader_42 rfl ?_
    refine q_iconst hC dX8_leader_43 rfl ?_
    obtain ⟨r106, h⟩ := h
    have hM107 : qIn (qU M 67 ((4 * x1) + x2) (-1)) := (qU_in hM (by decide))
    refine q_iast hC ly_67 dX8_leader_44 rfl r106 (by decide) ?_
    refine q_iinc hC dX8_leader_45 rfl (loc' := [some (.inr 63), some (.inl x1), some (.inl (x2 + 1))]) rfl rfl ?_
    refine q_goto hC dX8_leader_48 (q := 29) (by decide) ?_
    exact h
set_option maxRecDepth 20000 in
theorem e_X8_paper {g : qG} {d : Nat} {M : qM} {K : Int → qM → Prop} {x1 : Int} {x2 : Int} {x3 : Int} {x4 : Int} (hx1 : qR x1) (hx2 : qR x2) (hx3 : qR x3) (hx4 : qR x4) (h : (0 ≤ (M 64 1)) ∧ (((0 ≤ x1 ∧ x1 < (M 64 1)) → (((0 ≤ x2 ∧ x2 ≤ 3) → (((0 ≤ x3 ∧ x3 ≤ 999) → (((0 ≤ x4 ∧ x4 ≤ 999) → ((x3 ≤ x4 → (0 ≤ ((4 * x1) + x2) ∧ ((4 * x1) + x2) < 20) ∧ (K 1 (qU (qU M 67 ((4 * x1) + x2) x3) 68 ((4 * x1) + x2) x4))) ∧ (x4 < x3 → (K (-1) M)))) ∧ ((x4 < 0 ∨ 999 < x4) → (K (-1) M)))) ∧ ((x3 < 0 ∨ 999 < x3) → (K (-1) M)))) ∧ ((x2 < 0 ∨ 3 < x2) → (K (-1) M)))) ∧ ((x1 < 0 ∨ (M 64 1) ≤ x1) → (K (-1) M)))) : qOk g (d + 2) j_X8_paper [.inr 63, .inl x1, .inl x2, .inl x3, .inl x4] M (qI K) := by
  refine qOk.of (by decide) (Nat.le_of_ble_eq_true rfl) (fun C hC hQ => ?_)
  have hC : qCk g C cX8_paper RX8 5 (d + 2) := hC
  have hQ : qRt g C (some .int) (qI K) := hQ
  show qW g C 0 [some (.inr 63), some (.inl x1), some (.inl x2), some (.inl x3), some (.inl x4)] [] M
  refine qW.rm (fun hM => ?_)
  refine q_aload_n hC dX8_paper_0 rfl rfl ?_
  refine q_iconst hC dX8_paper_1 rfl ?_
  refine q_iload_n hC dX8_paper_2 rfl rfl ?_
  obtain ⟨r101, h⟩ := h
  refine q_callVi hC (As := [.inl 1, .inl x1]) md_X8_is mv_X8_is ml_X8_86 ly_63 rfl dX8_paper_3 rfl (Nat.le_of_ble_eq_true rfl) rfl rfl (b_X8_is (by decide) hx1 (by decide) r101) (fun x102 M103 hM104 r105 hk => ?_)
  obtain ⟨ee, hk⟩ := hk
  have ee := ee.symm
  subst ee
  rcases hk with ⟨ee, c⟩ | ⟨ee, c⟩
  · have ee := ee.symm
    subst ee
    have h := h.1 c
    refine q_if_eq hC dX8_paper_6 (t := 39) (by decide) rfl (by decide) (fun c => ?_) (fun c => ?_)
    · exact absurd c (by decide)
    · refine q_iload_n hC dX8_paper_9 rfl rfl ?_
      refine q_iconst hC dX8_paper_10 rfl ?_
      refine q_iconst hC dX8_paper_11 rfl ?_
      refine q_callSi hC (As := [.inl x2, .inl 0, .inl 3]) md_X8_in ms_X8_in ml_X8_74 dX8_paper_12 rfl (Nat.le_of_ble_eq_true rfl) rfl rfl (b_X8_in hx2 (by decide) (by decide)) (fun x106 M107 hM108 r109 hk => ?_)
      obtain ⟨ee, hk⟩ := hk
      have ee := ee.symm
      subst ee
      rcases hk with ⟨ee, c⟩ | ⟨ee, c⟩
      · have ee := ee.symm
        subst ee
        have h := h.1 c
        refine q_if_eq hC dX8_paper_15 (t := 39) (by decide) rfl (by decide) (fun c => ?_) (fun c => ?_)
        · exact absurd c (by decide)
        · refine q_iload_n hC dX8_paper_18 rfl rfl ?_
          refine q_callSi hC (As := [.inl x3]) md_X8_isDay ms_X8_isDay ml_X8_90 dX8_paper_19 rfl (Nat.le_of_ble_eq_true rfl) rfl rfl (b_X8_isDay hx3) (fun x110 M111 hM112 r113 hk => ?_)
          obtain ⟨ee, hk⟩ := hk
          have ee := ee.symm
          subst ee
          rcases hk with ⟨ee, c⟩ | ⟨ee, c⟩
          · have ee := ee.symm
            subst ee
            have h := h.1 c
            refine q_if_eq hC dX8_paper_22 (t := 39) (by decide) rfl (by decide) (fun c => ?_) (fun c => ?_)
            · exact absurd c (by decide)
            · refine q_iload hC dX8_paper_25 rfl rfl ?_
              refine q_callSi hC (As := [.inl x4]) md_X8_isDay ms_X8_isDay ml_X8_90 dX8_paper_27 rfl (Nat.le_of_ble_eq_true rfl) rfl rfl (b_X8_isDay hx4) (fun x114 M115 hM116 r117 hk => ?_)
              obtain ⟨ee, hk⟩ := hk
              have ee := ee.symm
              subst ee
              rcases hk with ⟨ee, c⟩ | ⟨ee, c⟩
              · have ee := ee.symm
                subst ee
                have h := h.1 c
                refine q_if_eq hC dX8_paper_30 (t := 39) (by decide) rfl (by decide) (fun c => ?_) (fun c => ?_)
                · exact absurd c (by decide)
                · refine q_iload_n hC dX8_paper_33 rfl rfl ?_
                  refine q_iload hC dX8_paper_34 rfl rfl ?_
                  refine q_icmp_le hC dX8_paper_36 (t := 41) (by decide) rfl hx3 hx4 (fun c => ?_) (fun c => ?_)
                  · have h := h.1 c
                    refine q_aload_n hC dX8_paper_41 rfl rfl ?_
                    refine q_getr hC fl_X8_19 ly_63 rfl dX8_paper_42 rfl ?_
                    refine q_iconst hC dX8_paper_45 rfl ?_
                    refine q_iload_n hC dX8_paper_46 rfl rfl ?_
                    refine q_imul hC dX8_paper_47 rfl ?_
                    refine q_iload_n hC dX8_paper_48 rfl rfl ?_
                    refine q_iadd hC dX8_paper_49 rfl ?_
                    refine q_iload_n hC dX8_paper_50 rfl rfl ?_
                    obtain ⟨r118, h⟩ := h
                    have hM119 : qIn (qU M 67 ((4 * x1) + x2) x3) := (qU_in hM hx3)
                    refine q_iast hC ly_67 dX8_paper_51 rfl r118 hx3 ?_
                    refine q_aload_n hC dX8_paper_52 rfl rfl ?_
                    refine q_getr hC fl_X8_22 ly_63 rfl dX8_paper_53 rfl ?_
                    refine q_iconst hC dX8_paper_56 rfl ?_
                    refine q_iload_n hC dX8_paper_57 rfl rfl ?_
                    refine q_imul hC dX8_paper_58 rfl ?_
                    refine q_iload_n hC dX8_paper_59 rfl rfl ?_
                    refine q_iadd hC dX8_paper_60 rfl ?_
                    refine q_iload hC dX8_paper_61 rfl rfl ?_
                    have hM120 : qIn (qU (qU M 67 ((4 * x1) + x2) x3) 68 ((4 * x1) + x2) x4) := (qU_in hM119 hx4)
                    refine q_iast hC ly_68 dX8_paper_63 rfl r118 hx4 ?_
                    refine q_iconst hC dX8_paper_64 rfl ?_
                    exact q_iret hC hQ dX8_paper_65 (by decide) h
                  · have h := h.2 c
                    refine q_iconst hC dX8_paper_39 rfl ?_
                    exact q_iret hC hQ dX8_paper_40 (by decide) h
              · have ee := ee.symm
                subst ee
                have h := h.2 c
                refine q_if_eq hC dX8_paper_30 (t := 39) (by decide) rfl (by decide) (fun c => ?_) (fun c => ?_)
                · refine q_iconst hC dX8_paper_39 rfl ?_
                  exact q_iret hC hQ dX8_paper_40 (by decide) h
                · exact absurd c (by decide)
          · have ee := ee.symm
            subst ee
            have h := h.2 c
            refine q_if_eq hC dX8_paper_22 (t := 39) (by decide) rfl (by decide) (fun c => ?_) (fun c => ?_)
            · refine q_iconst hC dX8_paper_39 rfl ?_
              exact q_iret hC hQ dX8_paper_40 (by decide) h
            · exact absurd c (by decide)
      · have ee := ee.symm
        subst ee
        have h := h.2 c
        refine q_if_eq hC dX8_paper_15 (t := 39) (by decide) rfl (by decide) (fun c => ?_) (fun c => ?_)
        · refine q_iconst hC dX8_paper_39 rfl ?_
          exact q_iret hC hQ dX8_paper_40 (by decide) h
        · exact absurd c (by decide)
  · have ee := ee.symm
    subst ee
    have h := h.2 c
    refine q_if_eq hC dX8_paper_6 (t := 39) (by decide) rfl (by decide) (fun c => ?_) (fun c => ?_)
    · refine q_iconst hC dX8_paper_39 rfl ?_
      exact q_iret hC hQ dX8_paper_40 (by decide) h
    · exact absurd c (by decide)
set_option maxRecDepth 20000 in
theorem e_X8_lose {g : qG} {d : Nat} {M : qM} {K : Int → qM → Prop} {x1 : Int} {x2 : Int} (hx1 : qR x1) (hx2 : qR x2) (h : (0 ≤ (M 64 1)) ∧ (((0 ≤ x1 ∧ x1 < (M 64 1)) → (((0 ≤ x2 ∧ x2 ≤ 3) → (0 ≤ ((4 * x1) + x2) ∧ ((4 * x1) + x2) < 20) ∧ ((0 ≤ (M 67 ((4 * x1) + x2)) → (K 1 (qU M 67 ((4 * x1) + x2) (-1)))) ∧ ((M 67 ((4 * x1) + x2)) < 0 → (K (-3) M)))) ∧ ((x2 < 0 ∨ 3 < x2) → (K (-1) M)))) ∧ ((x1 < 0 ∨ (M 64 1) ≤ x1) → (K (-1) M)))) : qOk g (d + 2) j_X8_lose [.inr 63, .inl x1, .inl x2] M (qI K) := by
  refine qOk.of (by decide) (Nat.le_of_ble_eq_true rfl) (fun C hC hQ => ?_)
  have hC : qCk g C cX8_lose RX8 3 (d + 2) := hC
  have hQ : qRt g C (some .int) (qI K) := hQ
  show qW g C 0 [some (.inr 63), some (.inl x1), some (.inl x2)] [] M
  refine qW.rm (fun hM => ?_)
  refine q_aload_n hC dX8_lose_0 rfl rfl ?_
  refine q_iconst hC dX8_lose_1 rfl ?_
  refine q_iload_n hC dX8_lose_2 rfl rfl ?_
  obtain ⟨r101, h⟩ := h
  refine q_callVi hC (As := [.inl 1, .inl x1]) md_X8_is mv_X8_is ml_X8_86 ly_63 rfl dX8_lose_3 rfl (Nat.le_of_ble_eq_true rfl) rfl rfl (b_X8_is (by decide) hx1 (by decide) r101) (fun x102 M103 hM104 r105 hk => ?_)
  obtain ⟨ee, hk⟩ := hk
  have ee := ee.symm
  subst ee
  rcases hk with ⟨ee, c⟩ | ⟨ee, c⟩
  · have ee := ee.symm
    subst ee
    have h := h.1 c
    refine q_if_eq hC dX8_lose_6 (t := 18) (by decide) rfl (by decide) (fun c => ?_) (fun c => ?_)
    · exact absurd c (by decide)
    · refine q_iload_n hC dX8_lose_9 rfl rfl ?_
      refine q_iconst hC dX8_lose_10 rfl ?_
      refine q_iconst hC dX8_lose_11 rfl ?_
      refine q_callSi hC (As := [.inl x2, .inl 0, .inl 3]) md_X8_in ms_X8_in ml_X8_74 dX8_lose_12 rfl (Nat.le_of_ble_eq_true rfl) rfl rfl (b_X8_in hx2 (by decide) (by decide)) (fun x106 M107 hM108 r109 hk => ?_)
      obtain ⟨ee, hk⟩ := hk
      have ee := ee.symm
      subst ee
      rcases hk with ⟨ee, c⟩ | ⟨ee, c⟩
      · have ee := ee.symm
        subst ee
        have h := h.1 c
        refine q_if_ne hC dX8_lose_15 (t := 20) (by decide) rfl (by decide) (fun c => ?_) (fun c => ?_)
        · refine q_aload_n hC dX8_lose_20 rfl rfl ?_
          refine q_getr hC fl_X8_19 ly_63 rfl dX8_lose_21 rfl ?_
          refine q_iconst hC dX8_lose_24 rfl ?_
          refine q_iload_n hC dX8_lose_25 rfl rfl ?_
          refine q_imul hC dX8_lose_26 rfl ?_
          refine q_iload_n hC dX8_lose_27 rfl rfl ?_
          refine q_iadd hC dX8_lose_28 rfl ?_
          obtain ⟨r110, h⟩ := h
          refine q_iald hC ly_67 dX8_lose_29 rfl r110 ?_
          refine q_if_ge hC dX8_lose_30 (t := 36) (by decide) rfl (hM 67 ((4 * x1) + x2)) (fun c => ?_) (fun c => ?_)
          · have h := h.1 c
            refine q_aload_n hC dX8_lose_36 rfl rfl ?_
            refine q_getr hC fl_X8_19 ly_63 rfl dX8_lose_37 rfl ?_
            refine q_iconst hC dX8_lose_40 rfl ?_
            refine q_iload_n hC dX8_lose_41 rfl rfl ?_
            refine q_imul hC dX8_lose_42 rfl ?_
            refine q_iload_n hC dX8_lose_43 rfl rfl ?_
            refine q_iadd hC dX8_lose_44 rfl ?_
            refine q_iconst hC dX8_lose_45 rfl ?_
            have hM111 : qIn (qU M 67 ((4 * x1) + x2) (-1)) := (qU_in hM (by decide))
            refine q_iast hC ly_67 dX8_lose_46 rfl r110 (by decide) ?_
            refine q_iconst hC dX8_lose_47 rfl ?_
            exact q_iret hC hQ dX8_lose_48 (by decide) h
          · have h := h.2 c
            refine q_bipush hC dX8_lose_33 (by decide) rfl ?_
            exact q_iret hC hQ dX8_lose_35 (by decide) h
        · exact absurd c (by decide)
      · have ee := ee.symm
        subst ee
        have h := h.2 c
        refine q_if_ne hC dX8_lose_15 (t := 20) (by decide) rfl (by decide) (fun c => ?_) (fun c => ?_)
        · exact absurd c (by decide)
        · refine q_iconst hC dX8_lose_18 rfl ?_
          exact q_iret hC hQ dX8_lose_19 (by decide) h
  · have ee := ee.symm
    subst ee
    have h := h.2 c
    refine q_if_eq hC dX8_lose_6 (t := 18) (by decide) rfl (by decide) (fun c => ?_) (fun c => ?_)
    · refine q_iconst hC dX8_lose_18 rfl ?_
      exact q_iret hC hQ dX8_lose_19 (by decide) h
    · exact absurd c (by decide)
set_option maxRecDepth 20000 in
theorem e_X8_task {g : qG} {d : Nat} {M : qM} {K : Int → qM → Prop} {x1 : Int} {x2 : Int} (hx1 : qR x1) (hx2 : qR x2) (h : (((0 ≤ x1 ∧ x1 ≤ 3) → ((x2 = (-1) → (((M 64 2) ≠ 10 → (0 ≤ (M 64 2) ∧ (M 64 2) < 10) ∧ (0 ≤ ((qU M 70 (M 64 2) x1) 64 2) ∧ ((qU M 70 (M 64 2) x1) 64 2) < 10) ∧ (0 ≤ ((qU (qU M 70 (M 64 2) x1) 71 ((qU M 70 (M 64 2) x1) 64 2) x2) 64 2) ∧ ((qU (qU M 70 (M 64 2) x1) 71 ((qU M 70 (M 64 2) x1) 64 2) x2) 64 2) ≤ 80) ∧ (K ((qU (qU M 70 (M 64 2) x1) 71 ((qU M 70 (M 64 2) x1) 64 2) x2) 64 2) (qU (qU (qU M 70 (M 64 2) x1) 71 ((qU M 70 (M 64 2) x1) 64 2) x2) 64 2 (((qU (qU M 70 (M 64 2) x1) 71 ((qU M 70 (M 64 2) x1) 64 2) x2) 64 2) + 1)))) ∧ ((M 64 2) = 10 → (K (-2) M)))) ∧ (x2 ≠ (-1) → (0 ≤ (M 64 2)) ∧ (((0 ≤ x2 ∧ x2 < (M 64 2)) → (((M 64 2) ≠ 10 → (0 ≤ (M 64 2) ∧ (M 64 2) < 10) ∧ (0 ≤ ((qU M 70 (M 64 2) x1) 64 2) ∧ ((qU M 70 (M 64 2) x1) 64 2) < 10) ∧ (0 ≤ ((qU (qU M 70 (M 64 2) x1) 71 ((qU M 70 (M 64 2) x1) 64 2) x2) 64 2) ∧ ((qU (qU M 70 (M 64 2) x1) 71 ((qU M 70 (M 64 2) x1) 64 2) x2) 64 2) ≤ 80) ∧ (K ((qU (qU M 70 (M 64 2) x1) 71 ((qU M 70 (M 64 2) x1) 64 2) x2) 64 2) (qU (qU (qU M 70 (M 64 2) x1) 71 ((qU M 70 (M 64 2) x1) 64 2) x2) 64 2 (((qU (qU M 70 (M 64 2) x1) 71 ((qU M 70 (M 64 2) x1) 64 2) x2) 64 2) + 1)))) ∧ ((M 64 2) = 10 → (K (-2) M)))) ∧ ((x2 < 0 ∨ (M 64 2) ≤ x2) → (K (-1) M)))))) ∧ ((x1 < 0 ∨ 3 < x1) → (K (-1) M)))) : qOk g (d + 2) j_X8_task [.inr 63, .inl x1, .inl x2] M (qI K) := by
  refine qOk.of (by decide) (Nat.le_of_ble_eq_true rfl) (fun C hC hQ => ?_)
  have hC : qCk g C cX8_task RX8 3 (d + 2) := hC
  have hQ : qRt g C (some .int) (qI K) := hQ
  show qW g C 0 [some (.inr 63), some (.inl x1), some (.inl x2)] [] M
  refine qW.rm (fun hM => ?_)
  refine q_iload_n hC dX8_task_0 rfl rfl ?_
  refine q_iconst hC dX8_task_1 rfl ?_
  refine q_iconst hC dX8_task_2 rfl ?_
  refine q_callSi hC (As := [.inl x1, .inl 0, .inl 3]) md_X8_in ms_X8_in ml_X8_74 dX8_task_3 rfl (Nat.le_of_ble_eq_true rfl) rfl rfl (b_X8_in hx1 (by decide) (by decide)) (fun x101 M102 hM103 r104 hk => ?_)
  obtain ⟨ee, hk⟩ := hk
  have ee := ee.symm
  subst ee
  rcases hk with ⟨ee, c⟩ | ⟨ee, c⟩
  · have ee := ee.symm
    subst ee
    have h := h.1 c
    refine q_if_eq hC dX8_task_6 (t := 23) (by decide) rfl (by decide) (fun c => ?_) (fun c => ?_)
    · exact absurd c (by decide)
    · refine q_iload_n hC dX8_task_9 rfl rfl ?_
      refine q_iconst hC dX8_task_10 rfl ?_
      refine q_icmp_eq hC dX8_task_11 (t := 25) (by decide) rfl hx2 (by decide) (fun c => ?_) (fun c => ?_)
      · have h := h.1 c
        refine q_aload_n hC dX8_task_25 rfl rfl ?_
        refine q_getr hC fl_X8_7 ly_63 rfl dX8_task_26 rfl ?_
        refine q_iconst hC dX8_task_29 rfl ?_
        refine q_iald hC ly_64 dX8_task_30 rfl (by decide) ?_
        refine q_bipush hC dX8_task_31 (by decide) rfl ?_
        refine q_icmp_ne hC dX8_task_33 (t := 39) (by decide) rfl (hM 64 2) (by decide) (fun c => ?_) (fun c => ?_)
        · have h := h.1 c
          refine q_aload_n hC dX8_task_39 rfl rfl ?_
          refine q_getr hC fl_X8_28 ly_63 rfl dX8_task_40 rfl ?_
          refine q_aload_n hC dX8_task_43 rfl rfl ?_
          refine q_getr hC fl_X8_7 ly_63 rfl dX8_task_44 rfl ?_
          refine q_iconst hC dX8_task_47 rfl ?_
          refine q_iald hC ly_64 dX8_task_48 rfl (by decide) ?_
          refine q_iload_n hC dX8_task_49 rfl rfl ?_
          obtain ⟨r105, h⟩ := h
          have hM106 : qIn (qU M 70 (M 64 2) x1) := (qU_in hM hx1)
          refine q_iast hC ly_70 dX8_task_50 rfl r105 hx1 ?_
          refine q_aload_n hC dX8_task_51 rfl rfl ?_
          refine q_getr hC fl_X8_31 ly_63 rfl dX8_task_52 rfl ?_
          refine q_aload_n hC dX8_task_55 rfl rfl ?_
          refine q_getr hC fl_X8_7 ly_63 rfl dX8_task_56 rfl ?_
          refine q_iconst hC dX8_task_59 rfl ?_
          refine q_iald hC ly_64 dX8_task_60 rfl (by decide) ?_
          refine q_iload_n hC dX8_task_61 rfl rfl ?_
          obtain ⟨r107, h⟩ := h
          have hM108 : qIn (qU (qU M 70 (M 64 2) x1) 71 ((qU M 70 (M 64 2) x1) 64 2) x2) := (qU_in hM106 hx2)
          refine q_iast hC ly_71 dX8_task_62 rfl r107 hx2 ?_
          refine q_aload_n hC dX8_task_63 rfl rfl ?_
          refine q_iconst hC dX8_task_64 rfl ?_
          obtain ⟨r109, h⟩ := h
          refine q_callVi hC (As := [.inl 2]) md_X8_came mv_X8_came ml_X8_82 ly_63 rfl dX8_task_65 rfl (Nat.le_of_ble_eq_true rfl) rfl rfl (b_X8_came (by decide) (by decide) r109) (fun x111 M112 hM110 r113 hk => ?_)
          obtain ⟨ee, hk⟩ := hk
          have ee := ee.symm
          subst ee
          have hk := hk.symm
          subst hk
          exact q_iret hC hQ dX8_task_68 r113 h
        · have h := h.2 c
          refine q_bipush hC dX8_task_36 (by decide) rfl ?_
          exact q_iret hC hQ dX8_task_38 (by decide) h
      · have h := h.2 c
        refine q_aload_n hC dX8_task_14 rfl rfl ?_
        refine q_iconst hC dX8_task_15 rfl ?_
        refine q_iload_n hC dX8_task_16 rfl rfl ?_
        obtain ⟨r114, h⟩ := h
        refine q_callVi hC (As := [.inl 2, .inl x2]) md_X8_is mv_X8_is ml_X8_86 ly_63 rfl dX8_task_17 rfl (Nat.le_of_ble_eq_true rfl) rfl rfl (b_X8_is (by decide) hx2 (by decide) r114) (fun x115 M116 hM117 r118 hk => ?_)
        obtain ⟨ee, hk⟩ := hk
        have ee := ee.symm
        subst ee
        rcases hk with ⟨ee, c⟩ | ⟨ee, c⟩
        · have ee := ee.symm
          subst ee
          have h := h.1 c
          refine q_if_ne hC dX8_task_20 (t := 25) (by decide) rfl (by decide) (fun c => ?_) (fun c => ?_)
          · refine q_aload_n hC dX8_task_25 rfl rfl ?_
            refine q_getr hC fl_X8_7 ly_63 rfl dX8_task_26 rfl ?_
            refine q_iconst hC dX8_task_29 rfl ?_
            refine q_iald hC ly_64 dX8_task_30 rfl (by decide) ?_
            refine q_bipush hC dX8_task_31 (by decide) rfl ?_
            refine q_icmp_ne hC dX8_task_33 (t := 39) (by decide) rfl (hM 64 2) (by decide) (fun c => ?_) (fun c => ?_)
            · have h := h.1 c
              refine q_aload_n hC dX8_task_39 rfl rfl ?_
              refine q_getr hC fl_X8_28 ly_63 rfl dX8_task_40 rfl ?_
              refine q_aload_n hC dX8_task_43 rfl rfl ?_
              refine q_getr hC fl_X8_7 ly_63 rfl dX8_task_44 rfl ?_
              refine q_iconst hC dX8_task_47 rfl ?_
              refine q_iald hC ly_64 dX8_task_48 rfl (by decide) ?_
              refine q_iload_n hC dX8_task_49 rfl rfl ?_
              obtain ⟨r119, h⟩ := h
              have hM120 : qIn (qU M 70 (M 64 2) x1) := (qU_in hM hx1)
              refine q_iast hC ly_70 dX8_task_50 rfl r119 hx1 ?_
              refine q_aload_n hC dX8_task_51 rfl rfl ?_
              refine q_getr hC fl_X8_31 ly_63 rfl dX8_task_52 rfl ?_
              refine q_aload_n hC dX8_task_55 rfl rfl ?_
              refine q_getr hC fl_X8_7 ly_63 rfl dX8_task_56 rfl ?_
              refine q_iconst hC dX8_task_59 rfl ?_
              refine q_iald hC ly_64 dX8_task_60 rfl (by decide) ?_
              refine q_iload_n hC dX8_task_61 rfl rfl ?_
              obtain ⟨r121, h⟩ := h
              have hM122 : qIn (qU (qU M 70 (M 64 2) x1) 71 ((qU M 70 (M 64 2) x1) 64 2) x2) := (qU_in hM120 hx2)
              refine q_iast hC ly_71 dX8_task_62 rfl r121 hx2 ?_
              refine q_aload_n hC dX8_task_63 rfl rfl ?_
              refine q_iconst hC dX8_task_64 rfl ?_
              obtain ⟨r123, h⟩ := h
              refine q_callVi hC (As := [.inl 2]) md_X8_came mv_X8_came ml_X8_82 ly_63 rfl dX8_task_65 rfl (Nat.le_of_ble_eq_true rfl) rfl rfl (b_X8_came (by decide) (by decide) r123) (fun x125 M126 hM124 r127 hk => ?_)
              obtain ⟨ee, hk⟩ := hk
              have ee := ee.symm
              subst ee
              have hk := hk.symm
              subst hk
              exact q_iret hC hQ dX8_task_68 r127 h
            · have h := h.2 c
              refine q_bipush hC dX8_task_36 (by decide) rfl ?_
              exact q_iret hC hQ dX8_task_38 (by decide) h
          · exact absurd c (by decide)
        · have ee := ee.symm
          subst ee
          have h := h.2 c
          refine q_if_ne hC dX8_task_20 (t := 25) (by decide) rfl (by decide) (fun c => ?_) (fun c => ?_)
          · exact absurd c (by decide)
          · refine q_iconst hC dX8_task_23 rfl ?_
            exact q_iret hC hQ dX8_task_24 (by decide) h
  · have ee := ee.symm
    subst ee
    have h := h.2 c
    refine q_if_eq hC dX8_task_6 (t := 23) (by decide) rfl (by decide) (fun c => ?_) (fun c => ?_)
    · refine q_iconst hC dX8_task_23 rfl ?_
      exact q_iret hC hQ dX8_task_24 (by decide) h
    · exact absurd c (by decide)
set_option maxRecDepth 20000 in
theorem e_X8_badge {g : qG} {d : Nat} {M : qM} {K : Int → qM → Prop} {x1 : Int} {x2 : Int} {x3 : Int} {x4 : Int} {x5 : Int} (hx1 : qR x1) (hx2 : qR x2) (hx3 : qR x3) (hx4 : qR x4) (hx5 : qR x5) (h : (((0 ≤ x1 ∧ x1 ≤ 1023) → (((0 ≤ x2 ∧ x2 ≤ 1023) → (((0 ≤ x3 ∧ x3 ≤ 10) → (((6 ≤ x4 ∧ x4 ≤ 18) → ((x5 = (-1) → (((M 64 4) ≠ 8 → (0 ≤ (5 * (M 64 4)) ∧ (5 * (M 64 4)) < 40) ∧ (0 ≤ ((5 * (M 64 4)) + 1) ∧ ((5 * (M 64 4)) + 1) < 40) ∧ (0 ≤ ((5 * (M 64 4)) + 2) ∧ ((5 * (M 64 4)) + 2) < 40) ∧ (0 ≤ ((5 * (M 64 4)) + 3) ∧ ((5 * (M 64 4)) + 3) < 40) ∧ (0 ≤ ((5 * (M 64 4)) + 4) ∧ ((5 * (M 64 4)) + 4) < 40) ∧ (0 ≤ ((qU (qU (qU (qU (qU M 72 (5 * (M 64 4)) x1) 72 ((5 * (M 64 4)) + 1) x2) 72 ((5 * (M 64 4)) + 2) x3) 72 ((5 * (M 64 4)) + 3) x4) 72 ((5 * (M 64 4)) + 4) x5) 64 4) ∧ ((qU (qU (qU (qU (qU M 72 (5 * (M 64 4)) x1) 72 ((5 * (M 64 4)) + 1) x2) 72 ((5 * (M 64 4)) + 2) x3) 72 ((5 * (M 64 4)) + 3) x4) 72 ((5 * (M 64 4)) + 4) x5) 64 4) ≤ 80) ∧ (K ((qU (qU (qU (qU (qU M 72 (5 * (M 64 4)) x1) 72 ((5 * (M 64 4)) + 1) x2) 72 ((5 * (M 64 4)) + 2) x3) 72 ((5 * (M 64 4)) + 3) x4) 72 ((5 * (M 64 4)) + 4) x5) 64 4) (qU (qU (qU (qU (qU (qU M 72 (5 * (M 64 4)) x1) 72 ((5 * (M 64 4)) + 1) x2) 72 ((5 * (M 64 4)) + 2) x3) 72 ((5 * (M 64 4)) + 3) x4) 72 ((5 * (M 64 4)) + 4) x5) 64 4 (((qU (qU (qU (qU (qU M 72 (5 * (M 64 4)) x1) 72 ((5 * (M 64 4)) + 1) x2) 72 ((5 * (M 64 4)) + 2) x3) 72 ((5 * (M 64 4)) + 3) x4) 72 ((5 * (M 64 4)) + 4) x5) 64 4) + 1)))) ∧ ((M 64 4) = 8 → (K (-2) M)))) ∧ (x5 ≠ (-1) → (0 ≤ (M 64 4)) ∧ (((0 ≤ x5 ∧ x5 < (M 64 4)) → (((M 64 4) ≠ 8 → (0 ≤ (5 * (M 64 4)) ∧ (5 * (M 64 4)) < 40) ∧ (0 ≤ ((5 * (M 64 4)) + 1) ∧ ((5 * (M 64 4)) + 1) < 40) ∧ (0 ≤ ((5 * (M 64 4)) + 2) ∧ ((5 * (M 64 4)) + 2) < 40) ∧ (0 ≤ ((5 * (M 64 4)) + 3) ∧ ((5 * (M 64 4)) + 3) < 40) ∧ (0 ≤ ((5 * (M 64 4)) + 4) ∧ ((5 * (M 64 4)) + 4) < 40) ∧ (0 ≤ ((qU (qU (qU (qU (qU M 72 (5 * (M 64 4)) x1) 72 ((5 * (M 64 4)) + 1) x2) 72 ((5 * (M 64 4)) + 2) x3) 72 ((5 * (M 64 4)) + 3) x4) 72 ((5 * (M 64 4)) + 4) x5) 64 4) ∧ ((qU (qU (qU (qU (qU M 72 (5 * (M 64 4)) x1) 72 ((5 * (M 64 4)) + 1) x2) 72 ((5 * (M 64 4)) + 2) x3) 72 ((5 * (M 64 4)) + 3) x4) 72 ((5 * (M 64 4)) + 4) x5) 64 4) ≤ 80) ∧ (K ((qU (qU (qU (qU (qU M 72 (5 * (M 64 4)) x1) 72 ((5 * (M 64 4)) + 1) x2) 72 ((5 * (M 64 4)) + 2) x3) 72 ((5 * (M 64 4)) + 3) x4) 72 ((5 * (M 64 4)) + 4) x5) 64 4) (qU (qU (qU (qU (qU (qU M 72 (5 * (M 64 4)) x1) 72 ((5 * (M 64 4)) + 1) x2) 72 ((5 * (M 64 4)) + 2) x3) 72 ((5 * (M 64 4)) + 3) x4) 72 ((5 * (M 64 4)) + 4) x5) 64 4 (((qU (qU (qU (qU (qU M 72 (5 * (M 64 4)) x1) 72 ((5 * (M 64 4)) + 1) x2) 72 ((5 * (M 64 4)) + 2) x3) 72 ((5 * (M 64 4)) + 3) x4) 72 ((5 * (M 64 4)) + 4) x5) 64 4) + 1)))) ∧ ((M 64 4) = 8 → (K (-2) M)))) ∧ ((x5 < 0 ∨ (M 64 4) ≤ x5) → (K (-1) M)))))) ∧ ((x4 < 6 ∨ 18 < x4) → (K (-1) M)))) ∧ ((x3 < 0 ∨ 10 < x3) → (K (-1) M)))) ∧ ((x2 < 0 ∨ 1023 < x2) → (K (-1) M)))) ∧ ((x1 < 0 ∨ 1023 < x1) → (K (-1) M)))) : qOk g (d + 2) j_X8_badge [.inr 63, .inl x1, .inl x2, .inl x3, .inl x4, .inl x5] M (qI K) := by
  refine qOk.of (by decide) (Nat.le_of_ble_eq_true rfl) (fun C hC hQ => ?_)
  have hC : qCk g C cX8_badge RX8 7 (d + 2) := hC
  have hQ : qRt g C (some .int) (qI K) := hQ
  show qW g C 0 [some (.inr 63), some (.inl x1), some (.inl x2), some (.inl x3), some (.inl x4), some (.inl x5), none] [] M
  refine qW.rm (fun hM => ?_)
  refine q_iload_n hC dX8_badge_0 rfl rfl ?_
  refine q_iconst hC dX8_badge_1 rfl ?_
  refine q_sipush hC dX8_badge_2 (by decide) rfl ?_
  refine q_callSi hC (As := [.inl x1, .inl 0, .inl 1023]) md_X8_in ms_X8_in ml_X8_74 dX8_badge_5 rfl (Nat.le_of_ble_eq_true rfl) rfl rfl (b_X8_in hx1 (by decide) (by decide)) (fun x101 M102 hM103 r104 hk => ?_)
  obtain ⟨ee, hk⟩ := hk
  have ee := ee.symm
  subst ee
  rcases hk with ⟨ee, c⟩ | ⟨ee, c⟩
  · have ee := ee.symm
    subst ee
    have h := h.1 c
    refine q_if_eq hC dX8_badge_8 (t := 60) (by decide) rfl (by decide) (fun c => ?_) (fun c => ?_)
    · exact absurd c (by decide)
    · refine q_iload_n hC dX8_badge_11 rfl rfl ?_
      refine q_iconst hC dX8_badge_12 rfl ?_
      refine q_sipush hC dX8_badge_13 (by decide) rfl ?_
      refine q_callSi hC (As := [.inl x2, .inl 0, .inl 1023]) md_X8_in ms_X8_in ml_X8_74 dX8_badge_16 rfl (Nat.le_of_ble_eq_true rfl) rfl rfl (b_X8_in hx2 (by decide) (by decide)) (fun x105 M106 hM107 r108 hk => ?_)
      obtain ⟨ee, hk⟩ := hk
      have ee := ee.symm
      subst ee
      rcases hk with ⟨ee, c⟩ | ⟨ee, c⟩
      · have ee := ee.symm
        subst ee
        have h := h.1 c
        refine q_if_eq hC dX8_badge_19 (t := 60) (by decide) rfl (by decide) (fun c => ?_) (fun c => ?_)
        · exact absurd c (by decide)
        · refine q_iload_n hC dX8_badge_22 rfl rfl ?_
          refine q_iconst hC dX8_badge_23 rfl ?_
          refine q_bipush hC dX8_badge_24 (by decide) rfl ?_
          refine q_callSi hC (As := [.inl x3, .inl 0, .inl 10]) md_X8_in ms_X8_in ml_X8_74 dX8_badge_26 rfl (Nat.le_of_ble_eq_true rfl) rfl rfl (b_X8_in hx3 (by decide) (by decide)) (fun x109 M110 hM111 r112 hk => ?_)
          obtain ⟨ee, hk⟩ := hk
          have ee := ee.symm
          subst ee
          rcases hk with ⟨ee, c⟩ | ⟨ee, c⟩
          · have ee := ee.symm
            subst ee
            have h := h.1 c
            refine q_if_eq hC dX8_badge_29 (t := 60) (by decide) rfl (by decide) (fun c => ?_) (fun c => ?_)
            · exact absurd c (by decide)
            · refine q_iload hC dX8_badge_32 rfl rfl ?_
              refine q_bipush hC dX8_badge_34 (by decide) rfl ?_
              refine q_bipush hC dX8_badge_36 (by decide) rfl ?_
              refine q_callSi hC (As := [.inl x4, .inl 6, .inl 18]) md_X8_in ms_X8_in ml_X8_74 dX8_badge_38 rfl (Nat.le_of_ble_eq_true rfl) rfl rfl (b_X8_in hx4 (by decide) (by decide)) (fun x113 M114 hM115 r116 hk => ?_)
              obtain ⟨ee, hk⟩ := hk
              have ee := ee.symm
              subst ee
              rcases hk with ⟨ee, c⟩ | ⟨ee, c⟩
              · have ee := ee.symm
                subst ee
                have h := h.1 c
                refine q_if_eq hC dX8_badge_41 (t := 60) (by decide) rfl (by decide) (fun c => ?_) (fun c => ?_)
                · exact absurd c (by decide)
                · refine q_iload hC dX8_badge_44 rfl rfl ?_
                  refine q_iconst hC dX8_badge_46 rfl ?_
                  refine q_icmp_eq hC dX8_badge_47 (t := 62) (by decide) rfl hx5 (by decide) (fun c => ?_) (fun c => ?_)
                  · have h := h.1 c
                    refine q_aload_n hC dX8_badge_62 rfl rfl ?_
                    refine q_getr hC fl_X8_7 ly_63 rfl dX8_badge_63 rfl ?_
                    refine q_iconst hC dX8_badge_66 rfl ?_
                    refine q_iald hC ly_64 dX8_badge_67 rfl (by decide) ?_
                    refine q_bipush hC dX8_badge_68 (by decide) rfl ?_
                    refine q_icmp_ne hC dX8_badge_70 (t := 76) (by decide) rfl (hM 64 4) (by decide) (fun c => ?_) (fun c => ?_)
                    · have h := h.1 c
                      refine q_iconst hC dX8_badge_76 rfl ?_
                      refine q_aload_n hC dX8_badge_77 rfl rfl ?_
                      refine q_getr hC fl_X8_7 ly_63 rfl dX8_badge_78 rfl ?_
                      refine q_iconst hC dX8_badge_81 rfl ?_
                      refine q_iald hC ly_64 dX8_badge_82 rfl (by decide) ?_
                      refine q_imul hC dX8_badge_83 rfl ?_
                      refine q_istore hC dX8_badge_84 (Nat.le_of_ble_eq_true rfl) (loc' := [some (.inr 63), some (.inl x1), some (.inl x2), some (.inl x3), some (.inl x4), some (.inl x5), some (.inl (5 * (M 64 4)))]) rfl rfl ?_
                      refine q_aload_n hC dX8_badge_86 rfl rfl ?_
                      refine q_getr hC fl_X8_34 ly_63 rfl dX8_badge_87 rfl ?_
                      refine q_iload hC dX8_badge_90 rfl rfl ?_
                      refine q_iload_n hC dX8_badge_92 rfl rfl ?_
                      obtain ⟨r117, h⟩ := h
                      have hM118 : qIn (qU M 72 (5 * (M 64 4)) x1) := (qU_in hM hx1)
                      refine q_iast hC ly_72 dX8_badge_93 rfl r117 hx1 ?_
                      refine q_aload_n hC dX8_badge_94 rfl rfl ?_
                      refine q_getr hC fl_X8_34 ly_63 rfl dX8_badge_95 rfl ?_
                      refine q_iload hC dX8_badge_98 rfl rfl ?_
                      refine q_iconst hC dX8_badge_100 rfl ?_
                      refine q_iadd hC dX8_badge_101 rfl ?_
                      refine q_iload_n hC dX8_badge_102 rfl rfl ?_
                      obtain ⟨r119, h⟩ := h
                      have hM120 : qIn (qU (qU M 72 (5 * (M 64 4)) x1) 72 ((5 * (M 64 4)) + 1) x2) := (qU_in hM118 hx2)
                      refine q_iast hC ly_72 dX8_badge_103 rfl r119 hx2 ?_
                      refine q_aload_n hC dX8_badge_104 rfl rfl ?_
                      refine q_getr hC fl_X8_34 ly_63 rfl dX8_badge_105 rfl ?_
                      refine q_iload hC dX8_badge_108 rfl rfl ?_
                      refine q_iconst hC dX8_badge_110 rfl ?_
                      refine q_iadd hC dX8_badge_111 rfl ?_
                      refine q_iload_n hC dX8_badge_112 rfl rfl ?_
                      obtain ⟨r121, h⟩ := h
                      have hM122 : qIn (qU (qU (qU M 72 (5 * (M 64 4)) x1) 72 ((5 * (M 64 4)) + 1) x2) 72 ((5 * (M 64 4)) + 2) x3) := (qU_in hM120 hx3)
                      refine q_iast hC ly_72 dX8_badge_113 rfl r121 hx3 ?_
                      refine q_aload_n hC dX8_badge_114 rfl rfl ?_
                      refine q_getr hC fl_X8_34 ly_63 rfl dX8_badge_115 rfl ?_
                      refine q_iload hC dX8_badge_118 rfl rfl ?_
                      refine q_iconst hC dX8_badge_120 rfl ?_
                      refine q_iadd hC dX8_badge_121 rfl ?_
                      refine q_iload hC dX8_badge_122 rfl rfl ?_
                      obtain ⟨r123, h⟩ := h
                      have hM124 : qIn (qU (qU (qU (qU M 72 (5 * (M 64 4)) x1) 72 ((5 * (M 64 4)) + 1) x2) 72 ((5 * (M 64 4)) + 2) x3) 72 ((5 * (M 64 4)) + 3) x4) := (qU_in hM122 hx4)
                      refine q_iast hC ly_72 dX8_badge_124 rfl r123 hx4 ?_
                      refine q_aload_n hC dX8_badge_125 rfl rfl ?_
                      refine q_getr hC fl_X8_34 ly_63 rfl dX8_badge_126 rfl ?_
                      refine q_iload hC dX8_badge_129 rfl rfl ?_
                      refine q_iconst hC dX8_badge_131 rfl ?_
                      refine q_iadd hC dX8_badge_132 rfl ?_
                      refine q_iload hC dX8_badge_133 rfl rfl ?_
                      obtain ⟨r125, h⟩ := h
                      have hM126 : qIn (qU (qU (qU (qU (qU M 72 (5 * (M 64 4)) x1) 72 ((5 * (M 64 4)) + 1) x2) 72 ((5 * (M 64 4)) + 2) x3) 72 ((5 * (M 64 4)) + 3) x4) 72 ((5 * (M 64 4)) + 4) x5) := (qU_in hM124 hx5)
                      refine q_iast hC ly_72 dX8_badge_135 rfl r125 hx5 ?_
                      refine q_aload_n hC dX8_badge_136 rfl rfl ?_
                      refine q_iconst hC dX8_badge_137 rfl ?_
                      obtain ⟨r127, h⟩ := h
                      refine q_callVi hC (As := [.inl 4]) md_X8_came mv_X8_came ml_X8_82 ly_63 rfl dX8_badge_138 rfl (Nat.le_of_ble_eq_true rfl) rfl rfl (b_X8_came (by decide) (by decide) r127) (fun x129 M130 hM128 r131 hk => ?_)
                      obtain ⟨ee, hk⟩ := hk
                      have ee := ee.symm
                      subst ee
                      have hk := hk.symm
                      subst hk
                      exact q_iret hC hQ dX8_badge_141 r131 h
                    · have h := h.2 c
                      refine q_bipush hC dX8_badge_73 (by decide) rfl ?_
                      exact q_iret hC hQ dX8_badge_75 (by decide) h
                  · have h := h.2 c
                    refine q_aload_n hC dX8_badge_50 rfl rfl ?_
                    refine q_iconst hC dX8_badge_51 rfl ?_
                    refine q_iload hC dX8_badge_52 rfl rfl ?_
                    obtain ⟨r132, h⟩ := h
                    refine q_callVi hC (As := [.inl 4, .inl x5]) md_X8_is mv_X8_is ml_X8_86 ly_63 rfl dX8_badge_54 rfl (Nat.le_of_ble_eq_true rfl) rfl rfl (b_X8_is (by decide) hx5 (by decide) r132) (fun x133 M134 hM135 r136 hk => ?_)
                    obtain ⟨ee, hk⟩ := hk
                    have ee := ee.symm
                    subst ee
                    rcases hk with ⟨ee, c⟩ | ⟨ee, c⟩
                    · have ee := ee.symm
                      subst ee
                      have h := h.1 c
                      refine q_if_ne hC dX8_badge_57 (t := 62) (by decide) rfl (by decide) (fun c => ?_) (fun c => ?_)
                      · refine q_aload_n hC dX8_badge_62 rfl rfl ?_
                        refine q_getr hC fl_X8_7 ly_63 rfl dX8_badge_63 rfl ?_
                        refine q_iconst hC dX8_badge_66 rfl ?_
                        refine q_iald hC ly_64 dX8_badge_67 rfl (by decide) ?_
                        refine q_bipush hC dX8_badge_68 (by decide) rfl ?_
                        refine q_icmp_ne hC dX8_badge_70 (t := 76) (by decide) rfl (hM 64 4) (by decide) (fun c => ?_) (fun c => ?_)
                        · have h := h.1 c
                          refine q_iconst hC dX8_badge_76 rfl ?_
                          refine q_aload_n hC dX8_badge_77 rfl rfl ?_
                          refine q_getr hC fl_X8_7 ly_63 rfl dX8_badge_78 rfl ?_
                          refine q_iconst hC dX8_badge_81 rfl ?_
                          refine q_iald hC ly_64 dX8_badge_82 rfl (by decide) ?_
                          refine q_imul hC dX8_badge_83 rfl ?_
                          refine q_istore hC dX8_badge_84 (Nat.le_of_ble_eq_true rfl) (loc' := [some (.inr 63), some (.inl x1), some (.inl x2), some (.inl x3), some (.inl x4), some (.inl x5), some (.inl (5 * (M 64 4)))]) rfl rfl ?_
                          refine q_aload_n hC dX8_badge_86 rfl rfl ?_
                          refine q_getr hC fl_X8_34 ly_63 rfl dX8_badge_87 rfl ?_
                          refine q_iload hC dX8_badge_90 rfl rfl ?_
                          refine q_iload_n hC dX8_badge_92 rfl rfl ?_
                          obtain ⟨r137, h⟩ := h
                          have hM138 : qIn (qU M 72 (5 * (M 64 4)) x1) := (qU_in hM hx1)
                          refine q_iast hC ly_72 dX8_badge_93 rfl r137 hx1 ?_
                          refine q_aload_n hC dX8_badge_94 rfl rfl ?_
                          refine q_getr hC fl_X8_34 ly_63 rfl dX8_badge_95 rfl ?_
                          refine q_iload hC dX8_badge_98 rfl rfl ?_
                          refine q_iconst hC dX8_badge_100 rfl ?_
                          refine q_iadd hC dX8_badge_101 rfl ?_
                          refine q_iload_n hC dX8_badge_102 rfl rfl ?_
                          obtain ⟨r139, h⟩ := h
                          have hM140 : qIn (qU (qU M 72 (5 * (M 64 4)) x1) 72 ((5 * (M 64 4)) + 1) x2) := (qU_in hM138 hx2)
                          refine q_iast hC ly_72 dX8_badge_103 rfl r139 hx2 ?_
                          refine q_aload_n hC dX8_badge_104 rfl rfl ?_
                          refine q_getr hC fl_X8_34 ly_63 rfl dX8_badge_105 rfl ?_
                          refine q_iload hC dX8_badge_108 rfl rfl ?_
                          refine q_iconst hC dX8_badge_110 rfl ?_
                          refine q_iadd hC dX8_badge_111 rfl ?_
                          refine q_iload_n hC dX8_badge_112 rfl rfl ?_
                          obtain ⟨r141, h⟩ := h
                          have hM142 : qIn (qU (qU (qU M 72 (5 * (M 64 4)) x1) 72 ((5 * (M 64 4)) + 1) x2) 72 ((5 * (M 64 4)) + 2) x3) := (qU_in hM140 hx3)
                          refine q_iast hC ly_72 dX8_badge_113 rfl r141 hx3 ?_
                          refine q_aload_n hC dX8_badge_114 rfl rfl ?_
                          refine q_getr hC fl_X8_34 ly_63 rfl dX8_badge_115 rfl ?_
                          refine q_iload hC dX8_badge_118 rfl rfl ?_
                          refine q_iconst hC dX8_badge_120 rfl ?_
                          refine q_iadd hC dX8_badge_121 rfl ?_
                          refine q_iload hC dX8_badge_122 rfl rfl ?_
                          obtain ⟨r143, h⟩ := h
                          have hM144 : qIn (qU (qU (qU (qU M 72 (5 * (M 64 4)) x1) 72 ((5 * (M 64 4)) + 1) x2) 72 ((5 * (M 64 4)) + 2) x3) 72 ((5 * (M 64 4)) + 3) x4) := (qU_in hM142 hx4)
                          refine q_iast hC ly_72 dX8_badge_124 rfl r143 hx4 ?_
                          refine q_aload_n hC dX8_badge_125 rfl rfl ?_
                          refine q_getr hC fl_X8_34 ly_63 rfl dX8_badge_126 rfl ?_
                          refine q_iload hC dX8_badge_129 rfl rfl ?_
                          refine q_iconst hC dX8_badge_131 rfl ?_
                          refine q_iadd hC dX8_badge_132 rfl ?_
                          refine q_iload hC dX8_badge_133 rfl rfl ?_
                          obtain ⟨r145, h⟩ := h
                          have hM146 : qIn (qU (qU (qU (qU (qU M 72 (5 * (M 64 4)) x1) 72 ((5 * (M 64 4)) + 1) x2) 72 ((5 * (M 64 4)) + 2) x3) 72 ((5 * (M 64 4)) + 3) x4) 72 ((5 * (M 64 4)) + 4) x5) := (qU_in hM144 hx5)
                          refine q_iast hC ly_72 dX8_badge_135 rfl r145 hx5 ?_
                          refine q_aload_n hC dX8_badge_136 rfl rfl ?_
                          refine q_iconst hC dX8_badge_137 rfl ?_
                          obtain ⟨r147, h⟩ := h
                          refine q_callVi hC (As := [.inl 4]) md_X8_came mv_X8_came ml_X8_82 ly_63 rfl dX8_badge_138 rfl (Nat.le_of_ble_eq_true rfl) rfl rfl (b_X8_came (by decide) (by decide) r147) (fun x149 M150 hM148 r151 hk => ?_)
                          obtain ⟨ee, hk⟩ := hk
                          have ee := ee.symm
                          subst ee
                          have hk := hk.symm
                          subst hk
                          exact q_iret hC hQ dX8_badge_141 r151 h
                        · have h := h.2 c
                          refine q_bipush hC dX8_badge_73 (by decide) rfl ?_
                          exact q_iret hC hQ dX8_badge_75 (by decide) h
                      · exact absurd c (by decide)
                    · have ee := ee.symm
                      subst ee
                      have h := h.2 c
                      refine q_if_ne hC dX8_badge_57 (t := 62) (by decide) rfl (by decide) (fun c => ?_) (fun c => ?_)
                      · exact absurd c (by decide)
                      · refine q_iconst hC dX8_badge_60 rfl ?_
                        exact q_iret hC hQ dX8_badge_61 (by decide) h
              · have ee := ee.symm
                subst ee
                have h := h.2 c
                refine q_if_eq hC dX8_badge_41 (t := 60) (by decide) rfl (by decide) (fun c => ?_) (fun c => ?_)
                · refine q_iconst hC dX8_badge_60 rfl ?_
                  exact q_iret hC hQ dX8_badge_61 (by decide) h
                · exact absurd c (by decide)
          · have ee := ee.symm
            subst ee
            have h := h.2 c
            refine q_if_eq hC dX8_badge_29 (t := 60) (by decide) rfl (by decide) (fun c => ?_) (fun c => ?_)
            · refine q_iconst hC dX8_badge_60 rfl ?_
              exact q_iret hC hQ dX8_badge_61 (by decide) h
            · exact absurd c (by decide)
      · have ee := ee.symm
        subst ee
        have h := h.2 c
        refine q_if_eq hC dX8_badge_19 (t := 60) (by decide) rfl (by decide) (fun c => ?_) (fun c => ?_)
        · refine q_iconst hC dX8_badge_60 rfl ?_
          exact q_iret hC hQ dX8_badge_61 (by decide) h
        · exact absurd c (by decide)
  · have ee := ee.symm
    subst ee
    have h := h.2 c
    refine q_if_eq hC dX8_badge_8 (t := 60) (by decide) rfl (by decide) (fun c => ?_) (fun c => ?_)
    · refine q_iconst hC dX8_badge_60 rfl ?_
      exact q_iret hC hQ dX8_badge_61 (by decide) h
    · exact absurd c (by decide)
set_option maxRecDepth 20000 in
theorem e_X8_sign {g : qG} {d : Nat} {M : qM} {K : Int → qM → Prop} {x1 : Int} {x2 : Int} {x3 : Int} {x4 : Int} (hx1 : qR x1) (hx2 : qR x2) (hx3 : qR x3) (hx4 : qR x4) (h : (0 ≤ (M 64 0)) ∧ (((0 ≤ x1 ∧ x1 < (M 64 0)) → (0 ≤ (M 64 2)) ∧ (((0 ≤ x2 ∧ x2 < (M 64 2)) → (0 ≤ (M 64 1)) ∧ (((0 ≤ x3 ∧ x3 < (M 64 1)) → (((0 ≤ x4 ∧ x4 ≤ 999) → (((M 64 3) ≠ 80 → (0 ≤ (5 * (M 64 3)) ∧ (5 * (M 64 3)) < 400) ∧ (0 ≤ ((5 * (M 64 3)) + 1) ∧ ((5 * (M 64 3)) + 1) < 400) ∧ (0 ≤ ((5 * (M 64 3)) + 2) ∧ ((5 * (M 64 3)) + 2) < 400) ∧ (0 ≤ ((5 * (M 64 3)) + 3) ∧ ((5 * (M 64 3)) + 3) < 400) ∧ (0 ≤ ((5 * (M 64 3)) + 4) ∧ ((5 * (M 64 3)) + 4) < 400) ∧ (0 ≤ ((qU (qU (qU (qU (qU M 73 (5 * (M 64 3)) x1) 73 ((5 * (M 64 3)) + 1) x2) 73 ((5 * (M 64 3)) + 2) x3) 73 ((5 * (M 64 3)) + 3) x4) 73 ((5 * (M 64 3)) + 4) 0) 64 3) ∧ ((qU (qU (qU (qU (qU M 73 (5 * (M 64 3)) x1) 73 ((5 * (M 64 3)) + 1) x2) 73 ((5 * (M 64 3)) + 2) x3) 73 ((5 * (M 64 3)) + 3) x4) 73 ((5 * (M 64 3)) + 4) 0) 64 3) ≤ 80) ∧ (K ((qU (qU (qU (qU (qU M 73 (5 * (M 64 3)) x1) 73 ((5 * (M 64 3)) + 1) x2) 73 ((5 * (M 64 3)) + 2) x3) 73 ((5 * (M 64 3)) + 3) x4) 73 ((5 * (M 64 3)) + 4) 0) 64 3) (qU (qU (qU (qU (qU (qU M 73 (5 * (M 64 3)) x1) 73 ((5 * (M 64 3)) + 1) x2) 73 ((5 * (M 64 3)) + 2) x3) 73 ((5 * (M 64 3)) + 3) x4) 73 ((5 * (M 64 3)) + 4) 0) 64 3 (((qU (qU (qU (qU (qU M 73 (5 * (M 64 3)) x1) 73 ((5 * (M 64 3)) + 1) x2) 73 ((5 * (M 64 3)) + 2) x3) 73 ((5 * (M 64 3)) + 3) x4) 73 ((5 * (M 64 3)) + 4) 0) 64 3) + 1)))) ∧ ((M 64 3) = 80 → (K (-2) M)))) ∧ ((x4 < 0 ∨ 999 < x4) → (K (-1) M)))) ∧ ((x3 < 0 ∨ (M 64 1) ≤ x3) → (K (-1) M)))) ∧ ((x2 < 0 ∨ (M 64 2) ≤ x2) → (K (-1) M)))) ∧ ((x1 < 0 ∨ (M 64 0) ≤ x1) → (K (-1) M)))) : qOk g (d + 2) j_X8_sign [.inr 63, .inl x1, .inl x2, .inl x3, .inl x4] M (qI K) := by
  refine qOk.of (by decide) (Nat.le_of_ble_eq_true rfl) (fun C hC hQ => ?_)
  have hC : qCk g C cX8_sign RX8 6 (d + 2) := hC
  have hQ : qRt g C (some .int) (qI K) := hQ
  show qW g C 0 [some (.inr 63), some (.inl x1), some (.inl x2), some (.inl x3), some (.inl x4), none] [] M
  refine qW.rm (fun hM => ?_)
  refine q_aload_n hC dX8_sign_0 rfl rfl ?_
  refine q_iconst hC dX8_sign_1 rfl ?_
  refine q_iload_n hC dX8_sign_2 rfl rfl ?_
  obtain ⟨r101, h⟩ := h
  refine q_callVi hC (As := [.inl 0, .inl x1]) md_X8_is mv_X8_is ml_X8_86 ly_63 rfl dX8_sign_3 rfl (Nat.le_of_ble_eq_true rfl) rfl rfl (b_X8_is (by decide) hx1 (by decide) r101) (fun x102 M103 hM104 r105 hk => ?_)
  obtain ⟨ee, hk⟩ := hk
  have ee := ee.symm
  subst ee
  rcases hk with ⟨ee, c⟩ | ⟨ee, c⟩
  · have ee := ee.symm
    subst ee
    have h := h.1 c
    refine q_if_eq hC dX8_sign_6 (t := 35) (by decide) rfl (by decide) (fun c => ?_) (fun c => ?_)
    · exact absurd c (by decide)
    · refine q_aload_n hC dX8_sign_9 rfl rfl ?_
      refine q_iconst hC dX8_sign_10 rfl ?_
      refine q_iload_n hC dX8_sign_11 rfl rfl ?_
      obtain ⟨r106, h⟩ := h
      refine q_callVi hC (As := [.inl 2, .inl x2]) md_X8_is mv_X8_is ml_X8_86 ly_63 rfl dX8_sign_12 rfl (Nat.le_of_ble_eq_true rfl) rfl rfl (b_X8_is (by decide) hx2 (by decide) r106) (fun x107 M108 hM109 r110 hk => ?_)
      obtain ⟨ee, hk⟩ := hk
      have ee := ee.symm
      subst ee
      rcases hk with ⟨ee, c⟩ | ⟨ee, c⟩
      · have ee := ee.symm
        subst ee
        have h := h.1 c
        refine q_if_eq hC dX8_sign_15 (t := 35) (by decide) rfl (by decide) (fun c => ?_) (fun c => ?_)
        · exact absurd c (by decide)
        · refine q_aload_n hC dX8_sign_18 rfl rfl ?_
          refine q_iconst hC dX8_sign_19 rfl ?_
          refine q_iload_n hC dX8_sign_20 rfl rfl ?_
          obtain ⟨r111, h⟩ := h
          refine q_callVi hC (As := [.inl 1, .inl x3]) md_X8_is mv_X8_is ml_X8_86 ly_63 rfl dX8_sign_21 rfl (Nat.le_of_ble_eq_true rfl) rfl rfl (b_X8_is (by decide) hx3 (by decide) r111) (fun x112 M113 hM114 r115 hk => ?_)
          obtain ⟨ee, hk⟩ := hk
          have ee := ee.symm
          subst ee
          rcases hk with ⟨ee, c⟩ | ⟨ee, c⟩
          · have ee := ee.symm
            subst ee
            have h := h.1 c
            refine q_if_eq hC dX8_sign_24 (t := 35) (by decide) rfl (by decide) (fun c => ?_) (fun c => ?_)
            · exact absurd c (by decide)
            · refine q_iload hC dX8_sign_27 rfl rfl ?_
              refine q_callSi hC (As := [.inl x4]) md_X8_isDay ms_X8_isDay ml_X8_90 dX8_sign_29 rfl (Nat.le_of_ble_eq_true rfl) rfl rfl (b_X8_isDay hx4) (fun x116 M117 hM118 r119 hk => ?_)
              obtain ⟨ee, hk⟩ := hk
              have ee := ee.symm
              subst ee
              rcases hk with ⟨ee, c⟩ | ⟨ee, c⟩
              · have ee := ee.symm
                subst ee
                have h := h.1 c
                refine q_if_ne hC dX8_sign_32 (t := 37) (by decide) rfl (by decide) (fun c => ?_) (fun c => ?_)
                · refine q_aload_n hC dX8_sign_37 rfl rfl ?_
                  refine q_getr hC fl_X8_7 ly_63 rfl dX8_sign_38 rfl ?_
                  refine q_iconst hC dX8_sign_41 rfl ?_
                  refine q_iald hC ly_64 dX8_sign_42 rfl (by decide) ?_
                  refine q_bipush hC dX8_sign_43 (by decide) rfl ?_
                  refine q_icmp_ne hC dX8_sign_45 (t := 51) (by decide) rfl (hM 64 3) (by decide) (fun c => ?_) (fun c => ?_)
                  · have h := h.1 c
                    refine q_iconst hC dX8_sign_51 rfl ?_
                    refine q_aload_n hC dX8_sign_52 rfl rfl ?_
                    refine q_getr hC fl_X8_7 ly_63 rfl dX8_sign_53 rfl ?_
                    refine q_iconst hC dX8_sign_56 rfl ?_
                    refine q_iald hC ly_64 dX8_sign_57 rfl (by decide) ?_
                    refine q_imul hC dX8_sign_58 rfl ?_
                    refine q_istore hC dX8_sign_59 (Nat.le_of_ble_eq_true rfl) (loc' := [some (.inr 63), some (.inl x1), some (.inl x2), some (.inl x3), some (.inl x4), some (.inl (5 * (M 64 3)))]) rfl rfl ?_
                    refine q_aload_n hC dX8_sign_61 rfl rfl ?_
                    refine q_getr hC fl_X8_37 ly_63 rfl dX8_sign_62 rfl ?_
                    refine q_iload hC dX8_sign_65 rfl rfl ?_
                    refine q_iload_n hC dX8_sign_67 rfl rfl ?_
                    obtain ⟨r120, h⟩ := h
                    have hM121 : qIn (qU M 73 (5 * (M 64 3)) x1) := (qU_in hM hx1)
                    refine q_iast hC ly_73 dX8_sign_68 rfl r120 hx1 ?_
                    refine q_aload_n hC dX8_sign_69 rfl rfl ?_
                    refine q_getr hC fl_X8_37 ly_63 rfl dX8_sign_70 rfl ?_
                    refine q_iload hC dX8_sign_73 rfl rfl ?_
                    refine q_iconst hC dX8_sign_75 rfl ?_
                    refine q_iadd hC dX8_sign_76 rfl ?_
                    refine q_iload_n hC dX8_sign_77 rfl rfl ?_
                    obtain ⟨r122, h⟩ := h
                    have hM123 : qIn (qU (qU M 73 (5 * (M 64 3)) x1) 73 ((5 * (M 64 3)) + 1) x2) := (qU_in hM121 hx2)
                    refine q_iast hC ly_73 dX8_sign_78 rfl r122 hx2 ?_
                    refine q_aload_n hC dX8_sign_79 rfl rfl ?_
                    refine q_getr hC fl_X8_37 ly_63 rfl dX8_sign_80 rfl ?_
                    refine q_iload hC dX8_sign_83 rfl rfl ?_
                    refine q_iconst hC dX8_sign_85 rfl ?_
                    refine q_iadd hC dX8_sign_86 rfl ?_
                    refine q_iload_n hC dX8_sign_87 rfl rfl ?_
                    obtain ⟨r124, h⟩ := h
                    have hM125 : qIn (qU (qU (qU M 73 (5 * (M 64 3)) x1) 73 ((5 * (M 64 3)) + 1) x2) 73 ((5 * (M 64 3)) + 2) x3) := (qU_in hM123 hx3)
                    refine q_iast hC ly_73 dX8_sign_88 rfl r124 hx3 ?_
                    refine q_aload_n hC dX8_sign_89 rfl rfl ?_
                    refine q_getr hC fl_X8_37 ly_63 rfl dX8_sign_90 rfl ?_
                    refine q_iload hC dX8_sign_93 rfl rfl ?_
                    refine q_iconst hC dX8_sign_95 rfl ?_
                    refine q_iadd hC dX8_sign_96 rfl ?_
                    refine q_iload hC dX8_sign_97 rfl rfl ?_
                    obtain ⟨r126, h⟩ := h
                    have hM127 : qIn (qU (qU (qU (qU M 73 (5 * (M 64 3)) x1) 73 ((5 * (M 64 3)) + 1) x2) 73 ((5 * (M 64 3)) + 2) x3) 73 ((5 * (M 64 3)) + 3) x4) := (qU_in hM125 hx4)
                    refine q_iast hC ly_73 dX8_sign_99 rfl r126 hx4 ?_
                    refine q_aload_n hC dX8_sign_100 rfl rfl ?_
                    refine q_getr hC fl_X8_37 ly_63 rfl dX8_sign_101 rfl ?_
                    refine q_iload hC dX8_sign_104 rfl rfl ?_
                    refine q_iconst hC dX8_sign_106 rfl ?_
                    refine q_iadd hC dX8_sign_107 rfl ?_
                    refine q_iconst hC dX8_sign_108 rfl ?_
                    obtain ⟨r128, h⟩ := h
                    have hM129 : qIn (qU (qU (qU (qU (qU M 73 (5 * (M 64 3)) x1) 73 ((5 * (M 64 3)) + 1) x2) 73 ((5 * (M 64 3)) + 2) x3) 73 ((5 * (M 64 3)) + 3) x4) 73 ((5 * (M 64 3)) + 4) 0) := (qU_in hM127 (by decide))
                    refine q_iast hC ly_73 dX8_sign_109 rfl r128 (by decide) ?_
                    refine q_aload_n hC dX8_sign_110 rfl rfl ?_
                    refine q_iconst hC dX8_sign_111 rfl ?_
                    obtain ⟨r130, h⟩ := h
                    refine q_callVi hC (As := [.inl 3]) md_X8_came mv_X8_came ml_X8_82 ly_63 rfl dX8_sign_112 rfl (Nat.le_of_ble_eq_true rfl) rfl rfl (b_X8_came (by decide) (by decide) r130) (fun x132 M133 hM131 r134 hk => ?_)
                    obtain ⟨ee, hk⟩ := hk
                    have ee := ee.symm
                    subst ee
                    have hk := hk.symm
                    subst hk
                    exact q_iret hC hQ dX8_sign_115 r134 h
                  · have h := h.2 c
                    refine q_bipush hC dX8_sign_48 (by decide) rfl ?_
                    exact q_iret hC hQ dX8_sign_50 (by decide) h
                · exact absurd c (by decide)
              · have ee := ee.symm
                subst ee
                have h := h.2 c
                refine q_if_ne hC dX8_sign_32 (t := 37) (by decide) rfl (by decide) (fun c => ?_) (fun c => ?_)
                · exact absurd c (by decide)
                · refine q_iconst hC dX8_sign_35 rfl ?_
                  exact q_iret hC hQ dX8_sign_36 (by decide) h
          · have ee := ee.symm
            subst ee
            have h := h.2 c
            refine q_if_eq hC dX8_sign_24 (t := 35) (by decide) rfl (by decide) (fun c => ?_) (fun c => ?_)
            · refine q_iconst hC dX8_sign_35 rfl ?_
              exact q_iret hC hQ dX8_sign_36 (by decide) h
            · exact absurd c (by decide)
      · have ee := ee.symm
        subst ee
        have h := h.2 c
        refine q_if_eq hC dX8_sign_15 (t := 35) (by decide) rfl (by decide) (fun c => ?_) (fun c => ?_)
        · refine q_iconst hC dX8_sign_35 rfl ?_
          exact q_iret hC hQ dX8_sign_36 (by decide) h
        · exact absurd c (by decide)
  · have ee := ee.symm
    subst ee
    have h := h.2 c
    refine q_if_eq hC dX8_sign_6 (t := 35) (by decide) rfl (by decide) (fun c => ?_) (fun c => ?_)
    · refine q_iconst hC dX8_sign_35 rfl ?_
      exact q_iret hC hQ dX8_sign_36 (by decide) h
    · exact absurd c (by decide)
set_option maxRecDepth 20000 in
theorem e_X8_strike {g : qG} {d : Nat} {M : qM} {K : Int → qM → Prop} {x1 : Int} (hx1 : qR x1) (h : (0 ≤ (M 64 3)) ∧ (((0 ≤ x1 ∧ x1 < (M 64 3)) → (0 ≤ ((5 * x1) + 4) ∧ ((5 * x1) + 4) < 400) ∧ (((M 73 ((5 * x1) + 4)) ≠ 1 → (K 1 (qU M 73 ((5 * x1) + 4) 1))) ∧ ((M 73 ((5 * x1) + 4)) = 1 → (K (-4) M)))) ∧ ((x1 < 0 ∨ (M 64 3) ≤ x1) → (K (-1) M)))) : qOk g (d + 2) j_X8_strike [.inr 63, .inl x1] M (qI K) := by
  refine qOk.of (by decide) (Nat.le_of_ble_eq_true rfl) (fun C hC hQ => ?_)
  have hC : qCk g C cX8_strike RX8 2 (d + 2) := hC
  have hQ : qRt g C (some .int) (qI K) := hQ
  show qW g C 0 [some (.inr 63), some (.inl x1)] [] M
  refine qW.rm (fun hM => ?_)
  refine q_aload_n hC dX8_strike_0 rfl rfl ?_
  refine q_iconst hC dX8_strike_1 rfl ?_
  refine q_iload_n hC dX8_strike_2 rfl rfl ?_
  obtain ⟨r101, h⟩ := h
  refine q_callVi hC (As := [.inl 3, .inl x1]) md_X8_is mv_X8_is ml_X8_86 ly_63 rfl dX8_strike_3 rfl (Nat.le_of_ble_eq_true rfl) rfl rfl (b_X8_is (by decide) hx1 (by decide) r101) (fun x102 M103 hM104 r105 hk => ?_)
  obtain ⟨ee, hk⟩ := hk
  have ee := ee.symm
  subst ee
  rcases hk with ⟨ee, c⟩ | ⟨ee, c⟩
  · have ee := ee.symm
    subst ee
    have h := h.1 c
    refine q_if_ne hC dX8_strike_6 (t := 11) (by decide) rfl (by decide) (fun c => ?_) (fun c => ?_)
    · refine q_aload_n hC dX8_strike_11 rfl rfl ?_
      refine q_getr hC fl_X8_37 ly_63 rfl dX8_strike_12 rfl ?_
      refine q_iconst hC dX8_strike_15 rfl ?_
      refine q_iload_n hC dX8_strike_16 rfl rfl ?_
      refine q_imul hC dX8_strike_17 rfl ?_
      refine q_iconst hC dX8_strike_18 rfl ?_
      refine q_iadd hC dX8_strike_19 rfl ?_
      obtain ⟨r106, h⟩ := h
      refine q_iald hC ly_73 dX8_strike_20 rfl r106 ?_
      refine q_iconst hC dX8_strike_21 rfl ?_
      refine q_icmp_ne hC dX8_strike_22 (t := 28) (by decide) rfl (hM 73 ((5 * x1) + 4)) (by decide) (fun c => ?_) (fun c => ?_)
      · have h := h.1 c
        refine q_aload_n hC dX8_strike_28 rfl rfl ?_
        refine q_getr hC fl_X8_37 ly_63 rfl dX8_strike_29 rfl ?_
        refine q_iconst hC dX8_strike_32 rfl ?_
        refine q_iload_n hC dX8_strike_33 rfl rfl ?_
        refine q_imul hC dX8_strike_34 rfl ?_
        refine q_iconst hC dX8_strike_35 rfl ?_
        refine q_iadd hC dX8_strike_36 rfl ?_
        refine q_iconst hC dX8_strike_37 rfl ?_
        have hM107 : qIn (qU M 73 ((5 * x1) + 4) 1) := (qU_in hM (by decide))
        refine q_iast hC ly_73 dX8_strike_38 rfl r106 (by decide) ?_
        refine q_iconst hC dX8_strike_39 rfl ?_
        exact q_iret hC hQ dX8_strike_40 (by decide) h
      · have h := h.2 c
        refine q_bipush hC dX8_strike_25 (by decide) rfl ?_
        exact q_iret hC hQ dX8_strike_27 (by decide) h
    · exact absurd c (by decide)
  · have ee := ee.symm
    subst ee
    have h := h.2 c
    refine q_if_ne hC dX8_strike_6 (t := 11) (by decide) rfl (by decide) (fun c => ?_) (fun c => ?_)
    · exact absurd c (by decide)
    · refine q_iconst hC dX8_strike_9 rfl ?_
      exact q_iret hC hQ dX8_strike_10 (by decide) h
set_option maxRecDepth 20000 in
theorem e_X8_counts {g : qG} {d : Nat} {M : qM} {K : Int → qM → Prop} {x1 : Int} (hx1 : qR x1) (h : (0 ≤ ((5 * x1) + 1) ∧ ((5 * x1) + 1) < 400) ∧ (0 ≤ ((5 * x1) + 3) ∧ ((5 * x1) + 3) < 400) ∧ (0 ≤ ((5 * x1) + 2) ∧ ((5 * x1) + 2) < 400) ∧ (0 ≤ (M 73 ((5 * x1) + 1)) ∧ (M 73 ((5 * x1) + 1)) < 10) ∧ (0 ≤ ((5 * x1) + 4) ∧ ((5 * x1) + 4) < 400) ∧ (((M 73 ((5 * x1) + 4)) ≠ 0 → (K 0 M)) ∧ ((M 73 ((5 * x1) + 4)) = 0 → (0 ≤ ((4 * (M 73 ((5 * x1) + 2))) + (M 70 (M 73 ((5 * x1) + 1)))) ∧ ((4 * (M 73 ((5 * x1) + 2))) + (M 70 (M 73 ((5 * x1) + 1)))) < 20) ∧ (((M 67 ((4 * (M 73 ((5 * x1) + 2))) + (M 70 (M 73 ((5 * x1) + 1))))) < 0 → (K 0 M)) ∧ (0 ≤ (M 67 ((4 * (M 73 ((5 * x1) + 2))) + (M 70 (M 73 ((5 * x1) + 1))))) → (((M 73 ((5 * x1) + 3)) < (M 67 ((4 * (M 73 ((5 * x1) + 2))) + (M 70 (M 73 ((5 * x1) + 1))))) → (K 0 M)) ∧ ((M 67 ((4 * (M 73 ((5 * x1) + 2))) + (M 70 (M 73 ((5 * x1) + 1))))) ≤ (M 73 ((5 * x1) + 3)) → (((M 68 ((4 * (M 73 ((5 * x1) + 2))) + (M 70 (M 73 ((5 * x1) + 1))))) < (M 73 ((5 * x1) + 3)) → (K 0 M)) ∧ ((M 73 ((5 * x1) + 3)) ≤ (M 68 ((4 * (M 73 ((5 * x1) + 2))) + (M 70 (M 73 ((5 * x1) + 1))))) → (((M 71 (M 73 ((5 * x1) + 1))) < 0 → (K 1 M)) ∧ (0 ≤ (M 71 (M 73 ((5 * x1) + 1))) → (0 ≤ (M 71 (M 73 ((5 * x1) + 1))) ∧ (M 71 (M 73 ((5 * x1) + 1))) < 10) ∧ (((M 78 (M 71 (M 73 ((5 * x1) + 1)))) < 0 → (K 0 M)) ∧ (0 ≤ (M 78 (M 71 (M 73 ((5 * x1) + 1)))) → (((M 73 ((5 * x1) + 3)) < (M 78 (M 71 (M 73 ((5 * x1) + 1)))) → (K 0 M)) ∧ ((M 78 (M 71 (M 73 ((5 * x1) + 1)))) ≤ (M 73 ((5 * x1) + 3)) → (K 1 M)))))))))))))))) : qOk g d j_X8_counts [.inr 63, .inl x1] M (qI K) := by
  refine qOk.of (by decide) (Nat.le_of_ble_eq_true rfl) (fun C hC hQ => ?_)
  have hC : qCk g C cX8_counts RX8 6 d := hC
  have hQ : qRt g C (some .boolean) (qI K) := hQ
  show qW g C 0 [some (.inr 63), some (.inl x1), none, none, none, none] [] M
  refine qW.rm (fun hM => ?_)
  refine q_aload_n hC dX8_counts_0 rfl rfl ?_
  refine q_getr hC fl_X8_37 ly_63 rfl dX8_counts_1 rfl ?_
  refine q_iconst hC dX8_counts_4 rfl ?_
  refine q_iload_n hC dX8_counts_5 rfl rfl ?_
  refine q_imul hC dX8_counts_6 rfl ?_
  refine q_iconst hC dX8_counts_7 rfl ?_
  refine q_iadd hC dX8_counts_8 rfl ?_
  obtain ⟨r101, h⟩ := h
  refine q_iald hC ly_73 dX8_counts_9 rfl r101 ?_
  refine q_istore_n hC dX8_counts_10 (Nat.le_of_ble_eq_true rfl) (loc' := [some (.inr 63), some (.inl x1), some (.inl (M 73 ((5 * x1) + 1))), none, none, none]) rfl rfl ?_
  refine q_aload_n hC dX8_counts_11 rfl rfl ?_
  refine q_getr hC fl_X8_37 ly_63 rfl dX8_counts_12 rfl ?_
  refine q_iconst hC dX8_counts_15 rfl ?_
  refine q_iload_n hC dX8_counts_16 rfl rfl ?_
  refine q_imul hC dX8_counts_17 rfl ?_
  refine q_iconst hC dX8_counts_18 rfl ?_
  refine q_iadd hC dX8_counts_19 rfl ?_
  obtain ⟨r102, h⟩ := h
  refine q_iald hC ly_73 dX8_counts_20 rfl r102 ?_
  refine q_istore_n hC dX8_counts_21 (Nat.le_of_ble_eq_true rfl) (loc' := [some (.inr 63), some (.inl x1), some (.inl (M 73 ((5 * x1) + 1))), some (.inl (M 73 ((5 * x1) + 3))), none, none]) rfl rfl ?_
  refine q_iconst hC dX8_counts_22 rfl ?_
  refine q_aload_n hC dX8_counts_23 rfl rfl ?_
  refine q_getr hC fl_X8_37 ly_63 rfl dX8_counts_24 rfl ?_
  refine q_iconst hC dX8_counts_27 rfl ?_
  refine q_iload_n hC dX8_counts_28 rfl rfl ?_
  refine q_imul hC dX8_counts_29 rfl ?_
  refine q_iconst hC dX8_counts_30 rfl ?_
  refine q_iadd hC dX8_counts_31 rfl ?_
  obtain ⟨r103, h⟩ := h
  refine q_iald hC ly_73 dX8_counts_32 rfl r103 ?_
  refine q_imul hC dX8_counts_33 rfl ?_
  refine q_aload_n hC dX8_counts_34 rfl rfl ?_
  refine q_getr hC fl_X8_28 ly_63 rfl dX8_counts_35 rfl ?_
  refine q_iload_n hC dX8_counts_38 rfl rfl ?_
  obtain ⟨r104, h⟩ := h
  refine q_iald hC ly_70 dX8_counts_39 rfl r104 ?_
  refine q_iadd hC dX8_counts_40 rfl ?_
  refine q_istore hC dX8_counts_41 (Nat.le_of_ble_eq_true rfl) (loc' := [some (.inr 63), some (.inl x1), some (.inl (M 73 ((5 * x1) + 1))), some (.inl (M 73 ((5 * x1) + 3))), some (.inl ((4 * (M 73 ((5 * x1) + 2))) + (M 70 (M 73 ((5 * x1) + 1))))), none]) rfl rfl ?_
  refine q_aload_n hC dX8_counts_43 rfl rfl ?_
  refine q_getr hC fl_X8_37 ly_63 rfl dX8_counts_44 rfl ?_
  refine q_iconst hC dX8_counts_47 rfl ?_
  refine q_iload_n hC dX8_counts_48 rfl rfl ?_
  refine q_imul hC dX8_counts_49 rfl ?_
  refine q_iconst hC dX8_counts_50 rfl ?_
  refine q_iadd hC dX8_counts_51 rfl ?_
  obtain ⟨r105, h⟩ := h
  refine q_iald hC ly_73 dX8_counts_52 rfl r105 ?_
  refine q_if_ne hC dX8_counts_53 (t := 92) (by decide) rfl (hM 73 ((5 * x1) + 4)) (fun c => ?_) (fun c => ?_)
  · have h := h.1 c
    refine q_iconst hC dX8_counts_92 rfl ?_
    refine q_istore hC dX8_counts_93 (Nat.le_of_ble_eq_true rfl) (loc' := [some (.inr 63), some (.inl x1), some (.inl (M 73 ((5 * x1) + 1))), some (.inl (M 73 ((5 * x1) + 3))), some (.inl ((4 * (M 73 ((5 * x1) + 2))) + (M 70 (M 73 ((5 * x1) + 1))))), some (.inl 0)]) rfl rfl ?_
    refine q_iload hC dX8_counts_95 rfl rfl ?_
    refine q_if_eq hC dX8_counts_97 (t := 142) (by decide) rfl (by decide) (fun c => ?_) (fun c => ?_)
    · refine q_iconst hC dX8_counts_142 rfl ?_
      exact q_zret hC hQ dX8_counts_143 (by decide) h
    · exact absurd c (by decide)
  · have h := h.2 c
    refine q_aload_n hC dX8_counts_56 rfl rfl ?_
    refine q_getr hC fl_X8_19 ly_63 rfl dX8_counts_57 rfl ?_
    refine q_iload hC dX8_counts_60 rfl rfl ?_
    obtain ⟨r106, h⟩ := h
    refine q_iald hC ly_67 dX8_counts_62 rfl r106 ?_
    refine q_if_lt hC dX8_counts_63 (t := 92) (by decide) rfl (hM 67 ((4 * (M 73 ((5 * x1) + 2))) + (M 70 (M 73 ((5 * x1) + 1))))) (fun c => ?_) (fun c => ?_)
    · have h := h.1 c
      refine q_iconst hC dX8_counts_92 rfl ?_
      refine q_istore hC dX8_counts_93 (Nat.le_of_ble_eq_true rfl) (loc' := [some (.inr 63), some (.inl x1), some (.inl (M 73 ((5 * x1) + 1))), some (.inl (M 73 ((5 * x1) + 3))), some (.inl ((4 * (M 73 ((5 * x1) + 2))) + (M 70 (M 73 ((5 * x1) + 1))))), some (.inl 0)]) rfl rfl ?_
      refine q_iload hC dX8_counts_95 rfl rfl ?_
      refine q_if_eq hC dX8_counts_97 (t := 142) (by decide) rfl (by decide) (fun c => ?_) (fun c => ?_)
      · refine q_iconst hC dX8_counts_142 rfl ?_
        exact q_zret hC hQ dX8_counts_143 (by decide) h
      · exact absurd c (by decide)
    · have h := h.2 c
      refine q_iload_n hC dX8_counts_66 rfl rfl ?_
      refine q_aload_n hC dX8_counts_67 rfl rfl ?_
      refine q_getr hC fl_X8_19 ly_63 rfl dX8_counts_68 rfl ?_
      refine q_iload hC dX8_counts_71 rfl rfl ?_
      refine q_iald hC ly_67 dX8_counts_73 rfl r106 ?_
      refine q_icmp_lt hC dX8_counts_74 (t := 92) (by decide) rfl (hM 73 ((5 * x1) + 3)) (hM 67 ((4 * (M 73 ((5 * x1) + 2))) + (M 70 (M 73 ((5 * x1) + 1))))) (fun c => ?_) (fun c => ?_)
      · have h := h.1 c
        refine q_iconst hC dX8_counts_92 rfl ?_
        refine q_istore hC dX8_counts_93 (Nat.le_of_ble_eq_true rfl) (loc' := [some (.inr 63), some (.inl x1), some (.inl (M 73 ((5 * x1) + 1))), some (.inl (M 73 ((5 * x1) + 3))), some (.inl ((4 * (M 73 ((5 * x1) + 2))) + (M 70 (M 73 ((5 * x1) + 1))))), some (.inl 0)]) rfl rfl ?_
        refine q_iload hC dX8_counts_95 rfl rfl ?_
        refine q_if_eq hC dX8_counts_97 (t := 142) (by decide) rfl (by decide) (fun c => ?_) (fun c => ?_)
        · refine q_iconst hC dX8_counts_142 rfl ?_
          exact q_zret hC hQ dX8_counts_143 (by decide) h
        · exact absurd c (by decide)
      · have h := h.2 c
        refine q_iload_n hC dX8_counts_77 rfl rfl ?_
        refine q_aload_n hC dX8_counts_78 rfl rfl ?_
        refine q_getr hC fl_X8_22 ly_63 rfl dX8_counts_79 rfl ?_
        refine q_iload hC dX8_counts_82 rfl rfl ?_
        refine q_iald hC ly_68 dX8_counts_84 rfl r106 ?_
        refine q_icmp_gt hC dX8_counts_85 (t := 92) (by decide) rfl (hM 73 ((5 * x1) + 3)) (hM 68 ((4 * (M 73 ((5 * x1) + 2))) + (M 70 (M 73 ((5 * x1) + 1))))) (fun c => ?_) (fun c => ?_)
        · have h := h.1 c
          refine q_iconst hC dX8_counts_92 rfl ?_
          refine q_istore hC dX8_counts_93 (Nat.le_of_ble_eq_true rfl) (loc' := [some (.inr 63), some (.inl x1), some (.inl (M 73 ((5 * x1) + 1))), some (.inl (M 73 ((5 * x1) + 3))), some (.inl ((4 * (M 73 ((5 * x1) + 2))) + (M 70 (M 73 ((5 * x1) + 1))))), some (.inl 0)]) rfl rfl ?_
          refine q_iload hC dX8_counts_95 rfl rfl ?_
          refine q_if_eq hC dX8_counts_97 (t := 142) (by decide) rfl (by decide) (fun c => ?_) (fun c => ?_)
          · refine q_iconst hC dX8_counts_142 rfl ?_
            exact q_zret hC hQ dX8_counts_143 (by decide) h
          · exact absurd c (by decide)
        · have h := h.2 c
          refine q_iconst hC dX8_counts_88 rfl ?_
          refine q_goto hC dX8_counts_89 (q := 93) (by decide) ?_
          refine q_istore hC dX8_counts_93 (Nat.le_of_ble_eq_true rfl) (loc' := [some (.inr 63), some (.inl x1), some (.inl (M 73 ((5 * x1) + 1))), some (.inl (M 73 ((5 * x1) + 3))), some (.inl ((4 * (M 73 ((5 * x1) + 2))) + (M 70 (M 73 ((5 * x1) + 1))))), some (.inl 1)]) rfl rfl ?_
          refine q_iload hC dX8_counts_95 rfl rfl ?_
          refine q_if_eq hC dX8_counts_97 (t := 142) (by decide) rfl (by decide) (fun c => ?_) (fun c => ?_)
          · exact absurd c (by decide)
          · refine q_aload_n hC dX8_counts_100 rfl rfl ?_
            refine q_getr hC fl_X8_31 ly_63 rfl dX8_counts_101 rfl ?_
            refine q_iload_n hC dX8_counts_104 rfl rfl ?_
            refine q_iald hC ly_71 dX8_counts_105 rfl r104 ?_
            refine q_if_lt hC dX8_counts_106 (t := 138) (by decide) rfl (hM 71 (M 73 ((5 * x1) + 1))) (fun c => ?_) (fun c => ?_)
            · have h := h.1 c
              refine q_iconst hC dX8_counts_138 rfl ?_
              refine q_goto hC dX8_counts_139 (q := 143) (by decide) ?_
              exact q_zret hC hQ dX8_counts_143 (by decide) h
            · have h := h.2 c
              refine q_aload_n hC dX8_counts_109 rfl rfl ?_
              refine q_getr hC fl_X8_56 ly_63 rfl dX8_counts_110 rfl ?_
              refine q_aload_n hC dX8_counts_113 rfl rfl ?_
              refine q_getr hC fl_X8_31 ly_63 rfl dX8_counts_114 rfl ?_
              refine q_iload_n hC dX8_counts_117 rfl rfl ?_
              refine q_iald hC ly_71 dX8_counts_118 rfl r104 ?_
              obtain ⟨r107, h⟩ := h
              refine q_iald hC ly_78 dX8_counts_119 rfl r107 ?_
              refine q_if_lt hC dX8_counts_120 (t := 142) (by decide) rfl (hM 78 (M 71 (M 73 ((5 * x1) + 1)))) (fun c => ?_) (fun c => ?_)
              · have h := h.1 c
                refine q_iconst hC dX8_counts_142 rfl ?_
                exact q_zret hC hQ dX8_counts_143 (by decide) h
              · have h := h.2 c
                refine q_aload_n hC dX8_counts_123 rfl rfl ?_
                refine q_getr hC fl_X8_56 ly_63 rfl dX8_counts_124 rfl ?_
                refine q_aload_n hC dX8_counts_127 rfl rfl ?_
                refine q_getr hC fl_X8_31 ly_63 rfl dX8_counts_128 rfl ?_
                refine q_iload_n hC dX8_counts_131 rfl rfl ?_
                refine q_iald hC ly_71 dX8_counts_132 rfl r104 ?_
                refine q_iald hC ly_78 dX8_counts_133 rfl r107 ?_
                refine q_iload_n hC dX8_counts_134 rfl rfl ?_
                refine q_icmp_gt hC dX8_counts_135 (t := 142) (by decide) rfl (hM 78 (M 71 (M 73 ((5 * x1) + 1)))) (hM 73 ((5 * x1) + 3)) (fun c => ?_) (fun c => ?_)
                · have h := h.1 c
                  refine q_iconst hC dX8_counts_142 rfl ?_
                  exact q_zret hC hQ dX8_counts_143 (by decide) h
                · have h := h.2 c
                  refine q_iconst hC dX8_counts_138 rfl ?_
                  refine q_goto hC dX8_counts_139 (q := 143) (by decide) ?_
                  exact q_zret hC hQ dX8_counts_143 (by decide) h
set_option maxRecDepth 20000 in
theorem e_X8_findDone {g : qG} {d : Nat} {M : qM} {K : qM → Prop} {x1 : Int} (hx1 : qR x1) (h : ∀ C : qX, qCk g C cX8_findDone RX8 6 (d + 1) → qRt g C none (qN K) → qW g C 2 [some (.inr 63), some (.inl x1), some (.inl 0), none, none, none] [] M) : qOk g (d + 1) j_X8_findDone [.inr 63, .inl x1] M (qN K) := by
  refine qOk.of (by decide) (Nat.le_of_ble_eq_true rfl) (fun C hC hQ => ?_)
  have hC : qCk g C cX8_findDone RX8 6 (d + 1) := hC
  have hQ : qRt g C none (qN K) := hQ
  have h := h C hC hQ
  show qW g C 0 [some (.inr 63), some (.inl x1), none, none, none, none] [] M
  refine qW.rm (fun hM => ?_)
  refine q_iconst hC dX8_findDone_0 rfl ?_
  refine q_istore_n hC dX8_findDone_1 (Nat.le_of_ble_eq_true rfl) (loc' := [some (.inr 63), some (.inl x1), some (.inl 0), none, none, none]) rfl rfl ?_
  exact h
set_option maxRecDepth 20000 in
theorem s_X8_findDone_2 {g : qG} {C : qX} {d : Nat} {M : qM} {K : qM → Prop} (hC : qCk g C cX8_findDone RX8 6 (d + 1)) (hQ : qRt g C none (qN K)) {x1 : Int} {x2 : Int} (hx1 : qR x1) (hx2 : qR x2) (h : (((M 64 2) ≤ x2 → (K M)) ∧ (x2 < (M 64 2) → (0 ≤ x2 ∧ x2 < 10) ∧ (qW g C 21 [some (.inr 63), some (.inl x1), some (.inl x2), some (.inl 0), none, none] [] (qU M 78 x2 (-1)))))) : qW g C 2 [some (.inr 63), some (.inl x1), some (.inl x2), none, none, none] [] M := by
  refine qW.rm (fun hM => ?_)
  refine q_iload_n hC dX8_findDone_2 rfl rfl ?_
  refine q_aload_n hC dX8_findDone_3 rfl rfl ?_
  refine q_getr hC fl_X8_7 ly_63 rfl dX8_findDone_4 rfl ?_
  refine q_iconst hC dX8_findDone_7 rfl ?_
  refine q_iald hC ly_64 dX8_findDone_8 rfl (by decide) ?_
  refine q_icmp_ge hC dX8_findDone_9 (t := 138) (by decide) rfl hx2 (hM 64 2) (fun c => ?_) (fun c => ?_)
  · have h := h.1 c
    exact q_vret hC hQ dX8_findDone_138 h
  · have h := h.2 c
    refine q_aload_n hC dX8_findDone_12 rfl rfl ?_
    refine q_getr hC fl_X8_56 ly_63 rfl dX8_findDone_13 rfl ?_
    refine q_iload_n hC dX8_findDone_16 rfl rfl ?_
    refine q_iconst hC dX8_findDone_17 rfl ?_
    obtain ⟨r101, h⟩ := h
    have hM102 : qIn (qU M 78 x2 (-1)) := (qU_in hM (by decide))
    refine q_iast hC ly_78 dX8_findDone_18 rfl r101 (by decide) ?_
    refine q_iconst hC dX8_findDone_19 rfl ?_
    refine q_istore_n hC dX8_findDone_20 (Nat.le_of_ble_eq_true rfl) (loc' := [some (.inr 63), some (.inl x1), some (.inl x2), some (.inl 0), none, none]) rfl rfl ?_
    exact h
set_option maxRecDepth 20000 in
theorem s_X8_findDone_21 {g : qG} {C : qX} {d : Nat} {M : qM} {K : qM → Prop} (hC : qCk g C cX8_findDone RX8 6 (d + 1)) (hQ : qRt g C none (qN K)) {x1 : Int} {x2 : Int} {x3 : Int} (hx1 : qR x1) (hx2 : qR x2) (hx3 : qR x3) (h : (((M 64 3) ≤ x3 → (qW g C 2 [some (.inr 63), some (.inl x1), some (.inl (x2 + 1)), none, none, none] [] M)) ∧ (x3 < (M 64 3) → (0 ≤ ((5 * x3) + 3) ∧ ((5 * x3) + 3) < 400) ∧ (0 ≤ (5 * x3) ∧ (5 * x3) < 400) ∧ (((M 73 (5 * x3)) ≠ x1 → (0 ≤ x2 ∧ x2 < 10) ∧ (qW g C 21 [some (.inr 63), some (.inl x1), some (.inl x2), some (.inl (x3 + 1)), none, none] [] (qU M 78 x2 (M 78 x2)))) ∧ ((M 73 (5 * x3)) = x1 → (0 ≤ ((5 * x3) + 1) ∧ ((5 * x3) + 1) < 400) ∧ (((M 73 ((5 * x3) + 1)) ≠ x2 → (0 ≤ x2 ∧ x2 < 10) ∧ (qW g C 21 [some (.inr 63), some (.inl x1), some (.inl x2), some (.inl (x3 + 1)), none, none] [] (qU M 78 x2 (M 78 x2)))) ∧ ((M 73 ((5 * x3) + 1)) = x2 → (qOk g d j_X8_counts [.inr 63, .inl x3] M (qI fun x110 M108 => ((x110 = 0 → (0 ≤ x2 ∧ x2 < 10) ∧ (qW g C 21 [some (.inr 63), some (.inl x1), some (.inl x2), some (.inl (x3 + 1)), none, none] [] (qU M108 78 x2 (M108 78 x2)))) ∧ (x110 ≠ 0 → (0 ≤ x2 ∧ x2 < 10) ∧ (((M108 78 x2) < 0 → (qW g C 21 [some (.inr 63), some (.inl x1), some (.inl x2), some (.inl (x3 + 1)), none, none] [] (qU M108 78 x2 (M 73 ((5 * x3) + 3))))) ∧ (0 ≤ (M108 78 x2) → (((M108 78 x2) ≤ (M 73 ((5 * x3) + 3)) → (qW g C 21 [some (.inr 63), some (.inl x1), some (.inl x2), some (.inl (x3 + 1)), none, none] [] (qU M108 78 x2 (M108 78 x2)))) ∧ ((M 73 ((5 * x3) + 3)) < (M108 78 x2) → (qW g C 21 [some (.inr 63), some (.inl x1), some (.inl x2), some (.inl (x3 + 1)), none, none] [] (qU M108 78 x2 (M 73 ((5 * x3) + 3))))))))))))))))))) : qW g C 21 [some (.inr 63), some (.inl x1), some (.inl x2), some (.inl x3), none, none] [] M := by
  refine qW.rm (fun hM => ?_)
  refine q_iload_n hC dX8_findDone_21 rfl rfl ?_
  refine q_aload_n hC dX8_findDone_22 rfl rfl ?_
  refine q_getr hC fl_X8_7 ly_63 rfl dX8_findDone_23 rfl ?_
  refine q_iconst hC dX8_findDone_26 rfl ?_
  refine q_iald hC ly_64 dX8_findDone_27 rfl (by decide) ?_
  refine q_icmp_ge hC dX8_findDone_28 (t := 132) (by decide) rfl hx3 (hM 64 3) (fun c => ?_) (fun c => ?_)
  · have h := h.1 c
    refine q_iinc hC dX8_findDone_132 rfl (loc' := [some (.inr 63), some (.inl x1), some (.inl (x2 + 1)), some (.inl x3), none, none]) rfl rfl ?_
    refine q_goto hC dX8_findDone_135 (q := 2) (by decide) ?_
    refine qW.kill 3 (loc' := [some (.inr 63), some (.inl x1), some (.inl (x2 + 1)), none, none, none]) rfl ?_
    exact h
  · have h := h.2 c
    refine q_aload_n hC dX8_findDone_31 rfl rfl ?_
    refine q_getr hC fl_X8_37 ly_63 rfl dX8_findDone_32 rfl ?_
    refine q_iconst hC dX8_findDone_35 rfl ?_
    refine q_iload_n hC dX8_findDone_36 rfl rfl ?_
    refine q_imul hC dX8_findDone_37 rfl ?_
    refine q_iconst hC dX8_findDone_38 rfl ?_
    refine q_iadd hC dX8_findDone_39 rfl ?_
    obtain ⟨r101, h⟩ := h
    refine q_iald hC ly_73 dX8_findDone_40 rfl r101 ?_
    refine q_istore hC dX8_findDone_41 (Nat.le_of_ble_eq_true rfl) (loc' := [some (.inr 63), some (.inl x1), some (.inl x2), some (.inl x3), some (.inl (M 73 ((5 * x3) + 3))), none]) rfl rfl ?_
    refine q_aload_n hC dX8_findDone_43 rfl rfl ?_
    refine q_getr hC fl_X8_37 ly_63 rfl dX8_findDone_44 rfl ?_
    refine q_iconst hC dX8_findDone_47 rfl ?_
    refine q_iload_n hC dX8_findDone_48 rfl rfl ?_
    refine q_imul hC dX8_findDone_49 rfl ?_
    obtain ⟨r102, h⟩ := h
    refine q_iald hC ly_73 dX8_findDone_50 rfl r102 ?_
    refine q_iload_n hC dX8_findDone_51 rfl rfl ?_
    refine q_icmp_ne hC dX8_findDone_52 (t := 81) (by decide) rfl (hM 73 (5 * x3)) hx1 (fun c => ?_) (fun c => ?_)
    · have h := h.1 c
      refine q_iconst hC dX8_findDone_81 rfl ?_
      refine q_istore hC dX8_findDone_82 (Nat.le_of_ble_eq_true rfl) (loc' := [some (.inr 63), some (.inl x1), some (.inl x2), some (.inl x3), some (.inl (M 73 ((5 * x3) + 3))), some (.inl 0)]) rfl rfl ?_
      refine q_aload_n hC dX8_findDone_84 rfl rfl ?_
      refine q_getr hC fl_X8_56 ly_63 rfl dX8_findDone_85 rfl ?_
      refine q_iload_n hC dX8_findDone_88 rfl rfl ?_
      refine q_iload hC dX8_findDone_89 rfl rfl ?_
      refine q_if_eq hC dX8_findDone_91 (t := 119) (by decide) rfl (by decide) (fun c => ?_) (fun c => ?_)
      · refine q_aload_n hC dX8_findDone_119 rfl rfl ?_
        refine q_getr hC fl_X8_56 ly_63 rfl dX8_findDone_120 rfl ?_
        refine q_iload_n hC dX8_findDone_123 rfl rfl ?_
        obtain ⟨r103, h⟩ := h
        refine q_iald hC ly_78 dX8_findDone_124 rfl r103 ?_
        have hM104 : qIn (qU M 78 x2 (M 78 x2)) := (qU_in hM (hM 78 x2))
        refine q_iast hC ly_78 dX8_findDone_125 rfl r103 (hM 78 x2) ?_
        refine q_iinc hC dX8_findDone_126 rfl (loc' := [some (.inr 63), some (.inl x1), some (.inl x2), some (.inl (x3 + 1)), some (.inl (M 73 ((5 * x3) + 3))), some (.inl 0)]) rfl rfl ?_
        refine q_goto hC dX8_findDone_129 (q := 21) (by decide) ?_
        refine qW.kill 4 (loc' := [some (.inr 63), some (.inl x1), some (.inl x2), some (.inl (x3 + 1)), none, some (.inl 0)]) rfl ?_
        refine qW.kill 5 (loc' := [some (.inr 63), some (.inl x1), some (.inl x2), some (.inl (x3 + 1)), none, none]) rfl ?_
        exact h
      · exact absurd c (by decide)
    · have h := h.2 c
      refine q_aload_n hC dX8_findDone_55 rfl rfl ?_
      refine q_getr hC fl_X8_37 ly_63 rfl dX8_findDone_56 rfl ?_
      refine q_iconst hC dX8_findDone_59 rfl ?_
      refine q_iload_n hC dX8_findDone_60 rfl rfl ?_
      refine q_imul hC dX8_findDone_61 rfl ?_
      refine q_iconst hC dX8_findDone_62 rfl ?_
      refine q_iadd hC dX8_findDone_63 rfl ?_
      obtain ⟨r105, h⟩ := h
      refine q_iald hC ly_73 dX8_findDone_64 rfl r105 ?_
      refine q_iload_n hC dX8_findDone_65 rfl rfl ?_
      refine q_icmp_ne hC dX8_findDone_66 (t := 81) (by decide) rfl (hM 73 ((5 * x3) + 1)) hx2 (fun c => ?_) (fun c => ?_)
      · have h := h.1 c
        refine q_iconst hC dX8_findDone_81 rfl ?_
        refine q_istore hC dX8_findDone_82 (Nat.le_of_ble_eq_true rfl) (loc' := [some (.inr 63), some (.inl x1), some (.inl x2), some (.inl x3), some (.inl (M 73 ((5 * x3) + 3))), some (.inl 0)]) rfl rfl ?_
        refine q_aload_n hC dX8_findDone_84 rfl rfl ?_
        refine q_getr hC fl_X8_56 ly_63 rfl dX8_findDone_85 rfl ?_
        refine q_iload_n hC dX8_findDone_88 rfl rfl ?_
        refine q_iload hC dX8_findDone_89 rfl rfl ?_
        refine q_if_eq hC dX8_findDone_91 (t := 119) (by decide) rfl (by decide) (fun c => ?_) (fun c => ?_)
        · refine q_aload_n hC dX8_findDone_119 rfl rfl ?_
          refine q_getr hC fl_X8_56 ly_63 rfl dX8_findDone_120 rfl ?_
          refine q_iload_n hC dX8_findDone_123 rfl rfl ?_
          obtain ⟨r106, h⟩ := h
          refine q_iald hC ly_78 dX8_findDone_124 rfl r106 ?_
          have hM107 : qIn (qU M 78 x2 (M 78 x2)) := (qU_in hM (hM 78 x2))
          refine q_iast hC ly_78 dX8_findDone_125 rfl r106 (hM 78 x2) ?_
          refine q_iinc hC dX8_findDone_126 rfl (loc' := [some (.inr 63), some (.inl x1), some (.inl x2), some (.inl (x3 + 1)), some (.inl (M 73 ((5 * x3) + 3))), some (.inl 0)]) rfl rfl ?_
          refine q_goto hC dX8_findDone_129 (q := 21) (by decide) ?_
          refine qW.kill 4 (loc' := [some (.inr 63), some (.inl x1), some (.inl x2), some (.inl (x3 + 1)), none, some (.inl 0)]) rfl ?_
          refine qW.kill 5 (loc' := [some (.inr 63), some (.inl x1), some (.inl x2), some (.inl (x3 + 1)), none, none]) rfl ?_
          exact h
        · exact absurd c (by decide)
      · have h := h.2 c
        refine q_aload_n hC dX8_findDone_69 rfl rfl ?_
        refine q_iload_n hC dX8_findDone_70 rfl rfl ?_
        refine q_callVi hC (As := [.inl x3]) md_X8_counts mv_X8_counts ml_X8_93 ly_63 rfl dX8_findDone_71 rfl (Nat.le_of_ble_eq_true rfl) rfl rfl h (fun x110 M108 hM109 r111 h => ?_)
        refine q_if_eq hC dX8_findDone_74 (t := 81) (by decide) rfl r111 (fun c => ?_) (fun c => ?_)
        · have h := h.1 c
          refine q_iconst hC dX8_findDone_81 rfl ?_
          refine q_istore hC dX8_findDone_82 (Nat.le_of_ble_eq_true rfl) (loc' := [some (.inr 63), some (.inl x1), some (.inl x2), some (.inl x3), some (.inl (M 73 ((5 * x3) + 3))), some (.inl 0)]) rfl rfl ?_
          refine q_aload_n hC dX8_findDone_84 rfl rfl ?_
          refine q_getr hC fl_X8_56 ly_63 rfl dX8_findDone_85 rfl ?_
          refine q_iload_n hC dX8_findDone_88 rfl rfl ?_
          refine q_iload hC dX8_findDone_89 rfl rfl ?_
          refine q_if_eq hC dX8_findDone_91 (t := 119) (by decide) rfl (by decide) (fun c => ?_) (fun c => ?_)
          · refine q_aload_n hC dX8_findDone_119 rfl rfl ?_
            refine q_getr hC fl_X8_56 ly_63 rfl dX8_findDone_120 rfl ?_
            refine q_iload_n hC dX8_findDone_123 rfl rfl ?_
            obtain ⟨r112, h⟩ := h
            refine q_iald hC ly_78 dX8_findDone_124 rfl r112 ?_
            have hM113 : qIn (qU M108 78 x2 (M108 78 x2)) := (qU_in hM109 (hM109 78 x2))
            refine q_iast hC ly_78 dX8_findDone_125 rfl r112 (hM109 78 x2) ?_
            refine q_iinc hC dX8_findDone_126 rfl (loc' := [some (.inr 63), some (.inl x1), some (.inl x2), some (.inl (x3 + 1)), some (.inl (M 73 ((5 * x3) + 3))), some (.inl 0)]) rfl rfl ?_
            refine q_goto hC dX8_findDone_129 (q := 21) (by decide) ?_
            refine qW.kill 4 (loc' := [some (.inr 63), some (.inl x1), some (.inl x2), some (.inl (x3 + 1)), none, some (.inl 0)]) rfl ?_
            refine qW.kill 5 (loc' := [some (.inr 63), some (.inl x1), some (.inl x2), some (.inl (x3 + 1)), none, none]) rfl ?_
            exact h
          · exact absurd c (by decide)
        · have h := h.2 c
          refine q_iconst hC dX8_findDone_77 rfl ?_
          refine q_goto hC dX8_findDone_78 (q := 82) (by decide) ?_
          refine q_istore hC dX8_findDone_82 (Nat.le_of_ble_eq_true rfl) (loc' := [some (.inr 63), some (.inl x1), some (.inl x2), some (.inl x3), some (.inl (M 73 ((5 * x3) + 3))), some (.inl 1)]) rfl rfl ?_
          refine q_aload_n hC dX8_findDone_84 rfl rfl ?_
          refine q_getr hC fl_X8_56 ly_63 rfl dX8_findDone_85 rfl ?_
          refine q_iload_n hC dX8_findDone_88 rfl rfl ?_
          refine q_iload hC dX8_findDone_89 rfl rfl ?_
          refine q_if_eq hC dX8_findDone_91 (t := 119) (by decide) rfl (by decide) (fun c => ?_) (fun c => ?_)
          · exact absurd c (by decide)
          · refine q_aload_n hC dX8_findDone_94 rfl rfl ?_
            refine q_getr hC fl_X8_56 ly_63 rfl dX8_findDone_95 rfl ?_
            refine q_iload_n hC dX8_findDone_98 rfl rfl ?_
            obtain ⟨r114, h⟩ := h
            refine q_iald hC ly_78 dX8_findDone_99 rfl r114 ?_
            refine q_if_lt hC dX8_findDone_100 (t := 114) (by decide) rfl (hM109 78 x2) (fun c => ?_) (fun c => ?_)
            · have h := h.1 c
              refine q_iload hC dX8_findDone_114 rfl rfl ?_
              refine q_goto hC dX8_findDone_116 (q := 125) (by decide) ?_
              have hM115 : qIn (qU M108 78 x2 (M 73 ((5 * x3) + 3))) := (qU_in hM109 (hM 73 ((5 * x3) + 3)))
              refine q_iast hC ly_78 dX8_findDone_125 rfl r114 (hM 73 ((5 * x3) + 3)) ?_
              refine q_iinc hC dX8_findDone_126 rfl (loc' := [some (.inr 63), some (.inl x1), some (.inl x2), some (.inl (x3 + 1)), some (.inl (M 73 ((5 * x3) + 3))), some (.inl 1)]) rfl rfl ?_
              refine q_goto hC dX8_findDone_129 (q := 21) (by decide) ?_
              refine qW.kill 4 (loc' := [some (.inr 63), some (.inl x1), some (.inl x2), some (.inl (x3 + 1)), none, some (.inl 1)]) rfl ?_
              refine qW.kill 5 (loc' := [some (.inr 63), some (.inl x1), some (.inl x2), some (.inl (x3 + 1)), none, none]) rfl ?_
              exact h
            · have h := h.2 c
              refine q_iload hC dX8_findDone_103 rfl rfl ?_
              refine q_aload_n hC dX8_findDone_105 rfl rfl ?_
              refine q_getr hC fl_X8_56 ly_63 rfl dX8_findDone_106 rfl ?_
              refine q_iload_n hC dX8_findDone_109 rfl rfl ?_
              refine q_iald hC ly_78 dX8_findDone_110 rfl r114 ?_
              refine q_icmp_ge hC dX8_findDone_111 (t := 119) (by decide) rfl (hM 73 ((5 * x3) + 3)) (hM109 78 x2) (fun c => ?_) (fun c => ?_)
              · have h := h.1 c
                refine q_aload_n hC dX8_findDone_119 rfl rfl ?_
                refine q_getr hC fl_X8_56 ly_63 rfl dX8_findDone_120 rfl ?_
                refine q_iload_n hC dX8_findDone_123 rfl rfl ?_
                refine q_iald hC ly_78 dX8_findDone_124 rfl r114 ?_
                have hM116 : qIn (qU M108 78 x2 (M108 78 x2)) := (qU_in hM109 (hM109 78 x2))
                refine q_iast hC ly_78 dX8_findDone_125 rfl r114 (hM109 78 x2) ?_
                refine q_iinc hC dX8_findDone_126 rfl (loc' := [some (.inr 63), some (.inl x1), some (.inl x2), some (.inl (x3 + 1)), some (.inl (M 73 ((5 * x3) + 3))), some (.inl 1)]) rfl rfl ?_
                refine q_goto hC dX8_findDone_129 (q := 21) (by decide) ?_
                refine qW.kill 4 (loc' := [some (.inr 63), some (.inl x1), some (.inl x2), some (.inl (x3 + 1)), none, some (.inl 1)]) rfl ?_
                refine qW.kill 5 (loc' := [some (.inr 63), some (.inl x1), some (.inl x2), some (.inl (x3 + 1)), none, none]) rfl ?_
                exact h
              · have h := h.2 c
                refine q_iload hC dX8_findDone_114 rfl rfl ?_
                refine q_goto hC dX8_findDone_116 (q := 125) (by decide) ?_
                have hM117 : qIn (qU M108 78 x2 (M 73 ((5 * x3) + 3))) := (qU_in hM109 (hM 73 ((5 * x3) + 3)))
                refine q_iast hC ly_78 dX8_findDone_125 rfl r114 (hM 73 ((5 * x3) + 3)) ?_
                refine q_iinc hC dX8_findDone_126 rfl (loc' := [some (.inr 63), some (.inl x1), some (.inl x2), some (.inl (x3 + 1)), some (.inl (M 73 ((5 * x3) + 3))), some (.inl 1)]) rfl rfl ?_
                refine q_goto hC dX8_findDone_129 (q := 21) (by decide) ?_
                refine qW.kill 4 (loc' := [some (.inr 63), some (.inl x1), some (.inl x2), some (.inl (x3 + 1)), none, some (.inl 1)]) rfl ?_
                refine qW.kill 5 (loc' := [some (.inr 63), some (.inl x1), some (.inl x2), some (.inl (x3 + 1)), none, none]) rfl ?_
                exact h
set_option maxRecDepth 20000 in
theorem e_X8_dayOf {g : qG} {d : Nat} {M : qM} {K : Int → qM → Prop} {x1 : Int} {x2 : Int} (hx1 : qR x1) (hx2 : qR x2) (h : ∀ C : qX, qCk g C cX8_dayOf RX8 6 (d + 1) → qRt g C (some .int) (qI K) → ((x2 ≠ 0 → (qW g C 8 [some (.inr 63), some (.inl x1), some (.inl x2), some (.inl 0), none, none] [] M)) ∧ (x2 = 0 → (K 0 M)))) : qOk g (d + 1) j_X8_dayOf [.inr 63, .inl x1, .inl x2] M (qI K) := by
  refine qOk.of (by decide) (Nat.le_of_ble_eq_true rfl) (fun C hC hQ => ?_)
  have hC : qCk g C cX8_dayOf RX8 6 (d + 1) := hC
  have hQ : qRt g C (some .int) (qI K) := hQ
  have h := h C hC hQ
  show qW g C 0 [some (.inr 63), some (.inl x1), some (.inl x2), none, none, none] [] M
  refine qW.rm (fun hM => ?_)
  refine q_iload_n hC dX8_dayOf_0 rfl rfl ?_
  refine q_if_ne hC dX8_dayOf_1 (t := 6) (by decide) rfl hx2 (fun c => ?_) (fun c => ?_)
  · have h := h.1 c
    refine q_iconst hC dX8_dayOf_6 rfl ?_
    refine q_istore_n hC dX8_dayOf_7 (Nat.le_of_ble_eq_true rfl) (loc' := [some (.inr 63), some (.inl x1), some (.inl x2), some (.inl 0), none, none]) rfl rfl ?_
    exact h
  · have h := h.2 c
    refine q_iconst hC dX8_dayOf_4 rfl ?_
    exact q_iret hC hQ dX8_dayOf_5 (by decide) h
set_option maxRecDepth 20000 in
theorem s_X8_dayOf_8 {g : qG} {C : qX} {d : Nat} {M : qM} {K : Int → qM → Prop} (hC : qCk g C cX8_dayOf RX8 6 (d + 1)) (hQ : qRt g C (some .int) (qI K)) {x1 : Int} {x2 : Int} {x3 : Int} (hx1 : qR x1) (hx2 : qR x2) (hx3 : qR x3) (h : ((1000 ≤ x3 → (K (-1) M)) ∧ (x3 < 1000 → (qW g C 21 [some (.inr 63), some (.inl x1), some (.inl x2), some (.inl x3), some (.inl 0), some (.inl 0)] [] M)))) : qW g C 8 [some (.inr 63), some (.inl x1), some (.inl x2), some (.inl x3), none, none] [] M := by
  refine qW.rm (fun hM => ?_)
  refine q_iload_n hC dX8_dayOf_8 rfl rfl ?_
  refine q_sipush hC dX8_dayOf_9 (by decide) rfl ?_
  refine q_icmp_ge hC dX8_dayOf_12 (t := 88) (by decide) rfl hx3 (by decide) (fun c => ?_) (fun c => ?_)
  · have h := h.1 c
    refine q_iconst hC dX8_dayOf_88 rfl ?_
    exact q_iret hC hQ dX8_dayOf_89 (by decide) h
  · have h := h.2 c
    refine q_iconst hC dX8_dayOf_15 rfl ?_
    refine q_istore hC dX8_dayOf_16 (Nat.le_of_ble_eq_true rfl) (loc' := [some (.inr 63), some (.inl x1), some (.inl x2), some (.inl x3), some (.inl 0), none]) rfl rfl ?_
    refine q_iconst hC dX8_dayOf_18 rfl ?_
    refine q_istore hC dX8_dayOf_19 (Nat.le_of_ble_eq_true rfl) (loc' := [some (.inr 63), some (.inl x1), some (.inl x2), some (.inl x3), some (.inl 0), some (.inl 0)]) rfl rfl ?_
    exact h
set_option maxRecDepth 20000 in
theorem s_X8_dayOf_21 {g : qG} {C : qX} {d : Nat} {M : qM} {K : Int → qM → Prop} (hC : qCk g C cX8_dayOf RX8 6 (d + 1)) (hQ : qRt g C (some .int) (qI K)) {x1 : Int} {x2 : Int} {x3 : Int} {x4 : Int} {x5 : Int} (hx1 : qR x1) (hx2 : qR x2) (hx3 : qR x3) (hx4 : qR x4) (hx5 : qR x5) (h : ((10 ≤ x5 → ((x4 < x2 → (qW g C 8 [some (.inr 63), some (.inl x1), some (.inl x2), some (.inl (x3 + 1)), none, none] [] M)) ∧ (x2 ≤ x4 → (K x3 M)))) ∧ (x5 < 10 → (((qAnd (qShr x1 x5) 1) ≠ 1 → (qW g C 21 [some (.inr 63), some (.inl x1), some (.inl x2), some (.inl x3), some (.inl (x4 + 0)), some (.inl (x5 + 1))] [] M)) ∧ ((qAnd (qShr x1 x5) 1) = 1 → (x5 < (M 64 2) → 0 ≤ x5 ∧ x5 < 10) ∧ (((x5 < (M 64 2) ∧ 0 ≤ (M 78 x5)) → (0 ≤ x5 ∧ x5 < 10) ∧ ((x3 < (M 78 x5) → (qW g C 21 [some (.inr 63), some (.inl x1), some (.inl x2), some (.inl x3), some (.inl (x4 + 0)), some (.inl (x5 + 1))] [] M)) ∧ ((M 78 x5) ≤ x3 → (qW g C 21 [some (.inr 63), some (.inl x1), some (.inl x2), some (.inl x3), some (.inl (x4 + 1)), some (.inl (x5 + 1))] [] M)))) ∧ ((M 64 2) ≤ x5 ∨ (M 78 x5) < 0 → (qW g C 21 [some (.inr 63), some (.inl x1), some (.inl x2), some (.inl x3), some (.inl (x4 + 0)), some (.inl (x5 + 1))] [] M)))))))) : qW g C 21 [some (.inr 63), some (.inl x1), some (.inl x2), some (.inl x3), some (.inl x4), some (.inl x5)] [] M := by
  refine qW.rm (fun hM => ?_)
  refine q_iload hC dX8_dayOf_21 rfl rfl ?_
  refine q_bipush hC dX8_dayOf_23 (by decide) rfl ?_
  refine q_icmp_ge hC dX8_dayOf_25 (t := 74) (by decide) rfl hx5 (by decide) (fun c => ?_) (fun c => ?_)
  · have h := h.1 c
    refine q_iload hC dX8_dayOf_74 rfl rfl ?_
    refine q_iload_n hC dX8_dayOf_76 rfl rfl ?_
    refine q_icmp_lt hC dX8_dayOf_77 (t := 82) (by decide) rfl hx4 hx2 (fun c => ?_) (fun c => ?_)
    · have h := h.1 c
      refine q_iinc hC dX8_dayOf_82 rfl (loc' := [some (.inr 63), some (.inl x1), some (.inl x2), some (.inl (x3 + 1)), some (.inl x4), some (.inl x5)]) rfl rfl ?_
      refine q_goto hC dX8_dayOf_85 (q := 8) (by decide) ?_
      refine qW.kill 4 (loc' := [some (.inr 63), some (.inl x1), some (.inl x2), some (.inl (x3 + 1)), none, some (.inl x5)]) rfl ?_
      refine qW.kill 5 (loc' := [some (.inr 63), some (.inl x1), some (.inl x2), some (.inl (x3 + 1)), none, none]) rfl ?_
      exact h
    · have h := h.2 c
      refine q_iload_n hC dX8_dayOf_80 rfl rfl ?_
      exact q_iret hC hQ dX8_dayOf_81 hx3 h
  · have h := h.2 c
    refine q_iload hC dX8_dayOf_28 rfl rfl ?_
    refine q_iload_n hC dX8_dayOf_30 rfl rfl ?_
    refine q_iload hC dX8_dayOf_31 rfl rfl ?_
    refine q_ishr hC dX8_dayOf_33 rfl ?_
    refine q_iconst hC dX8_dayOf_34 rfl ?_
    refine q_iand hC dX8_dayOf_35 rfl ?_
    refine q_iconst hC dX8_dayOf_36 rfl ?_
    refine q_icmp_ne hC dX8_dayOf_37 (t := 64) (by decide) rfl (qR_and _ _) (by decide) (fun c => ?_) (fun c => ?_)
    · have h := h.1 c
      refine q_iconst hC dX8_dayOf_64 rfl ?_
      refine q_iadd hC dX8_dayOf_65 rfl ?_
      refine q_istore hC dX8_dayOf_66 (Nat.le_of_ble_eq_true rfl) (loc' := [some (.inr 63), some (.inl x1), some (.inl x2), some (.inl x3), some (.inl (x4 + 0)), some (.inl x5)]) rfl rfl ?_
      refine q_iinc hC dX8_dayOf_68 rfl (loc' := [some (.inr 63), some (.inl x1), some (.inl x2), some (.inl x3), some (.inl (x4 + 0)), some (.inl (x5 + 1))]) rfl rfl ?_
      refine q_goto hC dX8_dayOf_71 (q := 21) (by decide) ?_
      exact h
    · have h := h.2 c
      refine q_aload_n hC dX8_dayOf_40 rfl rfl ?_
      refine q_iload hC dX8_dayOf_41 rfl rfl ?_
      obtain ⟨r101, h⟩ := h
      refine q_callVi hC (As := [.inl x5]) md_X8_isDone mv_X8_isDone ml_X8_96 ly_63 rfl dX8_dayOf_43 rfl (Nat.le_of_ble_eq_true rfl) rfl rfl (b_X8_isDone hx5 r101) (fun x102 M103 hM104 r105 hk => ?_)
      obtain ⟨ee, hk⟩ := hk
      have ee := ee.symm
      subst ee
      rcases hk with ⟨ee, c⟩ | ⟨ee, c⟩
      · have ee := ee.symm
        subst ee
        have h := h.1 c
        refine q_if_eq hC dX8_dayOf_46 (t := 64) (by decide) rfl (by decide) (fun c => ?_) (fun c => ?_)
        · exact absurd c (by decide)
        · refine q_aload_n hC dX8_dayOf_49 rfl rfl ?_
          refine q_getr hC fl_X8_56 ly_63 rfl dX8_dayOf_50 rfl ?_
          refine q_iload hC dX8_dayOf_53 rfl rfl ?_
          obtain ⟨r106, h⟩ := h
          refine q_iald hC ly_78 dX8_dayOf_55 rfl r106 ?_
          refine q_iload_n hC dX8_dayOf_56 rfl rfl ?_
          refine q_icmp_gt hC dX8_dayOf_57 (t := 64) (by decide) rfl (hM 78 x5) hx3 (fun c => ?_) (fun c => ?_)
          · have h := h.1 c
            refine q_iconst hC dX8_dayOf_64 rfl ?_
            refine q_iadd hC dX8_dayOf_65 rfl ?_
            refine q_istore hC dX8_dayOf_66 (Nat.le_of_ble_eq_true rfl) (loc' := [some (.inr 63), some (.inl x1), some (.inl x2), some (.inl x3), some (.inl (x4 + 0)), some (.inl x5)]) rfl rfl ?_
            refine q_iinc hC dX8_dayOf_68 rfl (loc' := [some (.inr 63), some (.inl x1), some (.inl x2), some (.inl x3), some (.inl (x4 + 0)), some (.inl (x5 + 1))]) rfl rfl ?_
            refine q_goto hC dX8_dayOf_71 (q := 21) (by decide) ?_
            exact h
          · have h := h.2 c
            refine q_iconst hC dX8_dayOf_60 rfl ?_
            refine q_goto hC dX8_dayOf_61 (q := 65) (by decide) ?_
            refine q_iadd hC dX8_dayOf_65 rfl ?_
            refine q_istore hC dX8_dayOf_66 (Nat.le_of_ble_eq_true rfl) (loc' := [some (.inr 63), some (.inl x1), some (.inl x2), some (.inl x3), some (.inl (x4 + 1)), some (.inl x5)]) rfl rfl ?_
            refine q_iinc hC dX8_dayOf_68 rfl (loc' := [some (.inr 63), some (.inl x1), some (.inl x2), some (.inl x3), some (.inl (x4 + 1)), some (.inl (x5 + 1))]) rfl rfl ?_
            refine q_goto hC dX8_dayOf_71 (q := 21) (by decide) ?_
            exact h
      · have ee := ee.symm
        subst ee
        have h := h.2 c
        refine q_if_eq hC dX8_dayOf_46 (t := 64) (by decide) rfl (by decide) (fun c => ?_) (fun c => ?_)
        · refine q_iconst hC dX8_dayOf_64 rfl ?_
          refine q_iadd hC dX8_dayOf_65 rfl ?_
          refine q_istore hC dX8_dayOf_66 (Nat.le_of_ble_eq_true rfl) (loc' := [some (.inr 63), some (.inl x1), some (.inl x2), some (.inl x3), some (.inl (x4 + 0)), some (.inl x5)]) rfl rfl ?_
          refine q_iinc hC dX8_dayOf_68 rfl (loc' := [some (.inr 63), some (.inl x1), some (.inl x2), some (.inl x3), some (.inl (x4 + 0)), some (.inl (x5 + 1))]) rfl rfl ?_
          refine q_goto hC dX8_dayOf_71 (q := 21) (by decide) ?_
          exact h
        · exact absurd c (by decide)
set_option maxRecDepth 20000 in
theorem e_X8_findHeld {g : qG} {d : Nat} {M : qM} {K : qM → Prop} {x1 : Int} (hx1 : qR x1) (h : ∀ C : qX, qCk g C cX8_findHeld RX8 5 (d + 2) → qRt g C none (qN K) → qOk g (d + 1) j_X8_findDone [.inr 63, .inl x1] M (qN fun M101 => qW g C 7 [some (.inr 63), some (.inl x1), some (.inl 0), none, none] [] M101)) : qOk g (d + 2) j_X8_findHeld [.inr 63, .inl x1] M (qN K) := by
  refine qOk.of (by decide) (Nat.le_of_ble_eq_true rfl) (fun C hC hQ => ?_)
  have hC : qCk g C cX8_findHeld RX8 5 (d + 2) := hC
  have hQ : qRt g C none (qN K) := hQ
  have h := h C hC hQ
  show qW g C 0 [some (.inr 63), some (.inl x1), none, none, none] [] M
  refine qW.rm (fun hM => ?_)
  refine q_aload_n hC dX8_findHeld_0 rfl rfl ?_
  refine q_iload_n hC dX8_findHeld_1 rfl rfl ?_
  refine q_callVv hC (As := [.inl x1]) md_X8_findDone mv_X8_findDone ml_X8_99 ly_63 rfl dX8_findHeld_2 rfl (Nat.le_of_ble_eq_true rfl) rfl rfl h (fun M101 hM102 h => ?_)
  refine q_iconst hC dX8_findHeld_5 rfl ?_
  refine q_istore_n hC dX8_findHeld_6 (Nat.le_of_ble_eq_true rfl) (loc' := [some (.inr 63), some (.inl x1), some (.inl 0), none, none]) rfl rfl ?_
  exact h
set_option maxRecDepth 20000 in
theorem s_X8_findHeld_7 {g : qG} {C : qX} {d : Nat} {M : qM} {K : qM → Prop} (hC : qCk g C cX8_findHeld RX8 5 (d + 2)) (hQ : qRt g C none (qN K)) {x1 : Int} {x2 : Int} (hx1 : qR x1) (hx2 : qR x2) (h : (((M 64 4) ≤ x2 → (K M)) ∧ (x2 < (M 64 4) → (0 ≤ (5 * x2) ∧ (5 * x2) < 40) ∧ (qOk g (d + 1) j_X8_ones [.inl (M 72 (5 * x2))] M (qI fun x104 M102 => qOk g (d + 1) j_X8_dayOf [.inr 63, .inl (M 72 (5 * x2)), .inl x104] M102 (qI fun x108 M106 => (0 ≤ ((5 * x2) + 1) ∧ ((5 * x2) + 1) < 40) ∧ (0 ≤ ((5 * x2) + 2) ∧ ((5 * x2) + 2) < 40) ∧ (qOk g (d + 1) j_X8_dayOf [.inr 63, .inl (M106 72 ((5 * x2) + 1)), .inl (M106 72 ((5 * x2) + 2))] M106 (qI fun x114 M112 => (((x108 < 0 ∨ x114 < 0) → (0 ≤ ((5 * x2) + 4) ∧ ((5 * x2) + 4) < 40) ∧ ((0 ≤ (M112 72 ((5 * x2) + 4)) → (0 ≤ (M112 72 ((5 * x2) + 4)) ∧ (M112 72 ((5 * x2) + 4)) < 8) ∧ (((-1) < 0 ∨ (M112 79 (M112 72 ((5 * x2) + 4))) < 0 → (0 ≤ x1 ∧ x1 < 10) ∧ (0 ≤ ((5 * x2) + 3) ∧ ((5 * x2) + 3) < 40) ∧ (((M112 65 x1) < (M112 72 ((5 * x2) + 3)) → (0 ≤ x2 ∧ x2 < 8) ∧ (qW g C 7 [some (.inr 63), some (.inl x1), some (.inl (x2 + 1)), none, none] [] (qU M112 79 x2 (-1)))) ∧ ((M112 72 ((5 * x2) + 3)) ≤ (M112 65 x1) → (0 ≤ x2 ∧ x2 < 8) ∧ (qW g C 7 [some (.inr 63), some (.inl x1), some (.inl (x2 + 1)), none, none] [] (qU M112 79 x2 (-1)))))) ∧ ((0 ≤ (-1) ∧ 0 ≤ (M112 79 (M112 72 ((5 * x2) + 4)))) → (0 ≤ x1 ∧ x1 < 10) ∧ (0 ≤ ((5 * x2) + 3) ∧ ((5 * x2) + 3) < 40) ∧ (((M112 65 x1) < (M112 72 ((5 * x2) + 3)) → (0 ≤ x2 ∧ x2 < 8) ∧ (qW g C 7 [some (.inr 63), some (.inl x1), some (.inl (x2 + 1)), none, none] [] (qU M112 79 x2 (-1)))) ∧ ((M112 72 ((5 * x2) + 3)) ≤ (M112 65 x1) → (0 ≤ x2 ∧ x2 < 8) ∧ (qW g C 7 [some (.inr 63), some (.inl x1), some (.inl (x2 + 1)), none, none] [] (qU M112 79 x2 (max (-1) (M112 79 (M112 72 ((5 * x2) + 4))))))))))) ∧ ((M112 72 ((5 * x2) + 4)) < 0 → (0 ≤ x1 ∧ x1 < 10) ∧ (0 ≤ ((5 * x2) + 3) ∧ ((5 * x2) + 3) < 40) ∧ (((M112 65 x1) < (M112 72 ((5 * x2) + 3)) → (0 ≤ x2 ∧ x2 < 8) ∧ (qW g C 7 [some (.inr 63), some (.inl x1), some (.inl (x2 + 1)), none, none] [] (qU M112 79 x2 (-1)))) ∧ ((M112 72 ((5 * x2) + 3)) ≤ (M112 65 x1) → (0 ≤ x2 ∧ x2 < 8) ∧ (qW g C 7 [some (.inr 63), some (.inl x1), some (.inl (x2 + 1)), none, none] [] (qU M112 79 x2 (-1)))))))) ∧ ((0 ≤ x108 ∧ 0 ≤ x114) → (0 ≤ ((5 * x2) + 4) ∧ ((5 * x2) + 4) < 40) ∧ ((0 ≤ (M112 72 ((5 * x2) + 4)) → (0 ≤ (M112 72 ((5 * x2) + 4)) ∧ (M112 72 ((5 * x2) + 4)) < 8) ∧ (((max x108 x114) < 0 ∨ (M112 79 (M112 72 ((5 * x2) + 4))) < 0 → (0 ≤ x1 ∧ x1 < 10) ∧ (0 ≤ ((5 * x2) + 3) ∧ ((5 * x2) + 3) < 40) ∧ (((M112 65 x1) < (M112 72 ((5 * x2) + 3)) → (0 ≤ x2 ∧ x2 < 8) ∧ (qW g C 7 [some (.inr 63), some (.inl x1), some (.inl (x2 + 1)), none, none] [] (qU M112 79 x2 (-1)))) ∧ ((M112 72 ((5 * x2) + 3)) ≤ (M112 65 x1) → (0 ≤ x2 ∧ x2 < 8) ∧ (qW g C 7 [some (.inr 63), some (.inl x1), some (.inl (x2 + 1)), none, none] [] (qU M112 79 x2 (-1)))))) ∧ ((0 ≤ (max x108 x114) ∧ 0 ≤ (M112 79 (M112 72 ((5 * x2) + 4)))) → (0 ≤ x1 ∧ x1 < 10) ∧ (0 ≤ ((5 * x2) + 3) ∧ ((5 * x2) + 3) < 40) ∧ (((M112 65 x1) < (M112 72 ((5 * x2) + 3)) → (0 ≤ x2 ∧ x2 < 8) ∧ (qW g C 7 [some (.inr 63), some (.inl x1), some (.inl (x2 + 1)), none, none] [] (qU M112 79 x2 (-1)))) ∧ ((M112 72 ((5 * x2) + 3)) ≤ (M112 65 x1) → (0 ≤ x2 ∧ x2 < 8) ∧ (qW g C 7 [some (.inr 63), some (.inl x1), some (.inl (x2 + 1)), none, none] [] (qU M112 79 x2 (max (max x108 x114) (M112 79 (M112 72 ((5 * x2) + 4))))))))))) ∧ ((M112 72 ((5 * x2) + 4)) < 0 → (0 ≤ x1 ∧ x1 < 10) ∧ (0 ≤ ((5 * x2) + 3) ∧ ((5 * x2) + 3) < 40) ∧ (((M112 65 x1) < (M112 72 ((5 * x2) + 3)) → (0 ≤ x2 ∧ x2 < 8) ∧ (qW g C 7 [some (.inr 63), some (.inl x1), some (.inl (x2 + 1)), none, none] [] (qU M112 79 x2 (-1)))) ∧ ((M112 72 ((5 * x2) + 3)) ≤ (M112 65 x1) → (0 ≤ x2 ∧ x2 < 8) ∧ (qW g C 7 [some (.inr 63), some (.inl x1), some (.inl (x2 + 1)), none, none] [] (qU M112 79 x2 (max x108 x114))))))))))))))))) : qW g C 7 [some (.inr 63), some (.inl x1), some (.inl x2), none, none] [] M := by
  refine qW.rm (fun hM => ?_)
  refine q_iload_n hC dX8_findHeld_7 rfl rfl ?_
  refine q_aload_n hC dX8_findHeld_8 rfl rfl ?_
  refine q_getr hC fl_X8_7 ly_63 rfl dX8_findHeld_9 rfl ?_
  refine q_iconst hC dX8_findHeld_12 rfl ?_
  refine q_iald hC ly_64 dX8_findHeld_13 rfl (by decide) ?_
  refine q_icmp_ge hC dX8_findHeld_14 (t := 136) (by decide) rfl hx2 (hM 64 4) (fun c => ?_) (fun c => ?_)
  · have h := h.1 c
    exact q_vret hC hQ dX8_findHeld_136 h
  · have h := h.2 c
    refine q_iconst hC dX8_findHeld_17 rfl ?_
    refine q_iload_n hC dX8_findHeld_18 rfl rfl ?_
    refine q_imul hC dX8_findHeld_19 rfl ?_
    refine q_istore_n hC dX8_findHeld_20 (Nat.le_of_ble_eq_true rfl) (loc' := [some (.inr 63), some (.inl x1), some (.inl x2), some (.inl (5 * x2)), none]) rfl rfl ?_
    refine q_aload_n hC dX8_findHeld_21 rfl rfl ?_
    refine q_aload_n hC dX8_findHeld_22 rfl rfl ?_
    refine q_getr hC fl_X8_34 ly_63 rfl dX8_findHeld_23 rfl ?_
    refine q_iload_n hC dX8_findHeld_26 rfl rfl ?_
    obtain ⟨r101, h⟩ := h
    refine q_iald hC ly_72 dX8_findHeld_27 rfl r101 ?_
    refine q_aload_n hC dX8_findHeld_28 rfl rfl ?_
    refine q_getr hC fl_X8_34 ly_63 rfl dX8_findHeld_29 rfl ?_
    refine q_iload_n hC dX8_findHeld_32 rfl rfl ?_
    refine q_iald hC ly_72 dX8_findHeld_33 rfl r101 ?_
    refine q_callSi hC (As := [.inl (M 72 (5 * x2))]) md_X8_ones ms_X8_ones ml_X8_103 dX8_findHeld_34 rfl (Nat.le_of_ble_eq_true rfl) rfl rfl h (fun x104 M102 hM103 r105 h => ?_)
    refine q_callVi hC (As := [.inl (M 72 (5 * x2)), .inl x104]) md_X8_dayOf mv_X8_dayOf ml_X8_106 ly_63 rfl dX8_findHeld_37 rfl (Nat.le_of_ble_eq_true rfl) rfl rfl h (fun x108 M106 hM107 r109 h => ?_)
    refine q_aload_n hC dX8_findHeld_40 rfl rfl ?_
    refine q_aload_n hC dX8_findHeld_41 rfl rfl ?_
    refine q_getr hC fl_X8_34 ly_63 rfl dX8_findHeld_42 rfl ?_
    refine q_iload_n hC dX8_findHeld_45 rfl rfl ?_
    refine q_iconst hC dX8_findHeld_46 rfl ?_
    refine q_iadd hC dX8_findHeld_47 rfl ?_
    obtain ⟨r110, h⟩ := h
    refine q_iald hC ly_72 dX8_findHeld_48 rfl r110 ?_
    refine q_aload_n hC dX8_findHeld_49 rfl rfl ?_
    refine q_getr hC fl_X8_34 ly_63 rfl dX8_findHeld_50 rfl ?_
    refine q_iload_n hC dX8_findHeld_53 rfl rfl ?_
    refine q_iconst hC dX8_findHeld_54 rfl ?_
    refine q_iadd hC dX8_findHeld_55 rfl ?_
    obtain ⟨r111, h⟩ := h
    refine q_iald hC ly_72 dX8_findHeld_56 rfl r111 ?_
    refine q_callVi hC (As := [.inl (M106 72 ((5 * x2) + 1)), .inl (M106 72 ((5 * x2) + 2))]) md_X8_dayOf mv_X8_dayOf ml_X8_106 ly_63 rfl dX8_findHeld_57 rfl (Nat.le_of_ble_eq_true rfl) rfl rfl h (fun x114 M112 hM113 r115 h => ?_)
    refine q_callSi hC (As := [.inl x108, .inl x114]) md_X8_later ms_X8_later ml_X8_110 dX8_findHeld_60 rfl (Nat.le_of_ble_eq_true rfl) rfl rfl (b_X8_later r109 r115) (fun x116 M117 hM118 r119 hk => ?_)
    obtain ⟨ee, hk⟩ := hk
    have ee := ee.symm
    subst ee
    rcases hk with ⟨ee, c⟩ | ⟨ee, c⟩
    · have ee := ee.symm
      subst ee
      have h := h.1 c
      refine q_istore hC dX8_findHeld_63 (Nat.le_of_ble_eq_true rfl) (loc' := [some (.inr 63), some (.inl x1), some (.inl x2), some (.inl (5 * x2)), some (.inl (-1))]) rfl rfl ?_
      refine q_aload_n hC dX8_findHeld_65 rfl rfl ?_
      refine q_getr hC fl_X8_34 ly_63 rfl dX8_findHeld_66 rfl ?_
      refine q_iload_n hC dX8_findHeld_69 rfl rfl ?_
      refine q_iconst hC dX8_findHeld_70 rfl ?_
      refine q_iadd hC dX8_findHeld_71 rfl ?_
      obtain ⟨r120, h⟩ := h
      refine q_iald hC ly_72 dX8_findHeld_72 rfl r120 ?_
      refine q_if_ge hC dX8_findHeld_73 (t := 81) (by decide) rfl (hM113 72 ((5 * x2) + 4)) (fun c => ?_) (fun c => ?_)
      · have h := h.1 c
        refine q_iload hC dX8_findHeld_81 rfl rfl ?_
        refine q_aload_n hC dX8_findHeld_83 rfl rfl ?_
        refine q_getr hC fl_X8_59 ly_63 rfl dX8_findHeld_84 rfl ?_
        refine q_aload_n hC dX8_findHeld_87 rfl rfl ?_
        refine q_getr hC fl_X8_34 ly_63 rfl dX8_findHeld_88 rfl ?_
        refine q_iload_n hC dX8_findHeld_91 rfl rfl ?_
        refine q_iconst hC dX8_findHeld_92 rfl ?_
        refine q_iadd hC dX8_findHeld_93 rfl ?_
        refine q_iald hC ly_72 dX8_findHeld_94 rfl r120 ?_
        obtain ⟨r121, h⟩ := h
        refine q_iald hC ly_79 dX8_findHeld_95 rfl r121 ?_
        refine q_callSi hC (As := [.inl (-1), .inl (M112 79 (M112 72 ((5 * x2) + 4)))]) md_X8_later ms_X8_later ml_X8_110 dX8_findHeld_96 rfl (Nat.le_of_ble_eq_true rfl) rfl rfl (b_X8_later (by decide) (hM113 79 (M112 72 ((5 * x2) + 4)))) (fun x122 M123 hM124 r125 hk => ?_)
        obtain ⟨ee, hk⟩ := hk
        have ee := ee.symm
        subst ee
        rcases hk with ⟨ee, c⟩ | ⟨ee, c⟩
        · have ee := ee.symm
          subst ee
          have h := h.1 c
          refine q_istore hC dX8_findHeld_99 (Nat.le_of_ble_eq_true rfl) (loc' := [some (.inr 63), some (.inl x1), some (.inl x2), some (.inl (5 * x2)), some (.inl (-1))]) rfl rfl ?_
          refine q_aload_n hC dX8_findHeld_101 rfl rfl ?_
          refine q_getr hC fl_X8_59 ly_63 rfl dX8_findHeld_102 rfl ?_
          refine q_iload_n hC dX8_findHeld_105 rfl rfl ?_
          refine q_aload_n hC dX8_findHeld_106 rfl rfl ?_
          refine q_getr hC fl_X8_13 ly_63 rfl dX8_findHeld_107 rfl ?_
          refine q_iload_n hC dX8_findHeld_110 rfl rfl ?_
          obtain ⟨r126, h⟩ := h
          refine q_iald hC ly_65 dX8_findHeld_111 rfl r126 ?_
          refine q_aload_n hC dX8_findHeld_112 rfl rfl ?_
          refine q_getr hC fl_X8_34 ly_63 rfl dX8_findHeld_113 rfl ?_
          refine q_iload_n hC dX8_findHeld_116 rfl rfl ?_
          refine q_iconst hC dX8_findHeld_117 rfl ?_
          refine q_iadd hC dX8_findHeld_118 rfl ?_
          obtain ⟨r127, h⟩ := h
          refine q_iald hC ly_72 dX8_findHeld_119 rfl r127 ?_
          refine q_icmp_lt hC dX8_findHeld_120 (t := 128) (by decide) rfl (hM113 65 x1) (hM113 72 ((5 * x2) + 3)) (fun c => ?_) (fun c => ?_)
          · have h := h.1 c
            refine q_iconst hC dX8_findHeld_128 rfl ?_
            obtain ⟨r128, h⟩ := h
            have hM129 : qIn (qU M112 79 x2 (-1)) := (qU_in hM113 (by decide))
            refine q_iast hC ly_79 dX8_findHeld_129 rfl r128 (by decide) ?_
            refine q_iinc hC dX8_findHeld_130 rfl (loc' := [some (.inr 63), some (.inl x1), some (.inl (x2 + 1)), some (.inl (5 * x2)), some (.inl (-1))]) rfl rfl ?_
            refine q_goto hC dX8_findHeld_133 (q := 7) (by decide) ?_
            refine qW.kill 3 (loc' := [some (.inr 63), some (.inl x1), some (.inl (x2 + 1)), none, some (.inl (-1))]) rfl ?_
            refine qW.kill 4 (loc' := [some (.inr 63), some (.inl x1), some (.inl (x2 + 1)), none, none]) rfl ?_
            exact h
          · have h := h.2 c
            refine q_iload hC dX8_findHeld_123 rfl rfl ?_
            refine q_goto hC dX8_findHeld_125 (q := 129) (by decide) ?_
            obtain ⟨r130, h⟩ := h
            have hM131 : qIn (qU M112 79 x2 (-1)) := (qU_in hM113 (by decide))
            refine q_iast hC ly_79 dX8_findHeld_129 rfl r130 (by decide) ?_
            refine q_iinc hC dX8_findHeld_130 rfl (loc' := [some (.inr 63), some (.inl x1), some (.inl (x2 + 1)), some (.inl (5 * x2)), some (.inl (-1))]) rfl rfl ?_
            refine q_goto hC dX8_findHeld_133 (q := 7) (by decide) ?_
            refine qW.kill 3 (loc' := [some (.inr 63), some (.inl x1), some (.inl (x2 + 1)), none, some (.inl (-1))]) rfl ?_
            refine qW.kill 4 (loc' := [some (.inr 63), some (.inl x1), some (.inl (x2 + 1)), none, none]) rfl ?_
            exact h
        · have ee := ee.symm
          subst ee
          have h := h.2 c
          refine q_istore hC dX8_findHeld_99 (Nat.le_of_ble_eq_true rfl) (loc' := [some (.inr 63), some (.inl x1), some (.inl x2), some (.inl (5 * x2)), some (.inl (max (-1) (M112 79 (M112 72 ((5 * x2) + 4)))))]) rfl rfl ?_
          refine q_aload_n hC dX8_findHeld_101 rfl rfl ?_
          refine q_getr hC fl_X8_59 ly_63 rfl dX8_findHeld_102 rfl ?_
          refine q_iload_n hC dX8_findHeld_105 rfl rfl ?_
          refine q_aload_n hC dX8_findHeld_106 rfl rfl ?_
          refine q_getr hC fl_X8_13 ly_63 rfl dX8_findHeld_107 rfl ?_
          refine q_iload_n hC dX8_findHeld_110 rfl rfl ?_
          obtain ⟨r132, h⟩ := h
          refine q_iald hC ly_65 dX8_findHeld_111 rfl r132 ?_
          refine q_aload_n hC dX8_findHeld_112 rfl rfl ?_
          refine q_getr hC fl_X8_34 ly_63 rfl dX8_findHeld_113 rfl ?_
          refine q_iload_n hC dX8_findHeld_116 rfl rfl ?_
          refine q_iconst hC dX8_findHeld_117 rfl ?_
          refine q_iadd hC dX8_findHeld_118 rfl ?_
          obtain ⟨r133, h⟩ := h
          refine q_iald hC ly_72 dX8_findHeld_119 rfl r133 ?_
          refine q_icmp_lt hC dX8_findHeld_120 (t := 128) (by decide) rfl (hM113 65 x1) (hM113 72 ((5 * x2) + 3)) (fun c => ?_) (fun c => ?_)
          · have h := h.1 c
            refine q_iconst hC dX8_findHeld_128 rfl ?_
            obtain ⟨r134, h⟩ := h
            have hM135 : qIn (qU M112 79 x2 (-1)) := (qU_in hM113 (by decide))
            refine q_iast hC ly_79 dX8_findHeld_129 rfl r134 (by decide) ?_
            refine q_iinc hC dX8_findHeld_130 rfl (loc' := [some (.inr 63), some (.inl x1), some (.inl (x2 + 1)), some (.inl (5 * x2)), some (.inl (max (-1) (M112 79 (M112 72 ((5 * x2) + 4)))))]) rfl rfl ?_
            refine q_goto hC dX8_findHeld_133 (q := 7) (by decide) ?_
            refine qW.kill 3 (loc' := [some (.inr 63), some (.inl x1), some (.inl (x2 + 1)), none, some (.inl (max (-1) (M112 79 (M112 72 ((5 * x2) + 4)))))]) rfl ?_
            refine qW.kill 4 (loc' := [some (.inr 63), some (.inl x1), some (.inl (x2 + 1)), none, none]) rfl ?_
            exact h
          · have h := h.2 c
            refine q_iload hC dX8_findHeld_123 rfl rfl ?_
            refine q_goto hC dX8_findHeld_125 (q := 129) (by decide) ?_
            obtain ⟨r136, h⟩ := h
            have hM137 : qIn (qU M112 79 x2 (max (-1) (M112 79 (M112 72 ((5 * x2) + 4))))) := (qU_in hM113 r125)
            refine q_iast hC ly_79 dX8_findHeld_129 rfl r136 r125 ?_
            refine q_iinc hC dX8_findHeld_130 rfl (loc' := [some (.inr 63), some (.inl x1), some (.inl (x2 + 1)), some (.inl (5 * x2)), some (.inl (max (-1) (M112 79 (M112 72 ((5 * x2) + 4)))))]) rfl rfl ?_
            refine q_goto hC dX8_findHeld_133 (q := 7) (by decide) ?_
            refine qW.kill 3 (loc' := [some (.inr 63), some (.inl x1), some (.inl (x2 + 1)), none, some (.inl (max (-1) (M112 79 (M112 72 ((5 * x2) + 4)))))]) rfl ?_
            refine qW.kill 4 (loc' := [some (.inr 63), some (.inl x1), some (.inl (x2 + 1)), none, none]) rfl ?_
            exact h
      · have h := h.2 c
        refine q_iload hC dX8_findHeld_76 rfl rfl ?_
        refine q_goto hC dX8_findHeld_78 (q := 99) (by decide) ?_
        refine q_istore hC dX8_findHeld_99 (Nat.le_of_ble_eq_true rfl) (loc' := [some (.inr 63), some (.inl x1), some (.inl x2), some (.inl (5 * x2)), some (.inl (-1))]) rfl rfl ?_
        refine q_aload_n hC dX8_findHeld_101 rfl rfl ?_
        refine q_getr hC fl_X8_59 ly_63 rfl dX8_findHeld_102 rfl ?_
        refine q_iload_n hC dX8_findHeld_105 rfl rfl ?_
        refine q_aload_n hC dX8_findHeld_106 rfl rfl ?_
        refine q_getr hC fl_X8_13 ly_63 rfl dX8_findHeld_107 rfl ?_
        refine q_iload_n hC dX8_findHeld_110 rfl rfl ?_
        obtain ⟨r138, h⟩ := h
        refine q_iald hC ly_65 dX8_findHeld_111 rfl r138 ?_
        refine q_aload_n hC dX8_findHeld_112 rfl rfl ?_
        refine q_getr hC fl_X8_34 ly_63 rfl dX8_findHeld_113 rfl ?_
        refine q_iload_n hC dX8_findHeld_116 rfl rfl ?_
        refine q_iconst hC dX8_findHeld_117 rfl ?_
        refine q_iadd hC dX8_findHeld_118 rfl ?_
        obtain ⟨r139, h⟩ := h
        refine q_iald hC ly_72 dX8_findHeld_119 rfl r139 ?_
        refine q_icmp_lt hC dX8_findHeld_120 (t := 128) (by decide) rfl (hM113 65 x1) (hM113 72 ((5 * x2) + 3)) (fun c => ?_) (fun c => ?_)
        · have h := h.1 c
          refine q_iconst hC dX8_findHeld_128 rfl ?_
          obtain ⟨r140, h⟩ := h
          have hM141 : qIn (qU M112 79 x2 (-1)) := (qU_in hM113 (by decide))
          refine q_iast hC ly_79 dX8_findHeld_129 rfl r140 (by decide) ?_
          refine q_iinc hC dX8_findHeld_130 rfl (loc' := [some (.inr 63), some (.inl x1), some (.inl (x2 + 1)), some (.inl (5 * x2)), some (.inl (-1))]) rfl rfl ?_
          refine q_goto hC dX8_findHeld_133 (q := 7) (by decide) ?_
          refine qW.kill 3 (loc' := [some (.inr 63), some (.inl x1), some (.inl (x2 + 1)), none, some (.inl (-1))]) rfl ?_
          refine qW.kill 4 (loc' := [some (.inr 63), some (.inl x1), some (.inl (x2 + 1)), none, none]) rfl ?_
          exact h
        · have h := h.2 c
          refine q_iload hC dX8_findHeld_123 rfl rfl ?_
          refine q_goto hC dX8_findHeld_125 (q := 129) (by decide) ?_
          obtain ⟨r142, h⟩ := h
          have hM143 : qIn (qU M112 79 x2 (-1)) := (qU_in hM113 (by decide))
          refine q_iast hC ly_79 dX8_findHeld_129 rfl r142 (by decide) ?_
          refine q_iinc hC dX8_findHeld_130 rfl (loc' := [some (.inr 63), some (.inl x1), some (.inl (x2 + 1)), some (.inl (5 * x2)), some (.inl (-1))]) rfl rfl ?_
          refine q_goto hC dX8_findHeld_133 (q := 7) (by decide) ?_
          refine qW.kill 3 (loc' := [some (.inr 63), some (.inl x1), some (.inl (x2 + 1)), none, some (.inl (-1))]) rfl ?_
          refine qW.kill 4 (loc' := [some (.inr 63), some (.inl x1), some (.inl (x2 + 1)), none, none]) rfl ?_
          exact h
    · have ee := ee.symm
      subst ee
      have h := h.2 c
      refine q_istore hC dX8_findHeld_63 (Nat.le_of_ble_eq_true rfl) (loc' := [some (.inr 63), some (.inl x1), some (.inl x2), some (.inl (5 * x2)), some (.inl (max x108 x114))]) rfl rfl ?_
      refine q_aload_n hC dX8_findHeld_65 rfl rfl ?_
      refine q_getr hC fl_X8_34 ly_63 rfl dX8_findHeld_66 rfl ?_
      refine q_iload_n hC dX8_findHeld_69 rfl rfl ?_
      refine q_iconst hC dX8_findHeld_70 rfl ?_
      refine q_iadd hC dX8_findHeld_71 rfl ?_
      obtain ⟨r144, h⟩ := h
      refine q_iald hC ly_72 dX8_findHeld_72 rfl r144 ?_
      refine q_if_ge hC dX8_findHeld_73 (t := 81) (by decide) rfl (hM113 72 ((5 * x2) + 4)) (fun c => ?_) (fun c => ?_)
      · have h := h.1 c
        refine q_iload hC dX8_findHeld_81 rfl rfl ?_
        refine q_aload_n hC dX8_findHeld_83 rfl rfl ?_
        refine q_getr hC fl_X8_59 ly_63 rfl dX8_findHeld_84 rfl ?_
        refine q_aload_n hC dX8_findHeld_87 rfl rfl ?_
        refine q_getr hC fl_X8_34 ly_63 rfl dX8_findHeld_88 rfl ?_
        refine q_iload_n hC dX8_findHeld_91 rfl rfl ?_
        refine q_iconst hC dX8_findHeld_92 rfl ?_
        refine q_iadd hC dX8_findHeld_93 rfl ?_
        refine q_iald hC ly_72 dX8_findHeld_94 rfl r144 ?_
        obtain ⟨r145, h⟩ := h
        refine q_iald hC ly_79 dX8_findHeld_95 rfl r145 ?_
        refine q_callSi hC (As := [.inl (max x108 x114), .inl (M112 79 (M112 72 ((5 * x2) + 4)))]) md_X8_later ms_X8_later ml_X8_110 dX8_findHeld_96 rfl (Nat.le_of_ble_eq_true rfl) rfl rfl (b_X8_later r119 (hM113 79 (M112 72 ((5 * x2) + 4)))) (fun x146 M147 hM148 r149 hk => ?_)
        obtain ⟨ee, hk⟩ := hk
        have ee := ee.symm
        subst ee
        rcases hk with ⟨ee, c⟩ | ⟨ee, c⟩
        · have ee := ee.symm
          subst ee
          have h := h.1 c
          refine q_istore hC dX8_findHeld_99 (Nat.le_of_ble_eq_true rfl) (loc' := [some (.inr 63), some (.inl x1), some (.inl x2), some (.inl (5 * x2)), some (.inl (-1))]) rfl rfl ?_
          refine q_aload_n hC dX8_findHeld_101 rfl rfl ?_
          refine q_getr hC fl_X8_59 ly_63 rfl dX8_findHeld_102 rfl ?_
          refine q_iload_n hC dX8_findHeld_105 rfl rfl ?_
          refine q_aload_n hC dX8_findHeld_106 rfl rfl ?_
          refine q_getr hC fl_X8_13 ly_63 rfl dX8_findHeld_107 rfl ?_
          refine q_iload_n hC dX8_findHeld_110 rfl rfl ?_
          obtain ⟨r150, h⟩ := h
          refine q_iald hC ly_65 dX8_findHeld_111 rfl r150 ?_
          refine q_aload_n hC dX8_findHeld_112 rfl rfl ?_
          refine q_getr hC fl_X8_34 ly_63 rfl dX8_findHeld_113 rfl ?_
          refine q_iload_n hC dX8_findHeld_116 rfl rfl ?_
          refine q_iconst hC dX8_findHeld_117 rfl ?_
          refine q_iadd hC dX8_findHeld_118 rfl ?_
          obtain ⟨r151, h⟩ := h
          refine q_iald hC ly_72 dX8_findHeld_119 rfl r151 ?_
          refine q_icmp_lt hC dX8_findHeld_120 (t := 128) (by decide) rfl (hM113 65 x1) (hM113 72 ((5 * x2) + 3)) (fun c => ?_) (fun c => ?_)
          · have h := h.1 c
            refine q_iconst hC dX8_findHeld_128 rfl ?_
            obtain ⟨r152, h⟩ := h
            have hM153 : qIn (qU M112 79 x2 (-1)) := (qU_in hM113 (by decide))
            refine q_iast hC ly_79 dX8_findHeld_129 rfl r152 (by decide) ?_
            refine q_iinc hC dX8_findHeld_130 rfl (loc' := [some (.inr 63), some (.inl x1), some (.inl (x2 + 1)), some (.inl (5 * x2)), some (.inl (-1))]) rfl rfl ?_
            refine q_goto hC dX8_findHeld_133 (q := 7) (by decide) ?_
            refine qW.kill 3 (loc' := [some (.inr 63), some (.inl x1), some (.inl (x2 + 1)), none, some (.inl (-1))]) rfl ?_
            refine qW.kill 4 (loc' := [some (.inr 63), some (.inl x1), some (.inl (x2 + 1)), none, none]) rfl ?_
            exact h
          · have h := h.2 c
            refine q_iload hC dX8_findHeld_123 rfl rfl ?_
            refine q_goto hC dX8_findHeld_125 (q := 129) (by decide) ?_
            obtain ⟨r154, h⟩ := h
            have hM155 : qIn (qU M112 79 x2 (-1)) := (qU_in hM113 (by decide))
            refine q_iast hC ly_79 dX8_findHeld_129 rfl r154 (by decide) ?_
            refine q_iinc hC dX8_findHeld_130 rfl (loc' := [some (.inr 63), some (.inl x1), some (.inl (x2 + 1)), some (.inl (5 * x2)), some (.inl (-1))]) rfl rfl ?_
            refine q_goto hC dX8_findHeld_133 (q := 7) (by decide) ?_
            refine qW.kill 3 (loc' := [some (.inr 63), some (.inl x1), some (.inl (x2 + 1)), none, some (.inl (-1))]) rfl ?_
            refine qW.kill 4 (loc' := [some (.inr 63), some (.inl x1), some (.inl (x2 + 1)), none, none]) rfl ?_
            exact h
        · have ee := ee.symm
          subst ee
          have h := h.2 c
          refine q_istore hC dX8_findHeld_99 (Nat.le_of_ble_eq_true rfl) (loc' := [some (.inr 63), some (.inl x1), some (.inl x2), some (.inl (5 * x2)), some (.inl (max (max x108 x114) (M112 79 (M112 72 ((5 * x2) + 4)))))]) rfl rfl ?_
          refine q_aload_n hC dX8_findHeld_101 rfl rfl ?_
          refine q_getr hC fl_X8_59 ly_63 rfl dX8_findHeld_102 rfl ?_
          refine q_iload_n hC dX8_findHeld_105 rfl rfl ?_
          refine q_aload_n hC dX8_findHeld_106 rfl rfl ?_
          refine q_getr hC fl_X8_13 ly_63 rfl dX8_findHeld_107 rfl ?_
          refine q_iload_n hC dX8_findHeld_110 rfl rfl ?_
          obtain ⟨r156, h⟩ := h
          refine q_iald hC ly_65 dX8_findHeld_111 rfl r156 ?_
          refine q_aload_n hC dX8_findHeld_112 rfl rfl ?_
          refine q_getr hC fl_X8_34 ly_63 rfl dX8_findHeld_113 rfl ?_
          refine q_iload_n hC dX8_findHeld_116 rfl rfl ?_
          refine q_iconst hC dX8_findHeld_117 rfl ?_
          refine q_iadd hC dX8_findHeld_118 rfl ?_
          obtain ⟨r157, h⟩ := h
          refine q_iald hC ly_72 dX8_findHeld_119 rfl r157 ?_
          refine q_icmp_lt hC dX8_findHeld_120 (t := 128) (by decide) rfl (hM113 65 x1) (hM113 72 ((5 * x2) + 3)) (fun c => ?_) (fun c => ?_)
          · have h := h.1 c
            refine q_iconst hC dX8_findHeld_128 rfl ?_
            obtain ⟨r158, h⟩ := h
            have hM159 : qIn (qU M112 79 x2 (-1)) := (qU_in hM113 (by decide))
            refine q_iast hC ly_79 dX8_findHeld_129 rfl r158 (by decide) ?_
            refine q_iinc hC dX8_findHeld_130 rfl (loc' := [some (.inr 63), some (.inl x1), some (.inl (x2 + 1)), some (.inl (5 * x2)), some (.inl (max (max x108 x114) (M112 79 (M112 72 ((5 * x2) + 4)))))]) rfl rfl ?_
            refine q_goto hC dX8_findHeld_133 (q := 7) (by decide) ?_
            refine qW.kill 3 (loc' := [some (.inr 63), some (.inl x1), some (.inl (x2 + 1)), none, some (.inl (max (max x108 x114) (M112 79 (M112 72 ((5 * x2) + 4)))))]) rfl ?_
            refine qW.kill 4 (loc' := [some (.inr 63), some (.inl x1), some (.inl (x2 + 1)), none, none]) rfl ?_
            exact h
          · have h := h.2 c
            refine q_iload hC dX8_findHeld_123 rfl rfl ?_
            refine q_goto hC dX8_findHeld_125 (q := 129) (by decide) ?_
            obtain ⟨r160, h⟩ := h
            have hM161 : qIn (qU M112 79 x2 (max (max x108 x114) (M112 79 (M112 72 ((5 * x2) + 4))))) := (qU_in hM113 r149)
            refine q_iast hC ly_79 dX8_findHeld_129 rfl r160 r149 ?_
            refine q_iinc hC dX8_findHeld_130 rfl (loc' := [some (.inr 63), some (.inl x1), some (.inl (x2 + 1)), some (.inl (5 * x2)), some (.inl (max (max x108 x114) (M112 79 (M112 72 ((5 * x2) + 4)))))]) rfl rfl ?_
            refine q_goto hC dX8_findHeld_133 (q := 7) (by decide) ?_
            refine qW.kill 3 (loc' := [some (.inr 63), some (.inl x1), some (.inl (x2 + 1)), none, some (.inl (max (max x108 x114) (M112 79 (M112 72 ((5 * x2) + 4)))))]) rfl ?_
            refine qW.kill 4 (loc' := [some (.inr 63), some (.inl x1), some (.inl (x2 + 1)), none, none]) rfl ?_
            exact h
      · have h := h.2 c
        refine q_iload hC dX8_findHeld_76 rfl rfl ?_
        refine q_goto hC dX8_findHeld_78 (q := 99) (by decide) ?_
        refine q_istore hC dX8_findHeld_99 (Nat.le_of_ble_eq_true rfl) (loc' := [some (.inr 63), some (.inl x1), some (.inl x2), some (.inl (5 * x2)), some (.inl (max x108 x114))]) rfl rfl ?_
        refine q_aload_n hC dX8_findHeld_101 rfl rfl ?_
        refine q_getr hC fl_X8_59 ly_63 rfl dX8_findHeld_102 rfl ?_
        refine q_iload_n hC dX8_findHeld_105 rfl rfl ?_
        refine q_aload_n hC dX8_findHeld_106 rfl rfl ?_
        refine q_getr hC fl_X8_13 ly_63 rfl dX8_findHeld_107 rfl ?_
        refine q_iload_n hC dX8_findHeld_110 rfl rfl ?_
        obtain ⟨r162, h⟩ := h
        refine q_iald hC ly_65 dX8_findHeld_111 rfl r162 ?_
        refine q_aload_n hC dX8_findHeld_112 rfl rfl ?_
        refine q_getr hC fl_X8_34 ly_63 rfl dX8_findHeld_113 rfl ?_
        refine q_iload_n hC dX8_findHeld_116 rfl rfl ?_
        refine q_iconst hC dX8_findHeld_117 rfl ?_
        refine q_iadd hC dX8_findHeld_118 rfl ?_
        obtain ⟨r163, h⟩ := h
        refine q_iald hC ly_72 dX8_findHeld_119 rfl r163 ?_
        refine q_icmp_lt hC dX8_findHeld_120 (t := 128) (by decide) rfl (hM113 65 x1) (hM113 72 ((5 * x2) + 3)) (fun c => ?_) (fun c => ?_)
        · have h := h.1 c
          refine q_iconst hC dX8_findHeld_128 rfl ?_
          obtain ⟨r164, h⟩ := h
          have hM165 : qIn (qU M112 79 x2 (-1)) := (qU_in hM113 (by decide))
          refine q_iast hC ly_79 dX8_findHeld_129 rfl r164 (by decide) ?_
          refine q_iinc hC dX8_findHeld_130 rfl (loc' := [some (.inr 63), some (.inl x1), some (.inl (x2 + 1)), some (.inl (5 * x2)), some (.inl (max x108 x114))]) rfl rfl ?_
          refine q_goto hC dX8_findHeld_133 (q := 7) (by decide) ?_
          refine qW.kill 3 (loc' := [some (.inr 63), some (.inl x1), some (.inl (x2 + 1)), none, some (.inl (max x108 x114))]) rfl ?_
          refine qW.kill 4 (loc' := [some (.inr 63), some (.inl x1), some (.inl (x2 + 1)), none, none]) rfl ?_
          exact h
        · have h := h.2 c
          refine q_iload hC dX8_findHeld_123 rfl rfl ?_
          refine q_goto hC dX8_findHeld_125 (q := 129) (by decide) ?_
          obtain ⟨r166, h⟩ := h
          have hM167 : qIn (qU M112 79 x2 (max x108 x114)) := (qU_in hM113 r119)
          refine q_iast hC ly_79 dX8_findHeld_129 rfl r166 r119 ?_
          refine q_iinc hC dX8_findHeld_130 rfl (loc' := [some (.inr 63), some (.inl x1), some (.inl (x2 + 1)), some (.inl (5 * x2)), some (.inl (max x108 x114))]) rfl rfl ?_
          refine q_goto hC dX8_findHeld_133 (q := 7) (by decide) ?_
          refine qW.kill 3 (loc' := [some (.inr 63), some (.inl x1), some (.inl (x2 + 1)), none, some (.inl (max x108 x114))]) rfl ?_
          refine qW.kill 4 (loc' := [some (.inr 63), some (.inl x1), some (.inl (x2 + 1)), none, none]) rfl ?_
          exact h
