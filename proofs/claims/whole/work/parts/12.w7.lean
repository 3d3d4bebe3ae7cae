set_option maxRecDepth 20000 in
theorem e_X7_child {g : qG} {d : Nat} {M : qM} {K : Int → qM → Prop} {x1 : Int} {x2 : Int} (hx1 : qR x1) (hx2 : qR x2) (h : (((6 ≤ x1 ∧ x1 ≤ 18) → (((0 ≤ x2 ∧ x2 < 4) → (((M 2 0) < 10 → (0 ≤ (M 2 0) ∧ (M 2 0) < 10) ∧ (qR ((M 2 0) + 1)) ∧ (K (M 2 0) (qU (qU (qU (qU M 3 (M 2 0) x1) 4 (M 2 0) x2) 2 0 ((M 2 0) + 1)) 0 5 1))) ∧ (10 ≤ (M 2 0) → (K (-2) M)))) ∧ ((x2 < 0 ∨ 4 ≤ x2) → (K (-1) M)))) ∧ ((x1 < 6 ∨ 18 < x1) → (K (-1) M)))) : qOk g (d + 1) j_X7_child [.inr 0, .inl x1, .inl x2] M (qI K) := by
  refine qOk.of (by decide) (Nat.le_of_ble_eq_true rfl) (fun C hC hQ => ?_)
  have hC : qCk g C cX7_child RX7 5 (d + 1) := hC
  have hQ : qRt g C (some .int) (qI K) := hQ
  show qW g C 0 [some (.inr 0), some (.inl x1), some (.inl x2), none, none] [] M
  refine qW.rm (fun hM => ?_)
  refine q_iload_n hC dX7_child_0 rfl rfl ?_
  refine q_callSi hC (As := [.inl x1]) md_X7_isAge ms_X7_isAge ml_X7_44 dX7_child_1 rfl (Nat.le_of_ble_eq_true rfl) rfl rfl (b_X7_isAge hx1) (fun x101 M102 hM103 r104 hk => ?_)
  obtain ⟨ee, hk⟩ := hk
  have ee := ee.symm
  subst ee
  rcases hk with ⟨ee, c⟩ | ⟨ee, c⟩
  · have ee := ee.symm
    subst ee
    have h := h.1 c
    refine q_if_eq hC dX7_child_4 (t := 15) (by decide) rfl (by decide) (fun c => ?_) (fun c => ?_)
    · exact absurd c (by decide)
    · refine q_iload_n hC dX7_child_7 rfl rfl ?_
      refine q_iconst hC dX7_child_8 rfl ?_
      refine q_callSi hC (As := [.inl x2, .inl 4]) md_X7_isBelow ms_X7_isBelow ml_X7_48 dX7_child_9 rfl (Nat.le_of_ble_eq_true rfl) rfl rfl (b_X7_isBelow hx2 (by decide)) (fun x105 M106 hM107 r108 hk => ?_)
      obtain ⟨ee, hk⟩ := hk
      have ee := ee.symm
      subst ee
      rcases hk with ⟨ee, c⟩ | ⟨ee, c⟩
      · have ee := ee.symm
        subst ee
        have h := h.1 c
        refine q_if_ne hC dX7_child_12 (t := 17) (by decide) rfl (by decide) (fun c => ?_) (fun c => ?_)
        · refine q_aload_n hC dX7_child_17 rfl rfl ?_
          refine q_getr hC fl_X7_12 ly_0 rfl dX7_child_18 rfl ?_
          refine q_getr hC fl_X7_52 ly_1 rfl dX7_child_21 rfl ?_
          refine q_astore_n hC dX7_child_24 (Nat.le_of_ble_eq_true rfl) (loc' := [some (.inr 0), some (.inl x1), some (.inl x2), some (.inr 2), none]) rfl rfl ?_
          refine q_aload_n hC dX7_child_25 rfl rfl ?_
          refine q_geti hC fl_X7_56 ly_2 rfl (z := 0) rfl dX7_child_26 rfl ?_
          refine q_bipush hC dX7_child_29 (by decide) rfl ?_
          refine q_icmp_lt hC dX7_child_31 (t := 37) (by decide) rfl (hM 2 0) (by decide) (fun c => ?_) (fun c => ?_)
          · have h := h.1 c
            refine q_aload_n hC dX7_child_37 rfl rfl ?_
            refine q_geti hC fl_X7_56 ly_2 rfl (z := 0) rfl dX7_child_38 rfl ?_
            refine q_istore hC dX7_child_41 (Nat.le_of_ble_eq_true rfl) (loc' := [some (.inr 0), some (.inl x1), some (.inl x2), some (.inr 2), some (.inl (M 2 0))]) rfl rfl ?_
            refine q_aload_n hC dX7_child_43 rfl rfl ?_
            refine q_getr hC fl_X7_61 ly_2 rfl dX7_child_44 rfl ?_
            refine q_iload hC dX7_child_47 rfl rfl ?_
            refine q_iload_n hC dX7_child_49 rfl rfl ?_
            obtain ⟨r109, h⟩ := h
            have hM110 : qIn (qU M 3 (M 2 0) x1) := (qU_in hM hx1)
            refine q_iast hC ly_3 dX7_child_50 rfl r109 hx1 ?_
            refine q_aload_n hC dX7_child_51 rfl rfl ?_
            refine q_getr hC fl_X7_65 ly_2 rfl dX7_child_52 rfl ?_
            refine q_iload hC dX7_child_55 rfl rfl ?_
            refine q_iload_n hC dX7_child_57 rfl rfl ?_
            have hM111 : qIn (qU (qU M 3 (M 2 0) x1) 4 (M 2 0) x2) := (qU_in hM110 hx2)
            refine q_iast hC ly_4 dX7_child_58 rfl r109 hx2 ?_
            refine q_aload_n hC dX7_child_59 rfl rfl ?_
            refine q_iload hC dX7_child_60 rfl rfl ?_
            refine q_iconst hC dX7_child_62 rfl ?_
            refine q_iadd hC dX7_child_63 rfl ?_
            obtain ⟨r112, h⟩ := h
            have hM113 : qIn (qU (qU (qU M 3 (M 2 0) x1) 4 (M 2 0) x2) 2 0 ((M 2 0) + 1)) := (qU_in hM111 r112)
            refine q_puti hC fp_X7_56 ly_2 rfl (z := 0) rfl dX7_child_64 rfl r112 ?_
            refine q_aload_n hC dX7_child_67 rfl rfl ?_
            refine q_iconst hC dX7_child_68 rfl ?_
            have hM114 : qIn (qU (qU (qU (qU M 3 (M 2 0) x1) 4 (M 2 0) x2) 2 0 ((M 2 0) + 1)) 0 5 1) := (qU_in hM113 (q_rz (by decide)))
            refine q_putz hC fp_X7_37 ly_0 rfl (z := 5) rfl dX7_child_69 rfl (by decide) ?_
            refine q_iload hC dX7_child_72 rfl rfl ?_
            exact q_iret hC hQ dX7_child_74 (hM 2 0) h
          · have h := h.2 c
            refine q_bipush hC dX7_child_34 (by decide) rfl ?_
            exact q_iret hC hQ dX7_child_36 (by decide) h
        · exact absurd c (by decide)
      · have ee := ee.symm
        subst ee
        have h := h.2 c
        refine q_if_ne hC dX7_child_12 (t := 17) (by decide) rfl (by decide) (fun c => ?_) (fun c => ?_)
        · exact absurd c (by decide)
        · refine q_iconst hC dX7_child_15 rfl ?_
          exact q_iret hC hQ dX7_child_16 (by decide) h
  · have ee := ee.symm
    subst ee
    have h := h.2 c
    refine q_if_eq hC dX7_child_4 (t := 15) (by decide) rfl (by decide) (fun c => ?_) (fun c => ?_)
    · refine q_iconst hC dX7_child_15 rfl ?_
      exact q_iret hC hQ dX7_child_16 (by decide) h
    · exact absurd c (by decide)
set_option maxRecDepth 20000 in
theorem e_X7_change {g : qG} {d : Nat} {M : qM} {K : Int → qM → Prop} {x1 : Int} {x2 : Int} {x3 : Int} (hx1 : qR x1) (hx2 : qR x2) (hx3 : qR x3) (h : (((0 ≤ x1 ∧ x1 < (M 2 0)) → ((x2 ≠ 0 → ((x2 ≠ 1 → (K (-1) M)) ∧ (x2 = 1 → (((0 ≤ x3 ∧ x3 < 4) → (0 ≤ x1 ∧ x1 < 10) ∧ (K ((qU M 0 5 1) 4 x1) (qU (qU M 0 5 1) 4 x1 x3))) ∧ ((x3 < 0 ∨ 4 ≤ x3) → (K (-1) M)))))) ∧ (x2 = 0 → (((6 ≤ x3 ∧ x3 ≤ 18) → (0 ≤ x1 ∧ x1 < 10) ∧ (K (M 3 x1) (qU M 3 x1 x3))) ∧ ((x3 < 6 ∨ 18 < x3) → ((x2 ≠ 1 → (K (-1) M)) ∧ (x2 = 1 → (((0 ≤ x3 ∧ x3 < 4) → (0 ≤ x1 ∧ x1 < 10) ∧ (K ((qU M 0 5 1) 4 x1) (qU (qU M 0 5 1) 4 x1 x3))) ∧ ((x3 < 0 ∨ 4 ≤ x3) → (K (-1) M)))))))))) ∧ ((x1 < 0 ∨ (M 2 0) ≤ x1) → (K (-1) M)))) : qOk g (d + 2) j_X7_change [.inr 0, .inl x1, .inl x2, .inl x3] M (qI K) := by
  refine qOk.of (by decide) (Nat.le_of_ble_eq_true rfl) (fun C hC hQ => ?_)
  have hC : qCk g C cX7_change RX7 4 (d + 2) := hC
  have hQ : qRt g C (some .int) (qI K) := hQ
  show qW g C 0 [some (.inr 0), some (.inl x1), some (.inl x2), some (.inl x3)] [] M
  refine qW.rm (fun hM => ?_)
  refine q_aload_n hC dX7_change_0 rfl rfl ?_
  refine q_iload_n hC dX7_change_1 rfl rfl ?_
  refine q_callVi hC (As := [.inl x1]) md_X7_isChild mv_X7_isChild ml_X7_68 ly_0 rfl dX7_change_2 rfl (Nat.le_of_ble_eq_true rfl) rfl rfl (b_X7_isChild hx1) (fun x101 M102 hM103 r104 hk => ?_)
  obtain ⟨ee, hk⟩ := hk
  have ee := ee.symm
  subst ee
  rcases hk with ⟨ee, c⟩ | ⟨ee, c⟩
  · have ee := ee.symm
    subst ee
    have h := h.1 c
    refine q_if_ne hC dX7_change_5 (t := 10) (by decide) rfl (by decide) (fun c => ?_) (fun c => ?_)
    · refine q_iload_n hC dX7_change_10 rfl rfl ?_
      refine q_if_ne hC dX7_change_11 (t := 37) (by decide) rfl hx2 (fun c => ?_) (fun c => ?_)
      · have h := h.1 c
        refine q_iload_n hC dX7_change_37 rfl rfl ?_
        refine q_iconst hC dX7_change_38 rfl ?_
        refine q_icmp_ne hC dX7_change_39 (t := 71) (by decide) rfl hx2 (by decide) (fun c => ?_) (fun c => ?_)
        · have h := h.1 c
          refine q_iconst hC dX7_change_71 rfl ?_
          exact q_iret hC hQ dX7_change_72 (by decide) h
        · have h := h.2 c
          refine q_iload_n hC dX7_change_42 rfl rfl ?_
          refine q_iconst hC dX7_change_43 rfl ?_
          refine q_callSi hC (As := [.inl x3, .inl 4]) md_X7_isBelow ms_X7_isBelow ml_X7_48 dX7_change_44 rfl (Nat.le_of_ble_eq_true rfl) rfl rfl (b_X7_isBelow hx3 (by decide)) (fun x105 M106 hM107 r108 hk => ?_)
          obtain ⟨ee, hk⟩ := hk
          have ee := ee.symm
          subst ee
          rcases hk with ⟨ee, c⟩ | ⟨ee, c⟩
          · have ee := ee.symm
            subst ee
            have h := h.1 c
            refine q_if_eq hC dX7_change_47 (t := 71) (by decide) rfl (by decide) (fun c => ?_) (fun c => ?_)
            · exact absurd c (by decide)
            · refine q_aload_n hC dX7_change_50 rfl rfl ?_
              refine q_iconst hC dX7_change_51 rfl ?_
              have hM109 : qIn (qU M 0 5 1) := (qU_in hM (q_rz (by decide)))
              refine q_putz hC fp_X7_37 ly_0 rfl (z := 5) rfl dX7_change_52 rfl (by decide) ?_
              refine q_aload_n hC dX7_change_55 rfl rfl ?_
              refine q_getr hC fl_X7_12 ly_0 rfl dX7_change_56 rfl ?_
              refine q_getr hC fl_X7_52 ly_1 rfl dX7_change_59 rfl ?_
              refine q_getr hC fl_X7_65 ly_2 rfl dX7_change_62 rfl ?_
              refine q_iload_n hC dX7_change_65 rfl rfl ?_
              refine q_iload_n hC dX7_change_66 rfl rfl ?_
              obtain ⟨r110, h⟩ := h
              refine q_callSi hC (As := [.inr 4, .inl x1, .inl x3]) md_X7_replace ms_X7_replace ml_X7_71 dX7_change_67 rfl (Nat.le_of_ble_eq_true rfl) rfl rfl (b_X7_replace ly_4 r110 hx3) (fun x112 M113 hM111 r114 hk => ?_)
              obtain ⟨ee, hk⟩ := hk
              have ee := ee.symm
              subst ee
              have hk := hk.symm
              subst hk
              exact q_iret hC hQ dX7_change_70 r114 h
          · have ee := ee.symm
            subst ee
            have h := h.2 c
            refine q_if_eq hC dX7_change_47 (t := 71) (by decide) rfl (by decide) (fun c => ?_) (fun c => ?_)
            · refine q_iconst hC dX7_change_71 rfl ?_
              exact q_iret hC hQ dX7_change_72 (by decide) h
            · exact absurd c (by decide)
      · have h := h.2 c
        refine q_iload_n hC dX7_change_14 rfl rfl ?_
        refine q_callSi hC (As := [.inl x3]) md_X7_isAge ms_X7_isAge ml_X7_44 dX7_change_15 rfl (Nat.le_of_ble_eq_true rfl) rfl rfl (b_X7_isAge hx3) (fun x115 M116 hM117 r118 hk => ?_)
        obtain ⟨ee, hk⟩ := hk
        have ee := ee.symm
        subst ee
        rcases hk with ⟨ee, c⟩ | ⟨ee, c⟩
        · have ee := ee.symm
          subst ee
          have h := h.1 c
          refine q_if_eq hC dX7_change_18 (t := 37) (by decide) rfl (by decide) (fun c => ?_) (fun c => ?_)
          · exact absurd c (by decide)
          · refine q_aload_n hC dX7_change_21 rfl rfl ?_
            refine q_getr hC fl_X7_12 ly_0 rfl dX7_change_22 rfl ?_
            refine q_getr hC fl_X7_52 ly_1 rfl dX7_change_25 rfl ?_
            refine q_getr hC fl_X7_61 ly_2 rfl dX7_change_28 rfl ?_
            refine q_iload_n hC dX7_change_31 rfl rfl ?_
            refine q_iload_n hC dX7_change_32 rfl rfl ?_
            obtain ⟨r119, h⟩ := h
            refine q_callSi hC (As := [.inr 3, .inl x1, .inl x3]) md_X7_replace ms_X7_replace ml_X7_71 dX7_change_33 rfl (Nat.le_of_ble_eq_true rfl) rfl rfl (b_X7_replace ly_3 r119 hx3) (fun x121 M122 hM120 r123 hk => ?_)
            obtain ⟨ee, hk⟩ := hk
            have ee := ee.symm
            subst ee
            have hk := hk.symm
            subst hk
            exact q_iret hC hQ dX7_change_36 r123 h
        · have ee := ee.symm
          subst ee
          have h := h.2 c
          refine q_if_eq hC dX7_change_18 (t := 37) (by decide) rfl (by decide) (fun c => ?_) (fun c => ?_)
          · refine q_iload_n hC dX7_change_37 rfl rfl ?_
            refine q_iconst hC dX7_change_38 rfl ?_
            refine q_icmp_ne hC dX7_change_39 (t := 71) (by decide) rfl hx2 (by decide) (fun c => ?_) (fun c => ?_)
            · have h := h.1 c
              refine q_iconst hC dX7_change_71 rfl ?_
              exact q_iret hC hQ dX7_change_72 (by decide) h
            · have h := h.2 c
              refine q_iload_n hC dX7_change_42 rfl rfl ?_
              refine q_iconst hC dX7_change_43 rfl ?_
              refine q_callSi hC (As := [.inl x3, .inl 4]) md_X7_isBelow ms_X7_isBelow ml_X7_48 dX7_change_44 rfl (Nat.le_of_ble_eq_true rfl) rfl rfl (b_X7_isBelow hx3 (by decide)) (fun x124 M125 hM126 r127 hk => ?_)
              obtain ⟨ee, hk⟩ := hk
              have ee := ee.symm
              subst ee
              rcases hk with ⟨ee, c⟩ | ⟨ee, c⟩
              · have ee := ee.symm
                subst ee
                have h := h.1 c
                refine q_if_eq hC dX7_change_47 (t := 71) (by decide) rfl (by decide) (fun c => ?_) (fun c => ?_)
                · exact absurd c (by decide)
                · refine q_aload_n hC dX7_change_50 rfl rfl ?_
                  refine q_iconst hC dX7_change_51 rfl ?_
                  have hM128 : qIn (qU M 0 5 1) := (qU_in hM (q_rz (by decide)))
                  refine q_putz hC fp_X7_37 ly_0 rfl (z := 5) rfl dX7_change_52 rfl (by decide) ?_
                  refine q_aload_n hC dX7_change_55 rfl rfl ?_
                  refine q_getr hC fl_X7_12 ly_0 rfl dX7_change_56 rfl ?_
                  refine q_getr hC fl_X7_52 ly_1 rfl dX7_change_59 rfl ?_
                  refine q_getr hC fl_X7_65 ly_2 rfl dX7_change_62 rfl ?_
                  refine q_iload_n hC dX7_change_65 rfl rfl ?_
                  refine q_iload_n hC dX7_change_66 rfl rfl ?_
                  obtain ⟨r129, h⟩ := h
                  refine q_callSi hC (As := [.inr 4, .inl x1, .inl x3]) md_X7_replace ms_X7_replace ml_X7_71 dX7_change_67 rfl (Nat.le_of_ble_eq_true rfl) rfl rfl (b_X7_replace ly_4 r129 hx3) (fun x131 M132 hM130 r133 hk => ?_)
                  obtain ⟨ee, hk⟩ := hk
                  have ee := ee.symm
                  subst ee
                  have hk := hk.symm
                  subst hk
                  exact q_iret hC hQ dX7_change_70 r133 h
              · have ee := ee.symm
                subst ee
                have h := h.2 c
                refine q_if_eq hC dX7_change_47 (t := 71) (by decide) rfl (by decide) (fun c => ?_) (fun c => ?_)
                · refine q_iconst hC dX7_change_71 rfl ?_
                  exact q_iret hC hQ dX7_change_72 (by decide) h
                · exact absurd c (by decide)
          · exact absurd c (by decide)
    · exact absurd c (by decide)
  · have ee := ee.symm
    subst ee
    have h := h.2 c
    refine q_if_ne hC dX7_change_5 (t := 10) (by decide) rfl (by decide) (fun c => ?_) (fun c => ?_)
    · exact absurd c (by decide)
    · refine q_iconst hC dX7_change_8 rfl ?_
      exact q_iret hC hQ dX7_change_9 (by decide) h
set_option maxRecDepth 20000 in
theorem e_X7_leader {g : qG} {d : Nat} {M : qM} {K : Int → qM → Prop}   (h : (((M 2 3) < 5 → (qR ((M 2 3) + 1)) ∧ (K (M 2 3) (qU M 2 3 ((M 2 3) + 1)))) ∧ (5 ≤ (M 2 3) → (K (-2) M)))) : qOk g d j_X7_leader [.inr 0] M (qI K) := by
  refine qOk.of (by decide) (Nat.le_of_ble_eq_true rfl) (fun C hC hQ => ?_)
  have hC : qCk g C cX7_leader RX7 3 d := hC
  have hQ : qRt g C (some .int) (qI K) := hQ
  show qW g C 0 [some (.inr 0), none, none] [] M
  refine qW.rm (fun hM => ?_)
  refine q_aload_n hC dX7_leader_0 rfl rfl ?_
  refine q_getr hC fl_X7_12 ly_0 rfl dX7_leader_1 rfl ?_
  refine q_getr hC fl_X7_52 ly_1 rfl dX7_leader_4 rfl ?_
  refine q_astore_n hC dX7_leader_7 (Nat.le_of_ble_eq_true rfl) (loc' := [some (.inr 0), some (.inr 2), none]) rfl rfl ?_
  refine q_aload_n hC dX7_leader_8 rfl rfl ?_
  refine q_geti hC fl_X7_75 ly_2 rfl (z := 3) rfl dX7_leader_9 rfl ?_
  refine q_iconst hC dX7_leader_12 rfl ?_
  refine q_icmp_lt hC dX7_leader_13 (t := 19) (by decide) rfl (hM 2 3) (by decide) (fun c => ?_) (fun c => ?_)
  · have h := h.1 c
    refine q_aload_n hC dX7_leader_19 rfl rfl ?_
    refine q_geti hC fl_X7_75 ly_2 rfl (z := 3) rfl dX7_leader_20 rfl ?_
    refine q_istore_n hC dX7_leader_23 (Nat.le_of_ble_eq_true rfl) (loc' := [some (.inr 0), some (.inr 2), some (.inl (M 2 3))]) rfl rfl ?_
    refine q_aload_n hC dX7_leader_24 rfl rfl ?_
    refine q_iload_n hC dX7_leader_25 rfl rfl ?_
    refine q_iconst hC dX7_leader_26 rfl ?_
    refine q_iadd hC dX7_leader_27 rfl ?_
    obtain ⟨r101, h⟩ := h
    have hM102 : qIn (qU M 2 3 ((M 2 3) + 1)) := (qU_in hM r101)
    refine q_puti hC fp_X7_75 ly_2 rfl (z := 3) rfl dX7_leader_28 rfl r101 ?_
    refine q_iload_n hC dX7_leader_31 rfl rfl ?_
    exact q_iret hC hQ dX7_leader_32 (hM 2 3) h
  · have h := h.2 c
    refine q_bipush hC dX7_leader_16 (by decide) rfl ?_
    exact q_iret hC hQ dX7_leader_18 (by decide) h
set_option maxRecDepth 20000 in
theorem e_X7_paper {g : qG} {d : Nat} {M : qM} {K : Int → qM → Prop} {x1 : Int} {x2 : Int} {x3 : Int} {x4 : Int} (hx1 : qR x1) (hx2 : qR x2) (hx3 : qR x3) (hx4 : qR x4) (h : (((0 ≤ x1 ∧ x1 < (M 2 3)) → (((0 ≤ x2 ∧ x2 < 4) → (((0 ≤ x3 ∧ x3 ≤ 999) → (((0 ≤ x4 ∧ x4 ≤ 999) → ((x3 ≤ x4 → (0 ≤ ((x1 * 4) + x2) ∧ ((x1 * 4) + x2) < 20) ∧ (K 1 (qU (qU M 5 ((x1 * 4) + x2) x3) 6 ((x1 * 4) + x2) x4))) ∧ (x4 < x3 → (K (-1) M)))) ∧ ((x4 < 0 ∨ 999 < x4) → (K (-1) M)))) ∧ ((x3 < 0 ∨ 999 < x3) → (K (-1) M)))) ∧ ((x2 < 0 ∨ 4 ≤ x2) → (K (-1) M)))) ∧ ((x1 < 0 ∨ (M 2 3) ≤ x1) → (K (-1) M)))) : qOk g (d + 2) j_X7_paper [.inr 0, .inl x1, .inl x2, .inl x3, .inl x4] M (qI K) := by
  refine qOk.of (by decide) (Nat.le_of_ble_eq_true rfl) (fun C hC hQ => ?_)
  have hC : qCk g C cX7_paper RX7 6 (d + 2) := hC
  have hQ : qRt g C (some .int) (qI K) := hQ
  show qW g C 0 [some (.inr 0), some (.inl x1), some (.inl x2), some (.inl x3), some (.inl x4), none] [] M
  refine qW.rm (fun hM => ?_)
  refine q_aload_n hC dX7_paper_0 rfl rfl ?_
  refine q_iload_n hC dX7_paper_1 rfl rfl ?_
  refine q_callVi hC (As := [.inl x1]) md_X7_isLeader mv_X7_isLeader ml_X7_78 ly_0 rfl dX7_paper_2 rfl (Nat.le_of_ble_eq_true rfl) rfl rfl (b_X7_isLeader hx1) (fun x101 M102 hM103 r104 hk => ?_)
  obtain ⟨ee, hk⟩ := hk
  have ee := ee.symm
  subst ee
  rcases hk with ⟨ee, c⟩ | ⟨ee, c⟩
  · have ee := ee.symm
    subst ee
    have h := h.1 c
    refine q_if_eq hC dX7_paper_5 (t := 37) (by decide) rfl (by decide) (fun c => ?_) (fun c => ?_)
    · exact absurd c (by decide)
    · refine q_iload_n hC dX7_paper_8 rfl rfl ?_
      refine q_iconst hC dX7_paper_9 rfl ?_
      refine q_callSi hC (As := [.inl x2, .inl 4]) md_X7_isBelow ms_X7_isBelow ml_X7_48 dX7_paper_10 rfl (Nat.le_of_ble_eq_true rfl) rfl rfl (b_X7_isBelow hx2 (by decide)) (fun x105 M106 hM107 r108 hk => ?_)
      obtain ⟨ee, hk⟩ := hk
      have ee := ee.symm
      subst ee
      rcases hk with ⟨ee, c⟩ | ⟨ee, c⟩
      · have ee := ee.symm
        subst ee
        have h := h.1 c
        refine q_if_eq hC dX7_paper_13 (t := 37) (by decide) rfl (by decide) (fun c => ?_) (fun c => ?_)
        · exact absurd c (by decide)
        · refine q_iload_n hC dX7_paper_16 rfl rfl ?_
          refine q_callSi hC (As := [.inl x3]) md_X7_isDay ms_X7_isDay ml_X7_81 dX7_paper_17 rfl (Nat.le_of_ble_eq_true rfl) rfl rfl (b_X7_isDay hx3) (fun x109 M110 hM111 r112 hk => ?_)
          obtain ⟨ee, hk⟩ := hk
          have ee := ee.symm
          subst ee
          rcases hk with ⟨ee, c⟩ | ⟨ee, c⟩
          · have ee := ee.symm
            subst ee
            have h := h.1 c
            refine q_if_eq hC dX7_paper_20 (t := 37) (by decide) rfl (by decide) (fun c => ?_) (fun c => ?_)
            · exact absurd c (by decide)
            · refine q_iload hC dX7_paper_23 rfl rfl ?_
              refine q_callSi hC (As := [.inl x4]) md_X7_isDay ms_X7_isDay ml_X7_81 dX7_paper_25 rfl (Nat.le_of_ble_eq_true rfl) rfl rfl (b_X7_isDay hx4) (fun x113 M114 hM115 r116 hk => ?_)
              obtain ⟨ee, hk⟩ := hk
              have ee := ee.symm
              subst ee
              rcases hk with ⟨ee, c⟩ | ⟨ee, c⟩
              · have ee := ee.symm
                subst ee
                have h := h.1 c
                refine q_if_eq hC dX7_paper_28 (t := 37) (by decide) rfl (by decide) (fun c => ?_) (fun c => ?_)
                · exact absurd c (by decide)
                · refine q_iload_n hC dX7_paper_31 rfl rfl ?_
                  refine q_iload hC dX7_paper_32 rfl rfl ?_
                  refine q_icmp_le hC dX7_paper_34 (t := 39) (by decide) rfl hx3 hx4 (fun c => ?_) (fun c => ?_)
                  · have h := h.1 c
                    refine q_iload_n hC dX7_paper_39 rfl rfl ?_
                    refine q_iconst hC dX7_paper_40 rfl ?_
                    refine q_imul hC dX7_paper_41 rfl ?_
                    refine q_iload_n hC dX7_paper_42 rfl rfl ?_
                    refine q_iadd hC dX7_paper_43 rfl ?_
                    refine q_istore hC dX7_paper_44 (Nat.le_of_ble_eq_true rfl) (loc' := [some (.inr 0), some (.inl x1), some (.inl x2), some (.inl x3), some (.inl x4), some (.inl ((x1 * 4) + x2))]) rfl rfl ?_
                    refine q_aload_n hC dX7_paper_46 rfl rfl ?_
                    refine q_getr hC fl_X7_12 ly_0 rfl dX7_paper_47 rfl ?_
                    refine q_getr hC fl_X7_52 ly_1 rfl dX7_paper_50 rfl ?_
                    refine q_getr hC fl_X7_84 ly_2 rfl dX7_paper_53 rfl ?_
                    refine q_iload hC dX7_paper_56 rfl rfl ?_
                    refine q_iload_n hC dX7_paper_58 rfl rfl ?_
                    obtain ⟨r117, h⟩ := h
                    have hM118 : qIn (qU M 5 ((x1 * 4) + x2) x3) := (qU_in hM hx3)
                    refine q_iast hC ly_5 dX7_paper_59 rfl r117 hx3 ?_
                    refine q_aload_n hC dX7_paper_60 rfl rfl ?_
                    refine q_getr hC fl_X7_12 ly_0 rfl dX7_paper_61 rfl ?_
                    refine q_getr hC fl_X7_52 ly_1 rfl dX7_paper_64 rfl ?_
                    refine q_getr hC fl_X7_87 ly_2 rfl dX7_paper_67 rfl ?_
                    refine q_iload hC dX7_paper_70 rfl rfl ?_
                    refine q_iload hC dX7_paper_72 rfl rfl ?_
                    have hM119 : qIn (qU (qU M 5 ((x1 * 4) + x2) x3) 6 ((x1 * 4) + x2) x4) := (qU_in hM118 hx4)
                    refine q_iast hC ly_6 dX7_paper_74 rfl r117 hx4 ?_
                    refine q_iconst hC dX7_paper_75 rfl ?_
                    exact q_iret hC hQ dX7_paper_76 (by decide) h
                  · have h := h.2 c
                    refine q_iconst hC dX7_paper_37 rfl ?_
                    exact q_iret hC hQ dX7_paper_38 (by decide) h
              · have ee := ee.symm
                subst ee
                have h := h.2 c
                refine q_if_eq hC dX7_paper_28 (t := 37) (by decide) rfl (by decide) (fun c => ?_) (fun c => ?_)
                · refine q_iconst hC dX7_paper_37 rfl ?_
                  exact q_iret hC hQ dX7_paper_38 (by decide) h
                · exact absurd c (by decide)
          · have ee := ee.symm
            subst ee
            have h := h.2 c
            refine q_if_eq hC dX7_paper_20 (t := 37) (by decide) rfl (by decide) (fun c => ?_) (fun c => ?_)
            · refine q_iconst hC dX7_paper_37 rfl ?_
              exact q_iret hC hQ dX7_paper_38 (by decide) h
            · exact absurd c (by decide)
      · have ee := ee.symm
        subst ee
        have h := h.2 c
        refine q_if_eq hC dX7_paper_13 (t := 37) (by decide) rfl (by decide) (fun c => ?_) (fun c => ?_)
        · refine q_iconst hC dX7_paper_37 rfl ?_
          exact q_iret hC hQ dX7_paper_38 (by decide) h
        · exact absurd c (by decide)
  · have ee := ee.symm
    subst ee
    have h := h.2 c
    refine q_if_eq hC dX7_paper_5 (t := 37) (by decide) rfl (by decide) (fun c => ?_) (fun c => ?_)
    · refine q_iconst hC dX7_paper_37 rfl ?_
      exact q_iret hC hQ dX7_paper_38 (by decide) h
    · exact absurd c (by decide)
set_option maxRecDepth 20000 in
theorem e_X7_lose {g : qG} {d : Nat} {M : qM} {K : Int → qM → Prop} {x1 : Int} {x2 : Int} (hx1 : qR x1) (hx2 : qR x2) (h : (((0 ≤ x1 ∧ x1 < (M 2 3)) → (((0 ≤ x2 ∧ x2 < 4) → (0 ≤ ((x1 * 4) + x2) ∧ ((x1 * 4) + x2) < 20) ∧ (((M 5 ((x1 * 4) + x2)) ≠ (-1) → (K 1 (qU (qU M 5 ((x1 * 4) + x2) (-1)) 6 ((x1 * 4) + x2) (-1)))) ∧ ((M 5 ((x1 * 4) + x2)) = (-1) → (K (-3) M)))) ∧ ((x2 < 0 ∨ 4 ≤ x2) → (K (-1) M)))) ∧ ((x1 < 0 ∨ (M 2 3) ≤ x1) → (K (-1) M)))) : qOk g (d + 2) j_X7_lose [.inr 0, .inl x1, .inl x2] M (qI K) := by
  refine qOk.of (by decide) (Nat.le_of_ble_eq_true rfl) (fun C hC hQ => ?_)
  have hC : qCk g C cX7_lose RX7 4 (d + 2) := hC
  have hQ : qRt g C (some .int) (qI K) := hQ
  show qW g C 0 [some (.inr 0), some (.inl x1), some (.inl x2), none] [] M
  refine qW.rm (fun hM => ?_)
  refine q_aload_n hC dX7_lose_0 rfl rfl ?_
  refine q_iload_n hC dX7_lose_1 rfl rfl ?_
  refine q_callVi hC (As := [.inl x1]) md_X7_isLeader mv_X7_isLeader ml_X7_78 ly_0 rfl dX7_lose_2 rfl (Nat.le_of_ble_eq_true rfl) rfl rfl (b_X7_isLeader hx1) (fun x101 M102 hM103 r104 hk => ?_)
  obtain ⟨ee, hk⟩ := hk
  have ee := ee.symm
  subst ee
  rcases hk with ⟨ee, c⟩ | ⟨ee, c⟩
  · have ee := ee.symm
    subst ee
    have h := h.1 c
    refine q_if_eq hC dX7_lose_5 (t := 16) (by decide) rfl (by decide) (fun c => ?_) (fun c => ?_)
    · exact absurd c (by decide)
    · refine q_iload_n hC dX7_lose_8 rfl rfl ?_
      refine q_iconst hC dX7_lose_9 rfl ?_
      refine q_callSi hC (As := [.inl x2, .inl 4]) md_X7_isBelow ms_X7_isBelow ml_X7_48 dX7_lose_10 rfl (Nat.le_of_ble_eq_true rfl) rfl rfl (b_X7_isBelow hx2 (by decide)) (fun x105 M106 hM107 r108 hk => ?_)
      obtain ⟨ee, hk⟩ := hk
      have ee := ee.symm
      subst ee
      rcases hk with ⟨ee, c⟩ | ⟨ee, c⟩
      · have ee := ee.symm
        subst ee
        have h := h.1 c
        refine q_if_ne hC dX7_lose_13 (t := 18) (by decide) rfl (by decide) (fun c => ?_) (fun c => ?_)
        · refine q_iload_n hC dX7_lose_18 rfl rfl ?_
          refine q_iconst hC dX7_lose_19 rfl ?_
          refine q_imul hC dX7_lose_20 rfl ?_
          refine q_iload_n hC dX7_lose_21 rfl rfl ?_
          refine q_iadd hC dX7_lose_22 rfl ?_
          refine q_istore_n hC dX7_lose_23 (Nat.le_of_ble_eq_true rfl) (loc' := [some (.inr 0), some (.inl x1), some (.inl x2), some (.inl ((x1 * 4) + x2))]) rfl rfl ?_
          refine q_aload_n hC dX7_lose_24 rfl rfl ?_
          refine q_getr hC fl_X7_12 ly_0 rfl dX7_lose_25 rfl ?_
          refine q_getr hC fl_X7_52 ly_1 rfl dX7_lose_28 rfl ?_
          refine q_getr hC fl_X7_84 ly_2 rfl dX7_lose_31 rfl ?_
          refine q_iload_n hC dX7_lose_34 rfl rfl ?_
          obtain ⟨r109, h⟩ := h
          refine q_iald hC ly_5 dX7_lose_35 rfl r109 ?_
          refine q_iconst hC dX7_lose_36 rfl ?_
          refine q_icmp_ne hC dX7_lose_37 (t := 43) (by decide) rfl (hM 5 ((x1 * 4) + x2)) (by decide) (fun c => ?_) (fun c => ?_)
          · have h := h.1 c
            refine q_aload_n hC dX7_lose_43 rfl rfl ?_
            refine q_getr hC fl_X7_12 ly_0 rfl dX7_lose_44 rfl ?_
            refine q_getr hC fl_X7_52 ly_1 rfl dX7_lose_47 rfl ?_
            refine q_getr hC fl_X7_84 ly_2 rfl dX7_lose_50 rfl ?_
            refine q_iload_n hC dX7_lose_53 rfl rfl ?_
            refine q_iconst hC dX7_lose_54 rfl ?_
            have hM110 : qIn (qU M 5 ((x1 * 4) + x2) (-1)) := (qU_in hM (by decide))
            refine q_iast hC ly_5 dX7_lose_55 rfl r109 (by decide) ?_
            refine q_aload_n hC dX7_lose_56 rfl rfl ?_
            refine q_getr hC fl_X7_12 ly_0 rfl dX7_lose_57 rfl ?_
            refine q_getr hC fl_X7_52 ly_1 rfl dX7_lose_60 rfl ?_
            refine q_getr hC fl_X7_87 ly_2 rfl dX7_lose_63 rfl ?_
            refine q_iload_n hC dX7_lose_66 rfl rfl ?_
            refine q_iconst hC dX7_lose_67 rfl ?_
            have hM111 : qIn (qU (qU M 5 ((x1 * 4) + x2) (-1)) 6 ((x1 * 4) + x2) (-1)) := (qU_in hM110 (by decide))
            refine q_iast hC ly_6 dX7_lose_68 rfl r109 (by decide) ?_
            refine q_iconst hC dX7_lose_69 rfl ?_
            exact q_iret hC hQ dX7_lose_70 (by decide) h
          · have h := h.2 c
            refine q_bipush hC dX7_lose_40 (by decide) rfl ?_
            exact q_iret hC hQ dX7_lose_42 (by decide) h
        · exact absurd c (by decide)
      · have ee := ee.symm
        subst ee
        have h := h.2 c
        refine q_if_ne hC dX7_lose_13 (t := 18) (by decide) rfl (by decide) (fun c => ?_) (fun c => ?_)
        · exact absurd c (by decide)
        · refine q_iconst hC dX7_lose_16 rfl ?_
          exact q_iret hC hQ dX7_lose_17 (by decide) h
  · have ee := ee.symm
    subst ee
    have h := h.2 c
    refine q_if_eq hC dX7_lose_5 (t := 16) (by decide) rfl (by decide) (fun c => ?_) (fun c => ?_)
    · refine q_iconst hC dX7_lose_16 rfl ?_
      exact q_iret hC hQ dX7_lose_17 (by decide) h
    · exact absurd c (by decide)
set_option maxRecDepth 20000 in
theorem e_X7_task {g : qG} {d : Nat} {M : qM} {K : Int → qM → Prop} {x1 : Int} {x2 : Int} (hx1 : qR x1) (hx2 : qR x2) (h : (((0 ≤ x1 ∧ x1 < 4) → ((x2 = (-1) → (((M 8 0) < 10 → (0 ≤ (M 8 0) ∧ (M 8 0) < 10) ∧ (qR ((M 8 0) + 1)) ∧ (K (M 8 0) (qU (qU (qU M 9 (M 8 0) x1) 10 (M 8 0) x2) 8 0 ((M 8 0) + 1)))) ∧ (10 ≤ (M 8 0) → (K (-2) M)))) ∧ (x2 ≠ (-1) → (((0 ≤ x2 ∧ x2 < (M 8 0)) → (((M 8 0) < 10 → (0 ≤ (M 8 0) ∧ (M 8 0) < 10) ∧ (qR ((M 8 0) + 1)) ∧ (K (M 8 0) (qU (qU (qU M 9 (M 8 0) x1) 10 (M 8 0) x2) 8 0 ((M 8 0) + 1)))) ∧ (10 ≤ (M 8 0) → (K (-2) M)))) ∧ ((x2 < 0 ∨ (M 8 0) ≤ x2) → (K (-1) M)))))) ∧ ((x1 < 0 ∨ 4 ≤ x1) → (K (-1) M)))) : qOk g (d + 2) j_X7_task [.inr 0, .inl x1, .inl x2] M (qI K) := by
  refine qOk.of (by decide) (Nat.le_of_ble_eq_true rfl) (fun C hC hQ => ?_)
  have hC : qCk g C cX7_task RX7 5 (d + 2) := hC
  have hQ : qRt g C (some .int) (qI K) := hQ
  show qW g C 0 [some (.inr 0), some (.inl x1), some (.inl x2), none, none] [] M
  refine qW.rm (fun hM => ?_)
  refine q_iload_n hC dX7_task_0 rfl rfl ?_
  refine q_iconst hC dX7_task_1 rfl ?_
  refine q_callSi hC (As := [.inl x1, .inl 4]) md_X7_isBelow ms_X7_isBelow ml_X7_48 dX7_task_2 rfl (Nat.le_of_ble_eq_true rfl) rfl rfl (b_X7_isBelow hx1 (by decide)) (fun x101 M102 hM103 r104 hk => ?_)
  obtain ⟨ee, hk⟩ := hk
  have ee := ee.symm
  subst ee
  rcases hk with ⟨ee, c⟩ | ⟨ee, c⟩
  · have ee := ee.symm
    subst ee
    have h := h.1 c
    refine q_if_eq hC dX7_task_5 (t := 21) (by decide) rfl (by decide) (fun c => ?_) (fun c => ?_)
    · exact absurd c (by decide)
    · refine q_iload_n hC dX7_task_8 rfl rfl ?_
      refine q_iconst hC dX7_task_9 rfl ?_
      refine q_icmp_eq hC dX7_task_10 (t := 23) (by decide) rfl hx2 (by decide) (fun c => ?_) (fun c => ?_)
      · have h := h.1 c
        refine q_aload_n hC dX7_task_23 rfl rfl ?_
        refine q_getr hC fl_X7_12 ly_0 rfl dX7_task_24 rfl ?_
        refine q_getr hC fl_X7_93 ly_1 rfl dX7_task_27 rfl ?_
        refine q_astore_n hC dX7_task_30 (Nat.le_of_ble_eq_true rfl) (loc' := [some (.inr 0), some (.inl x1), some (.inl x2), some (.inr 8), none]) rfl rfl ?_
        refine q_aload_n hC dX7_task_31 rfl rfl ?_
        refine q_geti hC fl_X7_97 ly_8 rfl (z := 0) rfl dX7_task_32 rfl ?_
        refine q_bipush hC dX7_task_35 (by decide) rfl ?_
        refine q_icmp_lt hC dX7_task_37 (t := 43) (by decide) rfl (hM 8 0) (by decide) (fun c => ?_) (fun c => ?_)
        · have h := h.1 c
          refine q_aload_n hC dX7_task_43 rfl rfl ?_
          refine q_geti hC fl_X7_97 ly_8 rfl (z := 0) rfl dX7_task_44 rfl ?_
          refine q_istore hC dX7_task_47 (Nat.le_of_ble_eq_true rfl) (loc' := [some (.inr 0), some (.inl x1), some (.inl x2), some (.inr 8), some (.inl (M 8 0))]) rfl rfl ?_
          refine q_aload_n hC dX7_task_49 rfl rfl ?_
          refine q_getr hC fl_X7_102 ly_8 rfl dX7_task_50 rfl ?_
          refine q_iload hC dX7_task_53 rfl rfl ?_
          refine q_iload_n hC dX7_task_55 rfl rfl ?_
          obtain ⟨r105, h⟩ := h
          have hM106 : qIn (qU M 9 (M 8 0) x1) := (qU_in hM hx1)
          refine q_iast hC ly_9 dX7_task_56 rfl r105 hx1 ?_
          refine q_aload_n hC dX7_task_57 rfl rfl ?_
          refine q_getr hC fl_X7_105 ly_8 rfl dX7_task_58 rfl ?_
          refine q_iload hC dX7_task_61 rfl rfl ?_
          refine q_iload_n hC dX7_task_63 rfl rfl ?_
          have hM107 : qIn (qU (qU M 9 (M 8 0) x1) 10 (M 8 0) x2) := (qU_in hM106 hx2)
          refine q_iast hC ly_10 dX7_task_64 rfl r105 hx2 ?_
          refine q_aload_n hC dX7_task_65 rfl rfl ?_
          refine q_iload hC dX7_task_66 rfl rfl ?_
          refine q_iconst hC dX7_task_68 rfl ?_
          refine q_iadd hC dX7_task_69 rfl ?_
          obtain ⟨r108, h⟩ := h
          have hM109 : qIn (qU (qU (qU M 9 (M 8 0) x1) 10 (M 8 0) x2) 8 0 ((M 8 0) + 1)) := (qU_in hM107 r108)
          refine q_puti hC fp_X7_97 ly_8 rfl (z := 0) rfl dX7_task_70 rfl r108 ?_
          refine q_iload hC dX7_task_73 rfl rfl ?_
          exact q_iret hC hQ dX7_task_75 (hM 8 0) h
        · have h := h.2 c
          refine q_bipush hC dX7_task_40 (by decide) rfl ?_
          exact q_iret hC hQ dX7_task_42 (by decide) h
      · have h := h.2 c
        refine q_aload_n hC dX7_task_13 rfl rfl ?_
        refine q_iload_n hC dX7_task_14 rfl rfl ?_
        refine q_callVi hC (As := [.inl x2]) md_X7_isTask mv_X7_isTask ml_X7_90 ly_0 rfl dX7_task_15 rfl (Nat.le_of_ble_eq_true rfl) rfl rfl (b_X7_isTask hx2) (fun x110 M111 hM112 r113 hk => ?_)
        obtain ⟨ee, hk⟩ := hk
        have ee := ee.symm
        subst ee
        rcases hk with ⟨ee, c⟩ | ⟨ee, c⟩
        · have ee := ee.symm
          subst ee
          have h := h.1 c
          refine q_if_ne hC dX7_task_18 (t := 23) (by decide) rfl (by decide) (fun c => ?_) (fun c => ?_)
          · refine q_aload_n hC dX7_task_23 rfl rfl ?_
            refine q_getr hC fl_X7_12 ly_0 rfl dX7_task_24 rfl ?_
            refine q_getr hC fl_X7_93 ly_1 rfl dX7_task_27 rfl ?_
            refine q_astore_n hC dX7_task_30 (Nat.le_of_ble_eq_true rfl) (loc' := [some (.inr 0), some (.inl x1), some (.inl x2), some (.inr 8), none]) rfl rfl ?_
            refine q_aload_n hC dX7_task_31 rfl rfl ?_
            refine q_geti hC fl_X7_97 ly_8 rfl (z := 0) rfl dX7_task_32 rfl ?_
            refine q_bipush hC dX7_task_35 (by decide) rfl ?_
            refine q_icmp_lt hC dX7_task_37 (t := 43) (by decide) rfl (hM 8 0) (by decide) (fun c => ?_) (fun c => ?_)
            · have h := h.1 c
              refine q_aload_n hC dX7_task_43 rfl rfl ?_
              refine q_geti hC fl_X7_97 ly_8 rfl (z := 0) rfl dX7_task_44 rfl ?_
              refine q_istore hC dX7_task_47 (Nat.le_of_ble_eq_true rfl) (loc' := [some (.inr 0), some (.inl x1), some (.inl x2), some (.inr 8), some (.inl (M 8 0))]) rfl rfl ?_
              refine q_aload_n hC dX7_task_49 rfl rfl ?_
              refine q_getr hC fl_X7_102 ly_8 rfl dX7_task_50 rfl ?_
              refine q_iload hC dX7_task_53 rfl rfl ?_
              refine q_iload_n hC dX7_task_55 rfl rfl ?_
              obtain ⟨r114, h⟩ := h
              have hM115 : qIn (qU M 9 (M 8 0) x1) := (qU_in hM hx1)
              refine q_iast hC ly_9 dX7_task_56 rfl r114 hx1 ?_
              refine q_aload_n hC dX7_task_57 rfl rfl ?_
              refine q_getr hC fl_X7_105 ly_8 rfl dX7_task_58 rfl ?_
              refine q_iload hC dX7_task_61 rfl rfl ?_
              refine q_iload_n hC dX7_task_63 rfl rfl ?_
              have hM116 : qIn (qU (qU M 9 (M 8 0) x1) 10 (M 8 0) x2) := (qU_in hM115 hx2)
              refine q_iast hC ly_10 dX7_task_64 rfl r114 hx2 ?_
              refine q_aload_n hC dX7_task_65 rfl rfl ?_
              refine q_iload hC dX7_task_66 rfl rfl ?_
              refine q_iconst hC dX7_task_68 rfl ?_
              refine q_iadd hC dX7_task_69 rfl ?_
              obtain ⟨r117, h⟩ := h
              have hM118 : qIn (qU (qU (qU M 9 (M 8 0) x1) 10 (M 8 0) x2) 8 0 ((M 8 0) + 1)) := (qU_in hM116 r117)
              refine q_puti hC fp_X7_97 ly_8 rfl (z := 0) rfl dX7_task_70 rfl r117 ?_
              refine q_iload hC dX7_task_73 rfl rfl ?_
              exact q_iret hC hQ dX7_task_75 (hM 8 0) h
            · have h := h.2 c
              refine q_bipush hC dX7_task_40 (by decide) rfl ?_
              exact q_iret hC hQ dX7_task_42 (by decide) h
          · exact absurd c (by decide)
        · have ee := ee.symm
          subst ee
          have h := h.2 c
          refine q_if_ne hC dX7_task_18 (t := 23) (by decide) rfl (by decide) (fun c => ?_) (fun c => ?_)
          · exact absurd c (by decide)
          · refine q_iconst hC dX7_task_21 rfl ?_
            exact q_iret hC hQ dX7_task_22 (by decide) h
  · have ee := ee.symm
    subst ee
    have h := h.2 c
    refine q_if_eq hC dX7_task_5 (t := 21) (by decide) rfl (by decide) (fun c => ?_) (fun c => ?_)
    · refine q_iconst hC dX7_task_21 rfl ?_
      exact q_iret hC hQ dX7_task_22 (by decide) h
    · exact absurd c (by decide)
set_option maxRecDepth 20000 in
theorem e_X7_badge {g : qG} {d : Nat} {M : qM} {K : Int → qM → Prop} {x1 : Int} {x2 : Int} {x3 : Int} {x4 : Int} {x5 : Int} (hx1 : qR x1) (hx2 : qR x2) (hx3 : qR x3) (hx4 : qR x4) (hx5 : qR x5) (h : (((0 ≤ x1 ∧ x1 ≤ 1023) → (((0 ≤ x2 ∧ x2 ≤ 1023) → (((0 ≤ x3 ∧ x3 ≤ 10) → (((6 ≤ x4 ∧ x4 ≤ 18) → ((x5 = (-1) → (((M 8 3) < 8 → (0 ≤ (M 8 3) ∧ (M 8 3) < 8) ∧ (qR ((M 8 3) + 1)) ∧ (K (M 8 3) (qU (qU (qU (qU (qU (qU M 11 (M 8 3) x1) 12 (M 8 3) x2) 13 (M 8 3) x3) 14 (M 8 3) x4) 15 (M 8 3) x5) 8 3 ((M 8 3) + 1)))) ∧ (8 ≤ (M 8 3) → (K (-2) M)))) ∧ (x5 ≠ (-1) → (((0 ≤ x5 ∧ x5 < (M 8 3)) → (((M 8 3) < 8 → (0 ≤ (M 8 3) ∧ (M 8 3) < 8) ∧ (qR ((M 8 3) + 1)) ∧ (K (M 8 3) (qU (qU (qU (qU (qU (qU M 11 (M 8 3) x1) 12 (M 8 3) x2) 13 (M 8 3) x3) 14 (M 8 3) x4) 15 (M 8 3) x5) 8 3 ((M 8 3) + 1)))) ∧ (8 ≤ (M 8 3) → (K (-2) M)))) ∧ ((x5 < 0 ∨ (M 8 3) ≤ x5) → (K (-1) M)))))) ∧ ((x4 < 6 ∨ 18 < x4) → (K (-1) M)))) ∧ ((x3 < 0 ∨ 10 < x3) → (K (-1) M)))) ∧ ((x2 < 0 ∨ 1023 < x2) → (K (-1) M)))) ∧ ((x1 < 0 ∨ 1023 < x1) → (K (-1) M)))) : qOk g (d + 2) j_X7_badge [.inr 0, .inl x1, .inl x2, .inl x3, .inl x4, .inl x5] M (qI K) := by
  refine qOk.of (by decide) (Nat.le_of_ble_eq_true rfl) (fun C hC hQ => ?_)
  have hC : qCk g C cX7_badge RX7 8 (d + 2) := hC
  have hQ : qRt g C (some .int) (qI K) := hQ
  show qW g C 0 [some (.inr 0), some (.inl x1), some (.inl x2), some (.inl x3), some (.inl x4), some (.inl x5), none, none] [] M
  refine qW.rm (fun hM => ?_)
  refine q_iload_n hC dX7_badge_0 rfl rfl ?_
  refine q_sipush hC dX7_badge_1 (by decide) rfl ?_
  refine q_callSi hC (As := [.inl x1, .inl 1023]) md_X7_isUpTo ms_X7_isUpTo ml_X7_108 dX7_badge_4 rfl (Nat.le_of_ble_eq_true rfl) rfl rfl (b_X7_isUpTo hx1 (by decide)) (fun x101 M102 hM103 r104 hk => ?_)
  obtain ⟨ee, hk⟩ := hk
  have ee := ee.symm
  subst ee
  rcases hk with ⟨ee, c⟩ | ⟨ee, c⟩
  · have ee := ee.symm
    subst ee
    have h := h.1 c
    refine q_if_eq hC dX7_badge_7 (t := 29) (by decide) rfl (by decide) (fun c => ?_) (fun c => ?_)
    · exact absurd c (by decide)
    · refine q_iload_n hC dX7_badge_10 rfl rfl ?_
      refine q_sipush hC dX7_badge_11 (by decide) rfl ?_
      refine q_callSi hC (As := [.inl x2, .inl 1023]) md_X7_isUpTo ms_X7_isUpTo ml_X7_108 dX7_badge_14 rfl (Nat.le_of_ble_eq_true rfl) rfl rfl (b_X7_isUpTo hx2 (by decide)) (fun x105 M106 hM107 r108 hk => ?_)
      obtain ⟨ee, hk⟩ := hk
      have ee := ee.symm
      subst ee
      rcases hk with ⟨ee, c⟩ | ⟨ee, c⟩
      · have ee := ee.symm
        subst ee
        have h := h.1 c
        refine q_if_eq hC dX7_badge_17 (t := 29) (by decide) rfl (by decide) (fun c => ?_) (fun c => ?_)
        · exact absurd c (by decide)
        · refine q_iload_n hC dX7_badge_20 rfl rfl ?_
          refine q_bipush hC dX7_badge_21 (by decide) rfl ?_
          refine q_callSi hC (As := [.inl x3, .inl 10]) md_X7_isUpTo ms_X7_isUpTo ml_X7_108 dX7_badge_23 rfl (Nat.le_of_ble_eq_true rfl) rfl rfl (b_X7_isUpTo hx3 (by decide)) (fun x109 M110 hM111 r112 hk => ?_)
          obtain ⟨ee, hk⟩ := hk
          have ee := ee.symm
          subst ee
          rcases hk with ⟨ee, c⟩ | ⟨ee, c⟩
          · have ee := ee.symm
            subst ee
            have h := h.1 c
            refine q_if_ne hC dX7_badge_26 (t := 31) (by decide) rfl (by decide) (fun c => ?_) (fun c => ?_)
            · refine q_iload hC dX7_badge_31 rfl rfl ?_
              refine q_callSi hC (As := [.inl x4]) md_X7_isAge ms_X7_isAge ml_X7_44 dX7_badge_33 rfl (Nat.le_of_ble_eq_true rfl) rfl rfl (b_X7_isAge hx4) (fun x113 M114 hM115 r116 hk => ?_)
              obtain ⟨ee, hk⟩ := hk
              have ee := ee.symm
              subst ee
              rcases hk with ⟨ee, c⟩ | ⟨ee, c⟩
              · have ee := ee.symm
                subst ee
                have h := h.1 c
                refine q_if_eq hC dX7_badge_36 (t := 54) (by decide) rfl (by decide) (fun c => ?_) (fun c => ?_)
                · exact absurd c (by decide)
                · refine q_iload hC dX7_badge_39 rfl rfl ?_
                  refine q_iconst hC dX7_badge_41 rfl ?_
                  refine q_icmp_eq hC dX7_badge_42 (t := 56) (by decide) rfl hx5 (by decide) (fun c => ?_) (fun c => ?_)
                  · have h := h.1 c
                    refine q_aload_n hC dX7_badge_56 rfl rfl ?_
                    refine q_getr hC fl_X7_12 ly_0 rfl dX7_badge_57 rfl ?_
                    refine q_getr hC fl_X7_93 ly_1 rfl dX7_badge_60 rfl ?_
                    refine q_astore hC dX7_badge_63 (Nat.le_of_ble_eq_true rfl) (loc' := [some (.inr 0), some (.inl x1), some (.inl x2), some (.inl x3), some (.inl x4), some (.inl x5), some (.inr 8), none]) rfl rfl ?_
                    refine q_aload hC dX7_badge_65 rfl rfl ?_
                    refine q_geti hC fl_X7_114 ly_8 rfl (z := 3) rfl dX7_badge_67 rfl ?_
                    refine q_bipush hC dX7_badge_70 (by decide) rfl ?_
                    refine q_icmp_lt hC dX7_badge_72 (t := 78) (by decide) rfl (hM 8 3) (by decide) (fun c => ?_) (fun c => ?_)
                    · have h := h.1 c
                      refine q_aload hC dX7_badge_78 rfl rfl ?_
                      refine q_geti hC fl_X7_114 ly_8 rfl (z := 3) rfl dX7_badge_80 rfl ?_
                      refine q_istore hC dX7_badge_83 (Nat.le_of_ble_eq_true rfl) (loc' := [some (.inr 0), some (.inl x1), some (.inl x2), some (.inl x3), some (.inl x4), some (.inl x5), some (.inr 8), some (.inl (M 8 3))]) rfl rfl ?_
                      refine q_aload hC dX7_badge_85 rfl rfl ?_
                      refine q_getr hC fl_X7_117 ly_8 rfl dX7_badge_87 rfl ?_
                      refine q_iload hC dX7_badge_90 rfl rfl ?_
                      refine q_iload_n hC dX7_badge_92 rfl rfl ?_
                      obtain ⟨r117, h⟩ := h
                      have hM118 : qIn (qU M 11 (M 8 3) x1) := (qU_in hM hx1)
                      refine q_iast hC ly_11 dX7_badge_93 rfl r117 hx1 ?_
                      refine q_aload hC dX7_badge_94 rfl rfl ?_
                      refine q_getr hC fl_X7_120 ly_8 rfl dX7_badge_96 rfl ?_
                      refine q_iload hC dX7_badge_99 rfl rfl ?_
                      refine q_iload_n hC dX7_badge_101 rfl rfl ?_
                      have hM119 : qIn (qU (qU M 11 (M 8 3) x1) 12 (M 8 3) x2) := (qU_in hM118 hx2)
                      refine q_iast hC ly_12 dX7_badge_102 rfl r117 hx2 ?_
                      refine q_aload hC dX7_badge_103 rfl rfl ?_
                      refine q_getr hC fl_X7_123 ly_8 rfl dX7_badge_105 rfl ?_
                      refine q_iload hC dX7_badge_108 rfl rfl ?_
                      refine q_iload_n hC dX7_badge_110 rfl rfl ?_
                      have hM120 : qIn (qU (qU (qU M 11 (M 8 3) x1) 12 (M 8 3) x2) 13 (M 8 3) x3) := (qU_in hM119 hx3)
                      refine q_iast hC ly_13 dX7_badge_111 rfl r117 hx3 ?_
                      refine q_aload hC dX7_badge_112 rfl rfl ?_
                      refine q_getr hC fl_X7_126 ly_8 rfl dX7_badge_114 rfl ?_
                      refine q_iload hC dX7_badge_117 rfl rfl ?_
                      refine q_iload hC dX7_badge_119 rfl rfl ?_
                      have hM121 : qIn (qU (qU (qU (qU M 11 (M 8 3) x1) 12 (M 8 3) x2) 13 (M 8 3) x3) 14 (M 8 3) x4) := (qU_in hM120 hx4)
                      refine q_iast hC ly_14 dX7_badge_121 rfl r117 hx4 ?_
                      refine q_aload hC dX7_badge_122 rfl rfl ?_
                      refine q_getr hC fl_X7_127 ly_8 rfl dX7_badge_124 rfl ?_
                      refine q_iload hC dX7_badge_127 rfl rfl ?_
                      refine q_iload hC dX7_badge_129 rfl rfl ?_
                      have hM122 : qIn (qU (qU (qU (qU (qU M 11 (M 8 3) x1) 12 (M 8 3) x2) 13 (M 8 3) x3) 14 (M 8 3) x4) 15 (M 8 3) x5) := (qU_in hM121 hx5)
                      refine q_iast hC ly_15 dX7_badge_131 rfl r117 hx5 ?_
                      refine q_aload hC dX7_badge_132 rfl rfl ?_
                      refine q_iload hC dX7_badge_134 rfl rfl ?_
                      refine q_iconst hC dX7_badge_136 rfl ?_
                      refine q_iadd hC dX7_badge_137 rfl ?_
                      obtain ⟨r123, h⟩ := h
                      have hM124 : qIn (qU (qU (qU (qU (qU (qU M 11 (M 8 3) x1) 12 (M 8 3) x2) 13 (M 8 3) x3) 14 (M 8 3) x4) 15 (M 8 3) x5) 8 3 ((M 8 3) + 1)) := (qU_in hM122 r123)
                      refine q_puti hC fp_X7_114 ly_8 rfl (z := 3) rfl dX7_badge_138 rfl r123 ?_
                      refine q_iload hC dX7_badge_141 rfl rfl ?_
                      exact q_iret hC hQ dX7_badge_143 (hM 8 3) h
                    · have h := h.2 c
                      refine q_bipush hC dX7_badge_75 (by decide) rfl ?_
                      exact q_iret hC hQ dX7_badge_77 (by decide) h
                  · have h := h.2 c
                    refine q_aload_n hC dX7_badge_45 rfl rfl ?_
                    refine q_iload hC dX7_badge_46 rfl rfl ?_
                    refine q_callVi hC (As := [.inl x5]) md_X7_isBadge mv_X7_isBadge ml_X7_111 ly_0 rfl dX7_badge_48 rfl (Nat.le_of_ble_eq_true rfl) rfl rfl (b_X7_isBadge hx5) (fun x125 M126 hM127 r128 hk => ?_)
                    obtain ⟨ee, hk⟩ := hk
                    have ee := ee.symm
                    subst ee
                    rcases hk with ⟨ee, c⟩ | ⟨ee, c⟩
                    · have ee := ee.symm
                      subst ee
                      have h := h.1 c
                      refine q_if_ne hC dX7_badge_51 (t := 56) (by decide) rfl (by decide) (fun c => ?_) (fun c => ?_)
                      · refine q_aload_n hC dX7_badge_56 rfl rfl ?_
                        refine q_getr hC fl_X7_12 ly_0 rfl dX7_badge_57 rfl ?_
                        refine q_getr hC fl_X7_93 ly_1 rfl dX7_badge_60 rfl ?_
                        refine q_astore hC dX7_badge_63 (Nat.le_of_ble_eq_true rfl) (loc' := [some (.inr 0), some (.inl x1), some (.inl x2), some (.inl x3), some (.inl x4), some (.inl x5), some (.inr 8), none]) rfl rfl ?_
                        refine q_aload hC dX7_badge_65 rfl rfl ?_
                        refine q_geti hC fl_X7_114 ly_8 rfl (z := 3) rfl dX7_badge_67 rfl ?_
                        refine q_bipush hC dX7_badge_70 (by decide) rfl ?_
                        refine q_icmp_lt hC dX7_badge_72 (t := 78) (by decide) rfl (hM 8 3) (by decide) (fun c => ?_) (fun c => ?_)
                        · have h := h.1 c
                          refine q_aload hC dX7_badge_78 rfl rfl ?_
                          refine q_geti hC fl_X7_114 ly_8 rfl (z := 3) rfl dX7_badge_80 rfl ?_
                          refine q_istore hC dX7_badge_83 (Nat.le_of_ble_eq_true rfl) (loc' := [some (.inr 0), some (.inl x1), some (.inl x2), some (.inl x3), some (.inl x4), some (.inl x5), some (.inr 8), some (.inl (M 8 3))]) rfl rfl ?_
                          refine q_aload hC dX7_badge_85 rfl rfl ?_
                          refine q_getr hC fl_X7_117 ly_8 rfl dX7_badge_87 rfl ?_
                          refine q_iload hC dX7_badge_90 rfl rfl ?_
                          refine q_iload_n hC dX7_badge_92 rfl rfl ?_
                          obtain ⟨r129, h⟩ := h
                          have hM130 : qIn (qU M 11 (M 8 3) x1) := (qU_in hM hx1)
                          refine q_iast hC ly_11 dX7_badge_93 rfl r129 hx1 ?_
                          refine q_aload hC dX7_badge_94 rfl rfl ?_
                          refine q_getr hC fl_X7_120 ly_8 rfl dX7_badge_96 rfl ?_
                          refine q_iload hC dX7_badge_99 rfl rfl ?_
                          refine q_iload_n hC dX7_badge_101 rfl rfl ?_
                          have hM131 : qIn (qU (qU M 11 (M 8 3) x1) 12 (M 8 3) x2) := (qU_in hM130 hx2)
                          refine q_iast hC ly_12 dX7_badge_102 rfl r129 hx2 ?_
                          refine q_aload hC dX7_badge_103 rfl rfl ?_
                          refine q_getr hC fl_X7_123 ly_8 rfl dX7_badge_105 rfl ?_
                          refine q_iload hC dX7_badge_108 rfl rfl ?_
                          refine q_iload_n hC dX7_badge_110 rfl rfl ?_
                          have hM132 : qIn (qU (qU (qU M 11 (M 8 3) x1) 12 (M 8 3) x2) 13 (M 8 3) x3) := (qU_in hM131 hx3)
                          refine q_iast hC ly_13 dX7_badge_111 rfl r129 hx3 ?_
                          refine q_aload hC dX7_badge_112 rfl rfl ?_
                          refine q_getr hC fl_X7_126 ly_8 rfl dX7_badge_114 rfl ?_
                          refine q_iload hC dX7_badge_117 rfl rfl ?_
                          refine q_iload hC dX7_badge_119 rfl rfl ?_
                          have hM133 : qIn (qU (qU (qU (qU M 11 (M 8 3) x1) 12 (M 8 3) x2) 13 (M 8 3) x3) 14 (M 8 3) x4) := (qU_in hM132 hx4)
                          refine q_iast hC ly_14 dX7_badge_121 rfl r129 hx4 ?_
                          refine q_aload hC dX7_badge_122 rfl rfl ?_
                          refine q_getr hC fl_X7_127 ly_8 rfl dX7_badge_124 rfl ?_
                          refine q_iload hC dX7_badge_127 rfl rfl ?_
                          refine q_iload hC dX7_badge_129 rfl rfl ?_
                          have hM134 : qIn (qU (qU (qU (qU (qU M 11 (M 8 3) x1) 12 (M 8 3) x2) 13 (M 8 3) x3) 14 (M 8 3) x4) 15 (M 8 3) x5) := (qU_in hM133 hx5)
                          refine q_iast hC ly_15 dX7_badge_131 rfl r129 hx5 ?_
                          refine q_aload hC dX7_badge_132 rfl rfl ?_
                          refine q_iload hC dX7_badge_134 rfl rfl ?_
                          refine q_iconst hC dX7_badge_136 rfl ?_
                          refine q_iadd hC dX7_badge_137 rfl ?_
                          obtain ⟨r135, h⟩ := h
                          have hM136 : qIn (qU (qU (qU (qU (qU (qU M 11 (M 8 3) x1) 12 (M 8 3) x2) 13 (M 8 3) x3) 14 (M 8 3) x4) 15 (M 8 3) x5) 8 3 ((M 8 3) + 1)) := (qU_in hM134 r135)
                          refine q_puti hC fp_X7_114 ly_8 rfl (z := 3) rfl dX7_badge_138 rfl r135 ?_
                          refine q_iload hC dX7_badge_141 rfl rfl ?_
                          exact q_iret hC hQ dX7_badge_143 (hM 8 3) h
                        · have h := h.2 c
                          refine q_bipush hC dX7_badge_75 (by decide) rfl ?_
                          exact q_iret hC hQ dX7_badge_77 (by decide) h
                      · exact absurd c (by decide)
                    · have ee := ee.symm
                      subst ee
                      have h := h.2 c
                      refine q_if_ne hC dX7_badge_51 (t := 56) (by decide) rfl (by decide) (fun c => ?_) (fun c => ?_)
                      · exact absurd c (by decide)
                      · refine q_iconst hC dX7_badge_54 rfl ?_
                        exact q_iret hC hQ dX7_badge_55 (by decide) h
              · have ee := ee.symm
                subst ee
                have h := h.2 c
                refine q_if_eq hC dX7_badge_36 (t := 54) (by decide) rfl (by decide) (fun c => ?_) (fun c => ?_)
                · refine q_iconst hC dX7_badge_54 rfl ?_
                  exact q_iret hC hQ dX7_badge_55 (by decide) h
                · exact absurd c (by decide)
            · exact absurd c (by decide)
          · have ee := ee.symm
            subst ee
            have h := h.2 c
            refine q_if_ne hC dX7_badge_26 (t := 31) (by decide) rfl (by decide) (fun c => ?_) (fun c => ?_)
            · exact absurd c (by decide)
            · refine q_iconst hC dX7_badge_29 rfl ?_
              exact q_iret hC hQ dX7_badge_30 (by decide) h
      · have ee := ee.symm
        subst ee
        have h := h.2 c
        refine q_if_eq hC dX7_badge_17 (t := 29) (by decide) rfl (by decide) (fun c => ?_) (fun c => ?_)
        · refine q_iconst hC dX7_badge_29 rfl ?_
          exact q_iret hC hQ dX7_badge_30 (by decide) h
        · exact absurd c (by decide)
  · have ee := ee.symm
    subst ee
    have h := h.2 c
    refine q_if_eq hC dX7_badge_7 (t := 29) (by decide) rfl (by decide) (fun c => ?_) (fun c => ?_)
    · refine q_iconst hC dX7_badge_29 rfl ?_
      exact q_iret hC hQ dX7_badge_30 (by decide) h
    · exact absurd c (by decide)
set_option maxRecDepth 20000 in
theorem e_X7_sign {g : qG} {d : Nat} {M : qM} {K : Int → qM → Prop} {x1 : Int} {x2 : Int} {x3 : Int} {x4 : Int} (hx1 : qR x1) (hx2 : qR x2) (hx3 : qR x3) (hx4 : qR x4) (h : (((0 ≤ x1 ∧ x1 < (M 2 0)) → (((0 ≤ x2 ∧ x2 < (M 8 0)) → (((0 ≤ x3 ∧ x3 < (M 2 3)) → (((0 ≤ x4 ∧ x4 ≤ 999) → (((M 16 0) < 80 → (0 ≤ (M 16 0) ∧ (M 16 0) < 80) ∧ (qR ((M 16 0) + 1)) ∧ (K (M 16 0) (qU (qU (qU (qU (qU (qU M 17 (M 16 0) x1) 18 (M 16 0) x2) 19 (M 16 0) x3) 20 (M 16 0) x4) 21 (M 16 0) 0) 16 0 ((M 16 0) + 1)))) ∧ (80 ≤ (M 16 0) → (K (-2) M)))) ∧ ((x4 < 0 ∨ 999 < x4) → (K (-1) M)))) ∧ ((x3 < 0 ∨ (M 2 3) ≤ x3) → (K (-1) M)))) ∧ ((x2 < 0 ∨ (M 8 0) ≤ x2) → (K (-1) M)))) ∧ ((x1 < 0 ∨ (M 2 0) ≤ x1) → (K (-1) M)))) : qOk g (d + 2) j_X7_sign [.inr 0, .inl x1, .inl x2, .inl x3, .inl x4] M (qI K) := by
  refine qOk.of (by decide) (Nat.le_of_ble_eq_true rfl) (fun C hC hQ => ?_)
  have hC : qCk g C cX7_sign RX7 7 (d + 2) := hC
  have hQ : qRt g C (some .int) (qI K) := hQ
  show qW g C 0 [some (.inr 0), some (.inl x1), some (.inl x2), some (.inl x3), some (.inl x4), none, none] [] M
  refine qW.rm (fun hM => ?_)
  refine q_aload_n hC dX7_sign_0 rfl rfl ?_
  refine q_iload_n hC dX7_sign_1 rfl rfl ?_
  refine q_callVi hC (As := [.inl x1]) md_X7_isChild mv_X7_isChild ml_X7_68 ly_0 rfl dX7_sign_2 rfl (Nat.le_of_ble_eq_true rfl) rfl rfl (b_X7_isChild hx1) (fun x101 M102 hM103 r104 hk => ?_)
  obtain ⟨ee, hk⟩ := hk
  have ee := ee.symm
  subst ee
  rcases hk with ⟨ee, c⟩ | ⟨ee, c⟩
  · have ee := ee.symm
    subst ee
    have h := h.1 c
    refine q_if_eq hC dX7_sign_5 (t := 32) (by decide) rfl (by decide) (fun c => ?_) (fun c => ?_)
    · exact absurd c (by decide)
    · refine q_aload_n hC dX7_sign_8 rfl rfl ?_
      refine q_iload_n hC dX7_sign_9 rfl rfl ?_
      refine q_callVi hC (As := [.inl x2]) md_X7_isTask mv_X7_isTask ml_X7_90 ly_0 rfl dX7_sign_10 rfl (Nat.le_of_ble_eq_true rfl) rfl rfl (b_X7_isTask hx2) (fun x105 M106 hM107 r108 hk => ?_)
      obtain ⟨ee, hk⟩ := hk
      have ee := ee.symm
      subst ee
      rcases hk with ⟨ee, c⟩ | ⟨ee, c⟩
      · have ee := ee.symm
        subst ee
        have h := h.1 c
        refine q_if_eq hC dX7_sign_13 (t := 32) (by decide) rfl (by decide) (fun c => ?_) (fun c => ?_)
        · exact absurd c (by decide)
        · refine q_aload_n hC dX7_sign_16 rfl rfl ?_
          refine q_iload_n hC dX7_sign_17 rfl rfl ?_
          refine q_callVi hC (As := [.inl x3]) md_X7_isLeader mv_X7_isLeader ml_X7_78 ly_0 rfl dX7_sign_18 rfl (Nat.le_of_ble_eq_true rfl) rfl rfl (b_X7_isLeader hx3) (fun x109 M110 hM111 r112 hk => ?_)
          obtain ⟨ee, hk⟩ := hk
          have ee := ee.symm
          subst ee
          rcases hk with ⟨ee, c⟩ | ⟨ee, c⟩
          · have ee := ee.symm
            subst ee
            have h := h.1 c
            refine q_if_eq hC dX7_sign_21 (t := 32) (by decide) rfl (by decide) (fun c => ?_) (fun c => ?_)
            · exact absurd c (by decide)
            · refine q_iload hC dX7_sign_24 rfl rfl ?_
              refine q_callSi hC (As := [.inl x4]) md_X7_isDay ms_X7_isDay ml_X7_81 dX7_sign_26 rfl (Nat.le_of_ble_eq_true rfl) rfl rfl (b_X7_isDay hx4) (fun x113 M114 hM115 r116 hk => ?_)
              obtain ⟨ee, hk⟩ := hk
              have ee := ee.symm
              subst ee
              rcases hk with ⟨ee, c⟩ | ⟨ee, c⟩
              · have ee := ee.symm
                subst ee
                have h := h.1 c
                refine q_if_ne hC dX7_sign_29 (t := 34) (by decide) rfl (by decide) (fun c => ?_) (fun c => ?_)
                · refine q_aload_n hC dX7_sign_34 rfl rfl ?_
                  refine q_getr hC fl_X7_12 ly_0 rfl dX7_sign_35 rfl ?_
                  refine q_getr hC fl_X7_130 ly_1 rfl dX7_sign_38 rfl ?_
                  refine q_astore hC dX7_sign_41 (Nat.le_of_ble_eq_true rfl) (loc' := [some (.inr 0), some (.inl x1), some (.inl x2), some (.inl x3), some (.inl x4), some (.inr 16), none]) rfl rfl ?_
                  refine q_aload hC dX7_sign_43 rfl rfl ?_
                  refine q_geti hC fl_X7_134 ly_16 rfl (z := 0) rfl dX7_sign_45 rfl ?_
                  refine q_bipush hC dX7_sign_48 (by decide) rfl ?_
                  refine q_icmp_lt hC dX7_sign_50 (t := 56) (by decide) rfl (hM 16 0) (by decide) (fun c => ?_) (fun c => ?_)
                  · have h := h.1 c
                    refine q_aload hC dX7_sign_56 rfl rfl ?_
                    refine q_geti hC fl_X7_134 ly_16 rfl (z := 0) rfl dX7_sign_58 rfl ?_
                    refine q_istore hC dX7_sign_61 (Nat.le_of_ble_eq_true rfl) (loc' := [some (.inr 0), some (.inl x1), some (.inl x2), some (.inl x3), some (.inl x4), some (.inr 16), some (.inl (M 16 0))]) rfl rfl ?_
                    refine q_aload hC dX7_sign_63 rfl rfl ?_
                    refine q_getr hC fl_X7_139 ly_16 rfl dX7_sign_65 rfl ?_
                    refine q_iload hC dX7_sign_68 rfl rfl ?_
                    refine q_iload_n hC dX7_sign_70 rfl rfl ?_
                    obtain ⟨r117, h⟩ := h
                    have hM118 : qIn (qU M 17 (M 16 0) x1) := (qU_in hM hx1)
                    refine q_iast hC ly_17 dX7_sign_71 rfl r117 hx1 ?_
                    refine q_aload hC dX7_sign_72 rfl rfl ?_
                    refine q_getr hC fl_X7_141 ly_16 rfl dX7_sign_74 rfl ?_
                    refine q_iload hC dX7_sign_77 rfl rfl ?_
                    refine q_iload_n hC dX7_sign_79 rfl rfl ?_
                    have hM119 : qIn (qU (qU M 17 (M 16 0) x1) 18 (M 16 0) x2) := (qU_in hM118 hx2)
                    refine q_iast hC ly_18 dX7_sign_80 rfl r117 hx2 ?_
                    refine q_aload hC dX7_sign_81 rfl rfl ?_
                    refine q_getr hC fl_X7_143 ly_16 rfl dX7_sign_83 rfl ?_
                    refine q_iload hC dX7_sign_86 rfl rfl ?_
                    refine q_iload_n hC dX7_sign_88 rfl rfl ?_
                    have hM120 : qIn (qU (qU (qU M 17 (M 16 0) x1) 18 (M 16 0) x2) 19 (M 16 0) x3) := (qU_in hM119 hx3)
                    refine q_iast hC ly_19 dX7_sign_89 rfl r117 hx3 ?_
                    refine q_aload hC dX7_sign_90 rfl rfl ?_
                    refine q_getr hC fl_X7_145 ly_16 rfl dX7_sign_92 rfl ?_
                    refine q_iload hC dX7_sign_95 rfl rfl ?_
                    refine q_iload hC dX7_sign_97 rfl rfl ?_
                    have hM121 : qIn (qU (qU (qU (qU M 17 (M 16 0) x1) 18 (M 16 0) x2) 19 (M 16 0) x3) 20 (M 16 0) x4) := (qU_in hM120 hx4)
                    refine q_iast hC ly_20 dX7_sign_99 rfl r117 hx4 ?_
                    refine q_aload hC dX7_sign_100 rfl rfl ?_
                    refine q_getr hC fl_X7_147 ly_16 rfl dX7_sign_102 rfl ?_
                    refine q_iload hC dX7_sign_105 rfl rfl ?_
                    refine q_iconst hC dX7_sign_107 rfl ?_
                    have hM122 : qIn (qU (qU (qU (qU (qU M 17 (M 16 0) x1) 18 (M 16 0) x2) 19 (M 16 0) x3) 20 (M 16 0) x4) 21 (M 16 0) 0) := (qU_in hM121 (q_rz (by decide)))
                    refine q_zast hC ly_21 dX7_sign_108 rfl r117 (by decide) ?_
                    refine q_aload hC dX7_sign_109 rfl rfl ?_
                    refine q_iload hC dX7_sign_111 rfl rfl ?_
                    refine q_iconst hC dX7_sign_113 rfl ?_
                    refine q_iadd hC dX7_sign_114 rfl ?_
                    obtain ⟨r123, h⟩ := h
                    have hM124 : qIn (qU (qU (qU (qU (qU (qU M 17 (M 16 0) x1) 18 (M 16 0) x2) 19 (M 16 0) x3) 20 (M 16 0) x4) 21 (M 16 0) 0) 16 0 ((M 16 0) + 1)) := (qU_in hM122 r123)
                    refine q_puti hC fp_X7_134 ly_16 rfl (z := 0) rfl dX7_sign_115 rfl r123 ?_
                    refine q_iload hC dX7_sign_118 rfl rfl ?_
                    exact q_iret hC hQ dX7_sign_120 (hM 16 0) h
                  · have h := h.2 c
                    refine q_bipush hC dX7_sign_53 (by decide) rfl ?_
                    exact q_iret hC hQ dX7_sign_55 (by decide) h
                · exact absurd c (by decide)
              · have ee := ee.symm
                subst ee
                have h := h.2 c
                refine q_if_ne hC dX7_sign_29 (t := 34) (by decide) rfl (by decide) (fun c => ?_) (fun c => ?_)
                · exact absurd c (by decide)
                · refine q_iconst hC dX7_sign_32 rfl ?_
                  exact q_iret hC hQ dX7_sign_33 (by decide) h
          · have ee := ee.symm
            subst ee
            have h := h.2 c
            refine q_if_eq hC dX7_sign_21 (t := 32) (by decide) rfl (by decide) (fun c => ?_) (fun c => ?_)
            · refine q_iconst hC dX7_sign_32 rfl ?_
              exact q_iret hC hQ dX7_sign_33 (by decide) h
            · exact absurd c (by decide)
      · have ee := ee.symm
        subst ee
        have h := h.2 c
        refine q_if_eq hC dX7_sign_13 (t := 32) (by decide) rfl (by decide) (fun c => ?_) (fun c => ?_)
        · refine q_iconst hC dX7_sign_32 rfl ?_
          exact q_iret hC hQ dX7_sign_33 (by decide) h
        · exact absurd c (by decide)
  · have ee := ee.symm
    subst ee
    have h := h.2 c
    refine q_if_eq hC dX7_sign_5 (t := 32) (by decide) rfl (by decide) (fun c => ?_) (fun c => ?_)
    · refine q_iconst hC dX7_sign_32 rfl ?_
      exact q_iret hC hQ dX7_sign_33 (by decide) h
    · exact absurd c (by decide)
set_option maxRecDepth 20000 in
theorem e_X7_strike {g : qG} {d : Nat} {M : qM} {K : Int → qM → Prop} {x1 : Int} (hx1 : qR x1) (h : (((0 ≤ x1 ∧ x1 < (M 16 0)) → (0 ≤ x1 ∧ x1 < 80) ∧ (((M 21 x1) = 0 → (K 1 (qU M 21 x1 1))) ∧ ((M 21 x1) ≠ 0 → (K (-4) M)))) ∧ ((x1 < 0 ∨ (M 16 0) ≤ x1) → (K (-1) M)))) : qOk g (d + 2) j_X7_strike [.inr 0, .inl x1] M (qI K) := by
  refine qOk.of (by decide) (Nat.le_of_ble_eq_true rfl) (fun C hC hQ => ?_)
  have hC : qCk g C cX7_strike RX7 2 (d + 2) := hC
  have hQ : qRt g C (some .int) (qI K) := hQ
  show qW g C 0 [some (.inr 0), some (.inl x1)] [] M
  refine qW.rm (fun hM => ?_)
  refine q_aload_n hC dX7_strike_0 rfl rfl ?_
  refine q_iload_n hC dX7_strike_1 rfl rfl ?_
  refine q_callVi hC (As := [.inl x1]) md_X7_isSignature mv_X7_isSignature ml_X7_151 ly_0 rfl dX7_strike_2 rfl (Nat.le_of_ble_eq_true rfl) rfl rfl (b_X7_isSignature hx1) (fun x101 M102 hM103 r104 hk => ?_)
  obtain ⟨ee, hk⟩ := hk
  have ee := ee.symm
  subst ee
  rcases hk with ⟨ee, c⟩ | ⟨ee, c⟩
  · have ee := ee.symm
    subst ee
    have h := h.1 c
    refine q_if_ne hC dX7_strike_5 (t := 10) (by decide) rfl (by decide) (fun c => ?_) (fun c => ?_)
    · refine q_aload_n hC dX7_strike_10 rfl rfl ?_
      refine q_getr hC fl_X7_12 ly_0 rfl dX7_strike_11 rfl ?_
      refine q_getr hC fl_X7_130 ly_1 rfl dX7_strike_14 rfl ?_
      refine q_getr hC fl_X7_147 ly_16 rfl dX7_strike_17 rfl ?_
      refine q_iload_n hC dX7_strike_20 rfl rfl ?_
      obtain ⟨r105, h⟩ := h
      refine q_zald hC ly_21 dX7_strike_21 rfl r105 ?_
      refine q_if_eq hC dX7_strike_22 (t := 28) (by decide) rfl (hM 21 x1) (fun c => ?_) (fun c => ?_)
      · have h := h.1 c
        refine q_aload_n hC dX7_strike_28 rfl rfl ?_
        refine q_getr hC fl_X7_12 ly_0 rfl dX7_strike_29 rfl ?_
        refine q_getr hC fl_X7_130 ly_1 rfl dX7_strike_32 rfl ?_
        refine q_getr hC fl_X7_147 ly_16 rfl dX7_strike_35 rfl ?_
        refine q_iload_n hC dX7_strike_38 rfl rfl ?_
        refine q_iconst hC dX7_strike_39 rfl ?_
        have hM106 : qIn (qU M 21 x1 1) := (qU_in hM (q_rz (by decide)))
        refine q_zast hC ly_21 dX7_strike_40 rfl r105 (by decide) ?_
        refine q_iconst hC dX7_strike_41 rfl ?_
        exact q_iret hC hQ dX7_strike_42 (by decide) h
      · have h := h.2 c
        refine q_bipush hC dX7_strike_25 (by decide) rfl ?_
        exact q_iret hC hQ dX7_strike_27 (by decide) h
    · exact absurd c (by decide)
  · have ee := ee.symm
    subst ee
    have h := h.2 c
    refine q_if_ne hC dX7_strike_5 (t := 10) (by decide) rfl (by decide) (fun c => ?_) (fun c => ?_)
    · exact absurd c (by decide)
    · refine q_iconst hC dX7_strike_8 rfl ?_
      exact q_iret hC hQ dX7_strike_9 (by decide) h
set_option maxRecDepth 20000 in
theorem e_X7_of {g : qG} {d : Nat} {M : qM} {K : Int → qM → Prop} {x1 : Int} {x2 : Int} (hx1 : qR x1) (hx2 : qR x2) (h : (((0 ≤ x1 ∧ x1 < (M 16 0)) → (((x2 < 0 ∨ 5 < x2) → (K (-1) M)) ∧ (x2 = 0 → (0 ≤ x1 ∧ x1 < 80) ∧ (K (M 17 x1) M)) ∧ (x2 = 1 → (0 ≤ x1 ∧ x1 < 80) ∧ (K (M 18 x1) M)) ∧ (x2 = 2 → (0 ≤ x1 ∧ x1 < 80) ∧ (K (M 19 x1) M)) ∧ (x2 = 3 → (0 ≤ x1 ∧ x1 < 80) ∧ (K (M 20 x1) M)) ∧ (x2 = 4 → (0 ≤ x1 ∧ x1 < 80) ∧ (((M 21 x1) = 0 → (K 0 M)) ∧ ((M 21 x1) ≠ 0 → (K 1 M)))) ∧ (x2 = 5 → (qOk g (d + 3) j_X2_readDone [.inr 51, .inr 1] M (qN fun M110 => qOk g (d + 3) j_X2_counts [.inr 51, .inr 1, .inl x1] M110 (qI fun x114 M112 => ((x114 = 0 → (K 0 M112)) ∧ (x114 ≠ 0 → (K 1 M112))))))))) ∧ ((x1 < 0 ∨ (M 16 0) ≤ x1) → (K (-1) M)))) : qOk g (d + 4) j_X7_of [.inr 0, .inl x1, .inl x2] M (qI K) := by
  refine qOk.of (by decide) (Nat.le_of_ble_eq_true rfl) (fun C hC hQ => ?_)
  have hC : qCk g C cX7_of RX7 4 (d + 4) := hC
  have hQ : qRt g C (some .int) (qI K) := hQ
  show qW g C 0 [some (.inr 0), some (.inl x1), some (.inl x2), none] [] M
  refine qW.rm (fun hM => ?_)
  refine q_aload_n hC dX7_of_0 rfl rfl ?_
  refine q_iload_n hC dX7_of_1 rfl rfl ?_
  refine q_callVi hC (As := [.inl x1]) md_X7_isSignature mv_X7_isSignature ml_X7_151 ly_0 rfl dX7_of_2 rfl (Nat.le_of_ble_eq_true rfl) rfl rfl (b_X7_isSignature hx1) (fun x101 M102 hM103 r104 hk => ?_)
  obtain ⟨ee, hk⟩ := hk
  have ee := ee.symm
  subst ee
  rcases hk with ⟨ee, c⟩ | ⟨ee, c⟩
  · have ee := ee.symm
    subst ee
    have h := h.1 c
    refine q_if_ne hC dX7_of_5 (t := 10) (by decide) rfl (by decide) (fun c => ?_) (fun c => ?_)
    · refine q_aload_n hC dX7_of_10 rfl rfl ?_
      refine q_getr hC fl_X7_12 ly_0 rfl dX7_of_11 rfl ?_
      refine q_getr hC fl_X7_130 ly_1 rfl dX7_of_14 rfl ?_
      refine q_astore_n hC dX7_of_17 (Nat.le_of_ble_eq_true rfl) (loc' := [some (.inr 0), some (.inl x1), some (.inl x2), some (.inr 16)]) rfl rfl ?_
      refine q_iload_n hC dX7_of_18 rfl rfl ?_
      rcases (show (x2 < 0 ∨ 5 < x2) ∨ x2 = 0 ∨ x2 = 1 ∨ x2 = 2 ∨ x2 = 3 ∨ x2 = 4 ∨ x2 = 5 by omega) with c | c | c | c | c | c | c
      · have h := h.1 c
        refine q_tabOut hC dX7_of_19 hx2 c (t := 131) (by decide) ?_
        refine q_iconst hC dX7_of_131 rfl ?_
        exact q_iret hC hQ dX7_of_132 (by decide) h
      · have h := h.2.1 c
        refine q_tabIn hC dX7_of_19 hx2 c (by decide) (off := 37) (by decide) (t := 56) (by decide) ?_
        refine q_aload_n hC dX7_of_56 rfl rfl ?_
        refine q_getr hC fl_X7_139 ly_16 rfl dX7_of_57 rfl ?_
        refine q_iload_n hC dX7_of_60 rfl rfl ?_
        obtain ⟨r105, h⟩ := h
        refine q_iald hC ly_17 dX7_of_61 rfl r105 ?_
        exact q_iret hC hQ dX7_of_62 (hM 17 x1) h
      · have h := h.2.2.1 c
        refine q_tabIn hC dX7_of_19 hx2 c (by decide) (off := 44) (by decide) (t := 63) (by decide) ?_
        refine q_aload_n hC dX7_of_63 rfl rfl ?_
        refine q_getr hC fl_X7_141 ly_16 rfl dX7_of_64 rfl ?_
        refine q_iload_n hC dX7_of_67 rfl rfl ?_
        obtain ⟨r106, h⟩ := h
        refine q_iald hC ly_18 dX7_of_68 rfl r106 ?_
        exact q_iret hC hQ dX7_of_69 (hM 18 x1) h
      · have h := h.2.2.2.1 c
        refine q_tabIn hC dX7_of_19 hx2 c (by decide) (off := 51) (by decide) (t := 70) (by decide) ?_
        refine q_aload_n hC dX7_of_70 rfl rfl ?_
        refine q_getr hC fl_X7_143 ly_16 rfl dX7_of_71 rfl ?_
        refine q_iload_n hC dX7_of_74 rfl rfl ?_
        obtain ⟨r107, h⟩ := h
        refine q_iald hC ly_19 dX7_of_75 rfl r107 ?_
        exact q_iret hC hQ dX7_of_76 (hM 19 x1) h
      · have h := h.2.2.2.2.1 c
        refine q_tabIn hC dX7_of_19 hx2 c (by decide) (off := 58) (by decide) (t := 77) (by decide) ?_
        refine q_aload_n hC dX7_of_77 rfl rfl ?_
        refine q_getr hC fl_X7_145 ly_16 rfl dX7_of_78 rfl ?_
        refine q_iload_n hC dX7_of_81 rfl rfl ?_
        obtain ⟨r108, h⟩ := h
        refine q_iald hC ly_20 dX7_of_82 rfl r108 ?_
        exact q_iret hC hQ dX7_of_83 (hM 20 x1) h
      · have h := h.2.2.2.2.2.1 c
        refine q_tabIn hC dX7_of_19 hx2 c (by decide) (off := 65) (by decide) (t := 84) (by decide) ?_
        refine q_aload_n hC dX7_of_84 rfl rfl ?_
        refine q_getr hC fl_X7_147 ly_16 rfl dX7_of_85 rfl ?_
        refine q_iload_n hC dX7_of_88 rfl rfl ?_
        obtain ⟨r109, h⟩ := h
        refine q_zald hC ly_21 dX7_of_89 rfl r109 ?_
        refine q_if_eq hC dX7_of_90 (t := 97) (by decide) rfl (hM 21 x1) (fun c => ?_) (fun c => ?_)
        · have h := h.1 c
          refine q_iconst hC dX7_of_97 rfl ?_
          exact q_iret hC hQ dX7_of_98 (by decide) h
        · have h := h.2 c
          refine q_iconst hC dX7_of_93 rfl ?_
          refine q_goto hC dX7_of_94 (q := 98) (by decide) ?_
          exact q_iret hC hQ dX7_of_98 (by decide) h
      · have h := h.2.2.2.2.2.2 c
        refine q_tabIn hC dX7_of_19 hx2 c (by decide) (off := 80) (by decide) (t := 99) (by decide) ?_
        refine q_aload_n hC dX7_of_99 rfl rfl ?_
        refine q_getr hC fl_X7_22 ly_0 rfl dX7_of_100 rfl ?_
        refine q_aload_n hC dX7_of_103 rfl rfl ?_
        refine q_getr hC fl_X7_12 ly_0 rfl dX7_of_104 rfl ?_
        refine q_callVv hC (As := [.inr 1]) md_X2_readDone mv_X2_readDone ml_X7_154 ly_51 rfl dX7_of_107 rfl (Nat.le_of_ble_eq_true rfl) rfl rfl h (fun M110 hM111 h => ?_)
        refine q_aload_n hC dX7_of_110 rfl rfl ?_
        refine q_getr hC fl_X7_22 ly_0 rfl dX7_of_111 rfl ?_
        refine q_aload_n hC dX7_of_114 rfl rfl ?_
        refine q_getr hC fl_X7_12 ly_0 rfl dX7_of_115 rfl ?_
        refine q_iload_n hC dX7_of_118 rfl rfl ?_
        refine q_callVi hC (As := [.inr 1, .inl x1]) md_X2_counts mv_X2_counts ml_X7_158 ly_51 rfl dX7_of_119 rfl (Nat.le_of_ble_eq_true rfl) rfl rfl h (fun x114 M112 hM113 r115 h => ?_)
        refine q_if_eq hC dX7_of_122 (t := 129) (by decide) rfl r115 (fun c => ?_) (fun c => ?_)
        · have h := h.1 c
          refine q_iconst hC dX7_of_129 rfl ?_
          exact q_iret hC hQ dX7_of_130 (by decide) h
        · have h := h.2 c
          refine q_iconst hC dX7_of_125 rfl ?_
          refine q_goto hC dX7_of_126 (q := 130) (by decide) ?_
          exact q_iret hC hQ dX7_of_130 (by decide) h
    · exact absurd c (by decide)
  · have ee := ee.symm
    subst ee
    have h := h.2 c
    refine q_if_ne hC dX7_of_5 (t := 10) (by decide) rfl (by decide) (fun c => ?_) (fun c => ?_)
    · exact absurd c (by decide)
    · refine q_iconst hC dX7_of_8 rfl ?_
      exact q_iret hC hQ dX7_of_9 (by decide) h
set_option maxRecDepth 20000 in
theorem e_X7_done {g : qG} {d : Nat} {M : qM} {K : Int → qM → Prop} {x1 : Int} {x2 : Int} (hx1 : qR x1) (hx2 : qR x2) (h : (((0 ≤ x1 ∧ x1 < (M 2 0)) → (((0 ≤ x2 ∧ x2 < (M 8 0)) → (qOk g (d + 3) j_X2_readDone [.inr 51, .inr 1] M (qN fun M109 => (0 ≤ ((x1 * 10) + x2) ∧ ((x1 * 10) + x2) < 100) ∧ (((M109 52 ((x1 * 10) + x2)) = 1000 → (K (-3) M109)) ∧ ((M109 52 ((x1 * 10) + x2)) ≠ 1000 → (K (M109 52 ((x1 * 10) + x2)) M109)))))) ∧ ((x2 < 0 ∨ (M 8 0) ≤ x2) → (K (-1) M)))) ∧ ((x1 < 0 ∨ (M 2 0) ≤ x1) → (K (-1) M)))) : qOk g (d + 4) j_X7_done [.inr 0, .inl x1, .inl x2] M (qI K) := by
  refine qOk.of (by decide) (Nat.le_of_ble_eq_true rfl) (fun C hC hQ => ?_)
  have hC : qCk g C cX7_done RX7 3 (d + 4) := hC
  have hQ : qRt g C (some .int) (qI K) := hQ
  show qW g C 0 [some (.inr 0), some (.inl x1), some (.inl x2)] [] M
  refine qW.rm (fun hM => ?_)
  refine q_aload_n hC dX7_done_0 rfl rfl ?_
  refine q_iload_n hC dX7_done_1 rfl rfl ?_
  refine q_callVi hC (As := [.inl x1]) md_X7_isChild mv_X7_isChild ml_X7_68 ly_0 rfl dX7_done_2 rfl (Nat.le_of_ble_eq_true rfl) rfl rfl (b_X7_isChild hx1) (fun x101 M102 hM103 r104 hk => ?_)
  obtain ⟨ee, hk⟩ := hk
  have ee := ee.symm
  subst ee
  rcases hk with ⟨ee, c⟩ | ⟨ee, c⟩
  · have ee := ee.symm
    subst ee
    have h := h.1 c
    refine q_if_eq hC dX7_done_5 (t := 16) (by decide) rfl (by decide) (fun c => ?_) (fun c => ?_)
    · exact absurd c (by decide)
    · refine q_aload_n hC dX7_done_8 rfl rfl ?_
      refine q_iload_n hC dX7_done_9 rfl rfl ?_
      refine q_callVi hC (As := [.inl x2]) md_X7_isTask mv_X7_isTask ml_X7_90 ly_0 rfl dX7_done_10 rfl (Nat.le_of_ble_eq_true rfl) rfl rfl (b_X7_isTask hx2) (fun x105 M106 hM107 r108 hk => ?_)
      obtain ⟨ee, hk⟩ := hk
      have ee := ee.symm
      subst ee
      rcases hk with ⟨ee, c⟩ | ⟨ee, c⟩
      · have ee := ee.symm
        subst ee
        have h := h.1 c
        refine q_if_ne hC dX7_done_13 (t := 18) (by decide) rfl (by decide) (fun c => ?_) (fun c => ?_)
        · refine q_aload_n hC dX7_done_18 rfl rfl ?_
          refine q_getr hC fl_X7_22 ly_0 rfl dX7_done_19 rfl ?_
          refine q_aload_n hC dX7_done_22 rfl rfl ?_
          refine q_getr hC fl_X7_12 ly_0 rfl dX7_done_23 rfl ?_
          refine q_callVv hC (As := [.inr 1]) md_X2_readDone mv_X2_readDone ml_X7_154 ly_51 rfl dX7_done_26 rfl (Nat.le_of_ble_eq_true rfl) rfl rfl h (fun M109 hM110 h => ?_)
          refine q_aload_n hC dX7_done_29 rfl rfl ?_
          refine q_getr hC fl_X7_22 ly_0 rfl dX7_done_30 rfl ?_
          refine q_iload_n hC dX7_done_33 rfl rfl ?_
          refine q_iload_n hC dX7_done_34 rfl rfl ?_
          obtain ⟨r111, h⟩ := h
          refine q_callVi hC (As := [.inl x1, .inl x2]) md_X2_doneFrom mv_X2_doneFrom ml_X7_162 ly_51 rfl dX7_done_35 rfl (Nat.le_of_ble_eq_true rfl) rfl rfl (b_X2_doneFrom hx1 hx2 r111) (fun x112 M113 hM114 r115 hk => ?_)
          obtain ⟨ee, hk⟩ := hk
          have ee := ee.symm
          subst ee
          have hk := hk.symm
          subst hk
          refine q_callSi hC (As := [.inl (M109 52 ((x1 * 10) + x2))]) md_X7_dayOrNone ms_X7_dayOrNone ml_X7_166 dX7_done_38 rfl (Nat.le_of_ble_eq_true rfl) rfl rfl (b_X7_dayOrNone r115) (fun x116 M117 hM118 r119 hk => ?_)
          obtain ⟨ee, hk⟩ := hk
          have ee := ee.symm
          subst ee
          rcases hk with ⟨ee, c⟩ | ⟨ee, c⟩
          · have ee := ee.symm
            subst ee
            have h := h.1 c
            exact q_iret hC hQ dX7_done_41 (by decide) h
          · have ee := ee.symm
            subst ee
            have h := h.2 c
            exact q_iret hC hQ dX7_done_41 r119 h
        · exact absurd c (by decide)
      · have ee := ee.symm
        subst ee
        have h := h.2 c
        refine q_if_ne hC dX7_done_13 (t := 18) (by decide) rfl (by decide) (fun c => ?_) (fun c => ?_)
        · exact absurd c (by decide)
        · refine q_iconst hC dX7_done_16 rfl ?_
          exact q_iret hC hQ dX7_done_17 (by decide) h
  · have ee := ee.symm
    subst ee
    have h := h.2 c
    refine q_if_eq hC dX7_done_5 (t := 16) (by decide) rfl (by decide) (fun c => ?_) (fun c => ?_)
    · refine q_iconst hC dX7_done_16 rfl ?_
      exact q_iret hC hQ dX7_done_17 (by decide) h
    · exact absurd c (by decide)
set_option maxRecDepth 20000 in
theorem e_X7_held {g : qG} {d : Nat} {M : qM} {K : Int → qM → Prop} {x1 : Int} {x2 : Int} (hx1 : qR x1) (hx2 : qR x2) (h : (((0 ≤ x1 ∧ x1 < (M 2 0)) → (((0 ≤ x2 ∧ x2 < (M 8 3)) → (qOk g (d + 4) j_X2_readDone [.inr 51, .inr 1] M (qN fun M109 => qOk g (d + 4) j_X2_readHeld [.inr 51, .inr 1, .inl x1] M109 (qN fun M111 => (0 ≤ x2 ∧ x2 < 8) ∧ (((M111 53 x2) = 1000 → (K (-3) M111)) ∧ ((M111 53 x2) ≠ 1000 → (K (M111 53 x2) M111))))))) ∧ ((x2 < 0 ∨ (M 8 3) ≤ x2) → (K (-1) M)))) ∧ ((x1 < 0 ∨ (M 2 0) ≤ x1) → (K (-1) M)))) : qOk g (d + 5) j_X7_held [.inr 0, .inl x1, .inl x2] M (qI K) := by
  refine qOk.of (by decide) (Nat.le_of_ble_eq_true rfl) (fun C hC hQ => ?_)
  have hC : qCk g C cX7_held RX7 3 (d + 5) := hC
  have hQ : qRt g C (some .int) (qI K) := hQ
  show qW g C 0 [some (.inr 0), some (.inl x1), some (.inl x2)] [] M
  refine qW.rm (fun hM => ?_)
  refine q_aload_n hC dX7_held_0 rfl rfl ?_
  refine q_iload_n hC dX7_held_1 rfl rfl ?_
  refine q_callVi hC (As := [.inl x1]) md_X7_isChild mv_X7_isChild ml_X7_68 ly_0 rfl dX7_held_2 rfl (Nat.le_of_ble_eq_true rfl) rfl rfl (b_X7_isChild hx1) (fun x101 M102 hM103 r104 hk => ?_)
  obtain ⟨ee, hk⟩ := hk
  have ee := ee.symm
  subst ee
  rcases hk with ⟨ee, c⟩ | ⟨ee, c⟩
  · have ee := ee.symm
    subst ee
    have h := h.1 c
    refine q_if_eq hC dX7_held_5 (t := 16) (by decide) rfl (by decide) (fun c => ?_) (fun c => ?_)
    · exact absurd c (by decide)
    · refine q_aload_n hC dX7_held_8 rfl rfl ?_
      refine q_iload_n hC dX7_held_9 rfl rfl ?_
      refine q_callVi hC (As := [.inl x2]) md_X7_isBadge mv_X7_isBadge ml_X7_111 ly_0 rfl dX7_held_10 rfl (Nat.le_of_ble_eq_true rfl) rfl rfl (b_X7_isBadge hx2) (fun x105 M106 hM107 r108 hk => ?_)
      obtain ⟨ee, hk⟩ := hk
      have ee := ee.symm
      subst ee
      rcases hk with ⟨ee, c⟩ | ⟨ee, c⟩
      · have ee := ee.symm
        subst ee
        have h := h.1 c
        refine q_if_ne hC dX7_held_13 (t := 18) (by decide) rfl (by decide) (fun c => ?_) (fun c => ?_)
        · refine q_aload_n hC dX7_held_18 rfl rfl ?_
          refine q_getr hC fl_X7_22 ly_0 rfl dX7_held_19 rfl ?_
          refine q_aload_n hC dX7_held_22 rfl rfl ?_
          refine q_getr hC fl_X7_12 ly_0 rfl dX7_held_23 rfl ?_
          refine q_callVv hC (As := [.inr 1]) md_X2_readDone mv_X2_readDone ml_X7_154 ly_51 rfl dX7_held_26 rfl (Nat.le_of_ble_eq_true rfl) rfl rfl h (fun M109 hM110 h => ?_)
          refine q_aload_n hC dX7_held_29 rfl rfl ?_
          refine q_getr hC fl_X7_22 ly_0 rfl dX7_held_30 rfl ?_
          refine q_aload_n hC dX7_held_33 rfl rfl ?_
          refine q_getr hC fl_X7_12 ly_0 rfl dX7_held_34 rfl ?_
          refine q_iload_n hC dX7_held_37 rfl rfl ?_
          refine q_callVv hC (As := [.inr 1, .inl x1]) md_X2_readHeld mv_X2_readHeld ml_X7_170 ly_51 rfl dX7_held_38 rfl (Nat.le_of_ble_eq_true rfl) rfl rfl h (fun M111 hM112 h => ?_)
          refine q_aload_n hC dX7_held_41 rfl rfl ?_
          refine q_getr hC fl_X7_22 ly_0 rfl dX7_held_42 rfl ?_
          refine q_getr hC fl_X7_174 ly_51 rfl dX7_held_45 rfl ?_
          refine q_iload_n hC dX7_held_48 rfl rfl ?_
          obtain ⟨r113, h⟩ := h
          refine q_iald hC ly_53 dX7_held_49 rfl r113 ?_
          refine q_callSi hC (As := [.inl (M111 53 x2)]) md_X7_dayOrNone ms_X7_dayOrNone ml_X7_166 dX7_held_50 rfl (Nat.le_of_ble_eq_true rfl) rfl rfl (b_X7_dayOrNone (hM112 53 x2)) (fun x114 M115 hM116 r117 hk => ?_)
          obtain ⟨ee, hk⟩ := hk
          have ee := ee.symm
          subst ee
          rcases hk with ⟨ee, c⟩ | ⟨ee, c⟩
          · have ee := ee.symm
            subst ee
            have h := h.1 c
            exact q_iret hC hQ dX7_held_53 (by decide) h
          · have ee := ee.symm
            subst ee
            have h := h.2 c
            exact q_iret hC hQ dX7_held_53 r117 h
        · exact absurd c (by decide)
      · have ee := ee.symm
        subst ee
        have h := h.2 c
        refine q_if_ne hC dX7_held_13 (t := 18) (by decide) rfl (by decide) (fun c => ?_) (fun c => ?_)
        · exact absurd c (by decide)
        · refine q_iconst hC dX7_held_16 rfl ?_
          exact q_iret hC hQ dX7_held_17 (by decide) h
  · have ee := ee.symm
    subst ee
    have h := h.2 c
    refine q_if_eq hC dX7_held_5 (t := 16) (by decide) rfl (by decide) (fun c => ?_) (fun c => ?_)
    · refine q_iconst hC dX7_held_16 rfl ?_
      exact q_iret hC hQ dX7_held_17 (by decide) h
    · exact absurd c (by decide)
set_option maxRecDepth 20000 in
theorem e_X7_lacks {g : qG} {d : Nat} {M : qM} {K : Int → qM → Prop} {x1 : Int} {x2 : Int} {x3 : Int} (hx1 : qR x1) (hx2 : qR x2) (hx3 : qR x3) (h : (((0 ≤ x1 ∧ x1 < (M 2 0)) → (((0 ≤ x2 ∧ x2 < (M 8 3)) → (qOk g (d + 4) j_X2_readDone [.inr 51, .inr 1] M (qN fun M109 => (((x3 < 0 ∨ 3 < x3) → (K (-1) M109)) ∧ (x3 = 0 → (0 ≤ x2 ∧ x2 < 8) ∧ (qOk g (d + 4) j_X2_bitsNotDone [.inr 51, .inl x1, .inl (M109 11 x2)] M109 (qI fun x114 M112 => K x114 M112))) ∧ (x3 = 1 → (0 ≤ x2 ∧ x2 < 8) ∧ (qOk g (d + 4) j_X2_doneBy [.inr 51, .inl x1, .inl (M109 12 x2), .inl 999] M109 (qI fun x119 M117 => (qR ((M109 13 x2) - x119)) ∧ (K (max 0 ((M109 13 x2) - x119)) M117)))) ∧ (x3 = 2 → (0 ≤ x2 ∧ x2 < 8) ∧ (0 ≤ x1 ∧ x1 < 10) ∧ (qR ((M109 14 x2) - (M109 3 x1))) ∧ (K (max 0 ((M109 14 x2) - (M109 3 x1))) M109)) ∧ (x3 = 3 → (qOk g (d + 4) j_X2_readHeld [.inr 51, .inr 1, .inl x1] M109 (qN fun M125 => (0 ≤ x2 ∧ x2 < 8) ∧ ((M125 15 x2) ≠ (-1) → 0 ≤ (M125 15 x2) ∧ (M125 15 x2) < 8) ∧ (((M125 15 x2) = (-1) → (K 0 M125)) ∧ ((M125 15 x2) ≠ (-1) → (((M125 53 (M125 15 x2)) ≠ 1000 → (K 0 M125)) ∧ ((M125 53 (M125 15 x2)) = 1000 → (K 1 M125)))))))))))) ∧ ((x2 < 0 ∨ (M 8 3) ≤ x2) → (K (-1) M)))) ∧ ((x1 < 0 ∨ (M 2 0) ≤ x1) → (K (-1) M)))) : qOk g (d + 5) j_X7_lacks [.inr 0, .inl x1, .inl x2, .inl x3] M (qI K) := by
  refine qOk.of (by decide) (Nat.le_of_ble_eq_true rfl) (fun C hC hQ => ?_)
  have hC : qCk g C cX7_lacks RX7 5 (d + 5) := hC
  have hQ : qRt g C (some .int) (qI K) := hQ
  show qW g C 0 [some (.inr 0), some (.inl x1), some (.inl x2), some (.inl x3), none] [] M
  refine qW.rm (fun hM => ?_)
  refine q_aload_n hC dX7_lacks_0 rfl rfl ?_
  refine q_iload_n hC dX7_lacks_1 rfl rfl ?_
  refine q_callVi hC (As := [.inl x1]) md_X7_isChild mv_X7_isChild ml_X7_68 ly_0 rfl dX7_lacks_2 rfl (Nat.le_of_ble_eq_true rfl) rfl rfl (b_X7_isChild hx1) (fun x101 M102 hM103 r104 hk => ?_)
  obtain ⟨ee, hk⟩ := hk
  have ee := ee.symm
  subst ee
  rcases hk with ⟨ee, c⟩ | ⟨ee, c⟩
  · have ee := ee.symm
    subst ee
    have h := h.1 c
    refine q_if_eq hC dX7_lacks_5 (t := 16) (by decide) rfl (by decide) (fun c => ?_) (fun c => ?_)
    · exact absurd c (by decide)
    · refine q_aload_n hC dX7_lacks_8 rfl rfl ?_
      refine q_iload_n hC dX7_lacks_9 rfl rfl ?_
      refine q_callVi hC (As := [.inl x2]) md_X7_isBadge mv_X7_isBadge ml_X7_111 ly_0 rfl dX7_lacks_10 rfl (Nat.le_of_ble_eq_true rfl) rfl rfl (b_X7_isBadge hx2) (fun x105 M106 hM107 r108 hk => ?_)
      obtain ⟨ee, hk⟩ := hk
      have ee := ee.symm
      subst ee
      rcases hk with ⟨ee, c⟩ | ⟨ee, c⟩
      · have ee := ee.symm
        subst ee
        have h := h.1 c
        refine q_if_ne hC dX7_lacks_13 (t := 18) (by decide) rfl (by decide) (fun c => ?_) (fun c => ?_)
        · refine q_aload_n hC dX7_lacks_18 rfl rfl ?_
          refine q_getr hC fl_X7_22 ly_0 rfl dX7_lacks_19 rfl ?_
          refine q_aload_n hC dX7_lacks_22 rfl rfl ?_
          refine q_getr hC fl_X7_12 ly_0 rfl dX7_lacks_23 rfl ?_
          refine q_callVv hC (As := [.inr 1]) md_X2_readDone mv_X2_readDone ml_X7_154 ly_51 rfl dX7_lacks_26 rfl (Nat.le_of_ble_eq_true rfl) rfl rfl h (fun M109 hM110 h => ?_)
          refine q_aload_n hC dX7_lacks_29 rfl rfl ?_
          refine q_getr hC fl_X7_12 ly_0 rfl dX7_lacks_30 rfl ?_
          refine q_getr hC fl_X7_93 ly_1 rfl dX7_lacks_33 rfl ?_
          refine q_astore hC dX7_lacks_36 (Nat.le_of_ble_eq_true rfl) (loc' := [some (.inr 0), some (.inl x1), some (.inl x2), some (.inl x3), some (.inr 8)]) rfl rfl ?_
          refine q_iload_n hC dX7_lacks_38 rfl rfl ?_
          rcases (show (x3 < 0 ∨ 3 < x3) ∨ x3 = 0 ∨ x3 = 1 ∨ x3 = 2 ∨ x3 = 3 by omega) with c | c | c | c | c
          · have h := h.1 c
            refine q_tabOut hC dX7_lacks_39 hx3 c (t := 178) (by decide) ?_
            refine q_iconst hC dX7_lacks_178 rfl ?_
            exact q_iret hC hQ dX7_lacks_179 (by decide) h
          · have h := h.2.1 c
            refine q_tabIn hC dX7_lacks_39 hx3 c (by decide) (off := 29) (by decide) (t := 68) (by decide) ?_
            refine q_aload_n hC dX7_lacks_68 rfl rfl ?_
            refine q_getr hC fl_X7_22 ly_0 rfl dX7_lacks_69 rfl ?_
            refine q_iload_n hC dX7_lacks_72 rfl rfl ?_
            refine q_aload hC dX7_lacks_73 rfl rfl ?_
            refine q_getr hC fl_X7_117 ly_8 rfl dX7_lacks_75 rfl ?_
            refine q_iload_n hC dX7_lacks_78 rfl rfl ?_
            obtain ⟨r111, h⟩ := h
            refine q_iald hC ly_11 dX7_lacks_79 rfl r111 ?_
            refine q_callVi hC (As := [.inl x1, .inl (M109 11 x2)]) md_X2_bitsNotDone mv_X2_bitsNotDone ml_X7_177 ly_51 rfl dX7_lacks_80 rfl (Nat.le_of_ble_eq_true rfl) rfl rfl h (fun x114 M112 hM113 r115 h => ?_)
            exact q_iret hC hQ dX7_lacks_83 r115 h
          · have h := h.2.2.1 c
            refine q_tabIn hC dX7_lacks_39 hx3 c (by decide) (off := 45) (by decide) (t := 84) (by decide) ?_
            refine q_iconst hC dX7_lacks_84 rfl ?_
            refine q_aload hC dX7_lacks_85 rfl rfl ?_
            refine q_getr hC fl_X7_123 ly_8 rfl dX7_lacks_87 rfl ?_
            refine q_iload_n hC dX7_lacks_90 rfl rfl ?_
            obtain ⟨r116, h⟩ := h
            refine q_iald hC ly_13 dX7_lacks_91 rfl r116 ?_
            refine q_aload_n hC dX7_lacks_92 rfl rfl ?_
            refine q_getr hC fl_X7_22 ly_0 rfl dX7_lacks_93 rfl ?_
            refine q_iload_n hC dX7_lacks_96 rfl rfl ?_
            refine q_aload hC dX7_lacks_97 rfl rfl ?_
            refine q_getr hC fl_X7_120 ly_8 rfl dX7_lacks_99 rfl ?_
            refine q_iload_n hC dX7_lacks_102 rfl rfl ?_
            refine q_iald hC ly_12 dX7_lacks_103 rfl r116 ?_
            refine q_sipush hC dX7_lacks_104 (by decide) rfl ?_
            refine q_callVi hC (As := [.inl x1, .inl (M109 12 x2), .inl 999]) md_X2_doneBy mv_X2_doneBy ml_X7_180 ly_51 rfl dX7_lacks_107 rfl (Nat.le_of_ble_eq_true rfl) rfl rfl h (fun x119 M117 hM118 r120 h => ?_)
            refine q_isub hC dX7_lacks_110 rfl ?_
            obtain ⟨r121, h⟩ := h
            refine q_mmax hC ml_X7_184 mm_max dX7_lacks_111 (Nat.le_of_ble_eq_true rfl) rfl rfl (by decide) r121 ?_
            exact q_iret hC hQ dX7_lacks_114 (q_rmax (by decide) r121) h
          · have h := h.2.2.2.1 c
            refine q_tabIn hC dX7_lacks_39 hx3 c (by decide) (off := 76) (by decide) (t := 115) (by decide) ?_
            refine q_iconst hC dX7_lacks_115 rfl ?_
            refine q_aload hC dX7_lacks_116 rfl rfl ?_
            refine q_getr hC fl_X7_126 ly_8 rfl dX7_lacks_118 rfl ?_
            refine q_iload_n hC dX7_lacks_121 rfl rfl ?_
            obtain ⟨r122, h⟩ := h
            refine q_iald hC ly_14 dX7_lacks_122 rfl r122 ?_
            refine q_aload_n hC dX7_lacks_123 rfl rfl ?_
            refine q_getr hC fl_X7_12 ly_0 rfl dX7_lacks_124 rfl ?_
            refine q_getr hC fl_X7_52 ly_1 rfl dX7_lacks_127 rfl ?_
            refine q_getr hC fl_X7_61 ly_2 rfl dX7_lacks_130 rfl ?_
            refine q_iload_n hC dX7_lacks_133 rfl rfl ?_
            obtain ⟨r123, h⟩ := h
            refine q_iald hC ly_3 dX7_lacks_134 rfl r123 ?_
            refine q_isub hC dX7_lacks_135 rfl ?_
            obtain ⟨r124, h⟩ := h
            refine q_mmax hC ml_X7_184 mm_max dX7_lacks_136 (Nat.le_of_ble_eq_true rfl) rfl rfl (by decide) r124 ?_
            exact q_iret hC hQ dX7_lacks_139 (q_rmax (by decide) r124) h
          · have h := h.2.2.2.2 c
            refine q_tabIn hC dX7_lacks_39 hx3 c (by decide) (off := 101) (by decide) (t := 140) (by decide) ?_
            refine q_aload_n hC dX7_lacks_140 rfl rfl ?_
            refine q_getr hC fl_X7_22 ly_0 rfl dX7_lacks_141 rfl ?_
            refine q_aload_n hC dX7_lacks_144 rfl rfl ?_
            refine q_getr hC fl_X7_12 ly_0 rfl dX7_lacks_145 rfl ?_
            refine q_iload_n hC dX7_lacks_148 rfl rfl ?_
            refine q_callVv hC (As := [.inr 1, .inl x1]) md_X2_readHeld mv_X2_readHeld ml_X7_170 ly_51 rfl dX7_lacks_149 rfl (Nat.le_of_ble_eq_true rfl) rfl rfl h (fun M125 hM126 h => ?_)
            refine q_aload_n hC dX7_lacks_152 rfl rfl ?_
            refine q_getr hC fl_X7_22 ly_0 rfl dX7_lacks_153 rfl ?_
            refine q_aload hC dX7_lacks_156 rfl rfl ?_
            refine q_getr hC fl_X7_127 ly_8 rfl dX7_lacks_158 rfl ?_
            refine q_iload_n hC dX7_lacks_161 rfl rfl ?_
            obtain ⟨r127, h⟩ := h
            refine q_iald hC ly_15 dX7_lacks_162 rfl r127 ?_
            obtain ⟨r128, h⟩ := h
            refine q_callVi hC (As := [.inl (M125 15 x2)]) md_X2_otherFrom mv_X2_otherFrom ml_X7_189 ly_51 rfl dX7_lacks_163 rfl (Nat.le_of_ble_eq_true rfl) rfl rfl (b_X2_otherFrom (hM126 15 x2) r128) (fun x129 M130 hM131 r132 hk => ?_)
            obtain ⟨ee, hk⟩ := hk
            have ee := ee.symm
            subst ee
            rcases hk with ⟨ee, c⟩ | ⟨ee, c⟩
            · have ee := ee.symm
              subst ee
              have h := h.1 c
              refine q_sipush hC dX7_lacks_166 (by decide) rfl ?_
              refine q_icmp_ne hC dX7_lacks_169 (t := 176) (by decide) rfl (by decide) (by decide) (fun c => ?_) (fun c => ?_)
              · refine q_iconst hC dX7_lacks_176 rfl ?_
                exact q_iret hC hQ dX7_lacks_177 (by decide) h
              · exact absurd c (by decide)
            · have ee := ee.symm
              subst ee
              have h := h.2 c
              refine q_sipush hC dX7_lacks_166 (by decide) rfl ?_
              refine q_icmp_ne hC dX7_lacks_169 (t := 176) (by decide) rfl r132 (by decide) (fun c => ?_) (fun c => ?_)
              · have h := h.1 c
                refine q_iconst hC dX7_lacks_176 rfl ?_
                exact q_iret hC hQ dX7_lacks_177 (by decide) h
              · have h := h.2 c
                refine q_iconst hC dX7_lacks_172 rfl ?_
                refine q_goto hC dX7_lacks_173 (q := 177) (by decide) ?_
                exact q_iret hC hQ dX7_lacks_177 (by decide) h
        · exact absurd c (by decide)
      · have ee := ee.symm
        subst ee
        have h := h.2 c
        refine q_if_ne hC dX7_lacks_13 (t := 18) (by decide) rfl (by decide) (fun c => ?_) (fun c => ?_)
        · exact absurd c (by decide)
        · refine q_iconst hC dX7_lacks_16 rfl ?_
          exact q_iret hC hQ dX7_lacks_17 (by decide) h
  · have ee := ee.symm
    subst ee
    have h := h.2 c
    refine q_if_eq hC dX7_lacks_5 (t := 16) (by decide) rfl (by decide) (fun c => ?_) (fun c => ?_)
    · refine q_iconst hC dX7_lacks_16 rfl ?_
      exact q_iret hC hQ dX7_lacks_17 (by decide) h
    · exact absurd c (by decide)
set_option maxRecDepth 20000 in
theorem e_X7_badges {g : qG} {d : Nat} {M : qM} {K : Int → qM → Prop} {x1 : Int} {x2 : Int} (hx1 : qR x1) (hx2 : qR x2) (h : (((0 ≤ x1 ∧ x1 < (M 2 0)) → (((0 ≤ x2 ∧ x2 ≤ 999) → (qOk g (d + 4) j_X2_readDone [.inr 51, .inr 1] M (qN fun M109 => qOk g (d + 4) j_X2_readHeld [.inr 51, .inr 1, .inl x1] M109 (qN fun M111 => qOk g (d + 4) j_X2_countHeld [.inr 51, .inr 1, .inl x2] M111 (qI fun x115 M113 => K x115 M113))))) ∧ ((x2 < 0 ∨ 999 < x2) → (K (-1) M)))) ∧ ((x1 < 0 ∨ (M 2 0) ≤ x1) → (K (-1) M)))) : qOk g (d + 5) j_X7_badges [.inr 0, .inl x1, .inl x2] M (qI K) := by
  refine qOk.of (by decide) (Nat.le_of_ble_eq_true rfl) (fun C hC hQ => ?_)
  have hC : qCk g C cX7_badges RX7 3 (d + 5) := hC
  have hQ : qRt g C (some .int) (qI K) := hQ
  show qW g C 0 [some (.inr 0), some (.inl x1), some (.inl x2)] [] M
  refine qW.rm (fun hM => ?_)
  refine q_aload_n hC dX7_badges_0 rfl rfl ?_
  refine q_iload_n hC dX7_badges_1 rfl rfl ?_
  refine q_callVi hC (As := [.inl x1]) md_X7_isChild mv_X7_isChild ml_X7_68 ly_0 rfl dX7_badges_2 rfl (Nat.le_of_ble_eq_true rfl) rfl rfl (b_X7_isChild hx1) (fun x101 M102 hM103 r104 hk => ?_)
  obtain ⟨ee, hk⟩ := hk
  have ee := ee.symm
  subst ee
  rcases hk with ⟨ee, c⟩ | ⟨ee, c⟩
  · have ee := ee.symm
    subst ee
    have h := h.1 c
    refine q_if_eq hC dX7_badges_5 (t := 15) (by decide) rfl (by decide) (fun c => ?_) (fun c => ?_)
    · exact absurd c (by decide)
    · refine q_iload_n hC dX7_badges_8 rfl rfl ?_
      refine q_callSi hC (As := [.inl x2]) md_X7_isDay ms_X7_isDay ml_X7_81 dX7_badges_9 rfl (Nat.le_of_ble_eq_true rfl) rfl rfl (b_X7_isDay hx2) (fun x105 M106 hM107 r108 hk => ?_)
      obtain ⟨ee, hk⟩ := hk
      have ee := ee.symm
      subst ee
      rcases hk with ⟨ee, c⟩ | ⟨ee, c⟩
      · have ee := ee.symm
        subst ee
        have h := h.1 c
        refine q_if_ne hC dX7_badges_12 (t := 17) (by decide) rfl (by decide) (fun c => ?_) (fun c => ?_)
        · refine q_aload_n hC dX7_badges_17 rfl rfl ?_
          refine q_getr hC fl_X7_22 ly_0 rfl dX7_badges_18 rfl ?_
          refine q_aload_n hC dX7_badges_21 rfl rfl ?_
          refine q_getr hC fl_X7_12 ly_0 rfl dX7_badges_22 rfl ?_
          refine q_callVv hC (As := [.inr 1]) md_X2_readDone mv_X2_readDone ml_X7_154 ly_51 rfl dX7_badges_25 rfl (Nat.le_of_ble_eq_true rfl) rfl rfl h (fun M109 hM110 h => ?_)
          refine q_aload_n hC dX7_badges_28 rfl rfl ?_
          refine q_getr hC fl_X7_22 ly_0 rfl dX7_badges_29 rfl ?_
          refine q_aload_n hC dX7_badges_32 rfl rfl ?_
          refine q_getr hC fl_X7_12 ly_0 rfl dX7_badges_33 rfl ?_
          refine q_iload_n hC dX7_badges_36 rfl rfl ?_
          refine q_callVv hC (As := [.inr 1, .inl x1]) md_X2_readHeld mv_X2_readHeld ml_X7_170 ly_51 rfl dX7_badges_37 rfl (Nat.le_of_ble_eq_true rfl) rfl rfl h (fun M111 hM112 h => ?_)
          refine q_aload_n hC dX7_badges_40 rfl rfl ?_
          refine q_getr hC fl_X7_22 ly_0 rfl dX7_badges_41 rfl ?_
          refine q_aload_n hC dX7_badges_44 rfl rfl ?_
          refine q_getr hC fl_X7_12 ly_0 rfl dX7_badges_45 rfl ?_
          refine q_iload_n hC dX7_badges_48 rfl rfl ?_
          refine q_callVi hC (As := [.inr 1, .inl x2]) md_X2_countHeld mv_X2_countHeld ml_X7_192 ly_51 rfl dX7_badges_49 rfl (Nat.le_of_ble_eq_true rfl) rfl rfl h (fun x115 M113 hM114 r116 h => ?_)
          exact q_iret hC hQ dX7_badges_52 r116 h
        · exact absurd c (by decide)
      · have ee := ee.symm
        subst ee
        have h := h.2 c
        refine q_if_ne hC dX7_badges_12 (t := 17) (by decide) rfl (by decide) (fun c => ?_) (fun c => ?_)
        · exact absurd c (by decide)
        · refine q_iconst hC dX7_badges_15 rfl ?_
          exact q_iret hC hQ dX7_badges_16 (by decide) h
  · have ee := ee.symm
    subst ee
    have h := h.2 c
    refine q_if_eq hC dX7_badges_5 (t := 15) (by decide) rfl (by decide) (fun c => ?_) (fun c => ?_)
    · refine q_iconst hC dX7_badges_15 rfl ?_
      exact q_iret hC hQ dX7_badges_16 (by decide) h
    · exact absurd c (by decide)
set_option maxRecDepth 20000 in
theorem e_X7_site {g : qG} {d : Nat} {M : qM} {K : Int → qM → Prop} {x1 : Int} {x2 : Int} (hx1 : qR x1) (hx2 : qR x2) (h : ((x1 < 1 → (K (-1) M)) ∧ (1 ≤ x1 → ((x1 ≤ 10 → (((M 22 0) < 3 → (0 ≤ (M 22 0) ∧ (M 22 0) < 3) ∧ (x2 = 0 ∨ x2 = 1) ∧ (qR ((M 22 0) + 1)) ∧ (K (M 22 0) (qU (qU (qU (qU M 23 (M 22 0) x1) 24 (M 22 0) x2) 22 0 ((M 22 0) + 1)) 0 5 1))) ∧ (3 ≤ (M 22 0) → (K (-2) M)))) ∧ (10 < x1 → (K (-1) M)))))) : qOk g d j_X7_site [.inr 0, .inl x1, .inl x2] M (qI K) := by
  refine qOk.of (by decide) (Nat.le_of_ble_eq_true rfl) (fun C hC hQ => ?_)
  have hC : qCk g C cX7_site RX7 5 d := hC
  have hQ : qRt g C (some .int) (qI K) := hQ
  show qW g C 0 [some (.inr 0), some (.inl x1), some (.inl x2), none, none] [] M
  refine qW.rm (fun hM => ?_)
  refine q_iload_n hC dX7_site_0 rfl rfl ?_
  refine q_iconst hC dX7_site_1 rfl ?_
  refine q_icmp_lt hC dX7_site_2 (t := 11) (by decide) rfl hx1 (by decide) (fun c => ?_) (fun c => ?_)
  · have h := h.1 c
    refine q_iconst hC dX7_site_11 rfl ?_
    exact q_iret hC hQ dX7_site_12 (by decide) h
  · have h := h.2 c
    refine q_iload_n hC dX7_site_5 rfl rfl ?_
    refine q_bipush hC dX7_site_6 (by decide) rfl ?_
    refine q_icmp_le hC dX7_site_8 (t := 13) (by decide) rfl hx1 (by decide) (fun c => ?_) (fun c => ?_)
    · have h := h.1 c
      refine q_aload_n hC dX7_site_13 rfl rfl ?_
      refine q_getr hC fl_X7_12 ly_0 rfl dX7_site_14 rfl ?_
      refine q_getr hC fl_X7_196 ly_1 rfl dX7_site_17 rfl ?_
      refine q_astore_n hC dX7_site_20 (Nat.le_of_ble_eq_true rfl) (loc' := [some (.inr 0), some (.inl x1), some (.inl x2), some (.inr 22), none]) rfl rfl ?_
      refine q_aload_n hC dX7_site_21 rfl rfl ?_
      refine q_geti hC fl_X7_200 ly_22 rfl (z := 0) rfl dX7_site_22 rfl ?_
      refine q_iconst hC dX7_site_25 rfl ?_
      refine q_icmp_lt hC dX7_site_26 (t := 32) (by decide) rfl (hM 22 0) (by decide) (fun c => ?_) (fun c => ?_)
      · have h := h.1 c
        refine q_aload_n hC dX7_site_32 rfl rfl ?_
        refine q_geti hC fl_X7_200 ly_22 rfl (z := 0) rfl dX7_site_33 rfl ?_
        refine q_istore hC dX7_site_36 (Nat.le_of_ble_eq_true rfl) (loc' := [some (.inr 0), some (.inl x1), some (.inl x2), some (.inr 22), some (.inl (M 22 0))]) rfl rfl ?_
        refine q_aload_n hC dX7_site_38 rfl rfl ?_
        refine q_getr hC fl_X7_205 ly_22 rfl dX7_site_39 rfl ?_
        refine q_iload hC dX7_site_42 rfl rfl ?_
        refine q_iload_n hC dX7_site_44 rfl rfl ?_
        obtain ⟨r101, h⟩ := h
        have hM102 : qIn (qU M 23 (M 22 0) x1) := (qU_in hM hx1)
        refine q_iast hC ly_23 dX7_site_45 rfl r101 hx1 ?_
        refine q_aload_n hC dX7_site_46 rfl rfl ?_
        refine q_getr hC fl_X7_208 ly_22 rfl dX7_site_47 rfl ?_
        refine q_iload hC dX7_site_50 rfl rfl ?_
        refine q_iload_n hC dX7_site_52 rfl rfl ?_
        obtain ⟨r103, h⟩ := h
        have hM104 : qIn (qU (qU M 23 (M 22 0) x1) 24 (M 22 0) x2) := (qU_in hM102 (q_rz r103))
        refine q_zast hC ly_24 dX7_site_53 rfl r101 r103 ?_
        refine q_aload_n hC dX7_site_54 rfl rfl ?_
        refine q_iload hC dX7_site_55 rfl rfl ?_
        refine q_iconst hC dX7_site_57 rfl ?_
        refine q_iadd hC dX7_site_58 rfl ?_
        obtain ⟨r105, h⟩ := h
        have hM106 : qIn (qU (qU (qU M 23 (M 22 0) x1) 24 (M 22 0) x2) 22 0 ((M 22 0) + 1)) := (qU_in hM104 r105)
        refine q_puti hC fp_X7_200 ly_22 rfl (z := 0) rfl dX7_site_59 rfl r105 ?_
        refine q_aload_n hC dX7_site_62 rfl rfl ?_
        refine q_iconst hC dX7_site_63 rfl ?_
        have hM107 : qIn (qU (qU (qU (qU M 23 (M 22 0) x1) 24 (M 22 0) x2) 22 0 ((M 22 0) + 1)) 0 5 1) := (qU_in hM106 (q_rz (by decide)))
        refine q_putz hC fp_X7_37 ly_0 rfl (z := 5) rfl dX7_site_64 rfl (by decide) ?_
        refine q_iload hC dX7_site_67 rfl rfl ?_
        exact q_iret hC hQ dX7_site_69 (hM 22 0) h
      · have h := h.2 c
        refine q_bipush hC dX7_site_29 (by decide) rfl ?_
        exact q_iret hC hQ dX7_site_31 (by decide) h
    · have h := h.2 c
      refine q_iconst hC dX7_site_11 rfl ?_
      exact q_iret hC hQ dX7_site_12 (by decide) h
set_option maxRecDepth 20000 in
theorem e_X7_wish {g : qG} {d : Nat} {M : qM} {K : Int → qM → Prop} {x1 : Int} {x2 : Int} {x3 : Int} {x4 : Int} (hx1 : qR x1) (hx2 : qR x2) (hx3 : qR x3) (hx4 : qR x4) (h : (((0 ≤ x1 ∧ x1 < 4) → (((0 ≤ x2 ∧ x2 < 5) → (((0 ≤ x3 ∧ x3 < 3) → (((0 ≤ x4 ∧ x4 ≤ 9) → (0 ≤ (((x1 * 15) + (x2 * 3)) + x3) ∧ (((x1 * 15) + (x2 * 3)) + x3) < 60) ∧ (K ((qU M 0 5 1) 25 (((x1 * 15) + (x2 * 3)) + x3)) (qU (qU M 0 5 1) 25 (((x1 * 15) + (x2 * 3)) + x3) x4))) ∧ ((x4 < 0 ∨ 9 < x4) → (K (-1) M)))) ∧ ((x3 < 0 ∨ 3 ≤ x3) → (K (-1) M)))) ∧ ((x2 < 0 ∨ 5 ≤ x2) → (K (-1) M)))) ∧ ((x1 < 0 ∨ 4 ≤ x1) → (K (-1) M)))) : qOk g (d + 2) j_X7_wish [.inr 0, .inl x1, .inl x2, .inl x3, .inl x4] M (qI K) := by
  refine qOk.of (by decide) (Nat.le_of_ble_eq_true rfl) (fun C hC hQ => ?_)
  have hC : qCk g C cX7_wish RX7 5 (d + 2) := hC
  have hQ : qRt g C (some .int) (qI K) := hQ
  show qW g C 0 [some (.inr 0), some (.inl x1), some (.inl x2), some (.inl x3), some (.inl x4)] [] M
  refine qW.rm (fun hM => ?_)
  refine q_iload_n hC dX7_wish_0 rfl rfl ?_
  refine q_iconst hC dX7_wish_1 rfl ?_
  refine q_callSi hC (As := [.inl x1, .inl 4]) md_X7_isBelow ms_X7_isBelow ml_X7_48 dX7_wish_2 rfl (Nat.le_of_ble_eq_true rfl) rfl rfl (b_X7_isBelow hx1 (by decide)) (fun x101 M102 hM103 r104 hk => ?_)
  obtain ⟨ee, hk⟩ := hk
  have ee := ee.symm
  subst ee
  rcases hk with ⟨ee, c⟩ | ⟨ee, c⟩
  · have ee := ee.symm
    subst ee
    have h := h.1 c
    refine q_if_eq hC dX7_wish_5 (t := 16) (by decide) rfl (by decide) (fun c => ?_) (fun c => ?_)
    · exact absurd c (by decide)
    · refine q_iload_n hC dX7_wish_8 rfl rfl ?_
      refine q_iconst hC dX7_wish_9 rfl ?_
      refine q_callSi hC (As := [.inl x2, .inl 5]) md_X7_isBelow ms_X7_isBelow ml_X7_48 dX7_wish_10 rfl (Nat.le_of_ble_eq_true rfl) rfl rfl (b_X7_isBelow hx2 (by decide)) (fun x105 M106 hM107 r108 hk => ?_)
      obtain ⟨ee, hk⟩ := hk
      have ee := ee.symm
      subst ee
      rcases hk with ⟨ee, c⟩ | ⟨ee, c⟩
      · have ee := ee.symm
        subst ee
        have h := h.1 c
        refine q_if_ne hC dX7_wish_13 (t := 18) (by decide) rfl (by decide) (fun c => ?_) (fun c => ?_)
        · refine q_iload_n hC dX7_wish_18 rfl rfl ?_
          refine q_iconst hC dX7_wish_19 rfl ?_
          refine q_callSi hC (As := [.inl x3, .inl 3]) md_X7_isBelow ms_X7_isBelow ml_X7_48 dX7_wish_20 rfl (Nat.le_of_ble_eq_true rfl) rfl rfl (b_X7_isBelow hx3 (by decide)) (fun x109 M110 hM111 r112 hk => ?_)
          obtain ⟨ee, hk⟩ := hk
          have ee := ee.symm
          subst ee
          rcases hk with ⟨ee, c⟩ | ⟨ee, c⟩
          · have ee := ee.symm
            subst ee
            have h := h.1 c
            refine q_if_eq hC dX7_wish_23 (t := 36) (by decide) rfl (by decide) (fun c => ?_) (fun c => ?_)
            · exact absurd c (by decide)
            · refine q_iload hC dX7_wish_26 rfl rfl ?_
              refine q_bipush hC dX7_wish_28 (by decide) rfl ?_
              refine q_callSi hC (As := [.inl x4, .inl 9]) md_X7_isUpTo ms_X7_isUpTo ml_X7_108 dX7_wish_30 rfl (Nat.le_of_ble_eq_true rfl) rfl rfl (b_X7_isUpTo hx4 (by decide)) (fun x113 M114 hM115 r116 hk => ?_)
              obtain ⟨ee, hk⟩ := hk
              have ee := ee.symm
              subst ee
              rcases hk with ⟨ee, c⟩ | ⟨ee, c⟩
              · have ee := ee.symm
                subst ee
                have h := h.1 c
                refine q_if_ne hC dX7_wish_33 (t := 38) (by decide) rfl (by decide) (fun c => ?_) (fun c => ?_)
                · refine q_aload_n hC dX7_wish_38 rfl rfl ?_
                  refine q_iconst hC dX7_wish_39 rfl ?_
                  have hM117 : qIn (qU M 0 5 1) := (qU_in hM (q_rz (by decide)))
                  refine q_putz hC fp_X7_37 ly_0 rfl (z := 5) rfl dX7_wish_40 rfl (by decide) ?_
                  refine q_aload_n hC dX7_wish_43 rfl rfl ?_
                  refine q_getr hC fl_X7_12 ly_0 rfl dX7_wish_44 rfl ?_
                  refine q_getr hC fl_X7_196 ly_1 rfl dX7_wish_47 rfl ?_
                  refine q_getr hC fl_X7_211 ly_22 rfl dX7_wish_50 rfl ?_
                  refine q_iload_n hC dX7_wish_53 rfl rfl ?_
                  refine q_bipush hC dX7_wish_54 (by decide) rfl ?_
                  refine q_imul hC dX7_wish_56 rfl ?_
                  refine q_iload_n hC dX7_wish_57 rfl rfl ?_
                  refine q_iconst hC dX7_wish_58 rfl ?_
                  refine q_imul hC dX7_wish_59 rfl ?_
                  refine q_iadd hC dX7_wish_60 rfl ?_
                  refine q_iload_n hC dX7_wish_61 rfl rfl ?_
                  refine q_iadd hC dX7_wish_62 rfl ?_
                  refine q_iload hC dX7_wish_63 rfl rfl ?_
                  obtain ⟨r118, h⟩ := h
                  refine q_callSi hC (As := [.inr 25, .inl (((x1 * 15) + (x2 * 3)) + x3), .inl x4]) md_X7_replace ms_X7_replace ml_X7_71 dX7_wish_65 rfl (Nat.le_of_ble_eq_true rfl) rfl rfl (b_X7_replace ly_25 r118 hx4) (fun x120 M121 hM119 r122 hk => ?_)
                  obtain ⟨ee, hk⟩ := hk
                  have ee := ee.symm
                  subst ee
                  have hk := hk.symm
                  subst hk
                  exact q_iret hC hQ dX7_wish_68 r122 h
                · exact absurd c (by decide)
              · have ee := ee.symm
                subst ee
                have h := h.2 c
                refine q_if_ne hC dX7_wish_33 (t := 38) (by decide) rfl (by decide) (fun c => ?_) (fun c => ?_)
                · exact absurd c (by decide)
                · refine q_iconst hC dX7_wish_36 rfl ?_
                  exact q_iret hC hQ dX7_wish_37 (by decide) h
          · have ee := ee.symm
            subst ee
            have h := h.2 c
            refine q_if_eq hC dX7_wish_23 (t := 36) (by decide) rfl (by decide) (fun c => ?_) (fun c => ?_)
            · refine q_iconst hC dX7_wish_36 rfl ?_
              exact q_iret hC hQ dX7_wish_37 (by decide) h
            · exact absurd c (by decide)
        · exact absurd c (by decide)
      · have ee := ee.symm
        subst ee
        have h := h.2 c
        refine q_if_ne hC dX7_wish_13 (t := 18) (by decide) rfl (by decide) (fun c => ?_) (fun c => ?_)
        · exact absurd c (by decide)
        · refine q_iconst hC dX7_wish_16 rfl ?_
          exact q_iret hC hQ dX7_wish_17 (by decide) h
  · have ee := ee.symm
    subst ee
    have h := h.2 c
    refine q_if_eq hC dX7_wish_5 (t := 16) (by decide) rfl (by decide) (fun c => ?_) (fun c => ?_)
    · refine q_iconst hC dX7_wish_16 rfl ?_
      exact q_iret hC hQ dX7_wish_17 (by decide) h
    · exact absurd c (by decide)
set_option maxRecDepth 20000 in
theorem e_X7_free {g : qG} {d : Nat} {M : qM} {K : Int → qM → Prop} {x1 : Int} {x2 : Int} (hx1 : qR x1) (hx2 : qR x2) (h : (((0 ≤ x1 ∧ x1 < (M 2 3)) → (((0 ≤ x2 ∧ x2 ≤ 31) → (0 ≤ x1 ∧ x1 < 5) ∧ (K ((qU M 0 5 1) 7 x1) (qU (qU M 0 5 1) 7 x1 x2))) ∧ ((x2 < 0 ∨ 31 < x2) → (K (-1) M)))) ∧ ((x1 < 0 ∨ (M 2 3) ≤ x1) → (K (-1) M)))) : qOk g (d + 2) j_X7_free [.inr 0, .inl x1, .inl x2] M (qI K) := by
  refine qOk.of (by decide) (Nat.le_of_ble_eq_true rfl) (fun C hC hQ => ?_)
  have hC : qCk g C cX7_free RX7 3 (d + 2) := hC
  have hQ : qRt g C (some .int) (qI K) := hQ
  show qW g C 0 [some (.inr 0), some (.inl x1), some (.inl x2)] [] M
  refine qW.rm (fun hM => ?_)
  refine q_aload_n hC dX7_free_0 rfl rfl ?_
  refine q_iload_n hC dX7_free_1 rfl rfl ?_
  refine q_callVi hC (As := [.inl x1]) md_X7_isLeader mv_X7_isLeader ml_X7_78 ly_0 rfl dX7_free_2 rfl (Nat.le_of_ble_eq_true rfl) rfl rfl (b_X7_isLeader hx1) (fun x101 M102 hM103 r104 hk => ?_)
  obtain ⟨ee, hk⟩ := hk
  have ee := ee.symm
  subst ee
  rcases hk with ⟨ee, c⟩ | ⟨ee, c⟩
  · have ee := ee.symm
    subst ee
    have h := h.1 c
    refine q_if_eq hC dX7_free_5 (t := 17) (by decide) rfl (by decide) (fun c => ?_) (fun c => ?_)
    · exact absurd c (by decide)
    · refine q_iload_n hC dX7_free_8 rfl rfl ?_
      refine q_bipush hC dX7_free_9 (by decide) rfl ?_
      refine q_callSi hC (As := [.inl x2, .inl 31]) md_X7_isUpTo ms_X7_isUpTo ml_X7_108 dX7_free_11 rfl (Nat.le_of_ble_eq_true rfl) rfl rfl (b_X7_isUpTo hx2 (by decide)) (fun x105 M106 hM107 r108 hk => ?_)
      obtain ⟨ee, hk⟩ := hk
      have ee := ee.symm
      subst ee
      rcases hk with ⟨ee, c⟩ | ⟨ee, c⟩
      · have ee := ee.symm
        subst ee
        have h := h.1 c
        refine q_if_ne hC dX7_free_14 (t := 19) (by decide) rfl (by decide) (fun c => ?_) (fun c => ?_)
        · refine q_aload_n hC dX7_free_19 rfl rfl ?_
          refine q_iconst hC dX7_free_20 rfl ?_
          have hM109 : qIn (qU M 0 5 1) := (qU_in hM (q_rz (by decide)))
          refine q_putz hC fp_X7_37 ly_0 rfl (z := 5) rfl dX7_free_21 rfl (by decide) ?_
          refine q_aload_n hC dX7_free_24 rfl rfl ?_
          refine q_getr hC fl_X7_12 ly_0 rfl dX7_free_25 rfl ?_
          refine q_getr hC fl_X7_52 ly_1 rfl dX7_free_28 rfl ?_
          refine q_getr hC fl_X7_214 ly_2 rfl dX7_free_31 rfl ?_
          refine q_iload_n hC dX7_free_34 rfl rfl ?_
          refine q_iload_n hC dX7_free_35 rfl rfl ?_
          obtain ⟨r110, h⟩ := h
          refine q_callSi hC (As := [.inr 7, .inl x1, .inl x2]) md_X7_replace ms_X7_replace ml_X7_71 dX7_free_36 rfl (Nat.le_of_ble_eq_true rfl) rfl rfl (b_X7_replace ly_7 r110 hx2) (fun x112 M113 hM111 r114 hk => ?_)
          obtain ⟨ee, hk⟩ := hk
          have ee := ee.symm
          subst ee
          have hk := hk.symm
          subst hk
          exact q_iret hC hQ dX7_free_39 r114 h
        · exact absurd c (by decide)
      · have ee := ee.symm
        subst ee
        have h := h.2 c
        refine q_if_ne hC dX7_free_14 (t := 19) (by decide) rfl (by decide) (fun c => ?_) (fun c => ?_)
        · exact absurd c (by decide)
        · refine q_iconst hC dX7_free_17 rfl ?_
          exact q_iret hC hQ dX7_free_18 (by decide) h
  · have ee := ee.symm
    subst ee
    have h := h.2 c
    refine q_if_eq hC dX7_free_5 (t := 17) (by decide) rfl (by decide) (fun c => ?_) (fun c => ?_)
    · refine q_iconst hC dX7_free_17 rfl ?_
      exact q_iret hC hQ dX7_free_18 (by decide) h
    · exact absurd c (by decide)
set_option maxRecDepth 20000 in
theorem e_X7_ratio {g : qG} {d : Nat} {M : qM} {K : Int → qM → Prop} {x1 : Int} (hx1 : qR x1) (h : ((x1 < 1 → (K (-1) M)) ∧ (1 ≤ x1 → ((x1 ≤ 10 → (K (M 0 6) (qU (qU M 0 6 x1) 0 5 1))) ∧ (10 < x1 → (K (-1) M)))))) : qOk g d j_X7_ratio [.inr 0, .inl x1] M (qI K) := by
  refine qOk.of (by decide) (Nat.le_of_ble_eq_true rfl) (fun C hC hQ => ?_)
  have hC : qCk g C cX7_ratio RX7 3 d := hC
  have hQ : qRt g C (some .int) (qI K) := hQ
  show qW g C 0 [some (.inr 0), some (.inl x1), none] [] M
  refine qW.rm (fun hM => ?_)
  refine q_iload_n hC dX7_ratio_0 rfl rfl ?_
  refine q_iconst hC dX7_ratio_1 rfl ?_
  refine q_icmp_lt hC dX7_ratio_2 (t := 11) (by decide) rfl hx1 (by decide) (fun c => ?_) (fun c => ?_)
  · have h := h.1 c
    refine q_iconst hC dX7_ratio_11 rfl ?_
    exact q_iret hC hQ dX7_ratio_12 (by decide) h
  · have h := h.2 c
    refine q_iload_n hC dX7_ratio_5 rfl rfl ?_
    refine q_bipush hC dX7_ratio_6 (by decide) rfl ?_
    refine q_icmp_le hC dX7_ratio_8 (t := 13) (by decide) rfl hx1 (by decide) (fun c => ?_) (fun c => ?_)
    · have h := h.1 c
      refine q_aload_n hC dX7_ratio_13 rfl rfl ?_
      refine q_geti hC fl_X7_40 ly_0 rfl (z := 6) rfl dX7_ratio_14 rfl ?_
      refine q_istore_n hC dX7_ratio_17 (Nat.le_of_ble_eq_true rfl) (loc' := [some (.inr 0), some (.inl x1), some (.inl (M 0 6))]) rfl rfl ?_
      refine q_aload_n hC dX7_ratio_18 rfl rfl ?_
      refine q_iload_n hC dX7_ratio_19 rfl rfl ?_
      have hM101 : qIn (qU M 0 6 x1) := (qU_in hM hx1)
      refine q_puti hC fp_X7_40 ly_0 rfl (z := 6) rfl dX7_ratio_20 rfl hx1 ?_
      refine q_aload_n hC dX7_ratio_23 rfl rfl ?_
      refine q_iconst hC dX7_ratio_24 rfl ?_
      have hM102 : qIn (qU (qU M 0 6 x1) 0 5 1) := (qU_in hM101 (q_rz (by decide)))
      refine q_putz hC fp_X7_37 ly_0 rfl (z := 5) rfl dX7_ratio_25 rfl (by decide) ?_
      refine q_iload_n hC dX7_ratio_28 rfl rfl ?_
      exact q_iret hC hQ dX7_ratio_29 (hM 0 6) h
    · have h := h.2 c
      refine q_iconst hC dX7_ratio_11 rfl ?_
      exact q_iret hC hQ dX7_ratio_12 (by decide) h
set_option maxRecDepth 20000 in
theorem e_X7_plan {g : qG} {d : Nat} {M : qM} {K : Int → qM → Prop} {x1 : Int} (hx1 : qR x1) (h : (((0 ≤ x1 ∧ x1 < 4) → (qOk g (d + 5) j_X7_makePlan [.inr 0] M (qN fun M105 => (0 ≤ x1 ∧ x1 < 4) ∧ (((M105 62 x1) ≠ (-1) → (K (M105 62 x1) M105)) ∧ ((M105 62 x1) = (-1) → (K (-3) M105)))))) ∧ ((x1 < 0 ∨ 4 ≤ x1) → (K (-1) M)))) : qOk g (d + 6) j_X7_plan [.inr 0, .inl x1] M (qI K) := by
  refine qOk.of (by decide) (Nat.le_of_ble_eq_true rfl) (fun C hC hQ => ?_)
  have hC : qCk g C cX7_plan RX7 3 (d + 6) := hC
  have hQ : qRt g C (some .int) (qI K) := hQ
  show qW g C 0 [some (.inr 0), some (.inl x1), none] [] M
  refine qW.rm (fun hM => ?_)
  refine q_iload_n hC dX7_plan_0 rfl rfl ?_
  refine q_iconst hC dX7_plan_1 rfl ?_
  refine q_callSi hC (As := [.inl x1, .inl 4]) md_X7_isBelow ms_X7_isBelow ml_X7_48 dX7_plan_2 rfl (Nat.le_of_ble_eq_true rfl) rfl rfl (b_X7_isBelow hx1 (by decide)) (fun x101 M102 hM103 r104 hk => ?_)
  obtain ⟨ee, hk⟩ := hk
  have ee := ee.symm
  subst ee
  rcases hk with ⟨ee, c⟩ | ⟨ee, c⟩
  · have ee := ee.symm
    subst ee
    have h := h.1 c
    refine q_if_ne hC dX7_plan_5 (t := 10) (by decide) rfl (by decide) (fun c => ?_) (fun c => ?_)
    · refine q_aload_n hC dX7_plan_10 rfl rfl ?_
      refine q_callVv hC (As := []) md_X7_makePlan mv_X7_makePlan ml_X7_217 ly_0 rfl dX7_plan_11 rfl (Nat.le_of_ble_eq_true rfl) rfl rfl h (fun M105 hM106 h => ?_)
      refine q_aload_n hC dX7_plan_14 rfl rfl ?_
      refine q_getr hC fl_X7_29 ly_0 rfl dX7_plan_15 rfl ?_
      refine q_getr hC fl_X7_220 ly_54 rfl dX7_plan_18 rfl ?_
      refine q_iload_n hC dX7_plan_21 rfl rfl ?_
      obtain ⟨r107, h⟩ := h
      refine q_iald hC ly_62 dX7_plan_22 rfl r107 ?_
      refine q_istore_n hC dX7_plan_23 (Nat.le_of_ble_eq_true rfl) (loc' := [some (.inr 0), some (.inl x1), some (.inl (M105 62 x1))]) rfl rfl ?_
      refine q_iload_n hC dX7_plan_24 rfl rfl ?_
      refine q_iconst hC dX7_plan_25 rfl ?_
      refine q_icmp_ne hC dX7_plan_26 (t := 34) (by decide) rfl (hM106 62 x1) (by decide) (fun c => ?_) (fun c => ?_)
      · have h := h.1 c
        refine q_iload_n hC dX7_plan_34 rfl rfl ?_
        exact q_iret hC hQ dX7_plan_35 (hM106 62 x1) h
      · have h := h.2 c
        refine q_bipush hC dX7_plan_29 (by decide) rfl ?_
        refine q_goto hC dX7_plan_31 (q := 35) (by decide) ?_
        exact q_iret hC hQ dX7_plan_35 (by decide) h
    · exact absurd c (by decide)
  · have ee := ee.symm
    subst ee
    have h := h.2 c
    refine q_if_ne hC dX7_plan_5 (t := 10) (by decide) rfl (by decide) (fun c => ?_) (fun c => ?_)
    · exact absurd c (by decide)
    · refine q_iconst hC dX7_plan_8 rfl ?_
      exact q_iret hC hQ dX7_plan_9 (by decide) h
set_option maxRecDepth 20000 in
theorem e_X7_planned {g : qG} {d : Nat} {M : qM} {K : Int → qM → Prop} {x1 : Int} (hx1 : qR x1) (h : (((0 ≤ x1 ∧ x1 < 7) → (qOk g (d + 5) j_X7_makePlan [.inr 0] M (qN fun M105 => (((x1 ≠ 0 ∧ x1 ≠ 1) → (qOk g (d + 5) j_X4_countAway [.inr 54, .inl (x1 - 2)] M105 (qI fun x109 M107 => K x109 M107))) ∧ (x1 = 0 → (K (M105 54 8) M105)) ∧ (x1 = 1 → (K (M105 54 9) M105)))))) ∧ ((x1 < 0 ∨ 7 ≤ x1) → (K (-1) M)))) : qOk g (d + 6) j_X7_planned [.inr 0, .inl x1] M (qI K) := by
  refine qOk.of (by decide) (Nat.le_of_ble_eq_true rfl) (fun C hC hQ => ?_)
  have hC : qCk g C cX7_planned RX7 2 (d + 6) := hC
  have hQ : qRt g C (some .int) (qI K) := hQ
  show qW g C 0 [some (.inr 0), some (.inl x1)] [] M
  refine qW.rm (fun hM => ?_)
  refine q_iload_n hC dX7_planned_0 rfl rfl ?_
  refine q_bipush hC dX7_planned_1 (by decide) rfl ?_
  refine q_callSi hC (As := [.inl x1, .inl 7]) md_X7_isBelow ms_X7_isBelow ml_X7_48 dX7_planned_3 rfl (Nat.le_of_ble_eq_true rfl) rfl rfl (b_X7_isBelow hx1 (by decide)) (fun x101 M102 hM103 r104 hk => ?_)
  obtain ⟨ee, hk⟩ := hk
  have ee := ee.symm
  subst ee
  rcases hk with ⟨ee, c⟩ | ⟨ee, c⟩
  · have ee := ee.symm
    subst ee
    have h := h.1 c
    refine q_if_ne hC dX7_planned_6 (t := 11) (by decide) rfl (by decide) (fun c => ?_) (fun c => ?_)
    · refine q_aload_n hC dX7_planned_11 rfl rfl ?_
      refine q_callVv hC (As := []) md_X7_makePlan mv_X7_makePlan ml_X7_217 ly_0 rfl dX7_planned_12 rfl (Nat.le_of_ble_eq_true rfl) rfl rfl h (fun M105 hM106 h => ?_)
      refine q_iload_n hC dX7_planned_15 rfl rfl ?_
      rcases (show (x1 ≠ 0 ∧ x1 ≠ 1) ∨ x1 = 0 ∨ x1 = 1 by omega) with c | c | c
      · have h := h.1 c
        refine q_look hC dX7_planned_16 hx1 (by decide) (off := 44) (by simp [Op.lookupswitch.offset]; omega) (t := 60) (by decide) ?_
        refine q_aload_n hC dX7_planned_60 rfl rfl ?_
        refine q_getr hC fl_X7_29 ly_0 rfl dX7_planned_61 rfl ?_
        refine q_iload_n hC dX7_planned_64 rfl rfl ?_
        refine q_iconst hC dX7_planned_65 rfl ?_
        refine q_isub hC dX7_planned_66 rfl ?_
        refine q_callVi hC (As := [.inl (x1 - 2)]) md_X4_countAway mv_X4_countAway ml_X7_229 ly_54 rfl dX7_planned_67 rfl (Nat.le_of_ble_eq_true rfl) rfl rfl h (fun x109 M107 hM108 r110 h => ?_)
        exact q_iret hC hQ dX7_planned_70 r110 h
      · have h := h.2.1 c
        refine q_look hC dX7_planned_16 hx1 (by decide) (off := 28) (by rw [c]; decide) (t := 44) (by decide) ?_
        refine q_aload_n hC dX7_planned_44 rfl rfl ?_
        refine q_getr hC fl_X7_29 ly_0 rfl dX7_planned_45 rfl ?_
        refine q_geti hC fl_X7_223 ly_54 rfl (z := 8) rfl dX7_planned_48 rfl ?_
        exact q_iret hC hQ dX7_planned_51 (hM106 54 8) h
      · have h := h.2.2 c
        refine q_look hC dX7_planned_16 hx1 (by decide) (off := 36) (by rw [c]; decide) (t := 52) (by decide) ?_
        refine q_aload_n hC dX7_planned_52 rfl rfl ?_
        refine q_getr hC fl_X7_29 ly_0 rfl dX7_planned_53 rfl ?_
        refine q_geti hC fl_X7_226 ly_54 rfl (z := 9) rfl dX7_planned_56 rfl ?_
        exact q_iret hC hQ dX7_planned_59 (hM106 54 9) h
    · exact absurd c (by decide)
  · have ee := ee.symm
    subst ee
    have h := h.2 c
    refine q_if_ne hC dX7_planned_6 (t := 11) (by decide) rfl (by decide) (fun c => ?_) (fun c => ?_)
    · exact absurd c (by decide)
    · refine q_iconst hC dX7_planned_9 rfl ?_
      exact q_iret hC hQ dX7_planned_10 (by decide) h
set_option maxRecDepth 20000 in
theorem e_X7_many {g : qG} {d : Nat} {M : qM} {K : Int → qM → Prop} {x1 : Int} (hx1 : qR x1) (h : (((x1 < 0 ∨ 7 < x1) → (((0 ≤ x1 ∧ x1 < 12) → (qOk g (d + 5) j_X3_countPatrol [.inr 2, .inl (x1 - 8)] M (qI fun x107 M105 => K x107 M105))) ∧ ((x1 < 0 ∨ 12 ≤ x1) → (K (-1) M)))) ∧ (x1 = 0 → (K (M 2 0) M)) ∧ (x1 = 1 → (K (M 2 3) M)) ∧ (x1 = 2 → (K (M 8 0) M)) ∧ (x1 = 3 → (K (M 16 0) M)) ∧ (x1 = 4 → (K (M 8 3) M)) ∧ (x1 = 5 → (K (M 22 0) M)) ∧ (x1 = 6 → (qOk g (d + 5) j_X2_readDone [.inr 51, .inr 1] M (qN fun M109 => qOk g (d + 5) j_X2_countCounting [.inr 51, .inr 1] M109 (qI fun x113 M111 => K x113 M111)))) ∧ (x1 = 7 → (qOk g (d + 5) j_X2_readDone [.inr 51, .inr 1] M (qN fun M115 => qOk g (d + 5) j_X2_countHeldOfAll [.inr 51, .inr 1] M115 (qI fun x119 M117 => K x119 M117)))))) : qOk g (d + 6) j_X7_many [.inr 0, .inl x1] M (qI K) := by
  refine qOk.of (by decide) (Nat.le_of_ble_eq_true rfl) (fun C hC hQ => ?_)
  have hC : qCk g C cX7_many RX7 2 (d + 6) := hC
  have hQ : qRt g C (some .int) (qI K) := hQ
  show qW g C 0 [some (.inr 0), some (.inl x1)] [] M
  refine qW.rm (fun hM => ?_)
  refine q_iload_n hC dX7_many_0 rfl rfl ?_
  rcases (show (x1 < 0 ∨ 7 < x1) ∨ x1 = 0 ∨ x1 = 1 ∨ x1 = 2 ∨ x1 = 3 ∨ x1 = 4 ∨ x1 = 5 ∨ x1 = 6 ∨ x1 = 7 by omega) with c | c | c | c | c | c | c | c | c
  · have h := h.1 c
    refine q_tabOut hC dX7_many_1 hx1 c (t := 160) (by decide) ?_
    refine q_iload_n hC dX7_many_160 rfl rfl ?_
    refine q_bipush hC dX7_many_161 (by decide) rfl ?_
    refine q_callSi hC (As := [.inl x1, .inl 12]) md_X7_isBelow ms_X7_isBelow ml_X7_48 dX7_many_163 rfl (Nat.le_of_ble_eq_true rfl) rfl rfl (b_X7_isBelow hx1 (by decide)) (fun x101 M102 hM103 r104 hk => ?_)
    obtain ⟨ee, hk⟩ := hk
    have ee := ee.symm
    subst ee
    rcases hk with ⟨ee, c⟩ | ⟨ee, c⟩
    · have ee := ee.symm
      subst ee
      have h := h.1 c
      refine q_if_eq hC dX7_many_166 (t := 186) (by decide) rfl (by decide) (fun c => ?_) (fun c => ?_)
      · exact absurd c (by decide)
      · refine q_aload_n hC dX7_many_169 rfl rfl ?_
        refine q_getr hC fl_X7_12 ly_0 rfl dX7_many_170 rfl ?_
        refine q_getr hC fl_X7_52 ly_1 rfl dX7_many_173 rfl ?_
        refine q_iload_n hC dX7_many_176 rfl rfl ?_
        refine q_bipush hC dX7_many_177 (by decide) rfl ?_
        refine q_isub hC dX7_many_179 rfl ?_
        refine q_callVi hC (As := [.inl (x1 - 8)]) md_X3_countPatrol mv_X3_countPatrol ml_X7_239 ly_2 rfl dX7_many_180 rfl (Nat.le_of_ble_eq_true rfl) rfl rfl h (fun x107 M105 hM106 r108 h => ?_)
        refine q_goto hC dX7_many_183 (q := 187) (by decide) ?_
        exact q_iret hC hQ dX7_many_187 r108 h
    · have ee := ee.symm
      subst ee
      have h := h.2 c
      refine q_if_eq hC dX7_many_166 (t := 186) (by decide) rfl (by decide) (fun c => ?_) (fun c => ?_)
      · refine q_iconst hC dX7_many_186 rfl ?_
        exact q_iret hC hQ dX7_many_187 (by decide) h
      · exact absurd c (by decide)
  · have h := h.2.1 c
    refine q_tabIn hC dX7_many_1 hx1 c (by decide) (off := 47) (by decide) (t := 48) (by decide) ?_
    refine q_aload_n hC dX7_many_48 rfl rfl ?_
    refine q_getr hC fl_X7_12 ly_0 rfl dX7_many_49 rfl ?_
    refine q_getr hC fl_X7_52 ly_1 rfl dX7_many_52 rfl ?_
    refine q_geti hC fl_X7_56 ly_2 rfl (z := 0) rfl dX7_many_55 rfl ?_
    exact q_iret hC hQ dX7_many_58 (hM 2 0) h
  · have h := h.2.2.1 c
    refine q_tabIn hC dX7_many_1 hx1 c (by decide) (off := 58) (by decide) (t := 59) (by decide) ?_
    refine q_aload_n hC dX7_many_59 rfl rfl ?_
    refine q_getr hC fl_X7_12 ly_0 rfl dX7_many_60 rfl ?_
    refine q_getr hC fl_X7_52 ly_1 rfl dX7_many_63 rfl ?_
    refine q_geti hC fl_X7_75 ly_2 rfl (z := 3) rfl dX7_many_66 rfl ?_
    exact q_iret hC hQ dX7_many_69 (hM 2 3) h
  · have h := h.2.2.2.1 c
    refine q_tabIn hC dX7_many_1 hx1 c (by decide) (off := 69) (by decide) (t := 70) (by decide) ?_
    refine q_aload_n hC dX7_many_70 rfl rfl ?_
    refine q_getr hC fl_X7_12 ly_0 rfl dX7_many_71 rfl ?_
    refine q_getr hC fl_X7_93 ly_1 rfl dX7_many_74 rfl ?_
    refine q_geti hC fl_X7_97 ly_8 rfl (z := 0) rfl dX7_many_77 rfl ?_
    exact q_iret hC hQ dX7_many_80 (hM 8 0) h
  · have h := h.2.2.2.2.1 c
    refine q_tabIn hC dX7_many_1 hx1 c (by decide) (off := 80) (by decide) (t := 81) (by decide) ?_
    refine q_aload_n hC dX7_many_81 rfl rfl ?_
    refine q_getr hC fl_X7_12 ly_0 rfl dX7_many_82 rfl ?_
    refine q_getr hC fl_X7_130 ly_1 rfl dX7_many_85 rfl ?_
    refine q_geti hC fl_X7_134 ly_16 rfl (z := 0) rfl dX7_many_88 rfl ?_
    exact q_iret hC hQ dX7_many_91 (hM 16 0) h
  · have h := h.2.2.2.2.2.1 c
    refine q_tabIn hC dX7_many_1 hx1 c (by decide) (off := 91) (by decide) (t := 92) (by decide) ?_
    refine q_aload_n hC dX7_many_92 rfl rfl ?_
    refine q_getr hC fl_X7_12 ly_0 rfl dX7_many_93 rfl ?_
    refine q_getr hC fl_X7_93 ly_1 rfl dX7_many_96 rfl ?_
    refine q_geti hC fl_X7_114 ly_8 rfl (z := 3) rfl dX7_many_99 rfl ?_
    exact q_iret hC hQ dX7_many_102 (hM 8 3) h
  · have h := h.2.2.2.2.2.2.1 c
    refine q_tabIn hC dX7_many_1 hx1 c (by decide) (off := 102) (by decide) (t := 103) (by decide) ?_
    refine q_aload_n hC dX7_many_103 rfl rfl ?_
    refine q_getr hC fl_X7_12 ly_0 rfl dX7_many_104 rfl ?_
    refine q_getr hC fl_X7_196 ly_1 rfl dX7_many_107 rfl ?_
    refine q_geti hC fl_X7_200 ly_22 rfl (z := 0) rfl dX7_many_110 rfl ?_
    exact q_iret hC hQ dX7_many_113 (hM 22 0) h
  · have h := h.2.2.2.2.2.2.2.1 c
    refine q_tabIn hC dX7_many_1 hx1 c (by decide) (off := 113) (by decide) (t := 114) (by decide) ?_
    refine q_aload_n hC dX7_many_114 rfl rfl ?_
    refine q_getr hC fl_X7_22 ly_0 rfl dX7_many_115 rfl ?_
    refine q_aload_n hC dX7_many_118 rfl rfl ?_
    refine q_getr hC fl_X7_12 ly_0 rfl dX7_many_119 rfl ?_
    refine q_callVv hC (As := [.inr 1]) md_X2_readDone mv_X2_readDone ml_X7_154 ly_51 rfl dX7_many_122 rfl (Nat.le_of_ble_eq_true rfl) rfl rfl h (fun M109 hM110 h => ?_)
    refine q_aload_n hC dX7_many_125 rfl rfl ?_
    refine q_getr hC fl_X7_22 ly_0 rfl dX7_many_126 rfl ?_
    refine q_aload_n hC dX7_many_129 rfl rfl ?_
    refine q_getr hC fl_X7_12 ly_0 rfl dX7_many_130 rfl ?_
    refine q_callVi hC (As := [.inr 1]) md_X2_countCounting mv_X2_countCounting ml_X7_232 ly_51 rfl dX7_many_133 rfl (Nat.le_of_ble_eq_true rfl) rfl rfl h (fun x113 M111 hM112 r114 h => ?_)
    exact q_iret hC hQ dX7_many_136 r114 h
  · have h := h.2.2.2.2.2.2.2.2 c
    refine q_tabIn hC dX7_many_1 hx1 c (by decide) (off := 136) (by decide) (t := 137) (by decide) ?_
    refine q_aload_n hC dX7_many_137 rfl rfl ?_
    refine q_getr hC fl_X7_22 ly_0 rfl dX7_many_138 rfl ?_
    refine q_aload_n hC dX7_many_141 rfl rfl ?_
    refine q_getr hC fl_X7_12 ly_0 rfl dX7_many_142 rfl ?_
    refine q_callVv hC (As := [.inr 1]) md_X2_readDone mv_X2_readDone ml_X7_154 ly_51 rfl dX7_many_145 rfl (Nat.le_of_ble_eq_true rfl) rfl rfl h (fun M115 hM116 h => ?_)
    refine q_aload_n hC dX7_many_148 rfl rfl ?_
    refine q_getr hC fl_X7_22 ly_0 rfl dX7_many_149 rfl ?_
    refine q_aload_n hC dX7_many_152 rfl rfl ?_
    refine q_getr hC fl_X7_12 ly_0 rfl dX7_many_153 rfl ?_
    refine q_callVi hC (As := [.inr 1]) md_X2_countHeldOfAll mv_X2_countHeldOfAll ml_X7_236 ly_51 rfl dX7_many_156 rfl (Nat.le_of_ble_eq_true rfl) rfl rfl h (fun x119 M117 hM118 r120 h => ?_)
    exact q_iret hC hQ dX7_many_159 r120 h
set_option maxRecDepth 20000 in
theorem e_X7_keep {g : qG} {d : Nat} {M : qM} {K : Int → qM → Prop}   (h : qOk g (d + 3) j_X0_become [.inr 26, .inr 1] M (qN fun M101 => K 1 (qU M101 0 4 1))) : qOk g (d + 4) j_X7_keep [.inr 0] M (qI K) := by
  refine qOk.of (by decide) (Nat.le_of_ble_eq_true rfl) (fun C hC hQ => ?_)
  have hC : qCk g C cX7_keep RX7 1 (d + 4) := hC
  have hQ : qRt g C (some .int) (qI K) := hQ
  show qW g C 0 [some (.inr 0)] [] M
  refine qW.rm (fun hM => ?_)
  refine q_aload_n hC dX7_keep_0 rfl rfl ?_
  refine q_getr hC fl_X7_16 ly_0 rfl dX7_keep_1 rfl ?_
  refine q_aload_n hC dX7_keep_4 rfl rfl ?_
  refine q_getr hC fl_X7_12 ly_0 rfl dX7_keep_5 rfl ?_
  refine q_callVv hC (As := [.inr 1]) md_X0_become mv_X0_become ml_X7_242 ly_26 rfl dX7_keep_8 rfl (Nat.le_of_ble_eq_true rfl) rfl rfl h (fun M101 hM102 h => ?_)
  refine q_aload_n hC dX7_keep_11 rfl rfl ?_
  refine q_iconst hC dX7_keep_12 rfl ?_
  have hM103 : qIn (qU M101 0 4 1) := (qU_in hM102 (q_rz (by decide)))
  refine q_putz hC fp_X7_33 ly_0 rfl (z := 4) rfl dX7_keep_13 rfl (by decide) ?_
  refine q_iconst hC dX7_keep_16 rfl ?_
  exact q_iret hC hQ dX7_keep_17 (by decide) h
set_option maxRecDepth 20000 in
theorem e_X7_back {g : qG} {d : Nat} {M : qM} {K : Int → qM → Prop}   (h : (((M 0 4) ≠ 0 → (qOk g (d + 3) j_X0_become [.inr 1, .inr 26] M (qN fun M101 => K 1 (qU M101 0 5 1)))) ∧ ((M 0 4) = 0 → (K (-3) M)))) : qOk g (d + 4) j_X7_back [.inr 0] M (qI K) := by
  refine qOk.of (by decide) (Nat.le_of_ble_eq_true rfl) (fun C hC hQ => ?_)
  have hC : qCk g C cX7_back RX7 1 (d + 4) := hC
  have hQ : qRt g C (some .int) (qI K) := hQ
  show qW g C 0 [some (.inr 0)] [] M
  refine qW.rm (fun hM => ?_)
  refine q_aload_n hC dX7_back_0 rfl rfl ?_
  refine q_geti hC fl_X7_33 ly_0 rfl (z := 4) rfl dX7_back_1 rfl ?_
  refine q_if_ne hC dX7_back_4 (t := 10) (by decide) rfl (hM 0 4) (fun c => ?_) (fun c => ?_)
  · have h := h.1 c
    refine q_aload_n hC dX7_back_10 rfl rfl ?_
    refine q_getr hC fl_X7_12 ly_0 rfl dX7_back_11 rfl ?_
    refine q_aload_n hC dX7_back_14 rfl rfl ?_
    refine q_getr hC fl_X7_16 ly_0 rfl dX7_back_15 rfl ?_
    refine q_callVv hC (As := [.inr 26]) md_X0_become mv_X0_become ml_X7_242 ly_1 rfl dX7_back_18 rfl (Nat.le_of_ble_eq_true rfl) rfl rfl h (fun M101 hM102 h => ?_)
    refine q_aload_n hC dX7_back_21 rfl rfl ?_
    refine q_iconst hC dX7_back_22 rfl ?_
    have hM103 : qIn (qU M101 0 5 1) := (qU_in hM102 (q_rz (by decide)))
    refine q_putz hC fp_X7_37 ly_0 rfl (z := 5) rfl dX7_back_23 rfl (by decide) ?_
    refine q_iconst hC dX7_back_26 rfl ?_
    exact q_iret hC hQ dX7_back_27 (by decide) h
  · have h := h.2 c
    refine q_bipush hC dX7_back_7 (by decide) rfl ?_
    exact q_iret hC hQ dX7_back_9 (by decide) h
set_option maxRecDepth 20000 in
theorem e_X7_makePlan {g : qG} {d : Nat} {M : qM} {K : qM → Prop}   (h : (((M 0 5) = 0 → (K M)) ∧ ((M 0 5) ≠ 0 → (qOk g (d + 4) j_X4_read [.inr 54, .inr 1, .inl (M 0 6)] M (qN fun M101 => qOk g (d + 4) j_X4_search [.inr 54] M101 (qN fun M103 => K (qU M103 0 5 0))))))) : qOk g (d + 5) j_X7_makePlan [.inr 0] M (qN K) := by
  refine qOk.of (by decide) (Nat.le_of_ble_eq_true rfl) (fun C hC hQ => ?_)
  have hC : qCk g C cX7_makePlan RX7 1 (d + 5) := hC
  have hQ : qRt g C none (qN K) := hQ
  show qW g C 0 [some (.inr 0)] [] M
  refine qW.rm (fun hM => ?_)
  refine q_aload_n hC dX7_makePlan_0 rfl rfl ?_
  refine q_geti hC fl_X7_37 ly_0 rfl (z := 5) rfl dX7_makePlan_1 rfl ?_
  refine q_if_eq hC dX7_makePlan_4 (t := 34) (by decide) rfl (hM 0 5) (fun c => ?_) (fun c => ?_)
  · have h := h.1 c
    exact q_vret hC hQ dX7_makePlan_34 h
  · have h := h.2 c
    refine q_aload_n hC dX7_makePlan_7 rfl rfl ?_
    refine q_getr hC fl_X7_29 ly_0 rfl dX7_makePlan_8 rfl ?_
    refine q_aload_n hC dX7_makePlan_11 rfl rfl ?_
    refine q_getr hC fl_X7_12 ly_0 rfl dX7_makePlan_12 rfl ?_
    refine q_aload_n hC dX7_makePlan_15 rfl rfl ?_
    refine q_geti hC fl_X7_40 ly_0 rfl (z := 6) rfl dX7_makePlan_16 rfl ?_
    refine q_callVv hC (As := [.inr 1, .inl (M 0 6)]) md_X4_read mv_X4_read ml_X7_245 ly_54 rfl dX7_makePlan_19 rfl (Nat.le_of_ble_eq_true rfl) rfl rfl h (fun M101 hM102 h => ?_)
    refine q_aload_n hC dX7_makePlan_22 rfl rfl ?_
    refine q_getr hC fl_X7_29 ly_0 rfl dX7_makePlan_23 rfl ?_
    refine q_callVv hC (As := []) md_X4_search mv_X4_search ml_X7_248 ly_54 rfl dX7_makePlan_26 rfl (Nat.le_of_ble_eq_true rfl) rfl rfl h (fun M103 hM104 h => ?_)
    refine q_aload_n hC dX7_makePlan_29 rfl rfl ?_
    refine q_iconst hC dX7_makePlan_30 rfl ?_
    have hM105 : qIn (qU M103 0 5 0) := (qU_in hM104 (q_rz (by decide)))
    refine q_putz hC fp_X7_37 ly_0 rfl (z := 5) rfl dX7_makePlan_31 rfl (by decide) ?_
    exact q_vret hC hQ dX7_makePlan_34 h
