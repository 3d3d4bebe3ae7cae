set_option maxRecDepth 20000 in
theorem e_X7_of {g : qG} {d : Nat} {M : qM} {K : Int → qM → Prop} {x1 : Int} {x2 : Int} (hx1 : qR x1) (hx2 : qR x2) (h : qOk g (d + 3) j_X7_isSignature [.inr 0, .inl x1] M (qI fun x103 M101 => ((x103 ≠ 0 → (((x2 < 0 ∨ 5 < x2) → (K (-1) M101)) ∧ (x2 = 0 → (0 ≤ x1 ∧ x1 < 80) ∧ (K (M101 17 x1) M101)) ∧ (x2 = 1 → (0 ≤ x1 ∧ x1 < 80) ∧ (K (M101 18 x1) M101)) ∧ (x2 = 2 → (0 ≤ x1 ∧ x1 < 80) ∧ (K (M101 19 x1) M101)) ∧ (x2 = 3 → (0 ≤ x1 ∧ x1 < 80) ∧ (K (M101 20 x1) M101)) ∧ (x2 = 4 → (0 ≤ x1 ∧ x1 < 80) ∧ (((M101 21 x1) = 0 → (K 0 M101)) ∧ ((M101 21 x1) ≠ 0 → (K 1 M101)))) ∧ (x2 = 5 → (qOk g (d + 3) j_X2_readDone [.inr 51, .inr 1] M101 (qN fun M110 => qOk g (d + 3) j_X2_counts [.inr 51, .inr 1, .inl x1] M110 (qI fun x114 M112 => ((x114 = 0 → (K 0 M112)) ∧ (x114 ≠ 0 → (K 1 M112))))))))) ∧ (x103 = 0 → (K (-1) M101))))) : qOk g (d + 4) j_X7_of [.inr 0, .inl x1, .inl x2] M (qI K) := by
  refine qOk.of (by decide) (Nat.le_of_ble_eq_true rfl) (fun C hC hQ => ?_)
  have hC : qCk g C cX7_of RX7 4 (d + 4) := hC
  have hQ : qRt g C (some .int) (qI K) := hQ
  show qW g C 0 [some (.inr 0), some (.inl x1), some (.inl x2), none] [] M
  refine qW.rm (fun hM => ?_)
  refine q_aload_n hC dX7_of_0 rfl rfl ?_
  refine q_iload_n hC dX7_of_1 rfl rfl ?_
  refine q_callVi hC (As := [.inl x1]) md_X7_isSignature mv_X7_isSignature ml_X7_151 ly_0 rfl dX7_of_2 rfl (Nat.le_of_ble_eq_true rfl) rfl rfl h (fun x103 M101 hM102 r104 h => ?_)
  refine q_if_ne hC dX7_of_5 (t := 10) (by decide) rfl r104 (fun c => ?_) (fun c => ?_)
  · have h := h.1 c
    refine q_aload_n hC dX7_of_10 rfl rfl ?_
    refine q_getr hC fl_X7_12 ly_0 rfl dX7_of_11 rfl ?_
    refine q_getr hC fl_X7_130 ly_1 rfl dX7_of_14 rfl ?_
    refine q_astore_n hC dX7_of_17 (Nat.le_of_ble_eq_true rfl) (loc' := [some (.inr 0), some (.inl x1), some (.inl x2), some (.inr 16)]) rfl rfl ?_
    refine q_iload_n hC dX7_of_18 rfl rfl ?_
    rcases (show (x2 < 0 ∨ 5 < x2) ∨ x2 = 0 ∨ x2 = 1 ∨ x2 = 2 ∨ x2 = 3 ∨ x2 = 4 ∨ x2 = 5 by omega) with c | c | c | c | c | c | c
    · have h := h.1 c
      refine q_tabOut hC dX7_of_19 hx2 c (t := 131) (by decide) ?_
      refine q_iconst hC dX7_of_131 rfl ?_
      exact q_iret hC hQ dX7_of_132 (by decide) h
    · have h := h.2.1 c
      refine q_tabIn hC dX7_of_19 hx2 c (by decide) (off := 37) (by decide) (t := 56) (by decide) ?_
      refine q_aload_n hC dX7_of_56 rfl rfl ?_
      refine q_getr hC fl_X7_139 ly_16 rfl dX7_of_57 rfl ?_
      refine q_iload_n hC dX7_of_60 rfl rfl ?_
      obtain ⟨r105, h⟩ := h
      refine q_iald hC ly_17 dX7_of_61 rfl r105 ?_
      exact q_iret hC hQ dX7_of_62 (hM102 17 x1) h
    · have h := h.2.2.1 c
      refine q_tabIn hC dX7_of_19 hx2 c (by decide) (off := 44) (by decide) (t := 63) (by decide) ?_
      refine q_aload_n hC dX7_of_63 rfl rfl ?_
      refine q_getr hC fl_X7_141 ly_16 rfl dX7_of_64 rfl ?_
      refine q_iload_n hC dX7_of_67 rfl rfl ?_
      obtain ⟨r106, h⟩ := h
      refine q_iald hC ly_18 dX7_of_68 rfl r106 ?_
      exact q_iret hC hQ dX7_of_69 (hM102 18 x1) h
    · have h := h.2.2.2.1 c
      refine q_tabIn hC dX7_of_19 hx2 c (by decide) (off := 51) (by decide) (t := 70) (by decide) ?_
      refine q_aload_n hC dX7_of_70 rfl rfl ?_
      refine q_getr hC fl_X7_143 ly_16 rfl dX7_of_71 rfl ?_
      refine q_iload_n hC dX7_of_74 rfl rfl ?_
      obtain ⟨r107, h⟩ := h
      refine q_iald hC ly_19 dX7_of_75 rfl r107 ?_
      exact q_iret hC hQ dX7_of_76 (hM102 19 x1) h
    · have h := h.2.2.2.2.1 c
      refine q_tabIn hC dX7_of_19 hx2 c (by decide) (off := 58) (by decide) (t := 77) (by decide) ?_
      refine q_aload_n hC dX7_of_77 rfl rfl ?_
      refine q_getr hC fl_X7_145 ly_16 rfl dX7_of_78 rfl ?_
      refine q_iload_n hC dX7_of_81 rfl rfl ?_
      obtain ⟨r108, h⟩ := h
      refine q_iald hC ly_20 dX7_of_82 rfl r108 ?_
      exact q_iret hC hQ dX7_of_83 (hM102 20 x1) h
    · have h := h.2.2.2.2.2.1 c
      refine q_tabIn hC dX7_of_19 hx2 c (by decide) (off := 65) (by decide) (t := 84) (by decide) ?_
      refine q_aload_n hC dX7_of_84 rfl rfl ?_
      refine q_getr hC fl_X7_147 ly_16 rfl dX7_of_85 rfl ?_
      refine q_iload_n hC dX7_of_88 rfl rfl ?_
      obtain ⟨r109, h⟩ := h
      refine q_zald hC ly_21 dX7_of_89 rfl r109 ?_
      refine q_if_eq hC dX7_of_90 (t := 97) (by decide) rfl (hM102 21 x1) (fun c => ?_) (fun c => ?_)
      · have h := h.1 c
        refine q_iconst hC dX7_of_97 rfl ?_
        exact q_iret hC hQ dX7_of_98 (by decide) h
      · have h := h.2 c
        refine q_iconst hC dX7_of_93 rfl ?_
        refine q_goto hC dX7_of_94 (q := 98) (by decide) ?_
        exact q_iret hC hQ dX7_of_98 (by decide) h
    · have h := h.2.2.2.2.2.2 c
      refine q_tabIn hC dX7_of_19 hx2 c (by decide) (off := 80) (by decide) (t := 99) (by decide) ?_
      refine q_aload_n hC dX7_of_99 rfl rfl ?_
      refine q_getr hC fl_X7_22 ly_0 rfl dX7_of_100 rfl ?_
      refine q_aload_n hC dX7_of_103 rfl rfl ?_
      refine q_getr hC fl_X7_12 ly_0 rfl dX7_of_104 rfl ?_
      refine q_callVv hC (As := [.inr 1]) md_X2_readDone mv_X2_readDone ml_X7_154 ly_51 rfl dX7_of_107 rfl (Nat.le_of_ble_eq_true rfl) rfl rfl h (fun M110 hM111 h => ?_)
      refine q_aload_n hC dX7_of_110 rfl rfl ?_
      refine q_getr hC fl_X7_22 ly_0 rfl dX7_of_111 rfl ?_
      refine q_aload_n hC dX7_of_114 rfl rfl ?_
      refine q_getr hC fl_X7_12 ly_0 rfl dX7_of_115 rfl ?_
      refine q_iload_n hC dX7_of_118 rfl rfl ?_
      refine q_callVi hC (As := [.inr 1, .inl x1]) md_X2_counts mv_X2_counts ml_X7_158 ly_51 rfl dX7_of_119 rfl (Nat.le_of_ble_eq_true rfl) rfl rfl h (fun x114 M112 hM113 r115 h => ?_)
      refine q_if_eq hC dX7_of_122 (t := 129) (by decide) rfl r115 (fun c => ?_) (fun c => ?_)
      · have h := h.1 c
        refine q_iconst hC dX7_of_129 rfl ?_
        exact q_iret hC hQ dX7_of_130 (by decide) h
      · have h := h.2 c
        refine q_iconst hC dX7_of_125 rfl ?_
        refine q_goto hC dX7_of_126 (q := 130) (by decide) ?_
        exact q_iret hC hQ dX7_of_130 (by decide) h
  · have h := h.2 c
    refine q_iconst hC dX7_of_8 rfl ?_
    exact q_iret hC hQ dX7_of_9 (by decide) h
set_option maxRecDepth 20000 in
theorem e_X7_done {g : qG} {d : Nat} {M : qM} {K : Int → qM → Prop} {x1 : Int} {x2 : Int} (hx1 : qR x1) (hx2 : qR x2) (h : qOk g (d + 3) j_X7_isChild [.inr 0, .inl x1] M (qI fun x103 M101 => ((x103 = 0 → (K (-1) M101)) ∧ (x103 ≠ 0 → (qOk g (d + 3) j_X7_isTask [.inr 0, .inl x2] M101 (qI fun x107 M105 => ((x107 ≠ 0 → (qOk g (d + 3) j_X2_readDone [.inr 51, .inr 1] M105 (qN fun M109 => qOk g (d + 3) j_X2_doneFrom [.inr 51, .inl x1, .inl x2] M109 (qI fun x113 M111 => qOk g (d + 3) j_X7_dayOrNone [.inl x113] M111 (qI fun x117 M115 => K x117 M115))))) ∧ (x107 = 0 → (K (-1) M105))))))))) : qOk g (d + 4) j_X7_done [.inr 0, .inl x1, .inl x2] M (qI K) := by
  refine qOk.of (by decide) (Nat.le_of_ble_eq_true rfl) (fun C hC hQ => ?_)
  have hC : qCk g C cX7_done RX7 3 (d + 4) := hC
  have hQ : qRt g C (some .int) (qI K) := hQ
  show qW g C 0 [some (.inr 0), some (.inl x1), some (.inl x2)] [] M
  refine qW.rm (fun hM => ?_)
  refine q_aload_n hC dX7_done_0 rfl rfl ?_
  refine q_iload_n hC dX7_done_1 rfl rfl ?_
  refine q_callVi hC (As := [.inl x1]) md_X7_isChild mv_X7_isChild ml_X7_68 ly_0 rfl dX7_done_2 rfl (Nat.le_of_ble_eq_true rfl) rfl rfl h (fun x103 M101 hM102 r104 h => ?_)
  refine q_if_eq hC dX7_done_5 (t := 16) (by decide) rfl r104 (fun c => ?_) (fun c => ?_)
  · have h := h.1 c
    refine q_iconst hC dX7_done_16 rfl ?_
    exact q_iret hC hQ dX7_done_17 (by decide) h
  · have h := h.2 c
    refine q_aload_n hC dX7_done_8 rfl rfl ?_
    refine q_iload_n hC dX7_done_9 rfl rfl ?_
    refine q_callVi hC (As := [.inl x2]) md_X7_isTask mv_X7_isTask ml_X7_90 ly_0 rfl dX7_done_10 rfl (Nat.le_of_ble_eq_true rfl) rfl rfl h (fun x107 M105 hM106 r108 h => ?_)
    refine q_if_ne hC dX7_done_13 (t := 18) (by decide) rfl r108 (fun c => ?_) (fun c => ?_)
    · have h := h.1 c
      refine q_aload_n hC dX7_done_18 rfl rfl ?_
      refine q_getr hC fl_X7_22 ly_0 rfl dX7_done_19 rfl ?_
      refine q_aload_n hC dX7_done_22 rfl rfl ?_
      refine q_getr hC fl_X7_12 ly_0 rfl dX7_done_23 rfl ?_
      refine q_callVv hC (As := [.inr 1]) md_X2_readDone mv_X2_readDone ml_X7_154 ly_51 rfl dX7_done_26 rfl (Nat.le_of_ble_eq_true rfl) rfl rfl h (fun M109 hM110 h => ?_)
      refine q_aload_n hC dX7_done_29 rfl rfl ?_
      refine q_getr hC fl_X7_22 ly_0 rfl dX7_done_30 rfl ?_
      refine q_iload_n hC dX7_done_33 rfl rfl ?_
      refine q_iload_n hC dX7_done_34 rfl rfl ?_
      refine q_callVi hC (As := [.inl x1, .inl x2]) md_X2_doneFrom mv_X2_doneFrom ml_X7_162 ly_51 rfl dX7_done_35 rfl (Nat.le_of_ble_eq_true rfl) rfl rfl h (fun x113 M111 hM112 r114 h => ?_)
      refine q_callSi hC (As := [.inl x113]) md_X7_dayOrNone ms_X7_dayOrNone ml_X7_166 dX7_done_38 rfl (Nat.le_of_ble_eq_true rfl) rfl rfl h (fun x117 M115 hM116 r118 h => ?_)
      exact q_iret hC hQ dX7_done_41 r118 h
    · have h := h.2 c
      refine q_iconst hC dX7_done_16 rfl ?_
      exact q_iret hC hQ dX7_done_17 (by decide) h
set_option maxRecDepth 20000 in
theorem e_X7_held {g : qG} {d : Nat} {M : qM} {K : Int → qM → Prop} {x1 : Int} {x2 : Int} (hx1 : qR x1) (hx2 : qR x2) (h : qOk g (d + 4) j_X7_isChild [.inr 0, .inl x1] M (qI fun x103 M101 => ((x103 = 0 → (K (-1) M101)) ∧ (x103 ≠ 0 → (qOk g (d + 4) j_X7_isBadge [.inr 0, .inl x2] M101 (qI fun x107 M105 => ((x107 ≠ 0 → (qOk g (d + 4) j_X2_readDone [.inr 51, .inr 1] M105 (qN fun M109 => qOk g (d + 4) j_X2_readHeld [.inr 51, .inr 1, .inl x1] M109 (qN fun M111 => (0 ≤ x2 ∧ x2 < 8) ∧ (qOk g (d + 4) j_X7_dayOrNone [.inl (M111 53 x2)] M111 (qI fun x116 M114 => K x116 M114)))))) ∧ (x107 = 0 → (K (-1) M105))))))))) : qOk g (d + 5) j_X7_held [.inr 0, .inl x1, .inl x2] M (qI K) := by
  refine qOk.of (by decide) (Nat.le_of_ble_eq_true rfl) (fun C hC hQ => ?_)
  have hC : qCk g C cX7_held RX7 3 (d + 5) := hC
  have hQ : qRt g C (some .int) (qI K) := hQ
  show qW g C 0 [some (.inr 0), some (.inl x1), some (.inl x2)] [] M
  refine qW.rm (fun hM => ?_)
  refine q_aload_n hC dX7_held_0 rfl rfl ?_
  refine q_iload_n hC dX7_held_1 rfl rfl ?_
  refine q_callVi hC (As := [.inl x1]) md_X7_isChild mv_X7_isChild ml_X7_68 ly_0 rfl dX7_held_2 rfl (Nat.le_of_ble_eq_true rfl) rfl rfl h (fun x103 M101 hM102 r104 h => ?_)
  refine q_if_eq hC dX7_held_5 (t := 16) (by decide) rfl r104 (fun c => ?_) (fun c => ?_)
  · have h := h.1 c
    refine q_iconst hC dX7_held_16 rfl ?_
    exact q_iret hC hQ dX7_held_17 (by decide) h
  · have h := h.2 c
    refine q_aload_n hC dX7_held_8 rfl rfl ?_
    refine q_iload_n hC dX7_held_9 rfl rfl ?_
    refine q_callVi hC (As := [.inl x2]) md_X7_isBadge mv_X7_isBadge ml_X7_111 ly_0 rfl dX7_held_10 rfl (Nat.le_of_ble_eq_true rfl) rfl rfl h (fun x107 M105 hM106 r108 h => ?_)
    refine q_if_ne hC dX7_held_13 (t := 18) (by decide) rfl r108 (fun c => ?_) (fun c => ?_)
    · have h := h.1 c
      refine q_aload_n hC dX7_held_18 rfl rfl ?_
      refine q_getr hC fl_X7_22 ly_0 rfl dX7_held_19 rfl ?_
      refine q_aload_n hC dX7_held_22 rfl rfl ?_
      refine q_getr hC fl_X7_12 ly_0 rfl dX7_held_23 rfl ?_
      refine q_callVv hC (As := [.inr 1]) md_X2_readDone mv_X2_readDone ml_X7_154 ly_51 rfl dX7_held_26 rfl (Nat.le_of_ble_eq_true rfl) rfl rfl h (fun M109 hM110 h => ?_)
      refine q_aload_n hC dX7_held_29 rfl rfl ?_
      refine q_getr hC fl_X7_22 ly_0 rfl dX7_held_30 rfl ?_
      refine q_aload_n hC dX7_held_33 rfl rfl ?_
      refine q_getr hC fl_X7_12 ly_0 rfl dX7_held_34 rfl ?_
      refine q_iload_n hC dX7_held_37 rfl rfl ?_
      refine q_callVv hC (As := [.inr 1, .inl x1]) md_X2_readHeld mv_X2_readHeld ml_X7_170 ly_51 rfl dX7_held_38 rfl (Nat.le_of_ble_eq_true rfl) rfl rfl h (fun M111 hM112 h => ?_)
      refine q_aload_n hC dX7_held_41 rfl rfl ?_
      refine q_getr hC fl_X7_22 ly_0 rfl dX7_held_42 rfl ?_
      refine q_getr hC fl_X7_174 ly_51 rfl dX7_held_45 rfl ?_
      refine q_iload_n hC dX7_held_48 rfl rfl ?_
      obtain ⟨r113, h⟩ := h
      refine q_iald hC ly_53 dX7_held_49 rfl r113 ?_
      refine q_callSi hC (As := [.inl (M111 53 x2)]) md_X7_dayOrNone ms_X7_dayOrNone ml_X7_166 dX7_held_50 rfl (Nat.le_of_ble_eq_true rfl) rfl rfl h (fun x116 M114 hM115 r117 h => ?_)
      exact q_iret hC hQ dX7_held_53 r117 h
    · have h := h.2 c
      refine q_iconst hC dX7_held_16 rfl ?_
      exact q_iret hC hQ dX7_held_17 (by decide) h
set_option maxRecDepth 20000 in
theorem e_X7_lacks {g : qG} {d : Nat} {M : qM} {K : Int → qM → Prop} {x1 : Int} {x2 : Int} {x3 : Int} (hx1 : qR x1) (hx2 : qR x2) (hx3 : qR x3) (h : qOk g (d + 4) j_X7_isChild [.inr 0, .inl x1] M (qI fun x103 M101 => ((x103 = 0 → (K (-1) M101)) ∧ (x103 ≠ 0 → (qOk g (d + 4) j_X7_isBadge [.inr 0, .inl x2] M101 (qI fun x107 M105 => ((x107 ≠ 0 → (qOk g (d + 4) j_X2_readDone [.inr 51, .inr 1] M105 (qN fun M109 => (((x3 < 0 ∨ 3 < x3) → (K (-1) M109)) ∧ (x3 = 0 → (0 ≤ x2 ∧ x2 < 8) ∧ (qOk g (d + 4) j_X2_bitsNotDone [.inr 51, .inl x1, .inl (M109 11 x2)] M109 (qI fun x114 M112 => K x114 M112))) ∧ (x3 = 1 → (0 ≤ x2 ∧ x2 < 8) ∧ (qOk g (d + 4) j_X2_doneBy [.inr 51, .inl x1, .inl (M109 12 x2), .inl 999] M109 (qI fun x119 M117 => (qR ((M109 13 x2) - x119)) ∧ (K (max 0 ((M109 13 x2) - x119)) M117)))) ∧ (x3 = 2 → (0 ≤ x2 ∧ x2 < 8) ∧ (0 ≤ x1 ∧ x1 < 10) ∧ (qR ((M109 14 x2) - (M109 3 x1))) ∧ (K (max 0 ((M109 14 x2) - (M109 3 x1))) M109)) ∧ (x3 = 3 → (qOk g (d + 4) j_X2_readHeld [.inr 51, .inr 1, .inl x1] M109 (qN fun M125 => (0 ≤ x2 ∧ x2 < 8) ∧ (qOk g (d + 4) j_X2_otherFrom [.inr 51, .inl (M125 15 x2)] M125 (qI fun x130 M128 => ((x130 ≠ 1000 → (K 0 M128)) ∧ (x130 = 1000 → (K 1 M128)))))))))))) ∧ (x107 = 0 → (K (-1) M105))))))))) : qOk g (d + 5) j_X7_lacks [.inr 0, .inl x1, .inl x2, .inl x3] M (qI K) := by
  refine qOk.of (by decide) (Nat.le_of_ble_eq_true rfl) (fun C hC hQ => ?_)
  have hC : qCk g C cX7_lacks RX7 5 (d + 5) := hC
  have hQ : qRt g C (some .int) (qI K) := hQ
  show qW g C 0 [some (.inr 0), some (.inl x1), some (.inl x2), some (.inl x3), none] [] M
  refine qW.rm (fun hM => ?_)
  refine q_aload_n hC dX7_lacks_0 rfl rfl ?_
  refine q_iload_n hC dX7_lacks_1 rfl rfl ?_
  refine q_callVi hC (As := [.inl x1]) md_X7_isChild mv_X7_isChild ml_X7_68 ly_0 rfl dX7_lacks_2 rfl (Nat.le_of_ble_eq_true rfl) rfl rfl h (fun x103 M101 hM102 r104 h => ?_)
  refine q_if_eq hC dX7_lacks_5 (t := 16) (by decide) rfl r104 (fun c => ?_) (fun c => ?_)
  · have h := h.1 c
    refine q_iconst hC dX7_lacks_16 rfl ?_
    exact q_iret hC hQ dX7_lacks_17 (by decide) h
  · have h := h.2 c
    refine q_aload_n hC dX7_lacks_8 rfl rfl ?_
    refine q_iload_n hC dX7_lacks_9 rfl rfl ?_
    refine q_callVi hC (As := [.inl x2]) md_X7_isBadge mv_X7_isBadge ml_X7_111 ly_0 rfl dX7_lacks_10 rfl (Nat.le_of_ble_eq_true rfl) rfl rfl h (fun x107 M105 hM106 r108 h => ?_)
    refine q_if_ne hC dX7_lacks_13 (t := 18) (by decide) rfl r108 (fun c => ?_) (fun c => ?_)
    · have h := h.1 c
      refine q_aload_n hC dX7_lacks_18 rfl rfl ?_
      refine q_getr hC fl_X7_22 ly_0 rfl dX7_lacks_19 rfl ?_
      refine q_aload_n hC dX7_lacks_22 rfl rfl ?_
      refine q_getr hC fl_X7_12 ly_0 rfl dX7_lacks_23 rfl ?_
      refine q_callVv hC (As := [.inr 1]) md_X2_readDone mv_X2_readDone ml_X7_154 ly_51 rfl dX7_lacks_26 rfl (Nat.le_of_ble_eq_true rfl) rfl rfl h (fun M109 hM110 h => ?_)
      refine q_aload_n hC dX7_lacks_29 rfl rfl ?_
      refine q_getr hC fl_X7_12 ly_0 rfl dX7_lacks_30 rfl ?_
      refine q_getr hC fl_X7_93 ly_1 rfl dX7_lacks_33 rfl ?_
      refine q_astore hC dX7_lacks_36 (Nat.le_of_ble_eq_true rfl) (loc' := [some (.inr 0), some (.inl x1), some (.inl x2), some (.inl x3), some (.inr 8)]) rfl rfl ?_
      refine q_iload_n hC dX7_lacks_38 rfl rfl ?_
      rcases (show (x3 < 0 ∨ 3 < x3) ∨ x3 = 0 ∨ x3 = 1 ∨ x3 = 2 ∨ x3 = 3 by omega) with c | c | c | c | c
      · have h := h.1 c
        refine q_tabOut hC dX7_lacks_39 hx3 c (t := 178) (by decide) ?_
        refine q_iconst hC dX7_lacks_178 rfl ?_
        exact q_iret hC hQ dX7_lacks_179 (by decide) h
      · have h := h.2.1 c
        refine q_tabIn hC dX7_lacks_39 hx3 c (by decide) (off := 29) (by decide) (t := 68) (by decide) ?_
        refine q_aload_n hC dX7_lacks_68 rfl rfl ?_
        refine q_getr hC fl_X7_22 ly_0 rfl dX7_lacks_69 rfl ?_
        refine q_iload_n hC dX7_lacks_72 rfl rfl ?_
        refine q_aload hC dX7_lacks_73 rfl rfl ?_
        refine q_getr hC fl_X7_117 ly_8 rfl dX7_lacks_75 rfl ?_
        refine q_iload_n hC dX7_lacks_78 rfl rfl ?_
        obtain ⟨r111, h⟩ := h
        refine q_iald hC ly_11 dX7_lacks_79 rfl r111 ?_
        refine q_callVi hC (As := [.inl x1, .inl (M109 11 x2)]) md_X2_bitsNotDone mv_X2_bitsNotDone ml_X7_177 ly_51 rfl dX7_lacks_80 rfl (Nat.le_of_ble_eq_true rfl) rfl rfl h (fun x114 M112 hM113 r115 h => ?_)
        exact q_iret hC hQ dX7_lacks_83 r115 h
      · have h := h.2.2.1 c
        refine q_tabIn hC dX7_lacks_39 hx3 c (by decide) (off := 45) (by decide) (t := 84) (by decide) ?_
        refine q_iconst hC dX7_lacks_84 rfl ?_
        refine q_aload hC dX7_lacks_85 rfl rfl ?_
        refine q_getr hC fl_X7_123 ly_8 rfl dX7_lacks_87 rfl ?_
        refine q_iload_n hC dX7_lacks_90 rfl rfl ?_
        obtain ⟨r116, h⟩ := h
        refine q_iald hC ly_13 dX7_lacks_91 rfl r116 ?_
        refine q_aload_n hC dX7_lacks_92 rfl rfl ?_
        refine q_getr hC fl_X7_22 ly_0 rfl dX7_lacks_93 rfl ?_
        refine q_iload_n hC dX7_lacks_96 rfl rfl ?_
        refine q_aload hC dX7_lacks_97 rfl rfl ?_
        refine q_getr hC fl_X7_120 ly_8 rfl dX7_lacks_99 rfl ?_
        refine q_iload_n hC dX7_lacks_102 rfl rfl ?_
        refine q_iald hC ly_12 dX7_lacks_103 rfl r116 ?_
        refine q_sipush hC dX7_lacks_104 (by decide) rfl ?_
        refine q_callVi hC (As := [.inl x1, .inl (M109 12 x2), .inl 999]) md_X2_doneBy mv_X2_doneBy ml_X7_180 ly_51 rfl dX7_lacks_107 rfl (Nat.le_of_ble_eq_true rfl) rfl rfl h (fun x119 M117 hM118 r120 h => ?_)
        refine q_isub hC dX7_lacks_110 rfl ?_
        obtain ⟨r121, h⟩ := h
        refine q_mmax hC ml_X7_184 mm_max dX7_lacks_111 (Nat.le_of_ble_eq_true rfl) rfl rfl (by decide) r121 ?_
        exact q_iret hC hQ dX7_lacks_114 (q_rmax (by decide) r121) h
      · have h := h.2.2.2.1 c
        refine q_tabIn hC dX7_lacks_39 hx3 c (by decide) (off := 76) (by decide) (t := 115) (by decide) ?_
        refine q_iconst hC dX7_lacks_115 rfl ?_
        refine q_aload hC dX7_lacks_116 rfl rfl ?_
        refine q_getr hC fl_X7_126 ly_8 rfl dX7_lacks_118 rfl ?_
        refine q_iload_n hC dX7_lacks_121 rfl rfl ?_
        obtain ⟨r122, h⟩ := h
        refine q_iald hC ly_14 dX7_lacks_122 rfl r122 ?_
        refine q_aload_n hC dX7_lacks_123 rfl rfl ?_
        refine q_getr hC fl_X7_12 ly_0 rfl dX7_lacks_124 rfl ?_
        refine q_getr hC fl_X7_52 ly_1 rfl dX7_lacks_127 rfl ?_
        refine q_getr hC fl_X7_61 ly_2 rfl dX7_lacks_130 rfl ?_
        refine q_iload_n hC dX7_lacks_133 rfl rfl ?_
        obtain ⟨r123, h⟩ := h
        refine q_iald hC ly_3 dX7_lacks_134 rfl r123 ?_
        refine q_isub hC dX7_lacks_135 rfl ?_
        obtain ⟨r124, h⟩ := h
        refine q_mmax hC ml_X7_184 mm_max dX7_lacks_136 (Nat.le_of_ble_eq_true rfl) rfl rfl (by decide) r124 ?_
        exact q_iret hC hQ dX7_lacks_139 (q_rmax (by decide) r124) h
      · have h := h.2.2.2.2 c
        refine q_tabIn hC dX7_lacks_39 hx3 c (by decide) (off := 101) (by decide) (t := 140) (by decide) ?_
        refine q_aload_n hC dX7_lacks_140 rfl rfl ?_
        refine q_getr hC fl_X7_22 ly_0 rfl dX7_lacks_141 rfl ?_
        refine q_aload_n hC dX7_lacks_144 rfl rfl ?_
        refine q_getr hC fl_X7_12 ly_0 rfl dX7_lacks_145 rfl ?_
        refine q_iload_n hC dX7_lacks_148 rfl rfl ?_
        refine q_callVv hC (As := [.inr 1, .inl x1]) md_X2_readHeld mv_X2_readHeld ml_X7_170 ly_51 rfl dX7_lacks_149 rfl (Nat.le_of_ble_eq_true rfl) rfl rfl h (fun M125 hM126 h => ?_)
        refine q_aload_n hC dX7_lacks_152 rfl rfl ?_
        refine q_getr hC fl_X7_22 ly_0 rfl dX7_lacks_153 rfl ?_
        refine q_aload hC dX7_lacks_156 rfl rfl ?_
        refine q_getr hC fl_X7_127 ly_8 rfl dX7_lacks_158 rfl ?_
        refine q_iload_n hC dX7_lacks_161 rfl rfl ?_
        obtain ⟨r127, h⟩ := h
        refine q_iald hC ly_15 dX7_lacks_162 rfl r127 ?_
        refine q_callVi hC (As := [.inl (M125 15 x2)]) md_X2_otherFrom mv_X2_otherFrom ml_X7_189 ly_51 rfl dX7_lacks_163 rfl (Nat.le_of_ble_eq_true rfl) rfl rfl h (fun x130 M128 hM129 r131 h => ?_)
        refine q_sipush hC dX7_lacks_166 (by decide) rfl ?_
        refine q_icmp_ne hC dX7_lacks_169 (t := 176) (by decide) rfl r131 (by decide) (fun c => ?_) (fun c => ?_)
        · have h := h.1 c
          refine q_iconst hC dX7_lacks_176 rfl ?_
          exact q_iret hC hQ dX7_lacks_177 (by decide) h
        · have h := h.2 c
          refine q_iconst hC dX7_lacks_172 rfl ?_
          refine q_goto hC dX7_lacks_173 (q := 177) (by decide) ?_
          exact q_iret hC hQ dX7_lacks_177 (by decide) h
    · have h := h.2 c
      refine q_iconst hC dX7_lacks_16 rfl ?_
      exact q_iret hC hQ dX7_lacks_17 (by decide) h
set_option maxRecDepth 20000 in
theorem e_X7_badges {g : qG} {d : Nat} {M : qM} {K : Int → qM → Prop} {x1 : Int} {x2 : Int} (hx1 : qR x1) (hx2 : qR x2) (h : qOk g (d + 5) j_X7_isChild [.inr 0, .inl x1] M (qI fun x103 M101 => ((x103 = 0 → (K (-1) M101)) ∧ (x103 ≠ 0 → (qOk g (d + 5) j_X7_isDay [.inl x2] M101 (qI fun x107 M105 => ((x107 ≠ 0 → (qOk g (d + 5) j_X2_readDone [.inr 51, .inr 1] M105 (qN fun M109 => qOk g (d + 5) j_X2_countHeld [.inr 51, .inr 1, .inl x1, .inl x2] M109 (qI fun x113 M111 => K x113 M111)))) ∧ (x107 = 0 → (K (-1) M105))))))))) : qOk g (d + 6) j_X7_badges [.inr 0, .inl x1, .inl x2] M (qI K) := by
  refine qOk.of (by decide) (Nat.le_of_ble_eq_true rfl) (fun C hC hQ => ?_)
  have hC : qCk g C cX7_badges RX7 3 (d + 6) := hC
  have hQ : qRt g C (some .int) (qI K) := hQ
  show qW g C 0 [some (.inr 0), some (.inl x1), some (.inl x2)] [] M
  refine qW.rm (fun hM => ?_)
  refine q_aload_n hC dX7_badges_0 rfl rfl ?_
  refine q_iload_n hC dX7_badges_1 rfl rfl ?_
  refine q_callVi hC (As := [.inl x1]) md_X7_isChild mv_X7_isChild ml_X7_68 ly_0 rfl dX7_badges_2 rfl (Nat.le_of_ble_eq_true rfl) rfl rfl h (fun x103 M101 hM102 r104 h => ?_)
  refine q_if_eq hC dX7_badges_5 (t := 15) (by decide) rfl r104 (fun c => ?_) (fun c => ?_)
  · have h := h.1 c
    refine q_iconst hC dX7_badges_15 rfl ?_
    exact q_iret hC hQ dX7_badges_16 (by decide) h
  · have h := h.2 c
    refine q_iload_n hC dX7_badges_8 rfl rfl ?_
    refine q_callSi hC (As := [.inl x2]) md_X7_isDay ms_X7_isDay ml_X7_81 dX7_badges_9 rfl (Nat.le_of_ble_eq_true rfl) rfl rfl h (fun x107 M105 hM106 r108 h => ?_)
    refine q_if_ne hC dX7_badges_12 (t := 17) (by decide) rfl r108 (fun c => ?_) (fun c => ?_)
    · have h := h.1 c
      refine q_aload_n hC dX7_badges_17 rfl rfl ?_
      refine q_getr hC fl_X7_22 ly_0 rfl dX7_badges_18 rfl ?_
      refine q_aload_n hC dX7_badges_21 rfl rfl ?_
      refine q_getr hC fl_X7_12 ly_0 rfl dX7_badges_22 rfl ?_
      refine q_callVv hC (As := [.inr 1]) md_X2_readDone mv_X2_readDone ml_X7_154 ly_51 rfl dX7_badges_25 rfl (Nat.le_of_ble_eq_true rfl) rfl rfl h (fun M109 hM110 h => ?_)
      refine q_aload_n hC dX7_badges_28 rfl rfl ?_
      refine q_getr hC fl_X7_22 ly_0 rfl dX7_badges_29 rfl ?_
      refine q_aload_n hC dX7_badges_32 rfl rfl ?_
      refine q_getr hC fl_X7_12 ly_0 rfl dX7_badges_33 rfl ?_
      refine q_iload_n hC dX7_badges_36 rfl rfl ?_
      refine q_iload_n hC dX7_badges_37 rfl rfl ?_
      refine q_callVi hC (As := [.inr 1, .inl x1, .inl x2]) md_X2_countHeld mv_X2_countHeld ml_X7_192 ly_51 rfl dX7_badges_38 rfl (Nat.le_of_ble_eq_true rfl) rfl rfl h (fun x113 M111 hM112 r114 h => ?_)
      exact q_iret hC hQ dX7_badges_41 r114 h
    · have h := h.2 c
      refine q_iconst hC dX7_badges_15 rfl ?_
      exact q_iret hC hQ dX7_badges_16 (by decide) h
set_option maxRecDepth 20000 in
theorem e_X7_site {g : qG} {d : Nat} {M : qM} {K : Int → qM → Prop} {x1 : Int} {x2 : Int} (hx1 : qR x1) (hx2 : qR x2) (h : ((x1 < 1 → (K (-1) M)) ∧ (1 ≤ x1 → ((x1 ≤ 10 → (((M 22 0) < 3 → (0 ≤ (M 22 0) ∧ (M 22 0) < 3) ∧ (x2 = 0 ∨ x2 = 1) ∧ (qR ((M 22 0) + 1)) ∧ (K (M 22 0) (qU (qU (qU (qU M 23 (M 22 0) x1) 24 (M 22 0) x2) 22 0 ((M 22 0) + 1)) 0 5 1))) ∧ (3 ≤ (M 22 0) → (K (-2) M)))) ∧ (10 < x1 → (K (-1) M)))))) : qOk g d j_X7_site [.inr 0, .inl x1, .inl x2] M (qI K) := by
  refine qOk.of (by decide) (Nat.le_of_ble_eq_true rfl) (fun C hC hQ => ?_)
  have hC : qCk g C cX7_site RX7 5 d := hC
  have hQ : qRt g C (some .int) (qI K) := hQ
  show qW g C 0 [some (.inr 0), some (.inl x1), some (.inl x2), none, none] [] M
  refine qW.rm (fun hM => ?_)
  refine q_iload_n hC dX7_site_0 rfl rfl ?_
  refine q_iconst hC dX7_site_1 rfl ?_
  refine q_icmp_lt hC dX7_site_2 (t := 11) (by decide) rfl hx1 (by decide) (fun c => ?_) (fun c => ?_)
  · have h := h.1 c
    refine q_iconst hC dX7_site_11 rfl ?_
    exact q_iret hC hQ dX7_site_12 (by decide) h
  · have h := h.2 c
    refine q_iload_n hC dX7_site_5 rfl rfl ?_
    refine q_bipush hC dX7_site_6 (by decide) rfl ?_
    refine q_icmp_le hC dX7_site_8 (t := 13) (by decide) rfl hx1 (by decide) (fun c => ?_) (fun c => ?_)
    · have h := h.1 c
      refine q_aload_n hC dX7_site_13 rfl rfl ?_
      refine q_getr hC fl_X7_12 ly_0 rfl dX7_site_14 rfl ?_
      refine q_getr hC fl_X7_196 ly_1 rfl dX7_site_17 rfl ?_
      refine q_astore_n hC dX7_site_20 (Nat.le_of_ble_eq_true rfl) (loc' := [some (.inr 0), some (.inl x1), some (.inl x2), some (.inr 22), none]) rfl rfl ?_
      refine q_aload_n hC dX7_site_21 rfl rfl ?_
      refine q_geti hC fl_X7_200 ly_22 rfl (z := 0) rfl dX7_site_22 rfl ?_
      refine q_iconst hC dX7_site_25 rfl ?_
      refine q_icmp_lt hC dX7_site_26 (t := 32) (by decide) rfl (hM 22 0) (by decide) (fun c => ?_) (fun c => ?_)
      · have h := h.1 c
        refine q_aload_n hC dX7_site_32 rfl rfl ?_
        refine q_geti hC fl_X7_200 ly_22 rfl (z := 0) rfl dX7_site_33 rfl ?_
        refine q_istore hC dX7_site_36 (Nat.le_of_ble_eq_true rfl) (loc' := [some (.inr 0), some (.inl x1), some (.inl x2), some (.inr 22), some (.inl (M 22 0))]) rfl rfl ?_
        refine q_aload_n hC dX7_site_38 rfl rfl ?_
        refine q_getr hC fl_X7_205 ly_22 rfl dX7_site_39 rfl ?_
        refine q_iload hC dX7_site_42 rfl rfl ?_
        refine q_iload_n hC dX7_site_44 rfl rfl ?_
        obtain ⟨r101, h⟩ := h
        have hM102 : qIn (qU M 23 (M 22 0) x1) := (qU_in hM hx1)
        refine q_iast hC ly_23 dX7_site_45 rfl r101 hx1 ?_
        refine q_aload_n hC dX7_site_46 rfl rfl ?_
        refine q_getr hC fl_X7_208 ly_22 rfl dX7_site_47 rfl ?_
        refine q_iload hC dX7_site_50 rfl rfl ?_
        refine q_iload_n hC dX7_site_52 rfl rfl ?_
        obtain ⟨r103, h⟩ := h
        have hM104 : qIn (qU (qU M 23 (M 22 0) x1) 24 (M 22 0) x2) := (qU_in hM102 (q_rz r103))
        refine q_zast hC ly_24 dX7_site_53 rfl r101 r103 ?_
        refine q_aload_n hC dX7_site_54 rfl rfl ?_
        refine q_iload hC dX7_site_55 rfl rfl ?_
        refine q_iconst hC dX7_site_57 rfl ?_
        refine q_iadd hC dX7_site_58 rfl ?_
        obtain ⟨r105, h⟩ := h
        have hM106 : qIn (qU (qU (qU M 23 (M 22 0) x1) 24 (M 22 0) x2) 22 0 ((M 22 0) + 1)) := (qU_in hM104 r105)
        refine q_puti hC fp_X7_200 ly_22 rfl (z := 0) rfl dX7_site_59 rfl r105 ?_
        refine q_aload_n hC dX7_site_62 rfl rfl ?_
        refine q_iconst hC dX7_site_63 rfl ?_
        have hM107 : qIn (qU (qU (qU (qU M 23 (M 22 0) x1) 24 (M 22 0) x2) 22 0 ((M 22 0) + 1)) 0 5 1) := (qU_in hM106 (q_rz (by decide)))
        refine q_putz hC fp_X7_37 ly_0 rfl (z := 5) rfl dX7_site_64 rfl (by decide) ?_
        refine q_iload hC dX7_site_67 rfl rfl ?_
        exact q_iret hC hQ dX7_site_69 (hM 22 0) h
      · have h := h.2 c
        refine q_bipush hC dX7_site_29 (by decide) rfl ?_
        exact q_iret hC hQ dX7_site_31 (by decide) h
    · have h := h.2 c
      refine q_iconst hC dX7_site_11 rfl ?_
      exact q_iret hC hQ dX7_site_12 (by decide) h
set_option maxRecDepth 20000 in
theorem e_X7_wish {g : qG} {d : Nat} {M : qM} {K : Int → qM → Prop} {x1 : Int} {x2 : Int} {x3 : Int} {x4 : Int} (hx1 : qR x1) (hx2 : qR x2) (hx3 : qR x3) (hx4 : qR x4) (h : qOk g (d + 1) j_X7_isBelow [.inl x1, .inl 4] M (qI fun x103 M101 => ((x103 = 0 → (K (-1) M101)) ∧ (x103 ≠ 0 → (qOk g (d + 1) j_X7_isBelow [.inl x2, .inl 5] M101 (qI fun x107 M105 => ((x107 ≠ 0 → (qOk g (d + 1) j_X7_isBelow [.inl x3, .inl 3] M105 (qI fun x111 M109 => ((x111 = 0 → (K (-1) M109)) ∧ (x111 ≠ 0 → (qOk g (d + 1) j_X7_isUpTo [.inl x4, .inl 9] M109 (qI fun x115 M113 => ((x115 ≠ 0 → (qOk g (d + 1) j_X7_replace [.inr 25, .inl (((x1 * 15) + (x2 * 3)) + x3), .inl x4] (qU M113 0 5 1) (qI fun x120 M118 => K x120 M118))) ∧ (x115 = 0 → (K (-1) M113)))))))))) ∧ (x107 = 0 → (K (-1) M105))))))))) : qOk g (d + 2) j_X7_wish [.inr 0, .inl x1, .inl x2, .inl x3, .inl x4] M (qI K) := by
  refine qOk.of (by decide) (Nat.le_of_ble_eq_true rfl) (fun C hC hQ => ?_)
  have hC : qCk g C cX7_wish RX7 5 (d + 2) := hC
  have hQ : qRt g C (some .int) (qI K) := hQ
  show qW g C 0 [some (.inr 0), some (.inl x1), some (.inl x2), some (.inl x3), some (.inl x4)] [] M
  refine qW.rm (fun hM => ?_)
  refine q_iload_n hC dX7_wish_0 rfl rfl ?_
  refine q_iconst hC dX7_wish_1 rfl ?_
  refine q_callSi hC (As := [.inl x1, .inl 4]) md_X7_isBelow ms_X7_isBelow ml_X7_48 dX7_wish_2 rfl (Nat.le_of_ble_eq_true rfl) rfl rfl h (fun x103 M101 hM102 r104 h => ?_)
  refine q_if_eq hC dX7_wish_5 (t := 16) (by decide) rfl r104 (fun c => ?_) (fun c => ?_)
  · have h := h.1 c
    refine q_iconst hC dX7_wish_16 rfl ?_
    exact q_iret hC hQ dX7_wish_17 (by decide) h
  · have h := h.2 c
    refine q_iload_n hC dX7_wish_8 rfl rfl ?_
    refine q_iconst hC dX7_wish_9 rfl ?_
    refine q_callSi hC (As := [.inl x2, .inl 5]) md_X7_isBelow ms_X7_isBelow ml_X7_48 dX7_wish_10 rfl (Nat.le_of_ble_eq_true rfl) rfl rfl h (fun x107 M105 hM106 r108 h => ?_)
    refine q_if_ne hC dX7_wish_13 (t := 18) (by decide) rfl r108 (fun c => ?_) (fun c => ?_)
    · have h := h.1 c
      refine q_iload_n hC dX7_wish_18 rfl rfl ?_
      refine q_iconst hC dX7_wish_19 rfl ?_
      refine q_callSi hC (As := [.inl x3, .inl 3]) md_X7_isBelow ms_X7_isBelow ml_X7_48 dX7_wish_20 rfl (Nat.le_of_ble_eq_true rfl) rfl rfl h (fun x111 M109 hM110 r112 h => ?_)
      refine q_if_eq hC dX7_wish_23 (t := 36) (by decide) rfl r112 (fun c => ?_) (fun c => ?_)
      · have h := h.1 c
        refine q_iconst hC dX7_wish_36 rfl ?_
        exact q_iret hC hQ dX7_wish_37 (by decide) h
      · have h := h.2 c
        refine q_iload hC dX7_wish_26 rfl rfl ?_
        refine q_bipush hC dX7_wish_28 (by decide) rfl ?_
        refine q_callSi hC (As := [.inl x4, .inl 9]) md_X7_isUpTo ms_X7_isUpTo ml_X7_108 dX7_wish_30 rfl (Nat.le_of_ble_eq_true rfl) rfl rfl h (fun x115 M113 hM114 r116 h => ?_)
        refine q_if_ne hC dX7_wish_33 (t := 38) (by decide) rfl r116 (fun c => ?_) (fun c => ?_)
        · have h := h.1 c
          refine q_aload_n hC dX7_wish_38 rfl rfl ?_
          refine q_iconst hC dX7_wish_39 rfl ?_
          have hM117 : qIn (qU M113 0 5 1) := (qU_in hM114 (q_rz (by decide)))
          refine q_putz hC fp_X7_37 ly_0 rfl (z := 5) rfl dX7_wish_40 rfl (by decide) ?_
          refine q_aload_n hC dX7_wish_43 rfl rfl ?_
          refine q_getr hC fl_X7_12 ly_0 rfl dX7_wish_44 rfl ?_
          refine q_getr hC fl_X7_196 ly_1 rfl dX7_wish_47 rfl ?_
          refine q_getr hC fl_X7_211 ly_22 rfl dX7_wish_50 rfl ?_
          refine q_iload_n hC dX7_wish_53 rfl rfl ?_
          refine q_bipush hC dX7_wish_54 (by decide) rfl ?_
          refine q_imul hC dX7_wish_56 rfl ?_
          refine q_iload_n hC dX7_wish_57 rfl rfl ?_
          refine q_iconst hC dX7_wish_58 rfl ?_
          refine q_imul hC dX7_wish_59 rfl ?_
          refine q_iadd hC dX7_wish_60 rfl ?_
          refine q_iload_n hC dX7_wish_61 rfl rfl ?_
          refine q_iadd hC dX7_wish_62 rfl ?_
          refine q_iload hC dX7_wish_63 rfl rfl ?_
          refine q_callSi hC (As := [.inr 25, .inl (((x1 * 15) + (x2 * 3)) + x3), .inl x4]) md_X7_replace ms_X7_replace ml_X7_71 dX7_wish_65 rfl (Nat.le_of_ble_eq_true rfl) rfl rfl h (fun x120 M118 hM119 r121 h => ?_)
          exact q_iret hC hQ dX7_wish_68 r121 h
        · have h := h.2 c
          refine q_iconst hC dX7_wish_36 rfl ?_
          exact q_iret hC hQ dX7_wish_37 (by decide) h
    · have h := h.2 c
      refine q_iconst hC dX7_wish_16 rfl ?_
      exact q_iret hC hQ dX7_wish_17 (by decide) h
set_option maxRecDepth 20000 in
theorem e_X7_free {g : qG} {d : Nat} {M : qM} {K : Int → qM → Prop} {x1 : Int} {x2 : Int} (hx1 : qR x1) (hx2 : qR x2) (h : qOk g (d + 1) j_X7_isLeader [.inr 0, .inl x1] M (qI fun x103 M101 => ((x103 = 0 → (K (-1) M101)) ∧ (x103 ≠ 0 → (qOk g (d + 1) j_X7_isUpTo [.inl x2, .inl 31] M101 (qI fun x107 M105 => ((x107 ≠ 0 → (qOk g (d + 1) j_X7_replace [.inr 7, .inl x1, .inl x2] (qU M105 0 5 1) (qI fun x112 M110 => K x112 M110))) ∧ (x107 = 0 → (K (-1) M105))))))))) : qOk g (d + 2) j_X7_free [.inr 0, .inl x1, .inl x2] M (qI K) := by
  refine qOk.of (by decide) (Nat.le_of_ble_eq_true rfl) (fun C hC hQ => ?_)
  have hC : qCk g C cX7_free RX7 3 (d + 2) := hC
  have hQ : qRt g C (some .int) (qI K) := hQ
  show qW g C 0 [some (.inr 0), some (.inl x1), some (.inl x2)] [] M
  refine qW.rm (fun hM => ?_)
  refine q_aload_n hC dX7_free_0 rfl rfl ?_
  refine q_iload_n hC dX7_free_1 rfl rfl ?_
  refine q_callVi hC (As := [.inl x1]) md_X7_isLeader mv_X7_isLeader ml_X7_78 ly_0 rfl dX7_free_2 rfl (Nat.le_of_ble_eq_true rfl) rfl rfl h (fun x103 M101 hM102 r104 h => ?_)
  refine q_if_eq hC dX7_free_5 (t := 17) (by decide) rfl r104 (fun c => ?_) (fun c => ?_)
  · have h := h.1 c
    refine q_iconst hC dX7_free_17 rfl ?_
    exact q_iret hC hQ dX7_free_18 (by decide) h
  · have h := h.2 c
    refine q_iload_n hC dX7_free_8 rfl rfl ?_
    refine q_bipush hC dX7_free_9 (by decide) rfl ?_
    refine q_callSi hC (As := [.inl x2, .inl 31]) md_X7_isUpTo ms_X7_isUpTo ml_X7_108 dX7_free_11 rfl (Nat.le_of_ble_eq_true rfl) rfl rfl h (fun x107 M105 hM106 r108 h => ?_)
    refine q_if_ne hC dX7_free_14 (t := 19) (by decide) rfl r108 (fun c => ?_) (fun c => ?_)
    · have h := h.1 c
      refine q_aload_n hC dX7_free_19 rfl rfl ?_
      refine q_iconst hC dX7_free_20 rfl ?_
      have hM109 : qIn (qU M105 0 5 1) := (qU_in hM106 (q_rz (by decide)))
      refine q_putz hC fp_X7_37 ly_0 rfl (z := 5) rfl dX7_free_21 rfl (by decide) ?_
      refine q_aload_n hC dX7_free_24 rfl rfl ?_
      refine q_getr hC fl_X7_12 ly_0 rfl dX7_free_25 rfl ?_
      refine q_getr hC fl_X7_52 ly_1 rfl dX7_free_28 rfl ?_
      refine q_getr hC fl_X7_214 ly_2 rfl dX7_free_31 rfl ?_
      refine q_iload_n hC dX7_free_34 rfl rfl ?_
      refine q_iload_n hC dX7_free_35 rfl rfl ?_
      refine q_callSi hC (As := [.inr 7, .inl x1, .inl x2]) md_X7_replace ms_X7_replace ml_X7_71 dX7_free_36 rfl (Nat.le_of_ble_eq_true rfl) rfl rfl h (fun x112 M110 hM111 r113 h => ?_)
      exact q_iret hC hQ dX7_free_39 r113 h
    · have h := h.2 c
      refine q_iconst hC dX7_free_17 rfl ?_
      exact q_iret hC hQ dX7_free_18 (by decide) h
set_option maxRecDepth 20000 in
theorem e_X7_ratio {g : qG} {d : Nat} {M : qM} {K : Int → qM → Prop} {x1 : Int} (hx1 : qR x1) (h : ((x1 < 1 → (K (-1) M)) ∧ (1 ≤ x1 → ((x1 ≤ 10 → (K (M 0 6) (qU (qU M 0 6 x1) 0 5 1))) ∧ (10 < x1 → (K (-1) M)))))) : qOk g d j_X7_ratio [.inr 0, .inl x1] M (qI K) := by
  refine qOk.of (by decide) (Nat.le_of_ble_eq_true rfl) (fun C hC hQ => ?_)
  have hC : qCk g C cX7_ratio RX7 3 d := hC
  have hQ : qRt g C (some .int) (qI K) := hQ
  show qW g C 0 [some (.inr 0), some (.inl x1), none] [] M
  refine qW.rm (fun hM => ?_)
  refine q_iload_n hC dX7_ratio_0 rfl rfl ?_
  refine q_iconst hC dX7_ratio_1 rfl ?_
  refine q_icmp_lt hC dX7_ratio_2 (t := 11) (by decide) rfl hx1 (by decide) (fun c => ?_) (fun c => ?_)
  · have h := h.1 c
    refine q_iconst hC dX7_ratio_11 rfl ?_
    exact q_iret hC hQ dX7_ratio_12 (by decide) h
  · have h := h.2 c
    refine q_iload_n hC dX7_ratio_5 rfl rfl ?_
    refine q_bipush hC dX7_ratio_6 (by decide) rfl ?_
    refine q_icmp_le hC dX7_ratio_8 (t := 13) (by decide) rfl hx1 (by decide) (fun c => ?_) (fun c => ?_)
    · have h := h.1 c
      refine q_aload_n hC dX7_ratio_13 rfl rfl ?_
      refine q_geti hC fl_X7_40 ly_0 rfl (z := 6) rfl dX7_ratio_14 rfl ?_
      refine q_istore_n hC dX7_ratio_17 (Nat.le_of_ble_eq_true rfl) (loc' := [some (.inr 0), some (.inl x1), some (.inl (M 0 6))]) rfl rfl ?_
      refine q_aload_n hC dX7_ratio_18 rfl rfl ?_
      refine q_iload_n hC dX7_ratio_19 rfl rfl ?_
      have hM101 : qIn (qU M 0 6 x1) := (qU_in hM hx1)
      refine q_puti hC fp_X7_40 ly_0 rfl (z := 6) rfl dX7_ratio_20 rfl hx1 ?_
      refine q_aload_n hC dX7_ratio_23 rfl rfl ?_
      refine q_iconst hC dX7_ratio_24 rfl ?_
      have hM102 : qIn (qU (qU M 0 6 x1) 0 5 1) := (qU_in hM101 (q_rz (by decide)))
      refine q_putz hC fp_X7_37 ly_0 rfl (z := 5) rfl dX7_ratio_25 rfl (by decide) ?_
      refine q_iload_n hC dX7_ratio_28 rfl rfl ?_
      exact q_iret hC hQ dX7_ratio_29 (hM 0 6) h
    · have h := h.2 c
      refine q_iconst hC dX7_ratio_11 rfl ?_
      exact q_iret hC hQ dX7_ratio_12 (by decide) h
set_option maxRecDepth 20000 in
theorem e_X7_plan {g : qG} {d : Nat} {M : qM} {K : Int → qM → Prop} {x1 : Int} (hx1 : qR x1) (h : qOk g (d + 5) j_X7_isBelow [.inl x1, .inl 4] M (qI fun x103 M101 => ((x103 ≠ 0 → (qOk g (d + 5) j_X7_makePlan [.inr 0] M101 (qN fun M105 => (0 ≤ x1 ∧ x1 < 4) ∧ (((M105 62 x1) ≠ (-1) → (K (M105 62 x1) M105)) ∧ ((M105 62 x1) = (-1) → (K (-3) M105)))))) ∧ (x103 = 0 → (K (-1) M101))))) : qOk g (d + 6) j_X7_plan [.inr 0, .inl x1] M (qI K) := by
  refine qOk.of (by decide) (Nat.le_of_ble_eq_true rfl) (fun C hC hQ => ?_)
  have hC : qCk g C cX7_plan RX7 3 (d + 6) := hC
  have hQ : qRt g C (some .int) (qI K) := hQ
  show qW g C 0 [some (.inr 0), some (.inl x1), none] [] M
  refine qW.rm (fun hM => ?_)
  refine q_iload_n hC dX7_plan_0 rfl rfl ?_
  refine q_iconst hC dX7_plan_1 rfl ?_
  refine q_callSi hC (As := [.inl x1, .inl 4]) md_X7_isBelow ms_X7_isBelow ml_X7_48 dX7_plan_2 rfl (Nat.le_of_ble_eq_true rfl) rfl rfl h (fun x103 M101 hM102 r104 h => ?_)
  refine q_if_ne hC dX7_plan_5 (t := 10) (by decide) rfl r104 (fun c => ?_) (fun c => ?_)
  · have h := h.1 c
    refine q_aload_n hC dX7_plan_10 rfl rfl ?_
    refine q_callVv hC (As := []) md_X7_makePlan mv_X7_makePlan ml_X7_217 ly_0 rfl dX7_plan_11 rfl (Nat.le_of_ble_eq_true rfl) rfl rfl h (fun M105 hM106 h => ?_)
    refine q_aload_n hC dX7_plan_14 rfl rfl ?_
    refine q_getr hC fl_X7_29 ly_0 rfl dX7_plan_15 rfl ?_
    refine q_getr hC fl_X7_220 ly_54 rfl dX7_plan_18 rfl ?_
    refine q_iload_n hC dX7_plan_21 rfl rfl ?_
    obtain ⟨r107, h⟩ := h
    refine q_iald hC ly_62 dX7_plan_22 rfl r107 ?_
    refine q_istore_n hC dX7_plan_23 (Nat.le_of_ble_eq_true rfl) (loc' := [some (.inr 0), some (.inl x1), some (.inl (M105 62 x1))]) rfl rfl ?_
    refine q_iload_n hC dX7_plan_24 rfl rfl ?_
    refine q_iconst hC dX7_plan_25 rfl ?_
    refine q_icmp_ne hC dX7_plan_26 (t := 34) (by decide) rfl (hM106 62 x1) (by decide) (fun c => ?_) (fun c => ?_)
    · have h := h.1 c
      refine q_iload_n hC dX7_plan_34 rfl rfl ?_
      exact q_iret hC hQ dX7_plan_35 (hM106 62 x1) h
    · have h := h.2 c
      refine q_bipush hC dX7_plan_29 (by decide) rfl ?_
      refine q_goto hC dX7_plan_31 (q := 35) (by decide) ?_
      exact q_iret hC hQ dX7_plan_35 (by decide) h
  · have h := h.2 c
    refine q_iconst hC dX7_plan_8 rfl ?_
    exact q_iret hC hQ dX7_plan_9 (by decide) h
set_option maxRecDepth 20000 in
theorem e_X7_planned {g : qG} {d : Nat} {M : qM} {K : Int → qM → Prop} {x1 : Int} (hx1 : qR x1) (h : qOk g (d + 5) j_X7_isBelow [.inl x1, .inl 7] M (qI fun x103 M101 => ((x103 ≠ 0 → (qOk g (d + 5) j_X7_makePlan [.inr 0] M101 (qN fun M105 => (((x1 ≠ 0 ∧ x1 ≠ 1) → (qOk g (d + 5) j_X4_countAway [.inr 54, .inl (x1 - 2)] M105 (qI fun x109 M107 => K x109 M107))) ∧ (x1 = 0 → (K (M105 54 8) M105)) ∧ (x1 = 1 → (K (M105 54 9) M105)))))) ∧ (x103 = 0 → (K (-1) M101))))) : qOk g (d + 6) j_X7_planned [.inr 0, .inl x1] M (qI K) := by
  refine qOk.of (by decide) (Nat.le_of_ble_eq_true rfl) (fun C hC hQ => ?_)
  have hC : qCk g C cX7_planned RX7 2 (d + 6) := hC
  have hQ : qRt g C (some .int) (qI K) := hQ
  show qW g C 0 [some (.inr 0), some (.inl x1)] [] M
  refine qW.rm (fun hM => ?_)
  refine q_iload_n hC dX7_planned_0 rfl rfl ?_
  refine q_bipush hC dX7_planned_1 (by decide) rfl ?_
  refine q_callSi hC (As := [.inl x1, .inl 7]) md_X7_isBelow ms_X7_isBelow ml_X7_48 dX7_planned_3 rfl (Nat.le_of_ble_eq_true rfl) rfl rfl h (fun x103 M101 hM102 r104 h => ?_)
  refine q_if_ne hC dX7_planned_6 (t := 11) (by decide) rfl r104 (fun c => ?_) (fun c => ?_)
  · have h := h.1 c
    refine q_aload_n hC dX7_planned_11 rfl rfl ?_
    refine q_callVv hC (As := []) md_X7_makePlan mv_X7_makePlan ml_X7_217 ly_0 rfl dX7_planned_12 rfl (Nat.le_of_ble_eq_true rfl) rfl rfl h (fun M105 hM106 h => ?_)
    refine q_iload_n hC dX7_planned_15 rfl rfl ?_
    rcases (show (x1 ≠ 0 ∧ x1 ≠ 1) ∨ x1 = 0 ∨ x1 = 1 by omega) with c | c | c
    · have h := h.1 c
      refine q_look hC dX7_planned_16 hx1 (by decide) (off := 44) (by simp [Op.lookupswitch.offset]; omega) (t := 60) (by decide) ?_
      refine q_aload_n hC dX7_planned_60 rfl rfl ?_
      refine q_getr hC fl_X7_29 ly_0 rfl dX7_planned_61 rfl ?_
      refine q_iload_n hC dX7_planned_64 rfl rfl ?_
      refine q_iconst hC dX7_planned_65 rfl ?_
      refine q_isub hC dX7_planned_66 rfl ?_
      refine q_callVi hC (As := [.inl (x1 - 2)]) md_X4_countAway mv_X4_countAway ml_X7_229 ly_54 rfl dX7_planned_67 rfl (Nat.le_of_ble_eq_true rfl) rfl rfl h (fun x109 M107 hM108 r110 h => ?_)
      exact q_iret hC hQ dX7_planned_70 r110 h
    · have h := h.2.1 c
      refine q_look hC dX7_planned_16 hx1 (by decide) (off := 28) (by rw [c]; decide) (t := 44) (by decide) ?_
      refine q_aload_n hC dX7_planned_44 rfl rfl ?_
      refine q_getr hC fl_X7_29 ly_0 rfl dX7_planned_45 rfl ?_
      refine q_geti hC fl_X7_223 ly_54 rfl (z := 8) rfl dX7_planned_48 rfl ?_
      exact q_iret hC hQ dX7_planned_51 (hM106 54 8) h
    · have h := h.2.2 c
      refine q_look hC dX7_planned_16 hx1 (by decide) (off := 36) (by rw [c]; decide) (t := 52) (by decide) ?_
      refine q_aload_n hC dX7_planned_52 rfl rfl ?_
      refine q_getr hC fl_X7_29 ly_0 rfl dX7_planned_53 rfl ?_
      refine q_geti hC fl_X7_226 ly_54 rfl (z := 9) rfl dX7_planned_56 rfl ?_
      exact q_iret hC hQ dX7_planned_59 (hM106 54 9) h
  · have h := h.2 c
    refine q_iconst hC dX7_planned_9 rfl ?_
    exact q_iret hC hQ dX7_planned_10 (by decide) h
set_option maxRecDepth 20000 in
theorem e_X7_many {g : qG} {d : Nat} {M : qM} {K : Int → qM → Prop} {x1 : Int} (hx1 : qR x1) (h : (((x1 < 0 ∨ 7 < x1) → (qOk g (d + 6) j_X7_isBelow [.inl x1, .inl 12] M (qI fun x103 M101 => ((x103 = 0 → (K (-1) M101)) ∧ (x103 ≠ 0 → (qOk g (d + 6) j_X3_countPatrol [.inr 2, .inl (x1 - 8)] M101 (qI fun x107 M105 => K x107 M105))))))) ∧ (x1 = 0 → (K (M 2 0) M)) ∧ (x1 = 1 → (K (M 2 3) M)) ∧ (x1 = 2 → (K (M 8 0) M)) ∧ (x1 = 3 → (K (M 16 0) M)) ∧ (x1 = 4 → (K (M 8 3) M)) ∧ (x1 = 5 → (K (M 22 0) M)) ∧ (x1 = 6 → (qOk g (d + 6) j_X2_readDone [.inr 51, .inr 1] M (qN fun M109 => qOk g (d + 6) j_X2_countCounting [.inr 51, .inr 1] M109 (qI fun x113 M111 => K x113 M111)))) ∧ (x1 = 7 → (qOk g (d + 6) j_X2_readDone [.inr 51, .inr 1] M (qN fun M115 => qOk g (d + 6) j_X2_countHeldOfAll [.inr 51, .inr 1] M115 (qI fun x119 M117 => K x119 M117)))))) : qOk g (d + 7) j_X7_many [.inr 0, .inl x1] M (qI K) := by
  refine qOk.of (by decide) (Nat.le_of_ble_eq_true rfl) (fun C hC hQ => ?_)
  have hC : qCk g C cX7_many RX7 2 (d + 7) := hC
  have hQ : qRt g C (some .int) (qI K) := hQ
  show qW g C 0 [some (.inr 0), some (.inl x1)] [] M
  refine qW.rm (fun hM => ?_)
  refine q_iload_n hC dX7_many_0 rfl rfl ?_
  rcases (show (x1 < 0 ∨ 7 < x1) ∨ x1 = 0 ∨ x1 = 1 ∨ x1 = 2 ∨ x1 = 3 ∨ x1 = 4 ∨ x1 = 5 ∨ x1 = 6 ∨ x1 = 7 by omega) with c | c | c | c | c | c | c | c | c
  · have h := h.1 c
    refine q_tabOut hC dX7_many_1 hx1 c (t := 160) (by decide) ?_
    refine q_iload_n hC dX7_many_160 rfl rfl ?_
    refine q_bipush hC dX7_many_161 (by decide) rfl ?_
    refine q_callSi hC (As := [.inl x1, .inl 12]) md_X7_isBelow ms_X7_isBelow ml_X7_48 dX7_many_163 rfl (Nat.le_of_ble_eq_true rfl) rfl rfl h (fun x103 M101 hM102 r104 h => ?_)
    refine q_if_eq hC dX7_many_166 (t := 186) (by decide) rfl r104 (fun c => ?_) (fun c => ?_)
    · have h := h.1 c
      refine q_iconst hC dX7_many_186 rfl ?_
      exact q_iret hC hQ dX7_many_187 (by decide) h
    · have h := h.2 c
      refine q_aload_n hC dX7_many_169 rfl rfl ?_
      refine q_getr hC fl_X7_12 ly_0 rfl dX7_many_170 rfl ?_
      refine q_getr hC fl_X7_52 ly_1 rfl dX7_many_173 rfl ?_
      refine q_iload_n hC dX7_many_176 rfl rfl ?_
      refine q_bipush hC dX7_many_177 (by decide) rfl ?_
      refine q_isub hC dX7_many_179 rfl ?_
      refine q_callVi hC (As := [.inl (x1 - 8)]) md_X3_countPatrol mv_X3_countPatrol ml_X7_239 ly_2 rfl dX7_many_180 rfl (Nat.le_of_ble_eq_true rfl) rfl rfl h (fun x107 M105 hM106 r108 h => ?_)
      refine q_goto hC dX7_many_183 (q := 187) (by decide) ?_
      exact q_iret hC hQ dX7_many_187 r108 h
  · have h := h.2.1 c
    refine q_tabIn hC dX7_many_1 hx1 c (by decide) (off := 47) (by decide) (t := 48) (by decide) ?_
    refine q_aload_n hC dX7_many_48 rfl rfl ?_
    refine q_getr hC fl_X7_12 ly_0 rfl dX7_many_49 rfl ?_
    refine q_getr hC fl_X7_52 ly_1 rfl dX7_many_52 rfl ?_
    refine q_geti hC fl_X7_56 ly_2 rfl (z := 0) rfl dX7_many_55 rfl ?_
    exact q_iret hC hQ dX7_many_58 (hM 2 0) h
  · have h := h.2.2.1 c
    refine q_tabIn hC dX7_many_1 hx1 c (by decide) (off := 58) (by decide) (t := 59) (by decide) ?_
    refine q_aload_n hC dX7_many_59 rfl rfl ?_
    refine q_getr hC fl_X7_12 ly_0 rfl dX7_many_60 rfl ?_
    refine q_getr hC fl_X7_52 ly_1 rfl dX7_many_63 rfl ?_
    refine q_geti hC fl_X7_75 ly_2 rfl (z := 3) rfl dX7_many_66 rfl ?_
    exact q_iret hC hQ dX7_many_69 (hM 2 3) h
  · have h := h.2.2.2.1 c
    refine q_tabIn hC dX7_many_1 hx1 c (by decide) (off := 69) (by decide) (t := 70) (by decide) ?_
    refine q_aload_n hC dX7_many_70 rfl rfl ?_
    refine q_getr hC fl_X7_12 ly_0 rfl dX7_many_71 rfl ?_
    refine q_getr hC fl_X7_93 ly_1 rfl dX7_many_74 rfl ?_
    refine q_geti hC fl_X7_97 ly_8 rfl (z := 0) rfl dX7_many_77 rfl ?_
    exact q_iret hC hQ dX7_many_80 (hM 8 0) h
  · have h := h.2.2.2.2.1 c
    refine q_tabIn hC dX7_many_1 hx1 c (by decide) (off := 80) (by decide) (t := 81) (by decide) ?_
    refine q_aload_n hC dX7_many_81 rfl rfl ?_
    refine q_getr hC fl_X7_12 ly_0 rfl dX7_many_82 rfl ?_
    refine q_getr hC fl_X7_130 ly_1 rfl dX7_many_85 rfl ?_
    refine q_geti hC fl_X7_134 ly_16 rfl (z := 0) rfl dX7_many_88 rfl ?_
    exact q_iret hC hQ dX7_many_91 (hM 16 0) h
  · have h := h.2.2.2.2.2.1 c
    refine q_tabIn hC dX7_many_1 hx1 c (by decide) (off := 91) (by decide) (t := 92) (by decide) ?_
    refine q_aload_n hC dX7_many_92 rfl rfl ?_
    refine q_getr hC fl_X7_12 ly_0 rfl dX7_many_93 rfl ?_
    refine q_getr hC fl_X7_93 ly_1 rfl dX7_many_96 rfl ?_
    refine q_geti hC fl_X7_114 ly_8 rfl (z := 3) rfl dX7_many_99 rfl ?_
    exact q_iret hC hQ dX7_many_102 (hM 8 3) h
  · have h := h.2.2.2.2.2.2.1 c
    refine q_tabIn hC dX7_many_1 hx1 c (by decide) (off := 102) (by decide) (t := 103) (by decide) ?_
    refine q_aload_n hC dX7_many_103 rfl rfl ?_
    refine q_getr hC fl_X7_12 ly_0 rfl dX7_many_104 rfl ?_
    refine q_getr hC fl_X7_196 ly_1 rfl dX7_many_107 rfl ?_
    refine q_geti hC fl_X7_200 ly_22 rfl (z := 0) rfl dX7_many_110 rfl ?_
    exact q_iret hC hQ dX7_many_113 (hM 22 0) h
  · have h := h.2.2.2.2.2.2.2.1 c
    refine q_tabIn hC dX7_many_1 hx1 c (by decide) (off := 113) (by decide) (t := 114) (by decide) ?_
    refine q_aload_n hC dX7_many_114 rfl rfl ?_
    refine q_getr hC fl_X7_22 ly_0 rfl dX7_many_115 rfl ?_
    refine q_aload_n hC dX7_many_118 rfl rfl ?_
    refine q_getr hC fl_X7_12 ly_0 rfl dX7_many_119 rfl ?_
    refine q_callVv hC (As := [.inr 1]) md_X2_readDone mv_X2_readDone ml_X7_154 ly_51 rfl dX7_many_122 rfl (Nat.le_of_ble_eq_true rfl) rfl rfl h (fun M109 hM110 h => ?_)
    refine q_aload_n hC dX7_many_125 rfl rfl ?_
    refine q_getr hC fl_X7_22 ly_0 rfl dX7_many_126 rfl ?_
    refine q_aload_n hC dX7_many_129 rfl rfl ?_
    refine q_getr hC fl_X7_12 ly_0 rfl dX7_many_130 rfl ?_
    refine q_callVi hC (As := [.inr 1]) md_X2_countCounting mv_X2_countCounting ml_X7_232 ly_51 rfl dX7_many_133 rfl (Nat.le_of_ble_eq_true rfl) rfl rfl h (fun x113 M111 hM112 r114 h => ?_)
    exact q_iret hC hQ dX7_many_136 r114 h
  · have h := h.2.2.2.2.2.2.2.2 c
    refine q_tabIn hC dX7_many_1 hx1 c (by decide) (off := 136) (by decide) (t := 137) (by decide) ?_
    refine q_aload_n hC dX7_many_137 rfl rfl ?_
    refine q_getr hC fl_X7_22 ly_0 rfl dX7_many_138 rfl ?_
    refine q_aload_n hC dX7_many_141 rfl rfl ?_
    refine q_getr hC fl_X7_12 ly_0 rfl dX7_many_142 rfl ?_
    refine q_callVv hC (As := [.inr 1]) md_X2_readDone mv_X2_readDone ml_X7_154 ly_51 rfl dX7_many_145 rfl (Nat.le_of_ble_eq_true rfl) rfl rfl h (fun M115 hM116 h => ?_)
    refine q_aload_n hC dX7_many_148 rfl rfl ?_
    refine q_getr hC fl_X7_22 ly_0 rfl dX7_many_149 rfl ?_
    refine q_aload_n hC dX7_many_152 rfl rfl ?_
    refine q_getr hC fl_X7_12 ly_0 rfl dX7_many_153 rfl ?_
    refine q_callVi hC (As := [.inr 1]) md_X2_countHeldOfAll mv_X2_countHeldOfAll ml_X7_236 ly_51 rfl dX7_many_156 rfl (Nat.le_of_ble_eq_true rfl) rfl rfl h (fun x119 M117 hM118 r120 h => ?_)
    exact q_iret hC hQ dX7_many_159 r120 h
set_option maxRecDepth 20000 in
theorem e_X7_keep {g : qG} {d : Nat} {M : qM} {K : Int → qM → Prop}   (h : qOk g (d + 3) j_X0_become [.inr 26, .inr 1] M (qN fun M101 => K 1 (qU M101 0 4 1))) : qOk g (d + 4) j_X7_keep [.inr 0] M (qI K) := by
  refine qOk.of (by decide) (Nat.le_of_ble_eq_true rfl) (fun C hC hQ => ?_)
  have hC : qCk g C cX7_keep RX7 1 (d + 4) := hC
  have hQ : qRt g C (some .int) (qI K) := hQ
  show qW g C 0 [some (.inr 0)] [] M
  refine qW.rm (fun hM => ?_)
  refine q_aload_n hC dX7_keep_0 rfl rfl ?_
  refine q_getr hC fl_X7_16 ly_0 rfl dX7_keep_1 rfl ?_
  refine q_aload_n hC dX7_keep_4 rfl rfl ?_
  refine q_getr hC fl_X7_12 ly_0 rfl dX7_keep_5 rfl ?_
  refine q_callVv hC (As := [.inr 1]) md_X0_become mv_X0_become ml_X7_242 ly_26 rfl dX7_keep_8 rfl (Nat.le_of_ble_eq_true rfl) rfl rfl h (fun M101 hM102 h => ?_)
  refine q_aload_n hC dX7_keep_11 rfl rfl ?_
  refine q_iconst hC dX7_keep_12 rfl ?_
  have hM103 : qIn (qU M101 0 4 1) := (qU_in hM102 (q_rz (by decide)))
  refine q_putz hC fp_X7_33 ly_0 rfl (z := 4) rfl dX7_keep_13 rfl (by decide) ?_
  refine q_iconst hC dX7_keep_16 rfl ?_
  exact q_iret hC hQ dX7_keep_17 (by decide) h
set_option maxRecDepth 20000 in
theorem e_X7_back {g : qG} {d : Nat} {M : qM} {K : Int → qM → Prop}   (h : (((M 0 4) ≠ 0 → (qOk g (d + 3) j_X0_become [.inr 1, .inr 26] M (qN fun M101 => K 1 (qU M101 0 5 1)))) ∧ ((M 0 4) = 0 → (K (-3) M)))) : qOk g (d + 4) j_X7_back [.inr 0] M (qI K) := by
  refine qOk.of (by decide) (Nat.le_of_ble_eq_true rfl) (fun C hC hQ => ?_)
  have hC : qCk g C cX7_back RX7 1 (d + 4) := hC
  have hQ : qRt g C (some .int) (qI K) := hQ
  show qW g C 0 [some (.inr 0)] [] M
  refine qW.rm (fun hM => ?_)
  refine q_aload_n hC dX7_back_0 rfl rfl ?_
  refine q_geti hC fl_X7_33 ly_0 rfl (z := 4) rfl dX7_back_1 rfl ?_
  refine q_if_ne hC dX7_back_4 (t := 10) (by decide) rfl (hM 0 4) (fun c => ?_) (fun c => ?_)
  · have h := h.1 c
    refine q_aload_n hC dX7_back_10 rfl rfl ?_
    refine q_getr hC fl_X7_12 ly_0 rfl dX7_back_11 rfl ?_
    refine q_aload_n hC dX7_back_14 rfl rfl ?_
    refine q_getr hC fl_X7_16 ly_0 rfl dX7_back_15 rfl ?_
    refine q_callVv hC (As := [.inr 26]) md_X0_become mv_X0_become ml_X7_242 ly_1 rfl dX7_back_18 rfl (Nat.le_of_ble_eq_true rfl) rfl rfl h (fun M101 hM102 h => ?_)
    refine q_aload_n hC dX7_back_21 rfl rfl ?_
    refine q_iconst hC dX7_back_22 rfl ?_
    have hM103 : qIn (qU M101 0 5 1) := (qU_in hM102 (q_rz (by decide)))
    refine q_putz hC fp_X7_37 ly_0 rfl (z := 5) rfl dX7_back_23 rfl (by decide) ?_
    refine q_iconst hC dX7_back_26 rfl ?_
    exact q_iret hC hQ dX7_back_27 (by decide) h
  · have h := h.2 c
    refine q_bipush hC dX7_back_7 (by decide) rfl ?_
    exact q_iret hC hQ dX7_back_9 (by decide) h
set_option maxRecDepth 20000 in
theorem e_X7_makePlan {g : qG} {d : Nat} {M : qM} {K : qM → Prop}   (h : (((M 0 5) = 0 → (K M)) ∧ ((M 0 5) ≠ 0 → (qOk g (d + 4) j_X4_read [.inr 54, .inr 1, .inl (M 0 6)] M (qN fun M101 => qOk g (d + 4) j_X4_search [.inr 54] M101 (qN fun M103 => K (qU M103 0 5 0))))))) : qOk g (d + 5) j_X7_makePlan [.inr 0] M (qN K) := by
  refine qOk.of (by decide) (Nat.le_of_ble_eq_true rfl) (fun C hC hQ => ?_)
  have hC : qCk g C cX7_makePlan RX7 1 (d + 5) := hC
  have hQ : qRt g C none (qN K) := hQ
  show qW g C 0 [some (.inr 0)] [] M
  refine qW.rm (fun hM => ?_)
  refine q_aload_n hC dX7_makePlan_0 rfl rfl ?_
  refine q_geti hC fl_X7_37 ly_0 rfl (z := 5) rfl dX7_makePlan_1 rfl ?_
  refine q_if_eq hC dX7_makePlan_4 (t := 34) (by decide) rfl (hM 0 5) (fun c => ?_) (fun c => ?_)
  · have h := h.1 c
    exact q_vret hC hQ dX7_makePlan_34 h
  · have h := h.2 c
    refine q_aload_n hC dX7_makePlan_7 rfl rfl ?_
    refine q_getr hC fl_X7_29 ly_0 rfl dX7_makePlan_8 rfl ?_
    refine q_aload_n hC dX7_makePlan_11 rfl rfl ?_
    refine q_getr hC fl_X7_12 ly_0 rfl dX7_makePlan_12 rfl ?_
    refine q_aload_n hC dX7_makePlan_15 rfl rfl ?_
    refine q_geti hC fl_X7_40 ly_0 rfl (z := 6) rfl dX7_makePlan_16 rfl ?_
    refine q_callVv hC (As := [.inr 1, .inl (M 0 6)]) md_X4_read mv_X4_read ml_X7_245 ly_54 rfl dX7_makePlan_19 rfl (Nat.le_of_ble_eq_true rfl) rfl rfl h (fun M101 hM102 h => ?_)
    refine q_aload_n hC dX7_makePlan_22 rfl rfl ?_
    refine q_getr hC fl_X7_29 ly_0 rfl dX7_makePlan_23 rfl ?_
    refine q_callVv hC (As := []) md_X4_search mv_X4_search ml_X7_248 ly_54 rfl dX7_makePlan_26 rfl (Nat.le_of_ble_eq_true rfl) rfl rfl h (fun M103 hM104 h => ?_)
    refine q_aload_n hC dX7_makePlan_29 rfl rfl ?_
    refine q_iconst hC dX7_makePlan_30 rfl ?_
    have hM105 : qIn (qU M103 0 5 0) := (qU_in hM104 (q_rz (by decide)))
    refine q_putz hC fp_X7_37 ly_0 rfl (z := 5) rfl dX7_makePlan_31 rfl (by decide) ?_
    exact q_vret hC hQ dX7_makePlan_34 h
