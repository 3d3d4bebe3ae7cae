set_option maxRecDepth 20000 in
theorem e_X4_read {g : qG} {d : Nat} {M : qM} {K : qM → Prop} {x2 : Int} (hx2 : qR x2) (h : ∀ C : qX, qCk g C cX4_read RX4 5 (d + 2) → qRt g C none (qN K) → qW g C 2 [some (.inr 54), some (.inr 1), some (.inl x2), some (.inl 0), none] [] M) : qOk g (d + 2) j_X4_read [.inr 54, .inr 1, .inl x2] M (qN K) := by
  refine qOk.of (by decide) (Nat.le_of_ble_eq_true rfl) (fun C hC hQ => ?_)
  have hC : qCk g C cX4_read RX4 5 (d + 2) := hC
  have hQ : qRt g C none (qN K) := hQ
  have h := h C hC hQ
  show qW g C 0 [some (.inr 54), some (.inr 1), some (.inl x2), none, none] [] M
  refine qW.rm (fun hM => ?_)
  refine q_iconst hC dX4_read_0 rfl ?_
  refine q_istore_n hC dX4_read_1 (Nat.le_of_ble_eq_true rfl) (loc' := [some (.inr 54), some (.inr 1), some (.inl x2), some (.inl 0), none]) rfl rfl ?_
  exact h
set_option maxRecDepth 20000 in
theorem s_X4_read_2 {g : qG} {C : qX} {d : Nat} {M : qM} {K : qM → Prop} (hC : qCk g C cX4_read RX4 5 (d + 2)) (hQ : qRt g C none (qN K)) {x2 : Int} {x3 : Int} (hx2 : qR x2) (hx3 : qR x3) (h : ((5 ≤ x3 → (qW g C 31 [some (.inr 54), some (.inr 1), some (.inl x2), some (.inl 0), none] [] M)) ∧ (x3 < 5 → (qOk g (d + 1) j_X3_countFree [.inr 2, .inl x3] M (qI fun x103 M101 => (0 ≤ x3 ∧ x3 < 5) ∧ (qR (x2 * x103)) ∧ (qW g C 2 [some (.inr 54), some (.inr 1), some (.inl x2), some (.inl (x3 + 1)), none] [] (qU M101 56 x3 (x2 * x103)))))))) : qW g C 2 [some (.inr 54), some (.inr 1), some (.inl x2), some (.inl x3), none] [] M := by
  refine qW.rm (fun hM => ?_)
  refine q_iload_n hC dX4_read_2 rfl rfl ?_
  refine q_iconst hC dX4_read_3 rfl ?_
  refine q_icmp_ge hC dX4_read_4 (t := 29) (by decide) rfl hx3 (by decide) (fun c => ?_) (fun c => ?_)
  · have h := h.1 c
    refine q_iconst hC dX4_read_29 rfl ?_
    refine q_istore_n hC dX4_read_30 (Nat.le_of_ble_eq_true rfl) (loc' := [some (.inr 54), some (.inr 1), some (.inl x2), some (.inl 0), none]) rfl rfl ?_
    exact h
  · have h := h.2 c
    refine q_aload_n hC dX4_read_7 rfl rfl ?_
    refine q_getr hC fl_X4_15 ly_54 rfl dX4_read_8 rfl ?_
    refine q_iload_n hC dX4_read_11 rfl rfl ?_
    refine q_iload_n hC dX4_read_12 rfl rfl ?_
    refine q_aload_n hC dX4_read_13 rfl rfl ?_
    refine q_getr hC fl_X4_36 ly_1 rfl dX4_read_14 rfl ?_
    refine q_iload_n hC dX4_read_17 rfl rfl ?_
    refine q_callVi hC (As := [.inl x3]) md_X3_countFree mv_X3_countFree ml_X4_42 ly_2 rfl dX4_read_18 rfl (Nat.le_of_ble_eq_true rfl) rfl rfl h (fun x103 M101 hM102 r104 h => ?_)
    refine q_imul hC dX4_read_21 rfl ?_
    obtain ⟨r105, h⟩ := h
    obtain ⟨r106, h⟩ := h
    have hM107 : qIn (qU M101 56 x3 (x2 * x103)) := (qU_in hM102 r106)
    refine q_iast hC ly_56 dX4_read_22 rfl r105 r106 ?_
    refine q_iinc hC dX4_read_23 rfl (loc' := [some (.inr 54), some (.inr 1), some (.inl x2), some (.inl (x3 + 1)), none]) rfl rfl ?_
    refine q_goto hC dX4_read_26 (q := 2) (by decide) ?_
    exact h
set_option maxRecDepth 20000 in
theorem s_X4_read_31 {g : qG} {C : qX} {d : Nat} {M : qM} {K : qM → Prop} (hC : qCk g C cX4_read RX4 5 (d + 2)) (hQ : qRt g C none (qN K)) {x2 : Int} {x3 : Int} (hx2 : qR x2) (hx3 : qR x3) (h : ((15 ≤ x3 → (qW g C 66 [some (.inr 54), some (.inr 1), some (.inl x2), some (.inl 0), none] [] M)) ∧ (x3 < 15 → (0 ≤ x3) ∧ (0 ≤ (x3 % 3) ∧ (x3 % 3) < 3) ∧ (qOk g (d + 1) j_X4_readBars [.inl x3, .inl (M 24 (x3 % 3))] M (qI fun x105 M103 => (0 ≤ x3 ∧ x3 < 15) ∧ (qW g C 31 [some (.inr 54), some (.inr 1), some (.inl x2), some (.inl (x3 + 1)), none] [] (qU M103 58 x3 x105))))))) : qW g C 31 [some (.inr 54), some (.inr 1), some (.inl x2), some (.inl x3), none] [] M := by
  refine qW.rm (fun hM => ?_)
  refine q_iload_n hC dX4_read_31 rfl rfl ?_
  refine q_bipush hC dX4_read_32 (by decide) rfl ?_
  refine q_icmp_ge hC dX4_read_34 (t := 64) (by decide) rfl hx3 (by decide) (fun c => ?_) (fun c => ?_)
  · have h := h.1 c
    refine q_iconst hC dX4_read_64 rfl ?_
    refine q_istore_n hC dX4_read_65 (Nat.le_of_ble_eq_true rfl) (loc' := [some (.inr 54), some (.inr 1), some (.inl x2), some (.inl 0), none]) rfl rfl ?_
    exact h
  · have h := h.2 c
    refine q_aload_n hC dX4_read_37 rfl rfl ?_
    refine q_getr hC fl_X4_21 ly_54 rfl dX4_read_38 rfl ?_
    refine q_iload_n hC dX4_read_41 rfl rfl ?_
    refine q_iload_n hC dX4_read_42 rfl rfl ?_
    refine q_aload_n hC dX4_read_43 rfl rfl ?_
    refine q_getr hC fl_X4_48 ly_1 rfl dX4_read_44 rfl ?_
    refine q_getr hC fl_X4_52 ly_22 rfl dX4_read_47 rfl ?_
    refine q_iload_n hC dX4_read_50 rfl rfl ?_
    refine q_iconst hC dX4_read_51 rfl ?_
    obtain ⟨r101, h⟩ := h
    refine q_irem hC dX4_read_52 hx3 (by decide) r101 (by decide) rfl ?_
    obtain ⟨r102, h⟩ := h
    refine q_zald hC ly_24 dX4_read_53 rfl r102 ?_
    refine q_callSi hC (As := [.inl x3, .inl (M 24 (x3 % 3))]) md_X4_readBars ms_X4_readBars ml_X4_58 dX4_read_54 rfl (Nat.le_of_ble_eq_true rfl) rfl rfl h (fun x105 M103 hM104 r106 h => ?_)
    obtain ⟨r107, h⟩ := h
    have hM108 : qIn (qU M103 58 x3 x105) := (qU_in hM104 r106)
    refine q_iast hC ly_58 dX4_read_57 rfl r107 r106 ?_
    refine q_iinc hC dX4_read_58 rfl (loc' := [some (.inr 54), some (.inr 1), some (.inl x2), some (.inl (x3 + 1)), none]) rfl rfl ?_
    refine q_goto hC dX4_read_61 (q := 31) (by decide) ?_
    exact h
set_option maxRecDepth 20000 in
theorem s_X4_read_66 {g : qG} {C : qX} {d : Nat} {M : qM} {K : qM → Prop} (hC : qCk g C cX4_read RX4 5 (d + 2)) (hQ : qRt g C none (qN K)) {x2 : Int} {x3 : Int} (hx2 : qR x2) (hx3 : qR x3) (h : ((4 ≤ x3 → (qOk g (d + 1) j_X4_readHopes [.inr 54] M (qN fun M101 => K M101))) ∧ (x3 < 4 → (qOk g (d + 1) j_X3_countPatrol [.inr 2, .inl x3] M (qI fun x105 M103 => (0 ≤ x3 ∧ x3 < 4) ∧ (qW g C 88 [some (.inr 54), some (.inr 1), some (.inl x2), some (.inl x3), some (.inl 0)] [] (qU M103 55 x3 x105))))))) : qW g C 66 [some (.inr 54), some (.inr 1), some (.inl x2), some (.inl x3), none] [] M := by
  refine qW.rm (fun hM => ?_)
  refine q_iload_n hC dX4_read_66 rfl rfl ?_
  refine q_iconst hC dX4_read_67 rfl ?_
  refine q_icmp_ge hC dX4_read_68 (t := 130) (by decide) rfl hx3 (by decide) (fun c => ?_) (fun c => ?_)
  · have h := h.1 c
    refine q_aload_n hC dX4_read_130 rfl rfl ?_
    refine q_callVv hC (As := []) md_X4_readHopes mv_X4_readHopes ml_X4_69 ly_54 rfl dX4_read_131 rfl (Nat.le_of_ble_eq_true rfl) rfl rfl h (fun M101 hM102 h => ?_)
    exact q_vret hC hQ dX4_read_134 h
  · have h := h.2 c
    refine q_aload_n hC dX4_read_71 rfl rfl ?_
    refine q_getr hC fl_X4_9 ly_54 rfl dX4_read_72 rfl ?_
    refine q_iload_n hC dX4_read_75 rfl rfl ?_
    refine q_aload_n hC dX4_read_76 rfl rfl ?_
    refine q_getr hC fl_X4_36 ly_1 rfl dX4_read_77 rfl ?_
    refine q_iload_n hC dX4_read_80 rfl rfl ?_
    refine q_callVi hC (As := [.inl x3]) md_X3_countPatrol mv_X3_countPatrol ml_X4_62 ly_2 rfl dX4_read_81 rfl (Nat.le_of_ble_eq_true rfl) rfl rfl h (fun x105 M103 hM104 r106 h => ?_)
    obtain ⟨r107, h⟩ := h
    have hM108 : qIn (qU M103 55 x3 x105) := (qU_in hM104 r106)
    refine q_iast hC ly_55 dX4_read_84 rfl r107 r106 ?_
    refine q_iconst hC dX4_read_85 rfl ?_
    refine q_istore hC dX4_read_86 (Nat.le_of_ble_eq_true rfl) (loc' := [some (.inr 54), some (.inr 1), some (.inl x2), some (.inl x3), some (.inl 0)]) rfl rfl ?_
    exact h
set_option maxRecDepth 20000 in
theorem s_X4_read_88 {g : qG} {C : qX} {d : Nat} {M : qM} {K : qM → Prop} (hC : qCk g C cX4_read RX4 5 (d + 2)) (hQ : qRt g C none (qN K)) {x2 : Int} {x3 : Int} {x4 : Int} (hx2 : qR x2) (hx3 : qR x3) (hx4 : qR x4) (h : ((15 ≤ x4 → (qW g C 66 [some (.inr 54), some (.inr 1), some (.inl x2), some (.inl (x3 + 1)), none] [] M)) ∧ (x4 < 15 → (qOk g (d + 1) j_X4_readOffer [.inr 54, .inr 22, .inl x3, .inl x4] M (qI fun x103 M101 => (0 ≤ ((x3 * 15) + x4) ∧ ((x3 * 15) + x4) < 60) ∧ (qW g C 88 [some (.inr 54), some (.inr 1), some (.inl x2), some (.inl x3), some (.inl (x4 + 1))] [] (qU M101 57 ((x3 * 15) + x4) x103))))))) : qW g C 88 [some (.inr 54), some (.inr 1), some (.inl x2), some (.inl x3), some (.inl x4)] [] M := by
  refine qW.rm (fun hM => ?_)
  refine q_iload hC dX4_read_88 rfl rfl ?_
  refine q_bipush hC dX4_read_90 (by decide) rfl ?_
  refine q_icmp_ge hC dX4_read_92 (t := 124) (by decide) rfl hx4 (by decide) (fun c => ?_) (fun c => ?_)
  · have h := h.1 c
    refine q_iinc hC dX4_read_124 rfl (loc' := [some (.inr 54), some (.inr 1), some (.inl x2), some (.inl (x3 + 1)), some (.inl x4)]) rfl rfl ?_
    refine q_goto hC dX4_read_127 (q := 66) (by decide) ?_
    refine qW.kill 4 (loc' := [some (.inr 54), some (.inr 1), some (.inl x2), some (.inl (x3 + 1)), none]) rfl ?_
    exact h
  · have h := h.2 c
    refine q_aload_n hC dX4_read_95 rfl rfl ?_
    refine q_getr hC fl_X4_18 ly_54 rfl dX4_read_96 rfl ?_
    refine q_iload_n hC dX4_read_99 rfl rfl ?_
    refine q_bipush hC dX4_read_100 (by decide) rfl ?_
    refine q_imul hC dX4_read_102 rfl ?_
    refine q_iload hC dX4_read_103 rfl rfl ?_
    refine q_iadd hC dX4_read_105 rfl ?_
    refine q_aload_n hC dX4_read_106 rfl rfl ?_
    refine q_aload_n hC dX4_read_107 rfl rfl ?_
    refine q_getr hC fl_X4_48 ly_1 rfl dX4_read_108 rfl ?_
    refine q_iload_n hC dX4_read_111 rfl rfl ?_
    refine q_iload hC dX4_read_112 rfl rfl ?_
    refine q_callVi hC (As := [.inr 22, .inl x3, .inl x4]) md_X4_readOffer mv_X4_readOffer ml_X4_65 ly_54 rfl dX4_read_114 rfl (Nat.le_of_ble_eq_true rfl) rfl rfl h (fun x103 M101 hM102 r104 h => ?_)
    obtain ⟨r105, h⟩ := h
    have hM106 : qIn (qU M101 57 ((x3 * 15) + x4) x103) := (qU_in hM102 r104)
    refine q_iast hC ly_57 dX4_read_117 rfl r105 r104 ?_
    refine q_iinc hC dX4_read_118 rfl (loc' := [some (.inr 54), some (.inr 1), some (.inl x2), some (.inl x3), some (.inl (x4 + 1))]) rfl rfl ?_
    refine q_goto hC dX4_read_121 (q := 88) (by decide) ?_
    exact h
set_option maxRecDepth 20000 in
theorem e_X4_readBars {g : qG} {d : Nat} {M : qM} {K : Int → qM → Prop} {x0 : Int} {x1 : Int} (hx0 : qR x0) (hx1 : qR x1) (h : ((x1 = 0 → (K (qShl 1 x0) M)) ∧ (x1 ≠ 0 → (K (qOr (qOr (qShl 1 x0) (qShl (qShl 1 x0) 3)) (qShr (qShl 1 x0) 3)) M)))) : qOk g d j_X4_readBars [.inl x0, .inl x1] M (qI K) := by
  refine qOk.of (by decide) (Nat.le_of_ble_eq_true rfl) (fun C hC hQ => ?_)
  have hC : qCk g C cX4_readBars RX4 3 d := hC
  have hQ : qRt g C (some .int) (qI K) := hQ
  show qW g C 0 [some (.inl x0), some (.inl x1), none] [] M
  refine qW.rm (fun hM => ?_)
  refine q_iconst hC dX4_readBars_0 rfl ?_
  refine q_iload_n hC dX4_readBars_1 rfl rfl ?_
  refine q_ishl hC dX4_readBars_2 rfl ?_
  refine q_istore_n hC dX4_readBars_3 (Nat.le_of_ble_eq_true rfl) (loc' := [some (.inl x0), some (.inl x1), some (.inl (qShl 1 x0))]) rfl rfl ?_
  refine q_iload_n hC dX4_readBars_4 rfl rfl ?_
  refine q_if_eq hC dX4_readBars_5 (t := 20) (by decide) rfl hx1 (fun c => ?_) (fun c => ?_)
  · have h := h.1 c
    refine q_iload_n hC dX4_readBars_20 rfl rfl ?_
    exact q_iret hC hQ dX4_readBars_21 (qR_shl _ _) h
  · have h := h.2 c
    refine q_iload_n hC dX4_readBars_8 rfl rfl ?_
    refine q_iload_n hC dX4_readBars_9 rfl rfl ?_
    refine q_iconst hC dX4_readBars_10 rfl ?_
    refine q_ishl hC dX4_readBars_11 rfl ?_
    refine q_ior hC dX4_readBars_12 rfl ?_
    refine q_iload_n hC dX4_readBars_13 rfl rfl ?_
    refine q_iconst hC dX4_readBars_14 rfl ?_
    refine q_ishr hC dX4_readBars_15 rfl ?_
    refine q_ior hC dX4_readBars_16 rfl ?_
    refine q_goto hC dX4_readBars_17 (q := 21) (by decide) ?_
    exact q_iret hC hQ dX4_readBars_21 (qR_or _ _) h
set_option maxRecDepth 20000 in
theorem e_X4_readOffer {g : qG} {d : Nat} {M : qM} {K : Int → qM → Prop} {x2 : Int} {x3 : Int} (hx2 : qR x2) (hx3 : qR x3) (h : (0 ≤ x3) ∧ (0 ≤ x2 ∧ x2 < 4) ∧ (((M 55 x2) = 0 → (K 0 M)) ∧ ((M 55 x2) ≠ 0 → (qR (x3 % 3)) ∧ (((M 22 0) ≤ (x3 % 3) → (K 0 M)) ∧ ((x3 % 3) < (M 22 0) → (0 ≤ (x3 % 3) ∧ (x3 % 3) < 3) ∧ (((M 23 (x3 % 3)) < (M 55 x2) → (K 0 M)) ∧ ((M 55 x2) ≤ (M 23 (x3 % 3)) → (0 ≤ x3) ∧ (0 ≤ (x3 / 3) ∧ (x3 / 3) < 5) ∧ (((M 55 x2) ≤ (M 56 (x3 / 3)) → (0 ≤ ((x2 * 15) + x3) ∧ ((x2 * 15) + x3) < 60) ∧ (K (M 25 ((x2 * 15) + x3)) M)) ∧ ((M 56 (x3 / 3)) < (M 55 x2) → (K 0 M)))))))))) : qOk g d j_X4_readOffer [.inr 54, .inr 22, .inl x2, .inl x3] M (qI K) := by
  refine qOk.of (by decide) (Nat.le_of_ble_eq_true rfl) (fun C hC hQ => ?_)
  have hC : qCk g C cX4_readOffer RX4 6 d := hC
  have hQ : qRt g C (some .int) (qI K) := hQ
  show qW g C 0 [some (.inr 54), some (.inr 22), some (.inl x2), some (.inl x3), none, none] [] M
  refine qW.rm (fun hM => ?_)
  refine q_iload_n hC dX4_readOffer_0 rfl rfl ?_
  refine q_iconst hC dX4_readOffer_1 rfl ?_
  obtain ⟨r101, h⟩ := h
  refine q_irem hC dX4_readOffer_2 hx3 (by decide) r101 (by decide) rfl ?_
  refine q_istore hC dX4_readOffer_3 (Nat.le_of_ble_eq_true rfl) (loc' := [some (.inr 54), some (.inr 22), some (.inl x2), some (.inl x3), some (.inl (x3 % 3)), none]) rfl rfl ?_
  refine q_aload_n hC dX4_readOffer_5 rfl rfl ?_
  refine q_getr hC fl_X4_9 ly_54 rfl dX4_readOffer_6 rfl ?_
  refine q_iload_n hC dX4_readOffer_9 rfl rfl ?_
  obtain ⟨r102, h⟩ := h
  refine q_iald hC ly_55 dX4_readOffer_10 rfl r102 ?_
  refine q_istore hC dX4_readOffer_11 (Nat.le_of_ble_eq_true rfl) (loc' := [some (.inr 54), some (.inr 22), some (.inl x2), some (.inl x3), some (.inl (x3 % 3)), some (.inl (M 55 x2))]) rfl rfl ?_
  refine q_iload hC dX4_readOffer_13 rfl rfl ?_
  refine q_if_eq hC dX4_readOffer_15 (t := 52) (by decide) rfl (hM 55 x2) (fun c => ?_) (fun c => ?_)
  · have h := h.1 c
    refine q_iconst hC dX4_readOffer_52 rfl ?_
    exact q_iret hC hQ dX4_readOffer_53 (by decide) h
  · have h := h.2 c
    refine q_iload hC dX4_readOffer_18 rfl rfl ?_
    refine q_aload_n hC dX4_readOffer_20 rfl rfl ?_
    refine q_geti hC fl_X4_72 ly_22 rfl (z := 0) rfl dX4_readOffer_21 rfl ?_
    obtain ⟨r103, h⟩ := h
    refine q_icmp_ge hC dX4_readOffer_24 (t := 52) (by decide) rfl r103 (hM 22 0) (fun c => ?_) (fun c => ?_)
    · have h := h.1 c
      refine q_iconst hC dX4_readOffer_52 rfl ?_
      exact q_iret hC hQ dX4_readOffer_53 (by decide) h
    · have h := h.2 c
      refine q_iload hC dX4_readOffer_27 rfl rfl ?_
      refine q_aload_n hC dX4_readOffer_29 rfl rfl ?_
      refine q_getr hC fl_X4_76 ly_22 rfl dX4_readOffer_30 rfl ?_
      refine q_iload hC dX4_readOffer_33 rfl rfl ?_
      obtain ⟨r104, h⟩ := h
      refine q_iald hC ly_23 dX4_readOffer_35 rfl r104 ?_
      refine q_icmp_gt hC dX4_readOffer_36 (t := 52) (by decide) rfl (hM 55 x2) (hM 23 (x3 % 3)) (fun c => ?_) (fun c => ?_)
      · have h := h.1 c
        refine q_iconst hC dX4_readOffer_52 rfl ?_
        exact q_iret hC hQ dX4_readOffer_53 (by decide) h
      · have h := h.2 c
        refine q_iload hC dX4_readOffer_39 rfl rfl ?_
        refine q_aload_n hC dX4_readOffer_41 rfl rfl ?_
        refine q_getr hC fl_X4_15 ly_54 rfl dX4_readOffer_42 rfl ?_
        refine q_iload_n hC dX4_readOffer_45 rfl rfl ?_
        refine q_iconst hC dX4_readOffer_46 rfl ?_
        obtain ⟨r105, h⟩ := h
        refine q_idiv hC dX4_readOffer_47 hx3 (by decide) r105 (by decide) rfl ?_
        obtain ⟨r106, h⟩ := h
        refine q_iald hC ly_56 dX4_readOffer_48 rfl r106 ?_
        refine q_icmp_le hC dX4_readOffer_49 (t := 54) (by decide) rfl (hM 55 x2) (hM 56 (x3 / 3)) (fun c => ?_) (fun c => ?_)
        · have h := h.1 c
          refine q_aload_n hC dX4_readOffer_54 rfl rfl ?_
          refine q_getr hC fl_X4_79 ly_22 rfl dX4_readOffer_55 rfl ?_
          refine q_iload_n hC dX4_readOffer_58 rfl rfl ?_
          refine q_bipush hC dX4_readOffer_59 (by decide) rfl ?_
          refine q_imul hC dX4_readOffer_61 rfl ?_
          refine q_iload_n hC dX4_readOffer_62 rfl rfl ?_
          refine q_iadd hC dX4_readOffer_63 rfl ?_
          obtain ⟨r107, h⟩ := h
          refine q_iald hC ly_25 dX4_readOffer_64 rfl r107 ?_
          exact q_iret hC hQ dX4_readOffer_65 (hM 25 ((x2 * 15) + x3)) h
        · have h := h.2 c
          refine q_iconst hC dX4_readOffer_52 rfl ?_
          exact q_iret hC hQ dX4_readOffer_53 (by decide) h
set_option maxRecDepth 20000 in
theorem e_X4_readHopes {g : qG} {d : Nat} {M : qM} {K : qM → Prop}   (h : ∀ C : qX, qCk g C cX4_readHopes RX4 4 (d + 1) → qRt g C none (qN K) → qW g C 16 [some (.inr 54), some (.inl 3), none, none] [] (qU (qU M 59 4 0) 60 4 0)) : qOk g (d + 1) j_X4_readHopes [.inr 54] M (qN K) := by
  refine qOk.of (by decide) (Nat.le_of_ble_eq_true rfl) (fun C hC hQ => ?_)
  have hC : qCk g C cX4_readHopes RX4 4 (d + 1) := hC
  have hQ : qRt g C none (qN K) := hQ
  have h := h C hC hQ
  show qW g C 0 [some (.inr 54), none, none, none] [] M
  refine qW.rm (fun hM => ?_)
  refine q_aload_n hC dX4_readHopes_0 rfl rfl ?_
  refine q_getr hC fl_X4_24 ly_54 rfl dX4_readHopes_1 rfl ?_
  refine q_iconst hC dX4_readHopes_4 rfl ?_
  refine q_iconst hC dX4_readHopes_5 rfl ?_
  have hM101 : qIn (qU M 59 4 0) := (qU_in hM (by decide))
  refine q_iast hC ly_59 dX4_readHopes_6 rfl (by decide) (by decide) ?_
  refine q_aload_n hC dX4_readHopes_7 rfl rfl ?_
  refine q_getr hC fl_X4_27 ly_54 rfl dX4_readHopes_8 rfl ?_
  refine q_iconst hC dX4_readHopes_11 rfl ?_
  refine q_iconst hC dX4_readHopes_12 rfl ?_
  have hM102 : qIn (qU (qU M 59 4 0) 60 4 0) := (qU_in hM101 (by decide))
  refine q_iast hC ly_60 dX4_readHopes_13 rfl (by decide) (by decide) ?_
  refine q_iconst hC dX4_readHopes_14 rfl ?_
  refine q_istore_n hC dX4_readHopes_15 (Nat.le_of_ble_eq_true rfl) (loc' := [some (.inr 54), some (.inl 3), none, none]) rfl rfl ?_
  exact h
set_option maxRecDepth 20000 in
theorem s_X4_readHopes_16 {g : qG} {C : qX} {d : Nat} {M : qM} {K : qM → Prop} (hC : qCk g C cX4_readHopes RX4 4 (d + 1)) (hQ : qRt g C none (qN K)) {x1 : Int} (hx1 : qR x1) (h : ((x1 < 0 → (K M)) ∧ (0 ≤ x1 → (qW g C 24 [some (.inr 54), some (.inl x1), some (.inl 0), some (.inl 0)] [] M)))) : qW g C 16 [some (.inr 54), some (.inl x1), none, none] [] M := by
  refine qW.rm (fun hM => ?_)
  refine q_iload_n hC dX4_readHopes_16 rfl rfl ?_
  refine q_if_lt hC dX4_readHopes_17 (t := 98) (by decide) rfl hx1 (fun c => ?_) (fun c => ?_)
  · have h := h.1 c
    exact q_vret hC hQ dX4_readHopes_98 h
  · have h := h.2 c
    refine q_iconst hC dX4_readHopes_20 rfl ?_
    refine q_istore_n hC dX4_readHopes_21 (Nat.le_of_ble_eq_true rfl) (loc' := [some (.inr 54), some (.inl x1), some (.inl 0), none]) rfl rfl ?_
    refine q_iconst hC dX4_readHopes_22 rfl ?_
    refine q_istore_n hC dX4_readHopes_23 (Nat.le_of_ble_eq_true rfl) (loc' := [some (.inr 54), some (.inl x1), some (.inl 0), some (.inl 0)]) rfl rfl ?_
    exact h
set_option maxRecDepth 20000 in
theorem s_X4_readHopes_24 {g : qG} {C : qX} {d : Nat} {M : qM} {K : qM → Prop} (hC : qCk g C cX4_readHopes RX4 4 (d + 1)) (hQ : qRt g C none (qN K)) {x1 : Int} {x2 : Int} {x3 : Int} (hx1 : qR x1) (hx2 : qR x2) (hx3 : qR x3) (h : ((15 ≤ x3 → (0 ≤ (x1 + 1) ∧ (x1 + 1) < 5) ∧ (0 ≤ x1 ∧ x1 < 5) ∧ (qR ((M 59 (x1 + 1)) + x2)) ∧ ((x2 ≤ 0 → (qR (((qU M 59 x1 ((M 59 (x1 + 1)) + x2)) 60 (x1 + 1)) + 0)) ∧ (qW g C 16 [some (.inr 54), some (.inl (x1 + (-1))), none, none] [] (qU (qU M 59 x1 ((M 59 (x1 + 1)) + x2)) 60 x1 (((qU M 59 x1 ((M 59 (x1 + 1)) + x2)) 60 (x1 + 1)) + 0)))) ∧ (0 < x2 → (qR (((qU M 59 x1 ((M 59 (x1 + 1)) + x2)) 60 (x1 + 1)) + 1)) ∧ (qW g C 16 [some (.inr 54), some (.inl (x1 + (-1))), none, none] [] (qU (qU M 59 x1 ((M 59 (x1 + 1)) + x2)) 60 x1 (((qU M 59 x1 ((M 59 (x1 + 1)) + x2)) 60 (x1 + 1)) + 1)))))) ∧ (x3 < 15 → (0 ≤ ((x1 * 15) + x3) ∧ ((x1 * 15) + x3) < 60) ∧ (qW g C 24 [some (.inr 54), some (.inl x1), some (.inl (max x2 (M 57 ((x1 * 15) + x3)))), some (.inl (x3 + 1))] [] M)))) : qW g C 24 [some (.inr 54), some (.inl x1), some (.inl x2), some (.inl x3)] [] M := by
  refine qW.rm (fun hM => ?_)
  refine q_iload_n hC dX4_readHopes_24 rfl rfl ?_
  refine q_bipush hC dX4_readHopes_25 (by decide) rfl ?_
  refine q_icmp_ge hC dX4_readHopes_27 (t := 52) (by decide) rfl hx3 (by decide) (fun c => ?_) (fun c => ?_)
  · have h := h.1 c
    refine q_aload_n hC dX4_readHopes_52 rfl rfl ?_
    refine q_getr hC fl_X4_24 ly_54 rfl dX4_readHopes_53 rfl ?_
    refine q_iload_n hC dX4_readHopes_56 rfl rfl ?_
    refine q_aload_n hC dX4_readHopes_57 rfl rfl ?_
    refine q_getr hC fl_X4_24 ly_54 rfl dX4_readHopes_58 rfl ?_
    refine q_iload_n hC dX4_readHopes_61 rfl rfl ?_
    refine q_iconst hC dX4_readHopes_62 rfl ?_
    refine q_iadd hC dX4_readHopes_63 rfl ?_
    obtain ⟨r101, h⟩ := h
    refine q_iald hC ly_59 dX4_readHopes_64 rfl r101 ?_
    refine q_iload_n hC dX4_readHopes_65 rfl rfl ?_
    refine q_iadd hC dX4_readHopes_66 rfl ?_
    obtain ⟨r102, h⟩ := h
    obtain ⟨r103, h⟩ := h
    have hM104 : qIn (qU M 59 x1 ((M 59 (x1 + 1)) + x2)) := (qU_in hM r103)
    refine q_iast hC ly_59 dX4_readHopes_67 rfl r102 r103 ?_
    refine q_aload_n hC dX4_readHopes_68 rfl rfl ?_
    refine q_getr hC fl_X4_27 ly_54 rfl dX4_readHopes_69 rfl ?_
    refine q_iload_n hC dX4_readHopes_72 rfl rfl ?_
    refine q_aload_n hC dX4_readHopes_73 rfl rfl ?_
    refine q_getr hC fl_X4_27 ly_54 rfl dX4_readHopes_74 rfl ?_
    refine q_iload_n hC dX4_readHopes_77 rfl rfl ?_
    refine q_iconst hC dX4_readHopes_78 rfl ?_
    refine q_iadd hC dX4_readHopes_79 rfl ?_
    refine q_iald hC ly_60 dX4_readHopes_80 rfl r101 ?_
    refine q_iload_n hC dX4_readHopes_81 rfl rfl ?_
    refine q_if_le hC dX4_readHopes_82 (t := 89) (by decide) rfl hx2 (fun c => ?_) (fun c => ?_)
    · have h := h.1 c
      refine q_iconst hC dX4_readHopes_89 rfl ?_
      refine q_iadd hC dX4_readHopes_90 rfl ?_
      obtain ⟨r105, h⟩ := h
      have hM106 : qIn (qU (qU M 59 x1 ((M 59 (x1 + 1)) + x2)) 60 x1 (((qU M 59 x1 ((M 59 (x1 + 1)) + x2)) 60 (x1 + 1)) + 0)) := (qU_in hM104 r105)
      refine q_iast hC ly_60 dX4_readHopes_91 rfl r102 r105 ?_
      refine q_iinc hC dX4_readHopes_92 rfl (loc' := [some (.inr 54), some (.inl (x1 + (-1))), some (.inl x2), some (.inl x3)]) rfl rfl ?_
      refine q_goto hC dX4_readHopes_95 (q := 16) (by decide) ?_
      refine qW.kill 2 (loc' := [some (.inr 54), some (.inl (x1 + (-1))), none, some (.inl x3)]) rfl ?_
      refine qW.kill 3 (loc' := [some (.inr 54), some (.inl (x1 + (-1))), none, none]) rfl ?_
      exact h
    · have h := h.2 c
      refine q_iconst hC dX4_readHopes_85 rfl ?_
      refine q_goto hC dX4_readHopes_86 (q := 90) (by decide) ?_
      refine q_iadd hC dX4_readHopes_90 rfl ?_
      obtain ⟨r107, h⟩ := h
      have hM108 : qIn (qU (qU M 59 x1 ((M 59 (x1 + 1)) + x2)) 60 x1 (((qU M 59 x1 ((M 59 (x1 + 1)) + x2)) 60 (x1 + 1)) + 1)) := (qU_in hM104 r107)
      refine q_iast hC ly_60 dX4_readHopes_91 rfl r102 r107 ?_
      refine q_iinc hC dX4_readHopes_92 rfl (loc' := [some (.inr 54), some (.inl (x1 + (-1))), some (.inl x2), some (.inl x3)]) rfl rfl ?_
      refine q_goto hC dX4_readHopes_95 (q := 16) (by decide) ?_
      refine qW.kill 2 (loc' := [some (.inr 54), some (.inl (x1 + (-1))), none, some (.inl x3)]) rfl ?_
      refine qW.kill 3 (loc' := [some (.inr 54), some (.inl (x1 + (-1))), none, none]) rfl ?_
      exact h
  · have h := h.2 c
    refine q_iload_n hC dX4_readHopes_30 rfl rfl ?_
    refine q_aload_n hC dX4_readHopes_31 rfl rfl ?_
    refine q_getr hC fl_X4_18 ly_54 rfl dX4_readHopes_32 rfl ?_
    refine q_iload_n hC dX4_readHopes_35 rfl rfl ?_
    refine q_bipush hC dX4_readHopes_36 (by decide) rfl ?_
    refine q_imul hC dX4_readHopes_38 rfl ?_
    refine q_iload_n hC dX4_readHopes_39 rfl rfl ?_
    refine q_iadd hC dX4_readHopes_40 rfl ?_
    obtain ⟨r109, h⟩ := h
    refine q_iald hC ly_57 dX4_readHopes_41 rfl r109 ?_
    refine q_mmax hC ml_X4_82 mm_max dX4_readHopes_42 (Nat.le_of_ble_eq_true rfl) rfl rfl hx2 (hM 57 ((x1 * 15) + x3)) ?_
    refine q_istore_n hC dX4_readHopes_45 (Nat.le_of_ble_eq_true rfl) (loc' := [some (.inr 54), some (.inl x1), some (.inl (max x2 (M 57 ((x1 * 15) + x3)))), some (.inl x3)]) rfl rfl ?_
    refine q_iinc hC dX4_readHopes_46 rfl (loc' := [some (.inr 54), some (.inl x1), some (.inl (max x2 (M 57 ((x1 * 15) + x3)))), some (.inl (x3 + 1))]) rfl rfl ?_
    refine q_goto hC dX4_readHopes_49 (q := 24) (by decide) ?_
    exact h
set_option maxRecDepth 20000 in
theorem e_X4_search {g : qG} {d : Nat} {M : qM} {K : qM → Prop}   (h : qOk g (d + 3) j_J7_fill_53178 [.inr 62, .inl (-1)] M (qN fun M101 => qOk g (d + 3) j_X4_seek [.inr 54, .inl 0, .inl 0, .inl 0, .inl 0] (qU (qU M101 54 8 0) 54 9 0) (qN fun M105 => K M105))) : qOk g (d + 4) j_X4_search [.inr 54] M (qN K) := by
  refine qOk.of (by decide) (Nat.le_of_ble_eq_true rfl) (fun C hC hQ => ?_)
  have hC : qCk g C cX4_search RX4 1 (d + 4) := hC
  have hQ : qRt g C none (qN K) := hQ
  show qW g C 0 [some (.inr 54)] [] M
  refine qW.rm (fun hM => ?_)
  refine q_aload_n hC dX4_search_0 rfl rfl ?_
  refine q_getr hC fl_X4_33 ly_54 rfl dX4_search_1 rfl ?_
  refine q_iconst hC dX4_search_4 rfl ?_
  refine q_callSv hC (As := [.inr 62, .inl (-1)]) md_J7_fill_53178 ms_J7_fill_53178 ml_X4_88 dX4_search_5 rfl (Nat.le_of_ble_eq_true rfl) rfl rfl h (fun M101 hM102 h => ?_)
  refine q_aload_n hC dX4_search_8 rfl rfl ?_
  refine q_iconst hC dX4_search_9 rfl ?_
  have hM103 : qIn (qU M101 54 8 0) := (qU_in hM102 (by decide))
  refine q_puti hC fp_X4_94 ly_54 rfl (z := 8) rfl dX4_search_10 rfl (by decide) ?_
  refine q_aload_n hC dX4_search_13 rfl rfl ?_
  refine q_iconst hC dX4_search_14 rfl ?_
  have hM104 : qIn (qU (qU M101 54 8 0) 54 9 0) := (qU_in hM103 (by decide))
  refine q_puti hC fp_X4_97 ly_54 rfl (z := 9) rfl dX4_search_15 rfl (by decide) ?_
  refine q_aload_n hC dX4_search_18 rfl rfl ?_
  refine q_iconst hC dX4_search_19 rfl ?_
  refine q_iconst hC dX4_search_20 rfl ?_
  refine q_iconst hC dX4_search_21 rfl ?_
  refine q_iconst hC dX4_search_22 rfl ?_
  refine q_callSv hC (As := [.inr 54, .inl 0, .inl 0, .inl 0, .inl 0]) md_X4_seek ms_X4_seek ml_X4_100 dX4_search_23 rfl (Nat.le_of_ble_eq_true rfl) rfl rfl h (fun M105 hM106 h => ?_)
  exact q_vret hC hQ dX4_search_26 h
set_option maxRecDepth 20000 in
theorem e_X4_seek {g : qG} {d : Nat} {M : qM} {K : qM → Prop} {x1 : Int} {x2 : Int} {x3 : Int} {x4 : Int} (hx1 : qR x1) (hx2 : qR x2) (hx3 : qR x3) (hx4 : qR x4) (h : ∀ C : qX, qCk g C cX4_seek RX4 9 (d + 1) → qRt g C none (qN K) → qOk g d j_X4_isNoBetter [.inr 54, .inl x1, .inl x3, .inl x4] M (qI fun x103 M101 => ((x103 = 0 → ((x1 < 4 → (0 ≤ x1 ∧ x1 < 4) ∧ (qW g C 36 [some (.inr 54), some (.inl x1), some (.inl x2), some (.inl x3), some (.inl x4), some (.inl (M101 55 x1)), some (.inl 0), none, none] [] M101)) ∧ (4 ≤ x1 → (qOk g d j_X4_takeTried [.inr 54, .inl x3, .inl x4] M101 (qN fun M106 => K M106))))) ∧ (x103 ≠ 0 → (K M101))))) : qOk g (d + 1) j_X4_seek [.inr 54, .inl x1, .inl x2, .inl x3, .inl x4] M (qN K) := by
  refine qOk.of (by decide) (Nat.le_of_ble_eq_true rfl) (fun C hC hQ => ?_)
  have hC : qCk g C cX4_seek RX4 9 (d + 1) := hC
  have hQ : qRt g C none (qN K) := hQ
  have h := h C hC hQ
  show qW g C 0 [some (.inr 54), some (.inl x1), some (.inl x2), some (.inl x3), some (.inl x4), none, none, none, none] [] M
  refine qW.rm (fun hM => ?_)
  refine q_aload_n hC dX4_seek_0 rfl rfl ?_
  refine q_iload_n hC dX4_seek_1 rfl rfl ?_
  refine q_iload_n hC dX4_seek_2 rfl rfl ?_
  refine q_iload hC dX4_seek_3 rfl rfl ?_
  refine q_callVi hC (As := [.inl x1, .inl x3, .inl x4]) md_X4_isNoBetter mv_X4_isNoBetter ml_X4_104 ly_54 rfl dX4_seek_5 rfl (Nat.le_of_ble_eq_true rfl) rfl rfl h (fun x103 M101 hM102 r104 h => ?_)
  refine q_if_eq hC dX4_seek_8 (t := 12) (by decide) rfl r104 (fun c => ?_) (fun c => ?_)
  · have h := h.1 c
    refine q_iload_n hC dX4_seek_12 rfl rfl ?_
    refine q_iconst hC dX4_seek_13 rfl ?_
    refine q_icmp_lt hC dX4_seek_14 (t := 25) (by decide) rfl hx1 (by decide) (fun c => ?_) (fun c => ?_)
    · have h := h.1 c
      refine q_aload_n hC dX4_seek_25 rfl rfl ?_
      refine q_getr hC fl_X4_9 ly_54 rfl dX4_seek_26 rfl ?_
      refine q_iload_n hC dX4_seek_29 rfl rfl ?_
      obtain ⟨r105, h⟩ := h
      refine q_iald hC ly_55 dX4_seek_30 rfl r105 ?_
      refine q_istore hC dX4_seek_31 (Nat.le_of_ble_eq_true rfl) (loc' := [some (.inr 54), some (.inl x1), some (.inl x2), some (.inl x3), some (.inl x4), some (.inl (M101 55 x1)), none, none, none]) rfl rfl ?_
      refine q_iconst hC dX4_seek_33 rfl ?_
      refine q_istore hC dX4_seek_34 (Nat.le_of_ble_eq_true rfl) (loc' := [some (.inr 54), some (.inl x1), some (.inl x2), some (.inl x3), some (.inl x4), some (.inl (M101 55 x1)), some (.inl 0), none, none]) rfl rfl ?_
      exact h
    · have h := h.2 c
      refine q_aload_n hC dX4_seek_17 rfl rfl ?_
      refine q_iload_n hC dX4_seek_18 rfl rfl ?_
      refine q_iload hC dX4_seek_19 rfl rfl ?_
      refine q_callVv hC (As := [.inl x3, .inl x4]) md_X4_takeTried mv_X4_takeTried ml_X4_108 ly_54 rfl dX4_seek_21 rfl (Nat.le_of_ble_eq_true rfl) rfl rfl h (fun M106 hM107 h => ?_)
      exact q_vret hC hQ dX4_seek_24 h
  · have h := h.2 c
    exact q_vret hC hQ dX4_seek_11 h
set_option maxRecDepth 20000 in
theorem s_X4_seek_36 {g : qG} {C : qX} {d : Nat} {M : qM} {K : qM → Prop} (hC : qCk g C cX4_seek RX4 9 (d + 1)) (hQ : qRt g C none (qN K)) {x1 : Int} {x2 : Int} {x3 : Int} {x4 : Int} {x5 : Int} {x6 : Int} (hx1 : qR x1) (hx2 : qR x2) (hx3 : qR x3) (hx4 : qR x4) (hx5 : qR x5) (hx6 : qR x6) (h : ((15 ≤ x6 → (0 ≤ x1 ∧ x1 < 4) ∧ (qOk g d j_X4_seek [.inr 54, .inl (x1 + 1), .inl x2, .inl x3, .inl x4] (qU M 61 x1 (-1)) (qN fun M103 => K M103))) ∧ (x6 < 15 → (0 ≤ ((x1 * 15) + x6) ∧ ((x1 * 15) + x6) < 60) ∧ (0 ≤ x6) ∧ (((M 57 ((x1 * 15) + x6)) ≤ 0 → (qW g C 36 [some (.inr 54), some (.inl x1), some (.inl x2), some (.inl x3), some (.inl x4), some (.inl x5), some (.inl (x6 + 1)), none, none] [] M)) ∧ (0 < (M 57 ((x1 * 15) + x6)) → (0 ≤ x6 ∧ x6 < 15) ∧ (((qAnd x2 (M 58 x6)) ≠ 0 → (qW g C 36 [some (.inr 54), some (.inl x1), some (.inl x2), some (.inl x3), some (.inl x4), some (.inl x5), some (.inl (x6 + 1)), none, none] [] M)) ∧ ((qAnd x2 (M 58 x6)) = 0 → (0 ≤ (x6 / 3) ∧ (x6 / 3) < 5) ∧ (((M 56 (x6 / 3)) < x5 → (qW g C 36 [some (.inr 54), some (.inl x1), some (.inl x2), some (.inl x3), some (.inl x4), some (.inl x5), some (.inl (x6 + 1)), none, none] [] M)) ∧ (x5 ≤ (M 56 (x6 / 3)) → (0 ≤ x1 ∧ x1 < 4) ∧ (qR (((qU M 61 x1 x6) 56 (x6 / 3)) - x5)) ∧ (qOk g d j_X4_seek [.inr 54, .inl (x1 + 1), .inl (qOr x2 (qShl 1 x6)), .inl (x3 + (M 57 ((x1 * 15) + x6))), .inl (x4 + 1)] (qU (qU M 61 x1 x6) 56 (x6 / 3) (((qU M 61 x1 x6) 56 (x6 / 3)) - x5)) (qN fun M113 => (qR ((M113 56 (x6 / 3)) + x5)) ∧ (qW g C 36 [some (.inr 54), some (.inl x1), some (.inl x2), some (.inl x3), some (.inl x4), some (.inl x5), some (.inl (x6 + 1)), none, none] [] (qU M113 56 (x6 / 3) ((M113 56 (x6 / 3)) + x5)))))))))))))) : qW g C 36 [some (.inr 54), some (.inl x1), some (.inl x2), some (.inl x3), some (.inl x4), some (.inl x5), some (.inl x6), none, none] [] M := by
  refine qW.rm (fun hM => ?_)
  refine q_iload hC dX4_seek_36 rfl rfl ?_
  refine q_bipush hC dX4_seek_38 (by decide) rfl ?_
  refine q_icmp_ge hC dX4_seek_40 (t := 151) (by decide) rfl hx6 (by decide) (fun c => ?_) (fun c => ?_)
  · have h := h.1 c
    refine q_aload_n hC dX4_seek_151 rfl rfl ?_
    refine q_getr hC fl_X4_30 ly_54 rfl dX4_seek_152 rfl ?_
    refine q_iload_n hC dX4_seek_155 rfl rfl ?_
    refine q_iconst hC dX4_seek_156 rfl ?_
    obtain ⟨r101, h⟩ := h
    have hM102 : qIn (qU M 61 x1 (-1)) := (qU_in hM (by decide))
    refine q_iast hC ly_61 dX4_seek_157 rfl r101 (by decide) ?_
    refine q_aload_n hC dX4_seek_158 rfl rfl ?_
    refine q_iload_n hC dX4_seek_159 rfl rfl ?_
    refine q_iconst hC dX4_seek_160 rfl ?_
    refine q_iadd hC dX4_seek_161 rfl ?_
    refine q_iload_n hC dX4_seek_162 rfl rfl ?_
    refine q_iload_n hC dX4_seek_163 rfl rfl ?_
    refine q_iload hC dX4_seek_164 rfl rfl ?_
    refine q_callSv hC (As := [.inr 54, .inl (x1 + 1), .inl x2, .inl x3, .inl x4]) md_X4_seek ms_X4_seek ml_X4_100 dX4_seek_166 rfl (Nat.le_of_ble_eq_true rfl) rfl rfl h (fun M103 hM104 h => ?_)
    exact q_vret hC hQ dX4_seek_169 h
  · have h := h.2 c
    refine q_aload_n hC dX4_seek_43 rfl rfl ?_
    refine q_getr hC fl_X4_18 ly_54 rfl dX4_seek_44 rfl ?_
    refine q_iload_n hC dX4_seek_47 rfl rfl ?_
    refine q_bipush hC dX4_seek_48 (by decide) rfl ?_
    refine q_imul hC dX4_seek_50 rfl ?_
    refine q_iload hC dX4_seek_51 rfl rfl ?_
    refine q_iadd hC dX4_seek_53 rfl ?_
    obtain ⟨r105, h⟩ := h
    refine q_iald hC ly_57 dX4_seek_54 rfl r105 ?_
    refine q_istore hC dX4_seek_55 (Nat.le_of_ble_eq_true rfl) (loc' := [some (.inr 54), some (.inl x1), some (.inl x2), some (.inl x3), some (.inl x4), some (.inl x5), some (.inl x6), some (.inl (M 57 ((x1 * 15) + x6))), none]) rfl rfl ?_
    refine q_iload hC dX4_seek_57 rfl rfl ?_
    refine q_iconst hC dX4_seek_59 rfl ?_
    obtain ⟨r106, h⟩ := h
    refine q_idiv hC dX4_seek_60 hx6 (by decide) r106 (by decide) rfl ?_
    refine q_istore hC dX4_seek_61 (Nat.le_of_ble_eq_true rfl) (loc' := [some (.inr 54), some (.inl x1), some (.inl x2), some (.inl x3), some (.inl x4), some (.inl x5), some (.inl x6), some (.inl (M 57 ((x1 * 15) + x6))), some (.inl (x6 / 3))]) rfl rfl ?_
    refine q_iload hC dX4_seek_63 rfl rfl ?_
    refine q_if_le hC dX4_seek_65 (t := 145) (by decide) rfl (hM 57 ((x1 * 15) + x6)) (fun c => ?_) (fun c => ?_)
    · have h := h.1 c
      refine q_iinc hC dX4_seek_145 rfl (loc' := [some (.inr 54), some (.inl x1), some (.inl x2), some (.inl x3), some (.inl x4), some (.inl x5), some (.inl (x6 + 1)), some (.inl (M 57 ((x1 * 15) + x6))), some (.inl (x6 / 3))]) rfl rfl ?_
      refine q_goto hC dX4_seek_148 (q := 36) (by decide) ?_
      refine qW.kill 7 (loc' := [some (.inr 54), some (.inl x1), some (.inl x2), some (.inl x3), some (.inl x4), some (.inl x5), some (.inl (x6 + 1)), none, some (.inl (x6 / 3))]) rfl ?_
      refine qW.kill 8 (loc' := [some (.inr 54), some (.inl x1), some (.inl x2), some (.inl x3), some (.inl x4), some (.inl x5), some (.inl (x6 + 1)), none, none]) rfl ?_
      exact h
    · have h := h.2 c
      refine q_iload_n hC dX4_seek_68 rfl rfl ?_
      refine q_aload_n hC dX4_seek_69 rfl rfl ?_
      refine q_getr hC fl_X4_21 ly_54 rfl dX4_seek_70 rfl ?_
      refine q_iload hC dX4_seek_73 rfl rfl ?_
      obtain ⟨r107, h⟩ := h
      refine q_iald hC ly_58 dX4_seek_75 rfl r107 ?_
      refine q_iand hC dX4_seek_76 rfl ?_
      refine q_if_ne hC dX4_seek_77 (t := 145) (by decide) rfl (qR_and _ _) (fun c => ?_) (fun c => ?_)
      · have h := h.1 c
        refine q_iinc hC dX4_seek_145 rfl (loc' := [some (.inr 54), some (.inl x1), some (.inl x2), some (.inl x3), some (.inl x4), some (.inl x5), some (.inl (x6 + 1)), some (.inl (M 57 ((x1 * 15) + x6))), some (.inl (x6 / 3))]) rfl rfl ?_
        refine q_goto hC dX4_seek_148 (q := 36) (by decide) ?_
        refine qW.kill 7 (loc' := [some (.inr 54), some (.inl x1), some (.inl x2), some (.inl x3), some (.inl x4), some (.inl x5), some (.inl (x6 + 1)), none, some (.inl (x6 / 3))]) rfl ?_
        refine qW.kill 8 (loc' := [some (.inr 54), some (.inl x1), some (.inl x2), some (.inl x3), some (.inl x4), some (.inl x5), some (.inl (x6 + 1)), none, none]) rfl ?_
        exact h
      · have h := h.2 c
        refine q_iload hC dX4_seek_80 rfl rfl ?_
        refine q_aload_n hC dX4_seek_82 rfl rfl ?_
        refine q_getr hC fl_X4_15 ly_54 rfl dX4_seek_83 rfl ?_
        refine q_iload hC dX4_seek_86 rfl rfl ?_
        obtain ⟨r108, h⟩ := h
        refine q_iald hC ly_56 dX4_seek_88 rfl r108 ?_
        refine q_icmp_gt hC dX4_seek_89 (t := 145) (by decide) rfl hx5 (hM 56 (x6 / 3)) (fun c => ?_) (fun c => ?_)
        · have h := h.1 c
          refine q_iinc hC dX4_seek_145 rfl (loc' := [some (.inr 54), some (.inl x1), some (.inl x2), some (.inl x3), some (.inl x4), some (.inl x5), some (.inl (x6 + 1)), some (.inl (M 57 ((x1 * 15) + x6))), some (.inl (x6 / 3))]) rfl rfl ?_
          refine q_goto hC dX4_seek_148 (q := 36) (by decide) ?_
          refine qW.kill 7 (loc' := [some (.inr 54), some (.inl x1), some (.inl x2), some (.inl x3), some (.inl x4), some (.inl x5), some (.inl (x6 + 1)), none, some (.inl (x6 / 3))]) rfl ?_
          refine qW.kill 8 (loc' := [some (.inr 54), some (.inl x1), some (.inl x2), some (.inl x3), some (.inl x4), some (.inl x5), some (.inl (x6 + 1)), none, none]) rfl ?_
          exact h
        · have h := h.2 c
          refine q_aload_n hC dX4_seek_92 rfl rfl ?_
          refine q_getr hC fl_X4_30 ly_54 rfl dX4_seek_93 rfl ?_
          refine q_iload_n hC dX4_seek_96 rfl rfl ?_
          refine q_iload hC dX4_seek_97 rfl rfl ?_
          obtain ⟨r109, h⟩ := h
          have hM110 : qIn (qU M 61 x1 x6) := (qU_in hM hx6)
          refine q_iast hC ly_61 dX4_seek_99 rfl r109 hx6 ?_
          refine q_aload_n hC dX4_seek_100 rfl rfl ?_
          refine q_getr hC fl_X4_15 ly_54 rfl dX4_seek_101 rfl ?_
          refine q_iload hC dX4_seek_104 rfl rfl ?_
          refine q_dup2 hC dX4_seek_106 rfl ?_
          refine q_iald hC ly_56 dX4_seek_107 rfl r108 ?_
          refine q_iload hC dX4_seek_108 rfl rfl ?_
          refine q_isub hC dX4_seek_110 rfl ?_
          obtain ⟨r111, h⟩ := h
          have hM112 : qIn (qU (qU M 61 x1 x6) 56 (x6 / 3) (((qU M 61 x1 x6) 56 (x6 / 3)) - x5)) := (qU_in hM110 r111)
          refine q_iast hC ly_56 dX4_seek_111 rfl r108 r111 ?_
          refine q_aload_n hC dX4_seek_112 rfl rfl ?_
          refine q_iload_n hC dX4_seek_113 rfl rfl ?_
          refine q_iconst hC dX4_seek_114 rfl ?_
          refine q_iadd hC dX4_seek_115 rfl ?_
          refine q_iload_n hC dX4_seek_116 rfl rfl ?_
          refine q_iconst hC dX4_seek_117 rfl ?_
          refine q_iload hC dX4_seek_118 rfl rfl ?_
          refine q_ishl hC dX4_seek_120 rfl ?_
          refine q_ior hC dX4_seek_121 rfl ?_
          refine q_iload_n hC dX4_seek_122 rfl rfl ?_
          refine q_iload hC dX4_seek_123 rfl rfl ?_
          refine q_iadd hC dX4_seek_125 rfl ?_
          refine q_iload hC dX4_seek_126 rfl rfl ?_
          refine q_iconst hC dX4_seek_128 rfl ?_
          refine q_iadd hC dX4_seek_129 rfl ?_
          refine q_callSv hC (As := [.inr 54, .inl (x1 + 1), .inl (qOr x2 (qShl 1 x6)), .inl (x3 + (M 57 ((x1 * 15) + x6))), .inl (x4 + 1)]) md_X4_seek ms_X4_seek ml_X4_100 dX4_seek_130 rfl (Nat.le_of_ble_eq_true rfl) rfl rfl h (fun M113 hM114 h => ?_)
          refine q_aload_n hC dX4_seek_133 rfl rfl ?_
          refine q_getr hC fl_X4_15 ly_54 rfl dX4_seek_134 rfl ?_
          refine q_iload hC dX4_seek_137 rfl rfl ?_
          refine q_dup2 hC dX4_seek_139 rfl ?_
          refine q_iald hC ly_56 dX4_seek_140 rfl r108 ?_
          refine q_iload hC dX4_seek_141 rfl rfl ?_
          refine q_iadd hC dX4_seek_143 rfl ?_
          obtain ⟨r115, h⟩ := h
          have hM116 : qIn (qU M113 56 (x6 / 3) ((M113 56 (x6 / 3)) + x5)) := (qU_in hM114 r115)
          refine q_iast hC ly_56 dX4_seek_144 rfl r108 r115 ?_
          refine q_iinc hC dX4_seek_145 rfl (loc' := [some (.inr 54), some (.inl x1), some (.inl x2), some (.inl x3), some (.inl x4), some (.inl x5), some (.inl (x6 + 1)), some (.inl (M 57 ((x1 * 15) + x6))), some (.inl (x6 / 3))]) rfl rfl ?_
          refine q_goto hC dX4_seek_148 (q := 36) (by decide) ?_
          refine qW.kill 7 (loc' := [some (.inr 54), some (.inl x1), some (.inl x2), some (.inl x3), some (.inl x4), some (.inl x5), some (.inl (x6 + 1)), none, some (.inl (x6 / 3))]) rfl ?_
          refine qW.kill 8 (loc' := [some (.inr 54), some (.inl x1), some (.inl x2), some (.inl x3), some (.inl x4), some (.inl x5), some (.inl (x6 + 1)), none, none]) rfl ?_
          exact h
set_option maxRecDepth 20000 in
theorem e_X4_isNoBetter {g : qG} {d : Nat} {M : qM} {K : Int → qM → Prop} {x1 : Int} {x2 : Int} {x3 : Int} (hx1 : qR x1) (hx2 : qR x2) (hx3 : qR x3) (h : (0 ≤ x1 ∧ x1 < 5) ∧ (qR (x2 + (M 59 x1))) ∧ (((x2 + (M 59 x1)) < (M 54 8) → (K 1 M)) ∧ ((M 54 8) ≤ (x2 + (M 59 x1)) → (((x2 + (M 59 x1)) ≠ (M 54 8) → (K 0 M)) ∧ ((x2 + (M 59 x1)) = (M 54 8) → (qR (x3 + (M 60 x1))) ∧ (((x3 + (M 60 x1)) < (M 54 9) → (K 0 M)) ∧ ((M 54 9) ≤ (x3 + (M 60 x1)) → (K 1 M)))))))) : qOk g d j_X4_isNoBetter [.inr 54, .inl x1, .inl x2, .inl x3] M (qI K) := by
  refine qOk.of (by decide) (Nat.le_of_ble_eq_true rfl) (fun C hC hQ => ?_)
  have hC : qCk g C cX4_isNoBetter RX4 5 d := hC
  have hQ : qRt g C (some .boolean) (qI K) := hQ
  show qW g C 0 [some (.inr 54), some (.inl x1), some (.inl x2), some (.inl x3), none] [] M
  refine qW.rm (fun hM => ?_)
  refine q_iload_n hC dX4_isNoBetter_0 rfl rfl ?_
  refine q_aload_n hC dX4_isNoBetter_1 rfl rfl ?_
  refine q_getr hC fl_X4_24 ly_54 rfl dX4_isNoBetter_2 rfl ?_
  refine q_iload_n hC dX4_isNoBetter_5 rfl rfl ?_
  obtain ⟨r101, h⟩ := h
  refine q_iald hC ly_59 dX4_isNoBetter_6 rfl r101 ?_
  refine q_iadd hC dX4_isNoBetter_7 rfl ?_
  refine q_istore hC dX4_isNoBetter_8 (Nat.le_of_ble_eq_true rfl) (loc' := [some (.inr 54), some (.inl x1), some (.inl x2), some (.inl x3), some (.inl (x2 + (M 59 x1)))]) rfl rfl ?_
  refine q_iload hC dX4_isNoBetter_10 rfl rfl ?_
  refine q_aload_n hC dX4_isNoBetter_12 rfl rfl ?_
  refine q_geti hC fl_X4_94 ly_54 rfl (z := 8) rfl dX4_isNoBetter_13 rfl ?_
  obtain ⟨r102, h⟩ := h
  refine q_icmp_lt hC dX4_isNoBetter_16 (t := 43) (by decide) rfl r102 (hM 54 8) (fun c => ?_) (fun c => ?_)
  · have h := h.1 c
    refine q_iconst hC dX4_isNoBetter_43 rfl ?_
    refine q_goto hC dX4_isNoBetter_44 (q := 48) (by decide) ?_
    exact q_zret hC hQ dX4_isNoBetter_48 (by decide) h
  · have h := h.2 c
    refine q_iload hC dX4_isNoBetter_19 rfl rfl ?_
    refine q_aload_n hC dX4_isNoBetter_21 rfl rfl ?_
    refine q_geti hC fl_X4_94 ly_54 rfl (z := 8) rfl dX4_isNoBetter_22 rfl ?_
    refine q_icmp_ne hC dX4_isNoBetter_25 (t := 47) (by decide) rfl r102 (hM 54 8) (fun c => ?_) (fun c => ?_)
    · have h := h.1 c
      refine q_iconst hC dX4_isNoBetter_47 rfl ?_
      exact q_zret hC hQ dX4_isNoBetter_48 (by decide) h
    · have h := h.2 c
      refine q_iload_n hC dX4_isNoBetter_28 rfl rfl ?_
      refine q_aload_n hC dX4_isNoBetter_29 rfl rfl ?_
      refine q_getr hC fl_X4_27 ly_54 rfl dX4_isNoBetter_30 rfl ?_
      refine q_iload_n hC dX4_isNoBetter_33 rfl rfl ?_
      refine q_iald hC ly_60 dX4_isNoBetter_34 rfl r101 ?_
      refine q_iadd hC dX4_isNoBetter_35 rfl ?_
      refine q_aload_n hC dX4_isNoBetter_36 rfl rfl ?_
      refine q_geti hC fl_X4_97 ly_54 rfl (z := 9) rfl dX4_isNoBetter_37 rfl ?_
      obtain ⟨r103, h⟩ := h
      refine q_icmp_lt hC dX4_isNoBetter_40 (t := 47) (by decide) rfl r103 (hM 54 9) (fun c => ?_) (fun c => ?_)
      · have h := h.1 c
        refine q_iconst hC dX4_isNoBetter_47 rfl ?_
        exact q_zret hC hQ dX4_isNoBetter_48 (by decide) h
      · have h := h.2 c
        refine q_iconst hC dX4_isNoBetter_43 rfl ?_
        refine q_goto hC dX4_isNoBetter_44 (q := 48) (by decide) ?_
        exact q_zret hC hQ dX4_isNoBetter_48 (by decide) h
set_option maxRecDepth 20000 in
theorem e_X4_takeTried {g : qG} {d : Nat} {M : qM} {K : qM → Prop} {x1 : Int} {x2 : Int} (hx1 : qR x1) (hx2 : qR x2) (h : qOk g (d + 1) j_X7_copyRow [.inr 61, .inr 62] M (qN fun M101 => K (qU (qU M101 54 8 x1) 54 9 x2))) : qOk g (d + 2) j_X4_takeTried [.inr 54, .inl x1, .inl x2] M (qN K) := by
  refine qOk.of (by decide) (Nat.le_of_ble_eq_true rfl) (fun C hC hQ => ?_)
  have hC : qCk g C cX4_takeTried RX4 3 (d + 2) := hC
  have hQ : qRt g C none (qN K) := hQ
  show qW g C 0 [some (.inr 54), some (.inl x1), some (.inl x2)] [] M
  refine qW.rm (fun hM => ?_)
  refine q_aload_n hC dX4_takeTried_0 rfl rfl ?_
  refine q_getr hC fl_X4_30 ly_54 rfl dX4_takeTried_1 rfl ?_
  refine q_aload_n hC dX4_takeTried_4 rfl rfl ?_
  refine q_getr hC fl_X4_33 ly_54 rfl dX4_takeTried_5 rfl ?_
  refine q_callSv hC (As := [.inr 61, .inr 62]) md_X7_copyRow ms_X7_copyRow ml_X4_112 dX4_takeTried_8 rfl (Nat.le_of_ble_eq_true rfl) rfl rfl h (fun M101 hM102 h => ?_)
  refine q_aload_n hC dX4_takeTried_11 rfl rfl ?_
  refine q_iload_n hC dX4_takeTried_12 rfl rfl ?_
  have hM103 : qIn (qU M101 54 8 x1) := (qU_in hM102 hx1)
  refine q_puti hC fp_X4_94 ly_54 rfl (z := 8) rfl dX4_takeTried_13 rfl hx1 ?_
  refine q_aload_n hC dX4_takeTried_16 rfl rfl ?_
  refine q_iload_n hC dX4_takeTried_17 rfl rfl ?_
  have hM104 : qIn (qU (qU M101 54 8 x1) 54 9 x2) := (qU_in hM103 hx2)
  refine q_puti hC fp_X4_97 ly_54 rfl (z := 9) rfl dX4_takeTried_18 rfl hx2 ?_
  exact q_vret hC hQ dX4_takeTried_21 h
set_option maxRecDepth 20000 in
theorem e_X4_countAway {g : qG} {d : Nat} {M : qM} {K : Int → qM → Prop} {x1 : Int} (hx1 : qR x1) (h : ∀ C : qX, qCk g C cX4_countAway RX4 4 d → qRt g C (some .int) (qI K) → qW g C 4 [some (.inr 54), some (.inl x1), some (.inl 0), some (.inl 0)] [] M) : qOk g d j_X4_countAway [.inr 54, .inl x1] M (qI K) := by
  refine qOk.of (by decide) (Nat.le_of_ble_eq_true rfl) (fun C hC hQ => ?_)
  have hC : qCk g C cX4_countAway RX4 4 d := hC
  have hQ : qRt g C (some .int) (qI K) := hQ
  have h := h C hC hQ
  show qW g C 0 [some (.inr 54), some (.inl x1), none, none] [] M
  refine qW.rm (fun hM => ?_)
  refine q_iconst hC dX4_countAway_0 rfl ?_
  refine q_istore_n hC dX4_countAway_1 (Nat.le_of_ble_eq_true rfl) (loc' := [some (.inr 54), some (.inl x1), some (.inl 0), none]) rfl rfl ?_
  refine q_iconst hC dX4_countAway_2 rfl ?_
  refine q_istore_n hC dX4_countAway_3 (Nat.le_of_ble_eq_true rfl) (loc' := [some (.inr 54), some (.inl x1), some (.inl 0), some (.inl 0)]) rfl rfl ?_
  exact h
set_option maxRecDepth 20000 in
theorem s_X4_countAway_4 {g : qG} {C : qX} {d : Nat} {M : qM} {K : Int → qM → Prop} (hC : qCk g C cX4_countAway RX4 4 d) (hQ : qRt g C (some .int) (qI K)) {x1 : Int} {x2 : Int} {x3 : Int} (hx1 : qR x1) (hx2 : qR x2) (hx3 : qR x3) (h : ((4 ≤ x3 → (K x2 M)) ∧ (x3 < 4 → (0 ≤ x3 ∧ x3 < 4) ∧ (((M 62 x3) = (-1) → (qW g C 4 [some (.inr 54), some (.inl x1), some (.inl x2), some (.inl (x3 + 1))] [] M)) ∧ ((M 62 x3) ≠ (-1) → (0 ≤ (M 62 x3)) ∧ (qR ((M 62 x3) / 3)) ∧ ((((M 62 x3) / 3) ≠ x1 → (qW g C 4 [some (.inr 54), some (.inl x1), some (.inl x2), some (.inl (x3 + 1))] [] M)) ∧ (((M 62 x3) / 3) = x1 → (qW g C 4 [some (.inr 54), some (.inl x1), some (.inl (x2 + (M 55 x3))), some (.inl (x3 + 1))] [] M)))))))) : qW g C 4 [some (.inr 54), some (.inl x1), some (.inl x2), some (.inl x3)] [] M := by
  refine qW.rm (fun hM => ?_)
  refine q_iload_n hC dX4_countAway_4 rfl rfl ?_
  refine q_iconst hC dX4_countAway_5 rfl ?_
  refine q_icmp_ge hC dX4_countAway_6 (t := 46) (by decide) rfl hx3 (by decide) (fun c => ?_) (fun c => ?_)
  · have h := h.1 c
    refine q_iload_n hC dX4_countAway_46 rfl rfl ?_
    exact q_iret hC hQ dX4_countAway_47 hx2 h
  · have h := h.2 c
    refine q_aload_n hC dX4_countAway_9 rfl rfl ?_
    refine q_getr hC fl_X4_33 ly_54 rfl dX4_countAway_10 rfl ?_
    refine q_iload_n hC dX4_countAway_13 rfl rfl ?_
    obtain ⟨r101, h⟩ := h
    refine q_iald hC ly_62 dX4_countAway_14 rfl r101 ?_
    refine q_iconst hC dX4_countAway_15 rfl ?_
    refine q_icmp_eq hC dX4_countAway_16 (t := 40) (by decide) rfl (hM 62 x3) (by decide) (fun c => ?_) (fun c => ?_)
    · have h := h.1 c
      refine q_iinc hC dX4_countAway_40 rfl (loc' := [some (.inr 54), some (.inl x1), some (.inl x2), some (.inl (x3 + 1))]) rfl rfl ?_
      refine q_goto hC dX4_countAway_43 (q := 4) (by decide) ?_
      exact h
    · have h := h.2 c
      refine q_aload_n hC dX4_countAway_19 rfl rfl ?_
      refine q_getr hC fl_X4_33 ly_54 rfl dX4_countAway_20 rfl ?_
      refine q_iload_n hC dX4_countAway_23 rfl rfl ?_
      refine q_iald hC ly_62 dX4_countAway_24 rfl r101 ?_
      refine q_iconst hC dX4_countAway_25 rfl ?_
      obtain ⟨r102, h⟩ := h
      refine q_idiv hC dX4_countAway_26 (hM 62 x3) (by decide) r102 (by decide) rfl ?_
      refine q_iload_n hC dX4_countAway_27 rfl rfl ?_
      obtain ⟨r103, h⟩ := h
      refine q_icmp_ne hC dX4_countAway_28 (t := 40) (by decide) rfl r103 hx1 (fun c => ?_) (fun c => ?_)
      · have h := h.1 c
        refine q_iinc hC dX4_countAway_40 rfl (loc' := [some (.inr 54), some (.inl x1), some (.inl x2), some (.inl (x3 + 1))]) rfl rfl ?_
        refine q_goto hC dX4_countAway_43 (q := 4) (by decide) ?_
        exact h
      · have h := h.2 c
        refine q_iload_n hC dX4_countAway_31 rfl rfl ?_
        refine q_aload_n hC dX4_countAway_32 rfl rfl ?_
        refine q_getr hC fl_X4_9 ly_54 rfl dX4_countAway_33 rfl ?_
        refine q_iload_n hC dX4_countAway_36 rfl rfl ?_
        refine q_iald hC ly_55 dX4_countAway_37 rfl r101 ?_
        refine q_iadd hC dX4_countAway_38 rfl ?_
        refine q_istore_n hC dX4_countAway_39 (Nat.le_of_ble_eq_true rfl) (loc' := [some (.inr 54), some (.inl x1), some (.inl (x2 + (M 55 x3))), some (.inl x3)]) rfl rfl ?_
        refine q_iinc hC dX4_countAway_40 rfl (loc' := [some (.inr 54), some (.inl x1), some (.inl (x2 + (M 55 x3))), some (.inl (x3 + 1))]) rfl rfl ?_
        refine q_goto hC dX4_countAway_43 (q := 4) (by decide) ?_
        exact h
