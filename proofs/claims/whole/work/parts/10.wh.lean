set_option maxRecDepth 20000 in
theorem e_X7_isBelow {g : qG} {d : Nat} {M : qM} {K : Int → qM → Prop} {x0 : Int} {x1 : Int} (hx0 : qR x0) (hx1 : qR x1) (h : ((x0 < 0 → (K 0 M)) ∧ (0 ≤ x0 → ((x1 ≤ x0 → (K 0 M)) ∧ (x0 < x1 → (K 1 M)))))) : qOk g d j_X7_isBelow [.inl x0, .inl x1] M (qI K) := by
  refine qOk.of (by decide) (Nat.le_of_ble_eq_true rfl) (fun C hC hQ => ?_)
  have hC : qCk g C cX7_isBelow RX7 2 d := hC
  have hQ : qRt g C (some .boolean) (qI K) := hQ
  show qW g C 0 [some (.inl x0), some (.inl x1)] [] M
  refine qW.rm (fun hM => ?_)
  refine q_iload_n hC dX7_isBelow_0 rfl rfl ?_
  refine q_if_lt hC dX7_isBelow_1 (t := 13) (by decide) rfl hx0 (fun c => ?_) (fun c => ?_)
  · have h := h.1 c
    refine q_iconst hC dX7_isBelow_13 rfl ?_
    exact q_zret hC hQ dX7_isBelow_14 (by decide) h
  · have h := h.2 c
    refine q_iload_n hC dX7_isBelow_4 rfl rfl ?_
    refine q_iload_n hC dX7_isBelow_5 rfl rfl ?_
    refine q_icmp_ge hC dX7_isBelow_6 (t := 13) (by decide) rfl hx0 hx1 (fun c => ?_) (fun c => ?_)
    · have h := h.1 c
      refine q_iconst hC dX7_isBelow_13 rfl ?_
      exact q_zret hC hQ dX7_isBelow_14 (by decide) h
    · have h := h.2 c
      refine q_iconst hC dX7_isBelow_9 rfl ?_
      refine q_goto hC dX7_isBelow_10 (q := 14) (by decide) ?_
      exact q_zret hC hQ dX7_isBelow_14 (by decide) h
set_option maxRecDepth 20000 in
theorem e_X7_isUpTo {g : qG} {d : Nat} {M : qM} {K : Int → qM → Prop} {x0 : Int} {x1 : Int} (hx0 : qR x0) (hx1 : qR x1) (h : ((x0 < 0 → (K 0 M)) ∧ (0 ≤ x0 → ((x1 < x0 → (K 0 M)) ∧ (x0 ≤ x1 → (K 1 M)))))) : qOk g d j_X7_isUpTo [.inl x0, .inl x1] M (qI K) := by
  refine qOk.of (by decide) (Nat.le_of_ble_eq_true rfl) (fun C hC hQ => ?_)
  have hC : qCk g C cX7_isUpTo RX7 2 d := hC
  have hQ : qRt g C (some .boolean) (qI K) := hQ
  show qW g C 0 [some (.inl x0), some (.inl x1)] [] M
  refine qW.rm (fun hM => ?_)
  refine q_iload_n hC dX7_isUpTo_0 rfl rfl ?_
  refine q_if_lt hC dX7_isUpTo_1 (t := 13) (by decide) rfl hx0 (fun c => ?_) (fun c => ?_)
  · have h := h.1 c
    refine q_iconst hC dX7_isUpTo_13 rfl ?_
    exact q_zret hC hQ dX7_isUpTo_14 (by decide) h
  · have h := h.2 c
    refine q_iload_n hC dX7_isUpTo_4 rfl rfl ?_
    refine q_iload_n hC dX7_isUpTo_5 rfl rfl ?_
    refine q_icmp_gt hC dX7_isUpTo_6 (t := 13) (by decide) rfl hx0 hx1 (fun c => ?_) (fun c => ?_)
    · have h := h.1 c
      refine q_iconst hC dX7_isUpTo_13 rfl ?_
      exact q_zret hC hQ dX7_isUpTo_14 (by decide) h
    · have h := h.2 c
      refine q_iconst hC dX7_isUpTo_9 rfl ?_
      refine q_goto hC dX7_isUpTo_10 (q := 14) (by decide) ?_
      exact q_zret hC hQ dX7_isUpTo_14 (by decide) h
set_option maxRecDepth 20000 in
theorem e_X7_isDay {g : qG} {d : Nat} {M : qM} {K : Int → qM → Prop} {x0 : Int} (hx0 : qR x0) (h : qOk g d j_X7_isUpTo [.inl x0, .inl 999] M (qI fun x103 M101 => (x103 = 0 ∨ x103 = 1) ∧ (K x103 M101))) : qOk g (d + 1) j_X7_isDay [.inl x0] M (qI K) := by
  refine qOk.of (by decide) (Nat.le_of_ble_eq_true rfl) (fun C hC hQ => ?_)
  have hC : qCk g C cX7_isDay RX7 1 (d + 1) := hC
  have hQ : qRt g C (some .boolean) (qI K) := hQ
  show qW g C 0 [some (.inl x0)] [] M
  refine qW.rm (fun hM => ?_)
  refine q_iload_n hC dX7_isDay_0 rfl rfl ?_
  refine q_sipush hC dX7_isDay_1 (by decide) rfl ?_
  refine q_callSi hC (As := [.inl x0, .inl 999]) md_X7_isUpTo ms_X7_isUpTo ml_X7_108 dX7_isDay_4 rfl (Nat.le_of_ble_eq_true rfl) rfl rfl h (fun x103 M101 hM102 r104 h => ?_)
  obtain ⟨r105, h⟩ := h
  exact q_zret hC hQ dX7_isDay_7 r105 h
set_option maxRecDepth 20000 in
theorem e_X7_isAge {g : qG} {d : Nat} {M : qM} {K : Int → qM → Prop} {x0 : Int} (hx0 : qR x0) (h : ((x0 < 6 → (K 0 M)) ∧ (6 ≤ x0 → ((18 < x0 → (K 0 M)) ∧ (x0 ≤ 18 → (K 1 M)))))) : qOk g d j_X7_isAge [.inl x0] M (qI K) := by
  refine qOk.of (by decide) (Nat.le_of_ble_eq_true rfl) (fun C hC hQ => ?_)
  have hC : qCk g C cX7_isAge RX7 1 d := hC
  have hQ : qRt g C (some .boolean) (qI K) := hQ
  show qW g C 0 [some (.inl x0)] [] M
  refine qW.rm (fun hM => ?_)
  refine q_iload_n hC dX7_isAge_0 rfl rfl ?_
  refine q_bipush hC dX7_isAge_1 (by decide) rfl ?_
  refine q_icmp_lt hC dX7_isAge_3 (t := 16) (by decide) rfl hx0 (by decide) (fun c => ?_) (fun c => ?_)
  · have h := h.1 c
    refine q_iconst hC dX7_isAge_16 rfl ?_
    exact q_zret hC hQ dX7_isAge_17 (by decide) h
  · have h := h.2 c
    refine q_iload_n hC dX7_isAge_6 rfl rfl ?_
    refine q_bipush hC dX7_isAge_7 (by decide) rfl ?_
    refine q_icmp_gt hC dX7_isAge_9 (t := 16) (by decide) rfl hx0 (by decide) (fun c => ?_) (fun c => ?_)
    · have h := h.1 c
      refine q_iconst hC dX7_isAge_16 rfl ?_
      exact q_zret hC hQ dX7_isAge_17 (by decide) h
    · have h := h.2 c
      refine q_iconst hC dX7_isAge_12 rfl ?_
      refine q_goto hC dX7_isAge_13 (q := 17) (by decide) ?_
      exact q_zret hC hQ dX7_isAge_17 (by decide) h
set_option maxRecDepth 20000 in
theorem e_X7_hasBit {g : qG} {d : Nat} {M : qM} {K : Int → qM → Prop} {x0 : Int} {x1 : Int} (hx0 : qR x0) (hx1 : qR x1) (h : (((qAnd (qShr x0 x1) 1) ≠ 1 → (K 0 M)) ∧ ((qAnd (qShr x0 x1) 1) = 1 → (K 1 M)))) : qOk g d j_X7_hasBit [.inl x0, .inl x1] M (qI K) := by
  refine qOk.of (by decide) (Nat.le_of_ble_eq_true rfl) (fun C hC hQ => ?_)
  have hC : qCk g C cX7_hasBit RX7 2 d := hC
  have hQ : qRt g C (some .boolean) (qI K) := hQ
  show qW g C 0 [some (.inl x0), some (.inl x1)] [] M
  refine qW.rm (fun hM => ?_)
  refine q_iload_n hC dX7_hasBit_0 rfl rfl ?_
  refine q_iload_n hC dX7_hasBit_1 rfl rfl ?_
  refine q_ishr hC dX7_hasBit_2 rfl ?_
  refine q_iconst hC dX7_hasBit_3 rfl ?_
  refine q_iand hC dX7_hasBit_4 rfl ?_
  refine q_iconst hC dX7_hasBit_5 rfl ?_
  refine q_icmp_ne hC dX7_hasBit_6 (t := 13) (by decide) rfl (qR_and _ _) (by decide) (fun c => ?_) (fun c => ?_)
  · have h := h.1 c
    refine q_iconst hC dX7_hasBit_13 rfl ?_
    exact q_zret hC hQ dX7_hasBit_14 (by decide) h
  · have h := h.2 c
    refine q_iconst hC dX7_hasBit_9 rfl ?_
    refine q_goto hC dX7_hasBit_10 (q := 14) (by decide) ?_
    exact q_zret hC hQ dX7_hasBit_14 (by decide) h
set_option maxRecDepth 20000 in
theorem e_X7_dayOrNone {g : qG} {d : Nat} {M : qM} {K : Int → qM → Prop} {x0 : Int} (hx0 : qR x0) (h : ((x0 ≠ 1000 → (K x0 M)) ∧ (x0 = 1000 → (K (-3) M)))) : qOk g d j_X7_dayOrNone [.inl x0] M (qI K) := by
  refine qOk.of (by decide) (Nat.le_of_ble_eq_true rfl) (fun C hC hQ => ?_)
  have hC : qCk g C cX7_dayOrNone RX7 1 d := hC
  have hQ : qRt g C (some .int) (qI K) := hQ
  show qW g C 0 [some (.inl x0)] [] M
  refine qW.rm (fun hM => ?_)
  refine q_iload_n hC dX7_dayOrNone_0 rfl rfl ?_
  refine q_sipush hC dX7_dayOrNone_1 (by decide) rfl ?_
  refine q_icmp_ne hC dX7_dayOrNone_4 (t := 12) (by decide) rfl hx0 (by decide) (fun c => ?_) (fun c => ?_)
  · have h := h.1 c
    refine q_iload_n hC dX7_dayOrNone_12 rfl rfl ?_
    exact q_iret hC hQ dX7_dayOrNone_13 hx0 h
  · have h := h.2 c
    refine q_bipush hC dX7_dayOrNone_7 (by decide) rfl ?_
    refine q_goto hC dX7_dayOrNone_9 (q := 13) (by decide) ?_
    exact q_iret hC hQ dX7_dayOrNone_13 (by decide) h
set_option maxRecDepth 20000 in
theorem e_X7_isChild {g : qG} {d : Nat} {M : qM} {K : Int → qM → Prop} {x1 : Int} (hx1 : qR x1) (h : qOk g d j_X7_isBelow [.inl x1, .inl (M 2 0)] M (qI fun x103 M101 => (x103 = 0 ∨ x103 = 1) ∧ (K x103 M101))) : qOk g (d + 1) j_X7_isChild [.inr 0, .inl x1] M (qI K) := by
  refine qOk.of (by decide) (Nat.le_of_ble_eq_true rfl) (fun C hC hQ => ?_)
  have hC : qCk g C cX7_isChild RX7 2 (d + 1) := hC
  have hQ : qRt g C (some .boolean) (qI K) := hQ
  show qW g C 0 [some (.inr 0), some (.inl x1)] [] M
  refine qW.rm (fun hM => ?_)
  refine q_iload_n hC dX7_isChild_0 rfl rfl ?_
  refine q_aload_n hC dX7_isChild_1 rfl rfl ?_
  refine q_getr hC fl_X7_12 ly_0 rfl dX7_isChild_2 rfl ?_
  refine q_getr hC fl_X7_52 ly_1 rfl dX7_isChild_5 rfl ?_
  refine q_geti hC fl_X7_56 ly_2 rfl (z := 0) rfl dX7_isChild_8 rfl ?_
  refine q_callSi hC (As := [.inl x1, .inl (M 2 0)]) md_X7_isBelow ms_X7_isBelow ml_X7_48 dX7_isChild_11 rfl (Nat.le_of_ble_eq_true rfl) rfl rfl h (fun x103 M101 hM102 r104 h => ?_)
  obtain ⟨r105, h⟩ := h
  exact q_zret hC hQ dX7_isChild_14 r105 h
set_option maxRecDepth 20000 in
theorem e_X7_isLeader {g : qG} {d : Nat} {M : qM} {K : Int → qM → Prop} {x1 : Int} (hx1 : qR x1) (h : qOk g d j_X7_isBelow [.inl x1, .inl (M 2 3)] M (qI fun x103 M101 => (x103 = 0 ∨ x103 = 1) ∧ (K x103 M101))) : qOk g (d + 1) j_X7_isLeader [.inr 0, .inl x1] M (qI K) := by
  refine qOk.of (by decide) (Nat.le_of_ble_eq_true rfl) (fun C hC hQ => ?_)
  have hC : qCk g C cX7_isLeader RX7 2 (d + 1) := hC
  have hQ : qRt g C (some .boolean) (qI K) := hQ
  show qW g C 0 [some (.inr 0), some (.inl x1)] [] M
  refine qW.rm (fun hM => ?_)
  refine q_iload_n hC dX7_isLeader_0 rfl rfl ?_
  refine q_aload_n hC dX7_isLeader_1 rfl rfl ?_
  refine q_getr hC fl_X7_12 ly_0 rfl dX7_isLeader_2 rfl ?_
  refine q_getr hC fl_X7_52 ly_1 rfl dX7_isLeader_5 rfl ?_
  refine q_geti hC fl_X7_75 ly_2 rfl (z := 3) rfl dX7_isLeader_8 rfl ?_
  refine q_callSi hC (As := [.inl x1, .inl (M 2 3)]) md_X7_isBelow ms_X7_isBelow ml_X7_48 dX7_isLeader_11 rfl (Nat.le_of_ble_eq_true rfl) rfl rfl h (fun x103 M101 hM102 r104 h => ?_)
  obtain ⟨r105, h⟩ := h
  exact q_zret hC hQ dX7_isLeader_14 r105 h
set_option maxRecDepth 20000 in
theorem e_X7_isTask {g : qG} {d : Nat} {M : qM} {K : Int → qM → Prop} {x1 : Int} (hx1 : qR x1) (h : qOk g d j_X7_isBelow [.inl x1, .inl (M 8 0)] M (qI fun x103 M101 => (x103 = 0 ∨ x103 = 1) ∧ (K x103 M101))) : qOk g (d + 1) j_X7_isTask [.inr 0, .inl x1] M (qI K) := by
  refine qOk.of (by decide) (Nat.le_of_ble_eq_true rfl) (fun C hC hQ => ?_)
  have hC : qCk g C cX7_isTask RX7 2 (d + 1) := hC
  have hQ : qRt g C (some .boolean) (qI K) := hQ
  show qW g C 0 [some (.inr 0), some (.inl x1)] [] M
  refine qW.rm (fun hM => ?_)
  refine q_iload_n hC dX7_isTask_0 rfl rfl ?_
  refine q_aload_n hC dX7_isTask_1 rfl rfl ?_
  refine q_getr hC fl_X7_12 ly_0 rfl dX7_isTask_2 rfl ?_
  refine q_getr hC fl_X7_93 ly_1 rfl dX7_isTask_5 rfl ?_
  refine q_geti hC fl_X7_97 ly_8 rfl (z := 0) rfl dX7_isTask_8 rfl ?_
  refine q_callSi hC (As := [.inl x1, .inl (M 8 0)]) md_X7_isBelow ms_X7_isBelow ml_X7_48 dX7_isTask_11 rfl (Nat.le_of_ble_eq_true rfl) rfl rfl h (fun x103 M101 hM102 r104 h => ?_)
  obtain ⟨r105, h⟩ := h
  exact q_zret hC hQ dX7_isTask_14 r105 h
set_option maxRecDepth 20000 in
theorem e_X7_isBadge {g : qG} {d : Nat} {M : qM} {K : Int → qM → Prop} {x1 : Int} (hx1 : qR x1) (h : qOk g d j_X7_isBelow [.inl x1, .inl (M 8 3)] M (qI fun x103 M101 => (x103 = 0 ∨ x103 = 1) ∧ (K x103 M101))) : qOk g (d + 1) j_X7_isBadge [.inr 0, .inl x1] M (qI K) := by
  refine qOk.of (by decide) (Nat.le_of_ble_eq_true rfl) (fun C hC hQ => ?_)
  have hC : qCk g C cX7_isBadge RX7 2 (d + 1) := hC
  have hQ : qRt g C (some .boolean) (qI K) := hQ
  show qW g C 0 [some (.inr 0), some (.inl x1)] [] M
  refine qW.rm (fun hM => ?_)
  refine q_iload_n hC dX7_isBadge_0 rfl rfl ?_
  refine q_aload_n hC dX7_isBadge_1 rfl rfl ?_
  refine q_getr hC fl_X7_12 ly_0 rfl dX7_isBadge_2 rfl ?_
  refine q_getr hC fl_X7_93 ly_1 rfl dX7_isBadge_5 rfl ?_
  refine q_geti hC fl_X7_114 ly_8 rfl (z := 3) rfl dX7_isBadge_8 rfl ?_
  refine q_callSi hC (As := [.inl x1, .inl (M 8 3)]) md_X7_isBelow ms_X7_isBelow ml_X7_48 dX7_isBadge_11 rfl (Nat.le_of_ble_eq_true rfl) rfl rfl h (fun x103 M101 hM102 r104 h => ?_)
  obtain ⟨r105, h⟩ := h
  exact q_zret hC hQ dX7_isBadge_14 r105 h
set_option maxRecDepth 20000 in
theorem e_X7_isSignature {g : qG} {d : Nat} {M : qM} {K : Int → qM → Prop} {x1 : Int} (hx1 : qR x1) (h : qOk g d j_X7_isBelow [.inl x1, .inl (M 16 0)] M (qI fun x103 M101 => (x103 = 0 ∨ x103 = 1) ∧ (K x103 M101))) : qOk g (d + 1) j_X7_isSignature [.inr 0, .inl x1] M (qI K) := by
  refine qOk.of (by decide) (Nat.le_of_ble_eq_true rfl) (fun C hC hQ => ?_)
  have hC : qCk g C cX7_isSignature RX7 2 (d + 1) := hC
  have hQ : qRt g C (some .boolean) (qI K) := hQ
  show qW g C 0 [some (.inr 0), some (.inl x1)] [] M
  refine qW.rm (fun hM => ?_)
  refine q_iload_n hC dX7_isSignature_0 rfl rfl ?_
  refine q_aload_n hC dX7_isSignature_1 rfl rfl ?_
  refine q_getr hC fl_X7_12 ly_0 rfl dX7_isSignature_2 rfl ?_
  refine q_getr hC fl_X7_130 ly_1 rfl dX7_isSignature_5 rfl ?_
  refine q_geti hC fl_X7_134 ly_16 rfl (z := 0) rfl dX7_isSignature_8 rfl ?_
  refine q_callSi hC (As := [.inl x1, .inl (M 16 0)]) md_X7_isBelow ms_X7_isBelow ml_X7_48 dX7_isSignature_11 rfl (Nat.le_of_ble_eq_true rfl) rfl rfl h (fun x103 M101 hM102 r104 h => ?_)
  obtain ⟨r105, h⟩ := h
  exact q_zret hC hQ dX7_isSignature_14 r105 h
set_option maxRecDepth 20000 in
theorem e_X3_hasPaper {g : qG} {d : Nat} {M : qM} {K : Int → qM → Prop} {x1 : Int} {x2 : Int} {x3 : Int} (hx1 : qR x1) (hx2 : qR x2) (hx3 : qR x3) (h : (0 ≤ ((x1 * 4) + x2) ∧ ((x1 * 4) + x2) < 20) ∧ ((x3 < (M 5 ((x1 * 4) + x2)) → (K 0 M)) ∧ ((M 5 ((x1 * 4) + x2)) ≤ x3 → (((M 6 ((x1 * 4) + x2)) < x3 → (K 0 M)) ∧ (x3 ≤ (M 6 ((x1 * 4) + x2)) → (K 1 M)))))) : qOk g d j_X3_hasPaper [.inr 2, .inl x1, .inl x2, .inl x3] M (qI K) := by
  refine qOk.of (by decide) (Nat.le_of_ble_eq_true rfl) (fun C hC hQ => ?_)
  have hC : qCk g C cX3_hasPaper RX3 5 d := hC
  have hQ : qRt g C (some .boolean) (qI K) := hQ
  show qW g C 0 [some (.inr 2), some (.inl x1), some (.inl x2), some (.inl x3), none] [] M
  refine qW.rm (fun hM => ?_)
  refine q_iload_n hC dX3_hasPaper_0 rfl rfl ?_
  refine q_iconst hC dX3_hasPaper_1 rfl ?_
  refine q_imul hC dX3_hasPaper_2 rfl ?_
  refine q_iload_n hC dX3_hasPaper_3 rfl rfl ?_
  refine q_iadd hC dX3_hasPaper_4 rfl ?_
  refine q_istore hC dX3_hasPaper_5 (Nat.le_of_ble_eq_true rfl) (loc' := [some (.inr 2), some (.inl x1), some (.inl x2), some (.inl x3), some (.inl ((x1 * 4) + x2))]) rfl rfl ?_
  refine q_aload_n hC dX3_hasPaper_7 rfl rfl ?_
  refine q_getr hC fl_X3_18 ly_2 rfl dX3_hasPaper_8 rfl ?_
  refine q_iload hC dX3_hasPaper_11 rfl rfl ?_
  obtain ⟨r101, h⟩ := h
  refine q_iald hC ly_5 dX3_hasPaper_13 rfl r101 ?_
  refine q_iload_n hC dX3_hasPaper_14 rfl rfl ?_
  refine q_icmp_gt hC dX3_hasPaper_15 (t := 33) (by decide) rfl (hM 5 ((x1 * 4) + x2)) hx3 (fun c => ?_) (fun c => ?_)
  · have h := h.1 c
    refine q_iconst hC dX3_hasPaper_33 rfl ?_
    exact q_zret hC hQ dX3_hasPaper_34 (by decide) h
  · have h := h.2 c
    refine q_iload_n hC dX3_hasPaper_18 rfl rfl ?_
    refine q_aload_n hC dX3_hasPaper_19 rfl rfl ?_
    refine q_getr hC fl_X3_21 ly_2 rfl dX3_hasPaper_20 rfl ?_
    refine q_iload hC dX3_hasPaper_23 rfl rfl ?_
    refine q_iald hC ly_6 dX3_hasPaper_25 rfl r101 ?_
    refine q_icmp_gt hC dX3_hasPaper_26 (t := 33) (by decide) rfl hx3 (hM 6 ((x1 * 4) + x2)) (fun c => ?_) (fun c => ?_)
    · have h := h.1 c
      refine q_iconst hC dX3_hasPaper_33 rfl ?_
      exact q_zret hC hQ dX3_hasPaper_34 (by decide) h
    · have h := h.2 c
      refine q_iconst hC dX3_hasPaper_29 rfl ?_
      refine q_goto hC dX3_hasPaper_30 (q := 34) (by decide) ?_
      exact q_zret hC hQ dX3_hasPaper_34 (by decide) h
set_option maxRecDepth 20000 in
theorem e_X2_doneFrom {g : qG} {d : Nat} {M : qM} {K : Int → qM → Prop} {x1 : Int} {x2 : Int} (hx1 : qR x1) (hx2 : qR x2) (h : (0 ≤ ((x1 * 10) + x2) ∧ ((x1 * 10) + x2) < 100) ∧ (K (M 52 ((x1 * 10) + x2)) M)) : qOk g d j_X2_doneFrom [.inr 51, .inl x1, .inl x2] M (qI K) := by
  refine qOk.of (by decide) (Nat.le_of_ble_eq_true rfl) (fun C hC hQ => ?_)
  have hC : qCk g C cX2_doneFrom RX2 3 d := hC
  have hQ : qRt g C (some .int) (qI K) := hQ
  show qW g C 0 [some (.inr 51), some (.inl x1), some (.inl x2)] [] M
  refine qW.rm (fun hM => ?_)
  refine q_aload_n hC dX2_doneFrom_0 rfl rfl ?_
  refine q_getr hC fl_X2_9 ly_51 rfl dX2_doneFrom_1 rfl ?_
  refine q_iload_n hC dX2_doneFrom_4 rfl rfl ?_
  refine q_bipush hC dX2_doneFrom_5 (by decide) rfl ?_
  refine q_imul hC dX2_doneFrom_7 rfl ?_
  refine q_iload_n hC dX2_doneFrom_8 rfl rfl ?_
  refine q_iadd hC dX2_doneFrom_9 rfl ?_
  obtain ⟨r101, h⟩ := h
  refine q_iald hC ly_52 dX2_doneFrom_10 rfl r101 ?_
  exact q_iret hC hQ dX2_doneFrom_11 (hM 52 ((x1 * 10) + x2)) h
set_option maxRecDepth 20000 in
theorem e_X2_otherFrom {g : qG} {d : Nat} {M : qM} {K : Int → qM → Prop} {x1 : Int} (hx1 : qR x1) (h : ((x1 ≠ (-1) → (0 ≤ x1 ∧ x1 < 8) ∧ (K (M 53 x1) M)) ∧ (x1 = (-1) → (K 0 M)))) : qOk g d j_X2_otherFrom [.inr 51, .inl x1] M (qI K) := by
  refine qOk.of (by decide) (Nat.le_of_ble_eq_true rfl) (fun C hC hQ => ?_)
  have hC : qCk g C cX2_otherFrom RX2 2 d := hC
  have hQ : qRt g C (some .int) (qI K) := hQ
  show qW g C 0 [some (.inr 51), some (.inl x1)] [] M
  refine qW.rm (fun hM => ?_)
  refine q_iload_n hC dX2_otherFrom_0 rfl rfl ?_
  refine q_iconst hC dX2_otherFrom_1 rfl ?_
  refine q_icmp_ne hC dX2_otherFrom_2 (t := 9) (by decide) rfl hx1 (by decide) (fun c => ?_) (fun c => ?_)
  · have h := h.1 c
    refine q_aload_n hC dX2_otherFrom_9 rfl rfl ?_
    refine q_getr hC fl_X2_15 ly_51 rfl dX2_otherFrom_10 rfl ?_
    refine q_iload_n hC dX2_otherFrom_13 rfl rfl ?_
    obtain ⟨r101, h⟩ := h
    refine q_iald hC ly_53 dX2_otherFrom_14 rfl r101 ?_
    exact q_iret hC hQ dX2_otherFrom_15 (hM 53 x1) h
  · have h := h.2 c
    refine q_iconst hC dX2_otherFrom_5 rfl ?_
    refine q_goto hC dX2_otherFrom_6 (q := 15) (by decide) ?_
    exact q_iret hC hQ dX2_otherFrom_15 (by decide) h
set_option maxRecDepth 20000 in
theorem e_X8_in {g : qG} {d : Nat} {M : qM} {K : Int → qM → Prop} {x0 : Int} {x1 : Int} {x2 : Int} (hx0 : qR x0) (hx1 : qR x1) (hx2 : qR x2) (h : ((x0 < x1 → (K 0 M)) ∧ (x1 ≤ x0 → ((x2 < x0 → (K 0 M)) ∧ (x0 ≤ x2 → (K 1 M)))))) : qOk g d j_X8_in [.inl x0, .inl x1, .inl x2] M (qI K) := by
  refine qOk.of (by decide) (Nat.le_of_ble_eq_true rfl) (fun C hC hQ => ?_)
  have hC : qCk g C cX8_in RX8 3 d := hC
  have hQ : qRt g C (some .boolean) (qI K) := hQ
  show qW g C 0 [some (.inl x0), some (.inl x1), some (.inl x2)] [] M
  refine qW.rm (fun hM => ?_)
  refine q_iload_n hC dX8_in_0 rfl rfl ?_
  refine q_iload_n hC dX8_in_1 rfl rfl ?_
  refine q_icmp_lt hC dX8_in_2 (t := 14) (by decide) rfl hx0 hx1 (fun c => ?_) (fun c => ?_)
  · have h := h.1 c
    refine q_iconst hC dX8_in_14 rfl ?_
    exact q_zret hC hQ dX8_in_15 (by decide) h
  · have h := h.2 c
    refine q_iload_n hC dX8_in_5 rfl rfl ?_
    refine q_iload_n hC dX8_in_6 rfl rfl ?_
    refine q_icmp_gt hC dX8_in_7 (t := 14) (by decide) rfl hx0 hx2 (fun c => ?_) (fun c => ?_)
    · have h := h.1 c
      refine q_iconst hC dX8_in_14 rfl ?_
      exact q_zret hC hQ dX8_in_15 (by decide) h
    · have h := h.2 c
      refine q_iconst hC dX8_in_10 rfl ?_
      refine q_goto hC dX8_in_11 (q := 15) (by decide) ?_
      exact q_zret hC hQ dX8_in_15 (by decide) h
set_option maxRecDepth 20000 in
theorem e_X8_isDay {g : qG} {d : Nat} {M : qM} {K : Int → qM → Prop} {x0 : Int} (hx0 : qR x0) (h : qOk g d j_X8_in [.inl x0, .inl 0, .inl 999] M (qI fun x103 M101 => (x103 = 0 ∨ x103 = 1) ∧ (K x103 M101))) : qOk g (d + 1) j_X8_isDay [.inl x0] M (qI K) := by
  refine qOk.of (by decide) (Nat.le_of_ble_eq_true rfl) (fun C hC hQ => ?_)
  have hC : qCk g C cX8_isDay RX8 1 (d + 1) := hC
  have hQ : qRt g C (some .boolean) (qI K) := hQ
  show qW g C 0 [some (.inl x0)] [] M
  refine qW.rm (fun hM => ?_)
  refine q_iload_n hC dX8_isDay_0 rfl rfl ?_
  refine q_iconst hC dX8_isDay_1 rfl ?_
  refine q_sipush hC dX8_isDay_2 (by decide) rfl ?_
  refine q_callSi hC (As := [.inl x0, .inl 0, .inl 999]) md_X8_in ms_X8_in ml_X8_74 dX8_isDay_5 rfl (Nat.le_of_ble_eq_true rfl) rfl rfl h (fun x103 M101 hM102 r104 h => ?_)
  obtain ⟨r105, h⟩ := h
  exact q_zret hC hQ dX8_isDay_8 r105 h
set_option maxRecDepth 20000 in
theorem e_X8_isPatrol {g : qG} {d : Nat} {M : qM} {K : Int → qM → Prop} {x0 : Int} (hx0 : qR x0) (h : qOk g d j_X8_in [.inl x0, .inl 0, .inl 3] M (qI fun x103 M101 => (x103 = 0 ∨ x103 = 1) ∧ (K x103 M101))) : qOk g (d + 1) j_X8_isPatrol [.inl x0] M (qI K) := by
  refine qOk.of (by decide) (Nat.le_of_ble_eq_true rfl) (fun C hC hQ => ?_)
  have hC : qCk g C cX8_isPatrol RX8 1 (d + 1) := hC
  have hQ : qRt g C (some .boolean) (qI K) := hQ
  show qW g C 0 [some (.inl x0)] [] M
  refine qW.rm (fun hM => ?_)
  refine q_iload_n hC dX8_isPatrol_0 rfl rfl ?_
  refine q_iconst hC dX8_isPatrol_1 rfl ?_
  refine q_iconst hC dX8_isPatrol_2 rfl ?_
  refine q_callSi hC (As := [.inl x0, .inl 0, .inl 3]) md_X8_in ms_X8_in ml_X8_74 dX8_isPatrol_3 rfl (Nat.le_of_ble_eq_true rfl) rfl rfl h (fun x103 M101 hM102 r104 h => ?_)
  obtain ⟨r105, h⟩ := h
  exact q_zret hC hQ dX8_isPatrol_6 r105 h
set_option maxRecDepth 20000 in
theorem e_X8_later {g : qG} {d : Nat} {M : qM} {K : Int → qM → Prop} {x0 : Int} {x1 : Int} (hx0 : qR x0) (hx1 : qR x1) (h : ((x0 < 0 → (K (-1) M)) ∧ (0 ≤ x0 → ((0 ≤ x1 → ((x0 ≤ x1 → (K x1 M)) ∧ (x1 < x0 → (K x0 M)))) ∧ (x1 < 0 → (K (-1) M)))))) : qOk g d j_X8_later [.inl x0, .inl x1] M (qI K) := by
  refine qOk.of (by decide) (Nat.le_of_ble_eq_true rfl) (fun C hC hQ => ?_)
  have hC : qCk g C cX8_later RX8 2 d := hC
  have hQ : qRt g C (some .int) (qI K) := hQ
  show qW g C 0 [some (.inl x0), some (.inl x1)] [] M
  refine qW.rm (fun hM => ?_)
  refine q_iload_n hC dX8_later_0 rfl rfl ?_
  refine q_if_lt hC dX8_later_1 (t := 8) (by decide) rfl hx0 (fun c => ?_) (fun c => ?_)
  · have h := h.1 c
    refine q_iconst hC dX8_later_8 rfl ?_
    refine q_goto hC dX8_later_9 (q := 22) (by decide) ?_
    exact q_iret hC hQ dX8_later_22 (by decide) h
  · have h := h.2 c
    refine q_iload_n hC dX8_later_4 rfl rfl ?_
    refine q_if_ge hC dX8_later_5 (t := 12) (by decide) rfl hx1 (fun c => ?_) (fun c => ?_)
    · have h := h.1 c
      refine q_iload_n hC dX8_later_12 rfl rfl ?_
      refine q_iload_n hC dX8_later_13 rfl rfl ?_
      refine q_icmp_le hC dX8_later_14 (t := 21) (by decide) rfl hx0 hx1 (fun c => ?_) (fun c => ?_)
      · have h := h.1 c
        refine q_iload_n hC dX8_later_21 rfl rfl ?_
        exact q_iret hC hQ dX8_later_22 hx1 h
      · have h := h.2 c
        refine q_iload_n hC dX8_later_17 rfl rfl ?_
        refine q_goto hC dX8_later_18 (q := 22) (by decide) ?_
        exact q_iret hC hQ dX8_later_22 hx0 h
    · have h := h.2 c
      refine q_iconst hC dX8_later_8 rfl ?_
      refine q_goto hC dX8_later_9 (q := 22) (by decide) ?_
      exact q_iret hC hQ dX8_later_22 (by decide) h
set_option maxRecDepth 20000 in
theorem e_X8_is {g : qG} {d : Nat} {M : qM} {K : Int → qM → Prop} {x1 : Int} {x2 : Int} (hx1 : qR x1) (hx2 : qR x2) (h : (0 ≤ x1 ∧ x1 < 6) ∧ (qOk g d j_X8_in [.inl x2, .inl 0, .inl ((M 64 x1) - 1)] M (qI fun x104 M102 => (x104 = 0 ∨ x104 = 1) ∧ (K x104 M102)))) : qOk g (d + 1) j_X8_is [.inr 63, .inl x1, .inl x2] M (qI K) := by
  refine qOk.of (by decide) (Nat.le_of_ble_eq_true rfl) (fun C hC hQ => ?_)
  have hC : qCk g C cX8_is RX8 3 (d + 1) := hC
  have hQ : qRt g C (some .boolean) (qI K) := hQ
  show qW g C 0 [some (.inr 63), some (.inl x1), some (.inl x2)] [] M
  refine qW.rm (fun hM => ?_)
  refine q_iload_n hC dX8_is_0 rfl rfl ?_
  refine q_iconst hC dX8_is_1 rfl ?_
  refine q_aload_n hC dX8_is_2 rfl rfl ?_
  refine q_getr hC fl_X8_7 ly_63 rfl dX8_is_3 rfl ?_
  refine q_iload_n hC dX8_is_6 rfl rfl ?_
  obtain ⟨r101, h⟩ := h
  refine q_iald hC ly_64 dX8_is_7 rfl r101 ?_
  refine q_iconst hC dX8_is_8 rfl ?_
  refine q_isub hC dX8_is_9 rfl ?_
  refine q_callSi hC (As := [.inl x2, .inl 0, .inl ((M 64 x1) - 1)]) md_X8_in ms_X8_in ml_X8_74 dX8_is_10 rfl (Nat.le_of_ble_eq_true rfl) rfl rfl h (fun x104 M102 hM103 r105 h => ?_)
  obtain ⟨r106, h⟩ := h
  exact q_zret hC hQ dX8_is_13 r106 h
set_option maxRecDepth 20000 in
theorem e_X8_came {g : qG} {d : Nat} {M : qM} {K : Int → qM → Prop} {x1 : Int} (hx1 : qR x1) (h : (0 ≤ x1 ∧ x1 < 6) ∧ (qR ((M 64 x1) + 1)) ∧ (qR (((qU M 64 x1 ((M 64 x1) + 1)) 64 x1) - 1)) ∧ (K (((qU M 64 x1 ((M 64 x1) + 1)) 64 x1) - 1) (qU M 64 x1 ((M 64 x1) + 1)))) : qOk g d j_X8_came [.inr 63, .inl x1] M (qI K) := by
  refine qOk.of (by decide) (Nat.le_of_ble_eq_true rfl) (fun C hC hQ => ?_)
  have hC : qCk g C cX8_came RX8 2 d := hC
  have hQ : qRt g C (some .int) (qI K) := hQ
  show qW g C 0 [some (.inr 63), some (.inl x1)] [] M
  refine qW.rm (fun hM => ?_)
  refine q_aload_n hC dX8_came_0 rfl rfl ?_
  refine q_getr hC fl_X8_7 ly_63 rfl dX8_came_1 rfl ?_
  refine q_iload_n hC dX8_came_4 rfl rfl ?_
  refine q_dup2 hC dX8_came_5 rfl ?_
  obtain ⟨r101, h⟩ := h
  refine q_iald hC ly_64 dX8_came_6 rfl r101 ?_
  refine q_iconst hC dX8_came_7 rfl ?_
  refine q_iadd hC dX8_came_8 rfl ?_
  obtain ⟨r102, h⟩ := h
  have hM103 : qIn (qU M 64 x1 ((M 64 x1) + 1)) := (qU_in hM r102)
  refine q_iast hC ly_64 dX8_came_9 rfl r101 r102 ?_
  refine q_aload_n hC dX8_came_10 rfl rfl ?_
  refine q_getr hC fl_X8_7 ly_63 rfl dX8_came_11 rfl ?_
  refine q_iload_n hC dX8_came_14 rfl rfl ?_
  refine q_iald hC ly_64 dX8_came_15 rfl r101 ?_
  refine q_iconst hC dX8_came_16 rfl ?_
  refine q_isub hC dX8_came_17 rfl ?_
  obtain ⟨r104, h⟩ := h
  exact q_iret hC hQ dX8_came_18 r104 h
set_option maxRecDepth 20000 in
theorem e_X8_isDone {g : qG} {d : Nat} {M : qM} {K : Int → qM → Prop} {x1 : Int} (hx1 : qR x1) (h : (((M 64 2) ≤ x1 → (K 0 M)) ∧ (x1 < (M 64 2) → (0 ≤ x1 ∧ x1 < 10) ∧ (((M 78 x1) < 0 → (K 0 M)) ∧ (0 ≤ (M 78 x1) → (K 1 M)))))) : qOk g d j_X8_isDone [.inr 63, .inl x1] M (qI K) := by
  refine qOk.of (by decide) (Nat.le_of_ble_eq_true rfl) (fun C hC hQ => ?_)
  have hC : qCk g C cX8_isDone RX8 2 d := hC
  have hQ : qRt g C (some .boolean) (qI K) := hQ
  show qW g C 0 [some (.inr 63), some (.inl x1)] [] M
  refine qW.rm (fun hM => ?_)
  refine q_iload_n hC dX8_isDone_0 rfl rfl ?_
  refine q_aload_n hC dX8_isDone_1 rfl rfl ?_
  refine q_getr hC fl_X8_7 ly_63 rfl dX8_isDone_2 rfl ?_
  refine q_iconst hC dX8_isDone_5 rfl ?_
  refine q_iald hC ly_64 dX8_isDone_6 rfl (by decide) ?_
  refine q_icmp_ge hC dX8_isDone_7 (t := 23) (by decide) rfl hx1 (hM 64 2) (fun c => ?_) (fun c => ?_)
  · have h := h.1 c
    refine q_iconst hC dX8_isDone_23 rfl ?_
    exact q_zret hC hQ dX8_isDone_24 (by decide) h
  · have h := h.2 c
    refine q_aload_n hC dX8_isDone_10 rfl rfl ?_
    refine q_getr hC fl_X8_56 ly_63 rfl dX8_isDone_11 rfl ?_
    refine q_iload_n hC dX8_isDone_14 rfl rfl ?_
    obtain ⟨r101, h⟩ := h
    refine q_iald hC ly_78 dX8_isDone_15 rfl r101 ?_
    refine q_if_lt hC dX8_isDone_16 (t := 23) (by decide) rfl (hM 78 x1) (fun c => ?_) (fun c => ?_)
    · have h := h.1 c
      refine q_iconst hC dX8_isDone_23 rfl ?_
      exact q_zret hC hQ dX8_isDone_24 (by decide) h
    · have h := h.2 c
      refine q_iconst hC dX8_isDone_19 rfl ?_
      refine q_goto hC dX8_isDone_20 (q := 24) (by decide) ?_
      exact q_zret hC hQ dX8_isDone_24 (by decide) h
set_option maxRecDepth 20000 in
theorem e_X8_worthOf {g : qG} {d : Nat} {M : qM} {K : Int → qM → Prop} {x1 : Int} (hx1 : qR x1) (h : (0 ≤ x1 ∧ x1 < 4) ∧ (((M 80 x1) ≠ 15 → (0 ≤ ((15 * x1) + (M 80 x1)) ∧ ((15 * x1) + (M 80 x1)) < 60) ∧ (K (M 76 ((15 * x1) + (M 80 x1))) M)) ∧ ((M 80 x1) = 15 → (K 0 M)))) : qOk g d j_X8_worthOf [.inr 63, .inl x1] M (qI K) := by
  refine qOk.of (by decide) (Nat.le_of_ble_eq_true rfl) (fun C hC hQ => ?_)
  have hC : qCk g C cX8_worthOf RX8 2 d := hC
  have hQ : qRt g C (some .int) (qI K) := hQ
  show qW g C 0 [some (.inr 63), some (.inl x1)] [] M
  refine qW.rm (fun hM => ?_)
  refine q_aload_n hC dX8_worthOf_0 rfl rfl ?_
  refine q_getr hC fl_X8_62 ly_63 rfl dX8_worthOf_1 rfl ?_
  refine q_iload_n hC dX8_worthOf_4 rfl rfl ?_
  obtain ⟨r101, h⟩ := h
  refine q_iald hC ly_80 dX8_worthOf_5 rfl r101 ?_
  refine q_bipush hC dX8_worthOf_6 (by decide) rfl ?_
  refine q_icmp_ne hC dX8_worthOf_8 (t := 15) (by decide) rfl (hM 80 x1) (by decide) (fun c => ?_) (fun c => ?_)
  · have h := h.1 c
    refine q_aload_n hC dX8_worthOf_15 rfl rfl ?_
    refine q_getr hC fl_X8_46 ly_63 rfl dX8_worthOf_16 rfl ?_
    refine q_bipush hC dX8_worthOf_19 (by decide) rfl ?_
    refine q_iload_n hC dX8_worthOf_21 rfl rfl ?_
    refine q_imul hC dX8_worthOf_22 rfl ?_
    refine q_aload_n hC dX8_worthOf_23 rfl rfl ?_
    refine q_getr hC fl_X8_62 ly_63 rfl dX8_worthOf_24 rfl ?_
    refine q_iload_n hC dX8_worthOf_27 rfl rfl ?_
    refine q_iald hC ly_80 dX8_worthOf_28 rfl r101 ?_
    refine q_iadd hC dX8_worthOf_29 rfl ?_
    obtain ⟨r102, h⟩ := h
    refine q_iald hC ly_76 dX8_worthOf_30 rfl r102 ?_
    exact q_iret hC hQ dX8_worthOf_31 (hM 76 ((15 * x1) + (M 80 x1))) h
  · have h := h.2 c
    refine q_iconst hC dX8_worthOf_11 rfl ?_
    refine q_goto hC dX8_worthOf_12 (q := 31) (by decide) ?_
    exact q_iret hC hQ dX8_worthOf_31 (by decide) h
