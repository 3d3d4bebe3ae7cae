set_option maxRecDepth 20000 in
theorem e_X7_isBelow {g : qG} {d : Nat} {M : qM} {K : Int → qM → Prop} {x0 : Int} {x1 : Int} (hx0 : qR x0) (hx1 : qR x1) (h : ((x0 < 0 → (K 0 M)) ∧ (0 ≤ x0 → ((x1 ≤ x0 → (K 0 M)) ∧ (x0 < x1 → (K 1 M)))))) : qOk g d j_X7_isBelow [.inl x0, .inl x1] M (qI K) := by
  refine qOk.of (by decide) (Nat.le_of_ble_eq_true rfl) (fun C hC hQ => ?_)
  have hC : qCk g C cX7_isBelow RX7 2 d := hC
  have hQ : qRt g C (some .boolean) (qI K) := hQ
  show qW g C 0 [some (.inl x0), some (.inl x1)] [] M
  refine qW.rm (fun hM => ?_)
  refine q_iload_n hC dX7_isBelow_0 rfl rfl ?_
  refine q_if_lt hC dX7_isBelow_1 (t := 13) (by decide) rfl hx0 (fun c => ?_) (fun c => ?_)
  · have h := h.1 c
    refine q_iconst hC dX7_isBelow_13 rfl ?_
    exact q_zret hC hQ dX7_isBelow_14 (by decide) h
  · have h := h.2 c
    refine q_iload_n hC dX7_isBelow_4 rfl rfl ?_
    refine q_iload_n hC dX7_isBelow_5 rfl rfl ?_
    refine q_icmp_ge hC dX7_isBelow_6 (t := 13) (by decide) rfl hx0 hx1 (fun c => ?_) (fun c => ?_)
    · have h := h.1 c
      refine q_iconst hC dX7_isBelow_13 rfl ?_
      exact q_zret hC hQ dX7_isBelow_14 (by decide) h
    · have h := h.2 c
      refine q_iconst hC dX7_isBelow_9 rfl ?_
      refine q_goto hC dX7_isBelow_10 (q := 14) (by decide) ?_
      exact q_zret hC hQ dX7_isBelow_14 (by decide) h
set_option maxRecDepth 20000 in
theorem e_X7_isUpTo {g : qG} {d : Nat} {M : qM} {K : Int → qM → Prop} {x0 : Int} {x1 : Int} (hx0 : qR x0) (hx1 : qR x1) (h : ((x0 < 0 → (K 0 M)) ∧ (0 ≤ x0 → ((x1 < x0 → (K 0 M)) ∧ (x0 ≤ x1 → (K 1 M)))))) : qOk g d j_X7_isUpTo [.inl x0, .inl x1] M (qI K) := by
  refine qOk.of (by decide) (Nat.le_of_ble_eq_true rfl) (fun C hC hQ => ?_)
  have hC : qCk g C cX7_isUpTo RX7 2 d := hC
  have hQ : qRt g C (some .boolean) (qI K) := hQ
  show qW g C 0 [some (.inl x0), some (.inl x1)] [] M
  refine qW.rm (fun hM => ?_)
  refine q_iload_n hC dX7_isUpTo_0 rfl rfl ?_
  refine q_if_lt hC dX7_isUpTo_1 (t := 13) (by decide) rfl hx0 (fun c => ?_) (fun c => ?_)
  · have h := h.1 c
    refine q_iconst hC dX7_isUpTo_13 rfl ?_
    exact q_zret hC hQ dX7_isUpTo_14 (by decide) h
  · have h := h.2 c
    refine q_iload_n hC dX7_isUpTo_4 rfl rfl ?_
    refine q_iload_n hC dX7_isUpTo_5 rfl rfl ?_
    refine q_icmp_gt hC dX7_isUpTo_6 (t := 13) (by decide) rfl hx0 hx1 (fun c => ?_) (fun c => ?_)
    · have h := h.1 c
      refine q_iconst hC dX7_isUpTo_13 rfl ?_
      exact q_zret hC hQ dX7_isUpTo_14 (by decide) h
    · have h := h.2 c
      refine q_iconst hC dX7_isUpTo_9 rfl ?_
      refine q_goto hC dX7_isUpTo_10 (q := 14) (by decide) ?_
      exact q_zret hC hQ dX7_isUpTo_14 (by decide) h
set_option maxRecDepth 20000 in
theorem e_X7_isDay {g : qG} {d : Nat} {M : qM} {K : Int → qM → Prop} {x0 : Int} (hx0 : qR x0) (h : qOk g d j_X7_isUpTo [.inl x0, .inl 999] M (qI fun x103 M101 => (x103 = 0 ∨ x103 = 1) ∧ (K x103 M101))) : qOk g (d + 1) j_X7_isDay [.inl x0] M (qI K) := by
  refine qOk.of (by decide) (Nat.le_of_ble_eq_true rfl) (fun C hC hQ => ?_)
  have hC : qCk g C cX7_isDay RX7 1 (d + 1) := hC
  have hQ : qRt g C (some .boolean) (qI K) := hQ
  show qW g C 0 [some (.inl x0)] [] M
  refine qW.rm (fun hM => ?_)
  refine q_iload_n hC dX7_isDay_0 rfl rfl ?_
  refine q_sipush hC dX7_isDay_1 (by decide) rfl ?_
  refine q_callSi hC (As := [.inl x0, .inl 999]) md_X7_isUpTo ms_X7_isUpTo ml_X7_108 dX7_isDay_4 rfl (Nat.le_of_ble_eq_true rfl) rfl rfl h (fun x103 M101 hM102 r104 h => ?_)
  obtain ⟨r105, h⟩ := h
  exact q_zret hC hQ dX7_isDay_7 r105 h
set_option maxRecDepth 20000 in
theorem e_X7_isAge {g : qG} {d : Nat} {M : qM} {K : Int → qM → Prop} {x0 : Int} (hx0 : qR x0) (h : ((x0 < 6 → (K 0 M)) ∧ (6 ≤ x0 → ((18 < x0 → (K 0 M)) ∧ (x0 ≤ 18 → (K 1 M)))))) : qOk g d j_X7_isAge [.inl x0] M (qI K) := by
  refine qOk.of (by decide) (Nat.le_of_ble_eq_true rfl) (fun C hC hQ => ?_)
  have hC : qCk g C cX7_isAge RX7 1 d := hC
  have hQ : qRt g C (some .boolean) (qI K) := hQ
  show qW g C 0 [some (.inl x0)] [] M
  refine qW.rm (fun hM => ?_)
  refine q_iload_n hC dX7_isAge_0 rfl rfl ?_
  refine q_bipush hC dX7_isAge_1 (by decide) rfl ?_
  refine q_icmp_lt hC dX7_isAge_3 (t := 16) (by decide) rfl hx0 (by decide) (fun c => ?_) (fun c => ?_)
  · have h := h.1 c
    refine q_iconst hC dX7_isAge_16 rfl ?_
    exact q_zret hC hQ dX7_isAge_17 (by decide) h
  · have h := h.2 c
    refine q_iload_n hC dX7_isAge_6 rfl rfl ?_
    refine q_bipush hC dX7_isAge_7 (by decide) rfl ?_
    refine q_icmp_gt hC dX7_isAge_9 (t := 16) (by decide) rfl hx0 (by decide) (fun c => ?_) (fun c => ?_)
    · have h := h.1 c
      refine q_iconst hC dX7_isAge_16 rfl ?_
      exact q_zret hC hQ dX7_isAge_17 (by decide) h
    · have h := h.2 c
      refine q_iconst hC dX7_isAge_12 rfl ?_
      refine q_goto hC dX7_isAge_13 (q := 17) (by decide) ?_
      exact q_zret hC hQ dX7_isAge_17 (by decide) h
set_option maxRecDepth 20000 in
theorem e_X7_hasBit {g : qG} {d : Nat} {M : qM} {K : Int → qM → Prop} {x0 : Int} {x1 : Int} (hx0 : qR x0) (hx1 : qR x1) (h : (((qAnd (qShr x0 x1) 1) ≠ 1 → (K 0 M)) ∧ ((qAnd (qShr x0 x1) 1) = 1 → (K 1 M)))) : qOk g d j_X7_hasBit [.inl x0, .inl x1] M (qI K) := by
  refine qOk.of (by decide) (Nat.le_of_ble_eq_true rfl) (fun C hC hQ => ?_)
  have hC : qCk g C cX7_hasBit RX7 2 d := hC
  have hQ : qRt g C (some .boolean) (qI K) := hQ
  show qW g C 0 [some (.inl x0), some (.inl x1)] [] M
  refine qW.rm (fun hM => ?_)
  refine q_iload_n hC dX7_hasBit_0 rfl rfl ?_
  refine q_iload_n hC dX7_hasBit_1 rfl rfl ?_
  refine q_ishr hC dX7_hasBit_2 rfl ?_
  refine q_iconst hC dX7_hasBit_3 rfl ?_
  refine q_iand hC dX7_hasBit_4 rfl ?_
  refine q_iconst hC dX7_hasBit_5 rfl ?_
  refine q_icmp_ne hC dX7_hasBit_6 (t := 13) (by decide) rfl (qR_and _ _) (by decide) (fun c => ?_) (fun c => ?_)
  · have h := h.1 c
    refine q_iconst hC dX7_hasBit_13 rfl ?_
    exact q_zret hC hQ dX7_hasBit_14 (by decide) h
  · have h := h.2 c
    refine q_iconst hC dX7_hasBit_9 rfl ?_
    refine q_goto hC dX7_hasBit_10 (q := 14) (by decide) ?_
    exact q_zret hC hQ dX7_hasBit_14 (by decide) h
set_option maxRecDepth 20000 in
theorem e_X7_dayOrNone {g : qG} {d : Nat} {M : qM} {K : Int → qM → Prop} {x0 : Int} (hx0 : qR x0) (h : ((x0 ≠ 1000 → (K x0 M)) ∧ (x0 = 1000 → (K (-3) M)))) : qOk g d j_X7_dayOrNone [.inl x0] M (qI K) := by
  refine qOk.of (by decide) (Nat.le_of_ble_eq_true rfl) (fun C hC hQ => ?_)
  have hC : qCk g C cX7_dayOrNone RX7 1 d := hC
  have hQ : qRt g C (some .int) (qI K) := hQ
  show qW g C 0 [some (.inl x0)] [] M
  refine qW.rm (fun hM => ?_)
  refine q_iload_n hC dX7_dayOrNone_0 rfl rfl ?_
  refine q_sipush hC dX7_dayOrNone_1 (by decide) rfl ?_
  refine q_icmp_ne hC dX7_dayOrNone_4 (t := 12) (by decide) rfl hx0 (by decide) (fun c => ?_) (fun c => ?_)
  · have h := h.1 c
    refine q_iload_n hC dX7_dayOrNone_12 rfl rfl ?_
    exact q_iret hC hQ dX7_dayOrNone_13 hx0 h
  · have h := h.2 c
    refine q_bipush hC dX7_dayOrNone_7 (by decide) rfl ?_
    refine q_goto hC dX7_dayOrNone_9 (q := 13) (by decide) ?_
    exact q_iret hC hQ dX7_dayOrNone_13 (by decide) h
set_option maxRecDepth 20000 in
theorem e_X7_isChild {g : qG} {d : Nat} {M : qM} {K : Int → qM → Prop} {x1 : Int} (hx1 : qR x1) (h : qOk g d j_X7_isBelow [.inl x1, .inl (M 2 0)] M (qI fun x103 M101 => (x103 = 0 ∨ x103 = 1) ∧ (K x103 M101))) : qOk g (d + 1) j_X7_isChild [.inr 0, .inl x1] M (qI K) := by
  refine qOk.of (by decide) (Nat.le_of_ble_eq_true rfl) (fun C hC hQ => ?_)
  have hC : qCk g C cX7_isChild RX7 2 (d + 1) := hC
  have hQ : qRt g C (some .boolean) (qI K) := hQ
  show qW g C 0 [some (.inr 0), some (.inl x1)] [] M
  refine qW.rm (fun hM => ?_)
  refine q_iload_n hC dX7_isChild_0 rfl rfl ?_
  refine q_aload_n hC dX7_isChild_1 rfl rfl ?_
  refine q_getr hC fl_X7_12 ly_0 rfl dX7_isChild_2 rfl ?_
  refine q_getr hC fl_X7_52 ly_1 rfl dX7_isChild_5 rfl ?_
  refine q_geti hC fl_X7_56 ly_2 rfl (z := 0) rfl dX7_isChild_8 rfl ?_
  refine q_callSi hC (As := [.inl x1, .inl (M 2 0)]) md_X7_isBelow ms_X7_isBelow ml_X7_48 dX7_isChild_11 rfl (Nat.le_of_ble_eq_true rfl) rfl rfl h (fun x103 M101 hM102 r104 h => ?_)
  obtain ⟨r105, h⟩ := h
  exact q_zret hC hQ dX7_isChild_14 r105 h
set_option maxRecDepth 20000 in
theorem e_X7_isLeader {g : qG} {d : Nat} {M : qM} {K : Int → qM → Prop} {x1 : Int} (hx1 : qR x1) (h : qOk g d j_X7_isBelow [.inl x1, .inl (M 2 3)] M (qI fun x103 M101 => (x103 = 0 ∨ x103 = 1) ∧ (K x103 M101))) : qOk g (d + 1) j_X7_isLeader [.inr 0, .inl x1] M (qI K) := by
  refine qOk.of (by decide) (Nat.le_of_ble_eq_true rfl) (fun C hC hQ => ?_)
  have hC : qCk g C cX7_isLeader RX7 2 (d + 1) := hC
  have hQ : qRt g C (some .boolean) (qI K) := hQ
  show qW g C 0 [some (.inr 0), some (.inl x1)] [] M
  refine qW.rm (fun hM => ?_)
  refine q_iload_n hC dX7_isLeader_0 rfl rfl ?_
  refine q_aload_n hC dX7_isLeader_1 rfl rfl ?_
  refine q_getr hC fl_X7_12 ly_0 rfl dX7_isLeader_2 rfl ?_
  refine q_getr hC fl_X7_52 ly_1 rfl dX7_isLeader_5 rfl ?_
  refine q_geti hC fl_X7_75 ly_2 rfl (z := 3) rfl dX7_isLeader_8 rfl ?_
  refine q_callSi hC (As := [.inl x1, .inl (M 2 3)]) md_X7_isBelow ms_X7_isBelow ml_X7_48 dX7_isLeader_11 rfl (Nat.le_of_ble_eq_true rfl) rfl rfl h (fun x103 M101 hM102 r104 h => ?_)
  obtain ⟨r105, h⟩ := h
  exact q_zret hC hQ dX7_isLeader_14 r105 h
set_option maxRecDepth 20000 in
theorem e_X7_isTask {g : qG} {d : Nat} {M : qM} {K : Int → qM → Prop} {x1 : Int} (hx1 : qR x1) (h : qOk g d j_X7_isBelow [.inl x1, .inl (M 8 0)] M (qI fun x103 M101 => (x103 = 0 ∨ x103 = 1) ∧ (K x103 M101))) : qOk g (d + 1) j_X7_isTask [.inr 0, .inl x1] M (qI K) := by
  refine qOk.of (by decide) (Nat.le_of_ble_eq_true rfl) (fun C hC hQ => ?_)
  have hC : qCk g C cX7_isTask RX7 2 (d + 1) := hC
  have hQ : qRt g C (some .boolean) (qI K) := hQ
  show qW g C 0 [some (.inr 0), some (.inl x1)] [] M
  refine qW.rm (fun hM => ?_)
  refine q_iload_n hC dX7_isTask_0 rfl rfl ?_
  refine q_aload_n hC dX7_isTask_1 rfl rfl ?_
  refine q_getr hC fl_X7_12 ly_0 rfl dX7_isTask_2 rfl ?_
  refine q_getr hC fl_X7_93 ly_1 rfl dX7_isTask_5 rfl ?_
  refine q_geti hC fl_X7_97 ly_8 rfl (z := 0) rfl dX7_isTask_8 rfl ?_
  refine q_callSi hC (As := [.inl x1, .inl (M 8 0)]) md_X7_isBelow ms_X7_isBelow ml_X7_48 dX7_isTask_11 rfl (Nat.le_of_ble_eq_true rfl) rfl rfl h (fun x103 M101 hM102 r104 h => ?_)
  obtain ⟨r105, h⟩ := h
  exact q_zret hC hQ dX7_isTask_14 r105 h
set_option maxRecDepth 20000 in
theorem e_X7_isBadge {g : qG} {d : Nat} {M : qM} {K : Int → qM → Prop} {x1 : Int} (hx1 : qR x1) (h : qOk g d j_X7_isBelow [.inl x1, .inl (M 8 3)] M (qI fun x103 M101 => (x103 = 0 ∨ x103 = 1) ∧ (K x103 M101))) : qOk g (d + 1) j_X7_isBadge [.inr 0, .inl x1] M (qI K) := by
  refine qOk.of (by decide) (Nat.le_of_ble_eq_true rfl) (fun C hC hQ => ?_)
  have hC : qCk g C cX7_isBadge RX7 2 (d + 1) := hC
  have hQ : qRt g C (some .boolean) (qI K) := hQ
  show qW g C 0 [some (.inr 0), some (.inl x1)] [] M
  refine qW.rm (fun hM => ?_)
  refine q_iload_n hC dX7_isBadge_0 rfl rfl ?_
  refine q_aload_n hC dX7_isBadge_1 rfl rfl ?_
  refine q_getr hC fl_X7_12 ly_0 rfl dX7_isBadge_2 rfl ?_
  refine q_getr hC fl_X7_93 ly_1 rfl dX7_isBadge_5 rfl ?_
  refine q_geti hC fl_X7_114 ly_8 rfl (z := 3) rfl dX7_isBadge_8 rfl ?_
  refine q_callSi hC (As := [.inl x1, .inl (M 8 3)]) md_X7_isBelow ms_X7_isBelow ml_X7_48 dX7_isBadge_11 rfl (Nat.le_of_ble_eq_true rfl) rfl rfl h (fun x103 M101 hM102 r104 h => ?_)
  obtain ⟨r105, h⟩ := h
  exact q_zret hC hQ dX7_isBadge_14 r105 h
set_option maxRecDepth 20000 in
theorem e_X7_isSignature {g : qG} {d : Nat} {M : qM} {K : Int → qM → Prop} {x1 : Int} (hx1 : qR x1) (h : qOk g d j_X7_isBelow [.inl x1, .inl (M 16 0)] M (qI fun x103 M101 => (x103 = 0 ∨ x103 = 1) ∧ (K x103 M101))) : qOk g (d + 1) j_X7_isSignature [.inr 0, .inl x1] M (qI K) := by
  refine qOk.of (by decide) (Nat.le_of_ble_eq_true rfl) (fun C hC hQ => ?_)
  have hC : qCk g C cX7_isSignature RX7 2 (d + 1) := hC
  have hQ : qRt g C (some .boolean) (qI K) := hQ
  show qW g C 0 [some (.inr 0), some (.inl x1)] [] M
  refine qW.rm (fun hM => ?_)
  refine q_iload_n hC dX7_isSignature_0 rfl rfl ?_
  refine q_aload_n hC dX7_isSignature_1 rfl rfl ?_
  refine q_getr hC fl_X7_12 ly_0 rfl dX7_isSignature_2 rfl ?_
  refine q_getr hC fl_X7_130 ly_1 rfl dX7_isSignature_5 rfl ?_
  refine q_geti hC fl_X7_134 ly_16 rfl (z := 0) rfl dX7_isSignature_8 rfl ?_
  refine q_callSi hC (As := [.inl x1, .inl (M 16 0)]) md_X7_isBelow ms_X7_isBelow ml_X7_48 dX7_isSignature_11 rfl (Nat.le_of_ble_eq_true rfl) rfl rfl h (fun x103 M101 hM102 r104 h => ?_)
  obtain ⟨r105, h⟩ := h
  exact q_zret hC hQ dX7_isSignature_14 r105 h
set_option maxRecDepth 20000 in
theorem e_X7_child {g : qG} {d : Nat} {M : qM} {K : Int → qM → Prop} {x1 : Int} {x2 : Int} (hx1 : qR x1) (hx2 : qR x2) (h : qOk g d j_X7_isAge [.inl x1] M (qI fun x103 M101 => ((x103 = 0 → (K (-1) M101)) ∧ (x103 ≠ 0 → (qOk g d j_X7_isBelow [.inl x2, .inl 4] M101 (qI fun x107 M105 => ((x107 ≠ 0 → (((M105 2 0) < 10 → (0 ≤ (M105 2 0) ∧ (M105 2 0) < 10) ∧ (qR ((M105 2 0) + 1)) ∧ (K (M105 2 0) (qU (qU (qU (qU M105 3 (M105 2 0) x1) 4 (M105 2 0) x2) 2 0 ((M105 2 0) + 1)) 0 5 1))) ∧ (10 ≤ (M105 2 0) → (K (-2) M105)))) ∧ (x107 = 0 → (K (-1) M105))))))))) : qOk g (d + 1) j_X7_child [.inr 0, .inl x1, .inl x2] M (qI K) := by
  refine qOk.of (by decide) (Nat.le_of_ble_eq_true rfl) (fun C hC hQ => ?_)
  have hC : qCk g C cX7_child RX7 5 (d + 1) := hC
  have hQ : qRt g C (some .int) (qI K) := hQ
  show qW g C 0 [some (.inr 0), some (.inl x1), some (.inl x2), none, none] [] M
  refine qW.rm (fun hM => ?_)
  refine q_iload_n hC dX7_child_0 rfl rfl ?_
  refine q_callSi hC (As := [.inl x1]) md_X7_isAge ms_X7_isAge ml_X7_44 dX7_child_1 rfl (Nat.le_of_ble_eq_true rfl) rfl rfl h (fun x103 M101 hM102 r104 h => ?_)
  refine q_if_eq hC dX7_child_4 (t := 15) (by decide) rfl r104 (fun c => ?_) (fun c => ?_)
  · have h := h.1 c
    refine q_iconst hC dX7_child_15 rfl ?_
    exact q_iret hC hQ dX7_child_16 (by decide) h
  · have h := h.2 c
    refine q_iload_n hC dX7_child_7 rfl rfl ?_
    refine q_iconst hC dX7_child_8 rfl ?_
    refine q_callSi hC (As := [.inl x2, .inl 4]) md_X7_isBelow ms_X7_isBelow ml_X7_48 dX7_child_9 rfl (Nat.le_of_ble_eq_true rfl) rfl rfl h (fun x107 M105 hM106 r108 h => ?_)
    refine q_if_ne hC dX7_child_12 (t := 17) (by decide) rfl r108 (fun c => ?_) (fun c => ?_)
    · have h := h.1 c
      refine q_aload_n hC dX7_child_17 rfl rfl ?_
      refine q_getr hC fl_X7_12 ly_0 rfl dX7_child_18 rfl ?_
      refine q_getr hC fl_X7_52 ly_1 rfl dX7_child_21 rfl ?_
      refine q_astore_n hC dX7_child_24 (Nat.le_of_ble_eq_true rfl) (loc' := [some (.inr 0), some (.inl x1), some (.inl x2), some (.inr 2), none]) rfl rfl ?_
      refine q_aload_n hC dX7_child_25 rfl rfl ?_
      refine q_geti hC fl_X7_56 ly_2 rfl (z := 0) rfl dX7_child_26 rfl ?_
      refine q_bipush hC dX7_child_29 (by decide) rfl ?_
      refine q_icmp_lt hC dX7_child_31 (t := 37) (by decide) rfl (hM106 2 0) (by decide) (fun c => ?_) (fun c => ?_)
      · have h := h.1 c
        refine q_aload_n hC dX7_child_37 rfl rfl ?_
        refine q_geti hC fl_X7_56 ly_2 rfl (z := 0) rfl dX7_child_38 rfl ?_
        refine q_istore hC dX7_child_41 (Nat.le_of_ble_eq_true rfl) (loc' := [some (.inr 0), some (.inl x1), some (.inl x2), some (.inr 2), some (.inl (M105 2 0))]) rfl rfl ?_
        refine q_aload_n hC dX7_child_43 rfl rfl ?_
        refine q_getr hC fl_X7_61 ly_2 rfl dX7_child_44 rfl ?_
        refine q_iload hC dX7_child_47 rfl rfl ?_
        refine q_iload_n hC dX7_child_49 rfl rfl ?_
        obtain ⟨r109, h⟩ := h
        have hM110 : qIn (qU M105 3 (M105 2 0) x1) := (qU_in hM106 hx1)
        refine q_iast hC ly_3 dX7_child_50 rfl r109 hx1 ?_
        refine q_aload_n hC dX7_child_51 rfl rfl ?_
        refine q_getr hC fl_X7_65 ly_2 rfl dX7_child_52 rfl ?_
        refine q_iload hC dX7_child_55 rfl rfl ?_
        refine q_iload_n hC dX7_child_57 rfl rfl ?_
        have hM111 : qIn (qU (qU M105 3 (M105 2 0) x1) 4 (M105 2 0) x2) := (qU_in hM110 hx2)
        refine q_iast hC ly_4 dX7_child_58 rfl r109 hx2 ?_
        refine q_aload_n hC dX7_child_59 rfl rfl ?_
        refine q_iload hC dX7_child_60 rfl rfl ?_
        refine q_iconst hC dX7_child_62 rfl ?_
        refine q_iadd hC dX7_child_63 rfl ?_
        obtain ⟨r112, h⟩ := h
        have hM113 : qIn (qU (qU (qU M105 3 (M105 2 0) x1) 4 (M105 2 0) x2) 2 0 ((M105 2 0) + 1)) := (qU_in hM111 r112)
        refine q_puti hC fp_X7_56 ly_2 rfl (z := 0) rfl dX7_child_64 rfl r112 ?_
        refine q_aload_n hC dX7_child_67 rfl rfl ?_
        refine q_iconst hC dX7_child_68 rfl ?_
        have hM114 : qIn (qU (qU (qU (qU M105 3 (M105 2 0) x1) 4 (M105 2 0) x2) 2 0 ((M105 2 0) + 1)) 0 5 1) := (qU_in hM113 (q_rz (by decide)))
        refine q_putz hC fp_X7_37 ly_0 rfl (z := 5) rfl dX7_child_69 rfl (by decide) ?_
        refine q_iload hC dX7_child_72 rfl rfl ?_
        exact q_iret hC hQ dX7_child_74 (hM106 2 0) h
      · have h := h.2 c
        refine q_bipush hC dX7_child_34 (by decide) rfl ?_
        exact q_iret hC hQ dX7_child_36 (by decide) h
    · have h := h.2 c
      refine q_iconst hC dX7_child_15 rfl ?_
      exact q_iret hC hQ dX7_child_16 (by decide) h
set_option maxRecDepth 20000 in
theorem e_X7_change {g : qG} {d : Nat} {M : qM} {K : Int → qM → Prop} {x1 : Int} {x2 : Int} {x3 : Int} (hx1 : qR x1) (hx2 : qR x2) (hx3 : qR x3) (h : qOk g (d + 1) j_X7_isChild [.inr 0, .inl x1] M (qI fun x103 M101 => ((x103 ≠ 0 → ((x2 ≠ 0 → ((x2 ≠ 1 → (K (-1) M101)) ∧ (x2 = 1 → (qOk g (d + 1) j_X7_isBelow [.inl x3, .inl 4] M101 (qI fun x107 M105 => ((x107 = 0 → (K (-1) M105)) ∧ (x107 ≠ 0 → (qOk g (d + 1) j_X7_replace [.inr 4, .inl x1, .inl x3] (qU M105 0 5 1) (qI fun x112 M110 => K x112 M110))))))))) ∧ (x2 = 0 → (qOk g (d + 1) j_X7_isAge [.inl x3] M101 (qI fun x116 M114 => ((x116 = 0 → ((x2 ≠ 1 → (K (-1) M114)) ∧ (x2 = 1 → (qOk g (d + 1) j_X7_isBelow [.inl x3, .inl 4] M114 (qI fun x120 M118 => ((x120 = 0 → (K (-1) M118)) ∧ (x120 ≠ 0 → (qOk g (d + 1) j_X7_replace [.inr 4, .inl x1, .inl x3] (qU M118 0 5 1) (qI fun x125 M123 => K x125 M123))))))))) ∧ (x116 ≠ 0 → (qOk g (d + 1) j_X7_replace [.inr 3, .inl x1, .inl x3] M114 (qI fun x129 M127 => K x129 M127))))))))) ∧ (x103 = 0 → (K (-1) M101))))) : qOk g (d + 2) j_X7_change [.inr 0, .inl x1, .inl x2, .inl x3] M (qI K) := by
  refine qOk.of (by decide) (Nat.le_of_ble_eq_true rfl) (fun C hC hQ => ?_)
  have hC : qCk g C cX7_change RX7 4 (d + 2) := hC
  have hQ : qRt g C (some .int) (qI K) := hQ
  show qW g C 0 [some (.inr 0), some (.inl x1), some (.inl x2), some (.inl x3)] [] M
  refine qW.rm (fun hM => ?_)
  refine q_aload_n hC dX7_change_0 rfl rfl ?_
  refine q_iload_n hC dX7_change_1 rfl rfl ?_
  refine q_callVi hC (As := [.inl x1]) md_X7_isChild mv_X7_isChild ml_X7_68 ly_0 rfl dX7_change_2 rfl (Nat.le_of_ble_eq_true rfl) rfl rfl h (fun x103 M101 hM102 r104 h => ?_)
  refine q_if_ne hC dX7_change_5 (t := 10) (by decide) rfl r104 (fun c => ?_) (fun c => ?_)
  · have h := h.1 c
    refine q_iload_n hC dX7_change_10 rfl rfl ?_
    refine q_if_ne hC dX7_change_11 (t := 37) (by decide) rfl hx2 (fun c => ?_) (fun c => ?_)
    · have h := h.1 c
      refine q_iload_n hC dX7_change_37 rfl rfl ?_
      refine q_iconst hC dX7_change_38 rfl ?_
      refine q_icmp_ne hC dX7_change_39 (t := 71) (by decide) rfl hx2 (by decide) (fun c => ?_) (fun c => ?_)
      · have h := h.1 c
        refine q_iconst hC dX7_change_71 rfl ?_
        exact q_iret hC hQ dX7_change_72 (by decide) h
      · have h := h.2 c
        refine q_iload_n hC dX7_change_42 rfl rfl ?_
        refine q_iconst hC dX7_change_43 rfl ?_
        refine q_callSi hC (As := [.inl x3, .inl 4]) md_X7_isBelow ms_X7_isBelow ml_X7_48 dX7_change_44 rfl (Nat.le_of_ble_eq_true rfl) rfl rfl h (fun x107 M105 hM106 r108 h => ?_)
        refine q_if_eq hC dX7_change_47 (t := 71) (by decide) rfl r108 (fun c => ?_) (fun c => ?_)
        · have h := h.1 c
          refine q_iconst hC dX7_change_71 rfl ?_
          exact q_iret hC hQ dX7_change_72 (by decide) h
        · have h := h.2 c
          refine q_aload_n hC dX7_change_50 rfl rfl ?_
          refine q_iconst hC dX7_change_51 rfl ?_
          have hM109 : qIn (qU M105 0 5 1) := (qU_in hM106 (q_rz (by decide)))
          refine q_putz hC fp_X7_37 ly_0 rfl (z := 5) rfl dX7_change_52 rfl (by decide) ?_
          refine q_aload_n hC dX7_change_55 rfl rfl ?_
          refine q_getr hC fl_X7_12 ly_0 rfl dX7_change_56 rfl ?_
          refine q_getr hC fl_X7_52 ly_1 rfl dX7_change_59 rfl ?_
          refine q_getr hC fl_X7_65 ly_2 rfl dX7_change_62 rfl ?_
          refine q_iload_n hC dX7_change_65 rfl rfl ?_
          refine q_iload_n hC dX7_change_66 rfl rfl ?_
          refine q_callSi hC (As := [.inr 4, .inl x1, .inl x3]) md_X7_replace ms_X7_replace ml_X7_71 dX7_change_67 rfl (Nat.le_of_ble_eq_true rfl) rfl rfl h (fun x112 M110 hM111 r113 h => ?_)
          exact q_iret hC hQ dX7_change_70 r113 h
    · have h := h.2 c
      refine q_iload_n hC dX7_change_14 rfl rfl ?_
      refine q_callSi hC (As := [.inl x3]) md_X7_isAge ms_X7_isAge ml_X7_44 dX7_change_15 rfl (Nat.le_of_ble_eq_true rfl) rfl rfl h (fun x116 M114 hM115 r117 h => ?_)
      refine q_if_eq hC dX7_change_18 (t := 37) (by decide) rfl r117 (fun c => ?_) (fun c => ?_)
      · have h := h.1 c
        refine q_iload_n hC dX7_change_37 rfl rfl ?_
        refine q_iconst hC dX7_change_38 rfl ?_
        refine q_icmp_ne hC dX7_change_39 (t := 71) (by decide) rfl hx2 (by decide) (fun c => ?_) (fun c => ?_)
        · have h := h.1 c
          refine q_iconst hC dX7_change_71 rfl ?_
          exact q_iret hC hQ dX7_change_72 (by decide) h
        · have h := h.2 c
          refine q_iload_n hC dX7_change_42 rfl rfl ?_
          refine q_iconst hC dX7_change_43 rfl ?_
          refine q_callSi hC (As := [.inl x3, .inl 4]) md_X7_isBelow ms_X7_isBelow ml_X7_48 dX7_change_44 rfl (Nat.le_of_ble_eq_true rfl) rfl rfl h (fun x120 M118 hM119 r121 h => ?_)
          refine q_if_eq hC dX7_change_47 (t := 71) (by decide) rfl r121 (fun c => ?_) (fun c => ?_)
          · have h := h.1 c
            refine q_iconst hC dX7_change_71 rfl ?_
            exact q_iret hC hQ dX7_change_72 (by decide) h
          · have h := h.2 c
            refine q_aload_n hC dX7_change_50 rfl rfl ?_
            refine q_iconst hC dX7_change_51 rfl ?_
            have hM122 : qIn (qU M118 0 5 1) := (qU_in hM119 (q_rz (by decide)))
            refine q_putz hC fp_X7_37 ly_0 rfl (z := 5) rfl dX7_change_52 rfl (by decide) ?_
            refine q_aload_n hC dX7_change_55 rfl rfl ?_
            refine q_getr hC fl_X7_12 ly_0 rfl dX7_change_56 rfl ?_
            refine q_getr hC fl_X7_52 ly_1 rfl dX7_change_59 rfl ?_
            refine q_getr hC fl_X7_65 ly_2 rfl dX7_change_62 rfl ?_
            refine q_iload_n hC dX7_change_65 rfl rfl ?_
            refine q_iload_n hC dX7_change_66 rfl rfl ?_
            refine q_callSi hC (As := [.inr 4, .inl x1, .inl x3]) md_X7_replace ms_X7_replace ml_X7_71 dX7_change_67 rfl (Nat.le_of_ble_eq_true rfl) rfl rfl h (fun x125 M123 hM124 r126 h => ?_)
            exact q_iret hC hQ dX7_change_70 r126 h
      · have h := h.2 c
        refine q_aload_n hC dX7_change_21 rfl rfl ?_
        refine q_getr hC fl_X7_12 ly_0 rfl dX7_change_22 rfl ?_
        refine q_getr hC fl_X7_52 ly_1 rfl dX7_change_25 rfl ?_
        refine q_getr hC fl_X7_61 ly_2 rfl dX7_change_28 rfl ?_
        refine q_iload_n hC dX7_change_31 rfl rfl ?_
        refine q_iload_n hC dX7_change_32 rfl rfl ?_
        refine q_callSi hC (As := [.inr 3, .inl x1, .inl x3]) md_X7_replace ms_X7_replace ml_X7_71 dX7_change_33 rfl (Nat.le_of_ble_eq_true rfl) rfl rfl h (fun x129 M127 hM128 r130 h => ?_)
        exact q_iret hC hQ dX7_change_36 r130 h
  · have h := h.2 c
    refine q_iconst hC dX7_change_8 rfl ?_
    exact q_iret hC hQ dX7_change_9 (by decide) h
set_option maxRecDepth 20000 in
theorem e_X7_leader {g : qG} {d : Nat} {M : qM} {K : Int → qM → Prop}   (h : (((M 2 3) < 5 → (qR ((M 2 3) + 1)) ∧ (K (M 2 3) (qU M 2 3 ((M 2 3) + 1)))) ∧ (5 ≤ (M 2 3) → (K (-2) M)))) : qOk g d j_X7_leader [.inr 0] M (qI K) := by
  refine qOk.of (by decide) (Nat.le_of_ble_eq_true rfl) (fun C hC hQ => ?_)
  have hC : qCk g C cX7_leader RX7 3 d := hC
  have hQ : qRt g C (some .int) (qI K) := hQ
  show qW g C 0 [some (.inr 0), none, none] [] M
  refine qW.rm (fun hM => ?_)
  refine q_aload_n hC dX7_leader_0 rfl rfl ?_
  refine q_getr hC fl_X7_12 ly_0 rfl dX7_leader_1 rfl ?_
  refine q_getr hC fl_X7_52 ly_1 rfl dX7_leader_4 rfl ?_
  refine q_astore_n hC dX7_leader_7 (Nat.le_of_ble_eq_true rfl) (loc' := [some (.inr 0), some (.inr 2), none]) rfl rfl ?_
  refine q_aload_n hC dX7_leader_8 rfl rfl ?_
  refine q_geti hC fl_X7_75 ly_2 rfl (z := 3) rfl dX7_leader_9 rfl ?_
  refine q_iconst hC dX7_leader_12 rfl ?_
  refine q_icmp_lt hC dX7_leader_13 (t := 19) (by decide) rfl (hM 2 3) (by decide) (fun c => ?_) (fun c => ?_)
  · have h := h.1 c
    refine q_aload_n hC dX7_leader_19 rfl rfl ?_
    refine q_geti hC fl_X7_75 ly_2 rfl (z := 3) rfl dX7_leader_20 rfl ?_
    refine q_istore_n hC dX7_leader_23 (Nat.le_of_ble_eq_true rfl) (loc' := [some (.inr 0), some (.inr 2), some (.inl (M 2 3))]) rfl rfl ?_
    refine q_aload_n hC dX7_leader_24 rfl rfl ?_
    refine q_iload_n hC dX7_leader_25 rfl rfl ?_
    refine q_iconst hC dX7_leader_26 rfl ?_
    refine q_iadd hC dX7_leader_27 rfl ?_
    obtain ⟨r101, h⟩ := h
    have hM102 : qIn (qU M 2 3 ((M 2 3) + 1)) := (qU_in hM r101)
    refine q_puti hC fp_X7_75 ly_2 rfl (z := 3) rfl dX7_leader_28 rfl r101 ?_
    refine q_iload_n hC dX7_leader_31 rfl rfl ?_
    exact q_iret hC hQ dX7_leader_32 (hM 2 3) h
  · have h := h.2 c
    refine q_bipush hC dX7_leader_16 (by decide) rfl ?_
    exact q_iret hC hQ dX7_leader_18 (by decide) h
set_option maxRecDepth 20000 in
theorem e_X7_paper {g : qG} {d : Nat} {M : qM} {K : Int → qM → Prop} {x1 : Int} {x2 : Int} {x3 : Int} {x4 : Int} (hx1 : qR x1) (hx2 : qR x2) (hx3 : qR x3) (hx4 : qR x4) (h : qOk g (d + 1) j_X7_isLeader [.inr 0, .inl x1] M (qI fun x103 M101 => ((x103 = 0 → (K (-1) M101)) ∧ (x103 ≠ 0 → (qOk g (d + 1) j_X7_isBelow [.inl x2, .inl 4] M101 (qI fun x107 M105 => ((x107 = 0 → (K (-1) M105)) ∧ (x107 ≠ 0 → (qOk g (d + 1) j_X7_isDay [.inl x3] M105 (qI fun x111 M109 => ((x111 = 0 → (K (-1) M109)) ∧ (x111 ≠ 0 → (qOk g (d + 1) j_X7_isDay [.inl x4] M109 (qI fun x115 M113 => ((x115 = 0 → (K (-1) M113)) ∧ (x115 ≠ 0 → ((x3 ≤ x4 → (0 ≤ ((x1 * 4) + x2) ∧ ((x1 * 4) + x2) < 20) ∧ (K 1 (qU (qU M113 5 ((x1 * 4) + x2) x3) 6 ((x1 * 4) + x2) x4))) ∧ (x4 < x3 → (K (-1) M113))))))))))))))))))) : qOk g (d + 2) j_X7_paper [.inr 0, .inl x1, .inl x2, .inl x3, .inl x4] M (qI K) := by
  refine qOk.of (by decide) (Nat.le_of_ble_eq_true rfl) (fun C hC hQ => ?_)
  have hC : qCk g C cX7_paper RX7 6 (d + 2) := hC
  have hQ : qRt g C (some .int) (qI K) := hQ
  show qW g C 0 [some (.inr 0), some (.inl x1), some (.inl x2), some (.inl x3), some (.inl x4), none] [] M
  refine qW.rm (fun hM => ?_)
  refine q_aload_n hC dX7_paper_0 rfl rfl ?_
  refine q_iload_n hC dX7_paper_1 rfl rfl ?_
  refine q_callVi hC (As := [.inl x1]) md_X7_isLeader mv_X7_isLeader ml_X7_78 ly_0 rfl dX7_paper_2 rfl (Nat.le_of_ble_eq_true rfl) rfl rfl h (fun x103 M101 hM102 r104 h => ?_)
  refine q_if_eq hC dX7_paper_5 (t := 37) (by decide) rfl r104 (fun c => ?_) (fun c => ?_)
  · have h := h.1 c
    refine q_iconst hC dX7_paper_37 rfl ?_
    exact q_iret hC hQ dX7_paper_38 (by decide) h
  · have h := h.2 c
    refine q_iload_n hC dX7_paper_8 rfl rfl ?_
    refine q_iconst hC dX7_paper_9 rfl ?_
    refine q_callSi hC (As := [.inl x2, .inl 4]) md_X7_isBelow ms_X7_isBelow ml_X7_48 dX7_paper_10 rfl (Nat.le_of_ble_eq_true rfl) rfl rfl h (fun x107 M105 hM106 r108 h => ?_)
    refine q_if_eq hC dX7_paper_13 (t := 37) (by decide) rfl r108 (fun c => ?_) (fun c => ?_)
    · have h := h.1 c
      refine q_iconst hC dX7_paper_37 rfl ?_
      exact q_iret hC hQ dX7_paper_38 (by decide) h
    · have h := h.2 c
      refine q_iload_n hC dX7_paper_16 rfl rfl ?_
      refine q_callSi hC (As := [.inl x3]) md_X7_isDay ms_X7_isDay ml_X7_81 dX7_paper_17 rfl (Nat.le_of_ble_eq_true rfl) rfl rfl h (fun x111 M109 hM110 r112 h => ?_)
      refine q_if_eq hC dX7_paper_20 (t := 37) (by decide) rfl r112 (fun c => ?_) (fun c => ?_)
      · have h := h.1 c
        refine q_iconst hC dX7_paper_37 rfl ?_
        exact q_iret hC hQ dX7_paper_38 (by decide) h
      · have h := h.2 c
        refine q_iload hC dX7_paper_23 rfl rfl ?_
        refine q_callSi hC (As := [.inl x4]) md_X7_isDay ms_X7_isDay ml_X7_81 dX7_paper_25 rfl (Nat.le_of_ble_eq_true rfl) rfl rfl h (fun x115 M113 hM114 r116 h => ?_)
        refine q_if_eq hC dX7_paper_28 (t := 37) (by decide) rfl r116 (fun c => ?_) (fun c => ?_)
        · have h := h.1 c
          refine q_iconst hC dX7_paper_37 rfl ?_
          exact q_iret hC hQ dX7_paper_38 (by decide) h
        · have h := h.2 c
          refine q_iload_n hC dX7_paper_31 rfl rfl ?_
          refine q_iload hC dX7_paper_32 rfl rfl ?_
          refine q_icmp_le hC dX7_paper_34 (t := 39) (by decide) rfl hx3 hx4 (fun c => ?_) (fun c => ?_)
          · have h := h.1 c
            refine q_iload_n hC dX7_paper_39 rfl rfl ?_
            refine q_iconst hC dX7_paper_40 rfl ?_
            refine q_imul hC dX7_paper_41 rfl ?_
            refine q_iload_n hC dX7_paper_42 rfl rfl ?_
            refine q_iadd hC dX7_paper_43 rfl ?_
            refine q_istore hC dX7_paper_44 (Nat.le_of_ble_eq_true rfl) (loc' := [some (.inr 0), some (.inl x1), some (.inl x2), some (.inl x3), some (.inl x4), some (.inl ((x1 * 4) + x2))]) rfl rfl ?_
            refine q_aload_n hC dX7_paper_46 rfl rfl ?_
            refine q_getr hC fl_X7_12 ly_0 rfl dX7_paper_47 rfl ?_
            refine q_getr hC fl_X7_52 ly_1 rfl dX7_paper_50 rfl ?_
            refine q_getr hC fl_X7_84 ly_2 rfl dX7_paper_53 rfl ?_
            refine q_iload hC dX7_paper_56 rfl rfl ?_
            refine q_iload_n hC dX7_paper_58 rfl rfl ?_
            obtain ⟨r117, h⟩ := h
            have hM118 : qIn (qU M113 5 ((x1 * 4) + x2) x3) := (qU_in hM114 hx3)
            refine q_iast hC ly_5 dX7_paper_59 rfl r117 hx3 ?_
            refine q_aload_n hC dX7_paper_60 rfl rfl ?_
            refine q_getr hC fl_X7_12 ly_0 rfl dX7_paper_61 rfl ?_
            refine q_getr hC fl_X7_52 ly_1 rfl dX7_paper_64 rfl ?_
            refine q_getr hC fl_X7_87 ly_2 rfl dX7_paper_67 rfl ?_
            refine q_iload hC dX7_paper_70 rfl rfl ?_
            refine q_iload hC dX7_paper_72 rfl rfl ?_
            have hM119 : qIn (qU (qU M113 5 ((x1 * 4) + x2) x3) 6 ((x1 * 4) + x2) x4) := (qU_in hM118 hx4)
            refine q_iast hC ly_6 dX7_paper_74 rfl r117 hx4 ?_
            refine q_iconst hC dX7_paper_75 rfl ?_
            exact q_iret hC hQ dX7_paper_76 (by decide) h
          · have h := h.2 c
            refine q_iconst hC dX7_paper_37 rfl ?_
            exact q_iret hC hQ dX7_paper_38 (by decide) h
set_option maxRecDepth 20000 in
theorem e_X7_lose {g : qG} {d : Nat} {M : qM} {K : Int → qM → Prop} {x1 : Int} {x2 : Int} (hx1 : qR x1) (hx2 : qR x2) (h : qOk g (d + 1) j_X7_isLeader [.inr 0, .inl x1] M (qI fun x103 M101 => ((x103 = 0 → (K (-1) M101)) ∧ (x103 ≠ 0 → (qOk g (d + 1) j_X7_isBelow [.inl x2, .inl 4] M101 (qI fun x107 M105 => ((x107 ≠ 0 → (0 ≤ ((x1 * 4) + x2) ∧ ((x1 * 4) + x2) < 20) ∧ (((M105 5 ((x1 * 4) + x2)) ≠ (-1) → (K 1 (qU (qU M105 5 ((x1 * 4) + x2) (-1)) 6 ((x1 * 4) + x2) (-1)))) ∧ ((M105 5 ((x1 * 4) + x2)) = (-1) → (K (-3) M105)))) ∧ (x107 = 0 → (K (-1) M105))))))))) : qOk g (d + 2) j_X7_lose [.inr 0, .inl x1, .inl x2] M (qI K) := by
  refine qOk.of (by decide) (Nat.le_of_ble_eq_true rfl) (fun C hC hQ => ?_)
  have hC : qCk g C cX7_lose RX7 4 (d + 2) := hC
  have hQ : qRt g C (some .int) (qI K) := hQ
  show qW g C 0 [some (.inr 0), some (.inl x1), some (.inl x2), none] [] M
  refine qW.rm (fun hM => ?_)
  refine q_aload_n hC dX7_lose_0 rfl rfl ?_
  refine q_iload_n hC dX7_lose_1 rfl rfl ?_
  refine q_callVi hC (As := [.inl x1]) md_X7_isLeader mv_X7_isLeader ml_X7_78 ly_0 rfl dX7_lose_2 rfl (Nat.le_of_ble_eq_true rfl) rfl rfl h (fun x103 M101 hM102 r104 h => ?_)
  refine q_if_eq hC dX7_lose_5 (t := 16) (by decide) rfl r104 (fun c => ?_) (fun c => ?_)
  · have h := h.1 c
    refine q_iconst hC dX7_lose_16 rfl ?_
    exact q_iret hC hQ dX7_lose_17 (by decide) h
  · have h := h.2 c
    refine q_iload_n hC dX7_lose_8 rfl rfl ?_
    refine q_iconst hC dX7_lose_9 rfl ?_
    refine q_callSi hC (As := [.inl x2, .inl 4]) md_X7_isBelow ms_X7_isBelow ml_X7_48 dX7_lose_10 rfl (Nat.le_of_ble_eq_true rfl) rfl rfl h (fun x107 M105 hM106 r108 h => ?_)
    refine q_if_ne hC dX7_lose_13 (t := 18) (by decide) rfl r108 (fun c => ?_) (fun c => ?_)
    · have h := h.1 c
      refine q_iload_n hC dX7_lose_18 rfl rfl ?_
      refine q_iconst hC dX7_lose_19 rfl ?_
      refine q_imul hC dX7_lose_20 rfl ?_
      refine q_iload_n hC dX7_lose_21 rfl rfl ?_
      refine q_iadd hC dX7_lose_22 rfl ?_
      refine q_istore_n hC dX7_lose_23 (Nat.le_of_ble_eq_true rfl) (loc' := [some (.inr 0), some (.inl x1), some (.inl x2), some (.inl ((x1 * 4) + x2))]) rfl rfl ?_
      refine q_aload_n hC dX7_lose_24 rfl rfl ?_
      refine q_getr hC fl_X7_12 ly_0 rfl dX7_lose_25 rfl ?_
      refine q_getr hC fl_X7_52 ly_1 rfl dX7_lose_28 rfl ?_
      refine q_getr hC fl_X7_84 ly_2 rfl dX7_lose_31 rfl ?_
      refine q_iload_n hC dX7_lose_34 rfl rfl ?_
      obtain ⟨r109, h⟩ := h
      refine q_iald hC ly_5 dX7_lose_35 rfl r109 ?_
      refine q_iconst hC dX7_lose_36 rfl ?_
      refine q_icmp_ne hC dX7_lose_37 (t := 43) (by decide) rfl (hM106 5 ((x1 * 4) + x2)) (by decide) (fun c => ?_) (fun c => ?_)
      · have h := h.1 c
        refine q_aload_n hC dX7_lose_43 rfl rfl ?_
        refine q_getr hC fl_X7_12 ly_0 rfl dX7_lose_44 rfl ?_
        refine q_getr hC fl_X7_52 ly_1 rfl dX7_lose_47 rfl ?_
        refine q_getr hC fl_X7_84 ly_2 rfl dX7_lose_50 rfl ?_
        refine q_iload_n hC dX7_lose_53 rfl rfl ?_
        refine q_iconst hC dX7_lose_54 rfl ?_
        have hM110 : qIn (qU M105 5 ((x1 * 4) + x2) (-1)) := (qU_in hM106 (by decide))
        refine q_iast hC ly_5 dX7_lose_55 rfl r109 (by decide) ?_
        refine q_aload_n hC dX7_lose_56 rfl rfl ?_
        refine q_getr hC fl_X7_12 ly_0 rfl dX7_lose_57 rfl ?_
        refine q_getr hC fl_X7_52 ly_1 rfl dX7_lose_60 rfl ?_
        refine q_getr hC fl_X7_87 ly_2 rfl dX7_lose_63 rfl ?_
        refine q_iload_n hC dX7_lose_66 rfl rfl ?_
        refine q_iconst hC dX7_lose_67 rfl ?_
        have hM111 : qIn (qU (qU M105 5 ((x1 * 4) + x2) (-1)) 6 ((x1 * 4) + x2) (-1)) := (qU_in hM110 (by decide))
        refine q_iast hC ly_6 dX7_lose_68 rfl r109 (by decide) ?_
        refine q_iconst hC dX7_lose_69 rfl ?_
        exact q_iret hC hQ dX7_lose_70 (by decide) h
      · have h := h.2 c
        refine q_bipush hC dX7_lose_40 (by decide) rfl ?_
        exact q_iret hC hQ dX7_lose_42 (by decide) h
    · have h := h.2 c
      refine q_iconst hC dX7_lose_16 rfl ?_
      exact q_iret hC hQ dX7_lose_17 (by decide) h
set_option maxRecDepth 20000 in
theorem e_X7_task {g : qG} {d : Nat} {M : qM} {K : Int → qM → Prop} {x1 : Int} {x2 : Int} (hx1 : qR x1) (hx2 : qR x2) (h : qOk g (d + 1) j_X7_isBelow [.inl x1, .inl 4] M (qI fun x103 M101 => ((x103 = 0 → (K (-1) M101)) ∧ (x103 ≠ 0 → ((x2 = (-1) → (((M101 8 0) < 10 → (0 ≤ (M101 8 0) ∧ (M101 8 0) < 10) ∧ (qR ((M101 8 0) + 1)) ∧ (K (M101 8 0) (qU (qU (qU M101 9 (M101 8 0) x1) 10 (M101 8 0) x2) 8 0 ((M101 8 0) + 1)))) ∧ (10 ≤ (M101 8 0) → (K (-2) M101)))) ∧ (x2 ≠ (-1) → (qOk g (d + 1) j_X7_isTask [.inr 0, .inl x2] M101 (qI fun x112 M110 => ((x112 ≠ 0 → (((M110 8 0) < 10 → (0 ≤ (M110 8 0) ∧ (M110 8 0) < 10) ∧ (qR ((M110 8 0) + 1)) ∧ (K (M110 8 0) (qU (qU (qU M110 9 (M110 8 0) x1) 10 (M110 8 0) x2) 8 0 ((M110 8 0) + 1)))) ∧ (10 ≤ (M110 8 0) → (K (-2) M110)))) ∧ (x112 = 0 → (K (-1) M110))))))))))) : qOk g (d + 2) j_X7_task [.inr 0, .inl x1, .inl x2] M (qI K) := by
  refine qOk.of (by decide) (Nat.le_of_ble_eq_true rfl) (fun C hC hQ => ?_)
  have hC : qCk g C cX7_task RX7 5 (d + 2) := hC
  have hQ : qRt g C (some .int) (qI K) := hQ
  show qW g C 0 [some (.inr 0), some (.inl x1), some (.inl x2), none, none] [] M
  refine qW.rm (fun hM => ?_)
  refine q_iload_n hC dX7_task_0 rfl rfl ?_
  refine q_iconst hC dX7_task_1 rfl ?_
  refine q_callSi hC (As := [.inl x1, .inl 4]) md_X7_isBelow ms_X7_isBelow ml_X7_48 dX7_task_2 rfl (Nat.le_of_ble_eq_true rfl) rfl rfl h (fun x103 M101 hM102 r104 h => ?_)
  refine q_if_eq hC dX7_task_5 (t := 21) (by decide) rfl r104 (fun c => ?_) (fun c => ?_)
  · have h := h.1 c
    refine q_iconst hC dX7_task_21 rfl ?_
    exact q_iret hC hQ dX7_task_22 (by decide) h
  · have h := h.2 c
    refine q_iload_n hC dX7_task_8 rfl rfl ?_
    refine q_iconst hC dX7_task_9 rfl ?_
    refine q_icmp_eq hC dX7_task_10 (t := 23) (by decide) rfl hx2 (by decide) (fun c => ?_) (fun c => ?_)
    · have h := h.1 c
      refine q_aload_n hC dX7_task_23 rfl rfl ?_
      refine q_getr hC fl_X7_12 ly_0 rfl dX7_task_24 rfl ?_
      refine q_getr hC fl_X7_93 ly_1 rfl dX7_task_27 rfl ?_
      refine q_astore_n hC dX7_task_30 (Nat.le_of_ble_eq_true rfl) (loc' := [some (.inr 0), some (.inl x1), some (.inl x2), some (.inr 8), none]) rfl rfl ?_
      refine q_aload_n hC dX7_task_31 rfl rfl ?_
      refine q_geti hC fl_X7_97 ly_8 rfl (z := 0) rfl dX7_task_32 rfl ?_
      refine q_bipush hC dX7_task_35 (by decide) rfl ?_
      refine q_icmp_lt hC dX7_task_37 (t := 43) (by decide) rfl (hM102 8 0) (by decide) (fun c => ?_) (fun c => ?_)
      · have h := h.1 c
        refine q_aload_n hC dX7_task_43 rfl rfl ?_
        refine q_geti hC fl_X7_97 ly_8 rfl (z := 0) rfl dX7_task_44 rfl ?_
        refine q_istore hC dX7_task_47 (Nat.le_of_ble_eq_true rfl) (loc' := [some (.inr 0), some (.inl x1), some (.inl x2), some (.inr 8), some (.inl (M101 8 0))]) rfl rfl ?_
        refine q_aload_n hC dX7_task_49 rfl rfl ?_
        refine q_getr hC fl_X7_102 ly_8 rfl dX7_task_50 rfl ?_
        refine q_iload hC dX7_task_53 rfl rfl ?_
        refine q_iload_n hC dX7_task_55 rfl rfl ?_
        obtain ⟨r105, h⟩ := h
        have hM106 : qIn (qU M101 9 (M101 8 0) x1) := (qU_in hM102 hx1)
        refine q_iast hC ly_9 dX7_task_56 rfl r105 hx1 ?_
        refine q_aload_n hC dX7_task_57 rfl rfl ?_
        refine q_getr hC fl_X7_105 ly_8 rfl dX7_task_58 rfl ?_
        refine q_iload hC dX7_task_61 rfl rfl ?_
        refine q_iload_n hC dX7_task_63 rfl rfl ?_
        have hM107 : qIn (qU (qU M101 9 (M101 8 0) x1) 10 (M101 8 0) x2) := (qU_in hM106 hx2)
        refine q_iast hC ly_10 dX7_task_64 rfl r105 hx2 ?_
        refine q_aload_n hC dX7_task_65 rfl rfl ?_
        refine q_iload hC dX7_task_66 rfl rfl ?_
        refine q_iconst hC dX7_task_68 rfl ?_
        refine q_iadd hC dX7_task_69 rfl ?_
        obtain ⟨r108, h⟩ := h
        have hM109 : qIn (qU (qU (qU M101 9 (M101 8 0) x1) 10 (M101 8 0) x2) 8 0 ((M101 8 0) + 1)) := (qU_in hM107 r108)
        refine q_puti hC fp_X7_97 ly_8 rfl (z := 0) rfl dX7_task_70 rfl r108 ?_
        refine q_iload hC dX7_task_73 rfl rfl ?_
        exact q_iret hC hQ dX7_task_75 (hM102 8 0) h
      · have h := h.2 c
        refine q_bipush hC dX7_task_40 (by decide) rfl ?_
        exact q_iret hC hQ dX7_task_42 (by decide) h
    · have h := h.2 c
      refine q_aload_n hC dX7_task_13 rfl rfl ?_
      refine q_iload_n hC dX7_task_14 rfl rfl ?_
      refine q_callVi hC (As := [.inl x2]) md_X7_isTask mv_X7_isTask ml_X7_90 ly_0 rfl dX7_task_15 rfl (Nat.le_of_ble_eq_true rfl) rfl rfl h (fun x112 M110 hM111 r113 h => ?_)
      refine q_if_ne hC dX7_task_18 (t := 23) (by decide) rfl r113 (fun c => ?_) (fun c => ?_)
      · have h := h.1 c
        refine q_aload_n hC dX7_task_23 rfl rfl ?_
        refine q_getr hC fl_X7_12 ly_0 rfl dX7_task_24 rfl ?_
        refine q_getr hC fl_X7_93 ly_1 rfl dX7_task_27 rfl ?_
        refine q_astore_n hC dX7_task_30 (Nat.le_of_ble_eq_true rfl) (loc' := [some (.inr 0), some (.inl x1), some (.inl x2), some (.inr 8), none]) rfl rfl ?_
        refine q_aload_n hC dX7_task_31 rfl rfl ?_
        refine q_geti hC fl_X7_97 ly_8 rfl (z := 0) rfl dX7_task_32 rfl ?_
        refine q_bipush hC dX7_task_35 (by decide) rfl ?_
        refine q_icmp_lt hC dX7_task_37 (t := 43) (by decide) rfl (hM111 8 0) (by decide) (fun c => ?_) (fun c => ?_)
        · have h := h.1 c
          refine q_aload_n hC dX7_task_43 rfl rfl ?_
          refine q_geti hC fl_X7_97 ly_8 rfl (z := 0) rfl dX7_task_44 rfl ?_
          refine q_istore hC dX7_task_47 (Nat.le_of_ble_eq_true rfl) (loc' := [some (.inr 0), some (.inl x1), some (.inl x2), some (.inr 8), some (.inl (M110 8 0))]) rfl rfl ?_
          refine q_aload_n hC dX7_task_49 rfl rfl ?_
          refine q_getr hC fl_X7_102 ly_8 rfl dX7_task_50 rfl ?_
          refine q_iload hC dX7_task_53 rfl rfl ?_
          refine q_iload_n hC dX7_task_55 rfl rfl ?_
          obtain ⟨r114, h⟩ := h
          have hM115 : qIn (qU M110 9 (M110 8 0) x1) := (qU_in hM111 hx1)
          refine q_iast hC ly_9 dX7_task_56 rfl r114 hx1 ?_
          refine q_aload_n hC dX7_task_57 rfl rfl ?_
          refine q_getr hC fl_X7_105 ly_8 rfl dX7_task_58 rfl ?_
          refine q_iload hC dX7_task_61 rfl rfl ?_
          refine q_iload_n hC dX7_task_63 rfl rfl ?_
          have hM116 : qIn (qU (qU M110 9 (M110 8 0) x1) 10 (M110 8 0) x2) := (qU_in hM115 hx2)
          refine q_iast hC ly_10 dX7_task_64 rfl r114 hx2 ?_
          refine q_aload_n hC dX7_task_65 rfl rfl ?_
          refine q_iload hC dX7_task_66 rfl rfl ?_
          refine q_iconst hC dX7_task_68 rfl ?_
          refine q_iadd hC dX7_task_69 rfl ?_
          obtain ⟨r117, h⟩ := h
          have hM118 : qIn (qU (qU (qU M110 9 (M110 8 0) x1) 10 (M110 8 0) x2) 8 0 ((M110 8 0) + 1)) := (qU_in hM116 r117)
          refine q_puti hC fp_X7_97 ly_8 rfl (z := 0) rfl dX7_task_70 rfl r117 ?_
          refine q_iload hC dX7_task_73 rfl rfl ?_
          exact q_iret hC hQ dX7_task_75 (hM111 8 0) h
        · have h := h.2 c
          refine q_bipush hC dX7_task_40 (by decide) rfl ?_
          exact q_iret hC hQ dX7_task_42 (by decide) h
      · have h := h.2 c
        refine q_iconst hC dX7_task_21 rfl ?_
        exact q_iret hC hQ dX7_task_22 (by decide) h
set_option maxRecDepth 20000 in
theorem e_X7_badge {g : qG} {d : Nat} {M : qM} {K : Int → qM → Prop} {x1 : Int} {x2 : Int} {x3 : Int} {x4 : Int} {x5 : Int} (hx1 : qR x1) (hx2 : qR x2) (hx3 : qR x3) (hx4 : qR x4) (hx5 : qR x5) (h : qOk g (d + 1) j_X7_isUpTo [.inl x1, .inl 1023] M (qI fun x103 M101 => ((x103 = 0 → (K (-1) M101)) ∧ (x103 ≠ 0 → (qOk g (d + 1) j_X7_isUpTo [.inl x2, .inl 1023] M101 (qI fun x107 M105 => ((x107 = 0 → (K (-1) M105)) ∧ (x107 ≠ 0 → (qOk g (d + 1) j_X7_isUpTo [.inl x3, .inl 10] M105 (qI fun x111 M109 => ((x111 ≠ 0 → (qOk g (d + 1) j_X7_isAge [.inl x4] M109 (qI fun x115 M113 => ((x115 = 0 → (K (-1) M113)) ∧ (x115 ≠ 0 → ((x5 = (-1) → (((M113 8 3) < 8 → (0 ≤ (M113 8 3) ∧ (M113 8 3) < 8) ∧ (qR ((M113 8 3) + 1)) ∧ (K (M113 8 3) (qU (qU (qU (qU (qU (qU M113 11 (M113 8 3) x1) 12 (M113 8 3) x2) 13 (M113 8 3) x3) 14 (M113 8 3) x4) 15 (M113 8 3) x5) 8 3 ((M113 8 3) + 1)))) ∧ (8 ≤ (M113 8 3) → (K (-2) M113)))) ∧ (x5 ≠ (-1) → (qOk g (d + 1) j_X7_isBadge [.inr 0, .inl x5] M113 (qI fun x127 M125 => ((x127 ≠ 0 → (((M125 8 3) < 8 → (0 ≤ (M125 8 3) ∧ (M125 8 3) < 8) ∧ (qR ((M125 8 3) + 1)) ∧ (K (M125 8 3) (qU (qU (qU (qU (qU (qU M125 11 (M125 8 3) x1) 12 (M125 8 3) x2) 13 (M125 8 3) x3) 14 (M125 8 3) x4) 15 (M125 8 3) x5) 8 3 ((M125 8 3) + 1)))) ∧ (8 ≤ (M125 8 3) → (K (-2) M125)))) ∧ (x127 = 0 → (K (-1) M125)))))))))))) ∧ (x111 = 0 → (K (-1) M109))))))))))))) : qOk g (d + 2) j_X7_badge [.inr 0, .inl x1, .inl x2, .inl x3, .inl x4, .inl x5] M (qI K) := by
  refine qOk.of (by decide) (Nat.le_of_ble_eq_true rfl) (fun C hC hQ => ?_)
  have hC : qCk g C cX7_badge RX7 8 (d + 2) := hC
  have hQ : qRt g C (some .int) (qI K) := hQ
  show qW g C 0 [some (.inr 0), some (.inl x1), some (.inl x2), some (.inl x3), some (.inl x4), some (.inl x5), none, none] [] M
  refine qW.rm (fun hM => ?_)
  refine q_iload_n hC dX7_badge_0 rfl rfl ?_
  refine q_sipush hC dX7_badge_1 (by decide) rfl ?_
  refine q_callSi hC (As := [.inl x1, .inl 1023]) md_X7_isUpTo ms_X7_isUpTo ml_X7_108 dX7_badge_4 rfl (Nat.le_of_ble_eq_true rfl) rfl rfl h (fun x103 M101 hM102 r104 h => ?_)
  refine q_if_eq hC dX7_badge_7 (t := 29) (by decide) rfl r104 (fun c => ?_) (fun c => ?_)
  · have h := h.1 c
    refine q_iconst hC dX7_badge_29 rfl ?_
    exact q_iret hC hQ dX7_badge_30 (by decide) h
  · have h := h.2 c
    refine q_iload_n hC dX7_badge_10 rfl rfl ?_
    refine q_sipush hC dX7_badge_11 (by decide) rfl ?_
    refine q_callSi hC (As := [.inl x2, .inl 1023]) md_X7_isUpTo ms_X7_isUpTo ml_X7_108 dX7_badge_14 rfl (Nat.le_of_ble_eq_true rfl) rfl rfl h (fun x107 M105 hM106 r108 h => ?_)
    refine q_if_eq hC dX7_badge_17 (t := 29) (by decide) rfl r108 (fun c => ?_) (fun c => ?_)
    · have h := h.1 c
      refine q_iconst hC dX7_badge_29 rfl ?_
      exact q_iret hC hQ dX7_badge_30 (by decide) h
    · have h := h.2 c
      refine q_iload_n hC dX7_badge_20 rfl rfl ?_
      refine q_bipush hC dX7_badge_21 (by decide) rfl ?_
      refine q_callSi hC (As := [.inl x3, .inl 10]) md_X7_isUpTo ms_X7_isUpTo ml_X7_108 dX7_badge_23 rfl (Nat.le_of_ble_eq_true rfl) rfl rfl h (fun x111 M109 hM110 r112 h => ?_)
      refine q_if_ne hC dX7_badge_26 (t := 31) (by decide) rfl r112 (fun c => ?_) (fun c => ?_)
      · have h := h.1 c
        refine q_iload hC dX7_badge_31 rfl rfl ?_
        refine q_callSi hC (As := [.inl x4]) md_X7_isAge ms_X7_isAge ml_X7_44 dX7_badge_33 rfl (Nat.le_of_ble_eq_true rfl) rfl rfl h (fun x115 M113 hM114 r116 h => ?_)
        refine q_if_eq hC dX7_badge_36 (t := 54) (by decide) rfl r116 (fun c => ?_) (fun c => ?_)
        · have h := h.1 c
          refine q_iconst hC dX7_badge_54 rfl ?_
          exact q_iret hC hQ dX7_badge_55 (by decide) h
        · have h := h.2 c
          refine q_iload hC dX7_badge_39 rfl rfl ?_
          refine q_iconst hC dX7_badge_41 rfl ?_
          refine q_icmp_eq hC dX7_badge_42 (t := 56) (by decide) rfl hx5 (by decide) (fun c => ?_) (fun c => ?_)
          · have h := h.1 c
            refine q_aload_n hC dX7_badge_56 rfl rfl ?_
            refine q_getr hC fl_X7_12 ly_0 rfl dX7_badge_57 rfl ?_
            refine q_getr hC fl_X7_93 ly_1 rfl dX7_badge_60 rfl ?_
            refine q_astore hC dX7_badge_63 (Nat.le_of_ble_eq_true rfl) (loc' := [some (.inr 0), some (.inl x1), some (.inl x2), some (.inl x3), some (.inl x4), some (.inl x5), some (.inr 8), none]) rfl rfl ?_
            refine q_aload hC dX7_badge_65 rfl rfl ?_
            refine q_geti hC fl_X7_114 ly_8 rfl (z := 3) rfl dX7_badge_67 rfl ?_
            refine q_bipush hC dX7_badge_70 (by decide) rfl ?_
            refine q_icmp_lt hC dX7_badge_72 (t := 78) (by decide) rfl (hM114 8 3) (by decide) (fun c => ?_) (fun c => ?_)
            · have h := h.1 c
              refine q_aload hC dX7_badge_78 rfl rfl ?_
              refine q_geti hC fl_X7_114 ly_8 rfl (z := 3) rfl dX7_badge_80 rfl ?_
              refine q_istore hC dX7_badge_83 (Nat.le_of_ble_eq_true rfl) (loc' := [some (.inr 0), some (.inl x1), some (.inl x2), some (.inl x3), some (.inl x4), some (.inl x5), some (.inr 8), some (.inl (M113 8 3))]) rfl rfl ?_
              refine q_aload hC dX7_badge_85 rfl rfl ?_
              refine q_getr hC fl_X7_117 ly_8 rfl dX7_badge_87 rfl ?_
              refine q_iload hC dX7_badge_90 rfl rfl ?_
              refine q_iload_n hC dX7_badge_92 rfl rfl ?_
              obtain ⟨r117, h⟩ := h
              have hM118 : qIn (qU M113 11 (M113 8 3) x1) := (qU_in hM114 hx1)
              refine q_iast hC ly_11 dX7_badge_93 rfl r117 hx1 ?_
              refine q_aload hC dX7_badge_94 rfl rfl ?_
              refine q_getr hC fl_X7_120 ly_8 rfl dX7_badge_96 rfl ?_
              refine q_iload hC dX7_badge_99 rfl rfl ?_
              refine q_iload_n hC dX7_badge_101 rfl rfl ?_
              have hM119 : qIn (qU (qU M113 11 (M113 8 3) x1) 12 (M113 8 3) x2) := (qU_in hM118 hx2)
              refine q_iast hC ly_12 dX7_badge_102 rfl r117 hx2 ?_
              refine q_aload hC dX7_badge_103 rfl rfl ?_
              refine q_getr hC fl_X7_123 ly_8 rfl dX7_badge_105 rfl ?_
              refine q_iload hC dX7_badge_108 rfl rfl ?_
              refine q_iload_n hC dX7_badge_110 rfl rfl ?_
              have hM120 : qIn (qU (qU (qU M113 11 (M113 8 3) x1) 12 (M113 8 3) x2) 13 (M113 8 3) x3) := (qU_in hM119 hx3)
              refine q_iast hC ly_13 dX7_badge_111 rfl r117 hx3 ?_
              refine q_aload hC dX7_badge_112 rfl rfl ?_
              refine q_getr hC fl_X7_126 ly_8 rfl dX7_badge_114 rfl ?_
              refine q_iload hC dX7_badge_117 rfl rfl ?_
              refine q_iload hC dX7_badge_119 rfl rfl ?_
              have hM121 : qIn (qU (qU (qU (qU M113 11 (M113 8 3) x1) 12 (M113 8 3) x2) 13 (M113 8 3) x3) 14 (M113 8 3) x4) := (qU_in hM120 hx4)
              refine q_iast hC ly_14 dX7_badge_121 rfl r117 hx4 ?_
              refine q_aload hC dX7_badge_122 rfl rfl ?_
              refine q_getr hC fl_X7_127 ly_8 rfl dX7_badge_124 rfl ?_
              refine q_iload hC dX7_badge_127 rfl rfl ?_
              refine q_iload hC dX7_badge_129 rfl rfl ?_
              have hM122 : qIn (qU (qU (qU (qU (qU M113 11 (M113 8 3) x1) 12 (M113 8 3) x2) 13 (M113 8 3) x3) 14 (M113 8 3) x4) 15 (M113 8 3) x5) := (qU_in hM121 hx5)
              refine q_iast hC ly_15 dX7_badge_131 rfl r117 hx5 ?_
              refine q_aload hC dX7_badge_132 rfl rfl ?_
              refine q_iload hC dX7_badge_134 rfl rfl ?_
              refine q_iconst hC dX7_badge_136 rfl ?_
              refine q_iadd hC dX7_badge_137 rfl ?_
              obtain ⟨r123, h⟩ := h
              have hM124 : qIn (qU (qU (qU (qU (qU (qU M113 11 (M113 8 3) x1) 12 (M113 8 3) x2) 13 (M113 8 3) x3) 14 (M113 8 3) x4) 15 (M113 8 3) x5) 8 3 ((M113 8 3) + 1)) := (qU_in hM122 r123)
              refine q_puti hC fp_X7_114 ly_8 rfl (z := 3) rfl dX7_badge_138 rfl r123 ?_
              refine q_iload hC dX7_badge_141 rfl rfl ?_
              exact q_iret hC hQ dX7_badge_143 (hM114 8 3) h
            · have h := h.2 c
              refine q_bipush hC dX7_badge_75 (by decide) rfl ?_
              exact q_iret hC hQ dX7_badge_77 (by decide) h
          · have h := h.2 c
            refine q_aload_n hC dX7_badge_45 rfl rfl ?_
            refine q_iload hC dX7_badge_46 rfl rfl ?_
            refine q_callVi hC (As := [.inl x5]) md_X7_isBadge mv_X7_isBadge ml_X7_111 ly_0 rfl dX7_badge_48 rfl (Nat.le_of_ble_eq_true rfl) rfl rfl h (fun x127 M125 hM126 r128 h => ?_)
            refine q_if_ne hC dX7_badge_51 (t := 56) (by decide) rfl r128 (fun c => ?_) (fun c => ?_)
            · have h := h.1 c
              refine q_aload_n hC dX7_badge_56 rfl rfl ?_
              refine q_getr hC fl_X7_12 ly_0 rfl dX7_badge_57 rfl ?_
              refine q_getr hC fl_X7_93 ly_1 rfl dX7_badge_60 rfl ?_
              refine q_astore hC dX7_badge_63 (Nat.le_of_ble_eq_true rfl) (loc' := [some (.inr 0), some (.inl x1), some (.inl x2), some (.inl x3), some (.inl x4), some (.inl x5), some (.inr 8), none]) rfl rfl ?_
              refine q_aload hC dX7_badge_65 rfl rfl ?_
              refine q_geti hC fl_X7_114 ly_8 rfl (z := 3) rfl dX7_badge_67 rfl ?_
              refine q_bipush hC dX7_badge_70 (by decide) rfl ?_
              refine q_icmp_lt hC dX7_badge_72 (t := 78) (by decide) rfl (hM126 8 3) (by decide) (fun c => ?_) (fun c => ?_)
              · have h := h.1 c
                refine q_aload hC dX7_badge_78 rfl rfl ?_
                refine q_geti hC fl_X7_114 ly_8 rfl (z := 3) rfl dX7_badge_80 rfl ?_
                refine q_istore hC dX7_badge_83 (Nat.le_of_ble_eq_true rfl) (loc' := [some (.inr 0), some (.inl x1), some (.inl x2), some (.inl x3), some (.inl x4), some (.inl x5), some (.inr 8), some (.inl (M125 8 3))]) rfl rfl ?_
                refine q_aload hC dX7_badge_85 rfl rfl ?_
                refine q_getr hC fl_X7_117 ly_8 rfl dX7_badge_87 rfl ?_
                refine q_iload hC dX7_badge_90 rfl rfl ?_
                refine q_iload_n hC dX7_badge_92 rfl rfl ?_
                obtain ⟨r129, h⟩ := h
                have hM130 : qIn (qU M125 11 (M125 8 3) x1) := (qU_in hM126 hx1)
                refine q_iast hC ly_11 dX7_badge_93 rfl r129 hx1 ?_
                refine q_aload hC dX7_badge_94 rfl rfl ?_
                refine q_getr hC fl_X7_120 ly_8 rfl dX7_badge_96 rfl ?_
                refine q_iload hC dX7_badge_99 rfl rfl ?_
                refine q_iload_n hC dX7_badge_101 rfl rfl ?_
                have hM131 : qIn (qU (qU M125 11 (M125 8 3) x1) 12 (M125 8 3) x2) := (qU_in hM130 hx2)
                refine q_iast hC ly_12 dX7_badge_102 rfl r129 hx2 ?_
                refine q_aload hC dX7_badge_103 rfl rfl ?_
                refine q_getr hC fl_X7_123 ly_8 rfl dX7_badge_105 rfl ?_
                refine q_iload hC dX7_badge_108 rfl rfl ?_
                refine q_iload_n hC dX7_badge_110 rfl rfl ?_
                have hM132 : qIn (qU (qU (qU M125 11 (M125 8 3) x1) 12 (M125 8 3) x2) 13 (M125 8 3) x3) := (qU_in hM131 hx3)
                refine q_iast hC ly_13 dX7_badge_111 rfl r129 hx3 ?_
                refine q_aload hC dX7_badge_112 rfl rfl ?_
                refine q_getr hC fl_X7_126 ly_8 rfl dX7_badge_114 rfl ?_
                refine q_iload hC dX7_badge_117 rfl rfl ?_
                refine q_iload hC dX7_badge_119 rfl rfl ?_
                have hM133 : qIn (qU (qU (qU (qU M125 11 (M125 8 3) x1) 12 (M125 8 3) x2) 13 (M125 8 3) x3) 14 (M125 8 3) x4) := (qU_in hM132 hx4)
                refine q_iast hC ly_14 dX7_badge_121 rfl r129 hx4 ?_
                refine q_aload hC dX7_badge_122 rfl rfl ?_
                refine q_getr hC fl_X7_127 ly_8 rfl dX7_badge_124 rfl ?_
                refine q_iload hC dX7_badge_127 rfl rfl ?_
                refine q_iload hC dX7_badge_129 rfl rfl ?_
                have hM134 : qIn (qU (qU (qU (qU (qU M125 11 (M125 8 3) x1) 12 (M125 8 3) x2) 13 (M125 8 3) x3) 14 (M125 8 3) x4) 15 (M125 8 3) x5) := (qU_in hM133 hx5)
                refine q_iast hC ly_15 dX7_badge_131 rfl r129 hx5 ?_
                refine q_aload hC dX7_badge_132 rfl rfl ?_
                refine q_iload hC dX7_badge_134 rfl rfl ?_
                refine q_iconst hC dX7_badge_136 rfl ?_
                refine q_iadd hC dX7_badge_137 rfl ?_
                obtain ⟨r135, h⟩ := h
                have hM136 : qIn (qU (qU (qU (qU (qU (qU M125 11 (M125 8 3) x1) 12 (M125 8 3) x2) 13 (M125 8 3) x3) 14 (M125 8 3) x4) 15 (M125 8 3) x5) 8 3 ((M125 8 3) + 1)) := (qU_in hM134 r135)
                refine q_puti hC fp_X7_114 ly_8 rfl (z := 3) rfl dX7_badge_138 rfl r135 ?_
                refine q_iload hC dX7_badge_141 rfl rfl ?_
                exact q_iret hC hQ dX7_badge_143 (hM126 8 3) h
              · have h := h.2 c
                refine q_bipush hC dX7_badge_75 (by decide) rfl ?_
                exact q_iret hC hQ dX7_badge_77 (by decide) h
            · have h := h.2 c
              refine q_iconst hC dX7_badge_54 rfl ?_
              exact q_iret hC hQ dX7_badge_55 (by decide) h
      · have h := h.2 c
        refine q_iconst hC dX7_badge_29 rfl ?_
        exact q_iret hC hQ dX7_badge_30 (by decide) h
set_option maxRecDepth 20000 in
theorem e_X7_sign {g : qG} {d : Nat} {M : qM} {K : Int → qM → Prop} {x1 : Int} {x2 : Int} {x3 : Int} {x4 : Int} (hx1 : qR x1) (hx2 : qR x2) (hx3 : qR x3) (hx4 : qR x4) (h : qOk g (d + 1) j_X7_isChild [.inr 0, .inl x1] M (qI fun x103 M101 => ((x103 = 0 → (K (-1) M101)) ∧ (x103 ≠ 0 → (qOk g (d + 1) j_X7_isTask [.inr 0, .inl x2] M101 (qI fun x107 M105 => ((x107 = 0 → (K (-1) M105)) ∧ (x107 ≠ 0 → (qOk g (d + 1) j_X7_isLeader [.inr 0, .inl x3] M105 (qI fun x111 M109 => ((x111 = 0 → (K (-1) M109)) ∧ (x111 ≠ 0 → (qOk g (d + 1) j_X7_isDay [.inl x4] M109 (qI fun x115 M113 => ((x115 ≠ 0 → (((M113 16 0) < 80 → (0 ≤ (M113 16 0) ∧ (M113 16 0) < 80) ∧ (qR ((M113 16 0) + 1)) ∧ (K (M113 16 0) (qU (qU (qU (qU (qU (qU M113 17 (M113 16 0) x1) 18 (M113 16 0) x2) 19 (M113 16 0) x3) 20 (M113 16 0) x4) 21 (M113 16 0) 0) 16 0 ((M113 16 0) + 1)))) ∧ (80 ≤ (M113 16 0) → (K (-2) M113)))) ∧ (x115 = 0 → (K (-1) M113))))))))))))))))) : qOk g (d + 2) j_X7_sign [.inr 0, .inl x1, .inl x2, .inl x3, .inl x4] M (qI K) := by
  refine qOk.of (by decide) (Nat.le_of_ble_eq_true rfl) (fun C hC hQ => ?_)
  have hC : qCk g C cX7_sign RX7 7 (d + 2) := hC
  have hQ : qRt g C (some .int) (qI K) := hQ
  show qW g C 0 [some (.inr 0), some (.inl x1), some (.inl x2), some (.inl x3), some (.inl x4), none, none] [] M
  refine qW.rm (fun hM => ?_)
  refine q_aload_n hC dX7_sign_0 rfl rfl ?_
  refine q_iload_n hC dX7_sign_1 rfl rfl ?_
  refine q_callVi hC (As := [.inl x1]) md_X7_isChild mv_X7_isChild ml_X7_68 ly_0 rfl dX7_sign_2 rfl (Nat.le_of_ble_eq_true rfl) rfl rfl h (fun x103 M101 hM102 r104 h => ?_)
  refine q_if_eq hC dX7_sign_5 (t := 32) (by decide) rfl r104 (fun c => ?_) (fun c => ?_)
  · have h := h.1 c
    refine q_iconst hC dX7_sign_32 rfl ?_
    exact q_iret hC hQ dX7_sign_33 (by decide) h
  · have h := h.2 c
    refine q_aload_n hC dX7_sign_8 rfl rfl ?_
    refine q_iload_n hC dX7_sign_9 rfl rfl ?_
    refine q_callVi hC (As := [.inl x2]) md_X7_isTask mv_X7_isTask ml_X7_90 ly_0 rfl dX7_sign_10 rfl (Nat.le_of_ble_eq_true rfl) rfl rfl h (fun x107 M105 hM106 r108 h => ?_)
    refine q_if_eq hC dX7_sign_13 (t := 32) (by decide) rfl r108 (fun c => ?_) (fun c => ?_)
    · have h := h.1 c
      refine q_iconst hC dX7_sign_32 rfl ?_
      exact q_iret hC hQ dX7_sign_33 (by decide) h
    · have h := h.2 c
      refine q_aload_n hC dX7_sign_16 rfl rfl ?_
      refine q_iload_n hC dX7_sign_17 rfl rfl ?_
      refine q_callVi hC (As := [.inl x3]) md_X7_isLeader mv_X7_isLeader ml_X7_78 ly_0 rfl dX7_sign_18 rfl (Nat.le_of_ble_eq_true rfl) rfl rfl h (fun x111 M109 hM110 r112 h => ?_)
      refine q_if_eq hC dX7_sign_21 (t := 32) (by decide) rfl r112 (fun c => ?_) (fun c => ?_)
      · have h := h.1 c
        refine q_iconst hC dX7_sign_32 rfl ?_
        exact q_iret hC hQ dX7_sign_33 (by decide) h
      · have h := h.2 c
        refine q_iload hC dX7_sign_24 rfl rfl ?_
        refine q_callSi hC (As := [.inl x4]) md_X7_isDay ms_X7_isDay ml_X7_81 dX7_sign_26 rfl (Nat.le_of_ble_eq_true rfl) rfl rfl h (fun x115 M113 hM114 r116 h => ?_)
        refine q_if_ne hC dX7_sign_29 (t := 34) (by decide) rfl r116 (fun c => ?_) (fun c => ?_)
        · have h := h.1 c
          refine q_aload_n hC dX7_sign_34 rfl rfl ?_
          refine q_getr hC fl_X7_12 ly_0 rfl dX7_sign_35 rfl ?_
          refine q_getr hC fl_X7_130 ly_1 rfl dX7_sign_38 rfl ?_
          refine q_astore hC dX7_sign_41 (Nat.le_of_ble_eq_true rfl) (loc' := [some (.inr 0), some (.inl x1), some (.inl x2), some (.inl x3), some (.inl x4), some (.inr 16), none]) rfl rfl ?_
          refine q_aload hC dX7_sign_43 rfl rfl ?_
          refine q_geti hC fl_X7_134 ly_16 rfl (z := 0) rfl dX7_sign_45 rfl ?_
          refine q_bipush hC dX7_sign_48 (by decide) rfl ?_
          refine q_icmp_lt hC dX7_sign_50 (t := 56) (by decide) rfl (hM114 16 0) (by decide) (fun c => ?_) (fun c => ?_)
          · have h := h.1 c
            refine q_aload hC dX7_sign_56 rfl rfl ?_
            refine q_geti hC fl_X7_134 ly_16 rfl (z := 0) rfl dX7_sign_58 rfl ?_
            refine q_istore hC dX7_sign_61 (Nat.le_of_ble_eq_true rfl) (loc' := [some (.inr 0), some (.inl x1), some (.inl x2), some (.inl x3), some (.inl x4), some (.inr 16), some (.inl (M113 16 0))]) rfl rfl ?_
            refine q_aload hC dX7_sign_63 rfl rfl ?_
            refine q_getr hC fl_X7_139 ly_16 rfl dX7_sign_65 rfl ?_
            refine q_iload hC dX7_sign_68 rfl rfl ?_
            refine q_iload_n hC dX7_sign_70 rfl rfl ?_
            obtain ⟨r117, h⟩ := h
            have hM118 : qIn (qU M113 17 (M113 16 0) x1) := (qU_in hM114 hx1)
            refine q_iast hC ly_17 dX7_sign_71 rfl r117 hx1 ?_
            refine q_aload hC dX7_sign_72 rfl rfl ?_
            refine q_getr hC fl_X7_141 ly_16 rfl dX7_sign_74 rfl ?_
            refine q_iload hC dX7_sign_77 rfl rfl ?_
            refine q_iload_n hC dX7_sign_79 rfl rfl ?_
            have hM119 : qIn (qU (qU M113 17 (M113 16 0) x1) 18 (M113 16 0) x2) := (qU_in hM118 hx2)
            refine q_iast hC ly_18 dX7_sign_80 rfl r117 hx2 ?_
            refine q_aload hC dX7_sign_81 rfl rfl ?_
            refine q_getr hC fl_X7_143 ly_16 rfl dX7_sign_83 rfl ?_
            refine q_iload hC dX7_sign_86 rfl rfl ?_
            refine q_iload_n hC dX7_sign_88 rfl rfl ?_
            have hM120 : qIn (qU (qU (qU M113 17 (M113 16 0) x1) 18 (M113 16 0) x2) 19 (M113 16 0) x3) := (qU_in hM119 hx3)
            refine q_iast hC ly_19 dX7_sign_89 rfl r117 hx3 ?_
            refine q_aload hC dX7_sign_90 rfl rfl ?_
            refine q_getr hC fl_X7_145 ly_16 rfl dX7_sign_92 rfl ?_
            refine q_iload hC dX7_sign_95 rfl rfl ?_
            refine q_iload hC dX7_sign_97 rfl rfl ?_
            have hM121 : qIn (qU (qU (qU (qU M113 17 (M113 16 0) x1) 18 (M113 16 0) x2) 19 (M113 16 0) x3) 20 (M113 16 0) x4) := (qU_in hM120 hx4)
            refine q_iast hC ly_20 dX7_sign_99 rfl r117 hx4 ?_
            refine q_aload hC dX7_sign_100 rfl rfl ?_
            refine q_getr hC fl_X7_147 ly_16 rfl dX7_sign_102 rfl ?_
            refine q_iload hC dX7_sign_105 rfl rfl ?_
            refine q_iconst hC dX7_sign_107 rfl ?_
            have hM122 : qIn (qU (qU (qU (qU (qU M113 17 (M113 16 0) x1) 18 (M113 16 0) x2) 19 (M113 16 0) x3) 20 (M113 16 0) x4) 21 (M113 16 0) 0) := (qU_in hM121 (q_rz (by decide)))
            refine q_zast hC ly_21 dX7_sign_108 rfl r117 (by decide) ?_
            refine q_aload hC dX7_sign_109 rfl rfl ?_
            refine q_iload hC dX7_sign_111 rfl rfl ?_
            refine q_iconst hC dX7_sign_113 rfl ?_
            refine q_iadd hC dX7_sign_114 rfl ?_
            obtain ⟨r123, h⟩ := h
            have hM124 : qIn (qU (qU (qU (qU (qU (qU M113 17 (M113 16 0) x1) 18 (M113 16 0) x2) 19 (M113 16 0) x3) 20 (M113 16 0) x4) 21 (M113 16 0) 0) 16 0 ((M113 16 0) + 1)) := (qU_in hM122 r123)
            refine q_puti hC fp_X7_134 ly_16 rfl (z := 0) rfl dX7_sign_115 rfl r123 ?_
            refine q_iload hC dX7_sign_118 rfl rfl ?_
            exact q_iret hC hQ dX7_sign_120 (hM114 16 0) h
          · have h := h.2 c
            refine q_bipush hC dX7_sign_53 (by decide) rfl ?_
            exact q_iret hC hQ dX7_sign_55 (by decide) h
        · have h := h.2 c
          refine q_iconst hC dX7_sign_32 rfl ?_
          exact q_iret hC hQ dX7_sign_33 (by decide) h
set_option maxRecDepth 20000 in
theorem e_X7_strike {g : qG} {d : Nat} {M : qM} {K : Int → qM → Prop} {x1 : Int} (hx1 : qR x1) (h : qOk g (d + 1) j_X7_isSignature [.inr 0, .inl x1] M (qI fun x103 M101 => ((x103 ≠ 0 → (0 ≤ x1 ∧ x1 < 80) ∧ (((M101 21 x1) = 0 → (K 1 (qU M101 21 x1 1))) ∧ ((M101 21 x1) ≠ 0 → (K (-4) M101)))) ∧ (x103 = 0 → (K (-1) M101))))) : qOk g (d + 2) j_X7_strike [.inr 0, .inl x1] M (qI K) := by
  refine qOk.of (by decide) (Nat.le_of_ble_eq_true rfl) (fun C hC hQ => ?_)
  have hC : qCk g C cX7_strike RX7 2 (d + 2) := hC
  have hQ : qRt g C (some .int) (qI K) := hQ
  show qW g C 0 [some (.inr 0), some (.inl x1)] [] M
  refine qW.rm (fun hM => ?_)
  refine q_aload_n hC dX7_strike_0 rfl rfl ?_
  refine q_iload_n hC dX7_strike_1 rfl rfl ?_
  refine q_callVi hC (As := [.inl x1]) md_X7_isSignature mv_X7_isSignature ml_X7_151 ly_0 rfl dX7_strike_2 rfl (Nat.le_of_ble_eq_true rfl) rfl rfl h (fun x103 M101 hM102 r104 h => ?_)
  refine q_if_ne hC dX7_strike_5 (t := 10) (by decide) rfl r104 (fun c => ?_) (fun c => ?_)
  · have h := h.1 c
    refine q_aload_n hC dX7_strike_10 rfl rfl ?_
    refine q_getr hC fl_X7_12 ly_0 rfl dX7_strike_11 rfl ?_
    refine q_getr hC fl_X7_130 ly_1 rfl dX7_strike_14 rfl ?_
    refine q_getr hC fl_X7_147 ly_16 rfl dX7_strike_17 rfl ?_
    refine q_iload_n hC dX7_strike_20 rfl rfl ?_
    obtain ⟨r105, h⟩ := h
    refine q_zald hC ly_21 dX7_strike_21 rfl r105 ?_
    refine q_if_eq hC dX7_strike_22 (t := 28) (by decide) rfl (hM102 21 x1) (fun c => ?_) (fun c => ?_)
    · have h := h.1 c
      refine q_aload_n hC dX7_strike_28 rfl rfl ?_
      refine q_getr hC fl_X7_12 ly_0 rfl dX7_strike_29 rfl ?_
      refine q_getr hC fl_X7_130 ly_1 rfl dX7_strike_32 rfl ?_
      refine q_getr hC fl_X7_147 ly_16 rfl dX7_strike_35 rfl ?_
      refine q_iload_n hC dX7_strike_38 rfl rfl ?_
      refine q_iconst hC dX7_strike_39 rfl ?_
      have hM106 : qIn (qU M101 21 x1 1) := (qU_in hM102 (q_rz (by decide)))
      refine q_zast hC ly_21 dX7_strike_40 rfl r105 (by decide) ?_
      refine q_iconst hC dX7_strike_41 rfl ?_
      exact q_iret hC hQ dX7_strike_42 (by decide) h
    · have h := h.2 c
      refine q_bipush hC dX7_strike_25 (by decide) rfl ?_
      exact q_iret hC hQ dX7_strike_27 (by decide) h
  · have h := h.2 c
    refine q_iconst hC dX7_strike_8 rfl ?_
    exact q_iret hC hQ dX7_strike_9 (by decide) h
