/-! the law's loop -/
set_option maxRecDepth 20000 in
theorem s_L_law_18 {g : qG} {C : qX} {d : Nat} {M : qM} (hC : qCk g C cL_law RL 4 (d + 12)) {L : Nat} {xs : Int → Int} (hX : qSc g C L xs) (hL : L ≤ 3072) (hxs : ∀ j, qR (xs j)) (hLr : qR (L : Int)) (hE : ∀ (loc : List (Option qV)) (M : qM), qW g C 922 loc [.inl 1] M) {x3 : Int} (hx3 : qR x3) (h : (qR ((L : Int) - 6)) ∧ ((((L : Int) - 6) < x3 → (True)) ∧ (x3 ≤ ((L : Int) - 6) → (0 ≤ x3 ∧ x3 < (L : Int)) ∧ ((((qAnd (xs x3) 31) < 0 ∨ 22 < (qAnd (xs x3) 31)) → (qW g C 915 [some (.inr 84), some (.inr 0), some (.inr 63), some (.inl x3)] [] M)) ∧ ((qAnd (xs x3) 31) = 0 → (qW g C 140 [some (.inr 84), some (.inr 0), some (.inr 63), some (.inl x3)] [] M)) ∧ ((qAnd (xs x3) 31) = 1 → (qW g C 173 [some (.inr 84), some (.inr 0), some (.inr 63), some (.inl x3)] [] M)) ∧ ((qAnd (xs x3) 31) = 2 → (qW g C 216 [some (.inr 84), some (.inr 0), some (.inr 63), some (.inl x3)] [] M)) ∧ ((qAnd (xs x3) 31) = 3 → (qW g C 229 [some (.inr 84), some (.inr 0), some (.inr 63), some (.inl x3)] [] M)) ∧ ((qAnd (xs x3) 31) = 4 → (qW g C 282 [some (.inr 84), some (.inr 0), some (.inr 63), some (.inl x3)] [] M)) ∧ ((qAnd (xs x3) 31) = 5 → (qW g C 315 [some (.inr 84), some (.inr 0), some (.inr 63), some (.inl x3)] [] M)) ∧ ((qAnd (xs x3) 31) = 6 → (qW g C 348 [some (.inr 84), some (.inr 0), some (.inr 63), some (.inl x3)] [] M)) ∧ ((qAnd (xs x3) 31) = 7 → (qW g C 411 [some (.inr 84), some (.inr 0), some (.inr 63), some (.inl x3)] [] M)) ∧ ((qAnd (xs x3) 31) = 8 → (qW g C 464 [some (.inr 84), some (.inr 0), some (.inr 63), some (.inl x3)] [] M)) ∧ ((qAnd (xs x3) 31) = 9 → (qW g C 487 [some (.inr 84), some (.inr 0), some (.inr 63), some (.inl x3)] [] M)) ∧ ((qAnd (xs x3) 31) = 10 → (qW g C 520 [some (.inr 84), some (.inr 0), some (.inr 63), some (.inl x3)] [] M)) ∧ ((qAnd (xs x3) 31) = 11 → (qW g C 553 [some (.inr 84), some (.inr 0), some (.inr 63), some (.inl x3)] [] M)) ∧ ((qAnd (xs x3) 31) = 12 → (qW g C 586 [some (.inr 84), some (.inr 0), some (.inr 63), some (.inl x3)] [] M)) ∧ ((qAnd (xs x3) 31) = 13 → (qW g C 629 [some (.inr 84), some (.inr 0), some (.inr 63), some (.inl x3)] [] M)) ∧ ((qAnd (xs x3) 31) = 14 → (qW g C 662 [some (.inr 84), some (.inr 0), some (.inr 63), some (.inl x3)] [] M)) ∧ ((qAnd (xs x3) 31) = 15 → (qW g C 711 [some (.inr 84), some (.inr 0), some (.inr 63), some (.inl x3)] [] M)) ∧ ((qAnd (xs x3) 31) = 16 → (qW g C 764 [some (.inr 84), some (.inr 0), some (.inr 63), some (.inl x3)] [] M)) ∧ ((qAnd (xs x3) 31) = 17 → (qW g C 797 [some (.inr 84), some (.inr 0), some (.inr 63), some (.inl x3)] [] M)) ∧ ((qAnd (xs x3) 31) = 18 → (qW g C 820 [some (.inr 84), some (.inr 0), some (.inr 63), some (.inl x3)] [] M)) ∧ ((qAnd (xs x3) 31) = 19 → (qW g C 843 [some (.inr 84), some (.inr 0), some (.inr 63), some (.inl x3)] [] M)) ∧ ((qAnd (xs x3) 31) = 20 → (qW g C 866 [some (.inr 84), some (.inr 0), some (.inr 63), some (.inl x3)] [] M)) ∧ ((qAnd (xs x3) 31) = 21 → (qW g C 889 [some (.inr 84), some (.inr 0), some (.inr 63), some (.inl x3)] [] M)) ∧ ((qAnd (xs x3) 31) = 22 → (qW g C 902 [some (.inr 84), some (.inr 0), some (.inr 63), some (.inl x3)] [] M)))))) : qW g C 18 [some (.inr 84), some (.inr 0), some (.inr 63), some (.inl x3)] [] M := by
  refine qW.rm (fun hM => ?_)
  refine q_iload_n hC dL_law_18 rfl rfl ?_
  refine q_aload_n hC dL_law_19 rfl rfl ?_
  refine q_slen hC hX dL_law_20 rfl ?_
  refine q_bipush hC dL_law_21 (by decide) rfl ?_
  refine q_isub hC dL_law_23 rfl ?_
  obtain ⟨r101, h⟩ := h
  refine q_icmp_gt hC dL_law_24 (t := 921) (by decide) rfl hx3 r101 (fun c => ?_) (fun c => ?_)
  · have h := h.1 c
    refine q_iconst hC dL_law_921 rfl ?_
    exact hE _ _
  · have h := h.2 c
    refine q_aload_n hC dL_law_27 rfl rfl ?_
    refine q_iload_n hC dL_law_28 rfl rfl ?_
    obtain ⟨r102, h⟩ := h
    refine q_sld hC hX hL dL_law_29 rfl r102 ?_
    refine q_bipush hC dL_law_30 (by decide) rfl ?_
    refine q_iand hC dL_law_32 rfl ?_
    rcases (show ((qAnd (xs x3) 31) < 0 ∨ 22 < (qAnd (xs x3) 31)) ∨ (qAnd (xs x3) 31) = 0 ∨ (qAnd (xs x3) 31) = 1 ∨ (qAnd (xs x3) 31) = 2 ∨ (qAnd (xs x3) 31) = 3 ∨ (qAnd (xs x3) 31) = 4 ∨ (qAnd (xs x3) 31) = 5 ∨ (qAnd (xs x3) 31) = 6 ∨ (qAnd (xs x3) 31) = 7 ∨ (qAnd (xs x3) 31) = 8 ∨ (qAnd (xs x3) 31) = 9 ∨ (qAnd (xs x3) 31) = 10 ∨ (qAnd (xs x3) 31) = 11 ∨ (qAnd (xs x3) 31) = 12 ∨ (qAnd (xs x3) 31) = 13 ∨ (qAnd (xs x3) 31) = 14 ∨ (qAnd (xs x3) 31) = 15 ∨ (qAnd (xs x3) 31) = 16 ∨ (qAnd (xs x3) 31) = 17 ∨ (qAnd (xs x3) 31) = 18 ∨ (qAnd (xs x3) 31) = 19 ∨ (qAnd (xs x3) 31) = 20 ∨ (qAnd (xs x3) 31) = 21 ∨ (qAnd (xs x3) 31) = 22 by omega) with c | c | c | c | c | c | c | c | c | c | c | c | c | c | c | c | c | c | c | c | c | c | c | c
    · have h := h.1 c
      refine q_tabOut hC dL_law_33 (qR_and _ _) c (t := 915) (by decide) ?_
      exact h
    · have h := h.2.1 c
      refine q_tabIn hC dL_law_33 (qR_and _ _) c (by decide) (off := 107) (by decide) (t := 140) (by decide) ?_
      exact h
    · have h := h.2.2.1 c
      refine q_tabIn hC dL_law_33 (qR_and _ _) c (by decide) (off := 140) (by decide) (t := 173) (by decide) ?_
      exact h
    · have h := h.2.2.2.1 c
      refine q_tabIn hC dL_law_33 (qR_and _ _) c (by decide) (off := 183) (by decide) (t := 216) (by decide) ?_
      exact h
    · have h := h.2.2.2.2.1 c
      refine q_tabIn hC dL_law_33 (qR_and _ _) c (by decide) (off := 196) (by decide) (t := 229) (by decide) ?_
      exact h
    · have h := h.2.2.2.2.2.1 c
      refine q_tabIn hC dL_law_33 (qR_and _ _) c (by decide) (off := 249) (by decide) (t := 282) (by decide) ?_
      exact h
    · have h := h.2.2.2.2.2.2.1 c
      refine q_tabIn hC dL_law_33 (qR_and _ _) c (by decide) (off := 282) (by decide) (t := 315) (by decide) ?_
      exact h
    · have h := h.2.2.2.2.2.2.2.1 c
      refine q_tabIn hC dL_law_33 (qR_and _ _) c (by decide) (off := 315) (by decide) (t := 348) (by decide) ?_
      exact h
    · have h := h.2.2.2.2.2.2.2.2.1 c
      refine q_tabIn hC dL_law_33 (qR_and _ _) c (by decide) (off := 378) (by decide) (t := 411) (by decide) ?_
      exact h
    · have h := h.2.2.2.2.2.2.2.2.2.1 c
      refine q_tabIn hC dL_law_33 (qR_and _ _) c (by decide) (off := 431) (by decide) (t := 464) (by decide) ?_
      exact h
    · have h := h.2.2.2.2.2.2.2.2.2.2.1 c
      refine q_tabIn hC dL_law_33 (qR_and _ _) c (by decide) (off := 454) (by decide) (t := 487) (by decide) ?_
      exact h
    · have h := h.2.2.2.2.2.2.2.2.2.2.2.1 c
      refine q_tabIn hC dL_law_33 (qR_and _ _) c (by decide) (off := 487) (by decide) (t := 520) (by decide) ?_
      exact h
    · have h := h.2.2.2.2.2.2.2.2.2.2.2.2.1 c
      refine q_tabIn hC dL_law_33 (qR_and _ _) c (by decide) (off := 520) (by decide) (t := 553) (by decide) ?_
      exact h
    · have h := h.2.2.2.2.2.2.2.2.2.2.2.2.2.1 c
      refine q_tabIn hC dL_law_33 (qR_and _ _) c (by decide) (off := 553) (by decide) (t := 586) (by decide) ?_
      exact h
    · have h := h.2.2.2.2.2.2.2.2.2.2.2.2.2.2.1 c
      refine q_tabIn hC dL_law_33 (qR_and _ _) c (by decide) (off := 596) (by decide) (t := 629) (by decide) ?_
      exact h
    · have h := h.2.2.2.2.2.2.2.2.2.2.2.2.2.2.2.1 c
      refine q_tabIn hC dL_law_33 (qR_and _ _) c (by decide) (off := 629) (by decide) (t := 662) (by decide) ?_
      exact h
    · have h := h.2.2.2.2.2.2.2.2.2.2.2.2.2.2.2.2.1 c
      refine q_tabIn hC dL_law_33 (qR_and _ _) c (by decide) (off := 678) (by decide) (t := 711) (by decide) ?_
      exact h
    · have h := h.2.2.2.2.2.2.2.2.2.2.2.2.2.2.2.2.2.1 c
      refine q_tabIn hC dL_law_33 (qR_and _ _) c (by decide) (off := 731) (by decide) (t := 764) (by decide) ?_
      exact h
    · have h := h.2.2.2.2.2.2.2.2.2.2.2.2.2.2.2.2.2.2.1 c
      refine q_tabIn hC dL_law_33 (qR_and _ _) c (by decide) (off := 764) (by decide) (t := 797) (by decide) ?_
      exact h
    · have h := h.2.2.2.2.2.2.2.2.2.2.2.2.2.2.2.2.2.2.2.1 c
      refine q_tabIn hC dL_law_33 (qR_and _ _) c (by decide) (off := 787) (by decide) (t := 820) (by decide) ?_
      exact h
    · have h := h.2.2.2.2.2.2.2.2.2.2.2.2.2.2.2.2.2.2.2.2.1 c
      refine q_tabIn hC dL_law_33 (qR_and _ _) c (by decide) (off := 810) (by decide) (t := 843) (by decide) ?_
      exact h
    · have h := h.2.2.2.2.2.2.2.2.2.2.2.2.2.2.2.2.2.2.2.2.2.1 c
      refine q_tabIn hC dL_law_33 (qR_and _ _) c (by decide) (off := 833) (by decide) (t := 866) (by decide) ?_
      exact h
    · have h := h.2.2.2.2.2.2.2.2.2.2.2.2.2.2.2.2.2.2.2.2.2.2.1 c
      refine q_tabIn hC dL_law_33 (qR_and _ _) c (by decide) (off := 856) (by decide) (t := 889) (by decide) ?_
      exact h
    · have h := h.2.2.2.2.2.2.2.2.2.2.2.2.2.2.2.2.2.2.2.2.2.2.2 c
      refine q_tabIn hC dL_law_33 (qR_and _ _) c (by decide) (off := 869) (by decide) (t := 902) (by decide) ?_
      exact h
set_option maxRecDepth 20000 in
theorem s_L_law_140 {g : qG} {C : qX} {d : Nat} {M : qM} (hC : qCk g C cL_law RL 4 (d + 12)) {L : Nat} {xs : Int → Int} (hX : qSc g C L xs) (hL : L ≤ 3072) (hxs : ∀ j, qR (xs j)) (hLr : qR (L : Int)) (hE : ∀ (loc : List (Option qV)) (M : qM), qW g C 922 loc [.inl 1] M) {x3 : Int} (hx3 : qR x3) (h : (0 ≤ (x3 + 1) ∧ (x3 + 1) < (L : Int)) ∧ (0 ≤ (x3 + 2) ∧ (x3 + 2) < (L : Int)) ∧ (qOk g (d + 11) j_X7_child [.inr 0, .inl (xs (x3 + 1)), .inl (xs (x3 + 2))] M (qI fun x105 M103 => (0 ≤ (x3 + 1) ∧ (x3 + 1) < (L : Int)) ∧ (0 ≤ (x3 + 2) ∧ (x3 + 2) < (L : Int)) ∧ (qOk g (d + 11) j_X8_child [.inr 63, .inl (xs (x3 + 1)), .inl (xs (x3 + 2))] M103 (qI fun x111 M109 => ((x105 = x111 → (qW g C 915 [some (.inr 84), some (.inr 0), some (.inr 63), some (.inl x3)] [] M109)) ∧ (x105 ≠ x111 → (False)))))))) : qW g C 140 [some (.inr 84), some (.inr 0), some (.inr 63), some (.inl x3)] [] M := by
  refine qW.rm (fun hM => ?_)
  refine q_aload_n hC dL_law_140 rfl rfl ?_
  refine q_aload_n hC dL_law_141 rfl rfl ?_
  refine q_iload_n hC dL_law_142 rfl rfl ?_
  refine q_iconst hC dL_law_143 rfl ?_
  refine q_iadd hC dL_law_144 rfl ?_
  obtain ⟨r101, h⟩ := h
  refine q_sld hC hX hL dL_law_145 rfl r101 ?_
  refine q_aload_n hC dL_law_146 rfl rfl ?_
  refine q_iload_n hC dL_law_147 rfl rfl ?_
  refine q_iconst hC dL_law_148 rfl ?_
  refine q_iadd hC dL_law_149 rfl ?_
  obtain ⟨r102, h⟩ := h
  refine q_sld hC hX hL dL_law_150 rfl r102 ?_
  refine q_callVi hC (As := [.inl (xs (x3 + 1)), .inl (xs (x3 + 2))]) md_X7_child mv_X7_child ml_L_13 ly_0 rfl dL_law_151 rfl (Nat.le_of_ble_eq_true rfl) rfl rfl h (fun x105 M103 hM104 r106 h => ?_)
  refine q_aload_n hC dL_law_154 rfl rfl ?_
  refine q_aload_n hC dL_law_155 rfl rfl ?_
  refine q_iload_n hC dL_law_156 rfl rfl ?_
  refine q_iconst hC dL_law_157 rfl ?_
  refine q_iadd hC dL_law_158 rfl ?_
  obtain ⟨r107, h⟩ := h
  refine q_sld hC hX hL dL_law_159 rfl r107 ?_
  refine q_aload_n hC dL_law_160 rfl rfl ?_
  refine q_iload_n hC dL_law_161 rfl rfl ?_
  refine q_iconst hC dL_law_162 rfl ?_
  refine q_iadd hC dL_law_163 rfl ?_
  obtain ⟨r108, h⟩ := h
  refine q_sld hC hX hL dL_law_164 rfl r108 ?_
  refine q_callVi hC (As := [.inl (xs (x3 + 1)), .inl (xs (x3 + 2))]) md_X8_child mv_X8_child ml_L_17 ly_63 rfl dL_law_165 rfl (Nat.le_of_ble_eq_true rfl) rfl rfl h (fun x111 M109 hM110 r112 h => ?_)
  refine q_icmp_eq hC dL_law_168 (t := 915) (by decide) rfl r106 r112 (fun c => ?_) (fun c => ?_)
  · have h := h.1 c
    exact h
  · have h := h.2 c
    refine q_iconst hC dL_law_171 rfl ?_
    exact h.elim
set_option maxRecDepth 20000 in
theorem s_L_law_173 {g : qG} {C : qX} {d : Nat} {M : qM} (hC : qCk g C cL_law RL 4 (d + 12)) {L : Nat} {xs : Int → Int} (hX : qSc g C L xs) (hL : L ≤ 3072) (hxs : ∀ j, qR (xs j)) (hLr : qR (L : Int)) (hE : ∀ (loc : List (Option qV)) (M : qM), qW g C 922 loc [.inl 1] M) {x3 : Int} (hx3 : qR x3) (h : (0 ≤ (x3 + 1) ∧ (x3 + 1) < (L : Int)) ∧ (0 ≤ (x3 + 2) ∧ (x3 + 2) < (L : Int)) ∧ (0 ≤ (x3 + 3) ∧ (x3 + 3) < (L : Int)) ∧ (qOk g (d + 11) j_X7_change [.inr 0, .inl (xs (x3 + 1)), .inl (xs (x3 + 2)), .inl (xs (x3 + 3))] M (qI fun x106 M104 => (0 ≤ (x3 + 1) ∧ (x3 + 1) < (L : Int)) ∧ (0 ≤ (x3 + 2) ∧ (x3 + 2) < (L : Int)) ∧ (0 ≤ (x3 + 3) ∧ (x3 + 3) < (L : Int)) ∧ (qOk g (d + 11) j_X8_change [.inr 63, .inl (xs (x3 + 1)), .inl (xs (x3 + 2)), .inl (xs (x3 + 3))] M104 (qI fun x113 M111 => ((x106 = x113 → (qW g C 915 [some (.inr 84), some (.inr 0), some (.inr 63), some (.inl x3)] [] M111)) ∧ (x106 ≠ x113 → (False)))))))) : qW g C 173 [some (.inr 84), some (.inr 0), some (.inr 63), some (.inl x3)] [] M := by
  refine qW.rm (fun hM => ?_)
  refine q_aload_n hC dL_law_173 rfl rfl ?_
  refine q_aload_n hC dL_law_174 rfl rfl ?_
  refine q_iload_n hC dL_law_175 rfl rfl ?_
  refine q_iconst hC dL_law_176 rfl ?_
  refine q_iadd hC dL_law_177 rfl ?_
  obtain ⟨r101, h⟩ := h
  refine q_sld hC hX hL dL_law_178 rfl r101 ?_
  refine q_aload_n hC dL_law_179 rfl rfl ?_
  refine q_iload_n hC dL_law_180 rfl rfl ?_
  refine q_iconst hC dL_law_181 rfl ?_
  refine q_iadd hC dL_law_182 rfl ?_
  obtain ⟨r102, h⟩ := h
  refine q_sld hC hX hL dL_law_183 rfl r102 ?_
  refine q_aload_n hC dL_law_184 rfl rfl ?_
  refine q_iload_n hC dL_law_185 rfl rfl ?_
  refine q_iconst hC dL_law_186 rfl ?_
  refine q_iadd hC dL_law_187 rfl ?_
  obtain ⟨r103, h⟩ := h
  refine q_sld hC hX hL dL_law_188 rfl r103 ?_
  refine q_callVi hC (As := [.inl (xs (x3 + 1)), .inl (xs (x3 + 2)), .inl (xs (x3 + 3))]) md_X7_change mv_X7_change ml_L_18 ly_0 rfl dL_law_189 rfl (Nat.le_of_ble_eq_true rfl) rfl rfl h (fun x106 M104 hM105 r107 h => ?_)
  refine q_aload_n hC dL_law_192 rfl rfl ?_
  refine q_aload_n hC dL_law_193 rfl rfl ?_
  refine q_iload_n hC dL_law_194 rfl rfl ?_
  refine q_iconst hC dL_law_195 rfl ?_
  refine q_iadd hC dL_law_196 rfl ?_
  obtain ⟨r108, h⟩ := h
  refine q_sld hC hX hL dL_law_197 rfl r108 ?_
  refine q_aload_n hC dL_law_198 rfl rfl ?_
  refine q_iload_n hC dL_law_199 rfl rfl ?_
  refine q_iconst hC dL_law_200 rfl ?_
  refine q_iadd hC dL_law_201 rfl ?_
  obtain ⟨r109, h⟩ := h
  refine q_sld hC hX hL dL_law_202 rfl r109 ?_
  refine q_aload_n hC dL_law_203 rfl rfl ?_
  refine q_iload_n hC dL_law_204 rfl rfl ?_
  refine q_iconst hC dL_law_205 rfl ?_
  refine q_iadd hC dL_law_206 rfl ?_
  obtain ⟨r110, h⟩ := h
  refine q_sld hC hX hL dL_law_207 rfl r110 ?_
  refine q_callVi hC (As := [.inl (xs (x3 + 1)), .inl (xs (x3 + 2)), .inl (xs (x3 + 3))]) md_X8_change mv_X8_change ml_L_22 ly_63 rfl dL_law_208 rfl (Nat.le_of_ble_eq_true rfl) rfl rfl h (fun x113 M111 hM112 r114 h => ?_)
  refine q_icmp_eq hC dL_law_211 (t := 915) (by decide) rfl r107 r114 (fun c => ?_) (fun c => ?_)
  · have h := h.1 c
    exact h
  · have h := h.2 c
    refine q_iconst hC dL_law_214 rfl ?_
    exact h.elim
set_option maxRecDepth 20000 in
theorem s_L_law_216 {g : qG} {C : qX} {d : Nat} {M : qM} (hC : qCk g C cL_law RL 4 (d + 12)) {L : Nat} {xs : Int → Int} (hX : qSc g C L xs) (hL : L ≤ 3072) (hxs : ∀ j, qR (xs j)) (hLr : qR (L : Int)) (hE : ∀ (loc : List (Option qV)) (M : qM), qW g C 922 loc [.inl 1] M) {x3 : Int} (hx3 : qR x3) (h : qOk g (d + 11) j_X7_leader [.inr 0] M (qI fun x103 M101 => qOk g (d + 11) j_X8_leader [.inr 63] M101 (qI fun x107 M105 => ((x103 = x107 → (qW g C 915 [some (.inr 84), some (.inr 0), some (.inr 63), some (.inl x3)] [] M105)) ∧ (x103 ≠ x107 → (False)))))) : qW g C 216 [some (.inr 84), some (.inr 0), some (.inr 63), some (.inl x3)] [] M := by
  refine qW.rm (fun hM => ?_)
  refine q_aload_n hC dL_law_216 rfl rfl ?_
  refine q_callVi hC (As := []) md_X7_leader mv_X7_leader ml_L_23 ly_0 rfl dL_law_217 rfl (Nat.le_of_ble_eq_true rfl) rfl rfl h (fun x103 M101 hM102 r104 h => ?_)
  refine q_aload_n hC dL_law_220 rfl rfl ?_
  refine q_callVi hC (As := []) md_X8_leader mv_X8_leader ml_L_27 ly_63 rfl dL_law_221 rfl (Nat.le_of_ble_eq_true rfl) rfl rfl h (fun x107 M105 hM106 r108 h => ?_)
  refine q_icmp_eq hC dL_law_224 (t := 915) (by decide) rfl r104 r108 (fun c => ?_) (fun c => ?_)
  · have h := h.1 c
    exact h
  · have h := h.2 c
    refine q_iconst hC dL_law_227 rfl ?_
    exact h.elim
set_option maxRecDepth 20000 in
theorem s_L_law_229 {g : qG} {C : qX} {d : Nat} {M : qM} (hC : qCk g C cL_law RL 4 (d + 12)) {L : Nat} {xs : Int → Int} (hX : qSc g C L xs) (hL : L ≤ 3072) (hxs : ∀ j, qR (xs j)) (hLr : qR (L : Int)) (hE : ∀ (loc : List (Option qV)) (M : qM), qW g C 922 loc [.inl 1] M) {x3 : Int} (hx3 : qR x3) (h : (0 ≤ (x3 + 1) ∧ (x3 + 1) < (L : Int)) ∧ (0 ≤ (x3 + 2) ∧ (x3 + 2) < (L : Int)) ∧ (0 ≤ (x3 + 3) ∧ (x3 + 3) < (L : Int)) ∧ (0 ≤ (x3 + 4) ∧ (x3 + 4) < (L : Int)) ∧ (qOk g (d + 11) j_X7_paper [.inr 0, .inl (xs (x3 + 1)), .inl (xs (x3 + 2)), .inl (xs (x3 + 3)), .inl (xs (x3 + 4))] M (qI fun x107 M105 => (0 ≤ (x3 + 1) ∧ (x3 + 1) < (L : Int)) ∧ (0 ≤ (x3 + 2) ∧ (x3 + 2) < (L : Int)) ∧ (0 ≤ (x3 + 3) ∧ (x3 + 3) < (L : Int)) ∧ (0 ≤ (x3 + 4) ∧ (x3 + 4) < (L : Int)) ∧ (qOk g (d + 11) j_X8_paper [.inr 63, .inl (xs (x3 + 1)), .inl (xs (x3 + 2)), .inl (xs (x3 + 3)), .inl (xs (x3 + 4))] M105 (qI fun x115 M113 => ((x107 = x115 → (qW g C 915 [some (.inr 84), some (.inr 0), some (.inr 63), some (.inl x3)] [] M113)) ∧ (x107 ≠ x115 → (False)))))))) : qW g C 229 [some (.inr 84), some (.inr 0), some (.inr 63), some (.inl x3)] [] M := by
  refine qW.rm (fun hM => ?_)
  refine q_aload_n hC dL_law_229 rfl rfl ?_
  refine q_aload_n hC dL_law_230 rfl rfl ?_
  refine q_iload_n hC dL_law_231 rfl rfl ?_
  refine q_iconst hC dL_law_232 rfl ?_
  refine q_iadd hC dL_law_233 rfl ?_
  obtain ⟨r101, h⟩ := h
  refine q_sld hC hX hL dL_law_234 rfl r101 ?_
  refine q_aload_n hC dL_law_235 rfl rfl ?_
  refine q_iload_n hC dL_law_236 rfl rfl ?_
  refine q_iconst hC dL_law_237 rfl ?_
  refine q_iadd hC dL_law_238 rfl ?_
  obtain ⟨r102, h⟩ := h
  refine q_sld hC hX hL dL_law_239 rfl r102 ?_
  refine q_aload_n hC dL_law_240 rfl rfl ?_
  refine q_iload_n hC dL_law_241 rfl rfl ?_
  refine q_iconst hC dL_law_242 rfl ?_
  refine q_iadd hC dL_law_243 rfl ?_
  obtain ⟨r103, h⟩ := h
  refine q_sld hC hX hL dL_law_244 rfl r103 ?_
  refine q_aload_n hC dL_law_245 rfl rfl ?_
  refine q_iload_n hC dL_law_246 rfl rfl ?_
  refine q_iconst hC dL_law_247 rfl ?_
  refine q_iadd hC dL_law_248 rfl ?_
  obtain ⟨r104, h⟩ := h
  refine q_sld hC hX hL dL_law_249 rfl r104 ?_
  refine q_callVi hC (As := [.inl (xs (x3 + 1)), .inl (xs (x3 + 2)), .inl (xs (x3 + 3)), .inl (xs (x3 + 4))]) md_X7_paper mv_X7_paper ml_L_28 ly_0 rfl dL_law_250 rfl (Nat.le_of_ble_eq_true rfl) rfl rfl h (fun x107 M105 hM106 r108 h => ?_)
  refine q_aload_n hC dL_law_253 rfl rfl ?_
  refine q_aload_n hC dL_law_254 rfl rfl ?_
  refine q_iload_n hC dL_law_255 rfl rfl ?_
  refine q_iconst hC dL_law_256 rfl ?_
  refine q_iadd hC dL_law_257 rfl ?_
  obtain ⟨r109, h⟩ := h
  refine q_sld hC hX hL dL_law_258 rfl r109 ?_
  refine q_aload_n hC dL_law_259 rfl rfl ?_
  refine q_iload_n hC dL_law_260 rfl rfl ?_
  refine q_iconst hC dL_law_261 rfl ?_
  refine q_iadd hC dL_law_262 rfl ?_
  obtain ⟨r110, h⟩ := h
  refine q_sld hC hX hL dL_law_263 rfl r110 ?_
  refine q_aload_n hC dL_law_264 rfl rfl ?_
  refine q_iload_n hC dL_law_265 rfl rfl ?_
  refine q_iconst hC dL_law_266 rfl ?_
  refine q_iadd hC dL_law_267 rfl ?_
  obtain ⟨r111, h⟩ := h
  refine q_sld hC hX hL dL_law_268 rfl r111 ?_
  refine q_aload_n hC dL_law_269 rfl rfl ?_
  refine q_iload_n hC dL_law_270 rfl rfl ?_
  refine q_iconst hC dL_law_271 rfl ?_
  refine q_iadd hC dL_law_272 rfl ?_
  obtain ⟨r112, h⟩ := h
  refine q_sld hC hX hL dL_law_273 rfl r112 ?_
  refine q_callVi hC (As := [.inl (xs (x3 + 1)), .inl (xs (x3 + 2)), .inl (xs (x3 + 3)), .inl (xs (x3 + 4))]) md_X8_paper mv_X8_paper ml_L_32 ly_63 rfl dL_law_274 rfl (Nat.le_of_ble_eq_true rfl) rfl rfl h (fun x115 M113 hM114 r116 h => ?_)
  refine q_icmp_eq hC dL_law_277 (t := 915) (by decide) rfl r108 r116 (fun c => ?_) (fun c => ?_)
  · have h := h.1 c
    exact h
  · have h := h.2 c
    refine q_iconst hC dL_law_280 rfl ?_
    exact h.elim
set_option maxRecDepth 20000 in
theorem s_L_law_282 {g : qG} {C : qX} {d : Nat} {M : qM} (hC : qCk g C cL_law RL 4 (d + 12)) {L : Nat} {xs : Int → Int} (hX : qSc g C L xs) (hL : L ≤ 3072) (hxs : ∀ j, qR (xs j)) (hLr : qR (L : Int)) (hE : ∀ (loc : List (Option qV)) (M : qM), qW g C 922 loc [.inl 1] M) {x3 : Int} (hx3 : qR x3) (h : (0 ≤ (x3 + 1) ∧ (x3 + 1) < (L : Int)) ∧ (0 ≤ (x3 + 2) ∧ (x3 + 2) < (L : Int)) ∧ (qOk g (d + 11) j_X7_lose [.inr 0, .inl (xs (x3 + 1)), .inl (xs (x3 + 2))] M (qI fun x105 M103 => (0 ≤ (x3 + 1) ∧ (x3 + 1) < (L : Int)) ∧ (0 ≤ (x3 + 2) ∧ (x3 + 2) < (L : Int)) ∧ (qOk g (d + 11) j_X8_lose [.inr 63, .inl (xs (x3 + 1)), .inl (xs (x3 + 2))] M103 (qI fun x111 M109 => ((x105 = x111 → (qW g C 915 [some (.inr 84), some (.inr 0), some (.inr 63), some (.inl x3)] [] M109)) ∧ (x105 ≠ x111 → (False)))))))) : qW g C 282 [some (.inr 84), some (.inr 0), some (.inr 63), some (.inl x3)] [] M := by
  refine qW.rm (fun hM => ?_)
  refine q_aload_n hC dL_law_282 rfl rfl ?_
  refine q_aload_n hC dL_law_283 rfl rfl ?_
  refine q_iload_n hC dL_law_284 rfl rfl ?_
  refine q_iconst hC dL_law_285 rfl ?_
  refine q_iadd hC dL_law_286 rfl ?_
  obtain ⟨r101, h⟩ := h
  refine q_sld hC hX hL dL_law_287 rfl r101 ?_
  refine q_aload_n hC dL_law_288 rfl rfl ?_
  refine q_iload_n hC dL_law_289 rfl rfl ?_
  refine q_iconst hC dL_law_290 rfl ?_
  refine q_iadd hC dL_law_291 rfl ?_
  obtain ⟨r102, h⟩ := h
  refine q_sld hC hX hL dL_law_292 rfl r102 ?_
  refine q_callVi hC (As := [.inl (xs (x3 + 1)), .inl (xs (x3 + 2))]) md_X7_lose mv_X7_lose ml_L_33 ly_0 rfl dL_law_293 rfl (Nat.le_of_ble_eq_true rfl) rfl rfl h (fun x105 M103 hM104 r106 h => ?_)
  refine q_aload_n hC dL_law_296 rfl rfl ?_
  refine q_aload_n hC dL_law_297 rfl rfl ?_
  refine q_iload_n hC dL_law_298 rfl rfl ?_
  refine q_iconst hC dL_law_299 rfl ?_
  refine q_iadd hC dL_law_300 rfl ?_
  obtain ⟨r107, h⟩ := h
  refine q_sld hC hX hL dL_law_301 rfl r107 ?_
  refine q_aload_n hC dL_law_302 rfl rfl ?_
  refine q_iload_n hC dL_law_303 rfl rfl ?_
  refine q_iconst hC dL_law_304 rfl ?_
  refine q_iadd hC dL_law_305 rfl ?_
  obtain ⟨r108, h⟩ := h
  refine q_sld hC hX hL dL_law_306 rfl r108 ?_
  refine q_callVi hC (As := [.inl (xs (x3 + 1)), .inl (xs (x3 + 2))]) md_X8_lose mv_X8_lose ml_L_36 ly_63 rfl dL_law_307 rfl (Nat.le_of_ble_eq_true rfl) rfl rfl h (fun x111 M109 hM110 r112 h => ?_)
  refine q_icmp_eq hC dL_law_310 (t := 915) (by decide) rfl r106 r112 (fun c => ?_) (fun c => ?_)
  · have h := h.1 c
    exact h
  · have h := h.2 c
    refine q_iconst hC dL_law_313 rfl ?_
    exact h.elim
set_option maxRecDepth 20000 in
theorem s_L_law_315 {g : qG} {C : qX} {d : Nat} {M : qM} (hC : qCk g C cL_law RL 4 (d + 12)) {L : Nat} {xs : Int → Int} (hX : qSc g C L xs) (hL : L ≤ 3072) (hxs : ∀ j, qR (xs j)) (hLr : qR (L : Int)) (hE : ∀ (loc : List (Option qV)) (M : qM), qW g C 922 loc [.inl 1] M) {x3 : Int} (hx3 : qR x3) (h : (0 ≤ (x3 + 1) ∧ (x3 + 1) < (L : Int)) ∧ (0 ≤ (x3 + 2) ∧ (x3 + 2) < (L : Int)) ∧ (qOk g (d + 11) j_X7_task [.inr 0, .inl (xs (x3 + 1)), .inl (xs (x3 + 2))] M (qI fun x105 M103 => (0 ≤ (x3 + 1) ∧ (x3 + 1) < (L : Int)) ∧ (0 ≤ (x3 + 2) ∧ (x3 + 2) < (L : Int)) ∧ (qOk g (d + 11) j_X8_task [.inr 63, .inl (xs (x3 + 1)), .inl (xs (x3 + 2))] M103 (qI fun x111 M109 => ((x105 = x111 → (qW g C 915 [some (.inr 84), some (.inr 0), some (.inr 63), some (.inl x3)] [] M109)) ∧ (x105 ≠ x111 → (False)))))))) : qW g C 315 [some (.inr 84), some (.inr 0), some (.inr 63), some (.inl x3)] [] M := by
  refine qW.rm (fun hM => ?_)
  refine q_aload_n hC dL_law_315 rfl rfl ?_
  refine q_aload_n hC dL_law_316 rfl rfl ?_
  refine q_iload_n hC dL_law_317 rfl rfl ?_
  refine q_iconst hC dL_law_318 rfl ?_
  refine q_iadd hC dL_law_319 rfl ?_
  obtain ⟨r101, h⟩ := h
  refine q_sld hC hX hL dL_law_320 rfl r101 ?_
  refine q_aload_n hC dL_law_321 rfl rfl ?_
  refine q_iload_n hC dL_law_322 rfl rfl ?_
  refine q_iconst hC dL_law_323 rfl ?_
  refine q_iadd hC dL_law_324 rfl ?_
  obtain ⟨r102, h⟩ := h
  refine q_sld hC hX hL dL_law_325 rfl r102 ?_
  refine q_callVi hC (As := [.inl (xs (x3 + 1)), .inl (xs (x3 + 2))]) md_X7_task mv_X7_task ml_L_37 ly_0 rfl dL_law_326 rfl (Nat.le_of_ble_eq_true rfl) rfl rfl h (fun x105 M103 hM104 r106 h => ?_)
  refine q_aload_n hC dL_law_329 rfl rfl ?_
  refine q_aload_n hC dL_law_330 rfl rfl ?_
  refine q_iload_n hC dL_law_331 rfl rfl ?_
  refine q_iconst hC dL_law_332 rfl ?_
  refine q_iadd hC dL_law_333 rfl ?_
  obtain ⟨r107, h⟩ := h
  refine q_sld hC hX hL dL_law_334 rfl r107 ?_
  refine q_aload_n hC dL_law_335 rfl rfl ?_
  refine q_iload_n hC dL_law_336 rfl rfl ?_
  refine q_iconst hC dL_law_337 rfl ?_
  refine q_iadd hC dL_law_338 rfl ?_
  obtain ⟨r108, h⟩ := h
  refine q_sld hC hX hL dL_law_339 rfl r108 ?_
  refine q_callVi hC (As := [.inl (xs (x3 + 1)), .inl (xs (x3 + 2))]) md_X8_task mv_X8_task ml_L_40 ly_63 rfl dL_law_340 rfl (Nat.le_of_ble_eq_true rfl) rfl rfl h (fun x111 M109 hM110 r112 h => ?_)
  refine q_icmp_eq hC dL_law_343 (t := 915) (by decide) rfl r106 r112 (fun c => ?_) (fun c => ?_)
  · have h := h.1 c
    exact h
  · have h := h.2 c
    refine q_iconst hC dL_law_346 rfl ?_
    exact h.elim
set_option maxRecDepth 20000 in
theorem s_L_law_348 {g : qG} {C : qX} {d : Nat} {M : qM} (hC : qCk g C cL_law RL 4 (d + 12)) {L : Nat} {xs : Int → Int} (hX : qSc g C L xs) (hL : L ≤ 3072) (hxs : ∀ j, qR (xs j)) (hLr : qR (L : Int)) (hE : ∀ (loc : List (Option qV)) (M : qM), qW g C 922 loc [.inl 1] M) {x3 : Int} (hx3 : qR x3) (h : (0 ≤ (x3 + 1) ∧ (x3 + 1) < (L : Int)) ∧ (0 ≤ (x3 + 2) ∧ (x3 + 2) < (L : Int)) ∧ (0 ≤ (x3 + 3) ∧ (x3 + 3) < (L : Int)) ∧ (0 ≤ (x3 + 4) ∧ (x3 + 4) < (L : Int)) ∧ (0 ≤ (x3 + 5) ∧ (x3 + 5) < (L : Int)) ∧ (qOk g (d + 11) j_X7_badge [.inr 0, .inl (xs (x3 + 1)), .inl (xs (x3 + 2)), .inl (xs (x3 + 3)), .inl (xs (x3 + 4)), .inl (xs (x3 + 5))] M (qI fun x108 M106 => (0 ≤ (x3 + 1) ∧ (x3 + 1) < (L : Int)) ∧ (0 ≤ (x3 + 2) ∧ (x3 + 2) < (L : Int)) ∧ (0 ≤ (x3 + 3) ∧ (x3 + 3) < (L : Int)) ∧ (0 ≤ (x3 + 4) ∧ (x3 + 4) < (L : Int)) ∧ (0 ≤ (x3 + 5) ∧ (x3 + 5) < (L : Int)) ∧ (qOk g (d + 11) j_X8_badge [.inr 63, .inl (xs (x3 + 1)), .inl (xs (x3 + 2)), .inl (xs (x3 + 3)), .inl (xs (x3 + 4)), .inl (xs (x3 + 5))] M106 (qI fun x117 M115 => ((x108 = x117 → (qW g C 915 [some (.inr 84), some (.inr 0), some (.inr 63), some (.inl x3)] [] M115)) ∧ (x108 ≠ x117 → (False)))))))) : qW g C 348 [some (.inr 84), some (.inr 0), some (.inr 63), some (.inl x3)] [] M := by
  refine qW.rm (fun hM => ?_)
  refine q_aload_n hC dL_law_348 rfl rfl ?_
  refine q_aload_n hC dL_law_349 rfl rfl ?_
  refine q_iload_n hC dL_law_350 rfl rfl ?_
  refine q_iconst hC dL_law_351 rfl ?_
  refine q_iadd hC dL_law_352 rfl ?_
  obtain ⟨r101, h⟩ := h
  refine q_sld hC hX hL dL_law_353 rfl r101 ?_
  refine q_aload_n hC dL_law_354 rfl rfl ?_
  refine q_iload_n hC dL_law_355 rfl rfl ?_
  refine q_iconst hC dL_law_356 rfl ?_
  refine q_iadd hC dL_law_357 rfl ?_
  obtain ⟨r102, h⟩ := h
  refine q_sld hC hX hL dL_law_358 rfl r102 ?_
  refine q_aload_n hC dL_law_359 rfl rfl ?_
  refine q_iload_n hC dL_law_360 rfl rfl ?_
  refine q_iconst hC dL_law_361 rfl ?_
  refine q_iadd hC dL_law_362 rfl ?_
  obtain ⟨r103, h⟩ := h
  refine q_sld hC hX hL dL_law_363 rfl r103 ?_
  refine q_aload_n hC dL_law_364 rfl rfl ?_
  refine q_iload_n hC dL_law_365 rfl rfl ?_
  refine q_iconst hC dL_law_366 rfl ?_
  refine q_iadd hC dL_law_367 rfl ?_
  obtain ⟨r104, h⟩ := h
  refine q_sld hC hX hL dL_law_368 rfl r104 ?_
  refine q_aload_n hC dL_law_369 rfl rfl ?_
  refine q_iload_n hC dL_law_370 rfl rfl ?_
  refine q_iconst hC dL_law_371 rfl ?_
  refine q_iadd hC dL_law_372 rfl ?_
  obtain ⟨r105, h⟩ := h
  refine q_sld hC hX hL dL_law_373 rfl r105 ?_
  refine q_callVi hC (As := [.inl (xs (x3 + 1)), .inl (xs (x3 + 2)), .inl (xs (x3 + 3)), .inl (xs (x3 + 4)), .inl (xs (x3 + 5))]) md_X7_badge mv_X7_badge ml_L_41 ly_0 rfl dL_law_374 rfl (Nat.le_of_ble_eq_true rfl) rfl rfl h (fun x108 M106 hM107 r109 h => ?_)
  refine q_aload_n hC dL_law_377 rfl rfl ?_
  refine q_aload_n hC dL_law_378 rfl rfl ?_
  refine q_iload_n hC dL_law_379 rfl rfl ?_
  refine q_iconst hC dL_law_380 rfl ?_
  refine q_iadd hC dL_law_381 rfl ?_
  obtain ⟨r110, h⟩ := h
  refine q_sld hC hX hL dL_law_382 rfl r110 ?_
  refine q_aload_n hC dL_law_383 rfl rfl ?_
  refine q_iload_n hC dL_law_384 rfl rfl ?_
  refine q_iconst hC dL_law_385 rfl ?_
  refine q_iadd hC dL_law_386 rfl ?_
  obtain ⟨r111, h⟩ := h
  refine q_sld hC hX hL dL_law_387 rfl r111 ?_
  refine q_aload_n hC dL_law_388 rfl rfl ?_
  refine q_iload_n hC dL_law_389 rfl rfl ?_
  refine q_iconst hC dL_law_390 rfl ?_
  refine q_iadd hC dL_law_391 rfl ?_
  obtain ⟨r112, h⟩ := h
  refine q_sld hC hX hL dL_law_392 rfl r112 ?_
  refine q_aload_n hC dL_law_393 rfl rfl ?_
  refine q_iload_n hC dL_law_394 rfl rfl ?_
  refine q_iconst hC dL_law_395 rfl ?_
  refine q_iadd hC dL_law_396 rfl ?_
  obtain ⟨r113, h⟩ := h
  refine q_sld hC hX hL dL_law_397 rfl r113 ?_
  refine q_aload_n hC dL_law_398 rfl rfl ?_
  refine q_iload_n hC dL_law_399 rfl rfl ?_
  refine q_iconst hC dL_law_400 rfl ?_
  refine q_iadd hC dL_law_401 rfl ?_
  obtain ⟨r114, h⟩ := h
  refine q_sld hC hX hL dL_law_402 rfl r114 ?_
  refine q_callVi hC (As := [.inl (xs (x3 + 1)), .inl (xs (x3 + 2)), .inl (xs (x3 + 3)), .inl (xs (x3 + 4)), .inl (xs (x3 + 5))]) md_X8_badge mv_X8_badge ml_L_45 ly_63 rfl dL_law_403 rfl (Nat.le_of_ble_eq_true rfl) rfl rfl h (fun x117 M115 hM116 r118 h => ?_)
  refine q_icmp_eq hC dL_law_406 (t := 915) (by decide) rfl r109 r118 (fun c => ?_) (fun c => ?_)
  · have h := h.1 c
    exact h
  · have h := h.2 c
    refine q_iconst hC dL_law_409 rfl ?_
    exact h.elim
set_option maxRecDepth 20000 in
theorem s_L_law_411 {g : qG} {C : qX} {d : Nat} {M : qM} (hC : qCk g C cL_law RL 4 (d + 12)) {L : Nat} {xs : Int → Int} (hX : qSc g C L xs) (hL : L ≤ 3072) (hxs : ∀ j, qR (xs j)) (hLr : qR (L : Int)) (hE : ∀ (loc : List (Option qV)) (M : qM), qW g C 922 loc [.inl 1] M) {x3 : Int} (hx3 : qR x3) (h : (0 ≤ (x3 + 1) ∧ (x3 + 1) < (L : Int)) ∧ (0 ≤ (x3 + 2) ∧ (x3 + 2) < (L : Int)) ∧ (0 ≤ (x3 + 3) ∧ (x3 + 3) < (L : Int)) ∧ (0 ≤ (x3 + 4) ∧ (x3 + 4) < (L : Int)) ∧ (qOk g (d + 11) j_X7_sign [.inr 0, .inl (xs (x3 + 1)), .inl (xs (x3 + 2)), .inl (xs (x3 + 3)), .inl (xs (x3 + 4))] M (qI fun x107 M105 => (0 ≤ (x3 + 1) ∧ (x3 + 1) < (L : Int)) ∧ (0 ≤ (x3 + 2) ∧ (x3 + 2) < (L : Int)) ∧ (0 ≤ (x3 + 3) ∧ (x3 + 3) < (L : Int)) ∧ (0 ≤ (x3 + 4) ∧ (x3 + 4) < (L : Int)) ∧ (qOk g (d + 11) j_X8_sign [.inr 63, .inl (xs (x3 + 1)), .inl (xs (x3 + 2)), .inl (xs (x3 + 3)), .inl (xs (x3 + 4))] M105 (qI fun x115 M113 => ((x107 = x115 → (qW g C 915 [some (.inr 84), some (.inr 0), some (.inr 63), some (.inl x3)] [] M113)) ∧ (x107 ≠ x115 → (False)))))))) : qW g C 411 [some (.inr 84), some (.inr 0), some (.inr 63), some (.inl x3)] [] M := by
  refine qW.rm (fun hM => ?_)
  refine q_aload_n hC dL_law_411 rfl rfl ?_
  refine q_aload_n hC dL_law_412 rfl rfl ?_
  refine q_iload_n hC dL_law_413 rfl rfl ?_
  refine q_iconst hC dL_law_414 rfl ?_
  refine q_iadd hC dL_law_415 rfl ?_
  obtain ⟨r101, h⟩ := h
  refine q_sld hC hX hL dL_law_416 rfl r101 ?_
  refine q_aload_n hC dL_law_417 rfl rfl ?_
  refine q_iload_n hC dL_law_418 rfl rfl ?_
  refine q_iconst hC dL_law_419 rfl ?_
  refine q_iadd hC dL_law_420 rfl ?_
  obtain ⟨r102, h⟩ := h
  refine q_sld hC hX hL dL_law_421 rfl r102 ?_
  refine q_aload_n hC dL_law_422 rfl rfl ?_
  refine q_iload_n hC dL_law_423 rfl rfl ?_
  refine q_iconst hC dL_law_424 rfl ?_
  refine q_iadd hC dL_law_425 rfl ?_
  obtain ⟨r103, h⟩ := h
  refine q_sld hC hX hL dL_law_426 rfl r103 ?_
  refine q_aload_n hC dL_law_427 rfl rfl ?_
  refine q_iload_n hC dL_law_428 rfl rfl ?_
  refine q_iconst hC dL_law_429 rfl ?_
  refine q_iadd hC dL_law_430 rfl ?_
  obtain ⟨r104, h⟩ := h
  refine q_sld hC hX hL dL_law_431 rfl r104 ?_
  refine q_callVi hC (As := [.inl (xs (x3 + 1)), .inl (xs (x3 + 2)), .inl (xs (x3 + 3)), .inl (xs (x3 + 4))]) md_X7_sign mv_X7_sign ml_L_46 ly_0 rfl dL_law_432 rfl (Nat.le_of_ble_eq_true rfl) rfl rfl h (fun x107 M105 hM106 r108 h => ?_)
  refine q_aload_n hC dL_law_435 rfl rfl ?_
  refine q_aload_n hC dL_law_436 rfl rfl ?_
  refine q_iload_n hC dL_law_437 rfl rfl ?_
  refine q_iconst hC dL_law_438 rfl ?_
  refine q_iadd hC dL_law_439 rfl ?_
  obtain ⟨r109, h⟩ := h
  refine q_sld hC hX hL dL_law_440 rfl r109 ?_
  refine q_aload_n hC dL_law_441 rfl rfl ?_
  refine q_iload_n hC dL_law_442 rfl rfl ?_
  refine q_iconst hC dL_law_443 rfl ?_
  refine q_iadd hC dL_law_444 rfl ?_
  obtain ⟨r110, h⟩ := h
  refine q_sld hC hX hL dL_law_445 rfl r110 ?_
  refine q_aload_n hC dL_law_446 rfl rfl ?_
  refine q_iload_n hC dL_law_447 rfl rfl ?_
  refine q_iconst hC dL_law_448 rfl ?_
  refine q_iadd hC dL_law_449 rfl ?_
  obtain ⟨r111, h⟩ := h
  refine q_sld hC hX hL dL_law_450 rfl r111 ?_
  refine q_aload_n hC dL_law_451 rfl rfl ?_
  refine q_iload_n hC dL_law_452 rfl rfl ?_
  refine q_iconst hC dL_law_453 rfl ?_
  refine q_iadd hC dL_law_454 rfl ?_
  obtain ⟨r112, h⟩ := h
  refine q_sld hC hX hL dL_law_455 rfl r112 ?_
  refine q_callVi hC (As := [.inl (xs (x3 + 1)), .inl (xs (x3 + 2)), .inl (xs (x3 + 3)), .inl (xs (x3 + 4))]) md_X8_sign mv_X8_sign ml_L_49 ly_63 rfl dL_law_456 rfl (Nat.le_of_ble_eq_true rfl) rfl rfl h (fun x115 M113 hM114 r116 h => ?_)
  refine q_icmp_eq hC dL_law_459 (t := 915) (by decide) rfl r108 r116 (fun c => ?_) (fun c => ?_)
  · have h := h.1 c
    exact h
  · have h := h.2 c
    refine q_iconst hC dL_law_462 rfl ?_
    exact h.elim
set_option maxRecDepth 20000 in
theorem s_L_law_464 {g : qG} {C : qX} {d : Nat} {M : qM} (hC : qCk g C cL_law RL 4 (d + 12)) {L : Nat} {xs : Int → Int} (hX : qSc g C L xs) (hL : L ≤ 3072) (hxs : ∀ j, qR (xs j)) (hLr : qR (L : Int)) (hE : ∀ (loc : List (Option qV)) (M : qM), qW g C 922 loc [.inl 1] M) {x3 : Int} (hx3 : qR x3) (h : (0 ≤ (x3 + 1) ∧ (x3 + 1) < (L : Int)) ∧ (qOk g (d + 11) j_X7_strike [.inr 0, .inl (xs (x3 + 1))] M (qI fun x104 M102 => (0 ≤ (x3 + 1) ∧ (x3 + 1) < (L : Int)) ∧ (qOk g (d + 11) j_X8_strike [.inr 63, .inl (xs (x3 + 1))] M102 (qI fun x109 M107 => ((x104 = x109 → (qW g C 915 [some (.inr 84), some (.inr 0), some (.inr 63), some (.inl x3)] [] M107)) ∧ (x104 ≠ x109 → (False)))))))) : qW g C 464 [some (.inr 84), some (.inr 0), some (.inr 63), some (.inl x3)] [] M := by
  refine qW.rm (fun hM => ?_)
  refine q_aload_n hC dL_law_464 rfl rfl ?_
  refine q_aload_n hC dL_law_465 rfl rfl ?_
  refine q_iload_n hC dL_law_466 rfl rfl ?_
  refine q_iconst hC dL_law_467 rfl ?_
  refine q_iadd hC dL_law_468 rfl ?_
  obtain ⟨r101, h⟩ := h
  refine q_sld hC hX hL dL_law_469 rfl r101 ?_
  refine q_callVi hC (As := [.inl (xs (x3 + 1))]) md_X7_strike mv_X7_strike ml_L_50 ly_0 rfl dL_law_470 rfl (Nat.le_of_ble_eq_true rfl) rfl rfl h (fun x104 M102 hM103 r105 h => ?_)
  refine q_aload_n hC dL_law_473 rfl rfl ?_
  refine q_aload_n hC dL_law_474 rfl rfl ?_
  refine q_iload_n hC dL_law_475 rfl rfl ?_
  refine q_iconst hC dL_law_476 rfl ?_
  refine q_iadd hC dL_law_477 rfl ?_
  obtain ⟨r106, h⟩ := h
  refine q_sld hC hX hL dL_law_478 rfl r106 ?_
  refine q_callVi hC (As := [.inl (xs (x3 + 1))]) md_X8_strike mv_X8_strike ml_L_54 ly_63 rfl dL_law_479 rfl (Nat.le_of_ble_eq_true rfl) rfl rfl h (fun x109 M107 hM108 r110 h => ?_)
  refine q_icmp_eq hC dL_law_482 (t := 915) (by decide) rfl r105 r110 (fun c => ?_) (fun c => ?_)
  · have h := h.1 c
    exact h
  · have h := h.2 c
    refine q_iconst hC dL_law_485 rfl ?_
    exact h.elim
set_option maxRecDepth 20000 in
theorem s_L_law_487 {g : qG} {C : qX} {d : Nat} {M : qM} (hC : qCk g C cL_law RL 4 (d + 12)) {L : Nat} {xs : Int → Int} (hX : qSc g C L xs) (hL : L ≤ 3072) (hxs : ∀ j, qR (xs j)) (hLr : qR (L : Int)) (hE : ∀ (loc : List (Option qV)) (M : qM), qW g C 922 loc [.inl 1] M) {x3 : Int} (hx3 : qR x3) (h : (0 ≤ (x3 + 1) ∧ (x3 + 1) < (L : Int)) ∧ (0 ≤ (x3 + 2) ∧ (x3 + 2) < (L : Int)) ∧ (qOk g (d + 11) j_X7_of [.inr 0, .inl (xs (x3 + 1)), .inl (xs (x3 + 2))] M (qI fun x105 M103 => (0 ≤ (x3 + 1) ∧ (x3 + 1) < (L : Int)) ∧ (0 ≤ (x3 + 2) ∧ (x3 + 2) < (L : Int)) ∧ (qOk g (d + 11) j_X8_of [.inr 63, .inl (xs (x3 + 1)), .inl (xs (x3 + 2))] M103 (qI fun x111 M109 => ((x105 = x111 → (qW g C 915 [some (.inr 84), some (.inr 0), some (.inr 63), some (.inl x3)] [] M109)) ∧ (x105 ≠ x111 → (False)))))))) : qW g C 487 [some (.inr 84), some (.inr 0), some (.inr 63), some (.inl x3)] [] M := by
  refine qW.rm (fun hM => ?_)
  refine q_aload_n hC dL_law_487 rfl rfl ?_
  refine q_aload_n hC dL_law_488 rfl rfl ?_
  refine q_iload_n hC dL_law_489 rfl rfl ?_
  refine q_iconst hC dL_law_490 rfl ?_
  refine q_iadd hC dL_law_491 rfl ?_
  obtain ⟨r101, h⟩ := h
  refine q_sld hC hX hL dL_law_492 rfl r101 ?_
  refine q_aload_n hC dL_law_493 rfl rfl ?_
  refine q_iload_n hC dL_law_494 rfl rfl ?_
  refine q_iconst hC dL_law_495 rfl ?_
  refine q_iadd hC dL_law_496 rfl ?_
  obtain ⟨r102, h⟩ := h
  refine q_sld hC hX hL dL_law_497 rfl r102 ?_
  refine q_callVi hC (As := [.inl (xs (x3 + 1)), .inl (xs (x3 + 2))]) md_X7_of mv_X7_of ml_L_55 ly_0 rfl dL_law_498 rfl (Nat.le_of_ble_eq_true rfl) rfl rfl h (fun x105 M103 hM104 r106 h => ?_)
  refine q_aload_n hC dL_law_501 rfl rfl ?_
  refine q_aload_n hC dL_law_502 rfl rfl ?_
  refine q_iload_n hC dL_law_503 rfl rfl ?_
  refine q_iconst hC dL_law_504 rfl ?_
  refine q_iadd hC dL_law_505 rfl ?_
  obtain ⟨r107, h⟩ := h
  refine q_sld hC hX hL dL_law_506 rfl r107 ?_
  refine q_aload_n hC dL_law_507 rfl rfl ?_
  refine q_iload_n hC dL_law_508 rfl rfl ?_
  refine q_iconst hC dL_law_509 rfl ?_
  refine q_iadd hC dL_law_510 rfl ?_
  obtain ⟨r108, h⟩ := h
  refine q_sld hC hX hL dL_law_511 rfl r108 ?_
  refine q_callVi hC (As := [.inl (xs (x3 + 1)), .inl (xs (x3 + 2))]) md_X8_of mv_X8_of ml_L_58 ly_63 rfl dL_law_512 rfl (Nat.le_of_ble_eq_true rfl) rfl rfl h (fun x111 M109 hM110 r112 h => ?_)
  refine q_icmp_eq hC dL_law_515 (t := 915) (by decide) rfl r106 r112 (fun c => ?_) (fun c => ?_)
  · have h := h.1 c
    exact h
  · have h := h.2 c
    refine q_iconst hC dL_law_518 rfl ?_
    exact h.elim
set_option maxRecDepth 20000 in
theorem s_L_law_520 {g : qG} {C : qX} {d : Nat} {M : qM} (hC : qCk g C cL_law RL 4 (d + 12)) {L : Nat} {xs : Int → Int} (hX : qSc g C L xs) (hL : L ≤ 3072) (hxs : ∀ j, qR (xs j)) (hLr : qR (L : Int)) (hE : ∀ (loc : List (Option qV)) (M : qM), qW g C 922 loc [.inl 1] M) {x3 : Int} (hx3 : qR x3) (h : (0 ≤ (x3 + 1) ∧ (x3 + 1) < (L : Int)) ∧ (0 ≤ (x3 + 2) ∧ (x3 + 2) < (L : Int)) ∧ (qOk g (d + 11) j_X7_done [.inr 0, .inl (xs (x3 + 1)), .inl (xs (x3 + 2))] M (qI fun x105 M103 => (0 ≤ (x3 + 1) ∧ (x3 + 1) < (L : Int)) ∧ (0 ≤ (x3 + 2) ∧ (x3 + 2) < (L : Int)) ∧ (qOk g (d + 11) j_X8_done [.inr 63, .inl (xs (x3 + 1)), .inl (xs (x3 + 2))] M103 (qI fun x111 M109 => ((x105 = x111 → (qW g C 915 [some (.inr 84), some (.inr 0), some (.inr 63), some (.inl x3)] [] M109)) ∧ (x105 ≠ x111 → (False)))))))) : qW g C 520 [some (.inr 84), some (.inr 0), some (.inr 63), some (.inl x3)] [] M := by
  refine qW.rm (fun hM => ?_)
  refine q_aload_n hC dL_law_520 rfl rfl ?_
  refine q_aload_n hC dL_law_521 rfl rfl ?_
  refine q_iload_n hC dL_law_522 rfl rfl ?_
  refine q_iconst hC dL_law_523 rfl ?_
  refine q_iadd hC dL_law_524 rfl ?_
  obtain ⟨r101, h⟩ := h
  refine q_sld hC hX hL dL_law_525 rfl r101 ?_
  refine q_aload_n hC dL_law_526 rfl rfl ?_
  refine q_iload_n hC dL_law_527 rfl rfl ?_
  refine q_iconst hC dL_law_528 rfl ?_
  refine q_iadd hC dL_law_529 rfl ?_
  obtain ⟨r102, h⟩ := h
  refine q_sld hC hX hL dL_law_530 rfl r102 ?_
  refine q_callVi hC (As := [.inl (xs (x3 + 1)), .inl (xs (x3 + 2))]) md_X7_done mv_X7_done ml_L_59 ly_0 rfl dL_law_531 rfl (Nat.le_of_ble_eq_true rfl) rfl rfl h (fun x105 M103 hM104 r106 h => ?_)
  refine q_aload_n hC dL_law_534 rfl rfl ?_
  refine q_aload_n hC dL_law_535 rfl rfl ?_
  refine q_iload_n hC dL_law_536 rfl rfl ?_
  refine q_iconst hC dL_law_537 rfl ?_
  refine q_iadd hC dL_law_538 rfl ?_
  obtain ⟨r107, h⟩ := h
  refine q_sld hC hX hL dL_law_539 rfl r107 ?_
  refine q_aload_n hC dL_law_540 rfl rfl ?_
  refine q_iload_n hC dL_law_541 rfl rfl ?_
  refine q_iconst hC dL_law_542 rfl ?_
  refine q_iadd hC dL_law_543 rfl ?_
  obtain ⟨r108, h⟩ := h
  refine q_sld hC hX hL dL_law_544 rfl r108 ?_
  refine q_callVi hC (As := [.inl (xs (x3 + 1)), .inl (xs (x3 + 2))]) md_X8_done mv_X8_done ml_L_62 ly_63 rfl dL_law_545 rfl (Nat.le_of_ble_eq_true rfl) rfl rfl h (fun x111 M109 hM110 r112 h => ?_)
  refine q_icmp_eq hC dL_law_548 (t := 915) (by decide) rfl r106 r112 (fun c => ?_) (fun c => ?_)
  · have h := h.1 c
    exact h
  · have h := h.2 c
    refine q_iconst hC dL_law_551 rfl ?_
    exact h.elim
set_option maxRecDepth 20000 in
theorem s_L_law_553 {g : qG} {C : qX} {d : Nat} {M : qM} (hC : qCk g C cL_law RL 4 (d + 12)) {L : Nat} {xs : Int → Int} (hX : qSc g C L xs) (hL : L ≤ 3072) (hxs : ∀ j, qR (xs j)) (hLr : qR (L : Int)) (hE : ∀ (loc : List (Option qV)) (M : qM), qW g C 922 loc [.inl 1] M) {x3 : Int} (hx3 : qR x3) (h : (0 ≤ (x3 + 1) ∧ (x3 + 1) < (L : Int)) ∧ (0 ≤ (x3 + 2) ∧ (x3 + 2) < (L : Int)) ∧ (qOk g (d + 11) j_X7_held [.inr 0, .inl (xs (x3 + 1)), .inl (xs (x3 + 2))] M (qI fun x105 M103 => (0 ≤ (x3 + 1) ∧ (x3 + 1) < (L : Int)) ∧ (0 ≤ (x3 + 2) ∧ (x3 + 2) < (L : Int)) ∧ (qOk g (d + 11) j_X8_held [.inr 63, .inl (xs (x3 + 1)), .inl (xs (x3 + 2))] M103 (qI fun x111 M109 => ((x105 = x111 → (qW g C 915 [some (.inr 84), some (.inr 0), some (.inr 63), some (.inl x3)] [] M109)) ∧ (x105 ≠ x111 → (False)))))))) : qW g C 553 [some (.inr 84), some (.inr 0), some (.inr 63), some (.inl x3)] [] M := by
  refine qW.rm (fun hM => ?_)
  refine q_aload_n hC dL_law_553 rfl rfl ?_
  refine q_aload_n hC dL_law_554 rfl rfl ?_
  refine q_iload_n hC dL_law_555 rfl rfl ?_
  refine q_iconst hC dL_law_556 rfl ?_
  refine q_iadd hC dL_law_557 rfl ?_
  obtain ⟨r101, h⟩ := h
  refine q_sld hC hX hL dL_law_558 rfl r101 ?_
  refine q_aload_n hC dL_law_559 rfl rfl ?_
  refine q_iload_n hC dL_law_560 rfl rfl ?_
  refine q_iconst hC dL_law_561 rfl ?_
  refine q_iadd hC dL_law_562 rfl ?_
  obtain ⟨r102, h⟩ := h
  refine q_sld hC hX hL dL_law_563 rfl r102 ?_
  refine q_callVi hC (As := [.inl (xs (x3 + 1)), .inl (xs (x3 + 2))]) md_X7_held mv_X7_held ml_L_63 ly_0 rfl dL_law_564 rfl (Nat.le_of_ble_eq_true rfl) rfl rfl h (fun x105 M103 hM104 r106 h => ?_)
  refine q_aload_n hC dL_law_567 rfl rfl ?_
  refine q_aload_n hC dL_law_568 rfl rfl ?_
  refine q_iload_n hC dL_law_569 rfl rfl ?_
  refine q_iconst hC dL_law_570 rfl ?_
  refine q_iadd hC dL_law_571 rfl ?_
  obtain ⟨r107, h⟩ := h
  refine q_sld hC hX hL dL_law_572 rfl r107 ?_
  refine q_aload_n hC dL_law_573 rfl rfl ?_
  refine q_iload_n hC dL_law_574 rfl rfl ?_
  refine q_iconst hC dL_law_575 rfl ?_
  refine q_iadd hC dL_law_576 rfl ?_
  obtain ⟨r108, h⟩ := h
  refine q_sld hC hX hL dL_law_577 rfl r108 ?_
  refine q_callVi hC (As := [.inl (xs (x3 + 1)), .inl (xs (x3 + 2))]) md_X8_held mv_X8_held ml_L_66 ly_63 rfl dL_law_578 rfl (Nat.le_of_ble_eq_true rfl) rfl rfl h (fun x111 M109 hM110 r112 h => ?_)
  refine q_icmp_eq hC dL_law_581 (t := 915) (by decide) rfl r106 r112 (fun c => ?_) (fun c => ?_)
  · have h := h.1 c
    exact h
  · have h := h.2 c
    refine q_iconst hC dL_law_584 rfl ?_
    exact h.elim
set_option maxRecDepth 20000 in
theorem s_L_law_586 {g : qG} {C : qX} {d : Nat} {M : qM} (hC : qCk g C cL_law RL 4 (d + 12)) {L : Nat} {xs : Int → Int} (hX : qSc g C L xs) (hL : L ≤ 3072) (hxs : ∀ j, qR (xs j)) (hLr : qR (L : Int)) (hE : ∀ (loc : List (Option qV)) (M : qM), qW g C 922 loc [.inl 1] M) {x3 : Int} (hx3 : qR x3) (h : (0 ≤ (x3 + 1) ∧ (x3 + 1) < (L : Int)) ∧ (0 ≤ (x3 + 2) ∧ (x3 + 2) < (L : Int)) ∧ (0 ≤ (x3 + 3) ∧ (x3 + 3) < (L : Int)) ∧ (qOk g (d + 11) j_X7_lacks [.inr 0, .inl (xs (x3 + 1)), .inl (xs (x3 + 2)), .inl (xs (x3 + 3))] M (qI fun x106 M104 => (0 ≤ (x3 + 1) ∧ (x3 + 1) < (L : Int)) ∧ (0 ≤ (x3 + 2) ∧ (x3 + 2) < (L : Int)) ∧ (0 ≤ (x3 + 3) ∧ (x3 + 3) < (L : Int)) ∧ (qOk g (d + 11) j_X8_lacks [.inr 63, .inl (xs (x3 + 1)), .inl (xs (x3 + 2)), .inl (xs (x3 + 3))] M104 (qI fun x113 M111 => ((x106 = x113 → (qW g C 915 [some (.inr 84), some (.inr 0), some (.inr 63), some (.inl x3)] [] M111)) ∧ (x106 ≠ x113 → (False)))))))) : qW g C 586 [some (.inr 84), some (.inr 0), some (.inr 63), some (.inl x3)] [] M := by
  refine qW.rm (fun hM => ?_)
  refine q_aload_n hC dL_law_586 rfl rfl ?_
  refine q_aload_n hC dL_law_587 rfl rfl ?_
  refine q_iload_n hC dL_law_588 rfl rfl ?_
  refine q_iconst hC dL_law_589 rfl ?_
  refine q_iadd hC dL_law_590 rfl ?_
  obtain ⟨r101, h⟩ := h
  refine q_sld hC hX hL dL_law_591 rfl r101 ?_
  refine q_aload_n hC dL_law_592 rfl rfl ?_
  refine q_iload_n hC dL_law_593 rfl rfl ?_
  refine q_iconst hC dL_law_594 rfl ?_
  refine q_iadd hC dL_law_595 rfl ?_
  obtain ⟨r102, h⟩ := h
  refine q_sld hC hX hL dL_law_596 rfl r102 ?_
  refine q_aload_n hC dL_law_597 rfl rfl ?_
  refine q_iload_n hC dL_law_598 rfl rfl ?_
  refine q_iconst hC dL_law_599 rfl ?_
  refine q_iadd hC dL_law_600 rfl ?_
  obtain ⟨r103, h⟩ := h
  refine q_sld hC hX hL dL_law_601 rfl r103 ?_
  refine q_callVi hC (As := [.inl (xs (x3 + 1)), .inl (xs (x3 + 2)), .inl (xs (x3 + 3))]) md_X7_lacks mv_X7_lacks ml_L_67 ly_0 rfl dL_law_602 rfl (Nat.le_of_ble_eq_true rfl) rfl rfl h (fun x106 M104 hM105 r107 h => ?_)
  refine q_aload_n hC dL_law_605 rfl rfl ?_
  refine q_aload_n hC dL_law_606 rfl rfl ?_
  refine q_iload_n hC dL_law_607 rfl rfl ?_
  refine q_iconst hC dL_law_608 rfl ?_
  refine q_iadd hC dL_law_609 rfl ?_
  obtain ⟨r108, h⟩ := h
  refine q_sld hC hX hL dL_law_610 rfl r108 ?_
  refine q_aload_n hC dL_law_611 rfl rfl ?_
  refine q_iload_n hC dL_law_612 rfl rfl ?_
  refine q_iconst hC dL_law_613 rfl ?_
  refine q_iadd hC dL_law_614 rfl ?_
  obtain ⟨r109, h⟩ := h
  refine q_sld hC hX hL dL_law_615 rfl r109 ?_
  refine q_aload_n hC dL_law_616 rfl rfl ?_
  refine q_iload_n hC dL_law_617 rfl rfl ?_
  refine q_iconst hC dL_law_618 rfl ?_
  refine q_iadd hC dL_law_619 rfl ?_
  obtain ⟨r110, h⟩ := h
  refine q_sld hC hX hL dL_law_620 rfl r110 ?_
  refine q_callVi hC (As := [.inl (xs (x3 + 1)), .inl (xs (x3 + 2)), .inl (xs (x3 + 3))]) md_X8_lacks mv_X8_lacks ml_L_70 ly_63 rfl dL_law_621 rfl (Nat.le_of_ble_eq_true rfl) rfl rfl h (fun x113 M111 hM112 r114 h => ?_)
  refine q_icmp_eq hC dL_law_624 (t := 915) (by decide) rfl r107 r114 (fun c => ?_) (fun c => ?_)
  · have h := h.1 c
    exact h
  · have h := h.2 c
    refine q_iconst hC dL_law_627 rfl ?_
    exact h.elim
set_option maxRecDepth 20000 in
theorem s_L_law_629 {g : qG} {C : qX} {d : Nat} {M : qM} (hC : qCk g C cL_law RL 4 (d + 12)) {L : Nat} {xs : Int → Int} (hX : qSc g C L xs) (hL : L ≤ 3072) (hxs : ∀ j, qR (xs j)) (hLr : qR (L : Int)) (hE : ∀ (loc : List (Option qV)) (M : qM), qW g C 922 loc [.inl 1] M) {x3 : Int} (hx3 : qR x3) (h : (0 ≤ (x3 + 1) ∧ (x3 + 1) < (L : Int)) ∧ (0 ≤ (x3 + 2) ∧ (x3 + 2) < (L : Int)) ∧ (qOk g (d + 11) j_X7_badges [.inr 0, .inl (xs (x3 + 1)), .inl (xs (x3 + 2))] M (qI fun x105 M103 => (0 ≤ (x3 + 1) ∧ (x3 + 1) < (L : Int)) ∧ (0 ≤ (x3 + 2) ∧ (x3 + 2) < (L : Int)) ∧ (qOk g (d + 11) j_X8_badges [.inr 63, .inl (xs (x3 + 1)), .inl (xs (x3 + 2))] M103 (qI fun x111 M109 => ((x105 = x111 → (qW g C 915 [some (.inr 84), some (.inr 0), some (.inr 63), some (.inl x3)] [] M109)) ∧ (x105 ≠ x111 → (False)))))))) : qW g C 629 [some (.inr 84), some (.inr 0), some (.inr 63), some (.inl x3)] [] M := by
  refine qW.rm (fun hM => ?_)
  refine q_aload_n hC dL_law_629 rfl rfl ?_
  refine q_aload_n hC dL_law_630 rfl rfl ?_
  refine q_iload_n hC dL_law_631 rfl rfl ?_
  refine q_iconst hC dL_law_632 rfl ?_
  refine q_iadd hC dL_law_633 rfl ?_
  obtain ⟨r101, h⟩ := h
  refine q_sld hC hX hL dL_law_634 rfl r101 ?_
  refine q_aload_n hC dL_law_635 rfl rfl ?_
  refine q_iload_n hC dL_law_636 rfl rfl ?_
  refine q_iconst hC dL_law_637 rfl ?_
  refine q_iadd hC dL_law_638 rfl ?_
  obtain ⟨r102, h⟩ := h
  refine q_sld hC hX hL dL_law_639 rfl r102 ?_
  refine q_callVi hC (As := [.inl (xs (x3 + 1)), .inl (xs (x3 + 2))]) md_X7_badges mv_X7_badges ml_L_71 ly_0 rfl dL_law_640 rfl (Nat.le_of_ble_eq_true rfl) rfl rfl h (fun x105 M103 hM104 r106 h => ?_)
  refine q_aload_n hC dL_law_643 rfl rfl ?_
  refine q_aload_n hC dL_law_644 rfl rfl ?_
  refine q_iload_n hC dL_law_645 rfl rfl ?_
  refine q_iconst hC dL_law_646 rfl ?_
  refine q_iadd hC dL_law_647 rfl ?_
  obtain ⟨r107, h⟩ := h
  refine q_sld hC hX hL dL_law_648 rfl r107 ?_
  refine q_aload_n hC dL_law_649 rfl rfl ?_
  refine q_iload_n hC dL_law_650 rfl rfl ?_
  refine q_iconst hC dL_law_651 rfl ?_
  refine q_iadd hC dL_law_652 rfl ?_
  obtain ⟨r108, h⟩ := h
  refine q_sld hC hX hL dL_law_653 rfl r108 ?_
  refine q_callVi hC (As := [.inl (xs (x3 + 1)), .inl (xs (x3 + 2))]) md_X8_badges mv_X8_badges ml_L_74 ly_63 rfl dL_law_654 rfl (Nat.le_of_ble_eq_true rfl) rfl rfl h (fun x111 M109 hM110 r112 h => ?_)
  refine q_icmp_eq hC dL_law_657 (t := 915) (by decide) rfl r106 r112 (fun c => ?_) (fun c => ?_)
  · have h := h.1 c
    exact h
  · have h := h.2 c
    refine q_iconst hC dL_law_660 rfl ?_
    exact h.elim
set_option maxRecDepth 20000 in
theorem s_L_law_662 {g : qG} {C : qX} {d : Nat} {M : qM} (hC : qCk g C cL_law RL 4 (d + 12)) {L : Nat} {xs : Int → Int} (hX : qSc g C L xs) (hL : L ≤ 3072) (hxs : ∀ j, qR (xs j)) (hLr : qR (L : Int)) (hE : ∀ (loc : List (Option qV)) (M : qM), qW g C 922 loc [.inl 1] M) {x3 : Int} (hx3 : qR x3) (h : (0 ≤ (x3 + 1) ∧ (x3 + 1) < (L : Int)) ∧ (0 ≤ (x3 + 2) ∧ (x3 + 2) < (L : Int)) ∧ (((xs (x3 + 2)) = 0 → (qOk g (d + 11) j_X7_site [.inr 0, .inl (xs (x3 + 1)), .inl 0] M (qI fun x105 M103 => (0 ≤ (x3 + 1) ∧ (x3 + 1) < (L : Int)) ∧ (0 ≤ (x3 + 2) ∧ (x3 + 2) < (L : Int)) ∧ (((xs (x3 + 2)) = 0 → (qOk g (d + 11) j_X8_site [.inr 63, .inl (xs (x3 + 1)), .inl 0] M103 (qI fun x111 M109 => ((x105 = x111 → (qW g C 915 [some (.inr 84), some (.inr 0), some (.inr 63), some (.inl x3)] [] M109)) ∧ (x105 ≠ x111 → (False)))))) ∧ ((xs (x3 + 2)) ≠ 0 → (qOk g (d + 11) j_X8_site [.inr 63, .inl (xs (x3 + 1)), .inl 1] M103 (qI fun x115 M113 => ((x105 = x115 → (qW g C 915 [some (.inr 84), some (.inr 0), some (.inr 63), some (.inl x3)] [] M113)) ∧ (x105 ≠ x115 → (False)))))))))) ∧ ((xs (x3 + 2)) ≠ 0 → (qOk g (d + 11) j_X7_site [.inr 0, .inl (xs (x3 + 1)), .inl 1] M (qI fun x119 M117 => (0 ≤ (x3 + 1) ∧ (x3 + 1) < (L : Int)) ∧ (0 ≤ (x3 + 2) ∧ (x3 + 2) < (L : Int)) ∧ (((xs (x3 + 2)) = 0 → (qOk g (d + 11) j_X8_site [.inr 63, .inl (xs (x3 + 1)), .inl 0] M117 (qI fun x125 M123 => ((x119 = x125 → (qW g C 915 [some (.inr 84), some (.inr 0), some (.inr 63), some (.inl x3)] [] M123)) ∧ (x119 ≠ x125 → (False)))))) ∧ ((xs (x3 + 2)) ≠ 0 → (qOk g (d + 11) j_X8_site [.inr 63, .inl (xs (x3 + 1)), .inl 1] M117 (qI fun x129 M127 => ((x119 = x129 → (qW g C 915 [some (.inr 84), some (.inr 0), some (.inr 63), some (.inl x3)] [] M127)) ∧ (x119 ≠ x129 → (False)))))))))))) : qW g C 662 [some (.inr 84), some (.inr 0), some (.inr 63), some (.inl x3)] [] M := by
  refine qW.rm (fun hM => ?_)
  refine q_aload_n hC dL_law_662 rfl rfl ?_
  refine q_aload_n hC dL_law_663 rfl rfl ?_
  refine q_iload_n hC dL_law_664 rfl rfl ?_
  refine q_iconst hC dL_law_665 rfl ?_
  refine q_iadd hC dL_law_666 rfl ?_
  obtain ⟨r101, h⟩ := h
  refine q_sld hC hX hL dL_law_667 rfl r101 ?_
  refine q_aload_n hC dL_law_668 rfl rfl ?_
  refine q_iload_n hC dL_law_669 rfl rfl ?_
  refine q_iconst hC dL_law_670 rfl ?_
  refine q_iadd hC dL_law_671 rfl ?_
  obtain ⟨r102, h⟩ := h
  refine q_sld hC hX hL dL_law_672 rfl r102 ?_
  refine q_if_eq hC dL_law_673 (t := 680) (by decide) rfl (hxs (x3 + 2)) (fun c => ?_) (fun c => ?_)
  · have h := h.1 c
    refine q_iconst hC dL_law_680 rfl ?_
    refine q_callVi hC (As := [.inl (xs (x3 + 1)), .inl 0]) md_X7_site mv_X7_site ml_L_75 ly_0 rfl dL_law_681 rfl (Nat.le_of_ble_eq_true rfl) rfl rfl h (fun x105 M103 hM104 r106 h => ?_)
    refine q_aload_n hC dL_law_684 rfl rfl ?_
    refine q_aload_n hC dL_law_685 rfl rfl ?_
    refine q_iload_n hC dL_law_686 rfl rfl ?_
    refine q_iconst hC dL_law_687 rfl ?_
    refine q_iadd hC dL_law_688 rfl ?_
    obtain ⟨r107, h⟩ := h
    refine q_sld hC hX hL dL_law_689 rfl r107 ?_
    refine q_aload_n hC dL_law_690 rfl rfl ?_
    refine q_iload_n hC dL_law_691 rfl rfl ?_
    refine q_iconst hC dL_law_692 rfl ?_
    refine q_iadd hC dL_law_693 rfl ?_
    obtain ⟨r108, h⟩ := h
    refine q_sld hC hX hL dL_law_694 rfl r108 ?_
    refine q_if_eq hC dL_law_695 (t := 702) (by decide) rfl (hxs (x3 + 2)) (fun c => ?_) (fun c => ?_)
    · have h := h.1 c
      refine q_iconst hC dL_law_702 rfl ?_
      refine q_callVi hC (As := [.inl (xs (x3 + 1)), .inl 0]) md_X8_site mv_X8_site ml_L_79 ly_63 rfl dL_law_703 rfl (Nat.le_of_ble_eq_true rfl) rfl rfl h (fun x111 M109 hM110 r112 h => ?_)
      refine q_icmp_eq hC dL_law_706 (t := 915) (by decide) rfl r106 r112 (fun c => ?_) (fun c => ?_)
      · have h := h.1 c
        exact h
      · have h := h.2 c
        refine q_iconst hC dL_law_709 rfl ?_
        exact h.elim
    · have h := h.2 c
      refine q_iconst hC dL_law_698 rfl ?_
      refine q_goto hC dL_law_699 (q := 703) (by decide) ?_
      refine q_callVi hC (As := [.inl (xs (x3 + 1)), .inl 1]) md_X8_site mv_X8_site ml_L_79 ly_63 rfl dL_law_703 rfl (Nat.le_of_ble_eq_true rfl) rfl rfl h (fun x115 M113 hM114 r116 h => ?_)
      refine q_icmp_eq hC dL_law_706 (t := 915) (by decide) rfl r106 r116 (fun c => ?_) (fun c => ?_)
      · have h := h.1 c
        exact h
      · have h := h.2 c
        refine q_iconst hC dL_law_709 rfl ?_
        exact h.elim
  · have h := h.2 c
    refine q_iconst hC dL_law_676 rfl ?_
    refine q_goto hC dL_law_677 (q := 681) (by decide) ?_
    refine q_callVi hC (As := [.inl (xs (x3 + 1)), .inl 1]) md_X7_site mv_X7_site ml_L_75 ly_0 rfl dL_law_681 rfl (Nat.le_of_ble_eq_true rfl) rfl rfl h (fun x119 M117 hM118 r120 h => ?_)
    refine q_aload_n hC dL_law_684 rfl rfl ?_
    refine q_aload_n hC dL_law_685 rfl rfl ?_
    refine q_iload_n hC dL_law_686 rfl rfl ?_
    refine q_iconst hC dL_law_687 rfl ?_
    refine q_iadd hC dL_law_688 rfl ?_
    obtain ⟨r121, h⟩ := h
    refine q_sld hC hX hL dL_law_689 rfl r121 ?_
    refine q_aload_n hC dL_law_690 rfl rfl ?_
    refine q_iload_n hC dL_law_691 rfl rfl ?_
    refine q_iconst hC dL_law_692 rfl ?_
    refine q_iadd hC dL_law_693 rfl ?_
    obtain ⟨r122, h⟩ := h
    refine q_sld hC hX hL dL_law_694 rfl r122 ?_
    refine q_if_eq hC dL_law_695 (t := 702) (by decide) rfl (hxs (x3 + 2)) (fun c => ?_) (fun c => ?_)
    · have h := h.1 c
      refine q_iconst hC dL_law_702 rfl ?_
      refine q_callVi hC (As := [.inl (xs (x3 + 1)), .inl 0]) md_X8_site mv_X8_site ml_L_79 ly_63 rfl dL_law_703 rfl (Nat.le_of_ble_eq_true rfl) rfl rfl h (fun x125 M123 hM124 r126 h => ?_)
      refine q_icmp_eq hC dL_law_706 (t := 915) (by decide) rfl r120 r126 (fun c => ?_) (fun c => ?_)
      · have h := h.1 c
        exact h
      · have h := h.2 c
        refine q_iconst hC dL_law_709 rfl ?_
        exact h.elim
    · have h := h.2 c
      refine q_iconst hC dL_law_698 rfl ?_
      refine q_goto hC dL_law_699 (q := 703) (by decide) ?_
      refine q_callVi hC (As := [.inl (xs (x3 + 1)), .inl 1]) md_X8_site mv_X8_site ml_L_79 ly_63 rfl dL_law_703 rfl (Nat.le_of_ble_eq_true rfl) rfl rfl h (fun x129 M127 hM128 r130 h => ?_)
      refine q_icmp_eq hC dL_law_706 (t := 915) (by decide) rfl r120 r130 (fun c => ?_) (fun c => ?_)
      · have h := h.1 c
        exact h
      · have h := h.2 c
        refine q_iconst hC dL_law_709 rfl ?_
        exact h.elim
set_option maxRecDepth 20000 in
theorem s_L_law_711 {g : qG} {C : qX} {d : Nat} {M : qM} (hC : qCk g C cL_law RL 4 (d + 12)) {L : Nat} {xs : Int → Int} (hX : qSc g C L xs) (hL : L ≤ 3072) (hxs : ∀ j, qR (xs j)) (hLr : qR (L : Int)) (hE : ∀ (loc : List (Option qV)) (M : qM), qW g C 922 loc [.inl 1] M) {x3 : Int} (hx3 : qR x3) (h : (0 ≤ (x3 + 1) ∧ (x3 + 1) < (L : Int)) ∧ (0 ≤ (x3 + 2) ∧ (x3 + 2) < (L : Int)) ∧ (0 ≤ (x3 + 3) ∧ (x3 + 3) < (L : Int)) ∧ (0 ≤ (x3 + 4) ∧ (x3 + 4) < (L : Int)) ∧ (qOk g (d + 11) j_X7_wish [.inr 0, .inl (xs (x3 + 1)), .inl (xs (x3 + 2)), .inl (xs (x3 + 3)), .inl (xs (x3 + 4))] M (qI fun x107 M105 => (0 ≤ (x3 + 1) ∧ (x3 + 1) < (L : Int)) ∧ (0 ≤ (x3 + 2) ∧ (x3 + 2) < (L : Int)) ∧ (0 ≤ (x3 + 3) ∧ (x3 + 3) < (L : Int)) ∧ (0 ≤ (x3 + 4) ∧ (x3 + 4) < (L : Int)) ∧ (qOk g (d + 11) j_X8_wish [.inr 63, .inl (xs (x3 + 1)), .inl (xs (x3 + 2)), .inl (xs (x3 + 3)), .inl (xs (x3 + 4))] M105 (qI fun x115 M113 => ((x107 = x115 → (qW g C 915 [some (.inr 84), some (.inr 0), some (.inr 63), some (.inl x3)] [] M113)) ∧ (x107 ≠ x115 → (False)))))))) : qW g C 711 [some (.inr 84), some (.inr 0), some (.inr 63), some (.inl x3)] [] M := by
  refine qW.rm (fun hM => ?_)
  refine q_aload_n hC dL_law_711 rfl rfl ?_
  refine q_aload_n hC dL_law_712 rfl rfl ?_
  refine q_iload_n hC dL_law_713 rfl rfl ?_
  refine q_iconst hC dL_law_714 rfl ?_
  refine q_iadd hC dL_law_715 rfl ?_
  obtain ⟨r101, h⟩ := h
  refine q_sld hC hX hL dL_law_716 rfl r101 ?_
  refine q_aload_n hC dL_law_717 rfl rfl ?_
  refine q_iload_n hC dL_law_718 rfl rfl ?_
  refine q_iconst hC dL_law_719 rfl ?_
  refine q_iadd hC dL_law_720 rfl ?_
  obtain ⟨r102, h⟩ := h
  refine q_sld hC hX hL dL_law_721 rfl r102 ?_
  refine q_aload_n hC dL_law_722 rfl rfl ?_
  refine q_iload_n hC dL_law_723 rfl rfl ?_
  refine q_iconst hC dL_law_724 rfl ?_
  refine q_iadd hC dL_law_725 rfl ?_
  obtain ⟨r103, h⟩ := h
  refine q_sld hC hX hL dL_law_726 rfl r103 ?_
  refine q_aload_n hC dL_law_727 rfl rfl ?_
  refine q_iload_n hC dL_law_728 rfl rfl ?_
  refine q_iconst hC dL_law_729 rfl ?_
  refine q_iadd hC dL_law_730 rfl ?_
  obtain ⟨r104, h⟩ := h
  refine q_sld hC hX hL dL_law_731 rfl r104 ?_
  refine q_callVi hC (As := [.inl (xs (x3 + 1)), .inl (xs (x3 + 2)), .inl (xs (x3 + 3)), .inl (xs (x3 + 4))]) md_X7_wish mv_X7_wish ml_L_80 ly_0 rfl dL_law_732 rfl (Nat.le_of_ble_eq_true rfl) rfl rfl h (fun x107 M105 hM106 r108 h => ?_)
  refine q_aload_n hC dL_law_735 rfl rfl ?_
  refine q_aload_n hC dL_law_736 rfl rfl ?_
  refine q_iload_n hC dL_law_737 rfl rfl ?_
  refine q_iconst hC dL_law_738 rfl ?_
  refine q_iadd hC dL_law_739 rfl ?_
  obtain ⟨r109, h⟩ := h
  refine q_sld hC hX hL dL_law_740 rfl r109 ?_
  refine q_aload_n hC dL_law_741 rfl rfl ?_
  refine q_iload_n hC dL_law_742 rfl rfl ?_
  refine q_iconst hC dL_law_743 rfl ?_
  refine q_iadd hC dL_law_744 rfl ?_
  obtain ⟨r110, h⟩ := h
  refine q_sld hC hX hL dL_law_745 rfl r110 ?_
  refine q_aload_n hC dL_law_746 rfl rfl ?_
  refine q_iload_n hC dL_law_747 rfl rfl ?_
  refine q_iconst hC dL_law_748 rfl ?_
  refine q_iadd hC dL_law_749 rfl ?_
  obtain ⟨r111, h⟩ := h
  refine q_sld hC hX hL dL_law_750 rfl r111 ?_
  refine q_aload_n hC dL_law_751 rfl rfl ?_
  refine q_iload_n hC dL_law_752 rfl rfl ?_
  refine q_iconst hC dL_law_753 rfl ?_
  refine q_iadd hC dL_law_754 rfl ?_
  obtain ⟨r112, h⟩ := h
  refine q_sld hC hX hL dL_law_755 rfl r112 ?_
  refine q_callVi hC (As := [.inl (xs (x3 + 1)), .inl (xs (x3 + 2)), .inl (xs (x3 + 3)), .inl (xs (x3 + 4))]) md_X8_wish mv_X8_wish ml_L_83 ly_63 rfl dL_law_756 rfl (Nat.le_of_ble_eq_true rfl) rfl rfl h (fun x115 M113 hM114 r116 h => ?_)
  refine q_icmp_eq hC dL_law_759 (t := 915) (by decide) rfl r108 r116 (fun c => ?_) (fun c => ?_)
  · have h := h.1 c
    exact h
  · have h := h.2 c
    refine q_iconst hC dL_law_762 rfl ?_
    exact h.elim
set_option maxRecDepth 20000 in
theorem s_L_law_764 {g : qG} {C : qX} {d : Nat} {M : qM} (hC : qCk g C cL_law RL 4 (d + 12)) {L : Nat} {xs : Int → Int} (hX : qSc g C L xs) (hL : L ≤ 3072) (hxs : ∀ j, qR (xs j)) (hLr : qR (L : Int)) (hE : ∀ (loc : List (Option qV)) (M : qM), qW g C 922 loc [.inl 1] M) {x3 : Int} (hx3 : qR x3) (h : (0 ≤ (x3 + 1) ∧ (x3 + 1) < (L : Int)) ∧ (0 ≤ (x3 + 2) ∧ (x3 + 2) < (L : Int)) ∧ (qOk g (d + 11) j_X7_free [.inr 0, .inl (xs (x3 + 1)), .inl (xs (x3 + 2))] M (qI fun x105 M103 => (0 ≤ (x3 + 1) ∧ (x3 + 1) < (L : Int)) ∧ (0 ≤ (x3 + 2) ∧ (x3 + 2) < (L : Int)) ∧ (qOk g (d + 11) j_X8_free [.inr 63, .inl (xs (x3 + 1)), .inl (xs (x3 + 2))] M103 (qI fun x111 M109 => ((x105 = x111 → (qW g C 915 [some (.inr 84), some (.inr 0), some (.inr 63), some (.inl x3)] [] M109)) ∧ (x105 ≠ x111 → (False)))))))) : qW g C 764 [some (.inr 84), some (.inr 0), some (.inr 63), some (.inl x3)] [] M := by
  refine qW.rm (fun hM => ?_)
  refine q_aload_n hC dL_law_764 rfl rfl ?_
  refine q_aload_n hC dL_law_765 rfl rfl ?_
  refine q_iload_n hC dL_law_766 rfl rfl ?_
  refine q_iconst hC dL_law_767 rfl ?_
  refine q_iadd hC dL_law_768 rfl ?_
  obtain ⟨r101, h⟩ := h
  refine q_sld hC hX hL dL_law_769 rfl r101 ?_
  refine q_aload_n hC dL_law_770 rfl rfl ?_
  refine q_iload_n hC dL_law_771 rfl rfl ?_
  refine q_iconst hC dL_law_772 rfl ?_
  refine q_iadd hC dL_law_773 rfl ?_
  obtain ⟨r102, h⟩ := h
  refine q_sld hC hX hL dL_law_774 rfl r102 ?_
  refine q_callVi hC (As := [.inl (xs (x3 + 1)), .inl (xs (x3 + 2))]) md_X7_free mv_X7_free ml_L_84 ly_0 rfl dL_law_775 rfl (Nat.le_of_ble_eq_true rfl) rfl rfl h (fun x105 M103 hM104 r106 h => ?_)
  refine q_aload_n hC dL_law_778 rfl rfl ?_
  refine q_aload_n hC dL_law_779 rfl rfl ?_
  refine q_iload_n hC dL_law_780 rfl rfl ?_
  refine q_iconst hC dL_law_781 rfl ?_
  refine q_iadd hC dL_law_782 rfl ?_
  obtain ⟨r107, h⟩ := h
  refine q_sld hC hX hL dL_law_783 rfl r107 ?_
  refine q_aload_n hC dL_law_784 rfl rfl ?_
  refine q_iload_n hC dL_law_785 rfl rfl ?_
  refine q_iconst hC dL_law_786 rfl ?_
  refine q_iadd hC dL_law_787 rfl ?_
  obtain ⟨r108, h⟩ := h
  refine q_sld hC hX hL dL_law_788 rfl r108 ?_
  refine q_callVi hC (As := [.inl (xs (x3 + 1)), .inl (xs (x3 + 2))]) md_X8_free mv_X8_free ml_L_87 ly_63 rfl dL_law_789 rfl (Nat.le_of_ble_eq_true rfl) rfl rfl h (fun x111 M109 hM110 r112 h => ?_)
  refine q_icmp_eq hC dL_law_792 (t := 915) (by decide) rfl r106 r112 (fun c => ?_) (fun c => ?_)
  · have h := h.1 c
    exact h
  · have h := h.2 c
    refine q_iconst hC dL_law_795 rfl ?_
    exact h.elim
set_option maxRecDepth 20000 in
theorem s_L_law_797 {g : qG} {C : qX} {d : Nat} {M : qM} (hC : qCk g C cL_law RL 4 (d + 12)) {L : Nat} {xs : Int → Int} (hX : qSc g C L xs) (hL : L ≤ 3072) (hxs : ∀ j, qR (xs j)) (hLr : qR (L : Int)) (hE : ∀ (loc : List (Option qV)) (M : qM), qW g C 922 loc [.inl 1] M) {x3 : Int} (hx3 : qR x3) (h : (0 ≤ (x3 + 1) ∧ (x3 + 1) < (L : Int)) ∧ (qOk g (d + 11) j_X7_ratio [.inr 0, .inl (xs (x3 + 1))] M (qI fun x104 M102 => (0 ≤ (x3 + 1) ∧ (x3 + 1) < (L : Int)) ∧ (qOk g (d + 11) j_X8_ratio [.inr 63, .inl (xs (x3 + 1))] M102 (qI fun x109 M107 => ((x104 = x109 → (qW g C 915 [some (.inr 84), some (.inr 0), some (.inr 63), some (.inl x3)] [] M107)) ∧ (x104 ≠ x109 → (False)))))))) : qW g C 797 [some (.inr 84), some (.inr 0), some (.inr 63), some (.inl x3)] [] M := by
  refine qW.rm (fun hM => ?_)
  refine q_aload_n hC dL_law_797 rfl rfl ?_
  refine q_aload_n hC dL_law_798 rfl rfl ?_
  refine q_iload_n hC dL_law_799 rfl rfl ?_
  refine q_iconst hC dL_law_800 rfl ?_
  refine q_iadd hC dL_law_801 rfl ?_
  obtain ⟨r101, h⟩ := h
  refine q_sld hC hX hL dL_law_802 rfl r101 ?_
  refine q_callVi hC (As := [.inl (xs (x3 + 1))]) md_X7_ratio mv_X7_ratio ml_L_88 ly_0 rfl dL_law_803 rfl (Nat.le_of_ble_eq_true rfl) rfl rfl h (fun x104 M102 hM103 r105 h => ?_)
  refine q_aload_n hC dL_law_806 rfl rfl ?_
  refine q_aload_n hC dL_law_807 rfl rfl ?_
  refine q_iload_n hC dL_law_808 rfl rfl ?_
  refine q_iconst hC dL_law_809 rfl ?_
  refine q_iadd hC dL_law_810 rfl ?_
  obtain ⟨r106, h⟩ := h
  refine q_sld hC hX hL dL_law_811 rfl r106 ?_
  refine q_callVi hC (As := [.inl (xs (x3 + 1))]) md_X8_ratio mv_X8_ratio ml_L_91 ly_63 rfl dL_law_812 rfl (Nat.le_of_ble_eq_true rfl) rfl rfl h (fun x109 M107 hM108 r110 h => ?_)
  refine q_icmp_eq hC dL_law_815 (t := 915) (by decide) rfl r105 r110 (fun c => ?_) (fun c => ?_)
  · have h := h.1 c
    exact h
  · have h := h.2 c
    refine q_iconst hC dL_law_818 rfl ?_
    exact h.elim
set_option maxRecDepth 20000 in
theorem s_L_law_820 {g : qG} {C : qX} {d : Nat} {M : qM} (hC : qCk g C cL_law RL 4 (d + 12)) {L : Nat} {xs : Int → Int} (hX : qSc g C L xs) (hL : L ≤ 3072) (hxs : ∀ j, qR (xs j)) (hLr : qR (L : Int)) (hE : ∀ (loc : List (Option qV)) (M : qM), qW g C 922 loc [.inl 1] M) {x3 : Int} (hx3 : qR x3) (h : (0 ≤ (x3 + 1) ∧ (x3 + 1) < (L : Int)) ∧ (qOk g (d + 11) j_X7_plan [.inr 0, .inl (xs (x3 + 1))] M (qI fun x104 M102 => (0 ≤ (x3 + 1) ∧ (x3 + 1) < (L : Int)) ∧ (qOk g (d + 11) j_X8_plan [.inr 63, .inl (xs (x3 + 1))] M102 (qI fun x109 M107 => ((x104 = x109 → (qW g C 915 [some (.inr 84), some (.inr 0), some (.inr 63), some (.inl x3)] [] M107)) ∧ (x104 ≠ x109 → (False)))))))) : qW g C 820 [some (.inr 84), some (.inr 0), some (.inr 63), some (.inl x3)] [] M := by
  refine qW.rm (fun hM => ?_)
  refine q_aload_n hC dL_law_820 rfl rfl ?_
  refine q_aload_n hC dL_law_821 rfl rfl ?_
  refine q_iload_n hC dL_law_822 rfl rfl ?_
  refine q_iconst hC dL_law_823 rfl ?_
  refine q_iadd hC dL_law_824 rfl ?_
  obtain ⟨r101, h⟩ := h
  refine q_sld hC hX hL dL_law_825 rfl r101 ?_
  refine q_callVi hC (As := [.inl (xs (x3 + 1))]) md_X7_plan mv_X7_plan ml_L_92 ly_0 rfl dL_law_826 rfl (Nat.le_of_ble_eq_true rfl) rfl rfl h (fun x104 M102 hM103 r105 h => ?_)
  refine q_aload_n hC dL_law_829 rfl rfl ?_
  refine q_aload_n hC dL_law_830 rfl rfl ?_
  refine q_iload_n hC dL_law_831 rfl rfl ?_
  refine q_iconst hC dL_law_832 rfl ?_
  refine q_iadd hC dL_law_833 rfl ?_
  obtain ⟨r106, h⟩ := h
  refine q_sld hC hX hL dL_law_834 rfl r106 ?_
  refine q_callVi hC (As := [.inl (xs (x3 + 1))]) md_X8_plan mv_X8_plan ml_L_95 ly_63 rfl dL_law_835 rfl (Nat.le_of_ble_eq_true rfl) rfl rfl h (fun x109 M107 hM108 r110 h => ?_)
  refine q_icmp_eq hC dL_law_838 (t := 915) (by decide) rfl r105 r110 (fun c => ?_) (fun c => ?_)
  · have h := h.1 c
    exact h
  · have h := h.2 c
    refine q_iconst hC dL_law_841 rfl ?_
    exact h.elim
set_option maxRecDepth 20000 in
theorem s_L_law_843 {g : qG} {C : qX} {d : Nat} {M : qM} (hC : qCk g C cL_law RL 4 (d + 12)) {L : Nat} {xs : Int → Int} (hX : qSc g C L xs) (hL : L ≤ 3072) (hxs : ∀ j, qR (xs j)) (hLr : qR (L : Int)) (hE : ∀ (loc : List (Option qV)) (M : qM), qW g C 922 loc [.inl 1] M) {x3 : Int} (hx3 : qR x3) (h : (0 ≤ (x3 + 1) ∧ (x3 + 1) < (L : Int)) ∧ (qOk g (d + 11) j_X7_planned [.inr 0, .inl (xs (x3 + 1))] M (qI fun x104 M102 => (0 ≤ (x3 + 1) ∧ (x3 + 1) < (L : Int)) ∧ (qOk g (d + 11) j_X8_planned [.inr 63, .inl (xs (x3 + 1))] M102 (qI fun x109 M107 => ((x104 = x109 → (qW g C 915 [some (.inr 84), some (.inr 0), some (.inr 63), some (.inl x3)] [] M107)) ∧ (x104 ≠ x109 → (False)))))))) : qW g C 843 [some (.inr 84), some (.inr 0), some (.inr 63), some (.inl x3)] [] M := by
  refine qW.rm (fun hM => ?_)
  refine q_aload_n hC dL_law_843 rfl rfl ?_
  refine q_aload_n hC dL_law_844 rfl rfl ?_
  refine q_iload_n hC dL_law_845 rfl rfl ?_
  refine q_iconst hC dL_law_846 rfl ?_
  refine q_iadd hC dL_law_847 rfl ?_
  obtain ⟨r101, h⟩ := h
  refine q_sld hC hX hL dL_law_848 rfl r101 ?_
  refine q_callVi hC (As := [.inl (xs (x3 + 1))]) md_X7_planned mv_X7_planned ml_L_96 ly_0 rfl dL_law_849 rfl (Nat.le_of_ble_eq_true rfl) rfl rfl h (fun x104 M102 hM103 r105 h => ?_)
  refine q_aload_n hC dL_law_852 rfl rfl ?_
  refine q_aload_n hC dL_law_853 rfl rfl ?_
  refine q_iload_n hC dL_law_854 rfl rfl ?_
  refine q_iconst hC dL_law_855 rfl ?_
  refine q_iadd hC dL_law_856 rfl ?_
  obtain ⟨r106, h⟩ := h
  refine q_sld hC hX hL dL_law_857 rfl r106 ?_
  refine q_callVi hC (As := [.inl (xs (x3 + 1))]) md_X8_planned mv_X8_planned ml_L_99 ly_63 rfl dL_law_858 rfl (Nat.le_of_ble_eq_true rfl) rfl rfl h (fun x109 M107 hM108 r110 h => ?_)
  refine q_icmp_eq hC dL_law_861 (t := 915) (by decide) rfl r105 r110 (fun c => ?_) (fun c => ?_)
  · have h := h.1 c
    exact h
  · have h := h.2 c
    refine q_iconst hC dL_law_864 rfl ?_
    exact h.elim
set_option maxRecDepth 20000 in
theorem s_L_law_866 {g : qG} {C : qX} {d : Nat} {M : qM} (hC : qCk g C cL_law RL 4 (d + 12)) {L : Nat} {xs : Int → Int} (hX : qSc g C L xs) (hL : L ≤ 3072) (hxs : ∀ j, qR (xs j)) (hLr : qR (L : Int)) (hE : ∀ (loc : List (Option qV)) (M : qM), qW g C 922 loc [.inl 1] M) {x3 : Int} (hx3 : qR x3) (h : (0 ≤ (x3 + 1) ∧ (x3 + 1) < (L : Int)) ∧ (qOk g (d + 11) j_X7_many [.inr 0, .inl (xs (x3 + 1))] M (qI fun x104 M102 => (0 ≤ (x3 + 1) ∧ (x3 + 1) < (L : Int)) ∧ (qOk g (d + 11) j_X8_many [.inr 63, .inl (xs (x3 + 1))] M102 (qI fun x109 M107 => ((x104 = x109 → (qW g C 915 [some (.inr 84), some (.inr 0), some (.inr 63), some (.inl x3)] [] M107)) ∧ (x104 ≠ x109 → (False)))))))) : qW g C 866 [some (.inr 84), some (.inr 0), some (.inr 63), some (.inl x3)] [] M := by
  refine qW.rm (fun hM => ?_)
  refine q_aload_n hC dL_law_866 rfl rfl ?_
  refine q_aload_n hC dL_law_867 rfl rfl ?_
  refine q_iload_n hC dL_law_868 rfl rfl ?_
  refine q_iconst hC dL_law_869 rfl ?_
  refine q_iadd hC dL_law_870 rfl ?_
  obtain ⟨r101, h⟩ := h
  refine q_sld hC hX hL dL_law_871 rfl r101 ?_
  refine q_callVi hC (As := [.inl (xs (x3 + 1))]) md_X7_many mv_X7_many ml_L_100 ly_0 rfl dL_law_872 rfl (Nat.le_of_ble_eq_true rfl) rfl rfl h (fun x104 M102 hM103 r105 h => ?_)
  refine q_aload_n hC dL_law_875 rfl rfl ?_
  refine q_aload_n hC dL_law_876 rfl rfl ?_
  refine q_iload_n hC dL_law_877 rfl rfl ?_
  refine q_iconst hC dL_law_878 rfl ?_
  refine q_iadd hC dL_law_879 rfl ?_
  obtain ⟨r106, h⟩ := h
  refine q_sld hC hX hL dL_law_880 rfl r106 ?_
  refine q_callVi hC (As := [.inl (xs (x3 + 1))]) md_X8_many mv_X8_many ml_L_103 ly_63 rfl dL_law_881 rfl (Nat.le_of_ble_eq_true rfl) rfl rfl h (fun x109 M107 hM108 r110 h => ?_)
  refine q_icmp_eq hC dL_law_884 (t := 915) (by decide) rfl r105 r110 (fun c => ?_) (fun c => ?_)
  · have h := h.1 c
    exact h
  · have h := h.2 c
    refine q_iconst hC dL_law_887 rfl ?_
    exact h.elim
set_option maxRecDepth 20000 in
theorem s_L_law_889 {g : qG} {C : qX} {d : Nat} {M : qM} (hC : qCk g C cL_law RL 4 (d + 12)) {L : Nat} {xs : Int → Int} (hX : qSc g C L xs) (hL : L ≤ 3072) (hxs : ∀ j, qR (xs j)) (hLr : qR (L : Int)) (hE : ∀ (loc : List (Option qV)) (M : qM), qW g C 922 loc [.inl 1] M) {x3 : Int} (hx3 : qR x3) (h : qOk g (d + 11) j_X7_keep [.inr 0] M (qI fun x103 M101 => qOk g (d + 11) j_X8_keep [.inr 63] M101 (qI fun x107 M105 => ((x103 = x107 → (qW g C 915 [some (.inr 84), some (.inr 0), some (.inr 63), some (.inl x3)] [] M105)) ∧ (x103 ≠ x107 → (False)))))) : qW g C 889 [some (.inr 84), some (.inr 0), some (.inr 63), some (.inl x3)] [] M := by
  refine qW.rm (fun hM => ?_)
  refine q_aload_n hC dL_law_889 rfl rfl ?_
  refine q_callVi hC (As := []) md_X7_keep mv_X7_keep ml_L_104 ly_0 rfl dL_law_890 rfl (Nat.le_of_ble_eq_true rfl) rfl rfl h (fun x103 M101 hM102 r104 h => ?_)
  refine q_aload_n hC dL_law_893 rfl rfl ?_
  refine q_callVi hC (As := []) md_X8_keep mv_X8_keep ml_L_107 ly_63 rfl dL_law_894 rfl (Nat.le_of_ble_eq_true rfl) rfl rfl h (fun x107 M105 hM106 r108 h => ?_)
  refine q_icmp_eq hC dL_law_897 (t := 915) (by decide) rfl r104 r108 (fun c => ?_) (fun c => ?_)
  · have h := h.1 c
    exact h
  · have h := h.2 c
    refine q_iconst hC dL_law_900 rfl ?_
    exact h.elim
set_option maxRecDepth 20000 in
theorem s_L_law_902 {g : qG} {C : qX} {d : Nat} {M : qM} (hC : qCk g C cL_law RL 4 (d + 12)) {L : Nat} {xs : Int → Int} (hX : qSc g C L xs) (hL : L ≤ 3072) (hxs : ∀ j, qR (xs j)) (hLr : qR (L : Int)) (hE : ∀ (loc : List (Option qV)) (M : qM), qW g C 922 loc [.inl 1] M) {x3 : Int} (hx3 : qR x3) (h : qOk g (d + 11) j_X7_back [.inr 0] M (qI fun x103 M101 => qOk g (d + 11) j_X8_back [.inr 63] M101 (qI fun x107 M105 => ((x103 = x107 → (qW g C 915 [some (.inr 84), some (.inr 0), some (.inr 63), some (.inl x3)] [] M105)) ∧ (x103 ≠ x107 → (False)))))) : qW g C 902 [some (.inr 84), some (.inr 0), some (.inr 63), some (.inl x3)] [] M := by
  refine qW.rm (fun hM => ?_)
  refine q_aload_n hC dL_law_902 rfl rfl ?_
  refine q_callVi hC (As := []) md_X7_back mv_X7_back ml_L_108 ly_0 rfl dL_law_903 rfl (Nat.le_of_ble_eq_true rfl) rfl rfl h (fun x103 M101 hM102 r104 h => ?_)
  refine q_aload_n hC dL_law_906 rfl rfl ?_
  refine q_callVi hC (As := []) md_X8_back mv_X8_back ml_L_111 ly_63 rfl dL_law_907 rfl (Nat.le_of_ble_eq_true rfl) rfl rfl h (fun x107 M105 hM106 r108 h => ?_)
  refine q_icmp_eq hC dL_law_910 (t := 915) (by decide) rfl r104 r108 (fun c => ?_) (fun c => ?_)
  · have h := h.1 c
    exact h
  · have h := h.2 c
    refine q_iconst hC dL_law_913 rfl ?_
    exact h.elim
set_option maxRecDepth 20000 in
theorem s_L_law_915 {g : qG} {C : qX} {d : Nat} {M : qM} (hC : qCk g C cL_law RL 4 (d + 12)) {L : Nat} {xs : Int → Int} (hX : qSc g C L xs) (hL : L ≤ 3072) (hxs : ∀ j, qR (xs j)) (hLr : qR (L : Int)) (hE : ∀ (loc : List (Option qV)) (M : qM), qW g C 922 loc [.inl 1] M) {x3 : Int} (hx3 : qR x3) (h : qW g C 18 [some (.inr 84), some (.inr 0), some (.inr 63), some (.inl (x3 + 6))] [] M) : qW g C 915 [some (.inr 84), some (.inr 0), some (.inr 63), some (.inl x3)] [] M := by
  refine qW.rm (fun hM => ?_)
  refine q_iinc hC dL_law_915 rfl (loc' := [some (.inr 84), some (.inr 0), some (.inr 63), some (.inl (x3 + 6))]) rfl rfl ?_
  refine q_goto hC dL_law_918 (q := 18) (by decide) ?_
  exact h
