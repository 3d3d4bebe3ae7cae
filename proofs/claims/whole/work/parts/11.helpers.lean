/-! what the small methods answer -/
/-- bit t of b, as the machine has it -/
def qB (b t : Int) : Prop := qAnd (qShr b t) 1 = 1
section HLP
variable {g : qG} {d : Nat} {M : qM}
theorem b_X7_isBelow {a b : Int} (ha : qR a) (hb : qR b) : qOk g d j_X7_isBelow [.inl a, .inl b] M (qI fun x M1 => M1 = M ∧ ((x = 1 ∧ (0 ≤ a ∧ a < b)) ∨ (x = 0 ∧ (a < 0 ∨ b ≤ a)))) := by
  refine e_X7_isBelow ha hb ?_
  repeat' first | exact rfl | refine ⟨?_, ?_⟩ | intro c
  all_goals omega
theorem b_X7_isUpTo {a b : Int} (ha : qR a) (hb : qR b) : qOk g d j_X7_isUpTo [.inl a, .inl b] M (qI fun x M1 => M1 = M ∧ ((x = 1 ∧ (0 ≤ a ∧ a ≤ b)) ∨ (x = 0 ∧ (a < 0 ∨ b < a)))) := by
  refine e_X7_isUpTo ha hb ?_
  repeat' first | exact rfl | refine ⟨?_, ?_⟩ | intro c
  all_goals omega
theorem b_X7_isAge {a : Int} (ha : qR a) : qOk g d j_X7_isAge [.inl a] M (qI fun x M1 => M1 = M ∧ ((x = 1 ∧ (6 ≤ a ∧ a ≤ 18)) ∨ (x = 0 ∧ (a < 6 ∨ 18 < a)))) := by
  refine e_X7_isAge ha ?_
  repeat' first | exact rfl | refine ⟨?_, ?_⟩ | intro c
  all_goals omega
theorem b_X7_hasBit {a b : Int} (ha : qR a) (hb : qR b) : qOk g d j_X7_hasBit [.inl a, .inl b] M (qI fun x M1 => M1 = M ∧ ((x = 1 ∧ (qB a b)) ∨ (x = 0 ∧ (¬ qB a b)))) :=
  e_X7_hasBit ha hb ⟨fun c => ⟨rfl, Or.inr ⟨rfl, c⟩⟩, fun c => ⟨rfl, Or.inl ⟨rfl, c⟩⟩⟩
theorem b_X7_dayOrNone {a : Int} (ha : qR a) : qOk g d j_X7_dayOrNone [.inl a] M (qI fun x M1 => M1 = M ∧ ((x = (-3) ∧ (a = 1000)) ∨ (x = a ∧ (a ≠ 1000)))) :=
  e_X7_dayOrNone ha ⟨fun c => ⟨rfl, Or.inr ⟨rfl, c⟩⟩, fun c => ⟨rfl, Or.inl ⟨rfl, c⟩⟩⟩
theorem b_X7_isDay {a : Int} (ha : qR a) : qOk g (d + 1) j_X7_isDay [.inl a] M (qI fun x M1 => M1 = M ∧ ((x = 1 ∧ (0 ≤ a ∧ a ≤ 999)) ∨ (x = 0 ∧ (a < 0 ∨ 999 < a)))) :=
  e_X7_isDay ha ((b_X7_isUpTo ha (by decide)).monoI (fun x M1 _ _ h => ⟨by omega, h⟩))
theorem b_X7_isChild {a : Int} (ha : qR a) : qOk g (d + 1) j_X7_isChild [.inr 0, .inl a] M (qI fun x M1 => M1 = M ∧ ((x = 1 ∧ (0 ≤ a ∧ a < M 2 0)) ∨ (x = 0 ∧ (a < 0 ∨ M 2 0 ≤ a)))) :=
  qOk.rm fun hM => e_X7_isChild ha ((b_X7_isBelow ha (hM _ _)).monoI (fun x M1 _ _ h => ⟨by omega, h⟩))
theorem b_X7_isLeader {a : Int} (ha : qR a) : qOk g (d + 1) j_X7_isLeader [.inr 0, .inl a] M (qI fun x M1 => M1 = M ∧ ((x = 1 ∧ (0 ≤ a ∧ a < M 2 3)) ∨ (x = 0 ∧ (a < 0 ∨ M 2 3 ≤ a)))) :=
  qOk.rm fun hM => e_X7_isLeader ha ((b_X7_isBelow ha (hM _ _)).monoI (fun x M1 _ _ h => ⟨by omega, h⟩))
theorem b_X7_isTask {a : Int} (ha : qR a) : qOk g (d + 1) j_X7_isTask [.inr 0, .inl a] M (qI fun x M1 => M1 = M ∧ ((x = 1 ∧ (0 ≤ a ∧ a < M 8 0)) ∨ (x = 0 ∧ (a < 0 ∨ M 8 0 ≤ a)))) :=
  qOk.rm fun hM => e_X7_isTask ha ((b_X7_isBelow ha (hM _ _)).monoI (fun x M1 _ _ h => ⟨by omega, h⟩))
theorem b_X7_isBadge {a : Int} (ha : qR a) : qOk g (d + 1) j_X7_isBadge [.inr 0, .inl a] M (qI fun x M1 => M1 = M ∧ ((x = 1 ∧ (0 ≤ a ∧ a < M 8 3)) ∨ (x = 0 ∧ (a < 0 ∨ M 8 3 ≤ a)))) :=
  qOk.rm fun hM => e_X7_isBadge ha ((b_X7_isBelow ha (hM _ _)).monoI (fun x M1 _ _ h => ⟨by omega, h⟩))
theorem b_X7_isSignature {a : Int} (ha : qR a) : qOk g (d + 1) j_X7_isSignature [.inr 0, .inl a] M (qI fun x M1 => M1 = M ∧ ((x = 1 ∧ (0 ≤ a ∧ a < M 16 0)) ∨ (x = 0 ∧ (a < 0 ∨ M 16 0 ≤ a)))) :=
  qOk.rm fun hM => e_X7_isSignature ha ((b_X7_isBelow ha (hM _ _)).monoI (fun x M1 _ _ h => ⟨by omega, h⟩))
theorem b_X3_hasPaper {a b c : Int} (ha : qR a) (hb : qR b) (hc : qR c) (h : 0 ≤ ((a * 4) + b) ∧ ((a * 4) + b) < 20) : qOk g d j_X3_hasPaper [.inr 2, .inl a, .inl b, .inl c] M (qI fun x M1 => M1 = M ∧ ((x = 1 ∧ ((M 5 ((a * 4) + b)) ≤ c ∧ c ≤ (M 6 ((a * 4) + b)))) ∨ (x = 0 ∧ (c < (M 5 ((a * 4) + b)) ∨ (M 6 ((a * 4) + b)) < c)))) := by
  refine e_X3_hasPaper ha hb hc ⟨h, ?_⟩
  repeat' first | exact rfl | refine ⟨?_, ?_⟩ | intro c
  all_goals omega
theorem b_X2_doneFrom {a b : Int} (ha : qR a) (hb : qR b) (h : 0 ≤ ((a * 10) + b) ∧ ((a * 10) + b) < 100) : qOk g d j_X2_doneFrom [.inr 51, .inl a, .inl b] M (qI fun x M1 => M1 = M ∧ x = (M 52 ((a * 10) + b))) :=
  e_X2_doneFrom ha hb ⟨h, rfl, rfl⟩
theorem b_X2_otherFrom {a : Int} (ha : qR a) (h : a ≠ (-1) → 0 ≤ a ∧ a < 8) : qOk g d j_X2_otherFrom [.inr 51, .inl a] M (qI fun x M1 => M1 = M ∧ ((x = 0 ∧ (a = (-1))) ∨ (x = (M 53 a) ∧ (a ≠ (-1))))) :=
  e_X2_otherFrom ha ⟨fun c => ⟨h c, rfl, Or.inr ⟨rfl, c⟩⟩, fun c => ⟨rfl, Or.inl ⟨rfl, c⟩⟩⟩
theorem b_X8_in {a b c : Int} (ha : qR a) (hb : qR b) (hc : qR c) : qOk g d j_X8_in [.inl a, .inl b, .inl c] M (qI fun x M1 => M1 = M ∧ ((x = 1 ∧ (b ≤ a ∧ a ≤ c)) ∨ (x = 0 ∧ (a < b ∨ c < a)))) := by
  refine e_X8_in ha hb hc ?_
  repeat' first | exact rfl | refine ⟨?_, ?_⟩ | intro c
  all_goals omega
theorem b_X8_isDay {a : Int} (ha : qR a) : qOk g (d + 1) j_X8_isDay [.inl a] M (qI fun x M1 => M1 = M ∧ ((x = 1 ∧ (0 ≤ a ∧ a ≤ 999)) ∨ (x = 0 ∧ (a < 0 ∨ 999 < a)))) :=
  e_X8_isDay ha ((b_X8_in ha (by decide) (by decide)).monoI (fun x M1 _ _ h => ⟨by omega, h⟩))
theorem b_X8_isPatrol {a : Int} (ha : qR a) : qOk g (d + 1) j_X8_isPatrol [.inl a] M (qI fun x M1 => M1 = M ∧ ((x = 1 ∧ (0 ≤ a ∧ a ≤ 3)) ∨ (x = 0 ∧ (a < 0 ∨ 3 < a)))) :=
  e_X8_isPatrol ha ((b_X8_in ha (by decide) (by decide)).monoI (fun x M1 _ _ h => ⟨by omega, h⟩))
theorem b_X8_is {a b : Int} (ha : qR a) (hb : qR b) (h : 0 ≤ a ∧ a < 6) (h1 : 0 ≤ (M 64 a)) : qOk g (d + 1) j_X8_is [.inr 63, .inl a, .inl b] M (qI fun x M1 => M1 = M ∧ ((x = 1 ∧ (0 ≤ b ∧ b < (M 64 a))) ∨ (x = 0 ∧ (b < 0 ∨ (M 64 a) ≤ b)))) :=
  qOk.rm fun hM => e_X8_is ha hb ⟨h, (b_X8_in hb (by decide) (by have := hM 64 a; omega)).monoI (fun x M1 _ _ h => ⟨by omega, h.1, by omega⟩)⟩
theorem b_X8_came {a : Int} (ha : qR a) (h : 0 ≤ a ∧ a < 6) (h1 : 0 ≤ (M 64 a) ∧ (M 64 a) ≤ 80) : qOk g d j_X8_came [.inr 63, .inl a] M (qI fun x M1 => M1 = qU M 64 a ((M 64 a) + 1) ∧ x = (M 64 a)) := by
  refine e_X8_came ha ⟨h, by omega, ?_⟩
  rw [qU_s]
  exact ⟨by omega, rfl, by omega⟩
theorem b_X8_later {a b : Int} (ha : qR a) (hb : qR b) : qOk g d j_X8_later [.inl a, .inl b] M (qI fun x M1 => M1 = M ∧ ((x = (-1) ∧ (a < 0 ∨ b < 0)) ∨ (x = (max a b) ∧ (0 ≤ a ∧ 0 ≤ b)))) := by
  refine e_X8_later ha hb ?_
  repeat' first | exact rfl | refine ⟨?_, ?_⟩ | intro c
  all_goals omega
theorem b_X8_isDone {a : Int} (ha : qR a) (h : a < (M 64 2) → 0 ≤ a ∧ a < 10) : qOk g d j_X8_isDone [.inr 63, .inl a] M (qI fun x M1 => M1 = M ∧ ((x = 1 ∧ (a < (M 64 2) ∧ 0 ≤ (M 78 a))) ∨ (x = 0 ∧ ((M 64 2) ≤ a ∨ (M 78 a) < 0)))) := by
  refine e_X8_isDone ha ⟨fun c => ⟨rfl, ?_⟩, fun c => ⟨h c, fun c2 => ⟨rfl, ?_⟩, fun c2 => ⟨rfl, ?_⟩⟩⟩
  all_goals omega
theorem b_X8_worthOf {a : Int} (ha : qR a) (h : 0 ≤ a ∧ a < 4) (h1 : (M 80 a) ≠ 15 → 0 ≤ ((15 * a) + (M 80 a)) ∧ ((15 * a) + (M 80 a)) < 60) : qOk g d j_X8_worthOf [.inr 63, .inl a] M (qI fun x M1 => M1 = M ∧ ((x = 0 ∧ ((M 80 a) = 15)) ∨ (x = (M 76 ((15 * a) + (M 80 a))) ∧ ((M 80 a) ≠ 15)))) :=
  e_X8_worthOf ha ⟨h, fun c => ⟨h1 c, rfl, Or.inr ⟨rfl, c⟩⟩, fun c => ⟨rfl, Or.inl ⟨rfl, c⟩⟩⟩
-- rows of any length
theorem e_X7_copyRow {K : qM → Prop} {k0 k1 n : Nat} (z : Int) (h0 : qLs[k0]? = some (.inr (false, n))) (h1 : qLs[k1]? = some (.inr (false, n))) (hz : (n : Int) = z) (h : K (qCp M k0 k1 z)) : qOk g (d + 1) j_X7_copyRow [.inr k0, .inr k1] M (qN K) := by
  refine qOk.of (by decide) (Nat.le_of_ble_eq_true rfl) (fun C hC hQ => ?_)
  have hC : qCk g C cX7_copyRow RX7 2 (d + 1) := hC
  have hQ : qRt g C none (qN K) := hQ
  have hn := qLs_sz h0
  have hr : qR (n : Int) := by omega
  show qW g C 0 [some (.inr k0), some (.inr k1)] [] M
  refine q_aload_n hC dX7_copyRow_0 rfl rfl ?_
  refine q_iconst hC dX7_copyRow_1 rfl ?_
  refine q_aload_n hC dX7_copyRow_2 rfl rfl ?_
  refine q_iconst hC dX7_copyRow_3 rfl ?_
  refine q_aload_n hC dX7_copyRow_4 rfl rfl ?_
  refine q_alen hC h0 (z := n) rfl dX7_copyRow_5 rfl ?_
  refine q_aload_n hC dX7_copyRow_6 rfl rfl ?_
  refine q_alen hC h1 (z := n) rfl dX7_copyRow_7 rfl ?_
  refine q_mmin hC ml_X7_251 mm_min dX7_copyRow_8 (Nat.le_of_ble_eq_true rfl) rfl rfl hr hr ?_
  rw [Int.min_self]
  refine q_copy hC h0 h1 ml_X7_254 mm_copy dX7_copyRow_11 (Nat.le_of_ble_eq_true rfl) rfl rfl (by omega) (Int.le_refl _) (Int.le_refl _) (fun e => by cases e) ?_
  rw [hz]
  exact q_vret hC hQ dX7_copyRow_14 h
theorem qCp_0 {a b : Nat} : qCp M a b 0 = M := by
  funext k j
  unfold qCp
  exact if_neg (fun h => absurd h.2.2 (by omega))
theorem qCp_at {a b : Nat} {i : Int} : qCp M a b i a i = M a i := by
  unfold qCp
  exact if_neg (fun h => absurd h.2.2 (by omega))
theorem qCp_1 {a b : Nat} {i : Int} (hi : 0 ≤ i) : qU (qCp M a b i) b i (M a i) = qCp M a b (i + 1) := by
  funext k j
  unfold qU qCp
  by_cases hk : k = b
  · by_cases hj : j = i
    · subst hj
      rw [if_pos ⟨hk, rfl⟩, if_pos ⟨hk, hi, by omega⟩]
    · rw [if_neg (fun h => hj h.2)]
      by_cases h2 : 0 ≤ j ∧ j < i
      · rw [if_pos ⟨hk, h2⟩, if_pos ⟨hk, h2.1, by omega⟩]
      · rw [if_neg (fun h => h2 h.2), if_neg (fun h => h2 ⟨h.2.1, by omega⟩)]
  · rw [if_neg (fun h => hk h.1), if_neg (fun h => hk h.1), if_neg (fun h => hk h.1)]
theorem e_X7_copyMarks {K : qM → Prop} {k0 k1 n : Nat} (z : Int) (h0 : qLs[k0]? = some (.inr (true, n))) (h1 : qLs[k1]? = some (.inr (true, n))) (hz : (n : Int) = z) (hb : ∀ j, 0 ≤ j → j < z → M k0 j = 0 ∨ M k0 j = 1) (h : K (qCp M k0 k1 z)) : qOk g (d + 1) j_X7_copyMarks [.inr k0, .inr k1] M (qN K) := by
  refine qOk.of (by decide) (Nat.le_of_ble_eq_true rfl) (fun C hC hQ => ?_)
  have hC : qCk g C cX7_copyMarks RX7 3 (d + 1) := hC
  have hQ : qRt g C none (qN K) := hQ
  have hn := qLs_sz h0
  have hr : qR (n : Int) := by omega
  subst hz
  have key : ∀ m : Nat, ∀ i : Int, 0 ≤ i → i + m = n → qW g C 2 [some (.inr k0), some (.inr k1), some (.inl i)] [] (qCp M k0 k1 i) := by
    intro m
    induction m with
    | zero =>
      intro i hi hm
      have e : i = (n : Int) := by omega
      subst e
      refine q_iload_n hC dX7_copyMarks_2 rfl rfl ?_
      refine q_aload_n hC dX7_copyMarks_3 rfl rfl ?_
      refine q_alen hC h0 (z := n) rfl dX7_copyMarks_4 rfl ?_
      refine q_icmp_ge hC dX7_copyMarks_5 (t := 26) (by decide) rfl hr hr (fun _ => ?_) (fun c => absurd c (by omega))
      exact q_vret hC hQ dX7_copyMarks_26 h
    | succ m ih =>
      intro i hi hm
      have hri : qR i := by omega
      have hin : 0 ≤ i ∧ i < (n : Int) := by omega
      refine q_iload_n hC dX7_copyMarks_2 rfl rfl ?_
      refine q_aload_n hC dX7_copyMarks_3 rfl rfl ?_
      refine q_alen hC h0 (z := n) rfl dX7_copyMarks_4 rfl ?_
      refine q_icmp_ge hC dX7_copyMarks_5 (t := 26) (by decide) rfl hri hr (fun c => absurd c (by omega)) (fun _ => ?_)
      refine q_iload_n hC dX7_copyMarks_8 rfl rfl ?_
      refine q_aload_n hC dX7_copyMarks_9 rfl rfl ?_
      refine q_alen hC h1 (z := n) rfl dX7_copyMarks_10 rfl ?_
      refine q_icmp_ge hC dX7_copyMarks_11 (t := 26) (by decide) rfl hri hr (fun c => absurd c (by omega)) (fun _ => ?_)
      refine q_aload_n hC dX7_copyMarks_14 rfl rfl ?_
      refine q_iload_n hC dX7_copyMarks_15 rfl rfl ?_
      refine q_aload_n hC dX7_copyMarks_16 rfl rfl ?_
      refine q_iload_n hC dX7_copyMarks_17 rfl rfl ?_
      refine q_zald hC h0 dX7_copyMarks_18 rfl hin ?_
      rw [qCp_at]
      refine q_zast hC h1 dX7_copyMarks_19 rfl hin (hb i hin.1 hin.2) ?_
      rw [qCp_1 hi]
      refine q_iinc hC dX7_copyMarks_20 rfl (loc' := [some (.inr k0), some (.inr k1), some (.inl (i + 1))]) rfl rfl ?_
      refine q_goto hC dX7_copyMarks_23 (q := 2) (by decide) ?_
      exact ih (i + 1) (by omega) (by omega)
  show qW g C 0 [some (.inr k0), some (.inr k1), none] [] M
  refine q_iconst hC dX7_copyMarks_0 rfl ?_
  refine q_istore_n hC dX7_copyMarks_1 (Nat.le_of_ble_eq_true rfl) (loc' := [some (.inr k0), some (.inr k1), some (.inl 0)]) rfl rfl ?_
  have k := key n 0 (Int.le_refl _) (by omega)
  rw [qCp_0] at k
  exact k
theorem b_X7_replace {k n : Nat} {i v : Int} (hk : qLs[k]? = some (.inr (false, n))) (hi : 0 ≤ i ∧ i < n) (hv : qR v) : qOk g (d + 1) j_X7_replace [.inr k, .inl i, .inl v] M (qI fun x M1 => M1 = qU M k i v ∧ x = M k i) := by
  refine qOk.of (by decide) (Nat.le_of_ble_eq_true rfl) (fun C hC hQ => ?_)
  have hC : qCk g C cX7_replace RX7 4 (d + 1) := hC
  have hQ : qRt g C (some .int) (qI fun x M1 => M1 = qU M k i v ∧ x = M k i) := hQ
  have hn := qLs_sz hk
  have hri : qR i := by omega
  have hrn : qR (n : Int) := by omega
  show qW g C 0 [some (.inr k), some (.inl i), some (.inl v), none] [] M
  refine qW.rm (fun hM => ?_)
  refine q_iload_n hC dX7_replace_0 rfl rfl ?_
  refine q_aload_n hC dX7_replace_1 rfl rfl ?_
  refine q_alen hC hk (z := n) rfl dX7_replace_2 rfl ?_
  refine q_callSi hC (As := [.inl i, .inl n]) md_X7_isBelow ms_X7_isBelow ml_X7_48 dX7_replace_3 rfl (Nat.le_of_ble_eq_true rfl) rfl rfl (b_X7_isBelow hri hrn) (fun x M1 hM1 hx h => ?_)
  obtain ⟨rfl, h⟩ := h
  refine q_if_ne hC dX7_replace_6 (t := 11) (by decide) rfl hx (fun c => ?_) (fun c => absurd h (by omega))
  refine q_aload_n hC dX7_replace_11 rfl rfl ?_
  refine q_iload_n hC dX7_replace_12 rfl rfl ?_
  refine q_iald hC hk dX7_replace_13 rfl hi ?_
  refine q_istore_n hC dX7_replace_14 (Nat.le_of_ble_eq_true rfl) (loc' := [some (.inr k), some (.inl i), some (.inl v), some (.inl (M1 k i))]) rfl rfl ?_
  refine q_aload_n hC dX7_replace_15 rfl rfl ?_
  refine q_iload_n hC dX7_replace_16 rfl rfl ?_
  refine q_iload_n hC dX7_replace_17 rfl rfl ?_
  refine q_iast hC hk dX7_replace_18 rfl hi hv ?_
  refine q_iload_n hC dX7_replace_19 rfl rfl ?_
  exact q_iret hC hQ dX7_replace_20 (hM k i) ⟨rfl, rfl⟩
end HLP
