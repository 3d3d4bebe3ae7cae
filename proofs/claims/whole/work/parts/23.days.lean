/-! days: the least day on which enough is done -/
theorem qAnd_1 (x : Int) : qAnd x 1 = 0 ∨ qAnd x 1 = 1 := by
  unfold qAnd
  have e : Int32.ofInt 1 = 1 := by decide
  rw [e]
  have h : ∀ y : Int32, y &&& 1 = 0 ∨ y &&& 1 = 1 := by
    intro y
    obtain ⟨j, hj, he⟩ := pk_andE y (m := 1) 1 (by decide)
    rw [he]
    rcases (show j = 0 ∨ j = 1 by omega) with rfl | rfl
    · exact Or.inl (by decide)
    · exact Or.inr (by decide)
  rcases h (Int32.ofInt x) with z | z
  · rw [z]; exact Or.inl (by decide)
  · rw [z]; exact Or.inr (by decide)
theorem nvF_r {z : Int} (h : -1 ≤ z ∧ z ≤ 999) : 0 ≤ nvF z ∧ nvF z ≤ 1000 ∧ (z < 0 → nvF z = 1000) ∧ (0 ≤ z → nvF z = z) := by
  by_cases y : z < 0
  · rw [nv_n y]; omega
  · rw [nv_p (by omega)]; omega
theorem nb_on {f : Int → Int} {b day : Int} : ∀ n : Nat, 0 ≤ nbF f b day n ∧ nbF f b day n ≤ onF b n ∧ 0 ≤ onF b n ∧ onF b n ≤ n
  | 0 => by simp [nbF, onF]
  | n + 1 => by
    have h := nb_on (f := f) (b := b) (day := day) n
    have z := qAnd_1 (qShr b n)
    simp only [nbF, onF]
    split <;> omega
def aF (f : Int → Int) (b : Int) : Nat → Int
  | 0 => 0
  | t + 1 => if qAnd (qShr b t) 1 = 1 then max (aF f b t) (nvF (f t)) else aF f b t
theorem aF_r {f : Int → Int} {b : Int} (hf : ∀ t, -1 ≤ f t ∧ f t ≤ 999) : ∀ n : Nat, 0 ≤ aF f b n ∧ aF f b n ≤ 1000
  | 0 => by simp [aF]
  | n + 1 => by
    have h := aF_r (b := b) hf n
    have z := nvF_r (hf n)
    simp only [aF]
    split <;> omega
theorem aF_le {f : Int → Int} {b day : Int} (hf : ∀ t, -1 ≤ f t ∧ f t ≤ 999) (h0 : 0 ≤ day) (h1 : day ≤ 999) : ∀ n : Nat, (nbF f b day n = onF b n ↔ aF f b n ≤ day)
  | 0 => by simp [nbF, onF, aF]; omega
  | n + 1 => by
    have h := aF_le (b := b) hf h0 h1 n
    have k := nb_on (f := f) (b := b) (day := day) n
    have z := nvF_r (hf n)
    rcases qAnd_1 (qShr b n) with y | y
    · simp only [nbF, onF, aF, y]
      rw [if_neg (by omega), if_neg (by omega)]
      rw [← h]
      omega
    · simp only [nbF, onF, aF, y, true_and, if_true]
      by_cases w : 0 ≤ f n ∧ f n ≤ day
      · rw [if_pos w]
        have := z.2.2.2 w.1
        omega
      · rw [if_neg w]
        by_cases u : f n < 0
        · have := z.2.2.1 u; omega
        · have := z.2.2.2 (by omega); omega
theorem ds_c (f : Int → Int) (b n : Int) : ∀ (k : Nat) (day : Int), (dsF f b n k day = -1 ∧ ∀ e, day ≤ e → e < day + k → nbF f b e 10 < n) ∨ ((day ≤ dsF f b n k day ∧ dsF f b n k day < day + k) ∧ n ≤ nbF f b (dsF f b n k day) 10 ∧ ∀ e, day ≤ e → e < dsF f b n k day → nbF f b e 10 < n)
  | 0, day => Or.inl ⟨rfl, fun e h1 h2 => by omega⟩
  | k + 1, day => by
    simp only [dsF]
    by_cases z : n ≤ nbF f b day 10
    · rw [if_pos z]
      exact Or.inr ⟨by omega, z, fun e h1 h2 => by omega⟩
    · rw [if_neg z]
      rcases ds_c f b n k (day + 1) with ⟨h1, h2⟩ | ⟨h1, h2, h3⟩
      · refine Or.inl ⟨h1, fun e e1 e2 => ?_⟩
        by_cases y : e = day
        · subst y; omega
        · exact h2 e (by omega) (by omega)
      · refine Or.inr ⟨by omega, h2, fun e e1 e2 => ?_⟩
        by_cases y : e = day
        · subst y; omega
        · exact h3 e (by omega) e2
theorem do_r (f : Int → Int) (b n : Int) : -1 ≤ doF f b n ∧ doF f b n ≤ 999 := by
  unfold doF
  split
  · omega
  · rcases ds_c f b n 1000 0 with h | h <;> omega
theorem do_all {f : Int → Int} {b : Int} (hf : ∀ t, -1 ≤ f t ∧ f t ≤ 999) : nvF (doF f b (onF b 10)) = aF f b 10 := by
  have r := aF_r (b := b) hf 10
  unfold doF
  by_cases z : onF b 10 = 0
  · rw [if_pos z, nv_p (by decide)]
    have h := (aF_le (b := b) hf (Int.le_refl 0) (by decide) 10).mp (by have := nb_on (f := f) (b := b) (day := 0) 10; omega)
    omega
  · rw [if_neg z]
    have key : ∀ e, 0 ≤ e → e < 1000 → (onF b 10 ≤ nbF f b e 10 ↔ aF f b 10 ≤ e) := by
      intro e e0 e1
      have h := aF_le (b := b) hf e0 (by omega) 10
      have k := nb_on (f := f) (b := b) (day := e) 10
      rw [← h]
      omega
    rcases ds_c f b (onF b 10) 1000 0 with ⟨h1, h2⟩ | ⟨h1, h2, h3⟩
    · rw [h1, nv_n (by decide)]
      by_cases y : aF f b 10 ≤ 999
      · have := h2 (aF f b 10) (by omega) (by omega)
        have := (key (aF f b 10) (by omega) (by omega)).mpr (Int.le_refl _)
        omega
      · omega
    · rw [nv_p (by omega)]
      have a := (key _ (by omega) (by omega)).mp h2
      by_cases y : aF f b 10 < dsF f b (onF b 10) 1000 0
      · have := h3 (aF f b 10) (by omega) y
        have := (key (aF f b 10) (by omega) (by omega)).mpr (Int.le_refl _)
        omega
      · omega
-- some of others
def sF (f : Int → Int) (b w : Int) : Nat → Int
  | 0 => 1000
  | t + 1 => if qAnd (qShr b t) 1 = 1 ∧ nvF (f t) < sF f b w t ∧ w ≤ nbF f b (nvF (f t)) 10 then nvF (f t) else sF f b w t
theorem sF_c {f : Int → Int} {b w : Int} (hf : ∀ t, -1 ≤ f t ∧ f t ≤ 999) : ∀ n : Nat, sF f b w n ≤ 1000 ∧ (sF f b w n = 1000 ∨ (0 ≤ sF f b w n ∧ w ≤ nbF f b (sF f b w n) 10)) ∧ ∀ t : Nat, t < n → qAnd (qShr b t) 1 = 1 → 0 ≤ f t → w ≤ nbF f b (f t) 10 → sF f b w n ≤ f t
  | 0 => ⟨by simp [sF], Or.inl rfl, fun t h => by omega⟩
  | n + 1 => by
    obtain ⟨h1, h2, h3⟩ := sF_c (b := b) (w := w) hf n
    have z := nvF_r (hf n)
    simp only [sF]
    by_cases y : qAnd (qShr b n) 1 = 1 ∧ nvF (f n) < sF f b w n ∧ w ≤ nbF f b (nvF (f n)) 10
    · rw [if_pos y]
      refine ⟨by omega, Or.inr ⟨by omega, y.2.2⟩, fun t ht a1 a2 a3 => ?_⟩
      by_cases u : t = n
      · subst u; have := z.2.2.2 a2; omega
      · have := h3 t (by omega) a1 a2 a3; omega
    · rw [if_neg y]
      refine ⟨h1, h2, fun t ht a1 a2 a3 => ?_⟩
      by_cases u : t = n
      · subst u
        have q := z.2.2.2 a2
        rw [q] at y
        by_cases v : f t < sF f b w t
        · exact absurd ⟨a1, v, a3⟩ y
        · omega
      · exact h3 t (by omega) a1 a2 a3
theorem nb_step {f : Int → Int} {b r : Int} : ∀ n : Nat, (∀ t : Nat, t < n → ¬ (qAnd (qShr b t) 1 = 1 ∧ 0 ≤ f t ∧ f t = r)) → nbF f b r n = nbF f b (r - 1) n
  | 0, _ => rfl
  | n + 1, h => by
    simp only [nbF]
    rw [nb_step n (fun t ht => h t (by omega))]
    have := h n (by omega)
    by_cases z : qAnd (qShr b n) 1 = 1 ∧ 0 ≤ f n ∧ f n ≤ r
    · rw [if_pos z, if_pos ⟨z.1, z.2.1, by omega⟩]
    · rw [if_neg z, if_neg (by omega)]
theorem nb_neg {f : Int → Int} {b r : Int} (hr : r < 0) : ∀ n : Nat, nbF f b r n = 0
  | 0 => rfl
  | n + 1 => by
    simp only [nbF]
    rw [nb_neg hr n, if_neg (by omega)]
    rfl
theorem do_some {f : Int → Int} {b w : Int} (hf : ∀ t, -1 ≤ f t ∧ f t ≤ 999) (hw : 0 < w) : nvF (doF f b w) = sF f b w 10 := by
  obtain ⟨h1, h2, h3⟩ := sF_c (b := b) (w := w) hf 10
  unfold doF
  rw [if_neg (by omega)]
  rcases ds_c f b w 1000 0 with ⟨a1, a2⟩ | ⟨a1, a2, a3⟩
  · rw [a1, nv_n (by decide)]
    rcases h2 with h2 | h2
    · exact h2.symm
    · by_cases z : sF f b w 10 = 1000
      · exact z.symm
      · have := a2 (sF f b w 10) (by omega) (by omega); omega
  · rw [nv_p (by omega)]
    -- the least day is some task's own
    have q : ∃ t : Nat, t < 10 ∧ qAnd (qShr b t) 1 = 1 ∧ 0 ≤ f t ∧ f t = dsF f b w 1000 0 := by
      by_cases z : ∃ t : Nat, t < 10 ∧ qAnd (qShr b t) 1 = 1 ∧ 0 ≤ f t ∧ f t = dsF f b w 1000 0
      · exact z
      · exfalso
        have e := nb_step (f := f) (b := b) (r := dsF f b w 1000 0) 10 (fun t ht y => z ⟨t, ht, y⟩)
        by_cases y : dsF f b w 1000 0 = 0
        · rw [y] at e a2
          rw [nb_neg (r := 0 - 1) (by decide) 10] at e
          omega
        · have := a3 (dsF f b w 1000 0 - 1) (by omega) (by omega)
          omega
    obtain ⟨t, t1, t2, t3, t4⟩ := q
    have u := h3 t t1 t2 t3 (by rw [t4]; exact a2)
    rcases h2 with h2 | h2
    · omega
    · by_cases v : sF f b w 10 < dsF f b w 1000 0
      · have := a3 (sF f b w 10) h2.1 v; omega
      · omega
theorem nv_lt {a b : Int} (ha : -1 ≤ a ∧ a ≤ 999) (hb : -1 ≤ b ∧ b ≤ 999) : nvF (ltF a b) = max (nvF a) (nvF b) := by
  have x := nvF_r ha
  have y := nvF_r hb
  unfold ltF
  by_cases z : a < 0 ∨ b < 0
  · rw [if_pos z, nv_n (by decide)]
    rcases z with z | z
    · have := x.2.2.1 z; omega
    · have := y.2.2.1 z; omega
  · rw [if_neg z, nv_p (by omega), x.2.2.2 (by omega), y.2.2.2 (by omega)]
theorem lt_r {a b : Int} (ha : -1 ≤ a ∧ a ≤ 999) (hb : -1 ≤ b ∧ b ≤ 999) : -1 ≤ ltF a b ∧ ltF a b ≤ 999 := by
  unfold ltF
  split <;> omega
theorem hb_r {V : qM} {f h : Int → Int} {c b : Int} (hh : ∀ j, -1 ≤ h j ∧ h j ≤ 999) : -1 ≤ hbV V f h c b ∧ hbV V f h c b ≤ 999 := by
  unfold hbV
  split
  · split
    · exact lt_r (do_r _ _ _) (do_r _ _ _)
    · exact lt_r (lt_r (do_r _ _ _) (do_r _ _ _)) (hh _)
  · omega
theorem ht_r {V : qM} {c : Int} : ∀ (n : Nat) (j : Int), -1 ≤ htV V c n j ∧ htV V c n j ≤ 999
  | 0, _ => ⟨by show (-1 : Int) ≤ -1; decide, by show (-1 : Int) ≤ 999; decide⟩
  | n + 1, j => by
    show -1 ≤ fU (htV V c n) n _ j ∧ fU (htV V c n) n _ j ≤ 999
    by_cases z : j = n
    · subst z; rw [fU_s]; exact hb_r (ht_r n)
    · rw [fU_n z]; exact ht_r n j
theorem hd_r {V : qM} {c : Int} (j : Int) : -1 ≤ hdV V c j ∧ hdV V c j ≤ 999 := ht_r _ j
