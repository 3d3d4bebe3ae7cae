/-! badges that are held: the class -/
def lkF (f : Int → Int) (b : Int) : Nat → Int
  | 0 => 0
  | t + 1 => if qAnd (qShr b t) 1 = 1 ∧ f t < 0 then qOr (lkF f b t) (qShl 1 t) else lkF f b t
theorem lk_r {f : Int → Int} {b : Int} : ∀ n : Nat, qR (lkF f b n)
  | 0 => by show qR 0; decide
  | n + 1 => by
    simp only [lkF]
    split
    · exact qR_or _ _
    · exact lk_r n
/-- the done days stand in the class's row -/
def dX (M : qM) (V : qM) : Prop := ∀ c, 0 ≤ c → c < 10 → ∀ j, 0 ≤ j → j < 10 → M 52 (c * 10 + j) = nvF (dnV V c j)
theorem bk_b {M V : qM} {i : Int} (h : bkV (bv M 1) V) (h0 : 0 ≤ i) (h1 : i < V 0 4) : M 11 i = V 8 (5 * i) ∧ M 12 i = V 8 (5 * i + 1) ∧ M 13 i = V 8 (5 * i + 2) ∧ M 14 i = V 8 (5 * i + 3) ∧ M 15 i = V 8 (5 * i + 4) := h.2.2.2.1.2 i h0 h1
theorem bk_c {M V : qM} {c : Int} (h : bkV (bv M 1) V) (h0 : 0 ≤ c) (h1 : c < V 0 0) : M 3 c = V 1 c ∧ M 4 c = V 2 c := h.1.2 c h0 h1
section HELDX
variable {g : qG} {C : qX} {d : Nat} {V M : qM} {c b day w : Int}
theorem dX_n (hv : voV V) (hd : dX M V) (c0 : 0 ≤ c) (c1 : c < 10) (t : Nat) (ht : t < 10) : M 52 (c * 10 + (t : Int)) = nvF (dnV V c t) ∧ 0 ≤ nvF (dnV V c t) ∧ nvF (dnV V c t) ≤ 1000 ∧ (dnV V c t < 0 → nvF (dnV V c t) = 1000) ∧ (0 ≤ dnV V c t → nvF (dnV V c t) = dnV V c t) ∧ dnV V c t ≤ 999 :=
  ⟨hd c c0 c1 t (by omega) (by omega), (nvF_r (dn_r hv _)).1, (nvF_r (dn_r hv _)).2.1, (nvF_r (dn_r hv _)).2.2.1, (nvF_r (dn_r hv _)).2.2.2, (dn_r hv _).2⟩
theorem lx_bnd {K : Int → qM → Prop} (hv : voV V) (hd : dX M V) (c0 : 0 ≤ c) (c1 : c < 10) (hb : qR b) (hC : qCk g C cX2_bitsNotDone RX2 5 (d + 1)) (hQ : qRt g C (some .int) (qI K)) (hK : K (lkF (dnV V c) b 10) M) :
    ∀ (k t : Nat), t + k = 10 → qW g C 5 [some (.inr 51), some (.inl c), some (.inl b), some (.inl (lkF (dnV V c) b t)), some (.inl (t : Int))] [] M := by
  intro k
  induction k with
  | zero =>
    intro t h1
    have e : t = 10 := by omega
    subst e
    exact s_X2_bitsNotDone_5 hC hQ (by omega) hb (lk_r _) (by decide) ⟨fun _ => hK, fun z => absurd z (by decide)⟩
  | succ k ih =>
    intro t h1
    have q := dX_n hv hd c0 c1 t (by omega)
    have nxt := ih (t + 1) (by omega)
    rw [show ((t + 1 : Nat) : Int) = (t : Int) + 1 by omega] at nxt
    refine s_X2_bitsNotDone_5 hC hQ (by omega) hb (lk_r _) (by omega) ⟨fun z => by omega, fun _ => ⟨fun z1 => ⟨by omega, fun z2 => ?_, fun z2 => ?_⟩, fun z1 => ?_⟩⟩
    · simp only [lkF] at nxt
      rw [if_neg (fun z => by have := q.2.2.2.1 z.2; omega)] at nxt
      exact nxt
    · simp only [lkF] at nxt
      rw [if_pos ⟨z1, by by_cases y : dnV V c t < 0; exact y; have := q.2.2.2.2.1 (by omega); omega⟩] at nxt
      exact nxt
    · simp only [lkF] at nxt
      rw [if_neg (fun z => z1 z.1)] at nxt
      exact nxt
theorem bx_bitsNotDone (hv : voV V) (hd : dX M V) (c0 : 0 ≤ c) (c1 : c < 10) (hb : qR b) : qOk g (d + 1) j_X2_bitsNotDone [.inr 51, .inl c, .inl b] M (qI fun x M1 => M1 = M ∧ x = lkF (dnV V c) b 10) :=
  e_X2_bitsNotDone (by omega) hb (fun C hC hQ => lx_bnd hv hd c0 c1 hb hC hQ ⟨rfl, rfl⟩ 10 0 (by omega))
theorem lx_dby {K : Int → qM → Prop} (hv : voV V) (hd : dX M V) (c0 : 0 ≤ c) (c1 : c < 10) (hb : qR b) (d0 : 0 ≤ day) (d1 : day ≤ 999) (hC : qCk g C cX2_doneBy RX2 6 (d + 1)) (hQ : qRt g C (some .int) (qI K)) (hK : K (nbF (dnV V c) b day 10) M) :
    ∀ (k t : Nat), t + k = 10 → qW g C 6 [some (.inr 51), some (.inl c), some (.inl b), some (.inl day), some (.inl (nbF (dnV V c) b day t)), some (.inl (t : Int))] [] M := by
  intro k
  induction k with
  | zero =>
    intro t h1
    have e : t = 10 := by omega
    subst e
    have := nb_on (f := dnV V c) (b := b) (day := day) 10
    exact s_X2_doneBy_6 hC hQ (by omega) hb (by omega) (by omega) (by decide) ⟨fun _ => hK, fun z => absurd z (by decide)⟩
  | succ k ih =>
    intro t h1
    have q := dX_n hv hd c0 c1 t (by omega)
    have r := nb_on (f := dnV V c) (b := b) (day := day) t
    have nxt := ih (t + 1) (by omega)
    rw [show ((t + 1 : Nat) : Int) = (t : Int) + 1 by omega] at nxt
    simp only [nbF] at nxt
    refine s_X2_doneBy_6 hC hQ (by omega) hb (by omega) (by omega) (by omega) ⟨fun z => by omega, fun _ => ⟨fun z1 => ⟨by omega, fun z2 => ?_, fun z2 => ?_⟩, fun z1 => ?_⟩⟩
    · rw [if_neg (fun z => by have := q.2.2.2.2.1 z.2.1; omega), Int.add_zero] at nxt
      exact nxt
    · rw [if_pos ⟨z1, by by_cases y : dnV V c t < 0; (have := q.2.2.2.1 y; omega); (have := q.2.2.2.2.1 (by omega); omega)⟩] at nxt
      exact nxt
    · rw [if_neg (fun z => z1 z.1), Int.add_zero] at nxt
      exact nxt
theorem bx_doneBy (hv : voV V) (hd : dX M V) (c0 : 0 ≤ c) (c1 : c < 10) (hb : qR b) (d0 : 0 ≤ day) (d1 : day ≤ 999) : qOk g (d + 1) j_X2_doneBy [.inr 51, .inl c, .inl b, .inl day] M (qI fun x M1 => M1 = M ∧ x = nbF (dnV V c) b day 10) :=
  e_X2_doneBy (by omega) hb (by omega) (fun C hC hQ => lx_dby hv hd c0 c1 hb d0 d1 hC hQ ⟨rfl, rfl⟩ 10 0 (by omega))
theorem lx_all {K : Int → qM → Prop} (hv : voV V) (hd : dX M V) (c0 : 0 ≤ c) (c1 : c < 10) (hb : qR b) (hC : qCk g C cX2_allFrom RX2 5 (d + 1)) (hQ : qRt g C (some .int) (qI K)) (hK : K (aF (dnV V c) b 10) M) :
    ∀ (k t : Nat), t + k = 10 → qW g C 5 [some (.inr 51), some (.inl c), some (.inl b), some (.inl (aF (dnV V c) b t)), some (.inl (t : Int))] [] M := by
  intro k
  induction k with
  | zero =>
    intro t h1
    have e : t = 10 := by omega
    subst e
    have := aF_r (f := dnV V c) (b := b) (dn_r hv) 10
    exact s_X2_allFrom_5 hC hQ (by omega) hb (by omega) (by decide) ⟨fun _ => hK, fun z => absurd z (by decide)⟩
  | succ k ih =>
    intro t h1
    have q := dX_n hv hd c0 c1 t (by omega)
    have r := aF_r (f := dnV V c) (b := b) (dn_r hv) t
    have nxt := ih (t + 1) (by omega)
    rw [show ((t + 1 : Nat) : Int) = (t : Int) + 1 by omega] at nxt
    simp only [aF] at nxt
    refine s_X2_allFrom_5 hC hQ (by omega) hb (by omega) (by omega) ⟨fun z => by omega, fun _ => ⟨fun z1 => ⟨by omega, ?_⟩, fun z1 => ?_⟩⟩
    · rw [if_pos (show qAnd (qShr b t) 1 = 1 from z1)] at nxt
      rw [q.1]
      exact nxt
    · rw [if_neg (show ¬ qAnd (qShr b t) 1 = 1 from z1)] at nxt
      exact nxt
theorem bx_allFrom (hv : voV V) (hd : dX M V) (c0 : 0 ≤ c) (c1 : c < 10) (hb : qR b) : qOk g (d + 1) j_X2_allFrom [.inr 51, .inl c, .inl b] M (qI fun x M1 => M1 = M ∧ x = aF (dnV V c) b 10) :=
  e_X2_allFrom (by omega) hb (fun C hC hQ => lx_all hv hd c0 c1 hb hC hQ ⟨rfl, rfl⟩ 10 0 (by omega))
theorem lx_some {K : Int → qM → Prop} (hv : voV V) (hd : dX M V) (c0 : 0 ≤ c) (c1 : c < 10) (hb : qR b) (hw : qR w) (hC : qCk g C cX2_someFrom RX2 7 (d + 2)) (hQ : qRt g C (some .int) (qI K)) (hK : K (sF (dnV V c) b w 10) M) :
    ∀ (k t : Nat), t + k = 10 → qW g C 14 [some (.inr 51), some (.inl c), some (.inl b), some (.inl w), some (.inl (sF (dnV V c) b w t)), some (.inl (t : Int)), none] [] M := by
  have sr : ∀ n, qR (sF (dnV V c) b w n) := fun n => by
    obtain ⟨a1, a2, -⟩ := sF_c (f := dnV V c) (b := b) (w := w) (dn_r hv) n
    rcases a2 with a2 | a2 <;> omega
  intro k
  induction k with
  | zero =>
    intro t h1
    have e : t = 10 := by omega
    subst e
    exact s_X2_someFrom_14 hC hQ (by omega) hb hw (sr _) (by decide) ⟨fun _ => hK, fun z => absurd z (by decide)⟩
  | succ k ih =>
    intro t h1
    have q := dX_n hv hd c0 c1 t (by omega)
    obtain ⟨a1, a2, -⟩ := sF_c (f := dnV V c) (b := b) (w := w) (dn_r hv) t
    have nxt := ih (t + 1) (by omega)
    rw [show ((t + 1 : Nat) : Int) = (t : Int) + 1 by omega] at nxt
    simp only [sF] at nxt
    refine s_X2_someFrom_14 hC hQ (by omega) hb hw (sr _) (by omega) ⟨fun z => by omega, fun _ => ⟨by omega, fun z1 => ⟨fun z2 => ?_, fun z2 => ?_⟩, fun z1 => ?_⟩⟩
    · rw [if_neg (fun z => by omega)] at nxt
      exact nxt
    · rw [q.1] at z2 ⊢
      refine (bx_doneBy hv hd c0 c1 hb q.2.1 (by omega)).monoI (fun x M1 _ _ hx => ?_)
      obtain ⟨rfl, rfl⟩ := hx
      refine ⟨fun z3 => ?_, fun z3 => ?_⟩
      · rw [if_neg (fun z => by omega)] at nxt
        exact nxt
      · rw [if_pos ⟨z1, z2, z3⟩] at nxt
        exact nxt
    · rw [if_neg (fun z => z1 z.1)] at nxt
      exact nxt
theorem bx_someFrom (hv : voV V) (hd : dX M V) (c0 : 0 ≤ c) (c1 : c < 10) (hb : qR b) (hw : qR w) (w0 : 0 ≤ w) : qOk g (d + 2) j_X2_someFrom [.inr 51, .inl c, .inl b, .inl w] M (qI fun x M1 => M1 = M ∧ x = nvF (doF (dnV V c) b w)) := by
  refine e_X2_someFrom (by omega) hb hw (fun C hC hQ => ⟨fun z => lx_some hv hd c0 c1 hb hw hC hQ ⟨rfl, (do_some (dn_r hv) (by omega)).symm⟩ 10 0 (by omega), fun z => ⟨rfl, ?_⟩⟩)
  unfold doF
  rw [if_pos z, nv_p (by decide)]
theorem bx_readBadge {i : Int} {h : Int → Int} (hv : voV V) (hb : bkV (bv M 1) V) (hd : dX M V) (c0 : 0 ≤ c) (c1 : c < V 0 0) (i0 : 0 ≤ i) (i1 : i < V 0 4) (hh : ∀ j, -1 ≤ h j ∧ h j ≤ 999) (hj : ∀ j, 0 ≤ j → j < i → M 53 j = nvF (h j)) :
    qOk g (d + 3) j_X2_readBadge [.inr 51, .inr 1, .inl c, .inl i] M (qI fun x M1 => M1 = M ∧ x = nvF (hbV V (dnV V c) h c i)) := by
  obtain ⟨hvn, vC, vL, vT, vB, vS, vW⟩ := id hv
  obtain ⟨b0, b1, b2, b3, b4⟩ := bk_b hb i0 i1
  have e3 := (bk_c hb c0 c1).1
  have a := vB i i0 i1
  refine e_X2_readBadge (by omega) (by omega) ⟨by omega, by omega, fun z => ?_, fun z => ⟨rfl, ?_⟩⟩
  · rw [b0]
    refine (bx_allFrom hv hd c0 (by omega) (by omega)).monoI (fun x M1 _ _ hx => ?_)
    obtain ⟨rfl, rfl⟩ := hx
    rw [b1, b2]
    refine (bx_someFrom hv hd c0 (by omega) (by omega) (by omega) (by omega)).monoI (fun x M2 _ _ hx => ?_)
    obtain ⟨rfl, rfl⟩ := hx
    rw [b4]
    have hage : V 8 (5 * i + 3) ≤ V 1 c := by omega
    refine ⟨by omega, fun y => ⟨rfl, ?_⟩, fun y => ⟨rfl, ?_⟩⟩
    · unfold hbV
      rw [if_pos hage, if_pos (by omega), nv_lt (do_r _ _ _) (do_r _ _ _), do_all (dn_r hv)]
      have r1 := aF_r (f := dnV V c) (b := V 8 (5 * i)) (dn_r hv) 10
      omega
    · unfold hbV
      rw [if_pos hage, if_neg (by omega), nv_lt (lt_r (do_r _ _ _) (do_r _ _ _)) (hh _), nv_lt (do_r _ _ _) (do_r _ _ _), do_all (dn_r hv), hj _ (by omega) (by omega)]
  · unfold hbV
    rw [if_neg (by omega)]
    rfl
theorem lx_rh2 {M0 : qM} {K : qM → Prop} (hv : voV V) (hb : bkV (bv M0 1) V) (hd : dX M0 V) (c0 : 0 ≤ c) (c1 : c < V 0 0) (hC : qCk g C cX2_readHeld RX2 4 (d + 4)) (hQ : qRt g C none (qN K))
    (hK : ∀ M' : qM, (∀ k, k ≠ 53 → M' k = M0 k) → (∀ j, 0 ≤ j → j < V 0 4 → M' 53 j = nvF (hdV V c j)) → K M') :
    ∀ (k : Nat) (i : Int) (M : qM), 0 ≤ i → i + k = V 0 4 → (∀ k, k ≠ 53 → M k = M0 k) → (∀ j, 0 ≤ j → j < i → M 53 j = nvF (htV V c i.toNat j)) → qW g C 2 [some (.inr 51), some (.inr 1), some (.inl c), some (.inl i)] [] M := by
  obtain ⟨hvn, -⟩ := id hv
  intro k
  induction k with
  | zero =>
    intro i M h0 h1 hf hj
    have e0 := bk_nB (bk_fr hb (M1 := M) (fun k hk => hf k (by omega)))
    refine s_X2_readHeld_2 hC hQ (by omega) (by omega) ⟨fun _ => hK M hf ?_, fun z => by omega⟩
    unfold hdV
    rw [show (V 0 4).toNat = i.toNat by omega]
    exact fun j j0 j1 => hj j j0 (by omega)
  | succ k ih =>
    intro i M h0 h1 hf hj
    have hb' := bk_fr hb (M1 := M) (fun k hk => hf k (by omega))
    have e0 := bk_nB hb'
    have hd' : dX M V := fun c c0 c1 j j0 j1 => by rw [hf 52 (by decide)]; exact hd c c0 c1 j j0 j1
    refine s_X2_readHeld_2 hC hQ (by omega) (by omega) ⟨fun z => by omega, fun _ => ?_⟩
    refine (bx_readBadge hv hb' hd' c0 c1 h0 (by omega) (ht_r i.toNat) hj).monoI (fun x M1 _ _ hx => ?_)
    obtain ⟨rfl, rfl⟩ := hx
    refine ⟨by omega, ih (i + 1) _ (by omega) (by omega) (fun k hk => by rw [qU_f hk]; exact hf k hk) (fun j j0 j1 => ?_)⟩
    rw [show (i + 1).toNat = i.toNat + 1 by omega]
    show _ = nvF (fU (htV V c i.toNat) (i.toNat : Nat) _ j)
    have ec : ((i.toNat : Nat) : Int) = i := by omega
    rw [ec]
    by_cases z : j = i
    · subst z; rw [qU_s, fU_s]
    · rw [qU_i z, fU_n z]; exact hj j j0 (by omega)
theorem bx_readHeld (hv : voV V) (hb : bkV (bv M 1) V) (hd : dX M V) (c0 : 0 ≤ c) (c1 : c < V 0 0) : qOk g (d + 4) j_X2_readHeld [.inr 51, .inr 1, .inl c] M (qN fun M1 => (∀ k, k ≠ 53 → M1 k = M k) ∧ ∀ j, 0 ≤ j → j < V 0 4 → M1 53 j = nvF (hdV V c j)) := by
  obtain ⟨hvn, -⟩ := id hv
  exact e_X2_readHeld (by omega) (fun C hC hQ => lx_rh2 hv hb hd c0 c1 hC hQ (fun M' h1 h2 => ⟨h1, h2⟩) (V 0 4).toNat 0 M (by omega) (by omega) (fun _ _ => rfl) (fun j j0 j1 => by omega))
theorem nh_r (h : Int → Int) (day : Int) : ∀ n : Nat, 0 ≤ nhF h day n ∧ nhF h day n ≤ n
  | 0 => by simp [nhF]
  | n + 1 => by
    have := nh_r h day n
    simp only [nhF]
    split <;> omega
theorem lx_ch {K : Int → qM → Prop} (hv : voV V) (hb : bkV (bv M 1) V) (d0 : 0 ≤ day) (d1 : day ≤ 999) (hC : qCk g C cX2_countHeld RX2 5 d) (hQ : qRt g C (some .int) (qI K)) (hj : ∀ j, 0 ≤ j → j < V 0 4 → M 53 j = nvF (hdV V c j)) (hK : K (nhF (hdV V c) day (V 0 4).toNat) M) :
    ∀ (k i : Nat), (i : Int) + k = V 0 4 → qW g C 5 [some (.inr 51), some (.inr 1), some (.inl day), some (.inl (nhF (hdV V c) day i)), some (.inl (i : Int))] [] M := by
  obtain ⟨hvn, -⟩ := id hv
  have e0 := bk_nB hb
  intro k
  induction k with
  | zero =>
    intro i h1
    have r := nh_r (hdV V c) day i
    rw [show (V 0 4).toNat = i by omega] at hK
    exact s_X2_countHeld_5 hC hQ (by omega) (by omega) (by omega) ⟨fun _ => hK, fun z => by omega⟩
  | succ k ih =>
    intro i h1
    have r := nh_r (hdV V c) day i
    have nxt := ih (i + 1) (by omega)
    rw [show ((i + 1 : Nat) : Int) = (i : Int) + 1 by omega] at nxt
    simp only [nhF] at nxt
    have q := hj i (by omega) (by omega)
    have u := nvF_r (hd_r (V := V) (c := c) i)
    refine s_X2_countHeld_5 hC hQ (by omega) (by omega) (by omega) ⟨fun z => by omega, fun _ => ⟨by omega, fun z2 => ?_, fun z2 => ?_⟩⟩
    · rw [if_neg (fun z => by have := u.2.2.2 z.1; omega), Int.add_zero] at nxt
      exact nxt
    · rw [if_pos (by by_cases y : hdV V c i < 0; (have := u.2.2.1 y; omega); (have := u.2.2.2 (by omega); omega))] at nxt
      exact nxt
theorem bx_countHeld {c : Int} (hv : voV V) (hb : bkV (bv M 1) V) (hj : ∀ j, 0 ≤ j → j < V 0 4 → M 53 j = nvF (hdV V c j)) (d0 : 0 ≤ day) (d1 : day ≤ 999) : qOk g d j_X2_countHeld [.inr 51, .inr 1, .inl day] M (qI fun x M1 => M1 = M ∧ x = nhF (hdV V c) day (V 0 4).toNat) := by
  obtain ⟨hvn, -⟩ := id hv
  refine e_X2_countHeld (by omega) (fun C hC hQ => ?_)
  exact lx_ch hv hb d0 d1 hC hQ hj ⟨rfl, rfl⟩ (V 0 4).toNat 0 (by omega)
/-- the badges held of all children -/
def naV (V : qM) : Nat → Int
  | 0 => 0
  | c + 1 => naV V c + nhF (hdV V c) 999 (V 0 4).toNat
theorem na_r {V : qM} (hv : voV V) : ∀ n : Nat, 0 ≤ naV V n ∧ naV V n ≤ 8 * n
  | 0 => by simp [naV]
  | n + 1 => by
    have := na_r hv n
    have r := nh_r (hdV V n) 999 (V 0 4).toNat
    have hvn := hv.1
    simp only [naV]
    omega
theorem lx_cha {M0 : qM} {K : Int → qM → Prop} (hv : voV V) (hb : bkV (bv M0 1) V) (hd : dX M0 V) (hC : qCk g C cX2_countHeldOfAll RX2 4 (d + 5)) (hQ : qRt g C (some .int) (qI K)) (hK : ∀ M' : qM, (∀ k, k ≠ 53 → M' k = M0 k) → K (naV V (V 0 0).toNat) M') :
    ∀ (k i : Nat) (M : qM), (i : Int) + k = V 0 0 → (∀ k, k ≠ 53 → M k = M0 k) → qW g C 4 [some (.inr 51), some (.inr 1), some (.inl (naV V i)), some (.inl (i : Int))] [] M := by
  obtain ⟨hvn, -⟩ := id hv
  intro k
  induction k with
  | zero =>
    intro i M h1 hf
    have e0 := bk_nC (bk_fr hb (M1 := M) (fun k hk => hf k (by omega)))
    have r := na_r hv i
    have hk := hK M hf
    rw [show (V 0 0).toNat = i by omega] at hk
    exact s_X2_countHeldOfAll_4 hC hQ (by omega) (by omega) ⟨fun _ => hk, fun z => by omega⟩
  | succ k ih =>
    intro i M h1 hf
    have hb' := bk_fr hb (M1 := M) (fun k hk => hf k (by omega))
    have e0 := bk_nC hb'
    have r := na_r hv i
    have hd' : dX M V := fun c c0 c1 j j0 j1 => by rw [hf 52 (by decide)]; exact hd c c0 c1 j j0 j1
    refine s_X2_countHeldOfAll_4 hC hQ (by omega) (by omega) ⟨fun z => by omega, fun _ => ?_⟩
    refine (bx_readHeld hv hb' hd' (by omega) (by omega)).monoN (fun M1 _ h2 => ?_)
    refine (bx_countHeld hv (bk_fr hb' (fun k hk => h2.1 k (by omega))) h2.2 (by decide) (by decide)).monoI (fun x M2 _ _ hx => ?_)
    obtain ⟨rfl, rfl⟩ := hx
    exact ih (i + 1) M2 (by omega) (fun k hk => by rw [h2.1 k hk]; exact hf k hk)
theorem bx_countHeldOfAll (hv : voV V) (hb : bkV (bv M 1) V) (hd : dX M V) : qOk g (d + 5) j_X2_countHeldOfAll [.inr 51, .inr 1] M (qI fun x M1 => (∀ k, k ≠ 53 → M1 k = M k) ∧ x = naV V (V 0 0).toNat) := by
  obtain ⟨hvn, -⟩ := id hv
  exact e_X2_countHeldOfAll (fun C hC hQ => lx_cha hv hb hd hC hQ (fun M' h => ⟨h, rfl⟩) (V 0 0).toNat 0 M (by omega) (fun _ _ => rfl))
/-- the signatures that count -/
def ncV (V : qM) : Nat → Int
  | 0 => 0
  | s + 1 => ncV V s + (if ctV V (dnV V (V 9 (5 * s))) s then 1 else 0)
theorem nc_r {V : qM} : ∀ n : Nat, 0 ≤ ncV V n ∧ ncV V n ≤ n
  | 0 => by simp [ncV]
  | n + 1 => by
    have := nc_r (V := V) n
    rw [ncV]
    split <;> omega
theorem dX_s (hv : voV V) (hd : dX M V) {s : Int} (s0 : 0 ≤ s) (s1 : s < V 0 3) : 0 ≤ V 7 (tkV V s) → M 52 (V 9 (5 * s) * 10 + V 7 (tkV V s)) = nvF (dnV V (V 9 (5 * s)) (V 7 (tkV V s))) := by
  intro z
  obtain ⟨hvn, vC, vL, vT, vB, vS, vW⟩ := id hv
  have a1 := vS s s0 s1
  have a2 := vT (V 9 (5 * s + 1)) a1.2.1.1 a1.2.1.2
  exact hd _ a1.1.1 (by omega) _ z (by simp only [tkV]; omega)
theorem lx_cc {K : Int → qM → Prop} (hv : voV V) (hb : bkV (bv M 1) V) (hd : dX M V) (hC : qCk g C cX2_countCounting RX2 4 (d + 2)) (hQ : qRt g C (some .int) (qI K)) (hK : K (ncV V (V 0 3).toNat) M) :
    ∀ (k i : Nat), (i : Int) + k = V 0 3 → qW g C 4 [some (.inr 51), some (.inr 1), some (.inl (ncV V i)), some (.inl (i : Int))] [] M := by
  obtain ⟨hvn, -⟩ := id hv
  have e0 := bk_nS hb
  intro k
  induction k with
  | zero =>
    intro i h1
    have r := nc_r (V := V) i
    rw [show (V 0 3).toNat = i by omega] at hK
    exact s_X2_countCounting_4 hC hQ (by omega) (by omega) ⟨fun _ => hK, fun z => by omega⟩
  | succ k ih =>
    intro i h1
    have r := nc_r (V := V) i
    have nxt := ih (i + 1) (by omega)
    rw [show ((i + 1 : Nat) : Int) = (i : Int) + 1 by omega, ncV] at nxt
    refine s_X2_countCounting_4 hC hQ (by omega) (by omega) ⟨fun z => by omega, fun _ => ?_⟩
    refine (bx_counts hv hb (by omega) (by omega) (dX_s hv hd (by omega) (by omega))).monoI (fun x M1 _ _ hx => ?_)
    obtain ⟨rfl, hx⟩ := hx
    refine ⟨fun z => ?_, fun z => ?_⟩
    · rw [if_neg (by rcases hx with hx | hx; omega; exact hx.2), Int.add_zero] at nxt
      exact nxt
    · rw [if_pos (by rcases hx with hx | hx; exact hx.2; omega)] at nxt
      exact nxt
theorem bx_countCounting (hv : voV V) (hb : bkV (bv M 1) V) (hd : dX M V) : qOk g (d + 2) j_X2_countCounting [.inr 51, .inr 1] M (qI fun x M1 => M1 = M ∧ x = ncV V (V 0 3).toNat) := by
  obtain ⟨hvn, -⟩ := id hv
  exact e_X2_countCounting (fun C hC hQ => lx_cc hv hb hd hC hQ ⟨rfl, rfl⟩ (V 0 3).toNat 0 (by omega))
end HELDX
