/-! THE STATE as a mathematical value V (thirteen rows, as the reference has them), and what the calls answer of it -/
def fU (f : Int → Int) (i v : Int) : Int → Int := fun j => if j = i then v else f j
theorem fU_s {f : Int → Int} {i v : Int} : fU f i v i = v := by simp [fU]
theorem fU_n {f : Int → Int} {i j v : Int} (h : j ≠ i) : fU f i v j = f j := by simp [fU, h]
theorem fU_a (f : Int → Int) (i v j : Int) : fU f i v j = if j = i then v else f j := rfl
theorem qU_f {M : qM} {k a : Nat} {i v : Int} (h : a ≠ k) : qU M k i v a = M a := funext fun j => qU_k h j
theorem qU_g {M : qM} {k : Nat} {i v : Int} : qU M k i v k = fU (M k) i v := by
  funext j
  by_cases h : j = i
  · subst h; rw [qU_s, fU_s]
  · rw [qU_i h, fU_n h]
def fC (f g : Int → Int) (n : Int) : Int → Int := fun j => if 0 ≤ j ∧ j < n then f j else g j
theorem fC_a (f g : Int → Int) (n j : Int) : fC f g n j = if 0 ≤ j ∧ j < n then f j else g j := rfl
theorem qCp_f {M : qM} {a b k : Nat} {n : Int} (h : k ≠ b) : qCp M a b n k = M k := funext fun j => by unfold qCp; rw [if_neg (fun z => h z.1)]
theorem qCp_g {M : qM} {a b : Nat} {n : Int} : qCp M a b n b = fC (M a) (M b) n := funext fun j => by
  unfold qCp fC
  by_cases h : 0 ≤ j ∧ j < n
  · rw [if_pos ⟨rfl, h⟩, if_pos h]
  · rw [if_neg (fun z => h z.2), if_neg h]
-- counts
def cP (f : Int → Int) (p : Int) : Nat → Int
  | 0 => 0
  | n + 1 => cP f p n + (if f n = p then 1 else 0)
def szV (V : qM) (p : Int) : Int := cP (V 2) p (V 0 0).toNat
def rmF (f : Int → Int) (w rt : Int) : Nat → Int
  | 0 => 0
  | n + 1 => rmF f w rt n + (if qAnd (qShr (f n) w) 1 = 1 then rt else 0)
def rmV (V : qM) (rt w : Int) : Int := rmF (V 5) w rt (V 0 1).toNat
-- signatures that count, tasks that are done
abbrev tkV (V : qM) (s : Int) : Int := V 9 (5 * s + 1)
abbrev dyV (V : qM) (s : Int) : Int := V 9 (5 * s + 3)
abbrev ppV (V : qM) (s : Int) : Int := 4 * V 9 (5 * s + 2) + V 6 (tkV V s)
abbrev gdV (V : qM) (s : Int) : Prop := V 9 (5 * s + 4) = 0 ∧ 0 ≤ V 3 (ppV V s) ∧ V 3 (ppV V s) ≤ dyV V s ∧ dyV V s ≤ V 4 (ppV V s)
abbrev ctV (V : qM) (f : Int → Int) (s : Int) : Prop := gdV V s ∧ (V 7 (tkV V s) < 0 ∨ (0 ≤ f (V 7 (tkV V s)) ∧ f (V 7 (tkV V s)) ≤ dyV V s))
def dvV (V : qM) (f : Int → Int) (c t : Int) : Nat → Int
  | 0 => -1
  | s + 1 => if (V 9 (5 * s) = c ∧ tkV V s = t ∧ ctV V f s) ∧ (dvV V f c t s < 0 ∨ dyV V s < dvV V f c t s) then dyV V s else dvV V f c t s
def dtV (V : qM) (c : Int) : Nat → Int → Int
  | 0 => fun _ => -1
  | t + 1 => fU (dtV V c t) t (dvV V (dtV V c t) c t (V 0 3).toNat)
def dnV (V : qM) (c : Int) : Int → Int := dtV V c (V 0 2).toNat
-- badges that are held
def nbF (f : Int → Int) (b day : Int) : Nat → Int
  | 0 => 0
  | t + 1 => nbF f b day t + (if qAnd (qShr b t) 1 = 1 ∧ 0 ≤ f t ∧ f t ≤ day then 1 else 0)
def dsF (f : Int → Int) (b n : Int) : Nat → Int → Int
  | 0, _ => -1
  | k + 1, day => if n ≤ nbF f b day 10 then day else dsF f b n k (day + 1)
def doF (f : Int → Int) (b n : Int) : Int := if n = 0 then 0 else dsF f b n 1000 0
def onF (b : Int) : Nat → Int
  | 0 => 0
  | k + 1 => onF b k + qAnd (qShr b k) 1
def ltF (a b : Int) : Int := if a < 0 ∨ b < 0 then -1 else max a b
def hbV (V : qM) (f h : Int → Int) (c b : Int) : Int :=
  if V 8 (5 * b + 3) ≤ V 1 c then
    (if V 8 (5 * b + 4) < 0 then ltF (doF f (V 8 (5 * b)) (onF (V 8 (5 * b)) 10)) (doF f (V 8 (5 * b + 1)) (V 8 (5 * b + 2)))
     else ltF (ltF (doF f (V 8 (5 * b)) (onF (V 8 (5 * b)) 10)) (doF f (V 8 (5 * b + 1)) (V 8 (5 * b + 2)))) (h (V 8 (5 * b + 4)))) else -1
def htV (V : qM) (c : Int) : Nat → Int → Int
  | 0 => fun _ => -1
  | b + 1 => fU (htV V c b) b (hbV V (dnV V c) (htV V c b) c b)
def hdV (V : qM) (c : Int) : Int → Int := htV V c (V 0 4).toNat
/-- how many of the first n badges are held on a day -/
def nhF (h : Int → Int) (day : Int) : Nat → Int
  | 0 => 0
  | b + 1 => nhF h day b + (if 0 ≤ h b ∧ h b ≤ day then 1 else 0)
-- the plan: choices are lists of places 0 to 14, 15 for none
abbrev pX : Type := (Int → Int) × (Int → Int) × Int × (Int → Int) × (Int → Int) × (Int → Int)
/-- (sizes, room, sites, beds, woods, wishes) -/
def pxV (V : qM) (rt : Int) : pX := (szV V, rmV V rt, V 0 5, V 10, V 11, V 12)
/-- patrol (length of l) may go to v beside the ones in l -/
def okO (x : pX) (v o : Int) : Bool := decide (o ≠ v) && !(decide (o ≠ 15) && decide (o % 3 = v % 3) && decide (x.2.2.2.2.1 (v % 3) = 1) && (decide (o / 3 - v / 3 = 1) || decide (o / 3 - v / 3 = -1)))
def awL (sz : Int → Int) (w : Int) : Int → List Int → Int
  | _, [] => 0
  | i, o :: r => (if o ≠ 15 ∧ o / 3 = w then sz i else 0) + awL sz w (i + 1) r
def okP (x : pX) (l : List Int) (v : Int) : Bool := decide (v = 15) ||
  (decide (0 < x.1 l.length) && decide (v % 3 < x.2.2.1) && decide (x.1 l.length ≤ x.2.2.2.1 (v % 3)) && l.all (okO x v) && decide (x.1 l.length + awL x.1 (v / 3) 0 l ≤ x.2.1 (v / 3)))
/-- all plans that go on from l, in their order -/
def cpL (x : pX) : Nat → List Int → List (List Int)
  | 0, l => [l]
  | k + 1, l => (List.range 16).flatMap (fun v : Nat => if okP x l (v : Int) then cpL x k (l ++ [(v : Int)]) else [])
def woL (w : Int → Int) : Int → List Int → Int
  | _, [] => 0
  | i, o :: r => (if o = 15 then 0 else w (15 * i + o)) + woL w (i + 1) r
def nuL : List Int → Int
  | [] => 0
  | o :: r => (if o = 15 then 0 else 1) + nuL r
def stP (x : pX) (b : Int × Int × List Int) (l : List Int) : Int × Int × List Int :=
  if b.1 < woL x.2.2.2.2.2 0 l ∨ (woL x.2.2.2.2.2 0 l = b.1 ∧ nuL l < b.2.1) then (woL x.2.2.2.2.2 0 l, nuL l, l) else b
def plF (x : pX) : Int × Int × List Int := (cpL x 4 []).foldl (stP x) (-1, 0, [])
-- what V keeps to
abbrev voN (V : qM) : Prop := (0 ≤ V 0 0 ∧ V 0 0 ≤ 10) ∧ (0 ≤ V 0 1 ∧ V 0 1 ≤ 5) ∧ (0 ≤ V 0 2 ∧ V 0 2 ≤ 10) ∧ (0 ≤ V 0 3 ∧ V 0 3 ≤ 80) ∧ (0 ≤ V 0 4 ∧ V 0 4 ≤ 8) ∧ (0 ≤ V 0 5 ∧ V 0 5 ≤ 3)
def voC (n : Int) (ag pt : Int → Int) : Prop := ∀ c, 0 ≤ c → c < n → (6 ≤ ag c ∧ ag c ≤ 18) ∧ (0 ≤ pt c ∧ pt c ≤ 3)
def voL (n : Int) (pf pt fr : Int → Int) : Prop := (∀ j, 0 ≤ j → j < 4 * n → (-1 ≤ pf j ∧ pf j ≤ 999) ∧ (0 ≤ pf j → 0 ≤ pt j ∧ pt j ≤ 999)) ∧ ∀ l, 0 ≤ l → l < n → 0 ≤ fr l ∧ fr l ≤ 31
def voT (n : Int) (so le : Int → Int) : Prop := ∀ t, 0 ≤ t → t < n → (0 ≤ so t ∧ so t ≤ 3) ∧ (-1 ≤ le t ∧ le t < t)
def voB (n : Int) (b : Int → Int) : Prop := ∀ i, 0 ≤ i → i < n → (0 ≤ b (5 * i) ∧ b (5 * i) ≤ 1023) ∧ (0 ≤ b (5 * i + 1) ∧ b (5 * i + 1) ≤ 1023) ∧ (0 ≤ b (5 * i + 2) ∧ b (5 * i + 2) ≤ 10) ∧ (6 ≤ b (5 * i + 3) ∧ b (5 * i + 3) ≤ 18) ∧ (-1 ≤ b (5 * i + 4) ∧ b (5 * i + 4) < i)
def voS (nc nt nl n : Int) (s : Int → Int) : Prop := ∀ i, 0 ≤ i → i < n → (0 ≤ s (5 * i) ∧ s (5 * i) < nc) ∧ (0 ≤ s (5 * i + 1) ∧ s (5 * i + 1) < nt) ∧ (0 ≤ s (5 * i + 2) ∧ s (5 * i + 2) < nl) ∧ (0 ≤ s (5 * i + 3) ∧ s (5 * i + 3) ≤ 999) ∧ (s (5 * i + 4) = 0 ∨ s (5 * i + 4) = 1)
def voW (n : Int) (be wo wi : Int → Int) : Prop := (∀ i, 0 ≤ i → i < n → (1 ≤ be i ∧ be i ≤ 10) ∧ (wo i = 0 ∨ wo i = 1)) ∧ ∀ j, 0 ≤ j → j < 60 → 0 ≤ wi j ∧ wi j ≤ 9
def voV (V : qM) : Prop := voN V ∧ voC (V 0 0) (V 1) (V 2) ∧ voL (V 0 1) (V 3) (V 4) (V 5) ∧ voT (V 0 2) (V 6) (V 7) ∧ voB (V 0 4) (V 8) ∧ voS (V 0 0) (V 0 2) (V 0 1) (V 0 3) (V 9) ∧ voW (V 0 5) (V 10) (V 11) (V 12)
-- the class's book (rows B 0 to 24) holds V
def bkC (n : Int) (ag pt : Int → Int) (n' : Int) (ag' pt' : Int → Int) : Prop := n = n' ∧ ∀ c, 0 ≤ c → c < n' → ag c = ag' c ∧ pt c = pt' c
def bkL (n : Int) (pf pt fr : Int → Int) (n' : Int) (pf' pt' fr' : Int → Int) : Prop := n = n' ∧ (∀ j, 0 ≤ j → j < 4 * n' → pf j = pf' j ∧ (pf' j < 0 → pt j = -1) ∧ (0 ≤ pf' j → pt j = pt' j)) ∧ (∀ j, 4 * n' ≤ j → j < 20 → pf j = -1 ∧ pt j = -1) ∧ (∀ l, 0 ≤ l → l < n' → fr l = fr' l) ∧ ∀ l, n' ≤ l → l < 5 → fr l = 0
def bkT (n : Int) (so le : Int → Int) (n' : Int) (so' le' : Int → Int) : Prop := n = n' ∧ ∀ t, 0 ≤ t → t < n' → so t = so' t ∧ le t = le' t
def bkB (n : Int) (b0 b1 b2 b3 b4 : Int → Int) (n' : Int) (b : Int → Int) : Prop := n = n' ∧ ∀ i, 0 ≤ i → i < n' → b0 i = b (5 * i) ∧ b1 i = b (5 * i + 1) ∧ b2 i = b (5 * i + 2) ∧ b3 i = b (5 * i + 3) ∧ b4 i = b (5 * i + 4)
def bkS (n : Int) (s0 s1 s2 s3 s4 : Int → Int) (n' : Int) (s : Int → Int) : Prop := n = n' ∧ (∀ i, 0 ≤ i → i < n' → s0 i = s (5 * i) ∧ s1 i = s (5 * i + 1) ∧ s2 i = s (5 * i + 2) ∧ s3 i = s (5 * i + 3) ∧ s4 i = s (5 * i + 4)) ∧ ∀ j, 0 ≤ j → j < 80 → s4 j = 0 ∨ s4 j = 1
def bkW (n : Int) (be wo wi : Int → Int) (n' : Int) (be' wo' wi' : Int → Int) : Prop := n = n' ∧ (∀ i, 0 ≤ i → i < n' → be i = be' i ∧ wo i = wo' i) ∧ (∀ j, 0 ≤ j → j < 3 → wo j = 0 ∨ wo j = 1) ∧ ∀ j, 0 ≤ j → j < 60 → wi j = wi' j
def bkV (B V : qM) : Prop := bkC (B 1 0) (B 2) (B 3) (V 0 0) (V 1) (V 2) ∧ bkL (B 1 3) (B 4) (B 5) (B 6) (V 0 1) (V 3) (V 4) (V 5) ∧ bkT (B 7 0) (B 8) (B 9) (V 0 2) (V 6) (V 7) ∧ bkB (B 7 3) (B 10) (B 11) (B 12) (B 13) (B 14) (V 0 4) (V 8) ∧
  bkS (B 15 0) (B 16) (B 17) (B 18) (B 19) (B 20) (V 0 3) (V 9) ∧ bkW (B 21 0) (B 22) (B 23) (B 24) (V 0 5) (V 10) (V 11) (V 12)
def bv (M : qM) (b : Nat) : qM := fun i => M (b + i)
/-- the planner's answer is the plan of x -/
def pcV (M : qM) (x : pX) : Prop := M 54 8 = (plF x).1 ∧ M 54 9 = (plF x).2.1 ∧ (∀ p : Nat, p < 4 → M 62 p = if (plF x).2.2.getD p 15 = 15 then -1 else (plF x).2.2.getD p 15) ∧ ∀ p : Nat, p < 4 → M 55 p = x.1 p
/-- the class's cells hold V, the kept Vk if kp, the ratio rt -/
def Xi (M V Vk : qM) (kp rt : Int) : Prop := bkV (bv M 1) V ∧ M 0 4 = kp ∧ (kp = 1 → bkV (bv M 26) Vk) ∧ M 0 6 = rt ∧ (M 0 5 = 0 ∨ M 0 5 = 1) ∧ (M 0 5 = 0 → pcV M (pxV V rt))
/-- where the rows stand in the reference's kept row -/
def koff : Nat → Int
  | 0 => 0 | 1 => 6 | 2 => 16 | 3 => 26 | 4 => 46 | 5 => 66 | 6 => 71 | 7 => 81 | 8 => 91 | 9 => 131 | 10 => 531 | 11 => 534 | _ => 537
def klen : Nat → Int
  | 0 => 6 | 1 => 10 | 2 => 10 | 3 => 20 | 4 => 20 | 5 => 5 | 6 => 10 | 7 => 10 | 8 => 40 | 9 => 400 | 10 => 3 | 11 => 3 | _ => 60
/-- V and W are alike in all places that there are -/
def sameV (V W : qM) : Prop := ∀ a : Nat, a < 13 → ∀ j, 0 ≤ j → j < klen a → V a j = W a j
def Mi (M V Vk : qM) (kp rt : Int) : Prop := (∀ a : Nat, a < 13 → M (64 + a) = V a) ∧ M 63 14 = kp ∧ (kp = 1 → ∀ a : Nat, a < 13 → ∀ j, 0 ≤ j → j < klen a → M 77 (koff a + j) = Vk a j) ∧ M 63 13 = rt
def Rel (M : qM) : Prop := ∃ (V Vk : qM) (kp rt : Int), (voV V ∧ (kp = 1 → voV Vk) ∧ (kp = 0 ∨ kp = 1) ∧ (1 ≤ rt ∧ rt ≤ 10)) ∧ Xi M V Vk kp rt ∧ Mi M V Vk kp rt
theorem bv_c {M M1 : qM} {b : Nat} (h : ∀ k, b ≤ k → k < b + 25 → M1 k = M k) {V : qM} (hb : bkV (bv M b) V) : bkV (bv M1 b) V := by
  have e : ∀ i, i < 25 → bv M1 b i = bv M b i := fun i hi => h (b + i) (by omega) (by omega)
  unfold bkV at hb ⊢
  simp only [e 1 (by decide), e 2 (by decide), e 3 (by decide), e 4 (by decide), e 5 (by decide), e 6 (by decide), e 7 (by decide), e 8 (by decide), e 9 (by decide), e 10 (by decide), e 11 (by decide), e 12 (by decide), e 13 (by decide), e 14 (by decide), e 15 (by decide), e 16 (by decide), e 17 (by decide), e 18 (by decide), e 19 (by decide), e 20 (by decide), e 21 (by decide), e 22 (by decide), e 23 (by decide), e 24 (by decide)]
  exact hb
theorem Xi.c {M M1 V Vk : qM} {kp rt : Int} (h : ∀ k, k < 63 → M1 k = M k) (hx : Xi M V Vk kp rt) : Xi M1 V Vk kp rt := by
  obtain ⟨h1, h2, h3, h4, h5, h6⟩ := hx
  refine ⟨bv_c (fun k _ _ => h k (by omega)) h1, by rw [h 0 (by decide)]; exact h2, fun e => bv_c (fun k _ _ => h k (by omega)) (h3 e), by rw [h 0 (by decide)]; exact h4, by rw [h 0 (by decide)]; exact h5, fun e => ?_⟩
  rw [h 0 (by decide)] at e
  obtain ⟨a1, a2, a3, a4⟩ := h6 e
  refine ⟨by rw [h 54 (by decide)]; exact a1, by rw [h 54 (by decide)]; exact a2, by rw [h 62 (by decide)]; exact a3, by rw [h 55 (by decide)]; exact a4⟩
theorem Mi.c {M M1 V Vk : qM} {kp rt : Int} (h : ∀ k, 63 ≤ k → M1 k = M k) (hx : Mi M V Vk kp rt) : Mi M1 V Vk kp rt := by
  obtain ⟨h1, h2, h3, h4⟩ := hx
  refine ⟨fun a ha => by rw [h _ (by omega)]; exact h1 a ha, by rw [h _ (by omega)]; exact h2, fun e => by rw [h _ (by omega)]; exact h3 e, by rw [h _ (by omega)]; exact h4⟩
/-- one call of the law: the class's contract and the reference's, tied by the same (answer, new state, new ratio) -/
theorem pairO {g : qG} {d d' : Nat} {jx jm : qj} {ax am : List qV} {M : qM} {o : qM → Int → Int × qM × Int} (hv : ∀ V rt, voV V → (1 ≤ rt ∧ rt ≤ 10) → voV (o V rt).2.1 ∧ (1 ≤ (o V rt).2.2 ∧ (o V rt).2.2 ≤ 10))
    (hx : ∀ (M V Vk : qM) (kp rt : Int), voV V → (1 ≤ rt ∧ rt ≤ 10) → Xi M V Vk kp rt → qOk g d jx ax M (qI fun r M1 => r = (o V rt).1 ∧ Xi M1 (o V rt).2.1 Vk kp (o V rt).2.2 ∧ ∀ k, 63 ≤ k → M1 k = M k))
    (hm : ∀ (M V Vk : qM) (kp rt : Int), voV V → (1 ≤ rt ∧ rt ≤ 10) → Mi M V Vk kp rt → qOk g d' jm am M (qI fun r M1 => r = (o V rt).1 ∧ Mi M1 (o V rt).2.1 Vk kp (o V rt).2.2 ∧ ∀ k, k < 63 → M1 k = M k))
    (h : Rel M) : qOk g d jx ax M (qI fun r M1 => qOk g d' jm am M1 (qI fun r2 M2 => r = r2 ∧ Rel M2)) := by
  obtain ⟨V, Vk, kp, rt, ⟨v1, v2, v3, v4⟩, h1, h2⟩ := h
  refine (hx M V Vk kp rt v1 v4 h1).monoI (fun r M1 _ _ hr => ?_)
  obtain ⟨e1, x1, f1⟩ := hr
  refine (hm M1 V Vk kp rt v1 v4 (h2.c f1)).monoI (fun r2 M2 _ _ hr2 => ?_)
  obtain ⟨e2, m2, f2⟩ := hr2
  exact ⟨by rw [e1, e2], _, Vk, kp, _, ⟨(hv V rt v1 v4).1, v2, v3, (hv V rt v1 v4).2⟩, x1.c f2, m2⟩
theorem qOk.kI {g : qG} {d : Nat} {j : qj} {av : List qV} {M : qM} {K : Int → qM → Prop} (h : ∀ K' : Int → qM → Prop, (∀ x M1, K x M1 → K' x M1) → qOk g d j av M (qI K')) : qOk g d j av M (qI K) := h K (fun _ _ q => q)
theorem qOk.kN {g : qG} {d : Nat} {j : qj} {av : List qV} {M : qM} {K : qM → Prop} (h : ∀ K' : qM → Prop, (∀ M1, K M1 → K' M1) → qOk g d j av M (qN K')) : qOk g d j av M (qN K) := h K (fun _ q => q)
section LEAVES
variable {M M1 V V' Vk : qM} {kp rt rt' r : Int} {o : Int × qM × Int}
theorem xr (e : o = (r, V, rt)) (h : Xi M V Vk kp rt) : r = o.1 ∧ Xi M o.2.1 Vk kp o.2.2 ∧ ∀ k, 63 ≤ k → M k = M k := by subst e; exact ⟨rfl, h, fun _ _ => rfl⟩
theorem mr (e : o = (r, V, rt)) (h : Mi M V Vk kp rt) : r = o.1 ∧ Mi M o.2.1 Vk kp o.2.2 ∧ ∀ k, k < 63 → M k = M k := by subst e; exact ⟨rfl, h, fun _ _ => rfl⟩
theorem xs (e : o = (r, V', rt')) (h : Xi M1 V' Vk kp rt') (hf : ∀ k, 63 ≤ k → M1 k = M k) : r = o.1 ∧ Xi M1 o.2.1 Vk kp o.2.2 ∧ ∀ k, 63 ≤ k → M1 k = M k := by subst e; exact ⟨rfl, h, hf⟩
theorem ms (e : o = (r, V', rt')) (h : Mi M1 V' Vk kp rt') (hf : ∀ k, k < 63 → M1 k = M k) : r = o.1 ∧ Mi M1 o.2.1 Vk kp o.2.2 ∧ ∀ k, k < 63 → M1 k = M k := by subst e; exact ⟨rfl, h, hf⟩
theorem Xi.new (h : Xi M V Vk kp rt) (hb : bkV (bv M1 1) V') (h0 : M1 0 = fU (M 0) 5 1) (hk : ∀ k, 26 ≤ k → k < 51 → M1 k = M k) : Xi M1 V' Vk kp rt := by
  obtain ⟨h1, h2, h3, h4, h5, h6⟩ := h
  refine ⟨hb, ?_, fun e => bv_c (fun k a b => hk k a (by omega)) (h3 e), ?_, ?_, ?_⟩
  · rw [h0, fU_n (by decide)]; exact h2
  · rw [h0, fU_n (by decide)]; exact h4
  · rw [h0, fU_s]; exact Or.inr rfl
  · rw [h0, fU_s]; intro e; cases e
theorem Xi.old (h : Xi M V Vk kp rt) (hb : bkV (bv M1 1) V') (h0 : M1 0 = M 0) (hk : ∀ k, 26 ≤ k → k < 63 → M1 k = M k) (hp : pxV V' rt = pxV V rt) : Xi M1 V' Vk kp rt := by
  obtain ⟨h1, h2, h3, h4, h5, h6⟩ := h
  refine ⟨hb, by rw [h0]; exact h2, fun e => bv_c (fun k a b => hk k a (by omega)) (h3 e), by rw [h0]; exact h4, by rw [h0]; exact h5, fun e => ?_⟩
  rw [h0] at e
  rw [hp]
  obtain ⟨a1, a2, a3, a4⟩ := h6 e
  exact ⟨by rw [hk 54 (by decide) (by decide)]; exact a1, by rw [hk 54 (by decide) (by decide)]; exact a2, by rw [hk 62 (by decide) (by decide)]; exact a3, by rw [hk 55 (by decide) (by decide)]; exact a4⟩
theorem miU {k : Nat} {i v : Int} (h : ∀ a : Nat, a < 13 → M (64 + a) = V a) : ∀ a : Nat, a < 13 → qU M (64 + k) i v (64 + a) = qU V k i v a := by
  intro a ha
  by_cases e : a = k
  · subst e; rw [qU_g, qU_g, h a ha]
  · rw [qU_f (by omega), qU_f e, h a ha]
theorem Mi.new (h : Mi M V Vk kp rt) (h1 : ∀ a : Nat, a < 13 → M1 (64 + a) = V' a) (h2 : M1 63 = M 63) (h3 : M1 77 = M 77) : Mi M1 V' Vk kp rt := by
  obtain ⟨a1, a2, a3, a4⟩ := h
  exact ⟨h1, by rw [h2]; exact a2, by rw [h3]; exact a3, by rw [h2]; exact a4⟩
theorem Mi.at (h : Mi M V Vk kp rt) (a : Nat) (ha : a < 13) : M (64 + a) = V a := h.1 a ha
theorem voV.n (h : voV V) : voN V := h.1
end LEAVES
