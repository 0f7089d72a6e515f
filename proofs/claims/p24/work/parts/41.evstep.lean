/-! the class looks at a step -/
/-- a frame stands at a step of an expression -/
def VE (S : Mm) (q : (Nat → Int) × (Nat → Int)) (k h : Nat) : Prop :=
  (k : Int) < S 0 19 ∧ q.1 5 = ((33 + 8 * k : Nat) : Int) ∧ q.1 3 = S 31 (q.1 2).toNat ∧ q.1 4 = (h : Int) ∧ h < 4 ∧ (0 ≤ q.1 6 ∧ q.1 6 < (eN S k : Int)) ∧
  (tkn (eK S k (q.1 6).toNat) = 0 ∨ (eK S k (q.1 6).toNat = 7 ∧ 1000 ≤ rdI q.2 (q.1 6) ∧ rdI q.2 (q.1 6) < 1000 + S 0 35))
def VF (S : Mm) (q : (Nat → Int) × (Nat → Int)) : Prop :=
  q.1 9 = 0 ∧ i32 (q.1 7) ∧ (0 ≤ q.1 0 ∧ q.1 0 < S 0 35) ∧ (0 ≤ q.1 1 ∧ q.1 1 < S 0 12) ∧ (0 ≤ q.1 2 ∧ q.1 2 < S 0 35) ∧ ((q.1 5 = -1 ∧ S 12 (q.1 1).toNat = 1) ∨ ∃ k h, VE S q k h)
/-- the equation of a frame -/
def fk (q : (Nat → Int) × (Nat → Int)) : Nat := ((q.1 5).toNat - 33) / 8
def lkQ (S : Mm) (q : (Nat → Int) × (Nat → Int)) : Int :=
  if q.1 5 = -1 then 6 * q.1 2 + q.1 1 else lkS S (q.1 2) (S 31 (q.1 2).toNat) (q.1 4).toNat (eK S (fk q) (q.1 6).toNat) (eA S (fk q) (q.1 6).toNat) (eB S (fk q) (q.1 6).toNat) (rdI q.2 (q.1 6))
def vlQ (S : Mm) (q : (Nat → Int) × (Nat → Int)) : Int :=
  lfV S (q.1 2) (S 31 (q.1 2).toNat) (q.1 4).toNat (eK S (fk q) (q.1 6).toNat) (eA S (fk q) (q.1 6).toNat) (eB S (fk q) (q.1 6).toNat)
theorem fk_of {S : Mm} {q : (Nat → Int) × (Nat → Int)} {k h : Nat} (hv : VE S q k h) : fk q = k := by
  unfold fk; rw [hv.2.1]; omega
/-- where a look leads -/
def bkF (bk : Nat) (S N : Mm) (s : Int) : Option (Int × Int) := Lm S N bk s.toNat
/-- what a look does to the memory -/
def LkR (S N : Mm) (bk r : Nat) (l : List Int) (s : Int) (N' : Mm) : Prop :=
  N' r = (Lm S N bk s.toNat).elim (N r) (fun x => se (N r) 7 (jor (N r 7) x.2)) ∧ (∀ j, j ≠ r → j ≠ 310 → j ≠ 311 → N' j = N j) ∧ (∀ i, i ≠ 0 → i ≠ 10 → N' 310 i = N 310 i) ∧ (Lm S N bk s.toNat = none → N' 310 10 = s) ∧ (N 310 11 ≠ 0 → N 310 9 = 1 → Lst N' (enl l s)) ∧ (¬ (N 310 11 ≠ 0 ∧ N 310 9 = 1) → N' 311 = N 311 ∧ N' 310 0 = N 310 0)
theorem c_lookAtStep {N S : Mm} {bk r k h : Nat} {l : List Int} (hS : SC N S) (hg : Okg S) (hO : Oke S) (hN : Okn S) (hb : isF bk) (h12 : N 310 12 = bk) (hr : isR r) (hl : LsO N l) (hi : i32 (N r 7)) (hm : 0 ≤ N r 2 ∧ N r 2 < S 0 35) (hv : VE S (N r, N (r + 1)) k h) :
    (lkQ S (N r, N (r + 1)) = -1 → f_X2_lookAtStep r (33 + 8 * k) (N r 6) N = some (vlQ S (N r, N (r + 1)), N)) ∧
    (lkQ S (N r, N (r + 1)) ≠ -1 → (0 ≤ lkQ S (N r, N (r + 1)) ∧ lkQ S (N r, N (r + 1)) / 6 < S 0 35 ∧ lkQ S (N r, N (r + 1)) % 6 < S 0 12) ∧ ∃ N', f_X2_lookAtStep r (33 + 8 * k) (N r 6) N = some ((Lm S N bk (lkQ S (N r, N (r + 1))).toNat).elim (-8) (·.1), N') ∧ LkR S N bk r l (lkQ S (N r, N (r + 1))) N') := by
  have hfk := fk_of hv
  obtain ⟨hk, e5, e3, e4, hh, hn6, hst⟩ := hv
  simp only at e5 e3 e4 hn6 hst
  have hk30 := hO.1
  obtain ⟨o1, o2, o3, o4, o5, o6, -⟩ := hO.2.1 k hk
  have hn8 : eN S k ≤ 8 := by unfold eN; omega
  obtain ⟨i, ei⟩ : ∃ i : Nat, N r 6 = i := ⟨(N r 6).toNat, by omega⟩
  have hiN : i < eN S k := by omega
  obtain ⟨s1, s2, s3⟩ := e_step hS.1.2.1 hk hiN (by omega)
  obtain ⟨k0, k1, k2⟩ := (o6 i hiN).1
  have h6 := hg.2.1
  have h35 := hN.1
  have hmn := hN.2.2 (N r 2).toNat (by omega)
  have hmn2 := hmn.2.1
  have hch := chN_ok hg hN hm h (eB S k i)
  have hcf : (0 ≤ eB S k i ∧ eB S k i ≤ 2) → f_X2_childFor r (eB S k i) N = some (chN S (N r 2) (S 31 (N r 2).toNat) h (eB S k i), N) := fun hb2 => c_childFor hS hg hN hm hh rfl e3 e4 hb2
  have hlf : (0 ≤ eA S k i ∧ eA S k i ≤ 2) → f_X2_letterFor r (eA S k i) N = some (if h = 0 ∧ eA S k i < S 6 (S 30 (N r 2).toNat).toNat then S 7 (3 * S 30 (N r 2).toNat + eA S k i).toNat - 4 else -1, N) := fun ha2 => c_letterFor hS hg hN hm rfl e4 ha2
  have hlook : ∀ n a : Int, (0 ≤ n ∧ n < S 0 35) → (0 ≤ a ∧ a < S 0 12) → ∃ N', f_X2_lookAt r n a N = some ((Lm S N bk (6 * n + a).toNat).elim (-8) (·.1), N') ∧ LkR S N bk r l (6 * n + a) N' := fun n a hn ha => by
    obtain ⟨N', t1, t2⟩ := c_lookAt hS.1.1 hg h35.2 hb h12 hr hi hl hn ha
    exact ⟨N', t1, t2⟩
  have hdm : ∀ n a : Int, (0 ≤ n ∧ n < S 0 35) → (0 ≤ a ∧ a < S 0 12) → 0 ≤ 6 * n + a ∧ (6 * n + a) / 6 < S 0 35 ∧ (6 * n + a) % 6 < S 0 12 := fun n a hn ha => by omega
  have e5' : ¬ ((33 + 8 * k : Nat) : Int) = -1 := by omega
  unfold lkQ vlQ
  simp only
  rw [hfk, e5, if_neg e5', e4, Int.toNat_natCast, ei, Int.toNat_natCast]
  unfold f_X2_lookAtStep
  rw [s2, ClS, s1, ClS]
  rw [ei] at hst
  rw [Int.toNat_natCast] at hst
  unfold lkS lfV
  simp only [LtE]
  generalize hK : eK S k i = K at *
  have hKc : K = 0 ∨ K = 1 ∨ K = 2 ∨ K = 3 ∨ K = 4 ∨ K = 5 ∨ K = 6 ∨ K = 7 ∨ K = 14 := by
    rcases hst with h1 | h1
    · unfold tkn at h1
      have : ¬ K = 7 ∧ ¬ (8 ≤ K ∧ K ≤ 12) ∧ ¬ K = 13 := by
        refine ⟨fun e => ?_, fun e => ?_, fun e => ?_⟩
        · rw [if_pos e] at h1; omega
        · rw [if_neg (by omega), if_pos e] at h1; omega
        · rw [if_neg (by omega), if_neg (by omega), if_pos e] at h1; omega
      omega
    · omega
  rcases hKc with rfl | rfl | rfl | rfl | rfl | rfl | rfl | rfl | rfl
  · simp
  · simp only [if_true, if_false, reduceCtorEq, Int.reduceEq]
    rw [if_pos (by decide)] at k1
    refine ⟨fun e => by omega, fun _ => ⟨hdm _ _ hm k1, ?_⟩⟩
    obtain ⟨N', t1, t2⟩ := hlook (N r 2) (eA S k i) hm k1
    exact ⟨N', by rw [t1, ClS], t2⟩
  · simp only [if_true, if_false, reduceCtorEq, Int.reduceEq]
    rw [if_pos (by decide)] at k1 k2
    rw [s3, ClS, hcf k2, ClS]
    by_cases c : chN S (N r 2) (S 31 (N r 2).toNat) h (eB S k i) = -1
    · rw [if_pos c, if_neg fun q => q c]
      exact ⟨fun _ => rfl, fun q => absurd rfl q⟩
    · rw [if_neg c, if_pos c]
      have hc := hch.resolve_left c
      refine ⟨fun e => by omega, fun _ => ⟨hdm _ _ (by omega) k1, ?_⟩⟩
      obtain ⟨N', t1, t2⟩ := hlook _ (eA S k i) (show 0 ≤ chN S (N r 2) (S 31 (N r 2).toNat) h (eB S k i) ∧ _ from ⟨by omega, hc.2.1⟩) k1
      exact ⟨N', by rw [t1, ClS], t2⟩
  · simp only [if_true, if_false, reduceCtorEq, Int.reduceEq]
    have k1' : 0 ≤ eA S k i ∧ eA S k i ≤ 2 := by simpa using k1
    refine ⟨fun _ => ?_, fun q => absurd rfl q⟩
    rw [hlf k1', ClS]
    by_cases c : h = 0 ∧ eA S k i < S 6 (S 30 (N r 2).toNat).toNat
    · have hP := (hg.2.2.2.1 _ hmn.1.1 hmn.1.2).2.2.2.2.2.2.2.1 (eA S k i) k1'.1 c.2
      rw [if_pos c, if_pos (by omega), hlf k1', ClS, if_pos c, wrE (by omega) (by omega)]
      refine congrArg some (Prod.ext ?_ rfl)
      simp only; omega
    · rw [if_neg c, if_neg (by decide), if_neg c]
  · simp only [if_true, if_false, reduceCtorEq, Int.reduceEq]
    have k1' : 0 ≤ eA S k i ∧ eA S k i ≤ 2 := by simpa using k1
    refine ⟨fun _ => ?_, fun q => absurd rfl q⟩
    rw [hlf k1', ClS]
    by_cases c : h = 0 ∧ eA S k i < S 6 (S 30 (N r 2).toNat).toNat
    · have hP := (hg.2.2.2.1 _ hmn.1.1 hmn.1.2).2.2.2.2.2.2.2.1 (eA S k i) k1'.1 c.2
      have hcn := hS.2.2.2 (N r 2).toNat (by omega)
      rw [if_pos c, if_pos (by omega), if_pos c]
      unfold f_X8_putOf
      simp only [LtE]
      rw [if_neg (by omega), if_neg (by omega), if_neg (by omega), if_neg (by omega), if_neg (by decide), gdE (by omega), ClS, hcn.2.2.2.2.1]
    · rw [if_neg c, if_neg (by decide), if_neg c]
  · simp only [if_true, if_false, reduceCtorEq, Int.reduceEq]
    refine ⟨fun _ => ?_, fun q => absurd rfl q⟩
    rw [wrE (by omega) (by omega)]
  · simp only [if_true, if_false, reduceCtorEq, Int.reduceEq]
    have k2' : 0 ≤ eB S k i ∧ eB S k i ≤ 2 := by simpa using k2
    refine ⟨fun _ => ?_, fun q => absurd rfl q⟩
    rw [s3, ClS, hcf k2', ClS]
    by_cases c : chN S (N r 2) (S 31 (N r 2).toNat) h (eB S k i) = -1
    · rw [if_pos c, if_neg fun q => q c]
    · have hc := hch.resolve_left c
      rw [if_neg c, if_pos c, wrE (by omega) (by omega)]
  · simp only [if_true, if_false, reduceCtorEq, Int.reduceEq]
    rw [if_pos (by decide)] at k1
    have hx : 1000 ≤ rdI (N (r + 1)) i ∧ rdI (N (r + 1)) i < 1000 + S 0 35 := by
      rcases hst with h1 | h1
      · exact absurd h1 (by decide)
      · exact h1.2
    refine ⟨fun e => by omega, fun _ => ⟨hdm _ _ (by omega) k1, ?_⟩⟩
    have hh2 : f_X4_heldFor r i N = some (rdI (N (r + 1)) i, N) := by
      have := lay2_held (M := N) (r := r) (N r, N (r + 1)) i
      rw [lay2_self] at this
      exact this
    rw [hh2, ClS, wrE (by omega) (by omega)]
    obtain ⟨N', t1, t2⟩ := hlook (rdI (N (r + 1)) i - 1000) (eA S k i) (by omega) k1
    exact ⟨N', by rw [t1, ClS], t2⟩
  · simp only [if_true, if_false, reduceCtorEq, Int.reduceEq]
    refine ⟨fun _ => ?_, fun q => absurd rfl q⟩
    have hcn := hS.2.2.2 (N r 2).toNat (by omega)
    rw [c8_nowOf, ClS, if_pos (by omega), hcn.2.2.2.1]
/-! contributions -/
theorem lay2_rr (M : Mm) (r : Nat) (f g : Nat → Int) : lay2 M r (f, g) r = f := (lay2_at M r (f, g)).1
def stl (f : Nat → Int) (v : Int) : Nat → Int := se (se f 8 v) 9 1
theorem lay2_settle {M : Mm} {r : Nat} (q : (Nat → Int) × (Nat → Int)) (v : Int) : f_X4_settle r v (lay2 M r q) = some (0, lay2 M r (stl q.1 v, q.2)) := by
  unfold f_X4_settle stl
  simp only [LtE]
  rw [lay2_up, lay2_up]
def bgl (S : Mm) : Nat → (Nat → Int) → Int → (Nat → Int) × Int
  | 0, f, g => (f, g)
  | n + 1, f, g => if g ≠ -1 then (f, g) else if S 0 35 ≤ f 2 + 1 then (f, g) else bgl S n (se (se (se f 2 (f 2 + 1)) 3 (S 31 (f 2 + 1).toNat)) 4 0) (gift S (S 31 (f 2 + 1).toNat) (f 1) 0)
/-- the cells behind beginGift -/
def bgC (f : Nat → Int) (g : Int) : Nat → Int := se (se (se (se f 10 g) 11 0) 6 0) 5 (if g = -1 then -1 else ((33 + 8 * g.toNat : Nat) : Int))
def bgn (S : Mm) (f : Nat → Int) (g : Int) : Nat → Int :=
  if (bgl S 30 f g).2 = -1 then stl (bgC (bgl S 30 f g).1 (bgl S 30 f g).2) ((bgl S 30 f g).1 12) else bgC (bgl S 30 f g).1 (bgl S 30 f g).2
theorem gift_ok {S : Mm} (p a : Int) (j : Nat) : gift S p a j = -1 ∨ (0 ≤ gift S p a j ∧ gift S p a j < S 0 19 ∧ (j : Int) ≤ gift S p a j ∧ mt S p a (-2) (gift S p a j).toNat = true) := by
  unfold gift
  have key : ∀ f j, nxt (mt S p a (-2)) f j = -1 ∨ (0 ≤ nxt (mt S p a (-2)) f j ∧ nxt (mt S p a (-2)) f j < j + f ∧ (j : Int) ≤ nxt (mt S p a (-2)) f j ∧ mt S p a (-2) (nxt (mt S p a (-2)) f j).toNat = true) := by
    intro f
    induction f with
    | zero => exact fun _ => Or.inl rfl
    | succ f ih =>
      intro j
      simp only [nxt]
      by_cases c : mt S p a (-2) j = true
      · rw [if_pos c]; exact Or.inr ⟨by omega, by omega, by omega, by rw [Int.toNat_natCast]; exact c⟩
      · rw [if_neg c]
        rcases ih (j + 1) with h | ⟨h1, h2, h3, h4⟩
        · exact Or.inl h
        · exact Or.inr ⟨h1, by omega, by omega, h4⟩
  rcases key ((S 0 19).toNat - j) j with h | ⟨h1, h2, h3, h4⟩
  · exact Or.inl h
  · exact Or.inr ⟨h1, by omega, h3, h4⟩
theorem c_beginGift {M S : Mm} {r : Nat} (hS : ∀ q, SC (lay2 M r q) S) (hg : Okg S) (hO : Oke S) (hN : Okn S) (hr : isR r) {q : (Nat → Int) × (Nat → Int)} (ha : 0 ≤ q.1 1 ∧ q.1 1 < S 0 12) (h2 : -1 ≤ q.1 2 ∧ q.1 2 < S 0 35) {g : Int} (hgi : g = -1 ∨ (0 ≤ g ∧ g < S 0 19)) : f_X2_beginGift r g (lay2 M r q) = some (0, lay2 M r (bgn S q.1 g, q.2)) := by
  have h35 := hN.1
  have h10 := hg.1
  have h12 := hg.2.1
  have h30 := hO.1
  have hr283 : (283 : Nat) ≠ r ∧ (283 : Nat) ≠ r + 1 := by omega
  unfold f_X2_beginGift
  simp only [LtE]
  have fin : ∀ (x : (Nat → Int)) (g : Int), (g = -1 ∨ (0 ≤ g ∧ g < S 0 19)) → (Cl (f_X1_rowOf g (up (up (up (lay2 M r (x, q.2)) r 10 g) r 11 0) r 6 0)) fun v8 M7 => if ¬ g = -1 then (some (0, up M7 r 5 v8) : Rs) else Cl (f_X4_settle r (up M7 r 5 v8 r 12) (up M7 r 5 v8)) fun _ M15 => some (0, M15)) = some (0, lay2 M r (if g = -1 then stl (bgC x g) (x 12) else bgC x g, q.2)) := by
    intro x g hgi
    rw [lay2_up, lay2_up, lay2_up, c_rowOf, ClS, (hS _).1.2.1.1, lay2_up]
    by_cases c : g = -1
    · rw [if_neg fun q => q c, if_pos c, if_neg (by omega), (lay2_at M r _).1, lay2_settle, ClS]
      refine congrArg some (Prod.ext rfl (congrArg (lay2 M r) (Prod.ext ?_ rfl)))
      simp only
      unfold bgC
      rw [if_pos c]
      rfl
    · have hgi' := hgi.resolve_left c
      rw [if_pos c, if_neg c, if_pos (by omega)]
      refine congrArg some (Prod.ext rfl (congrArg (lay2 M r) (Prod.ext ?_ rfl)))
      simp only
      unfold bgC
      rw [if_neg c]
  have key : ∀ (n F : Nat) (x : (Nat → Int)) (g : Int), n ≤ 30 → n < F → x 1 = q.1 1 → (-1 ≤ x 2 ∧ x 2 < S 0 35) → (g = -1 ∨ (0 ≤ g ∧ g < S 0 19)) → ∀ (J : Int → Mm → Rs), Lp (f_X2_beginGift_L5_39 r J) F (g, ((30 - n : Nat) : Int), lay2 M r (x, q.2)) = J (bgl S n x g).2 (lay2 M r ((bgl S n x g).1, q.2)) ∧ ((bgl S n x g).2 = -1 ∨ (0 ≤ (bgl S n x g).2 ∧ (bgl S n x g).2 < S 0 19)) := by
    intro n
    induction n with
    | zero =>
      intro F x g _ hF h1 h2 h3 J
      obtain ⟨G, rfl⟩ : ∃ G, F = G + 1 := ⟨F - 1, by omega⟩
      refine ⟨?_, h3⟩
      rw [Lp_s]
      simp only [f_X2_beginGift_L5_39]
      rw [if_pos (by omega)]
      rfl
    | succ n ih =>
      intro F x g hn hF h1 h2 h3 J
      obtain ⟨G, rfl⟩ : ∃ G, F = G + 1 := ⟨F - 1, by omega⟩
      rw [Lp_s]
      simp only [f_X2_beginGift_L5_39, LtE, bgl]
      rw [if_neg (by omega)]
      by_cases c1 : g = -1
      · rw [if_neg (c := ¬ g = -1) (fun q => q c1), if_neg (c := g ≠ -1) (fun q => q c1), (lay2_at M r _).1]
        simp only
        rw [wrE (by omega) (by omega), (hS _).2.1]
        by_cases c2 : S 0 35 ≤ x 2 + 1
        · rw [if_pos c2, if_pos c2]; exact ⟨rfl, h3⟩
        · have hnd := (hN.2.2 (x 2 + 1).toNat (by omega)).2.1
          have hcn := (hS (se x 2 (x 2 + 1), q.2)).2.2.2 (x 2 + 1).toNat (by omega)
          rw [if_neg c2, if_neg c2, lay2_up]
          simp only
          rw [lay2_rr, se_at, c8_nowOf, ClS, if_pos (by omega), hcn.2.2.2.1, lay2_up, lay2_up]
          simp only
          rw [lay2_rr, se_ne _ _ (by decide), se_at]
          have e1 : se (se (se x 2 (x 2 + 1)) 3 (S 31 (x 2 + 1).toNat)) 4 0 1 = x 1 := by unfold se; simp
          rw [e1]
          have hfg : ∀ N, SC N S → f_X1_firstGiftOf (S 31 (x 2 + 1).toNat) (x 1) N = some (gift S (S 31 (x 2 + 1).toNat) (x 1) 0, N) := by
            intro N hSN
            have := hSN.1.2.2.2.2.1.1 _ hnd.1 hnd.2 (x 1) (by omega) (by omega)
            unfold f_X1_firstGiftOf
            simp only [LtE]
            rw [wrE (v := _ * 6) (by omega) (by omega), wrE (by omega) (by omega), if_neg (by omega), if_neg (by omega), gdE (by omega), show S 31 (x 2 + 1).toNat * 6 + x 1 = 6 * S 31 (x 2 + 1).toNat + x 1 by omega, this]
          rw [hfg _ (hS _), ClS, wrE (by omega) (by omega), show ((30 - (n + 1) : Nat) : Int) + 1 = ((30 - n : Nat) : Int) by omega]
          refine ih G _ _ (by omega) (by omega) (by rw [e1, h1]) ?_ ?_ J
          · rw [show se (se (se x 2 (x 2 + 1)) 3 (S 31 (x 2 + 1).toNat)) 4 0 2 = x 2 + 1 by unfold se; simp]; omega
          · rcases gift_ok (S := S) (S 31 (x 2 + 1).toNat) (x 1) 0 with h | h
            · exact Or.inl h
            · exact Or.inr ⟨h.1, h.2.1⟩
      · rw [if_pos c1, if_pos c1]; exact ⟨rfl, h3⟩
  have hk := key 30 FU q.1 g (Nat.le_refl _) (FU_lt (by omega)) rfl h2 hgi
  refine ((hk _).1).trans ?_
  have := fin (bgl S 30 q.1 g).1 (bgl S 30 q.1 g).2 (hk fun _ _ => none).2
  unfold bgn
  exact this
