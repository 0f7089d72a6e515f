/-! which production and cuts are taken: the class -/
def oneC (S : Mm) (W T : Nat → Int) (p f t : Int) : Int := if S 2 p.toNat ≤ 1 then t else (wg S W T p 0 f t).2
def twoC (S : Mm) (W T : Nat → Int) (p f t : Int) : Int := if S 2 p.toNat ≤ 2 then t else (wg S W T p 1 (oneC S W T p f t) t).2
/-- the lowest production that weighs least -/
def LwP (S : Mm) (W : Nat → Int) (A f t p : Int) : Prop := (0 ≤ p ∧ p < S 0 0) ∧ S 1 p.toNat = A ∧ cq S W p f t = W (wix A f t) ∧ ∀ q : Int, 0 ≤ q → q < p → S 1 q.toNat = A → cq S W q f t ≠ W (wix A f t)
theorem LwP_is {S : Mm} {W : Nat → Int} {A f t : Int} : ∀ n : Nat, (n : Int) ≤ S 0 0 → (∃ p : Int, 0 ≤ p ∧ p < n ∧ S 1 p.toNat = A ∧ cq S W p f t = W (wix A f t)) → ∃ p, p < (n : Int) ∧ LwP S W A f t p := by
  intro n
  induction n with
  | zero => rintro _ ⟨p, h1, h2, -⟩; exact absurd h2 (by omega)
  | succ n ih =>
    intro hn h
    by_cases c : ∃ p : Int, 0 ≤ p ∧ p < n ∧ S 1 p.toNat = A ∧ cq S W p f t = W (wix A f t)
    · obtain ⟨p, p1, p2⟩ := ih (by omega) c
      exact ⟨p, by omega, p2⟩
    · obtain ⟨p, p0, p1, p2, p3⟩ := h
      have e : p = n := by
        by_cases z : p < n
        · exact absurd ⟨p, p0, z, p2, p3⟩ c
        · omega
      subst e
      exact ⟨(n : Int), by omega, ⟨p0, by omega⟩, p2, p3, fun q q0 q1 q2 q3 => c ⟨q, q0, q1, q2, q3⟩⟩
/-- rows of weights that are settled -/
def Stl (S M : Mm) : Prop := Msr S (M 275) (M 276) (S 0 33 + 1) 0
theorem Stl.dn {S M : Mm} (h : Stl S M) {f t : Int} (f0 : 0 ≤ f) (ft : f ≤ t) (tl : t ≤ S 0 33) : Dn9 S (M 275) (M 276) f t := (h.2.2.2 f t f0 ft tl).1 (Or.inl (by omega))
theorem Stl.low {S M : Mm} (hg : Okg S) (hl : S 0 33 ≤ 12) (h : Stl S M) {A f t : Int} (a0 : 0 ≤ A) (a4 : A < 4) (f0 : 0 ≤ f) (ft : f ≤ t) (tl : t ≤ S 0 33) (hE : M 275 (wix A f t) < 500000000) : ∃ p, LwP S (M 275) A f t p := by
  obtain ⟨d1, d2, d3⟩ := h.dn f0 ft tl
  have h10 := hg.1
  have e : (((S 0 0).toNat : Nat) : Int) = S 0 0 := by omega
  obtain ⟨p, p1, p2⟩ := LwP_is (S := S) (W := M 275) (A := A) (f := f) (t := t) (S 0 0).toNat (by omega) (by
    rcases d2 A a0 a4 with q | ⟨p, q1, q2, q3⟩
    · omega
    · have := d1 p q1.1 q1.2
      rw [q2] at this
      exact ⟨p, q1.1, by omega, q2, by omega⟩)
  exact ⟨p, p2⟩
theorem c9_prodFor {S M : Mm} (hg : Okg S) (hl : S 0 33 ≤ 12) (hM : CG M S) (h : Stl S M) {A f t p : Int} (a0 : 0 ≤ A) (a4 : A < 4) (f0 : 0 ≤ f) (ft : f ≤ t) (tl : t ≤ S 0 33) (hp : LwP S (M 275) A f t p) : ∃ c, f_X9_productionFor A f t M = some (p, up M 273 5 c) := by
  have h10 := hg.1
  have t12 : t ≤ 12 := by omega
  obtain ⟨d1, d2, d3⟩ := h.dn f0 ft tl
  have hcq : ∀ q : Int, 0 ≤ q → q < S 0 0 → (wg S (M 275) (M 276) q 0 f t).1 + 1 = cq S (M 275) q f t := fun q q0 q1 => by
    have := cn9_cq (S := S) (W := M 275) (T := M 276) (p := q) ⟨q0, by omega⟩ f0 ft t12 (hg.2.2.2.1 q q0 q1).2.1.2 fun e e1 e2 => (h.dn (by omega : 0 ≤ e) e2 tl).2.2 q q0 q1
    unfold cn9 at this
    exact this
  have hrow : ∀ c, up M 273 5 c 275 = M 275 ∧ up M 273 5 c 276 = M 276 ∧ CG (up M 273 5 c) S ∧ up M 273 5 c 1 = M 1 := fun c => ⟨up_ne _ _ _ (by decide), up_ne _ _ _ (by decide), hM.of fun j j1 j2 => up_ne _ _ _ (by omega), up_ne _ _ _ (by decide)⟩
  have hup : ∀ a b, up (up M 273 5 a) 273 5 b = up M 273 5 b := fun a b => by
    rw [up_sr, up_sr, up_sr, sr_sr, sr_at]
    refine congrArg (sr M 273) (funext fun j => ?_)
    by_cases cj : j = 5
    · rw [if_pos cj, if_pos cj]
    · rw [if_neg cj, if_neg cj, if_neg cj]
  have loop : ∀ (n : Nat) (q : Int) (F : Nat) (c : Int), 0 ≤ q → q + n = p → n < F → ∃ c', Lp (f_X9_productionFor_L12_24 A f t (M 275 (wix A f t)) (fun M3 => some ((-1), M3)) (fun v5 M6 => some (v5, M6))) F (q, up M 273 5 c) = some (p, up M 273 5 c') := by
    intro n
    induction n with
    | zero =>
      intro q F c q0 hn hF
      obtain ⟨G, rfl⟩ : ∃ G, F = G + 1 := ⟨F - 1, by omega⟩
      obtain rfl : q = p := by omega
      have hp1 := hp.1
      obtain ⟨w1, w2, w3, w4⟩ := hrow c
      have hw := c9_weigh hg w3 (by rw [w1]; exact h.1) (by rw [w2]; exact h.2.1) (p := q) (j := 0) (f := f) (t := t) hp.1 (by omega) (by have := (hg.2.2.2.1 q hp.1.1 hp.1.2).2.1; omega) f0 ft t12
      rw [w1, w2] at hw
      refine ⟨(wg S (M 275) (M 276) q 0 f t).2, ?_⟩
      rw [Lp_s]
      simp only [f_X9_productionFor_L12_24, LtE]
      have hb := cq_bd hg h.1 (p := q) hp.1 f0 ft t12
      rw [w4, hM.1, if_neg (by omega), g_head w3 hg hp.1, ClS, hp.2.1, if_neg (fun z => z rfl), hw, ClS, hcq q hp.1.1 hp.1.2, wrE (v := cq S (M 275) q f t) (by omega) (by omega), hp.2.2.1, if_neg (fun z => z rfl), hup]
    | succ n ih =>
      intro q F c q0 hn hF
      obtain ⟨G, rfl⟩ : ∃ G, F = G + 1 := ⟨F - 1, by omega⟩
      have hp1 := hp.1
      have hq : 0 ≤ q ∧ q < S 0 0 := by omega
      obtain ⟨w1, w2, w3, w4⟩ := hrow c
      have hw := c9_weigh hg w3 (by rw [w1]; exact h.1) (by rw [w2]; exact h.2.1) (p := q) (j := 0) (f := f) (t := t) hq (by omega) (by have := (hg.2.2.2.1 q hq.1 hq.2).2.1; omega) f0 ft t12
      rw [w1, w2] at hw
      rw [Lp_s]
      simp only [f_X9_productionFor_L12_24, LtE]
      have hb := cq_bd hg h.1 (p := q) hq f0 ft t12
      rw [w4, hM.1, if_neg (by omega), g_head w3 hg hq, ClS, wrE (v := q + 1) (by omega) (by omega)]
      by_cases cA : S 1 q.toNat = A
      · rw [if_neg (fun z => z cA), hw, ClS, hcq q hq.1 hq.2, wrE (v := cq S (M 275) q f t) (by omega) (by omega), if_pos (c := ¬ cq S (M 275) q f t = M 275 (wix A f t)) (hp.2.2.2 q q0 (by omega) cA), hup]
        exact ih (q + 1) G _ (by omega) (by omega) (by omega)
      · rw [if_pos (c := ¬ S 1 q.toNat = A) cA]
        exact ih (q + 1) G c (by omega) (by omega) (by omega)
  have hself : up M 273 5 (M 273 5) = M := up_self rfl
  have hpp := hp.1
  obtain ⟨c', hc⟩ := loop p.toNat 0 FU (M 273 5) (Int.le_refl _) (by omega) (FU_lt (by omega))
  refine ⟨c', ?_⟩
  unfold f_X9_productionFor
  simp only [LtE]
  rw [c9_weightOf ⟨a0, by omega⟩ ⟨f0, by omega⟩ ⟨by omega, t12⟩, ClS]
  rw [hself] at hc
  exact hc
theorem oneC_bd {S M : Mm} (hg : Okg S) (hl : S 0 33 ≤ 12) (h : Stl S M) {A f t p : Int} (a0 : 0 ≤ A) (a4 : A < 4) (f0 : 0 ≤ f) (ft : f ≤ t) (tl : t ≤ S 0 33) (hE : M 275 (wix A f t) < 500000000) (hp : LwP S (M 275) A f t p) : (f ≤ oneC S (M 275) (M 276) p f t ∧ oneC S (M 275) (M 276) p f t ≤ twoC S (M 275) (M 276) p f t ∧ twoC S (M 275) (M 276) p f t ≤ t) ∧ cdv S 100000 (wOf (M 275)) p f (oneC S (M 275) (M 276) p f t) (twoC S (M 275) (M 276) p f t) t = M 275 (wix A f t) ∧ (∀ x ∈ pts S p f (oneC S (M 275) (M 276) p f t) (twoC S (M 275) (M 276) p f t) t, wOf (M 275) x.1 x.2.1 x.2.2 < 500000000) ∧
    ∀ a b, f ≤ a → a ≤ b → b ≤ t → 2 ≤ S 2 p.toNat → (a < oneC S (M 275) (M 276) p f t ∨ (a = oneC S (M 275) (M 276) p f t ∧ 3 ≤ S 2 p.toNat ∧ b < twoC S (M 275) (M 276) p f t)) → M 275 (wix A f t) < cdv S 100000 (wOf (M 275)) p f a b t := by
  have h10 := hg.1
  have t12 : t ≤ 12 := by omega
  have hpp := hp.1
  have hP := hg.2.2.2.1 p hpp.1 hpp.2
  have hn := hP.2.1
  have hT : ∀ e, f ≤ e → e ≤ t → TlC S (M 275) (M 276) p e t := fun e e1 e2 => (h.dn (by omega : 0 ≤ e) e2 tl).2.2 p hpp.1 hpp.2
  have hcq : cn9 S (M 275) (M 276) p f t = M 275 (wix A f t) := by rw [cn9_cq ⟨hpp.1, by omega⟩ f0 ft t12 hn.2 hT, hp.2.2.1]
  obtain ⟨a, b, k1, k2, k3, k4, k5, k6⟩ := cn9_at hg h.1 hpp f0 ft t12 hT (by omega)
  have e1 : S 2 p.toNat ≠ 0 → oneC S (M 275) (M 276) p f t = a := fun q => by
    unfold oneC
    rw [k5 q]
    by_cases c1 : S 2 p.toNat = 1
    · rw [if_pos (by omega), if_pos c1]
    · rw [if_neg (by omega), if_neg c1]
  have e2 : S 2 p.toNat = 3 → twoC S (M 275) (M 276) p f t = b := fun q => by
    unfold twoC
    rw [k6 q, if_neg (by omega), e1 (by omega)]
  have hbd : f ≤ oneC S (M 275) (M 276) p f t ∧ oneC S (M 275) (M 276) p f t ≤ twoC S (M 275) (M 276) p f t ∧ twoC S (M 275) (M 276) p f t ≤ t := by
    by_cases c0 : S 2 p.toNat = 0
    · unfold twoC oneC
      rw [if_pos (c := S 2 p.toNat ≤ 1) (by omega), if_pos (by omega)]
      omega
    · rw [e1 c0]
      by_cases c3 : S 2 p.toNat = 3
      · rw [e2 c3]; exact ⟨k1, k2, k3⟩
      · unfold twoC
        rw [if_pos (by omega)]
        omega
  have hcd : cdv S 100000 (wOf (M 275)) p f (oneC S (M 275) (M 276) p f t) (twoC S (M 275) (M 276) p f t) t = M 275 (wix A f t) := by
    rw [← hcq, k4]
    unfold cdv pts
    by_cases c0 : S 2 p.toNat = 0
    · simp only [if_pos c0]
    by_cases c1 : S 2 p.toNat = 1
    · simp only [if_neg c0, if_pos c1]
    rw [e1 c0]
    by_cases c2 : S 2 p.toNat = 2
    · simp only [if_neg c0, if_neg c1, if_pos c2]
    · rw [e2 (by omega)]
  refine ⟨hbd, hcd, fun x hx => ?_, fun a' b' a1 a2 a3 h2 hlt => ?_⟩
  · have hok := pts_ok hg hpp hbd.1 hbd.2.1 hbd.2.2
    have hxn : ∀ y ∈ pts S p f (oneC S (M 275) (M 276) p f t) (twoC S (M 275) (M 276) p f t) t, 0 ≤ wOf (M 275) y.1 y.2.1 y.2.2 := fun y hy => by
      have := hok y hy
      exact (h.1 _ (wix_lt (by omega) (by omega) (by omega)).1).1
    have := sW_mem _ hxn x hx
    unfold cdv at hcd
    have h6 : 0 ≤ if S 2 p.toNat = 0 then 100000 * (t - f) else 0 := by split <;> omega
    omega
  · have c0 : S 2 p.toNat ≠ 0 := by omega
    have c1 : S 2 p.toNat ≠ 1 := by omega
    have eo : oneC S (M 275) (M 276) p f t = (wg S (M 275) (M 276) p 0 f t).2 := by unfold oneC; rw [if_neg (by omega)]
    rw [← hcq]
    unfold cn9
    by_cases c2 : S 2 p.toNat = 2
    · have e : wg S (M 275) (M 276) p 0 f t = mnl (fun e => M 275 (wix (S 3 (3 * p + 0).toNat) f e) + M 275 (wix (S 3 (3 * p + 1).toNat) e t)) (t - f + 1).toNat f (500000000, t) := by
        unfold wg
        rw [if_neg c0, if_neg (by omega), if_pos (by omega), c2]
        rfl
      rw [eo, e] at hlt
      rw [e]
      have sp := mnl_spec (fun e => M 275 (wix (S 3 (3 * p + 0).toNat) f e) + M 275 (wix (S 3 (3 * p + 1).toNat) e t)) (t - f + 1).toNat f (500000000, t)
      have hce : (mnl (fun e => M 275 (wix (S 3 (3 * p + 0).toNat) f e) + M 275 (wix (S 3 (3 * p + 1).toNat) e t)) (t - f + 1).toNat f (500000000, t)).1 + 1 < 500000000 := by
        have := hcq
        unfold cn9 at this
        rw [e] at this
        omega
      generalize mnl (fun e => M 275 (wix (S 3 (3 * p + 0).toNat) f e) + M 275 (wix (S 3 (3 * p + 1).toNat) e t)) (t - f + 1).toNat f (500000000, t) = r at sp hlt hce ⊢
      obtain ⟨-, -, sp⟩ := sp
      rcases sp with ⟨q, -⟩ | ⟨-, -, -, -, q5⟩
      · rw [q] at hce; simp only at hce; omega
      · rcases hlt with z | z
        · have := q5 a' a1 z
          unfold cdv pts
          simp only [if_neg c0, if_neg c1, if_pos c2, sW, wOf]
          omega
        · omega
    · have c3 : S 2 p.toNat = 3 := by omega
      have e : wg S (M 275) (M 276) p 0 f t = mnl (fun e => M 275 (wix (S 3 (3 * p + 0).toNat) f e) + M 276 (wix p e t)) (t - f + 1).toNat f (500000000, t) := by
        unfold wg
        rw [if_neg c0, if_neg (by omega), if_neg (by omega)]
      have sp := mnl_spec (fun e => M 275 (wix (S 3 (3 * p + 0).toNat) f e) + M 276 (wix p e t)) (t - f + 1).toNat f (500000000, t)
      have hce : (mnl (fun e => M 275 (wix (S 3 (3 * p + 0).toNat) f e) + M 276 (wix p e t)) (t - f + 1).toNat f (500000000, t)).1 + 1 < 500000000 := by
        have := hcq
        unfold cn9 at this
        rw [e] at this
        omega
      have hTa := hT a' a1 (by omega) c3
      rw [wg1 c3] at hTa
      have hq := (mnl_spec (fun b => M 275 (wix (S 3 (3 * p + 1).toNat) a' b) + M 275 (wix (S 3 (3 * p + 2).toNat) b t)) (t - a' + 1).toNat a' (500000000, t)).2.1 b' a2 (by omega)
      rw [e]
      unfold cdv pts
      simp only [if_neg c0, if_neg c1, if_neg c2, sW, wOf]
      rcases hlt with z | ⟨z1, -, z3⟩
      · rw [eo, e] at z
        generalize mnl (fun e => M 275 (wix (S 3 (3 * p + 0).toNat) f e) + M 276 (wix p e t)) (t - f + 1).toNat f (500000000, t) = r at sp hce z ⊢
        obtain ⟨-, -, sp⟩ := sp
        rcases sp with ⟨q, -⟩ | ⟨-, -, -, -, q5⟩
        · rw [q] at hce; simp only at hce; omega
        · have := q5 a' a1 z
          omega
      · have e2' : twoC S (M 275) (M 276) p f t = (mnl (fun b => M 275 (wix (S 3 (3 * p + 1).toNat) a' b) + M 275 (wix (S 3 (3 * p + 2).toNat) b t)) (t - a' + 1).toNat a' (500000000, t)).2 := by
          unfold twoC
          rw [if_neg (by omega), ← z1, wg1 c3]
        rw [e2'] at z3
        have sp2 := mnl_spec (fun b => M 275 (wix (S 3 (3 * p + 1).toNat) a' b) + M 275 (wix (S 3 (3 * p + 2).toNat) b t)) (t - a' + 1).toNat a' (500000000, t)
        have hra : (mnl (fun e => M 275 (wix (S 3 (3 * p + 0).toNat) f e) + M 276 (wix p e t)) (t - f + 1).toNat f (500000000, t)).1 ≤ M 275 (wix (S 3 (3 * p + 0).toNat) f a') + M 276 (wix p a' t) := sp.2.1 a' a1 (by omega)
        have hw0 := h.1 _ (wix_lt (a := S 3 (3 * p + 0).toNat) (f := f) (t := a') (by have := hP.2.2.2.2.2.1 0 (by omega) (by omega); omega) (by omega) (by omega)).1
        have hw1 := h.1 _ (wix_lt (a := S 3 (3 * p + 1).toNat) (f := a') (t := b') (by have := hP.2.2.2.2.2.1 1 (by omega) (by omega); omega) (by omega) (by omega)).1
        have hw2 := h.1 _ (wix_lt (a := S 3 (3 * p + 2).toNat) (f := b') (t := t) (by have := hP.2.2.2.2.2.1 2 (by omega) (by omega); omega) (by omega) (by omega)).1
        generalize mnl (fun b => M 275 (wix (S 3 (3 * p + 1).toNat) a' b) + M 275 (wix (S 3 (3 * p + 2).toNat) b t)) (t - a' + 1).toNat a' (500000000, t) = r2 at sp2 hTa hq z3
        obtain ⟨-, -, sp2⟩ := sp2
        rcases sp2 with ⟨q, q'⟩ | ⟨-, -, -, -, q5⟩
        · have := q' b' a2 (by omega)
          rw [q] at hTa
          simp only at hTa this
          -- no tail is finite there: the least would not be either
          exfalso
          have hoa : a' = (mnl (fun e => M 275 (wix (S 3 (3 * p + 0).toNat) f e) + M 276 (wix p e t)) (t - f + 1).toNat f (500000000, t)).2 := by rw [z1, eo, e]
          obtain ⟨-, -, sp⟩ := sp
          generalize mnl (fun e => M 275 (wix (S 3 (3 * p + 0).toNat) f e) + M 276 (wix p e t)) (t - f + 1).toNat f (500000000, t) = r at sp hce hoa
          rcases sp with ⟨y, -⟩ | ⟨-, -, y3, y4, -⟩
          · rw [y] at hce; simp only at hce; omega
          · rw [← hoa] at y3
            omega
        · have := q5 b' a2 z3
          omega
