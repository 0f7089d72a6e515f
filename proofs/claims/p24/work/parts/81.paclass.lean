/-! the class weighs: places in its rows, the least of a row of sums -/
def wix (a f t : Int) : Nat := (169 * a + 13 * f + t).toNat
theorem wix_inj {a f t a' f' t' : Int} (ha : 0 ≤ a) (hf : 0 ≤ f ∧ f ≤ 12) (ht : 0 ≤ t ∧ t ≤ 12) (ha' : 0 ≤ a') (hf' : 0 ≤ f' ∧ f' ≤ 12) (ht' : 0 ≤ t' ∧ t' ≤ 12) (h : wix a f t = wix a' f' t') : a = a' ∧ f = f' ∧ t = t' := by
  unfold wix at h
  omega
theorem wix_lt {a f t : Int} (ha : 0 ≤ a ∧ a < 10) (hf : 0 ≤ f ∧ f ≤ 12) (ht : 0 ≤ t ∧ t ≤ 12) : wix a f t < 1690 ∧ ((wix a f t : Nat) : Int) = 169 * a + 13 * f + t := by
  unfold wix
  omega
theorem c9_place {a f t : Int} (ha : 0 ≤ a ∧ a < 10) (hf : 0 ≤ f ∧ f ≤ 13) (ht : 0 ≤ t ∧ t ≤ 13) (M : Mm) : f_X9_placeOf a f t M = some (169 * a + 13 * f + t, M) := by
  simp only [f_X9_placeOf, LtE]
  simp (disch := omega) only [wrE]
  refine congrArg some (Prod.ext (by simp only; omega) rfl)
theorem c9_entry {r : Nat} (hr : r = 275 ∨ r = 276) {a f t : Int} (ha : 0 ≤ a ∧ a < 10) (hf : 0 ≤ f ∧ f ≤ 12) (ht : 0 ≤ t ∧ t ≤ 12) (M : Mm) : f_X11_entryOf r (169 * a + 13 * f + t) M = some (M r (wix a f t), M) := by
  rcases hr with rfl | rfl
  · exact c_entryOf_in 1690 alenC_275 (by omega) (by omega)
  · exact c_entryOf_in 1690 alenC_276 (by omega) (by omega)
theorem c9_set {r : Nat} (hr : r = 275 ∨ r = 276) {a f t : Int} (ha : 0 ≤ a ∧ a < 10) (hf : 0 ≤ f ∧ f ≤ 12) (ht : 0 ≤ t ∧ t ≤ 12) (v : Int) (M : Mm) : f_X11_setEntry r (169 * a + 13 * f + t) v M = some (0, up M r (wix a f t) v) := by
  rcases hr with rfl | rfl
  · exact c_setEntry_in 1690 alenC_275 (by omega) (by omega)
  · exact c_setEntry_in 1690 alenC_276 (by omega) (by omega)
theorem c9_weightOf {a f t : Int} (ha : 0 ≤ a ∧ a < 10) (hf : 0 ≤ f ∧ f ≤ 12) (ht : 0 ≤ t ∧ t ≤ 12) (M : Mm) : f_X9_weightOf a f t M = some (M 275 (wix a f t), M) := by
  unfold f_X9_weightOf
  rw [c9_place ha (by omega) (by omega), ClS, c9_entry (Or.inl rfl) ha hf ht, ClS]
def mnl (g : Int → Int) : Nat → Int → Int × Int → Int × Int
  | 0, _, s => s
  | n + 1, e, s => mnl g n (e + 1) (if g e < s.1 then (g e, e) else s)
theorem mnl_spec (g : Int → Int) : ∀ (n : Nat) (e : Int) (s : Int × Int), (mnl g n e s).1 ≤ s.1 ∧ (∀ x, e ≤ x → x < e + n → (mnl g n e s).1 ≤ g x) ∧ ((mnl g n e s = s ∧ ∀ x, e ≤ x → x < e + n → s.1 ≤ g x) ∨ (e ≤ (mnl g n e s).2 ∧ (mnl g n e s).2 < e + n ∧ g (mnl g n e s).2 = (mnl g n e s).1 ∧ (mnl g n e s).1 < s.1 ∧ ∀ x, e ≤ x → x < (mnl g n e s).2 → (mnl g n e s).1 < g x)) := by
  intro n
  induction n with
  | zero =>
    intro e s
    exact ⟨Int.le_refl _, fun x h1 h2 => absurd h2 (by omega), Or.inl ⟨rfl, fun x h1 h2 => absurd h2 (by omega)⟩⟩
  | succ n ih =>
    intro e s
    simp only [mnl]
    by_cases c : g e < s.1
    · rw [if_pos c]
      obtain ⟨i1, i2, i3⟩ := ih (e + 1) (g e, e)
      generalize mnl g n (e + 1) (g e, e) = r at i1 i2 i3 ⊢
      simp only at i1 i3
      refine ⟨by omega, fun x h1 h2 => ?_, Or.inr ?_⟩
      · by_cases cx : x = e
        · subst cx; exact i1
        · exact i2 x (by omega) (by omega)
      · rcases i3 with ⟨q1, q2⟩ | ⟨q1, q2, q3, q4, q5⟩
        · subst q1
          exact ⟨Int.le_refl _, by simp only; omega, rfl, c, fun x h1 h2 => absurd h2 (by simp only; omega)⟩
        · refine ⟨by omega, by omega, q3, by omega, fun x h1 h2 => ?_⟩
          by_cases cx : x = e
          · subst cx; exact q4
          · exact q5 x (by omega) h2
    · rw [if_neg c]
      obtain ⟨i1, i2, i3⟩ := ih (e + 1) s
      generalize mnl g n (e + 1) s = r at i1 i2 i3 ⊢
      refine ⟨i1, fun x h1 h2 => ?_, ?_⟩
      · by_cases cx : x = e
        · subst cx; omega
        · exact i2 x (by omega) (by omega)
      · rcases i3 with ⟨q1, q2⟩ | ⟨q1, q2, q3, q4, q5⟩
        · refine Or.inl ⟨q1, fun x h1 h2 => ?_⟩
          by_cases cx : x = e
          · subst cx; omega
          · exact q2 x (by omega) (by omega)
        · refine Or.inr ⟨by omega, by omega, q3, q4, fun x h1 h2 => ?_⟩
          by_cases cx : x = e
          · subst cx; omega
          · exact q5 x (by omega) h2
theorem mnl_congr {g g' : Int → Int} : ∀ (n : Nat) (e : Int) (s : Int × Int), (∀ x, e ≤ x → x < e + n → g x = g' x) → mnl g n e s = mnl g' n e s := by
  intro n
  induction n with
  | zero => intro e s _; rfl
  | succ n ih =>
    intro e s h
    simp only [mnl]
    rw [h e (Int.le_refl _) (by omega)]
    exact ih _ _ fun x h1 h2 => h x (by omega) (by omega)
def wg (S : Mm) (W T : Nat → Int) (p j f t : Int) : Int × Int :=
  if S 2 p.toNat = 0 then ((t - f) * 100000, t)
  else if S 2 p.toNat - 1 ≤ j then (W (wix (S 3 (3 * p + j).toNat) f t), t)
  else if S 2 p.toNat - 1 ≤ j + 1 then mnl (fun e => W (wix (S 3 (3 * p + j).toNat) f e) + W (wix (S 3 (3 * p + (S 2 p.toNat - 1)).toNat) e t)) (t - f + 1).toNat f (500000000, t)
  else mnl (fun e => W (wix (S 3 (3 * p + j).toNat) f e) + T (wix p e t)) (t - f + 1).toNat f (500000000, t)
/-- rows of weights, within bounds -/
def RwB (W : Nat → Int) : Prop := ∀ i, i < 1690 → 0 ≤ W i ∧ W i ≤ 500000000
theorem c9_wloop {r : Nat} (hr : r = 275 ∨ r = 276) {sy row f t : Int} (hs : 0 ≤ sy ∧ sy < 10) (hrow : 0 ≤ row ∧ row < 10) (hf : 0 ≤ f) (ht : t ≤ 12) {J : Int → Mm → Rs} {M : Mm} (b1 : RwB (M 275)) (b2 : RwB (M r)) : ∀ (n : Nat) (e : Int) (F : Nat) (s : Int × Int), f ≤ e → e + n = t + 1 → n < F → Lp (f_X9_weigh_L119_41 f t sy r row J) F (s.1, e, up M 273 5 s.2) = J (mnl (fun e => M 275 (wix sy f e) + M r (wix row e t)) n e s).1 (up M 273 5 (mnl (fun e => M 275 (wix sy f e) + M r (wix row e t)) n e s).2) := by
  have hr273 : r ≠ 273 := by omega
  intro n
  induction n with
  | zero =>
    intro e F s hfe he hF
    obtain ⟨G, rfl⟩ : ∃ G, F = G + 1 := ⟨F - 1, by omega⟩
    rw [Lp_s]
    simp only [f_X9_weigh_L119_41, mnl]
    rw [if_pos (by omega)]
  | succ n ih =>
    intro e F s hfe he hF
    obtain ⟨G, rfl⟩ : ∃ G, F = G + 1 := ⟨F - 1, by omega⟩
    rw [Lp_s]
    simp only [f_X9_weigh_L119_41, LtE, mnl]
    have x1 := wix_lt (a := sy) (f := f) (t := e) hs (by omega) (by omega)
    have x2 := wix_lt (a := row) (f := e) (t := t) hrow (by omega) (by omega)
    have y1 := b1 _ x1.1
    have y2 := b2 _ x2.1
    rw [if_neg (by omega), c9_weightOf hs (by omega) (by omega), ClS, c9_place hrow (by omega) (by omega), ClS, c9_entry hr hrow (by omega) (by omega), ClS, up_ne _ _ _ (show (275 : Nat) ≠ 273 by decide), up_ne _ _ _ hr273, wrE (v := _ + _) (by omega) (by omega), wrE (by omega) (by omega)]
    by_cases c : M 275 (wix sy f e) + M r (wix row e t) < s.1
    · rw [if_neg (by omega), if_pos c]
      have e2 : up (up M 273 5 s.2) 273 5 e = up M 273 5 e := by
        rw [up_sr, up_sr, up_sr, sr_sr, sr_at]
        refine congrArg (sr M 273) (funext fun j => ?_)
        by_cases cj : j = 5
        · rw [if_pos cj, if_pos cj]
        · rw [if_neg cj, if_neg cj, if_neg cj]
      rw [e2]
      exact ih (e + 1) G (M 275 (wix sy f e) + M r (wix row e t), e) (by omega) (by omega) (by omega)
    · rw [if_pos (by omega), if_neg c]
      exact ih (e + 1) G s (by omega) (by omega) (by omega)
theorem c9_weigh {M S : Mm} (hg : Okg S) (hM : CG M S) (b1 : RwB (M 275)) (b2 : RwB (M 276)) {p j f t : Int} (hp : 0 ≤ p ∧ p < S 0 0) (hj : 0 ≤ j ∧ j < 3) (hj2 : j < S 2 p.toNat ∨ S 2 p.toNat = 0) (hf : 0 ≤ f) (hft : f ≤ t) (ht : t ≤ 12) : f_X9_weigh p j f t M = some ((wg S (M 275) (M 276) p j f t).1, up M 273 5 (wg S (M 275) (M 276) p j f t).2) := by
  have hP := hg.2.2.2.1 p hp.1 hp.2
  have hn := hP.2.1
  have h10 := hg.1
  have hsy := hP.2.2.2.2.2.1
  have hcs := (hM.2.2.2.1 p hp.1 hp.2).2.2.2.2.2.2.2.1
  unfold f_X9_weigh wg
  simp only [LtE]
  rw [g_length hM hg hp, ClS, wrE (by omega) (by omega), c_symbolOf (by omega) hj, ClS]
  by_cases c0 : S 2 p.toNat = 0
  · rw [if_pos c0, if_neg (by omega), wrE (v := t - f) (by omega) (by omega), wrE (by omega) (by omega)]
  rw [if_neg c0, if_pos (by omega), hcs j hj.1 (by omega)]
  have q0 := hsy j hj.1 (by omega)
  by_cases c1 : S 2 p.toNat - 1 ≤ j
  · rw [if_pos c1, if_neg (by omega), c9_weightOf (by omega) (by omega) (by omega), ClS, up_ne _ _ _ (show (275 : Nat) ≠ 273 by decide)]
  rw [if_neg c1, if_pos (by omega), wrE (by omega) (by omega)]
  by_cases c2 : S 2 p.toNat - 1 ≤ j + 1
  · have q1 := hsy (S 2 p.toNat - 1) (by omega) (by omega)
    have hcs2 : up M 273 5 t 4 (3 * p + (S 2 p.toNat - 1)).toNat = S 3 (3 * p + (S 2 p.toNat - 1)).toNat := by
      rw [up_ne _ _ _ (by decide)]; exact hcs _ (by omega) (by omega)
    rw [if_pos c2, if_pos c2, if_pos trivial, if_pos trivial, c_symbolOf (by omega) (by omega), ClS, hcs2]
    exact c9_wloop (Or.inl rfl) (by omega) (by omega) hf ht b1 b1 _ f FU (500000000, t) (Int.le_refl _) (by omega) (FU_lt (by omega))
  · rw [if_neg c2, if_neg c2, if_neg (by decide), if_neg (by decide)]
    exact c9_wloop (Or.inr rfl) (by omega) (by omega) hf ht b1 b2 _ f FU (500000000, t) (Int.le_refl _) (by omega) (FU_lt (by omega))
/-- the weights as the class's rows tell them -/
def wOf (W : Nat → Int) : WsF := fun c f t => W (wix c f t)
/-- the tails go with the weights -/
def TlC (S : Mm) (W T : Nat → Int) (p e t : Int) : Prop := S 2 p.toNat = 3 → T (wix p e t) = (wg S W T p 1 e t).1
theorem wg1 {S : Mm} {W T : Nat → Int} {p e t : Int} (h3 : S 2 p.toNat = 3) : wg S W T p 1 e t = mnl (fun b => W (wix (S 3 (3 * p + 1).toNat) e b) + W (wix (S 3 (3 * p + 2).toNat) b t)) (t - e + 1).toNat e (500000000, t) := by
  unfold wg
  rw [h3]
  rfl
def cn9 (S : Mm) (W T : Nat → Int) (p f t : Int) : Int := (wg S W T p 0 f t).1 + 1
theorem cn9_le {S : Mm} (hg : Okg S) {W T : Nat → Int} {p f t a b : Int} (hp : 0 ≤ p ∧ p < S 0 0) (hT : ∀ e, f ≤ e → e ≤ t → TlC S W T p e t) (h1 : f ≤ a) (h2 : a ≤ b) (h3 : b ≤ t) : cn9 S W T p f t ≤ cdv S 100000 (wOf W) p f a b t := by
  have hn := (hg.2.2.2.1 p hp.1 hp.2).2.1
  unfold cn9 cdv pts
  by_cases c0 : S 2 p.toNat = 0
  · unfold wg
    simp only [if_pos c0, sW]
    omega
  simp only [if_neg c0]
  by_cases c1 : S 2 p.toNat = 1
  · unfold wg
    simp only [if_neg c0, if_pos c1, sW, wOf]
    rw [if_pos (by omega)]
    simp only
    omega
  simp only [if_neg c1]
  by_cases c2 : S 2 p.toNat = 2
  · unfold wg
    simp only [if_neg c0, if_pos c2, sW, wOf]
    rw [if_neg (by omega), if_pos (by omega), c2]
    have := (mnl_spec (fun e => W (wix (S 3 (3 * p + 0).toNat) f e) + W (wix (S 3 (3 * p + (2 - 1)).toNat) e t)) (t - f + 1).toNat f (500000000, t)).2.1 a h1 (by omega)
    have e1 : (3 * p + (2 - 1)).toNat = (3 * p + 1).toNat := rfl
    rw [e1] at this ⊢
    omega
  · have c3 : S 2 p.toNat = 3 := by omega
    have hTa := hT a h1 (by omega) c3
    unfold wg at ⊢
    simp only [if_neg c0, if_neg c2, sW, wOf]
    rw [if_neg (by omega), if_neg (by omega)]
    have := (mnl_spec (fun e => W (wix (S 3 (3 * p + 0).toNat) f e) + T (wix p e t)) (t - f + 1).toNat f (500000000, t)).2.1 a h1 (by omega)
    rw [hTa, wg1 c3] at this
    have q := (mnl_spec (fun b => W (wix (S 3 (3 * p + 1).toNat) a b) + W (wix (S 3 (3 * p + 2).toNat) b t)) (t - a + 1).toNat a (500000000, t)).2.1 b h2 (by omega)
    omega
theorem cn9_at {S : Mm} (hg : Okg S) {W T : Nat → Int} (bW : RwB W) {p f t : Int} (hp : 0 ≤ p ∧ p < S 0 0) (f0 : 0 ≤ f) (ft : f ≤ t) (t12 : t ≤ 12) (hT : ∀ e, f ≤ e → e ≤ t → TlC S W T p e t) (hE : cn9 S W T p f t ≤ 500000000) : ∃ a b, f ≤ a ∧ a ≤ b ∧ b ≤ t ∧ cn9 S W T p f t = cdv S 100000 (wOf W) p f a b t ∧ (S 2 p.toNat ≠ 0 → a = if S 2 p.toNat = 1 then t else (wg S W T p 0 f t).2) ∧ (S 2 p.toNat = 3 → b = (wg S W T p 1 a t).2) := by
  have hn := (hg.2.2.2.1 p hp.1 hp.2).2.1
  unfold cn9 cdv pts at *
  by_cases c0 : S 2 p.toNat = 0
  · refine ⟨t, t, ft, Int.le_refl _, Int.le_refl _, ?_, fun q => absurd c0 q, fun q => absurd c0 (by omega)⟩
    unfold wg
    simp only [if_pos c0, sW]
    omega
  simp only [if_neg c0]
  by_cases c1 : S 2 p.toNat = 1
  · refine ⟨t, t, ft, Int.le_refl _, Int.le_refl _, ?_, fun _ => by rw [if_pos c1], fun q => absurd c1 (by omega)⟩
    unfold wg
    simp only [if_neg c0, if_pos c1, sW, wOf]
    rw [if_pos (by omega)]
    simp only
    omega
  simp only [if_neg c1]
  by_cases c2 : S 2 p.toNat = 2
  · have e : wg S W T p 0 f t = mnl (fun e => W (wix (S 3 (3 * p + 0).toNat) f e) + W (wix (S 3 (3 * p + 1).toNat) e t)) (t - f + 1).toNat f (500000000, t) := by
      unfold wg
      rw [if_neg c0, if_neg (by omega), if_pos (by omega), c2]
      rfl
    rw [e] at hE ⊢
    have sp := (mnl_spec (fun e => W (wix (S 3 (3 * p + 0).toNat) f e) + W (wix (S 3 (3 * p + 1).toNat) e t)) (t - f + 1).toNat f (500000000, t)).2.2
    generalize mnl (fun e => W (wix (S 3 (3 * p + 0).toNat) f e) + W (wix (S 3 (3 * p + 1).toNat) e t)) (t - f + 1).toNat f (500000000, t) = r at sp hE ⊢
    rcases sp with ⟨q, -⟩ | ⟨q1, q2, q3, q4, q5⟩
    · rw [q] at hE; simp only at hE; omega
    · refine ⟨r.2, t, q1, by omega, Int.le_refl _, ?_, fun _ => rfl, fun q => absurd c2 (by omega)⟩
      simp only [if_pos c2, sW, wOf]
      omega
  · have c3 : S 2 p.toNat = 3 := by omega
    have e : wg S W T p 0 f t = mnl (fun e => W (wix (S 3 (3 * p + 0).toNat) f e) + T (wix p e t)) (t - f + 1).toNat f (500000000, t) := by
      unfold wg
      rw [if_neg c0, if_neg (by omega), if_neg (by omega)]
    rw [e] at hE ⊢
    have sp := (mnl_spec (fun e => W (wix (S 3 (3 * p + 0).toNat) f e) + T (wix p e t)) (t - f + 1).toNat f (500000000, t)).2.2
    generalize mnl (fun e => W (wix (S 3 (3 * p + 0).toNat) f e) + T (wix p e t)) (t - f + 1).toNat f (500000000, t) = r at sp hE ⊢
    rcases sp with ⟨q, -⟩ | ⟨q1, q2, q3, q4, q5⟩
    · rw [q] at hE; simp only at hE; omega
    · have hTa := hT r.2 q1 (by omega) c3
      have hs0 := (hg.2.2.2.1 p hp.1 hp.2).2.2.2.2.2.1 0 (by omega) (by omega)
      have hw := bW _ (wix_lt (a := S 3 (3 * p + 0).toNat) (f := f) (t := r.2) (by omega) (by omega) (by omega)).1
      rw [wg1 c3] at hTa
      have sp2 := (mnl_spec (fun b => W (wix (S 3 (3 * p + 1).toNat) r.2 b) + W (wix (S 3 (3 * p + 2).toNat) b t)) (t - r.2 + 1).toNat r.2 (500000000, t)).2.2
      generalize hr2 : mnl (fun b => W (wix (S 3 (3 * p + 1).toNat) r.2 b) + W (wix (S 3 (3 * p + 2).toNat) b t)) (t - r.2 + 1).toNat r.2 (500000000, t) = r2 at sp2 hTa
      rcases sp2 with ⟨z, -⟩ | ⟨z1, z2, z3, z4, z5⟩
      · rw [z] at hTa; simp only at hTa; omega
      · refine ⟨r.2, r2.2, q1, z1, by omega, ?_, fun _ => rfl, fun _ => by rw [wg1 c3, hr2]⟩
        simp only [if_neg c2, sW, wOf]
        omega
