/-! the class measures the letters, then all stretches -/
def Fl9 (M M' : Mm) : Prop := ∀ j, j ≠ 275 → M' j = M j
theorem ct_len {M S : Mm} (h : CT M S) : M 273 0 = S 0 33 := h.1
theorem hsl_step (S : Mm) {c f t : Int} (h : f < t) : hsl S c f (t - f).toNat = (hsl S c f (t - f - 1).toNat || decide (S 29 (t - 1).toNat = c + 93)) := by
  have e : (t - f).toNat = (t - f - 1).toNat + 1 := by omega
  have e2 : (f + (((t - f - 1).toNat : Nat) : Int)).toNat = (t - 1).toNat := by omega
  rw [e]
  simp only [hsl]
  rw [e2]
theorem c9_letIn {S : Mm} {c f : Int} (hl : 0 ≤ S 0 33 ∧ S 0 33 ≤ 12) (hc : 0 ≤ c ∧ c ≤ 5) (f0 : 0 ≤ f) (fl : f ≤ S 0 33) {J : Int → Mm → Rs} : ∀ (n : Nat) (t : Int) (F : Nat) (M : Mm), CT M S → f ≤ t → t + n = S 0 33 + 1 → n < F →
    ∃ M', Lp (f_X9_measureLetter_L15_54 c J) F (f, b2i (hsl S (4 + c) f (t - f - 1).toNat), t, M) = J f M' ∧ Fl9 M M' ∧ (∀ t', t ≤ t' → t' ≤ S 0 33 → M' 275 (wix (4 + c) f t') = 100000 * lc S (4 + c) f t') ∧ ∀ i, (∀ t', t ≤ t' → t' ≤ S 0 33 → i ≠ wix (4 + c) f t') → M' 275 i = M 275 i := by
  intro n
  induction n with
  | zero =>
    intro t F M hT ht hn hF
    obtain ⟨G, rfl⟩ : ∃ G, F = G + 1 := ⟨F - 1, by omega⟩
    refine ⟨M, ?_, fun _ _ => rfl, fun t' h1 h2 => absurd h2 (by omega), fun _ _ => rfl⟩
    rw [Lp_s]
    simp only [f_X9_measureLetter_L15_54, LtE]
    rw [hT.1, if_pos (by omega)]
  | succ n ih =>
    intro t F M hT ht hn hF
    obtain ⟨G, rfl⟩ : ∃ G, F = G + 1 := ⟨F - 1, by omega⟩
    have tail : ∀ bb : Bool, bb = hsl S (4 + c) f (t - f).toNat → ∃ M', (if bb = true then (Cl (f_X9_placeOf (4 + c) f t M) fun v31 M30 => Cl (f_X11_setEntry 275 v31 (wr ((t - f - 1) * 100000)) M30) fun _ M33 => Lp (f_X9_measureLetter_L15_54 c J) G (f, 1, wr (t + 1), M33)) else (Cl (f_X9_placeOf (4 + c) f t M) fun v31 M30 => Cl (f_X11_setEntry 275 v31 (wr ((t - f + 1) * 100000)) M30) fun _ M33 => Lp (f_X9_measureLetter_L15_54 c J) G (f, 0, wr (t + 1), M33))) = J f M' ∧ Fl9 M M' ∧ (∀ t', t ≤ t' → t' ≤ S 0 33 → M' 275 (wix (4 + c) f t') = 100000 * lc S (4 + c) f t') ∧ ∀ i, (∀ t', t ≤ t' → t' ≤ S 0 33 → i ≠ wix (4 + c) f t') → M' 275 i = M 275 i := by
      intro bb hb
      have fin : ∀ x : Int, x = 100000 * lc S (4 + c) f t → ∃ M', Lp (f_X9_measureLetter_L15_54 c J) G (f, b2i bb, t + 1, up M 275 (wix (4 + c) f t) x) = J f M' ∧ Fl9 M M' ∧ (∀ t', t ≤ t' → t' ≤ S 0 33 → M' 275 (wix (4 + c) f t') = 100000 * lc S (4 + c) f t') ∧ ∀ i, (∀ t', t ≤ t' → t' ≤ S 0 33 → i ≠ wix (4 + c) f t') → M' 275 i = M 275 i := by
        intro x hx
        have e : bb = hsl S (4 + c) f (t + 1 - f - 1).toNat := by rw [hb, show t + 1 - f - 1 = t - f by omega]
        obtain ⟨M', r1, r2, r3, r4⟩ := ih (t + 1) G (up M 275 (wix (4 + c) f t) x) (hT.of rfl rfl fun k k1 k2 => up_ne _ _ _ (by omega)) (by omega) (by omega) (by omega)
        rw [← e] at r1
        refine ⟨M', r1, fun j hj => by rw [r2 j hj, up_ne _ _ _ hj], fun t' h1 h2 => ?_, fun i hi => ?_⟩
        · by_cases ct : t' = t
          · subst ct
            rw [r4 _ fun t'' q1 q2 q => by have := wix_inj (by omega) (by omega) (by omega) (by omega) (by omega) (by omega) q; omega, up_at, hx]
          · exact r3 t' (by omega) h2
        · rw [r4 i fun t' q1 q2 => hi t' (by omega) q2]
          have := hi t (Int.le_refl _) (by omega)
          simp [up, this]
      rw [wrE (v := (t - f - 1) * 100000) (by omega) (by omega), wrE (v := (t - f + 1) * 100000) (by omega) (by omega), wrE (v := t + 1) (by omega) (by omega), c9_place (by omega) (by omega) (by omega), ClS, ClS, c9_set (Or.inl rfl) (by omega) (by omega) (by omega), c9_set (Or.inl rfl) (by omega) (by omega) (by omega), ClS, ClS]
      cases bb with
      | true =>
        rw [if_pos rfl]
        exact fin _ (by unfold lc; rw [← hb, if_pos rfl]; omega)
      | false =>
        rw [if_neg (by decide)]
        exact fin _ (by unfold lc; rw [← hb, if_neg (by decide)]; omega)
    rw [Lp_s]
    simp only [f_X9_measureLetter_L15_54, LtE]
    rw [hT.1, if_neg (by omega), wrE (v := 4 + c) (by omega) (by omega), wrE (v := t - f) (by omega) (by omega), wrE (v := t - f + 1) (by omega) (by omega), wrE (v := t - f - 1) (by omega) (by omega)]
    by_cases ctf : f < t
    · have hst := hsl_step S (c := 4 + c) ctf
      cases hb : hsl S (4 + c) f (t - f - 1).toNat with
      | true =>
        have := tail true (by rw [hst, hb]; rfl)
        rw [if_pos rfl] at this
        have e1 : b2i true = 1 := rfl
        rw [e1, if_pos (by decide), if_neg (by decide)]
        exact this
      | false =>
        have e1 : b2i false = 0 := rfl
        have e274 : M 274 (t - 1).toNat = S 29 (t - 1).toNat - 97 := hT.2 _ (by omega)
        rw [e1, if_neg (fun q => q rfl), if_neg (by omega), wrE (v := t - 1) (by omega) (by omega), c_entryOf_in 12 alenC_274 (by omega) (by omega), ClS, e274]
        by_cases cl : S 29 (t - 1).toNat - 97 = c
        · have := tail true (by rw [hst, decide_eq_true (by omega), Bool.or_true])
          rw [if_pos rfl] at this
          rw [if_neg (fun q => q cl), if_neg (by decide)]
          exact this
        · have := tail false (by rw [hst, hb, decide_eq_false (by omega)]; rfl)
          rw [if_neg (by decide)] at this
          rw [if_pos cl, if_pos trivial]
          exact this
    · have etf : t = f := by omega
      subst etf
      have e0 : hsl S (4 + c) t (t - t - 1).toNat = false := by rw [show (t - t - 1).toNat = 0 by omega]; rfl
      have e1 : b2i false = 0 := rfl
      have := tail false (by rw [show (t - t).toNat = 0 by omega]; rfl)
      rw [if_neg (by decide)] at this
      rw [e0, e1, if_neg (fun q => q rfl), if_pos (Int.le_refl _), if_pos trivial]
      exact this
theorem c9_letter {S : Mm} {c : Int} (hl : 0 ≤ S 0 33 ∧ S 0 33 ≤ 12) (hc : 0 ≤ c ∧ c ≤ 5) {J : Mm → Rs} : ∀ (n : Nat) (f : Int) (F : Nat) (M : Mm), CT M S → 0 ≤ f → f + n = S 0 33 + 1 → n < F →
    ∃ M', Lp (f_X9_measureLetter_L2_55 c J) F (f, M) = J M' ∧ Fl9 M M' ∧ (∀ f' t', f ≤ f' → f' ≤ t' → t' ≤ S 0 33 → M' 275 (wix (4 + c) f' t') = 100000 * lc S (4 + c) f' t') ∧ ∀ i, (∀ f' t', f ≤ f' → f' ≤ t' → t' ≤ S 0 33 → i ≠ wix (4 + c) f' t') → M' 275 i = M 275 i := by
  intro n
  induction n with
  | zero =>
    intro f F M hT f0 hn hF
    obtain ⟨G, rfl⟩ : ∃ G, F = G + 1 := ⟨F - 1, by omega⟩
    refine ⟨M, ?_, fun _ _ => rfl, fun f' t' h1 h2 h3 => absurd h3 (by omega), fun _ _ => rfl⟩
    rw [Lp_s]
    simp only [f_X9_measureLetter_L2_55, LtE]
    rw [hT.1, if_pos (by omega)]
  | succ n ih =>
    intro f F M hT f0 hn hF
    obtain ⟨G, rfl⟩ : ∃ G, F = G + 1 := ⟨F - 1, by omega⟩
    obtain ⟨M1, r1, r2, r3, r4⟩ := c9_letIn hl hc f0 (by omega : f ≤ S 0 33) (J := fun v8 M9 => Lp (f_X9_measureLetter_L2_55 c J) G (wr (v8 + 1), M9)) (S 0 33 + 1 - f).toNat f FU M hT (Int.le_refl _) (by omega) (FU_lt (by omega))
    obtain ⟨M2, s1, s2, s3, s4⟩ := ih (f + 1) G M1 (hT.of rfl rfl fun k k1 k2 => r2 k (by omega)) (by omega) (by omega) (by omega)
    refine ⟨M2, ?_, fun j hj => by rw [s2 j hj, r2 j hj], fun f' t' h1 h2 h3 => ?_, fun i hi => ?_⟩
    · rw [Lp_s]
      simp only [f_X9_measureLetter_L2_55, LtE]
      rw [hT.1, if_neg (by omega)]
      have e : (f - f - 1).toNat = 0 := by omega
      have e2 : b2i (hsl S (4 + c) f (f - f - 1).toNat) = 0 := by rw [e]; rfl
      rw [e2] at r1
      refine Eq.trans r1 ?_
      rw [wrE (by omega) (by omega)]
      exact s1
    · by_cases cf : f' = f
      · subst cf
        rw [s4 _ fun f'' t'' q1 q2 q3 q => by have := wix_inj (by omega) (by omega) (by omega) (by omega) (by omega) (by omega) q; omega]
        exact r3 t' h2 h3
      · exact s3 f' t' (by omega) h2 h3
    · rw [s4 i fun f' t' q1 q2 q3 => hi f' t' (by omega) q2 q3]
      exact r4 i fun t' q1 q2 => hi f t' (Int.le_refl _) q1 q2
theorem c9_letters {S : Mm} (hl : 0 ≤ S 0 33 ∧ S 0 33 ≤ 12) {J : Mm → Rs} : ∀ (n : Nat) (c : Int) (F : Nat) (M : Mm), CT M S → 0 ≤ c → c + n = 6 → n < F →
    ∃ M', Lp (f_X9_measure_L20_34 J) F (c, M) = J M' ∧ Fl9 M M' ∧ (∀ c' f' t', c ≤ c' → c' < 6 → 0 ≤ f' → f' ≤ t' → t' ≤ S 0 33 → M' 275 (wix (4 + c') f' t') = 100000 * lc S (4 + c') f' t') ∧ ∀ i, (∀ c' f' t', c ≤ c' → c' < 6 → 0 ≤ f' → f' ≤ t' → t' ≤ S 0 33 → i ≠ wix (4 + c') f' t') → M' 275 i = M 275 i := by
  intro n
  induction n with
  | zero =>
    intro c F M hT c0 hn hF
    obtain ⟨G, rfl⟩ : ∃ G, F = G + 1 := ⟨F - 1, by omega⟩
    refine ⟨M, ?_, fun _ _ => rfl, fun c' f' t' h1 h2 => absurd h2 (by omega), fun _ _ => rfl⟩
    rw [Lp_s]
    simp only [f_X9_measure_L20_34, LtE]
    rw [if_pos (by omega)]
  | succ n ih =>
    intro c F M hT c0 hn hF
    obtain ⟨G, rfl⟩ : ∃ G, F = G + 1 := ⟨F - 1, by omega⟩
    obtain ⟨M1, r1, r2, r3, r4⟩ := c9_letter hl ⟨c0, by omega⟩ (J := fun M1 => some (0, M1)) (S 0 33 + 1).toNat 0 FU M hT (Int.le_refl _) (by omega) (FU_lt (by omega))
    have hml : f_X9_measureLetter c M = some (0, M1) := r1
    obtain ⟨M2, s1, s2, s3, s4⟩ := ih (c + 1) G M1 (hT.of rfl rfl fun k k1 k2 => r2 k (by omega)) (by omega) (by omega) (by omega)
    refine ⟨M2, ?_, fun j hj => by rw [s2 j hj, r2 j hj], fun c' f' t' h1 h2 h3 h4 h5 => ?_, fun i hi => ?_⟩
    · rw [Lp_s]
      simp only [f_X9_measure_L20_34, LtE]
      rw [if_neg (by omega), hml, ClS, wrE (by omega) (by omega)]
      exact s1
    · by_cases cc : c' = c
      · subst cc
        rw [s4 _ fun c'' f'' t'' q1 q2 q3 q4 q5 q => by have := wix_inj (by omega) (by omega) (by omega) (by omega) (by omega) (by omega) q; omega]
        exact r3 f' t' h3 h4 h5
      · exact s3 c' f' t' (by omega) h2 h3 h4 h5
    · rw [s4 i fun c' f' t' q1 q2 q3 q4 q5 => hi c' f' t' (by omega) q2 q3 q4 q5]
      exact r4 i fun f' t' q1 q2 q3 => hi c f' t' (Int.le_refl _) (by omega) q1 q2 q3
/-- all stretches ahead of one are settled, the others are not begun -/
def Msr (S : Mm) (W T : Nat → Int) (size from_ : Int) : Prop :=
  RwB W ∧ RwB T ∧ (∀ c f t : Int, 4 ≤ c → c ≤ 9 → 0 ≤ f → f ≤ t → t ≤ S 0 33 → W (wix c f t) = 100000 * lc S c f t) ∧
  ∀ f t : Int, 0 ≤ f → f ≤ t → t ≤ S 0 33 → ((t - f < size ∨ (t - f = size ∧ f < from_)) → Dn9 S W T f t) ∧ (¬ (t - f < size ∨ (t - f = size ∧ f < from_)) → ∀ B : Nat, B < 4 → W (wix (B : Int) f t) = 500000000)
theorem Msr.step {S M0 : Mm} (hg : Okg S) (hl : 0 ≤ S 0 33 ∧ S 0 33 ≤ 12) (hM : CG M0 S) {size from_ : Int} (s0 : 0 ≤ size) (f0 : 0 ≤ from_) (hle : from_ + size ≤ S 0 33) (h : Msr S (M0 275) (M0 276) size from_) : ∃ M', f_X9_measureStretch from_ (from_ + size) M0 = some (0, M') ∧ Fm9 M0 M' ∧ Msr S (M' 275) (M' 276) size (from_ + 1) := by
  have h10 := hg.1
  obtain ⟨h1, h2, h3, h4⟩ := h
  have hfr : 0 ≤ from_ ∧ from_ ≤ 12 := by omega
  have htr : 0 ≤ from_ + size ∧ from_ + size ≤ 12 := by omega
  obtain ⟨M', r1, r2, r3, r4, r5, r6, r7⟩ := c9_stretch hg hM f0 (by omega : from_ ≤ from_ + size) (by omega) h1 h2 (fun p p0 p1 e e1 e2 => ((h4 e (from_ + size) (by omega) e2 hle).1 (Or.inl (by omega))).2.2 p p0 p1) ((h4 from_ (from_ + size) f0 (by omega) hle).2 (by omega))
  refine ⟨M', r1, r2, r3, r4, fun c f t c4 c9 q0 q1 q2 => ?_, fun f t q0 q1 q2 => ⟨fun hp => ?_, fun hp B hB => ?_⟩⟩
  · rw [r5 _ fun B B0 B4 q => by have := wix_inj (by omega) (by omega) (by omega) B0 hfr htr q; omega]
    exact h3 c f t c4 c9 q0 q1 q2
  · by_cases ce : f = from_ ∧ t = from_ + size
    · rw [ce.1, ce.2]; exact r7
    · have hd := (h4 f t q0 q1 q2).1 (by omega)
      have hcell : ∀ c e b : Int, 0 ≤ c → c ≤ 9 → f ≤ e → e ≤ b → b ≤ t → M' 275 (wix c e b) = M0 275 (wix c e b) := fun c e b c0 c9 g1 g2 g3 => by
        rw [r5 _ fun B B0 B4 q => by have := wix_inj (by omega) (by omega) (by omega) B0 hfr htr q; omega]
      have hcq : ∀ p : Int, 0 ≤ p → p < S 0 0 → cq S (M' 275) p f t = cq S (M0 275) p f t := fun p p0 p1 => cq_congr hg ⟨p0, p1⟩ q0 q1 (by omega) hcell
      obtain ⟨d1, d2, d3⟩ := hd
      refine ⟨fun p p0 p1 => ?_, fun A a0 a4 => ?_, fun p p0 p1 h33 => ?_⟩
      · have hh := (hg.2.2.2.1 p p0 p1).1
        rw [hcq p p0 p1, hcell _ f t hh.1 (by omega) (Int.le_refl _) q1 (Int.le_refl _)]
        exact d1 p p0 p1
      · rw [hcell A f t a0 (by omega) (Int.le_refl _) q1 (Int.le_refl _)]
        rcases d2 A a0 a4 with q | ⟨p, p1, p2, p3⟩
        · exact Or.inl q
        · exact Or.inr ⟨p, p1, p2, by rw [hcq p p1.1 p1.2]; exact p3⟩
      · have e6 : M' 276 (wix p f t) = M0 276 (wix p f t) := r6 _ fun B B0 q => by
          have := wix_inj p0 (by omega) (by omega) B0 hfr htr q
          exact ce ⟨this.2.1, this.2.2⟩
        rw [e6, d3 p p0 p1 h33]
        exact (wg1_congr hg ⟨p0, p1⟩ h33 q1 hcell).symm
  · rw [r5 _ fun B' B0 B4 q => by have := wix_inj (by omega) (by omega) (by omega) B0 hfr htr q; omega]
    exact (h4 f t q0 q1 q2).2 (by omega) B hB
theorem c9_sizes {S : Mm} (hg : Okg S) (hl : 0 ≤ S 0 33 ∧ S 0 33 ≤ 12) {size : Int} (s0 : 0 ≤ size) (sl : size ≤ S 0 33) {J : Int → Mm → Rs} : ∀ (n : Nat) (from_ : Int) (F : Nat) (M : Mm), CG M S → CT M S → 0 ≤ from_ → from_ + size + n = S 0 33 + 1 → n < F → Msr S (M 275) (M 276) size from_ →
    ∃ M', Lp (f_X9_measure_L49_26 J) F (size, from_, M) = J size M' ∧ Fm9 M M' ∧ Msr S (M' 275) (M' 276) (size + 1) 0 := by
  intro n
  induction n with
  | zero =>
    intro from_ F M hM hT f0 hn hF h
    obtain ⟨G, rfl⟩ : ∃ G, F = G + 1 := ⟨F - 1, by omega⟩
    refine ⟨M, ?_, Fm9.refl M, h.1, h.2.1, h.2.2.1, fun f t q0 q1 q2 => ⟨fun hp => (h.2.2.2 f t q0 q1 q2).1 (by omega), fun hp => (h.2.2.2 f t q0 q1 q2).2 (by omega)⟩⟩
    rw [Lp_s]
    simp only [f_X9_measure_L49_26, LtE]
    rw [hT.1, wrE (by omega) (by omega), if_pos (by omega)]
  | succ n ih =>
    intro from_ F M hM hT f0 hn hF h
    obtain ⟨G, rfl⟩ : ∃ G, F = G + 1 := ⟨F - 1, by omega⟩
    obtain ⟨M1, r1, r2, r3⟩ := h.step hg hl hM s0 f0 (by omega)
    obtain ⟨M2, t1, t2, t3⟩ := ih (from_ + 1) G M1 (hM.of fun j j1 j2 => r2.1 j (by omega) (by omega) (by omega)) ⟨by rw [r2.2 0 (by decide)]; exact hT.1, fun k hk => by rw [r2.1 274 (by decide) (by decide) (by decide)]; exact hT.2 k hk⟩ (by omega) (by omega) (by omega) r3
    refine ⟨M2, ?_, r2.trans t2, t3⟩
    rw [Lp_s]
    simp only [f_X9_measure_L49_26, LtE]
    rw [hT.1, wrE (v := from_ + size) (by omega) (by omega), if_neg (by omega), r1, ClS, wrE (by omega) (by omega)]
    exact t1
theorem c9_all {S : Mm} (hg : Okg S) (hl : 0 ≤ S 0 33 ∧ S 0 33 ≤ 12) {J : Mm → Rs} : ∀ (n : Nat) (size : Int) (F : Nat) (M : Mm), CG M S → CT M S → 0 ≤ size → size + n = S 0 33 + 1 → n < F → Msr S (M 275) (M 276) size 0 →
    ∃ M', Lp (f_X9_measure_L39_27 J) F (size, M) = J M' ∧ Fm9 M M' ∧ Msr S (M' 275) (M' 276) (S 0 33 + 1) 0 := by
  intro n
  induction n with
  | zero =>
    intro size F M hM hT s0 hn hF h
    obtain ⟨G, rfl⟩ : ∃ G, F = G + 1 := ⟨F - 1, by omega⟩
    have e : size = S 0 33 + 1 := by omega
    subst e
    refine ⟨M, ?_, Fm9.refl M, h⟩
    rw [Lp_s]
    simp only [f_X9_measure_L39_27, LtE]
    rw [hT.1, if_pos (by omega)]
  | succ n ih =>
    intro size F M hM hT s0 hn hF h
    obtain ⟨G, rfl⟩ : ∃ G, F = G + 1 := ⟨F - 1, by omega⟩
    obtain ⟨M1, r1, r2, r3⟩ := c9_sizes hg hl s0 (by omega : size ≤ S 0 33) (J := fun v12 M13 => Lp (f_X9_measure_L39_27 J) G (wr (v12 + 1), M13)) (S 0 33 + 1 - size).toNat 0 FU M hM hT (Int.le_refl _) (by omega) (FU_lt (by omega)) h
    obtain ⟨M2, t1, t2, t3⟩ := ih (size + 1) G M1 (hM.of fun j j1 j2 => r2.1 j (by omega) (by omega) (by omega)) ⟨by rw [r2.2 0 (by decide)]; exact hT.1, fun k hk => by rw [r2.1 274 (by decide) (by decide) (by decide)]; exact hT.2 k hk⟩ (by omega) (by omega) (by omega) r3
    refine ⟨M2, ?_, r2.trans t2, t3⟩
    rw [Lp_s]
    simp only [f_X9_measure_L39_27, LtE]
    rw [hT.1, if_neg (by omega)]
    refine Eq.trans r1 ?_
    rw [wrE (by omega) (by omega)]
    exact t1
theorem Msr.sol {S : Mm} (hg : Okg S) (hl : 0 ≤ S 0 33 ∧ S 0 33 ≤ 12) {W T : Nat → Int} (h : Msr S W T (S 0 33 + 1) 0) : Sol S 100000 500000000 (wOf W) := by
  obtain ⟨h1, h2, h3, h4⟩ := h
  refine ⟨h3, fun A f t a0 a4 f0 ft tl => ?_⟩
  obtain ⟨d1, d2, d3⟩ := (h4 f t f0 ft tl).1 (Or.inl (by omega))
  have hb := h1 _ (wix_lt (a := A) (f := f) (t := t) (by omega) (by omega) (by omega)).1
  have hpos : ∀ p : Int, 0 ≤ p → p < S 0 0 → 1 ≤ cq S W p f t := fun p p0 p1 => (cq_bd hg h1 ⟨p0, p1⟩ f0 ft (by omega)).1
  refine ⟨⟨?_, hb.2⟩, fun p a b p0 p1 hA q1 q2 q3 _ => ?_, fun hE => ?_⟩
  · unfold wOf
    rcases d2 A a0 a4 with q | ⟨p, p1, p2, p3⟩
    · omega
    · have := hpos p p1.1 p1.2
      have := d1 p p1.1 p1.2
      rw [p2] at this
      omega
  · have := d1 p p0 p1
    rw [hA] at this
    exact Int.le_trans this (cq_le hg ⟨p0, p1⟩ f0 (by omega) q1 q2 q3)
  · unfold wOf at hE
    rcases d2 A a0 a4 with q | ⟨p, p1, p2, p3⟩
    · omega
    · have hc := d1 p p1.1 p1.2
      rw [p2] at hc
      obtain ⟨a, b, q1, q2, q3, q4⟩ := cq_at hg h1 p1 f0 ft (by omega) (by omega)
      refine ⟨p, a, b, p1, p2, ⟨q1, q2, q3⟩, fun x hx => ?_, ?_⟩
      · have hok := pts_ok hg p1 q1 q2 q3
        have hxn : ∀ y ∈ pts S p f a b t, 0 ≤ wOf W y.1 y.2.1 y.2.2 := fun y hy => by
          have := hok y hy
          exact (h1 _ (wix_lt (by omega) (by omega) (by omega)).1).1
        have := sW_mem _ hxn x hx
        unfold cdv at q4
        have h6 : 0 ≤ if S 2 p.toNat = 0 then 100000 * (t - f) else 0 := by split <;> omega
        omega
      · unfold wOf
        have q5 := q4
        unfold wOf at q5
        omega
/-- the class measures a text -/
theorem c9_measure {S M : Mm} (hg : Okg S) (hl : 0 ≤ S 0 33 ∧ S 0 33 ≤ 12) (hM : CG M S) (hT : CT M S) : ∃ M', f_X9_measure M = some (0, M') ∧ Fm9 M M' ∧ Msr S (M' 275) (M' 276) (S 0 33 + 1) 0 := by
  generalize hM1 : (sr (sr M 275 fun j => if j < 1690 then 500000000 else M 275 j) 276 fun j => if j < 1690 then 500000000 else M 276 j) = M1
  have m1 : ∀ j, j ≠ 275 → j ≠ 276 → M1 j = M j := fun j a b => by rw [← hM1, sr_ne _ _ b, sr_ne _ _ a]
  have hT1 : CT M1 S := hT.of rfl rfl fun k k1 k2 => m1 k (by omega) (by omega)
  obtain ⟨M2, r1, r2, r3, r4⟩ := c9_letters hl (J := fun M3 => Lp (f_X9_measure_L39_27 fun M5 => some (0, M5)) FU (0, M3)) 6 0 FU M1 hT1 (Int.le_refl _) rfl (FU_lt (by decide))
  have e275 : ∀ i, i < 1690 → M1 275 i = 500000000 := fun i hi => by rw [← hM1, sr_ne _ _ (by decide), sr_at, if_pos hi]
  have e276 : ∀ i, i < 1690 → M1 276 i = 500000000 := fun i hi => by rw [← hM1, sr_at, if_pos hi]
  have hms : Msr S (M2 275) (M2 276) 0 0 := by
    refine ⟨fun i hi => ?_, fun i hi => by rw [r2 276 (by decide), e276 i hi]; exact ⟨by decide, by decide⟩, fun c f t c4 c9 f0 ft tl => ?_, fun f t f0 ft tl => ⟨fun q => absurd q (by omega), fun _ B hB => ?_⟩⟩
    · by_cases q : ∃ c' f' t' : Int, 0 ≤ c' ∧ c' < 6 ∧ 0 ≤ f' ∧ f' ≤ t' ∧ t' ≤ S 0 33 ∧ i = wix (4 + c') f' t'
      · obtain ⟨c', f', t', q1, q2, q3, q4, q5, q6⟩ := q
        rw [q6, r3 c' f' t' q1 q2 q3 q4 q5]
        have := lc_bd (S := S) (c := 4 + c') q4
        omega
      · rw [r4 i fun c' f' t' q1 q2 q3 q4 q5 q6 => q ⟨c', f', t', q1, q2, q3, q4, q5, q6⟩, e275 i hi]
        exact ⟨by decide, by decide⟩
    · have := r3 (c - 4) f t (by omega) (by omega) f0 ft tl
      rw [show 4 + (c - 4) = c by omega] at this
      exact this
    · rw [r4 _ fun c' f' t' q1 q2 q3 q4 q5 q6 => by have := wix_inj (by omega) (by omega) (by omega) (by omega) (by omega) (by omega) q6; omega]
      exact e275 _ (wix_lt (by omega) (by omega) (by omega)).1
  obtain ⟨M3, t1, t2, t3⟩ := c9_all hg hl (J := fun M5 => some (0, M5)) (S 0 33 + 1).toNat 0 FU M2 (hM.of fun j j1 j2 => by rw [r2 j (by omega), m1 j (by omega) (by omega)]) (hT1.of rfl rfl fun k k1 k2 => r2 k (by omega)) (Int.le_refl _) (by omega) (FU_lt (by omega)) hms
  refine ⟨M3, ?_, ⟨fun j a b c => by rw [t2.1 j a b c, r2 j b, m1 j b c], fun i hi => by rw [t2.2 i hi, r2 273 (by decide), m1 273 (by decide) (by decide)]⟩, t3⟩
  unfold f_X9_measure
  simp only [LtE]
  rw [c_fillRow, ClS, c_fillRow, ClS, alenC_275, alenC_276, sr_ne _ _ (show (276 : Nat) ≠ 275 by decide), hM1]
  exact r1.trans t1
