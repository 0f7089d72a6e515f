/-! sweeps over all productions and stretches, until nothing goes -/
theorem Bx.false_ {S M M' : Mm} {g : Bool} (h : Bx S M M' g false) : g = false ∧ M' = M := h.2.2.2.2 rfl
theorem r_sw1 {S : Mm} (hg : Okg S) (hl : S 0 33 ≤ 12) {wide f : Int} (w0 : 0 ≤ wide) (f0 : 0 ≤ f) (tl : f + wide ≤ S 0 33) {J : Int → Int → Int → Mm → Rs} : ∀ (n : Nat) (p : Int) (F : Nat) (M : Mm) (g : Bool), 0 ≤ p → p + n = S 0 0 → n < F → Gr M S → Jb M → Ja S M →
    ∃ (g' : Bool) (M' : Mm), Lp (f_X12_findsBest_L64_62 J) F (b2i g, wide, f, p, M) = J (b2i g') wide f M' ∧ Bx S M M' g g' ∧ (g' = false → ∀ q, p ≤ q → q < S 0 0 → ClR S M q f (f + wide)) := by
  have h10 := hg.1
  intro n
  induction n with
  | zero =>
    intro p F M g p0 hn hF hG hb ha
    obtain ⟨G, rfl⟩ : ∃ G, F = G + 1 := ⟨F - 1, by omega⟩
    refine ⟨g, M, ?_, Bx.refl hb ha g, fun _ q q1 q2 => absurd q2 (by omega)⟩
    rw [Lp_s]
    simp only [f_X12_findsBest_L64_62, LtE]
    rw [hG.2.2.2.2.2.2.2.1, if_pos (by omega)]
  | succ n ih =>
    intro p F M g p0 hn hF hG hb ha
    obtain ⟨G, rfl⟩ : ∃ G, F = G + 1 := ⟨F - 1, by omega⟩
    obtain ⟨g1, M1, t1, t2, t3⟩ := r_betters hg hl (p := p) ⟨p0, by omega⟩ f0 (by omega : f ≤ f + wide) tl hG hb ha
    have key : ∃ (g' : Bool) (M' : Mm), Lp (f_X12_findsBest_L64_62 J) G (b2i (g1 || g), wide, f, p + 1, M1) = J (b2i g') wide f M' ∧ Bx S M M' g g' ∧ (g' = false → ∀ q, p ≤ q → q < S 0 0 → ClR S M q f (f + wide)) := by
      obtain ⟨g2, M2, s1, s2, s3⟩ := ih (p + 1) G M1 (g1 || g) (by omega) (by omega) (by omega) (hG.fb t2.1) t2.2.1.1 t2.2.1.2
      obtain ⟨k1, k2, k3, k4, k5⟩ := t2
      obtain ⟨m1, m2, m3, m4, m5⟩ := s2
      refine ⟨g2, M2, s1, ⟨k1.trans m1, m2, by omega, fun z => ?_, fun z => ?_⟩, fun z q q1 q2 => ?_⟩
      · rcases m4 z with y | y
        · rw [Bool.or_eq_true] at y
          rcases y with y | y
          · rcases k4 y with x | x
            · cases x
            · exact Or.inr (by omega)
          · exact Or.inl y
        · exact Or.inr (by omega)
      · obtain ⟨y1, y2⟩ := m5 z
        rw [Bool.or_eq_false_iff] at y1
        exact ⟨y1.2, y2.trans (k5 y1.1).2⟩
      · obtain ⟨y1, y2⟩ := m5 z
        rw [Bool.or_eq_false_iff] at y1
        by_cases cq : q = p
        · subst cq; exact t3 y1.1
        · have := s3 z q (by omega) q2
          rw [(k5 y1.1).2] at this
          exact this
    rw [Lp_s]
    simp only [f_X12_findsBest_L64_62, LtE]
    rw [hG.2.2.2.2.2.2.2.1, if_neg (by omega), wrE (v := f + wide) (by omega) (by omega), t1, ClS, wrE (v := p + 1) (by omega) (by omega)]
    have e1 : b2i true = 1 := rfl
    have e0 : b2i false = 0 := rfl
    cases g1 with
    | true =>
      rw [e1, if_pos (by decide)]
      exact key
    | false =>
      rw [e0, if_neg (fun q => q rfl)]
      cases g with
      | true =>
        rw [e1, if_neg (by decide)]
        exact key
      | false =>
        rw [e0, if_pos rfl]
        exact key
theorem r_sw2 {S : Mm} (hg : Okg S) (hl : S 0 33 ≤ 12) {wide : Int} (w0 : 0 ≤ wide) (wl : wide ≤ S 0 33) {J : Int → Int → Mm → Rs} : ∀ (n : Nat) (f : Int) (F : Nat) (M : Mm) (g : Bool), 0 ≤ f → f + wide + n = S 0 33 + 1 → n < F → Gr M S → Jb M → Ja S M →
    ∃ (g' : Bool) (M' : Mm), Lp (f_X12_findsBest_L51_63 J) F (b2i g, wide, f, M) = J (b2i g') wide M' ∧ Bx S M M' g g' ∧ (g' = false → ∀ e, f ≤ e → e + wide ≤ S 0 33 → ∀ q, 0 ≤ q → q < S 0 0 → ClR S M q e (e + wide)) := by
  have h10 := hg.1
  intro n
  induction n with
  | zero =>
    intro f F M g f0 hn hF hG hb ha
    obtain ⟨G, rfl⟩ : ∃ G, F = G + 1 := ⟨F - 1, by omega⟩
    refine ⟨g, M, ?_, Bx.refl hb ha g, fun _ e e1 e2 => absurd e2 (by omega)⟩
    rw [Lp_s]
    simp only [f_X12_findsBest_L51_63, LtE]
    rw [hG.2.2.2.2.2.2.2.2, wrE (by omega) (by omega), if_pos (by omega)]
  | succ n ih =>
    intro f F M g f0 hn hF hG hb ha
    obtain ⟨G, rfl⟩ : ∃ G, F = G + 1 := ⟨F - 1, by omega⟩
    obtain ⟨g1, M1, t1, t2, t3⟩ := r_sw1 hg hl w0 f0 (by omega : f + wide ≤ S 0 33) (J := fun v31 v32 v33 M34 => Lp (f_X12_findsBest_L51_63 J) G (v31, v32, wr (v33 + 1), M34)) (S 0 0).toNat 0 FU M g (Int.le_refl _) (by omega) (FU_lt (by omega)) hG hb ha
    obtain ⟨g2, M2, s1, s2, s3⟩ := ih (f + 1) G M1 g1 (by omega) (by omega) (by omega) (hG.fb t2.1) t2.2.1.1 t2.2.1.2
    refine ⟨g2, M2, ?_, t2.trans s2, fun z e e1 e2 q q0 q1 => ?_⟩
    · rw [Lp_s]
      simp only [f_X12_findsBest_L51_63, LtE]
      rw [hG.2.2.2.2.2.2.2.2, wrE (v := f + wide) (by omega) (by omega), if_neg (by omega)]
      refine t1.trans ?_
      rw [wrE (by omega) (by omega)]
      exact s1
    · obtain ⟨z1, z2⟩ := s2.2.2.2.2 z
      by_cases ce : e = f
      · subst ce
        exact t3 z1 q q0 q1
      · have := s3 z e (by omega) e2 q q0 q1
        rw [(t2.2.2.2.2 z1).2] at this
        exact this
theorem r_sw3 {S : Mm} (hg : Okg S) (hl : 0 ≤ S 0 33 ∧ S 0 33 ≤ 12) {J : Int → Mm → Rs} : ∀ (n : Nat) (wide : Int) (F : Nat) (M : Mm) (g : Bool), 0 ≤ wide → wide + n = S 0 33 + 1 → n < F → Gr M S → Jb M → Ja S M →
    ∃ (g' : Bool) (M' : Mm), Lp (f_X12_findsBest_L41_64 J) F (b2i g, wide, M) = J (b2i g') M' ∧ Bx S M M' g g' ∧ (g' = false → ∀ w, wide ≤ w → ∀ e, 0 ≤ e → e + w ≤ S 0 33 → ∀ q, 0 ≤ q → q < S 0 0 → ClR S M q e (e + w)) := by
  intro n
  induction n with
  | zero =>
    intro wide F M g w0 hn hF hG hb ha
    obtain ⟨G, rfl⟩ : ∃ G, F = G + 1 := ⟨F - 1, by omega⟩
    refine ⟨g, M, ?_, Bx.refl hb ha g, fun _ w w1 e e1 e2 => absurd e2 (by omega)⟩
    rw [Lp_s]
    simp only [f_X12_findsBest_L41_64, LtE]
    rw [hG.2.2.2.2.2.2.2.2, if_pos (by omega)]
  | succ n ih =>
    intro wide F M g w0 hn hF hG hb ha
    obtain ⟨G, rfl⟩ : ∃ G, F = G + 1 := ⟨F - 1, by omega⟩
    obtain ⟨g1, M1, t1, t2, t3⟩ := r_sw2 hg hl.2 w0 (by omega : wide ≤ S 0 33) (J := fun v18 v19 M20 => Lp (f_X12_findsBest_L41_64 J) G (v18, wr (v19 + 1), M20)) (S 0 33 + 1 - wide).toNat 0 FU M g (Int.le_refl _) (by omega) (FU_lt (by omega)) hG hb ha
    obtain ⟨g2, M2, s1, s2, s3⟩ := ih (wide + 1) G M1 g1 (by omega) (by omega) (by omega) (hG.fb t2.1) t2.2.1.1 t2.2.1.2
    refine ⟨g2, M2, ?_, t2.trans s2, fun z w w1 e e1 e2 q q0 q1 => ?_⟩
    · rw [Lp_s]
      simp only [f_X12_findsBest_L41_64, LtE]
      rw [hG.2.2.2.2.2.2.2.2, if_neg (by omega)]
      refine t1.trans ?_
      rw [wrE (by omega) (by omega)]
      exact s1
    · obtain ⟨z1, z2⟩ := s2.2.2.2.2 z
      by_cases ce : w = wide
      · subst ce
        exact t3 z1 e e1 e2 q q0 q1
      · have := s3 z w (by omega) e e1 e2 q q0 q1
        rw [(t2.2.2.2.2 z1).2] at this
        exact this
theorem r_while {S : Mm} (hg : Okg S) (hl : 0 ≤ S 0 33 ∧ S 0 33 ≤ 12) {J : Mm → Rs} : ∀ (N : Nat) (F : Nat) (M : Mm), (pot M).toNat = N → N + 1 < F → Gr M S → Jb M → Ja S M →
    ∃ M' : Mm, Lp (f_X12_findsBest_L33_65 J) F (1, M) = J M' ∧ Fb M M' ∧ Jb M' ∧ Ja S M' ∧ ∀ e t, 0 ≤ e → e ≤ t → t ≤ S 0 33 → ∀ q, 0 ≤ q → q < S 0 0 → ClR S M' q e t := by
  intro N
  induction N using Nat.strongRecOn with
  | ind N ih =>
    intro F M hN hF hG hb ha
    obtain ⟨G, rfl⟩ : ∃ G, F = G + 1 := ⟨F - 1, by omega⟩
    obtain ⟨g1, M1, t1, t2, t3⟩ := r_sw3 hg hl (J := fun v9 M10 => Lp (f_X12_findsBest_L33_65 J) G (v9, M10)) (S 0 33 + 1).toNat 0 FU M false (Int.le_refl _) (by omega) (FU_lt (by omega)) hG hb ha
    have hrun : Lp (f_X12_findsBest_L33_65 J) (G + 1) (1, M) = Lp (f_X12_findsBest_L33_65 J) G (b2i g1, M1) := by
      rw [Lp_s]
      simp only [f_X12_findsBest_L33_65, LtE]
      rw [if_neg (by decide)]
      exact t1
    rw [hrun]
    obtain ⟨k1, k2, k3, k4, k5⟩ := t2
    cases g1 with
    | true =>
      rcases k4 rfl with q | q
      · cases q
      · have p1 := pot_bd hb
        have p2 := pot_bd k2.1
        obtain ⟨M2, s1, s2, s3⟩ := ih (pot M1).toNat (by omega) G M1 rfl (by omega) (hG.fb k1) k2.1 k2.2
        exact ⟨M2, s1, k1.trans s2, s3⟩
    | false =>
      obtain ⟨G2, rfl⟩ : ∃ G2, G = G2 + 1 := ⟨G - 1, by omega⟩
      obtain ⟨-, e⟩ := k5 rfl
      subst e
      refine ⟨M1, ?_, k1, k2.1, k2.2, fun e t e0 et tl q q0 q1 => ?_⟩
      · have e0 : b2i false = 0 := rfl
        rw [e0, Lp_s]
        simp only [f_X12_findsBest_L33_65]
        rw [if_pos trivial]
      · have := t3 rfl (t - e) (by omega) e e0 (by omega) q q0 q1
        rw [show e + (t - e) = t by omega] at this
        exact this
theorem r_fillB {J : Mm → Rs} {M : Mm} : Lp (f_X12_findsBest_L2_73 J) FU (0, M) = J (sr (sr M 43 fun j => if j < 676 then 99999 else M 43 j) 44 fun j => if j < 676 then 0 else M 44 j) := by
  refine Lp_for 676 (fun i => ((i : Int), sr (sr M 43 fun j => if j < i then 99999 else M 43 j) 44 fun j => if j < i then 0 else M 44 j)) (fun rc i hi => ?_) (fun rc => ?_) (FU_lt (by omega)) ?_
  · simp only [f_X12_findsBest_L2_73, LtE]
    rw [if_neg (by omega), gdE (by omega), gdE (by omega), wrE (by omega) (by omega), Int.toNat_natCast]
    refine congrArg rc (Prod.ext (by simp only; omega) (funext fun k => ?_))
    simp only
    by_cases k44 : k = 44
    · subst k44
      rw [up_sr, sr_at, up_ne _ _ _ (by decide), sr_at, sr_at]
      funext j
      by_cases e : j = i
      · subst e; rw [if_pos rfl, if_pos (by omega)]
      · rw [if_neg e]
        by_cases e2 : j < i
        · rw [if_pos e2, if_pos (by omega)]
        · rw [if_neg e2, if_neg (by omega)]
    · rw [up_ne _ _ _ k44, sr_ne _ _ k44]
      by_cases k43 : k = 43
      · subst k43
        rw [up_sr, sr_at, sr_ne _ _ (by decide), sr_at, sr_at]
        funext j
        by_cases e : j = i
        · subst e; rw [if_pos rfl, if_pos (by omega)]
        · rw [if_neg e]
          by_cases e2 : j < i
          · rw [if_pos e2, if_pos (by omega)]
          · rw [if_neg e2, if_neg (by omega)]
      · rw [up_ne _ _ _ k43, sr_ne _ _ k44, sr_ne _ _ k43, sr_ne _ _ k43]
  · simp only [f_X12_findsBest_L2_73, LtE]
    rw [if_pos (by omega)]
  · have e1 : (fun (j : Nat) => if j < 0 then (99999 : Int) else M 43 j) = M 43 := funext fun j => if_neg (Nat.not_lt_zero _)
    have e2 : (fun (j : Nat) => if j < 0 then (0 : Int) else M 44 j) = M 44 := funext fun j => if_neg (Nat.not_lt_zero _)
    simp only [e1, e2, sr_self]
    rfl
/-- the reference finds the best trees -/
theorem r_findsBest {S M : Mm} (hg : Okg S) (hl : 0 ≤ S 0 33 ∧ S 0 33 ≤ 12) (hG : Gr M S) : ∃ M', f_X12_findsBest M = some (0, M') ∧ Fb M M' ∧ Jb M' ∧ Sol S 10000 999990000 (vW S M') := by
  generalize hM1 : (sr (sr M 43 fun j => if j < 676 then 99999 else M 43 j) 44 fun j => if j < 676 then 0 else M 44 j) = M1
  have f1 : Fb M M1 := fun j a b => by rw [← hM1, sr_ne _ _ b, sr_ne _ _ a]
  have e43 : ∀ i, i < 676 → M1 43 i = 99999 := fun i hi => by rw [← hM1, sr_ne _ _ (by decide), sr_at, if_pos hi]
  have e44 : ∀ i, i < 676 → M1 44 i = 0 := fun i hi => by rw [← hM1, sr_at, if_pos hi]
  have hb : Jb M1 := fun i hi => by rw [e43 i hi, e44 i hi]; exact ⟨by decide, by decide, fun _ => rfl⟩
  have ha : Ja S M1 := fun A f t a0 a4 f0 ft tl => by
    left
    have hv := vW_bd (S := S) hb (A := A) ⟨a0, a4⟩ f0 ft (by omega)
    exact hv.2.2.2.mpr (e43 _ (wix_676 ⟨a0, a4⟩ ⟨f0, by omega⟩ ⟨by omega, by omega⟩))
  have hp := pot_bd hb
  obtain ⟨M2, t1, t2, t3, t4, t5⟩ := r_while hg hl (J := fun M3 => some (0, M3)) _ FU M1 rfl (FU_lt (by omega)) (hG.fb f1) hb ha
  refine ⟨M2, ?_, f1.trans t2, t3, fun c f t c4 c9 f0 ft tl => ?_, fun A f t a0 a4 f0 ft tl => ?_⟩
  · unfold f_X12_findsBest
    simp only [LtE]
    rw [r_fillB, hM1]
    exact t1
  · unfold vW rC rN
    rw [if_neg (by omega), if_neg (by omega), Int.add_zero]
  · have hv := vW_bd (S := S) t3 (A := A) ⟨a0, a4⟩ f0 ft (by omega)
    have hcdp : ∀ p a b, 0 ≤ p → p < S 0 0 → f ≤ a → a ≤ b → b ≤ t → 1 ≤ cdv S 10000 (vW S M2) p f a b t := fun p a b p0 p1 h1 h2 h3 => by
      have hok := pts_ok hg ⟨p0, p1⟩ h1 h2 h3
      have : 0 ≤ sW (vW S M2) (pts S p f a b t) := sW_nn _ fun x hx => by
        have q := hok x hx
        have k1 := rC_bd (S := S) t3 q.1 (by omega : 0 ≤ x.2.1) q.2.2.1 (by omega)
        have k2 := rN_bd t3 q.1 (by omega : 0 ≤ x.2.1) q.2.2.1 (by omega)
        unfold vW
        omega
      unfold cdv
      have h6 : 0 ≤ if S 2 p.toNat = 0 then 10000 * (t - f) else 0 := by split <;> omega
      omega
    refine ⟨⟨?_, hv.2.2.1⟩, fun p a b p0 p1 hA h1 h2 h3 _ => ?_, fun hE => ?_⟩
    · rcases t4 A f t a0 a4 f0 ft tl with q | ⟨p, a, b, q1, q2, q3, q4, q5⟩
      · omega
      · have := hcdp p a b q1.1 q1.2 q3.1 q3.2.1 q3.2.2
        omega
    · have := t5 f t f0 ft tl p p0 p1 a b h1 h2 h3
      rw [hA] at this
      exact this
    · rcases t4 A f t a0 a4 f0 ft tl with q | ⟨p, a, b, q1, q2, q3, q4, q5⟩
      · omega
      · have := t5 f t f0 ft tl p q1.1 q1.2 a b q3.1 q3.2.1 q3.2.2
        rw [q2] at this
        exact ⟨p, a, b, q1, q2, q3, q4, by omega⟩
/-- so both sides weigh alike -/
theorem both_weigh {S : Mm} (hg : Okg S) (hl : 0 ≤ S 0 33 ∧ S 0 33 ≤ 12) {W : Nat → Int} {M : Mm} (h1 : Sol S 100000 500000000 (wOf W)) (h2 : Sol S 10000 999990000 (vW S M)) {c f t : Int} (c0 : 0 ≤ c) (c9 : c ≤ 9) (f0 : 0 ≤ f) (ft : f ≤ t) (tl : t ≤ S 0 33) : vW S M c f t = cnv (wOf W) c f t := by
  have h3 := cnv_sol hg h1 hl.2
  by_cases c4 : c < 4
  · exact h2.uniq hg h3 (by decide) c0 c4 f0 ft tl
  · rw [h2.1 c f t (by omega) c9 f0 ft tl, h3.1 c f t (by omega) c9 f0 ft tl]
