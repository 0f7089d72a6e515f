/-! places of nodes gone and new -/
/-- the places of the first k old nodes -/
def Pls (R : Mm) (k : Nat) (L : Int) : Prop := (0 ≤ L ∧ L < 1152921504606846976) ∧ ∀ q : Nat, bt L q = true ↔ ∃ m : Nat, m < k ∧ R 36 m = (q : Int)
theorem r_gone {R M : Mm} (hn : 0 ≤ R 0 35 ∧ R 0 35 ≤ 30) (hP : PlO R) (h44 : M 0 44 = R 0 35) (h41 : ∀ m : Nat, (m : Int) < R 0 35 → M 41 m = R 36 m) {J : Int → Int → Int → Mm → Rs} (s n : Int) : ∃ g, Lp (f_X12_keepsNodes_L210_109 J) FU (s, n, 0, 0, M) = J s n g M ∧ Pls R (R 0 35).toNat g := by
  have key : ∀ (d k F : Nat) (g : Int), (k : Int) + d = R 0 35 → d < F → Pls R k g → ∃ g', Lp (f_X12_keepsNodes_L210_109 J) F (s, n, g, (k : Int), M) = J s n g' M ∧ Pls R (R 0 35).toNat g' := by
    intro d
    induction d with
    | zero =>
      intro k F g hk hF h1
      obtain ⟨G, rfl⟩ : ∃ G, F = G + 1 := ⟨F - 1, by omega⟩
      have : (R 0 35).toNat = k := by omega
      refine ⟨g, ?_, by rw [this]; exact h1⟩
      rw [Lp_s]
      simp only [f_X12_keepsNodes_L210_109, LtE]
      rw [h44, if_pos (by omega)]
    | succ d ih =>
      intro k F g hk hF h1
      obtain ⟨G, rfl⟩ : ∃ G, F = G + 1 := ⟨F - 1, by omega⟩
      have hpl := (hP k (by omega)).1
      have hsh := lshl_ok hpl
      rw [Lp_s]
      simp only [f_X12_keepsNodes_L210_109, LtE]
      rw [h44, if_neg (by omega), gdE (by omega), Int.toNat_natCast, h41 k (by omega), wrE (by omega) (by omega), show (k : Int) + 1 = ((k + 1 : Nat) : Int) by omega]
      refine ih (k + 1) G _ (by omega) (by omega) ⟨(lor_nat h1.1 hsh.1).1, fun q => ?_⟩
      rw [lor_bt h1.1 hsh.1, Bool.or_eq_true, h1.2, hsh.2, decide_eq_true_iff]
      constructor
      · rintro (⟨m, m1, m2⟩ | e)
        · exact ⟨m, by omega, m2⟩
        · exact ⟨k, Nat.lt_succ_self _, e.symm⟩
      · rintro ⟨m, m1, m2⟩
        by_cases c : m = k
        · subst c; exact Or.inr m2.symm
        · exact Or.inl ⟨m, by omega, m2⟩
  exact key (R 0 35).toNat 0 FU 0 (by omega) (FU_lt (by omega)) ⟨by decide, fun q => ⟨fun h => (by rw [bt0] at h; cases h), fun ⟨x, h, _⟩ => absurd h (Nat.not_lt_zero _)⟩⟩
theorem cntm_upto (P : Nat → Bool) {a b : Nat} (h : a ≤ b) : cntm P a ≤ cntm P b := by
  induction b with
  | zero => have : a = 0 := by omega
            subst this; exact Nat.le_refl _
  | succ b ih =>
    by_cases c : a = b + 1
    · subst c; exact Nat.le_refl _
    · have := ih (by omega)
      simp only [cntm]
      omega
/-- old places are no more than old nodes -/
theorem places_few {R : Mm} (hn : 0 ≤ R 0 35 ∧ R 0 35 ≤ 30) {O : Nat → Bool} (hO : ∀ q, O q = true → ∃ m : Nat, (m : Int) < R 0 35 ∧ R 36 m = (q : Int)) : cntm O 60 ≤ 30 := by
  have h1 : ∀ q : Nat, ∃ m : Nat, O q = true → (m : Int) < R 0 35 ∧ R 36 m = (q : Int) := fun q => by
    by_cases c : O q = true
    · obtain ⟨m, hm⟩ := hO q c; exact ⟨m, fun _ => hm⟩
    · exact ⟨0, fun h => absurd h c⟩
  have hf : ∀ q : Nat, O q = true → ((Classical.choose (h1 q) : Nat) : Int) < R 0 35 ∧ R 36 (Classical.choose (h1 q)) = (q : Int) := fun q => Classical.choose_spec (h1 q)
  have h2 := cntm_inj (P := O) (Q := fun _ => true) (f := fun q => Classical.choose (h1 q)) 60 (k := 30) (fun i _ hi => ⟨by have := (hf i hi).1; show Classical.choose (h1 i) < 30; omega, rfl⟩) (fun i j _ _ hi hj e => by
    have a := (hf i hi).2
    have b := (hf j hj).2
    have e' : Classical.choose (h1 i) = Classical.choose (h1 j) := e
    rw [e'] at a
    omega)
  have := cntm_le (fun _ => true) 30
  omega
/-- the next free place -/
theorem r_free {s g : Int} (hs : 0 ≤ s ∧ s < 1152921504606846976) (hg : 0 ≤ g ∧ g < 1152921504606846976) (hO : cntm (fun q => bt s q || bt g q) 60 ≤ 30) {J : Int → Int → Int → Int → Int → Mm → Rs} (n T x : Int) (M : Mm) {c : Nat} (hc : c ≤ 29) {f : Nat} (hf : f = cntm (fun q => bt s q || bt g q) f + c) (hf60 : f ≤ 60) :
    ∃ f' : Nat, f ≤ f' ∧ f' < 60 ∧ (bt s f' || bt g f') = false ∧ f' = cntm (fun q => bt s q || bt g q) f' + c ∧ Lp (f_X12_keepsNodes_L285_95 g J) FU (s, n, T, (f : Int), x, M) = J s n T (f' : Int) x M := by
  have key : ∀ (d f F : Nat), d + f = 60 → d < F → f = cntm (fun q => bt s q || bt g q) f + c → ∃ f' : Nat, f ≤ f' ∧ f' < 60 ∧ (bt s f' || bt g f') = false ∧ f' = cntm (fun q => bt s q || bt g q) f' + c ∧ Lp (f_X12_keepsNodes_L285_95 g J) F (s, n, T, (f : Int), x, M) = J s n T (f' : Int) x M := by
    intro d
    induction d with
    | zero =>
      intro f F hd hF hf
      have h60 : f = 60 := by omega
      subst h60
      omega
    | succ d ih =>
      intro f F hd hF hf
      obtain ⟨G, rfl⟩ : ∃ G, F = G + 1 := ⟨F - 1, by omega⟩
      have hb1 := lbit hs (v := f) (by omega)
      have hb2 := lbit hg (v := f) (by omega)
      have hstep : (bt s f || bt g f) = true → ∃ f' : Nat, f ≤ f' ∧ f' < 60 ∧ (bt s f' || bt g f') = false ∧ f' = cntm (fun q => bt s q || bt g q) f' + c ∧ Lp (f_X12_keepsNodes_L285_95 g J) G (s, n, T, wr ((f : Int) + 1), x, M) = J s n T (f' : Int) x M := fun hb => by
        obtain ⟨f', a1, a2, a3, a4, a5⟩ := ih (f + 1) G (by omega) (by omega) (by simp only [cntm]; rw [if_pos hb]; omega)
        exact ⟨f', by omega, a2, a3, a4, by rw [wrE (by omega) (by omega)]; exact a5⟩
      rw [Lp_s]
      simp only [f_X12_keepsNodes_L285_95, LtE]
      rw [hb1, hb2]
      by_cases c1 : bt s f = true
      · rw [if_pos c1, if_pos ((lcmp_z _ _).mpr rfl)]
        exact hstep (by rw [c1]; rfl)
      · rw [if_neg c1, if_neg (c := lcmp_ 0 1 = 0) (by decide)]
        by_cases c2 : bt g f = true
        · rw [if_pos c2, if_neg (c := ¬ lcmp_ 1 1 = 0) (by decide)]
          exact hstep (by rw [c2, Bool.or_true])
        · rw [if_neg c2, if_pos (c := ¬ lcmp_ 0 1 = 0) (by decide)]
          refine ⟨f, Nat.le_refl _, by omega, ?_, hf, rfl⟩
          rw [Bool.not_eq_true] at c1 c2
          rw [c1, c2]; rfl
  exact key (60 - f) f FU (by omega) (FU_lt (by omega)) hf
/-- the new nodes among the first x have places -/
def Nwp (N : Mm) (O : Nat → Bool) (x f : Nat) : Prop := f = cntm O f + cntm (fun i => decide (N 42 i = -1)) x ∧ ∀ i : Nat, i < x → N 42 i = -1 → (0 ≤ N 36 i ∧ N 36 i < (f : Int)) ∧ O (N 36 i).toNat = false ∧ ∀ j : Nat, j < i → N 42 j = -1 → N 36 j < N 36 i
/-- places touched, by new nodes among the first x -/
def Tcp (R R1 N : Mm) (g : Int) (x : Nat) (T : Int) : Prop := (0 ≤ T ∧ T < 1152921504606846976) ∧ ∀ q : Nat, bt T q = true ↔ bt g q = true ∨ ∃ i : Nat, i < x ∧ N 42 i = -1 ∧ i ≠ 0 ∧ N 42 (R1 32 i).toNat ≠ -1 ∧ R 36 (N 42 (R1 32 i).toNat).toNat = (q : Int)
theorem r_fresh {R R1 N : Mm} (hT : Trr R) (hT1 : Trr R1) (hP : PlO R) (hK : Kf R1 N) (hH : ∀ x : Nat, (x : Int) < R1 0 35 → HrE R1 R (N 42) x) (hKp : Kpt R R1 N (R1 0 35).toNat) {s g : Int} (hs : 0 ≤ s ∧ s < 1152921504606846976) (hg : 0 ≤ g ∧ g < 1152921504606846976) (hO : ∀ q, (bt s q || bt g q) = true ↔ ∃ m : Nat, (m : Int) < R 0 35 ∧ R 36 m = (q : Int)) {J : Int → Int → Int → Mm → Rs} (n : Int) :
    ∃ T y N', Lp (f_X12_keepsNodes_L262_96 g J) FU (s, n, g, 0, 0, 0, N) = J n T y N' ∧ (∀ j, j ≠ 36 → N' j = N j) ∧ (∀ i, N 42 i ≠ -1 → N' 36 i = N 36 i) ∧ (∃ f : Nat, f ≤ 60 ∧ Nwp N' (fun q => bt s q || bt g q) (R1 0 35).toNat f) ∧ Tcp R R1 N g (R1 0 35).toNat T ∧ (y ≠ 0 ↔ ∃ i : Nat, (i : Int) < R1 0 35 ∧ N 42 i = -1) := by
  have n1 := hT1.1
  have hO60 := places_few hT.1 fun q hq => (hO q).mp hq
  generalize hOd : (fun q => bt s q || bt g q) = O at hO60 ⊢
  have key : ∀ (d x F f : Nat) (T y : Int) (N' : Mm), (x : Int) + d = R1 0 35 → d < F → f ≤ 60 → (∀ j, j ≠ 36 → N' j = N j) → (∀ i, N 42 i ≠ -1 → N' 36 i = N 36 i) → Nwp N' O x f → Tcp R R1 N g x T → (y ≠ 0 ↔ ∃ i : Nat, i < x ∧ N 42 i = -1) →
      ∃ T' y' N'', Lp (f_X12_keepsNodes_L262_96 g J) F (s, n, T, y, (f : Int), (x : Int), N') = J n T' y' N'' ∧ (∀ j, j ≠ 36 → N'' j = N j) ∧ (∀ i, N 42 i ≠ -1 → N'' 36 i = N 36 i) ∧ (∃ f : Nat, f ≤ 60 ∧ Nwp N'' O (R1 0 35).toNat f) ∧ Tcp R R1 N g (R1 0 35).toNat T' ∧ (y' ≠ 0 ↔ ∃ i : Nat, (i : Int) < R1 0 35 ∧ N 42 i = -1) := by
    intro d
    induction d with
    | zero =>
      intro x F f T y N' hx hF h0 h1 h2 h3 h4 h5
      obtain ⟨G, rfl⟩ : ∃ G, F = G + 1 := ⟨F - 1, by omega⟩
      have hxx : (R1 0 35).toNat = x := by omega
      rw [hxx]
      refine ⟨T, y, N', ?_, h1, h2, ⟨f, h0, h3⟩, h4, h5.trans ⟨fun ⟨i, i1, i2⟩ => ⟨i, by omega, i2⟩, fun ⟨i, i1, i2⟩ => ⟨i, by omega, i2⟩⟩⟩
      rw [Lp_s]
      simp only [f_X12_keepsNodes_L262_96, LtE]
      rw [h1 0 (by decide), hK 0 (by decide) (by decide) (by decide), if_pos (by omega)]
    | succ d ih =>
      intro x F f T y N' hx hF h0 h1 h2 h3 h4 h5
      obtain ⟨G, rfl⟩ : ∃ G, F = G + 1 := ⟨F - 1, by omega⟩
      have hgx : (0 : Int) ≤ (x : Int) ∧ (x : Int) < 30 := by omega
      have hn := hT1.2 x (by omega)
      rw [Lp_s]
      simp only [f_X12_keepsNodes_L262_96, LtE]
      rw [h1 0 (by decide), hK 0 (by decide) (by decide) (by decide), if_neg (by omega), gdE hgx, Int.toNat_natCast, h1 42 (by decide)]
      by_cases cn : N 42 x = -1
      case neg =>
        rw [if_pos cn, wrE (by omega) (by omega), show (x : Int) + 1 = ((x + 1 : Nat) : Int) by omega]
        refine ih (x + 1) G f T y N' (by omega) (by omega) h0 h1 h2 ⟨?_, fun i hi hc => ?_⟩ ⟨h4.1, fun q => (h4.2 q).trans ?_⟩ (h5.trans ?_)
        · simp only [cntm]
          rw [if_neg (by rw [h1 42 (by decide)]; simp [cn])]
          exact h3.1
        · have ci : i ≠ x := fun e => by rw [e, h1 42 (by decide)] at hc; exact cn hc
          exact h3.2 i (by omega) hc
        · constructor
          · rintro (z | ⟨i, i1, i2⟩)
            · exact Or.inl z
            · exact Or.inr ⟨i, by omega, i2⟩
          · rintro (z | ⟨i, i1, i2⟩)
            · exact Or.inl z
            · refine Or.inr ⟨i, ?_, i2⟩
              have : i ≠ x := fun e => cn (by rw [← e]; exact i2.1)
              omega
        · constructor
          · rintro ⟨i, i1, i2⟩; exact ⟨i, by omega, i2⟩
          · rintro ⟨i, i1, i2⟩
            have : i ≠ x := fun e => cn (by rw [← e]; exact i2)
            exact ⟨i, by omega, i2⟩
      case pos =>
        rw [if_neg (fun q => q cn)]
        have hcle := cntm_le (fun i => decide (N' 42 i = -1)) x
        have hfc := h3.1
        rw [← hOd] at hfc
        rw [← hOd] at hO60
        obtain ⟨f', a1, a2, a3, a4, a5⟩ := r_free hs hg hO60 (J := fun (v54 : Int) (v55 : Int) (v56 : Int) (v57 : Int) (v58 : Int) (M59 : Mm) => gd (0 ≤ v58 ∧ v58 < 30) (gd (0 ≤ v58 ∧ v58 < 30) (if up M59 36 v58.toNat v57 32 v58.toNat = -1 then Lp (f_X12_keepsNodes_L262_96 g J) G (v54, v55, v56, 1, wr (v57 + 1), wr (v58 + 1), up M59 36 v58.toNat v57) else gd (0 ≤ v58 ∧ v58 < 30) (gd (0 ≤ up M59 36 v58.toNat v57 32 v58.toNat ∧ up M59 36 v58.toNat v57 32 v58.toNat < 30) (if up M59 36 v58.toNat v57 42 (up M59 36 v58.toNat v57 32 v58.toNat).toNat = -1 then Lp (f_X12_keepsNodes_L262_96 g J) G (v54, v55, v56, 1, wr (v57 + 1), wr (v58 + 1), up M59 36 v58.toNat v57) else gd (0 ≤ v58 ∧ v58 < 30) (gd (0 ≤ up M59 36 v58.toNat v57 32 v58.toNat ∧ up M59 36 v58.toNat v57 32 v58.toNat < 30) (Lp (f_X12_keepsNodes_L262_96 g J) G (v54, v55, lor_ v56 (lshl_ 1 (up M59 36 v58.toNat v57 36 (up M59 36 v58.toNat v57 32 v58.toNat).toNat)), 1, wr (v57 + 1), wr (v58 + 1), up M59 36 v58.toNat v57)))))))) n T (x : Int) N' (c := cntm (fun i => decide (N' 42 i = -1)) x) (by omega) hfc h0
        rw [hOd] at a4
        rw [a5]
        simp only [Int.toNat_natCast]
        obtain ⟨N2, hN2⟩ : ∃ N2, up N' 36 x (f' : Int) = N2 := ⟨_, rfl⟩
        simp only [hN2]
        have f1 : ∀ j, j ≠ 36 → N2 j = N j := fun j hj => by rw [← hN2, up_ne _ _ _ hj, h1 j hj]
        have f2 : ∀ i, N2 36 i = if i = x then (f' : Int) else N' 36 i := fun i => by
          rw [← hN2]
          by_cases ci : i = x
          · subst ci; rw [up_at, if_pos rfl]
          · rw [if_neg ci]; simp [up, ci]
        have f2' : ∀ i, N 42 i ≠ -1 → N2 36 i = N 36 i := fun i hi => by
          have : i ≠ x := fun e => hi (by rw [e]; exact cn)
          rw [f2, if_neg this, h2 i hi]
        have e32 : N2 32 x = R1 32 x := by rw [f1 32 (by decide), hK 32 (by decide) (by decide) (by decide)]
        rw [e32, f1 42 (by decide), gdE hgx, gdE hgx, wrE (v := (f' : Int) + 1) (by omega) (by omega), wrE (v := (x : Int) + 1) (by omega) (by omega), show (x : Int) + 1 = ((x + 1 : Nat) : Int) by omega, show (f' : Int) + 1 = ((f' + 1 : Nat) : Int) by omega]
        have hnw : Nwp N2 O (x + 1) (f' + 1) := by
          refine ⟨?_, fun i hi hc => ?_⟩
          · have e42 : N' 42 = N2 42 := by rw [f1 42 (by decide), h1 42 (by decide)]
            rw [e42] at a4
            have eO : O f' = false := by rw [← hOd]; exact a3
            have ed : decide (N2 42 x = -1) = true := decide_eq_true (by rw [f1 42 (by decide)]; exact cn)
            simp only [cntm]
            rw [if_neg (c := O f' = true) (by rw [eO]; decide), if_pos ed]
            omega
          · have hO' : O (f' : Int).toNat = false := by rw [Int.toNat_natCast, ← hOd]; exact a3
            rw [f2]
            by_cases ci : i = x
            · rw [if_pos ci]
              refine ⟨by omega, hO', fun j hj hcj => ?_⟩
              rw [f2, if_neg (by omega)]
              have := (h3.2 j (by omega) (by rw [h1 42 (by decide)]; rw [f1 42 (by decide)] at hcj; exact hcj)).1
              omega
            · rw [if_neg ci]
              have := h3.2 i (by omega) (by rw [h1 42 (by decide)]; rw [f1 42 (by decide)] at hc; exact hc)
              refine ⟨by omega, this.2.1, fun j hj hcj => ?_⟩
              rw [f2, if_neg (by omega)]
              exact this.2.2 j hj (by rw [h1 42 (by decide)]; rw [f1 42 (by decide)] at hcj; exact hcj)
        have hy : ((1 : Int) ≠ 0 ↔ ∃ i : Nat, i < x + 1 ∧ N 42 i = -1) := ⟨fun _ => ⟨x, Nat.lt_succ_self _, cn⟩, fun _ => by decide⟩
        have hTn : (x = 0 ∨ N 42 (R1 32 x).toNat = -1) → Tcp R R1 N g (x + 1) T := fun hz => ⟨h4.1, fun q => (h4.2 q).trans ⟨fun z => z.imp id fun ⟨i, i1, i2⟩ => ⟨i, by omega, i2⟩, fun z => z.imp id fun ⟨i, i1, i2, i3, i4, i5⟩ => by
          by_cases ci : i = x
          · subst ci
            exact absurd hz (fun w => w.elim i3 i4)
          · exact ⟨i, by omega, i2, i3, i4, i5⟩⟩⟩
        by_cases c0 : x = 0
        · have := (hn.2.2.2.2.2.1 c0).1
          rw [if_pos this]
          exact ih (x + 1) G (f' + 1) T 1 N2 (by omega) (by omega) (by omega) f1 f2' hnw (hTn (Or.inl c0)) hy
        · have h7 := hn.2.2.2.2.2.2.1 (by omega)
          have hgp : 0 ≤ R1 32 x ∧ R1 32 x < 30 := by omega
          rw [if_neg (by omega), gdE hgx, gdE hgp]
          by_cases cp : N 42 (R1 32 x).toNat = -1
          · rw [if_pos cp]
            exact ih (x + 1) G (f' + 1) T 1 N2 (by omega) (by omega) (by omega) f1 f2' hnw (hTn (Or.inr cp)) hy
          · rw [if_neg cp, gdE hgx, gdE hgp]
            have hkp := (hKp.1 (R1 32 x).toNat (by omega) cp).2
            rcases (hH (R1 32 x).toNat (by omega)).ok with z | ⟨⟨b1, b2, -⟩, -⟩
            · exact absurd z cp
            · have hpl := (hP (N 42 (R1 32 x).toNat).toNat (by omega)).1
              have hsh := lshl_ok hpl
              rw [f2' _ cp, hkp]
              refine ih (x + 1) G (f' + 1) _ 1 N2 (by omega) (by omega) (by omega) f1 f2' hnw ⟨(lor_nat h4.1 hsh.1).1, fun q => ?_⟩ hy
              rw [lor_bt h4.1 hsh.1, Bool.or_eq_true, h4.2, hsh.2, decide_eq_true_iff]
              constructor
              · rintro ((w | ⟨i, i1, i2⟩) | e)
                · exact Or.inl w
                · exact Or.inr ⟨i, by omega, i2⟩
                · exact Or.inr ⟨x, Nat.lt_succ_self _, cn, c0, cp, e.symm⟩
              · rintro (w | ⟨i, i1, i2, i3, i4, i5⟩)
                · exact Or.inl (Or.inl w)
                · by_cases ci : i = x
                  · subst ci; exact Or.inr i5.symm
                  · exact Or.inl (Or.inr ⟨i, by omega, i2, i3, i4, i5⟩)
  exact key (R1 0 35).toNat 0 FU 0 g 0 N (by omega) (FU_lt (by omega)) (by omega) (fun _ _ => rfl) (fun _ _ => rfl) ⟨rfl, fun i hi => absurd hi (Nat.not_lt_zero _)⟩ ⟨hg, fun q => ⟨fun h => Or.inl h, fun h => h.elim id fun ⟨i, hi, _⟩ => absurd hi (Nat.not_lt_zero _)⟩⟩ ⟨fun q => absurd rfl q, fun ⟨i, hi, _⟩ => absurd hi (Nat.not_lt_zero _)⟩
