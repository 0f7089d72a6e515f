/-! the law calls the grammar -/
theorem does_0 (a b c d e : Int) (M : Mm) : f_L_does 0 a b c d e M = Clt (f_X11_production a b c d M) M fun v M' => some (v, M') := rfl
theorem does_1 (a b c d e : Int) (M : Mm) : f_L_does 1 a b c d e M = Clt (f_X11_forward a b c d e M) M fun v M' => some (v, M') := rfl
theorem does_2 (a b c d e : Int) (M : Mm) : f_L_does 2 a b c d e M = Clt (f_X11_rule a b c M) M fun v M' => some (v, M') := rfl
theorem does_3 (a b c d e : Int) (M : Mm) : f_L_does 3 a b c d e M = Clt (f_X11_attribute a M) M fun v M' => some (v, M') := rfl
theorem does_4 (a b c d e : Int) (M : Mm) : f_L_does 4 a b c d e M = Clt (f_X11_step a b c M) M fun v M' => some (v, M') := rfl
theorem does_5 (a b c d e : Int) (M : Mm) : f_L_does 5 a b c d e M = Clt (f_X11_equation a b c d M) M fun v M' => some (v, M') := rfl
theorem does_6 (a b c d e : Int) (M : Mm) : f_L_does 6 a b c d e M = Clt (f_X11_toggle a M) M fun v M' => if v = 0 then some (0, M') else some (1, M') := rfl
theorem does_7 (a b c d e : Int) (M : Mm) : f_L_does 7 a b c d e M = Clt (f_X11_insert a b M) M fun v M' => some (v, M') := rfl
theorem does_8 (a b c d e : Int) (M : Mm) : f_L_does 8 a b c d e M = Clt (f_X11_delete a M) M fun v M' => some (v, M') := rfl
theorem does_9 (a b c d e : Int) (M : Mm) : f_L_does 9 a b c d e M = Clt (f_X11_read M) M fun v M' => some (v, M') := rfl
theorem does_10 (a b c d e : Int) (M : Mm) : f_L_does 10 a b c d e M = Clt (f_X11_rewrite a M) M fun v M' => some (v, M') := rfl
theorem does_11 (a b c d e : Int) (M : Mm) : f_L_does 11 a b c d e M = Clt (f_X11_value a b M) M fun v M' => some (v, M') := rfl
theorem does_12 (a b c d e : Int) (M : Mm) : f_L_does 12 a b c d e M = Clt (f_X11_node a M) M fun v M' => some (v, M') := rfl
theorem does_13 (a b c d e : Int) (M : Mm) : f_L_does 13 a b c d e M = Clt (f_X11_why a b c M) M fun v M' => some (v, M') := rfl
theorem does_14 (a b c d e : Int) (M : Mm) : f_L_does 14 a b c d e M = Clt (f_X11_isKept a b M) M fun v M' => if v = 0 then some (0, M') else some (1, M') := rfl
theorem does_15 (a b c d e : Int) (M : Mm) : f_L_does 15 a b c d e M = Clt (f_X11_valueAnew a b M) M fun v M' => some (v, M') := rfl
def cdL (c : Int) : Int := if c = 1 then -3000000 else if c = 2 then -2000000 else -1000000
theorem Clt_fail {M : Mm} {o : Rx} {r : Int × Int × Mm} {k : Int → Mm → Rs} (ho : o = some r) (h0 : r.1 ≠ 0) (hM : r.2.2 = M) : Clt o M k = some (cdL r.1, M) := by
  obtain ⟨c, v, M'⟩ := r
  simp only at h0 hM
  subst hM
  rw [ho, CltS, if_neg h0, jnM_self]
  rfl
theorem Clt_ok {M : Mm} {o : Rx} {r : Int × Int × Mm} {k : Int → Mm → Rs} (ho : o = some r) (h0 : r.1 = 0) : Clt o M k = k r.2.1 (jnM r.2.2 M) := by
  obtain ⟨c, v, M'⟩ := r
  simp only at h0
  subst h0
  rw [ho, CltS, if_pos rfl]
theorem SyX_sy {S : Mm} {P : Nat} {a b c : Int} (h : SyX S P a b c) (hr : prR a b c) : sy S P 0 = a ∧ sy S P 1 = b ∧ sy S P 2 = c := by
  obtain ⟨r1, r2, r3, r4, r5⟩ := hr
  obtain ⟨h2, h3, h4, h5⟩ := h
  rw [Int.toNat_natCast] at h2
  rw [show (3 * (P : Int)).toNat = 3 * P by omega] at h3
  rw [show (3 * (P : Int) + 1).toNat = 3 * P + 1 by omega] at h4
  rw [show (3 * (P : Int) + 2).toNat = 3 * P + 2 by omega] at h5
  unfold sy at *
  by_cases ha : a = -1
  · have hb : b = -1 := by omega
    have hc : c = -1 := by omega
    rw [if_pos ha] at h2
    rw [if_neg (by omega), if_neg (by omega), if_neg (by omega)]
    exact ⟨ha.symm, hb.symm, hc.symm⟩
  · rw [if_neg ha] at h2
    by_cases hb : b = -1
    · have hc : c = -1 := by omega
      rw [if_pos hb] at h2
      rw [if_pos (by omega), if_neg (by omega), if_neg (by omega)]
      exact ⟨h3 ha, hb.symm, hc.symm⟩
    · rw [if_neg hb] at h2
      by_cases hc : c = -1
      · rw [if_pos hc] at h2
        rw [if_pos (by omega), if_pos (by omega), if_neg (by omega)]
        exact ⟨h3 ha, h4 hb, hc.symm⟩
      · rw [if_neg hc] at h2
        rw [if_pos (by omega), if_pos (by omega), if_pos (by omega)]
        exact ⟨h3 ha, h4 hb, h5 hc⟩
theorem LB.of {M M' : Mm} {b : Int} (h : LB M b) (e : M' 299 0 = M 299 0) (e9 : M' 684 9 = M 684 9) (e10 : M' 684 10 = M 684 10) (e283 : M' 283 = M 283) : LB M' b := by
  unfold LB at h ⊢
  rw [e, e9, e10, e283]
  exact h
theorem D_production {RG : Mm → Nat → Int} (hRG : RGok RG) {M S : Mm} {b : Int} (h : LI RG M S b) {n x y z : Int} (hn : 0 ≤ n ∧ n ≤ 3) (hr : prR x y z) :
    (S 0 0 = 10 ∧ f_L_does 0 n x y z 0 M = some (-1000000, M)) ∨ (S 0 0 < 10 ∧ ∃ M' S', f_L_does 0 n x y z 0 M = some (S 0 0, M') ∧ (∀ k, 681 ≤ k → M' k = M k) ∧ LI RG (up (up M' 681 (S 0 0).toNat (n + 10 * (x + 1) + 110 * (y + 1) + 1210 * (z + 1))) 684 0 (S 0 0 + 1)) S' b) := by
  obtain ⟨hci, hLM, h6, hB⟩ := id h
  obtain ⟨r, q, a1, a2, a3, a4, a5, a6, a7, a8, a9⟩ := g24_production hRG n x y z hci.1.1
  obtain ⟨⟨p1, p2, p3, p4, p5⟩, -, -, -, -⟩ := hci.1.1.1
  have h10 := p1.1
  rw [if_neg (fun c => c hn), if_neg (fun c => c hr)] at a7
  rw [does_0]
  by_cases c : S 0 0 = 10
  · rw [if_pos c] at a7
    left
    refine ⟨c, ?_⟩
    rw [Clt_fail a1 (by rw [a7]; decide) (a8 (by rw [a7]; decide)).1, a7]
    rfl
  · rw [if_neg c] at a7
    right
    obtain ⟨g, e1, e2, e3, e4, e5, e6, e7, e8⟩ := a9 a7
    have hv : r.2.1 = S 0 0 := by rw [a5 a7, e1]
    refine ⟨by omega, jnM r.2.2 M, q.2, ?_, fun k hk => jnM_hi hk, ?_⟩
    · rw [Clt_ok a1 a7, hv]
    have hP : (((S 0 0).toNat : Nat) : Int) = S 0 0 := Int.toNat_of_nonneg h10.1
    generalize hPn : (S 0 0).toNat = P at *
    have hX : X2 q.2 := by
      intro p p0 p1' hne
      rw [e2] at p1'
      rw [e4 10 (by decide) (by decide)] at hne ⊢
      by_cases cp : p = S 0 0
      · have := (p1.2.2.2.2 p (by omega) (by omega)).2.2.2.2
        exact absurd this hne
      · have hx := hci.2.1 p p0 (by omega) hne
        have hb := (p1.2.2.2.1 p p0 (by omega)).2.2.2.2.2.2.2.2.2.resolve_left hne
        rw [e5, e5, if_neg (by omega), if_neg (by omega)]
        exact hx
    have hH := HdS_prod (S' := q.2) p5 p1 hci.2.2 (fun i hi => by rw [e5, if_neg (by rw [hPn] at hi; exact hi)]) (fun i hi => e6 2 i (by simp) (by rw [hPn] at hi; exact hi)) (fun i hi => e7 3 i (by simp) hi) (fun j hj => e4 j (by omega) (by omega)) (e3 35 (by decide) (by decide))
    have hci' : CI RG r.2.2 q.2 := ⟨⟨a6, KpO_zero g.1⟩, hX, hH⟩
    generalize hM2 : up (up (jnM r.2.2 M) 681 P (n + 10 * (x + 1) + 110 * (y + 1) + 1210 * (z + 1))) 684 0 (S 0 0 + 1) = M2
    have m0 : ∀ k, k < 681 → M2 k = r.2.2 k := fun k hk => by rw [← hM2, up_ne _ _ _ (by omega), up_ne _ _ _ (by omega), jnM_lo hk]
    have m684 : ∀ i, i ≠ 0 → M2 684 i = M 684 i := fun i hi => by
      rw [← hM2]
      have : up (up (jnM r.2.2 M) 681 P (n + 10 * (x + 1) + 110 * (y + 1) + 1210 * (z + 1))) 684 0 (S 0 0 + 1) 684 i = up (jnM r.2.2 M) 681 P (n + 10 * (x + 1) + 110 * (y + 1) + 1210 * (z + 1)) 684 i := up_off hi
      rw [this, up_ne _ _ _ (by decide), jnM_hi (by decide)]
    have m681 : ∀ i, M2 681 i = if i = P then n + 10 * (x + 1) + 110 * (y + 1) + 1210 * (z + 1) else M 681 i := fun i => by
      rw [← hM2, up_ne _ _ _ (by decide), up_se, sr_at]
      unfold se
      rw [jnM_hi (by decide)]
    have mk : ∀ k, k = 682 ∨ k = 683 → M2 k = M k := fun k hk => by rw [← hM2, up_ne _ _ _ (by omega), up_ne _ _ _ (by omega), jnM_hi (by omega)]
    have e299 : M2 299 = M 299 := by rw [m0 299 (by decide), g.2.1]
    have e273 : M2 273 0 = M 273 0 := by
      rw [m0 273 (by decide)]
      have x1 := a6.1.2.1.2.2.2.1.1
      have x2 := hci.1.1.1.2.1.2.2.2.1.1
      rw [x1, x2, e3 33 (by decide) (by decide)]
    refine ⟨hci'.ext m0, ?_, by rw [m684 6 (by decide), e299]; exact h6, hB.of (by rw [e299]) (m684 9 (by decide)) (m684 10 (by decide)) (by rw [m0 283 (by decide), g.2.2])⟩
    obtain ⟨⟨l1, l2, l3, l4, l5⟩, ⟨l6, l7⟩, l8, l9, l10⟩ := hLM
    refine ⟨⟨?_, ?_, ?_, ?_, ?_⟩, ⟨?_, ?_⟩, ?_, ?_, ?_⟩
    · rw [← hM2, up_at, e2]
    · rw [m684 1 (by decide), e3 12 (by decide) (by decide)]; exact l2
    · rw [m684 2 (by decide), e3 19 (by decide) (by decide)]; exact l3
    · rw [m684 3 (by decide), e273]; exact l4
    · rw [m684 4 (by decide), e3 35 (by decide) (by decide)]; exact l5
    · rw [m684 5 (by decide)]; exact l6
    · rw [m684 5 (by decide), e4 27 (by decide) (by decide)]; exact l7
    · intro p hp
      rw [e2] at hp
      rw [m681, e5]
      by_cases cp : p = P
      · subst cp
        rw [← hP] at e8
        have := SyX_sy e8 hr
        rw [if_pos rfl, if_pos rfl, this.1, this.2.1, this.2.2]
      · have hs : ∀ j, j < 3 → sy q.2 p j = sy S p j := fun j hj => sy_same (e6 2 p (by simp) cp) (fun i hi => e7 3 _ (by simp) (by omega)) hj
        rw [if_neg cp, if_neg cp, hs 0 (by decide), hs 1 (by decide), hs 2 (by decide)]
        exact l8 p (by omega)
    · intro a ha
      rw [e3 12 (by decide) (by decide)] at ha
      rw [mk 683 (by simp), e4 12 (by decide) (by decide)]
      exact l9 a ha
    · intro e he
      rw [e3 19 (by decide) (by decide)] at he
      rw [mk 682 (by simp), e4 16 (by decide) (by decide), e4 17 (by decide) (by decide), e4 18 (by decide) (by decide), e4 19 (by decide) (by decide)]
      exact l10 e he
theorem L_isProduction {RG : Mm → Nat → Int} (hRG : RGok RG) {M S : Mm} {b : Int} (h : LI RG M S b) {one two : Int} (h1 : 0 ≤ one ∧ one < 70000) (h2 : 0 ≤ two ∧ two < 70000) : ∃ M' S', f_L_isProduction one two M = some (1, M') ∧ LI RG M' S' b ∧ (S' 0 12 = S 0 12 ∧ ∀ k i, 681 ≤ k → k ≠ 681 → ¬ (k = 684 ∧ i = 0) → M' k i = M k i) := by
  have l1 := h.2.1.1.1
  have p12 := h.1.1.1.1.2.1.1.2.1
  have h10 := h.1.1.1.1.1.1.1
  have e11 := jremE (x := one) (k := 11) h1.1 (by omega) (by decide) (by decide)
  have e121 := jremE (x := one) (k := 121) h1.1 (by omega) (by decide) (by decide)
  have e3 := (jremE (x := two) (k := 3) h2.1 (by omega) (by decide) (by decide)).1
  have eb := (jremE (x := one / 11) (k := 11) (by omega) (by omega) (by decide) (by decide)).1
  have ec := (jremE (x := one / 121) (k := 11) (by omega) (by omega) (by decide) (by decide)).1
  generalize hx : one % 11 - 1 = x
  generalize hy : (if 0 ≤ x then one / 11 % 11 - 1 else -1) = y
  generalize hz : (if 0 ≤ y then one / 121 % 11 - 1 else -1) = z
  have hr : prR x y z := by
    have a1 : -1 ≤ x ∧ x ≤ 9 := by omega
    have a2 : (-1 ≤ y ∧ y ≤ 9) ∧ (x = -1 → y = -1) := by
      rw [← hy]; split <;> omega
    have a3 : (-1 ≤ z ∧ z ≤ 9) ∧ (y = -1 → z = -1) := by
      rw [← hz]; split <;> omega
    refine ⟨a1, a2.1, a3.1, ?_, ?_⟩
    · by_cases c : x = -1
      · exact Or.inr (a2.2 c)
      · exact Or.inl c
    · by_cases c : y = -1
      · exact Or.inr (a3.2 c)
      · exact Or.inl c
  -- the body from the symbols on
  have hB : ∃ F : Int → Int → Mm → Rs, f_L_isProduction one two M = F y z M ∧ F y z M = (Cl (f_L_does 0 (two % 3) x y z 0 M) fun v11 M10 => gd (0 ≤ 0 ∧ 0 < 11) <| if ¬ M10 684 0 = 10 then (gd (0 ≤ 0 ∧ 0 < 11) <| gd (0 ≤ M10 684 0 ∧ M10 684 0 < 10) <| gd (0 ≤ 0 ∧ 0 < 11) <| gd (0 ≤ 0 ∧ 0 < 11) <| gd (0 ≤ 0 ∧ 0 < 11) <| if ¬ v11 = wr (up (up M10 681 (M10 684 0).toNat (wr (wr (wr (two % 3 + wr (10 * wr (x + 1))) + wr (110 * wr (y + 1))) + wr (1210 * wr (z + 1))))) 684 0 (wr (up M10 681 (M10 684 0).toNat (wr (wr (wr (two % 3 + wr (10 * wr (x + 1))) + wr (110 * wr (y + 1))) + wr (1210 * wr (z + 1)))) 684 0 + 1)) 684 0 - 1) then some (0, up (up M10 681 (M10 684 0).toNat (wr (wr (wr (two % 3 + wr (10 * wr (x + 1))) + wr (110 * wr (y + 1))) + wr (1210 * wr (z + 1))))) 684 0 (wr (up M10 681 (M10 684 0).toNat (wr (wr (wr (two % 3 + wr (10 * wr (x + 1))) + wr (110 * wr (y + 1))) + wr (1210 * wr (z + 1)))) 684 0 + 1))) else some (1, up (up M10 681 (M10 684 0).toNat (wr (wr (wr (two % 3 + wr (10 * wr (x + 1))) + wr (110 * wr (y + 1))) + wr (1210 * wr (z + 1))))) 684 0 (wr (up M10 681 (M10 684 0).toNat (wr (wr (wr (two % 3 + wr (10 * wr (x + 1))) + wr (110 * wr (y + 1))) + wr (1210 * wr (z + 1)))) 684 0 + 1)))) else (if ¬ v11 = -1000000 then some (0, M10) else some (1, M10))) := by
    refine ⟨fun _ _ _ => _, ?_, rfl⟩
    unfold f_L_isProduction
    simp only [LtE]
    rw [e11.1, e11.2, e121.2, eb, ec, e3, wrE (v := one % 11 - 1) (by omega) (by omega), wrE (v := one / 11 % 11 - 1) (by omega) (by omega), wrE (v := one / 121 % 11 - 1) (by omega) (by omega), hx]
    by_cases cx : 0 ≤ x
    · rw [if_pos cx] at hy
      rw [if_pos cx, hy]
      by_cases cy : 0 ≤ y
      · rw [if_pos cy] at hz
        rw [if_pos cy, hz]
      · rw [if_neg cy] at hz
        rw [if_neg cy, hz]
    · rw [if_neg cx] at hy
      subst hy
      rw [if_neg (by decide)] at hz
      subst hz
      rw [if_neg cx, if_neg (c := (0 : Int) ≤ -1) (by decide)]
  obtain ⟨F, hF1, hF2⟩ := hB
  rw [hF1, hF2]
  have hw : wr (wr (wr (two % 3 + wr (10 * wr (x + 1))) + wr (110 * wr (y + 1))) + wr (1210 * wr (z + 1))) = two % 3 + 10 * (x + 1) + 110 * (y + 1) + 1210 * (z + 1) := by
    have a := hr.1; have a2 := hr.2.1; have a3 := hr.2.2.1
    rw [wrE (v := x + 1) (by omega) (by omega), wrE (v := y + 1) (by omega) (by omega), wrE (v := z + 1) (by omega) (by omega), wrE (v := 10 * (x + 1)) (by omega) (by omega), wrE (v := 110 * (y + 1)) (by omega) (by omega), wrE (v := 1210 * (z + 1)) (by omega) (by omega), wrE (v := two % 3 + 10 * (x + 1)) (by omega) (by omega), wrE (v := two % 3 + 10 * (x + 1) + 110 * (y + 1)) (by omega) (by omega), wrE (by omega) (by omega)]
  rw [hw]
  have g0 : (0 : Nat) ≤ 0 ∧ (0 : Nat) < 11 := by decide
  rcases D_production hRG h (n := two % 3) (by omega) hr with ⟨c, d⟩ | ⟨c, M', S', d, d1, d2⟩
  · refine ⟨M, S, ?_, h, rfl, fun _ _ _ _ _ => rfl⟩
    rw [d, ClS]
    simp only [gdE g0]
    rw [if_neg (c := ¬ M 684 0 = 10) (fun q => q (by omega)), if_neg (c := ¬ True) (fun q => q trivial)]
  · have e684 : M' 684 = M 684 := d1 684 (by decide)
    refine ⟨_, S', ?_, d2, ?_, fun k i hk hk1 hki => ?_⟩
    · rw [d, ClS]
      simp only [gdE g0]
      have eu : up M' 681 (S 0 0).toNat (two % 3 + 10 * (x + 1) + 110 * (y + 1) + 1210 * (z + 1)) 684 = M' 684 := up_ne _ _ _ (by decide)
      rw [e684, l1, if_pos (c := ¬ S 0 0 = 10) (by omega), gdE (by omega), eu, e684, l1, wrE (v := S 0 0 + 1) (by omega) (by omega), up_at, wrE (by omega) (by omega), if_neg (fun q => q (by omega))]
    · have x1 := d2.2.1.1.2.1
      rw [← x1]
      have : up (up M' 681 (S 0 0).toNat (two % 3 + 10 * (x + 1) + 110 * (y + 1) + 1210 * (z + 1))) 684 0 (S 0 0 + 1) 684 1 = up M' 681 (S 0 0).toNat (two % 3 + 10 * (x + 1) + 110 * (y + 1) + 1210 * (z + 1)) 684 1 := up_off (by decide)
      rw [this, up_ne _ _ _ (by decide), e684]
      exact h.2.1.1.2.1
    · by_cases c684 : k = 684
      · subst c684
        have : up (up M' 681 (S 0 0).toNat (two % 3 + 10 * (x + 1) + 110 * (y + 1) + 1210 * (z + 1))) 684 0 (S 0 0 + 1) 684 i = up M' 681 (S 0 0).toNat (two % 3 + 10 * (x + 1) + 110 * (y + 1) + 1210 * (z + 1)) 684 i := up_off (fun q => hki ⟨rfl, q⟩)
        rw [this, up_ne _ _ _ (by decide), e684]
      · rw [up_ne _ _ _ c684, up_ne _ _ _ hk1, d1 k hk]
