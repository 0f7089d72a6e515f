/-! the law answers yes -/
theorem LI.fr {RG : Mm → Nat → Int} {M S M' S' : Mm} {b : Int} (h : LI RG M S b) (hc : CI RG M' S') (hq : AgQ S S') (e273 : M' 273 = M 273) (e299 : M' 299 = M 299) (e283 : M' 283 = M 283) : LI RG (jnM M' M) S' b := by
  obtain ⟨h1, h2, h3, h4⟩ := h
  have e684 : jnM M' M 684 = M 684 := jnM_hi (by decide)
  have f299 : jnM M' M 299 = M 299 := by rw [jnM_lo (by decide), e299]
  refine ⟨hc.ext fun k hk => jnM_lo hk, h2.q hq (fun k hk _ => jnM_hi hk) (by rw [jnM_lo (by decide), e273]), by rw [e684, f299]; exact h3, h4.of (by rw [f299]) (by rw [e684]) (by rw [e684]) (by rw [jnM_lo (by decide), e283])⟩
theorem li_start (RG : Mm → Nat → Int) : LI RG ML0 MR0 0 := by
  obtain ⟨r0, r12, r14, r15, r19, r33, r35, r36, r67, r68, r79⟩ := R0_s
  obtain ⟨c0, c1, c2, c3, c4, c5, c6, c7, c8, c9⟩ := C0_s
  have hlo : ∀ k, k < 681 → ML0 k = MC0 k := fun k hk => jnM_lo hk
  have hhi : ∀ k, 681 ≤ k → ∀ i, ML0 k i = 0 := fun k hk i => by
    have : ML0 k = (fun _ _ => (0 : Int)) k := jnM_hi hk
    rw [this]
  have hci : CI RG MC0 MR0 := by
    refine ⟨⟨inv0 RG, KpO_zero fun i hi => C0_301 i hi⟩, fun p p0 p1 => ?_, fun n hn => ?_⟩
    · rw [r0] at p1; omega
    · rw [r35] at hn; omega
  have hbit : ∀ i : Fin 4, jand (jshr 0 (i.val : Int)) 1 = 0 := by decide +kernel
  refine ⟨hci.ext hlo, ⟨⟨?_, ?_, ?_, ?_, ?_⟩, ⟨?_, ?_⟩, ?_, ?_, ?_⟩, ?_, ⟨?_, ?_, ?_, ?_⟩⟩
  · rw [hhi 684 (by decide), r0]
  · rw [hhi 684 (by decide), r12]
  · rw [hhi 684 (by decide), r19]
  · rw [hhi 684 (by decide), hlo 273 (by decide), c5]
  · rw [hhi 684 (by decide), r35]
  · rw [hhi 684 (by decide)]; decide
  · intro i hi
    rw [hhi 684 (by decide), R0_27 i hi]
    exact hbit ⟨i, hi⟩
  · intro p hp; rw [r0] at hp; omega
  · intro a ha; rw [r12] at ha; omega
  · intro e he; rw [r19] at he; omega
  · rw [hhi 684 (by decide), hlo 299 (by decide), c7]
  · rw [hlo 299 (by decide), c7]; decide
  · rw [hhi 684 (by decide)]; decide
  · rw [hhi 684 (by decide)]; decide
  · intro q
    rw [hlo 283 (by decide), c6] at q
    exact absurd rfl q
/-- the first three productions and attributes -/
theorem law_first {RG : Mm → Nat → Int} (hRG : RGok RG) {N : Nat} {xs : Nat → Int32} : ∀ (d j F : Nat), j + d = 3 → d < F → ∀ (M S : Mm), LI RG M S 0 → S 0 12 = (j : Int) → ∃ M' S', (∀ J : Int → Mm → Rs, Lp (f_L_law_L138_102 N xs J) F (1, (j : Int), M) = J 1 M') ∧ LI RG M' S' 0 := by
  intro d
  induction d with
  | zero =>
    intro j F hj hF M S h h12
    obtain ⟨G, rfl⟩ : ∃ G, F = G + 1 := ⟨F - 1, by omega⟩
    refine ⟨M, S, fun J => ?_, h⟩
    rw [Lp_s]
    show (if 3 ≤ (j : Int) then J 1 M else _) = _
    rw [if_pos (by omega)]
  | succ d ih =>
    intro j F hj hF M S h h12
    obtain ⟨G, rfl⟩ : ∃ G, F = G + 1 := ⟨F - 1, by omega⟩
    have g1 : (0 : Nat) ≤ 1 ∧ (1 : Nat) < 11 := by decide
    obtain ⟨o, o1, o2⟩ := L_part N xs (a := (j : Int)) (n := 1331) (by omega) (by decide)
    obtain ⟨t, t1, t2⟩ := L_part N xs (a := (j : Int) + 3) (n := 70000) (by omega) (by decide)
    obtain ⟨k, k1, k2⟩ := L_part N xs (a := (j : Int) + 6) (n := 4) (by omega) (by decide)
    have w3 : wr ((j : Int) + 3) = (j : Int) + 3 := wrE (by omega) (by omega)
    have w6 : wr ((j : Int) + 6) = (j : Int) + 6 := wrE (by omega) (by omega)
    have w1 : wr ((j : Int) + 1) = ((j + 1 : Nat) : Int) := by rw [wrE (by omega) (by omega)]; omega
    obtain ⟨M1, S1, a1, a2, a3, a4⟩ := L_isProduction hRG h (one := o) (two := t) (by omega) t1
    rw [h12] at a3
    rcases D_attribute hRG a2 (a := k) (by omega) with ⟨y1, y2⟩ | ⟨y1, y2, y3⟩ | ⟨y1, y2, M2, S2, y3, y4, y5, y6⟩
    · omega
    · omega
    · rw [a3] at y3 y5 y6
      rw [Int.toNat_natCast] at y5
      have e684 : M2 684 1 = (j : Int) := by
        rw [y4 684 (by decide), a2.2.1.1.2.1, a3]
      have eu : up M2 683 j k 684 1 = (j : Int) := by rw [up_ne _ _ _ (by decide), e684]
      obtain ⟨M', S', b1, b2⟩ := ih (j + 1) G (by omega) (by omega) _ S2 y5 (by rw [y6]; omega)
      refine ⟨M', S', fun J => ?_, b2⟩
      rw [← b1 J, Lp_s]
      show (if 3 ≤ (j : Int) then J 1 M else if (1 : Int) = 0 then J 1 M else _) = _
      rw [if_neg (by omega), if_neg (by decide)]
      simp only [LtE]
      rw [o2, ClS, w3, t2, ClS, a1, ClS, if_neg (c := (1 : Int) = 0) (by decide), w6, k2, ClS, y3, ClS, if_neg (c := ¬ (j : Int) = (j : Int)) (fun q => q rfl), k2, ClS, gdE (by omega), gdE g1, gdE g1, Int.toNat_natCast, eu, w1]
      rw [show ((j + 1 : Nat) : Int) = (j : Int) + 1 by omega]
/-- the turns -/
theorem law_turns {RG : Mm → Nat → Int} (hRG : RGok RG) (hRs : RGs RG) {N : Nat} {xs : Nat → Int32} : ∀ (d j F : Nat), j + d = 60 → d < F → ∀ (M S : Mm), LI RG M S (400 * (j : Int)) → ∃ M', ∀ J : Int → Mm → Rs, Lp (f_L_law_L241_66 N xs J) F (1, (j : Int), M) = J 1 M' := by
  intro d
  induction d with
  | zero =>
    intro j F hj hF M S h
    obtain ⟨G, rfl⟩ : ∃ G, F = G + 1 := ⟨F - 1, by omega⟩
    refine ⟨M, fun J => ?_⟩
    rw [Lp_s]
    show (if 60 ≤ (j : Int) then J 1 M else _) = _
    rw [if_pos (by omega)]
  | succ d ih =>
    intro j F hj hF M S h
    obtain ⟨G, rfl⟩ : ∃ G, F = G + 1 := ⟨F - 1, by omega⟩
    have g0 : (0 : Nat) ≤ 0 ∧ (0 : Nat) < 11 := by decide
    have g6 : (0 : Nat) ≤ 6 ∧ (6 : Nat) < 11 := by decide
    have w21 : wr (21 * (j : Int)) = 21 * (j : Int) := wrE (by omega) (by omega)
    have w9 : wr (21 * (j : Int) + 9) = 21 * (j : Int) + 9 := wrE (by omega) (by omega)
    have w1 : wr ((j : Int) + 1) = ((j + 1 : Nat) : Int) := by rw [wrE (by omega) (by omega)]; omega
    obtain ⟨M1, S1, a1, a2⟩ := L_isLaw hRG hRs (N := N) (xs := xs) (by omega) h (a3 := 21 * (j : Int) + 9) (by omega)
    have hcf := t_conflicts a2.1.1.1
    have hcl := L_conflicts a2
    -- the tree
    have htr : ∃ M2, LI RG M2 S1 (400 * (j : Int) + 400) ∧ ∀ (A B : Mm → Rs), (if 0 < jrem (j : Int) 2 then A M1 else Cl (f_L_isTree M1) fun v64 M63 => if v64 = 0 then B M63 else A M63) = A M2 := by
      by_cases c : 0 < jrem (j : Int) 2
      · exact ⟨M1, a2, fun A B => by rw [if_pos c]⟩
      · obtain ⟨M2, b1, b2⟩ := L_isTree a2
        exact ⟨M2, b2, fun A B => by rw [if_neg c, b1, ClS, if_neg (by decide)]⟩
    obtain ⟨M2, b1, b2⟩ := htr
    obtain ⟨v, A3, c1, c2, c3, c4⟩ := t_ringIn hRG b1.1
    have hL3 := b1.fr c3 (AgQ.refl S1) (c4 273 (by decide) (by decide)) (c4 299 (by decide) (by decide)) (c4 283 (by decide) (by decide))
    generalize hM3 : jnM A3 M2 = M3 at hL3
    have l1 := hL3.2.1.1.1
    have h10 := hL3.1.1.1.1.1.1.1
    obtain ⟨M', z⟩ := ih (j + 1) G (by omega) (by omega) M3 S1 (by rw [show 400 * ((j + 1 : Nat) : Int) = 400 * (j : Int) + 400 by omega]; exact hL3)
    refine ⟨M', fun J => ?_⟩
    rw [← z J, Lp_s]
    show (if 60 ≤ (j : Int) then J 1 M else if (1 : Int) = 0 then J 1 M else _) = _
    rw [if_neg (by omega), if_neg (by decide), LtE, w21, LtE, w9, a1, ClS]
    refine Lt_gen fun J314 h314 => ?_
    have hgo : ∀ B : Mm → Rs, (Clj (f_X11_conflicts M1) M1 fun v54 M53 => Cl (f_L_conflicts M53) fun v56 M55 => if ¬ v54 = v56 then B M55 else Lt (jrem (j : Int) 2) fun v58 => Lt (fun (v59 : Int) (M60 : Mm) => J314 v59 1 M60) fun J309_61 => if 0 < v58 then J309_61 (j : Int) M55 else Cl (f_L_isTree M55) fun v64 M63 => if v64 = 0 then B M63 else J309_61 (j : Int) M63) = J314 (j : Int) 1 M2 := fun B => by
      rw [hcf, CljS, jnM_self, hcl, ClS, if_neg (fun q => q rfl), LtE, LtE]
      exact b2 (fun M => J314 (j : Int) 1 M) B
    refine (hgo _).trans ?_
    rw [h314]
    refine Lt_gen fun J329 h329 => ?_
    show (if (1 : Int) = 0 then J329 (j : Int) 0 M2 else Clj (f_X11_ringIn M2) M2 fun v48 M47 => J329 (j : Int) v48 M47) = _
    rw [if_neg (by decide), c1, CljS, hM3, h329]
    simp only [LtE]
    rw [if_neg (c := (1 : Int) = 0) (by decide), if_neg (c := v < -1) (by omega), gdE g0, l1, if_neg (c := S1 0 0 ≤ v) (by omega), t_found, CljS, jnM_self, gdE g6, hL3.2.2.1, if_neg (fun q => q rfl), w1]
theorem law_some (N : Nat) (xs : Nat → Int32) : ∃ r, f_L_law N xs ML0 = some r := by
  obtain ⟨RG, hRG, hRs⟩ := RG_is
  have h := li_start RG
  obtain ⟨r0, r12, r14, r15, r19, r33, r35, r36, r67, r68, r79⟩ := R0_s
  have hd9 := L_read0 h.1 r0
  -- productions that are not right
  have hp1 : f_L_does 0 4 (-1) (-1) (-1) 0 ML0 = some (-3000000, ML0) := by
    obtain ⟨r, q, a1, a2, a3, a4, a5, a6, a7, a8, a9⟩ := g24_production hRG 4 (-1) (-1) (-1) h.1.1.1
    rw [if_pos (by decide)] at a7
    rw [does_0, Clt_fail a1 (by rw [a7]; decide) (a8 (by rw [a7]; decide)).1, a7]
    rfl
  have hp2 : f_L_does 0 0 (-1) 2 (-1) 0 ML0 = some (-2000000, ML0) := by
    obtain ⟨r, q, a1, a2, a3, a4, a5, a6, a7, a8, a9⟩ := g24_production hRG 0 (-1) 2 (-1) h.1.1.1
    rw [if_neg (by decide), if_pos (by decide)] at a7
    rw [does_0, Clt_fail a1 (by rw [a7]; decide) (a8 (by rw [a7]; decide)).1, a7]
    rfl
  obtain ⟨v, A1, b1, b2, b3, b4⟩ := t_ringIn hRG h.1
  have hv : v = -1 := by rw [r0] at b2; omega
  have h1 := h.fr b3 (AgQ.refl MR0) (b4 273 (by decide) (by decide)) (b4 299 (by decide) (by decide)) (b4 283 (by decide) (by decide))
  generalize hM1 : jnM A1 ML0 = M1 at h1
  obtain ⟨A2, S2, c1, c2, c3, c4, c5, c6, c7⟩ := t_dropSteps hRG h1.1
  have h2 := h1.draft c3 c4 fun j hj => c7 j (by omega)
  generalize hM2 : jnM A2 M1 = M2 at h2
  have e12 : S2 0 12 = 0 := by rw [c4.2 12 (by simp), r12]
  have hs1 : f_L_does 4 8 0 0 0 0 M2 = some (-1000000, M2) := by
    obtain ⟨r, q, a1, a2, a3, a4, a5, a6, a7, a8, a9⟩ := g24_step hRG 8 0 0 h2.1.1.1
    have t8 : tkn 8 = 2 := by decide
    rw [if_neg (fun c => c fun q => by omega), if_neg (fun c => c (by decide)), if_pos (Or.inl (by rw [c6, t8]; decide))] at a7
    rw [does_4, Clt_fail a1 (by rw [a7]; decide) (a8 (by rw [a7]; decide)).1, a7]
    rfl
  have hs2 : f_L_does 4 1 0 0 0 0 M2 = some (-3000000, M2) := by
    obtain ⟨r, q, a1, a2, a3, a4, a5, a6, a7, a8, a9⟩ := g24_step hRG 1 0 0 h2.1.1.1
    rw [if_pos (fun c => by have := (c (Or.inl rfl)).2; omega)] at a7
    rw [does_4, Clt_fail a1 (by rw [a7]; decide) (a8 (by rw [a7]; decide)).1, a7]
    rfl
  obtain ⟨M3, S3, d1, d2⟩ := law_first hRG (N := N) (xs := xs) 3 0 4 rfl (by decide) M2 S2 h2 (by rw [e12]; rfl)
  obtain ⟨M4, f1⟩ := law_turns hRG hRs (N := N) (xs := xs) 60 0 61 rfl (by decide) M3 S3 d2
  refine ⟨(1, M4), ?_⟩
  unfold f_L_law
  rw [hd9, ClS]
  refine Lt_gen fun J133 h133 => ?_
  have hg : J133 1 M2 = some (1, M4) := by
    rw [h133]
    refine Lt_gen fun J238 h238 => ?_
    refine (d1 J238).trans ?_
    rw [h238]
    refine Lt_gen fun J376 h376 => ?_
    refine (f1 J376).trans ?_
    rw [h376]
    exact gdE rfl
  rw [LtE]
  rw [if_neg (c := ¬ (-1000000 : Int) = -1000000) (fun q => q rfl), hp1, ClS, if_neg (c := ¬ (-3000000 : Int) = -3000000) (fun q => q rfl), hp2, ClS, if_neg (c := ¬ (-2000000 : Int) = -2000000) (fun q => q rfl), b1, CljS, hM1, hv, if_neg (c := ¬ (-1 : Int) = -1) (fun q => q rfl), c1, CljS, hM2, r14, if_neg (c := ¬ (0 : Int) = 0) (fun q => q rfl), hs1, ClS, if_neg (c := ¬ (-1000000 : Int) = -1000000) (fun q => q rfl), hs2, ClS, if_neg (c := ¬ (-3000000 : Int) = -3000000) (fun q => q rfl)]
  exact hg
