/-! each turn answers yes -/
theorem L_isLaw {RG : Mm → Nat → Int} (hRG : RGok RG) (hRs : RGs RG) {N : Nat} {xs : Nat → Int32} {M S : Mm} {b a3 : Int} (hb : b ≤ 90000) (h : LI RG M S b) (h3 : 0 ≤ a3 ∧ a3 ≤ 9000) : ∃ M' S', f_L_isLaw N xs a3 M = some (1, M') ∧ LI RG M' S' (b + 400) := by
  obtain ⟨hci, hLM, h6, hB⟩ := id h
  obtain ⟨⟨p1, p2, p3, p4, p5⟩, -, -, -, -⟩ := hci.1.1.1
  obtain ⟨⟨l1, l2, l3, l4, l5⟩, -, -, l9, -⟩ := id hLM
  have h10 := p1.1
  have h12 := p1.2.1
  have h35 := p5.1
  have g0 : (0 : Nat) ≤ 0 ∧ (0 : Nat) < 11 := by decide
  have g1 : (0 : Nat) ≤ 1 ∧ (1 : Nat) < 11 := by decide
  have g4 : (0 : Nat) ≤ 4 ∧ (4 : Nat) < 11 := by decide
  have g5 : (0 : Nat) ≤ 5 ∧ (5 : Nat) < 11 := by decide
  obtain ⟨w, w1, w2⟩ := L_part N xs (a := a3) (n := 40) h3.1 (by decide)
  obtain ⟨one, one1, one2⟩ := L_part N xs (a := a3 + 1) (n := 60000) (by omega) (by decide)
  obtain ⟨two, two1, two2⟩ := L_part N xs (a := a3 + 2) (n := 70000) (by omega) (by decide)
  have x1 : wr (a3 + 1) = a3 + 1 := wrE (by omega) (by omega)
  have x2 : wr (a3 + 2) = a3 + 2 := wrE (by omega) (by omega)
  have ho : 0 ≤ one ∧ one < 70000 := by omega
  have hm : ∀ {M' S' : Mm}, LI RG M' S' b → LI RG M' S' (b + 400) := fun h => h.mono (by omega)
  have j1 : ∀ k : Int, 0 < k → k < 2147483648 → jrem one k = one % k := fun k k0 k1 => (jremE ho.1 (by omega) k0 k1).1
  have j2 : ∀ k : Int, 0 < k → k < 2147483648 → jrem two k = two % k := fun k k0 k1 => (jremE two1.1 (by omega) k0 k1).1
  unfold f_L_isLaw
  rw [w2, ClS, LtE, x1, one2, ClS, LtE, x2, two2, ClS]
  by_cases c5 : 5 ≤ w
  case neg =>
    obtain ⟨M', S', a1, a2, -⟩ := L_isProduction hRG h ho two1
    refine ⟨M', S', ?_, hm a2⟩
    rw [if_neg c5, a1, ClS]
  by_cases c12 : 12 ≤ w
  case neg =>
    obtain ⟨M', S', a1, a2⟩ := L_isEquation hRG (N := N) (xs := xs) h (a7 := a3 + 1) (by omega)
    refine ⟨M', S', ?_, hm a2⟩
    rw [if_pos c5, if_neg c12, LtE, a1, ClS]
  by_cases c14 : 14 ≤ w
  case neg =>
    -- an attribute
    have e5 := j1 5 (by decide) (by decide)
    have hd := D_attribute hRG h (a := one % 5) (by omega)
    rcases hd with ⟨y1, y2⟩ | ⟨y1, y2, y3⟩ | ⟨y1, y2, M', S', y3, y4, y5, y6⟩
    · refine ⟨M, S, ?_, hm h⟩
      rw [if_pos c5, if_pos c12, if_neg c14]
      simp only [LtE]
      rw [e5, y2, ClS, if_neg (c := ¬ one % 5 = 4) (fun q => q y1), if_pos (by decide), if_neg (c := ¬ (-2000000 : Int) = -2000000) (fun q => q rfl)]
    · refine ⟨M, S, ?_, hm h⟩
      rw [if_pos c5, if_pos c12, if_neg c14]
      simp only [LtE]
      rw [e5, y3, ClS, if_pos y1, gdE g1, l2, if_neg (c := ¬ S 0 12 = 6) (fun q => q y2), if_pos (by decide), if_neg (c := ¬ (-1000000 : Int) = -1000000) (fun q => q rfl)]
    · have e684 : M' 684 = M 684 := y4 684 (by decide)
      refine ⟨_, S', ?_, hm y5⟩
      have eu : up M' 683 (S 0 12).toNat (one % 5) 684 1 = S 0 12 := by rw [up_ne _ _ _ (by decide), e684, l2]
      rw [if_pos c5, if_pos c12, if_neg c14]
      simp only [LtE]
      rw [e5, y3, ClS, if_pos y1, gdE g1, e684, l2, if_pos (c := ¬ S 0 12 = 6) (by omega), gdE g1, if_neg (c := S 0 12 < 0) (by omega), gdE g1, gdE (by omega), gdE g1, gdE g1, eu, wrE (by omega) (by omega), if_neg (c := ¬ S 0 12 = S 0 12) (fun q => q rfl)]
  by_cases k14 : w = 14
  · -- an aspect
    have e4 := j1 4 (by decide) (by decide)
    obtain ⟨v, M', S', y1, y2, y3⟩ := D_toggle hRG h (i := (one % 4).toNat) (by omega)
    rw [Int.toNat_of_nonneg (by omega)] at y1 y3
    refine ⟨M', S', ?_, hm y2⟩
    rw [if_pos c5, if_pos c12, if_pos c14, if_neg (fun q => q k14)]
    simp only [LtE]
    rw [gdE g5, e4, gdE g5, y1, ClS, gdE g5, ← y3, if_neg (c := ¬ v = v) (fun q => q rfl), D_toggle4 hRG y2.1, ClS, if_neg (c := ¬ (-3000000 : Int) = -3000000) (fun q => q rfl)]
  by_cases k15 : w = 15
  · obtain ⟨v, M', S', y1, y2, y3⟩ := D_forward hRG h (jrem one 10) (wr (jrem two 11 - 1)) (jrem (wr (Int.tdiv two 11)) 3) 0 0
    refine ⟨M', S', ?_, hm y2⟩
    rw [if_pos c5, if_pos c12, if_pos c14, if_pos k14, if_neg (fun q => q k15)]
    simp only [LtE]
    rw [y1, ClS]
    by_cases d1 : -1 ≤ v
    · rw [if_pos d1]
    · rw [if_neg d1]
      by_cases d2 : v = -3000000
      · rw [if_pos d2]
      · rw [if_neg d2, if_neg (c := ¬ v = -2000000) (fun q => q (by omega))]
  by_cases k16 : w = 16
  · have ep := j1 10 (by decide) (by decide)
    have eo := j2 10 (by decide) (by decide)
    have et := (jremE (x := one) (k := 10) ho.1 (by omega) (by decide) (by decide)).2
    have ex := (jremE (x := one / 10) (k := 6) (by omega) (by omega) (by decide) (by decide)).1
    obtain ⟨v, M', S', y1, y2, y3, y4⟩ := D_rule hRG h (one % 10) (one / 10 % 6) (two % 10)
    refine ⟨M', S', ?_, hm y2⟩
    obtain ⟨⟨P1, P2, P3, P4, P5⟩, -, -, -, -⟩ := y2.1.1.1.1
    rw [if_pos c5, if_pos c12, if_pos c14, if_pos k14, if_pos k15, if_neg (fun q => q k16)]
    simp only [LtE]
    rw [ep, eo, et, ex, y1, ClS, gdE g0, y3, l1]
    by_cases d1 : S 0 0 ≤ one % 10
    · rw [if_neg (fun q => by have := q.1.2; omega)] at y4
      rw [if_pos d1, if_neg (c := ¬ True) (fun q => q trivial), if_neg (fun q => q y4)]
    rw [if_neg d1, gdE g0]
    by_cases d2 : S 0 0 ≤ two % 10
    · rw [if_neg (fun q => by have := q.2.1.2; omega)] at y4
      rw [if_pos d2, if_neg (c := ¬ True) (fun q => q trivial), if_neg (fun q => q y4)]
    rw [if_neg d2, gdE g1, l2]
    by_cases d3 : S 0 12 ≤ one / 10 % 6
    · rw [if_neg (fun q => by have := q.2.2.2; omega)] at y4
      rw [if_pos d3, if_neg (c := ¬ True) (fun q => q trivial), if_neg (fun q => q y4)]
    rw [if_pos ⟨by omega, by omega, by omega⟩] at y4
    rw [if_neg d3, if_pos (c := ¬ (1 : Int) = 0) (by decide)]
    rcases y4 with z | ⟨z1, z2, z3, z4, z5⟩
    · rw [if_pos z]
    · by_cases dv : v = -2000000
      · rw [if_pos dv]
      · rw [if_neg dv, if_neg z1, gdE (by omega), L_head P1 y2.2.1 (by omega) (by omega), gdE (by omega), L_head P1 y2.2.1 (by omega) (by omega), if_neg (fun q => q z2), L_childrenI P1 y2.2.1 (by omega) (by omega), ClS, L_childrenI P1 y2.2.1 (by omega) (by omega), ClS, if_neg (fun q => q z3), if_neg (c := v < -1) (by omega)]
  by_cases c27 : 27 ≤ w
  case neg =>
    have ew : wr (Int.tdiv (wr (w - 17)) 2) = (w - 17) / 2 := by
      rw [wrE (v := w - 17) (by omega) (by omega)]
      exact (jremE (x := w - 17) (k := 2) (by omega) (by omega) (by decide) (by decide)).2
    obtain ⟨M', S', a1, a2⟩ := L_isChanged hRG h (what := (w - 17) / 2) (by omega) ho two1
    refine ⟨M', S', ?_, hm a2⟩
    rw [if_pos c5, if_pos c12, if_pos c14, if_pos k14, if_pos k15, if_pos k16, if_neg c27]
    simp only [LtE]
    rw [ew, a1, ClS]
  by_cases c30 : 30 ≤ w
  case neg =>
    have e31 := j1 31 (by decide) (by decide)
    obtain ⟨M', S', a1, a2⟩ := L_isRewritten hRG hRs (by omega) h (n := one % 31) (by omega)
    refine ⟨M', S', ?_, a2⟩
    rw [if_pos c5, if_pos c12, if_pos c14, if_pos k14, if_pos k15, if_pos k16, if_pos c27, if_neg c30]
    simp only [LtE]
    rw [e31, a1, ClS]
  -- asking
  have e31 := j1 31 (by decide) (by decide)
  have e10 := j1 10 (by decide) (by decide)
  have e6 := j2 6 (by decide) (by decide)
  generalize hnd : (if S 0 35 ≤ 0 then one % 31 else if one % 10 ≤ 0 then one % 31 else one % S 0 35) = node
  have hnode : 0 ≤ node := by
    rw [← hnd]
    split
    · omega
    · split
      · omega
      · exact Int.emod_nonneg one (by omega)
  generalize hit : (if S 0 35 ≤ node then (0 : Int) else if S 0 12 ≤ two % 6 then 0 else 1) = it
  have hit1 : it = 0 ∨ it = 1 := by rw [← hit]; split; exact Or.inl rfl; split; exact Or.inl rfl; exact Or.inr rfl
  obtain ⟨M', S', a1, a2⟩ := L_asks hRG hRs hb h ho two1 (J := fun _ _ => none) hnode it hit1
  refine ⟨M', S', ?_, a1⟩
  rw [if_pos c5, if_pos c12, if_pos c14, if_pos k14, if_pos k15, if_pos k16, if_pos c27, if_pos c30, gdE g4, LtE, l5]
  refine Lt_gen fun J532 h532 => ?_
  have hJ532 : (Lt (fun (M90 : Mm) => Lt (jrem one 31) fun v92 => J532 v92 M90) fun J527_91 => if S 0 35 ≤ 0 then J527_91 M else Lt (jrem one 10) fun v94 => if v94 ≤ 0 then J527_91 M else gd ((0 : Nat) ≤ 4 ∧ 4 < 11) <| Lt (S 0 35) fun v96 => gd (¬ v96 = 0) <| Lt (jrem one v96) fun v97 => J532 v97 M) = J532 node M := by
    simp only [LtE]
    rw [e31, e10, gdE g4, ← hnd]
    by_cases d1 : S 0 35 ≤ 0
    · rw [if_pos d1, if_pos d1]
    · rw [if_neg d1, if_neg d1]
      by_cases d2 : one % 10 ≤ 0
      · rw [if_pos d2, if_pos d2]
      · rw [if_neg d2, if_neg d2, gdE (by omega), j1 (S 0 35) (by omega) (by omega)]
  refine hJ532.trans ?_
  rw [h532]
  show gd _ (Lt (M 684 4) _) = _
  rw [gdE g4, LtE, l5]
  refine Lt_gen fun J560 h560 => ?_
  have hJ560 : (Lt (fun (M84 : Mm) => J560 0 M84) fun J559_85 => if S 0 35 ≤ node then J559_85 M else Lt (jrem two 6) fun v87 => gd ((0 : Nat) ≤ 1 ∧ 1 < 11) <| Lt (M 684 1) fun v88 => if v88 ≤ v87 then J559_85 M else J560 1 M) = J560 it M := by
    simp only [LtE]
    rw [e6, gdE g1, l2, ← hit]
    by_cases d1 : S 0 35 ≤ node
    · rw [if_pos d1, if_pos d1]
    · rw [if_neg d1, if_neg d1]
      by_cases d2 : S 0 12 ≤ two % 6
      · rw [if_pos d2, if_pos d2]
      · rw [if_neg d2, if_neg d2]
  refine hJ560.trans ?_
  rw [h560]
  exact a2
