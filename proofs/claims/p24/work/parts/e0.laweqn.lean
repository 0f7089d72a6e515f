/-! the law lays an equation -/
theorem L_isEquation {RG : Mm → Nat → Int} (hRG : RGok RG) {N : Nat} {xs : Nat → Int32} {M S : Mm} {b a7 : Int} (h : LI RG M S b) (h7 : 0 ≤ a7 ∧ a7 ≤ 10000) : ∃ M' S', f_L_isEquation N xs a7 M = some (1, M') ∧ LI RG M' S' b := by
  obtain ⟨hci, hLM, h6, hB⟩ := id h
  obtain ⟨⟨p1, p2, p3, p4, p5⟩, -, -, -, -⟩ := hci.1.1.1
  obtain ⟨⟨l1, l2, l3, l4, l5⟩, -, -, l9, -⟩ := id hLM
  have h10 := p1.1
  have h12 := p1.2.1
  have g0 : (0 : Nat) ≤ 0 ∧ (0 : Nat) < 11 := by decide
  have g1 : (0 : Nat) ≤ 1 ∧ (1 : Nat) < 11 := by decide
  have g2 : (0 : Nat) ≤ 2 ∧ (2 : Nat) < 11 := by decide
  by_cases cz : S 0 12 = 0 ∨ S 0 0 = 0
  · have hbad : f_L_does 5 0 0 (-1) 0 0 M = some (-3000000, M) := by
      obtain ⟨r, q, a1, a2, a3, a4, a5, a6, a7', a8, a9⟩ := g24_equation hRG 0 0 (-1) 0 hci.1.1
      rw [if_pos (fun e : eqA S 0 0 (-1) 0 => by have x := e.1; have y := e.2.1; omega)] at a7'
      rw [does_5, Clt_fail a1 (by rw [a7']; decide) (a8 (by rw [a7']; decide)).1, a7']
      rfl
    refine ⟨M, S, ?_, h⟩
    unfold f_L_isEquation
    rw [gdE g1, LtE, l2]
    refine Lt_gen fun J14 h14 => ?_
    have hJ : J14 M = some (1, M) := by
      rw [h14]
      show Cl (f_L_does 5 0 0 (-1) 0 0 M) _ = _
      rw [hbad, ClS, LtE, if_neg (c := ¬ (-3000000 : Int) = -3000000) (fun q => q rfl)]
    by_cases c : S 0 12 = 0
    · show (if S 0 12 = 0 then J14 M else _) = _
      rw [if_pos c]; exact hJ
    · show (if S 0 12 = 0 then J14 M else _) = _
      rw [if_neg c, gdE g0, LtE, l1, if_neg (fun q => q (cz.resolve_left c))]
      exact hJ
  have c12 : ¬ S 0 12 = 0 := fun q => cz (Or.inl q)
  have c00 : ¬ S 0 0 = 0 := fun q => cz (Or.inr q)
  obtain ⟨at_, at1, at2⟩ := L_part N xs (a := a7) (n := S 0 12) h7.1 (by omega)
  obtain ⟨P, P1, P2⟩ := L_part N xs (a := a7 + 17) (n := S 0 0) (by omega) (by omega)
  obtain ⟨tv, tv1, tv2⟩ := L_part N xs (a := a7 + 18) (n := 3) (by omega) (by decide)
  obtain ⟨dv, dv1, dv2⟩ := L_part N xs (a := a7 + 19) (n := 4) (by omega) (by decide)
  have w17 : wr (a7 + 17) = a7 + 17 := wrE (by omega) (by omega)
  have w18 : wr (a7 + 18) = a7 + 18 := wrE (by omega) (by omega)
  have w19 : wr (a7 + 19) = a7 + 19 := wrE (by omega) (by omega)
  have hk := l9 at_.toNat (tn_lt at1.1 at1.2)
  have hk03 := p1.2.2.1 at_ at1.1 at1.2
  have gat : 0 ≤ at_ ∧ at_ < 6 := by omega
  generalize hkd : S 12 at_.toNat = kd at hk hk03
  generalize hnd : (if ¬ kd = 2 then (1 : Int) else 2) = nd
  have hnd2 : nd = 1 ∨ nd = 2 := by rw [← hnd]; split <;> simp
  have hnd3 : nd = (if kd = 2 then 2 else 1) := by
    rw [← hnd]
    by_cases c : kd = 2
    · rw [if_neg (fun q => q c), if_pos c]
    · rw [if_pos c, if_neg c]
  -- the draft is empty
  obtain ⟨A1, S1, b1, b2, b3, b4, b5, b6, b7⟩ := t_dropSteps hRG hci
  have hL1 := h.draft b3 b4 fun j hj => b7 j (by omega)
  generalize hM1 : jnM A1 M = M1 at hL1
  have m1 : ∀ k, 681 ≤ k → M1 k = M k := fun k hk => by rw [← hM1, jnM_hi hk]
  -- its steps
  obtain ⟨st, M3, S3, c1, c2, c3, c4, c5, c6⟩ := eq_loop hRG (N := N) (xs := xs) h7 hnd2 8 0 FU rfl (FU_lt (by decide)) M1 S1 0 hL1 (by rw [b4.2 12 (by simp)]; omega) b6 ⟨by omega, by omega⟩ ⟨Int.le_refl _, Int.le_refl _⟩
  have hq3 : AgQ S S3 := b4.trans c3
  have m3 : ∀ k, 681 ≤ k → M3 k = M k := fun k hk => by rw [c6 k hk, m1 k hk]
  have e00 : S3 0 0 = S 0 0 := hq3.2 0 (by simp)
  have e12 : S3 0 12 = S 0 12 := hq3.2 12 (by simp)
  have e19 : S3 0 19 = S 0 19 := hq3.2 19 (by simp)
  have r12 : S3 12 = S 12 := hq3.1 12 (by decide) (by decide) (by decide)
  have r4 : S3 4 = S 4 := hq3.1 4 (by decide) (by decide) (by decide)
  have hP4 := (p1.2.2.2.1 P P1.1 P1.2).2.2.2.2.1
  have hP2 := (p1.2.2.2.1 P P1.1 P1.2).2.1
  generalize ht : (if ¬ kd = 2 then (if ¬ kd = 1 then (-1 : Int) else tv) else -2) = t
  have hEB : eqB (S3 12 at_.toNat) t := by
    rw [r12, hkd, ← ht]
    unfold eqB
    by_cases c : kd = 2
    · rw [if_neg (fun q => q c)]; exact Or.inr (Or.inl ⟨c, rfl⟩)
    · rw [if_pos c]
      by_cases d : kd = 1
      · rw [if_neg (fun q => q d)]; exact Or.inl ⟨d, tv1.1⟩
      · rw [if_pos d]; exact Or.inr (Or.inr ⟨d, c, rfl⟩)
  have htb : -2 ≤ t ∧ t < 3 := by
    rw [← ht]
    repeat' split
    all_goals omega
  have hch : f_L_children P M3 = some (S 4 P.toNat, M3) := by
    have := L_childrenI (S := S3) c2.1.1.1.1.1.1 c2.2.1 P1.1 (by rw [e00]; exact P1.2)
    rw [r4] at this
    exact this
  -- the way to the equation itself
  have hroad : ∀ r : Rs, (∀ J697 : Int → Mm → Rs, J697 = (fun v58 M59 => some (v58, M59)) → True) → (Cl (f_L_does 5 P at_ t dv 0 M3) fun v50 M49 => Lt (fun (v51 : Int) (v52 : Int) (M53 : Mm) => Lt (fun (v55 : Int) (M56 : Mm) => Lt (fun (v58 : Int) (M59 : Mm) => some (v58, M59)) fun J697_60 => Lt (fun (M61 : Mm) => J697_60 0 M61) fun J696_62 => if v55 = 0 then J696_62 M56 else if ¬ v50 = v52 then J696_62 M56 else gd (0 ≤ at_ ∧ at_ < 6) <| Lt (M56 683 at_.toNat) fun v65 => Lt (fun (v66 : Int) (M67 : Mm) => Cl (f_L_does 5 P at_ v66 0 0 M67) fun v70 M69 => if ¬ v70 = -2000000 then J696_62 M69 else J697_60 1 M69) fun J682_68 => if ¬ v65 = 1 then (gd (0 ≤ at_ ∧ at_ < 6) <| Lt (M56 683 at_.toNat) fun v73 => if ¬ v73 = 2 then J682_68 (-2) M56 else J682_68 (-1) M56) else J682_68 (-1) M56) fun J638_57 => if v52 < 0 then J638_57 v51 M53 else gd ((0 : Nat) ≤ 2 ∧ 2 < 11) <| Lt (M53 684 2) fun v76 => Lt (wr (20 * at_)) fun v77 => Lt (wr (P + v77)) fun v78 => Lt (wr (t + 2)) fun v79 => Lt (wr (200 * v79)) fun v80 => Lt (wr (v78 + v80)) fun v81 => Lt (wr (2000 * dv)) fun v82 => Lt (wr (v81 + v82)) fun v83 => gd (0 ≤ v76 ∧ v76 < 30) <| Lt (up M53 682 v76.toNat v83) fun M84 => gd ((0 : Nat) ≤ 2 ∧ 2 < 11) <| Lt (M84 684 2) fun v85 => Lt (wr (v85 + 1)) fun v86 => gd ((0 : Nat) ≤ 2 ∧ 2 < 11) <| Lt (up M84 684 2 v86) fun M87 => J638_57 v51 M87) fun J593_54 => if ¬ (if S 4 P.toNat ≤ t then (0 : Int) else 1) = 0 then Lt (fun (v89 : Int) (M90 : Mm) => J593_54 v89 (-1000000) M90) fun J584_91 => if ¬ st = nd then J584_91 1 M49 else gd ((0 : Nat) ≤ 2 ∧ 2 < 11) <| Lt (M49 684 2) fun v93 => if ¬ v93 = 30 then gd ((0 : Nat) ≤ 2 ∧ 2 < 11) <| Lt (M49 684 2) fun v95 => J593_54 1 v95 M49 else J584_91 1 M49 else J593_54 1 (-3000000) M49) = r → f_L_isEquation N xs a7 M = r := by
    intro r _ hr
    unfold f_L_isEquation
    rw [gdE g1, LtE, l2]
    refine Lt_gen fun J14 h14 => ?_
    show (if S 0 12 = 0 then J14 M else _) = _
    rw [if_neg c12, gdE g0, LtE, l1, if_pos c00, gdE g1, LtE, at2, ClS, gdE gat, LtE, hk]
    refine Lt_gen fun J61 h61 => ?_
    have hJ61 : (if ¬ kd = 2 then J61 1 M else J61 2 M) = J61 nd M := by
      rw [← hnd]
      by_cases c : kd = 2
      · rw [if_neg (fun q => q c), if_neg (fun q => q c)]
      · rw [if_pos c, if_pos c]
    refine hJ61.trans ?_
    rw [h61]
    show Clj (f_X11_dropSteps M) M _ = _
    rw [b1, CljS, hM1]
    refine Lt_gen fun J75 h75 => ?_
    show (if S 0 14 < 0 then J75 0 M1 else J75 1 M1) = _
    rw [if_neg (by omega), h75]
    refine Lt_gen fun J457 h457 => ?_
    refine (c1 J457).trans ?_
    rw [h457]
    show Lt (wr (a7 + 17)) _ = _
    rw [LtE, w17, gdE g0, LtE, m3 684 (by decide), l1, P2, ClS, gdE gat, LtE, m3 683 (by decide), hk]
    refine Lt_gen fun J509 h509 => ?_
    have hJ509 : (if ¬ kd = 2 then (gd (0 ≤ at_ ∧ at_ < 6) <| Lt kd fun v98 => if ¬ v98 = 1 then J509 1 st (-1) M3 else Lt (wr (a7 + 18)) fun v100 => Cl (f_L_part N xs v100 3 M3) fun v102 M101 => J509 1 st v102 M101) else J509 1 st (-2) M3) = J509 1 st t M3 := by
      rw [← ht, gdE gat, LtE, LtE, w18, tv2, ClS]
      by_cases c : kd = 2
      · rw [if_neg (fun q => q c), if_neg (fun q => q c)]
      · rw [if_pos c, if_pos c]
        by_cases d : kd = 1
        · rw [if_neg (fun q => q d), if_neg (fun q => q d)]
        · rw [if_pos d, if_pos d]
    refine hJ509.trans ?_
    rw [h509]
    show Lt (wr (a7 + 19)) _ = _
    rw [LtE, w19, dv2, ClS, hch, ClS]
    refine Lt_gen fun J540 h540 => ?_
    have hJ540 : (if S 4 P.toNat ≤ t then J540 1 st 0 M3 else J540 1 st 1 M3) = J540 1 st (if S 4 P.toNat ≤ t then (0 : Int) else 1) M3 := by
      by_cases c : S 4 P.toNat ≤ t
      · rw [if_pos c, if_pos c]
      · rw [if_neg c, if_neg c]
    refine hJ540.trans ?_
    rw [h540]
    exact hr
  -- the target that does not go with the kind
  generalize ht' : (if ¬ kd = 1 then (if ¬ kd = 2 then (-2 : Int) else -1) else -1) = t'
  have ht'0 : t' < 0 := by
    rw [← ht']
    by_cases d : kd = 1
    · rw [if_neg (fun q => q d)]; decide
    · rw [if_pos d]
      by_cases c : kd = 2
      · rw [if_neg (fun q => q c)]; decide
      · rw [if_pos c]; decide
  have hnB : ¬ eqB kd t' := by
    rw [← ht']
    unfold eqB
    by_cases d : kd = 1
    · rw [if_neg (fun q => q d)]; omega
    · rw [if_pos d]
      by_cases c : kd = 2
      · rw [if_neg (fun q => q c)]; omega
      · rw [if_pos c]; omega
  have hend : ∀ (Mf Sf : Mm), LI RG Mf Sf b → Sf 0 0 = S 0 0 → Sf 0 12 = S 0 12 → Sf 12 = S 12 → (gd (0 ≤ at_ ∧ at_ < 6) <| if ¬ Mf 683 at_.toNat = 1 then (gd (0 ≤ at_ ∧ at_ < 6) <| if ¬ Mf 683 at_.toNat = 2 then (Cl (f_L_does 5 P at_ (-2) 0 0 Mf) fun v70 M69 => if ¬ v70 = -2000000 then some (0, M69) else some (1, M69)) else (Cl (f_L_does 5 P at_ (-1) 0 0 Mf) fun v70 M69 => if ¬ v70 = -2000000 then some (0, M69) else some (1, M69))) else (Cl (f_L_does 5 P at_ (-1) 0 0 Mf) fun v70 M69 => if ¬ v70 = -2000000 then some (0, M69) else some (1, M69)) : Rs) = some (1, Mf) := by
    intro Mf Sf hf f0 f12 fr
    have hkf : Mf 683 at_.toNat = kd := by
      rw [hf.2.1.2.2.2.1 at_.toNat (tn_lt at1.1 (by rw [f12]; exact at1.2)), fr, hkd]
    have hbad := D_eqBad hRG hf.1 (p := P) (a := at_) (t := t') (by rw [f0]; exact P1) (by rw [f12]; exact at1) ht'0 (by rw [fr, hkd]; exact hnB)
    have hx : (Cl (f_L_does 5 P at_ t' 0 0 Mf) fun v70 M69 => if ¬ v70 = -2000000 then some (0, M69) else some (1, M69) : Rs) = some (1, Mf) := by
      rw [hbad, ClS, if_neg (c := ¬ (-2000000 : Int) = -2000000) (fun q => q rfl)]
    rw [← hx, ← ht', gdE gat, gdE gat, hkf]
    by_cases d : kd = 1
    · rw [if_neg (fun q => q d), if_neg (fun q => q d)]
    · rw [if_pos d, if_pos d]
      by_cases c : kd = 2
      · rw [if_neg (fun q => q c), if_neg (fun q => q c)]
      · rw [if_pos c, if_pos c]
  have hm684 : M3 684 = M 684 := m3 684 (by decide)
  rcases D_equation hRG c2 (p := P) (a := at_) (t := t) (d := dv) (by rw [e00]; exact P1) (by rw [e12]; exact at1) (by omega) hEB with ⟨x1, x2⟩ | ⟨x1, x2, x3⟩ | ⟨x1, x2, M4, S4, x3, x4, x5, x6, x7, x8⟩
  · rw [r4] at x1
    refine ⟨M3, S3, hroad _ (fun _ _ => trivial) ?_, c2⟩
    rw [x2, ClS]
    simp only [LtE]
    rw [if_pos (c := S 4 P.toNat ≤ t) (by omega), if_neg (c := ¬ (0 : Int) = 0) (fun q => q rfl), if_pos (by decide), if_neg (c := (1 : Int) = 0) (by decide), if_neg (c := ¬ True) (fun q => q trivial)]
    exact hend M3 S3 c2 e00 e12 r12
  · rw [r4] at x1
    refine ⟨M3, S3, hroad _ (fun _ _ => trivial) ?_, c2⟩
    rw [x3, ClS]
    simp only [LtE]
    rw [if_neg (c := S 4 P.toNat ≤ t) (by omega), if_pos (c := ¬ (1 : Int) = 0) (by decide), gdE g2]
    have hbody := hend M3 S3 c2 e00 e12 r12
    rw [c4, r12, hkd, ← hnd3, e19] at x2
    rw [hm684, l3]
    by_cases c : st = nd
    · rw [if_neg (fun q => q c), if_neg (c := ¬ S 0 19 = 30) (fun q => x2 ⟨c, q⟩), gdE g2, if_pos (by decide), if_neg (c := (1 : Int) = 0) (by decide), if_neg (c := ¬ True) (fun q => q trivial)]
      exact hbody
    · rw [if_pos c, if_pos (by decide), if_neg (c := (1 : Int) = 0) (by decide), if_neg (c := ¬ True) (fun q => q trivial)]
      exact hbody
  · rw [r4] at x1
    have x2' := x2
    rw [c4, r12, hkd, ← hnd3, e19] at x2'
    have n684 : M4 684 = M 684 := by rw [x4 684 (by decide), hm684]
    have h19 := p3.1
    rw [e19] at x3 x5
    refine ⟨_, S4, hroad _ (fun _ _ => trivial) ?_, x5⟩
    have hww : wr (wr (wr (P + wr (20 * at_)) + wr (200 * wr (t + 2))) + wr (2000 * dv)) = P + 20 * at_ + 200 * (t + 2) + 2000 * dv := by
      rw [wrE (v := 20 * at_) (by omega) (by omega), wrE (v := P + 20 * at_) (by omega) (by omega), wrE (v := t + 2) (by omega) (by omega), wrE (v := 200 * (t + 2)) (by omega) (by omega), wrE (v := P + 20 * at_ + 200 * (t + 2)) (by omega) (by omega), wrE (v := 2000 * dv) (by omega) (by omega), wrE (by omega) (by omega)]
    have hfin := hend _ S4 x5 (by rw [x6, e00]) (by rw [x7, e12]) (by rw [x8, r12])
    have hup : ∀ w, up M4 682 (S 0 19).toNat w 684 2 = S 0 19 := fun w => by rw [up_ne _ _ _ (by decide), n684, l3]
    rw [x3, ClS]
    simp only [LtE]
    rw [if_neg (c := S 4 P.toNat ≤ t) (by omega), if_pos (c := ¬ (1 : Int) = 0) (by decide), gdE g2, n684, l3, if_neg (c := ¬ st = nd) (fun q => q x2'.1), gdE g2, if_pos (c := ¬ S 0 19 = 30) x2'.2, if_neg (c := S 0 19 < 0) (by omega), gdE g2, hww, gdE (show 0 ≤ S 0 19 ∧ S 0 19 < 30 by omega), gdE g2, gdE g2, hup, wrE (v := S 0 19 + 1) (by omega) (by omega), if_neg (c := (1 : Int) = 0) (by decide), if_neg (c := ¬ S 0 19 = S 0 19) (fun q => q rfl)]
    exact hfin
