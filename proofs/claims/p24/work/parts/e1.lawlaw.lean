/-! one turn of the law -/
theorem LI.mono {RG : Mm → Nat → Int} {M S : Mm} {b b' : Int} (h : LI RG M S b) (hb : b ≤ b') : LI RG M S b' :=
  ⟨h.1, h.2.1, h.2.2.1, ⟨h.2.2.2.1.1, Int.le_trans h.2.2.2.1.2 hb⟩, ⟨h.2.2.2.2.1.1, Int.le_trans h.2.2.2.2.1.2 hb⟩, h.2.2.2.2.2⟩
theorem LI.up9 {RG : Mm → Nat → Int} {M S : Mm} {b x : Int} (h : LI RG M S b) (hx : 0 ≤ x ∧ x ≤ b) : LI RG (up M 684 9 x) S b := by
  obtain ⟨h1, h2, h3, h4⟩ := h
  have y : ∀ i, i ≠ 9 → up M 684 9 x 684 i = M 684 i := fun i hi => up_off hi
  refine ⟨h1.ext fun k hk => up_ne _ _ _ (by omega), ?_, by rw [y 6 (by decide), up_ne _ _ _ (show 299 ≠ 684 by decide)]; exact h3, ?_⟩
  · unfold LM at h2 ⊢
    rw [y 0 (by decide), y 1 (by decide), y 2 (by decide), y 3 (by decide), y 4 (by decide), y 5 (by decide), up_ne _ _ _ (show 681 ≠ 684 by decide), up_ne _ _ _ (show 682 ≠ 684 by decide), up_ne _ _ _ (show 683 ≠ 684 by decide), up_ne _ _ _ (show 273 ≠ 684 by decide)]
    exact h2
  · unfold LB at h4 ⊢
    rw [up_at, y 10 (by decide), up_ne _ _ _ (show 299 ≠ 684 by decide), up_ne _ _ _ (show 283 ≠ 684 by decide)]
    exact ⟨h4.1, hx, h4.2.2⟩
theorem LI.up10 {RG : Mm → Nat → Int} {M S : Mm} {b x : Int} (h : LI RG M S b) (hx : 0 ≤ x ∧ x ≤ 5) : LI RG (up M 684 10 x) S b := by
  obtain ⟨h1, h2, h3, h4⟩ := h
  have y : ∀ i, i ≠ 10 → up M 684 10 x 684 i = M 684 i := fun i hi => up_off hi
  refine ⟨h1.ext fun k hk => up_ne _ _ _ (by omega), ?_, by rw [y 6 (by decide), up_ne _ _ _ (show 299 ≠ 684 by decide)]; exact h3, ?_⟩
  · unfold LM at h2 ⊢
    rw [y 0 (by decide), y 1 (by decide), y 2 (by decide), y 3 (by decide), y 4 (by decide), y 5 (by decide), up_ne _ _ _ (show 681 ≠ 684 by decide), up_ne _ _ _ (show 682 ≠ 684 by decide), up_ne _ _ _ (show 683 ≠ 684 by decide), up_ne _ _ _ (show 273 ≠ 684 by decide)]
    exact h2
  · unfold LB at h4 ⊢
    rw [up_at, y 9 (by decide), up_ne _ _ _ (show 299 ≠ 684 by decide), up_ne _ _ _ (show 283 ≠ 684 by decide)]
    exact ⟨h4.1, h4.2.1, hx, h4.2.2.2⟩
theorem D_toggle4 {RG : Mm → Nat → Int} (hRG : RGok RG) {M S : Mm} (h : CI RG M S) : f_L_does 6 4 0 0 0 0 M = some (-3000000, M) := by
  obtain ⟨r, q, a1, a2, a3, a4, a5, a6, a7, a8, a9⟩ := g24_toggle hRG 4 h.1.1
  rw [if_neg (by decide)] at a7
  rw [does_6, Clt_fail a1 (by rw [a7]; decide) (a8 (by rw [a7]; decide)).1, a7]
  rfl
/-- an asking turn: the nodes and attributes that are there -/
theorem L_asks {RG : Mm → Nat → Int} (hRG : RGok RG) (hRs : RGs RG) {M S : Mm} {b : Int} (hb : b ≤ 90000) (h : LI RG M S b) {one two : Int} (h1 : 0 ≤ one ∧ one < 70000) (h2 : 0 ≤ two ∧ two < 70000) {J : Int → Mm → Rs} {node : Int} (hn : 0 ≤ node) (it : Int) (hit : it = 0 ∨ it = 1) : ∃ M' S', LI RG M' S' (b + 400) ∧ (Lt (fun (v25 : Int) (M26 : Mm) => gd ((0 : Nat) ≤ 9 ∧ 9 < 11) <| Lt (M26 684 9) fun v28 => Lt (fun (v29 : Int) (M30 : Mm) => Lt (wr (v28 + v29)) fun v32 => gd ((0 : Nat) ≤ 9 ∧ 9 < 11) <| Lt (up M30 684 9 v32) fun M33 => gd ((0 : Nat) ≤ 4 ∧ 4 < 11) <| Lt (M33 684 4) fun v34 => Lt (fun (v35 : Int) (M36 : Mm) => gd ((0 : Nat) ≤ 10 ∧ 10 < 11) <| Lt (M36 684 10) fun v38 => Lt (fun (v39 : Int) (M40 : Mm) => Lt (wr (v38 + v39)) fun v42 => gd ((0 : Nat) ≤ 10 ∧ 10 < 11) <| Lt (up M40 684 10 v42) fun M43 => Lt (fun (v44 : Int) (M45 : Mm) => some (v44, M45)) fun J716_46 => Lt (fun (M47 : Mm) => J716_46 0 M47) fun J715_48 => if v25 = 0 then J715_48 M43 else Lt (fun (M50 : Mm) => J716_46 1 M50) fun J711_51 => if v35 = 0 then J711_51 M43 else gd ((0 : Nat) ≤ 4 ∧ 4 < 11) <| Lt (M43 684 4) fun v53 => gd (¬ v53 = 0) <| Lt (jrem one v53) fun v54 => gd ((0 : Nat) ≤ 1 ∧ 1 < 11) <| Lt (M43 684 1) fun v56 => gd (¬ v56 = 0) <| Lt (jrem two v56) fun v57 => Cl (f_L_areReads v54 v57 M43) fun v60 M59 => if v60 = 0 then J715_48 M59 else J711_51 M59) fun J674_41 => if v35 = 0 then J674_41 0 M36 else J674_41 1 M36) fun J656_37 => Lt (fun (M63 : Mm) => J656_37 0 M63) fun J655_64 => if v34 ≤ 0 then J655_64 M33 else gd ((0 : Nat) ≤ 1 ∧ 1 < 11) <| Lt (M33 684 1) fun v66 => if v66 ≤ 0 then J655_64 M33 else Lt (jrem one 2) fun v68 => if ¬ v68 = 1 then J655_64 M33 else gd ((0 : Nat) ≤ 10 ∧ 10 < 11) <| Lt (M33 684 10) fun v70 => if 5 ≤ v70 then J655_64 M33 else J656_37 1 M33) fun J618_31 => if it = 0 then J618_31 0 M26 else J618_31 1 M26) fun J600_27 => Lt (fun (M73 : Mm) => J600_27 1 M73) fun J595_74 => Lt (fun (M75 : Mm) => Lt (jrem two 6) fun v77 => Cl (f_L_isTold node v77 M75) fun v79 M78 => if v79 = 0 then J600_27 0 M78 else J595_74 M78) fun J577_76 => if it = 0 then J577_76 M else gd ((0 : Nat) ≤ 9 ∧ 9 < 11) <| Lt (M 684 9) fun v82 => if 15 < v82 then J595_74 M else J577_76 M) = some (1, M') := by
  have g1 : (0 : Nat) ≤ 1 ∧ (1 : Nat) < 11 := by decide
  have g4 : (0 : Nat) ≤ 4 ∧ (4 : Nat) < 11 := by decide
  have g9 : (0 : Nat) ≤ 9 ∧ (9 : Nat) < 11 := by decide
  have g10 : (0 : Nat) ≤ 10 ∧ (10 : Nat) < 11 := by decide
  have e6 := (jremE (x := two) (k := 6) h2.1 (by omega) (by decide) (by decide)).1
  have e2 := (jremE (x := one) (k := 2) h1.1 (by omega) (by decide) (by decide)).1
  obtain ⟨Mo, So, o1, o2, o3, o4, o5, o6⟩ := L_isTold hRG hRs (by omega) h hn (a := two % 6) (by omega)
  -- behind what is told
  have htl : ∃ Mt St, LI RG Mt St (b + 400) ∧ Mt 684 9 = M 684 9 ∧ Mt 684 10 = M 684 10 ∧ ∀ J600 : Int → Mm → Rs, (Lt (fun (M73 : Mm) => J600 1 M73) fun J595_74 => Lt (fun (M75 : Mm) => Lt (jrem two 6) fun v77 => Cl (f_L_isTold node v77 M75) fun v79 M78 => if v79 = 0 then J600 0 M78 else J595_74 M78) fun J577_76 => if it = 0 then J577_76 M else gd ((0 : Nat) ≤ 9 ∧ 9 < 11) <| Lt (M 684 9) fun v82 => if 15 < v82 then J595_74 M else J577_76 M) = J600 1 Mt := by
    by_cases ca : it = 0
    · refine ⟨Mo, So, o2, o5, o6, fun J600 => ?_⟩
      simp only [LtE]
      rw [if_pos ca, e6, o1, ClS, if_neg (by decide)]
    · by_cases cb : 15 < M 684 9
      · refine ⟨M, S, h.mono (by omega), rfl, rfl, fun J600 => ?_⟩
        simp only [LtE]
        rw [if_neg ca, gdE g9, if_pos cb]
      · refine ⟨Mo, So, o2, o5, o6, fun J600 => ?_⟩
        simp only [LtE]
        rw [if_neg ca, gdE g9, if_neg cb, e6, o1, ClS, if_neg (by decide)]
  obtain ⟨Mt, St, t1, t2, t3, t4⟩ := htl
  have hB := h.2.2.2
  have hx9 : 0 ≤ M 684 9 + it ∧ M 684 9 + it ≤ b + 400 := by
    have a := hB.2.1
    omega
  have t5 := t1.up9 hx9
  generalize hM3 : up Mt 684 9 (M 684 9 + it) = M3 at t5
  have m3 : ∀ i, i ≠ 9 → M3 684 i = Mt 684 i := fun i hi => by rw [← hM3]; exact up_off hi
  obtain ⟨⟨l1, l2, l3, l4, l5⟩, -⟩ := id t5.2.1
  obtain ⟨⟨p1, p2, p3, p4, p5⟩, -, -, -, -⟩ := t5.1.1.1.1
  have h35 := p5.1
  have h12 := p1.2.1
  have w9 : wr (M 684 9 + it) = M 684 9 + it := wrE (by omega) (by omega)
  have h10b := hB.2.2.1
  have w10 : ∀ x : Int, (x = 0 ∨ x = 1) → wr (M 684 10 + x) = M 684 10 + x := fun x hx => wrE (by omega) (by omega)
  -- does it ask
  by_cases cask : 0 < St 0 35 ∧ 0 < St 0 12 ∧ one % 2 = 1 ∧ M 684 10 < 5
  · have t6 := t5.up10 (x := M 684 10 + 1) (by omega)
    generalize hM4 : up M3 684 10 (M 684 10 + 1) = M4 at t6
    have m4 : ∀ i, i ≠ 10 → M4 684 i = M3 684 i := fun i hi => by rw [← hM4]; exact up_off hi
    have en := (jremE (x := one) (k := St 0 35) h1.1 (by omega) (by omega) (by omega)).1
    have ea := (jremE (x := two) (k := St 0 12) h2.1 (by omega) (by omega) (by omega)).1
    have mn := Int.emod_lt_of_pos one cask.1
    have mn0 := Int.emod_nonneg one (show St 0 35 ≠ 0 by omega)
    have ma := Int.emod_lt_of_pos two cask.2.1
    have ma0 := Int.emod_nonneg two (show St 0 12 ≠ 0 by omega)
    obtain ⟨Mr, Sr, r1, r2⟩ := L_areReads hRG hRs t6 (n := one % St 0 35) (a := two % St 0 12) ⟨mn0, mn⟩ ⟨ma0, ma⟩
    refine ⟨Mr, Sr, r2, ?_⟩
    refine Lt_gen fun J600 h600 => (t4 J600).trans ?_
    rw [h600]
    show gd _ (Lt (Mt 684 9) _) = _
    rw [gdE g9, LtE, t2]
    refine Lt_gen fun J618 h618 => ?_
    have hJ : (if it = 0 then J618 0 Mt else J618 1 Mt) = J618 it Mt := by
      rcases hit with e | e <;> rw [e]
      · exact if_pos rfl
      · exact if_neg (by decide)
    refine hJ.trans ?_
    rw [h618]
    show Lt (wr (M 684 9 + it)) _ = _
    simp only [LtE]
    rw [w9, gdE g9, hM3, gdE g4, l5, if_neg (c := St 0 35 ≤ 0) (by omega), gdE g1, l2, if_neg (c := St 0 12 ≤ 0) (by omega), e2, if_neg (c := ¬ one % 2 = 1) (fun q => q cask.2.2.1), gdE g10, m3 10 (by decide), t3, if_neg (c := 5 ≤ M 684 10) (by omega), gdE g10, if_neg (c := (1 : Int) = 0) (by decide), w10 1 (Or.inr rfl), gdE g10, hM4, if_neg (c := (1 : Int) = 0) (by decide), if_neg (c := (1 : Int) = 0) (by decide), gdE g4, m4 4 (by decide), l5, gdE (by omega), gdE g1, m4 1 (by decide), l2, gdE (by omega), en, ea, r1, ClS, if_neg (c := (1 : Int) = 0) (by decide)]
  · have t6 := t5.up10 (x := M 684 10 + 0) (by omega)
    generalize hM4 : up M3 684 10 (M 684 10 + 0) = M4 at t6
    refine ⟨M4, St, t6, ?_⟩
    refine Lt_gen fun J600 h600 => (t4 J600).trans ?_
    rw [h600]
    show gd _ (Lt (Mt 684 9) _) = _
    rw [gdE g9, LtE, t2]
    refine Lt_gen fun J618 h618 => ?_
    have hJ : (if it = 0 then J618 0 Mt else J618 1 Mt) = J618 it Mt := by
      rcases hit with e | e <;> rw [e]
      · exact if_pos rfl
      · exact if_neg (by decide)
    refine hJ.trans ?_
    rw [h618]
    show Lt (wr (M 684 9 + it)) _ = _
    rw [LtE, w9, gdE g9, hM3, LtE, gdE g4, LtE, l5]
    refine Lt_gen fun J656 h656 => ?_
    rw [LtE]
    have hz : J656 0 M3 = some (1, M4) := by
      rw [h656]
      show gd _ (Lt (M3 684 10) _) = _
      simp only [LtE]
      rw [gdE g10, m3 10 (by decide), t3, if_pos trivial, w10 0 (Or.inl rfl), gdE g10, hM4, if_neg (c := (1 : Int) = 0) (by decide), if_pos trivial]
    by_cases d1 : St 0 35 ≤ 0
    · show (if St 0 35 ≤ 0 then J656 0 M3 else _) = _
      rw [if_pos d1]; exact hz
    show (if St 0 35 ≤ 0 then J656 0 M3 else _) = _
    rw [if_neg d1, gdE g1, LtE, l2]
    by_cases d2 : St 0 12 ≤ 0
    · rw [if_pos d2]; exact hz
    rw [if_neg d2, LtE, e2]
    by_cases d3 : one % 2 = 1
    · rw [if_neg (c := ¬ one % 2 = 1) (fun q => q d3), gdE g10, LtE, m3 10 (by decide), t3, if_pos (c := 5 ≤ M 684 10) (by omega)]; exact hz
    · rw [if_pos d3]; exact hz
