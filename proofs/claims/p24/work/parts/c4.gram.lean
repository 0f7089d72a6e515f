/-! grammar calls: what the law asks of them -/
def Ag87 (S S' : Mm) : Prop := (∀ j, j ≠ 0 → S' j = S j) ∧ ∀ i, i ≠ 87 → S' 0 i = S 0 i
theorem Ag87_up {S : Mm} {v : Int} : Ag87 S (up S 0 87 v) := ⟨fun j hj => up_ne _ _ _ hj, fun i hi => by simp [up, hi]⟩
def GrX (MC M' : Mm) : Prop := (∀ i, i < 180 → M' 301 i = 0) ∧ M' 299 = MC 299 ∧ M' 283 = MC 283
theorem fin_op24 {RG : Mm → Nat → Int} {C1 M1 : Mm} {v : Int} {c : Rx} {o : Rs} {P : Int × Int × Mm → Int × Mm → Prop} (k : Nat)
    (hc : c = Cl (f_X11_followGrammar C1) fun _ M9 => some (0, v, M9)) (ho : o = some (v, sr M1 50 fun i => if i < 360 then 0 else M1 50 i)) (hp : Pre C1 M1)
    (hP : ∀ M2, Inv RG M2 (sr M1 50 fun i => if i < 360 then 0 else M1 50 i) k → GrX C1 M2 → P (0, v, M2) (v, sr M1 50 fun i => if i < 360 then 0 else M1 50 i)) : ∃ r q, c = some r ∧ o = some q ∧ P r q := by
  obtain ⟨r, hr, hI⟩ := fin_grammar (RG := RG) hp k
  obtain ⟨⟨p1, p2, p3, p4, p5⟩, ⟨q1, q2, q3, q4, q5⟩, q6, q7, p6⟩ := id hp
  obtain ⟨r', hr', h1, h2, h3, h4⟩ := c_followGrammar p1 p3 q1 q3
  have e : r = r' := by rw [hr] at hr'; exact Option.some.inj hr'
  subst e
  rw [hr] at hc
  exact ⟨_, _, hc, ho, hP _ hI ⟨h3, h2 299 (by decide) (by decide) (by decide) (by decide) (by decide), h2 283 (by decide) (by decide) (by decide) (by decide) (by decide)⟩⟩
theorem g24_attribute {RG : Mm → Nat → Int} (hRG : RGok RG) {MC MR : Mm} (a1 : Int) (hI : Inv RG MC MR 0) : ∃ (r : Int × Int × Mm) (q : Int × Mm), f_X11_attribute a1 MC = some r ∧ f_X12_attribute a1 MR = some q ∧ (r.1 = 0 ∨ r.1 = 2 ∨ r.1 = 3) ∧ q.2 0 87 = (if r.1 = 2 then 1 else if r.1 = 3 then 2 else 0) ∧ (r.1 = 0 → r.2.1 = q.1) ∧ Inv RG r.2.2 q.2 0 ∧ r.1 = (if 0 ≤ a1 ∧ a1 ≤ 3 then (if MR 0 12 = 6 then 3 else 0) else 2) ∧ (r.1 ≠ 0 → r.2.2 = MC ∧ Ag87 MR q.2) ∧ (r.1 = 0 → GrX MC r.2.2 ∧ q.1 = MR 0 12 ∧ (∀ i, i ≠ 87 → i ≠ 12 → q.2 0 i = MR 0 i) ∧ q.2 0 12 = MR 0 12 + 1 ∧ (∀ i, q.2 12 i = if i = (MR 0 12).toNat then a1 else MR 12 i) ∧ ∀ j, j ≠ 0 → j ≠ 12 → j ≠ 50 → q.2 j = MR j) := by
  obtain ⟨hp, hV, hR, hB⟩ := id hI
  obtain ⟨⟨p1, p2, p3, p4, p5⟩, ⟨q1, q2, q3, q4, q5⟩, q6, q7, p6⟩ := id hp
  have hA := p1.2.1
  by_cases c1 : 0 ≤ a1 ∧ a1 ≤ 3
  · by_cases c2 : MR 0 12 = 6
    · refine ⟨(3, 0, MC), (0, up MR 0 87 2), ?_, ?_, by simp, by simp [up], by simp, hI.thr hRG _ _, by rw [if_pos c1, if_pos c2], fun _ => ⟨rfl, Ag87_up⟩, fun h => absurd h (by simp)⟩
      · unfold f_X11_attribute
        simp only [LtE]
        rw [if_neg (by omega), if_pos (by omega), q1.2.1, if_neg (by omega)]
      · unfold f_X12_attribute
        simp [LtE, r_isIn, ClS, r_fails, c1, c2]
    · generalize hM1 : up (up (up MR 0 87 0) 12 (MR 0 12).toNat a1) 0 12 (MR 0 12 + 1) = M1
      generalize hC1 : up (up MC 1 1 (MR 0 12 + 1)) 13 (MR 0 12).toNat a1 = C1
      have e0 : ∀ i, i ≠ 87 → i ≠ 12 → M1 0 i = MR 0 i := fun i i1 i2 => by rw [← hM1]; simp [up, i1, i2]
      have e012 : M1 0 12 = MR 0 12 + 1 := by rw [← hM1]; simp [up]
      have e12 : ∀ i, M1 12 i = if i = (MR 0 12).toNat then a1 else MR 12 i := fun i => by rw [← hM1]; simp [up]
      have er : ∀ j, j ≠ 0 → j ≠ 12 → M1 j = MR j := fun j j1 j2 => by rw [← hM1, up_ne _ _ _ j1, up_ne _ _ _ j2, up_ne _ _ _ j1]
      have f1 : ∀ j, j ≠ 1 → j ≠ 13 → C1 j = MC j := fun j j1 j2 => by rw [← hC1, up_ne _ _ _ j2, up_ne _ _ _ j1]
      have f10 : C1 1 0 = MC 1 0 := by rw [← hC1]; simp [up]
      have f11 : C1 1 1 = MR 0 12 + 1 := by rw [← hC1]; simp [up]
      have f13 : ∀ i, C1 13 i = if i = (MR 0 12).toNat then a1 else MC 13 i := fun i => by rw [← hC1]; simp [up]
      refine fin_op24 (RG := RG) (C1 := C1) (M1 := M1) (v := MR 0 12) 0 ?_ ?_ ⟨⟨?_, ?_, ?_, ?_, ?_⟩, ⟨?_, ?_, ?_, ?_, ?_⟩, ?_, ?_, ?_⟩ ?_
      · unfold f_X11_attribute f_X5_addAttribute
        simp only [LtE]
        rw [if_neg (by omega), if_pos (by omega), q1.2.1, if_pos (by omega), wrE (by omega) (by omega), c_setEntry_in 6 alenC_13 (by omega) (by omega), ClS, ClS, hC1]
      · unfold f_X12_attribute
        have : (up MR 0 87 0) 0 12 = MR 0 12 := by simp [up]
        simp only [LtE, r_isIn, ClS, r_fails]
        rw [if_pos c1, if_pos (by decide), if_pos c2, if_pos (by decide), this, gdE (by omega)]
        have : (up (up MR 0 87 0) 12 (MR 0 12).toNat a1) 0 12 = MR 0 12 := by simp [up]
        rw [this, wrE (by omega) (by omega), hM1, r_dropsAll, ClS, sr_ne _ _ (by decide), e012, wrE (by omega) (by omega), show MR 0 12 + 1 - 1 = MR 0 12 by omega]
      · obtain ⟨o1, o2, o3, o4, o5⟩ := p1
        have hn : nch M1 = nch MR := by
          funext p n
          induction n with
          | zero => rfl
          | succ n ih => simp only [nch]; rw [ih, er 3 (by decide) (by decide)]
        unfold Okg OkP
        rw [e0 0 (by decide) (by decide), e012, hn, er 1 (by decide) (by decide), er 2 (by decide) (by decide), er 3 (by decide) (by decide), er 4 (by decide) (by decide), er 5 (by decide) (by decide), er 6 (by decide) (by decide), er 7 (by decide) (by decide), er 8 (by decide) (by decide), er 9 (by decide) (by decide), er 10 (by decide) (by decide), er 11 (by decide) (by decide)]
        refine ⟨o1, by omega, fun a a0 a1' => ?_, fun p p0 p1 => ?_, o5⟩
        · rw [e12]
          split
          · exact c1
          · exact o3 a a0 (by omega)
        · have := o4 p p0 p1
          unfold OkP at this
          obtain ⟨w1, w2, w3, w4, w5, w6, w7, w8, w9, w10⟩ := this
          refine ⟨w1, w2, w3, w4, w5, w6, w7, w8, w9, ?_⟩
          rcases w10 with w | w
          · exact Or.inl w
          · exact Or.inr ⟨w.1, w.2.1, w.2.2.1, w.2.2.2.1, w.2.2.2.2.1, by omega⟩
      · exact p2.of (by rw [e012]; omega) (e0 14 (by decide) (by decide)) (e0 15 (by decide) (by decide)) fun k k1 k2 => er k (by omega) (by omega)
      · exact p3.of (by rw [e0 0 (by decide) (by decide)]; exact Int.le_refl _) (by rw [e012]; omega) (e0 19 (by decide) (by decide)) (fun k k1 k2 => er k (by omega) (by omega)) (fun a a0 a1' => by rw [e12, if_neg (by omega)]) (fun a _ _ => by rw [er 4 (by decide) (by decide)])
      · exact p4.of (e0 33 (by decide) (by decide)) (er 29 (by decide) (by decide))
      · exact p5.of (by rw [e0 0 (by decide) (by decide)]; exact Int.le_refl _) (e0 35 (by decide) (by decide)) (e0 36 (by decide) (by decide)) (fun k k1 k2 => er k (by omega) (by omega)) (fun p _ _ => by rw [er 4 (by decide) (by decide), er 6 (by decide) (by decide)]; exact ⟨rfl, rfl⟩)
      · unfold CG at q1 ⊢
        rw [f10, f11, e0 0 (by decide) (by decide), e012, er 1 (by decide) (by decide), er 2 (by decide) (by decide), er 3 (by decide) (by decide), er 4 (by decide) (by decide), er 5 (by decide) (by decide), er 6 (by decide) (by decide), er 7 (by decide) (by decide), er 8 (by decide) (by decide), er 9 (by decide) (by decide), er 10 (by decide) (by decide), er 11 (by decide) (by decide), f1 2 (by decide) (by decide), f1 3 (by decide) (by decide), f1 4 (by decide) (by decide), f1 5 (by decide) (by decide), f1 6 (by decide) (by decide), f1 7 (by decide) (by decide), f1 8 (by decide) (by decide), f1 9 (by decide) (by decide), f1 10 (by decide) (by decide), f1 11 (by decide) (by decide), f1 12 (by decide) (by decide)]
        refine ⟨q1.1, rfl, fun a a0 a1' => ?_, q1.2.2.2⟩
        rw [f13, e12]
        split
        · rfl
        · exact q1.2.2.1 a a0 (by omega)
      · exact q2.of (e0 14 (by decide) (by decide)) (e0 15 (by decide) (by decide)) (fun k k1 k2 => er k (by omega) (by omega)) fun k k1 k2 => f1 k (by omega) (by omega)
      · exact (q3.of (M' := C1) (fun k k1 k2 k3 k4 => f1 k (by omega) (by omega)) p3.1.2).of2 (e0 19 (by decide) (by decide)) fun k k1 k2 => er k (by omega) (by omega)
      · exact q4.of (e0 33 (by decide) (by decide)) (er 29 (by decide) (by decide)) fun k k1 k2 => f1 k (by omega) (by omega)
      · exact q5.of p5 (e0 35 (by decide) (by decide)) (e0 36 (by decide) (by decide)) (fun k k1 k2 => er k (by omega) (by omega)) (fun p _ _ => by rw [er 4 (by decide) (by decide)]) fun k k1 k2 => f1 k (by omega) (by omega)
      · exact q6.of fun k hk => f1 k (by omega) (by omega)
      · rw [f1 299 (by decide) (by decide), e0 67 (by decide) (by decide)]; exact q7
      · exact p6.of (e0 35 (by decide) (by decide)) (e0 68 (by decide) (by decide)) (e0 79 (by decide) (by decide)) (er 51 (by decide) (by decide)) (er 36 (by decide) (by decide))
      · intro M2 h2 h3x
        refine ⟨Or.inl rfl, ?_, fun _ => rfl, h2, by rw [if_pos c1, if_neg c2], fun h => absurd rfl h, fun _ => ⟨⟨h3x.1, h3x.2.1.trans (f1 299 (by decide) (by decide)), h3x.2.2.trans (f1 283 (by decide) (by decide))⟩, rfl, fun i i1 i2 => by simp only; rw [sr_ne _ _ (by decide)]; exact e0 i i1 i2, by simp only; rw [sr_ne _ _ (by decide)]; exact e012, fun i => by simp only; rw [sr_ne _ _ (by decide)]; exact e12 i, fun j j0 j1 j2 => by simp only; rw [sr_ne _ _ j2]; exact er j j0 j1⟩⟩
        simp only
        rw [sr_ne _ _ (by decide), ← hM1]
        simp [up]
  · refine ⟨(2, 0, MC), (0, up MR 0 87 1), ?_, ?_, by simp, by simp [up], by simp, hI.thr hRG _ _, by rw [if_neg c1], fun _ => ⟨rfl, Ag87_up⟩, fun h => absurd h (by simp)⟩
    · unfold f_X11_attribute
      simp only [LtE]
      by_cases c2 : a1 < 0
      · rw [if_pos c2]
      · rw [if_neg c2, if_neg (by omega)]
    · unfold f_X12_attribute
      simp [LtE, r_isIn, ClS, r_fails, c1]
theorem g24_rule {RG : Mm → Nat → Int} (hRG : RGok RG) {MC MR : Mm} (p b o : Int) (hI : Inv RG MC MR 0) : ∃ (r : Int × Int × Mm) (q : Int × Mm), f_X11_rule p b o MC = some r ∧ f_X12_rule p b o MR = some q ∧ (r.1 = 0 ∨ r.1 = 1 ∨ r.1 = 2) ∧ q.2 0 87 = (if r.1 = 1 then 1 else if r.1 = 2 then 2 else 0) ∧ (r.1 = 0 → r.2.1 = q.1) ∧ Inv RG r.2.2 q.2 0 ∧ r.1 = (if (0 ≤ p ∧ p < MR 0 0) ∧ (0 ≤ o ∧ o < MR 0 0) ∧ (0 ≤ b ∧ b < MR 0 12) then (if p ≠ o ∧ shp MR p o then 0 else 2) else 1) ∧ (r.1 ≠ 0 → r.2.2 = MC ∧ Ag87 MR q.2) ∧ (r.1 = 0 → GrX MC r.2.2 ∧ q.1 = MR 10 p.toNat ∧ (∀ i, i ≠ 87 → q.2 0 i = MR 0 i) ∧ (∀ i, q.2 10 i = if i = p.toNat then o else MR 10 i) ∧ ∀ j, j ≠ 0 → j ≠ 10 → j ≠ 11 → j ≠ 50 → q.2 j = MR j) := by
  obtain ⟨hp, hV, hR, hB⟩ := id hI
  obtain ⟨⟨p1, p2, p3, p4, p5⟩, ⟨q1, q2, q3, q4, q5⟩, q6, q7, p6⟩ := id hp
  have hP := p1.1
  by_cases c1 : (0 ≤ p ∧ p < MR 0 0) ∧ (0 ≤ o ∧ o < MR 0 0) ∧ (0 ≤ b ∧ b < MR 0 12)
  case neg =>
    refine ⟨(1, 0, MC), (0, up MR 0 87 1), ?_, ?_, by simp, by simp [up], by simp, hI.thr hRG _ _, by rw [if_neg c1], fun _ => ⟨rfl, Ag87_up⟩, fun h => absurd h (by simp)⟩
    · unfold f_X11_rule
      simp only [LtE, g_hasProduction q1, ClS, g_mustAttr q1]
      by_cases c2 : 0 ≤ p ∧ p < MR 0 0
      · rw [if_pos c2, if_neg (by decide)]
        by_cases c3 : 0 ≤ o ∧ o < MR 0 0
        · rw [if_pos c3, if_pos (by decide), if_neg (fun h => c1 ⟨c2, c3, h⟩)]
        · rw [if_neg c3, if_neg (by decide)]
      · rw [if_neg c2]; simp
    · have hfin : Cl (f_X12_fails 1 MR) (fun v16 M15 => if v16 = 0 then gd (0 ≤ p ∧ p < 10) (gd (0 ≤ p ∧ p < 10) (gd (0 ≤ p ∧ p < 10) (Cl (f_X12_dropsAll (up (up M15 10 p.toNat o) 11 p.toNat b)) fun _ M21 => some (M15 10 p.toNat, M21)))) else some (0, M15)) = some (0, up MR 0 87 1) := by
        rw [r_fails, ClS, if_neg (by decide)]
      unfold f_X12_rule
      simp only [LtE, r_isProduction hP, r_isAttribute p1.2.1, ClS, r_ruOut]
      by_cases c2 : 0 ≤ p ∧ p < MR 0 0
      · rw [if_pos c2, if_neg (by decide)]
        by_cases c3 : 0 ≤ o ∧ o < MR 0 0
        · rw [if_pos c3, if_neg (by decide), if_neg (fun h => c1 ⟨c2, c3, h⟩)]
          simpa using hfin
        · rw [if_neg c3]
          simpa using hfin
      · rw [if_neg c2]
        simpa using hfin
  case pos =>
  obtain ⟨hpp, hoo, hbb⟩ := c1
  have hcl : f_X11_rule p b o MC = if p ≠ o ∧ shp MR p o then Cl (f_X11_followGrammar (up (up MC 11 p.toNat b) 12 p.toNat o)) fun _ M9 => some (0, MR 10 p.toNat, M9) else some (2, 0, MC) := by
    unfold f_X11_rule
    simp only [LtE, g_hasProduction q1, ClS, g_mustAttr q1]
    rw [if_pos hpp, if_neg (by decide), if_pos hoo, if_pos (by decide), if_pos hbb]
    by_cases e : p = o
    · rw [if_pos e, if_neg (fun q => q.1 e)]
    · rw [if_neg e, c_alike p1 q1 hpp hoo, ClS]
      by_cases h : shp MR p o
      · rw [if_pos h, if_pos (by decide), if_pos ⟨e, h⟩]
        unfold f_X5_tellRule
        rw [g_ruleOther q1 p1 hpp, ClS, c_setEntry_in 10 alenC_11 (by omega) (by omega), ClS, c_setEntry_in 10 alenC_12 (by omega) (by omega), ClS, ClS]
      · rw [if_neg h, if_neg (by decide), if_neg (fun q => h q.2)]
  have hrf : f_X12_rule p b o MR = if p ≠ o ∧ shp MR p o then some (MR 10 p.toNat, sr (up (up (up MR 0 87 0) 10 p.toNat o) 11 p.toNat b) 50 fun i => if i < 360 then 0 else (up (up (up MR 0 87 0) 10 p.toNat o) 11 p.toNat b) 50 i) else some (0, up MR 0 87 2) := by
    have hbad : Cl (f_X12_fails 2 MR) (fun v16 M15 => if v16 = 0 then gd (0 ≤ p ∧ p < 10) (gd (0 ≤ p ∧ p < 10) (gd (0 ≤ p ∧ p < 10) (Cl (f_X12_dropsAll (up (up M15 10 p.toNat o) 11 p.toNat b)) fun _ M21 => some (M15 10 p.toNat, M21)))) else some (0, M15)) = some (0, up MR 0 87 2) := by
      rw [r_fails, ClS, if_neg (by decide)]
    have hgood : Cl (f_X12_fails 0 MR) (fun v16 M15 => if v16 = 0 then gd (0 ≤ p ∧ p < 10) (gd (0 ≤ p ∧ p < 10) (gd (0 ≤ p ∧ p < 10) (Cl (f_X12_dropsAll (up (up M15 10 p.toNat o) 11 p.toNat b)) fun _ M21 => some (M15 10 p.toNat, M21)))) else some (0, M15)) = some (MR 10 p.toNat, sr (up (up (up MR 0 87 0) 10 p.toNat o) 11 p.toNat b) 50 fun i => if i < 360 then 0 else (up (up (up MR 0 87 0) 10 p.toNat o) 11 p.toNat b) 50 i) := by
      rw [r_fails, ClS, if_pos (by decide), gdE (by omega), gdE (by omega), gdE (by omega), r_dropsAll, ClS, up_ne _ _ _ (by decide)]
    unfold f_X12_rule
    simp only [LtE, r_isProduction hP, r_isAttribute p1.2.1, ClS, r_ruOut, r_ruLoop p1 hpp hoo]
    rw [if_pos hpp, if_neg (by decide), if_pos hoo, if_neg (by decide), if_pos hbb, if_neg (by decide)]
    rw [if_neg (by decide), gdE (by omega), gdE (by omega), gdE (by omega), gdE (by omega), gdE (by omega), gdE (by omega)]
    by_cases e : p = o
    · have n : ¬ (p ≠ o ∧ shp MR p o) := fun q => q.1 e
      rw [if_pos e, if_neg n, if_pos (c := ¬ (1 : Int) = 0) (by decide), if_pos trivial]
      exact hbad
    rw [if_neg e]
    by_cases e1 : MR 1 p.toNat = MR 1 o.toNat
    case neg =>
      have n : ¬ (p ≠ o ∧ shp MR p o) := fun q => e1 q.2.1
      rw [if_pos e1, if_neg n, if_pos (c := ¬ (1 : Int) = 0) (by decide), if_pos trivial]
      exact hbad
    rw [if_neg (c := ¬ MR 1 p.toNat = MR 1 o.toNat) (by simpa using e1)]
    by_cases e4 : MR 4 p.toNat = MR 4 o.toNat
    case neg =>
      have n : ¬ (p ≠ o ∧ shp MR p o) := fun q => e4 q.2.2.1
      rw [if_pos e4, if_neg n, if_pos (c := ¬ (1 : Int) = 0) (by decide), if_pos trivial]
      exact hbad
    rw [if_neg (c := ¬ MR 4 p.toNat = MR 4 o.toNat) (by simpa using e4)]
    by_cases e6 : MR 6 p.toNat = MR 6 o.toNat
    case neg =>
      have n : ¬ (p ≠ o ∧ shp MR p o) := fun q => e6 q.2.2.2.1
      rw [if_pos e6, if_neg n, if_pos (c := ¬ (1 : Int) = 0) (by decide), if_pos trivial]
      exact hbad
    rw [if_neg (c := ¬ MR 6 p.toNat = MR 6 o.toNat) (by simpa using e6)]
    by_cases e9 : shpK MR p o 0 ∧ shpK MR p o 1 ∧ shpK MR p o 2
    · have y : p ≠ o ∧ shp MR p o := ⟨e, e1, e4, e6, e9⟩
      rw [if_pos e9, if_pos y, if_pos (c := ¬ (1 : Int) = 0) (by decide), if_neg (c := (1 : Int) = 0) (by decide)]
      exact hgood
    · have n : ¬ (p ≠ o ∧ shp MR p o) := fun q => e9 q.2.2.2.2
      rw [if_neg e9, if_neg n, if_pos (c := ¬ (1 : Int) = 0) (by decide), if_pos rfl]
      exact hbad
  by_cases hsh : p ≠ o ∧ shp MR p o
  case neg =>
    rw [if_neg hsh] at hcl hrf
    exact ⟨_, _, hcl, hrf, by simp, by simp [up], by simp, hI.thr hRG _ _, by rw [if_pos ⟨hpp, hoo, hbb⟩, if_neg hsh], fun _ => ⟨rfl, Ag87_up⟩, fun h => absurd h (by simp)⟩
  rw [if_pos hsh] at hcl hrf
  generalize hM1 : up (up (up MR 0 87 0) 10 p.toNat o) 11 p.toNat b = M1 at hrf
  generalize hC1 : up (up MC 11 p.toNat b) 12 p.toNat o = C1 at hcl
  have er : ∀ j, j ≠ 0 → j ≠ 10 → j ≠ 11 → M1 j = MR j := fun j j1 j2 j3 => by rw [← hM1, up_ne _ _ _ j3, up_ne _ _ _ j2, up_ne _ _ _ j1]
  have e0 : ∀ i, i ≠ 87 → M1 0 i = MR 0 i := fun i i1 => by rw [← hM1]; simp [up, i1]
  have e10 : ∀ i, M1 10 i = if i = p.toNat then o else MR 10 i := fun i => by rw [← hM1]; simp [up]
  have e11 : ∀ i, M1 11 i = if i = p.toNat then b else MR 11 i := fun i => by rw [← hM1]; simp [up]
  have em : ∀ j, j ≠ 11 → j ≠ 12 → C1 j = MC j := fun j j1 j2 => by rw [← hC1, up_ne _ _ _ j2, up_ne _ _ _ j1]
  have em11 : ∀ i, C1 11 i = if i = p.toNat then b else MC 11 i := fun i => by rw [← hC1]; simp [up]
  have em12 : ∀ i, C1 12 i = if i = p.toNat then o else MC 12 i := fun i => by rw [← hC1]; simp [up]
  have hn : nch M1 = nch MR := by
    funext p n
    induction n with
    | zero => rfl
    | succ n ih => simp only [nch]; rw [ih, er 3 (by decide) (by decide) (by decide)]
  refine fin_op24 (RG := RG) 0 hcl hrf (hp.gram ?_ ?_ (by rw [e0 0 (by decide)]; exact Int.le_refl _) (by rw [e0 12 (by decide)]; exact Int.le_refl _) (fun i i1 _ _ => e0 i i1) (fun j hj => er j (by omega) (by omega) (by omega)) (fun a _ _ => by rw [er 12 (by decide) (by decide) (by decide)]) (fun a _ _ => by rw [er 4 (by decide) (by decide) (by decide), er 6 (by decide) (by decide) (by decide)]; exact ⟨rfl, rfl⟩) fun j hj => em j (by omega) (by omega)) ?_
  · obtain ⟨o1, o2, o3, o4, o5⟩ := p1
    unfold Okg
    rw [e0 0 (by decide), e0 12 (by decide), er 12 (by decide) (by decide) (by decide), er 2 (by decide) (by decide) (by decide), er 4 (by decide) (by decide) (by decide), er 6 (by decide) (by decide) (by decide), er 8 (by decide) (by decide) (by decide)]
    refine ⟨o1, o2, o3, fun q q0 q1 => ?_, fun q q0 q1 => ?_⟩
    · have hq := o4 q q0 q1
      unfold OkP at hq ⊢
      rw [hn, e0 0 (by decide), e0 12 (by decide), er 1 (by decide) (by decide) (by decide), er 2 (by decide) (by decide) (by decide), er 3 (by decide) (by decide) (by decide), er 4 (by decide) (by decide) (by decide), er 5 (by decide) (by decide) (by decide), er 6 (by decide) (by decide) (by decide), er 7 (by decide) (by decide) (by decide), er 8 (by decide) (by decide) (by decide), er 9 (by decide) (by decide) (by decide)]
      obtain ⟨w1, w2, w3, w4, w5, w6, w7, w8, w9, w10⟩ := hq
      refine ⟨w1, w2, w3, w4, w5, w6, w7, w8, w9, ?_⟩
      rw [e10, e11]
      by_cases e : q = p
      · subst e
        rw [if_pos rfl, if_pos rfl]
        exact Or.inr ⟨hoo.1, hoo.2, hsh.2.2.1.symm, hsh.2.2.2.1.symm, hbb.1, hbb.2⟩
      · rw [if_neg (by omega), if_neg (by omega)]; exact w10
    · have := o5 q q0 q1
      rw [e10, if_neg (by omega)]; exact this
  · unfold CG at q1 ⊢
    rw [e0 0 (by decide), e0 12 (by decide), er 1 (by decide) (by decide) (by decide), er 2 (by decide) (by decide) (by decide), er 3 (by decide) (by decide) (by decide), er 4 (by decide) (by decide) (by decide), er 5 (by decide) (by decide) (by decide), er 6 (by decide) (by decide) (by decide), er 7 (by decide) (by decide) (by decide), er 8 (by decide) (by decide) (by decide), er 9 (by decide) (by decide) (by decide), er 12 (by decide) (by decide) (by decide), em 1 (by decide) (by decide), em 2 (by decide) (by decide), em 3 (by decide) (by decide), em 4 (by decide) (by decide), em 5 (by decide) (by decide), em 6 (by decide) (by decide), em 7 (by decide) (by decide), em 8 (by decide) (by decide), em 9 (by decide) (by decide), em 10 (by decide) (by decide), em 13 (by decide) (by decide)]
    obtain ⟨w1, w2, w3, w4, w5⟩ := q1
    refine ⟨w1, w2, w3, fun q q0 q1 => ?_, w5⟩
    obtain ⟨v1, v2, v3, v4, v5, v6, v7, v8⟩ := w4 q q0 q1
    refine ⟨v1, v2, v3, v4, v5, ?_, ?_, v8⟩
    · rw [em12, e10, v6]
    · rw [em11, e11, e10]
      by_cases e : q.toNat = p.toNat
      · rw [if_pos e, if_pos e, if_pos e]; exact fun _ => rfl
      · rw [if_neg e, if_neg e, if_neg e]; exact v7
  · intro M2 h2 h3x
    refine ⟨Or.inl rfl, ?_, fun _ => rfl, h2, by rw [if_pos ⟨hpp, hoo, hbb⟩, if_pos hsh], fun h => absurd rfl h, fun _ => ⟨⟨h3x.1, h3x.2.1.trans (em 299 (by decide) (by decide)), h3x.2.2.trans (em 283 (by decide) (by decide))⟩, rfl, fun i i1 => by simp only; rw [sr_ne _ _ (by decide)]; exact e0 i i1, fun i => by simp only; rw [sr_ne _ _ (by decide)]; exact e10 i, fun j j0 j1 j2 j3 => by simp only; rw [sr_ne _ _ j3]; exact er j j0 j1 j2⟩⟩
    simp only
    rw [sr_ne _ _ (by decide), ← hM1]
    simp [up]
theorem g24_forward {RG : Mm → Nat → Int} (hRG : RGok RG) {MC MR : Mm} (p o a b c : Int) (hI : Inv RG MC MR 0) : ∃ (r : Int × Int × Mm) (q : Int × Mm), f_X11_forward p o a b c MC = some r ∧ f_X12_forward p o a b c MR = some q ∧ (r.1 = 0 ∨ r.1 = 1 ∨ r.1 = 2) ∧ q.2 0 87 = (if r.1 = 1 then 1 else if r.1 = 2 then 2 else 0) ∧ (r.1 = 0 → r.2.1 = q.1) ∧ Inv RG r.2.2 q.2 0 ∧ r.1 = (r.1) ∧ (r.1 ≠ 0 → r.2.2 = MC ∧ Ag87 MR q.2) ∧ (r.1 = 0 → GrX MC r.2.2 ∧ q.1 = MR 8 p.toNat ∧ -1 ≤ MR 8 p.toNat ∧ (∀ i, i ≠ 87 → q.2 0 i = MR 0 i) ∧ ∀ j, j ≠ 0 → j ≠ 8 → j ≠ 9 → j ≠ 50 → q.2 j = MR j) := by
  obtain ⟨hp, hV, hR, hB⟩ := id hI
  obtain ⟨⟨p1, p2, p3, p4, p5⟩, ⟨q1, q2, q3, q4, q5⟩, q6, q7, p6⟩ := id hp
  have hP := p1.1
  -- no such production
  by_cases c1 : (0 ≤ p ∧ p < MR 0 0) ∧ (o = -1 ∨ (0 ≤ o ∧ o < MR 0 0))
  case neg =>
    refine ⟨(1, 0, MC), (0, up MR 0 87 1), ?_, ?_, by simp, by simp [up], by simp, hI.thr hRG _ _, rfl, fun _ => ⟨rfl, Ag87_up⟩, fun h => absurd h (by simp)⟩
    · unfold f_X11_forward
      simp only [LtE, g_hasProduction q1, ClS]
      by_cases c2 : 0 ≤ p ∧ p < MR 0 0
      · have c3 : ¬ o = -1 := fun h => c1 ⟨c2, Or.inl h⟩
        rw [if_pos c2, if_neg (by decide), if_neg c3, if_neg (fun h => c1 ⟨c2, Or.inr h⟩)]
        simp
      · rw [if_neg c2]; simp
    · have hout : ∀ (J : Int → Int → Mm → Rs) (r : Int) (M : Mm), Lp (f_X12_forward_L68_91 p o a b c J) FU (0, r, 0, M) = J 0 r M := by
        intro J r M
        rw [FU_4, Lp_s]
        simp only [f_X12_forward_L68_91]
        rw [if_neg (by decide), if_pos trivial]
      unfold f_X12_forward
      simp only [LtE, r_isProduction hP, ClS]
      by_cases c2 : 0 ≤ p ∧ p < MR 0 0
      · have c3 : ¬ o = -1 := fun h => c1 ⟨c2, Or.inl h⟩
        rw [if_pos c2, if_neg (by decide), if_neg c3, if_neg (fun h => c1 ⟨c2, Or.inr h⟩)]
        simp [hout, r_fails, ClS]
      · rw [if_neg c2]
        simp [hout, r_fails, ClS]
  case pos =>
  obtain ⟨hpp, hoo⟩ := c1
  have hcp := chl_le p1 hpp
  have hCpre : ∀ {α : Type} (A B : α), (if (if 0 ≤ p ∧ p < MR 0 0 then (1 : Int) else 0) = 0 then A else B) = B := fun A B => by rw [if_pos hpp, if_neg (by decide)]
  have hC1 : ∀ {J K : Mm → Rx}, (if o = -1 then J MC else Cl (f_X5_hasProduction o MC) fun v46 M45 => if ¬ v46 = 0 then J M45 else K M45) = J MC := by
    intro J K
    rcases hoo with e | e
    · rw [if_pos e]
    · rw [if_neg (by omega), g_hasProduction q1, ClS, if_pos e, if_pos (by decide)]
  have hB0 := c_standsByChild p1 q1 (k := 0) (v := a) hpp hoo (by decide)
  have hB1 := c_standsByChild p1 q1 (k := 1) (v := b) hpp hoo (by decide)
  have hB2 := c_standsByChild p1 q1 (k := 2) (v := c) hpp hoo (by decide)
  have hr0 : ∃ r : Int, (r = 0 ∨ r = 1) ∧ (r = 1 ↔ o ≠ p ∧ (o = -1 ∨ MR 1 o.toNat = MR 1 p.toNat)) ∧ f_X12_forward p o a b c MR = (if fwB MR p o 0 a ∧ fwB MR p o 1 b ∧ fwB MR p o 2 c then (if r = 1 ∧ fwG MR p o 0 a ∧ fwG MR p o 1 b ∧ fwG MR p o 2 c then
        some (MR 8 p.toNat, sr (up (up (up (up (up MR 0 87 0) 8 p.toNat o) 9 (3 * p).toNat a) 9 (3 * p + 1).toNat b) 9 (3 * p + 2).toNat c) 50 fun i => if i < 360 then 0 else MR 50 i)
        else some (0, up MR 0 87 2)) else some (0, up MR 0 87 1)) := by
    have hend : ∀ r : Int, (r = 0 ∨ r = 1) → Lp (f_X12_forward_L68_91 p o a b c (fun v9 v10 M11 => if ¬ v9 = 0 then (if v10 = 0 then (Cl (f_X12_fails 2 M11) fun v17 M16 => if v17 = 0 then gd (0 ≤ p ∧ p < 10) (gd (0 ≤ p ∧ p < 10) (Lp (f_X12_forward_L237_34 p a b c fun M21 => Cl (f_X12_dropsAll M21) fun _ M23 => some (M16 8 p.toNat, M23)) FU (0, up M16 8 p.toNat o))) else some (0, M16)) else (Cl (f_X12_fails 0 M11) fun v17 M16 => if v17 = 0 then gd (0 ≤ p ∧ p < 10) (gd (0 ≤ p ∧ p < 10) (Lp (f_X12_forward_L237_34 p a b c fun M21 => Cl (f_X12_dropsAll M21) fun _ M23 => some (M16 8 p.toNat, M23)) FU (0, up M16 8 p.toNat o))) else some (0, M16))) else (Cl (f_X12_fails 1 M11) fun v17 M16 => if v17 = 0 then gd (0 ≤ p ∧ p < 10) (gd (0 ≤ p ∧ p < 10) (Lp (f_X12_forward_L237_34 p a b c fun M21 => Cl (f_X12_dropsAll M21) fun _ M23 => some (M16 8 p.toNat, M23)) FU (0, up M16 8 p.toNat o))) else some (0, M16)))) FU (1, r, 0, MR) = (if fwB MR p o 0 a ∧ fwB MR p o 1 b ∧ fwB MR p o 2 c then (if r = 1 ∧ fwG MR p o 0 a ∧ fwG MR p o 1 b ∧ fwG MR p o 2 c then
        some (MR 8 p.toNat, sr (up (up (up (up (up MR 0 87 0) 8 p.toNat o) 9 (3 * p).toNat a) 9 (3 * p + 1).toNat b) 9 (3 * p + 2).toNat c) 50 fun i => if i < 360 then 0 else MR 50 i)
        else some (0, up MR 0 87 2)) else some (0, up MR 0 87 1)) := by
      intro r hr
      rw [r_fwLoop p1 hpp hoo hr]
      by_cases cB : fwB MR p o 0 a ∧ fwB MR p o 1 b ∧ fwB MR p o 2 c
      · rw [if_pos cB, if_pos cB, if_pos (by decide)]
        by_cases cG : r = 1 ∧ fwG MR p o 0 a ∧ fwG MR p o 1 b ∧ fwG MR p o 2 c
        · rw [if_pos cG, if_pos cG, if_neg (by decide), r_fails, ClS, if_pos (by decide), gdE (by omega), gdE (by omega), r_fwLay (by omega), r_dropsAll, ClS]
          rfl
        · rw [if_neg cG, if_neg cG, if_pos rfl, r_fails, ClS, if_neg (by decide)]
      · rw [if_neg cB, if_neg cB, if_neg (by decide), r_fails, ClS, if_neg (by decide)]
    unfold f_X12_forward
    simp only [LtE, r_isProduction hP, ClS]
    rw [if_pos hpp, if_neg (by decide)]
    have hq : ∃ r : Int, (r = 0 ∨ r = 1) ∧ (r = 1 ↔ o ≠ p ∧ (o = -1 ∨ MR 1 o.toNat = MR 1 p.toNat)) ∧ ∀ (F : Int → Rs), (if o = p then F 0 else if o = -1 then F 1 else gd (0 ≤ o ∧ o < 10) (gd (0 ≤ p ∧ p < 10) (if ¬ MR 1 o.toNat = MR 1 p.toNat then F 0 else F 1))) = F r := by
      by_cases e1 : o = p
      · exact ⟨0, Or.inl rfl, ⟨fun h => (by cases h), fun h => absurd e1 h.1⟩, fun F => by rw [if_pos e1]⟩
      · by_cases e2 : o = -1
        · exact ⟨1, Or.inr rfl, ⟨fun _ => ⟨e1, Or.inl e2⟩, fun _ => rfl⟩, fun F => by rw [if_neg e1, if_pos e2]⟩
        · have e3 : 0 ≤ o ∧ o < MR 0 0 := by omega
          by_cases e4 : MR 1 o.toNat = MR 1 p.toNat
          · exact ⟨1, Or.inr rfl, ⟨fun _ => ⟨e1, Or.inr e4⟩, fun _ => rfl⟩, fun F => by rw [if_neg e1, if_neg e2, gdE (by omega), gdE (by omega), if_neg (by simpa using e4)]⟩
          · exact ⟨0, Or.inl rfl, ⟨fun h => (by cases h), fun h => (by rcases h.2 with q | q; exact absurd q e2; exact absurd q e4)⟩, fun F => by rw [if_neg e1, if_neg e2, gdE (by omega), gdE (by omega), if_pos e4]⟩
    obtain ⟨r, hr1, hr2, hr3⟩ := hq
    refine ⟨r, hr1, hr2, ?_⟩
    rw [← hend r hr1]
    rw [← hr3 (fun r => Lp (f_X12_forward_L68_91 p o a b c (fun v9 v10 M11 => if ¬ v9 = 0 then (if v10 = 0 then (Cl (f_X12_fails 2 M11) fun v17 M16 => if v17 = 0 then gd (0 ≤ p ∧ p < 10) (gd (0 ≤ p ∧ p < 10) (Lp (f_X12_forward_L237_34 p a b c fun M21 => Cl (f_X12_dropsAll M21) fun _ M23 => some (M16 8 p.toNat, M23)) FU (0, up M16 8 p.toNat o))) else some (0, M16)) else (Cl (f_X12_fails 0 M11) fun v17 M16 => if v17 = 0 then gd (0 ≤ p ∧ p < 10) (gd (0 ≤ p ∧ p < 10) (Lp (f_X12_forward_L237_34 p a b c fun M21 => Cl (f_X12_dropsAll M21) fun _ M23 => some (M16 8 p.toNat, M23)) FU (0, up M16 8 p.toNat o))) else some (0, M16))) else (Cl (f_X12_fails 1 M11) fun v17 M16 => if v17 = 0 then gd (0 ≤ p ∧ p < 10) (gd (0 ≤ p ∧ p < 10) (Lp (f_X12_forward_L237_34 p a b c fun M21 => Cl (f_X12_dropsAll M21) fun _ M23 => some (M16 8 p.toNat, M23)) FU (0, up M16 8 p.toNat o))) else some (0, M16)))) FU (1, r, 0, MR))]
    rcases hoo with e | e
    · rw [if_pos e]; rfl
    · have e2 : ¬ o = -1 := by omega
      rw [if_neg e2, if_pos e, if_neg (by decide)]; rfl
  obtain ⟨r, hr1, hr2, hr3⟩ := hr0
  have hcl : f_X11_forward p o a b c MC = (if fwB MR p o 0 a ∧ fwB MR p o 1 b ∧ fwB MR p o 2 c then (if r = 1 ∧ fwG MR p o 0 a ∧ fwG MR p o 1 b ∧ fwG MR p o 2 c then Cl (f_X11_followGrammar (up (up (up (up MC 9 p.toNat o) 10 (3 * p).toNat a) 10 (3 * p + 1).toNat b) 10 (3 * p + 2).toNat c)) fun _ M9 => some (0, MR 8 p.toNat, M9) else some (2, 0, MC)) else some (1, 0, MC)) := by
    unfold f_X11_forward
    simp only [LtE, g_hasProduction q1, ClS]
    rw [if_pos hpp, if_neg (by decide)]
    have hst : ∀ A : Rx, (∀ (h : True), A = (if fwB MR p o 0 a ∧ fwB MR p o 1 b ∧ fwB MR p o 2 c then (if r = 1 ∧ fwG MR p o 0 a ∧ fwG MR p o 1 b ∧ fwG MR p o 2 c then Cl (f_X11_followGrammar (up (up (up (up MC 9 p.toNat o) 10 (3 * p).toNat a) 10 (3 * p + 1).toNat b) 10 (3 * p + 2).toNat c)) fun _ M9 => some (0, MR 8 p.toNat, M9) else some (2, 0, MC)) else some (1, 0, MC))) → (if o = -1 then A else if ¬ (if 0 ≤ o ∧ o < MR 0 0 then (1 : Int) else 0) = 0 then A else some (1, 0, MC)) = (if fwB MR p o 0 a ∧ fwB MR p o 1 b ∧ fwB MR p o 2 c then (if r = 1 ∧ fwG MR p o 0 a ∧ fwG MR p o 1 b ∧ fwG MR p o 2 c then Cl (f_X11_followGrammar (up (up (up (up MC 9 p.toNat o) 10 (3 * p).toNat a) 10 (3 * p + 1).toNat b) 10 (3 * p + 2).toNat c)) fun _ M9 => some (0, MR 8 p.toNat, M9) else some (2, 0, MC)) else some (1, 0, MC)) := by
      intro A hA
      rcases hoo with e | e
      · rw [if_pos e]; exact hA trivial
      · rw [if_neg (c := o = -1) (by omega), if_pos e, if_pos (by decide)]; exact hA trivial
    refine hst _ fun _ => ?_
    rw [hB0, ClS]
    by_cases b0 : fwB MR p o 0 a
    case neg => 
      have n2 : ¬ (fwB MR p o 0 a ∧ fwB MR p o 1 b ∧ fwB MR p o 2 c) := fun q => b0 q.1
      rw [if_neg b0, if_pos rfl, if_neg n2]
    rw [if_pos b0, if_neg (by decide), hB1, ClS]
    by_cases b1 : fwB MR p o 1 b
    case neg => 
      have n2 : ¬ (fwB MR p o 0 a ∧ fwB MR p o 1 b ∧ fwB MR p o 2 c) := fun q => b1 q.2.1
      rw [if_neg b1, if_pos rfl, if_neg n2]
    rw [if_pos b1, if_neg (by decide), hB2, ClS]
    by_cases b2 : fwB MR p o 2 c
    case neg => 
      have n2 : ¬ (fwB MR p o 0 a ∧ fwB MR p o 1 b ∧ fwB MR p o 2 c) := fun q => b2 q.2.2
      rw [if_neg b2, if_neg (by decide), if_neg n2]
    have y2 : fwB MR p o 0 a ∧ fwB MR p o 1 b ∧ fwB MR p o 2 c := ⟨b0, b1, b2⟩
    rw [if_pos b2, if_pos (by decide), if_pos y2]
    by_cases e1 : o = p
    · have n3 : ¬ (r = 1 ∧ fwG MR p o 0 a ∧ fwG MR p o 1 b ∧ fwG MR p o 2 c) := fun q => (hr2.mp q.1).1 e1
      rw [if_pos e1, if_neg n3]
    rw [if_neg e1]
    have hh : ∀ A : Rx, (if o = -1 then A else if MR 1 o.toNat = MR 1 p.toNat then A else some (2, 0, MC)) = if r = 1 then A else some (2, 0, MC) := by
      intro A
      by_cases e2 : o = -1
      · rw [if_pos e2, if_pos (hr2.mpr ⟨e1, Or.inl e2⟩)]
      · by_cases e3 : MR 1 o.toNat = MR 1 p.toNat
        · rw [if_neg e2, if_pos e3, if_pos (hr2.mpr ⟨e1, Or.inr e3⟩)]
        · rw [if_neg e2, if_neg e3, if_neg (fun h => by rcases (hr2.mp h).2 with q | q; exact e2 q; exact e3 q)]
    have hd : ∀ {K : Int → Int → Mm → Rx} {A : Rx}, (if o = -1 then A else Cl (f_X5_headOf o MC) fun v40 M39 => Cl (f_X5_headOf p M39) fun v42 M41 => K v40 v42 M41) = if o = -1 then A else K (MR 1 o.toNat) (MR 1 p.toNat) MC := by
      intro K A
      by_cases e2 : o = -1
      · rw [if_pos e2, if_pos e2]
      · rw [if_neg e2, if_neg e2, g_head q1 p1 (by omega), ClS, g_head q1 p1 hpp, ClS]
    rw [hd, hh]
    by_cases e3 : r = 1
    case neg =>
      have n3 : ¬ (r = 1 ∧ fwG MR p o 0 a ∧ fwG MR p o 1 b ∧ fwG MR p o 2 c) := fun q => e3 q.1
      rw [if_neg e3, if_neg n3]
    rw [if_pos e3]
    rw [c_standsRightly p1 q1 hpp hoo (by decide) b0, ClS]
    by_cases g0 : fwG MR p o 0 a
    case neg =>
      have n3 : ¬ (r = 1 ∧ fwG MR p o 0 a ∧ fwG MR p o 1 b ∧ fwG MR p o 2 c) := fun q => g0 q.2.1
      rw [if_neg g0, if_pos rfl, if_neg n3]
    rw [if_pos g0, if_neg (by decide), c_standsRightly p1 q1 hpp hoo (by decide) b1, ClS]
    by_cases g1 : fwG MR p o 1 b
    case neg =>
      have n3 : ¬ (r = 1 ∧ fwG MR p o 0 a ∧ fwG MR p o 1 b ∧ fwG MR p o 2 c) := fun q => g1 q.2.2.1
      rw [if_neg g1, if_pos rfl, if_neg n3]
    rw [if_pos g1, if_neg (by decide), c_standsRightly p1 q1 hpp hoo (by decide) b2, ClS]
    by_cases g2 : fwG MR p o 2 c
    case neg =>
      have n3 : ¬ (r = 1 ∧ fwG MR p o 0 a ∧ fwG MR p o 1 b ∧ fwG MR p o 2 c) := fun q => g2 q.2.2.2
      rw [if_neg g2, if_neg (by decide), if_neg n3]
    have y3 : r = 1 ∧ fwG MR p o 0 a ∧ fwG MR p o 1 b ∧ fwG MR p o 2 c := ⟨e3, g0, g1, g2⟩
    rw [if_pos g2, if_pos (by decide), if_pos y3]
    unfold f_X5_tellForward
    simp only [LtE]
    simp (disch := omega) only [wrE]
    rw [g_forward q1 p1 hpp, ClS, c_setEntry_in 10 alenC_9 (by omega) (by omega), ClS, c_setEntry_in 30 alenC_10 (by omega) (by omega), ClS, c_setEntry_in 30 alenC_10 (by omega) (by omega), ClS, c_setEntry_in 30 alenC_10 (by omega) (by omega), ClS, ClS, Int.mul_comm p 3]
  have h8x : -1 ≤ MR 8 p.toNat := by
    rcases (p1.2.2.2.1 p hpp.1 hpp.2).2.2.2.2.2.2.2.2.1 with w | w <;> omega
  by_cases cB : fwB MR p o 0 a ∧ fwB MR p o 1 b ∧ fwB MR p o 2 c
  case neg =>
    rw [if_neg cB] at hcl hr3
    exact ⟨_, _, hcl, hr3, by simp, by simp [up], by simp, hI.thr hRG _ _, rfl, fun _ => ⟨rfl, Ag87_up⟩, fun h => absurd h (by simp)⟩
  by_cases cG : r = 1 ∧ fwG MR p o 0 a ∧ fwG MR p o 1 b ∧ fwG MR p o 2 c
  case neg =>
    rw [if_pos cB, if_neg cG] at hcl hr3
    exact ⟨_, _, hcl, hr3, by simp, by simp [up], by simp, hI.thr hRG _ _, rfl, fun _ => ⟨rfl, Ag87_up⟩, fun h => absurd h (by simp)⟩
  rw [if_pos cB, if_pos cG] at hcl hr3
  generalize hM1 : up (up (up (up (up MR 0 87 0) 8 p.toNat o) 9 (3 * p).toNat a) 9 (3 * p + 1).toNat b) 9 (3 * p + 2).toNat c = M1 at hr3
  generalize hC1 : up (up (up (up MC 9 p.toNat o) 10 (3 * p).toNat a) 10 (3 * p + 1).toNat b) 10 (3 * p + 2).toNat c = C1 at hcl
  have er : ∀ j, j ≠ 0 → j ≠ 8 → j ≠ 9 → M1 j = MR j := fun j j1 j2 j3 => by rw [← hM1, up_ne _ _ _ j3, up_ne _ _ _ j3, up_ne _ _ _ j3, up_ne _ _ _ j2, up_ne _ _ _ j1]
  have e0 : ∀ i, i ≠ 87 → M1 0 i = MR 0 i := fun i i1 => by rw [← hM1]; simp [up, i1]
  have e8 : ∀ i, M1 8 i = if i = p.toNat then o else MR 8 i := fun i => by rw [← hM1]; simp [up]
  have e9 : ∀ i, M1 9 i = if i = (3 * p + 2).toNat then c else if i = (3 * p + 1).toNat then b else if i = (3 * p).toNat then a else MR 9 i := fun i => by rw [← hM1]; simp [up]
  have em : ∀ j, j ≠ 9 → j ≠ 10 → C1 j = MC j := fun j j1 j2 => by rw [← hC1, up_ne _ _ _ j2, up_ne _ _ _ j2, up_ne _ _ _ j2, up_ne _ _ _ j1]
  have em9 : ∀ i, C1 9 i = if i = p.toNat then o else MC 9 i := fun i => by rw [← hC1]; simp [up]
  have em10 : ∀ i, C1 10 i = if i = (3 * p + 2).toNat then c else if i = (3 * p + 1).toNat then b else if i = (3 * p).toNat then a else MC 10 i := fun i => by rw [← hC1]; simp [up]
  rw [← er 50 (by decide) (by decide) (by decide)] at hr3
  have hn : nch M1 = nch MR := by
    funext p n
    induction n with
    | zero => rfl
    | succ n ih => simp only [nch]; rw [ih, er 3 (by decide) (by decide) (by decide)]
  refine fin_op24 (RG := RG) 0 hcl hr3 (hp.gram ?_ ?_ (by rw [e0 0 (by decide)]; exact Int.le_refl _) (by rw [e0 12 (by decide)]; exact Int.le_refl _) (fun i i1 _ _ => e0 i i1) (fun j hj => er j (by omega) (by omega) (by omega)) (fun a _ _ => by rw [er 12 (by decide) (by decide) (by decide)]) (fun a _ _ => by rw [er 4 (by decide) (by decide) (by decide), er 6 (by decide) (by decide) (by decide)]; exact ⟨rfl, rfl⟩) fun j hj => em j (by omega) (by omega)) ?_
  · obtain ⟨o1, o2, o3, o4, o5⟩ := p1
    unfold Okg
    rw [e0 0 (by decide), e0 12 (by decide), er 12 (by decide) (by decide) (by decide), er 2 (by decide) (by decide) (by decide), er 4 (by decide) (by decide) (by decide), er 6 (by decide) (by decide) (by decide), er 10 (by decide) (by decide) (by decide)]
    refine ⟨o1, o2, o3, fun q q0 q1 => ?_, fun q q0 q1 => ?_⟩
    · have hq := o4 q q0 q1
      unfold OkP at hq ⊢
      rw [hn, e0 0 (by decide), e0 12 (by decide), er 1 (by decide) (by decide) (by decide), er 2 (by decide) (by decide) (by decide), er 3 (by decide) (by decide) (by decide), er 4 (by decide) (by decide) (by decide), er 5 (by decide) (by decide) (by decide), er 6 (by decide) (by decide) (by decide), er 7 (by decide) (by decide) (by decide), er 10 (by decide) (by decide) (by decide), er 11 (by decide) (by decide) (by decide)]
      obtain ⟨w1, w2, w3, w4, w5, w6, w7, w8, w9, w10⟩ := hq
      refine ⟨w1, w2, w3, w4, w5, w6, w7, w8, ?_, w10⟩
      rw [e8]
      by_cases e : q = p
      · subst e
        rw [if_pos rfl]
        rcases hoo with e1 | e1
        · exact Or.inl e1
        · refine Or.inr ⟨e1.1, e1.2, fun j j0 j1 => ?_⟩
          have h4 : MR 4 o.toNat ≤ 3 := (chl_le ⟨o1, o2, o3, o4, o5⟩ e1).2
          have hj : j = 0 ∨ j = 1 ∨ j = 2 := by omega
          rw [e9]
          rcases hj with rfl | rfl | rfl
          · rw [if_neg (by omega), if_neg (by omega), if_pos (by omega)]; exact cB.1 ⟨by omega, j1⟩
          · rw [if_neg (by omega), if_pos (by omega)]; exact cB.2.1 ⟨by omega, j1⟩
          · rw [if_pos (by omega)]; exact cB.2.2 ⟨by omega, j1⟩
      · rw [if_neg (by omega)]
        rcases w9 with w | w
        · exact Or.inl w
        · refine Or.inr ⟨w.1, w.2.1, fun j j0 j1 => ?_⟩
          have h4 : MR 4 (MR 8 q.toNat).toNat ≤ 3 := (chl_le ⟨o1, o2, o3, o4, o5⟩ ⟨w.1, w.2.1⟩).2
          rw [e9, if_neg (by omega), if_neg (by omega), if_neg (by omega)]
          exact w.2.2 j j0 j1
    · rw [e8, if_neg (by omega)]; exact o5 q q0 q1
  · unfold CG at q1 ⊢
    rw [e0 0 (by decide), e0 12 (by decide), er 1 (by decide) (by decide) (by decide), er 2 (by decide) (by decide) (by decide), er 3 (by decide) (by decide) (by decide), er 4 (by decide) (by decide) (by decide), er 5 (by decide) (by decide) (by decide), er 6 (by decide) (by decide) (by decide), er 7 (by decide) (by decide) (by decide), er 10 (by decide) (by decide) (by decide), er 11 (by decide) (by decide) (by decide), er 12 (by decide) (by decide) (by decide), em 1 (by decide) (by decide), em 2 (by decide) (by decide), em 3 (by decide) (by decide), em 4 (by decide) (by decide), em 5 (by decide) (by decide), em 6 (by decide) (by decide), em 7 (by decide) (by decide), em 8 (by decide) (by decide), em 11 (by decide) (by decide), em 12 (by decide) (by decide), em 13 (by decide) (by decide)]
    obtain ⟨w1, w2, w3, w4, w5⟩ := q1
    refine ⟨w1, w2, w3, fun q q0 q1 => ?_, fun i hi => ?_⟩
    · obtain ⟨v1, v2, v3, v4, v5, v6⟩ := w4 q q0 q1
      refine ⟨v1, v2, v3, v4, ?_, v6⟩
      rw [em9, e8]
      by_cases e : q.toNat = p.toNat
      · rw [if_pos e, if_pos e]
      · rw [if_neg e, if_neg e]; exact v5
    · rw [em10, e9, w5 i hi]
  · intro M2 h2 h3x
    refine ⟨Or.inl rfl, ?_, fun _ => rfl, h2, rfl, fun h => absurd rfl h, fun _ => ⟨⟨h3x.1, h3x.2.1.trans (em 299 (by decide) (by decide)), h3x.2.2.trans (em 283 (by decide) (by decide))⟩, rfl, h8x, fun i i1 => by simp only; rw [sr_ne _ _ (by decide)]; exact e0 i i1, fun j j0 j1 j2 j3 => by simp only; rw [sr_ne _ _ j3]; exact er j j0 j1 j2⟩⟩
    simp only
    rw [sr_ne _ _ (by decide), ← hM1]
    simp [up]
theorem g24_toggle {RG : Mm → Nat → Int} (hRG : RGok RG) {MC MR : Mm} (a : Int) (hI : Inv RG MC MR 0) : ∃ (r : Int × Int × Mm) (q : Int × Mm), f_X11_toggle a MC = some r ∧ f_X12_toggle a MR = some q ∧ (r.1 = 0 ∨ r.1 = 1) ∧ q.2 0 87 = (if r.1 = 1 then 1 else 0) ∧ (r.1 = 0 → r.2.1 = q.1) ∧ Inv RG r.2.2 q.2 0 ∧ r.1 = (if 0 ≤ a ∧ a ≤ 3 then 0 else 1) ∧ (r.1 ≠ 0 → r.2.2 = MC ∧ Ag87 MR q.2) ∧ (r.1 = 0 → GrX MC r.2.2 ∧ q.1 = (if MR 27 a.toNat = 0 then 0 else 1) ∧ (∀ i, i ≠ 87 → q.2 0 i = MR 0 i) ∧ (∀ i, q.2 27 i = if i = a.toNat then (if MR 27 a.toNat = 0 then 1 else 0) else MR 27 i) ∧ ∀ j, j ≠ 0 → j ≠ 27 → j ≠ 50 → q.2 j = MR j) := by
  obtain ⟨hp, hV, hR, hB⟩ := id hI
  obtain ⟨⟨p1, p2, p3, p4, p5⟩, ⟨q1, q2, q3, q4, q5⟩, q6, q7, p6⟩ := id hp
  by_cases h : 0 ≤ a ∧ a ≤ 3
  case neg =>
    refine ⟨(1, 0, MC), (0, up MR 0 87 1), ?_, ?_, by simp, by simp [up], by simp, hI.thr hRG _ _, by rw [if_neg h], fun _ => ⟨rfl, Ag87_up⟩, fun h => absurd h (by simp)⟩
    · unfold f_X11_toggle; rw [g_mustAspect, if_neg h]
    · unfold f_X12_toggle; simp only [LtE]
      rw [r_isIn, ClS, if_neg h, if_pos rfl, r_fails, ClS, if_neg (by decide)]
  have e27 := q3.2.1 a.toNat (by omega)
  have hw : ∀ w : Int, w = (if MR 27 a.toNat = 0 then 1 else 0) → w = 0 ∨ w = 1 := fun w hw => by rw [hw]; split <;> simp
  generalize hwv : (if MR 27 a.toNat = 0 then (1 : Int) else 0) = w at hw
  have hw := hw w rfl
  generalize hvv : (if MR 27 a.toNat = 0 then (0 : Int) else 1) = v
  have hcl : f_X11_toggle a MC = Cl (f_X11_followGrammar (up MC 27 a.toNat w)) fun _ M9 => some (0, v, M9) := by
    unfold f_X11_toggle
    rw [g_mustAspect, if_pos h, c_turn h, ClS, e27, hwv, hvv]
  generalize hM1 : up (up MR 0 87 0) 27 a.toNat w = M1
  have hrf : f_X12_toggle a MR = some (v, sr M1 50 fun i => if i < 360 then 0 else M1 50 i) := by
    unfold f_X12_toggle
    simp only [LtE]
    rw [r_isIn, ClS, if_pos h, if_neg (by decide), r_fails, ClS, if_pos (by decide), gdE (by omega), up_ne _ _ _ (by decide)]
    by_cases h0 : MR 27 a.toNat = 0
    · rw [if_pos h0] at hwv hvv
      subst hwv hvv
      rw [if_neg (by omega), gdE (by omega), hM1, r_dropsAll, ClS, gdE (by omega), sr_ne _ _ (by decide), ← hM1, up_at, if_pos (by decide)]
    · rw [if_neg h0] at hwv hvv
      subst hwv hvv
      rw [if_pos h0, gdE (by omega), hM1, r_dropsAll, ClS, gdE (by omega), sr_ne _ _ (by decide), ← hM1, up_at, if_neg (by decide)]
  have er : ∀ j, j ≠ 0 → j ≠ 27 → M1 j = MR j := fun j j1 j2 => by rw [← hM1, up_ne _ _ _ j2, up_ne _ _ _ j1]
  have e0 : ∀ i, i ≠ 87 → M1 0 i = MR 0 i := fun i j1 => by rw [← hM1]; simp [up, j1]
  have e2 : ∀ i, M1 27 i = if i = a.toNat then w else MR 27 i := fun i => by rw [← hM1]; simp [up]
  have em : ∀ j, j ≠ 27 → (up MC 27 a.toNat w) j = MC j := fun j j1 => up_ne _ _ _ j1
  have em2 : ∀ i, (up MC 27 a.toNat w) 27 i = if i = a.toNat then w else MC 27 i := fun i => by simp [up]
  generalize up MC 27 a.toNat w = C1 at hcl em em2
  refine fin_op24 (RG := RG) 0 hcl hrf ⟨⟨?_, ?_, ?_, ?_, ?_⟩, ⟨?_, ?_, ?_, ?_, ?_⟩, ?_, ?_, ?_⟩ ?_
  · exact p1.of (e0 0 (by decide)) (e0 12 (by decide)) fun k k1 k2 => er k (by omega) (by omega)
  · exact p2.of (by rw [e0 12 (by decide)]; exact Int.le_refl _) (e0 14 (by decide)) (e0 15 (by decide)) fun k k1 k2 => er k (by omega) (by omega)
  · refine ⟨by rw [e0 19 (by decide)]; exact p3.1, fun j hj => ?_, fun i hi => ?_⟩
    · rw [e0 19 (by decide)] at hj
      have := p3.2.1 j hj
      unfold OkE eK eA eB eN StepsOk StepOk at *
      rw [e0 0 (by decide), e0 12 (by decide), er 12 (by decide) (by decide), er 4 (by decide) (by decide), er 16 (by decide) (by decide), er 17 (by decide) (by decide), er 18 (by decide) (by decide), er 19 (by decide) (by decide), er 20 (by decide) (by decide), er 21 (by decide) (by decide), er 22 (by decide) (by decide), er 23 (by decide) (by decide), er 24 (by decide) (by decide), er 25 (by decide) (by decide), er 26 (by decide) (by decide)]
      exact this
    · rw [e2]; split
      · exact hw
      · exact p3.2.2 i hi
  · exact p4.of (e0 33 (by decide)) (er 29 (by decide) (by decide))
  · exact p5.of (by rw [e0 0 (by decide)]; exact Int.le_refl _) (e0 35 (by decide)) (e0 36 (by decide)) (fun k k1 k2 => er k (by omega) (by omega)) (fun p _ _ => by rw [er 4 (by decide) (by decide), er 6 (by decide) (by decide)]; exact ⟨rfl, rfl⟩)
  · have := q1.of (M' := C1) fun k k1 k2 => em k (by omega)
    unfold CG at this ⊢
    rw [e0 0 (by decide), e0 12 (by decide), er 1 (by decide) (by decide), er 2 (by decide) (by decide), er 3 (by decide) (by decide), er 4 (by decide) (by decide), er 5 (by decide) (by decide), er 6 (by decide) (by decide), er 7 (by decide) (by decide), er 8 (by decide) (by decide), er 9 (by decide) (by decide), er 10 (by decide) (by decide), er 11 (by decide) (by decide), er 12 (by decide) (by decide)]
    exact this
  · exact q2.of (e0 14 (by decide)) (e0 15 (by decide)) (fun k k1 k2 => er k (by omega) (by omega)) fun k k1 k2 => em k (by omega)
  · obtain ⟨w1, w2, w3⟩ := q3
    refine ⟨by rw [em 25 (by decide), e0 19 (by decide)]; exact w1, fun i hi => ?_, fun j hj => ?_⟩
    · rw [em2, e2]; split
      · rfl
      · exact w2 i hi
    · rw [e0 19 (by decide)] at hj
      have := w3 j hj
      unfold CSt eK eA eB eN at *
      rw [em (33 + 8 * j) (by omega), em (33 + 8 * j + 1) (by omega), em (33 + 8 * j + 2) (by omega), em (33 + 8 * j + 3) (by omega), em (33 + 8 * j + 4) (by omega), em (33 + 8 * j + 5) (by omega), em (33 + 8 * j + 6) (by omega), er 16 (by decide) (by decide), er 17 (by decide) (by decide), er 18 (by decide) (by decide), er 19 (by decide) (by decide), er 20 (by decide) (by decide), er 21 (by decide) (by decide), er 22 (by decide) (by decide), er 23 (by decide) (by decide)]
      exact this
  · exact q4.of (e0 33 (by decide)) (er 29 (by decide) (by decide)) fun k k1 k2 => em k (by omega)
  · exact q5.of p5 (e0 35 (by decide)) (e0 36 (by decide)) (fun k k1 k2 => er k (by omega) (by omega)) (fun p _ _ => by rw [er 4 (by decide) (by decide)]) fun k k1 k2 => em k (by omega)
  · exact q6.of fun k hk => em k (by omega)
  · rw [em 299 (by decide), e0 67 (by decide)]; exact q7
  · exact p6.of (e0 35 (by decide)) (e0 68 (by decide)) (e0 79 (by decide)) (er 51 (by decide) (by decide)) (er 36 (by decide) (by decide))
  · intro M2 h2 h3x
    refine ⟨Or.inl rfl, ?_, fun _ => rfl, h2, by rw [if_pos h], fun h => absurd rfl h, fun _ => ⟨⟨h3x.1, h3x.2.1.trans (em 299 (by decide)), h3x.2.2.trans (em 283 (by decide))⟩, rfl, fun i i1 => by simp only; rw [sr_ne _ _ (by decide)]; exact e0 i i1, fun i => by simp only; rw [sr_ne _ _ (by decide)]; exact e2 i, fun j j0 j1 j2 => by simp only; rw [sr_ne _ _ j2]; exact er j j0 j1⟩⟩
    simp only
    rw [sr_ne _ _ (by decide), ← hM1]
    simp [up]
theorem ad_step24 {M S : Mm} {n a : Int} (hA : AdI M S n) (hn : 0 ≤ n ∧ n < 10) (h0 : S 0 0 = n) (h2 : S 2 n.toNat ≤ 2) (ha : -1 ≤ a ∧ a ≤ 9) : ∃ M' S', f_X5_appendSymbol n a M = some (0, M') ∧ f_X12_adds a S = some (0, S') ∧ AdI M' S' n ∧ Fr M M' n 3 ∧ Fr S S' n 2 ∧ S' 2 n.toNat = (if a = -1 then S 2 n.toNat else S 2 n.toNat + 1) ∧ ∀ i, S' 3 i = if a ≠ -1 ∧ i = (3 * n + S 2 n.toNat).toNat then a else S 3 i := by
  obtain ⟨w1, w2, w3, w4, w5, w6, w7, w8, w9, w10⟩ := id hA
  by_cases c0 : a = -1
  · refine ⟨M, S, ?_, ?_, hA, Fr.refl _ _ _, Fr.refl _ _ _, by rw [if_pos c0], fun i => by rw [if_neg (fun q => q.1 c0)]⟩
    · unfold f_X5_appendSymbol; rw [if_neg (by omega)]
    · unfold f_X12_adds; simp only [LtE]; rw [if_neg (by simpa using c0)]
  rw [if_neg c0]
  have hR1 : ∀ X : Mm → Rs, f_X12_adds a S = (let S1 := up (up S 3 (3 * n + S 2 n.toNat).toNat a) 2 n.toNat (S 2 n.toNat + 1); if 4 ≤ a then some (0, up (up S1 7 (3 * n + S 6 n.toNat).toNat a) 6 n.toNat (S 6 n.toNat + 1)) else some (0, up (up S1 5 (3 * n + S 4 n.toNat).toNat a) 4 n.toNat (S 4 n.toNat + 1))) := by
    intro X
    unfold f_X12_adds
    simp only [LtE]
    rw [if_pos c0, h0, gdE (by omega)]
    simp (disch := omega) only [wrE]
    rw [gdE (by omega)]
    have e1 : up S 3 (3 * n + S 2 n.toNat).toNat a 0 0 = n := by rw [up_ne _ _ _ (by decide), h0]
    have e2 : up S 3 (3 * n + S 2 n.toNat).toNat a 2 n.toNat = S 2 n.toNat := by rw [up_ne _ _ _ (by decide)]
    rw [e1, e2, gdE (by omega), wrE (by omega) (by omega), gdE (by omega)]
    generalize hS1 : up (up S 3 (3 * n + S 2 n.toNat).toNat a) 2 n.toNat (S 2 n.toNat + 1) = S1
    have e3 : S1 0 0 = n := by rw [← hS1, up_ne _ _ _ (by decide), e1]
    have e4 : S1 6 n.toNat = S 6 n.toNat := by rw [← hS1, up_ne _ _ _ (by decide), up_ne _ _ _ (by decide)]
    have e5 : S1 4 n.toNat = S 4 n.toNat := by rw [← hS1, up_ne _ _ _ (by decide), up_ne _ _ _ (by decide)]
    by_cases c4 : 4 ≤ a
    · rw [if_pos c4, if_pos c4, e3, e4, gdE (by omega), wrE (by omega) (by omega), gdE (by omega)]
      have e6 : up S1 7 (3 * n + S 6 n.toNat).toNat a 0 0 = n := by rw [up_ne _ _ _ (by decide), e3]
      have e7 : up S1 7 (3 * n + S 6 n.toNat).toNat a 6 n.toNat = S 6 n.toNat := by rw [up_ne _ _ _ (by decide), e4]
      rw [e6, e7, gdE (by omega), wrE (by omega) (by omega), gdE (by omega)]
    · rw [if_neg c4, if_neg c4, e3, e5, gdE (by omega), wrE (by omega) (by omega), gdE (by omega)]
      have e6 : up S1 5 (3 * n + S 4 n.toNat).toNat a 0 0 = n := by rw [up_ne _ _ _ (by decide), e3]
      have e7 : up S1 5 (3 * n + S 4 n.toNat).toNat a 4 n.toNat = S 4 n.toNat := by rw [up_ne _ _ _ (by decide), e5]
      rw [e6, e7, gdE (by omega), wrE (by omega) (by omega), gdE (by omega)]
  have hR := hR1 fun _ => none
  have hC : f_X5_appendSymbol n a M = (let M1 := up (up M 4 (3 * n + S 2 n.toNat).toNat a) 3 n.toNat (S 2 n.toNat + 1); if 4 ≤ a then some (0, up (up M1 8 (3 * n + S 6 n.toNat).toNat (a - 4)) 7 n.toNat (S 6 n.toNat + 1)) else some (0, up (up M1 6 (3 * n + S 4 n.toNat).toNat a) 5 n.toNat (S 4 n.toNat + 1))) := by
    unfold f_X5_appendSymbol
    rw [if_pos (by omega), c_appendTo hn alenC_4 alenC_3 (by decide) (by omega), ClS, w1]
    simp only [LtE]
    have e1 : up (up M 4 (3 * n + S 2 n.toNat).toNat a) 3 n.toNat (S 2 n.toNat + 1) 7 n.toNat = S 6 n.toNat := by rw [up_ne _ _ _ (by decide), up_ne _ _ _ (by decide), w3]
    have e2 : up (up M 4 (3 * n + S 2 n.toNat).toNat a) 3 n.toNat (S 2 n.toNat + 1) 5 n.toNat = S 4 n.toNat := by rw [up_ne _ _ _ (by decide), up_ne _ _ _ (by decide), w2]
    by_cases c4 : 4 ≤ a
    · rw [if_pos c4, if_pos c4, wrE (by omega) (by omega), c_appendTo hn alenC_8 alenC_7 (by decide) (by omega), ClS, e1]
    · rw [if_neg c4, if_neg c4, c_appendTo hn alenC_6 alenC_5 (by decide) (by omega), ClS, e2]
  simp only at hR hC
  by_cases c4 : 4 ≤ a
  · rw [if_pos c4] at hR hC
    refine ⟨_, _, hC, hR, ?_, (((Fr.up3 hn.1 (by omega) (by simp)).trans (Fr.up1 (by simp))).trans (Fr.up3 hn.1 (by omega) (by simp))).trans (Fr.up1 (by simp)), (((Fr.up3 hn.1 (by omega) (by simp)).trans (Fr.up1 (by simp))).trans (Fr.up3 hn.1 (by omega) (by simp))).trans (Fr.up1 (by simp)), by simp [up], fun i => by simp [up, c0]⟩
    generalize hS' : up (up (up (up S 3 (3 * n + S 2 n.toNat).toNat a) 2 n.toNat (S 2 n.toNat + 1)) 7 (3 * n + S 6 n.toNat).toNat a) 6 n.toNat (S 6 n.toNat + 1) = S'
    generalize hM' : up (up (up (up M 4 (3 * n + S 2 n.toNat).toNat a) 3 n.toNat (S 2 n.toNat + 1)) 8 (3 * n + S 6 n.toNat).toNat (a - 4)) 7 n.toNat (S 6 n.toNat + 1) = M'
    have s2 : ∀ i, S' 2 i = if i = n.toNat then S 2 n.toNat + 1 else S 2 i := fun i => by rw [← hS']; simp [up]
    have s3 : ∀ i, S' 3 i = if i = (3 * n + S 2 n.toNat).toNat then a else S 3 i := fun i => by rw [← hS']; simp [up]
    have s4 : ∀ i, S' 4 i = S 4 i := fun i => by rw [← hS']; simp [up]
    have s5 : ∀ i, S' 5 i = S 5 i := fun i => by rw [← hS']; simp [up]
    have s6 : ∀ i, S' 6 i = if i = n.toNat then S 6 n.toNat + 1 else S 6 i := fun i => by rw [← hS']; simp [up]
    have s7 : ∀ i, S' 7 i = if i = (3 * n + S 6 n.toNat).toNat then a else S 7 i := fun i => by rw [← hS']; simp [up]
    have m3 : ∀ i, M' 3 i = if i = n.toNat then S 2 n.toNat + 1 else M 3 i := fun i => by rw [← hM']; simp [up]
    have m4 : ∀ i, M' 4 i = if i = (3 * n + S 2 n.toNat).toNat then a else M 4 i := fun i => by rw [← hM']; simp [up]
    have m5 : ∀ i, M' 5 i = M 5 i := fun i => by rw [← hM']; simp [up]
    have m6 : ∀ i, M' 6 i = M 6 i := fun i => by rw [← hM']; simp [up]
    have m7 : ∀ i, M' 7 i = if i = n.toNat then S 6 n.toNat + 1 else M 7 i := fun i => by rw [← hM']; simp [up]
    have m8 : ∀ i, M' 8 i = if i = (3 * n + S 6 n.toNat).toNat then (a - 4) else M 8 i := fun i => by rw [← hM']; simp [up]
    have hn2 : nch S' n.toNat (S 2 n.toNat + 1).toNat = nch S n.toNat (S 2 n.toNat).toNat + 0 := by
      rw [show (S 2 n.toNat + 1).toNat = (S 2 n.toNat).toNat + 1 by omega]
      simp only [nch]
      rw [nch_eq (S := S) _ fun j hj => by rw [s3, if_neg (by omega)], s3, if_pos (c := _ = (3 * n + S 2 n.toNat).toNat) (by omega), if_neg (by omega)]
    unfold AdI
    have z2 : S' 2 n.toNat = S 2 n.toNat + 1 := by rw [s2, if_pos rfl]
    have z4 : S' 4 n.toNat = S 4 n.toNat + 0 := by rw [s4]; omega
    have z6 : S' 6 n.toNat = S 6 n.toNat + 1 := by rw [s6]; rw [if_pos rfl]
    have y3 : M' 3 n.toNat = S 2 n.toNat + 1 := by rw [m3, if_pos rfl]
    have y5 : M' 5 n.toNat = S 4 n.toNat + 0 := by rw [m5]; omega
    have y7 : M' 7 n.toNat = S 6 n.toNat + 1 := by rw [m7]; rw [if_pos rfl]
    rw [z2, z4, z6, y3, y5, y7, hn2]
    refine ⟨rfl, rfl, rfl, by omega, by omega, by omega, by omega, fun j j0 j1 => ?_, fun j j0 j1 => ?_, fun j j0 j1 => ?_⟩
    · rw [s3, m4]
      by_cases e : j = S 2 n.toNat
      · rw [if_pos (by omega), if_pos (by omega)]; exact ⟨by omega, rfl⟩
      · rw [if_neg (by omega), if_neg (by omega)]; exact w8 j j0 (by omega)
    · rw [s5, m6]; exact w9 j j0 (by omega)
    · rw [s7, m8]
      by_cases e : j = S 6 n.toNat
      · rw [if_pos (by omega), if_pos (by omega)]; exact ⟨by omega, rfl⟩
      · rw [if_neg (by omega), if_neg (by omega)]; exact w10 j j0 (by omega)
  · rw [if_neg c4] at hR hC
    refine ⟨_, _, hC, hR, ?_, (((Fr.up3 hn.1 (by omega) (by simp)).trans (Fr.up1 (by simp))).trans (Fr.up3 hn.1 (by omega) (by simp))).trans (Fr.up1 (by simp)), (((Fr.up3 hn.1 (by omega) (by simp)).trans (Fr.up1 (by simp))).trans (Fr.up3 hn.1 (by omega) (by simp))).trans (Fr.up1 (by simp)), by simp [up], fun i => by simp [up, c0]⟩
    generalize hS' : up (up (up (up S 3 (3 * n + S 2 n.toNat).toNat a) 2 n.toNat (S 2 n.toNat + 1)) 5 (3 * n + S 4 n.toNat).toNat a) 4 n.toNat (S 4 n.toNat + 1) = S'
    generalize hM' : up (up (up (up M 4 (3 * n + S 2 n.toNat).toNat a) 3 n.toNat (S 2 n.toNat + 1)) 6 (3 * n + S 4 n.toNat).toNat a) 5 n.toNat (S 4 n.toNat + 1) = M'
    have s2 : ∀ i, S' 2 i = if i = n.toNat then S 2 n.toNat + 1 else S 2 i := fun i => by rw [← hS']; simp [up]
    have s3 : ∀ i, S' 3 i = if i = (3 * n + S 2 n.toNat).toNat then a else S 3 i := fun i => by rw [← hS']; simp [up]
    have s4 : ∀ i, S' 4 i = if i = n.toNat then S 4 n.toNat + 1 else S 4 i := fun i => by rw [← hS']; simp [up]
    have s5 : ∀ i, S' 5 i = if i = (3 * n + S 4 n.toNat).toNat then a else S 5 i := fun i => by rw [← hS']; simp [up]
    have s6 : ∀ i, S' 6 i = S 6 i := fun i => by rw [← hS']; simp [up]
    have s7 : ∀ i, S' 7 i = S 7 i := fun i => by rw [← hS']; simp [up]
    have m3 : ∀ i, M' 3 i = if i = n.toNat then S 2 n.toNat + 1 else M 3 i := fun i => by rw [← hM']; simp [up]
    have m4 : ∀ i, M' 4 i = if i = (3 * n + S 2 n.toNat).toNat then a else M 4 i := fun i => by rw [← hM']; simp [up]
    have m5 : ∀ i, M' 5 i = if i = n.toNat then S 4 n.toNat + 1 else M 5 i := fun i => by rw [← hM']; simp [up]
    have m6 : ∀ i, M' 6 i = if i = (3 * n + S 4 n.toNat).toNat then a else M 6 i := fun i => by rw [← hM']; simp [up]
    have m7 : ∀ i, M' 7 i = M 7 i := fun i => by rw [← hM']; simp [up]
    have m8 : ∀ i, M' 8 i = M 8 i := fun i => by rw [← hM']; simp [up]
    have hn2 : nch S' n.toNat (S 2 n.toNat + 1).toNat = nch S n.toNat (S 2 n.toNat).toNat + 1 := by
      rw [show (S 2 n.toNat + 1).toNat = (S 2 n.toNat).toNat + 1 by omega]
      simp only [nch]
      rw [nch_eq (S := S) _ fun j hj => by rw [s3, if_neg (by omega)], s3, if_pos (c := _ = (3 * n + S 2 n.toNat).toNat) (by omega), if_pos (by omega)]
    unfold AdI
    have z2 : S' 2 n.toNat = S 2 n.toNat + 1 := by rw [s2, if_pos rfl]
    have z4 : S' 4 n.toNat = S 4 n.toNat + 1 := by rw [s4]; rw [if_pos rfl]
    have z6 : S' 6 n.toNat = S 6 n.toNat + 0 := by rw [s6]; omega
    have y3 : M' 3 n.toNat = S 2 n.toNat + 1 := by rw [m3, if_pos rfl]
    have y5 : M' 5 n.toNat = S 4 n.toNat + 1 := by rw [m5]; rw [if_pos rfl]
    have y7 : M' 7 n.toNat = S 6 n.toNat + 0 := by rw [m7]; omega
    rw [z2, z4, z6, y3, y5, y7, hn2]
    refine ⟨rfl, rfl, rfl, by omega, by omega, by omega, by omega, fun j j0 j1 => ?_, fun j j0 j1 => ?_, fun j j0 j1 => ?_⟩
    · rw [s3, m4]
      by_cases e : j = S 2 n.toNat
      · rw [if_pos (by omega), if_pos (by omega)]; exact ⟨by omega, rfl⟩
      · rw [if_neg (by omega), if_neg (by omega)]; exact w8 j j0 (by omega)
    · rw [s5, m6]
      by_cases e : j = S 4 n.toNat
      · rw [if_pos (by omega), if_pos (by omega)]; exact ⟨by omega, rfl⟩
      · rw [if_neg (by omega), if_neg (by omega)]; exact w9 j j0 (by omega)
    · rw [s7, m8]; exact w10 j j0 (by omega)
/-- a production's symbols -/
def SyX (S : Mm) (p : Int) (a b c : Int) : Prop := S 2 p.toNat = (if a = -1 then 0 else if b = -1 then 1 else if c = -1 then 2 else 3) ∧ (a ≠ -1 → S 3 (3 * p).toNat = a) ∧ (b ≠ -1 → S 3 (3 * p + 1).toNat = b) ∧ (c ≠ -1 → S 3 (3 * p + 2).toNat = c)
theorem g24_production {RG : Mm → Nat → Int} (hRG : RGok RG) {MC MR : Mm} (n a b c : Int) (hI : Inv RG MC MR 0) : ∃ (r : Int × Int × Mm) (q : Int × Mm), f_X11_production n a b c MC = some r ∧ f_X12_production n a b c MR = some q ∧ (r.1 = 0 ∨ r.1 = 1 ∨ r.1 = 2 ∨ r.1 = 3) ∧ q.2 0 87 = (if r.1 = 1 then 1 else if r.1 = 2 then 2 else if r.1 = 3 then 3 else 0) ∧ (r.1 = 0 → r.2.1 = q.1) ∧ Inv RG r.2.2 q.2 0 ∧ r.1 = (if ¬ (0 ≤ n ∧ n ≤ 3) then 1 else if ¬ prR a b c then 2 else if MR 0 0 = 10 then 3 else 0) ∧ (r.1 ≠ 0 → r.2.2 = MC ∧ Ag87 MR q.2) ∧ (r.1 = 0 → GrX MC r.2.2 ∧ q.1 = MR 0 0 ∧ q.2 0 0 = MR 0 0 + 1 ∧ (∀ i, i ≠ 87 → i ≠ 0 → q.2 0 i = MR 0 i) ∧ (∀ j, 8 ≤ j → j ≠ 50 → q.2 j = MR j) ∧ (∀ i, q.2 1 i = if i = (MR 0 0).toNat then n else MR 1 i) ∧ (∀ k i : Nat, k = 2 ∨ k = 4 ∨ k = 6 → i ≠ (MR 0 0).toNat → q.2 k i = MR k i) ∧ (∀ k i : Nat, k = 3 ∨ k = 5 ∨ k = 7 → ¬ (3 * MR 0 0 ≤ i ∧ (i : Int) < 3 * MR 0 0 + 3) → q.2 k i = MR k i) ∧ SyX q.2 (MR 0 0) a b c) := by
  obtain ⟨hp, hV, hR, hB⟩ := id hI
  obtain ⟨⟨p1, p2, p3, p4, p5⟩, ⟨q1, q2, q3, q4, q5⟩, q6, q7, p6⟩ := id hp
  have hP := p1.1
  rw [c_productionE, r_productionE]
  by_cases h0 : 0 ≤ n ∧ n ≤ 3
  case neg =>
    refine ⟨(1, 0, MC), (0, up MR 0 87 1), by rw [if_pos h0], ?_, by simp, by simp [up], by simp, hI.thr hRG _ _, by rw [if_pos h0], fun _ => ⟨rfl, Ag87_up⟩, fun h => absurd h (by simp)⟩
    rw [if_pos h0, r_fails, ClS, if_neg (by decide)]
  have y0 : ¬ ¬ (0 ≤ n ∧ n ≤ 3) := fun q => q h0
  rw [if_neg y0, if_neg y0]
  by_cases hr : prR a b c
  case neg =>
    refine ⟨(2, 0, MC), (0, up MR 0 87 2), by rw [if_pos hr], ?_, by simp, by simp [up], by simp, hI.thr hRG _ _, by rw [if_pos hr], fun _ => ⟨rfl, Ag87_up⟩, fun h => absurd h (by simp)⟩
    rw [if_pos hr, r_fails, ClS, if_neg (by decide)]
  have y1 : ¬ ¬ prR a b c := fun q => q hr
  rw [if_neg y1, if_neg y1, q1.1]
  by_cases h10 : MR 0 0 = 10
  case pos =>
    refine ⟨(3, 0, MC), (0, up MR 0 87 3), by rw [if_neg (by omega)], ?_, by simp, by simp [up], by simp, hI.thr hRG _ _, by rw [if_pos h10], fun _ => ⟨rfl, Ag87_up⟩, fun h => absurd h (by simp)⟩
    rw [if_pos h10, r_fails, ClS, if_neg (by decide)]
  rw [if_neg h10, if_pos (by omega), r_fails, ClS, if_pos (by decide)]
  have e00 : up MR 0 87 0 0 0 = MR 0 0 := by simp [up]
  rw [e00, gdE (by omega)]
  generalize hS0 : up (up MR 0 87 0) 1 (MR 0 0).toNat n = S0
  have hMR0 : ∀ j, j ≠ 0 → j ≠ 1 → S0 j = MR j := fun j j1 j2 => by rw [← hS0, up_ne _ _ _ j2, up_ne _ _ _ j1]
  have s00 : ∀ i, i ≠ 87 → S0 0 i = MR 0 i := fun i i1 => by rw [← hS0]; simp [up, i1]
  have s01 : ∀ i, S0 1 i = if i = (MR 0 0).toNat then n else MR 1 i := fun i => by rw [← hS0]; simp [up]
  have hz := p1.2.2.2.2 (MR 0 0) (Int.le_refl _) (by omega)
  obtain ⟨z2, z4, z6, z8, z10⟩ := hz
  -- the class up to the symbols
  have hC0 : ∃ C0, f_X5_addProduction n a b c MC = (Cl (f_X5_appendSymbol (MR 0 0) a C0) fun _ M12 => Cl (f_X5_appendSymbol (MR 0 0) b M12) fun _ M13 => Cl (f_X5_appendSymbol (MR 0 0) c M13) fun _ M14 => some (MR 0 0, M14)) ∧ C0 1 0 = MR 0 0 + 1 ∧ (∀ i, i ≠ 0 → C0 1 i = MC 1 i) ∧ (∀ i, C0 2 i = if i = (MR 0 0).toNat then n else MC 2 i) ∧ (∀ i, C0 3 i = if i = (MR 0 0).toNat then 0 else MC 3 i) ∧ (∀ i, C0 5 i = if i = (MR 0 0).toNat then 0 else MC 5 i) ∧ (∀ i, C0 7 i = if i = (MR 0 0).toNat then 0 else MC 7 i) ∧ (∀ i, C0 9 i = if i = (MR 0 0).toNat then -1 else MC 9 i) ∧ (∀ i, C0 11 i = if i = (MR 0 0).toNat then -1 else MC 11 i) ∧ (∀ i, C0 12 i = if i = (MR 0 0).toNat then -1 else MC 12 i) ∧ ∀ j, j ≠ 1 → j ≠ 2 → j ≠ 3 → j ≠ 5 → j ≠ 7 → j ≠ 9 → j ≠ 11 → j ≠ 12 → C0 j = MC j := by
    refine ⟨up (up (up (up (up (up (up (up MC 1 0 (MR 0 0 + 1)) 2 (MR 0 0).toNat n) 3 (MR 0 0).toNat 0) 5 (MR 0 0).toNat 0) 7 (MR 0 0).toNat 0) 9 (MR 0 0).toNat (-1)) 11 (MR 0 0).toNat (-1)) 12 (MR 0 0).toNat (-1), ?_, ?_, ?_, ?_, ?_, ?_, ?_, ?_, ?_, ?_, ?_⟩
    · unfold f_X5_addProduction
      simp only [LtE]
      rw [q1.1, wrE (by omega) (by omega), c_setEntry_in 10 alenC_2 (by omega) (by omega), ClS, c_setEntry_in 10 alenC_3 (by omega) (by omega), ClS, c_setEntry_in 10 alenC_5 (by omega) (by omega), ClS, c_setEntry_in 10 alenC_7 (by omega) (by omega), ClS, c_setEntry_in 10 alenC_9 (by omega) (by omega), ClS, c_setEntry_in 10 alenC_11 (by omega) (by omega), ClS, c_setEntry_in 10 alenC_12 (by omega) (by omega), ClS]
    · simp [up]
    · intro i hi; simp [up, hi]
    · intro i; simp [up]
    · intro i; simp [up]
    · intro i; simp [up]
    · intro i; simp [up]
    · intro i; simp [up]
    · intro i; simp [up]
    · intro i; simp [up]
    · intro j j1 j2 j3 j4 j5 j6 j7 j8
      rw [up_ne _ _ _ j8, up_ne _ _ _ j7, up_ne _ _ _ j6, up_ne _ _ _ j5, up_ne _ _ _ j4, up_ne _ _ _ j3, up_ne _ _ _ j2, up_ne _ _ _ j1]
  obtain ⟨C0, hC0, k10, k1, k2, k3, k5, k7, k9, k11, k12, kr⟩ := hC0
  have hA0 : AdI C0 S0 (MR 0 0) := by
    unfold AdI
    rw [k3, if_pos rfl, k5, if_pos rfl, k7, if_pos rfl, hMR0 2 (by decide) (by decide), hMR0 4 (by decide) (by decide), hMR0 6 (by decide) (by decide), z2, z4, z6]
    exact ⟨rfl, rfl, rfl, by decide, rfl, rfl, by decide, fun j j0 j1 => by omega, fun j j0 j1 => by omega, fun j j0 j1 => by omega⟩
  obtain ⟨C1, S1, a1, b1, hA1, f1, g1, t1, u1⟩ := ad_step24 hA0 (by omega) (by rw [s00 0 (by decide)]) (by rw [hMR0 2 (by decide) (by decide), z2]; decide) hr.1
  have t0 : S0 2 (MR 0 0).toNat = 0 := by rw [hMR0 2 (by decide) (by decide), z2]
  rw [t0] at t1
  have h11 : S1 0 0 = MR 0 0 := by rw [g1.1 0 (by decide), s00 0 (by decide)]
  obtain ⟨C2, S2, a2, b2, hA2, f2, g2, t2, u2⟩ := ad_step24 hA1 (by omega) h11 (by rw [t1]; split <;> decide) hr.2.1
  have h12 : S2 0 0 = MR 0 0 := by rw [g2.1 0 (by decide), h11]
  obtain ⟨C3, S3, a3, b3, hA3, f3, g3, t3, u3⟩ := ad_step24 hA2 (by omega) h12 (by rw [t2, t1]; (repeat' split) <;> decide) hr.2.2.1
  have h13 : S3 0 0 = MR 0 0 := by rw [g3.1 0 (by decide), h12]
  have fC := (f1.trans f2).trans f3
  have fS := (g1.trans g2).trans g3
  have t9 : S3 2 (MR 0 0).toNat ≤ 3 := by rw [t3, t2, t1]; (repeat' split) <;> decide
  have hcl : (Cl (f_X5_addProduction n a b c MC) fun v M1 => Cl (f_X11_followGrammar M1) fun _ M2 => some (0, v, M2) : Rx) = Cl (f_X11_followGrammar C3) fun _ M2 => some (0, MR 0 0, M2) := by
    rw [hC0, a1, ClS, a2, ClS, a3, ClS, ClS]
  rw [hcl, b1, ClS, b2, ClS, b3, ClS, h13, wrE (by omega) (by omega), r_dropsAll, ClS, sr_ne _ _ (by decide), up_at, wrE (by omega) (by omega), show MR 0 0 + 1 - 1 = MR 0 0 by omega]
  generalize hM1 : up S3 0 0 (MR 0 0 + 1) = M1
  have e0 : ∀ i, i ≠ 87 → i ≠ 0 → M1 0 i = MR 0 i := fun i j1 j2 => by
    rw [← hM1]
    show up S3 0 0 (MR 0 0 + 1) 0 i = _
    have : up S3 0 0 (MR 0 0 + 1) 0 i = S3 0 i := by simp [up, j2]
    rw [this, fS.1 0 (by decide), s00 i j1]
  have e00 : M1 0 0 = MR 0 0 + 1 := by rw [← hM1, up_at]
  have er : ∀ j, j ≠ 0 → M1 j = S3 j := fun j j1 => by rw [← hM1, up_ne _ _ _ j1]
  have er8 : ∀ j, 8 ≤ j → M1 j = MR j := fun j j1 => by rw [er j (by omega), fS.1 j (by omega), hMR0 j (by omega) (by omega)]
  have er1 : ∀ i, M1 1 i = if i = (MR 0 0).toNat then n else MR 1 i := fun i => by rw [er 1 (by decide), fS.1 1 (by decide), s01]
  have es : ∀ k i : Nat, k = 2 ∨ k = 4 ∨ k = 6 → i ≠ (MR 0 0).toNat → M1 k i = MR k i := fun k i hk hi => by rw [er k (by omega), fS.2.1 k i (by omega) hi, hMR0 k (by omega) (by omega)]
  have et : ∀ k i : Nat, k = 3 ∨ k = 5 ∨ k = 7 → ¬ (3 * MR 0 0 ≤ i ∧ (i : Int) < 3 * MR 0 0 + 3) → M1 k i = MR k i := fun k i hk hi => by rw [er k (by omega), fS.2.2 k i (by omega) hi, hMR0 k (by omega) (by omega)]
  have kr9 : ∀ j, 9 ≤ j → C3 j = C0 j := fun j hj => fC.1 j (by omega)
  have hSy : SyX M1 (MR 0 0) a b c := by
    have hr' := hr
    obtain ⟨r1, r2, r3, r4, r5⟩ := hr'
    unfold SyX
    rw [er 2 (by decide), er 3 (by decide)]
    rw [t0] at u1
    have P0 := hP
    by_cases ha : a = -1
    · have hb : b = -1 := by omega
      have hc : c = -1 := by omega
      rw [if_pos hc] at t3
      rw [if_pos hb] at t2
      rw [if_pos ha] at t1
      rw [if_pos ha, t3, t2, t1]
      exact ⟨rfl, fun q => absurd ha q, fun q => absurd hb q, fun q => absurd hc q⟩
    · rw [if_neg ha] at t1
      rw [if_neg ha]
      by_cases hb : b = -1
      · have hc : c = -1 := by omega
        rw [if_pos hc] at t3
        rw [if_pos hb] at t2
        rw [if_pos hb, t3, t2, t1]
        refine ⟨rfl, fun _ => ?_, fun q => absurd hb q, fun q => absurd hc q⟩
        rw [u3, if_neg (fun q => q.1 hc), u2, if_neg (fun q => q.1 hb), u1, if_pos ⟨ha, by omega⟩]
      · rw [if_neg hb] at t2
        rw [if_neg hb]
        rw [t1] at u2
        by_cases hc : c = -1
        · rw [if_pos hc] at t3
          rw [if_pos hc, t3, t2, t1]
          refine ⟨rfl, fun _ => ?_, fun _ => ?_, fun q => absurd hc q⟩
          · rw [u3, if_neg (fun q => q.1 hc), u2, if_neg (fun q => by have := q.2; omega), u1, if_pos ⟨ha, by omega⟩]
          · rw [u3, if_neg (fun q => q.1 hc), u2, if_pos ⟨hb, by omega⟩]
        · rw [if_neg hc] at t3
          rw [t2, t1] at u3
          rw [if_neg hc, t3, t2, t1]
          refine ⟨rfl, fun _ => ?_, fun _ => ?_, fun _ => ?_⟩
          · rw [u3, if_neg (fun q => by have := q.2; omega), u2, if_neg (fun q => by have := q.2; omega), u1, if_pos ⟨ha, by omega⟩]
          · rw [u3, if_neg (fun q => by have := q.2; omega), u2, if_pos ⟨hb, by omega⟩]
          · rw [u3, if_pos ⟨hc, by omega⟩]
  refine fin_op24 (RG := RG) 0 rfl rfl (hp.gram (C1 := C3) (M1 := M1) ?_ ?_ (by rw [e00]; omega) (by rw [e0 12 (by decide) (by decide)]; exact Int.le_refl _) (fun i j1 j2 _ => e0 i j1 j2) (fun j hj => er8 j (by omega)) (fun a _ _ => by rw [er8 12 (by decide)]) (fun a a0 a1 => ⟨es 4 _ (by decide) (by omega), es 6 _ (by decide) (by omega)⟩) fun j hj => by rw [kr9 j (by omega), kr j (by omega) (by omega) (by omega) (by omega) (by omega) (by omega) (by omega) (by omega)]) ?_
  · obtain ⟨o1, o2, o3, o4, o5⟩ := id p1
    unfold Okg
    rw [e00, e0 12 (by decide) (by decide), er8 12 (by decide)]
    refine ⟨by omega, o2, o3, fun q q0 q1 => ?_, fun q q0 q1 => ?_⟩
    · by_cases e : q = MR 0 0
      · subst e
        obtain ⟨w1, w2, w3, w4, w5, w6, w7, w8, w9, w10⟩ := hA3
        have hn : nch M1 (MR 0 0).toNat (S3 2 (MR 0 0).toNat).toNat = nch S3 (MR 0 0).toNat (S3 2 (MR 0 0).toNat).toNat := nch_eq _ fun j _ => by rw [er 3 (by decide)]
        unfold OkP
        rw [er1, if_pos rfl, er 2 (by decide), er 3 (by decide), er 4 (by decide), er 5 (by decide), er 6 (by decide), er 7 (by decide), er8 8 (by decide), er8 10 (by decide), z8, z10, hn]
        exact ⟨h0, ⟨w4, t9⟩, w5, w6, w7, fun j j0 j1 => (w8 j j0 j1).1, fun j j0 j1 => (w9 j j0 j1).1, fun j j0 j1 => (w10 j j0 j1).1, Or.inl rfl, Or.inl rfl⟩
      · have hq := o4 q q0 (by omega)
        obtain ⟨w1, w2, w3, w4, w5, w6, w7, w8, w9, w10⟩ := hq
        have hn : nch M1 q.toNat (MR 2 q.toNat).toNat = nch MR q.toNat (MR 2 q.toNat).toNat := nch_eq _ fun j hj => et 3 _ (by decide) (by omega)
        unfold OkP
        rw [er1, if_neg (by omega), es 2 _ (by decide) (by omega), es 4 _ (by decide) (by omega), es 6 _ (by decide) (by omega), er8 8 (by decide), er8 10 (by decide), er8 9 (by decide), er8 11 (by decide), hn, e00, e0 12 (by decide) (by decide)]
        refine ⟨w1, w2, w3, w4, w5, fun j j0 j1 => ?_, fun j j0 j1 => ?_, fun j j0 j1 => ?_, ?_, ?_⟩
        · rw [et 3 _ (by decide) (by omega)]; exact w6 j j0 j1
        · rw [et 5 _ (by decide) (by omega)]; exact w7 j j0 j1
        · rw [et 7 _ (by decide) (by omega)]; exact w8 j j0 j1
        · rcases w9 with w | w
          · exact Or.inl w
          · refine Or.inr ⟨w.1, by omega, fun j j0 j1 => ?_⟩
            rw [es 4 _ (by decide) (by omega)] at j1
            exact w.2.2 j j0 j1
        · rcases w10 with w | w
          · exact Or.inl w
          · refine Or.inr ⟨w.1, by omega, ?_, ?_, w.2.2.2.2.1, w.2.2.2.2.2⟩
            · rw [es 4 _ (by decide) (by omega)]; exact w.2.2.1
            · rw [es 6 _ (by decide) (by omega)]; exact w.2.2.2.1
    · have := o5 q (by omega) q1
      rw [es 2 _ (by decide) (by omega), es 4 _ (by decide) (by omega), es 6 _ (by decide) (by omega), er8 8 (by decide), er8 10 (by decide)]
      exact this
  · obtain ⟨w1, w2, w3, w4, w5⟩ := id q1
    unfold CG
    rw [e00, e0 12 (by decide) (by decide), er8 12 (by decide), er8 8 (by decide), er8 9 (by decide), er8 10 (by decide), er8 11 (by decide), fC.1 1 (by decide), fC.1 2 (by decide), kr9 9 (by decide), kr9 10 (by decide), kr9 11 (by decide), kr9 12 (by decide), kr9 13 (by decide), k10, k1 1 (by decide)]
    refine ⟨rfl, w2, fun a a0 a1 => ?_, fun q q0 q9 => ?_, fun i hi => ?_⟩
    · rw [kr 13 (by decide) (by decide) (by decide) (by decide) (by decide) (by decide) (by decide) (by decide)]; exact w3 a a0 a1
    · rw [k2, k9, k11, k12, er1]
      by_cases e : q = MR 0 0
      · subst e
        obtain ⟨x1, x2, x3, x4, x5, x6, x7, x8, x9, x10⟩ := hA3
        rw [if_pos rfl, if_pos rfl, if_pos rfl, if_pos rfl, if_pos rfl, er 2 (by decide), er 3 (by decide), er 4 (by decide), er 5 (by decide), er 6 (by decide), er 7 (by decide), z8, z10]
        exact ⟨rfl, x1, x2, x3, rfl, rfl, fun h => absurd rfl h, fun j j0 j1 => (x8 j j0 j1).2, fun j j0 j1 => (x9 j j0 j1).2, fun j j0 j1 => (x10 j j0 j1).2⟩
      · have hq := w4 q q0 (by omega)
        obtain ⟨x1, x2, x3, x4, x5, x6, x7, x8, x9, x10⟩ := hq
        have o4 := p1.2.2.2.1 q q0 (by omega)
        have u2 := o4.2.1; have u6 := o4.2.2.2.1; have u4 := o4.2.2.2.2.1
        have fi : ¬ q.toNat = (MR 0 0).toNat := by omega
        rw [if_neg fi, if_neg fi, if_neg fi, if_neg fi, if_neg fi, es 2 _ (by decide) fi, es 4 _ (by decide) fi, es 6 _ (by decide) fi, fC.2.1 3 _ (by decide) fi, fC.2.1 5 _ (by decide) fi, fC.2.1 7 _ (by decide) fi, k3, if_neg fi, k5, if_neg fi, k7, if_neg fi]
        refine ⟨x1, x2, x3, x4, x5, x6, x7, fun j j0 j1 => ?_, fun j j0 j1 => ?_, fun j j0 j1 => ?_⟩
        · rw [et 3 _ (by decide) (by omega), fC.2.2 4 _ (by decide) (by omega), kr 4 (by decide) (by decide) (by decide) (by decide) (by decide) (by decide) (by decide) (by decide)]; exact x8 j j0 j1
        · rw [et 5 _ (by decide) (by omega), fC.2.2 6 _ (by decide) (by omega), kr 6 (by decide) (by decide) (by decide) (by decide) (by decide) (by decide) (by decide) (by decide)]; exact x9 j j0 j1
        · rw [et 7 _ (by decide) (by omega), fC.2.2 8 _ (by decide) (by omega), kr 8 (by decide) (by decide) (by decide) (by decide) (by decide) (by decide) (by decide) (by decide)]; exact x10 j j0 j1
    · rw [kr 10 (by decide) (by decide) (by decide) (by decide) (by decide) (by decide) (by decide) (by decide)]; exact w5 i hi
  · intro M2 h2 h3x
    refine ⟨Or.inl rfl, ?_, fun _ => rfl, h2, rfl, fun h => absurd rfl h, fun _ => ⟨⟨h3x.1, h3x.2.1.trans ((kr9 299 (by decide)).trans (kr 299 (by decide) (by decide) (by decide) (by decide) (by decide) (by decide) (by decide) (by decide))), h3x.2.2.trans ((kr9 283 (by decide)).trans (kr 283 (by decide) (by decide) (by decide) (by decide) (by decide) (by decide) (by decide) (by decide)))⟩, rfl, by simp only; rw [sr_ne _ _ (by decide)]; exact e00, fun i i1 i2 => by simp only; rw [sr_ne _ _ (by decide)]; exact e0 i i1 i2, fun j j1 j2 => by simp only; rw [sr_ne _ _ j2]; exact er8 j j1, fun i => by simp only; rw [sr_ne _ _ (by decide)]; exact er1 i, fun k i hk hi => by simp only; rw [sr_ne _ _ (by omega)]; exact es k i hk hi, fun k i hk hi => by simp only; rw [sr_ne _ _ (by omega)]; exact et k i hk hi, by unfold SyX; simp only; rw [sr_ne _ _ (by decide), sr_ne _ _ (by decide)]; exact hSy⟩⟩
    simp only
    rw [sr_ne _ _ (by decide), ← hM1]
    have : up S3 0 0 (MR 0 0 + 1) 0 87 = S3 0 87 := by simp [up]
    rw [this, fS.1 0 (by decide), ← hS0]
    simp [up]
theorem g24_equation {RG : Mm → Nat → Int} (hRG : RGok RG) {MC MR : Mm} (p a t d : Int) (hI : Inv RG MC MR 0) : ∃ (r : Int × Int × Mm) (q : Int × Mm), f_X11_equation p a t d MC = some r ∧ f_X12_equation p a t d MR = some q ∧ (r.1 = 0 ∨ r.1 = 1 ∨ r.1 = 2 ∨ r.1 = 3) ∧ q.2 0 87 = (if r.1 = 1 then 1 else if r.1 = 2 then 2 else if r.1 = 3 then 3 else 0) ∧ (r.1 = 0 → r.2.1 = q.1) ∧ Inv RG r.2.2 q.2 0 ∧ r.1 = (if ¬ eqA MR p a t d then 1 else if ¬ eqB (MR 12 a.toNat) t then 2 else if MR 0 15 = (if MR 12 a.toNat = 2 then 2 else 1) ∧ MR 0 19 ≠ 30 then 0 else 3) ∧ (r.1 ≠ 0 → r.2.2 = MC ∧ Ag87 MR q.2) ∧ (r.1 = 0 → GrX MC r.2.2 ∧ q.1 = MR 0 19 ∧ (∀ i, i ≠ 14 → i ≠ 15 → i ≠ 19 → i ≠ 87 → q.2 0 i = MR 0 i) ∧ q.2 0 19 = MR 0 19 + 1 ∧ (∀ j, j ≠ 0 → ¬ (16 ≤ j ∧ j ≤ 26) → j ≠ 28 → j ≠ 50 → q.2 j = MR j) ∧ (∀ i, q.2 16 i = if i = (MR 0 19).toNat then p else MR 16 i) ∧ (∀ i, q.2 17 i = if i = (MR 0 19).toNat then a else MR 17 i) ∧ (∀ i, q.2 18 i = if i = (MR 0 19).toNat then t else MR 18 i) ∧ (∀ i, q.2 19 i = if i = (MR 0 19).toNat then d else MR 19 i)) := by
  obtain ⟨⟨⟨p1, p2, p3, p4, p5⟩, ⟨q1, q2, q3, q4, q5⟩, q6, q7, p6⟩, hV, hR, hB⟩ := id hI
  rw [c_equationE p1 q1, r_equationE p1, r_fails, ClS]
  by_cases h1 : eqA MR p a t d
  case neg =>
    refine ⟨(1, 0, MC), (0, up MR 0 87 1), by rw [if_pos h1], ?_, by simp, by simp [up], by simp, hI.thr hRG _ _, by rw [if_pos h1], fun _ => ⟨rfl, Ag87_up⟩, fun h => absurd h (by simp)⟩
    rw [if_pos (c := ¬ eqA MR p a t d) h1, if_neg (by decide)]
  have y1 : ¬ ¬ eqA MR p a t d := fun q => q h1
  rw [if_neg y1, if_neg y1]
  by_cases h2 : eqB (MR 12 a.toNat) t
  case neg =>
    refine ⟨(2, 0, MC), (0, up MR 0 87 2), by rw [if_pos h2], ?_, by simp, by simp [up], by simp, hI.thr hRG _ _, by rw [if_pos h2], fun _ => ⟨rfl, Ag87_up⟩, fun h => absurd h (by simp)⟩
    rw [if_pos (c := ¬ eqB (MR 12 a.toNat) t) h2, if_neg (by decide)]
  have y2 : ¬ ¬ eqB (MR 12 a.toNat) t := fun q => q h2
  rw [if_neg y2, if_neg y2, q2.2.1, q3.1]
  have h19 := p3.1
  by_cases h3 : MR 0 15 = (if MR 12 a.toNat = 2 then 2 else 1) ∧ MR 0 19 ≠ 30
  case neg =>
    refine ⟨(3, 0, MC), (0, up MR 0 87 3), by rw [if_neg (fun q => h3 ⟨q.1, by omega⟩)], ?_, by simp, by simp [up], by simp, hI.thr hRG _ _, by rw [if_neg h3], fun _ => ⟨rfl, Ag87_up⟩, fun h => absurd h (by simp)⟩
    rw [if_neg h3, if_neg (by decide)]
  rw [if_pos h3, if_pos (c := _ ∧ MR 0 19 < 30) ⟨h3.1, by omega⟩, if_pos (by decide)]
  obtain ⟨h31, h32⟩ := h3
  obtain ⟨⟨a1, a2⟩, ⟨a3, a4⟩, a5, a6⟩ := h1
  obtain ⟨K, hK⟩ : ∃ K : Nat, MR 0 19 = K := ⟨(MR 0 19).toNat, by omega⟩
  obtain ⟨N, hN⟩ : ∃ N : Nat, MR 0 14 = N := ⟨(MR 0 14).toNat, by have := p2.1; omega⟩
  have hN8 : N ≤ 8 := by have := p2.1; omega
  have hKn : (MR 0 19).toNat = K := by omega
  have hK30 : K < 30 := by omega
  obtain ⟨d1, d2, d3⟩ := id p2
  rw [hN, Int.toNat_natCast] at d2 d3
  -- the reference
  generalize hX : up (up (up (up (up MR 0 87 0) 16 K p) 17 K a) 18 K t) 19 K d = X
  have xr : ∀ j, j ≠ 0 → ¬ (16 ≤ j ∧ j ≤ 19) → X j = MR j := fun j j1 j2 => by rw [← hX, up_ne _ _ _ (by omega), up_ne _ _ _ (by omega), up_ne _ _ _ (by omega), up_ne _ _ _ (by omega), up_ne _ _ _ j1]
  have x0 : ∀ i, i ≠ 87 → X 0 i = MR 0 i := fun i hi => by rw [← hX]; simp [up, hi]
  have x87 : X 0 87 = 0 := by rw [← hX]; simp [up]
  have x16 : ∀ i, X 16 i = if i = K then p else MR 16 i := fun i => by rw [← hX]; simp [up]
  have x17 : ∀ i, X 17 i = if i = K then a else MR 17 i := fun i => by rw [← hX]; simp [up]
  have x18 : ∀ i, X 18 i = if i = K then t else MR 18 i := fun i => by rw [← hX]; simp [up]
  have x19 : ∀ i, X 19 i = if i = K then d else MR 19 i := fun i => by rw [← hX]; simp [up]
  have x13 : X 13 = MR 13 := xr 13 (by decide) (by decide)
  obtain ⟨r, hr, M', hL, hr2⟩ := r_lays (M := X) (e := K) hK30 (by rw [x0 14 (by decide)]; exact d1) (by rw [x0 14 (by decide), hN, Int.toNat_natCast, x13]; exact fun i hi => (d2 i hi).2)
  rw [x0 14 (by decide), hN] at hr2 hL
  rw [Int.toNat_natCast] at hL
  generalize hM1 : up (up (up r.2 0 14 0) 0 15 0) 0 19 ((K + 1 : Nat) : Int) = M1
  have rr : ∀ j, j ≠ 20 → j ≠ 25 → j ≠ 26 → r.2 j = M' j := fun j j1 j2 j3 => by rw [hr2, up_ne _ _ _ j1, up_ne _ _ _ j3, up_ne _ _ _ j2]
  obtain ⟨l1, l2, l3, l4, l5⟩ := hL
  have m0 : ∀ i, i ≠ 14 → i ≠ 15 → i ≠ 19 → i ≠ 87 → M1 0 i = MR 0 i := fun i j1 j2 j3 j4 => by
    rw [← hM1]; simp only [up, j1, j2, j3, and_false, if_false]
    rw [rr 0 (by decide) (by decide) (by decide), l1 0 (by decide) (by decide) (by decide) (by decide) (by decide), x0 i j4]
  have m14 : M1 0 14 = 0 := by rw [← hM1]; simp [up]
  have m15 : M1 0 15 = 0 := by rw [← hM1]; simp [up]
  have m19 : M1 0 19 = ((K + 1 : Nat) : Int) := by rw [← hM1, up_at]
  have m87 : M1 0 87 = 0 := by
    rw [← hM1]; simp only [up]
    rw [if_neg (by decide), if_neg (by decide), if_neg (by decide), rr 0 (by decide) (by decide) (by decide), l1 0 (by decide) (by decide) (by decide) (by decide) (by decide), x87]
  have m1 : ∀ j, j ≠ 0 → M1 j = r.2 j := fun j hj => by rw [← hM1, up_ne _ _ _ hj, up_ne _ _ _ hj, up_ne _ _ _ hj]
  have mr : ∀ j, j ≠ 0 → ¬ (16 ≤ j ∧ j ≤ 26) → j ≠ 28 → M1 j = MR j := fun j j0 j1 j2 => by
    rw [m1 j j0, rr j (by omega) (by omega) (by omega), l1 j (by omega) (by omega) (by omega) (by omega) (by omega), xr j j0 (by omega)]
  have mq : ∀ j, 16 ≤ j → j ≤ 19 → M1 j = X j := fun j j0 j1 => by
    rw [m1 j (by omega), rr j (by omega) (by omega) (by omega), l1 j (by omega) (by omega) (by omega) (by omega) (by omega)]
  have m16 : ∀ i, M1 16 i = if i = K then p else MR 16 i := fun i => by rw [mq 16 (by decide) (by decide), x16]
  have m17 : ∀ i, M1 17 i = if i = K then a else MR 17 i := fun i => by rw [mq 17 (by decide) (by decide), x17]
  have m18 : ∀ i, M1 18 i = if i = K then t else MR 18 i := fun i => by rw [mq 18 (by decide) (by decide), x18]
  have mm19 : ∀ i, M1 19 i = if i = K then d else MR 19 i := fun i => by rw [mq 19 (by decide) (by decide), x19]
  have m20 : ∀ i, M1 20 i = if i = K then (N : Int) else MR 20 i := fun i => by
    rw [m1 20 (by decide), hr2, up_se, sr_at]; unfold se
    rw [up_ne _ _ _ (by decide), up_ne _ _ _ (by decide), l1 20 (by decide) (by decide) (by decide) (by decide) (by decide), xr 20 (by decide) (by decide)]
  have m25 : ∀ i, M1 25 i = if i = K then M' 28 0 else MR 25 i := fun i => by
    rw [m1 25 (by decide), hr2, up_ne _ _ _ (by decide), up_ne _ _ _ (by decide), up_se, sr_at]; unfold se
    rw [l1 25 (by decide) (by decide) (by decide) (by decide) (by decide), xr 25 (by decide) (by decide)]
  have m26 : ∀ i, M1 26 i = if i = K then M' 28 1 else MR 26 i := fun i => by
    rw [m1 26 (by decide), hr2, up_ne _ _ _ (by decide), up_se, sr_at]; unfold se
    rw [up_ne _ _ _ (by decide), l1 26 (by decide) (by decide) (by decide) (by decide) (by decide), xr 26 (by decide) (by decide)]
  have m21 : ∀ i, i < 8 * K → M1 21 i = MR 21 i ∧ M1 22 i = MR 22 i ∧ M1 23 i = MR 23 i := fun i hi => by
    rw [m1 21 (by decide), m1 22 (by decide), m1 23 (by decide), rr 21 (by decide) (by decide) (by decide), rr 22 (by decide) (by decide) (by decide), rr 23 (by decide) (by decide) (by decide), ← xr 21 (by decide) (by decide), ← xr 22 (by decide) (by decide), ← xr 23 (by decide) (by decide)]
    exact l3 i hi
  have m24 : ∀ i, i < 24 * K → M1 24 i = MR 24 i := fun i hi => by
    rw [m1 24 (by decide), rr 24 (by decide) (by decide) (by decide), ← xr 24 (by decide) (by decide)]
    exact l4 i hi
  have mst : ∀ i, i < N → eK M1 K i = MR 13 i ∧ eA M1 K i = MR 14 i ∧ eB M1 K i = MR 15 i := fun i hi => by
    unfold eK eA eB
    rw [m1 21 (by decide), m1 22 (by decide), m1 23 (by decide), rr 21 (by decide) (by decide) (by decide), rr 22 (by decide) (by decide) (by decide), rr 23 (by decide) (by decide) (by decide), ← x13, ← xr 14 (by decide) (by decide), ← xr 15 (by decide) (by decide)]
    exact ⟨(l2 i hi).1, (l2 i hi).2.1, (l2 i hi).2.2.1⟩
  rw [x13] at l2 l5
  have hstk : stk (eK M1 K) N = stk (MR 13) N := stk_congr _ fun i hi => (mst i hi).1
  have hlenN := stk_len_le (MR 13) N
  have hN1 : 1 ≤ N := by
    rw [d3] at h31
    split at h31 <;> omega
  have nK : eN M1 K = N := by unfold eN; rw [m20, if_pos rfl, Int.toNat_natCast]
  have hOk : OkE M1 K := by
    unfold OkE
    rw [m16, m17, m18, mm19, m20, m25, m26, if_pos rfl, if_pos rfl, if_pos rfl, if_pos rfl, if_pos rfl, if_pos rfl, if_pos rfl, nK, m0 0 (by decide) (by decide) (by decide) (by decide), m0 12 (by decide) (by decide) (by decide) (by decide), mr 12 (by decide) (by decide) (by decide), mr 4 (by decide) (by decide) (by decide), hstk]
    refine ⟨⟨a1, a2⟩, ⟨a3, a4⟩, a6, ⟨by omega, by omega⟩, ?_, d2.congr (by rw [m0 12 (by decide) (by decide) (by decide) (by decide)]; exact Int.le_refl _) mst, ?_, fun i hi j hj => ?_, ?_, fun h => ?_⟩
    · rcases h2 with ⟨e1, e2⟩ | ⟨e1, e2⟩ | ⟨e1, e3, e2⟩
      · rw [if_pos e1]; exact ⟨e2, by omega⟩
      · rw [if_neg (by omega), if_pos e1]; exact e2
      · rw [if_neg e1, if_neg e3]; exact e2
    · rw [d3] at h31; split at h31 <;> rename_i c
      · rw [if_pos c]; omega
      · rw [if_neg c]; omega
    · rw [(mst i hi).1] at hj
      rw [opr_congr (K := MR 13) (fun i' hi' => (mst i' (by omega)).1), m1 24 (by decide), rr 24 (by decide) (by decide) (by decide)]
      exact (l2 i hi).2.2.2 j hj
    · exact l5 0 (by rw [d3] at h31; split at h31 <;> omega)
    · exact l5 1 (by rw [d3, if_pos h] at h31; omega)
  have hOke : Oke M1 := by
    refine ⟨by rw [m19]; omega, fun k' hk' => ?_, by rw [mr 27 (by decide) (by decide) (by decide)]; exact p3.2.2⟩
    rw [m19] at hk'
    by_cases e : k' = K
    · subst e; exact hOk
    · refine (p3.2.1 k' (by omega)).congr (m0 0 (by decide) (by decide) (by decide) (by decide)) (m0 12 (by decide) (by decide) (by decide) (by decide)) (mr 4 (by decide) (by decide) (by decide)) (mr 12 (by decide) (by decide) (by decide)) (fun j hj => ?_) (fun j j1 j2 i hi => ?_) (fun i hi => m24 _ (by omega))
      · have hj' : j = 16 ∨ j = 17 ∨ j = 18 ∨ j = 19 ∨ j = 20 ∨ j = 25 ∨ j = 26 := by omega
        rcases hj' with rfl | rfl | rfl | rfl | rfl | rfl | rfl
        · rw [m16, if_neg e]
        · rw [m17, if_neg e]
        · rw [m18, if_neg e]
        · rw [mm19, if_neg e]
        · rw [m20, if_neg e]
        · rw [m25, if_neg e]
        · rw [m26, if_neg e]
      · have h := m21 (8 * k' + i) (by omega)
        have hj' : j = 21 ∨ j = 22 ∨ j = 23 := by omega
        rcases hj' with rfl | rfl | rfl
        · exact h.1
        · exact h.2.1
        · exact h.2.2
  -- the class
  have hE5 : up (up (up (up MC 14 0 p) 14 1 a) 14 2 t) 14 3 d 25 0 = (K : Int) := by rw [up_ne _ _ _ (by decide), up_ne _ _ _ (by decide), up_ne _ _ _ (by decide), up_ne _ _ _ (by decide), q3.1, hK]
  obtain ⟨s, hs, s1, s2, s3, s4, s5⟩ := c_append1 hK30 hE5
  generalize hP : up (up (up (up MC 14 0 p) 14 1 a) 14 2 t) 14 3 d = P at hs s2 s3 s4
  have pr : ∀ j, j ≠ 14 → P j = MC j := fun j hj => by rw [← hP, up_ne _ _ _ hj, up_ne _ _ _ hj, up_ne _ _ _ hj, up_ne _ _ _ hj]
  generalize hC1 : up (up s.2 14 4 0) 14 5 0 = C1
  have cr : ∀ j, j ≠ 14 → C1 j = s.2 j := fun j hj => by rw [← hC1, up_ne _ _ _ hj, up_ne _ _ _ hj]
  have c14 : C1 14 4 = 0 ∧ C1 14 5 = 0 := by rw [← hC1]; constructor <;> simp [up]
  have co : ∀ j, j ≠ 14 → j ≠ 25 → ¬ (33 + 8 * K ≤ j ∧ j ≤ 33 + 8 * K + 6) → C1 j = MC j := fun j j1 j2 j3 => by rw [cr j j1, s4 j j3 j2, pr j j1]
  have hcl : eqTail P = Cl (f_X11_followGrammar C1) fun _ M9 => some (0, (K : Int), M9) := by
    unfold eqTail f_X0_clear
    rw [hs, show (s : Int × Mm) = (s.1, s.2) from rfl, ClS]
    simp only [LtE]
    rw [ClS, hC1, s1]
  have ho : eqBody p a t d (up MR 0 87 0) = some ((K : Int), sr M1 50 fun i => if i < 360 then 0 else M1 50 i) := by
    have z : ∀ (A : Mm) (j i : Nat) (v : Int), j ≠ 0 → up A j i v 0 19 = A 0 19 := fun A j i v hj => by rw [up_ne _ _ _ (fun q => hj q.symm)]
    have z0 : up MR 0 87 0 0 19 = (K : Int) := by rw [← hK]; simp [up]
    unfold eqBody
    simp only [LtE]
    rw [z _ 19 _ _ (by decide), z _ 18 _ _ (by decide), z _ 17 _ _ (by decide), z _ 16 _ _ (by decide), z0, gdE (by omega), gdE (by omega), gdE (by omega), gdE (by omega), Int.toNat_natCast, hX, hr, show (r : Int × Mm) = (r.1, r.2) from rfl, ClS]
    have z1 : up (up r.2 0 14 0) 0 15 0 0 19 = (K : Int) := by
      simp only [up]
      rw [if_neg (by decide), if_neg (by decide), rr 0 (by decide) (by decide) (by decide), l1 0 (by decide) (by decide) (by decide) (by decide) (by decide), x0 19 (by decide), hK]
    rw [z1, wrE (by omega) (by omega), show (K : Int) + 1 = ((K + 1 : Nat) : Int) by omega, hM1, r_dropsAll, ClS, sr_ne _ _ (by decide), m19, wrE (by omega) (by omega), show ((K + 1 : Nat) : Int) - 1 = K by omega]
  refine fin_op24 (RG := RG) 0 hcl ho ⟨⟨?_, ?_, hOke, ?_, ?_⟩, ⟨?_, ?_, ?_, ?_, ?_⟩, ?_, ?_, ?_⟩ ?_
  · exact p1.of (m0 0 (by decide) (by decide) (by decide) (by decide)) (m0 12 (by decide) (by decide) (by decide) (by decide)) fun j j1 j2 => mr j (by omega) (by omega) (by omega)
  · unfold Okd
    rw [m14, m15]
    exact ⟨by decide, fun i hi => absurd hi (Nat.not_lt_zero _), rfl⟩
  · exact p4.of (m0 33 (by decide) (by decide) (by decide) (by decide)) (mr 29 (by decide) (by decide) (by decide))
  · exact p5.of (by rw [m0 0 (by decide) (by decide) (by decide) (by decide)]; exact Int.le_refl _) (m0 35 (by decide) (by decide) (by decide) (by decide)) (m0 36 (by decide) (by decide) (by decide) (by decide)) (fun j j1 j2 => mr j (by omega) (by omega) (by omega)) (fun q _ _ => by rw [mr 4 (by decide) (by decide) (by decide), mr 6 (by decide) (by decide) (by decide)]; exact ⟨rfl, rfl⟩)
  · have := q1.of (M' := C1) fun j j1 j2 => co j (by omega) (by omega) (by omega)
    unfold CG at this ⊢
    rw [m0 0 (by decide) (by decide) (by decide) (by decide), m0 12 (by decide) (by decide) (by decide) (by decide), mr 1 (by decide) (by decide) (by decide), mr 2 (by decide) (by decide) (by decide), mr 3 (by decide) (by decide) (by decide), mr 4 (by decide) (by decide) (by decide), mr 5 (by decide) (by decide) (by decide), mr 6 (by decide) (by decide) (by decide), mr 7 (by decide) (by decide) (by decide), mr 8 (by decide) (by decide) (by decide), mr 9 (by decide) (by decide) (by decide), mr 10 (by decide) (by decide) (by decide), mr 11 (by decide) (by decide) (by decide), mr 12 (by decide) (by decide) (by decide)]
    exact this
  · unfold CD
    rw [m14, m15]
    refine ⟨c14.1, c14.2, ⟨fun i hi => absurd hi (Nat.not_lt_zero _), fun r hr => by cases hr⟩, fun i hi => absurd hi (Nat.not_lt_zero _)⟩
  · unfold CE
    rw [m19, cr 25 (by decide), s5, co 27 (by decide) (by decide) (by omega), mr 27 (by decide) (by decide) (by decide)]
    refine ⟨rfl, q3.2.1, fun k' hk' => ?_⟩
    by_cases e : k' = K
    · subst e
      have y : ∀ i, i < 6 → C1 (33 + 8 * k') i = P 14 i := fun i hi => by rw [cr _ (by omega)]; exact s2 i hi
      have w : P 14 0 = p ∧ P 14 1 = a ∧ P 14 2 = t ∧ P 14 3 = d ∧ P 14 4 = MC 14 4 := by rw [← hP]; simp [up]
      rw [y 0 (by decide), y 1 (by decide), y 2 (by decide), y 3 (by decide), y 4 (by decide), w.1, w.2.1, w.2.2.1, w.2.2.2.1, w.2.2.2.2, m16, m17, m18, mm19, m20, if_pos rfl, if_pos rfl, if_pos rfl, if_pos rfl, if_pos rfl, q2.1, hN, nK]
      refine ⟨rfl, rfl, rfl, rfl, rfl, ?_⟩
      have hC := q2.2.2.1
      rw [hN, Int.toNat_natCast] at hC
      refine hC.congr (fun i hi => (d2 i hi).2) hN8 mst fun j j1 j2 i hi => ?_
      rw [cr _ (by omega), s3 j j1 j2 i hi, pr _ (by omega)]
    · have hE := q3.2.2 k' (by omega)
      have hk8 : ∀ j, j ≤ 6 → C1 (33 + 8 * k' + j) = MC (33 + 8 * k' + j) := fun j hj => co _ (by omega) (by omega) (by omega)
      have h0 := hk8 0 (by decide)
      rw [Nat.add_zero] at h0
      have hn' : eN M1 k' = eN MR k' := by unfold eN; rw [m20, if_neg e]
      have hn8 : eN MR k' ≤ 8 := by
        have := (p3.2.1 k' (by omega)).2.2.2.1
        unfold eN; omega
      rw [h0, m16, m17, m18, mm19, m20, if_neg e, if_neg e, if_neg e, if_neg e, if_neg e, hn']
      refine ⟨hE.1, hE.2.1, hE.2.2.1, hE.2.2.2.1, hE.2.2.2.2.1, hE.2.2.2.2.2.congr (fun i hi => ((p3.2.1 k' (by omega)).2.2.2.2.2.1 i hi).2) hn8 (fun i hi => ?_) fun j j1 j2 i hi => by rw [hk8 j j2]⟩
      have h := m21 (8 * k' + i) (by omega)
      exact h
  · exact q4.of (m0 33 (by decide) (by decide) (by decide) (by decide)) (mr 29 (by decide) (by decide) (by decide)) fun j j1 j2 => co j (by omega) (by omega) (by omega)
  · exact q5.of p5 (m0 35 (by decide) (by decide) (by decide) (by decide)) (m0 36 (by decide) (by decide) (by decide) (by decide)) (fun j j1 j2 => mr j (by omega) (by omega) (by omega)) (fun q _ _ => by rw [mr 4 (by decide) (by decide) (by decide)]) fun j j1 j2 => co j (by omega) (by omega) (by omega)
  · exact q6.of fun j hj => co j (by omega) (by omega) (by omega)
  · rw [co 299 (by decide) (by decide) (by omega), m0 67 (by decide) (by decide) (by decide) (by decide)]; exact q7
  · exact p6.of (m0 35 (by decide) (by decide) (by decide) (by decide)) (m0 68 (by decide) (by decide) (by decide) (by decide)) (m0 79 (by decide) (by decide) (by decide) (by decide)) (mr 51 (by decide) (by decide) (by decide)) (mr 36 (by decide) (by decide) (by decide))
  · intro M2 h2 h3x
    refine ⟨Or.inl rfl, ?_, fun _ => rfl, h2, rfl, fun h => absurd rfl h, fun _ => ⟨⟨h3x.1, h3x.2.1.trans (co 299 (by decide) (by decide) (by omega)), h3x.2.2.trans (co 283 (by decide) (by decide) (by omega))⟩, hK.symm, fun i j1 j2 j3 j4 => by simp only; rw [sr_ne _ _ (by decide)]; exact m0 i j1 j2 j3 j4, by simp only; rw [sr_ne _ _ (by decide)]; rw [m19, hK]; omega, fun j j0 j1 j2 j3 => by simp only; rw [sr_ne _ _ j3]; exact mr j j0 j1 j2, fun i => by simp only; rw [sr_ne _ _ (by decide)]; rw [hKn]; exact m16 i, fun i => by simp only; rw [sr_ne _ _ (by decide)]; rw [hKn]; exact m17 i, fun i => by simp only; rw [sr_ne _ _ (by decide)]; rw [hKn]; exact m18 i, fun i => by simp only; rw [sr_ne _ _ (by decide)]; rw [hKn]; exact mm19 i⟩⟩
    simp only
    rw [sr_ne _ _ (by decide), m87]
    simp
