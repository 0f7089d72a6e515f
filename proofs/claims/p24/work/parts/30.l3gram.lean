abbrev shpK (S : Mm) (p o k : Int) : Prop := S 4 p.toNat ≤ k ∨ S 5 (3 * p + k).toNat = S 5 (3 * o + k).toNat
abbrev shp (S : Mm) (p o : Int) : Prop := S 1 p.toNat = S 1 o.toNat ∧ S 4 p.toNat = S 4 o.toNat ∧ S 6 p.toNat = S 6 o.toNat ∧ shpK S p o 0 ∧ shpK S p o 1 ∧ shpK S p o 2
theorem c_alike {M S : Mm} (hg : Okg S) (hM : CG M S) {p o : Int} (hp : 0 ≤ p ∧ p < S 0 0) (ho : 0 ≤ o ∧ o < S 0 0) : f_X5_isAlikeInShape p o M = some (if shp S p o then 1 else 0, M) := by
  have hP := hg.1
  have c1 := chl_le hg hp
  have c2 := chl_le hg ho
  have hst : ∀ {J : Int → Mm → Rs} (rc) (v k : Int), (v = 0 ∨ v = 1) → 0 ≤ k → k < 3 → S 4 p.toNat = S 4 o.toNat → f_X5_isAlikeInShape_L54_30 p o J rc (v, k, M) = rc (if v = 1 ∧ shpK S p o k then 1 else 0, k + 1, M) := by
    intro J rc v k hv k0 k1 e4
    simp only [f_X5_isAlikeInShape_L54_30, LtE]
    rw [if_neg (by omega), wrE (by omega) (by omega)]
    rcases hv with e | e
    · rw [if_pos e, if_neg (by omega)]
    · rw [if_neg (by omega)]
      by_cases h : k < S 4 p.toNat
      · rw [g_childHead hM hg hp ⟨k0, h⟩, ClS, g_childHead hM hg ho ⟨k0, by omega⟩, ClS]
        by_cases h2 : S 5 (3 * p + k).toNat = S 5 (3 * o + k).toNat
        · rw [if_neg (by simpa using h2), if_pos ⟨e, Or.inr h2⟩]
        · rw [if_pos h2, if_neg (fun q => by rcases q.2 with w | w; omega; exact h2 w)]
      · rw [g_childHead_no hM hg hp (by omega) k1, ClS, g_childHead_no hM hg ho (by omega) k1, ClS, if_neg (by decide), if_pos ⟨e, Or.inl (by omega)⟩]
  have h01 : ∀ P : Prop, [Decidable P] → (if P then (1 : Int) else 0) = 0 ∨ (if P then (1 : Int) else 0) = 1 := by
    intro P _; by_cases h : P
    · rw [if_pos h]; exact Or.inr rfl
    · rw [if_neg h]; exact Or.inl rfl
  have hz : ∀ {J : Int → Mm → Rs} (f : Nat), Lp (f_X5_isAlikeInShape_L54_30 p o J) (f + 1 + 1 + 1 + 1) (0, 0, M) = J 0 M := by
    intro J f
    have hs : ∀ rc (k : Int), 0 ≤ k → k < 3 → f_X5_isAlikeInShape_L54_30 p o J rc (0, k, M) = rc (0, k + 1, M) := by
      intro rc k k0 k1
      simp only [f_X5_isAlikeInShape_L54_30, LtE]
      rw [if_neg (by omega), if_pos trivial, wrE (by omega) (by omega)]
    rw [Lp_s, hs _ _ (by decide) (by decide), Lp_s, hs _ _ (by decide) (by decide), Lp_s, hs _ _ (by decide) (by decide), Lp_s]
    simp only [f_X5_isAlikeInShape_L54_30]
    rw [if_pos (by decide)]
  have hx : ∀ {J : Int → Mm → Rs} (rc) (v k : Int), 3 ≤ k → f_X5_isAlikeInShape_L54_30 p o J rc (v, k, M) = J v M := by
    intro J rc v k hk
    simp only [f_X5_isAlikeInShape_L54_30]
    rw [if_pos hk]
  have l1 := (hM.2.2.2.1 p hp.1 hp.2).2.2.2.1
  have l2 := (hM.2.2.2.1 o ho.1 ho.2).2.2.2.1
  unfold f_X5_isAlikeInShape
  rw [g_head hM hg hp, ClS, g_head hM hg ho, ClS]
  simp only [LtE]
  by_cases e1 : S 1 p.toNat = S 1 o.toNat
  case neg =>
    rw [if_pos e1, FU_4, hz, if_neg (c := shp S p o) (fun q => e1 q.1)]
  rw [if_neg (by simpa using e1), g_childCount hM hg hp, ClS, g_childCount hM hg ho, ClS]
  by_cases e4 : S 4 p.toNat = S 4 o.toNat
  case neg =>
    rw [if_pos e4, FU_4, hz, if_neg (c := shp S p o) (fun q => e4 q.2.1)]
  rw [if_neg (by simpa using e4), c_entryOf_in 10 alenC_7 (by omega) (by omega), ClS, c_entryOf_in 10 alenC_7 (by omega) (by omega), ClS, l1, l2]
  by_cases e6 : S 6 p.toNat = S 6 o.toNat
  case neg =>
    rw [if_pos e6, FU_4, hz, if_neg (c := shp S p o) (fun q => e6 q.2.2.1)]
  rw [if_neg (by simpa using e6), FU_4, Lp_s, hst _ _ _ (Or.inr rfl) (by decide) (by decide) e4, Lp_s, hst _ _ _ (h01 _) (by decide) (by decide) e4, Lp_s, hst _ _ _ (h01 _) (by decide) (by decide) e4, Lp_s]
  rw [hx _ _ _ (by decide), if3, show (0 : Int) + 1 = 1 from rfl, show (1 : Int) + 1 = 2 from rfl]
  by_cases h : shp S p o
  · rw [if_pos h, if_pos ⟨rfl, h.2.2.2⟩]
  · rw [if_neg h, if_neg (fun q => h ⟨e1, e4, e6, q.2⟩)]
theorem ClxS {c v : Int} {M : Mm} {k : Int → Mm → Rx} : Clx (some (c, v, M)) k = if c = 0 then k v M else some (c, 0, M) := Eq.trans rfl rfl
theorem g_hasAttribute {M S : Mm} (hM : CG M S) (a : Int) : f_X5_hasAttribute a M = some (if 0 ≤ a ∧ a < S 0 12 then 1 else 0, M) := by
  rw [c_hasAttribute, hM.2.1]
theorem g_mustAttr {M S : Mm} (hM : CG M S) (a : Int) {k : Int → Mm → Rx} : Clx (f_X11_mustBeAttribute a M) k = if 0 ≤ a ∧ a < S 0 12 then k 0 M else some (1, 0, M) := by
  unfold f_X11_mustBeAttribute
  rw [g_hasAttribute hM, ClS]
  by_cases h : 0 ≤ a ∧ a < S 0 12
  · rw [if_pos h, if_pos (by decide), ClxS, if_pos rfl, if_pos h]
  · rw [if_neg h, if_neg (by decide), ClxS, if_neg (by decide), if_neg h]
theorem r_ruLoop {M : Mm} (hg : Okg M) {p o : Int} (hp : 0 ≤ p ∧ p < M 0 0) (ho : 0 ≤ o ∧ o < M 0 0) {J : Int → Mm → Rs} : Lp (f_X12_rule_L96_47 p o J) FU (1, 0, M) = J (if shpK M p o 0 ∧ shpK M p o 1 ∧ shpK M p o 2 then 1 else 0) M := by
  have hP := hg.1
  have hst : ∀ (rc) (k : Int), 0 ≤ k → k < 3 → f_X12_rule_L96_47 p o J rc (1, k, M) = rc (if shpK M p o k then 1 else 0, k + 1, M) := by
    intro rc k k0 k1
    simp only [f_X12_rule_L96_47, LtE]
    rw [if_neg (by omega), if_neg (by decide), gdE (by omega), wrE (by omega) (by omega)]
    by_cases h : M 4 p.toNat ≤ k
    · rw [if_pos h, if_pos (Or.inl h)]
    · rw [if_neg h]
      simp (disch := omega) only [wrE, gdE]
      by_cases h2 : M 5 (3 * p + k).toNat = M 5 (3 * o + k).toNat
      · rw [if_neg (by simpa using h2), if_pos (Or.inr h2)]
      · rw [if_pos h2, if_neg (fun q => by rcases q with w | w; exact h w; exact h2 w)]
  have hx : ∀ (rc) (v k : Int), 3 ≤ k ∨ v = 0 → f_X12_rule_L96_47 p o J rc (v, k, M) = J v M := by
    intro rc v k hk
    simp only [f_X12_rule_L96_47]
    by_cases h : 3 ≤ k
    · rw [if_pos h]
    · rw [if_neg h, if_pos (by omega)]
  rw [FU_4, Lp_s, hst _ _ (by decide) (by decide)]
  by_cases s0 : shpK M p o 0
  case neg =>
    have n : ¬ (shpK M p o 0 ∧ shpK M p o 1 ∧ shpK M p o 2) := fun q => s0 q.1
    rw [if_neg s0, Lp_s, hx _ _ _ (Or.inr rfl), if_neg n]
  rw [if_pos s0, Lp_s, hst _ _ (by decide) (by decide), show (0 : Int) + 1 = 1 from rfl]
  by_cases s1 : shpK M p o 1
  case neg =>
    have n : ¬ (shpK M p o 0 ∧ shpK M p o 1 ∧ shpK M p o 2) := fun q => s1 q.2.1
    rw [if_neg s1, Lp_s, hx _ _ _ (Or.inr rfl), if_neg n]
  rw [if_pos s1, Lp_s, hst _ _ (by decide) (by decide), show (1 : Int) + 1 = 2 from rfl]
  by_cases s2 : shpK M p o 2
  case neg =>
    have n : ¬ (shpK M p o 0 ∧ shpK M p o 1 ∧ shpK M p o 2) := fun q => s2 q.2.2
    rw [if_neg s2, Lp_s, hx _ _ _ (Or.inr rfl), if_neg n]
  rw [if_pos s2, Lp_s, hx _ _ _ (Or.inl (by decide)), if_pos ⟨s0, s1, s2⟩]
theorem r_ruOut {M : Mm} {p o : Int} {J : Int → Mm → Rs} : Lp (f_X12_rule_L96_47 p o J) FU (0, 0, M) = J 0 M := by
  rw [FU_4, Lp_s]
  simp only [f_X12_rule_L96_47]
  rw [if_neg (by decide), if_pos trivial]
theorem s_rule {RG : Mm → Nat → Int} (hRG : RGok RG) : S_rule (Inv RG) := by
  intro MC MR k p b o i1 i2 i3 hI hk
  obtain ⟨hp, hV, hR, hB⟩ := id hI
  obtain ⟨⟨p1, p2, p3, p4, p5⟩, ⟨q1, q2, q3, q4, q5⟩, q6, q7, p6⟩ := id hp
  have hP := p1.1
  by_cases c1 : (0 ≤ p ∧ p < MR 0 0) ∧ (0 ≤ o ∧ o < MR 0 0) ∧ (0 ≤ b ∧ b < MR 0 12)
  case neg =>
    refine ⟨(1, 0, MC), (0, up MR 0 87 1), ?_, ?_, by simp, by simp [up], by simp, hI.thr hRG _ _⟩
    · unfold f_X11_rule
      simp only [LtE, g_hasProduction q1, ClS, g_mustAttr q1]
      by_cases c2 : 0 ≤ p ∧ p < MR 0 0
      · rw [if_pos c2, if_neg (by decide)]
        by_cases c3 : 0 ≤ o ∧ o < MR 0 0
        · rw [if_pos c3, if_pos (by decide), if_neg (fun h => c1 ⟨c2, c3, h⟩)]
        · rw [if_neg c3, if_neg (by decide)]
      · rw [if_neg c2]; simp
    · have hfin : Cl (f_X12_fails 1 MR) (fun v16 M15 => if v16 = 0 then gd (0 ≤ p ∧ p < 10) (gd (0 ≤ p ∧ p < 10) (gd (0 ≤ p ∧ p < 10) (Cl (f_X12_dropsAll (up (up M15 10 p.toNat o) 11 p.toNat b)) fun _ M21 => some (M15 10 p.toNat, M21)))) else some (0, M15)) = some (0, up MR 0 87 1) := by
        rw [r_fails, ClS, if_neg (by decide)]
      unfold f_X12_rule
      simp only [LtE, r_isProduction hP, r_isAttribute p1.2.1, ClS, r_ruOut]
      by_cases c2 : 0 ≤ p ∧ p < MR 0 0
      · rw [if_pos c2, if_neg (by decide)]
        by_cases c3 : 0 ≤ o ∧ o < MR 0 0
        · rw [if_pos c3, if_neg (by decide), if_neg (fun h => c1 ⟨c2, c3, h⟩)]
          simpa using hfin
        · rw [if_neg c3]
          simpa using hfin
      · rw [if_neg c2]
        simpa using hfin
  case pos =>
  obtain ⟨hpp, hoo, hbb⟩ := c1
  have hcl : f_X11_rule p b o MC = if p ≠ o ∧ shp MR p o then Cl (f_X11_followGrammar (up (up MC 11 p.toNat b) 12 p.toNat o)) fun _ M9 => some (0, MR 10 p.toNat, M9) else some (2, 0, MC) := by
    unfold f_X11_rule
    simp only [LtE, g_hasProduction q1, ClS, g_mustAttr q1]
    rw [if_pos hpp, if_neg (by decide), if_pos hoo, if_pos (by decide), if_pos hbb]
    by_cases e : p = o
    · rw [if_pos e, if_neg (fun q => q.1 e)]
    · rw [if_neg e, c_alike p1 q1 hpp hoo, ClS]
      by_cases h : shp MR p o
      · rw [if_pos h, if_pos (by decide), if_pos ⟨e, h⟩]
        unfold f_X5_tellRule
        rw [g_ruleOther q1 p1 hpp, ClS, c_setEntry_in 10 alenC_11 (by omega) (by omega), ClS, c_setEntry_in 10 alenC_12 (by omega) (by omega), ClS, ClS]
      · rw [if_neg h, if_neg (by decide), if_neg (fun q => h q.2)]
  have hrf : f_X12_rule p b o MR = if p ≠ o ∧ shp MR p o then some (MR 10 p.toNat, sr (up (up (up MR 0 87 0) 10 p.toNat o) 11 p.toNat b) 50 fun i => if i < 360 then 0 else (up (up (up MR 0 87 0) 10 p.toNat o) 11 p.toNat b) 50 i) else some (0, up MR 0 87 2) := by
    have hbad : Cl (f_X12_fails 2 MR) (fun v16 M15 => if v16 = 0 then gd (0 ≤ p ∧ p < 10) (gd (0 ≤ p ∧ p < 10) (gd (0 ≤ p ∧ p < 10) (Cl (f_X12_dropsAll (up (up M15 10 p.toNat o) 11 p.toNat b)) fun _ M21 => some (M15 10 p.toNat, M21)))) else some (0, M15)) = some (0, up MR 0 87 2) := by
      rw [r_fails, ClS, if_neg (by decide)]
    have hgood : Cl (f_X12_fails 0 MR) (fun v16 M15 => if v16 = 0 then gd (0 ≤ p ∧ p < 10) (gd (0 ≤ p ∧ p < 10) (gd (0 ≤ p ∧ p < 10) (Cl (f_X12_dropsAll (up (up M15 10 p.toNat o) 11 p.toNat b)) fun _ M21 => some (M15 10 p.toNat, M21)))) else some (0, M15)) = some (MR 10 p.toNat, sr (up (up (up MR 0 87 0) 10 p.toNat o) 11 p.toNat b) 50 fun i => if i < 360 then 0 else (up (up (up MR 0 87 0) 10 p.toNat o) 11 p.toNat b) 50 i) := by
      rw [r_fails, ClS, if_pos (by decide), gdE (by omega), gdE (by omega), gdE (by omega), r_dropsAll, ClS, up_ne _ _ _ (by decide)]
    unfold f_X12_rule
    simp only [LtE, r_isProduction hP, r_isAttribute p1.2.1, ClS, r_ruOut, r_ruLoop p1 hpp hoo]
    rw [if_pos hpp, if_neg (by decide), if_pos hoo, if_neg (by decide), if_pos hbb, if_neg (by decide)]
    rw [if_neg (by decide), gdE (by omega), gdE (by omega), gdE (by omega), gdE (by omega), gdE (by omega), gdE (by omega)]
    by_cases e : p = o
    · have n : ¬ (p ≠ o ∧ shp MR p o) := fun q => q.1 e
      rw [if_pos e, if_neg n, if_pos (c := ¬ (1 : Int) = 0) (by decide), if_pos trivial]
      exact hbad
    rw [if_neg e]
    by_cases e1 : MR 1 p.toNat = MR 1 o.toNat
    case neg =>
      have n : ¬ (p ≠ o ∧ shp MR p o) := fun q => e1 q.2.1
      rw [if_pos e1, if_neg n, if_pos (c := ¬ (1 : Int) = 0) (by decide), if_pos trivial]
      exact hbad
    rw [if_neg (c := ¬ MR 1 p.toNat = MR 1 o.toNat) (by simpa using e1)]
    by_cases e4 : MR 4 p.toNat = MR 4 o.toNat
    case neg =>
      have n : ¬ (p ≠ o ∧ shp MR p o) := fun q => e4 q.2.2.1
      rw [if_pos e4, if_neg n, if_pos (c := ¬ (1 : Int) = 0) (by decide), if_pos trivial]
      exact hbad
    rw [if_neg (c := ¬ MR 4 p.toNat = MR 4 o.toNat) (by simpa using e4)]
    by_cases e6 : MR 6 p.toNat = MR 6 o.toNat
    case neg =>
      have n : ¬ (p ≠ o ∧ shp MR p o) := fun q => e6 q.2.2.2.1
      rw [if_pos e6, if_neg n, if_pos (c := ¬ (1 : Int) = 0) (by decide), if_pos trivial]
      exact hbad
    rw [if_neg (c := ¬ MR 6 p.toNat = MR 6 o.toNat) (by simpa using e6)]
    by_cases e9 : shpK MR p o 0 ∧ shpK MR p o 1 ∧ shpK MR p o 2
    · have y : p ≠ o ∧ shp MR p o := ⟨e, e1, e4, e6, e9⟩
      rw [if_pos e9, if_pos y, if_pos (c := ¬ (1 : Int) = 0) (by decide), if_neg (c := (1 : Int) = 0) (by decide)]
      exact hgood
    · have n : ¬ (p ≠ o ∧ shp MR p o) := fun q => e9 q.2.2.2.2
      rw [if_neg e9, if_neg n, if_pos (c := ¬ (1 : Int) = 0) (by decide), if_pos rfl]
      exact hbad
  by_cases hsh : p ≠ o ∧ shp MR p o
  case neg =>
    rw [if_neg hsh] at hcl hrf
    exact ⟨_, _, hcl, hrf, by simp, by simp [up], by simp, hI.thr hRG _ _⟩
  rw [if_pos hsh] at hcl hrf
  generalize hM1 : up (up (up MR 0 87 0) 10 p.toNat o) 11 p.toNat b = M1 at hrf
  generalize hC1 : up (up MC 11 p.toNat b) 12 p.toNat o = C1 at hcl
  have er : ∀ j, j ≠ 0 → j ≠ 10 → j ≠ 11 → M1 j = MR j := fun j j1 j2 j3 => by rw [← hM1, up_ne _ _ _ j3, up_ne _ _ _ j2, up_ne _ _ _ j1]
  have e0 : ∀ i, i ≠ 87 → M1 0 i = MR 0 i := fun i i1 => by rw [← hM1]; simp [up, i1]
  have e10 : ∀ i, M1 10 i = if i = p.toNat then o else MR 10 i := fun i => by rw [← hM1]; simp [up]
  have e11 : ∀ i, M1 11 i = if i = p.toNat then b else MR 11 i := fun i => by rw [← hM1]; simp [up]
  have em : ∀ j, j ≠ 11 → j ≠ 12 → C1 j = MC j := fun j j1 j2 => by rw [← hC1, up_ne _ _ _ j2, up_ne _ _ _ j1]
  have em11 : ∀ i, C1 11 i = if i = p.toNat then b else MC 11 i := fun i => by rw [← hC1]; simp [up]
  have em12 : ∀ i, C1 12 i = if i = p.toNat then o else MC 12 i := fun i => by rw [← hC1]; simp [up]
  have hn : nch M1 = nch MR := by
    funext p n
    induction n with
    | zero => rfl
    | succ n ih => simp only [nch]; rw [ih, er 3 (by decide) (by decide) (by decide)]
  refine fin_op (RG := RG) (k + 1) hcl hrf (hp.gram ?_ ?_ (by rw [e0 0 (by decide)]; exact Int.le_refl _) (by rw [e0 12 (by decide)]; exact Int.le_refl _) (fun i i1 _ _ => e0 i i1) (fun j hj => er j (by omega) (by omega) (by omega)) (fun a _ _ => by rw [er 12 (by decide) (by decide) (by decide)]) (fun a _ _ => by rw [er 4 (by decide) (by decide) (by decide), er 6 (by decide) (by decide) (by decide)]; exact ⟨rfl, rfl⟩) fun j hj => em j (by omega) (by omega)) ?_
  · obtain ⟨o1, o2, o3, o4, o5⟩ := p1
    unfold Okg
    rw [e0 0 (by decide), e0 12 (by decide), er 12 (by decide) (by decide) (by decide), er 2 (by decide) (by decide) (by decide), er 4 (by decide) (by decide) (by decide), er 6 (by decide) (by decide) (by decide), er 8 (by decide) (by decide) (by decide)]
    refine ⟨o1, o2, o3, fun q q0 q1 => ?_, fun q q0 q1 => ?_⟩
    · have hq := o4 q q0 q1
      unfold OkP at hq ⊢
      rw [hn, e0 0 (by decide), e0 12 (by decide), er 1 (by decide) (by decide) (by decide), er 2 (by decide) (by decide) (by decide), er 3 (by decide) (by decide) (by decide), er 4 (by decide) (by decide) (by decide), er 5 (by decide) (by decide) (by decide), er 6 (by decide) (by decide) (by decide), er 7 (by decide) (by decide) (by decide), er 8 (by decide) (by decide) (by decide), er 9 (by decide) (by decide) (by decide)]
      obtain ⟨w1, w2, w3, w4, w5, w6, w7, w8, w9, w10⟩ := hq
      refine ⟨w1, w2, w3, w4, w5, w6, w7, w8, w9, ?_⟩
      rw [e10, e11]
      by_cases e : q = p
      · subst e
        rw [if_pos rfl, if_pos rfl]
        exact Or.inr ⟨hoo.1, hoo.2, hsh.2.2.1.symm, hsh.2.2.2.1.symm, hbb.1, hbb.2⟩
      · rw [if_neg (by omega), if_neg (by omega)]; exact w10
    · have := o5 q q0 q1
      rw [e10, if_neg (by omega)]; exact this
  · unfold CG at q1 ⊢
    rw [e0 0 (by decide), e0 12 (by decide), er 1 (by decide) (by decide) (by decide), er 2 (by decide) (by decide) (by decide), er 3 (by decide) (by decide) (by decide), er 4 (by decide) (by decide) (by decide), er 5 (by decide) (by decide) (by decide), er 6 (by decide) (by decide) (by decide), er 7 (by decide) (by decide) (by decide), er 8 (by decide) (by decide) (by decide), er 9 (by decide) (by decide) (by decide), er 12 (by decide) (by decide) (by decide), em 1 (by decide) (by decide), em 2 (by decide) (by decide), em 3 (by decide) (by decide), em 4 (by decide) (by decide), em 5 (by decide) (by decide), em 6 (by decide) (by decide), em 7 (by decide) (by decide), em 8 (by decide) (by decide), em 9 (by decide) (by decide), em 10 (by decide) (by decide), em 13 (by decide) (by decide)]
    obtain ⟨w1, w2, w3, w4, w5⟩ := q1
    refine ⟨w1, w2, w3, fun q q0 q1 => ?_, w5⟩
    obtain ⟨v1, v2, v3, v4, v5, v6, v7, v8⟩ := w4 q q0 q1
    refine ⟨v1, v2, v3, v4, v5, ?_, ?_, v8⟩
    · rw [em12, e10, v6]
    · rw [em11, e11, e10]
      by_cases e : q.toNat = p.toNat
      · rw [if_pos e, if_pos e, if_pos e]; exact fun _ => rfl
      · rw [if_neg e, if_neg e, if_neg e]; exact v7
  · intro M2 h2
    refine ⟨Or.inl rfl, ?_, fun _ => rfl, h2⟩
    simp only
    rw [sr_ne _ _ (by decide), ← hM1]
    simp [up]
def Fr (M M' : Mm) (n : Int) (r : Nat) : Prop := (∀ k, k < r ∨ r + 5 < k → M' k = M k) ∧ (∀ k i : Nat, (k = r ∨ k = r + 2 ∨ k = r + 4) → i ≠ n.toNat → M' k i = M k i) ∧ (∀ k i : Nat, (k = r + 1 ∨ k = r + 3 ∨ k = r + 5) → ¬ (3 * n ≤ i ∧ (i : Int) < 3 * n + 3) → M' k i = M k i)
theorem Fr.refl (M : Mm) (n : Int) (r : Nat) : Fr M M n r := ⟨fun _ _ => rfl, fun _ _ _ _ => rfl, fun _ _ _ _ => rfl⟩
theorem Fr.trans {M M1 M2 : Mm} {n : Int} {r : Nat} (h : Fr M M1 n r) (h2 : Fr M1 M2 n r) : Fr M M2 n r :=
  ⟨fun k hk => (h2.1 k hk).trans (h.1 k hk), fun k i h1 h3 => (h2.2.1 k i h1 h3).trans (h.2.1 k i h1 h3), fun k i h1 h3 => (h2.2.2 k i h1 h3).trans (h.2.2 k i h1 h3)⟩
theorem Fr.up1 {M : Mm} {n : Int} {r k : Nat} {v : Int} (hk : k = r ∨ k = r + 2 ∨ k = r + 4) : Fr M (up M k n.toNat v) n r :=
  ⟨fun j hj => up_ne _ _ _ (by omega), fun j i hj hi => by unfold up; rw [if_neg (by omega)], fun j i hj hi => by unfold up; rw [if_neg (by omega)]⟩
theorem Fr.up3 {M : Mm} {n j : Int} {r k : Nat} {v : Int} (hn : 0 ≤ n) (hj : 0 ≤ j ∧ j < 3) (hk : k = r + 1 ∨ k = r + 3 ∨ k = r + 5) : Fr M (up M k (3 * n + j).toNat v) n r :=
  ⟨fun j hj => up_ne _ _ _ (by omega), fun j i hj hi => by unfold up; rw [if_neg (by omega)], fun j i hj hi => by unfold up; rw [if_neg (by omega)]⟩
def AdI (M S : Mm) (n : Int) : Prop :=
  M 3 n.toNat = S 2 n.toNat ∧ M 5 n.toNat = S 4 n.toNat ∧ M 7 n.toNat = S 6 n.toNat ∧ 0 ≤ S 2 n.toNat ∧ S 4 n.toNat = (nch S n.toNat (S 2 n.toNat).toNat : Int) ∧ S 6 n.toNat = S 2 n.toNat - S 4 n.toNat ∧ (0 ≤ S 4 n.toNat ∧ S 4 n.toNat ≤ S 2 n.toNat) ∧
  (∀ j : Int, 0 ≤ j → j < S 2 n.toNat → (0 ≤ S 3 (3 * n + j).toNat ∧ S 3 (3 * n + j).toNat ≤ 9) ∧ M 4 (3 * n + j).toNat = S 3 (3 * n + j).toNat) ∧
  (∀ j : Int, 0 ≤ j → j < S 4 n.toNat → (0 ≤ S 5 (3 * n + j).toNat ∧ S 5 (3 * n + j).toNat ≤ 3) ∧ M 6 (3 * n + j).toNat = S 5 (3 * n + j).toNat) ∧
  (∀ j : Int, 0 ≤ j → j < S 6 n.toNat → (4 ≤ S 7 (3 * n + j).toNat ∧ S 7 (3 * n + j).toNat ≤ 9) ∧ M 8 (3 * n + j).toNat = S 7 (3 * n + j).toNat - 4)
theorem nch_eq {S S' : Mm} {p : Nat} : ∀ n, (∀ j, j < n → S' 3 (3 * p + j) = S 3 (3 * p + j)) → nch S' p n = nch S p n := by
  intro n
  induction n with
  | zero => intro _; rfl
  | succ n ih => intro h; simp only [nch]; rw [ih fun j hj => h j (by omega), h n (by omega)]
theorem c_appendTo {M : Mm} {r1 r2 : Nat} {n a : Int} (hn : 0 ≤ n ∧ n < 10) (h1 : alenC r1 = 30) (h2 : alenC r2 = 10) (hr : r1 ≠ r2) (hc : 0 ≤ M r2 n.toNat ∧ M r2 n.toNat < 3) : f_X5_appendTo r1 r2 n a M = some (0, up (up M r1 (3 * n + M r2 n.toNat).toNat a) r2 n.toNat (M r2 n.toNat + 1)) := by
  unfold f_X5_appendTo
  rw [c_entryOf_in 10 h2 (by omega) (by omega), ClS]
  simp only [LtE]
  simp (disch := omega) only [wrE]
  rw [c_setEntry_in 30 h1 (by omega) (by omega), ClS, c_setEntry_in 10 h2 (by omega) (by omega), ClS, Int.mul_comm n 3]
theorem ad_step {M S : Mm} {n a : Int} (hA : AdI M S n) (hn : 0 ≤ n ∧ n < 10) (h0 : S 0 0 = n) (h2 : S 2 n.toNat ≤ 2) (ha : -1 ≤ a ∧ a ≤ 9) : ∃ M' S', f_X5_appendSymbol n a M = some (0, M') ∧ f_X12_adds a S = some (0, S') ∧ AdI M' S' n ∧ Fr M M' n 3 ∧ Fr S S' n 2 ∧ S' 2 n.toNat = (if a = -1 then S 2 n.toNat else S 2 n.toNat + 1) := by
  obtain ⟨w1, w2, w3, w4, w5, w6, w7, w8, w9, w10⟩ := id hA
  by_cases c0 : a = -1
  · refine ⟨M, S, ?_, ?_, hA, Fr.refl _ _ _, Fr.refl _ _ _, by rw [if_pos c0]⟩
    · unfold f_X5_appendSymbol; rw [if_neg (by omega)]
    · unfold f_X12_adds; simp only [LtE]; rw [if_neg (by simpa using c0)]
  rw [if_neg c0]
  have hR1 : ∀ X : Mm → Rs, f_X12_adds a S = (let S1 := up (up S 3 (3 * n + S 2 n.toNat).toNat a) 2 n.toNat (S 2 n.toNat + 1); if 4 ≤ a then some (0, up (up S1 7 (3 * n + S 6 n.toNat).toNat a) 6 n.toNat (S 6 n.toNat + 1)) else some (0, up (up S1 5 (3 * n + S 4 n.toNat).toNat a) 4 n.toNat (S 4 n.toNat + 1))) := by
    intro X
    unfold f_X12_adds
    simp only [LtE]
    rw [if_pos c0, h0, gdE (by omega)]
    simp (disch := omega) only [wrE]
    rw [gdE (by omega)]
    have e1 : up S 3 (3 * n + S 2 n.toNat).toNat a 0 0 = n := by rw [up_ne _ _ _ (by decide), h0]
    have e2 : up S 3 (3 * n + S 2 n.toNat).toNat a 2 n.toNat = S 2 n.toNat := by rw [up_ne _ _ _ (by decide)]
    rw [e1, e2, gdE (by omega), wrE (by omega) (by omega), gdE (by omega)]
    generalize hS1 : up (up S 3 (3 * n + S 2 n.toNat).toNat a) 2 n.toNat (S 2 n.toNat + 1) = S1
    have e3 : S1 0 0 = n := by rw [← hS1, up_ne _ _ _ (by decide), e1]
    have e4 : S1 6 n.toNat = S 6 n.toNat := by rw [← hS1, up_ne _ _ _ (by decide), up_ne _ _ _ (by decide)]
    have e5 : S1 4 n.toNat = S 4 n.toNat := by rw [← hS1, up_ne _ _ _ (by decide), up_ne _ _ _ (by decide)]
    by_cases c4 : 4 ≤ a
    · rw [if_pos c4, if_pos c4, e3, e4, gdE (by omega), wrE (by omega) (by omega), gdE (by omega)]
      have e6 : up S1 7 (3 * n + S 6 n.toNat).toNat a 0 0 = n := by rw [up_ne _ _ _ (by decide), e3]
      have e7 : up S1 7 (3 * n + S 6 n.toNat).toNat a 6 n.toNat = S 6 n.toNat := by rw [up_ne _ _ _ (by decide), e4]
      rw [e6, e7, gdE (by omega), wrE (by omega) (by omega), gdE (by omega)]
    · rw [if_neg c4, if_neg c4, e3, e5, gdE (by omega), wrE (by omega) (by omega), gdE (by omega)]
      have e6 : up S1 5 (3 * n + S 4 n.toNat).toNat a 0 0 = n := by rw [up_ne _ _ _ (by decide), e3]
      have e7 : up S1 5 (3 * n + S 4 n.toNat).toNat a 4 n.toNat = S 4 n.toNat := by rw [up_ne _ _ _ (by decide), e5]
      rw [e6, e7, gdE (by omega), wrE (by omega) (by omega), gdE (by omega)]
  have hR := hR1 fun _ => none
  have hC : f_X5_appendSymbol n a M = (let M1 := up (up M 4 (3 * n + S 2 n.toNat).toNat a) 3 n.toNat (S 2 n.toNat + 1); if 4 ≤ a then some (0, up (up M1 8 (3 * n + S 6 n.toNat).toNat (a - 4)) 7 n.toNat (S 6 n.toNat + 1)) else some (0, up (up M1 6 (3 * n + S 4 n.toNat).toNat a) 5 n.toNat (S 4 n.toNat + 1))) := by
    unfold f_X5_appendSymbol
    rw [if_pos (by omega), c_appendTo hn alenC_4 alenC_3 (by decide) (by omega), ClS, w1]
    simp only [LtE]
    have e1 : up (up M 4 (3 * n + S 2 n.toNat).toNat a) 3 n.toNat (S 2 n.toNat + 1) 7 n.toNat = S 6 n.toNat := by rw [up_ne _ _ _ (by decide), up_ne _ _ _ (by decide), w3]
    have e2 : up (up M 4 (3 * n + S 2 n.toNat).toNat a) 3 n.toNat (S 2 n.toNat + 1) 5 n.toNat = S 4 n.toNat := by rw [up_ne _ _ _ (by decide), up_ne _ _ _ (by decide), w2]
    by_cases c4 : 4 ≤ a
    · rw [if_pos c4, if_pos c4, wrE (by omega) (by omega), c_appendTo hn alenC_8 alenC_7 (by decide) (by omega), ClS, e1]
    · rw [if_neg c4, if_neg c4, c_appendTo hn alenC_6 alenC_5 (by decide) (by omega), ClS, e2]
  simp only at hR hC
  by_cases c4 : 4 ≤ a
  · rw [if_pos c4] at hR hC
    refine ⟨_, _, hC, hR, ?_, (((Fr.up3 hn.1 (by omega) (by simp)).trans (Fr.up1 (by simp))).trans (Fr.up3 hn.1 (by omega) (by simp))).trans (Fr.up1 (by simp)), (((Fr.up3 hn.1 (by omega) (by simp)).trans (Fr.up1 (by simp))).trans (Fr.up3 hn.1 (by omega) (by simp))).trans (Fr.up1 (by simp)), by simp [up]⟩
    generalize hS' : up (up (up (up S 3 (3 * n + S 2 n.toNat).toNat a) 2 n.toNat (S 2 n.toNat + 1)) 7 (3 * n + S 6 n.toNat).toNat a) 6 n.toNat (S 6 n.toNat + 1) = S'
    generalize hM' : up (up (up (up M 4 (3 * n + S 2 n.toNat).toNat a) 3 n.toNat (S 2 n.toNat + 1)) 8 (3 * n + S 6 n.toNat).toNat (a - 4)) 7 n.toNat (S 6 n.toNat + 1) = M'
    have s2 : ∀ i, S' 2 i = if i = n.toNat then S 2 n.toNat + 1 else S 2 i := fun i => by rw [← hS']; simp [up]
    have s3 : ∀ i, S' 3 i = if i = (3 * n + S 2 n.toNat).toNat then a else S 3 i := fun i => by rw [← hS']; simp [up]
    have s4 : ∀ i, S' 4 i = S 4 i := fun i => by rw [← hS']; simp [up]
    have s5 : ∀ i, S' 5 i = S 5 i := fun i => by rw [← hS']; simp [up]
    have s6 : ∀ i, S' 6 i = if i = n.toNat then S 6 n.toNat + 1 else S 6 i := fun i => by rw [← hS']; simp [up]
    have s7 : ∀ i, S' 7 i = if i = (3 * n + S 6 n.toNat).toNat then a else S 7 i := fun i => by rw [← hS']; simp [up]
    have m3 : ∀ i, M' 3 i = if i = n.toNat then S 2 n.toNat + 1 else M 3 i := fun i => by rw [← hM']; simp [up]
    have m4 : ∀ i, M' 4 i = if i = (3 * n + S 2 n.toNat).toNat then a else M 4 i := fun i => by rw [← hM']; simp [up]
    have m5 : ∀ i, M' 5 i = M 5 i := fun i => by rw [← hM']; simp [up]
    have m6 : ∀ i, M' 6 i = M 6 i := fun i => by rw [← hM']; simp [up]
    have m7 : ∀ i, M' 7 i = if i = n.toNat then S 6 n.toNat + 1 else M 7 i := fun i => by rw [← hM']; simp [up]
    have m8 : ∀ i, M' 8 i = if i = (3 * n + S 6 n.toNat).toNat then (a - 4) else M 8 i := fun i => by rw [← hM']; simp [up]
    have hn2 : nch S' n.toNat (S 2 n.toNat + 1).toNat = nch S n.toNat (S 2 n.toNat).toNat + 0 := by
      rw [show (S 2 n.toNat + 1).toNat = (S 2 n.toNat).toNat + 1 by omega]
      simp only [nch]
      rw [nch_eq (S := S) _ fun j hj => by rw [s3, if_neg (by omega)], s3, if_pos (c := _ = (3 * n + S 2 n.toNat).toNat) (by omega), if_neg (by omega)]
    unfold AdI
    have z2 : S' 2 n.toNat = S 2 n.toNat + 1 := by rw [s2, if_pos rfl]
    have z4 : S' 4 n.toNat = S 4 n.toNat + 0 := by rw [s4]; omega
    have z6 : S' 6 n.toNat = S 6 n.toNat + 1 := by rw [s6]; rw [if_pos rfl]
    have y3 : M' 3 n.toNat = S 2 n.toNat + 1 := by rw [m3, if_pos rfl]
    have y5 : M' 5 n.toNat = S 4 n.toNat + 0 := by rw [m5]; omega
    have y7 : M' 7 n.toNat = S 6 n.toNat + 1 := by rw [m7]; rw [if_pos rfl]
    rw [z2, z4, z6, y3, y5, y7, hn2]
    refine ⟨rfl, rfl, rfl, by omega, by omega, by omega, by omega, fun j j0 j1 => ?_, fun j j0 j1 => ?_, fun j j0 j1 => ?_⟩
    · rw [s3, m4]
      by_cases e : j = S 2 n.toNat
      · rw [if_pos (by omega), if_pos (by omega)]; exact ⟨by omega, rfl⟩
      · rw [if_neg (by omega), if_neg (by omega)]; exact w8 j j0 (by omega)
    · rw [s5, m6]; exact w9 j j0 (by omega)
    · rw [s7, m8]
      by_cases e : j = S 6 n.toNat
      · rw [if_pos (by omega), if_pos (by omega)]; exact ⟨by omega, rfl⟩
      · rw [if_neg (by omega), if_neg (by omega)]; exact w10 j j0 (by omega)
  · rw [if_neg c4] at hR hC
    refine ⟨_, _, hC, hR, ?_, (((Fr.up3 hn.1 (by omega) (by simp)).trans (Fr.up1 (by simp))).trans (Fr.up3 hn.1 (by omega) (by simp))).trans (Fr.up1 (by simp)), (((Fr.up3 hn.1 (by omega) (by simp)).trans (Fr.up1 (by simp))).trans (Fr.up3 hn.1 (by omega) (by simp))).trans (Fr.up1 (by simp)), by simp [up]⟩
    generalize hS' : up (up (up (up S 3 (3 * n + S 2 n.toNat).toNat a) 2 n.toNat (S 2 n.toNat + 1)) 5 (3 * n + S 4 n.toNat).toNat a) 4 n.toNat (S 4 n.toNat + 1) = S'
    generalize hM' : up (up (up (up M 4 (3 * n + S 2 n.toNat).toNat a) 3 n.toNat (S 2 n.toNat + 1)) 6 (3 * n + S 4 n.toNat).toNat a) 5 n.toNat (S 4 n.toNat + 1) = M'
    have s2 : ∀ i, S' 2 i = if i = n.toNat then S 2 n.toNat + 1 else S 2 i := fun i => by rw [← hS']; simp [up]
    have s3 : ∀ i, S' 3 i = if i = (3 * n + S 2 n.toNat).toNat then a else S 3 i := fun i => by rw [← hS']; simp [up]
    have s4 : ∀ i, S' 4 i = if i = n.toNat then S 4 n.toNat + 1 else S 4 i := fun i => by rw [← hS']; simp [up]
    have s5 : ∀ i, S' 5 i = if i = (3 * n + S 4 n.toNat).toNat then a else S 5 i := fun i => by rw [← hS']; simp [up]
    have s6 : ∀ i, S' 6 i = S 6 i := fun i => by rw [← hS']; simp [up]
    have s7 : ∀ i, S' 7 i = S 7 i := fun i => by rw [← hS']; simp [up]
    have m3 : ∀ i, M' 3 i = if i = n.toNat then S 2 n.toNat + 1 else M 3 i := fun i => by rw [← hM']; simp [up]
    have m4 : ∀ i, M' 4 i = if i = (3 * n + S 2 n.toNat).toNat then a else M 4 i := fun i => by rw [← hM']; simp [up]
    have m5 : ∀ i, M' 5 i = if i = n.toNat then S 4 n.toNat + 1 else M 5 i := fun i => by rw [← hM']; simp [up]
    have m6 : ∀ i, M' 6 i = if i = (3 * n + S 4 n.toNat).toNat then a else M 6 i := fun i => by rw [← hM']; simp [up]
    have m7 : ∀ i, M' 7 i = M 7 i := fun i => by rw [← hM']; simp [up]
    have m8 : ∀ i, M' 8 i = M 8 i := fun i => by rw [← hM']; simp [up]
    have hn2 : nch S' n.toNat (S 2 n.toNat + 1).toNat = nch S n.toNat (S 2 n.toNat).toNat + 1 := by
      rw [show (S 2 n.toNat + 1).toNat = (S 2 n.toNat).toNat + 1 by omega]
      simp only [nch]
      rw [nch_eq (S := S) _ fun j hj => by rw [s3, if_neg (by omega)], s3, if_pos (c := _ = (3 * n + S 2 n.toNat).toNat) (by omega), if_pos (by omega)]
    unfold AdI
    have z2 : S' 2 n.toNat = S 2 n.toNat + 1 := by rw [s2, if_pos rfl]
    have z4 : S' 4 n.toNat = S 4 n.toNat + 1 := by rw [s4]; rw [if_pos rfl]
    have z6 : S' 6 n.toNat = S 6 n.toNat + 0 := by rw [s6]; omega
    have y3 : M' 3 n.toNat = S 2 n.toNat + 1 := by rw [m3, if_pos rfl]
    have y5 : M' 5 n.toNat = S 4 n.toNat + 1 := by rw [m5]; rw [if_pos rfl]
    have y7 : M' 7 n.toNat = S 6 n.toNat + 0 := by rw [m7]; omega
    rw [z2, z4, z6, y3, y5, y7, hn2]
    refine ⟨rfl, rfl, rfl, by omega, by omega, by omega, by omega, fun j j0 j1 => ?_, fun j j0 j1 => ?_, fun j j0 j1 => ?_⟩
    · rw [s3, m4]
      by_cases e : j = S 2 n.toNat
      · rw [if_pos (by omega), if_pos (by omega)]; exact ⟨by omega, rfl⟩
      · rw [if_neg (by omega), if_neg (by omega)]; exact w8 j j0 (by omega)
    · rw [s5, m6]
      by_cases e : j = S 4 n.toNat
      · rw [if_pos (by omega), if_pos (by omega)]; exact ⟨by omega, rfl⟩
      · rw [if_neg (by omega), if_neg (by omega)]; exact w9 j j0 (by omega)
    · rw [s7, m8]; exact w10 j j0 (by omega)
abbrev prR (a b c : Int) : Prop := (-1 ≤ a ∧ a ≤ 9) ∧ (-1 ≤ b ∧ b ≤ 9) ∧ (-1 ≤ c ∧ c ≤ 9) ∧ (a ≠ -1 ∨ b = -1) ∧ (b ≠ -1 ∨ c = -1)
theorem c_follows (a m : Int) (M : Mm) : f_X11_followsAsSymbol a m M = some (if a = -1 ∨ (m ≠ 0 ∧ 0 ≤ a ∧ a ≤ 9) then 1 else 0, M) := by
  unfold f_X11_followsAsSymbol Lt; grind
theorem c_productionE {M : Mm} (n a b c : Int) : f_X11_production n a b c M = if ¬ (0 ≤ n ∧ n ≤ 3) then some (1, 0, M) else if ¬ prR a b c then some (2, 0, M) else if M 1 0 < 10 then Cl (f_X5_addProduction n a b c M) fun v M1 => Cl (f_X11_followGrammar M1) fun _ M2 => some (0, v, M2) else some (3, 0, M) := by
  unfold f_X11_production
  simp only [LtE, c_follows, ClS]
  by_cases h1 : n < 0
  · rw [if_pos h1, if_pos (by omega)]
  rw [if_neg h1]
  by_cases h2 : n < 4
  case neg => rw [if_neg h2, if_pos (by omega)]
  rw [if_pos h2, if_neg (c := ¬ (0 ≤ n ∧ n ≤ 3)) (by omega)]
  by_cases h3 : a = -1 ∨ ((1 : Int) ≠ 0 ∧ 0 ≤ a ∧ a ≤ 9)
  case neg =>
    have n9 : ¬ prR a b c := fun q => h3 (by omega)
    rw [if_neg h3, if_pos rfl, if_pos n9]
  rw [if_pos h3, if_neg (by decide)]
  by_cases h4 : a < 0
  · rw [if_pos h4]
    by_cases h5 : b = -1
    case neg =>
      have n9 : ¬ prR a b c := fun q => by omega
      rw [if_neg (c := b = -1 ∨ _) (by omega), if_pos rfl, if_pos n9]
    rw [if_pos (c := b = -1 ∨ _) (Or.inl h5), if_neg (by decide), if_pos (c := b < 0) (by omega)]
    by_cases h6 : c = -1
    case neg =>
      have n9 : ¬ prR a b c := fun q => by omega
      rw [if_neg (c := c = -1 ∨ _) (by omega), if_neg (by decide), if_pos n9]
    have y9 : ¬ ¬ prR a b c := fun q => q (by omega)
    rw [if_pos (c := c = -1 ∨ _) (Or.inl h6), if_pos (by decide), if_neg y9]
  · rw [if_neg h4]
    by_cases h5 : b = -1 ∨ ((1 : Int) ≠ 0 ∧ 0 ≤ b ∧ b ≤ 9)
    case neg =>
      have n9 : ¬ prR a b c := fun q => by omega
      rw [if_neg h5, if_pos rfl, if_pos n9]
    rw [if_pos h5, if_neg (by decide)]
    by_cases h7 : b < 0
    · rw [if_pos h7]
      by_cases h6 : c = -1
      case neg =>
        have n9 : ¬ prR a b c := fun q => by omega
        rw [if_neg (c := c = -1 ∨ _) (by omega), if_neg (by decide), if_pos n9]
      have y9 : ¬ ¬ prR a b c := fun q => q (by omega)
      rw [if_pos (c := c = -1 ∨ _) (Or.inl h6), if_pos (by decide), if_neg y9]
    · rw [if_neg h7]
      by_cases h6 : c = -1 ∨ ((1 : Int) ≠ 0 ∧ 0 ≤ c ∧ c ≤ 9)
      case neg =>
        have n9 : ¬ prR a b c := fun q => by omega
        rw [if_neg h6, if_neg (by decide), if_pos n9]
      have y9 : ¬ ¬ prR a b c := fun q => q (by omega)
      rw [if_pos h6, if_pos (by decide), if_neg y9]
theorem r_productionE {M : Mm} (n a b c : Int) : f_X12_production n a b c M = Cl (f_X12_fails (if ¬ (0 ≤ n ∧ n ≤ 3) then 1 else if ¬ prR a b c then 2 else if M 0 0 = 10 then 3 else 0) M) fun v12 M11 => if v12 = 0 then gd (0 ≤ M11 0 0 ∧ M11 0 0 < 10) (Cl (f_X12_adds a (up M11 1 (M11 0 0).toNat n)) fun _ M16 => Cl (f_X12_adds b M16) fun _ M17 => Cl (f_X12_adds c M17) fun _ M18 => Cl (f_X12_dropsAll (up M18 0 0 (wr (M18 0 0 + 1)))) fun _ M22 => some (wr (M22 0 0 - 1), M22)) else some (0, M11) := by
  unfold f_X12_production
  simp only [LtE, r_isSymbol, r_isIn, ClS]
  by_cases h0 : 0 ≤ n ∧ n ≤ 3
  case neg =>
    rw [if_neg (c := 0 ≤ n ∧ n ≤ 3) h0, if_pos (c := ¬ (0 ≤ n ∧ n ≤ 3)) h0]
    simp only [not_true_eq_false, if_false]
    split <;> (repeat' split) <;> rfl
  rw [if_pos (c := 0 ≤ n ∧ n ≤ 3) h0, if_neg (c := ¬ (0 ≤ n ∧ n ≤ 3)) (by omega)]
  have e1 : ∀ X Y : Rs, (if ¬ (1 : Int) = 0 then X else Y) = X := fun X Y => if_pos (by decide)
  have e0 : ∀ X Y : Rs, (if ¬ (0 : Int) = 0 then X else Y) = Y := fun X Y => if_neg (by decide)
  by_cases sa : -1 ≤ a ∧ a ≤ 9
  case neg =>
    have n9 : ¬ prR a b c := fun q => sa q.1
    rw [if_neg sa, if_pos (c := ¬ prR a b c) n9, if_pos rfl]
    simp only [e1]
    rw [if_neg (by decide)]
  rw [if_pos sa, if_neg (c := (1 : Int) = 0) (by decide)]
  by_cases sb : -1 ≤ b ∧ b ≤ 9
  case neg =>
    have n9 : ¬ prR a b c := fun q => sb q.2.1
    rw [if_neg sb, if_pos (c := ¬ prR a b c) n9, if_pos rfl]
    simp only [e1]
    rw [if_neg (by decide)]
  rw [if_pos sb, if_neg (c := (1 : Int) = 0) (by decide)]
  by_cases sc : -1 ≤ c ∧ c ≤ 9
  case neg =>
    have n9 : ¬ prR a b c := fun q => sc q.2.2.1
    rw [if_neg sc, if_pos (c := ¬ prR a b c) n9, if_pos rfl]
    simp only [e1]
    rw [if_neg (by decide)]
  rw [if_pos sc, if_neg (c := (1 : Int) = 0) (by decide)]
  by_cases hp : prR a b c
  · have yp : ¬ ¬ prR a b c := fun q => q hp
    rw [if_neg (c := ¬ prR a b c) yp]
    by_cases ha : a = -1
    · have hb : b = -1 := by omega
      have hc : c = -1 := by omega
      rw [if_neg (c := ¬ a = -1) (by omega), if_neg (c := ¬ b = -1) (by omega), if_neg (c := ¬ c = -1) (by omega), e1, if_pos (c := ¬ (1 : Int) = 0) (by decide)]
      by_cases h10 : M 0 0 = 10
      · rw [if_neg (c := ¬ M 0 0 = 10) (by omega), if_pos h10]
        split <;> rfl
      · rw [if_pos (c := ¬ M 0 0 = 10) h10, if_neg h10]
        split <;> rfl
    · rw [if_pos (c := ¬ a = -1) ha]
      by_cases hb : b = -1
      · have hc : c = -1 := by omega
        rw [if_neg (c := ¬ b = -1) (by omega), if_neg (c := ¬ c = -1) (by omega), e1, if_pos (c := ¬ (1 : Int) = 0) (by decide)]
        by_cases h10 : M 0 0 = 10
        · rw [if_neg (c := ¬ M 0 0 = 10) (by omega), if_pos h10]
        · rw [if_pos (c := ¬ M 0 0 = 10) h10, if_neg h10]
      · rw [if_pos (c := ¬ b = -1) hb, e1, if_pos (c := ¬ (1 : Int) = 0) (by decide)]
        by_cases h10 : M 0 0 = 10
        · rw [if_neg (c := ¬ M 0 0 = 10) (by omega), if_pos h10]
        · rw [if_pos (c := ¬ M 0 0 = 10) h10, if_neg h10]
  · rw [if_pos (c := ¬ prR a b c) hp]
    by_cases ha : a = -1
    · rw [if_neg (c := ¬ a = -1) (by omega)]
      by_cases hb : b = -1
      · have hc : ¬ c = -1 := by omega
        rw [if_neg (c := ¬ b = -1) (by omega), if_pos (c := ¬ c = -1) hc]
        simp [hb]
      · rw [if_pos (c := ¬ b = -1) hb, e1]
        simp
    · rw [if_pos (c := ¬ a = -1) ha]
      have hb : b = -1 := by omega
      have hc : ¬ c = -1 := by omega
      rw [if_neg (c := ¬ b = -1) (by omega), if_pos (c := ¬ c = -1) hc, e1]
      simp
theorem s_production {RG : Mm → Nat → Int} (hRG : RGok RG) : S_production (Inv RG) := by
  intro MC MR k n a b c i1 i2 i3 i4 hI hk
  obtain ⟨hp, hV, hR, hB⟩ := id hI
  obtain ⟨⟨p1, p2, p3, p4, p5⟩, ⟨q1, q2, q3, q4, q5⟩, q6, q7, p6⟩ := id hp
  have hP := p1.1
  rw [c_productionE, r_productionE]
  by_cases h0 : 0 ≤ n ∧ n ≤ 3
  case neg =>
    refine ⟨(1, 0, MC), (0, up MR 0 87 1), by rw [if_pos h0], ?_, by simp, by simp [up], by simp, hI.thr hRG _ _⟩
    rw [if_pos h0, r_fails, ClS, if_neg (by decide)]
  have y0 : ¬ ¬ (0 ≤ n ∧ n ≤ 3) := fun q => q h0
  rw [if_neg y0, if_neg y0]
  by_cases hr : prR a b c
  case neg =>
    refine ⟨(2, 0, MC), (0, up MR 0 87 2), by rw [if_pos hr], ?_, by simp, by simp [up], by simp, hI.thr hRG _ _⟩
    rw [if_pos hr, r_fails, ClS, if_neg (by decide)]
  have y1 : ¬ ¬ prR a b c := fun q => q hr
  rw [if_neg y1, if_neg y1, q1.1]
  by_cases h10 : MR 0 0 = 10
  case pos =>
    refine ⟨(3, 0, MC), (0, up MR 0 87 3), by rw [if_neg (by omega)], ?_, by simp, by simp [up], by simp, hI.thr hRG _ _⟩
    rw [if_pos h10, r_fails, ClS, if_neg (by decide)]
  rw [if_neg h10, if_pos (by omega), r_fails, ClS, if_pos (by decide)]
  have e00 : up MR 0 87 0 0 0 = MR 0 0 := by simp [up]
  rw [e00, gdE (by omega)]
  generalize hS0 : up (up MR 0 87 0) 1 (MR 0 0).toNat n = S0
  have hMR0 : ∀ j, j ≠ 0 → j ≠ 1 → S0 j = MR j := fun j j1 j2 => by rw [← hS0, up_ne _ _ _ j2, up_ne _ _ _ j1]
  have s00 : ∀ i, i ≠ 87 → S0 0 i = MR 0 i := fun i i1 => by rw [← hS0]; simp [up, i1]
  have s01 : ∀ i, S0 1 i = if i = (MR 0 0).toNat then n else MR 1 i := fun i => by rw [← hS0]; simp [up]
  have hz := p1.2.2.2.2 (MR 0 0) (Int.le_refl _) (by omega)
  obtain ⟨z2, z4, z6, z8, z10⟩ := hz
  -- the class up to the symbols
  have hC0 : ∃ C0, f_X5_addProduction n a b c MC = (Cl (f_X5_appendSymbol (MR 0 0) a C0) fun _ M12 => Cl (f_X5_appendSymbol (MR 0 0) b M12) fun _ M13 => Cl (f_X5_appendSymbol (MR 0 0) c M13) fun _ M14 => some (MR 0 0, M14)) ∧ C0 1 0 = MR 0 0 + 1 ∧ (∀ i, i ≠ 0 → C0 1 i = MC 1 i) ∧ (∀ i, C0 2 i = if i = (MR 0 0).toNat then n else MC 2 i) ∧ (∀ i, C0 3 i = if i = (MR 0 0).toNat then 0 else MC 3 i) ∧ (∀ i, C0 5 i = if i = (MR 0 0).toNat then 0 else MC 5 i) ∧ (∀ i, C0 7 i = if i = (MR 0 0).toNat then 0 else MC 7 i) ∧ (∀ i, C0 9 i = if i = (MR 0 0).toNat then -1 else MC 9 i) ∧ (∀ i, C0 11 i = if i = (MR 0 0).toNat then -1 else MC 11 i) ∧ (∀ i, C0 12 i = if i = (MR 0 0).toNat then -1 else MC 12 i) ∧ ∀ j, j ≠ 1 → j ≠ 2 → j ≠ 3 → j ≠ 5 → j ≠ 7 → j ≠ 9 → j ≠ 11 → j ≠ 12 → C0 j = MC j := by
    refine ⟨up (up (up (up (up (up (up (up MC 1 0 (MR 0 0 + 1)) 2 (MR 0 0).toNat n) 3 (MR 0 0).toNat 0) 5 (MR 0 0).toNat 0) 7 (MR 0 0).toNat 0) 9 (MR 0 0).toNat (-1)) 11 (MR 0 0).toNat (-1)) 12 (MR 0 0).toNat (-1), ?_, ?_, ?_, ?_, ?_, ?_, ?_, ?_, ?_, ?_, ?_⟩
    · unfold f_X5_addProduction
      simp only [LtE]
      rw [q1.1, wrE (by omega) (by omega), c_setEntry_in 10 alenC_2 (by omega) (by omega), ClS, c_setEntry_in 10 alenC_3 (by omega) (by omega), ClS, c_setEntry_in 10 alenC_5 (by omega) (by omega), ClS, c_setEntry_in 10 alenC_7 (by omega) (by omega), ClS, c_setEntry_in 10 alenC_9 (by omega) (by omega), ClS, c_setEntry_in 10 alenC_11 (by omega) (by omega), ClS, c_setEntry_in 10 alenC_12 (by omega) (by omega), ClS]
    · simp [up]
    · intro i hi; simp [up, hi]
    · intro i; simp [up]
    · intro i; simp [up]
    · intro i; simp [up]
    · intro i; simp [up]
    · intro i; simp [up]
    · intro i; simp [up]
    · intro i; simp [up]
    · intro j j1 j2 j3 j4 j5 j6 j7 j8
      rw [up_ne _ _ _ j8, up_ne _ _ _ j7, up_ne _ _ _ j6, up_ne _ _ _ j5, up_ne _ _ _ j4, up_ne _ _ _ j3, up_ne _ _ _ j2, up_ne _ _ _ j1]
  obtain ⟨C0, hC0, k10, k1, k2, k3, k5, k7, k9, k11, k12, kr⟩ := hC0
  have hA0 : AdI C0 S0 (MR 0 0) := by
    unfold AdI
    rw [k3, if_pos rfl, k5, if_pos rfl, k7, if_pos rfl, hMR0 2 (by decide) (by decide), hMR0 4 (by decide) (by decide), hMR0 6 (by decide) (by decide), z2, z4, z6]
    exact ⟨rfl, rfl, rfl, by decide, rfl, rfl, by decide, fun j j0 j1 => by omega, fun j j0 j1 => by omega, fun j j0 j1 => by omega⟩
  obtain ⟨C1, S1, a1, b1, hA1, f1, g1, t1⟩ := ad_step hA0 (by omega) (by rw [s00 0 (by decide)]) (by rw [hMR0 2 (by decide) (by decide), z2]; decide) hr.1
  have t0 : S0 2 (MR 0 0).toNat = 0 := by rw [hMR0 2 (by decide) (by decide), z2]
  rw [t0] at t1
  have h11 : S1 0 0 = MR 0 0 := by rw [g1.1 0 (by decide), s00 0 (by decide)]
  obtain ⟨C2, S2, a2, b2, hA2, f2, g2, t2⟩ := ad_step hA1 (by omega) h11 (by rw [t1]; split <;> decide) hr.2.1
  have h12 : S2 0 0 = MR 0 0 := by rw [g2.1 0 (by decide), h11]
  obtain ⟨C3, S3, a3, b3, hA3, f3, g3, t3⟩ := ad_step hA2 (by omega) h12 (by rw [t2, t1]; (repeat' split) <;> decide) hr.2.2.1
  have h13 : S3 0 0 = MR 0 0 := by rw [g3.1 0 (by decide), h12]
  have fC := (f1.trans f2).trans f3
  have fS := (g1.trans g2).trans g3
  have t9 : S3 2 (MR 0 0).toNat ≤ 3 := by rw [t3, t2, t1]; (repeat' split) <;> decide
  have hcl : (Cl (f_X5_addProduction n a b c MC) fun v M1 => Cl (f_X11_followGrammar M1) fun _ M2 => some (0, v, M2) : Rx) = Cl (f_X11_followGrammar C3) fun _ M2 => some (0, MR 0 0, M2) := by
    rw [hC0, a1, ClS, a2, ClS, a3, ClS, ClS]
  rw [hcl, b1, ClS, b2, ClS, b3, ClS, h13, wrE (by omega) (by omega), r_dropsAll, ClS, sr_ne _ _ (by decide), up_at, wrE (by omega) (by omega), show MR 0 0 + 1 - 1 = MR 0 0 by omega]
  generalize hM1 : up S3 0 0 (MR 0 0 + 1) = M1
  have e0 : ∀ i, i ≠ 87 → i ≠ 0 → M1 0 i = MR 0 i := fun i j1 j2 => by
    rw [← hM1]
    show up S3 0 0 (MR 0 0 + 1) 0 i = _
    have : up S3 0 0 (MR 0 0 + 1) 0 i = S3 0 i := by simp [up, j2]
    rw [this, fS.1 0 (by decide), s00 i j1]
  have e00 : M1 0 0 = MR 0 0 + 1 := by rw [← hM1, up_at]
  have er : ∀ j, j ≠ 0 → M1 j = S3 j := fun j j1 => by rw [← hM1, up_ne _ _ _ j1]
  have er8 : ∀ j, 8 ≤ j → M1 j = MR j := fun j j1 => by rw [er j (by omega), fS.1 j (by omega), hMR0 j (by omega) (by omega)]
  have er1 : ∀ i, M1 1 i = if i = (MR 0 0).toNat then n else MR 1 i := fun i => by rw [er 1 (by decide), fS.1 1 (by decide), s01]
  have es : ∀ k i : Nat, k = 2 ∨ k = 4 ∨ k = 6 → i ≠ (MR 0 0).toNat → M1 k i = MR k i := fun k i hk hi => by rw [er k (by omega), fS.2.1 k i (by omega) hi, hMR0 k (by omega) (by omega)]
  have et : ∀ k i : Nat, k = 3 ∨ k = 5 ∨ k = 7 → ¬ (3 * MR 0 0 ≤ i ∧ (i : Int) < 3 * MR 0 0 + 3) → M1 k i = MR k i := fun k i hk hi => by rw [er k (by omega), fS.2.2 k i (by omega) hi, hMR0 k (by omega) (by omega)]
  have kr9 : ∀ j, 9 ≤ j → C3 j = C0 j := fun j hj => fC.1 j (by omega)
  refine fin_op (RG := RG) (k + 1) rfl rfl (hp.gram (C1 := C3) (M1 := M1) ?_ ?_ (by rw [e00]; omega) (by rw [e0 12 (by decide) (by decide)]; exact Int.le_refl _) (fun i j1 j2 _ => e0 i j1 j2) (fun j hj => er8 j (by omega)) (fun a _ _ => by rw [er8 12 (by decide)]) (fun a a0 a1 => ⟨es 4 _ (by decide) (by omega), es 6 _ (by decide) (by omega)⟩) fun j hj => by rw [kr9 j (by omega), kr j (by omega) (by omega) (by omega) (by omega) (by omega) (by omega) (by omega) (by omega)]) ?_
  · obtain ⟨o1, o2, o3, o4, o5⟩ := id p1
    unfold Okg
    rw [e00, e0 12 (by decide) (by decide), er8 12 (by decide)]
    refine ⟨by omega, o2, o3, fun q q0 q1 => ?_, fun q q0 q1 => ?_⟩
    · by_cases e : q = MR 0 0
      · subst e
        obtain ⟨w1, w2, w3, w4, w5, w6, w7, w8, w9, w10⟩ := hA3
        have hn : nch M1 (MR 0 0).toNat (S3 2 (MR 0 0).toNat).toNat = nch S3 (MR 0 0).toNat (S3 2 (MR 0 0).toNat).toNat := nch_eq _ fun j _ => by rw [er 3 (by decide)]
        unfold OkP
        rw [er1, if_pos rfl, er 2 (by decide), er 3 (by decide), er 4 (by decide), er 5 (by decide), er 6 (by decide), er 7 (by decide), er8 8 (by decide), er8 10 (by decide), z8, z10, hn]
        exact ⟨h0, ⟨w4, t9⟩, w5, w6, w7, fun j j0 j1 => (w8 j j0 j1).1, fun j j0 j1 => (w9 j j0 j1).1, fun j j0 j1 => (w10 j j0 j1).1, Or.inl rfl, Or.inl rfl⟩
      · have hq := o4 q q0 (by omega)
        obtain ⟨w1, w2, w3, w4, w5, w6, w7, w8, w9, w10⟩ := hq
        have hn : nch M1 q.toNat (MR 2 q.toNat).toNat = nch MR q.toNat (MR 2 q.toNat).toNat := nch_eq _ fun j hj => et 3 _ (by decide) (by omega)
        unfold OkP
        rw [er1, if_neg (by omega), es 2 _ (by decide) (by omega), es 4 _ (by decide) (by omega), es 6 _ (by decide) (by omega), er8 8 (by decide), er8 10 (by decide), er8 9 (by decide), er8 11 (by decide), hn, e00, e0 12 (by decide) (by decide)]
        refine ⟨w1, w2, w3, w4, w5, fun j j0 j1 => ?_, fun j j0 j1 => ?_, fun j j0 j1 => ?_, ?_, ?_⟩
        · rw [et 3 _ (by decide) (by omega)]; exact w6 j j0 j1
        · rw [et 5 _ (by decide) (by omega)]; exact w7 j j0 j1
        · rw [et 7 _ (by decide) (by omega)]; exact w8 j j0 j1
        · rcases w9 with w | w
          · exact Or.inl w
          · refine Or.inr ⟨w.1, by omega, fun j j0 j1 => ?_⟩
            rw [es 4 _ (by decide) (by omega)] at j1
            exact w.2.2 j j0 j1
        · rcases w10 with w | w
          · exact Or.inl w
          · refine Or.inr ⟨w.1, by omega, ?_, ?_, w.2.2.2.2.1, w.2.2.2.2.2⟩
            · rw [es 4 _ (by decide) (by omega)]; exact w.2.2.1
            · rw [es 6 _ (by decide) (by omega)]; exact w.2.2.2.1
    · have := o5 q (by omega) q1
      rw [es 2 _ (by decide) (by omega), es 4 _ (by decide) (by omega), es 6 _ (by decide) (by omega), er8 8 (by decide), er8 10 (by decide)]
      exact this
  · obtain ⟨w1, w2, w3, w4, w5⟩ := id q1
    unfold CG
    rw [e00, e0 12 (by decide) (by decide), er8 12 (by decide), er8 8 (by decide), er8 9 (by decide), er8 10 (by decide), er8 11 (by decide), fC.1 1 (by decide), fC.1 2 (by decide), kr9 9 (by decide), kr9 10 (by decide), kr9 11 (by decide), kr9 12 (by decide), kr9 13 (by decide), k10, k1 1 (by decide)]
    refine ⟨rfl, w2, fun a a0 a1 => ?_, fun q q0 q9 => ?_, fun i hi => ?_⟩
    · rw [kr 13 (by decide) (by decide) (by decide) (by decide) (by decide) (by decide) (by decide) (by decide)]; exact w3 a a0 a1
    · rw [k2, k9, k11, k12, er1]
      by_cases e : q = MR 0 0
      · subst e
        obtain ⟨x1, x2, x3, x4, x5, x6, x7, x8, x9, x10⟩ := hA3
        rw [if_pos rfl, if_pos rfl, if_pos rfl, if_pos rfl, if_pos rfl, er 2 (by decide), er 3 (by decide), er 4 (by decide), er 5 (by decide), er 6 (by decide), er 7 (by decide), z8, z10]
        exact ⟨rfl, x1, x2, x3, rfl, rfl, fun h => absurd rfl h, fun j j0 j1 => (x8 j j0 j1).2, fun j j0 j1 => (x9 j j0 j1).2, fun j j0 j1 => (x10 j j0 j1).2⟩
      · have hq := w4 q q0 (by omega)
        obtain ⟨x1, x2, x3, x4, x5, x6, x7, x8, x9, x10⟩ := hq
        have o4 := p1.2.2.2.1 q q0 (by omega)
        have u2 := o4.2.1; have u6 := o4.2.2.2.1; have u4 := o4.2.2.2.2.1
        have fi : ¬ q.toNat = (MR 0 0).toNat := by omega
        rw [if_neg fi, if_neg fi, if_neg fi, if_neg fi, if_neg fi, es 2 _ (by decide) fi, es 4 _ (by decide) fi, es 6 _ (by decide) fi, fC.2.1 3 _ (by decide) fi, fC.2.1 5 _ (by decide) fi, fC.2.1 7 _ (by decide) fi, k3, if_neg fi, k5, if_neg fi, k7, if_neg fi]
        refine ⟨x1, x2, x3, x4, x5, x6, x7, fun j j0 j1 => ?_, fun j j0 j1 => ?_, fun j j0 j1 => ?_⟩
        · rw [et 3 _ (by decide) (by omega), fC.2.2 4 _ (by decide) (by omega), kr 4 (by decide) (by decide) (by decide) (by decide) (by decide) (by decide) (by decide) (by decide)]; exact x8 j j0 j1
        · rw [et 5 _ (by decide) (by omega), fC.2.2 6 _ (by decide) (by omega), kr 6 (by decide) (by decide) (by decide) (by decide) (by decide) (by decide) (by decide) (by decide)]; exact x9 j j0 j1
        · rw [et 7 _ (by decide) (by omega), fC.2.2 8 _ (by decide) (by omega), kr 8 (by decide) (by decide) (by decide) (by decide) (by decide) (by decide) (by decide) (by decide)]; exact x10 j j0 j1
    · rw [kr 10 (by decide) (by decide) (by decide) (by decide) (by decide) (by decide) (by decide) (by decide)]; exact w5 i hi
  · intro M2 h2
    refine ⟨Or.inl rfl, ?_, fun _ => rfl, h2⟩
    simp only
    rw [sr_ne _ _ (by decide), ← hM1]
    have : up S3 0 0 (MR 0 0 + 1) 0 87 = S3 0 87 := by simp [up]
    rw [this, fS.1 0 (by decide), ← hS0]
    simp [up]
