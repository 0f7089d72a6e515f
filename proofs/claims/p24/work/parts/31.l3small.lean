theorem c8_nowOf {h : Nat} {a : Int} {M : Mm} : f_X8_nowOf h a M = some (if 0 ≤ a ∧ a < 30 then M (h + 4) a.toNat else -1, M) := by
  unfold f_X8_nowOf Lt gd; grind
theorem c8_readAsOf {h : Nat} {a : Int} {M : Mm} : f_X8_readAsOf h a M = some (if 0 ≤ a ∧ a < 30 then M (h + 3) a.toNat else -1, M) := by
  unfold f_X8_readAsOf Lt gd; grind
theorem c8_parentOf {h : Nat} {a : Int} {M : Mm} : f_X8_parentOf h a M = some (if 0 ≤ a ∧ a < 30 then M (h + 1) a.toNat else -1, M) := by
  unfold f_X8_parentOf Lt gd; grind
theorem c8_placeOf {h : Nat} {a : Int} {M : Mm} : f_X8_placeOf h a M = some (if 0 ≤ a ∧ a < 30 then M (h + 2) a.toNat else -1, M) := by
  unfold f_X8_placeOf Lt gd; grind
theorem g_mustNode {M S : Mm} (hN : CN M S) (a : Int) {k : Int → Mm → Rx} : Clx (f_X11_mustBeNode a M) k = if 0 ≤ a ∧ a < S 0 35 then k 0 M else some (1, 0, M) := by
  unfold f_X11_mustBeNode
  simp only [LtE]
  rw [hN.1]
  by_cases h : 0 ≤ a ∧ a < S 0 35
  · rw [if_neg (by omega), if_pos h.2, ClxS, if_pos rfl, if_pos h]
  · rw [if_neg (c := 0 ≤ a ∧ a < S 0 35) h]
    by_cases h1 : a < 0
    · rw [if_pos h1, ClxS, if_neg (by decide)]
    · rw [if_neg h1, if_neg (by omega), ClxS, if_neg (by decide)]
theorem g_mustAspect {M : Mm} (a : Int) {k : Int → Mm → Rx} : Clx (f_X11_mustBeAspect a M) k = if 0 ≤ a ∧ a ≤ 3 then k 0 M else some (1, 0, M) := by
  unfold f_X11_mustBeAspect
  simp only [LtE]
  by_cases h : 0 ≤ a ∧ a ≤ 3
  · rw [if_neg (by omega), if_pos (by omega), ClxS, if_pos rfl, if_pos h]
  · rw [if_neg (c := 0 ≤ a ∧ a ≤ 3) h]
    by_cases h1 : a < 0
    · rw [if_pos h1, ClxS, if_neg (by decide)]
    · rw [if_neg h1, if_neg (by omega), ClxS, if_neg (by decide)]
theorem s_none (RG : Mm → Nat → Int) : S_none (Inv RG) := fun _ _ _ h _ => h
theorem r_tells (a : Int) (M : Mm) : f_X12_tells a M = some (a, up M 0 87 0) := by
  unfold f_X12_tells Lt; rfl
theorem s_found {RG : Mm → Nat → Int} (hRG : RGok RG) : S_found (Inv RG) := by
  intro MC MR k hI hk
  refine ⟨(MC 299 0, MC), (MR 0 67, up MR 0 87 0), ?_, ?_, hI.1.2.2.2.1.1, hI.thr hRG _ _⟩
  · unfold f_X11_found; rw [LtE]
  · unfold f_X12_found; rw [LtE, r_tells, ClS]
theorem s_cost {RG : Mm → Nat → Int} (hRG : RGok RG) : S_cost (Inv RG) := by
  intro MC MR k hI hk
  have hN := hI.1.2.1.2.2.2.2
  have hO := hI.1.1.2.2.2.2
  refine ⟨(MR 0 36, MC), (MR 0 36, up MR 0 87 0), ?_, ?_, rfl, hI.thr hRG _ _⟩
  · unfold f_X11_cost; simp only [LtE]
    rw [hN.1]
    by_cases h : MR 0 35 = 0
    · rw [if_neg (by omega), hO.2.1.1 h]
    · rw [if_pos h, hN.2.1 h]
  · unfold f_X12_cost; rw [LtE, r_tells, ClS]
theorem s_node {RG : Mm → Nat → Int} (hRG : RGok RG) : S_node (Inv RG) := by
  intro MC MR k a i1 hI hk
  obtain ⟨hp, hV, hR, hB⟩ := id hI
  obtain ⟨⟨p1, p2, p3, p4, p5⟩, ⟨q1, q2, q3, q4, q5⟩, q6, q7, p6⟩ := id hp
  have hP := p1.1
  have hN := p5.1
  by_cases h : 0 ≤ a ∧ a < MR 0 35
  case neg =>
    refine ⟨(1, 0, MC), (0, up MR 0 87 1), ?_, ?_, by simp, by simp [up], by simp, hI.thr hRG _ _⟩
    · unfold f_X11_node; rw [g_mustNode q5, if_neg h]
    · unfold f_X12_node; simp only [LtE]
      rw [r_isNode hN, ClS, if_neg h, if_pos rfl, r_fails, ClS, if_neg (by decide)]
  have ho := p5.2.2 a.toNat (by omega)
  have hc := q5.2.2 a.toNat (by omega)
  have h4 := chl_le p1 ho.1
  have h30 := ho.1
  have hpar : -1 ≤ MR 32 a.toNat ∧ MR 32 a.toNat < 30 := by
    by_cases e : a.toNat = 0
    · have := (ho.2.2.2.2.2.1 e).1; omega
    · have := ho.2.2.2.2.2.2.1 (by omega); omega
  refine ⟨(0, 1000 * (MR 32 a.toNat + 1) + 10 * MR 30 a.toNat + MR 4 (MR 30 a.toNat).toNat, MC), (1000 * (MR 32 a.toNat + 1) + 10 * MR 30 a.toNat + MR 4 (MR 30 a.toNat).toNat, up MR 0 87 0), ?_, ?_, by simp, by simp [up], by simp, hI.thr hRG _ _⟩
  · unfold f_X11_node
    rw [g_mustNode q5, if_pos h, c8_readAsOf, ClS, c8_parentOf, ClS, if_pos (by omega), if_pos (by omega), hc.1, hc.2.2.1, g_childCount q1 p1 ho.1]
    simp only [LtE, ClS]
    simp (disch := omega) only [wrE]
  · unfold f_X12_node
    simp only [LtE]
    rw [r_isNode hN, ClS, if_pos h, if_neg (by decide), r_fails, ClS, if_pos (by decide)]
    rw [up_ne _ _ _ (by decide), up_ne _ _ _ (by decide), up_ne _ _ _ (by decide)]
    simp (disch := omega) only [wrE, gdE]
theorem s_isKept {RG : Mm → Nat → Int} (hRG : RGok RG) : S_isKept (Inv RG) := by
  intro MC MR k n a i1 i2 hI hk
  obtain ⟨hp, hV, hR, V, H, b1, b2, b3⟩ := id hI
  obtain ⟨⟨p1, p2, p3, p4, p5⟩, ⟨q1, q2, q3, q4, q5⟩, q6, q7, p6⟩ := id hp
  have hA := p1.2.1
  have hN := p5.1
  by_cases h : (0 ≤ n ∧ n < MR 0 35) ∧ (0 ≤ a ∧ a < MR 0 12)
  case neg =>
    refine ⟨(1, 0, MC), (0, up MR 0 87 1), ?_, ?_, by simp, by simp [up], by simp, hI.thr hRG _ _⟩
    · unfold f_X11_isKept; rw [g_mustNode q5]
      by_cases h1 : 0 ≤ n ∧ n < MR 0 35
      · rw [if_pos h1, g_mustAttr q1, if_neg (fun q => h ⟨h1, q⟩)]
      · rw [if_neg h1]
    · unfold f_X12_isKept f_X12_isPair; simp only [LtE]
      rw [r_isNode hN, ClS]
      by_cases h1 : 0 ≤ n ∧ n < MR 0 35
      · rw [if_pos h1, if_neg (by decide), r_isAttribute hA, ClS, if_neg (fun q => h ⟨h1, q⟩), if_pos rfl, ClS, if_pos rfl, r_fails, ClS, if_pos (by decide)]
      · rw [if_neg h1, if_pos rfl, ClS, if_pos rfl, r_fails, ClS, if_pos (by decide)]
  obtain ⟨h1, h2⟩ := h
  have hb := b3.2.1 n.toNat a.toNat (by omega) (by omega)
  have hp6 := p6.2.2.2 n.toNat (by omega)
  have hk50 := b3.1 (6 * (MR 36 n.toNat).toNat + a.toNat) (by omega)
  have hck := b2 (6 * n.toNat + a.toNat) (by omega)
  refine ⟨(0, if H (6 * n.toNat + a.toNat) ≠ 0 then 1 else 0, MC), (if H (6 * n.toNat + a.toNat) ≠ 0 then 1 else 0, up MR 0 87 0), ?_, ?_, by simp, by simp [up], by simp, hI.thr hRG _ _⟩
  · unfold f_X11_isKept
    rw [g_mustNode q5, if_pos h1, g_mustAttr q1, if_pos h2, c_slotOf (by omega) (by omega), ClS, c3_has, ClS, show (6 * n + a).toNat = 6 * n.toNat + a.toNat by omega, hck.1]
    congr 2
    by_cases e : H (6 * n.toNat + a.toNat) = 0
    · rw [if_neg (by omega), if_neg (by simpa using e)]
    · rw [if_pos (by omega), if_pos e]
  · unfold f_X12_isKept f_X12_isPair; simp only [LtE]
    rw [r_isNode hN, ClS, if_pos h1, if_neg (by decide), r_isAttribute hA, ClS, if_pos h2, if_neg (by decide), ClS, if_neg (by decide), r_fails, ClS, if_neg (by decide)]
    rw [up_ne _ _ _ (by decide), up_ne _ _ _ (by decide)]
    simp (disch := omega) only [wrE, gdE]
    rw [show (6 * MR 36 n.toNat + a).toNat = 6 * (MR 36 n.toNat).toNat + a.toNat by omega]
    by_cases e : H (6 * n.toNat + a.toNat) = 0
    · have : MR 50 (6 * (MR 36 n.toNat).toNat + a.toNat) = 0 := by
        rcases hk50 with w | w
        · exact w
        · exact absurd e (hb.1.mp w)
      rw [if_pos this, if_neg (by simpa using e)]
    · have := hb.1.mpr e
      rw [if_neg (by omega), if_pos e]
theorem Inv.draft {RG : Mm → Nat → Int} {MC MR MC' MR' : Mm} {k : Nat} (hRG : RGok RG) (h : Inv RG MC MR k) (k' : Nat)
    (er : ∀ j, j ≠ 0 → ¬ (13 ≤ j ∧ j ≤ 15) → MR' j = MR j) (es : ∀ i, i ≠ 14 → i ≠ 15 → i ≠ 87 → MR' 0 i = MR 0 i) (ec : ∀ j, ¬ (14 ≤ j ∧ j ≤ 21) → MC' j = MC j) (hd : Okd MR') (hcd : CD MC' MR') : Inv RG MC' MR' k' := by
  obtain ⟨⟨⟨p1, p2, p3, p4, p5⟩, ⟨q1, q2, q3, q4, q5⟩, q6, q7, p6⟩, hV, hR, V, H, b1, b2, b3⟩ := h
  have z0 := es 0 (by decide) (by decide) (by decide)
  have z12 := es 12 (by decide) (by decide) (by decide)
  have z19 := es 19 (by decide) (by decide) (by decide)
  have z33 := es 33 (by decide) (by decide) (by decide)
  have z35 := es 35 (by decide) (by decide) (by decide)
  have z36 := es 36 (by decide) (by decide) (by decide)
  refine ⟨⟨⟨?_, hd, ?_, ?_, ?_⟩, ⟨?_, hcd, ?_, ?_, ?_⟩, ?_, ?_, ?_⟩, ?_, ?_, ⟨V, H, ?_, ?_, ?_⟩⟩
  · exact p1.of z0 z12 fun k k1 k2 => er k (by omega) (by omega)
  · exact p3.of (by rw [z0]; exact Int.le_refl _) (by rw [z12]; exact Int.le_refl _) z19 (fun k k1 k2 => er k (by omega) (by omega)) (fun a _ _ => by rw [er 12 (by decide) (by decide)]) (fun a _ _ => by rw [er 4 (by decide) (by decide)])
  · exact p4.of z33 (er 29 (by decide) (by decide))
  · exact p5.of (by rw [z0]; exact Int.le_refl _) z35 z36 (fun k k1 k2 => er k (by omega) (by omega)) (fun p _ _ => by rw [er 4 (by decide) (by decide), er 6 (by decide) (by decide)]; exact ⟨rfl, rfl⟩)
  · have := q1.of (M' := MC') fun k k1 k2 => ec k (by omega)
    unfold CG at this ⊢
    rw [z0, z12, er 1 (by decide) (by decide), er 2 (by decide) (by decide), er 3 (by decide) (by decide), er 4 (by decide) (by decide), er 5 (by decide) (by decide), er 6 (by decide) (by decide), er 7 (by decide) (by decide), er 8 (by decide) (by decide), er 9 (by decide) (by decide), er 10 (by decide) (by decide), er 11 (by decide) (by decide), er 12 (by decide) (by decide)]
    exact this
  · exact (q3.of (M' := MC') (fun k k1 k2 k3 k4 => ec k (by omega)) p3.1.2).of2 z19 fun k k1 k2 => er k (by omega) (by omega)
  · exact q4.of z33 (er 29 (by decide) (by decide)) fun k k1 k2 => ec k (by omega)
  · exact q5.of p5 z35 z36 (fun k k1 k2 => er k (by omega) (by omega)) (fun p _ _ => by rw [er 4 (by decide) (by decide)]) fun k k1 k2 => ec k (by omega)
  · exact q6.of fun k hk => ec k (by omega)
  · rw [ec 299 (by decide), es 67 (by decide) (by decide) (by decide)]; exact q7
  · exact p6.of z35 (es 68 (by decide) (by decide) (by decide)) (es 79 (by decide) (by decide) (by decide)) (er 51 (by decide) (by decide)) (er 36 (by decide) (by decide))
  · have hV' : CV MC' MR := by
      unfold CV CVw CSg CGi CRs at hV ⊢
      rw [ec 23 (by decide), ec 24 (by decide), ec 28 (by decide), ec 29 (by decide), ec 30 (by decide), ec 31 (by decide), ec 32 (by decide)]
      exact hV
    exact hV'.of z0 z12 z19 fun k hk => er k (by omega) (by omega)
  · have hrg : RG MR' = RG MR := by
      exact hRG MR MR' (fun j j1 j2 j3 => er j (by omega) fun q => j3 (Or.inl q)) fun i hi => es i (by omega) (by omega) (by omega)
    unfold CR at hR ⊢
    rw [hrg, ec 676 (by decide), ec 309 (by decide)]
    exact hR
  · unfold Okb at b1 ⊢
    rw [z35, z12, er 12 (by decide) (by decide), er 32 (by decide) (by decide)]; exact b1
  · unfold CK at b2 ⊢
    rw [ec 300 (by decide), ec 301 (by decide)]; exact b2
  · unfold RB pv HR at b3 ⊢
    rw [z35, er 36 (by decide) (by decide), er 50 (by decide) (by decide), er 52 (by decide) (by decide), er 53 (by decide) (by decide), er 54 (by decide) (by decide)]
    exact b3
theorem s_dropSteps {RG : Mm → Nat → Int} (hRG : RGok RG) : S_dropSteps (Inv RG) := by
  intro MC MR k hI hk
  have q2 := hI.1.2.1.2.1
  refine ⟨(MR 0 14, up (up MC 14 4 0) 14 5 0), (MR 0 14, up (up (up MR 0 87 0) 0 14 0) 0 15 0), ?_, ?_, rfl, hI.draft hRG _ (fun j j1 j2 => ?_) (fun i i1 i2 i3 => ?_) (fun j hj => ?_) ?_ ?_⟩
  · unfold f_X11_dropSteps f_X0_clear
    simp only [LtE, ClS]
    rw [q2.1]
  · unfold f_X12_dropSteps
    simp only [LtE]
    simp [up]
  · simp only; rw [up_ne _ _ _ j1, up_ne _ _ _ j1, up_ne _ _ _ j1]
  · simp [up, i1, i2, i3]
  · simp only; rw [up_ne _ _ _ (by omega), up_ne _ _ _ (by omega)]
  · have e14 : (up (up (up MR 0 87 0) 0 14 0) 0 15 0) 0 14 = 0 := by simp [up]
    have e15 : (up (up (up MR 0 87 0) 0 14 0) 0 15 0) 0 15 = 0 := by simp [up]
    unfold Okd
    simp only
    rw [e14, e15]
    exact ⟨by decide, fun k hk => absurd hk (Nat.not_lt_zero _), rfl⟩
  · have e14 : (up (up (up MR 0 87 0) 0 14 0) 0 15 0) 0 14 = 0 := by simp [up]
    have e15 : (up (up (up MR 0 87 0) 0 14 0) 0 15 0) 0 15 = 0 := by simp [up]
    unfold CD
    simp only
    rw [e14, e15]
    refine ⟨by simp [up], by simp [up], ⟨fun k hk => absurd hk (Nat.not_lt_zero _), fun r hr => by cases hr⟩, fun i hi => absurd hi (Nat.not_lt_zero _)⟩
theorem c_turn {M : Mm} {a : Int} (ha : 0 ≤ a ∧ a ≤ 3) : f_X1_turnAspect a M = some (if M 27 a.toNat = 0 then 0 else 1, up M 27 a.toNat (if M 27 a.toNat = 0 then 1 else 0)) := by
  unfold f_X1_turnAspect
  simp only [LtE]
  rw [if_neg (by omega), if_pos (by omega), gdE (by omega)]
  by_cases h : M 27 a.toNat = 0
  · rw [if_neg (c := ¬ M 27 a.toNat = 0) (by omega), gdE (by omega), gdE (by omega), up_at, if_pos (by decide), if_pos h, if_pos h]
  · rw [if_pos (c := ¬ M 27 a.toNat = 0) h, gdE (by omega), gdE (by omega), up_at, if_neg (by decide), if_neg h, if_neg h]
theorem s_toggle {RG : Mm → Nat → Int} (hRG : RGok RG) : S_toggle (Inv RG) := by
  intro MC MR k a i1 hI hk
  obtain ⟨hp, hV, hR, hB⟩ := id hI
  obtain ⟨⟨p1, p2, p3, p4, p5⟩, ⟨q1, q2, q3, q4, q5⟩, q6, q7, p6⟩ := id hp
  by_cases h : 0 ≤ a ∧ a ≤ 3
  case neg =>
    refine ⟨(1, 0, MC), (0, up MR 0 87 1), ?_, ?_, by simp, by simp [up], by simp, hI.thr hRG _ _⟩
    · unfold f_X11_toggle; rw [g_mustAspect, if_neg h]
    · unfold f_X12_toggle; simp only [LtE]
      rw [r_isIn, ClS, if_neg h, if_pos rfl, r_fails, ClS, if_neg (by decide)]
  have e27 := q3.2.1 a.toNat (by omega)
  have hw : ∀ w : Int, w = (if MR 27 a.toNat = 0 then 1 else 0) → w = 0 ∨ w = 1 := fun w hw => by rw [hw]; split <;> simp
  generalize hwv : (if MR 27 a.toNat = 0 then (1 : Int) else 0) = w at hw
  have hw := hw w rfl
  generalize hvv : (if MR 27 a.toNat = 0 then (0 : Int) else 1) = v
  have hcl : f_X11_toggle a MC = Cl (f_X11_followGrammar (up MC 27 a.toNat w)) fun _ M9 => some (0, v, M9) := by
    unfold f_X11_toggle
    rw [g_mustAspect, if_pos h, c_turn h, ClS, e27, hwv, hvv]
  generalize hM1 : up (up MR 0 87 0) 27 a.toNat w = M1
  have hrf : f_X12_toggle a MR = some (v, sr M1 50 fun i => if i < 360 then 0 else M1 50 i) := by
    unfold f_X12_toggle
    simp only [LtE]
    rw [r_isIn, ClS, if_pos h, if_neg (by decide), r_fails, ClS, if_pos (by decide), gdE (by omega), up_ne _ _ _ (by decide)]
    by_cases h0 : MR 27 a.toNat = 0
    · rw [if_pos h0] at hwv hvv
      subst hwv hvv
      rw [if_neg (by omega), gdE (by omega), hM1, r_dropsAll, ClS, gdE (by omega), sr_ne _ _ (by decide), ← hM1, up_at, if_pos (by decide)]
    · rw [if_neg h0] at hwv hvv
      subst hwv hvv
      rw [if_pos h0, gdE (by omega), hM1, r_dropsAll, ClS, gdE (by omega), sr_ne _ _ (by decide), ← hM1, up_at, if_neg (by decide)]
  have er : ∀ j, j ≠ 0 → j ≠ 27 → M1 j = MR j := fun j j1 j2 => by rw [← hM1, up_ne _ _ _ j2, up_ne _ _ _ j1]
  have e0 : ∀ i, i ≠ 87 → M1 0 i = MR 0 i := fun i j1 => by rw [← hM1]; simp [up, j1]
  have e2 : ∀ i, M1 27 i = if i = a.toNat then w else MR 27 i := fun i => by rw [← hM1]; simp [up]
  have em : ∀ j, j ≠ 27 → (up MC 27 a.toNat w) j = MC j := fun j j1 => up_ne _ _ _ j1
  have em2 : ∀ i, (up MC 27 a.toNat w) 27 i = if i = a.toNat then w else MC 27 i := fun i => by simp [up]
  generalize up MC 27 a.toNat w = C1 at hcl em em2
  refine fin_op (RG := RG) (k + 1) hcl hrf ⟨⟨?_, ?_, ?_, ?_, ?_⟩, ⟨?_, ?_, ?_, ?_, ?_⟩, ?_, ?_, ?_⟩ ?_
  · exact p1.of (e0 0 (by decide)) (e0 12 (by decide)) fun k k1 k2 => er k (by omega) (by omega)
  · exact p2.of (by rw [e0 12 (by decide)]; exact Int.le_refl _) (e0 14 (by decide)) (e0 15 (by decide)) fun k k1 k2 => er k (by omega) (by omega)
  · refine ⟨by rw [e0 19 (by decide)]; exact p3.1, fun j hj => ?_, fun i hi => ?_⟩
    · rw [e0 19 (by decide)] at hj
      have := p3.2.1 j hj
      unfold OkE eK eA eB eN StepsOk StepOk at *
      rw [e0 0 (by decide), e0 12 (by decide), er 12 (by decide) (by decide), er 4 (by decide) (by decide), er 16 (by decide) (by decide), er 17 (by decide) (by decide), er 18 (by decide) (by decide), er 19 (by decide) (by decide), er 20 (by decide) (by decide), er 21 (by decide) (by decide), er 22 (by decide) (by decide), er 23 (by decide) (by decide), er 24 (by decide) (by decide), er 25 (by decide) (by decide), er 26 (by decide) (by decide)]
      exact this
    · rw [e2]; split
      · exact hw
      · exact p3.2.2 i hi
  · exact p4.of (e0 33 (by decide)) (er 29 (by decide) (by decide))
  · exact p5.of (by rw [e0 0 (by decide)]; exact Int.le_refl _) (e0 35 (by decide)) (e0 36 (by decide)) (fun k k1 k2 => er k (by omega) (by omega)) (fun p _ _ => by rw [er 4 (by decide) (by decide), er 6 (by decide) (by decide)]; exact ⟨rfl, rfl⟩)
  · have := q1.of (M' := C1) fun k k1 k2 => em k (by omega)
    unfold CG at this ⊢
    rw [e0 0 (by decide), e0 12 (by decide), er 1 (by decide) (by decide), er 2 (by decide) (by decide), er 3 (by decide) (by decide), er 4 (by decide) (by decide), er 5 (by decide) (by decide), er 6 (by decide) (by decide), er 7 (by decide) (by decide), er 8 (by decide) (by decide), er 9 (by decide) (by decide), er 10 (by decide) (by decide), er 11 (by decide) (by decide), er 12 (by decide) (by decide)]
    exact this
  · exact q2.of (e0 14 (by decide)) (e0 15 (by decide)) (fun k k1 k2 => er k (by omega) (by omega)) fun k k1 k2 => em k (by omega)
  · obtain ⟨w1, w2, w3⟩ := q3
    refine ⟨by rw [em 25 (by decide), e0 19 (by decide)]; exact w1, fun i hi => ?_, fun j hj => ?_⟩
    · rw [em2, e2]; split
      · rfl
      · exact w2 i hi
    · rw [e0 19 (by decide)] at hj
      have := w3 j hj
      unfold CSt eK eA eB eN at *
      rw [em (33 + 8 * j) (by omega), em (33 + 8 * j + 1) (by omega), em (33 + 8 * j + 2) (by omega), em (33 + 8 * j + 3) (by omega), em (33 + 8 * j + 4) (by omega), em (33 + 8 * j + 5) (by omega), em (33 + 8 * j + 6) (by omega), er 16 (by decide) (by decide), er 17 (by decide) (by decide), er 18 (by decide) (by decide), er 19 (by decide) (by decide), er 20 (by decide) (by decide), er 21 (by decide) (by decide), er 22 (by decide) (by decide), er 23 (by decide) (by decide)]
      exact this
  · exact q4.of (e0 33 (by decide)) (er 29 (by decide) (by decide)) fun k k1 k2 => em k (by omega)
  · exact q5.of p5 (e0 35 (by decide)) (e0 36 (by decide)) (fun k k1 k2 => er k (by omega) (by omega)) (fun p _ _ => by rw [er 4 (by decide) (by decide)]) fun k k1 k2 => em k (by omega)
  · exact q6.of fun k hk => em k (by omega)
  · rw [em 299 (by decide), e0 67 (by decide)]; exact q7
  · exact p6.of (e0 35 (by decide)) (e0 68 (by decide)) (e0 79 (by decide)) (er 51 (by decide) (by decide)) (er 36 (by decide) (by decide))
  · intro M2 h2
    refine ⟨Or.inl rfl, ?_, fun _ => rfl, h2⟩
    simp only
    rw [sr_ne _ _ (by decide), ← hM1]
    simp [up]
theorem r_counts {M : Mm} (hO : Oke M) {j : Nat} (hj : (j : Int) < M 0 19) (p a t : Int) : f_X12_counts j p a t M = some (if mt M p a t j = true then 1 else 0, M) := by
  have h1 := hO.1
  have h2 := (hO.2.1 j hj).2.2.1
  unfold f_X12_counts
  simp only [LtE, Int.toNat_natCast]
  rw [gdE (by omega)]
  by_cases c1 : M 16 j = p
  case neg => rw [if_pos c1, if_neg (by rw [mt_iff]; exact fun q => c1 q.1)]
  rw [if_neg (by simpa using c1), gdE (by omega)]
  by_cases c2 : M 17 j = a
  case neg => rw [if_pos c2, if_neg (by rw [mt_iff]; exact fun q => c2 q.2.1)]
  rw [if_neg (by simpa using c2), gdE (by omega)]
  by_cases c3 : M 18 j = t
  case neg => rw [if_pos c3, if_neg (by rw [mt_iff]; exact fun q => c3 q.2.2.1)]
  rw [if_neg (by simpa using c3), gdE (by omega), gdE (by omega)]
  by_cases c4 : M 27 (M 19 j).toNat = 0
  case neg => rw [if_pos c4, if_neg (by rw [mt_iff]; exact fun q => c4 q.2.2.2)]
  rw [if_neg (by simpa using c4), if_pos (mt_iff.mpr ⟨c1, c2, c3, c4⟩)]
def cfj (S : Mm) (k j : Nat) : Bool := decide (j ≠ k) && (decide (S 18 k ≠ -2) && (decide (S 27 (S 19 k).toNat = 0) && mt S (S 16 k) (S 17 k) (S 18 k) j))
def cfa (S : Mm) (k : Nat) : Nat → Bool
  | 0 => false
  | n + 1 => cfa S k n || cfj S k n
def cnf (S : Mm) (n : Nat) : Nat → Int
  | 0 => 0
  | k + 1 => cnf S n k + (if cfa S k n then 1 else 0)
theorem cnf_le (S : Mm) (n : Nat) : ∀ k, 0 ≤ cnf S n k ∧ cnf S n k ≤ k := by
  intro k
  induction k with
  | zero => exact ⟨Int.le_refl _, Int.le_refl _⟩
  | succ k ih => unfold cnf; split <;> omega
theorem cfa_iff (S : Mm) (k : Nat) : ∀ n, cfa S k n = true ↔ ∃ j, j < n ∧ cfj S k j = true := by
  intro n
  induction n with
  | zero => exact ⟨fun h => (by cases h), fun ⟨j, h, _⟩ => absurd h (Nat.not_lt_zero _)⟩
  | succ n ih =>
    unfold cfa
    rw [Bool.or_eq_true, ih]
    constructor
    · rintro (⟨j, h1, h2⟩ | h)
      · exact ⟨j, by omega, h2⟩
      · exact ⟨n, by omega, h⟩
    · rintro ⟨j, h1, h2⟩
      by_cases e : j = n
      · subst e; exact Or.inr h2
      · exact Or.inl ⟨j, by omega, h2⟩
theorem r_conflicts {M : Mm} (hO : Oke M) : f_X12_conflicts M = some (cnf M (M 0 19).toNat (M 0 19).toNat, up M 0 87 0) := by
  have hN := hO.1
  unfold f_X12_conflicts
  rw [LtE]
  refine Lp_for (M 0 19).toNat (fun k => (cnf M (M 0 19).toNat k, (k : Int), M)) (fun rc k hk => ?_) (fun rc => ?_) (FU_lt (by omega)) rfl
  · simp only [f_X12_conflicts_L4_64, LtE]
    rw [if_neg (by omega)]
    have ho := (hO.2.1 k (by omega)).2.2.1
    refine Lp_for (M 0 19).toNat (fun j => (cnf M (M 0 19).toNat k, (k : Int), if cfa M k j then 1 else 0, (j : Int), M)) (fun rc2 j hj => ?_) (fun rc2 => ?_) (FU_lt (by omega)) rfl
    · simp only [f_X12_conflicts_L17_63, LtE]
      rw [if_neg (by omega), wrE (by omega) (by omega)]
      have hnext : ((j : Int) + 1) = ((j + 1 : Nat) : Int) := by omega
      rw [hnext]
      cases h1 : cfa M k j with
      | true =>
        rw [if_pos (by simp)]
        have : cfa M k (j + 1) = true := by unfold cfa; rw [h1]; rfl
        rw [this]; rfl
      | false =>
        rw [if_neg (by simp)]
        have h2 : cfa M k (j + 1) = cfj M k j := by unfold cfa; rw [h1]; rfl
        rw [h2]
        by_cases e1 : j = k
        · have : cfj M k j = false := by unfold cfj; simp [e1]
          rw [if_pos (by omega), this]; rfl
        rw [if_neg (by omega), gdE (by omega), Int.toNat_natCast]
        by_cases e2 : M 18 k = -2
        · have : cfj M k j = false := by unfold cfj; simp [e2]
          rw [if_pos e2, this]; rfl
        rw [if_neg e2, gdE (by omega), gdE (by omega)]
        by_cases e3 : M 27 (M 19 k).toNat = 0
        case neg =>
          have : cfj M k j = false := by unfold cfj; simp [e3]
          rw [if_pos e3, this]; rfl
        rw [if_neg (by simpa using e3), gdE (by omega), gdE (by omega), gdE (by omega), r_counts hO (by omega), ClS]
        have h4 : cfj M k j = mt M (M 16 k) (M 17 k) (M 18 k) j := by unfold cfj; simp [e1, e2, e3]
        rw [h4]
        cases mt M (M 16 k) (M 17 k) (M 18 k) j <;> rfl
    · simp only [f_X12_conflicts_L17_63, LtE]
      rw [if_pos (by omega)]
      have := cnf_le M (M 0 19).toNat k
      rw [wrE (v := (k : Int) + 1) (by omega) (by omega), show ((k : Int) + 1) = ((k + 1 : Nat) : Int) by omega]
      have hs : cnf M (M 0 19).toNat (k + 1) = cnf M (M 0 19).toNat k + (if cfa M k (M 0 19).toNat then 1 else 0) := rfl
      rw [hs]
      cases cfa M k (M 0 19).toNat with
      | true => rw [if_neg (by simp), if_pos rfl, wrE (by omega) (by omega)]
      | false => rw [if_pos (by simp), wrE (by omega) (by omega)]; simp
  · simp only [f_X12_conflicts_L4_64, LtE]
    rw [if_pos (by omega), r_tells, ClS]
theorem c_inConf {M S : Mm} (hg : Okg S) (hO : Oke S) (hE : CE M S) (hS : CSg M S) {k : Nat} (hk : (k : Int) < S 0 19) (hon : S 27 (S 19 k).toNat = 0) : f_X1_isInConflict (33 + 8 * k) M = some (if cfa S k (S 0 19).toNat then 1 else 0, M) := by
  have h1 := hE.2.2 k hk
  obtain ⟨o1, o2, o3, o4, o5, -⟩ := hO.2.1 k hk
  have hP := hg.1
  have hA := hg.2.1
  have ht : S 18 k = -2 ∨ (-1 ≤ S 18 k ∧ S 18 k < 3) := by
    split at o5
    · have := chl_le hg o1; omega
    · split at o5 <;> omega
  unfold f_X1_isInConflict
  simp only [LtE]
  rw [h1.1, h1.2.1, h1.2.2.1, c_placeOf (by omega) (by omega), ClS, c_entryOf, alenC_28, ClS]
  rcases ht with ht | ht
  · have : cfa S k (S 0 19).toNat = false := by
      by_cases e : cfa S k (S 0 19).toNat = true
      · rw [cfa_iff] at e
        obtain ⟨j, -, e2⟩ := e
        unfold cfj at e2
        simp [ht] at e2
      · simpa using e
    rw [this, if_pos (by rw [if_neg (by omega)]; decide)]
    rfl
  · have e0 := hS _ o1.1 o1.2 _ o2.1 o2.2 _ ht.1 ht.2
    have hmk : mt S (S 16 k) (S 17 k) (S 18 k) k = true := mt_iff.mpr ⟨rfl, rfl, rfl, hon⟩
    have ev : (if 0 ≤ (if 0 ≤ S 16 k ∧ 0 ≤ S 17 k ∧ -1 ≤ S 18 k ∧ S 18 k < 3 then (S 16 k * 6 + S 17 k) * 4 + S 18 k + 1 else -1) ∧ (if 0 ≤ S 16 k ∧ 0 ≤ S 17 k ∧ -1 ≤ S 18 k ∧ S 18 k < 3 then (S 16 k * 6 + S 17 k) * 4 + S 18 k + 1 else -1) < ((240 : Nat) : Int) then M 28 (if 0 ≤ S 16 k ∧ 0 ≤ S 17 k ∧ -1 ≤ S 18 k ∧ S 18 k < 3 then (S 16 k * 6 + S 17 k) * 4 + S 18 k + 1 else -1).toNat else -1) = sg S (S 16 k) (S 17 k) (S 18 k) := by
      rw [if_pos (c := 0 ≤ S 16 k ∧ 0 ≤ S 17 k ∧ -1 ≤ S 18 k ∧ S 18 k < 3) ⟨o1.1, o2.1, ht.1, ht.2⟩, if_pos (by omega)]
      exact e0
    rw [ev]
    rcases sgl_ono (mt S (S 16 k) (S 17 k) (S 18 k)) (S 0 19).toNat with ⟨u1, u2⟩ | ⟨j, u1, u2, u3, u4, u5⟩ | ⟨u1, j, j', u2, u3, u4, u5, u6, u7, u8⟩
    · have := u2 k (by omega) (by omega); rw [hmk] at this; cases this
    · have e1 := u5 k (by omega) (by omega) hmk
      have hcf : cfa S k (S 0 19).toNat = false := by
        by_cases e : cfa S k (S 0 19).toNat = true
        · rw [cfa_iff] at e
          obtain ⟨i, i1, i2⟩ := e
          unfold cfj at i2
          simp only [Bool.and_eq_true, decide_eq_true_eq] at i2
          have := u5 i (by omega) i1 i2.2.2.2
          exact absurd (this.trans e1.symm) i2.1
        · simpa using e
      have : sg S (S 16 k) (S 17 k) (S 18 k) = (j : Int) := u1
      rw [this, if_pos (by omega), hcf]; rfl
    · have : cfa S k (S 0 19).toNat = true := by
        rw [cfa_iff]
        have ne2 : S 18 k ≠ -2 := by omega
        by_cases e : j = k
        · exact ⟨j', by omega, by unfold cfj; simp [u8, hon, ne2]; omega⟩
        · exact ⟨j, by omega, by unfold cfj; simp [u7, hon, ne2]; omega⟩
      have e9 : sg S (S 16 k) (S 17 k) (S 18 k) = -3 := u1
      rw [e9, if_neg (by decide), this]; rfl
theorem s_conflicts {RG : Mm → Nat → Int} (hRG : RGok RG) : S_conflicts (Inv RG) := by
  intro MC MR k hI hk
  obtain ⟨⟨⟨p1, p2, p3, p4, p5⟩, ⟨q1, q2, q3, q4, q5⟩, q6, q7, p6⟩, hV, hR, hB⟩ := id hI
  have hN := p3.1
  refine ⟨(cnf MR (MR 0 19).toNat (MR 0 19).toNat, MC), (_, _), ?_, r_conflicts p3, rfl, hI.thr hRG _ _⟩
  unfold f_X11_conflicts f_X1_countConflicts
  rw [LtE]
  have : Lp (f_X1_countConflicts_L4_26 fun v1 M2 => some (v1, M2)) FU (0, 0, MC) = some (cnf MR (MR 0 19).toNat (MR 0 19).toNat, MC) := by
    refine Lp_for (MR 0 19).toNat (fun k => (cnf MR (MR 0 19).toNat k, (k : Int), MC)) (fun rc k hk => ?_) (fun rc => ?_) (FU_lt (by omega)) rfl
    · simp only [f_X1_countConflicts_L4_26, LtE]
      have hc := cnf_le MR (MR 0 19).toNat k
      have hs : cnf MR (MR 0 19).toNat (k + 1) = cnf MR (MR 0 19).toNat k + (if cfa MR k (MR 0 19).toNat then 1 else 0) := rfl
      rw [q3.1, if_neg (by omega), e_rowOf q3 p3 (by omega), ClS, if_neg (by omega), gdE ⟨by omega, by rw [Int.toNat_natCast]; exact isE_k (by omega)⟩, Int.toNat_natCast, e_counts q3 p3 (by omega), ClS, wrE (v := (k : Int) + 1) (by omega) (by omega), show ((k : Int) + 1) = ((k + 1 : Nat) : Int) by omega, hs]
      by_cases h : MR 27 (MR 19 k).toNat = 0
      · rw [if_pos h, if_neg (by decide), c_inConf p1 p3 q3 hV.2.1 (by omega) h, ClS]
        cases cfa MR k (MR 0 19).toNat with
        | true => rw [if_neg (by simp), wrE (by omega) (by omega)]; rfl
        | false => rw [if_pos (by simp)]; simp
      · have : cfa MR k (MR 0 19).toNat = false := by
          by_cases e : cfa MR k (MR 0 19).toNat = true
          · rw [cfa_iff] at e
            obtain ⟨i, i1, i2⟩ := e
            unfold cfj at i2
            simp [h] at i2
          · simpa using e
        rw [if_neg h, if_pos rfl, this]; simp
    · simp only [f_X1_countConflicts_L4_26, LtE]
      rw [q3.1, if_pos (by omega)]
  rw [this, ClS]
