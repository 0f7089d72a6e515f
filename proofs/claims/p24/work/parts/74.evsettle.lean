/-! what holds between calls, with other findings and other RING values -/
def Bks (MC MR : Mm) : Prop := ∃ V H, Okb MR V H ∧ CK MC V H ∧ RB MR V H
theorem Inv.re {RG : Mm → Nat → Int} {MC MR MC' MR' : Mm} {k : Nat} (h : Inv RG MC MR k) (k' : Nat)
    (er : ∀ j, (1 ≤ j ∧ j ≤ 36) → MR' j = MR j) (es : ∀ i, i = 0 ∨ i = 12 ∨ i = 14 ∨ i = 15 ∨ i = 19 ∨ i = 33 ∨ i = 35 ∨ i = 36 → MR' 0 i = MR 0 i)
    (ec : ∀ j, j ≤ 274 ∨ (283 ≤ j ∧ j ≤ 289) → MC' j = MC j) (h67 : MC' 299 0 = MR' 0 67 ∧ i32 (MR' 0 67)) (hCO : CO MC') (hRP : RP MR') (hCR : CR RG MC' MR') (hB : Bks MC' MR') : Inv RG MC' MR' k' := by
  obtain ⟨⟨⟨p1, p2, p3, p4, p5⟩, ⟨q1, q2, q3, q4, q5⟩, q6, q7, p6⟩, hV, hR, V, H, b1, b2, b3⟩ := h
  refine ⟨⟨⟨?_, ?_, ?_, ?_, ?_⟩, ⟨?_, ?_, ?_, ?_, ?_⟩, hCO, h67, hRP⟩, ?_, hCR, hB⟩
  · exact p1.of (es 0 (by simp)) (es 12 (by simp)) fun k k1 k2 => er k (by omega)
  · exact p2.of (by rw [es 12 (by simp)]; exact Int.le_refl _) (es 14 (by simp)) (es 15 (by simp)) fun k k1 k2 => er k (by omega)
  · exact p3.of (by rw [es 0 (by simp)]; exact Int.le_refl _) (by rw [es 12 (by simp)]; exact Int.le_refl _) (es 19 (by simp)) (fun k k1 k2 => er k (by omega)) (fun a _ _ => by rw [er 12 (by decide)]) (fun a _ _ => by rw [er 4 (by decide)])
  · exact p4.of (es 33 (by simp)) (er 29 (by decide))
  · exact p5.of (by rw [es 0 (by simp)]; exact Int.le_refl _) (es 35 (by simp)) (es 36 (by simp)) (fun k k1 k2 => er k (by omega)) (fun p _ _ => by rw [er 4 (by decide), er 6 (by decide)]; exact ⟨rfl, rfl⟩)
  · have := q1.of (M' := MC') fun k k1 k2 => ec k (by omega)
    unfold CG at this ⊢
    rw [es 0 (by simp), es 12 (by simp), er 1 (by decide), er 2 (by decide), er 3 (by decide), er 4 (by decide), er 5 (by decide), er 6 (by decide), er 7 (by decide), er 8 (by decide), er 9 (by decide), er 10 (by decide), er 11 (by decide), er 12 (by decide)]
    exact this
  · exact q2.of (es 14 (by simp)) (es 15 (by simp)) (fun k k1 k2 => er k (by omega)) fun k k1 k2 => ec k (by omega)
  · exact (q3.of (M' := MC') (fun k k1 k2 k3 k4 => ec k (by omega)) p3.1.2).of2 (es 19 (by simp)) fun k k1 k2 => er k (by omega)
  · exact q4.of (es 33 (by simp)) (er 29 (by decide)) fun k k1 k2 => ec k (by omega)
  · exact q5.of p5 (es 35 (by simp)) (es 36 (by simp)) (fun k k1 k2 => er k (by omega)) (fun p _ _ => by rw [er 4 (by decide)]) fun k k1 k2 => ec k (by omega)
  · have hV' : CV MC' MR := by
      unfold CV CVw CSg CGi CRs at hV ⊢
      rw [ec 23 (by decide), ec 24 (by decide), ec 28 (by decide), ec 29 (by decide), ec 30 (by decide), ec 31 (by decide), ec 32 (by decide)]
      exact hV
    exact hV'.of (es 0 (by simp)) (es 12 (by simp)) (es 19 (by simp)) fun k hk => er k (by omega)
theorem RP.pl {M : Mm} (h : RP M) : PlO M := h.2.2.2
theorem Bks.of {MC MR MC' MR' : Mm} (h : Bks MC MR) (hP : PlO MR) (e300 : MC' 300 = MC 300) (e301 : MC' 301 = MC 301) (e35 : MR' 0 35 = MR 0 35) (e12 : MR' 0 12 = MR 0 12) (er : ∀ j, j = 12 ∨ j = 32 ∨ j = 36 → MR' j = MR j) (e5 : ∀ j, j = 50 ∨ j = 52 ∨ j = 53 ∨ j = 54 → ∀ i, i < 360 → MR' j i = MR j i) : Bks MC' MR' := by
  obtain ⟨V, H, b1, b2, b3, b4, b5⟩ := h
  refine ⟨V, H, ?_, ?_, fun k hk => ?_, fun n a hn ha => ?_, fun q a hq ha hno => ?_⟩
  · unfold Okb at b1 ⊢
    rw [e35, e12, er 12 (by simp), er 32 (by simp)]; exact b1
  · unfold CK at b2 ⊢
    rw [e300, e301]; exact b2
  · rw [e5 50 (by simp) k hk]; exact b3 k hk
  · rw [e35] at hn
    have hp := (hP n hn).1
    have := b4 n a hn ha
    unfold pv HR at this ⊢
    rw [e35, er 36 (by simp), e5 50 (by simp) _ (by omega), e5 52 (by simp) _ (by omega), e5 53 (by simp) _ (by omega), e5 54 (by simp) _ (by omega)]
    exact this
  · rw [e5 50 (by simp) _ (by omega)]
    rw [e35, er 36 (by simp)] at hno
    exact b5 q a hq ha hno
def RGs (RG : Mm → Nat → Int) : Prop := ∀ S out, S 0 35 ≤ 30 → RGr S out → RG S = out
/-- RING values are there -/
def RgI (RG : Mm → Nat → Int) (MC MR : Mm) : Prop := (∀ s, s < 180 → MC 309 s = RG MR s) ∧ (∀ s, s < 180 → -3 ≤ RG MR s ∧ RG MR s < 1000) ∧ ∀ s : Nat, s < 6 * (MR 0 35).toNat → ((s % 6 : Nat) : Int) < MR 0 12 → MR 12 (s % 6) = 3 → MR 55 (ixN MR s) = RG MR s
theorem up_self {M : Mm} {k i : Nat} {v : Int} (h : M k i = v) : up M k i v = M := by
  funext a b
  unfold up
  by_cases c : a = k ∧ b = i
  · rw [if_pos c, c.1, c.2, h]
  · rw [if_neg c]
theorem settle_inv {RG : Mm → Nat → Int} (hRG : RGok RG) (hRs : RGs RG) {MC MR : Mm} {k : Nat} (hI : Inv RG MC MR k) :
    ∃ MC' MR', f_X7_settle MC = some (0, MC') ∧ f_X12_findsRings MR = some (0, MR') ∧ Inv RG MC' MR' k ∧ RgI RG MC' MR' ∧ (∀ j, j ≤ 299 → MC' j = MC j) ∧ (∀ j, 1 ≤ j → j ≤ 49 → MR' j = MR j) ∧ (∀ i, i = 0 ∨ i = 12 ∨ i = 19 ∨ i = 35 ∨ i = 87 ∨ i = 79 → MR' 0 i = MR 0 i) := by
  obtain ⟨hp, hV, hR, hBk⟩ := id hI
  obtain ⟨⟨p1, p2, p3, p4, p5⟩, ⟨q1, q2, q3, q4, q5⟩, q6, q7, p6⟩ := id hp
  have hP := p6.pl
  have h35 := p5.1
  generalize hM0 : up MC 676 6 0 = MC0
  have m0 : ∀ j, j ≠ 676 → MC0 j = MC j := fun j hj => by rw [← hM0, up_ne _ _ _ hj]
  have hSC : SC MC MR := ⟨⟨q1, q3, hV⟩, q5⟩
  obtain ⟨out, ra', MC1, MR1, a1, a2, a3, a4, a5, a6, a7, a8, a9, a10⟩ := settle_both (S := MR) (C := MC) p1 p3 p5 q3 hP (MC := MC0) (MR := MR) (by rw [← hM0, up_at]) (hSC.of p3 fun j hj => m0 j (by omega)) (fun j j1 j2 => m0 j (by omega)) (fun s hs => by rw [m0 313 (by decide)]; exact q6.2 s hs) (by rw [m0 310 (by decide)]; exact q6.1) (Ag.refl _) rfl rfl p6.2.2.1 q7.2
  have hout : RG MR = out := hRs MR out h35.2 a1
  obtain ⟨c1, c2, c3, c4, c5, c6⟩ := a6
  obtain ⟨r1, r2, r3, r4, r5, r6⟩ := a7
  generalize hN : up MR1 0 68 0 = MR2 at a5
  have n2 : ∀ j, j ≠ 0 → MR2 j = MR1 j := fun j hj => by rw [← hN, up_ne _ _ _ hj]
  have n20 : ∀ i, i ≠ 68 → MR2 0 i = MR1 0 i := fun i hi => by rw [← hN]; simp [up, hi]
  have hrow : ∀ j, 1 ≤ j → j ≤ 49 → MR2 j = MR j := fun j j1 j2 => by rw [n2 j (by omega), a9.1 j (by omega) (by omega)]
  have hs0 : ∀ i, i ≠ 67 → i ≠ 68 → i ≠ 69 → i ≠ 72 → i ≠ 73 → i ≠ 74 → i ≠ 75 → i ≠ 76 → i ≠ 80 → MR2 0 i = MR 0 i := fun i a b c d e f g h k => by rw [n20 i b, a9.2.2 i a b c d e f g h k]
  have e67 : MR2 0 67 = MR 0 67 := by rw [n20 67 (by decide), a10]
  have hRG2 : RG MR2 = RG MR := hRG MR MR2 (fun j j1 j2 _ => hrow j j1 (by omega)) fun i hi => hs0 i (by omega) (by omega) (by omega) (by omega) (by omega) (by omega) (by omega) (by omega) (by omega)
  have hRP : RP MR2 := ⟨by rw [← hN, up_at], by rw [hs0 79 (by decide) (by decide) (by decide) (by decide) (by decide) (by decide) (by decide) (by decide) (by decide)]; exact p6.2.1, fun i hi => by rw [n2 51 (by decide)]; exact r4 i hi, by rw [hs0 35 (by decide) (by decide) (by decide) (by decide) (by decide) (by decide) (by decide) (by decide) (by decide), hrow 36 (by decide) (by decide)]; exact hP⟩
  have hring : ∀ s : Nat, s < 6 * (MR2 0 35).toNat → ((s % 6 : Nat) : Int) < MR2 0 12 → MR2 12 (s % 6) = 3 → MR2 55 (ixN MR2 s) = RG MR2 s := fun s s1 s2 s3 => by
    rw [hs0 35 (by decide) (by decide) (by decide) (by decide) (by decide) (by decide) (by decide) (by decide) (by decide)] at s1
    rw [hs0 12 (by decide) (by decide) (by decide) (by decide) (by decide) (by decide) (by decide) (by decide) (by decide)] at s2
    rw [hrow 12 (by decide) (by decide)] at s3
    rw [hRG2, hout, n2 55 (by decide), ← a2 s (by omega), show ixN MR2 s = ixN MR s by unfold ixN; rw [hrow 36 (by decide) (by decide)]]
    exact r5 s s1 s2 s3
  have hbd : ∀ s, s < 180 → -3 ≤ RG MR2 s ∧ RG MR2 s < 1000 := fun s hs => by rw [hRG2, hout]; exact a3 s hs
  have hes : ∀ i, i = 0 ∨ i = 12 ∨ i = 14 ∨ i = 15 ∨ i = 19 ∨ i = 33 ∨ i = 35 ∨ i = 36 ∨ i = 87 ∨ i = 79 → MR2 0 i = MR 0 i := fun i hi => hs0 i (by omega) (by omega) (by omega) (by omega) (by omega) (by omega) (by omega) (by omega) (by omega)
  have hbk : ∀ MC', MC' 300 = MC 300 → MC' 301 = MC 301 → Bks MC' MR2 := fun MC' e0 e1 => Bks.of hBk hP e0 e1 (hes 35 (by simp)) (hes 12 (by simp)) (fun j hj => hrow j (by omega) (by omega)) (fun j hj i hi => by rw [n2 j (by omega), a9.2.1 j (by omega) i hi])
  by_cases h6 : MC 676 6 = 0
  · have eM : MC0 = MC := by rw [← hM0, up_self h6]
    rw [eM] at a4 a8
    have m1 : ∀ j, j < 304 ∨ j = 676 → MC1 j = up MC 676 6 1 j := fun j hj => a8 j (by omega) (by omega) (by omega) (by omega) (by omega) (by omega) (by omega)
    have m2 : ∀ j, j < 304 → MC1 j = MC j := fun j hj => by rw [m1 j (by omega), up_ne _ _ _ (by omega)]
    have h309 : ∀ s, s < 180 → MC1 309 s = RG MR2 s := fun s hs => by rw [c3, a2 s hs, hRG2, hout]
    refine ⟨MC1, MR2, a4, a5, ?_, ⟨h309, hbd, hring⟩, fun j hj => m2 j (by omega), hrow, fun i hi => hes i (by omega)⟩
    exact hI.re k (fun j hj => hrow j hj.1 (by omega)) (fun i hi => hes i (by omega)) (fun j hj => m2 j (by omega)) (by rw [m2 299 (by decide), e67]; exact q7) ⟨c5, c4⟩ hRP (Or.inr h309) (hbk _ (m2 300 (by decide)) (m2 301 (by decide)))
  · have h309 : ∀ s, s < 180 → MC 309 s = RG MR2 s := fun s hs => by rw [hRG2]; exact (hR.resolve_left h6) s hs
    refine ⟨MC, MR2, ?_, a5, ?_, ⟨h309, hbd, hring⟩, fun _ _ => rfl, hrow, fun i hi => hes i (by omega)⟩
    · unfold f_X7_settle
      simp only [LtE]
      rw [if_neg h6]
    · exact hI.re k (fun j hj => hrow j hj.1 (by omega)) (fun i hi => hes i (by omega)) (fun j hj => rfl) (by rw [e67]; exact q7) q6 hRP (Or.inr h309) (hbk _ rfl rfl)
