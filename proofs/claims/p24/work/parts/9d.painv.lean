/-! what holds between calls: with a new tree, with a new text -/
theorem inv_new {RG : Mm → Nat → Int} {MC MR MC' MR' : Mm} {k : Nat} (h : Inv RG MC MR k) (k' : Nat)
    (er : ∀ j, 1 ≤ j → j ≤ 29 → MR' j = MR j) (es : ∀ i, i = 0 ∨ i = 12 ∨ i = 14 ∨ i = 15 ∨ i = 19 ∨ i = 33 ∨ i = 67 ∨ i = 68 ∨ i = 79 → MR' 0 i = MR 0 i) (e51 : MR' 51 = MR 51)
    (ec : ∀ j, (j ≤ 272 ∨ j = 274 ∨ j = 299 ∨ j = 310 ∨ j = 313) → MC' j = MC j) (e273 : MC' 273 0 = MC 273 0) (hN : Okn MR') (hCN : CN MC' MR') (hP : PlO MR') (hCR : CR RG MC' MR') (hB : Bks MC' MR') : Inv RG MC' MR' k' := by
  obtain ⟨⟨⟨p1, p2, p3, p4, p5⟩, ⟨q1, q2, q3, q4, q5⟩, q6, q7, p6⟩, hV, -, -⟩ := h
  refine ⟨⟨⟨?_, ?_, ?_, ?_, hN⟩, ⟨?_, ?_, ?_, ?_, hCN⟩, ?_, ?_, ?_⟩, ?_, hCR, hB⟩
  · exact p1.of (es 0 (by simp)) (es 12 (by simp)) fun k k1 k2 => er k (by omega) (by omega)
  · exact p2.of (by rw [es 12 (by simp)]; exact Int.le_refl _) (es 14 (by simp)) (es 15 (by simp)) fun k k1 k2 => er k (by omega) (by omega)
  · exact p3.of (by rw [es 0 (by simp)]; exact Int.le_refl _) (by rw [es 12 (by simp)]; exact Int.le_refl _) (es 19 (by simp)) (fun k k1 k2 => er k (by omega) (by omega)) (fun a _ _ => by rw [er 12 (by decide) (by decide)]) (fun a _ _ => by rw [er 4 (by decide) (by decide)])
  · exact p4.of (es 33 (by simp)) (er 29 (by decide) (by decide))
  · have := q1.of (M' := MC') fun k k1 k2 => ec k (by omega)
    unfold CG at this ⊢
    rw [es 0 (by simp), es 12 (by simp), er 1 (by decide) (by decide), er 2 (by decide) (by decide), er 3 (by decide) (by decide), er 4 (by decide) (by decide), er 5 (by decide) (by decide), er 6 (by decide) (by decide), er 7 (by decide) (by decide), er 8 (by decide) (by decide), er 9 (by decide) (by decide), er 10 (by decide) (by decide), er 11 (by decide) (by decide), er 12 (by decide) (by decide)]
    exact this
  · exact q2.of (es 14 (by simp)) (es 15 (by simp)) (fun k k1 k2 => er k (by omega) (by omega)) fun k k1 k2 => ec k (by omega)
  · exact (q3.of (M' := MC') (fun k k1 k2 k3 k4 => ec k (by omega)) p3.1.2).of2 (es 19 (by simp)) fun k k1 k2 => er k (by omega) (by omega)
  · refine ⟨by rw [e273, es 33 (by simp)]; exact q4.1, fun k hk => ?_⟩
    rw [es 33 (by simp)] at hk
    rw [ec 274 (by simp), er 29 (by decide) (by decide)]
    exact q4.2 k hk
  · exact q6.of fun j hj => ec j (by omega)
  · rw [ec 299 (by simp), es 67 (by simp)]; exact q7
  · exact ⟨by rw [es 68 (by simp)]; exact p6.1, by rw [es 79 (by simp)]; exact p6.2.1, by rw [e51]; exact p6.2.2.1, hP⟩
  · have hV' : CV MC' MR := by
      unfold CV CVw CSg CGi CRs at hV ⊢
      rw [ec 23 (by decide), ec 24 (by decide), ec 28 (by decide), ec 29 (by decide), ec 30 (by decide), ec 31 (by decide), ec 32 (by decide)]
      exact hV
    exact hV'.of (es 0 (by simp)) (es 12 (by simp)) (es 19 (by simp)) fun k hk => er k (by omega) (by omega)
theorem inv_text {RG : Mm → Nat → Int} (hRG : RGok RG) {MC MR MC' MR' : Mm} {k : Nat} (h : Inv RG MC MR k) (er : ∀ j, j ≠ 0 → j ≠ 29 → MR' j = MR j) (es : ∀ i, i ≠ 33 → i ≠ 87 → MR' 0 i = MR 0 i) (ec : ∀ j, j ≠ 273 → j ≠ 274 → MC' j = MC j) (ht : Okt MR') (hT : CT MC' MR') : Inv RG MC' MR' k := by
  obtain ⟨⟨⟨p1, p2, p3, p4, p5⟩, ⟨q1, q2, q3, q4, q5⟩, q6, q7, p6⟩, hV, hR, hB⟩ := h
  have hB' : Bks MC MR := hB
  refine ⟨⟨⟨?_, ?_, ?_, ht, ?_⟩, ⟨?_, ?_, ?_, hT, ?_⟩, ?_, ?_, ?_⟩, ?_, ?_, ?_⟩
  · exact p1.of (es 0 (by simp) (by simp)) (es 12 (by simp) (by simp)) fun k k1 k2 => er k (by omega) (by omega)
  · exact p2.of (by rw [es 12 (by simp) (by simp)]; exact Int.le_refl _) (es 14 (by simp) (by simp)) (es 15 (by simp) (by simp)) fun k k1 k2 => er k (by omega) (by omega)
  · exact p3.of (by rw [es 0 (by simp) (by simp)]; exact Int.le_refl _) (by rw [es 12 (by simp) (by simp)]; exact Int.le_refl _) (es 19 (by simp) (by simp)) (fun k k1 k2 => er k (by omega) (by omega)) (fun a _ _ => by rw [er 12 (by decide) (by decide)]) (fun a _ _ => by rw [er 4 (by decide) (by decide)])
  · exact p5.of (by rw [es 0 (by simp) (by simp)]; exact Int.le_refl _) (es 35 (by simp) (by simp)) (es 36 (by simp) (by simp)) (fun k k1 k2 => er k (by omega) (by omega)) (fun p _ _ => by rw [er 4 (by decide) (by decide), er 6 (by decide) (by decide)]; exact ⟨rfl, rfl⟩)
  · have := q1.of (M' := MC') fun k k1 k2 => ec k (by omega) (by omega)
    unfold CG at this ⊢
    rw [es 0 (by simp) (by simp), es 12 (by simp) (by simp), er 1 (by decide) (by decide), er 2 (by decide) (by decide), er 3 (by decide) (by decide), er 4 (by decide) (by decide), er 5 (by decide) (by decide), er 6 (by decide) (by decide), er 7 (by decide) (by decide), er 8 (by decide) (by decide), er 9 (by decide) (by decide), er 10 (by decide) (by decide), er 11 (by decide) (by decide), er 12 (by decide) (by decide)]
    exact this
  · exact q2.of (es 14 (by simp) (by simp)) (es 15 (by simp) (by simp)) (fun k k1 k2 => er k (by omega) (by omega)) fun k k1 k2 => ec k (by omega) (by omega)
  · exact (q3.of (M' := MC') (fun k k1 k2 k3 k4 => ec k (by omega) (by omega)) p3.1.2).of2 (es 19 (by simp) (by simp)) fun k k1 k2 => er k (by omega) (by omega)
  · exact q5.of p5 (es 35 (by simp) (by simp)) (es 36 (by simp) (by simp)) (fun k k1 k2 => er k (by omega) (by omega)) (fun p _ _ => by rw [er 4 (by decide) (by decide)]) fun k k1 k2 => ec k (by omega) (by omega)
  · exact q6.of fun j hj => ec j (by omega) (by omega)
  · rw [ec 299 (by decide) (by decide), es 67 (by simp) (by simp)]; exact q7
  · exact p6.of (es 35 (by simp) (by simp)) (es 68 (by simp) (by simp)) (es 79 (by simp) (by simp)) (er 51 (by decide) (by decide)) (er 36 (by decide) (by decide))
  · have hV' : CV MC' MR := by
      unfold CV CVw CSg CGi CRs at hV ⊢
      rw [ec 23 (by decide) (by decide), ec 24 (by decide) (by decide), ec 28 (by decide) (by decide), ec 29 (by decide) (by decide), ec 30 (by decide) (by decide), ec 31 (by decide) (by decide), ec 32 (by decide) (by decide)]
      exact hV
    exact hV'.of (es 0 (by simp) (by simp)) (es 12 (by simp) (by simp)) (es 19 (by simp) (by simp)) fun k hk => er k (by omega) (by omega)
  · have e := hRG MR MR' (fun j j1 j2 j3 => er j (by omega) (by omega)) (fun i hi => es i (by omega) (by omega))
    unfold CR
    rw [ec 676 (by decide) (by decide), ec 309 (by decide) (by decide), e]
    exact hR
  · exact hB'.of p6.pl (ec 300 (by decide) (by decide)) (ec 301 (by decide) (by decide)) (es 35 (by simp) (by simp)) (es 12 (by simp) (by simp)) (fun j hj => er j (by omega) (by omega)) fun j hj i _ => by rw [er j (by omega) (by omega)]
