/-! attributes, forwards, rules, aspects -/
theorem LM.g {M S M' S' : Mm} (h : LM M S) (er : ∀ j, j = 1 ∨ j = 2 ∨ j = 3 ∨ j = 12 ∨ (16 ≤ j ∧ j ≤ 19) ∨ j = 27 → S' j = S j) (es : ∀ i, i = 0 ∨ i = 12 ∨ i = 19 ∨ i = 35 → S' 0 i = S 0 i) (e : ∀ k, 681 ≤ k → k ≤ 684 → M' k = M k) (e273 : M' 273 0 = M 273 0) : LM M' S' := by
  unfold LM at h ⊢
  have hs : ∀ p j, sy S' p j = sy S p j := fun p j => by unfold sy; rw [er 2 (by simp), er 3 (by simp)]
  rw [e 684 (by decide) (by decide), e 681 (by decide) (by decide), e 682 (by decide) (by decide), e 683 (by decide) (by decide), e273, es 0 (by simp), es 12 (by simp), es 19 (by simp), es 35 (by simp), er 27 (by simp), er 1 (by simp), er 12 (by simp), er 16 (by simp), er 17 (by simp), er 18 (by simp), er 19 (by simp)]
  simp only [hs]
  exact h
theorem len_of {RG : Mm → Nat → Int} {M S M' S' : Mm} (h : Inv RG M S 0) (h' : Inv RG M' S' 0) (e : S' 0 33 = S 0 33) : M' 273 0 = M 273 0 := by
  have e1 := h'.1.2.1.2.2.2.1.1
  have e2 := h.1.2.1.2.2.2.1.1
  rw [e1, e2, e]
theorem D_attribute {RG : Mm → Nat → Int} (hRG : RGok RG) {M S : Mm} {b : Int} (h : LI RG M S b) {a : Int} (ha : 0 ≤ a ∧ a < 5) :
    (a = 4 ∧ f_L_does 3 a 0 0 0 0 M = some (-2000000, M)) ∨ (a ≠ 4 ∧ S 0 12 = 6 ∧ f_L_does 3 a 0 0 0 0 M = some (-1000000, M)) ∨ (a ≠ 4 ∧ S 0 12 < 6 ∧ ∃ M' S', f_L_does 3 a 0 0 0 0 M = some (S 0 12, M') ∧ (∀ k, 681 ≤ k → M' k = M k) ∧ LI RG (up (up M' 683 (S 0 12).toNat a) 684 1 (S 0 12 + 1)) S' b ∧ S' 0 12 = S 0 12 + 1) := by
  obtain ⟨hci, hLM, h6, hB⟩ := id h
  obtain ⟨r, q, a1, a2, a3, a4, a5, a6, a7, a8, a9⟩ := g24_attribute hRG a hci.1.1
  obtain ⟨⟨p1, p2, p3, p4, p5⟩, -, -, -, -⟩ := hci.1.1.1
  have h12 := p1.2.1
  rw [does_3]
  by_cases c : a = 4
  · left
    rw [if_neg (by omega)] at a7
    refine ⟨c, ?_⟩
    rw [Clt_fail a1 (by rw [a7]; decide) (a8 (by rw [a7]; decide)).1, a7]
    rfl
  rw [if_pos (by omega)] at a7
  right
  by_cases c6 : S 0 12 = 6
  · left
    rw [if_pos c6] at a7
    refine ⟨c, c6, ?_⟩
    rw [Clt_fail a1 (by rw [a7]; decide) (a8 (by rw [a7]; decide)).1, a7]
    rfl
  · right
    rw [if_neg c6] at a7
    obtain ⟨g, e1, e2, e3, e4, e5⟩ := a9 a7
    have hv : r.2.1 = S 0 12 := by rw [a5 a7, e1]
    refine ⟨c, by omega, jnM r.2.2 M, q.2, ?_, fun k hk => jnM_hi hk, ?_, e3⟩
    · rw [Clt_ok a1 a7, hv]
    have hX := X2_same (S' := q.2) hci.2.1 (fun j hj => e5 j (by omega) (by omega) (by omega)) (e2 0 (by decide) (by decide))
    have hci' : CI RG r.2.2 q.2 := hci.gram a6 g (fun j hj => e5 j (by omega) (by omega) (by omega)) (e2 35 (by decide) (by decide)) hX
    generalize hA : (S 0 12).toNat = A at *
    have hA' : (A : Int) = S 0 12 := by omega
    generalize hM2 : up (up (jnM r.2.2 M) 683 A a) 684 1 (S 0 12 + 1) = M2
    have m0 : ∀ k, k < 681 → M2 k = r.2.2 k := fun k hk => by rw [← hM2, up_ne _ _ _ (by omega), up_ne _ _ _ (by omega), jnM_lo hk]
    have m684 : ∀ i, i ≠ 1 → M2 684 i = M 684 i := fun i hi => by
      rw [← hM2]
      have : up (up (jnM r.2.2 M) 683 A a) 684 1 (S 0 12 + 1) 684 i = up (jnM r.2.2 M) 683 A a 684 i := up_off hi
      rw [this, up_ne _ _ _ (by decide), jnM_hi (by decide)]
    have m683 : ∀ i, M2 683 i = if i = A then a else M 683 i := fun i => by
      rw [← hM2, up_ne _ _ _ (by decide), up_se, sr_at]
      unfold se
      rw [jnM_hi (by decide)]
    have mk : ∀ k, k = 681 ∨ k = 682 → M2 k = M k := fun k hk => by rw [← hM2, up_ne _ _ _ (by omega), up_ne _ _ _ (by omega), jnM_hi (by omega)]
    have e299 : M2 299 = M 299 := by rw [m0 299 (by decide), g.2.1]
    have e273 : M2 273 0 = M 273 0 := by
      rw [m0 273 (by decide)]
      exact len_of hci.1.1 a6 (e2 33 (by decide) (by decide))
    refine ⟨hci'.ext m0, ?_, by rw [m684 6 (by decide), e299]; exact h6, hB.of (by rw [e299]) (m684 9 (by decide)) (m684 10 (by decide)) (by rw [m0 283 (by decide), g.2.2])⟩
    obtain ⟨⟨l1, l2, l3, l4, l5⟩, ⟨l6, l7⟩, l8, l9, l10⟩ := hLM
    have e5' : ∀ j, j = 1 ∨ j = 2 ∨ j = 3 ∨ (16 ≤ j ∧ j ≤ 19) ∨ j = 27 → q.2 j = S j := fun j hj => e5 j (by omega) (by omega) (by omega)
    refine ⟨⟨?_, ?_, ?_, ?_, ?_⟩, ⟨?_, ?_⟩, ?_, ?_, ?_⟩
    · rw [m684 0 (by decide), e2 0 (by decide) (by decide)]; exact l1
    · rw [← hM2, up_at, e3]
    · rw [m684 2 (by decide), e2 19 (by decide) (by decide)]; exact l3
    · rw [m684 3 (by decide), e273]; exact l4
    · rw [m684 4 (by decide), e2 35 (by decide) (by decide)]; exact l5
    · rw [m684 5 (by decide)]; exact l6
    · rw [m684 5 (by decide), e5' 27 (by simp)]; exact l7
    · intro p hp
      rw [e2 0 (by decide) (by decide)] at hp
      have hs : ∀ j, sy q.2 p j = sy S p j := fun j => by unfold sy; rw [e5' 2 (by simp), e5' 3 (by simp)]
      rw [mk 681 (by simp), e5' 1 (by simp), hs, hs, hs]
      exact l8 p hp
    · intro i hi
      rw [e3] at hi
      rw [m683, e4]
      by_cases ci : i = A
      · rw [if_pos ci, if_pos ci]
      · rw [if_neg ci, if_neg ci]; exact l9 i (by omega)
    · intro e he
      rw [e2 19 (by decide) (by decide)] at he
      rw [mk 682 (by simp), e5' 16 (by simp), e5' 17 (by simp), e5' 18 (by simp), e5' 19 (by simp)]
      exact l10 e he
/-- a grammar call that the law's rows do not see -/
theorem LI.gram {RG : Mm → Nat → Int} {M S M' S' : Mm} {b : Int} (h : LI RG M S b) (hI : Inv RG M' S' 0) (hg : GrX M M') (er : ∀ j, j = 1 ∨ j = 2 ∨ j = 3 ∨ j = 12 ∨ (16 ≤ j ∧ j ≤ 19) ∨ j = 27 ∨ (30 ≤ j ∧ j ≤ 33) → S' j = S j) (es : ∀ i, i ≠ 87 → S' 0 i = S 0 i) (hx : X2 S') : LI RG (jnM M' M) S' b := by
  obtain ⟨hci, hLM, h6, hB⟩ := h
  have e299 : jnM M' M 299 = M 299 := by rw [jnM_lo (by decide), hg.2.1]
  have e684 : jnM M' M 684 = M 684 := jnM_hi (by decide)
  refine ⟨(hci.gram hI hg (fun j hj => er j (by omega)) (es 35 (by decide)) hx).ext fun k hk => jnM_lo hk, hLM.g (fun j hj => er j (by omega)) (fun i hi => es i (by omega)) (fun k hk _ => jnM_hi hk) ?_, by rw [e684, e299]; exact h6, hB.of (by rw [e299]) (by rw [e684]) (by rw [e684]) (by rw [jnM_lo (by decide), hg.2.2])⟩
  rw [jnM_lo (by decide)]
  exact len_of hci.1.1 hI (es 33 (by decide))
theorem D_forward {RG : Mm → Nat → Int} (hRG : RGok RG) {M S : Mm} {b : Int} (h : LI RG M S b) (p o x y z : Int) : ∃ v M' S', f_L_does 1 p o x y z M = some (v, M') ∧ LI RG M' S' b ∧ (-1 ≤ v ∨ v = -3000000 ∨ v = -2000000) := by
  obtain ⟨r, q, a1, a2, a3, a4, a5, a6, -, a8, a9⟩ := g24_forward hRG p o x y z h.1.1.1
  rw [does_1]
  by_cases c : r.1 = 0
  · obtain ⟨g, e1, e2, e3, e4⟩ := a9 c
    refine ⟨r.2.1, jnM r.2.2 M, q.2, by rw [Clt_ok a1 c], h.gram a6 g (fun j hj => e4 j (by omega) (by omega) (by omega) (by omega)) e3 (X2_same h.1.2.1 (fun j hj => e4 j (by omega) (by omega) (by omega) (by omega)) (e3 0 (by decide))), Or.inl ?_⟩
    rw [a5 c, e1]; exact e2
  · refine ⟨_, M, S, Clt_fail a1 c (a8 c).1, h, ?_⟩
    unfold cdL
    rcases a3 with e | e | e <;> rw [e] at c ⊢
    · exact absurd rfl c
    · right; left; rfl
    · right; right; rfl
theorem D_rule {RG : Mm → Nat → Int} (hRG : RGok RG) {M S : Mm} {b : Int} (h : LI RG M S b) (p x o : Int) : ∃ v M' S', f_L_does 2 p x o 0 0 M = some (v, M') ∧ LI RG M' S' b ∧ M' 684 = M 684 ∧
    (if (0 ≤ p ∧ p < S 0 0) ∧ (0 ≤ o ∧ o < S 0 0) ∧ (0 ≤ x ∧ x < S 0 12) then v = -2000000 ∨ (p ≠ o ∧ S' 1 p.toNat = S' 1 o.toNat ∧ S' 4 p.toNat = S' 4 o.toNat ∧ -1 ≤ v ∧ S' 0 0 = S 0 0) else v = -3000000) := by
  obtain ⟨r, q, a1, a2, a3, a4, a5, a6, a7, a8, a9⟩ := g24_rule hRG p x o h.1.1.1
  obtain ⟨⟨p1, p2, p3, p4, p5⟩, -, -, -, -⟩ := h.1.1.1.1
  rw [does_2]
  by_cases ct : (0 ≤ p ∧ p < S 0 0) ∧ (0 ≤ o ∧ o < S 0 0) ∧ (0 ≤ x ∧ x < S 0 12)
  · rw [if_pos ct] at a7
    simp only [if_pos ct]
    by_cases cs : p ≠ o ∧ shp S p o
    · rw [if_pos cs] at a7
      obtain ⟨g, e1, e2, e3, e4⟩ := a9 a7
      have hx : X2 q.2 := by
        intro u u0 u1 hne
        rw [e2 0 (by decide)] at u1
        rw [e3] at hne ⊢
        rw [e4 1 (by decide) (by decide) (by decide) (by decide)]
        by_cases cu : u.toNat = p.toNat
        · rw [if_pos cu, cu]; exact cs.2.1.symm
        · rw [if_neg cu] at hne ⊢
          exact h.1.2.1 u u0 u1 hne
      refine ⟨r.2.1, jnM r.2.2 M, q.2, by rw [Clt_ok a1 a7], h.gram a6 g (fun j hj => e4 j (by omega) (by omega) (by omega) (by omega)) e2 hx, jnM_hi (by decide), Or.inr ⟨cs.1, ?_, ?_, ?_, e2 0 (by decide)⟩⟩
      · rw [e4 1 (by decide) (by decide) (by decide) (by decide)]; exact cs.2.1
      · rw [e4 4 (by decide) (by decide) (by decide) (by decide)]; exact cs.2.2.1
      · rw [a5 a7, e1]
        rcases (p1.2.2.2.1 p ct.1.1 ct.1.2).2.2.2.2.2.2.2.2.2 with w | w <;> omega
    · rw [if_neg cs] at a7
      refine ⟨_, M, S, Clt_fail a1 (by rw [a7]; decide) (a8 (by rw [a7]; decide)).1, h, rfl, Or.inl ?_⟩
      rw [a7]; rfl
  · rw [if_neg ct] at a7
    simp only [if_neg ct]
    refine ⟨_, M, S, Clt_fail a1 (by rw [a7]; decide) (a8 (by rw [a7]; decide)).1, h, rfl, ?_⟩
    rw [a7]; rfl
theorem D_toggle {RG : Mm → Nat → Int} (hRG : RGok RG) {M S : Mm} {b : Int} (h : LI RG M S b) {i : Nat} (hi : i < 4) : ∃ w M' S', f_L_does 6 (i : Int) 0 0 0 0 (up M 684 5 (jxor (M 684 5) (jshl 1 (i : Int)))) = some (w, M') ∧ LI RG M' S' b ∧ w = wr (1 - jand (jshr (M' 684 5) (i : Int)) 1) := by
  obtain ⟨hci, hLM, h6, hB⟩ := id h
  obtain ⟨⟨p1, p2, p3, p4, p5⟩, -, -, -, -⟩ := hci.1.1.1
  generalize hM1 : up M 684 5 (jxor (M 684 5) (jshl 1 (i : Int))) = M1
  have m1 : ∀ k, k ≠ 684 → M1 k = M k := fun k hk => by rw [← hM1, up_ne _ _ _ hk]
  have m684 : ∀ j, j ≠ 5 → M1 684 j = M 684 j := fun j hj => by rw [← hM1]; exact up_off hj
  have m5 : M1 684 5 = jxor (M 684 5) (jshl 1 (i : Int)) := by rw [← hM1, up_at]
  have hci1 : CI RG M1 S := hci.ext fun k hk => m1 k (by omega)
  obtain ⟨r, q, a1, a2, a3, a4, a5, a6, a7, a8, a9⟩ := g24_toggle hRG (i : Int) hci1.1.1
  rw [if_pos (by omega)] at a7
  obtain ⟨g, e1, e2, e3, e4⟩ := a9 a7
  rw [Int.toNat_natCast] at e1 e3
  obtain ⟨⟨l1, l2, l3, l4, l5⟩, ⟨l6, l7⟩, l8, l9, l10⟩ := hLM
  have hb27 := p3.2.2 i hi
  obtain ⟨v, hv⟩ : ∃ v : Nat, M 684 5 = (v : Int) := ⟨(M 684 5).toNat, by omega⟩
  have hbt := bit_tog ⟨v, by omega⟩ ⟨i, hi⟩
  simp only at hbt
  rw [← hv] at hbt
  have hbit : ∀ j : Nat, j < 4 → jand (jshr (jxor (M 684 5) (jshl 1 (i : Int))) (j : Int)) 1 = q.2 27 j := fun j hj => by
    have z := hbt.2 ⟨j, hj⟩
    simp only [Fin.mk.injEq] at z
    rw [z, e3, l7 j hj]
    by_cases c : j = i
    · subst c
      rw [if_pos rfl, if_pos rfl]
      rcases hb27 with w | w <;> rw [w] <;> decide
    · rw [if_neg c, if_neg c]
  have e684 : jnM r.2.2 M1 684 = M1 684 := jnM_hi (by decide)
  have e299 : jnM r.2.2 M1 299 = M 299 := by rw [jnM_lo (by decide), g.2.1, m1 299 (by decide)]
  refine ⟨q.1, jnM r.2.2 M1, q.2, ?_, ⟨(hci1.gram a6 g (fun j hj => e4 j (by omega) (by omega) (by omega)) (e2 35 (by decide)) (X2_same hci.2.1 (fun j hj => e4 j (by omega) (by omega) (by omega)) (e2 0 (by decide)))).ext fun k hk => jnM_lo hk, ?_, by rw [e684, m684 6 (by decide), e299]; exact h6, hB.of (by rw [e299]) (by rw [e684, m684 9 (by decide)]) (by rw [e684, m684 10 (by decide)]) (by rw [jnM_lo (by decide), g.2.2, m1 283 (by decide)])⟩, ?_⟩
  · rw [does_6, Clt_ok a1 a7, a5 a7, e1]
    rcases hb27 with w | w <;> rw [w] <;> rfl
  · have e4' : ∀ j, j = 1 ∨ j = 2 ∨ j = 3 ∨ j = 12 ∨ (16 ≤ j ∧ j ≤ 19) → q.2 j = S j := fun j hj => e4 j (by omega) (by omega) (by omega)
    have mh : ∀ k, 681 ≤ k → k ≠ 684 → jnM r.2.2 M1 k = M k := fun k hk h4 => by rw [jnM_hi hk, m1 k h4]
    refine ⟨⟨?_, ?_, ?_, ?_, ?_⟩, ⟨?_, ?_⟩, ?_, ?_, ?_⟩
    · rw [e684, m684 0 (by decide), e2 0 (by decide)]; exact l1
    · rw [e684, m684 1 (by decide), e2 12 (by decide)]; exact l2
    · rw [e684, m684 2 (by decide), e2 19 (by decide)]; exact l3
    · rw [e684, m684 3 (by decide), jnM_lo (by decide), len_of hci.1.1 a6 (e2 33 (by decide))]; exact l4
    · rw [e684, m684 4 (by decide), e2 35 (by decide)]; exact l5
    · rw [e684, m5]; exact hbt.1
    · intro j hj
      rw [e684, m5]
      exact hbit j hj
    · intro p hp
      rw [e2 0 (by decide)] at hp
      have hs : ∀ j, sy q.2 p j = sy S p j := fun j => by unfold sy; rw [e4' 2 (by simp), e4' 3 (by simp)]
      rw [mh 681 (by decide) (by decide), e4' 1 (by simp), hs, hs, hs]
      exact l8 p hp
    · intro j hj
      rw [e2 12 (by decide)] at hj
      rw [mh 683 (by decide) (by decide), e4' 12 (by simp)]
      exact l9 j hj
    · intro e he
      rw [e2 19 (by decide)] at he
      rw [mh 682 (by decide) (by decide), e4' 16 (by simp), e4' 17 (by simp), e4' 18 (by simp), e4' 19 (by simp)]
      exact l10 e he
  · rw [e684, m5, hbit i hi, e3, if_pos rfl, e1]
    rcases hb27 with w | w <;> rw [w] <;> decide
