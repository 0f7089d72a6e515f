/-! found with nothing that is kept, on both sides -/
theorem scr_find {RG : Mm → Nat → Int} {M3 N3 M4 N4 : Mm} {k : Nat} (hI : Inv RG M3 N3 k) (hr : RgI RG M3 N3) {n a : Int} (hn : 0 ≤ n ∧ n < N3 0 35) (ha : 0 ≤ a ∧ a < N3 0 12)
    (m4 : ∀ j, j ≠ 306 → j ≠ 310 → M4 j = M3 j) (m6 : ∀ s, s < 180 → M4 306 s = 0) (m11 : M4 310 11 ≠ 0 → M4 310 0 = 0)
    (n4 : ∀ j, j ≠ 0 → j ≠ 50 → N4 j = N3 j) (n5 : ∀ i, i < 360 → N4 50 i = N3 50 i) (n5' : ∀ i, 360 ≤ i → i < 720 → N4 50 i = 0) (n68 : N4 0 68 = 360) (n0 : ∀ i, i ≠ 68 → i ≠ 79 → i ≠ 80 → N4 0 i = N3 0 i) :
    ∃ v lf MC' MR', f_X2_find n a 304 M4 = some (v, MC') ∧ f_X12_finds n a N4 = some (pv N3 v, MR') ∧ (-3 ≤ v ∧ v < 1000 + N3 0 35) ∧ Sl lf ∧ (M4 310 11 ≠ 0 → Lst MC' lf) ∧ (N4 0 79 ≠ 0 → LsR MR' lf) ∧
      (∀ j, j ≤ 303 ∨ j = 309 ∨ j = 676 → MC' j = M3 j) ∧ MC' 310 11 = M4 310 11 ∧ (∀ s, s < 180 → MC' 313 s = 0) ∧
      (∀ j, (1 ≤ j ∧ j ≤ 49) ∨ j = 55 → MR' j = N3 j) ∧ (∀ j, 50 ≤ j ∧ j ≤ 54 → ∀ i, i < 360 → MR' j i = N3 j i) ∧ (∀ i, i < 720 → MR' 51 i = 0) ∧ MR' 0 67 = N3 0 67 ∧ (∀ i, i ≠ 67 → i ≠ 69 → i ≠ 72 → i ≠ 73 → i ≠ 74 → i ≠ 75 → i ≠ 76 → i ≠ 80 → MR' 0 i = N4 0 i) := by
  obtain ⟨hp, hV, hR, hBk⟩ := id hI
  obtain ⟨⟨p1, p2, p3, p4, p5⟩, ⟨q1, q2, q3, q4, q5⟩, q6, q7, p6⟩ := id hp
  obtain ⟨g1, g2, g3⟩ := hr
  have hP := p6.pl
  have h35 := p5.1
  have h12 := p1.2.1
  have hSC : SC M4 N3 := SC.of (M := M3) ⟨⟨q1, q3, hV⟩, q5⟩ p3 fun j hj => m4 j (by omega) (by omega)
  have hRC : RestC N3 M3 304 (M3 309) (M4 305) (M4 306) M4 := ⟨hSC, fun j j1 j2 => m4 j (by omega) (by omega), m4 309 (by decide) (by decide), rfl, rfl, fun s hs => by rw [m4 313 (by decide) (by decide)]; exact q6.2 s hs⟩
  have hRR : RestR N3 360 (M3 309) (M4 305) (M4 306) N4 := by
    refine ⟨⟨fun j j1 j2 j3 => n4 j (by omega) (by omega), fun i hi => n0 i (by omega) (by omega) (by omega)⟩, n0 36 (by decide) (by decide) (by decide), n4 36 (by decide) (by decide), n68, ?_⟩
    intro m b b0 b1 b2 b3
    have hx := ixN_eq (S := N3) b0 ⟨b2, Int.lt_of_lt_of_le b3 h12.2⟩
    have hpm := (hP m.toNat (by omega)).1
    refine ⟨fun kb => ?_, ?_, fun _ => ⟨fun _ => n5' _ (by omega) (by omega), fun q => absurd (m6 _ (by omega)) q⟩⟩
    · rw [n4 55 (by decide) (by decide), g1 _ (by omega), ← hx.2.2]
      exact g3 _ (by omega) (by rw [hx.2.1]; omega) (by rw [hx.2.1]; exact kb)
    · rw [if_neg (fun q => (by cases q)), n4 51 (by decide) (by decide)]
      exact p6.2.2.1 _ (by omega)
  have hbd : BdO N3 (M3 309) (M4 305) (M4 306) := ⟨fun s hs => by rw [g1 s hs]; exact g2 s hs, fun s hs q => absurd (m6 s hs) q⟩
  have hbh : BdH N3 (M4 306) := fun s hs => by rw [m6 s hs]; exact HBt.zero N3
  have hq67 : N4 0 67 = N3 0 67 := n0 67 (by decide) (by decide) (by decide)
  obtain ⟨c', MC', MR', l1, l2, l3, l4, l5, l6, l7, l8, l9, l10, l11⟩ := find_both p1 p3 p5 q3 hP (B := 360) (Or.inr rfl) (bk := 304) (Or.inr rfl) (rg := M3 309) (I := fun _ => True) (fun _ _ _ _ _ _ _ _ _ _ _ _ _ => trivial) hn ha (m6 _ (by omega)) hbd hbh hRC m11 hRR trivial
  have lR := l4.rest l5
  obtain ⟨r1, r2, r3, r4, r5⟩ := lR
  have hbd' := l3.2.2.1
  have e11 : MC' 310 11 = M4 310 11 := l7.2.1 11 (by decide) (by decide) (by decide) (by decide)
  obtain ⟨l, z1, z2, -, z4⟩ := l3.2.2.2.2.2
  have z5 := z4 l5
  refine ⟨_, l, MC', MR', l1, l2, hbd'.2 _ (by omega) l9, z2, fun q => z1 (by rw [e11]; exact q), fun q => ?_, fun j hj => ?_, e11, (l3.rest l5).2.2.2.2.2, fun j hj => ?_, fun j hj i hi => ?_, fun i hi => ?_, ?_, l8.2.2⟩
  · rw [z5]
    refine l4.2.2.2.2.2.2.2 l5 ?_
    rw [l8.2.2 79 (by decide) (by decide) (by decide) (by decide) (by decide) (by decide) (by decide) (by decide)]; exact q
  · rw [l7.1 j (by omega) (by omega) (by omega) (by omega) (by omega) (by omega) (by omega), m4 j (by omega) (by omega)]
  · rw [l8.1 j (by omega) (by omega) (by omega), n4 j (by omega) (by omega)]
  · rw [l8.2.1 j hj i fun m b x1 x2 x3 x4 _ x6 => ?_]
    · by_cases c : j = 50
      · rw [c]; exact n5 i hi
      · rw [n4 j (by omega) c]
    · have hpm := (hP m.toNat (by omega)).1
      unfold ixR at x6
      omega
  · by_cases c : ∃ m b : Int, 0 ≤ m ∧ m < N3 0 35 ∧ 0 ≤ b ∧ b < N3 0 12 ∧ i = ixR N3 360 m b
    · obtain ⟨m, b, x1, x2, x3, x4, x5⟩ := c
      have := (r5 m b x1 x2 x3 x4).2.1
      rw [if_neg (fun q => (by cases q))] at this
      rw [x5]
      exact this
    · rw [l8.2.1 51 ⟨by decide, by decide⟩ i fun m b x1 x2 x3 x4 _ x5 => c ⟨m, b, x1, x2, x3, x4, x5⟩, n4 51 (by decide) (by decide)]
      exact p6.2.2.1 i hi
  · rw [(l11 (by rw [hq67]; exact q7.2)).2 (by decide), hq67]
/-- behind that all is as before -/
theorem scr_inv {RG : Mm → Nat → Int} (hRG : RGok RG) {M3 N3 M5 N5 : Mm} {k : Nat} (hI : Inv RG M3 N3 k) (k' : Nat) (m5 : ∀ j, j ≤ 303 ∨ j = 309 ∨ j = 676 → M5 j = M3 j) (m11 : M5 310 11 = 0) (m13 : ∀ s, s < 180 → M5 313 s = 0)
    (n5 : ∀ j, (1 ≤ j ∧ j ≤ 49) → N5 j = N3 j) (n50 : ∀ j, 50 ≤ j ∧ j ≤ 54 → ∀ i, i < 360 → N5 j i = N3 j i) (n51 : ∀ i, i < 720 → N5 51 i = 0) (n67 : N5 0 67 = N3 0 67) (n68 : N5 0 68 = 0) (n79 : N5 0 79 = 0) (n0 : ∀ i, i = 0 ∨ i = 12 ∨ i = 14 ∨ i = 15 ∨ i = 19 ∨ i = 33 ∨ i = 35 ∨ i = 36 → N5 0 i = N3 0 i) : Inv RG M5 N5 k' := by
  obtain ⟨hp, hV, hR, hBk⟩ := id hI
  obtain ⟨-, -, q6, q7, p6⟩ := id hp
  have hRG2 : RG N5 = RG N3 := hRG N3 N5 (fun j j1 j2 _ => n5 j (by omega)) fun i hi => n0 i (by omega)
  refine hI.re k' (fun j hj => n5 j (by omega)) n0 (fun j hj => m5 j (by omega)) ⟨by rw [m5 299 (by simp), n67]; exact q7.1, by rw [n67]; exact q7.2⟩ ⟨m11, m13⟩ ⟨n68, n79, n51, ?_⟩ ?_ (Bks.of hBk p6.pl (m5 300 (by simp)) (m5 301 (by simp)) (n0 35 (by simp)) (n0 12 (by simp)) (fun j hj => n5 j (by omega)) fun j hj i hi => n50 j (by omega) i hi)
  · rw [n0 35 (by simp), n5 36 (by decide)]
    exact p6.pl
  · unfold CR at hR ⊢
    rw [m5 676 (by simp), m5 309 (by simp), hRG2]
    exact hR
theorem s_valueAnew {RG : Mm → Nat → Int} (hRG : RGok RG) (hRs : RGs RG) : S_valueAnew (Inv RG) := by
  intro MC MR k n a i1 i2 hI hk
  obtain ⟨hp, hV, hR, V, H, b1, b2, b3⟩ := id hI
  obtain ⟨⟨p1, p2, p3, p4, p5⟩, ⟨q1, q2, q3, q4, q5⟩, q6, q7, p6⟩ := id hp
  have hA := p1.2.1
  have hN := p5.1
  by_cases h : (0 ≤ n ∧ n < MR 0 35) ∧ (0 ≤ a ∧ a < MR 0 12)
  case neg =>
    refine ⟨(1, 0, MC), (0, up MR 0 87 1), ?_, ?_, by simp, by simp [up], by simp, hI.thr hRG _ _⟩
    · unfold f_X11_valueAnew; rw [g_mustNode q5]
      by_cases h1 : 0 ≤ n ∧ n < MR 0 35
      · rw [if_pos h1, g_mustAttr q1, if_neg (fun q => h ⟨h1, q⟩)]
      · rw [if_neg h1]
    · unfold f_X12_valueAnew f_X12_isPair; simp only [LtE]
      rw [r_isNode hN, ClS]
      by_cases h1 : 0 ≤ n ∧ n < MR 0 35
      · rw [if_pos h1, if_neg (by decide), r_isAttribute hA, ClS, if_neg (fun q => h ⟨h1, q⟩), if_pos rfl, ClS, if_pos rfl, r_fails, ClS, if_neg (by decide)]
      · rw [if_neg h1, if_pos rfl, ClS, if_pos rfl, r_fails, ClS, if_neg (by decide)]
  obtain ⟨h1, h2⟩ := h
  have o1 := h1
  have o2 := h2
  have hI0 := hI.thr hRG (k + 1) 0
  have e0 : ∀ i, i ≠ 87 → up MR 0 87 0 0 i = MR 0 i := fun i hi => by simp [up, hi]
  obtain ⟨M3, N3, s1, s2, s3, s4, s5, s6, s7⟩ := settle_inv hRG hRs hI0
  rw [← e0 35 (by decide), ← s7 35 (by simp)] at h1
  rw [← e0 12 (by decide), ← s7 12 (by simp)] at h2
  have hp3 := s3.1
  obtain ⟨⟨p31, -, -, -, p35⟩, ⟨q31, -, -, -, -⟩, q36, q37, p36⟩ := id hp3
  have h12 := p31.2.1
  have h35 := p35.1
  have hP := p36.pl
  generalize hM4 : (sr M3 306 fun j => if j < 180 then 0 else M3 306 j) = M4
  generalize hN4 : (sr (up N3 0 68 360) 50 fun j => if 360 ≤ j ∧ j < 720 then 0 else N3 50 j) = N4
  have m4 : ∀ j, j ≠ 306 → M4 j = M3 j := fun j hj => by rw [← hM4, sr_ne _ _ hj]
  have n4 : ∀ j, j ≠ 0 → j ≠ 50 → N4 j = N3 j := fun j a b => by rw [← hN4, sr_ne _ _ b, up_ne _ _ _ a]
  have n40 : ∀ i, i ≠ 68 → N4 0 i = N3 0 i := fun i hi => by rw [← hN4, sr_ne _ _ (by decide)]; simp [up, hi]
  obtain ⟨v, lf, MC', MR', f1, f2, f3, f4, f5, f6, f7, f8, f9, f10, f11, f12, f13, f14⟩ := scr_find s3 s4 h1 h2 (M4 := M4) (N4 := N4) (fun j a _ => m4 j a) (fun s hs => by rw [← hM4, sr_at, if_pos hs]) (fun q => absurd (by rw [m4 310 (by decide)]; exact q36.1) q) n4 (fun i hi => by rw [← hN4, sr_at, if_neg (by omega)]) (fun i a b => by rw [← hN4, sr_at, if_pos ⟨a, b⟩]) (by rw [← hN4, sr_ne _ _ (by decide), up_at]) (fun i a _ _ => n40 i a)
  generalize hN5 : up MR' 0 68 0 = N5
  have n5 : ∀ j, j ≠ 0 → N5 j = MR' j := fun j hj => by rw [← hN5, up_ne _ _ _ hj]
  have n50 : ∀ i, i ≠ 68 → N5 0 i = MR' 0 i := fun i hi => by rw [← hN5]; simp [up, hi]
  have hs0 : ∀ i, i = 0 ∨ i = 12 ∨ i = 14 ∨ i = 15 ∨ i = 19 ∨ i = 33 ∨ i = 35 ∨ i = 36 ∨ i = 79 ∨ i = 87 → N5 0 i = N3 0 i := fun i hi => by rw [n50 i (by omega), f14 i (by omega) (by omega) (by omega) (by omega) (by omega) (by omega) (by omega) (by omega), n40 i (by omega)]
  have m310 : M4 310 11 = 0 := by rw [m4 310 (by decide)]; exact q36.1
  have hI3 := scr_inv hRG s3 (k + 1) (M5 := M4) (N5 := N3) (fun j hj => m4 j (by omega)) m310 (fun s hs => by rw [m4 313 (by decide)]; exact q36.2 s hs) (fun _ _ => rfl) (fun _ _ _ _ => rfl) p36.2.2.1 rfl p36.1 p36.2.1 (fun _ _ => rfl)
  have hI5 : ∀ M5 : Mm, (∀ j, j ≤ 303 ∨ j = 309 ∨ j = 676 → M5 j = M3 j) → M5 310 11 = 0 → (∀ s, s < 180 → M5 313 s = 0) → Inv RG M5 N5 (k + 1) := fun M5 x1 x2 x3 =>
    scr_inv hRG s3 (k + 1) x1 x2 x3 (fun j hj => by rw [n5 j (by omega)]; exact f10 j (Or.inl hj)) (fun j hj i hi => by rw [n5 j (by omega)]; exact f11 j hj i hi) (fun i hi => by rw [n5 51 (by decide)]; exact f12 i hi) (by rw [n50 67 (by decide)]; exact f13) (by rw [← hN5, up_at]) (by rw [hs0 79 (by simp)]; exact p36.2.1) (fun i hi => hs0 i (by omega))
  have hkc : f_X5_kindOf a M4 = some (N3 12 a.toNat, M4) := by
    rw [c_kindOf, m4 1 (by decide), m4 13 (by decide), if_pos ⟨h2.1, by rw [q31.2.1]; exact h2.2, by omega⟩, q31.2.2.1 a h2.1 h2.2]
  have e36 : N5 36 = N3 36 := by rw [n5 36 (by decide)]; exact f10 36 (by simp)
  have e035 : N5 0 35 = N3 0 35 := hs0 35 (by simp)
  have e12 : N5 12 = N3 12 := by rw [n5 12 (by decide)]; exact f10 12 (by simp)
  have hPs : PlO N3 := hP
  have h87 : N5 0 87 = 0 := by rw [hs0 87 (by simp), s7 87 (by simp), up_at]
  have hpn := (hP n.toNat (by omega)).1
  have hcl : ∀ (v : Int) (M : Mm), f_X11_foundWith n a 304 M4 = some (v, M) → f_X11_valueAnew n a MC = some (0, v, M) := by
    intro v M hf
    unfold f_X11_valueAnew
    rw [g_mustNode q5, if_pos o1, g_mustAttr q1, if_pos o2]
    show Cl (f_X7_settle MC) _ = _
    rw [s1, ClS, c3_clear, ClS, alenC_306]
    have : (sr M3 (304 + 2) fun j => if j < 180 then 0 else M3 (304 + 2) j) = M4 := hM4
    rw [this, hf, ClS]
  have hrf : ∀ w : Int, (N3 12 a.toNat ≠ 3 → w = v) → (N3 12 a.toNat = 3 → w = RG N3 (6 * n + a).toNat) → f_X12_valueAnew n a MR = some (w, N5) := by
    intro w hw1 hw2
    have hx := ixN_eq (S := N3) h1.1 ⟨h2.1, Int.lt_of_lt_of_le h2.2 h12.2⟩
    unfold f_X12_valueAnew f_X12_isPair f_X12_findsAnew; simp only [LtE]
    rw [r_isNode hN, ClS, if_pos o1, if_neg (by decide), r_isAttribute hA, ClS, if_pos o2, if_neg (by decide), ClS, if_neg (by decide), r_fails, ClS, if_pos (by decide)]
    rw [s2, ClS, r_clears, ClS, hN4, f2, ClS, hN5, gdE (by omega), e12]
    by_cases k3 : N3 12 a.toNat = 3
    · have h55 := s4.2.2 (6 * n + a).toNat (by omega) (by rw [hx.2.1]; omega) (by rw [hx.2.1]; exact k3)
      rw [hx.2.2] at h55
      have hv := s4.2.1 (6 * n + a).toNat (by omega)
      have e55 : N5 55 = N3 55 := by rw [n5 55 (by decide)]; exact f10 55 (by simp)
      have hpv := pv_lo (S := N3) hv.2
      rw [if_neg (fun q => q k3), gdE (by omega), e36, wrE (v := 6 * N3 36 n.toNat) (by omega) (by omega), wrE (by omega) (by omega), gdE (by omega), e55, h55, ClS, ← hpv, r_told hPs e035 e36 h35 (by omega), ClS, hw2 k3]
    · rw [if_pos k3, ClS, r_told hPs e035 e36 h35 f3.2, ClS, hw1 k3]
  by_cases k3 : N3 12 a.toNat = 3
  · refine ⟨(0, RG N3 (6 * n + a).toNat, M4), (RG N3 (6 * n + a).toNat, N5), hcl _ _ ?_, hrf _ (fun q => absurd k3 q) (fun _ => rfl), by simp, by simp only; rw [h87]; rfl, fun _ => rfl, hI5 M4 (fun j hj => m4 j (by omega)) m310 fun s hs => by rw [m4 313 (by decide)]; exact q36.2 s hs⟩
    unfold f_X11_foundWith
    rw [hkc, ClS, if_neg (fun q => q k3), c_slotOf (by omega) (by omega), ClS]
    unfold f_X7_valueOf
    rw [c_entryOf_in 180 alenC_309 (by omega) (by omega), ClS, ClS, m4 309 (by decide), s4.1 _ (by omega)]
  · refine ⟨(0, v, MC'), (v, N5), hcl _ _ ?_, hrf _ (fun _ => rfl) (fun q => absurd q k3), by simp, by simp only; rw [h87]; rfl, fun _ => rfl, hI5 MC' f7 (by rw [f8]; exact m310) f9⟩
    unfold f_X11_foundWith
    rw [hkc, ClS, if_pos k3, f1, ClS]
/-! why -/
theorem enc_ten {x : Int} (h : 0 ≤ x ∧ x < 180) : wr (wr (10 * wr (Int.tdiv x 6)) + jrem x 6) = enc x := by
  obtain ⟨y, rfl⟩ : ∃ y : Nat, x = (y : Int) := ⟨x.toNat, by omega⟩
  have := jrem_6 (k := y) (by omega)
  rw [this.1, this.2, wrE (v := 10 * _) (by omega) (by omega), wrE (by omega) (by omega)]
  unfold enc
  omega
theorem s_why {RG : Mm → Nat → Int} (hRG : RGok RG) (hRs : RGs RG) : S_why (Inv RG) := by
  intro MC MR k n a w i1 i2 i3 hI hk
  obtain ⟨hp, hV, hR, V, H, b1, b2, b3⟩ := id hI
  obtain ⟨⟨p1, p2, p3, p4, p5⟩, ⟨q1, q2, q3, q4, q5⟩, q6, q7, p6⟩ := id hp
  have hA := p1.2.1
  have hN := p5.1
  have e80 : ∀ i, i ≠ 80 → up MR 0 80 0 0 i = MR 0 i := fun i hi => by simp [up, hi]
  have hI80 : Inv RG MC (up MR 0 80 0) k := hI.of hRG k (fun j hj => up_ne _ _ _ (by omega)) (fun i hi => e80 i (by omega)) (fun _ _ => rfl) rfl rfl
  by_cases h : (0 ≤ n ∧ n < MR 0 35) ∧ (0 ≤ a ∧ a < MR 0 12)
  case neg =>
    refine ⟨(1, 0, MC), (0, up (up MR 0 80 0) 0 87 1), ?_, ?_, by simp, by simp [up], by simp, hI80.thr hRG _ _⟩
    · unfold f_X11_why; rw [g_mustNode q5]
      by_cases h1 : 0 ≤ n ∧ n < MR 0 35
      · rw [if_pos h1, g_mustAttr q1, if_neg (fun q => h ⟨h1, q⟩)]
      · rw [if_neg h1]
    · unfold f_X12_why f_X12_isPair; simp only [LtE]
      rw [r_isNode hN, ClS]
      by_cases h1 : 0 ≤ n ∧ n < MR 0 35
      · rw [if_pos h1, if_neg (by decide), r_isAttribute hA, ClS, if_neg (fun q => h ⟨h1, q⟩), if_pos rfl, ClS, if_pos rfl, if_pos rfl, r_fails, ClS, if_neg (by decide)]
      · rw [if_neg h1, if_pos rfl, ClS, if_pos rfl, if_pos rfl, r_fails, ClS, if_neg (by decide)]
  obtain ⟨h1, h2⟩ := h
  have o1 := h1
  have o2 := h2
  obtain ⟨M3, N3, s1, s2, s3, s4, s5, s6, s7⟩ := settle_inv hRG hRs hI80
  rw [← e80 35 (by decide), ← s7 35 (by simp)] at h1
  rw [← e80 12 (by decide), ← s7 12 (by simp)] at h2
  have hp3 := s3.1
  obtain ⟨⟨p31, -, -, -, p35⟩, ⟨q31, -, -, -, -⟩, q36, q37, p36⟩ := id hp3
  have h12 := p31.2.1
  have h35 := p35.1
  have hP := p36.pl
  generalize hM4 : (sr M3 306 fun j => if j < 180 then 0 else M3 306 j) = M4
  generalize hM5 : up (up M4 310 0 0) 310 11 1 = M5
  generalize hN4 : (sr (up (up N3 0 79 1) 0 68 360) 50 fun j => if 360 ≤ j ∧ j < 720 then 0 else N3 50 j) = N4
  have m4 : ∀ j, j ≠ 306 → M4 j = M3 j := fun j hj => by rw [← hM4, sr_ne _ _ hj]
  have m5 : ∀ j, j ≠ 310 → M5 j = M4 j := fun j hj => by rw [← hM5, up_ne _ _ _ hj, up_ne _ _ _ hj]
  have m511 : M5 310 11 = 1 := by rw [← hM5, up_at]
  have n4 : ∀ j, j ≠ 0 → j ≠ 50 → N4 j = N3 j := fun j a b => by rw [← hN4, sr_ne _ _ b, up_ne _ _ _ a, up_ne _ _ _ a]
  have n40 : ∀ i, i ≠ 68 → i ≠ 79 → N4 0 i = N3 0 i := fun i hi hj => by rw [← hN4, sr_ne _ _ (by decide)]; simp [up, hi, hj]
  have n479 : N4 0 79 = 1 := by rw [← hN4, sr_ne _ _ (by decide)]; simp [up]
  obtain ⟨v, lf, MC', MR', f1, f2, f3, f4, f5, f6, f7, f8, f9, f10, f11, f12, f13, f14⟩ := scr_find s3 s4 h1 h2 (M4 := M5) (N4 := N4) (fun j a b => by rw [m5 j b, m4 j a]) (fun s hs => by rw [m5 306 (by decide), ← hM4, sr_at, if_pos hs]) (fun _ => by rw [← hM5]; simp [up]) n4 (fun i hi => by rw [← hN4, sr_at, if_neg (by omega)]) (fun i a b => by rw [← hN4, sr_at, if_pos ⟨a, b⟩]) (by rw [← hN4, sr_ne _ _ (by decide), up_at]) (fun i a b _ => n40 i a b)
  have hL := f5 (by rw [m511]; decide)
  have hLR := f6 (by rw [n479]; decide)
  have hlen := f4.len
  generalize hM6 : up MC' 310 11 0 = M6
  generalize hN6 : up (up MR' 0 68 0) 0 79 0 = N6
  have m6 : ∀ j, j ≠ 310 → M6 j = MC' j := fun j hj => by rw [← hM6, up_ne _ _ _ hj]
  have m60 : ∀ i, i ≠ 11 → M6 310 i = MC' 310 i := fun i hi => by rw [← hM6]; simp [up, hi]
  have n6 : ∀ j, j ≠ 0 → N6 j = MR' j := fun j hj => by rw [← hN6, up_ne _ _ _ hj, up_ne _ _ _ hj]
  have n60 : ∀ i, i ≠ 68 → i ≠ 79 → N6 0 i = MR' 0 i := fun i hi hj => by rw [← hN6]; simp [up, hi, hj]
  have hs0 : ∀ i, i = 0 ∨ i = 12 ∨ i = 14 ∨ i = 15 ∨ i = 19 ∨ i = 33 ∨ i = 35 ∨ i = 36 ∨ i = 87 → N6 0 i = N3 0 i := fun i hi => by rw [n60 i (by omega) (by omega), f14 i (by omega) (by omega) (by omega) (by omega) (by omega) (by omega) (by omega) (by omega), n40 i (by omega) (by omega)]
  have hI6 : Inv RG M6 N6 (k + 1) := scr_inv hRG s3 (k + 1) (fun j hj => by rw [m6 j (by omega)]; exact f7 j hj) (by rw [← hM6, up_at]) (fun s hs => by rw [m6 313 (by decide)]; exact f9 s hs) (fun j hj => by rw [n6 j (by omega)]; exact f10 j (Or.inl hj)) (fun j hj i hi => by rw [n6 j (by omega)]; exact f11 j hj i hi) (fun i hi => by rw [n6 51 (by decide)]; exact f12 i hi) (by rw [n60 67 (by decide) (by decide)]; exact f13) (by rw [← hN6]; simp [up]) (by rw [← hN6, up_at]) (fun i hi => hs0 i (by omega))
  have hc : f_X11_why n a w MC = (if w < 0 then some (1, 0, M6) else if w < (lf.length : Int) then some (0, enc (lf.getD w.toNat 0), M6) else some (1, 0, M6)) := by
    unfold f_X11_why
    rw [g_mustNode q5, if_pos o1, g_mustAttr q1, if_pos o2]
    show Cl (f_X7_settle MC) _ = _
    rw [s1, ClS, c3_clear, ClS, alenC_306]
    have hM4' : (sr M3 (304 + 2) fun j => if j < 180 then 0 else M3 (304 + 2) j) = M4 := hM4
    rw [hM4']
    have hfl : f_X2_findListing n a 304 M4 = some (0, M6) := by
      unfold f_X2_findListing
      simp only [LtE]
      rw [hM5, f1, ClS, hM6]
    rw [hfl, ClS]
    simp only [LtE]
    have e0 : M6 310 0 = (lf.length : Int) := by rw [m60 0 (by decide)]; exact hL.1
    rw [e0]
    by_cases c1 : w < 0
    · rw [if_pos c1, if_pos c1]
    rw [if_neg c1, if_neg c1]
    by_cases c2 : w < (lf.length : Int)
    · have e1 : M6 311 w.toNat = lf.getD w.toNat 0 := by rw [m6 311 (by decide)]; exact hL.2 _ (by omega)
      have hmem : lf.getD w.toNat 0 ∈ lf := by rw [List.getD_eq_getElem?_getD, List.getElem?_eq_getElem (by omega)]; exact List.getElem_mem _
      rw [if_pos c2, if_pos c2, c_entryOf, alenC_311, if_pos (by omega), ClS, e1, enc_ten (f4.2 _ hmem)]
    · rw [if_neg c2, if_neg c2]
  have hr : ∀ (r v' : Int) (x : Int), (r = if 0 ≤ w ∧ w < (lf.length : Int) then 0 else 1) → (v' = if 0 ≤ w ∧ w < (lf.length : Int) then enc (lf.getD w.toNat 0) else 0) → f_X12_why n a w MR = some (v', up N6 0 87 r) := by
    intro r v' x hr1 hv1
    unfold f_X12_why f_X12_isPair; simp only [LtE]
    rw [r_isNode hN, ClS, if_pos o1, if_neg (by decide), r_isAttribute hA, ClS, if_pos o2, if_neg (by decide), ClS, if_neg (by decide), s2, ClS, r_clears, ClS]
    have hN4' : (sr (up (up N3 0 79 1) 0 68 360) 50 fun j => if 360 ≤ j ∧ j < 720 then 0 else up N3 0 79 1 50 j) = N4 := hN4
    rw [hN4', f2, ClS, hN6, if_neg (by decide)]
    have e0 : N6 0 80 = (lf.length : Int) := by rw [n60 80 (by decide) (by decide)]; exact hLR.1
    rw [e0, wrE (by omega) (by omega), r_isIn, ClS]
    by_cases c : 0 ≤ w ∧ w < (lf.length : Int)
    · rw [if_pos c] at hr1 hv1
      have e1 : N6 61 w.toNat = enc (lf.getD w.toNat 0) := by rw [n6 61 (by decide)]; exact hLR.2 _ (by omega)
      rw [if_pos (c := 0 ≤ w ∧ _) (by omega), if_neg (by decide), r_fails, ClS, if_pos (by decide)]
      have e2 : up N6 0 87 0 61 = N6 61 := up_ne _ _ _ (by decide)
      rw [gdE (by omega), e2, e1, hv1, hr1]
    · rw [if_neg c] at hr1 hv1
      rw [if_neg (c := 0 ≤ w ∧ _) (by omega), if_pos rfl, r_fails, ClS, if_neg (by decide), hv1, hr1]
  by_cases c : 0 ≤ w ∧ w < (lf.length : Int)
  · refine ⟨(0, enc (lf.getD w.toNat 0), M6), (enc (lf.getD w.toNat 0), up N6 0 87 0), by rw [hc, if_neg (by omega), if_pos c.2], hr 0 _ 0 (by rw [if_pos c]) (by rw [if_pos c]), by simp, by simp [up], fun _ => rfl, hI6.thr hRG _ _⟩
  · refine ⟨(1, 0, M6), (0, up N6 0 87 1), ?_, hr 1 0 0 (by rw [if_neg c]) (by rw [if_neg c]), by simp, by simp [up], by simp, hI6.thr hRG _ _⟩
    rw [hc]
    by_cases c1 : w < 0
    · rw [if_pos c1]
    · rw [if_neg c1, if_neg (by omega)]
