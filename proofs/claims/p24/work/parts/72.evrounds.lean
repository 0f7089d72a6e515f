/-! all rounds, on both sides -/
theorem b2i_ne (b : Bool) : (b2i b = 0) ↔ b = false := by cases b <;> simp [b2i]
theorem ixN_lt {S : Mm} (hP : PlO S) {s : Nat} (hs : ((s / 6 : Nat) : Int) < S 0 35) : ixN S s < 360 := by
  have := (hP (s / 6) hs).1
  unfold ixN
  omega
theorem rounds_both {S C : Mm} (hg : Okg S) (hO : Oke S) (hN : Okn S) (hE : CE C S) (hP : PlO S) : ∀ (f k : Nat) (F1 F2 : Nat) {ra rg : Nat → Int} {MC MR : Mm}, k + f = 30 → f < F1 → f + 1 < F2 → (∀ s, s < 180 → ra s = rg s) → (∀ s, s < 180 → -3 ≤ rg s ∧ rg s < 1000) → RnC S C ra MC → RnR S ra MR →
    ∃ (out ra' : Nat → Int) (MC' MR' : Mm), RSt S f rg out ∧ (∀ s, s < 180 → ra' s = out s) ∧ (∀ s, s < 180 → -3 ≤ out s ∧ out s < 1000) ∧
      Lp (f_X7_settle_L31_19 (fun M6 => Cl (f_X11_fillRow 309 (-2) M6) fun _ M8 => some (0, M8)) fun M9 => some (0, M9)) F1 ((k : Int), MC) = some (0, MC') ∧
      Lp (f_X12_findsRings_L64_31 fun v7 M8 => Lp (f_X12_findsRings_L87_21 fun M10 => some (0, up M10 0 68 0)) FU (v7, 0, M8)) F2 (1, ((k + 1 : Nat) : Int), MR) = some (0, up MR' 0 68 0) ∧
      RnC S C ra' MC' ∧ RnR S ra' MR' ∧ FsC MC MC' ∧ FsR MR MR' ∧ MR' 0 67 = MR 0 67 := by
  have h35 := hN.1
  intro f
  induction f with
  | zero =>
    intro k F1 F2 ra rg MC MR hk h1 h2 hra hbd hC hR
    obtain ⟨G, rfl⟩ : ∃ G, F1 = G + 1 := ⟨F1 - 1, by omega⟩
    obtain ⟨H, rfl⟩ : ∃ H, F2 = H + 1 := ⟨F2 - 1, by omega⟩
    generalize hM1 : (sr MC 309 fun j => if j < 180 then -2 else MC 309 j) = M1
    generalize hN1 : (sr MR 55 fun j => if j < 360 then -2 else MR 55 j) = N1
    have m1 : ∀ j, j ≠ 309 → M1 j = MC j := fun j hj => by rw [← hM1, sr_ne _ _ hj]
    have n1 : ∀ j, j ≠ 55 → N1 j = MR j := fun j hj => by rw [← hN1, sr_ne _ _ hj]
    obtain ⟨c1, c2, c3, c4, c5, c6⟩ := hC
    obtain ⟨r1, r2, r3, r4, r5, r6⟩ := hR
    have h309 : ∀ s, s < 180 → M1 309 s = -2 := fun s hs => by rw [← hM1, sr_at, if_pos hs]
    refine ⟨fun _ => -2, M1 309, M1, N1, rfl, h309, fun _ _ => ⟨show (-3 : Int) ≤ -2 by decide, show (-2 : Int) < 1000 by decide⟩, ?_, ?_, ?_, ?_, ?_, ?_, ?_⟩
    · rw [Lp_s]
      simp only [f_X7_settle_L31_19]
      rw [if_pos (by omega), c_fillRow, ClS, alenC_309, hM1]
    · rw [Lp_s]
      simp only [f_X12_findsRings_L64_31]
      rw [if_pos (by omega), r_fill2, if_neg (by decide), hN1]
    · exact ⟨c1.of hO fun j hj => m1 j (by omega), fun j j1 j2 => by rw [m1 j (by omega)]; exact c2 j j1 j2, rfl, fun s hs => by rw [m1 313 (by decide)]; exact c4 s hs, by rw [m1 310 (by decide)]; exact c5, fun i hi h180 => by rw [m1 677 (by decide)]; exact c6 i hi h180⟩
    · refine ⟨⟨fun j j1 j2 j3 => by rw [n1 j (by omega)]; exact r1.1 j j1 j2 j3, fun i hi => by rw [n1 0 (by decide)]; exact r1.2 i hi⟩, by rw [n1 0 (by decide)]; exact r2, by rw [n1 36 (by decide)]; exact r3, fun i hi => by rw [n1 51 (by decide)]; exact r4 i hi, fun s hs k1 k3 => ?_, by rw [n1 0 (by decide)]; exact r6⟩
      rw [h309 s (by omega), ← hN1, sr_at, if_pos (ixN_lt hP (by omega))]
    · exact fun j a b c d e f g => m1 j b
    · exact ⟨fun j a b => n1 j (by omega), fun j hj i hi => by rw [n1 j (by omega)], fun i a b c d e f g h k => by rw [n1 0 (by decide)]⟩
    · rw [n1 0 (by decide)]
  | succ f ih =>
    intro k F1 F2 ra rg MC MR hk h1 h2 hra hbd hC hR
    obtain ⟨G, rfl⟩ : ∃ G, F1 = G + 1 := ⟨F1 - 1, by omega⟩
    obtain ⟨H, rfl⟩ : ∃ H, F2 = H + 1 := ⟨F2 - 1, by omega⟩
    obtain ⟨rg', ra', ch, M1, N1, a1, a2, a3, a4, a5, a6, a7, a8, a9, a10⟩ := round_both hg hO hN hE hP hra hbd hC hR
    have hc1 : ∀ z, Lp (f_X7_settle_L31_19 (fun M6 => Cl (f_X11_fillRow 309 (-2) M6) fun _ M8 => some (0, M8)) fun M9 => some (0, M9)) (G + 1) ((k : Int), MC) = z ↔ (if ¬ b2i ch = 0 then Lp (f_X7_settle_L31_19 (fun M6 => Cl (f_X11_fillRow 309 (-2) M6) fun _ M8 => some (0, M8)) fun M9 => some (0, M9)) G (((k + 1 : Nat) : Int), M1) else some (0, M1)) = z := by
      intro z
      rw [Lp_s]
      simp only [f_X7_settle_L31_19, LtE]
      rw [if_neg (by omega), a4, ClS, wrE (by omega) (by omega)]
      exact Iff.rfl
    have hc2 : ∀ z, Lp (f_X12_findsRings_L64_31 fun v7 M8 => Lp (f_X12_findsRings_L87_21 fun M10 => some (0, up M10 0 68 0)) FU (v7, 0, M8)) (H + 1) (1, ((k + 1 : Nat) : Int), MR) = z ↔ Lp (f_X12_findsRings_L64_31 fun v7 M8 => Lp (f_X12_findsRings_L87_21 fun M10 => some (0, up M10 0 68 0)) FU (v7, 0, M8)) H (b2i ch, ((k + 1 + 1 : Nat) : Int), N1) = z := by
      intro z
      rw [Lp_s]
      simp only [f_X12_findsRings_L64_31, LtE]
      rw [if_neg (by omega), if_neg (by decide), a5, ClS, wrE (by omega) (by omega)]
      exact Iff.rfl
    cases ch with
    | true =>
      obtain ⟨out, rb, M2, N2, b1, b2, b3, b4, b5, b6, b7, b8, b9, b10⟩ := ih (k + 1) G H (by omega) (by omega) (by omega) a2 a3 a6 a7
      refine ⟨out, rb, M2, N2, ⟨rg', true, a1, Or.inl ⟨rfl, b1⟩⟩, b2, b3, ?_, ?_, b6, b7, a8.trans b8, a9.trans b9, b10.trans a10⟩
      · rw [hc1, if_pos (by decide)]; exact b4
      · rw [hc2]; exact b5
    | false =>
      refine ⟨rg', ra', M1, N1, ⟨rg', false, a1, Or.inr ⟨rfl, rfl⟩⟩, a2, a3, ?_, ?_, a6, a7, a8, a9, a10⟩
      · rw [hc1, if_neg (by decide)]
      · rw [hc2]
        obtain ⟨H2, rfl⟩ : ∃ H2, H = H2 + 1 := ⟨H - 1, by omega⟩
        rw [Lp_s]
        simp only [f_X12_findsRings_L64_31]
        have e0 : b2i false = 0 := rfl
        rw [e0]
        split
        · rw [r_fill2, if_pos rfl]
        · rw [if_pos rfl, r_fill2, if_pos rfl]
/-! without a RING attribute no round finds anything -/
theorem hasR_no {S : Mm} : ∀ {n : Nat}, hasR S n = false → ∀ i, i < n → S 12 i ≠ 3 := by
  intro n
  induction n with
  | zero => intro _ i hi; exact absurd hi (Nat.not_lt_zero _)
  | succ n ih =>
    intro h i hi
    simp only [hasR, Bool.or_eq_false_iff, decide_eq_false_iff_not] at h
    by_cases c : i = n
    · subst c; exact h.2
    · exact ih h.1 i (by omega)
theorem hasR_cg {S M : Mm} (h : M 12 = S 12) : ∀ n, hasR M n = hasR S n := by
  intro n
  induction n with
  | zero => rfl
  | succ n ih => simp only [hasR, ih, h]
theorem rsl_no {S : Mm} (h : hasR S (S 0 12).toNat = false) : ∀ f k, rsl S f k = [] := by
  intro f
  induction f with
  | zero => intro k; rfl
  | succ f ih =>
    intro k
    simp only [rsl]
    rw [if_neg (fun q => hasR_no h (k % 6) (by omega) q.2)]
    exact ih _
theorem RGr_no {S : Mm} (h : hasR S (S 0 12).toNat = false) {out : Nat → Int} (ho : RGr S out) : out = fun _ => 0 := by
  obtain ⟨rg', ch, ⟨bv, bh, st', h1, h2, h3, h4⟩, h5⟩ := ho
  rw [rsl_no h] at h2
  have h2' : st' = (bv, bh, (fun _ => 0), false) := h2
  rw [h2'] at h3 h4
  rcases h5 with ⟨h5, -⟩ | ⟨-, h5⟩
  · rw [h4] at h5; cases h5
  · rw [h5, h3]
theorem l64_no {J : Int → Mm → Rs} {N : Mm} {F : Nat} (hF : 0 < F) : Lp (f_X12_findsRings_L64_31 J) F (0, 1, N) = J 0 N := by
  obtain ⟨G, rfl⟩ : ∃ G, F = G + 1 := ⟨F - 1, by omega⟩
  rw [Lp_s]
  simp only [f_X12_findsRings_L64_31]
  rw [if_neg (by decide), if_pos trivial]
/-! the RING attributes are settled: both sides -/
theorem settle_both {S C : Mm} (hg : Okg S) (hO : Oke S) (hN : Okn S) (hE : CE C S) (hP : PlO S) {MC MR : Mm} (h6 : MC 676 6 = 0)
    (c1 : SC MC S) (c2 : ∀ j, 33 ≤ j → j ≤ 272 → MC j = C j) (c4 : ∀ s, s < 180 → MC 313 s = 0) (c5 : MC 310 11 = 0)
    (r1 : Ag MR S) (r2 : MR 0 36 = S 0 36) (r3 : MR 36 = S 36) (r4 : ∀ i, i < 720 → MR 51 i = 0) (r6 : i32 (MR 0 67)) :
    ∃ (out ra' : Nat → Int) (MC' MR' : Mm), RGr S out ∧ (∀ s, s < 180 → ra' s = out s) ∧ (∀ s, s < 180 → -3 ≤ out s ∧ out s < 1000) ∧
      f_X7_settle MC = some (0, MC') ∧ f_X12_findsRings MR = some (0, up MR' 0 68 0) ∧ RnC S C ra' MC' ∧ RnR S ra' MR' ∧ FsC (up MC 676 6 1) MC' ∧ FsR MR MR' ∧ MR' 0 67 = MR 0 67 := by
  have h35 := hN.1
  have h12 := hg.2.1
  generalize hM1 : (sr (sr (up MC 676 6 1) 309 fun j => if j < 180 then 0 else MC 309 j) 677 fun j => if j < 180 then 0 else MC 677 j) = M1
  generalize hN1 : (sr MR 55 fun j => if j < 360 then 0 else MR 55 j) = N1
  have m1 : ∀ j, j ≠ 309 → j ≠ 677 → j ≠ 676 → M1 j = MC j := fun j a b c => by rw [← hM1, sr_ne _ _ b, sr_ne _ _ a, up_ne _ _ _ c]
  have n1 : ∀ j, j ≠ 55 → N1 j = MR j := fun j hj => by rw [← hN1, sr_ne _ _ hj]
  have h309 : ∀ s, s < 180 → M1 309 s = 0 := fun s hs => by rw [← hM1, sr_ne _ _ (by decide), sr_at, if_pos hs]
  have hC : RnC S C (M1 309) M1 := ⟨c1.of hO fun j hj => m1 j (by omega) (by omega) (by omega), fun j j1 j2 => by rw [m1 j (by omega) (by omega) (by omega)]; exact c2 j j1 j2, rfl, fun s hs => by rw [m1 313 (by decide) (by decide) (by decide)]; exact c4 s hs, by rw [m1 310 (by decide) (by decide) (by decide)]; exact c5, fun i hi h180 => by rw [← hM1, sr_at, if_pos h180]⟩
  have hR : RnR S (M1 309) N1 := by
    refine ⟨⟨fun j j1 j2 j3 => by rw [n1 j (by omega)]; exact r1.1 j j1 j2 j3, fun i hi => by rw [n1 0 (by decide)]; exact r1.2 i hi⟩, by rw [n1 0 (by decide)]; exact r2, by rw [n1 36 (by decide)]; exact r3, fun i hi => by rw [n1 51 (by decide)]; exact r4 i hi, fun s hs k1 k3 => ?_, by rw [n1 0 (by decide)]; exact r6⟩
    rw [h309 s (by omega), ← hN1, sr_at, if_pos (ixN_lt hP (by omega))]
  have fC : FsC (up MC 676 6 1) M1 := fun j a b c d e f g => by rw [← hM1, sr_ne _ _ g, sr_ne _ _ b]
  have fR : FsR MR N1 := ⟨fun j a b => n1 j (by omega), fun j hj i hi => by rw [n1 j (by omega)], fun i a b c d e f g h k => by rw [n1 0 (by decide)]⟩
  obtain ⟨out, ra', M2, N2, b1, b2, b3, b4, b5, b6, b7, b8, b9, b10⟩ := rounds_both hg hO hN hE hP 30 0 FU FU (ra := M1 309) (rg := fun _ => 0) (Nat.zero_add _) (FU_lt (by omega)) (FU_lt (by omega)) h309 (fun _ _ => ⟨by decide, by decide⟩) hC hR
  have hcl : f_X7_settle MC = some (0, M2) := by
    unfold f_X7_settle
    simp only [LtE]
    rw [if_pos h6, c_fillRow, ClS, c_fillRow, ClS, alenC_309, alenC_677, up_ne _ _ _ (show (309 : Nat) ≠ 676 by decide), sr_ne _ _ (show (677 : Nat) ≠ 309 by decide), up_ne _ _ _ (show (677 : Nat) ≠ 676 by decide), hM1]
    exact b4
  have hrA : ∀ x, f_X12_findsRings MR = x ↔ Lp (f_X12_findsRings_L64_31 fun v7 M8 => Lp (f_X12_findsRings_L87_21 fun M10 => some (0, up M10 0 68 0)) FU (v7, 0, M8)) FU ((if hasR S (S 0 12).toNat then 1 else 0), 1, N1) = x := by
    intro x
    unfold f_X12_findsRings
    simp only [LtE]
    have e12 : MR 0 12 = S 0 12 := r1.2 12 (by simp)
    rw [r_hasR (by rw [e12]; exact h12), r_fill0, hN1, e12, hasR_cg (r1.1 12 (by decide) (by decide) (by decide))]
  cases hh : hasR S (S 0 12).toNat with
  | true =>
    refine ⟨out, ra', M2, N2, b1, b2, b3, hcl, ?_, b6, b7, fC.trans b8, fR.trans b9, b10.trans (by rw [n1 0 (by decide)])⟩
    rw [hrA, hh, if_pos rfl]
    exact b5
  | false =>
    have ho := RGr_no hh b1
    refine ⟨out, ra', M2, N1, b1, b2, b3, hcl, ?_, b6, ?_, fC.trans b8, fR, by rw [n1 0 (by decide)]⟩
    · rw [hrA, hh, if_neg (by decide), l64_no (FU_lt (by decide)), r_fill2, if_pos rfl]
    · obtain ⟨x1, x2, x3, x4, x5, x6⟩ := hR
      exact ⟨x1, x2, x3, x4, fun s hs k1 k3 => absurd k3 (hasR_no hh (s % 6) (by omega)), x6⟩
