/-! a round as a whole, on both sides -/
def FsC (M M' : Mm) : Prop := ∀ j, ¬ (304 ≤ j ∧ j ≤ 306) → j ≠ 309 → j ≠ 310 → j ≠ 311 → j ≠ 313 → ¬ (314 ≤ j ∧ j < 676) → j ≠ 677 → M' j = M j
def FsR (M M' : Mm) : Prop := (∀ j, j ≠ 0 → ¬ (50 ≤ j ∧ j ≤ 64) → M' j = M j) ∧ (∀ j, 50 ≤ j ∧ j ≤ 54 → ∀ i, i < 360 → M' j i = M j i) ∧ ∀ i, i ≠ 67 → i ≠ 68 → i ≠ 69 → i ≠ 72 → i ≠ 73 → i ≠ 74 → i ≠ 75 → i ≠ 76 → i ≠ 80 → M' 0 i = M 0 i
theorem FsC.trans {A B C : Mm} (h : FsC A B) (h' : FsC B C) : FsC A C := fun j a b c d e f g => (h' j a b c d e f g).trans (h j a b c d e f g)
theorem FsR.trans {A B C : Mm} (h : FsR A B) (h' : FsR B C) : FsR A C := ⟨fun j a b => (h'.1 j a b).trans (h.1 j a b), fun j a i b => (h'.2.1 j a i b).trans (h.2.1 j a i b), fun i a b c d e f g k l => (h'.2.2 i a b c d e f g k l).trans (h.2.2 i a b c d e f g k l)⟩
theorem FsC.refl (M : Mm) : FsC M M := fun _ _ _ _ _ _ _ _ => rfl
theorem FsR.refl (M : Mm) : FsR M M := ⟨fun _ _ _ => rfl, fun _ _ _ _ => rfl, fun _ _ _ _ _ _ _ _ _ _ => rfl⟩
theorem round_both {S C : Mm} (hg : Okg S) (hO : Oke S) (hN : Okn S) (hE : CE C S) (hP : PlO S) {ra rg : Nat → Int} (hra : ∀ s, s < 180 → ra s = rg s) (hbd : ∀ s, s < 180 → -3 ≤ rg s ∧ rg s < 1000) {MC MR : Mm} (hC : RnC S C ra MC) (hR : RnR S ra MR) :
    ∃ (rg' ra' : Nat → Int) (ch : Bool) (MC' MR' : Mm), RRd S rg rg' ch ∧ (∀ s, s < 180 → ra' s = rg' s) ∧ (∀ s, s < 180 → -3 ≤ rg' s ∧ rg' s < 1000) ∧ f_X7_goRound MC = some (b2i ch, MC') ∧ f_X12_changes MR = some (b2i ch, MR') ∧ RnC S C ra' MC' ∧ RnR S ra' MR' ∧ FsC MC MC' ∧ FsR MR MR' ∧ MR' 0 67 = MR 0 67 := by
  have h35 := hN.1
  have h12 := hg.2.1
  generalize hbh : (fun j => if j < 180 then 0 else MC 306 j : Nat → Int) = bh
  have hbh0 : ∀ s, s < 180 → bh s = 0 := fun s hs => by rw [← hbh]; exact if_pos hs
  have hCr := rnC_rest hO hC
  rw [hbh] at hCr
  have hRr := rnR_rest hP h35 h12 (bv := MC 305) hbh0 hR
  generalize hM1 : sr MC 306 bh = M1 at hCr
  generalize hN1 : (sr (up MR 0 68 360) 50 fun j => if 360 ≤ j ∧ j < 720 then 0 else MR 50 j) = N1 at hRr
  have m1 : ∀ j, j ≠ 306 → M1 j = MC j := fun j hj => by rw [← hM1, sr_ne _ _ hj]
  have n1 : ∀ j, j ≠ 0 → j ≠ 50 → N1 j = MR j := fun j a b => by rw [← hN1, sr_ne _ _ b, up_ne _ _ _ a]
  have n10 : ∀ i, i ≠ 68 → N1 0 i = MR 0 i := fun i hi => by rw [← hN1, sr_ne _ _ (by decide)]; simp [up, hi]
  have n150 : ∀ i, i < 360 → N1 50 i = MR 50 i := fun i hi => by rw [← hN1, sr_at, if_neg (by omega)]
  obtain ⟨c1, c2, c3, c4, c5, c6⟩ := hC
  obtain ⟨r1, r2, r3, r4, r5, r6⟩ := hR
  have hI : RdI S C ra 0 (MC 305, bh, (fun _ => 0), false) M1 N1 := by
    refine ⟨hCr, by rw [m1 310 (by decide)]; exact c5, hRr, ⟨fun s hs => by rw [hra s hs]; exact hbd s hs, fun s hs hn => absurd (hbh0 s hs) hn⟩, fun s hs => ?_, by rw [n10 67 (by decide)]; exact r6, fun s _ hs _ => hbh0 s hs, fun s hs => absurd hs (Nat.not_lt_zero _)⟩
    simp only
    rw [hbh0 s hs]
    exact ⟨by decide, fun i hi => by rw [bt0] at hi; cases hi⟩
  obtain ⟨st', M2, N2, l1, l2, l3, l4, l5, l6, l7⟩ := ring_round hg hO hN hE hP (J1 := fun v2 M3 => Cl (f_X11_copyRow 677 309 M3) fun _ M5 => some (v2, M5)) (J2 := fun v2 M3 => Lp (f_X12_changes_L129_36 fun v5 M6 => some (v5, M6)) FU (v2, 0, M3)) _ 0 FU FU M1 N1 (MC 305, bh, (fun _ => 0), false) (Nat.zero_add _) (FU_lt (by omega)) (FU_lt (by omega)) hI
  obtain ⟨i1, i2, i3, i4, i5, i6, -, i8⟩ := l4
  have hlt : ∀ s ∈ rsl S (6 * (S 0 35).toNat) 0, s < 180 := fun s hs => by have := rsl_lt S _ _ _ hs; omega
  obtain ⟨y', y1, y2⟩ := l1.cong hra _ hlt (y := (MC 305, bh, (fun _ => 0), false)) ⟨fun _ _ => rfl, fun _ _ _ => rfl, rfl⟩
  have hrd : RRd S rg st'.2.2.1 st'.2.2.2 := ⟨MC 305, bh, y', hbh0, y1, by rw [y2.2.2], by rw [y2.2.2]⟩
  have hoff : ∀ i, i ∉ rsl S (6 * (S 0 35).toNat) 0 → st'.2.2.1 i = 0 := fun i hi => l1.off _ i hi
  have hmem : ∀ s, s ∈ rsl S (6 * (S 0 35).toNat) 0 ↔ s < 6 * (S 0 35).toNat ∧ ((s % 6 : Nat) : Int) < S 0 12 ∧ S 12 (s % 6) = 3 := fun s => by
    rw [rsl_mem]
    exact ⟨fun q => ⟨by omega, q.2⟩, fun q => ⟨⟨Nat.zero_le _, by omega⟩, q.2⟩⟩
  have h677 : ∀ s, s < 180 → M2 677 s = st'.2.2.1 s := fun s hs => by
    by_cases c : s < 6 * (S 0 35).toNat ∧ ((s % 6 : Nat) : Int) < S 0 12 ∧ S 12 (s % 6) = 3
    · exact (i8 s c.1 c.2.1 c.2.2).1
    · rw [hoff s fun q => c ((hmem s).mp q), l5.2 s fun q => c ⟨q.2.2, q.1, q.2.1⟩, m1 677 (by decide)]
      exact c6 s (fun q => c ⟨q.2.2, q.1, q.2.1⟩) hs
  have hbd' : ∀ s, s < 180 → -3 ≤ st'.2.2.1 s ∧ st'.2.2.1 s < 1000 := fun s hs => by
    by_cases c : s < 6 * (S 0 35).toNat ∧ ((s % 6 : Nat) : Int) < S 0 12 ∧ S 12 (s % 6) = 3
    · exact (i8 s c.1 c.2.1 c.2.2).2.2
    · rw [hoff s fun q => c ((hmem s).mp q)]; exact ⟨by decide, by decide⟩
  -- the class takes the row over
  generalize hM3 : (sr M2 309 fun j => if j < 180 then M2 677 j else M2 309 j) = M3
  have m3 : ∀ j, j ≠ 309 → M3 j = M2 j := fun j hj => by rw [← hM3, sr_ne _ _ hj]
  have m2 : ∀ j, ¬ (304 ≤ j ∧ j ≤ 306) → j ≠ 310 → j ≠ 311 → j ≠ 313 → ¬ (314 ≤ j ∧ j < 676) → j ≠ 677 → M2 j = MC j := fun j a b c d e f => by rw [l5.1 j a b c d e f, m1 j (by omega)]
  have hcl : f_X7_goRound MC = some (b2i st'.2.2.2, M3) := by
    unfold f_X7_goRound
    simp only [LtE]
    rw [c3_clear, ClS, alenC_306]
    have hM1' : (sr MC (304 + 2) fun j => if j < 180 then 0 else MC (304 + 2) j) = M1 := by rw [← hM1, ← hbh]
    rw [hM1']
    refine Eq.trans l2 ?_
    rw [c_copyRow (by rw [alenC_677, alenC_309]) (by decide), ClS, alenC_309, hM3]
  -- the reference takes the row over
  have e35 : N2 0 35 = S 0 35 := i3.1.2 35 (by simp)
  have e36 : N2 36 = S 36 := i3.2.2.1
  have e012 : N2 0 12 = S 0 12 := i3.1.2 12 (by simp)
  have e12 : N2 12 = S 12 := i3.1.1 12 (by decide) (by decide) (by decide)
  obtain ⟨N3, o1, o2, o3⟩ := r_over hP h35 h12 (J := fun v5 M6 => some (v5, M6)) (v := b2i st'.2.2.2) _ 0 FU N2 (Nat.zero_add _) (FU_lt (by omega)) e35 e36 e012 e12
  have hrl : f_X12_changes MR = some (b2i st'.2.2.2, N3) := by
    unfold f_X12_changes
    simp only [LtE]
    rw [r_clears, ClS, hN1]
    exact Eq.trans l3 o1
  have n2 : ∀ j, j ≠ 0 → ¬ (50 ≤ j ∧ j ≤ 54) → j ≠ 56 → ¬ (57 ≤ j ∧ j ≤ 64) → N2 j = MR j := fun j a b c d => by rw [l6.1 j a b c d, n1 j a (by omega)]
  refine ⟨st'.2.2.1, M3 309, st'.2.2.2, M3, N3, hrd, fun s hs => ?_, hbd', hcl, hrl, ?_, ?_, ?_, ?_, ?_⟩
  · rw [← hM3, sr_at, if_pos hs]; exact h677 s hs
  · refine ⟨i1.1.of hO fun j hj => m3 j (by omega), fun j j1 j2 => by rw [m3 j (by omega)]; exact i1.2.1 j j1 j2, rfl, fun s hs => by rw [m3 313 (by decide)]; exact i1.2.2.2.2.2 s hs, by rw [m3 310 (by decide)]; exact i2, fun i hi h180 => ?_⟩
    rw [m3 677 (by decide), l5.2 i hi, m1 677 (by decide)]
    exact c6 i hi h180
  · refine ⟨⟨fun j j1 j2 j3 => by rw [o2 j (by omega)]; exact i3.1.1 j j1 j2 j3, fun i hi => by rw [o2 0 (by decide)]; exact i3.1.2 i hi⟩, by rw [o2 0 (by decide)]; exact i3.2.1, by rw [o2 36 (by decide)]; exact e36, fun i hi => ?_, fun s hs k1 k3 => ?_, by rw [o2 0 (by decide)]; exact i6⟩
    · rw [o2 51 (by decide)]
      by_cases c : ∃ n a : Int, 0 ≤ n ∧ n < S 0 35 ∧ 0 ≤ a ∧ a < S 0 12 ∧ i = ixR S 360 n a
      · obtain ⟨n, a, a1, a2, a3, a4, a5⟩ := c
        have := (i3.2.2.2.2 n a a1 a2 a3 a4).2.1
        rw [if_neg (fun q => (by cases q))] at this
        rw [a5]
        exact this
      · rw [l6.2.1 51 ⟨by decide, by decide⟩ i fun n a a1 a2 a3 a4 a5 => c ⟨n, a, a1, a2, a3, a4, a5⟩, n1 51 (by decide) (by decide)]
        exact r4 i hi
    · rw [o3 s hs, if_pos (Nat.zero_le _), ← hM3, sr_at, if_pos (by omega), h677 s (by omega)]
      unfold nw5
      rw [if_pos ⟨k1, k3⟩]
      exact (i8 s hs k1 k3).2.1
  · intro j a b c d e f g
    rw [m3 j b, m2 j a c d e f g]
  · refine ⟨fun j a b => by rw [o2 j (by omega), n2 j a (by omega) (by omega) (by omega)], fun j hj i hi => ?_, fun i a b c d e f g h k => by rw [o2 0 (by decide), l6.2.2 i a c d e f g h k, n10 i b]⟩
    rw [o2 j (by omega), l6.2.1 j hj i fun n b n0 n1' b0 b1 q => ?_]
    · by_cases c : j = 50
      · rw [c]; exact n150 i hi
      · rw [n1 j (by omega) c]
    · have := (hP n.toNat (by omega)).1
      unfold ixR at q
      omega
  · rw [o2 0 (by decide), l7, n10 67 (by decide)]
