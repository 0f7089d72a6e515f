/-! a text read again: what the law asks of it -/
def CNt (C R : Mm) : Prop := C 291 0 = R 0 35 ∧ ∀ n : Nat, (n : Int) < R 0 35 → C 292 n = R 32 n ∧ C 293 n = R 33 n ∧ C 294 n = R 30 n ∧ C 297 n = R 35 n
def SmT (R R' : Mm) : Prop := R' 0 35 = R 0 35 ∧ ∀ n : Nat, (n : Int) < R 0 35 → R' 30 n = R 30 n ∧ R' 32 n = R 32 n ∧ R' 33 n = R 33 n ∧ R' 35 n = R 35 n
theorem CNt.same {C R R' : Mm} (h : CNt C R) (h' : CNt C R') : SmT R R' := by
  have e : R' 0 35 = R 0 35 := by rw [← h.1, h'.1]
  refine ⟨e, fun n hn => ?_⟩
  obtain ⟨a1, a2, a3, a4⟩ := h.2 n hn
  obtain ⟨b1, b2, b3, b4⟩ := h'.2 n (by omega)
  exact ⟨by rw [← b3, a3], by rw [← b1, a1], by rw [← b2, a2], by rw [← b4, a4]⟩
/-- heads of the nodes: as their parents ask -/
def HdS (S R : Mm) : Prop := ∀ n : Nat, (n : Int) < R 0 35 → HdN S R n ∧ S 1 (R 31 n).toNat = S 1 (R 30 n).toNat
def Rdx (C R : Mm) (v : Int) (R' C1 : Mm) : Prop :=
  ((∀ j, 1 ≤ j → j ≤ 29 → R' j = R j) ∧ ∀ i, i ≠ 35 → i ≠ 36 → i ≠ 44 → i ≠ 58 → i ≠ 59 → R' 0 i = R 0 i) ∧ HdS R R' ∧ (f_X9_readInto 291 C = some (0, C1) ∧ CNt C1 R') ∧ (R' 0 35 ≠ 0 → 0 ≤ R' 0 36) ∧ ∃ c : Int, v = 100 * R' 0 35 + c ∧ 0 ≤ c ∧ c ≤ R' 0 35 ∧ c ≤ R 0 35 ∧ (SmT R R' → c = R' 0 35)
theorem reads_det {C R : Mm} (hg : Okg R) (ht : Okt R) (hN : Okn R) (hP : PlO R) (hM : CG C R) (hTT : CT C R) : ∃ C1 v R', f_X9_readInto 291 C = some (0, C1) ∧ f_X12_reads R = some (v, R') ∧ CNt C1 R' := by
  have n0 := hN.1
  obtain ⟨C1, R1, a1, a2, a3, a4, w1, w2, w3, w4, w5, w6, w7, w8, w9⟩ := both_parse hg ht n0 hM hTT
  have hT : Trr R := ⟨n0, hN.2.2⟩
  have hT1 : Trr R1 := ⟨w2, fun n hn => (w3 n hn).1⟩
  have e4 : R1 4 = R 4 := a4.1 4 (by decide) (by decide) (by decide) (by decide)
  obtain ⟨N, T, g, y, d1, hK⟩ := r_keepsNodes hT hP hg hT1 e4 w8 w7
  obtain ⟨f, f1, f2, f3⟩ := r_drops T g y N
  have er : ∀ j, j ≠ 31 → j ≠ 36 → j ≠ 42 → j ≠ 50 → sr N 50 f j = R1 j := fun j a b c d => by rw [sr_ne _ _ d]; exact hK.row j a b c
  refine ⟨C1, _, sr N 50 f, a1, by rw [a2, d1, f1, ClS, ClS], ?_⟩
  refine ⟨by rw [er 0 (by decide) (by decide) (by decide) (by decide)]; exact w1.1, fun n hn => ?_⟩
  rw [er 0 (by decide) (by decide) (by decide) (by decide)] at hn
  have z := w1.2 n hn
  rw [er 32 (by decide) (by decide) (by decide) (by decide), er 33 (by decide) (by decide) (by decide) (by decide), er 30 (by decide) (by decide) (by decide) (by decide), er 35 (by decide) (by decide) (by decide) (by decide)]
  exact ⟨z.1, z.2.1, z.2.2.1, z.2.2.2.2.1⟩
theorem both_readAgain24 {RG : Mm → Nat → Int} (hRG : RGok RG) {C R : Mm} {k : Nat} (hI : Inv RG C R k) (hKO : KpO R (RG R) [] (C 300) (C 301)) (h31 : ∀ n : Nat, (n : Int) < R 0 35 → R 1 (R 31 n).toNat = R 1 (R 30 n).toNat) (k' : Nat) : ∃ v C' R' C1, f_X11_readAgain C = some (v, C') ∧ f_X12_reads R = some (v, R') ∧ Inv RG C' R' k' ∧ R' 0 87 = R 0 87 ∧ KpO R' (RG R') [] (C' 300) (C' 301) ∧ Rdx C R v R' C1 := by
  obtain ⟨hp, hV, hR, hBk⟩ := id hI
  obtain ⟨⟨p1, p2, p3, p4, p5⟩, ⟨q1, q2, q3, q4, q5⟩, q6, q7, p6⟩ := id hp
  have hP := p6.pl
  have n0 := p5.1
  obtain ⟨C1, R1, a1, a2, a3, a4, ⟨w1, w2, w3, w4, w5, w6, w7, w8, w9⟩, w10, w11⟩ := both_parse24 p1 p4 n0 q1 q4
  have hT : Trr R := ⟨n0, p5.2.2⟩
  have hT1 : Trr R1 := ⟨w2, fun n hn => (w3 n hn).1⟩
  have r1 : ∀ j, j ≠ 0 → ¬ (30 ≤ j ∧ j ≤ 35) → ¬ (37 ≤ j ∧ j ≤ 41) → ¬ (43 ≤ j ∧ j ≤ 49) → R1 j = R j := a4.1
  have e4 : R1 4 = R 4 := r1 4 (by decide) (by decide) (by decide) (by decide)
  have c1 : ∀ j, j ≠ 273 → ¬ (275 ≤ j ∧ j ≤ 282) → ¬ (291 ≤ j ∧ j ≤ 297) → C1 j = C j := a3.1
  have hN1 : CN1 C1 R := ⟨by rw [c1 283 (by decide) (by decide) (by decide)]; exact q5.1, fun n hn => by
    have z := q5.2.2 n hn
    rw [c1 284 (by decide) (by decide) (by decide), c1 285 (by decide) (by decide) (by decide), c1 286 (by decide) (by decide) (by decide), c1 287 (by decide) (by decide) (by decide), c1 289 (by decide) (by decide) (by decide)]
    exact ⟨z.1, z.2.1, z.2.2.1, z.2.2.2.1, z.2.2.2.2.1⟩⟩
  obtain ⟨C2, b1, b2, b3, b4⟩ := c_compare p1 hT hT1 e4 hN1 w1
  obtain ⟨N, T, g, y, d1, hK⟩ := r_keepsNodes hT hP p1 hT1 e4 w8 w7
  have hG := hK.heir
  have hcnt := HrE.count hT hT1 e4 b3 hG
  have iHG := HrE.inv hT hT1 e4 b3 hG
  have iGH := HrE.inv hT1 hT e4.symm hG b3
  rw [← hcnt] at d1
  obtain ⟨f, f1, f2, f3⟩ := r_drops T g y N
  have n1 := hT1.1
  have c2 : ∀ j, j ≠ 273 → ¬ (275 ≤ j ∧ j ≤ 282) → ¬ (290 ≤ j ∧ j ≤ 297) → C2 j = C j := fun j a b c => by rw [b2 j (by omega) (by omega), c1 j a b (by omega)]
  have e283 : C2 283 0 = R 0 35 := by rw [c2 283 (by decide) (by decide) (by decide)]; exact q5.1
  have e291 : C2 291 0 = R1 0 35 := by rw [b2 291 (by decide) (by decide)]; exact w1.1
  have hcle := cntm_le (fun m => decide (C2 290 m ≠ -1)) (R 0 35).toNat
  -- the reference
  have er : ∀ j, j ≠ 31 → j ≠ 36 → j ≠ 42 → j ≠ 50 → sr N 50 f j = R1 j := fun j a b c d => by rw [sr_ne _ _ d]; exact hK.row j a b c
  have e0 : sr N 50 f 0 = R1 0 := er 0 (by decide) (by decide) (by decide) (by decide)
  have e31 : sr N 50 f 31 = N 31 := sr_ne _ _ (by decide)
  have e36 : sr N 50 f 36 = N 36 := sr_ne _ _ (by decide)
  have hread : f_X12_reads R = some (wr (wr (100 * R1 0 35) + ((cntm (fun m => decide (C2 290 m ≠ -1)) (R 0 35).toNat : Nat) : Int)), sr N 50 f) := by
    rw [a2, d1, f1, ClS, ClS, e0]
  have erow : ∀ j, 1 ≤ j → j ≤ 29 → sr N 50 f j = R j := fun j a b => by rw [er j (by omega) (by omega) (by omega) (by omega), r1 j (by omega) (by omega) (by omega) (by omega)]
  have es : ∀ i, i ≠ 35 → i ≠ 36 → i ≠ 44 → i ≠ 58 → i ≠ 59 → sr N 50 f 0 i = R 0 i := fun i a b c d e => by rw [e0]; exact a4.2 i a b c d e
  -- kept nodes, and new ones
  have hkn : ∀ x : Nat, (x : Int) < R1 0 35 → N 42 x ≠ -1 → ∃ m : Nat, (m : Int) < R 0 35 ∧ N 42 x = (m : Int) ∧ C2 290 m = (x : Int) ∧ N 31 x = R 31 m ∧ N 36 x = R 36 m ∧ R 30 m = R1 30 x ∧ R 35 m = R1 35 x := fun x hx hne => by
    rcases (hG x hx).ok with z | ⟨⟨z1, z2, z3, z4⟩, -⟩
    · exact absurd z hne
    · have z5 := hK.kept x hx hne
      exact ⟨(N 42 x).toNat, by omega, by omega, (iGH x hx (N 42 x).toNat (by omega)).2, z5.1, z5.2, z3.symm, z4.symm⟩
  have hOkn : Okn (sr N 50 f) := by
    refine ⟨by rw [e0]; exact n1, ⟨by rw [e0]; exact w5, ?_⟩, fun n hn => ?_⟩
    · unfold PRo
      rw [e0, er 4 (by decide) (by decide) (by decide) (by decide), er 30 (by decide) (by decide) (by decide) (by decide), er 34 (by decide) (by decide) (by decide) (by decide), er 32 (by decide) (by decide) (by decide) (by decide), er 33 (by decide) (by decide) (by decide) (by decide)]
      exact w4
    · rw [e0] at hn
      obtain ⟨o1, o2, o3, o4, o5, o6, o7, o8⟩ := (w3 n hn).1
      unfold NodeOk
      rw [e0, e31, er 4 (by decide) (by decide) (by decide) (by decide), er 6 (by decide) (by decide) (by decide) (by decide), er 30 (by decide) (by decide) (by decide) (by decide), er 35 (by decide) (by decide) (by decide) (by decide), er 34 (by decide) (by decide) (by decide) (by decide), er 32 (by decide) (by decide) (by decide) (by decide), er 33 (by decide) (by decide) (by decide) (by decide)]
      by_cases c : N 42 n = -1
      · rw [hK.new31 n fun _ => c]
        exact ⟨o1, o2, o3, o4, o5, o6, o7, o8⟩
      · obtain ⟨m, m1, m2, m3, m4, m5, m6, m7⟩ := hkn n hn c
        obtain ⟨u1, u2, u3, u4, -⟩ := p5.2.2 m m1
        have e6 : R1 6 = R 6 := r1 6 (by decide) (by decide) (by decide) (by decide)
        have e00 : R1 0 0 = R 0 0 := a4.2 0 (by decide) (by decide) (by decide) (by decide) (by decide)
        rw [m4]
        refine ⟨o1, by rw [e00]; exact u2, by rw [← m6, e4]; exact u3, by rw [← m6, e6]; exact u4, o5, o6, o7, o8⟩
  have hPl : PlO (sr N 50 f) := fun n hn => by
    rw [e0] at hn
    rw [e36]
    by_cases c : N 42 n = -1
    · have z := hK.new36 n hn c
      refine ⟨z.1, fun m hm he => ?_⟩
      rw [e0] at hm
      by_cases cm : N 42 m = -1
      · exact z.2.2 m hm cm he
      · obtain ⟨o, m1, m2, m3, m4, m5, -⟩ := hkn m hm cm
        exact absurd (by rw [← he, m5]) (z.2.1 o m1)
    · obtain ⟨o, m1, m2, m3, m4, m5, -⟩ := hkn n hn c
      rw [m5]
      refine ⟨(hP o m1).1, fun m hm he => ?_⟩
      rw [e0] at hm
      by_cases cm : N 42 m = -1
      · exact absurd he.symm ((hK.new36 m hm cm).2.1 o m1)
      · obtain ⟨o', k1, k2, k3, k4, k5, -⟩ := hkn m hm cm
        have := (hP o m1).2 o' k1 (by rw [← k5, he])
        subst this
        omega
  -- the class, when it has taken the tree
  have hCN : ∀ C', C' 283 0 = C2 291 0 → C' 283 1 = C2 291 1 → (∀ i, i < 30 → C' 284 i = C2 292 i ∧ C' 285 i = C2 293 i ∧ C' 286 i = C2 294 i ∧ C' 287 i = C2 295 i ∧ C' 289 i = C2 297 i) → (∀ i, i < 90 → C' 288 i = C2 296 i) → CN C' (sr N 50 f) := fun C' h0 h1 h2 h3 => by
    refine ⟨by rw [h0, e291, e0], fun hne => ?_, fun n hn => ?_⟩
    · rw [e0] at hne ⊢
      rw [h1, b2 291 (by decide) (by decide)]
      exact w6 hne
    · rw [e0] at hn
      have z := w1.2 n hn
      have z2 := h2 n (by omega)
      rw [e31, er 32 (by decide) (by decide) (by decide) (by decide), er 33 (by decide) (by decide) (by decide) (by decide), er 30 (by decide) (by decide) (by decide) (by decide), er 35 (by decide) (by decide) (by decide) (by decide), er 34 (by decide) (by decide) (by decide) (by decide), er 4 (by decide) (by decide) (by decide) (by decide), z2.1, z2.2.1, z2.2.2.1, z2.2.2.2.1, z2.2.2.2.2, b2 292 (by decide) (by decide), b2 293 (by decide) (by decide), b2 294 (by decide) (by decide), b2 297 (by decide) (by decide)]
      refine ⟨z.1, z.2.1, z.2.2.1, ?_, z.2.2.2.2.1, fun c hc => by rw [h3 _ (by omega), b2 296 (by decide) (by decide)]; exact z.2.2.2.2.2 c hc⟩
      rcases b4 n with ⟨m, m1, m2, m3⟩ | ⟨m1, m2⟩
      · have zi := iHG m m1 n m2
        obtain ⟨o, o1, o2, o3, o4, -⟩ := hkn n hn (by omega)
        have : o = m := by omega
        subst this
        rw [m3, o4]
      · have zn : N 42 n = -1 := by
          refine Classical.byContradiction fun q => ?_
          obtain ⟨o, o1, o2, o3, -⟩ := hkn n hn q
          exact m1 o o1 o3
        rw [m2, hK.new31 n fun _ => zn]
        exact z.2.2.2.1
  have e51 : sr N 50 f 51 = R 51 := by rw [er 51 (by decide) (by decide) (by decide) (by decide), r1 51 (by decide) (by decide) (by decide) (by decide)]
  have e5 : R1 50 = R 50 ∧ R1 52 = R 52 ∧ R1 53 = R 53 ∧ R1 54 = R 54 := ⟨r1 50 (by decide) (by decide) (by decide) (by decide), r1 52 (by decide) (by decide) (by decide) (by decide), r1 53 (by decide) (by decide) (by decide) (by decide), r1 54 (by decide) (by decide) (by decide) (by decide)⟩
  have e2730 : C2 273 0 = C 273 0 := by rw [b2 273 (by decide) (by decide)]; exact a3.2 0 (by decide) (by decide)
  obtain ⟨V, Hg, k1, k2, k3⟩ := id hBk
  have hRdx : Rdx C R (wr (wr (100 * R1 0 35) + ((cntm (fun m => decide (C2 290 m ≠ -1)) (R 0 35).toNat : Nat) : Int))) (sr N 50 f) C1 := by
    have x30 : sr N 50 f 30 = R1 30 := er 30 (by decide) (by decide) (by decide) (by decide)
    have x32 : sr N 50 f 32 = R1 32 := er 32 (by decide) (by decide) (by decide) (by decide)
    have x33 : sr N 50 f 33 = R1 33 := er 33 (by decide) (by decide) (by decide) (by decide)
    have x35 : sr N 50 f 35 = R1 35 := er 35 (by decide) (by decide) (by decide) (by decide)
    have hc2 := cntm_le (fun m => decide (N 42 m ≠ -1)) (R1 0 35).toNat
    refine ⟨⟨erow, es⟩, fun n hn => ⟨?_, ?_⟩, ⟨a1, by rw [e0]; exact w1.1, fun n hn => ?_⟩, by rw [e0]; exact w11, ((cntm (fun m => decide (C2 290 m ≠ -1)) (R 0 35).toNat : Nat) : Int), ?_, by omega, by rw [e0]; omega, by omega, fun hs => ?_⟩
    · rw [e0] at hn
      have := w10 n hn
      unfold HdN HdE at this ⊢
      rw [x30, x32, x33]
      exact this
    · rw [e0] at hn
      rw [e31, x30]
      by_cases c : N 42 n = -1
      · rw [hK.new31 n fun _ => c, (w3 n hn).2]
      · obtain ⟨m, m1, m2, m3, m4, m5, m6, m7⟩ := hkn n hn c
        rw [m4, ← m6]
        exact h31 m m1
    · rw [e0] at hn
      have z := w1.2 n hn
      rw [x30, x32, x33, x35]
      exact ⟨z.1, z.2.1, z.2.2.1, z.2.2.2.2.1⟩
    · rw [e0, wrE (v := 100 * R1 0 35) (by omega) (by omega), wrE (by omega) (by omega)]
    · obtain ⟨s1, s2⟩ := hs
      rw [e0] at s1
      rw [x30, x32, x33, x35] at s2
      have all : ∀ m : Nat, (m : Int) < R 0 35 → C2 290 m = (m : Int) := by
        intro m
        induction m using Nat.strongRecOn with
        | ind m ih =>
          intro hm
          have z := s2 m hm
          have hc : cnd0 R R1 (C2 290) m = (m : Int) := by
            unfold cnd0
            by_cases c : m = 0
            · rw [if_pos c, c]; rfl
            · have h7 := (hT.2 m hm).2.2.2.2.2.2.1 (by omega)
              have h7' := (hT1.2 m (by omega)).2.2.2.2.2.2.1 (by omega)
              have hp := ih (R 32 m).toNat (by omega) (by omega)
              rw [if_neg c, hp, if_neg (by omega), Int.toNat_of_nonneg h7.1]
              rw [z.2.1, z.2.2.1] at h7'
              have e3 : (3 * R 32 m + R 33 m).toNat = 3 * (R 32 m).toNat + (R 33 m).toNat := by omega
              first
                | exact h7'.2.2.2.2
                | (rw [e3]; exact h7'.2.2.2.2)
                | (rw [e3] at h7'; exact h7'.2.2.2.2)
          rw [← hc]
          refine (b3 m hm).1 ?_
          rw [hc]
          exact ⟨by omega, by omega, by rw [Int.toNat_natCast]; exact z.1.symm, by rw [Int.toNat_natCast]; exact z.2.2.2.symm⟩
      have := (cntm_all (P := fun m => decide (C2 290 m ≠ -1)) (R 0 35).toNat).mpr fun m hm => decide_eq_true (by rw [all m (by omega)]; omega)
      rw [this, e0]
      omega
  by_cases hch : ((cntm (fun m => decide (C2 290 m ≠ -1)) (R 0 35).toNat : Nat) : Int) = R 0 35 ∧ ((cntm (fun m => decide (C2 290 m ≠ -1)) (R 0 35).toNat : Nat) : Int) = R1 0 35
  case pos =>
    obtain ⟨h1, h2⟩ := hch
    have hn : R1 0 35 = R 0 35 := by omega
    have aH : ∀ m : Nat, (m : Int) < R 0 35 → C2 290 m ≠ -1 := fun m hm => by
      have := (cntm_all (P := fun m => decide (C2 290 m ≠ -1)) (R 0 35).toNat).mp (by omega) m (by omega)
      exact of_decide_eq_true this
    have aG : ∀ x : Nat, (x : Int) < R1 0 35 → N 42 x ≠ -1 := fun x hx => by
      have := (cntm_all (P := fun x => decide (N 42 x ≠ -1)) (R1 0 35).toNat).mp (by omega) x (by omega)
      exact of_decide_eq_true this
    have hst := same_tree hT hT1 p5.2.1.2 w4 e4 b3 hG hn aH aG
    obtain ⟨C3, t1, t2, t3, t4, t5⟩ := c_takeTree C2
    have hrow : ∀ x : Nat, (x : Int) < R 0 35 → R1 30 x = R 30 x ∧ R1 35 x = R 35 x ∧ R1 32 x = R 32 x ∧ R1 33 x = R 33 x := fun x hx => by
      have z := hst x hx
      rcases (b3 x hx).ok with q | ⟨⟨u1, u2, u3, u4⟩, -⟩
      · exact absurd q (aH x hx)
      · rw [z.1, Int.toNat_natCast] at u3 u4
        by_cases c0 : x = 0
        · have v1 := (hT.2 x hx).2.2.2.2.2.1 c0
          have v2 := (hT1.2 x (by omega)).2.2.2.2.2.1 c0
          exact ⟨u3.symm, u4.symm, by omega, by omega⟩
        · have v1 := heir_parent hT hT1 e4 b3 hx c0 (aH x hx)
          have h7 := (hT.2 x hx).2.2.2.2.2.2.1 (by omega)
          have v3 := (hst (R 32 x).toNat (by omega)).1
          rw [z.1, Int.toNat_natCast] at v1
          exact ⟨u3.symm, u4.symm, by omega, by omega⟩
    have hfun : ∀ j, j = 30 ∨ j = 32 ∨ j = 33 ∨ j = 35 → R1 j = R j := fun j hj => funext fun x => by
      by_cases c : (x : Int) < R 0 35
      · have z := hrow x c
        rcases hj with e | e | e | e <;> subst e
        · exact z.1
        · exact z.2.2.1
        · exact z.2.2.2
        · exact z.2.1
      · exact w9.1 j (by omega) x (by omega)
    have h34 : R1 34 = R 34 := funext fun i => by
      rcases w9.2 i with z | ⟨m, c, z1, z2, z3, z4⟩
      · exact z
      · have hm : (m : Int) < R 0 35 := by omega
        rw [hfun 30 (by simp)] at z2
        have hch := (hT.2 m hm).2.2.2.2.2.2.2 c z2
        have hz : (((R 34 (3 * m + c)).toNat : Nat) : Int) = R 34 (3 * m + c) := Int.toNat_of_nonneg (by omega)
        have v1 := heir_parent hT hT1 e4 b3 (m := (R 34 (3 * m + c)).toNat) (by omega) (by omega) (aH _ (by omega))
        have v2 := (hst (R 34 (3 * m + c)).toNat (by omega)).1
        have v3 := v1.2.2.2.2
        rw [hch.2.2.1, hch.2.2.2, Int.toNat_natCast, (hst m hm).1, v2] at v3
        rw [z4, show 3 * m + c = (3 * (m : Int) + (c : Int)).toNat by omega, ← v3, hz]
        rw [show (3 * (m : Int) + (c : Int)).toNat = 3 * m + c by omega]
    have h31' : N 31 = R 31 := funext fun x => by
      by_cases c : (x : Int) < R 0 35
      · obtain ⟨m, m1, m2, m3, m4, -⟩ := hkn x (by omega) (aG x (by omega))
        have := (hst x c).2
        have e : m = x := by omega
        subst e
        exact m4
      · rw [hK.new31 x fun q => absurd q (by omega)]
        exact w9.1 31 (by decide) x (by omega)
    have hge : ∀ q, bt g q ≠ true := fun q hq => by
      obtain ⟨m, m1, m2, m3⟩ := (hK.gone q).mp hq
      exact m3 m (by omega) (hst m m1).2
    have hT0 : T = 0 := bt_zero hK.tb.1 fun q hq => by
      rcases (hK.touch q).mp hq with z | ⟨x, x1, x2, -⟩
      · exact hge q z
      · exact aG x x1 x2
    have hy0 : y = 0 := by
      refine Classical.byContradiction fun q => ?_
      rcases hK.isnew.mp q with ⟨x, x1, x2⟩ | z
      · exact aG x x1 x2
      · exact z hT0
    have hf50 : ∀ i, i < 360 → f i = R 50 i := fun i hi => by
      have z := f3 i hi
      have e50 : N 50 i = R 50 i := by rw [hK.row 50 (by decide) (by decide) (by decide), e5.1]
      rw [e50] at z
      by_cases c : R 50 i = 0
      · rw [z.1 c, c]
      · rw [(z.2 c).2 ?_]
        · exact ((k3.1 i hi).resolve_left c).symm
        · rintro (q | q | q)
          · refine q ?_
            rw [hT0]
            unfold land_
            rw [show Ll 0 = 0 from rfl, Int64.and_zero]; rfl
          · rw [lbit hK.gb (by omega), if_neg (hge _)] at q
            exact absurd q (by decide)
          · exact q.2 hy0
    refine ⟨_, C3, sr N 50 f, C1, ?_, hread, ?_, es 87 (by decide) (by decide) (by decide) (by decide) (by decide), ?_, hRdx⟩
    · unfold f_X11_readAgain
      simp only [LtE]
      rw [a1, ClS, b1, ClS, e283, if_neg (fun q => q h1), e291, if_pos h2, t1, ClS, t3.1, e291]
    · refine inv_new hI k' erow (fun i hi => es i (by omega) (by omega) (by omega) (by omega) (by omega)) e51 (fun j hj => by rw [t2 j (by omega), c2 j (by omega) (by omega) (by omega)]) (by rw [t2 273 (by decide)]; exact e2730) hOkn (hCN C3 t3.1 t3.2 t4 t5) hPl ?_ ?_
      · have e : RG (sr N 50 f) = RG R := hRG R (sr N 50 f) (fun j j1 j2 j3 => by
          by_cases q : j ≤ 29
          · exact erow j j1 q
          · by_cases q31 : j = 31
            · subst q31; rw [e31]; exact h31'
            · rw [er j q31 (by omega) (by omega) (by omega)]
              by_cases q34 : j = 34
              · subst q34; exact h34
              · exact hfun j (by omega)) fun i hi => by
          by_cases q : i = 35
          · subst q; rw [e0]; exact hn
          · exact es i q (by omega) (by omega) (by omega) (by omega)
        unfold CR
        rw [e, t2 676 (by decide), t2 309 (by decide), c2 676 (by decide) (by decide) (by decide), c2 309 (by decide) (by decide) (by decide)]
        exact hR
      · have hBk' : Bks C R := hBk
        refine bks_same hBk' n0.2 (by rw [t2 300 (by decide), c2 300 (by decide) (by decide) (by decide)]) (by rw [t2 301 (by decide), c2 301 (by decide) (by decide) (by decide)]) (by rw [e0]; exact hn) (es 12 (by decide) (by decide) (by decide) (by decide) (by decide)) (erow 12 (by decide) (by decide)) (fun n hn' => ?_) (fun j hj i hi => ?_) hP
        · rw [er 32 (by decide) (by decide) (by decide) (by decide), e36]
          obtain ⟨m, m1, m2, m3, m4, m5, -⟩ := hkn n (by omega) (aG n (by omega))
          have := (hst n hn').2
          have e : m = n := by omega
          subst e
          exact ⟨(hrow m m1).2.2.1, m5⟩
        · rcases hj with e | e | e | e <;> subst e
          · rw [sr_at]; exact hf50 i hi
          · rw [er 52 (by decide) (by decide) (by decide) (by decide), e5.2.1]
          · rw [er 53 (by decide) (by decide) (by decide) (by decide), e5.2.2.1]
          · rw [er 54 (by decide) (by decide) (by decide) (by decide), e5.2.2.2]
    · have hq : AgQ R (sr N 50 f) := ⟨fun j j1 j2 j3 => by
          by_cases q : j ≤ 29
          · exact erow j j1 q
          · by_cases q31 : j = 31
            · subst q31; rw [e31]; exact h31'
            · rw [er j q31 (by omega) (by omega) (by omega)]
              by_cases q34 : j = 34
              · subst q34; exact h34
              · exact hfun j (by omega), fun i hi => by
          by_cases q : i = 35
          · subst q; rw [e0]; exact hn
          · exact es i q (by omega) (by omega) (by omega) (by omega)⟩
      rw [RG_q hRG hq, t2 300 (by decide), c2 300 (by decide) (by decide) (by decide), t2 301 (by decide), c2 301 (by decide) (by decide) (by decide)]
      exact KpO_q hq hKO
  case neg =>
    obtain ⟨b0, s1, s2⟩ := c_touched (C := C2) hT e283 (fun m hm => by rw [b2 284 (by decide) (by decide)]; exact (hN1.2 m hm).1)
    have hb := (jor_nat s2.1 ALL_bt.1).1
    have hbb : ∀ i, bt (jor b0 ALL) i = (bt b0 i || decide (i = 30)) := fun i => by rw [jor_bt s2.1 ALL_bt.1, ALL_bt.2]
    generalize hbd : jor b0 ALL = b at hb hbb
    have e301 : ∀ s, s < 180 → C2 301 s = Hg s := fun s hs => by rw [c2 301 (by decide) (by decide) (by decide)]; exact (k2 s hs).1
    have e300 : ∀ s, s < 180 → Hg s ≠ 0 → C2 300 s = V s := fun s hs h => by rw [c2 300 (by decide) (by decide) (by decide)]; exact (k2 s hs).2 h
    have hdr := c_drop b C2
    generalize hC3 : (sr C2 301 fun s => if s < 180 ∧ jand (C2 301 s) b ≠ 0 then 0 else C2 301 s) = C3 at hdr
    have c3 : ∀ j, j ≠ 301 → C3 j = C2 j := fun j hj => by rw [← hC3, sr_ne _ _ hj]
    have c3301 : ∀ s, s < 180 → (C3 301 s ≠ 0 ↔ Hg s ≠ 0 ∧ jand (Hg s) b = 0) ∧ (C3 301 s ≠ 0 → C3 301 s = Hg s) := fun s hs => by
      have : C3 301 s = if s < 180 ∧ jand (C2 301 s) b ≠ 0 then 0 else C2 301 s := by rw [← hC3, sr_at]
      rw [this, e301 s hs]
      by_cases q : jand (Hg s) b = 0
      · rw [if_neg (fun z => z.2 q)]
        exact ⟨⟨fun z => ⟨z, q⟩, fun z => z.1⟩, fun _ => rfl⟩
      · rw [if_pos ⟨hs, q⟩]
        exact ⟨⟨fun z => absurd rfl z, fun z => absurd z.2 q⟩, fun z => absurd rfl z⟩
    obtain ⟨C4, u1, u2, u3⟩ := c_follow (C := C3) (n0 := R 0 35) (n1 := R1 0 35) (G := N 42) (by rw [c3 283 (by decide)]; exact e283) n0 n1.2 (fun m hm => by
      rw [c3 290 (by decide)]
      rcases (b3 m hm).ok with z | ⟨z, -⟩
      · exact Or.inl z
      · exact Or.inr ⟨z.1, z.2.1⟩) (fun m hm x hx => by rw [c3 290 (by decide)] at hx; exact (iHG m hm x hx).2) (fun x hx m hm => by rw [c3 290 (by decide)]; exact iGH x hx m hm) (fun s hs hne => by
      have z := ((c3301 s hs).1.mp hne).1
      rw [c3 300 (by decide), e300 s hs z]
      have es : s = 6 * (s / 6) + s % 6 := by omega
      have ok := (k1 (s / 6) (s % 6) (by omega) (by omega)).2
      rw [← es] at ok
      have := ok z
      omega)
    obtain ⟨C6, t1, t2, t3, t4, t5⟩ := c_takeTree (up C4 676 6 0)
    have c4 : ∀ j, ¬ (300 ≤ j ∧ j ≤ 303) → j ≠ 676 → up C4 676 6 0 j = C2 j := fun j a b => by rw [up_ne _ _ _ b, u2 j a, c3 j (by omega)]
    have hrun : (Cl (f_X8_touched 283 C2) fun v14 M13 => Cl (f_X3_drop 299 (jor v14 1073741824) M13) fun _ M16 => Cl (f_X3_follow 299 283 M16) fun _ M17 => Cl (f_X7_forget M17) fun _ M18 => Cl (f_X8_take 283 291 M18) fun _ M7 => some (wr (wr (100 * M7 283 0) + ((cntm (fun m => decide (C2 290 m ≠ -1)) (R 0 35).toNat : Nat) : Int)), M7)) = some (wr (wr (100 * R1 0 35) + ((cntm (fun m => decide (C2 290 m ≠ -1)) (R 0 35).toNat : Nat) : Int)), C6) := by
      have hbd' : jor b0 1073741824 = b := hbd
      have hfg : f_X7_forget C4 = some (0, up C4 676 6 0) := by unfold f_X7_forget; simp only [LtE]
      rw [s1, ClS, hbd', hdr, ClS, u1, ClS, hfg, ClS, t1, ClS, t3.1, c4 291 (by decide) (by decide), e291]
    have hrow6 : ∀ j, ¬ (283 ≤ j ∧ j ≤ 289) → j ≠ 676 → C6 j = C4 j := fun j a b => by rw [t2 j a, up_ne _ _ _ b]
    have hy : y ≠ 0 := by
      refine hK.isnew.mpr ?_
      by_cases q : ∃ x : Nat, (x : Int) < R1 0 35 ∧ N 42 x = -1
      · exact Or.inl q
      · right
        have q1 := (cntm_all (P := fun x => decide (N 42 x ≠ -1)) (R1 0 35).toNat).mpr fun i hi => decide_eq_true fun z => q ⟨i, by omega, z⟩
        have q2 : ∃ m : Nat, (m : Int) < R 0 35 ∧ C2 290 m = -1 := by
          refine Classical.byContradiction fun z => ?_
          have q3 := (cntm_all (P := fun m => decide (C2 290 m ≠ -1)) (R 0 35).toNat).mpr fun i hi => decide_eq_true fun w => z ⟨i, by omega, w⟩
          exact hch ⟨by omega, by omega⟩
        obtain ⟨m, m1, m2⟩ := q2
        intro hT0
        have hpm := (hP m m1).1
        have : bt T (R 36 m).toNat = true := (hK.touch _).mpr (Or.inl ((hK.gone _).mpr ⟨m, m1, by omega, fun x hx e => by have := (iGH x hx m e).2; omega⟩))
        rw [hT0, bt0] at this
        cases this
    refine ⟨_, C6, sr N 50 f, C1, ?_, hread, ?_, es 87 (by decide) (by decide) (by decide) (by decide) (by decide), ?_, hRdx⟩
    · unfold f_X11_readAgain
      simp only [LtE]
      rw [a1, ClS, b1, ClS, e283, e291]
      by_cases q : ((cntm (fun m => decide (C2 290 m ≠ -1)) (R 0 35).toNat : Nat) : Int) = R 0 35
      · rw [if_neg (fun z => z q), if_neg (fun z => hch ⟨q, z⟩)]
        exact hrun
      · rw [if_pos q]
        exact hrun
    · refine inv_new hI k' erow (fun i hi => es i (by omega) (by omega) (by omega) (by omega) (by omega)) e51 (fun j hj => by rw [t2 j (by omega), c4 j (by omega) (by omega), c2 j (by omega) (by omega) (by omega)]) (by rw [t2 273 (by decide), c4 273 (by decide) (by decide)]; exact e2730) hOkn (hCN C6 (by rw [t3.1, c4 291 (by decide) (by decide)]) (by rw [t3.2, c4 291 (by decide) (by decide)]) (fun i hi => by
        have z := t4 i hi
        rw [c4 292 (by decide) (by decide), c4 293 (by decide) (by decide), c4 294 (by decide) (by decide), c4 295 (by decide) (by decide), c4 297 (by decide) (by decide)] at z
        exact z) (fun i hi => by rw [t5 i hi, c4 296 (by decide) (by decide)])) hPl (Or.inl (by rw [t2 676 (by decide), up_at])) ?_
      refine bks_again hT hT1 hP e4 b3 hK k1 k3 hb (fun m hm => ?_) (by rw [hbb]; simp) hy ⟨a4.2 12 (by decide) (by decide) (by decide) (by decide) (by decide), r1 12 (by decide) (by decide) (by decide) (by decide)⟩ e5 f3 fun x a hx ha => ?_
      · rw [hbb, decide_eq_false (by omega), Bool.or_false]
        exact s2.2 m
      · have z := u3 x a hx ha
        rw [hrow6 301 (by decide) (by decide), hrow6 300 (by decide) (by decide)]
        rw [c3 290 (by decide), c3 300 (by decide)] at z
        have hF : Fln C3 (N 42) (R1 0 35) 180 x a ↔ Pkt Hg (N 42) (R1 0 35) b x a := by
          unfold Fln Pkt
          constructor
          · rintro ⟨z1, z2, z3, z4⟩
            exact ⟨z1, z2, (c3301 _ z3).1.mp z4⟩
          · rintro ⟨z1, z2, z3⟩
            have := (iGH x z1 (N 42 x).toNat (by omega)).1
            exact ⟨z1, z2, by omega, (c3301 _ (by omega)).1.mpr z3⟩
        rw [← hF]
        refine ⟨fun q => ?_, z.2⟩
        have q' := q
        obtain ⟨z1, z2, z3, z4⟩ := q
        have zz := z.1 q'
        rw [(c3301 _ z3).2 z4, e300 _ z3 ((c3301 _ z3).1.mp z4).1] at zz
        exact zz
    · refine KpO_again p1 p3 p5 hT hT1 e4 b3 hG er (fun x hx hne => (hK.kept x hx hne).1) ⟨fun j hj => erow j (by omega) (by omega), fun i hi => es i (by omega) (by omega) (by omega) (by omega) (by omega)⟩ k1 hb (fun m hm => ?_) (by rw [hbb]; simp) (fun x a hx ha => ?_) (KpO_pt hKO fun s hs => ⟨(k2 s hs).1.symm, fun q => ((k2 s hs).2 (by rw [← (k2 s hs).1]; exact q)).symm⟩)
      · rw [hbb, decide_eq_false (by omega), Bool.or_false]
        exact s2.2 m
      · have z := u3 x a hx ha
        rw [hrow6 301 (by decide) (by decide), hrow6 300 (by decide) (by decide)]
        rw [c3 290 (by decide), c3 300 (by decide)] at z
        have hF : Fln C3 (N 42) (R1 0 35) 180 x a ↔ Pkt Hg (N 42) (R1 0 35) b x a := by
          unfold Fln Pkt
          constructor
          · rintro ⟨z1, z2, z3, z4⟩
            exact ⟨z1, z2, (c3301 _ z3).1.mp z4⟩
          · rintro ⟨z1, z2, z3⟩
            have := (iGH x z1 (N 42 x).toNat (by omega)).1
            exact ⟨z1, z2, by omega, (c3301 _ (by omega)).1.mpr z3⟩
        rw [← hF]
        refine ⟨fun q => ?_, z.2⟩
        have q' := q
        obtain ⟨z1, z2, z3, z4⟩ := q
        have zz := z.1 q'
        rw [(c3301 _ z3).2 z4, e300 _ z3 ((c3301 _ z3).1.mp z4).1] at zz
        exact zz
