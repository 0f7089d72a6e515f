/-! one turn of the reference's loop is one coarse step -/
theorem coarse_R {S : Mm} (hg : Okg S) (hO : Oke S) (hN : Okn S) (hP : PlO S) {B : Int} (hB : B = 0 ∨ B = 360) {rg : Nat → Int} {s : Int} {rest : List Int} {bv bh : Nat → Int} {lf : List Int} {kk : Nat} {M : Mm} (hOp : OpV S (s :: rest)) (hbd : BdO S rg bv bh) (hbh : BdH S bh) (hx : OpV S (crs S rg (s :: rest, bv, bh, lf, kk)).1) (hR : RpR S B rg M (s :: rest, bv, bh, lf, kk)) {J : Int → Mm → Rs} {F : Nat} {v : Int} :
    ∃ v' M', Lp (f_X12_finds_L13_55 J) (F + 1) (v, M) = Lp (f_X12_finds_L13_55 J) F (v', M') ∧ RpR S B rg M' (crs S rg (s :: rest, bv, bh, lf, kk)) ∧ FrR S B M M' ∧ M' 0 67 = (if (crs S rg (s :: rest, bv, bh, lf, kk)).2.2.2.2 = kk ∨ S 12 (s % 6).toNat = 3 then M 0 67 else wr (M 0 67 + if B = 0 then 1 else 0)) ∧ ((crs S rg (s :: rest, bv, bh, lf, kk)).1 = rest → v' = pv S ((crs S rg (s :: rest, bv, bh, lf, kk)).2.1 s.toNat)) := by
  have h35 := hN.1
  have h12 := hg.2.1
  obtain ⟨hA, e036, e36, e68, hOr, e69, hst, hll⟩ := hR
  simp only at hOr e69 hst hll
  have hs := hOp.2 s (List.mem_cons_self ..)
  have hlen := (hOp.sl h35.2).len
  simp only [List.length_cons] at hlen e69
  have hn : 0 ≤ s / 6 ∧ s / 6 < S 0 35 := ⟨by omega, hs.2.1⟩
  have ha : 0 ≤ s % 6 ∧ s % 6 < S 0 12 := ⟨by omega, hs.2.2⟩
  have hno : s ∉ rest := (List.nodup_cons.mp hOp.1).1
  have e1 : wr (M 0 69 - 1) = (rest.length : Int) := by rw [e69, wrE (by omega) (by omega)]; omega
  have hrb : (decide (M 0 79 ≠ 0 ∧ M 0 69 = 1) : Bool) = true ↔ Rec M := by unfold Rec; exact decide_eq_true_iff
  obtain ⟨⟨w, M17⟩, e17, hQ⟩ := r_tries hg hO hN hP hB hbd hbh hn ha hA e036 e36 e68 hOr hrb
  have pn := (hP (s / 6).toNat (by omega)).1
  rw [Lp_s, finds_body, if_neg (by omega), e1, gdE (by omega), gdE (by omega), Int.toNat_natCast, hst.1.1, hst.1.2, e17, ClS]
  cases ho : (spc S (Lk S rg bv bh (s :: rest)) (s / 6) (s % 6)).2 with
  | none =>
    obtain ⟨t', x, y1, y2, y3, y4, y5, y6, y7⟩ := hQ.2 ho
    simp only at y2 y3 y4 y6 y7
    have hcrs : crs S rg (s :: rest, bv, bh, lf, kk) = ((x : Int) :: s :: rest, bv, bh, lf, kk) := by
      unfold crs
      simp only [ho]
      rw [y1]
      simp
      rfl
    rw [hcrs] at hx ⊢
    have hxv := hx.2 x (List.mem_cons_self ..)
    have hxl := (hx.sl h35.2).len
    simp only [List.length_cons] at hxl
    have px := (hP ((x : Int) / 6).toNat (by omega)).1
    have g69 : M17 0 69 = (rest.length : Int) + 1 := by rw [y7.2 69 (by decide) (by decide) (by decide) (by decide) (by decide) (by decide), e69]; omega
    have g36 : M17 36 = S 36 := by rw [y7.1 36 (by decide) (by decide) (by decide) (by decide) (by decide) (by decide) (by decide)]; exact e36
    have g68 : M17 0 68 = B := by rw [y7.2 68 (by decide) (by decide) (by decide) (by decide) (by decide) (by decide)]; exact e68
    rw [if_neg y4, y2, y3]
    generalize hM2 : up (up M17 57 (rest.length + 1) ((x : Int) / 6)) 58 (rest.length + 1) ((x : Int) % 6) = M2
    have m2 : ∀ j, j ≠ 57 → j ≠ 58 → M2 j = M17 j := fun j a b => by rw [← hM2, up_ne _ _ _ b, up_ne _ _ _ a]
    have hAt := r_at (S := S) (M := M2) hP hB (by rw [m2 36 (by decide) (by decide)]; exact g36) (by rw [m2 0 (by decide) (by decide)]; exact g68) h35.2 (n := (x : Int) / 6) (a := (x : Int) % 6) ⟨by omega, hxv.2.1⟩ ⟨by omega, by omega⟩
    have hen : f_X12_enters ((x : Int) / 6) ((x : Int) % 6) M17 = some (0, up (up M2 51 (ixR S B ((x : Int) / 6) ((x : Int) % 6)) 1) 0 69 ((rest.length : Int) + 2)) := by
      have q1 : up M17 57 (rest.length + 1) ((x : Int) / 6) 0 69 = (rest.length : Int) + 1 := by rw [up_ne _ _ _ (by decide), g69]
      unfold f_X12_enters
      simp only [LtE]
      rw [g69, gdE (by omega), show ((rest.length : Int) + 1).toNat = rest.length + 1 by omega, q1, gdE (by omega), show ((rest.length : Int) + 1).toNat = rest.length + 1 by omega, hM2, hAt.1, ClS, gdE hAt.2]
      have q2 : up M2 51 (B + 6 * S 36 ((x : Int) / 6).toNat + (x : Int) % 6).toNat 1 0 69 = (rest.length : Int) + 1 := by rw [up_ne _ _ _ (by decide), m2 0 (by decide) (by decide), g69]
      rw [q2, wrE (by omega) (by omega)]
      rw [show (rest.length : Int) + 1 + 1 = (rest.length : Int) + 2 by omega]
      rfl
    rw [hen, ClS]
    generalize hM3 : up (up M2 51 (ixR S B ((x : Int) / 6) ((x : Int) % 6)) 1) 0 69 ((rest.length : Int) + 2) = M3
    have m3 : ∀ j, j ≠ 0 → j ≠ 51 → j ≠ 57 → j ≠ 58 → M3 j = M17 j := fun j a b c d => by rw [← hM3, up_ne _ _ _ a, up_ne _ _ _ b, m2 j c d]
    have m30 : ∀ i, i ≠ 69 → M3 0 i = M17 0 i := fun i hi => by
      rw [← hM3]
      have : up (up M2 51 (ixR S B ((x : Int) / 6) ((x : Int) % 6)) 1) 0 69 ((rest.length : Int) + 2) 0 i = M2 0 i := by simp [up, hi]
      rw [this, m2 0 (by decide) (by decide)]
    have m351 : ∀ i, M3 51 i = if i = ixR S B ((x : Int) / 6) ((x : Int) % 6) then 1 else M 51 i := fun i => by
      rw [← hM3, up_ne _ _ _ (by decide)]
      unfold up
      by_cases c : i = ixR S B ((x : Int) / 6) ((x : Int) % 6)
      · rw [if_pos ⟨rfl, c⟩, if_pos c]
      · rw [if_neg (fun q => c q.2), if_neg c, m2 51 (by decide) (by decide), y7.1 51 (by decide) (by decide) (by decide) (by decide) (by decide) (by decide) (by decide)]
    have m357 : ∀ i, i ≠ rest.length + 1 → M3 57 i = M 57 i ∧ M3 58 i = M 58 i := fun i hi => by
      rw [← hM3, up_ne _ _ _ (by decide), up_ne _ _ _ (by decide), up_ne _ _ _ (by decide), up_ne _ _ _ (by decide), ← hM2]
      have a1 : up (up M17 57 (rest.length + 1) ((x : Int) / 6)) 58 (rest.length + 1) ((x : Int) % 6) 57 i = M17 57 i := by simp [up, hi]
      have a2 : up (up M17 57 (rest.length + 1) ((x : Int) / 6)) 58 (rest.length + 1) ((x : Int) % 6) 58 i = M17 58 i := by simp [up, hi]
      rw [a1, a2, y7.1 57 (by decide) (by decide) (by decide) (by decide) (by decide) (by decide) (by decide), y7.1 58 (by decide) (by decide) (by decide) (by decide) (by decide) (by decide) (by decide)]
      exact ⟨rfl, rfl⟩
    have m3n : M3 57 (rest.length + 1) = (x : Int) / 6 ∧ M3 58 (rest.length + 1) = (x : Int) % 6 := by
      rw [← hM3, up_ne _ _ _ (by decide), up_ne _ _ _ (by decide), up_ne _ _ _ (by decide), up_ne _ _ _ (by decide), ← hM2]
      exact ⟨by rw [up_ne _ _ _ (by decide), up_at], by rw [up_at]⟩
    have fM : ∀ j, j ≠ 0 → j ≠ 51 → j ≠ 57 → j ≠ 58 → j ≠ 59 → j ≠ 60 → j ≠ 61 → j ≠ 62 → j ≠ 63 → j ≠ 64 → M3 j = M j := fun j a b c d e f g h i k => (m3 j a b c d).trans (y7.1 j a e f g h i k)
    have f0 : ∀ i, i ≠ 69 → i ≠ 72 → i ≠ 73 → i ≠ 74 → i ≠ 75 → i ≠ 76 → i ≠ 80 → M3 0 i = M 0 i := fun i a b c d e f g => (m30 i a).trans (y7.2 i b c d e f g)
    refine ⟨w, M3, rfl, ⟨?_, ?_, ?_, ?_, ?_, ?_, ?_, ?_⟩, ⟨?_, ?_, ?_⟩, ?_, ?_⟩
    · exact ⟨fun j j1 j2 j3 => by rw [fM j (by omega) (by omega) (by omega) (by omega) (by omega) (by omega) (by omega) (by omega) (by omega) (by omega)]; exact hA.1 j j1 j2 j3, fun i hi => by rw [f0 i (by omega) (by omega) (by omega) (by omega) (by omega) (by omega) (by omega)]; exact hA.2 i hi⟩
    · rw [f0 36 (by decide) (by decide) (by decide) (by decide) (by decide) (by decide) (by decide)]; exact e036
    · rw [m3 36 (by decide) (by decide) (by decide) (by decide)]; exact g36
    · rw [m30 68 (by decide)]; exact g68
    · exact OrR.push hP hB h12.2 hxv hOr (fun j hj => fM j (by omega) (by omega) (by omega) (by omega) (by omega) (by omega) (by omega) (by omega) (by omega) (by omega)) m351
    · rw [← hM3, up_at]; simp only [List.length_cons]; omega
    · refine ⟨by simp only [List.length_cons]; exact m3n, StkR.mem _ hst fun i hi => m357 i ?_⟩
      simp only [List.length_cons] at hi; omega
    · exact fun e => (by cases e)
    · exact fun j a b c => fM j a (by omega) (by omega) (by omega) (by omega) (by omega) (by omega) (by omega) (by omega) (by omega)
    · intro j hj i hi
      by_cases c : j = 51
      · subst c
        rw [m351, if_neg (hi _ _ (by omega) hxv.2.1 (by omega) hxv.2.2 (Or.inl rfl))]
      · rw [fM j (by omega) c (by omega) (by omega) (by omega) (by omega) (by omega) (by omega) (by omega) (by omega)]
    · exact fun i _ a b c d e f g => f0 i a b c d e f g
    · rw [if_pos (Or.inl rfl), f0 67 (by decide) (by decide) (by decide) (by decide) (by decide) (by decide) (by decide)]
    · intro e
      have := congrArg List.length e
      simp only [List.length_cons] at this
      omega
  | some v0 =>
    obtain ⟨w1, vb, T, Fg⟩ := hQ.1 v0 ho
    simp only at w1 T Fg
    generalize hSP : (spc S (Lk S rg bv bh (s :: rest)) (s / 6) (s % 6)).1 = tt at T
    have hcrs : crs S rg (s :: rest, bv, bh, lf, kk) = (rest, se bv s.toNat v0, se bh s.toNat (hgs S (Lk S rg bv bh (s :: rest)) (s / 6) (s % 6) tt v0), if rest = [] then dd tt else lf, kk + 1) := by
      unfold crs
      simp only [ho]
      rw [hSP]
    rw [hcrs]
    obtain ⟨tA, t036, t36, t68, t72, tO, tB, tH, tS, tl⟩ := T
    have hhb := hgs_hb (S := S) hN (Lk_hb hbh (rg := rg) (bv := bv) (op := s :: rest)) (n := s / 6) (a := s % 6) hn tt v0
    have hh0 := bt_ne hhb.2.1
    have g69 : M17 0 69 = (rest.length : Int) + 1 := by rw [Fg.2 69 (by decide) (by decide) (by decide) (by decide) (by decide) (by decide), e69]; omega
    have hAt := r_at (S := S) (M := up M17 0 69 (rest.length : Int)) hP hB (by rw [up_ne _ _ _ (by decide)]; exact t36) (by rw [← t68]; simp [up]) h35.2 (n := s / 6) (a := s % 6) hn ⟨by omega, by omega⟩
    rw [if_pos t72, g69, wrE (by omega) (by omega), show (rest.length : Int) + 1 - 1 = (rest.length : Int) by omega, hAt.1, ClS, gdE hAt.2]
    generalize hX : B + 6 * S 36 (s / 6).toNat + s % 6 = at_
    have hXi : at_.toNat = ixR S B (s / 6) (s % 6) := by rw [← hX]; rfl
    have hgd : 0 ≤ at_ ∧ at_ < 720 := hX ▸ hAt.2
    have fin : ∀ M' : Mm, (∀ j, j ≠ 0 → ¬ (50 ≤ j ∧ j ≤ 54) → M' j = M17 j) → (∀ i, M' 51 i = if i = ixR S B (s / 6) (s % 6) then 0 else M17 51 i) →
        (∀ j, j = 50 ∨ j = 52 ∨ j = 53 ∨ j = 54 → ∀ i, (S 12 (s % 6).toNat = 3 ∨ i ≠ ixR S B (s / 6) (s % 6)) → M' j i = M17 j i) →
        (S 12 (s % 6).toNat ≠ 3 → M' 50 (ixR S B (s / 6) (s % 6)) = 1 ∧ M' 52 (ixR S B (s / 6) (s % 6)) = pv S v0 ∧ HR S (hgs S (Lk S rg bv bh (s :: rest)) (s / 6) (s % 6) tt v0) (M' 53 (ixR S B (s / 6) (s % 6))) (M' 54 (ixR S B (s / 6) (s % 6)))) →
        (∀ i, i ≠ 67 → i ≠ 69 → M' 0 i = M17 0 i) → M' 0 69 = (rest.length : Int) → M' 0 67 = (if S 12 (s % 6).toNat = 3 then M17 0 67 else wr (M17 0 67 + if B = 0 then 1 else 0)) →
        ∃ v' M'', Lp (f_X12_finds_L13_55 J) F (w, M') = Lp (f_X12_finds_L13_55 J) F (v', M'') ∧ RpR S B rg M'' (rest, se bv s.toNat v0, se bh s.toNat (hgs S (Lk S rg bv bh (s :: rest)) (s / 6) (s % 6) tt v0), (if rest = [] then dd tt else lf), kk + 1) ∧ FrR S B M M'' ∧ M'' 0 67 = (if kk + 1 = kk ∨ S 12 (s % 6).toNat = 3 then M 0 67 else wr (M 0 67 + if B = 0 then 1 else 0)) ∧ (rest = rest → v' = pv S (se bv s.toNat v0 s.toNat)) := by
      intro M' fM f51 f5 f3 f0 f69 f67
      have fMM : ∀ j, j ≠ 0 → ¬ (50 ≤ j ∧ j ≤ 54) → ¬ (57 ≤ j ∧ j ≤ 64) → M' j = M j := fun j a b c => (fM j a b).trans (Fg.1 j a (by omega) (by omega) (by omega) (by omega) (by omega) (by omega))
      refine ⟨w, M', rfl, ⟨?_, ?_, ?_, ?_, ?_, ?_, ?_, ?_⟩, ⟨?_, ?_, ?_⟩, ?_, ?_⟩
      · exact ⟨fun j j1 j2 j3 => by rw [fM j (by omega) (by omega)]; exact tA.1 j j1 j2 j3, fun i hi => by rw [f0 i (by omega) (by omega)]; exact tA.2 i hi⟩
      · rw [f0 36 (by decide) (by decide)]; exact t036
      · rw [fM 36 (by decide) (by decide)]; exact t36
      · rw [f0 68 (by decide) (by decide)]; exact t68
      · exact OrR.pop hP hB h12.2 hs hno tO hh0 (fM 55 (by decide) (by decide)) f51 (fun j hj i hi => f5 j hj i (Or.inr hi)) f3
      · exact f69
      · refine StkR.mem _ hst.2 fun i hi => ?_
        rw [fM 57 (by decide) (by decide), fM 58 (by decide) (by decide), Fg.1 57 (by decide) (by decide) (by decide) (by decide) (by decide) (by decide) (by decide), Fg.1 58 (by decide) (by decide) (by decide) (by decide) (by decide) (by decide) (by decide)]
        exact ⟨rfl, rfl⟩
      · intro e h79
        simp only at e ⊢
        have g79 : M 0 79 ≠ 0 := by
          rw [f0 79 (by decide) (by decide), Fg.2 79 (by decide) (by decide) (by decide) (by decide) (by decide) (by decide)] at h79
          exact h79
        have h691 : M 0 69 = 1 := by rw [e69, e]; rfl
        have hrec : Rec M17 := Fg.rec_.mpr ⟨g79, h691⟩
        have hl := tl hrec
        have hdec : decide (M 0 79 ≠ 0 ∧ M 0 69 = 1) = true := decide_eq_true ⟨g79, h691⟩
        rw [hdec] at hl
        rw [if_pos e]
        unfold LsR at hl ⊢
        rw [f0 80 (by decide) (by decide), fM 61 (by decide) (by decide)]
        exact hl
      · exact fMM
      · intro j hj i hi
        rw [← Fg.1 j (by omega) (by omega) (by omega) (by omega) (by omega) (by omega) (by omega)]
        by_cases c : j = 51
        · subst c; rw [f51, if_neg (hi _ _ hn.1 hn.2 ha.1 ha.2 (Or.inl rfl))]
        · by_cases k3 : S 12 (s % 6).toNat = 3
          · exact f5 j (by omega) i (Or.inl k3)
          · exact f5 j (by omega) i (Or.inr (hi _ _ hn.1 hn.2 ha.1 ha.2 (Or.inr k3)))
      · exact fun i a b c d e f g h => (f0 i a b).trans (Fg.2 i c d e f g h)
      · rw [f67, Fg.2 67 (by decide) (by decide) (by decide) (by decide) (by decide) (by decide)]
        by_cases k3 : S 12 (s % 6).toNat = 3
        · rw [if_pos k3, if_pos (Or.inr k3)]
        · rw [if_neg k3, if_neg (c := kk + 1 = kk ∨ S 12 (s % 6).toNat = 3) (fun q => q.elim (fun q => absurd q (by omega)) k3)]
      · intro _
        rw [se_at]; exact w1
    have e12 : up (up M17 0 69 (rest.length : Int)) 51 at_.toNat 0 12 (s % 6).toNat = S 12 (s % 6).toNat := by rw [up_ne _ _ _ (by decide), up_ne _ _ _ (by decide), tA.1 12 (by decide) (by decide) (by decide)]
    unfold fdK
    rw [gdE (by omega), e12]
    have h51 : ∀ i, up (up M17 0 69 (rest.length : Int)) 51 at_.toNat 0 51 i = if i = ixR S B (s / 6) (s % 6) then 0 else M17 51 i := fun i => by
      rw [hXi]
      simp [up]
    by_cases k3 : S 12 (s % 6).toNat = 3
    · rw [if_pos k3]
      refine fin _ (fun j a b => by rw [up_ne _ _ _ (by omega), up_ne _ _ _ a]) h51 (fun j hj i _ => by rw [up_ne _ _ _ (by omega), up_ne _ _ _ (by omega)]) (fun q => absurd k3 q) (fun i a b => by simp [up, b]) (by simp [up]) (by rw [if_pos k3]; simp [up])
    · rw [if_neg k3, gdE hgd, gdE hgd, gdE hgd]
      generalize hM28 : up (up M17 0 69 (rest.length : Int)) 51 at_.toNat 0 = M28 at h51
      have r0 : ∀ i, i ≠ 69 → M28 0 i = M17 0 i := fun i hi => by rw [← hM28]; simp [up, hi]
      have r69 : M28 0 69 = (rest.length : Int) := by rw [← hM28]; simp [up]
      have rj : ∀ j, j ≠ 0 → j ≠ 51 → M28 j = M17 j := fun j a b => by rw [← hM28, up_ne _ _ _ b, up_ne _ _ _ a]
      have tail : ∀ b : Int, HR S (hgs S (Lk S rg bv bh (s :: rest)) (s / 6) (s % 6) tt v0) (M17 0 74) b → ∃ v' M'', fdE at_ w (Lp (f_X12_finds_L13_55 J) F) b (up (up (up M28 50 at_.toNat 1) 52 at_.toNat w) 53 at_.toNat (up (up M28 50 at_.toNat 1) 52 at_.toNat w 0 74)) = Lp (f_X12_finds_L13_55 J) F (v', M'') ∧ RpR S B rg M'' (rest, se bv s.toNat v0, se bh s.toNat (hgs S (Lk S rg bv bh (s :: rest)) (s / 6) (s % 6) tt v0), (if rest = [] then dd tt else lf), kk + 1) ∧ FrR S B M M'' ∧ M'' 0 67 = (if kk + 1 = kk ∨ S 12 (s % 6).toNat = 3 then M 0 67 else wr (M 0 67 + if B = 0 then 1 else 0)) ∧ (rest = rest → v' = pv S (se bv s.toNat v0 s.toNat)) := by
        intro b hb
        have x74 : up (up M28 50 at_.toNat 1) 52 at_.toNat w 0 74 = M17 0 74 := by rw [up_ne _ _ _ (by decide), up_ne _ _ _ (by decide), r0 74 (by decide)]
        unfold fdE
        rw [gdE hgd, x74]
        generalize hM5 : up (up (up (up M28 50 at_.toNat 1) 52 at_.toNat w) 53 at_.toNat (M17 0 74)) 54 at_.toNat b = M5
        have z0 : ∀ i, M5 0 i = M28 0 i := fun i => by rw [← hM5, up_ne _ _ _ (by decide), up_ne _ _ _ (by decide), up_ne _ _ _ (by decide), up_ne _ _ _ (by decide)]
        have zj : ∀ j, ¬ (50 ≤ j ∧ j ≤ 54) → M5 j = M28 j := fun j hj => by rw [← hM5, up_ne _ _ _ (by omega), up_ne _ _ _ (by omega), up_ne _ _ _ (by omega), up_ne _ _ _ (by omega)]
        have z51 : M5 51 = M28 51 := by rw [← hM5, up_ne _ _ _ (by decide), up_ne _ _ _ (by decide), up_ne _ _ _ (by decide), up_ne _ _ _ (by decide)]
        have z5 : ∀ j, j = 50 ∨ j = 52 ∨ j = 53 ∨ j = 54 → ∀ i, i ≠ ixR S B (s / 6) (s % 6) → M5 j i = M28 j i := fun j _ i hi => by
          rw [← hXi] at hi
          rw [← hM5]; simp [up, hi]
        have z3 : M5 50 at_.toNat = 1 ∧ M5 52 at_.toNat = w ∧ M5 53 at_.toNat = M17 0 74 ∧ M5 54 at_.toNat = b := by
          rw [← hM5]; simp [up]
        have z68 : M5 0 68 = B := by rw [z0, r0 68 (by decide)]; exact t68
        have z67 : M5 0 67 = M17 0 67 := by rw [z0, r0 67 (by decide)]
        have go : ∀ c : Int, c = (if B = 0 then 1 else 0) → ∃ v' M'', Lp (f_X12_finds_L13_55 J) F (w, up M5 0 67 (wr (M5 0 67 + c))) = Lp (f_X12_finds_L13_55 J) F (v', M'') ∧ RpR S B rg M'' (rest, se bv s.toNat v0, se bh s.toNat (hgs S (Lk S rg bv bh (s :: rest)) (s / 6) (s % 6) tt v0), (if rest = [] then dd tt else lf), kk + 1) ∧ FrR S B M M'' ∧ M'' 0 67 = (if kk + 1 = kk ∨ S 12 (s % 6).toNat = 3 then M 0 67 else wr (M 0 67 + if B = 0 then 1 else 0)) ∧ (rest = rest → v' = pv S (se bv s.toNat v0 s.toNat)) := by
          intro c hc
          refine fin _ (fun j a b => by rw [up_ne _ _ _ a, zj j b, rj j a (by omega)]) (fun i => by rw [up_ne _ _ _ (by decide), z51]; exact h51 i) (fun j hj i hi => by rw [up_ne _ _ _ (by omega), z5 j hj i (hi.resolve_left k3), rj j (by omega) (by omega)]) (fun _ => ?_) (fun i a b => ?_) ?_ ?_
          · rw [up_ne _ _ _ (by decide), up_ne _ _ _ (by decide), up_ne _ _ _ (by decide), up_ne _ _ _ (by decide), ← hXi, z3.1, z3.2.1, z3.2.2.1, z3.2.2.2]
            exact ⟨rfl, w1, hb⟩
          · have : up M5 0 67 (wr (M5 0 67 + c)) 0 i = M5 0 i := by simp [up, a]
            rw [this, z0, r0 i b]
          · have : up M5 0 67 (wr (M5 0 67 + c)) 0 69 = M5 0 69 := by simp [up]
            rw [this, z0, r69]
          · rw [up_at, if_neg k3, z67, hc]
        rw [z68]
        by_cases cB : B = 0
        · rw [if_neg (fun q => q cB)]
          exact go 1 (by rw [if_pos cB])
        · rw [if_pos cB]
          exact go 0 (by rw [if_neg cB])
      have x75 : up (up (up M28 50 at_.toNat 1) 52 at_.toNat w) 53 at_.toNat (up (up M28 50 at_.toNat 1) 52 at_.toNat w 0 74) 0 75 = M17 0 75 := by rw [up_ne _ _ _ (by decide), up_ne _ _ _ (by decide), up_ne _ _ _ (by decide), r0 75 (by decide)]
      have hw2 : w = -2 ↔ v0 = -2 := by
        rw [w1]
        have := pv_inj (S := S) (v := v0) (w := -2) hP vb.2 (by omega)
        rw [pv_lo (v := -2) (by decide)] at this
        exact this
      have hcell := tH.2.1
      rw [x75]
      have hall := HR.all_ h35.2 tB tH
      by_cases cv : v0 = -2
      · have eh : hgs S (Lk S rg bv bh (s :: rest)) (s / 6) (s % 6) tt v0 = jor (ob (Lk S rg bv bh (s :: rest)) (h0_ S (s / 6) (s % 6)) tt) ALL := by unfold hgs; rw [if_pos cv]
        have T1 := tail 1 (by rw [eh]; exact hall)
        by_cases c75 : M17 0 75 = 0
        · rw [if_neg (fun q => q c75), if_neg (fun q => q (hw2.mpr cv))]; exact T1
        · rw [if_pos c75]; exact T1
      · have eh : hgs S (Lk S rg bv bh (s :: rest)) (s / 6) (s % 6) tt v0 = ob (Lk S rg bv bh (s :: rest)) (h0_ S (s / 6) (s % 6)) tt := by unfold hgs; rw [if_neg cv]
        by_cases c75 : M17 0 75 = 0
        · rw [if_neg (fun q => q c75), if_pos (fun q => cv (hw2.mp q))]
          exact tail 0 (by rw [eh, ← c75]; exact tH)
        · have e75 : M17 0 75 = 1 := by
            rw [hcell] at c75 ⊢
            split
            · rfl
            · rename_i q; rw [if_neg q] at c75; exact absurd rfl c75
          rw [if_pos c75]
          exact tail 1 (by rw [eh, ← e75]; exact tH)
