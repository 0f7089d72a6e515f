/-! conflicts, RINGs, an equation as the law lays it -/
theorem t_conflicts {RG : Mm → Nat → Int} {MC MR : Mm} (hI : Inv RG MC MR 0) : f_X11_conflicts MC = some (cnf MR (MR 0 19).toNat (MR 0 19).toNat, MC) := by
  obtain ⟨⟨⟨p1, p2, p3, p4, p5⟩, ⟨q1, q2, q3, q4, q5⟩, q6, q7, p6⟩, hV, hR, hB⟩ := id hI
  have hN := p3.1
  unfold f_X11_conflicts f_X1_countConflicts
  rw [LtE]
  have : Lp (f_X1_countConflicts_L4_26 fun v1 M2 => some (v1, M2)) FU (0, 0, MC) = some (cnf MR (MR 0 19).toNat (MR 0 19).toNat, MC) := by
    refine Lp_for (MR 0 19).toNat (fun k => (cnf MR (MR 0 19).toNat k, (k : Int), MC)) (fun rc k hk => ?_) (fun rc => ?_) (FU_lt (by omega)) rfl
    · simp only [f_X1_countConflicts_L4_26, LtE]
      have hc := cnf_le MR (MR 0 19).toNat k
      have hs : cnf MR (MR 0 19).toNat (k + 1) = cnf MR (MR 0 19).toNat k + (if cfa MR k (MR 0 19).toNat then 1 else 0) := rfl
      rw [q3.1, if_neg (by omega), e_rowOf q3 p3 (by omega), ClS, if_neg (by omega), gdE ⟨by omega, by rw [Int.toNat_natCast]; exact isE_k (by omega)⟩, Int.toNat_natCast, e_counts q3 p3 (by omega), ClS, wrE (v := (k : Int) + 1) (by omega) (by omega), show ((k : Int) + 1) = ((k + 1 : Nat) : Int) by omega, hs]
      by_cases h : MR 27 (MR 19 k).toNat = 0
      · rw [if_pos h, if_neg (by decide), c_inConf p1 p3 q3 hV.2.1 (by omega) h, ClS]
        cases cfa MR k (MR 0 19).toNat with
        | true => rw [if_neg (by simp), wrE (by omega) (by omega)]; rfl
        | false => rw [if_pos (by simp)]; simp
      · have : cfa MR k (MR 0 19).toNat = false := by
          by_cases e : cfa MR k (MR 0 19).toNat = true
          · rw [cfa_iff] at e
            obtain ⟨i, i1, i2⟩ := e
            unfold cfj at i2
            simp [h] at i2
          · simpa using e
        rw [if_neg h, if_pos rfl, this]; simp
    · simp only [f_X1_countConflicts_L4_26, LtE]
      rw [q3.1, if_pos (by omega)]
  rw [this, ClS]
theorem nxt_bd (P : Nat → Bool) : ∀ f j, nxt P f j = -1 ∨ ((j : Int) ≤ nxt P f j ∧ nxt P f j < (j : Int) + f) := by
  intro f
  induction f with
  | zero => exact fun j => Or.inl rfl
  | succ f ih =>
    intro j
    simp only [nxt]
    split
    · right; omega
    · have := ih (j + 1)
      omega
theorem t_ringIn {RG : Mm → Nat → Int} (hRG : RGok RG) {M S : Mm} (h : CI RG M S) : ∃ v M', f_X11_ringIn M = some (v, M') ∧ (-1 ≤ v ∧ v < S 0 0 ∨ v = -1) ∧ CI RG M' S ∧ ∀ j, j ≠ 679 → j ≠ 680 → M' j = M j := by
  obtain ⟨⟨⟨p1, p2, p3, p4, p5⟩, ⟨q1, q2, q3, q4, q5⟩, q6, q7, p6⟩, hV, hR, hB⟩ := id h.1.1
  have h10 := p1.1
  obtain ⟨N, n1, n2, n3⟩ := itn_end p1 (q := (fun _ => 0, fun _ => 0, 1)) (fun i hi => by show (0 : Int) ≤ 0 ∧ (0 : Int) < 64; decide) rfl
  obtain ⟨r, hr1, r1, r2⟩ := c_firstRing ⟨q1, q3, hV⟩ p1 p3 n1 n2 n3
  have hI := h.1.1.of hRG 0 (MC' := r.2) (MR' := S) (fun _ _ => rfl) (fun _ _ => rfl) (fun j hj => r2 j (by omega) (by omega)) (by rw [r2 273 (by decide) (by decide)]) (by rw [r2 310 (by decide) (by decide)])
  refine ⟨r.1, r.2, ?_, ?_, ⟨⟨hI, ?_⟩, h.2⟩, r2⟩
  · unfold f_X11_ringIn
    rw [hr1, show (r : Int × Mm) = (r.1, r.2) from rfl, ClS]
  · rw [r1]
    have := nxt_bd (ht S (itn S (fun _ => 0, fun _ => 0, 1) (N + 1)).2.1) (S 0 0).toNat 0
    omega
  · rw [r2 300 (by decide) (by decide), r2 301 (by decide) (by decide)]
    exact h.1.2
theorem nlt30 {k : Nat} {N : Int} (h : k < N.toNat) (hN : 0 ≤ N ∧ N ≤ 30) : (0 ≤ (k : Int) ∧ (k : Int) < 30) ∧ (k : Int) < N ∧ wr ((k : Int) + 1) = ((k + 1 : Nat) : Int) ∧ ¬ N ≤ (k : Int) := by
  have e : wr ((k : Int) + 1) = (k : Int) + 1 := wrE (by omega) (by omega)
  rw [e]
  omega
theorem cnf_w {x : Int} {k : Nat} (h : 0 ≤ x ∧ x ≤ k) (hk : k < 100) : wr (x + 1) = x + 1 ∧ wr (x + 0) = x + 0 := ⟨wrE (by omega) (by omega), wrE (by omega) (by omega)⟩
theorem dec3 {p a t p' a' t' : Int} (h : p + 20 * a + 200 * (t + 2) = p' + 20 * a' + 200 * (t' + 2)) (hp : 0 ≤ p ∧ p < 10) (ha : 0 ≤ a ∧ a < 6) (hp' : 0 ≤ p' ∧ p' < 10) (ha' : 0 ≤ a' ∧ a' < 6) : p' = p ∧ a' = a ∧ t' = t := by omega
theorem ne_m2 {t : Int} (h : ¬ t + 2 ≤ 0) : t ≠ -2 := by omega
theorem L_conflicts {RG : Mm → Nat → Int} {M S : Mm} {b : Int} (h : LI RG M S b) : f_L_conflicts M = some (cnf S (S 0 19).toNat (S 0 19).toNat, M) := by
  obtain ⟨hci, hLM, -, -⟩ := id h
  obtain ⟨⟨p1, p2, p3, p4, p5⟩, -, -, -, -⟩ := hci.1.1.1
  obtain ⟨⟨l1, l2, l3, l4, l5⟩, ⟨l6, l7⟩, l8, l9, l10⟩ := id hLM
  have hN := p3.1
  have h10 := p1.1
  have h12 := p1.2.1
  have hFU : (S 0 19).toNat < 1000000000000000 := by omega
  have htop : S 0 19 ≤ ((S 0 19).toNat : Int) := by omega
  have g2 : (0 : Nat) ≤ 2 ∧ (2 : Nat) < 11 := by decide
  have g5 : (0 : Nat) ≤ 5 ∧ (5 : Nat) < 11 := by decide
  -- an equation as it is coded
  have hq : ∀ e : Nat, (e : Int) < S 0 19 → (wr (Int.tdiv (M 682 e) 2000) = S 19 e ∧ jand (jshr (M 684 5) (S 19 e)) 1 = S 27 (S 19 e).toNat) ∧ jrem (wr (Int.tdiv (M 682 e) 200)) 10 = S 18 e + 2 ∧ jrem (M 682 e) 2000 = S 16 e + 20 * S 17 e + 200 * (S 18 e + 2) ∧ (0 ≤ S 16 e ∧ S 16 e < 10) ∧ (0 ≤ S 17 e ∧ S 17 e < 6) ∧ (-2 ≤ S 18 e ∧ S 18 e < 3) := fun e he => by
    obtain ⟨o1, o2, o3, o4, o5, -⟩ := p3.2.1 e he
    have ht : -2 ≤ S 18 e ∧ S 18 e < 3 := by
      have hc := (p1.2.2.2.1 (S 16 e) o1.1 o1.2).2.2.2.2.1
      have hc2 := (p1.2.2.2.1 (S 16 e) o1.1 o1.2).2.1
      split at o5
      · omega
      · rw [o5]; split <;> decide
    have z := l10 e he
    generalize hx : M 682 e = x at *
    have f1 := (jremE (x := x) (k := 2000) (by omega) (by omega) (by decide) (by decide))
    have f2 := (jremE (x := x) (k := 200) (by omega) (by omega) (by decide) (by decide))
    have f3 := (jremE (x := x / 200) (k := 10) (by omega) (by omega) (by decide) (by decide)).1
    have hb := l7 (S 19 e).toNat (by omega)
    rw [Int.toNat_of_nonneg o3.1] at hb
    rw [f1.1, f1.2, f2.2, f3]
    exact ⟨⟨by omega, hb⟩, by omega, by omega, by omega, by omega, ht⟩
  unfold f_L_conflicts
  rw [LtE]
  refine Lp_for (S 0 19).toNat (fun k => (cnf S (S 0 19).toNat k, (k : Int), M)) (fun rc k hk => ?_) (fun rc => ?_) (FU_lt hFU) rfl
  · have hc := cnf_le S (S 0 19).toNat k
    have hk30 := nlt30 hk hN
    obtain ⟨⟨a1, a2⟩, a3, a4, a5⟩ := hq k hk30.2.1
    simp only [f_L_conflicts_L4_86, LtE, gdE g2]
    rw [l3, if_neg hk30.2.2.2]
    have hin : ∀ J : Int → Int → Int → Mm → Rs, Lp (f_L_conflicts_L17_85 J) FU (cnf S (S 0 19).toNat k, (k : Int), 0, 0, M) = J (cnf S (S 0 19).toNat k) (k : Int) (if cfa S k (S 0 19).toNat then 1 else 0) M := fun J => by
      refine Lp_for (S 0 19).toNat (fun j => (cnf S (S 0 19).toNat k, (k : Int), (if cfa S k j then (1 : Int) else 0), (j : Int), M)) (fun rc2 j hj => ?_) (fun rc2 => ?_) (FU_lt hFU) rfl
      · have hj30 := nlt30 hj hN
        obtain ⟨⟨b1, b2⟩, b3, b4, b5⟩ := hq j hj30.2.1
        simp only [f_L_conflicts_L17_85, LtE, gdE g2, gdE g5]
        have hnext := hj30.2.2.1
        simp only [gdE hk30.1, gdE hj30.1]
        rw [Int.toNat_natCast, Int.toNat_natCast, l3, if_neg hj30.2.2.2, a1, b1, a2, b2, a3, a4, b4, hnext]
        have hcf : cfj S k j = true ↔ j ≠ k ∧ S 18 k ≠ -2 ∧ S 27 (S 19 k).toNat = 0 ∧ (S 16 j = S 16 k ∧ S 17 j = S 17 k ∧ S 18 j = S 18 k ∧ S 27 (S 19 j).toNat = 0) := by
          unfold cfj
          simp only [Bool.and_eq_true, decide_eq_true_iff, mt_iff]
        cases h1 : cfa S k j with
        | true =>
          have h2 : cfa S k (j + 1) = true := by unfold cfa; rw [h1]; rfl
          simp only [h2, if_true]
          by_cases c1 : S 27 (S 19 k).toNat = 0
          · rw [if_neg (fun q => q c1)]
            by_cases c2 : S 27 (S 19 j).toNat = 0
            · rw [if_neg (fun q => q c2), if_pos (by decide)]
            · rw [if_pos c2, if_pos (by decide)]
          · rw [if_pos c1, if_pos (by decide)]
        | false =>
          have h2 : cfa S k (j + 1) = cfj S k j := by unfold cfa; rw [h1]; rfl
          rw [h2]
          have e0 : ∀ X Y : Rs, (if ¬ (if false = true then (1 : Int) else 0) = 0 then X else Y) = Y := fun X Y => if_neg (by simp)
          have e1 : (if false = true then (1 : Int) else 0) = 0 := if_neg (by simp)
          rw [e1]
          by_cases c1 : S 27 (S 19 k).toNat = 0
          case neg =>
            have hf : cfj S k j = false := Bool.eq_false_iff.mpr fun q => c1 (hcf.mp q).2.2.1
            rw [if_pos c1, hf, e1, if_neg (c := ¬ (0 : Int) = 0) (fun q => q rfl)]
            by_cases c3 : (k : Int) = (j : Int)
            · rw [if_pos c3]
            · rw [if_neg c3, if_pos trivial]
          rw [if_neg (c := ¬ S 27 (S 19 k).toNat = 0) (fun q => q c1)]
          by_cases c2 : S 27 (S 19 j).toNat = 0
          case neg =>
            have hf : cfj S k j = false := Bool.eq_false_iff.mpr fun q => c2 (hcf.mp q).2.2.2.2.2.2
            rw [if_pos c2, hf, e1, if_neg (c := ¬ (0 : Int) = 0) (fun q => q rfl)]
            by_cases c3 : (k : Int) = (j : Int)
            · rw [if_pos c3]
            · rw [if_neg c3, if_pos trivial]
          rw [if_neg (c := ¬ S 27 (S 19 j).toNat = 0) (fun q => q c2), if_neg (c := ¬ (0 : Int) = 0) (fun q => q rfl)]
          by_cases c3 : (k : Int) = (j : Int)
          · have hf : cfj S k j = false := Bool.eq_false_iff.mpr fun q => (hcf.mp q).1 (Int.ofNat.inj c3).symm
            rw [if_pos c3, hf, e1]
          rw [if_neg c3, if_neg (c := (1 : Int) = 0) (by decide)]
          by_cases c4 : S 18 k + 2 ≤ 0
          · have hf : cfj S k j = false := Bool.eq_false_iff.mpr fun q => (hcf.mp q).2.1 (by omega)
            rw [if_pos c4, hf, e1]
          rw [if_neg c4]
          by_cases c5 : S 16 k + 20 * S 17 k + 200 * (S 18 k + 2) = S 16 j + 20 * S 17 j + 200 * (S 18 j + 2)
          · have hf : cfj S k j = true := hcf.mpr ⟨fun e => c3 (by rw [e]), ne_m2 c4, c1, (dec3 c5 a5.1 a5.2.1 b5.1 b5.2.1).1, (dec3 c5 a5.1 a5.2.1 b5.1 b5.2.1).2.1, (dec3 c5 a5.1 a5.2.1 b5.1 b5.2.1).2.2, c2⟩
            rw [if_neg (fun q => q c5), hf]
            rfl
          · have hf : cfj S k j = false := Bool.eq_false_iff.mpr fun q => by
              have := (hcf.mp q).2.2.2
              omega
            rw [if_pos c5, hf, e1]
      · simp only [f_L_conflicts_L17_85, LtE, gdE g2]
        rw [l3, if_pos htop]
    rw [hin]
    have hs : cnf S (S 0 19).toNat (k + 1) = cnf S (S 0 19).toNat k + (if cfa S k (S 0 19).toNat then 1 else 0) := rfl
    have hk100 : k < 100 := Nat.lt_of_lt_of_le (Int.ofNat_lt.mp hk30.1.2) (by decide)
    rw [hs, hk30.2.2.1]
    cases cfa S k (S 0 19).toNat with
    | true => rw [if_neg (by simp), (cnf_w hc hk100).1]; rfl
    | false => rw [if_pos (by simp), (cnf_w hc hk100).2]; rfl
  · simp only [f_L_conflicts_L4_86, LtE, gdE g2]
    rw [l3, if_pos htop]
theorem eq_loop {RG : Mm → Nat → Int} (hRG : RGok RG) {N : Nat} {xs : Nat → Int32} {a7 nd : Int} (h7 : 0 ≤ a7 ∧ a7 ≤ 10000) (hnd : nd = 1 ∨ nd = 2) {b : Int} : ∀ (d j F : Nat), j + d = 8 → d < F → ∀ (M S : Mm) (st : Int), LI RG M S b → 0 < S 0 12 → S 0 15 = st → (0 ≤ S 0 14 ∧ S 0 14 ≤ j) → (0 ≤ st ∧ st ≤ j) →
    ∃ st' M' S', (∀ J : Int → Int → Mm → Rs, Lp (f_L_isEquation_L83_257 N xs a7 nd J) F (1, st, (j : Int), M) = J 1 st' M') ∧ LI RG M' S' b ∧ AgQ S S' ∧ S' 0 15 = st' ∧ (0 ≤ st' ∧ st' ≤ 8) ∧ ∀ k, 681 ≤ k → M' k = M k := by
  intro d
  induction d with
  | zero =>
    intro j F hj hF M S st h h12 e15 e14 hst
    obtain ⟨G, rfl⟩ : ∃ G, F = G + 1 := ⟨F - 1, by omega⟩
    refine ⟨st, M, S, fun J => ?_, h, AgQ.refl S, e15, by omega, fun _ _ => rfl⟩
    rw [Lp_s]
    show (if 8 ≤ (j : Int) then J 1 st M else _) = _
    rw [if_pos (by omega)]
  | succ d ih =>
    intro j F hj hF M S st h h12 e15 e14 hst
    obtain ⟨G, rfl⟩ : ∃ G, F = G + 1 := ⟨F - 1, by omega⟩
    obtain ⟨st1, M1, S1, a1, a2, a3, a4, a5, a6, a7'⟩ := eq_body hRG (N := N) (xs := xs) h7 hnd h h12 (j := j) (by omega) e15 e14 hst
    obtain ⟨st2, M2, S2, b1, b2, b3, b4, b5, b6⟩ := ih (j + 1) G (by omega) (by omega) M1 S1 st1 a2 (by rw [a3.2 12 (by simp)]; exact h12) a4 a5 a6
    refine ⟨st2, M2, S2, fun J => ?_, b2, a3.trans b3, b4, b5, fun k hk => by rw [b6 k hk, a7' k hk]⟩
    rw [Lp_s, a1, b1]
theorem D_equation {RG : Mm → Nat → Int} (hRG : RGok RG) {M S : Mm} {b : Int} (h : LI RG M S b) {p a t d : Int} (hp : 0 ≤ p ∧ p < S 0 0) (ha : 0 ≤ a ∧ a < S 0 12) (hd : 0 ≤ d ∧ d ≤ 3) (hB : eqB (S 12 a.toNat) t) :
    (¬ (t < 0 ∨ t < S 4 p.toNat) ∧ f_L_does 5 p a t d 0 M = some (-3000000, M)) ∨ ((t < 0 ∨ t < S 4 p.toNat) ∧ ¬ (S 0 15 = (if S 12 a.toNat = 2 then 2 else 1) ∧ S 0 19 ≠ 30) ∧ f_L_does 5 p a t d 0 M = some (-1000000, M)) ∨ ((t < 0 ∨ t < S 4 p.toNat) ∧ (S 0 15 = (if S 12 a.toNat = 2 then 2 else 1) ∧ S 0 19 ≠ 30) ∧ ∃ M' S', f_L_does 5 p a t d 0 M = some (S 0 19, M') ∧ (∀ k, 681 ≤ k → M' k = M k) ∧ LI RG (up (up M' 682 (S 0 19).toNat (p + 20 * a + 200 * (t + 2) + 2000 * d)) 684 2 (S 0 19 + 1)) S' b ∧ S' 0 0 = S 0 0 ∧ S' 0 12 = S 0 12 ∧ S' 12 = S 12) := by
  obtain ⟨hci, hLM, h6, hBd⟩ := id h
  obtain ⟨r, q, a1, a2, a3, a4, a5, a6, a7, a8, a9⟩ := g24_equation hRG p a t d hci.1.1
  obtain ⟨⟨p1, p2, p3, p4, p5⟩, -, -, -, -⟩ := hci.1.1.1
  have h19 := p3.1
  rw [does_5]
  by_cases c1 : t < 0 ∨ t < S 4 p.toNat
  case neg =>
    left
    rw [if_pos (fun e : eqA S p a t d => c1 e.2.2.1)] at a7
    refine ⟨c1, ?_⟩
    rw [Clt_fail a1 (by rw [a7]; decide) (a8 (by rw [a7]; decide)).1, a7]
    rfl
  rw [if_neg (fun c => c ⟨hp, ha, c1, hd⟩), if_neg (fun c => c hB)] at a7
  right
  by_cases c2 : S 0 15 = (if S 12 a.toNat = 2 then 2 else 1) ∧ S 0 19 ≠ 30
  case neg =>
    left
    rw [if_neg c2] at a7
    refine ⟨c1, c2, ?_⟩
    rw [Clt_fail a1 (by rw [a7]; decide) (a8 (by rw [a7]; decide)).1, a7]
    rfl
  right
  rw [if_pos c2] at a7
  obtain ⟨g, e1, e2, e3, e4, e5, e6, e7, e8⟩ := a9 a7
  have hv : r.2.1 = S 0 19 := by rw [a5 a7, e1]
  have e4' : ∀ j, (1 ≤ j ∧ j ≤ 15) ∨ j = 27 ∨ (30 ≤ j ∧ j ≤ 35) → q.2 j = S j := fun j hj => e4 j (by omega) (by omega) (by omega) (by omega)
  have es : ∀ i, i = 0 ∨ i = 12 ∨ i = 33 ∨ i = 35 → q.2 0 i = S 0 i := fun i hi => e2 i (by omega) (by omega) (by omega) (by omega)
  refine ⟨c1, c2, jnM r.2.2 M, q.2, ?_, fun k hk => jnM_hi hk, ?_, es 0 (by simp), es 12 (by simp), e4' 12 (by simp)⟩
  · rw [Clt_ok a1 a7, hv]
  have hX := X2_same (S' := q.2) hci.2.1 (fun j hj => e4' j (by omega)) (es 0 (by simp))
  have hci' : CI RG r.2.2 q.2 := hci.gram a6 g (fun j hj => e4' j (by omega)) (es 35 (by simp)) hX
  generalize hE : (S 0 19).toNat = E at *
  have hE' : (E : Int) = S 0 19 := by omega
  generalize hw : p + 20 * a + 200 * (t + 2) + 2000 * d = w
  generalize hM2 : up (up (jnM r.2.2 M) 682 E w) 684 2 (S 0 19 + 1) = M2
  have m0 : ∀ k, k < 681 → M2 k = r.2.2 k := fun k hk => by rw [← hM2, up_ne _ _ _ (by omega), up_ne _ _ _ (by omega), jnM_lo hk]
  have m684 : ∀ i, i ≠ 2 → M2 684 i = M 684 i := fun i hi => by
    rw [← hM2]
    have : up (up (jnM r.2.2 M) 682 E w) 684 2 (S 0 19 + 1) 684 i = up (jnM r.2.2 M) 682 E w 684 i := up_off hi
    rw [this, up_ne _ _ _ (by decide), jnM_hi (by decide)]
  have m682 : ∀ i, M2 682 i = if i = E then w else M 682 i := fun i => by
    rw [← hM2, up_ne _ _ _ (by decide), up_se, sr_at]
    unfold se
    rw [jnM_hi (by decide)]
  have mk : ∀ k, k = 681 ∨ k = 683 → M2 k = M k := fun k hk => by rw [← hM2, up_ne _ _ _ (by omega), up_ne _ _ _ (by omega), jnM_hi (by omega)]
  have e299 : M2 299 = M 299 := by rw [m0 299 (by decide), g.2.1]
  have e273 : M2 273 0 = M 273 0 := by
    rw [m0 273 (by decide)]
    exact len_of hci.1.1 a6 (es 33 (by simp))
  refine ⟨hci'.ext m0, ?_, by rw [m684 6 (by decide), e299]; exact h6, hBd.of (by rw [e299]) (m684 9 (by decide)) (m684 10 (by decide)) (by rw [m0 283 (by decide), g.2.2])⟩
  obtain ⟨⟨l1, l2, l3, l4, l5⟩, ⟨l6, l7⟩, l8, l9, l10⟩ := hLM
  refine ⟨⟨?_, ?_, ?_, ?_, ?_⟩, ⟨?_, ?_⟩, ?_, ?_, ?_⟩
  · rw [m684 0 (by decide), es 0 (by simp)]; exact l1
  · rw [m684 1 (by decide), es 12 (by simp)]; exact l2
  · rw [← hM2, up_at, e3]
  · rw [m684 3 (by decide), e273]; exact l4
  · rw [m684 4 (by decide), es 35 (by simp)]; exact l5
  · rw [m684 5 (by decide)]; exact l6
  · rw [m684 5 (by decide), e4' 27 (by simp)]; exact l7
  · intro x hx
    rw [es 0 (by simp)] at hx
    have hs : ∀ j, sy q.2 x j = sy S x j := fun j => by unfold sy; rw [e4' 2 (by simp), e4' 3 (by simp)]
    rw [mk 681 (by simp), e4' 1 (by simp), hs, hs, hs]
    exact l8 x hx
  · intro i hi
    rw [es 12 (by simp)] at hi
    rw [mk 683 (by simp), e4' 12 (by simp)]
    exact l9 i hi
  · intro e he
    rw [e3] at he
    rw [m682, e5, e6, e7, e8]
    by_cases c : e = E
    · rw [if_pos c, if_pos c, if_pos c, if_pos c, if_pos c, hw]
    · rw [if_neg c, if_neg c, if_neg c, if_neg c, if_neg c]
      exact l10 e (by omega)
/-- a target that does not go with the kind -/
theorem D_eqBad {RG : Mm → Nat → Int} (hRG : RGok RG) {M S : Mm} (h : CI RG M S) {p a t : Int} (hp : 0 ≤ p ∧ p < S 0 0) (ha : 0 ≤ a ∧ a < S 0 12) (ht : t < 0) (hB : ¬ eqB (S 12 a.toNat) t) : f_L_does 5 p a t 0 0 M = some (-2000000, M) := by
  obtain ⟨r, q, a1, a2, a3, a4, a5, a6, a7, a8, a9⟩ := g24_equation hRG p a t 0 h.1.1
  rw [if_neg (fun c => c ⟨hp, ha, Or.inl ht, by decide⟩), if_pos hB] at a7
  rw [does_5, Clt_fail a1 (by rw [a7]; decide) (a8 (by rw [a7]; decide)).1, a7]
  rfl
