/-! the reference keeps the old tree by -/
def Old (R R' : Mm) : Prop := ∀ m : Nat, (m : Int) < R 0 35 → R' 37 m = R 30 m ∧ R' 38 m = R 31 m ∧ R' 40 m = R 35 m ∧ R' 41 m = R 36 m ∧ ∀ j : Nat, j < 3 → R' 39 (3 * m + j) = R 34 (3 * m + j)
def Fo (M M' : Mm) : Prop := ∀ j, ¬ (37 ≤ j ∧ j ≤ 41) → M' j = M j
theorem r_old {J : Mm → Rs} {M : Mm} (h35 : 0 ≤ M 0 35 ∧ M 0 35 ≤ 30) : ∃ M', Lp (f_X12_reads_L10_61 J) FU (0, M) = J M' ∧ Fo M M' ∧ Old M M' := by
  have key : ∀ (d k F : Nat) (N : Mm), (k : Int) + d = M 0 35 → d < F → Fo M N → (∀ m : Nat, m < k → N 37 m = M 30 m ∧ N 38 m = M 31 m ∧ N 40 m = M 35 m ∧ N 41 m = M 36 m ∧ ∀ j : Nat, j < 3 → N 39 (3 * m + j) = M 34 (3 * m + j)) → ∃ M', Lp (f_X12_reads_L10_61 J) F ((k : Int), N) = J M' ∧ Fo M M' ∧ Old M M' := by
    intro d
    induction d with
    | zero =>
      intro k F N hk hF h1 h2
      obtain ⟨G, rfl⟩ : ∃ G, F = G + 1 := ⟨F - 1, by omega⟩
      refine ⟨N, ?_, h1, fun m hm => h2 m (by omega)⟩
      rw [Lp_s]
      simp only [f_X12_reads_L10_61, LtE]
      rw [h1 0 (by decide), if_pos (by omega)]
    | succ d ih =>
      intro k F N hk hF h1 h2
      obtain ⟨G, rfl⟩ : ∃ G, F = G + 1 := ⟨F - 1, by omega⟩
      have hgk : (0 : Int) ≤ (k : Int) ∧ (k : Int) < 30 := by omega
      generalize hN1 : up (up (up (up N 37 k (N 30 k)) 38 k (N 31 k)) 40 k (N 35 k)) 41 k (N 36 k) = N1
      have n1 : ∀ j, ¬ (37 ≤ j ∧ j ≤ 41) ∨ j = 39 → N1 j = N j := fun j hj => by rw [← hN1, up_ne _ _ _ (by omega), up_ne _ _ _ (by omega), up_ne _ _ _ (by omega), up_ne _ _ _ (by omega)]
      have n1i : ∀ i, N1 37 i = (if i = k then N 30 k else N 37 i) ∧ N1 38 i = (if i = k then N 31 k else N 38 i) ∧ N1 40 i = (if i = k then N 35 k else N 40 i) ∧ N1 41 i = (if i = k then N 36 k else N 41 i) := fun i => by
        rw [← hN1]
        by_cases c : i = k
        · subst c; simp [up]
        · simp [up, c]
      generalize hN2 : (sr N1 39 fun i => if 3 * k ≤ i ∧ i < 3 * k + 3 then N1 34 i else N1 39 i) = N2
      have n2 : ∀ j, j ≠ 39 → N2 j = N1 j := fun j hj => by rw [← hN2, sr_ne _ _ hj]
      have inner : Lp (f_X12_reads_L68_60 fun v44 M45 => Lp (f_X12_reads_L10_61 J) G (wr (v44 + 1), M45)) FU ((k : Int), 0, N1) = Lp (f_X12_reads_L10_61 J) G (wr ((k : Int) + 1), N2) := by
        refine Lp_for 3 (fun i => ((k : Int), (i : Int), sr N1 39 fun j => if 3 * k ≤ j ∧ j < 3 * k + i then N1 34 j else N1 39 j)) (fun rc i hi => ?_) (fun rc => ?_) (FU_lt (by omega)) ?_
        · simp only [f_X12_reads_L68_60, LtE]
          have e : (3 * (k : Int) + (i : Int)).toNat = 3 * k + i := by omega
          rw [if_neg (by omega), wrE (v := 3 * (k : Int)) (by omega) (by omega), wrE (v := 3 * (k : Int) + (i : Int)) (by omega) (by omega), wrE (v := (i : Int) + 1) (by omega) (by omega), gdE (by omega), gdE (by omega), e, sr_ne _ _ (show (34 : Nat) ≠ 39 by decide), up_sr, sr_sr, sr_at]
          refine congrArg rc (Prod.ext rfl (Prod.ext (by simp only; omega) (congrArg (sr N1 39) (funext fun j => ?_))))
          by_cases c : j = 3 * k + i
          · rw [if_pos c, if_pos (by omega), c]
          · rw [if_neg c]
            by_cases c2 : 3 * k ≤ j ∧ j < 3 * k + i
            · rw [if_pos c2, if_pos (by omega)]
            · rw [if_neg c2, if_neg (by omega)]
        · simp only [f_X12_reads_L68_60]
          rw [if_pos (by omega), ← hN2]
        · have : (fun (j : Nat) => if 3 * k ≤ j ∧ j < 3 * k + 0 then N1 34 j else N1 39 j) = N1 39 := funext fun j => if_neg (by omega)
          simp only [this, sr_self]
          rfl
      have hrun : Lp (f_X12_reads_L10_61 J) (G + 1) ((k : Int), N) = Lp (f_X12_reads_L10_61 J) G (((k + 1 : Nat) : Int), N2) := by
        rw [Lp_s]
        simp only [f_X12_reads_L10_61, LtE]
        have z1 : up N 37 k (N 30 k) 31 k = N 31 k := by rw [up_ne _ _ _ (by decide)]
        have z2 : up (up N 37 k (N 30 k)) 38 k (N 31 k) 35 k = N 35 k := by rw [up_ne _ _ _ (by decide), up_ne _ _ _ (by decide)]
        have z3 : up (up (up N 37 k (N 30 k)) 38 k (N 31 k)) 40 k (N 35 k) 36 k = N 36 k := by rw [up_ne _ _ _ (by decide), up_ne _ _ _ (by decide), up_ne _ _ _ (by decide)]
        rw [h1 0 (by decide), if_neg (by omega)]
        simp only [gdE hgk, Int.toNat_natCast, z1, z2, z3, hN1]
        refine inner.trans ?_
        rw [wrE (by omega) (by omega)]
        rfl
      rw [hrun]
      refine ih (k + 1) G N2 (by omega) (by omega) (fun j hj => by rw [n2 j (by omega), n1 j (Or.inl hj)]; exact h1 j hj) fun m hm => ?_
      have x := n1i m
      rw [n2 37 (by decide), n2 38 (by decide), n2 40 (by decide), n2 41 (by decide), x.1, x.2.1, x.2.2.1, x.2.2.2]
      have h39 : ∀ j : Nat, j < 3 → N2 39 (3 * m + j) = if m = k then N 34 (3 * m + j) else N 39 (3 * m + j) := fun j hj => by
        rw [← hN2, sr_at, n1 34 (by simp), n1 39 (by simp)]
        by_cases c : m = k
        · rw [if_pos (by omega), if_pos c]
        · rw [if_neg (by omega), if_neg c]
      by_cases c : m = k
      · subst c
        rw [if_pos rfl, if_pos rfl, if_pos rfl, if_pos rfl, h1 30 (by decide), h1 31 (by decide), h1 35 (by decide), h1 36 (by decide)]
        exact ⟨rfl, rfl, rfl, rfl, fun j hj => by rw [h39 j hj, if_pos rfl, h1 34 (by decide)]⟩
      · rw [if_neg c, if_neg c, if_neg c, if_neg c]
        have := h2 m (by omega)
        exact ⟨this.1, this.2.1, this.2.2.1, this.2.2.2.1, fun j hj => by rw [h39 j hj, if_neg c]; exact this.2.2.2.2 j hj⟩
  exact key (M 0 35).toNat 0 FU M (by omega) (FU_lt (by omega)) (fun _ _ => rfl) fun m hm => absurd hm (Nat.not_lt_zero _)
/-! a text is read on both sides -/
def FpC (M M' : Mm) : Prop := (∀ j, j ≠ 273 → ¬ (275 ≤ j ∧ j ≤ 282) → ¬ (291 ≤ j ∧ j ≤ 297) → M' j = M j) ∧ ∀ i, i ≠ 5 → i ≠ 6 → M' 273 i = M 273 i
def FpR (M M' : Mm) : Prop := (∀ j, j ≠ 0 → ¬ (30 ≤ j ∧ j ≤ 35) → ¬ (37 ≤ j ∧ j ≤ 41) → ¬ (43 ≤ j ∧ j ≤ 49) → M' j = M j) ∧ ∀ i, i ≠ 35 → i ≠ 36 → i ≠ 44 → i ≠ 58 → i ≠ 59 → M' 0 i = M 0 i
/-- what a reading leaves ahead of the comparison -/
def Psd (R C' R' : Mm) : Prop := CN2 C' R' ∧ (0 ≤ R' 0 35 ∧ R' 0 35 ≤ 30) ∧ (∀ n : Nat, (n : Int) < R' 0 35 → NodeOk R' n ∧ R' 31 n = R' 30 n) ∧ PRo R' ∧ (R' 0 35 = 0 → R' 0 36 = -1) ∧ (R' 0 35 ≠ 0 → C' 291 1 = R' 0 36) ∧ R' 0 44 = R 0 35 ∧ Old R R' ∧ WrA R R R' (R' 0 35).toNat
theorem both_parse {C R : Mm} (hg : Okg R) (ht : Okt R) (h35 : 0 ≤ R 0 35 ∧ R 0 35 ≤ 30) (hM : CG C R) (hT : CT C R) :
    ∃ C' R', f_X9_readInto 291 C = some (0, C') ∧ f_X12_reads R = Cl (f_X12_keepsNodes R') (fun v21 M20 => some (v21, M20)) ∧ FpC C C' ∧ FpR R R' ∧ Psd R C' R' := by
  have hl := ht.1
  have h10 := hg.1
  -- the class measures
  generalize hC1 : up (up C 291 0 0) 291 1 0 = C1
  have c1 : ∀ j, j ≠ 291 → C1 j = C j := fun j hj => by rw [← hC1, up_ne _ _ _ hj, up_ne _ _ _ hj]
  obtain ⟨C2, w1, w2, w3⟩ := c9_measure hg hl (hM.of fun j j1 j2 => c1 j (by omega)) (hT.of rfl rfl fun j j1 j2 => c1 j (by omega))
  have hM2 : CG C2 R := hM.of fun j j1 j2 => by rw [w2.1 j (by omega) (by omega) (by omega), c1 j (by omega)]
  have hT2 : CT C2 R := ⟨by rw [w2.2 0 (by decide), c1 273 (by decide)]; exact hT.1, fun k hk => by rw [w2.1 274 (by decide) (by decide) (by decide), c1 274 (by decide)]; exact hT.2 k hk⟩
  have hS2 : Stl R C2 := w3
  have hSol := hS2.sol hg hl
  have e291 : C2 291 0 = 0 := by rw [w2.1 291 (by decide) (by decide) (by decide), ← hC1]; simp [up]
  have fC2 : FpC C C2 ∨ True := Or.inr trivial
  have c2 : ∀ j, j ≠ 273 → ¬ (275 ≤ j ∧ j ≤ 282) → ¬ (291 ≤ j ∧ j ≤ 297) → C2 j = C j := fun j a b c => by rw [w2.1 j a (by omega) (by omega), c1 j (by omega)]
  have c2i : ∀ i, i ≠ 5 → i ≠ 6 → C2 273 i = C 273 i := fun i a b => by rw [w2.2 i a, c1 273 (by decide)]
  -- the reference keeps the old tree by, and finds the best trees
  generalize hR1 : up R 0 44 (R 0 35) = R1
  have r1 : ∀ j, j ≠ 0 → R1 j = R j := fun j hj => by rw [← hR1, up_ne _ _ _ hj]
  have r10 : ∀ i, i ≠ 44 → R1 0 i = R 0 i := fun i hi => by rw [← hR1]; simp [up, hi]
  have hG1 : Gr R1 R := (Gr.refl R).of (fun j hj => r1 j (by omega)) (r10 0 (by decide)) (r10 33 (by decide))
  have key : ∀ R2, Fo R1 R2 → ∃ R3, f_X12_findsBest R2 = some (0, R3) ∧ Fb R2 R3 ∧ Jb R3 ∧ Sol R 10000 999990000 (vW R R3) := fun R2 h2 => r_findsBest hg hl (hG1.of (fun j hj => h2 j (by omega)) (by rw [h2 0 (by decide)]) (by rw [h2 0 (by decide)]))
  obtain ⟨R2, o1, o2, o3⟩ := r_old (M := R1) (J := fun M3 => Cl (f_X12_findsBest M3) fun _ M5 => Lt (M5 0 33) fun v6 => Cl (f_X12_stretch 0 0 v6 M5) fun v8 M7 => gd (0 ≤ v8 ∧ v8 < 676) <| Lt (M7 43 v8.toNat) fun v9 => Lt (fun (v10 : Int) (M11 : Mm) => Lt (up M11 0 35 0) fun M13 => Lt (fun (v14 : Int) (M15 : Mm) => Lt (up M15 0 36 v14) fun M17 => Lt (fun (M18 : Mm) => Cl (f_X12_keepsNodes M18) fun v21 M20 => some (v21, M20)) fun J179_19 => if v10 = 0 then (J179_19 M17) else (Cl (f_X12_makes M17) fun _ M23 => J179_19 M23)) fun J168_16 => if v10 = 0 then (J168_16 ((-1)) M13) else (gd (0 ≤ v8 ∧ v8 < 676) <| Lt (M13 43 v8.toNat) fun v25 => J168_16 v25 M13)) fun J147_12 => Lt (fun (M26 : Mm) => J147_12 0 M26) fun J146_27 => if 99999 ≤ v9 then (J146_27 M7) else (gd (0 ≤ v8 ∧ v8 < 676) <| Lt (M7 44 v8.toNat) fun v29 => if 30 < v29 then (J146_27 M7) else (J147_12 1 M7))) (by rw [r10 35 (by decide)]; exact h35)
  obtain ⟨R3, q1, q2, q3, q4⟩ := key R2 o2
  have hG3 : Gr R3 R := (hG1.of (fun j hj => o2 j (by omega)) (by rw [o2 0 (by decide)]) (by rw [o2 0 (by decide)])).fb q2
  have hv0 := both_weigh hg hl hSol q4 (c := 0) (f := 0) (t := R 0 33) (by decide) (by decide) (by decide) hl.1 (Int.le_refl _)
  have hvb := vW_bd (S := R) q3 (A := 0) (f := 0) (t := R 0 33) ⟨by decide, by decide⟩ (by decide) hl.1 hl.2
  have hjb := q3 (wix 0 0 (R 0 33)) (wix_676 ⟨by decide, by decide⟩ ⟨by decide, by decide⟩ ⟨hl.1, hl.2⟩)
  have hwp : 0 ≤ C2 275 (wix 0 0 (R 0 33)) := (hS2.1 _ (wix_lt (a := 0) (f := 0) (t := R 0 33) (by decide) (by decide) ⟨hl.1, hl.2⟩).1).1
  have hw : wOf (C2 275) 0 0 (R 0 33) = C2 275 (wix 0 0 (R 0 33)) := rfl
  -- a tree there is on both sides, or on none
  have hhas : (R3 43 (wix 0 0 (R 0 33)) < 99999 ∧ R3 44 (wix 0 0 (R 0 33)) ≤ 30 ↔ C2 275 (wix 0 0 (R 0 33)) < 500000000 ∧ C2 275 (wix 0 0 (R 0 33)) % 100000 ≤ 30) ∧ (C2 275 (wix 0 0 (R 0 33)) < 500000000 → R3 43 (wix 0 0 (R 0 33)) = C2 275 (wix 0 0 (R 0 33)) / 100000 ∧ R3 44 (wix 0 0 (R 0 33)) = C2 275 (wix 0 0 (R 0 33)) % 100000) := by
    by_cases c : C2 275 (wix 0 0 (R 0 33)) < 500000000
    · obtain ⟨cc, n, ⟨k1, k2, k3⟩, k4⟩ := hSol.nod2 hg (by decide) hl.2 (A := 0) (f := 0) (t := R 0 33) (by decide) (by decide) (by decide) hl.1 (Int.le_refl _) (by rw [hw]; exact c)
      rw [hw] at k1
      have hc : cnv (wOf (C2 275)) 0 0 (R 0 33) = 10000 * (C2 275 (wix 0 0 (R 0 33)) / 100000) + C2 275 (wix 0 0 (R 0 33)) % 100000 := by
        unfold cnv
        rw [hw, if_pos c]
      rw [hc] at hv0
      have e := hvb.1
      generalize R3 43 (wix 0 0 (R 0 33)) = x at *
      generalize R3 44 (wix 0 0 (R 0 33)) = y at *
      generalize C2 275 (wix 0 0 (R 0 33)) = w at *
      refine ⟨⟨fun q => ⟨c, by omega⟩, fun q => by omega⟩, fun _ => by omega⟩
    · have hc : cnv (wOf (C2 275)) 0 0 (R 0 33) = 999990000 := by
        unfold cnv
        rw [hw, if_neg c]
      rw [hc] at hv0
      have := hvb.2.2.2.mp hv0
      exact ⟨⟨fun q => by omega, fun q => absurd q.1 c⟩, fun q => absurd q c⟩
  -- the two roads
  have hwo : f_X9_weightOf 0 0 (R 0 33) C2 = some (C2 275 (wix 0 0 (R 0 33)), C2) := c9_weightOf ⟨by decide, by decide⟩ ⟨by decide, by decide⟩ ⟨hl.1, hl.2⟩ C2
  have hcl : ∀ x, f_X9_readInto 291 C = x ↔ (if 500000000 ≤ C2 275 (wix 0 0 (R 0 33)) then some (0, C2) else if 30 < jrem (C2 275 (wix 0 0 (R 0 33))) 100000 then some (0, C2) else Cl (f_X9_grow 291 C2) fun _ M11 => some (0, up M11 291 1 (wr (Int.tdiv (C2 275 (wix 0 0 (R 0 33))) 100000)))) = x := by
    intro x
    unfold f_X9_readInto f_X8_clear
    simp only [LtE]
    rw [hC1, ClS, w1, ClS, hT2.1, hwo, ClS]
  have hst : f_X12_stretch 0 0 (R 0 33) R3 = some (R 0 33, R3) := by
    rw [r_stretch ⟨by decide, by decide⟩ ⟨by decide, by decide⟩ ⟨hl.1, hl.2⟩]
    refine congrArg some (Prod.ext (by simp only; omega) rfl)
  have hwx : (R 0 33).toNat = wix 0 0 (R 0 33) := by unfold wix; omega
  have hgd : 0 ≤ R 0 33 ∧ R 0 33 < 676 := by omega
  have hrl : ∀ x, f_X12_reads R = x ↔ (if 99999 ≤ R3 43 (wix 0 0 (R 0 33)) ∨ 30 < R3 44 (wix 0 0 (R 0 33)) then Cl (f_X12_keepsNodes (up (up R3 0 35 0) 0 36 (-1))) (fun v21 M20 => some (v21, M20)) else Cl (f_X12_makes (up (up R3 0 35 0) 0 36 (R3 43 (wix 0 0 (R 0 33))))) fun _ M23 => Cl (f_X12_keepsNodes M23) fun v21 M20 => some (v21, M20)) = x := by
    intro x
    unfold f_X12_reads
    simp only [LtE] at o1 ⊢
    rw [hR1, o1, q1, ClS, hG3.2.2.2.2.2.2.2.2, hst, ClS, gdE hgd, gdE hgd, hwx]
    by_cases c1 : 99999 ≤ R3 43 (wix 0 0 (R 0 33))
    · rw [if_pos c1, if_pos (Or.inl c1), if_pos trivial, if_pos trivial]
    · rw [if_neg c1]
      by_cases c2 : 30 < R3 44 (wix 0 0 (R 0 33))
      · rw [if_pos c2, if_pos (Or.inr c2), gdE hgd, if_pos trivial, if_pos trivial]
      · rw [if_neg c2, if_neg (c := 99999 ≤ R3 43 (wix 0 0 (R 0 33)) ∨ _) (fun q => q.elim c1 c2), if_neg (by decide), gdE hgd, if_neg (by decide), up_ne _ _ _ (by decide), gdE hgd]
  have r3 : ∀ j, j ≠ 0 → ¬ (37 ≤ j ∧ j ≤ 41) → j ≠ 43 → j ≠ 44 → R3 j = R j := fun j a b c d => by rw [q2 j c d, o2 j b, r1 j a]
  have r30 : R3 0 = R1 0 := by rw [q2 0 (by decide) (by decide), o2 0 (by decide)]
  have hold : ∀ R' : Mm, (∀ j, 37 ≤ j → j ≤ 41 → R' j = R3 j) → Old R R' := fun R' h m hm => by
    have e37 : ∀ j, 37 ≤ j → j ≤ 41 → R' j = R2 j := fun j a b => by rw [h j a b, q2 j (by omega) (by omega)]
    have := o3 m (by rw [r10 35 (by decide)]; exact hm)
    rw [e37 37 (by decide) (by decide), e37 38 (by decide) (by decide), e37 40 (by decide) (by decide), e37 41 (by decide) (by decide), e37 39 (by decide) (by decide)]
    rw [r1 30 (by decide), r1 31 (by decide), r1 35 (by decide), r1 36 (by decide), r1 34 (by decide)] at this
    exact this
  by_cases hc : C2 275 (wix 0 0 (R 0 33)) < 500000000 ∧ C2 275 (wix 0 0 (R 0 33)) % 100000 ≤ 30
  case neg =>
    generalize hR' : up (up R3 0 35 0) 0 36 (-1) = R'
    have e : ∀ j, j ≠ 0 → R' j = R3 j := fun j hj => by rw [← hR', up_ne _ _ _ hj, up_ne _ _ _ hj]
    have e0 : ∀ i, i ≠ 35 → i ≠ 36 → R' 0 i = R1 0 i := fun i a b => by rw [← hR', ← r30]; simp [up, a, b]
    have e35 : R' 0 35 = 0 := by rw [← hR']; simp [up]
    have e36 : R' 0 36 = -1 := by rw [← hR']; simp [up]
    refine ⟨C2, R', ?_, ?_, ⟨c2, c2i⟩, ⟨fun j a b c d => by rw [e j a, r3 j a c (by omega) (by omega)], fun i a b c d f => by rw [e0 i a b, r10 i c]⟩, ⟨by rw [e291, e35], fun n hn => absurd hn (by omega)⟩, by rw [e35]; exact ⟨by decide, by decide⟩, fun n hn => absurd hn (by omega), fun n q c hn => absurd hn (by omega), fun _ => e36, fun q => absurd e35 q, ?_, hold R' fun j a b => e j (by omega), ?_⟩
    · rw [hcl]
      by_cases c5 : 500000000 ≤ C2 275 (wix 0 0 (R 0 33))
      · rw [if_pos c5]
      · rw [if_neg c5]
        have hjr : jrem (C2 275 (wix 0 0 (R 0 33))) 100000 = C2 275 (wix 0 0 (R 0 33)) % 100000 := by
          have e : Int.tdiv (C2 275 (wix 0 0 (R 0 33))) 100000 = C2 275 (wix 0 0 (R 0 33)) / 100000 := Int.tdiv_eq_ediv_of_nonneg hwp
          unfold jrem
          rw [e, wrE (v := C2 275 (wix 0 0 (R 0 33)) / 100000) (by omega) (by omega), wrE (v := C2 275 (wix 0 0 (R 0 33)) / 100000 * 100000) (by omega) (by omega), wrE (by omega) (by omega)]
          omega
        rw [hjr, if_pos (by omega)]
    · rw [hrl, if_pos (by
        have := hhas.1
        by_cases q : 99999 ≤ R3 43 (wix 0 0 (R 0 33))
        · exact Or.inl q
        · refine Or.inr ?_
          by_cases q2 : R3 44 (wix 0 0 (R 0 33)) ≤ 30
          · exact absurd (this.mp ⟨by omega, q2⟩) hc
          · omega), hR']
    · rw [e0 44 (by decide) (by decide), ← hR1, up_at]
    · rw [e35]
      exact ⟨fun j hj m _ => by rw [e j (by omega), r3 j (by omega) (by omega) (by omega) (by omega)], fun i => Or.inl (by rw [e 34 (by decide), r3 34 (by decide) (by decide) (by decide) (by decide)])⟩
  case pos =>
    have hcost := hhas.2 hc.1
    have hb := hhas.1.mpr hc
    generalize hR4 : up (up R3 0 35 0) 0 36 (R3 43 (wix 0 0 (R 0 33))) = R4
    have e : ∀ j, j ≠ 0 → R4 j = R3 j := fun j hj => by rw [← hR4, up_ne _ _ _ hj, up_ne _ _ _ hj]
    have e0 : ∀ i, i ≠ 35 → i ≠ 36 → R4 0 i = R1 0 i := fun i a b => by rw [← hR4, ← r30]; simp [up, a, b]
    have e36 : R4 0 36 = R3 43 (wix 0 0 (R 0 33)) := by rw [← hR4]; simp [up]
    have hG4 : Gr R4 R := hG3.of (fun j hj => e j (by omega)) (by rw [e0 0 (by decide) (by decide), r30]) (by rw [e0 33 (by decide) (by decide), r30])
    have e43 : R4 43 = R3 43 := e 43 (by decide)
    have e44 : R4 44 = R3 44 := e 44 (by decide)
    have hb4 : Jb R4 := by unfold Jb at q3 ⊢; rw [e43, e44]; exact q3
    have ev : vW R R4 = vW R R3 := by
      funext c e d
      unfold vW rC rN
      rw [e43, e44]
    obtain ⟨C3, R5, g1, g2, g3, g4, g5, g6, g7, g7', g8⟩ := both_build hg hl hM2 hT2 hS2 hG4 hb4 (by rw [ev]; exact q4) e291 hc.1 hc.2
    have hjr : jrem (C2 275 (wix 0 0 (R 0 33))) 100000 = C2 275 (wix 0 0 (R 0 33)) % 100000 ∧ wr (Int.tdiv (C2 275 (wix 0 0 (R 0 33))) 100000) = C2 275 (wix 0 0 (R 0 33)) / 100000 := by
      have e : Int.tdiv (C2 275 (wix 0 0 (R 0 33))) 100000 = C2 275 (wix 0 0 (R 0 33)) / 100000 := Int.tdiv_eq_ediv_of_nonneg hwp
      unfold jrem
      rw [e, wrE (v := C2 275 (wix 0 0 (R 0 33)) / 100000) (by omega) (by omega), wrE (v := C2 275 (wix 0 0 (R 0 33)) / 100000 * 100000) (by omega) (by omega), wrE (by omega) (by omega)]
      omega
    generalize hC4 : up C3 291 1 (C2 275 (wix 0 0 (R 0 33)) / 100000) = C4
    have c4 : ∀ j, j ≠ 291 → C4 j = C3 j := fun j hj => by rw [← hC4, up_ne _ _ _ hj]
    have c41 : C4 291 0 = C3 291 0 ∧ C4 291 1 = C2 275 (wix 0 0 (R 0 33)) / 100000 := by rw [← hC4]; simp [up]
    have e536 : R5 0 36 = R3 43 (wix 0 0 (R 0 33)) := by rw [g4.2 36 (by decide) (by decide) (by decide), e36]
    refine ⟨C4, R5, ?_, ?_, ⟨fun j a b c => ?_, fun i a b => ?_⟩, ⟨fun j a b c d => ?_, fun i a b c d f => ?_⟩, ⟨by rw [c41.1]; exact g5.1, fun n hn => ?_⟩, ⟨by omega, g6.2⟩, g7, g7', fun q => absurd q (by omega), fun _ => by rw [c41.2, e536, hcost.1], ?_, hold R5 fun j a b => ?_, ⟨fun j hj m hm => ?_, fun i => ?_⟩⟩
    · rw [hcl, if_neg (by omega), hjr.1, hjr.2, if_neg (by omega), g1, ClS, hC4]
    · rw [hrl, if_neg (by omega), hR4, g2, ClS]
    · rw [c4 j (by omega), g3.1 j a (by omega) c, c2 j a b c]
    · rw [c4 273 (by decide), g3.2.1 i a b, c2i i a b]
    · rw [g4.1 j a b (by omega), e j a, r3 j a c (by omega) (by omega)]
    · rw [g4.2 i a d f, e0 i a b, r10 i c]
    · have := g5.2 n hn
      rw [c4 292 (by decide), c4 293 (by decide), c4 294 (by decide), c4 295 (by decide), c4 296 (by decide), c4 297 (by decide)]
      exact this
    · rw [g4.2 44 (by decide) (by decide) (by decide), e0 44 (by decide) (by decide), ← hR1, up_at]
    · rw [g4.1 j (by omega) (by omega) (by omega), e j (by omega)]
    · rw [g8.1 j hj m hm, sr_ne _ _ (by omega), e j (by omega), r3 j (by omega) (by omega) (by omega) (by omega)]
    · rcases g8.2 i with z | z
      · left
        rw [z, sr_ne _ _ (by decide), e 34 (by decide), r3 34 (by decide) (by decide) (by decide) (by decide)]
      · exact Or.inr z
