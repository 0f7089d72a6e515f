/-! a whole finding on both sides -/
def RestC (S C : Mm) (bk : Nat) (rg bv bh : Nat → Int) (M : Mm) : Prop :=
  SC M S ∧ (∀ j, 33 ≤ j → j ≤ 272 → M j = C j) ∧ M 309 = rg ∧ M (bk + 1) = bv ∧ M (bk + 2) = bh ∧ ∀ s : Nat, s < 180 → M 313 s = 0
def RestR (S : Mm) (B : Int) (rg bv bh : Nat → Int) (M : Mm) : Prop :=
  Ag M S ∧ M 0 36 = S 0 36 ∧ M 36 = S 36 ∧ M 0 68 = B ∧ OrR S M B rg bv bh []
def FrF (bk : Nat) (M M' : Mm) : Prop := (∀ j, j ≠ bk → j ≠ bk + 1 → j ≠ bk + 2 → j ≠ 310 → j ≠ 311 → j ≠ 313 → ¬ (314 ≤ j ∧ j < 676) → M' j = M j) ∧ (∀ i, i ≠ 0 → i ≠ 9 → i ≠ 10 → i ≠ 12 → M' 310 i = M 310 i) ∧ ∀ i, i ≠ 0 → M' bk i = M bk i
theorem RpC.rest {S C : Mm} {bk : Nat} {rg : Nat → Int} {M : Mm} {c : Cfg} (h : RpC S C bk rg M c) (hc : c.1 = []) : RestC S C bk rg c.2.1 c.2.2.1 M := by
  obtain ⟨⟨h1, h2, -, -, h5, h6, h7, h8⟩, -⟩ := h
  exact ⟨h1, h2, h5, h6, h7, fun s hs => by rw [h8 s hs, hc, if_neg (by simp)]⟩
theorem RpR.rest {S : Mm} {B : Int} {rg : Nat → Int} {M : Mm} {c : Cfg} (h : RpR S B rg M c) (hc : c.1 = []) : RestR S B rg c.2.1 c.2.2.1 M := by
  obtain ⟨h1, h2, h3, h4, h5, -⟩ := h
  rw [hc] at h5
  exact ⟨h1, h2, h3, h4, h5⟩
theorem muC_le (c : Cfg) : muC c ≤ 360 + c.1.length := by
  unfold muC
  have := cntm_le (fun s => decide (c.2.2.1 s = 0 ∧ (s : Int) ∉ c.1)) 180
  omega
theorem find_both {S C : Mm} (hg : Okg S) (hO : Oke S) (hN : Okn S) (hE : CE C S) (hP : PlO S) {B : Int} (hB : B = 0 ∨ B = 360) {bk : Nat} (hb : isF bk) {rg bv bh : Nat → Int} {I : Cfg → Prop}
    (hI : ∀ s rest bv bh lf kk, OpV S (s :: rest) → BdO S rg bv bh → BdH S bh → (∀ y ∈ s :: rest, bh y.toNat = 0) → OpV S (crs S rg (s :: rest, bv, bh, lf, kk)).1 → ((spc S (Lk S rg bv bh (s :: rest)) (s / 6) (s % 6)).2 = none → ∃ (t : List Nat) (x : Nat), (spc S (Lk S rg bv bh (s :: rest)) (s / 6) (s % 6)).1 = t ++ [x] ∧ Lk S rg bv bh (s :: rest) x = none) → I (s :: rest, bv, bh, lf, kk) → I (crs S rg (s :: rest, bv, bh, lf, kk)))
    {n a : Int} (hn : 0 ≤ n ∧ n < S 0 35) (ha : 0 ≤ a ∧ a < S 0 12) (hz : bh (6 * n + a).toNat = 0) (hbd : BdO S rg bv bh) (hbh : BdH S bh) {MC MR : Mm} (hC : RestC S C bk rg bv bh MC) (hl0 : MC 310 11 ≠ 0 → MC 310 0 = 0) (hR : RestR S B rg bv bh MR) (hi : I ([6 * n + a], bv, bh, [], 0)) :
    ∃ c' MC' MR', f_X2_find n a bk MC = some (c'.2.1 (6 * n + a).toNat, MC') ∧ f_X12_finds n a MR = some (pv S (c'.2.1 (6 * n + a).toNat), MR') ∧ RpC S C bk rg MC' c' ∧ RpR S B rg MR' c' ∧ c'.1 = [] ∧ I c' ∧ FrF bk MC MC' ∧ FrR S B MR MR' ∧ c'.2.2.1 (6 * n + a).toNat ≠ 0 ∧ (S 12 a.toNat ≠ 3 → B = 0 → MC bk 0 = MR 0 67 → MC' bk 0 = MR' 0 67) ∧ (i32 (MR 0 67) → i32 (MR' 0 67) ∧ (B ≠ 0 → MR' 0 67 = MR 0 67)) := by
  have h35 := hN.1
  have h12 := hg.2.1
  have hb3 : bk = 299 ∨ bk = 304 := hb
  obtain ⟨c1, c2, c3, c4, c5, c6⟩ := hC
  obtain ⟨r1, r2, r3, r4, r5⟩ := hR
  have hs6 : 0 ≤ 6 * n + a ∧ 6 * n + a < 180 := by omega
  have hd6 : (6 * n + a) / 6 = n ∧ (6 * n + a) % 6 = a := by omega
  have hOp : OpV S [6 * n + a] := ⟨List.nodup_cons.mpr ⟨fun q => (by cases q), List.nodup_nil⟩, fun s hs => by
    have : s = 6 * n + a := List.mem_singleton.mp hs
    subst this
    exact ⟨by omega, by omega, by omega⟩⟩
  -- the class begins
  generalize hM1 : up (up MC 310 12 (bk : Int)) 310 9 0 = M1
  have m1 : ∀ j, j ≠ 310 → M1 j = MC j := fun j hj => by rw [← hM1, up_ne _ _ _ hj, up_ne _ _ _ hj]
  have m10 : ∀ i, i ≠ 9 → i ≠ 12 → M1 310 i = MC 310 i := fun i a b => by rw [← hM1]; simp [up, a, b]
  have hS1 : SC M1 S := c1.of hO fun j hj => m1 j (by omega)
  obtain ⟨M2, b1, b2, b3, b4, b5, b6, b7⟩ := c_begin hS1 hg hO hN hn ha (d := 0) (by decide) (by rw [← hM1]; simp [up])
  have hRp : RpC S C bk rg M2 ([6 * n + a], bv, bh, [], 0) := by
    refine ⟨⟨hS1.of hO fun j hj => b6 j (by omega) (by omega) (by omega) (by omega), fun j j1 j2 => by rw [b6 j (by omega) (by omega) (by omega) (by omega), m1 j (by omega)]; exact c2 j j1 j2, ?_, ?_, ?_, ?_, ?_, ?_⟩, hOp, hbd, hbh, ?_, [], ?_, ?_, ⟨⟨_, 0, [], ?_, ?_, ⟨rfl, rfl⟩, fun _ => Or.inl rfl, fun x hx => (by cases hx)⟩, trivial⟩, fun e => (by cases e)⟩
    · rw [b7 12 (by decide), ← hM1]; simp [up]
    · rw [b4]; rfl
    · rw [b6 309 (by decide) (by decide) (by decide) (by decide), m1 309 (by decide)]; exact c3
    · rw [b6 (bk + 1) (by omega) (by omega) (by omega) (by omega), m1 (bk + 1) (by omega)]; exact c4
    · rw [b6 (bk + 2) (by omega) (by omega) (by omega) (by omega), m1 (bk + 2) (by omega)]; exact c5
    · intro s hs
      rw [b5]
      by_cases c : s = (6 * n + a).toNat
      · rw [c, se_at, if_pos (List.mem_singleton.mpr (by omega))]
      · rw [se_ne _ _ c, m1 313 (by decide), c6 s hs, if_neg (fun q => c (by have := List.mem_singleton.mp q; omega))]
    · intro y hy
      have : y = 6 * n + a := List.mem_singleton.mp hy
      subst this
      exact hz
    · intro h11
      have e11 : M2 310 11 = MC 310 11 := by rw [b7 11 (by decide), m10 11 (by decide) (by decide)]
      rw [e11] at h11
      exact ⟨by rw [b7 0 (by decide), m10 0 (by decide) (by decide), hl0 h11]; rfl, fun i hi => absurd hi (Nat.not_lt_zero _)⟩
    · exact ⟨List.nodup_nil, fun x hx => (by cases hx)⟩
    · rw [hd6.1, hd6.2]; exact b2
    · rw [hd6.1, hd6.2]; exact b3
  -- the reference begins
  generalize hN1 : up (up (up MR 0 69 0) 57 0 n) 58 0 a = N1
  have n1 : ∀ j, j ≠ 0 → j ≠ 57 → j ≠ 58 → N1 j = MR j := fun j a b c => by rw [← hN1, up_ne _ _ _ c, up_ne _ _ _ b, up_ne _ _ _ a]
  have n10 : ∀ i, i ≠ 69 → N1 0 i = MR 0 i := fun i hi => by rw [← hN1, up_ne _ _ _ (by decide), up_ne _ _ _ (by decide)]; simp [up, hi]
  have n169 : N1 0 69 = 0 := by rw [← hN1, up_ne _ _ _ (by decide), up_ne _ _ _ (by decide), up_at]
  have hAt := r_at (S := S) (M := N1) hP hB (by rw [n1 36 (by decide) (by decide) (by decide)]; exact r3) (by rw [n10 68 (by decide)]; exact r4) h35.2 (n := n) (a := a) hn ⟨by omega, by omega⟩
  generalize hN2 : up (up N1 51 (ixR S B n a) 1) 0 69 1 = N2
  have hen : f_X12_enters n a (up MR 0 69 0) = some (0, N2) := by
    have q0 : up MR 0 69 0 0 69 = 0 := up_at ..
    have q1 : up (up MR 0 69 0) 57 0 n 0 69 = 0 := by rw [up_ne _ _ _ (by decide), up_at]
    unfold f_X12_enters
    simp only [LtE]
    rw [q0, gdE (by decide), show (0 : Int).toNat = 0 from rfl, q1, gdE (by decide), show (0 : Int).toNat = 0 from rfl, hN1, hAt.1, ClS, gdE hAt.2]
    have q2 : up N1 51 (B + 6 * S 36 n.toNat + a).toNat 1 0 69 = 0 := by rw [up_ne _ _ _ (by decide), n169]
    rw [q2, show wr (0 + 1) = 1 from wrE (by decide) (by decide), ← hN2]
    rfl
  have n2 : ∀ j, j ≠ 0 → j ≠ 51 → j ≠ 57 → j ≠ 58 → N2 j = MR j := fun j a b c d => by rw [← hN2, up_ne _ _ _ a, up_ne _ _ _ b, n1 j a c d]
  have n20 : ∀ i, i ≠ 69 → N2 0 i = MR 0 i := fun i hi => by
    have : N2 0 i = N1 0 i := by rw [← hN2]; simp [up, hi]
    rw [this, n10 i hi]
  have n251 : ∀ i, N2 51 i = if i = ixR S B n a then 1 else MR 51 i := fun i => by
    rw [← hN2, up_ne _ _ _ (by decide)]
    unfold up
    by_cases c : i = ixR S B n a
    · rw [if_pos ⟨rfl, c⟩, if_pos c]
    · rw [if_neg (fun q => c q.2), if_neg c, n1 51 (by decide) (by decide) (by decide)]
  have hRr : RpR S B rg N2 ([6 * n + a], bv, bh, [], 0) := by
    refine ⟨⟨fun j j1 j2 j3 => by rw [n2 j (by omega) (by omega) (by omega) (by omega)]; exact r1.1 j j1 j2 j3, fun i hi => by rw [n20 i (by omega)]; exact r1.2 i hi⟩, by rw [n20 36 (by decide)]; exact r2, by rw [n2 36 (by decide) (by decide) (by decide) (by decide)]; exact r3, by rw [n20 68 (by decide)]; exact r4, ?_, by rw [← hN2, up_at]; rfl, ?_, fun e => (by cases e)⟩
    · exact OrR.push hP hB h12.2 (hOp.2 _ (List.mem_cons_self ..)) r5 (fun j hj => n2 j (by omega) (by omega) (by omega) (by omega)) (by rw [hd6.1, hd6.2]; exact n251)
    · refine ⟨?_, trivial⟩
      rw [hd6.1, hd6.2, ← hN2, up_ne _ _ _ (by decide), up_ne _ _ _ (by decide), up_ne _ _ _ (by decide), up_ne _ _ _ (by decide), ← hN1]
      exact ⟨by rw [up_ne _ _ _ (by decide)]; exact up_at .., up_at ..⟩
  have hmu := muC_le ([6 * n + a], bv, bh, [], 0)
  simp only [List.length_singleton] at hmu
  have hFU : FU = 1000000000000000 := rfl
  obtain ⟨c', MC', MR', vR', l1, l2, l3, l4, l5, l6, l7, l8, -, l10, l11, l12⟩ := both_loops hg hO hN hE hP hB hb hI (J1 := fun M11 => Lt (M11 310 12) fun v13 => gd (¬ v13 < 0 ∧ isF v13.toNat) <| Cl (f_X3_valueOf v13.toNat (6 * n + a) M11) fun v16 M15 => some (v16, M15)) (J2 := fun M17 => some (-1, M17)) (J := fun v3 M4 => some (v3, M4)) _ ([6 * n + a], bv, bh, [], 0) M2 N2 FU FU 0 (-1) rfl hRp hRr hi (by omega) (by omega) (by decide) (by omega)
  obtain ⟨z1, z2⟩ := l10 [] (6 * n + a) rfl
  have hb12 : ((bk : Int)).toNat = bk := Int.toNat_natCast bk
  refine ⟨c', MC', MR', ?_, ?_, l3, l4, l5, l6, ?_, ?_, z2, ?_, ?_⟩
  · have hwr : wr (wr (n * 6) + a) = 6 * n + a := by rw [wrE (v := n * 6) (by omega) (by omega), wrE (by omega) (by omega)]; omega
    have e12 : up MC 310 12 (bk : Int) 310 12 = (bk : Int) := up_at ..
    have ebh : up MC 310 12 (bk : Int) (bk + 2) (6 * n + a).toNat = 0 := by rw [up_ne _ _ _ (by omega), c5]; exact hz
    have hh : f_X3_has bk (6 * n + a) (up MC 310 12 (bk : Int)) = some (0, up MC 310 12 (bk : Int)) := by
      unfold f_X3_has
      simp only [LtE]
      rw [if_neg (by omega), if_neg (by omega), gdE (by omega), ebh, if_pos rfl]
    unfold f_X2_find f_X11_slotOf
    simp only [LtE]
    rw [hwr, ClS, e12, gdE ⟨by omega, by rw [hb12]; exact hb⟩, hb12, hh, ClS, if_pos rfl, hM1, b1, ClS]
    have := l1
    simp only [LtE] at this
    rw [this]
    have f12 : MC' 310 12 = (bk : Int) := l3.1.2.2.1
    have fbv : MC' (bk + 1) = c'.2.1 := l3.1.2.2.2.2.2.1
    rw [f12, gdE ⟨by omega, by rw [hb12]; exact hb⟩, hb12]
    unfold f_X3_valueOf
    simp only [LtE]
    rw [if_neg (by omega), if_neg (by omega), gdE (by omega), fbv, ClS]
  · unfold f_X12_finds
    simp only [LtE]
    rw [hen, ClS, l2, z1]
  · obtain ⟨g1, g2, g3⟩ := l7
    refine ⟨fun j j1 j2 j3 j4 j5 j6 j7 => by rw [g1 j j1 j2 j3 j4 j5 j6 j7, b6 j (by omega) (by omega) j4 j6, m1 j j4], fun i i0 i9 i10 i12 => by rw [g2 i i0 i9 i10, b7 i i9, m10 i i9 i12], fun i i0 => by rw [g3 i i0, b6 bk (by omega) (by omega) (by omega) (by omega), m1 bk (by omega)]⟩
  · refine FrR.trans ⟨fun j j0 j1 j2 => n2 j j0 (by omega) (by omega) (by omega), fun j hj i hi => ?_, fun i _ i69 _ _ _ _ _ _ => n20 i i69⟩ l8
    by_cases c : j = 51
    · subst c
      rw [n251, if_neg (hi n a hn.1 hn.2 ha.1 ha.2 (Or.inl rfl))]
    · rw [n2 j (by omega) c (by omega) (by omega)]
  · intro k3 hB0 heq
    refine l11 (fun y hy => ?_) hB0 ?_
    · have : y = 6 * n + a := List.mem_singleton.mp hy
      subst this
      rw [hd6.2]; exact k3
    · rw [b6 bk (by omega) (by omega) (by omega) (by omega), m1 bk (by omega), n20 67 (by decide)]; exact heq
  · intro h32
    have := l12 (by rw [n20 67 (by decide)]; exact h32)
    exact ⟨this.1, fun hB0 => by rw [this.2 hB0, n20 67 (by decide)]⟩
