/-! letters in and out of the text -/
def insr (f : Nat → Int) (a L : Nat) (v : Int) : Nat → Int := fun j => if j = a then v else if a < j ∧ j ≤ L then f (j - 1) else f j
def delr (f : Nat → Int) (a L : Nat) : Nat → Int := fun j => if a ≤ j ∧ j + 1 < L then f (j + 1) else f j
theorem c_putLetter {C : Mm} {a L : Nat} (h : C 273 0 = (L : Int)) (ha : a ≤ L) (hL : L < 12) (v : Int) : f_X9_putLetter (a : Int) v C = some (0, up (sr C 274 (insr (C 274) a L v)) 273 0 ((L : Int) + 1)) := by
  unfold f_X9_putLetter
  simp only [LtE]
  rw [h]
  refine Lp_for (L - a) (fun i => ((L : Int) - (i : Int), sr C 274 fun j => if L - i < j ∧ j ≤ L then C 274 (j - 1) else C 274 j)) (fun rc i hi => ?_) (fun rc => ?_) (FU_lt (by omega)) ?_
  · simp only [f_X9_putLetter_L5_17, LtE]
    have e1 : ((L : Int) - (i : Int) - 1).toNat = L - i - 1 := by omega
    have e2 : ((L : Int) - (i : Int)).toNat = L - i := by omega
    rw [if_neg (by omega), wrE (v := (L : Int) - (i : Int) - 1) (by omega) (by omega), c_entryOf_in 12 alenC_274 (by omega) (by omega), ClS, c_setEntry_in 12 alenC_274 (by omega) (by omega), ClS, wrE (by omega) (by omega), e1, e2, up_sr, sr_sr, sr_at, if_neg (by omega)]
    refine congrArg rc (Prod.ext (by simp only; omega) (congrArg (sr C 274) (funext fun j => ?_)))
    by_cases c : j = L - i
    · rw [if_pos c, if_pos (by omega), c]
    · rw [if_neg c]
      by_cases c2 : L - i < j ∧ j ≤ L
      · rw [if_pos c2, if_pos (by omega)]
      · rw [if_neg c2, if_neg (by omega)]
  · simp only [f_X9_putLetter_L5_17]
    rw [if_pos (by omega), c_setEntry_in 12 alenC_274 (by omega) (by omega), ClS, Int.toNat_natCast, up_sr _ 274, sr_sr, sr_at, sr_ne _ _ (show (273 : Nat) ≠ 274 by decide), h, wrE (by omega) (by omega)]
    refine congrArg some (Prod.ext rfl ?_)
    simp only
    refine congrArg (fun z => up (sr C 274 z) 273 0 ((L : Int) + 1)) (funext fun j => ?_)
    unfold insr
    by_cases c : j = a
    · rw [if_pos c, if_pos c]
    · rw [if_neg c, if_neg c]
      by_cases c2 : a < j ∧ j ≤ L
      · rw [if_pos c2, if_pos (by omega)]
      · rw [if_neg c2, if_neg (by omega)]
  · have : (fun (j : Nat) => if L - 0 < j ∧ j ≤ L then C 274 (j - 1) else C 274 j) = C 274 := funext fun j => if_neg (by omega)
    simp only [this, sr_self]
    simp
theorem r_putLetter {R : Mm} {a L : Nat} (ha : a ≤ L) (hL : L < 12) {J : Mm → Rs} : Lp (f_X12_insert_L69_27 (a : Int) J) FU ((L : Int), R) = J (sr R 29 fun j => if a < j ∧ j ≤ L then R 29 (j - 1) else R 29 j) := by
  refine Lp_for (L - a) (fun i => ((L : Int) - (i : Int), sr R 29 fun j => if L - i < j ∧ j ≤ L then R 29 (j - 1) else R 29 j)) (fun rc i hi => ?_) (fun rc => ?_) (FU_lt (by omega)) ?_
  · simp only [f_X12_insert_L69_27, LtE]
    have e1 : ((L : Int) - (i : Int) - 1).toNat = L - i - 1 := by omega
    have e2 : ((L : Int) - (i : Int)).toNat = L - i := by omega
    rw [if_neg (by omega), wrE (v := (L : Int) - (i : Int) - 1) (by omega) (by omega), gdE (by omega), gdE (by omega), wrE (by omega) (by omega), e1, e2, up_sr, sr_sr, sr_at, if_neg (by omega)]
    refine congrArg rc (Prod.ext (by simp only; omega) (congrArg (sr R 29) (funext fun j => ?_)))
    by_cases c : j = L - i
    · rw [if_pos c, if_pos (by omega), c]
    · rw [if_neg c]
      by_cases c2 : L - i < j ∧ j ≤ L
      · rw [if_pos c2, if_pos (by omega)]
      · rw [if_neg c2, if_neg (by omega)]
  · simp only [f_X12_insert_L69_27]
    rw [if_pos (by omega)]
    refine congrArg J (congrArg (sr R 29) (funext fun j => ?_))
    by_cases c2 : a < j ∧ j ≤ L
    · rw [if_pos c2, if_pos (by omega)]
    · rw [if_neg c2, if_neg (by omega)]
  · have : (fun (j : Nat) => if L - 0 < j ∧ j ≤ L then R 29 (j - 1) else R 29 j) = R 29 := funext fun j => if_neg (by omega)
    simp only [this, sr_self]
    simp
theorem c_takeLetter {C : Mm} {a L : Nat} (h : C 273 0 = (L : Int)) (ha : a < L) (hL : L ≤ 12) : f_X9_takeLetter (a : Int) C = some (0, up (sr C 274 (delr (C 274) a L)) 273 0 ((L : Int) - 1)) := by
  unfold f_X9_takeLetter
  simp only [LtE]
  refine Lp_for (L - a - 1) (fun i => ((a : Int) + (i : Int), sr C 274 fun j => if a ≤ j ∧ j < a + i then C 274 (j + 1) else C 274 j)) (fun rc i hi => ?_) (fun rc => ?_) (FU_lt (by omega)) ?_
  · simp only [f_X9_takeLetter_L2_17, LtE]
    have e1 : ((a : Int) + (i : Int) + 1).toNat = a + i + 1 := by omega
    have e2 : ((a : Int) + (i : Int)).toNat = a + i := by omega
    rw [sr_ne _ _ (show (273 : Nat) ≠ 274 by decide), h, wrE (v := (a : Int) + (i : Int) + 1) (by omega) (by omega), if_neg (by omega), c_entryOf_in 12 alenC_274 (by omega) (by omega), ClS, c_setEntry_in 12 alenC_274 (by omega) (by omega), ClS, e1, e2, up_sr, sr_sr, sr_at, if_neg (by omega)]
    refine congrArg rc (Prod.ext (by simp only; omega) (congrArg (sr C 274) (funext fun j => ?_)))
    by_cases c : j = a + i
    · rw [if_pos c, if_pos (by omega), c]
    · rw [if_neg c]
      by_cases c2 : a ≤ j ∧ j < a + i
      · rw [if_pos c2, if_pos (by omega)]
      · rw [if_neg c2, if_neg (by omega)]
  · simp only [f_X9_takeLetter_L2_17, LtE]
    rw [sr_ne _ _ (show (273 : Nat) ≠ 274 by decide), h, wrE (v := (a : Int) + ((L - a - 1 : Nat) : Int) + 1) (by omega) (by omega), if_pos (by omega), wrE (by omega) (by omega)]
    refine congrArg some (Prod.ext rfl ?_)
    simp only
    refine congrArg (fun z => up (sr C 274 z) 273 0 ((L : Int) - 1)) (funext fun j => ?_)
    unfold delr
    by_cases c2 : a ≤ j ∧ j + 1 < L
    · rw [if_pos c2, if_pos (by omega)]
    · rw [if_neg c2, if_neg (by omega)]
  · have : (fun (j : Nat) => if a ≤ j ∧ j < a + 0 then C 274 (j + 1) else C 274 j) = C 274 := funext fun j => if_neg (by omega)
    simp only [this, sr_self]
    simp
theorem r_takeLetter {R : Mm} {a L : Nat} (h : R 0 33 = (L : Int) - 1) (ha : a < L) (hL : L ≤ 12) {J : Mm → Rs} : Lp (f_X12_delete_L53_27 J) FU ((a : Int), R) = J (sr R 29 (delr (R 29) a L)) := by
  refine Lp_for (L - a - 1) (fun i => ((a : Int) + (i : Int), sr R 29 fun j => if a ≤ j ∧ j < a + i then R 29 (j + 1) else R 29 j)) (fun rc i hi => ?_) (fun rc => ?_) (FU_lt (by omega)) ?_
  · simp only [f_X12_delete_L53_27, LtE]
    have e1 : ((a : Int) + (i : Int) + 1).toNat = a + i + 1 := by omega
    have e2 : ((a : Int) + (i : Int)).toNat = a + i := by omega
    rw [sr_ne _ _ (show (0 : Nat) ≠ 29 by decide), h, if_neg (by omega), wrE (v := (a : Int) + (i : Int) + 1) (by omega) (by omega), gdE (by omega), gdE (by omega), e1, e2, up_sr, sr_sr, sr_at, if_neg (by omega)]
    refine congrArg rc (Prod.ext (by simp only; omega) (congrArg (sr R 29) (funext fun j => ?_)))
    by_cases c : j = a + i
    · rw [if_pos c, if_pos (by omega), c]
    · rw [if_neg c]
      by_cases c2 : a ≤ j ∧ j < a + i
      · rw [if_pos c2, if_pos (by omega)]
      · rw [if_neg c2, if_neg (by omega)]
  · simp only [f_X12_delete_L53_27, LtE]
    rw [sr_ne _ _ (show (0 : Nat) ≠ 29 by decide), h, if_pos (by omega)]
    refine congrArg J (congrArg (sr R 29) (funext fun j => ?_))
    unfold delr
    by_cases c2 : a ≤ j ∧ j + 1 < L
    · rw [if_pos c2, if_pos (by omega)]
    · rw [if_neg c2, if_neg (by omega)]
  · have : (fun (j : Nat) => if a ≤ j ∧ j < a + 0 then R 29 (j + 1) else R 29 j) = R 29 := funext fun j => if_neg (by omega)
    simp only [this, sr_self]
    simp
/-- the text changes alike -/
theorem txt_ins {C R : Mm} {a L : Nat} {v : Int} (ht : Okt R) (hT : CT C R) (hL : R 0 33 = (L : Int)) (ha : a ≤ L) (hv : 97 ≤ v ∧ v ≤ 102) (h12 : L < 12) {C' R' : Mm} (c0 : C' 273 0 = (L : Int) + 1) (c1 : C' 274 = insr (C 274) a L (v - 97)) (r0 : R' 0 33 = (L : Int) + 1) (r1 : R' 29 = insr (R 29) a L v) : Okt R' ∧ CT C' R' := by
  have key : ∀ k : Nat, k < L + 1 → (97 ≤ R' 29 k ∧ R' 29 k ≤ 102) ∧ C' 274 k = R' 29 k - 97 := fun k hk => by
    rw [c1, r1]
    unfold insr
    by_cases c : k = a
    · rw [if_pos c, if_pos c]; exact ⟨hv, rfl⟩
    · rw [if_neg c, if_neg c]
      by_cases c2 : a < k ∧ k ≤ L
      · rw [if_pos c2, if_pos c2]
        exact ⟨ht.2 (k - 1) (by omega), hT.2 (k - 1) (by omega)⟩
      · rw [if_neg c2, if_neg c2]
        exact ⟨ht.2 k (by omega), hT.2 k (by omega)⟩
  exact ⟨⟨by omega, fun k hk => (key k (by omega)).1⟩, by rw [c0, r0], fun k hk => (key k (by omega)).2⟩
theorem txt_del {C R : Mm} {a L : Nat} (ht : Okt R) (hT : CT C R) (hL : R 0 33 = (L : Int)) (ha : a < L) {C' R' : Mm} (c0 : C' 273 0 = (L : Int) - 1) (c1 : C' 274 = delr (C 274) a L) (r0 : R' 0 33 = (L : Int) - 1) (r1 : R' 29 = delr (R 29) a L) : Okt R' ∧ CT C' R' := by
  have key : ∀ k : Nat, k + 1 < L → (97 ≤ R' 29 k ∧ R' 29 k ≤ 102) ∧ C' 274 k = R' 29 k - 97 := fun k hk => by
    rw [c1, r1]
    unfold delr
    by_cases c2 : a ≤ k ∧ k + 1 < L
    · rw [if_pos c2, if_pos c2]
      exact ⟨ht.2 (k + 1) (by omega), hT.2 (k + 1) (by omega)⟩
    · rw [if_neg c2, if_neg c2]
      exact ⟨ht.2 k (by omega), hT.2 k (by omega)⟩
  have h1 := ht.1
  exact ⟨⟨by omega, fun k hk => (key k (by omega)).1⟩, by rw [c0, r0], fun k hk => (key k (by omega)).2⟩
theorem s_read {RG : Mm → Nat → Int} (hRG : RGok RG) : S_read (Inv RG) := by
  intro MC MR k hI hk
  obtain ⟨hp, -, -, -⟩ := id hI
  have hCG := hp.2.1.1
  have e10 : MC 1 0 = MR 0 0 := hCG.1
  by_cases h0 : MR 0 0 = 0
  · refine ⟨(3, 0, MC), (0, up MR 0 87 1), ?_, ?_, by simp, by simp [up], by simp, hI.thr hRG _ _⟩
    · unfold f_X11_read
      simp only [LtE]
      rw [e10, if_neg (fun q => q h0)]
    · unfold f_X12_read
      simp only [LtE]
      rw [if_neg (fun q => q h0), r_fails, ClS, if_neg (by decide)]
  · obtain ⟨v, C', R', a1, a2, a3, a4⟩ := both_readAgain hRG (hI.thr hRG k 0) (k + 1)
    refine ⟨(0, v, C'), (v, R'), ?_, ?_, by simp, ?_, by simp, a3⟩
    · unfold f_X11_read
      simp only [LtE]
      rw [e10, if_pos h0, a1, ClS]
    · unfold f_X12_read
      simp only [LtE]
      rw [if_pos h0, r_fails, ClS, if_pos (by decide), a2, ClS]
    · simp only
      rw [a4, up_at]; rfl
theorem s_insert {RG : Mm → Nat → Int} (hRG : RGok RG) : S_insert (Inv RG) := by
  intro MC MR k a v i1 i2 hI hk
  obtain ⟨hp, -, -, -⟩ := id hI
  have e10 : MC 1 0 = MR 0 0 := hp.2.1.1.1
  have hT : CT MC MR := hp.2.1.2.2.2.1
  have ht : Okt MR := hp.1.2.2.2.1
  have hL := ht.1
  by_cases h1 : 0 ≤ a ∧ a ≤ MR 0 33
  case neg =>
    refine ⟨(1, 0, MC), (0, up MR 0 87 1), ?_, ?_, by simp, by simp [up], by simp, hI.thr hRG _ _⟩
    · unfold f_X11_insert
      simp only [LtE]
      rw [hT.1]
      by_cases q : a < 0
      · rw [if_pos q]
      · rw [if_neg q, if_neg (by omega)]
    · unfold f_X12_insert
      simp only [LtE]
      rw [r_isIn, ClS, if_neg h1, if_neg (by decide), r_fails, ClS, if_neg (by decide)]
  by_cases h2 : 97 ≤ v ∧ v ≤ 102
  case neg =>
    refine ⟨(2, 0, MC), (0, up MR 0 87 2), ?_, ?_, by simp, by simp [up], by simp, hI.thr hRG _ _⟩
    · unfold f_X11_insert
      simp only [LtE]
      rw [hT.1, if_neg (by omega), if_pos h1.2]
      by_cases q : v < 97
      · rw [if_pos q]
      · rw [if_neg q, if_neg (by omega)]
    · unfold f_X12_insert
      simp only [LtE]
      rw [r_isIn, ClS, if_pos h1, if_pos (by decide), r_isIn, ClS, if_neg h2, if_neg (by decide), r_fails, ClS, if_neg (by decide)]
  by_cases h3 : MR 0 33 = 12 ∨ MR 0 0 = 0
  · refine ⟨(3, 0, MC), (0, up MR 0 87 3), ?_, ?_, by simp, by simp [up], by simp, hI.thr hRG _ _⟩
    · unfold f_X11_insert
      simp only [LtE]
      rw [hT.1, if_neg (by omega), if_pos h1.2, if_neg (by omega), if_pos (by omega), e10]
      by_cases q : MR 0 33 = 12
      · rw [if_pos (by omega)]
      · rw [if_neg (by omega), if_neg (fun z => z (h3.resolve_left q))]
    · unfold f_X12_insert
      simp only [LtE]
      rw [r_isIn, ClS, if_pos h1, if_pos (by decide), r_isIn, ClS, if_pos h2, if_pos (by decide)]
      by_cases q : MR 0 33 = 12
      · rw [if_pos q, r_fails, ClS, if_neg (by decide)]
      · rw [if_neg q, if_neg (fun z => z (h3.resolve_left q)), r_fails, ClS, if_neg (by decide)]
  · obtain ⟨L, hLL⟩ : ∃ L : Nat, MR 0 33 = (L : Int) := ⟨(MR 0 33).toNat, by omega⟩
    obtain ⟨n, rfl⟩ : ∃ n : Nat, a = (n : Int) := ⟨a.toNat, by omega⟩
    have hC0 : MC 273 0 = (L : Int) := by rw [hT.1]; exact hLL
    have hput := c_putLetter (C := MC) hC0 (a := n) (by omega) (by omega) (v - 97)
    generalize hC' : up (sr MC 274 (insr (MC 274) n L (v - 97))) 273 0 ((L : Int) + 1) = C1 at hput
    have hr := r_putLetter (R := up MR 0 87 0) (a := n) (L := L) (by omega) (by omega) (J := fun M11 => gd (0 ≤ (n : Int) ∧ (n : Int) < 12) (Cl (f_X12_reads (up (up M11 29 (n : Int).toNat v) 0 33 (wr (up M11 29 (n : Int).toNat v 0 33 + 1)))) fun v18 M17 => some (v18, M17)))
    have e29 : up MR 0 87 0 29 = MR 29 := up_ne _ _ _ (by decide)
    have e033 : up MR 0 87 0 0 33 = (L : Int) := by rw [← hLL]; simp [up]
    generalize hF : (sr (up MR 0 87 0) 29 fun j => if n < j ∧ j ≤ L then up MR 0 87 0 29 (j - 1) else up MR 0 87 0 29 j) = R0 at hr
    have r0 : ∀ j, j ≠ 29 → R0 j = up MR 0 87 0 j := fun j hj => by rw [← hF, sr_ne _ _ hj]
    have r029 : ∀ j, R0 29 j = if n < j ∧ j ≤ L then MR 29 (j - 1) else MR 29 j := fun j => by rw [← hF, sr_at, e29]
    have e1 : up R0 29 n v 0 33 = (L : Int) := by rw [up_ne _ _ _ (by decide), r0 0 (by decide)]; exact e033
    generalize hR' : up (up R0 29 n v) 0 33 ((L : Int) + 1) = R1
    have r1 : ∀ j, j ≠ 0 → j ≠ 29 → R1 j = MR j := fun j a b => by rw [← hR', up_ne _ _ _ a, up_ne _ _ _ b, r0 j b, up_ne _ _ _ a]
    have r10 : ∀ i, i ≠ 33 → i ≠ 87 → R1 0 i = MR 0 i := fun i a b => by
      rw [← hR']
      have : up (up R0 29 n v) 0 33 ((L : Int) + 1) 0 i = up R0 29 n v 0 i := up_off a
      rw [this, up_ne _ _ _ (by decide), r0 0 (by decide)]
      exact up_off b
    have r187 : R1 0 87 = 0 := by
      rw [← hR']
      have : up (up R0 29 n v) 0 33 ((L : Int) + 1) 0 87 = up R0 29 n v 0 87 := up_off (by decide)
      rw [this, up_ne _ _ _ (by decide), r0 0 (by decide), up_at]
    have r133 : R1 0 33 = (L : Int) + 1 := by rw [← hR', up_at]
    have r129 : R1 29 = insr (MR 29) n L v := by
      rw [← hR', up_ne _ _ _ (by decide)]
      funext j
      unfold insr
      by_cases c : j = n
      · subst c; rw [up_at, if_pos rfl]
      · rw [up_off c, if_neg c]; exact r029 j
    have c1 : ∀ j, j ≠ 273 → j ≠ 274 → C1 j = MC j := fun j a b => by rw [← hC', up_ne _ _ _ a, sr_ne _ _ b]
    have c10 : C1 273 0 = (L : Int) + 1 := by rw [← hC', up_at]
    have c174 : C1 274 = insr (MC 274) n L (v - 97) := by rw [← hC', up_ne _ _ _ (by decide), sr_at]
    obtain ⟨t1, t2⟩ := txt_ins ht hT hLL (a := n) (by omega) h2 (by omega) c10 c174 r133 r129
    have hI1 : Inv RG C1 R1 k := inv_text hRG hI r1 r10 c1 t1 t2
    obtain ⟨w, C', R', a1, a2, a3, a4⟩ := both_readAgain hRG hI1 (k + 1)
    refine ⟨(0, w, C'), (w, R'), ?_, ?_, by simp, ?_, by simp, a3⟩
    · unfold f_X11_insert
      simp only [LtE]
      rw [hT.1, if_neg (by omega), if_pos h1.2, if_neg (by omega), if_pos (by omega), if_neg (by omega), e10, if_pos (fun q => h3 (Or.inr q)), wrE (by omega) (by omega), hput, ClS, a1, ClS]
    · unfold f_X12_insert
      simp only [LtE]
      rw [r_isIn, ClS, if_pos h1, if_pos (by decide), r_isIn, ClS, if_pos h2, if_pos (by decide), if_neg (fun q => h3 (Or.inl q)), if_pos (fun q => h3 (Or.inr q)), r_fails, ClS, if_pos (by decide), e033]
      refine hr.trans ?_
      rw [gdE (by omega), Int.toNat_natCast, e1, wrE (by omega) (by omega), hR', a2, ClS]
    · simp only
      rw [a4, r187]; rfl
theorem s_delete {RG : Mm → Nat → Int} (hRG : RGok RG) : S_delete (Inv RG) := by
  intro MC MR k a i1 hI hk
  obtain ⟨hp, -, -, -⟩ := id hI
  have e10 : MC 1 0 = MR 0 0 := hp.2.1.1.1
  have hT : CT MC MR := hp.2.1.2.2.2.1
  have ht : Okt MR := hp.1.2.2.2.1
  have hL := ht.1
  have ew : wr (MR 0 33 - 1) = MR 0 33 - 1 := wrE (by omega) (by omega)
  by_cases h1 : 0 ≤ a ∧ a < MR 0 33
  case neg =>
    refine ⟨(1, 0, MC), (0, up MR 0 87 1), ?_, ?_, by simp, by simp [up], by simp, hI.thr hRG _ _⟩
    · unfold f_X11_delete
      simp only [LtE]
      rw [hT.1]
      by_cases q : a < 0
      · rw [if_pos q]
      · rw [if_neg q, if_neg (by omega)]
    · unfold f_X12_delete
      simp only [LtE]
      rw [ew, r_isIn, ClS, if_neg (c := 0 ≤ a ∧ a ≤ MR 0 33 - 1) (by omega), if_neg (by decide), r_fails, ClS, if_neg (by decide)]
  by_cases h3 : MR 0 0 = 0
  · refine ⟨(3, 0, MC), (0, up MR 0 87 2), ?_, ?_, by simp, by simp [up], by simp, hI.thr hRG _ _⟩
    · unfold f_X11_delete
      simp only [LtE]
      rw [hT.1, if_neg (by omega), if_pos h1.2, e10, if_neg (fun z => z h3)]
    · unfold f_X12_delete
      simp only [LtE]
      rw [ew, r_isIn, ClS, if_pos (c := 0 ≤ a ∧ a ≤ MR 0 33 - 1) (by omega), if_pos (by decide), if_neg (fun z => z h3), r_fails, ClS, if_neg (by decide)]
  · obtain ⟨L, hLL⟩ : ∃ L : Nat, MR 0 33 = (L : Int) := ⟨(MR 0 33).toNat, by omega⟩
    obtain ⟨n, rfl⟩ : ∃ n : Nat, a = (n : Int) := ⟨a.toNat, by omega⟩
    have hC0 : MC 273 0 = (L : Int) := by rw [hT.1]; exact hLL
    have htake := c_takeLetter (C := MC) hC0 (a := n) (by omega) (by omega)
    generalize hC' : up (sr MC 274 (delr (MC 274) n L)) 273 0 ((L : Int) - 1) = C1 at htake
    have e033 : up MR 0 87 0 0 33 = (L : Int) := by rw [← hLL]; simp [up]
    generalize hR0 : up (up MR 0 87 0) 0 33 ((L : Int) - 1) = R0
    have r0 : ∀ j, j ≠ 0 → R0 j = MR j := fun j hj => by rw [← hR0, up_ne _ _ _ hj, up_ne _ _ _ hj]
    have r033 : R0 0 33 = (L : Int) - 1 := by rw [← hR0, up_at]
    have hr := r_takeLetter (R := R0) r033 (a := n) (by omega) (by omega) (J := fun M14 => Cl (f_X12_reads M14) fun v17 M16 => some (v17, M16))
    generalize hR' : sr R0 29 (delr (R0 29) n L) = R1 at hr
    have r1 : ∀ j, j ≠ 0 → j ≠ 29 → R1 j = MR j := fun j a b => by rw [← hR', sr_ne _ _ b, r0 j a]
    have r10 : ∀ i, i ≠ 33 → i ≠ 87 → R1 0 i = MR 0 i := fun i a b => by
      rw [← hR', sr_ne _ _ (by decide), ← hR0]
      have : up (up MR 0 87 0) 0 33 ((L : Int) - 1) 0 i = up MR 0 87 0 0 i := up_off a
      rw [this]
      exact up_off b
    have r187 : R1 0 87 = 0 := by
      rw [← hR', sr_ne _ _ (by decide), ← hR0]
      have : up (up MR 0 87 0) 0 33 ((L : Int) - 1) 0 87 = up MR 0 87 0 0 87 := up_off (by decide)
      rw [this, up_at]
    have r133 : R1 0 33 = (L : Int) - 1 := by rw [← hR', sr_ne _ _ (by decide)]; exact r033
    have r129 : R1 29 = delr (MR 29) n L := by rw [← hR', sr_at, r0 29 (by decide)]
    have c1 : ∀ j, j ≠ 273 → j ≠ 274 → C1 j = MC j := fun j a b => by rw [← hC', up_ne _ _ _ a, sr_ne _ _ b]
    have c10 : C1 273 0 = (L : Int) - 1 := by rw [← hC', up_at]
    have c174 : C1 274 = delr (MC 274) n L := by rw [← hC', up_ne _ _ _ (by decide), sr_at]
    obtain ⟨t1, t2⟩ := txt_del ht hT hLL (a := n) (by omega) c10 c174 r133 r129
    have hI1 : Inv RG C1 R1 k := inv_text hRG hI r1 r10 c1 t1 t2
    obtain ⟨w, C', R', a1, a2, a3, a4⟩ := both_readAgain hRG hI1 (k + 1)
    refine ⟨(0, w, C'), (w, R'), ?_, ?_, by simp, ?_, by simp, a3⟩
    · unfold f_X11_delete
      simp only [LtE]
      rw [hT.1, if_neg (by omega), if_pos h1.2, e10, if_pos h3, htake, ClS, a1, ClS]
    · unfold f_X12_delete
      simp only [LtE]
      rw [ew, r_isIn, ClS, if_pos (c := 0 ≤ (n : Int) ∧ (n : Int) ≤ MR 0 33 - 1) (by omega), if_pos (by decide), if_pos h3, r_fails, ClS, if_pos (by decide), e033, wrE (by omega) (by omega), hR0]
      refine hr.trans ?_
      rw [a2, ClS]
    · simp only
      rw [a4, r187]; rfl
