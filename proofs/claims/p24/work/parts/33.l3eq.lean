theorem StepsOk.congr {S S' : Mm} {K A B K' A' B' : Nat → Int} {n : Nat} (h : StepsOk S K A B n) (e12 : S 0 12 ≤ S' 0 12) (e : ∀ i, i < n → K' i = K i ∧ A' i = A i ∧ B' i = B i) : StepsOk S' K' A' B' n := by
  intro k hk
  have := h k hk
  rw [(e k hk).1, (e k hk).2.1, (e k hk).2.2, stk_congr k fun i hi => (e i (by omega)).1]
  exact ⟨this.1.of e12, this.2⟩
theorem CSt.congr {M M' : Mm} {h h' : Nat} {K A B K' A' B' : Nat → Int} {n : Nat} (hC : CSt M h K A B n) (hl : ∀ k, k < n → tkn (K k) ≤ (stk K k).length) (hn : n ≤ 8) (e : ∀ i, i < n → K' i = K i ∧ A' i = A i ∧ B' i = B i) (em : ∀ r, 1 ≤ r → r ≤ 6 → ∀ i, i < 8 → M' (h' + r) i = M (h + r) i) : CSt M' h' K' A' B' n := by
  obtain ⟨c1, c2⟩ := hC
  refine ⟨fun k hk => ?_, fun r hr => ?_⟩
  · have h1 := c1 k hk
    have e1 := e k hk
    rw [em 1 (by decide) (by decide) k (by omega), em 2 (by decide) (by decide) k (by omega), em 3 (by decide) (by decide) k (by omega), em 6 (by decide) (by decide) k (by omega), e1.1, e1.2.1, e1.2.2, sta_congr hl (fun i hi => (e i hi).1) 8 k hk]
    refine ⟨h1.1, h1.2.1, h1.2.2.1, h1.2.2.2.1, fun j hj => ?_⟩
    have h2 := opr_lt hj (hl k hk)
    rw [opr_congr (K := K) fun i hi => (e i (by omega)).1, em 4 (by decide) (by decide) _ (by omega), em 5 (by decide) (by decide) _ (by omega)]
    exact h1.2.2.2.2 j hj
  · rw [stk_congr n fun i hi => (e i hi).1] at hr
    have := stk_lt K n r hr
    rw [em 4 (by decide) (by decide) _ (by omega), em 5 (by decide) (by decide) _ (by omega)]
    exact c2 r hr
theorem c_copyRow {r1 r2 : Nat} {M : Mm} (h : alenC r1 = alenC r2) (hne : r1 ≠ r2) : f_X11_copyRow r1 r2 M = some (0, sr M r2 fun j => if j < alenC r2 then M r1 j else M r2 j) := by
  unfold f_X11_copyRow Lt
  have hl : alenC r1 ≤ 100000 := by unfold alenC; omega
  refine Lp_for (alenC r1) (fun i => ((i : Int), sr M r2 fun j => if j < i then M r1 j else M r2 j)) (fun rc i hi => ?_) (fun rc => ?_) (FU_lt (by omega)) ?_
  · simp only [f_X11_copyRow_L2_11]
    rw [if_neg (by omega), if_neg (by omega), gdE (by omega), LtE, gdE (by omega), LtE, LtE, wrE (by omega) (by omega), up_sr, sr_sr]
    refine congrArg rc (Prod.ext rfl (congrArg (sr M r2) (funext fun j => ?_)))
    rw [sr_at, sr_ne _ _ hne]
    simp only [Int.toNat_natCast]
    by_cases h : j = i <;> grind
  · simp only [f_X11_copyRow_L2_11]
    rw [if_pos (by omega), h]
  · simp [sr_self]
theorem alenC_eq {k j : Nat} (hk : k < 30) (hj : 1 ≤ j ∧ j ≤ 7) : alenC (33 + 8 * k + j) = 8 := by
  unfold alenC TC
  rw [if_pos (by omega), if_neg (by omega)]
  rfl
theorem c_place {h : Nat} {a b c d : Int} {M : Mm} : f_X0_place h a b c d M = some (0, up (up (up (up M h 0 a) h 1 b) h 2 c) h 3 d) := by
  unfold f_X0_place; simp only [LtE]
/-- the draft's steps are taken over by a row -/
theorem c_take {M : Mm} {k : Nat} (hk : k < 30) : Wp (f_X0_take (33 + 8 * k) 14 M) fun r => (∀ i, i < 6 → r.2 (33 + 8 * k) i = M 14 i) ∧ (∀ j, 1 ≤ j → j ≤ 6 → ∀ i, i < 8 → r.2 (33 + 8 * k + j) i = M (14 + j) i) ∧ (∀ j, ¬ (33 + 8 * k ≤ j ∧ j ≤ 33 + 8 * k + 6) → r.2 j = M j) := by
  unfold f_X0_take
  simp only [LtE, c_place, ClS]
  generalize hM1 : up (up (up (up M (33 + 8 * k) 0 (M 14 0)) (33 + 8 * k) 1 (M 14 1)) (33 + 8 * k) 2 (M 14 2)) (33 + 8 * k) 3 (M 14 3) = M1
  have e1 : M1 14 = M 14 := by rw [← hM1, up_ne _ _ _ (by omega), up_ne _ _ _ (by omega), up_ne _ _ _ (by omega), up_ne _ _ _ (by omega)]
  have e2 : up M1 (33 + 8 * k) 4 (M1 14 4) 14 = M 14 := by rw [up_ne _ _ _ (by omega), e1]
  rw [e2, e1]
  generalize hM2 : up (up M1 (33 + 8 * k) 4 (M 14 4)) (33 + 8 * k) 5 (M 14 5) = M2
  have r2 : ∀ j, j ≠ 33 + 8 * k → M2 j = M j := fun j hj => by rw [← hM2, ← hM1, up_ne _ _ _ hj, up_ne _ _ _ hj, up_ne _ _ _ hj, up_ne _ _ _ hj, up_ne _ _ _ hj, up_ne _ _ _ hj]
  have r0 : ∀ i, i < 6 → M2 (33 + 8 * k) i = M 14 i := fun i hi => by
    rw [← hM2, ← hM1]
    match i, hi with
    | 0, _ => simp [up]
    | 1, _ => simp [up]
    | 2, _ => simp [up]
    | 3, _ => simp [up]
    | 4, _ => simp [up]
    | 5, _ => simp [up]
  rw [c_copyRow (by rw [alenC_15, alenC_eq hk (by decide)]) (by omega), ClS, c_copyRow (by rw [alenC_16, alenC_eq hk (by decide)]) (by omega), ClS, c_copyRow (by rw [alenC_17, alenC_eq hk (by decide)]) (by omega), ClS, c_copyRow (by rw [alenC_18, alenC_eq hk (by decide)]) (by omega), ClS, c_copyRow (by rw [alenC_19, alenC_eq hk (by decide)]) (by omega), ClS, c_copyRow (by rw [alenC_20, alenC_eq hk (by decide)]) (by omega), ClS]
  simp only [alenC_eq hk (show 1 ≤ 1 ∧ 1 ≤ 7 by decide), alenC_eq hk (show 1 ≤ 2 ∧ 2 ≤ 7 by decide), alenC_eq hk (show 1 ≤ 3 ∧ 3 ≤ 7 by decide), alenC_eq hk (show 1 ≤ 4 ∧ 4 ≤ 7 by decide), alenC_eq hk (show 1 ≤ 5 ∧ 5 ≤ 7 by decide), alenC_eq hk (show 1 ≤ 6 ∧ 6 ≤ 7 by decide)]
  refine Wp_some ⟨fun i hi => ?_, fun j j1 j2 i hi => ?_, fun j hj => ?_⟩
  · simp only
    rw [sr_ne _ _ (by omega), sr_ne _ _ (by omega), sr_ne _ _ (by omega), sr_ne _ _ (by omega), sr_ne _ _ (by omega), sr_ne _ _ (by omega), r0 i hi]
  · have hj : j = 1 ∨ j = 2 ∨ j = 3 ∨ j = 4 ∨ j = 5 ∨ j = 6 := by omega
    simp only
    rcases hj with rfl | rfl | rfl | rfl | rfl | rfl
    · rw [sr_ne _ _ (by omega), sr_ne _ _ (by omega), sr_ne _ _ (by omega), sr_ne _ _ (by omega), sr_ne _ _ (by omega), sr_at, if_pos hi, r2 _ (by omega)]
    · rw [sr_ne _ _ (by omega), sr_ne _ _ (by omega), sr_ne _ _ (by omega), sr_ne _ _ (by omega), sr_at, if_pos hi, sr_ne _ _ (by omega), r2 _ (by omega)]
    · rw [sr_ne _ _ (by omega), sr_ne _ _ (by omega), sr_ne _ _ (by omega), sr_at, if_pos hi, sr_ne _ _ (by omega), sr_ne _ _ (by omega), r2 _ (by omega)]
    · rw [sr_ne _ _ (by omega), sr_ne _ _ (by omega), sr_at, if_pos hi, sr_ne _ _ (by omega), sr_ne _ _ (by omega), sr_ne _ _ (by omega), r2 _ (by omega)]
    · rw [sr_ne _ _ (by omega), sr_at, if_pos hi, sr_ne _ _ (by omega), sr_ne _ _ (by omega), sr_ne _ _ (by omega), sr_ne _ _ (by omega), r2 _ (by omega)]
    · rw [sr_at, if_pos hi, sr_ne _ _ (by omega), sr_ne _ _ (by omega), sr_ne _ _ (by omega), sr_ne _ _ (by omega), sr_ne _ _ (by omega), r2 _ (by omega)]
  · simp only
    rw [sr_ne _ _ (by omega), sr_ne _ _ (by omega), sr_ne _ _ (by omega), sr_ne _ _ (by omega), sr_ne _ _ (by omega), sr_ne _ _ (by omega), r2 _ (by omega)]
