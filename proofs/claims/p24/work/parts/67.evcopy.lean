/-! behind a round the reference takes the new values over -/
def ixN (S : Mm) (s : Nat) : Nat := (6 * S 36 (s / 6) + ((s % 6 : Nat) : Int)).toNat
def nw5 (S M : Mm) (s : Nat) : Int := if ((s % 6 : Nat) : Int) < S 0 12 ∧ S 12 (s % 6) = 3 then M 56 (ixN S s) else 0
theorem wr_suc {k : Nat} (h : k < 1000) : wr ((k : Int) + 1) = ((k + 1 : Nat) : Int) := by rw [wrE (by omega) (by omega)]; omega
theorem r_over {S : Mm} (hP : PlO S) (h35 : 0 ≤ S 0 35 ∧ S 0 35 ≤ 30) (h12 : 0 ≤ S 0 12 ∧ S 0 12 ≤ 6) {J : Int → Mm → Rs} {v : Int} : ∀ (d k F : Nat) (M : Mm), k + d = 6 * (S 0 35).toNat → d < F → M 0 35 = S 0 35 → M 36 = S 36 → M 0 12 = S 0 12 → M 12 = S 12 →
    ∃ M', Lp (f_X12_changes_L129_36 J) F (v, (k : Int), M) = J v M' ∧ (∀ j, j ≠ 55 → M' j = M j) ∧ (∀ s, s < 6 * (S 0 35).toNat → M' 55 (ixN S s) = if k ≤ s then nw5 S M s else M 55 (ixN S s)) := by
  intro d
  induction d with
  | zero =>
    intro k F M hk hF e1 e2 e3 e4
    obtain ⟨G, rfl⟩ : ∃ G, F = G + 1 := ⟨F - 1, by omega⟩
    refine ⟨M, ?_, fun _ _ => rfl, fun s hs => by rw [if_neg (by omega)]⟩
    rw [Lp_s]
    simp only [f_X12_changes_L129_36, LtE]
    rw [e1, wrE (by omega) (by omega), if_pos (by omega)]
  | succ d ih =>
    intro k F M hk hF e1 e2 e3 e4
    obtain ⟨G, rfl⟩ : ∃ G, F = G + 1 := ⟨F - 1, by omega⟩
    have hk1 : k < 1000 := by omega
    have hkd : ((k / 6 : Nat) : Int) < S 0 35 := by omega
    have hkm : ((k % 6 : Nat) : Int) < 6 := by omega
    have p36 := (hP (k / 6) hkd).1
    have hix := (ix_bd (k := k) p36).1
    have main : ∀ w : Int, w = nw5 S M k → ∃ M', Lp (f_X12_changes_L129_36 J) G (v, ((k + 1 : Nat) : Int), up M 55 (ixN S k) w) = J v M' ∧ (∀ j, j ≠ 55 → M' j = M j) ∧ (∀ s, s < 6 * (S 0 35).toNat → M' 55 (ixN S s) = if k ≤ s then nw5 S M s else M 55 (ixN S s)) := by
      intro w hw
      obtain ⟨M', m1, m2, m3⟩ := ih (k + 1) G (up M 55 (ixN S k) w) (by omega) (by omega) (by rw [up_ne _ _ _ (by decide)]; exact e1) (by rw [up_ne _ _ _ (by decide)]; exact e2) (by rw [up_ne _ _ _ (by decide)]; exact e3) (by rw [up_ne _ _ _ (by decide)]; exact e4)
      refine ⟨M', m1, fun j hj => by rw [m2 j hj, up_ne _ _ _ hj], fun s hs => ?_⟩
      rw [m3 s hs]
      have en : nw5 S (up M 55 (ixN S k) w) s = nw5 S M s := by unfold nw5; rw [up_ne _ _ _ (by decide)]
      by_cases c : k + 1 ≤ s
      · rw [if_pos c, if_pos (by omega), en]
      · rw [if_neg c]
        by_cases cs : s = k
        · subst cs; rw [if_pos (Nat.le_refl _), up_at, hw]
        · rw [if_neg (by omega)]
          have hne := ix_ne hP (s := s) (k := k) (by omega) hkd cs
          unfold up; rw [if_neg (fun q => hne q.2)]
    rw [Lp_s]
    simp only [f_X12_changes_L129_36, LtE]
    rw [e1, wrE (v := S 0 35 * 6) (by omega) (by omega), if_neg (by omega), (jrem_6 hk1).1, (jrem_6 hk1).2, gdE (by omega), Int.toNat_natCast, e2, (ix_bd (k := k) p36).2, e3, e4, wr_suc hk1]
    by_cases c1 : S 0 12 ≤ ((k % 6 : Nat) : Int)
    · rw [if_pos c1, gdE hix]
      exact main 0 (by unfold nw5; rw [if_neg (fun q => absurd q.1 (by omega))])
    · rw [if_neg c1, gdE (by omega), Int.toNat_natCast]
      by_cases c3 : S 12 (k % 6) = 3
      · rw [if_neg (fun q => q c3), gdE hix, gdE hix]
        exact main _ (by unfold nw5; rw [if_pos ⟨by omega, c3⟩]; rfl)
      · rw [if_pos c3, gdE hix]
        exact main 0 (by unfold nw5; rw [if_neg (fun q => c3 q.2)])
