/-! the small loops round the rings, in the reference -/
theorem r_clears (M : Mm) : f_X12_clears M = some (0, sr (up M 0 68 360) 50 fun j => if 360 ≤ j ∧ j < 720 then 0 else M 50 j) := by
  unfold f_X12_clears
  simp only [LtE]
  generalize hM1 : up M 0 68 360 = M1
  have e50 : M 50 = M1 50 := by rw [← hM1, up_ne _ _ _ (by decide)]
  rw [e50]
  refine Lp_for 360 (fun i => (((360 + i : Nat) : Int), sr M1 50 fun j => if 360 ≤ j ∧ j < 360 + i then 0 else M1 50 j)) (fun rc i hi => ?_) (fun rc => ?_) (FU_lt (by omega)) ?_
  · simp only [f_X12_clears_L11_10, LtE]
    rw [if_neg (by omega), gdE (by omega), wrE (by omega) (by omega), up_sr, sr_sr, sr_at]
    refine congrArg rc (Prod.ext (by simp only; omega) (congrArg (sr M1 50) (funext fun j => ?_)))
    rw [Int.toNat_natCast]
    by_cases e : j = 360 + i
    · subst e; rw [if_pos rfl, if_pos (by omega)]
    · rw [if_neg e]
      by_cases e2 : 360 ≤ j ∧ j < 360 + i
      · rw [if_pos e2, if_pos (by omega)]
      · rw [if_neg e2, if_neg (by omega)]
  · simp only [f_X12_clears_L11_10, LtE]
    rw [if_pos (by omega)]
  · have : (fun (j : Nat) => if 360 ≤ j ∧ j < 360 + 0 then (0 : Int) else M1 50 j) = M1 50 := funext fun j => if_neg (by omega)
    simp only [this, sr_self]
    rfl
theorem r_fill0 {J : Int → Mm → Rs} {a : Int} {M : Mm} : Lp (f_X12_findsRings_L40_39 J) FU (a, 0, M) = J a (sr M 55 fun j => if j < 360 then 0 else M 55 j) := by
  refine Lp_for 360 (fun i => (a, (i : Int), sr M 55 fun j => if j < i then 0 else M 55 j)) (fun rc i hi => ?_) (fun rc => ?_) (FU_lt (by omega)) ?_
  · simp only [f_X12_findsRings_L40_39, LtE]
    rw [if_neg (by omega), gdE (by omega), wrE (by omega) (by omega), up_sr, sr_sr, sr_at]
    refine congrArg rc (Prod.ext rfl (Prod.ext (by simp only; omega) (congrArg (sr M 55) (funext fun j => ?_))))
    rw [Int.toNat_natCast]
    by_cases e : j = i
    · subst e; rw [if_pos rfl, if_pos (by omega)]
    · rw [if_neg e]
      by_cases e2 : j < i
      · rw [if_pos e2, if_pos (by omega)]
      · rw [if_neg e2, if_neg (by omega)]
  · simp only [f_X12_findsRings_L40_39, LtE]
    rw [if_pos (by omega)]
  · have : (fun (j : Nat) => if j < 0 then (0 : Int) else M 55 j) = M 55 := funext fun j => if_neg (Nat.not_lt_zero _)
    simp only [this, sr_self]
    rfl
theorem r_fill2 {J : Mm → Rs} {a : Int} {M : Mm} : Lp (f_X12_findsRings_L87_21 J) FU (a, 0, M) = J (if a = 0 then M else sr M 55 fun j => if j < 360 then -2 else M 55 j) := by
  by_cases ca : a = 0
  · rw [FU_4, Lp_s, if_pos ca]
    simp only [f_X12_findsRings_L87_21, LtE]
    rw [if_neg (by decide), if_pos ca]
  rw [if_neg ca]
  refine Lp_for 360 (fun i => (a, (i : Int), sr M 55 fun j => if j < i then -2 else M 55 j)) (fun rc i hi => ?_) (fun rc => ?_) (FU_lt (by omega)) ?_
  · simp only [f_X12_findsRings_L87_21, LtE]
    rw [if_neg (by omega), if_neg ca, gdE (by omega), wrE (by omega) (by omega), up_sr, sr_sr, sr_at]
    refine congrArg rc (Prod.ext rfl (Prod.ext (by simp only; omega) (congrArg (sr M 55) (funext fun j => ?_))))
    rw [Int.toNat_natCast]
    by_cases e : j = i
    · subst e; rw [if_pos rfl, if_pos (by omega)]
    · rw [if_neg e]
      by_cases e2 : j < i
      · rw [if_pos e2, if_pos (by omega)]
      · rw [if_neg e2, if_neg (by omega)]
  · simp only [f_X12_findsRings_L87_21, LtE]
    rw [if_pos (by omega)]
  · have : (fun (j : Nat) => if j < 0 then (-2 : Int) else M 55 j) = M 55 := funext fun j => if_neg (Nat.not_lt_zero _)
    simp only [this, sr_self]
    rfl
/-- is there a RING among the attributes -/
def hasR (S : Mm) : Nat → Bool
  | 0 => false
  | n + 1 => hasR S n || decide (S 12 n = 3)
theorem r_hasR {J : Int → Mm → Rs} {M : Mm} (h12 : 0 ≤ M 0 12 ∧ M 0 12 ≤ 6) : Lp (f_X12_findsRings_L4_57 J) FU (0, 0, M) = J (if hasR M (M 0 12).toNat then 1 else 0) M := by
  refine Lp_for (M 0 12).toNat (fun i => ((if hasR M i then 1 else 0 : Int), (i : Int), M)) (fun rc i hi => ?_) (fun rc => ?_) (FU_lt (by omega)) rfl
  · simp only [f_X12_findsRings_L4_57, LtE]
    rw [if_neg (by omega), wrE (by omega) (by omega)]
    have ei : (i : Int) + 1 = ((i + 1 : Nat) : Int) := by omega
    cases hh : hasR M i with
    | true =>
      rw [if_pos rfl, if_pos (by decide), ei]
      simp only [hasR, hh, Bool.true_or, if_true]
    | false =>
      rw [if_neg (by decide), gdE (by omega), Int.toNat_natCast, ei]
      by_cases c : M 12 i = 3
      · rw [if_neg (fun q => q c)]
        simp only [hasR, hh, c, decide_true, Bool.or_true, if_true]
      · rw [if_pos c]
        simp only [hasR, hh, decide_eq_false c, Bool.or_false]
        rfl
  · simp only [f_X12_findsRings_L4_57, LtE]
    rw [if_pos (by omega)]
