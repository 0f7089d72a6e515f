/-! bits of words, taken together -/
theorem ll_nat {z : Int} (h : 0 ≤ z ∧ z < 1152921504606846976) : (Ll z).toBitVec.toNat = z.toNat := by
  have h2 := Ll_toInt (v := z) (by unfold i64; omega)
  have h3 : (Ll z).toBitVec.toInt = z := h2
  rw [BitVec.toInt_eq_toNat_cond] at h3
  split at h3 <;> omega
theorem jand_nat {x y : Int} (hx : 0 ≤ x ∧ x < 2147483648) (hy : 0 ≤ y ∧ y < 2147483648) : (0 ≤ jand x y ∧ jand x y < 2147483648) ∧ (jand x y).toNat = x.toNat &&& y.toNat := by
  have h3 : jand x y = (Ii x &&& Ii y).toBitVec.toInt := rfl
  have h4 : (Ii x &&& Ii y).toBitVec.toNat = x.toNat &&& y.toNat := by
    rw [Int32.toBitVec_and, BitVec.toNat_and, nat_of hx, nat_of hy]
  have h5 : x.toNat &&& y.toNat ≤ x.toNat := Nat.and_le_left
  rw [h3, BitVec.toInt_eq_toNat_cond, h4]
  split <;> omega
theorem land_nat {x y : Int} (hx : 0 ≤ x ∧ x < 1152921504606846976) (hy : 0 ≤ y ∧ y < 1152921504606846976) : (0 ≤ land_ x y ∧ land_ x y < 1152921504606846976) ∧ (land_ x y).toNat = x.toNat &&& y.toNat := by
  have h3 : land_ x y = (Ll x &&& Ll y).toBitVec.toInt := rfl
  have h4 : (Ll x &&& Ll y).toBitVec.toNat = x.toNat &&& y.toNat := by
    rw [Int64.toBitVec_and, BitVec.toNat_and, ll_nat hx, ll_nat hy]
  have h5 : x.toNat &&& y.toNat ≤ x.toNat := Nat.and_le_left
  rw [h3, BitVec.toInt_eq_toNat_cond, h4]
  split <;> omega
theorem nat_and_ne {a b : Nat} : a &&& b ≠ 0 ↔ ∃ i, a.testBit i = true ∧ b.testBit i = true := by
  constructor
  · intro h
    refine Classical.byContradiction fun hn => h (Nat.eq_of_testBit_eq fun i => ?_)
    rw [Nat.testBit_and, Nat.zero_testBit]
    cases h1 : a.testBit i with
    | false => rfl
    | true =>
      cases h2 : b.testBit i with
      | false => rfl
      | true => exact absurd ⟨i, h1, h2⟩ hn
  · rintro ⟨i, h1, h2⟩ h
    have h3 := congrArg (fun n => n.testBit i) h
    simp only [Nat.testBit_and, Nat.zero_testBit, h1, h2] at h3
    exact absurd h3 (by decide)
theorem jand_ne {x y : Int} (hx : 0 ≤ x ∧ x < 2147483648) (hy : 0 ≤ y ∧ y < 2147483648) : jand x y ≠ 0 ↔ ∃ i, bt x i = true ∧ bt y i = true := by
  have h := jand_nat hx hy
  have := nat_and_ne (a := x.toNat) (b := y.toNat)
  unfold bt
  rw [← this, ← h.2]
  omega
theorem land_ne {x y : Int} (hx : 0 ≤ x ∧ x < 1152921504606846976) (hy : 0 ≤ y ∧ y < 1152921504606846976) : land_ x y ≠ 0 ↔ ∃ i, bt x i = true ∧ bt y i = true := by
  have h := land_nat hx hy
  have := nat_and_ne (a := x.toNat) (b := y.toNat)
  unfold bt
  rw [← this, ← h.2]
  omega
theorem shr_60 : ∀ v : Fin 60, (((Ii (v.val : Int)).toInt64 &&& 63).toBitVec.smod 64).toNat = v.val := by decide +kernel
theorem lshr_nat {g : Int} (hg : 0 ≤ g ∧ g < 1152921504606846976) {v : Nat} (hv : v < 60) : (0 ≤ lshr_ g v ∧ lshr_ g v < 1152921504606846976) ∧ (lshr_ g v).toNat = g.toNat >>> v := by
  have hs := shr_60 ⟨v, hv⟩
  simp only at hs
  have h4 : (Ll g >>> ((Ii (v : Int)).toInt64 &&& 63)).toBitVec = (Ll g).toBitVec.sshiftRight v := by
    rw [Int64.toBitVec_shiftRight, BitVec.sshiftRight', hs]
  have hn := ll_nat hg
  have hm : (Ll g).toBitVec.msb = false := by
    rw [BitVec.msb_eq_false_iff_two_mul_lt, hn]; omega
  have h3 : lshr_ g v = (Ll g >>> ((Ii (v : Int)).toInt64 &&& 63)).toBitVec.toInt := rfl
  have h5 : g.toNat >>> v ≤ g.toNat := Nat.shiftRight_le _ _
  have h6 : ((Ll g).toBitVec.sshiftRight v).toNat = g.toNat >>> v := by
    rw [BitVec.sshiftRight_eq_of_msb_false hm, BitVec.toNat_ushiftRight, hn]
  rw [h3, h4, BitVec.toInt_eq_toNat_cond, h6]
  split <;> omega
/-- is a place among those told -/
theorem lbit {g : Int} (hg : 0 ≤ g ∧ g < 1152921504606846976) {v : Nat} (hv : v < 60) : land_ (lshr_ g v) 1 = if bt g v then 1 else 0 := by
  have h1 := lshr_nat hg hv
  have h2 := land_nat h1.1 (y := 1) (by decide)
  have h3 : (land_ (lshr_ g v) 1).toNat = if bt g v then 1 else 0 := by
    rw [h2.2, h1.2, show (1 : Int).toNat = 1 from rfl, Nat.and_one_is_mod]
    unfold bt
    rw [Nat.testBit, Nat.one_and_eq_mod_two]
    have : g.toNat >>> v % 2 = 0 ∨ g.toNat >>> v % 2 = 1 := by omega
    rcases this with q | q <;> rw [q] <;> simp
  by_cases c : bt g v = true
  · rw [if_pos c] at h3 ⊢; omega
  · rw [if_neg c] at h3 ⊢; omega
theorem lcmp_z (a b : Int) : lcmp_ a b = 0 ↔ a = b := by
  unfold lcmp_
  split
  · constructor <;> intro q <;> omega
  · split
    · rename_i q; exact ⟨fun _ => q, fun _ => rfl⟩
    · constructor <;> intro q <;> omega
theorem lshl_ok {v : Int} (hv : 0 ≤ v ∧ v < 60) : (0 ≤ lshl_ 1 v ∧ lshl_ 1 v < 1152921504606846976) ∧ ∀ i, bt (lshl_ 1 v) i = decide ((i : Int) = v) := by
  have h := lshl_60 ⟨v.toNat, by omega⟩
  simp only [Int.toNat_of_nonneg hv.1] at h
  refine ⟨h.1, fun i => ?_⟩
  unfold bt
  rw [h.2, Nat.testBit_two_pow]
  by_cases c : v.toNat = i
  · rw [decide_eq_true c, decide_eq_true (by omega)]
  · rw [decide_eq_false c, decide_eq_false (by omega)]
/-! findings are dropped -/
theorem c_drop (b : Int) (M : Mm) : f_X3_drop 299 b M = some (0, sr M 301 fun s => if s < 180 ∧ jand (M 301 s) b ≠ 0 then 0 else M 301 s) := by
  unfold f_X3_drop
  simp only [LtE]
  refine Lp_for 180 (fun i => ((i : Int), sr M 301 fun s => if s < i ∧ jand (M 301 s) b ≠ 0 then 0 else M 301 s)) (fun rc i hi => ?_) (fun rc => ?_) (FU_lt (by omega)) ?_
  · simp only [f_X3_drop_L2_16, LtE]
    rw [if_neg (by omega), c_entryOf_in 180 alenC_301 (by omega) (by omega), ClS, Int.toNat_natCast, sr_at, if_neg (c := i < i ∧ jand (M 301 i) b ≠ 0) (fun q => absurd q.1 (Nat.lt_irrefl _)), wrE (by omega) (by omega)]
    by_cases c : jand (M 301 i) b = 0
    · rw [if_pos c]
      refine congrArg rc (Prod.ext (by simp only; omega) (congrArg (sr M 301) (funext fun s => ?_)))
      by_cases e : s = i
      · subst e; rw [if_neg (fun q => absurd q.1 (Nat.lt_irrefl _)), if_neg (fun q => q.2 c)]
      · by_cases e2 : s < i ∧ jand (M 301 s) b ≠ 0
        · rw [if_pos e2, if_pos ⟨by omega, e2.2⟩]
        · rw [if_neg e2, if_neg (fun q => e2 ⟨by omega, q.2⟩)]
    · rw [if_neg c, c_setEntry_in 180 alenC_301 (by omega) (by omega), ClS, Int.toNat_natCast, up_sr, sr_sr, sr_at]
      refine congrArg rc (Prod.ext (by simp only; omega) (congrArg (sr M 301) (funext fun s => ?_)))
      by_cases e : s = i
      · subst e; rw [if_pos rfl, if_pos ⟨Nat.lt_succ_self _, c⟩]
      · rw [if_neg e]
        by_cases e2 : s < i ∧ jand (M 301 s) b ≠ 0
        · rw [if_pos e2, if_pos ⟨by omega, e2.2⟩]
        · rw [if_neg e2, if_neg (fun q => e2 ⟨by omega, q.2⟩)]
  · simp only [f_X3_drop_L2_16, LtE]
    rw [if_pos (by omega)]
  · have : (fun (s : Nat) => if s < 0 ∧ jand (M 301 s) b ≠ 0 then (0 : Int) else M 301 s) = M 301 := funext fun s => if_neg fun q => absurd q.1 (Nat.not_lt_zero _)
    simp only [this, sr_self]
    rfl
def DpR (M : Mm) (t g y : Int) (k : Nat) : Prop := land_ (M 53 k) t ≠ 0 ∨ land_ (lshr_ g ((k / 6 : Nat) : Int)) 1 = 1 ∨ (M 54 k ≠ 0 ∧ y ≠ 0)
theorem DpR.bool (M : Mm) (t g y : Int) (k : Nat) : ∃ b : Bool, b = true ↔ DpR M t g y k := ⟨decide (land_ (M 53 k) t ≠ 0 ∨ land_ (lshr_ g ((k / 6 : Nat) : Int)) 1 = 1 ∨ (M 54 k ≠ 0 ∧ y ≠ 0)), decide_eq_true_iff⟩
theorem r_drops (t g y : Int) (M : Mm) : ∃ f : Nat → Int, f_X12_drops t g y M = some (0, sr M 50 f) ∧ (∀ k, 360 ≤ k → f k = M 50 k) ∧ ∀ k, k < 360 → (M 50 k = 0 → f k = 0) ∧ (M 50 k ≠ 0 → (DpR M t g y k → f k = 0) ∧ (¬ DpR M t g y k → f k = 1)) := by
  refine ⟨fun k => if k < 360 then (if M 50 k = 0 ∨ (land_ (M 53 k) t ≠ 0 ∨ land_ (lshr_ g ((k / 6 : Nat) : Int)) 1 = 1 ∨ (M 54 k ≠ 0 ∧ y ≠ 0)) then 0 else 1) else M 50 k, ?_, fun k hk => if_neg (by omega), fun k hk => ⟨fun h => ?_, fun h => ⟨fun d => ?_, fun d => ?_⟩⟩⟩
  · unfold f_X12_drops
    simp only [LtE]
    refine Lp_for 360 (fun i => ((i : Int), sr M 50 fun k => if k < i then (if M 50 k = 0 ∨ (land_ (M 53 k) t ≠ 0 ∨ land_ (lshr_ g ((k / 6 : Nat) : Int)) 1 = 1 ∨ (M 54 k ≠ 0 ∧ y ≠ 0)) then 0 else 1) else M 50 k)) (fun rc i hi => ?_) (fun rc => ?_) (FU_lt (by omega)) ?_
    · simp only [f_X12_drops_L3_43, LtE]
      have hg : (0 : Int) ≤ (i : Int) ∧ (i : Int) < 720 := by omega
      have e6 : wr (Int.tdiv (i : Int) 6) = ((i / 6 : Nat) : Int) := (jrem_6 (by omega)).2
      rw [if_neg (by omega), gdE hg, gdE hg, gdE hg, Int.toNat_natCast, sr_ne _ _ (show (53 : Nat) ≠ 50 by decide), sr_ne _ _ (show (54 : Nat) ≠ 50 by decide), sr_at, if_neg (Nat.lt_irrefl _), e6, wrE (by omega) (by omega)]
      simp only [gdE hg, up_sr, sr_sr, sr_at]
      have fin0 : M 50 i = 0 ∨ (land_ (M 53 i) t ≠ 0 ∨ land_ (lshr_ g ((i / 6 : Nat) : Int)) 1 = 1 ∨ (M 54 i ≠ 0 ∧ y ≠ 0)) → rc ((i : Int) + 1, sr M 50 fun j => if j = i then 0 else if j < i then (if M 50 j = 0 ∨ (land_ (M 53 j) t ≠ 0 ∨ land_ (lshr_ g ((j / 6 : Nat) : Int)) 1 = 1 ∨ (M 54 j ≠ 0 ∧ y ≠ 0)) then 0 else 1) else M 50 j) = rc (((i + 1 : Nat) : Int), sr M 50 fun k => if k < i + 1 then (if M 50 k = 0 ∨ (land_ (M 53 k) t ≠ 0 ∨ land_ (lshr_ g ((k / 6 : Nat) : Int)) 1 = 1 ∨ (M 54 k ≠ 0 ∧ y ≠ 0)) then 0 else 1) else M 50 k) := by
        intro hd
        refine congrArg rc (Prod.ext (by simp only; omega) (congrArg (sr M 50) (funext fun j => ?_)))
        by_cases e : j = i
        · subst e; rw [if_pos rfl, if_pos (Nat.lt_succ_self _), if_pos hd]
        · rw [if_neg e]
          by_cases e2 : j < i
          · rw [if_pos e2, if_pos (c := j < i + 1) (by omega)]
          · rw [if_neg e2, if_neg (c := j < i + 1) (by omega)]
      have fin1 : ¬ (M 50 i = 0 ∨ (land_ (M 53 i) t ≠ 0 ∨ land_ (lshr_ g ((i / 6 : Nat) : Int)) 1 = 1 ∨ (M 54 i ≠ 0 ∧ y ≠ 0))) → rc ((i : Int) + 1, sr M 50 fun j => if j = i then 1 else if j < i then (if M 50 j = 0 ∨ (land_ (M 53 j) t ≠ 0 ∨ land_ (lshr_ g ((j / 6 : Nat) : Int)) 1 = 1 ∨ (M 54 j ≠ 0 ∧ y ≠ 0)) then 0 else 1) else M 50 j) = rc (((i + 1 : Nat) : Int), sr M 50 fun k => if k < i + 1 then (if M 50 k = 0 ∨ (land_ (M 53 k) t ≠ 0 ∨ land_ (lshr_ g ((k / 6 : Nat) : Int)) 1 = 1 ∨ (M 54 k ≠ 0 ∧ y ≠ 0)) then 0 else 1) else M 50 k) := by
        intro hd
        refine congrArg rc (Prod.ext (by simp only; omega) (congrArg (sr M 50) (funext fun j => ?_)))
        by_cases e : j = i
        · subst e; rw [if_pos rfl, if_pos (Nat.lt_succ_self _), if_neg hd]
        · rw [if_neg e]
          by_cases e2 : j < i
          · rw [if_pos e2, if_pos (c := j < i + 1) (by omega)]
          · rw [if_neg e2, if_neg (c := j < i + 1) (by omega)]
      by_cases d1 : land_ (M 53 i) t = 0
      · rw [if_neg (c := ¬ lcmp_ (land_ (M 53 i) t) 0 = 0) (fun q => q ((lcmp_z _ _).mpr d1))]
        by_cases d2 : land_ (lshr_ g ((i / 6 : Nat) : Int)) 1 = 1
        · rw [if_pos ((lcmp_z _ _).mpr d2)]
          by_cases d0 : M 50 i = 0
          · rw [if_pos d0]; exact fin0 (Or.inl d0)
          · rw [if_neg d0, if_pos (by decide)]; exact fin0 (Or.inr (Or.inr (Or.inl d2)))
        · rw [if_neg (fun q => d2 ((lcmp_z _ _).mp q))]
          by_cases d0 : M 50 i = 0
          · rw [if_pos d0, if_pos d0]
            split
            · exact fin0 (Or.inl d0)
            · split
              · exact fin0 (Or.inl d0)
              · exact fin0 (Or.inl d0)
          · rw [if_neg d0, if_neg d0]
            by_cases d3 : M 54 i = 0
            · rw [if_pos d3, if_neg (by decide)]
              exact fin1 fun q => q.elim d0 fun q => q.elim (fun q => q d1) fun q => q.elim d2 fun q => q.1 d3
            · rw [if_neg d3]
              by_cases d4 : y = 0
              · rw [if_pos d4, if_neg (by decide)]
                exact fin1 fun q => q.elim d0 fun q => q.elim (fun q => q d1) fun q => q.elim d2 fun q => q.2 d4
              · rw [if_neg d4, if_pos (by decide)]
                exact fin0 (Or.inr (Or.inr (Or.inr ⟨d3, d4⟩)))
      · rw [if_pos (c := ¬ lcmp_ (land_ (M 53 i) t) 0 = 0) (fun q => d1 ((lcmp_z _ _).mp q))]
        by_cases d0 : M 50 i = 0
        · rw [if_pos d0]; exact fin0 (Or.inl d0)
        · rw [if_neg d0, if_pos (by decide)]; exact fin0 (Or.inr (Or.inl d1))
    · simp only [f_X12_drops_L3_43, LtE]
      rw [if_pos (by omega)]
    · have : (fun (k : Nat) => if k < 0 then (if M 50 k = 0 ∨ (land_ (M 53 k) t ≠ 0 ∨ land_ (lshr_ g ((k / 6 : Nat) : Int)) 1 = 1 ∨ (M 54 k ≠ 0 ∧ y ≠ 0)) then (0 : Int) else 1) else M 50 k) = M 50 := funext fun k => if_neg (Nat.not_lt_zero _)
      simp only [this, sr_self]
      rfl
  · simp only
    rw [if_pos hk, if_pos (Or.inl h)]
  · simp only
    unfold DpR at d
    rw [if_pos hk, if_pos (Or.inr d)]
  · simp only
    unfold DpR at d
    rw [if_pos hk, if_neg (fun q => q.elim h d)]
