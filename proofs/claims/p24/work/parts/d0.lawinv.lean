/-! what the law keeps of the class -/
theorem jremE {x k : Int} (h0 : 0 ≤ x) (h1 : x < 2147483648) (k0 : 0 < k) (k1 : k < 2147483648) : jrem x k = x % k ∧ wr (Int.tdiv x k) = x / k := by
  have e : Int.tdiv x k = x / k := Int.tdiv_eq_ediv_of_nonneg h0
  have a1 : 0 ≤ x / k := Int.ediv_nonneg h0 (by omega)
  have a2 : x / k * k ≤ x := Int.ediv_mul_le x (by omega)
  have a3 : 0 ≤ x / k * k := Int.mul_nonneg a1 (by omega)
  have a4 : x / k ≤ x := Int.ediv_le_self k h0
  have a5 : x % k = x - k * (x / k) := Int.emod_def x k
  rw [Int.mul_comm] at a5
  refine ⟨?_, by rw [e, wrE (by omega) (by omega)]⟩
  unfold jrem
  rw [e, wrE (v := x / k) (by omega) (by omega), wrE (v := x / k * k) (by omega) (by omega), wrE (by omega) (by omega)]
  omega
theorem bit_tog : ∀ v : Fin 16, ∀ i : Fin 4, (0 ≤ jxor (v.val : Int) (jshl 1 (i.val : Int)) ∧ jxor (v.val : Int) (jshl 1 (i.val : Int)) < 16) ∧ ∀ j : Fin 4, jand (jshr (jxor (v.val : Int) (jshl 1 (i.val : Int))) (j.val : Int)) 1 = if j = i then 1 - jand (jshr (v.val : Int) (j.val : Int)) 1 else jand (jshr (v.val : Int) (j.val : Int)) 1 := by decide +kernel
theorem jnM_lo {A M : Mm} {k : Nat} (h : k < 681) : jnM A M k = A k := if_pos h
theorem jnM_hi {A M : Mm} {k : Nat} (h : 681 ≤ k) : jnM A M k = M k := if_neg (by omega)
theorem jnM_self (M : Mm) : jnM M M = M := by funext k; unfold jnM; split <;> rfl
theorem CljS {α : Type} {v : Int} {M' M : Mm} {k : Int → Mm → Option α} : Clj (some (v, M')) M k = k v (jnM M' M) := Eq.trans rfl rfl
theorem CltS {c v : Int} {M' M : Mm} {k : Int → Mm → Rs} : Clt (some (c, v, M')) M k = if c = 0 then k v (jnM M' M) else some (if c = 1 then -3000000 else if c = 2 then -2000000 else -1000000, jnM M' M) := Eq.trans rfl rfl
def sy (S : Mm) (p j : Nat) : Int := if (j : Int) < S 2 p then S 3 (3 * p + j) else -1
def LM (M S : Mm) : Prop :=
  (M 684 0 = S 0 0 ∧ M 684 1 = S 0 12 ∧ M 684 2 = S 0 19 ∧ M 684 3 = M 273 0 ∧ M 684 4 = S 0 35) ∧
  ((0 ≤ M 684 5 ∧ M 684 5 < 16) ∧ ∀ i : Nat, i < 4 → jand (jshr (M 684 5) i) 1 = S 27 i) ∧
  (∀ p : Nat, (p : Int) < S 0 0 → M 681 p = S 1 p + 10 * (sy S p 0 + 1) + 110 * (sy S p 1 + 1) + 1210 * (sy S p 2 + 1)) ∧
  (∀ a : Nat, (a : Int) < S 0 12 → M 683 a = S 12 a) ∧
  (∀ e : Nat, (e : Int) < S 0 19 → M 682 e = S 16 e + 20 * S 17 e + 200 * (S 18 e + 2) + 2000 * S 19 e)
def LB (M : Mm) (b : Int) : Prop := (0 ≤ M 299 0 ∧ M 299 0 ≤ b) ∧ (0 ≤ M 684 9 ∧ M 684 9 ≤ b) ∧ (0 ≤ M 684 10 ∧ M 684 10 ≤ 5) ∧ (M 283 0 ≠ 0 → 0 ≤ M 283 1)
def LI (RG : Mm → Nat → Int) (M S : Mm) (b : Int) : Prop := CI RG M S ∧ LM M S ∧ M 684 6 = M 299 0 ∧ LB M b
theorem sy_same {S S' : Mm} {p : Nat} (e2 : S' 2 p = S 2 p) (e3 : ∀ j, j < 3 → S' 3 (3 * p + j) = S 3 (3 * p + j)) {j : Nat} (hj : j < 3) : sy S' p j = sy S p j := by
  unfold sy
  rw [e2, e3 j hj]
theorem sy_bd {S : Mm} (hg : Okg S) {p : Nat} (hp : (p : Int) < S 0 0) (j : Nat) : -1 ≤ sy S p j ∧ sy S p j ≤ 9 := by
  unfold sy
  by_cases c : (j : Int) < S 2 p
  · rw [if_pos c]
    have := (hg.2.2.2.1 p (by omega) hp).2.2.2.2.2.1 j (by omega) c
    rw [show (3 * (p : Int) + (j : Int)).toNat = 3 * p + j by omega] at this
    omega
  · rw [if_neg c]; omega
/-- nothing is changed of what the law knows -/
theorem LM.q {M S M' S' : Mm} (h : LM M S) (hq : AgQ S S') (e : ∀ k, 681 ≤ k → k ≤ 684 → M' k = M k) (e273 : M' 273 0 = M 273 0) : LM M' S' := by
  unfold LM at h ⊢
  have hs : ∀ p j, sy S' p j = sy S p j := fun p j => by unfold sy; rw [hq.1 2 (by decide) (by decide) (by decide), hq.1 3 (by decide) (by decide) (by decide)]
  rw [e 684 (by decide) (by decide), e 681 (by decide) (by decide), e 682 (by decide) (by decide), e 683 (by decide) (by decide), e273, hq.2 0 (by simp), hq.2 12 (by simp), hq.2 19 (by simp), hq.2 35 (by simp), hq.1 27 (by decide) (by decide) (by decide), hq.1 1 (by decide) (by decide) (by decide), hq.1 12 (by decide) (by decide) (by decide), hq.1 16 (by decide) (by decide) (by decide), hq.1 17 (by decide) (by decide) (by decide), hq.1 18 (by decide) (by decide) (by decide), hq.1 19 (by decide) (by decide) (by decide)]
  simp only [hs]
  exact h
theorem L_symbol {M S : Mm} (hg : Okg S) (h : LM M S) {p : Nat} (hp : (p : Int) < S 0 0) {j : Nat} (hj : j < 3) : f_L_symbol (p : Int) (j : Int) M = some (sy S p j, M) := by
  have h10 := hg.1
  have hM := h.2.2.1 p hp
  have b0 := sy_bd hg hp 0
  have b1 := sy_bd hg hp 1
  have b2 := sy_bd hg hp 2
  have hh := (hg.2.2.2.1 p (by omega) hp).1
  rw [Int.toNat_natCast] at hh
  unfold f_L_symbol
  simp only [LtE]
  rw [gdE (by omega), Int.toNat_natCast]
  generalize hx : M 681 p = x at hM
  have hj' : j = 0 ∨ j = 1 ∨ j = 2 := by omega
  have key : ∀ k : Int, k = 10 ∨ k = 110 ∨ k = 1210 → (gd (¬ k = 0) <| some (wr (jrem (wr (Int.tdiv x k)) 11 - 1), M) : Rs) = some (x / k % 11 - 1, M) := fun k hk => by
    have e1 := (jremE (x := x) (k := k) (by omega) (by omega) (by omega) (by omega)).2
    have a1 : 0 ≤ x / k := Int.ediv_nonneg (by omega) (by omega)
    have a4 : x / k ≤ x := Int.ediv_le_self k (by omega)
    have e2 := (jremE (x := x / k) (k := 11) a1 (by omega) (by decide) (by decide)).1
    rw [gdE (by omega), e1, e2, wrE (by omega) (by omega)]
  rcases hj' with e | e | e <;> subst e
  · rw [if_neg (by simp), key 10 (by simp)]
    congr 2
    omega
  · rw [if_pos (by simp), if_neg (by simp), key 110 (by simp)]
    congr 2
    omega
  · rw [if_pos (by simp), if_pos (by simp), key 1210 (by simp)]
    congr 2
    omega
/-- how many of the first symbols are nonterminals -/
def nc (S : Mm) (p : Nat) : Nat → Int
  | 0 => 0
  | j + 1 => nc S p j + (if 0 ≤ sy S p j ∧ sy S p j < 4 then 1 else 0)
theorem nc_bd (S : Mm) (p : Nat) : ∀ j, 0 ≤ nc S p j ∧ nc S p j ≤ j := by
  intro j
  induction j with
  | zero => exact ⟨Int.le_refl _, Int.le_refl _⟩
  | succ j ih => simp only [nc]; split <;> omega
theorem nc_nch {S : Mm} (hg : Okg S) {p : Nat} (hp : (p : Int) < S 0 0) : ∀ j, nc S p j = (nch S p (min j (S 2 p).toNat) : Int) := by
  have h2 := (hg.2.2.2.1 p (by omega) hp).2.1
  rw [Int.toNat_natCast] at h2
  intro j
  induction j with
  | zero => rw [Nat.zero_min]; rfl
  | succ j ih =>
    simp only [nc]
    rw [ih]
    unfold sy
    by_cases c : (j : Int) < S 2 p
    · have hs := (hg.2.2.2.1 p (by omega) hp).2.2.2.2.2.1 j (by omega) c
      rw [show (3 * (p : Int) + (j : Int)).toNat = 3 * p + j by omega] at hs
      rw [if_pos c, Nat.min_eq_left (by omega), Nat.min_eq_left (by omega)]
      simp only [nch]
      by_cases d : S 3 (3 * p + j) < 4
      · rw [if_pos ⟨hs.1, d⟩, if_pos d]; omega
      · rw [if_neg (fun q => d q.2), if_neg d]; omega
    · rw [if_neg c, if_neg (by omega), Nat.min_eq_right (by omega), Nat.min_eq_right (by omega)]
      omega
theorem nc_three {S : Mm} (hg : Okg S) {p : Nat} (hp : (p : Int) < S 0 0) : nc S p 3 = S 4 p := by
  have h2 := hg.2.2.2.1 p (by omega) hp
  have e := h2.2.2.1
  have h23 := h2.2.1
  rw [Int.toNat_natCast] at e h23
  rw [nc_nch hg hp 3, Nat.min_eq_right (by omega), e]
theorem L_children {M S : Mm} (hg : Okg S) (h : LM M S) {p : Nat} (hp : (p : Int) < S 0 0) : f_L_children (p : Int) M = some (S 4 p, M) := by
  rw [← nc_three hg hp]
  unfold f_L_children
  simp only [LtE]
  refine Lp_for 3 (fun j => (nc S p j, (j : Int), M)) (fun rc j hj => ?_) (fun rc => ?_) (FU_lt (by omega)) rfl
  · simp only [f_L_children_L4_26, LtE]
    have hb := nc_bd S p j
    have e := L_symbol hg h hp hj
    rw [if_neg (by omega), e, ClS]
    simp only [nc]
    rw [show ((j + 1 : Nat) : Int) = (j : Int) + 1 by omega]
    by_cases c : sy S p j < 0
    · rw [if_pos c, wrE (by omega) (by omega), wrE (by omega) (by omega), if_neg (by omega)]
    · rw [if_neg c, e, ClS]
      by_cases d : 4 ≤ sy S p j
      · rw [if_pos d, wrE (by omega) (by omega), wrE (by omega) (by omega), if_neg (by omega)]
      · rw [if_neg d, wrE (by omega) (by omega), wrE (by omega) (by omega), if_pos (by omega)]
  · simp only [f_L_children_L4_26, LtE]
    rw [if_pos (by omega)]
/-- the c-th nonterminal child -/
theorem L_childOf {M S : Mm} (hg : Okg S) (h : LM M S) {p : Nat} (hp : (p : Int) < S 0 0) {i c : Nat} (hi : (i : Int) < S 2 p) (h4 : S 3 (3 * p + i) < 4) (hc : nch S p i = c) : f_L_childOf (p : Int) (c : Int) M = some (S 3 (3 * p + i), M) := by
  have h2 := (hg.2.2.2.1 p (by omega) hp).2.1
  rw [Int.toNat_natCast] at h2
  have hi3 : i < 3 := by omega
  have hn : ∀ j, j ≤ i → nc S p j = (nch S p j : Int) := fun j hj => by rw [nc_nch hg hp j, Nat.min_eq_left (by omega)]
  have hmono : ∀ j, j < 3 → nc S p j ≤ nc S p (j + 1) := fun j _ => by simp only [nc]; split <;> omega
  have hs : ∀ j, j < 3 → sy S p j = if (j : Int) < S 2 p then S 3 (3 * p + j) else -1 := fun j _ => rfl
  unfold f_L_childOf
  simp only [LtE]
  have hle : ∀ j, j ≤ i → nc S p j ≤ (c : Int) := by
    intro j hj
    have hci : nc S p i = (c : Int) := by rw [hn i (Nat.le_refl _), hc]
    have : ∀ d, j + d ≤ i → nc S p j ≤ nc S p (j + d) := by
      intro d
      induction d with
      | zero => exact fun _ => Int.le_refl _
      | succ d ih => exact fun q => Int.le_trans (ih (by omega)) (hmono (j + d) (by omega))
    have := this (i - j) (by omega)
    rw [show j + (i - j) = i by omega, hci] at this
    exact this
  have key : ∀ (d j F : Nat), j + d = i → d + 1 < F → Lp (f_L_childOf_L5_22 (p : Int) (fun M1 => some (-1, M1)) (fun v3 M4 => some (v3, M4))) F ((c : Int) - nc S p j, (j : Int), M) = some (S 3 (3 * p + i), M) := by
    intro d
    induction d with
    | zero =>
      intro j F hj hF
      obtain ⟨G, rfl⟩ : ∃ G, F = G + 1 := ⟨F - 1, by omega⟩
      have e : j = i := by omega
      subst e
      have hb := (hg.2.2.2.1 p (by omega) hp).2.2.2.2.2.1 j (by omega) hi
      rw [show (3 * (p : Int) + (j : Int)).toNat = 3 * p + j by omega] at hb
      have e0 : (c : Int) - nc S p j = 0 := by rw [hn j (Nat.le_refl _), hc]; omega
      have es : sy S p j = S 3 (3 * p + j) := if_pos hi
      rw [Lp_s, e0]
      simp only [f_L_childOf_L5_22, LtE]
      rw [if_neg (by omega), L_symbol hg h hp hi3, ClS, es, if_neg (by omega), if_neg (by omega), if_neg (by simp)]
    | succ d ih =>
      intro j F hj hF
      obtain ⟨G, rfl⟩ : ∃ G, F = G + 1 := ⟨F - 1, by omega⟩
      have hl := hle j (by omega)
      have hl1 := hle (j + 1) (by omega)
      have hI := ih (j + 1) G (by omega) (by omega)
      have hnn := nc_bd S p j
      have hc3 : c ≤ 3 := by
        have := nc_bd S p i
        have e := hn i (Nat.le_refl _)
        omega
      simp only [nc] at hI hl1
      rw [show ((j + 1 : Nat) : Int) = (j : Int) + 1 by omega] at hI
      rw [Lp_s]
      simp only [f_L_childOf_L5_22, LtE]
      rw [if_neg (by omega), L_symbol hg h hp (j := j) (by omega), ClS]
      by_cases c1 : sy S p j < 0
      · rw [if_neg (by omega)] at hI
        rw [if_pos c1, wrE (by omega) (by omega), ← hI]
        congr 2
        omega
      · rw [if_neg c1]
        by_cases c2 : 4 ≤ sy S p j
        · rw [if_neg (by omega)] at hI
          rw [if_pos c2, wrE (by omega) (by omega), ← hI]
          congr 2
          omega
        · rw [if_pos (by omega)] at hI hl1
          rw [if_neg c2, if_pos (by omega), wrE (by omega) (by omega), wrE (by omega) (by omega), ← hI]
          congr 2
          omega
  have := key i 0 FU (by omega) (FU_lt (by omega))
  simp only [nc] at this
  rw [show (c : Int) - 0 = c by omega] at this
  exact this
