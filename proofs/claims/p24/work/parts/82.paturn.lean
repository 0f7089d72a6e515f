/-! turns over four cells, each turn but the last one settling one of them for good -/
section
variable (cn : Nat → (Nat → Int) → Int) (hd : Nat → Nat)
def tnf : Nat → (Nat → Int) → Nat → Int
  | 0, x => x
  | k + 1, x => if cn k (tnf k x) < tnf k x (hd k) then se (tnf k x) (hd k) (cn k (tnf k x)) else tnf k x
def tnc : Nat → (Nat → Int) → Bool
  | 0, _ => false
  | k + 1, x => tnc k x || decide (cn k (tnf cn hd k x) < tnf cn hd k x (hd k))
def TnH (P : Nat) (D : (Nat → Int) → Prop) : Prop :=
  (∀ p, p < P → hd p < 4) ∧ (∀ x, D x → ∀ B, B < 4 → 0 ≤ x B) ∧
  (∀ p x y, p < P → D x → D y → (∀ B, B < 4 → x B ≤ y B) → cn p x ≤ cn p y) ∧
  (∀ p x y, p < P → D x → D y → (∀ B, B < 4 → x B ≤ y B) → cn p x < cn p y → ∃ B, B < 4 ∧ x B < y B ∧ x B < cn p x) ∧
  (∀ p x, p < P → D x → cn p x < x (hd p) → D (se x (hd p) (cn p x)))
def TnQ (P : Nat) (D : (Nat → Int) → Prop) (n : Nat) (x : Nat → Int) : Prop :=
  D x ∧ ∃ (F : Nat → Bool) (c : Int), cntm F 4 = n ∧ (∀ B, B < 4 → F B = true → x B ≤ c) ∧ ∀ p, p < P → cn p x < x (hd p) → c < cn p x
end
theorem exmin (P : Nat → Prop) (v : Nat → Int) : ∀ n, (∃ B, B < n ∧ P B) → ∃ B, B < n ∧ P B ∧ ∀ B', B' < n → P B' → v B ≤ v B' := by
  intro n
  induction n with
  | zero => rintro ⟨B, h, -⟩; exact absurd h (Nat.not_lt_zero _)
  | succ n ih =>
    intro h
    by_cases h1 : ∃ B, B < n ∧ P B
    · obtain ⟨B, b1, b2, b3⟩ := ih h1
      by_cases c : P n ∧ v n < v B
      · refine ⟨n, Nat.lt_succ_self _, c.1, fun B' h' hp => ?_⟩
        by_cases e : B' = n
        · subst e; exact Int.le_refl _
        · have := b3 B' (by omega) hp
          omega
      · refine ⟨B, by omega, b2, fun B' h' hp => ?_⟩
        by_cases e : B' = n
        · subst e
          have : ¬ v B' < v B := fun q => c ⟨hp, q⟩
          omega
        · exact b3 B' (by omega) hp
    · obtain ⟨B, b1, b2⟩ := h
      have e : B = n := by
        by_cases q : B = n
        · exact q
        · exact absurd ⟨B, by omega, b2⟩ h1
      subst e
      refine ⟨B, Nat.lt_succ_self _, b2, fun B' h' hp => ?_⟩
      by_cases e : B' = B
      · subst e; exact Int.le_refl _
      · exact absurd ⟨B', by omega, hp⟩ h1
theorem tn_still {cn : Nat → (Nat → Int) → Int} {hd : Nat → Nat} {x : Nat → Int} : ∀ k, tnc cn hd k x = false → tnf cn hd k x = x ∧ ∀ p, p < k → ¬ cn p x < x (hd p) := by
  intro k
  induction k with
  | zero => exact fun _ => ⟨rfl, fun p h => absurd h (Nat.not_lt_zero _)⟩
  | succ k ih =>
    intro h
    simp only [tnc, Bool.or_eq_false_iff, decide_eq_false_iff_not] at h
    obtain ⟨i1, i2⟩ := ih h.1
    rw [i1] at h
    refine ⟨by simp only [tnf]; rw [i1, if_neg h.2], fun p hp => ?_⟩
    by_cases e : p = k
    · subst e; exact h.2
    · exact i2 p (by omega)
theorem tn_inv {cn : Nat → (Nat → Int) → Int} {hd : Nat → Nat} {P : Nat} {D : (Nat → Int) → Prop} (H : TnH cn hd P D) {x : Nat → Int} {c : Int} (hx : D x) (hp0 : ∀ p, p < P → cn p x < x (hd p) → c < cn p x) : ∀ k, k ≤ P →
    D (tnf cn hd k x) ∧ (∀ B, B < 4 → tnf cn hd k x B ≤ x B) ∧ (∀ B, B < 4 → tnf cn hd k x B < x B → c < tnf cn hd k x B) ∧ (∀ p, p < k → cn p (tnf cn hd k x) < tnf cn hd k x (hd p) → ∃ B, B < 4 ∧ tnf cn hd k x B < x B ∧ tnf cn hd k x B < cn p (tnf cn hd k x)) ∧ (tnc cn hd k x = true → ∃ B, B < 4 ∧ tnf cn hd k x B < x B) := by
  obtain ⟨H1, H2, H3, H4, H5⟩ := H
  intro k
  induction k with
  | zero => exact fun _ => ⟨hx, fun _ _ => Int.le_refl _, fun _ _ h => absurd h (Int.lt_irrefl _), fun p h => absurd h (Nat.not_lt_zero _), fun h => (by cases h)⟩
  | succ k ih =>
    intro hk
    obtain ⟨i1, i2, i3, i4, i5⟩ := ih (by omega)
    simp only [tnf, tnc]
    generalize tnf cn hd k x = y at i1 i2 i3 i4 i5 ⊢
    by_cases cu : cn k y < y (hd k)
    · rw [if_pos cu]
      have hh := H1 k (by omega)
      have hc : c < cn k y := by
        have hm := H3 k y x (by omega) i1 hx i2
        by_cases e : cn k y < cn k x
        · obtain ⟨B, b1, b2, b3⟩ := H4 k y x (by omega) i1 hx i2 e
          have := i3 B b1 b2
          omega
        · have he : cn k y = cn k x := by omega
          have h2 := i2 _ hh
          have := hp0 k (by omega) (by omega)
          omega
      have hy' : D (se y (hd k) (cn k y)) := H5 k y (by omega) i1 cu
      have hle : ∀ B, B < 4 → se y (hd k) (cn k y) B ≤ y B := fun B _ => by
        by_cases e : B = hd k
        · subst e; rw [se_at]; omega
        · rw [se_ne _ _ e]; exact Int.le_refl _
      have hch : se y (hd k) (cn k y) (hd k) < x (hd k) := by
        have := i2 _ hh
        rw [se_at]; omega
      refine ⟨hy', fun B hB => Int.le_trans (hle B hB) (i2 B hB), fun B hB hl => ?_, fun p hpk hpe => ?_, fun _ => ⟨hd k, hh, hch⟩⟩
      · by_cases e : B = hd k
        · subst e; rw [se_at]; exact hc
        · rw [se_ne _ _ e] at hl ⊢; exact i3 B hB hl
      · have hm := H3 p _ y (by omega) hy' i1 hle
        by_cases e : cn p (se y (hd k) (cn k y)) < cn p y
        · obtain ⟨B, b1, b2, b3⟩ := H4 p _ y (by omega) hy' i1 hle e
          have := i2 B b1
          exact ⟨B, b1, by omega, b3⟩
        · have he : cn p (se y (hd k) (cn k y)) = cn p y := by omega
          by_cases ep : p = k
          · subst ep
            rw [se_at, he] at hpe
            exact absurd hpe (Int.lt_irrefl _)
          · have h2 := hle _ (H1 p (by omega))
            obtain ⟨B, b1, b2, b3⟩ := i4 p (by omega) (by omega)
            have := hle B b1
            exact ⟨B, b1, by omega, by omega⟩
    · rw [if_neg cu]
      refine ⟨i1, i2, i3, fun p hpk hpe => ?_, fun h => ?_⟩
      · by_cases ep : p = k
        · subst ep; exact absurd hpe cu
        · exact i4 p (by omega) hpe
      · rw [decide_eq_false cu, Bool.or_false] at h
        exact i5 h
theorem tn_step {cn : Nat → (Nat → Int) → Int} {hd : Nat → Nat} {P : Nat} {D : (Nat → Int) → Prop} (H : TnH cn hd P D) {x : Nat → Int} {n : Nat} (h : TnQ cn hd P D n x) (hc : tnc cn hd P x = true) : TnQ cn hd P D (n + 1) (tnf cn hd P x) := by
  obtain ⟨hx, F, c, h1, h2, h3⟩ := h
  obtain ⟨i1, i2, i3, i4, i5⟩ := tn_inv H hx h3 P (Nat.le_refl _)
  generalize tnf cn hd P x = y at i1 i2 i3 i4 i5 ⊢
  obtain ⟨B, b1, b2, b3⟩ := exmin (fun B => y B < x B) y 4 (i5 hc)
  have hcB := i3 B b1 b2
  have hFB : F B = false := by
    cases e : F B with
    | false => rfl
    | true => have := h2 B b1 e; omega
  refine ⟨i1, fun j => F j || decide (j = B), y B, ?_, fun A hA hF => ?_, fun p hp hpe => ?_⟩
  · have := cntm_drop (P := fun j => F j || decide (j = B)) (Q := F) (k := B) (by simp) hFB (fun j hj => by simp [hj]) 4 b1
    omega
  · simp only [Bool.or_eq_true, decide_eq_true_eq] at hF
    rcases hF with q | q
    · have := h2 A hA q
      have := i2 A hA
      omega
    · subst q; exact Int.le_refl _
  · obtain ⟨A, a1, a2, a3⟩ := i4 p hp hpe
    have := b3 A a1 a2
    omega
theorem TnQ.le4 {cn : Nat → (Nat → Int) → Int} {hd : Nat → Nat} {P : Nat} {D : (Nat → Int) → Prop} {x : Nat → Int} {n : Nat} (h : TnQ cn hd P D n x) : n ≤ 4 := by
  obtain ⟨-, F, c, h1, -⟩ := h
  have := cntm_le F 4
  omega
theorem TnQ.zero {cn : Nat → (Nat → Int) → Int} {hd : Nat → Nat} {P : Nat} {D : (Nat → Int) → Prop} {x : Nat → Int} (hx : D x) (h : ∀ p, p < P → 0 < cn p x) : TnQ cn hd P D 0 x := ⟨hx, fun _ => false, 0, rfl, fun _ _ h => (by cases h), fun p hp _ => h p hp⟩
