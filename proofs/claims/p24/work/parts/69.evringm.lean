/-! which slots a round visits -/
theorem rsl_mem (S : Mm) : ∀ f k s, s ∈ rsl S f k ↔ (k ≤ s ∧ s < k + f) ∧ ((s % 6 : Nat) : Int) < S 0 12 ∧ S 12 (s % 6) = 3 := by
  intro f
  induction f with
  | zero => intro k s; exact ⟨fun h => (by cases h), fun h => absurd h.1 (by omega)⟩
  | succ f ih =>
    intro k s
    simp only [rsl]
    by_cases c : ((k % 6 : Nat) : Int) < S 0 12 ∧ S 12 (k % 6) = 3
    · rw [if_pos c, List.mem_cons, ih]
      constructor
      · rintro (q | q)
        · subst q; exact ⟨⟨Nat.le_refl _, by omega⟩, c⟩
        · exact ⟨by omega, q.2⟩
      · intro q
        by_cases e : s = k
        · exact Or.inl e
        · exact Or.inr ⟨by omega, q.2⟩
    · rw [if_neg c, ih]
      constructor
      · intro q; exact ⟨by omega, q.2⟩
      · intro q
        have e : s ≠ k := fun e => by subst e; exact c q.2
        exact ⟨by omega, q.2⟩
theorem RRn.off {S : Mm} {rg : Nat → Int} : ∀ (l : List Nat) {x x' : RgS}, RRn S rg l x x' → ∀ i, i ∉ l → x'.2.2.1 i = x.2.2.1 i := by
  intro l
  induction l with
  | nil => intro x x' h i _; cases h; rfl
  | cons s r ih =>
    intro x x' h i hi
    obtain ⟨m, ⟨c, -, -, rfl⟩, m2⟩ := h
    rw [ih m2 i fun q => hi (List.mem_cons_of_mem _ q)]
    exact se_ne _ _ fun q => hi (by rw [q]; exact List.mem_cons_self ..)
