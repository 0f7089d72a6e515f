/-! rounds look at the old values below 180 alone -/
theorem RStp.cong {S : Mm} {rg rg' : Nat → Int} (hr : ∀ s, s < 180 → rg s = rg' s) {s : Nat} (hs : s < 180) {x y x' : RgS} (h : StE x y) (hx : RStp S rg s x x') : ∃ y', RStp S rg' s y y' ∧ StE x' y' := by
  obtain ⟨c, ⟨i, rfl, hc⟩, hc0, rfl⟩ := hx
  have he : CfE ([(s : Int)], x.1, x.2.1, [], 0) ([(s : Int)], y.1, y.2.1, [], 0) := ⟨rfl, h.1, h.2.1, rfl⟩
  have hj := itc_cfe (S := S) hr i he
  obtain ⟨h1, h2, h3⟩ := h
  refine ⟨_, ⟨_, ⟨i, rfl, hj.1 ▸ hc⟩, (hj.2.1 s hs) ▸ hc0, rfl⟩, hj.2.1, hj.2.2.1, ?_⟩
  simp only
  rw [hj.2.2.1 s hs hc0, h3, hr s hs]
theorem RRn.cong {S : Mm} {rg rg' : Nat → Int} (hr : ∀ s, s < 180 → rg s = rg' s) : ∀ (l : List Nat), (∀ s ∈ l, s < 180) → ∀ {x y x' : RgS}, StE x y → RRn S rg l x x' → ∃ y', RRn S rg' l y y' ∧ StE x' y' := by
  intro l
  induction l with
  | nil => intro _ x y x' h hx; cases hx; exact ⟨y, rfl, h⟩
  | cons s r ih =>
    intro hl x y x' h hx
    obtain ⟨m, m1, m2⟩ := hx
    obtain ⟨n, n1, n2⟩ := m1.cong hr (hl s (List.mem_cons_self ..)) h
    obtain ⟨y', y1, y2⟩ := ih (fun q hq => hl q (List.mem_cons_of_mem _ hq)) n2 m2
    exact ⟨y', ⟨n, n1, y1⟩, y2⟩
