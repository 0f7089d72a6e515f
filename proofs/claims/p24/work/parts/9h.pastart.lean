/-! how it begins -/
set_option maxRecDepth 100000 in
theorem R0_s : MR0 0 0 = 0 ∧ MR0 0 12 = 0 ∧ MR0 0 14 = 0 ∧ MR0 0 15 = 0 ∧ MR0 0 19 = 0 ∧ MR0 0 33 = 0 ∧ MR0 0 35 = 0 ∧ MR0 0 36 = -1 ∧ MR0 0 67 = 0 ∧ MR0 0 68 = 0 ∧ MR0 0 79 = 0 := by decide +kernel
set_option maxRecDepth 100000 in
theorem R0_p : ∀ p, p < 10 → MR0 2 p = 0 ∧ MR0 4 p = 0 ∧ MR0 6 p = 0 ∧ MR0 8 p = -1 ∧ MR0 10 p = -1 := by decide +kernel
set_option maxRecDepth 100000 in
theorem R0_27 : ∀ i, i < 4 → MR0 27 i = 0 := by decide +kernel
set_option maxRecDepth 100000 in
theorem R0_50 : ∀ i, i < 360 → MR0 50 i = 0 := by decide +kernel
set_option maxRecDepth 100000 in
theorem R0_51 : ∀ i, i < 720 → MR0 51 i = 0 := by decide +kernel
set_option maxRecDepth 100000 in
theorem C0_s : MC0 1 0 = 0 ∧ MC0 1 1 = 0 ∧ MC0 14 4 = 0 ∧ MC0 14 5 = 0 ∧ MC0 25 0 = 0 ∧ MC0 273 0 = 0 ∧ MC0 283 0 = 0 ∧ MC0 299 0 = 0 ∧ MC0 310 11 = 0 ∧ MC0 676 6 = 0 := by decide +kernel
set_option maxRecDepth 100000 in
theorem C0_27 : ∀ i, i < 4 → MC0 27 i = 0 := by decide +kernel
set_option maxRecDepth 100000 in
theorem C0_10 : ∀ i, i < 30 → MC0 10 i = MR0 9 i := by decide +kernel
set_option maxRecDepth 100000 in
theorem C0_313 : ∀ s, s < 180 → MC0 313 s = 0 := by decide +kernel
set_option maxRecDepth 100000 in
theorem C0_301 : ∀ s, s < 180 → MC0 301 s = 0 := by decide +kernel
theorem inv0 (RG : Mm → Nat → Int) : Inv RG MC0 MR0 0 := by
  obtain ⟨r0, r12, r14, r15, r19, r33, r35, r36, r67, r68, r79⟩ := R0_s
  obtain ⟨c10, c11, c144, c145, c25, c273, c283, c299, c310, c676⟩ := C0_s
  refine ⟨⟨⟨?_, ?_, ?_, ?_, ?_⟩, ⟨?_, ?_, ?_, ?_, ?_⟩, ?_, ?_, ?_⟩, ?_, Or.inl c676, ?_⟩
  · refine ⟨by omega, by omega, fun a a1 a2 => absurd a2 (by omega), fun p p1 p2 => absurd p2 (by omega), fun p p1 p2 => R0_p p.toNat (by omega)⟩
  · refine ⟨by omega, fun k hk => absurd hk (by rw [r14]; exact Nat.not_lt_zero _), by rw [r15, r14]; rfl⟩
  · exact ⟨by omega, fun k hk => absurd hk (by omega), fun i hi => Or.inl (R0_27 i hi)⟩
  · exact ⟨by omega, fun k hk => absurd hk (by omega)⟩
  · exact ⟨by omega, ⟨fun _ => r36, fun n q c hn => absurd hn (by omega)⟩, fun n hn => absurd hn (by omega)⟩
  · exact ⟨by rw [c10, r0], by rw [c11, r12], fun a a1 a2 => absurd a2 (by omega), fun p p1 p2 => absurd p2 (by omega), C0_10⟩
  · refine ⟨by rw [c144, r14], by rw [c145, r15], ⟨fun k hk => absurd hk (by rw [r14]; exact Nat.not_lt_zero _), fun r hr => ?_⟩, fun i hi => absurd hi (by rw [r14]; exact Nat.not_lt_zero _)⟩
    rw [r14] at hr
    cases hr
  · exact ⟨by rw [c25, r19], fun i hi => by rw [C0_27 i hi, R0_27 i hi], fun k hk => absurd hk (by omega)⟩
  · exact ⟨by rw [c273, r33], fun k hk => absurd hk (by omega)⟩
  · exact ⟨by rw [c283, r35], fun h => absurd r35 h, fun n hn => absurd hn (by omega)⟩
  · exact ⟨c310, C0_313⟩
  · exact ⟨by rw [c299, r67], by rw [r67]; decide⟩
  · exact ⟨r68, r79, R0_51, fun n hn => absurd hn (by omega)⟩
  · exact ⟨fun p p1 p2 => absurd p2 (by omega), fun p p1 p2 => absurd p2 (by omega), ⟨fun p p1 p2 => absurd p2 (by omega), fun k hk => absurd hk (by omega)⟩, fun p p1 p2 => absurd p2 (by omega)⟩
  · refine ⟨fun _ => 0, fun _ => 0, fun n a _ _ => ⟨⟨Int.le_refl _, by simp only; decide⟩, fun h => absurd rfl h⟩, fun s hs => ⟨C0_301 s hs, fun h => absurd rfl h⟩, fun k hk => Or.inl (R0_50 k hk), fun n a hn => absurd hn (by omega), fun q a hq ha _ => R0_50 _ (by omega)⟩
/-- every call is answered alike -/
theorem sim_inv : ∃ RG : Mm → Nat → Int, Sim (Inv RG) ∧ Inv RG MC0 MR0 0 := by
  obtain ⟨RG, h1, h2⟩ := RG_is
  have hR : RGs RG := h2
  exact ⟨RG, ⟨s_production h1, s_forward h1, s_rule h1, s_attribute h1, s_step h1, s_dropSteps h1, s_equation h1, s_toggle h1, s_conflicts h1, s_ringIn h1, s_insert h1, s_delete h1, s_read h1, s_cost h1, s_node h1, s_rewrite h1 hR, s_value h1 hR, s_valueAnew h1 hR, s_found h1, s_isKept h1, s_why h1 hR, s_none RG⟩, inv0 RG⟩
