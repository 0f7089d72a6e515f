/-! a whole round on both sides -/
def RnC (S C : Mm) (rg : Nat → Int) (M : Mm) : Prop := SC M S ∧ (∀ j, 33 ≤ j → j ≤ 272 → M j = C j) ∧ M 309 = rg ∧ (∀ s, s < 180 → M 313 s = 0) ∧ M 310 11 = 0 ∧ ∀ i : Nat, ¬ (((i % 6 : Nat) : Int) < S 0 12 ∧ S 12 (i % 6) = 3 ∧ i < 6 * (S 0 35).toNat) → i < 180 → M 677 i = 0
def RnR (S : Mm) (rg : Nat → Int) (M : Mm) : Prop := Ag M S ∧ M 0 36 = S 0 36 ∧ M 36 = S 36 ∧ (∀ i, i < 720 → M 51 i = 0) ∧ (∀ s : Nat, s < 6 * (S 0 35).toNat → ((s % 6 : Nat) : Int) < S 0 12 → S 12 (s % 6) = 3 → M 55 (ixN S s) = rg s) ∧ i32 (M 0 67)
theorem ixN_eq {S : Mm} {n a : Int} (hn : 0 ≤ n) (ha : 0 ≤ a ∧ a < 6) : (6 * n + a).toNat / 6 = n.toNat ∧ (6 * n + a).toNat % 6 = a.toNat ∧ ixN S (6 * n + a).toNat = (6 * S 36 n.toNat + a).toNat := by
  have e1 : (6 * n + a).toNat / 6 = n.toNat := by omega
  have e2 : (6 * n + a).toNat % 6 = a.toNat := by omega
  refine ⟨e1, e2, ?_⟩
  unfold ixN
  rw [e1, e2, Int.toNat_of_nonneg ha.1]
theorem rnC_rest {S C : Mm} (hO : Oke S) {rg : Nat → Int} {M : Mm} (h : RnC S C rg M) : RestC S C 304 rg (M 305) (fun j => if j < 180 then 0 else M 306 j) (sr M 306 fun j => if j < 180 then 0 else M 306 j) := by
  obtain ⟨h1, h2, h3, h4, -, -⟩ := h
  refine ⟨h1.of hO fun j hj => sr_ne _ _ (by omega), fun j j1 j2 => by rw [sr_ne _ _ (by omega)]; exact h2 j j1 j2, by rw [sr_ne _ _ (by decide)]; exact h3, by rw [sr_ne _ _ (by decide)], by rw [sr_at], fun s hs => by rw [sr_ne _ _ (by decide)]; exact h4 s hs⟩
theorem rnR_rest {S : Mm} (hP : PlO S) (h35 : 0 ≤ S 0 35 ∧ S 0 35 ≤ 30) (h12 : 0 ≤ S 0 12 ∧ S 0 12 ≤ 6) {rg bv bh : Nat → Int} (hbh : ∀ s, s < 180 → bh s = 0) {M : Mm} (h : RnR S rg M) : RestR S 360 rg bv bh (sr (up M 0 68 360) 50 fun j => if 360 ≤ j ∧ j < 720 then 0 else M 50 j) := by
  obtain ⟨h1, h2, h3, h4, h5, h6⟩ := h
  generalize hM : sr (up M 0 68 360) 50 _ = N
  have nj : ∀ j, j ≠ 0 → j ≠ 50 → N j = M j := fun j a b => by rw [← hM, sr_ne _ _ b, up_ne _ _ _ a]
  have n0 : ∀ i, i ≠ 68 → N 0 i = M 0 i := fun i hi => by rw [← hM, sr_ne _ _ (by decide)]; simp [up, hi]
  refine ⟨⟨fun j j1 j2 j3 => by rw [nj j (by omega) (by omega)]; exact h1.1 j j1 j2 j3, fun i hi => by rw [n0 i (by omega)]; exact h1.2 i hi⟩, by rw [n0 36 (by decide)]; exact h2, by rw [nj 36 (by decide) (by decide)]; exact h3, by rw [← hM, sr_ne _ _ (by decide), up_at], ?_⟩
  intro n a n0' n1 a0 a1
  obtain ⟨x1, x2, x3⟩ := ixN_eq (S := S) n0' ⟨a0, Int.lt_of_lt_of_le a1 h12.2⟩
  have p := (hP n.toNat (by omega)).1
  refine ⟨fun k3 => ?_, ?_, fun _ => ⟨fun _ => ?_, fun q => absurd (hbh _ (by omega)) q⟩⟩
  · rw [nj 55 (by decide) (by decide), ← x3]
    exact h5 _ (by omega) (by rw [x2, Int.toNat_of_nonneg a0]; exact a1) (by rw [x2]; exact k3)
  · rw [nj 51 (by decide) (by decide), if_neg (fun q => (by cases q))]
    exact h4 _ (by omega)
  · rw [← hM, sr_at, if_pos (by omega)]
