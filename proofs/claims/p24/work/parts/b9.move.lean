/-! what it is, and what it looks at, goes along -/
section TR3
variable {S S' : Mm} {ρ : Nat → Nat} {Kp Gd : Nat → Prop}
theorem slM_dm (x : Nat) : slM ρ x / 6 = ρ (x / 6) ∧ slM ρ x % 6 = x % 6 := by unfold slM; omega
theorem tr_stage (hT : Trn S S' ρ Kp Gd) (hg : Okg S) (hO : Oke S) (hN : Okn S) {rg : Nat → Int} (rg' : Nat → Int) {Su : Nat → Prop} (hSu : ∀ s, Su s → S 12 (s % 6) ≠ 3 ∧ SuN S Kp Gd s ∧ ∀ x ∈ Rd S rg s, Su x) :
    ∀ i s v, Su s → fv (KL S rg i) s = some v → VlK Kp v ∧ Dt S' rg' (slM ρ s) (rvM ρ v) ∧ Rd S' rg' (slM ρ s) = (Rd S rg s).map (slM ρ) := by
  have e12 : S' 12 = S 12 := hT.1.1 12 (by decide)
  intro i
  induction i with
  | zero =>
    intro s v hs hv
    unfold fv at hv
    rw [KL_zero (hSu s hs).1] at hv
    cases hv
  | succ i ih =>
    intro s v hs hv
    obtain ⟨h3, hsu, hrd⟩ := hSu s hs
    obtain ⟨-, d2, d3⟩ := Dt_reads h3 hv
    have hst : ∀ y ∈ (Rd S rg s).map (slM ρ), ∃ w, Dt S' rg' y w := fun y hy => by
      obtain ⟨x, x1, x2⟩ := List.mem_map.mp hy
      obtain ⟨w, hw⟩ := d3 x x1
      rw [← x2]
      exact ⟨_, (ih x w (hrd x x1) hw).2.1⟩
    obtain ⟨N, hN'⟩ := stage_of _ hst
    have hHL : HLk ρ Kp (KL S rg i) (KL S' rg' N) (spc S (KL S rg i) ((s / 6 : Nat) : Int) ((s % 6 : Nat) : Int)).1 := fun x hx => by
      rw [d2] at hx
      obtain ⟨w, hw⟩ := d3 x hx
      obtain ⟨i1, i2, -⟩ := ih x w (hrd x hx) hw
      obtain ⟨u, hu⟩ := hN' (slM ρ x) (List.mem_map.mpr ⟨x, hx, rfl⟩)
      have : u = rvM ρ w := Dt.uniq ⟨N, hu⟩ i2
      exact ⟨w, hw, by rw [hu, this], i1⟩
    have hR := spc_tr hT hg hO hN hsu hHL
    rw [d2] at hR
    obtain ⟨r1, r2⟩ := hR
    have h3' : S' 12 (slM ρ s % 6) ≠ 3 := by rw [(slM_dm s).2, e12]; exact h3
    have e : spc S' (KL S' rg' N) ((slM ρ s / 6 : Nat) : Int) ((slM ρ s % 6 : Nat) : Int) = ((Rd S rg s).map (slM ρ), some (rvM ρ v)) := by
      rw [(slM_dm s).1, (slM_dm s).2, r1]; rfl
    have hk : fv (KL S' rg' (N + 1)) (slM ρ s) = some (rvM ρ v) := by rw [fvKL_succ h3', e]
    obtain ⟨-, q2, -⟩ := Dt_reads h3' hk
    rw [e] at q2
    exact ⟨r2 v rfl, ⟨_, hk⟩, (congrArg Prod.fst q2).symm⟩
theorem tr_Vs (hT : Trn S S' ρ Kp Gd) (hg : Okg S) (hO : Oke S) (hN : Okn S) {rg : Nat → Int} (rg' : Nat → Int) {Su : Nat → Prop} (hSu : ∀ s, Su s → S 12 (s % 6) ≠ 3 ∧ SuN S Kp Gd s ∧ ∀ x ∈ Rd S rg s, Su x) {s : Nat} (hs : Su s) (hv : Vs S rg s ≠ -2) :
    VlK Kp (Vs S rg s) ∧ Vs S' rg' (slM ρ s) = rvM ρ (Vs S rg s) ∧ Rd S' rg' (slM ρ s) = (Rd S rg s).map (slM ρ) := by
  by_cases hd : ∃ v, Dt S rg s v
  · obtain ⟨v, i, hi⟩ := hd
    obtain ⟨h1, h2, h3⟩ := tr_stage hT hg hO hN rg' hSu i s v hs hi
    rw [Vs_of ⟨i, hi⟩, Vs_of h2]
    exact ⟨h1, rfl, h3⟩
  · exact absurd (Vs_not hd) hv
/-- what is kept goes along: what was dropped was all that could have changed -/
theorem KpO_move (hT : Trn S S' ρ Kp Gd) (hg : Okg S) (hO : Oke S) (hN : Okn S) {rg rg' : Nat → Int} {bv bh bv' bh' : Nat → Int} (hK : KpO S rg [] bv bh) (hS : ∀ s, s < 180 → bh s ≠ 0 → SlV S s) (hρ : ∀ n, Kp n → ρ n < 30)
    {D : Nat → Prop} (h30 : D 30) (hD : ∀ n : Nat, (n : Int) < S 0 35 → ¬ D n → Gd n)
    (h1 : ∀ s', s' < 180 → bh' s' ≠ 0 → ∃ s, s < 180 ∧ bh s ≠ 0 ∧ (∀ i, bt (bh s) i = true → ¬ D i) ∧ s' = slM ρ s)
    (h2 : ∀ s, s < 180 → bh s ≠ 0 → (∀ i, bt (bh s) i = true → ¬ D i) → bh' (slM ρ s) ≠ 0 ∧ (VlK Kp (bv s) → bv' (slM ρ s) = rvM ρ (bv s)) ∧ ∀ j, bt (bh' (slM ρ s)) j = true ↔ ∃ i, bt (bh s) i = true ∧ j = ρ i) : KpO S' rg' [] bv' bh' := by
  have e12 : S' 12 = S 12 := hT.1.1 12 (by decide)
  have h35 := hN.1
  have hsv : ∀ s, s < 180 → bh s ≠ 0 → (∀ i, bt (bh s) i = true → ¬ D i) → S 12 (s % 6) ≠ 3 ∧ SuN S Kp Gd s ∧ Vs S rg s ≠ -2 ∧ ∀ x ∈ Rd S rg s, x < 180 ∧ bh x ≠ 0 ∧ (∀ i, bt (bh x) i = true → bt (bh s) i = true) := by
    intro s hs hne hb
    obtain ⟨a1, a2, a3, a4, a5, a6⟩ := hK s hs hne
    have hsl := hS s hs hne
    have hn := hsl.nat.1
    have hv : Vs S rg s ≠ -2 := fun q => hb 30 (a5 q) h30
    have k2 : S 12 (s % 6) ≠ 2 := fun q => by
      refine hb 30 (a4 30 ?_) h30
      unfold h0_
      rw [Int.toNat_natCast, if_pos q]
      have hb1 := (bitC_ok (n := ((s / 6 : Nat) : Int)) (Or.inr ⟨hn.1, by omega⟩)).1
      rw [jor_bt hb1 ALL_bt.1, ALL_bt.2]
      simp
    have hown : Gd (s / 6) := hD _ hn.2 (hb _ (a4 _ (by have := (h0_hb (a := ((s % 6 : Nat) : Int)) hN hn).2; rw [Int.toNat_natCast] at this; exact this)))
    have hgm := hT.2.2.2.1 _ hown
    refine ⟨a1, ⟨hsl, k2, hgm.1, fun _ => hown, fun q => ?_⟩, hv, fun x hx => ?_⟩
    · by_cases c : s / 6 = 0
      · left
        have := (hN.2.2 (s / 6) hn.2).2.2.2.2.2.1 c
        exact this.1
      · right
        have hp := (hN.2.2 (s / 6) hn.2).2.2.2.2.2.2.1 (by omega)
        refine ⟨hp.1, hD _ (by omega) (hb _ (a4 _ ?_))⟩
        unfold h0_
        rw [Int.toNat_natCast, if_neg k2, if_pos q, Int.toNat_natCast]
        have hb1 := (bitC_ok (n := ((s / 6 : Nat) : Int)) (Or.inr ⟨hn.1, by omega⟩)).1
        have hb2 := bitC_ok (n := S 32 (s / 6)) (Or.inr ⟨hp.1, by omega⟩)
        rw [jor_bt hb1 hb2.1, hb2.2, decide_eq_true (by omega)]
        simp
    · obtain ⟨x0, xc⟩ := a3 x hx
      obtain ⟨y1, y2⟩ := a6 hv x hx
      by_cases c3 : S 12 (x % 6) = 3
      · exact absurd h30 (hb 30 (y1 c3))
      · exact ⟨x0, y2 c3⟩
  have hSu : ∀ s, (s < 180 ∧ bh s ≠ 0 ∧ ∀ i, bt (bh s) i = true → ¬ D i) → S 12 (s % 6) ≠ 3 ∧ SuN S Kp Gd s ∧ ∀ x ∈ Rd S rg s, (x < 180 ∧ bh x ≠ 0 ∧ ∀ i, bt (bh x) i = true → ¬ D i) := fun s ⟨s1, s2, s3⟩ => by
    obtain ⟨z1, z2, -, z4⟩ := hsv s s1 s2 s3
    exact ⟨z1, z2, fun x hx => ⟨(z4 x hx).1, (z4 x hx).2.1, fun i hi => s3 i ((z4 x hx).2.2 i hi)⟩⟩
  intro s' hs' hne'
  obtain ⟨s, s1, s2, s3, rfl⟩ := h1 s' hs' hne'
  obtain ⟨z1, z2, z3, z4⟩ := hsv s s1 s2 s3
  obtain ⟨t1, t2, t3⟩ := tr_Vs hT hg hO hN rg' hSu ⟨s1, s2, s3⟩ z3
  obtain ⟨u1, u2, u3⟩ := h2 s s1 s2 s3
  have hk := hK s s1 s2
  have hx' : ∀ x ∈ Rd S rg s, slM ρ x < 180 ∧ bh' (slM ρ x) ≠ 0 ∧ ∀ j, bt (bh' (slM ρ x)) j = true → bt (bh' (slM ρ s)) j = true := fun x hx => by
    obtain ⟨x1, x2, x3⟩ := z4 x hx
    have x4 : ∀ i, bt (bh x) i = true → ¬ D i := fun i hi => s3 i (x3 i hi)
    obtain ⟨y1, -, y3⟩ := h2 x x1 x2 x4
    have hkx := hρ _ (hsv x x1 x2 x4).2.1.2.2.1
    refine ⟨by unfold slM; omega, y1, fun j hj => ?_⟩
    obtain ⟨i, i1, i2⟩ := (y3 j).mp hj
    exact (u3 j).mpr ⟨i, x3 i i1, i2⟩
  have cv := rvM_cmp (ρ := ρ) (Vs S rg s)
  refine ⟨by rw [(slM_dm s).2, e12]; exact z1, by rw [u2 (by rw [hk.2.1]; exact t1), t2, hk.2.1], fun y hy => ?_, ?_, fun q => ?_, fun _ y hy => ?_⟩
  · rw [t3] at hy
    obtain ⟨x, x1, x2⟩ := List.mem_map.mp hy
    rw [← x2]
    exact ⟨(hx' x x1).1, Or.inr (Or.inl (hx' x x1).2.1)⟩
  · intro j hj
    have hg0 := hk.2.2.2.1
    rw [(slM_dm s).1, (slM_dm s).2] at hj
    refine (u3 j).mpr ?_
    obtain ⟨v1, v2, v3, v4, v5⟩ := z2
    have hn := v1.nat.1
    have hρn := hρ _ v3
    unfold h0_ at hj hg0
    rw [Int.toNat_natCast, Int.toNat_natCast] at hj hg0
    rw [e12, if_neg v2] at hj
    rw [if_neg v2] at hg0
    have b1 := bitC_ok (n := ((s / 6 : Nat) : Int)) (Or.inr ⟨hn.1, by omega⟩)
    have b1' := bitC_ok (n := ((ρ (s / 6) : Nat) : Int)) (Or.inr ⟨by omega, by omega⟩)
    by_cases k1 : S 12 (s % 6) = 1
    · rw [if_pos k1] at hj hg0
      have hpp := hT.2.2.2.2 _ v3
      have hS32 : S 32 (s / 6) = -1 ∨ (0 ≤ S 32 (s / 6) ∧ S 32 (s / 6) < 30) := by
        rcases v5 k1 with q | ⟨q, q2⟩
        · exact Or.inl q
        · have := hT.2.1 _ (hT.2.2.2.1 _ q2).1
          exact Or.inr ⟨q, by omega⟩
      have b2 := bitC_ok hS32
      have hS32' : S' 32 (ρ (s / 6)) = -1 ∨ (0 ≤ S' 32 (ρ (s / 6)) ∧ S' 32 (ρ (s / 6)) < 30) := by
        rcases v5 k1 with q | ⟨q, q2⟩
        · exact Or.inl (hpp.1 q)
        · have := hρ _ (hT.2.2.2.1 _ q2).1
          rw [(hpp.2 q).1]
          exact Or.inr ⟨by omega, by omega⟩
      have b2' := bitC_ok hS32'
      rw [jor_bt b1'.1 b2'.1, b1'.2, b2'.2, Bool.or_eq_true, decide_eq_true_iff, decide_eq_true_iff] at hj
      rcases hj with q | q
      · refine ⟨s / 6, hg0 _ ?_, by omega⟩
        rw [jor_bt b1.1 b2.1, b1.2]; simp
      · rcases v5 k1 with w | ⟨w, w2⟩
        · have := hpp.1 w; omega
        · refine ⟨(S 32 (s / 6)).toNat, hg0 _ ?_, by have := (hpp.2 w).1; omega⟩
          rw [jor_bt b1.1 b2.1, b2.2, decide_eq_true (by omega)]; simp
    · rw [if_neg k1] at hj hg0
      rw [b1'.2, decide_eq_true_iff] at hj
      refine ⟨s / 6, hg0 _ ?_, by omega⟩
      rw [b1.2]; simp
  · rw [t2] at q
    refine absurd ?_ z3
    have : Vs S rg s < 1000 := by omega
    rw [rvM_lo this] at q
    exact q
  · rw [t3] at hy
    obtain ⟨x, x1, x2⟩ := List.mem_map.mp hy
    rw [← x2]
    have hsx := (hSu s ⟨s1, s2, s3⟩).2.2 x x1
    refine ⟨fun w => ?_, fun _ => (hx' x x1).2⟩
    rw [(slM_dm x).2, e12] at w
    exact absurd w (hsv x hsx.1 hsx.2.1 hsx.2.2).1
end TR3
