/-! what is kept goes along with a new tree -/
theorem KpO_pt {S : Mm} {rg : Nat → Int} {op : List Int} {bv bh bv' bh' : Nat → Int} (h : KpO S rg op bv bh) (e : ∀ s, s < 180 → bh' s = bh s ∧ (bh s ≠ 0 → bv' s = bv s)) : KpO S rg op bv' bh' := by
  intro s hs hne
  rw [(e s hs).1] at hne
  obtain ⟨a1, a2, a3, a4, a5, a6⟩ := h s hs hne
  refine ⟨a1, by rw [(e s hs).2 hne]; exact a2, fun x hx => ?_, ?_, fun q => ?_, fun q x hx => ?_⟩
  · have := a3 x hx
    rw [(e x this.1).1]; exact this
  · rw [(e s hs).1]; exact a4
  · rw [(e s hs).1]; exact a5 q
  · have hx' := a3 x hx
    rw [(e s hs).1, (e x hx'.1).1]
    exact a6 q x hx
theorem KpO_again {R R1 N C' : Mm} {H V Hg f : Nat → Int} {b : Int} (hg : Okg R) (hO : Oke R) (hN : Okn R) (hT : Trr R) (hT1 : Trr R1) (e4 : R1 4 = R 4) (hH : ∀ m : Nat, (m : Int) < R 0 35 → HrE R R1 H m) (hG : ∀ x : Nat, (x : Int) < R1 0 35 → HrE R1 R (N 42) x)
    (hrow : ∀ j, j ≠ 31 → j ≠ 36 → j ≠ 42 → j ≠ 50 → sr N 50 f j = R1 j) (h31 : ∀ x : Nat, (x : Int) < R1 0 35 → N 42 x ≠ -1 → N 31 x = R 31 (N 42 x).toNat)
    (hA : AgG R (sr N 50 f)) (b1 : Okb R V Hg) (hb : 0 ≤ b ∧ b < 2147483648) (hbm : ∀ m : Nat, (m : Int) < R 0 35 → (bt b m = true ↔ ∃ i : Nat, i < (R 0 35).toNat ∧ H i = -1 ∧ (m = i ∨ (m : Int) = R 32 i))) (hb30 : bt b 30 = true)
    (hC : ∀ x a : Nat, x < 30 → a < 6 → (Pkt Hg (N 42) (R1 0 35) b x a → C' 301 (6 * x + a) = hbk H (R 0 35) (Hg (6 * (N 42 x).toNat + a)) 30 ∧ C' 300 (6 * x + a) = vhv H (R 0 35) (V (6 * (N 42 x).toNat + a))) ∧ (¬ Pkt Hg (N 42) (R1 0 35) b x a → C' 301 (6 * x + a) = 0))
    {rg rg' : Nat → Int} (hK : KpO R rg [] V Hg) : KpO (sr N 50 f) rg' [] (C' 300) (C' 301) := by
  have n0 := hT.1
  have n1 := hT1.1
  have iHG := HrE.inv hT hT1 e4 hH hG
  have iGH := HrE.inv hT1 hT e4.symm hG hH
  have hHr : ∀ m : Nat, (m : Int) < R 0 35 → H m = -1 ∨ (0 ≤ H m ∧ H m < R1 0 35) := fun m hm => by
    rcases (hH m hm).ok with z | ⟨z, -⟩
    · exact Or.inl z
    · exact Or.inr ⟨z.1, z.2.1⟩
  have hsl : ∀ s, s < 180 → Hg s ≠ 0 → (0 ≤ Hg s ∧ Hg s < 2147483648) ∧ SlV R s ∧ bt (Hg s) (s / 6) = true ∧ ∀ i, bt (Hg s) i = true → (i : Int) < R 0 35 ∨ i = 30 := fun s hs hne => by
    have es : 6 * (s / 6) + s % 6 = s := by omega
    have ok := b1 (s / 6) (s % 6) (by omega) (by omega)
    rw [es] at ok
    have ok2 := ok.2 hne
    exact ⟨ok.1, ⟨ok2.1, ok2.2.1⟩, ok2.2.2.2.1, ok2.2.2.2.2.1⟩
  have hgd : ∀ n : Nat, (n : Int) < R 0 35 → ¬ bt b n = true → H n ≠ -1 := fun n hn h q => h ((hbm n hn).mpr ⟨n, by omega, q, Or.inl rfl⟩)
  refine KpO_move (S := R) (ρ := fun n => (H n).toNat) (Kp := fun n => (n : Int) < R 0 35 ∧ H n ≠ -1) (Gd := fun n => (n : Int) < R 0 35 ∧ ¬ bt b n = true) ⟨hA, fun n h => h.1, fun n m hn hm e => ?_, fun n hn => ?_, fun n hn => ?_⟩ hg hO hN hK (fun s hs hne => (hsl s hs hne).2.1) (fun n hn => ?_) (D := fun i => bt b i = true) hb30 (fun n hn h => ⟨hn, h⟩) (fun s' hs' hne => ?_) (fun s hs hne hd => ?_)
  · have h1 := (hHr n hn.1).resolve_left hn.2
    have h2 := (hHr m hm.1).resolve_left hm.2
    have e : (H n).toNat = (H m).toNat := e
    have i1 := (iHG n hn.1 (H n).toNat (by omega)).2
    have i2 := (iHG m hm.1 (H n).toNat (by omega)).2
    omega
  · have hk := hgd n hn.1 hn.2
    have h1 := (hHr n hn.1).resolve_left hk
    have hx : (((H n).toNat : Nat) : Int) = H n := Int.toNat_of_nonneg h1.1
    have i1 := iHG n hn.1 (H n).toNat hx.symm
    rcases (hH n hn.1).ok with z | ⟨⟨-, -, z3, z4⟩, -⟩
    · exact absurd z hk
    refine ⟨⟨hn.1, hk⟩, ?_, ?_, ?_, fun c hc => ?_⟩
    · rw [sr_ne _ _ (by decide), h31 _ i1.1 (by omega), i1.2, Int.toNat_natCast]
    · rw [hrow 30 (by decide) (by decide) (by decide) (by decide)]; exact z3.symm
    · rw [hrow 35 (by decide) (by decide) (by decide) (by decide)]; exact z4.symm
    · have hch := (hT.2 n hn.1).2.2.2.2.2.2.2 c hc
      have hz : (((R 34 (3 * n + c)).toNat : Nat) : Int) = R 34 (3 * n + c) := Int.toNat_of_nonneg (by omega)
      have hwn : H (R 34 (3 * n + c)).toNat ≠ -1 := fun q => hn.2 ((hbm n hn.1).mpr ⟨(R 34 (3 * n + c)).toNat, by omega, q, Or.inr hch.2.2.1.symm⟩)
      have v1 := heir_parent hT hT1 e4 hH (m := (R 34 (3 * n + c)).toNat) (by omega) (by omega) hwn
      have v3 := v1.2.2.2.2
      rw [hch.2.2.1, hch.2.2.2, Int.toNat_natCast] at v3
      have hw := (hHr (R 34 (3 * n + c)).toNat (by omega)).resolve_left hwn
      refine ⟨⟨by omega, hwn⟩, ?_⟩
      rw [hrow 34 (by decide) (by decide) (by decide) (by decide)]
      show R1 34 (3 * (H n).toNat + c) = (((H (R 34 (3 * n + c)).toNat).toNat : Nat) : Int)
      rw [Int.toNat_of_nonneg hw.1, v3]
      congr 1
      omega
  · have h1 := (hHr n hn.1).resolve_left hn.2
    have hx : (((H n).toNat : Nat) : Int) = H n := Int.toNat_of_nonneg h1.1
    rw [hrow 32 (by decide) (by decide) (by decide) (by decide), hrow 33 (by decide) (by decide) (by decide) (by decide)]
    by_cases c : n = 0
    · have v0 := (hT.2 n hn.1).2.2.2.2.2.1 c
      refine ⟨fun _ => ?_, fun q => by omega⟩
      rcases (hH n hn.1).ok with z | ⟨-, z⟩
      · exact absurd z hn.2
      · unfold cnd0 at z
        rw [if_pos c] at z
        have := (hT1.2 (H n).toNat (by omega)).2.2.2.2.2.1 (by omega)
        exact this.1
    · have h7 := (hT.2 n hn.1).2.2.2.2.2.2.1 (by omega)
      have v1 := heir_parent hT hT1 e4 hH hn.1 c hn.2
      have hp := (hHr (R 32 n).toNat (by omega)).resolve_left v1.1
      refine ⟨fun q => by omega, fun _ => ⟨?_, v1.2.2.1⟩⟩
      show R1 32 (H n).toNat = (((H (R 32 n).toNat).toNat : Nat) : Int)
      rw [Int.toNat_of_nonneg hp.1]
      exact v1.2.1
  · have := (hHr n hn.1).resolve_left hn.2
    show (H n).toNat < 30
    omega
  · have es : 6 * (s' / 6) + s' % 6 = s' := by omega
    have hz := hC (s' / 6) (s' % 6) (by omega) (by omega)
    rw [es] at hz
    have hp : Pkt Hg (N 42) (R1 0 35) b (s' / 6) (s' % 6) := Classical.byContradiction fun q => hne (hz.2 q)
    obtain ⟨x1, x2, x3, x4⟩ := hp
    have hm : (((N 42 (s' / 6)).toNat : Nat) : Int) = N 42 (s' / 6) := Int.toNat_of_nonneg x2
    have i1 := iGH (s' / 6) x1 (N 42 (s' / 6)).toNat hm.symm
    have hlt : 6 * (N 42 (s' / 6)).toNat + s' % 6 < 180 := by omega
    refine ⟨6 * (N 42 (s' / 6)).toNat + s' % 6, hlt, x3, fun i hi hbi => (jand_ne (hsl _ hlt x3).1 hb).mpr ⟨i, hi, hbi⟩ x4, ?_⟩
    unfold slM
    rw [show (6 * (N 42 (s' / 6)).toNat + s' % 6) / 6 = (N 42 (s' / 6)).toNat by omega, show (6 * (N 42 (s' / 6)).toNat + s' % 6) % 6 = s' % 6 by omega]
    show s' = 6 * (H (N 42 (s' / 6)).toNat).toNat + s' % 6
    rw [i1.2]
    omega
  · obtain ⟨o1, o2, o3, o4⟩ := hsl s hs hne
    have hn : ((s / 6 : Nat) : Int) < R 0 35 := o2.1
    have hk := hgd (s / 6) hn (hd _ o3)
    have h1 := (hHr (s / 6) hn).resolve_left hk
    have i1 := iHG (s / 6) hn (H (s / 6)).toNat (by omega)
    have es : 6 * (s / 6) + s % 6 = s := by omega
    have hbits : ∀ i : Nat, bt (Hg s) i = true → (i : Int) < R 0 35 ∧ 0 ≤ H i ∧ H i < R1 0 35 := fun i hi => by
      have hnb := hd i hi
      have hin : (i : Int) < R 0 35 := by
        rcases o4 i hi with w | w
        · exact w
        · subst w; exact absurd hb30 hnb
      exact ⟨hin, (hHr i hin).resolve_left (hgd i hin hnb)⟩
    have hp : Pkt Hg (N 42) (R1 0 35) b (H (s / 6)).toNat (s % 6) := by
      unfold Pkt
      rw [i1.2, Int.toNat_natCast, es]
      refine ⟨i1.1, by omega, hne, Classical.byContradiction fun q => ?_⟩
      obtain ⟨i, i2, i3⟩ := (jand_ne o1 hb).mp q
      exact hd i i2 i3
    have hz := (hC (H (s / 6)).toNat (s % 6) (by omega) (by omega)).1 hp
    rw [i1.2, Int.toNat_natCast, es] at hz
    have hbb := hbk_bt n0.2 o1 (fun m hm => (hHr m hm).imp id fun w => ⟨w.1, by omega⟩) 30 (Nat.le_refl _)
    have hiff : ∀ j : Nat, bt (hbk H (R 0 35) (Hg s) 30) j = true ↔ ∃ i, bt (Hg s) i = true ∧ j = (H i).toNat := fun j => (hbb.2 j).trans ⟨fun ⟨i, _, i2, _, i4⟩ => ⟨i, i2, by omega⟩, fun ⟨i, i2, i4⟩ => ⟨i, by have := (hbits i i2).1; omega, i2, (hbits i i2).1, by have := (hbits i i2).2; omega⟩⟩
    show C' 301 (6 * (H (s / 6)).toNat + s % 6) ≠ 0 ∧ (_ → C' 300 (6 * (H (s / 6)).toNat + s % 6) = _) ∧ ∀ j, bt (C' 301 (6 * (H (s / 6)).toNat + s % 6)) j = true ↔ _
    rw [hz.1, hz.2]
    refine ⟨bt_ne ((hiff _).mpr ⟨s / 6, o3, rfl⟩), fun hv => ?_, hiff⟩
    unfold vhv
    by_cases c : 1000 ≤ V s
    · obtain ⟨k1, k2⟩ := hv c
      have h3 := (hHr _ k1).resolve_left k2
      rw [if_pos c, rvM_hi c]
      unfold hvi
      rw [if_pos (by omega)]
      omega
    · rw [if_neg c, rvM_lo (by omega)]
