/-! what is found by what is kept, on both sides, and kept then -/
theorem pv_ag {S S' : Mm} (h : S' 36 = S 36) (v : Int) : pv S' v = pv S v := by unfold pv; rw [h]
theorem find_inv {RG : Mm → Nat → Int} (hRG : RGok RG) {MC MR : Mm} {k : Nat} (hI : Inv RG MC MR k) (hr : RgI RG MC MR) {n a : Int} (hn : 0 ≤ n ∧ n < MR 0 35) (ha : 0 ≤ a ∧ a < MR 0 12) (k3 : MR 12 a.toNat ≠ 3) :
    ∃ v MC' MR', f_X2_find n a 299 MC = some (v, MC') ∧ (∀ J : Int → Mm → Rs, (if MR 50 (6 * MR 36 n.toNat + a).toNat = 0 then Cl (f_X12_finds n a MR) J else J (MR 52 (6 * MR 36 n.toNat + a).toNat) MR) = J (pv MR v) MR') ∧ Inv RG MC' MR' k ∧ RgI RG MC' MR' ∧ (-3 ≤ v ∧ v < 1000 + MR 0 35) ∧ (∀ j, j ≤ 298 → MC' j = MC j) ∧ MC' 676 = MC 676 ∧ (∀ j, 1 ≤ j → j ≤ 49 → MR' j = MR j) ∧ (∀ i, i = 0 ∨ i = 12 ∨ i = 19 ∨ i = 35 ∨ i = 87 ∨ i = 79 → MR' 0 i = MR 0 i) := by
  obtain ⟨hp, hV, hR, V, H, b1, b2, b3⟩ := id hI
  obtain ⟨⟨p1, p2, p3, p4, p5⟩, ⟨q1, q2, q3, q4, q5⟩, q6, q7, p6⟩ := id hp
  obtain ⟨g1, g2, g3⟩ := hr
  have hP := p6.pl
  have h35 := p5.1
  have h12 := p1.2.1
  have hpn := (hP n.toNat (by omega)).1
  have hs180 : (6 * n + a).toNat < 180 := by omega
  have hd6 : (6 * n + a).toNat / 6 = n.toNat ∧ (6 * n + a).toNat % 6 = a.toNat := by omega
  have hs6 : (6 * n + a).toNat = 6 * n.toNat + a.toNat := by omega
  have hsl : f_X11_slotOf n a MC = some (6 * n + a, MC) := c_slotOf (by omega) (by omega) MC
  have hb := b3.2.1 n.toNat a.toNat (by omega) (by omega)
  have hk50 := b3.1 (6 * (MR 36 n.toNat).toNat + a.toNat) (by omega)
  have hck := b2 _ hs180
  have eix : (6 * MR 36 n.toNat + a).toNat = 6 * (MR 36 n.toNat).toNat + a.toNat := by omega
  have hob := b1 n.toNat a.toNat (by omega) (by omega)
  by_cases hz : H (6 * n + a).toNat = 0
  case neg =>
    generalize hM1 : up MC 310 12 299 = M1
    have m1 : ∀ j, j ≠ 310 → M1 j = MC j := fun j hj => by rw [← hM1, up_ne _ _ _ hj]
    have hz' : H (6 * n.toNat + a.toNat) ≠ 0 := by rw [← hs6]; exact hz
    have hI' : Inv RG M1 MR k := hI.of hRG k (fun _ _ => rfl) (fun _ _ => rfl) (fun j hj => m1 j (by omega)) (by rw [m1 273 (by decide)]) (by rw [← hM1]; simp [up])
    refine ⟨V (6 * n + a).toNat, M1, MR, ?_, fun J => ?_, hI', ⟨fun s hs => by rw [m1 309 (by decide)]; exact g1 s hs, g2, g3⟩, ?_, fun j hj => m1 j (by omega), m1 676 (by decide), fun _ _ _ => rfl, fun _ _ => rfl⟩
    · have e12 : M1 310 12 = ((299 : Nat) : Int) := by rw [← hM1, up_at]; rfl
      have hsl' : f_X11_slotOf n a MC = some (6 * n + a, MC) := hsl
      unfold f_X2_find
      simp only [LtE]
      rw [hsl', ClS]
      have hM1' : up MC 310 12 ((299 : Nat) : Int) = M1 := hM1
      have hh : f_X3_has 299 (6 * n + a) M1 = some (1, M1) := by
        have e301 : M1 (299 + 2) (6 * n + a).toNat ≠ 0 := by
          have : M1 (299 + 2) = MC 301 := m1 301 (by decide)
          rw [this, hck.1]; exact hz
        rw [c3_has, if_pos ⟨by omega, by omega, e301⟩]
      have hv : f_X3_valueOf 299 (6 * n + a) M1 = some (V (6 * n + a).toNat, M1) := by
        have e300 : M1 (299 + 1) (6 * n + a).toNat = V (6 * n + a).toNat := by
          have : M1 (299 + 1) = MC 300 := m1 300 (by decide)
          rw [this]; exact hck.2 hz
        rw [c3_valueOf, e300, if_pos ⟨by omega, by omega⟩]
      rw [hM1', e12, gdE ⟨by omega, by decide⟩, Int.toNat_natCast, hh, ClS, if_neg (by decide), e12, gdE ⟨by omega, by decide⟩, Int.toNat_natCast, hv, ClS]
    · rw [eix, if_neg (by rw [hb.1.mpr hz']; decide), (hb.2 hz').1, hs6]
    · have := (hob.2 hz').2.2.2.2.2
      rw [hs6]
      exact ⟨this.1, this.2.1⟩
  case pos =>
    have hz' : H (6 * n.toNat + a.toNat) = 0 := by rw [← hs6]; exact hz
    have e50 : MR 50 (6 * MR 36 n.toNat + a).toNat = 0 := by
      rw [eix]
      rcases hk50 with w | w
      · exact w
      · exact absurd hz' (hb.1.mp w)
    have hsplit : ∀ s : Nat, s < 180 → H s = H (6 * (s / 6) + s % 6) ∧ V s = V (6 * (s / 6) + s % 6) := fun s _ => by rw [show 6 * (s / 6) + s % 6 = s by omega]; exact ⟨rfl, rfl⟩
    have hbs : ∀ s : Nat, s < 180 → (0 ≤ H s ∧ H s < 2147483648) ∧ (H s ≠ 0 → ((s / 6 : Nat) : Int) < MR 0 35 ∧ ((s % 6 : Nat) : Int) < MR 0 12 ∧ MR 12 (s % 6) ≠ 3 ∧ bt (H s) (s / 6) = true ∧ (∀ i, bt (H s) i = true → (i : Int) < MR 0 35 ∨ i = 30) ∧ -3 ≤ V s ∧ V s < 1000 + MR 0 35 ∧ RfO MR (H s) (V s)) := fun s hs => by
      have := b1 (s / 6) (s % 6) (by omega) (by omega)
      rw [show 6 * (s / 6) + s % 6 = s by omega] at this
      exact this
    have hbd : BdO MR (MC 309) (MC 300) (MC 301) := ⟨fun s hs => by rw [g1 s hs]; exact g2 s hs, fun s hs hne => by
      have hc := b2 s hs
      rw [hc.1] at hne
      have := (hbs s hs).2 hne
      rw [hc.2 hne]
      exact ⟨this.2.2.2.2.2.1, this.2.2.2.2.2.2.1⟩⟩
    have hbh : BdH MR (MC 301) := fun s hs => by
      rw [(b2 s hs).1]
      refine ⟨(hbs s hs).1, fun i hi => ?_⟩
      exact ((hbs s hs).2 (bt_ne hi)).2.2.2.2.1 i hi
    have hOkF : OkF MR (MC 300) (MC 301) := fun s hs hne => by
      have hc := b2 s hs
      rw [hc.1] at hne ⊢
      have := (hbs s hs).2 hne
      rw [hc.2 hne]
      exact ⟨this.1, this.2.1, this.2.2.1, this.2.2.2.1, this.2.2.2.2.2.2.2⟩
    have hOr : OrR MR MR 0 (MC 309) (MC 300) (MC 301) [] := by
      intro m b m0 m1 b0 b1'
      have hpm := (hP m.toNat (by omega)).1
      have es : (6 * m + b).toNat = 6 * m.toNat + b.toNat := by omega
      have ei : (6 * MR 36 m.toNat + b).toNat = 6 * (MR 36 m.toNat).toNat + b.toNat := by omega
      have ei0 : (0 + 6 * MR 36 m.toNat + b).toNat = 6 * (MR 36 m.toNat).toNat + b.toNat := by omega
      have hbm := b3.2.1 m.toNat b.toNat (by omega) (by omega)
      have hkm := b3.1 (6 * (MR 36 m.toNat).toNat + b.toNat) (by omega)
      have hcm := b2 (6 * m + b).toNat (by omega)
      have hx := ixN_eq (S := MR) m0 ⟨b0, Int.lt_of_lt_of_le b1' h12.2⟩
      refine ⟨fun kb => ?_, ?_, fun kb => ⟨fun hh => ?_, fun hh => ?_⟩⟩
      · rw [g1 _ (by omega), ← hx.2.2]
        exact g3 _ (by omega) (by rw [hx.2.1]; omega) (by rw [hx.2.1]; exact kb)
      · rw [if_neg (fun q => (by cases q))]
        exact p6.2.2.1 _ (by omega)
      · rw [hcm.1, es] at hh
        rw [ei0]
        rcases hkm with w | w
        · exact w
        · exact absurd hh (hbm.1.mp w)
      · rw [hcm.1] at hh ⊢
        rw [hcm.2 hh, ei0]
        rw [es] at hh ⊢
        exact ⟨hbm.1.mpr hh, hbm.2 hh⟩
    have hRC : RestC MR MC 299 (MC 309) (MC 300) (MC 301) MC := ⟨⟨⟨q1, q3, hV⟩, q5⟩, fun _ _ _ => rfl, rfl, rfl, rfl, q6.2⟩
    have hRR : RestR MR 0 (MC 309) (MC 300) (MC 301) MR := ⟨Ag.refl _, rfl, rfl, p6.1, hOr⟩
    obtain ⟨c', MC', MR', l1, l2, l3, l4, l5, l6, l7, l8, l9, l10, l11⟩ := find_both p1 p3 p5 q3 hP (B := 0) (Or.inl rfl) (bk := 299) (Or.inl rfl) (rg := MC 309) (I := IvF MR) (fun s rest bv bh lf kk h1 h2 h3 _ h5 h6 h7 => IvF.crs_ p1 p3 p5 h1 h2 h3 h5 h6 h7) hn ha (by rw [hck.1]; exact hz) hbd hbh hRC (fun q => absurd q6.1 q) hRR ⟨fun y hy => by
      have : y = 6 * n + a := List.mem_singleton.mp hy
      rw [this, show (6 * n + a) % 6 = a by omega]; exact k3, hOkF⟩
    have lr := l3.rest l5
    have lR := l4.rest l5
    obtain ⟨c1, c2, c3, c4, c5, c6⟩ := lr
    obtain ⟨r1, r2, r3, r4, r5⟩ := lR
    have hbd' := l3.2.2.1
    have hbh' := l3.2.2.2.1
    have hOk' := l6.2
    have hs0 : ∀ i, i ≠ 67 → i ≠ 69 → i ≠ 72 → i ≠ 73 → i ≠ 74 → i ≠ 75 → i ≠ 76 → i ≠ 80 → MR' 0 i = MR 0 i := l8.2.2
    have hes : ∀ i, i = 0 ∨ i = 12 ∨ i = 14 ∨ i = 15 ∨ i = 19 ∨ i = 33 ∨ i = 35 ∨ i = 36 ∨ i = 87 ∨ i = 79 → MR' 0 i = MR 0 i := fun i hi => hs0 i (by omega) (by omega) (by omega) (by omega) (by omega) (by omega) (by omega) (by omega)
    have hrow : ∀ j, 1 ≤ j → j ≤ 49 → MR' j = MR j := fun j j1 j2 => l8.1 j (by omega) (by omega) (by omega)
    have m1 : ∀ j, j ≤ 298 ∨ j = 676 ∨ j = 309 → MC' j = MC j := fun j hj => l7.1 j (by omega) (by omega) (by omega) (by omega) (by omega) (by omega) (by omega)
    have hRG2 : RG MR' = RG MR := hRG MR MR' (fun j j1 j2 _ => hrow j j1 (by omega)) fun i hi => hes i (by omega)
    have hRP : RP MR' := by
      refine ⟨r4, by rw [hes 79 (by simp)]; exact p6.2.1, fun i hi => ?_, by rw [hes 35 (by simp), r3]; exact hP⟩
      by_cases c : ∃ m b : Int, 0 ≤ m ∧ m < MR 0 35 ∧ 0 ≤ b ∧ b < MR 0 12 ∧ i = ixR MR 0 m b
      · obtain ⟨m, b, x1, x2, x3, x4, x5⟩ := c
        have := (r5 m b x1 x2 x3 x4).2.1
        rw [if_neg (fun q => (by cases q))] at this
        rw [x5]
        exact this
      · rw [l8.2.1 51 ⟨by decide, by decide⟩ i fun m b x1 x2 x3 x4 _ x5 => c ⟨m, b, x1, x2, x3, x4, x5⟩]
        exact p6.2.2.1 i hi
    have hkp : ∀ i, (∀ m b : Int, 0 ≤ m → m < MR 0 35 → 0 ≤ b → b < MR 0 12 → MR 12 b.toNat ≠ 3 → i ≠ ixR MR 0 m b) → MR' 50 i = MR 50 i := fun i hi => l8.2.1 50 ⟨by decide, by decide⟩ i fun m b x1 x2 x3 x4 x5 x6 => hi m b x1 x2 x3 x4 (x5.resolve_left (by decide)) x6
    have hBk : Bks MC' MR' := by
      refine ⟨c'.2.1, c'.2.2.1, fun m b hm hb6 => ?_, fun s hs => ⟨by rw [c5], fun _ => by rw [c4]⟩, fun q hq => ?_, fun m b hm hb6 => ?_, fun q b hq hb6 hno => ?_⟩
      · have hh := hbh' (6 * m + b) (by omega)
        refine ⟨hh.1, fun hne => ?_⟩
        have ho := hOk' (6 * m + b) (by omega) hne
        have hv := hbd'.2 (6 * m + b) (by omega) hne
        rw [show (6 * m + b) / 6 = m by omega, show (6 * m + b) % 6 = b by omega] at ho
        rw [hes 35 (by simp), hes 12 (by simp), hrow 12 (by decide) (by decide), hrow 32 (by decide) (by decide)]
        exact ⟨ho.1, ho.2.1, ho.2.2.1, ho.2.2.2.1, hh.2, hv.1, hv.2, ho.2.2.2.2⟩
      · by_cases c : ∃ m b : Int, 0 ≤ m ∧ m < MR 0 35 ∧ 0 ≤ b ∧ b < MR 0 12 ∧ MR 12 b.toNat ≠ 3 ∧ q = ixR MR 0 m b
        · obtain ⟨m, b, x1, x2, x3, x4, x5, x6⟩ := c
          have := (r5 m b x1 x2 x3 x4).2.2 x5
          rw [x6]
          by_cases hh : c'.2.2.1 (6 * m + b).toNat = 0
          · exact Or.inl (this.1 hh)
          · exact Or.inr (this.2 hh).1
        · rw [hkp q fun m b x1 x2 x3 x4 x5 x6 => c ⟨m, b, x1, x2, x3, x4, x5, x6⟩]
          exact b3.1 q hq
      · rw [hes 35 (by simp)] at hm
        have hpm := (hP m hm).1
        rw [r3]
        have ei0 : (0 + 6 * MR 36 ((m : Int)).toNat + (b : Int)).toNat = 6 * (MR 36 m).toNat + b := by rw [Int.toNat_natCast]; omega
        have es : (6 * (m : Int) + (b : Int)).toNat = 6 * m + b := by omega
        by_cases cb : (b : Int) < MR 0 12 ∧ MR 12 b ≠ 3
        · have := (r5 m b (by omega) hm (by omega) cb.1).2.2 (by rw [Int.toNat_natCast]; exact cb.2)
          rw [ei0, es] at this
          refine ⟨⟨fun q hh => ?_, fun hh => (this.2 hh).1⟩, fun hh => ?_⟩
          · rw [this.1 hh] at q; cases q
          · have ht := (this.2 hh).2
            unfold HR at ht ⊢
            rw [pv_ag r3, hes 35 (by simp), r3]
            exact ht
        · have hH0 : c'.2.2.1 (6 * m + b) = 0 := by
            by_cases hh : c'.2.2.1 (6 * m + b) = 0
            · exact hh
            · have ho := hOk' (6 * m + b) (by omega) hh
              rw [show (6 * m + b) / 6 = m by omega, show (6 * m + b) % 6 = b by omega] at ho
              exact absurd ⟨ho.2.1, ho.2.2.1⟩ cb
          have hO0 : H (6 * m + b) = 0 := by
            by_cases hh : H (6 * m + b) = 0
            · exact hh
            · have ho := (b1 m b (by omega) hb6).2 hh
              exact absurd ⟨ho.2.1, ho.2.2.1⟩ cb
          have e5 : MR' 50 (6 * (MR 36 m).toNat + b) = MR 50 (6 * (MR 36 m).toNat + b) := hkp _ fun m' b' x1 x2 x3 x4 x5 x6 => by
            have hp' := (hP m'.toNat (by omega)).1
            unfold ixR at x6
            have y : b' = b := by omega
            subst y
            rw [Int.toNat_natCast] at x5
            exact cb ⟨x4, x5⟩
          have := (b3.2.1 m b hm hb6).1
          rw [e5]
          exact ⟨⟨fun q => absurd hO0 (this.mp q), fun q => absurd hH0 q⟩, fun q => absurd hH0 q⟩
      · rw [hes 35 (by simp), r3] at hno
        rw [hkp _ fun m' b' x1 x2 x3 x4 x5 x6 => ?_]
        · exact b3.2.2 q b hq hb6 hno
        · have hp' := (hP m'.toNat (by omega)).1
          unfold ixR at x6
          exact hno m'.toNat (by omega) (by omega)
    have h309 : ∀ s, s < 180 → MC' 309 s = RG MR' s := fun s hs => by rw [m1 309 (by simp), hRG2]; exact g1 s hs
    have hv := hbd'.2 _ hs180 l9
    refine ⟨c'.2.1 (6 * n + a).toNat, MC', MR', l1, fun J => by rw [if_pos e50, l2, ClS], ?_, ⟨h309, by rw [hRG2]; exact g2, fun s s1 s2 s3 => ?_⟩, hv, fun j hj => m1 j (by omega), m1 676 (by simp), hrow, fun i hi => hes i (by omega)⟩
    · refine hI.re k (fun j hj => hrow j hj.1 (by omega)) (fun i hi => hes i (by omega)) (fun j hj => m1 j (by omega)) ⟨l10 k3 rfl q7.1, (l11 q7.2).1⟩ ⟨?_, c6⟩ hRP (Or.inr h309) hBk
      rw [l7.2.1 11 (by decide) (by decide) (by decide) (by decide)]; exact q6.1
    · rw [hes 35 (by simp)] at s1
      rw [hes 12 (by simp)] at s2
      rw [hrow 12 (by decide) (by decide)] at s3
      rw [hRG2, show ixN MR' s = ixN MR s by unfold ixN; rw [r3], l8.1 55 (by decide) (by decide) (by decide)]
      exact g3 s s1 s2 s3
/-! a value as it is told -/
theorem r_told {S M : Mm} (hP : PlO S) (e35 : M 0 35 = S 0 35) (e36 : M 36 = S 36) (h35 : 0 ≤ S 0 35 ∧ S 0 35 ≤ 30) {v : Int} (hv : v < 1000 + S 0 35) : f_X12_told (pv S v) M = some (v, M) := by
  unfold f_X12_told
  simp only [LtE]
  have hpn := (pv_neg hP hv).2
  by_cases c : 1000 ≤ v
  · have hp := (hP (v - 1000).toNat (by omega)).1
    have e : pv S v = 1000 + S 36 (v - 1000).toNat := by unfold pv; rw [if_neg (by omega)]
    rw [if_pos (hpn.mpr c), e, wrE (by omega) (by omega), show 1000 + S 36 (v - 1000).toNat - 1000 = S 36 (v - 1000).toNat by omega, r_nodeAt hP e35 e36 h35 (m := v - 1000) (by omega), ClS, wrE (by omega) (by omega), show 1000 + (v - 1000) = v by omega]
  · rw [if_neg (fun q => c (hpn.mp q)), pv_lo (by omega)]
/-- the class finds with what is kept; the reference keeps -/
theorem keeps_both {RG : Mm → Nat → Int} (hRG : RGok RG) (hRs : RGs RG) {MC MR : Mm} {k : Nat} (hI : Inv RG MC MR k) {n a : Int} (hn : 0 ≤ n ∧ n < MR 0 35) (ha : 0 ≤ a ∧ a < MR 0 12) :
    ∃ v M3 MC' MR', f_X7_settle MC = some (0, M3) ∧ f_X11_foundWith n a 299 M3 = some (v, MC') ∧ f_X12_keeps n a MR = some (pv MR v, MR') ∧ Inv RG MC' MR' k ∧ (-3 ≤ v ∧ v < 1000 + MR 0 35) ∧ (∀ j, j ≤ 298 → M3 j = MC j) ∧ (∀ j, j ≤ 298 → MC' j = MC j) ∧ (∀ j, 1 ≤ j → j ≤ 49 → MR' j = MR j) ∧ (∀ i, i = 0 ∨ i = 12 ∨ i = 19 ∨ i = 35 ∨ i = 87 ∨ i = 79 → MR' 0 i = MR 0 i) := by
  obtain ⟨M3, N3, s1, s2, s3, s4, s5, s6, s7⟩ := settle_inv hRG hRs hI
  have hp3 := s3.1
  obtain ⟨⟨p1, p2, p3, p4, p5⟩, ⟨q1, q2, q3, q4, q5⟩, q6, q7, p6⟩ := id hp3
  have hP := p6.pl
  have h12 := p1.2.1
  have h35 := p5.1
  rw [← s7 35 (by simp)] at hn
  rw [← s7 12 (by simp)] at ha
  have e36 : N3 36 = MR 36 := s6 36 (by decide) (by decide)
  have hpn := (hP n.toNat (by omega)).1
  have hkc : f_X5_kindOf a M3 = some (N3 12 a.toNat, M3) := by rw [c_kindOf, if_pos ⟨ha.1, by rw [q1.2.1]; exact ha.2, by omega⟩, q1.2.2.1 a ha.1 ha.2]
  by_cases k3 : N3 12 a.toNat = 3
  · have hx := ixN_eq (S := N3) hn.1 ⟨ha.1, Int.lt_of_lt_of_le ha.2 h12.2⟩
    have hv := s4.2.1 (6 * n + a).toNat (by omega)
    have h55 := s4.2.2 (6 * n + a).toNat (by omega) (by rw [hx.2.1]; omega) (by rw [hx.2.1]; exact k3)
    rw [hx.2.2] at h55
    refine ⟨RG N3 (6 * n + a).toNat, M3, M3, N3, s1, ?_, ?_, s3, ⟨hv.1, by rw [← s7 35 (by simp)]; omega⟩, fun j hj => s5 j (by omega), fun j hj => s5 j (by omega), s6, s7⟩
    · unfold f_X11_foundWith
      rw [hkc, ClS, if_neg (fun q => q k3), c_slotOf (by omega) (by omega), ClS]
      unfold f_X7_valueOf
      rw [c_entryOf_in 180 alenC_309 (by omega) (by omega), ClS, ClS, s4.1 _ (by omega)]
    · unfold f_X12_keeps
      simp only [LtE]
      rw [s2, ClS, gdE (by omega), if_neg (fun q => q k3), gdE (by omega), wrE (v := 6 * N3 36 n.toNat) (by omega) (by omega), wrE (by omega) (by omega), gdE (by omega), h55, pv_lo hv.2]
  · obtain ⟨v, MC', MR', f1, f2, f3, f4, f5, f6, f7, f8, f9⟩ := find_inv hRG s3 s4 hn ha k3
    have hAt := r_at (S := N3) (M := N3) hP (Or.inl rfl) rfl p6.1 h35.2 hn ⟨ha.1, by omega⟩
    refine ⟨v, M3, MC', MR', s1, ?_, ?_, f3, ⟨f5.1, by rw [← s7 35 (by simp)]; exact f5.2⟩, fun j hj => s5 j (by omega), fun j hj => by rw [f6 j hj]; exact s5 j (by omega), fun j j1 j2 => by rw [f8 j j1 j2]; exact s6 j j1 j2, fun i hi => by rw [f9 i hi]; exact s7 i hi⟩
    · unfold f_X11_foundWith
      rw [hkc, ClS, if_pos k3, f1, ClS]
    · unfold f_X12_keeps
      simp only [LtE]
      rw [s2, ClS, gdE (by omega), if_pos k3, hAt.1, ClS, gdE hAt.2, gdE hAt.2]
      have e0 : 0 + 6 * N3 36 n.toNat + a = 6 * N3 36 n.toNat + a := by omega
      rw [e0, ← pv_ag e36]
      exact f2 fun v' M' => some (v', M')
theorem s_value {RG : Mm → Nat → Int} (hRG : RGok RG) (hRs : RGs RG) : S_value (Inv RG) := by
  intro MC MR k n a i1 i2 hI hk
  obtain ⟨hp, hV, hR, V, H, b1, b2, b3⟩ := id hI
  obtain ⟨⟨p1, p2, p3, p4, p5⟩, ⟨q1, q2, q3, q4, q5⟩, q6, q7, p6⟩ := id hp
  have hA := p1.2.1
  have hN := p5.1
  by_cases h : (0 ≤ n ∧ n < MR 0 35) ∧ (0 ≤ a ∧ a < MR 0 12)
  case neg =>
    refine ⟨(1, 0, MC), (0, up MR 0 87 1), ?_, ?_, by simp, by simp [up], by simp, hI.thr hRG _ _⟩
    · unfold f_X11_value; rw [g_mustNode q5]
      by_cases h1 : 0 ≤ n ∧ n < MR 0 35
      · rw [if_pos h1, g_mustAttr q1, if_neg (fun q => h ⟨h1, q⟩)]
      · rw [if_neg h1]
    · unfold f_X12_value f_X12_isPair; simp only [LtE]
      rw [r_isNode hN, ClS]
      by_cases h1 : 0 ≤ n ∧ n < MR 0 35
      · rw [if_pos h1, if_neg (by decide), r_isAttribute hA, ClS, if_neg (fun q => h ⟨h1, q⟩), if_pos rfl, ClS, if_pos rfl, r_fails, ClS, if_neg (by decide)]
      · rw [if_neg h1, if_pos rfl, ClS, if_pos rfl, r_fails, ClS, if_neg (by decide)]
  obtain ⟨h1, h2⟩ := h
  have hI0 := hI.thr hRG (k + 1) 0
  have e0 : ∀ i, i ≠ 87 → up MR 0 87 0 0 i = MR 0 i := fun i hi => by simp [up, hi]
  have er : ∀ j, j ≠ 0 → up MR 0 87 0 j = MR j := fun j hj => up_ne _ _ _ hj
  obtain ⟨v, M3, MC', MR', f1, f2, f3, f4, f5, f6, f7, f8, f9⟩ := keeps_both hRG hRs hI0 (n := n) (a := a) (by rw [e0 35 (by decide)]; exact h1) (by rw [e0 12 (by decide)]; exact h2)
  refine ⟨(0, v, MC'), (v, MR'), ?_, ?_, by simp, ?_, fun _ => rfl, f4⟩
  · unfold f_X11_value
    rw [g_mustNode q5, if_pos h1, g_mustAttr q1, if_pos h2]
    show Cl (f_X7_settle MC) _ = _
    rw [f1, ClS, f2, ClS]
  · unfold f_X12_value f_X12_isPair; simp only [LtE]
    rw [r_isNode hN, ClS, if_pos h1, if_neg (by decide), r_isAttribute hA, ClS, if_pos h2, if_neg (by decide), ClS, if_neg (by decide), r_fails, ClS, if_pos (by decide)]
    rw [f3, ClS, r_told (S := up MR 0 87 0) (by have := p6.pl; unfold PlO at this ⊢; rw [e0 35 (by decide), er 36 (by decide)]; exact this) (f9 35 (by simp)) (f8 36 (by decide) (by decide)) (by rw [e0 35 (by decide)]; exact hN) f5.2, ClS]
  · simp only
    rw [f9 87 (by simp), up_at]; rfl
