/-! the class finds: what it is; the reference goes along -/
theorem settle24 {RG : Mm → Nat → Int} (hRG : RGok RG) (hRs : RGs RG) {MC MR : Mm} {k : Nat} (hI : Inv RG MC MR k) :
    ∃ MC' MR', f_X7_settle MC = some (0, MC') ∧ f_X12_findsRings MR = some (0, MR') ∧ Inv RG MC' MR' k ∧ RgI RG MC' MR' ∧ (∀ j, j ≤ 303 → MC' j = MC j) ∧ (∀ j, 1 ≤ j → j ≤ 49 → MR' j = MR j) ∧ (∀ i, i = 0 ∨ i = 12 ∨ i = 19 ∨ i = 35 ∨ i = 87 ∨ i = 79 → MR' 0 i = MR 0 i) := by
  obtain ⟨hp, hV, hR, hBk⟩ := id hI
  obtain ⟨⟨p1, p2, p3, p4, p5⟩, ⟨q1, q2, q3, q4, q5⟩, q6, q7, p6⟩ := id hp
  have hP := p6.pl
  have h35 := p5.1
  generalize hM0 : up MC 676 6 0 = MC0
  have m0 : ∀ j, j ≠ 676 → MC0 j = MC j := fun j hj => by rw [← hM0, up_ne _ _ _ hj]
  have hSC : SC MC MR := ⟨⟨q1, q3, hV⟩, q5⟩
  obtain ⟨out, ra', MC1, MR1, a1, a2, a3, a4, a5, a6, a7, a8, a9, a10⟩ := settle_both (S := MR) (C := MC) p1 p3 p5 q3 hP (MC := MC0) (MR := MR) (by rw [← hM0, up_at]) (hSC.of p3 fun j hj => m0 j (by omega)) (fun j j1 j2 => m0 j (by omega)) (fun s hs => by rw [m0 313 (by decide)]; exact q6.2 s hs) (by rw [m0 310 (by decide)]; exact q6.1) (Ag.refl _) rfl rfl p6.2.2.1 q7.2
  have hout : RG MR = out := hRs MR out h35.2 a1
  obtain ⟨c1, c2, c3, c4, c5, c6⟩ := a6
  obtain ⟨r1, r2, r3, r4, r5, r6⟩ := a7
  generalize hN : up MR1 0 68 0 = MR2 at a5
  have n2 : ∀ j, j ≠ 0 → MR2 j = MR1 j := fun j hj => by rw [← hN, up_ne _ _ _ hj]
  have n20 : ∀ i, i ≠ 68 → MR2 0 i = MR1 0 i := fun i hi => by rw [← hN]; simp [up, hi]
  have hrow : ∀ j, 1 ≤ j → j ≤ 49 → MR2 j = MR j := fun j j1 j2 => by rw [n2 j (by omega), a9.1 j (by omega) (by omega)]
  have hs0 : ∀ i, i ≠ 67 → i ≠ 68 → i ≠ 69 → i ≠ 72 → i ≠ 73 → i ≠ 74 → i ≠ 75 → i ≠ 76 → i ≠ 80 → MR2 0 i = MR 0 i := fun i a b c d e f g h k => by rw [n20 i b, a9.2.2 i a b c d e f g h k]
  have e67 : MR2 0 67 = MR 0 67 := by rw [n20 67 (by decide), a10]
  have hRG2 : RG MR2 = RG MR := hRG MR MR2 (fun j j1 j2 _ => hrow j j1 (by omega)) fun i hi => hs0 i (by omega) (by omega) (by omega) (by omega) (by omega) (by omega) (by omega) (by omega) (by omega)
  have hRP : RP MR2 := ⟨by rw [← hN, up_at], by rw [hs0 79 (by decide) (by decide) (by decide) (by decide) (by decide) (by decide) (by decide) (by decide) (by decide)]; exact p6.2.1, fun i hi => by rw [n2 51 (by decide)]; exact r4 i hi, by rw [hs0 35 (by decide) (by decide) (by decide) (by decide) (by decide) (by decide) (by decide) (by decide) (by decide), hrow 36 (by decide) (by decide)]; exact hP⟩
  have hring : ∀ s : Nat, s < 6 * (MR2 0 35).toNat → ((s % 6 : Nat) : Int) < MR2 0 12 → MR2 12 (s % 6) = 3 → MR2 55 (ixN MR2 s) = RG MR2 s := fun s s1 s2 s3 => by
    rw [hs0 35 (by decide) (by decide) (by decide) (by decide) (by decide) (by decide) (by decide) (by decide) (by decide)] at s1
    rw [hs0 12 (by decide) (by decide) (by decide) (by decide) (by decide) (by decide) (by decide) (by decide) (by decide)] at s2
    rw [hrow 12 (by decide) (by decide)] at s3
    rw [hRG2, hout, n2 55 (by decide), ← a2 s (by omega), show ixN MR2 s = ixN MR s by unfold ixN; rw [hrow 36 (by decide) (by decide)]]
    exact r5 s s1 s2 s3
  have hbd : ∀ s, s < 180 → -3 ≤ RG MR2 s ∧ RG MR2 s < 1000 := fun s hs => by rw [hRG2, hout]; exact a3 s hs
  have hes : ∀ i, i = 0 ∨ i = 12 ∨ i = 14 ∨ i = 15 ∨ i = 19 ∨ i = 33 ∨ i = 35 ∨ i = 36 ∨ i = 87 ∨ i = 79 → MR2 0 i = MR 0 i := fun i hi => hs0 i (by omega) (by omega) (by omega) (by omega) (by omega) (by omega) (by omega) (by omega) (by omega)
  have hbk : ∀ MC', MC' 300 = MC 300 → MC' 301 = MC 301 → Bks MC' MR2 := fun MC' e0 e1 => Bks.of hBk hP e0 e1 (hes 35 (by simp)) (hes 12 (by simp)) (fun j hj => hrow j (by omega) (by omega)) (fun j hj i hi => by rw [n2 j (by omega), a9.2.1 j (by omega) i hi])
  by_cases h6 : MC 676 6 = 0
  · have eM : MC0 = MC := by rw [← hM0, up_self h6]
    rw [eM] at a4 a8
    have m1 : ∀ j, j < 304 ∨ j = 676 → MC1 j = up MC 676 6 1 j := fun j hj => a8 j (by omega) (by omega) (by omega) (by omega) (by omega) (by omega) (by omega)
    have m2 : ∀ j, j < 304 → MC1 j = MC j := fun j hj => by rw [m1 j (by omega), up_ne _ _ _ (by omega)]
    have h309 : ∀ s, s < 180 → MC1 309 s = RG MR2 s := fun s hs => by rw [c3, a2 s hs, hRG2, hout]
    refine ⟨MC1, MR2, a4, a5, ?_, ⟨h309, hbd, hring⟩, fun j hj => m2 j (by omega), hrow, fun i hi => hes i (by omega)⟩
    exact hI.re k (fun j hj => hrow j hj.1 (by omega)) (fun i hi => hes i (by omega)) (fun j hj => m2 j (by omega)) (by rw [m2 299 (by decide), e67]; exact q7) ⟨c5, c4⟩ hRP (Or.inr h309) (hbk _ (m2 300 (by decide)) (m2 301 (by decide)))
  · have h309 : ∀ s, s < 180 → MC 309 s = RG MR2 s := fun s hs => by rw [hRG2]; exact (hR.resolve_left h6) s hs
    refine ⟨MC, MR2, ?_, a5, ?_, ⟨h309, hbd, hring⟩, fun _ _ => rfl, hrow, fun i hi => hes i (by omega)⟩
    · unfold f_X7_settle
      simp only [LtE]
      rw [if_neg h6]
    · exact hI.re k (fun j hj => hrow j hj.1 (by omega)) (fun i hi => hes i (by omega)) (fun j hj => rfl) (by rw [e67]; exact q7) q6 hRP (Or.inr h309) (hbk _ rfl rfl)

theorem find24 {RG : Mm → Nat → Int} (hRG : RGok RG) {MC MR : Mm} {k : Nat} (hI : Inv RG MC MR k) (hr : RgI RG MC MR) (hK : KpO MR (RG MR) [] (MC 300) (MC 301)) {n a : Int} (hn : 0 ≤ n ∧ n < MR 0 35) (ha : 0 ≤ a ∧ a < MR 0 12) (k3 : MR 12 a.toNat ≠ 3) :
    ∃ v MC' MR', f_X2_find n a 299 MC = some (v, MC') ∧ (∀ J : Int → Mm → Rs, (if MR 50 (6 * MR 36 n.toNat + a).toNat = 0 then Cl (f_X12_finds n a MR) J else J (MR 52 (6 * MR 36 n.toNat + a).toNat) MR) = J (pv MR v) MR') ∧ Inv RG MC' MR' k ∧ RgI RG MC' MR' ∧ (-3 ≤ v ∧ v < 1000 + MR 0 35) ∧ (∀ j, j ≤ 298 → MC' j = MC j) ∧ MC' 676 = MC 676 ∧ (∀ j, 1 ≤ j → j ≤ 49 → MR' j = MR j) ∧ (∀ i, i = 0 ∨ i = 12 ∨ i = 19 ∨ i = 35 ∨ i = 87 ∨ i = 79 → MR' 0 i = MR 0 i) ∧ v = Vs MR (RG MR) (6 * n + a).toNat ∧ KpO MR (RG MR) [] (MC' 300) (MC' 301) ∧ MC' 301 (6 * n + a).toNat ≠ 0 ∧ (MC 301 (6 * n + a).toNat ≠ 0 → MC' 299 0 = MC 299 0) ∧ (MC 301 (6 * n + a).toNat = 0 → ∃ d : Nat, 1 ≤ d ∧ d ≤ 400 ∧ (0 ≤ MC 299 0 → MC 299 0 ≤ 900000000 → MC' 299 0 = MC 299 0 + d)) := by
  obtain ⟨hp, hV, hR, V, H, b1, b2, b3⟩ := id hI
  obtain ⟨⟨p1, p2, p3, p4, p5⟩, ⟨q1, q2, q3, q4, q5⟩, q6, q7, p6⟩ := id hp
  obtain ⟨g1, g2, g3⟩ := hr
  have hP := p6.pl
  have h35 := p5.1
  have h12 := p1.2.1
  have hpn := (hP n.toNat (by omega)).1
  have hs180 : (6 * n + a).toNat < 180 := by omega
  have hd6 : (6 * n + a).toNat / 6 = n.toNat ∧ (6 * n + a).toNat % 6 = a.toNat := by omega
  have hs6 : (6 * n + a).toNat = 6 * n.toNat + a.toNat := by omega
  have hsl : f_X11_slotOf n a MC = some (6 * n + a, MC) := c_slotOf (by omega) (by omega) MC
  have hb := b3.2.1 n.toNat a.toNat (by omega) (by omega)
  have hk50 := b3.1 (6 * (MR 36 n.toNat).toNat + a.toNat) (by omega)
  have hck := b2 _ hs180
  have eix : (6 * MR 36 n.toNat + a).toNat = 6 * (MR 36 n.toNat).toNat + a.toNat := by omega
  have hob := b1 n.toNat a.toNat (by omega) (by omega)
  by_cases hz : H (6 * n + a).toNat = 0
  case neg =>
    generalize hM1 : up MC 310 12 299 = M1
    have m1 : ∀ j, j ≠ 310 → M1 j = MC j := fun j hj => by rw [← hM1, up_ne _ _ _ hj]
    have hz' : H (6 * n.toNat + a.toNat) ≠ 0 := by rw [← hs6]; exact hz
    have hI' : Inv RG M1 MR k := hI.of hRG k (fun _ _ => rfl) (fun _ _ => rfl) (fun j hj => m1 j (by omega)) (by rw [m1 273 (by decide)]) (by rw [← hM1]; simp [up])
    have h301 : MC 301 (6 * n + a).toNat ≠ 0 := by rw [hck.1]; exact hz
    refine ⟨V (6 * n + a).toNat, M1, MR, ?_, fun J => ?_, hI', ⟨fun s hs => by rw [m1 309 (by decide)]; exact g1 s hs, g2, g3⟩, ?_, fun j hj => m1 j (by omega), m1 676 (by decide), fun _ _ _ => rfl, fun _ _ => rfl, ?_, ?_, ?_, fun _ => by rw [m1 299 (by decide)], fun q => absurd q h301⟩
    rotate_left 3
    · rw [← hck.2 hz]; exact (hK _ hs180 h301).2.1
    · rw [m1 300 (by decide), m1 301 (by decide)]; exact hK
    · rw [m1 301 (by decide)]; exact h301
    · have e12 : M1 310 12 = ((299 : Nat) : Int) := by rw [← hM1, up_at]; rfl
      have hsl' : f_X11_slotOf n a MC = some (6 * n + a, MC) := hsl
      unfold f_X2_find
      simp only [LtE]
      rw [hsl', ClS]
      have hM1' : up MC 310 12 ((299 : Nat) : Int) = M1 := hM1
      have hh : f_X3_has 299 (6 * n + a) M1 = some (1, M1) := by
        have e301 : M1 (299 + 2) (6 * n + a).toNat ≠ 0 := by
          have : M1 (299 + 2) = MC 301 := m1 301 (by decide)
          rw [this, hck.1]; exact hz
        rw [c3_has, if_pos ⟨by omega, by omega, e301⟩]
      have hv : f_X3_valueOf 299 (6 * n + a) M1 = some (V (6 * n + a).toNat, M1) := by
        have e300 : M1 (299 + 1) (6 * n + a).toNat = V (6 * n + a).toNat := by
          have : M1 (299 + 1) = MC 300 := m1 300 (by decide)
          rw [this]; exact hck.2 hz
        rw [c3_valueOf, e300, if_pos ⟨by omega, by omega⟩]
      rw [hM1', e12, gdE ⟨by omega, by decide⟩, Int.toNat_natCast, hh, ClS, if_neg (by decide), e12, gdE ⟨by omega, by decide⟩, Int.toNat_natCast, hv, ClS]
    · rw [eix, if_neg (by rw [hb.1.mpr hz']; decide), (hb.2 hz').1, hs6]
    · have := (hob.2 hz').2.2.2.2.2
      rw [hs6]
      exact ⟨this.1, this.2.1⟩
  case pos =>
    have hz' : H (6 * n.toNat + a.toNat) = 0 := by rw [← hs6]; exact hz
    have e50 : MR 50 (6 * MR 36 n.toNat + a).toNat = 0 := by
      rw [eix]
      rcases hk50 with w | w
      · exact w
      · exact absurd hz' (hb.1.mp w)
    have hsplit : ∀ s : Nat, s < 180 → H s = H (6 * (s / 6) + s % 6) ∧ V s = V (6 * (s / 6) + s % 6) := fun s _ => by rw [show 6 * (s / 6) + s % 6 = s by omega]; exact ⟨rfl, rfl⟩
    have hbs : ∀ s : Nat, s < 180 → (0 ≤ H s ∧ H s < 2147483648) ∧ (H s ≠ 0 → ((s / 6 : Nat) : Int) < MR 0 35 ∧ ((s % 6 : Nat) : Int) < MR 0 12 ∧ MR 12 (s % 6) ≠ 3 ∧ bt (H s) (s / 6) = true ∧ (∀ i, bt (H s) i = true → (i : Int) < MR 0 35 ∨ i = 30) ∧ -3 ≤ V s ∧ V s < 1000 + MR 0 35 ∧ RfO MR (H s) (V s)) := fun s hs => by
      have := b1 (s / 6) (s % 6) (by omega) (by omega)
      rw [show 6 * (s / 6) + s % 6 = s by omega] at this
      exact this
    have hbd : BdO MR (MC 309) (MC 300) (MC 301) := ⟨fun s hs => by rw [g1 s hs]; exact g2 s hs, fun s hs hne => by
      have hc := b2 s hs
      rw [hc.1] at hne
      have := (hbs s hs).2 hne
      rw [hc.2 hne]
      exact ⟨this.2.2.2.2.2.1, this.2.2.2.2.2.2.1⟩⟩
    have hbh : BdH MR (MC 301) := fun s hs => by
      rw [(b2 s hs).1]
      refine ⟨(hbs s hs).1, fun i hi => ?_⟩
      exact ((hbs s hs).2 (bt_ne hi)).2.2.2.2.1 i hi
    have hOkF : OkF MR (MC 300) (MC 301) := fun s hs hne => by
      have hc := b2 s hs
      rw [hc.1] at hne ⊢
      have := (hbs s hs).2 hne
      rw [hc.2 hne]
      exact ⟨this.1, this.2.1, this.2.2.1, this.2.2.2.1, this.2.2.2.2.2.2.2⟩
    have hOr : OrR MR MR 0 (MC 309) (MC 300) (MC 301) [] := by
      intro m b m0 m1 b0 b1'
      have hpm := (hP m.toNat (by omega)).1
      have es : (6 * m + b).toNat = 6 * m.toNat + b.toNat := by omega
      have ei : (6 * MR 36 m.toNat + b).toNat = 6 * (MR 36 m.toNat).toNat + b.toNat := by omega
      have ei0 : (0 + 6 * MR 36 m.toNat + b).toNat = 6 * (MR 36 m.toNat).toNat + b.toNat := by omega
      have hbm := b3.2.1 m.toNat b.toNat (by omega) (by omega)
      have hkm := b3.1 (6 * (MR 36 m.toNat).toNat + b.toNat) (by omega)
      have hcm := b2 (6 * m + b).toNat (by omega)
      have hx := ixN_eq (S := MR) m0 ⟨b0, Int.lt_of_lt_of_le b1' h12.2⟩
      refine ⟨fun kb => ?_, ?_, fun kb => ⟨fun hh => ?_, fun hh => ?_⟩⟩
      · rw [g1 _ (by omega), ← hx.2.2]
        exact g3 _ (by omega) (by rw [hx.2.1]; omega) (by rw [hx.2.1]; exact kb)
      · rw [if_neg (fun q => (by cases q))]
        exact p6.2.2.1 _ (by omega)
      · rw [hcm.1, es] at hh
        rw [ei0]
        rcases hkm with w | w
        · exact w
        · exact absurd hh (hbm.1.mp w)
      · rw [hcm.1] at hh ⊢
        rw [hcm.2 hh, ei0]
        rw [es] at hh ⊢
        exact ⟨hbm.1.mpr hh, hbm.2 hh⟩
    have hz301 : MC 301 (6 * n + a).toNat = 0 := by rw [hck.1]; exact hz
    have hrb : RgB (RG MR) := g2
    have hsv : ∀ s, s < 180 → MC 301 s ≠ 0 → SlV MR s := fun s hs hne => by
      rw [(b2 s hs).1] at hne
      have := (hbs s hs).2 hne
      exact ⟨this.1, this.2.1⟩
    have hkd : ∀ y ∈ [6 * n + a], MR 12 (y % 6).toNat ≠ 3 := fun y hy => by
      have : y = 6 * n + a := List.mem_singleton.mp hy
      rw [this, show (6 * n + a) % 6 = a by omega]; exact k3
    have hI0 : ISem MR (MC 309) (6 * n + a).toNat ([6 * n + a], MC 300, MC 301, [], 0) := by
      refine ⟨⟨fun y r' e => (by cases e), trivial⟩, hkd, fun s hs hne => ?_, fun _ => ?_, fun q => (by cases q)⟩
      · obtain ⟨w1, w2, w3, w4⟩ := KpO_rg p1 p3 p5 hrb g1 hsv hK s hs hne
        exact ⟨w1, w2, fun x hx => ⟨(w3 x hx).1, (w3 x hx).2.imp id fun z => z.imp id fun z => (by cases z)⟩, w4⟩
      · show some (6 * n + a) = some (((6 * n + a).toNat : Nat) : Int)
        rw [Int.toNat_of_nonneg (by omega)]
    have hRC : RestC MR MC 299 (MC 309) (MC 300) (MC 301) MC := ⟨⟨⟨q1, q3, hV⟩, q5⟩, fun _ _ _ => rfl, rfl, rfl, rfl, q6.2⟩
    have hRR : RestR MR 0 (MC 309) (MC 300) (MC 301) MR := ⟨Ag.refl _, rfl, rfl, p6.1, hOr⟩
    obtain ⟨c', MC', MR', l1, l2, l3, l4, l5, l6, l7, l8, l9, l10, l11⟩ := find_both p1 p3 p5 q3 hP (B := 0) (Or.inl rfl) (bk := 299) (Or.inl rfl) (rg := MC 309) (I := fun c => IvF MR c ∧ ISem MR (MC 309) (6 * n + a).toNat c) (fun s rest bv bh lf kk h1 h2 h3 h4 h5 h6 h7 => ⟨IvF.crs_ p1 p3 p5 h1 h2 h3 h5 h6 h7.1, ISem.crs_ p3 p5 h1 h3 h4 h5 h6 h7.2⟩) hn ha hz301 hbd hbh hRC (fun q => absurd q6.1 q) hRR ⟨⟨hkd, hOkF⟩, hI0⟩
    have lr := l3.rest l5
    have lR := l4.rest l5
    obtain ⟨c1, c2, c3, c4, c5, c6⟩ := lr
    obtain ⟨r1, r2, r3, r4, r5⟩ := lR
    have hbd' := l3.2.2.1
    have hbh' := l3.2.2.2.1
    have hOk' := l6.1.2
    obtain ⟨-, -, hKf, -, hdd⟩ := l6.2
    rw [l5] at hKf
    have hs0 : ∀ i, i ≠ 67 → i ≠ 69 → i ≠ 72 → i ≠ 73 → i ≠ 74 → i ≠ 75 → i ≠ 76 → i ≠ 80 → MR' 0 i = MR 0 i := l8.2.2
    have hes : ∀ i, i = 0 ∨ i = 12 ∨ i = 14 ∨ i = 15 ∨ i = 19 ∨ i = 33 ∨ i = 35 ∨ i = 36 ∨ i = 87 ∨ i = 79 → MR' 0 i = MR 0 i := fun i hi => hs0 i (by omega) (by omega) (by omega) (by omega) (by omega) (by omega) (by omega) (by omega)
    have hrow : ∀ j, 1 ≤ j → j ≤ 49 → MR' j = MR j := fun j j1 j2 => l8.1 j (by omega) (by omega) (by omega)
    have m1 : ∀ j, j ≤ 298 ∨ j = 676 ∨ j = 309 → MC' j = MC j := fun j hj => l7.1 j (by omega) (by omega) (by omega) (by omega) (by omega) (by omega) (by omega)
    have hRG2 : RG MR' = RG MR := hRG MR MR' (fun j j1 j2 _ => hrow j j1 (by omega)) fun i hi => hes i (by omega)
    have hRP : RP MR' := by
      refine ⟨r4, by rw [hes 79 (by simp)]; exact p6.2.1, fun i hi => ?_, by rw [hes 35 (by simp), r3]; exact hP⟩
      by_cases c : ∃ m b : Int, 0 ≤ m ∧ m < MR 0 35 ∧ 0 ≤ b ∧ b < MR 0 12 ∧ i = ixR MR 0 m b
      · obtain ⟨m, b, x1, x2, x3, x4, x5⟩ := c
        have := (r5 m b x1 x2 x3 x4).2.1
        rw [if_neg (fun q => (by cases q))] at this
        rw [x5]
        exact this
      · rw [l8.2.1 51 ⟨by decide, by decide⟩ i fun m b x1 x2 x3 x4 _ x5 => c ⟨m, b, x1, x2, x3, x4, x5⟩]
        exact p6.2.2.1 i hi
    have hkp : ∀ i, (∀ m b : Int, 0 ≤ m → m < MR 0 35 → 0 ≤ b → b < MR 0 12 → MR 12 b.toNat ≠ 3 → i ≠ ixR MR 0 m b) → MR' 50 i = MR 50 i := fun i hi => l8.2.1 50 ⟨by decide, by decide⟩ i fun m b x1 x2 x3 x4 x5 x6 => hi m b x1 x2 x3 x4 (x5.resolve_left (by decide)) x6
    have hBk : Bks MC' MR' := by
      refine ⟨c'.2.1, c'.2.2.1, fun m b hm hb6 => ?_, fun s hs => ⟨by rw [c5], fun _ => by rw [c4]⟩, fun q hq => ?_, fun m b hm hb6 => ?_, fun q b hq hb6 hno => ?_⟩
      · have hh := hbh' (6 * m + b) (by omega)
        refine ⟨hh.1, fun hne => ?_⟩
        have ho := hOk' (6 * m + b) (by omega) hne
        have hv := hbd'.2 (6 * m + b) (by omega) hne
        rw [show (6 * m + b) / 6 = m by omega, show (6 * m + b) % 6 = b by omega] at ho
        rw [hes 35 (by simp), hes 12 (by simp), hrow 12 (by decide) (by decide), hrow 32 (by decide) (by decide)]
        exact ⟨ho.1, ho.2.1, ho.2.2.1, ho.2.2.2.1, hh.2, hv.1, hv.2, ho.2.2.2.2⟩
      · by_cases c : ∃ m b : Int, 0 ≤ m ∧ m < MR 0 35 ∧ 0 ≤ b ∧ b < MR 0 12 ∧ MR 12 b.toNat ≠ 3 ∧ q = ixR MR 0 m b
        · obtain ⟨m, b, x1, x2, x3, x4, x5, x6⟩ := c
          have := (r5 m b x1 x2 x3 x4).2.2 x5
          rw [x6]
          by_cases hh : c'.2.2.1 (6 * m + b).toNat = 0
          · exact Or.inl (this.1 hh)
          · exact Or.inr (this.2 hh).1
        · rw [hkp q fun m b x1 x2 x3 x4 x5 x6 => c ⟨m, b, x1, x2, x3, x4, x5, x6⟩]
          exact b3.1 q hq
      · rw [hes 35 (by simp)] at hm
        have hpm := (hP m hm).1
        rw [r3]
        have ei0 : (0 + 6 * MR 36 ((m : Int)).toNat + (b : Int)).toNat = 6 * (MR 36 m).toNat + b := by rw [Int.toNat_natCast]; omega
        have es : (6 * (m : Int) + (b : Int)).toNat = 6 * m + b := by omega
        by_cases cb : (b : Int) < MR 0 12 ∧ MR 12 b ≠ 3
        · have := (r5 m b (by omega) hm (by omega) cb.1).2.2 (by rw [Int.toNat_natCast]; exact cb.2)
          rw [ei0, es] at this
          refine ⟨⟨fun q hh => ?_, fun hh => (this.2 hh).1⟩, fun hh => ?_⟩
          · rw [this.1 hh] at q; cases q
          · have ht := (this.2 hh).2
            unfold HR at ht ⊢
            rw [pv_ag r3, hes 35 (by simp), r3]
            exact ht
        · have hH0 : c'.2.2.1 (6 * m + b) = 0 := by
            by_cases hh : c'.2.2.1 (6 * m + b) = 0
            · exact hh
            · have ho := hOk' (6 * m + b) (by omega) hh
              rw [show (6 * m + b) / 6 = m by omega, show (6 * m + b) % 6 = b by omega] at ho
              exact absurd ⟨ho.2.1, ho.2.2.1⟩ cb
          have hO0 : H (6 * m + b) = 0 := by
            by_cases hh : H (6 * m + b) = 0
            · exact hh
            · have ho := (b1 m b (by omega) hb6).2 hh
              exact absurd ⟨ho.2.1, ho.2.2.1⟩ cb
          have e5 : MR' 50 (6 * (MR 36 m).toNat + b) = MR 50 (6 * (MR 36 m).toNat + b) := hkp _ fun m' b' x1 x2 x3 x4 x5 x6 => by
            have hp' := (hP m'.toNat (by omega)).1
            unfold ixR at x6
            have y : b' = b := by omega
            subst y
            rw [Int.toNat_natCast] at x5
            exact cb ⟨x4, x5⟩
          have := (b3.2.1 m b hm hb6).1
          rw [e5]
          exact ⟨⟨fun q => absurd hO0 (this.mp q), fun q => absurd hH0 q⟩, fun q => absurd hH0 q⟩
      · rw [hes 35 (by simp), r3] at hno
        rw [hkp _ fun m' b' x1 x2 x3 x4 x5 x6 => ?_]
        · exact b3.2.2 q b hq hb6 hno
        · have hp' := (hP m'.toNat (by omega)).1
          unfold ixR at x6
          exact hno m'.toNat (by omega) (by omega)
    have h309 : ∀ s, s < 180 → MC' 309 s = RG MR' s := fun s hs => by rw [m1 309 (by simp), hRG2]; exact g1 s hs
    have hv := hbd'.2 _ hs180 l9
    have hKR : KpO MR (RG MR) [] c'.2.1 c'.2.2.1 := KpO_rg (rg := MC 309) p1 p3 p5 (fun s hs => by rw [g1 s hs]; exact g2 s hs) (fun s hs => (g1 s hs).symm) (fun s hs hne => by
      have ho := hOk' s hs hne
      exact ⟨ho.1, ho.2.1⟩) hKf
    have hct := find_count (S := MR) (C := MC) p1 p3 p5 q3 (bk := 299) (Or.inl rfl) (rg := MC 309) (bv := MC 300) (bh := MC 301) hn ha hz301 hbd hbh hRC (fun q => absurd q6.1 q)
    refine ⟨c'.2.1 (6 * n + a).toNat, MC', MR', l1, fun J => by rw [if_pos e50, l2, ClS], ?_, ⟨h309, by rw [hRG2]; exact g2, fun s s1 s2 s3 => ?_⟩, hv, fun j hj => m1 j (by omega), m1 676 (by simp), hrow, fun i hi => hes i (by omega), (hKR _ hs180 l9).2.1, ?_, ?_, fun q => absurd hz301 q, fun _ => ?_⟩
    rotate_left 2
    · rw [show MC' 300 = c'.2.1 from c4, show MC' 301 = c'.2.2.1 from c5]; exact hKR
    · rw [show MC' 301 = c'.2.2.1 from c5]; exact l9
    · obtain ⟨d, d1, d2, d3⟩ := hct
      exact ⟨d, d1, d2, fun x y => d3 _ l1 x y⟩
    · refine hI.re k (fun j hj => hrow j hj.1 (by omega)) (fun i hi => hes i (by omega)) (fun j hj => m1 j (by omega)) ⟨l10 k3 rfl q7.1, (l11 q7.2).1⟩ ⟨?_, c6⟩ hRP (Or.inr h309) hBk
      rw [l7.2.1 11 (by decide) (by decide) (by decide) (by decide)]; exact q6.1
    · rw [hes 35 (by simp)] at s1
      rw [hes 12 (by simp)] at s2
      rw [hrow 12 (by decide) (by decide)] at s3
      rw [hRG2, show ixN MR' s = ixN MR s by unfold ixN; rw [r3], l8.1 55 (by decide) (by decide) (by decide)]
      exact g3 s s1 s2 s3
