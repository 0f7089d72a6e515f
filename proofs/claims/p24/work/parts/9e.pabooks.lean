/-! findings follow kept nodes -/
def Pkt (H : Nat → Int) (G : Nat → Int) (n1 b : Int) (x a : Nat) : Prop := (x : Int) < n1 ∧ 0 ≤ G x ∧ H (6 * (G x).toNat + a) ≠ 0 ∧ jand (H (6 * (G x).toNat + a)) b = 0
theorem bks_again {R R1 N C' : Mm} {H V Hg f : Nat → Int} {T g y b : Int} (hT : Trr R) (hT1 : Trr R1) (hP : PlO R) (e4 : R1 4 = R 4) (hH : ∀ m : Nat, (m : Int) < R 0 35 → HrE R R1 H m) (hK : KpR R R1 N T g y)
    (b1 : Okb R V Hg) (b3 : RB R V Hg) (hb : 0 ≤ b ∧ b < 2147483648) (hbm : ∀ m : Nat, (m : Int) < R 0 35 → (bt b m = true ↔ ∃ i : Nat, i < (R 0 35).toNat ∧ H i = -1 ∧ (m = i ∨ (m : Int) = R 32 i))) (hb30 : bt b 30 = true) (hy : y ≠ 0)
    (e12 : R1 0 12 = R 0 12 ∧ R1 12 = R 12) (e5 : R1 50 = R 50 ∧ R1 52 = R 52 ∧ R1 53 = R 53 ∧ R1 54 = R 54)
    (hf : ∀ k, k < 360 → (N 50 k = 0 → f k = 0) ∧ (N 50 k ≠ 0 → (DpR N T g y k → f k = 0) ∧ (¬ DpR N T g y k → f k = 1)))
    (hC : ∀ x a : Nat, x < 30 → a < 6 → (Pkt Hg (N 42) (R1 0 35) b x a → C' 301 (6 * x + a) = hbk H (R 0 35) (Hg (6 * (N 42 x).toNat + a)) 30 ∧ C' 300 (6 * x + a) = vhv H (R 0 35) (V (6 * (N 42 x).toNat + a))) ∧ (¬ Pkt Hg (N 42) (R1 0 35) b x a → C' 301 (6 * x + a) = 0)) : Bks C' (sr N 50 f) := by
  have n0 := hT.1
  have n1 := hT1.1
  have hG := hK.heir
  have iHG := HrE.inv hT hT1 e4 hH hG
  have iGH := HrE.inv hT1 hT e4.symm hG hH
  have er : ∀ j, j ≠ 31 → j ≠ 36 → j ≠ 42 → j ≠ 50 → sr N 50 f j = R1 j := fun j a b c d => by rw [sr_ne _ _ d]; exact hK.row j a b c
  have e0 : sr N 50 f 0 = R1 0 := er 0 (by decide) (by decide) (by decide) (by decide)
  have e36 : sr N 50 f 36 = N 36 := sr_ne _ _ (by decide)
  have hHr : ∀ m : Nat, (m : Int) < R 0 35 → H m = -1 ∨ (0 ≤ H m ∧ H m < R1 0 35) := fun m hm => by
    rcases (hH m hm).ok with z | ⟨z, -⟩
    · exact Or.inl z
    · exact Or.inr ⟨z.1, z.2.1⟩
  -- what hangs on a kept finding
  have hk : ∀ x a : Nat, a < 6 → Pkt Hg (N 42) (R1 0 35) b x a → ∃ m : Nat, (m : Int) < R 0 35 ∧ N 42 x = (m : Int) ∧ H m = (x : Int) ∧ Hg (6 * m + a) ≠ 0 ∧ (∀ i : Nat, bt (Hg (6 * m + a)) i = true → (i : Int) < R 0 35 ∧ bt b i ≠ true ∧ 0 ≤ H i ∧ H i < R1 0 35) ∧ (0 ≤ hbk H (R 0 35) (Hg (6 * m + a)) 30 ∧ hbk H (R 0 35) (Hg (6 * m + a)) 30 < 2147483648) ∧ ∀ j : Nat, bt (hbk H (R 0 35) (Hg (6 * m + a)) 30) j = true ↔ ∃ i : Nat, bt (Hg (6 * m + a)) i = true ∧ H i = (j : Int) := by
    intro x a ha ⟨x1, x2, x3, x4⟩
    have hm : (((N 42 x).toNat : Nat) : Int) = N 42 x := Int.toNat_of_nonneg x2
    have z := iGH x x1 (N 42 x).toNat hm.symm
    have ok := b1 (N 42 x).toNat a (by omega) ha
    have ok2 := ok.2 x3
    have hbits : ∀ i : Nat, bt (Hg (6 * (N 42 x).toNat + a)) i = true → (i : Int) < R 0 35 ∧ bt b i ≠ true ∧ 0 ≤ H i ∧ H i < R1 0 35 := fun i hi => by
      have hnb : bt b i ≠ true := fun q => (jand_ne ok.1 hb).mpr ⟨i, hi, q⟩ x4
      have hin : (i : Int) < R 0 35 := by
        rcases ok2.2.2.2.2.1 i hi with w | w
        · exact w
        · subst w; exact absurd hb30 hnb
      refine ⟨hin, hnb, (hHr i hin).resolve_left fun w => hnb ?_⟩
      exact (hbm i hin).mpr ⟨i, by omega, w, Or.inl rfl⟩
    have hbb := hbk_bt n0.2 ok.1 (fun m hm => (hHr m hm).imp id fun w => ⟨w.1, by omega⟩) 30 (Nat.le_refl _)
    refine ⟨(N 42 x).toNat, z.1, hm.symm, z.2, x3, hbits, hbb.1, fun j => (hbb.2 j).trans ⟨fun ⟨i, i1, i2, i3, i4⟩ => ⟨i, i2, i4⟩, fun ⟨i, i2, i4⟩ => ⟨i, ?_, i2, (hbits i i2).1, i4⟩⟩⟩
    have := (hbits i i2).1
    omega
  -- the value of a kept finding
  have hvr : ∀ x a m : Nat, a < 6 → Pkt Hg (N 42) (R1 0 35) b x a → (m : Int) < R 0 35 → N 42 x = (m : Int) → 1000 ≤ V (6 * m + a) → ((V (6 * m + a) - 1000).toNat : Int) < R 0 35 ∧ 0 ≤ H (V (6 * m + a) - 1000).toNat ∧ H (V (6 * m + a) - 1000).toNat < R1 0 35 ∧ vhv H (R 0 35) (V (6 * m + a)) = 1000 + H (V (6 * m + a) - 1000).toNat := by
    intro x a m ha hp hm hx hv
    obtain ⟨m', m1, m2, m3, m4, m5, -⟩ := hk x a ha hp
    have e : m' = m := by omega
    subst e
    have ok2 := (b1 m' a (by omega) ha).2 m4
    have hrn : ((V (6 * m' + a) - 1000).toNat : Int) < R 0 35 := by omega
    have hHk : 0 ≤ H (V (6 * m' + a) - 1000).toNat ∧ H (V (6 * m' + a) - 1000).toNat < R1 0 35 := by
      rcases ok2.2.2.2.2.2.2.2 hv with w | ⟨w1, w2⟩
      · exact (m5 _ w).2.2
      · refine (hHr _ hrn).resolve_left fun w => ?_
        have z := m5 _ w2
        exact z.2.1 ((hbm _ z.1).mpr ⟨(V (6 * m' + a) - 1000).toNat, by omega, w, Or.inr (Int.toNat_of_nonneg w1)⟩)
    refine ⟨hrn, hHk.1, hHk.2, ?_⟩
    unfold vhv hvi
    rw [if_pos hv, if_pos (by omega)]
  -- places kept
  have hpk : ∀ x : Nat, (x : Int) < R1 0 35 → ∀ m : Nat, N 42 x = (m : Int) → N 36 x = R 36 m := fun x hx m hm => by
    have := (hK.kept x hx (by omega)).2
    rw [hm, Int.toNat_natCast] at this
    exact this
  refine ⟨C' 300, C' 301, fun x a hx ha => ?_, fun s hs => ⟨rfl, fun _ => rfl⟩, fun k hk' => ?_, fun x a hx ha => ?_, fun q a hq ha hno => ?_⟩
  · by_cases c : Pkt Hg (N 42) (R1 0 35) b x a
    case neg =>
      rw [(hC x a hx ha).2 c]
      exact ⟨by decide, fun q => absurd rfl q⟩
    obtain ⟨m, m1, m2, m3, m4, m5, m6, m7⟩ := hk x a ha c
    have z := (hC x a hx ha).1 c
    rw [m2, Int.toNat_natCast] at z
    have ok2 := (b1 m a (by omega) ha).2 m4
    have hx1 := c.1
    rw [z.1, z.2, e0, er 12 (by decide) (by decide) (by decide) (by decide), er 32 (by decide) (by decide) (by decide) (by decide), e12.1, e12.2]
    refine ⟨m6, fun _ => ⟨hx1, ok2.2.1, ok2.2.2.1, (m7 x).mpr ⟨m, ok2.2.2.2.1, m3⟩, fun j hj => ?_, ?_, ?_, fun hv => ?_⟩⟩
    · obtain ⟨i, i1, i2⟩ := (m7 j).mp hj
      have := (m5 i i1).2.2
      exact Or.inl (by omega)
    · by_cases cv : 1000 ≤ V (6 * m + a)
      · have := hvr x a m ha c m1 m2 cv; omega
      · unfold vhv; rw [if_neg cv]; exact ok2.2.2.2.2.2.1
    · by_cases cv : 1000 ≤ V (6 * m + a)
      · have := hvr x a m ha c m1 m2 cv; omega
      · unfold vhv; rw [if_neg cv]; omega
    · have cv : 1000 ≤ V (6 * m + a) := by
        refine Classical.byContradiction fun q => ?_
        unfold vhv at hv; rw [if_neg q] at hv; exact q hv
      have hw := hvr x a m ha c m1 m2 cv
      generalize hr : (V (6 * m + a) - 1000).toNat = r at hw
      have er' : (vhv H (R 0 35) (V (6 * m + a)) - 1000).toNat = (H r).toNat := by omega
      rw [er']
      have hrf := ok2.2.2.2.2.2.2.2 cv
      rw [hr] at hrf
      rcases hrf with w | ⟨w1, w2⟩
      · left
        exact (m7 _).mpr ⟨r, w, by omega⟩
      · right
        have hr0 : r ≠ 0 := fun q => by
          have := ((hT.2 r (by omega)).2.2.2.2.2.1 q).1
          omega
        have hp := heir_parent hT hT1 e4 hH (m := r) (by omega) hr0 (by omega)
        have z2 := (m5 _ w2).2.2
        rw [hp.2.1]
        exact ⟨z2.1, (m7 _).mpr ⟨(R 32 r).toNat, w2, by omega⟩⟩
  · rw [sr_at]
    by_cases c : N 50 k = 0
    · exact Or.inl ((hf k hk').1 c)
    · by_cases d : DpR N T g y k
      · exact Or.inl (((hf k hk').2 c).1 d)
      · exact Or.inr (((hf k hk').2 c).2 d)
  · rw [e0] at hx
    have hx30 : x < 30 := by omega
    rw [e36, sr_at, er 52 (by decide) (by decide) (by decide) (by decide), er 53 (by decide) (by decide) (by decide) (by decide), er 54 (by decide) (by decide) (by decide) (by decide), e5.2.1, e5.2.2.1, e5.2.2.2]
    by_cases cn : N 42 x = -1
    · have hnw := hK.new36 x hx cn
      have h50 : R 50 (6 * (N 36 x).toNat + a) = 0 := b3.2.2 (N 36 x).toNat a (by omega) ha fun m hm q => hnw.2.1 m hm (by omega)
      have hn50 : N 50 (6 * (N 36 x).toNat + a) = 0 := by rw [hK.row 50 (by decide) (by decide) (by decide), e5.1]; exact h50
      rw [(hf _ (by omega)).1 hn50, (hC x a hx30 ha).2 fun q => by have := q.2.1; omega]
      exact ⟨⟨fun q => absurd q (by decide), fun q => absurd rfl q⟩, fun q => absurd rfl q⟩
    · rcases (hG x hx).ok with z | ⟨⟨z1, z2, -⟩, -⟩
      · exact absurd z cn
      have hm : (((N 42 x).toNat : Nat) : Int) = N 42 x := Int.toNat_of_nonneg z1
      generalize hmd : (N 42 x).toNat = m at hm
      have hm1 : (m : Int) < R 0 35 := by omega
      have hp36 := hpk x hx m hm.symm
      have hpm := (hP m hm1).1
      rw [hp36]
      generalize hix : 6 * (R 36 m).toNat + a = ix
      have hi360 : ix < 360 := by omega
      have old := b3.2.1 m a hm1 ha
      rw [hix] at old
      have ok := b1 m a (by omega) ha
      have e50 : N 50 ix = R 50 ix := by rw [hK.row 50 (by decide) (by decide) (by decide), e5.1]
      have hz := hC x a hx30 ha
      have hPk : Pkt Hg (N 42) (R1 0 35) b x a ↔ Hg (6 * m + a) ≠ 0 ∧ jand (Hg (6 * m + a)) b = 0 := by
        unfold Pkt
        rw [hmd]
        exact ⟨fun q => q.2.2, fun q => ⟨hx, z1, q⟩⟩
      have hff := hf ix hi360
      by_cases c : Hg (6 * m + a) = 0
      · have c0 : N 50 ix = 0 := by
          rw [e50]
          rcases b3.1 ix hi360 with w | w
          · exact w
          · exact absurd c (old.1.mp w)
        rw [hff.1 c0, hz.2 fun q => (hPk.mp q).1 c]
        exact ⟨⟨fun q => absurd q (by decide), fun q => absurd rfl q⟩, fun q => absurd rfl q⟩
      · have c1 : N 50 ix ≠ 0 := by rw [e50, old.1.mpr c]; decide
        obtain ⟨t1, t2⟩ := old.2 c
        have ok2 := ok.2 c
        have hD : DpR N T g y ix ↔ jand (Hg (6 * m + a)) b ≠ 0 := by
          have hq6 : (R 36 m).toNat = ix / 6 := by omega
          unfold DpR
          rw [hK.row 53 (by decide) (by decide) (by decide), hK.row 54 (by decide) (by decide) (by decide), e5.2.2.1, e5.2.2.2]
          refine dp_iff (S := R) n0 hP (q := ix / 6) (by omega) ⟨ok.1, ok2.2.2.2.2.1⟩ t2 hb hK.tb hK.gb (fun m' hm' => ?_) ?_ (fun q => ?_)
          · rw [hbm m' hm', touch_iff hT hT1 e4 hH hG hm', hK.touch]
            have hp' := (hP m' hm').1
            constructor
            · rintro (w | ⟨w, w1, w2, w3, w4⟩)
              · left
                rw [hK.gone]
                exact ⟨m', hm', by omega, fun w hw q => by have := (iGH w hw m' q).2; omega⟩
              · right
                exact ⟨w, w1, w2, w3, by omega, by rw [w4, Int.toNat_natCast]; omega⟩
            · rintro (w | ⟨w, w1, w2, w3, w4, w5⟩)
              · rw [hK.gone] at w
                obtain ⟨w, w1, w2, w3⟩ := w
                have ew : w = m' := (hP m' hm').2 w w1 (by omega)
                subst ew
                left
                rcases (hH w w1).ok with u | ⟨⟨u1, u2, -⟩, -⟩
                · exact u
                · have := (iHG w w1 (H w).toNat (by omega)).2
                  exact absurd this (w3 (H w).toNat (by omega))
              · right
                refine ⟨w, w1, w2, w3, ?_⟩
                have h7 := (hT1.2 w w1).2.2.2.2.2.2.1 (by omega)
                rcases (hG (R1 32 w).toNat (by omega)).ok with u | ⟨⟨u1, u2, -⟩, -⟩
                · exact absurd u w4
                · have := (hP m' hm').2 (N 42 (R1 32 w).toNat).toNat (by omega) (by omega)
                  omega
          · exact ⟨fun _ => hy, fun _ => hb30⟩
          · exfalso
            rw [hK.gone] at q
            obtain ⟨w, w1, w2, w3⟩ := q
            have ew : w = m := (hP m hm1).2 w w1 (by omega)
            exact w3 x hx (by omega)
        by_cases d : jand (Hg (6 * m + a)) b = 0
        case neg =>
          rw [(hff.2 c1).1 (hD.mpr d), hz.2 fun q => d (hPk.mp q).2]
          exact ⟨⟨fun q => absurd q (by decide), fun q => absurd rfl q⟩, fun q => absurd rfl q⟩
        have hp : Pkt Hg (N 42) (R1 0 35) b x a := hPk.mpr ⟨c, d⟩
        obtain ⟨m', k1, k2, k3, k4, k5, k6, k7⟩ := hk x a ha hp
        have em : m' = m := by omega
        subst em
        have hz1 := hz.1 hp
        rw [hmd] at hz1
        rw [(hff.2 c1).2 fun q => hD.mp q d, hz1.1, hz1.2, t1]
        have hne : hbk H (R 0 35) (Hg (6 * m' + a)) 30 ≠ 0 := fun q => by
          have := (k7 x).mpr ⟨m', ok2.2.2.2.1, k3⟩
          rw [q, bt0] at this
          cases this
        refine ⟨⟨fun _ => hne, fun _ => rfl⟩, fun _ => ⟨?_, ?_⟩⟩
        · unfold pv
          by_cases cv : 1000 ≤ V (6 * m' + a)
          · have hw := hvr x a m' ha hp k1 k2 cv
            generalize hr : (V (6 * m' + a) - 1000).toNat = r at hw
            rw [if_neg (by omega), hw.2.2.2, if_neg (by omega), e36]
            have e1 : (1000 + H r - 1000).toNat = (H r).toNat := by omega
            rw [e1, hpk (H r).toNat (by omega) r ?_]
            have := (iHG r (by omega) (H r).toNat (by omega)).2
            exact this
          · unfold vhv
            rw [if_neg cv, if_pos (by omega), if_pos (by omega)]
        · obtain ⟨a1, a2, a3⟩ := t2
          refine ⟨a1, ?_, fun q => ?_⟩
          · have h30 : bt (Hg (6 * m' + a)) 30 ≠ true := fun q => (k5 30 q).2.1 hb30
            have h30' : bt (hbk H (R 0 35) (Hg (6 * m' + a)) 30) 30 ≠ true := fun q => by
              obtain ⟨i, i1, i2⟩ := (k7 30).mp q
              have := (k5 i i1).2.2
              omega
            rw [a2, if_neg h30, if_neg h30']
          · rw [a3 q, e0, e36]
            constructor
            · rintro ⟨i, i1, i2, i3⟩
              have z := k5 i i3
              have hiH : (((H i).toNat : Nat) : Int) = H i := Int.toNat_of_nonneg z.2.2.1
              refine ⟨(H i).toNat, by omega, ?_, (k7 _).mpr ⟨i, i3, hiH.symm⟩⟩
              rw [hpk (H i).toNat (by omega) i (iHG i i1 (H i).toNat hiH.symm).2]
              exact i2
            · rintro ⟨w, w1, w2, w3⟩
              obtain ⟨i, i1, i2⟩ := (k7 w).mp w3
              have z := k5 i i1
              refine ⟨i, z.1, ?_, i1⟩
              rw [← hpk w w1 i (iHG i z.1 w i2).2]
              exact w2
  · rw [e0, e36] at hno
    rw [sr_at]
    have hff := hf (6 * q + a) (by omega)
    by_cases c : N 50 (6 * q + a) = 0
    · exact hff.1 c
    · refine (hff.2 c).1 (Or.inr (Or.inl ?_))
      have e50 : N 50 (6 * q + a) = R 50 (6 * q + a) := by rw [hK.row 50 (by decide) (by decide) (by decide), e5.1]
      have hold : ∃ m : Nat, (m : Int) < R 0 35 ∧ R 36 m = (q : Int) := by
        refine Classical.byContradiction fun hn => c ?_
        rw [e50]
        exact b3.2.2 q a hq ha fun m hm e => hn ⟨m, hm, e⟩
      obtain ⟨m, m1, m2⟩ := hold
      have hgq : bt g q = true := (hK.gone q).mpr ⟨m, m1, m2, fun x hx e => hno x hx (by rw [hpk x hx m e]; exact m2)⟩
      rw [show (6 * q + a) / 6 = q by omega, lbit hK.gb hq, if_pos hgq]
