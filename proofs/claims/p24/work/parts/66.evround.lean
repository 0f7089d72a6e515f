/-! a round of the RING attributes on both sides -/
theorem jrem_6 {k : Nat} (h : k < 1000) : jrem (k : Int) 6 = ((k % 6 : Nat) : Int) ∧ wr (Int.tdiv (k : Int) 6) = ((k / 6 : Nat) : Int) := by
  have e : Int.tdiv (k : Int) 6 = (k : Int) / 6 := Int.tdiv_eq_ediv_of_nonneg (by omega)
  unfold jrem
  rw [e, wrE (v := (k : Int) / 6) (by omega) (by omega), wrE (v := (k : Int) / 6 * 6) (by omega) (by omega), wrE (by omega) (by omega)]
  omega
def b2i (b : Bool) : Int := if b then 1 else 0
def RdI (S C : Mm) (rg : Nat → Int) (k : Nat) (st : RgS) (MC MR : Mm) : Prop :=
  RestC S C 304 rg st.1 st.2.1 MC ∧ MC 310 11 = 0 ∧ RestR S 360 rg st.1 st.2.1 MR ∧ BdO S rg st.1 st.2.1 ∧ BdH S st.2.1 ∧ i32 (MR 0 67) ∧
  (∀ s : Nat, k ≤ s → s < 180 → S 12 (s % 6) = 3 → st.2.1 s = 0) ∧
  ∀ s : Nat, s < k → ((s % 6 : Nat) : Int) < S 0 12 → S 12 (s % 6) = 3 → MC 677 s = st.2.2.1 s ∧ MR 56 (6 * S 36 (s / 6) + ((s % 6 : Nat) : Int)).toNat = st.2.2.1 s ∧ -3 ≤ st.2.2.1 s ∧ st.2.2.1 s < 1000
/-- what a round leaves -/
def FdC (S M M' : Mm) : Prop := (∀ j, ¬ (304 ≤ j ∧ j ≤ 306) → j ≠ 310 → j ≠ 311 → j ≠ 313 → ¬ (314 ≤ j ∧ j < 676) → j ≠ 677 → M' j = M j) ∧ ∀ i : Nat, ¬ (((i % 6 : Nat) : Int) < S 0 12 ∧ S 12 (i % 6) = 3 ∧ i < 6 * (S 0 35).toNat) → M' 677 i = M 677 i
def FdR (S : Mm) (M M' : Mm) : Prop := (∀ j, j ≠ 0 → ¬ (50 ≤ j ∧ j ≤ 54) → j ≠ 56 → ¬ (57 ≤ j ∧ j ≤ 64) → M' j = M j) ∧ (∀ j, 50 ≤ j ∧ j ≤ 54 → ∀ i, (∀ n a : Int, 0 ≤ n → n < S 0 35 → 0 ≤ a → a < S 0 12 → i ≠ ixR S 360 n a) → M' j i = M j i) ∧ ∀ i, i ≠ 67 → i ≠ 69 → i ≠ 72 → i ≠ 73 → i ≠ 74 → i ≠ 75 → i ≠ 76 → i ≠ 80 → M' 0 i = M 0 i
theorem RestC.up_ {S C : Mm} (hO : Oke S) {rg bv bh : Nat → Int} {M : Mm} (h : RestC S C 304 rg bv bh M) (i : Nat) (v : Int) : RestC S C 304 rg bv bh (up M 677 i v) := by
  obtain ⟨c1, c2, c3, c4, c5, c6⟩ := h
  exact ⟨c1.of hO fun j hj => up_ne _ _ _ (by omega), fun j j1 j2 => by rw [up_ne _ _ _ (by omega)]; exact c2 j j1 j2, by rw [up_ne _ _ _ (by decide)]; exact c3, by rw [up_ne _ _ _ (by decide)]; exact c4, by rw [up_ne _ _ _ (by decide)]; exact c5, fun s hs => by rw [up_ne _ _ _ (by decide)]; exact c6 s hs⟩
theorem RestR.up_ {S : Mm} {B : Int} {rg bv bh : Nat → Int} {M : Mm} (h : RestR S B rg bv bh M) (i : Nat) (v : Int) : RestR S B rg bv bh (up M 56 i v) := by
  obtain ⟨c1, c2, c3, c4, c5⟩ := h
  exact ⟨⟨fun j j1 j2 j3 => by rw [up_ne _ _ _ (by omega)]; exact c1.1 j j1 j2 j3, fun i hi => by rw [up_ne _ _ _ (by decide)]; exact c1.2 i hi⟩, by rw [up_ne _ _ _ (by decide)]; exact c2, by rw [up_ne _ _ _ (by decide)]; exact c3, by rw [up_ne _ _ _ (by decide)]; exact c4, c5.frl fun j hj => up_ne _ _ _ (by omega)⟩
theorem ix_ne {S : Mm} (hP : PlO S) {s k : Nat} (hs : ((s / 6 : Nat) : Int) < S 0 35) (hk : ((k / 6 : Nat) : Int) < S 0 35) (hne : s ≠ k) : (6 * S 36 (s / 6) + ((s % 6 : Nat) : Int)).toNat ≠ (6 * S 36 (k / 6) + ((k % 6 : Nat) : Int)).toNat := by
  intro e
  have p1 := (hP (s / 6) hs).1
  have p2 := (hP (k / 6) hk).1
  have e2 : S 36 (s / 6) = S 36 (k / 6) ∧ s % 6 = k % 6 := by omega
  have := (hP (k / 6) hk).2 (s / 6) hs e2.1
  omega
theorem ix_bd {x : Int} {k : Nat} (hx : 0 ≤ x ∧ x < 60) : (0 ≤ 6 * x + ((k % 6 : Nat) : Int) ∧ 6 * x + ((k % 6 : Nat) : Int) < 360) ∧ wr (wr (6 * x) + ((k % 6 : Nat) : Int)) = 6 * x + ((k % 6 : Nat) : Int) := by
  refine ⟨by omega, ?_⟩
  rw [wrE (v := 6 * x) (by omega) (by omega), wrE (by omega) (by omega)]
theorem loV_bd {v : Int} (h : -3 ≤ v) : -3 ≤ loV v ∧ loV v < 1000 := by unfold loV; split <;> omega
theorem ring_round {S C : Mm} (hg : Okg S) (hO : Oke S) (hN : Okn S) (hE : CE C S) (hP : PlO S) {rg : Nat → Int} {J1 J2 : Int → Mm → Rs} : ∀ (d k : Nat) (F1 F2 : Nat) (MC MR : Mm) (st : RgS), k + d = 6 * (S 0 35).toNat → d < F1 → d < F2 → RdI S C rg k st MC MR →
    ∃ st' MC' MR', RRn S rg (rsl S d k) st st' ∧ Lp (f_X7_goRound_L11_47 J1) F1 (b2i st.2.2.2, (k : Int), MC) = J1 (b2i st'.2.2.2) MC' ∧ Lp (f_X12_changes_L8_78 J2) F2 (b2i st.2.2.2, (k : Int), MR) = J2 (b2i st'.2.2.2) MR' ∧ RdI S C rg (6 * (S 0 35).toNat) st' MC' MR' ∧ FdC S MC MC' ∧ FdR S MR MR' ∧ MR' 0 67 = MR 0 67 := by
  have h35 := hN.1
  have h12 := hg.2.1
  intro d
  induction d with
  | zero =>
    intro k F1 F2 MC MR st hk hF1 hF2 hI
    obtain ⟨G, rfl⟩ : ∃ G, F1 = G + 1 := ⟨F1 - 1, by omega⟩
    obtain ⟨H, rfl⟩ : ∃ H, F2 = H + 1 := ⟨F2 - 1, by omega⟩
    have hkk : k = 6 * (S 0 35).toNat := by omega
    have e1 : MC 283 0 = S 0 35 := hI.1.1.2.1
    have e2 : MR 0 35 = S 0 35 := hI.2.2.1.1.2 35 (by simp)
    refine ⟨st, MC, MR, rfl, ?_, ?_, hkk ▸ hI, ⟨fun _ _ _ _ _ _ _ => rfl, fun _ _ => rfl⟩, ⟨fun _ _ _ _ _ => rfl, fun _ _ _ _ => rfl, fun _ _ _ _ _ _ _ _ _ => rfl⟩, rfl⟩
    · rw [Lp_s]
      simp only [f_X7_goRound_L11_47, LtE]
      rw [e1, wrE (by omega) (by omega), if_pos (by omega)]
    · rw [Lp_s]
      simp only [f_X12_changes_L8_78, LtE]
      rw [e2, wrE (by omega) (by omega), if_pos (by omega)]
  | succ d ih =>
    intro k F1 F2 MC MR st hk hF1 hF2 hI
    obtain ⟨G, rfl⟩ : ∃ G, F1 = G + 1 := ⟨F1 - 1, by omega⟩
    obtain ⟨H, rfl⟩ : ∃ H, F2 = H + 1 := ⟨F2 - 1, by omega⟩
    have e1 : MC 283 0 = S 0 35 := hI.1.1.2.1
    have e2 : MR 0 35 = S 0 35 := hI.2.2.1.1.2 35 (by simp)
    have e12 : MR 0 12 = S 0 12 := hI.2.2.1.1.2 12 (by simp)
    have er12 : MR 12 = S 12 := hI.2.2.1.1.1 12 (by decide) (by decide) (by decide)
    have ek11 : MC 1 1 = S 0 12 := hI.1.1.1.1.2.1
    have ek13 : ∀ a : Int, 0 ≤ a → a < S 0 12 → MC 13 a.toNat = S 12 a.toNat := hI.1.1.1.1.2.2.1
    have hk1 : k < 1000 := by clear hI ih hN hg hE hO hP; omega
    rw [Lp_s, Lp_s]
    simp only [f_X7_goRound_L11_47, f_X12_changes_L8_78, LtE]
    rw [e1, e2, wrE (v := S 0 35 * 6) (by omega) (by omega), if_neg (by omega), if_neg (by omega), (jrem_6 hk1).1, (jrem_6 hk1).2, c_kindOf, ClS, ek11, e12, er12]
    have ek : (k : Int) + 1 = ((k + 1 : Nat) : Int) := by omega
    by_cases ck : ((k % 6 : Nat) : Int) < S 0 12 ∧ S 12 (k % 6) = 3
    case neg =>
      have hl : rsl S (d + 1) k = rsl S d (k + 1) := by simp only [rsl]; rw [if_neg ck]
      have hI' : RdI S C rg (k + 1) st MC MR := by
        obtain ⟨i1, i2, i3, i4, i5, i6, i7, i8⟩ := hI
        refine ⟨i1, i2, i3, i4, i5, i6, fun s h1 h2 h3 => i7 s (by omega) h2 h3, fun s h1 h2 h3 => ?_⟩
        by_cases cs : s = k
        · subst cs; exact absurd ⟨h2, h3⟩ ck
        · exact i8 s (by omega) h2 h3
      obtain ⟨st', MC', MR', r1, r2, r3, r4⟩ := ih (k + 1) G H MC MR st (by omega) (by omega) (by omega) hI'
      have hkd : ¬ (if 0 ≤ ((k % 6 : Nat) : Int) ∧ ((k % 6 : Nat) : Int) < S 0 12 ∧ ((k % 6 : Nat) : Int) < 6 then MC 13 ((k % 6 : Nat) : Int).toNat else -1) = 3 := by
        split
        · rename_i q
          rw [ek13 _ q.1 q.2.1, Int.toNat_natCast]
          exact fun z => ck ⟨q.2.1, z⟩
        · decide
      refine ⟨st', MC', MR', by rw [hl]; exact r1, ?_, ?_, r4⟩
      · rw [if_neg hkd, wrE (by omega) (by omega), ek]; exact r2
      · rw [wrE (by omega) (by omega), ek]
        by_cases c1 : S 0 12 ≤ ((k % 6 : Nat) : Int)
        · rw [if_pos c1]; exact r3
        · rw [if_neg c1, gdE (by omega), Int.toNat_natCast, if_pos (fun q => ck ⟨by omega, q⟩)]; exact r3
    case pos =>
      have hl : rsl S (d + 1) k = k :: rsl S d (k + 1) := by simp only [rsl]; rw [if_pos ck]
      obtain ⟨i1, i2, i3, i4, i5, i6, i7, i8⟩ := hI
      have hka : (6 * ((k / 6 : Nat) : Int) + ((k % 6 : Nat) : Int)) = (k : Int) := by clear ih hN hg hE hO hP i1 i3 i4 i5 i7 i8; omega
      have hk180 : k < 180 := by clear ih hN hg hE hO hP i1 i3 i4 i5 i7 i8; omega
      have hn : 0 ≤ ((k / 6 : Nat) : Int) ∧ ((k / 6 : Nat) : Int) < S 0 35 := by clear ih hN hg hE hO hP i1 i3 i4 i5 i7 i8; omega
      have ha : 0 ≤ ((k % 6 : Nat) : Int) ∧ ((k % 6 : Nat) : Int) < S 0 12 := ⟨Int.natCast_nonneg _, ck.1⟩
      have ha6 : ((k % 6 : Nat) : Int) < 6 := by clear ih hN hg hE hO hP i1 i3 i4 i5 i7 i8; omega
      obtain ⟨c', MC1, MR1, l1, l2, l3, l4, l5, l6, l7, l8, l9, l10, l11, l12⟩ := ring_one hg hO hN hE hP hn ha (by rw [hka, Int.toNat_natCast]; exact i7 k (Nat.le_refl _) hk180 ck.2) i4 i5 i1 i2 i3 i6
      rw [hka, Int.toNat_natCast] at l1 l2 l9
      rw [hka] at l3 l8
      generalize hv : c'.2.1 k = v at l1 l2
      have hvl : -3 ≤ v := by rw [← hv]; exact (l6.2 k hk180 l9).1
      have hvb : v < 1000 + S 0 35 := by rw [← hv]; exact (l6.2 k hk180 l9).2
      have hpl : (if pv S v < 1000 then pv S v else -1) = loV v := by
        have := (pv_neg hP hvb).2
        unfold loV
        by_cases c : v < 1000
        · rw [pv_lo c, if_pos c]
        · rw [if_neg c, if_neg (fun q => by clear ih hN hg hE hO hP i1 i3 i4 i5 i7 i8; omega)]
      have e309 : MC1 309 = rg := l4.2.2.1
      have p36 := (hP (k / 6) (by clear ih hN hg hE hO hP i1 i3 i4 i5 i7 i8; omega)).1
      have e55 : MR1 55 (6 * S 36 (k / 6) + ((k % 6 : Nat) : Int)).toNat = rg k := by
        have := (l5.2.2.2.2 _ _ hn.1 hn.2 ha.1 ha.2).1 (by rw [Int.toNat_natCast]; exact ck.2)
        rw [Int.toNat_natCast, hka, Int.toNat_natCast] at this
        exact this
      have e36 : MR1 36 = S 36 := l5.2.2.1
      have hI2 : RdI S C rg (k + 1) (c'.2.1, c'.2.2.1, se st.2.2.1 k (loV v), st.2.2.2 || decide (loV v ≠ rg k)) (up MC1 677 k (loV v)) (up MR1 56 (6 * S 36 (k / 6) + ((k % 6 : Nat) : Int)).toNat (loV v)) := by
        refine ⟨l4.up_ hO _ _, ?_, l5.up_ _ _, l6, l7, ?_, fun s h1 h2 h3 => ?_, fun s h1 h2 h3 => ?_⟩
        · rw [up_ne _ _ _ (by decide), l10.2.1 11 (by decide) (by decide) (by decide) (by decide)]; exact i2
        · rw [up_ne _ _ _ (by decide), l12]; exact i6
        · have hsk : (s : Int) ≠ (k : Int) := fun e => absurd (Int.ofNat.inj e) (Nat.ne_of_gt h1)
          simp only
          rw [l8 s h2 h3 hsk]
          exact i7 s (Nat.le_of_succ_le h1) h2 h3
        · simp only
          by_cases cs : s = k
          · subst cs
            rw [up_at, up_at, se_at]
            exact ⟨rfl, rfl, loV_bd hvl⟩
          · have hsk : s < k := Nat.lt_of_le_of_ne (Nat.le_of_lt_succ h1) cs
            obtain ⟨g1, g2, g3⟩ := i8 s hsk h2 h3
            have hne := ix_ne hP (s := s) (k := k) (Int.lt_of_le_of_lt (Int.ofNat_le.mpr (Nat.div_le_div_right (Nat.le_of_lt hsk))) hn.2) hn.2 cs
            rw [se_ne _ _ cs]
            have x1 : up MC1 677 k (loV v) 677 s = MC1 677 s := by simp [up, cs]
            have x2 : up MR1 56 (6 * S 36 (k / 6) + ((k % 6 : Nat) : Int)).toNat (loV v) 56 (6 * S 36 (s / 6) + ((s % 6 : Nat) : Int)).toNat = MR1 56 (6 * S 36 (s / 6) + ((s % 6 : Nat) : Int)).toNat := by
              unfold up; rw [if_neg (fun q => hne q.2)]
            rw [x1, x2, l10.1 677 (by decide) (by decide) (by decide) (by decide) (by decide) (by decide) (by decide), l11.1 56 (by decide) (by decide) (by decide)]
            exact ⟨g1, g2, g3⟩
      have hkr : (0 : Int) ≤ (k : Int) ∧ (k : Int) < ((180 : Nat) : Int) := ⟨Int.natCast_nonneg _, Int.ofNat_lt.mpr hk180⟩
      have hwk : wr ((k : Int) + 1) = ((k + 1 : Nat) : Int) := by clear ih hN hg hE hO hP i1 i3 i4 i5 i7 i8 l3 l4 l5 l6 l7 l8 l10 l11 hI2 e55; rw [wrE (by omega) (by omega)]; omega
      have hcl : ∀ w : Int, (Cl (f_X11_setEntry 677 (k : Int) w MC1) fun _ M32 => if ¬ b2i st.2.2.2 = 0 then Lp (f_X7_goRound_L11_47 J1) G (1, wr ((k : Int) + 1), M32) else Cl (f_X11_entryOf 677 (k : Int) M32) fun v42 M41 => Cl (f_X7_valueOf (k : Int) M41) fun v44 M43 => if v42 = v44 then Lp (f_X7_goRound_L11_47 J1) G (0, wr ((k : Int) + 1), M43) else Lp (f_X7_goRound_L11_47 J1) G (1, wr ((k : Int) + 1), M43)) = Lp (f_X7_goRound_L11_47 J1) G (b2i (st.2.2.2 || decide (w ≠ rg k)), ((k + 1 : Nat) : Int), up MC1 677 k w) := by
        intro w
        rw [hwk, c_setEntry_in 180 rfl hkr.1 hkr.2, ClS, Int.toNat_natCast]
        cases st.2.2.2 with
        | true => rfl
        | false =>
          rw [if_neg (by decide), c_entryOf_in 180 rfl hkr.1 hkr.2, ClS, Int.toNat_natCast, up_at]
          unfold f_X7_valueOf
          rw [c_entryOf_in 180 rfl hkr.1 hkr.2, ClS, ClS, Int.toNat_natCast, up_ne _ _ _ (by decide), e309]
          by_cases c : w = rg k
          · rw [if_pos c, decide_eq_false (fun q => q c)]; rfl
          · rw [if_neg c, decide_eq_true c]; rfl
      have hdd : k + 1 + d = 6 * (S 0 35).toNat := by clear ih hN hg hE hO hP i1 i3 i4 i5 i7 i8 l3 l4 l5 l6 l7 l8 l10 l11 hI2 e55 hcl; omega
      obtain ⟨st', MC', MR', r1, r2, r3, r4, r5, r6, r7⟩ := ih (k + 1) G H _ _ _ hdd (Nat.lt_of_succ_lt_succ hF1) (Nat.lt_of_succ_lt_succ hF2) hI2
      simp only at r2 r3
      refine ⟨st', MC', MR', by rw [hl]; exact ⟨_, ⟨c', l3, l9, by rw [hv]⟩, r1⟩, ?_, ?_, r4, ?_, ?_, ?_⟩
      · rw [if_pos (c := 0 ≤ ((k % 6 : Nat) : Int) ∧ ((k % 6 : Nat) : Int) < S 0 12 ∧ ((k % 6 : Nat) : Int) < 6) ⟨ha.1, ha.2, ha6⟩, ek13 _ ha.1 ha.2, Int.toNat_natCast, if_pos ck.2, l1, ClS]
        by_cases c : v < 1000
        · have el : loV v = v := if_pos c
          rw [if_pos c]
          rw [el] at r2
          exact (hcl v).trans r2
        · have el : loV v = -1 := if_neg c
          rw [if_neg c]
          rw [el] at r2
          exact (hcl (-1)).trans r2
      · obtain ⟨hix, hwx⟩ := ix_bd (k := k) p36
        have hg30 : 0 ≤ ((k / 6 : Nat) : Int) ∧ ((k / 6 : Nat) : Int) < 30 := ⟨hn.1, Int.lt_of_lt_of_le hn.2 h35.2⟩
        rw [if_neg (Int.not_le.mpr ha.2), gdE ⟨ha.1, ha6⟩, Int.toNat_natCast, if_neg (fun q => q ck.2), l2, ClS, gdE hg30, Int.toNat_natCast, e36, hwx, hwk]
        generalize 6 * S 36 (k / 6) + ((k % 6 : Nat) : Int) = ix at hix e55 r3
        have hrl : ∀ w : Int, (gd (0 ≤ ix ∧ ix < 360) (if ¬ b2i st.2.2.2 = 0 then Lp (f_X12_changes_L8_78 J2) H (1, ((k + 1 : Nat) : Int), up MR1 56 ix.toNat w) else gd (0 ≤ ix ∧ ix < 360) (gd (0 ≤ ix ∧ ix < 360) (if up MR1 56 ix.toNat w 56 ix.toNat = up MR1 56 ix.toNat w 55 ix.toNat then Lp (f_X12_changes_L8_78 J2) H (0, ((k + 1 : Nat) : Int), up MR1 56 ix.toNat w) else Lp (f_X12_changes_L8_78 J2) H (1, ((k + 1 : Nat) : Int), up MR1 56 ix.toNat w))))) = Lp (f_X12_changes_L8_78 J2) H (b2i (st.2.2.2 || decide (w ≠ rg k)), ((k + 1 : Nat) : Int), up MR1 56 ix.toNat w) := by
          intro w
          rw [gdE hix, gdE hix, gdE hix, up_at, up_ne _ _ _ (show (55 : Nat) ≠ 56 by decide), e55]
          cases st.2.2.2 with
          | true => rfl
          | false =>
            rw [if_neg (by decide)]
            by_cases c : w = rg k
            · rw [if_pos c, decide_eq_false (fun q => q c)]; rfl
            · rw [if_neg c, decide_eq_true c]; rfl
        by_cases c : pv S v < 1000
        · have el : loV v = pv S v := by rw [← hpl, if_pos c]
          rw [if_pos c]
          rw [el] at r3
          exact (hrl _).trans r3
        · have el : loV v = -1 := by rw [← hpl, if_neg c]
          rw [if_neg c]
          rw [el] at r3
          exact (hrl _).trans r3
      · refine ⟨fun j a b c d e f => ?_, fun i hi => ?_⟩
        · rw [r5.1 j a b c d e f, up_ne _ _ _ f]
          exact l10.1 j (fun q => a (by rw [q]; decide)) (fun q => a (by rw [q]; decide)) (fun q => a (by rw [q]; decide)) b c d e
        · have hik : i ≠ k := fun q => hi (by rw [q]; exact ⟨ck.1, ck.2, by rw [← hdd]; exact Nat.lt_of_lt_of_le (Nat.lt_succ_self k) (Nat.le_add_right _ _)⟩)
          rw [r5.2 i hi]
          have x1 : up MC1 677 k (loV v) 677 i = MC1 677 i := by simp [up, hik]
          rw [x1, l10.1 677 (by decide) (by decide) (by decide) (by decide) (by decide) (by decide) (by decide)]
      · exact ⟨fun j a b c d => by rw [r6.1 j a b c d, up_ne _ _ _ c]; exact l11.1 j a b d, fun j hj i hi => by rw [r6.2.1 j hj i hi, up_ne _ _ _ (fun q => absurd hj.2 (by rw [q]; decide))]; exact l11.2.1 j hj i (fun n a n0 n1 a0 a1 _ => hi n a n0 n1 a0 a1), fun i a b c d e f g h => by rw [r6.2.2 i a b c d e f g h, up_ne _ _ _ (by decide)]; exact l11.2.2 i a b c d e f g h⟩
      · rw [r7, up_ne _ _ _ (by decide)]; exact l12
