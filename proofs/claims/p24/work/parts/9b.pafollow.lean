/-! the class follows nodes into the new tree -/
theorem up_off {M : Mm} {r i k : Nat} {v : Int} (h : i ≠ k) : up M r k v r i = M r i := by simp [up, h]
def hvi (H : Nat → Int) (n0 m : Int) : Int := if m < n0 then H m.toNat else -1
theorem c_heirOf {m n0 : Int} {C : Mm} (hm : 0 ≤ m) (h0 : C 283 0 = n0) (hn : n0 ≤ 30) : f_X8_heirOf 283 m C = some (hvi (C 290) n0 m, C) := by
  unfold f_X8_heirOf f_X8_hasNode hvi
  simp only [LtE]
  rw [if_neg (by omega), h0]
  by_cases c : m < n0
  · rw [if_neg (by omega), ClS, if_neg (by decide), c_entryOf_in 30 alenC_290 hm (by omega), ClS, if_pos c]
  · rw [if_pos (by omega), ClS, if_pos rfl, if_neg c]
def Tcc (R : Mm) (H : Nat → Int) (k : Nat) (b : Int) : Prop := (0 ≤ b ∧ b < 2147483648) ∧ ∀ i : Nat, bt b i = true ↔ ∃ m : Nat, m < k ∧ H m = -1 ∧ (i = m ∨ (i : Int) = R 32 m)
theorem c_touched {R C : Mm} (hT : Trr R) (h0 : C 283 0 = R 0 35) (h284 : ∀ m : Nat, (m : Int) < R 0 35 → C 284 m = R 32 m) : ∃ b, f_X8_touched 283 C = some (b, C) ∧ Tcc R (C 290) (R 0 35).toNat b := by
  have n0 := hT.1
  have key : ∀ (d k F : Nat) (b : Int), (k : Int) + d = R 0 35 → d < F → Tcc R (C 290) k b → ∃ b', Lp (f_X8_touched_L4_26 283 fun v1 M2 => some (v1, M2)) F (b, (k : Int), C) = some (b', C) ∧ Tcc R (C 290) (R 0 35).toNat b' := by
    intro d
    induction d with
    | zero =>
      intro k F b hk hF h
      obtain ⟨G, rfl⟩ : ∃ G, F = G + 1 := ⟨F - 1, by omega⟩
      have : (R 0 35).toNat = k := by omega
      refine ⟨b, ?_, by rw [this]; exact h⟩
      rw [Lp_s]
      simp only [f_X8_touched_L4_26, LtE]
      rw [h0, if_pos (by omega)]
    | succ d ih =>
      intro k F b hk hF h
      obtain ⟨G, rfl⟩ : ∃ G, F = G + 1 := ⟨F - 1, by omega⟩
      have hn := hT.2 k (by omega)
      rw [Lp_s]
      simp only [f_X8_touched_L4_26, LtE]
      rw [h0, if_neg (by omega), c_heirOf (by omega) h0 n0.2, ClS]
      have e1 : hvi (C 290) (R 0 35) (k : Int) = C 290 k := by unfold hvi; rw [if_pos (by omega), Int.toNat_natCast]
      rw [e1, wrE (by omega) (by omega), show (k : Int) + 1 = ((k + 1 : Nat) : Int) by omega]
      by_cases c : C 290 k = -1
      · have hpa : f_X8_parentOf 283 (k : Int) C = some (R 32 k, C) := by
          unfold f_X8_parentOf
          simp only [LtE]
          rw [if_neg (by omega), if_neg (by omega), gdE (by omega), Int.toNat_natCast, show C (283 + 1) k = R 32 k from h284 k (by omega)]
        have hp : R 32 k = -1 ∨ (0 ≤ R 32 k ∧ R 32 k < 30) := by
          by_cases c0 : k = 0
          · exact Or.inl (hn.2.2.2.2.2.1 c0).1
          · have := hn.2.2.2.2.2.2.1 (by omega); omega
        have b1 := bitC_ok (n := (k : Int)) (Or.inr (by omega))
        have b2 := bitC_ok hp
        have j1 := jor_nat b1.1 b2.1
        rw [if_neg (fun q => q c), c_bitOf, ClS, hpa, ClS, c_bitOf, ClS]
        refine ih (k + 1) G _ (by omega) (by omega) ⟨(jor_nat h.1 j1.1).1, fun i => ?_⟩
        rw [jor_bt h.1 j1.1, jor_bt b1.1 b2.1, Bool.or_eq_true, Bool.or_eq_true, h.2, b1.2, b2.2, decide_eq_true_iff, decide_eq_true_iff]
        constructor
        · rintro (⟨m, m1, m2⟩ | e | e)
          · exact ⟨m, by omega, m2⟩
          · exact ⟨k, Nat.lt_succ_self _, c, Or.inl (by omega)⟩
          · exact ⟨k, Nat.lt_succ_self _, c, Or.inr e⟩
        · rintro ⟨m, m1, m2, m3⟩
          by_cases cm : m = k
          · subst cm
            exact Or.inr (m3.imp (fun e => by omega) id)
          · exact Or.inl ⟨m, by omega, m2, m3⟩
      · rw [if_pos c]
        refine ih (k + 1) G b (by omega) (by omega) ⟨h.1, fun i => (h.2 i).trans ⟨fun ⟨m, m1, m2⟩ => ⟨m, by omega, m2⟩, fun ⟨m, m1, m2⟩ => ⟨m, ?_, m2⟩⟩⟩
        have : m ≠ k := fun e => c (by rw [← e]; exact m2.1)
        omega
  exact key (R 0 35).toNat 0 FU 0 (by omega) (FU_lt (by omega)) ⟨by decide, fun i => ⟨fun h => (by rw [bt0] at h; cases h), fun ⟨m, h, _⟩ => absurd h (Nat.not_lt_zero _)⟩⟩
/-- bits of nodes, as bits of their heirs -/
def hbk (H : Nat → Int) (n0 h : Int) : Nat → Int
  | 0 => 0
  | k + 1 => jor (hbk H n0 h k) (if jand h (bitC (k : Int)) = 0 then 0 else bitC (hvi H n0 (k : Int)))
theorem c_bitsInHeirs {n0 : Int} {C : Mm} (h0 : C 283 0 = n0) (hn : n0 ≤ 30) (h : Int) : f_X3_bitsInHeirs 283 h C = some (hbk (C 290) n0 h 30, C) := by
  unfold f_X3_bitsInHeirs
  simp only [LtE]
  refine Lp_for 30 (fun i => (hbk (C 290) n0 h i, (i : Int), C)) (fun rc i hi => ?_) (fun rc => ?_) (FU_lt (by omega)) rfl
  · simp only [f_X3_bitsInHeirs_L4_24, LtE]
    rw [if_neg (by omega), c_bitOf, ClS, wrE (by omega) (by omega)]
    have e : ((i + 1 : Nat) : Int) = (i : Int) + 1 := by omega
    rw [e]
    simp only [hbk]
    by_cases c : jand h (bitC (i : Int)) = 0
    · rw [if_pos c, if_pos c]
    · rw [if_neg c, if_neg c, c_heirOf (by omega) h0 hn, ClS, c_bitOf, ClS]
  · simp only [f_X3_bitsInHeirs_L4_24, LtE]
    rw [if_pos (by omega)]
theorem hbk_bt {H : Nat → Int} {n0 h : Int} (hn : n0 ≤ 30) (hh : 0 ≤ h ∧ h < 2147483648) (hH : ∀ m : Nat, (m : Int) < n0 → H m = -1 ∨ (0 ≤ H m ∧ H m < 30)) : ∀ k : Nat, k ≤ 30 → (0 ≤ hbk H n0 h k ∧ hbk H n0 h k < 2147483648) ∧ ∀ j : Nat, bt (hbk H n0 h k) j = true ↔ ∃ m : Nat, m < k ∧ bt h m = true ∧ (m : Int) < n0 ∧ H m = (j : Int) := by
  intro k
  induction k with
  | zero => intro _; exact ⟨by unfold hbk; decide, fun j => ⟨fun q => (by rw [hbk, bt0] at q; cases q), fun ⟨m, q, _⟩ => absurd q (Nat.not_lt_zero _)⟩⟩
  | succ k ih =>
    intro hk
    have I := ih (by omega)
    have b1 := bitC_ok (n := (k : Int)) (Or.inr (by omega))
    have hj := jand_ne hh b1.1
    have hv : hvi H n0 (k : Int) = -1 ∨ (0 ≤ hvi H n0 (k : Int) ∧ hvi H n0 (k : Int) < 30) := by
      unfold hvi
      by_cases c : (k : Int) < n0
      · rw [if_pos c, Int.toNat_natCast]; exact hH k c
      · rw [if_neg c]; exact Or.inl rfl
    have b2 := bitC_ok hv
    have hjk : jand h (bitC (k : Int)) ≠ 0 ↔ bt h k = true := by
      rw [hj]
      constructor
      · rintro ⟨i, i1, i2⟩
        rw [b1.2, decide_eq_true_iff] at i2
        have : i = k := by omega
        subst this; exact i1
      · intro q; exact ⟨k, q, by rw [b1.2]; simp⟩
    simp only [hbk]
    by_cases c : jand h (bitC (k : Int)) = 0
    · rw [if_pos c]
      have hz := jor_nat I.1 (y := 0) (by decide)
      refine ⟨hz.1, fun j => ?_⟩
      rw [jor_bt I.1 (by decide), bt0, Bool.or_false, I.2]
      constructor
      · rintro ⟨m, m1, m2⟩; exact ⟨m, by omega, m2⟩
      · rintro ⟨m, m1, m2⟩
        have : m ≠ k := fun e => by subst e; exact absurd c (hjk.mpr m2.1)
        exact ⟨m, by omega, m2⟩
    · rw [if_neg c]
      refine ⟨(jor_nat I.1 b2.1).1, fun j => ?_⟩
      rw [jor_bt I.1 b2.1, Bool.or_eq_true, I.2, b2.2, decide_eq_true_iff]
      constructor
      · rintro (⟨m, m1, m2⟩ | e)
        · exact ⟨m, by omega, m2⟩
        · have hkn : (k : Int) < n0 := by
            by_cases q : (k : Int) < n0
            · exact q
            · unfold hvi at e; rw [if_neg q] at e; omega
          unfold hvi at e
          rw [if_pos hkn, Int.toNat_natCast] at e
          exact ⟨k, Nat.lt_succ_self _, hjk.mp c, hkn, e.symm⟩
      · rintro ⟨m, m1, m2, m3, m4⟩
        by_cases e : m = k
        · subst e
          right
          unfold hvi
          rw [if_pos m3, Int.toNat_natCast]; exact m4.symm
        · exact Or.inl ⟨m, by omega, m2, m3, m4⟩
def vhv (H : Nat → Int) (n0 v : Int) : Int := if 1000 ≤ v then 1000 + hvi H n0 (v - 1000) else v
theorem c_valueInHeirs {n0 v : Int} {C : Mm} (h0 : C 283 0 = n0) (hn : n0 ≤ 30) (hv : v < 2000) (hH : ∀ m : Nat, (m : Int) < n0 → -1 ≤ C 290 m ∧ C 290 m < 30) : f_X3_valueInHeirs 283 v C = some (vhv (C 290) n0 v, C) := by
  unfold f_X3_valueInHeirs vhv
  simp only [LtE]
  by_cases c : 1000 ≤ v
  · have hb : -1 ≤ hvi (C 290) n0 (v - 1000) ∧ hvi (C 290) n0 (v - 1000) < 30 := by
      unfold hvi
      by_cases q : v - 1000 < n0
      · rw [if_pos q]; exact hH _ (by omega)
      · rw [if_neg q]; decide
    rw [if_pos c, if_pos c, wrE (v := v - 1000) (by omega) (by omega), c_heirOf (by omega) h0 hn, ClS, wrE (by omega) (by omega)]
  · rw [if_neg c, if_neg c]
theorem c_has {s : Nat} (hs : s < 180) (M : Mm) : f_X3_has 299 (s : Int) M = some (if M 301 s = 0 then 0 else 1, M) := by
  unfold f_X3_has
  simp only [LtE]
  rw [if_neg (by omega), if_neg (by omega), gdE (by omega), Int.toNat_natCast]
  by_cases c : M 301 s = 0
  · rw [if_pos (show M (299 + 2) s = 0 from c), if_pos c]
  · rw [if_neg (show ¬ M (299 + 2) s = 0 from c), if_neg c]
/-- the finding of a node's heir is that of the node -/
def Fln (C : Mm) (G : Nat → Int) (n1 : Int) (k x a : Nat) : Prop := (x : Int) < n1 ∧ 0 ≤ G x ∧ 6 * (G x).toNat + a < k ∧ C 301 (6 * (G x).toNat + a) ≠ 0
theorem c_follow {C : Mm} {n0 n1 : Int} {G : Nat → Int} (h0 : C 283 0 = n0) (hn0 : 0 ≤ n0 ∧ n0 ≤ 30) (hn1 : n1 ≤ 30) (hH : ∀ m : Nat, (m : Int) < n0 → C 290 m = -1 ∨ (0 ≤ C 290 m ∧ C 290 m < n1)) (hHG : ∀ m : Nat, (m : Int) < n0 → ∀ x : Nat, C 290 m = (x : Int) → G x = (m : Int)) (hGH : ∀ x : Nat, (x : Int) < n1 → ∀ m : Nat, G x = (m : Int) → (m : Int) < n0 ∧ C 290 m = (x : Int)) (hv : ∀ s : Nat, s < 180 → C 301 s ≠ 0 → C 300 s < 2000) :
    ∃ C', f_X3_follow 299 283 C = some (0, C') ∧ (∀ j, ¬ (300 ≤ j ∧ j ≤ 303) → C' j = C j) ∧ ∀ x a : Nat, x < 30 → a < 6 → (Fln C G n1 180 x a → C' 301 (6 * x + a) = hbk (C 290) n0 (C 301 (6 * (G x).toNat + a)) 30 ∧ C' 300 (6 * x + a) = vhv (C 290) n0 (C 300 (6 * (G x).toNat + a))) ∧ (¬ Fln C G n1 180 x a → C' 301 (6 * x + a) = 0) := by
  unfold f_X3_follow
  simp only [LtE]
  rw [c_fillRow, ClS]
  generalize hC1 : (sr C (299 + 4) fun j => if j < alenC (299 + 4) then 0 else C (299 + 4) j) = C1
  have c1 : ∀ j, j ≠ 303 → C1 j = C j := fun j hj => by rw [← hC1, sr_ne _ _ hj]
  have c13 : ∀ i, i < 180 → C1 303 i = 0 := fun i hi => by
    rw [← hC1, show (299 + 4 : Nat) = 303 from rfl, sr_at, alenC_303, if_pos hi]
  have key : ∀ (d k F : Nat) (M : Mm), k + d = 180 → d < F → (∀ j, j ≠ 302 → j ≠ 303 → M j = C j) → (∀ x a : Nat, x < 30 → a < 6 → (Fln C G n1 k x a → M 303 (6 * x + a) = hbk (C 290) n0 (C 301 (6 * (G x).toNat + a)) 30 ∧ M 302 (6 * x + a) = vhv (C 290) n0 (C 300 (6 * (G x).toNat + a))) ∧ (¬ Fln C G n1 k x a → M 303 (6 * x + a) = 0)) →
      ∃ M', Lp (f_X3_follow_L10_34 299 283 fun M2 => Cl (f_X11_copyRow (299 + 3) (299 + 1) M2) fun _ M4 => Cl (f_X11_copyRow (299 + 4) (299 + 2) M4) fun _ M5 => some (0, M5)) F ((k : Int), M) = some (0, M') ∧ (∀ j, ¬ (300 ≤ j ∧ j ≤ 303) → M' j = C j) ∧ ∀ x a : Nat, x < 30 → a < 6 → (Fln C G n1 180 x a → M' 301 (6 * x + a) = hbk (C 290) n0 (C 301 (6 * (G x).toNat + a)) 30 ∧ M' 300 (6 * x + a) = vhv (C 290) n0 (C 300 (6 * (G x).toNat + a))) ∧ (¬ Fln C G n1 180 x a → M' 301 (6 * x + a) = 0) := by
    intro d
    induction d with
    | zero =>
      intro k F M hk hF h1 h2
      obtain ⟨G', rfl⟩ : ∃ G', F = G' + 1 := ⟨F - 1, by omega⟩
      have hk' : k = 180 := by omega
      subst hk'
      rw [Lp_s]
      simp only [f_X3_follow_L10_34, LtE]
      rw [if_pos (by omega)]
      show ∃ M', (Cl (f_X11_copyRow 302 300 M) fun _ M4 => Cl (f_X11_copyRow 303 301 M4) fun _ M5 => some (0, M5)) = some (0, M') ∧ _
      rw [c_copyRow (by rw [alenC_302, alenC_300]) (by decide), ClS, c_copyRow (by rw [alenC_303, alenC_301]) (by decide), ClS]
      refine ⟨_, rfl, fun j hj => ?_, fun x a hx ha => ?_⟩
      · rw [sr_ne _ _ (by omega), sr_ne _ _ (by omega)]
        exact h1 j (by omega) (by omega)
      · have hlt : 6 * x + a < 180 := by omega
        rw [sr_at, sr_ne _ _ (show (300 : Nat) ≠ 301 by decide), sr_at, alenC_301, alenC_300, if_pos hlt, if_pos hlt, sr_ne _ _ (show (303 : Nat) ≠ 300 by decide)]
        exact h2 x a hx ha
    | succ d ih =>
      intro k F M hk hF h1 h2
      obtain ⟨G', rfl⟩ : ∃ G', F = G' + 1 := ⟨F - 1, by omega⟩
      have hm283 : M 283 0 = n0 := by rw [h1 283 (by decide) (by decide)]; exact h0
      have e290 : M 290 = C 290 := h1 290 (by decide) (by decide)
      have e301 : M 301 = C 301 := h1 301 (by decide) (by decide)
      have e300 : M 300 = C 300 := h1 300 (by decide) (by decide)
      have j6 := jrem_6 (k := k) (by omega)
      rw [Lp_s]
      simp only [f_X3_follow_L10_34, LtE]
      rw [if_neg (by omega), j6.2, c_heirOf (by omega) hm283 hn0.2, ClS, c_has (by omega), ClS, e301, e290, j6.1, wrE (v := (k : Int) + 1) (by omega) (by omega), show (k : Int) + 1 = ((k + 1 : Nat) : Int) by omega]
      have hkx : k = 6 * (k / 6) + k % 6 := by omega
      have stay : (C 301 k = 0 ∨ hvi (C 290) n0 ((k / 6 : Nat) : Int) = -1) → ∃ M', Lp (f_X3_follow_L10_34 299 283 fun M2 => Cl (f_X11_copyRow (299 + 3) (299 + 1) M2) fun _ M4 => Cl (f_X11_copyRow (299 + 4) (299 + 2) M4) fun _ M5 => some (0, M5)) G' (((k + 1 : Nat) : Int), M) = some (0, M') ∧ (∀ j, ¬ (300 ≤ j ∧ j ≤ 303) → M' j = C j) ∧ ∀ x a : Nat, x < 30 → a < 6 → (Fln C G n1 180 x a → M' 301 (6 * x + a) = hbk (C 290) n0 (C 301 (6 * (G x).toNat + a)) 30 ∧ M' 300 (6 * x + a) = vhv (C 290) n0 (C 300 (6 * (G x).toNat + a))) ∧ (¬ Fln C G n1 180 x a → M' 301 (6 * x + a) = 0) := fun hs => by
        refine ih (k + 1) G' M (by omega) (by omega) h1 fun x a hx ha => ?_
        have hiff : Fln C G n1 (k + 1) x a ↔ Fln C G n1 k x a := by
          constructor
          · rintro ⟨q1, q2, q3, q4⟩
            refine ⟨q1, q2, ?_, q4⟩
            refine Classical.byContradiction fun hne => ?_
            have hk2 : 6 * (G x).toNat + a = k := by omega
            have hg := hGH x q1 (G x).toNat (by omega)
            have hm : k / 6 = (G x).toNat := by omega
            rcases hs with z | z
            · rw [hk2] at q4; exact q4 z
            · unfold hvi at z
              rw [hm, if_pos hg.1, Int.toNat_natCast, hg.2] at z
              omega
          · rintro ⟨q1, q2, q3, q4⟩; exact ⟨q1, q2, by omega, q4⟩
        rw [hiff]
        exact h2 x a hx ha
      by_cases c0 : C 301 k = 0
      · rw [if_pos c0, if_pos rfl]; exact stay (Or.inl c0)
      · rw [if_neg c0, if_neg (by decide)]
        by_cases c1' : hvi (C 290) n0 ((k / 6 : Nat) : Int) = -1
        · rw [if_pos c1']; exact stay (Or.inr c1')
        · rw [if_neg c1']
          have hmn : ((k / 6 : Nat) : Int) < n0 := by
            by_cases q : ((k / 6 : Nat) : Int) < n0
            · exact q
            · unfold hvi at c1'; rw [if_neg q] at c1'; exact absurd rfl c1'
          have ehv : hvi (C 290) n0 ((k / 6 : Nat) : Int) = C 290 (k / 6) := by unfold hvi; rw [if_pos hmn, Int.toNat_natCast]
          rw [ehv] at c1' ⊢
          have hx0 : 0 ≤ C 290 (k / 6) ∧ C 290 (k / 6) < n1 := (hH (k / 6) hmn).resolve_left c1'
          have hGx := hHG (k / 6) hmn (C 290 (k / 6)).toNat (by omega)
          have hHb : ∀ m : Nat, (m : Int) < n0 → -1 ≤ M 290 m ∧ M 290 m < 30 := fun m hm => by rw [e290]; have := hH m hm; omega
          have hvo : f_X3_valueOf 299 (k : Int) M = some (C 300 k, M) := by
            unfold f_X3_valueOf
            simp only [LtE]
            rw [if_neg (by omega), if_neg (by omega), gdE (by omega), Int.toNat_natCast, show M (299 + 1) k = C 300 k from congrFun e300 k]
          have h283' : ∀ i v, up M 302 i v 283 0 = n0 := fun i v => by rw [up_ne _ _ _ (by decide)]; exact hm283
          rw [c_slotOf (by omega) (by omega), ClS, hvo, ClS, c_valueInHeirs hm283 hn0.2 (hv k (by omega) c0) hHb, ClS, c_setEntry_in 180 alenC_302 (by omega) (by omega), ClS]
          generalize hM1 : up M (299 + 3) (6 * C 290 (k / 6) + ((k % 6 : Nat) : Int)).toNat (vhv (M 290) n0 (C 300 k)) = M1
          have m1 : ∀ j, j ≠ 302 → M1 j = M j := fun j hj => by rw [← hM1, up_ne _ _ _ hj]
          have hho : f_X3_hangsOf 299 (k : Int) M1 = some (C 301 k, M1) := by
            unfold f_X3_hangsOf
            simp only [LtE]
            rw [if_neg (by omega), if_neg (by omega), gdE (by omega), Int.toNat_natCast, show M1 (299 + 2) k = C 301 k by show M1 301 k = _; rw [m1 301 (by decide), e301]]
          rw [hho, ClS, c_bitsInHeirs (by rw [m1 283 (by decide)]; exact hm283) hn0.2, ClS, c_setEntry_in 180 alenC_303 (by omega) (by omega), ClS]
          generalize hM2 : up M1 (299 + 4) (6 * C 290 (k / 6) + ((k % 6 : Nat) : Int)).toNat (hbk (M1 290) n0 (C 301 k) 30) = M2
          have m2 : ∀ j, j ≠ 302 → j ≠ 303 → M2 j = M j := fun j a b => by rw [← hM2, up_ne _ _ _ b, m1 j a]
          have ev : M 290 = C 290 := e290
          have ev1 : M1 290 = C 290 := by rw [m1 290 (by decide), e290]
          have m23 : ∀ i, M2 303 i = if i = (6 * C 290 (k / 6) + ((k % 6 : Nat) : Int)).toNat then hbk (C 290) n0 (C 301 k) 30 else M 303 i := fun i => by
            rw [← hM2, ev1]
            by_cases q : i = (6 * C 290 (k / 6) + ((k % 6 : Nat) : Int)).toNat
            · rw [if_pos q, ← q]; exact up_at ..
            · rw [if_neg q]
              have : up M1 303 (6 * C 290 (k / 6) + ((k % 6 : Nat) : Int)).toNat (hbk (C 290) n0 (C 301 k) 30) 303 i = M1 303 i := up_off q
              exact this.trans (by rw [m1 303 (by decide)])
          have m22 : ∀ i, M2 302 i = if i = (6 * C 290 (k / 6) + ((k % 6 : Nat) : Int)).toNat then vhv (C 290) n0 (C 300 k) else M 302 i := fun i => by
            have e : M2 302 = M1 302 := by rw [← hM2, up_ne _ _ _ (by decide)]
            rw [e, ← hM1, ev]
            by_cases q : i = (6 * C 290 (k / 6) + ((k % 6 : Nat) : Int)).toNat
            · rw [if_pos q, ← q]; exact up_at ..
            · rw [if_neg q]
              have : up M 302 (6 * C 290 (k / 6) + ((k % 6 : Nat) : Int)).toNat (vhv (C 290) n0 (C 300 k)) 302 i = M 302 i := up_off q
              exact this
          refine ih (k + 1) G' M2 (by omega) (by omega) (fun j a b => by rw [m2 j a b]; exact h1 j a b) fun x a hx ha => ?_
          by_cases cs : 6 * x + a = (6 * C 290 (k / 6) + ((k % 6 : Nat) : Int)).toNat
          · have hxx : x = (C 290 (k / 6)).toNat := by omega
            have haa : a = k % 6 := by omega
            have eG : G x = ((k / 6 : Nat) : Int) := by rw [hxx]; exact hGx
            have ek : 6 * (G x).toNat + a = k := by omega
            rw [m23, m22, if_pos cs, if_pos cs, ek]
            exact ⟨fun _ => ⟨rfl, rfl⟩, fun q => absurd ⟨by omega, by omega, by omega, by rw [ek]; exact c0⟩ q⟩
          · rw [m23, m22, if_neg cs, if_neg cs]
            have hiff : Fln C G n1 (k + 1) x a ↔ Fln C G n1 k x a := by
              constructor
              · rintro ⟨q1, q2, q3, q4⟩
                refine ⟨q1, q2, ?_, q4⟩
                refine Classical.byContradiction fun hne => cs ?_
                have hg := hGH x q1 (G x).toNat (by omega)
                have hm : k / 6 = (G x).toNat := by omega
                rw [hm, hg.2]; omega
              · rintro ⟨q1, q2, q3, q4⟩; exact ⟨q1, q2, by omega, q4⟩
            rw [hiff]
            exact h2 x a hx ha
  have := key 180 0 FU C1 (by omega) (FU_lt (by omega)) (fun j a b => c1 j b) fun x a hx ha => ⟨fun q => absurd q.2.2.1 (Nat.not_lt_zero _), fun _ => c13 _ (by omega)⟩
  exact this
