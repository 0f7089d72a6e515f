/-! which nodes are kept: the class -/
def cnd0 (R R1 : Mm) (H : Nat → Int) (m : Nat) : Int := if m = 0 then 0 else if H (R 32 m).toNat = -1 then -1 else R1 34 (3 * H (R 32 m).toNat + R 33 m).toNat
def alk (R R1 : Mm) (m : Nat) (x : Int) : Prop := 0 ≤ x ∧ x < R1 0 35 ∧ R 30 m = R1 30 x.toNat ∧ R 35 m = R1 35 x.toNat
def HrE (R R1 : Mm) (H : Nat → Int) (m : Nat) : Prop := (alk R R1 m (cnd0 R R1 H m) → H m = cnd0 R R1 H m) ∧ (¬ alk R R1 m (cnd0 R R1 H m) → H m = -1)
/-- a tree as far as its nodes go -/
def Trr (R : Mm) : Prop := (0 ≤ R 0 35 ∧ R 0 35 ≤ 30) ∧ ∀ n : Nat, (n : Int) < R 0 35 → NodeOk R n
theorem HrE.ok {R R1 : Mm} {H : Nat → Int} {m : Nat} (h : HrE R R1 H m) : H m = -1 ∨ (alk R R1 m (H m) ∧ H m = cnd0 R R1 H m) := by
  by_cases c : alk R R1 m (cnd0 R R1 H m)
  · right
    have e := h.1 c
    rw [e]
    exact ⟨c, rfl⟩
  · exact Or.inl (h.2 c)
theorem HrE.congr {R R1 : Mm} {H H' : Nat → Int} {m : Nat} (h : HrE R R1 H m) (e1 : H' m = H m) (e2 : m ≠ 0 → H' (R 32 m).toNat = H (R 32 m).toNat) : HrE R R1 H' m := by
  have e : cnd0 R R1 H' m = cnd0 R R1 H m := by
    unfold cnd0
    by_cases c : m = 0
    · rw [if_pos c, if_pos c]
    · rw [if_neg c, if_neg c, e2 c]
  unfold HrE at *
  rw [e, e1]
  exact h
/-- both ways tell the same pairs -/
theorem HrE.inv {R R1 : Mm} {H G : Nat → Int} (hT : Trr R) (hT1 : Trr R1) (e4 : R1 4 = R 4) (h : ∀ m : Nat, (m : Int) < R 0 35 → HrE R R1 H m) (h1 : ∀ x : Nat, (x : Int) < R1 0 35 → HrE R1 R G x) : ∀ m : Nat, (m : Int) < R 0 35 → ∀ x : Nat, H m = (x : Int) → (x : Int) < R1 0 35 ∧ G x = (m : Int) := by
  intro m
  induction m using Nat.strongRecOn with
  | ind m ih =>
    intro hm x hx
    rcases (h m hm).ok with q | ⟨⟨a1, a2, a3, a4⟩, q2⟩
    · omega
    · rw [hx] at a2 a3 a4 q2
      rw [Int.toNat_natCast] at a3 a4
      refine ⟨a2, ?_⟩
      have key : cnd0 R1 R G x = (m : Int) → G x = (m : Int) := fun e => by
        have := (h1 x a2).1
        rw [e] at this
        exact this ⟨by omega, hm, by rw [Int.toNat_natCast]; exact a3.symm, by rw [Int.toNat_natCast]; exact a4.symm⟩
      by_cases c : m = 0
      · subst c
        unfold cnd0 at q2
        rw [if_pos rfl] at q2
        have : x = 0 := by omega
        subst this
        exact key rfl
      · have hn := hT.2 m hm
        have h7 := hn.2.2.2.2.2.2.1 (by omega)
        unfold cnd0 at q2
        rw [if_neg c] at q2
        by_cases cp : H (R 32 m).toNat = -1
        · rw [if_pos cp] at q2; omega
        · rw [if_neg cp] at q2
          have hp : (((R 32 m).toNat : Nat) : Int) = R 32 m := Int.toNat_of_nonneg h7.1
          rcases (h (R 32 m).toNat (by omega)).ok with z | ⟨⟨b1, b2, b3, b4⟩, -⟩
          · exact absurd z cp
          · have hy : (((H (R 32 m).toNat).toNat : Nat) : Int) = H (R 32 m).toNat := Int.toNat_of_nonneg b1
            have hG := (ih (R 32 m).toNat (by omega) (by omega) (H (R 32 m).toNat).toNat hy.symm).2
            have hny := hT1.2 (H (R 32 m).toNat).toNat (by omega)
            have hch := hny.2.2.2.2.2.2.2 (R 33 m).toNat (by rw [e4, ← b3]; omega)
            have ei : 3 * (H (R 32 m).toNat).toNat + (R 33 m).toNat = (3 * H (R 32 m).toNat + R 33 m).toNat := by omega
            rw [ei, ← q2, Int.toNat_natCast] at hch
            refine key ?_
            unfold cnd0
            rw [if_neg (by omega), hch.2.2.1, Int.toNat_natCast, hG, if_neg (by omega), hch.2.2.2, hp]
            have e5 : (R 32 m + 0 : Int) = R 32 m := by omega
            have e6 : 3 * R 32 m + (((R 33 m).toNat : Nat) : Int) = 3 * R 32 m + R 33 m := by omega
            rw [e6]
            exact h7.2.2.2.2
theorem cntm_inj {P Q : Nat → Bool} {f : Nat → Nat} : ∀ (n : Nat) {k : Nat}, (∀ i, i < n → P i = true → f i < k ∧ Q (f i) = true) → (∀ i j, i < n → j < n → P i = true → P j = true → f i = f j → i = j) → cntm P n ≤ cntm Q k := by
  intro n
  induction n generalizing Q with
  | zero => intro k _ _; exact Nat.zero_le _
  | succ n ih =>
    intro k h1 h2
    cases hp : P n with
    | false =>
      have := ih (Q := Q) (k := k) (fun i hi hP => h1 i (by omega) hP) (fun i j hi hj => h2 i j (by omega) (by omega))
      simp only [cntm, hp]
      simpa using this
    | true =>
      have q := h1 n (Nat.lt_succ_self _) hp
      have hd := cntm_drop (P := Q) (Q := fun j => Q j && decide (j ≠ f n)) (k := f n) q.2 (by simp) (fun j hj => by simp [hj]) k q.1
      have := ih (Q := fun j => Q j && decide (j ≠ f n)) (k := k) (fun i hi hP => by
        have := h1 i (by omega) hP
        refine ⟨this.1, ?_⟩
        simp only [this.2, Bool.true_and, decide_eq_true_eq]
        intro e
        have := h2 i n (by omega) (by omega) hP hp e
        omega) (fun i j hi hj => h2 i j (by omega) (by omega))
      simp only [cntm, hp]
      simp
      omega
/-- as many are kept, counted on either side -/
theorem HrE.count {R R1 : Mm} {H G : Nat → Int} (hT : Trr R) (hT1 : Trr R1) (e4 : R1 4 = R 4) (h : ∀ m : Nat, (m : Int) < R 0 35 → HrE R R1 H m) (h1 : ∀ x : Nat, (x : Int) < R1 0 35 → HrE R1 R G x) : cntm (fun m => decide (H m ≠ -1)) (R 0 35).toNat = cntm (fun x => decide (G x ≠ -1)) (R1 0 35).toNat := by
  have i1 := HrE.inv hT hT1 e4 h h1
  have i2 := HrE.inv hT1 hT e4.symm h1 h
  have n1 := hT.1
  have n2 := hT1.1
  refine Nat.le_antisymm ?_ ?_
  · refine cntm_inj (f := fun m => (H m).toNat) _ (fun m hm hP => ?_) (fun m m' hm hm' hP hP' he => ?_)
    · have hne := of_decide_eq_true hP
      rcases (h m (by omega)).ok with q | ⟨⟨a1, a2, -⟩, -⟩
      · exact absurd q hne
      · have := i1 m (by omega) (H m).toNat (by omega)
        refine ⟨by omega, decide_eq_true ?_⟩
        rw [this.2]; omega
    · have hne := of_decide_eq_true hP
      have hne' := of_decide_eq_true hP'
      rcases (h m (by omega)).ok with q | ⟨⟨a1, a2, -⟩, -⟩
      · exact absurd q hne
      · rcases (h m' (by omega)).ok with q | ⟨⟨b1, b2, -⟩, -⟩
        · exact absurd q hne'
        · have u1 := i1 m (by omega) (H m).toNat (by omega)
          have u2 := i1 m' (by omega) (H m').toNat (by omega)
          rw [he] at u1
          omega
  · refine cntm_inj (f := fun m => (G m).toNat) _ (fun m hm hP => ?_) (fun m m' hm hm' hP hP' he => ?_)
    · have hne := of_decide_eq_true hP
      rcases (h1 m (by omega)).ok with q | ⟨⟨a1, a2, -⟩, -⟩
      · exact absurd q hne
      · have := i2 m (by omega) (G m).toNat (by omega)
        refine ⟨by omega, decide_eq_true ?_⟩
        rw [this.2]; omega
    · have hne := of_decide_eq_true hP
      have hne' := of_decide_eq_true hP'
      rcases (h1 m (by omega)).ok with q | ⟨⟨a1, a2, -⟩, -⟩
      · exact absurd q hne
      · rcases (h1 m' (by omega)).ok with q | ⟨⟨b1, b2, -⟩, -⟩
        · exact absurd q hne'
        · have u1 := i2 m (by omega) (G m).toNat (by omega)
          have u2 := i2 m' (by omega) (G m').toNat (by omega)
          rw [he] at u1
          omega
/-- the class's old tree -/
def CN1 (C R : Mm) : Prop := C 283 0 = R 0 35 ∧ ∀ n : Nat, (n : Int) < R 0 35 → C 284 n = R 32 n ∧ C 285 n = R 33 n ∧ C 286 n = R 30 n ∧ C 287 n = R 31 n ∧ C 289 n = R 35 n
theorem c_compare {C1 R R1 : Mm} (hg : Okg R) (hT : Trr R) (hT1 : Trr R1) (e4 : R1 4 = R 4) (h1 : CN1 C1 R) (h2 : CN2 C1 R1) : ∃ C2, f_X8_compare 283 291 C1 = some (((cntm (fun m => decide (C2 290 m ≠ -1)) (R 0 35).toNat : Nat) : Int), C2) ∧ (∀ j, j ≠ 290 → j ≠ 295 → C2 j = C1 j) ∧ (∀ m : Nat, (m : Int) < R 0 35 → HrE R R1 (C2 290) m) ∧ ∀ x : Nat, (∃ m : Nat, (m : Int) < R 0 35 ∧ C2 290 m = (x : Int) ∧ C2 295 x = R 31 m) ∨ ((∀ m : Nat, (m : Int) < R 0 35 → C2 290 m ≠ (x : Int)) ∧ C2 295 x = C1 295 x) := by
  have n0 := hT.1
  have n1 := hT1.1
  have key : ∀ (d m F : Nat) (C : Mm), (m : Int) + d = R 0 35 → d < F → (∀ j, j ≠ 290 → j ≠ 295 → C j = C1 j) → (∀ i : Nat, i < m → HrE R R1 (C 290) i) → (∀ x : Nat, (∃ i : Nat, i < m ∧ C 290 i = (x : Int) ∧ C 295 x = R 31 i) ∨ ((∀ i : Nat, i < m → C 290 i ≠ (x : Int)) ∧ C 295 x = C1 295 x)) →
      ∃ C2, Lp (f_X8_compare_L4_45 283 291 fun v1 M2 => some (v1, M2)) F (((cntm (fun i => decide (C 290 i ≠ -1)) m : Nat) : Int), (m : Int), C) = some (((cntm (fun i => decide (C2 290 i ≠ -1)) (R 0 35).toNat : Nat) : Int), C2) ∧ (∀ j, j ≠ 290 → j ≠ 295 → C2 j = C1 j) ∧ (∀ m : Nat, (m : Int) < R 0 35 → HrE R R1 (C2 290) m) ∧ ∀ x : Nat, (∃ m : Nat, (m : Int) < R 0 35 ∧ C2 290 m = (x : Int) ∧ C2 295 x = R 31 m) ∨ ((∀ m : Nat, (m : Int) < R 0 35 → C2 290 m ≠ (x : Int)) ∧ C2 295 x = C1 295 x) := by
    intro d
    induction d with
    | zero =>
      intro m F C hm hF k1 k2 k3
      obtain ⟨G, rfl⟩ : ∃ G, F = G + 1 := ⟨F - 1, by omega⟩
      have hmm : (R 0 35).toNat = m := by omega
      refine ⟨C, ?_, k1, fun i hi => k2 i (by omega), fun x => ?_⟩
      · rw [Lp_s]
        simp only [f_X8_compare_L4_45, LtE]
        rw [k1 283 (by decide) (by decide), h1.1, if_pos (by omega), hmm]
      · rcases k3 x with ⟨i, i1, i2⟩ | ⟨q1, q2⟩
        · exact Or.inl ⟨i, by omega, i2⟩
        · exact Or.inr ⟨fun i hi => q1 i (by omega), q2⟩
    | succ d ih =>
      intro m F C hm hF k1 k2 k3
      obtain ⟨G, rfl⟩ : ∃ G, F = G + 1 := ⟨F - 1, by omega⟩
      have hmn : (m : Int) < R 0 35 := by omega
      have hn := hT.2 m hmn
      have ho := h1.2 m hmn
      -- the candidate
      have hcand : ∃ c : Int, c = cnd0 R R1 (C 290) m ∧ ∀ J : Int → Mm → Rs, (if ¬ (m : Int) = 0 then (Cl (f_X8_parentOf 283 (m : Int) C) fun v38 M37 => Cl (f_X8_heirOf 283 v38 M37) fun v40 M39 => Cl (f_X8_placeOf 283 (m : Int) M39) fun v42 M41 => Cl (f_X8_childOf 291 v40 v42 M41) fun v44 M43 => J v44 M43) else (J 0 C)) = J c C := by
        refine ⟨_, rfl, fun J => ?_⟩
        unfold cnd0
        by_cases c0 : m = 0
        · rw [if_neg (by omega), if_pos c0]
        · have h7 := hn.2.2.2.2.2.2.1 (by omega)
          have hp : (((R 32 m).toNat : Nat) : Int) = R 32 m := Int.toNat_of_nonneg h7.1
          have e284 : C (283 + 1) m = R 32 m := by
            have : C 284 = C1 284 := k1 284 (by decide) (by decide)
            show C 284 m = _
            rw [this]; exact ho.1
          have e285 : C (283 + 2) m = R 33 m := by
            have : C 285 = C1 285 := k1 285 (by decide) (by decide)
            show C 285 m = _
            rw [this]; exact ho.2.1
          have hpa : f_X8_parentOf 283 (m : Int) C = some (R 32 m, C) := by
            unfold f_X8_parentOf
            simp only [LtE]
            rw [if_neg (by omega), if_neg (by omega), gdE (by omega), Int.toNat_natCast, e284]
          have hpl : f_X8_placeOf 283 (m : Int) C = some (R 33 m, C) := by
            unfold f_X8_placeOf
            simp only [LtE]
            rw [if_neg (by omega), if_neg (by omega), gdE (by omega), Int.toNat_natCast, e285]
          have hhn : f_X8_hasNode 283 (R 32 m) C = some (1, C) := by
            unfold f_X8_hasNode
            simp only [LtE]
            rw [if_neg (by omega), k1 283 (by decide) (by decide), h1.1, if_neg (by omega)]
          have hhe : f_X8_heirOf 283 (R 32 m) C = some (C 290 (R 32 m).toNat, C) := by
            unfold f_X8_heirOf
            simp only [LtE]
            rw [hhn, ClS, if_neg (by decide), c_entryOf_in 30 alenC_290 (by omega) (by omega), ClS]
          rw [if_pos (c := ¬ (m : Int) = 0) (by omega), if_neg c0, hpa, ClS, hhe, ClS, hpl, ClS]
          have hchd : f_X8_childOf 291 (C 290 (R 32 m).toNat) (R 33 m) C = some (if C 290 (R 32 m).toNat = -1 then -1 else R1 34 (3 * C 290 (R 32 m).toNat + R 33 m).toNat, C) := by
            unfold f_X8_childOf
            simp only [LtE]
            rcases (k2 (R 32 m).toNat (by omega)).ok with z | ⟨⟨b1, b2, b3, b4⟩, -⟩
            · rw [z, if_pos (by decide), if_pos rfl]
            · have hy : (((C 290 (R 32 m).toNat).toNat : Nat) : Int) = C 290 (R 32 m).toNat := Int.toNat_of_nonneg b1
              have hc2 := (h2.2 (C 290 (R 32 m).toNat).toNat (by omega)).2.2.2.2.2 (R 33 m).toNat (by
                have := (hg.2.2.2.1 _ (hT.2 (R 32 m).toNat (by omega)).1.1 (hT.2 (R 32 m).toNat (by omega)).1.2).2
                omega)
              have h43 := (hg.2.2.2.1 _ (hT.2 (R 32 m).toNat (by omega)).1.1 (hT.2 (R 32 m).toNat (by omega)).1.2).2
              rw [e4, ← b3, if_pos (by omega)] at hc2
              have ei : 3 * (C 290 (R 32 m).toNat).toNat + (R 33 m).toNat = (3 * C 290 (R 32 m).toNat + R 33 m).toNat := by omega
              rw [ei] at hc2
              have e296 : C (291 + 5) = C1 296 := k1 296 (by decide) (by decide)
              rw [if_neg (by omega), k1 291 (by decide) (by decide), h2.1, if_neg (by omega), if_neg (by omega), if_pos (by omega), wrE (v := C 290 (R 32 m).toNat * 3) (by omega) (by omega), wrE (by omega) (by omega), if_neg (by omega), gdE (by omega), e296, show (C 290 (R 32 m).toNat * 3 + R 33 m).toNat = (3 * C 290 (R 32 m).toNat + R 33 m).toNat by omega, hc2, if_neg (by omega)]
          rw [hchd, ClS]
      obtain ⟨c, hc, hcr⟩ := hcand
      -- behind the candidate
      have hnext : ∀ (v : Int) (C' : Mm), (∀ j, j ≠ 290 → j ≠ 295 → C' j = C j) → (∀ i, i ≠ m → C' 290 i = C 290 i) → HrE R R1 (C' 290) m → (∀ x : Nat, (C' 290 m = (x : Int) ∧ C' 295 x = R 31 m) ∨ (C' 290 m ≠ (x : Int) ∧ C' 295 x = C 295 x)) → v = ((cntm (fun i => decide (C' 290 i ≠ -1)) (m + 1) : Nat) : Int) →
          ∃ C2, Lp (f_X8_compare_L4_45 283 291 fun v1 M2 => some (v1, M2)) G (v, ((m + 1 : Nat) : Int), C') = some (((cntm (fun i => decide (C2 290 i ≠ -1)) (R 0 35).toNat : Nat) : Int), C2) ∧ (∀ j, j ≠ 290 → j ≠ 295 → C2 j = C1 j) ∧ (∀ m : Nat, (m : Int) < R 0 35 → HrE R R1 (C2 290) m) ∧ ∀ x : Nat, (∃ m : Nat, (m : Int) < R 0 35 ∧ C2 290 m = (x : Int) ∧ C2 295 x = R 31 m) ∨ ((∀ m : Nat, (m : Int) < R 0 35 → C2 290 m ≠ (x : Int)) ∧ C2 295 x = C1 295 x) := by
        intro v C' f1 f2 f3 f4 f5
        rw [f5]
        refine ih (m + 1) G C' (by omega) (by omega) (fun j j1 j2 => by rw [f1 j j1 j2, k1 j j1 j2]) (fun i hi => ?_) (fun x => ?_)
        · by_cases ci : i = m
          · subst ci; exact f3
          · refine (k2 i (by omega)).congr (f2 i ci) fun hi0 => f2 _ ?_
            have := (hT.2 i (by omega)).2.2.2.2.2.2.1 (by omega)
            omega
        · rcases f4 x with q | ⟨q1, q2⟩
          · exact Or.inl ⟨m, Nat.lt_succ_self _, q⟩
          · rcases k3 x with ⟨i, i1, i2, i3⟩ | ⟨i1, i2⟩
            · exact Or.inl ⟨i, by omega, by rw [f2 i (by omega)]; exact i2, by rw [q2]; exact i3⟩
            · refine Or.inr ⟨fun i hi => ?_, by rw [q2]; exact i2⟩
              by_cases ci : i = m
              · subst ci; exact q1
              · rw [f2 i ci]; exact i1 i (by omega)
      have hcnt : ∀ (C' : Mm), (∀ i, i ≠ m → C' 290 i = C 290 i) → ((cntm (fun i => decide (C' 290 i ≠ -1)) (m + 1) : Nat) : Int) = ((cntm (fun i => decide (C 290 i ≠ -1)) m : Nat) : Int) + (if C' 290 m ≠ -1 then 1 else 0) := fun C' f2 => by
        simp only [cntm]
        rw [(cntm_congr (P := fun i => decide (C' 290 i ≠ -1)) (Q := fun i => decide (C 290 i ≠ -1)) m fun i hi => by rw [f2 i (by omega)]).1]
        by_cases q : C' 290 m ≠ -1
        · simp [q]
        · simp [q]
      rw [Lp_s]
      simp only [f_X8_compare_L4_45, LtE]
      rw [k1 283 (by decide) (by decide), h1.1, if_neg (by omega)]
      have hm290 : (m : Int).toNat = m := Int.toNat_natCast _
      have no : ¬ alk R R1 m c → ∃ C2, (Cl (f_X11_setEntry 290 (m : Int) (-1) C) fun _ M26 => Lp (f_X8_compare_L4_45 283 291 fun v1 M2 => some (v1, M2)) G (((cntm (fun i => decide (C 290 i ≠ -1)) m : Nat) : Int), wr ((m : Int) + 1), M26)) = some (((cntm (fun i => decide (C2 290 i ≠ -1)) (R 0 35).toNat : Nat) : Int), C2) ∧ (∀ j, j ≠ 290 → j ≠ 295 → C2 j = C1 j) ∧ (∀ m : Nat, (m : Int) < R 0 35 → HrE R R1 (C2 290) m) ∧ ∀ x : Nat, (∃ m : Nat, (m : Int) < R 0 35 ∧ C2 290 m = (x : Int) ∧ C2 295 x = R 31 m) ∨ ((∀ m : Nat, (m : Int) < R 0 35 → C2 290 m ≠ (x : Int)) ∧ C2 295 x = C1 295 x) := by
        intro hna
        have f2 : ∀ i, i ≠ m → up C 290 m (-1) 290 i = C 290 i := fun i hi => by simp [up, hi]
        rw [c_setEntry_in 30 alenC_290 (by omega) (by omega), ClS, hm290, wrE (by omega) (by omega)]
        have e1 : (m : Int) + 1 = ((m + 1 : Nat) : Int) := by omega
        rw [e1]
        refine hnext _ (up C 290 m (-1)) (fun j j1 j2 => up_ne _ _ _ j1) f2 ?_ (fun x => Or.inr ⟨by rw [up_at]; omega, by rw [up_ne _ _ _ (by decide)]⟩) ?_
        · have ec : cnd0 R R1 (up C 290 m (-1) 290) m = c := by
            rw [hc]
            unfold cnd0
            by_cases c0 : m = 0
            · rw [if_pos c0, if_pos c0]
            · have h7 := hn.2.2.2.2.2.2.1 (by omega)
              rw [if_neg c0, if_neg c0, f2 _ (by omega)]
          unfold HrE
          rw [ec]
          exact ⟨fun q => absurd q hna, fun _ => up_at ..⟩
        · rw [hcnt _ f2, up_at, if_neg (fun q => q rfl)]; omega
      rw [hcr]
      by_cases ca : alk R R1 m c
      case neg =>
        unfold f_X8_hasNode
        simp only [LtE]
        by_cases q0 : c < 0
        · rw [if_pos q0, ClS, if_pos rfl]
          exact no ca
        · rw [if_neg q0, k1 291 (by decide) (by decide), h2.1]
          by_cases q1 : R1 0 35 ≤ c
          · rw [if_pos q1, ClS, if_pos rfl]
            exact no ca
          · rw [if_neg q1, ClS, if_neg (by decide)]
            have hx := h2.2 c.toNat (by omega)
            have hcx : ((c.toNat : Nat) : Int) = c := Int.toNat_of_nonneg (by omega)
            have hal : f_X8_isAlike 283 (m : Int) 291 c C = some (0, C) := by
              unfold f_X8_isAlike f_X8_readAsOf
              simp only [LtE]
              have e286 : C (283 + 3) m = R 30 m := by
                show C 286 m = _
                rw [k1 286 (by decide) (by decide)]; exact ho.2.2.1
              have e294 : C (291 + 3) c.toNat = R1 30 c.toNat := by
                show C 294 c.toNat = _
                rw [k1 294 (by decide) (by decide)]; exact hx.2.2.1
              have e289 : C (283 + 6) m = R 35 m := by
                show C 289 m = _
                rw [k1 289 (by decide) (by decide)]; exact ho.2.2.2.2
              have e297 : C (291 + 6) c.toNat = R1 35 c.toNat := by
                show C 297 c.toNat = _
                rw [k1 297 (by decide) (by decide)]; exact hx.2.2.2.2.1
              rw [if_neg (by omega), if_neg (by omega), gdE (by omega), hm290, e286, ClS, if_neg (by omega), if_neg (by omega), gdE (by omega), e294, ClS]
              by_cases z1 : R 30 m = R1 30 c.toNat
              · rw [if_neg (fun q => q z1), c_entryOf_in 30 alenC_289 (by omega) (by omega), ClS, hm290, e289, c_entryOf_in 30 alenC_297 (by omega) (by omega), ClS, e297, if_pos (fun q => ca ⟨by omega, by omega, z1, q⟩)]
              · rw [if_pos (c := ¬ R 30 m = R1 30 c.toNat) z1]
            rw [hal, ClS, if_neg (fun q => q rfl)]
            exact no ca
      case pos =>
        obtain ⟨a1, a2, a3, a4⟩ := ca
        have hcx : ((c.toNat : Nat) : Int) = c := Int.toNat_of_nonneg a1
        have hx := h2.2 c.toNat (by omega)
        have hha : f_X8_hasNode 291 c C = some (1, C) := by
          unfold f_X8_hasNode
          simp only [LtE]
          rw [if_neg (by omega), k1 291 (by decide) (by decide), h2.1, if_neg (by omega)]
        have hal : f_X8_isAlike 283 (m : Int) 291 c C = some (1, C) := by
          unfold f_X8_isAlike f_X8_readAsOf
          simp only [LtE]
          have e286 : C (283 + 3) m = R 30 m := by
            show C 286 m = _
            rw [k1 286 (by decide) (by decide)]; exact ho.2.2.1
          have e294 : C (291 + 3) c.toNat = R1 30 c.toNat := by
            show C 294 c.toNat = _
            rw [k1 294 (by decide) (by decide)]; exact hx.2.2.1
          have e289 : C (283 + 6) m = R 35 m := by
            show C 289 m = _
            rw [k1 289 (by decide) (by decide)]; exact ho.2.2.2.2
          have e297 : C (291 + 6) c.toNat = R1 35 c.toNat := by
            show C 297 c.toNat = _
            rw [k1 297 (by decide) (by decide)]; exact hx.2.2.2.2.1
          rw [if_neg (by omega), if_neg (by omega), gdE (by omega), hm290, e286, ClS, if_neg (by omega), if_neg (by omega), gdE (by omega), e294, ClS, if_neg (fun q => q a3), c_entryOf_in 30 alenC_289 (by omega) (by omega), ClS, hm290, e289, c_entryOf_in 30 alenC_297 (by omega) (by omega), ClS, e297, if_neg (fun q => q a4)]
        generalize hC' : up (up C 290 m c) 295 c.toNat (R 31 m) = C'
        have f1 : ∀ j, j ≠ 290 → j ≠ 295 → C' j = C j := fun j j1 j2 => by rw [← hC', up_ne _ _ _ j2, up_ne _ _ _ j1]
        have f2 : ∀ i, C' 290 i = if i = m then c else C 290 i := fun i => by
          rw [← hC', up_ne _ _ _ (by decide)]
          by_cases ci : i = m
          · subst ci; rw [up_at, if_pos rfl]
          · rw [if_neg ci]; simp [up, ci]
        have f2' : ∀ i, i ≠ m → C' 290 i = C 290 i := fun i hi => by rw [f2, if_neg hi]
        have f3 : ∀ i, C' 295 i = if i = c.toNat then R 31 m else C 295 i := fun i => by
          rw [← hC']
          by_cases ci : i = c.toNat
          · subst ci; rw [up_at, if_pos rfl]
          · rw [if_neg ci]
            have : up (up C 290 m c) 295 c.toNat (R 31 m) 295 i = up C 290 m c 295 i := by simp [up, ci]
            rw [this, up_ne _ _ _ (by decide)]
        have e287 : up C 290 m c (283 + 4) m = R 31 m := by
          show up C 290 m c 287 m = _
          rw [up_ne _ _ _ (by decide), k1 287 (by decide) (by decide)]
          exact ho.2.2.2.1
        have hnw : f_X8_nowOf 283 (m : Int) (up C 290 m c) = some (R 31 m, up C 290 m c) := by
          unfold f_X8_nowOf
          simp only [LtE]
          rw [if_neg (by omega), if_neg (by omega), gdE (by omega), hm290, e287]
        have hrw : f_X8_rewriteTo 291 c (R 31 m) (up C 290 m c) = some (0, C') := by
          unfold f_X8_rewriteTo
          rw [c_setEntry_in 30 alenC_295 (by omega) (by omega), ClS]
          exact congrArg (fun z => some ((0 : Int), z)) hC'
        rw [hha, ClS, if_neg (by decide), hal, ClS, if_pos (by decide), c_setEntry_in 30 alenC_290 (by omega) (by omega), ClS, hm290, hnw, ClS, hrw, ClS]
        have hcle := cntm_le (fun i => decide (C 290 i ≠ -1)) m
        rw [wrE (v := ((cntm (fun i => decide (C 290 i ≠ -1)) m : Nat) : Int) + 1) (by omega) (by omega), wrE (v := (m : Int) + 1) (by omega) (by omega)]
        have e1 : (m : Int) + 1 = ((m + 1 : Nat) : Int) := by omega
        rw [e1]
        refine hnext _ C' f1 f2' ?_ (fun x => ?_) ?_
        · have ec : cnd0 R R1 (C' 290) m = c := by
            rw [hc]
            unfold cnd0
            by_cases c0 : m = 0
            · rw [if_pos c0, if_pos c0]
            · have h7 := hn.2.2.2.2.2.2.1 (by omega)
              rw [if_neg c0, if_neg c0, f2' _ (by omega)]
          unfold HrE
          rw [ec]
          exact ⟨fun _ => by rw [f2, if_pos rfl], fun q => absurd ⟨a1, a2, a3, a4⟩ q⟩
        · rw [f2, if_pos rfl, f3]
          by_cases cx : x = c.toNat
          · rw [if_pos cx]; exact Or.inl ⟨by omega, rfl⟩
          · rw [if_neg cx]; exact Or.inr ⟨by omega, rfl⟩
        · rw [hcnt _ f2', f2, if_pos rfl, if_pos (by omega)]
  have := key (R 0 35).toNat 0 FU C1 (by omega) (FU_lt (by omega)) (fun _ _ _ => rfl) (fun i hi => absurd hi (Nat.not_lt_zero _)) (fun x => Or.inr ⟨fun i hi => absurd hi (Nat.not_lt_zero _), rfl⟩)
  exact this
