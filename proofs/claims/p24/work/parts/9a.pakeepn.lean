/-! what the reference keeps of the old tree -/
def KpR (R R1 N : Mm) (T g y : Int) : Prop :=
  (∀ j, j ≠ 31 → j ≠ 36 → j ≠ 42 → N j = R1 j) ∧
  (∀ x : Nat, (x : Int) < R1 0 35 → HrE R1 R (N 42) x) ∧
  (∀ x : Nat, (x : Int) < R1 0 35 → N 42 x ≠ -1 → N 31 x = R 31 (N 42 x).toNat ∧ N 36 x = R 36 (N 42 x).toNat) ∧
  (∀ x : Nat, ((x : Int) < R1 0 35 → N 42 x = -1) → N 31 x = R1 31 x) ∧
  (∀ x : Nat, (x : Int) < R1 0 35 → N 42 x = -1 → (0 ≤ N 36 x ∧ N 36 x < 60) ∧ (∀ m : Nat, (m : Int) < R 0 35 → R 36 m ≠ N 36 x) ∧ ∀ z : Nat, (z : Int) < R1 0 35 → N 42 z = -1 → N 36 z = N 36 x → z = x) ∧
  (0 ≤ T ∧ T < 1152921504606846976) ∧
  (0 ≤ g ∧ g < 1152921504606846976) ∧
  (∀ q : Nat, bt g q = true ↔ ∃ m : Nat, (m : Int) < R 0 35 ∧ R 36 m = (q : Int) ∧ ∀ x : Nat, (x : Int) < R1 0 35 → N 42 x ≠ (m : Int)) ∧
  (∀ q : Nat, bt T q = true ↔ bt g q = true ∨ ∃ x : Nat, (x : Int) < R1 0 35 ∧ N 42 x = -1 ∧ x ≠ 0 ∧ N 42 (R1 32 x).toNat ≠ -1 ∧ R 36 (N 42 (R1 32 x).toNat).toNat = (q : Int)) ∧
  (y ≠ 0 ↔ (∃ x : Nat, (x : Int) < R1 0 35 ∧ N 42 x = -1) ∨ T ≠ 0)
theorem KpR.row {R R1 N : Mm} {T g y : Int} (h : KpR R R1 N T g y) : ∀ j, j ≠ 31 → j ≠ 36 → j ≠ 42 → N j = R1 j := h.1
theorem KpR.heir {R R1 N : Mm} {T g y : Int} (h : KpR R R1 N T g y) : ∀ x : Nat, (x : Int) < R1 0 35 → HrE R1 R (N 42) x := h.2.1
theorem KpR.kept {R R1 N : Mm} {T g y : Int} (h : KpR R R1 N T g y) : ∀ x : Nat, (x : Int) < R1 0 35 → N 42 x ≠ -1 → N 31 x = R 31 (N 42 x).toNat ∧ N 36 x = R 36 (N 42 x).toNat := h.2.2.1
theorem KpR.new31 {R R1 N : Mm} {T g y : Int} (h : KpR R R1 N T g y) : ∀ x : Nat, ((x : Int) < R1 0 35 → N 42 x = -1) → N 31 x = R1 31 x := h.2.2.2.1
theorem KpR.new36 {R R1 N : Mm} {T g y : Int} (h : KpR R R1 N T g y) : ∀ x : Nat, (x : Int) < R1 0 35 → N 42 x = -1 → (0 ≤ N 36 x ∧ N 36 x < 60) ∧ (∀ m : Nat, (m : Int) < R 0 35 → R 36 m ≠ N 36 x) ∧ ∀ z : Nat, (z : Int) < R1 0 35 → N 42 z = -1 → N 36 z = N 36 x → z = x := h.2.2.2.2.1
theorem KpR.tb {R R1 N : Mm} {T g y : Int} (h : KpR R R1 N T g y) : 0 ≤ T ∧ T < 1152921504606846976 := h.2.2.2.2.2.1
theorem KpR.gb {R R1 N : Mm} {T g y : Int} (h : KpR R R1 N T g y) : 0 ≤ g ∧ g < 1152921504606846976 := h.2.2.2.2.2.2.1
theorem KpR.gone {R R1 N : Mm} {T g y : Int} (h : KpR R R1 N T g y) : ∀ q : Nat, bt g q = true ↔ ∃ m : Nat, (m : Int) < R 0 35 ∧ R 36 m = (q : Int) ∧ ∀ x : Nat, (x : Int) < R1 0 35 → N 42 x ≠ (m : Int) := h.2.2.2.2.2.2.2.1
theorem KpR.touch {R R1 N : Mm} {T g y : Int} (h : KpR R R1 N T g y) : ∀ q : Nat, bt T q = true ↔ bt g q = true ∨ ∃ x : Nat, (x : Int) < R1 0 35 ∧ N 42 x = -1 ∧ x ≠ 0 ∧ N 42 (R1 32 x).toNat ≠ -1 ∧ R 36 (N 42 (R1 32 x).toNat).toNat = (q : Int) := h.2.2.2.2.2.2.2.2.1
theorem KpR.isnew {R R1 N : Mm} {T g y : Int} (h : KpR R R1 N T g y) : y ≠ 0 ↔ (∃ x : Nat, (x : Int) < R1 0 35 ∧ N 42 x = -1) ∨ T ≠ 0 := h.2.2.2.2.2.2.2.2.2
theorem r_keepsNodes {R R1 : Mm} (hT : Trr R) (hP : PlO R) (hg : Okg R) (hT1 : Trr R1) (e4 : R1 4 = R 4) (hO : Old R R1) (h44 : R1 0 44 = R 0 35) : ∃ N T g y, f_X12_keepsNodes R1 = Cl (f_X12_drops T g y N) (fun _ M => some (wr (wr (100 * M 0 35) + ((cntm (fun x => decide (N 42 x ≠ -1)) (R1 0 35).toNat : Nat) : Int)), M)) ∧ KpR R R1 N T g y := by
  have n0 := hT.1
  have n1 := hT1.1
  obtain ⟨L, N, a1, a2, a3, a4, a5⟩ := r_same hT hP hg hT1 e4 hO h44 (J := fun v5 v6 M => Lp (f_X12_keepsNodes_L210_109 fun (v5 : Int) (v6 : Int) (v7 : Int) (M8 : Mm) => Lp (f_X12_keepsNodes_L262_96 (land_ v7 (lxor_ v5 (-1))) fun v12 v13 v14 M15 => if ¬ v14 = 0 then Cl (f_X12_drops v13 (land_ v7 (lxor_ v5 (-1))) 1 M15) (fun _ M => some (wr (wr (100 * M 0 35) + v12), M)) else if lcmp_ v13 0 = 0 then Cl (f_X12_drops v13 (land_ v7 (lxor_ v5 (-1))) 0 M15) (fun _ M => some (wr (wr (100 * M 0 35) + v12), M)) else Cl (f_X12_drops v13 (land_ v7 (lxor_ v5 (-1))) 1 M15) (fun _ M => some (wr (wr (100 * M 0 35) + v12), M))) FU (v5, v6, land_ v7 (lxor_ v5 (-1)), 0, 0, 0, M8)) FU (v5, v6, 0, 0, M))
  have e0 : N 0 = R1 0 := a2 0 (by decide) (by decide) (by decide)
  have e41 : ∀ m : Nat, (m : Int) < R 0 35 → N 41 m = R 36 m := fun m hm => by rw [a2 41 (by decide) (by decide) (by decide)]; exact (hO m hm).2.2.2.1
  obtain ⟨ga, b1, b2, b3⟩ := r_gone n0 hP (M := N) (by rw [e0]; exact h44) e41 (J := fun (v5 : Int) (v6 : Int) (v7 : Int) (M8 : Mm) => Lp (f_X12_keepsNodes_L262_96 (land_ v7 (lxor_ v5 (-1))) fun v12 v13 v14 M15 => if ¬ v14 = 0 then Cl (f_X12_drops v13 (land_ v7 (lxor_ v5 (-1))) 1 M15) (fun _ M => some (wr (wr (100 * M 0 35) + v12), M)) else if lcmp_ v13 0 = 0 then Cl (f_X12_drops v13 (land_ v7 (lxor_ v5 (-1))) 0 M15) (fun _ M => some (wr (wr (100 * M 0 35) + v12), M)) else Cl (f_X12_drops v13 (land_ v7 (lxor_ v5 (-1))) 1 M15) (fun _ M => some (wr (wr (100 * M 0 35) + v12), M))) FU (v5, v6, land_ v7 (lxor_ v5 (-1)), 0, 0, 0, M8)) L ((cntm (fun x => decide (N 42 x ≠ -1)) (R1 0 35).toNat : Nat) : Int)
  have hln := land_not b2 a4.1
  generalize hgd : land_ ga (lxor_ L (-1)) = g at hln
  have hstay : ∀ q : Nat, bt L q = true ↔ ∃ x : Nat, (x : Int) < R1 0 35 ∧ N 42 x ≠ -1 ∧ R 36 (N 42 x).toNat = (q : Int) := fun q => (a4.2 q).trans ⟨fun ⟨x, x1, x2⟩ => ⟨x, by omega, x2⟩, fun ⟨x, x1, x2⟩ => ⟨x, by omega, x2⟩⟩
  have hold : ∀ q : Nat, bt ga q = true ↔ ∃ m : Nat, (m : Int) < R 0 35 ∧ R 36 m = (q : Int) := fun q => (b3 q).trans ⟨fun ⟨x, x1, x2⟩ => ⟨x, by omega, x2⟩, fun ⟨x, x1, x2⟩ => ⟨x, by omega, x2⟩⟩
  have hso : ∀ q : Nat, bt L q = true → bt ga q = true := fun q hq => by
    obtain ⟨x, x1, x2, x3⟩ := (hstay q).mp hq
    rcases (a3 x x1).ok with z | ⟨⟨c1, c2, -⟩, -⟩
    · exact absurd z x2
    · exact (hold q).mpr ⟨(N 42 x).toNat, by omega, x3⟩
  have hOO : ∀ q, (bt L q || bt g q) = true ↔ ∃ m : Nat, (m : Int) < R 0 35 ∧ R 36 m = (q : Int) := fun q => by
    rw [← hold q, hln.2 q]
    have := hso q
    cases h1 : bt L q <;> cases h2 : bt ga q <;> simp
    rw [h1, h2] at this
    exact absurd (this rfl) (by decide)
  obtain ⟨T, y, N', c1, c2, c3, ⟨f, c4, c5⟩, c6, c7⟩ := r_fresh hT hT1 hP a2 a3 a5 a4.1 hln.1 hOO (J := fun v12 v13 v14 M15 => if ¬ v14 = 0 then Cl (f_X12_drops v13 g 1 M15) (fun _ M => some (wr (wr (100 * M 0 35) + v12), M)) else if lcmp_ v13 0 = 0 then Cl (f_X12_drops v13 g 0 M15) (fun _ M => some (wr (wr (100 * M 0 35) + v12), M)) else Cl (f_X12_drops v13 g 1 M15) (fun _ M => some (wr (wr (100 * M 0 35) + v12), M))) ((cntm (fun x => decide (N 42 x ≠ -1)) (R1 0 35).toNat : Nat) : Int)
  have e42 : N' 42 = N 42 := c2 42 (by decide)
  have e31 : N' 31 = N 31 := c2 31 (by decide)
  refine ⟨N', T, g, if ¬ y = 0 then 1 else if lcmp_ T 0 = 0 then 0 else 1, ?_, ⟨fun j j1 j2 j3 => by rw [c2 j j2, a2 j j1 j2 j3], fun x hx => by rw [e42]; exact a3 x hx, fun x hx hne => ?_, fun x hx => ?_, fun x hx hn => ?_, c6.1, hln.1, fun q => ?_, fun q => ?_, ?_⟩⟩
  · rw [e42]
    unfold f_X12_keepsNodes
    simp only [LtE]
    refine a1.trans (b1.trans ?_)
    rw [hgd]
    refine c1.trans ?_
    by_cases q1 : y = 0
    · rw [if_neg (c := ¬ y = 0) (fun z => z q1), if_neg (c := ¬ y = 0) (fun z => z q1)]
      by_cases q2 : lcmp_ T 0 = 0
      · rw [if_pos q2, if_pos q2]
      · rw [if_neg q2, if_neg q2]
    · rw [if_pos (c := ¬ y = 0) q1, if_pos (c := ¬ y = 0) q1]
  · rw [e42] at hne
    rw [e42, e31, c3 x hne]
    exact a5.1 x (by omega) hne
  · rw [e31]
    exact a5.2 x fun hx' => by rw [← e42]; exact hx (by omega)
  · obtain ⟨d1, d2⟩ := c5
    have z := d2 x (by omega) hn
    refine ⟨⟨z.1.1, by omega⟩, fun m hm he => ?_, fun w hw hwn he => ?_⟩
    · have : (bt L (N' 36 x).toNat || bt g (N' 36 x).toNat) = true := (hOO _).mpr ⟨m, hm, by rw [he, Int.toNat_of_nonneg z.1.1]⟩
      have z2 := z.2.1
      simp only at z2
      rw [this] at z2
      cases z2
    · rcases Nat.lt_trichotomy w x with l | l | l
      · have := z.2.2 w l hwn; omega
      · exact l
      · have := (d2 w (by omega) hwn).2.2 x l hn; omega
  · rw [hln.2 q, Bool.and_eq_true, hold, e42]
    constructor
    · rintro ⟨⟨m, m1, m2⟩, hs⟩
      refine ⟨m, m1, m2, fun x hx he => ?_⟩
      have : bt L q = true := (hstay q).mpr ⟨x, hx, by omega, by rw [he, Int.toNat_natCast]; exact m2⟩
      rw [this] at hs
      cases hs
    · rintro ⟨m, m1, m2, m3⟩
      refine ⟨⟨m, m1, m2⟩, ?_⟩
      cases hb : bt L q with
      | false => rfl
      | true =>
        obtain ⟨x, x1, x2, x3⟩ := (hstay q).mp hb
        rcases (a3 x x1).ok with z | ⟨⟨k1, k2, -⟩, -⟩
        · exact absurd z x2
        · have := (hP m m1).2 (N 42 x).toNat (by omega) (by rw [x3, m2])
          exact absurd (by omega) (m3 x x1)
  · rw [c6.2 q, e42]
    constructor
    · rintro (w | ⟨i, i1, i2⟩)
      · exact Or.inl w
      · exact Or.inr ⟨i, by omega, i2⟩
    · rintro (w | ⟨i, i1, i2⟩)
      · exact Or.inl w
      · exact Or.inr ⟨i, by omega, i2⟩
  · rw [e42, ← c7]
    by_cases q1 : y = 0
    · rw [if_neg (c := ¬ y = 0) (fun z => z q1)]
      by_cases q2 : T = 0
      · rw [if_pos ((lcmp_z _ _).mpr q2)]
        exact ⟨fun z => absurd rfl z, fun z => z.elim (fun w => absurd q1 w) fun w => absurd q2 w⟩
      · rw [if_neg (fun z => q2 ((lcmp_z _ _).mp z))]
        exact ⟨fun _ => Or.inr q2, fun _ => by decide⟩
    · rw [if_pos (c := ¬ y = 0) q1]
      exact ⟨fun _ => Or.inl q1, fun _ => by decide⟩
