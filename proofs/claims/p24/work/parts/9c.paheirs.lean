/-! the class takes the new tree -/
theorem c_takeTree (C : Mm) : ∃ C', f_X8_take 283 291 C = some (0, C') ∧ (∀ j, ¬ (283 ≤ j ∧ j ≤ 289) → C' j = C j) ∧ (C' 283 0 = C 291 0 ∧ C' 283 1 = C 291 1) ∧ (∀ i, i < 30 → C' 284 i = C 292 i ∧ C' 285 i = C 293 i ∧ C' 286 i = C 294 i ∧ C' 287 i = C 295 i ∧ C' 289 i = C 297 i) ∧ ∀ i, i < 90 → C' 288 i = C 296 i := by
  unfold f_X8_take
  simp only [LtE]
  show ∃ C', (Cl (f_X11_copyRow 292 284 _) fun _ M5 => Cl (f_X11_copyRow 293 285 M5) fun _ M6 => Cl (f_X11_copyRow 294 286 M6) fun _ M7 => Cl (f_X11_copyRow 295 287 M7) fun _ M8 => Cl (f_X11_copyRow 296 288 M8) fun _ M9 => Cl (f_X11_copyRow 297 289 M9) fun _ M10 => some (0, M10)) = some (0, C') ∧ _
  rw [c_copyRow (by rw [alenC_292, alenC_284]) (by decide), ClS, c_copyRow (by rw [alenC_293, alenC_285]) (by decide), ClS, c_copyRow (by rw [alenC_294, alenC_286]) (by decide), ClS, c_copyRow (by rw [alenC_295, alenC_287]) (by decide), ClS, c_copyRow (by rw [alenC_296, alenC_288]) (by decide), ClS, c_copyRow (by rw [alenC_297, alenC_289]) (by decide), ClS]
  generalize hC0 : up (up C 283 0 (C 291 0)) 283 1 (up C 283 0 (C 291 0) 291 1) = C0
  have c0 : ∀ j, j ≠ 283 → C0 j = C j := fun j hj => by rw [← hC0, up_ne _ _ _ hj, up_ne _ _ _ hj]
  have c01 : C0 283 0 = C 291 0 ∧ C0 283 1 = C 291 1 := by rw [← hC0]; simp [up]
  refine ⟨_, rfl, fun j hj => ?_, ?_, fun i hi => ?_, fun i hi => ?_⟩
  · rw [sr_ne _ _ (by omega), sr_ne _ _ (by omega), sr_ne _ _ (by omega), sr_ne _ _ (by omega), sr_ne _ _ (by omega), sr_ne _ _ (by omega), c0 j (by omega)]
  · rw [sr_ne _ _ (show (283 : Nat) ≠ 289 by decide), sr_ne _ _ (show (283 : Nat) ≠ 288 by decide), sr_ne _ _ (show (283 : Nat) ≠ 287 by decide), sr_ne _ _ (show (283 : Nat) ≠ 286 by decide), sr_ne _ _ (show (283 : Nat) ≠ 285 by decide), sr_ne _ _ (show (283 : Nat) ≠ 284 by decide)]
    exact c01
  · refine ⟨?_, ?_, ?_, ?_, ?_⟩
    · rw [sr_ne _ _ (show (284 : Nat) ≠ 289 by decide), sr_ne _ _ (show (284 : Nat) ≠ 288 by decide), sr_ne _ _ (show (284 : Nat) ≠ 287 by decide), sr_ne _ _ (show (284 : Nat) ≠ 286 by decide), sr_ne _ _ (show (284 : Nat) ≠ 285 by decide), sr_at, alenC_284, if_pos hi, c0 292 (by decide)]
    · rw [sr_ne _ _ (show (285 : Nat) ≠ 289 by decide), sr_ne _ _ (show (285 : Nat) ≠ 288 by decide), sr_ne _ _ (show (285 : Nat) ≠ 287 by decide), sr_ne _ _ (show (285 : Nat) ≠ 286 by decide), sr_at, alenC_285, if_pos hi, sr_ne _ _ (show (293 : Nat) ≠ 284 by decide), c0 293 (by decide)]
    · rw [sr_ne _ _ (show (286 : Nat) ≠ 289 by decide), sr_ne _ _ (show (286 : Nat) ≠ 288 by decide), sr_ne _ _ (show (286 : Nat) ≠ 287 by decide), sr_at, alenC_286, if_pos hi, sr_ne _ _ (show (294 : Nat) ≠ 285 by decide), sr_ne _ _ (show (294 : Nat) ≠ 284 by decide), c0 294 (by decide)]
    · rw [sr_ne _ _ (show (287 : Nat) ≠ 289 by decide), sr_ne _ _ (show (287 : Nat) ≠ 288 by decide), sr_at, alenC_287, if_pos hi, sr_ne _ _ (show (295 : Nat) ≠ 286 by decide), sr_ne _ _ (show (295 : Nat) ≠ 285 by decide), sr_ne _ _ (show (295 : Nat) ≠ 284 by decide), c0 295 (by decide)]
    · rw [sr_at, alenC_289, if_pos hi, sr_ne _ _ (show (297 : Nat) ≠ 288 by decide), sr_ne _ _ (show (297 : Nat) ≠ 287 by decide), sr_ne _ _ (show (297 : Nat) ≠ 286 by decide), sr_ne _ _ (show (297 : Nat) ≠ 285 by decide), sr_ne _ _ (show (297 : Nat) ≠ 284 by decide), c0 297 (by decide)]
  · rw [sr_ne _ _ (show (288 : Nat) ≠ 289 by decide), sr_at, alenC_288, if_pos hi, sr_ne _ _ (show (296 : Nat) ≠ 287 by decide), sr_ne _ _ (show (296 : Nat) ≠ 286 by decide), sr_ne _ _ (show (296 : Nat) ≠ 285 by decide), sr_ne _ _ (show (296 : Nat) ≠ 284 by decide), c0 296 (by decide)]
/-! nodes and their heirs -/
theorem gone_child {R R1 : Mm} {H G : Nat → Int} (hT : Trr R) (hT1 : Trr R1) (e4 : R1 4 = R 4) (h : ∀ m : Nat, (m : Int) < R 0 35 → HrE R R1 H m) (h1 : ∀ x : Nat, (x : Int) < R1 0 35 → HrE R1 R G x) {m : Nat} (hm : (m : Int) < R 0 35) (hm0 : m ≠ 0) (hg : H m = -1) {y : Nat} (hy : H (R 32 m).toNat = (y : Int)) : ∃ x : Nat, (x : Int) < R1 0 35 ∧ x ≠ 0 ∧ R1 32 x = (y : Int) ∧ G x = -1 := by
  have hn := hT.2 m hm
  have h7 := hn.2.2.2.2.2.2.1 (by omega)
  have hpn : (((R 32 m).toNat : Nat) : Int) = R 32 m := Int.toNat_of_nonneg h7.1
  have hinv := HrE.inv hT hT1 e4 h h1 (R 32 m).toNat (by omega) y hy
  rcases (h (R 32 m).toNat (by omega)).ok with z | ⟨⟨b1, b2, b3, b4⟩, -⟩
  · omega
  · rw [hy] at b2 b3
    rw [Int.toNat_natCast] at b3
    have hny := hT1.2 y b2
    have hch := hny.2.2.2.2.2.2.2 (R 33 m).toNat (by rw [e4, ← b3]; omega)
    have hxn : (((R1 34 (3 * y + (R 33 m).toNat)).toNat : Nat) : Int) = R1 34 (3 * y + (R 33 m).toNat) := Int.toNat_of_nonneg (by omega)
    refine ⟨(R1 34 (3 * y + (R 33 m).toNat)).toNat, by omega, by omega, hch.2.2.1, ?_⟩
    rcases (h1 (R1 34 (3 * y + (R 33 m).toNat)).toNat (by omega)).ok with z | ⟨⟨c1, c2, c3, c4⟩, q⟩
    · exact z
    · exfalso
      unfold cnd0 at q
      rw [if_neg (by omega), hch.2.2.1, hch.2.2.2, Int.toNat_natCast, hinv.2, if_neg (by omega), hpn] at q
      have e6 : 3 * R 32 m + (((R 33 m).toNat : Nat) : Int) = 3 * R 32 m + R 33 m := by omega
      rw [e6, h7.2.2.2.2] at q
      have := (HrE.inv hT1 hT e4.symm h1 h (R1 34 (3 * y + (R 33 m).toNat)).toNat (by omega) m q).2
      omega
theorem touch_iff {R R1 : Mm} {H G : Nat → Int} (hT : Trr R) (hT1 : Trr R1) (e4 : R1 4 = R 4) (h : ∀ m : Nat, (m : Int) < R 0 35 → HrE R R1 H m) (h1 : ∀ x : Nat, (x : Int) < R1 0 35 → HrE R1 R G x) {m : Nat} (hm : (m : Int) < R 0 35) :
    (∃ i : Nat, i < (R 0 35).toNat ∧ H i = -1 ∧ (m = i ∨ (m : Int) = R 32 i)) ↔ (H m = -1 ∨ ∃ x : Nat, (x : Int) < R1 0 35 ∧ G x = -1 ∧ x ≠ 0 ∧ G (R1 32 x).toNat = (m : Int)) := by
  constructor
  · rintro ⟨i, i1, i2, i3⟩
    rcases i3 with e | e
    · left; rw [e]; exact i2
    · by_cases c : H m = -1
      · exact Or.inl c
      · right
        have i0 : i ≠ 0 := fun z => by
          have := ((hT.2 i (by omega)).2.2.2.2.2.1 z).1
          omega
        rcases (h m hm).ok with z | ⟨⟨b1, b2, -⟩, -⟩
        · exact absurd z c
        · have hy : (((H m).toNat : Nat) : Int) = H m := Int.toNat_of_nonneg b1
          obtain ⟨x, x1, x2, x3, x4⟩ := gone_child hT hT1 e4 h h1 (m := i) (by omega) i0 i2 (y := (H m).toNat) (by rw [← e, Int.toNat_natCast, hy])
          refine ⟨x, x1, x4, x2, ?_⟩
          rw [x3, Int.toNat_natCast]
          exact (HrE.inv hT hT1 e4 h h1 m hm (H m).toNat hy.symm).2
  · rintro (c | ⟨x, x1, x2, x3, x4⟩)
    · exact ⟨m, by omega, c, Or.inl rfl⟩
    · obtain ⟨i, i1, i2, i3, i4⟩ := gone_child hT1 hT e4.symm h1 h x1 x3 x2 x4
      exact ⟨i, by omega, i4, Or.inr i3.symm⟩
/-- the parent of an heir is the parent's heir -/
theorem heir_parent {R R1 : Mm} {H : Nat → Int} (hT : Trr R) (hT1 : Trr R1) (e4 : R1 4 = R 4) (h : ∀ m : Nat, (m : Int) < R 0 35 → HrE R R1 H m) {m : Nat} (hm : (m : Int) < R 0 35) (hm0 : m ≠ 0) (hk : H m ≠ -1) : H (R 32 m).toNat ≠ -1 ∧ R1 32 (H m).toNat = H (R 32 m).toNat ∧ R1 33 (H m).toNat = R 33 m ∧ (H m).toNat ≠ 0 ∧ H m = R1 34 (3 * H (R 32 m).toNat + R 33 m).toNat := by
  have h7 := (hT.2 m hm).2.2.2.2.2.2.1 (by omega)
  rcases (h m hm).ok with z | ⟨⟨a1, a2, -⟩, q⟩
  · exact absurd z hk
  · unfold cnd0 at q
    rw [if_neg hm0] at q
    by_cases cp : H (R 32 m).toNat = -1
    · rw [if_pos cp] at q; exact absurd q hk
    · rw [if_neg cp] at q
      rcases (h (R 32 m).toNat (by omega)).ok with z | ⟨⟨b1, b2, b3, b4⟩, -⟩
      · exact absurd z cp
      · have hny := hT1.2 (H (R 32 m).toNat).toNat (by omega)
        have hch := hny.2.2.2.2.2.2.2 (R 33 m).toNat (by rw [e4, ← b3]; omega)
        have ei : 3 * (H (R 32 m).toNat).toNat + (R 33 m).toNat = (3 * H (R 32 m).toNat + R 33 m).toNat := by omega
        rw [ei, ← q] at hch
        exact ⟨cp, by omega, by omega, by omega, q⟩
/-- when all nodes are kept the tree is the same -/
theorem same_tree {R R1 : Mm} {H G : Nat → Int} (hT : Trr R) (hT1 : Trr R1) (hp : PRo R) (hp1 : PRo R1) (e4 : R1 4 = R 4) (h : ∀ m : Nat, (m : Int) < R 0 35 → HrE R R1 H m) (h1 : ∀ x : Nat, (x : Int) < R1 0 35 → HrE R1 R G x) (hn : R1 0 35 = R 0 35) (ha : ∀ m : Nat, (m : Int) < R 0 35 → H m ≠ -1) (ha1 : ∀ x : Nat, (x : Int) < R1 0 35 → G x ≠ -1) : ∀ m : Nat, (m : Int) < R 0 35 → H m = (m : Int) ∧ G m = (m : Int) := by
  intro m
  induction m using Nat.strongRecOn with
  | ind m ih =>
    intro hm
    have i1 := HrE.inv hT hT1 e4 h h1
    have i2 := HrE.inv hT1 hT e4.symm h1 h
    have key : H m = (m : Int) → H m = (m : Int) ∧ G m = (m : Int) := fun e => ⟨e, (i1 m hm m e).2⟩
    by_cases c0 : m = 0
    · rcases (h m hm).ok with z | ⟨-, q⟩
      · exact absurd z (ha m hm)
      · unfold cnd0 at q
        rw [if_pos c0] at q
        exact key (by omega)
    · have hpr := heir_parent hT hT1 e4 h hm c0 (ha m hm)
      have hpr1 := heir_parent hT1 hT e4.symm h1 (m := m) (by omega) c0 (ha1 m (by omega))
      have h7 := (hT.2 m hm).2.2.2.2.2.2.1 (by omega)
      have h71 := (hT1.2 m (by omega)).2.2.2.2.2.2.1 (by omega)
      have jp := ih (R 32 m).toNat (by omega) (by omega)
      have jp1 := ih (R1 32 m).toNat (by omega) (by omega)
      have hpn : (((R 32 m).toNat : Nat) : Int) = R 32 m := Int.toNat_of_nonneg h7.1
      have hpn1 : (((R1 32 m).toNat : Nat) : Int) = R1 32 m := Int.toNat_of_nonneg h71.1
      rcases (h m hm).ok with z | ⟨⟨b1, b2, b3, b4⟩, -⟩
      · exact absurd z (ha m hm)
      rcases (h1 m (by omega)).ok with z | ⟨⟨d1, d2, d3, d4⟩, -⟩
      · exact absurd z (ha1 m (by omega))
      have hy : (((H m).toNat : Nat) : Int) = H m := Int.toNat_of_nonneg b1
      have hy1 : (((G m).toNat : Nat) : Int) = G m := Int.toNat_of_nonneg d1
      -- neither is ahead
      have l1 : (m : Int) ≤ H m := by
        refine Classical.byContradiction fun hlt => ?_
        have z := (ih (H m).toNat (by omega) (by omega)).2
        have := (i1 m hm (H m).toNat hy.symm).2
        omega
      have l2 : (m : Int) ≤ G m := by
        refine Classical.byContradiction fun hlt => ?_
        have z := (ih (G m).toNat (by omega) (by omega)).1
        have := (i2 m (by omega) (G m).toNat hy1.symm).2
        omega
      have q5 := hpr.2.2.2.2
      have q51 := hpr1.2.2.2.2
      rw [jp.1, hpn] at q5
      rw [jp1.2, hpn1] at q51
      rcases (h (R 32 m).toNat (by omega)).ok with z | ⟨⟨-, -, e3, -⟩, -⟩
      · exact absurd z (ha _ (by omega))
      rcases (h1 (R1 32 m).toNat (by omega)).ok with z | ⟨⟨-, -, f3, -⟩, -⟩
      · exact absurd z (ha1 _ (by omega))
      rw [jp.1, Int.toNat_natCast] at e3
      rw [jp1.2, Int.toNat_natCast] at f3
      -- both ways
      have u1 := hp1 m (R 32 m).toNat (R 33 m).toNat (by omega) (by omega) (by omega) (by rw [e4, ← e3]; omega) (by
        rw [show 3 * (R 32 m).toNat + (R 33 m).toNat = (3 * R 32 m + R 33 m).toNat by omega, ← q5]; exact l1)
      have u2 := hp m (R1 32 m).toNat (R1 33 m).toNat hm (by omega) (by omega) (by rw [← e4, ← f3]; omega) (by
        rw [show 3 * (R1 32 m).toNat + (R1 33 m).toNat = (3 * R1 32 m + R1 33 m).toNat by omega, ← q51]; exact l2)
      have v1 : R 32 m = R1 32 m := by omega
      have v2 : R 33 m = R1 33 m := by omega
      refine key ?_
      rw [q5, v1, v2]
      exact h71.2.2.2.2
