/-! the whole tree, on both sides -/
theorem snoc_cases {α : Type} : ∀ l : List α, l = [] ∨ ∃ l' x, l = l' ++ [x] := by
  intro l
  induction l with
  | nil => exact Or.inl rfl
  | cons a r ih =>
    right
    rcases ih with rfl | ⟨r', x, rfl⟩
    · exact ⟨[], a, rfl⟩
    · exact ⟨a :: r', x, rfl⟩
def WrA (S R0 R : Mm) (k : Nat) : Prop := (∀ j, ((30 ≤ j ∧ j ≤ 33) ∨ j = 35) → ∀ m, k ≤ m → R j m = R0 j m) ∧ ∀ i, R 34 i = R0 34 i ∨ ∃ m c : Nat, m < k ∧ (c : Int) < S 4 (R 30 m).toNat ∧ c < 3 ∧ i = 3 * m + c
theorem WrA.step {S R0 R R' : Mm} {k : Nat} (h : WrA S R0 R k) (h' : WrN S R R' k) : WrA S R0 R' (k + 1) := by
  refine ⟨fun j hj m hm => ?_, fun i => ?_⟩
  · rw [h'.1 j hj m (by omega)]
    exact h.1 j hj m (by omega)
  · have e30 : ∀ m, m < k → R' 30 m = R 30 m := fun m hm => h'.1 30 (by simp) m (by omega)
    rcases h'.2 i with q | ⟨m, c, q1, q2, q3, q4⟩
    · rcases h.2 i with z | ⟨m, c, z1, z2, z3, z4⟩
      · exact Or.inl (q.trans z)
      · exact Or.inr ⟨m, c, by omega, by rw [e30 m z1]; exact z2, z3, z4⟩
    · exact Or.inr ⟨m, c, by omega, by rw [e30 m q1]; exact q2, q3, q4⟩
theorem build_loop {S C0 R0 : Mm} (hg : Okg S) (hl : 0 ≤ S 0 33 ∧ S 0 33 ≤ 12) (hM0 : CG C0 S) (hS0 : Stl S C0) (hG0 : Gr R0 S) (hb0 : Jb R0) (hR0 : Sol S 10000 999990000 (vW S R0)) {tot : Int} {J1 J2 : Mm → Rs} : ∀ (d : Nat) (k : Nat) (l : List Ent) (C R : Mm) (F1 F2 : Nat), (tot - k).toNat = d → d + 1 < F1 → d + 1 < F2 → FgC C0 C → FgR R0 R → WrA S R0 R k → BI S (C0 275) tot C R k l →
    ∃ C' R', Lp (f_X9_grow_L19_39 291 J1) F1 ((k : Int), C) = J1 C' ∧ Lp (f_X12_makes_L45_107 J2) F2 ((l.length : Int), R) = J2 R' ∧ FgC C0 C' ∧ FgR R0 R' ∧ WrA S R0 R' tot.toNat ∧ BI S (C0 275) tot C' R' tot.toNat [] := by
  intro d
  induction d with
  | zero =>
    intro k l C R F1 F2 hd h1 h2 hC hR hW h
    obtain ⟨G1, rfl⟩ : ∃ G, F1 = G + 1 := ⟨F1 - 1, by omega⟩
    obtain ⟨G2, rfl⟩ : ∃ G, F2 = G + 1 := ⟨F2 - 1, by omega⟩
    have hsum := h.2.2.2.2.1
    have hnd : ∀ y ∈ l, 1 ≤ ndW (C0 275) y := fun y hy => by
      have q := h.2.2.1 y hy
      obtain ⟨p, p1, p2, p3, p4⟩ := nd_pos hg hl hS0 ⟨q.1, q.2.1⟩ q.2.2.1
      exact p3
    have hlen := sumE_len l hnd
    have hsn := sumE_nn (C0 275) l
    have hl0 : l = [] := List.eq_nil_of_length_eq_zero (by omega)
    subst hl0
    have hk : tot.toNat = k := by
      have : sumE (C0 275) [] = 0 := rfl
      omega
    refine ⟨C, R, ?_, ?_, hC, hR, by rw [hk]; exact hW, by rw [hk]; exact h⟩
    · have e6 : C 273 6 = 0 := h.1.1.1
      rw [Lp_s]
      simp only [f_X9_grow_L19_39, LtE]
      split
      · rfl
      · rw [e6, if_pos (Int.le_refl _)]
    · rw [Lp_s]
      simp only [f_X12_makes_L45_107]
      rw [if_pos (by simp)]
  | succ d ih =>
    intro k l C R F1 F2 hd h1 h2 hC hR hW h
    obtain ⟨G1, rfl⟩ : ∃ G, F1 = G + 1 := ⟨F1 - 1, by omega⟩
    obtain ⟨G2, rfl⟩ : ∃ G, F2 = G + 1 := ⟨F2 - 1, by omega⟩
    rcases snoc_cases l with rfl | ⟨l', x, rfl⟩
    · have hsum := h.2.2.2.2.1
      have : sumE (C0 275) [] = 0 := rfl
      omega
    · obtain ⟨C1, R1, l1, a1, a2, a3, a4, a5, a6⟩ := h.step hg hl hM0 hS0 hG0 hb0 hR0 hC hR (J1 := J1) (J2 := J2) (F1 := G1) (F2 := G2)
      obtain ⟨C2, R2, b1, b2, b3⟩ := ih (k + 1) l1 C1 R1 G1 G2 (by omega) (by omega) (by omega) a3 a4 (hW.step a5) a6
      exact ⟨C2, R2, a1.trans b1, a2.trans b2, b3⟩
/-- the class's new tree and the reference's -/
def CN2 (C R : Mm) : Prop := C 291 0 = R 0 35 ∧ ∀ n : Nat, (n : Int) < R 0 35 → C 292 n = R 32 n ∧ C 293 n = R 33 n ∧ C 294 n = R 30 n ∧ C 295 n = R 31 n ∧ C 297 n = R 35 n ∧ ∀ c : Nat, c < 3 → C 296 (3 * n + c) = if (c : Int) < R 4 (R 30 n).toNat then R 34 (3 * n + c) else -1
theorem both_build {S C R : Mm} (hg : Okg S) (hl : 0 ≤ S 0 33 ∧ S 0 33 ≤ 12) (hM : CG C S) (hT : CT C S) (hS : Stl S C) (hG : Gr R S) (hb : Jb R) (hR : Sol S 10000 999990000 (vW S R)) (h291 : C 291 0 = 0) (hE : C 275 (wix 0 0 (S 0 33)) < 500000000) (h30 : C 275 (wix 0 0 (S 0 33)) % 100000 ≤ 30) :
    ∃ C' R', f_X9_grow 291 C = some (0, C') ∧ f_X12_makes R = some (0, R') ∧ FgC C C' ∧ FgR R R' ∧ CN2 C' R' ∧ (0 < R' 0 35 ∧ R' 0 35 ≤ 30) ∧ (∀ n : Nat, (n : Int) < R' 0 35 → NodeOk R' n ∧ R' 31 n = R' 30 n) ∧ PRo R' ∧ WrA S (sr R 0 (se (R 0) 35 0)) R' (R' 0 35).toNat := by
  have h10 := hg.1
  generalize hroot : ((0, 0, S 0 33, -1, 0) : Ent) = root
  have hnd := nd_pos hg hl hS (x := (0, 0, S 0 33, -1, 0)) ⟨show (0 : Int) ≤ 0 ∧ (0 : Int) < 4 by decide, show (0 : Int) ≤ 0 ∧ 0 ≤ S 0 33 ∧ S 0 33 ≤ S 0 33 from ⟨by decide, hl.1, Int.le_refl _⟩⟩ hE
  obtain ⟨p, -, -, hnd1, -⟩ := hnd
  -- the class begins
  generalize hC1 : up C 273 6 0 = C1
  have c1 : ∀ j, j ≠ 273 → C1 j = C j := fun j hj => by rw [← hC1, up_ne _ _ _ hj]
  have c1i : ∀ i, i ≠ 6 → C1 273 i = C 273 i := fun i hi => by rw [← hC1]; simp [up, hi]
  have hst0 : StW C1 [] := ⟨by rw [← hC1, up_at]; rfl, fun i hi => absurd hi (Nat.not_lt_zero _)⟩
  obtain ⟨C2, w1, w2, w3, w4⟩ := c9_await hst0 (by decide) (0, 0, S 0 33, -1, 0)
  simp only at w1
  have f2 : FgC C C2 := ⟨fun j a b c => by rw [w3 j a (by omega), c1 j a], fun i a b => by rw [w4 i b, c1i i b], fun i a => by rw [w3 291 (by decide) (by decide), c1 291 (by decide)]⟩
  have e291 : C2 291 0 = 0 := by rw [w3 291 (by decide) (by decide), c1 291 (by decide)]; exact h291
  -- the reference begins
  generalize hR1 : up (up (up (up (up (up R 0 35 0) 45 0 0) 46 0 0) 47 0 (S 0 33)) 48 0 (-1)) 49 0 0 = R1
  have r1 : ∀ j, j ≠ 0 → ¬ (45 ≤ j ∧ j ≤ 49) → R1 j = R j := fun j a b => by rw [← hR1, up_ne _ _ _ (by omega), up_ne _ _ _ (by omega), up_ne _ _ _ (by omega), up_ne _ _ _ (by omega), up_ne _ _ _ (by omega), up_ne _ _ _ a]
  have r10 : R1 0 = up R 0 35 0 0 := by rw [← hR1, up_ne _ _ _ (by decide), up_ne _ _ _ (by decide), up_ne _ _ _ (by decide), up_ne _ _ _ (by decide), up_ne _ _ _ (by decide)]
  have f1 : FgR R R1 := ⟨fun j a b c => r1 j a c, fun i a b c => by rw [r10]; simp [up, a]⟩
  have e35 : R1 0 35 = 0 := by rw [r10, up_at]
  have hRS : RSw R1 [(0, 0, S 0 33, -1, 0)] := by
    have := RSw.push (M := up R 0 35 0) (l := []) (fun i hi => absurd hi (Nat.not_lt_zero _)) (0, 0, S 0 33, -1, 0)
    simp only [List.length_nil, List.nil_append] at this
    rw [hR1] at this
    exact this
  have hbi : BI S (C 275) (C 275 (wix 0 0 (S 0 33)) % 100000) C2 R1 0 [(0, 0, S 0 33, -1, 0)] := by
    refine ⟨⟨w2, hRS⟩, ⟨e291, e35⟩, fun x hx => ?_, List.pairwise_singleton _ _, ⟨?_, h30⟩, fun m hm => absurd hm (Nat.not_lt_zero _), fun m c hm => absurd hm (Nat.not_lt_zero _), fun m m0 hm => absurd hm (Nat.not_lt_zero _), fun m q c m0 hm => absurd hm (Nat.not_lt_zero _)⟩
    · have := List.mem_singleton.mp hx
      subst this
      exact ⟨show (0 : Int) ≤ 0 ∧ (0 : Int) < 4 by decide, show (0 : Int) ≤ 0 ∧ 0 ≤ S 0 33 ∧ S 0 33 ≤ S 0 33 from ⟨by decide, hl.1, Int.le_refl _⟩, hE, fun _ => ⟨rfl, rfl⟩, fun q => absurd rfl q⟩
    · show ((0 : Nat) : Int) + (C 275 (wix 0 0 (S 0 33)) % 100000 + 0) = C 275 (wix 0 0 (S 0 33)) % 100000
      omega
  have hW0 : WrA S (sr R 0 (se (R 0) 35 0)) R1 0 := ⟨fun j hj m _ => by rw [r1 j (by omega) (by omega), sr_ne _ _ (by omega)], fun i => Or.inl (by rw [r1 34 (by decide) (by decide), sr_ne _ _ (by decide)])⟩
  have hG1 : Gr R1 S := hG.fg f1
  have e43 : R1 43 = R 43 := r1 43 (by decide) (by decide)
  have e44 : R1 44 = R 44 := r1 44 (by decide) (by decide)
  have hb1 : Jb R1 := by unfold Jb at hb ⊢; rw [e43, e44]; exact hb
  have ev : vW S R1 = vW S R := by
    funext c e d
    unfold vW rC rN
    rw [e43, e44]
  have hbase : WrA S R1 R1 0 := ⟨fun _ _ _ _ => rfl, fun i => Or.inl rfl⟩
  obtain ⟨C', R', b1, b2, b3, b4, b5, b6⟩ := build_loop hg hl hM hS hG1 hb1 (by rw [ev]; exact hR) (J1 := fun M4 => some (0, M4)) (J2 := fun M8 => some (0, M8)) _ 0 _ C2 R1 FU FU rfl (FU_lt (by omega)) (FU_lt (by omega)) f2 (FgR.refl R1) hbase hbi
  obtain ⟨-, ⟨x3, x4⟩, -, -, ⟨x5, x6⟩, x7, x8, x9, x10⟩ := b6
  have hnw : 1 ≤ C 275 (wix 0 0 (S 0 33)) % 100000 := hnd1
  have htot : ((C 275 (wix 0 0 (S 0 33)) % 100000).toNat : Int) = C 275 (wix 0 0 (S 0 33)) % 100000 := by omega
  have hG' : Gr R' S := hG1.fg b4
  have hnil : ∀ m c, ¬ Pnd [] m c := fun m c ⟨y, y1, _⟩ => (by cases y1)
  refine ⟨C', R', ?_, ?_, b3, f1.trans b4, ⟨by rw [x3, x4], fun n hn => ?_⟩, by rw [x4]; omega, fun n hn => ?_, fun n q c hn hn0 hq hc hle => ?_, ?_⟩
  · unfold f_X9_grow
    simp only [LtE]
    rw [hC1, c1i 0 (by decide), hT.1, w1, ClS]
    exact b1
  · unfold f_X12_makes
    simp only [LtE]
    have g0 : (0 : Nat) ≤ 0 ∧ (0 : Nat) < 64 := by decide
    have e33 : up (up (up R 0 35 0) 45 0 0) 46 0 0 0 33 = S 0 33 := by
      rw [up_ne _ _ _ (by decide), up_ne _ _ _ (by decide)]
      have : up R 0 35 0 0 33 = R 0 33 := by simp [up]
      rw [this]
      exact hG.2.2.2.2.2.2.2.2
    simp only [gdE g0]
    rw [e33]
    have hz : (0 : Int).toNat = 0 := rfl
    rw [hR1]
    exact b2
  · rw [x4] at hn
    have hb8 := x7 n (by omega)
    obtain ⟨o1, o2, o3, o4, o5, o6⟩ := hb8
    refine ⟨o6.1, o6.2.1, o6.2.2.1, by rw [o2]; exact o6.2.2.2.1, o6.2.2.2.2, fun c hc => ?_⟩
    have hb9 := x8 n c (by omega) hc
    rw [hG'.2.2.2.1]
    by_cases q : (c : Int) < S 4 (R' 30 n).toNat
    · rw [if_pos q]
      exact ((hb9.1 q).1 (hnil n c)).1
    · rw [if_neg q]
      exact hb9.2 q
  · rw [x4] at hn
    obtain ⟨o1, o2, o3, o4, o5, o6⟩ := x7 n (by omega)
    refine ⟨⟨by rw [hG'.2.2.2.2.2.2.2.1]; exact o1, by rw [hG'.2.2.2.2.2.2.2.1, o2]; exact o1, by rw [o2], by rw [o2], o3, o4, fun q => ?_, fun c hc => ?_⟩, o2⟩
    · rw [hG'.2.2.2.1]
      exact o5 q
    · rw [hG'.2.2.2.1] at hc
      have h4 := (hg.2.2.2.1 _ o1.1 o1.2).2
      have hb9 := x8 n c (by omega) (by omega)
      obtain ⟨y1, y2, y3, y4, y5⟩ := (hb9.1 hc).1 (hnil n c)
      have e3 : (3 * n + c : Nat) = 3 * n + c := rfl
      refine ⟨y2, ?_, y4, y5⟩
      rw [x4]
      exact y3
  · rw [x4] at hn
    rw [hG'.2.2.2.1] at hc
    have hqn := (x7 q (by omega)).1
    have h4 := (hg.2.2.2.1 _ hqn.1 hqn.2).2
    exact x10 n q c hn0 (by omega) hq (by omega) hc (Or.inr hle)
  · rw [x4]
    refine ⟨fun j hj m hm => ?_, fun i => ?_⟩
    · rw [b5.1 j hj m (by omega), hW0.1 j hj m (Nat.zero_le _)]
    · rcases b5.2 i with q | ⟨m, c, q1, q2⟩
      · rcases hW0.2 i with z | ⟨m, c, z1, -⟩
        · exact Or.inl (q.trans z)
        · exact absurd z1 (Nat.not_lt_zero _)
      · exact Or.inr ⟨m, c, by omega, q2⟩
