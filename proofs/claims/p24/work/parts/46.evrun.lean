/-! a frame of the class is run until it is settled or wants another attribute -/
def rt1 (S : Mm) (k : Nat) : Nat := (stk (eK S k) (eN S k)).reverse.getD 0 0
def rt2 (S : Mm) (k : Nat) : Nat := (stk (eK S k) (eN S k)).reverse.getD 1 0
theorem roots1 {S : Mm} {k : Nat} (hw : wfK (eK S k) (eN S k)) (hl : (stk (eK S k) (eN S k)).length = 1) : rt1 S k ∈ stk (eK S k) (eN S k) ∧ rt1 S k < eN S k ∧ sta (eK S k) 8 (rt1 S k) = 0 := by
  have e : rt1 S k = (stk (eK S k) (eN S k)).getD 0 0 := by unfold rt1; rw [rev_getD _ _ (by omega), hl]
  have hm : rt1 S k ∈ stk (eK S k) (eN S k) := by
    rw [e, List.getD_eq_getElem?_getD, List.getElem?_eq_getElem (by omega)]; exact List.getElem_mem _
  refine ⟨hm, stk_lt _ _ _ hm, ?_⟩
  rw [e, stk_sta hw _ (Nat.le_refl _) 0 (by omega), if_neg (by omega)]
theorem roots2 {S : Mm} {k : Nat} (hw : wfK (eK S k) (eN S k)) (hl : (stk (eK S k) (eN S k)).length = 2) : rt1 S k ∈ stk (eK S k) (eN S k) ∧ rt2 S k ∈ stk (eK S k) (eN S k) ∧ rt1 S k < eN S k ∧ rt2 S k < eN S k ∧ sta (eK S k) 8 (rt1 S k) = 0 ∧ sta (eK S k) 8 (rt2 S k) = rt1 S k + 1 := by
  have e1 : rt1 S k = (stk (eK S k) (eN S k)).getD 1 0 := by unfold rt1; rw [rev_getD _ _ (by omega), hl]
  have e2 : rt2 S k = (stk (eK S k) (eN S k)).getD 0 0 := by unfold rt2; rw [rev_getD _ _ (by omega), hl]
  have hm1 : rt1 S k ∈ stk (eK S k) (eN S k) := by
    rw [e1, List.getD_eq_getElem?_getD, List.getElem?_eq_getElem (by omega)]; exact List.getElem_mem _
  have hm2 : rt2 S k ∈ stk (eK S k) (eN S k) := by
    rw [e2, List.getD_eq_getElem?_getD, List.getElem?_eq_getElem (by omega)]; exact List.getElem_mem _
  refine ⟨hm1, hm2, stk_lt _ _ _ hm1, stk_lt _ _ _ hm2, ?_, ?_⟩
  · rw [e1, stk_sta hw _ (Nat.le_refl _) 1 (by omega), if_neg (by omega)]
  · rw [e2, stk_sta hw _ (Nat.le_refl _) 0 (by omega), if_pos (by omega), ← e1]
theorem clb_root {C S : Mm} {k : Nat} (h : EqF C S k) {r : Nat} (hr : r ∈ stk (eK S k) (eN S k)) (v : Int) (q : (Nat → Int) × (Nat → Int)) : clb C k 8 (r : Nat) v q = (v, (se q.1 6 ((r + 1 : Nat) : Int), q.2)) := by
  have hl := stk_lt _ _ _ hr
  have h8 := h.1.1
  have e : clb C k 8 (r : Nat) v q = if fe C k 4 (r : Nat) = -1 then (v, (se q.1 6 (wr ((r : Int) + 1)), q.2)) else if (if v < 0 then (v, q) else tku C k (fe C k 4 (r : Nat)) (r : Nat) v q).1 = -7 then (-7, (if v < 0 then (v, q) else tku C k (fe C k 4 (r : Nat)) (r : Nat) v q).2) else clb C k 7 (fe C k 4 (r : Nat)) (if v < 0 then (v, q) else tku C k (fe C k 4 (r : Nat)) (r : Nat) v q).1 (if v < 0 then (v, q) else tku C k (fe C k 4 (r : Nat)) (r : Nat) v q).2 := rfl
  rw [e, if_pos (h.2.2.2.1 r hr), wrE (by omega) (by omega)]
  rfl
def gthL (S : Mm) (L : Nat → Option (Int × Int)) (n : Int) : List (Nat × Nat) → Int → List Nat × Option Int
  | [], sum => ([], some sum)
  | (m, k) :: r, sum => bnd (evo S L m (S 31 m) 0 k 8 (rt1 S k)) fun v =>
    if v = -2 ∨ v = -3 then ([], some v)
    else if v = 1000 + n then bnd (evo S L m (S 31 m) 0 k 8 (rt2 S k)) fun w =>
      if w = -2 ∨ w = -3 then ([], some w) else gthL S L n r (if 0 ≤ w ∧ w < 1000 then jrem (wr (sum + w)) 1000 else sum)
    else gthL S L n r sum
/-- the outcome of a run: settled, or stuck at a slot -/
def Out (S : Mm) (L : Nat → Option (Int × Int)) (n a b0 : Int) (sp : List Nat × Option Int) (t : List Nat) (q' : (Nat → Int) × (Nat → Int)) : Prop :=
  q'.1 0 = n ∧ q'.1 1 = a ∧ q'.1 7 = ob L b0 t ∧ ((q'.1 9 = 1 ∧ sp = (t, some (q'.1 8)) ∧ -3 ≤ q'.1 8 ∧ q'.1 8 < 1000 + S 0 35) ∨ (VF S q' ∧ VG S q'.1 ∧ lkQ S q' ≠ -1 ∧ L (lkQ S q').toNat = none ∧ sp = (t ++ [(lkQ S q').toNat], none)))
theorem Out.cat {S : Mm} {L : Nat → Option (Int × Int)} {n a b0 b1 : Int} {sp : List Nat × Option Int} {t t1 : List Nat} {q' : (Nat → Int) × (Nat → Int)} (h : Out S L n a b1 sp t q') (hb : b1 = ob L b0 t1) : Out S L n a b0 (t1 ++ sp.1, sp.2) (t1 ++ t) q' := by
  obtain ⟨h1, h2, h3, h4⟩ := h
  refine ⟨h1, h2, by rw [h3, hb, ob_app], ?_⟩
  rcases h4 with ⟨g1, g2, g3⟩ | ⟨g1, g2, g3, g4, g5⟩
  · left; rw [g2]; exact ⟨g1, rfl, g3⟩
  · right; rw [g5]; exact ⟨g1, g2, g3, g4, by rw [List.append_assoc]⟩
theorem jrem_sum {x y : Int} (hx : 0 ≤ x ∧ x < 1000) (hy : 0 ≤ y ∧ y < 1000) : jrem (wr (x + y)) 1000 = (x + y) % 1000 := by
  unfold jrem
  have e : (x + y).tdiv 1000 = (x + y) / 1000 := Int.tdiv_eq_ediv_of_nonneg (by omega)
  rw [wrE (v := x + y) (by omega) (by omega), e, wrE (v := (x + y) / 1000) (by omega) (by omega), wrE (v := (x + y) / 1000 * 1000) (by omega) (by omega), wrE (by omega) (by omega)]
  omega
theorem g_run {S C : Mm} (hg : Okg S) (hO : Oke S) (hN : Okn S) (hE : CE C S) {L : Nat → Option (Int × Int)} (hL : ∀ s v b, L s = some (v, b) → -3 ≤ v ∧ v < 1000 + S 0 35) {n a : Int} (hn : 0 ≤ n ∧ n < S 0 35) (ha : 0 ≤ a ∧ a < S 0 12) (hk2 : S 12 a.toNat = 2) : ∀ (rem : List (Nat × Nat)) (sum : Int) (q : (Nat → Int) × (Nat → Int)), GAt S n a sum rem q.1 → i32 (q.1 7) → (0 ≤ sum ∧ sum < 1000) → ∃ N t q', N ≤ 8 * rem.length ∧ Rn S C L N q t q' ∧ Out S L n a (q.1 7) (gthL S L n rem sum) t q' := by
  have h35 := hN.1
  intro rem
  induction rem with
  | nil =>
    intro sum q hG h7 hs
    obtain ⟨g1, g2, g3⟩ := hG
    rcases g3 with ⟨_, g4, g5⟩ | ⟨m, k, g4, _⟩
    · exact ⟨0, [], q, Nat.zero_le _, ⟨rfl, rfl⟩, g1, g2, rfl, Or.inl ⟨g4, by rw [g5]; rfl, by omega, by omega⟩⟩
    · cases g4
  | cons mk rest ih =>
    intro sum q hG h7 hs
    obtain ⟨g1, g2, g3⟩ := hG
    rcases g3 with ⟨g4, _⟩ | ⟨m, k, g4, f9, f2, f3, f4, f5, f6, f10, f11, f12, hm, hk, hmt⟩
    · cases g4
    have hmk : mk = (m, k) ∧ rest = (gls S (S 31 m) a (k + 1)).map (fun k => (m, k)) ++ nls S a (m + 1) := by
      injection g4 with x1 x2; exact ⟨x1, x2⟩
    obtain ⟨rfl, hrest⟩ := hmk
    have hmi := mt_iff.mp hmt
    have hOk := hO.2.1 k hk
    have hE' := eqF_of hE hO hk
    have hlen : (stk (eK S k) (eN S k)).length = 2 := by
      have := hOk.2.2.2.2.2.2.1
      rw [hmi.2.1, if_pos hk2] at this
      exact this
    obtain ⟨r1, r2, r3, r4, r5, r6⟩ := roots2 hE'.1 hlen
    have h8 := hE'.1.1
    have hle12 := (sta_le hE'.1 8 (rt2 S k) r4 (by omega)).1
    rw [r6] at hle12
    have hmt' : mt S (S 16 k) (S 17 k) (-2) k = true := by rw [hmi.1, hmi.2.1]; exact hmt
    have hF : Fx S n a m 0 k q := ⟨f9, h7, g1, g2, f2, by rw [Int.toNat_natCast]; exact f3, f4, f5, fun _ => by
      rw [f10]; exact ⟨by omega, hk, by rw [Int.toNat_natCast]; exact hmt'⟩⟩
    have hx := fun (i : Nat) hi hi8 q hF h6 => x_expr (C := C) (L := L) (n := n) (a := a) (m := m) (h := 0) (k := k) hg hO hN hL hE' hk (by decide) hn ha ⟨by omega, hm⟩ 8 i hi hi8 q hF h6
    rw [Int.toNat_natCast] at hx
    -- what follows behind a contribution
    have nextc : ∀ (sum' : Int) (f hd : Nat → Int), (0 ≤ sum' ∧ sum' < 1000) → f 0 = n → f 1 = a → f 2 = m → f 3 = S 31 m → f 4 = 0 → f 9 = 0 → f 12 = sum' → i32 (f 7) → ∃ N t q', N ≤ 8 * rest.length ∧ Rn S C L N (bgn S f (gift S (S 31 m) a (k + 1)), hd) t q' ∧ Out S L n a (f 7) (gthL S L n rest sum') t q' := by
      intro sum' f hd hs' e0 e1 e2 e3 e4 e9 e12 e7
      have hb := bgn_spec (S := S) hN (n := n) (a := a) (m := m) (sum := sum') (g := gift S (S 31 m) a (k + 1)) (f := f) (cur := gls S (S 31 m) a (k + 1)) e0 e1 e2 (by omega) e9 e12 (fun _ _ => ⟨by rw [Int.toNat_natCast]; exact e3, e4⟩) (by
        rcases gls_gift S (S 31 m) a (k + 1) with h | ⟨g, y1, y2, y3, y4⟩
        · exact Or.inl h
        · refine Or.inr ⟨g, y1, _, y3, ?_, y2, ?_, by omega, hm⟩
          · rw [Int.toNat_natCast]
          · rw [Int.toNat_natCast]; exact y4)
      rw [Int.toNat_natCast, show ((m : Int) + 1).toNat = m + 1 by omega, ← hrest] at hb
      obtain ⟨N, t, q', z1, z2, z3⟩ := ih sum' (bgn S f (gift S (S 31 m) a (k + 1)), hd) hb.1 (by simp only; rw [hb.2]; exact e7) hs'
      simp only at z3
      rw [hb.2] at z3
      exact ⟨N, t, q', z1, z2, z3⟩
    obtain ⟨A1, A2⟩ := hx (rt1 S k) r3 (by omega) q hF (by rw [f6, r5]; rfl)
    rw [r5] at A1 A2
    simp only [gthL]
    generalize evo S L m (S 31 m) 0 k 8 (rt1 S k) = r at A1 A2
    obtain ⟨t0, o0⟩ := r
    cases o0 with
    | none =>
      obtain ⟨N, t', q', n1, n2, n3, n4, n5, n6, n7, n8, n9⟩ := A2 rfl
      refine ⟨N, t', q', by simp only [List.length_cons]; omega, n2, by rw [n8 0 (by decide) (by decide)]; exact g1, by rw [n8 1 (by decide) (by decide)]; exact g2, n9, Or.inr ⟨n3, n4, n5, n6, ?_⟩⟩
      rw [bnd_none, show t0 = t' ++ [(lkQ S q').toNat] from n7]
    | some v =>
      obtain ⟨vb, N0, q0, n0, R0, S0, b0, -⟩ := A1 v rfl
      rw [bnd_some, clb_root hE' r1]  at *
      simp only at R0 b0
      have hfin : ∀ x : (Nat → Int) × (Nat → Int), fin_ S (v, x) = tkw S x v := fun x => by unfold fin_; rw [if_neg (by simp only; omega)]
      rw [hfin] at R0
      have c0 : ∀ i, i ≠ 6 → i ≠ 7 → se q0.1 6 ((rt1 S k + 1 : Nat) : Int) i = q.1 i := fun i i6 i7 => by rw [se_ne _ _ i6]; exact S0 i i6 i7
      have c7 : se q0.1 6 ((rt1 S k + 1 : Nat) : Int) 7 = ob L (q.1 7) t0 := by rw [se_ne _ _ (by decide)]; exact b0
      have i7 : i32 (ob L (q.1 7) t0) := ob_i32 h7 t0
      generalize hq1 : se q0.1 6 ((rt1 S k + 1 : Nat) : Int) = f1 at R0 c0 c7
      have f16 : f1 6 = ((rt1 S k + 1 : Nat) : Int) := by rw [← hq1, se_at]
      have htk : ∀ (f : Nat → Int) (hd : Nat → Int) (w : Int), f 1 = a → f 10 = k → tkw S (f, hd) w = if w = -2 ∨ w = -3 then (stl f w, hd) else if f 11 = 0 ∧ w = 1000 + f 0 then (se f 11 1, hd) else (bgn S (if f 11 ≠ 0 ∧ 0 ≤ w ∧ w < 1000 then se f 12 (jrem (wr (f 12 + w)) 1000) else f) (gift S (S 31 m) a (k + 1)), hd) := by
        intro f hd w e1 e10
        unfold tkw
        simp only
        rw [e1, e10, Int.toNat_natCast, hmi.1, hmi.2.1]
        by_cases cw : w = -2 ∨ w = -3
        · rw [if_pos cw, if_pos (Or.inr cw)]
        · rw [if_neg cw, if_neg (fun q => q.elim (fun q => q hk2) cw)]
      rw [htk _ _ _ (by rw [c0 1 (by decide) (by decide)]; exact g2) (by rw [c0 10 (by decide) (by decide)]; exact f10)] at R0
      have settled : ∀ (f hd : Nat → Int) (w : Int) (t : List Nat), f 0 = n → f 1 = a → f 7 = ob L (q.1 7) t → (-3 ≤ w ∧ w < 1000 + S 0 35) → Out S L n a (q.1 7) (t, some w) t (stl f w, hd) := by
        intro f hd w t e0 e1 e7 hwb
        refine ⟨?_, ?_, ?_, Or.inl ⟨?_, ?_, ?_⟩⟩
        · unfold stl; simp only; rw [se_ne _ _ (by decide), se_ne _ _ (by decide)]; exact e0
        · unfold stl; simp only; rw [se_ne _ _ (by decide), se_ne _ _ (by decide)]; exact e1
        · unfold stl; simp only; rw [se_ne _ _ (by decide), se_ne _ _ (by decide)]; exact e7
        · unfold stl; simp only; exact se_at _ _ _
        · unfold stl; simp only; rw [se_ne _ _ (by decide), se_at]
        · unfold stl; simp only; rw [se_ne _ _ (by decide), se_at]; exact hwb
      by_cases cv : v = -2 ∨ v = -3
      · rw [if_pos cv] at R0
        rw [if_pos cv, List.append_nil]
        exact ⟨N0, t0, _, by simp only [List.length_cons]; omega, R0, settled f1 q0.2 v t0 (by rw [c0 0 (by decide) (by decide)]; exact g1) (by rw [c0 1 (by decide) (by decide)]; exact g2) c7 vb⟩
      rw [if_neg cv] at R0
      rw [if_neg cv]
      have e11 : f1 11 = 0 := by rw [c0 11 (by decide) (by decide)]; exact f11
      have e0 : f1 0 = n := by rw [c0 0 (by decide) (by decide)]; exact g1
      by_cases cr : v = 1000 + n
      · rw [if_pos (c := f1 11 = 0 ∧ _) ⟨e11, by rw [e0]; exact cr⟩] at R0
        rw [if_pos cr]
        -- the second expression
        have c2 : ∀ i, i ≠ 11 → se f1 11 1 i = f1 i := fun i hi => se_ne _ _ hi
        have F2 : Fx S n a m 0 k (se f1 11 1, q0.2) := by
          obtain ⟨u1, u2, u3, u4, u5, u6, u7, u8, u9⟩ := hF
          refine ⟨?_, ?_, ?_, ?_, ?_, ?_, ?_, ?_, ?_⟩
          · simp only; rw [c2 9 (by decide), c0 9 (by decide) (by decide)]; exact u1
          · simp only; rw [c2 7 (by decide), c7]; exact i7
          · simp only; rw [c2 0 (by decide), c0 0 (by decide) (by decide)]; exact u3
          · simp only; rw [c2 1 (by decide), c0 1 (by decide) (by decide)]; exact u4
          · simp only; rw [c2 2 (by decide), c0 2 (by decide) (by decide)]; exact u5
          · simp only; rw [c2 3 (by decide), c0 3 (by decide) (by decide)]; exact u6
          · simp only; rw [c2 4 (by decide), c0 4 (by decide) (by decide)]; exact u7
          · simp only; rw [c2 5 (by decide), c0 5 (by decide) (by decide)]; exact u8
          · unfold VG at u9 ⊢
            simp only
            rw [c2 1 (by decide), c2 10 (by decide), c0 1 (by decide) (by decide), c0 10 (by decide) (by decide)]; exact u9
        obtain ⟨B1, B2⟩ := hx (rt2 S k) r4 (by omega) (se f1 11 1, q0.2) F2 (by simp only; rw [c2 6 (by decide), f16, r6])
        rw [r6] at B1 B2
        simp only at B1 B2
        rw [c2 7 (by decide), c7] at B1 B2
        generalize evo S L m (S 31 m) 0 k 8 (rt2 S k) = r at B1 B2
        obtain ⟨t1, o1⟩ := r
        cases o1 with
        | none =>
          obtain ⟨N, t', q', n1, n2, n3, n4, n5, n6, n7, n8, n9⟩ := B2 rfl
          refine ⟨N0 + N, t0 ++ t', q', by simp only [List.length_cons]; omega, Rn_add _ _ _ _ _ _ _ R0 n2, ?_, ?_, ?_, Or.inr ⟨n3, n4, n5, n6, ?_⟩⟩
          · rw [n8 0 (by decide) (by decide)]; simp only; rw [c2 0 (by decide)]; exact e0
          · rw [n8 1 (by decide) (by decide)]; simp only; rw [c2 1 (by decide), c0 1 (by decide) (by decide)]; exact g2
          · rw [n9, ob_app]
          · rw [bnd_none]; simp only at n7 ⊢; rw [n7, List.append_assoc]
        | some w =>
          obtain ⟨wb, N1, q3, n1, R1, S3, b1, -⟩ := B1 w rfl
          rw [clb_root hE' r2] at R1
          have hfin2 : ∀ x : (Nat → Int) × (Nat → Int), fin_ S (w, x) = tkw S x w := fun x => by unfold fin_; rw [if_neg (by simp only; omega)]
          rw [hfin2] at R1
          rw [bnd_some]
          have d0 : ∀ i, i ≠ 6 → i ≠ 7 → i ≠ 11 → se q3.1 6 ((rt2 S k + 1 : Nat) : Int) i = q.1 i := fun i i6 i7 i11 => by rw [se_ne _ _ i6, S3 i i6 i7]; simp only; rw [c2 i i11]; exact c0 i i6 i7
          have d7 : se q3.1 6 ((rt2 S k + 1 : Nat) : Int) 7 = ob L (q.1 7) (t0 ++ t1) := by rw [se_ne _ _ (by decide), b1, ob_app]
          have d11 : se q3.1 6 ((rt2 S k + 1 : Nat) : Int) 11 = 1 := by rw [se_ne _ _ (by decide), S3 11 (by decide) (by decide)]; simp only; exact se_at _ _ _
          have i7' : i32 (ob L (q.1 7) (t0 ++ t1)) := ob_i32 h7 _
          generalize se q3.1 6 ((rt2 S k + 1 : Nat) : Int) = f3' at R1 d0 d7 d11
          rw [htk _ _ _ (by rw [d0 1 (by decide) (by decide) (by decide)]; exact g2) (by rw [d0 10 (by decide) (by decide) (by decide)]; exact f10)] at R1
          have R01 := Rn_add _ _ _ _ _ _ _ R0 R1
          by_cases cw : w = -2 ∨ w = -3
          · rw [if_pos cw] at R01
            rw [if_pos cw, List.append_nil]
            exact ⟨N0 + N1, t0 ++ t1, _, by simp only [List.length_cons]; omega, R01, settled f3' q3.2 w (t0 ++ t1) (by rw [d0 0 (by decide) (by decide) (by decide)]; exact g1) (by rw [d0 1 (by decide) (by decide) (by decide)]; exact g2) d7 wb⟩
          rw [if_neg cw, if_neg (c := f3' 11 = 0 ∧ _) (fun q => by rw [d11] at q; exact absurd q.1 (by decide))] at R01
          rw [if_neg cw]
          have e12 : f3' 12 = sum := by rw [d0 12 (by decide) (by decide) (by decide)]; exact f12
          have hnx : ∃ N t q', N ≤ 8 * rest.length ∧ Rn S C L N (bgn S (if f3' 11 ≠ 0 ∧ 0 ≤ w ∧ w < 1000 then se f3' 12 (jrem (wr (f3' 12 + w)) 1000) else f3') (gift S (S 31 m) a (k + 1)), q3.2) t q' ∧ Out S L n a (ob L (q.1 7) (t0 ++ t1)) (gthL S L n rest (if 0 ≤ w ∧ w < 1000 then jrem (wr (sum + w)) 1000 else sum)) t q' := by
            by_cases cs : 0 ≤ w ∧ w < 1000
            · have hj := jrem_sum hs cs
              rw [if_pos cs, if_pos ⟨by rw [d11]; decide, cs⟩, e12, ← d7]
              have := nextc (jrem (wr (sum + w)) 1000) (se f3' 12 (jrem (wr (sum + w)) 1000)) q3.2 (by rw [hj]; omega) (by rw [se_ne _ _ (by decide), d0 0 (by decide) (by decide) (by decide)]; exact g1) (by rw [se_ne _ _ (by decide), d0 1 (by decide) (by decide) (by decide)]; exact g2) (by rw [se_ne _ _ (by decide), d0 2 (by decide) (by decide) (by decide)]; exact f2) (by rw [se_ne _ _ (by decide), d0 3 (by decide) (by decide) (by decide)]; exact f3) (by rw [se_ne _ _ (by decide), d0 4 (by decide) (by decide) (by decide)]; exact f4) (by rw [se_ne _ _ (by decide), d0 9 (by decide) (by decide) (by decide)]; exact f9) (se_at _ _ _) (by rw [se_ne _ _ (by decide), d7]; exact i7')
              rw [se_ne _ _ (by decide)] at this
              exact this
            · rw [if_neg cs, if_neg (fun q => cs q.2), ← d7]
              exact nextc sum f3' q3.2 hs (by rw [d0 0 (by decide) (by decide) (by decide)]; exact g1) (by rw [d0 1 (by decide) (by decide) (by decide)]; exact g2) (by rw [d0 2 (by decide) (by decide) (by decide)]; exact f2) (by rw [d0 3 (by decide) (by decide) (by decide)]; exact f3) (by rw [d0 4 (by decide) (by decide) (by decide)]; exact f4) (by rw [d0 9 (by decide) (by decide) (by decide)]; exact f9) e12 (by rw [d7]; exact i7')
          obtain ⟨N2, t2, q', z1, z2, z3⟩ := hnx
          refine ⟨N0 + N1 + N2, t0 ++ t1 ++ t2, q', by simp only [List.length_cons]; omega, Rn_add _ _ _ _ _ _ _ R01 z2, ?_⟩
          have := z3.cat (b0 := q.1 7) (t1 := t0 ++ t1) rfl
          rw [List.append_assoc] at this
          simp only at this ⊢
          exact this
      · rw [if_neg (c := f1 11 = 0 ∧ _) (fun q => cr (by rw [← e0]; exact q.2)), if_neg (c := f1 11 ≠ 0 ∧ _) (fun q => q.1 e11)] at R0
        rw [if_neg cr]
        obtain ⟨N2, t2, q', z1, z2, z3⟩ := nextc sum f1 q0.2 hs e0 (by rw [c0 1 (by decide) (by decide)]; exact g2) (by rw [c0 2 (by decide) (by decide)]; exact f2) (by rw [c0 3 (by decide) (by decide)]; exact f3) (by rw [c0 4 (by decide) (by decide)]; exact f4) (by rw [c0 9 (by decide) (by decide)]; exact f9) (by rw [c0 12 (by decide) (by decide)]; exact f12) (by rw [c7]; exact i7)
        rw [c7] at z3
        exact ⟨N0 + N2, t0 ++ t2, q', by simp only [List.length_cons]; omega, Rn_add _ _ _ _ _ _ _ R0 z2, z3.cat rfl⟩
