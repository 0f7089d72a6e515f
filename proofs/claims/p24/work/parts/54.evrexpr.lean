/-! the reference's expressions, by their recursion -/
theorem eb_over {m v1 n v : Int} {J : Int → Mm → Rs} {rc : Int × Int × Mm → Rs} {M : Mm} (h : n ≤ 0 ∨ M 0 72 ≠ -1) : f_X12_expressed_L28_102 m v1 J rc (n, v, M) = J v M := by
  simp only [f_X12_expressed_L28_102, LtE]
  by_cases c : n ≤ 0
  · rw [if_pos c]
  · rw [if_neg c, if_pos (h.resolve_left c)]
theorem eb_leaf {S M : Mm} (hA : Ag M S) {m v1 v : Int} {n at_ : Nat} {J : Int → Mm → Rs} {rc : Int × Int × Mm → Rs} (hn : n < 9) (hat : at_ < 240) (e72 : M 0 72 = -1) (e62 : M 62 n = at_) (e63 : M 63 n = 0) (ht : tkn (S 21 at_) = 0) : f_X12_expressed_L28_102 m v1 J rc (((n + 1 : Nat) : Int), v, M) = Cl (f_X12_plain at_ m v1 M) fun w M' => rc ((n : Int), w, M') := by
  simp only [f_X12_expressed_L28_102, LtE]
  rw [if_neg (by omega), e72, if_neg (by decide), wrE (by omega) (by omega), show ((n + 1 : Nat) : Int) - 1 = n by omega, gdE (by omega), Int.toNat_natCast, e62, gdE (by omega), Int.toNat_natCast, gdE (by omega), e63, if_pos (by decide), hA.1 21 (by decide) (by decide) (by decide), r_taken, ClS, ht, if_neg (by decide)]
  rw [wrE (by omega) (by omega), show ((n + 1 : Nat) : Int) + (-1) = n by omega]
theorem eb_push {S M : Mm} (hA : Ag M S) {m v1 v : Int} {n at_ : Nat} {J : Int → Mm → Rs} {rc : Int × Int × Mm → Rs} (hn : n < 8) (hat : at_ < 240) (e72 : M 0 72 = -1) (e62 : M 62 n = at_) (e63 : M 63 n = 0) (ht : tkn (S 21 at_) ≠ 0) : f_X12_expressed_L28_102 m v1 J rc (((n + 1 : Nat) : Int), v, M) = rc (((n + 2 : Nat) : Int), v, up (up (up M 63 n 1) 62 (n + 1) (S 24 (3 * at_))) 63 (n + 1) 0) := by
  simp only [f_X12_expressed_L28_102, LtE]
  rw [if_neg (by omega), e72, if_neg (by decide), wrE (v := ((n + 1 : Nat) : Int) - 1) (by omega) (by omega), show ((n + 1 : Nat) : Int) - 1 = n by omega, gdE (by omega), Int.toNat_natCast, e62, gdE (by omega), Int.toNat_natCast, gdE (by omega), e63, if_pos (by decide), hA.1 21 (by decide) (by decide) (by decide), r_taken, ClS, if_pos (by omega), if_neg (by decide), gdE (by omega), wrE (v := 3 * (at_ : Int)) (by omega) (by omega), gdE (by omega), gdE (by omega), gdE (by omega), wrE (by omega) (by omega), show (3 * (at_ : Int)).toNat = 3 * at_ by omega, up_ne _ _ _ (show (24 : Nat) ≠ 63 by decide), hA.1 24 (by decide) (by decide) (by decide), show ((n + 1 : Nat) : Int) + 1 = ((n + 2 : Nat) : Int) by omega, Int.toNat_natCast]
-- left with what is in place of a value, or with what CHOOSE has chosen
theorem eb_left {S M : Mm} (hA : Ag M S) {m v1 v : Int} {n at_ : Nat} {J : Int → Mm → Rs} {rc : Int × Int × Mm → Rs} (hn : n < 9) (hat : at_ < 240) (e72 : M 0 72 = -1) (e62 : M 62 n = at_) (e63 : M 63 n = 1 ∨ M 63 n = 2) (ht : tkn (S 21 at_) ≠ 0) (hv : v < 0 ∨ (M 63 n = 2 ∧ S 21 at_ = 13)) : f_X12_expressed_L28_102 m v1 J rc (((n + 1 : Nat) : Int), v, M) = rc ((n : Int), v, M) := by
  simp only [f_X12_expressed_L28_102, LtE]
  rw [if_neg (by omega), e72, if_neg (by decide), wrE (v := ((n + 1 : Nat) : Int) - 1) (by omega) (by omega), show ((n + 1 : Nat) : Int) - 1 = n by omega, gdE (by omega), Int.toNat_natCast, e62, gdE (by omega), Int.toNat_natCast, gdE (by omega), hA.1 21 (by decide) (by decide) (by decide), wrE (v := ((n + 1 : Nat) : Int) + (-1)) (by omega) (by omega), show ((n + 1 : Nat) : Int) + (-1) = n by omega, if_neg (c := M 63 n ≤ 0) (by omega)]
  have hz : ¬ M 63 n = 0 := by omega
  by_cases c : 0 ≤ v
  · have h2 := hv.resolve_left (by omega)
    rw [if_pos c, r_taken, ClS, if_pos (by omega), if_pos hz, if_neg (by decide), if_neg (fun q => q h2.1), if_neg (fun q => q h2.2)]
  · rw [if_neg c, r_taken, ClS, if_pos (by omega), if_pos hz, if_pos (by decide)]
theorem eb_of {S M : Mm} (hA : Ag M S) {m v1 v : Int} {n at_ : Nat} {J : Int → Mm → Rs} {rc : Int × Int × Mm → Rs} (hn : n < 9) (hat : at_ < 240) (e72 : M 0 72 = -1) (e62 : M 62 n = at_) (e63 : M 63 n = 1) (h7 : S 21 at_ = 7) (hv : 0 ≤ v ∧ v < 100000) : f_X12_expressed_L28_102 m v1 J rc (((n + 1 : Nat) : Int), v, M) = if 1000 ≤ v then (Cl (f_X12_nodeAt (v - 1000) M) fun v80 M79 => Cl (f_X12_looksAt v80 (M79 22 at_) M79) fun v83 M82 => rc ((n : Int), v83, M82)) else rc ((n : Int), -1, M) := by
  simp only [f_X12_expressed_L28_102, LtE]
  rw [if_neg (by omega), e72, if_neg (by decide), wrE (v := ((n + 1 : Nat) : Int) - 1) (by omega) (by omega), show ((n + 1 : Nat) : Int) - 1 = n by omega, gdE (by omega), Int.toNat_natCast, e62, gdE (by omega), Int.toNat_natCast, gdE (by omega), hA.1 21 (by decide) (by decide) (by decide), wrE (v := ((n + 1 : Nat) : Int) + (-1)) (by omega) (by omega), show ((n + 1 : Nat) : Int) + (-1) = n by omega, e63, if_neg (by decide), if_pos hv.1, r_taken, ClS, h7, if_pos (by decide), if_pos (by decide), if_neg (by decide), if_pos (by decide), if_neg (by decide)]
  by_cases c : 1000 ≤ v
  · rw [if_pos c, if_pos c, wrE (v := v - 1000) (by omega) (by omega)]
    have hgd : 0 ≤ (at_ : Int) ∧ (at_ : Int) < 240 := by omega
    simp only [gdE hgd]
  · rw [if_neg c, if_neg c]
theorem eb_next {S M : Mm} (hA : Ag M S) {m v1 v : Int} {n at_ : Nat} {J : Int → Mm → Rs} {rc : Int × Int × Mm → Rs} (hn : n < 8) (hat : at_ < 240) (e72 : M 0 72 = -1) (e62 : M 62 n = at_) (e63 : M 63 n = 1) (h7 : S 21 at_ ≠ 7) (ht : tkn (S 21 at_) ≠ 0) (hv : 0 ≤ v) : f_X12_expressed_L28_102 m v1 J rc (((n + 1 : Nat) : Int), v, M) = rc (((n + 2 : Nat) : Int), v, up (up (up (up M 64 n v) 63 n 2) 62 (n + 1) (S 24 (3 * at_ + (if S 21 at_ = 13 ∧ v = 0 then 2 else 1)))) 63 (n + 1) 0) := by
  simp only [f_X12_expressed_L28_102, LtE]
  rw [if_neg (by omega), e72, if_neg (by decide), wrE (v := ((n + 1 : Nat) : Int) - 1) (by omega) (by omega), show ((n + 1 : Nat) : Int) - 1 = n by omega, gdE (by omega), Int.toNat_natCast, e62, gdE (by omega), Int.toNat_natCast, gdE (by omega), hA.1 21 (by decide) (by decide) (by decide), e63, if_neg (by decide), if_pos hv, r_taken, ClS, if_pos (by omega), if_pos (by decide), if_neg (by decide), if_pos (by decide), if_pos h7, if_neg (by decide)]
  have hgn : 0 ≤ (n : Int) ∧ (n : Int) < 9 := by omega
  have hgn1 : 0 ≤ ((n + 1 : Nat) : Int) ∧ ((n + 1 : Nat) : Int) < 9 := by omega
  have e24 : ∀ x : Nat, up (up M 64 n v) 63 n 2 24 x = S 24 x := fun x => by rw [up_ne _ _ _ (show (24 : Nat) ≠ 63 by decide), up_ne _ _ _ (show (24 : Nat) ≠ 64 by decide), hA.1 24 (by decide) (by decide) (by decide)]
  have fin : ∀ j : Nat, j ≤ 2 → gd (0 ≤ wr (wr (3 * (at_ : Int)) + j) ∧ wr (wr (3 * (at_ : Int)) + j) < 720) (gd (0 ≤ ((n + 1 : Nat) : Int) ∧ ((n + 1 : Nat) : Int) < 9) (gd (0 ≤ ((n + 1 : Nat) : Int) ∧ ((n + 1 : Nat) : Int) < 9) (rc (wr (((n + 1 : Nat) : Int) + 1), v, up (up (up (up M 64 n v) 63 n 2) 62 ((n + 1 : Nat) : Int).toNat (up (up M 64 n v) 63 n 2 24 (wr (wr (3 * (at_ : Int)) + j)).toNat)) 63 ((n + 1 : Nat) : Int).toNat 0)))) = rc (((n + 2 : Nat) : Int), v, up (up (up (up M 64 n v) 63 n 2) 62 (n + 1) (S 24 (3 * at_ + j))) 63 (n + 1) 0) := by
    intro j hj
    rw [wrE (v := 3 * (at_ : Int)) (by omega) (by omega), wrE (v := 3 * (at_ : Int) + j) (by omega) (by omega), gdE (by omega), gdE hgn1, gdE hgn1, wrE (by omega) (by omega), e24, Int.toNat_natCast, show (3 * (at_ : Int) + j).toNat = 3 * at_ + j by omega, show ((n + 1 : Nat) : Int) + 1 = ((n + 2 : Nat) : Int) by omega]
  rw [gdE hgn, gdE hgn]
  simp only [Int.toNat_natCast]
  by_cases c13 : S 21 at_ = 13
  · rw [if_neg (fun q => q c13)]
    by_cases c0 : v = 0
    · rw [if_neg (fun q => q c0), if_pos ⟨c13, c0⟩]
      exact fin 2 (by decide)
    · rw [if_pos c0, if_neg (fun q => c0 q.2)]
      exact fin 1 (by decide)
  · rw [if_pos c13, if_neg (fun q => c13 q.1)]
    exact fin 1 (by decide)
theorem eb_join {S M : Mm} (hA : Ag M S) {m v1 v : Int} {n at_ : Nat} {J : Int → Mm → Rs} {rc : Int × Int × Mm → Rs} (hn : n < 9) (hat : at_ < 240) (e72 : M 0 72 = -1) (e62 : M 62 n = at_) (e63 : M 63 n = 2) (h7 : S 21 at_ ≠ 7) (h13 : S 21 at_ ≠ 13) (ht : tkn (S 21 at_) ≠ 0) (hv : 0 ≤ v) : f_X12_expressed_L28_102 m v1 J rc (((n + 1 : Nat) : Int), v, M) = rc ((n : Int), jn (S 21 at_) (M 64 n) v, M) := by
  simp only [f_X12_expressed_L28_102, LtE]
  have hgn : 0 ≤ (n : Int) ∧ (n : Int) < 9 := by omega
  rw [if_neg (by omega), e72, if_neg (by decide), wrE (v := ((n + 1 : Nat) : Int) - 1) (by omega) (by omega), show ((n + 1 : Nat) : Int) - 1 = n by omega, gdE (by omega), Int.toNat_natCast, e62, gdE (by omega), Int.toNat_natCast, gdE (by omega), hA.1 21 (by decide) (by decide) (by decide), wrE (v := ((n + 1 : Nat) : Int) + (-1)) (by omega) (by omega), show ((n + 1 : Nat) : Int) + (-1) = n by omega, e63, if_neg (by decide), if_pos hv, r_taken, ClS, if_pos (by omega), if_pos (by decide), if_neg (by decide), if_neg (by decide), if_pos h13, if_pos h7, if_pos (by decide), gdE hgn, r_joined, ClS]
/-- what a run of an expression leaves as it was, its own stack from n on aside -/
def FrE (n : Nat) (M M' : Mm) : Prop := (∀ j, j ≠ 0 → j ≠ 61 → j ≠ 62 → j ≠ 63 → j ≠ 64 → M' j = M j) ∧ (∀ i, i ≠ 72 → i ≠ 73 → i ≠ 74 → i ≠ 75 → i ≠ 80 → M' 0 i = M 0 i) ∧ ∀ j, j = 62 ∨ j = 63 ∨ j = 64 → ∀ i, i < n → M' j i = M j i
theorem FrE.refl (n : Nat) (M : Mm) : FrE n M M := ⟨fun _ _ _ _ _ _ => rfl, fun _ _ _ _ _ _ => rfl, fun _ _ _ _ => rfl⟩
theorem FrE.trans {n : Nat} {A B D : Mm} (h : FrE n A B) (h' : FrE n B D) : FrE n A D := ⟨fun j a b c d e => (h'.1 j a b c d e).trans (h.1 j a b c d e), fun i a b c d e => (h'.2.1 i a b c d e).trans (h.2.1 i a b c d e), fun j hj i hi => (h'.2.2 j hj i hi).trans (h.2.2 j hj i hi)⟩
theorem FrE.le {n n' : Nat} {A B : Mm} (h : FrE n A B) (hn : n' ≤ n) : FrE n' A B := ⟨h.1, h.2.1, fun j hj i hi => h.2.2 j hj i (by omega)⟩
theorem FrL.fre {A B : Mm} (h : FrL A B) (n : Nat) : FrE n A B := ⟨fun j a b _ _ _ => h.1 j a b, h.2, fun j hj i _ => by rw [h.1 j (by omega) (by omega)]⟩
theorem FrE.rec_ {n : Nat} {A B : Mm} (h : FrE n A B) : Rec B ↔ Rec A := by
  unfold Rec
  rw [h.2.1 79 (by decide) (by decide) (by decide) (by decide) (by decide), h.2.1 69 (by decide) (by decide) (by decide) (by decide) (by decide)]
-- laying a stack's cells changes nothing else
theorem TrR.stack {S M M' : Mm} {B : Int} {rg bv bh : Nat → Int} {op : List Int} {hc : Int} {l : List Int} (hT : TrR S M B rg bv bh op hc l) (e : ∀ j, j ≠ 62 → j ≠ 63 → j ≠ 64 → M' j = M j) : TrR S M' B rg bv bh op hc l := by
  obtain ⟨hA, e036, e36, e68, e72, hO, hc1, hH, hS, hl⟩ := hT
  refine ⟨⟨fun j j1 j2 j3 => (e j (by omega) (by omega) (by omega)).trans (hA.1 j j1 j2 j3), fun i hi => by rw [e 0 (by decide) (by decide) (by decide)]; exact hA.2 i hi⟩, by rw [e 0 (by decide) (by decide) (by decide)]; exact e036, by rw [e 36 (by decide) (by decide) (by decide)]; exact e36, by rw [e 0 (by decide) (by decide) (by decide)]; exact e68, by rw [e 0 (by decide) (by decide) (by decide)]; exact e72, hO.frl fun j hj => e j (by omega) (by omega) (by omega), hc1, by rw [e 0 (by decide) (by decide) (by decide)]; exact hH, hS, fun hr => ?_⟩
  unfold Rec at hr
  unfold LsR at hl ⊢
  rw [e 0 (by decide) (by decide) (by decide)] at hr ⊢
  rw [e 61 (by decide) (by decide) (by decide)]
  exact hl hr
/-- the outcome of an expression in the reference -/
def RxO (S : Mm) (rg bv bh : Nat → Int) (op : List Int) (B hc : Int) (rb : Bool) (l : List Int) (m : Int) (h k : Nat) (n : Nat) (M : Mm) (E : List Nat × Option Int) (body : ((Int × Int × Mm) → Rs) → (Int × Int × Mm) → Rs) (J : Int → Mm → Rs) (F : Nat) (x : Rs) (cb : Nat) : Prop :=
  (∀ v, E.2 = some v → (-3 ≤ v ∧ v < 1000 + S 0 35) ∧ ∃ c M', c ≤ cb ∧ x = Lp body (F - c) ((n : Int), pv S v, M') ∧ TrR S M' B rg bv bh op (ob (Lk S rg bv bh op) hc E.1) (lsB rb l E.1) ∧ FrE n M M') ∧
  (E.2 = none → ∃ (w : Int) (M' : Mm) (t' : List Nat) (s : Nat), x = J w M' ∧ E.1 = t' ++ [s] ∧ M' 0 72 = (s : Int) / 6 ∧ M' 0 73 = (s : Int) % 6 ∧ M' 0 72 ≠ -1 ∧ Sl (lsB rb l E.1) ∧ (Rec M → LsR M' (lsB rb l E.1)) ∧ FrE 0 M M')
theorem lkS_nn {S : Mm} (hg : Okg S) (hN : Okn S) {m : Int} (hm : 0 ≤ m ∧ m < S 0 35) {K a b : Int} {h : Nat} (hs : StepOk S K a b) (h7 : K ≠ 7) : lkS S m (S 31 m.toNat) h K a b 0 = -1 ∨ 0 ≤ lkS S m (S 31 m.toNat) h K a b 0 := by
  have hch := chN_ok hg hN hm h b
  obtain ⟨k0, k1, k2⟩ := hs
  unfold lkS
  by_cases c1 : K = 1
  · rw [if_pos c1]; rw [if_pos (Or.inl c1)] at k1; omega
  rw [if_neg c1]
  by_cases c2 : K = 2
  · rw [if_pos c2]; rw [if_pos (Or.inr (Or.inl c2))] at k1
    by_cases c : chN S m (S 31 m.toNat) h b = -1
    · rw [if_pos c]; exact Or.inl rfl
    · rw [if_neg c]; have := hch.resolve_left c; omega
  rw [if_neg c2, if_neg h7]; exact Or.inl rfl
theorem r_expr {S : Mm} (hg : Okg S) (hO : Oke S) (hN : Okn S) (hP : PlO S) {B : Int} (hB : B = 0 ∨ B = 360) {rg bv bh : Nat → Int} {op : List Int} (hbd : BdO S rg bv bh) (hbh : BdH S bh) {rb : Bool} {m : Int} (hm : 0 ≤ m ∧ m < S 0 35) {h k : Nat} (hk : (k : Int) < S 0 19) {J : Int → Mm → Rs} : ∀ f i, i < eN S k → i < f → ∀ (n F : Nat) (v0 : Int) (M : Mm) (hc : Int) (l : List Int), n + i ≤ 8 → M 62 n = ((8 * k + i : Nat) : Int) → M 63 n = 0 → TrR S M B rg bv bh op hc l → StF S M m h k → (rb = true ↔ Rec M) → 4 * 2 ^ f ≤ F →
    RxO S rg bv bh op B hc rb l m h k n M (evo S (Lk S rg bv bh op) m (S 31 m.toNat) h k f i) (f_X12_expressed_L28_102 m (S 16 k) J) J F (Lp (f_X12_expressed_L28_102 m (S 16 k) J) F (((n + 1 : Nat) : Int), v0, M)) (4 * 2 ^ f - 3) := by
  have h35 := hN.1
  have hLb := Lk_bd (S := S) (op := op) h35.1 hbd
  have h30 := hO.1
  have hOk := hO.2.1 k hk
  have hn8 : eN S k ≤ 8 := by unfold eN; have := hOk.2.2.2.1; omega
  have hw : wfK (eK S k) (eN S k) := ⟨hn8, fun i hi => (hOk.2.2.2.2.2.1 i hi).2⟩
  intro f
  induction f with
  | zero => intro i _ h0; omega
  | succ f ih =>
    intro i hi hif n F v0 M hc l hni e62 e63 hT hst hrb hF
    have hpow : 2 ^ (f + 1) = 2 * 2 ^ f := by rw [Nat.pow_succ, Nat.mul_comm]
    have hp1 : 1 ≤ 2 ^ f := Nat.one_le_two_pow
    rw [hpow] at hF ⊢
    have hstep := (hOk.2.2.2.2.2.1 i hi).1
    have hA := hT.1
    have e72 := hT.2.2.2.2.1
    have r21 : S 21 (8 * k + i) = eK S k i := rfl
    obtain ⟨G, rfl⟩ : ∃ G, F = G + 1 := ⟨F - 1, by omega⟩
    simp only [evo]
    by_cases c0 : tkn (eK S k i) = 0
    · have h7 : eK S k i ≠ 7 := fun e => by rw [e] at c0; exact absurd c0 (by decide)
      obtain ⟨w, M', p1, p2, p3⟩ := r_plain hg hO hN hP hB hbd hbh hT hrb hm hk hst hi c0
      rw [if_pos c0, Lp_s, eb_leaf hA (by omega) (by omega) e72 e62 e63 (by rw [r21]; exact c0), p1, ClS]
      by_cases c1 : lkS S m (S 31 m.toNat) h (eK S k i) (eA S k i) (eB S k i) 0 = -1
      · rw [if_pos c1]
        obtain ⟨q1, q2⟩ := p2 c1
        subst q1 q2
        refine ⟨fun v hv => ?_, fun e => (by cases e)⟩
        have e : lfV S m (S 31 m.toNat) h (eK S k i) (eA S k i) (eB S k i) = v := Option.some.inj hv
        subst e
        exact ⟨lfV_ok hg hN hm hstep, 1, _, by omega, rfl, by unfold lsB; simp only [ob, List.foldl_nil, ite_self]; exact hT, FrE.refl _ _⟩
      · rw [if_neg c1]
        have hs0 := (lkS_nn hg hN hm hstep h7 (h := h)).resolve_left c1
        obtain ⟨q1, q2, q3⟩ := p3 c1
        unfold look
        cases hl : Lk S rg bv bh op (lkS S m (S 31 m.toNat) h (eK S k i) (eA S k i) (eB S k i) 0).toNat with
        | none =>
          obtain ⟨u1, u2, u3, u4⟩ := q3 hl
          refine ⟨fun v hv => (by cases hv), fun _ => ?_⟩
          obtain ⟨G', rfl⟩ : ∃ G', G = G' + 1 := ⟨G - 1, by omega⟩
          have hne : M' 0 72 ≠ -1 := by rw [u1]; omega
          refine ⟨w, M', [], _, by rw [Lp_s, eb_over (Or.inr hne)], rfl, by rw [u1]; omega, by rw [u2]; omega, hne, u3, u4, q1.fre 0⟩
        | some x =>
          obtain ⟨v, b⟩ := x
          obtain ⟨u1, u2⟩ := q2 v b hl
          refine ⟨fun v' hv => ?_, fun e => (by cases e)⟩
          have e : v = v' := Option.some.inj hv
          subst e
          refine ⟨hLb _ _ _ hl, 1, M', by omega, by rw [u1]; rfl, ?_, q1.fre n⟩
          simp only [ob, List.foldl_cons, List.foldl_nil, hl, Option.elim]
          exact u2
    · have ht := hw.2 i hi
      have ho := opr_lt (j := 0) (by omega) ht
      rw [if_neg c0, Lp_s, eb_push hA (by omega) (by omega) e72 e62 e63 (by rw [r21]; exact c0)]
      have h24 : ∀ j, j < tkn (eK S k i) → S 24 (3 * (8 * k + i) + j) = ((8 * k + opr (eK S k) i j : Nat) : Int) := fun j hj => hOk.2.2.2.2.2.2.2.1 i hi j hj
      generalize hM1 : up (up (up M 63 n 1) 62 (n + 1) (S 24 (3 * (8 * k + i)))) 63 (n + 1) 0 = M1
      have f1 : ∀ j, j ≠ 62 → j ≠ 63 → j ≠ 64 → M1 j = M j := fun j j1 j2 _ => by rw [← hM1, up_ne _ _ _ j2, up_ne _ _ _ j1, up_ne _ _ _ j2]
      have F1 : FrE n M M1 := ⟨fun j _ _ a b c => f1 j a b c, fun i _ _ _ _ _ => by rw [f1 0 (by decide) (by decide) (by decide)], fun j hj x hx => by
        rcases hj with rfl | rfl | rfl
        · rw [← hM1, up_ne _ _ _ (by decide)]; unfold up; rw [if_neg (by omega), if_neg (by omega)]
        · rw [← hM1]; unfold up; rw [if_neg (by omega), if_neg (by omega), if_neg (by omega)]
        · rw [← hM1, up_ne _ _ _ (by decide), up_ne _ _ _ (by decide), up_ne _ _ _ (by decide)]⟩
      have m62n : M1 62 n = ((8 * k + i : Nat) : Int) := by rw [← hM1, up_ne _ _ _ (by decide)]; unfold up; rw [if_neg (by omega), if_neg (by omega)]; exact e62
      have m63n : M1 63 n = 1 := by rw [← hM1]; unfold up; rw [if_neg (by omega), if_neg (by omega), if_pos ⟨rfl, rfl⟩]
      have m62 : M1 62 (n + 1) = ((8 * k + opr (eK S k) i 0 : Nat) : Int) := by rw [← hM1, up_ne _ _ _ (by decide), up_at]; exact h24 0 (by omega)
      have m63 : M1 63 (n + 1) = 0 := by rw [← hM1, up_at]
      have T1 := hT.stack f1
      obtain ⟨A1, A2⟩ := ih (opr (eK S k) i 0) (by omega) (by omega) (n + 1) G v0 M1 hc l (by omega) m62 m63 T1 (hst.frl (by rw [f1 0 (by decide) (by decide) (by decide)]) (f1 59 (by decide) (by decide) (by decide))) (hrb.trans F1.rec_.symm) (by omega)
      generalize hx : Lp (f_X12_expressed_L28_102 m (S 16 k) J) G (((n + 2 : Nat) : Int), v0, M1) = x
      rw [show ((n + 1 + 1 : Nat) : Int) = ((n + 2 : Nat) : Int) from rfl, hx] at A1 A2
      generalize evo S (Lk S rg bv bh op) m (S 31 m.toNat) h k f (opr (eK S k) i 0) = E at A1 A2
      obtain ⟨t0, o0⟩ := E
      cases o0 with
      | none =>
        rw [bnd_none]
        refine ⟨fun v hv => (by cases hv), fun _ => ?_⟩
        obtain ⟨w, M', t', s, u1, u2, u3, u4, u5, u6, u7, u8⟩ := A2 rfl
        exact ⟨w, M', t', s, u1, u2, u3, u4, u5, u6, fun hr => u7 (F1.rec_.mpr hr), (F1.le (Nat.zero_le _)).trans u8⟩
      | some v =>
        rw [bnd_some]
        obtain ⟨vb, c, M2, y1, y2, T2, F2⟩ := A1 v rfl
        simp only at T2
        have hA2 := T2.1
        have n62 : M2 62 n = ((8 * k + i : Nat) : Int) := by rw [F2.2.2 62 (Or.inl rfl) n (by omega)]; exact m62n
        have n63 : M2 63 n = 1 := by rw [F2.2.2 63 (Or.inr (Or.inl rfl)) n (by omega)]; exact m63n
        have F12 := F1.trans (F2.le (Nat.le_succ n))
        have hpn := pv_neg hP vb.2
        have z72 := T2.2.2.2.2.1
        obtain ⟨G2, hG2⟩ : ∃ G2, G - c = G2 + 1 := ⟨G - c - 1, by omega⟩
        rw [hG2, Lp_s] at y2
        have hsub : ∀ d M', d + 2 + c ≤ 4 * (2 * 2 ^ f) - 3 → x = Lp (f_X12_expressed_L28_102 m (S 16 k) J) (G2 - d) ((n : Int), 0, M') → True := fun _ _ _ _ => trivial
        by_cases cv : v < 0
        · rw [if_pos cv]
          refine ⟨fun v' hv => ?_, fun e => (by cases e)⟩
          have e : v = v' := Option.some.inj hv
          subst e
          rw [eb_left hA2 (by omega) (by omega) z72 n62 (Or.inl n63) (by rw [r21]; exact c0) (Or.inl (hpn.1.mpr cv))] at y2
          refine ⟨vb, c + 2, M2, by omega, ?_, by rw [List.append_nil]; exact T2, F12⟩
          rw [y2, show G + 1 - (c + 2) = G2 by omega]
        rw [if_neg cv]
        have hpv0 : 0 ≤ pv S v := by have := hpn.1; omega
        by_cases c7 : eK S k i = 7
        · rw [if_pos c7]
          have hpvb : pv S v < 100000 := by
            unfold pv; split
            · omega
            · have := (hP (v - 1000).toNat (by omega)).1; omega
          rw [eb_of hA2 (by omega) (by omega) z72 n62 n63 (by rw [r21]; exact c7) ⟨hpv0, hpvb⟩] at y2
          by_cases cr : v < 1000
          · rw [if_neg (by have := hpn.2; omega)] at y2
            rw [if_pos cr]
            refine ⟨fun v' hv => ?_, fun e => (by cases e)⟩
            have e : -1 = v' := Option.some.inj hv
            subst e
            refine ⟨by omega, c + 2, M2, by omega, ?_, by rw [List.append_nil]; exact T2, F12⟩
            rw [y2, pv_lo (by decide), show G + 1 - (c + 2) = G2 by omega]
          · rw [if_pos (hpn.2.mpr (by omega))] at y2
            rw [if_neg cr]
            have hmn : 0 ≤ v - 1000 ∧ v - 1000 < S 0 35 := by omega
            have e1 : pv S v - 1000 = S 36 (v - 1000).toNat := by unfold pv; rw [if_neg cr]; omega
            have k1 := hstep.2.1
            rw [if_pos (by omega)] at k1
            rw [e1, r_nodeAt hP (hA2.2 35 (by simp)) T2.2.2.1 h35 hmn, ClS, hA2.1 22 (by decide) (by decide) (by decide), show S 22 (8 * k + i) = eA S k i from rfl] at y2
            obtain ⟨w, M3, q0, q1, q2, q3⟩ := r_lookS hg hN hP hB hbd hbh T2 (hrb.trans F12.rec_.symm) (n := v - 1000) (a := eA S k i) hmn k1
            rw [q0, ClS] at y2
            unfold look
            have hs0 : 0 ≤ 6 * (v - 1000) + eA S k i := by omega
            cases hl : Lk S rg bv bh op (6 * (v - 1000) + eA S k i).toNat with
            | none =>
              obtain ⟨u1, u2, u3, u4⟩ := q3 hl
              refine ⟨fun v hv => (by cases hv), fun _ => ?_⟩
              obtain ⟨G', rfl⟩ : ∃ G', G2 = G' + 1 := ⟨G2 - 1, by omega⟩
              have hne : M3 0 72 ≠ -1 := by rw [u1]; omega
              rw [Lp_s, eb_over (Or.inr hne)] at y2
              refine ⟨w, M3, t0, _, y2, rfl, by rw [u1]; omega, by rw [u2]; omega, hne, by rw [lsB_app]; exact u3, fun hr => by rw [lsB_app]; exact u4 (F12.rec_.mpr hr), (F12.le (Nat.zero_le _)).trans (q1.fre 0)⟩
            | some z =>
              obtain ⟨v', b⟩ := z
              obtain ⟨u1, u2⟩ := q2 v' b hl
              refine ⟨fun v'' hv => ?_, fun e => (by cases e)⟩
              have e : v' = v'' := Option.some.inj hv
              subst e
              refine ⟨hLb _ _ _ hl, c + 2, M3, by omega, ?_, ?_, F12.trans (q1.fre n)⟩
              · rw [y2, u1, show G + 1 - (c + 2) = G2 by omega]
              · rw [lsB_app, ob_app]
                simp only [ob, List.foldl_cons, List.foldl_nil, hl, Option.elim] at u2 ⊢
                exact u2
        rw [if_neg c7]
        -- the next operand
        have hnext : ∀ j, j < tkn (eK S k i) → (if S 21 (8 * k + i) = 13 ∧ pv S v = 0 then 2 else 1) = j → ∃ M3, x = Lp (f_X12_expressed_L28_102 m (S 16 k) J) G2 (((n + 2 : Nat) : Int), pv S v, M3) ∧ (∀ j, j ≠ 62 → j ≠ 63 → j ≠ 64 → M3 j = M2 j) ∧ FrE n M2 M3 ∧ M3 62 n = ((8 * k + i : Nat) : Int) ∧ M3 63 n = 2 ∧ M3 64 n = pv S v ∧ M3 62 (n + 1) = ((8 * k + opr (eK S k) i j : Nat) : Int) ∧ M3 63 (n + 1) = 0 := by
          intro j hj hjj
          rw [eb_next hA2 (by omega) (by omega) z72 n62 n63 (by rw [r21]; exact c7) (by rw [r21]; exact c0) hpv0, hjj, h24 j hj] at y2
          refine ⟨_, y2, fun j j1 j2 j3 => by rw [up_ne _ _ _ j2, up_ne _ _ _ j1, up_ne _ _ _ j2, up_ne _ _ _ j3], ⟨fun j _ _ a b c => by rw [up_ne _ _ _ b, up_ne _ _ _ a, up_ne _ _ _ b, up_ne _ _ _ c], fun i _ _ _ _ _ => by rw [up_ne _ _ _ (by decide), up_ne _ _ _ (by decide), up_ne _ _ _ (by decide), up_ne _ _ _ (by decide)], fun j hj x hx => ?_⟩, ?_, ?_, ?_, ?_, ?_⟩
          · rcases hj with rfl | rfl | rfl
            · rw [up_ne _ _ _ (by decide)]; unfold up; rw [if_neg (by omega), if_neg (by omega), if_neg (by omega)]
            · unfold up; rw [if_neg (by omega), if_neg (by omega), if_neg (by omega), if_neg (by omega)]
            · rw [up_ne _ _ _ (by decide), up_ne _ _ _ (by decide), up_ne _ _ _ (by decide)]; unfold up; rw [if_neg (by omega)]
          · rw [up_ne _ _ _ (by decide)]; unfold up; rw [if_neg (by omega), if_neg (by omega), if_neg (by omega)]; exact n62
          · unfold up; rw [if_neg (by omega), if_neg (by omega), if_pos ⟨rfl, rfl⟩]
          · rw [up_ne _ _ _ (by decide), up_ne _ _ _ (by decide), up_ne _ _ _ (by decide), up_at]
          · rw [up_ne _ _ _ (by decide), up_at]
          · rw [up_at]
        have hz0 : pv S v = 0 ↔ v = 0 := by
          have := pv_inj (S := S) (v := v) (w := 0) hP vb.2 (by omega)
          rw [pv_lo (S := S) (v := 0) (by decide)] at this
          exact this
        have run2 : ∀ j, j < tkn (eK S k i) → (if S 21 (8 * k + i) = 13 ∧ pv S v = 0 then 2 else 1) = j → (∃ (w : Int) (M' : Mm) (t' : List Nat) (s : Nat), (evo S (Lk S rg bv bh op) m (S 31 m.toNat) h k f (opr (eK S k) i j)).2 = none ∧ x = J w M' ∧ (evo S (Lk S rg bv bh op) m (S 31 m.toNat) h k f (opr (eK S k) i j)).1 = t' ++ [s] ∧ M' 0 72 = (s : Int) / 6 ∧ M' 0 73 = (s : Int) % 6 ∧ M' 0 72 ≠ -1 ∧ Sl (lsB rb l (t0 ++ (evo S (Lk S rg bv bh op) m (S 31 m.toNat) h k f (opr (eK S k) i j)).1)) ∧ (Rec M → LsR M' (lsB rb l (t0 ++ (evo S (Lk S rg bv bh op) m (S 31 m.toNat) h k f (opr (eK S k) i j)).1))) ∧ FrE 0 M M') ∨
            (∃ (w : Int) (c' : Nat) (M4 : Mm) (G4 : Nat), (evo S (Lk S rg bv bh op) m (S 31 m.toNat) h k f (opr (eK S k) i j)).2 = some w ∧ (-3 ≤ w ∧ w < 1000 + S 0 35) ∧ c' ≤ 4 * 2 ^ f - 3 ∧ G2 - c' = G4 + 1 ∧ x = f_X12_expressed_L28_102 m (S 16 k) J (Lp (f_X12_expressed_L28_102 m (S 16 k) J) G4) (((n + 1 : Nat) : Int), pv S w, M4) ∧ TrR S M4 B rg bv bh op (ob (Lk S rg bv bh op) hc (t0 ++ (evo S (Lk S rg bv bh op) m (S 31 m.toNat) h k f (opr (eK S k) i j)).1)) (lsB rb l (t0 ++ (evo S (Lk S rg bv bh op) m (S 31 m.toNat) h k f (opr (eK S k) i j)).1)) ∧ FrE n M M4 ∧ M4 62 n = ((8 * k + i : Nat) : Int) ∧ M4 63 n = 2 ∧ M4 64 n = pv S v) := by
          intro j hj hjj
          obtain ⟨M3, x1, x2, x3, x4, x5, x6, x7, x8⟩ := hnext j hj hjj
          have hoj := opr_lt hj ht
          have F13 := F12.trans x3
          obtain ⟨B1, B2⟩ := ih (opr (eK S k) i j) (by omega) (by omega) (n + 1) G2 (pv S v) M3 (ob (Lk S rg bv bh op) hc t0) (lsB rb l t0) (by omega) x7 x8 (T2.stack x2) (hst.frl (by rw [x2 0 (by decide) (by decide) (by decide), F12.2.1 76 (by decide) (by decide) (by decide) (by decide) (by decide)]) (by rw [x2 59 (by decide) (by decide) (by decide)]; exact F12.1 59 (by decide) (by decide) (by decide) (by decide) (by decide))) (hrb.trans F13.rec_.symm) (by omega)
          rw [show ((n + 1 + 1 : Nat) : Int) = ((n + 2 : Nat) : Int) from rfl, ← x1] at B1 B2
          generalize evo S (Lk S rg bv bh op) m (S 31 m.toNat) h k f (opr (eK S k) i j) = E at B1 B2
          obtain ⟨t1, o1⟩ := E
          cases o1 with
          | none =>
            obtain ⟨w, M', t', s, u1, u2, u3, u4, u5, u6, u7, u8⟩ := B2 rfl
            left
            exact ⟨w, M', t', s, rfl, u1, u2, u3, u4, u5, by rw [lsB_app]; exact u6, fun hr => by rw [lsB_app]; exact u7 (F13.rec_.mpr hr), (F13.le (Nat.zero_le _)).trans u8⟩
          | some w =>
            obtain ⟨wb, c', M4, w1, w2, w3, w4⟩ := B1 w rfl
            right
            obtain ⟨G4, hG4⟩ : ∃ G4, G2 - c' = G4 + 1 := ⟨G2 - c' - 1, by omega⟩
            refine ⟨w, c', M4, G4, rfl, wb, w1, hG4, ?_, by rw [lsB_app, ob_app]; exact w3, F13.trans (w4.le (Nat.le_succ n)), ?_, ?_, ?_⟩
            · rw [hG4, Lp_s] at w2; exact w2
            · rw [w4.2.2 62 (Or.inl rfl) n (by omega)]; exact x4
            · rw [w4.2.2 63 (Or.inr (Or.inl rfl)) n (by omega)]; exact x5
            · rw [w4.2.2 64 (Or.inr (Or.inr rfl)) n (by omega)]; exact x6
        by_cases c13 : eK S k i = 13
        · rw [if_pos c13]
          have hj : (if S 21 (8 * k + i) = 13 ∧ pv S v = 0 then 2 else 1) = (if v = 0 then 2 else 1) := by
            by_cases e : v = 0
            · rw [if_pos e, if_pos ⟨by rw [r21]; exact c13, hz0.mpr e⟩]
            · rw [if_neg e, if_neg (fun q => e (hz0.mp q.2))]
          have hjt : (if v = 0 then 2 else 1) < tkn (eK S k i) := by rw [c13]; split <;> decide
          rcases run2 _ hjt hj with ⟨w, M', t', s, u0, u1, u2, u3, u4, u5, u6, u7, u8⟩ | ⟨w, c', M4, G4, u0, wb, w1, hG4, w2, w3, w4, w5, w6, w7⟩
          · refine ⟨fun z hz => ?_, fun _ => ⟨w, M', t0 ++ t', s, u1, by simp only; rw [u2, List.append_assoc], u3, u4, u5, u6, u7, u8⟩⟩
            simp only at hz; rw [u0] at hz; cases hz
          · refine ⟨fun z hz => ?_, fun hz => ?_⟩
            · simp only at hz; rw [u0] at hz
              have e : w = z := Option.some.inj hz
              subst e
              rw [eb_left w3.1 (by omega) (by omega) w3.2.2.2.2.1 w5 (Or.inr w6) (by rw [r21]; exact c0) (Or.inr ⟨w6, by rw [r21]; exact c13⟩)] at w2
              exact ⟨wb, c + c' + 3, M4, by omega, by rw [w2, show G + 1 - (c + c' + 3) = G4 by omega], w3, w4⟩
            · simp only at hz; rw [u0] at hz; cases hz
        · rw [if_neg c13]
          have ht2 : tkn (eK S k i) = 2 := by
            unfold tkn at c0 ⊢
            rw [if_neg c7] at c0 ⊢
            by_cases c8 : 8 ≤ eK S k i ∧ eK S k i ≤ 12
            · rw [if_pos c8]
            · rw [if_neg c8, if_neg c13] at c0; exact absurd rfl c0
          have hj : (if S 21 (8 * k + i) = 13 ∧ pv S v = 0 then 2 else 1) = 1 := if_neg (fun q => c13 q.1)
          rcases run2 1 (by omega) hj with ⟨w, M', t', s, u0, u1, u2, u3, u4, u5, u6, u7, u8⟩ | ⟨w, c', M4, G4, u0, wb, w1, hG4, w2, w3, w4, w5, w6, w7⟩
          · generalize evo S (Lk S rg bv bh op) m (S 31 m.toNat) h k f (opr (eK S k) i 1) = E at *
            obtain ⟨t1, o1⟩ := E
            simp only at u0 u2 u6 u7
            subst u0
            rw [bnd_none]
            exact ⟨fun z hz => (by cases hz), fun _ => ⟨w, M', t0 ++ t', s, u1, by simp only; rw [u2, List.append_assoc], u3, u4, u5, u6, u7, u8⟩⟩
          · generalize evo S (Lk S rg bv bh op) m (S 31 m.toNat) h k f (opr (eK S k) i 1) = E at *
            obtain ⟨t1, o1⟩ := E
            simp only at u0 w3
            subst u0
            rw [bnd_some]
            simp only [List.append_nil]
            refine ⟨fun z hz => ?_, fun hz => (by cases hz)⟩
            have e : (if w < 0 then w else jn (eK S k i) v w) = z := Option.some.inj hz
            have hpw := pv_neg hP wb.2
            by_cases cw : w < 0
            · rw [if_pos cw] at e
              subst e
              rw [eb_left w3.1 (by omega) (by omega) w3.2.2.2.2.1 w5 (Or.inr w6) (by rw [r21]; exact c0) (Or.inl (hpw.1.mpr cw))] at w2
              exact ⟨wb, c + c' + 3, M4, by omega, by rw [w2, show G + 1 - (c + c' + 3) = G4 by omega], w3, w4⟩
            · rw [if_neg cw] at e
              subst e
              have hjb := jn_ok (K := eK S k i) (v := v) (w := w) (by omega) (by omega)
              rw [eb_join w3.1 (by omega) (by omega) w3.2.2.2.2.1 w5 w6 (by rw [r21]; exact c7) (by rw [r21]; exact c13) (by rw [r21]; exact c0) (by have := hpw.1; omega), w7, r21, jn_pv hP ⟨by omega, vb.2⟩ ⟨by omega, wb.2⟩] at w2
              exact ⟨by omega, c + c' + 3, M4, by omega, by rw [w2, show G + 1 - (c + c' + 3) = G4 by omega], w3, w4⟩
