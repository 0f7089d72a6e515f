/-! an expression in a frame of the class -/
def fin_ (S : Mm) (x : Int × ((Nat → Int) × (Nat → Int))) : (Nat → Int) × (Nat → Int) := if x.1 = -7 then x.2 else tkw S x.2 x.1
def EqF (C S : Mm) (k : Nat) : Prop :=
  wfK (eK S k) (eN S k) ∧ (∀ i : Nat, i < eN S k → fe C k 1 i = eK S k i) ∧
  (∀ u j, u < eN S k → j < tkn (eK S k u) → fe C k 4 (opr (eK S k) u j : Nat) = (u : Int) ∧ fe C k 5 (opr (eK S k) u j : Nat) = (j : Int)) ∧
  (∀ r ∈ stk (eK S k) (eN S k), fe C k 4 (r : Nat) = -1) ∧ (∀ i : Nat, i < eN S k → fe C k 6 i = (sta (eK S k) 8 i : Int))
theorem fe_in {C : Mm} {k j i : Nat} (hi : i < 8) : fe C k j i = C (33 + 8 * k + j) i := by
  unfold fe rdI; rw [if_pos (by omega), Int.toNat_natCast]
theorem eqF_of {C S : Mm} (hE : CE C S) (hO : Oke S) {k : Nat} (hk : (k : Int) < S 0 19) : EqF C S k := by
  obtain ⟨o1, o2, o3, o4, o5, o6, -⟩ := hO.2.1 k hk
  have hn8 : eN S k ≤ 8 := by unfold eN; omega
  have hC := (hE.2.2 k hk).2.2.2.2.2
  have hw : wfK (eK S k) (eN S k) := ⟨hn8, fun i hi => (o6 i hi).2⟩
  refine ⟨hw, fun i hi => ?_, fun u j hu hj => ?_, fun r hr => ?_, fun i hi => ?_⟩
  · rw [fe_in (by omega)]; exact (hC.1 i hi).1
  · have hl := opr_lt hj (hw.2 u hu)
    rw [fe_in (by omega), fe_in (by omega)]
    exact (hC.1 u hu).2.2.2.2 j hj
  · have := stk_lt _ _ r hr
    rw [fe_in (by omega)]; exact (hC.2 r hr).1
  · rw [fe_in (by omega)]; exact (hC.1 i hi).2.2.2.1
theorem EqF.user {C S : Mm} {k : Nat} (h : EqF C S k) {i : Nat} (hi : i < eN S k) : fe C k 4 i = -1 ∨ ∃ u : Nat, fe C k 4 i = u ∧ i < u ∧ u < eN S k := by
  rcases step_used h.1 (eN S k) (Nat.le_refl _) i hi with hm | ⟨u, j, h1, h2, h3⟩
  · exact Or.inl (h.2.2.2.1 i hm)
  · refine Or.inr ⟨u, ?_, ?_, h1⟩
    · rw [← h3]; exact (h.2.2.1 u j h1 h2).1
    · have := opr_lt h2 (h.1.2 u h1)
      omega
theorem clb_fuel {C S : Mm} {k : Nat} (h : EqF C S k) : ∀ f f' (i : Nat) w (q : (Nat → Int) × (Nat → Int)), i < eN S k → eN S k ≤ i + f → eN S k ≤ i + f' → clb C k f i w q = clb C k f' i w q := by
  intro f
  induction f with
  | zero => intro f' i w q hi h1 _; omega
  | succ f ih =>
    intro f' i w q hi h1 h2
    obtain ⟨g, rfl⟩ : ∃ g, f' = g + 1 := ⟨f' - 1, by omega⟩
    simp only [clb]
    rcases h.user hi with hu | ⟨u, hu, h3, h4⟩
    · rw [if_pos hu, if_pos hu]
    · rw [hu, if_neg (c := (u : Int) = -1) (by omega), if_neg (c := (u : Int) = -1) (by omega), ih g u _ _ h4 (by omega) (by omega)]
-- what is taken by a step leads on to it
theorem clb_up {C S : Mm} {k : Nat} (h : EqF C S k) {u j : Nat} (hu : u < eN S k) (hj : j < tkn (eK S k u)) (w : Int) (q : (Nat → Int) × (Nat → Int)) {x : Int × ((Nat → Int) × (Nat → Int))} (hx : (if w < 0 then (w, q) else tku C k u (opr (eK S k) u j : Nat) w q) = x) : clb C k 8 (opr (eK S k) u j : Nat) w q = if x.1 = -7 then (-7, x.2) else clb C k 8 u x.1 x.2 := by
  have hl := opr_lt hj (h.1.2 u hu)
  have h8 := h.1.1
  have e : clb C k 8 (opr (eK S k) u j : Nat) w q = if fe C k 4 (opr (eK S k) u j : Nat) = -1 then (w, (se q.1 6 (wr ((opr (eK S k) u j : Nat) + 1)), q.2)) else if (if w < 0 then (w, q) else tku C k (fe C k 4 (opr (eK S k) u j : Nat)) (opr (eK S k) u j : Nat) w q).1 = -7 then (-7, (if w < 0 then (w, q) else tku C k (fe C k 4 (opr (eK S k) u j : Nat)) (opr (eK S k) u j : Nat) w q).2) else clb C k 7 (fe C k 4 (opr (eK S k) u j : Nat)) (if w < 0 then (w, q) else tku C k (fe C k 4 (opr (eK S k) u j : Nat)) (opr (eK S k) u j : Nat) w q).1 (if w < 0 then (w, q) else tku C k (fe C k 4 (opr (eK S k) u j : Nat)) (opr (eK S k) u j : Nat) w q).2 := rfl
  rw [e, (h.2.2.1 u j hu hj).1, if_neg (by omega), hx]
  split
  · rfl
  · exact clb_fuel h 7 8 u _ _ hu (by omega) (by omega)
/-- a frame at a node, in an equation -/
def Fx (S : Mm) (n a m : Int) (h k : Nat) (q : (Nat → Int) × (Nat → Int)) : Prop :=
  q.1 9 = 0 ∧ i32 (q.1 7) ∧ q.1 0 = n ∧ q.1 1 = a ∧ q.1 2 = m ∧ q.1 3 = S 31 m.toNat ∧ q.1 4 = (h : Int) ∧ q.1 5 = ((33 + 8 * k : Nat) : Int) ∧ VG S q.1
def Smq (q q' : (Nat → Int) × (Nat → Int)) : Prop := ∀ i, i ≠ 6 → i ≠ 7 → q'.1 i = q.1 i
theorem Smq.refl (q : (Nat → Int) × (Nat → Int)) : Smq q q := fun _ _ _ => rfl
theorem Smq.trans {a b c : (Nat → Int) × (Nat → Int)} (h : Smq a b) (h' : Smq b c) : Smq a c := fun i i1 i2 => (h' i i1 i2).trans (h i i1 i2)
theorem Fx.sm {S : Mm} {n a m : Int} {h k : Nat} {q q' : (Nat → Int) × (Nat → Int)} (hf : Fx S n a m h k q) (hs : Smq q q') (h7 : i32 (q'.1 7)) : Fx S n a m h k q' := by
  obtain ⟨f1, f2, f3, f4, f5, f6, f7, f8, f9⟩ := hf
  unfold Fx VG at *
  rw [hs 9 (by decide) (by decide), hs 0 (by decide) (by decide), hs 1 (by decide) (by decide), hs 2 (by decide) (by decide), hs 3 (by decide) (by decide), hs 4 (by decide) (by decide), hs 5 (by decide) (by decide), hs 10 (by decide) (by decide)]
  exact ⟨f1, h7, f3, f4, f5, f6, f7, f8, f9⟩
def ob (L : Nat → Option (Int × Int)) (b : Int) (t : List Nat) : Int := t.foldl (fun b s => jor b ((L s).elim 0 (·.2))) b
theorem ob_app (L : Nat → Option (Int × Int)) (b : Int) (t t' : List Nat) : ob L b (t ++ t') = ob L (ob L b t) t' := by unfold ob; rw [List.foldl_append]
theorem ob_i32 {L : Nat → Option (Int × Int)} {b : Int} (h : i32 b) : ∀ t, i32 (ob L b t) := by
  intro t
  induction t generalizing b with
  | nil => exact h
  | cons s t ih => exact ih (jor_i32 _ _)
theorem x_step {S C : Mm} {L : Nat → Option (Int × Int)} {n a m : Int} {h k : Nat} (hk : (k : Int) < S 0 19) (hh : h < 4) (hn : 0 ≤ n ∧ n < S 0 35) (ha : 0 ≤ a ∧ a < S 0 12) (hm : 0 ≤ m ∧ m < S 0 35) {q : (Nat → Int) × (Nat → Int)} (hf : Fx S n a m h k q) {i : Nat} (hi : i < eN S k) (h6 : q.1 6 = i) (hst : tkn (eK S k i) = 0 ∨ (eK S k i = 7 ∧ 1000 ≤ rdI q.2 i ∧ rdI q.2 i < 1000 + S 0 35)) :
    VF S q ∧ lkQ S q = lkS S m (S 31 m.toNat) h (eK S k i) (eA S k i) (eB S k i) (rdI q.2 i) ∧ (lkQ S q = -1 → Rn S C L 1 q [] (fin_ S (clb C k 8 i (lfV S m (S 31 m.toNat) h (eK S k i) (eA S k i) (eB S k i)) q))) ∧
    (lkQ S q ≠ -1 → ∀ v b, L (lkQ S q).toNat = some (v, b) → Rn S C L 1 q [(lkQ S q).toNat] (fin_ S (clb C k 8 i v (se q.1 7 (jor (q.1 7) b), q.2)))) := by
  obtain ⟨f1, f2, f3, f4, f5, f6, f7, f8, f9⟩ := hf
  have hv : VE S q k h := ⟨hk, f8, by rw [f5]; exact f6, f7, hh, by rw [h6]; omega, by rw [h6, Int.toNat_natCast]; exact hst⟩
  have hVF : VF S q := ⟨f1, f2, by rw [f3]; exact hn, by rw [f4]; exact ha, by rw [f5]; exact hm, Or.inr ⟨k, h, hv⟩⟩
  have hfk := fk_of hv
  have e1 : lkQ S q = lkS S m (S 31 m.toNat) h (eK S k i) (eA S k i) (eB S k i) (rdI q.2 i) := by
    unfold lkQ; rw [f8, if_neg (by omega), hfk, f5, f7, h6, Int.toNat_natCast, Int.toNat_natCast]
  have e2 : vlQ S q = lfV S m (S 31 m.toNat) h (eK S k i) (eA S k i) (eB S k i) := by
    unfold vlQ; rw [hfk, f5, f7, h6, Int.toNat_natCast, Int.toNat_natCast]
  refine ⟨hVF, e1, fun e => ?_, fun e v b hb => ?_⟩
  · refine ⟨_, [], [], ⟨hVF, f9, Or.inl ⟨e, rfl, rfl⟩⟩, rfl, rfl, ?_⟩
    unfold af fin_
    rw [f8, if_neg (c := ((33 + 8 * k : Nat) : Int) = -1) (by omega), hfk, h6, e2]
  · refine ⟨_, [(lkQ S q).toNat], [], ⟨hVF, f9, Or.inr ⟨e, v, b, hb, rfl, rfl⟩⟩, rfl, rfl, ?_⟩
    unfold af fin_
    simp only
    rw [se_ne _ _ (by decide), f8, if_neg (c := ((33 + 8 * k : Nat) : Int) = -1) (by omega), se_ne _ _ (by decide), h6]
    have : fk (se q.1 7 (jor (q.1 7) b), q.2) = k := by unfold fk at hfk ⊢; simp only; rw [se_ne _ _ (by decide)]; exact hfk
    rw [this]
theorem jn_ok {K v w : Int} (hv : 0 ≤ v) (hw : 0 ≤ w) : -3 ≤ jn K v w ∧ jn K v w < 1000 := by
  have hr : ∀ x : Int, 0 ≤ x → x < 2147483648 → -3 ≤ jrem x 1000 ∧ jrem x 1000 < 1000 := by
    intro x h0 h1
    unfold jrem
    have e : x.tdiv 1000 = x / 1000 := Int.tdiv_eq_ediv_of_nonneg h0
    rw [e, wrE (v := x / 1000) (by omega) (by omega), wrE (v := x / 1000 * 1000) (by omega) (by omega), wrE (by omega) (by omega)]
    omega
  unfold jn
  by_cases c0 : K = 12
  · rw [if_pos c0]; split <;> omega
  rw [if_neg c0]
  by_cases c1 : 1000 ≤ v
  · rw [if_pos c1]; omega
  rw [if_neg c1]
  by_cases c2 : w < 1000
  case neg => rw [if_neg c2]; omega
  rw [if_pos c2]
  by_cases c3 : K = 8
  · rw [if_pos c3, wrE (by omega) (by omega)]; exact hr _ (by omega) (by omega)
  rw [if_neg c3]
  by_cases c4 : K = 9
  · have h1 : 0 ≤ v * w := Int.mul_nonneg hv hw
    have h2 : v * w ≤ 999 * 999 := Int.mul_le_mul (by omega) (by omega) hw (by omega)
    rw [if_pos c4, wrE (by omega) (by omega)]; exact hr _ (by omega) (by omega)
  rw [if_neg c4]
  by_cases c5 : K = 10
  · rw [if_pos c5]; split <;> omega
  rw [if_neg c5]
  have hj : 0 ≤ jor v w ∧ jor v w < 1024 := by
    have hx : ∀ z : Int, 0 ≤ z → z < 1000 → (Ii z).toBitVec.toNat = z.toNat := fun z z0 z1 => by
      have h2 := Ii_toInt (v := z) (by unfold i32; omega)
      have h3 : (Ii z).toBitVec.toInt = z := h2
      rw [BitVec.toInt_eq_toNat_cond] at h3
      split at h3 <;> omega
    have h3 : jor v w = (Ii v ||| Ii w).toBitVec.toInt := rfl
    have h4 : (Ii v ||| Ii w).toBitVec.toNat < 2 ^ 10 := by
      rw [Int32.toBitVec_or, BitVec.toNat_or]
      exact Nat.or_lt_two_pow (by rw [hx v hv (by omega)]; omega) (by rw [hx w hw c2]; omega)
    rw [h3, BitVec.toInt_eq_toNat_cond]
    split <;> omega
  exact hr _ hj.1 (by omega)
theorem ar_seq {N0 N1 o so oj soj i : Nat} (n0 : N0 ≤ o - so + 1) (h0 : so ≤ o) (n1 : N1 ≤ oj - soj + 1) (h1 : soj ≤ oj) (hs : o + 1 ≤ soj) (hi : oj < i) : N0 + N1 ≤ i - so + 1 := by omega
theorem ar_rng {o so oj soj i x : Nat} (h0 : so ≤ o) (hs : o + 1 ≤ soj) (hi : oj < i) (hx : ¬ (so ≤ x ∧ x ≤ i)) : ¬ (soj ≤ x ∧ x ≤ oj) := by omega
theorem ar_rng0 {o so i x : Nat} (hi : o < i) (hx : ¬ (so ≤ x ∧ x ≤ i)) : ¬ (so ≤ x ∧ x ≤ o) := by omega
theorem ar_in {o so i x : Nat} (h0 : so ≤ o) (hi : o < i) (hx : ¬ (so ≤ x ∧ x ≤ i)) : x ≠ i := by omega
theorem x_expr {S C : Mm} (hg : Okg S) (hO : Oke S) (hN : Okn S) {L : Nat → Option (Int × Int)} (hL : ∀ s v b, L s = some (v, b) → -3 ≤ v ∧ v < 1000 + S 0 35) {n a m : Int} {h k : Nat} (hE : EqF C S k) (hk : (k : Int) < S 0 19) (hh : h < 4) (hn : 0 ≤ n ∧ n < S 0 35) (ha : 0 ≤ a ∧ a < S 0 12) (hm : 0 ≤ m ∧ m < S 0 35) : ∀ f (i : Nat), i < eN S k → i < f → ∀ q, Fx S n a m h k q → q.1 6 = (sta (eK S k) 8 i : Int) →
    (∀ v, (evo S L m (S 31 m.toNat) h k f i).2 = some v → (-3 ≤ v ∧ v < 1000 + S 0 35) ∧ ∃ N q', N ≤ i - sta (eK S k) 8 i + 1 ∧ Rn S C L N q (evo S L m (S 31 m.toNat) h k f i).1 (fin_ S (clb C k 8 i v q')) ∧ Smq q q' ∧ q'.1 7 = ob L (q.1 7) (evo S L m (S 31 m.toNat) h k f i).1 ∧ ∀ x : Nat, ¬ (sta (eK S k) 8 i ≤ x ∧ x ≤ i) → q'.2 x = q.2 x) ∧
    ((evo S L m (S 31 m.toNat) h k f i).2 = none → ∃ N t' q', N ≤ i - sta (eK S k) 8 i + 1 ∧ Rn S C L N q t' q' ∧ VF S q' ∧ VG S q'.1 ∧ lkQ S q' ≠ -1 ∧ L (lkQ S q').toNat = none ∧ (evo S L m (S 31 m.toNat) h k f i).1 = t' ++ [(lkQ S q').toNat] ∧ Smq q q' ∧ q'.1 7 = ob L (q.1 7) t') := by
  intro f
  induction f with
  | zero => intro i _ h0; omega
  | succ f ih =>
    intro i hi hif q hf h6
    have hw := hE.1
    have hw8 := hw.1
    have hfe1 := hE.2.1 i hi
    have hstep := ((hO.2.1 k hk).2.2.2.2.2.1 i hi).1
    have hi32 := hf.2.1
    simp only [evo]
    by_cases c0 : tkn (eK S k i) = 0
    · have hs : sta (eK S k) 8 i = i := by rw [sta_unf hw hi, if_pos c0]
      rw [hs] at h6 ⊢
      obtain ⟨x1, x2, x3, x4⟩ := x_step (L := L) (C := C) hk hh hn ha hm hf hi h6 (Or.inl c0)
      have h7 : eK S k i ≠ 7 := fun e => by rw [e] at c0; exact absurd c0 (by decide)
      have hx : lkS S m (S 31 m.toNat) h (eK S k i) (eA S k i) (eB S k i) 0 = lkQ S q := by
        rw [x2]; simp only [lkS, h7, if_false]
      rw [if_pos c0, hx]
      by_cases c1 : lkQ S q = -1
      · rw [if_pos c1]
        refine ⟨fun v hv => ?_, fun e => by cases e⟩
        have e : lfV S m (S 31 m.toNat) h (eK S k i) (eA S k i) (eB S k i) = v := Option.some.inj hv
        subst e
        exact ⟨lfV_ok hg hN hm hstep, 1, q, by omega, x3 c1, Smq.refl q, rfl, fun _ _ => rfl⟩
      · rw [if_neg c1]
        unfold look
        cases hl : L (lkQ S q).toNat with
        | none =>
          refine ⟨fun v hv => (by cases hv), fun _ => ?_⟩
          exact ⟨0, [], q, by omega, ⟨rfl, rfl⟩, x1, hf.2.2.2.2.2.2.2.2, c1, hl, rfl, Smq.refl q, rfl⟩
        | some x =>
          obtain ⟨v, b⟩ := x
          refine ⟨fun v' hv => ?_, fun e => by cases e⟩
          have e : v = v' := Option.some.inj hv
          subst e
          refine ⟨hL _ _ _ hl, 1, (se q.1 7 (jor (q.1 7) b), q.2), by omega, x4 c1 v b hl, fun j j6 j7 => se_ne _ _ j7, ?_, fun _ _ => rfl⟩
          simp only [ob, List.foldl_cons, List.foldl_nil, hl, Option.elim]
          rw [se_at]
    · have ht := hw.2 i hi
      have hol := opr_lt (j := 0) (by omega) ht
      have hsi : sta (eK S k) 8 i = sta (eK S k) 8 (opr (eK S k) i 0) := by rw [sta_unf hw hi, if_neg c0]
      have hsl := (sta_le hw 8 (opr (eK S k) i 0) (by omega) (by omega)).1
      obtain ⟨A1, A2⟩ := ih (opr (eK S k) i 0) (by omega) (by omega) q hf (by rw [h6, hsi])
      rw [if_neg c0, hsi]
      generalize evo S L m (S 31 m.toNat) h k f (opr (eK S k) i 0) = r at A1 A2
      obtain ⟨t0, r2⟩ := r
      cases r2 with
      | none =>
        rw [bnd_none]
        refine ⟨fun v hv => (by cases hv), fun _ => ?_⟩
        obtain ⟨N, t', q', n1, n2, n3⟩ := A2 rfl
        exact ⟨N, t', q', by omega, n2, n3⟩
      | some v =>
        rw [bnd_some]
        obtain ⟨vb, N0, q0, n0, R0, S0, b0, H0⟩ := A1 v rfl
        simp only at R0 b0
        have i0 : i32 (q0.1 7) := by rw [b0]; exact ob_i32 hi32 _
        have F0 := hf.sm S0 i0
        have hup := fun x hx => clb_up hE hi (j := 0) (by omega) v q0 (x := x) hx
        have hro := (hE.2.2.1 i 0 hi (by omega)).2
        by_cases cv : v < 0
        · rw [if_pos cv]
          refine ⟨fun v' hv => ?_, fun e => by cases e⟩
          have e : v = v' := Option.some.inj hv
          subst e
          have hu := hup (v, q0) (if_pos cv)
          simp only at hu
          rw [if_neg (by omega)] at hu
          rw [hu] at R0
          refine ⟨vb, N0, q0, by omega, by rw [List.append_nil]; exact R0, S0, by rw [List.append_nil]; exact b0, fun x hx => H0 x (by omega)⟩
        rw [if_neg cv]
        -- what is run behind the first operand
        have cat : ∀ (N1 : Nat) (t1 : List Nat) (q1 q2 : (Nat → Int) × (Nat → Int)) , fin_ S (clb C k 8 (opr (eK S k) i 0 : Nat) v q0) = q1 → Rn S C L N1 q1 t1 q2 → Rn S C L (N0 + N1) q (t0 ++ t1) q2 := fun N1 t1 q1 q2 e h1 => Rn_add _ _ _ _ _ _ _ R0 (by rw [e]; exact h1)
        by_cases c7 : eK S k i = 7
        · have hlast : opr (eK S k) i 0 + 1 = i := by
            have := opr_last hw hi (by omega)
            rw [c7] at this
            exact this
          rw [if_pos c7]
          by_cases cr : v < 1000
          · rw [if_pos cr]
            refine ⟨fun v' hv => ?_, fun e => by cases e⟩
            have e : -1 = v' := Option.some.inj hv
            subst e
            have hu := hup (-1, q0) (by
              rw [if_neg cv]; unfold tku
              rw [hfe1, c7, if_neg (by decide), if_pos rfl, if_neg (by omega)])
            simp only at hu
            rw [if_neg (by decide)] at hu
            rw [hu] at R0
            refine ⟨by omega, N0, q0, by omega, by rw [List.append_nil]; exact R0, S0, by rw [List.append_nil]; exact b0, fun x hx => H0 x (by omega)⟩
          · rw [if_neg cr]
            have hu := hup (-7, (se q0.1 6 i, seI q0.2 i v)) (by
              rw [if_neg cv]; unfold tku
              rw [hfe1, c7, if_neg (by decide), if_pos rfl, if_pos (by omega)])
            simp only at hu
            rw [if_pos trivial] at hu
            have hfin : fin_ S (clb C k 8 (opr (eK S k) i 0 : Nat) v q0) = (se q0.1 6 i, seI q0.2 i v) := by rw [hu]; unfold fin_; rw [if_pos rfl]
            have S1 : Smq q0 (se q0.1 6 i, seI q0.2 i v) := fun j j6 _ => se_ne _ _ j6
            have e7 : (se q0.1 6 (i : Int), seI q0.2 i v).1 7 = q0.1 7 := se_ne q0.1 (i := 6) (j := 7) (i : Int) (by decide)
            have F1 := F0.sm S1 (by rw [e7]; exact i0)
            have hrd : rdI (seI q0.2 i v) i = v := by
              unfold rdI seI; rw [if_pos (by omega), if_pos (by omega), se_at]
            obtain ⟨x1, x2, x3, x4⟩ := x_step (L := L) (C := C) hk hh hn ha hm F1 hi (se_at q0.1 6 (i : Int)) (Or.inr ⟨c7, by simp only; rw [hrd]; omega, by simp only; rw [hrd]; omega⟩)
            have k1 := hstep.2.1
            rw [if_pos (by omega)] at k1
            have hlk : lkQ S (se q0.1 6 (i : Int), seI q0.2 i v) = 6 * (v - 1000) + eA S k i := by
              rw [x2]; unfold lkS
              simp only
              rw [c7, if_neg (by decide), if_neg (by decide), if_pos rfl, hrd]
            have hne : lkQ S (se q0.1 6 (i : Int), seI q0.2 i v) ≠ -1 := by rw [hlk]; omega
            unfold look
            rw [← hlk]
            cases hl : L (lkQ S (se q0.1 6 (i : Int), seI q0.2 i v)).toNat with
            | none =>
              refine ⟨fun v hv => (by cases hv), fun _ => ?_⟩
              refine ⟨N0 + 0, t0 ++ [], _, by omega, cat 0 [] _ _ hfin ⟨rfl, rfl⟩, x1, F1.2.2.2.2.2.2.2.2, hne, hl, by rw [List.append_nil], S0.trans S1, ?_⟩
              rw [List.append_nil, e7]; exact b0
            | some x =>
              obtain ⟨v', b⟩ := x
              refine ⟨fun v'' hv => ?_, fun e => by cases e⟩
              have e : v' = v'' := Option.some.inj hv
              subst e
              refine ⟨hL _ _ _ hl, N0 + 1, _, by omega, cat 1 _ _ _ hfin (x4 hne v' b hl), S0.trans (S1.trans fun j j6 j7 => se_ne _ _ j7), ?_, fun x hx => ?_⟩
              · simp only
                rw [se_at, ob_app, ← b0, se_ne _ _ (show (7 : Nat) ≠ 6 by decide)]
                simp only [ob, List.foldl_cons, List.foldl_nil, hl, Option.elim]
              · simp only
                unfold seI
                rw [if_pos (by omega), se_ne _ _ (by omega)]
                exact H0 x (by omega)
        rw [if_neg c7]
        by_cases c13 : eK S k i = 13
        · have ht3 : tkn (eK S k i) = 3 := by rw [c13]; rfl
          rw [if_pos c13]
          have hl2 : opr (eK S k) i 2 + 1 = i := by
            have := opr_last hw hi (by omega)
            rw [ht3] at this
            exact this
          have hs1 : sta (eK S k) 8 (opr (eK S k) i 1) = opr (eK S k) i 0 + 1 := opr_sta hw hi (by omega)
          have hs2 : sta (eK S k) 8 (opr (eK S k) i 2) = opr (eK S k) i 1 + 1 := opr_sta hw hi (by omega)
          have hl1 := opr_lt (j := 1) (by omega) ht
          have hle1 := (sta_le hw 8 (opr (eK S k) i 1) (by omega) (by omega)).1
          have hle2 := (sta_le hw 8 (opr (eK S k) i 2) (by omega) (by omega)).1
          have hj : ∃ j, (j = 1 ∨ j = 2) ∧ (if v = 0 then 2 else 1) = j := by
            by_cases e : v = 0
            · exact ⟨2, Or.inr rfl, if_pos e⟩
            · exact ⟨1, Or.inl rfl, if_neg e⟩
          obtain ⟨j, hj1, hj2⟩ := hj
          rw [hj2]
          have hnx : (if v = 0 then fe C k 6 (wr ((i : Int) - 1)) else wr ((opr (eK S k) i 0 : Nat) + 1)) = (sta (eK S k) 8 (opr (eK S k) i j) : Int) := by
            by_cases e : v = 0
            · rw [if_pos e] at hj2 ⊢
              subst hj2
              rw [wrE (by omega) (by omega), show (i : Int) - 1 = ((opr (eK S k) i 2 : Nat) : Int) by omega, hE.2.2.2.2 _ (by omega)]
            · rw [if_neg e] at hj2 ⊢
              subst hj2
              rw [wrE (by omega) (by omega), hs1]; omega
          have hu := hup (-7, (se q0.1 6 (sta (eK S k) 8 (opr (eK S k) i j) : Int), q0.2)) (by
            rw [if_neg cv]; unfold tku
            rw [hfe1, if_pos c13, hro, if_pos (by decide), hnx])
          simp only at hu
          rw [if_pos trivial] at hu
          have hfin : fin_ S (clb C k 8 (opr (eK S k) i 0 : Nat) v q0) = (se q0.1 6 (sta (eK S k) 8 (opr (eK S k) i j) : Int), q0.2) := by rw [hu]; unfold fin_; rw [if_pos rfl]
          have S1 : Smq q0 (se q0.1 6 (sta (eK S k) 8 (opr (eK S k) i j) : Int), q0.2) := fun j j6 _ => se_ne _ _ j6
          have e7 : (se q0.1 6 (sta (eK S k) 8 (opr (eK S k) i j) : Int), q0.2).1 7 = q0.1 7 := se_ne q0.1 (i := 6) (j := 7) (sta (eK S k) 8 (opr (eK S k) i j) : Int) (by decide)
          have F1 := F0.sm S1 (by rw [e7]; exact i0)
          have hoj : opr (eK S k) i j < i := by rcases hj1 with rfl | rfl <;> omega
          have hlej := (sta_le hw 8 (opr (eK S k) i j) (by omega) (by omega)).1
          have hsj : opr (eK S k) i 0 + 1 ≤ sta (eK S k) 8 (opr (eK S k) i j) := by rcases hj1 with rfl | rfl <;> omega
          obtain ⟨B1, B2⟩ := ih (opr (eK S k) i j) (by omega) (by omega) _ F1 (se_at q0.1 6 _)
          rw [e7] at B1 B2
          generalize evo S L m (S 31 m.toNat) h k f (opr (eK S k) i j) = r at B1 B2
          obtain ⟨t1, r2⟩ := r
          simp only at B1 B2 ⊢
          refine ⟨fun w hw' => ?_, fun hno => ?_⟩
          · obtain ⟨wb, N1, q2, n1, R1, S2, b1, H1⟩ := B1 w hw'
            have hjt : j < tkn (eK S k i) := by rcases hj1 with rfl | rfl <;> omega
            have hu2 := clb_up hE hi (j := j) hjt w q2 (x := (w, q2)) (by
              by_cases cw : w < 0
              · rw [if_pos cw]
              · rw [if_neg cw]; unfold tku
                rw [hfe1, if_pos c13, (hE.2.2.1 i j hi hjt).2, if_neg (by rcases hj1 with rfl | rfl <;> decide)])
            simp only at hu2
            rw [if_neg (by omega)] at hu2
            rw [hu2] at R1
            refine ⟨wb, N0 + N1, q2, ar_seq n0 hsl n1 hlej hsj hoj, cat N1 t1 _ _ hfin R1, S0.trans (S1.trans S2), ?_, fun x hx => ?_⟩
            · rw [b1, ob_app, b0]
            · rw [H1 x (ar_rng hsl hsj hoj hx)]; exact H0 x (ar_rng0 hol hx)
          · obtain ⟨N1, t', q', n1, R1, u1, u2, u3, u4, u5, u6, u7⟩ := B2 hno
            refine ⟨N0 + N1, t0 ++ t', q', ar_seq n0 hsl n1 hlej hsj hoj, cat N1 t' _ _ hfin R1, u1, u2, u3, u4, by rw [u5, List.append_assoc], S0.trans (S1.trans u6), ?_⟩
            rw [u7, ob_app, b0]
        · rw [if_neg c13]
          have ht2 : tkn (eK S k i) = 2 := by
            unfold tkn at c0 ⊢
            rw [if_neg c7] at c0 ⊢
            by_cases c8 : 8 ≤ eK S k i ∧ eK S k i ≤ 12
            · rw [if_pos c8]
            · rw [if_neg c8, if_neg c13] at c0
              exact absurd rfl c0
          have hl1 : opr (eK S k) i 1 + 1 = i := by
            have := opr_last hw hi (by omega)
            rw [ht2] at this
            exact this
          have hs1 : sta (eK S k) 8 (opr (eK S k) i 1) = opr (eK S k) i 0 + 1 := opr_sta hw hi (by omega)
          have hle1 := (sta_le hw 8 (opr (eK S k) i 1) (by omega) (by omega)).1
          have hoj : opr (eK S k) i 1 < i := by omega
          have hsj : opr (eK S k) i 0 + 1 ≤ sta (eK S k) 8 (opr (eK S k) i 1) := by omega
          have hnx : wr ((opr (eK S k) i 0 : Nat) + 1) = (sta (eK S k) 8 (opr (eK S k) i 1) : Int) := by rw [wrE (by omega) (by omega), hs1]; omega
          have hu := hup (-7, (se q0.1 6 (sta (eK S k) 8 (opr (eK S k) i 1) : Int), seI q0.2 i v)) (by
            rw [if_neg cv]; unfold tku
            rw [hfe1, if_neg c13, if_neg c7, hro, if_pos (by decide), hnx])
          simp only at hu
          rw [if_pos trivial] at hu
          have hfin : fin_ S (clb C k 8 (opr (eK S k) i 0 : Nat) v q0) = (se q0.1 6 (sta (eK S k) 8 (opr (eK S k) i 1) : Int), seI q0.2 i v) := by rw [hu]; unfold fin_; rw [if_pos rfl]
          have S1 : Smq q0 (se q0.1 6 (sta (eK S k) 8 (opr (eK S k) i 1) : Int), seI q0.2 i v) := fun j j6 _ => se_ne _ _ j6
          have e7 : (se q0.1 6 (sta (eK S k) 8 (opr (eK S k) i 1) : Int), seI q0.2 i v).1 7 = q0.1 7 := se_ne q0.1 (i := 6) (j := 7) (sta (eK S k) 8 (opr (eK S k) i 1) : Int) (by decide)
          have F1 := F0.sm S1 (by rw [e7]; exact i0)
          obtain ⟨B1, B2⟩ := ih (opr (eK S k) i 1) (by omega) (by omega) _ F1 (se_at q0.1 6 _)
          rw [e7] at B1 B2
          generalize evo S L m (S 31 m.toNat) h k f (opr (eK S k) i 1) = r at B1 B2
          obtain ⟨t1, r2⟩ := r
          simp only at B1 B2
          cases r2 with
          | none =>
            rw [bnd_none]
            refine ⟨fun v hv => (by cases hv), fun _ => ?_⟩
            obtain ⟨N1, t', q', n1, R1, u1, u2, u3, u4, u5, u6, u7⟩ := B2 rfl
            refine ⟨N0 + N1, t0 ++ t', q', ar_seq n0 hsl n1 hle1 hsj hoj, cat N1 t' _ _ hfin R1, u1, u2, u3, u4, by simp only; rw [u5, List.append_assoc], S0.trans (S1.trans u6), ?_⟩
            rw [u7, ob_app, b0]
          | some w =>
            rw [bnd_some]
            obtain ⟨wb, N1, q2, n1, R1, S2, b1, H1⟩ := B1 w rfl
            simp only [List.append_nil]
            refine ⟨fun z hz => ?_, fun e => by cases e⟩
            have e : (if w < 0 then w else jn (eK S k i) v w) = z := Option.some.inj hz
            have hheld : rdI q2.2 i = v := by
              unfold rdI
              rw [if_pos (by omega), Int.toNat_natCast, H1 i (by omega)]
              unfold seI
              rw [if_pos (by omega), Int.toNat_natCast, se_at]
            have hu2 := clb_up hE hi (j := 1) (by omega) w q2 (x := (z, q2)) (by
              by_cases cw : w < 0
              · rw [if_pos cw, ← e, if_pos cw]
              · rw [if_neg cw, ← e, if_neg cw]; unfold tku
                rw [hfe1, if_neg c13, if_neg c7, (hE.2.2.1 i 1 hi (by omega)).2, if_neg (by decide), hheld])
            have hzb : -3 ≤ z ∧ z < 1000 + S 0 35 := by
              rw [← e]
              by_cases cw : w < 0
              · rw [if_pos cw]; exact wb
              · rw [if_neg cw]
                have := jn_ok (K := eK S k i) (v := v) (w := w) (by omega) (by omega)
                omega
            simp only at hu2
            rw [if_neg (by omega)] at hu2
            rw [hu2] at R1
            refine ⟨hzb, N0 + N1, q2, ar_seq n0 hsl n1 hle1 hsj hoj, cat N1 t1 _ _ hfin R1, S0.trans (S1.trans S2), ?_, fun x hx => ?_⟩
            · rw [b1, ob_app, b0]
            · rw [H1 x (ar_rng hsl hsj hoj hx)]
              have hxi := ar_in hsl hol hx
              unfold seI
              split
              · rw [Int.toNat_natCast, se_ne _ _ hxi]
                exact H0 x (ar_rng0 hol hx)
              · exact H0 x (ar_rng0 hol hx)
