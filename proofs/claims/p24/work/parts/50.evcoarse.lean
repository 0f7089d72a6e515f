theorem lsN_app (d : Nat) (l : List Int) (t t' : List Nat) : lsN d l (t ++ t') = lsN d (lsN d l t) t' := by
  unfold lsN
  by_cases c : d = 1
  · rw [if_pos c, if_pos c, if_pos c, List.foldl_append]
  · rw [if_neg c, if_neg c, if_neg c]
theorem run_mem {S C : Mm} (hg : Okg S) (hO : Oke S) (hN : Okn S) {bk : Nat} (hb : isF bk) {rg bv bh : Nat → Int} {s : Int} {rest : List Int} (hlen : rest.length < 181) (hbd : BdO S rg bv bh) {J1 J2 : Mm → Rs} : ∀ (k F : Nat) (M : Mm) (v : Int) (l : List Int) (q' : (Nat → Int) × (Nat → Int)) (t : List Nat), k ≤ F → RBs S C bk rg bv bh (s :: rest) M → (M 310 11 ≠ 0 → Lst M l) → Sl l → Rn S C (Lk S rg bv bh (s :: rest)) k (M (314 + 2 * rest.length), M (314 + 2 * rest.length + 1)) t q' → 0 ≤ v → v + k ≤ 10000000 →
    ∃ M', Lp (f_X2_find_L48_41 J1 J2) F (v, M) = Lp (f_X2_find_L48_41 J1 J2) (F - k) (v + k, M') ∧ RBs S C bk rg bv bh (s :: rest) M' ∧ (M' (314 + 2 * rest.length), M' (314 + 2 * rest.length + 1)) = q' ∧ (∀ j, j ≠ 314 + 2 * rest.length → j ≠ 314 + 2 * rest.length + 1 → j ≠ 310 → j ≠ 311 → M' j = M j) ∧ (∀ i, i ≠ 0 → i ≠ 10 → M' 310 i = M 310 i) ∧ (M' 310 11 ≠ 0 → Lst M' (lsN (rest.length + 1) l t)) ∧ Sl (lsN (rest.length + 1) l t) := by
  intro k
  induction k with
  | zero =>
    intro F M v l q' t _ hR hl hsl hrn hv0 hv
    obtain ⟨e1, e2⟩ := hrn
    subst e1 e2
    have e : lsN (rest.length + 1) l [] = l := by unfold lsN; simp
    rw [e]
    exact ⟨M, by simp, hR, rfl, fun _ _ _ _ _ => rfl, fun _ _ _ => rfl, hl, hsl⟩
  | succ k ih =>
    intro F M v l q' t hF hR hl hsl hrn hv0 hv
    obtain ⟨q1, t1, t2, h1, h2, h3⟩ := hrn
    obtain ⟨G, rfl⟩ : ∃ G, F = G + 1 := ⟨F - 1, by omega⟩
    obtain ⟨M1, a1, a2, a3, a4, a5, a6, a7⟩ := mv_step hg hO hN hb hlen hbd hR hl hsl h1 (J1 := J1) (J2 := J2) (rc := Lp (f_X2_find_L48_41 J1 J2) G) (v := v) (by omega)
    obtain ⟨M2, b1, b2, b3, b4, b5, b6, b7⟩ := ih G M1 (v + 1) (lsN (rest.length + 1) l t1) q' t2 (by omega) a2 a6 a7 (by rw [a3]; exact h3) (by omega) (by omega)
    refine ⟨M2, ?_, b2, b3, fun j j1 j2 j3 j4 => (b4 j j1 j2 j3 j4).trans (a4 j j1 j2 j3 j4), fun i i1 i2 => (b5 i i1 i2).trans (a5 i i1 i2), ?_, ?_⟩
    · rw [Lp_s, a1, b1, show G + 1 - (k + 1) = G - k by omega, show v + 1 + (k : Int) = v + ((k + 1 : Nat) : Int) by omega]
    · rw [h2, lsN_app]; exact b6
    · rw [h2, lsN_app]; exact b7
/-! the bits of what a finding hangs on -/
theorem nat_of {z : Int} (h : 0 ≤ z ∧ z < 2147483648) : (Ii z).toBitVec.toNat = z.toNat := by
  have h2 := Ii_toInt (v := z) (by unfold i32; omega)
  have h3 : (Ii z).toBitVec.toInt = z := h2
  rw [BitVec.toInt_eq_toNat_cond] at h3
  split at h3 <;> omega
theorem jor_nat {x y : Int} (hx : 0 ≤ x ∧ x < 2147483648) (hy : 0 ≤ y ∧ y < 2147483648) : (0 ≤ jor x y ∧ jor x y < 2147483648) ∧ (jor x y).toNat = x.toNat ||| y.toNat := by
  have h3 : jor x y = (Ii x ||| Ii y).toBitVec.toInt := rfl
  have h4 : (Ii x ||| Ii y).toBitVec.toNat = x.toNat ||| y.toNat := by
    rw [Int32.toBitVec_or, BitVec.toNat_or, nat_of hx, nat_of hy]
  have h5 : x.toNat ||| y.toNat < 2 ^ 31 := Nat.or_lt_two_pow (by omega) (by omega)
  rw [h3, BitVec.toInt_eq_toNat_cond, h4]
  split <;> omega
theorem jor_bt {x y : Int} (hx : 0 ≤ x ∧ x < 2147483648) (hy : 0 ≤ y ∧ y < 2147483648) (i : Nat) : bt (jor x y) i = (bt x i || bt y i) := by
  unfold bt
  rw [(jor_nat hx hy).2, Nat.testBit_or]
theorem bitC_bt : ∀ n : Fin 30, (0 ≤ bitC (n.val : Int) ∧ bitC (n.val : Int) < 2147483648) ∧ (bitC (n.val : Int)).toNat = 2 ^ n.val := by decide +kernel
theorem bitC_ok {n : Int} (hn : n = -1 ∨ (0 ≤ n ∧ n < 30)) : (0 ≤ bitC n ∧ bitC n < 2147483648) ∧ ∀ i, bt (bitC n) i = decide ((i : Int) = n) := by
  rcases hn with rfl | hn
  · refine ⟨by decide, fun i => ?_⟩
    rw [show bitC (-1) = 0 by decide, bt0]
    exact (decide_eq_false (by omega)).symm
  · have h := bitC_bt ⟨n.toNat, by omega⟩
    simp only [Int.toNat_of_nonneg hn.1] at h
    refine ⟨h.1, fun i => ?_⟩
    unfold bt
    rw [h.2, Nat.testBit_two_pow]
    by_cases c : n.toNat = i
    · rw [decide_eq_true c, decide_eq_true (by omega)]
    · rw [decide_eq_false c, decide_eq_false (by omega)]
theorem ALL_bt : (0 ≤ ALL ∧ ALL < 2147483648) ∧ ∀ i, bt ALL i = decide (i = 30) := by
  refine ⟨by decide, fun i => ?_⟩
  unfold bt
  rw [show ALL.toNat = 2 ^ 30 by decide, Nat.testBit_two_pow]
  by_cases c : 30 = i
  · rw [decide_eq_true c, decide_eq_true (by omega)]
  · rw [decide_eq_false c, decide_eq_false (by omega)]
/-- bits of nodes that there are, or of all -/
def HBt (S : Mm) (h : Int) : Prop := (0 ≤ h ∧ h < 2147483648) ∧ ∀ i, bt h i = true → (i : Int) < S 0 35 ∨ i = 30
theorem HBt.or_ {S : Mm} {x y : Int} (hx : HBt S x) (hy : HBt S y) : HBt S (jor x y) ∧ ∀ i, bt (jor x y) i = (bt x i || bt y i) := by
  refine ⟨⟨(jor_nat hx.1 hy.1).1, fun i hi => ?_⟩, jor_bt hx.1 hy.1⟩
  rw [jor_bt hx.1 hy.1 i, Bool.or_eq_true] at hi
  exact hi.elim (hx.2 i) (hy.2 i)
theorem HBt.zero (S : Mm) : HBt S 0 := ⟨by decide, fun i hi => by rw [bt0] at hi; cases hi⟩
theorem HBt.all (S : Mm) : HBt S ALL := ⟨ALL_bt.1, fun i hi => by rw [ALL_bt.2] at hi; exact Or.inr (of_decide_eq_true hi)⟩
theorem HBt.bit {S : Mm} (h35 : S 0 35 ≤ 30) {n : Int} (hn : n = -1 ∨ (0 ≤ n ∧ n < S 0 35)) : HBt S (bitC n) := by
  have h := bitC_ok (n := n) (by omega)
  refine ⟨h.1, fun i hi => ?_⟩
  rw [h.2] at hi
  have := of_decide_eq_true hi
  omega
/-- contributions of what is known are such bits -/
def BdH (S : Mm) (bh : Nat → Int) : Prop := ∀ s, s < 180 → HBt S (bh s)
theorem Lk_hb {S : Mm} {rg bv bh : Nat → Int} {op : List Int} (h : BdH S bh) : ∀ s, HBt S ((Lk S rg bv bh op s).elim 0 (·.2)) := by
  intro s
  unfold Lk
  by_cases c0 : 180 ≤ s
  · rw [if_pos c0]; exact HBt.zero S
  rw [if_neg c0]
  by_cases c1 : S 12 (s % 6) = 3
  · rw [if_pos c1]; exact HBt.all S
  rw [if_neg c1]
  by_cases c2 : bh s ≠ 0
  · rw [if_pos c2]; exact h s (by omega)
  rw [if_neg c2]
  split
  · exact HBt.zero S
  · exact HBt.zero S
theorem ob_hb {S : Mm} {L : Nat → Option (Int × Int)} (hL : ∀ s, HBt S ((L s).elim 0 (·.2))) : ∀ (t : List Nat) (b : Int), HBt S b → HBt S (ob L b t) ∧ ∀ i, bt b i = true → bt (ob L b t) i = true := by
  intro t
  induction t with
  | nil => exact fun b hb => ⟨hb, fun _ h => h⟩
  | cons s t ih =>
    intro b hb
    have h1 := hb.or_ (hL s)
    have h2 := ih _ h1.1
    refine ⟨h2.1, fun i hi => h2.2 i ?_⟩
    rw [h1.2, hi]; rfl
theorem h0_hb {S : Mm} (hN : Okn S) {n a : Int} (hn : 0 ≤ n ∧ n < S 0 35) : HBt S (h0_ S n a) ∧ bt (h0_ S n a) n.toNat = true := by
  have h35 := hN.1
  have hbn := HBt.bit h35.2 (n := n) (Or.inr hn)
  have hbb : bt (bitC n) n.toNat = true := by
    rw [(bitC_ok (n := n) (Or.inr ⟨hn.1, by omega⟩)).2]
    exact decide_eq_true (by omega)
  have hpar : HBt S (bitC (S 32 n.toNat)) := HBt.bit h35.2 (by
    have h := hN.2.2 n.toNat (by omega)
    by_cases c : n.toNat = 0
    · exact Or.inl (h.2.2.2.2.2.1 c).1
    · have := h.2.2.2.2.2.2.1 (by omega)
      right; omega)
  unfold h0_
  by_cases c2 : S 12 a.toNat = 2
  · rw [if_pos c2]
    have := hbn.or_ (HBt.all S)
    exact ⟨this.1, by rw [this.2, hbb]; rfl⟩
  rw [if_neg c2]
  by_cases c1 : S 12 a.toNat = 1
  · rw [if_pos c1]
    have := hbn.or_ hpar
    exact ⟨this.1, by rw [this.2, hbb]; rfl⟩
  · rw [if_neg c1]; exact ⟨hbn, hbb⟩
/-- what a finding hangs on -/
def hgs (S : Mm) (L : Nat → Option (Int × Int)) (n a : Int) (t : List Nat) (v : Int) : Int := if v = -2 then jor (ob L (h0_ S n a) t) ALL else ob L (h0_ S n a) t
theorem hgs_hb {S : Mm} (hN : Okn S) {L : Nat → Option (Int × Int)} (hL : ∀ s, HBt S ((L s).elim 0 (·.2))) {n a : Int} (hn : 0 ≤ n ∧ n < S 0 35) (t : List Nat) (v : Int) : HBt S (hgs S L n a t v) ∧ bt (hgs S L n a t v) n.toNat = true ∧ ∀ i, bt (ob L (h0_ S n a) t) i = true → bt (hgs S L n a t v) i = true := by
  have h0 := h0_hb (a := a) hN hn
  have h1 := ob_hb hL t _ h0.1
  unfold hgs
  split
  · have := h1.1.or_ (HBt.all S)
    exact ⟨this.1, by rw [this.2, h1.2 _ h0.2]; rfl, fun i hi => by rw [this.2, hi]; rfl⟩
  · exact ⟨h1.1, h1.2 _ h0.2, fun _ h => h⟩
theorem bt_ne {h : Int} {i : Nat} (hb : bt h i = true) : h ≠ 0 := fun e => by rw [e, bt0] at hb; cases hb
/-! coarse steps -/
def Cfg : Type := List Int × (Nat → Int) × (Nat → Int) × List Int × Nat
def crs (S : Mm) (rg : Nat → Int) (c : Cfg) : Cfg :=
  match c with
  | ([], bv, bh, lf, k) => ([], bv, bh, lf, k)
  | (s :: rest, bv, bh, lf, k) =>
    match (spc S (Lk S rg bv bh (s :: rest)) (s / 6) (s % 6)).2 with
    | none => ((((spc S (Lk S rg bv bh (s :: rest)) (s / 6) (s % 6)).1.getLastD 0 : Nat) : Int) :: s :: rest, bv, bh, lf, k)
    | some v => (rest, se bv s.toNat v, se bh s.toNat (hgs S (Lk S rg bv bh (s :: rest)) (s / 6) (s % 6) (spc S (Lk S rg bv bh (s :: rest)) (s / 6) (s % 6)).1 v), if rest = [] then dd (spc S (Lk S rg bv bh (s :: rest)) (s / 6) (s % 6)).1 else lf, k + 1)
def itc (S : Mm) (rg : Nat → Int) : Nat → Cfg → Cfg
  | 0, c => c
  | n + 1, c => itc S rg n (crs S rg c)
def OpV (S : Mm) (op : List Int) : Prop := op.Nodup ∧ ∀ s ∈ op, 0 ≤ s ∧ s / 6 < S 0 35 ∧ s % 6 < S 0 12
