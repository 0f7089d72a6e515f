/-! the reference looks at an attribute -/
theorem lor_nat {x y : Int} (hx : 0 ≤ x ∧ x < 1152921504606846976) (hy : 0 ≤ y ∧ y < 1152921504606846976) : (0 ≤ lor_ x y ∧ lor_ x y < 1152921504606846976) ∧ (lor_ x y).toNat = x.toNat ||| y.toNat := by
  have hn : ∀ z : Int, 0 ≤ z → z < 1152921504606846976 → (Ll z).toBitVec.toNat = z.toNat := fun z z0 z1 => by
    have h2 := Ll_toInt (v := z) (by unfold i64; omega)
    have h3 : (Ll z).toBitVec.toInt = z := h2
    rw [BitVec.toInt_eq_toNat_cond] at h3
    split at h3 <;> omega
  have h3 : lor_ x y = (Ll x ||| Ll y).toBitVec.toInt := rfl
  have h4 : (Ll x ||| Ll y).toBitVec.toNat = x.toNat ||| y.toNat := by
    rw [Int64.toBitVec_or, BitVec.toNat_or, hn x hx.1 hx.2, hn y hy.1 hy.2]
  have h5 : x.toNat ||| y.toNat < 2 ^ 60 := Nat.or_lt_two_pow (by omega) (by omega)
  rw [h3, BitVec.toInt_eq_toNat_cond, h4]
  split <;> omega
theorem lor_bt {x y : Int} (hx : 0 ≤ x ∧ x < 1152921504606846976) (hy : 0 ≤ y ∧ y < 1152921504606846976) (i : Nat) : bt (lor_ x y) i = (bt x i || bt y i) := by
  unfold bt
  rw [(lor_nat hx hy).2, Nat.testBit_or]
theorem lshl_60 : ∀ n : Fin 60, (0 ≤ lshl_ 1 (n.val : Int) ∧ lshl_ 1 (n.val : Int) < 1152921504606846976) ∧ (lshl_ 1 (n.val : Int)).toNat = 2 ^ n.val := by decide +kernel
theorem HR.or_ {S : Mm} {h1 L1 b1 h2 L2 b2 : Int} (k1 : HBt S h1) (k2 : HBt S h2) (H1 : HR S h1 L1 b1) (H2 : HR S h2 L2 b2) : HR S (jor h1 h2) (lor_ L1 L2) (if b1 ≠ 0 then 1 else if b2 = 0 then 0 else 1) := by
  obtain ⟨a1, a2, a3⟩ := H1
  obtain ⟨c1, c2, c3⟩ := H2
  have hj := jor_bt k1.1 k2.1
  refine ⟨(lor_nat a1 c1).1, ?_, fun q => ?_⟩
  · rw [hj, a2, c2]
    cases bt h1 30 <;> cases bt h2 30 <;> simp
  · rw [lor_bt a1 c1, Bool.or_eq_true, a3, c3]
    constructor
    · rintro (⟨n, n1, n2, n3⟩ | ⟨n, n1, n2, n3⟩)
      · exact ⟨n, n1, n2, by rw [hj, n3]; rfl⟩
      · exact ⟨n, n1, n2, by rw [hj, n3, Bool.or_true]⟩
    · rintro ⟨n, n1, n2, n3⟩
      rw [hj, Bool.or_eq_true] at n3
      rcases n3 with n3 | n3
      · exact Or.inl ⟨n, n1, n2, n3⟩
      · exact Or.inr ⟨n, n1, n2, n3⟩
theorem HR.all_ {S : Mm} (hN : S 0 35 ≤ 30) {h L b : Int} (k : HBt S h) (H : HR S h L b) : HR S (jor h ALL) L 1 := by
  obtain ⟨a1, a2, a3⟩ := H
  have hj := jor_bt k.1 ALL_bt.1
  refine ⟨a1, ?_, fun q => ?_⟩
  · rw [hj, ALL_bt.2]; simp
  · rw [a3]
    constructor
    · rintro ⟨n, n1, n2, n3⟩; exact ⟨n, n1, n2, by rw [hj, n3]; rfl⟩
    · rintro ⟨n, n1, n2, n3⟩
      refine ⟨n, n1, n2, ?_⟩
      rw [hj, ALL_bt.2, decide_eq_false (by omega), Bool.or_false] at n3
      exact n3
def PlO (S : Mm) : Prop := ∀ n : Nat, (n : Int) < S 0 35 → (0 ≤ S 36 n ∧ S 36 n < 60) ∧ ∀ m : Nat, (m : Int) < S 0 35 → S 36 m = S 36 n → m = n
def OrR (S M : Mm) (B : Int) (rg bv bh : Nat → Int) (op : List Int) : Prop := ∀ n a : Int, 0 ≤ n → n < S 0 35 → 0 ≤ a → a < S 0 12 →
  (S 12 a.toNat = 3 → M 55 (6 * S 36 n.toNat + a).toNat = rg (6 * n + a).toNat) ∧
  M 51 (B + 6 * S 36 n.toNat + a).toNat = (if 6 * n + a ∈ op then 1 else 0) ∧
  (S 12 a.toNat ≠ 3 → (bh (6 * n + a).toNat = 0 → M 50 (B + 6 * S 36 n.toNat + a).toNat = 0) ∧ (bh (6 * n + a).toNat ≠ 0 → M 50 (B + 6 * S 36 n.toNat + a).toNat = 1 ∧ M 52 (B + 6 * S 36 n.toNat + a).toNat = pv S (bv (6 * n + a).toNat) ∧ HR S (bh (6 * n + a).toNat) (M 53 (B + 6 * S 36 n.toNat + a).toNat) (M 54 (B + 6 * S 36 n.toNat + a).toNat)))
def enc (s : Int) : Int := 10 * (s / 6) + s % 6
def LsR (M : Mm) (l : List Int) : Prop := M 0 80 = (l.length : Int) ∧ ∀ i, i < l.length → M 61 i = enc (l.getD i 0)
theorem r_records {M : Mm} {l : List Int} (hl : LsR M l) (hS : Sl l) {n a : Int} (hn : 0 ≤ n ∧ n < 30) (ha : 0 ≤ a ∧ a < 6) : ∃ M', f_X12_records (10 * n + a) M = some (0, M') ∧ LsR M' (enl l (6 * n + a)) ∧ (∀ j, j ≠ 0 → j ≠ 61 → M' j = M j) ∧ ∀ i, i ≠ 80 → M' 0 i = M 0 i := by
  have hlen := hS.len
  have henc : ∀ i, i < l.length → (enc (l.getD i 0) = 10 * n + a ↔ l.getD i 0 = 6 * n + a) := fun i hi => by
    have := hS.2 (l.getD i 0) (by rw [List.getD_eq_getElem?_getD, List.getElem?_eq_getElem hi]; exact List.getElem_mem _)
    unfold enc; omega
  have hany : ∀ J : Int → Mm → Rs, Lp (f_X12_records_L4_29 (10 * n + a) J) FU (0, 0, M) = J (if 6 * n + a ∈ l then 1 else 0) M := by
    intro J
    have hS' : ∀ i, i ≤ l.length → (6 * n + a ∈ l.take i ∨ ¬ 6 * n + a ∈ l.take i) := fun i _ => Classical.em _
    have e : (if 6 * n + a ∈ l then (1 : Int) else 0) = if 6 * n + a ∈ l.take l.length then 1 else 0 := by rw [List.take_length]
    rw [e]
    refine Lp_for l.length (fun i => ((if 6 * n + a ∈ l.take i then (1 : Int) else 0), (i : Int), M)) (fun rc i hi => ?_) (fun rc => ?_) (FU_lt (by omega)) (by simp)
    · simp only [f_X12_records_L4_29, LtE]
      rw [hl.1, if_neg (by omega), wrE (by omega) (by omega), show (i : Int) + 1 = ((i + 1 : Nat) : Int) by omega]
      have ht : 6 * n + a ∈ l.take (i + 1) ↔ 6 * n + a ∈ l.take i ∨ l.getD i 0 = 6 * n + a := by
        rw [List.take_add_one, List.mem_append, List.getElem?_eq_getElem hi, List.getD_eq_getElem?_getD, List.getElem?_eq_getElem hi]
        simp only [Option.toList_some, List.mem_singleton, Option.getD_some]
        constructor
        · rintro (h | h)
          · exact Or.inl h
          · exact Or.inr h.symm
        · rintro (h | h)
          · exact Or.inl h
          · exact Or.inr h.symm
      by_cases c : 6 * n + a ∈ l.take i
      · rw [if_pos c, if_pos (by decide), if_pos (ht.mpr (Or.inl c))]
      · rw [if_neg c, if_neg (by decide), gdE (by omega), Int.toNat_natCast, hl.2 i hi]
        by_cases c2 : l.getD i 0 = 6 * n + a
        · rw [if_neg (fun q => q ((henc i hi).mpr c2)), if_pos (ht.mpr (Or.inr c2))]
        · rw [if_pos (fun q => c2 ((henc i hi).mp q)), if_neg (fun q => (ht.mp q).elim c c2)]
    · simp only [f_X12_records_L4_29, LtE]
      rw [hl.1, if_pos (by omega)]
  unfold f_X12_records
  simp only [LtE]
  rw [hany]
  by_cases c : 6 * n + a ∈ l
  · rw [if_pos c, if_pos (by decide)]
    exact ⟨M, rfl, by unfold enl; rw [if_pos c]; exact hl, fun _ _ _ => rfl, fun _ _ => rfl⟩
  · have hlt := hS.lt (s := 6 * n + a) (by omega) c
    rw [if_neg c, if_neg (by decide), hl.1, gdE (by omega), Int.toNat_natCast]
    have e0 : up M 61 l.length (10 * n + a) 0 80 = (l.length : Int) := by rw [up_ne _ _ _ (by decide)]; exact hl.1
    rw [e0, wrE (by omega) (by omega)]
    refine ⟨_, rfl, ?_, fun j j0 j61 => by rw [up_ne _ _ _ j0, up_ne _ _ _ j61], fun i hi => by simp [up, hi]⟩
    unfold enl LsR
    rw [if_neg c]
    refine ⟨by rw [up_at, List.length_append, List.length_singleton]; omega, fun i hi => ?_⟩
    rw [List.length_append, List.length_singleton] at hi
    rw [up_ne _ _ _ (by decide)]
    by_cases e : i = l.length
    · subst e
      rw [up_at, List.getD_eq_getElem?_getD, List.getElem?_append_right (Nat.le_refl _), Nat.sub_self]
      simp only [List.getElem?_cons_zero, Option.getD_some]
      unfold enc; omega
    · have : up M 61 l.length (10 * n + a) 61 i = M 61 i := by unfold up; rw [if_neg (by omega)]
      rw [this, hl.2 i (by omega), List.getD_eq_getElem?_getD, List.getD_eq_getElem?_getD, List.getElem?_append_left (by omega)]
/-- what a look of the reference leaves as it was -/
def FrL (M M' : Mm) : Prop := (∀ j, j ≠ 0 → j ≠ 61 → M' j = M j) ∧ ∀ i, i ≠ 72 → i ≠ 73 → i ≠ 74 → i ≠ 75 → i ≠ 80 → M' 0 i = M 0 i
theorem FrL.refl (M : Mm) : FrL M M := ⟨fun _ _ _ => rfl, fun _ _ _ _ _ _ => rfl⟩
theorem FrL.trans {A B D : Mm} (h : FrL A B) (h' : FrL B D) : FrL A D := ⟨fun j a b => (h'.1 j a b).trans (h.1 j a b), fun i a b c d e => (h'.2 i a b c d e).trans (h.2 i a b c d e)⟩
theorem FrL.ag {M M' S : Mm} (h : FrL M M') (hA : Ag M S) : Ag M' S := ⟨fun j j1 j2 j3 => (h.1 j (by omega) (by omega)).trans (hA.1 j j1 j2 j3), fun i hi => (h.2 i (by omega) (by omega) (by omega) (by omega) (by omega)).trans (hA.2 i hi)⟩
theorem OrR.frl {S M M' : Mm} {B : Int} {rg bv bh : Nat → Int} {op : List Int} (h : OrR S M B rg bv bh op) (e : ∀ j, (50 ≤ j ∧ j ≤ 55) → M' j = M j) : OrR S M' B rg bv bh op := by
  unfold OrR at h ⊢
  rw [e 50 (by omega), e 51 (by omega), e 52 (by omega), e 53 (by omega), e 54 (by omega), e 55 (by omega)]
  exact h
/-- is recorded now -/
def Rec (M : Mm) : Prop := M 0 79 ≠ 0 ∧ M 0 69 = 1
/-- the reference's memory while an attribute is tried: so far nothing is needed -/
def TrR (S M : Mm) (B : Int) (rg bv bh : Nat → Int) (op : List Int) (hc : Int) (l : List Int) : Prop :=
  Ag M S ∧ M 0 36 = S 0 36 ∧ M 36 = S 36 ∧ M 0 68 = B ∧ M 0 72 = -1 ∧ OrR S M B rg bv bh op ∧ HBt S hc ∧ HR S hc (M 0 74) (M 0 75) ∧ Sl l ∧ (Rec M → LsR M l)
theorem pv_lo {S : Mm} {v : Int} (h : v < 1000) : pv S v = v := by unfold pv; rw [if_pos h]
def rkT (a1 a2 : Int) (M4 : Mm) : Rs :=
  gd (0 ≤ a2 ∧ a2 < 6) <|
  if ¬ M4 12 a2.toNat = 3 then (
  Cl (f_X12_at a1 a2 M4) fun v9 M8 =>
  gd (0 ≤ v9 ∧ v9 < 720) <|
  if M8 50 v9.toNat = 0 then (
  gd (0 ≤ v9 ∧ v9 < 720) <|
  if M8 51 v9.toNat = 0 then some ((-1), up (up M8 0 72 a1) 0 73 a2) else some ((-2), M8)) else (
  gd (0 ≤ v9 ∧ v9 < 720) <|
  if ¬ up M8 0 74 (lor_ (M8 0 74) (M8 53 v9.toNat)) 0 75 = 0 then (gd (0 ≤ v9 ∧ v9 < 720) (some (up (up M8 0 74 (lor_ (M8 0 74) (M8 53 v9.toNat))) 0 75 1 52 v9.toNat, up (up M8 0 74 (lor_ (M8 0 74) (M8 53 v9.toNat))) 0 75 1))) else (
  gd (0 ≤ v9 ∧ v9 < 720) <|
  if up M8 0 74 (lor_ (M8 0 74) (M8 53 v9.toNat)) 54 v9.toNat = 0 then (gd (0 ≤ v9 ∧ v9 < 720) (some (up (up M8 0 74 (lor_ (M8 0 74) (M8 53 v9.toNat))) 0 75 0 52 v9.toNat, up (up M8 0 74 (lor_ (M8 0 74) (M8 53 v9.toNat))) 0 75 0))) else (gd (0 ≤ v9 ∧ v9 < 720) (some (up (up M8 0 74 (lor_ (M8 0 74) (M8 53 v9.toNat))) 0 75 1 52 v9.toNat, up (up M8 0 74 (lor_ (M8 0 74) (M8 53 v9.toNat))) 0 75 1)))))) else (
  gd (0 ≤ a1 ∧ a1 < 30) <|
  gd (0 ≤ wr (wr (6 * up M4 0 75 1 36 a1.toNat) + a2) ∧ wr (wr (6 * up M4 0 75 1 36 a1.toNat) + a2) < 360) <|
  some (up M4 0 75 1 55 (wr (wr (6 * up M4 0 75 1 36 a1.toNat) + a2)).toNat, up M4 0 75 1))
theorem Lk_in {S : Mm} {rg bv bh : Nat → Int} {op : List Int} {s : Nat} (h : s < 180) : Lk S rg bv bh op s = if S 12 (s % 6) = 3 then some (rg s, ALL) else if bh s ≠ 0 then some (bv s, bh s) else if (s : Int) ∈ op then some (-2, 0) else none := by
  unfold Lk; rw [if_neg (by omega)]
theorem r_at {S M : Mm} (hP : PlO S) {B : Int} (hB : B = 0 ∨ B = 360) (e36 : M 36 = S 36) (e68 : M 0 68 = B) (h35 : S 0 35 ≤ 30) {n a : Int} (hn : 0 ≤ n ∧ n < S 0 35) (ha : 0 ≤ a ∧ a < 6) : f_X12_at n a M = some (B + 6 * S 36 n.toNat + a, M) ∧ 0 ≤ B + 6 * S 36 n.toNat + a ∧ B + 6 * S 36 n.toNat + a < 720 := by
  have hp := (hP n.toNat (by omega)).1
  unfold f_X12_at
  simp only [LtE]
  rw [e68, e36, gdE (by omega), wrE (v := 6 * _) (by omega) (by omega), wrE (v := B + _) (by omega) (by omega), wrE (by omega) (by omega)]
  exact ⟨rfl, by omega, by omega⟩
theorem r_lookTail {S M : Mm} (hg : Okg S) (hN : Okn S) (hP : PlO S) {B : Int} (hB : B = 0 ∨ B = 360) {rg bv bh : Nat → Int} {op : List Int} {hc : Int} (hbd : BdO S rg bv bh) (hbh : BdH S bh) (hA : Ag M S) (e36 : M 36 = S 36) (e68 : M 0 68 = B) (e72 : M 0 72 = -1) (hO : OrR S M B rg bv bh op) (hc1 : HBt S hc) (hH : HR S hc (M 0 74) (M 0 75)) {n a : Int} (hn : 0 ≤ n ∧ n < S 0 35) (ha : 0 ≤ a ∧ a < S 0 12) : ∃ w M', rkT n a M = some (w, M') ∧ (∀ j, j ≠ 0 → M' j = M j) ∧ (∀ i, i ≠ 72 → i ≠ 73 → i ≠ 74 → i ≠ 75 → M' 0 i = M 0 i) ∧
    (∀ v b, Lk S rg bv bh op (6 * n + a).toNat = some (v, b) → w = pv S v ∧ M' 0 72 = -1 ∧ HBt S (jor hc b) ∧ HR S (jor hc b) (M' 0 74) (M' 0 75)) ∧
    (Lk S rg bv bh op (6 * n + a).toNat = none → M' 0 72 = n ∧ M' 0 73 = a) := by
  have h35 := hN.1
  have h12 := hg.2.1
  have hp := (hP n.toNat (by omega)).1
  obtain ⟨o1, o2, o3⟩ := hO n a hn.1 hn.2 ha.1 ha.2
  obtain ⟨t1, t2, t3⟩ := r_at (a := a) hP hB e36 e68 h35.2 hn (by omega)
  have hs180 : (6 * n + a).toNat < 180 := by omega
  have hmod : (6 * n + a).toNat % 6 = a.toNat := by omega
  have hcast : (((6 * n + a).toNat : Nat) : Int) = 6 * n + a := by omega
  unfold rkT
  rw [gdE (by omega), hA.1 12 (by decide) (by decide) (by decide)]
  rw [Lk_in hs180, hmod]
  by_cases k3 : S 12 a.toNat = 3
  · have ew : wr (wr (6 * up M 0 75 1 36 n.toNat) + a) = 6 * S 36 n.toNat + a := by
      rw [up_ne _ _ _ (by decide), e36, wrE (v := 6 * _) (by omega) (by omega), wrE (by omega) (by omega)]
    rw [if_neg (c := ¬ S 12 a.toNat = 3) (fun q => q k3), gdE (by omega), ew, gdE (by omega), up_ne _ _ _ (by decide), o1 k3]
    refine ⟨_, _, rfl, fun j hj => up_ne _ _ _ hj, fun i i1 i2 i3 i4 => by simp [up, i4], fun v b h => ?_, fun h => ?_⟩
    · rw [if_pos k3] at h
      have e1 : rg (6 * n + a).toNat = v := congrArg Prod.fst (Option.some.inj h)
      have e2 : ALL = b := congrArg Prod.snd (Option.some.inj h)
      subst e1 e2
      have hb1 := hbd.1 _ hs180
      refine ⟨(pv_lo hb1.2).symm, by simp [up, e72], (hc1.or_ (HBt.all S)).1, ?_⟩
      have := HR.all_ h35.2 hc1 hH
      rw [show up M 0 75 1 0 74 = M 0 74 by simp [up], up_at]
      exact this
    · rw [if_pos k3] at h; cases h
  rw [if_pos (c := ¬ S 12 a.toNat = 3) k3, t1, ClS, gdE ⟨t2, t3⟩]
  obtain ⟨q1, q2⟩ := o3 k3
  by_cases hb0 : bh (6 * n + a).toNat = 0
  · rw [q1 hb0, if_pos rfl, gdE ⟨t2, t3⟩, o2]
    by_cases c : 6 * n + a ∈ op
    · rw [if_pos c, if_neg (by decide)]
      refine ⟨_, _, rfl, fun _ _ => rfl, fun _ _ _ _ _ => rfl, fun v b h => ?_, fun h => ?_⟩
      · rw [if_neg k3, if_neg (fun q => q hb0), if_pos (by rw [hcast]; exact c)] at h
        have e1 : (-2 : Int) = v := congrArg Prod.fst (Option.some.inj h)
        have e2 : (0 : Int) = b := congrArg Prod.snd (Option.some.inj h)
        subst e1 e2
        have e0 : jor hc 0 = hc := jor_zero (by have := hc1.1; unfold i32; omega)
        rw [e0]
        exact ⟨(pv_lo (by decide)).symm, e72, hc1, hH⟩
      · rw [if_neg k3, if_neg (fun q => q hb0), if_pos (by rw [hcast]; exact c)] at h; cases h
    · rw [if_neg c, if_pos rfl]
      refine ⟨_, _, rfl, fun j hj => by rw [up_ne _ _ _ hj, up_ne _ _ _ hj], fun i i1 i2 i3 i4 => by simp [up, i1, i2], fun v b h => ?_, fun _ => ⟨by simp [up], up_at _ _ _ _⟩⟩
      rw [if_neg k3, if_neg (fun q => q hb0), if_neg (by rw [hcast]; exact c)] at h; cases h
  · obtain ⟨p1, p2, p3⟩ := q2 hb0
    rw [p1, if_neg (by decide)]
    simp only [gdE (show 0 ≤ B + 6 * S 36 n.toNat + a ∧ B + 6 * S 36 n.toNat + a < 720 from ⟨t2, t3⟩)]
    have e75 : up M 0 74 (lor_ (M 0 74) (M 53 (B + 6 * S 36 n.toNat + a).toNat)) 0 75 = M 0 75 := by simp [up]
    have e54 : up M 0 74 (lor_ (M 0 74) (M 53 (B + 6 * S 36 n.toNat + a).toNat)) 54 = M 54 := up_ne _ _ _ (by decide)
    have e52 : ∀ x : Int, up (up M 0 74 (lor_ (M 0 74) (M 53 (B + 6 * S 36 n.toNat + a).toNat))) 0 75 x 52 = M 52 := fun x => by rw [up_ne _ _ _ (by decide), up_ne _ _ _ (by decide)]
    rw [e75, e54, e52, e52, p2]
    have hor := HR.or_ hc1 (hbh _ hs180) hH p3
    have fin : ∀ x : Int, x = (if M 0 75 ≠ 0 then 1 else if M 54 (B + 6 * S 36 n.toNat + a).toNat = 0 then 0 else 1) → ∃ w M', (some (pv S (bv (6 * n + a).toNat), up (up M 0 74 (lor_ (M 0 74) (M 53 (B + 6 * S 36 n.toNat + a).toNat))) 0 75 x) : Rs) = some (w, M') ∧ (∀ j, j ≠ 0 → M' j = M j) ∧ (∀ i, i ≠ 72 → i ≠ 73 → i ≠ 74 → i ≠ 75 → M' 0 i = M 0 i) ∧
        (∀ v b, (if S 12 a.toNat = 3 then some (rg (6 * n + a).toNat, ALL) else if bh (6 * n + a).toNat ≠ 0 then some (bv (6 * n + a).toNat, bh (6 * n + a).toNat) else if (((6 * n + a).toNat : Nat) : Int) ∈ op then some (-2, 0) else none) = some (v, b) → w = pv S v ∧ M' 0 72 = -1 ∧ HBt S (jor hc b) ∧ HR S (jor hc b) (M' 0 74) (M' 0 75)) ∧
        ((if S 12 a.toNat = 3 then some (rg (6 * n + a).toNat, ALL) else if bh (6 * n + a).toNat ≠ 0 then some (bv (6 * n + a).toNat, bh (6 * n + a).toNat) else if (((6 * n + a).toNat : Nat) : Int) ∈ op then some (-2, 0) else none) = none → M' 0 72 = n ∧ M' 0 73 = a) := by
      intro x hx
      refine ⟨_, _, rfl, fun j hj => by rw [up_ne _ _ _ hj, up_ne _ _ _ hj], fun i i1 i2 i3 i4 => by simp [up, i3, i4], fun v b h => ?_, fun h => ?_⟩
      · rw [if_neg k3, if_pos hb0] at h
        have e1 : bv (6 * n + a).toNat = v := congrArg Prod.fst (Option.some.inj h)
        have e2 : bh (6 * n + a).toNat = b := congrArg Prod.snd (Option.some.inj h)
        subst e1 e2
        refine ⟨rfl, by simp [up, e72], (hc1.or_ (hbh _ hs180)).1, ?_⟩
        rw [show up (up M 0 74 (lor_ (M 0 74) (M 53 (B + 6 * S 36 n.toNat + a).toNat))) 0 75 x 0 74 = lor_ (M 0 74) (M 53 (B + 6 * S 36 n.toNat + a).toNat) by simp [up], up_at, hx]
        exact hor
      · rw [if_neg k3, if_pos hb0] at h; cases h
    by_cases c1 : M 0 75 = 0
    · rw [if_neg (c := ¬ M 0 75 = 0) (fun q => q c1)]
      by_cases c2 : M 54 (B + 6 * S 36 n.toNat + a).toNat = 0
      · rw [if_pos c2]
        exact fin 0 (by rw [if_neg (fun q => q c1), if_pos c2])
      · rw [if_neg c2]
        exact fin 1 (by rw [if_neg (fun q => q c1), if_neg c2])
    · rw [if_pos (c := ¬ M 0 75 = 0) c1]
      exact fin 1 (by rw [if_pos c1])
theorem r_looksAt {S M : Mm} (hg : Okg S) (hN : Okn S) (hP : PlO S) {B : Int} (hB : B = 0 ∨ B = 360) {rg bv bh : Nat → Int} {op : List Int} {hc : Int} {l : List Int} (hbd : BdO S rg bv bh) (hbh : BdH S bh) (hT : TrR S M B rg bv bh op hc l) {n a : Int} (hn : 0 ≤ n ∧ n < S 0 35) (ha : 0 ≤ a ∧ a < S 0 12) : ∃ w M' l', f_X12_looksAt n a M = some (w, M') ∧ FrL M M' ∧ (l' = if M 0 79 ≠ 0 ∧ M 0 69 = 1 then enl l (6 * n + a) else l) ∧
    (∀ v b, Lk S rg bv bh op (6 * n + a).toNat = some (v, b) → w = pv S v ∧ TrR S M' B rg bv bh op (jor hc b) l') ∧
    (Lk S rg bv bh op (6 * n + a).toNat = none → M' 0 72 = n ∧ M' 0 73 = a ∧ Sl l' ∧ (Rec M → LsR M' l')) := by
  obtain ⟨hA, e036, e36, e68, e72, hO, hc1, hH, hS, hl⟩ := hT
  have h35 := hN.1
  have h12 := hg.2.1
  have hpre : ∃ M1 l', (l' = if M 0 79 ≠ 0 ∧ M 0 69 = 1 then enl l (6 * n + a) else l) ∧ f_X12_looksAt n a M = rkT n a M1 ∧ Sl l' ∧ (Rec M → LsR M1 l') ∧ (∀ j, j ≠ 0 → j ≠ 61 → M1 j = M j) ∧ (∀ i, i ≠ 80 → M1 0 i = M 0 i) := by
    have e : f_X12_looksAt n a M = if M 0 79 = 0 then rkT n a M else if ¬ M 0 69 = 1 then rkT n a M else Cl (f_X12_records (wr (wr (10 * n) + a)) M) fun _ M41 => rkT n a M41 := by
      unfold f_X12_looksAt
      rw [LtE, if_pos e72]
      rfl
    rw [e]
    by_cases c1 : M 0 79 = 0
    · rw [if_pos c1]
      exact ⟨M, l, by rw [if_neg (fun q => q.1 c1)], rfl, hS, hl, fun _ _ _ => rfl, fun _ _ => rfl⟩
    rw [if_neg c1]
    by_cases c2 : M 0 69 = 1
    · obtain ⟨M1, w1, w2, w3, w4⟩ := r_records (hl ⟨c1, c2⟩) hS (n := n) (a := a) (by omega) (by omega)
      rw [if_neg (c := ¬ M 0 69 = 1) (fun q => q c2), wrE (v := 10 * n) (by omega) (by omega), wrE (by omega) (by omega), w1, ClS]
      exact ⟨M1, _, by rw [if_pos ⟨c1, c2⟩], rfl, hS.enl_ (by omega), fun _ => w2, w3, w4⟩
    · rw [if_pos c2]
      exact ⟨M, l, by rw [if_neg (fun q => c2 q.2)], rfl, hS, hl, fun _ _ _ => rfl, fun _ _ => rfl⟩
  obtain ⟨M1, l', hl', hM1, hS', hL', f1, f2⟩ := hpre
  have hA1 : Ag M1 S := ⟨fun j j1 j2 j3 => (f1 j (by omega) (by omega)).trans (hA.1 j j1 j2 j3), fun i hi => (f2 i (by omega)).trans (hA.2 i hi)⟩
  obtain ⟨w, M', t1, t2, t3, t4, t5⟩ := r_lookTail (hc := hc) hg hN hP hB hbd hbh hA1 (by rw [f1 36 (by decide) (by decide)]; exact e36) (by rw [f2 68 (by decide)]; exact e68) (by rw [f2 72 (by decide)]; exact e72) (hO.frl fun j hj => f1 j (by omega) (by omega)) hc1 (by rw [f2 74 (by decide), f2 75 (by decide)]; exact hH) hn ha
  have hF : FrL M M' := ⟨fun j j0 j61 => (t2 j j0).trans (f1 j j0 j61), fun i i1 i2 i3 i4 i5 => (t3 i i1 i2 i3 i4).trans (f2 i i5)⟩
  have hLs : Rec M → LsR M' l' := fun hr => by
    have := hL' hr
    unfold LsR at this ⊢
    rw [t3 80 (by decide) (by decide) (by decide) (by decide), t2 61 (by decide)]
    exact this
  have hRec : Rec M' → Rec M := fun hr => by
    unfold Rec at hr ⊢
    rw [hF.2 79 (by decide) (by decide) (by decide) (by decide) (by decide), hF.2 69 (by decide) (by decide) (by decide) (by decide) (by decide)] at hr
    exact hr
  refine ⟨w, M', l', by rw [hM1]; exact t1, hF, hl', fun v b h => ?_, fun h => ⟨(t5 h).1, (t5 h).2, hS', hLs⟩⟩
  obtain ⟨u1, u2, u3, u4⟩ := t4 v b h
  exact ⟨u1, hF.ag hA, by rw [hF.2 36 (by decide) (by decide) (by decide) (by decide) (by decide)]; exact e036, by rw [hF.1 36 (by decide) (by decide)]; exact e36, by rw [hF.2 68 (by decide) (by decide) (by decide) (by decide) (by decide)]; exact e68, u2, hO.frl fun j hj => hF.1 j (by omega) (by omega), u3, u4, hS', fun hr => hLs (hRec hr)⟩
