/-! the class's loop over the open frames -/
def Lk (S : Mm) (rg bv bh : Nat → Int) (op : List Int) (s : Nat) : Option (Int × Int) :=
  if 180 ≤ s then none else if S 12 (s % 6) = 3 then some (rg s, ALL) else if bh s ≠ 0 then some (bv s, bh s) else if (s : Int) ∈ op then some (-2, 0) else none
def RBs (S C : Mm) (bk : Nat) (rg bv bh : Nat → Int) (op : List Int) (M : Mm) : Prop :=
  SC M S ∧ (∀ j, 33 ≤ j → j ≤ 272 → M j = C j) ∧ M 310 12 = bk ∧ M 310 9 = (op.length : Int) ∧ M 309 = rg ∧ M (bk + 1) = bv ∧ M (bk + 2) = bh ∧ ∀ s : Nat, s < 180 → M 313 s = if (s : Int) ∈ op then 1 else 0
theorem Lm_Lk {S C M : Mm} {bk : Nat} {rg bv bh : Nat → Int} {op : List Int} (h : RBs S C bk rg bv bh op M) {s : Nat} (hs : s < 180) : Lm S M bk s = Lk S rg bv bh op s := by
  obtain ⟨_, _, _, _, h5, h6, h7, h8⟩ := h
  unfold Lm Lk
  rw [if_neg (show ¬ 180 ≤ s by omega), h5, h6, h7, h8 s hs]
  by_cases c : (s : Int) ∈ op
  · rw [if_pos c, if_pos c, if_pos (show (1 : Int) ≠ 0 by decide)]
  · rw [if_neg c, if_neg c, if_neg (show ¬ (0 : Int) ≠ 0 by decide)]
/-- values within bounds -/
def BdO (S : Mm) (rg bv bh : Nat → Int) : Prop := (∀ s, s < 180 → -3 ≤ rg s ∧ rg s < 1000) ∧ ∀ s, s < 180 → bh s ≠ 0 → -3 ≤ bv s ∧ bv s < 1000 + S 0 35
theorem Lk_bd {S : Mm} {rg bv bh : Nat → Int} {op : List Int} (h35 : 0 ≤ S 0 35) (h : BdO S rg bv bh) : ∀ s v b, Lk S rg bv bh op s = some (v, b) → -3 ≤ v ∧ v < 1000 + S 0 35 := by
  intro s v b hs
  unfold Lk at hs
  by_cases c0 : 180 ≤ s
  · rw [if_pos c0] at hs; cases hs
  rw [if_neg c0] at hs
  by_cases c1 : S 12 (s % 6) = 3
  · rw [if_pos c1] at hs
    have e : rg s = v := congrArg Prod.fst (Option.some.inj hs)
    have := h.1 s (by omega)
    omega
  rw [if_neg c1] at hs
  by_cases c2 : bh s ≠ 0
  · rw [if_pos c2] at hs
    have e : bv s = v := congrArg Prod.fst (Option.some.inj hs)
    have := h.2 s (by omega) c2
    omega
  rw [if_neg c2] at hs
  by_cases c3 : (s : Int) ∈ op
  · rw [if_pos c3] at hs
    have e : (-2 : Int) = v := congrArg Prod.fst (Option.some.inj hs)
    omega
  · rw [if_neg c3] at hs; cases hs
def dd (t : List Nat) : List Int := t.foldl (fun l (s : Nat) => enl l s) []
theorem dd_snoc (t : List Nat) (s : Nat) : dd (t ++ [s]) = enl (dd t) s := by unfold dd; rw [List.foldl_append]; rfl
theorem enl_enl (l : List Int) (s : Int) : enl (enl l s) s = enl l s := by
  have h : s ∈ enl l s := by
    unfold enl; split
    · assumption
    · simp
  have e : enl (enl l s) s = if s ∈ enl l s then enl l s else enl l s ++ [s] := rfl
  rw [e, if_pos h]
/-- the list goes with the trace of the lowest frame -/
def LiT (S : Mm) (q : (Nat → Int) × (Nat → Int)) (t : List Nat) (l : List Int) : Prop := l = dd t ∨ (VF S q ∧ lkQ S q ≠ -1 ∧ l = dd (t ++ [(lkQ S q).toNat]))
def lsN (d : Nat) (l : List Int) (t : List Nat) : List Int := if d = 1 then t.foldl (fun l (s : Nat) => enl l s) l else l
-- one move of the loop, where the frame takes a step
theorem mv_step {S C : Mm} (hg : Okg S) (hO : Oke S) (hN : Okn S) {bk : Nat} (hb : isF bk) {rg bv bh : Nat → Int} {s : Int} {rest : List Int} (hlen : rest.length < 181) (hbd : BdO S rg bv bh) {M : Mm} (hR : RBs S C bk rg bv bh (s :: rest) M) {l : List Int} (hl : M 310 11 ≠ 0 → Lst M l) (hsl : Sl l) {q1 : (Nat → Int) × (Nat → Int)} {t1 : List Nat} (hst : Stq S C (Lk S rg bv bh (s :: rest)) (M (314 + 2 * rest.length), M (314 + 2 * rest.length + 1)) q1 t1) {J1 J2 : Mm → Rs} {rc : Int × Mm → Rs} {v : Int} (hv : 0 ≤ v ∧ v < 10000000) :
    ∃ M', f_X2_find_L48_41 J1 J2 rc (v, M) = rc (v + 1, M') ∧ RBs S C bk rg bv bh (s :: rest) M' ∧ (M' (314 + 2 * rest.length), M' (314 + 2 * rest.length + 1)) = q1 ∧ (∀ j, j ≠ 314 + 2 * rest.length → j ≠ 314 + 2 * rest.length + 1 → j ≠ 310 → j ≠ 311 → M' j = M j) ∧ (∀ i, i ≠ 0 → i ≠ 10 → M' 310 i = M 310 i) ∧ (M' 310 11 ≠ 0 → Lst M' (lsN (rest.length + 1) l t1)) ∧ Sl (lsN (rest.length + 1) l t1) := by
  obtain ⟨r1, r2, r3, r4, r5, r6, r7, r8⟩ := id hR
  have hr : isR (314 + 2 * rest.length) := by constructor <;> omega
  obtain ⟨hVF, hVG, hcase⟩ := hst
  have hd9 : M 310 9 = ((rest.length + 1 : Nat) : Int) := by rw [r4, List.length_cons]
  have hLs : LsO M l := fun h11 _ => ⟨hl h11, hsl⟩
  obtain ⟨g1, g2⟩ := c_goOn (C := C) (bk := bk) (l := l) r1 hg hO hN hb r3 hr hLs (fun j j1 j2 => r2 j j1 j2) hVF hVG
  have hbody : ∀ (w : Int) (N : Mm), f_X2_goOn (314 + 2 * rest.length) M = some (w, N) → w = 1 → f_X2_find_L48_41 J1 J2 rc (v, M) = rc (v + 1, N) := by
    intro w N hgo hw
    simp only [f_X2_find_L48_41, LtE]
    rw [if_neg (by omega), hd9, if_neg (by omega), c_topFrame hlen hd9, ClS, if_pos (by omega), gdE ⟨by omega, by rw [Int.toNat_natCast]; exact hr⟩, Int.toNat_natCast, show M (314 + 2 * rest.length) 9 = 0 from hVF.1, if_pos rfl, hgo, ClS, hw, if_pos (by decide), wrE (by omega) (by omega)]
  have fin : ∀ (N1 : Mm) (q1 : (Nat → Int) × (Nat → Int)), (∀ j, j ≠ 314 + 2 * rest.length → j ≠ 310 → j ≠ 311 → N1 j = M j) → (∀ i, i ≠ 0 → i ≠ 10 → N1 310 i = M 310 i) → RBs S C bk rg bv bh (s :: rest) (lay2 N1 (314 + 2 * rest.length) q1) ∧ (lay2 N1 (314 + 2 * rest.length) q1 (314 + 2 * rest.length), lay2 N1 (314 + 2 * rest.length) q1 (314 + 2 * rest.length + 1)) = q1 ∧ (∀ j, j ≠ 314 + 2 * rest.length → j ≠ 314 + 2 * rest.length + 1 → j ≠ 310 → j ≠ 311 → lay2 N1 (314 + 2 * rest.length) q1 j = M j) ∧ (∀ i, i ≠ 0 → i ≠ 10 → lay2 N1 (314 + 2 * rest.length) q1 310 i = M 310 i) := by
    intro N1 q1 h1 h2
    obtain ⟨z1, z2, z3⟩ := lay2_at N1 (314 + 2 * rest.length) q1
    have e : ∀ j, j ≠ 314 + 2 * rest.length → j ≠ 314 + 2 * rest.length + 1 → j ≠ 310 → j ≠ 311 → lay2 N1 (314 + 2 * rest.length) q1 j = M j := fun j j1 j2 j3 j4 => by rw [z3 j j1 j2]; exact h1 j j1 j3 j4
    have e310 : ∀ i, i ≠ 0 → i ≠ 10 → lay2 N1 (314 + 2 * rest.length) q1 310 i = M 310 i := fun i i1 i2 => by rw [z3 310 (by omega) (by omega)]; exact h2 i i1 i2
    have hb3 : bk = 299 ∨ bk = 304 := hb
    refine ⟨⟨r1.of hO fun j hj => e j (by omega) (by omega) (by omega) (by omega), fun j j1 j2 => by rw [e j (by omega) (by omega) (by omega) (by omega)]; exact r2 j j1 j2, by rw [e310 12 (by decide) (by decide)]; exact r3, by rw [e310 9 (by decide) (by decide)]; exact r4, by rw [e 309 (by omega) (by omega) (by omega) (by omega)]; exact r5, by rw [e (bk + 1) (by omega) (by omega) (by omega) (by omega)]; exact r6, by rw [e (bk + 2) (by omega) (by omega) (by omega) (by omega)]; exact r7, by rw [e 313 (by omega) (by omega) (by omega) (by omega)]; exact r8⟩, by rw [z1, z2], e, e310⟩
  rcases hcase with ⟨c1, c2, c3⟩ | ⟨c1, v', b, c2, c3, c4⟩
  · have hgo := g1 c1
    obtain ⟨f1, f2, f3, f4⟩ := fin M q1 (fun _ _ _ _ => rfl) (fun _ _ _ => rfl)
    rw [← c3] at hgo
    refine ⟨_, hbody _ _ hgo rfl, f1, f2, f3, f4, fun h11 => ?_, ?_⟩
    · have h11' : M 310 11 ≠ 0 := by rw [f4 11 (by decide) (by decide)] at h11; exact h11
      have := hl h11'
      rw [c2]
      obtain ⟨z1, z2, z3⟩ := lay2_at M (314 + 2 * rest.length) q1
      unfold lsN Lst
      simp only [List.foldl_nil, ite_self]
      rw [z3 310 (by omega) (by omega), z3 311 (by omega) (by omega)]
      exact this
    · rw [c2]; unfold lsN; simp only [List.foldl_nil, ite_self]; exact hsl
  · obtain ⟨⟨b1, b2, b3⟩, N1, ⟨y1, y2, y3, y4, y5, y6⟩, n1, n2⟩ := g2 c1
    have h12 := hg.2.1
    have h35 := hN.1
    have hlt : (lkQ S (M (314 + 2 * rest.length), M (314 + 2 * rest.length + 1))).toNat < 180 := by omega
    have hLm := Lm_Lk hR hlt
    rw [c2] at hLm
    have hv8 : v' ≠ -8 := by have := Lk_bd h35.1 hbd _ _ _ c2; omega
    have hgo := n2 v' b hLm hv8
    obtain ⟨f1, f2, f3, f4⟩ := fin N1 q1 y2 y3
    have hN1r : N1 (314 + 2 * rest.length) = se (M (314 + 2 * rest.length)) 7 (jor (M (314 + 2 * rest.length) 7) b) := by rw [y1, hLm]; rfl
    have hN1r1 : N1 (314 + 2 * rest.length + 1) = M (314 + 2 * rest.length + 1) := y2 _ (by omega) (by omega) (by omega)
    rw [hN1r, hN1r1] at hgo
    simp only at c4
    rw [← c4] at hgo
    have hslot : 0 ≤ lkQ S (M (314 + 2 * rest.length), M (314 + 2 * rest.length + 1)) ∧ lkQ S (M (314 + 2 * rest.length), M (314 + 2 * rest.length + 1)) < 180 := by omega
    have hcast : (((lkQ S (M (314 + 2 * rest.length), M (314 + 2 * rest.length + 1))).toNat : Nat) : Int) = lkQ S (M (314 + 2 * rest.length), M (314 + 2 * rest.length + 1)) := by omega
    refine ⟨_, hbody _ _ hgo rfl, f1, f2, f3, f4, fun h11 => ?_, ?_⟩
    · have h11' : M 310 11 ≠ 0 := by rw [f4 11 (by decide) (by decide)] at h11; exact h11
      rw [c3]
      obtain ⟨z1, z2, z3⟩ := lay2_at N1 (314 + 2 * rest.length) q1
      unfold lsN
      simp only [List.foldl_cons, List.foldl_nil]
      rw [hcast]
      by_cases cd : rest.length + 1 = 1
      · rw [if_pos cd]
        have := y5 h11' (by rw [hd9, cd]; rfl)
        unfold Lst at this ⊢
        rw [z3 310 (by omega) (by omega), z3 311 (by omega) (by omega)]
        exact this
      · rw [if_neg cd]
        have hll := hl h11'
        have e0 : N1 311 = M 311 ∧ N1 310 0 = M 310 0 := y6 (fun q => cd (by have := q.2; rw [hd9] at this; omega))
        unfold Lst at hll ⊢
        rw [z3 310 (by omega) (by omega), z3 311 (by omega) (by omega), e0.1, e0.2]
        exact hll
    · rw [c3]; unfold lsN
      simp only [List.foldl_cons, List.foldl_nil]
      rw [hcast]
      split
      · exact hsl.enl_ hslot
      · exact hsl
