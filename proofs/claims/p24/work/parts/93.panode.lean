/-! a node is made: the class -/
theorem c8_append {M : Mm} {k : Nat} (hk : k < 30) (h0 : M 291 0 = (k : Int)) {par pl p put : Int} (hpar : par = -1 ∨ (0 ≤ par ∧ par < k)) (hpl : 0 ≤ pl ∧ pl < 3) : ∃ M', f_X8_append 291 par pl p put M = some ((k : Int), M') ∧ M' 291 0 = (k : Int) + 1 ∧ (∀ i, i ≠ 0 → M' 291 i = M 291 i) ∧ M' 292 = se (M 292) k par ∧ M' 293 = se (M 293) k pl ∧ M' 294 = se (M 294) k p ∧ M' 295 = se (M 295) k p ∧ M' 297 = se (M 297) k put ∧ (∀ i, M' 296 i = if 3 * k ≤ i ∧ i < 3 * k + 3 then -1 else if 0 ≤ par ∧ (i : Int) = 3 * par + pl then (k : Int) else M 296 i) ∧ ∀ j, ¬ (291 ≤ j ∧ j ≤ 297) → M' j = M j := by
  generalize hM1 : up (up (up (up (up (up M 291 0 ((k : Int) + 1)) 292 k par) 293 k pl) 294 k p) 295 k p) 297 k put = M1
  generalize hM2 : (sr M1 296 fun i => if 3 * k ≤ i ∧ i < 3 * k + 3 then -1 else M1 296 i) = M2
  have m1 : ∀ j, ¬ (291 ≤ j ∧ j ≤ 297) → M1 j = M j := fun j hj => by rw [← hM1, up_ne _ _ _ (by omega), up_ne _ _ _ (by omega), up_ne _ _ _ (by omega), up_ne _ _ _ (by omega), up_ne _ _ _ (by omega), up_ne _ _ _ (by omega)]
  have m296 : M1 296 = M 296 := by rw [← hM1, up_ne _ _ _ (by decide), up_ne _ _ _ (by decide), up_ne _ _ _ (by decide), up_ne _ _ _ (by decide), up_ne _ _ _ (by decide), up_ne _ _ _ (by decide)]
  have loop : ∀ J : Mm → Rs, Lp (f_X8_append_L79_29 291 (k : Int) J) FU (0, M1) = J M2 := fun J => by
    refine Lp_for 3 (fun i => ((i : Int), sr M1 296 fun j => if 3 * k ≤ j ∧ j < 3 * k + i then -1 else M1 296 j)) (fun rc i hi => ?_) (fun rc => ?_) (FU_lt (by omega)) ?_
    · simp only [f_X8_append_L79_29, LtE]
      rw [if_neg (by omega), wrE (v := (k : Int) * 3) (by omega) (by omega), wrE (v := (k : Int) * 3 + (i : Int)) (by omega) (by omega), wrE (v := (i : Int) + 1) (by omega) (by omega), c_setEntry_in 90 alenC_296 (by omega) (by omega), ClS]
      have e : ((k : Int) * 3 + (i : Int)).toNat = 3 * k + i := by omega
      rw [e, up_sr, sr_sr, sr_at]
      refine congrArg rc (Prod.ext (by simp only; omega) (congrArg (sr M1 296) (funext fun j => ?_)))
      by_cases c : j = 3 * k + i
      · rw [if_pos c, if_pos (by omega)]
      · rw [if_neg c]
        by_cases c2 : 3 * k ≤ j ∧ j < 3 * k + i
        · rw [if_pos c2, if_pos (by omega)]
        · rw [if_neg c2, if_neg (by omega)]
    · simp only [f_X8_append_L79_29]
      rw [if_pos (by omega), ← hM2]
    · have : (fun (j : Nat) => if 3 * k ≤ j ∧ j < 3 * k + 0 then (-1 : Int) else M1 296 j) = M1 296 := funext fun j => if_neg (by omega)
      simp only [this, sr_self]
      rfl
  have m2 : ∀ j, j ≠ 296 → M2 j = M1 j := fun j hj => by rw [← hM2, sr_ne _ _ hj]
  have e291 : ∀ i, M1 291 i = if i = 0 then (k : Int) + 1 else M 291 i := fun i => by
    rw [← hM1, up_ne _ _ _ (show (291 : Nat) ≠ 297 by decide), up_ne _ _ _ (show (291 : Nat) ≠ 295 by decide), up_ne _ _ _ (show (291 : Nat) ≠ 294 by decide), up_ne _ _ _ (show (291 : Nat) ≠ 293 by decide), up_ne _ _ _ (show (291 : Nat) ≠ 292 by decide)]
    by_cases c : i = 0
    · subst c; rw [if_pos rfl, up_at]
    · rw [if_neg c]; simp [up, c]
  have e292 : M1 292 = se (M 292) k par := by
    rw [← hM1, up_ne _ _ _ (show (292 : Nat) ≠ 297 by decide), up_ne _ _ _ (show (292 : Nat) ≠ 295 by decide), up_ne _ _ _ (show (292 : Nat) ≠ 294 by decide), up_ne _ _ _ (show (292 : Nat) ≠ 293 by decide), up_se, sr_at, up_ne _ _ _ (show (292 : Nat) ≠ 291 by decide)]
  have e293 : M1 293 = se (M 293) k pl := by
    rw [← hM1, up_ne _ _ _ (show (293 : Nat) ≠ 297 by decide), up_ne _ _ _ (show (293 : Nat) ≠ 295 by decide), up_ne _ _ _ (show (293 : Nat) ≠ 294 by decide), up_se, sr_at, up_ne _ _ _ (show (293 : Nat) ≠ 292 by decide), up_ne _ _ _ (show (293 : Nat) ≠ 291 by decide)]
  have e294 : M1 294 = se (M 294) k p := by
    rw [← hM1, up_ne _ _ _ (show (294 : Nat) ≠ 297 by decide), up_ne _ _ _ (show (294 : Nat) ≠ 295 by decide), up_se, sr_at, up_ne _ _ _ (show (294 : Nat) ≠ 293 by decide), up_ne _ _ _ (show (294 : Nat) ≠ 292 by decide), up_ne _ _ _ (show (294 : Nat) ≠ 291 by decide)]
  have e295 : M1 295 = se (M 295) k p := by
    rw [← hM1, up_ne _ _ _ (show (295 : Nat) ≠ 297 by decide), up_se, sr_at, up_ne _ _ _ (show (295 : Nat) ≠ 294 by decide), up_ne _ _ _ (show (295 : Nat) ≠ 293 by decide), up_ne _ _ _ (show (295 : Nat) ≠ 292 by decide), up_ne _ _ _ (show (295 : Nat) ≠ 291 by decide)]
  have e297 : M1 297 = se (M 297) k put := by
    rw [← hM1, up_se, sr_at, up_ne _ _ _ (show (297 : Nat) ≠ 295 by decide), up_ne _ _ _ (show (297 : Nat) ≠ 294 by decide), up_ne _ _ _ (show (297 : Nat) ≠ 293 by decide), up_ne _ _ _ (show (297 : Nat) ≠ 292 by decide), up_ne _ _ _ (show (297 : Nat) ≠ 291 by decide)]
  have hrun : ∀ x, f_X8_append 291 par pl p put M = x ↔ (if par < 0 then some ((k : Int), M2) else if pl < 0 then some ((k : Int), M2) else if 3 ≤ pl then some ((k : Int), M2) else Cl (f_X11_setEntry 296 (wr (wr (par * 3) + pl)) (k : Int) M2) fun _ M20 => some ((k : Int), M20)) = x := by
    intro x
    unfold f_X8_append
    simp only [LtE]
    rw [h0, if_pos (by omega), wrE (v := (k : Int) + 1) (by omega) (by omega)]
    rw [c_setEntry_in 30 alenC_292 (by omega) (by omega), ClS, c_setEntry_in 30 alenC_293 (by omega) (by omega), ClS, c_setEntry_in 30 alenC_294 (by omega) (by omega), ClS, c_setEntry_in 30 alenC_295 (by omega) (by omega), ClS, c_setEntry_in 30 alenC_297 (by omega) (by omega), ClS, Int.toNat_natCast]
    have hM1' : up (up (up (up (up (up M 291 0 ((k : Int) + 1)) (291 + 1) k par) (291 + 2) k pl) (291 + 3) k p) (291 + 4) k p) (291 + 6) k put = M1 := hM1
    rw [hM1', loop]
  by_cases cp : par < 0
  · refine ⟨M2, ?_, ?_, fun i hi => ?_, by rw [m2 292 (by decide)]; exact e292, by rw [m2 293 (by decide)]; exact e293, by rw [m2 294 (by decide)]; exact e294, by rw [m2 295 (by decide)]; exact e295, by rw [m2 297 (by decide)]; exact e297, fun i => ?_, fun j hj => by rw [m2 j (by omega)]; exact m1 j hj⟩
    · rw [hrun, if_pos cp]
    · rw [m2 291 (by decide), e291, if_pos rfl]
    · rw [m2 291 (by decide), e291, if_neg hi]
    · rw [← hM2, sr_at, m296, if_neg (c := 0 ≤ par ∧ _) (by omega)]
  · generalize hM3 : up M2 296 (3 * par + pl).toNat (k : Int) = M3
    have m3 : ∀ j, j ≠ 296 → M3 j = M2 j := fun j hj => by rw [← hM3, up_ne _ _ _ hj]
    refine ⟨M3, ?_, ?_, fun i hi => ?_, by rw [m3 292 (by decide), m2 292 (by decide)]; exact e292, by rw [m3 293 (by decide), m2 293 (by decide)]; exact e293, by rw [m3 294 (by decide), m2 294 (by decide)]; exact e294, by rw [m3 295 (by decide), m2 295 (by decide)]; exact e295, by rw [m3 297 (by decide), m2 297 (by decide)]; exact e297, fun i => ?_, fun j hj => by rw [m3 j (by omega), m2 j (by omega)]; exact m1 j hj⟩
    · rw [hrun, if_neg cp, if_neg (by omega), if_neg (by omega), wrE (v := par * 3) (by omega) (by omega), wrE (by omega) (by omega), c_setEntry_in 90 alenC_296 (by omega) (by omega), ClS, show par * 3 + pl = 3 * par + pl by omega, hM3]
    · rw [m3 291 (by decide), m2 291 (by decide), e291, if_pos rfl]
    · rw [m3 291 (by decide), m2 291 (by decide), e291, if_neg hi]
    · rw [← hM3]
      by_cases ci : i = (3 * par + pl).toNat
      · subst ci
        rw [up_at, if_neg (by omega), if_pos (by omega)]
      · have : up M2 296 (3 * par + pl).toNat (k : Int) 296 i = M2 296 i := by simp [up, ci]
        rw [this, if_neg (c := 0 ≤ par ∧ _) (by omega), ← hM2, sr_at, m296]
theorem StW.of {M M' : Mm} {l : List Ent} (h : StW M l) (e : ∀ j, 277 ≤ j → j ≤ 281 → M' j = M j) (e6 : M' 273 6 = M 273 6) : StW M' l := by
  unfold StW at *
  rw [e6, e 277 (by decide) (by decide), e 278 (by decide) (by decide), e 279 (by decide) (by decide), e 280 (by decide) (by decide), e 281 (by decide) (by decide)]
  exact h
theorem StW.pop {M : Mm} {l : List Ent} {x : Ent} (h : StW M (l ++ [x])) : StW (up M 273 6 (l.length : Int)) l ∧ M 273 6 = (l.length : Int) + 1 ∧ M 277 l.length = x.1 ∧ M 278 l.length = x.2.1 ∧ M 279 l.length = x.2.2.1 ∧ M 280 l.length = x.2.2.2.1 ∧ M 281 l.length = x.2.2.2.2 := by
  obtain ⟨h1, h2⟩ := h
  have hx := h2 l.length (by rw [List.length_append]; simp)
  rw [getD_app_at] at hx
  refine ⟨⟨up_at .., fun i hi => ?_⟩, by rw [h1, List.length_append]; simp, hx⟩
  have := h2 i (by rw [List.length_append]; simp; omega)
  rw [getD_app_lt hi] at this
  rw [up_ne _ _ _ (show (277 : Nat) ≠ 273 by decide), up_ne _ _ _ (show (278 : Nat) ≠ 273 by decide), up_ne _ _ _ (show (279 : Nat) ≠ 273 by decide), up_ne _ _ _ (show (280 : Nat) ≠ 273 by decide), up_ne _ _ _ (show (281 : Nat) ≠ 273 by decide)]
  exact this
theorem Stl.of {S M M' : Mm} (h : Stl S M) (e : ∀ j, j = 275 ∨ j = 276 → M' j = M j) : Stl S M' := by
  unfold Stl at *
  rw [e 275 (Or.inl rfl), e 276 (Or.inr rfl)]
  exact h
/-- what the class's building leaves -/
def FgC (M M' : Mm) : Prop := (∀ j, j ≠ 273 → ¬ (277 ≤ j ∧ j ≤ 282) → ¬ (291 ≤ j ∧ j ≤ 297) → M' j = M j) ∧ (∀ i, i ≠ 5 → i ≠ 6 → M' 273 i = M 273 i) ∧ ∀ i, i ≠ 0 → M' 291 i = M 291 i
theorem FgC.refl (M : Mm) : FgC M M := ⟨fun _ _ _ _ => rfl, fun _ _ _ => rfl, fun _ _ => rfl⟩
theorem FgC.trans {A B C : Mm} (h : FgC A B) (h' : FgC B C) : FgC A C := ⟨fun j a b c => (h'.1 j a b c).trans (h.1 j a b c), fun i a b => (h'.2.1 i a b).trans (h.2.1 i a b), fun i a => (h'.2.2 i a).trans (h.2.2 i a)⟩
theorem c_node {S C : Mm} (hg : Okg S) (hl : S 0 33 ≤ 12) (hM : CG C S) (hS : Stl S C) {k : Nat} (hk : k < 30) (h0 : C 291 0 = (k : Int)) {l : List Ent} {x : Ent} (hst : StW C (l ++ [x])) (hlen : l.length + 3 < 64) (hx : (0 ≤ x.1 ∧ x.1 < 4) ∧ (0 ≤ x.2.1 ∧ x.2.1 ≤ x.2.2.1 ∧ x.2.2.1 ≤ S 0 33)) (hpar : x.2.2.2.1 = -1 ∨ (0 ≤ x.2.2.2.1 ∧ x.2.2.2.1 < k)) (hpl : 0 ≤ x.2.2.2.2 ∧ x.2.2.2.2 < 3) (hE : C 275 (wix x.1 x.2.1 x.2.2.1) < 500000000) {p : Int} (hp : LwP S (C 275) x.1 x.2.1 x.2.2.1 p) {J : Mm → Rs} {F : Nat} :
    ∃ C', Lp (f_X9_grow_L19_39 291 J) (F + 1) ((k : Int), C) = Lp (f_X9_grow_L19_39 291 J) F (((k + 1 : Nat) : Int), C') ∧ FgC C C' ∧ StW C' (dnE S p x.2.1 (oneC S (C 275) (C 276) p x.2.1 x.2.2.1) (twoC S (C 275) (C 276) p x.2.1 x.2.2.1) x.2.2.1 (k : Int) (S 2 p.toNat).toNat l) ∧ C' 291 0 = (k : Int) + 1 ∧ C' 292 = se (C 292) k x.2.2.2.1 ∧ C' 293 = se (C 293) k x.2.2.2.2 ∧ C' 294 = se (C 294) k p ∧ C' 295 = se (C 295) k p ∧ C' 297 = se (C 297) k (puF S p x.2.1 (oneC S (C 275) (C 276) p x.2.1 x.2.2.1) (twoC S (C 275) (C 276) p x.2.1 x.2.2.1) x.2.2.1 (S 2 p.toNat).toNat).1 ∧ (∀ i, C' 296 i = if 3 * k ≤ i ∧ i < 3 * k + 3 then -1 else if 0 ≤ x.2.2.2.1 ∧ (i : Int) = 3 * x.2.2.2.1 + x.2.2.2.2 then (k : Int) else C 296 i) := by
  obtain ⟨A, f, t, par, pl⟩ := x
  simp only at hx hpar hpl hE hp ⊢
  obtain ⟨s1, s2, s3, s4, s5, s6, s7⟩ := hst.pop
  simp only at s3 s4 s5 s6 s7
  have hpp := hp.1
  have t12 : t ≤ 12 := by omega
  obtain ⟨hbd, -⟩ := oneC_bd hg hl hS hx.1.1 hx.1.2 hx.2.1 hx.2.2.1 hx.2.2.2 hE hp
  generalize hC1 : up C 273 6 (l.length : Int) = C1 at s1
  have c1 : ∀ j, j ≠ 273 → C1 j = C j := fun j hj => by rw [← hC1, up_ne _ _ _ hj]
  have c1i : ∀ i, i ≠ 6 → C1 273 i = C 273 i := fun i hi => by rw [← hC1]; simp [up, hi]
  have hM1 : CG C1 S := hM.of fun j j1 j2 => c1 j (by omega)
  have hS1 : Stl S C1 := hS.of fun j hj => c1 j (by omega)
  obtain ⟨cc, hpf⟩ := c9_prodFor hg hl hM1 hS1 hx.1.1 hx.1.2 hx.2.1 hx.2.2.1 hx.2.2.2 (p := p) (by rw [c1 275 (by decide)]; exact hp)
  generalize hC2 : up C1 273 5 cc = C2 at hpf
  have c2 : ∀ j, j ≠ 273 → C2 j = C1 j := fun j hj => by rw [← hC2, up_ne _ _ _ hj]
  have c2i : ∀ i, i ≠ 5 → C2 273 i = C1 273 i := fun i hi => by rw [← hC2]; simp [up, hi]
  have hM2 : CG C2 S := hM1.of fun j j1 j2 => c2 j (by omega)
  have hS2 : Stl S C2 := hS1.of fun j hj => c2 j (by omega)
  have e275 : C2 275 = C 275 := by rw [c2 275 (by decide), c1 275 (by decide)]
  have e276 : C2 276 = C 276 := by rw [c2 276 (by decide), c1 276 (by decide)]
  obtain ⟨C3, u1, u2, u3, u4, u5, u6, u7⟩ := c9_cutUp hg hM2 hS2.1 hS2.2.1 hpp hx.2.1 hx.2.2.1 t12
  rw [e275, e276] at u5 u6
  generalize oneC S (C 275) (C 276) p f t = one at hbd u5 ⊢
  generalize twoC S (C 275) (C 276) p f t = two at hbd u6 ⊢
  have hM3 : CG C3 S := hM2.of fun j j1 j2 => u2 j (by omega) (by omega)
  have hpu := c9_putsOf hg hl hM3 (by rw [u2 275 (by decide) (by decide)]; exact hS2.2.2.1) hpp hx.2.1 hbd.1 hbd.2.1 hbd.2.2 hx.2.2.2 u4 u5 u6 u7
  have c3 : ∀ j, j ≠ 273 → j ≠ 282 → C3 j = C j := fun j a b => by rw [u2 j a b, c2 j a, c1 j a]
  have c3i : ∀ i, i ≠ 5 → i ≠ 6 → C3 273 i = C 273 i := fun i a b => by rw [u3 i a, c2i i a, c1i i b]
  have c36 : C3 273 6 = (l.length : Int) := by rw [u3 6 (by decide), c2i 6 (by decide)]; exact s1.1
  obtain ⟨C4, v1, v2, v3, v4, v5, v6, v7, v8, v9, v10⟩ := c8_append hk (M := C3) (by rw [c3 291 (by decide) (by decide)]; exact h0) hpar hpl (p := p) (put := (puF S p f one two t (S 2 p.toNat).toNat).1)
  have hst3 : StW C4 l := s1.of (fun j j1 j2 => by rw [v10 j (by omega), u2 j (by omega) (by omega), c2 j (by omega)]) (by rw [v10 273 (by decide), u3 6 (by decide), c2i 6 (by decide)])
  have hM4 : CG C4 S := hM3.of fun j j1 j2 => v10 j (by omega)
  obtain ⟨C5, w1, w2, w3, w4⟩ := c9_children hg hM4 (f := f) (one := one) (two := two) (t := t) (node := (k : Int)) hpp (by rw [v10 282 (by decide)]; exact u4) (by rw [v10 282 (by decide)]; exact u5) (by rw [v10 282 (by decide)]; exact u6) (by rw [v10 282 (by decide)]; exact u7) hst3 (by omega)
  refine ⟨C5, ?_, ⟨fun j a b c => ?_, fun i a b => ?_, fun i a => ?_⟩, w2, ?_, ?_, ?_, ?_, ?_, ?_, fun i => ?_⟩
  · rw [Lp_s]
    simp only [f_X9_grow_L19_39, LtE]
    have hlr : ((l.length : Int)).toNat = l.length := Int.toNat_natCast _
    have e278 : C1 278 l.length = f := by rw [c1 278 (by decide)]; exact s4
    have e279 : C1 279 l.length = t := by rw [c1 279 (by decide)]; exact s5
    have e277 : C1 277 l.length = A := by rw [c1 277 (by decide)]; exact s3
    have e280 : C3 280 l.length = par := by rw [c3 280 (by decide) (by decide)]; exact s6
    have e281 : C3 281 l.length = pl := by rw [c3 281 (by decide) (by decide)]; exact s7
    rw [s2, if_neg (by omega), if_neg (by omega), wrE (v := (l.length : Int) + 1 - 1) (by omega) (by omega), show (l.length : Int) + 1 - 1 = (l.length : Int) by omega, hC1, s1.1, c_entryOf_in 90 alenC_278 (by omega) (by omega), ClS, hlr, e278, s1.1, c_entryOf_in 90 alenC_279 (by omega) (by omega), ClS, hlr, e279, s1.1, c_entryOf_in 90 alenC_277 (by omega) (by omega), ClS, hlr, e277, hpf, ClS, u1, ClS, hpu, ClS, c36, c_entryOf_in 90 alenC_280 (by omega) (by omega), ClS, hlr, e280, c36, c_entryOf_in 90 alenC_281 (by omega) (by omega), ClS, hlr, e281, v1, ClS, w1, ClS, wrE (by omega) (by omega)]
    rfl
  · rw [w3 j a (by omega), v10 j (by omega), c3 j a (by omega)]
  · rw [w4 i b, v10 273 (by decide), c3i i a b]
  · rw [w3 291 (by decide) (by decide), v3 i a, c3 291 (by decide) (by decide)]
  · rw [w3 291 (by decide) (by decide)]; exact v2
  · rw [w3 292 (by decide) (by decide), v4, c3 292 (by decide) (by decide)]
  · rw [w3 293 (by decide) (by decide), v5, c3 293 (by decide) (by decide)]
  · rw [w3 294 (by decide) (by decide), v6, c3 294 (by decide) (by decide)]
  · rw [w3 295 (by decide) (by decide), v7, c3 295 (by decide) (by decide)]
  · rw [w3 297 (by decide) (by decide), v8, c3 297 (by decide) (by decide)]
  · rw [w3 296 (by decide) (by decide), v9, c3 296 (by decide) (by decide)]
/-! a node is made: the reference -/
def FgR (M M' : Mm) : Prop := (∀ j, j ≠ 0 → ¬ (30 ≤ j ∧ j ≤ 35) → ¬ (45 ≤ j ∧ j ≤ 49) → M' j = M j) ∧ ∀ i, i ≠ 35 → i ≠ 58 → i ≠ 59 → M' 0 i = M 0 i
theorem FgR.refl (M : Mm) : FgR M M := ⟨fun _ _ _ _ => rfl, fun _ _ _ _ => rfl⟩
theorem FgR.trans {A B C : Mm} (h : FgR A B) (h' : FgR B C) : FgR A C := ⟨fun j a b c => (h'.1 j a b c).trans (h.1 j a b c), fun i a b c => (h'.2 i a b c).trans (h.2 i a b c)⟩
theorem Gr.fg {M M' S : Mm} (h : Gr M S) (hf : FgR M M') : Gr M' S := h.of (fun j hj => hf.1 j (by omega) (by omega) (by omega)) (hf.2 0 (by decide) (by decide) (by decide)) (hf.2 33 (by decide) (by decide) (by decide))
theorem r_node {S R : Mm} (hg : Okg S) (hl : S 0 33 ≤ 12) (hG : Gr R S) {k : Nat} (hk : k < 30) (h0 : R 0 35 = (k : Int)) {l : List Ent} {x : Ent} (hst : RSw R (l ++ [x])) (hlen : l.length + 3 < 64) {one two p : Int} (hx : (0 ≤ x.1 ∧ x.1 < 4) ∧ (0 ≤ x.2.1 ∧ x.2.1 ≤ x.2.2.1 ∧ x.2.2.1 ≤ S 0 33)) (hpar : x.2.2.2.1 = -1 ∨ (0 ≤ x.2.2.2.1 ∧ x.2.2.2.1 < k)) (hpl : 0 ≤ x.2.2.2.2 ∧ x.2.2.2.2 < 3) (hp : 0 ≤ p ∧ p < S 0 0) (hb : x.2.1 ≤ one ∧ one ≤ two ∧ two ≤ x.2.2.1) (hch : ∀ N : Mm, FgR R N → f_X12_chosen x.1 x.2.1 x.2.2.1 N = some (p, up (up N 0 58 one) 0 59 two)) {J : Mm → Rs} {F : Nat} :
    ∃ R', Lp (f_X12_makes_L45_107 J) (F + 1) ((l.length : Int) + 1, R) = Lp (f_X12_makes_L45_107 J) F (((dnE S p x.2.1 one two x.2.2.1 (k : Int) (S 2 p.toNat).toNat l).length : Int), R') ∧ FgR R R' ∧ RSw R' (dnE S p x.2.1 one two x.2.2.1 (k : Int) (S 2 p.toNat).toNat l) ∧ R' 0 35 = (k : Int) + 1 ∧ R' 30 = se (R 30) k p ∧ R' 31 = se (R 31) k p ∧ R' 32 = se (R 32) k x.2.2.2.1 ∧ R' 33 = se (R 33) k x.2.2.2.2 ∧ R' 35 = se (R 35) k (puF S p x.2.1 one two x.2.2.1 (S 2 p.toNat).toNat).1 ∧ R' 34 = (if x.2.2.2.1 = -1 then R 34 else se (R 34) (3 * x.2.2.2.1 + x.2.2.2.2).toNat (k : Int)) := by
  obtain ⟨A, f, t, par, pl⟩ := x
  simp only at hx hpar hpl hb hch ⊢
  have h10 := hg.1
  have t12 : t ≤ 12 := by omega
  have hP := hg.2.2.2.1 p hp.1 hp.2
  have hn := hP.2.1
  have hx0 := hst l.length (by rw [List.length_append]; simp)
  rw [getD_app_at] at hx0
  obtain ⟨s1, s2, s3, s4, s5⟩ := hx0
  simp only at s1 s2 s3 s4 s5
  have hstl : RSw R l := fun i hi => by
    have := hst i (by rw [List.length_append]; simp; omega)
    rw [getD_app_lt hi] at this
    exact this
  generalize hR1 : up R 0 35 ((k : Int) + 1) = R1
  have f1 : FgR R R1 := by rw [← hR1]; exact ⟨fun j a b c => up_ne _ _ _ a, fun i a _ _ => by simp [up, a]⟩
  have r1 : ∀ j, j ≠ 0 → R1 j = R j := fun j hj => by rw [← hR1, up_ne _ _ _ hj]
  have hch1 := hch R1 f1
  generalize hR2 : up (up R1 0 58 one) 0 59 two = R2 at hch1
  have r2 : ∀ j, j ≠ 0 → R2 j = R j := fun j hj => by rw [← hR2, up_ne _ _ _ hj, up_ne _ _ _ hj, r1 j hj]
  have r20 : ∀ i, i ≠ 35 → i ≠ 58 → i ≠ 59 → R2 0 i = R 0 i := fun i a b c => by rw [← hR2, ← hR1]; simp [up, a, b, c]
  have r258 : R2 0 58 = one ∧ R2 0 59 = two ∧ R2 0 35 = (k : Int) + 1 := by rw [← hR2, ← hR1]; simp [up]
  -- the rows of the node
  generalize hR3 : up (up (up (up (up R2 30 k p) 31 k p) 32 k par) 33 k pl) 35 k 0 = R3
  have r3 : ∀ j, ¬ (30 ≤ j ∧ j ≤ 33) → j ≠ 35 → R3 j = R2 j := fun j a b => by rw [← hR3, up_ne _ _ _ b, up_ne _ _ _ (by omega), up_ne _ _ _ (by omega), up_ne _ _ _ (by omega), up_ne _ _ _ (by omega)]
  have r330 : R3 30 = se (R 30) k p := by rw [← hR3, up_ne _ _ _ (by decide), up_ne _ _ _ (by decide), up_ne _ _ _ (by decide), up_ne _ _ _ (by decide), up_se, sr_at, r2 30 (by decide)]
  have r331 : R3 31 = se (R 31) k p := by rw [← hR3, up_ne _ _ _ (by decide), up_ne _ _ _ (by decide), up_ne _ _ _ (by decide), up_se, sr_at, up_ne _ _ _ (by decide), r2 31 (by decide)]
  have r332 : R3 32 = se (R 32) k par := by rw [← hR3, up_ne _ _ _ (by decide), up_ne _ _ _ (by decide), up_se, sr_at, up_ne _ _ _ (by decide), up_ne _ _ _ (by decide), r2 32 (by decide)]
  have r333 : R3 33 = se (R 33) k pl := by rw [← hR3, up_ne _ _ _ (by decide), up_se, sr_at, up_ne _ _ _ (by decide), up_ne _ _ _ (by decide), up_ne _ _ _ (by decide), r2 33 (by decide)]
  have r335 : R3 35 = se (R 35) k 0 := by rw [← hR3, up_se, sr_at, up_ne _ _ _ (by decide), up_ne _ _ _ (by decide), up_ne _ _ _ (by decide), up_ne _ _ _ (by decide), r2 35 (by decide)]
  have hgk : (0 : Int) ≤ (k : Int) ∧ (k : Int) < 30 := by omega
  -- the link from the parent
  generalize hR4 : (if par = -1 then R3 else up R3 34 (3 * par + pl).toNat (k : Int)) = R4
  have r4 : ∀ j, j ≠ 34 → R4 j = R3 j := fun j hj => by
    rw [← hR4]
    split
    · rfl
    · rw [up_ne _ _ _ hj]
  have r434 : R4 34 = (if par = -1 then R 34 else se (R 34) (3 * par + pl).toNat (k : Int)) := by
    have e34 : R3 34 = R 34 := by rw [r3 34 (by decide) (by decide), r2 34 (by decide)]
    rw [← hR4]
    by_cases c : par = -1
    · rw [if_pos c, if_pos c, e34]
    · rw [if_neg c, if_neg c, up_se, sr_at, e34]
  have hR4S : RSw R4 l := hstl.of fun j j1 j2 => by rw [r4 j (by omega), r3 j (by omega) (by omega), r2 j (by omega)]
  have hcc : S 4 p.toNat = (nch S p.toNat (S 2 p.toNat).toNat : Int) := hP.2.2.1
  have hlc : S 6 p.toNat = S 2 p.toNat - S 4 p.toNat := hP.2.2.2.1
  obtain ⟨R5, t1, t2, t3, t4, t5⟩ := r_symbols hg hgk hp hx.2.1 hb.1 hb.2.1 hb.2.2 t12 (J := fun v40 M41 => Lp (f_X12_makes_L45_107 J) F (v40, M41)) (S 2 p.toNat).toNat FU R4 l (Nat.le_refl _) (FU_lt (by omega)) (by rw [r4 3 (by decide), r3 3 (by decide) (by decide), r2 3 (by decide)]; exact hG.2.2.1) (by rw [r4 29 (by decide), r3 29 (by decide) (by decide), r2 29 (by decide)]; exact hG.2.2.2.2.2.2.1) hR4S (by omega)
  have hput := puD_puF (S := S) (p := p) (f := f) (one := one) (two := two) (t := t) hp.1 (n := (S 2 p.toNat).toNat) (by omega)
  have hk2 : ((k : Int)).toNat = k := Int.toNat_natCast _
  rw [hk2] at t3 t4
  have r435 : R4 35 k = 0 := by rw [r4 35 (by decide), r335, se_at]
  rw [r435, hput.1] at t3
  refine ⟨R5, ?_, ⟨fun j a b c => ?_, fun i a b c => ?_⟩, t2, ?_, ?_, ?_, ?_, ?_, ?_, ?_⟩
  · rw [Lp_s]
    simp only [f_X12_makes_L45_107, LtE]
    have hgl : 0 ≤ (l.length : Int) ∧ (l.length : Int) < 64 := by omega
    have hlr : ((l.length : Int)).toNat = l.length := Int.toNat_natCast _
    have hgp : 0 ≤ p ∧ p < 10 := by omega
    rw [if_neg (by omega), wrE (v := (l.length : Int) + 1 + -1) (by omega) (by omega), show (l.length : Int) + 1 + -1 = (l.length : Int) by omega, h0, wrE (v := (k : Int) + 1) (by omega) (by omega), hR1, gdE hgl, gdE hgl, gdE hgl, hlr, hk2, r1 45 (by decide), r1 46 (by decide), r1 47 (by decide), s1, s2, s3, hch1, ClS]
    simp only [gdE hgk, gdE hgl]
    have e48 : up (up R2 30 k p) 31 k p 48 l.length = par := by rw [up_ne _ _ _ (by decide), up_ne _ _ _ (by decide), r2 48 (by decide)]; exact s4
    have e49 : up (up (up R2 30 k p) 31 k p) 32 k par 49 l.length = pl := by rw [up_ne _ _ _ (by decide), up_ne _ _ _ (by decide), up_ne _ _ _ (by decide), r2 49 (by decide)]; exact s5
    rw [e48, e49, hR3]
    have e32 : R3 32 k = par := by rw [r332, se_at]
    have e33 : R3 33 k = pl := by rw [r333, se_at]
    rw [e32, e33]
    have fin : (gd (0 ≤ p ∧ p < 10) (gd (0 ≤ p ∧ p < 10) (gd (0 ≤ p ∧ p < 10) (Lp (f_X12_makes_L216_100 (k : Int) f t p (R4 0 58) (R4 0 59) fun v40 M41 => Lp (f_X12_makes_L45_107 J) F (v40, M41)) FU ((l.length : Int), R4 4 p.toNat, R4 6 p.toNat, wr (R4 2 p.toNat - 1), R4))))) = Lp (f_X12_makes_L45_107 J) F (((dnE S p f one two t (k : Int) (S 2 p.toNat).toNat l).length : Int), R5) := by
      have x1 : R4 0 58 = one := by rw [r4 0 (by decide), r3 0 (by decide) (by decide)]; exact r258.1
      have x2 : R4 0 59 = two := by rw [r4 0 (by decide), r3 0 (by decide) (by decide)]; exact r258.2.1
      have x3 : R4 4 p.toNat = (nch S p.toNat (S 2 p.toNat).toNat : Int) := by rw [r4 4 (by decide), r3 4 (by decide) (by decide), r2 4 (by decide), hG.2.2.2.1]; exact hcc
      have x4 : R4 6 p.toNat = (((S 2 p.toNat).toNat : Nat) : Int) - (nch S p.toNat (S 2 p.toNat).toNat : Int) := by rw [r4 6 (by decide), r3 6 (by decide) (by decide), r2 6 (by decide), hG.2.2.2.2.2.1, hlc, hcc]; omega
      have x5 : wr (R4 2 p.toNat - 1) = (((S 2 p.toNat).toNat : Nat) : Int) - 1 := by rw [r4 2 (by decide), r3 2 (by decide) (by decide), r2 2 (by decide), hG.2.1, wrE (by omega) (by omega)]; omega
      rw [gdE hgp, gdE hgp, gdE hgp, x1, x2, x3, x4, x5]
      exact t1
    by_cases c : par = -1
    · rw [if_pos c] at hR4 ⊢
      rw [hR4]
      exact fin
    · rw [if_neg c] at hR4 ⊢
      have hpr : 0 ≤ par ∧ par < k := hpar.resolve_left c
      rw [wrE (v := 3 * par) (by omega) (by omega), wrE (by omega) (by omega), gdE (by omega), hR4]
      exact fin
  · rw [t5 j (by omega) c, r4 j (by omega), r3 j (by omega) (by omega), r2 j a]
  · rw [t5 0 (by decide) (by decide), r4 0 (by decide), r3 0 (by decide) (by decide), r20 i a b c]
  · rw [t5 0 (by decide) (by decide), r4 0 (by decide), r3 0 (by decide) (by decide)]; exact r258.2.2
  · rw [t5 30 (by decide) (by decide), r4 30 (by decide), r330]
  · rw [t5 31 (by decide) (by decide), r4 31 (by decide), r331]
  · rw [t5 32 (by decide) (by decide), r4 32 (by decide), r332]
  · rw [t5 33 (by decide) (by decide), r4 33 (by decide), r333]
  · funext i
    by_cases c : i = k
    · subst c; rw [t3, se_at]
    · rw [t4 i c, r4 35 (by decide), r335, se_ne _ _ c, se_ne _ _ c]
  · rw [t5 34 (by decide) (by decide), r434]
