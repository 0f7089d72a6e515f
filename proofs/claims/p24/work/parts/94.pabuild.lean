/-! both sides build the same tree -/
def Pnd (l : List Ent) (m c : Nat) : Prop := ∃ x ∈ l, x.2.2.2.1 = (m : Int) ∧ x.2.2.2.2 = (c : Int)
def BdE (S R : Mm) (W : Nat → Int) (k : Nat) (x : Ent) : Prop := (0 ≤ x.1 ∧ x.1 < 4) ∧ (0 ≤ x.2.1 ∧ x.2.1 ≤ x.2.2.1 ∧ x.2.2.1 ≤ S 0 33) ∧ W (wix x.1 x.2.1 x.2.2.1) < 500000000 ∧ ((k = 0 → x.2.2.2.1 = -1 ∧ x.2.2.2.2 = 0) ∧ (k ≠ 0 → 0 ≤ x.2.2.2.1 ∧ x.2.2.2.1 < (k : Int) ∧ 0 ≤ x.2.2.2.2 ∧ x.2.2.2.2 < S 4 (R 30 x.2.2.2.1.toNat).toNat))
def BdN (S C R : Mm) (m : Nat) : Prop := (0 ≤ R 30 m ∧ R 30 m < S 0 0) ∧ R 31 m = R 30 m ∧ (0 ≤ R 35 m ∧ R 35 m ≤ 7) ∧ (m = 0 → R 32 m = -1 ∧ R 33 m = 0) ∧ (0 < m → 0 ≤ R 32 m ∧ R 32 m < (m : Int) ∧ 0 ≤ R 33 m ∧ R 33 m < S 4 (R 30 (R 32 m).toNat).toNat ∧ R 34 (3 * R 32 m + R 33 m).toNat = (m : Int)) ∧ (C 292 m = R 32 m ∧ C 293 m = R 33 m ∧ C 294 m = R 30 m ∧ C 295 m = R 30 m ∧ C 297 m = R 35 m)
def BdC (S C R : Mm) (k : Nat) (l : List Ent) (m c : Nat) : Prop := ((c : Int) < S 4 (R 30 m).toNat → (¬ Pnd l m c → C 296 (3 * m + c) = R 34 (3 * m + c) ∧ (m : Int) < R 34 (3 * m + c) ∧ R 34 (3 * m + c) < (k : Int) ∧ R 32 (R 34 (3 * m + c)).toNat = (m : Int) ∧ R 33 (R 34 (3 * m + c)).toNat = (c : Int)) ∧ (Pnd l m c → C 296 (3 * m + c) = -1)) ∧ (¬ (c : Int) < S 4 (R 30 m).toNat → C 296 (3 * m + c) = -1)
def BI (S : Mm) (W : Nat → Int) (tot : Int) (C R : Mm) (k : Nat) (l : List Ent) : Prop :=
  (StW C l ∧ RSw R l) ∧ (C 291 0 = (k : Int) ∧ R 0 35 = (k : Int)) ∧ (∀ x ∈ l, BdE S R W k x) ∧ PwE l ∧ ((k : Int) + sumE W l = tot ∧ tot ≤ 30) ∧ (∀ m : Nat, m < k → BdN S C R m) ∧ (∀ m c : Nat, m < k → c < 3 → BdC S C R k l m c) ∧ (∀ m : Nat, 0 < m → m < k → ¬ Pnd l (R 32 m).toNat (R 33 m).toNat) ∧ ∀ m q c : Nat, 0 < m → m < k → q < m → c < 3 → (c : Int) < S 4 (R 30 q).toNat → (Pnd l q c ∨ (m : Int) ≤ R 34 (3 * q + c)) → (q : Int) < R 32 m ∨ ((q : Int) = R 32 m ∧ R 33 m ≤ (c : Int))
theorem nd_pos {S C : Mm} (hg : Okg S) (hl : 0 ≤ S 0 33 ∧ S 0 33 ≤ 12) (hS : Stl S C) {x : Ent} (hx : (0 ≤ x.1 ∧ x.1 < 4) ∧ (0 ≤ x.2.1 ∧ x.2.1 ≤ x.2.2.1 ∧ x.2.2.1 ≤ S 0 33)) (hE : C 275 (wix x.1 x.2.1 x.2.2.1) < 500000000) : ∃ p, LwP S (C 275) x.1 x.2.1 x.2.2.1 p ∧ ndW (C 275) x = 1 + sumN (fun j => C 275 (wix (S 3 (3 * p + j).toNat) (enC x.2.1 (oneC S (C 275) (C 276) p x.2.1 x.2.2.1) (twoC S (C 275) (C 276) p x.2.1 x.2.2.1) x.2.2.1 j) (enC x.2.1 (oneC S (C 275) (C 276) p x.2.1 x.2.2.1) (twoC S (C 275) (C 276) p x.2.1 x.2.2.1) x.2.2.1 ((j : Int) + 1))) % 100000) (S 2 p.toNat).toNat ∧ 1 ≤ ndW (C 275) x ∧ ∀ j : Nat, (j : Int) < S 2 p.toNat → C 275 (wix (S 3 (3 * p + j).toNat) (enC x.2.1 (oneC S (C 275) (C 276) p x.2.1 x.2.2.1) (twoC S (C 275) (C 276) p x.2.1 x.2.2.1) x.2.2.1 j) (enC x.2.1 (oneC S (C 275) (C 276) p x.2.1 x.2.2.1) (twoC S (C 275) (C 276) p x.2.1 x.2.2.1) x.2.2.1 ((j : Int) + 1))) < 500000000 := by
  obtain ⟨A, f, t, par, pl⟩ := x
  simp only at hx hE ⊢
  obtain ⟨p, hp⟩ := hS.low hg hl.2 hx.1.1 hx.1.2 hx.2.1 hx.2.2.1 hx.2.2.2 hE
  obtain ⟨hbd, hcd, hfin, -⟩ := oneC_bd hg hl.2 hS hx.1.1 hx.1.2 hx.2.1 hx.2.2.1 hx.2.2.2 hE hp
  have e1 : S 2 p.toNat ≤ 1 → oneC S (C 275) (C 276) p f t = t := fun q => by unfold oneC; rw [if_pos q]
  have e2 : S 2 p.toNat ≤ 2 → twoC S (C 275) (C 276) p f t = t := fun q => by unfold twoC; rw [if_pos q]
  refine ⟨p, hp, ?_⟩
  generalize oneC S (C 275) (C 276) p f t = one at hbd hcd hfin e1 ⊢
  generalize twoC S (C 275) (C 276) p f t = two at hbd hcd hfin e2 ⊢
  have hpe := pts_en hg hp.1 (f := f) e1 e2
  have hn := nd_cut hg hl.2 (hS.sol hg hl) (A := A) hp.1 hx.2.1 hbd.1 hbd.2.1 hbd.2.2 hx.2.2.2 hfin hcd
  have hs := hpe.2 fun c f t => wOf (C 275) c f t % 100000
  refine ⟨?_, ?_, fun j hj => hfin _ (hpe.1 j hj)⟩
  · unfold ndW
    rw [hs] at hn
    exact hn.1
  · unfold ndW
    have h1 := hn.1
    have h2 := hn.2
    unfold wOf at h1 h2
    simp only
    omega
theorem sumE_len {W : Nat → Int} : ∀ l : List Ent, (∀ x ∈ l, 1 ≤ ndW W x) → (l.length : Int) ≤ sumE W l := by
  intro l
  induction l with
  | nil => intro _; exact Int.le_refl _
  | cons x r ih =>
    intro h
    have h1 := h x (List.mem_cons_self ..)
    have h2 := ih fun y hy => h y (List.mem_cons_of_mem _ hy)
    rw [List.length_cons]
    simp only [sumE]
    omega
/-- what the reference writes for a node -/
def WrN (S R R' : Mm) (k : Nat) : Prop := (∀ j, ((30 ≤ j ∧ j ≤ 33) ∨ j = 35) → ∀ m, m ≠ k → R' j m = R j m) ∧ ∀ i, R' 34 i = R 34 i ∨ ∃ m c : Nat, m < k ∧ (c : Int) < S 4 (R 30 m).toNat ∧ c < 3 ∧ i = 3 * m + c
theorem BI.step {S C0 R0 : Mm} (hg : Okg S) (hl : 0 ≤ S 0 33 ∧ S 0 33 ≤ 12) (hM0 : CG C0 S) (hS0 : Stl S C0) (hG0 : Gr R0 S) (hb0 : Jb R0) (hR0 : Sol S 10000 999990000 (vW S R0)) {tot : Int} {C R : Mm} {k : Nat} {l : List Ent} {x : Ent} (hC : FgC C0 C) (hR : FgR R0 R) (h : BI S (C0 275) tot C R k (l ++ [x])) {J1 J2 : Mm → Rs} {F1 F2 : Nat} :
    ∃ C' R' l', Lp (f_X9_grow_L19_39 291 J1) (F1 + 1) ((k : Int), C) = Lp (f_X9_grow_L19_39 291 J1) F1 (((k + 1 : Nat) : Int), C') ∧ Lp (f_X12_makes_L45_107 J2) (F2 + 1) (((l ++ [x]).length : Int), R) = Lp (f_X12_makes_L45_107 J2) F2 ((l'.length : Int), R') ∧ FgC C0 C' ∧ FgR R0 R' ∧ WrN S R R' k ∧ BI S (C0 275) tot C' R' (k + 1) l' := by
  have h10 := hg.1
  obtain ⟨⟨b1, b2⟩, ⟨b3, b4⟩, b5, b6, ⟨b7, b7'⟩, b8, b9, b10, b11⟩ := h
  have e275 : C 275 = C0 275 := hC.1 275 (by decide) (by decide) (by decide)
  have e276 : C 276 = C0 276 := hC.1 276 (by decide) (by decide) (by decide)
  have hM : CG C S := hM0.of fun j j1 j2 => hC.1 j (by omega) (by omega) (by omega)
  have hS : Stl S C := hS0.of fun j hj => hC.1 j (by omega) (by omega) (by omega)
  have hxl : x ∈ l ++ [x] := List.mem_append_right _ (List.mem_singleton.mpr rfl)
  have hbx := b5 x hxl
  have hndl : ∀ y ∈ l ++ [x], 1 ≤ ndW (C0 275) y := fun y hy => by
    have q := b5 y hy
    obtain ⟨p, p1, p2, p3, p4⟩ := nd_pos hg hl hS0 ⟨q.1, q.2.1⟩ q.2.2.1
    exact p3
  have hsum := sumE_app (C0 275) l [x]
  have hsn := sumE_nn (C0 275) l
  have hlen := sumE_len _ fun y hy => hndl y (List.mem_append_left _ hy)
  obtain ⟨p, hp, n1, n2, n3⟩ := nd_pos hg hl hS0 ⟨hbx.1, hbx.2.1⟩ hbx.2.2.1
  have hxs : sumE (C0 275) [x] = ndW (C0 275) x + 0 := rfl
  have hk : k < 30 := by omega
  have hpp := hp.1
  have hP := hg.2.2.2.1 p hpp.1 hpp.2
  have hns := hP.2.1
  have hs9 := hP.2.2.2.2.2.1
  obtain ⟨A, f, t, par, pl⟩ := x
  simp only at hp n1 n2 n3
  obtain ⟨⟨a0, a4⟩, ⟨f0, ft, tl⟩, hE, hk0, hk1⟩ : (0 ≤ A ∧ A < 4) ∧ (0 ≤ f ∧ f ≤ t ∧ t ≤ S 0 33) ∧ C0 275 (wix A f t) < 500000000 ∧ ((k = 0 → par = -1 ∧ pl = 0) ∧ (k ≠ 0 → 0 ≤ par ∧ par < (k : Int) ∧ 0 ≤ pl ∧ pl < S 4 (R 30 par.toNat).toNat)) := hbx
  have hpar : par = -1 ∨ (0 ≤ par ∧ par < (k : Int)) := by
    by_cases c : k = 0
    · exact Or.inl (hk0 c).1
    · exact Or.inr ⟨(hk1 c).1, (hk1 c).2.1⟩
  have hch3 : ∀ m : Nat, m < k → S 4 (R 30 m).toNat ≤ 3 := fun m hm => by
    have := (b8 m hm).1
    have := (hg.2.2.2.1 _ this.1 this.2).2
    omega
  have hpl : 0 ≤ pl ∧ pl < 3 := by
    by_cases c : k = 0
    · have := (hk0 c).2; omega
    · have h1 := hk1 c
      have := hch3 par.toNat (by omega)
      omega
  obtain ⟨hbd, -⟩ := oneC_bd hg hl.2 hS0 a0 a4 f0 ft tl hE hp
  obtain ⟨C', d1, d2, d3, d4, d5, d6, d7, d8, d9, d10⟩ := c_node hg hl.2 hM hS hk b3 b1 (by omega) ⟨⟨a0, a4⟩, ⟨f0, ft, tl⟩⟩ hpar hpl (by rw [e275]; exact hE) (p := p) (by rw [e275]; exact hp) (J := J1) (F := F1)
  simp only [e275, e276] at d3 d9 d5 d6 d10
  have hchosen : ∀ N : Mm, FgR R N → f_X12_chosen A f t N = some (p, up (up N 0 58 (oneC S (C0 275) (C0 276) p f t)) 0 59 (twoC S (C0 275) (C0 276) p f t)) := fun N hN => by
    have hf := hR.trans hN
    have e43 : N 43 = R0 43 := hf.1 43 (by decide) (by decide) (by decide)
    have e44 : N 44 = R0 44 := hf.1 44 (by decide) (by decide) (by decide)
    have hbN : Jb N := by unfold Jb at hb0 ⊢; rw [e43, e44]; exact hb0
    have ev : vW S N = vW S R0 := by
      funext c e d
      unfold vW rC rN
      rw [e43, e44]
    exact choice_both hg hl hS0 (hG0.fg hf) hbN (by rw [ev]; exact hR0) a0 a4 f0 ft tl hE hp
  obtain ⟨R', g1, g2, g3, g4, g5, g6, g7, g8, g9, g10⟩ := r_node hg hl.2 (hG0.fg hR) hk b4 b2 (by omega) (one := oneC S (C0 275) (C0 276) p f t) (two := twoC S (C0 275) (C0 276) p f t) (p := p) ⟨⟨a0, a4⟩, ⟨f0, ft, tl⟩⟩ hpar hpl hpp hbd hchosen (J := J2) (F := F2)
  simp only at g1 g3 g7 g8 g9 g10
  generalize oneC S (C0 275) (C0 276) p f t = one at n1 n3 hbd d3 d9 g1 g3 g9
  generalize twoC S (C0 275) (C0 276) p f t = two at n1 n3 hbd d3 d9 g1 g3 g9
  generalize hl2 : dnE S p f one two t (k : Int) (S 2 p.toNat).toNat l = l2 at d3 g1 g3
  have hput := puD_puF (S := S) (p := p) (f := f) (one := one) (two := two) (t := t) hpp.1 (n := (S 2 p.toNat).toNat) (by omega)
  generalize (puF S p f one two t (S 2 p.toNat).toNat).1 = put at d9 g9 hput
  have hmem := fun y => dnE_mem (S := S) (p := p) (f := f) (one := one) (two := two) (t := t) (node := (k : Int)) (S 2 p.toNat).toNat l y
  rw [hl2] at hmem
  have hen : ∀ j : Nat, j < 3 → 0 ≤ enC f one two t j ∧ enC f one two t j ≤ enC f one two t ((j : Int) + 1) ∧ enC f one two t ((j : Int) + 1) ≤ S 0 33 := fun j hj => by
    have : j = 0 ∨ j = 1 ∨ j = 2 := by omega
    rcases this with rfl | rfl | rfl
    · show 0 ≤ f ∧ f ≤ one ∧ one ≤ S 0 33
      omega
    · show 0 ≤ one ∧ one ≤ two ∧ two ≤ S 0 33
      omega
    · show 0 ≤ two ∧ two ≤ t ∧ t ≤ S 0 33
      omega
  have hpw := (List.pairwise_append.mp b6)
  have hcc : S 4 p.toNat = (nch S p.toNat (S 2 p.toNat).toNat : Int) := hP.2.2.1
  -- rows of the reference, off the new node
  have q30 : ∀ m : Nat, m < k → R' 30 m = R 30 m := fun m hm => by rw [g5, se_ne _ _ (by omega)]
  have q32 : ∀ m : Nat, m < k → R' 32 m = R 32 m := fun m hm => by rw [g7, se_ne _ _ (by omega)]
  have q33 : ∀ m : Nat, m < k → R' 33 m = R 33 m := fun m hm => by rw [g8, se_ne _ _ (by omega)]
  have q30k : R' 30 k = p := by rw [g5, se_at]
  have q34 : ∀ m c : Nat, m < k → c < 3 → R' 34 (3 * m + c) = if par = (m : Int) ∧ pl = (c : Int) then (k : Int) else R 34 (3 * m + c) := fun m c hm hc => by
    rw [g10]
    by_cases cp : par = -1
    · rw [if_pos cp, if_neg (by omega)]
    · rw [if_neg cp]
      have hpr := hpar.resolve_left cp
      by_cases q : par = (m : Int) ∧ pl = (c : Int)
      · rw [if_pos q]
        have : 3 * m + c = (3 * par + pl).toNat := by omega
        rw [this, se_at]
      · rw [if_neg q, se_ne _ _ (by omega)]
  have c296 : ∀ m c : Nat, m < k → c < 3 → C' 296 (3 * m + c) = if par = (m : Int) ∧ pl = (c : Int) then (k : Int) else C 296 (3 * m + c) := fun m c hm hc => by
    rw [d10, if_neg (by omega)]
    by_cases q : par = (m : Int) ∧ pl = (c : Int)
    · rw [if_pos q, if_pos (by omega)]
    · rw [if_neg q, if_neg (by omega)]
  have hl' : ∀ y ∈ l, y ∈ l ++ [(A, f, t, par, pl)] := fun y hy => List.mem_append_left _ hy
  -- what waits then
  have hpold : ∀ m c : Nat, m < k → (Pnd l2 m c ↔ Pnd l m c) := fun m c hm => by
    constructor
    · rintro ⟨y, y1, y2, y3⟩
      rcases (hmem y).mp y1 with z | ⟨i, i1, i2, i3⟩
      · exact ⟨y, z, y2, y3⟩
      · subst i3
        simp only at y2
        omega
    · rintro ⟨y, y1, y2, y3⟩
      exact ⟨y, (hmem y).mpr (Or.inl y1), y2, y3⟩
  have hpx : ∀ m c : Nat, Pnd (l ++ [(A, f, t, par, pl)]) m c ↔ Pnd l m c ∨ (par = (m : Int) ∧ pl = (c : Int)) := fun m c => by
    constructor
    · rintro ⟨y, y1, y2, y3⟩
      rcases List.mem_append.mp y1 with z | z
      · exact Or.inl ⟨y, z, y2, y3⟩
      · have := List.mem_singleton.mp z
        subst this
        exact Or.inr ⟨y2, y3⟩
    · rintro (⟨y, y1, y2, y3⟩ | ⟨y2, y3⟩)
      · exact ⟨y, hl' y y1, y2, y3⟩
      · exact ⟨_, hxl, y2, y3⟩
  have hpnx : ∀ m c : Nat, par = (m : Int) → pl = (c : Int) → ¬ Pnd l m c := fun m c h1 h2 => by
    rintro ⟨y, y1, y2, y3⟩
    have := hpw.2.2 y y1 _ (List.mem_singleton.mpr rfl)
    simp only at this
    omega
  have hpnew : ∀ c : Nat, (c : Int) < S 4 p.toNat → Pnd l2 k c := fun c hc => by
    obtain ⟨i, i1, i2, i3⟩ := nch_all S hpp.1 (S 2 p.toNat).toNat c (by omega)
    exact ⟨_, (hmem _).mpr (Or.inr ⟨i, i1, i2, rfl⟩), rfl, by simp only; omega⟩
  have hwr : WrN S R R' k := by
    refine ⟨fun j hj m hm => ?_, fun i => ?_⟩
    · have : j = 30 ∨ j = 31 ∨ j = 32 ∨ j = 33 ∨ j = 35 := by omega
      rcases this with rfl | rfl | rfl | rfl | rfl
      · rw [g5, se_ne _ _ hm]
      · rw [g6, se_ne _ _ hm]
      · rw [g7, se_ne _ _ hm]
      · rw [g8, se_ne _ _ hm]
      · rw [g9, se_ne _ _ hm]
    · rw [g10]
      by_cases cp : par = -1
      · rw [if_pos cp]; exact Or.inl rfl
      · rw [if_neg cp]
        have hpr := hpar.resolve_left cp
        by_cases ci : i = (3 * par + pl).toNat
        · right
          have q := hk1 (by omega)
          refine ⟨par.toNat, pl.toNat, by omega, ?_, by omega, by omega⟩
          have := q.2.2.2
          omega
        · rw [se_ne _ _ ci]; exact Or.inl rfl
  refine ⟨C', R', l2, d1, ?_, hC.trans d2, hR.trans g2, hwr, ⟨d3, g3⟩, ⟨by rw [d4]; omega, by rw [g4]; omega⟩, fun y hy => ?_, ?_, ⟨?_, b7'⟩, fun m hm => ?_, fun m c hm hc => ?_, fun m m0 hm => ?_, fun m q c m0 hm hq hc h4 hpq => ?_⟩
  · have e : (((l ++ [(A, f, t, par, pl)]).length : Nat) : Int) = (l.length : Int) + 1 := by rw [List.length_append]; simp
    rw [e]
    exact g1
  · rcases (hmem y).mp hy with z | ⟨i, i1, i2, i3⟩
    · obtain ⟨y1, y2, y3, y4, y5⟩ := b5 y (hl' y z)
      have hkn : k ≠ 0 := fun e => by
        have q1 := y4 e
        have q2 := hk0 e
        have := hpw.2.2 y z _ (List.mem_singleton.mpr rfl)
        simp only at this
        omega
      have q := y5 hkn
      refine ⟨y1, y2, y3, fun e => (by omega), fun _ => ⟨q.1, by omega, q.2.2.1, ?_⟩⟩
      rw [q30 _ (by omega)]
      exact q.2.2.2
    · subst i3
      have hb := hen i (by omega)
      have hss := hs9 i (by omega) (by omega)
      refine ⟨⟨hss.1, i2⟩, ⟨hb.1, hb.2.1, hb.2.2⟩, n3 i (by omega), fun e => (by omega), fun _ => ⟨by simp only; omega, by simp only; omega, by simp only; omega, ?_⟩⟩
      simp only
      rw [Int.toNat_natCast, q30k, hcc]
      have := nch_mono S hpp.1 i1 i2
      omega
  · rw [← hl2]
    refine dnE_pw hpp.1 _ _ hpw.1 fun y hy => Or.inl ?_
    obtain ⟨y1, y2, y3, y4, y5⟩ := b5 y (hl' y hy)
    by_cases c : k = 0
    · have := (y4 c).1; omega
    · have := (y5 c).2.1; omega
  · rw [← hl2, dnE_sum _ _ fun i hi hn4 => by
      have hb := hen i (by omega)
      have hss := hs9 i (by omega) (by omega)
      rw [hS0.2.2.1 _ _ _ (by omega) hss.2 hb.1 hb.2.1 hb.2.2]
      omega]
    omega
  · by_cases cm : m = k
    · subst cm
      refine ⟨by rw [q30k]; exact hpp, by rw [g6, g5, se_at, se_at], by rw [g9, se_at]; exact hput.2, fun e => ?_, fun e => ?_, ?_⟩
      · rw [g7, g8, se_at, se_at]
        exact hk0 e
      · have q := hk1 (by omega)
        rw [g7, g8, se_at, se_at]
        refine ⟨q.1, q.2.1, q.2.2.1, ?_, ?_⟩
        · rw [q30 _ (by omega)]; exact q.2.2.2
        · rw [g10, if_neg (by omega), se_at]
      · rw [d5, d6, d7, d8, d9, g7, g8, g5, g9, se_at, se_at, se_at, se_at, se_at, se_at, se_at, se_at, se_at]
        exact ⟨rfl, rfl, rfl, rfl, rfl⟩
    · have hmk : m < k := by omega
      obtain ⟨o1, o2, o3, o4, o5, o6⟩ := b8 m hmk
      refine ⟨by rw [q30 m hmk]; exact o1, by rw [q30 m hmk, g6, se_ne _ _ cm]; exact o2, by rw [g9, se_ne _ _ cm]; exact o3, fun e => by rw [q32 m hmk, q33 m hmk]; exact o4 e, fun e => ?_, ?_⟩
      · have q := o5 e
        rw [q32 m hmk, q33 m hmk]
        refine ⟨q.1, q.2.1, q.2.2.1, by rw [q30 _ (by omega)]; exact q.2.2.2.1, ?_⟩
        have hc3 := hch3 (R 32 m).toNat (by omega)
        have e3 : (3 * R 32 m + R 33 m).toNat = 3 * (R 32 m).toNat + (R 33 m).toNat := by omega
        rw [e3, q34 _ _ (by omega) (by omega), ← e3, if_neg ?_]
        · exact q.2.2.2.2
        · intro z
          -- the node is there already, so its place does not wait
          have hnp := b10 m e hmk
          exact hnp ((hpx _ _).mpr (Or.inr z))
      · rw [d5, d6, d7, d8, d9, q30 m hmk, q32 m hmk, q33 m hmk, g9, se_ne _ _ cm, se_ne _ _ cm, se_ne _ _ cm, se_ne _ _ cm, se_ne _ _ cm, se_ne _ _ cm]
        exact o6
  · by_cases cm : m = k
    · subst cm
      have e296 : C' 296 (3 * m + c) = -1 := by rw [d10, if_pos (by omega)]
      refine ⟨fun h1 => ⟨fun h2 => absurd (hpnew c (by rw [q30k] at h1; exact h1)) h2, fun _ => e296⟩, fun _ => e296⟩
    · have hmk : m < k := by omega
      obtain ⟨o1, o2⟩ := b9 m c hmk hc
      unfold BdC
      rw [q30 m hmk, c296 m c hmk hc, q34 m c hmk hc]
      refine ⟨fun h1 => ⟨fun h2 => ?_, fun h2 => ?_⟩, fun h1 => ?_⟩
      · by_cases z : par = (m : Int) ∧ pl = (c : Int)
        · rw [if_pos z, if_pos z, Int.toNat_natCast, g7, g8, se_at, se_at]
          exact ⟨rfl, by omega, by omega, z.1, z.2⟩
        · rw [if_neg z, if_neg z]
          have hn : ¬ Pnd (l ++ [(A, f, t, par, pl)]) m c := fun q => by
            rcases (hpx m c).mp q with y | y
            · exact h2 ((hpold m c hmk).mpr y)
            · exact z y
          obtain ⟨u1, u2, u3, u4, u5⟩ := (o1 h1).1 hn
          refine ⟨u1, u2, by omega, ?_, ?_⟩
          · rw [q32 _ (by omega)]; exact u4
          · rw [q33 _ (by omega)]; exact u5
      · have hpl2 := (hpold m c hmk).mp h2
        have hz : ¬ (par = (m : Int) ∧ pl = (c : Int)) := fun z => hpnx m c z.1 z.2 hpl2
        rw [if_neg hz]
        exact (o1 h1).2 ((hpx m c).mpr (Or.inl hpl2))
      · have hz : ¬ (par = (m : Int) ∧ pl = (c : Int)) := fun z => by
          by_cases c0 : k = 0
          · omega
          · have q := (hk1 c0).2.2.2
            rw [z.1, Int.toNat_natCast] at q
            omega
        rw [if_neg hz]
        exact o2 h1
  · by_cases cm : m = k
    · subst cm
      have hk0' : m ≠ 0 := by omega
      have q := hk1 hk0'
      rw [g7, g8, se_at, se_at]
      intro z
      exact hpnx par.toNat pl.toNat (by omega) (by omega) ((hpold _ _ (by omega)).mp z)
    · have hmk : m < k := by omega
      have q := (b8 m hmk).2.2.2.2.1 m0
      rw [q32 m hmk, q33 m hmk]
      intro z
      exact b10 m m0 hmk ((hpx _ _).mpr (Or.inl ((hpold _ _ (by omega)).mp z)))
  · have hqk : q < k := by omega
    rw [q30 q hqk] at h4
    rw [q34 q c hqk hc] at hpq
    by_cases cm : m = k
    · subst cm
      rw [g7, g8, se_at, se_at]
      have hl1 : Pnd l q c → (q : Int) < par ∨ ((q : Int) = par ∧ pl ≤ (c : Int)) := by
        rintro ⟨y, y1, y2, y3⟩
        have := hpw.2.2 y y1 _ (List.mem_singleton.mpr rfl)
        simp only at this
        omega
      rcases hpq with z | z
      · exact hl1 ((hpold q c hqk).mp z)
      · by_cases zz : par = (q : Int) ∧ pl = (c : Int)
        · omega
        · rw [if_neg zz] at z
          by_cases hp' : Pnd (l ++ [(A, f, t, par, pl)]) q c
          · rcases (hpx q c).mp hp' with y | y
            · exact hl1 y
            · exact absurd y zz
          · have := ((b9 q c hqk hc).1 h4).1 hp'
            omega
    · have hmk : m < k := by omega
      rw [q32 m hmk, q33 m hmk]
      refine b11 m q c m0 hmk hq hc h4 ?_
      rcases hpq with z | z
      · exact Or.inl ((hpx q c).mpr (Or.inl ((hpold q c hqk).mp z)))
      · by_cases zz : par = (q : Int) ∧ pl = (c : Int)
        · exact Or.inl ((hpx q c).mpr (Or.inr zz))
        · rw [if_neg zz] at z
          exact Or.inr z
