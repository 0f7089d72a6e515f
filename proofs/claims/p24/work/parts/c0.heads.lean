/-! heads of the nodes that are read -/
def HdE (S R : Mm) (x : Ent) : Prop := (x.2.2.2.1 = -1 → x.1 = 0) ∧ (0 ≤ x.2.2.2.1 → ∃ i : Nat, (i : Int) < S 2 (R 30 x.2.2.2.1.toNat).toNat ∧ S 3 (3 * R 30 x.2.2.2.1.toNat + i).toNat < 4 ∧ x.1 = S 3 (3 * R 30 x.2.2.2.1.toNat + i).toNat ∧ x.2.2.2.2 = (nch S (R 30 x.2.2.2.1.toNat).toNat i : Int))
def HdN (S R : Mm) (m : Nat) : Prop := HdE S R (S 1 (R 30 m).toNat, 0, 0, R 32 m, R 33 m)
def Hd (S R : Mm) (k : Nat) (l : List Ent) : Prop := (∀ x ∈ l, HdE S R x) ∧ ∀ m, m < k → HdN S R m
theorem BI.step24 {S C0 R0 : Mm} (hg : Okg S) (hl : 0 ≤ S 0 33 ∧ S 0 33 ≤ 12) (hM0 : CG C0 S) (hS0 : Stl S C0) (hG0 : Gr R0 S) (hb0 : Jb R0) (hR0 : Sol S 10000 999990000 (vW S R0)) {tot : Int} {C R : Mm} {k : Nat} {l : List Ent} {x : Ent} (hC : FgC C0 C) (hR : FgR R0 R) (h : BI S (C0 275) tot C R k (l ++ [x])) (hh : Hd S R k (l ++ [x])) {J1 J2 : Mm → Rs} {F1 F2 : Nat} :
    ∃ C' R' l', Lp (f_X9_grow_L19_39 291 J1) (F1 + 1) ((k : Int), C) = Lp (f_X9_grow_L19_39 291 J1) F1 (((k + 1 : Nat) : Int), C') ∧ Lp (f_X12_makes_L45_107 J2) (F2 + 1) (((l ++ [x]).length : Int), R) = Lp (f_X12_makes_L45_107 J2) F2 ((l'.length : Int), R') ∧ FgC C0 C' ∧ FgR R0 R' ∧ WrN S R R' k ∧ BI S (C0 275) tot C' R' (k + 1) l' ∧ Hd S R' (k + 1) l' := by
  have h10 := hg.1
  obtain ⟨⟨b1, b2⟩, ⟨b3, b4⟩, b5, b6, ⟨b7, b7'⟩, b8, b9, b10, b11⟩ := h
  have e275 : C 275 = C0 275 := hC.1 275 (by decide) (by decide) (by decide)
  have e276 : C 276 = C0 276 := hC.1 276 (by decide) (by decide) (by decide)
  have hM : CG C S := hM0.of fun j j1 j2 => hC.1 j (by omega) (by omega) (by omega)
  have hS : Stl S C := hS0.of fun j hj => hC.1 j (by omega) (by omega) (by omega)
  have hxl : x ∈ l ++ [x] := List.mem_append_right _ (List.mem_singleton.mpr rfl)
  have hbx := b5 x hxl
  have hndl : ∀ y ∈ l ++ [x], 1 ≤ ndW (C0 275) y := fun y hy => by
    have q := b5 y hy
    obtain ⟨p, p1, p2, p3, p4⟩ := nd_pos hg hl hS0 ⟨q.1, q.2.1⟩ q.2.2.1
    exact p3
  have hsum := sumE_app (C0 275) l [x]
  have hsn := sumE_nn (C0 275) l
  have hlen := sumE_len _ fun y hy => hndl y (List.mem_append_left _ hy)
  obtain ⟨p, hp, n1, n2, n3⟩ := nd_pos hg hl hS0 ⟨hbx.1, hbx.2.1⟩ hbx.2.2.1
  have hxs : sumE (C0 275) [x] = ndW (C0 275) x + 0 := rfl
  have hk : k < 30 := by omega
  have hpp := hp.1
  have hP := hg.2.2.2.1 p hpp.1 hpp.2
  have hns := hP.2.1
  have hs9 := hP.2.2.2.2.2.1
  obtain ⟨A, f, t, par, pl⟩ := x
  simp only at hp n1 n2 n3
  obtain ⟨⟨a0, a4⟩, ⟨f0, ft, tl⟩, hE, hk0, hk1⟩ : (0 ≤ A ∧ A < 4) ∧ (0 ≤ f ∧ f ≤ t ∧ t ≤ S 0 33) ∧ C0 275 (wix A f t) < 500000000 ∧ ((k = 0 → par = -1 ∧ pl = 0) ∧ (k ≠ 0 → 0 ≤ par ∧ par < (k : Int) ∧ 0 ≤ pl ∧ pl < S 4 (R 30 par.toNat).toNat)) := hbx
  have hpar : par = -1 ∨ (0 ≤ par ∧ par < (k : Int)) := by
    by_cases c : k = 0
    · exact Or.inl (hk0 c).1
    · exact Or.inr ⟨(hk1 c).1, (hk1 c).2.1⟩
  have hch3 : ∀ m : Nat, m < k → S 4 (R 30 m).toNat ≤ 3 := fun m hm => by
    have := (b8 m hm).1
    have := (hg.2.2.2.1 _ this.1 this.2).2
    omega
  have hpl : 0 ≤ pl ∧ pl < 3 := by
    by_cases c : k = 0
    · have := (hk0 c).2; omega
    · have h1 := hk1 c
      have := hch3 par.toNat (by omega)
      omega
  obtain ⟨hbd, -⟩ := oneC_bd hg hl.2 hS0 a0 a4 f0 ft tl hE hp
  obtain ⟨C', d1, d2, d3, d4, d5, d6, d7, d8, d9, d10⟩ := c_node hg hl.2 hM hS hk b3 b1 (by omega) ⟨⟨a0, a4⟩, ⟨f0, ft, tl⟩⟩ hpar hpl (by rw [e275]; exact hE) (p := p) (by rw [e275]; exact hp) (J := J1) (F := F1)
  simp only [e275, e276] at d3 d9 d5 d6 d10
  have hchosen : ∀ N : Mm, FgR R N → f_X12_chosen A f t N = some (p, up (up N 0 58 (oneC S (C0 275) (C0 276) p f t)) 0 59 (twoC S (C0 275) (C0 276) p f t)) := fun N hN => by
    have hf := hR.trans hN
    have e43 : N 43 = R0 43 := hf.1 43 (by decide) (by decide) (by decide)
    have e44 : N 44 = R0 44 := hf.1 44 (by decide) (by decide) (by decide)
    have hbN : Jb N := by unfold Jb at hb0 ⊢; rw [e43, e44]; exact hb0
    have ev : vW S N = vW S R0 := by
      funext c e d
      unfold vW rC rN
      rw [e43, e44]
    exact choice_both hg hl hS0 (hG0.fg hf) hbN (by rw [ev]; exact hR0) a0 a4 f0 ft tl hE hp
  obtain ⟨R', g1, g2, g3, g4, g5, g6, g7, g8, g9, g10⟩ := r_node hg hl.2 (hG0.fg hR) hk b4 b2 (by omega) (one := oneC S (C0 275) (C0 276) p f t) (two := twoC S (C0 275) (C0 276) p f t) (p := p) ⟨⟨a0, a4⟩, ⟨f0, ft, tl⟩⟩ hpar hpl hpp hbd hchosen (J := J2) (F := F2)
  simp only at g1 g3 g7 g8 g9 g10
  generalize oneC S (C0 275) (C0 276) p f t = one at n1 n3 hbd d3 d9 g1 g3 g9
  generalize twoC S (C0 275) (C0 276) p f t = two at n1 n3 hbd d3 d9 g1 g3 g9
  generalize hl2 : dnE S p f one two t (k : Int) (S 2 p.toNat).toNat l = l2 at d3 g1 g3
  have hput := puD_puF (S := S) (p := p) (f := f) (one := one) (two := two) (t := t) hpp.1 (n := (S 2 p.toNat).toNat) (by omega)
  generalize (puF S p f one two t (S 2 p.toNat).toNat).1 = put at d9 g9 hput
  have hmem := fun y => dnE_mem (S := S) (p := p) (f := f) (one := one) (two := two) (t := t) (node := (k : Int)) (S 2 p.toNat).toNat l y
  rw [hl2] at hmem
  have hen : ∀ j : Nat, j < 3 → 0 ≤ enC f one two t j ∧ enC f one two t j ≤ enC f one two t ((j : Int) + 1) ∧ enC f one two t ((j : Int) + 1) ≤ S 0 33 := fun j hj => by
    have : j = 0 ∨ j = 1 ∨ j = 2 := by omega
    rcases this with rfl | rfl | rfl
    · show 0 ≤ f ∧ f ≤ one ∧ one ≤ S 0 33
      omega
    · show 0 ≤ one ∧ one ≤ two ∧ two ≤ S 0 33
      omega
    · show 0 ≤ two ∧ two ≤ t ∧ t ≤ S 0 33
      omega
  have hpw := (List.pairwise_append.mp b6)
  have hcc : S 4 p.toNat = (nch S p.toNat (S 2 p.toNat).toNat : Int) := hP.2.2.1
  -- rows of the reference, off the new node
  have q30 : ∀ m : Nat, m < k → R' 30 m = R 30 m := fun m hm => by rw [g5, se_ne _ _ (by omega)]
  have q32 : ∀ m : Nat, m < k → R' 32 m = R 32 m := fun m hm => by rw [g7, se_ne _ _ (by omega)]
  have q33 : ∀ m : Nat, m < k → R' 33 m = R 33 m := fun m hm => by rw [g8, se_ne _ _ (by omega)]
  have q30k : R' 30 k = p := by rw [g5, se_at]
  have q34 : ∀ m c : Nat, m < k → c < 3 → R' 34 (3 * m + c) = if par = (m : Int) ∧ pl = (c : Int) then (k : Int) else R 34 (3 * m + c) := fun m c hm hc => by
    rw [g10]
    by_cases cp : par = -1
    · rw [if_pos cp, if_neg (by omega)]
    · rw [if_neg cp]
      have hpr := hpar.resolve_left cp
      by_cases q : par = (m : Int) ∧ pl = (c : Int)
      · rw [if_pos q]
        have : 3 * m + c = (3 * par + pl).toNat := by omega
        rw [this, se_at]
      · rw [if_neg q, se_ne _ _ (by omega)]
  have c296 : ∀ m c : Nat, m < k → c < 3 → C' 296 (3 * m + c) = if par = (m : Int) ∧ pl = (c : Int) then (k : Int) else C 296 (3 * m + c) := fun m c hm hc => by
    rw [d10, if_neg (by omega)]
    by_cases q : par = (m : Int) ∧ pl = (c : Int)
    · rw [if_pos q, if_pos (by omega)]
    · rw [if_neg q, if_neg (by omega)]
  have hl' : ∀ y ∈ l, y ∈ l ++ [(A, f, t, par, pl)] := fun y hy => List.mem_append_left _ hy
  -- what waits then
  have hpold : ∀ m c : Nat, m < k → (Pnd l2 m c ↔ Pnd l m c) := fun m c hm => by
    constructor
    · rintro ⟨y, y1, y2, y3⟩
      rcases (hmem y).mp y1 with z | ⟨i, i1, i2, i3⟩
      · exact ⟨y, z, y2, y3⟩
      · subst i3
        simp only at y2
        omega
    · rintro ⟨y, y1, y2, y3⟩
      exact ⟨y, (hmem y).mpr (Or.inl y1), y2, y3⟩
  have hpx : ∀ m c : Nat, Pnd (l ++ [(A, f, t, par, pl)]) m c ↔ Pnd l m c ∨ (par = (m : Int) ∧ pl = (c : Int)) := fun m c => by
    constructor
    · rintro ⟨y, y1, y2, y3⟩
      rcases List.mem_append.mp y1 with z | z
      · exact Or.inl ⟨y, z, y2, y3⟩
      · have := List.mem_singleton.mp z
        subst this
        exact Or.inr ⟨y2, y3⟩
    · rintro (⟨y, y1, y2, y3⟩ | ⟨y2, y3⟩)
      · exact ⟨y, hl' y y1, y2, y3⟩
      · exact ⟨_, hxl, y2, y3⟩
  have hpnx : ∀ m c : Nat, par = (m : Int) → pl = (c : Int) → ¬ Pnd l m c := fun m c h1 h2 => by
    rintro ⟨y, y1, y2, y3⟩
    have := hpw.2.2 y y1 _ (List.mem_singleton.mpr rfl)
    simp only at this
    omega
  have hpnew : ∀ c : Nat, (c : Int) < S 4 p.toNat → Pnd l2 k c := fun c hc => by
    obtain ⟨i, i1, i2, i3⟩ := nch_all S hpp.1 (S 2 p.toNat).toNat c (by omega)
    exact ⟨_, (hmem _).mpr (Or.inr ⟨i, i1, i2, rfl⟩), rfl, by simp only; omega⟩
  have hwr : WrN S R R' k := by
    refine ⟨fun j hj m hm => ?_, fun i => ?_⟩
    · have : j = 30 ∨ j = 31 ∨ j = 32 ∨ j = 33 ∨ j = 35 := by omega
      rcases this with rfl | rfl | rfl | rfl | rfl
      · rw [g5, se_ne _ _ hm]
      · rw [g6, se_ne _ _ hm]
      · rw [g7, se_ne _ _ hm]
      · rw [g8, se_ne _ _ hm]
      · rw [g9, se_ne _ _ hm]
    · rw [g10]
      by_cases cp : par = -1
      · rw [if_pos cp]; exact Or.inl rfl
      · rw [if_neg cp]
        have hpr := hpar.resolve_left cp
        by_cases ci : i = (3 * par + pl).toNat
        · right
          have q := hk1 (by omega)
          refine ⟨par.toNat, pl.toNat, by omega, ?_, by omega, by omega⟩
          have := q.2.2.2
          omega
        · rw [se_ne _ _ ci]; exact Or.inl rfl
  have hlt : ∀ y ∈ l ++ [(A, f, t, par, pl)], y.2.2.2.1 < (k : Int) := fun y hy => by
    obtain ⟨-, -, -, y4, y5⟩ := b5 y hy
    by_cases c : k = 0
    · have := (y4 c).1; omega
    · exact (y5 c).2.1
  have hHE : ∀ y : Ent, HdE S R y → y.2.2.2.1 < (k : Int) → HdE S R' y := fun y hy hlt => ⟨hy.1, fun h0 => by
    obtain ⟨i, i1⟩ := hy.2 h0
    have e := q30 y.2.2.2.1.toNat (by omega)
    refine ⟨i, ?_⟩
    rw [e]
    exact i1⟩
  have hHd : Hd S R' (k + 1) l2 := by
    refine ⟨fun y hy => ?_, fun m hm => ?_⟩
    · rcases (hmem y).mp hy with z | ⟨i, i1, i2, i3⟩
      · exact hHE y (hh.1 y (hl' y z)) (hlt y (hl' y z))
      · subst i3
        refine ⟨fun q => ?_, fun _ => ⟨i, ?_⟩⟩
        · have q : (k : Int) = -1 := q
          omega
        · simp only
          rw [Int.toNat_natCast, q30k]
          exact ⟨by omega, i2, rfl, rfl⟩
    · by_cases cm : m = k
      · subst cm
        have := hHE _ (hh.1 _ hxl) (hlt _ hxl)
        unfold HdN
        rw [q30k, hp.2.1, g7, g8, se_at, se_at]
        exact this
      · have hmk : m < k := by omega
        have h0 := hh.2 m hmk
        unfold HdN at h0 ⊢
        rw [q30 m hmk, q32 m hmk, q33 m hmk]
        refine hHE _ h0 ?_
        show R 32 m < (k : Int)
        obtain ⟨-, -, -, o4, o5, -⟩ := b8 m hmk
        by_cases c : m = 0
        · have := (o4 c).1; omega
        · have := (o5 (by omega)).2.1; omega
  refine ⟨C', R', l2, d1, ?_, hC.trans d2, hR.trans g2, hwr, ⟨⟨d3, g3⟩, ⟨by rw [d4]; omega, by rw [g4]; omega⟩, fun y hy => ?_, ?_, ⟨?_, b7'⟩, fun m hm => ?_, fun m c hm hc => ?_, fun m m0 hm => ?_, fun m q c m0 hm hq hc h4 hpq => ?_⟩, hHd⟩
  · have e : (((l ++ [(A, f, t, par, pl)]).length : Nat) : Int) = (l.length : Int) + 1 := by rw [List.length_append]; simp
    rw [e]
    exact g1
  · rcases (hmem y).mp hy with z | ⟨i, i1, i2, i3⟩
    · obtain ⟨y1, y2, y3, y4, y5⟩ := b5 y (hl' y z)
      have hkn : k ≠ 0 := fun e => by
        have q1 := y4 e
        have q2 := hk0 e
        have := hpw.2.2 y z _ (List.mem_singleton.mpr rfl)
        simp only at this
        omega
      have q := y5 hkn
      refine ⟨y1, y2, y3, fun e => (by omega), fun _ => ⟨q.1, by omega, q.2.2.1, ?_⟩⟩
      rw [q30 _ (by omega)]
      exact q.2.2.2
    · subst i3
      have hb := hen i (by omega)
      have hss := hs9 i (by omega) (by omega)
      refine ⟨⟨hss.1, i2⟩, ⟨hb.1, hb.2.1, hb.2.2⟩, n3 i (by omega), fun e => (by omega), fun _ => ⟨by simp only; omega, by simp only; omega, by simp only; omega, ?_⟩⟩
      simp only
      rw [Int.toNat_natCast, q30k, hcc]
      have := nch_mono S hpp.1 i1 i2
      omega
  · rw [← hl2]
    refine dnE_pw hpp.1 _ _ hpw.1 fun y hy => Or.inl ?_
    obtain ⟨y1, y2, y3, y4, y5⟩ := b5 y (hl' y hy)
    by_cases c : k = 0
    · have := (y4 c).1; omega
    · have := (y5 c).2.1; omega
  · rw [← hl2, dnE_sum _ _ fun i hi hn4 => by
      have hb := hen i (by omega)
      have hss := hs9 i (by omega) (by omega)
      rw [hS0.2.2.1 _ _ _ (by omega) hss.2 hb.1 hb.2.1 hb.2.2]
      omega]
    omega
  · by_cases cm : m = k
    · subst cm
      refine ⟨by rw [q30k]; exact hpp, by rw [g6, g5, se_at, se_at], by rw [g9, se_at]; exact hput.2, fun e => ?_, fun e => ?_, ?_⟩
      · rw [g7, g8, se_at, se_at]
        exact hk0 e
      · have q := hk1 (by omega)
        rw [g7, g8, se_at, se_at]
        refine ⟨q.1, q.2.1, q.2.2.1, ?_, ?_⟩
        · rw [q30 _ (by omega)]; exact q.2.2.2
        · rw [g10, if_neg (by omega), se_at]
      · rw [d5, d6, d7, d8, d9, g7, g8, g5, g9, se_at, se_at, se_at, se_at, se_at, se_at, se_at, se_at, se_at]
        exact ⟨rfl, rfl, rfl, rfl, rfl⟩
    · have hmk : m < k := by omega
      obtain ⟨o1, o2, o3, o4, o5, o6⟩ := b8 m hmk
      refine ⟨by rw [q30 m hmk]; exact o1, by rw [q30 m hmk, g6, se_ne _ _ cm]; exact o2, by rw [g9, se_ne _ _ cm]; exact o3, fun e => by rw [q32 m hmk, q33 m hmk]; exact o4 e, fun e => ?_, ?_⟩
      · have q := o5 e
        rw [q32 m hmk, q33 m hmk]
        refine ⟨q.1, q.2.1, q.2.2.1, by rw [q30 _ (by omega)]; exact q.2.2.2.1, ?_⟩
        have hc3 := hch3 (R 32 m).toNat (by omega)
        have e3 : (3 * R 32 m + R 33 m).toNat = 3 * (R 32 m).toNat + (R 33 m).toNat := by omega
        rw [e3, q34 _ _ (by omega) (by omega), ← e3, if_neg ?_]
        · exact q.2.2.2.2
        · intro z
          -- the node is there already, so its place does not wait
          have hnp := b10 m e hmk
          exact hnp ((hpx _ _).mpr (Or.inr z))
      · rw [d5, d6, d7, d8, d9, q30 m hmk, q32 m hmk, q33 m hmk, g9, se_ne _ _ cm, se_ne _ _ cm, se_ne _ _ cm, se_ne _ _ cm, se_ne _ _ cm, se_ne _ _ cm]
        exact o6
  · by_cases cm : m = k
    · subst cm
      have e296 : C' 296 (3 * m + c) = -1 := by rw [d10, if_pos (by omega)]
      refine ⟨fun h1 => ⟨fun h2 => absurd (hpnew c (by rw [q30k] at h1; exact h1)) h2, fun _ => e296⟩, fun _ => e296⟩
    · have hmk : m < k := by omega
      obtain ⟨o1, o2⟩ := b9 m c hmk hc
      unfold BdC
      rw [q30 m hmk, c296 m c hmk hc, q34 m c hmk hc]
      refine ⟨fun h1 => ⟨fun h2 => ?_, fun h2 => ?_⟩, fun h1 => ?_⟩
      · by_cases z : par = (m : Int) ∧ pl = (c : Int)
        · rw [if_pos z, if_pos z, Int.toNat_natCast, g7, g8, se_at, se_at]
          exact ⟨rfl, by omega, by omega, z.1, z.2⟩
        · rw [if_neg z, if_neg z]
          have hn : ¬ Pnd (l ++ [(A, f, t, par, pl)]) m c := fun q => by
            rcases (hpx m c).mp q with y | y
            · exact h2 ((hpold m c hmk).mpr y)
            · exact z y
          obtain ⟨u1, u2, u3, u4, u5⟩ := (o1 h1).1 hn
          refine ⟨u1, u2, by omega, ?_, ?_⟩
          · rw [q32 _ (by omega)]; exact u4
          · rw [q33 _ (by omega)]; exact u5
      · have hpl2 := (hpold m c hmk).mp h2
        have hz : ¬ (par = (m : Int) ∧ pl = (c : Int)) := fun z => hpnx m c z.1 z.2 hpl2
        rw [if_neg hz]
        exact (o1 h1).2 ((hpx m c).mpr (Or.inl hpl2))
      · have hz : ¬ (par = (m : Int) ∧ pl = (c : Int)) := fun z => by
          by_cases c0 : k = 0
          · omega
          · have q := (hk1 c0).2.2.2
            rw [z.1, Int.toNat_natCast] at q
            omega
        rw [if_neg hz]
        exact o2 h1
  · by_cases cm : m = k
    · subst cm
      have hk0' : m ≠ 0 := by omega
      have q := hk1 hk0'
      rw [g7, g8, se_at, se_at]
      intro z
      exact hpnx par.toNat pl.toNat (by omega) (by omega) ((hpold _ _ (by omega)).mp z)
    · have hmk : m < k := by omega
      have q := (b8 m hmk).2.2.2.2.1 m0
      rw [q32 m hmk, q33 m hmk]
      intro z
      exact b10 m m0 hmk ((hpx _ _).mpr (Or.inl ((hpold _ _ (by omega)).mp z)))
  · have hqk : q < k := by omega
    rw [q30 q hqk] at h4
    rw [q34 q c hqk hc] at hpq
    by_cases cm : m = k
    · subst cm
      rw [g7, g8, se_at, se_at]
      have hl1 : Pnd l q c → (q : Int) < par ∨ ((q : Int) = par ∧ pl ≤ (c : Int)) := by
        rintro ⟨y, y1, y2, y3⟩
        have := hpw.2.2 y y1 _ (List.mem_singleton.mpr rfl)
        simp only at this
        omega
      rcases hpq with z | z
      · exact hl1 ((hpold q c hqk).mp z)
      · by_cases zz : par = (q : Int) ∧ pl = (c : Int)
        · omega
        · rw [if_neg zz] at z
          by_cases hp' : Pnd (l ++ [(A, f, t, par, pl)]) q c
          · rcases (hpx q c).mp hp' with y | y
            · exact hl1 y
            · exact absurd y zz
          · have := ((b9 q c hqk hc).1 h4).1 hp'
            omega
    · have hmk : m < k := by omega
      rw [q32 m hmk, q33 m hmk]
      refine b11 m q c m0 hmk hq hc h4 ?_
      rcases hpq with z | z
      · exact Or.inl ((hpx q c).mpr (Or.inl ((hpold q c hqk).mp z)))
      · by_cases zz : par = (q : Int) ∧ pl = (c : Int)
        · exact Or.inl ((hpx q c).mpr (Or.inr zz))
        · rw [if_neg zz] at z
          exact Or.inr z
theorem build_loop24 {S C0 R0 : Mm} (hg : Okg S) (hl : 0 ≤ S 0 33 ∧ S 0 33 ≤ 12) (hM0 : CG C0 S) (hS0 : Stl S C0) (hG0 : Gr R0 S) (hb0 : Jb R0) (hR0 : Sol S 10000 999990000 (vW S R0)) {tot : Int} {J1 J2 : Mm → Rs} : ∀ (d : Nat) (k : Nat) (l : List Ent) (C R : Mm) (F1 F2 : Nat), (tot - k).toNat = d → d + 1 < F1 → d + 1 < F2 → FgC C0 C → FgR R0 R → WrA S R0 R k → BI S (C0 275) tot C R k l → Hd S R k l →
    ∃ C' R', Lp (f_X9_grow_L19_39 291 J1) F1 ((k : Int), C) = J1 C' ∧ Lp (f_X12_makes_L45_107 J2) F2 ((l.length : Int), R) = J2 R' ∧ FgC C0 C' ∧ FgR R0 R' ∧ WrA S R0 R' tot.toNat ∧ BI S (C0 275) tot C' R' tot.toNat [] ∧ Hd S R' tot.toNat [] := by
  intro d
  induction d with
  | zero =>
    intro k l C R F1 F2 hd h1 h2 hC hR hW h hh
    obtain ⟨G1, rfl⟩ : ∃ G, F1 = G + 1 := ⟨F1 - 1, by omega⟩
    obtain ⟨G2, rfl⟩ : ∃ G, F2 = G + 1 := ⟨F2 - 1, by omega⟩
    have hsum := h.2.2.2.2.1
    have hnd : ∀ y ∈ l, 1 ≤ ndW (C0 275) y := fun y hy => by
      have q := h.2.2.1 y hy
      obtain ⟨p, p1, p2, p3, p4⟩ := nd_pos hg hl hS0 ⟨q.1, q.2.1⟩ q.2.2.1
      exact p3
    have hlen := sumE_len l hnd
    have hsn := sumE_nn (C0 275) l
    have hl0 : l = [] := List.eq_nil_of_length_eq_zero (by omega)
    subst hl0
    have hk : tot.toNat = k := by
      have : sumE (C0 275) [] = 0 := rfl
      omega
    refine ⟨C, R, ?_, ?_, hC, hR, by rw [hk]; exact hW, by rw [hk]; exact h, by rw [hk]; exact hh⟩
    · have e6 : C 273 6 = 0 := h.1.1.1
      rw [Lp_s]
      simp only [f_X9_grow_L19_39, LtE]
      split
      · rfl
      · rw [e6, if_pos (Int.le_refl _)]
    · rw [Lp_s]
      simp only [f_X12_makes_L45_107]
      rw [if_pos (by simp)]
  | succ d ih =>
    intro k l C R F1 F2 hd h1 h2 hC hR hW h hh
    obtain ⟨G1, rfl⟩ : ∃ G, F1 = G + 1 := ⟨F1 - 1, by omega⟩
    obtain ⟨G2, rfl⟩ : ∃ G, F2 = G + 1 := ⟨F2 - 1, by omega⟩
    rcases snoc_cases l with rfl | ⟨l', x, rfl⟩
    · have hsum := h.2.2.2.2.1
      have : sumE (C0 275) [] = 0 := rfl
      omega
    · obtain ⟨C1, R1, l1, a1, a2, a3, a4, a5, a6, a7⟩ := h.step24 hg hl hM0 hS0 hG0 hb0 hR0 hC hR hh (J1 := J1) (J2 := J2) (F1 := G1) (F2 := G2)
      obtain ⟨C2, R2, b1, b2, b3⟩ := ih (k + 1) l1 C1 R1 G1 G2 (by omega) (by omega) (by omega) a3 a4 (hW.step a5) a6 a7
      exact ⟨C2, R2, a1.trans b1, a2.trans b2, b3⟩
theorem both_build24 {S C R : Mm} (hg : Okg S) (hl : 0 ≤ S 0 33 ∧ S 0 33 ≤ 12) (hM : CG C S) (hT : CT C S) (hS : Stl S C) (hG : Gr R S) (hb : Jb R) (hR : Sol S 10000 999990000 (vW S R)) (h291 : C 291 0 = 0) (hE : C 275 (wix 0 0 (S 0 33)) < 500000000) (h30 : C 275 (wix 0 0 (S 0 33)) % 100000 ≤ 30) :
    ∃ C' R', f_X9_grow 291 C = some (0, C') ∧ f_X12_makes R = some (0, R') ∧ FgC C C' ∧ FgR R R' ∧ CN2 C' R' ∧ (0 < R' 0 35 ∧ R' 0 35 ≤ 30) ∧ (∀ n : Nat, (n : Int) < R' 0 35 → NodeOk R' n ∧ R' 31 n = R' 30 n) ∧ PRo R' ∧ WrA S (sr R 0 (se (R 0) 35 0)) R' (R' 0 35).toNat ∧ ∀ n : Nat, (n : Int) < R' 0 35 → HdN S R' n := by
  have h10 := hg.1
  generalize hroot : ((0, 0, S 0 33, -1, 0) : Ent) = root
  have hnd := nd_pos hg hl hS (x := (0, 0, S 0 33, -1, 0)) ⟨show (0 : Int) ≤ 0 ∧ (0 : Int) < 4 by decide, show (0 : Int) ≤ 0 ∧ 0 ≤ S 0 33 ∧ S 0 33 ≤ S 0 33 from ⟨by decide, hl.1, Int.le_refl _⟩⟩ hE
  obtain ⟨p, -, -, hnd1, -⟩ := hnd
  -- the class begins
  generalize hC1 : up C 273 6 0 = C1
  have c1 : ∀ j, j ≠ 273 → C1 j = C j := fun j hj => by rw [← hC1, up_ne _ _ _ hj]
  have c1i : ∀ i, i ≠ 6 → C1 273 i = C 273 i := fun i hi => by rw [← hC1]; simp [up, hi]
  have hst0 : StW C1 [] := ⟨by rw [← hC1, up_at]; rfl, fun i hi => absurd hi (Nat.not_lt_zero _)⟩
  obtain ⟨C2, w1, w2, w3, w4⟩ := c9_await hst0 (by decide) (0, 0, S 0 33, -1, 0)
  simp only at w1
  have f2 : FgC C C2 := ⟨fun j a b c => by rw [w3 j a (by omega), c1 j a], fun i a b => by rw [w4 i b, c1i i b], fun i a => by rw [w3 291 (by decide) (by decide), c1 291 (by decide)]⟩
  have e291 : C2 291 0 = 0 := by rw [w3 291 (by decide) (by decide), c1 291 (by decide)]; exact h291
  -- the reference begins
  generalize hR1 : up (up (up (up (up (up R 0 35 0) 45 0 0) 46 0 0) 47 0 (S 0 33)) 48 0 (-1)) 49 0 0 = R1
  have r1 : ∀ j, j ≠ 0 → ¬ (45 ≤ j ∧ j ≤ 49) → R1 j = R j := fun j a b => by rw [← hR1, up_ne _ _ _ (by omega), up_ne _ _ _ (by omega), up_ne _ _ _ (by omega), up_ne _ _ _ (by omega), up_ne _ _ _ (by omega), up_ne _ _ _ a]
  have r10 : R1 0 = up R 0 35 0 0 := by rw [← hR1, up_ne _ _ _ (by decide), up_ne _ _ _ (by decide), up_ne _ _ _ (by decide), up_ne _ _ _ (by decide), up_ne _ _ _ (by decide)]
  have f1 : FgR R R1 := ⟨fun j a b c => r1 j a c, fun i a b c => by rw [r10]; simp [up, a]⟩
  have e35 : R1 0 35 = 0 := by rw [r10, up_at]
  have hRS : RSw R1 [(0, 0, S 0 33, -1, 0)] := by
    have := RSw.push (M := up R 0 35 0) (l := []) (fun i hi => absurd hi (Nat.not_lt_zero _)) (0, 0, S 0 33, -1, 0)
    simp only [List.length_nil, List.nil_append] at this
    rw [hR1] at this
    exact this
  have hbi : BI S (C 275) (C 275 (wix 0 0 (S 0 33)) % 100000) C2 R1 0 [(0, 0, S 0 33, -1, 0)] := by
    refine ⟨⟨w2, hRS⟩, ⟨e291, e35⟩, fun x hx => ?_, List.pairwise_singleton _ _, ⟨?_, h30⟩, fun m hm => absurd hm (Nat.not_lt_zero _), fun m c hm => absurd hm (Nat.not_lt_zero _), fun m m0 hm => absurd hm (Nat.not_lt_zero _), fun m q c m0 hm => absurd hm (Nat.not_lt_zero _)⟩
    · have := List.mem_singleton.mp hx
      subst this
      exact ⟨show (0 : Int) ≤ 0 ∧ (0 : Int) < 4 by decide, show (0 : Int) ≤ 0 ∧ 0 ≤ S 0 33 ∧ S 0 33 ≤ S 0 33 from ⟨by decide, hl.1, Int.le_refl _⟩, hE, fun _ => ⟨rfl, rfl⟩, fun q => absurd rfl q⟩
    · show ((0 : Nat) : Int) + (C 275 (wix 0 0 (S 0 33)) % 100000 + 0) = C 275 (wix 0 0 (S 0 33)) % 100000
      omega
  have hhd0 : Hd S R1 0 [(0, 0, S 0 33, -1, 0)] := ⟨fun x hx => by
    have := List.mem_singleton.mp hx
    subst this
    exact ⟨fun _ => rfl, fun q => by have q : (0 : Int) ≤ -1 := q; omega⟩, fun m hm => absurd hm (Nat.not_lt_zero _)⟩
  have hW0 : WrA S (sr R 0 (se (R 0) 35 0)) R1 0 := ⟨fun j hj m _ => by rw [r1 j (by omega) (by omega), sr_ne _ _ (by omega)], fun i => Or.inl (by rw [r1 34 (by decide) (by decide), sr_ne _ _ (by decide)])⟩
  have hG1 : Gr R1 S := hG.fg f1
  have e43 : R1 43 = R 43 := r1 43 (by decide) (by decide)
  have e44 : R1 44 = R 44 := r1 44 (by decide) (by decide)
  have hb1 : Jb R1 := by unfold Jb at hb ⊢; rw [e43, e44]; exact hb
  have ev : vW S R1 = vW S R := by
    funext c e d
    unfold vW rC rN
    rw [e43, e44]
  have hbase : WrA S R1 R1 0 := ⟨fun _ _ _ _ => rfl, fun i => Or.inl rfl⟩
  obtain ⟨C', R', b1, b2, b3, b4, b5, b6, b7⟩ := build_loop24 hg hl hM hS hG1 hb1 (by rw [ev]; exact hR) (J1 := fun M4 => some (0, M4)) (J2 := fun M8 => some (0, M8)) _ 0 _ C2 R1 FU FU rfl (FU_lt (by omega)) (FU_lt (by omega)) f2 (FgR.refl R1) hbase hbi hhd0
  obtain ⟨-, ⟨x3, x4⟩, -, -, ⟨x5, x6⟩, x7, x8, x9, x10⟩ := b6
  have hnw : 1 ≤ C 275 (wix 0 0 (S 0 33)) % 100000 := hnd1
  have htot : ((C 275 (wix 0 0 (S 0 33)) % 100000).toNat : Int) = C 275 (wix 0 0 (S 0 33)) % 100000 := by omega
  have hG' : Gr R' S := hG1.fg b4
  have hnil : ∀ m c, ¬ Pnd [] m c := fun m c ⟨y, y1, _⟩ => (by cases y1)
  refine ⟨C', R', ?_, ?_, b3, f1.trans b4, ⟨by rw [x3, x4], fun n hn => ?_⟩, by rw [x4]; omega, fun n hn => ?_, fun n q c hn hn0 hq hc hle => ?_, ?_, fun n hn => b7.2 n (by rw [x4] at hn; omega)⟩
  · unfold f_X9_grow
    simp only [LtE]
    rw [hC1, c1i 0 (by decide), hT.1, w1, ClS]
    exact b1
  · unfold f_X12_makes
    simp only [LtE]
    have g0 : (0 : Nat) ≤ 0 ∧ (0 : Nat) < 64 := by decide
    have e33 : up (up (up R 0 35 0) 45 0 0) 46 0 0 0 33 = S 0 33 := by
      rw [up_ne _ _ _ (by decide), up_ne _ _ _ (by decide)]
      have : up R 0 35 0 0 33 = R 0 33 := by simp [up]
      rw [this]
      exact hG.2.2.2.2.2.2.2.2
    simp only [gdE g0]
    rw [e33]
    have hz : (0 : Int).toNat = 0 := rfl
    rw [hR1]
    exact b2
  · rw [x4] at hn
    have hb8 := x7 n (by omega)
    obtain ⟨o1, o2, o3, o4, o5, o6⟩ := hb8
    refine ⟨o6.1, o6.2.1, o6.2.2.1, by rw [o2]; exact o6.2.2.2.1, o6.2.2.2.2, fun c hc => ?_⟩
    have hb9 := x8 n c (by omega) hc
    rw [hG'.2.2.2.1]
    by_cases q : (c : Int) < S 4 (R' 30 n).toNat
    · rw [if_pos q]
      exact ((hb9.1 q).1 (hnil n c)).1
    · rw [if_neg q]
      exact hb9.2 q
  · rw [x4] at hn
    obtain ⟨o1, o2, o3, o4, o5, o6⟩ := x7 n (by omega)
    refine ⟨⟨by rw [hG'.2.2.2.2.2.2.2.1]; exact o1, by rw [hG'.2.2.2.2.2.2.2.1, o2]; exact o1, by rw [o2], by rw [o2], o3, o4, fun q => ?_, fun c hc => ?_⟩, o2⟩
    · rw [hG'.2.2.2.1]
      exact o5 q
    · rw [hG'.2.2.2.1] at hc
      have h4 := (hg.2.2.2.1 _ o1.1 o1.2).2
      have hb9 := x8 n c (by omega) (by omega)
      obtain ⟨y1, y2, y3, y4, y5⟩ := (hb9.1 hc).1 (hnil n c)
      have e3 : (3 * n + c : Nat) = 3 * n + c := rfl
      refine ⟨y2, ?_, y4, y5⟩
      rw [x4]
      exact y3
  · rw [x4] at hn
    rw [hG'.2.2.2.1] at hc
    have hqn := (x7 q (by omega)).1
    have h4 := (hg.2.2.2.1 _ hqn.1 hqn.2).2
    exact x10 n q c hn0 (by omega) hq (by omega) hc (Or.inr hle)
  · rw [x4]
    refine ⟨fun j hj m hm => ?_, fun i => ?_⟩
    · rw [b5.1 j hj m (by omega), hW0.1 j hj m (Nat.zero_le _)]
    · rcases b5.2 i with q | ⟨m, c, q1, q2⟩
      · rcases hW0.2 i with z | ⟨m, c, z1, -⟩
        · exact Or.inl (q.trans z)
        · exact absurd z1 (Nat.not_lt_zero _)
      · exact Or.inr ⟨m, c, by omega, q2⟩
theorem both_parse24 {C R : Mm} (hg : Okg R) (ht : Okt R) (h35 : 0 ≤ R 0 35 ∧ R 0 35 ≤ 30) (hM : CG C R) (hT : CT C R) :
    ∃ C' R', f_X9_readInto 291 C = some (0, C') ∧ f_X12_reads R = Cl (f_X12_keepsNodes R') (fun v21 M20 => some (v21, M20)) ∧ FpC C C' ∧ FpR R R' ∧ Psd R C' R' ∧ (∀ n : Nat, (n : Int) < R' 0 35 → HdN R R' n) ∧ (R' 0 35 ≠ 0 → 0 ≤ R' 0 36) := by
  have hl := ht.1
  have h10 := hg.1
  -- the class measures
  generalize hC1 : up (up C 291 0 0) 291 1 0 = C1
  have c1 : ∀ j, j ≠ 291 → C1 j = C j := fun j hj => by rw [← hC1, up_ne _ _ _ hj, up_ne _ _ _ hj]
  obtain ⟨C2, w1, w2, w3⟩ := c9_measure hg hl (hM.of fun j j1 j2 => c1 j (by omega)) (hT.of rfl rfl fun j j1 j2 => c1 j (by omega))
  have hM2 : CG C2 R := hM.of fun j j1 j2 => by rw [w2.1 j (by omega) (by omega) (by omega), c1 j (by omega)]
  have hT2 : CT C2 R := ⟨by rw [w2.2 0 (by decide), c1 273 (by decide)]; exact hT.1, fun k hk => by rw [w2.1 274 (by decide) (by decide) (by decide), c1 274 (by decide)]; exact hT.2 k hk⟩
  have hS2 : Stl R C2 := w3
  have hSol := hS2.sol hg hl
  have e291 : C2 291 0 = 0 := by rw [w2.1 291 (by decide) (by decide) (by decide), ← hC1]; simp [up]
  have fC2 : FpC C C2 ∨ True := Or.inr trivial
  have c2 : ∀ j, j ≠ 273 → ¬ (275 ≤ j ∧ j ≤ 282) → ¬ (291 ≤ j ∧ j ≤ 297) → C2 j = C j := fun j a b c => by rw [w2.1 j a (by omega) (by omega), c1 j (by omega)]
  have c2i : ∀ i, i ≠ 5 → i ≠ 6 → C2 273 i = C 273 i := fun i a b => by rw [w2.2 i a, c1 273 (by decide)]
  -- the reference keeps the old tree by, and finds the best trees
  generalize hR1 : up R 0 44 (R 0 35) = R1
  have r1 : ∀ j, j ≠ 0 → R1 j = R j := fun j hj => by rw [← hR1, up_ne _ _ _ hj]
  have r10 : ∀ i, i ≠ 44 → R1 0 i = R 0 i := fun i hi => by rw [← hR1]; simp [up, hi]
  have hG1 : Gr R1 R := (Gr.refl R).of (fun j hj => r1 j (by omega)) (r10 0 (by decide)) (r10 33 (by decide))
  have key : ∀ R2, Fo R1 R2 → ∃ R3, f_X12_findsBest R2 = some (0, R3) ∧ Fb R2 R3 ∧ Jb R3 ∧ Sol R 10000 999990000 (vW R R3) := fun R2 h2 => r_findsBest hg hl (hG1.of (fun j hj => h2 j (by omega)) (by rw [h2 0 (by decide)]) (by rw [h2 0 (by decide)]))
  obtain ⟨R2, o1, o2, o3⟩ := r_old (M := R1) (J := fun M3 => Cl (f_X12_findsBest M3) fun _ M5 => Lt (M5 0 33) fun v6 => Cl (f_X12_stretch 0 0 v6 M5) fun v8 M7 => gd (0 ≤ v8 ∧ v8 < 676) <| Lt (M7 43 v8.toNat) fun v9 => Lt (fun (v10 : Int) (M11 : Mm) => Lt (up M11 0 35 0) fun M13 => Lt (fun (v14 : Int) (M15 : Mm) => Lt (up M15 0 36 v14) fun M17 => Lt (fun (M18 : Mm) => Cl (f_X12_keepsNodes M18) fun v21 M20 => some (v21, M20)) fun J179_19 => if v10 = 0 then (J179_19 M17) else (Cl (f_X12_makes M17) fun _ M23 => J179_19 M23)) fun J168_16 => if v10 = 0 then (J168_16 ((-1)) M13) else (gd (0 ≤ v8 ∧ v8 < 676) <| Lt (M13 43 v8.toNat) fun v25 => J168_16 v25 M13)) fun J147_12 => Lt (fun (M26 : Mm) => J147_12 0 M26) fun J146_27 => if 99999 ≤ v9 then (J146_27 M7) else (gd (0 ≤ v8 ∧ v8 < 676) <| Lt (M7 44 v8.toNat) fun v29 => if 30 < v29 then (J146_27 M7) else (J147_12 1 M7))) (by rw [r10 35 (by decide)]; exact h35)
  obtain ⟨R3, q1, q2, q3, q4⟩ := key R2 o2
  have hG3 : Gr R3 R := (hG1.of (fun j hj => o2 j (by omega)) (by rw [o2 0 (by decide)]) (by rw [o2 0 (by decide)])).fb q2
  have hv0 := both_weigh hg hl hSol q4 (c := 0) (f := 0) (t := R 0 33) (by decide) (by decide) (by decide) hl.1 (Int.le_refl _)
  have hvb := vW_bd (S := R) q3 (A := 0) (f := 0) (t := R 0 33) ⟨by decide, by decide⟩ (by decide) hl.1 hl.2
  have hjb := q3 (wix 0 0 (R 0 33)) (wix_676 ⟨by decide, by decide⟩ ⟨by decide, by decide⟩ ⟨hl.1, hl.2⟩)
  have hwp : 0 ≤ C2 275 (wix 0 0 (R 0 33)) := (hS2.1 _ (wix_lt (a := 0) (f := 0) (t := R 0 33) (by decide) (by decide) ⟨hl.1, hl.2⟩).1).1
  have hw : wOf (C2 275) 0 0 (R 0 33) = C2 275 (wix 0 0 (R 0 33)) := rfl
  -- a tree there is on both sides, or on none
  have hhas : (R3 43 (wix 0 0 (R 0 33)) < 99999 ∧ R3 44 (wix 0 0 (R 0 33)) ≤ 30 ↔ C2 275 (wix 0 0 (R 0 33)) < 500000000 ∧ C2 275 (wix 0 0 (R 0 33)) % 100000 ≤ 30) ∧ (C2 275 (wix 0 0 (R 0 33)) < 500000000 → R3 43 (wix 0 0 (R 0 33)) = C2 275 (wix 0 0 (R 0 33)) / 100000 ∧ R3 44 (wix 0 0 (R 0 33)) = C2 275 (wix 0 0 (R 0 33)) % 100000) := by
    by_cases c : C2 275 (wix 0 0 (R 0 33)) < 500000000
    · obtain ⟨cc, n, ⟨k1, k2, k3⟩, k4⟩ := hSol.nod2 hg (by decide) hl.2 (A := 0) (f := 0) (t := R 0 33) (by decide) (by decide) (by decide) hl.1 (Int.le_refl _) (by rw [hw]; exact c)
      rw [hw] at k1
      have hc : cnv (wOf (C2 275)) 0 0 (R 0 33) = 10000 * (C2 275 (wix 0 0 (R 0 33)) / 100000) + C2 275 (wix 0 0 (R 0 33)) % 100000 := by
        unfold cnv
        rw [hw, if_pos c]
      rw [hc] at hv0
      have e := hvb.1
      generalize R3 43 (wix 0 0 (R 0 33)) = x at *
      generalize R3 44 (wix 0 0 (R 0 33)) = y at *
      generalize C2 275 (wix 0 0 (R 0 33)) = w at *
      refine ⟨⟨fun q => ⟨c, by omega⟩, fun q => by omega⟩, fun _ => by omega⟩
    · have hc : cnv (wOf (C2 275)) 0 0 (R 0 33) = 999990000 := by
        unfold cnv
        rw [hw, if_neg c]
      rw [hc] at hv0
      have := hvb.2.2.2.mp hv0
      exact ⟨⟨fun q => by omega, fun q => absurd q.1 c⟩, fun q => absurd q c⟩
  -- the two roads
  have hwo : f_X9_weightOf 0 0 (R 0 33) C2 = some (C2 275 (wix 0 0 (R 0 33)), C2) := c9_weightOf ⟨by decide, by decide⟩ ⟨by decide, by decide⟩ ⟨hl.1, hl.2⟩ C2
  have hcl : ∀ x, f_X9_readInto 291 C = x ↔ (if 500000000 ≤ C2 275 (wix 0 0 (R 0 33)) then some (0, C2) else if 30 < jrem (C2 275 (wix 0 0 (R 0 33))) 100000 then some (0, C2) else Cl (f_X9_grow 291 C2) fun _ M11 => some (0, up M11 291 1 (wr (Int.tdiv (C2 275 (wix 0 0 (R 0 33))) 100000)))) = x := by
    intro x
    unfold f_X9_readInto f_X8_clear
    simp only [LtE]
    rw [hC1, ClS, w1, ClS, hT2.1, hwo, ClS]
  have hst : f_X12_stretch 0 0 (R 0 33) R3 = some (R 0 33, R3) := by
    rw [r_stretch ⟨by decide, by decide⟩ ⟨by decide, by decide⟩ ⟨hl.1, hl.2⟩]
    refine congrArg some (Prod.ext (by simp only; omega) rfl)
  have hwx : (R 0 33).toNat = wix 0 0 (R 0 33) := by unfold wix; omega
  have hgd : 0 ≤ R 0 33 ∧ R 0 33 < 676 := by omega
  have hrl : ∀ x, f_X12_reads R = x ↔ (if 99999 ≤ R3 43 (wix 0 0 (R 0 33)) ∨ 30 < R3 44 (wix 0 0 (R 0 33)) then Cl (f_X12_keepsNodes (up (up R3 0 35 0) 0 36 (-1))) (fun v21 M20 => some (v21, M20)) else Cl (f_X12_makes (up (up R3 0 35 0) 0 36 (R3 43 (wix 0 0 (R 0 33))))) fun _ M23 => Cl (f_X12_keepsNodes M23) fun v21 M20 => some (v21, M20)) = x := by
    intro x
    unfold f_X12_reads
    simp only [LtE] at o1 ⊢
    rw [hR1, o1, q1, ClS, hG3.2.2.2.2.2.2.2.2, hst, ClS, gdE hgd, gdE hgd, hwx]
    by_cases c1 : 99999 ≤ R3 43 (wix 0 0 (R 0 33))
    · rw [if_pos c1, if_pos (Or.inl c1), if_pos trivial, if_pos trivial]
    · rw [if_neg c1]
      by_cases c2 : 30 < R3 44 (wix 0 0 (R 0 33))
      · rw [if_pos c2, if_pos (Or.inr c2), gdE hgd, if_pos trivial, if_pos trivial]
      · rw [if_neg c2, if_neg (c := 99999 ≤ R3 43 (wix 0 0 (R 0 33)) ∨ _) (fun q => q.elim c1 c2), if_neg (by decide), gdE hgd, if_neg (by decide), up_ne _ _ _ (by decide), gdE hgd]
  have r3 : ∀ j, j ≠ 0 → ¬ (37 ≤ j ∧ j ≤ 41) → j ≠ 43 → j ≠ 44 → R3 j = R j := fun j a b c d => by rw [q2 j c d, o2 j b, r1 j a]
  have r30 : R3 0 = R1 0 := by rw [q2 0 (by decide) (by decide), o2 0 (by decide)]
  have hold : ∀ R' : Mm, (∀ j, 37 ≤ j → j ≤ 41 → R' j = R3 j) → Old R R' := fun R' h m hm => by
    have e37 : ∀ j, 37 ≤ j → j ≤ 41 → R' j = R2 j := fun j a b => by rw [h j a b, q2 j (by omega) (by omega)]
    have := o3 m (by rw [r10 35 (by decide)]; exact hm)
    rw [e37 37 (by decide) (by decide), e37 38 (by decide) (by decide), e37 40 (by decide) (by decide), e37 41 (by decide) (by decide), e37 39 (by decide) (by decide)]
    rw [r1 30 (by decide), r1 31 (by decide), r1 35 (by decide), r1 36 (by decide), r1 34 (by decide)] at this
    exact this
  by_cases hc : C2 275 (wix 0 0 (R 0 33)) < 500000000 ∧ C2 275 (wix 0 0 (R 0 33)) % 100000 ≤ 30
  case neg =>
    generalize hR' : up (up R3 0 35 0) 0 36 (-1) = R'
    have e : ∀ j, j ≠ 0 → R' j = R3 j := fun j hj => by rw [← hR', up_ne _ _ _ hj, up_ne _ _ _ hj]
    have e0 : ∀ i, i ≠ 35 → i ≠ 36 → R' 0 i = R1 0 i := fun i a b => by rw [← hR', ← r30]; simp [up, a, b]
    have e35 : R' 0 35 = 0 := by rw [← hR']; simp [up]
    have e36 : R' 0 36 = -1 := by rw [← hR']; simp [up]
    refine ⟨C2, R', ?_, ?_, ⟨c2, c2i⟩, ⟨fun j a b c d => by rw [e j a, r3 j a c (by omega) (by omega)], fun i a b c d f => by rw [e0 i a b, r10 i c]⟩, ⟨⟨by rw [e291, e35], fun n hn => absurd hn (by omega)⟩, by rw [e35]; exact ⟨by decide, by decide⟩, fun n hn => absurd hn (by omega), fun n q c hn => absurd hn (by omega), fun _ => e36, fun q => absurd e35 q, ?_, hold R' fun j a b => e j (by omega), ?_⟩, fun n hn => absurd hn (by omega), fun q => absurd e35 q⟩
    · rw [hcl]
      by_cases c5 : 500000000 ≤ C2 275 (wix 0 0 (R 0 33))
      · rw [if_pos c5]
      · rw [if_neg c5]
        have hjr : jrem (C2 275 (wix 0 0 (R 0 33))) 100000 = C2 275 (wix 0 0 (R 0 33)) % 100000 := by
          have e : Int.tdiv (C2 275 (wix 0 0 (R 0 33))) 100000 = C2 275 (wix 0 0 (R 0 33)) / 100000 := Int.tdiv_eq_ediv_of_nonneg hwp
          unfold jrem
          rw [e, wrE (v := C2 275 (wix 0 0 (R 0 33)) / 100000) (by omega) (by omega), wrE (v := C2 275 (wix 0 0 (R 0 33)) / 100000 * 100000) (by omega) (by omega), wrE (by omega) (by omega)]
          omega
        rw [hjr, if_pos (by omega)]
    · rw [hrl, if_pos (by
        have := hhas.1
        by_cases q : 99999 ≤ R3 43 (wix 0 0 (R 0 33))
        · exact Or.inl q
        · refine Or.inr ?_
          by_cases q2 : R3 44 (wix 0 0 (R 0 33)) ≤ 30
          · exact absurd (this.mp ⟨by omega, q2⟩) hc
          · omega), hR']
    · rw [e0 44 (by decide) (by decide), ← hR1, up_at]
    · rw [e35]
      exact ⟨fun j hj m _ => by rw [e j (by omega), r3 j (by omega) (by omega) (by omega) (by omega)], fun i => Or.inl (by rw [e 34 (by decide), r3 34 (by decide) (by decide) (by decide) (by decide)])⟩
  case pos =>
    have hcost := hhas.2 hc.1
    have hb := hhas.1.mpr hc
    generalize hR4 : up (up R3 0 35 0) 0 36 (R3 43 (wix 0 0 (R 0 33))) = R4
    have e : ∀ j, j ≠ 0 → R4 j = R3 j := fun j hj => by rw [← hR4, up_ne _ _ _ hj, up_ne _ _ _ hj]
    have e0 : ∀ i, i ≠ 35 → i ≠ 36 → R4 0 i = R1 0 i := fun i a b => by rw [← hR4, ← r30]; simp [up, a, b]
    have e36 : R4 0 36 = R3 43 (wix 0 0 (R 0 33)) := by rw [← hR4]; simp [up]
    have hG4 : Gr R4 R := hG3.of (fun j hj => e j (by omega)) (by rw [e0 0 (by decide) (by decide), r30]) (by rw [e0 33 (by decide) (by decide), r30])
    have e43 : R4 43 = R3 43 := e 43 (by decide)
    have e44 : R4 44 = R3 44 := e 44 (by decide)
    have hb4 : Jb R4 := by unfold Jb at q3 ⊢; rw [e43, e44]; exact q3
    have ev : vW R R4 = vW R R3 := by
      funext c e d
      unfold vW rC rN
      rw [e43, e44]
    obtain ⟨C3, R5, g1, g2, g3, g4, g5, g6, g7, g7', g8, g9⟩ := both_build24 hg hl hM2 hT2 hS2 hG4 hb4 (by rw [ev]; exact q4) e291 hc.1 hc.2
    have hjr : jrem (C2 275 (wix 0 0 (R 0 33))) 100000 = C2 275 (wix 0 0 (R 0 33)) % 100000 ∧ wr (Int.tdiv (C2 275 (wix 0 0 (R 0 33))) 100000) = C2 275 (wix 0 0 (R 0 33)) / 100000 := by
      have e : Int.tdiv (C2 275 (wix 0 0 (R 0 33))) 100000 = C2 275 (wix 0 0 (R 0 33)) / 100000 := Int.tdiv_eq_ediv_of_nonneg hwp
      unfold jrem
      rw [e, wrE (v := C2 275 (wix 0 0 (R 0 33)) / 100000) (by omega) (by omega), wrE (v := C2 275 (wix 0 0 (R 0 33)) / 100000 * 100000) (by omega) (by omega), wrE (by omega) (by omega)]
      omega
    generalize hC4 : up C3 291 1 (C2 275 (wix 0 0 (R 0 33)) / 100000) = C4
    have c4 : ∀ j, j ≠ 291 → C4 j = C3 j := fun j hj => by rw [← hC4, up_ne _ _ _ hj]
    have c41 : C4 291 0 = C3 291 0 ∧ C4 291 1 = C2 275 (wix 0 0 (R 0 33)) / 100000 := by rw [← hC4]; simp [up]
    have e536 : R5 0 36 = R3 43 (wix 0 0 (R 0 33)) := by rw [g4.2 36 (by decide) (by decide) (by decide), e36]
    refine ⟨C4, R5, ?_, ?_, ⟨fun j a b c => ?_, fun i a b => ?_⟩, ⟨fun j a b c d => ?_, fun i a b c d f => ?_⟩, ⟨⟨by rw [c41.1]; exact g5.1, fun n hn => ?_⟩, ⟨by omega, g6.2⟩, g7, g7', fun q => absurd q (by omega), fun _ => by rw [c41.2, e536, hcost.1], ?_, hold R5 fun j a b => ?_, ⟨fun j hj m hm => ?_, fun i => ?_⟩⟩, g9, fun _ => by rw [e536, hcost.1]; omega⟩
    · rw [hcl, if_neg (by omega), hjr.1, hjr.2, if_neg (by omega), g1, ClS, hC4]
    · rw [hrl, if_neg (by omega), hR4, g2, ClS]
    · rw [c4 j (by omega), g3.1 j a (by omega) c, c2 j a b c]
    · rw [c4 273 (by decide), g3.2.1 i a b, c2i i a b]
    · rw [g4.1 j a b (by omega), e j a, r3 j a c (by omega) (by omega)]
    · rw [g4.2 i a d f, e0 i a b, r10 i c]
    · have := g5.2 n hn
      rw [c4 292 (by decide), c4 293 (by decide), c4 294 (by decide), c4 295 (by decide), c4 296 (by decide), c4 297 (by decide)]
      exact this
    · rw [g4.2 44 (by decide) (by decide) (by decide), e0 44 (by decide) (by decide), ← hR1, up_at]
    · rw [g4.1 j (by omega) (by omega) (by omega), e j (by omega)]
    · rw [g8.1 j hj m hm, sr_ne _ _ (by omega), e j (by omega), r3 j (by omega) (by omega) (by omega) (by omega)]
    · rcases g8.2 i with z | z
      · left
        rw [z, sr_ne _ _ (by decide), e 34 (by decide), r3 34 (by decide) (by decide) (by decide) (by decide)]
      · exact Or.inr z
