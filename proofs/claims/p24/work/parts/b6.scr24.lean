/-! states that agree in what counts -/
theorem AgQ.refl (S : Mm) : AgQ S S := ⟨fun _ _ _ _ => rfl, fun _ _ => rfl⟩
theorem AgQ.trans {A B C : Mm} (h : AgQ A B) (h' : AgQ B C) : AgQ A C := ⟨fun j j1 j2 j3 => (h'.1 j j1 j2 j3).trans (h.1 j j1 j2 j3), fun i hi => (h'.2 i hi).trans (h.2 i hi)⟩
theorem KL_q {S S' : Mm} (h : AgQ S S') (rg : Nat → Int) : ∀ i, KL S' rg i = KL S rg i := by
  have e12 : S' 12 = S 12 := h.1 12 (by decide) (by decide) (by decide)
  intro i
  induction i with
  | zero => funext s; simp only [KL]; rw [e12]
  | succ i ih => funext s; simp only [KL]; rw [e12, ih, (q_spc h _ _ _).1]
theorem Dt_q {S S' : Mm} (h : AgQ S S') (rg : Nat → Int) : Dt S' rg = Dt S rg := by
  funext s v
  unfold Dt
  simp only [KL_q h]
theorem Vs_q {S S' : Mm} (h : AgQ S S') (rg : Nat → Int) : Vs S' rg = Vs S rg := by
  funext s
  by_cases hd : ∃ v, Dt S rg s v
  · obtain ⟨v, hv⟩ := hd
    rw [Vs_of hv, Vs_of (by rw [Dt_q h]; exact hv)]
  · rw [Vs_not hd, Vs_not (by rw [Dt_q h]; exact hd)]
theorem Rd_q {S S' : Mm} (h : AgQ S S') (rg : Nat → Int) : Rd S' rg = Rd S rg := by
  funext s
  have e : Lst_ S' rg = Lst_ S rg := by funext x; unfold Lst_; rw [Vs_q h]
  unfold Rd
  rw [e, (q_spc h _ _ _).1]
theorem KpO_q {S S' : Mm} (h : AgQ S S') {rg : Nat → Int} {op : List Int} {bv bh : Nat → Int} (hk : KpO S rg op bv bh) : KpO S' rg op bv bh := by
  have e12 : S' 12 = S 12 := h.1 12 (by decide) (by decide) (by decide)
  unfold KpO HgO at hk ⊢
  rw [e12, Vs_q h, Rd_q h]
  intro s hs hne
  have := hk s hs hne
  rw [(q_spc h (Lst_ S rg) _ _).2]
  exact this
theorem RG_q {RG : Mm → Nat → Int} (hRG : RGok RG) {S S' : Mm} (h : AgQ S S') : RG S' = RG S := hRG S S' h.1 h.2
theorem AgQ.of49 {S S' : Mm} (h1 : ∀ j, 1 ≤ j → j ≤ 49 → S' j = S j) (h2 : ∀ i, i = 0 ∨ i = 12 ∨ i = 19 ∨ i = 35 ∨ i = 87 ∨ i = 79 → S' 0 i = S 0 i) : AgQ S S' := ⟨fun j j1 j2 _ => h1 j j1 (by omega), fun i hi => h2 i (by omega)⟩
/-! the list of slots at which is looked -/
theorem enl_mem {l : List Int} {s x : Int} : x ∈ enl l s ↔ x ∈ l ∨ x = s := by
  unfold enl
  by_cases c : s ∈ l
  · rw [if_pos c]
    exact ⟨Or.inl, fun h => h.elim id fun e => by rw [e]; exact c⟩
  · rw [if_neg c, List.mem_append, List.mem_singleton]
theorem dd_mem' : ∀ (t : List Nat) (l : List Int) (x : Int), x ∈ t.foldl (fun l (s : Nat) => enl l s) l ↔ x ∈ l ∨ ∃ s ∈ t, x = (s : Int) := by
  intro t
  induction t with
  | nil => intro l x; simp
  | cons s t ih =>
    intro l x
    rw [List.foldl_cons, ih, enl_mem]
    constructor
    · rintro ((h | h) | ⟨y, h1, h2⟩)
      · exact Or.inl h
      · exact Or.inr ⟨s, List.mem_cons_self .., h⟩
      · exact Or.inr ⟨y, List.mem_cons_of_mem _ h1, h2⟩
    · rintro (h | ⟨y, h1, h2⟩)
      · exact Or.inl (Or.inl h)
      · rcases List.mem_cons.mp h1 with q | q
        · rw [q] at h2; exact Or.inl (Or.inr h2)
        · exact Or.inr ⟨y, q, h2⟩
theorem dd_mem {t : List Nat} {x : Int} : x ∈ dd t ↔ ∃ s ∈ t, x = (s : Int) := by
  unfold dd
  rw [dd_mem']
  simp
def LfV (S : Mm) (lf : List Int) : Prop := ∀ x ∈ lf, 0 ≤ x ∧ SlV S x.toNat
theorem LfV_dd {S : Mm} {t : List Nat} (h : ∀ x ∈ t, SlV S x) : LfV S (dd t) := fun x hx => by
  obtain ⟨s, h1, h2⟩ := dd_mem.mp hx
  rw [h2, Int.toNat_natCast]
  exact ⟨by omega, h s h1⟩
theorem LfV.crs_ {S : Mm} (hg : Okg S) (hO : Oke S) (hN : Okn S) {rg : Nat → Int} {s : Int} {rest : List Int} {bv bh : Nat → Int} {lf : List Int} {kk : Nat} (hOp : OpV S (s :: rest)) (hbd : BdO S rg bv bh) (h : LfV S lf) : LfV S (crs S rg (s :: rest, bv, bh, lf, kk)).2.2.2.1 := by
  have h12 := hg.2.1
  have h35 := hN.1
  have hs := hOp.2 s (List.mem_cons_self ..)
  have hL : LbB S (Lk S rg bv bh (s :: rest)) := fun x v _ hv => by
    unfold fv at hv
    cases hl : Lk S rg bv bh (s :: rest) x with
    | none => rw [hl] at hv; cases hv
    | some z =>
      rw [hl] at hv
      have e : z.1 = v := Option.some.inj hv
      rw [← e]
      exact Lk_bd h35.1 hbd x z.1 z.2 hl
  have hb := spc_bd hg hO hN hL (n := s / 6) (a := s % 6) ⟨by omega, hs.2.1⟩ ⟨by omega, hs.2.2⟩
  cases ho : (spc S (Lk S rg bv bh (s :: rest)) (s / 6) (s % 6)).2 with
  | none =>
    have e : spc S (Lk S rg bv bh (s :: rest)) (s / 6) (s % 6) = ((spc S (Lk S rg bv bh (s :: rest)) (s / 6) (s % 6)).1, none) := Prod.ext rfl ho
    rw [crs_none e]; exact h
  | some v =>
    have e : spc S (Lk S rg bv bh (s :: rest)) (s / 6) (s % 6) = ((spc S (Lk S rg bv bh (s :: rest)) (s / 6) (s % 6)).1, some v) := Prod.ext rfl ho
    rw [crs_some e]
    show LfV S (if rest = [] then _ else lf)
    by_cases c : rest = []
    · rw [if_pos c]; exact LfV_dd hb.1
    · rw [if_neg c]; exact h
theorem scr24 {RG : Mm → Nat → Int} {M3 N3 M4 N4 : Mm} {k : Nat} (hI : Inv RG M3 N3 k) (hr : RgI RG M3 N3) {n a : Int} (hn : 0 ≤ n ∧ n < N3 0 35) (ha : 0 ≤ a ∧ a < N3 0 12)
    (m4 : ∀ j, j ≠ 306 → j ≠ 310 → M4 j = M3 j) (m6 : ∀ s, s < 180 → M4 306 s = 0) (m11 : M4 310 11 ≠ 0 → M4 310 0 = 0)
    (n4 : ∀ j, j ≠ 0 → j ≠ 50 → N4 j = N3 j) (n5 : ∀ i, i < 360 → N4 50 i = N3 50 i) (n5' : ∀ i, 360 ≤ i → i < 720 → N4 50 i = 0) (n68 : N4 0 68 = 360) (n0 : ∀ i, i ≠ 68 → i ≠ 79 → i ≠ 80 → N4 0 i = N3 0 i) :
    ∃ v lf MC' MR', f_X2_find n a 304 M4 = some (v, MC') ∧ f_X12_finds n a N4 = some (pv N3 v, MR') ∧ (-3 ≤ v ∧ v < 1000 + N3 0 35) ∧ Sl lf ∧ (M4 310 11 ≠ 0 → Lst MC' lf) ∧ (N4 0 79 ≠ 0 → LsR MR' lf) ∧
      (∀ j, j ≤ 303 ∨ j = 309 ∨ j = 676 → MC' j = M3 j) ∧ MC' 310 11 = M4 310 11 ∧ (∀ s, s < 180 → MC' 313 s = 0) ∧
      (∀ j, (1 ≤ j ∧ j ≤ 49) ∨ j = 55 → MR' j = N3 j) ∧ (∀ j, 50 ≤ j ∧ j ≤ 54 → ∀ i, i < 360 → MR' j i = N3 j i) ∧ (∀ i, i < 720 → MR' 51 i = 0) ∧ MR' 0 67 = N3 0 67 ∧ (∀ i, i ≠ 67 → i ≠ 69 → i ≠ 72 → i ≠ 73 → i ≠ 74 → i ≠ 75 → i ≠ 76 → i ≠ 80 → MR' 0 i = N4 0 i) ∧ LfV N3 lf ∧ (N3 12 a.toNat ≠ 3 → v = Vs N3 (RG N3) (6 * n + a).toNat) ∧ lf = dd (Rd N3 (RG N3) (6 * n + a).toNat) := by
  obtain ⟨hp, hV, hR, hBk⟩ := id hI
  obtain ⟨⟨p1, p2, p3, p4, p5⟩, ⟨q1, q2, q3, q4, q5⟩, q6, q7, p6⟩ := id hp
  obtain ⟨g1, g2, g3⟩ := hr
  have hP := p6.pl
  have h35 := p5.1
  have h12 := p1.2.1
  have hSC : SC M4 N3 := SC.of (M := M3) ⟨⟨q1, q3, hV⟩, q5⟩ p3 fun j hj => m4 j (by omega) (by omega)
  have hRC : RestC N3 M3 304 (M3 309) (M4 305) (M4 306) M4 := ⟨hSC, fun j j1 j2 => m4 j (by omega) (by omega), m4 309 (by decide) (by decide), rfl, rfl, fun s hs => by rw [m4 313 (by decide) (by decide)]; exact q6.2 s hs⟩
  have hRR : RestR N3 360 (M3 309) (M4 305) (M4 306) N4 := by
    refine ⟨⟨fun j j1 j2 j3 => n4 j (by omega) (by omega), fun i hi => n0 i (by omega) (by omega) (by omega)⟩, n0 36 (by decide) (by decide) (by decide), n4 36 (by decide) (by decide), n68, ?_⟩
    intro m b b0 b1 b2 b3
    have hx := ixN_eq (S := N3) b0 ⟨b2, Int.lt_of_lt_of_le b3 h12.2⟩
    have hpm := (hP m.toNat (by omega)).1
    refine ⟨fun kb => ?_, ?_, fun _ => ⟨fun _ => n5' _ (by omega) (by omega), fun q => absurd (m6 _ (by omega)) q⟩⟩
    · rw [n4 55 (by decide) (by decide), g1 _ (by omega), ← hx.2.2]
      exact g3 _ (by omega) (by rw [hx.2.1]; omega) (by rw [hx.2.1]; exact kb)
    · rw [if_neg (fun q => (by cases q)), n4 51 (by decide) (by decide)]
      exact p6.2.2.1 _ (by omega)
  have hbd : BdO N3 (M3 309) (M4 305) (M4 306) := ⟨fun s hs => by rw [g1 s hs]; exact g2 s hs, fun s hs q => absurd (m6 s hs) q⟩
  have hbh : BdH N3 (M4 306) := fun s hs => by rw [m6 s hs]; exact HBt.zero N3
  have hq67 : N4 0 67 = N3 0 67 := n0 67 (by decide) (by decide) (by decide)
  have hI0 : N3 12 a.toNat ≠ 3 → ISem N3 (M3 309) (6 * n + a).toNat ([6 * n + a], M4 305, M4 306, [], 0) := fun k3 => by
    refine ⟨⟨fun y r' e => (by cases e), trivial⟩, fun y hy => ?_, fun s hs hne => absurd (m6 s hs) hne, fun _ => ?_, fun q => (by cases q)⟩
    · have : y = 6 * n + a := List.mem_singleton.mp hy
      rw [this, show (6 * n + a) % 6 = a by omega]; exact k3
    · show some (6 * n + a) = some (((6 * n + a).toNat : Nat) : Int)
      rw [Int.toNat_of_nonneg (by omega)]
  have hI1 : N3 12 a.toNat = 3 → ISemR N3 (M3 309) (6 * n + a).toNat ([6 * n + a], M4 305, M4 306, [], 0) := fun k3 => by
    refine ⟨fun _ => ⟨[], ?_, ⟨fun y r' e => (by cases e), trivial⟩, fun y hy => (by cases hy), fun s hs hne => absurd (m6 s hs) hne⟩, fun q => (by cases q)⟩
    show [6 * n + a] = [] ++ [(((6 * n + a).toNat : Nat) : Int)]
    rw [Int.toNat_of_nonneg (by omega)]; rfl
  obtain ⟨c', MC', MR', l1, l2, l3, l4, l5, l6, l7, l8, l9, l10, l11⟩ := find_both p1 p3 p5 q3 hP (B := 360) (Or.inr rfl) (bk := 304) (Or.inr rfl) (rg := M3 309) (I := fun c => LfV N3 c.2.2.2.1 ∧ (N3 12 a.toNat ≠ 3 → ISem N3 (M3 309) (6 * n + a).toNat c) ∧ (N3 12 a.toNat = 3 → ISemR N3 (M3 309) (6 * n + a).toNat c)) (fun s rest bv bh lf kk h1 h2 h3 h4 h5 h6 h7 => ⟨LfV.crs_ p1 p3 p5 h1 h2 h7.1, fun k3 => ISem.crs_ p3 p5 h1 h3 h4 h5 h6 (h7.2.1 k3), fun k3 => ISemR.crs_ p3 p5 (by rw [show (6 * n + a).toNat % 6 = a.toNat by omega]; exact k3) h1 h3 h4 h5 h6 (h7.2.2 k3)⟩) hn ha (m6 _ (by omega)) hbd hbh hRC m11 hRR ⟨fun x hx => (by cases hx), hI0, hI1⟩
  have lR := l4.rest l5
  obtain ⟨r1, r2, r3, r4, r5⟩ := lR
  have hbd' := l3.2.2.1
  have e11 : MC' 310 11 = M4 310 11 := l7.2.1 11 (by decide) (by decide) (by decide) (by decide)
  obtain ⟨l, z1, z2, -, z4⟩ := l3.2.2.2.2.2
  have z5 := z4 l5
  have hSl : SlV N3 (6 * n + a).toNat := SlV_of h12.2 hn ha
  have hb' : RgB (RG N3) := g2
  have hfin : LfV N3 l ∧ (N3 12 a.toNat ≠ 3 → c'.2.1 (6 * n + a).toNat = Vs N3 (RG N3) (6 * n + a).toNat) ∧ l = dd (Rd N3 (RG N3) (6 * n + a).toNat) := by
    rw [z5]
    refine ⟨l6.1, fun k3 => ?_, ?_⟩
    · obtain ⟨-, -, hKf, -, hdd⟩ := l6.2.1 k3
      have e1 := (hKf _ (by omega) l9).2.1
      rw [e1, Vs_rg p1 p3 p5 hb' g1 hSl]
    · by_cases k3 : N3 12 a.toNat = 3
      · rw [(l6.2.2 k3).2 l5, Rd_rg p1 p3 p5 hb' g1 hSl]
      · obtain ⟨-, -, hKf, -, hdd⟩ := l6.2.1 k3
        rw [hdd l5, Rd_rg p1 p3 p5 hb' g1 hSl]
  refine ⟨_, l, MC', MR', l1, l2, hbd'.2 _ (by omega) l9, z2, fun q => z1 (by rw [e11]; exact q), fun q => ?_, fun j hj => ?_, e11, (l3.rest l5).2.2.2.2.2, fun j hj => ?_, fun j hj i hi => ?_, fun i hi => ?_, ?_, l8.2.2, hfin.1, hfin.2⟩
  · rw [z5]
    refine l4.2.2.2.2.2.2.2 l5 ?_
    rw [l8.2.2 79 (by decide) (by decide) (by decide) (by decide) (by decide) (by decide) (by decide) (by decide)]; exact q
  · rw [l7.1 j (by omega) (by omega) (by omega) (by omega) (by omega) (by omega) (by omega), m4 j (by omega) (by omega)]
  · rw [l8.1 j (by omega) (by omega) (by omega), n4 j (by omega) (by omega)]
  · rw [l8.2.1 j hj i fun m b x1 x2 x3 x4 _ x6 => ?_]
    · by_cases c : j = 50
      · rw [c]; exact n5 i hi
      · rw [n4 j (by omega) c]
    · have hpm := (hP m.toNat (by omega)).1
      unfold ixR at x6
      omega
  · by_cases c : ∃ m b : Int, 0 ≤ m ∧ m < N3 0 35 ∧ 0 ≤ b ∧ b < N3 0 12 ∧ i = ixR N3 360 m b
    · obtain ⟨m, b, x1, x2, x3, x4, x5⟩ := c
      have := (r5 m b x1 x2 x3 x4).2.1
      rw [if_neg (fun q => (by cases q))] at this
      rw [x5]
      exact this
    · rw [l8.2.1 51 ⟨by decide, by decide⟩ i fun m b x1 x2 x3 x4 _ x5 => c ⟨m, b, x1, x2, x3, x4, x5⟩, n4 51 (by decide) (by decide)]
      exact p6.2.2.1 i hi
  · rw [(l11 (by rw [hq67]; exact q7.2)).2 (by decide), hq67]
