/-! both loops end, and meet -/
theorem cntm_drop {P Q : Nat → Bool} {k : Nat} (hp : P k = true) (hq : Q k = false) (he : ∀ j, j ≠ k → Q j = P j) : ∀ n, k < n → cntm P n = cntm Q n + 1 := by
  intro n
  induction n with
  | zero => intro h; omega
  | succ n ih =>
    intro h
    simp only [cntm]
    by_cases c : k = n
    · subst c
      have := (cntm_congr (P := P) (Q := Q) k fun j hj => (he j (by omega)).symm).1
      rw [this, hp, hq]; simp
    · have := ih (by omega)
      rw [this, he n (by omega)]; omega
def muC (c : Cfg) : Nat := 2 * cntm (fun s => decide (c.2.2.1 s = 0 ∧ (s : Int) ∉ c.1)) 180 + c.1.length
theorem top_none {S C : Mm} (hg : Okg S) (hO : Oke S) (hN : Okn S) (hE : CE C S) {bk : Nat} {rg : Nat → Int} {s : Int} {rest : List Int} {bv bh : Nat → Int} {lf : List Int} {kk : Nat} {M : Mm} (hR : RpC S C bk rg M (s :: rest, bv, bh, lf, kk)) (ho : (spc S (Lk S rg bv bh (s :: rest)) (s / 6) (s % 6)).2 = none) : ∃ (t : List Nat) (x : Nat), (spc S (Lk S rg bv bh (s :: rest)) (s / 6) (s % 6)).1 = t ++ [x] ∧ Lk S rg bv bh (s :: rest) x = none := by
  obtain ⟨hRB, hOp, hbd, hbh, hz, l, hl, hsl, hch, -⟩ := hR
  simp only at hRB hOp hbd hbh hz hch
  have hs := hOp.2 s (List.mem_cons_self ..)
  obtain ⟨⟨q0, N0, t0, i1, i2, i3, i4, -⟩, hrest⟩ := hch
  obtain ⟨NN, T, qe, n1, n2, n3⟩ := f_run hg hO hN hE (Lk_bd (S := S) (op := s :: rest) hN.1.1 hbd) (n := s / 6) (a := s % 6) ⟨by omega, hs.2.1⟩ ⟨by omega, hs.2.2⟩ i1
  rcases n3.2.2.2 with ⟨-, g2, -⟩ | ⟨-, -, -, g4, g5⟩
  · rw [g2] at ho; cases ho
  · exact ⟨T, _, by rw [g5], g4⟩
theorem crs_mu {S : Mm} (hN : Okn S) {rg : Nat → Int} {s : Int} {rest : List Int} {bv bh : Nat → Int} {lf : List Int} {kk : Nat} (hOp : OpV S (s :: rest)) (hbh : BdH S bh) (hx : OpV S (crs S rg (s :: rest, bv, bh, lf, kk)).1) (hz : ∀ y ∈ (crs S rg (s :: rest, bv, bh, lf, kk)).1, (crs S rg (s :: rest, bv, bh, lf, kk)).2.2.1 y.toNat = 0) : muC (crs S rg (s :: rest, bv, bh, lf, kk)) + 1 = muC (s :: rest, bv, bh, lf, kk) := by
  have h35 := hN.1
  have hs := hOp.2 s (List.mem_cons_self ..)
  have hno : s ∉ rest := (List.nodup_cons.mp hOp.1).1
  cases ho : (spc S (Lk S rg bv bh (s :: rest)) (s / 6) (s % 6)).2 with
  | none =>
    generalize hX : (spc S (Lk S rg bv bh (s :: rest)) (s / 6) (s % 6)).1.getLastD 0 = x
    have hcrs : crs S rg (s :: rest, bv, bh, lf, kk) = ((x : Int) :: s :: rest, bv, bh, lf, kk) := by
      unfold crs
      simp only [ho, hX]
      rfl
    rw [hcrs] at hx hz ⊢
    have hxn := (List.nodup_cons.mp hx.1).1
    have hxv := hx.2 x (List.mem_cons_self ..)
    have hz0 := hz x (List.mem_cons_self ..)
    simp only [Int.toNat_natCast] at hz0
    have := cntm_drop (P := fun j => decide (bh j = 0 ∧ (j : Int) ∉ s :: rest)) (Q := fun j => decide (bh j = 0 ∧ (j : Int) ∉ (x : Int) :: s :: rest)) (k := x) (decide_eq_true ⟨hz0, hxn⟩) (decide_eq_false fun q => q.2 (List.mem_cons_self ..)) (fun j hj => decide_eq_decide.mpr ⟨fun q => ⟨q.1, fun z => q.2 (List.mem_cons_of_mem _ z)⟩, fun q => ⟨q.1, fun z => by
      rcases List.mem_cons.mp z with z | z
      · omega
      · exact q.2 z⟩⟩) 180 (by omega)
    unfold muC
    simp only [List.length_cons]
    omega
  | some v =>
    generalize hX : hgs S (Lk S rg bv bh (s :: rest)) (s / 6) (s % 6) (spc S (Lk S rg bv bh (s :: rest)) (s / 6) (s % 6)).1 v = hh
    have hh0 : hh ≠ 0 := by
      rw [← hX]
      exact bt_ne (hgs_hb (S := S) hN (Lk_hb hbh (rg := rg) (bv := bv) (op := s :: rest)) (n := s / 6) (a := s % 6) ⟨by omega, hs.2.1⟩ _ v).2.1
    have hcrs : ∃ ll, crs S rg (s :: rest, bv, bh, lf, kk) = (rest, se bv s.toNat v, se bh s.toNat hh, ll, kk + 1) := ⟨_, by
      unfold crs
      simp only [ho, hX]
      rfl⟩
    obtain ⟨ll, hcrs⟩ := hcrs
    rw [hcrs]
    have := (cntm_congr (P := fun j => decide (bh j = 0 ∧ (j : Int) ∉ s :: rest)) (Q := fun j => decide (se bh s.toNat hh j = 0 ∧ (j : Int) ∉ rest)) 180 fun j _ => decide_eq_decide.mpr ⟨fun q => by
      have hj : j ≠ s.toNat := fun e => q.2 (by rw [e, Int.toNat_of_nonneg hs.1]; exact List.mem_cons_self ..)
      rw [se_ne _ _ hj]
      exact ⟨q.1, fun z => q.2 (List.mem_cons_of_mem _ z)⟩, fun q => by
      have hj : j ≠ s.toNat := fun e => by
        have q1 := q.1
        rw [e, se_at] at q1
        exact hh0 q1
      rw [se_ne _ _ hj] at q
      exact ⟨q.1, fun z => by
        rcases List.mem_cons.mp z with z | z
        · omega
        · exact q.2 z⟩⟩).1
    unfold muC
    simp only [List.length_cons]
    omega
def KdN (S : Mm) (op : List Int) : Prop := ∀ y ∈ op, S 12 (y % 6).toNat ≠ 3
theorem both_loops {S C : Mm} (hg : Okg S) (hO : Oke S) (hN : Okn S) (hE : CE C S) (hP : PlO S) {B : Int} (hB : B = 0 ∨ B = 360) {bk : Nat} (hb : isF bk) {rg : Nat → Int} {I : Cfg → Prop}
    (hI : ∀ s rest bv bh lf kk, OpV S (s :: rest) → BdO S rg bv bh → BdH S bh → (∀ y ∈ s :: rest, bh y.toNat = 0) → OpV S (crs S rg (s :: rest, bv, bh, lf, kk)).1 → ((spc S (Lk S rg bv bh (s :: rest)) (s / 6) (s % 6)).2 = none → ∃ (t : List Nat) (x : Nat), (spc S (Lk S rg bv bh (s :: rest)) (s / 6) (s % 6)).1 = t ++ [x] ∧ Lk S rg bv bh (s :: rest) x = none) → I (s :: rest, bv, bh, lf, kk) → I (crs S rg (s :: rest, bv, bh, lf, kk))) {J1 J2 : Mm → Rs} {J : Int → Mm → Rs} :
    ∀ (k : Nat) (c : Cfg) (MC MR : Mm) (FC FR : Nat) (vC vR : Int), muC c = k → RpC S C bk rg MC c → RpR S B rg MR c → I c → 7400 * k < FC → k < FR → 0 ≤ vC → vC + 7400 * k < 10000000 →
    ∃ c' MC' MR' vR', Lp (f_X2_find_L48_41 J1 J2) FC (vC, MC) = J1 MC' ∧ Lp (f_X12_finds_L13_55 J) FR (vR, MR) = J vR' MR' ∧ RpC S C bk rg MC' c' ∧ RpR S B rg MR' c' ∧ c'.1 = [] ∧ I c' ∧ FrC bk MC MC' ∧ FrR S B MR MR' ∧ (c.1 = [] → c' = c ∧ vR' = vR) ∧ (∀ pre b, c.1 = pre ++ [b] → vR' = pv S (c'.2.1 b.toNat) ∧ c'.2.2.1 b.toNat ≠ 0) ∧ (KdN S c.1 → B = 0 → MC bk 0 = MR 0 67 → MC' bk 0 = MR' 0 67) ∧ (i32 (MR 0 67) → i32 (MR' 0 67) ∧ (B ≠ 0 → MR' 0 67 = MR 0 67)) := by
  intro k
  have h35 := hN.1
  induction k with
  | zero =>
    intro c MC MR FC FR vC vR hk hC hR hi hFC hFR hv0 hv
    obtain ⟨op, bv, bh, lf, kk⟩ := c
    have hop : op = [] := by
      unfold muC at hk
      simp only at hk
      exact List.eq_nil_of_length_eq_zero (by omega)
    subst hop
    obtain ⟨G, rfl⟩ : ∃ G, FC = G + 1 := ⟨FC - 1, by omega⟩
    obtain ⟨H, rfl⟩ : ∃ H, FR = H + 1 := ⟨FR - 1, by omega⟩
    have h9 : MC 310 9 = 0 := by have := hC.1.2.2.2.1; simpa using this
    have h69 : MR 0 69 = 0 := by have := hR.2.2.2.2.2.1; simpa using this
    refine ⟨_, MC, MR, vR, ?_, ?_, hC, hR, rfl, hi, FrC.refl _ _, FrR.refl _ _ _, fun _ => ⟨rfl, rfl⟩, fun pre b e => ?_, fun _ _ e => e, fun h => ⟨h, fun _ => rfl⟩⟩
    · rw [Lp_s]
      simp only [f_X2_find_L48_41, LtE]
      rw [if_neg (by omega), h9, if_pos (by decide)]
    · rw [Lp_s, finds_body, h69, if_pos (by decide)]
    · have := congrArg List.length e
      simp at this
  | succ k ih =>
    intro c MC MR FC FR vC vR hk hC hR hi hFC hFR hv0 hv
    obtain ⟨op, bv, bh, lf, kk⟩ := c
    cases op with
    | nil =>
      obtain ⟨G, rfl⟩ : ∃ G, FC = G + 1 := ⟨FC - 1, by omega⟩
      obtain ⟨H, rfl⟩ : ∃ H, FR = H + 1 := ⟨FR - 1, by omega⟩
      have h9 : MC 310 9 = 0 := by have := hC.1.2.2.2.1; simpa using this
      have h69 : MR 0 69 = 0 := by have := hR.2.2.2.2.2.1; simpa using this
      refine ⟨_, MC, MR, vR, ?_, ?_, hC, hR, rfl, hi, FrC.refl _ _, FrR.refl _ _ _, fun _ => ⟨rfl, rfl⟩, fun pre b e => ?_, fun _ _ e => e, fun h => ⟨h, fun _ => rfl⟩⟩
      · rw [Lp_s]
        simp only [f_X2_find_L48_41, LtE]
        rw [if_neg (by omega), h9, if_pos (by decide)]
      · rw [Lp_s, finds_body, h69, if_pos (by decide)]
      · have := congrArg List.length e
        simp at this
    | cons s rest =>
      obtain ⟨H, rfl⟩ : ∃ H, FR = H + 1 := ⟨FR - 1, by omega⟩
      obtain ⟨dk, MC1, d1, d2, d3, d4, d5⟩ := coarse_C hg hO hN hE hb hC (J1 := J1) (J2 := J2) (F := FC) (v := vC) (by omega) hv0 (by omega)
      have hOp := hC.2.1
      have hbd := hC.2.2.1
      have hbh := hC.2.2.2.1
      have hz := hC.2.2.2.2.1
      simp only at hOp hbd hbh hz
      obtain ⟨v1, MR1, e1, e2, e3, e4, e5⟩ := coarse_R hg hO hN hP hB hOp hbd hbh d3.2.1 hR (J := J) (F := H) (v := vR)
      have hmu := crs_mu hN hOp hbh d3.2.1 d3.2.2.2.2.1
      obtain ⟨c', MC', MR', vR', r1, r2, r3, r4, r5, r6, r7, r8, r9, r10, r11, r12⟩ := ih (crs S rg (s :: rest, bv, bh, lf, kk)) MC1 MR1 (FC - dk) H (vC + dk) v1 (by omega) d3 e2 (hI _ _ _ _ _ _ hOp hbd hbh hz d3.2.1 (top_none hg hO hN hE hC) hi) (by omega) (by omega) (by omega) (by omega)
      have hshape : (∃ x : Int, (crs S rg (s :: rest, bv, bh, lf, kk)).1 = x :: s :: rest ∧ (crs S rg (s :: rest, bv, bh, lf, kk)).2.2.2.2 = kk ∧ S 12 (x % 6).toNat ≠ 3) ∨ ((crs S rg (s :: rest, bv, bh, lf, kk)).1 = rest ∧ (crs S rg (s :: rest, bv, bh, lf, kk)).2.2.2.2 = kk + 1 ∧ (crs S rg (s :: rest, bv, bh, lf, kk)).2.2.1 s.toNat ≠ 0) := by
        cases ho : (spc S (Lk S rg bv bh (s :: rest)) (s / 6) (s % 6)).2 with
        | none =>
          left
          obtain ⟨t, x, y1, y2⟩ := top_none hg hO hN hE hC ho
          have hcrs : crs S rg (s :: rest, bv, bh, lf, kk) = ((x : Int) :: s :: rest, bv, bh, lf, kk) := by
            unfold crs
            simp only [ho]
            rw [y1]
            simp
            rfl
          have hx := d3.2.1
          rw [hcrs] at hx
          have hxv := hx.2 x (List.mem_cons_self ..)
          rw [Lk_in (by omega)] at y2
          refine ⟨x, by rw [hcrs], by rw [hcrs], fun q => ?_⟩
          have : S 12 (x % 6) = 3 := by rw [← q]; congr 1
          rw [if_pos this] at y2
          cases y2
        | some v =>
          right
          have hs := hOp.2 s (List.mem_cons_self ..)
          have hh := bt_ne (hgs_hb (S := S) hN (Lk_hb hbh (rg := rg) (bv := bv) (op := s :: rest)) (n := s / 6) (a := s % 6) ⟨by omega, hs.2.1⟩ (spc S (Lk S rg bv bh (s :: rest)) (s / 6) (s % 6)).1 v).2.1
          unfold crs
          simp only [ho]
          refine ⟨trivial, trivial, ?_⟩
          rw [se_at]; exact hh
      refine ⟨c', MC', MR', vR', d2.trans r1, e1.trans r2, r3, r4, r5, r6, d4.trans r7, e3.trans r8, fun q => (by cases q), ?_, ?_, ?_⟩
      · intro pre b hpb
        simp only at hpb
        rcases hshape with ⟨x, x1, -, -⟩ | ⟨x1, -, x3⟩
        · exact r10 (x :: pre) b (by rw [x1, hpb]; rfl)
        · cases pre with
          | cons p pre' =>
            refine r10 pre' b ?_
            rw [x1]
            exact (List.cons.inj hpb).2
          | nil =>
            have hsb := List.cons.inj hpb
            have hnil : (crs S rg (s :: rest, bv, bh, lf, kk)).1 = [] := by rw [x1]; exact hsb.2
            obtain ⟨z1, z2⟩ := r9 hnil
            rw [z1, z2, ← hsb.1]
            exact ⟨e5 x1, x3⟩
      · intro hK hB0 heq
        simp only at hK
        have hks := hK s (List.mem_cons_self ..)
        refine r11 ?_ hB0 ?_
        · rcases hshape with ⟨x, x1, -, x3⟩ | ⟨x1, -, -⟩
          · rw [x1]
            intro y hy
            rcases List.mem_cons.mp hy with q | q
            · subst q; exact x3
            · exact hK y q
          · rw [x1]
            exact fun y hy => hK y (List.mem_cons_of_mem _ hy)
        · rw [d5, e4, heq, if_pos hB0]
          by_cases q : (crs S rg (s :: rest, bv, bh, lf, kk)).2.2.2.2 = kk
          · rw [if_pos q, if_pos (Or.inl q)]
          · rw [if_neg q, if_neg (fun z => z.elim q hks)]
      · intro hi32
        have e67 : B ≠ 0 → MR1 0 67 = MR 0 67 := fun hB0 => by
          rw [e4, if_neg hB0]
          split
          · rfl
          · rw [Int.add_zero, wr_eq hi32]
        have e68 : i32 (MR1 0 67) := by
          rw [e4]
          split
          · exact hi32
          · exact i32_wr _
        exact ⟨(r12 e68).1, fun hB0 => ((r12 e68).2 hB0).trans (e67 hB0)⟩
