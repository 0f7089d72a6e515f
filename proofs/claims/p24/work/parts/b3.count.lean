/-! the class's loop alone: how many findings it makes -/
theorem cls_loop {S C : Mm} (hg : Okg S) (hO : Oke S) (hN : Okn S) (hE : CE C S) {bk : Nat} (hb : isF bk) {rg : Nat → Int} {J1 J2 : Mm → Rs} :
    ∀ (k : Nat) (c : Cfg) (MC : Mm) (FC : Nat) (vC : Int), muC c = k → RpC S C bk rg MC c → 7400 * k < FC → 0 ≤ vC → vC + 7400 * k < 10000000 →
    ∃ (MC' : Mm) (d : Nat), Lp (f_X2_find_L48_41 J1 J2) FC (vC, MC) = J1 MC' ∧ d ≤ k ∧ (c.1 ≠ [] → 1 ≤ d) ∧ (0 ≤ MC bk 0 → MC bk 0 + k ≤ 1000000000 → MC' bk 0 = MC bk 0 + d) := by
  intro k
  have h35 := hN.1
  have hnil : ∀ (k : Nat) (bv bh : Nat → Int) (lf : List Int) (kk : Nat) (MC : Mm) (FC : Nat) (vC : Int), RpC S C bk rg MC ([], bv, bh, lf, kk) → 7400 * k < FC → 0 ≤ vC → vC + 7400 * k < 10000000 → Lp (f_X2_find_L48_41 J1 J2) FC (vC, MC) = J1 MC := fun k bv bh lf kk MC FC vC hC hFC hv0 hv => by
    obtain ⟨G, rfl⟩ : ∃ G, FC = G + 1 := ⟨FC - 1, by omega⟩
    have h9 : MC 310 9 = 0 := by have := hC.1.2.2.2.1; simpa using this
    rw [Lp_s]
    simp only [f_X2_find_L48_41, LtE]
    rw [if_neg (by omega), h9, if_pos (by decide)]
  induction k with
  | zero =>
    intro c MC FC vC hk hC hFC hv0 hv
    obtain ⟨op, bv, bh, lf, kk⟩ := c
    have hop : op = [] := by
      unfold muC at hk
      simp only at hk
      exact List.eq_nil_of_length_eq_zero (by omega)
    subst hop
    exact ⟨MC, 0, hnil 0 bv bh lf kk MC FC vC hC hFC hv0 hv, Nat.le_refl _, fun q => absurd rfl q, fun _ _ => by omega⟩
  | succ k ih =>
    intro c MC FC vC hk hC hFC hv0 hv
    obtain ⟨op, bv, bh, lf, kk⟩ := c
    cases op with
    | nil => exact ⟨MC, 0, hnil (k + 1) bv bh lf kk MC FC vC hC hFC hv0 hv, Nat.zero_le _, fun q => absurd rfl q, fun _ _ => by omega⟩
    | cons s rest =>
      obtain ⟨dk, MC1, d1, d2, d3, d4, d5⟩ := coarse_C hg hO hN hE hb hC (J1 := J1) (J2 := J2) (F := FC) (v := vC) (by omega) hv0 (by omega)
      have hOp := hC.2.1
      have hbh := hC.2.2.2.1
      simp only at hOp hbh
      have hmu := crs_mu hN hOp hbh d3.2.1 d3.2.2.2.2.1
      obtain ⟨MC', d, r1, r2, r3, r4⟩ := ih (crs S rg (s :: rest, bv, bh, lf, kk)) MC1 (FC - dk) (vC + dk) (by omega) d3 (by omega) (by omega) (by omega)
      by_cases q : (crs S rg (s :: rest, bv, bh, lf, kk)).2.2.2.2 = kk
      · rw [if_pos q] at d5
        refine ⟨MC', d, d2.trans r1, by omega, fun _ => r3 ?_, fun h1 h2 => ?_⟩
        · intro hx
          cases ho : (spc S (Lk S rg bv bh (s :: rest)) (s / 6) (s % 6)).2 with
          | none =>
            have e : spc S (Lk S rg bv bh (s :: rest)) (s / 6) (s % 6) = ((spc S (Lk S rg bv bh (s :: rest)) (s / 6) (s % 6)).1, none) := Prod.ext rfl ho
            rw [crs_none e] at hx
            cases hx
          | some v =>
            have e : spc S (Lk S rg bv bh (s :: rest)) (s / 6) (s % 6) = ((spc S (Lk S rg bv bh (s :: rest)) (s / 6) (s % 6)).1, some v) := Prod.ext rfl ho
            rw [crs_some e] at q
            simp only at q
            omega
        · rw [d5] at r4
          exact r4 h1 (by omega)
      · rw [if_neg q] at d5
        refine ⟨MC', d + 1, d2.trans r1, by omega, fun _ => by omega, fun h1 h2 => ?_⟩
        rw [wr_eq (by unfold i32; omega)] at d5
        rw [d5] at r4
        rw [r4 (by omega) (by omega)]
        push_cast
        omega
theorem find_count {S C : Mm} (hg : Okg S) (hO : Oke S) (hN : Okn S) (hE : CE C S) {bk : Nat} (hb : isF bk) {rg bv bh : Nat → Int}
    {n a : Int} (hn : 0 ≤ n ∧ n < S 0 35) (ha : 0 ≤ a ∧ a < S 0 12) (hz : bh (6 * n + a).toNat = 0) (hbd : BdO S rg bv bh) (hbh : BdH S bh) {MC : Mm} (hC : RestC S C bk rg bv bh MC) (hl0 : MC 310 11 ≠ 0 → MC 310 0 = 0) :
    ∃ d : Nat, 1 ≤ d ∧ d ≤ 400 ∧ ∀ r, f_X2_find n a bk MC = some r → 0 ≤ MC bk 0 → MC bk 0 ≤ 900000000 → r.2 bk 0 = MC bk 0 + d := by
  have h35 := hN.1
  have h12 := hg.2.1
  have hb3 : bk = 299 ∨ bk = 304 := hb
  obtain ⟨c1, c2, c3, c4, c5, c6⟩ := hC
  have hs6 : 0 ≤ 6 * n + a ∧ 6 * n + a < 180 := by omega
  have hd6 : (6 * n + a) / 6 = n ∧ (6 * n + a) % 6 = a := by omega
  have hOp : OpV S [6 * n + a] := ⟨List.nodup_cons.mpr ⟨fun q => (by cases q), List.nodup_nil⟩, fun s hs => by
    have : s = 6 * n + a := List.mem_singleton.mp hs
    subst this
    exact ⟨by omega, by omega, by omega⟩⟩
  -- the class begins
  generalize hM1 : up (up MC 310 12 (bk : Int)) 310 9 0 = M1
  have m1 : ∀ j, j ≠ 310 → M1 j = MC j := fun j hj => by rw [← hM1, up_ne _ _ _ hj, up_ne _ _ _ hj]
  have m10 : ∀ i, i ≠ 9 → i ≠ 12 → M1 310 i = MC 310 i := fun i a b => by rw [← hM1]; simp [up, a, b]
  have hS1 : SC M1 S := c1.of hO fun j hj => m1 j (by omega)
  obtain ⟨M2, b1, b2, b3, b4, b5, b6, b7⟩ := c_begin hS1 hg hO hN hn ha (d := 0) (by decide) (by rw [← hM1]; simp [up])
  have hRp : RpC S C bk rg M2 ([6 * n + a], bv, bh, [], 0) := by
    refine ⟨⟨hS1.of hO fun j hj => b6 j (by omega) (by omega) (by omega) (by omega), fun j j1 j2 => by rw [b6 j (by omega) (by omega) (by omega) (by omega), m1 j (by omega)]; exact c2 j j1 j2, ?_, ?_, ?_, ?_, ?_, ?_⟩, hOp, hbd, hbh, ?_, [], ?_, ?_, ⟨⟨_, 0, [], ?_, ?_, ⟨rfl, rfl⟩, fun _ => Or.inl rfl, fun x hx => (by cases hx)⟩, trivial⟩, fun e => (by cases e)⟩
    · rw [b7 12 (by decide), ← hM1]; simp [up]
    · rw [b4]; rfl
    · rw [b6 309 (by decide) (by decide) (by decide) (by decide), m1 309 (by decide)]; exact c3
    · rw [b6 (bk + 1) (by omega) (by omega) (by omega) (by omega), m1 (bk + 1) (by omega)]; exact c4
    · rw [b6 (bk + 2) (by omega) (by omega) (by omega) (by omega), m1 (bk + 2) (by omega)]; exact c5
    · intro s hs
      rw [b5]
      by_cases c : s = (6 * n + a).toNat
      · rw [c, se_at, if_pos (List.mem_singleton.mpr (by omega))]
      · rw [se_ne _ _ c, m1 313 (by decide), c6 s hs, if_neg (fun q => c (by have := List.mem_singleton.mp q; omega))]
    · intro y hy
      have : y = 6 * n + a := List.mem_singleton.mp hy
      subst this
      exact hz
    · intro h11
      have e11 : M2 310 11 = MC 310 11 := by rw [b7 11 (by decide), m10 11 (by decide) (by decide)]
      rw [e11] at h11
      exact ⟨by rw [b7 0 (by decide), m10 0 (by decide) (by decide), hl0 h11]; rfl, fun i hi => absurd hi (Nat.not_lt_zero _)⟩
    · exact ⟨List.nodup_nil, fun x hx => (by cases hx)⟩
    · rw [hd6.1, hd6.2]; exact b2
    · rw [hd6.1, hd6.2]; exact b3
  have hmu := muC_le ([6 * n + a], bv, bh, [], 0)
  simp only [List.length_singleton] at hmu
  have hFU : FU = 1000000000000000 := rfl
  obtain ⟨MC', d, l1, l2, l3, l4⟩ := cls_loop hg hO hN hE hb (J1 := fun M11 => Lt (M11 310 12) fun v13 => gd (¬ v13 < 0 ∧ isF v13.toNat) <| Cl (f_X3_valueOf v13.toNat (6 * n + a) M11) fun v16 M15 => some (v16, M15)) (J2 := fun M17 => some (-1, M17)) _ ([6 * n + a], bv, bh, [], 0) M2 FU 0 rfl hRp (by omega) (by decide) (by omega)
  refine ⟨d, l3 (List.cons_ne_nil _ _), by omega, fun r hr h0 h1 => ?_⟩
  have hb12 : ((bk : Int)).toNat = bk := Int.toNat_natCast bk
  have hwr : wr (wr (n * 6) + a) = 6 * n + a := by rw [wrE (v := n * 6) (by omega) (by omega), wrE (by omega) (by omega)]; omega
  have e12 : up MC 310 12 (bk : Int) 310 12 = (bk : Int) := up_at ..
  have ebh : up MC 310 12 (bk : Int) (bk + 2) (6 * n + a).toNat = 0 := by rw [up_ne _ _ _ (by omega), c5]; exact hz
  have hh : f_X3_has bk (6 * n + a) (up MC 310 12 (bk : Int)) = some (0, up MC 310 12 (bk : Int)) := by
    unfold f_X3_has
    simp only [LtE]
    rw [if_neg (by omega), if_neg (by omega), gdE (by omega), ebh, if_pos rfl]
  unfold f_X2_find f_X11_slotOf at hr
  simp only [LtE] at hr
  rw [hwr, ClS, e12, gdE ⟨by omega, by rw [hb12]; exact hb⟩, hb12, hh, ClS, if_pos rfl, hM1, b1, ClS] at hr
  have l1' := l1
  simp only [LtE] at l1'
  rw [l1'] at hr
  have hm : r.2 bk 0 = MC' bk 0 := by
    unfold gd f_X3_valueOf gd at hr
    simp only [LtE] at hr
    repeat' split at hr
    all_goals first | (simp only [Cl, Option.some.injEq] at hr; rw [← hr]; done) | (exact absurd hr (by simp [Cl]; done)) | (cases hr; done)
  rw [hm, l4 (by rw [b6 bk (by omega) (by omega) (by omega) (by omega), m1 bk (by omega)]; exact h0) (by rw [b6 bk (by omega) (by omega) (by omega) (by omega), m1 bk (by omega)]; omega), b6 bk (by omega) (by omega) (by omega) (by omega), m1 bk (by omega)]
