/-! one RING attribute is found anew -/
def RIv (S : Mm) (b : Int) (bh0 : Nat → Int) (c : Cfg) : Prop := (∀ y ∈ c.1, S 12 (y % 6).toNat = 3 → y = b) ∧ ∀ s : Nat, s < 180 → S 12 (s % 6) = 3 → (s : Int) ≠ b → c.2.2.1 s = bh0 s
theorem RIv.crs_ {S : Mm} (hN : Okn S) {rg : Nat → Int} {b : Int} {bh0 : Nat → Int} {s : Int} {rest : List Int} {bv bh : Nat → Int} {lf : List Int} {kk : Nat} (hOp : OpV S (s :: rest)) (hx : OpV S (crs S rg (s :: rest, bv, bh, lf, kk)).1) (ht : (spc S (Lk S rg bv bh (s :: rest)) (s / 6) (s % 6)).2 = none → ∃ (t : List Nat) (x : Nat), (spc S (Lk S rg bv bh (s :: rest)) (s / 6) (s % 6)).1 = t ++ [x] ∧ Lk S rg bv bh (s :: rest) x = none) (hi : RIv S b bh0 (s :: rest, bv, bh, lf, kk)) : RIv S b bh0 (crs S rg (s :: rest, bv, bh, lf, kk)) := by
  have h35 := hN.1
  obtain ⟨i1, i2⟩ := hi
  simp only at i1 i2
  have hs := hOp.2 s (List.mem_cons_self ..)
  cases ho : (spc S (Lk S rg bv bh (s :: rest)) (s / 6) (s % 6)).2 with
  | none =>
    obtain ⟨t, x, y1, y2⟩ := ht ho
    have hcrs : crs S rg (s :: rest, bv, bh, lf, kk) = ((x : Int) :: s :: rest, bv, bh, lf, kk) := by
      unfold crs
      simp only [ho]
      rw [y1]
      simp
      rfl
    rw [hcrs] at hx ⊢
    have hxv := hx.2 x (List.mem_cons_self ..)
    rw [Lk_in (by omega)] at y2
    refine ⟨fun y hy k3 => ?_, i2⟩
    rcases List.mem_cons.mp hy with q | q
    · exfalso
      have : S 12 (x % 6) = 3 := by
        rw [q] at k3
        rw [← k3]; congr 1
      rw [if_pos this] at y2
      cases y2
    · exact i1 y q k3
  | some v =>
    unfold crs
    simp only [ho]
    refine ⟨fun y hy k3 => i1 y (List.mem_cons_of_mem _ hy) k3, fun j hj k3 hb => ?_⟩
    simp only
    have hne : j ≠ s.toNat := fun e => by
      have := i1 s (List.mem_cons_self ..) (by rw [← k3]; congr 1; omega)
      omega
    rw [se_ne _ _ hne]
    exact i2 j hj k3 hb
theorem ring_one {S C : Mm} (hg : Okg S) (hO : Oke S) (hN : Okn S) (hE : CE C S) (hP : PlO S) {rg bv bh : Nat → Int} {n a : Int} (hn : 0 ≤ n ∧ n < S 0 35) (ha : 0 ≤ a ∧ a < S 0 12) (hz : bh (6 * n + a).toNat = 0) (hbd : BdO S rg bv bh) (hbh : BdH S bh) {MC MR : Mm} (hC : RestC S C 304 rg bv bh MC) (h11 : MC 310 11 = 0) (hR : RestR S 360 rg bv bh MR) (h67 : i32 (MR 0 67)) :
    ∃ c' MC' MR', f_X2_find n a 304 MC = some (c'.2.1 (6 * n + a).toNat, MC') ∧ f_X12_finds n a MR = some (pv S (c'.2.1 (6 * n + a).toNat), MR') ∧ FinC S rg ([6 * n + a], bv, bh, [], 0) c' ∧ RestC S C 304 rg c'.2.1 c'.2.2.1 MC' ∧ RestR S 360 rg c'.2.1 c'.2.2.1 MR' ∧ BdO S rg c'.2.1 c'.2.2.1 ∧ BdH S c'.2.2.1 ∧ (∀ s : Nat, s < 180 → S 12 (s % 6) = 3 → (s : Int) ≠ 6 * n + a → c'.2.2.1 s = bh s) ∧ c'.2.2.1 (6 * n + a).toNat ≠ 0 ∧ FrF 304 MC MC' ∧ FrR S 360 MR MR' ∧ MR' 0 67 = MR 0 67 := by
  have hc0 : RIv S (6 * n + a) bh ([6 * n + a], bv, bh, [], 0) := ⟨fun y hy _ => List.mem_singleton.mp hy, fun _ _ _ _ => rfl⟩
  obtain ⟨c', MC', MR', l1, l2, l3, l4, l5, l6, l7, l8, l9, -, l11⟩ := find_both hg hO hN hE hP (B := 360) (Or.inr rfl) (bk := 304) (Or.inr rfl) (rg := rg) (I := fun c => RIv S (6 * n + a) bh c ∧ ∃ j, c = itc S rg j ([6 * n + a], bv, bh, [], 0)) (fun s rest bv bh lf kk h1 _ _ _ h5 h6 h7 => ⟨RIv.crs_ hN h1 h5 h6 h7.1, by
    obtain ⟨j, hj⟩ := h7.2
    exact ⟨j + 1, (congrArg (crs S rg) hj).trans (itc_succ S rg j _).symm⟩⟩) hn ha hz hbd hbh hC (fun q => absurd h11 q) hR ⟨hc0, 0, rfl⟩
  obtain ⟨l6a, j, l6b⟩ := l6
  exact ⟨c', MC', MR', l1, l2, ⟨j, l6b, l5⟩, l3.rest l5, l4.rest l5, l3.2.2.1, l3.2.2.2.1, l6a.2, l9, l7, l8, (l11 h67).2 (by decide)⟩
