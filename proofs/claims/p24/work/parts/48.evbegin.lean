/-! the class begins a frame, and closes it -/
def bitC (n : Int) : Int := if 0 ≤ n ∧ n < 30 then jshl 1 n else 0
theorem c_bitOf (n : Int) (M : Mm) : f_X11_bitOf n M = some (bitC n, M) := by
  unfold f_X11_bitOf bitC
  simp only [LtE]
  by_cases h : 0 ≤ n ∧ n < 30
  · rw [if_neg (by omega), if_neg (by omega), if_pos h]
  · rw [if_neg h]
    by_cases h2 : n < 0
    · rw [if_pos h2]
    · rw [if_neg h2, if_pos (by omega)]
theorem bitC_i32 (n : Int) : i32 (bitC n) := by
  unfold bitC
  split
  · exact i32_of _
  · decide
def h0_ (S : Mm) (n a : Int) : Int := if S 12 a.toNat = 2 then jor (bitC n) ALL else if S 12 a.toNat = 1 then jor (bitC n) (bitC (S 32 n.toNat)) else bitC n
theorem h0_i32 (S : Mm) (n a : Int) : i32 (h0_ S n a) := by
  unfold h0_
  repeat' split
  · exact jor_i32 _ _
  · exact jor_i32 _ _
  · exact bitC_i32 n
theorem c_beginEq {M S : Mm} {r : Nat} (hS : ∀ q, SC (lay2 M r q) S) (hg : Okg S) (hO : Oke S) (hN : Okn S) {f hd : Nat → Int} {a m t : Int} (ha : 0 ≤ a ∧ a < S 0 12) (f1 : f 1 = a) (hm : m = -1 ∨ (0 ≤ m ∧ m < S 0 35)) (ht : m ≠ -1 → -1 ≤ t ∧ t < 3) : ∃ f', f_X2_beginEquation r m t (lay2 M r (f, hd)) = some (0, lay2 M r (f', hd)) ∧ (∀ i, i = 0 ∨ i = 1 ∨ i = 7 → f' i = f i) ∧ (m = -1 → f' 9 = 1 ∧ f' 8 = -1) ∧ (m ≠ -1 →
      (rsv S (S 31 m.toNat) a t = -3 → f' 9 = 1 ∧ f' 8 = -3) ∧ (rsv S (S 31 m.toNat) a t = -1 → t ≠ -1 → f' 9 = f 9 ∧ f' 5 = -1 ∧ f' 2 = m) ∧ (rsv S (S 31 m.toNat) a t = -1 → t = -1 → f' 9 = 1 ∧ f' 8 = -1) ∧
      (∀ e : Nat, rsv S (S 31 m.toNat) a t = e → f' 9 = f 9 ∧ f' 5 = ((33 + 8 * e : Nat) : Int) ∧ f' 2 = m ∧ f' 3 = S 31 m.toNat ∧ f' 4 = (rsh S (S 31 m.toNat) a t : Int) ∧ f' 6 = 0)) := by
  have h12 := hg.2.1
  have h10 := hg.1
  have h35 := hN.1
  have h30 := hO.1
  unfold f_X2_beginEquation
  simp only [LtE]
  rw [lay2_up, c8_nowOf, ClS]
  simp only
  by_cases c1 : m = -1
  · rw [if_neg (by omega), lay2_up]
    simp only
    rw [lay2_rr, se_at, se_ne _ _ (show (1 : Nat) ≠ 3 by decide), se_ne _ _ (show (1 : Nat) ≠ 2 by decide), f1, c_resolvedFor (by omega) (by omega), ClS, if_neg (c := 0 ≤ (-1 : Int) ∧ _) (fun q => absurd q.1 (by decide))]
    simp only [lay2_rr]
    rw [se_at, se_ne _ _ (show (1 : Nat) ≠ 3 by decide), se_ne _ _ (show (1 : Nat) ≠ 2 by decide), f1, c_hopsFor (by omega) (by omega), ClS, if_neg (c := 0 ≤ (-1 : Int) ∧ _) (fun q => absurd q.1 (by decide)), lay2_up, c_rowOf, ClS, if_neg (c := 0 ≤ (-1 : Int) ∧ _) (fun q => absurd q.1 (by decide)), lay2_up, lay2_up, if_pos c1, if_neg (by decide), if_neg (by decide), if_neg (by decide), lay2_settle, ClS]
    refine ⟨_, rfl, fun i hi => ?_, fun _ => ⟨?_, ?_⟩, fun q => absurd c1 q⟩
    · simp only
      rcases hi with rfl | rfl | rfl <;> (unfold stl se; simp)
    · simp only; unfold stl; exact se_at _ _ _
    · simp only; unfold stl; rw [se_ne _ _ (by decide), se_at]
  · have hm' := hm.resolve_left c1
    have ht' := ht c1
    have hnd := hN.2.2 m.toNat (by omega)
    have hp := hnd.2.1
    have hcn := (hS (se f 2 m, hd)).2.2.2 m.toNat (by omega)
    rw [if_pos (by omega), hcn.2.2.2.1, lay2_up]
    simp only
    have hRs := (hS (se (se f 2 m) 3 (S 31 m.toNat), hd)).1.2.2.2.2.2 _ hp.1 hp.2 a ha.1 ha.2 t ht'.1 ht'.2
    unfold plc at hRs
    rw [lay2_rr, se_at, se_ne _ _ (show (1 : Nat) ≠ 3 by decide), se_ne _ _ (show (1 : Nat) ≠ 2 by decide), f1, c_resolvedFor (by omega) (by omega), ClS, if_pos (c := 0 ≤ S 31 m.toNat ∧ 0 ≤ a ∧ -1 ≤ t ∧ t < 3) ⟨hp.1, ha.1, ht'.1, ht'.2⟩, hRs.1]
    simp only [lay2_rr]
    rw [se_at, se_ne _ _ (show (1 : Nat) ≠ 3 by decide), se_ne _ _ (show (1 : Nat) ≠ 2 by decide), f1, c_hopsFor (by omega) (by omega), ClS, if_pos (c := 0 ≤ S 31 m.toNat ∧ 0 ≤ a ∧ -1 ≤ t ∧ t < 3) ⟨hp.1, ha.1, ht'.1, ht'.2⟩]
    generalize hh : lay2 M r (se (se f 2 m) 3 (S 31 m.toNat), hd) 30 ((S 31 m.toNat * 6 + a) * 4 + t + 1).toNat = hops at hRs
    rw [lay2_up, c_rowOf, ClS, (hS _).1.2.1.1, lay2_up, lay2_up, if_neg c1]
    simp only
    have hcell : ∀ (x y : Int) i, i ≠ 2 → i ≠ 3 → i ≠ 4 → i ≠ 5 → i ≠ 6 → se (se (se (se (se f 2 m) 3 (S 31 m.toNat)) 4 x) 5 y) 6 0 i = f i := fun x y i i2 i3 i4 i5 i6 => by rw [se_ne _ _ i6, se_ne _ _ i5, se_ne _ _ i4, se_ne _ _ i3, se_ne _ _ i2]
    have hc2 : ∀ (x y : Int), se (se (se (se (se f 2 m) 3 (S 31 m.toNat)) 4 x) 5 y) 6 0 2 = m := fun x y => by unfold se; simp
    have hc3 : ∀ (x y : Int), se (se (se (se (se f 2 m) 3 (S 31 m.toNat)) 4 x) 5 y) 6 0 3 = S 31 m.toNat := fun x y => by unfold se; simp
    have hc4 : ∀ (x y : Int), se (se (se (se (se f 2 m) 3 (S 31 m.toNat)) 4 x) 5 y) 6 0 4 = x := fun x y => by unfold se; simp
    have hc5 : ∀ (x y : Int), se (se (se (se (se f 2 m) 3 (S 31 m.toNat)) 4 x) 5 y) 6 0 5 = y := fun x y => by unfold se; simp
    have hc6 : ∀ (x y : Int), se (se (se (se (se f 2 m) 3 (S 31 m.toNat)) 4 x) 5 y) 6 0 6 = 0 := fun x y => se_at _ _ _
    have hst : ∀ (g : Nat → Int) (v : Int), stl g v 9 = 1 ∧ stl g v 8 = v ∧ ∀ i, i ≠ 8 → i ≠ 9 → stl g v i = g i := fun g v => by
      unfold stl
      exact ⟨se_at _ _ _, by rw [se_ne _ _ (by decide), se_at], fun i i8 i9 => by rw [se_ne _ _ i9, se_ne _ _ i8]⟩
    have settle : ∀ (x y v : Int), ∃ f', (Cl (f_X4_settle r v (lay2 M r (se (se (se (se (se f 2 m) 3 (S 31 m.toNat)) 4 x) 5 y) 6 0, hd))) fun _ M26 => (some (0, M26) : Rs)) = some (0, lay2 M r (f', hd)) ∧ (∀ i, i = 0 ∨ i = 1 ∨ i = 7 → f' i = f i) ∧ f' 9 = 1 ∧ f' 8 = v := by
      intro x y v
      rw [lay2_settle, ClS]
      obtain ⟨z1, z2, z3⟩ := hst (se (se (se (se (se f 2 m) 3 (S 31 m.toNat)) 4 x) 5 y) 6 0) v
      refine ⟨_, rfl, fun i hi => ?_, z1, z2⟩
      simp only
      rw [z3 i (by omega) (by omega)]
      exact hcell x y i (by omega) (by omega) (by omega) (by omega) (by omega)
    rcases rsv_val S (S 31 m.toNat) a t with h | h | ⟨e, h1, h2, _, _⟩
    · rw [h]
      rw [if_neg (c := 0 ≤ (-1 : Int) ∧ _) (fun q => absurd q.1 (by decide))]
      by_cases ct : t = -1
      · rw [if_pos ct, if_neg (by decide), if_neg (by decide), if_neg (by decide)]
        obtain ⟨f', w1, w2, w3, w4⟩ := settle hops (-1) (-1)
        refine ⟨f', w1, w2, fun q => absurd q c1, fun _ => ⟨fun q => absurd q (by decide), fun _ q => absurd ct q, fun _ _ => ⟨w3, w4⟩, fun e q => by omega⟩⟩
      · rw [if_neg ct, if_neg (by decide), if_neg (by decide), if_pos (by decide)]
        refine ⟨_, rfl, fun i hi => hcell _ _ i (by omega) (by omega) (by omega) (by omega) (by omega), fun q => absurd q c1, fun _ => ⟨fun q => absurd q (by decide), fun _ _ => ⟨hcell _ _ 9 (by decide) (by decide) (by decide) (by decide) (by decide), hc5 _ _, hc2 _ _⟩, fun _ q => absurd q ct, fun e q => by omega⟩⟩
    · rw [h]
      rw [if_neg (c := 0 ≤ (-3 : Int) ∧ _) (fun q => absurd q.1 (by decide))]
      obtain ⟨f', w1, w2, w3, w4⟩ := settle hops (-1) (-3)
      refine ⟨f', ?_, w2, fun q => absurd q c1, fun _ => ⟨fun _ => ⟨w3, w4⟩, fun q => absurd q (by decide), fun q => absurd q (by decide), fun e q => by omega⟩⟩
      by_cases ct : t = -1
      · rw [if_pos ct, if_pos rfl]; exact w1
      · rw [if_neg ct, if_pos rfl]; exact w1
    · have hops2 := hRs.2 (by rw [h1]; omega)
      rw [h1, if_pos (c := 0 ≤ (e : Int) ∧ _) ⟨by omega, h2, by omega⟩, Int.toNat_natCast]
      have hfin : ∃ f', (some (0, lay2 M r (se (se (se (se (se f 2 m) 3 (S 31 m.toNat)) 4 hops) 5 ((33 + 8 * e : Nat) : Int)) 6 0, hd)) : Rs) = some (0, lay2 M r (f', hd)) ∧ (∀ i, i = 0 ∨ i = 1 ∨ i = 7 → f' i = f i) ∧ (m = -1 → f' 9 = 1 ∧ f' 8 = -1) ∧ (m ≠ -1 → ((e : Int) = -3 → f' 9 = 1 ∧ f' 8 = -3) ∧ ((e : Int) = -1 → t ≠ -1 → f' 9 = f 9 ∧ f' 5 = -1 ∧ f' 2 = m) ∧ ((e : Int) = -1 → t = -1 → f' 9 = 1 ∧ f' 8 = -1) ∧ (∀ e' : Nat, (e : Int) = e' → f' 9 = f 9 ∧ f' 5 = ((33 + 8 * e' : Nat) : Int) ∧ f' 2 = m ∧ f' 3 = S 31 m.toNat ∧ f' 4 = (rsh S (S 31 m.toNat) a t : Int) ∧ f' 6 = 0)) := by
        refine ⟨_, rfl, fun i hi => hcell _ _ i (by omega) (by omega) (by omega) (by omega) (by omega), fun q => absurd q c1, fun _ => ⟨fun q => by omega, fun q => by omega, fun q => by omega, fun e' q => ?_⟩⟩
        have : e' = e := by omega
        subst this
        exact ⟨hcell _ _ 9 (by decide) (by decide) (by decide) (by decide) (by decide), hc5 _ _, hc2 _ _, hc3 _ _, by rw [hc4]; exact hops2, hc6 _ _⟩
      by_cases ct : t = -1
      · rw [if_pos ct, if_neg (by omega), if_pos (by omega)]; exact hfin
      · rw [if_neg ct, if_neg (by omega), if_pos (by omega)]; exact hfin
theorem c_topFrame {M : Mm} {d : Nat} (hd : d < 181) (h9 : M 310 9 = ((d + 1 : Nat) : Int)) : f_X2_topFrame M = some (((314 + 2 * d : Nat) : Int), M) := by
  unfold f_X2_topFrame
  simp only [LtE]
  rw [h9, wrE (by omega) (by omega), if_neg (by omega), if_neg (by omega), gdE (by omega), show (((d + 1 : Nat) : Int) - 1).toNat = d by omega]
theorem c_begin {M S : Mm} (hS : SC M S) (hg : Okg S) (hO : Oke S) (hN : Okn S) {n a : Int} (hn : 0 ≤ n ∧ n < S 0 35) (ha : 0 ≤ a ∧ a < S 0 12) {d : Nat} (hd : d < 181) (h9 : M 310 9 = (d : Int)) : ∃ M', f_X2_begin (6 * n + a) M = some (0, M') ∧ Ini S n a (M' (314 + 2 * d), M' (314 + 2 * d + 1)) ∧ M' (314 + 2 * d) 7 = h0_ S n a ∧ M' 310 9 = ((d + 1 : Nat) : Int) ∧ M' 313 = se (M 313) (6 * n + a).toNat 1 ∧ (∀ j, j ≠ 314 + 2 * d → j ≠ 314 + 2 * d + 1 → j ≠ 310 → j ≠ 313 → M' j = M j) ∧ (∀ i, i ≠ 9 → M' 310 i = M 310 i) := by
  have h12 := hg.2.1
  have h35 := hN.1
  have hr : isR (314 + 2 * d) := by constructor <;> omega
  generalize hrr : 314 + 2 * d = r at hr
  have hr310 : (310 : Nat) ≠ r ∧ (310 : Nat) ≠ r + 1 ∧ (313 : Nat) ≠ r ∧ (313 : Nat) ≠ r + 1 := by omega
  unfold f_X2_begin
  simp only [LtE]
  rw [h9, wrE (by omega) (by omega), show (d : Int) + 1 = ((d + 1 : Nat) : Int) by omega, c_topFrame hd (up_at _ _ _ _), ClS, if_pos (by omega), hrr]
  have hso : ∀ N : Mm, f_X2_setOpen (6 * n + a) 1 N = some (0, up N 313 (6 * n + a).toNat 1) := fun N => by
    unfold f_X2_setOpen
    simp only [LtE]
    rw [if_neg (by omega), if_neg (by omega), gdE (by omega)]
  rw [hso, ClS, gdE ⟨by omega, by rw [Int.toNat_natCast]; exact hr⟩, Int.toNat_natCast]
  generalize hM7 : up (up M 310 9 ((d + 1 : Nat) : Int)) 313 (6 * n + a).toNat 1 = M7
  have e7 : ∀ j, j ≠ 310 → j ≠ 313 → M7 j = M j := fun j j1 j2 => by rw [← hM7, up_ne _ _ _ j2, up_ne _ _ _ j1]
  have e313 : M7 313 = se (M 313) (6 * n + a).toNat 1 := by rw [← hM7, up_se, sr_at, up_ne _ _ _ (by decide)]
  have e9 : M7 310 9 = ((d + 1 : Nat) : Int) := by rw [← hM7, up_ne _ _ _ (by decide), up_at]
  have e310 : ∀ i, i ≠ 9 → M7 310 i = M 310 i := fun i hi => by rw [← hM7, up_ne _ _ _ (by decide)]; unfold up; rw [if_neg (fun q => hi q.2)]
  have hS7 : SC M7 S := hS.of hO fun j hj => e7 j (by omega) (by omega)
  have hSq := fun q => hS7.lay2_ hO hr q
  have hdv : wr (Int.tdiv (6 * n + a) 6) = n := by
    rw [Int.tdiv_eq_ediv_of_nonneg (by omega), wrE (by omega) (by omega)]; omega
  have hmd : jrem (6 * n + a) 6 = a := by
    unfold jrem
    rw [hdv, wrE (v := n * 6) (by omega) (by omega), wrE (by omega) (by omega)]; omega
  rw [hdv, hmd]
  have hself : M7 = lay2 M7 r (M7 r, M7 (r + 1)) := (lay2_self M7 r).symm
  -- what is left to show for the rows that a frame ends with
  have done : ∀ (o : Rs) (f' : Nat → Int), o = some (0, lay2 M7 r (f', M7 (r + 1))) → Ini S n a (f', M7 (r + 1)) → f' 7 = h0_ S n a → ∃ M', o = some (0, M') ∧ Ini S n a (M' r, M' (r + 1)) ∧ M' r 7 = h0_ S n a ∧ M' 310 9 = ((d + 1 : Nat) : Int) ∧ M' 313 = se (M 313) (6 * n + a).toNat 1 ∧ (∀ j, j ≠ r → j ≠ r + 1 → j ≠ 310 → j ≠ 313 → M' j = M j) ∧ (∀ i, i ≠ 9 → M' 310 i = M 310 i) := by
    intro o f' ho hI h7
    obtain ⟨z1, z2, z3⟩ := lay2_at M7 r (f', M7 (r + 1))
    refine ⟨_, ho, by rw [z1, z2]; exact hI, by rw [z1]; exact h7, by rw [z3 310 hr310.1 hr310.2.1]; exact e9, by rw [z3 313 hr310.2.2.1 hr310.2.2.2]; exact e313, fun j j1 j2 j3 j4 => by rw [z3 j j1 j2]; exact e7 j j3 j4, fun i hi => by rw [z3 310 hr310.1 hr310.2.1]; exact e310 i hi⟩
  generalize hF : se (se (se (se (se (M7 r) 0 n) 1 a) 7 (bitC n)) 9 0) 5 (-1) = F
  have F0 : F 0 = n := by rw [← hF]; unfold se; simp
  have F1 : F 1 = a := by rw [← hF]; unfold se; simp
  have F7 : F 7 = bitC n := by rw [← hF]; unfold se; simp
  have F9 : F 9 = 0 := by rw [← hF]; unfold se; simp
  have i7 := bitC_i32 n
  rw [hself, lay2_up, lay2_up]
  simp only
  rw [lay2_rr, se_ne _ _ (show (0 : Nat) ≠ 1 by decide), se_at, c_bitOf, ClS, lay2_up, lay2_up, lay2_up]
  simp only
  rw [hF, lay2_rr, F1, g_kind (hSq _).1.1 hg, ClS, if_pos ha]
  by_cases k2 : S 12 a.toNat = 2
  · rw [if_neg fun q => q k2]
    simp only [lay2_rr]
    rw [F7, lay2_up, lay2_up, lay2_up]
    simp only
    have hbg := c_beginGift (M := M7) hSq hg hO hN hr (q := (se (se (se F 7 (jor (bitC n) 1073741824)) 12 0) 2 (-1), M7 (r + 1))) (by simp only; rw [se_ne _ _ (by decide), se_ne _ _ (by decide), se_ne _ _ (by decide), F1]; exact ha) (by simp only; rw [se_at]; omega) (g := -1) (Or.inl rfl)
    rw [hbg, ClS]
    have hsp := bgn_spec (S := S) hN (n := n) (a := a) (m := -1) (sum := 0) (g := -1) (f := se (se (se F 7 (jor (bitC n) 1073741824)) 12 0) 2 (-1)) (cur := []) (by rw [se_ne _ _ (by decide), se_ne _ _ (by decide), se_ne _ _ (by decide), F0]) (by rw [se_ne _ _ (by decide), se_ne _ _ (by decide), se_ne _ _ (by decide), F1]) (se_at _ _ _) (by decide) (by rw [se_ne _ _ (by decide), se_ne _ _ (by decide), se_ne _ _ (by decide), F9]) (by rw [se_ne _ _ (by decide), se_at]) (fun k q => by omega) (Or.inl ⟨rfl, rfl⟩)
    have e7' : se (se (se F 7 (jor (bitC n) 1073741824)) 12 0) 2 (-1) 7 = jor (bitC n) ALL := by rw [se_ne _ _ (by decide), se_ne _ _ (by decide), se_at]; rfl
    rw [e7'] at hsp
    rw [List.map_nil, List.nil_append] at hsp
    refine done _ _ rfl ⟨hsp.1.1, hsp.1.2.1, by simp only; rw [hsp.2]; exact jor_i32 _ _, fun _ => hsp.1, fun q => absurd k2 q⟩ ?_
    rw [hsp.2]; unfold h0_; rw [if_pos k2]
  · rw [if_pos k2]
    by_cases k1 : S 12 a.toNat = 1
    · rw [if_neg fun q => q k1]
      simp only [lay2_rr]
      have hcn := (hSq (F, M7 (r + 1))).2.2.2 n.toNat (by omega)
      rw [F0, F7, c8_parentOf, ClS, if_pos (by omega), hcn.1, c_bitOf, ClS, lay2_up]
      simp only [lay2_rr]
      have hcn2 := (hSq (se F 7 (jor (bitC n) (bitC (S 32 n.toNat))), M7 (r + 1))).2.2.2 n.toNat (by omega)
      rw [se_ne _ _ (show (0 : Nat) ≠ 7 by decide), F0, c8_parentOf, ClS, if_pos (by omega), hcn2.1]
      simp only [lay2_rr]
      rw [se_ne _ _ (show (0 : Nat) ≠ 7 by decide), F0, c8_placeOf, ClS, if_pos (by omega), hcn2.2.1]
      have hpm : pm S n a = S 32 n.toNat := by unfold pm; rw [if_pos k1]
      have hpt : pt S n a = S 33 n.toNat := by unfold pt; rw [if_pos k1]
      have hmok := pm_ok hN (a := a) hn
      rw [hpm] at hmok
      have hnd := hN.2.2 n.toNat (by omega)
      have hpl : S 32 n.toNat ≠ -1 → -1 ≤ S 33 n.toNat ∧ S 33 n.toNat < 3 ∧ S 33 n.toNat ≠ -1 := by
        intro hne
        have hn0 : 0 < n.toNat := by
          by_cases c : n.toNat = 0
          · exact absurd (hnd.2.2.2.2.2.1 c).1 hne
          · omega
        have h1 := hnd.2.2.2.2.2.2.1 hn0
        have h2 := hN.2.2 (S 32 n.toNat).toNat (by omega)
        have h3 := chl_le hg h2.1
        omega
      obtain ⟨f', w1, w2, w3, w4⟩ := c_beginEq (M := M7) hSq hg hO hN (f := se F 7 (jor (bitC n) (bitC (S 32 n.toNat)))) (hd := M7 (r + 1)) (a := a) (m := S 32 n.toNat) (t := S 33 n.toNat) ha (by rw [se_ne _ _ (by decide)]; exact F1) hmok (fun q => ⟨(hpl q).1, (hpl q).2.1⟩)
      rw [w1, ClS]
      have c0 : f' 0 = n := by rw [w2 0 (Or.inl rfl), se_ne _ _ (by decide)]; exact F0
      have c1 : f' 1 = a := by rw [w2 1 (Or.inr (Or.inl rfl)), se_ne _ _ (by decide)]; exact F1
      have c7 : f' 7 = h0_ S n a := by rw [w2 7 (Or.inr (Or.inr rfl)), se_at]; unfold h0_; rw [if_neg k2, if_pos k1]
      refine done _ f' rfl ⟨c0, c1, by simp only; rw [c7]; exact h0_i32 S n a, fun q => absurd q k2, fun _ => ⟨fun q => w3 (by rw [← hpm]; exact q), fun q => ?_⟩⟩ c7
      rw [hpm] at q
      obtain ⟨y1, y2, y3, y4⟩ := w4 q
      unfold prs
      rw [hpm, hpt]
      have e9' : se F 7 (jor (bitC n) (bitC (S 32 n.toNat))) 9 = 0 := by rw [se_ne _ _ (by decide)]; exact F9
      rw [e9'] at y2 y4
      exact ⟨y1, fun q1 _ => y2 q1 (hpl q).2.2, fun _ q2 => absurd k1 q2, y4⟩
    · rw [if_pos k1]
      simp only [lay2_rr]
      have hpm : pm S n a = n := by unfold pm; rw [if_neg k1]
      have hpt : pt S n a = -1 := by unfold pt; rw [if_neg k1]
      obtain ⟨f', w1, w2, w3, w4⟩ := c_beginEq (M := M7) hSq hg hO hN (f := F) (hd := M7 (r + 1)) (a := a) (m := n) (t := -1) ha F1 (Or.inr hn) (fun q => by decide)
      rw [F0, w1, ClS]
      have c0 : f' 0 = n := by rw [w2 0 (Or.inl rfl)]; exact F0
      have c1 : f' 1 = a := by rw [w2 1 (Or.inr (Or.inl rfl))]; exact F1
      have c7 : f' 7 = h0_ S n a := by rw [w2 7 (Or.inr (Or.inr rfl)), F7]; unfold h0_; rw [if_neg k2, if_neg k1]
      refine done _ f' rfl ⟨c0, c1, by simp only; rw [c7]; exact h0_i32 S n a, fun q => absurd q k2, fun _ => ⟨fun q => w3 (by rw [← hpm]; exact q), fun q => ?_⟩⟩ c7
      rw [hpm] at q
      obtain ⟨y1, y2, y3, y4⟩ := w4 q
      unfold prs
      rw [hpm, hpt]
      rw [F9] at y2 y4
      exact ⟨y1, fun _ q2 => absurd q2 k1, fun q1 _ => y3 q1 rfl, y4⟩
theorem c_close {M : Mm} {bk d : Nat} (hb : isF bk) (h12 : M 310 12 = bk) {n a : Int} (hn : 0 ≤ n ∧ n < 30) (ha : 0 ≤ a ∧ a < 6) (hd : d < 181) (h9 : M 310 9 = ((d + 1 : Nat) : Int)) (f0 : M (314 + 2 * d) 0 = n) (f1 : M (314 + 2 * d) 1 = a) : ∃ M', f_X2_close (314 + 2 * d) M = some (0, M') ∧ M' (bk + 1) = se (M (bk + 1)) (6 * n + a).toNat (M (314 + 2 * d) 8) ∧ M' (bk + 2) = se (M (bk + 2)) (6 * n + a).toNat (if M (314 + 2 * d) 8 = -2 then jor (M (314 + 2 * d) 7) ALL else M (314 + 2 * d) 7) ∧ M' bk = se (M bk) 0 (wr (M bk 0 + 1)) ∧ M' 313 = se (M 313) (6 * n + a).toNat 0 ∧ M' 310 9 = (d : Int) ∧ (∀ i, i ≠ 9 → M' 310 i = M 310 i) ∧ (∀ j, j ≠ bk → j ≠ bk + 1 → j ≠ bk + 2 → j ≠ 313 → j ≠ 310 → M' j = M j) := by
  have hso : ∀ N : Mm, f_X2_setOpen (6 * n + a) 0 N = some (0, up N 313 (6 * n + a).toNat 0) := fun N => by
    unfold f_X2_setOpen
    simp only [LtE]
    rw [if_neg (by omega), if_neg (by omega), gdE (by omega)]
  have ha1 : alenC (bk + 1) = 180 := by rcases hb with rfl | rfl <;> rfl
  have ha2 : alenC (bk + 2) = 180 := by rcases hb with rfl | rfl <;> rfl
  have hk : ∀ v w : Int, f_X3_keep bk (6 * n + a) v w M = some (0, up (up (up M (bk + 1) (6 * n + a).toNat v) (bk + 2) (6 * n + a).toNat w) bk 0 (wr (M bk 0 + 1))) := fun v w => by
    unfold f_X3_keep
    rw [c_setEntry_in 180 ha1 (by omega) (by omega), ClS, c_setEntry_in 180 ha2 (by omega) (by omega), ClS]
    simp only [LtE]
    rw [show up (up M (bk + 1) (6 * n + a).toNat v) (bk + 2) (6 * n + a).toNat w bk = M bk by rw [up_ne _ _ _ (by omega), up_ne _ _ _ (by omega)]]
  unfold f_X2_close
  simp only [LtE]
  rw [f0, f1, c_slotOf (by omega) (by omega), ClS]
  have main : ∀ w : Int, ∃ M', (gd (¬ M 310 12 < 0 ∧ isF (M 310 12).toNat) (Cl (f_X3_keep (M 310 12).toNat (6 * n + a) (M (314 + 2 * d) 8) w M) fun _ M12 => Cl (f_X2_setOpen (6 * n + a) 0 M12) fun _ M13 => (some (0, up M13 310 9 (wr (M13 310 9 - 1))) : Rs))) = some (0, M') ∧ M' (bk + 1) = se (M (bk + 1)) (6 * n + a).toNat (M (314 + 2 * d) 8) ∧ M' (bk + 2) = se (M (bk + 2)) (6 * n + a).toNat w ∧ M' bk = se (M bk) 0 (wr (M bk 0 + 1)) ∧ M' 313 = se (M 313) (6 * n + a).toNat 0 ∧ M' 310 9 = (d : Int) ∧ (∀ i, i ≠ 9 → M' 310 i = M 310 i) ∧ (∀ j, j ≠ bk → j ≠ bk + 1 → j ≠ bk + 2 → j ≠ 313 → j ≠ 310 → M' j = M j) := by
    intro w
    have hb3 : bk = 299 ∨ bk = 304 := hb
    rw [h12, gdE ⟨by omega, by rw [Int.toNat_natCast]; exact hb⟩, Int.toNat_natCast, hk, ClS, hso, ClS]
    generalize hX : up (up (up (up M (bk + 1) (6 * n + a).toNat (M (314 + 2 * d) 8)) (bk + 2) (6 * n + a).toNat w) bk 0 (wr (M bk 0 + 1))) 313 (6 * n + a).toNat 0 = X
    have x310 : X 310 = M 310 := by rw [← hX, up_ne _ _ _ (by omega), up_ne _ _ _ (by omega), up_ne _ _ _ (by omega), up_ne _ _ _ (by omega)]
    rw [x310, h9, wrE (by omega) (by omega), show ((d + 1 : Nat) : Int) - 1 = d by omega]
    refine ⟨_, rfl, ?_, ?_, ?_, ?_, up_at _ _ _ _, fun i hi => ?_, fun j j1 j2 j3 j4 j5 => ?_⟩
    · rw [up_ne _ _ _ (by omega), ← hX, up_ne _ _ _ (by omega), up_ne _ _ _ (by omega), up_ne _ _ _ (by omega), up_se, sr_at]
    · rw [up_ne _ _ _ (by omega), ← hX, up_ne _ _ _ (by omega), up_ne _ _ _ (by omega), up_se, sr_at, up_ne _ _ _ (by omega)]
    · rw [up_ne _ _ _ (by omega), ← hX, up_ne _ _ _ (by omega), up_se, sr_at, up_ne _ _ _ (by omega), up_ne _ _ _ (by omega)]
    · rw [up_ne _ _ _ (by omega), ← hX, up_se, sr_at, up_ne _ _ _ (by omega), up_ne _ _ _ (by omega), up_ne _ _ _ (by omega)]
    · rw [← x310]; unfold up; rw [if_neg (fun q => hi q.2)]
    · rw [up_ne _ _ _ j5, ← hX, up_ne _ _ _ j4, up_ne _ _ _ j1, up_ne _ _ _ j3, up_ne _ _ _ j2]
  by_cases c : M (314 + 2 * d) 8 = -2
  · rw [if_neg fun q => q c, if_pos c]
    exact main _
  · rw [if_pos c, if_neg c]
    exact main _
