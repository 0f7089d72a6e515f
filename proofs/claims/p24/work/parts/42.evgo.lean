theorem lfV_ok {S : Mm} (hg : Okg S) (hN : Okn S) {m : Int} (hm : 0 ≤ m ∧ m < S 0 35) {K a b : Int} {h : Nat} (hs : StepOk S K a b) : -3 ≤ lfV S m (S 31 m.toNat) h K a b ∧ lfV S m (S 31 m.toNat) h K a b < 1000 + S 0 35 := by
  have hmn := hN.2.2 m.toNat (by omega)
  have h35 := hN.1
  have h10 := hg.1
  have hch := chN_ok hg hN hm h b
  obtain ⟨k0, k1, k2⟩ := hs
  have hm1 := hmn.2.1
  unfold lfV
  by_cases c0 : K = 0
  · rw [if_pos c0]
    rw [if_neg (by omega), if_pos c0] at k1
    omega
  rw [if_neg c0]
  by_cases c3 : K = 3
  · rw [if_pos c3]
    rw [if_neg (by omega)] at k1
    by_cases c : h = 0 ∧ a < S 6 (S 30 m.toNat).toNat
    · have hP := (hg.2.2.2.1 _ hmn.1.1 hmn.1.2).2.2.2.2.2.2.2.1 a k1.1 c.2
      rw [if_pos c]; omega
    · rw [if_neg c]; omega
  rw [if_neg c3]
  by_cases c4 : K = 4
  · rw [if_pos c4]
    have hj := jand_one (jshr (S 35 m.toNat) a)
    split <;> omega
  rw [if_neg c4]
  by_cases c5 : K = 5
  · rw [if_pos c5]; omega
  rw [if_neg c5]
  by_cases c6 : K = 6
  · rw [if_pos c6]
    split <;> omega
  rw [if_neg c6]
  split <;> omega
theorem SC.of {M M' S : Mm} (h : SC M S) (hO : Oke S) (e : ∀ j, j ≤ 272 ∨ (283 ≤ j ∧ j ≤ 289) → M' j = M j) : SC M' S := by
  obtain ⟨h1, h2⟩ := h
  refine ⟨h1.of hO fun k hk => e k (Or.inl hk), ?_⟩
  unfold CN at h2 ⊢
  rw [e 283 (by omega), e 284 (by omega), e 285 (by omega), e 286 (by omega), e 287 (by omega), e 288 (by omega), e 289 (by omega)]
  exact h2
theorem SC.lay2_ {M S : Mm} (h : SC M S) (hO : Oke S) {r : Nat} (hr : isR r) (q : (Nat → Int) × (Nat → Int)) : SC (lay2 M r q) S := h.of hO fun j hj => (lay2_at M r q).2.2 j (by omega) (by omega)
def tkw (S : Mm) (q : (Nat → Int) × (Nat → Int)) (w : Int) : (Nat → Int) × (Nat → Int) :=
  if S 12 (q.1 1).toNat ≠ 2 ∨ w = -2 ∨ w = -3 then (stl q.1 w, q.2)
  else if q.1 11 = 0 ∧ w = 1000 + q.1 0 then (se q.1 11 1, q.2)
  else (bgn S (if q.1 11 ≠ 0 ∧ 0 ≤ w ∧ w < 1000 then se q.1 12 (jrem (wr (q.1 12 + w)) 1000) else q.1) (gift S (S 16 (q.1 10).toNat) (S 17 (q.1 10).toNat) ((q.1 10).toNat + 1)), q.2)
def VG (S : Mm) (f : Nat → Int) : Prop := S 12 (f 1).toNat = 2 → 0 ≤ f 10 ∧ f 10 < S 0 19 ∧ mt S (S 16 (f 10).toNat) (S 17 (f 10).toNat) (-2) (f 10).toNat = true
theorem c_takeWhole {M S : Mm} {r : Nat} (hS : SC M S) (hg : Okg S) (hO : Oke S) (hN : Okn S) (hr : isR r) {q : (Nat → Int) × (Nat → Int)} (hn : 0 ≤ q.1 0 ∧ q.1 0 < S 0 35) (ha : 0 ≤ q.1 1 ∧ q.1 1 < S 0 12) (h2 : -1 ≤ q.1 2 ∧ q.1 2 < S 0 35) (hv : VG S q.1) (w : Int) : f_X2_takeWhole r w (lay2 M r q) = some (0, lay2 M r (tkw S q w)) := by
  have hSq := fun q => hS.lay2_ hO hr q
  have h35 := hN.1
  have h30 := hO.1
  unfold f_X2_takeWhole tkw
  simp only [LtE]
  rw [(lay2_at M r q).1, g_kind (hSq q).1.1 hg, ClS, if_pos ha]
  by_cases c1 : S 12 (q.1 1).toNat = 2
  case neg => rw [if_pos c1, lay2_settle, ClS, if_pos (Or.inl c1)]
  rw [if_neg fun q => q c1]
  by_cases c2 : w = -2
  · rw [if_pos c2, lay2_settle, ClS, if_pos (Or.inr (Or.inl c2))]
  rw [if_neg c2]
  by_cases c3 : w = -3
  · rw [if_neg fun q => q c3, lay2_settle, ClS, if_pos (Or.inr (Or.inr c3))]
  rw [if_pos c3, if_neg (c := S 12 (q.1 1).toNat ≠ 2 ∨ _) (fun q => q.elim (fun q => q c1) fun q => q.elim c2 c3)]
  obtain ⟨v1, v2, v3⟩ := hv c1
  have hng : ∀ x : Nat → Int, x 10 = q.1 10 → f_X1_nextGiftOf (x 10) (lay2 M r (x, q.2)) = some (gift S (S 16 (q.1 10).toNat) (S 17 (q.1 10).toNat) ((q.1 10).toNat + 1), lay2 M r (x, q.2)) := by
    intro x hx
    have := (hSq (x, q.2)).1.2.2.2.2.1.2 (q.1 10).toNat (by omega) v3
    unfold f_X1_nextGiftOf
    simp only [LtE]
    rw [hx, if_neg (by omega), if_neg (by omega), gdE (by omega), this]
  have hgo : ∀ g : Int, (g = gift S (S 16 (q.1 10).toNat) (S 17 (q.1 10).toNat) ((q.1 10).toNat + 1)) → g = -1 ∨ (0 ≤ g ∧ g < S 0 19) := fun g hgg => by
    rw [hgg]
    rcases gift_ok (S := S) (S 16 (q.1 10).toNat) (S 17 (q.1 10).toNat) ((q.1 10).toNat + 1) with h | h
    · exact Or.inl h
    · exact Or.inr ⟨h.1, h.2.1⟩
  have hrest : ∀ (x : Nat → Int), x 10 = q.1 10 → x 1 = q.1 1 → x 2 = q.1 2 → (Cl (f_X1_nextGiftOf (lay2 M r (x, q.2) r 10) (lay2 M r (x, q.2))) fun v18 M17 => Cl (f_X2_beginGift r v18 M17) fun _ M19 => (some (0, M19) : Rs)) = some (0, lay2 M r (bgn S x (gift S (S 16 (q.1 10).toNat) (S 17 (q.1 10).toNat) ((q.1 10).toNat + 1)), q.2)) := by
    intro x e10 e1 e2
    rw [(lay2_at M r _).1]
    simp only
    rw [hng x e10, ClS, c_beginGift hSq hg hO hN hr (by simp only; rw [e1]; exact ha) (by simp only; rw [e2]; exact h2) (hgo _ rfl), ClS]
  have hq : lay2 M r q = lay2 M r (q.1, q.2) := rfl
  have hsum : (if q.1 11 = 0 then (Cl (f_X1_nextGiftOf (lay2 M r q r 10) (lay2 M r q)) fun v18 M17 => Cl (f_X2_beginGift r v18 M17) fun _ M19 => (some (0, M19) : Rs)) else if w < 0 then (Cl (f_X1_nextGiftOf (lay2 M r q r 10) (lay2 M r q)) fun v18 M17 => Cl (f_X2_beginGift r v18 M17) fun _ M19 => some (0, M19)) else if 1000 ≤ w then (Cl (f_X1_nextGiftOf (lay2 M r q r 10) (lay2 M r q)) fun v18 M17 => Cl (f_X2_beginGift r v18 M17) fun _ M19 => some (0, M19)) else (Cl (f_X1_nextGiftOf (up (lay2 M r q) r 12 (jrem (wr (q.1 12 + w)) 1000) r 10) (up (lay2 M r q) r 12 (jrem (wr (q.1 12 + w)) 1000))) fun v18 M17 => Cl (f_X2_beginGift r v18 M17) fun _ M19 => some (0, M19))) = some (0, lay2 M r (bgn S (if q.1 11 ≠ 0 ∧ 0 ≤ w ∧ w < 1000 then se q.1 12 (jrem (wr (q.1 12 + w)) 1000) else q.1) (gift S (S 16 (q.1 10).toNat) (S 17 (q.1 10).toNat) ((q.1 10).toNat + 1)), q.2)) := by
    have h0 := hrest q.1 rfl rfl rfl
    by_cases c4 : q.1 11 = 0
    · rw [if_pos c4, if_neg (c := q.1 11 ≠ 0 ∧ _) (fun q => q.1 c4)]; exact h0
    · rw [if_neg c4]
      by_cases c5 : w < 0
      · rw [if_pos c5, if_neg (c := q.1 11 ≠ 0 ∧ _) (fun q => by omega)]; exact h0
      · rw [if_neg c5]
        by_cases c6 : 1000 ≤ w
        · rw [if_pos c6, if_neg (c := q.1 11 ≠ 0 ∧ _) (fun q => by omega)]; exact h0
        · rw [if_neg c6, if_pos (c := q.1 11 ≠ 0 ∧ _) ⟨c4, by omega, by omega⟩, lay2_up]
          exact hrest _ (se_ne _ _ (show (10 : Nat) ≠ 12 by decide)) (se_ne _ _ (show (1 : Nat) ≠ 12 by decide)) (se_ne _ _ (show (2 : Nat) ≠ 12 by decide))
  have e11 : lay2 M r q r 11 = q.1 11 := by rw [(lay2_at M r q).1]
  have e12 : lay2 M r q r 12 = q.1 12 := by rw [(lay2_at M r q).1]
  have e00 : lay2 M r q r 0 = q.1 0 := by rw [(lay2_at M r q).1]
  rw [e11, e12, e00]
  by_cases c4 : q.1 11 = 0
  · rw [if_neg (c := ¬ q.1 11 = 0) (fun q => q c4), wrE (v := 1000 + q.1 0) (by omega) (by omega)]
    by_cases c5 : w = 1000 + q.1 0
    · rw [if_neg fun q => q c5, if_pos (c := q.1 11 = 0 ∧ _) ⟨c4, c5⟩, lay2_up]
    · rw [if_pos c5, if_neg (c := q.1 11 = 0 ∧ w = _) (fun q => c5 q.2)]
      exact hsum
  · rw [if_pos (c := ¬ q.1 11 = 0) c4, if_neg (c := q.1 11 = 0 ∧ w = _) (fun q => c4 q.1)]
    exact hsum
theorem tku_cells {C : Mm} {k : Nat} (u here v : Int) (q : (Nat → Int) × (Nat → Int)) {i : Nat} (hi : i ≠ 6) : (tku C k u here v q).2.1 i = q.1 i := by
  unfold tku
  repeat' split
  all_goals first | rfl | exact se_ne _ _ hi
theorem clb_cells {C : Mm} {k : Nat} {i : Nat} (hi : i ≠ 6) : ∀ f here w (q : (Nat → Int) × (Nat → Int)), (clb C k f here w q).2.1 i = q.1 i := by
  intro f
  induction f with
  | zero => exact fun _ _ _ => rfl
  | succ f ih =>
    intro here w q
    simp only [clb]
    by_cases c1 : fe C k 4 here = -1
    · rw [if_pos c1]; exact se_ne _ _ hi
    · rw [if_neg c1]
      have hx : (if w < 0 then (w, q) else tku C k (fe C k 4 here) here w q).2.1 i = q.1 i := by
        split
        · rfl
        · exact tku_cells _ _ _ _ hi
      generalize (if w < 0 then (w, q) else tku C k (fe C k 4 here) here w q) = X at hx
      split
      · exact hx
      · rw [ih]; exact hx
def af (S C : Mm) (q : (Nat → Int) × (Nat → Int)) (v : Int) : (Nat → Int) × (Nat → Int) :=
  if q.1 5 = -1 then (stl q.1 v, q.2)
  else if (clb C (fk q) 8 (q.1 6) v q).1 = -7 then (clb C (fk q) 8 (q.1 6) v q).2 else tkw S (clb C (fk q) 8 (q.1 6) v q).2 (clb C (fk q) 8 (q.1 6) v q).1
theorem c_goOn {N S C : Mm} {bk r : Nat} {l : List Int} (hS : SC N S) (hg : Okg S) (hO : Oke S) (hN : Okn S) (hb : isF bk) (h12 : N 310 12 = bk) (hr : isR r) (hl : LsO N l) (hC : ∀ j, 33 ≤ j → j ≤ 272 → N j = C j) (hv : VF S (N r, N (r + 1))) (hG : VG S (N r)) :
    (lkQ S (N r, N (r + 1)) = -1 → f_X2_goOn r N = some (1, lay2 N r (af S C (N r, N (r + 1)) (vlQ S (N r, N (r + 1)))))) ∧
    (lkQ S (N r, N (r + 1)) ≠ -1 → (0 ≤ lkQ S (N r, N (r + 1)) ∧ lkQ S (N r, N (r + 1)) / 6 < S 0 35 ∧ lkQ S (N r, N (r + 1)) % 6 < S 0 12) ∧ ∃ N1, LkR S N bk r l (lkQ S (N r, N (r + 1))) N1 ∧ (Lm S N bk (lkQ S (N r, N (r + 1))).toNat = none → f_X2_goOn r N = some (0, N1)) ∧ (∀ v b, Lm S N bk (lkQ S (N r, N (r + 1))).toNat = some (v, b) → v ≠ -8 → f_X2_goOn r N = some (1, lay2 N1 r (af S C (N1 r, N1 (r + 1)) v)))) := by
  have h6 := hg.2.1
  obtain ⟨v1, v2, v3, v4, v5, v6⟩ := hv
  simp only at v1 v2 v3 v4 v5 v6
  have h30 := hO.1
  have h35 := hN.1
  have hself : lay2 N r (N r, N (r + 1)) = N := lay2_self N r
  have cl : ∀ (N1 : Mm) (k : Nat) (v : Int), k < 30 → SC N1 S → (∀ j, 33 ≤ j → j ≤ 272 → N1 j = C j) → (∀ i, i ≠ 7 → N1 r i = N r i) → N r 5 = ((33 + 8 * k : Nat) : Int) → fk (N1 r, N1 (r + 1)) = k → (Cl (f_X4_climb r (33 + 8 * k) (N r 6) v N1) fun v9 M8 => if v9 = -7 then (some (1, M8) : Rs) else Cl (f_X2_takeWhole r v9 M8) fun _ M13 => some (1, M13)) = some (1, lay2 N1 r (af S C (N1 r, N1 (r + 1)) v)) := by
    intro N1 k v hk hS1 hC1 hr1 hk5 hfk
    have h1 := c_climb (M := N1) (C := C) (q := (N1 r, N1 (r + 1))) (here := N r 6) (v := v) hr hk (fun j j1 j2 => hC1 _ (by omega) (by omega))
    rw [lay2_self] at h1
    rw [h1, ClS]
    unfold af
    simp only
    rw [hr1 5 (by decide), hk5, if_neg (c := ((33 + 8 * k : Nat) : Int) = -1) (by omega), hfk, hr1 6 (by decide)]
    generalize hx : clb C k 8 (N r 6) v (N1 r, N1 (r + 1)) = x
    have hcells : ∀ i, i ≠ 6 → x.2.1 i = N1 r i := fun i hi => by rw [← hx]; exact clb_cells hi _ _ _ _
    by_cases c : x.1 = -7
    · rw [if_pos c, if_pos c]
    · rw [if_neg c, if_neg c, c_takeWhole hS1 hg hO hN hr (by rw [hcells 0 (by decide), hr1 0 (by decide)]; exact v3) (by rw [hcells 1 (by decide), hr1 1 (by decide)]; exact v4) (by rw [hcells 2 (by decide), hr1 2 (by decide)]; omega) (by
        unfold VG at hG ⊢
        rw [hcells 1 (by decide), hcells 10 (by decide), hr1 1 (by decide), hr1 10 (by decide)]
        exact hG), ClS]
  rcases v6 with ⟨e5, e1⟩ | ⟨k, h, hve⟩
  · have hlk : lkQ S (N r, N (r + 1)) = 6 * N r 2 + N r 1 := by unfold lkQ; simp only; rw [if_pos e5]
    rw [hlk]
    refine ⟨fun e => by omega, fun _ => ⟨by omega, ?_⟩⟩
    obtain ⟨N', t1, t2, t3⟩ := c_lookAt hS.1.1 hg h35.2 hb h12 hr v2 hl v5 v4
    refine ⟨N', ⟨t2, t3⟩, fun hno => ?_, fun v b hsome hv8 => ?_⟩
    · unfold f_X2_goOn
      simp only [LtE]
      rw [e5, if_neg (by decide), t1, ClS, hno]
      rfl
    · unfold f_X2_goOn
      simp only [LtE]
      rw [e5, if_neg (by decide), t1, ClS, hsome, show (some (v, b) : Option (Int × Int)).elim (-8) (fun x => x.1) = v from rfl]
      have h2 := lay2_settle (M := N') (r := r) (N' r, N' (r + 1)) v
      rw [lay2_self] at h2
      rw [if_neg hv8, h2, ClS, if_neg hv8]
      unfold af
      have e5' : N' r 5 = -1 := by
        rw [t2, hsome]
        simp only [Option.elim]
        rw [se_ne _ _ (by decide)]; exact e5
      simp only
      rw [if_pos e5']
  · have hfk := fk_of hve
    have hk := hve.1
    have e5 := hve.2.1
    simp only at e5
    obtain ⟨w1, w2⟩ := c_lookAtStep hS hg hO hN hb h12 hr hl v2 v5 hve
    have hpre : ∀ {A : Rs}, f_X2_goOn r N = (Cl (f_X2_lookAtStep r (33 + 8 * k) (N r 6) N) fun v6 M5 => if ¬ v6 = -8 then (Cl (f_X4_climb r (33 + 8 * k) (N r 6) v6 M5) fun v9 M8 => if v9 = -7 then (some (1, M8) : Rs) else Cl (f_X2_takeWhole r v9 M8) fun _ M13 => some (1, M13)) else some (0, M5)) := by
      intro A
      unfold f_X2_goOn
      simp only [LtE]
      rw [e5, if_pos (by omega), gdE ⟨by omega, by rw [Int.toNat_natCast]; exact isE_k (by omega)⟩, Int.toNat_natCast]
    refine ⟨fun e => ?_, fun e => ?_⟩
    · rw [hpre (A := none), w1 e, ClS]
      have hne : vlQ S (N r, N (r + 1)) ≠ -8 := by
        obtain ⟨u1, u2, u3, u4, u5, u6, u7⟩ := hve
        simp only at u2 u3 u4 u6 u7
        have hiN : (N r 6).toNat < eN S k := by omega
        obtain ⟨o1, o2, o3, o4, o5, o6, -⟩ := hO.2.1 k hk
        have := lfV_ok hg hN v5 (h := (N r 4).toNat) (o6 (N r 6).toNat hiN).1
        unfold vlQ
        simp only
        rw [hfk]
        omega
      rw [if_pos (c := ¬ vlQ S (N r, N (r + 1)) = -8) hne]
      exact cl N k _ (by omega) hS hC (fun _ _ => rfl) e5 hfk
    · obtain ⟨z1, N1, z2, z3⟩ := w2 e
      refine ⟨z1, N1, z3, fun hno => ?_, fun v b hsome hv8 => ?_⟩
      · rw [hpre (A := none), z2, ClS, hno]
        rfl
      · rw [hpre (A := none), z2, ClS, hsome, show (some (v, b) : Option (Int × Int)).elim (-8) (fun x => x.1) = v from rfl]
        rw [if_pos (c := ¬ v = -8) hv8]
        obtain ⟨y1, y2, y3, y4, y5⟩ := z3
        rw [hsome] at y1
        simp only [Option.elim] at y1
        have hr1 : ∀ i, i ≠ 7 → N1 r i = N r i := fun i hi => by rw [y1, se_ne _ _ hi]
        refine cl N1 k v (by omega) (hS.of hO fun j hj => y2 j (by omega) (by omega) (by omega)) (fun j j1 j2 => (y2 j (by omega) (by omega) (by omega)).trans (hC j j1 j2)) hr1 e5 ?_
        unfold fk at hfk ⊢
        simp only at hfk ⊢
        rw [hr1 5 (by decide)]; exact hfk
