/-! the stack of steps -/
theorem stk_congr {K K' : Nat → Int} : ∀ n, (∀ i, i < n → K' i = K i) → stk K' n = stk K n := by
  intro n
  induction n with
  | zero => intro _; rfl
  | succ n ih => intro h; simp only [stk]; rw [ih fun i hi => h i (by omega), h n (by omega)]
theorem stk_lt (K : Nat → Int) : ∀ n, ∀ r ∈ stk K n, r < n := by
  intro n
  induction n with
  | zero => intro r h; cases h
  | succ n ih =>
    intro r h
    simp only [stk, List.mem_cons] at h
    rcases h with rfl | h
    · omega
    · have := ih r (List.mem_of_mem_drop h); omega
theorem stk_sorted (K : Nat → Int) : ∀ n, (stk K n).Pairwise (· > ·) := by
  intro n
  induction n with
  | zero => exact List.Pairwise.nil
  | succ n ih =>
    simp only [stk]
    refine List.Pairwise.cons (fun r h => stk_lt K n r (List.mem_of_mem_drop h)) (ih.sublist (List.drop_sublist _ _))
theorem opr_mem {K : Nat → Int} {k j : Nat} (hj : j < tkn (K k)) (hl : tkn (K k) ≤ (stk K k).length) : opr K k j ∈ stk K k := by
  unfold opr
  rw [List.getD_eq_getElem?_getD, List.getElem?_eq_getElem (by omega)]
  exact List.getElem_mem _
theorem opr_lt {K : Nat → Int} {k j : Nat} (hj : j < tkn (K k)) (hl : tkn (K k) ≤ (stk K k).length) : opr K k j < k := stk_lt K k _ (opr_mem hj hl)
theorem opr_congr {K K' : Nat → Int} {k : Nat} (h : ∀ i, i ≤ k → K' i = K i) (j : Nat) : opr K' k j = opr K k j := by
  unfold opr; rw [stk_congr k fun i hi => h i (by omega), h k (Nat.le_refl _)]
theorem sta_congr {K K' : Nat → Int} {n : Nat} (hl : ∀ k, k < n → tkn (K k) ≤ (stk K k).length) (h : ∀ i, i < n → K' i = K i) : ∀ f k, k < n → sta K' f k = sta K f k := by
  intro f
  induction f with
  | zero => intro k _; rfl
  | succ f ih =>
    intro k hk
    simp only [sta]
    rw [h k hk]
    by_cases e : tkn (K k) = 0
    · rw [if_pos e, if_pos e]
    · rw [if_neg e, if_neg e, opr_congr fun i hi => h i (by omega)]
      exact ih _ (by have := opr_lt (K := K) (k := k) (j := 0) (by omega) (hl k hk); omega)
theorem sta_fuel {K : Nat → Int} {n : Nat} (hl : ∀ k, k < n → tkn (K k) ≤ (stk K k).length) : ∀ f k, k < n → k ≤ f → ∀ g, k ≤ g → sta K f k = sta K g k := by
  intro f
  induction f with
  | zero =>
    intro k hk hf g hg
    have : k = 0 := by omega
    subst this
    cases g with
    | zero => rfl
    | succ g =>
      simp only [sta]
      have := hl 0 hk
      simp only [stk, List.length_nil] at this
      rw [if_pos (by omega)]
  | succ f ih =>
    intro k hk hf g hg
    by_cases e : tkn (K k) = 0
    · cases g with
      | zero => simp only [sta]; rw [if_pos e]
      | succ g => simp only [sta]; rw [if_pos e, if_pos e]
    · have h1 := opr_lt (K := K) (k := k) (j := 0) (by omega) (hl k hk)
      cases g with
      | zero => omega
      | succ g =>
        simp only [sta]
        rw [if_neg e, if_neg e]
        exact ih _ (by omega) (by omega) g (by omega)
theorem rev_getD (l : List Nat) (i : Nat) (h : i < l.length) : l.reverse.getD i 0 = l.getD (l.length - 1 - i) 0 := by
  rw [List.getD_eq_getElem?_getD, List.getD_eq_getElem?_getD, List.getElem?_reverse h]
theorem c_appLoop {M : Mm} {l : List Nat} {n t : Nat} (hn : n < 8) (ht : t ≤ 3) (htl : t ≤ l.length) (hl8 : l.length ≤ 8) (hlt : ∀ r ∈ l, r < 8) (hs : l.Pairwise (· > ·)) (e4 : M 14 4 = n) (e5 : M 14 5 = ((l.length - t : Nat) : Int)) (hst : ∀ i, i < l.length → M 21 i = ((l.reverse.getD i 0 : Nat) : Int)) {J : Int → Mm → Rs} {Q : Int × Mm → Prop}
    (hQ : ∀ (v : Int) (M' : Mm), (t = 0 → v = n) → (0 < t → v = M 20 (l.getD (t - 1) 0)) → (∀ k, k ≠ 18 → k ≠ 19 → M' k = M k) → (∀ j, j < t → M' 18 (l.getD (t - 1 - j) 0) = n ∧ M' 19 (l.getD (t - 1 - j) 0) = j) → (∀ i, (∀ j, j < t → i ≠ l.getD (t - 1 - j) 0) → M' 18 i = M 18 i ∧ M' 19 i = M 19 i) → Wp (J v M') Q) :
    Wp (Lp (f_X0_append_L45_57 14 t J) FU (n, 0, M)) Q := by
  have hg : ∀ j, j < l.length → l.getD j 0 < 8 := fun j hj => by
    rw [List.getD_eq_getElem?_getD, List.getElem?_eq_getElem hj]; exact hlt _ (List.getElem_mem _)
  have hinj : ∀ i j, i < j → j < l.length → l.getD i 0 ≠ l.getD j 0 := fun i j hij hj => by
    rw [List.getD_eq_getElem?_getD, List.getElem?_eq_getElem (by omega), List.getD_eq_getElem?_getD, List.getElem?_eq_getElem hj]
    have := List.pairwise_iff_getElem.mp hs i j (by omega) hj hij
    simp only [Option.getD_some]
    omega
  refine Wp_lp (fun (s : Int × Int × Mm) => ∃ j : Nat, j ≤ t ∧ s.2.1 = j ∧ (j = 0 → s.1 = n) ∧ (0 < j → s.1 = M 20 (l.getD (t - 1) 0)) ∧ (∀ k, k ≠ 18 → k ≠ 19 → s.2.2 k = M k) ∧ (∀ i, i < j → s.2.2 18 (l.getD (t - 1 - i) 0) = n ∧ s.2.2 19 (l.getD (t - 1 - i) 0) = i) ∧ (∀ i, (∀ j', j' < j → i ≠ l.getD (t - 1 - j') 0) → s.2.2 18 i = M 18 i ∧ s.2.2 19 i = M 19 i)) (fun s => (t - s.2.1).toNat) ?_ FU _ ⟨0, by omega, rfl, fun _ => rfl, fun h => absurd h (Nat.lt_irrefl _), fun _ _ _ => rfl, fun i hi => absurd hi (Nat.not_lt_zero _), fun _ _ => ⟨rfl, rfl⟩⟩ (FU_lt (by simp only; omega))
  rintro rc ⟨v, j0, M'⟩ ⟨j, hj, ej, h1, h2, h3, h4, h5⟩ ih
  simp only at ej h1 h2 h3 h4 h5 ih
  subst ej
  simp only [f_X0_append_L45_57, LtE]
  by_cases c : (t : Int) ≤ j
  · have : j = t := by omega
    subst this
    rw [if_pos c]
    exact hQ v M' h1 h2 h3 h4 h5
  rw [if_neg c, h3 14 (by decide) (by decide), e5, wrE (by omega) (by omega)]
  have hop : M' 21 (((l.length - t : Nat) : Int) + j).toNat = ((l.getD (t - 1 - j) 0 : Nat) : Int) := by
    rw [h3 21 (by decide) (by decide), show (((l.length - t : Nat) : Int) + j).toNat = l.length - t + j by omega, hst _ (by omega), rev_getD _ _ (by omega)]
    congr 2; omega
  have hop8 := hg (t - 1 - j) (by omega)
  rw [c_entryOf_in 8 alenC_21 (by omega) (by omega), ClS, hop, h3 14 (by decide) (by decide), e4, c_setEntry_in 8 alenC_18 (by omega) (by omega), ClS, c_setEntry_in 8 alenC_19 (by omega) (by omega), ClS, Int.toNat_natCast]
  have hfin : ∀ v' : Int, v' = (if j = 0 then M 20 (l.getD (t - 1) 0) else v) → Wp (rc (v', wr ((j : Int) + 1), up (up M' 18 (l.getD (t - 1 - j) 0) n) 19 (l.getD (t - 1 - j) 0) j)) Q := by
    intro v' hv
    rw [wrE (by omega) (by omega)]
    refine ih _ ⟨j + 1, by omega, by simp only; omega, fun h => absurd h (Nat.succ_ne_zero _), fun _ => ?_, fun k k1 k2 => ?_, fun i hi => ?_, fun i hi => ?_⟩ (by simp only; omega)
    · simp only; rw [hv]; split
      · rfl
      · exact h2 (by omega)
    · simp only; rw [up_ne _ _ _ k2, up_ne _ _ _ k1, h3 k k1 k2]
    · simp only
      by_cases e : i = j
      · subst e; simp [up]
      · have := hinj (t - 1 - j) (t - 1 - i) (by omega) (by omega)
        have h9 := h4 i (by omega)
        refine ⟨?_, ?_⟩
        · rw [up_ne _ _ _ (by decide), up_se, sr_at, se_ne _ _ (fun q => this q.symm)]; exact h9.1
        · rw [up_se, sr_at, se_ne _ _ (fun q => this q.symm), up_ne _ _ _ (by decide)]; exact h9.2
    · simp only
      have h9 := h5 i fun j' hj' => hi j' (by omega)
      have h8 := hi j (by omega)
      refine ⟨?_, ?_⟩
      · rw [up_ne _ _ _ (by decide), up_se, sr_at, se_ne _ _ h8]; exact h9.1
      · rw [up_se, sr_at, se_ne _ _ h8, up_ne _ _ _ (by decide)]; exact h9.2
  by_cases c0 : j = 0
  · rw [if_neg (by omega), c_entryOf_in 8 alenC_20 (by omega) (by omega), ClS]
    refine hfin _ ?_
    rw [if_pos c0, up_ne _ _ _ (by decide), up_ne _ _ _ (by decide), h3 20 (by decide) (by decide), Int.toNat_natCast, c0]
    rfl
  · rw [if_pos (by omega)]
    exact hfin _ (by rw [if_neg c0])
theorem stk_len {K : Nat → Int} {n : Nat} : (stk K (n + 1)).length = (stk K n).length - tkn (K n) + 1 := by
  simp only [stk, List.length_cons, List.length_drop]
theorem stk_len_le (K : Nat → Int) : ∀ n, (stk K n).length ≤ n := by
  intro n
  induction n with
  | zero => exact Nat.le_refl _
  | succ n ih => rw [stk_len]; omega
theorem se_below {f : Nat → Int} {n : Nat} {v : Int} : ∀ i, i < n → se f n v i = f i := fun i hi => se_ne _ _ (by omega)
/-- a step more in the draft -/
theorem c_append {M : Mm} {K A B : Nat → Int} {n : Nat} {kd a b : Int} (hn : n < 8) (e4 : M 14 4 = n) (e5 : M 14 5 = ((stk K n).length : Int)) (hl : ∀ k, k < n → tkn (K k) ≤ (stk K k).length) (ht : tkn kd ≤ (stk K n).length) (hC : CSt M 14 K A B n) (hst : ∀ i, i < (stk K n).length → M 21 i = (((stk K n).reverse.getD i 0 : Nat) : Int)) :
    Wp (f_X0_append 14 kd a b M) fun r => r.2 14 4 = ((n + 1 : Nat) : Int) ∧ r.2 14 5 = ((stk (se K n kd) (n + 1)).length : Int) ∧ CSt r.2 14 (se K n kd) (se A n a) (se B n b) (n + 1) ∧ (∀ i, i < (stk (se K n kd) (n + 1)).length → r.2 21 i = (((stk (se K n kd) (n + 1)).reverse.getD i 0 : Nat) : Int)) ∧ (∀ j, ¬ (14 ≤ j ∧ j ≤ 21) → r.2 j = M j) := by
  have hlen := stk_len_le K n
  have ht3 := tkn_le kd
  have hK' : ∀ i, i < n → se K n kd i = K i := se_below
  have hs' : stk (se K n kd) n = stk K n := stk_congr n hK'
  have hl1 : (stk (se K n kd) (n + 1)).length = (stk K n).length - tkn kd + 1 := by rw [stk_len, hs', se_at]
  unfold f_X0_append
  rw [c_operandsOf, ClS]
  simp only [LtE]
  rw [e4, e5, if_neg (by omega), if_pos (by omega), wrE (by omega) (by omega), show ((stk K n).length : Int) - (tkn kd : Int) = (((stk K n).length - tkn kd : Nat) : Int) by omega]
  generalize hM1 : up M 14 5 (((stk K n).length - tkn kd : Nat) : Int) = M1
  have u14 : ∀ i, i ≠ 5 → M1 14 i = M 14 i := fun i hi => by rw [← hM1]; simp [up, hi]
  have u145 : M1 14 5 = (((stk K n).length - tkn kd : Nat) : Int) := by rw [← hM1, up_at]
  have ur : ∀ j, j ≠ 14 → M1 j = M j := fun j hj => by rw [← hM1, up_ne _ _ _ hj]
  refine c_appLoop hn ht3 ht (by omega) (fun r hr => by have := stk_lt K n r hr; omega) (stk_sorted K n) (by rw [u14 4 (by decide), e4]) u145 (fun i hi => by rw [ur 21 (by decide)]; exact hst i hi) ?_
  intro v M2 v0 v1 f1 f2 f3
  have g14 : M2 14 = M1 14 := f1 14 (by decide) (by decide)
  have h4 : M2 14 4 = (n : Int) := by rw [g14, u14 4 (by decide), e4]
  have h5 : M2 14 5 = (((stk K n).length - tkn kd : Nat) : Int) := by rw [g14, u145]
  rw [h4, c_setEntry_in 8 alenC_15 (by omega) (by omega), ClS]
  have a1 : ∀ (X : Mm) (r : Nat) (w : Int), r ≠ 14 → up X r ((n : Int).toNat) w 14 = X 14 := fun X r w hr => up_ne _ _ _ (fun q => hr q.symm)
  rw [a1 _ 15 _ (by decide), h4, c_setEntry_in 8 alenC_16 (by omega) (by omega), ClS, a1 _ 16 _ (by decide), a1 _ 15 _ (by decide), h4, c_setEntry_in 8 alenC_17 (by omega) (by omega), ClS, a1 _ 17 _ (by decide), a1 _ 16 _ (by decide), a1 _ 15 _ (by decide), h4, c_setEntry_in 8 alenC_18 (by omega) (by omega), ClS, a1 _ 18 _ (by decide), a1 _ 17 _ (by decide), a1 _ 16 _ (by decide), a1 _ 15 _ (by decide), h4, c_setEntry_in 8 alenC_19 (by omega) (by omega), ClS, a1 _ 19 _ (by decide), a1 _ 18 _ (by decide), a1 _ 17 _ (by decide), a1 _ 16 _ (by decide), a1 _ 15 _ (by decide), h4, c_setEntry_in 8 alenC_20 (by omega) (by omega), ClS, a1 _ 20 _ (by decide), a1 _ 19 _ (by decide), a1 _ 18 _ (by decide), a1 _ 17 _ (by decide), a1 _ 16 _ (by decide), a1 _ 15 _ (by decide), h4, h5, c_setEntry_in 8 alenC_21 (by omega) (by omega), ClS]
  rw [Int.toNat_natCast, Int.toNat_natCast]
  generalize hX : up (up (up (up (up (up (up M2 15 n kd) 16 n a) 17 n b) 18 n (-1)) 19 n 0) 20 n v) 21 ((stk K n).length - tkn kd) (n : Int) = X
  have x14 : X 14 = M2 14 := by rw [← hX]; simp [up_ne]
  have x15 : X 15 = se (M 15) n kd := by rw [← hX]; simp [up_ne, up_se, sr_at, f1, ur, sr_ne]
  have x16 : X 16 = se (M 16) n a := by rw [← hX]; simp [up_ne, up_se, sr_at, f1, ur, sr_ne]
  have x17 : X 17 = se (M 17) n b := by rw [← hX]; simp [up_ne, up_se, sr_at, f1, ur, sr_ne]
  have x18 : X 18 = se (M2 18) n (-1) := by rw [← hX]; simp [up_ne, up_se, sr_at, sr_ne]
  have x19 : X 19 = se (M2 19) n 0 := by rw [← hX]; simp [up_ne, up_se, sr_at, sr_ne]
  have x20 : X 20 = se (M 20) n v := by rw [← hX]; simp [up_ne, up_se, sr_at, f1, ur, sr_ne]
  have x21 : X 21 = se (M 21) ((stk K n).length - tkn kd) n := by rw [← hX]; simp [up_ne, up_se, sr_at, f1, ur, sr_ne]
  have xr : ∀ j, ¬ (14 ≤ j ∧ j ≤ 21) → X j = M j := fun j hj => by
    rw [← hX, up_ne _ _ _ (by omega), up_ne _ _ _ (by omega), up_ne _ _ _ (by omega), up_ne _ _ _ (by omega), up_ne _ _ _ (by omega), up_ne _ _ _ (by omega), up_ne _ _ _ (by omega), f1 j (by omega) (by omega), ur j (by omega)]
  have e145 : X 14 5 = (((stk K n).length - tkn kd : Nat) : Int) := by rw [x14, h5]
  rw [e145, wrE (by omega) (by omega)]
  have e144 : up X 14 5 ((((stk K n).length - tkn kd : Nat) : Int) + 1) 14 4 = n := by simp [up, x14, h4]
  rw [e144, wrE (by omega) (by omega)]
  generalize hY : up (up X 14 5 ((((stk K n).length - tkn kd : Nat) : Int) + 1)) 14 4 ((n : Int) + 1) = Y
  have yr : ∀ j, j ≠ 14 → Y j = X j := fun j hj => by rw [← hY, up_ne _ _ _ hj, up_ne _ _ _ hj]
  have hop : ∀ j, opr (se K n kd) n j = (stk K n).getD (tkn kd - 1 - j) 0 := fun j => by unfold opr; rw [hs', se_at]
  have hopm : ∀ j, j < tkn kd → (stk K n).getD (tkn kd - 1 - j) 0 ∈ stk K n := fun j hj => by
    rw [List.getD_eq_getElem?_getD, List.getElem?_eq_getElem (by omega)]; exact List.getElem_mem _
  have hopn : ∀ j, j < tkn kd → (stk K n).getD (tkn kd - 1 - j) 0 < n := fun j hj => stk_lt K n _ (hopm j hj)
  obtain ⟨hC1, hC2⟩ := hC
  refine Wp_some ⟨by rw [← hY]; simp [up], by rw [← hY, hl1]; simp [up], ⟨fun k hk => ?_, fun r hr => ?_⟩, fun i hi => ?_, fun j hj => ?_⟩
  · show Y 15 k = _ ∧ Y 16 k = _ ∧ Y 17 k = _ ∧ Y 20 k = _ ∧ ∀ j, j < tkn (se K n kd k) → Y 18 _ = _ ∧ Y 19 _ = _
    rw [yr 15 (by decide), yr 16 (by decide), yr 17 (by decide), yr 18 (by decide), yr 19 (by decide), yr 20 (by decide), x15, x16, x17, x18, x19, x20]
    by_cases e : k = n
    · subst e
      rw [se_at, se_at, se_at, se_at, se_at, se_at, se_at]
      refine ⟨rfl, rfl, rfl, ?_, fun j hj => ?_⟩
      · rw [show sta (se K k kd) 8 k = if tkn (se K k kd k) = 0 then k else sta (se K k kd) 7 (opr (se K k kd) k 0) from rfl, se_at]
        by_cases e0 : tkn kd = 0
        · rw [if_pos e0, v0 e0]
        · rw [if_neg e0, v1 (by omega), ur 20 (by decide), hop]
          have h9 := hopn 0 (by omega)
          have h8 := (hC1 _ h9).2.2.2.1
          simp only [Nat.sub_zero] at h9 h8 ⊢
          rw [show (14 + 6 : Nat) = 20 from rfl] at h8
          rw [h8, sta_congr hl hK' 7 _ h9, sta_fuel hl 8 _ h9 (by omega) 7 (by omega)]
      · have h9 := hopn j hj
        have h8 := f2 j hj
        rw [hop, se_ne _ _ (by omega), se_ne _ _ (by omega)]
        exact h8
    · have hk' : k < n := by omega
      have ho := hC1 k hk'
      rw [se_ne _ _ e, se_ne _ _ e, se_ne _ _ e, se_ne _ _ e, se_ne _ _ e, se_ne _ _ e, se_ne _ _ e]
      refine ⟨ho.1, ho.2.1, ho.2.2.1, ?_, fun j hj => ?_⟩
      · rw [sta_congr hl hK' 8 k hk']; exact ho.2.2.2.1
      · have h7 := ho.2.2.2.2 j hj
        have h6 := opr_lt hj (hl k hk')
        rw [opr_congr (K := K) (fun i hi => hK' i (by omega)), se_ne _ _ (by omega), se_ne _ _ (by omega)]
        have h5' := f3 (opr K k j) fun j' hj' e' => by
          have h3 := (hC2 _ (hopm j' hj')).1
          rw [← e', h7.1] at h3
          omega
        rw [h5'.1, h5'.2, ur 18 (by decide), ur 19 (by decide)]
        exact h7
  · show Y 18 r = -1 ∧ Y 19 r = 0
    rw [yr 18 (by decide), yr 19 (by decide), x18, x19]
    simp only [stk, List.mem_cons] at hr
    rw [hs', se_at] at hr
    rcases hr with e | hr
    · subst e; rw [se_at, se_at]; exact ⟨rfl, rfl⟩
    · have hm := List.mem_of_mem_drop hr
      have hlt := stk_lt K n r hm
      rw [se_ne _ _ (by omega), se_ne _ _ (by omega)]
      have h5' := f3 r fun j' hj' e' => by
        obtain ⟨q, hq, eq⟩ := List.mem_iff_getElem.mp hr
        rw [List.length_drop] at hq
        rw [List.getElem_drop] at eq
        rw [List.getD_eq_getElem?_getD, List.getElem?_eq_getElem (by omega)] at e'
        simp only [Option.getD_some] at e'
        have := List.pairwise_iff_getElem.mp (stk_sorted K n) (tkn kd - 1 - j') (tkn kd + q) (by omega) (by omega) (by omega)
        omega
      rw [h5'.1, h5'.2, ur 18 (by decide), ur 19 (by decide)]
      exact hC2 r hm
  · simp only at hi ⊢
    rw [hl1] at hi
    rw [yr 21 (by decide), x21, rev_getD _ _ (by rw [hl1]; exact hi), hl1]
    have hc : stk (se K n kd) (n + 1) = n :: (stk K n).drop (tkn kd) := by simp only [stk]; rw [hs', se_at]
    rw [hc]
    by_cases e : i = (stk K n).length - tkn kd
    · subst e
      rw [se_at, show (stk K n).length - tkn kd + 1 - 1 - ((stk K n).length - tkn kd) = 0 by omega]
      rfl
    · rw [se_ne _ _ e, hst i (by omega), rev_getD _ _ (by omega), show (stk K n).length - tkn kd + 1 - 1 - i = ((stk K n).length - tkn kd - 1 - i) + 1 by omega, List.getD_cons_succ]
      congr 1
      rw [List.getD_eq_getElem?_getD, List.getD_eq_getElem?_getD, List.getElem?_drop]
      congr 2; omega
  · simp only; rw [yr j (by omega), xr j hj]
theorem c_tellsAttribute (k : Int) (M : Mm) : f_X11_tellsAttribute k M = some (if k = 1 ∨ k = 2 ∨ k = 7 then 1 else 0, M) := by
  unfold f_X11_tellsAttribute Lt; grind
theorem c_isRightNumber (k a : Int) (M : Mm) : f_X11_isRightNumber k a M = some (if (k = 1 ∨ k = 2 ∨ k = 7) ∨ (0 ≤ a ∧ a ≤ (if k = 0 then 999 else if k = 3 ∨ k = 4 then 2 else 0)) then 1 else 0, M) := by
  unfold f_X11_isRightNumber
  rw [c_tellsAttribute, ClS]
  unfold Lt
  grind
theorem c_isRightChild (k b : Int) (M : Mm) : f_X11_isRightChild k b M = some (if 0 ≤ b ∧ b ≤ (if k = 2 ∨ k = 6 then 2 else 0) then 1 else 0, M) := by
  unfold f_X11_isRightChild Lt
  grind
abbrev stA (S : Mm) (k a : Int) : Prop := (k = 1 ∨ k = 2 ∨ k = 7) → (0 ≤ a ∧ a < S 0 12)
abbrev stB (k a b : Int) : Prop := (0 ≤ k ∧ k ≤ 14) ∧ ((k = 1 ∨ k = 2 ∨ k = 7) ∨ (0 ≤ a ∧ a ≤ (if k = 0 then 999 else if k = 3 ∨ k = 4 then 2 else 0))) ∧ (0 ≤ b ∧ b ≤ (if k = 2 ∨ k = 6 then 2 else 0))
theorem stepOk_of {S : Mm} {k a b : Int} (h1 : stA S k a) (h2 : stB k a b) : StepOk S k a b := by
  refine ⟨h2.1, ?_, h2.2.2⟩
  by_cases c : k = 1 ∨ k = 2 ∨ k = 7
  · rw [if_pos c]; exact h1 c
  · rw [if_neg c]
    rcases h2.2.1 with q | q
    · exact absurd q c
    · exact q
theorem c_stepE {MC MR : Mm} (q1 : CG MC MR) (k a b : Int) : f_X11_step k a b MC = if ¬ stA MR k a then some (1, 0, MC) else if ¬ stB k a b then some (2, 0, MC) else if MC 14 4 < 8 ∧ (tkn k : Int) ≤ MC 14 5 then Cl (f_X0_append 14 k a b MC) fun _ M => some (0, M 14 5, M) else some (3, 0, MC) := by
  have hX : ∀ X : Rx, X = (if k < 0 then some (2, 0, MC) else if 15 ≤ k then some (2, 0, MC) else if (if (k = 1 ∨ k = 2 ∨ k = 7) ∨ (0 ≤ a ∧ a ≤ (if k = 0 then 999 else if k = 3 ∨ k = 4 then 2 else 0)) then (1 : Int) else 0) = 0 then some (2, 0, MC) else if ¬ (if 0 ≤ b ∧ b ≤ (if k = 2 ∨ k = 6 then 2 else 0) then (1 : Int) else 0) = 0 then (if 8 ≤ MC 14 4 then some (3, 0, MC) else if (tkn k : Int) ≤ MC 14 5 then Cl (f_X0_append 14 k a b MC) fun _ M => some (0, M 14 5, M) else some (3, 0, MC)) else some (2, 0, MC)) → X = if ¬ stB k a b then some (2, 0, MC) else if MC 14 4 < 8 ∧ (tkn k : Int) ≤ MC 14 5 then Cl (f_X0_append 14 k a b MC) fun _ M => some (0, M 14 5, M) else some (3, 0, MC) := by
    intro X hX
    rw [hX]
    by_cases b1 : 0 ≤ k ∧ k ≤ 14
    case neg =>
      have n : ¬ stB k a b := fun q => b1 q.1
      rw [if_pos (c := ¬ stB k a b) n]
      by_cases b2 : k < 0
      · rw [if_pos b2]
      · rw [if_neg b2, if_pos (by omega)]
    rw [if_neg (c := k < 0) (by omega), if_neg (c := 15 ≤ k) (by omega)]
    by_cases b2 : (k = 1 ∨ k = 2 ∨ k = 7) ∨ (0 ≤ a ∧ a ≤ (if k = 0 then 999 else if k = 3 ∨ k = 4 then 2 else 0))
    case neg =>
      have n : ¬ stB k a b := fun q => b2 q.2.1
      rw [if_pos (c := ¬ stB k a b) n, if_neg b2, if_pos rfl]
    rw [if_pos b2, if_neg (c := (1 : Int) = 0) (by decide)]
    by_cases b3 : 0 ≤ b ∧ b ≤ (if k = 2 ∨ k = 6 then 2 else 0)
    case neg =>
      have n : ¬ stB k a b := fun q => b3 q.2.2
      rw [if_pos (c := ¬ stB k a b) n, if_neg b3, if_neg (by decide)]
    have y : ¬ ¬ stB k a b := fun q => q ⟨b1, b2, b3⟩
    rw [if_neg (c := ¬ stB k a b) y, if_pos b3, if_pos (c := ¬ (1 : Int) = 0) (by decide)]
    by_cases b4 : 8 ≤ MC 14 4
    · rw [if_pos b4, if_neg (by omega)]
    · rw [if_neg b4]
      by_cases b5 : (tkn k : Int) ≤ MC 14 5
      · rw [if_pos b5, if_pos ⟨by omega, b5⟩]
      · rw [if_neg b5, if_neg (fun q => b5 q.2)]
  unfold f_X11_step
  rw [c_tellsAttribute, ClS]
  simp only [LtE, c_isRightNumber, c_isRightChild, c_operandsOf, ClS, g_mustAttr q1]
  by_cases c : k = 1 ∨ k = 2 ∨ k = 7
  · rw [if_pos c, if_neg (by decide)]
    by_cases d : 0 ≤ a ∧ a < MR 0 12
    · have y : ¬ ¬ stA MR k a := fun q => q fun _ => d
      rw [if_pos d, if_neg y]
      exact hX _ rfl
    · have n : ¬ stA MR k a := fun q => d (q c)
      rw [if_neg d, if_pos n]
  · have y : ¬ ¬ stA MR k a := fun q => q fun h => absurd h c
    rw [if_neg (c := k = 1 ∨ k = 2 ∨ k = 7) c, if_pos rfl, if_neg y]
    exact hX _ rfl
def stBody (a1 : Int) (a2 : Int) (a3 : Int) (M17 : Mm) : Rs :=
Lt (M17 0 14) fun v20 =>
gd (0 ≤ v20 ∧ v20 < 8) <|
Lt (up M17 13 v20.toNat a1) fun M21 =>
Lt (M21 0 14) fun v22 =>
gd (0 ≤ v22 ∧ v22 < 8) <|
Lt (up M21 14 v22.toNat a2) fun M23 =>
Lt (M23 0 14) fun v24 =>
gd (0 ≤ v24 ∧ v24 < 8) <|
Lt (up M23 15 v24.toNat a3) fun M25 =>
Lt (M25 0 14) fun v26 =>
Lt (wr (v26 + 1)) fun v27 =>
Lt (up M25 0 14 v27) fun M28 =>
Lt (M28 0 15) fun v29 =>
Cl (f_X12_taken a1 M28) fun v31 M30 =>
Lt (wr (1 - v31)) fun v32 =>
Lt (wr (v29 + v32)) fun v33 =>
Lt (up M30 0 15 v33) fun M34 =>
Lt (M34 0 15) fun v35 =>
some (v35, M34)
theorem r_stepF (a1 a2 a3 : Int) (M : Mm) : f_X12_step a1 a2 a3 M = (Cl (f_X12_isOfAttribute a1 M) fun v2 M1 =>
Lt (fun (v3 : Int) (M4 : Mm) => 
Lt (fun (v6 : Int) (M7 : Mm) => 
Cl (f_X12_isIn a1 0 14 M7) fun v10 M9 =>
Lt (fun (v11 : Int) (M12 : Mm) => 
Lt (fun (v14 : Int) (M15 : Mm) => 
Cl (f_X12_fails v14 M15) fun v18 M17 =>
if v18 = 0 then (
stBody a1 a2 a3 M17) else (
some (0, M17))) fun J156_16 =>
if ¬ v3 = 0 then (
if ¬ v11 = 0 then (
Lt (M12 0 15) fun v38 =>
Cl (f_X12_taken a1 M12) fun v40 M39 =>
Lt (fun (M41 : Mm) => 
J156_16 3 M41) fun J151_42 =>
if v38 < v40 then (
J151_42 M39) else (
Lt (M39 0 14) fun v44 =>
if ¬ v44 = 8 then (
J156_16 0 M39) else (
J151_42 M39))) else (
J156_16 2 M12)) else (
J156_16 1 M12)) fun J110_13 =>
Lt (fun (M46 : Mm) => 
J110_13 0 M46) fun J109_47 =>
if v10 = 0 then (
J109_47 M9) else (
Cl (f_X12_isIn a2 0 v6 M9) fun v50 M49 =>
if v50 = 0 then (
J109_47 M49) else (
Lt (fun (v52 : Int) (M53 : Mm) => 
Cl (f_X12_isIn a3 0 v52 M53) fun v56 M55 =>
if v56 = 0 then (
J109_47 M55) else (
J110_13 1 M55)) fun J99_54 =>
Lt (fun (M58 : Mm) => 
J99_54 2 M58) fun J94_59 =>
if a1 = 2 then (
J94_59 M49) else (
if ¬ a1 = 6 then (
J99_54 0 M49) else (
J94_59 M49))))) fun J59_8 =>
if ¬ a1 = 0 then (
Lt (fun (M63 : Mm) => 
J59_8 2 M63) fun J42_64 =>
if a1 = 3 then (
J42_64 M4) else (
if ¬ a1 = 4 then (
Cl (f_X12_isOfAttribute a1 M4) fun v68 M67 =>
if v68 = 0 then (
J59_8 0 M67) else (
J59_8 6 M67)) else (
J42_64 M4))) else (
J59_8 999 M4)) fun J20_5 =>
Lt (fun (M70 : Mm) => 
J20_5 1 M70) fun J15_71 =>
if v2 = 0 then (
J15_71 M1) else (
Cl (f_X12_isAttribute a2 M1) fun v74 M73 =>
if v74 = 0 then (
J20_5 0 M73) else (
J15_71 M73))) := Eq.trans rfl rfl
theorem r_stepE {M : Mm} (hA : 0 ≤ M 0 12 ∧ M 0 12 ≤ 6) (k a b : Int) : f_X12_step k a b M = Cl (f_X12_fails (if ¬ stA M k a then 1 else if ¬ stB k a b then 2 else if M 0 15 < (tkn k : Int) ∨ M 0 14 = 8 then 3 else 0) M) fun v18 M17 => if v18 = 0 then stBody k a b M17 else some (0, M17) := by
  rw [r_stepF, r_isOfAttribute, ClS]
  simp only [LtE, r_isIn, r_taken, r_isAttribute hA, r_isOfAttribute, ClS]
  by_cases c : k = 1 ∨ k = 2 ∨ k = 7
  · rw [if_pos c, if_neg (c := (1 : Int) = 0) (by decide)]
    have k0 : ¬ k = 0 := by omega
    have k3 : ¬ k = 3 := by omega
    have k4 : ¬ k = 4 := by omega
    have k14 : 0 ≤ k ∧ k ≤ 14 := by omega
    by_cases d : 0 ≤ a ∧ a < M 0 12
    · have y : ¬ ¬ stA M k a := fun q => q fun _ => d
      have a6 : 0 ≤ a ∧ a ≤ 6 := by omega
      rw [if_pos d, if_neg y]
      have hG : ∃ G : Int → Rs, G = fun n => Cl (f_X12_fails n M) fun v18 M17 => if v18 = 0 then stBody k a b M17 else some (0, M17) := ⟨_, rfl⟩
      obtain ⟨G, hG⟩ := hG
      have hG' : ∀ n, (Cl (f_X12_fails n M) fun v18 M17 => if v18 = 0 then stBody k a b M17 else some (0, M17)) = G n := fun n => by rw [hG]
      simp only [if_pos k0, if_neg k3, if_pos k4, if_pos k14, if_pos a6, hG']
      by_cases k2 : k = 2
      · subst k2; simp only [stB]; simp; grind
      · have k6 : ¬ k = 6 := by omega
        simp only [stB, if_neg k2, if_pos k6]
        simp [k0, k3, k4, k2, k6, k14, c]; grind
    · have n : ¬ stA M k a := fun q => d (q c)
      rw [if_neg d, if_pos n]
      simp
  · have y : ¬ ¬ stA M k a := fun q => q fun h => absurd h c
    rw [if_neg (c := k = 1 ∨ k = 2 ∨ k = 7) c, if_pos rfl, if_neg y]
    have hG : ∃ G : Int → Rs, G = fun n => Cl (f_X12_fails n M) fun v18 M17 => if v18 = 0 then stBody k a b M17 else some (0, M17) := ⟨_, rfl⟩
    obtain ⟨G, hG⟩ := hG
    have hG' : ∀ n, (Cl (f_X12_fails n M) fun v18 M17 => if v18 = 0 then stBody k a b M17 else some (0, M17)) = G n := fun n => by rw [hG]
    simp only [hG']
    have k2 : ¬ k = 2 := fun q => c (Or.inr (Or.inl q))
    by_cases k0 : k = 0
    · subst k0; simp only [stB]; simp; grind
    · by_cases k3 : k = 3
      · subst k3; simp only [stB]; simp; grind
      · by_cases k4 : k = 4
        · subst k4; simp only [stB]; simp; grind
        · by_cases k6 : k = 6
          · subst k6; simp only [stB]; simp; grind
          · simp only [stB, if_neg k2]
            simp [k0, k3, k4, k2, k6]; grind
theorem s_step {RG : Mm → Nat → Int} (hRG : RGok RG) : S_step (Inv RG) := by
  intro MC MR k kd a b i1 i2 i3 hI hk
  obtain ⟨⟨⟨p1, p2, p3, p4, p5⟩, ⟨q1, q2, q3, q4, q5⟩, q6, q7, p6⟩, hV, hR, hB⟩ := id hI
  have hA := p1.2.1
  have hd := p2.1
  have hl := stk_len_le (MR 13) (MR 0 14).toNat
  have ht3 := tkn_le kd
  have h15 := p2.2.2
  rw [c_stepE q1, r_stepE hA, r_fails, ClS]
  by_cases h1 : stA MR kd a
  case neg =>
    refine ⟨(1, 0, MC), (0, up MR 0 87 1), by rw [if_pos h1], ?_, by simp, by simp [up], by simp, hI.thr hRG _ _⟩
    rw [if_pos (c := ¬ stA MR kd a) h1, if_neg (by decide)]
  have y1 : ¬ ¬ stA MR kd a := fun q => q h1
  rw [if_neg y1, if_neg y1]
  by_cases h2 : stB kd a b
  case neg =>
    refine ⟨(2, 0, MC), (0, up MR 0 87 2), by rw [if_pos h2], ?_, by simp, by simp [up], by simp, hI.thr hRG _ _⟩
    rw [if_pos (c := ¬ stB kd a b) h2, if_neg (by decide)]
  have y2 : ¬ ¬ stB kd a b := fun q => q h2
  rw [if_neg y2, if_neg y2, q2.1, q2.2.1]
  by_cases h3 : MR 0 15 < (tkn kd : Int) ∨ MR 0 14 = 8
  case pos =>
    refine ⟨(3, 0, MC), (0, up MR 0 87 3), by rw [if_neg (by omega)], ?_, by simp, by simp [up], by simp, hI.thr hRG _ _⟩
    rw [if_pos h3, if_neg (by decide)]
  rw [if_neg h3, if_pos (c := MR 0 14 < 8 ∧ _) (by omega), if_pos (by decide)]
  have hb : stBody kd a b (up MR 0 87 0) = some (MR 0 15 + (1 - (tkn kd : Int)), up (up (up (up (up (up MR 0 87 0) 13 (MR 0 14).toNat kd) 14 (MR 0 14).toNat a) 15 (MR 0 14).toNat b) 0 14 (MR 0 14 + 1)) 0 15 (MR 0 15 + (1 - (tkn kd : Int)))) := by
    unfold stBody
    have e0 : up MR 0 87 0 0 14 = MR 0 14 := by simp [up]
    simp only [LtE, r_taken, ClS, e0]
    rw [gdE (by omega)]
    have e1 : up (up MR 0 87 0) 13 (MR 0 14).toNat kd 0 14 = MR 0 14 := by simp [up]
    rw [e1, gdE (by omega)]
    have e2 : up (up (up MR 0 87 0) 13 (MR 0 14).toNat kd) 14 (MR 0 14).toNat a 0 14 = MR 0 14 := by simp [up]
    rw [e2, gdE (by omega)]
    have e3 : up (up (up (up MR 0 87 0) 13 (MR 0 14).toNat kd) 14 (MR 0 14).toNat a) 15 (MR 0 14).toNat b 0 14 = MR 0 14 := by simp [up]
    rw [e3, wrE (by omega) (by omega)]
    have e4 : up (up (up (up (up MR 0 87 0) 13 (MR 0 14).toNat kd) 14 (MR 0 14).toNat a) 15 (MR 0 14).toNat b) 0 14 (MR 0 14 + 1) 0 15 = MR 0 15 := by simp [up]
    rw [e4, wrE (v := 1 - (tkn kd : Int)) (by omega) (by omega), wrE (v := MR 0 15 + (1 - (tkn kd : Int))) (by omega) (by omega), up_at]
  rw [hb]
  have hn : (MR 0 14).toNat < 8 := by omega
  obtain ⟨q21, q22, q23, q24⟩ := q2
  obtain ⟨r, hr, w1, w2, w3, w4, w5⟩ := c_append (M := MC) (K := MR 13) (A := MR 14) (B := MR 15) (kd := kd) (a := a) (b := b) hn (by rw [q21]; omega) (by rw [q22]; exact h15) (fun k hk => (p2.2.1 k hk).2) (by omega) q23 q24
  rw [hr]
  generalize hM' : up (up (up (up (up (up MR 0 87 0) 13 (MR 0 14).toNat kd) 14 (MR 0 14).toNat a) 15 (MR 0 14).toNat b) 0 14 (MR 0 14 + 1)) 0 15 (MR 0 15 + (1 - (tkn kd : Int))) = M'
  have m0 : ∀ i, i ≠ 14 → i ≠ 15 → i ≠ 87 → M' 0 i = MR 0 i := fun i j1 j2 j3 => by rw [← hM']; simp [up, j1, j2, j3]
  have m14 : M' 0 14 = MR 0 14 + 1 := by rw [← hM']; simp [up]
  have m15 : M' 0 15 = MR 0 15 + (1 - (tkn kd : Int)) := by rw [← hM', up_at]
  have mr : ∀ j, j ≠ 0 → ¬ (13 ≤ j ∧ j ≤ 15) → M' j = MR j := fun j j1 j2 => by rw [← hM', up_ne _ _ _ j1, up_ne _ _ _ j1, up_ne _ _ _ (by omega), up_ne _ _ _ (by omega), up_ne _ _ _ (by omega), up_ne _ _ _ j1]
  have z13 : M' 13 = se (MR 13) (MR 0 14).toNat kd := by rw [← hM']; simp [up_ne, up_se, sr_at, sr_ne]
  have z14 : M' 14 = se (MR 14) (MR 0 14).toNat a := by rw [← hM']; simp [up_ne, up_se, sr_at, sr_ne]
  have z15 : M' 15 = se (MR 15) (MR 0 14).toNat b := by rw [← hM']; simp [up_ne, up_se, sr_at, sr_ne]
  have z87 : M' 0 87 = 0 := by rw [← hM']; simp [up]
  have hlen : (stk (se (MR 13) (MR 0 14).toNat kd) ((MR 0 14).toNat + 1)).length = (stk (MR 13) (MR 0 14).toNat).length - tkn kd + 1 := by
    rw [stk_len, stk_congr (K := MR 13) _ (fun i hi => se_ne _ _ (by omega)), se_at]
  have e14 : (MR 0 14 + 1).toNat = (MR 0 14).toNat + 1 := by omega
  refine ⟨(0, r.2 14 5, r.2), (_, M'), rfl, rfl, by simp, by simp [z87], fun _ => ?_, hI.draft hRG _ mr m0 w5 ?_ ?_⟩
  · simp only; rw [w2, hlen]; omega
  · unfold Okd
    simp only
    rw [m14, m15, z13, z14, z15, e14, hlen]
    refine ⟨by omega, fun j hj => ?_, by omega⟩
    by_cases e : j = (MR 0 14).toNat
    · subst e
      rw [se_at, se_at, se_at, stk_congr (K := MR 13) _ (fun i hi => se_ne _ _ (by omega))]
      exact ⟨(stepOk_of h1 h2).of (by rw [m0 12 (by decide) (by decide) (by decide)]; exact Int.le_refl _), by omega⟩
    · have := p2.2.1 j (by omega)
      rw [se_ne _ _ e, se_ne _ _ e, se_ne _ _ e, stk_congr (K := MR 13) _ (fun i hi => se_ne _ _ (by omega))]
      exact ⟨this.1.of (by rw [m0 12 (by decide) (by decide) (by decide)]; exact Int.le_refl _), this.2⟩
  · unfold CD
    simp only
    rw [m14, m15, z13, z14, z15, e14]
    refine ⟨by rw [w1]; omega, by rw [w2, hlen]; omega, w3, w4⟩
