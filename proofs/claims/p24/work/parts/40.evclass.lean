/-! one attribute that is being found: the class's frame, a step at a time -/
def lay2 (M : Mm) (r : Nat) (q : (Nat → Int) × (Nat → Int)) : Mm := sr (sr M r q.1) (r + 1) q.2
theorem lay2_at (M : Mm) (r : Nat) (q : (Nat → Int) × (Nat → Int)) : lay2 M r q r = q.1 ∧ lay2 M r q (r + 1) = q.2 ∧ ∀ j, j ≠ r → j ≠ r + 1 → lay2 M r q j = M j := by
  unfold lay2
  exact ⟨by rw [sr_ne _ _ (by omega), sr_at], sr_at _ _ _, fun j j1 j2 => by rw [sr_ne _ _ j2, sr_ne _ _ j1]⟩
theorem lay2_up (M : Mm) (r i : Nat) (v : Int) (q : (Nat → Int) × (Nat → Int)) : up (lay2 M r q) r i v = lay2 M r (se q.1 i v, q.2) := by
  rw [up_se, (lay2_at M r q).1]
  funext j
  unfold lay2 sr
  repeat' split
  all_goals first | rfl | (exfalso; omega)
theorem lay2_self (M : Mm) (r : Nat) : lay2 M r (M r, M (r + 1)) = M := by
  funext j
  unfold lay2 sr
  repeat' split
  all_goals first | rfl | simp_all
theorem lay2_lay2 (M : Mm) (r : Nat) (q q' : (Nat → Int) × (Nat → Int)) : lay2 (lay2 M r q) r q' = lay2 M r q' := by
  funext j
  unfold lay2 sr
  repeat' split
  all_goals first | rfl | (exfalso; omega)
def seI (f : Nat → Int) (a v : Int) : Nat → Int := if 0 ≤ a ∧ a < 8 then se f a.toNat v else f
def rdI (f : Nat → Int) (a : Int) : Int := if 0 ≤ a ∧ a < 8 then f a.toNat else -1
theorem alenC_fr {r : Nat} (hr : isR r) : alenC (r + 1) = 8 := by
  unfold alenC TC
  rw [if_neg (by omega), if_pos (by omega), if_neg (by omega)]
  rfl
theorem lay2_set {M : Mm} {r : Nat} (hr : isR r) (q : (Nat → Int) × (Nat → Int)) (a v : Int) : f_X11_setEntry (r + 1) a v (lay2 M r q) = some (0, lay2 M r (q.1, seI q.2 a v)) := by
  rw [c_setEntry, alenC_fr hr]
  unfold seI
  by_cases h : 0 ≤ a ∧ a < 8
  · rw [if_pos (by omega), if_pos h, up_se, (lay2_at M r q).2.1]
    refine congrArg some (Prod.ext rfl ?_)
    funext j
    unfold lay2 sr
    simp only
    repeat' split
    all_goals first | rfl | (exfalso; omega)
  · rw [if_neg (by omega), if_neg h]
theorem lay2_held {M : Mm} {r : Nat} (q : (Nat → Int) × (Nat → Int)) (a : Int) : f_X4_heldFor r a (lay2 M r q) = some (rdI q.2 a, lay2 M r q) := by
  unfold f_X4_heldFor rdI Lt gd
  rw [(lay2_at M r q).2.1]
  grind
/-- a row of an equation -/
def fe (C : Mm) (k j : Nat) (a : Int) : Int := rdI (C (33 + 8 * k + j)) a
theorem fe_rd {M C : Mm} {k : Nat} (hC : ∀ j, 1 ≤ j → j ≤ 6 → M (33 + 8 * k + j) = C (33 + 8 * k + j)) (a : Int) : f_X0_kindOf (33 + 8 * k) a M = some (fe C k 1 a, M) ∧ f_X0_numberOf (33 + 8 * k) a M = some (fe C k 2 a, M) ∧ f_X0_childOf (33 + 8 * k) a M = some (fe C k 3 a, M) ∧ f_X0_userOf (33 + 8 * k) a M = some (fe C k 4 a, M) ∧ f_X0_roleOf (33 + 8 * k) a M = some (fe C k 5 a, M) ∧ f_X0_startOf (33 + 8 * k) a M = some (fe C k 6 a, M) := by
  unfold fe rdI
  rw [c0_kindOf, c0_numberOf, c0_childOf, c0_userOf, c0_roleOf, c0_startOf, hC 1 (by decide) (by decide), hC 2 (by decide) (by decide), hC 3 (by decide) (by decide), hC 4 (by decide) (by decide), hC 5 (by decide) (by decide), hC 6 (by decide) (by decide)]
  exact ⟨rfl, rfl, rfl, rfl, rfl, rfl⟩
/-- two values joined -/
def jn (K v w : Int) : Int := if K = 12 then (if v = w then 1 else 0) else if 1000 ≤ v then -1 else if w < 1000 then (if K = 8 then jrem (wr (v + w)) 1000 else if K = 9 then jrem (wr (v * w)) 1000 else if K = 10 then (if v ≤ w then w else v) else jrem (jor v w) 1000) else -1
theorem c_joined (K v w : Int) (M : Mm) : f_X4_joined K v w M = some (jn K v w, M) := by
  unfold f_X4_joined jn
  simp only [LtE]
  by_cases h0 : K = 12
  · rw [if_neg fun q => q h0, if_pos h0]
    by_cases h : v = w
    · rw [if_neg fun q => q h, if_pos h]
    · rw [if_pos h, if_neg h]
  · rw [if_pos h0, if_neg h0]
    by_cases h1 : 1000 ≤ v
    · rw [if_pos h1, if_pos h1]
    · rw [if_neg h1, if_neg h1]
      by_cases h2 : w < 1000
      · rw [if_pos h2, if_pos h2]
        by_cases h3 : K = 8
        · rw [if_pos h3, if_pos h3]
        · rw [if_neg h3, if_neg h3]
          by_cases h4 : K = 9
          · rw [if_pos h4, if_pos h4]
          · rw [if_neg h4, if_neg h4]
            by_cases h5 : K = 10
            · rw [if_pos h5, if_pos h5]
              by_cases h6 : v ≤ w
              · rw [if_pos h6, if_pos h6]
              · rw [if_neg h6, if_neg h6]
            · rw [if_neg h5, if_neg h5]
      · rw [if_neg h2, if_neg h2]
theorem r_joined (K v w : Int) (M : Mm) : f_X12_joined K v w M = some (jn K v w, M) := by
  unfold f_X12_joined jn
  simp only [LtE]
  by_cases h0 : K = 12
  · rw [if_neg fun q => q h0, if_pos h0]
    by_cases h : v = w
    · rw [if_neg fun q => q h, if_pos h]
    · rw [if_pos h, if_neg h]
  · rw [if_pos h0, if_neg h0]
    by_cases h1 : 1000 ≤ v
    · rw [if_pos h1, if_pos h1]
    · rw [if_neg h1, if_neg h1]
      by_cases h2 : w < 1000
      · rw [if_pos h2, if_pos h2]
        by_cases h3 : K = 8
        · rw [if_neg fun q => q h3, if_pos h3]
        · rw [if_pos h3, if_neg h3]
          by_cases h4 : K = 9
          · rw [if_neg fun q => q h4, if_pos h4]
          · rw [if_pos h4, if_neg h4]
            by_cases h5 : K = 10
            · rw [if_neg fun q => q h5, if_pos h5]
              by_cases h7 : v ≤ w
              · rw [if_pos h7, if_pos h7]
              · rw [if_neg h7, if_neg h7]
            · rw [if_pos h5, if_neg h5]
      · rw [if_neg h2, if_neg h2]
/-- what a step's taker does with what the step is -/
def tku (C : Mm) (k : Nat) (u here v : Int) (q : (Nat → Int) × (Nat → Int)) : Int × ((Nat → Int) × (Nat → Int)) :=
  if fe C k 1 u = 13 then (if fe C k 5 here ≤ 0 then (-7, (se q.1 6 (if v = 0 then fe C k 6 (wr (u - 1)) else wr (here + 1)), q.2)) else (v, q))
  else if fe C k 1 u = 7 then (if 1000 ≤ v then (-7, (se q.1 6 u, seI q.2 u v)) else (-1, q))
  else if fe C k 5 here ≤ 0 then (-7, (se q.1 6 (wr (here + 1)), seI q.2 u v)) else (jn (fe C k 1 u) (rdI q.2 u) v, q)
theorem c_takeUp {M C : Mm} {k r : Nat} (hr : isR r) (hk : k < 30) (hC : ∀ j, 1 ≤ j → j ≤ 6 → M (33 + 8 * k + j) = C (33 + 8 * k + j)) (u here v : Int) (q : (Nat → Int) × (Nat → Int)) : f_X4_takeUp r (33 + 8 * k) u here v (lay2 M r q) = some ((tku C k u here v q).1, lay2 M r (tku C k u here v q).2) := by
  have hC' : ∀ q j, 1 ≤ j → j ≤ 6 → lay2 M r q (33 + 8 * k + j) = C (33 + 8 * k + j) := fun q j j1 j2 => by rw [(lay2_at M r q).2.2 _ (by omega) (by omega)]; exact hC j j1 j2
  have hF := fun q a => fe_rd (hC' q) a
  unfold f_X4_takeUp tku
  rw [(hF q u).1, ClS]
  by_cases c1 : fe C k 1 u = 13
  · rw [if_neg fun q => q c1, if_pos c1, (hF q here).2.2.2.2.1, ClS]
    by_cases c2 : fe C k 5 here ≤ 0
    · rw [if_pos c2, if_pos c2]
      simp only [LtE]
      by_cases c3 : v = 0
      · rw [if_pos c3, (hF q _).2.2.2.2.2, ClS, lay2_up, if_pos c3]
      · rw [if_neg c3, lay2_up, if_neg c3]
    · rw [if_neg c2, if_neg c2]
  · rw [if_pos c1, if_neg c1]
    by_cases c4 : fe C k 1 u = 7
    · rw [if_neg fun q => q c4, if_pos c4]
      by_cases c5 : 1000 ≤ v
      · rw [if_pos c5, if_pos c5, lay2_set hr, ClS, LtE, lay2_up]
      · rw [if_neg c5, if_neg c5]
    · rw [if_pos c4, if_neg c4, (hF q here).2.2.2.2.1, ClS]
      by_cases c2 : fe C k 5 here ≤ 0
      · rw [if_pos c2, if_pos c2, lay2_set hr, ClS, LtE, LtE, lay2_up]
      · rw [if_neg c2, if_neg c2, lay2_held, ClS, c_joined, ClS]
def clb (C : Mm) (k : Nat) : Nat → Int → Int → (Nat → Int) × (Nat → Int) → Int × ((Nat → Int) × (Nat → Int))
  | 0, _, _, q => (-1, q)
  | f + 1, here, w, q =>
    if fe C k 4 here = -1 then (w, (se q.1 6 (wr (here + 1)), q.2))
    else if (if w < 0 then (w, q) else tku C k (fe C k 4 here) here w q).1 = -7 then (-7, (if w < 0 then (w, q) else tku C k (fe C k 4 here) here w q).2)
    else clb C k f (fe C k 4 here) (if w < 0 then (w, q) else tku C k (fe C k 4 here) here w q).1 (if w < 0 then (w, q) else tku C k (fe C k 4 here) here w q).2
theorem c_climb {M C : Mm} {k r : Nat} (hr : isR r) (hk : k < 30) (hC : ∀ j, 1 ≤ j → j ≤ 6 → M (33 + 8 * k + j) = C (33 + 8 * k + j)) (here v : Int) (q : (Nat → Int) × (Nat → Int)) : f_X4_climb r (33 + 8 * k) here v (lay2 M r q) = some ((clb C k 8 here v q).1, lay2 M r (clb C k 8 here v q).2) := by
  have hC' : ∀ q j, 1 ≤ j → j ≤ 6 → lay2 M r q (33 + 8 * k + j) = C (33 + 8 * k + j) := fun q j j1 j2 => by rw [(lay2_at M r q).2.2 _ (by omega) (by omega)]; exact hC j j1 j2
  have hF := fun q a => fe_rd (hC' q) a
  unfold f_X4_climb
  simp only [LtE]
  have key : ∀ (f F : Nat) (here v : Int) (q : (Nat → Int) × (Nat → Int)), f ≤ 8 → f < F → Lp (f_X4_climb_L9_29 r (33 + 8 * k) (fun M1 => some ((-1), M1)) (fun M3 => some ((-7), M3)) fun v5 v6 M7 => some (v6, up M7 r 6 (wr (v5 + 1)))) F (here, v, ((8 - f : Nat) : Int), lay2 M r q) = some ((clb C k f here v q).1, lay2 M r (clb C k f here v q).2) := by
    intro f
    induction f with
    | zero =>
      intro F here v q _ hF2
      obtain ⟨G, rfl⟩ : ∃ G, F = G + 1 := ⟨F - 1, by omega⟩
      rw [Lp_s]
      simp only [f_X4_climb_L9_29]
      rw [if_pos (by omega)]
      rfl
    | succ f ih =>
      intro F here v q hf hF2
      obtain ⟨G, rfl⟩ : ∃ G, F = G + 1 := ⟨F - 1, by omega⟩
      rw [Lp_s]
      simp only [f_X4_climb_L9_29, LtE]
      rw [if_neg (by omega), (hF q here).2.2.2.1, ClS]
      simp only [clb]
      by_cases c1 : fe C k 4 here = -1
      · rw [if_neg fun q => q c1, if_pos c1, lay2_up]
      · rw [if_pos c1, if_neg c1]
        have hw : wr (((8 - (f + 1) : Nat) : Int) + 1) = ((8 - f : Nat) : Int) := by rw [wrE (by omega) (by omega)]; omega
        rw [hw]
        by_cases c2 : v < 0
        · rw [if_pos c2, if_pos c2]
          simp only
          by_cases c3 : v = -7
          · rw [if_neg fun q => q c3, if_pos c3]
          · rw [if_pos c3, if_neg c3]
            exact ih G _ _ _ (by omega) (by omega)
        · rw [if_neg c2, if_neg c2, c_takeUp hr hk hC, ClS]
          by_cases c3 : (tku C k (fe C k 4 here) here v q).1 = -7
          · rw [if_neg fun q => q c3, if_pos c3]
          · rw [if_pos c3, if_neg c3]
            exact ih G _ _ _ (by omega) (by omega)
  have := key 8 FU here v q (Nat.le_refl _) (FU_lt (by omega))
  exact this
/-! looking at an attribute -/
def SC (M S : Mm) : Prop := CC M S ∧ CN M S
def ALL : Int := 1073741824
/-- what is known of attributes in a book of the class: values in the class's terms, and on what they hang -/
def Lm (S M : Mm) (bk s : Nat) : Option (Int × Int) := if S 12 (s % 6) = 3 then some (M 309 s, ALL) else if M (bk + 2) s ≠ 0 then some (M (bk + 1) s, M (bk + 2) s) else if M 313 s ≠ 0 then some (-2, 0) else none
def enl (l : List Int) (s : Int) : List Int := if s ∈ l then l else l ++ [s]
def Lst (M : Mm) (l : List Int) : Prop := M 310 0 = (l.length : Int) ∧ ∀ i, i < l.length → M 311 i = l.getD i 0
theorem nodup_len : ∀ (n : Nat) (l : List Int), l.Nodup → (∀ x ∈ l, 0 ≤ x ∧ x < (n : Int)) → l.length ≤ n := by
  intro n
  induction n with
  | zero =>
    intro l _ h
    match l with
    | [] => exact Nat.le_refl _
    | x :: l => have := h x List.mem_cons_self; omega
  | succ n ih =>
    intro l hl h
    by_cases c : (n : Int) ∈ l
    · have h1 := ih (l.erase (n : Int)) (hl.erase _) (fun x hx => by
        have h2 := (List.Nodup.mem_erase_iff hl).mp hx
        have h3 := h x h2.2
        have h4 := h2.1
        omega)
      rw [List.length_erase_of_mem c] at h1
      omega
    · have := ih l hl (fun x hx => by
        have h3 := h x hx
        have : x ≠ n := fun e => c (by rw [← e]; exact hx)
        omega)
      omega
/-- a list of slots, each once -/
def Sl (l : List Int) : Prop := l.Nodup ∧ ∀ x ∈ l, 0 ≤ x ∧ x < 180
theorem Sl.len {l : List Int} (h : Sl l) : l.length ≤ 180 := nodup_len 180 l h.1 h.2
theorem Sl.enl_ {l : List Int} (h : Sl l) {s : Int} (hs : 0 ≤ s ∧ s < 180) : Sl (enl l s) := by
  unfold enl
  by_cases c : s ∈ l
  · rw [if_pos c]; exact h
  · rw [if_neg c]
    refine ⟨List.nodup_append.mpr ⟨h.1, by simp, fun a ha b hb => ?_⟩, fun x hx => ?_⟩
    · rw [List.mem_singleton] at hb
      intro e; exact c (by rw [← hb, ← e]; exact ha)
    · rcases List.mem_append.mp hx with hx | hx
      · exact h.2 x hx
      · rw [List.mem_singleton] at hx; rw [hx]; exact hs
theorem Sl.lt {l : List Int} (h : Sl l) {s : Int} (hs : 0 ≤ s ∧ s < 180) (c : s ∉ l) : l.length < 180 := by
  have := (h.enl_ hs).len
  unfold enl at this
  rw [if_neg c, List.length_append, List.length_singleton] at this
  omega
theorem alenC_311' : alenC 311 = 180 := alenC_311
theorem c_enlist {M : Mm} {l : List Int} (hl : Lst M l) (hnS : Sl l) {s : Int} (hs180 : 0 ≤ s ∧ s < 180) : ∃ M', f_X2_enlist s M = some (0, M') ∧ Lst M' (enl l s) ∧ (∀ j, j ≠ 310 → j ≠ 311 → M' j = M j) ∧ ∀ i, i ≠ 0 → M' 310 i = M 310 i := by
  have hn := hnS.len
  have hlt : s ∉ l → l.length < 180 := hnS.lt hs180
  unfold f_X2_enlist
  simp only [LtE]
  by_cases hs : s ∈ l
  · refine ⟨M, ?_, by unfold enl; rw [if_pos hs]; exact hl, fun _ _ _ => rfl, fun _ _ => rfl⟩
    have key : ∀ d n F, n + d = l.length → d < F → (∀ i, i < n → l.getD i 0 ≠ s) → Lp (f_X2_enlist_L2_23 s (fun M1 => if 180 ≤ M1 310 0 then some (0, M1) else gd (0 ≤ M1 310 0 ∧ M1 310 0 < 180) (some (0, up (up M1 311 (M1 310 0).toNat s) 310 0 (wr (up M1 311 (M1 310 0).toNat s 310 0 + 1))))) fun M12 => some (0, M12)) F ((n : Int), M) = some (0, M) := by
      intro d
      induction d with
      | zero =>
        intro n F hn hF hno
        obtain ⟨i, hi, e⟩ := List.mem_iff_getElem.mp hs
        exact absurd (by rw [List.getD_eq_getElem?_getD, List.getElem?_eq_getElem hi]; exact e) (hno i (by omega))
      | succ d ih =>
        intro n F hnd hF hno
        obtain ⟨G, rfl⟩ : ∃ G, F = G + 1 := ⟨F - 1, by omega⟩
        rw [Lp_s]
        simp only [f_X2_enlist_L2_23, LtE]
        rw [hl.1, if_neg (by omega), if_neg (by omega), gdE (by omega), Int.toNat_natCast, hl.2 n (by omega), wrE (by omega) (by omega)]
        by_cases c : l.getD n 0 = s
        · rw [if_neg fun q => q c]
        · rw [if_pos c]
          exact ih (n + 1) G (by omega) (by omega) fun i hi => by
            by_cases e : i = n
            · rw [e]; exact c
            · exact hno i (by omega)
    exact key l.length 0 FU (by omega) (FU_lt (by omega)) fun i hi => absurd hi (Nat.not_lt_zero _)
  · have hn := hlt hs
    refine ⟨up (up M 311 l.length s) 310 0 ((l.length + 1 : Nat) : Int), ?_, ?_, fun j j1 j2 => by rw [up_ne _ _ _ j1, up_ne _ _ _ j2], fun i hi => by simp [up, hi]⟩
    · refine Lp_for l.length (fun i => ((i : Int), M)) (fun rc i hi => ?_) (fun rc => ?_) (FU_lt (by omega)) rfl
      · simp only [f_X2_enlist_L2_23, LtE]
        rw [hl.1, if_neg (by omega), if_neg (by omega), gdE (by omega), Int.toNat_natCast, hl.2 i hi, wrE (by omega) (by omega), if_pos ?_]
        · rfl
        · intro e
          refine hs ?_
          rw [← e, List.getD_eq_getElem?_getD, List.getElem?_eq_getElem hi]
          exact List.getElem_mem _
      · simp only [f_X2_enlist_L2_23, LtE]
        rw [hl.1, if_pos (by omega), if_neg (by omega), gdE (by omega), Int.toNat_natCast]
        have : up M 311 l.length s 310 0 = (l.length : Int) := by rw [up_ne _ _ _ (by decide)]; exact hl.1
        rw [this, wrE (by omega) (by omega)]
        rfl
    · unfold enl Lst
      rw [if_neg hs]
      refine ⟨by simp [up], fun i hi => ?_⟩
      rw [up_ne _ _ _ (by decide)]
      by_cases e : i = l.length
      · subst e; rw [up_at]; simp
      · have hi' : i < l.length := by simp at hi; omega
        have : up M 311 l.length s 311 i = M 311 i := by unfold up; rw [if_neg (by omega)]
        rw [this, hl.2 i hi', List.getD_eq_getElem?_getD, List.getD_eq_getElem?_getD, List.getElem?_append_left hi']
def lkT (r : Nat) (a3 v2 : Int) (M4 : Mm) : Rs :=
  Cl (f_X5_kindOf a3 M4) fun v7 M6 =>
  if ¬ v7 = 3 then (
  gd (¬ M6 310 12 < 0 ∧ isF (M6 310 12).toNat) <|
  Cl (f_X3_has (M6 310 12).toNat v2 M6) fun v12 M11 =>
  if v12 = 0 then (
  Cl (f_X2_isOpen v2 M11) fun v15 M14 =>
  if v15 = 0 then some ((-8), up M14 310 10 v2) else some ((-2), M14)) else (
  gd (¬ M11 310 12 < 0 ∧ isF (M11 310 12).toNat) <|
  Cl (f_X3_hangsOf (M11 310 12).toNat v2 M11) fun v22 M21 =>
  Lt (up M21 r 7 (jor (M11 r 7) v22)) fun M24 =>
  Lt (M24 310 12) fun v25 =>
  gd (¬ v25 < 0 ∧ isF v25.toNat) <|
  Cl (f_X3_valueOf v25.toNat v2 M24) fun v28 M27 =>
  some (v28, M27))) else (
  Cl (f_X11_entryOf 309 v2 (up M6 r 7 (jor (M6 r 7) 1073741824))) fun v33 M32 =>
  some (v33, M32))
theorem c_lookTail {N S : Mm} {bk r : Nat} (hM : CG N S) (hg : Okg S) (hb : isF bk) (h12 : N 310 12 = bk) (hr : isR r) (hi : i32 (N r 7)) {a s : Int} (ha : 0 ≤ a ∧ a < S 0 12) (hs : 0 ≤ s ∧ s < 180) (hsa : s % 6 = a) : ∃ N', lkT r a s N = some ((Lm S N bk s.toNat).elim (-8) (·.1), N') ∧ N' r = (Lm S N bk s.toNat).elim (N r) (fun x => se (N r) 7 (jor (N r 7) x.2)) ∧ (∀ j, j ≠ r → j ≠ 310 → N' j = N j) ∧ (∀ i, i ≠ 10 → N' 310 i = N 310 i) ∧ (Lm S N bk s.toNat = none → N' 310 10 = s) := by
  have h6 := hg.2.1
  have hm : (s.toNat % 6) = a.toNat := by omega
  have hr310 : (310 : Nat) ≠ r := by omega
  unfold lkT Lm
  rw [g_kind hM hg, ClS, if_pos ha, hm, h12]
  have hgd : ∀ {o : Rs}, gd (¬ ((bk : Nat) : Int) < 0 ∧ isF ((bk : Nat) : Int).toNat) o = o := fun {o} => gdE ⟨by omega, by rw [Int.toNat_natCast]; exact hb⟩
  by_cases k3 : S 12 a.toNat = 3
  · rw [if_neg fun q => q k3, if_pos k3, c_entryOf_in 180 alenC_309 hs.1 (by omega), ClS, up_ne _ _ _ (show (309 : Nat) ≠ r by omega)]
    refine ⟨_, rfl, ?_, fun j j1 j2 => by rw [up_ne _ _ _ j1], fun i _ => by rw [up_ne _ _ _ hr310], fun h => by cases h⟩
    simp only [Option.elim]
    rw [up_se, sr_at]; rfl
  · rw [if_pos k3, if_neg k3, hgd, Int.toNat_natCast, c3_has, ClS]
    by_cases hh : N (bk + 2) s.toNat ≠ 0
    · rw [if_pos (c := 0 ≤ s ∧ s < 180 ∧ _) ⟨hs.1, hs.2, hh⟩, if_neg (by decide), if_pos hh, h12, hgd, Int.toNat_natCast, c3_hangsOf, ClS, if_pos hs]
      simp only [LtE]
      have e12 : up N r 7 (jor (N r 7) (N (bk + 2) s.toNat)) 310 12 = (bk : Int) := by rw [up_ne _ _ _ hr310]; exact h12
      rw [e12, hgd, Int.toNat_natCast, c3_valueOf, ClS, if_pos hs]
      have eb : up N r 7 (jor (N r 7) (N (bk + 2) s.toNat)) (bk + 1) = N (bk + 1) := up_ne _ _ _ (by rcases hb with rfl | rfl <;> omega)
      rw [eb]
      refine ⟨_, rfl, ?_, fun j j1 j2 => by rw [up_ne _ _ _ j1], fun i _ => by rw [up_ne _ _ _ hr310], fun h => by cases h⟩
      simp only [Option.elim]
      rw [up_se, sr_at]
    · rw [if_neg (c := 0 ≤ s ∧ s < 180 ∧ _) (fun q => hh q.2.2), if_pos rfl, if_neg hh]
      have ho : f_X2_isOpen s N = some (if N 313 s.toNat = 0 then 0 else 1, N) := by
        unfold f_X2_isOpen
        simp only [LtE]
        rw [if_neg (by omega), if_neg (by omega), gdE hs]
        split <;> rfl
      rw [ho, ClS]
      by_cases o : N 313 s.toNat = 0
      · rw [if_pos o, if_pos rfl, if_neg (fun q => q o)]
        exact ⟨_, rfl, up_ne _ _ _ (fun q => hr310 q.symm), fun j j1 j2 => up_ne _ _ _ j2, fun i hi => by unfold up; rw [if_neg (fun q => hi q.2)], fun _ => up_at _ _ _ _⟩
      · rw [if_neg o, if_neg (by decide), if_pos o]
        refine ⟨N, rfl, ?_, fun _ _ _ => rfl, fun _ _ => rfl, fun h => by cases h⟩
        simp only [Option.elim]
        rw [jor_zero hi, se_self]
/-- what is listed, if it is listed at all -/
def LsO (M : Mm) (l : List Int) : Prop := M 310 11 ≠ 0 → M 310 9 = 1 → Lst M l ∧ Sl l
theorem c_lookAt {N S : Mm} {bk r : Nat} {l : List Int} (hM : CG N S) (hg : Okg S) (h35 : S 0 35 ≤ 30) (hb : isF bk) (h12 : N 310 12 = bk) (hr : isR r) (hi : i32 (N r 7)) (hl : LsO N l) {n a : Int} (hn : 0 ≤ n ∧ n < S 0 35) (ha : 0 ≤ a ∧ a < S 0 12) : ∃ N', f_X2_lookAt r n a N = some ((Lm S N bk (6 * n + a).toNat).elim (-8) (·.1), N') ∧ N' r = (Lm S N bk (6 * n + a).toNat).elim (N r) (fun x => se (N r) 7 (jor (N r 7) x.2)) ∧ (∀ j, j ≠ r → j ≠ 310 → j ≠ 311 → N' j = N j) ∧ (∀ i, i ≠ 0 → i ≠ 10 → N' 310 i = N 310 i) ∧ (Lm S N bk (6 * n + a).toNat = none → N' 310 10 = 6 * n + a) ∧ (N 310 11 ≠ 0 → N 310 9 = 1 → Lst N' (enl l (6 * n + a))) ∧ (¬ (N 310 11 ≠ 0 ∧ N 310 9 = 1) → N' 311 = N 311 ∧ N' 310 0 = N 310 0) := by
  have h6 := hg.2.1
  have hr0 : (310 : Nat) ≠ r ∧ (311 : Nat) ≠ r := by omega
  have e : f_X2_lookAt r n a N = if N 310 11 = 0 then lkT r a (6 * n + a) N else if ¬ N 310 9 = 1 then lkT r a (6 * n + a) N else Cl (f_X2_enlist (6 * n + a) N) fun _ M37 => lkT r a (6 * n + a) M37 := by
    unfold f_X2_lookAt
    rw [c_slotOf (by omega) (by omega), ClS]
    rfl
  rw [e]
  have hno : ¬ (N 310 11 ≠ 0 ∧ N 310 9 = 1) → ∃ N', lkT r a (6 * n + a) N = some ((Lm S N bk (6 * n + a).toNat).elim (-8) (·.1), N') ∧ N' r = (Lm S N bk (6 * n + a).toNat).elim (N r) (fun x => se (N r) 7 (jor (N r 7) x.2)) ∧ (∀ j, j ≠ r → j ≠ 310 → j ≠ 311 → N' j = N j) ∧ (∀ i, i ≠ 0 → i ≠ 10 → N' 310 i = N 310 i) ∧ (Lm S N bk (6 * n + a).toNat = none → N' 310 10 = 6 * n + a) ∧ (N 310 11 ≠ 0 → N 310 9 = 1 → Lst N' (enl l (6 * n + a))) ∧ (¬ (N 310 11 ≠ 0 ∧ N 310 9 = 1) → N' 311 = N 311 ∧ N' 310 0 = N 310 0) := by
    intro hc
    obtain ⟨N', t1, t2, t3, t4, t5⟩ := c_lookTail (s := 6 * n + a) hM hg hb h12 hr hi ha (by omega) (by omega)
    exact ⟨N', t1, t2, fun j j1 j2 _ => t3 j j1 j2, fun i _ i2 => t4 i i2, t5, fun q1 q2 => absurd ⟨q1, q2⟩ hc, fun _ => ⟨t3 311 hr0.2 (by decide), t4 0 (by decide)⟩⟩
  by_cases c1 : N 310 11 = 0
  · rw [if_pos c1]; exact hno fun q => q.1 c1
  · rw [if_neg c1]
    by_cases c2 : N 310 9 = 1
    · obtain ⟨l1, l2⟩ := hl c1 c2
      obtain ⟨N1, w1, w2, w3, w4⟩ := c_enlist l1 l2 (s := 6 * n + a) (by omega)
      rw [if_neg fun q => q c2, w1, ClS]
      have hM1 : CG N1 S := hM.of fun j _ _ => w3 j (by omega) (by omega)
      have er : N1 r = N r := w3 r (fun q => hr0.1 q.symm) (fun q => hr0.2 q.symm)
      have hL : ∀ s, Lm S N1 bk s = Lm S N bk s := fun s => by
        unfold Lm
        rw [w3 309 (by decide) (by decide), w3 313 (by decide) (by decide), w3 (bk + 1) (by rcases hb with rfl | rfl <;> decide) (by rcases hb with rfl | rfl <;> decide), w3 (bk + 2) (by rcases hb with rfl | rfl <;> decide) (by rcases hb with rfl | rfl <;> decide)]
      obtain ⟨N', t1, t2, t3, t4, t5⟩ := c_lookTail (s := 6 * n + a) hM1 hg hb (by rw [w4 12 (by decide)]; exact h12) hr (by rw [er]; exact hi) ha (by omega) (by omega)
      rw [hL, er] at t2
      rw [hL] at t1 t5
      refine ⟨N', t1, t2, fun j j1 j2 j3 => (t3 j j1 j2).trans (w3 j j2 j3), fun i i1 i2 => (t4 i i2).trans (w4 i i1), t5, fun _ _ => ?_, fun q => absurd ⟨c1, c2⟩ q⟩
      refine ⟨(t4 0 (by decide)).trans w2.1, fun i hi => ?_⟩
      rw [t3 311 hr0.2 (by decide)]
      exact w2.2 i hi
    · rw [if_pos c2]; exact hno fun q => c2 q.2
/-! a step of an expression at a node -/
/-- the node that is a child there -/
def chN (S : Mm) (m p : Int) (h : Nat) (b : Int) : Int := if stand S p h b = -1 then -1 else S 34 (3 * m + stand S p h b).toNat
/-- the slot at which a step looks, -1 if at none; x: the reference that is held for it -/
def lkS (S : Mm) (m p : Int) (h : Nat) (K a b x : Int) : Int := if K = 1 then 6 * m + a else if K = 2 then (if chN S m p h b = -1 then -1 else 6 * chN S m p h b + a) else if K = 7 then 6 * (x - 1000) + a else -1
/-- what a step is that looks at nothing -/
def lfV (S : Mm) (m p : Int) (h : Nat) (K a b : Int) : Int :=
  if K = 0 then a else if K = 3 then (if h = 0 ∧ a < S 6 (S 30 m.toNat).toNat then S 7 (3 * S 30 m.toNat + a).toNat - 3 else -1)
  else if K = 4 then (if h = 0 ∧ a < S 6 (S 30 m.toNat).toNat then jand (jshr (S 35 m.toNat) a) 1 else -1)
  else if K = 5 then 1000 + m else if K = 6 then (if chN S m p h b = -1 then -1 else 1000 + chN S m p h b)
  else if K = 14 then S 31 m.toNat else -1
theorem chN_ok {S : Mm} (hg : Okg S) (hN : Okn S) {m : Int} (hm : 0 ≤ m ∧ m < S 0 35) (h : Nat) (b : Int) : chN S m (S 31 m.toNat) h b = -1 ∨ (m < chN S m (S 31 m.toNat) h b ∧ chN S m (S 31 m.toNat) h b < S 0 35 ∧ S 32 (chN S m (S 31 m.toNat) h b).toNat = m) := by
  have hn := hN.2.2 m.toNat (by omega)
  unfold chN
  by_cases c : stand S (S 31 m.toNat) h b = -1
  · rw [if_pos c]; exact Or.inl rfl
  · rw [if_neg c]
    have hs := stand_ok hg hn.2.1 h b
    have h1 : 0 ≤ stand S (S 31 m.toNat) h b ∧ stand S (S 31 m.toNat) h b < S 4 (S 31 m.toNat).toNat := by
      by_cases q : 0 ≤ b ∧ b < S 4 (shown S (S 31 m.toNat) h).toNat ∧ shown S (S 31 m.toNat) h ≠ -1
      · exact hs.1 q
      · exact absurd (hs.2 q) c
    rw [hn.2.2.1] at h1
    have h2 := hn.2.2.2.2.2.2.2 (stand S (S 31 m.toNat) h b).toNat (by omega)
    have e : ((3 * m.toNat + (stand S (S 31 m.toNat) h b).toNat : Nat)) = (3 * m + stand S (S 31 m.toNat) h b).toNat := by omega
    rw [show ((3 * m.toNat + (stand S (S 31 m.toNat) h b).toNat : Nat)) = (3 * m + stand S (S 31 m.toNat) h b).toNat from e] at h2
    exact Or.inr ⟨by omega, h2.2.1, by omega⟩
theorem c_childFor {N S : Mm} {r : Nat} (hS : SC N S) (hg : Okg S) (hN : Okn S) {m : Int} (hm : 0 ≤ m ∧ m < S 0 35) {h : Nat} (hh : h < 4) (f2 : N r 2 = m) (f3 : N r 3 = S 31 m.toNat) (f4 : N r 4 = h) {b : Int} (hb : 0 ≤ b ∧ b ≤ 2) : f_X2_childFor r b N = some (chN S m (S 31 m.toNat) h b, N) := by
  have hn := hN.2.2 m.toNat (by omega)
  have h35 := hN.1
  have hs := stand_ok hg hn.2.1 h b
  have hc4 := chl_le hg hn.2.1
  have hcn := hS.2.2.2 m.toNat (by omega)
  unfold f_X2_childFor
  simp only [LtE]
  rw [f2, f3, f4, v_childAt hg hS.1.2.2.1 hn.2.1 hh (by omega), ClS]
  unfold f_X8_childOf chN
  simp only [LtE]
  rw [if_neg (by omega), hS.2.1, if_neg (by omega)]
  by_cases c : stand S (S 31 m.toNat) h b = -1
  · rw [if_pos (by omega), if_pos c, ClS]
  · have h1 : 0 ≤ stand S (S 31 m.toNat) h b ∧ stand S (S 31 m.toNat) h b < S 4 (S 31 m.toNat).toNat := by
      by_cases q : 0 ≤ b ∧ b < S 4 (shown S (S 31 m.toNat) h).toNat ∧ shown S (S 31 m.toNat) h ≠ -1
      · exact hs.1 q
      · exact absurd (hs.2 q) c
    have h2 := hcn.2.2.2.2.2 (stand S (S 31 m.toNat) h b).toNat (by omega)
    rw [if_pos (by rw [← hn.2.2.1]; omega)] at h2
    rw [if_neg (by omega), if_pos (by omega), wrE (v := m * 3) (by omega) (by omega), wrE (by omega) (by omega), if_neg (by omega), gdE (by omega), ClS, if_neg c]
    refine congrArg some (Prod.ext ?_ rfl)
    simp only
    rw [show (m * 3 + stand S (S 31 m.toNat) h b).toNat = 3 * m.toNat + (stand S (S 31 m.toNat) h b).toNat by omega]
    refine Eq.trans h2 ?_
    rw [show ((3 * m.toNat + (stand S (S 31 m.toNat) h b).toNat : Nat)) = (3 * m + stand S (S 31 m.toNat) h b).toNat by omega]
theorem c_letterFor {N S : Mm} {r : Nat} (hS : SC N S) (hg : Okg S) (hN : Okn S) {m : Int} (hm : 0 ≤ m ∧ m < S 0 35) {h : Nat} (f2 : N r 2 = m) (f4 : N r 4 = h) {a : Int} (ha : 0 ≤ a ∧ a ≤ 2) : f_X2_letterFor r a N = some (if h = 0 ∧ a < S 6 (S 30 m.toNat).toNat then S 7 (3 * S 30 m.toNat + a).toNat - 4 else -1, N) := by
  have hn := hN.2.2 m.toNat (by omega)
  have h35 := hN.1
  have h10 := hg.1
  have hcn := hS.2.2.2 m.toNat (by omega)
  have hcg := hS.1.1.2.2.2.1 _ hn.1.1 hn.1.2
  have hn1 := hn.1
  unfold f_X2_letterFor
  simp only [LtE]
  rw [f2, f4]
  by_cases c : h = 0
  · rw [if_pos (by omega), c8_readAsOf, ClS, if_pos (by omega), hcn.2.2.1, c_letterOf (by omega) (by omega), ClS, hcg.2.2.2.1]
    by_cases c2 : a < S 6 (S 30 m.toNat).toNat
    · rw [if_pos ⟨ha.1, c2⟩, if_pos ⟨c, c2⟩, hcg.2.2.2.2.2.2.2.2.2 a ha.1 c2]
    · rw [if_neg (fun q => c2 q.2), if_neg (fun q => c2 q.2)]
  · rw [if_neg (by omega), if_neg (fun q => c q.1)]
