theorem stk_rev_next (l : List Nat) (n t i : Nat) (ht : t ≤ l.length) (hi : i < l.length - t + 1) : (n :: l.drop t).reverse.getD i 0 = if i = l.length - t then n else l.reverse.getD i 0 := by
  have hlen : (n :: l.drop t).length = l.length - t + 1 := by simp
  rw [rev_getD _ _ (by rw [hlen]; exact hi), hlen]
  by_cases e : i = l.length - t
  · rw [if_pos e, show l.length - t + 1 - 1 - i = 0 by omega]; rfl
  · rw [if_neg e, rev_getD _ _ (by omega), show l.length - t + 1 - 1 - i = (l.length - t - 1 - i) + 1 by omega, List.getD_cons_succ]
    rw [List.getD_eq_getElem?_getD, List.getD_eq_getElem?_getD, List.getElem?_drop]
    congr 2; omega
/-- the reference lays its draft as the steps of an equation -/
def LaI (M : Mm) (e k : Nat) (M' : Mm) : Prop :=
  (∀ j, j ≠ 21 → j ≠ 22 → j ≠ 23 → j ≠ 24 → j ≠ 28 → M' j = M j) ∧
  (∀ i, i < k → M' 21 (8 * e + i) = M 13 i ∧ M' 22 (8 * e + i) = M 14 i ∧ M' 23 (8 * e + i) = M 15 i ∧ ∀ j, j < tkn (M 13 i) → M' 24 (3 * (8 * e + i) + j) = ((8 * e + opr (M 13) i j : Nat) : Int)) ∧
  (∀ i, i < 8 * e → M' 21 i = M 21 i ∧ M' 22 i = M 22 i ∧ M' 23 i = M 23 i) ∧ (∀ i, i < 24 * e → M' 24 i = M 24 i) ∧
  (∀ i, i < (stk (M 13) k).length → M' 28 i = ((8 * e + (stk (M 13) k).reverse.getD i 0 : Nat) : Int))
theorem r_laysIn {M : Mm} {at_ : Nat} {b : Nat} {t : Nat} {k : Nat} (hat : at_ < 240) (ht : t ≤ 3) (hb : b + t ≤ 9) {J : Int → Mm → Rs} :
    Lp (f_X12_lays_L78_44 at_ t b J) FU (k, 0, M) = J k (sr M 24 fun i => if 3 * at_ ≤ i ∧ i < 3 * at_ + t then M 28 (b + (i - 3 * at_)) else M 24 i) := by
  refine Lp_for t (fun j => ((k : Int), (j : Int), sr M 24 fun i => if 3 * at_ ≤ i ∧ i < 3 * at_ + j then M 28 (b + (i - 3 * at_)) else M 24 i)) (fun rc j hj => ?_) (fun rc => ?_) (FU_lt (by omega)) ?_
  · simp only [f_X12_lays_L78_44, LtE]
    rw [if_neg (by omega), wrE (v := 3 * (at_ : Int)) (by omega) (by omega), wrE (v := (b : Int) + j) (by omega) (by omega), wrE (v := (j : Int) + 1) (by omega) (by omega), wrE (by omega) (by omega), gdE (by omega), gdE (by omega), up_sr, sr_sr]
    refine congrArg rc (Prod.ext rfl (Prod.ext rfl (congrArg (sr M 24) (funext fun i => ?_))))
    rw [sr_at, sr_ne _ _ (by decide)]
    by_cases h : i = 3 * at_ + j
    · subst h
      rw [if_pos (by omega), if_pos (by omega), show ((b : Int) + j).toNat = b + (3 * at_ + j - 3 * at_) by omega]
    · rw [if_neg (by omega)]
      by_cases h2 : 3 * at_ ≤ i ∧ i < 3 * at_ + j
      · rw [if_pos h2, if_pos (by omega)]
      · rw [if_neg h2, if_neg (by omega)]
  · simp only [f_X12_lays_L78_44, LtE]
    rw [if_pos (by omega)]
  · refine Prod.ext rfl (Prod.ext rfl ?_)
    have : (fun i => if 3 * at_ ≤ i ∧ i < 3 * at_ + 0 then M 28 (b + (i - 3 * at_)) else M 24 i) = M 24 := funext fun i => if_neg (by omega)
    simp only [this, sr_self]
theorem r_lays {M : Mm} {e : Nat} (he : e < 30) (hd : 0 ≤ M 0 14 ∧ M 0 14 ≤ 8) (hl : ∀ k, k < (M 0 14).toNat → tkn (M 13 k) ≤ (stk (M 13) k).length) : Wp (f_X12_lays e M) fun r => ∃ M', LaI M e (M 0 14).toNat M' ∧ r.2 = up (up (up M' 25 e (M' 28 0)) 26 e (M' 28 1)) 20 e (M 0 14) := by
  unfold f_X12_lays
  simp only [LtE]
  refine Wp_lp (fun (s : Int × Int × Mm) => ∃ k : Nat, k ≤ (M 0 14).toNat ∧ s.2.1 = k ∧ s.1 = ((stk (M 13) k).length : Int) ∧ LaI M e k s.2.2) (fun s => (M 0 14 - s.2.1).toNat) ?_ FU _ ⟨0, Nat.zero_le _, rfl, rfl, fun _ _ _ _ _ _ => rfl, fun i hi => absurd hi (Nat.not_lt_zero _), fun _ _ => ⟨rfl, rfl, rfl⟩, fun _ _ => rfl, fun i hi => absurd hi (Nat.not_lt_zero _)⟩ (FU_lt (by simp only; omega))
  rintro rc ⟨n, k0, M'⟩ ⟨k, hk, ek, en, hI⟩ ih
  simp only at ek en hI ih
  subst ek en
  obtain ⟨i1, i2, i3, i4, i5⟩ := id hI
  have e0 := i1 0 (by decide) (by decide) (by decide) (by decide) (by decide)
  simp only [f_X12_lays_L4_45, LtE]
  rw [e0]
  by_cases c : M 0 14 ≤ k
  · have : k = (M 0 14).toNat := by omega
    subst this
    rw [if_pos c, gdE (by decide), gdE (by omega), gdE (by decide), gdE (by omega), gdE (by omega), Int.toNat_natCast]
    refine Wp_some ⟨M', hI, ?_⟩
    simp only
    rw [show up M' 25 e (M' 28 0) 28 = M' 28 from up_ne _ _ _ (by decide), show up (up M' 25 e (M' 28 0)) 26 e (M' 28 1) 0 = M' 0 by rw [up_ne _ _ _ (by decide), up_ne _ _ _ (by decide)], e0]
  rw [if_neg c]
  have hk8 : k < 8 := by omega
  have hlk := hl k (by omega)
  have hlen := stk_len_le (M 13) k
  have ht3 := tkn_le (M 13 k)
  have e13 : M' 13 = M 13 := i1 13 (by decide) (by decide) (by decide) (by decide) (by decide)
  have e14 : M' 14 = M 14 := i1 14 (by decide) (by decide) (by decide) (by decide) (by decide)
  have e15 : M' 15 = M 15 := i1 15 (by decide) (by decide) (by decide) (by decide) (by decide)
  rw [wrE (v := 8 * (e : Int)) (by omega) (by omega), wrE (v := 8 * (e : Int) + k) (by omega) (by omega), show 8 * (e : Int) + k = ((8 * e + k : Nat) : Int) by omega]
  rw [gdE (by omega), gdE (by omega), gdE (by omega), gdE (by omega), gdE (by omega), gdE (by omega), gdE (by omega), Int.toNat_natCast, Int.toNat_natCast]
  rw [show up M' 21 (8 * e + k) (M' 13 k) 14 = M 14 by rw [up_ne _ _ _ (by decide), e14]]
  rw [show up (up M' 21 (8 * e + k) (M' 13 k)) 22 (8 * e + k) (M 14 k) 15 = M 15 by rw [up_ne _ _ _ (by decide), up_ne _ _ _ (by decide), e15]]
  rw [show up (up (up M' 21 (8 * e + k) (M' 13 k)) 22 (8 * e + k) (M 14 k)) 23 (8 * e + k) (M 15 k) 13 = M 13 by rw [up_ne _ _ _ (by decide), up_ne _ _ _ (by decide), up_ne _ _ _ (by decide), e13], e13]
  generalize hX : up (up (up M' 21 (8 * e + k) (M 13 k)) 22 (8 * e + k) (M 14 k)) 23 (8 * e + k) (M 15 k) = X
  have x21 : ∀ i, X 21 i = if i = 8 * e + k then M 13 k else M' 21 i := fun i => by rw [← hX]; simp [up]
  have x22 : ∀ i, X 22 i = if i = 8 * e + k then M 14 k else M' 22 i := fun i => by rw [← hX]; simp [up]
  have x23 : ∀ i, X 23 i = if i = 8 * e + k then M 15 k else M' 23 i := fun i => by rw [← hX]; simp [up]
  have xr : ∀ j, j ≠ 21 → j ≠ 22 → j ≠ 23 → X j = M' j := fun j j1 j2 j3 => by rw [← hX, up_ne _ _ _ j3, up_ne _ _ _ j2, up_ne _ _ _ j1]
  rw [r_taken, ClS, wrE (by omega) (by omega), show ((stk (M 13) k).length : Int) - (tkn (M 13 k) : Int) = (((stk (M 13) k).length - tkn (M 13 k) : Nat) : Int) by omega]
  rw [r_laysIn (by omega) ht3 (by omega), gdE (by omega), wrE (by omega) (by omega), wrE (by omega) (by omega), Int.toNat_natCast]
  generalize hY : up (sr X 24 _) 28 _ _ = Y
  have y24 : ∀ i, Y 24 i = if 3 * (8 * e + k) ≤ i ∧ i < 3 * (8 * e + k) + tkn (M 13 k) then M' 28 ((stk (M 13) k).length - tkn (M 13 k) + (i - 3 * (8 * e + k))) else M' 24 i := fun i => by
    rw [← hY, up_ne _ _ _ (by decide), sr_at, xr 28 (by decide) (by decide) (by decide), xr 24 (by decide) (by decide) (by decide)]
  have y28 : ∀ i, Y 28 i = if i = (stk (M 13) k).length - tkn (M 13 k) then ((8 * e + k : Nat) : Int) else M' 28 i := fun i => by
    rw [← hY, up_se, sr_at, ← xr 28 (by decide) (by decide) (by decide)]
    unfold se; rw [sr_ne _ _ (by decide)]
  have yr : ∀ j, j ≠ 24 → j ≠ 28 → Y j = X j := fun j j1 j2 => by rw [← hY, up_ne _ _ _ j2, sr_ne _ _ j1]
  refine ih _ ⟨k + 1, by omega, by simp only; omega, ?_, fun j j1 j2 j3 j4 j5 => ?_, fun i hi => ?_, fun i hi => ?_, fun i hi => ?_, fun i hi => ?_⟩ (by simp only; omega)
  · simp only; rw [stk_len]; omega
  · simp only; rw [yr j j4 j5, xr j j1 j2 j3, i1 j j1 j2 j3 j4 j5]
  · simp only
    rw [yr 21 (by decide) (by decide), yr 22 (by decide) (by decide), yr 23 (by decide) (by decide), x21, x22, x23]
    by_cases e1 : i = k
    · subst e1
      refine ⟨if_pos rfl, if_pos rfl, if_pos rfl, fun j hj => ?_⟩
      rw [y24, if_pos (by omega), i5 _ (by omega), show (stk (M 13) i).length - tkn (M 13 i) + (3 * (8 * e + i) + j - 3 * (8 * e + i)) = (stk (M 13) i).length - tkn (M 13 i) + j by omega, rev_getD _ _ (by omega)]
      unfold opr
      rw [show (stk (M 13) i).length - 1 - ((stk (M 13) i).length - tkn (M 13 i) + j) = tkn (M 13 i) - 1 - j by omega]
    · have h2 := i2 i (by omega)
      have ht3' := tkn_le (M 13 i)
      rw [if_neg (by omega), if_neg (by omega), if_neg (by omega)]
      refine ⟨h2.1, h2.2.1, h2.2.2.1, fun j hj => ?_⟩
      rw [y24, if_neg (by omega)]
      exact h2.2.2.2 j hj
  · simp only
    rw [yr 21 (by decide) (by decide), yr 22 (by decide) (by decide), yr 23 (by decide) (by decide), x21, x22, x23, if_neg (by omega), if_neg (by omega), if_neg (by omega)]
    exact i3 i hi
  · simp only
    rw [y24, if_neg (by omega)]; exact i4 i hi
  · simp only at hi ⊢
    rw [stk_len] at hi
    rw [y28, show stk (M 13) (k + 1) = k :: (stk (M 13) k).drop (tkn (M 13 k)) from rfl, stk_rev_next _ _ _ _ hlk hi]
    by_cases e1 : i = (stk (M 13) k).length - tkn (M 13 k)
    · rw [if_pos e1, if_pos e1]
    · rw [if_neg e1, if_neg e1]; exact i5 i (by omega)
theorem g_kind {M S : Mm} (hM : CG M S) (hg : Okg S) (a : Int) : f_X5_kindOf a M = some (if 0 ≤ a ∧ a < S 0 12 then S 12 a.toNat else -1, M) := by
  rw [c_kindOf, hM.2.1]
  by_cases h : 0 ≤ a ∧ a < S 0 12
  · have := hg.2.1
    rw [if_pos h, if_pos ⟨h.1, h.2, by omega⟩, hM.2.2.1 a h.1 h.2]
  · rw [if_neg h, if_neg fun q => h ⟨q.1, q.2.1⟩]
theorem OkE.congr {S S' : Mm} {k : Nat} (h : OkE S k) (e0 : S' 0 0 = S 0 0) (e12 : S' 0 12 = S 0 12) (r4 : S' 4 = S 4) (r12 : S' 12 = S 12) (e : ∀ j, (16 ≤ j ∧ j ≤ 20) ∨ j = 25 ∨ j = 26 → S' j k = S j k) (es : ∀ j, 21 ≤ j → j ≤ 23 → ∀ i, i < 8 → S' j (8 * k + i) = S j (8 * k + i)) (et : ∀ i, i < 24 → S' 24 (24 * k + i) = S 24 (24 * k + i)) : OkE S' k := by
  obtain ⟨o1, o2, o3, o4, o5, o6, o7, o8, o9, o10⟩ := h
  have n0 : eN S' k = eN S k := by unfold eN; rw [e 20 (by omega)]
  have n8 : eN S k ≤ 8 := by unfold eN; omega
  have hk : ∀ i, i < eN S k → eK S' k i = eK S k i ∧ eA S' k i = eA S k i ∧ eB S' k i = eB S k i := fun i hi => ⟨es 21 (by decide) (by decide) i (by omega), es 22 (by decide) (by decide) i (by omega), es 23 (by decide) (by decide) i (by omega)⟩
  have hs : stk (eK S' k) (eN S k) = stk (eK S k) (eN S k) := stk_congr _ fun i hi => (hk i hi).1
  unfold OkE
  rw [n0, hs, e 16 (by omega), e 17 (by omega), e 18 (by omega), e 19 (by omega), e 20 (by omega), e 25 (by omega), e 26 (by omega), e0, e12, r4, r12]
  refine ⟨o1, o2, o3, o4, o5, o6.congr (by rw [e12]; exact Int.le_refl _) hk, o7, fun i hi j hj => ?_, o9, o10⟩
  rw [(hk i hi).1] at hj
  have ht := tkn_le (eK S k i)
  rw [opr_congr (K := eK S k) fun i' hi' => (hk i' (by omega)).1, show 3 * (8 * k + i) + j = 24 * k + (3 * i + j) by omega, et _ (by omega), show 24 * k + (3 * i + j) = 3 * (8 * k + i) + j by omega]
  exact o8 i hi j hj
abbrev eqA (S : Mm) (p a t d : Int) : Prop := (0 ≤ p ∧ p < S 0 0) ∧ (0 ≤ a ∧ a < S 0 12) ∧ (t < 0 ∨ t < S 4 p.toNat) ∧ (0 ≤ d ∧ d ≤ 3)
abbrev eqB (k t : Int) : Prop := (k = 1 ∧ 0 ≤ t) ∨ (k = 2 ∧ t = -2) ∨ (k ≠ 1 ∧ k ≠ 2 ∧ t = -1)
theorem c_goes (t k : Int) (M : Mm) : f_X11_goesWithKind t k M = some (if eqB k t then 1 else 0, M) := by
  unfold f_X11_goesWithKind Lt eqB; grind
def eqTail (v : Mm) : Rx := Cl (f_X1_append 14 v) fun v24 M23 => Cl (f_X0_clear 14 M23) fun _ M25 => Cl (f_X11_followGrammar M25) fun _ M26 => some (0, v24, M26)
theorem c_equationE {MC MR : Mm} (p1 : Okg MR) (q1 : CG MC MR) (p a t d : Int) : f_X11_equation p a t d MC = if ¬ eqA MR p a t d then some (1, 0, MC) else if ¬ eqB (MR 12 a.toNat) t then some (2, 0, MC) else if MC 14 5 = (if MR 12 a.toNat = 2 then 2 else 1) ∧ MC 25 0 < 30 then eqTail (up (up (up (up MC 14 0 p) 14 1 a) 14 2 t) 14 3 d) else some (3, 0, MC) := by
  unfold f_X11_equation
  rw [g_hasProduction q1, ClS]
  by_cases c1 : 0 ≤ p ∧ p < MR 0 0
  case neg => rw [if_neg c1, if_neg (by decide), if_pos fun q => c1 q.1]
  rw [if_pos c1, if_pos (by decide), g_mustAttr q1]
  by_cases c2 : 0 ≤ a ∧ a < MR 0 12
  case neg => rw [if_neg c2, if_pos fun q => c2 q.2.1]
  rw [if_pos c2, LtE]
  by_cases c3 : t < 0 ∨ t < MR 4 p.toNat
  case neg =>
    rw [if_neg (by omega), g_childCount q1 p1 c1, ClS, if_neg (by omega), if_pos fun q => c3 q.2.2.1]
  have h3 : ∀ {J A : Mm → Rx}, (if t < 0 then J MC else Cl (f_X5_childCountOf p MC) fun v30 M29 => if t < v30 then J M29 else A M29) = J MC := by
    intro J A
    by_cases h : t < 0
    · rw [if_pos h]
    · rw [if_neg h, g_childCount q1 p1 c1, ClS, if_pos (by omega)]
  by_cases c4 : 0 ≤ d ∧ d ≤ 3
  case neg =>
    refine (h3 (J := fun (M5 : Mm) => _) (A := fun (M5 : Mm) => some (1, 0, M5))).trans ?_
    rw [g_mustAspect, if_neg c4, if_pos fun q => c4 q.2.2.2]
  refine (h3 (J := fun (M5 : Mm) => _) (A := fun (M5 : Mm) => some (1, 0, M5))).trans ?_
  rw [g_mustAspect, if_pos c4, if_neg (c := ¬ eqA MR p a t d) fun q => q ⟨c1, c2, c3, c4⟩, g_kind q1 p1, if_pos c2, ClS, c_goes, ClS]
  by_cases c5 : eqB (MR 12 a.toNat) t
  case neg => rw [if_neg c5, if_neg (by decide), if_pos c5]
  rw [if_pos c5, if_pos (by decide), if_neg fun q => q c5]
  simp only [LtE]
  have hfin : ∀ w : Int, (if ¬ MC 14 5 = w then (some (3, 0, MC) : Rx) else if MC 25 0 < 30 then Cl (f_X0_place 14 p a t d MC) fun _ M22 => Cl (f_X1_append 14 M22) fun v24 M23 => Cl (f_X0_clear 14 M23) fun _ M25 => Cl (f_X11_followGrammar M25) fun _ M26 => some (0, v24, M26) else some (3, 0, MC)) = if MC 14 5 = w ∧ MC 25 0 < 30 then eqTail (up (up (up (up MC 14 0 p) 14 1 a) 14 2 t) 14 3 d) else some (3, 0, MC) := by
    intro w
    by_cases h1 : MC 14 5 = w
    · rw [if_neg fun q => q h1]
      by_cases h2 : MC 25 0 < 30
      · rw [if_pos h2, if_pos ⟨h1, h2⟩, c_place, ClS]; rfl
      · rw [if_neg h2, if_neg fun q => h2 q.2]
    · rw [if_pos h1, if_neg fun q => h1 q.1]
  by_cases c6 : MR 12 a.toNat = 2
  · rw [if_neg fun q => q c6, if_pos c6]; exact hfin 2
  · rw [if_pos c6, if_neg c6]; exact hfin 1
def eqBody (a1 a2 a3 a4 : Int) (M15 : Mm) : Rs :=
  gd (0 ≤ M15 0 19 ∧ M15 0 19 < 30) <|
  Lt (up M15 16 (M15 0 19).toNat a1) fun M19 =>
  Lt (M19 0 19) fun v20 =>
  gd (0 ≤ v20 ∧ v20 < 30) <|
  Lt (up M19 17 v20.toNat a2) fun M21 =>
  Lt (M21 0 19) fun v22 =>
  gd (0 ≤ v22 ∧ v22 < 30) <|
  Lt (up M21 18 v22.toNat a3) fun M23 =>
  Lt (M23 0 19) fun v24 =>
  gd (0 ≤ v24 ∧ v24 < 30) <|
  Lt (up M23 19 v24.toNat a4) fun M25 =>
  Lt (M25 0 19) fun v26 =>
  Cl (f_X12_lays v26 M25) fun _ M27 =>
  Lt (up M27 0 14 0) fun M28 =>
  Lt (up M28 0 15 0) fun M29 =>
  Lt (M29 0 19) fun v30 =>
  Lt (wr (v30 + 1)) fun v31 =>
  Lt (up M29 0 19 v31) fun M32 =>
  Cl (f_X12_dropsAll M32) fun _ M33 =>
  Lt (M33 0 19) fun v34 =>
  Lt (wr (v34 - 1)) fun v35 =>
  some (v35, M33)
def eqHead (F : Int → Mm → Rs) (a1 : Int) (a2 : Int) (a3 : Int) (a4 : Int) (M : Mm) : Rs :=
Cl (f_X12_isProduction a1 M) fun v2 M1 =>
Lt (fun (v3 : Int) (M4 : Mm) => 
Lt (fun (v6 : Int) (M7 : Mm) => 
Lt (fun (v9 : Int) (M10 : Mm) => 
Lt F fun J165_14 =>
if ¬ v3 = 0 then (
if ¬ v9 = 0 then (
Lt (M10 0 15) fun v38 =>
Lt (fun (v39 : Int) (M40 : Mm) => 
Lt (fun (M42 : Mm) => 
J165_14 3 M42) fun J160_43 =>
if ¬ v38 = v39 then (
J160_43 M40) else (
Lt (M40 0 19) fun v45 =>
if ¬ v45 = 30 then (
J165_14 0 M40) else (
J160_43 M40))) fun J148_41 =>
if ¬ v6 = 2 then (
J148_41 1 M10) else (
J148_41 2 M10)) else (
J165_14 2 M10)) else (
J165_14 1 M10)) fun J112_11 =>
if ¬ v6 = 1 then (
if ¬ v6 = 2 then (
if ¬ a3 = ((-1)) then (
J112_11 0 M7) else (
J112_11 1 M7)) else (
if ¬ a3 = ((-2)) then (
J112_11 0 M7) else (
J112_11 1 M7))) else (
if a3 < 0 then (
J112_11 0 M7) else (
J112_11 1 M7))) fun J62_8 =>
if v3 = 0 then (
J62_8 0 M4) else (
gd (0 ≤ a2 ∧ a2 < 6) <|
Lt (M4 12 a2.toNat) fun v54 =>
J62_8 v54 M4)) fun J45_5 =>
Lt (fun (M55 : Mm) => 
J45_5 0 M55) fun J44_56 =>
if v2 = 0 then (
J44_56 M1) else (
Cl (f_X12_isAttribute a2 M1) fun v59 M58 =>
if v59 = 0 then (
J44_56 M58) else (
Cl (f_X12_isIn a4 0 3 M58) fun v62 M61 =>
if v62 = 0 then (
J44_56 M61) else (
Lt (fun (M64 : Mm) => 
J45_5 1 M64) fun J40_65 =>
if a3 < 0 then (
J40_65 M61) else (
gd (0 ≤ a1 ∧ a1 < 10) <|
Lt (M61 4 a1.toNat) fun v67 =>
if v67 ≤ a3 then (
J44_56 M61) else (
J40_65 M61)))))
theorem r_equationE {M : Mm} (p1 : Okg M) (p a t d : Int) : f_X12_equation p a t d M = Cl (f_X12_fails (if ¬ eqA M p a t d then 1 else if ¬ eqB (M 12 a.toNat) t then 2 else if M 0 15 = (if M 12 a.toNat = 2 then 2 else 1) ∧ M 0 19 ≠ 30 then 0 else 3) M) fun v16 M15 => if v16 = 0 then eqBody p a t d M15 else some (0, M15) := by
  have h0 := p1.1
  have h12 := p1.2.1
  rw [show f_X12_equation p a t d M = eqHead (fun (v12 : Int) (M13 : Mm) => Cl (f_X12_fails v12 M13) fun v16 M15 => if v16 = 0 then eqBody p a t d M15 else some (0, M15)) p a t d M from rfl]
  generalize hF : (fun (v12 : Int) (M13 : Mm) => Cl (f_X12_fails v12 M13) fun v16 M15 => if v16 = 0 then eqBody p a t d M15 else some (0, M15)) = F
  have hF' : ∀ v M, F v M = Cl (f_X12_fails v M) fun v16 M15 => if v16 = 0 then eqBody p a t d M15 else some (0, M15) := fun v M => by rw [← hF]
  clear hF
  unfold eqHead
  rw [← hF', r_isProduction h0, ClS]
  by_cases c1 : 0 ≤ p ∧ p < M 0 0
  case neg => rw [if_neg c1, if_pos fun q => c1 q.1]; simp [Lt]
  rw [if_pos c1]
  by_cases c2 : 0 ≤ a ∧ a < M 0 12
  case neg => rw [if_pos (c := ¬ eqA M p a t d) fun q => c2 q.2.1]; simp [Lt, r_isAttribute h12, ClS, c2]
  by_cases c3 : t < 0 ∨ t < M 4 p.toNat
  case neg =>
    have c31 : ¬ t < 0 := by omega
    have c32 : M 4 p.toNat ≤ t := by omega
    rw [if_pos (c := ¬ eqA M p a t d) fun q => c3 q.2.2.1]
    by_cases c4 : 0 ≤ d ∧ d ≤ 3
    · simp [Lt, r_isAttribute h12, ClS, c2, r_isIn, c4, c31, c32, gdE (show 0 ≤ p ∧ p < 10 by omega)]
    · simp [Lt, r_isAttribute h12, ClS, c2, r_isIn, c4]
  by_cases c4 : 0 ≤ d ∧ d ≤ 3
  case neg => rw [if_pos (c := ¬ eqA M p a t d) fun q => c4 q.2.2.2]; simp [Lt, r_isAttribute h12, ClS, c2, r_isIn, c4]
  rw [if_neg (c := ¬ eqA M p a t d) fun q => q ⟨c1, c2, c3, c4⟩]
  have h3 : ∀ {J A : Mm → Rs}, (if t < 0 then J M else gd (0 ≤ p ∧ p < 10) (Lt (M 4 p.toNat) fun v67 => if v67 ≤ t then A M else J M)) = J M := by
    intro J A
    by_cases h : t < 0
    · rw [if_pos h]
    · rw [if_neg h, gdE (by omega), LtE, if_neg (by omega)]
  simp only [LtE, r_isAttribute h12, ClS, if_pos c2, r_isIn, if_pos c4, if_neg (show ¬ (1 : Int) = 0 by decide)]
  rw [gdE (show 0 ≤ a ∧ a < 6 by omega)]
  refine (h3 (J := fun _ => _) (A := fun _ => _)).trans ?_
  by_cases k1 : M 12 a.toNat = 1
  · have e : eqB (M 12 a.toNat) t ↔ 0 ≤ t := by unfold eqB; omega
    have e2 : ¬ M 12 a.toNat = 2 := by omega
    rw [if_neg fun q => q k1, if_neg e2]
    by_cases c5 : t < 0
    · rw [if_pos c5, if_pos fun q => absurd (e.mp q) (by omega)]; simp
    · rw [if_neg c5, if_neg (c := ¬ eqB (M 12 a.toNat) t) fun q => q (e.mpr (by omega))]
      simp only [e2]
      by_cases c6 : M 0 15 = 1
      · by_cases c7 : M 0 19 = 30 <;> simp [c6, c7]
      · simp [c6]
  · rw [if_pos k1]
    by_cases k2 : M 12 a.toNat = 2
    · have e : eqB (M 12 a.toNat) t ↔ t = -2 := by unfold eqB; omega
      rw [if_neg fun q => q k2, if_pos k2]
      by_cases c5 : t = -2
      · rw [if_neg fun q => q c5, if_neg (c := ¬ eqB (M 12 a.toNat) t) fun q => q (e.mpr c5)]
        by_cases c6 : M 0 15 = 2
        · by_cases c7 : M 0 19 = 30 <;> simp [c6, c7, k2]
        · simp [c6, k2]
      · rw [if_pos c5, if_pos fun q => c5 (e.mp q)]; simp
    · have e : eqB (M 12 a.toNat) t ↔ t = -1 := by unfold eqB; omega
      rw [if_pos k2, if_neg k2]
      by_cases c5 : t = -1
      · rw [if_neg fun q => q c5, if_neg (c := ¬ eqB (M 12 a.toNat) t) fun q => q (e.mpr c5)]
        by_cases c6 : M 0 15 = 1
        · by_cases c7 : M 0 19 = 30 <;> simp [c6, c7, k2]
        · simp [c6, k2]
      · rw [if_pos c5, if_pos fun q => c5 (e.mp q)]; simp
theorem c_append1 {M : Mm} {k : Nat} (hk : k < 30) (e : M 25 0 = k) : Wp (f_X1_append 14 M) fun r => r.1 = (k : Int) ∧ (∀ i, i < 6 → r.2 (33 + 8 * k) i = M 14 i) ∧ (∀ j, 1 ≤ j → j ≤ 6 → ∀ i, i < 8 → r.2 (33 + 8 * k + j) i = M (14 + j) i) ∧ (∀ j, ¬ (33 + 8 * k ≤ j ∧ j ≤ 33 + 8 * k + 6) → j ≠ 25 → r.2 j = M j) ∧ r.2 25 0 = ((k + 1 : Nat) : Int) := by
  unfold f_X1_append
  simp only [LtE]
  rw [e, if_neg (by omega), if_neg (by omega), gdE (by omega), if_pos (by omega), gdE ⟨by omega, by rw [Int.toNat_natCast, Int.toNat_natCast]; exact isE_k hk⟩, Int.toNat_natCast, Int.toNat_natCast]
  obtain ⟨r, hr, t1, t2, t3⟩ := c_take (M := M) hk
  rw [hr, ClS, t3 25 (by omega), e, wrE (by omega) (by omega)]
  refine Wp_some ⟨rfl, fun i hi => ?_, fun j j1 j2 i hi => ?_, fun j j1 j2 => ?_, ?_⟩
  · simp only; rw [up_ne _ _ _ (by omega)]; exact t1 i hi
  · simp only; rw [up_ne _ _ _ (by omega)]; exact t2 j j1 j2 i hi
  · simp only; rw [up_ne _ _ _ j2]; exact t3 j j1
  · simp only; rw [up_at]; omega
theorem s_equation {RG : Mm → Nat → Int} (hRG : RGok RG) : S_equation (Inv RG) := by
  intro MC MR k p a t d i1 i2 i3 i4 hI hk
  obtain ⟨⟨⟨p1, p2, p3, p4, p5⟩, ⟨q1, q2, q3, q4, q5⟩, q6, q7, p6⟩, hV, hR, hB⟩ := id hI
  rw [c_equationE p1 q1, r_equationE p1, r_fails, ClS]
  by_cases h1 : eqA MR p a t d
  case neg =>
    refine ⟨(1, 0, MC), (0, up MR 0 87 1), by rw [if_pos h1], ?_, by simp, by simp [up], by simp, hI.thr hRG _ _⟩
    rw [if_pos (c := ¬ eqA MR p a t d) h1, if_neg (by decide)]
  have y1 : ¬ ¬ eqA MR p a t d := fun q => q h1
  rw [if_neg y1, if_neg y1]
  by_cases h2 : eqB (MR 12 a.toNat) t
  case neg =>
    refine ⟨(2, 0, MC), (0, up MR 0 87 2), by rw [if_pos h2], ?_, by simp, by simp [up], by simp, hI.thr hRG _ _⟩
    rw [if_pos (c := ¬ eqB (MR 12 a.toNat) t) h2, if_neg (by decide)]
  have y2 : ¬ ¬ eqB (MR 12 a.toNat) t := fun q => q h2
  rw [if_neg y2, if_neg y2, q2.2.1, q3.1]
  have h19 := p3.1
  by_cases h3 : MR 0 15 = (if MR 12 a.toNat = 2 then 2 else 1) ∧ MR 0 19 ≠ 30
  case neg =>
    refine ⟨(3, 0, MC), (0, up MR 0 87 3), by rw [if_neg (fun q => h3 ⟨q.1, by omega⟩)], ?_, by simp, by simp [up], by simp, hI.thr hRG _ _⟩
    rw [if_neg h3, if_neg (by decide)]
  rw [if_pos h3, if_pos (c := _ ∧ MR 0 19 < 30) ⟨h3.1, by omega⟩, if_pos (by decide)]
  obtain ⟨h31, h32⟩ := h3
  obtain ⟨⟨a1, a2⟩, ⟨a3, a4⟩, a5, a6⟩ := h1
  obtain ⟨K, hK⟩ : ∃ K : Nat, MR 0 19 = K := ⟨(MR 0 19).toNat, by omega⟩
  obtain ⟨N, hN⟩ : ∃ N : Nat, MR 0 14 = N := ⟨(MR 0 14).toNat, by have := p2.1; omega⟩
  have hN8 : N ≤ 8 := by have := p2.1; omega
  have hK30 : K < 30 := by omega
  obtain ⟨d1, d2, d3⟩ := id p2
  rw [hN, Int.toNat_natCast] at d2 d3
  -- the reference
  generalize hX : up (up (up (up (up MR 0 87 0) 16 K p) 17 K a) 18 K t) 19 K d = X
  have xr : ∀ j, j ≠ 0 → ¬ (16 ≤ j ∧ j ≤ 19) → X j = MR j := fun j j1 j2 => by rw [← hX, up_ne _ _ _ (by omega), up_ne _ _ _ (by omega), up_ne _ _ _ (by omega), up_ne _ _ _ (by omega), up_ne _ _ _ j1]
  have x0 : ∀ i, i ≠ 87 → X 0 i = MR 0 i := fun i hi => by rw [← hX]; simp [up, hi]
  have x87 : X 0 87 = 0 := by rw [← hX]; simp [up]
  have x16 : ∀ i, X 16 i = if i = K then p else MR 16 i := fun i => by rw [← hX]; simp [up]
  have x17 : ∀ i, X 17 i = if i = K then a else MR 17 i := fun i => by rw [← hX]; simp [up]
  have x18 : ∀ i, X 18 i = if i = K then t else MR 18 i := fun i => by rw [← hX]; simp [up]
  have x19 : ∀ i, X 19 i = if i = K then d else MR 19 i := fun i => by rw [← hX]; simp [up]
  have x13 : X 13 = MR 13 := xr 13 (by decide) (by decide)
  obtain ⟨r, hr, M', hL, hr2⟩ := r_lays (M := X) (e := K) hK30 (by rw [x0 14 (by decide)]; exact d1) (by rw [x0 14 (by decide), hN, Int.toNat_natCast, x13]; exact fun i hi => (d2 i hi).2)
  rw [x0 14 (by decide), hN] at hr2 hL
  rw [Int.toNat_natCast] at hL
  generalize hM1 : up (up (up r.2 0 14 0) 0 15 0) 0 19 ((K + 1 : Nat) : Int) = M1
  have rr : ∀ j, j ≠ 20 → j ≠ 25 → j ≠ 26 → r.2 j = M' j := fun j j1 j2 j3 => by rw [hr2, up_ne _ _ _ j1, up_ne _ _ _ j3, up_ne _ _ _ j2]
  obtain ⟨l1, l2, l3, l4, l5⟩ := hL
  have m0 : ∀ i, i ≠ 14 → i ≠ 15 → i ≠ 19 → i ≠ 87 → M1 0 i = MR 0 i := fun i j1 j2 j3 j4 => by
    rw [← hM1]; simp only [up, j1, j2, j3, and_false, if_false]
    rw [rr 0 (by decide) (by decide) (by decide), l1 0 (by decide) (by decide) (by decide) (by decide) (by decide), x0 i j4]
  have m14 : M1 0 14 = 0 := by rw [← hM1]; simp [up]
  have m15 : M1 0 15 = 0 := by rw [← hM1]; simp [up]
  have m19 : M1 0 19 = ((K + 1 : Nat) : Int) := by rw [← hM1, up_at]
  have m87 : M1 0 87 = 0 := by
    rw [← hM1]; simp only [up]
    rw [if_neg (by decide), if_neg (by decide), if_neg (by decide), rr 0 (by decide) (by decide) (by decide), l1 0 (by decide) (by decide) (by decide) (by decide) (by decide), x87]
  have m1 : ∀ j, j ≠ 0 → M1 j = r.2 j := fun j hj => by rw [← hM1, up_ne _ _ _ hj, up_ne _ _ _ hj, up_ne _ _ _ hj]
  have mr : ∀ j, j ≠ 0 → ¬ (16 ≤ j ∧ j ≤ 26) → j ≠ 28 → M1 j = MR j := fun j j0 j1 j2 => by
    rw [m1 j j0, rr j (by omega) (by omega) (by omega), l1 j (by omega) (by omega) (by omega) (by omega) (by omega), xr j j0 (by omega)]
  have mq : ∀ j, 16 ≤ j → j ≤ 19 → M1 j = X j := fun j j0 j1 => by
    rw [m1 j (by omega), rr j (by omega) (by omega) (by omega), l1 j (by omega) (by omega) (by omega) (by omega) (by omega)]
  have m16 : ∀ i, M1 16 i = if i = K then p else MR 16 i := fun i => by rw [mq 16 (by decide) (by decide), x16]
  have m17 : ∀ i, M1 17 i = if i = K then a else MR 17 i := fun i => by rw [mq 17 (by decide) (by decide), x17]
  have m18 : ∀ i, M1 18 i = if i = K then t else MR 18 i := fun i => by rw [mq 18 (by decide) (by decide), x18]
  have mm19 : ∀ i, M1 19 i = if i = K then d else MR 19 i := fun i => by rw [mq 19 (by decide) (by decide), x19]
  have m20 : ∀ i, M1 20 i = if i = K then (N : Int) else MR 20 i := fun i => by
    rw [m1 20 (by decide), hr2, up_se, sr_at]; unfold se
    rw [up_ne _ _ _ (by decide), up_ne _ _ _ (by decide), l1 20 (by decide) (by decide) (by decide) (by decide) (by decide), xr 20 (by decide) (by decide)]
  have m25 : ∀ i, M1 25 i = if i = K then M' 28 0 else MR 25 i := fun i => by
    rw [m1 25 (by decide), hr2, up_ne _ _ _ (by decide), up_ne _ _ _ (by decide), up_se, sr_at]; unfold se
    rw [l1 25 (by decide) (by decide) (by decide) (by decide) (by decide), xr 25 (by decide) (by decide)]
  have m26 : ∀ i, M1 26 i = if i = K then M' 28 1 else MR 26 i := fun i => by
    rw [m1 26 (by decide), hr2, up_ne _ _ _ (by decide), up_se, sr_at]; unfold se
    rw [up_ne _ _ _ (by decide), l1 26 (by decide) (by decide) (by decide) (by decide) (by decide), xr 26 (by decide) (by decide)]
  have m21 : ∀ i, i < 8 * K → M1 21 i = MR 21 i ∧ M1 22 i = MR 22 i ∧ M1 23 i = MR 23 i := fun i hi => by
    rw [m1 21 (by decide), m1 22 (by decide), m1 23 (by decide), rr 21 (by decide) (by decide) (by decide), rr 22 (by decide) (by decide) (by decide), rr 23 (by decide) (by decide) (by decide), ← xr 21 (by decide) (by decide), ← xr 22 (by decide) (by decide), ← xr 23 (by decide) (by decide)]
    exact l3 i hi
  have m24 : ∀ i, i < 24 * K → M1 24 i = MR 24 i := fun i hi => by
    rw [m1 24 (by decide), rr 24 (by decide) (by decide) (by decide), ← xr 24 (by decide) (by decide)]
    exact l4 i hi
  have mst : ∀ i, i < N → eK M1 K i = MR 13 i ∧ eA M1 K i = MR 14 i ∧ eB M1 K i = MR 15 i := fun i hi => by
    unfold eK eA eB
    rw [m1 21 (by decide), m1 22 (by decide), m1 23 (by decide), rr 21 (by decide) (by decide) (by decide), rr 22 (by decide) (by decide) (by decide), rr 23 (by decide) (by decide) (by decide), ← x13, ← xr 14 (by decide) (by decide), ← xr 15 (by decide) (by decide)]
    exact ⟨(l2 i hi).1, (l2 i hi).2.1, (l2 i hi).2.2.1⟩
  rw [x13] at l2 l5
  have hstk : stk (eK M1 K) N = stk (MR 13) N := stk_congr _ fun i hi => (mst i hi).1
  have hlenN := stk_len_le (MR 13) N
  have hN1 : 1 ≤ N := by
    rw [d3] at h31
    split at h31 <;> omega
  have nK : eN M1 K = N := by unfold eN; rw [m20, if_pos rfl, Int.toNat_natCast]
  have hOk : OkE M1 K := by
    unfold OkE
    rw [m16, m17, m18, mm19, m20, m25, m26, if_pos rfl, if_pos rfl, if_pos rfl, if_pos rfl, if_pos rfl, if_pos rfl, if_pos rfl, nK, m0 0 (by decide) (by decide) (by decide) (by decide), m0 12 (by decide) (by decide) (by decide) (by decide), mr 12 (by decide) (by decide) (by decide), mr 4 (by decide) (by decide) (by decide), hstk]
    refine ⟨⟨a1, a2⟩, ⟨a3, a4⟩, a6, ⟨by omega, by omega⟩, ?_, d2.congr (by rw [m0 12 (by decide) (by decide) (by decide) (by decide)]; exact Int.le_refl _) mst, ?_, fun i hi j hj => ?_, ?_, fun h => ?_⟩
    · rcases h2 with ⟨e1, e2⟩ | ⟨e1, e2⟩ | ⟨e1, e3, e2⟩
      · rw [if_pos e1]; exact ⟨e2, by omega⟩
      · rw [if_neg (by omega), if_pos e1]; exact e2
      · rw [if_neg e1, if_neg e3]; exact e2
    · rw [d3] at h31; split at h31 <;> rename_i c
      · rw [if_pos c]; omega
      · rw [if_neg c]; omega
    · rw [(mst i hi).1] at hj
      rw [opr_congr (K := MR 13) (fun i' hi' => (mst i' (by omega)).1), m1 24 (by decide), rr 24 (by decide) (by decide) (by decide)]
      exact (l2 i hi).2.2.2 j hj
    · exact l5 0 (by rw [d3] at h31; split at h31 <;> omega)
    · exact l5 1 (by rw [d3, if_pos h] at h31; omega)
  have hOke : Oke M1 := by
    refine ⟨by rw [m19]; omega, fun k' hk' => ?_, by rw [mr 27 (by decide) (by decide) (by decide)]; exact p3.2.2⟩
    rw [m19] at hk'
    by_cases e : k' = K
    · subst e; exact hOk
    · refine (p3.2.1 k' (by omega)).congr (m0 0 (by decide) (by decide) (by decide) (by decide)) (m0 12 (by decide) (by decide) (by decide) (by decide)) (mr 4 (by decide) (by decide) (by decide)) (mr 12 (by decide) (by decide) (by decide)) (fun j hj => ?_) (fun j j1 j2 i hi => ?_) (fun i hi => m24 _ (by omega))
      · have hj' : j = 16 ∨ j = 17 ∨ j = 18 ∨ j = 19 ∨ j = 20 ∨ j = 25 ∨ j = 26 := by omega
        rcases hj' with rfl | rfl | rfl | rfl | rfl | rfl | rfl
        · rw [m16, if_neg e]
        · rw [m17, if_neg e]
        · rw [m18, if_neg e]
        · rw [mm19, if_neg e]
        · rw [m20, if_neg e]
        · rw [m25, if_neg e]
        · rw [m26, if_neg e]
      · have h := m21 (8 * k' + i) (by omega)
        have hj' : j = 21 ∨ j = 22 ∨ j = 23 := by omega
        rcases hj' with rfl | rfl | rfl
        · exact h.1
        · exact h.2.1
        · exact h.2.2
  -- the class
  have hE5 : up (up (up (up MC 14 0 p) 14 1 a) 14 2 t) 14 3 d 25 0 = (K : Int) := by rw [up_ne _ _ _ (by decide), up_ne _ _ _ (by decide), up_ne _ _ _ (by decide), up_ne _ _ _ (by decide), q3.1, hK]
  obtain ⟨s, hs, s1, s2, s3, s4, s5⟩ := c_append1 hK30 hE5
  generalize hP : up (up (up (up MC 14 0 p) 14 1 a) 14 2 t) 14 3 d = P at hs s2 s3 s4
  have pr : ∀ j, j ≠ 14 → P j = MC j := fun j hj => by rw [← hP, up_ne _ _ _ hj, up_ne _ _ _ hj, up_ne _ _ _ hj, up_ne _ _ _ hj]
  generalize hC1 : up (up s.2 14 4 0) 14 5 0 = C1
  have cr : ∀ j, j ≠ 14 → C1 j = s.2 j := fun j hj => by rw [← hC1, up_ne _ _ _ hj, up_ne _ _ _ hj]
  have c14 : C1 14 4 = 0 ∧ C1 14 5 = 0 := by rw [← hC1]; constructor <;> simp [up]
  have co : ∀ j, j ≠ 14 → j ≠ 25 → ¬ (33 + 8 * K ≤ j ∧ j ≤ 33 + 8 * K + 6) → C1 j = MC j := fun j j1 j2 j3 => by rw [cr j j1, s4 j j3 j2, pr j j1]
  have hcl : eqTail P = Cl (f_X11_followGrammar C1) fun _ M9 => some (0, (K : Int), M9) := by
    unfold eqTail f_X0_clear
    rw [hs, show (s : Int × Mm) = (s.1, s.2) from rfl, ClS]
    simp only [LtE]
    rw [ClS, hC1, s1]
  have ho : eqBody p a t d (up MR 0 87 0) = some ((K : Int), sr M1 50 fun i => if i < 360 then 0 else M1 50 i) := by
    have z : ∀ (A : Mm) (j i : Nat) (v : Int), j ≠ 0 → up A j i v 0 19 = A 0 19 := fun A j i v hj => by rw [up_ne _ _ _ (fun q => hj q.symm)]
    have z0 : up MR 0 87 0 0 19 = (K : Int) := by rw [← hK]; simp [up]
    unfold eqBody
    simp only [LtE]
    rw [z _ 19 _ _ (by decide), z _ 18 _ _ (by decide), z _ 17 _ _ (by decide), z _ 16 _ _ (by decide), z0, gdE (by omega), gdE (by omega), gdE (by omega), gdE (by omega), Int.toNat_natCast, hX, hr, show (r : Int × Mm) = (r.1, r.2) from rfl, ClS]
    have z1 : up (up r.2 0 14 0) 0 15 0 0 19 = (K : Int) := by
      simp only [up]
      rw [if_neg (by decide), if_neg (by decide), rr 0 (by decide) (by decide) (by decide), l1 0 (by decide) (by decide) (by decide) (by decide) (by decide), x0 19 (by decide), hK]
    rw [z1, wrE (by omega) (by omega), show (K : Int) + 1 = ((K + 1 : Nat) : Int) by omega, hM1, r_dropsAll, ClS, sr_ne _ _ (by decide), m19, wrE (by omega) (by omega), show ((K + 1 : Nat) : Int) - 1 = K by omega]
  refine fin_op (RG := RG) (k + 1) hcl ho ⟨⟨?_, ?_, hOke, ?_, ?_⟩, ⟨?_, ?_, ?_, ?_, ?_⟩, ?_, ?_, ?_⟩ ?_
  · exact p1.of (m0 0 (by decide) (by decide) (by decide) (by decide)) (m0 12 (by decide) (by decide) (by decide) (by decide)) fun j j1 j2 => mr j (by omega) (by omega) (by omega)
  · unfold Okd
    rw [m14, m15]
    exact ⟨by decide, fun i hi => absurd hi (Nat.not_lt_zero _), rfl⟩
  · exact p4.of (m0 33 (by decide) (by decide) (by decide) (by decide)) (mr 29 (by decide) (by decide) (by decide))
  · exact p5.of (by rw [m0 0 (by decide) (by decide) (by decide) (by decide)]; exact Int.le_refl _) (m0 35 (by decide) (by decide) (by decide) (by decide)) (m0 36 (by decide) (by decide) (by decide) (by decide)) (fun j j1 j2 => mr j (by omega) (by omega) (by omega)) (fun q _ _ => by rw [mr 4 (by decide) (by decide) (by decide), mr 6 (by decide) (by decide) (by decide)]; exact ⟨rfl, rfl⟩)
  · have := q1.of (M' := C1) fun j j1 j2 => co j (by omega) (by omega) (by omega)
    unfold CG at this ⊢
    rw [m0 0 (by decide) (by decide) (by decide) (by decide), m0 12 (by decide) (by decide) (by decide) (by decide), mr 1 (by decide) (by decide) (by decide), mr 2 (by decide) (by decide) (by decide), mr 3 (by decide) (by decide) (by decide), mr 4 (by decide) (by decide) (by decide), mr 5 (by decide) (by decide) (by decide), mr 6 (by decide) (by decide) (by decide), mr 7 (by decide) (by decide) (by decide), mr 8 (by decide) (by decide) (by decide), mr 9 (by decide) (by decide) (by decide), mr 10 (by decide) (by decide) (by decide), mr 11 (by decide) (by decide) (by decide), mr 12 (by decide) (by decide) (by decide)]
    exact this
  · unfold CD
    rw [m14, m15]
    refine ⟨c14.1, c14.2, ⟨fun i hi => absurd hi (Nat.not_lt_zero _), fun r hr => by cases hr⟩, fun i hi => absurd hi (Nat.not_lt_zero _)⟩
  · unfold CE
    rw [m19, cr 25 (by decide), s5, co 27 (by decide) (by decide) (by omega), mr 27 (by decide) (by decide) (by decide)]
    refine ⟨rfl, q3.2.1, fun k' hk' => ?_⟩
    by_cases e : k' = K
    · subst e
      have y : ∀ i, i < 6 → C1 (33 + 8 * k') i = P 14 i := fun i hi => by rw [cr _ (by omega)]; exact s2 i hi
      have w : P 14 0 = p ∧ P 14 1 = a ∧ P 14 2 = t ∧ P 14 3 = d ∧ P 14 4 = MC 14 4 := by rw [← hP]; simp [up]
      rw [y 0 (by decide), y 1 (by decide), y 2 (by decide), y 3 (by decide), y 4 (by decide), w.1, w.2.1, w.2.2.1, w.2.2.2.1, w.2.2.2.2, m16, m17, m18, mm19, m20, if_pos rfl, if_pos rfl, if_pos rfl, if_pos rfl, if_pos rfl, q2.1, hN, nK]
      refine ⟨rfl, rfl, rfl, rfl, rfl, ?_⟩
      have hC := q2.2.2.1
      rw [hN, Int.toNat_natCast] at hC
      refine hC.congr (fun i hi => (d2 i hi).2) hN8 mst fun j j1 j2 i hi => ?_
      rw [cr _ (by omega), s3 j j1 j2 i hi, pr _ (by omega)]
    · have hE := q3.2.2 k' (by omega)
      have hk8 : ∀ j, j ≤ 6 → C1 (33 + 8 * k' + j) = MC (33 + 8 * k' + j) := fun j hj => co _ (by omega) (by omega) (by omega)
      have h0 := hk8 0 (by decide)
      rw [Nat.add_zero] at h0
      have hn' : eN M1 k' = eN MR k' := by unfold eN; rw [m20, if_neg e]
      have hn8 : eN MR k' ≤ 8 := by
        have := (p3.2.1 k' (by omega)).2.2.2.1
        unfold eN; omega
      rw [h0, m16, m17, m18, mm19, m20, if_neg e, if_neg e, if_neg e, if_neg e, if_neg e, hn']
      refine ⟨hE.1, hE.2.1, hE.2.2.1, hE.2.2.2.1, hE.2.2.2.2.1, hE.2.2.2.2.2.congr (fun i hi => ((p3.2.1 k' (by omega)).2.2.2.2.2.1 i hi).2) hn8 (fun i hi => ?_) fun j j1 j2 i hi => by rw [hk8 j j2]⟩
      have h := m21 (8 * k' + i) (by omega)
      exact h
  · exact q4.of (m0 33 (by decide) (by decide) (by decide) (by decide)) (mr 29 (by decide) (by decide) (by decide)) fun j j1 j2 => co j (by omega) (by omega) (by omega)
  · exact q5.of p5 (m0 35 (by decide) (by decide) (by decide) (by decide)) (m0 36 (by decide) (by decide) (by decide) (by decide)) (fun j j1 j2 => mr j (by omega) (by omega) (by omega)) (fun q _ _ => by rw [mr 4 (by decide) (by decide) (by decide)]) fun j j1 j2 => co j (by omega) (by omega) (by omega)
  · exact q6.of fun j hj => co j (by omega) (by omega) (by omega)
  · rw [co 299 (by decide) (by decide) (by omega), m0 67 (by decide) (by decide) (by decide) (by decide)]; exact q7
  · exact p6.of (m0 35 (by decide) (by decide) (by decide) (by decide)) (m0 68 (by decide) (by decide) (by decide) (by decide)) (m0 79 (by decide) (by decide) (by decide) (by decide)) (mr 51 (by decide) (by decide) (by decide)) (mr 36 (by decide) (by decide) (by decide))
  · intro M2 h2
    refine ⟨Or.inl rfl, ?_, fun _ => rfl, h2⟩
    simp only
    rw [sr_ne _ _ (by decide), m87]
    simp
