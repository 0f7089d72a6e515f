/-! the class cuts a stretch up, tells what is put in, and lets children wait -/
theorem wg_cut {S : Mm} {W T : Nat → Int} {p j f t : Int} (ft : f ≤ t) : f ≤ (wg S W T p j f t).2 ∧ (wg S W T p j f t).2 ≤ t := by
  unfold wg
  by_cases c0 : S 2 p.toNat = 0
  · rw [if_pos c0]; exact ⟨ft, Int.le_refl _⟩
  rw [if_neg c0]
  by_cases c1 : S 2 p.toNat - 1 ≤ j
  · rw [if_pos c1]; exact ⟨ft, Int.le_refl _⟩
  rw [if_neg c1]
  have key : ∀ g : Int → Int, f ≤ (mnl g (t - f + 1).toNat f (500000000, t)).2 ∧ (mnl g (t - f + 1).toNat f (500000000, t)).2 ≤ t := fun g => by
    have sp := (mnl_spec g (t - f + 1).toNat f (500000000, t)).2.2
    generalize mnl g (t - f + 1).toNat f (500000000, t) = r at sp ⊢
    rcases sp with ⟨q, -⟩ | ⟨q1, q2, -⟩
    · rw [q]; exact ⟨ft, Int.le_refl _⟩
    · exact ⟨q1, by omega⟩
  by_cases c2 : S 2 p.toNat - 1 ≤ j + 1
  · rw [if_pos c2]; exact key _
  · rw [if_neg c2]; exact key _
def stC (S : Mm) (W T : Nat → Int) (p f t : Int) : Nat → Int
  | 0 => f
  | j + 1 => (wg S W T p (j : Int) (stC S W T p f t j) t).2
theorem stC_bd {S : Mm} {W T : Nat → Int} {p f t : Int} (ft : f ≤ t) : ∀ j, f ≤ stC S W T p f t j ∧ stC S W T p f t j ≤ t := by
  intro j
  induction j with
  | zero => exact ⟨Int.le_refl _, ft⟩
  | succ j ih =>
    have := wg_cut (S := S) (W := W) (T := T) (p := p) (j := (j : Int)) ih.2
    simp only [stC]
    omega
theorem c9_cutUp {S M : Mm} (hg : Okg S) (hM : CG M S) (b1 : RwB (M 275)) (b2 : RwB (M 276)) {p f t : Int} (hp : 0 ≤ p ∧ p < S 0 0) (f0 : 0 ≤ f) (ft : f ≤ t) (t12 : t ≤ 12) : ∃ M', f_X9_cutUp p f t M = some (0, M') ∧ (∀ j, j ≠ 273 → j ≠ 282 → M' j = M j) ∧ (∀ i, i ≠ 5 → M' 273 i = M 273 i) ∧ M' 282 0 = f ∧ M' 282 1 = oneC S (M 275) (M 276) p f t ∧ M' 282 2 = twoC S (M 275) (M 276) p f t ∧ M' 282 3 = t := by
  have hP := hg.2.2.2.1 p hp.1 hp.2
  have hn := hP.2.1
  have key : ∀ (n : Nat) (j : Nat) (F : Nat) (N : Mm), j + n = (S 2 p.toNat).toNat → n < F → (∀ k, k ≠ 273 → k ≠ 282 → N k = M k) → (∀ i, i ≠ 5 → N 273 i = M 273 i) → (∀ i, i < 4 → N 282 i = if i ≤ j then stC S (M 275) (M 276) p f t i else t) →
      ∃ M', Lp (f_X9_cutUp_L23_18 p t fun M3 => some (0, M3)) F (stC S (M 275) (M 276) p f t j, (j : Int), N) = some (0, M') ∧ (∀ k, k ≠ 273 → k ≠ 282 → M' k = M k) ∧ (∀ i, i ≠ 5 → M' 273 i = M 273 i) ∧ (∀ i, i < 4 → M' 282 i = if i ≤ (S 2 p.toNat).toNat then stC S (M 275) (M 276) p f t i else t) := by
    intro n
    induction n with
    | zero =>
      intro j F N hj hF h1 h2 h3
      obtain ⟨G, rfl⟩ : ∃ G, F = G + 1 := ⟨F - 1, by omega⟩
      obtain rfl : j = (S 2 p.toNat).toNat := by omega
      refine ⟨N, ?_, h1, h2, h3⟩
      rw [Lp_s]
      simp only [f_X9_cutUp_L23_18, LtE]
      rw [g_length (hM.of fun k k1 k2 => h1 k (by omega) (by omega)) hg hp, ClS, if_pos (by omega)]
    | succ n ih =>
      intro j F N hj hF h1 h2 h3
      obtain ⟨G, rfl⟩ : ∃ G, F = G + 1 := ⟨F - 1, by omega⟩
      have hN : CG N S := hM.of fun k k1 k2 => h1 k (by omega) (by omega)
      have e275 : N 275 = M 275 := h1 275 (by decide) (by decide)
      have e276 : N 276 = M 276 := h1 276 (by decide) (by decide)
      have hst := stC_bd (S := S) (W := M 275) (T := M 276) (p := p) ft j
      have hw := c9_weigh hg hN (by rw [e275]; exact b1) (by rw [e276]; exact b2) (p := p) (j := (j : Int)) (f := stC S (M 275) (M 276) p f t j) (t := t) hp (by omega) (by omega) (by omega) hst.2 t12
      rw [e275, e276] at hw
      have est : (wg S (M 275) (M 276) p (j : Int) (stC S (M 275) (M 276) p f t j) t).2 = stC S (M 275) (M 276) p f t (j + 1) := rfl
      generalize hN2 : up (up N 273 5 (stC S (M 275) (M 276) p f t (j + 1))) 282 (j + 1) (stC S (M 275) (M 276) p f t (j + 1)) = N2
      obtain ⟨M', r1, r2⟩ := ih (j + 1) G N2 (by omega) (by omega) (fun k k1 k2 => by rw [← hN2, up_ne _ _ _ k2, up_ne _ _ _ k1]; exact h1 k k1 k2) (fun i hi => by rw [← hN2, up_ne _ _ _ (by decide)]; simp [up, hi]; exact h2 i hi) (fun i hi => by
        rw [← hN2]
        by_cases ci : i = j + 1
        · subst ci
          rw [up_at, if_pos (Nat.le_refl _)]
        · have : up (up N 273 5 (stC S (M 275) (M 276) p f t (j + 1))) 282 (j + 1) (stC S (M 275) (M 276) p f t (j + 1)) 282 i = N 282 i := by simp [up, ci]
          rw [this, h3 i hi]
          by_cases c2 : i ≤ j
          · rw [if_pos c2, if_pos (by omega)]
          · rw [if_neg c2, if_neg (by omega)])
      refine ⟨M', ?_, r2⟩
      rw [Lp_s]
      simp only [f_X9_cutUp_L23_18, LtE]
      rw [g_length hN hg hp, ClS, if_neg (by omega), hw, ClS, wrE (v := (j : Int) + 1) (by omega) (by omega), est, up_at, c_setEntry_in 4 alenC_282 (by omega) (by omega), ClS, show ((j : Int) + 1).toNat = j + 1 by omega, hN2, show (j : Int) + 1 = ((j + 1 : Nat) : Int) by omega]
      exact r1
  generalize hM1 : up (sr M 282 fun i => if i < 4 then t else M 282 i) 282 0 f = M1
  obtain ⟨M', r1, r2, r3, r4⟩ := key (S 2 p.toNat).toNat 0 FU M1 (Nat.zero_add _) (FU_lt (by omega)) (fun k k1 k2 => by rw [← hM1, up_ne _ _ _ k2, sr_ne _ _ k2]) (fun i hi => by rw [← hM1, up_ne _ _ _ (by decide), sr_ne _ _ (by decide)]) (fun i hi => by
    rw [← hM1]
    by_cases ci : i = 0
    · subst ci; rw [up_at, if_pos (Nat.le_refl _)]; rfl
    · have : up (sr M 282 fun i => if i < 4 then t else M 282 i) 282 0 f 282 i = (if i < 4 then t else M 282 i) := by simp [up, ci, sr]
      rw [this, if_pos hi, if_neg (by omega)])
  have x0 := r4 0 (by decide)
  have x1 := r4 1 (by decide)
  have x2 := r4 2 (by decide)
  have x3 := r4 3 (by decide)
  have w1 : ∀ j f', S 2 p.toNat ≠ 0 → S 2 p.toNat - 1 ≤ j → (wg S (M 275) (M 276) p j f' t).2 = t := fun j f' q q2 => by
    unfold wg
    rw [if_neg q, if_pos q2]
  have y1 : stC S (M 275) (M 276) p f t 1 = (wg S (M 275) (M 276) p 0 f t).2 := rfl
  have y2 : stC S (M 275) (M 276) p f t 2 = (wg S (M 275) (M 276) p 1 (stC S (M 275) (M 276) p f t 1) t).2 := rfl
  have y3 : stC S (M 275) (M 276) p f t 3 = (wg S (M 275) (M 276) p 2 (stC S (M 275) (M 276) p f t 2) t).2 := rfl
  refine ⟨M', ?_, r2, r3, ?_, ?_, ?_, ?_⟩
  · unfold f_X9_cutUp
    simp only [LtE]
    rw [c_fillRow, ClS, alenC_282, c_setEntry_in 4 alenC_282 (by decide) (by decide), ClS, show (0 : Int).toNat = 0 from rfl, hM1]
    exact r1
  · rw [x0, if_pos (Nat.zero_le _)]; rfl
  · rw [x1]
    unfold oneC
    by_cases c0 : S 2 p.toNat = 0
    · rw [if_neg (by omega), if_pos (by omega)]
    · rw [if_pos (by omega), y1]
      by_cases c1 : S 2 p.toNat ≤ 1
      · rw [if_pos c1]; exact w1 0 f c0 (by omega)
      · rw [if_neg c1]
  · rw [x2]
    unfold twoC oneC
    by_cases c1 : S 2 p.toNat ≤ 1
    · rw [if_neg (by omega), if_pos (by omega)]
    · rw [if_pos (by omega), y2, y1]
      by_cases c2 : S 2 p.toNat ≤ 2
      · rw [if_pos c2]; exact w1 1 _ (by omega) (by omega)
      · rw [if_neg c2, if_neg c1]
  · rw [x3]
    by_cases c3 : S 2 p.toNat ≤ 2
    · rw [if_neg (by omega)]
    · rw [if_pos (by omega), y3]
      exact w1 2 _ (by omega) (by omega)
/-- the ends of the symbols -/
def enC (f one two t : Int) (j : Int) : Int := if j = 0 then f else if j = 1 then one else if j = 2 then two else t
/-- which letters are put in: forwards, as the class goes -/
def hsB (S : Mm) (p f one two t : Int) (j : Nat) : Bool := hsl S (S 3 (3 * p + j).toNat) (enC f one two t j) (enC f one two t ((j : Int) + 1) - enC f one two t j).toNat
def puF (S : Mm) (p f one two t : Int) : Nat → Int × Int
  | 0 => (0, 1)
  | j + 1 => if S 3 (3 * p + j).toNat < 4 then puF S p f one two t j else (jor (puF S p f one two t j).1 (if hsB S p f one two t j then 0 else (puF S p f one two t j).2), jshl (puF S p f one two t j).2 1)
theorem c9_putsOf {S M : Mm} (hg : Okg S) (hl : S 0 33 ≤ 12) (hM : CG M S) (hL : ∀ c f t : Int, 4 ≤ c → c ≤ 9 → 0 ≤ f → f ≤ t → t ≤ S 0 33 → M 275 (wix c f t) = 100000 * lc S c f t) {p f one two t : Int} (hp : 0 ≤ p ∧ p < S 0 0) (f0 : 0 ≤ f) (h1 : f ≤ one) (h2 : one ≤ two) (h3 : two ≤ t) (tl : t ≤ S 0 33) (e0 : M 282 0 = f) (e1 : M 282 1 = one) (e2 : M 282 2 = two) (e3 : M 282 3 = t) : f_X9_putsOf p M = some ((puF S p f one two t (S 2 p.toNat).toNat).1, M) := by
  have h10 := hg.1
  have hP := hg.2.2.2.1 p hp.1 hp.2
  have hn := hP.2.1
  have hs := hP.2.2.2.2.2.1
  have he : ∀ j : Nat, j < 4 → M 282 j = enC f one two t j := fun j hj => by
    have : j = 0 ∨ j = 1 ∨ j = 2 ∨ j = 3 := by omega
    rcases this with rfl | rfl | rfl | rfl
    · exact e0
    · exact e1
    · exact e2
    · exact e3
  have hen : ∀ j : Nat, j < 3 → 0 ≤ enC f one two t j ∧ enC f one two t j ≤ enC f one two t ((j : Int) + 1) ∧ enC f one two t ((j : Int) + 1) ≤ S 0 33 := fun j hj => by
    have : j = 0 ∨ j = 1 ∨ j = 2 := by omega
    rcases this with rfl | rfl | rfl
    · show 0 ≤ f ∧ f ≤ one ∧ one ≤ S 0 33
      omega
    · show 0 ≤ one ∧ one ≤ two ∧ two ≤ S 0 33
      omega
    · show 0 ≤ two ∧ two ≤ t ∧ t ≤ S 0 33
      omega
  unfold f_X9_putsOf
  simp only [LtE]
  refine Lp_for (S 2 p.toNat).toNat (fun j => ((puF S p f one two t j).1, (puF S p f one two t j).2, (j : Int), M)) (fun rc j hj => ?_) (fun rc => ?_) (FU_lt (by omega)) rfl
  · simp only [f_X9_putsOf_L7_39, LtE]
    have hk : (j : Int) + 1 = ((j + 1 : Nat) : Int) := by omega
    rw [g_length hM hg hp, ClS, if_neg (by omega), g_symbol hM hg hp ⟨by omega, by omega⟩, ClS, wrE (v := (j : Int) + 1) (by omega) (by omega), hk]
    have sj := hs j (by omega) (by omega)
    by_cases c4 : S 3 (3 * p + j).toNat < 4
    · rw [if_neg (by omega)]
      simp only [puF]
      rw [if_pos c4]
    · have hb := hen j (by omega)
      have hlj := hL (S 3 (3 * p + j).toNat) (enC f one two t j) (enC f one two t ((j : Int) + 1)) (by omega) (by omega) hb.1 hb.2.1 hb.2.2
      have hlb := lc_bd (S := S) (c := S 3 (3 * p + j).toNat) hb.2.1
      rw [if_pos (by omega), c_entryOf_in 4 alenC_282 (by omega) (by omega), ClS, c_entryOf_in 4 alenC_282 (by omega) (by omega), ClS, Int.toNat_natCast, Int.toNat_natCast, he j (by omega), he (j + 1) (by omega), ← hk, c9_weightOf (by omega) (by omega) (by omega), ClS, hlj, wrE (v := enC f one two t ((j : Int) + 1) - enC f one two t j) (by omega) (by omega), wrE (by omega) (by omega)]
      simp only [puF]
      rw [if_neg c4]
      unfold hsB
      cases hh : hsl S (S 3 (3 * p + j).toNat) (enC f one two t j) (enC f one two t ((j : Int) + 1) - enC f one two t j).toNat with
      | true =>
        have : lc S (S 3 (3 * p + j).toNat) (enC f one two t j) (enC f one two t ((j : Int) + 1)) = enC f one two t ((j : Int) + 1) - enC f one two t j - 1 := by unfold lc; rw [hh, if_pos rfl]; omega
        rw [if_pos (by omega), if_pos rfl]
      | false =>
        have : lc S (S 3 (3 * p + j).toNat) (enC f one two t j) (enC f one two t ((j : Int) + 1)) = enC f one two t ((j : Int) + 1) - enC f one two t j + 1 := by unfold lc; rw [hh, if_neg (by decide)]
        rw [if_neg (by omega), if_neg (by decide)]
  · simp only [f_X9_putsOf_L7_39]
    rw [g_length hM hg hp, ClS, if_pos (by omega)]
/-! what waits -/
abbrev Ent : Type := Int × Int × Int × Int × Int
def StW (M : Mm) (l : List Ent) : Prop := M 273 6 = (l.length : Int) ∧ ∀ i, i < l.length → M 277 i = (l.getD i (0, 0, 0, 0, 0)).1 ∧ M 278 i = (l.getD i (0, 0, 0, 0, 0)).2.1 ∧ M 279 i = (l.getD i (0, 0, 0, 0, 0)).2.2.1 ∧ M 280 i = (l.getD i (0, 0, 0, 0, 0)).2.2.2.1 ∧ M 281 i = (l.getD i (0, 0, 0, 0, 0)).2.2.2.2
theorem getD_app_lt {α : Type} {l : List α} {x d : α} {i : Nat} (h : i < l.length) : (l ++ [x]).getD i d = l.getD i d := by
  rw [List.getD_eq_getElem?_getD, List.getD_eq_getElem?_getD, List.getElem?_append_left h]
theorem getD_app_at {α : Type} {l : List α} {x d : α} : (l ++ [x]).getD l.length d = x := by
  rw [List.getD_eq_getElem?_getD, List.getElem?_append_right (Nat.le_refl _), Nat.sub_self]
  rfl
theorem c9_await {M : Mm} {l : List Ent} (h : StW M l) (hl : l.length < 90) (x : Ent) : ∃ M', f_X9_await x.1 x.2.1 x.2.2.1 x.2.2.2.1 x.2.2.2.2 M = some (0, M') ∧ StW M' (l ++ [x]) ∧ (∀ j, j ≠ 273 → ¬ (277 ≤ j ∧ j ≤ 281) → M' j = M j) ∧ ∀ i, i ≠ 6 → M' 273 i = M 273 i := by
  obtain ⟨h1, h2⟩ := h
  generalize hM' : up (up (up (up (up (up M 277 l.length x.1) 278 l.length x.2.1) 279 l.length x.2.2.1) 280 l.length x.2.2.2.1) 281 l.length x.2.2.2.2) 273 6 ((l.length : Int) + 1) = M'
  refine ⟨M', ?_, ⟨?_, fun i hi => ?_⟩, fun j j1 j2 => ?_, fun i hi => ?_⟩
  · unfold f_X9_await
    simp only [LtE]
    rw [h1, if_pos (by omega), c_setEntry_in 90 alenC_277 (by omega) (by omega), ClS, up_ne _ _ _ (show (273 : Nat) ≠ 277 by decide), h1, c_setEntry_in 90 alenC_278 (by omega) (by omega), ClS, up_ne _ _ _ (show (273 : Nat) ≠ 278 by decide), up_ne _ _ _ (show (273 : Nat) ≠ 277 by decide), h1, c_setEntry_in 90 alenC_279 (by omega) (by omega), ClS, up_ne _ _ _ (show (273 : Nat) ≠ 279 by decide), up_ne _ _ _ (show (273 : Nat) ≠ 278 by decide), up_ne _ _ _ (show (273 : Nat) ≠ 277 by decide), h1, c_setEntry_in 90 alenC_280 (by omega) (by omega), ClS, up_ne _ _ _ (show (273 : Nat) ≠ 280 by decide), up_ne _ _ _ (show (273 : Nat) ≠ 279 by decide), up_ne _ _ _ (show (273 : Nat) ≠ 278 by decide), up_ne _ _ _ (show (273 : Nat) ≠ 277 by decide), h1, c_setEntry_in 90 alenC_281 (by omega) (by omega), ClS, up_ne _ _ _ (show (273 : Nat) ≠ 281 by decide), up_ne _ _ _ (show (273 : Nat) ≠ 280 by decide), up_ne _ _ _ (show (273 : Nat) ≠ 279 by decide), up_ne _ _ _ (show (273 : Nat) ≠ 278 by decide), up_ne _ _ _ (show (273 : Nat) ≠ 277 by decide), h1, wrE (by omega) (by omega), Int.toNat_natCast, hM']
  · rw [← hM', up_at, List.length_append]; simp
  · rw [← hM', up_ne _ _ _ (show (277 : Nat) ≠ 273 by decide), up_ne _ _ _ (show (278 : Nat) ≠ 273 by decide), up_ne _ _ _ (show (279 : Nat) ≠ 273 by decide), up_ne _ _ _ (show (280 : Nat) ≠ 273 by decide), up_ne _ _ _ (show (281 : Nat) ≠ 273 by decide), up_ne _ _ _ (show (277 : Nat) ≠ 281 by decide), up_ne _ _ _ (show (277 : Nat) ≠ 280 by decide), up_ne _ _ _ (show (277 : Nat) ≠ 279 by decide), up_ne _ _ _ (show (277 : Nat) ≠ 278 by decide), up_ne _ _ _ (show (278 : Nat) ≠ 281 by decide), up_ne _ _ _ (show (278 : Nat) ≠ 280 by decide), up_ne _ _ _ (show (278 : Nat) ≠ 279 by decide), up_ne _ _ _ (show (279 : Nat) ≠ 281 by decide), up_ne _ _ _ (show (279 : Nat) ≠ 280 by decide), up_ne _ _ _ (show (280 : Nat) ≠ 281 by decide)]
    rw [List.length_append] at hi
    simp only [List.length_singleton] at hi
    by_cases ci : i = l.length
    · subst ci
      rw [getD_app_at, up_at, up_at, up_at, up_at, up_at]
      exact ⟨rfl, rfl, rfl, rfl, rfl⟩
    · rw [getD_app_lt (by omega)]
      have := h2 i (by omega)
      have e1 : up M 277 l.length x.1 277 i = M 277 i := by simp [up, ci]
      have e2 : up (up M 277 l.length x.1) 278 l.length x.2.1 278 i = M 278 i := by simp [up, ci]
      have e3 : up (up (up M 277 l.length x.1) 278 l.length x.2.1) 279 l.length x.2.2.1 279 i = M 279 i := by simp [up, ci]
      have e4 : up (up (up (up M 277 l.length x.1) 278 l.length x.2.1) 279 l.length x.2.2.1) 280 l.length x.2.2.2.1 280 i = M 280 i := by simp [up, ci]
      have e5 : up (up (up (up (up M 277 l.length x.1) 278 l.length x.2.1) 279 l.length x.2.2.1) 280 l.length x.2.2.2.1) 281 l.length x.2.2.2.2 281 i = M 281 i := by simp [up, ci]
      rw [e1, e2, e3, e4, e5]
      exact this
  · rw [← hM', up_ne _ _ _ j1, up_ne _ _ _ (by omega), up_ne _ _ _ (by omega), up_ne _ _ _ (by omega), up_ne _ _ _ (by omega), up_ne _ _ _ (by omega)]
  · rw [← hM']
    simp [up, hi]
/-- the children of a node, the last one first -/
def dnE (S : Mm) (p f one two t node : Int) : Nat → List Ent → List Ent
  | 0, l => l
  | j + 1, l => dnE S p f one two t node j (if S 3 (3 * p + j).toNat < 4 then l ++ [(S 3 (3 * p + j).toNat, enC f one two t j, enC f one two t ((j : Int) + 1), node, (nch S p.toNat j : Int))] else l)
theorem dnE_len (S : Mm) (p f one two t node : Int) : ∀ j l, l.length ≤ (dnE S p f one two t node j l).length ∧ (dnE S p f one two t node j l).length ≤ l.length + j := by
  intro j
  induction j with
  | zero => intro l; exact ⟨Nat.le_refl _, Nat.le_refl _⟩
  | succ j ih =>
    intro l
    simp only [dnE]
    have := ih (if S 3 (3 * p + j).toNat < 4 then l ++ [(S 3 (3 * p + j).toNat, enC f one two t j, enC f one two t ((j : Int) + 1), node, (nch S p.toNat j : Int))] else l)
    split at this
    · rename_i q
      rw [if_pos q]
      rw [List.length_append] at this
      simp only [List.length_singleton] at this
      omega
    · rename_i q
      rw [if_neg q]
      omega
theorem nch_step (S : Mm) {p : Int} (p0 : 0 ≤ p) (j : Nat) : (nch S p.toNat (j + 1) : Int) = (nch S p.toNat j : Int) + (if S 3 (3 * p + j).toNat < 4 then 1 else 0) := by
  have e : 3 * p.toNat + j = (3 * p + (j : Int)).toNat := by omega
  simp only [nch]
  rw [e]
  split <;> omega
theorem c9_children {S M : Mm} (hg : Okg S) (hM : CG M S) {p f one two t node : Int} (hp : 0 ≤ p ∧ p < S 0 0) (e0 : M 282 0 = f) (e1 : M 282 1 = one) (e2 : M 282 2 = two) (e3 : M 282 3 = t) {l : List Ent} (hs : StW M l) (hl : l.length + 3 < 90) : ∃ M', f_X9_awaitChildren p node M = some (0, M') ∧ StW M' (dnE S p f one two t node (S 2 p.toNat).toNat l) ∧ (∀ j, j ≠ 273 → ¬ (277 ≤ j ∧ j ≤ 281) → M' j = M j) ∧ ∀ i, i ≠ 6 → M' 273 i = M 273 i := by
  have h10 := hg.1
  have hP := hg.2.2.2.1 p hp.1 hp.2
  have hn := hP.2.1
  have he : ∀ N : Mm, N 282 = M 282 → ∀ j : Nat, j < 4 → N 282 j = enC f one two t j := fun N hN j hj => by
    rw [hN]
    have : j = 0 ∨ j = 1 ∨ j = 2 ∨ j = 3 := by omega
    rcases this with rfl | rfl | rfl | rfl
    · exact e0
    · exact e1
    · exact e2
    · exact e3
  have key : ∀ (j : Nat) (F : Nat) (N : Mm) (l' : List Ent), j ≤ (S 2 p.toNat).toNat → j < F → CG N S → N 282 = M 282 → StW N l' → l'.length + j < 90 →
      ∃ M', Lp (f_X9_awaitChildren_L21_28 p node fun M6 => some (0, M6)) F ((nch S p.toNat j : Int), (j : Int) - 1, N) = some (0, M') ∧ StW M' (dnE S p f one two t node j l') ∧ (∀ k, k ≠ 273 → ¬ (277 ≤ k ∧ k ≤ 281) → M' k = N k) ∧ ∀ i, i ≠ 6 → M' 273 i = N 273 i := by
    intro j
    induction j with
    | zero =>
      intro F N l' _ hF hN hN2 hst _
      obtain ⟨G, rfl⟩ : ∃ G, F = G + 1 := ⟨F - 1, by omega⟩
      refine ⟨N, ?_, hst, fun _ _ _ => rfl, fun _ _ => rfl⟩
      rw [Lp_s]
      simp only [f_X9_awaitChildren_L21_28]
      rw [if_pos (by omega)]
    | succ j ih =>
      intro F N l' hj hF hN hN2 hst hll
      obtain ⟨G, rfl⟩ : ∃ G, F = G + 1 := ⟨F - 1, by omega⟩
      have ej : ((j + 1 : Nat) : Int) - 1 = (j : Int) := by omega
      have hns := nch_step S hp.1 j
      rw [Lp_s]
      simp only [f_X9_awaitChildren_L21_28, LtE]
      rw [ej, if_neg (by omega), g_symbol hN hg hp ⟨by omega, by omega⟩, ClS, wrE (v := (j : Int) + -1) (by omega) (by omega), show (j : Int) + -1 = (j : Int) - 1 by omega]
      simp only [dnE]
      by_cases c4 : S 3 (3 * p + j).toNat < 4
      · rw [if_pos c4] at hns
        obtain ⟨N', a1, a2, a3, a4⟩ := c9_await hst (by omega) (S 3 (3 * p + j).toNat, enC f one two t j, enC f one two t ((j : Int) + 1), node, (nch S p.toNat j : Int))
        simp only at a1
        have hnn : 0 ≤ (nch S p.toNat j : Int) := Int.natCast_nonneg _
        have hnle : (nch S p.toNat (j + 1) : Int) ≤ 3 := by
          have : ∀ k, nch S p.toNat k ≤ k := fun k => by
            induction k with
            | zero => exact Nat.le_refl _
            | succ k ihk => simp only [nch]; split <;> omega
          have := this (j + 1)
          omega
        rw [if_neg (by omega), wrE (v := (nch S p.toNat (j + 1) : Int) + -1) (by omega) (by omega), wrE (v := (j : Int) + 1) (by omega) (by omega), c_entryOf_in 4 alenC_282 (by omega) (by omega), ClS, c_entryOf_in 4 alenC_282 (by omega) (by omega), ClS, show ((j : Int) + 1).toNat = j + 1 by omega, Int.toNat_natCast, he N hN2 j (by omega), he N hN2 (j + 1) (by omega), show (nch S p.toNat (j + 1) : Int) + -1 = (nch S p.toNat j : Int) by omega, show (((j + 1 : Nat) : Int)) = (j : Int) + 1 by omega, a1, ClS, if_pos c4]
        obtain ⟨M', r1, r2, r3, r4⟩ := ih G N' _ (by omega) (by omega) (hN.of fun k k1 k2 => a3 k (by omega) (by omega)) (by rw [a3 282 (by decide) (by decide)]; exact hN2) a2 (by rw [List.length_append]; simp only [List.length_singleton]; omega)
        exact ⟨M', r1, r2, fun k k1 k2 => by rw [r3 k k1 k2, a3 k k1 k2], fun i hi => by rw [r4 i hi, a4 i hi]⟩
      · rw [if_neg c4] at hns
        rw [if_pos (by omega), if_neg c4, hns, Int.add_zero]
        exact ih G N l' (by omega) (by omega) hN hN2 hst (by omega)
  have hcc : S 4 p.toNat = (nch S p.toNat (S 2 p.toNat).toNat : Int) := hP.2.2.1
  obtain ⟨M', r1, r2, r3, r4⟩ := key (S 2 p.toNat).toNat FU M l (Nat.le_refl _) (FU_lt (by omega)) hM rfl hs (by omega)
  refine ⟨M', ?_, r2, r3, r4⟩
  unfold f_X9_awaitChildren
  simp only [LtE]
  rw [g_childCount hM hg hp, ClS, g_length hM hg hp, ClS, wrE (by omega) (by omega), hcc, show (S 2 p.toNat - 1 : Int) = (((S 2 p.toNat).toNat : Nat) : Int) - 1 by omega]
  exact r1
