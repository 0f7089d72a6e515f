/-! the reference weighs -/
def Gr (M S : Mm) : Prop := M 1 = S 1 ∧ M 2 = S 2 ∧ M 3 = S 3 ∧ M 4 = S 4 ∧ M 5 = S 5 ∧ M 6 = S 6 ∧ M 29 = S 29 ∧ M 0 0 = S 0 0 ∧ M 0 33 = S 0 33
theorem Gr.refl (S : Mm) : Gr S S := ⟨rfl, rfl, rfl, rfl, rfl, rfl, rfl, rfl, rfl⟩
theorem Gr.of {M M' S : Mm} (h : Gr M S) (e : ∀ j, (1 ≤ j ∧ j ≤ 6) ∨ j = 29 → M' j = M j) (e0 : M' 0 0 = M 0 0) (e33 : M' 0 33 = M 0 33) : Gr M' S := by
  obtain ⟨h1, h2, h3, h4, h5, h6, h7, h8, h9⟩ := h
  exact ⟨by rw [e 1 (by simp), h1], by rw [e 2 (by simp), h2], by rw [e 3 (by simp), h3], by rw [e 4 (by simp), h4], by rw [e 5 (by simp), h5], by rw [e 6 (by simp), h6], by rw [e 29 (by simp), h7], by rw [e0, h8], by rw [e33, h9]⟩
def rC (S M : Mm) (c f t : Int) : Int := if c < 4 then M 43 (wix c f t) else lc S c f t
def rN (M : Mm) (c f t : Int) : Int := if c < 4 then M 44 (wix c f t) else 0
def vW (S M : Mm) : WsF := fun c f t => 10000 * rC S M c f t + rN M c f t
/-- the rows of the best trees, within bounds -/
def Jb (M : Mm) : Prop := ∀ i, i < 676 → (0 ≤ M 43 i ∧ M 43 i ≤ 99999) ∧ (0 ≤ M 44 i ∧ M 44 i < 10000) ∧ (M 43 i = 99999 → M 44 i = 0)
theorem r_stretch {a f t : Int} (ha : 0 ≤ a ∧ a < 4) (hf : 0 ≤ f ∧ f ≤ 12) (ht : 0 ≤ t ∧ t ≤ 12) (M : Mm) : f_X12_stretch a f t M = some (169 * a + 13 * f + t, M) := by
  simp only [f_X12_stretch, LtE]
  simp (disch := omega) only [wrE]
theorem wix_676 {a f t : Int} (ha : 0 ≤ a ∧ a < 4) (hf : 0 ≤ f ∧ f ≤ 12) (ht : 0 ≤ t ∧ t ≤ 12) : wix a f t < 676 := by unfold wix; omega
theorem r_hasLetter {S M : Mm} (e29 : M 29 = S 29) {c f t : Int} (hc : 4 ≤ c ∧ c ≤ 9) (hf : 0 ≤ f) (hft : f ≤ t) (ht : t ≤ 12) : f_X12_hasLetter c f t M = some (b2i (hsl S c f (t - f).toNat), M) := by
  unfold f_X12_hasLetter
  simp only [LtE]
  refine Lp_for (t - f).toNat (fun i => (b2i (hsl S c f i), f + (i : Int), M)) (fun rc i hi => ?_) (fun rc => ?_) (FU_lt (by omega)) ?_
  · simp only [f_X12_hasLetter_L6_21, LtE]
    have e : f + (i : Int) + 1 = f + ((i + 1 : Nat) : Int) := by omega
    rw [if_neg (by omega), wrE (v := f + (i : Int) + 1) (by omega) (by omega), wrE (v := c + 93) (by omega) (by omega), e]
    simp only [hsl]
    cases hh : hsl S c f i with
    | true =>
      have e1 : b2i true = 1 := rfl
      rw [e1, if_pos (by decide)]
      rfl
    | false =>
      have e1 : b2i false = 0 := rfl
      rw [e1, if_neg (fun q => q rfl), gdE (by omega), e29]
      by_cases cl : S 29 (f + (i : Int)).toNat = c + 93
      · rw [if_neg (fun q => q cl), decide_eq_true cl]; rfl
      · rw [if_pos cl, decide_eq_false cl]; rfl
  · simp only [f_X12_hasLetter_L6_21, LtE]
    rw [if_pos (by omega)]
  · refine Prod.ext rfl (Prod.ext ?_ rfl)
    simp only
    omega
theorem r_costOf {S M : Mm} (e29 : M 29 = S 29) {c f t : Int} (hc : 0 ≤ c ∧ c ≤ 9) (hf : 0 ≤ f) (hft : f ≤ t) (ht : t ≤ 12) : f_X12_costOf c f t M = some (rC S M c f t, M) := by
  unfold f_X12_costOf rC
  by_cases c4 : c < 4
  · rw [if_neg (by omega), if_pos c4, r_stretch ⟨hc.1, c4⟩ (by omega) (by omega), ClS, gdE (by omega)]
    rfl
  · simp only [LtE]
    rw [if_pos (by omega), if_neg c4, r_hasLetter e29 (by omega) hf hft ht, ClS, wrE (v := t - f) (by omega) (by omega), wrE (v := t - f + 1) (by omega) (by omega), wrE (v := t - f + -1) (by omega) (by omega)]
    unfold lc
    cases hsl S c f (t - f).toNat with
    | true => rfl
    | false => rfl
theorem r_nodesOf {M : Mm} {c f t : Int} (hc : 0 ≤ c ∧ c ≤ 9) (hf : 0 ≤ f) (hft : f ≤ t) (ht : t ≤ 12) : f_X12_nodesOf c f t M = some (rN M c f t, M) := by
  unfold f_X12_nodesOf rN
  simp only [LtE]
  by_cases c4 : c < 4
  · rw [if_neg (by omega), if_pos c4, r_stretch ⟨hc.1, c4⟩ (by omega) (by omega), ClS, gdE (by omega)]
    rfl
  · rw [if_pos (by omega), if_neg c4]
theorem rC_bd {S M : Mm} (hb : Jb M) {c f t : Int} (hc : 0 ≤ c ∧ c ≤ 9) (hf : 0 ≤ f) (hft : f ≤ t) (ht : t ≤ 12) : 0 ≤ rC S M c f t ∧ rC S M c f t ≤ 99999 := by
  unfold rC
  split
  · exact (hb _ (wix_676 (by omega) (by omega) (by omega))).1
  · have := lc_bd (S := S) (c := c) hft
    omega
theorem rN_bd {M : Mm} (hb : Jb M) {c f t : Int} (hc : 0 ≤ c ∧ c ≤ 9) (hf : 0 ≤ f) (hft : f ≤ t) (ht : t ≤ 12) : 0 ≤ rN M c f t ∧ rN M c f t < 10000 := by
  unfold rN
  split
  · exact (hb _ (wix_676 (by omega) (by omega) (by omega))).2.1
  · omega
def sC (S M : Mm) : List (Int × Int × Int) → Int := sW fun c f t => rC S M c f t
def sN (M : Mm) : List (Int × Int × Int) → Int := sW fun c f t => rN M c f t
theorem sV_eq (S M : Mm) : ∀ l, sW (vW S M) l = 10000 * sC S M l + sN M l := by
  intro l
  induction l with
  | nil => rfl
  | cons x r ih =>
    unfold sC sN at *
    simp only [sW]
    rw [ih]
    unfold vW
    omega
def wtR (S M : Mm) (p f a b t : Int) : Int := if S 2 p.toNat = 0 then 10000 * (t - f) + 1 else if sC S M (pts S p f a b t) < 99999 then 10000 * sC S M (pts S p f a b t) + (1 + sN M (pts S p f a b t)) else 999990000
theorem wt_ar {x x' x2 y y' y2 : Int} (M : Mm) (k1 : 0 ≤ x ∧ x ≤ 99999) (k2 : 0 ≤ y ∧ y < 10000) (k3 : 0 ≤ x' ∧ x' ≤ 99999) (k4 : 0 ≤ y' ∧ y' < 10000) (k5 : 0 ≤ x2 ∧ x2 ≤ 99999) (k6 : 0 ≤ y2 ∧ y2 < 10000) : (if wr (wr (x + x') + x2) < 99999 then some (wr (wr (10000 * wr (wr (x + x') + x2)) + wr (wr (wr (1 + y) + y') + y2)), M) else some (999990000, M)) = some (if x + (x' + (x2 + 0)) < 99999 then 10000 * (x + (x' + (x2 + 0))) + (1 + (y + (y' + (y2 + 0)))) else 999990000, M) := by
  rw [wrE (v := x + x') (by omega) (by omega), wrE (v := x + x' + x2) (by omega) (by omega), wrE (v := 1 + y) (by omega) (by omega), wrE (v := 1 + y + y') (by omega) (by omega), wrE (v := 1 + y + y' + y2) (by omega) (by omega)]
  by_cases cx : x + x' + x2 < 99999
  · rw [if_pos cx, if_pos (c := x + (x' + (x2 + 0)) < 99999) (by omega), wrE (v := 10000 * (x + x' + x2)) (by omega) (by omega), wrE (by omega) (by omega)]
    refine congrArg some (Prod.ext (by simp only; omega) rfl)
  · rw [if_neg cx, if_neg (c := x + (x' + (x2 + 0)) < 99999) (by omega)]
theorem r_weight {S M : Mm} (hg : Okg S) (hG : Gr M S) (hb : Jb M) {p f a b t : Int} (hp : 0 ≤ p ∧ p < S 0 0) (f0 : 0 ≤ f) (h1 : f ≤ a) (h2 : a ≤ b) (h3 : b ≤ t) (t12 : t ≤ 12) : f_X12_weight p f a b t M = some (wtR S M p f a b t, M) := by
  have h10 := hg.1
  have hP := hg.2.2.2.1 p hp.1 hp.2
  have hn := hP.2.1
  have hs := hP.2.2.2.2.2.1
  obtain ⟨-, g2, g3, -, -, -, g29, -, -⟩ := hG
  have e3 : ∀ j : Int, 0 ≤ j → j < S 2 p.toNat → M 3 (3 * p + j).toNat = S 3 (3 * p + j).toNat := fun j _ _ => by rw [g3]
  unfold f_X12_weight wtR
  simp only [LtE]
  rw [wrE (v := 3 * p) (by omega) (by omega), gdE (by omega), g2]
  by_cases c0 : S 2 p.toNat = 0
  · rw [if_neg (fun q => q c0), if_pos c0, wrE (v := t - f) (by omega) (by omega), wrE (v := 10000 * (t - f)) (by omega) (by omega), wrE (by omega) (by omega)]
  rw [if_pos (c := ¬ S 2 p.toNat = 0) c0, if_neg c0, g3]
  have s0 := hs 0 (by omega) (by omega)
  have ez : (3 * p).toNat = (3 * p + 0).toNat := by rw [Int.add_zero]
  have hg0 : 0 ≤ 3 * p ∧ 3 * p < 30 := by omega
  unfold pts
  by_cases c1 : S 2 p.toNat = 1
  · rw [if_neg (fun q => q c1), if_neg (c := S 2 p.toNat = 0) c0, if_pos c1, if_neg (c := 3 ≤ S 2 p.toNat) (by omega), gdE hg0, ez]
    have k1 := rC_bd (S := S) hb s0 f0 (by omega : f ≤ t) t12
    have k2 := rN_bd hb s0 f0 (by omega : f ≤ t) t12
    rw [r_costOf g29 s0 f0 (by omega) t12, ClS, if_pos (c := S 2 p.toNat ≤ 1) (by omega), if_pos (c := S 2 p.toNat ≤ 2) (by omega), gdE hg0, g3, r_nodesOf s0 f0 (by omega) t12, ClS, if_pos (c := S 2 p.toNat ≤ 1) (by omega), if_pos (c := S 2 p.toNat ≤ 2) (by omega)]
    simp only [sC, sN, sW]
    have := wt_ar M k1 k2 (x' := 0) (y' := 0) (x2 := 0) (y2 := 0) (by decide) (by decide) (by decide) (by decide)
    simp only [Int.zero_add, Int.add_zero] at this ⊢
    exact this
  rw [if_pos (c := ¬ S 2 p.toNat = 1) c1, if_neg (c := S 2 p.toNat = 0) c0, if_neg c1]
  have s1 := hs 1 (by omega) (by omega)
  have hg1 : 0 ≤ 3 * p + 1 ∧ 3 * p + 1 < 30 := by omega
  by_cases c2 : S 2 p.toNat = 2
  · rw [if_neg (c := 3 ≤ S 2 p.toNat) (by omega), if_pos c2, gdE hg0, ez]
    have k1 := rC_bd (S := S) hb s0 f0 h1 (by omega)
    have k2 := rN_bd hb s0 f0 h1 (by omega)
    have k3 := rC_bd (S := S) hb s1 (by omega : 0 ≤ a) (by omega : a ≤ t) t12
    have k4 := rN_bd hb s1 (by omega : 0 ≤ a) (by omega : a ≤ t) t12
    rw [r_costOf g29 s0 f0 h1 (by omega), ClS, if_neg (c := S 2 p.toNat ≤ 1) (by omega), wrE (v := 3 * p + 1) (by omega) (by omega), gdE hg1, g3, r_costOf g29 s1 (by omega) (by omega) t12, ClS, if_pos (c := S 2 p.toNat ≤ 2) (by omega), gdE hg0, g3, r_nodesOf s0 f0 h1 (by omega), ClS, if_neg (c := S 2 p.toNat ≤ 1) (by omega), gdE hg1, g3, r_nodesOf s1 (by omega) (by omega) t12, ClS, if_pos (c := S 2 p.toNat ≤ 2) (by omega)]
    simp only [sC, sN, sW]
    have := wt_ar M k1 k2 k3 k4 (x2 := 0) (y2 := 0) (by decide) (by decide)
    simp only [Int.zero_add, Int.add_zero] at this ⊢
    exact this
  · have c3 : S 2 p.toNat = 3 := by omega
    have s2 := hs 2 (by omega) (by omega)
    have hg2 : 0 ≤ 3 * p + 2 ∧ 3 * p + 2 < 30 := by omega
    rw [if_pos (c := 3 ≤ S 2 p.toNat) (by omega), if_neg c2, gdE hg0, ez]
    have k1 := rC_bd (S := S) hb s0 f0 h1 (by omega)
    have k2 := rN_bd hb s0 f0 h1 (by omega)
    have k3 := rC_bd (S := S) hb s1 (by omega : 0 ≤ a) h2 (by omega)
    have k4 := rN_bd hb s1 (by omega : 0 ≤ a) h2 (by omega)
    have k5 := rC_bd (S := S) hb s2 (by omega : 0 ≤ b) h3 t12
    have k6 := rN_bd hb s2 (by omega : 0 ≤ b) h3 t12
    rw [r_costOf g29 s0 f0 h1 (by omega), ClS, if_neg (c := S 2 p.toNat ≤ 1) (by omega), wrE (v := 3 * p + 1) (by omega) (by omega), gdE hg1, g3, r_costOf g29 s1 (by omega) h2 (by omega), ClS, if_neg (c := S 2 p.toNat ≤ 2) (by omega), wrE (v := 3 * p + 2) (by omega) (by omega), gdE hg2, g3, r_costOf g29 s2 (by omega) h3 t12, ClS, gdE hg0, g3, r_nodesOf s0 f0 h1 (by omega), ClS, if_neg (c := S 2 p.toNat ≤ 1) (by omega), gdE hg1, g3, r_nodesOf s1 (by omega) h2 (by omega), ClS, if_neg (c := S 2 p.toNat ≤ 2) (by omega), gdE hg2, g3, r_nodesOf s2 (by omega) h3 t12, ClS]
    simp only [sC, sN, sW]
    exact wt_ar M k1 k2 k3 k4 k5 k6
/-- what a weight says of a candidate -/
theorem wtR_cd {S M : Mm} (hg : Okg S) (hb : Jb M) {p f a b t : Int} (hp : 0 ≤ p ∧ p < S 0 0) (f0 : 0 ≤ f) (h1 : f ≤ a) (h2 : a ≤ b) (h3 : b ≤ t) (t12 : t ≤ 12) : (1 ≤ wtR S M p f a b t ∧ wtR S M p f a b t ≤ 1000020000) ∧ (wtR S M p f a b t < 999990000 → wtR S M p f a b t = cdv S 10000 (vW S M) p f a b t ∧ ∀ x ∈ pts S p f a b t, vW S M x.1 x.2.1 x.2.2 < 999990000) ∧ (wtR S M p f a b t = cdv S 10000 (vW S M) p f a b t ∨ (wtR S M p f a b t = 999990000 ∧ 999990000 ≤ cdv S 10000 (vW S M) p f a b t)) := by
  have hok := pts_ok hg hp h1 h2 h3
  have hl := pts_len S p f a b t
  have n1 : ∀ x ∈ pts S p f a b t, (0 ≤ rC S M x.1 x.2.1 x.2.2 ∧ rC S M x.1 x.2.1 x.2.2 ≤ 99999) ∧ 0 ≤ rN M x.1 x.2.1 x.2.2 ∧ rN M x.1 x.2.1 x.2.2 < 10000 := fun x hx => by
    have q := hok x hx
    exact ⟨rC_bd hb q.1 (by omega) q.2.2.1 (by omega), rN_bd hb q.1 (by omega) q.2.2.1 (by omega)⟩
  have m1 : 0 ≤ sC S M (pts S p f a b t) := sW_nn _ fun x hx => (n1 x hx).1.1
  have m2 : 0 ≤ sN M (pts S p f a b t) := sW_nn _ fun x hx => (n1 x hx).2.1
  have m3 : sN M (pts S p f a b t) ≤ 9999 * 3 := by
    have := sW_le (w := fun c f t => rN M c f t) (b := 9999) (pts S p f a b t) fun x hx => by have := (n1 x hx).2.2; omega
    unfold sN
    omega
  have hv := sV_eq S M (pts S p f a b t)
  have hmem : ∀ x ∈ pts S p f a b t, rC S M x.1 x.2.1 x.2.2 ≤ sC S M (pts S p f a b t) := sW_mem (w := fun c f t => rC S M c f t) _ fun x hx => (n1 x hx).1.1
  unfold wtR cdv
  by_cases c0 : S 2 p.toNat = 0
  · have e0 : pts S p f a b t = [] := by unfold pts; rw [if_pos c0]
    rw [if_pos c0, if_pos c0, e0]
    simp only [sW]
    exact ⟨by omega, fun _ => ⟨by omega, fun x hx => (by cases hx)⟩, Or.inl (by omega)⟩
  rw [if_neg c0, if_neg c0]
  by_cases cx : sC S M (pts S p f a b t) < 99999
  · rw [if_pos cx]
    refine ⟨by omega, fun _ => ⟨by omega, fun x hx => ?_⟩, Or.inl (by omega)⟩
    have q := n1 x hx
    have := hmem x hx
    unfold vW
    omega
  · rw [if_neg cx]
    exact ⟨by omega, fun q => absurd q (by omega), Or.inr ⟨rfl, by omega⟩⟩
theorem vW_bd {S M : Mm} (hb : Jb M) {A f t : Int} (hA : 0 ≤ A ∧ A < 4) (f0 : 0 ≤ f) (ft : f ≤ t) (t12 : t ≤ 12) : vW S M A f t = 10000 * M 43 (wix A f t) + M 44 (wix A f t) ∧ 0 ≤ vW S M A f t ∧ vW S M A f t ≤ 999990000 ∧ (vW S M A f t = 999990000 ↔ M 43 (wix A f t) = 99999) := by
  have h := hb _ (wix_676 hA (by omega : 0 ≤ f ∧ f ≤ 12) (by omega : 0 ≤ t ∧ t ≤ 12))
  unfold vW rC rN
  rw [if_pos hA.2, if_pos hA.2]
  obtain ⟨h1, h2, h3⟩ := h
  refine ⟨rfl, by omega, ?_, ?_⟩
  · by_cases c : M 43 (wix A f t) = 99999
    · have := h3 c; omega
    · omega
  · constructor
    · intro q
      omega
    · intro q
      have := h3 q
      omega
