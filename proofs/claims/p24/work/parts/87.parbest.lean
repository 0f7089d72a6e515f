/-! the reference betters its rows until nothing goes better -/
theorem jrem_10k {w : Int} (h : 0 ≤ w ∧ w < 2147483648) : jrem w 10000 = w % 10000 ∧ wr (Int.tdiv w 10000) = w / 10000 := by
  have e : Int.tdiv w 10000 = w / 10000 := Int.tdiv_eq_ediv_of_nonneg h.1
  unfold jrem
  rw [e, wrE (v := w / 10000) (by omega) (by omega), wrE (v := w / 10000 * 10000) (by omega) (by omega), wrE (by omega) (by omega)]
  omega
def sumN (g : Nat → Int) : Nat → Int
  | 0 => 0
  | n + 1 => sumN g n + g n
theorem sumN_up {g g' : Nat → Int} {k : Nat} (h : ∀ j, j ≠ k → g' j = g j) : ∀ n, (n ≤ k → sumN g' n = sumN g n) ∧ (k < n → sumN g' n = sumN g n + (g' k - g k)) := by
  intro n
  induction n with
  | zero => exact ⟨fun _ => rfl, fun h => absurd h (Nat.not_lt_zero _)⟩
  | succ n ih =>
    refine ⟨fun q => ?_, fun q => ?_⟩
    · simp only [sumN]
      rw [ih.1 (by omega), h n (by omega)]
    · simp only [sumN]
      by_cases c : n = k
      · subst c
        rw [ih.1 (Nat.le_refl _)]
        omega
      · rw [ih.2 (by omega), h n c]
        omega
theorem sumN_bd {g : Nat → Int} {b : Int} (h : ∀ i, i < 676 → 0 ≤ g i ∧ g i ≤ b) : ∀ n, n ≤ 676 → 0 ≤ sumN g n ∧ sumN g n ≤ n * b := by
  intro n
  induction n with
  | zero => intro _; simp [sumN]
  | succ n ih =>
    intro hn
    have h1 := ih (by omega)
    have h2 := h n (by omega)
    simp only [sumN]
    have e : ((n + 1 : Nat) : Int) * b = n * b + b := by rw [Int.natCast_add, Int.add_mul]; omega
    rw [e]
    omega
def pot (M : Mm) : Int := sumN (fun i => 10000 * M 43 i + M 44 i) 676
theorem pot_bd {M : Mm} (hb : Jb M) : 0 ≤ pot M ∧ pot M ≤ 676 * 999990000 := by
  have := sumN_bd (g := fun i => 10000 * M 43 i + M 44 i) (b := 999990000) (fun i hi => by
    have := hb i hi
    obtain ⟨h1, h2, h3⟩ := this
    by_cases c : M 43 i = 99999
    · have := h3 c; omega
    · omega) 676 (Nat.le_refl _)
  exact this
def Fb (M M' : Mm) : Prop := ∀ j, j ≠ 43 → j ≠ 44 → M' j = M j
theorem Fb.trans {A B C : Mm} (h : Fb A B) (h' : Fb B C) : Fb A C := fun j a b => (h' j a b).trans (h j a b)
def Ja (S M : Mm) : Prop := ∀ A f t : Int, 0 ≤ A → A < 4 → 0 ≤ f → f ≤ t → t ≤ S 0 33 → vW S M A f t = 999990000 ∨ ∃ p a b : Int, (0 ≤ p ∧ p < S 0 0) ∧ S 1 p.toNat = A ∧ (f ≤ a ∧ a ≤ b ∧ b ≤ t) ∧ (∀ x ∈ pts S p f a b t, vW S M x.1 x.2.1 x.2.2 < 999990000) ∧ cdv S 10000 (vW S M) p f a b t ≤ vW S M A f t
/-- a better tree is written down -/
theorem better_up {S M : Mm} (hg : Okg S) (hl : S 0 33 ≤ 12) (hb : Jb M) (ha : Ja S M) {p f a b t : Int} (hp : 0 ≤ p ∧ p < S 0 0) (f0 : 0 ≤ f) (h1 : f ≤ a) (h2 : a ≤ b) (h3 : b ≤ t) (tl : t ≤ S 0 33) (hw : wtR S M p f a b t < vW S M (S 1 p.toNat) f t) {M' : Mm} (hM' : M' = up (up M 43 (wix (S 1 p.toNat) f t) (wtR S M p f a b t / 10000)) 44 (wix (S 1 p.toNat) f t) (wtR S M p f a b t % 10000)) : Jb M' ∧ Ja S M' ∧ Fb M M' ∧ pot M' < pot M := by
  have hh := (hg.2.2.2.1 p hp.1 hp.2).1
  generalize hA : S 1 p.toNat = A at hh hw hM'
  have fr : 0 ≤ f ∧ f ≤ 12 := by omega
  have tr : 0 ≤ t ∧ t ≤ 12 := by omega
  have ft : f ≤ t := by omega
  have hv := vW_bd (S := S) hb (A := A) ⟨hh.1, by omega⟩ f0 ft tr.2
  have hix := wix_676 (a := A) ⟨hh.1, by omega⟩ fr tr
  have hc := wtR_cd (S := S) hg hb hp f0 h1 h2 h3 tr.2
  have hcd := hc.2.1 (by omega)
  generalize wtR S M p f a b t = w at hw hM' hc hcd
  have m43 : ∀ i, M' 43 i = if i = wix A f t then w / 10000 else M 43 i := fun i => by
    rw [hM']
    by_cases c : i = wix A f t
    · subst c; rw [if_pos rfl]; simp [up]
    · rw [if_neg c]; simp [up, c]
  have m44 : ∀ i, M' 44 i = if i = wix A f t then w % 10000 else M 44 i := fun i => by
    rw [hM']
    by_cases c : i = wix A f t
    · subst c; rw [if_pos rfl]; simp [up]
    · rw [if_neg c]; simp [up, c]
  have hvw : ∀ c e d : Int, 0 ≤ c → 0 ≤ e → e ≤ 12 → 0 ≤ d → d ≤ 12 → vW S M' c e d = if c = A ∧ e = f ∧ d = t then w else vW S M c e d := fun c e d c0 e0 e1 d0 d1 => by
    unfold vW rC rN
    by_cases c4 : c < 4
    · rw [if_pos c4, if_pos c4, if_pos c4, if_pos c4, m43, m44]
      by_cases q : c = A ∧ e = f ∧ d = t
      · obtain ⟨rfl, rfl, rfl⟩ := q
        rw [if_pos rfl, if_pos rfl, if_pos ⟨rfl, rfl, rfl⟩]
        omega
      · have : wix c e d ≠ wix A f t := fun z => q (wix_inj c0 ⟨e0, e1⟩ ⟨d0, d1⟩ hh.1 fr tr z)
        rw [if_neg this, if_neg this, if_neg q]
    · rw [if_neg c4, if_neg c4, if_neg c4, if_neg c4, if_neg (fun q => c4 (by omega))]
  have hle : ∀ c e d : Int, 0 ≤ c → 0 ≤ e → e ≤ 12 → 0 ≤ d → d ≤ 12 → vW S M' c e d ≤ vW S M c e d := fun c e d c0 e0 e1 d0 d1 => by
    rw [hvw c e d c0 e0 e1 d0 d1]
    split
    · rename_i q
      obtain ⟨rfl, rfl, rfl⟩ := q
      omega
    · exact Int.le_refl _
  have hcdle : ∀ q a' b' e d, 0 ≤ q → q < S 0 0 → 0 ≤ e → e ≤ a' → a' ≤ b' → b' ≤ d → d ≤ S 0 33 → cdv S 10000 (vW S M') q e a' b' d ≤ cdv S 10000 (vW S M) q e a' b' d ∧ ∀ x ∈ pts S q e a' b' d, vW S M' x.1 x.2.1 x.2.2 ≤ vW S M x.1 x.2.1 x.2.2 := fun q a' b' e d q0 q1 e0 z1 z2 z3 dl => by
    have hok := pts_ok hg ⟨q0, q1⟩ z1 z2 z3
    have hx : ∀ x ∈ pts S q e a' b' d, vW S M' x.1 x.2.1 x.2.2 ≤ vW S M x.1 x.2.1 x.2.2 := fun x hx => by
      have := hok x hx
      exact hle _ _ _ this.1.1 (by omega) (by omega) (by omega) (by omega)
    have := sW_mono _ hx
    unfold cdv
    exact ⟨by omega, hx⟩
  refine ⟨fun i hi => ?_, fun B e d B0 B4 e0 ed dl => ?_, fun j j1 j2 => by rw [hM', up_ne _ _ _ j2, up_ne _ _ _ j1], ?_⟩
  · rw [m43, m44]
    by_cases c : i = wix A f t
    · rw [if_pos c, if_pos c]; omega
    · rw [if_neg c, if_neg c]; exact hb i hi
  · by_cases q : B = A ∧ e = f ∧ d = t
    · obtain ⟨rfl, rfl, rfl⟩ := q
      right
      have z := hcdle p a b e d hp.1 hp.2 f0 h1 h2 h3 tl
      refine ⟨p, a, b, hp, hA, ⟨h1, h2, h3⟩, fun x hx => ?_, ?_⟩
      · have := z.2 x hx
        have := hcd.2 x hx
        omega
      · rw [hvw B e d B0 e0 (by omega) (by omega) (by omega), if_pos ⟨rfl, rfl, rfl⟩, hcd.1]
        exact z.1
    · rw [hvw B e d B0 e0 (by omega) (by omega) (by omega), if_neg q]
      rcases ha B e d B0 B4 e0 ed dl with y | ⟨p', a', b', y1, y2, y3, y4, y5⟩
      · exact Or.inl y
      · right
        have z := hcdle p' a' b' e d y1.1 y1.2 e0 y3.1 y3.2.1 y3.2.2 dl
        refine ⟨p', a', b', y1, y2, y3, fun x hx => ?_, Int.le_trans z.1 y5⟩
        have := z.2 x hx
        have := y4 x hx
        omega
  · have hs := (sumN_up (g := fun i => 10000 * M 43 i + M 44 i) (g' := fun i => 10000 * M' 43 i + M' 44 i) (k := wix A f t) (fun j hj => by rw [m43, m44, if_neg hj, if_neg hj]) 676).2 hix
    rw [m43, m44, if_pos rfl, if_pos rfl] at hs
    unfold pot
    omega
def Bx (S M M' : Mm) (g g' : Bool) : Prop := Fb M M' ∧ (Jb M' ∧ Ja S M') ∧ pot M' ≤ pot M ∧ (g' = true → g = true ∨ pot M' < pot M) ∧ (g' = false → g = false ∧ M' = M)
theorem Bx.trans {S A B C : Mm} {g g' g'' : Bool} (h : Bx S A B g g') (h' : Bx S B C g' g'') : Bx S A C g g'' := by
  obtain ⟨a1, a2, a3, a4, a5⟩ := h
  obtain ⟨b1, b2, b3, b4, b5⟩ := h'
  refine ⟨a1.trans b1, b2, by omega, fun q => ?_, fun q => ?_⟩
  · rcases b4 q with z | z
    · rcases a4 z with y | y
      · exact Or.inl y
      · exact Or.inr (by omega)
    · exact Or.inr (by omega)
  · obtain ⟨z1, z2⟩ := b5 q
    obtain ⟨y1, y2⟩ := a5 z1
    exact ⟨y1, z2.trans y2⟩
theorem Bx.refl {S M : Mm} (hb : Jb M) (ha : Ja S M) (g : Bool) : Bx S M M g g := ⟨fun _ _ _ => rfl, ⟨hb, ha⟩, Int.le_refl _, fun q => Or.inl q, fun q => ⟨q, rfl⟩⟩
theorem Gr.fb {M M' S : Mm} (h : Gr M S) (hf : Fb M M') : Gr M' S := h.of (fun j hj => hf j (by omega) (by omega)) (by rw [hf 0 (by decide) (by decide)]) (by rw [hf 0 (by decide) (by decide)])
theorem r_two {S : Mm} (hg : Okg S) (hl : S 0 33 ≤ 12) {p f one t last at_ : Int} (hp : 0 ≤ p ∧ p < S 0 0) (f0 : 0 ≤ f) (h1 : f ≤ one) (hlast : last ≤ t) (tl : t ≤ S 0 33) (hat : at_ = 169 * S 1 p.toNat + 13 * f + t) {J : Int → Int → Mm → Rs} : ∀ (n : Nat) (two : Int) (F : Nat) (M : Mm) (g : Bool), one ≤ two → two + n = last + 1 → n < F → Gr M S → Jb M → Ja S M →
    ∃ (g' : Bool) (M' : Mm), Lp (f_X12_betters_L65_57 p f t at_ last J) F (b2i g, one, two, M) = J (b2i g') one M' ∧ Bx S M M' g g' ∧ (g' = false → ∀ b, two ≤ b → b ≤ last → vW S M (S 1 p.toNat) f t ≤ wtR S M p f one b t) := by
  intro n
  induction n with
  | zero =>
    intro two F M g ht hn hF hG hb ha
    obtain ⟨G, rfl⟩ : ∃ G, F = G + 1 := ⟨F - 1, by omega⟩
    refine ⟨g, M, ?_, Bx.refl hb ha g, fun _ b b1 b2 => absurd b2 (by omega)⟩
    rw [Lp_s]
    simp only [f_X12_betters_L65_57]
    rw [if_pos (by omega)]
  | succ n ih =>
    intro two F M g ht hn hF hG hb ha
    obtain ⟨G, rfl⟩ : ∃ G, F = G + 1 := ⟨F - 1, by omega⟩
    have hh := (hg.2.2.2.1 p hp.1 hp.2).1
    have fr : 0 ≤ f ∧ f ≤ 12 := by omega
    have tr : 0 ≤ t ∧ t ≤ 12 := by omega
    have hv := vW_bd (S := S) hb (A := S 1 p.toNat) ⟨hh.1, by omega⟩ f0 (by omega : f ≤ t) tr.2
    have hix := wix_676 (a := S 1 p.toNat) ⟨hh.1, by omega⟩ fr tr
    have hgd : 0 ≤ at_ ∧ at_ < 676 := by unfold wix at hix; omega
    have eat : at_.toNat = wix (S 1 p.toNat) f t := by rw [hat]; rfl
    have hw := r_weight hg hG hb hp f0 h1 ht (by omega : two ≤ t) tr.2
    have hc := wtR_cd (S := S) hg hb hp f0 h1 ht (by omega : two ≤ t) tr.2
    have hj := jrem_10k (w := wtR S M p f one two t) (by omega)
    have hjb := hb _ hix
    rw [Lp_s]
    simp only [f_X12_betters_L65_57, LtE]
    rw [if_neg (by omega), hw, ClS, gdE hgd, gdE hgd, gdE hgd, eat, wrE (v := two + 1) (by omega) (by omega), wrE (v := 10000 * M 43 (wix (S 1 p.toNat) f t)) (by omega) (by omega), wrE (v := 10000 * M 43 (wix (S 1 p.toNat) f t) + M 44 (wix (S 1 p.toNat) f t)) (by omega) (by omega), hj.1, hj.2]
    simp only [gdE hgd]
    have skip : ¬ wtR S M p f one two t < vW S M (S 1 p.toNat) f t → ∃ (g' : Bool) (M' : Mm), Lp (f_X12_betters_L65_57 p f t at_ last J) G (b2i g, one, two + 1, M) = J (b2i g') one M' ∧ Bx S M M' g g' ∧ (g' = false → ∀ b, two ≤ b → b ≤ last → vW S M (S 1 p.toNat) f t ≤ wtR S M p f one b t) := fun q => by
      obtain ⟨g', M', i1, i2, i3⟩ := ih (two + 1) G M g (by omega) (by omega) (by omega) hG hb ha
      refine ⟨g', M', i1, i2, fun z b b1 b2 => ?_⟩
      by_cases cb : b = two
      · subst cb; omega
      · exact i3 z b (by omega) b2
    have take : wtR S M p f one two t < vW S M (S 1 p.toNat) f t → ∃ (g' : Bool) (M' : Mm), Lp (f_X12_betters_L65_57 p f t at_ last J) G (1, one, two + 1, up (up M 43 (wix (S 1 p.toNat) f t) (wtR S M p f one two t / 10000)) 44 (wix (S 1 p.toNat) f t) (wtR S M p f one two t % 10000)) = J (b2i g') one M' ∧ Bx S M M' g g' ∧ (g' = false → ∀ b, two ≤ b → b ≤ last → vW S M (S 1 p.toNat) f t ≤ wtR S M p f one b t) := fun q => by
      obtain ⟨u1, u2, u3, u4⟩ := better_up hg hl hb ha hp f0 h1 ht (by omega : two ≤ t) tl q rfl
      obtain ⟨g', M', i1, i2, i3⟩ := ih (two + 1) G _ true (by omega) (by omega) (by omega) (hG.fb u3) u1 u2
      obtain ⟨k1, k2, k3, k4, k5⟩ := i2
      refine ⟨g', M', i1, ⟨u3.trans k1, k2, by omega, fun _ => Or.inr (by omega), fun z => absurd (k5 z).1 (by decide)⟩, fun z => absurd (k5 z).1 (by decide)⟩
    by_cases c1 : 999990000 ≤ wtR S M p f one two t
    · rw [if_pos c1]
      exact skip (by omega)
    · rw [if_neg c1]
      by_cases c2 : M 43 (wix (S 1 p.toNat) f t) = 99999
      · rw [if_pos c2]
        exact take (by omega)
      · rw [if_neg c2]
        by_cases c3 : 10000 * M 43 (wix (S 1 p.toNat) f t) + M 44 (wix (S 1 p.toNat) f t) ≤ wtR S M p f one two t
        · rw [if_pos c3]
          exact skip (by omega)
        · rw [if_neg c3]
          exact take (by omega)
theorem r_one {S : Mm} (hg : Okg S) (hl : S 0 33 ≤ 12) {p f t last at_ : Int} (hp : 0 ≤ p ∧ p < S 0 0) (f0 : 0 ≤ f) (hlast : last ≤ t) (tl : t ≤ S 0 33) (hat : at_ = 169 * S 1 p.toNat + 13 * f + t) {J : Int → Mm → Rs} : ∀ (n : Nat) (one : Int) (F : Nat) (M : Mm) (g : Bool), f ≤ one → one + n = last + 1 → n < F → Gr M S → Jb M → Ja S M →
    ∃ (g' : Bool) (M' : Mm), Lp (f_X12_betters_L36_59 p f t at_ last J) F (b2i g, one, M) = J (b2i g') M' ∧ Bx S M M' g g' ∧ (g' = false → ∀ a, one ≤ a → a ≤ last → ∀ b, a ≤ b → b ≤ (if S 2 p.toNat ≤ 2 then a else t) → vW S M (S 1 p.toNat) f t ≤ wtR S M p f a b t) := by
  intro n
  induction n with
  | zero =>
    intro one F M g ht hn hF hG hb ha
    obtain ⟨G, rfl⟩ : ∃ G, F = G + 1 := ⟨F - 1, by omega⟩
    refine ⟨g, M, ?_, Bx.refl hb ha g, fun _ a b1 b2 => absurd b2 (by omega)⟩
    rw [Lp_s]
    simp only [f_X12_betters_L36_59]
    rw [if_pos (by omega)]
  | succ n ih =>
    intro one F M g ht hn hF hG hb ha
    obtain ⟨G, rfl⟩ : ∃ G, F = G + 1 := ⟨F - 1, by omega⟩
    have h10 := hg.1
    obtain ⟨g1, M1, t1, t2, t3⟩ := r_two hg hl hp f0 ht (last := if S 2 p.toNat ≤ 2 then one else t) (by split <;> omega) tl hat (J := fun v22 v23 M24 => Lp (f_X12_betters_L36_59 p f t at_ last J) G (v22, wr (v23 + 1), M24)) ((if S 2 p.toNat ≤ 2 then one else t) + 1 - one).toNat one FU M g (Int.le_refl _) (by split <;> omega) (FU_lt (by split <;> omega)) hG hb ha
    obtain ⟨g2, M2, s1, s2, s3⟩ := ih (one + 1) G M1 g1 (by omega) (by omega) (by omega) (hG.fb t2.1) t2.2.1.1 t2.2.1.2
    refine ⟨g2, M2, ?_, t2.trans s2, fun z a a1 a2 b b1 b2 => ?_⟩
    · rw [Lp_s]
      simp only [f_X12_betters_L36_59, LtE]
      rw [if_neg (by omega), gdE (by omega), hG.2.1]
      simp only [wrE (v := one + 1) (by omega) (by omega)] at t1
      by_cases c2 : S 2 p.toNat ≤ 2
      · rw [if_pos c2] at t1 ⊢
        exact t1.trans s1
      · rw [if_neg c2] at t1 ⊢
        exact t1.trans s1
    · obtain ⟨z1, z2⟩ := s2.2.2.2.2 z
      by_cases ca : a = one
      · subst ca
        exact t3 z1 b b1 b2
      · have := s3 z a (by omega) a2 b b1 b2
        rw [(t2.2.2.2.2 z1).2] at this
        exact this
theorem cdv_rep {S : Mm} (hg : Okg S) {K : Int} {w : WsF} {p f a b t : Int} (hp : 0 ≤ p ∧ p < S 0 0) : cdv S K w p f a b t = cdv S K w p f (if S 2 p.toNat ≤ 1 then f else a) (if S 2 p.toNat ≤ 2 then (if S 2 p.toNat ≤ 1 then f else a) else b) t := by
  have hn := (hg.2.2.2.1 p hp.1 hp.2).2.1
  unfold cdv pts
  by_cases c0 : S 2 p.toNat = 0
  · simp only [if_pos c0]
  by_cases c1 : S 2 p.toNat = 1
  · simp only [if_neg c0, if_pos c1]
  by_cases c2 : S 2 p.toNat = 2
  · simp only [if_neg c0, if_neg c1, if_pos c2]
    rw [if_neg (c := S 2 p.toNat ≤ 1) (by omega)]
  · simp only [if_neg c0, if_neg c1, if_neg c2]
    rw [if_neg (c := S 2 p.toNat ≤ 1) (by omega), if_neg (c := S 2 p.toNat ≤ 2) (by omega)]
/-- nothing goes better for a production and a stretch -/
def ClR (S M : Mm) (p f t : Int) : Prop := ∀ a b, f ≤ a → a ≤ b → b ≤ t → vW S M (S 1 p.toNat) f t ≤ cdv S 10000 (vW S M) p f a b t
theorem r_betters {S : Mm} (hg : Okg S) (hl : S 0 33 ≤ 12) {p f t : Int} (hp : 0 ≤ p ∧ p < S 0 0) (f0 : 0 ≤ f) (ft : f ≤ t) (tl : t ≤ S 0 33) {M : Mm} (hG : Gr M S) (hb : Jb M) (ha : Ja S M) : ∃ (g : Bool) (M' : Mm), f_X12_betters p f t M = some (b2i g, M') ∧ Bx S M M' false g ∧ (g = false → ClR S M p f t) := by
  have h10 := hg.1
  have hh := (hg.2.2.2.1 p hp.1 hp.2).1
  have hn := (hg.2.2.2.1 p hp.1 hp.2).2.1
  have tr : 0 ≤ t ∧ t ≤ 12 := by omega
  obtain ⟨g, M', i1, i2, i3⟩ := r_one hg hl hp f0 (last := if S 2 p.toNat ≤ 1 then f else t) (by split <;> omega) tl rfl (J := fun v8 M9 => some (v8, M9)) ((if S 2 p.toNat ≤ 1 then f else t) + 1 - f).toNat f FU M false (Int.le_refl _) (by split <;> omega) (FU_lt (by split <;> omega)) hG hb ha
  refine ⟨g, M', ?_, i2, fun z a b h1 h2 h3 => ?_⟩
  · unfold f_X12_betters
    simp only [LtE]
    rw [gdE (by omega), hG.1, r_stretch ⟨hh.1, by omega⟩ (by omega) tr, ClS, gdE (by omega), hG.2.1]
    have e0 : b2i false = 0 := rfl
    rw [e0] at i1
    by_cases c1 : S 2 p.toNat ≤ 1
    · rw [if_pos c1] at i1 ⊢
      exact i1
    · rw [if_neg c1] at i1 ⊢
      exact i1
  · have hv := vW_bd (S := S) hb (A := S 1 p.toNat) ⟨hh.1, by omega⟩ f0 ft tr.2
    rw [cdv_rep hg hp]
    have h4 : f ≤ (if S 2 p.toNat ≤ 1 then f else a) ∧ (if S 2 p.toNat ≤ 1 then f else a) ≤ (if S 2 p.toNat ≤ 1 then f else t) := by split <;> omega
    have h5 : (if S 2 p.toNat ≤ 1 then f else a) ≤ (if S 2 p.toNat ≤ 2 then (if S 2 p.toNat ≤ 1 then f else a) else b) := by (repeat' split) <;> omega
    have h6 : (if S 2 p.toNat ≤ 2 then (if S 2 p.toNat ≤ 1 then f else a) else b) ≤ (if S 2 p.toNat ≤ 2 then (if S 2 p.toNat ≤ 1 then f else a) else t) := by (repeat' split) <;> omega
    have h7 : (if S 2 p.toNat ≤ 2 then (if S 2 p.toNat ≤ 1 then f else a) else b) ≤ t := by (repeat' split) <;> omega
    have := i3 z _ h4.1 h4.2 _ h5 h6
    generalize (if S 2 p.toNat ≤ 1 then f else a) = a' at h4 h5 h6 h7 this ⊢
    generalize (if S 2 p.toNat ≤ 2 then a' else b) = b' at h5 h6 h7 this ⊢
    have hc := wtR_cd (S := S) hg hb hp f0 h4.1 h5 h7 tr.2
    rcases hc.2.2 with q | q
    · rw [← q]; exact this
    · omega
