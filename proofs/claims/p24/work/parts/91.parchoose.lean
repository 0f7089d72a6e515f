/-! which production and cuts are taken: the reference -/
theorem r_chTwo_no {S M : Mm} (hg : Okg S) (hG : Gr M S) (hb : Jb M) {p f t best one last : Int} (hp : 0 ≤ p ∧ p < S 0 0) (f0 : 0 ≤ f) (h1 : f ≤ one) (hlast : last ≤ t) (t12 : t ≤ 12) {J1 : Int → Int → Int → Mm → Rs} {J2 : Int → Int → Mm → Rs} : ∀ (n : Nat) (two : Int) (F : Nat), one ≤ two → two + n = last + 1 → n < F → (∀ b, two ≤ b → b ≤ last → wtR S M p f one b t ≠ best) → Lp (f_X12_chosen_L103_71 f t best J1 last J2) F (p, one, two, M) = J2 p one M := by
  intro n
  induction n with
  | zero =>
    intro two F h2 hn hF hno
    obtain ⟨G, rfl⟩ : ∃ G, F = G + 1 := ⟨F - 1, by omega⟩
    rw [Lp_s]
    simp only [f_X12_chosen_L103_71]
    rw [if_pos (by omega)]
  | succ n ih =>
    intro two F h2 hn hF hno
    obtain ⟨G, rfl⟩ : ∃ G, F = G + 1 := ⟨F - 1, by omega⟩
    rw [Lp_s]
    simp only [f_X12_chosen_L103_71, LtE]
    rw [if_neg (by omega), r_weight hg hG hb hp f0 h1 h2 (by omega) t12, ClS, if_pos (c := ¬ wtR S M p f one two t = best) (hno two (Int.le_refl _) (by omega)), wrE (by omega) (by omega)]
    exact ih (two + 1) G (by omega) (by omega) (by omega) fun b b1 b2 => hno b (by omega) b2
theorem r_chTwo_yes {S M : Mm} (hg : Okg S) (hG : Gr M S) (hb : Jb M) {p f t best one last bb : Int} (hp : 0 ≤ p ∧ p < S 0 0) (f0 : 0 ≤ f) (h1 : f ≤ one) (hbl : bb ≤ last) (hlast : last ≤ t) (t12 : t ≤ 12) (hy : wtR S M p f one bb t = best) {J1 : Int → Int → Int → Mm → Rs} {J2 : Int → Int → Mm → Rs} : ∀ (n : Nat) (two : Int) (F : Nat), one ≤ two → two + n = bb → n < F → (∀ b, two ≤ b → b < bb → wtR S M p f one b t ≠ best) → Lp (f_X12_chosen_L103_71 f t best J1 last J2) F (p, one, two, M) = J1 p one bb M := by
  intro n
  induction n with
  | zero =>
    intro two F h2 hn hF hno
    obtain ⟨G, rfl⟩ : ∃ G, F = G + 1 := ⟨F - 1, by omega⟩
    obtain rfl : two = bb := by omega
    rw [Lp_s]
    simp only [f_X12_chosen_L103_71, LtE]
    rw [if_neg (by omega), r_weight hg hG hb hp f0 h1 h2 (by omega) t12, ClS, if_neg (fun q => q hy)]
  | succ n ih =>
    intro two F h2 hn hF hno
    obtain ⟨G, rfl⟩ : ∃ G, F = G + 1 := ⟨F - 1, by omega⟩
    rw [Lp_s]
    simp only [f_X12_chosen_L103_71, LtE]
    rw [if_neg (by omega), r_weight hg hG hb hp f0 h1 h2 (by omega) t12, ClS, if_pos (c := ¬ wtR S M p f one two t = best) (hno two (Int.le_refl _) (by omega)), wrE (by omega) (by omega)]
    exact ih (two + 1) G (by omega) (by omega) (by omega) fun b b1 b2 => hno b (by omega) b2
theorem r_chOne_no {S M : Mm} (hg : Okg S) (hG : Gr M S) (hb : Jb M) {A p f t best last : Int} (hp : 0 ≤ p ∧ p < S 0 0) (f0 : 0 ≤ f) (hlast : last ≤ t) (t12 : t ≤ 12) {J1 : Int → Int → Int → Mm → Rs} {J2 : Int → Mm → Rs} : ∀ (n : Nat) (one : Int) (F : Nat), f ≤ one → one + n = last + 1 → n < F → (S 1 p.toNat = A → ∀ a b, one ≤ a → a ≤ b → b ≤ t → wtR S M p f a b t ≠ best) → Lp (f_X12_chosen_L62_73 A f t best J1 last J2) F (p, one, M) = J2 p M := by
  have h10 := hg.1
  intro n
  induction n with
  | zero =>
    intro one F h1 hn hF hno
    obtain ⟨G, rfl⟩ : ∃ G, F = G + 1 := ⟨F - 1, by omega⟩
    rw [Lp_s]
    simp only [f_X12_chosen_L62_73]
    rw [if_pos (by omega)]
  | succ n ih =>
    intro one F h1 hn hF hno
    obtain ⟨G, rfl⟩ : ∃ G, F = G + 1 := ⟨F - 1, by omega⟩
    rw [Lp_s]
    simp only [f_X12_chosen_L62_73, LtE]
    rw [if_neg (by omega), gdE (by omega), hG.1, gdE (by omega), hG.2.1]
    by_cases cA : S 1 p.toNat = A
    · rw [if_neg (fun q => q cA)]
      have hih := ih (one + 1) G (by omega) (by omega) (by omega) fun hA a b a1 a2 a3 => hno hA a b (by omega) a2 a3
      by_cases c2 : S 2 p.toNat ≤ 2
      · rw [if_pos c2, r_chTwo_no hg hG hb hp f0 h1 (by omega) t12 (J2 := fun v56 v57 M58 => Lp (f_X12_chosen_L62_73 A f t best J1 last J2) G (v56, wr (v57 + 1), M58)) 1 one FU (Int.le_refl _) (by omega) (FU_lt (by decide)) fun b b1 b2 => hno cA one b (Int.le_refl _) b1 (by omega), wrE (by omega) (by omega)]
        exact hih
      · rw [if_neg c2, r_chTwo_no hg hG hb hp f0 h1 (Int.le_refl _) t12 (J2 := fun v56 v57 M58 => Lp (f_X12_chosen_L62_73 A f t best J1 last J2) G (v56, wr (v57 + 1), M58)) (t + 1 - one).toNat one FU (Int.le_refl _) (by omega) (FU_lt (by omega)) fun b b1 b2 => hno cA one b (Int.le_refl _) b1 b2, wrE (by omega) (by omega)]
        exact hih
    · rw [if_pos (c := ¬ S 1 p.toNat = A) cA]
theorem r_chOne_yes {S M : Mm} (hg : Okg S) (hG : Gr M S) (hb : Jb M) {p f t best last aa bb : Int} (hp : 0 ≤ p ∧ p < S 0 0) (f0 : 0 ≤ f) (hal : aa ≤ last) (hab : aa ≤ bb) (hbt : bb ≤ if S 2 p.toNat ≤ 2 then aa else t) (hlast : last ≤ t) (t12 : t ≤ 12) (hy : wtR S M p f aa bb t = best) (hno2 : ∀ b, aa ≤ b → b < bb → wtR S M p f aa b t ≠ best) {J1 : Int → Int → Int → Mm → Rs} {J2 : Int → Mm → Rs} : ∀ (n : Nat) (one : Int) (F : Nat), f ≤ one → one + n = aa → n < F → (∀ a b, one ≤ a → a < aa → a ≤ b → b ≤ t → wtR S M p f a b t ≠ best) → Lp (f_X12_chosen_L62_73 (S 1 p.toNat) f t best J1 last J2) F (p, one, M) = J1 p aa bb M := by
  have h10 := hg.1
  intro n
  induction n with
  | zero =>
    intro one F h1 hn hF hno
    obtain ⟨G, rfl⟩ : ∃ G, F = G + 1 := ⟨F - 1, by omega⟩
    obtain rfl : one = aa := by omega
    rw [Lp_s]
    simp only [f_X12_chosen_L62_73, LtE]
    rw [if_neg (by omega), gdE (by omega), hG.1, gdE (by omega), hG.2.1, if_neg (fun q => q rfl)]
    by_cases c2 : S 2 p.toNat ≤ 2
    · rw [if_pos c2] at hbt ⊢
      exact r_chTwo_yes hg hG hb hp f0 h1 hbt (by omega) t12 hy (bb - one).toNat one FU (Int.le_refl _) (by omega) (FU_lt (by omega)) hno2
    · rw [if_neg c2] at hbt ⊢
      exact r_chTwo_yes hg hG hb hp f0 h1 hbt (Int.le_refl _) t12 hy (bb - one).toNat one FU (Int.le_refl _) (by omega) (FU_lt (by omega)) hno2
  | succ n ih =>
    intro one F h1 hn hF hno
    obtain ⟨G, rfl⟩ : ∃ G, F = G + 1 := ⟨F - 1, by omega⟩
    rw [Lp_s]
    simp only [f_X12_chosen_L62_73, LtE]
    rw [if_neg (by omega), gdE (by omega), hG.1, gdE (by omega), hG.2.1, if_neg (fun q => q rfl)]
    have hih := ih (one + 1) G (by omega) (by omega) (by omega) fun a b a1 a2 a3 a4 => hno a b (by omega) a2 a3 a4
    by_cases c2 : S 2 p.toNat ≤ 2
    · rw [if_pos c2, r_chTwo_no hg hG hb hp f0 h1 (by omega) t12 (J2 := fun v56 v57 M58 => Lp (f_X12_chosen_L62_73 (S 1 p.toNat) f t best J1 last J2) G (v56, wr (v57 + 1), M58)) 1 one FU (Int.le_refl _) (by omega) (FU_lt (by decide)) fun b b1 b2 => hno one b (Int.le_refl _) (by omega) b1 (by omega), wrE (by omega) (by omega)]
      exact hih
    · rw [if_neg c2, r_chTwo_no hg hG hb hp f0 h1 (Int.le_refl _) t12 (J2 := fun v56 v57 M58 => Lp (f_X12_chosen_L62_73 (S 1 p.toNat) f t best J1 last J2) G (v56, wr (v57 + 1), M58)) (t + 1 - one).toNat one FU (Int.le_refl _) (by omega) (FU_lt (by omega)) fun b b1 b2 => hno one b (Int.le_refl _) (by omega) b1 b2, wrE (by omega) (by omega)]
      exact hih
theorem r_chosen {S M : Mm} (hg : Okg S) (hG : Gr M S) (hb : Jb M) {A p f t aa bb : Int} (hA : 0 ≤ A ∧ A < 4) (hp : 0 ≤ p ∧ p < S 0 0) (hpA : S 1 p.toNat = A) (f0 : 0 ≤ f) (ft : f ≤ t) (t12 : t ≤ 12) (h1 : f ≤ aa) (hal : aa ≤ if S 2 p.toNat ≤ 1 then f else t) (hab : aa ≤ bb) (hbt : bb ≤ if S 2 p.toNat ≤ 2 then aa else t) (hy : wtR S M p f aa bb t = vW S M A f t) (hno3 : ∀ a b, f ≤ a → a < aa → a ≤ b → b ≤ t → wtR S M p f a b t ≠ vW S M A f t) (hno2 : ∀ b, aa ≤ b → b < bb → wtR S M p f aa b t ≠ vW S M A f t) (hno1 : ∀ q, 0 ≤ q → q < p → S 1 q.toNat = A → ∀ a b, f ≤ a → a ≤ b → b ≤ t → wtR S M q f a b t ≠ vW S M A f t) :
    f_X12_chosen A f t M = some (p, up (up M 0 58 (if S 2 p.toNat ≤ 1 then t else aa)) 0 59 (if S 2 p.toNat ≤ 2 then t else bb)) := by
  have h10 := hg.1
  have hv := vW_bd (S := S) hb hA f0 ft t12
  have hix := wix_676 hA (by omega : 0 ≤ f ∧ f ≤ 12) (by omega : 0 ≤ t ∧ t ≤ 12)
  have hjb := hb _ hix
  have hgd : 0 ≤ 169 * A + 13 * f + t ∧ 169 * A + 13 * f + t < 676 := by unfold wix at hix; omega
  have hwx : (169 * A + 13 * f + t).toNat = wix A f t := rfl
  unfold f_X12_chosen
  rw [r_stretch hA (by omega) (by omega), ClS]
  simp only [LtE]
  rw [gdE hgd, gdE hgd, hwx, wrE (v := 10000 * M 43 (wix A f t)) (by omega) (by omega), wrE (v := 10000 * M 43 (wix A f t) + M 44 (wix A f t)) (by omega) (by omega), ← hv.1]
  have key : ∀ (J1 : Int → Int → Int → Mm → Rs) (J0 : Mm → Rs) (n : Nat) (q : Int) (F : Nat), 0 ≤ q → q + n = p → n < F → Lp (f_X12_chosen_L32_75 A f t (vW S M A f t) J0 J1) F (q, M) = J1 p aa bb M := by
    intro J1 J0 n
    induction n with
    | zero =>
      intro q F q0 hn hF
      obtain ⟨G, rfl⟩ : ∃ G, F = G + 1 := ⟨F - 1, by omega⟩
      obtain rfl : q = p := by omega
      rw [Lp_s]
      simp only [f_X12_chosen_L32_75, LtE]
      rw [hG.2.2.2.2.2.2.2.1, if_neg (by omega), gdE (by omega), hG.2.1]
      by_cases c1 : S 2 q.toNat ≤ 1
      · rw [if_pos c1] at hal ⊢
        rw [← hpA] at hy hno2 hno3 ⊢
        exact r_chOne_yes hg hG hb hp f0 hal hab hbt ft t12 hy hno2 (aa - f).toNat f FU (Int.le_refl _) (by omega) (FU_lt (by omega)) hno3
      · rw [if_neg c1] at hal ⊢
        rw [← hpA] at hy hno2 hno3 ⊢
        exact r_chOne_yes hg hG hb hp f0 hal hab hbt (Int.le_refl _) t12 hy hno2 (aa - f).toNat f FU (Int.le_refl _) (by omega) (FU_lt (by omega)) hno3
    | succ n ih =>
      intro q F q0 hn hF
      obtain ⟨G, rfl⟩ : ∃ G, F = G + 1 := ⟨F - 1, by omega⟩
      have hq : 0 ≤ q ∧ q < S 0 0 := by omega
      have hih := ih (q + 1) G (by omega) (by omega) (by omega)
      rw [Lp_s]
      simp only [f_X12_chosen_L32_75, LtE]
      rw [hG.2.2.2.2.2.2.2.1, if_neg (by omega), gdE (by omega), hG.2.1]
      by_cases c1 : S 2 q.toNat ≤ 1
      · rw [if_pos c1, r_chOne_no hg hG hb hq f0 ft t12 (J2 := fun v39 M40 => Lp (f_X12_chosen_L32_75 A f t (vW S M A f t) J0 J1) G (wr (v39 + 1), M40)) 1 f FU (Int.le_refl _) (by omega) (FU_lt (by decide)) (fun hA' a b a1 a2 a3 => hno1 q q0 (by omega) hA' a b a1 a2 a3), wrE (by omega) (by omega)]
        exact hih
      · rw [if_neg c1, r_chOne_no hg hG hb hq f0 (Int.le_refl _) t12 (J2 := fun v39 M40 => Lp (f_X12_chosen_L32_75 A f t (vW S M A f t) J0 J1) G (wr (v39 + 1), M40)) (t + 1 - f).toNat f FU (Int.le_refl _) (by omega) (FU_lt (by omega)) (fun hA' a b a1 a2 a3 => hno1 q q0 (by omega) hA' a b a1 a2 a3), wrE (by omega) (by omega)]
        exact hih
  rw [key _ _ p.toNat 0 FU (Int.le_refl _) (by omega) (FU_lt (by omega)), gdE (by omega), hG.2.1]
  by_cases c1 : S 2 p.toNat ≤ 1
  · rw [if_pos c1, if_pos c1, gdE (by omega), up_ne _ _ _ (by decide), hG.2.1, if_pos (by omega), if_pos (by omega)]
  · rw [if_neg c1, if_neg c1, gdE (by omega), up_ne _ _ _ (by decide), hG.2.1]
    by_cases c2 : S 2 p.toNat ≤ 2
    · rw [if_pos c2, if_pos c2]
    · rw [if_neg c2, if_neg c2]
/-! what the reference puts on its row of stretches, and what is put in -/
def puD (S : Mm) (p f one two t : Int) : Nat → Int → Int
  | 0, acc => acc
  | j + 1, acc => puD S p f one two t j (if S 3 (3 * p + j).toNat < 4 then acc else jor acc (if hsB S p f one two t j then 0 else jshl 1 ((j : Int) - (nch S p.toNat j : Int))))
theorem puD_puF {S : Mm} {p f one two t : Int} (p0 : 0 ≤ p) {n : Nat} (hn : n ≤ 3) : puD S p f one two t n 0 = (puF S p f one two t n).1 ∧ 0 ≤ (puF S p f one two t n).1 ∧ (puF S p f one two t n).1 ≤ 7 := by
  have e0 : nch S p.toNat 0 = 0 := rfl
  have s1 := nch_step S p0 0
  have s2 := nch_step S p0 1
  have k0 : (nch S p.toNat 0 : Int) = 0 := rfl
  have : n = 0 ∨ n = 1 ∨ n = 2 ∨ n = 3 := by omega
  rcases this with rfl | rfl | rfl | rfl
  · exact ⟨rfl, show (0 : Int) ≤ 0 by decide, show (0 : Int) ≤ 7 by decide⟩
  · simp only [puD, puF, k0]
    by_cases c0 : S 3 (3 * p + ((0 : Nat) : Int)).toNat < 4
    · simp only [if_pos c0]; decide
    · simp only [if_neg c0]
      cases hsB S p f one two t 0 <;> decide
  · simp only [puD, puF, k0]
    by_cases c0 : S 3 (3 * p + ((0 : Nat) : Int)).toNat < 4
    · have k1 : (nch S p.toNat (0 + 1) : Int) = 1 := by rw [s1, if_pos c0]; rfl
      simp only [if_pos c0]
      by_cases c1 : S 3 (3 * p + ((0 + 1 : Nat) : Int)).toNat < 4
      · simp only [if_pos c1]; decide
      · simp only [if_neg c1, k1]
        cases hsB S p f one two t (0 + 1) <;> decide
    · have k1 : (nch S p.toNat (0 + 1) : Int) = 0 := by rw [s1, if_neg c0]; rfl
      simp only [if_neg c0]
      by_cases c1 : S 3 (3 * p + ((0 + 1 : Nat) : Int)).toNat < 4
      · simp only [if_pos c1]
        cases hsB S p f one two t 0 <;> decide
      · simp only [if_neg c1, k1]
        cases hsB S p f one two t 0 <;> cases hsB S p f one two t (0 + 1) <;> decide
  · simp only [puD, puF, k0]
    by_cases c0 : S 3 (3 * p + ((0 : Nat) : Int)).toNat < 4
    · have k1 : (nch S p.toNat (0 + 1) : Int) = 1 := by rw [s1, if_pos c0]; rfl
      simp only [if_pos c0]
      by_cases c1 : S 3 (3 * p + ((0 + 1 : Nat) : Int)).toNat < 4
      · have k2 : (nch S p.toNat (0 + 1 + 1) : Int) = 2 := by
          rw [show (0 + 1 + 1 : Nat) = 1 + 1 from rfl, s2, if_pos c1]
          have : (nch S p.toNat 1 : Int) = 1 := k1
          omega
        simp only [if_pos c1]
        by_cases c2 : S 3 (3 * p + ((0 + 1 + 1 : Nat) : Int)).toNat < 4
        · simp only [if_pos c2]; decide
        · simp only [if_neg c2, k2]
          cases hsB S p f one two t (0 + 1 + 1) <;> decide
      · have k2 : (nch S p.toNat (0 + 1 + 1) : Int) = 1 := by
          rw [show (0 + 1 + 1 : Nat) = 1 + 1 from rfl, s2, if_neg c1]
          have : (nch S p.toNat 1 : Int) = 1 := k1
          omega
        simp only [if_neg c1, k1]
        by_cases c2 : S 3 (3 * p + ((0 + 1 + 1 : Nat) : Int)).toNat < 4
        · simp only [if_pos c2]
          cases hsB S p f one two t (0 + 1) <;> decide
        · simp only [if_neg c2, k2]
          cases hsB S p f one two t (0 + 1) <;> cases hsB S p f one two t (0 + 1 + 1) <;> decide
    · have k1 : (nch S p.toNat (0 + 1) : Int) = 0 := by rw [s1, if_neg c0]; rfl
      simp only [if_neg c0]
      by_cases c1 : S 3 (3 * p + ((0 + 1 : Nat) : Int)).toNat < 4
      · have k2 : (nch S p.toNat (0 + 1 + 1) : Int) = 1 := by
          rw [show (0 + 1 + 1 : Nat) = 1 + 1 from rfl, s2, if_pos c1]
          have : (nch S p.toNat 1 : Int) = 0 := k1
          omega
        simp only [if_pos c1]
        by_cases c2 : S 3 (3 * p + ((0 + 1 + 1 : Nat) : Int)).toNat < 4
        · simp only [if_pos c2]
          cases hsB S p f one two t 0 <;> decide
        · simp only [if_neg c2, k2]
          cases hsB S p f one two t 0 <;> cases hsB S p f one two t (0 + 1 + 1) <;> decide
      · have k2 : (nch S p.toNat (0 + 1 + 1) : Int) = 0 := by
          rw [show (0 + 1 + 1 : Nat) = 1 + 1 from rfl, s2, if_neg c1]
          have : (nch S p.toNat 1 : Int) = 0 := k1
          omega
        simp only [if_neg c1, k1]
        by_cases c2 : S 3 (3 * p + ((0 + 1 + 1 : Nat) : Int)).toNat < 4
        · simp only [if_pos c2]
          cases hsB S p f one two t 0 <;> cases hsB S p f one two t (0 + 1) <;> decide
        · simp only [if_neg c2, k2]
          cases hsB S p f one two t 0 <;> cases hsB S p f one two t (0 + 1) <;> cases hsB S p f one two t (0 + 1 + 1) <;> decide
def RSw (M : Mm) (l : List Ent) : Prop := ∀ i, i < l.length → M 45 i = (l.getD i (0, 0, 0, 0, 0)).1 ∧ M 46 i = (l.getD i (0, 0, 0, 0, 0)).2.1 ∧ M 47 i = (l.getD i (0, 0, 0, 0, 0)).2.2.1 ∧ M 48 i = (l.getD i (0, 0, 0, 0, 0)).2.2.2.1 ∧ M 49 i = (l.getD i (0, 0, 0, 0, 0)).2.2.2.2
theorem RSw.push {M : Mm} {l : List Ent} (h : RSw M l) (x : Ent) : RSw (up (up (up (up (up M 45 l.length x.1) 46 l.length x.2.1) 47 l.length x.2.2.1) 48 l.length x.2.2.2.1) 49 l.length x.2.2.2.2) (l ++ [x]) := by
  intro i hi
  rw [up_ne _ _ _ (show (45 : Nat) ≠ 49 by decide), up_ne _ _ _ (show (45 : Nat) ≠ 48 by decide), up_ne _ _ _ (show (45 : Nat) ≠ 47 by decide), up_ne _ _ _ (show (45 : Nat) ≠ 46 by decide), up_ne _ _ _ (show (46 : Nat) ≠ 49 by decide), up_ne _ _ _ (show (46 : Nat) ≠ 48 by decide), up_ne _ _ _ (show (46 : Nat) ≠ 47 by decide), up_ne _ _ _ (show (47 : Nat) ≠ 49 by decide), up_ne _ _ _ (show (47 : Nat) ≠ 48 by decide), up_ne _ _ _ (show (48 : Nat) ≠ 49 by decide)]
  rw [List.length_append] at hi
  simp only [List.length_singleton] at hi
  by_cases ci : i = l.length
  · subst ci
    rw [getD_app_at, up_at, up_at, up_at, up_at, up_at]
    exact ⟨rfl, rfl, rfl, rfl, rfl⟩
  · rw [getD_app_lt (by omega)]
    have := h i (by omega)
    have e1 : up M 45 l.length x.1 45 i = M 45 i := by simp [up, ci]
    have e2 : up (up M 45 l.length x.1) 46 l.length x.2.1 46 i = M 46 i := by simp [up, ci]
    have e3 : up (up (up M 45 l.length x.1) 46 l.length x.2.1) 47 l.length x.2.2.1 47 i = M 47 i := by simp [up, ci]
    have e4 : up (up (up (up M 45 l.length x.1) 46 l.length x.2.1) 47 l.length x.2.2.1) 48 l.length x.2.2.2.1 48 i = M 48 i := by simp [up, ci]
    have e5 : up (up (up (up (up M 45 l.length x.1) 46 l.length x.2.1) 47 l.length x.2.2.1) 48 l.length x.2.2.2.1) 49 l.length x.2.2.2.2 49 i = M 49 i := by simp [up, ci]
    rw [e1, e2, e3, e4, e5]
    exact this
theorem RSw.of {M M' : Mm} {l : List Ent} (h : RSw M l) (e : ∀ j, 45 ≤ j → j ≤ 49 → M' j = M j) : RSw M' l := by
  unfold RSw at *
  rw [e 45 (by decide) (by decide), e 46 (by decide) (by decide), e 47 (by decide) (by decide), e 48 (by decide) (by decide), e 49 (by decide) (by decide)]
  exact h
/-- the loop over the symbols of a node -/
theorem r_symbols {S : Mm} (hg : Okg S) {its f t p one two : Int} (hi : 0 ≤ its ∧ its < 30) (hp : 0 ≤ p ∧ p < S 0 0) (f0 : 0 ≤ f) (h1 : f ≤ one) (h2 : one ≤ two) (h3 : two ≤ t) (t12 : t ≤ 12) {J : Int → Mm → Rs} : ∀ (j : Nat) (F : Nat) (M : Mm) (l : List Ent), j ≤ (S 2 p.toNat).toNat → j < F → M 3 = S 3 → M 29 = S 29 → RSw M l → l.length + j < 64 →
    ∃ M', Lp (f_X12_makes_L216_100 its f t p one two J) F ((l.length : Int), (nch S p.toNat j : Int), (j : Int) - (nch S p.toNat j : Int), (j : Int) - 1, M) = J ((dnE S p f one two t its j l).length : Int) M' ∧ RSw M' (dnE S p f one two t its j l) ∧ M' 35 its.toNat = puD S p f one two t j (M 35 its.toNat) ∧ (∀ i, i ≠ its.toNat → M' 35 i = M 35 i) ∧ ∀ k, k ≠ 35 → ¬ (45 ≤ k ∧ k ≤ 49) → M' k = M k := by
  have h10 := hg.1
  have hP := hg.2.2.2.1 p hp.1 hp.2
  have hn := hP.2.1
  have hs := hP.2.2.2.2.2.1
  have hen : ∀ j : Nat, j < 3 → 0 ≤ enC f one two t j ∧ enC f one two t j ≤ enC f one two t ((j : Int) + 1) ∧ enC f one two t ((j : Int) + 1) ≤ 12 := fun j hj => by
    have : j = 0 ∨ j = 1 ∨ j = 2 := by omega
    rcases this with rfl | rfl | rfl
    · show 0 ≤ f ∧ f ≤ one ∧ one ≤ 12
      omega
    · show 0 ≤ one ∧ one ≤ two ∧ two ≤ 12
      omega
    · show 0 ≤ two ∧ two ≤ t ∧ t ≤ 12
      omega
  have hnle : ∀ k, nch S p.toNat k ≤ k := fun k => by
    induction k with
    | zero => exact Nat.le_refl _
    | succ k ihk => simp only [nch]; split <;> omega
  intro j
  induction j with
  | zero =>
    intro F M l _ hF e3 e29 hR hl
    obtain ⟨G, rfl⟩ : ∃ G, F = G + 1 := ⟨F - 1, by omega⟩
    refine ⟨M, ?_, hR, rfl, fun _ _ => rfl, fun _ _ _ => rfl⟩
    rw [Lp_s]
    simp only [f_X12_makes_L216_100]
    rw [if_pos (by omega)]
    rfl
  | succ j ih =>
    intro F M l hj hF e3 e29 hR hl
    obtain ⟨G, rfl⟩ : ∃ G, F = G + 1 := ⟨F - 1, by omega⟩
    have ej : ((j + 1 : Nat) : Int) - 1 = (j : Int) := by omega
    have hns := nch_step S hp.1 j
    have hnj := hnle j
    have hb := hen j (by omega)
    have sj := hs j (by omega) (by omega)
    rw [Lp_s]
    simp only [f_X12_makes_L216_100, LtE]
    rw [ej, if_neg (by omega), wrE (v := 3 * p) (by omega) (by omega), wrE (v := 3 * p + (j : Int)) (by omega) (by omega), gdE (by omega), e3]
    -- behind the choice of the ends
    have tail : ∃ M', (if 4 ≤ S 3 (3 * p + (j : Int)).toNat then gd (0 ≤ its ∧ its < 30) (Cl (f_X12_hasLetter (S 3 (3 * p + (j : Int)).toNat) (enC f one two t j) (enC f one two t ((j : Int) + 1)) M) fun v78 M77 => if v78 = 0 then gd (0 ≤ its ∧ its < 30) (Lp (f_X12_makes_L216_100 its f t p one two J) G ((l.length : Int), (nch S p.toNat (j + 1) : Int), wr (((j + 1 : Nat) : Int) - (nch S p.toNat (j + 1) : Int) + -1), wr ((j : Int) + -1), up M77 35 its.toNat (jor (M 35 its.toNat) (jshl 1 (wr (((j + 1 : Nat) : Int) - (nch S p.toNat (j + 1) : Int) + -1)))))) else gd (0 ≤ its ∧ its < 30) (Lp (f_X12_makes_L216_100 its f t p one two J) G ((l.length : Int), (nch S p.toNat (j + 1) : Int), wr (((j + 1 : Nat) : Int) - (nch S p.toNat (j + 1) : Int) + -1), wr ((j : Int) + -1), up M77 35 its.toNat (jor (M 35 its.toNat) 0)))) else gd (0 ≤ (l.length : Int) ∧ (l.length : Int) < 64) (gd (0 ≤ (l.length : Int) ∧ (l.length : Int) < 64) (gd (0 ≤ (l.length : Int) ∧ (l.length : Int) < 64) (gd (0 ≤ (l.length : Int) ∧ (l.length : Int) < 64) (gd (0 ≤ (l.length : Int) ∧ (l.length : Int) < 64) (Lp (f_X12_makes_L216_100 its f t p one two J) G (wr ((l.length : Int) + 1), wr ((nch S p.toNat (j + 1) : Int) + -1), ((j + 1 : Nat) : Int) - (nch S p.toNat (j + 1) : Int), wr ((j : Int) + -1), up (up (up (up (up M 45 l.length (S 3 (3 * p + (j : Int)).toNat)) 46 l.length (enC f one two t j)) 47 l.length (enC f one two t ((j : Int) + 1))) 48 l.length its) 49 l.length (wr ((nch S p.toNat (j + 1) : Int) + -1))))))))) = J ((dnE S p f one two t its (j + 1) l).length : Int) M' ∧ RSw M' (dnE S p f one two t its (j + 1) l) ∧ M' 35 its.toNat = puD S p f one two t (j + 1) (M 35 its.toNat) ∧ (∀ i, i ≠ its.toNat → M' 35 i = M 35 i) ∧ ∀ k, k ≠ 35 → ¬ (45 ≤ k ∧ k ≤ 49) → M' k = M k := by
      simp only [dnE, puD]
      by_cases c4 : S 3 (3 * p + (j : Int)).toNat < 4
      · rw [if_pos c4] at hns
        have hgl : 0 ≤ (l.length : Int) ∧ (l.length : Int) < 64 := by omega
        rw [if_neg (by omega), gdE hgl, gdE hgl, gdE hgl, gdE hgl, gdE hgl, if_pos c4, if_pos c4, wrE (v := (l.length : Int) + 1) (by omega) (by omega), wrE (v := (nch S p.toNat (j + 1) : Int) + -1) (by omega) (by omega), wrE (v := (j : Int) + -1) (by omega) (by omega)]
        have hpush := hR.push (S 3 (3 * p + (j : Int)).toNat, enC f one two t j, enC f one two t ((j : Int) + 1), its, (nch S p.toNat j : Int))
        simp only at hpush
        have e1 : (nch S p.toNat (j + 1) : Int) + -1 = (nch S p.toNat j : Int) := by omega
        have e2 : ((j + 1 : Nat) : Int) - (nch S p.toNat (j + 1) : Int) = (j : Int) - (nch S p.toNat j : Int) := by omega
        have e4 : (l.length : Int) + 1 = (((l ++ [(S 3 (3 * p + (j : Int)).toNat, enC f one two t j, enC f one two t ((j : Int) + 1), its, (nch S p.toNat j : Int))]).length : Nat) : Int) := by rw [List.length_append]; simp
        have e5 : (j : Int) + -1 = (j : Int) - 1 := by omega
        rw [e1, e2, e4, e5]
        generalize hN : up (up (up (up (up M 45 l.length (S 3 (3 * p + (j : Int)).toNat)) 46 l.length (enC f one two t j)) 47 l.length (enC f one two t ((j : Int) + 1))) 48 l.length its) 49 l.length (nch S p.toNat j : Int) = N at hpush
        have hNk : ∀ k, ¬ (45 ≤ k ∧ k ≤ 49) → N k = M k := fun k hk => by rw [← hN, up_ne _ _ _ (by omega), up_ne _ _ _ (by omega), up_ne _ _ _ (by omega), up_ne _ _ _ (by omega), up_ne _ _ _ (by omega)]
        obtain ⟨M', r1, r2, r3, r4, r5⟩ := ih G N _ (by omega) (by omega) (by rw [hNk 3 (by decide)]; exact e3) (by rw [hNk 29 (by decide)]; exact e29) hpush (by rw [List.length_append]; simp only [List.length_singleton]; omega)
        rw [hNk 35 (by decide)] at r3 r4
        exact ⟨M', r1, r2, r3, r4, fun k k1 k2 => by rw [r5 k k1 k2, hNk k k2]⟩
      · rw [if_neg c4] at hns
        have e1 : (nch S p.toNat (j + 1) : Int) = (nch S p.toNat j : Int) := by omega
        have e2 : ((j + 1 : Nat) : Int) - (nch S p.toNat j : Int) + -1 = (j : Int) - (nch S p.toNat j : Int) := by omega
        have e5 : (j : Int) + -1 = (j : Int) - 1 := by omega
        rw [if_pos (by omega), gdE hi, r_hasLetter e29 ⟨by omega, by omega⟩ hb.1 hb.2.1 hb.2.2, ClS, gdE hi, gdE hi, if_neg c4, if_neg c4, e1, e2, e5, wrE (v := (j : Int) - (nch S p.toNat j : Int)) (by omega) (by omega), wrE (v := (j : Int) - 1) (by omega) (by omega)]
        have fin : ∀ x : Int, ∃ M', Lp (f_X12_makes_L216_100 its f t p one two J) G ((l.length : Int), (nch S p.toNat j : Int), (j : Int) - (nch S p.toNat j : Int), (j : Int) - 1, up M 35 its.toNat x) = J ((dnE S p f one two t its j l).length : Int) M' ∧ RSw M' (dnE S p f one two t its j l) ∧ M' 35 its.toNat = puD S p f one two t j x ∧ (∀ i, i ≠ its.toNat → M' 35 i = M 35 i) ∧ ∀ k, k ≠ 35 → ¬ (45 ≤ k ∧ k ≤ 49) → M' k = M k := fun x => by
          obtain ⟨M', r1, r2, r3, r4, r5⟩ := ih G (up M 35 its.toNat x) l (by omega) (by omega) (by rw [up_ne _ _ _ (by decide)]; exact e3) (by rw [up_ne _ _ _ (by decide)]; exact e29) (hR.of fun k k1 k2 => up_ne _ _ _ (by omega)) (by omega)
          rw [up_at] at r3
          exact ⟨M', r1, r2, r3, fun i hi' => by rw [r4 i hi']; simp [up, hi'], fun k k1 k2 => by rw [r5 k k1 k2, up_ne _ _ _ k1]⟩
        have eh : hsB S p f one two t j = hsl S (S 3 (3 * p + (j : Int)).toNat) (enC f one two t j) (enC f one two t ((j : Int) + 1) - enC f one two t j).toNat := rfl
        rw [eh]
        cases hsl S (S 3 (3 * p + (j : Int)).toNat) (enC f one two t j) (enC f one two t ((j : Int) + 1) - enC f one two t j).toNat with
        | true =>
          have e6 : b2i true = 1 := rfl
          rw [e6, if_neg (by decide), if_pos rfl]
          exact fin _
        | false =>
          have e6 : b2i false = 0 := rfl
          rw [e6, if_pos rfl, if_neg (by decide)]
          exact fin _
    have hj3 : j = 0 ∨ j = 1 ∨ j = 2 := by omega
    rcases hj3 with rfl | rfl | rfl
    · rw [if_neg (c := ¬ ((0 : Nat) : Int) = 0) (fun q => q rfl), if_neg (c := ¬ ((0 : Nat) : Int) = 0) (fun q => q rfl)]
      exact tail
    · rw [if_pos (c := ¬ ((1 : Nat) : Int) = 0) (by decide), if_neg (c := ¬ ((1 : Nat) : Int) = 1) (fun q => q rfl), if_pos (c := ¬ ((1 : Nat) : Int) = 0) (by decide), if_neg (c := ¬ ((1 : Nat) : Int) = 1) (fun q => q rfl)]
      exact tail
    · rw [if_pos (c := ¬ ((2 : Nat) : Int) = 0) (by decide), if_pos (c := ¬ ((2 : Nat) : Int) = 1) (by decide), if_pos (c := ¬ ((2 : Nat) : Int) = 0) (by decide), if_pos (c := ¬ ((2 : Nat) : Int) = 1) (by decide)]
      exact tail
