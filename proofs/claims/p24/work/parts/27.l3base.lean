/-! rows to step through the models -/
def Wp {β : Type} (o : Option β) (Q : β → Prop) : Prop := ∃ r, o = some r ∧ Q r
theorem Wp_some {β : Type} {r : β} {Q : β → Prop} (h : Q r) : Wp (some r) Q := ⟨r, rfl, h⟩
theorem Wp_mono {β : Type} {o : Option β} {Q Q' : β → Prop} (h : Wp o Q) (hq : ∀ r, Q r → Q' r) : Wp o Q' := by
  obtain ⟨r, e, h⟩ := h; exact ⟨r, e, hq r h⟩
theorem Wp_Cl {α : Type} {o : Rs} {k : Int → Mm → Option α} {Q : α → Prop} (h : Wp o fun r => Wp (k r.1 r.2) Q) : Wp (Cl o k) Q := by
  obtain ⟨r, e, h⟩ := h; rw [e]; exact h
theorem Wp_gd {α : Type} {c : Prop} [Decidable c] {k : Option α} {Q : α → Prop} (hc : c) (h : Wp k Q) : Wp (gd c k) Q := by
  unfold gd; rw [if_pos hc]; exact h
theorem Wp_ite {α : Type} {c : Prop} [Decidable c] {a b : Option α} {Q : α → Prop} (h1 : c → Wp a Q) (h2 : ¬ c → Wp b Q) : Wp (if c then a else b) Q := by
  split <;> simp_all
theorem Wp_lp {σ β : Type} {body : (σ → Option β) → σ → Option β} {Q : β → Prop} (I : σ → Prop) (μ : σ → Nat) (step : ∀ rc s, I s → (∀ s', I s' → μ s' < μ s → Wp (rc s') Q) → Wp (body rc s) Q) : ∀ f s, I s → μ s < f → Wp (Lp body f s) Q := by
  intro f
  induction f with
  | zero => intro s _ h; exact absurd h (Nat.not_lt_zero _)
  | succ f ih => intro s hs hf; exact step _ s hs fun s' h1 h2 => ih s' h1 (by omega)
theorem Lp_for {σ β : Type} {body : (σ → Option β) → σ → Option β} {r : Option β} (n : Nat) (S : Nat → σ) (h1 : ∀ rc i, i < n → body rc (S i) = rc (S (i + 1))) (h2 : ∀ rc, body rc (S n) = r) {f : Nat} (hf : n < f) {s : σ} (hs : s = S 0) : Lp body f s = r := by
  have aux : ∀ k f, k ≤ n → k < f → Lp body f (S (n - k)) = r := by
    intro k
    induction k with
    | zero => intro f _ hf; obtain ⟨g, rfl⟩ : ∃ g, f = g + 1 := ⟨f - 1, by omega⟩; exact h2 _
    | succ k ih =>
      intro f hk hf
      obtain ⟨g, rfl⟩ : ∃ g, f = g + 1 := ⟨f - 1, by omega⟩
      show body (Lp body g) (S (n - (k + 1))) = r
      rw [h1 _ _ (by omega), show n - (k + 1) + 1 = n - k by omega]
      exact ih g (by omega) (by omega)
  have := aux n f (Nat.le_refl _) hf
  rw [Nat.sub_self] at this
  rw [hs]; exact this
theorem wrE {v : Int} (h1 : -2147483648 ≤ v) (h2 : v < 2147483648) : wr v = v := wr_eq ⟨h1, h2⟩
theorem gdE {α : Type} {c : Prop} [Decidable c] {k : Option α} (h : c) : gd c k = k := if_pos h
theorem ClS {α : Type} {v : Int} {M : Mm} {k : Int → Mm → Option α} : Cl (some (v, M)) k = k v M := Eq.trans rfl rfl
theorem LtE {α β : Type} {x : α} {k : α → β} : Lt x k = k x := Eq.trans rfl rfl
theorem FU_lt {n : Nat} (h : n < 1000000000000000) : n < FU := h
/-- a row of a memory laid anew -/
def sr (M : Mm) (k : Nat) (f : Nat → Int) : Mm := fun k' => if k' = k then f else M k'
theorem sr_at (M : Mm) (k : Nat) (f : Nat → Int) : sr M k f k = f := if_pos rfl
theorem sr_ne (M : Mm) {k k' : Nat} (f : Nat → Int) (h : k' ≠ k) : sr M k f k' = M k' := if_neg h
theorem up_sr (M : Mm) (k i : Nat) (v : Int) : up M k i v = sr M k (fun j => if j = i then v else M k j) := by
  funext k' j; unfold up sr
  by_cases h : k' = k
  · subst h; simp
  · simp [h]
theorem sr_self (M : Mm) (k : Nat) : sr M k (M k) = M := by funext k'; unfold sr; grind
theorem sr_sr (M : Mm) (k : Nat) (f g : Nat → Int) : sr (sr M k f) k g = sr M k g := by funext k'; unfold sr; grind
/-- an entry laid into a row -/
def se (f : Nat → Int) (i : Nat) (v : Int) : Nat → Int := fun j => if j = i then v else f j
theorem se_at (f : Nat → Int) (i : Nat) (v : Int) : se f i v i = v := if_pos rfl
theorem se_ne (f : Nat → Int) {i j : Nat} (v : Int) (h : j ≠ i) : se f i v j = f j := if_neg h
theorem up_se (M : Mm) (k i : Nat) (v : Int) : up M k i v = sr M k (se (M k) i v) := up_sr M k i v
/-! the rows of the class -/
theorem c_entryOf (r : Nat) (a : Int) (M : Mm) : f_X11_entryOf r a M = some (if 0 ≤ a ∧ a < (alenC r : Int) then M r a.toNat else -1, M) := by
  unfold f_X11_entryOf Lt gd
  grind
theorem c_setEntry (r : Nat) (a v : Int) (M : Mm) : f_X11_setEntry r a v M = some (0, if 0 ≤ a ∧ a < (alenC r : Int) then up M r a.toNat v else M) := by
  unfold f_X11_setEntry Lt gd
  grind
theorem c_entryOf_in {r : Nat} {a : Int} {M : Mm} (n : Nat) (hn : alenC r = n) (h1 : 0 ≤ a) (h2 : a < n) : f_X11_entryOf r a M = some (M r a.toNat, M) := by
  rw [c_entryOf, hn, if_pos ⟨h1, h2⟩]
theorem c_setEntry_in {r : Nat} {a v : Int} {M : Mm} (n : Nat) (hn : alenC r = n) (h1 : 0 ≤ a) (h2 : a < n) : f_X11_setEntry r a v M = some (0, up M r a.toNat v) := by
  rw [c_setEntry, hn, if_pos ⟨h1, h2⟩]
theorem c_fillRow (r : Nat) (v : Int) (M : Mm) : f_X11_fillRow r v M = some (0, sr M r fun j => if j < alenC r then v else M r j) := by
  unfold f_X11_fillRow Lt
  have hl : alenC r ≤ 100000 := by unfold alenC; omega
  refine Lp_for (alenC r) (fun i => ((i : Int), sr M r fun j => if j < i then v else M r j)) (fun rc i hi => ?_) (fun rc => ?_) (FU_lt (by omega)) ?_
  · simp only [f_X11_fillRow_L2_9]
    rw [if_neg (by omega), gdE (by omega), wrE (by omega) (by omega), up_sr, sr_sr]
    refine congrArg rc (Prod.ext rfl (congrArg (sr M r) (funext fun j => ?_)))
    rw [sr_at]
    simp only [Int.toNat_natCast]
    by_cases h : j = i <;> grind
  · simp only [f_X11_fillRow_L2_9]
    rw [if_pos (by omega)]
  · simp [sr_self]
theorem c_kindOf (a : Int) (M : Mm) : f_X5_kindOf a M = some (if 0 ≤ a ∧ a < M 1 1 ∧ a < 6 then M 13 a.toNat else -1, M) := by
  unfold f_X5_kindOf Lt gd; grind
theorem c_headOf (a : Int) (M : Mm) : f_X5_headOf a M = some (if 0 ≤ a ∧ a < 10 then M 2 a.toNat else -1, M) := by
  unfold f_X5_headOf Lt gd; grind
theorem c_lengthOf (a : Int) (M : Mm) : f_X5_lengthOf a M = some (if 0 ≤ a ∧ a < 10 then M 3 a.toNat else -1, M) := by
  unfold f_X5_lengthOf Lt gd; grind
theorem c_childCountOf (a : Int) (M : Mm) : f_X5_childCountOf a M = some (if 0 ≤ a ∧ a < 10 then M 5 a.toNat else 0, M) := by
  unfold f_X5_childCountOf Lt gd; grind
theorem c_forwardOf (a : Int) (M : Mm) : f_X5_forwardOf a M = some (if 0 ≤ a ∧ a < 10 then M 9 a.toNat else -1, M) := by
  unfold f_X5_forwardOf Lt gd; grind
theorem c_ruleAttributeOf (a : Int) (M : Mm) : f_X5_ruleAttributeOf a M = some (if 0 ≤ a ∧ a < 10 then M 11 a.toNat else -1, M) := by
  unfold f_X5_ruleAttributeOf Lt gd; grind
theorem c_ruleOtherOf (a : Int) (M : Mm) : f_X5_ruleOtherOf a M = some (if 0 ≤ a ∧ a < 10 then M 12 a.toNat else -1, M) := by
  unfold f_X5_ruleOtherOf Lt gd; grind
theorem c_hasProduction (a : Int) (M : Mm) : f_X5_hasProduction a M = some (if 0 ≤ a ∧ a < M 1 0 then 1 else 0, M) := by
  unfold f_X5_hasProduction Lt; grind
theorem c_hasAttribute (a : Int) (M : Mm) : f_X5_hasAttribute a M = some (if 0 ≤ a ∧ a < M 1 1 then 1 else 0, M) := by
  unfold f_X5_hasAttribute Lt; grind
theorem c_symbolOf {p j : Int} (hp : 0 ≤ p ∧ p < 10) (hj : 0 ≤ j ∧ j < 3) (M : Mm) : f_X5_symbolOf p j M = some (M 4 (3 * p + j).toNat, M) := by
  simp (disch := omega) only [f_X5_symbolOf, LtE, wrE, gdE, if_neg]
  rw [Int.mul_comm]
theorem c_childHeadOf {p c : Int} (hp : 0 ≤ p ∧ p < 10) (hc : c < 3) (M : Mm) : f_X5_childHeadOf p c M = some (if 0 ≤ c ∧ c < M 5 p.toNat then M 6 (3 * p + c).toNat else -1, M) := by
  simp only [f_X5_childHeadOf, LtE, c_childCountOf, ClS]
  rw [if_pos hp]
  by_cases h1 : c < 0
  · rw [if_pos h1, if_pos trivial, if_neg (by omega)]
  · rw [if_neg h1]
    by_cases h2 : M 5 p.toNat ≤ c
    · rw [if_pos h2, if_pos trivial, if_neg (by omega)]
    · rw [if_neg h2, if_neg (by decide)]
      simp (disch := omega) only [wrE]
      rw [c_entryOf_in 30 alenC_6 (by omega) (by omega), ClS, if_pos (by omega), Int.mul_comm]
theorem c_letterOf {p c : Int} (hp : 0 ≤ p ∧ p < 10) (hc : c < 3) (M : Mm) : f_X5_letterOf p c M = some (if 0 ≤ c ∧ c < M 7 p.toNat then M 8 (3 * p + c).toNat else -1, M) := by
  simp only [f_X5_letterOf, LtE]
  rw [if_neg (by omega), if_neg (by omega), gdE hp]
  by_cases h1 : c < 0
  · rw [if_pos h1, if_neg (by omega)]
  · rw [if_neg h1]
    by_cases h2 : c < M 7 p.toNat
    · rw [if_pos h2]
      simp (disch := omega) only [wrE]
      rw [if_neg (by omega), gdE (by omega), if_pos (by omega), Int.mul_comm]
    · rw [if_neg h2, if_neg (by omega)]
theorem c_standInOf {p c : Int} (hp : -1 ≤ p ∧ p < 10) (M : Mm) : f_X5_standInOf p c M = some (if 0 ≤ c ∧ c < 3 ∧ 0 ≤ 3 * p + c then M 10 (3 * p + c).toNat else -1, M) := by
  simp only [f_X5_standInOf, LtE]
  by_cases h1 : c < 0
  · rw [if_pos h1, if_pos trivial, if_neg (by omega)]
  · rw [if_neg h1]
    by_cases h2 : 3 ≤ c
    · rw [if_pos h2, if_pos trivial, if_neg (by omega)]
    · rw [if_neg h2, if_neg (by decide)]
      simp (disch := omega) only [wrE]
      rw [c_entryOf, alenC_10, ClS, Int.mul_comm]
      grind
theorem c_placeOf {p a t : Int} (hp : p < 10) (ha : a < 6) (M : Mm) : f_X1_placeOf p a t M = some (if 0 ≤ p ∧ 0 ≤ a ∧ -1 ≤ t ∧ t < 3 then (p * 6 + a) * 4 + t + 1 else -1, M) := by
  simp only [f_X1_placeOf, LtE]
  by_cases h : 0 ≤ p ∧ 0 ≤ a ∧ -1 ≤ t ∧ t < 3
  · obtain ⟨h1, h2, h3, h4⟩ := h
    simp (disch := omega) only [if_neg, if_pos, wrE]
  · rw [if_neg h]; grind
theorem c_rowOf (a : Int) (M : Mm) : f_X1_rowOf a M = some (if 0 ≤ a ∧ a < M 25 0 ∧ a < 30 then ((33 + 8 * a.toNat : Nat) : Int) else -1, M) := by
  unfold f_X1_rowOf Lt gd; grind
theorem c_counts {r : Nat} {M : Mm} : f_X1_counts r M = some (if 0 ≤ M r 3 ∧ M r 3 < 4 ∧ M 27 (M r 3).toNat = 0 then 1 else 0, M) := by
  unfold f_X1_counts Lt gd; grind
theorem c_resolvedFor {p a t : Int} (hp : p < 10) (ha : a < 6) (M : Mm) : f_X1_resolvedFor p a t M = some (if 0 ≤ p ∧ 0 ≤ a ∧ -1 ≤ t ∧ t < 3 then M 29 ((p * 6 + a) * 4 + t + 1).toNat else -1, M) := by
  simp only [f_X1_resolvedFor, c_placeOf hp ha, ClS, c_entryOf, alenC_29]
  grind
theorem c_hopsFor {p a t : Int} (hp : p < 10) (ha : a < 6) (M : Mm) : f_X1_hopsFor p a t M = some (if 0 ≤ p ∧ 0 ≤ a ∧ -1 ≤ t ∧ t < 3 then M 30 ((p * 6 + a) * 4 + t + 1).toNat else -1, M) := by
  simp only [f_X1_hopsFor, c_placeOf hp ha, ClS, c_entryOf, alenC_30]
  grind
theorem c_productionAt {p h : Int} (hp : 0 ≤ p ∧ p < 10) (hh : -100 < h ∧ h < 100) (M : Mm) : f_X10_productionAt p h M = some (if 0 ≤ h ∧ h < 4 then M 23 (4 * p + h).toNat else -1, M) := by
  simp only [f_X10_productionAt, LtE]
  simp (disch := omega) only [wrE]
  rw [Int.mul_comm]
  by_cases h1 : h < 0
  · rw [if_pos h1, if_pos trivial, if_neg (by omega)]
  · by_cases h2 : 4 ≤ h
    · rw [if_neg h1, if_pos h2, if_pos trivial, if_neg (by omega)]
    · rw [if_neg h1, if_neg h2, if_neg (by omega), if_neg (by omega), if_neg (by decide), gdE (by omega), if_pos (by omega)]
theorem c_childAt {p h c : Int} (hp : 0 ≤ p ∧ p < 10) (hh : -100 < h ∧ h < 100) (hc : -100 < c ∧ c < 2000) (M : Mm) : f_X10_childAt p h c M = some (if 0 ≤ h ∧ h < 4 ∧ 0 ≤ c ∧ c < 3 then M 24 (3 * (4 * p + h) + c).toNat else -1, M) := by
  simp only [f_X10_childAt, LtE]
  simp (disch := omega) only [wrE]
  rw [show (p * 4 + h) * 3 + c = 3 * (4 * p + h) + c by omega]
  by_cases h1 : 0 ≤ h ∧ h < 4 ∧ 0 ≤ c ∧ c < 3
  · simp (disch := omega) only [if_neg, gdE]
    rw [if_pos h1]
  · rw [if_neg h1]
    grind
theorem c_isFor {h : Nat} {a b c : Int} {M : Mm} : f_X0_isFor h a b c M = some (if M h 0 = a ∧ M h 1 = b ∧ M h 2 = c then 1 else 0, M) := by
  unfold f_X0_isFor Lt; grind
theorem c_cornerOf {a b : Int} (ha : -100 < a ∧ a < 100) (hb : -100 < b ∧ b < 100) (M : Mm) : f_X6_cornerOf a b M = some (6 * (a + 1) + b, M) := by
  simp only [f_X6_cornerOf, LtE]
  simp (disch := omega) only [wrE]
  rw [Int.mul_comm]
theorem c0_kindOf {h : Nat} {a : Int} {M : Mm} : f_X0_kindOf h a M = some (if 0 ≤ a ∧ a < 8 then M (h + 1) a.toNat else -1, M) := by
  unfold f_X0_kindOf Lt gd; grind
theorem c0_numberOf {h : Nat} {a : Int} {M : Mm} : f_X0_numberOf h a M = some (if 0 ≤ a ∧ a < 8 then M (h + 2) a.toNat else -1, M) := by
  unfold f_X0_numberOf Lt gd; grind
theorem c0_childOf {h : Nat} {a : Int} {M : Mm} : f_X0_childOf h a M = some (if 0 ≤ a ∧ a < 8 then M (h + 3) a.toNat else -1, M) := by
  unfold f_X0_childOf Lt gd; grind
theorem c0_userOf {h : Nat} {a : Int} {M : Mm} : f_X0_userOf h a M = some (if 0 ≤ a ∧ a < 8 then M (h + 4) a.toNat else -1, M) := by
  unfold f_X0_userOf Lt gd; grind
theorem c0_roleOf {h : Nat} {a : Int} {M : Mm} : f_X0_roleOf h a M = some (if 0 ≤ a ∧ a < 8 then M (h + 5) a.toNat else -1, M) := by
  unfold f_X0_roleOf Lt gd; grind
theorem c0_startOf {h : Nat} {a : Int} {M : Mm} : f_X0_startOf h a M = some (if 0 ≤ a ∧ a < 8 then M (h + 6) a.toNat else -1, M) := by
  unfold f_X0_startOf Lt gd; grind
theorem c3_has {h : Nat} {a : Int} {M : Mm} : f_X3_has h a M = some (if 0 ≤ a ∧ a < 180 ∧ M (h + 2) a.toNat ≠ 0 then 1 else 0, M) := by
  unfold f_X3_has Lt gd; grind
theorem c3_valueOf {h : Nat} {a : Int} {M : Mm} : f_X3_valueOf h a M = some (if 0 ≤ a ∧ a < 180 then M (h + 1) a.toNat else -1, M) := by
  unfold f_X3_valueOf Lt gd; grind
theorem c3_hangsOf {h : Nat} {a : Int} {M : Mm} : f_X3_hangsOf h a M = some (if 0 ≤ a ∧ a < 180 then M (h + 2) a.toNat else 0, M) := by
  unfold f_X3_hangsOf Lt gd; grind
theorem c3_clear (h : Nat) (M : Mm) : f_X3_clear h M = some (0, sr M (h + 2) fun j => if j < alenC (h + 2) then 0 else M (h + 2) j) := by
  simp only [f_X3_clear, c_fillRow, ClS]
theorem c_slotOf {a b : Int} (ha : -1000 < a ∧ a < 1000) (hb : -1000 < b ∧ b < 1000) (M : Mm) : f_X11_slotOf a b M = some (6 * a + b, M) := by
  simp only [f_X11_slotOf, LtE]
  simp (disch := omega) only [wrE]
  rw [Int.mul_comm]
/-! what the rows of the reference tell, and how the rows of the class go with them -/
def nch (S : Mm) (p : Nat) : Nat → Nat
  | 0 => 0
  | n + 1 => nch S p n + (if S 3 (3 * p + n) < 4 then 1 else 0)
def OkP (S : Mm) (p : Int) : Prop :=
  (0 ≤ S 1 p.toNat ∧ S 1 p.toNat ≤ 3) ∧ (0 ≤ S 2 p.toNat ∧ S 2 p.toNat ≤ 3) ∧
  S 4 p.toNat = (nch S p.toNat (S 2 p.toNat).toNat : Int) ∧ S 6 p.toNat = S 2 p.toNat - S 4 p.toNat ∧
  (0 ≤ S 4 p.toNat ∧ S 4 p.toNat ≤ S 2 p.toNat) ∧
  (∀ j : Int, 0 ≤ j → j < S 2 p.toNat → 0 ≤ S 3 (3 * p + j).toNat ∧ S 3 (3 * p + j).toNat ≤ 9) ∧
  (∀ j : Int, 0 ≤ j → j < S 4 p.toNat → 0 ≤ S 5 (3 * p + j).toNat ∧ S 5 (3 * p + j).toNat ≤ 3) ∧
  (∀ j : Int, 0 ≤ j → j < S 6 p.toNat → 4 ≤ S 7 (3 * p + j).toNat ∧ S 7 (3 * p + j).toNat ≤ 9) ∧
  (S 8 p.toNat = -1 ∨ (0 ≤ S 8 p.toNat ∧ S 8 p.toNat < S 0 0 ∧ ∀ j : Int, 0 ≤ j → j < S 4 (S 8 p.toNat).toNat → 0 ≤ S 9 (3 * p + j).toNat ∧ S 9 (3 * p + j).toNat < S 4 p.toNat)) ∧
  (S 10 p.toNat = -1 ∨ (0 ≤ S 10 p.toNat ∧ S 10 p.toNat < S 0 0 ∧ S 4 (S 10 p.toNat).toNat = S 4 p.toNat ∧ S 6 (S 10 p.toNat).toNat = S 6 p.toNat ∧ 0 ≤ S 11 p.toNat ∧ S 11 p.toNat < S 0 12))
def Okg (S : Mm) : Prop :=
  (0 ≤ S 0 0 ∧ S 0 0 ≤ 10) ∧ (0 ≤ S 0 12 ∧ S 0 12 ≤ 6) ∧
  (∀ a : Int, 0 ≤ a → a < S 0 12 → 0 ≤ S 12 a.toNat ∧ S 12 a.toNat ≤ 3) ∧
  (∀ p : Int, 0 ≤ p → p < S 0 0 → OkP S p) ∧
  (∀ p : Int, S 0 0 ≤ p → p < 10 → S 2 p.toNat = 0 ∧ S 4 p.toNat = 0 ∧ S 6 p.toNat = 0 ∧ S 8 p.toNat = -1 ∧ S 10 p.toNat = -1)
/-- the class's grammar -/
def CG (M S : Mm) : Prop :=
  M 1 0 = S 0 0 ∧ M 1 1 = S 0 12 ∧ (∀ a : Int, 0 ≤ a → a < S 0 12 → M 13 a.toNat = S 12 a.toNat) ∧
  (∀ p : Int, 0 ≤ p → p < S 0 0 → M 2 p.toNat = S 1 p.toNat ∧ M 3 p.toNat = S 2 p.toNat ∧ M 5 p.toNat = S 4 p.toNat ∧ M 7 p.toNat = S 6 p.toNat ∧ M 9 p.toNat = S 8 p.toNat ∧ M 12 p.toNat = S 10 p.toNat ∧ (S 10 p.toNat ≠ -1 → M 11 p.toNat = S 11 p.toNat) ∧
    (∀ j : Int, 0 ≤ j → j < S 2 p.toNat → M 4 (3 * p + j).toNat = S 3 (3 * p + j).toNat) ∧
    (∀ j : Int, 0 ≤ j → j < S 4 p.toNat → M 6 (3 * p + j).toNat = S 5 (3 * p + j).toNat) ∧
    (∀ j : Int, 0 ≤ j → j < S 6 p.toNat → M 8 (3 * p + j).toNat = S 7 (3 * p + j).toNat - 4)) ∧
  (∀ i : Nat, i < 30 → M 10 i = S 9 i)
/-! the steps: how many each takes, the stack of what stands, the operands, the starts -/
def tkn (k : Int) : Nat := if k = 7 then 1 else if 8 ≤ k ∧ k ≤ 12 then 2 else if k = 13 then 3 else 0
def stk (K : Nat → Int) : Nat → List Nat
  | 0 => []
  | n + 1 => n :: (stk K n).drop (tkn (K n))
def opr (K : Nat → Int) (k j : Nat) : Nat := (stk K k).getD (tkn (K k) - 1 - j) 0
def sta (K : Nat → Int) : Nat → Nat → Nat
  | 0, k => k
  | f + 1, k => if tkn (K k) = 0 then k else sta K f (opr K k 0)
def StepOk (S : Mm) (k a b : Int) : Prop :=
  (0 ≤ k ∧ k ≤ 14) ∧ (if k = 1 ∨ k = 2 ∨ k = 7 then 0 ≤ a ∧ a < S 0 12 else 0 ≤ a ∧ a ≤ (if k = 0 then 999 else if k = 3 ∨ k = 4 then 2 else 0)) ∧ (0 ≤ b ∧ b ≤ (if k = 2 ∨ k = 6 then 2 else 0))
def StepsOk (S : Mm) (K A B : Nat → Int) (n : Nat) : Prop := ∀ k, k < n → StepOk S (K k) (A k) (B k) ∧ tkn (K k) ≤ (stk K k).length
/-- what the class keeps of steps beside them -/
def CSt (M : Mm) (h : Nat) (K A B : Nat → Int) (n : Nat) : Prop :=
  (∀ k, k < n → M (h + 1) k = K k ∧ M (h + 2) k = A k ∧ M (h + 3) k = B k ∧ M (h + 6) k = (sta K 8 k : Int) ∧ (∀ j, j < tkn (K k) → M (h + 4) (opr K k j) = (k : Int) ∧ M (h + 5) (opr K k j) = (j : Int))) ∧
  (∀ r ∈ stk K n, M (h + 4) r = -1 ∧ M (h + 5) r = 0)
def Okd (S : Mm) : Prop :=
  (0 ≤ S 0 14 ∧ S 0 14 ≤ 8) ∧ StepsOk S (S 13) (S 14) (S 15) (S 0 14).toNat ∧ S 0 15 = ((stk (S 13) (S 0 14).toNat).length : Int)
def CD (M S : Mm) : Prop :=
  M 14 4 = S 0 14 ∧ M 14 5 = S 0 15 ∧ CSt M 14 (S 13) (S 14) (S 15) (S 0 14).toNat ∧
  (∀ i, i < (stk (S 13) (S 0 14).toNat).length → M 21 i = (((stk (S 13) (S 0 14).toNat).reverse.getD i 0 : Nat) : Int))
/-- the steps of an equation -/
def eK (S : Mm) (k : Nat) : Nat → Int := fun i => S 21 (8 * k + i)
def eA (S : Mm) (k : Nat) : Nat → Int := fun i => S 22 (8 * k + i)
def eB (S : Mm) (k : Nat) : Nat → Int := fun i => S 23 (8 * k + i)
def eN (S : Mm) (k : Nat) : Nat := (S 20 k).toNat
def OkE (S : Mm) (k : Nat) : Prop :=
  (0 ≤ S 16 k ∧ S 16 k < S 0 0) ∧ (0 ≤ S 17 k ∧ S 17 k < S 0 12) ∧ (0 ≤ S 19 k ∧ S 19 k ≤ 3) ∧ (1 ≤ S 20 k ∧ S 20 k ≤ 8) ∧
  (if S 12 (S 17 k).toNat = 1 then 0 ≤ S 18 k ∧ S 18 k < S 4 (S 16 k).toNat else S 18 k = (if S 12 (S 17 k).toNat = 2 then -2 else -1)) ∧
  StepsOk S (eK S k) (eA S k) (eB S k) (eN S k) ∧
  (stk (eK S k) (eN S k)).length = (if S 12 (S 17 k).toNat = 2 then 2 else 1) ∧
  (∀ i, i < eN S k → ∀ j, j < tkn (eK S k i) → S 24 (3 * (8 * k + i) + j) = ((8 * k + opr (eK S k) i j : Nat) : Int)) ∧
  S 25 k = ((8 * k + (stk (eK S k) (eN S k)).reverse.getD 0 0 : Nat) : Int) ∧
  (S 12 (S 17 k).toNat = 2 → S 26 k = ((8 * k + (stk (eK S k) (eN S k)).reverse.getD 1 0 : Nat) : Int))
def Oke (S : Mm) : Prop := (0 ≤ S 0 19 ∧ S 0 19 ≤ 30) ∧ (∀ k : Nat, (k : Int) < S 0 19 → OkE S k) ∧ (∀ i, i < 4 → S 27 i = 0 ∨ S 27 i = 1)
def CE (M S : Mm) : Prop :=
  M 25 0 = S 0 19 ∧ (∀ i, i < 4 → M 27 i = S 27 i) ∧
  ∀ k : Nat, (k : Int) < S 0 19 → M (33 + 8 * k) 0 = S 16 k ∧ M (33 + 8 * k) 1 = S 17 k ∧ M (33 + 8 * k) 2 = S 18 k ∧ M (33 + 8 * k) 3 = S 19 k ∧ M (33 + 8 * k) 4 = S 20 k ∧ CSt M (33 + 8 * k) (eK S k) (eA S k) (eB S k) (eN S k)
/-! a production as its forwards show it -/
def shown (S : Mm) (p : Int) : Nat → Int
  | 0 => p
  | h + 1 => if shown S p h = -1 then -1 else S 8 (shown S p h).toNat
def stand (S : Mm) (p : Int) : Nat → Int → Int
  | 0, c => if 0 ≤ c ∧ c < S 4 p.toNat then c else -1
  | h + 1, c => if shown S p (h + 1) ≠ -1 ∧ 0 ≤ c ∧ c < S 4 (shown S p (h + 1)).toNat then stand S p h (S 9 (3 * shown S p h + c).toNat) else -1
/-- the target there for a target of the node -/
def there (S : Mm) (p : Int) (h : Nat) (t : Int) : Int :=
  if t < 0 then t else if stand S p h 0 = t then 0 else if stand S p h 1 = t then 1 else if stand S p h 2 = t then 2 else -9
/-- does an equation count for a production, an attribute and a target -/
def mt (S : Mm) (p a t : Int) (k : Nat) : Bool := decide (S 16 k = p) && decide (S 17 k = a) && decide (S 18 k = t) && decide (S 27 (S 19 k).toNat = 0)
def sgl (P : Nat → Bool) : Nat → Int
  | 0 => -1
  | n + 1 => if P n then (if sgl P n = -1 then (n : Int) else -3) else sgl P n
def sg (S : Mm) (p a t : Int) : Int := sgl (mt S p a t) (S 0 19).toNat
def nxt (P : Nat → Bool) : Nat → Nat → Int
  | 0, _ => -1
  | f + 1, j => if P j then (j : Int) else nxt P f (j + 1)
def gift (S : Mm) (p a : Int) (j : Nat) : Int := nxt (mt S p a (-2)) ((S 0 19).toNat - j) j
def sgh (S : Mm) (p a t : Int) (h : Nat) : Int := if shown S p h = -1 then -1 else sg S (shown S p h) a (there S p h t)
/-- behind how many forwards an equation for a target stands -/
def rsh (S : Mm) (p a t : Int) : Nat := if sgh S p a t 0 ≠ -1 then 0 else if sgh S p a t 1 ≠ -1 then 1 else if sgh S p a t 2 ≠ -1 then 2 else 3
def rsv (S : Mm) (p a t : Int) : Int := sgh S p a t (rsh S p a t)
def plc (p a t : Int) : Nat := ((p * 6 + a) * 4 + t + 1).toNat
/-- the class's rows that it derives from the grammar -/
def CVw (M S : Mm) : Prop := ∀ p : Int, 0 ≤ p → p < S 0 0 → ∀ h : Nat, h < 4 → M 23 (4 * p + h).toNat = shown S p h ∧ ∀ c : Int, 0 ≤ c → c < 3 → M 24 (3 * (4 * p + h) + c).toNat = stand S p h c
def CSg (M S : Mm) : Prop := ∀ p : Int, 0 ≤ p → p < S 0 0 → ∀ a : Int, 0 ≤ a → a < S 0 12 → ∀ t : Int, -1 ≤ t → t < 3 → M 28 (plc p a t) = sg S p a t
def CGi (M S : Mm) : Prop := (∀ p : Int, 0 ≤ p → p < S 0 0 → ∀ a : Int, 0 ≤ a → a < S 0 12 → M 31 (6 * p + a).toNat = gift S p a 0) ∧ (∀ k : Nat, (k : Int) < S 0 19 → mt S (S 16 k) (S 17 k) (-2) k = true → M 32 k = gift S (S 16 k) (S 17 k) (k + 1))
def CRs (M S : Mm) : Prop := ∀ p : Int, 0 ≤ p → p < S 0 0 → ∀ a : Int, 0 ≤ a → a < S 0 12 → ∀ t : Int, -1 ≤ t → t < 3 → M 29 (plc p a t) = rsv S p a t ∧ (rsv S p a t ≠ -1 → M 30 (plc p a t) = (rsh S p a t : Int))
def CV (M S : Mm) : Prop := CVw M S ∧ CSg M S ∧ CGi M S ∧ CRs M S
theorem CG.of {M M' S : Mm} (h : CG M S) (e : ∀ k, 1 ≤ k → k ≤ 13 → M' k = M k) : CG M' S := by
  unfold CG at *
  rw [e 1 (by decide) (by decide), e 2 (by decide) (by decide), e 3 (by decide) (by decide), e 4 (by decide) (by decide), e 5 (by decide) (by decide), e 6 (by decide) (by decide), e 7 (by decide) (by decide), e 8 (by decide) (by decide), e 9 (by decide) (by decide), e 10 (by decide) (by decide), e 11 (by decide) (by decide), e 12 (by decide) (by decide), e 13 (by decide) (by decide)]
  exact h
theorem CG.sr {M S : Mm} (h : CG M S) {k : Nat} (hk : 13 < k) (f : Nat → Int) : CG (sr M k f) S := h.of fun j _ hj => sr_ne _ _ (by omega)
theorem g_childCount {M S : Mm} (hM : CG M S) (hg : Okg S) {p : Int} (hp : 0 ≤ p ∧ p < S 0 0) : f_X5_childCountOf p M = some (S 4 p.toNat, M) := by
  rw [c_childCountOf, if_pos ⟨hp.1, by have := hg.1; omega⟩, (hM.2.2.2.1 p hp.1 hp.2).2.2.1]
theorem g_head {M S : Mm} (hM : CG M S) (hg : Okg S) {p : Int} (hp : 0 ≤ p ∧ p < S 0 0) : f_X5_headOf p M = some (S 1 p.toNat, M) := by
  rw [c_headOf, if_pos ⟨hp.1, by have := hg.1; omega⟩, (hM.2.2.2.1 p hp.1 hp.2).1]
theorem g_length {M S : Mm} (hM : CG M S) (hg : Okg S) {p : Int} (hp : 0 ≤ p ∧ p < S 0 0) : f_X5_lengthOf p M = some (S 2 p.toNat, M) := by
  rw [c_lengthOf, if_pos ⟨hp.1, by have := hg.1; omega⟩, (hM.2.2.2.1 p hp.1 hp.2).2.1]
theorem g_forward {M S : Mm} (hM : CG M S) (hg : Okg S) {p : Int} (hp : 0 ≤ p ∧ p < S 0 0) : f_X5_forwardOf p M = some (S 8 p.toNat, M) := by
  rw [c_forwardOf, if_pos ⟨hp.1, by have := hg.1; omega⟩, (hM.2.2.2.1 p hp.1 hp.2).2.2.2.2.1]
theorem g_ruleOther {M S : Mm} (hM : CG M S) (hg : Okg S) {p : Int} (hp : 0 ≤ p ∧ p < S 0 0) : f_X5_ruleOtherOf p M = some (S 10 p.toNat, M) := by
  rw [c_ruleOtherOf, if_pos ⟨hp.1, by have := hg.1; omega⟩, (hM.2.2.2.1 p hp.1 hp.2).2.2.2.2.2.1]
theorem g_symbol {M S : Mm} (hM : CG M S) (hg : Okg S) {p : Int} (hp : 0 ≤ p ∧ p < S 0 0) {j : Int} (hj : 0 ≤ j ∧ j < S 2 p.toNat) : f_X5_symbolOf p j M = some (S 3 (3 * p + j).toNat, M) := by
  have h1 := hg.1
  have h2 := (hg.2.2.2.1 p hp.1 hp.2).2.1
  rw [c_symbolOf (by omega) (by omega), (hM.2.2.2.1 p hp.1 hp.2).2.2.2.2.2.2.2.1 j hj.1 hj.2]
theorem g_childHead {M S : Mm} (hM : CG M S) (hg : Okg S) {p : Int} (hp : 0 ≤ p ∧ p < S 0 0) {c : Int} (hc : 0 ≤ c ∧ c < S 4 p.toNat) : f_X5_childHeadOf p c M = some (S 5 (3 * p + c).toNat, M) := by
  have h1 := hg.1
  have h2 := (hg.2.2.2.1 p hp.1 hp.2).2.1
  have h3 := (hg.2.2.2.1 p hp.1 hp.2).2.2.2.2.1
  rw [c_childHeadOf (by omega) (by omega), (hM.2.2.2.1 p hp.1 hp.2).2.2.1, if_pos hc, (hM.2.2.2.1 p hp.1 hp.2).2.2.2.2.2.2.2.2.1 c hc.1 hc.2]
theorem g_childHead_no {M S : Mm} (hM : CG M S) (hg : Okg S) {p : Int} (hp : 0 ≤ p ∧ p < S 0 0) {c : Int} (hc : ¬ (0 ≤ c ∧ c < S 4 p.toNat)) (hc3 : c < 3) : f_X5_childHeadOf p c M = some (-1, M) := by
  have h1 := hg.1
  rw [c_childHeadOf (by omega) (by omega), (hM.2.2.2.1 p hp.1 hp.2).2.2.1, if_neg hc]