theorem Lp_s {σ β : Type} {body : (σ → Option β) → σ → Option β} {f : Nat} {x : σ} : Lp body (f + 1) x = body (Lp body f) x := rfl
theorem FU_4 : FU = 999999999999996 + 1 + 1 + 1 + 1 := rfl
/-! shown and stand stay within -/
theorem shown_ok {S : Mm} (hg : Okg S) {p : Int} (hp : 0 ≤ p ∧ p < S 0 0) : ∀ h, shown S p h = -1 ∨ (0 ≤ shown S p h ∧ shown S p h < S 0 0) := by
  intro h
  induction h with
  | zero => exact Or.inr hp
  | succ h ih =>
    unfold shown
    rcases ih with e | e
    · rw [if_pos e]; exact Or.inl rfl
    · rw [if_neg (by omega)]
      have := (hg.2.2.2.1 _ e.1 e.2).2.2.2.2.2.2.2.2.1
      rcases this with e2 | e2
      · exact Or.inl e2
      · exact Or.inr ⟨e2.1, e2.2.1⟩
theorem chl_le {S : Mm} (hg : Okg S) {p : Int} (hp : 0 ≤ p ∧ p < S 0 0) : 0 ≤ S 4 p.toNat ∧ S 4 p.toNat ≤ 3 := by
  have := hg.2.2.2.1 _ hp.1 hp.2
  have h1 := this.2.1; have h2 := this.2.2.2.2.1
  omega
theorem stand_ok {S : Mm} (hg : Okg S) {p : Int} (hp : 0 ≤ p ∧ p < S 0 0) : ∀ h c, (0 ≤ c ∧ c < S 4 (shown S p h).toNat ∧ shown S p h ≠ -1 → 0 ≤ stand S p h c ∧ stand S p h c < S 4 p.toNat) ∧ (¬ (0 ≤ c ∧ c < S 4 (shown S p h).toNat ∧ shown S p h ≠ -1) → stand S p h c = -1) := by
  intro h
  induction h with
  | zero =>
    intro c
    refine ⟨fun h1 => ?_, fun h1 => ?_⟩
    · have h2 : c < S 4 p.toNat := h1.2.1
      unfold stand; rw [if_pos ⟨h1.1, h2⟩]; exact ⟨h1.1, h2⟩
    · unfold stand
      rw [if_neg (fun q => h1 ⟨q.1, q.2, by show p ≠ -1; omega⟩)]
  | succ h ih =>
    intro c
    refine ⟨fun h1 => ?_, fun h1 => ?_⟩
    · unfold stand
      rw [if_pos ⟨h1.2.2, h1.1, h1.2.1⟩]
      have hs := shown_ok hg hp h
      have h3 : shown S p h ≠ -1 := by
        intro e; apply h1.2.2; unfold shown; rw [if_pos e]
      have hs : 0 ≤ shown S p h ∧ shown S p h < S 0 0 := by rcases hs with e | e; exact absurd e h3; exact e
      have h4 : shown S p (h + 1) = S 8 (shown S p h).toNat := if_neg h3
      have h5 := (hg.2.2.2.1 _ hs.1 hs.2).2.2.2.2.2.2.2.2.1
      rw [h4] at h1
      rcases h5 with e | e
      · exact absurd e h1.2.2
      · have := e.2.2 c h1.1 h1.2.1
        exact (ih _).1 ⟨this.1, this.2, h3⟩
    · unfold stand
      rw [if_neg (fun q => h1 ⟨q.2.1, q.2.2, q.1⟩)]
theorem shown_stop {S : Mm} {p : Int} {h : Nat} (e : shown S p h = -1) : ∀ h', h ≤ h' → shown S p h' = -1 := by
  intro h' hh
  induction h' with
  | zero => have : h = 0 := by omega
            subst this; exact e
  | succ n ih =>
    by_cases h2 : h = n + 1
    · subst h2; exact e
    · unfold shown; rw [if_pos (ih (by omega))]
theorem stand_stop {S : Mm} {p : Int} {h : Nat} (hp : 0 ≤ p) (e : shown S p h = -1) (c : Int) : stand S p h c = -1 := by
  cases h with
  | zero => have : p = -1 := e
            omega
  | succ n => unfold stand; rw [if_neg (fun q => q.1 e)]
/-! the class's views -/
theorem c_arrangeIn {M S : Mm} (hg : Okg S) (hM : CG M S) {p : Int} (hp : 0 ≤ p ∧ p < S 0 0) {h : Nat} (hh : h < 4) (hs : 0 ≤ shown S p h ∧ shown S p h < S 0 0) {b : Int} (hb : b = if h = 0 then -1 else shown S p (h - 1))
    (hpr : ∀ c : Int, 0 ≤ c → c < 3 → 0 < h → M 24 (3 * (4 * p + ((h - 1 : Nat) : Int)) + c).toNat = stand S p (h - 1) c) {J : Int → Int → Mm → Rs} :
    Lp (f_X10_arrangeOne_L39_46 p (4 * p + h) J) FU (b, shown S p h, (h : Int), 0, M) = J (shown S p h) h (sr M 24 fun i => if 3 * (4 * p + h) ≤ (i : Int) ∧ (i : Int) < 3 * (4 * p + h) + S 4 (shown S p h).toNat then stand S p h ((i : Int) - 3 * (4 * p + h)) else M 24 i) := by
  have hc := chl_le hg hs
  have hP := hg.1
  refine Lp_for (S 4 (shown S p h).toNat).toNat (fun j => (b, shown S p h, (h : Int), (j : Int), sr M 24 fun i => if 3 * (4 * p + h) ≤ (i : Int) ∧ (i : Int) < 3 * (4 * p + h) + j then stand S p h ((i : Int) - 3 * (4 * p + h)) else M 24 i)) (fun rc j hj => ?_) (fun rc => ?_) (FU_lt (by omega)) ?_
  · simp only [f_X10_arrangeOne_L39_46]
    rw [g_childCount (hM.sr (by decide) _) hg hs, ClS, if_neg (by omega)]
    have hfin : ∀ (v : Int) (M9 : Mm), M9 = (sr M 24 fun i => if 3 * (4 * p + h) ≤ (i : Int) ∧ (i : Int) < 3 * (4 * p + h) + j then stand S p h ((i : Int) - 3 * (4 * p + h)) else M 24 i) → v = stand S p h j → (Lt (wr ((4 * p + ↑h) * 3)) fun v38 => Lt (wr (v38 + ↑j)) fun v39 => Cl (f_X11_setEntry 24 v39 v M9) fun _ M40 => Lt (wr (↑j + 1)) fun v41 => rc (b, shown S p h, ↑h, v41, M40)) = rc (b, shown S p h, (h : Int), ((j + 1 : Nat) : Int), sr M 24 fun i => if 3 * (4 * p + h) ≤ (i : Int) ∧ (i : Int) < 3 * (4 * p + h) + ((j + 1 : Nat) : Int) then stand S p h ((i : Int) - 3 * (4 * p + h)) else M 24 i) := by
      intro v M9 e9 ev
      subst e9 ev
      simp only [LtE]
      simp (disch := omega) only [wrE]
      rw [c_setEntry_in 120 alenC_24 (by omega) (by omega), ClS]
      refine congrArg rc ?_
      simp only [Prod.mk.injEq, true_and]
      refine ⟨by omega, ?_⟩
      rw [up_sr, sr_sr, sr_at]
      congr 1
      funext i
      by_cases e : i = ((4 * p + (h : Int)) * 3 + j).toNat
      · rw [if_pos e, if_pos (by omega)]
        congr 1; omega
      · rw [if_neg e]
        by_cases e2 : 3 * (4 * p + (h : Int)) ≤ i ∧ (i : Int) < 3 * (4 * p + h) + j
        · rw [if_pos e2, if_pos (by omega)]
        · rw [if_neg e2, if_neg (by omega)]
    by_cases h0 : h = 0
    · subst h0
      simp only [LtE, c_standInOf (p := b) (c := (j : Int)) (by omega), ClS]
      rw [if_neg (by simp)]
      have h9 : (j : Int) < S 4 (shown S p 0).toNat := by omega
      exact hfin _ _ rfl (if_pos (c := 0 ≤ (j : Int) ∧ (j : Int) < S 4 p.toNat) ⟨by omega, h9⟩).symm
    · have hb2 : b = shown S p (h - 1) := by rw [hb, if_neg h0]
      obtain ⟨g, rfl⟩ : ∃ g, h = g + 1 := ⟨h - 1, by omega⟩
      have hs3 := shown_ok hg hp g
      have h3 : shown S p g ≠ -1 := by
        intro e
        have : shown S p (g + 1) = -1 := by unfold shown; rw [if_pos e]
        omega
      have hs3 : 0 ≤ shown S p g ∧ shown S p g < S 0 0 := by rcases hs3 with e | e; exact absurd e h3; exact e
      have hb3 : b = shown S p g := hb2
      clear hb hb2
      subst hb3
      have h4 : shown S p (g + 1) = S 8 (shown S p g).toNat := if_neg h3
      have h5 := (hg.2.2.2.1 _ hs3.1 hs3.2).2.2.2.2.2.2.2.2.1
      have h6 : 0 ≤ S 9 (3 * shown S p g + (j : Int)).toNat ∧ S 9 (3 * shown S p g + (j : Int)).toNat < S 4 (shown S p g).toNat := by
        rcases h5 with e | e
        · omega
        · exact e.2.2 j (by omega) (by rw [← h4]; omega)
      have h7 := chl_le hg hs3
      simp only [LtE, c_standInOf (p := shown S p g) (c := (j : Int)) (by omega), ClS]
      rw [if_pos (by omega), if_pos (by omega), sr_ne _ _ (by decide), hM.2.2.2.2 _ (by omega), wrE (by omega) (by omega), c_childAt (by omega) (by omega) (by omega), ClS, if_pos (by omega)]
      refine hfin _ _ rfl ?_
      rw [sr_at, if_neg (by omega)]
      have := hpr (S 9 (3 * shown S p g + (j : Int)).toNat) h6.1 (by omega) (by omega)
      simp only [Nat.add_sub_cancel] at this
      rw [show 3 * (4 * p + (((g + 1 : Nat) : Int) - 1)) = 3 * (4 * p + (g : Int)) by omega, this]
      conv => rhs; unfold stand
      rw [if_pos ⟨by omega, by omega, by omega⟩]
  · simp only [f_X10_arrangeOne_L39_46]
    rw [g_childCount (hM.sr (by decide) _) hg hs, ClS, if_pos (by omega)]
    congr 2
    funext i
    rw [show (((S 4 (shown S p h).toNat).toNat : Nat) : Int) = S 4 (shown S p h).toNat by omega]
  · simp only [Prod.mk.injEq, true_and]
    refine ⟨rfl, ?_⟩
    conv => lhs; rw [← sr_self M 24]
    congr 1
    funext i
    rw [if_neg (by omega)]
/-- the views of one production are laid, those from h on not yet -/
def VwI (M S : Mm) (p : Int) (h : Nat) (M' : Mm) : Prop :=
  (∀ k, k ≠ 23 → k ≠ 24 → M' k = M k) ∧ (∀ i : Nat, ¬ (4 * p ≤ i ∧ (i : Int) < 4 * p + 4) → M' 23 i = M 23 i) ∧ (∀ i : Nat, ¬ (12 * p ≤ i ∧ (i : Int) < 12 * p + 12) → M' 24 i = M 24 i) ∧
  (∀ g : Nat, g < h → g < 4 → M' 23 (4 * p + g).toNat = shown S p g ∧ ∀ c : Int, 0 ≤ c → c < 3 → M' 24 (3 * (4 * p + g) + c).toNat = stand S p g c) ∧
  (∀ g : Nat, h ≤ g → g < 4 → M' 23 (4 * p + g).toNat = -1 ∧ ∀ c : Int, 0 ≤ c → c < 3 → M' 24 (3 * (4 * p + g) + c).toNat = -1)
theorem c_arrangeOne {M S : Mm} (hg : Okg S) (hM : CG M S) {p : Int} (hp : 0 ≤ p ∧ p < S 0 0) (h0 : VwI M S p 0 M) : Wp (f_X10_arrangeOne p M) fun r => VwI M S p 4 r.2 := by
  unfold f_X10_arrangeOne Lt
  have hP := hg.1
  refine Wp_lp (fun (s : Int × Int × Int × Mm) => ∃ h : Nat, h ≤ 4 ∧ s.2.2.1 = h ∧ s.2.1 = shown S p h ∧ s.1 = (if h = 0 then -1 else shown S p (h - 1)) ∧ VwI M S p h s.2.2.2) (fun s => (4 - s.2.2.1).toNat) ?_ FU _ ⟨0, by decide, rfl, rfl, rfl, h0⟩ (FU_lt (by simp only; omega))
  rintro rc ⟨v3, v4, v5, M'⟩ ⟨h, hh, e5, e4, e3, hI⟩ ih
  simp only at e3 e4 e5 hI
  simp only [f_X10_arrangeOne_L7_47]
  obtain ⟨i1, i2, i3, i4, i5⟩ := hI
  by_cases c1 : 4 ≤ v5
  · rw [if_pos c1]
    have : h = 4 := by omega
    subst this
    exact Wp_some ⟨i1, i2, i3, i4, i5⟩
  rw [if_neg c1]
  by_cases c2 : v4 = -1
  · rw [if_pos c2]
    refine Wp_some ⟨i1, i2, i3, fun g hg4 hg5 => ?_, fun g hg4 hg5 => by omega⟩
    by_cases c3 : g < h
    · exact i4 g c3 hg5
    · have e := shown_stop (by rw [← e4]; exact c2) g (Nat.le_of_not_lt c3)
      have := i5 g (by omega) hg5
      refine ⟨this.1.trans e.symm, fun c hc1 hc2 => ?_⟩
      exact (this.2 c hc1 hc2).trans (stand_stop hp.1 e c).symm
  rw [if_neg c2]
  have hs : 0 ≤ shown S p h ∧ shown S p h < S 0 0 := by
    rcases shown_ok hg hp h with e | e
    · rw [e4] at c2; exact absurd e c2
    · exact e
  have hM' : CG M' S := hM.of fun k hk1 hk2 => i1 k (by omega) (by omega)
  simp (disch := omega) only [LtE, wrE]
  rw [c_setEntry_in 40 alenC_23 (by omega) (by omega), ClS]
  have hM2 : CG (up M' 23 (p * 4 + v5).toNat v4) S := by rw [up_sr]; exact hM'.sr (by decide) _
  rw [e4, e5, show p * 4 + (h : Int) = 4 * p + h by omega] at hM2 ⊢
  rw [e3, c_arrangeIn hg hM2 hp (by omega) hs rfl (fun c hc1 hc2 hh0 => by
    rw [up_ne _ _ _ (by decide)]
    exact (i4 (h - 1) (by omega) (by omega)).2 c hc1 hc2)]
  have hM3 : ∀ f, CG (sr (up M' 23 (4 * p + h).toNat (shown S p h)) 24 f) S := fun f => hM2.sr (by decide) f
  rw [g_forward (hM3 _) hg hs, ClS, wrE (by omega) (by omega)]
  have hc := chl_le hg hs
  refine ih _ ⟨h + 1, by omega, by simp only; omega, ?_, ?_, ?_⟩ (by simp only; omega)
  · simp only
    exact (if_neg (c := shown S p h = -1) (by omega)).symm
  · simp only
    rw [if_neg (by omega), Nat.add_sub_cancel]
  · refine ⟨fun k k1 k2 => ?_, fun i hi => ?_, fun i hi => ?_, fun g g1 g2 => ?_, fun g g1 g2 => ?_⟩
    · simp only
      rw [sr_ne _ _ k2, up_ne _ _ _ k1, i1 k k1 k2]
    · simp only
      rw [sr_ne _ _ (by decide), up_sr, sr_at, if_neg (by omega), i2 i hi]
    · simp only
      rw [sr_at, if_neg (by omega), up_ne _ _ _ (by decide), i3 i hi]
    · simp only
      rw [sr_ne _ _ (by decide), up_sr, sr_at]
      by_cases c3 : g = h
      · subst c3
        refine ⟨by rw [if_pos rfl], fun c hc1 hc2 => ?_⟩
        rw [sr_at]
        by_cases c4 : c < S 4 (shown S p g).toNat
        · rw [if_pos (by omega)]
          congr 1; omega
        · rw [if_neg (by omega), sr_ne _ _ (by decide), (i5 g (by omega) g2).2 c hc1 hc2]
          exact ((stand_ok hg hp g c).2 (fun q => c4 q.2.1)).symm
      · have := i4 g (by omega) g2
        refine ⟨by rw [if_neg (by omega), this.1], fun c hc1 hc2 => ?_⟩
        rw [sr_at, if_neg (by omega), sr_ne _ _ (by decide), this.2 c hc1 hc2]
    · simp only
      rw [sr_ne _ _ (by decide), up_sr, sr_at]
      have := i5 g (by omega) g2
      refine ⟨by rw [if_neg (by omega), this.1], fun c hc1 hc2 => ?_⟩
      rw [sr_at, if_neg (by omega), sr_ne _ _ (by decide), this.2 c hc1 hc2]
theorem c_viewsArrange {M S : Mm} (hg : Okg S) (hM : CG M S) : Wp (f_X10_arrange M) fun r => (∀ k, k ≠ 23 → k ≠ 24 → r.2 k = M k) ∧ CVw r.2 S := by
  unfold f_X10_arrange Lt
  have hP := hg.1
  rw [c_fillRow, ClS, c_fillRow, ClS]
  generalize hM0 : (sr (sr M 23 fun j => if j < alenC 23 then -1 else M 23 j) 24 fun j => if j < alenC 24 then -1 else (sr M 23 fun j => if j < alenC 23 then -1 else M 23 j) 24 j) = M0
  have f1 : ∀ k, k ≠ 23 → k ≠ 24 → M0 k = M k := fun k k1 k2 => by rw [← hM0, sr_ne _ _ k2, sr_ne _ _ k1]
  have f2 : ∀ i, i < 40 → M0 23 i = -1 := fun i hi => by rw [← hM0, sr_ne _ _ (by decide), sr_at, alenC_23, if_pos hi]
  have f3 : ∀ i, i < 120 → M0 24 i = -1 := fun i hi => by rw [← hM0, sr_at, alenC_24, if_pos hi]
  refine Wp_lp (fun (s : Int × Mm) => ∃ p : Nat, (p : Int) ≤ S 0 0 ∧ s.1 = p ∧ (∀ k, k ≠ 23 → k ≠ 24 → s.2 k = M k) ∧ (∀ q : Int, 0 ≤ q → q < p → VwI M S q 4 s.2 ∨ ∀ h : Nat, h < 4 → s.2 23 (4 * q + h).toNat = shown S q h ∧ ∀ c : Int, 0 ≤ c → c < 3 → s.2 24 (3 * (4 * q + h) + c).toNat = stand S q h c) ∧ (∀ i : Nat, 4 * p ≤ i → i < 40 → s.2 23 i = -1) ∧ (∀ i : Nat, 12 * p ≤ i → i < 120 → s.2 24 i = -1)) (fun s => (S 0 0 - s.1).toNat) ?_ FU _ ⟨0, by omega, rfl, f1, fun q q1 q2 => by omega, fun i _ hi => f2 i hi, fun i _ hi => f3 i hi⟩ (FU_lt (by simp only; omega))
  rintro rc ⟨v5, M'⟩ ⟨p, hp, e5, i1, i2, i3, i4⟩ ih
  simp only at e5 i1 i2 i3 i4
  simp only [f_X10_arrange_L18_12, LtE]
  have hM' : CG M' S := hM.of fun k hk1 hk2 => i1 k (by omega) (by omega)
  rw [hM'.1]
  by_cases c1 : S 0 0 ≤ v5
  · rw [if_pos c1]
    refine Wp_some ⟨i1, fun q q1 q2 h hh => ?_⟩
    rcases i2 q q1 (by omega) with e | e
    · exact e.2.2.2.1 h hh hh
    · exact e h hh
  rw [if_neg c1, e5]
  have hq : 0 ≤ (p : Int) ∧ (p : Int) < S 0 0 := by omega
  refine Wp_Cl (Wp_mono (c_arrangeOne (M := M') hg hM' hq ⟨fun _ _ _ => rfl, fun _ _ => rfl, fun _ _ => rfl, fun g hg => by omega, fun g _ hg4 => ⟨i3 _ (by omega) (by omega), fun c hc1 hc2 => i4 _ (by omega) (by omega)⟩⟩) ?_)
  rintro ⟨v, M2⟩ ⟨j1, j2, j3, j4, -⟩
  simp only at j1 j2 j3 j4 ⊢
  rw [wrE (by omega) (by omega)]
  refine ih _ ⟨p + 1, by omega, by simp only; omega, fun k k1 k2 => by simp only; rw [j1 k k1 k2, i1 k k1 k2], fun q q1 q2 => Or.inr fun h hh => ?_, fun i hi1 hi2 => ?_, fun i hi1 hi2 => ?_⟩ (by simp only; omega)
  · simp only
    by_cases c2 : q = p
    · subst c2
      exact j4 h hh hh
    · have hold : ∀ h : Nat, h < 4 → M' 23 (4 * q + h).toNat = shown S q h ∧ ∀ c : Int, 0 ≤ c → c < 3 → M' 24 (3 * (4 * q + h) + c).toNat = stand S q h c := by
        rcases i2 q q1 (by omega) with e | e
        · exact fun h hh => e.2.2.2.1 h hh hh
        · exact e
      refine ⟨by rw [j2 _ (by omega), (hold h hh).1], fun c hc1 hc2 => ?_⟩
      rw [j3 _ (by omega), (hold h hh).2 c hc1 hc2]
  · simp only
    rw [j2 _ (by omega), i3 i (by omega) hi2]
  · simp only
    rw [j3 _ (by omega), i4 i (by omega) hi2]
theorem v_childAt {M S : Mm} (hg : Okg S) (hV : CVw M S) {p : Int} (hp : 0 ≤ p ∧ p < S 0 0) {h : Nat} (hh : h < 4) {c : Int} (hc : -100 < c ∧ c < 2000) : f_X10_childAt p h c M = some (stand S p h c, M) := by
  have hP := hg.1
  rw [c_childAt (by omega) (by omega) hc]
  by_cases h1 : 0 ≤ c ∧ c < 3
  · rw [if_pos (by omega), (hV p hp.1 hp.2 h hh).2 c h1.1 h1.2]
  · rw [if_neg (by omega)]
    have hs := shown_ok hg hp h
    rw [(stand_ok hg hp h c).2 ?_]
    rintro ⟨q1, q2, q3⟩
    rcases hs with e | e
    · exact q3 e
    · have := chl_le hg e
      omega
theorem v_productionAt {M S : Mm} (hg : Okg S) (hV : CVw M S) {p : Int} (hp : 0 ≤ p ∧ p < S 0 0) {h : Nat} (hh : h < 4) : f_X10_productionAt p h M = some (shown S p h, M) := by
  have hP := hg.1
  rw [c_productionAt (by omega) (by omega), if_pos (by omega), (hV p hp.1 hp.2 h hh).1]
theorem v_targetAt {M S : Mm} (hg : Okg S) (hV : CVw M S) {p : Int} (hp : 0 ≤ p ∧ p < S 0 0) {h : Nat} (hh : h < 4) (t : Int) : f_X10_targetAt p h t M = some (there S p h t, M) := by
  unfold f_X10_targetAt there
  simp only [LtE]
  by_cases ht : t < 0
  · rw [if_neg (by omega), if_pos ht]
  rw [if_pos (by omega), if_neg ht, FU_4, Lp_s]
  simp only [f_X10_targetAt_L9_15, LtE]
  rw [if_neg (by decide), show (0 : Int) = ((0 : Nat) : Int) from rfl, v_childAt hg hV hp hh (by decide), ClS]
  simp only [Int.ofNat_eq_natCast, Int.natCast_zero] at *
  by_cases h0 : stand S p h 0 = t
  · rw [if_neg (by simpa using h0), if_pos h0]
  rw [if_pos (by simpa using h0), if_neg h0, Lp_s, wrE (by decide) (by decide)]
  simp only [f_X10_targetAt_L9_15, LtE]
  rw [if_neg (by decide), v_childAt hg hV hp hh (by decide), ClS]
  by_cases h1 : stand S p h 1 = t
  · rw [if_neg (by simpa using h1), if_pos h1]; rfl
  rw [if_pos (by simpa using h1), if_neg h1, Lp_s, wrE (by decide) (by decide)]
  simp only [f_X10_targetAt_L9_15, LtE]
  rw [if_neg (by decide), v_childAt hg hV hp hh (by decide), ClS]
  by_cases h2 : stand S p h 2 = t
  · rw [if_neg (by simpa using h2), if_pos h2]; rfl
  rw [if_pos (by simpa using h2), if_neg h2, Lp_s, wrE (by decide) (by decide)]
  simp only [f_X10_targetAt_L9_15]
  rw [if_pos (by decide)]
/-! one, none or several -/
def Ono (P : Nat → Bool) (lo hi : Nat) (e : Int) : Prop :=
  (e = -1 ∧ ∀ k, lo ≤ k → k < hi → P k = false) ∨ (∃ k : Nat, e = k ∧ lo ≤ k ∧ k < hi ∧ P k = true ∧ ∀ k', lo ≤ k' → k' < hi → P k' = true → k' = k) ∨ (e = -3 ∧ ∃ k k' : Nat, k ≠ k' ∧ lo ≤ k ∧ k < hi ∧ lo ≤ k' ∧ k' < hi ∧ P k = true ∧ P k' = true)
theorem Ono.uniq {P : Nat → Bool} {lo hi : Nat} {e e' : Int} (h : Ono P lo hi e) (h' : Ono P lo hi e') : e = e' := by
  rcases h with ⟨a1, a2⟩ | ⟨k, a1, a2, a3, a4, a5⟩ | ⟨a1, k, k', a2, a3, a4, a5, a6, a7, a8⟩ <;> rcases h' with ⟨b1, b2⟩ | ⟨m, b1, b2, b3, b4, b5⟩ | ⟨b1, m, m', b2, b3, b4, b5, b6, b7, b8⟩
  · rw [a1, b1]
  · have := a2 m b2 b3; rw [b4] at this; cases this
  · have := a2 m b3 b4; rw [b7] at this; cases this
  · have := b2 k a2 a3; rw [a4] at this; cases this
  · have := b5 k a2 a3 a4; rw [a1, b1, this]
  · have h1 := a5 m b3 b4 b7; have h2 := a5 m' b5 b6 b8; omega
  · have := b2 k a3 a4; rw [a7] at this; cases this
  · have h1 := b5 k a3 a4 a7; have h2 := b5 k' a5 a6 a8; omega
  · rw [a1, b1]
theorem sgl_ono (P : Nat → Bool) : ∀ n, Ono P 0 n (sgl P n) := by
  intro n
  induction n with
  | zero => exact Or.inl ⟨rfl, fun k _ hk => absurd hk (Nat.not_lt_zero _)⟩
  | succ n ih =>
    unfold sgl
    by_cases hP : P n = true
    · rw [if_pos hP]
      rcases ih with ⟨a1, a2⟩ | ⟨k, a1, a2, a3, a4, a5⟩ | ⟨a1, k, k', a2, a3, a4, a5, a6, a7, a8⟩
      · rw [if_pos a1]
        refine Or.inr (Or.inl ⟨n, rfl, by omega, by omega, hP, fun k' h1 h2 h3 => ?_⟩)
        by_cases e : k' = n
        · exact e
        · have := a2 k' h1 (by omega); rw [h3] at this; cases this
      · rw [if_neg (by omega)]
        exact Or.inr (Or.inr ⟨rfl, k, n, by omega, by omega, by omega, by omega, by omega, a4, hP⟩)
      · rw [if_neg (by omega)]
        exact Or.inr (Or.inr ⟨rfl, k, k', a2, a3, by omega, a5, by omega, a7, a8⟩)
    · rw [if_neg hP]
      have hP : P n = false := by simpa using hP
      rcases ih with ⟨a1, a2⟩ | ⟨k, a1, a2, a3, a4, a5⟩ | ⟨a1, k, k', a2, a3, a4, a5, a6, a7, a8⟩
      · refine Or.inl ⟨a1, fun k h1 h2 => ?_⟩
        by_cases e : k = n
        · rw [e]; exact hP
        · exact a2 k h1 (by omega)
      · refine Or.inr (Or.inl ⟨k, a1, a2, by omega, a4, fun k' h1 h2 h3 => ?_⟩)
        by_cases e : k' = n
        · rw [e] at h3; rw [h3] at hP; cases hP
        · exact a5 k' h1 (by omega) h3
      · exact Or.inr (Or.inr ⟨a1, k, k', a2, a3, by omega, a5, by omega, a7, a8⟩)
/-- from the last one back -/
theorem ono_down {P : Nat → Bool} {j hi : Nat} {e : Int} (hj : j < hi) (h : Ono P (j + 1) hi e) : Ono P j hi (if P j then (if e = -1 then (j : Int) else -3) else e) := by
  by_cases hP : P j = true
  · rw [if_pos hP]
    rcases h with ⟨a1, a2⟩ | ⟨k, a1, a2, a3, a4, a5⟩ | ⟨a1, k, k', a2, a3, a4, a5, a6, a7, a8⟩
    · rw [if_pos a1]
      refine Or.inr (Or.inl ⟨j, rfl, by omega, by omega, hP, fun k' h1 h2 h3 => ?_⟩)
      by_cases e : k' = j
      · exact e
      · have := a2 k' (by omega) h2; rw [h3] at this; cases this
    · rw [if_neg (by omega)]
      exact Or.inr (Or.inr ⟨rfl, k, j, by omega, by omega, by omega, by omega, by omega, a4, hP⟩)
    · rw [if_neg (by omega)]
      exact Or.inr (Or.inr ⟨rfl, k, k', a2, by omega, a4, by omega, a6, a7, a8⟩)
  · rw [if_neg hP]
    have hP : P j = false := by simpa using hP
    rcases h with ⟨a1, a2⟩ | ⟨k, a1, a2, a3, a4, a5⟩ | ⟨a1, k, k', a2, a3, a4, a5, a6, a7, a8⟩
    · refine Or.inl ⟨a1, fun k h1 h2 => ?_⟩
      by_cases e : k = j
      · rw [e]; exact hP
      · exact a2 k (by omega) h2
    · refine Or.inr (Or.inl ⟨k, a1, by omega, a3, a4, fun k' h1 h2 h3 => ?_⟩)
      by_cases e : k' = j
      · rw [e] at h3; rw [h3] at hP; cases hP
      · exact a5 k' (by omega) h2 h3
    · exact Or.inr (Or.inr ⟨a1, k, k', a2, by omega, a4, by omega, a6, a7, a8⟩)
theorem gift_down {S : Mm} {p a : Int} {j : Nat} (hj : (j : Int) < S 0 19) : gift S p a j = if mt S p a (-2) j then (j : Int) else gift S p a (j + 1) := by
  unfold gift
  rw [show (S 0 19).toNat - j = ((S 0 19).toNat - (j + 1)) + 1 by omega]
  rfl
theorem gift_end {S : Mm} {p a : Int} {j : Nat} (hj : S 0 19 ≤ j) : gift S p a j = -1 := by
  unfold gift
  rw [show (S 0 19).toNat - j = 0 by omega]
  rfl
theorem mt_iff {S : Mm} {p a t : Int} {k : Nat} : mt S p a t k = true ↔ S 16 k = p ∧ S 17 k = a ∧ S 18 k = t ∧ S 27 (S 19 k).toNat = 0 := by
  unfold mt; simp [and_assoc]
theorem CE.of {M M' S : Mm} (h : CE M S) (e : ∀ k, 25 ≤ k → k < 273 → k ≠ 26 → ¬ (28 ≤ k ∧ k ≤ 32) → M' k = M k) (h19 : S 0 19 ≤ 30) : CE M' S := by
  obtain ⟨h1, h2, h3⟩ := h
  refine ⟨by rw [e 25 (by decide) (by decide) (by decide) (by decide)]; exact h1, fun i hi => by rw [e 27 (by decide) (by decide) (by decide) (by decide)]; exact h2 i hi, fun k hk => ?_⟩
  have hr : ∀ j, j < 8 → M' (33 + 8 * k + j) = M (33 + 8 * k + j) := fun j hj => e _ (by omega) (by omega) (by omega) (by omega)
  have := h3 k hk
  unfold CSt at this ⊢
  rw [show 33 + 8 * k = 33 + 8 * k + 0 by rfl] at this ⊢
  rw [hr 0 (by decide)]
  simp only [Nat.add_zero] at this ⊢
  rw [hr 1 (by decide), hr 2 (by decide), hr 3 (by decide), hr 4 (by decide), hr 5 (by decide), hr 6 (by decide)]
  exact this
theorem e_rowOf {M S : Mm} (hE : CE M S) (hO : Oke S) {k : Nat} (hk : (k : Int) < S 0 19) : f_X1_rowOf k M = some (((33 + 8 * k : Nat) : Int), M) := by
  have := hO.1
  rw [c_rowOf, hE.1, if_pos (by omega)]; rfl
theorem e_counts {M S : Mm} (hE : CE M S) (hO : Oke S) {k : Nat} (hk : (k : Int) < S 0 19) : f_X1_counts (33 + 8 * k) M = some (if S 27 (S 19 k).toNat = 0 then 1 else 0, M) := by
  have h1 := hE.2.2 k hk
  have h2 := (hO.2.1 k hk).2.2.1
  rw [c_counts, h1.2.2.2.1, hE.2.1 _ (by omega)]
  congr 2
  by_cases h : S 27 (S 19 k).toNat = 0
  · rw [if_pos (by omega), if_pos h]
  · rw [if_neg (by omega), if_neg h]
def SgI (M S : Mm) (j : Nat) (M' : Mm) : Prop :=
  (∀ k, k ≠ 28 → k ≠ 31 → k ≠ 32 → M' k = M k) ∧
  (∀ p : Int, 0 ≤ p → p < S 0 0 → ∀ a : Int, 0 ≤ a → a < S 0 12 → ∀ t : Int, -1 ≤ t → t < 3 → Ono (mt S p a t) j (S 0 19).toNat (M' 28 (plc p a t))) ∧
  (∀ p : Int, 0 ≤ p → p < S 0 0 → ∀ a : Int, 0 ≤ a → a < S 0 12 → M' 31 (6 * p + a).toNat = gift S p a j) ∧
  (∀ k : Nat, j ≤ k → (k : Int) < S 0 19 → mt S (S 16 k) (S 17 k) (-2) k = true → M' 32 k = gift S (S 16 k) (S 17 k) (k + 1))
theorem isE_k {k : Nat} (hk : k < 30) : isE (33 + 8 * k) := by right; omega
theorem c_arrangeEq {M0 M S : Mm} (hg : Okg S) (hO : Oke S) (hE : CE M S) {j : Nat} (hj : (j : Int) < S 0 19) (hI : SgI M0 S (j + 1) M) (hon : S 27 (S 19 j).toNat = 0) : Wp (f_X1_arrangeOne (33 + 8 * j) j M) fun r => SgI M0 S j r.2 := by
  have hk := hE.2.2 j hj
  obtain ⟨o1, o2, o3, o4, o5, -⟩ := hO.2.1 j hj
  have hn := hO.1
  have hP := hg.1
  have hA := hg.2.1
  obtain ⟨i1, i2, i3, i4⟩ := hI
  simp only [f_X1_arrangeOne, LtE]
  rw [hk.1, hk.2.1, hk.2.2.1]
  simp (disch := omega) only [wrE]
  have ht : S 18 j = -2 ∨ (-1 ≤ S 18 j ∧ S 18 j < 3) := by
    split at o5
    · have := chl_le hg o1; omega
    · split at o5 <;> omega
  rcases ht with ht | ht
  · rw [if_neg (by simpa using ht), c_entryOf_in 60 alenC_31 (by omega) (by omega), ClS, c_setEntry_in 30 alenC_32 (by omega) (by omega), ClS, c_setEntry_in 60 alenC_31 (by omega) (by omega), ClS]
    refine Wp_some ⟨fun k k1 k2 k3 => ?_, fun p p1 p2 a a1 a2 t t1 t2 => ?_, fun p p1 p2 a a1 a2 => ?_, fun k k1 k2 k3 => ?_⟩
    · simp only; rw [up_ne _ _ _ k2, up_ne _ _ _ k3, i1 k k1 k2 k3]
    · simp only; rw [up_ne _ _ _ (by decide), up_ne _ _ _ (by decide)]
      have h9 := ono_down (by omega) (i2 p p1 p2 a a1 a2 t t1 t2)
      rw [if_neg (by rw [mt_iff]; omega)] at h9
      exact h9
    · simp only; rw [up_sr, sr_at, up_ne _ _ _ (by decide)]
      rw [gift_down hj]
      by_cases e : S 16 j = p ∧ S 17 j = a
      · rw [if_pos (by omega), if_pos (mt_iff.mpr ⟨e.1, e.2, ht, hon⟩)]
      · rw [if_neg (by omega), i3 p p1 p2 a a1 a2, if_neg (by rw [mt_iff]; omega)]
    · simp only; rw [up_ne _ _ _ (by decide), up_sr, sr_at]
      by_cases e : k = j
      · subst e
        rw [if_pos (by omega)]
        have := i3 _ o1.1 o1.2 _ o2.1 o2.2
        rw [show S 16 k * 6 + S 17 k = 6 * S 16 k + S 17 k by omega, this]
      · rw [if_neg (by omega), i4 k (by omega) k2 k3]
  · rw [if_pos (by omega), c_placeOf (by omega) (by omega), ClS, if_pos (by omega), c_entryOf_in 240 alenC_28 (by omega) (by omega), ClS]
    have hfin : ∀ v : Int, v = (if M 28 (plc (S 16 j) (S 17 j) (S 18 j)) = -1 then (j : Int) else -3) → Wp (Cl (f_X11_setEntry 28 ((S 16 j * 6 + S 17 j) * 4 + S 18 j + 1) v M) fun _ M17 => some ((0 : Int), M17)) fun r => SgI M0 S j r.2 := by
      intro v ev
      rw [c_setEntry_in 240 alenC_28 (by omega) (by omega), ClS]
      refine Wp_some ⟨fun k k1 k2 k3 => ?_, fun p p1 p2 a a1 a2 t t1 t2 => ?_, fun p p1 p2 a a1 a2 => ?_, fun k k1 k2 k3 => ?_⟩
      · simp only; rw [up_ne _ _ _ k1, i1 k k1 k2 k3]
      · simp only; rw [up_sr, sr_at]
        have h9 := ono_down (by omega) (i2 p p1 p2 a a1 a2 t t1 t2)
        by_cases e : S 16 j = p ∧ S 17 j = a ∧ S 18 j = t
        · rw [if_pos (by unfold plc; omega)]
          rw [if_pos (mt_iff.mpr ⟨e.1, e.2.1, e.2.2, hon⟩)] at h9
          rw [ev, e.1, e.2.1, e.2.2]; exact h9
        · rw [if_neg (by unfold plc; omega)]
          rw [if_neg (by rw [mt_iff]; omega)] at h9
          exact h9
      · simp only; rw [up_ne _ _ _ (by decide), i3 p p1 p2 a a1 a2, gift_down hj, if_neg (by rw [mt_iff]; omega)]
      · simp only; rw [up_ne _ _ _ (by decide)]
        by_cases e : k = j
        · subst e; rw [mt_iff] at k3; omega
        · exact i4 k (by omega) k2 k3
    by_cases e : M 28 (plc (S 16 j) (S 17 j) (S 18 j)) = -1
    · rw [if_neg (by unfold plc at e; simpa using e)]
      exact hfin _ (by rw [if_pos e])
    · rw [if_pos (by unfold plc at e; exact e)]
      exact hfin _ (by rw [if_neg e])
theorem sg_far {S : Mm} (hO : Oke S) (p a : Int) : sg S p a (-9) = -1 := by
  refine (sgl_ono _ _).uniq (Or.inl ⟨rfl, fun k _ hk => ?_⟩)
  have hk : (k : Int) < S 0 19 := by omega
  obtain ⟨o1, o2, o3, o4, o5, -⟩ := hO.2.1 k hk
  by_cases e : mt S p a (-9) k = true
  · rw [mt_iff] at e
    split at o5
    · omega
    · split at o5 <;> omega
  · simpa using e
theorem c_resolve {M S : Mm} (hg : Okg S) (hO : Oke S) (hV : CVw M S) (hS : CSg M S) {p a t : Int} (hp : 0 ≤ p ∧ p < S 0 0) (ha : 0 ≤ a ∧ a < S 0 12) (ht : -1 ≤ t ∧ t < 3) :
    Wp (f_X1_resolve p a t M) fun r => (∀ k, k ≠ 29 → k ≠ 30 → r.2 k = M k) ∧ (∀ i, i ≠ plc p a t → r.2 29 i = M 29 i ∧ r.2 30 i = M 30 i) ∧ r.2 29 (plc p a t) = rsv S p a t ∧ (rsv S p a t ≠ -1 → r.2 30 (plc p a t) = (rsh S p a t : Int)) := by
  have hP := hg.1
  have hA := hg.2.1
  have hpl : plc p a t < 240 := by unfold plc; omega
  have hpl2 : (((p * 6 + a) * 4 + t + 1).toNat) = plc p a t := rfl
  simp only [f_X1_resolve, LtE]
  rw [c_placeOf (by omega) (by omega), ClS, if_pos (by omega), c_setEntry_in 240 alenC_29 (by omega) (by omega), ClS, hpl2]
  have hsr : up M 29 (plc p a t) (-1) = sr M 29 (se (M 29) (plc p a t) (-1)) := up_se _ _ _ _
  generalize hM1 : up M 29 (plc p a t) (-1) = M1
  rw [hM1] at hsr
  have hV1 : CVw M1 S := by
    rw [hsr]; unfold CVw; rw [sr_ne _ _ (by decide), sr_ne _ _ (by decide)]; exact hV
  have hS1 : CSg M1 S := by
    rw [hsr]; unfold CSg; rw [sr_ne _ _ (by decide)]; exact hS
  have hbase : ∀ h : Nat, h < 4 → ∀ {α : Type} (k : Int → Int → Mm → Option α), (Cl (f_X10_productionAt p h M1) fun v17 M16 => Cl (f_X10_targetAt p h t M16) fun v19 M18 => Cl (f_X1_placeOf v17 a v19 M18) fun v21 M20 => Cl (f_X11_entryOf 28 v21 M20) fun v23 M22 => k v21 v23 M22) = k (if 0 ≤ shown S p h ∧ 0 ≤ a ∧ -1 ≤ there S p h t ∧ there S p h t < 3 then (shown S p h * 6 + a) * 4 + there S p h t + 1 else -1) (sgh S p a t h) M1 := by
    intro h hh α k
    rw [v_productionAt hg hV1 hp hh, ClS, v_targetAt hg hV1 hp hh, ClS]
    have hs := shown_ok hg hp h
    have hth : there S p h t = -9 ∨ (-1 ≤ there S p h t ∧ there S p h t < 3) := by
      unfold there; repeat' split
      all_goals omega
    rw [c_placeOf (by omega) (by omega), ClS, c_entryOf, ClS, alenC_28]
    congr 1
    unfold sgh
    rcases hs with e | e
    · rw [if_neg (by omega), if_pos e]
    · rw [if_neg (c := shown S p h = -1) (by omega)]
      rcases hth with e2 | e2
      · rw [if_neg (c := 0 ≤ shown S p h ∧ _) (by omega), if_neg (by omega), e2, sg_far hO]
      · rw [if_pos (by omega), if_pos (by omega)]
        exact hS1 _ e.1 e.2 a ha.1 ha.2 _ e2.1 e2.2
  have hfin : ∀ h : Nat, h < 4 → rsh S p a t = h → sgh S p a t h ≠ -1 → Wp (Cl (f_X11_setEntry 29 ((p * 6 + a) * 4 + t + 1) (sgh S p a t h) M1) fun _ M10 => Cl (f_X11_setEntry 30 ((p * 6 + a) * 4 + t + 1) h M10) fun _ M11 => some ((0 : Int), M11)) fun r => (∀ k, k ≠ 29 → k ≠ 30 → r.2 k = M k) ∧ (∀ i, i ≠ plc p a t → r.2 29 i = M 29 i ∧ r.2 30 i = M 30 i) ∧ r.2 29 (plc p a t) = rsv S p a t ∧ (rsv S p a t ≠ -1 → r.2 30 (plc p a t) = (rsh S p a t : Int)) := by
    intro h hh er hne
    rw [c_setEntry_in 240 alenC_29 (by omega) (by omega), ClS, c_setEntry_in 240 alenC_30 (by omega) (by omega), ClS, hpl2]
    refine Wp_some ⟨fun k k1 k2 => ?_, fun i hi => ⟨?_, ?_⟩, ?_, fun _ => ?_⟩
    · simp only; rw [up_ne _ _ _ k2, up_ne _ _ _ k1, hsr, sr_ne _ _ k1]
    · simp only; rw [up_ne _ _ _ (by decide), up_se, sr_at, se_ne _ _ hi, hsr, sr_at, se_ne _ _ hi]
    · simp only; rw [up_se, sr_at, se_ne _ _ hi, up_ne _ _ _ (by decide), hsr, sr_ne _ _ (by decide)]
    · simp only; rw [up_ne _ _ _ (by decide), up_at]; unfold rsv; rw [er]
    · simp only; rw [up_at, er]
  have hnone : (∀ h : Nat, h < 4 → sgh S p a t h = -1) → Wp (some ((0 : Int), M1)) fun r => (∀ k, k ≠ 29 → k ≠ 30 → r.2 k = M k) ∧ (∀ i, i ≠ plc p a t → r.2 29 i = M 29 i ∧ r.2 30 i = M 30 i) ∧ r.2 29 (plc p a t) = rsv S p a t ∧ (rsv S p a t ≠ -1 → r.2 30 (plc p a t) = (rsh S p a t : Int)) := by
    intro hn
    have e0 : rsv S p a t = -1 := by
      unfold rsv; apply hn; unfold rsh; repeat' split
      all_goals decide
    refine Wp_some ⟨fun k k1 k2 => ?_, fun i hi => ⟨?_, ?_⟩, ?_, fun h => absurd e0 h⟩
    · simp only; rw [hsr, sr_ne _ _ k1]
    · simp only; rw [hsr, sr_at, se_ne _ _ hi]
    · simp only; rw [hsr, sr_ne _ _ (by decide)]
    · simp only; rw [hsr, sr_at, se_at, e0]
  have hstep : ∀ {rc : Int × Mm → Rs} {J1 : Mm → Rs} {J2 : Int → Int → Mm → Rs} (h : Nat), h < 4 → f_X1_resolve_L21_26 p a t J1 J2 rc ((h : Int), M1) = if sgh S p a t h = -1 then rc (((h + 1 : Nat) : Int), M1) else J2 h (sgh S p a t h) M1 := by
    intro rc J1 J2 h hh
    simp only [f_X1_resolve_L21_26, LtE]
    rw [if_neg (by omega), hbase h hh (fun v21 v23 M22 => if v23 = -1 then rc (wr ((h : Int) + 1), M22) else J2 h v23 M22), wrE (by omega) (by omega)]
    rfl
  rw [FU_4, Lp_s, show (0 : Int) = ((0 : Nat) : Int) from rfl, hstep 0 (by decide)]
  by_cases h0 : sgh S p a t 0 = -1
  · rw [if_pos h0, Lp_s, hstep 1 (by decide)]
    by_cases h1 : sgh S p a t 1 = -1
    · rw [if_pos h1, Lp_s, hstep 2 (by decide)]
      by_cases h2 : sgh S p a t 2 = -1
      · rw [if_pos h2, Lp_s, hstep 3 (by decide)]
        by_cases h3 : sgh S p a t 3 = -1
        · rw [if_pos h3]
          refine (Wp_lp (fun s => s = (((4 : Nat) : Int), M1)) (fun _ => 0) ?_ 999999999999996 _ rfl (by decide))
          rintro rc s rfl -
          simp only [f_X1_resolve_L21_26]
          rw [if_pos (by decide)]
          refine hnone fun h hh => ?_
          match h, hh with
          | 0, _ => exact h0
          | 1, _ => exact h1
          | 2, _ => exact h2
          | 3, _ => exact h3
        · rw [if_neg h3]
          exact hfin 3 (by decide) (by unfold rsh; rw [if_neg (by simpa using h0), if_neg (by simpa using h1), if_neg (by simpa using h2)]) h3
      · rw [if_neg h2]
        exact hfin 2 (by decide) (by unfold rsh; rw [if_neg (by simpa using h0), if_neg (by simpa using h1), if_pos h2]) h2
    · rw [if_neg h1]
      exact hfin 1 (by decide) (by unfold rsh; rw [if_neg (by simpa using h0), if_pos h1]) h1
  · rw [if_neg h0]
    exact hfin 0 (by decide) (by unfold rsh; rw [if_pos h0]) h0
theorem SgI.skip {M0 M S : Mm} {j : Nat} (hj : (j : Int) < S 0 19) (hI : SgI M0 S (j + 1) M) (hoff : S 27 (S 19 j).toNat ≠ 0) : SgI M0 S j M := by
  obtain ⟨i1, i2, i3, i4⟩ := hI
  refine ⟨i1, fun p p1 p2 a a1 a2 t t1 t2 => ?_, fun p p1 p2 a a1 a2 => ?_, fun k k1 k2 k3 => ?_⟩
  · have h9 := ono_down (by omega) (i2 p p1 p2 a a1 a2 t t1 t2)
    rw [if_neg (by rw [mt_iff]; omega)] at h9
    exact h9
  · rw [i3 p p1 p2 a a1 a2, gift_down hj, if_neg (by rw [mt_iff]; omega)]
  · by_cases e : k = j
    · subst e; rw [mt_iff] at k3; omega
    · exact i4 k (by omega) k2 k3
def RsD (M S : Mm) (p a t : Int) : Prop := ∀ q b u : Int, 0 ≤ q → q < S 0 0 → 0 ≤ b → b < S 0 12 → -1 ≤ u → u < 3 → (q < p ∨ (q = p ∧ (b < a ∨ (b = a ∧ u < t)))) → M 29 (plc q b u) = rsv S q b u ∧ (rsv S q b u ≠ -1 → M 30 (plc q b u) = (rsh S q b u : Int))
theorem c_arrange {M S : Mm} (hg : Okg S) (hO : Oke S) (hM : CG M S) (hE : CE M S) : Wp (f_X1_arrange M) fun r => CV r.2 S ∧ ∀ k, k ≠ 23 → k ≠ 24 → ¬ (28 ≤ k ∧ k ≤ 32) → r.2 k = M k := by
  have hP := hg.1
  have hA := hg.2.1
  have hN := hO.1
  unfold f_X1_arrange
  refine Wp_Cl (Wp_mono (c_viewsArrange hg hM) ?_)
  rintro ⟨v, M1⟩ ⟨f1, hV1⟩
  simp only at f1 hV1 ⊢
  rw [c_fillRow, ClS, c_fillRow, ClS]
  generalize hM3 : (sr (sr M1 28 fun j => if j < alenC 28 then -1 else M1 28 j) 31 fun j => if j < alenC 31 then -1 else (sr M1 28 fun j => if j < alenC 28 then -1 else M1 28 j) 31 j) = M3
  have f3 : ∀ k, k ≠ 28 → k ≠ 31 → M3 k = M1 k := fun k k1 k2 => by rw [← hM3, sr_ne _ _ k2, sr_ne _ _ k1]
  have g28 : ∀ i, i < 240 → M3 28 i = -1 := fun i hi => by rw [← hM3, sr_ne _ _ (by decide), sr_at, alenC_28, if_pos hi]
  have g31 : ∀ i, i < 60 → M3 31 i = -1 := fun i hi => by rw [← hM3, sr_at, alenC_31, if_pos hi]
  have hE3 : CE M3 S := hE.of (fun k k1 k2 k3 k4 => by rw [f3 k (by omega) (by omega), f1 k (by omega) (by omega)]) hN.2
  simp only [LtE]
  rw [hE3.1, wrE (by omega) (by omega)]
  have hI0 : SgI M3 S (S 0 19).toNat M3 := by
    refine ⟨fun _ _ _ _ => rfl, fun p p1 p2 a a1 a2 t t1 t2 => Or.inl ⟨?_, fun k k1 k2 => by omega⟩, fun p p1 p2 a a1 a2 => ?_, fun k k1 k2 => by omega⟩
    · exact g28 _ (by unfold plc; omega)
    · rw [g31 _ (by omega), gift_end (by omega)]
  refine Wp_lp (fun (s : Int × Mm) => ∃ j : Nat, (j : Int) ≤ S 0 19 ∧ s.1 = (j : Int) - 1 ∧ SgI M3 S j s.2) (fun s => (s.1 + 1).toNat) ?_ FU _ ⟨(S 0 19).toNat, by omega, by simp only; omega, hI0⟩ (FU_lt (by simp only; omega))
  rintro rc ⟨v41, M'⟩ ⟨j, hj, ej, hI⟩ ih
  simp only at ej hI ih
  simp only [f_X1_arrange_L30_57, LtE]
  have hE' : CE M' S := hE3.of (fun k k1 k2 k3 k4 => hI.1 k (by omega) (by omega) (by omega)) hN.2
  by_cases c1 : v41 < 0
  · rw [if_pos c1]
    have : j = 0 := by omega
    subst this
    obtain ⟨i1, i2, i3, i4⟩ := hI
    have hG' : CG M' S := hM.of fun k k1 k2 => by rw [i1 k (by omega) (by omega) (by omega), f3 k (by omega) (by omega), f1 k (by omega) (by omega)]
    have hVw' : CVw M' S := by
      unfold CVw; rw [i1 23 (by decide) (by decide) (by decide), i1 24 (by decide) (by decide) (by decide), f3 23 (by decide) (by decide), f3 24 (by decide) (by decide)]; exact hV1
    have hSg' : CSg M' S := fun p p1 p2 a a1 a2 t t1 t2 => (i2 p p1 p2 a a1 a2 t t1 t2).uniq (sgl_ono _ _)
    have hGi' : CGi M' S := ⟨i3, fun k k1 k2 => i4 k (Nat.zero_le _) k1 k2⟩
    have fr : ∀ M9 : Mm, (∀ k, k ≠ 29 → k ≠ 30 → M9 k = M' k) → CVw M9 S ∧ CSg M9 S ∧ CGi M9 S ∧ CG M9 S ∧ ∀ k, k ≠ 23 → k ≠ 24 → ¬ (28 ≤ k ∧ k ≤ 32) → M9 k = M k := by
      intro M9 h9
      refine ⟨?_, ?_, ?_, hG'.of fun k k1 k2 => h9 k (by omega) (by omega), fun k k1 k2 k3 => ?_⟩
      · unfold CVw; rw [h9 23 (by decide) (by decide), h9 24 (by decide) (by decide)]; exact hVw'
      · unfold CSg; rw [h9 28 (by decide) (by decide)]; exact hSg'
      · unfold CGi; rw [h9 31 (by decide) (by decide), h9 32 (by decide) (by decide)]; exact hGi'
      · rw [h9 k (by omega) (by omega), i1 k (by omega) (by omega) (by omega), f3 k (by omega) (by omega), f1 k k1 k2]
    -- the loops that resolve
    refine Wp_lp (fun (s : Int × Mm) => 0 ≤ s.1 ∧ s.1 ≤ S 0 0 ∧ (∀ k, k ≠ 29 → k ≠ 30 → s.2 k = M' k) ∧ RsD s.2 S s.1 0 (-1)) (fun s => (S 0 0 - s.1).toNat) ?_ FU _ ⟨by simp only; omega, by simp only; omega, fun _ _ _ => rfl, fun q b u q1 q2 b1 b2 u1 u2 h => by simp only at h; omega⟩ (FU_lt (by simp only; omega))
    rintro rc ⟨p, M4⟩ ⟨p1, p2, h4, d4⟩ ihp
    simp only at p1 p2 h4 d4 ihp
    simp only [f_X1_arrange_L66_40, LtE]
    rw [(fr M4 h4).2.2.2.1.1]
    by_cases c2 : S 0 0 ≤ p
    · rw [if_pos c2]
      refine Wp_some ⟨⟨(fr M4 h4).1, (fr M4 h4).2.1, (fr M4 h4).2.2.1, fun q q1 q2 b b1 b2 u u1 u2 => d4 q b u q1 q2 b1 b2 u1 u2 (Or.inl (by omega))⟩, (fr M4 h4).2.2.2.2⟩
    rw [if_neg c2]
    refine Wp_lp (fun (s : Int × Int × Mm) => s.1 = p ∧ 0 ≤ s.2.1 ∧ s.2.1 ≤ S 0 12 ∧ (∀ k, k ≠ 29 → k ≠ 30 → s.2.2 k = M' k) ∧ RsD s.2.2 S p s.2.1 (-1)) (fun s => (S 0 12 - s.2.1).toNat) ?_ FU _ ⟨rfl, by simp only; omega, by simp only; omega, h4, d4⟩ (FU_lt (by simp only; omega))
    rintro rc2 ⟨p', a, M5⟩ ⟨ep, a1, a2, h5, d5⟩ iha
    simp only at ep a1 a2 h5 d5 iha
    subst ep
    simp only [f_X1_arrange_L79_39, LtE]
    rw [(fr M5 h5).2.2.2.1.2.1]
    by_cases c3 : S 0 12 ≤ a
    · rw [if_pos c3, wrE (by omega) (by omega)]
      refine ihp _ ⟨by simp only; omega, by simp only; omega, h5, fun q b u q1 q2 b1 b2 u1 u2 h => d5 q b u q1 q2 b1 b2 u1 u2 (by simp only at h; omega)⟩ (by simp only; omega)
    rw [if_neg c3]
    refine Wp_lp (fun (s : Int × Int × Int × Mm) => s.1 = p' ∧ s.2.1 = a ∧ -1 ≤ s.2.2.1 ∧ s.2.2.1 ≤ 3 ∧ (∀ k, k ≠ 29 → k ≠ 30 → s.2.2.2 k = M' k) ∧ RsD s.2.2.2 S p' a s.2.2.1) (fun s => (3 - s.2.2.1).toNat) ?_ FU _ ⟨rfl, rfl, by simp only; omega, by simp only; omega, h5, d5⟩ (FU_lt (by simp only; omega))
    rintro rc3 ⟨p'', a'', t, M6⟩ ⟨ep, ea, t1, t2, h6, d6⟩ iht
    simp only at ep ea t1 t2 h6 d6 iht
    subst ep ea
    simp only [f_X1_arrange_L92_38]
    by_cases c4 : 3 ≤ t
    · rw [if_pos c4, wrE (by omega) (by omega)]
      refine iha _ ⟨rfl, by simp only; omega, by simp only; omega, h6, fun q b u q1 q2 b1 b2 u1 u2 h => d6 q b u q1 q2 b1 b2 u1 u2 (by simp only at h; omega)⟩ (by simp only; omega)
    rw [if_neg c4]
    refine Wp_Cl (Wp_mono (c_resolve hg hO (fr M6 h6).1 (fr M6 h6).2.1 (p := p'') (a := a'') (t := t) (by omega) (by omega) (by omega)) ?_)
    rintro ⟨v7, M7⟩ ⟨r1, r2, r3, r4⟩
    simp only at r1 r2 r3 r4 ⊢
    rw [wrE (by omega) (by omega)]
    refine iht _ ⟨rfl, rfl, by simp only; omega, by simp only; omega, fun k k1 k2 => by simp only; rw [r1 k k1 k2, h6 k k1 k2], fun q b u q1 q2 b1 b2 u1 u2 h => ?_⟩ (by simp only; omega)
    simp only at h ⊢
    by_cases e : q = p'' ∧ b = a'' ∧ u = t
    · obtain ⟨rfl, rfl, rfl⟩ := e
      exact ⟨r3, r4⟩
    · rw [(r2 (plc q b u) (by unfold plc; omega)).1, (r2 (plc q b u) (by unfold plc; omega)).2]
      exact d6 q b u q1 q2 b1 b2 u1 u2 (by omega)
  rw [if_neg c1]
  obtain ⟨i, rfl⟩ : ∃ i, j = i + 1 := ⟨j - 1, by omega⟩
  have ei : v41 = (i : Int) := by omega
  subst ei
  rw [e_rowOf hE' hO (by omega), ClS]
  rw [if_neg (by omega), gdE ⟨by omega, by rw [Int.toNat_natCast]; exact isE_k (by omega)⟩, Int.toNat_natCast, e_counts hE' hO (by omega), ClS]
  have hnext : ∀ M8, SgI M3 S i M8 → Wp (rc ((i : Int) + -1, M8)) fun r => CV r.2 S ∧ ∀ k, k ≠ 23 → k ≠ 24 → ¬ (28 ≤ k ∧ k ≤ 32) → r.2 k = M k := fun M8 h8 => ih _ ⟨i, by omega, by simp only; omega, h8⟩ (by simp only; omega)
  by_cases c5 : S 27 (S 19 i).toNat = 0
  · rw [if_pos c5, if_neg (by decide)]
    refine Wp_Cl (Wp_mono (c_arrangeEq hg hO hE' (j := i) (by omega) hI c5) ?_)
    rintro ⟨v8, M8⟩ h8
    simp only at h8 ⊢
    rw [wrE (by omega) (by omega)]
    exact hnext M8 h8
  · rw [if_neg c5, if_pos rfl, wrE (by omega) (by omega)]
    exact hnext M' (hI.skip (by omega) c5)
theorem c_followGrammar {M S : Mm} (hg : Okg S) (hO : Oke S) (hM : CG M S) (hE : CE M S) : Wp (f_X11_followGrammar M) fun r => CV r.2 S ∧ (∀ k, k ≠ 23 → k ≠ 24 → ¬ (28 ≤ k ∧ k ≤ 32) → k ≠ 301 → k ≠ 676 → r.2 k = M k) ∧ (∀ i, i < 180 → r.2 301 i = 0) ∧ r.2 676 6 = 0 := by
  unfold f_X11_followGrammar
  refine Wp_Cl (Wp_mono (c_arrange hg hO hM hE) ?_)
  rintro ⟨v, M1⟩ ⟨h1, h2⟩
  simp only at h1 h2 ⊢
  rw [c3_clear, ClS]
  simp only [f_X7_forget, LtE, ClS]
  refine Wp_some ⟨?_, fun k k1 k2 k3 k4 k5 => ?_, fun i hi => ?_, ?_⟩
  · have e : ∀ k, k < 300 → (up (sr M1 (299 + 2) fun j => if j < alenC (299 + 2) then 0 else M1 (299 + 2) j) 676 6 0) k = M1 k := fun k hk => by rw [up_ne _ _ _ (by omega), sr_ne _ _ (by omega)]
    unfold CV CVw CSg CGi CRs at h1 ⊢
    simp only
    rw [e 23 (by decide), e 24 (by decide), e 28 (by decide), e 29 (by decide), e 30 (by decide), e 31 (by decide), e 32 (by decide)]
    exact h1
  · simp only; rw [up_ne _ _ _ k5, sr_ne _ _ k4, h2 k k1 k2 k3]
  · simp only; rw [up_ne _ _ _ (by decide), sr_at, alenC_301, if_pos hi]
  · simp only; rw [up_at]
