/-! what an attribute is, told without an order of work: two lookings-at differ at a slot first -/
def fv (L : Nat → Option (Int × Int)) (s : Nat) : Option Int := (L s).map (·.1)
def DF (L L' : Nat → Option (Int × Int)) (r r' : List Nat × Option Int) : Prop := r = r' ∨ ∃ t x u u', r.1 = t ++ x :: u ∧ r'.1 = t ++ x :: u' ∧ fv L x ≠ fv L' x
theorem DF_look (L L' : Nat → Option (Int × Int)) (s : Int) : DF L L' (look L s) (look L' s) := by
  by_cases h : fv L s.toNat = fv L' s.toNat
  · left; unfold look; rw [show (L s.toNat).map (·.1) = (L' s.toNat).map (·.1) from h]
  · right; exact ⟨[], s.toNat, [], [], rfl, rfl, h⟩
theorem bnd_pre {t u : List Nat} {x : Nat} {r : List Nat × Option Int} (g : Int → List Nat × Option Int) (e : r.1 = t ++ x :: u) : ∃ w, (bnd r g).1 = t ++ x :: w := by
  obtain ⟨a, o⟩ := r
  cases o with
  | none => exact ⟨u, e⟩
  | some v =>
    rw [bnd_some]
    exact ⟨u ++ (g v).1, by simp only; rw [show a = t ++ x :: u from e, List.append_assoc, List.cons_append]⟩
theorem DF_bnd {L L' : Nat → Option (Int × Int)} {r r' : List Nat × Option Int} {g g' : Int → List Nat × Option Int} (h : DF L L' r r') (hg : ∀ v, DF L L' (g v) (g' v)) : DF L L' (bnd r g) (bnd r' g') := by
  rcases h with h | ⟨t, x, u, u', h1, h2, h3⟩
  · subst h
    obtain ⟨t, o⟩ := r
    cases o with
    | none => exact Or.inl rfl
    | some v =>
      rw [bnd_some, bnd_some]
      rcases hg v with e | ⟨t1, x, u, u', e1, e2, e3⟩
      · rw [e]; exact Or.inl rfl
      · exact Or.inr ⟨t ++ t1, x, u, u', by simp only; rw [e1, List.append_assoc], by simp only; rw [e2, List.append_assoc], e3⟩
  · obtain ⟨w, hw⟩ := bnd_pre g h1
    obtain ⟨w', hw'⟩ := bnd_pre g' h2
    exact Or.inr ⟨t, x, w, w', hw, hw', h3⟩
theorem DF_evo (S : Mm) (L L' : Nat → Option (Int × Int)) (m p : Int) (h k : Nat) : ∀ f i, DF L L' (evo S L m p h k f i) (evo S L' m p h k f i) := by
  intro f
  induction f with
  | zero => exact fun _ => Or.inl rfl
  | succ f ih =>
    intro i
    simp only [evo]
    by_cases c1 : tkn (eK S k i) = 0
    · rw [if_pos c1, if_pos c1]
      split
      · exact Or.inl rfl
      · exact DF_look _ _ _
    · rw [if_neg c1, if_neg c1]
      refine DF_bnd (ih _) fun v => ?_
      by_cases c2 : v < 0
      · rw [if_pos c2, if_pos c2]; exact Or.inl rfl
      rw [if_neg c2, if_neg c2]
      by_cases c3 : eK S k i = 7
      · rw [if_pos c3, if_pos c3]
        split
        · exact Or.inl rfl
        · exact DF_look _ _ _
      rw [if_neg c3, if_neg c3]
      by_cases c4 : eK S k i = 13
      · rw [if_pos c4, if_pos c4]; exact ih _
      rw [if_neg c4, if_neg c4]
      exact DF_bnd (ih _) fun w => Or.inl rfl
theorem DF_gthL (S : Mm) (L L' : Nat → Option (Int × Int)) (n : Int) : ∀ (g : List (Nat × Nat)) (sum : Int), DF L L' (gthL S L n g sum) (gthL S L' n g sum) := by
  intro g
  induction g with
  | nil => exact fun _ => Or.inl rfl
  | cons mk r ih =>
    intro sum
    obtain ⟨m, k⟩ := mk
    simp only [gthL]
    refine DF_bnd (DF_evo _ _ _ _ _ _ _ _ _) fun v => ?_
    by_cases c1 : v = -2 ∨ v = -3
    · rw [if_pos c1, if_pos c1]; exact Or.inl rfl
    rw [if_neg c1, if_neg c1]
    by_cases c2 : v = 1000 + n
    · rw [if_pos c2, if_pos c2]
      refine DF_bnd (DF_evo _ _ _ _ _ _ _ _ _) fun w => ?_
      by_cases c3 : w = -2 ∨ w = -3
      · rw [if_pos c3, if_pos c3]; exact Or.inl rfl
      rw [if_neg c3, if_neg c3]
      exact ih _
    rw [if_neg c2, if_neg c2]
    exact ih _
theorem DF_spc (S : Mm) (L L' : Nat → Option (Int × Int)) (n a : Int) : DF L L' (spc S L n a) (spc S L' n a) := by
  unfold spc
  by_cases c1 : S 12 a.toNat = 2
  · rw [if_pos c1, if_pos c1]; exact DF_gthL _ _ _ _ _ _
  rw [if_neg c1, if_neg c1]
  by_cases c2 : pm S n a = -1
  · rw [if_pos c2, if_pos c2]; exact Or.inl rfl
  rw [if_neg c2, if_neg c2]
  by_cases c3 : prs S n a = -3
  · rw [if_pos c3, if_pos c3]; exact Or.inl rfl
  rw [if_neg c3, if_neg c3]
  by_cases c4 : prs S n a = -1
  · rw [if_pos c4, if_pos c4]
    by_cases c5 : S 12 a.toNat = 1
    · rw [if_pos c5, if_pos c5]; exact DF_look _ _ _
    · rw [if_neg c5, if_neg c5]; exact Or.inl rfl
  rw [if_neg c4, if_neg c4]
  exact DF_evo _ _ _ _ _ _ _ _ _
/-! what is not known, and CYCLE, end what is looked at -/
def STr (L : Nat → Option (Int × Int)) (r : List Nat × Option Int) : Prop := ∀ t x u, r.1 = t ++ x :: u → (fv L x = none → u = [] ∧ r.2 = none) ∧ (fv L x = some (-2) → u = [] ∧ r.2 = some (-2))
theorem STr_nil (L : Nat → Option (Int × Int)) (o : Option Int) : STr L ([], o) := fun t x u h => by
  have h : [] = t ++ x :: u := h
  cases t <;> cases h
theorem STr_look (L : Nat → Option (Int × Int)) (s : Int) : STr L (look L s) := by
  intro t x u h
  have h : [s.toNat] = t ++ x :: u := h
  match t, h with
  | [], h =>
    have h : [s.toNat] = x :: u := h
    obtain ⟨h1, h2⟩ := List.cons.inj h
    subst h1
    exact ⟨fun q => ⟨h2.symm, q⟩, fun q => ⟨h2.symm, q⟩⟩
  | y :: t, h =>
    have h : [s.toNat] = y :: (t ++ x :: u) := h
    have := (List.cons.inj h).2
    cases t <;> cases this
theorem STr_bnd {L : Nat → Option (Int × Int)} {r : List Nat × Option Int} {g : Int → List Nat × Option Int} (h : STr L r) (hg : ∀ v, STr L (g v)) (h2 : g (-2) = ([], some (-2))) : STr L (bnd r g) := by
  obtain ⟨a, o⟩ := r
  cases o with
  | none => exact h
  | some v =>
    rw [bnd_some]
    intro t x u e
    have e : a ++ (g v).1 = t ++ x :: u := e
    have inA : ∀ c, a = t ++ x :: c → u = c ++ (g v).1 → (fv L x = none → u = [] ∧ (g v).2 = none) ∧ (fv L x = some (-2) → u = [] ∧ (g v).2 = some (-2)) := fun c e1 e2 => by
      have z := h t x c e1
      refine ⟨fun q => ?_, fun q => ?_⟩
      · have := (z.1 q).2; cases this
      · obtain ⟨z1, z2⟩ := z.2 q
        have z3 : v = -2 := Option.some.inj z2
        rw [z3, h2] at e2
        rw [z3, h2]
        exact ⟨by rw [e2, z1]; rfl, rfl⟩
    rcases List.append_eq_append_iff.mp e with ⟨a', e1, e2⟩ | ⟨c, e1, e2⟩
    · exact hg v a' x u e2
    · match c, e1, e2 with
      | [], e1, e2 => exact hg v [] x u e2.symm
      | y :: c, e1, e2 =>
        have e2 : x :: u = y :: (c ++ (g v).1) := e2
        obtain ⟨f1, f2⟩ := List.cons.inj e2
        subst f1
        exact inA c e1 f2
theorem STr_evo (S : Mm) (L : Nat → Option (Int × Int)) (m p : Int) (h k : Nat) : ∀ f i, STr L (evo S L m p h k f i) := by
  intro f
  induction f with
  | zero => exact fun _ => STr_nil _ _
  | succ f ih =>
    intro i
    simp only [evo]
    by_cases c1 : tkn (eK S k i) = 0
    · rw [if_pos c1]
      split
      · exact STr_nil _ _
      · exact STr_look _ _
    · rw [if_neg c1]
      refine STr_bnd (ih _) (fun v => ?_) (if_pos (by decide))
      by_cases c2 : v < 0
      · rw [if_pos c2]; exact STr_nil _ _
      rw [if_neg c2]
      by_cases c3 : eK S k i = 7
      · rw [if_pos c3]
        split
        · exact STr_nil _ _
        · exact STr_look _ _
      rw [if_neg c3]
      by_cases c4 : eK S k i = 13
      · rw [if_pos c4]; exact ih _
      rw [if_neg c4]
      exact STr_bnd (ih _) (fun w => STr_nil _ _) (by rw [if_pos (by decide)])
theorem STr_gthL (S : Mm) (L : Nat → Option (Int × Int)) (n : Int) : ∀ (g : List (Nat × Nat)) (sum : Int), STr L (gthL S L n g sum) := by
  intro g
  induction g with
  | nil => exact fun _ => STr_nil _ _
  | cons mk r ih =>
    intro sum
    obtain ⟨m, k⟩ := mk
    simp only [gthL]
    refine STr_bnd (STr_evo _ _ _ _ _ _ _ _) (fun v => ?_) (if_pos (Or.inl rfl))
    by_cases c1 : v = -2 ∨ v = -3
    · rw [if_pos c1]; exact STr_nil _ _
    rw [if_neg c1]
    by_cases c2 : v = 1000 + n
    · rw [if_pos c2]
      refine STr_bnd (STr_evo _ _ _ _ _ _ _ _) (fun w => ?_) (if_pos (Or.inl rfl))
      by_cases c3 : w = -2 ∨ w = -3
      · rw [if_pos c3]; exact STr_nil _ _
      rw [if_neg c3]
      exact ih _
    rw [if_neg c2]
    exact ih _
theorem STr_spc (S : Mm) (L : Nat → Option (Int × Int)) (n a : Int) : STr L (spc S L n a) := by
  unfold spc
  by_cases c1 : S 12 a.toNat = 2
  · rw [if_pos c1]; exact STr_gthL _ _ _ _ _
  rw [if_neg c1]
  by_cases c2 : pm S n a = -1
  · rw [if_pos c2]; exact STr_nil _ _
  rw [if_neg c2]
  by_cases c3 : prs S n a = -3
  · rw [if_pos c3]; exact STr_nil _ _
  rw [if_neg c3]
  by_cases c4 : prs S n a = -1
  · rw [if_pos c4]
    by_cases c5 : S 12 a.toNat = 1
    · rw [if_pos c5]; exact STr_look _ _
    · rw [if_neg c5]; exact STr_nil _ _
  rw [if_neg c4]
  exact STr_evo _ _ _ _ _ _ _ _
/-! where nothing comes of it, something is not known -/
def SNr (L : Nat → Option (Int × Int)) (r : List Nat × Option Int) : Prop := r.2 = none → ∃ x ∈ r.1, fv L x = none
theorem SNr_look (L : Nat → Option (Int × Int)) (s : Int) : SNr L (look L s) := fun h => ⟨s.toNat, List.mem_singleton.mpr rfl, h⟩
theorem SNr_some (L : Nat → Option (Int × Int)) (t : List Nat) (v : Int) : SNr L (t, some v) := fun h => by cases h
theorem SNr_bnd {L : Nat → Option (Int × Int)} {r : List Nat × Option Int} {g : Int → List Nat × Option Int} (h : SNr L r) (hg : ∀ v, SNr L (g v)) : SNr L (bnd r g) := by
  obtain ⟨a, o⟩ := r
  cases o with
  | none => exact h
  | some v =>
    rw [bnd_some]
    intro q
    obtain ⟨x, x1, x2⟩ := hg v q
    exact ⟨x, List.mem_append_right _ x1, x2⟩
theorem SNr_evo {S : Mm} {k : Nat} (hw : wfK (eK S k) (eN S k)) (L : Nat → Option (Int × Int)) (m p : Int) (h : Nat) : ∀ f i, i < eN S k → i < f → SNr L (evo S L m p h k f i) := by
  intro f
  induction f with
  | zero => exact fun i _ hi => absurd hi (Nat.not_lt_zero _)
  | succ f ih =>
    intro i hi hf
    have ho : ∀ j, j < tkn (eK S k i) → SNr L (evo S L m p h k f (opr (eK S k) i j)) := fun j hj => by
      have := opr_lt hj (hw.2 i hi)
      exact ih _ (by omega) (by omega)
    simp only [evo]
    by_cases c1 : tkn (eK S k i) = 0
    · rw [if_pos c1]
      split
      · exact SNr_some _ _ _
      · exact SNr_look _ _
    · rw [if_neg c1]
      refine SNr_bnd (ho 0 (by omega)) fun v => ?_
      by_cases c2 : v < 0
      · rw [if_pos c2]; exact SNr_some _ _ _
      rw [if_neg c2]
      by_cases c3 : eK S k i = 7
      · rw [if_pos c3]
        split
        · exact SNr_some _ _ _
        · exact SNr_look _ _
      rw [if_neg c3]
      by_cases c4 : eK S k i = 13
      · rw [if_pos c4]
        refine ho _ ?_
        rw [c4]
        split <;> decide
      rw [if_neg c4]
      refine SNr_bnd (ho 1 ?_) fun w => SNr_some _ _ _
      unfold tkn at c1 ⊢
      grind
theorem SNr_gthL {S : Mm} (hO : Oke S) {a : Int} (ha : S 12 a.toNat = 2) (L : Nat → Option (Int × Int)) (n : Int) : ∀ (g : List (Nat × Nat)) (sum : Int), (∀ x ∈ g, (x.2 : Int) < S 0 19 ∧ S 17 x.2 = a) → SNr L (gthL S L n g sum) := by
  intro g
  induction g with
  | nil => exact fun _ _ => SNr_some _ _ _
  | cons mk r ih =>
    intro sum hm
    obtain ⟨m, k⟩ := mk
    have hk := hm (m, k) (List.mem_cons_self ..)
    simp only at hk
    have hOk := hO.2.1 k hk.1
    have hw : wfK (eK S k) (eN S k) := by
      obtain ⟨o1, o2, o3, o4, o5, o6, -⟩ := hOk
      exact ⟨by unfold eN; omega, fun i hi => (o6 i hi).2⟩
    have hlen : (stk (eK S k) (eN S k)).length = 2 := by
      have := hOk.2.2.2.2.2.2.1
      rw [hk.2, if_pos ha] at this
      exact this
    obtain ⟨-, -, r1, r2, -, -⟩ := roots2 hw hlen
    have h8 := hw.1
    have ih := fun s => ih s fun x hx => hm x (List.mem_cons_of_mem _ hx)
    simp only [gthL]
    refine SNr_bnd (SNr_evo hw L _ _ _ _ _ r1 (by omega)) fun v => ?_
    by_cases c1 : v = -2 ∨ v = -3
    · rw [if_pos c1]; exact SNr_some _ _ _
    rw [if_neg c1]
    by_cases c2 : v = 1000 + n
    · rw [if_pos c2]
      refine SNr_bnd (SNr_evo hw L _ _ _ _ _ r2 (by omega)) fun w => ?_
      by_cases c3 : w = -2 ∨ w = -3
      · rw [if_pos c3]; exact SNr_some _ _ _
      rw [if_neg c3]
      exact ih _
    rw [if_neg c2]
    exact ih _
theorem gl_mem (S : Mm) (p a : Int) : ∀ f j x, x ∈ gl S p a f j → mt S p a (-2) x = true ∧ j ≤ x ∧ x < j + f := by
  intro f
  induction f with
  | zero => exact fun j x h => absurd h (List.not_mem_nil)
  | succ f ih =>
    intro j x h
    simp only [gl] at h
    by_cases c : mt S p a (-2) j = true
    · rw [if_pos c] at h
      rcases List.mem_cons.mp h with q | q
      · subst q; exact ⟨c, by omega, by omega⟩
      · have := ih _ _ q; exact ⟨this.1, by omega, by omega⟩
    · rw [if_neg c] at h
      have := ih _ _ h; exact ⟨this.1, by omega, by omega⟩
theorem nl_mem (S : Mm) (a : Int) : ∀ f m x, x ∈ nl S a f m → (m ≤ x.1 ∧ x.1 < m + f) ∧ (x.2 : Int) < S 0 19 ∧ S 17 x.2 = a ∧ S 16 x.2 = S 31 x.1 := by
  intro f
  induction f with
  | zero => exact fun m x h => absurd h (List.not_mem_nil)
  | succ f ih =>
    intro m x h
    simp only [nl] at h
    rcases List.mem_append.mp h with q | q
    · obtain ⟨k, k1, k2⟩ := List.mem_map.mp q
      subst k2
      have z := gl_mem S (S 31 m) a _ _ _ k1
      have w := mt_iff.mp z.1
      simp only
      exact ⟨by omega, by omega, w.2.1, w.1⟩
    · have := ih _ _ q
      exact ⟨by omega, this.2⟩
theorem SNr_spc {S : Mm} (hO : Oke S) (L : Nat → Option (Int × Int)) (n a : Int) (ha : 0 ≤ a) : SNr L (spc S L n a) := by
  unfold spc
  by_cases c1 : S 12 a.toNat = 2
  · rw [if_pos c1]
    exact SNr_gthL hO c1 L n _ _ fun x hx => (nl_mem S a _ _ x hx).2.imp id fun h => h.1
  rw [if_neg c1]
  by_cases c2 : pm S n a = -1
  · rw [if_pos c2]; exact SNr_some _ _ _
  rw [if_neg c2]
  by_cases c3 : prs S n a = -3
  · rw [if_pos c3]; exact SNr_some _ _ _
  rw [if_neg c3]
  by_cases c4 : prs S n a = -1
  · rw [if_pos c4]
    by_cases c5 : S 12 a.toNat = 1
    · rw [if_pos c5]; exact SNr_look _ _
    · rw [if_neg c5]; exact SNr_some _ _ _
  rw [if_neg c4]
  rcases rsv_val S (S 31 (pm S n a).toNat) a (pt S n a) with h | h | ⟨e, h1, h2, h3, h4⟩
  · exact absurd h c4
  · exact absurd h c3
  have hpe : prs S n a = e := h1
  rw [hpe, Int.toNat_natCast]
  have hOk := hO.2.1 e h2
  have hw : wfK (eK S e) (eN S e) := by
    obtain ⟨o1, o2, o3, o4, o5, o6, -⟩ := hOk
    exact ⟨by unfold eN; omega, fun i hi => (o6 i hi).2⟩
  have hlen : (stk (eK S e) (eN S e)).length = 1 := by
    have := hOk.2.2.2.2.2.2.1
    rw [h3, if_neg c1] at this
    exact this
  obtain ⟨-, r2, -⟩ := roots1 hw hlen
  have h8 := hw.1
  exact SNr_evo hw L _ _ _ _ _ r2 (by omega)
