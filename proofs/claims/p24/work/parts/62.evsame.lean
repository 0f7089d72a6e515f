/-! configurations depend on the grammar, the equations and the tree alone -/
def AgQ (S S' : Mm) : Prop := (∀ j, 1 ≤ j → j ≤ 35 → ¬ (13 ≤ j ∧ j ≤ 15 ∨ 28 ≤ j ∧ j ≤ 29) → S' j = S j) ∧ ∀ i, i = 0 ∨ i = 12 ∨ i = 19 ∨ i = 35 → S' 0 i = S 0 i
theorem q_shown {S S' : Mm} (h : AgQ S S') (p : Int) : ∀ k, shown S' p k = shown S p k := by
  intro k
  induction k with
  | zero => rfl
  | succ k ih => simp only [shown, ih, h.1 8 (by decide) (by decide) (by decide), h.1 10 (by decide) (by decide) (by decide)]
theorem q_stand {S S' : Mm} (h : AgQ S S') (p : Int) : ∀ (k : Nat) (c : Int), stand S' p k c = stand S p k c := by
  intro k
  induction k with
  | zero => intro c; simp only [stand, h.1 4 (by decide) (by decide) (by decide)]
  | succ k ih => intro c; simp only [stand, ih, q_shown h, h.1 4 (by decide) (by decide) (by decide), h.1 8 (by decide) (by decide) (by decide), h.1 9 (by decide) (by decide) (by decide), h.1 11 (by decide) (by decide) (by decide), h.1 10 (by decide) (by decide) (by decide)]
theorem q_there {S S' : Mm} (h : AgQ S S') (p : Int) (k : Nat) (t : Int) : there S' p k t = there S p k t := by
  simp only [there, q_stand h, q_shown h]
theorem q_mt {S S' : Mm} (h : AgQ S S') : mt S' = mt S := by
  funext p a t k
  simp only [mt, h.1 16 (by decide) (by decide) (by decide), h.1 17 (by decide) (by decide) (by decide), h.1 18 (by decide) (by decide) (by decide), h.1 19 (by decide) (by decide) (by decide), h.1 27 (by decide) (by decide) (by decide)]
theorem q_rs {S S' : Mm} (h : AgQ S S') (p a t : Int) : rsv S' p a t = rsv S p a t ∧ rsh S' p a t = rsh S p a t := by
  have e : ∀ k, sgh S' p a t k = sgh S p a t k := fun k => by
    simp only [sgh, sg, q_shown h, q_there h, q_mt h, h.2 19 (by simp)]
  have e2 : rsh S' p a t = rsh S p a t := by simp only [rsh, e]
  exact ⟨by simp only [rsv, e, e2], e2⟩
theorem q_e {S S' : Mm} (h : AgQ S S') : eK S' = eK S ∧ eA S' = eA S ∧ eB S' = eB S ∧ eN S' = eN S := by
  refine ⟨?_, ?_, ?_, ?_⟩
  · funext k i; simp only [eK, h.1 21 (by decide) (by decide) (by decide)]
  · funext k i; simp only [eA, h.1 22 (by decide) (by decide) (by decide)]
  · funext k i; simp only [eB, h.1 23 (by decide) (by decide) (by decide)]
  · funext k; simp only [eN, h.1 20 (by decide) (by decide) (by decide)]
theorem q_chN {S S' : Mm} (h : AgQ S S') (m p : Int) (k : Nat) (b : Int) : chN S' m p k b = chN S m p k b := by
  simp only [chN, q_stand h, h.1 34 (by decide) (by decide) (by decide)]
theorem q_lkS {S S' : Mm} (h : AgQ S S') (m p : Int) (k : Nat) (K a b x : Int) : lkS S' m p k K a b x = lkS S m p k K a b x := by
  simp only [lkS, q_chN h]
theorem q_lfV {S S' : Mm} (h : AgQ S S') (m p : Int) (k : Nat) (K a b : Int) : lfV S' m p k K a b = lfV S m p k K a b := by
  simp only [lfV, q_chN h, h.1 6 (by decide) (by decide) (by decide), h.1 7 (by decide) (by decide) (by decide), h.1 30 (by decide) (by decide) (by decide), h.1 31 (by decide) (by decide) (by decide), h.1 35 (by decide) (by decide) (by decide)]
theorem q_evo {S S' : Mm} (h : AgQ S S') (L : Nat → Option (Int × Int)) (m p : Int) (hh k : Nat) : ∀ f i, evo S' L m p hh k f i = evo S L m p hh k f i := by
  intro f
  induction f with
  | zero => intro i; rfl
  | succ f ih => intro i; simp only [evo, ih, q_lkS h, q_lfV h, (q_e h).1, (q_e h).2.1, (q_e h).2.2.1]
theorem q_gls {S S' : Mm} (h : AgQ S S') (p a : Int) (j : Nat) : gls S' p a j = gls S p a j := by
  have e : ∀ f j, gl S' p a f j = gl S p a f j := by
    intro f
    induction f with
    | zero => intro j; rfl
    | succ f ih => intro j; simp only [gl, ih, q_mt h]
  simp only [gls, e, h.2 19 (by simp)]
theorem q_nls {S S' : Mm} (h : AgQ S S') (a : Int) (m : Nat) : nls S' a m = nls S a m := by
  have e : ∀ f m, nl S' a f m = nl S a f m := by
    intro f
    induction f with
    | zero => intro m; rfl
    | succ f ih => intro m; simp only [nl, ih, q_gls h, h.1 31 (by decide) (by decide) (by decide)]
  simp only [nls, e, h.2 35 (by simp)]
theorem q_rt {S S' : Mm} (h : AgQ S S') (k : Nat) : rt1 S' k = rt1 S k ∧ rt2 S' k = rt2 S k := by
  simp only [rt1, rt2, (q_e h).1, (q_e h).2.2.2, and_self]
theorem q_gthL {S S' : Mm} (h : AgQ S S') (L : Nat → Option (Int × Int)) (n : Int) : ∀ (g : List (Nat × Nat)) (sum : Int), gthL S' L n g sum = gthL S L n g sum := by
  intro g
  induction g with
  | nil => intro sum; rfl
  | cons x g ih =>
    intro sum
    obtain ⟨m, k⟩ := x
    simp only [gthL, ih, q_evo h, (q_rt h k).1, (q_rt h k).2, h.1 31 (by decide) (by decide) (by decide)]
theorem q_spc {S S' : Mm} (h : AgQ S S') (L : Nat → Option (Int × Int)) (n a : Int) : spc S' L n a = spc S L n a ∧ h0_ S' n a = h0_ S n a := by
  have e1 : pm S' n a = pm S n a := by simp only [pm, h.1 12 (by decide) (by decide) (by decide), h.1 32 (by decide) (by decide) (by decide)]
  have e2 : pt S' n a = pt S n a := by simp only [pt, h.1 12 (by decide) (by decide) (by decide), h.1 33 (by decide) (by decide) (by decide)]
  have e3 : prs S' n a = prs S n a := by simp only [prs, e1, e2, (q_rs h _ _ _).1, h.1 31 (by decide) (by decide) (by decide)]
  refine ⟨?_, by simp only [h0_, h.1 12 (by decide) (by decide) (by decide), h.1 32 (by decide) (by decide) (by decide)]⟩
  simp only [spc, e1, e2, e3, q_gthL h, q_nls h, q_evo h, (q_rt h _).1, (q_rs h _ _ _).2, h.1 12 (by decide) (by decide) (by decide), h.1 31 (by decide) (by decide) (by decide)]
theorem q_crs {S S' : Mm} (h : AgQ S S') (rg : Nat → Int) (c : Cfg) : crs S' rg c = crs S rg c := by
  have eL : ∀ bv bh op, Lk S' rg bv bh op = Lk S rg bv bh op := fun bv bh op => by
    funext s
    simp only [Lk, h.1 12 (by decide) (by decide) (by decide)]
  obtain ⟨op, bv, bh, lf, kk⟩ := c
  cases op with
  | nil => rfl
  | cons s rest => 
    simp only [crs, eL, (q_spc h _ _ _).1, hgs, (q_spc h (fun _ => none) _ _).2]
theorem q_itc {S S' : Mm} (h : AgQ S S') (rg : Nat → Int) : ∀ (j : Nat) (c : Cfg), itc S' rg j c = itc S rg j c := by
  intro j
  induction j with
  | zero => intro c; rfl
  | succ j ih => intro c; simp only [itc, ih, q_crs h]
/-! steps of steps, and where they end -/
theorem itc_succ (S : Mm) (rg : Nat → Int) : ∀ (j : Nat) (c : Cfg), itc S rg (j + 1) c = crs S rg (itc S rg j c) := by
  intro j
  induction j with
  | zero => intro c; rfl
  | succ j ih => intro c; exact ih (crs S rg c)
theorem crs_end {S : Mm} {rg : Nat → Int} {c : Cfg} (h : c.1 = []) : crs S rg c = c := by
  obtain ⟨op, bv, bh, lf, kk⟩ := c
  simp only at h
  subst h
  rfl
def FinC (S : Mm) (rg : Nat → Int) (c c' : Cfg) : Prop := ∃ j, c' = itc S rg j c ∧ c'.1 = []
theorem FinC.stay {S : Mm} {rg : Nat → Int} {c : Cfg} {j : Nat} (h : (itc S rg j c).1 = []) : ∀ i, itc S rg (j + i) c = itc S rg j c := by
  intro i
  induction i with
  | zero => rfl
  | succ i ih => rw [← Nat.add_assoc, itc_succ, ih, crs_end h]
theorem FinC.uniq {S : Mm} {rg : Nat → Int} {c c' d' : Cfg} (h : FinC S rg c c') (h' : FinC S rg c d') : c' = d' := by
  obtain ⟨i, rfl, hi⟩ := h
  obtain ⟨j, rfl, hj⟩ := h'
  by_cases l : i ≤ j
  · have := FinC.stay hi (j - i)
    rw [show i + (j - i) = j by omega] at this
    exact this.symm
  · have := FinC.stay hj (i - j)
    rw [show j + (i - j) = i by omega] at this
    exact this
theorem FinC.q_ {S S' : Mm} (h : AgQ S S') {rg : Nat → Int} {c c' : Cfg} : FinC S' rg c c' ↔ FinC S rg c c' := by
  unfold FinC
  simp only [q_itc h]
/-- configurations that differ in values alone that nobody may see -/
def CfE (c d : Cfg) : Prop := c.1 = d.1 ∧ (∀ s, s < 180 → c.2.2.1 s = d.2.2.1 s) ∧ (∀ s, s < 180 → c.2.2.1 s ≠ 0 → c.2.1 s = d.2.1 s) ∧ c.2.2.2 = d.2.2.2
theorem crs_cfe {S : Mm} {rg rg' : Nat → Int} (hr : ∀ s, s < 180 → rg s = rg' s) {c d : Cfg} (h : CfE c d) : CfE (crs S rg c) (crs S rg' d) := by
  obtain ⟨op, bv, bh, lf, kk⟩ := c
  obtain ⟨op', bv', bh', lf', kk'⟩ := d
  obtain ⟨h1, h2, h3, h4⟩ := h
  simp only at h1 h2 h3 h4
  subst h1
  obtain ⟨rfl, rfl⟩ := Prod.mk.inj h4
  have eL : Lk S rg bv bh op = Lk S rg' bv' bh' op := by
    funext s
    unfold Lk
    by_cases c0 : 180 ≤ s
    · rw [if_pos c0, if_pos c0]
    · rw [if_neg c0, if_neg c0, hr s (by omega), ← h2 s (by omega)]
      by_cases c1 : bh s ≠ 0
      · rw [h3 s (by omega) c1]
      · rw [if_neg c1, if_neg c1]
  cases op with
  | nil => exact ⟨rfl, h2, h3, rfl⟩
  | cons s rest =>
    unfold crs
    simp only [eL]
    cases ho : (spc S (Lk S rg' bv' bh' (s :: rest)) (s / 6) (s % 6)).2 with
    | none => exact ⟨rfl, h2, h3, rfl⟩
    | some v =>
      refine ⟨rfl, fun x hx => ?_, fun x hx hn => ?_, rfl⟩
      · show se bh s.toNat _ x = se bh' s.toNat _ x
        by_cases cx : x = s.toNat
        · subst cx; rw [se_at, se_at]
        · rw [se_ne _ _ cx, se_ne _ _ cx]; exact h2 x hx
      · show se bv s.toNat v x = se bv' s.toNat v x
        by_cases cx : x = s.toNat
        · subst cx; rw [se_at, se_at]
        · have hx' : bh x ≠ 0 := by
            have q : se bh s.toNat (hgs S (Lk S rg' bv' bh' (s :: rest)) (s / 6) (s % 6) (spc S (Lk S rg' bv' bh' (s :: rest)) (s / 6) (s % 6)).1 v) x ≠ 0 := hn
            rw [se_ne _ _ cx] at q
            exact q
          rw [se_ne _ _ cx, se_ne _ _ cx]; exact h3 x hx hx'
theorem itc_cfe {S : Mm} {rg rg' : Nat → Int} (hr : ∀ s, s < 180 → rg s = rg' s) : ∀ (j : Nat) {c d : Cfg}, CfE c d → CfE (itc S rg j c) (itc S rg' j d) := by
  intro j
  induction j with
  | zero => exact fun h => h
  | succ j ih => exact fun h => ih (crs_cfe hr h)
