/-! the rounds of the RING attributes, purely -/
def loV (v : Int) : Int := if v < 1000 then v else -1
abbrev RgS : Type := (Nat → Int) × (Nat → Int) × (Nat → Int) × Bool
def RStp (S : Mm) (rg : Nat → Int) (s : Nat) (st st' : RgS) : Prop := ∃ c' : Cfg, FinC S rg ([(s : Int)], st.1, st.2.1, [], 0) c' ∧ c'.2.2.1 s ≠ 0 ∧ st' = (c'.2.1, c'.2.2.1, se st.2.2.1 s (loV (c'.2.1 s)), st.2.2.2 || decide (loV (c'.2.1 s) ≠ rg s))
def RRn (S : Mm) (rg : Nat → Int) : List Nat → RgS → RgS → Prop
  | [], st, st' => st' = st
  | s :: r, st, st' => ∃ m, RStp S rg s st m ∧ RRn S rg r m st'
def rsl (S : Mm) : Nat → Nat → List Nat
  | 0, _ => []
  | f + 1, k => if ((k % 6 : Nat) : Int) < S 0 12 ∧ S 12 (k % 6) = 3 then k :: rsl S f (k + 1) else rsl S f (k + 1)
theorem rsl_lt (S : Mm) : ∀ f k s, s ∈ rsl S f k → k ≤ s ∧ s < k + f := by
  intro f
  induction f with
  | zero => intro k s h; cases h
  | succ f ih =>
    intro k s h
    simp only [rsl] at h
    split at h
    · rcases List.mem_cons.mp h with q | q
      · omega
      · have := ih _ _ q; omega
    · have := ih _ _ h; omega
def RRd (S : Mm) (rg rg' : Nat → Int) (ch : Bool) : Prop := ∃ bv bh st', (∀ s, s < 180 → bh s = 0) ∧ RRn S rg (rsl S (6 * (S 0 35).toNat) 0) (bv, bh, (fun _ => 0), false) st' ∧ rg' = st'.2.2.1 ∧ ch = st'.2.2.2
def RSt (S : Mm) : Nat → (Nat → Int) → (Nat → Int) → Prop
  | 0, _, out => out = fun _ => -2
  | f + 1, rg, out => ∃ rg' ch, RRd S rg rg' ch ∧ ((ch = true ∧ RSt S f rg' out) ∨ (ch = false ∧ out = rg'))
def RGr (S : Mm) (out : Nat → Int) : Prop := RSt S 30 (fun _ => 0) out
def StE (x y : RgS) : Prop := (∀ s, s < 180 → x.2.1 s = y.2.1 s) ∧ (∀ s, s < 180 → x.2.1 s ≠ 0 → x.1 s = y.1 s) ∧ x.2.2 = y.2.2
theorem RStp.uniq {S : Mm} {rg : Nat → Int} {s : Nat} (hs : s < 180) {x y x' y' : RgS} (h : StE x y) (hx : RStp S rg s x x') (hy : RStp S rg s y y') : StE x' y' := by
  obtain ⟨c, ⟨i, rfl, hc⟩, hc0, rfl⟩ := hx
  obtain ⟨d, hd, hd0, rfl⟩ := hy
  have he : CfE ([(s : Int)], x.1, x.2.1, [], 0) ([(s : Int)], y.1, y.2.1, [], 0) := ⟨rfl, h.1, h.2.1, rfl⟩
  have hj := itc_cfe (S := S) (rg := rg) (rg' := rg) (fun _ _ => rfl) i he
  have hdj : FinC S rg ([(s : Int)], y.1, y.2.1, [], 0) (itc S rg i ([(s : Int)], y.1, y.2.1, [], 0)) := ⟨i, rfl, by rw [← hj.1]; exact hc⟩
  have ed := hd.uniq hdj
  subst ed
  obtain ⟨j1, j2, j3, j4⟩ := hj
  have hv := j3 s hs hc0
  obtain ⟨h1, h2, h3⟩ := h
  refine ⟨j2, j3, ?_⟩
  simp only
  rw [hv, h3]
theorem RRn.uniq {S : Mm} {rg : Nat → Int} : ∀ (l : List Nat), (∀ s ∈ l, s < 180) → ∀ {x y x' y' : RgS}, StE x y → RRn S rg l x x' → RRn S rg l y y' → StE x' y' := by
  intro l
  induction l with
  | nil => intro _ x y x' y' h hx hy; cases hx; cases hy; exact h
  | cons s r ih =>
    intro hl x y x' y' h hx hy
    obtain ⟨m, m1, m2⟩ := hx
    obtain ⟨n, n1, n2⟩ := hy
    exact ih (fun q hq => hl q (List.mem_cons_of_mem _ hq)) (m1.uniq (hl s (List.mem_cons_self ..)) h n1) m2 n2
theorem RRd.uniq {S : Mm} (h35 : S 0 35 ≤ 30) {rg a b : Nat → Int} {x y : Bool} (h : RRd S rg a x) (h' : RRd S rg b y) : a = b ∧ x = y := by
  obtain ⟨bv, bh, st, h0, h1, rfl, rfl⟩ := h
  obtain ⟨bw, bg, tt, h0', h2, rfl, rfl⟩ := h'
  have := RRn.uniq _ (fun s hs => by have := rsl_lt S _ _ _ hs; omega) (x := (bv, bh, (fun _ => 0), false)) (y := (bw, bg, (fun _ => 0), false)) ⟨fun s hs => (h0 s hs).trans (h0' s hs).symm, fun s hs hn => absurd (h0 s hs) hn, rfl⟩ h1 h2
  rw [this.2.2]
  exact ⟨rfl, rfl⟩
theorem RSt.uniq {S : Mm} (h35 : S 0 35 ≤ 30) : ∀ (f : Nat) {rg a b : Nat → Int}, RSt S f rg a → RSt S f rg b → a = b := by
  intro f
  induction f with
  | zero => intro rg a b h h'; exact Eq.trans h (Eq.symm h')
  | succ f ih =>
    intro rg a b h h'
    obtain ⟨r1, c1, p1, q1⟩ := h
    obtain ⟨r2, c2, p2, q2⟩ := h'
    obtain ⟨e1, e2⟩ := p1.uniq h35 p2
    subst e1 e2
    rcases q1 with ⟨g1, g2⟩ | ⟨g1, g2⟩
    · rcases q2 with ⟨k1, k2⟩ | ⟨k1, k2⟩
      · exact ih g2 k2
      · rw [g1] at k1; cases k1
    · rcases q2 with ⟨k1, k2⟩ | ⟨k1, k2⟩
      · rw [g1] at k1; cases k1
      · rw [g2, k2]
theorem q_RGr {S S' : Mm} (h : AgQ S S') : RGr S' = RGr S := by
  have e1 : ∀ rg s x y, RStp S' rg s x y ↔ RStp S rg s x y := fun rg s x y => by
    exact ⟨fun ⟨c, g1, g2⟩ => ⟨c, (FinC.q_ h).mp g1, g2⟩, fun ⟨c, g1, g2⟩ => ⟨c, (FinC.q_ h).mpr g1, g2⟩⟩
  have e2 : ∀ rg l x y, RRn S' rg l x y ↔ RRn S rg l x y := fun rg l => by
    induction l with
    | nil => intro x y; exact Iff.rfl
    | cons s r ih => intro x y; simp only [RRn, e1, ih]
  have e3 : ∀ f k, rsl S' f k = rsl S f k := fun f => by
    induction f with
    | zero => intro k; rfl
    | succ f ih => intro k; simp only [rsl, ih, h.2 12 (by simp), h.1 12 (by decide) (by decide) (by decide)]
  have e4 : ∀ rg a c, RRd S' rg a c ↔ RRd S rg a c := fun rg a c => by
    unfold RRd
    simp only [e2, e3, h.2 35 (by simp)]
  have e5 : ∀ f rg out, RSt S' f rg out ↔ RSt S f rg out := fun f => by
    induction f with
    | zero => intro rg out; exact Iff.rfl
    | succ f ih => intro rg out; simp only [RSt, e4, ih]
  funext out
  exact propext (e5 _ _ _)
/-- the ring values, as a function of the memory -/
theorem RG_is : ∃ RG : Mm → Nat → Int, RGok RG ∧ ∀ S out, S 0 35 ≤ 30 → RGr S out → RG S = out := by
  refine ⟨fun S => Classical.epsilon (RGr S), fun S S' h1 h2 => ?_, fun S out h35 h => ?_⟩
  · show Classical.epsilon (RGr S') = Classical.epsilon (RGr S)
    rw [q_RGr ⟨h1, h2⟩]
  · exact RSt.uniq h35 _ (Classical.epsilon_spec (p := RGr S) ⟨out, h⟩) h
