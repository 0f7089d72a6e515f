/-! contributions, in their order -/
def gl (S : Mm) (p a : Int) : Nat → Nat → List Nat
  | 0, _ => []
  | f + 1, j => if mt S p a (-2) j then j :: gl S p a f (j + 1) else gl S p a f (j + 1)
def gls (S : Mm) (p a : Int) (j : Nat) : List Nat := gl S p a ((S 0 19).toNat - j) j
def nl (S : Mm) (a : Int) : Nat → Nat → List (Nat × Nat)
  | 0, _ => []
  | f + 1, m => (gls S (S 31 m) a 0).map (fun k => (m, k)) ++ nl S a f (m + 1)
def nls (S : Mm) (a : Int) (m : Nat) : List (Nat × Nat) := nl S a ((S 0 35).toNat - m) m
theorem nls_step {S : Mm} {a : Int} {m : Nat} (h : (m : Int) < S 0 35) : nls S a m = (gls S (S 31 m) a 0).map (fun k => (m, k)) ++ nls S a (m + 1) := by
  unfold nls
  rw [show (S 0 35).toNat - m = ((S 0 35).toNat - (m + 1)) + 1 by omega]
  rfl
theorem nls_end {S : Mm} {a : Int} {m : Nat} (h : S 0 35 ≤ m) : nls S a m = [] := by
  unfold nls
  rw [show (S 0 35).toNat - m = 0 by omega]
  rfl
theorem gl_nxt (S : Mm) (p a : Int) : ∀ f j, (nxt (mt S p a (-2)) f j = -1 ∧ gl S p a f j = []) ∨ ∃ g f' : Nat, nxt (mt S p a (-2)) f j = (g : Int) ∧ j ≤ g ∧ f + j = f' + (g + 1) ∧ gl S p a f j = g :: gl S p a f' (g + 1) ∧ mt S p a (-2) g = true := by
  intro f
  induction f with
  | zero => exact fun _ => Or.inl ⟨rfl, rfl⟩
  | succ f ih =>
    intro j
    simp only [nxt, gl]
    by_cases c : mt S p a (-2) j = true
    · rw [if_pos c, if_pos c]
      exact Or.inr ⟨j, f, rfl, Nat.le_refl _, by omega, rfl, c⟩
    · rw [if_neg c, if_neg c]
      rcases ih (j + 1) with h | ⟨g, f', h1, h2, h3, h4, h5⟩
      · exact Or.inl h
      · exact Or.inr ⟨g, f', h1, by omega, by omega, h4, h5⟩
theorem gls_gift (S : Mm) (p a : Int) (j : Nat) : (gift S p a j = -1 ∧ gls S p a j = []) ∨ ∃ g : Nat, gift S p a j = (g : Int) ∧ (g : Int) < S 0 19 ∧ gls S p a j = g :: gls S p a (g + 1) ∧ mt S p a (-2) g = true := by
  unfold gift gls
  rcases gl_nxt S p a ((S 0 19).toNat - j) j with h | ⟨g, f', h1, h2, h3, h4, h5⟩
  · exact Or.inl h
  · refine Or.inr ⟨g, h1, by omega, ?_, h5⟩
    rw [h4, show f' = (S 0 19).toNat - (g + 1) by omega]
theorem gls_len (S : Mm) (p a : Int) (j : Nat) : (gls S p a j).length ≤ (S 0 19).toNat := by
  have : ∀ f j, (gl S p a f j).length ≤ f := by
    intro f
    induction f with
    | zero => exact fun _ => Nat.le_refl _
    | succ f ih => intro j; simp only [gl]; have := ih (j + 1); split <;> simp <;> omega
  unfold gls
  have := this ((S 0 19).toNat - j) j
  omega
theorem nls_len (S : Mm) (a : Int) (m : Nat) : (nls S a m).length ≤ (S 0 35).toNat * (S 0 19).toNat := by
  have : ∀ f m, (nl S a f m).length ≤ f * (S 0 19).toNat := by
    intro f
    induction f with
    | zero => exact fun _ => by simp [nl]
    | succ f ih =>
      intro m
      simp only [nl, List.length_append, List.length_map]
      have h1 := ih (m + 1)
      have h2 := gls_len S (S 31 m) a 0
      rw [Nat.succ_mul]; omega
  unfold nls
  refine Nat.le_trans (this _ m) (Nat.mul_le_mul_right _ (by omega))
-- behind beginGift a frame stands at the first contribution that is left
theorem bgl_spec {S : Mm} {a : Int} : ∀ (n : Nat) (f : Nat → Int) (m : Int) (g : Int) (cur : List Nat), f 1 = a → f 2 = m → -1 ≤ m → S 0 35 ≤ m + 1 + n → (∀ k : Nat, g = k → f 3 = S 31 m.toNat ∧ f 4 = 0) →
    ((g = -1 ∧ cur = []) ∨ ∃ k : Nat, g = k ∧ ∃ r, cur = k :: r ∧ r = gls S (S 31 m.toNat) a (k + 1) ∧ (k : Int) < S 0 19 ∧ mt S (S 31 m.toNat) a (-2) k = true ∧ 0 ≤ m ∧ m < S 0 35) →
    (∀ i, i ≠ 2 → i ≠ 3 → i ≠ 4 → (bgl S n f g).1 i = f i) ∧
    ((cur.map (fun k => (m.toNat, k)) ++ nls S a (m + 1).toNat = [] ∧ (bgl S n f g).2 = -1) ∨
     ∃ (m' k' : Nat), cur.map (fun k => (m.toNat, k)) ++ nls S a (m + 1).toNat = (m', k') :: ((gls S (S 31 m') a (k' + 1)).map (fun k => (m', k)) ++ nls S a (m' + 1)) ∧ (bgl S n f g).2 = (k' : Int) ∧ (bgl S n f g).1 2 = m' ∧ (bgl S n f g).1 3 = S 31 m' ∧ (bgl S n f g).1 4 = 0 ∧ (m' : Int) < S 0 35 ∧ (k' : Int) < S 0 19 ∧ mt S (S 31 m') a (-2) k' = true) := by
  intro n
  induction n with
  | zero =>
    intro f m g cur h1 h2 hm hn hf hc
    simp only [bgl]
    refine ⟨fun _ _ _ _ => trivial, ?_⟩
    rcases hc with ⟨e1, e2⟩ | ⟨k, e1, r, e2, e3, e4, e5, e6, e7⟩
    · left; rw [e2, List.map_nil, List.nil_append, nls_end (by omega)]; exact ⟨rfl, e1⟩
    · right
      refine ⟨m.toNat, k, ?_, e1, by omega, (hf k e1).1, (hf k e1).2, by omega, e4, e5⟩
      rw [e2, e3, List.map_cons, List.cons_append, show (m + 1).toNat = m.toNat + 1 by omega]
  | succ n ih =>
    intro f m g cur h1 h2 hm hn hf hc
    simp only [bgl]
    by_cases cg : g = -1
    · have hcur : cur = [] := by
        rcases hc with ⟨_, e2⟩ | ⟨k, e1, _⟩
        · exact e2
        · omega
      rw [if_neg (fun q => q cg), h2]
      by_cases c2 : S 0 35 ≤ m + 1
      · rw [if_pos c2]
        refine ⟨fun _ _ _ _ => rfl, Or.inl ⟨?_, cg⟩⟩
        rw [hcur, List.map_nil, List.nil_append, nls_end (by omega)]
      · rw [if_neg c2, h1]
        have hm1 : ((m + 1).toNat : Int) = m + 1 := by omega
        have hc' := gls_gift S (S 31 (m + 1).toNat) a 0
        have hrec := ih (se (se (se f 2 (m + 1)) 3 (S 31 (m + 1).toNat)) 4 0) (m + 1) (gift S (S 31 (m + 1).toNat) a 0) (gls S (S 31 (m + 1).toNat) a 0) (by unfold se; simp [h1]) (by unfold se; simp) (by omega) (by omega) (fun k _ => by unfold se; simp) (by
          rcases hc' with ⟨e1, e2⟩ | ⟨k, e1, e2, e3, e4⟩
          · exact Or.inl ⟨e1, e2⟩
          · exact Or.inr ⟨k, e1, _, e3, rfl, e2, e4, by omega, by omega⟩)
        rw [hcur, List.map_nil, List.nil_append, nls_step (m := (m + 1).toNat) (by omega)]
        rw [show (m + 1 + 1).toNat = (m + 1).toNat + 1 by omega] at hrec
        refine ⟨fun i i2 i3 i4 => (hrec.1 i i2 i3 i4).trans ?_, hrec.2⟩
        rw [se_ne _ _ i4, se_ne _ _ i3, se_ne _ _ i2]
    · rw [if_pos cg]
      refine ⟨fun _ _ _ _ => rfl, ?_⟩
      rcases hc with ⟨e1, _⟩ | ⟨k, e1, r, e2, e3, e4, e5, e6, e7⟩
      · exact absurd e1 cg
      · right
        refine ⟨m.toNat, k, ?_, e1, by simp only; omega, (hf k e1).1, (hf k e1).2, by omega, e4, e5⟩
        rw [e2, e3, List.map_cons, List.cons_append, show (m + 1).toNat = m.toNat + 1 by omega]
/-- a frame stands at the first of some contributions -/
def GAt (S : Mm) (n a sum : Int) (rem : List (Nat × Nat)) (f : Nat → Int) : Prop :=
  f 0 = n ∧ f 1 = a ∧ ((rem = [] ∧ f 9 = 1 ∧ f 8 = sum) ∨ ∃ (m k : Nat), rem = (m, k) :: ((gls S (S 31 m) a (k + 1)).map (fun k => (m, k)) ++ nls S a (m + 1)) ∧ f 9 = 0 ∧ f 2 = m ∧ f 3 = S 31 m ∧ f 4 = 0 ∧ f 5 = ((33 + 8 * k : Nat) : Int) ∧ f 6 = 0 ∧ f 10 = k ∧ f 11 = 0 ∧ f 12 = sum ∧ (m : Int) < S 0 35 ∧ (k : Int) < S 0 19 ∧ mt S (S 31 m) a (-2) k = true)
theorem bgn_spec {S : Mm} (hN : Okn S) {n a m sum g : Int} {f : Nat → Int} {cur : List Nat} (h0 : f 0 = n) (h1 : f 1 = a) (h2 : f 2 = m) (hm : -1 ≤ m) (h9 : f 9 = 0) (h12 : f 12 = sum) (hf : ∀ k : Nat, g = k → f 3 = S 31 m.toNat ∧ f 4 = 0)
    (hc : (g = -1 ∧ cur = []) ∨ ∃ k : Nat, g = k ∧ ∃ r, cur = k :: r ∧ r = gls S (S 31 m.toNat) a (k + 1) ∧ (k : Int) < S 0 19 ∧ mt S (S 31 m.toNat) a (-2) k = true ∧ 0 ≤ m ∧ m < S 0 35) :
    GAt S n a sum (cur.map (fun k => (m.toNat, k)) ++ nls S a (m + 1).toNat) (bgn S f g) ∧ bgn S f g 7 = f 7 := by
  have h35 := hN.1
  obtain ⟨hs, hd⟩ := bgl_spec (S := S) (a := a) 30 f m g cur h1 h2 hm (by omega) hf hc
  unfold bgn
  rcases hd with ⟨e1, e2⟩ | ⟨m', k', e1, e2, e3, e4, e5, e6, e7, e8⟩
  · rw [if_pos e2]
    refine ⟨⟨?_, ?_, Or.inl ⟨e1, ?_, ?_⟩⟩, ?_⟩
    · unfold stl bgC se; simp; rw [hs 0 (by decide) (by decide) (by decide)]; exact h0
    · unfold stl bgC se; simp; rw [hs 1 (by decide) (by decide) (by decide)]; exact h1
    · unfold stl; exact se_at _ _ _
    · unfold stl; rw [se_ne _ _ (by decide), se_at, hs 12 (by decide) (by decide) (by decide)]; exact h12
    · unfold stl bgC se; simp; rw [hs 7 (by decide) (by decide) (by decide)]
  · rw [if_neg (by omega), e2]
    refine ⟨⟨?_, ?_, Or.inr ⟨m', k', e1, ?_, ?_, ?_, ?_, ?_, ?_, ?_, ?_, ?_, e6, e7, e8⟩⟩, ?_⟩
    · unfold bgC se; simp; rw [hs 0 (by decide) (by decide) (by decide)]; exact h0
    · unfold bgC se; simp; rw [hs 1 (by decide) (by decide) (by decide)]; exact h1
    · unfold bgC se; simp; rw [hs 9 (by decide) (by decide) (by decide)]; exact h9
    · unfold bgC se; simp; exact e3
    · unfold bgC se; simp; exact e4
    · unfold bgC se; simp; exact e5
    · unfold bgC; rw [se_at, if_neg (by omega), Int.toNat_natCast]
    · unfold bgC se; simp
    · unfold bgC se; simp
    · unfold bgC se; simp
    · unfold bgC se; simp; rw [hs 12 (by decide) (by decide) (by decide)]; exact h12
    · unfold bgC se; simp; rw [hs 7 (by decide) (by decide) (by decide)]
