/-! the reference's loop takes the same coarse steps -/
def StkR (M : Mm) : List Int → Prop
  | [] => True
  | s :: rest => (M 57 rest.length = s / 6 ∧ M 58 rest.length = s % 6) ∧ StkR M rest
theorem StkR.mem {M M' : Mm} : ∀ op : List Int, StkR M op → (∀ i, i < op.length → M' 57 i = M 57 i ∧ M' 58 i = M 58 i) → StkR M' op := by
  intro op
  induction op with
  | nil => exact fun _ _ => trivial
  | cons s rest ih =>
    intro h e
    obtain ⟨⟨h1, h2⟩, h3⟩ := h
    have e0 := e rest.length (by simp)
    exact ⟨⟨e0.1.trans h1, e0.2.trans h2⟩, ih h3 fun i hi => e i (by simp only [List.length_cons]; omega)⟩
def ixR (S : Mm) (B n a : Int) : Nat := (B + 6 * S 36 n.toNat + a).toNat
theorem ixR_inj {S : Mm} (hP : PlO S) {B : Int} (hB : B = 0 ∨ B = 360) (h12 : S 0 12 ≤ 6) {n a m b : Int} (hn : 0 ≤ n ∧ n < S 0 35) (ha : 0 ≤ a ∧ a < S 0 12) (hm : 0 ≤ m ∧ m < S 0 35) (hb : 0 ≤ b ∧ b < S 0 12) (h : ixR S B n a = ixR S B m b) : n = m ∧ a = b := by
  have p1 := (hP n.toNat (by omega)).1
  have p2 := (hP m.toNat (by omega)).1
  unfold ixR at h
  have e : S 36 n.toNat = S 36 m.toNat ∧ a = b := by omega
  have := (hP m.toNat (by omega)).2 n.toNat (by omega) e.1
  exact ⟨by omega, e.2⟩
theorem OrR.pop {S M M' : Mm} (hP : PlO S) {B : Int} (hB : B = 0 ∨ B = 360) (h12 : S 0 12 ≤ 6) {rg bv bh : Nat → Int} {s : Int} {rest : List Int} (hs : 0 ≤ s ∧ s / 6 < S 0 35 ∧ s % 6 < S 0 12) (hno : s ∉ rest) (h : OrR S M B rg bv bh (s :: rest)) {v hh : Int} (hh0 : hh ≠ 0)
    (e55 : M' 55 = M 55) (e51 : ∀ i, M' 51 i = if i = ixR S B (s / 6) (s % 6) then 0 else M 51 i)
    (e5 : ∀ j, j = 50 ∨ j = 52 ∨ j = 53 ∨ j = 54 → ∀ i, i ≠ ixR S B (s / 6) (s % 6) → M' j i = M j i)
    (e3 : S 12 (s % 6).toNat ≠ 3 → M' 50 (ixR S B (s / 6) (s % 6)) = 1 ∧ M' 52 (ixR S B (s / 6) (s % 6)) = pv S v ∧ HR S hh (M' 53 (ixR S B (s / 6) (s % 6))) (M' 54 (ixR S B (s / 6) (s % 6)))) :
    OrR S M' B rg (se bv s.toNat v) (se bh s.toNat hh) rest := by
  intro n a n0 n1 a0 a1
  obtain ⟨g1, g2, g3⟩ := h n a n0 n1 a0 a1
  by_cases c : 6 * n + a = s
  · have cn : s / 6 = n := by omega
    have ca : s % 6 = a := by omega
    rw [cn, ca] at e51 e3
    refine ⟨fun k => by rw [e55]; exact g1 k, ?_, fun k => ?_⟩
    · have := e51 (ixR S B n a)
      rw [if_pos rfl] at this
      rw [c, if_neg hno]; exact this
    · rw [c, se_at, se_at]
      exact ⟨fun z => absurd z hh0, fun _ => e3 k⟩
  · have hne : ixR S B n a ≠ ixR S B (s / 6) (s % 6) := fun e => by
      have := ixR_inj hP hB h12 ⟨n0, n1⟩ ⟨a0, a1⟩ ⟨by omega, hs.2.1⟩ ⟨by omega, hs.2.2⟩ e
      omega
    have hk : (6 * n + a).toNat ≠ s.toNat := by omega
    refine ⟨fun k => by rw [e55]; exact g1 k, ?_, fun k => ?_⟩
    · have := e51 (ixR S B n a)
      rw [if_neg hne] at this
      refine this.trans (g2.trans ?_)
      by_cases z : 6 * n + a ∈ rest
      · rw [if_pos z, if_pos (List.mem_cons_of_mem _ z)]
      · rw [if_neg z, if_neg (fun q => by rcases List.mem_cons.mp q with q | q; exact c q; exact z q)]
    · rw [se_ne _ _ hk, se_ne _ _ hk]
      have x50 := e5 50 (by simp) _ hne
      have x52 := e5 52 (by simp) _ hne
      have x53 := e5 53 (by simp) _ hne
      have x54 := e5 54 (by simp) _ hne
      unfold ixR at x50 x52 x53 x54
      rw [x50, x52, x53, x54]
      exact g3 k
theorem OrR.push {S M M' : Mm} (hP : PlO S) {B : Int} (hB : B = 0 ∨ B = 360) (h12 : S 0 12 ≤ 6) {rg bv bh : Nat → Int} {x : Int} {op : List Int} (hs : 0 ≤ x ∧ x / 6 < S 0 35 ∧ x % 6 < S 0 12) (h : OrR S M B rg bv bh op)
    (e5 : ∀ j, j = 50 ∨ j = 52 ∨ j = 53 ∨ j = 54 ∨ j = 55 → M' j = M j) (e51 : ∀ i, M' 51 i = if i = ixR S B (x / 6) (x % 6) then 1 else M 51 i) :
    OrR S M' B rg bv bh (x :: op) := by
  intro n a n0 n1 a0 a1
  obtain ⟨g1, g2, g3⟩ := h n a n0 n1 a0 a1
  rw [e5 50 (by simp), e5 52 (by simp), e5 53 (by simp), e5 54 (by simp), e5 55 (by simp)]
  refine ⟨g1, ?_, g3⟩
  have := e51 (ixR S B n a)
  by_cases c : 6 * n + a = x
  · have cn : x / 6 = n := by omega
    have ca : x % 6 = a := by omega
    rw [cn, ca, if_pos rfl] at this
    rw [c, if_pos (List.mem_cons_self ..)]
    exact this
  · have hne : ixR S B n a ≠ ixR S B (x / 6) (x % 6) := fun e => by
      have := ixR_inj hP hB h12 ⟨n0, n1⟩ ⟨a0, a1⟩ ⟨by omega, hs.2.1⟩ ⟨by omega, hs.2.2⟩ e
      omega
    rw [if_neg hne] at this
    refine this.trans (g2.trans ?_)
    by_cases z : 6 * n + a ∈ op
    · rw [if_pos z, if_pos (List.mem_cons_of_mem _ z)]
    · rw [if_neg z, if_neg (fun q => by rcases List.mem_cons.mp q with q | q; exact c q; exact z q)]
def RpR (S : Mm) (B : Int) (rg : Nat → Int) (M : Mm) (c : Cfg) : Prop :=
  Ag M S ∧ M 0 36 = S 0 36 ∧ M 36 = S 36 ∧ M 0 68 = B ∧ OrR S M B rg c.2.1 c.2.2.1 c.1 ∧ M 0 69 = (c.1.length : Int) ∧ StkR M c.1 ∧ (c.1 = [] → M 0 79 ≠ 0 → LsR M c.2.2.2.1)
/-- what the reference's loop leaves -/
def FrR (S : Mm) (B : Int) (M M' : Mm) : Prop := (∀ j, j ≠ 0 → ¬ (50 ≤ j ∧ j ≤ 54) → ¬ (57 ≤ j ∧ j ≤ 64) → M' j = M j) ∧ (∀ j, 50 ≤ j ∧ j ≤ 54 → ∀ i, (∀ n a : Int, 0 ≤ n → n < S 0 35 → 0 ≤ a → a < S 0 12 → (j = 51 ∨ S 12 a.toNat ≠ 3) → i ≠ ixR S B n a) → M' j i = M j i) ∧ ∀ i, i ≠ 67 → i ≠ 69 → i ≠ 72 → i ≠ 73 → i ≠ 74 → i ≠ 75 → i ≠ 76 → i ≠ 80 → M' 0 i = M 0 i
theorem FrR.refl (S : Mm) (B : Int) (M : Mm) : FrR S B M M := ⟨fun _ _ _ _ => rfl, fun _ _ _ _ => rfl, fun _ _ _ _ _ _ _ _ _ => rfl⟩
theorem FrR.trans {S : Mm} {B : Int} {X Y Z : Mm} (h : FrR S B X Y) (h' : FrR S B Y Z) : FrR S B X Z := ⟨fun j a b c => (h'.1 j a b c).trans (h.1 j a b c), fun j a i b => (h'.2.1 j a i b).trans (h.2.1 j a i b), fun i a b c d e f g k => (h'.2.2 i a b c d e f g k).trans (h.2.2 i a b c d e f g k)⟩
/-- what is stored when an attribute is found -/
def fdE (at_ v18 : Int) (rc : Int × Mm → Rs) (v36 : Int) (M37 : Mm) : Rs := gd (0 ≤ at_ ∧ at_ < 720) (if ¬ up M37 54 at_.toNat v36 0 68 = 0 then rc (v18, up (up M37 54 at_.toNat v36) 0 67 (wr (up M37 54 at_.toNat v36 0 67 + 0))) else rc (v18, up (up M37 54 at_.toNat v36) 0 67 (wr (up M37 54 at_.toNat v36 0 67 + 1))))
def fdK (at_ a v18 : Int) (rc : Int × Mm → Rs) (M28 : Mm) : Rs := gd (0 ≤ a ∧ a < 6) (if M28 12 a.toNat = 3 then rc (v18, M28) else gd (0 ≤ at_ ∧ at_ < 720) (gd (0 ≤ at_ ∧ at_ < 720) (gd (0 ≤ at_ ∧ at_ < 720) (
  if ¬ up (up (up M28 50 at_.toNat 1) 52 at_.toNat v18) 53 at_.toNat (up (up M28 50 at_.toNat 1) 52 at_.toNat v18 0 74) 0 75 = 0 then fdE at_ v18 rc 1 (up (up (up M28 50 at_.toNat 1) 52 at_.toNat v18) 53 at_.toNat (up (up M28 50 at_.toNat 1) 52 at_.toNat v18 0 74)) else if ¬ v18 = -2 then fdE at_ v18 rc 0 (up (up (up M28 50 at_.toNat 1) 52 at_.toNat v18) 53 at_.toNat (up (up M28 50 at_.toNat 1) 52 at_.toNat v18 0 74)) else fdE at_ v18 rc 1 (up (up (up M28 50 at_.toNat 1) 52 at_.toNat v18) 53 at_.toNat (up (up M28 50 at_.toNat 1) 52 at_.toNat v18 0 74))))))
set_option maxRecDepth 20000 in
theorem finds_body (J : Int → Mm → Rs) (rc : Int × Mm → Rs) (v : Int) (M : Mm) : f_X12_finds_L13_55 J rc (v, M) = if M 0 69 ≤ 0 then J v M else gd (0 ≤ wr (M 0 69 - 1) ∧ wr (M 0 69 - 1) < 200) (gd (0 ≤ wr (M 0 69 - 1) ∧ wr (M 0 69 - 1) < 200) (Cl (f_X12_tries (M 57 (wr (M 0 69 - 1)).toNat) (M 58 (wr (M 0 69 - 1)).toNat) M) fun v18 M17 => if M17 0 72 = -1 then Cl (f_X12_at (M 57 (wr (M 0 69 - 1)).toNat) (M 58 (wr (M 0 69 - 1)).toNat) (up M17 0 69 (wr (M17 0 69 - 1)))) fun at_ M26 => gd (0 ≤ at_ ∧ at_ < 720) (fdK at_ (M 58 (wr (M 0 69 - 1)).toNat) v18 rc (up M26 51 at_.toNat 0)) else Cl (f_X12_enters (M17 0 72) (M17 0 73) M17) fun _ M54 => rc (v18, M54))) := by
  unfold fdK fdE
  simp only [f_X12_finds_L13_55, LtE]
