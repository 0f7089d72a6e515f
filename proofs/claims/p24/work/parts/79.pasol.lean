/-! texts and trees, purely: which weights fit a grammar and a text -/
def hsl (S : Mm) (c f : Int) : Nat → Bool
  | 0 => false
  | n + 1 => hsl S c f n || decide (S 29 (f + n).toNat = c + 93)
def lc (S : Mm) (c f t : Int) : Int := t - f + (if hsl S c f (t - f).toNat then -1 else 1)
theorem lc_bd {S : Mm} {c f t : Int} (h : f ≤ t) : 0 ≤ lc S c f t ∧ lc S c f t ≤ t - f + 1 := by
  unfold lc
  split
  · rename_i q
    have : (t - f).toNat ≠ 0 := fun e => by rw [e] at q; cases q
    omega
  · omega
theorem lc_emp (S : Mm) (c g : Int) : lc S c g g = 1 := by
  unfold lc
  rw [Int.sub_self]
  rfl
abbrev WsF : Type := Int → Int → Int → Int
def sW (w : WsF) : List (Int × Int × Int) → Int
  | [] => 0
  | x :: r => w x.1 x.2.1 x.2.2 + sW w r
def pts (S : Mm) (p f a b t : Int) : List (Int × Int × Int) :=
  if S 2 p.toNat = 0 then [] else if S 2 p.toNat = 1 then [(S 3 (3 * p + 0).toNat, f, t)] else if S 2 p.toNat = 2 then [(S 3 (3 * p + 0).toNat, f, a), (S 3 (3 * p + 1).toNat, a, t)] else [(S 3 (3 * p + 0).toNat, f, a), (S 3 (3 * p + 1).toNat, a, b), (S 3 (3 * p + 2).toNat, b, t)]
def cdv (S : Mm) (K : Int) (w : WsF) (p f a b t : Int) : Int := 1 + (if S 2 p.toNat = 0 then K * (t - f) else 0) + sW w (pts S p f a b t)
def Sol (S : Mm) (K E : Int) (w : WsF) : Prop :=
  (∀ c f t : Int, 4 ≤ c → c ≤ 9 → 0 ≤ f → f ≤ t → t ≤ S 0 33 → w c f t = K * lc S c f t) ∧
  ∀ A f t : Int, 0 ≤ A → A < 4 → 0 ≤ f → f ≤ t → t ≤ S 0 33 → (0 < w A f t ∧ w A f t ≤ E) ∧
    (∀ p a b : Int, 0 ≤ p → p < S 0 0 → S 1 p.toNat = A → f ≤ a → a ≤ b → b ≤ t → (∀ x ∈ pts S p f a b t, w x.1 x.2.1 x.2.2 < E) → w A f t ≤ cdv S K w p f a b t) ∧
    (w A f t < E → ∃ p a b : Int, (0 ≤ p ∧ p < S 0 0) ∧ S 1 p.toNat = A ∧ (f ≤ a ∧ a ≤ b ∧ b ≤ t) ∧ (∀ x ∈ pts S p f a b t, w x.1 x.2.1 x.2.2 < E) ∧ w A f t = cdv S K w p f a b t)
theorem pts_ok {S : Mm} (hg : Okg S) {p f a b t : Int} (hp : 0 ≤ p ∧ p < S 0 0) (h1 : f ≤ a) (h2 : a ≤ b) (h3 : b ≤ t) : ∀ x ∈ pts S p f a b t, (0 ≤ x.1 ∧ x.1 ≤ 9) ∧ f ≤ x.2.1 ∧ x.2.1 ≤ x.2.2 ∧ x.2.2 ≤ t := by
  have hP := hg.2.2.2.1 p hp.1 hp.2
  have hn := hP.2.1
  have hs := hP.2.2.2.2.2.1
  intro x hx
  unfold pts at hx
  by_cases c0 : S 2 p.toNat = 0
  · rw [if_pos c0] at hx; cases hx
  rw [if_neg c0] at hx
  have s0 := hs 0 (by omega) (by omega)
  by_cases c1 : S 2 p.toNat = 1
  · rw [if_pos c1] at hx
    have := List.mem_singleton.mp hx
    subst this
    exact ⟨s0, by simp only; omega⟩
  rw [if_neg c1] at hx
  have s1 := hs 1 (by omega) (by omega)
  by_cases c2 : S 2 p.toNat = 2
  · rw [if_pos c2] at hx
    rcases List.mem_cons.mp hx with q | q
    · subst q; exact ⟨s0, by simp only; omega⟩
    · have := List.mem_singleton.mp q
      subst this
      exact ⟨s1, by simp only; omega⟩
  rw [if_neg c2] at hx
  have s2 := hs 2 (by omega) (by omega)
  rcases List.mem_cons.mp hx with q | q
  · subst q; exact ⟨s0, by simp only; omega⟩
  · rcases List.mem_cons.mp q with q | q
    · subst q; exact ⟨s1, by simp only; omega⟩
    · have := List.mem_singleton.mp q
      subst this
      exact ⟨s2, by simp only; omega⟩
theorem pts_len (S : Mm) (p f a b t : Int) : (pts S p f a b t).length ≤ 3 := by
  unfold pts
  repeat' split
  all_goals simp
theorem sW_le {w : WsF} {b : Int} : ∀ (l : List (Int × Int × Int)), (∀ x ∈ l, w x.1 x.2.1 x.2.2 ≤ b) → sW w l ≤ l.length * b := by
  intro l
  induction l with
  | nil => intro _; simp [sW]
  | cons x r ih =>
    intro h
    have h1 := h x (List.mem_cons_self ..)
    have h2 := ih fun y hy => h y (List.mem_cons_of_mem _ hy)
    have e : ((x :: r).length : Int) * b = b + r.length * b := by
      rw [List.length_cons, Int.natCast_add, Int.add_mul]; omega
    simp only [sW]
    rw [e]
    omega
theorem sW_mono {w w' : WsF} : ∀ (l : List (Int × Int × Int)), (∀ x ∈ l, w x.1 x.2.1 x.2.2 ≤ w' x.1 x.2.1 x.2.2) → sW w l ≤ sW w' l := by
  intro l
  induction l with
  | nil => intro _; exact Int.le_refl _
  | cons x r ih =>
    intro h
    have h1 := h x (List.mem_cons_self ..)
    have h2 := ih fun y hy => h y (List.mem_cons_of_mem _ hy)
    simp only [sW]
    omega
theorem sW_nn {w : WsF} : ∀ (l : List (Int × Int × Int)), (∀ x ∈ l, 0 ≤ w x.1 x.2.1 x.2.2) → 0 ≤ sW w l := by
  intro l
  induction l with
  | nil => intro _; exact Int.le_refl _
  | cons x r ih =>
    intro h
    have h1 := h x (List.mem_cons_self ..)
    have h2 := ih fun y hy => h y (List.mem_cons_of_mem _ hy)
    simp only [sW]
    omega
theorem sW_mem {w : WsF} : ∀ (l : List (Int × Int × Int)), (∀ x ∈ l, 0 ≤ w x.1 x.2.1 x.2.2) → ∀ x ∈ l, w x.1 x.2.1 x.2.2 ≤ sW w l := by
  intro l
  induction l with
  | nil => intro _ x hx; cases hx
  | cons y r ih =>
    intro h x hx
    have h1 := h y (List.mem_cons_self ..)
    have h3 := sW_nn r fun z hz => h z (List.mem_cons_of_mem _ hz)
    simp only [sW]
    rcases List.mem_cons.mp hx with q | q
    · subst q; omega
    · have h2 := ih (fun z hz => h z (List.mem_cons_of_mem _ hz)) x q
      omega
theorem Sol.nn {S : Mm} {K E : Int} {w : WsF} (h : Sol S K E w) (hK : 0 ≤ K) {c f t : Int} (hc : 0 ≤ c ∧ c ≤ 9) (h0 : 0 ≤ f) (h1 : f ≤ t) (h2 : t ≤ S 0 33) : 0 ≤ w c f t := by
  by_cases c4 : c < 4
  · have := (h.2 c f t hc.1 c4 h0 h1 h2).1.1
    omega
  · rw [h.1 c f t (by omega) hc.2 h0 h1 h2]
    exact Int.mul_nonneg hK (lc_bd h1).1
/-- the parts of a best tree are lighter -/
theorem Sol.child {S : Mm} (hg : Okg S) {K E : Int} {w : WsF} (h : Sol S K E w) (hK : 0 ≤ K) {p f a b t : Int} (hp : 0 ≤ p ∧ p < S 0 0) (h0 : 0 ≤ f) (h1 : f ≤ a) (h2 : a ≤ b) (h3 : b ≤ t) (h4 : t ≤ S 0 33) : ∀ x ∈ pts S p f a b t, 0 ≤ w x.1 x.2.1 x.2.2 ∧ w x.1 x.2.1 x.2.2 < cdv S K w p f a b t := by
  have hx := pts_ok hg hp h1 h2 h3
  have hn : ∀ x ∈ pts S p f a b t, 0 ≤ w x.1 x.2.1 x.2.2 := fun x hm => by
    have := hx x hm
    exact h.nn hK this.1 (by omega) this.2.2.1 (by omega)
  intro x hm
  refine ⟨hn x hm, ?_⟩
  have := sW_mem _ hn x hm
  unfold cdv
  have h5 : 0 ≤ if S 2 p.toNat = 0 then K * (t - f) else 0 := by
    split
    · exact Int.mul_nonneg hK (by omega)
    · exact Int.le_refl _
  omega
theorem Sol.le {S : Mm} (hg : Okg S) {K E : Int} {w w' : WsF} (h : Sol S K E w) (h' : Sol S K E w') (hK : 0 ≤ K) : ∀ (N : Nat) (A f t : Int), 0 ≤ A → A < 4 → 0 ≤ f → f ≤ t → t ≤ S 0 33 → w A f t < E → (w A f t).toNat = N → w' A f t ≤ w A f t := by
  intro N
  induction N using Nat.strongRecOn with
  | ind N ih =>
    intro A f t a0 a4 f0 ft tl hE hN
    obtain ⟨p, a, b, hp, hA, hab, hfin, heq⟩ := (h.2 A f t a0 a4 f0 ft tl).2.2 hE
    have hx := pts_ok hg hp hab.1 hab.2.1 hab.2.2
    have hch := h.child hg hK hp f0 hab.1 hab.2.1 hab.2.2 tl
    have hle : ∀ x ∈ pts S p f a b t, w' x.1 x.2.1 x.2.2 ≤ w x.1 x.2.1 x.2.2 := fun x hm => by
      have q := hx x hm
      have qc := hch x hm
      by_cases c4 : x.1 < 4
      · exact ih _ (by omega) x.1 x.2.1 x.2.2 q.1.1 c4 (by omega) q.2.2.1 (by omega) (hfin x hm) rfl
      · rw [h.1 x.1 _ _ (by omega) q.1.2 (by omega) q.2.2.1 (by omega), h'.1 x.1 _ _ (by omega) q.1.2 (by omega) q.2.2.1 (by omega)]
        exact Int.le_refl _
    have hcl := (h'.2 A f t a0 a4 f0 ft tl).2.1 p a b hp.1 hp.2 hA hab.1 hab.2.1 hab.2.2 fun x hm => by
      have := hle x hm
      have := hfin x hm
      omega
    have := sW_mono _ hle
    rw [heq]
    unfold cdv at hcl ⊢
    omega
theorem Sol.uniq {S : Mm} (hg : Okg S) {K E : Int} {w w' : WsF} (h : Sol S K E w) (h' : Sol S K E w') (hK : 0 ≤ K) {A f t : Int} (a0 : 0 ≤ A) (a4 : A < 4) (f0 : 0 ≤ f) (ft : f ≤ t) (tl : t ≤ S 0 33) : w A f t = w' A f t := by
  have b1 := (h.2 A f t a0 a4 f0 ft tl).1
  have b2 := (h'.2 A f t a0 a4 f0 ft tl).1
  have l1 := fun q => h.le hg h' hK _ A f t a0 a4 f0 ft tl q rfl
  have l2 := fun q => h'.le hg h hK _ A f t a0 a4 f0 ft tl q rfl
  by_cases c1 : w A f t < E
  · have := l1 c1
    have := l2 (by omega)
    omega
  · by_cases c2 : w' A f t < E
    · have := l2 c2
      omega
    · omega
/-! ranks among the nonterminals of a stretch -/
theorem cntm_mono {P Q : Nat → Bool} (hPQ : ∀ j, P j = true → Q j = true) : ∀ n, cntm P n ≤ cntm Q n := by
  intro n
  induction n with
  | zero => exact Nat.le_refl _
  | succ n ih =>
    simp only [cntm]
    cases hp : P n with
    | false =>
      cases Q n with
      | false => simpa using ih
      | true => simp; omega
    | true => rw [hPQ n hp]; simpa using ih
theorem cntm_sub {P Q : Nat → Bool} (hPQ : ∀ j, P j = true → Q j = true) {k : Nat} (hp : P k = false) (hq : Q k = true) : ∀ n, k < n → cntm P n + 1 ≤ cntm Q n := by
  intro n
  induction n with
  | zero => intro h; exact absurd h (Nat.not_lt_zero _)
  | succ n ih =>
    intro hk
    simp only [cntm]
    by_cases c : k = n
    · subst c
      rw [hp, hq]
      have := cntm_mono hPQ k
      simp; omega
    · have := ih (by omega)
      cases hpn : P n with
      | false =>
        cases Q n with
        | false => simpa using this
        | true => simp; omega
      | true => rw [hPQ n hpn]; simp; omega
def rk (w : WsF) (f t x : Int) : Nat := cntm (fun B => decide (w (B : Int) f t < x)) 4
theorem rk_lt {w : WsF} {f t x B : Int} (hB : 0 ≤ B ∧ B < 4) (h : w B f t < x) : rk w f t (w B f t) < rk w f t x := by
  have e : ((B.toNat : Nat) : Int) = B := Int.toNat_of_nonneg hB.1
  refine cntm_sub (fun j hj => ?_) (k := B.toNat) ?_ ?_ 4 (by omega)
  · have := of_decide_eq_true hj
    exact decide_eq_true (by omega)
  · rw [e]; exact decide_eq_false (Int.lt_irrefl _)
  · rw [e]; exact decide_eq_true h
theorem rk_le {w : WsF} {f t A : Int} (hA : 0 ≤ A ∧ A < 4) : rk w f t (w A f t) ≤ 3 := by
  have e : ((A.toNat : Nat) : Int) = A := Int.toNat_of_nonneg hA.1
  have h := cntm_sub (P := fun B => decide (w (B : Int) f t < w A f t)) (Q := fun _ => true) (fun _ _ => rfl) (k := A.toNat) (by rw [e]; exact decide_eq_false (Int.lt_irrefl _)) rfl 4 (by omega)
  have h4 : cntm (fun _ => true) 4 = 4 := rfl
  unfold rk
  omega
/-! empty stretches -/
def eb0 (K : Int) : Nat → Int
  | 0 => K
  | r + 1 => 3 * eb0 K r + 1
theorem eb0_ge {K : Int} (hK : 0 ≤ K) : ∀ r, K ≤ eb0 K r := by
  intro r
  induction r with
  | zero => exact Int.le_refl _
  | succ r ih => simp only [eb0]; omega
theorem Sol.emp {S : Mm} (hg : Okg S) {K E : Int} {w : WsF} (h : Sol S K E w) (hK : 0 ≤ K) {g : Int} (g0 : 0 ≤ g) (gl : g ≤ S 0 33) : ∀ (r : Nat) (A : Int), 0 ≤ A → A < 4 → w A g g < E → rk w g g (w A g g) ≤ r → w A g g ≤ eb0 K (r + 1) := by
  intro r
  induction r with
  | zero =>
    intro A a0 a4 hE hr
    obtain ⟨p, a, b, hp, hA, hab, hfin, heq⟩ := (h.2 A g g a0 a4 g0 (Int.le_refl _) gl).2.2 hE
    have hx := pts_ok hg hp hab.1 hab.2.1 hab.2.2
    have hch := h.child hg hK hp g0 hab.1 hab.2.1 hab.2.2 gl
    have hb : ∀ x ∈ pts S p g a b g, w x.1 x.2.1 x.2.2 ≤ K := fun x hm => by
      have q := hx x hm
      have e1 : x.2.1 = g := by omega
      have e2 : x.2.2 = g := by omega
      rw [e1, e2]
      by_cases c4 : x.1 < 4
      · have qc := (hch x hm).2
        rw [e1, e2, ← heq] at qc
        have := rk_lt ⟨q.1.1, c4⟩ qc
        omega
      · rw [h.1 x.1 g g (by omega) q.1.2 g0 (Int.le_refl _) gl, lc_emp]; omega
    have h1 := sW_le _ hb
    have h2 := pts_len S p g a b g
    have h3 : ((pts S p g a b g).length : Int) * K ≤ 3 * K := Int.mul_le_mul_of_nonneg_right (by omega) hK
    rw [heq]
    unfold cdv
    rw [Int.sub_self, Int.mul_zero]
    simp only [eb0, ite_self]
    omega
  | succ r ih =>
    intro A a0 a4 hE hr
    obtain ⟨p, a, b, hp, hA, hab, hfin, heq⟩ := (h.2 A g g a0 a4 g0 (Int.le_refl _) gl).2.2 hE
    have hx := pts_ok hg hp hab.1 hab.2.1 hab.2.2
    have hch := h.child hg hK hp g0 hab.1 hab.2.1 hab.2.2 gl
    have hb : ∀ x ∈ pts S p g a b g, w x.1 x.2.1 x.2.2 ≤ eb0 K (r + 1) := fun x hm => by
      have q := hx x hm
      have e1 : x.2.1 = g := by omega
      have e2 : x.2.2 = g := by omega
      have hf := hfin x hm
      rw [e1, e2] at hf ⊢
      by_cases c4 : x.1 < 4
      · have qc := (hch x hm).2
        rw [e1, e2, ← heq] at qc
        have := rk_lt ⟨q.1.1, c4⟩ qc
        exact ih x.1 q.1.1 c4 hf (by omega)
      · rw [h.1 x.1 g g (by omega) q.1.2 g0 (Int.le_refl _) gl, lc_emp, Int.mul_one]
        exact eb0_ge hK _
    have h1 := sW_le _ hb
    have h2 := pts_len S p g a b g
    have h3 : ((pts S p g a b g).length : Int) * eb0 K (r + 1) ≤ 3 * eb0 K (r + 1) := Int.mul_le_mul_of_nonneg_right (by omega) (Int.le_trans hK (eb0_ge hK _))
    rw [heq]
    unfold cdv
    rw [Int.sub_self, Int.mul_zero]
    have e : eb0 K (r + 1 + 1) = 3 * eb0 K (r + 1) + 1 := rfl
    rw [e]
    simp only [ite_self]
    omega
theorem eb4 (K : Int) : eb0 K 4 = 81 * K + 40 := by simp only [eb0]; omega
theorem Sol.emp4 {S : Mm} (hg : Okg S) {K E : Int} {w : WsF} (h : Sol S K E w) (hK : 0 ≤ K) {g : Int} (g0 : 0 ≤ g) (gl : g ≤ S 0 33) {A : Int} (a0 : 0 ≤ A) (a4 : A < 4) (hE : w A g g < E) : w A g g ≤ 81 * K + 40 := by
  have := h.emp hg hK g0 gl 3 A a0 a4 hE (rk_le ⟨a0, a4⟩)
  rw [eb4] at this
  exact this
theorem pts_map (S : Mm) (p f a b t g : Int) : pts S p g g g g = (pts S p f a b t).map fun x => (x.1, g, g) := by
  unfold pts
  repeat' split
  all_goals rfl
/-- what has a tree for a stretch has one for the empty ones -/
theorem Sol.empf {S : Mm} (hg : Okg S) {K E : Int} {w : WsF} (h : Sol S K E w) (hK : 1000 ≤ K) (hE4 : 400 * K < E) {g : Int} (g0 : 0 ≤ g) (gl : g ≤ S 0 33) : ∀ (N : Nat) (A f t : Int), 0 ≤ A → A < 4 → 0 ≤ f → f ≤ t → t ≤ S 0 33 → w A f t < E → (w A f t).toNat = N → w A g g < E := by
  intro N
  induction N using Nat.strongRecOn with
  | ind N ih =>
    intro A f t a0 a4 f0 ft tl hE hN
    obtain ⟨p, a, b, hp, hA, hab, hfin, heq⟩ := (h.2 A f t a0 a4 f0 ft tl).2.2 hE
    have hx := pts_ok hg hp hab.1 hab.2.1 hab.2.2
    have hch := h.child hg (by omega) hp f0 hab.1 hab.2.1 hab.2.2 tl
    have hb : ∀ y ∈ pts S p g g g g, w y.1 y.2.1 y.2.2 < E ∧ w y.1 y.2.1 y.2.2 ≤ 81 * K + 40 := fun y hy => by
      rw [pts_map S p f a b t g] at hy
      obtain ⟨x, hm, rfl⟩ := List.mem_map.mp hy
      have q := hx x hm
      simp only
      by_cases c4 : x.1 < 4
      · have qc := hch x hm
        have hf := ih _ (by omega) x.1 x.2.1 x.2.2 q.1.1 c4 (by omega) q.2.2.1 (by omega) (hfin x hm) rfl
        exact ⟨hf, h.emp4 hg (by omega) g0 gl q.1.1 c4 hf⟩
      · rw [h.1 x.1 g g (by omega) q.1.2 g0 (Int.le_refl _) gl, lc_emp]
        omega
    have hcl := (h.2 A g g a0 a4 g0 (Int.le_refl _) gl).2.1 p g g hp.1 hp.2 hA (Int.le_refl _) (Int.le_refl _) (Int.le_refl _) fun y hy => (hb y hy).1
    have h1 := sW_le _ fun y hy => (hb y hy).2
    have h2 := pts_len S p g g g g
    have h3 : ((pts S p g g g g).length : Int) * (81 * K + 40) ≤ 3 * (81 * K + 40) := Int.mul_le_mul_of_nonneg_right (by omega) (by omega)
    unfold cdv at hcl
    rw [Int.sub_self, Int.mul_zero] at hcl
    simp only [ite_self] at hcl
    omega
/-- letters more cost at most one each -/
theorem Sol.ext {S : Mm} (hg : Okg S) {K E : Int} {w : WsF} (h : Sol S K E w) (hK : 1000 ≤ K) (hE4 : 400 * K < E) (hl : S 0 33 ≤ 12) {f t : Int} (f0 : 0 ≤ f) (ft : f ≤ t) (tl : t ≤ S 0 33) : ∀ (N : Nat) (A : Int), 0 ≤ A → A < 4 → w A f f < E → (w A f f).toNat = N → w A f t ≤ w A f f + K * (t - f) := by
  have hfl : f ≤ S 0 33 := by omega
  have hKt : 0 ≤ K * (t - f) ∧ K * (t - f) ≤ 12 * K := ⟨Int.mul_nonneg (by omega) (by omega), by rw [Int.mul_comm]; exact Int.mul_le_mul_of_nonneg_right (by omega) (by omega)⟩
  intro N
  induction N using Nat.strongRecOn with
  | ind N ih =>
    intro A a0 a4 hE hN
    obtain ⟨p, a, b, hp, hA, hab, hfin, heq⟩ := (h.2 A f f a0 a4 f0 (Int.le_refl _) hfl).2.2 hE
    obtain rfl : a = f := by omega
    obtain rfl : b = a := by omega
    have hx := pts_ok hg hp (Int.le_refl b) (Int.le_refl b) (Int.le_refl b)
    have hch := h.child hg (by omega) hp f0 (Int.le_refl b) (Int.le_refl b) (Int.le_refl b) hfl
    have hlast : ∀ s : Int, (s, b, b) ∈ pts S p b b b b → w s b t ≤ w s b b + K * (t - b) ∧ w s b b + K * (t - b) < E := fun s hm => by
      have q := hx _ hm
      have qf := hfin _ hm
      simp only at q qf
      by_cases c4 : s < 4
      · have qc := (hch _ hm)
        simp only at qc
        have h81 := h.emp4 hg (by omega) f0 hfl q.1.1 c4 qf
        exact ⟨ih _ (by omega) s q.1.1 c4 qf rfl, by omega⟩
      · rw [h.1 s b t (by omega) q.1.2 f0 ft tl, h.1 s b b (by omega) q.1.2 f0 (Int.le_refl _) hfl, lc_emp]
        have := (lc_bd (S := S) (c := s) ft).2
        have : K * lc S s b t ≤ K * (t - b + 1) := Int.mul_le_mul_of_nonneg_left this (by omega)
        rw [Int.mul_add] at this
        omega
    have hcl := (h.2 A b t a0 a4 f0 ft tl).2.1 p b b hp.1 hp.2 hA (Int.le_refl _) (Int.le_refl _) ft
    rw [heq]
    unfold cdv at hcl ⊢
    unfold pts at hcl hfin hlast ⊢
    by_cases c0 : S 2 p.toNat = 0
    · simp only [if_pos c0] at hcl ⊢
      have := hcl fun x hm => (by cases hm)
      rw [Int.sub_self, Int.mul_zero]
      simp only [sW] at this ⊢
      omega
    simp only [if_neg c0] at hcl hfin hlast ⊢
    by_cases c1 : S 2 p.toNat = 1
    · simp only [if_pos c1] at hcl hfin hlast ⊢
      have hl1 := hlast _ (List.mem_cons_self ..)
      have := hcl fun x hm => by
        have := List.mem_singleton.mp hm
        subst this
        simp only; omega
      simp only [sW] at this ⊢
      omega
    simp only [if_neg c1] at hcl hfin hlast ⊢
    by_cases c2 : S 2 p.toNat = 2
    · simp only [if_pos c2] at hcl hfin hlast ⊢
      have hl1 := hlast _ (List.mem_cons_of_mem _ (List.mem_cons_self ..))
      have hf0 := hfin _ (List.mem_cons_self ..)
      simp only at hf0
      have := hcl fun x hm => by
        rcases List.mem_cons.mp hm with q | q
        · subst q; exact hf0
        · have := List.mem_singleton.mp q
          subst this
          simp only; omega
      simp only [sW] at this ⊢
      omega
    · simp only [if_neg c2] at hcl hfin hlast ⊢
      have hl1 := hlast _ (List.mem_cons_of_mem _ (List.mem_cons_of_mem _ (List.mem_cons_self ..)))
      have hf0 := hfin _ (List.mem_cons_self ..)
      have hf1 := hfin _ (List.mem_cons_of_mem _ (List.mem_cons_self ..))
      simp only at hf0 hf1
      have := hcl fun x hm => by
        rcases List.mem_cons.mp hm with q | q
        · subst q; exact hf0
        · rcases List.mem_cons.mp q with q | q
          · subst q; exact hf1
          · have := List.mem_singleton.mp q
            subst this
            simp only; omega
      simp only [sW] at this ⊢
      omega
theorem Sol.bd {S : Mm} (hg : Okg S) {K E : Int} {w : WsF} (h : Sol S K E w) (hK : 1000 ≤ K) (hE4 : 400 * K < E) (hl : S 0 33 ≤ 12) {A f t : Int} (a0 : 0 ≤ A) (a4 : A < 4) (f0 : 0 ≤ f) (ft : f ≤ t) (tl : t ≤ S 0 33) (hE : w A f t < E) : w A f t ≤ 93 * K + 40 := by
  have h1 := h.empf hg hK hE4 f0 (by omega : f ≤ S 0 33) _ A f t a0 a4 f0 ft tl hE rfl
  have h2 := h.emp4 hg (by omega) f0 (by omega) a0 a4 h1
  have h3 := h.ext hg hK hE4 hl f0 ft tl _ A a0 a4 h1 rfl
  have h4 : K * (t - f) ≤ 12 * K := by rw [Int.mul_comm]; exact Int.mul_le_mul_of_nonneg_right (by omega) (by omega)
  omega
