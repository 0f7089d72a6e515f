/-! both sides take the same production and the same cuts -/
theorem pts_rep {S : Mm} (hg : Okg S) {p f a b t : Int} (hp : 0 ≤ p ∧ p < S 0 0) : pts S p f a b t = pts S p f (if S 2 p.toNat ≤ 1 then f else a) (if S 2 p.toNat ≤ 2 then (if S 2 p.toNat ≤ 1 then f else a) else b) t := by
  have hn := (hg.2.2.2.1 p hp.1 hp.2).2.1
  unfold pts
  by_cases c0 : S 2 p.toNat = 0
  · simp only [if_pos c0]
  by_cases c1 : S 2 p.toNat = 1
  · simp only [if_neg c0, if_pos c1]
  by_cases c2 : S 2 p.toNat = 2
  · simp only [if_neg c0, if_neg c1, if_pos c2]
    rw [if_neg (c := S 2 p.toNat ≤ 1) (by omega)]
  · simp only [if_neg c0, if_neg c1, if_neg c2]
    rw [if_neg (c := S 2 p.toNat ≤ 1) (by omega), if_neg (c := S 2 p.toNat ≤ 2) (by omega)]
theorem choice_both {S C R : Mm} (hg : Okg S) (hl : 0 ≤ S 0 33 ∧ S 0 33 ≤ 12) (hC : Stl S C) (hG : Gr R S) (hb : Jb R) (hR : Sol S 10000 999990000 (vW S R)) {A f t p : Int} (a0 : 0 ≤ A) (a4 : A < 4) (f0 : 0 ≤ f) (ft : f ≤ t) (tl : t ≤ S 0 33) (hE : C 275 (wix A f t) < 500000000) (hp : LwP S (C 275) A f t p) :
    f_X12_chosen A f t R = some (p, up (up R 0 58 (oneC S (C 275) (C 276) p f t)) 0 59 (twoC S (C 275) (C 276) p f t)) := by
  have h10 := hg.1
  have t12 : t ≤ 12 := by omega
  have hS1 := hC.sol hg hl
  have hpp := hp.1
  obtain ⟨hbd, hcd, hfin, hstr⟩ := oneC_bd hg hl.2 hC a0 a4 f0 ft tl hE hp
  have e1 : S 2 p.toNat ≤ 1 → oneC S (C 275) (C 276) p f t = t := fun q => by unfold oneC; rw [if_pos q]
  have e2 : S 2 p.toNat ≤ 2 → twoC S (C 275) (C 276) p f t = t := fun q => by unfold twoC; rw [if_pos q]
  generalize oneC S (C 275) (C 276) p f t = one at hbd hcd hfin hstr e1 ⊢
  generalize twoC S (C 275) (C 276) p f t = two at hbd hcd hfin hstr e2 ⊢
  have hvw : ∀ q a b, 0 ≤ q → q < S 0 0 → f ≤ a → a ≤ b → b ≤ t → ∀ x ∈ pts S q f a b t, vW S R x.1 x.2.1 x.2.2 = cnv (wOf (C 275)) x.1 x.2.1 x.2.2 := fun q a b q0 q1 z1 z2 z3 x hx => by
    have hok := pts_ok hg ⟨q0, q1⟩ z1 z2 z3 x hx
    exact both_weigh hg hl hS1 hR hok.1.1 hok.1.2 (by omega) hok.2.2.1 (by omega)
  have hcdv : ∀ q a b, 0 ≤ q → q < S 0 0 → f ≤ a → a ≤ b → b ≤ t → cdv S 10000 (vW S R) q f a b t = cdv S 10000 (cnv (wOf (C 275))) q f a b t := fun q a b q0 q1 z1 z2 z3 => by
    have h := hvw q a b q0 q1 z1 z2 z3
    have l1 := sW_mono (w := vW S R) (w' := cnv (wOf (C 275))) _ fun x hx => by rw [h x hx]; exact Int.le_refl _
    have l2 := sW_mono (w := cnv (wOf (C 275))) (w' := vW S R) _ fun x hx => by rw [h x hx]; exact Int.le_refl _
    unfold cdv
    omega
  have hvA : vW S R A f t = cnv (wOf (C 275)) A f t := both_weigh hg hl hS1 hR a0 (by omega) f0 ft tl
  have hpos : 0 ≤ wOf (C 275) A f t := hS1.nn (by decide) ⟨a0, by omega⟩ f0 ft tl
  have hvE : vW S R A f t < 999990000 := by
    rw [hvA]
    exact (cnv_fin hpos).mpr hE
  have hmatch : ∀ q a b, 0 ≤ q → q < S 0 0 → S 1 q.toNat = A → f ≤ a → a ≤ b → b ≤ t → wtR S R q f a b t = vW S R A f t → cdv S 100000 (wOf (C 275)) q f a b t = C 275 (wix A f t) := fun q a b q0 q1 qA z1 z2 z3 hw => by
    have hc := wtR_cd (S := S) hg hb ⟨q0, q1⟩ f0 z1 z2 z3 t12
    obtain ⟨w1, w2⟩ := hc.2.1 (by rw [hw]; exact hvE)
    have hok := pts_ok hg ⟨q0, q1⟩ z1 z2 z3
    have hfin' : ∀ x ∈ pts S q f a b t, wOf (C 275) x.1 x.2.1 x.2.2 < 500000000 := fun x hx => by
      have k1 := w2 x hx
      rw [hvw q a b q0 q1 z1 z2 z3 x hx] at k1
      have k2 := hok x hx
      exact (cnv_fin (hS1.nn (by decide) k2.1 (by omega) k2.2.2.1 (by omega))).mp k1
    refine (cnv_best hg hS1 hl.2 a0 a4 f0 tl hE ⟨q0, q1⟩ qA z1 z2 z3 hfin').mpr ?_
    rw [← hcdv q a b q0 q1 z1 z2 z3, ← w1, hw, hvA]
  have haa : f ≤ (if S 2 p.toNat ≤ 1 then f else one) ∧ (if S 2 p.toNat ≤ 1 then f else one) ≤ (if S 2 p.toNat ≤ 1 then f else t) := by split <;> omega
  have hbb : (if S 2 p.toNat ≤ 1 then f else one) ≤ (if S 2 p.toNat ≤ 2 then (if S 2 p.toNat ≤ 1 then f else one) else two) ∧ (if S 2 p.toNat ≤ 2 then (if S 2 p.toNat ≤ 1 then f else one) else two) ≤ (if S 2 p.toNat ≤ 2 then (if S 2 p.toNat ≤ 1 then f else one) else t) ∧ (if S 2 p.toNat ≤ 2 then (if S 2 p.toNat ≤ 1 then f else one) else two) ≤ t := by (repeat' split) <;> omega
  have hres := r_chosen hg hG hb (A := A) (p := p) (f := f) (t := t) (aa := if S 2 p.toNat ≤ 1 then f else one) (bb := if S 2 p.toNat ≤ 2 then (if S 2 p.toNat ≤ 1 then f else one) else two) ⟨a0, a4⟩ hpp hp.2.1 f0 ft t12 haa.1 haa.2 hbb.1 hbb.2.1 ?_ ?_ ?_ ?_
  · have r1 : (if S 2 p.toNat ≤ 1 then t else if S 2 p.toNat ≤ 1 then f else one) = one := by
      by_cases c : S 2 p.toNat ≤ 1
      · rw [if_pos c, e1 c]
      · rw [if_neg c, if_neg c]
    have r2 : (if S 2 p.toNat ≤ 2 then t else if S 2 p.toNat ≤ 2 then (if S 2 p.toNat ≤ 1 then f else one) else two) = two := by
      by_cases c : S 2 p.toNat ≤ 2
      · rw [if_pos c, e2 c]
      · rw [if_neg c, if_neg c]
    rw [r1, r2] at hres
    exact hres
  · rw [cdv_rep hg hpp] at hcd
    rw [pts_rep hg hpp] at hfin
    have hb2 := (cnv_best hg hS1 hl.2 a0 a4 f0 tl hE hpp hp.2.1 haa.1 hbb.1 hbb.2.2 hfin).mp hcd
    have hc := wtR_cd (S := S) hg hb hpp f0 haa.1 hbb.1 hbb.2.2 t12
    rw [hcdv p _ _ hpp.1 hpp.2 haa.1 hbb.1 hbb.2.2, hb2, ← hvA] at hc
    rcases hc.2.2 with q | q
    · exact q
    · omega
  · intro a b z1 z2 z3 z4 hw
    have hm := hmatch p a b hpp.1 hpp.2 hp.2.1 z1 z3 z4 hw
    by_cases c : S 2 p.toNat ≤ 1
    · rw [if_pos c] at z2; omega
    · rw [if_neg c] at z2
      have := hstr a b z1 z3 z4 (by omega) (Or.inl z2)
      omega
  · intro b z1 z2 hw
    by_cases c2 : S 2 p.toNat ≤ 2
    · rw [if_pos c2] at z2; omega
    · rw [if_neg c2] at z2
      have c1 : ¬ S 2 p.toNat ≤ 1 := by omega
      rw [if_neg c1] at z1 hw
      have hm := hmatch p one b hpp.1 hpp.2 hp.2.1 hbd.1 z1 (by omega) hw
      have := hstr one b hbd.1 z1 (by omega) (by omega) (Or.inr ⟨rfl, by omega, z2⟩)
      omega
  · intro q q0 qp qA a b z1 z2 z3 hw
    have hm := hmatch q a b q0 (by omega) qA z1 z2 z3 hw
    have hcq := cq_le hg (W := C 275) ⟨q0, by omega⟩ f0 t12 z1 z2 z3
    have hcl := (hC.dn f0 ft tl).1 q q0 (by omega)
    rw [qA] at hcl
    exact hp.2.2.2 q q0 qp qA (by omega)
/-! how many nodes wait -/
def ndW (W : Nat → Int) (x : Ent) : Int := W (wix x.1 x.2.1 x.2.2.1) % 100000
def sumE (W : Nat → Int) : List Ent → Int
  | [] => 0
  | x :: r => ndW W x + sumE W r
theorem sumE_app (W : Nat → Int) (l l' : List Ent) : sumE W (l ++ l') = sumE W l + sumE W l' := by
  induction l with
  | nil => simp [sumE]
  | cons x r ih => simp only [List.cons_append, sumE]; rw [ih]; omega
theorem sumE_nn (W : Nat → Int) : ∀ l, 0 ≤ sumE W l := by
  intro l
  induction l with
  | nil => exact Int.le_refl _
  | cons x r ih => simp only [sumE]; unfold ndW; omega
theorem sW_mod {w : WsF} : ∀ (l : List (Int × Int × Int)), (∀ x ∈ l, w x.1 x.2.1 x.2.2 % 100000 ≤ 7012) → (∃ q : Int, sW w l = 100000 * q + sW (fun c f t => w c f t % 100000) l) ∧ 0 ≤ sW (fun c f t => w c f t % 100000) l ∧ sW (fun c f t => w c f t % 100000) l ≤ 7012 * l.length := by
  intro l
  induction l with
  | nil => intro _; exact ⟨⟨0, rfl⟩, Int.le_refl _, by simp [sW]⟩
  | cons x r ih =>
    intro h
    have h1 := h x (List.mem_cons_self ..)
    obtain ⟨⟨q, h2⟩, h3, h4⟩ := ih fun y hy => h y (List.mem_cons_of_mem _ hy)
    simp only [sW]
    rw [List.length_cons]
    refine ⟨⟨w x.1 x.2.1 x.2.2 / 100000 + q, ?_⟩, by omega, by omega⟩
    rw [h2]
    omega
/-- a node and those below it -/
theorem nd_cut {S : Mm} (hg : Okg S) (hl : S 0 33 ≤ 12) {w : WsF} (h : Sol S 100000 500000000 w) {A p f a b t : Int} (hp : 0 ≤ p ∧ p < S 0 0) (f0 : 0 ≤ f) (h1 : f ≤ a) (h2 : a ≤ b) (h3 : b ≤ t) (tl : t ≤ S 0 33) (hfin : ∀ x ∈ pts S p f a b t, w x.1 x.2.1 x.2.2 < 500000000) (heq : cdv S 100000 w p f a b t = w A f t) : w A f t % 100000 = 1 + sW (fun c f t => w c f t % 100000) (pts S p f a b t) ∧ 0 ≤ sW (fun c f t => w c f t % 100000) (pts S p f a b t) := by
  have hok := pts_ok hg hp h1 h2 h3
  have hm : ∀ x ∈ pts S p f a b t, w x.1 x.2.1 x.2.2 % 100000 ≤ 7012 := fun x hx => by
    have q := hok x hx
    by_cases c4 : x.1 < 4
    · obtain ⟨c, n, ⟨g1, g2, g3⟩, g4⟩ := h.nod2 hg (by decide) hl q.1.1 c4 (by omega) q.2.2.1 (by omega) (hfin x hx)
      omega
    · rw [h.1 x.1 _ _ (by omega) q.1.2 (by omega) q.2.2.1 (by omega)]
      omega
  obtain ⟨⟨q, h4⟩, h5, h6⟩ := sW_mod _ hm
  have hl3 := pts_len S p f a b t
  refine ⟨?_, h5⟩
  rw [← heq]
  unfold cdv
  rw [h4]
  split <;> omega
/-! the row of what waits, behind a node -/
theorem pts_en {S : Mm} (hg : Okg S) {p f one two t : Int} (hp : 0 ≤ p ∧ p < S 0 0) (e1 : S 2 p.toNat ≤ 1 → one = t) (e2 : S 2 p.toNat ≤ 2 → two = t) : (∀ j : Nat, (j : Int) < S 2 p.toNat → (S 3 (3 * p + j).toNat, enC f one two t j, enC f one two t ((j : Int) + 1)) ∈ pts S p f one two t) ∧ ∀ w : WsF, sW w (pts S p f one two t) = sumN (fun j => w (S 3 (3 * p + j).toNat) (enC f one two t j) (enC f one two t ((j : Int) + 1))) (S 2 p.toNat).toNat := by
  have hn := (hg.2.2.2.1 p hp.1 hp.2).2.1
  have z0 : enC f one two t ((0 : Nat) : Int) = f ∧ enC f one two t (((0 : Nat) : Int) + 1) = one := ⟨rfl, rfl⟩
  have z1 : enC f one two t ((1 : Nat) : Int) = one ∧ enC f one two t (((1 : Nat) : Int) + 1) = two := ⟨rfl, rfl⟩
  have z2 : enC f one two t ((2 : Nat) : Int) = two ∧ enC f one two t (((2 : Nat) : Int) + 1) = t := ⟨rfl, rfl⟩
  unfold pts
  by_cases c0 : S 2 p.toNat = 0
  · simp only [if_pos c0]
    refine ⟨fun j hj => absurd hj (by omega), fun w => ?_⟩
    rw [c0]; rfl
  by_cases c1 : S 2 p.toNat = 1
  · simp only [if_neg c0, if_pos c1]
    have := e1 (by omega)
    subst this
    refine ⟨fun j hj => ?_, fun w => ?_⟩
    · obtain rfl : j = 0 := by omega
      rw [z0.1, z0.2]
      exact List.mem_singleton.mpr rfl
    · rw [c1]
      show w (S 3 (3 * p + ((0 : Nat) : Int)).toNat) f one + 0 = 0 + w (S 3 (3 * p + ((0 : Nat) : Int)).toNat) f one
      omega
  by_cases c2 : S 2 p.toNat = 2
  · simp only [if_neg c0, if_neg c1, if_pos c2]
    have := e2 (by omega)
    subst this
    refine ⟨fun j hj => ?_, fun w => ?_⟩
    · have : j = 0 ∨ j = 1 := by omega
      rcases this with rfl | rfl
      · rw [z0.1, z0.2]; exact List.mem_cons_self ..
      · rw [z1.1, z1.2]; exact List.mem_cons_of_mem _ (List.mem_singleton.mpr rfl)
    · rw [c2]
      show w (S 3 (3 * p + ((0 : Nat) : Int)).toNat) f one + (w (S 3 (3 * p + ((1 : Nat) : Int)).toNat) one two + 0) = 0 + w (S 3 (3 * p + ((0 : Nat) : Int)).toNat) f one + w (S 3 (3 * p + ((1 : Nat) : Int)).toNat) one two
      omega
  · simp only [if_neg c0, if_neg c1, if_neg c2]
    have c3 : S 2 p.toNat = 3 := by omega
    refine ⟨fun j hj => ?_, fun w => ?_⟩
    · have : j = 0 ∨ j = 1 ∨ j = 2 := by omega
      rcases this with rfl | rfl | rfl
      · rw [z0.1, z0.2]; exact List.mem_cons_self ..
      · rw [z1.1, z1.2]; exact List.mem_cons_of_mem _ (List.mem_cons_self ..)
      · rw [z2.1, z2.2]; exact List.mem_cons_of_mem _ (List.mem_cons_of_mem _ (List.mem_singleton.mpr rfl))
    · rw [c3]
      show w (S 3 (3 * p + ((0 : Nat) : Int)).toNat) f one + (w (S 3 (3 * p + ((1 : Nat) : Int)).toNat) one two + (w (S 3 (3 * p + ((2 : Nat) : Int)).toNat) two t + 0)) = 0 + w (S 3 (3 * p + ((0 : Nat) : Int)).toNat) f one + w (S 3 (3 * p + ((1 : Nat) : Int)).toNat) one two + w (S 3 (3 * p + ((2 : Nat) : Int)).toNat) two t
      omega
theorem dnE_mem {S : Mm} {p f one two t node : Int} : ∀ (j : Nat) (l : List Ent) (x : Ent), x ∈ dnE S p f one two t node j l ↔ x ∈ l ∨ ∃ i : Nat, i < j ∧ S 3 (3 * p + i).toNat < 4 ∧ x = (S 3 (3 * p + i).toNat, enC f one two t i, enC f one two t ((i : Int) + 1), node, (nch S p.toNat i : Int)) := by
  intro j
  induction j with
  | zero => intro l x; exact ⟨fun h => Or.inl h, fun h => h.elim id fun ⟨i, h, _⟩ => absurd h (Nat.not_lt_zero _)⟩
  | succ j ih =>
    intro l x
    simp only [dnE]
    rw [ih]
    by_cases c : S 3 (3 * p + (j : Int)).toNat < 4
    · rw [if_pos c, List.mem_append, List.mem_singleton]
      constructor
      · rintro ((h | h) | ⟨i, h1, h2⟩)
        · exact Or.inl h
        · exact Or.inr ⟨j, by omega, c, h⟩
        · exact Or.inr ⟨i, by omega, h2⟩
      · rintro (h | ⟨i, h1, h2, h3⟩)
        · exact Or.inl (Or.inl h)
        · by_cases e : i = j
          · subst e; exact Or.inl (Or.inr h3)
          · exact Or.inr ⟨i, by omega, h2, h3⟩
    · rw [if_neg c]
      constructor
      · rintro (h | ⟨i, h1, h2⟩)
        · exact Or.inl h
        · exact Or.inr ⟨i, by omega, h2⟩
      · rintro (h | ⟨i, h1, h2, h3⟩)
        · exact Or.inl h
        · by_cases e : i = j
          · subst e; exact absurd h2 c
          · exact Or.inr ⟨i, by omega, h2, h3⟩
theorem dnE_sum {S : Mm} {p f one two t node : Int} {W : Nat → Int} : ∀ (j : Nat) (l : List Ent), (∀ i : Nat, i < j → ¬ S 3 (3 * p + i).toNat < 4 → W (wix (S 3 (3 * p + i).toNat) (enC f one two t i) (enC f one two t ((i : Int) + 1))) % 100000 = 0) → sumE W (dnE S p f one two t node j l) = sumE W l + sumN (fun i => W (wix (S 3 (3 * p + i).toNat) (enC f one two t i) (enC f one two t ((i : Int) + 1))) % 100000) j := by
  intro j
  induction j with
  | zero => intro l _; simp [dnE, sumN]
  | succ j ih =>
    intro l h
    simp only [dnE, sumN]
    rw [ih _ fun i hi => h i (by omega)]
    by_cases c : S 3 (3 * p + (j : Int)).toNat < 4
    · rw [if_pos c, sumE_app]
      simp only [sumE, ndW]
      omega
    · rw [if_neg c, h j (Nat.lt_succ_self _) c]
      omega
def PwE (l : List Ent) : Prop := l.Pairwise fun x y => x.2.2.2.1 < y.2.2.2.1 ∨ (x.2.2.2.1 = y.2.2.2.1 ∧ y.2.2.2.2 < x.2.2.2.2)
theorem dnE_pw {S : Mm} {p f one two t node : Int} (p0 : 0 ≤ p) : ∀ (j : Nat) (l : List Ent), PwE l → (∀ x ∈ l, x.2.2.2.1 < node ∨ (x.2.2.2.1 = node ∧ (nch S p.toNat j : Int) ≤ x.2.2.2.2)) → PwE (dnE S p f one two t node j l) := by
  intro j
  induction j with
  | zero => exact fun l h _ => h
  | succ j ih =>
    intro l h hx
    have hs := nch_step S p0 j
    simp only [dnE]
    by_cases c : S 3 (3 * p + (j : Int)).toNat < 4
    · rw [if_pos c] at hs ⊢
      refine ih _ ?_ fun x hm => ?_
      · unfold PwE
        rw [List.pairwise_append]
        refine ⟨h, List.pairwise_singleton _ _, fun x hm y hy => ?_⟩
        have := List.mem_singleton.mp hy
        subst this
        have := hx x hm
        simp only
        omega
      · rcases List.mem_append.mp hm with q | q
        · have := hx x q
          omega
        · have := List.mem_singleton.mp q
          subst this
          exact Or.inr ⟨rfl, Int.le_refl _⟩
    · rw [if_neg c] at hs ⊢
      exact ih _ h fun x hm => by have := hx x hm; omega
theorem nch_all (S : Mm) {p : Int} (p0 : 0 ≤ p) : ∀ (n c : Nat), c < nch S p.toNat n → ∃ i : Nat, i < n ∧ S 3 (3 * p + i).toNat < 4 ∧ nch S p.toNat i = c := by
  intro n
  induction n with
  | zero => intro c h; exact absurd h (Nat.not_lt_zero _)
  | succ n ih =>
    intro c h
    have hs := nch_step S p0 n
    by_cases q : c < nch S p.toNat n
    · obtain ⟨i, i1, i2, i3⟩ := ih c q
      exact ⟨i, by omega, i2, i3⟩
    · by_cases z : S 3 (3 * p + (n : Int)).toNat < 4
      · rw [if_pos z] at hs
        exact ⟨n, Nat.lt_succ_self _, z, by omega⟩
      · rw [if_neg z] at hs
        omega
theorem nch_mono (S : Mm) {p : Int} (p0 : 0 ≤ p) {i n : Nat} (h : i < n) (hi : S 3 (3 * p + i).toNat < 4) : nch S p.toNat i < nch S p.toNat n := by
  induction n with
  | zero => exact absurd h (Nat.not_lt_zero _)
  | succ n ih =>
    have hs := nch_step S p0 n
    by_cases c : i = n
    · subst c
      rw [if_pos hi] at hs
      omega
    · have := ih (by omega)
      split at hs <;> omega
