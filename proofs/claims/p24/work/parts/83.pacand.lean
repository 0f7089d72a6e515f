/-! the least candidate of a production, by the weights alone -/
def tq (S : Mm) (W : Nat → Int) : Nat → Int := fun i => (wg S W (fun _ => 0) ((i / 169 : Nat) : Int) 1 ((i % 169 / 13 : Nat) : Int) ((i % 13 : Nat) : Int)).1
theorem tq_at {S : Mm} {W T : Nat → Int} {p e t : Int} (hp : 0 ≤ p ∧ p < 10) (he : 0 ≤ e ∧ e ≤ 12) (ht : 0 ≤ t ∧ t ≤ 12) (h3 : S 2 p.toNat = 3) : tq S W (wix p e t) = (wg S W T p 1 e t).1 := by
  have h := wix_lt hp he ht
  have e1 : ((wix p e t / 169 : Nat) : Int) = p := by omega
  have e2 : ((wix p e t % 169 / 13 : Nat) : Int) = e := by omega
  have e3 : ((wix p e t % 13 : Nat) : Int) = t := by omega
  unfold tq
  rw [e1, e2, e3, wg1 h3, wg1 h3]
def cq (S : Mm) (W : Nat → Int) (p f t : Int) : Int := cn9 S W (tq S W) p f t
theorem tq_tl {S : Mm} {W : Nat → Int} {p t : Int} (hp : 0 ≤ p ∧ p < 10) {f : Int} (f0 : 0 ≤ f) (t12 : t ≤ 12) : ∀ e, f ≤ e → e ≤ t → TlC S W (tq S W) p e t := fun e h1 h2 h3 => tq_at hp ⟨by omega, by omega⟩ ⟨by omega, by omega⟩ h3
theorem cn9_cq {S : Mm} {W T : Nat → Int} {p f t : Int} (hp : 0 ≤ p ∧ p < 10) (f0 : 0 ≤ f) (ft : f ≤ t) (t12 : t ≤ 12) (hn : S 2 p.toNat ≤ 3) (hT : ∀ e, f ≤ e → e ≤ t → TlC S W T p e t) : cn9 S W T p f t = cq S W p f t := by
  unfold cq cn9 wg
  by_cases c0 : S 2 p.toNat = 0
  · rw [if_pos c0, if_pos c0]
  rw [if_neg c0, if_neg c0]
  by_cases c1 : S 2 p.toNat - 1 ≤ 0
  · rw [if_pos c1, if_pos c1]
  rw [if_neg c1, if_neg c1]
  by_cases c2 : S 2 p.toNat - 1 ≤ 0 + 1
  · rw [if_pos c2, if_pos c2]
  rw [if_neg c2, if_neg c2]
  refine congrArg (fun r : Int × Int => r.1 + 1) (mnl_congr _ _ _ fun x h1 h2 => ?_)
  have h3 : S 2 p.toNat = 3 := by omega
  have q1 := hT x h1 (by omega) h3
  have q2 := tq_at (S := S) (W := W) (T := T) hp (e := x) (t := t) ⟨by omega, by omega⟩ ⟨by omega, by omega⟩ h3
  rw [q1, q2]
theorem wg1_nn {S : Mm} (hg : Okg S) {W : Nat → Int} (bW : RwB W) {T : Nat → Int} {p e t : Int} (hp : 0 ≤ p ∧ p < S 0 0) (he : 0 ≤ e) (et : e ≤ t) (t12 : t ≤ 12) (h3 : S 2 p.toNat = 3) : 0 ≤ (wg S W T p 1 e t).1 ∧ (wg S W T p 1 e t).1 ≤ 500000000 := by
  have hs := (hg.2.2.2.1 p hp.1 hp.2).2.2.2.2.2.1
  have s1 := hs 1 (by omega) (by omega)
  have s2 := hs 2 (by omega) (by omega)
  rw [wg1 h3]
  have sp := mnl_spec (fun b => W (wix (S 3 (3 * p + 1).toNat) e b) + W (wix (S 3 (3 * p + 2).toNat) b t)) (t - e + 1).toNat e (500000000, t)
  generalize mnl (fun b => W (wix (S 3 (3 * p + 1).toNat) e b) + W (wix (S 3 (3 * p + 2).toNat) b t)) (t - e + 1).toNat e (500000000, t) = r at sp ⊢
  obtain ⟨a1, -, a3⟩ := sp
  refine ⟨?_, a1⟩
  rcases a3 with ⟨q, -⟩ | ⟨q1, q2, q3, -⟩
  · rw [q]; exact (show (0 : Int) ≤ 500000000 by decide)
  · have h1 := bW _ (wix_lt (a := S 3 (3 * p + 1).toNat) (f := e) (t := r.2) (by omega) (by omega) (by omega)).1
    have h2 := bW _ (wix_lt (a := S 3 (3 * p + 2).toNat) (f := r.2) (t := t) (by omega) (by omega) (by omega)).1
    omega
theorem cq_bd {S : Mm} (hg : Okg S) {W : Nat → Int} (bW : RwB W) {p f t : Int} (hp : 0 ≤ p ∧ p < S 0 0) (f0 : 0 ≤ f) (ft : f ≤ t) (t12 : t ≤ 12) : 1 ≤ cq S W p f t ∧ cq S W p f t ≤ 500000001 := by
  have h10 := hg.1
  have hP := hg.2.2.2.1 p hp.1 hp.2
  have hn := hP.2.1
  have hs := hP.2.2.2.2.2.1
  unfold cq cn9
  by_cases c0 : S 2 p.toNat = 0
  · unfold wg; rw [if_pos c0]; simp only; omega
  have s0 := hs 0 (by omega) (by omega)
  by_cases c1 : S 2 p.toNat - 1 ≤ 0
  · unfold wg
    rw [if_neg c0, if_pos c1]
    have := bW _ (wix_lt (a := S 3 (3 * p + 0).toNat) (f := f) (t := t) (by omega) (by omega) (by omega)).1
    simp only
    omega
  by_cases c2 : S 2 p.toNat - 1 ≤ 0 + 1
  · have s1 := hs 1 (by omega) (by omega)
    have e2 : S 2 p.toNat = 2 := by omega
    unfold wg
    rw [if_neg c0, if_neg c1, if_pos c2, e2]
    have sp := mnl_spec (fun e => W (wix (S 3 (3 * p + 0).toNat) f e) + W (wix (S 3 (3 * p + (2 - 1)).toNat) e t)) (t - f + 1).toNat f (500000000, t)
    generalize mnl (fun e => W (wix (S 3 (3 * p + 0).toNat) f e) + W (wix (S 3 (3 * p + (2 - 1)).toNat) e t)) (t - f + 1).toNat f (500000000, t) = r at sp ⊢
    obtain ⟨a1, -, a3⟩ := sp
    simp only at a1
    rcases a3 with ⟨q, -⟩ | ⟨q1, q2, q3, -⟩
    · rw [q]; exact (show (1 : Int) ≤ 500000000 + 1 ∧ (500000000 : Int) + 1 ≤ 500000001 by decide)
    · have h1 := bW _ (wix_lt (a := S 3 (3 * p + 0).toNat) (f := f) (t := r.2) (by omega) (by omega) (by omega)).1
      have h2 := bW _ (wix_lt (a := S 3 (3 * p + (2 - 1)).toNat) (f := r.2) (t := t) (by rw [show (3 * p + (2 - 1) : Int) = 3 * p + 1 by omega]; omega) (by omega) (by omega)).1
      omega
  · have c3 : S 2 p.toNat = 3 := by omega
    unfold wg
    rw [if_neg c0, if_neg c1, if_neg c2]
    have sp := mnl_spec (fun e => W (wix (S 3 (3 * p + 0).toNat) f e) + tq S W (wix p e t)) (t - f + 1).toNat f (500000000, t)
    generalize mnl (fun e => W (wix (S 3 (3 * p + 0).toNat) f e) + tq S W (wix p e t)) (t - f + 1).toNat f (500000000, t) = r at sp ⊢
    obtain ⟨a1, -, a3⟩ := sp
    simp only at a1
    rcases a3 with ⟨q, -⟩ | ⟨q1, q2, q3, -⟩
    · rw [q]; exact (show (1 : Int) ≤ 500000000 + 1 ∧ (500000000 : Int) + 1 ≤ 500000001 by decide)
    · have h1 := bW _ (wix_lt (a := S 3 (3 * p + 0).toNat) (f := f) (t := r.2) (by omega) (by omega) (by omega)).1
      have h2 := wg1_nn hg bW (T := fun _ => 0) hp (e := r.2) (t := t) (by omega) (by omega) t12 c3
      have h3 := tq_at (S := S) (W := W) (T := fun _ => 0) (p := p) (by omega) (e := r.2) (t := t) (by omega) (by omega) c3
      omega
theorem cq_le {S : Mm} (hg : Okg S) {W : Nat → Int} {p f t a b : Int} (hp : 0 ≤ p ∧ p < S 0 0) (f0 : 0 ≤ f) (t12 : t ≤ 12) (h1 : f ≤ a) (h2 : a ≤ b) (h3 : b ≤ t) : cq S W p f t ≤ cdv S 100000 (wOf W) p f a b t := cn9_le hg hp (tq_tl ⟨hp.1, by have := hg.1; omega⟩ f0 t12) h1 h2 h3
theorem cq_at {S : Mm} (hg : Okg S) {W : Nat → Int} (bW : RwB W) {p f t : Int} (hp : 0 ≤ p ∧ p < S 0 0) (f0 : 0 ≤ f) (ft : f ≤ t) (t12 : t ≤ 12) (hE : cq S W p f t ≤ 500000000) : ∃ a b, f ≤ a ∧ a ≤ b ∧ b ≤ t ∧ cq S W p f t = cdv S 100000 (wOf W) p f a b t := by
  obtain ⟨a, b, h1, h2, h3, h4, -⟩ := cn9_at hg bW hp f0 ft t12 (tq_tl ⟨hp.1, by have := hg.1; omega⟩ f0 t12) hE
  exact ⟨a, b, h1, h2, h3, h4⟩
theorem cq_congr {S : Mm} (hg : Okg S) {W W' : Nat → Int} {p f t : Int} (hp : 0 ≤ p ∧ p < S 0 0) (f0 : 0 ≤ f) (ft : f ≤ t) (t12 : t ≤ 12) (h : ∀ c e b : Int, 0 ≤ c → c ≤ 9 → f ≤ e → e ≤ b → b ≤ t → W' (wix c e b) = W (wix c e b)) : cq S W' p f t = cq S W p f t := by
  have h10 := hg.1
  have hP := hg.2.2.2.1 p hp.1 hp.2
  have hn := hP.2.1
  have hs := hP.2.2.2.2.2.1
  unfold cq cn9 wg
  by_cases c0 : S 2 p.toNat = 0
  · rw [if_pos c0, if_pos c0]
  rw [if_neg c0, if_neg c0]
  have s0 := hs 0 (by omega) (by omega)
  by_cases c1 : S 2 p.toNat - 1 ≤ 0
  · rw [if_pos c1, if_pos c1, h _ f t s0.1 s0.2 (Int.le_refl _) ft (Int.le_refl _)]
  rw [if_neg c1, if_neg c1]
  by_cases c2 : S 2 p.toNat - 1 ≤ 0 + 1
  · have s1 := hs (S 2 p.toNat - 1) (by omega) (by omega)
    rw [if_pos c2, if_pos c2]
    refine congrArg (fun r : Int × Int => r.1 + 1) (mnl_congr _ _ _ fun x h1 h2 => ?_)
    rw [h _ f x s0.1 s0.2 (Int.le_refl _) h1 (by omega), h _ x t s1.1 s1.2 h1 (by omega) (Int.le_refl _)]
  · rw [if_neg c2, if_neg c2]
    have h3 : S 2 p.toNat = 3 := by omega
    have s1 := hs 1 (by omega) (by omega)
    have s2 := hs 2 (by omega) (by omega)
    refine congrArg (fun r : Int × Int => r.1 + 1) (mnl_congr _ _ _ fun x h1 h2 => ?_)
    rw [h _ f x s0.1 s0.2 (Int.le_refl _) h1 (by omega), tq_at (T := fun _ => 0) ⟨hp.1, by omega⟩ ⟨by omega, by omega⟩ ⟨by omega, by omega⟩ h3, tq_at (T := fun _ => 0) ⟨hp.1, by omega⟩ ⟨by omega, by omega⟩ ⟨by omega, by omega⟩ h3, wg1 h3, wg1 h3]
    refine congrArg (fun r : Int × Int => _ + r.1) (mnl_congr _ _ _ fun y g1 g2 => ?_)
    rw [h _ x y s1.1 s1.2 h1 g1 (by omega), h _ y t s2.1 s2.2 (by omega) (by omega) (Int.le_refl _)]
theorem wg1_congr {S : Mm} (hg : Okg S) {W W' T T' : Nat → Int} {p f t : Int} (hp : 0 ≤ p ∧ p < S 0 0) (h3 : S 2 p.toNat = 3) (ft : f ≤ t) (h : ∀ c e b : Int, 0 ≤ c → c ≤ 9 → f ≤ e → e ≤ b → b ≤ t → W' (wix c e b) = W (wix c e b)) : (wg S W' T' p 1 f t).1 = (wg S W T p 1 f t).1 := by
  have hs := (hg.2.2.2.1 p hp.1 hp.2).2.2.2.2.2.1
  have s1 := hs 1 (by omega) (by omega)
  have s2 := hs 2 (by omega) (by omega)
  rw [wg1 h3, wg1 h3]
  refine congrArg (fun r : Int × Int => r.1) (mnl_congr _ _ _ fun y g1 g2 => ?_)
  rw [h _ f y s1.1 s1.2 (Int.le_refl _) g1 (by omega), h _ y t s2.1 s2.2 g1 (by omega) (Int.le_refl _)]
/-! the four cells of a stretch -/
def lay4 (W : Nat → Int) (f t : Int) (x : Nat → Int) : Nat → Int := fun i => if i = wix 0 f t then x 0 else if i = wix 1 f t then x 1 else if i = wix 2 f t then x 2 else if i = wix 3 f t then x 3 else W i
theorem lay4_at {W : Nat → Int} {f t : Int} (f0 : 0 ≤ f ∧ f ≤ 12) (t0 : 0 ≤ t ∧ t ≤ 12) (x : Nat → Int) {B : Nat} (hB : B < 4) : lay4 W f t x (wix (B : Int) f t) = x B := by
  unfold lay4 wix
  have : B = 0 ∨ B = 1 ∨ B = 2 ∨ B = 3 := by omega
  rcases this with rfl | rfl | rfl | rfl
  · rw [if_pos (by omega)]
  · rw [if_neg (by omega), if_pos (by omega)]
  · rw [if_neg (by omega), if_neg (by omega), if_pos (by omega)]
  · rw [if_neg (by omega), if_neg (by omega), if_neg (by omega), if_pos (by omega)]
theorem lay4_ne {W : Nat → Int} {f t : Int} (x : Nat → Int) {i : Nat} (h : ∀ B : Nat, B < 4 → i ≠ wix (B : Int) f t) : lay4 W f t x i = W i := by
  unfold lay4
  rw [if_neg (c := i = wix 0 f t) (h 0 (by decide)), if_neg (c := i = wix 1 f t) (h 1 (by decide)), if_neg (c := i = wix 2 f t) (h 2 (by decide)), if_neg (c := i = wix 3 f t) (h 3 (by decide))]
theorem lay4_cases (f t : Int) (i : Nat) : (∃ B : Nat, B < 4 ∧ i = wix (B : Int) f t) ∨ ∀ B : Nat, B < 4 → i ≠ wix (B : Int) f t := by
  by_cases h : ∃ B : Nat, B < 4 ∧ i = wix (B : Int) f t
  · exact Or.inl h
  · exact Or.inr fun B hB e => h ⟨B, hB, e⟩
theorem lay4_self (W : Nat → Int) {f t : Int} (f0 : 0 ≤ f ∧ f ≤ 12) (t0 : 0 ≤ t ∧ t ≤ 12) : lay4 W f t (fun B => W (wix (B : Int) f t)) = W := by
  funext i
  rcases lay4_cases f t i with ⟨B, hB, rfl⟩ | h
  · rw [lay4_at f0 t0 _ hB]
  · exact lay4_ne _ h
theorem lay4_se {W : Nat → Int} {f t : Int} (f0 : 0 ≤ f ∧ f ≤ 12) (t0 : 0 ≤ t ∧ t ≤ 12) (x : Nat → Int) {B : Nat} (hB : B < 4) (v : Int) : se (lay4 W f t x) (wix (B : Int) f t) v = lay4 W f t (se x B v) := by
  funext i
  rcases lay4_cases f t i with ⟨A, hA, rfl⟩ | h
  · rw [lay4_at f0 t0 _ hA]
    by_cases e : A = B
    · subst e; rw [se_at, se_at]
    · rw [se_ne _ _ e, se_ne _ _ fun q => e (by have := wix_inj (by omega) f0 t0 (by omega) f0 t0 q; omega), lay4_at f0 t0 _ hA]
  · rw [lay4_ne _ h, se_ne _ _ (h B hB), lay4_ne _ h]
def D4 (x : Nat → Int) : Prop := ∀ B, B < 4 → 0 ≤ x B ∧ x B ≤ 500000000
theorem lay4_bd {W : Nat → Int} (bW : RwB W) {f t : Int} (f0 : 0 ≤ f ∧ f ≤ 12) (t0 : 0 ≤ t ∧ t ≤ 12) {x : Nat → Int} (hx : D4 x) : RwB (lay4 W f t x) := by
  intro i hi
  rcases lay4_cases f t i with ⟨A, hA, rfl⟩ | h
  · rw [lay4_at f0 t0 _ hA]; exact hx A hA
  · rw [lay4_ne _ h]; exact bW i hi
def cnS (S : Mm) (W : Nat → Int) (f t : Int) (p : Nat) (x : Nat → Int) : Int := cq S (lay4 W f t x) (p : Int) f t
def hdS (S : Mm) (p : Nat) : Nat := (S 1 p).toNat
theorem sW_lt {w w' : WsF} {l : List (Int × Int × Int)} (h : sW w l < sW w' l) : ∃ x ∈ l, w x.1 x.2.1 x.2.2 < w' x.1 x.2.1 x.2.2 := by
  refine Classical.byContradiction fun hn => ?_
  have := sW_mono (w := w') (w' := w) l fun x hx => by
    refine Classical.byContradiction fun q => hn ⟨x, hx, by omega⟩
  omega
theorem cnS_H {S : Mm} (hg : Okg S) {W : Nat → Int} (bW : RwB W) {f t : Int} (f0 : 0 ≤ f) (ft : f ≤ t) (t12 : t ≤ 12) : TnH (cnS S W f t) (hdS S) (S 0 0).toNat D4 := by
  have h10 := hg.1
  have fr : 0 ≤ f ∧ f ≤ 12 := by omega
  have tr : 0 ≤ t ∧ t ≤ 12 := by omega
  have hle : ∀ x y : Nat → Int, (∀ B, B < 4 → x B ≤ y B) → ∀ i, lay4 W f t x i ≤ lay4 W f t y i := fun x y h i => by
    rcases lay4_cases f t i with ⟨A, hA, rfl⟩ | q
    · rw [lay4_at fr tr _ hA, lay4_at fr tr _ hA]; exact h A hA
    · rw [lay4_ne _ q, lay4_ne _ q]; exact Int.le_refl _
  refine ⟨fun p hp => ?_, fun x hx B hB => (hx B hB).1, fun p x y hp hx hy h => ?_, fun p x y hp hx hy h hl => ?_, fun p x hp hx hl B hB => ?_⟩
  · have := (hg.2.2.2.1 p (by omega) (by omega)).1
    rw [Int.toNat_natCast] at this
    unfold hdS
    omega
  · have hpp : (0 : Int) ≤ (p : Int) ∧ (p : Int) < S 0 0 := by omega
    unfold cnS
    have b1 := cq_bd hg (lay4_bd bW fr tr hx) hpp f0 ft t12
    have b2 := cq_bd hg (lay4_bd bW fr tr hy) hpp f0 ft t12
    by_cases hE : cq S (lay4 W f t y) (p : Int) f t ≤ 500000000
    · obtain ⟨a, b, h1, h2, h3, h4⟩ := cq_at hg (lay4_bd bW fr tr hy) hpp f0 ft t12 hE
      have h5 := cq_le hg (W := lay4 W f t x) hpp f0 t12 h1 h2 h3
      have h6 := sW_mono (w := wOf (lay4 W f t x)) (w' := wOf (lay4 W f t y)) (pts S (p : Int) f a b t) fun z _ => hle x y h _
      unfold cdv at h4 h5
      omega
    · omega
  · have hpp : (0 : Int) ≤ (p : Int) ∧ (p : Int) < S 0 0 := by omega
    unfold cnS at hl ⊢
    have b2 := cq_bd hg (lay4_bd bW fr tr hy) hpp f0 ft t12
    obtain ⟨a, b, h1, h2, h3, h4⟩ := cq_at hg (lay4_bd bW fr tr hx) hpp f0 ft t12 (by omega)
    have h5 := cq_le hg (W := lay4 W f t y) hpp f0 t12 h1 h2 h3
    have hsum : sW (wOf (lay4 W f t x)) (pts S (p : Int) f a b t) < sW (wOf (lay4 W f t y)) (pts S (p : Int) f a b t) := by
      unfold cdv at h4 h5
      omega
    obtain ⟨z, z1, z2⟩ := sW_lt hsum
    have hok := pts_ok hg hpp h1 h2 h3
    have hz := hok z z1
    have hxn : ∀ q ∈ pts S (p : Int) f a b t, 0 ≤ wOf (lay4 W f t x) q.1 q.2.1 q.2.2 := fun q hq => by
      have := hok q hq
      exact (lay4_bd bW fr tr hx _ (wix_lt (by omega) (by omega) (by omega)).1).1
    have hm := sW_mem _ hxn z z1
    unfold wOf at z2 hm
    rcases lay4_cases f t (wix z.1 z.2.1 z.2.2) with ⟨B, hB, e⟩ | q
    · rw [e, lay4_at fr tr _ hB, lay4_at fr tr _ hB] at z2
      rw [e, lay4_at fr tr _ hB] at hm
      refine ⟨B, hB, z2, ?_⟩
      rw [h4]
      unfold cdv
      have h6 : 0 ≤ if S 2 (p : Int).toNat = 0 then 100000 * (t - f) else 0 := by split <;> omega
      have hm2 : x B ≤ sW (wOf (lay4 W f t x)) (pts S (p : Int) f a b t) := hm
      omega
    · rw [lay4_ne _ q, lay4_ne _ q] at z2
      exact absurd z2 (Int.lt_irrefl _)
  · have hpp : (0 : Int) ≤ (p : Int) ∧ (p : Int) < S 0 0 := by omega
    have b1 := cq_bd hg (lay4_bd bW fr tr hx) hpp f0 ft t12
    by_cases e : B = hdS S p
    · subst e
      rw [se_at]
      have := (hx _ hB).2
      unfold cnS at hl ⊢
      omega
    · rw [se_ne _ _ e]; exact hx B hB
/-- each cell has its ground -/
def Att (cn : Nat → (Nat → Int) → Int) (hd : Nat → Nat) (P : Nat) (x : Nat → Int) : Prop := ∀ A, A < 4 → x A = 500000000 ∨ ∃ p, p < P ∧ hd p = A ∧ cn p x ≤ x A
theorem tn_att {cn : Nat → (Nat → Int) → Int} {hd : Nat → Nat} {P : Nat} {D : (Nat → Int) → Prop} (H : TnH cn hd P D) {x : Nat → Int} (hx : D x) (h : Att cn hd P x) : ∀ k, k ≤ P → D (tnf cn hd k x) ∧ Att cn hd P (tnf cn hd k x) := by
  obtain ⟨H1, H2, H3, H4, H5⟩ := H
  intro k
  induction k with
  | zero => exact fun _ => ⟨hx, h⟩
  | succ k ih =>
    intro hk
    obtain ⟨i1, i2⟩ := ih (by omega)
    simp only [tnf]
    generalize tnf cn hd k x = y at i1 i2 ⊢
    by_cases cu : cn k y < y (hd k)
    · rw [if_pos cu]
      have hy' := H5 k y (by omega) i1 cu
      have hle : ∀ B, B < 4 → se y (hd k) (cn k y) B ≤ y B := fun B _ => by
        by_cases e : B = hd k
        · subst e; rw [se_at]; omega
        · rw [se_ne _ _ e]; exact Int.le_refl _
      refine ⟨hy', fun A hA => ?_⟩
      by_cases e : A = hd k
      · subst e
        refine Or.inr ⟨k, by omega, rfl, ?_⟩
        rw [se_at]
        exact H3 k _ y (by omega) hy' i1 hle
      · rw [se_ne _ _ e]
        rcases i2 A hA with q | ⟨p, p1, p2, p3⟩
        · exact Or.inl q
        · exact Or.inr ⟨p, p1, p2, Int.le_trans (H3 p _ y p1 hy' i1 hle) p3⟩
    · rw [if_neg cu]
      exact ⟨i1, i2⟩
