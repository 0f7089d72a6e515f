/-! bits of words -/
theorem Ii_jor (a b : Int) : Ii (jor a b) = Ii a ||| Ii b := Ii_of _
theorem jor_assoc (a b c : Int) : jor (jor a b) c = jor a (jor b c) := by
  have h1 := Ii_jor a b
  have h2 := Ii_jor b c
  show (Ii (jor a b) ||| Ii c).toInt = (Ii a ||| Ii (jor b c)).toInt
  rw [h1, h2, Int32.or_assoc]
theorem jor_i32 (a b : Int) : i32 (jor a b) := i32_of _
theorem jor_zero {a : Int} (h : i32 a) : jor a 0 = a := by
  unfold jor
  rw [show Ii 0 = 0 from rfl, Int32.or_zero]
  exact Ii_toInt h
theorem ii_ext {a b : Int32} (h : ∀ i, i < 32 → a.toBitVec.getLsbD i = b.toBitVec.getLsbD i) : a = b := Int32.toBitVec_inj.mp (BitVec.eq_of_getLsbD_eq h)
theorem jand_one (a : Int) : jand a 1 = 0 ∨ jand a 1 = 1 := by
  have h1 : ∀ i, i < 32 → (Ii 1).toBitVec.getLsbD i = decide (i = 0) := by decide
  have h0 : ∀ i, i < 32 → (Ii 0).toBitVec.getLsbD i = false := by decide
  by_cases h : (Ii a).toBitVec.getLsbD 0 = true
  · right
    have : Ii a &&& Ii 1 = Ii 1 := ii_ext fun i hi => by
      rw [Int32.toBitVec_and, BitVec.getLsbD_and, h1 i hi]
      by_cases e : i = 0
      · subst e; simp [h]
      · simp [e]
    unfold jand; rw [this]; rfl
  · left
    have : Ii a &&& Ii 1 = Ii 0 := ii_ext fun i hi => by
      rw [Int32.toBitVec_and, BitVec.getLsbD_and, h1 i hi, h0 i hi]
      by_cases e : i = 0
      · subst e; rw [Bool.not_eq_true] at h; rw [h]; rfl
      · simp [e]
    unfold jand; rw [this]; rfl
theorem jand_jor (b x y : Int) : jand b (jor x y) = jor (jand b x) (jand b y) := by
  have h1 := Ii_jor x y
  show (Ii b &&& Ii (jor x y)).toInt = (Ii (Ii b &&& Ii x).toInt ||| Ii (Ii b &&& Ii y).toInt).toInt
  rw [h1, Ii_of, Ii_of]
  refine congrArg Int32.toInt (ii_ext fun i hi => ?_)
  simp only [Int32.toBitVec_and, Int32.toBitVec_or, BitVec.getLsbD_and, BitVec.getLsbD_or]
  cases (Ii b).toBitVec.getLsbD i <;> simp
theorem jand_zero (b : Int) : jand b 0 = 0 := by
  unfold jand; rw [show Ii 0 = 0 from rfl, Int32.and_zero]; rfl
theorem jor_new (b r : Int) (hb : i32 b) : jand r (jxor b (-1)) = 0 ↔ jor b r = b := by
  have hm : ∀ i, i < 32 → (Ii (-1)).toBitVec.getLsbD i = true := by decide
  have h0 : ∀ i, i < 32 → (Ii 0).toBitVec.getLsbD i = false := by decide
  have e1 : jand r (jxor b (-1)) = (Ii r &&& (Ii b ^^^ Ii (-1))).toInt := by
    show (Ii r &&& Ii (Ii b ^^^ Ii (-1)).toInt).toInt = _
    rw [Ii_of]
  rw [e1]
  constructor
  · intro h
    have h2 : Ii r &&& (Ii b ^^^ Ii (-1)) = Ii 0 := Ii_eq h
    have h3 : Ii b ||| Ii r = Ii b := ii_ext fun i hi => by
      have h4 := congrArg (fun x : Int32 => x.toBitVec.getLsbD i) h2
      simp only [Int32.toBitVec_and, Int32.toBitVec_xor, BitVec.getLsbD_and, BitVec.getLsbD_xor, hm i hi, h0 i hi] at h4
      simp only [Int32.toBitVec_or, BitVec.getLsbD_or]
      revert h4
      cases (Ii b).toBitVec.getLsbD i <;> cases (Ii r).toBitVec.getLsbD i <;> simp
    unfold jor; rw [h3, Ii_toInt hb]
  · intro h
    have h3 : Ii b ||| Ii r = Ii b := Ii_eq h
    have h2 : Ii r &&& (Ii b ^^^ Ii (-1)) = Ii 0 := ii_ext fun i hi => by
      have h4 := congrArg (fun x : Int32 => x.toBitVec.getLsbD i) h3
      simp only [Int32.toBitVec_or, BitVec.getLsbD_or] at h4
      simp only [Int32.toBitVec_and, Int32.toBitVec_xor, BitVec.getLsbD_and, BitVec.getLsbD_xor, hm i hi, h0 i hi]
      revert h4
      cases (Ii b).toBitVec.getLsbD i <;> cases (Ii r).toBitVec.getLsbD i <;> simp
    rw [h2]; rfl
theorem jand_mask {b m : Int} (hm : 0 ≤ m ∧ m < 64) : 0 ≤ jand b m ∧ jand b m < 64 := by
  have h1 : (Ii m).toBitVec.toNat < 64 := by
    have h2 := Ii_toInt (v := m) (by unfold i32; omega)
    have h3 : (Ii m).toBitVec.toInt = m := h2
    rw [BitVec.toInt_eq_toNat_cond] at h3
    split at h3 <;> omega
  have h2 : (Ii b &&& Ii m).toBitVec.toNat < 64 := by
    rw [Int32.toBitVec_and, BitVec.toNat_and]
    have := Nat.and_le_right (n := (Ii b).toBitVec.toNat) (m := (Ii m).toBitVec.toNat)
    omega
  have h3 : jand b m = (Ii b &&& Ii m).toBitVec.toInt := rfl
  rw [h3, BitVec.toInt_eq_toNat_cond]
  split <;> omega
theorem jor_64 : ∀ x y : Fin 64, 0 ≤ jor (x.val : Int) (y.val : Int) ∧ jor (x.val : Int) (y.val : Int) < 64 := by decide +kernel
theorem bit_64 : ∀ r : Fin 64, ∀ i : Fin 6, (jand (jshr (r.val : Int) (i.val : Int)) 1 = 0) ↔ r.val / 2 ^ i.val % 2 = 0 := by decide +kernel
theorem shl_64 : ∀ r : Fin 64, ∀ i : Fin 6, ∀ c : Fin 3, r.val / 2 ^ i.val % 2 = 1 → jor (jshl ((r.val % 2 ^ i.val : Nat) : Int) ((6 + 6 * c.val : Nat) : Int)) (jshl 1 ((6 + 6 * c.val + i.val : Nat) : Int)) = jshl ((r.val % 2 ^ (i.val + 1) : Nat) : Int) ((6 + 6 * c.val : Nat) : Int) := by decide +kernel
theorem shl_64n : ∀ r : Fin 64, ∀ i : Fin 6, r.val / 2 ^ i.val % 2 = 0 → r.val % 2 ^ (i.val + 1) = r.val % 2 ^ i.val := by decide +kernel
def pc6 (n : Nat) : Nat := n % 2 + n / 2 % 2 + n / 4 % 2 + n / 8 % 2 + n / 16 % 2 + n / 32 % 2
theorem pc_64 : ∀ x y : Fin 64, jor (x.val : Int) (y.val : Int) = x.val ∨ pc6 x.val < pc6 (jor (x.val : Int) (y.val : Int)).toNat := by decide +kernel
/-! what hangs on what in a production -/
def fo {α : Type} (g : Nat → α → α) : Nat → α → α
  | 0, x => x
  | n + 1, x => g n (fo g n x)
def addE (f : Nat → Int) (v : Nat) (w : Int) : Nat → Int := se f v (jor (f v) (jshl 1 w))
def vtx (t a : Int) : Int := 6 * (t + 1) + a
def eStep (S : Mm) (p : Int) (h k v : Nat) (i : Nat) (f : Nat → Int) : Nat → Int :=
  if eK S k i = 1 then (if S 12 (eA S k i).toNat ≤ 1 then addE f v (eA S k i) else f)
  else if eK S k i = 2 then (if S 12 (eA S k i).toNat ≤ 1 ∧ eB S k i < S 4 (S 16 k).toNat then addE f v (vtx (stand S p h (eB S k i)) (eA S k i)) else f) else f
def alE (S : Mm) (p a t : Int) (f : Nat → Int) : Nat → Int :=
  if rsv S p a t = -1 then (if t = -1 then f else addE f (vtx t a).toNat a)
  else fo (fun k f => if mt S (shown S p (rsh S p a t)) a (there S p (rsh S p a t) t) k = true then fo (eStep S p (rsh S p a t) k (vtx t a).toNat) (eN S k) f else f) (S 0 19).toNat f
def chE (S : Mm) (rl : Nat → Int) (p a c : Int) (f : Nat → Int) : Nat → Int :=
  if S 12 a.toNat = 1 then alE S p a c f else if S 12 a.toNat = 0 then se f (vtx c a).toNat (jor (f (vtx c a).toNat) (jshl (rl (6 * S 5 (3 * p + c).toNat + a).toNat) (vtx c 0))) else f
def atE (S : Mm) (rl : Nat → Int) (p : Int) (a : Nat) (f : Nat → Int) : Nat → Int :=
  fo (fun c f => chE S rl p a c f) (S 4 p.toNat).toNat (if S 12 a = 0 then alE S p a (-1) f else f)
def clI (j : Nat) (f : Nat → Int) : Nat → Int := fo (fun k f => se f k (jor (f k) (if jand (jshr (f k) j) 1 = 1 then f j else 0))) 24 f
def drE (S : Mm) (rl : Nat → Int) (p : Int) (f : Nat → Int) : Nat → Int := fo clI 24 (fo (atE S rl p) (S 0 12).toNat f)
def dwn (S : Mm) : Int := fo (fun a x => jor x (if S 12 a = 1 then jshl 1 a else 0)) (S 0 12).toNat 0
def stE (S : Mm) (e : Nat → Int) (a : Nat) : Int := if S 12 a = 0 then jand (e a) (dwn S) else 0
def tlE (S : Mm) (e : Nat → Int) (p : Int) (a : Nat) (q : (Nat → Int) × Int) : (Nat → Int) × Int :=
  (se q.1 (6 * S 1 p.toNat + a).toNat (jor (q.1 (6 * S 1 p.toNat + a).toNat) (stE S e a)), if q.2 ≠ 0 ∨ jor (q.1 (6 * S 1 p.toNat + a).toNat) (stE S e a) ≠ q.1 (6 * S 1 p.toNat + a).toNat then 1 else 0)
def tl (S : Mm) (e : Nat → Int) (p : Int) (q : (Nat → Int) × Int) : (Nat → Int) × Int := fo (tlE S e p) (S 0 12).toNat q
/-- the edges begin at 0 -/
def z24 (f : Nat → Int) : Nat → Int := fun i => if i < 24 then 0 else f i
/-- a turn: each production's graph, then its relations -/
def tnP (S : Mm) (p : Nat) (q : (Nat → Int) × (Nat → Int) × Int) : (Nat → Int) × (Nat → Int) × Int :=
  (drE S q.2.1 p (z24 q.1), tl S (drE S q.2.1 p (z24 q.1)) p q.2)
def hr (e : Nat → Int) : Nat → Bool
  | 0 => false
  | n + 1 => hr e n || decide (jand (jshr (e n) n) 1 = 1)
/-! agreement below 24 -/
def e24 (f f' : Nat → Int) : Prop := ∀ i, i < 24 → f i = f' i
theorem e24.lay {f f' : Nat → Int} (h : e24 f f') (v : Nat) {x x' : Int} (hx : x = x') : e24 (se f v x) (se f' v x') := fun i hi => by
  unfold se
  by_cases e : i = v
  · rw [if_pos e, if_pos e, hx]
  · rw [if_neg e, if_neg e, h i hi]
theorem fo_rel {α : Type} {R : α → α → Prop} {g g' : Nat → α → α} : ∀ n, (∀ i x x', i < n → R x x' → R (g i x) (g' i x')) → ∀ x x', R x x' → R (fo g n x) (fo g' n x') := by
  intro n
  induction n with
  | zero => exact fun _ _ _ h => h
  | succ n ih => exact fun h x x' hx => h n _ _ (by omega) (ih (fun i x x' hi => h i x x' (by omega)) x x' hx)
theorem e24.add_ {f f' : Nat → Int} (h : e24 f f') {v : Nat} (hv : v < 24) (w : Int) : e24 (addE f v w) (addE f' v w) := h.lay v (by rw [h v hv])
theorem vtx_lt {t a : Int} (ht : -1 ≤ t ∧ t < 3) (ha : 0 ≤ a ∧ a < 6) : 0 ≤ vtx t a ∧ vtx t a < 24 := by unfold vtx; omega
theorem e24.al_ {S : Mm} {f f' : Nat → Int} (h : e24 f f') (p : Int) {a t : Int} (ht : -1 ≤ t ∧ t < 3) (ha : 0 ≤ a ∧ a < 6) : e24 (alE S p a t f) (alE S p a t f') := by
  have hv := vtx_lt ht ha
  unfold alE
  by_cases c : rsv S p a t = -1
  · rw [if_pos c, if_pos c]
    by_cases c1 : t = -1
    · rw [if_pos c1, if_pos c1]; exact h
    · rw [if_neg c1, if_neg c1]; exact h.add_ (by omega) a
  · rw [if_neg c, if_neg c]
    refine fo_rel (R := e24) _ (fun k x x' hk hx => ?_) f f' h
    split
    · refine fo_rel (R := e24) _ (fun i y y' hi hy => ?_) x x' hx
      unfold eStep
      repeat' split
      all_goals first | exact hy | exact hy.add_ (by omega) _
    · exact hx
theorem e24.ch_ {S : Mm} {rl rl' f f' : Nat → Int} (h : e24 f f') (hr : e24 rl rl') {p a c : Int} (hc : 0 ≤ c ∧ c < 3) (ha : 0 ≤ a ∧ a < 6) (h5 : 0 ≤ S 5 (3 * p + c).toNat ∧ S 5 (3 * p + c).toNat ≤ 3) : e24 (chE S rl p a c f) (chE S rl' p a c f') := by
  have hv := vtx_lt (t := c) (by omega) ha
  unfold chE
  split
  · exact h.al_ p (by omega) ha
  · split
    · exact h.lay _ (by rw [h _ (by omega), hr _ (by omega)])
    · exact h
theorem e24.dr_ {S : Mm} (hg : Okg S) {rl rl' f f' : Nat → Int} (h : e24 f f') (hr : e24 rl rl') {p : Int} (hp : 0 ≤ p ∧ p < S 0 0) : e24 (drE S rl p f) (drE S rl' p f') := by
  have h12 := hg.2.1
  have h4 := chl_le hg hp
  unfold drE
  refine fo_rel (R := e24) 24 (fun j x x' hj hx => ?_) _ _ (fo_rel (R := e24) _ (fun a x x' ha hx => ?_) f f' h)
  · unfold clI
    refine fo_rel (R := e24) 24 (fun k y y' hk hy => ?_) x x' hx
    exact hy.lay k (by rw [hy k hk, hy j hj])
  · unfold atE
    refine fo_rel (R := e24) _ (fun c y y' hc hy => ?_) _ _ ?_
    · exact hy.ch_ hr (by omega) (by omega) ((hg.2.2.2.1 p hp.1 hp.2).2.2.2.2.2.2.1 c (by omega) (by omega))
    · split
      · exact hx.al_ p (by decide) (by omega)
      · exact hx
theorem z24_e (f f' : Nat → Int) : e24 (z24 f) (z24 f') := fun i hi => by unfold z24; rw [if_pos hi, if_pos hi]
def eq3 (q q' : (Nat → Int) × Int) : Prop := e24 q.1 q'.1 ∧ q.2 = q'.2
theorem eq3.tl_ {S : Mm} (hg : Okg S) {e e' : Nat → Int} {q q' : (Nat → Int) × Int} (h : eq3 q q') (he : e24 e e') {p : Int} (hp : 0 ≤ p ∧ p < S 0 0) : eq3 (tl S e p q) (tl S e' p q') := by
  have h12 := hg.2.1
  have h1 := (hg.2.2.2.1 p hp.1 hp.2).1
  unfold tl
  refine fo_rel (R := eq3) _ (fun a x x' ha hx => ?_) q q' h
  have hs : stE S e a = stE S e' a := by unfold stE; rw [he a (by omega)]
  unfold tlE
  rw [hs, hx.1 _ (by omega), hx.2]
  exact ⟨hx.1.lay _ rfl, rfl⟩
theorem hr_e24 {e e' : Nat → Int} (h : e24 e e') : ∀ n, n ≤ 24 → hr e n = hr e' n := by
  intro n
  induction n with
  | zero => exact fun _ => rfl
  | succ n ih => intro hn; simp only [hr]; rw [ih (by omega), h n (by omega)]
