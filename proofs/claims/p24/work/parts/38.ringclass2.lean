theorem Wp_for {σ β : Type} {body : (σ → Option β) → σ → Option β} {Q : β → Prop} (n : Nat) (I : Nat → σ → Prop) (h1 : ∀ rc i s, i < n → I i s → (∀ s', I (i + 1) s' → Wp (rc s') Q) → Wp (body rc s) Q) (h2 : ∀ rc s, I n s → Wp (body rc s) Q) {f : Nat} (hf : n < f) {s : σ} (hs : I 0 s) : Wp (Lp body f s) Q := by
  have aux : ∀ k f, k ≤ n → k < f → ∀ s, I (n - k) s → Wp (Lp body f s) Q := by
    intro k
    induction k with
    | zero => intro f _ hf s hs; obtain ⟨g, rfl⟩ : ∃ g, f = g + 1 := ⟨f - 1, by omega⟩; exact h2 _ _ hs
    | succ k ih =>
      intro f hk hf s hs
      obtain ⟨g, rfl⟩ : ∃ g, f = g + 1 := ⟨f - 1, by omega⟩
      refine h1 _ (n - (k + 1)) s (by omega) hs fun s' hs' => ?_
      rw [show n - (k + 1) + 1 = n - k by omega] at hs'
      exact ih g (by omega) (by omega) s' hs'
  exact aux n f (Nat.le_refl _) hf s (by rw [Nat.sub_self]; exact hs)
theorem dwn_64 {S : Mm} (hg : Okg S) : 0 ≤ dwn S ∧ dwn S < 64 := by
  have h12 := hg.2.1
  have hb : ∀ a : Fin 6, 0 ≤ jshl 1 (a.val : Int) ∧ jshl 1 (a.val : Int) < 64 := by decide +kernel
  unfold dwn
  refine fo_ind (P := fun x => 0 ≤ x ∧ x < 64) _ (fun a x ha hx => ?_) 0 (by decide)
  have hy : 0 ≤ (if S 12 a = 1 then jshl 1 (a : Int) else 0) ∧ (if S 12 a = 1 then jshl 1 (a : Int) else 0) < 64 := by
    split
    · exact hb ⟨a, by omega⟩
    · decide
  have := jor_64 ⟨x.toNat, by omega⟩ ⟨(if S 12 a = 1 then jshl 1 (a : Int) else 0).toNat, by omega⟩
  simp only [Int.toNat_of_nonneg hx.1, Int.toNat_of_nonneg hy.1] at this
  exact this
theorem stE_64 {S : Mm} (hg : Okg S) (e : Nat → Int) (a : Nat) : 0 ≤ stE S e a ∧ stE S e a < 64 := by
  unfold stE
  split
  · exact jand_mask (dwn_64 hg)
  · decide
theorem c_downsOf {M S : Mm} (hM : CG M S) (hg : Okg S) (b : Int) : f_X6_downsOf b M = some (jand b (dwn S), M) := by
  have h12 := hg.2.1
  have hD : ∀ n, fo (fun (a : Nat) x => jor x (if S 12 a = 1 then jand b (jshl 1 a) else 0)) n 0 = jand b (fo (fun (a : Nat) x => jor x (if S 12 a = 1 then jshl 1 a else 0)) n 0) := by
    intro n
    induction n with
    | zero => exact (jand_zero b).symm
    | succ n ih =>
      simp only [fo]
      rw [jand_jor, ih]
      split
      · rfl
      · rw [jand_zero]
  have hcut := fo_cut (P := i32) (g := fun (a : Nat) x => jor x (if S 12 a = 1 then jand b (jshl 1 a) else 0)) (g' := fun (a : Nat) x => jor x (if (a : Int) < S 0 12 ∧ S 12 a = 1 then jand b (jshl 1 a) else 0)) (n := (S 0 12).toNat) (fun a x hx => jor_i32 _ _) (fun a x ha _ => by
    by_cases c : S 12 a = 1
    · rw [if_pos c, if_pos ⟨by omega, c⟩]
    · rw [if_neg c, if_neg fun q => c q.2]) (fun a x ha hx => by rw [if_neg (by omega), jor_zero hx]) 6 (by omega) 0 (by decide)
  unfold f_X6_downsOf
  simp only [LtE]
  rw [show jand b (dwn S) = fo (fun (a : Nat) x => jor x (if (a : Int) < S 0 12 ∧ S 12 a = 1 then jand b (jshl 1 a) else 0)) 6 0 by rw [hcut, hD]; rfl]
  refine Lp_for 6 (fun i => (fo (fun (a : Nat) x => jor x (if (a : Int) < S 0 12 ∧ S 12 a = 1 then jand b (jshl 1 a) else 0)) i 0, (i : Int), M)) (fun rc i hi => ?_) (fun rc => ?_) (FU_lt (by omega)) rfl
  · simp only [fo]
    generalize fo _ i 0 = x
    simp only [f_X6_downsOf_L4_21, LtE]
    rw [if_neg (by omega)]
    by_cases c : (i : Int) < S 0 12
    · rw [c_isOfKind hM hg ⟨by omega, c⟩, ClS, Int.toNat_natCast, wrE (by omega) (by omega)]
      by_cases c1 : S 12 i = 1
      · rw [if_pos c1, if_neg (by decide), if_pos ⟨c, c1⟩]; rfl
      · rw [if_neg c1, if_pos rfl, if_neg fun q => c1 q.2]; rfl
    · rw [c_isOfKindN hM hg (by omega) (by decide), ClS, if_pos rfl, if_neg fun q => c q.1, wrE (by omega) (by omega)]; rfl
  · simp only [f_X6_downsOf_L4_21, LtE]
    rw [if_pos (by omega)]
def b64 (f : Nat → Int) : Prop := ∀ i, i < 24 → 0 ≤ f i ∧ f i < 64
theorem b64.lay {f : Nat → Int} (h : b64 f) (v : Nat) {x : Int} (hx : 0 ≤ x ∧ x < 64) : b64 (se f v x) := fun i hi => by
  unfold se; split
  · exact hx
  · exact h i hi
theorem jor_b64 {x y : Int} (hx : 0 ≤ x ∧ x < 64) (hy : 0 ≤ y ∧ y < 64) : (0 ≤ jor x y ∧ jor x y < 64) ∧ (jor x y = x ∨ pc6 x.toNat < pc6 (jor x y).toNat) := by
  have h1 := jor_64 ⟨x.toNat, by omega⟩ ⟨y.toNat, by omega⟩
  have h2 := pc_64 ⟨x.toNat, by omega⟩ ⟨y.toNat, by omega⟩
  simp only [Int.toNat_of_nonneg hx.1, Int.toNat_of_nonneg hy.1] at h1 h2
  exact ⟨h1, h2⟩
def sm6 (f : Nat → Int) : Nat → Nat
  | 0 => 0
  | n + 1 => sm6 f n + pc6 (f n).toNat
theorem pc6_le (n : Nat) : pc6 n ≤ 6 := by unfold pc6; omega
theorem sm6_le (f : Nat → Int) : ∀ n, sm6 f n ≤ 6 * n := by
  intro n
  induction n with
  | zero => exact Nat.le_refl _
  | succ n ih => simp only [sm6]; have := pc6_le (f n).toNat; omega
theorem sm6_out {f : Nat → Int} {v : Nat} {x : Int} : ∀ n, n ≤ v → sm6 (se f v x) n = sm6 f n := by
  intro n
  induction n with
  | zero => exact fun _ => rfl
  | succ n ih => intro h; simp only [sm6]; rw [ih (by omega), se_ne _ _ (by omega)]
theorem sm6_se {f : Nat → Int} {v : Nat} {x : Int} : ∀ n, v < n → sm6 (se f v x) n + pc6 (f v).toNat = sm6 f n + pc6 x.toNat := by
  intro n
  induction n with
  | zero => exact fun h => absurd h (Nat.not_lt_zero _)
  | succ n ih =>
    intro h
    simp only [sm6]
    by_cases e : v = n
    · subst e; rw [se_at, sm6_out _ (Nat.le_refl _)]; omega
    · have := ih (by omega)
      rw [se_ne _ _ (fun q => e q.symm)]; omega
/-- relations within bounds, and their number of bits with what has changed -/
def okQ (k : Nat) (q : (Nat → Int) × Int) : Prop := b64 q.1 ∧ (q.2 = 0 ∨ q.2 = 1) ∧ (k : Int) + q.2 ≤ sm6 q.1 24
theorem okQ.tlE_ {S : Mm} (hg : Okg S) {k : Nat} {q : (Nat → Int) × Int} (h : okQ k q) (e : Nat → Int) {p : Int} (hp : 0 ≤ p ∧ p < S 0 0) {a : Nat} (ha : a < (S 0 12).toNat) : okQ k (tlE S e p a q) := by
  have h12 := hg.2.1
  have h1 := (hg.2.2.2.1 p hp.1 hp.2).1
  obtain ⟨h2, h3, h4⟩ := h
  have hv := h2 (6 * S 1 p.toNat + a).toNat (by omega)
  have hj := jor_b64 hv (stE_64 hg e a)
  unfold tlE
  refine ⟨h2.lay _ hj.1, by simp only; split <;> simp, ?_⟩
  simp only
  have hs := sm6_se (f := q.1) (v := (6 * S 1 p.toNat + a).toNat) (x := jor (q.1 (6 * S 1 p.toNat + a).toNat) (stE S e a)) 24 (by omega)
  rcases hj.2 with h5 | h5
  · rw [h5] at hs ⊢
    split <;> omega
  · split <;> omega
theorem okQ.tl_ {S : Mm} (hg : Okg S) {k : Nat} {q : (Nat → Int) × Int} (h : okQ k q) (e : Nat → Int) {p : Int} (hp : 0 ≤ p ∧ p < S 0 0) : okQ k (tl S e p q) :=
  fo_ind (P := okQ k) _ (fun a x ha hx => hx.tlE_ hg e hp ha) q h
theorem c_tellRelations {M S : Mm} (hC : CC M S) (hg : Okg S) (hO : Oke S) (hrl : b64 (M 680)) {p : Int} (hp : 0 ≤ p ∧ p < S 0 0) : f_X6_tellRelations p M = some ((tl S (M 679) p (M 680, 0)).2, sr M 680 (tl S (M 679) p (M 680, 0)).1) := by
  have h10 := hg.1
  have h12 := hg.2.1
  have h1 := (hg.2.2.2.1 p hp.1 hp.2).1
  have hP0 : b64 (M 680) ∧ ((0 : Int) = 0 ∨ (0 : Int) = 1) := ⟨hrl, Or.inl rfl⟩
  have hstep : ∀ (i : Nat) (x : (Nat → Int) × Int), i < (S 0 12).toNat → (b64 x.1 ∧ (x.2 = 0 ∨ x.2 = 1)) → (b64 (tlE S (M 679) p i x).1 ∧ ((tlE S (M 679) p i x).2 = 0 ∨ (tlE S (M 679) p i x).2 = 1)) := by
    intro i x hi hx
    have hv := hx.1 (6 * S 1 p.toNat + i).toNat (by omega)
    unfold tlE
    exact ⟨hx.1.lay _ (jor_b64 hv (stE_64 hg _ i)).1, by simp only; split <;> simp⟩
  have hcut : ∀ m, (S 0 12).toNat ≤ m → fo (fun a q => if (a : Int) < S 0 12 then tlE S (M 679) p a q else q) m (M 680, 0) = tl S (M 679) p (M 680, 0) := by
    intro m hm
    unfold tl
    refine fo_cut (P := fun _ => True) (g := tlE S (M 679) p) (fun _ _ _ => trivial) (fun a x ha _ => if_pos (by omega)) (fun a x ha _ => if_neg (by omega)) m hm _ trivial
  have hP : ∀ n, b64 (fo (fun a q => if (a : Int) < S 0 12 then tlE S (M 679) p a q else q) n (M 680, 0)).1 ∧ ((fo (fun a q => if (a : Int) < S 0 12 then tlE S (M 679) p a q else q) n (M 680, 0)).2 = 0 ∨ (fo (fun a q => if (a : Int) < S 0 12 then tlE S (M 679) p a q else q) n (M 680, 0)).2 = 1) := fun n =>
    fo_ind (P := fun (q : (Nat → Int) × Int) => b64 q.1 ∧ (q.2 = 0 ∨ q.2 = 1)) n (fun a x _ hx => by
      by_cases c : (a : Int) < S 0 12
      · rw [if_pos c]; exact hstep a x (by omega) hx
      · rw [if_neg c]; exact hx) _ hP0
  unfold f_X6_tellRelations
  rw [g_head hC.1 hg hp, ClS, LtE, ← hcut 6 (by omega)]
  refine Lp_for 6 (fun a => ((fo (fun a q => if (a : Int) < S 0 12 then tlE S (M 679) p a q else q) a (M 680, 0)).2, (a : Int), sr M 680 (fo (fun a q => if (a : Int) < S 0 12 then tlE S (M 679) p a q else q) a (M 680, 0)).1)) (fun rc a ha => ?_) (fun rc => ?_) (FU_lt (by omega)) ?_
  · have hPa := hP a
    simp only [fo]
    generalize fo (fun a q => if (a : Int) < S 0 12 then tlE S (M 679) p a q else q) a (M 680, 0) = q at hPa
    obtain ⟨f, ch⟩ := q
    simp only at hPa ⊢
    have hC2 := hC.lay hO (k := 680) (by decide) f
    have hv := hPa.1 (6 * S 1 p.toNat + a).toNat (by omega)
    simp only [f_X6_tellRelations_L14_40, LtE]
    rw [if_neg (by omega), wrE (v := S 1 p.toNat * 6) (by omega) (by omega), wrE (v := _ + (a : Int)) (by omega) (by omega), show S 1 p.toNat * 6 + (a : Int) = 6 * S 1 p.toNat + a by omega, c_entryOf_in 24 alenC_680 (by omega) (by omega), ClS, sr_at]
    have fin : ∀ x, (0 ≤ x ∧ x < 64) → (Cl (f_X11_setEntry 680 (6 * S 1 p.toNat + a) (jor (f (6 * S 1 p.toNat + a).toNat) x) (sr M 680 f)) fun _ M23 => if ¬ ch = 0 then rc (1, wr ((a : Int) + 1), M23) else if jor (f (6 * S 1 p.toNat + a).toNat) x = f (6 * S 1 p.toNat + a).toNat then rc (0, wr ((a : Int) + 1), M23) else rc (1, wr ((a : Int) + 1), M23)) = rc ((if ch ≠ 0 ∨ jor (f (6 * S 1 p.toNat + a).toNat) x ≠ f (6 * S 1 p.toNat + a).toNat then 1 else 0), ((a + 1 : Nat) : Int), sr M 680 (se f (6 * S 1 p.toNat + a).toNat (jor (f (6 * S 1 p.toNat + a).toNat) x))) := by
      intro x hx
      rw [c_setEntry_in 24 alenC_680 (by omega) (by omega), ClS, up_se, sr_at, sr_sr, wrE (by omega) (by omega), show (a : Int) + 1 = ((a + 1 : Nat) : Int) by omega]
      by_cases c1 : ch = 0
      · rw [if_neg fun q => q c1]
        by_cases c2 : jor (f (6 * S 1 p.toNat + a).toNat) x = f (6 * S 1 p.toNat + a).toNat
        · rw [if_pos c2, if_neg (c := ch ≠ 0 ∨ _) (fun q => q.elim (fun q => q c1) fun q => q c2)]
        · rw [if_neg c2, if_pos (c := ch ≠ 0 ∨ _) (Or.inr c2)]
      · rw [if_pos c1, if_pos (c := ch ≠ 0 ∨ _) (Or.inl c1)]
    by_cases c : (a : Int) < S 0 12
    · rw [c_isOfKind hC2.1 hg ⟨by omega, c⟩, ClS, Int.toNat_natCast, if_pos c]
      unfold tlE
      simp only
      have hs : stE S (M 679) a = if S 12 a = 0 then jand (M 679 a) (dwn S) else 0 := rfl
      by_cases k0 : S 12 a = 0
      · rw [if_pos k0] at hs
        rw [if_pos k0, if_neg (by decide), c_entryOf_in 24 alenC_679 (by omega) (by omega), ClS, sr_ne _ _ (by decide), Int.toNat_natCast, c_downsOf hC2.1 hg, ClS, ← hs]
        exact fin _ (stE_64 hg _ a)
      · rw [if_neg k0] at hs
        rw [if_neg k0, if_pos rfl, hs]
        exact fin 0 (by decide)
    · rw [c_isOfKindN hC2.1 hg (by omega) (by decide), ClS, if_pos rfl, if_neg c]
      refine (fin 0 (by decide)).trans ?_
      rw [jor_zero (by unfold i32; omega), se_self]
      refine congrArg rc (Prod.ext ?_ rfl)
      simp only
      rcases hPa.2 with e | e
      · rw [e, if_neg (by simp)]
      · rw [e, if_pos (by simp)]
  · simp only [f_X6_tellRelations_L14_40, LtE]
    rw [if_pos (by omega)]
  · simp only [fo, sr_self]
    rfl
theorem tl_flag {S : Mm} (e : Nat → Int) (p : Int) (f : Nat → Int) {c : Int} (hc : c = 0 ∨ c = 1) : (tl S e p (f, c)).1 = (tl S e p (f, 0)).1 ∧ (tl S e p (f, c)).2 = (if (tl S e p (f, 0)).2 ≠ 0 ∨ c ≠ 0 then 1 else 0) ∧ ((tl S e p (f, 0)).2 = 0 ∨ (tl S e p (f, 0)).2 = 1) := by
  unfold tl
  generalize (S 0 12).toNat = n
  induction n with
  | zero =>
    refine ⟨rfl, ?_, Or.inl rfl⟩
    simp only [fo]
    rcases hc with rfl | rfl <;> simp
  | succ n ih =>
    obtain ⟨i1, i2, i3⟩ := ih
    simp only [fo, tlE]
    rw [i1, i2]
    refine ⟨rfl, ?_, by split <;> simp⟩
    by_cases c1 : (fo (tlE S e p) n (f, 0)).2 ≠ 0
    · simp [c1]
    · by_cases c2 : jor ((fo (tlE S e p) n (f, 0)).1 (6 * S 1 p.toNat + n).toNat) (stE S e n) ≠ (fo (tlE S e p) n (f, 0)).1 (6 * S 1 p.toNat + n).toNat
      · simp [c2]
      · rw [Classical.not_not] at c1 c2
        rcases hc with rfl | rfl <;> simp [c1, c2]
def tn (S : Mm) (q : (Nat → Int) × (Nat → Int) × Int) : (Nat → Int) × (Nat → Int) × Int := fo (tnP S) (S 0 0).toNat (q.1, q.2.1, 0)
def itn (S : Mm) (q : (Nat → Int) × (Nat → Int) × Int) : Nat → (Nat → Int) × (Nat → Int) × Int
  | 0 => q
  | n + 1 => tn S (itn S q n)
def R3 (q q' : (Nat → Int) × (Nat → Int) × Int) : Prop := e24 q.2.1 q'.2.1 ∧ q.2.2 = q'.2.2
theorem R3.tnP_ {S : Mm} (hg : Okg S) {q q' : (Nat → Int) × (Nat → Int) × Int} (h : R3 q q') {p : Nat} (hp : p < (S 0 0).toNat) : R3 (tnP S p q) (tnP S p q') :=
  show eq3 (tl S (drE S q.2.1 p (z24 q.1)) p q.2) (tl S (drE S q'.2.1 p (z24 q'.1)) p q'.2) from
    eq3.tl_ hg (q := q.2) (q' := q'.2) h (e24.dr_ hg (z24_e q.1 q'.1) h.1 ⟨by omega, by omega⟩) ⟨by omega, by omega⟩
theorem R3.tn_ {S : Mm} (hg : Okg S) {q q' : (Nat → Int) × (Nat → Int) × Int} (h : e24 q.2.1 q'.2.1) : R3 (tn S q) (tn S q') :=
  show R3 (fo (tnP S) (S 0 0).toNat (q.1, q.2.1, 0)) (fo (tnP S) (S 0 0).toNat (q'.1, q'.2.1, 0)) from
    fo_rel (R := R3) (g := tnP S) (g' := tnP S) (S 0 0).toNat (fun i x x' hi hx => R3.tnP_ hg hx hi) (q.1, q.2.1, 0) (q'.1, q'.2.1, 0) ⟨h, rfl⟩
theorem R3.itn_ {S : Mm} (hg : Okg S) {q q' : (Nat → Int) × (Nat → Int) × Int} (h : R3 q q') : ∀ n, R3 (itn S q n) (itn S q' n) := by
  intro n
  induction n with
  | zero => exact h
  | succ n ih => exact R3.tn_ hg ih.1
def ok3 (k : Nat) (q : (Nat → Int) × (Nat → Int) × Int) : Prop := okQ k q.2
theorem ok3.tnP_ {S : Mm} (hg : Okg S) {k : Nat} {q : (Nat → Int) × (Nat → Int) × Int} (h : ok3 k q) {p : Nat} (hp : p < (S 0 0).toNat) : ok3 k (tnP S p q) := by
  unfold tnP
  exact okQ.tl_ hg h _ (by omega)
theorem tn_ok {S : Mm} (hg : Okg S) {q : (Nat → Int) × (Nat → Int) × Int} (h : b64 q.2.1) : b64 (tn S q).2.1 ∧ ((tn S q).2.2 = 0 ∨ (tn S q).2.2 = 1) ∧ (sm6 q.2.1 24 : Int) + (tn S q).2.2 ≤ sm6 (tn S q).2.1 24 :=
  fo_ind (P := ok3 (sm6 q.2.1 24)) _ (fun i x hi hx => hx.tnP_ hg hi) (q.1, q.2.1, 0) ⟨h, Or.inl rfl, by simp⟩
theorem itn_b64 {S : Mm} (hg : Okg S) {q : (Nat → Int) × (Nat → Int) × Int} (h : b64 q.2.1) : ∀ n, b64 (itn S q n).2.1 := by
  intro n
  induction n with
  | zero => exact h
  | succ n ih => exact (tn_ok hg ih).1
-- the turns come to an end
theorem itn_end {S : Mm} (hg : Okg S) {q : (Nat → Int) × (Nat → Int) × Int} (h : b64 q.2.1) (h1 : q.2.2 = 1) : ∃ N, N ≤ 144 ∧ (∀ n, n ≤ N → (itn S q n).2.2 ≠ 0) ∧ (itn S q (N + 1)).2.2 = 0 := by
  have key : ∀ m, (∀ n, n ≤ m → (itn S q n).2.2 ≠ 0) → m ≤ sm6 (itn S q m).2.1 24 := by
    intro m
    induction m with
    | zero => exact fun _ => Nat.zero_le _
    | succ m ih =>
      intro hn
      have h2 := ih fun n hn' => hn n (by omega)
      have h3 := (tn_ok hg (itn_b64 hg h m)).2
      have h4 : (tn S (itn S q m)).2.2 ≠ 0 := hn (m + 1) (Nat.le_refl _)
      show m + 1 ≤ sm6 (tn S (itn S q m)).2.1 24
      omega
  have ex : ∀ m, (∀ n, n ≤ m → (itn S q n).2.2 ≠ 0) ∨ ∃ N, N < m ∧ (∀ n, n ≤ N → (itn S q n).2.2 ≠ 0) ∧ (itn S q (N + 1)).2.2 = 0 := by
    intro m
    induction m with
    | zero => exact Or.inl fun n hn => by rw [show n = 0 by omega]; show q.2.2 ≠ 0; omega
    | succ m ih =>
      rcases ih with ih | ⟨N, hN, h5, h6⟩
      · by_cases c : (itn S q (m + 1)).2.2 = 0
        · exact Or.inr ⟨m, by omega, ih, c⟩
        · refine Or.inl fun n hn => ?_
          by_cases e : n = m + 1
          · rw [e]; exact c
          · exact ih n (by omega)
      · exact Or.inr ⟨N, by omega, h5, h6⟩
  rcases ex 145 with h5 | ⟨N, hN, h5, h6⟩
  · have h6 := key 145 h5
    have h7 := sm6_le (itn S q 145).2.1 24
    omega
  · exact ⟨N, by omega, h5, h6⟩
def msq (M : Mm) (q : (Nat → Int) × (Nat → Int) × Int) : Mm := sr (sr M 679 q.1) 680 q.2.1
theorem CC.msq_ {M S : Mm} (h : CC M S) (hO : Oke S) (q : (Nat → Int) × (Nat → Int) × Int) : CC (msq M q) S := (h.lay hO (by decide) _).lay hO (by decide) _
theorem msq_at (M : Mm) (q : (Nat → Int) × (Nat → Int) × Int) : msq M q 679 = q.1 ∧ msq M q 680 = q.2.1 ∧ ∀ j, j ≠ 679 → j ≠ 680 → msq M q j = M j := by
  unfold msq
  refine ⟨by rw [sr_ne _ _ (by decide), sr_at], sr_at _ _ _, fun j j1 j2 => by rw [sr_ne _ _ j2, sr_ne _ _ j1]⟩
theorem msq_lay (M : Mm) (q : (Nat → Int) × (Nat → Int) × Int) (f g : Nat → Int) (c : Int) : sr (sr (msq M q) 679 f) 680 g = msq M (f, g, c) := by
  unfold msq
  funext j
  unfold sr
  repeat' split
  all_goals first | rfl | (exfalso; omega)
theorem c_ringTurn {M S : Mm} (hC : CC M S) (hg : Okg S) (hO : Oke S) {q : (Nat → Int) × (Nat → Int) × Int} (hq : b64 q.2.1) {t : Int} {J : Int → Int → Mm → Rs} : Lp (f_X6_firstRing_L27_53 J) FU (0, t, 0, msq M q) = J (tn S q).2.2 t (msq M (tn S q)) := by
  have h10 := hg.1
  have hP : ∀ n, n ≤ (S 0 0).toNat → ok3 0 (fo (tnP S) n (q.1, q.2.1, 0)) := fun n hn => fo_ind (P := ok3 0) n (fun i x hi hx => hx.tnP_ hg (by omega)) _ ⟨hq, Or.inl rfl, by simp⟩
  refine Lp_for (S 0 0).toNat (fun p => ((fo (tnP S) p (q.1, q.2.1, 0)).2.2, t, (p : Int), msq M (fo (tnP S) p (q.1, q.2.1, 0)))) (fun rc p hp => ?_) (fun rc => ?_) (FU_lt (by omega)) rfl
  · have hPp := hP p (by omega)
    simp only [fo]
    generalize fo (tnP S) p (q.1, q.2.1, 0) = x at hPp
    obtain ⟨x1, x2, x3⟩ := id hPp
    have hCx := hC.msq_ hO x
    obtain ⟨m1, m2, m3⟩ := msq_at M x
    simp only [f_X6_firstRing_L27_53, LtE]
    rw [hCx.1.1, if_neg (by omega), (c_draw hCx hg hO (by rw [m2]; exact x1) (by omega)).1, ClS]
    have hC2 := hCx.lay hO (k := 679) (by decide) (drE S (msq M x 680) p (z24 (msq M x 679)))
    have e2 : sr (msq M x) 679 (drE S (msq M x 680) p (z24 (msq M x 679))) 680 = x.2.1 := by rw [sr_ne _ _ (by decide), m2]
    rw [c_tellRelations hC2 hg hO (by rw [e2]; exact x1) (by omega), ClS, e2, sr_at, m1, m2]
    have hf := tl_flag (S := S) (drE S x.2.1 p (z24 x.1)) p x.2.1 x2
    have e : tnP S p x = (drE S x.2.1 p (z24 x.1), tl S (drE S x.2.1 p (z24 x.1)) p (x.2.1, x.2.2)) := rfl
    rw [e, hf.2.1, wrE (by omega) (by omega), show (p : Int) + 1 = ((p + 1 : Nat) : Int) by omega, msq_lay M x _ _ (if (tl S (drE S x.2.1 p (z24 x.1)) p (x.2.1, 0)).2 ≠ 0 ∨ x.2.2 ≠ 0 then 1 else 0)]
    have e3 : msq M (drE S x.2.1 p (z24 x.1), tl S (drE S x.2.1 p (z24 x.1)) p (x.2.1, x.2.2)) = msq M (drE S x.2.1 p (z24 x.1), (tl S (drE S x.2.1 p (z24 x.1)) p (x.2.1, 0)).1, (if (tl S (drE S x.2.1 p (z24 x.1)) p (x.2.1, 0)).2 ≠ 0 ∨ x.2.2 ≠ 0 then 1 else 0)) := by
      unfold msq; simp only; rw [hf.1]
    rw [e3]
    by_cases c1 : (tl S (drE S x.2.1 p (z24 x.1)) p (x.2.1, 0)).2 = 0
    · rw [if_neg fun q => q c1]
      by_cases c2 : x.2.2 = 0
      · rw [if_pos c2, if_neg (fun q => q.elim (fun q => q c1) fun q => q c2)]
      · rw [if_neg c2, if_pos (Or.inr c2)]
    · rw [if_pos c1, if_pos (Or.inl c1)]
  · have hCx := hC.msq_ hO (fo (tnP S) (S 0 0).toNat (q.1, q.2.1, 0))
    simp only [f_X6_firstRing_L27_53, LtE]
    rw [hCx.1.1, if_pos (by omega)]
    rfl
def ht (S : Mm) (rl : Nat → Int) (p : Nat) : Bool := hr (drE S rl p fun _ => 0) 24
theorem ht_e {S : Mm} (hg : Okg S) {rl rl' f : Nat → Int} (h : e24 rl rl') {p : Nat} (hp : (p : Int) < S 0 0) : hr (drE S rl p (z24 f)) 24 = ht S rl' p := by
  unfold ht
  refine hr_e24 (e24.dr_ hg (fun i hi => by unfold z24; rw [if_pos hi]) h ⟨by omega, hp⟩) 24 (Nat.le_refl _)
theorem nxt_step {P : Nat → Bool} {f j : Nat} : nxt P (f + 1) j = if P j then (j : Int) else nxt P f (j + 1) := rfl
theorem c_firstRing {M S : Mm} (hC : CC M S) (hg : Okg S) (hO : Oke S) {N : Nat} (hN : N ≤ 144) (h1 : ∀ n, n ≤ N → (itn S (fun _ => 0, fun _ => 0, 1) n).2.2 ≠ 0) (h2 : (itn S (fun _ => 0, fun _ => 0, 1) (N + 1)).2.2 = 0) : Wp (f_X6_firstRing M) fun r => r.1 = nxt (ht S (itn S (fun _ => 0, fun _ => 0, 1) (N + 1)).2.1) (S 0 0).toNat 0 ∧ ∀ j, j ≠ 679 → j ≠ 680 → r.2 j = M j := by
  have h10 := hg.1
  unfold f_X6_firstRing
  rw [c_fillRow, ClS, alenC_680]
  simp only [LtE]
  have h0 : sr M 680 (fun j => if j < 24 then 0 else M 680 j) = msq M (M 679, z24 (M 680), 1) := by
    unfold msq; simp only
    rw [sr_self]
    rfl
  rw [h0]
  have hb : b64 (z24 (M 680)) := fun i hi => by unfold z24; rw [if_pos hi]; decide
  have hR := R3.itn_ hg (q := (M 679, z24 (M 680), 1)) (q' := (fun _ => 0, fun _ => 0, 1)) ⟨fun i hi => if_pos hi, rfl⟩
  have hbn := itn_b64 hg (q := (M 679, z24 (M 680), 1)) hb
  have hloop : ∀ J : Mm → Rs, Lp (f_X6_firstRing_L12_54 J) FU (1, 0, msq M (M 679, z24 (M 680), 1)) = J (msq M (itn S (M 679, z24 (M 680), 1) (N + 1))) := by
    intro J
    refine Lp_for (N + 1) (fun i => ((itn S (M 679, z24 (M 680), 1) i).2.2, (i : Int), msq M (itn S (M 679, z24 (M 680), 1) i))) (fun rc i hi => ?_) (fun rc => ?_) (FU_lt (by omega)) rfl
    · simp only [f_X6_firstRing_L12_54, LtE]
      rw [if_neg (by omega), if_neg (by rw [(hR i).2]; exact h1 i (by omega)), c_ringTurn hC hg hO (hbn i), wrE (by omega) (by omega), show itn S (M 679, z24 (M 680), 1) (i + 1) = tn S (itn S (M 679, z24 (M 680), 1) i) from rfl]
      generalize tn S (itn S (M 679, z24 (M 680), 1) i) = x
      rfl
    · simp only [f_X6_firstRing_L12_54, LtE]
      rw [if_neg (by omega), if_pos (by rw [(hR (N + 1)).2]; exact h2)]
  rw [hloop]
  have hrl := (hR (N + 1)).1
  have hbN := hbn (N + 1)
  generalize itn S (M 679, z24 (M 680), 1) (N + 1) = y at hrl hbN
  generalize (itn S (fun _ => 0, fun _ => 0, 1) (N + 1)).2.1 = rl at hrl
  refine Wp_lp (fun (s : Int × Mm) => ∃ p : Nat, p ≤ (S 0 0).toNat ∧ s.1 = p ∧ (∃ f, s.2 = msq M (f, y.2.1, 0)) ∧ nxt (ht S rl) (S 0 0).toNat 0 = nxt (ht S rl) ((S 0 0).toNat - p) p) (fun s => (S 0 0 - s.1).toNat) ?_ FU _ ⟨0, Nat.zero_le _, rfl, ⟨y.1, rfl⟩, rfl⟩ (FU_lt (by simp only; omega))
  rintro rc ⟨p0, M'⟩ ⟨p, hp, e1, ⟨f, e2⟩, hn⟩ ih
  simp only at e1 e2 ih
  subst e1 e2
  have hCx := hC.msq_ hO (f, y.2.1, 0)
  obtain ⟨m1, m2, m3⟩ := msq_at M (f, y.2.1, 0)
  simp only at m1 m2
  simp only [f_X6_firstRing_L75_19, LtE]
  rw [hCx.1.1]
  by_cases c : S 0 0 ≤ p
  · rw [if_pos c]
    refine Wp_some ⟨?_, m3⟩
    simp only
    rw [hn, show (S 0 0).toNat - p = 0 by omega]
    rfl
  rw [if_neg c, (c_draw hCx hg hO (by rw [m2]; exact hbN) (by omega)).1, ClS, c_hasRing, ClS, sr_at, m1, m2, ht_e hg hrl (by omega)]
  rw [show (S 0 0).toNat - p = ((S 0 0).toNat - (p + 1)) + 1 by omega, nxt_step] at hn
  by_cases c1 : ht S rl p = true
  · rw [if_pos c1, if_neg (by decide)]
    rw [if_pos c1] at hn
    refine Wp_some ⟨hn.symm, fun j j1 j2 => ?_⟩
    simp only
    rw [sr_ne _ _ j1, m3 j j1 j2]
  · rw [if_neg c1, if_pos rfl, wrE (by omega) (by omega)]
    rw [if_neg c1] at hn
    generalize drE S y.2.1 p (z24 f) = G
    refine ih _ ⟨p + 1, by omega, by simp only; omega, ⟨G, ?_⟩, hn⟩ (by simp only; omega)
    simp only
    unfold msq
    funext j
    unfold sr
    repeat' split
    all_goals first | rfl | (exfalso; omega)
