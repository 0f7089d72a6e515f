theorem fo_ind {α : Type} {P : α → Prop} {g : Nat → α → α} : ∀ n, (∀ i x, i < n → P x → P (g i x)) → ∀ x, P x → P (fo g n x) := by
  intro n
  induction n with
  | zero => exact fun _ _ h => h
  | succ n ih => exact fun h x hx => h n _ (by omega) (ih (fun i x hi => h i x (by omega)) x hx)
theorem fo_cut {α : Type} {P : α → Prop} {g g' : Nat → α → α} {n : Nat} (hP : ∀ i x, P x → P (g i x)) (h1 : ∀ i x, i < n → P x → g' i x = g i x) (h2 : ∀ i x, n ≤ i → P x → g' i x = x) : ∀ m, n ≤ m → ∀ x, P x → fo g' m x = fo g n x := by
  have aux : ∀ m, m ≤ n → ∀ x, P x → fo g' m x = fo g m x := by
    intro m
    induction m with
    | zero => exact fun _ _ _ => rfl
    | succ m ih => intro hm x hx; simp only [fo]; rw [ih (by omega) x hx, h1 m _ (by omega) (fo_ind m (fun i x _ hx => hP i x hx) x hx)]
  intro m
  induction m with
  | zero => intro hm x hx; have : n = 0 := by omega
            subst this; rfl
  | succ m ih =>
    intro hm x hx
    by_cases e : n = m + 1
    · subst e; exact aux _ (Nat.le_refl _) x hx
    · simp only [fo]
      rw [ih (by omega) x hx, h2 m _ (by omega) (fo_ind n (fun i x _ hx => hP i x hx) x hx)]
def CC (M S : Mm) : Prop := CG M S ∧ CE M S ∧ CV M S
theorem CC.of {M M' S : Mm} (h : CC M S) (hO : Oke S) (e : ∀ k, k ≤ 272 → M' k = M k) : CC M' S := by
  obtain ⟨h1, h2, h3⟩ := h
  refine ⟨h1.of fun k _ k2 => e k (by omega), h2.of (fun k k1 k2 _ _ => e k (by omega)) hO.1.2, ?_⟩
  unfold CV CVw CSg CGi CRs at h3 ⊢
  rw [e 23 (by decide), e 24 (by decide), e 28 (by decide), e 29 (by decide), e 30 (by decide), e 31 (by decide), e 32 (by decide)]
  exact h3
theorem CC.lay {M S : Mm} (h : CC M S) (hO : Oke S) {k : Nat} (hk : 272 < k) (f : Nat → Int) : CC (sr M k f) S := h.of hO fun j hj => sr_ne _ _ (by omega)
theorem c_isOfKind {M S : Mm} (hM : CG M S) (hg : Okg S) {a : Int} (ha : 0 ≤ a ∧ a < S 0 12) (k : Int) : f_X6_isOfKind a k M = some (if S 12 a.toNat = k then 1 else 0, M) := by
  unfold f_X6_isOfKind
  rw [g_kind hM hg, ClS, if_pos ha]
  simp only [LtE]
  by_cases h : S 12 a.toNat = k
  · rw [if_neg fun q => q h, if_pos h]
  · rw [if_pos h, if_neg h]
theorem c_isOfKindN {M S : Mm} (hM : CG M S) (hg : Okg S) {a : Int} (ha : ¬ (0 ≤ a ∧ a < S 0 12)) {k : Int} (hk : k ≠ -1) : f_X6_isOfKind a k M = some (0, M) := by
  unfold f_X6_isOfKind
  rw [g_kind hM hg, ClS, if_neg ha]
  simp only [LtE]
  rw [if_pos fun q => hk q.symm]
theorem c_hang {M : Mm} {g : Nat → Int} {c on : Int} (hc : 0 ≤ c ∧ c < 24) (ho : 0 ≤ on ∧ on < 24) : f_X6_hang c on (sr M 679 g) = some (0, sr M 679 (addE g c.toNat on)) := by
  unfold f_X6_hang
  simp only [LtE]
  rw [if_neg (by omega), if_neg (by omega), c_entryOf_in 24 alenC_679 hc.1 (by omega), ClS, c_setEntry_in 24 alenC_679 hc.1 (by omega), ClS, sr_at, up_se, sr_at, sr_sr]
  rfl
theorem e_step {M S : Mm} (hE : CE M S) {k i : Nat} (hk : (k : Int) < S 0 19) (hi : i < eN S k) (hn : i < 8) : f_X0_kindOf (33 + 8 * k) i M = some (eK S k i, M) ∧ f_X0_numberOf (33 + 8 * k) i M = some (eA S k i, M) ∧ f_X0_childOf (33 + 8 * k) i M = some (eB S k i, M) := by
  have h := ((hE.2.2 k hk).2.2.2.2.2).1 i hi
  rw [c0_kindOf, c0_numberOf, c0_childOf, if_pos (by omega), if_pos (by omega), if_pos (by omega), Int.toNat_natCast, h.1, h.2.1, h.2.2.1]
  exact ⟨rfl, rfl, rfl⟩
theorem c_stepsTail {M S : Mm} (hM : CG M S) (hg : Okg S) {g : Nat → Int} {v on a : Int} (hv : 0 ≤ v ∧ v < 24) (hon : -1 ≤ on ∧ on < 3) (ha : 0 ≤ a ∧ a < S 0 12) {K : Mm → Rs} :
    (Cl (f_X6_isOfKind a 0 (sr M 679 g)) fun v26 M25 => if ¬ v26 = 0 then (Cl (f_X6_cornerOf on a M25) fun v31 M30 => Cl (f_X6_hang v v31 M30) fun _ M32 => K M32) else (Cl (f_X6_isOfKind a 1 M25) fun v35 M34 => if v35 = 0 then K M34 else Cl (f_X6_cornerOf on a M34) fun v31 M30 => Cl (f_X6_hang v v31 M30) fun _ M32 => K M32)) = K (sr M 679 (if S 12 a.toNat ≤ 1 then addE g v.toNat (vtx on a) else g)) := by
  have hM' : CG (sr M 679 g) S := hM.sr (by decide) g
  have h6 := hg.2.1
  have hk := hg.2.2.1 a ha.1 ha.2
  have hc : ∀ M', f_X6_cornerOf on a M' = some (vtx on a, M') := fun M' => c_cornerOf (by omega) (by omega) M'
  have hx := vtx_lt hon (a := a) (by omega)
  rw [c_isOfKind hM' hg ha, ClS]
  by_cases e0 : S 12 a.toNat = 0
  · rw [if_pos e0, if_pos (by decide), hc, ClS, c_hang hv hx, ClS, if_pos (by omega)]
  · rw [if_neg e0, if_neg (by decide), c_isOfKind hM' hg ha, ClS]
    by_cases e1 : S 12 a.toNat = 1
    · rw [if_pos e1, if_neg (by decide), hc, ClS, c_hang hv hx, ClS, if_pos (by omega)]
    · rw [if_neg e1, if_pos rfl, if_neg (by omega)]
theorem c_drawSteps {M S : Mm} (hC : CC M S) (hg : Okg S) (hO : Oke S) {g : Nat → Int} {k : Nat} (hk : (k : Int) < S 0 19) {p v : Int} {h : Nat} (hp : 0 ≤ p ∧ p < S 0 0) (hh : h < 4) (hsh : S 16 k = shown S p h) (hs : shown S p h ≠ -1) (hv : 0 ≤ v ∧ v < 24) : f_X6_drawSteps (33 + 8 * k) p h v (sr M 679 g) = some (0, sr M 679 (fo (eStep S p h k v.toNat) (eN S k) g)) := by
  have hk30 := hO.1
  obtain ⟨o1, o2, o3, o4, o5, o6, -⟩ := hO.2.1 k hk
  have hn8 : eN S k ≤ 8 := by unfold eN; omega
  unfold f_X6_drawSteps
  simp only [LtE]
  refine Lp_for (eN S k) (fun i => ((i : Int), sr M 679 (fo (eStep S p h k v.toNat) i g))) (fun rc i hi => ?_) (fun rc => ?_) (FU_lt (by omega)) rfl
  · simp only [fo]
    generalize fo (eStep S p h k v.toNat) i g = G
    have hC' := hC.lay hO (k := 679) (by decide) G
    obtain ⟨s1, s2, s3⟩ := e_step hC'.2.1 hk hi (by omega)
    have e4 : sr M 679 G (33 + 8 * k) 4 = S 20 k := (hC'.2.1.2.2 k hk).2.2.2.2.1
    have hi' : (i : Int) < S 20 k := by unfold eN at hi; omega
    obtain ⟨k0, k1, k2⟩ := (o6 i hi).1
    simp only [f_X6_drawSteps_L3_51, LtE]
    rw [e4, if_neg (by omega), s1, ClS, s2, ClS, wrE (by omega) (by omega), show (i : Int) + 1 = ((i + 1 : Nat) : Int) by omega]
    unfold eStep
    by_cases c1 : eK S k i = 1
    · rw [if_pos (by omega), if_pos c1, if_neg (by decide), if_pos c1]
      rw [if_pos (by omega)] at k1
      refine (c_stepsTail hC.1 hg hv (by decide) k1).trans ?_
      rw [show vtx (-1) (eA S k i) = eA S k i by unfold vtx; omega]
    · rw [if_neg c1, if_neg (c := eK S k i = 1) c1]
      by_cases c2 : eK S k i = 2
      · rw [if_neg fun q => q c2, if_pos c2, s3, ClS]
        rw [if_pos (by omega)] at k1
        rw [if_pos (by omega)] at k2
        have hst := stand_ok hg hp h (eB S k i)
        have hch := chl_le hg hp
        rw [v_childAt hg hC'.2.2.1 hp hh (by omega), ClS, if_neg c1, if_neg fun q => q c2]
        by_cases c3 : eB S k i < S 4 (S 16 k).toNat
        · rw [hsh] at c3
          have h1 := hst.1 ⟨by omega, c3, hs⟩
          rw [if_neg (by omega), if_neg (by decide)]
          refine (c_stepsTail hC.1 hg hv (by omega) k1).trans ?_
          rw [hsh]
          by_cases c4 : S 12 (eA S k i).toNat ≤ 1
          · rw [if_pos c4, if_pos ⟨c4, c3⟩]
          · rw [if_neg c4, if_neg fun q => c4 q.1]
        · rw [hsh] at c3
          rw [hst.2 fun q => c3 q.2.1, if_pos rfl, if_pos trivial, if_neg fun q => c3 (by rw [← hsh]; exact q.2)]
      · simp [c1, c2]
  · have hC' := hC.lay hO (k := 679) (by decide) (fo (eStep S p h k v.toNat) (eN S k) g)
    have e4 : sr M 679 (fo (eStep S p h k v.toNat) (eN S k) g) (33 + 8 * k) 4 = S 20 k := (hC'.2.1.2.2 k hk).2.2.2.2.1
    simp only [f_X6_drawSteps_L3_51, LtE]
    rw [e4, if_pos (by unfold eN; omega)]
theorem c_drawEquations {M S : Mm} (hC : CC M S) (hg : Okg S) (hO : Oke S) {g : Nat → Int} {p a t : Int} (hp : 0 ≤ p ∧ p < S 0 0) (ha : 0 ≤ a ∧ a < S 0 12) (ht : -1 ≤ t ∧ t < 3) : f_X6_drawEquations p a t (sr M 679 g) = some (if rsv S p a t = -1 then 0 else 1, sr M 679 (if rsv S p a t = -1 then g else alE S p a t g)) := by
  have h10 := hg.1
  have h6 := hg.2.1
  have hb := hO.1
  have hC' := hC.lay hO (k := 679) (by decide) g
  have hRs := hC'.2.2.2.2.2 p hp.1 hp.2 a ha.1 ha.2 t ht.1 ht.2
  unfold plc at hRs
  unfold f_X6_drawEquations
  rw [c_resolvedFor (by omega) (by omega), ClS, if_pos (c := 0 ≤ p ∧ 0 ≤ a ∧ -1 ≤ t ∧ t < 3) ⟨hp.1, ha.1, ht.1, ht.2⟩, hRs.1]
  by_cases c : rsv S p a t = -1
  · rw [if_neg fun q => q c, if_pos c, if_pos c]
  rw [if_pos c, if_neg c, if_neg c, c_hopsFor (by omega) (by omega), ClS, if_pos (c := 0 ≤ p ∧ 0 ≤ a ∧ -1 ≤ t ∧ t < 3) ⟨hp.1, ha.1, ht.1, ht.2⟩, hRs.2 c]
  have hh : rsh S p a t < 4 := by unfold rsh; repeat' split
                                  all_goals decide
  have hs : shown S p (rsh S p a t) ≠ -1 := fun q => c (by unfold rsv sgh; rw [if_pos q])
  rw [v_productionAt hg hC'.2.2.1 hp hh, ClS, v_targetAt hg hC'.2.2.1 hp hh, ClS, LtE]
  unfold alE
  rw [if_neg c]
  have hv := vtx_lt ht (a := a) (by omega)
  refine Lp_for (S 0 19).toNat (fun n => ((n : Int), sr M 679 (fo (fun k f => if mt S (shown S p (rsh S p a t)) a (there S p (rsh S p a t) t) k = true then fo (eStep S p (rsh S p a t) k (vtx t a).toNat) (eN S k) f else f) n g))) (fun rc n hn => ?_) (fun rc => ?_) (FU_lt (by omega)) rfl
  · simp only [fo]
    generalize fo _ n g = G
    have hC2 := hC.lay hO (k := 679) (by decide) G
    have e0 : sr M 679 G 25 0 = S 0 19 := hC2.2.1.1
    have hn' : (n : Int) < S 0 19 := by omega
    have hE := hC2.2.1.2.2 n hn'
    simp only [f_X6_drawEquations_L56_34, LtE]
    rw [e0, if_neg (by omega), e_rowOf hC2.2.1 hO hn', ClS, if_neg (by omega), gdE ⟨by omega, by rw [Int.toNat_natCast]; exact isE_k (by omega)⟩, Int.toNat_natCast, e_counts hC2.2.1 hO hn', ClS, wrE (by omega) (by omega), show (n : Int) + 1 = ((n + 1 : Nat) : Int) by omega]
    by_cases c1 : S 27 (S 19 n).toNat = 0
    · rw [if_pos c1, if_neg (by decide), c_isFor, ClS, hE.1, hE.2.1, hE.2.2.1]
      by_cases c2 : S 16 n = shown S p (rsh S p a t) ∧ S 17 n = a ∧ S 18 n = there S p (rsh S p a t) t
      · rw [if_pos c2, if_neg (by decide), c_cornerOf (by omega) (by omega), ClS, show 6 * (t + 1) + a = vtx t a from rfl, c_drawSteps hC hg hO hn' hp hh c2.1 hs hv, ClS, if_pos (mt_iff.mpr ⟨c2.1, c2.2.1, c2.2.2, c1⟩)]
      · rw [if_neg c2, if_pos rfl, if_neg fun q => c2 ⟨(mt_iff.mp q).1, (mt_iff.mp q).2.1, (mt_iff.mp q).2.2.1⟩]
    · rw [if_neg c1, if_pos rfl, if_neg fun q => c1 (mt_iff.mp q).2.2.2]
  · have hC2 := hC.lay hO (k := 679) (by decide) (fo (fun k f => if mt S (shown S p (rsh S p a t)) a (there S p (rsh S p a t) t) k = true then fo (eStep S p (rsh S p a t) k (vtx t a).toNat) (eN S k) f else f) (S 0 19).toNat g)
    simp only [f_X6_drawEquations_L56_34, LtE]
    rw [hC2.2.1.1, if_pos (by omega)]
theorem c_hasBit {v i : Int} (hi : 0 ≤ i ∧ i < 24) (M : Mm) : f_X6_hasBit v i M = some (if jand (jshr v i) 1 = 1 then 1 else 0, M) := by
  unfold f_X6_hasBit
  simp only [LtE]
  rw [if_neg (by omega), if_neg (by omega)]
  rcases jand_one (jshr v i) with h | h
  · rw [h, if_pos rfl, if_neg (by decide)]
  · rw [h, if_neg (by decide), if_pos rfl]
def i24 (f : Nat → Int) : Prop := ∀ i, i < 24 → i32 (f i)
theorem i24.lay {f : Nat → Int} (h : i24 f) (v : Nat) {x : Int} (hx : i32 x) : i24 (se f v x) := fun i hi => by
  unfold se; split
  · exact hx
  · exact h i hi
theorem i24.al_ {S : Mm} {f : Nat → Int} (h : i24 f) (p a t : Int) : i24 (alE S p a t f) := by
  unfold alE addE
  split
  · split
    · exact h
    · exact h.lay _ (jor_i32 _ _)
  · refine fo_ind (P := i24) _ (fun k x _ hx => ?_) f h
    split
    · refine fo_ind (P := i24) _ (fun i y _ hy => ?_) x hx
      unfold eStep addE
      repeat' split
      all_goals first | exact hy | exact hy.lay _ (jor_i32 _ _)
    · exact hx
theorem i24.ch_ {S : Mm} {f : Nat → Int} (h : i24 f) (rl : Nat → Int) (p a c : Int) : i24 (chE S rl p a c f) := by
  unfold chE
  split
  · exact h.al_ p a c
  · split
    · exact h.lay _ (jor_i32 _ _)
    · exact h
theorem i24.at_ {S : Mm} {f : Nat → Int} (h : i24 f) (rl : Nat → Int) (p : Int) (a : Nat) : i24 (atE S rl p a f) := by
  unfold atE
  refine fo_ind (P := i24) _ (fun c x _ hx => hx.ch_ rl p a c) _ ?_
  split
  · exact h.al_ _ _ _
  · exact h
theorem c_relHang {M : Mm} {g : Nat → Int} {v c r : Int} (hv : 0 ≤ v ∧ v < 24) (hi : i32 (g v.toNat)) (hc : 0 ≤ c ∧ c < 3) (hr : 0 ≤ r ∧ r < 64) {J : Mm → Rs} : Lp (f_X6_drawChild_L76_32 c v J r) FU (0, sr M 679 g) = J (sr M 679 (se g v.toNat (jor (g v.toNat) (jshl r (vtx c 0))))) := by
  obtain ⟨R, hR⟩ : ∃ R : Fin 64, r = (R.val : Int) := ⟨⟨r.toNat, by omega⟩, by simp only; omega⟩
  obtain ⟨C, hCc⟩ : ∃ C : Fin 3, c = (C.val : Int) := ⟨⟨c.toNat, by omega⟩, by simp only; omega⟩
  have hs : vtx c 0 = ((6 + 6 * C.val : Nat) : Int) := by unfold vtx; omega
  have h6 : R.val % 2 ^ 6 = R.val := Nat.mod_eq_of_lt R.isLt
  have h0 : ∀ s, jshl ((R.val % 2 ^ 0 : Nat) : Int) ((6 + 6 * (s : Fin 3).val : Nat) : Int) = 0 := by
    intro s
    rw [show R.val % 2 ^ 0 = 0 by omega]
    revert s; decide
  refine Lp_for 6 (fun i => ((i : Int), sr M 679 (se g v.toNat (jor (g v.toNat) (jshl ((R.val % 2 ^ i : Nat) : Int) (vtx c 0)))))) (fun rc i hi => ?_) (fun rc => ?_) (FU_lt (by omega)) ?_
  · obtain ⟨I, hI⟩ : ∃ I : Fin 6, i = I.val := ⟨⟨i, hi⟩, rfl⟩
    simp only [f_X6_drawChild_L76_32, LtE]
    rw [if_neg (by omega), c_hasBit (by omega), ClS, wrE (by omega) (by omega), show (i : Int) + 1 = ((i + 1 : Nat) : Int) by omega]
    have hb := bit_64 R I
    rw [← hI, ← hR] at hb
    rcases jand_one (jshr r i) with h | h
    · rw [h, if_neg (c := (0 : Int) = 1) (by decide), if_pos rfl]
      have := shl_64n R I (by rw [← hI]; exact hb.mp h)
      rw [← hI] at this
      rw [this]
    · rw [h, if_pos rfl, if_neg (by decide), c_cornerOf (by omega) (by omega), ClS, c_hang hv (by omega), ClS]
      have hb1 : R.val / 2 ^ i % 2 = 1 := by
        have : ¬ R.val / 2 ^ i % 2 = 0 := fun q => by rw [hb.mpr q] at h; exact absurd h (by decide)
        omega
      have h3 := shl_64 R I C (by rw [← hI]; exact hb1)
      rw [← hI] at h3
      refine congrArg rc (Prod.ext rfl (congrArg (sr M 679) ?_))
      unfold addE
      rw [se_at, jor_assoc, hs, show 6 * (c + 1) + (i : Int) = ((6 + 6 * C.val + i : Nat) : Int) by omega, h3]
      funext j
      unfold se
      split <;> rfl
  · simp only [f_X6_drawChild_L76_32, LtE]
    rw [if_pos (by omega), h6, ← hR]
  · refine Prod.ext rfl ?_
    simp only
    rw [hs, h0 C, jor_zero hi]
    refine congrArg (sr M 679) (funext fun j => ?_)
    unfold se; split
    · rename_i e; rw [e]
    · rfl
theorem c_drawChild {M S : Mm} (hC : CC M S) (hg : Okg S) (hO : Oke S) {g : Nat → Int} (hi : i24 g) (hrl : ∀ i, i < 24 → 0 ≤ M 680 i ∧ M 680 i < 64) {p a c : Int} (hp : 0 ≤ p ∧ p < S 0 0) (ha : 0 ≤ a ∧ a < 6) (hc : 0 ≤ c ∧ c < S 4 p.toNat) : f_X6_drawChild p a c (sr M 679 g) = some (0, sr M 679 (if a < S 0 12 then chE S (M 680) p a c g else g)) := by
  have h10 := hg.1
  have h4 := chl_le hg hp
  have hC' := hC.lay hO (k := 679) (by decide) g
  unfold f_X6_drawChild
  rw [c_cornerOf (by omega) (by omega), ClS]
  by_cases c0 : a < S 0 12
  case neg =>
    rw [c_isOfKindN hC'.1 hg (by omega) (by decide), ClS, LtE, if_pos rfl]
    dsimp only
    rw [c_isOfKindN hC'.1 hg (by omega) (by decide), ClS, LtE, if_pos rfl, if_neg c0]
  have ha' : 0 ≤ a ∧ a < S 0 12 := ⟨ha.1, c0⟩
  have hv := vtx_lt (t := c) (by omega) ha
  rw [c_isOfKind hC'.1 hg ha', ClS, LtE, if_pos c0, show 6 * (c + 1) + a = vtx c a from rfl]
  unfold chE
  by_cases k1 : S 12 a.toNat = 1
  · have tail : ∀ G, (Cl (f_X6_isOfKind a 0 (sr M 679 G)) fun v8 M7 => Lt (fun (M9 : Mm) => (some (0, M9) : Rs)) fun J111_10 => if v8 = 0 then J111_10 M7 else Cl (f_X5_childHeadOf p c M7) fun v13 M12 => Lt (wr (v13 * 6)) fun v14 => Lt (wr (v14 + a)) fun v15 => Cl (f_X11_entryOf 680 v15 M12) fun v17 M16 => Lp (f_X6_drawChild_L76_32 c (vtx c a) J111_10 v17) FU (0, M16)) = some (0, sr M 679 G) := by
      intro G
      rw [c_isOfKind (hC.lay hO (by decide) G).1 hg ha', ClS, if_neg (by omega), LtE, if_pos rfl]
    rw [if_pos k1, if_neg (by decide), if_pos k1, c_drawEquations hC hg hO hp ha' (by omega), ClS]
    by_cases c1 : rsv S p a c = -1
    · rw [if_pos c1, if_pos c1, if_neg fun q => q rfl, c_cornerOf (by decide) (by omega), ClS, c_hang hv (by omega), ClS]
      refine (tail _).trans ?_
      unfold alE
      rw [if_pos c1, if_neg (by omega), show 6 * ((-1 : Int) + 1) + a = a by omega]
    · rw [if_neg c1, if_neg c1, if_pos (by decide)]
      exact tail _
  · rw [if_neg k1, if_pos rfl, if_neg k1]
    dsimp only
    rw [c_isOfKind hC'.1 hg ha', ClS, LtE]
    by_cases k0 : S 12 a.toNat = 0
    · have h5 := (hg.2.2.2.1 p hp.1 hp.2).2.2.2.2.2.2.1 c hc.1 hc.2
      have hr := hrl (6 * S 5 (3 * p + c).toNat + a).toNat (by omega)
      rw [if_pos k0, if_neg (by decide), if_pos k0, g_childHead hC'.1 hg hp hc, ClS, LtE, LtE, wrE (v := _ * 6) (by omega) (by omega), wrE (by omega) (by omega), c_entryOf_in 24 alenC_680 (by omega) (by omega), ClS, sr_ne _ _ (by decide), show S 5 (3 * p + c).toNat * 6 + a = 6 * S 5 (3 * p + c).toNat + a by omega]
      exact c_relHang hv (hi _ (by omega)) (by omega) hr
    · rw [if_neg k0, if_pos rfl, if_neg k0]
theorem se_self (f : Nat → Int) (v : Nat) : se f v (f v) = f := by
  funext j; unfold se; split
  · rename_i e; rw [e]
  · rfl
theorem i24.cl_ {f : Nat → Int} (h : i24 f) (j : Nat) : i24 (clI j f) := by
  unfold clI
  exact fo_ind (P := i24) _ (fun k x _ hx => hx.lay k (jor_i32 _ _)) f h
theorem i24.z_ (f : Nat → Int) : i24 (z24 f) := fun i hi => by unfold z24; rw [if_pos hi]; decide
theorem c_draw {M S : Mm} (hC : CC M S) (hg : Okg S) (hO : Oke S) (hrl : ∀ i, i < 24 → 0 ≤ M 680 i ∧ M 680 i < 64) {p : Int} (hp : 0 ≤ p ∧ p < S 0 0) : f_X6_draw p M = some (0, sr M 679 (drE S (M 680) p (z24 (M 679)))) ∧ i24 (drE S (M 680) p (z24 (M 679))) := by
  have h10 := hg.1
  have h12 := hg.2.1
  have h4 := chl_le hg hp
  have hz := i24.z_ (M 679)
  have hA : ∀ n f, i24 f → i24 (fo (atE S (M 680) p) n f) := fun n f hf => fo_ind (P := i24) n (fun a x _ hx => hx.at_ _ _ _) f hf
  have hCl : ∀ n f, i24 f → i24 (fo clI n f) := fun n f hf => fo_ind (P := i24) n (fun a x _ hx => hx.cl_ a) f hf
  refine ⟨?_, hCl _ _ (hA _ _ hz)⟩
  unfold f_X6_draw
  rw [c_fillRow, ClS, alenC_679, show (fun j => if j < 24 then (0 : Int) else M 679 j) = z24 (M 679) from rfl]
  simp only [LtE]
  have L1 : ∀ J : Mm → Rs, Lp (f_X6_draw_L10_63 p J) FU (0, sr M 679 (z24 (M 679))) = J (sr M 679 (fo (atE S (M 680) p) (S 0 12).toNat (z24 (M 679)))) := by
    intro J
    have hcut := fo_cut (P := i24) (g := atE S (M 680) p) (g' := fun a f => if (a : Int) < S 0 12 then atE S (M 680) p a f else f) (n := (S 0 12).toNat) (fun a x hx => hx.at_ _ _ _) (fun a x ha _ => if_pos (by omega)) (fun a x ha _ => if_neg (by omega)) 6 (by omega) _ hz
    rw [← hcut]
    have hP : ∀ n, i24 (fo (fun a f => if (a : Int) < S 0 12 then atE S (M 680) p a f else f) n (z24 (M 679))) := fun n => fo_ind (P := i24) n (fun a x _ hx => by split; exact hx.at_ _ _ _; exact hx) _ hz
    refine Lp_for 6 (fun a => ((a : Int), sr M 679 (fo (fun a f => if (a : Int) < S 0 12 then atE S (M 680) p a f else f) a (z24 (M 679))))) (fun rc a ha => ?_) (fun rc => ?_) (FU_lt (by omega)) rfl
    · have hPa := hP a
      simp only [fo]
      generalize fo _ a (z24 (M 679)) = G at hPa
      have inner : ∀ (G : Nat → Int) (hG : i24 G) (K : Int → Mm → Rs), Lp (f_X6_draw_L35_59 p K) FU ((a : Int), 0, sr M 679 G) = K a (sr M 679 (if (a : Int) < S 0 12 then fo (fun c f => chE S (M 680) p a c f) (S 4 p.toNat).toNat G else G)) := by
        intro G hG K
        have hf : ∀ n, i24 (fo (fun (c : Nat) f => chE S (M 680) p a c f) n G) := fun n => fo_ind (P := i24) n (fun c x _ hx => hx.ch_ _ _ _ _) G hG
        have hq : ∀ n, i24 (if (a : Int) < S 0 12 then fo (fun (c : Nat) f => chE S (M 680) p a c f) n G else G) := fun n => by split; exact hf n; exact hG
        refine Lp_for (S 4 p.toNat).toNat (fun c => ((a : Int), (c : Int), sr M 679 (if (a : Int) < S 0 12 then fo (fun (c : Nat) f => chE S (M 680) p a c f) c G else G))) (fun rc c hc => ?_) (fun rc => ?_) (FU_lt (by omega)) ?_
        · have hqc := hq c
          have hC2 := hC.lay hO (k := 679) (by decide) (if (a : Int) < S 0 12 then fo (fun (c : Nat) f => chE S (M 680) p a c f) c G else G)
          simp only [f_X6_draw_L35_59, LtE]
          rw [g_childCount hC2.1 hg hp, ClS, if_neg (by omega), c_drawChild hC hg hO hqc hrl hp (by omega) (by omega), ClS, wrE (by omega) (by omega)]
          refine congrArg rc (Prod.ext rfl (Prod.ext (by simp only; omega) ?_))
          simp only [fo]
          by_cases ca : (a : Int) < S 0 12
          · rw [if_pos ca, if_pos ca, if_pos ca]
          · rw [if_neg ca, if_neg ca, if_neg ca]
        · have hC2 := hC.lay hO (k := 679) (by decide) (if (a : Int) < S 0 12 then fo (fun (c : Nat) f => chE S (M 680) p a c f) (S 4 p.toNat).toNat G else G)
          simp only [f_X6_draw_L35_59, LtE]
          rw [g_childCount hC2.1 hg hp, ClS, if_pos (by omega)]
        · simp only [fo, ite_self]
          rfl
      have hC2 := hC.lay hO (k := 679) (by decide) G
      simp only [f_X6_draw_L10_63, LtE]
      rw [if_neg (by omega)]
      by_cases ca : (a : Int) < S 0 12
      · rw [c_isOfKind hC2.1 hg ⟨by omega, ca⟩, ClS, Int.toNat_natCast, if_pos ca]
        unfold atE
        by_cases k0 : S 12 a = 0
        · rw [if_pos k0, if_neg (by decide), c_drawEquations hC hg hO hp ⟨by omega, ca⟩ (by decide), ClS, if_pos k0]
          have hal : (if rsv S p a (-1) = -1 then G else alE S p a (-1) G) = alE S p a (-1) G := by
            split
            · rename_i e; unfold alE; rw [if_pos e, if_pos rfl]
            · rfl
          rw [hal, inner _ (hPa.al_ _ _ _), if_pos ca, wrE (by omega) (by omega)]
          rfl
        · rw [if_neg k0, if_pos rfl, if_neg k0, inner _ hPa, if_pos ca, wrE (by omega) (by omega)]
          rfl
      · rw [c_isOfKindN hC2.1 hg (by omega) (by decide), ClS, if_pos rfl, inner _ hPa, if_neg ca, if_neg ca, wrE (by omega) (by omega)]
        rfl
    · simp only [f_X6_draw_L10_63, LtE]
      rw [if_pos (by omega)]
  rw [L1]
  have hz2 := hA (S 0 12).toNat _ hz
  unfold drE
  generalize fo (atE S (M 680) p) (S 0 12).toNat (z24 (M 679)) = G0 at hz2
  refine Lp_for 24 (fun j => ((j : Int), sr M 679 (fo clI j G0))) (fun rc j hj => ?_) (fun rc => ?_) (FU_lt (by omega)) rfl
  · have hPj := hCl j _ hz2
    simp only [fo]
    generalize fo clI j G0 = G at hPj
    simp only [f_X6_draw_L68_36, LtE]
    rw [if_neg (by omega)]
    have hk : ∀ n, i24 (fo (fun k f => se f k (jor (f k) (if jand (jshr (f k) j) 1 = 1 then f j else 0))) n G) := fun n => fo_ind (P := i24) n (fun k x _ hx => hx.lay k (jor_i32 _ _)) G hPj
    have hin : ∀ K : Int → Mm → Rs, Lp (f_X6_draw_L76_35 K) FU ((j : Int), 0, sr M 679 G) = K j (sr M 679 (clI j G)) := by
      intro K
      unfold clI
      refine Lp_for 24 (fun k => ((j : Int), (k : Int), sr M 679 (fo (fun k f => se f k (jor (f k) (if jand (jshr (f k) j) 1 = 1 then f j else 0))) k G))) (fun rc k hk' => ?_) (fun rc => ?_) (FU_lt (by omega)) rfl
      · have hPk := hk k
        simp only [fo]
        generalize fo _ k G = H at hPk
        simp only [f_X6_draw_L76_35, LtE]
        rw [if_neg (by omega), c_entryOf_in 24 alenC_679 (by omega) (by omega), ClS, sr_at, Int.toNat_natCast, c_hasBit (by omega), ClS, wrE (by omega) (by omega), show (k : Int) + 1 = ((k + 1 : Nat) : Int) by omega]
        by_cases cb : jand (jshr (H k) j) 1 = 1
        · rw [if_pos cb, if_neg (by decide), if_pos cb, c_entryOf_in 24 alenC_679 (by omega) (by omega), ClS, c_entryOf_in 24 alenC_679 (by omega) (by omega), ClS, c_setEntry_in 24 alenC_679 (by omega) (by omega), ClS, sr_at, up_se, sr_at, sr_sr]
          rfl
        · rw [if_neg cb, if_pos rfl, if_neg cb, jor_zero (hPk k hk'), se_self]
      · simp only [f_X6_draw_L76_35, LtE]
        rw [if_pos (by omega)]
    rw [hin, wrE (by omega) (by omega)]
    rfl
  · simp only [f_X6_draw_L68_36, LtE]
    rw [if_pos (by omega)]
theorem c_hasRing (M : Mm) : f_X6_hasRing M = some (if hr (M 679) 24 = true then 1 else 0, M) := by
  unfold f_X6_hasRing
  simp only [LtE]
  refine (show ∀ n : Nat, n ≤ 24 → ∀ f, f = 999999999999999 - n → (hr (M 679) n = false → Lp (f_X6_hasRing_L2_15 (fun M1 => some (0, M1)) fun M3 => some (1, M3)) (f + 1) ((n : Int), M) = some (if hr (M 679) 24 = true then 1 else 0, M)) from ?_) 0 (by decide) _ rfl rfl
  have hmono : ∀ n m, hr (M 679) n = true → n ≤ m → hr (M 679) m = true := by
    intro n m h hm
    induction m with
    | zero => have : n = 0 := by omega
              subst this; exact h
    | succ m ih =>
      by_cases e : n = m + 1
      · subst e; exact h
      · simp only [hr]; rw [ih (by omega)]; rfl
  intro n hn
  obtain ⟨d, hd⟩ : ∃ d, n = 24 - d := ⟨24 - n, by omega⟩
  have hd24 : d ≤ 24 ∨ 24 < d := by omega
  clear hn
  induction d generalizing n with
  | zero =>
    subst hd
    intro f hf h0
    rw [Lp_s]
    simp only [f_X6_hasRing_L2_15]
    rw [if_pos (by decide), show hr (M 679) 24 = false from h0]
    rfl
  | succ d ih =>
    intro f hf h0
    rcases hd24 with hd24 | hd24
    case inr =>
      exact ih n (by omega) (by omega) f hf h0
    rw [Lp_s]
    simp only [f_X6_hasRing_L2_15, LtE]
    rw [if_neg (by omega), c_entryOf_in 24 alenC_679 (by omega) (by omega), ClS, c_hasBit (by omega), ClS, Int.toNat_natCast]
    have h1 : hr (M 679) (n + 1) = decide (jand (jshr (M 679 n) n) 1 = 1) := by simp only [hr]; rw [h0]; rfl
    by_cases cb : jand (jshr (M 679 n) n) 1 = 1
    · rw [if_pos cb, if_neg (by decide), if_pos (hmono (n + 1) 24 (by rw [h1]; exact decide_eq_true cb) (by omega))]
    · rw [if_neg cb, if_pos rfl, wrE (by omega) (by omega), show (n : Int) + 1 = ((n + 1 : Nat) : Int) by omega]
      obtain ⟨g, hgf⟩ : ∃ g, f = g + 1 := ⟨f - 1, by omega⟩
      rw [hgf]
      exact ih (n + 1) (by omega) (by omega) g (by omega) (by rw [h1]; exact decide_eq_false cb)
