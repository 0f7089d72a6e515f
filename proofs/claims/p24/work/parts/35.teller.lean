/-! the reference's teller: the production that tells an equation, over forwards -/
/-- the part that stays while attributes are found agrees -/
def Ag (M S : Mm) : Prop := (∀ j, 1 ≤ j → j ≤ 36 → j ≠ 28 → M j = S j) ∧ ∀ i, i = 0 ∨ i = 12 ∨ i = 19 ∨ i = 33 ∨ i = 35 ∨ i = 36 → M 0 i = S 0 i
theorem Ag.refl (S : Mm) : Ag S S := ⟨fun _ _ _ _ => rfl, fun _ _ => rfl⟩
theorem Ag.trans {A B C : Mm} (h : Ag A B) (h' : Ag B C) : Ag A C := ⟨fun j j1 j2 j3 => (h.1 j j1 j2 j3).trans (h'.1 j j1 j2 j3), fun i hi => (h.2 i hi).trans (h'.2 i hi)⟩
theorem Ag.symm {A B : Mm} (h : Ag A B) : Ag B A := ⟨fun j j1 j2 j3 => (h.1 j j1 j2 j3).symm, fun i hi => (h.2 i hi).symm⟩
theorem Ag.okg {M S : Mm} (h : Ag M S) (hg : Okg S) : Okg M := hg.of (h.2 0 (by simp)) (h.2 12 (by simp)) fun k k1 k2 => h.1 k k1 (by omega) (by omega)
theorem Ag.oke {M S : Mm} (h : Ag M S) (hO : Oke S) : Oke M := hO.of (by rw [h.2 0 (by simp)]; exact Int.le_refl _) (by rw [h.2 12 (by simp)]; exact Int.le_refl _) (h.2 19 (by simp)) (fun k k1 k2 => h.1 k (by omega) (by omega) (by omega)) (fun a _ _ => by rw [h.1 12 (by decide) (by decide) (by decide)]) (fun a _ _ => by rw [h.1 4 (by decide) (by decide) (by decide)])
theorem mt_ag {M S : Mm} (h : Ag M S) : mt M = mt S := by
  unfold mt; rw [h.1 16 (by decide) (by decide) (by decide), h.1 17 (by decide) (by decide) (by decide), h.1 18 (by decide) (by decide) (by decide), h.1 19 (by decide) (by decide) (by decide), h.1 27 (by decide) (by decide) (by decide)]
/-- what the teller lays anew -/
def TF (M M' : Mm) : Prop := (∀ j, j ≠ 0 → j ≠ 59 → j ≠ 60 → M' j = M j) ∧ ∀ i, i ≠ 76 → M' 0 i = M 0 i
theorem TF.refl (M : Mm) : TF M M := ⟨fun _ _ _ _ => rfl, fun _ _ => rfl⟩
theorem TF.trans {A B C : Mm} (h : TF A B) (h' : TF B C) : TF A C := ⟨fun j j1 j2 j3 => (h'.1 j j1 j2 j3).trans (h.1 j j1 j2 j3), fun i hi => (h'.2 i hi).trans (h.2 i hi)⟩
theorem TF.ag {M M' S : Mm} (h : TF M M') (hA : Ag M S) : Ag M' S := ⟨fun j j1 j2 j3 => (h.1 j (by omega) (by omega) (by omega)).trans (hA.1 j j1 j2 j3), fun i hi => (h.2 i (by omega)).trans (hA.2 i hi)⟩
def cntm (P : Nat → Bool) : Nat → Nat
  | 0 => 0
  | n + 1 => cntm P n + if P n then 1 else 0
def lstm (P : Nat → Bool) : Nat → Int
  | 0 => -1
  | n + 1 => if P n then (n : Int) else lstm P n
theorem cntm_le (P : Nat → Bool) : ∀ n, cntm P n ≤ n := by
  intro n
  induction n with
  | zero => exact Nat.le_refl _
  | succ n ih => simp only [cntm]; split <;> omega
theorem cntm_congr {P Q : Nat → Bool} : ∀ n, (∀ k, k < n → P k = Q k) → cntm P n = cntm Q n ∧ lstm P n = lstm Q n ∧ sgl P n = sgl Q n := by
  intro n
  induction n with
  | zero => exact fun _ => ⟨rfl, rfl, rfl⟩
  | succ n ih => intro h; have := ih fun k hk => h k (by omega); simp only [cntm, lstm, sgl, this.1, this.2.1, this.2.2, h n (by omega), and_self]
theorem sgl_cnt (P : Nat → Bool) : ∀ n, sgl P n = if cntm P n = 0 then -1 else if cntm P n = 1 then lstm P n else -3 := by
  intro n
  induction n with
  | zero => rfl
  | succ n ih =>
    have hm : ∀ m, 0 ≤ lstm P m ∨ cntm P m = 0 := by
      intro m
      induction m with
      | zero => exact Or.inr rfl
      | succ m ih2 => simp only [lstm, cntm]; split <;> omega
    by_cases h : P n = true
    · have e1 : cntm P (n + 1) = cntm P n + 1 := by simp only [cntm, h, if_true]
      have e2 : sgl P (n + 1) = if sgl P n = -1 then (n : Int) else -3 := by simp only [sgl, h, if_true]
      have e3 : lstm P (n + 1) = n := by simp only [lstm, h, if_true]
      rw [e1, e2, e3, ih, if_neg (c := cntm P n + 1 = 0) (by omega)]
      by_cases h0 : cntm P n = 0
      · rw [if_pos h0, if_pos rfl, if_pos (by omega)]
      · rw [if_neg h0, if_neg (c := cntm P n + 1 = 1) (by omega)]
        by_cases h1 : cntm P n = 1
        · rw [if_pos h1, if_neg (by have := hm n; omega)]
        · rw [if_neg h1, if_neg (by decide)]
    · have e1 : cntm P (n + 1) = cntm P n := by simp only [cntm, h]; rfl
      have e2 : sgl P (n + 1) = sgl P n := by simp only [sgl, h]; rfl
      have e3 : lstm P (n + 1) = lstm P n := by simp only [lstm, h]; rfl
      rw [e1, e2, e3, ih]
theorem r_tellersOf {M S : Mm} (hA : Ag M S) (hO : Oke S) (p a t : Int) : f_X12_tellersOf p a t M = some ((cntm (mt S p a t) (S 0 19).toNat : Int), M) := by
  have hOM := hA.oke hO
  have h19 := hA.2 19 (by simp)
  have hb := hO.1
  unfold f_X12_tellersOf
  simp only [LtE]
  refine Lp_for (S 0 19).toNat (fun i => ((cntm (mt S p a t) i : Int), (i : Int), M)) (fun rc i hi => ?_) (fun rc => ?_) (FU_lt (by omega)) rfl
  · simp only [f_X12_tellersOf_L6_20, LtE]
    rw [h19, if_neg (by omega), r_counts hOM (by rw [h19]; omega), ClS, mt_ag hA]
    have := cntm_le (mt S p a t) i
    by_cases h : mt S p a t i = true
    · rw [if_pos h, if_neg (by decide), wrE (by omega) (by omega), wrE (by omega) (by omega)]
      simp only [cntm, h, if_true]
      refine congrArg rc (Prod.ext (by simp only; omega) (Prod.ext (by simp only; omega) rfl))
    · rw [if_neg h, if_pos rfl, wrE (by omega) (by omega), wrE (by omega) (by omega)]
      simp only [cntm, h]
      refine congrArg rc (Prod.ext (by simp only [Bool.false_eq_true, if_false]; omega) (Prod.ext (by simp only; omega) rfl))
  · simp only [f_X12_tellersOf_L6_20, LtE]
    rw [h19, if_pos (by omega)]
/-- the reference's children that stand -/
def rstand (S : Mm) (p : Int) (h : Nat) (k : Int) : Int := if h = 0 then k else stand S p h k
theorem rstand_in {S : Mm} {p : Int} {h : Nat} {k : Int} (hk : 0 ≤ k ∧ k < S 4 (shown S p h).toNat) : rstand S p h k = stand S p h k := by
  unfold rstand
  split
  · rename_i e; subst e; simp only [stand, shown] at hk ⊢; rw [if_pos hk]
  · rfl
theorem r_childThere {M : Mm} {p t : Int} (hp : 0 ≤ p ∧ p < 10) (hn : 0 ≤ M 4 p.toNat ∧ M 4 p.toNat ≤ 3) (ht : t ≠ -1) : f_X12_childThere p t M = some (if 0 < M 4 p.toNat ∧ M 59 0 = t then 0 else if 1 < M 4 p.toNat ∧ M 59 1 = t then 1 else if 2 < M 4 p.toNat ∧ M 59 2 = t then 2 else 99999, M) := by
  have hs : ∀ (J37 : Mm → Rs) (J29 : Int → Mm → Rs) (rc : Int × Mm → Rs) (v : Int), 0 ≤ v → (v < 3 ∨ M 4 p.toNat ≤ v) → v < 5 → f_X12_childThere_L9_15 p t J37 J29 rc (v, M) = if M 4 p.toNat ≤ v then J37 M else if M 59 v.toNat = t then J29 v M else rc (v + 1, M) := by
    intro J37 J29 rc v h0 h1 h2
    simp only [f_X12_childThere_L9_15, LtE]
    rw [gdE hp]
    by_cases h : M 4 p.toNat ≤ v
    · rw [if_pos h, if_pos h]
    · rw [if_neg h, if_neg h, gdE (by omega), wrE (by omega) (by omega)]
      by_cases h3 : M 59 v.toNat = t
      · rw [if_pos h3, if_neg fun q => q h3]
      · rw [if_neg h3, if_pos h3]
  unfold f_X12_childThere
  rw [if_pos ht]
  simp only [LtE]
  rw [FU_4, Lp_s, hs _ _ _ 0 (by decide) (by omega) (by decide)]
  by_cases n0 : M 4 p.toNat ≤ 0
  · rw [if_pos n0, if_neg (by omega), if_neg (by omega), if_neg (by omega)]
  rw [if_neg n0]
  by_cases e0 : M 59 0 = t
  · rw [if_pos (c := M 59 (0 : Int).toNat = t) e0, if_pos ⟨by omega, e0⟩]
  rw [if_neg (c := M 59 (0 : Int).toNat = t) e0, if_neg fun q => e0 q.2, Lp_s, hs _ _ _ _ (by decide) (by omega) (by decide)]
  by_cases n1 : M 4 p.toNat ≤ 1
  · rw [if_pos (by omega), if_neg (by omega), if_neg (by omega)]
  rw [if_neg (by omega)]
  by_cases e1 : M 59 1 = t
  · rw [if_pos (c := M 59 ((0 : Int) + 1).toNat = t) e1, if_pos ⟨by omega, e1⟩]; rfl
  rw [if_neg (c := M 59 ((0 : Int) + 1).toNat = t) e1, if_neg fun q => e1 q.2, Lp_s, hs _ _ _ _ (by decide) (by omega) (by decide)]
  by_cases n2 : M 4 p.toNat ≤ 2
  · rw [if_pos (by omega), if_neg (by omega)]
  rw [if_neg (by omega)]
  by_cases e2 : M 59 2 = t
  · rw [if_pos (c := M 59 ((0 : Int) + 1 + 1).toNat = t) e2, if_pos ⟨by omega, e2⟩]; rfl
  rw [if_neg (c := M 59 ((0 : Int) + 1 + 1).toNat = t) e2, if_neg fun q => e2 q.2, Lp_s, hs _ _ _ _ (by decide) (by omega) (by decide), if_pos (by omega)]
/-- the target there, as the reference tells it -/
def rthere (S : Mm) (p : Int) (h : Nat) (t : Int) : Int := if t = -1 then -1 else if there S p h t = -9 then 99999 else there S p h t
theorem stand_not {S : Mm} (hg : Okg S) {p : Int} (hp : 0 ≤ p ∧ p < S 0 0) {h : Nat} {c : Int} (hc : ¬ (0 ≤ c ∧ c < S 4 (shown S p h).toNat ∧ shown S p h ≠ -1)) : stand S p h c = -1 := (stand_ok hg hp h c).2 hc
theorem r_childThereS {M S : Mm} (hA : Ag M S) (hg : Okg S) {p : Int} (hp : 0 ≤ p ∧ p < S 0 0) {h : Nat} (hs : shown S p h ≠ -1) (hst : ∀ k : Nat, k < 3 → M 59 k = rstand S p h k) {t : Int} (ht : -1 ≤ t) : f_X12_childThere (shown S p h) t M = some (rthere S p h t, M) := by
  by_cases h1 : t = -1
  · subst h1
    unfold f_X12_childThere rthere
    rw [if_neg (by decide), if_pos rfl]
  have hsh := (shown_ok hg hp h).resolve_left hs
  have hn := chl_le hg hsh
  have h10 := hg.1
  have e4 : M 4 = S 4 := hA.1 4 (by decide) (by decide) (by decide)
  rw [r_childThere ⟨hsh.1, by omega⟩ (by rw [e4]; exact hn) h1, e4, hst 0 (by decide), hst 1 (by decide), hst 2 (by decide)]
  unfold rthere there
  rw [if_neg h1, if_neg (show ¬ t < 0 by omega)]
  have hno : ∀ c : Int, 0 ≤ c → ¬ c < S 4 (shown S p h).toNat → stand S p h c = -1 := fun c _ hc => stand_not hg hp fun q => hc q.2.1
  have hyes : ∀ c : Int, 0 ≤ c → c < S 4 (shown S p h).toNat → rstand S p h c = stand S p h c := fun c c0 c1 => rstand_in ⟨c0, c1⟩
  have key : ∀ c : Int, 0 ≤ c → ((c < S 4 (shown S p h).toNat ∧ rstand S p h c = t) ↔ stand S p h c = t) := by
    intro c c0
    by_cases c1 : c < S 4 (shown S p h).toNat
    · rw [hyes c c0 c1]; exact ⟨fun q => q.2, fun q => ⟨c1, q⟩⟩
    · rw [hno c c0 c1]; exact ⟨fun q => absurd q.1 c1, fun q => by omega⟩
  have k0 := key 0 (by decide)
  have k1 := key 1 (by decide)
  have k2 := key 2 (by decide)
  rw [show ((0 : Nat) : Int) = 0 from rfl, show ((1 : Nat) : Int) = 1 from rfl, show ((2 : Nat) : Int) = 2 from rfl]
  by_cases q0 : stand S p h 0 = t
  · rw [if_pos (k0.mpr q0), if_pos q0]; simp
  rw [if_neg fun q => q0 (k0.mp q), if_neg q0]
  by_cases q1 : stand S p h 1 = t
  · rw [if_pos (k1.mpr q1), if_pos q1]; simp
  rw [if_neg fun q => q1 (k1.mp q), if_neg q1]
  by_cases q2 : stand S p h 2 = t
  · rw [if_pos (k2.mpr q2), if_pos q2]; simp
  rw [if_neg fun q => q2 (k2.mp q), if_neg q2]; simp
theorem mt_rthere {S : Mm} (hg : Okg S) (hO : Oke S) {p : Int} {h : Nat} {t : Int} (ht : -1 ≤ t) (q a : Int) {k : Nat} (hk : k < (S 0 19).toNat) : mt S q a (rthere S p h t) k = mt S q a (there S p h t) k := by
  unfold rthere
  by_cases h1 : t = -1
  · rw [if_pos h1]; unfold there; rw [if_pos (by omega), h1]
  rw [if_neg h1]
  by_cases h2 : there S p h t = -9
  · rw [if_pos h2, h2]
    have h5 := (hO.2.1 k (by omega)).2.2.2.2.1
    have h4 := chl_le hg (hO.2.1 k (by omega)).1
    have hb : S 18 k ≠ 99999 ∧ S 18 k ≠ -9 := by
      split at h5
      · omega
      · split at h5 <;> omega
    unfold mt
    rw [decide_eq_false hb.1, decide_eq_false hb.2]
  · rw [if_neg h2]
theorem sg_cnt {S : Mm} (hg : Okg S) (hO : Oke S) {p : Int} {h : Nat} {t : Int} (ht : -1 ≤ t) (q a : Int) : sg S q a (there S p h t) = if cntm (mt S q a (rthere S p h t)) (S 0 19).toNat = 0 then -1 else if cntm (mt S q a (rthere S p h t)) (S 0 19).toNat = 1 then lstm (mt S q a (rthere S p h t)) (S 0 19).toNat else -3 := by
  unfold sg
  rw [← (cntm_congr (S 0 19).toNat fun k hk => mt_rthere (p := p) (h := h) hg hO ht q a hk).2.2, sgl_cnt]
theorem r_compose {M S : Mm} (hA : Ag M S) (hg : Okg S) {q o h : Int} (hq : 0 ≤ q ∧ q < S 0 0) (ho : S 8 q.toNat = o) (ho1 : o ≠ -1) {J : Int → Mm → Rs} : Lp (f_X12_teller_L79_61 o J) FU (q, h, 0, M) = J h (sr M 60 fun i => if i < 3 then (if (i : Int) < S 4 o.toNat then M 59 (S 9 (3 * q + i).toNat).toNat else -1) else M 60 i) := by
  have hP := hg.2.2.2.1 q hq.1 hq.2
  have h8 := hP.2.2.2.2.2.2.2.2.1
  rw [ho] at h8
  have h8 := h8.resolve_left ho1
  have h10 := hg.1
  have hc := chl_le hg hq
  have hco := chl_le hg (p := o) ⟨h8.1, h8.2.1⟩
  refine Lp_for 3 (fun i => (q, h, (i : Int), sr M 60 fun j => if j < i then (if (j : Int) < S 4 o.toNat then M 59 (S 9 (3 * q + j).toNat).toNat else -1) else M 60 j)) (fun rc i hi => ?_) (fun rc => ?_) (FU_lt (by omega)) ?_
  · simp only [f_X12_teller_L79_61, LtE]
    rw [if_neg (by omega), if_neg ho1, gdE (by omega), sr_ne _ _ (by decide), hA.1 4 (by decide) (by decide) (by decide)]
    have hfin : ∀ w : Int, w = (if (i : Int) < S 4 o.toNat then M 59 (S 9 (3 * q + i).toNat).toNat else -1) → gd (0 ≤ (i : Int) ∧ (i : Int) < 3) (rc (q, h, wr ((i : Int) + 1), up (sr M 60 fun j => if j < i then (if (j : Int) < S 4 o.toNat then M 59 (S 9 (3 * q + j).toNat).toNat else -1) else M 60 j) 60 ((i : Int)).toNat w)) = rc (q, h, ((i + 1 : Nat) : Int), sr M 60 fun j => if j < i + 1 then (if (j : Int) < S 4 o.toNat then M 59 (S 9 (3 * q + j).toNat).toNat else -1) else M 60 j) := by
      intro w hw
      rw [gdE (by omega), wrE (by omega) (by omega), up_sr, sr_sr, sr_at]
      refine congrArg rc (Prod.ext rfl (Prod.ext rfl (Prod.ext (by simp only; omega) (congrArg (sr M 60) (funext fun j => ?_)))))
      rw [Int.toNat_natCast]
      by_cases e : j = i
      · subst e; rw [if_pos rfl, if_pos (c := j < j + 1) (by omega), hw]
      · rw [if_neg e]
        by_cases e2 : j < i
        · rw [if_pos e2, if_pos (c := j < i + 1) (by omega)]
        · rw [if_neg e2, if_neg (c := j < i + 1) (by omega)]
    by_cases c : S 4 o.toNat ≤ i
    · rw [if_pos c]
      exact hfin _ (by rw [if_neg (by omega)])
    · have h9 := h8.2.2 i (by omega) (by omega)
      rw [if_neg c, wrE (v := 3 * q) (by omega) (by omega), wrE (by omega) (by omega), gdE (by omega), sr_ne _ _ (by decide), sr_ne _ _ (by decide), hA.1 9 (by decide) (by decide) (by decide), gdE (by omega)]
      exact hfin _ (by rw [if_pos (by omega)])
  · simp only [f_X12_teller_L79_61, LtE]
    rw [if_pos (by omega)]
  · have : (fun (j : Nat) => if j < 0 then (if (j : Int) < S 4 o.toNat then M 59 (S 9 (3 * q + j).toNat).toNat else -1) else M 60 j) = M 60 := funext fun j => if_neg (Nat.not_lt_zero _)
    simp only [this, sr_self]
    rfl
theorem r_copy3 {M : Mm} {o h : Int} (ho1 : o ≠ -1) {J : Int → Mm → Rs} : Lp (f_X12_teller_L140_38 o J) FU (h, 0, M) = J h (sr M 59 fun i => if i < 3 then M 60 i else M 59 i) := by
  refine Lp_for 3 (fun i => (h, (i : Int), sr M 59 fun j => if j < i then M 60 j else M 59 j)) (fun rc i hi => ?_) (fun rc => ?_) (FU_lt (by omega)) ?_
  · simp only [f_X12_teller_L140_38, LtE]
    rw [if_neg (by omega), if_neg ho1, gdE (by omega), gdE (by omega), wrE (by omega) (by omega), sr_ne _ _ (by decide), up_sr, sr_sr, sr_at]
    refine congrArg rc (Prod.ext rfl (Prod.ext (by simp only; omega) (congrArg (sr M 59) (funext fun j => ?_))))
    rw [Int.toNat_natCast]
    by_cases e : j = i
    · subst e; rw [if_pos rfl, if_pos (by omega)]
    · rw [if_neg e]
      by_cases e2 : j < i
      · rw [if_pos e2, if_pos (by omega)]
      · rw [if_neg e2, if_neg (by omega)]
  · simp only [f_X12_teller_L140_38, LtE]
    rw [if_pos (by omega)]
  · have : (fun (j : Nat) => if j < 0 then M 60 j else M 59 j) = M 59 := funext fun j => if_neg (Nat.not_lt_zero _)
    simp only [this, sr_self]
    rfl
theorem r_teller {M S : Mm} (hA : Ag M S) (hg : Okg S) (hO : Oke S) {p a t : Int} (hp : 0 ≤ p ∧ p < S 0 0) (ht : -1 ≤ t) : ∃ M', f_X12_teller p a t M = some (if rsv S p a t = -1 then -1 else shown S p (rsh S p a t), M') ∧ TF M M' ∧ (rsv S p a t ≠ -1 → shown S p (rsh S p a t) ≠ -1 ∧ M' 0 76 = (if rsh S p a t = 0 then 0 else 1) ∧ ∀ k : Nat, k < 3 → M' 59 k = rstand S p (rsh S p a t) k) := by
  have h10 := hg.1
  unfold f_X12_teller
  simp only [LtE]
  have h0 : ∀ (M1 : Mm) (J : Mm → Rs), Lp (f_X12_teller_L8_69 J) FU (0, M1) = J (sr M1 59 fun j => if j < 3 then (j : Int) else M1 59 j) := by
    intro M1 J
    refine Lp_for 3 (fun i => ((i : Int), sr M1 59 fun j => if j < i then (j : Int) else M1 59 j)) (fun rc i hi => ?_) (fun rc => ?_) (FU_lt (by omega)) ?_
    · simp only [f_X12_teller_L8_69, LtE]
      rw [if_neg (by omega), gdE (by omega), wrE (by omega) (by omega), up_sr, sr_sr, sr_at]
      refine congrArg rc (Prod.ext (by simp only; omega) (congrArg (sr M1 59) (funext fun j => ?_)))
      rw [Int.toNat_natCast]
      by_cases e : j = i
      · subst e; rw [if_pos rfl, if_pos (by omega)]
      · rw [if_neg e]
        by_cases e2 : j < i
        · rw [if_pos e2, if_pos (by omega)]
        · rw [if_neg e2, if_neg (by omega)]
    · simp only [f_X12_teller_L8_69, LtE]
      rw [if_pos (by omega)]
    · have : (fun (j : Nat) => if j < 0 then (j : Int) else M1 59 j) = M1 59 := funext fun j => if_neg (Nat.not_lt_zero _)
      simp only [this, sr_self]
      rfl
  rw [h0]
  generalize hM1 : sr (up M 0 76 0) 59 _ = M1
  have t1 : TF M M1 := ⟨fun j j0 j1 j2 => by rw [← hM1, sr_ne _ _ j1, up_ne _ _ _ j0], fun i hi => by rw [← hM1, sr_ne _ _ (by decide)]; simp [up, hi]⟩
  have u76 : M1 0 76 = 0 := by rw [← hM1, sr_ne _ _ (by decide), up_at]
  have u59 : ∀ k : Nat, k < 3 → M1 59 k = (k : Int) := fun k hk => by rw [← hM1, sr_at, if_pos hk]
  have hW : Wp (Lp (f_X12_teller_L35_62 a t (fun M4 => some ((-1), M4)) fun v6 M7 => some (v6, M7)) FU (p, 0, M1)) fun r => r.1 = (if rsv S p a t = -1 then -1 else shown S p (rsh S p a t)) ∧ TF M r.2 ∧ (rsv S p a t ≠ -1 → shown S p (rsh S p a t) ≠ -1 ∧ r.2 0 76 = (if rsh S p a t = 0 then 0 else 1) ∧ ∀ k : Nat, k < 3 → r.2 59 k = rstand S p (rsh S p a t) k) := by
    refine Wp_lp (fun (s : Int × Int × Mm) => ∃ h : Nat, h ≤ 4 ∧ s.2.1 = h ∧ s.1 = shown S p h ∧ (∀ h', h' < h → sgh S p a t h' = -1) ∧ TF M s.2.2 ∧ (s.1 ≠ -1 → s.2.2 0 76 = (if h = 0 then 0 else 1) ∧ ∀ k : Nat, k < 3 → s.2.2 59 k = rstand S p h k)) (fun s => (4 - s.2.1).toNat) ?_ FU _ ⟨0, by decide, rfl, rfl, fun h' hh => absurd hh (Nat.not_lt_zero _), t1, fun _ => ⟨u76, fun k hk => (u59 k hk).trans rfl⟩⟩ (FU_lt (by simp only; omega))
    rintro rc ⟨q, h0, M2⟩ ⟨h, hh, eh, eq, hno, hT, hst⟩ ih
    simp only at eh eq hT hst ih
    subst eh
    simp only [f_X12_teller_L35_62, LtE]
    by_cases c3 : 3 < (h : Int)
    · rw [if_pos c3]
      have e4 : h = 4 := by omega
      subst e4
      have hr : rsv S p a t = -1 := by
        have e : rsh S p a t = 3 := by unfold rsh; rw [hno 0 (by decide), hno 1 (by decide), hno 2 (by decide)]; rfl
        unfold rsv; rw [e]; exact hno 3 (by decide)
      exact Wp_some ⟨by rw [if_pos hr], hT, fun q => absurd hr q⟩
    rw [if_neg c3]
    have hrs : ∀ h', h' ≤ 3 → (∀ i, i < h' → sgh S p a t i = -1) → sgh S p a t h' ≠ -1 ∨ h' = 3 → rsh S p a t = h' := by
      intro h' l1 l2 l3
      have hc : h' = 0 ∨ h' = 1 ∨ h' = 2 ∨ h' = 3 := by omega
      unfold rsh
      rcases hc with rfl | rfl | rfl | rfl
      · rw [if_pos (l3.resolve_right (by decide))]
      · rw [l2 0 (by decide), if_neg (by decide), if_pos (l3.resolve_right (by decide))]
      · rw [l2 0 (by decide), l2 1 (by decide), if_neg (by decide), if_neg (by decide), if_pos (l3.resolve_right (by decide))]
      · rw [l2 0 (by decide), l2 1 (by decide), l2 2 (by decide), if_neg (by decide), if_neg (by decide), if_neg (by decide)]
    by_cases c1 : q = -1
    · rw [if_pos c1]
      have hr : rsv S p a t = -1 := by
        have hall : ∀ i, sgh S p a t i = -1 := fun i => by
          by_cases hi : i < h
          · exact hno i hi
          · unfold sgh; rw [if_pos (shown_stop (by rw [← eq]; exact c1) i (by omega))]
        unfold rsv; exact hall _
      exact Wp_some ⟨by rw [if_pos hr], hT, fun q => absurd hr q⟩
    rw [if_neg c1]
    obtain ⟨s76, s59⟩ := hst c1
    have hq1 : shown S p h ≠ -1 := by rw [← eq]; exact c1
    have hqp := (shown_ok hg hp h).resolve_left hq1
    have hA2 : Ag M2 S := hT.ag hA
    rw [eq, r_childThereS hA2 hg hp hq1 s59 ht, ClS, r_tellersOf hA2 hO, ClS]
    have hsg : sgh S p a t h = sg S (shown S p h) a (there S p h t) := by unfold sgh; rw [if_neg hq1]
    rw [sg_cnt hg hO ht] at hsg
    by_cases c2 : cntm (mt S (shown S p h) a (rthere S p h t)) (S 0 19).toNat = 0
    case neg =>
      rw [if_neg (by omega)]
      rw [if_neg c2] at hsg
      have hm : ∀ P m, 0 ≤ lstm P m ∨ cntm P m = 0 := by
        intro P m
        induction m with
        | zero => exact Or.inr rfl
        | succ m ih2 => simp only [lstm, cntm]; split <;> omega
      have hne : sgh S p a t h ≠ -1 := by
        rw [hsg]
        have := hm (mt S (shown S p h) a (rthere S p h t)) (S 0 19).toNat
        split <;> omega
      have e := hrs h (by omega) hno (Or.inl hne)
      have hr : rsv S p a t ≠ -1 := by unfold rsv; rw [e]; exact hne
      refine Wp_some ⟨?_, hT, fun _ => ?_⟩
      · simp only; rw [if_neg hr, e]
      · rw [e]; exact ⟨hq1, s76, s59⟩
    rw [if_pos (by omega), gdE (by omega), hA2.1 8 (by decide) (by decide) (by decide)]
    rw [if_pos c2] at hsg
    have hno' : ∀ h', h' < h + 1 → sgh S p a t h' = -1 := fun h' l => by
      by_cases e : h' = h
      · rw [e]; exact hsg
      · exact hno h' (by omega)
    have hsh : S 8 (shown S p h).toNat = shown S p (h + 1) := by simp only [shown]; rw [if_neg hq1]
    by_cases co : S 8 (shown S p h).toNat = -1
    · have l1 : ∀ (A : Mm → Rs), Lp (f_X12_teller_L79_61 (S 8 (shown S p h).toNat) fun v21 M22 => Lp (f_X12_teller_L140_38 (S 8 (shown S p h).toNat) fun v24 M25 => rc (S 8 (shown S p h).toNat, wr (v24 + 1), up M25 0 76 1)) FU (v21, 0, M22)) FU (shown S p h, (h : Int), 0, M2) = rc (S 8 (shown S p h).toNat, wr ((h : Int) + 1), up M2 0 76 1) := by
        intro A
        rw [FU_4, Lp_s]
        simp only [f_X12_teller_L79_61]
        rw [if_neg (by decide), if_pos co, Lp_s]
        simp only [f_X12_teller_L140_38]
        rw [if_neg (by decide), if_pos co]
      rw [l1 (fun _ => none), wrE (by omega) (by omega)]
      refine ih _ ⟨h + 1, by omega, by simp only; omega, hsh, hno', hT.trans ⟨fun j j0 _ _ => up_ne _ _ _ j0, fun i hi => by simp [up, hi]⟩, fun q => absurd co q⟩ (by simp only; omega)
    · rw [r_compose hA2 hg hqp rfl co, r_copy3 co, wrE (by omega) (by omega)]
      refine ih _ ⟨h + 1, by omega, by simp only; omega, hsh, hno', hT.trans ⟨fun j j0 j1 j2 => ?_, fun i hi => ?_⟩, fun _ => ⟨?_, fun k hk => ?_⟩⟩ (by simp only; omega)
      · simp only; rw [up_ne _ _ _ j0, sr_ne _ _ j1, sr_ne _ _ j2]
      · simp only [up, hi, and_false, if_false]; rw [sr_ne _ _ (by decide), sr_ne _ _ (by decide)]
      · simp only; rw [up_at, if_neg (Nat.succ_ne_zero _)]
      · simp only
        rw [up_ne _ _ _ (by decide), sr_at, if_pos hk, sr_at, if_pos hk]
        have h9 := ((hg.2.2.2.1 _ hqp.1 hqp.2).2.2.2.2.2.2.2.2.1).resolve_left co
        have hch := chl_le hg hqp
        unfold rstand
        rw [if_neg (Nat.succ_ne_zero _)]
        simp only [stand]
        rw [← hsh]
        by_cases cc : (k : Int) < S 4 (S 8 (shown S p h).toNat).toNat
        · have h99 := h9.2.2 k (by omega) cc
          rw [if_pos cc, if_pos ⟨co, by omega, cc⟩]
          have := s59 (S 9 (3 * shown S p h + k).toNat).toNat (by omega)
          rw [this, Int.toNat_of_nonneg h99.1, rstand_in h99]
        · rw [if_neg cc, if_neg fun q => cc q.2.2]
  obtain ⟨r, hr, r1, r2, r3⟩ := hW
  exact ⟨r.2, by rw [hr, ← r1], r2, r3⟩
theorem r_equationFor {M S : Mm} (hA : Ag M S) (hg : Okg S) (hO : Oke S) {p a t : Int} (hp : 0 ≤ p ∧ p < S 0 0) (ht : -1 ≤ t) : ∃ M', f_X12_equationFor p a t M = some (rsv S p a t, M') ∧ TF M M' ∧ (rsv S p a t ≠ -1 → shown S p (rsh S p a t) ≠ -1 ∧ M' 0 76 = (if rsh S p a t = 0 then 0 else 1) ∧ ∀ k : Nat, k < 3 → M' 59 k = rstand S p (rsh S p a t) k) := by
  obtain ⟨M', h1, h2, h3⟩ := r_teller (a := a) hA hg hO hp ht
  refine ⟨M', ?_, h2, h3⟩
  unfold f_X12_equationFor
  rw [h1, ClS]
  by_cases c : rsv S p a t = -1
  · rw [if_pos c, if_neg (by decide), c]
  obtain ⟨k1, k2, k3⟩ := h3 c
  have hA2 := h2.ag hA
  rw [if_neg c, if_pos k1, r_childThereS hA2 hg hp k1 k3 ht, ClS, r_tellersOf hA2 hO, ClS]
  have hr : rsv S p a t = sg S (shown S p (rsh S p a t)) a (there S p (rsh S p a t) t) := by
    unfold rsv sgh; rw [if_neg k1]
  have hr0 := hr
  rw [sg_cnt hg hO ht] at hr
  have hOM := hA2.oke hO
  have h19 := hA2.2 19 (by simp)
  have hb := hO.1
  generalize hP : mt S (shown S p (rsh S p a t)) a (rthere S p (rsh S p a t) t) = P at hr
  by_cases c0 : cntm P (S 0 19).toNat = 0
  · rw [if_pos c0] at hr; exact absurd hr c
  rw [if_neg c0] at hr
  by_cases c1 : cntm P (S 0 19).toNat = 1
  · rw [if_pos c1] at hr
    rw [if_pos (by omega), LtE, hr]
    refine Lp_for (S 0 19).toNat (fun i => (lstm P i, (i : Int), M')) (fun rc i hi => ?_) (fun rc => ?_) (FU_lt (by omega)) rfl
    · simp only [f_X12_equationFor_L48_26, LtE]
      rw [h19, if_neg (by omega), r_counts hOM (by rw [h19]; omega), ClS, mt_ag hA2, hP]
      by_cases h : P i = true
      · rw [if_pos h, if_neg (by decide), wrE (by omega) (by omega)]
        simp only [lstm, h, if_true]
        rfl
      · rw [if_neg h, if_pos rfl, wrE (by omega) (by omega)]
        simp only [lstm, h]
        rfl
    · simp only [f_X12_equationFor_L48_26, LtE]
      rw [h19, if_pos (by omega)]
  · rw [if_neg c1] at hr
    rw [if_neg (by omega), hr]
