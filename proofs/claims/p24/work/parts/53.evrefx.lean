/-! the reference's expressions -/
theorem r_nodeAt {S M : Mm} (hP : PlO S) (e35 : M 0 35 = S 0 35) (e36 : M 36 = S 36) (h35 : 0 ≤ S 0 35 ∧ S 0 35 ≤ 30) {m : Int} (hm : 0 ≤ m ∧ m < S 0 35) : f_X12_nodeAt (S 36 m.toNat) M = some (m, M) := by
  unfold f_X12_nodeAt
  simp only [LtE]
  refine Lp_for (S 0 35).toNat (fun i => ((if m < (i : Int) then m else -1), (i : Int), M)) (fun rc i hi => ?_) (fun rc => ?_) (FU_lt (by omega)) ?_
  · simp only [f_X12_nodeAt_L4_17, LtE]
    rw [e35, if_neg (by omega), gdE (by omega), e36, Int.toNat_natCast, wrE (by omega) (by omega), show (i : Int) + 1 = ((i + 1 : Nat) : Int) by omega]
    by_cases c : S 36 i = S 36 m.toNat
    · have := (hP m.toNat (by omega)).2 i (by omega) c
      rw [if_neg (fun q => q c), if_pos (c := m < ((i + 1 : Nat) : Int)) (by omega), show (i : Int) = m by omega]
    · have : i ≠ m.toNat := fun e => c (by rw [e])
      rw [if_pos c]
      by_cases c2 : m < (i : Int)
      · rw [if_pos c2, if_pos (by omega)]
      · rw [if_neg c2, if_neg (by omega)]
  · simp only [f_X12_nodeAt_L4_17, LtE]
    rw [e35, if_pos (by omega), if_pos (by omega)]
  · rw [if_neg (by omega)]
    rfl
/-- the children that stand, for an equation at a node -/
def StF (S M : Mm) (m : Int) (h k : Nat) : Prop := S 16 k = shown S (S 31 m.toNat) h ∧ shown S (S 31 m.toNat) h ≠ -1 ∧ M 0 76 = (if h = 0 then 0 else 1) ∧ ∀ x : Nat, x < 3 → M 59 x = rstand S (S 31 m.toNat) h x
theorem StF.frl {S M M' : Mm} {m : Int} {h k : Nat} (hs : StF S M m h k) (e76 : M' 0 76 = M 0 76) (e59 : M' 59 = M 59) : StF S M' m h k := by
  unfold StF at hs ⊢
  rw [e76, e59]; exact hs
theorem r_childForS {S M : Mm} (hA : Ag M S) (hg : Okg S) (hN : Okn S) {m : Int} (hm : 0 ≤ m ∧ m < S 0 35) {h k : Nat} (hst : StF S M m h k) {b : Int} (hb : 0 ≤ b ∧ b ≤ 2) (hbc : b < S 4 (shown S (S 31 m.toNat) h).toNat) : f_X12_childFor m b M = some (chN S m (S 31 m.toNat) h b, M) := by
  have h35 := hN.1
  have hnd := hN.2.2 m.toNat (by omega)
  have h10 := hg.1
  have hc4 := chl_le hg hnd.2.1
  have hs1 := (stand_ok hg hnd.2.1 h b).1 ⟨hb.1, hbc, hst.2.1⟩
  have e59 := hst.2.2.2 b.toNat (by omega)
  rw [Int.toNat_of_nonneg hb.1, rstand_in ⟨hb.1, hbc⟩] at e59
  have hnd2 := hnd.2.1
  unfold f_X12_childFor
  simp only [LtE]
  rw [if_neg (by omega), gdE (by omega), e59, if_neg (by omega), gdE (by omega), hA.1 31 (by decide) (by decide) (by decide), gdE (by omega), hA.1 4 (by decide) (by decide) (by decide), if_pos hs1.2, wrE (v := 3 * m) (by omega) (by omega), wrE (by omega) (by omega), gdE (by omega), hA.1 34 (by decide) (by decide) (by decide)]
  unfold chN
  rw [if_neg (by omega)]
theorem pv_neg {S : Mm} {v : Int} (hP : PlO S) (hv : v < 1000 + S 0 35) : (pv S v < 0 ↔ v < 0) ∧ (1000 ≤ pv S v ↔ 1000 ≤ v) := by
  unfold pv
  by_cases c : v < 1000
  · rw [if_pos c]; omega
  · rw [if_neg c]
    have := (hP (v - 1000).toNat (by omega)).1
    omega
theorem pv_inj {S : Mm} {v w : Int} (hP : PlO S) (hv : v < 1000 + S 0 35) (hw : w < 1000 + S 0 35) : pv S v = pv S w ↔ v = w := by
  constructor
  · intro h
    unfold pv at h
    by_cases c : v < 1000
    · rw [if_pos c] at h
      by_cases c2 : w < 1000
      · rw [if_pos c2] at h; exact h
      · rw [if_neg c2] at h
        have := (hP (w - 1000).toNat (by omega)).1
        omega
    · rw [if_neg c] at h
      by_cases c2 : w < 1000
      · rw [if_pos c2] at h
        have := (hP (v - 1000).toNat (by omega)).1
        omega
      · rw [if_neg c2] at h
        have := (hP (w - 1000).toNat (by omega)).2 (v - 1000).toNat (by omega) (by omega)
        omega
  · intro h; rw [h]
theorem jn_pv {S : Mm} (hP : PlO S) {K v w : Int} (hv : 0 ≤ v ∧ v < 1000 + S 0 35) (hw : 0 ≤ w ∧ w < 1000 + S 0 35) : jn K (pv S v) (pv S w) = pv S (jn K v w) := by
  have hj := jn_ok (K := K) hv.1 hw.1
  rw [pv_lo hj.2]
  unfold jn
  by_cases c0 : K = 12
  · rw [if_pos c0, if_pos c0]
    by_cases c : v = w
    · rw [if_pos c, if_pos ((pv_inj hP hv.2 hw.2).mpr c)]
    · rw [if_neg c, if_neg (fun q => c ((pv_inj hP hv.2 hw.2).mp q))]
  rw [if_neg c0, if_neg c0]
  have p1 := (pv_neg hP hv.2).2
  have p2 := (pv_neg hP hw.2).2
  by_cases c1 : 1000 ≤ v
  · rw [if_pos (p1.mpr c1), if_pos c1]
  rw [if_neg (fun q => c1 (p1.mp q)), if_neg c1]
  by_cases c2 : w < 1000
  · rw [pv_lo (v := v) (by omega)]
    by_cases cw : w < 1000
    · rw [pv_lo cw]
    · exact absurd c2 cw
  · rw [if_neg (by omega), if_neg c2]
def lsB (rb : Bool) (l : List Int) (t : List Nat) : List Int := if rb then t.foldl (fun l (s : Nat) => enl l s) l else l
theorem lsB_app (rb : Bool) (l : List Int) (t t' : List Nat) : lsB rb l (t ++ t') = lsB rb (lsB rb l t) t' := by
  unfold lsB; cases rb <;> simp
/-- a look at a slot, told by its number -/
def Lkd (S : Mm) (rg bv bh : Nat → Int) (op : List Int) (B hc : Int) (rb : Bool) (l : List Int) (s w : Int) (M M' : Mm) : Prop :=
  FrL M M' ∧ (∀ v b, Lk S rg bv bh op s.toNat = some (v, b) → w = pv S v ∧ TrR S M' B rg bv bh op (jor hc b) (lsB rb l [s.toNat])) ∧
  (Lk S rg bv bh op s.toNat = none → M' 0 72 = s / 6 ∧ M' 0 73 = s % 6 ∧ Sl (lsB rb l [s.toNat]) ∧ (Rec M → LsR M' (lsB rb l [s.toNat])))
theorem r_lookS {S M : Mm} (hg : Okg S) (hN : Okn S) (hP : PlO S) {B : Int} (hB : B = 0 ∨ B = 360) {rg bv bh : Nat → Int} {op : List Int} {hc : Int} {l : List Int} (hbd : BdO S rg bv bh) (hbh : BdH S bh) (hT : TrR S M B rg bv bh op hc l) {rb : Bool} (hrb : rb = true ↔ Rec M) {n a : Int} (hn : 0 ≤ n ∧ n < S 0 35) (ha : 0 ≤ a ∧ a < S 0 12) : ∃ w M', f_X12_looksAt n a M = some (w, M') ∧ Lkd S rg bv bh op B hc rb l (6 * n + a) w M M' := by
  obtain ⟨w, M', l', t1, t2, t3, t4, t5⟩ := r_looksAt hg hN hP hB hbd hbh hT hn ha
  have h12 := hg.2.1
  have hl' : l' = lsB rb l [(6 * n + a).toNat] := by
    rw [t3]
    unfold lsB
    cases hb : rb with
    | true =>
      have := hrb.mp hb
      unfold Rec at this
      rw [if_pos this, if_pos rfl]
      simp only [List.foldl_cons, List.foldl_nil]
      rw [Int.toNat_of_nonneg (by omega)]
    | false =>
      rw [if_neg (fun q => by have := hrb.mpr q; rw [hb] at this; cases this)]
      rfl
  subst hl'
  refine ⟨w, M', t1, t2, t4, fun h => ?_⟩
  obtain ⟨u1, u2, u3, u4⟩ := t5 h
  exact ⟨by omega, by omega, u3, u4⟩
def plT (at_ m v1 v4 v8 : Int) (M9 : Mm) : Rs :=
  gd (0 ≤ at_ ∧ at_ < 240) <|
  if M9 21 at_.toNat = 0 then some (v1, M9) else
  if M9 21 at_.toNat = 1 then (Cl (f_X12_looksAt m v1 M9) fun v14 M13 => some (v14, M13)) else
  if M9 21 at_.toNat = 2 then (if ¬ v8 = -1 then Cl (f_X12_looksAt v8 v1 M9) fun v21 M20 => some (v21, M20) else some (-1, M9)) else
  if M9 21 at_.toNat = 3 then (if ¬ v4 = -1 then gd (0 ≤ m ∧ m < 30) (gd (0 ≤ wr (wr (3 * M9 30 m.toNat) + v4) ∧ wr (wr (3 * M9 30 m.toNat) + v4) < 30) (some (wr (M9 7 (wr (wr (3 * M9 30 m.toNat) + v4)).toNat - 3), M9))) else some (-1, M9)) else
  if M9 21 at_.toNat = 4 then (if ¬ v4 = -1 then gd (0 ≤ m ∧ m < 30) (some (jand (jshr (M9 35 m.toNat) v4) 1, M9)) else some (-1, M9)) else
  if M9 21 at_.toNat = 5 then gd (0 ≤ m ∧ m < 30) (some (wr (1000 + M9 36 m.toNat), M9)) else
  if M9 21 at_.toNat = 6 then (if ¬ v8 = -1 then gd (0 ≤ v8 ∧ v8 < 30) (some (wr (1000 + M9 36 v8.toNat), M9)) else some (-1, M9)) else
  gd (0 ≤ m ∧ m < 30) (some (M9 31 m.toNat, M9))
def plK (at_ m p v1 v2 v4 : Int) (M5 : Mm) : Rs :=
  gd (0 ≤ p ∧ p < 10) <|
  if M5 4 p.toNat ≤ v2 then plT at_ m v1 v4 (-1) M5 else Cl (f_X12_childFor m v2 M5) fun v54 M53 => plT at_ m v1 v4 v54 M53
theorem plain_eq (at_ m p : Int) (M : Mm) : f_X12_plain at_ m p M = gd (0 ≤ at_ ∧ at_ < 240) (gd (0 ≤ at_ ∧ at_ < 240) (if ¬ M 0 76 = 0 then plK at_ m p (M 22 at_.toNat) (M 23 at_.toNat) (-1) M else gd (0 ≤ m ∧ m < 30) (gd (0 ≤ M 30 m.toNat ∧ M 30 m.toNat < 10) (if M 6 (M 30 m.toNat).toNat ≤ M 22 at_.toNat then plK at_ m p (M 22 at_.toNat) (M 23 at_.toNat) (-1) M else plK at_ m p (M 22 at_.toNat) (M 23 at_.toNat) (M 22 at_.toNat) M)))) := rfl
theorem r_plain {S M : Mm} (hg : Okg S) (hO : Oke S) (hN : Okn S) (hP : PlO S) {B : Int} (hB : B = 0 ∨ B = 360) {rg bv bh : Nat → Int} {op : List Int} {hc : Int} {l : List Int} (hbd : BdO S rg bv bh) (hbh : BdH S bh) (hT : TrR S M B rg bv bh op hc l) {rb : Bool} (hrb : rb = true ↔ Rec M) {m : Int} (hm : 0 ≤ m ∧ m < S 0 35) {h k : Nat} (hk : (k : Int) < S 0 19) (hst : StF S M m h k) {i : Nat} (hi : i < eN S k) (ht : tkn (eK S k i) = 0) : ∃ w M', f_X12_plain ((8 * k + i : Nat) : Int) m (S 16 k) M = some (w, M') ∧
    (lkS S m (S 31 m.toNat) h (eK S k i) (eA S k i) (eB S k i) 0 = -1 → w = pv S (lfV S m (S 31 m.toNat) h (eK S k i) (eA S k i) (eB S k i)) ∧ M' = M) ∧
    (lkS S m (S 31 m.toNat) h (eK S k i) (eA S k i) (eB S k i) 0 ≠ -1 → Lkd S rg bv bh op B hc rb l (lkS S m (S 31 m.toNat) h (eK S k i) (eA S k i) (eB S k i) 0) w M M') := by
  have hA := hT.1
  have e36 := hT.2.2.1
  have h35 := hN.1
  have h10 := hg.1
  have h12 := hg.2.1
  have h30 := hO.1
  obtain ⟨o1, o2, o3, o4, o5, o6, -⟩ := hO.2.1 k hk
  have hn8 : eN S k ≤ 8 := by unfold eN; omega
  obtain ⟨k0, k1, k2⟩ := (o6 i hi).1
  have hnd := hN.2.2 m.toNat (by omega)
  have hnd1 := hnd.1
  have hnd2 := hnd.2.1
  have hch := chN_ok hg hN hm h (eB S k i)
  have r21 : M 21 (8 * k + i) = eK S k i := by rw [hA.1 21 (by decide) (by decide) (by decide)]; rfl
  have r22 : M 22 (8 * k + i) = eA S k i := by rw [hA.1 22 (by decide) (by decide) (by decide)]; rfl
  have r23 : M 23 (8 * k + i) = eB S k i := by rw [hA.1 23 (by decide) (by decide) (by decide)]; rfl
  have hK : eK S k i = 0 ∨ eK S k i = 1 ∨ eK S k i = 2 ∨ eK S k i = 3 ∨ eK S k i = 4 ∨ eK S k i = 5 ∨ eK S k i = 6 ∨ eK S k i = 14 := by
    unfold tkn at ht
    by_cases c7 : eK S k i = 7
    · rw [if_pos c7] at ht; cases ht
    rw [if_neg c7] at ht
    by_cases c8 : 8 ≤ eK S k i ∧ eK S k i ≤ 12
    · rw [if_pos c8] at ht; cases ht
    rw [if_neg c8] at ht
    by_cases c13 : eK S k i = 13
    · rw [if_pos c13] at ht; cases ht
    omega
  have ha0 : 0 ≤ eA S k i := by
    split at k1
    · exact k1.1
    · exact k1.1
  have hb2 : 0 ≤ eB S k i ∧ eB S k i ≤ 2 := by
    refine ⟨k2.1, ?_⟩
    have := k2.2
    split at this <;> omega
  -- the child
  have hchild : ∀ (K : Int → Mm → Rs), (if M 4 (S 16 k).toNat ≤ eB S k i then K (-1) M else Cl (f_X12_childFor m (eB S k i) M) fun v54 M53 => K v54 M53) = K (chN S m (S 31 m.toNat) h (eB S k i)) M := by
    intro K
    rw [hA.1 4 (by decide) (by decide) (by decide), hst.1]
    by_cases c : eB S k i < S 4 (shown S (S 31 m.toNat) h).toNat
    · rw [if_neg (by omega), r_childForS hA hg hN hm hst hb2 c, ClS]
    · rw [if_pos (by omega)]
      unfold chN
      rw [stand_not hg hnd2 (fun q => c q.2.1), if_pos rfl]
  have hlet : ∀ (K : Int → Mm → Rs), (if ¬ M 0 76 = 0 then K (-1) M else gd (0 ≤ m ∧ m < 30) (gd (0 ≤ M 30 m.toNat ∧ M 30 m.toNat < 10) (if M 6 (M 30 m.toNat).toNat ≤ eA S k i then K (-1) M else K (eA S k i) M))) = K (if h = 0 ∧ eA S k i < S 6 (S 30 m.toNat).toNat then eA S k i else -1) M := by
    intro K
    rw [hst.2.2.1]
    by_cases c : h = 0
    · rw [if_pos c, if_neg (by decide), gdE (by omega), hA.1 30 (by decide) (by decide) (by decide), gdE (by omega), hA.1 6 (by decide) (by decide) (by decide)]
      by_cases c2 : eA S k i < S 6 (S 30 m.toNat).toNat
      · rw [if_neg (by omega), if_pos ⟨c, c2⟩]
      · rw [if_pos (by omega), if_neg (fun q => c2 q.2)]
    · rw [if_neg c, if_pos (by decide), if_neg (fun q => c q.1)]
  have hgd : 0 ≤ ((8 * k + i : Nat) : Int) ∧ ((8 * k + i : Nat) : Int) < 240 := by omega
  have hplK : ∀ letter, plK ((8 * k + i : Nat) : Int) m (S 16 k) (eA S k i) (eB S k i) letter M = plT ((8 * k + i : Nat) : Int) m (eA S k i) letter (chN S m (S 31 m.toNat) h (eB S k i)) M := fun letter => by
    unfold plK
    rw [gdE (by omega)]
    exact hchild fun v8 M9 => plT ((8 * k + i : Nat) : Int) m (eA S k i) letter v8 M9
  have hpl : f_X12_plain ((8 * k + i : Nat) : Int) m (S 16 k) M = plT ((8 * k + i : Nat) : Int) m (eA S k i) (if h = 0 ∧ eA S k i < S 6 (S 30 m.toNat).toNat then eA S k i else -1) (chN S m (S 31 m.toNat) h (eB S k i)) M := by
    rw [plain_eq, gdE hgd, gdE hgd, Int.toNat_natCast, r22, r23]
    rw [hlet fun v4 M5 => plK ((8 * k + i : Nat) : Int) m (S 16 k) (eA S k i) (eB S k i) v4 M5]
    exact hplK _
  rw [hpl]
  unfold plT
  rw [gdE hgd, Int.toNat_natCast, r21]
  have hpm := (hP m.toNat (by omega)).1
  have hlook := fun n a hn ha => r_lookS hg hN hP hB hbd hbh hT hrb (n := n) (a := a) hn ha
  unfold lkS lfV
  generalize hKK : eK S k i = K at hK k0 k1 k2
  rcases hK with rfl | rfl | rfl | rfl | rfl | rfl | rfl | rfl
  · refine ⟨_, _, rfl, fun _ => ⟨?_, rfl⟩, fun q => absurd rfl q⟩
    simp only [if_true]
    rw [if_neg (by decide), if_pos rfl] at k1
    exact (pv_lo (by omega)).symm
  · simp only [if_true, if_false, reduceCtorEq, Int.reduceEq]
    rw [if_pos (by decide)] at k1
    obtain ⟨w, M', t1, t2⟩ := hlook m (eA S k i) hm k1
    rw [t1, ClS]
    exact ⟨w, M', rfl, fun q => by omega, fun _ => t2⟩
  · simp only [if_true, if_false, reduceCtorEq, Int.reduceEq]
    rw [if_pos (by decide)] at k1
    by_cases c : chN S m (S 31 m.toNat) h (eB S k i) = -1
    · rw [if_neg (fun q => q c), if_pos c]
      exact ⟨_, _, rfl, fun _ => ⟨(pv_lo (by decide)).symm, rfl⟩, fun q => absurd rfl q⟩
    · rw [if_pos c, if_neg c]
      have hc' := hch.resolve_left c
      obtain ⟨w, M', t1, t2⟩ := hlook (chN S m (S 31 m.toNat) h (eB S k i)) (eA S k i) ⟨by omega, hc'.2.1⟩ k1
      rw [t1, ClS]
      exact ⟨w, M', rfl, fun q => by omega, fun _ => t2⟩
  · simp only [if_true, if_false, reduceCtorEq, Int.reduceEq]
    refine ⟨if h = 0 ∧ eA S k i < S 6 (S 30 m.toNat).toNat then S 7 (3 * S 30 m.toNat + eA S k i).toNat - 3 else -1, M, ?_, fun _ => ⟨?_, rfl⟩, fun q => absurd rfl q⟩
    · by_cases c : h = 0 ∧ eA S k i < S 6 (S 30 m.toNat).toNat
      · have hP7 := (hg.2.2.2.1 _ hnd.1.1 hnd.1.2).2.2.2.2.2.2.2.1 (eA S k i) ha0 c.2
        have hlc := (hg.2.2.2.1 _ hnd.1.1 hnd.1.2).2.2.2.1
        have hl2 := (hg.2.2.2.1 _ hnd.1.1 hnd.1.2).2.1
        have hl4 := (hg.2.2.2.1 _ hnd.1.1 hnd.1.2).2.2.2.2.1
        rw [if_pos c, if_pos c, if_pos (by omega), gdE (by omega), hA.1 30 (by decide) (by decide) (by decide), wrE (v := 3 * _) (by omega) (by omega), wrE (v := 3 * _ + _) (by omega) (by omega), gdE (by omega), hA.1 7 (by decide) (by decide) (by decide), wrE (by omega) (by omega)]
      · rw [if_neg c, if_neg c, if_neg (by decide)]
    · by_cases c : h = 0 ∧ eA S k i < S 6 (S 30 m.toNat).toNat
      · have hP7 := (hg.2.2.2.1 _ hnd.1.1 hnd.1.2).2.2.2.2.2.2.2.1 (eA S k i) ha0 c.2
        rw [if_pos c]; exact (pv_lo (by omega)).symm
      · rw [if_neg c]; exact (pv_lo (by decide)).symm
  · simp only [if_true, if_false, reduceCtorEq, Int.reduceEq]
    refine ⟨if h = 0 ∧ eA S k i < S 6 (S 30 m.toNat).toNat then jand (jshr (S 35 m.toNat) (eA S k i)) 1 else -1, M, ?_, fun _ => ⟨?_, rfl⟩, fun q => absurd rfl q⟩
    · by_cases c : h = 0 ∧ eA S k i < S 6 (S 30 m.toNat).toNat
      · rw [if_pos c, if_pos c, if_pos (by omega), gdE (by omega), hA.1 35 (by decide) (by decide) (by decide)]
      · rw [if_neg c, if_neg c, if_neg (by decide)]
    · have hj := jand_one (jshr (S 35 m.toNat) (eA S k i))
      exact (pv_lo (by split <;> omega)).symm
  · simp only [if_true, if_false, reduceCtorEq, Int.reduceEq]
    rw [gdE (by omega), e36, wrE (by omega) (by omega)]
    refine ⟨_, _, rfl, fun _ => ⟨?_, rfl⟩, fun q => absurd rfl q⟩
    unfold pv
    rw [if_neg (by omega), show (1000 + m - 1000).toNat = m.toNat by omega]
  · simp only [if_true, if_false, reduceCtorEq, Int.reduceEq]
    by_cases c : chN S m (S 31 m.toNat) h (eB S k i) = -1
    · rw [if_neg (fun q => q c), if_pos c]
      exact ⟨_, _, rfl, fun _ => ⟨(pv_lo (by decide)).symm, rfl⟩, fun q => absurd rfl q⟩
    · have hc' := hch.resolve_left c
      have hpc := (hP (chN S m (S 31 m.toNat) h (eB S k i)).toNat (by omega)).1
      rw [if_pos c, if_neg c, gdE (by omega), e36, wrE (by omega) (by omega)]
      refine ⟨_, _, rfl, fun _ => ⟨?_, rfl⟩, fun q => absurd rfl q⟩
      unfold pv
      rw [if_neg (by omega), show (1000 + chN S m (S 31 m.toNat) h (eB S k i) - 1000).toNat = (chN S m (S 31 m.toNat) h (eB S k i)).toNat by omega]
  · simp only [if_true, if_false, reduceCtorEq, Int.reduceEq]
    rw [gdE (by omega), hA.1 31 (by decide) (by decide) (by decide)]
    refine ⟨_, _, rfl, fun _ => ⟨(pv_lo (by omega)).symm, rfl⟩, fun q => absurd rfl q⟩
