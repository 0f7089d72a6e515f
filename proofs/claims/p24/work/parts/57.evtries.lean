/-! the reference tries an attribute -/
theorem hr_bit {S : Mm} (hP : PlO S) (h35 : 0 ≤ S 0 35 ∧ S 0 35 ≤ 30) {n : Int} (hn : 0 ≤ n ∧ n < S 0 35) : HR S (bitC n) (lshl_ 1 (S 36 n.toNat)) 0 := by
  obtain ⟨p1, p2⟩ := hP n.toNat (by omega)
  obtain ⟨q1, q2⟩ := lshl_60 ⟨(S 36 n.toNat).toNat, by omega⟩
  simp only at q1 q2
  rw [Int.toNat_of_nonneg p1.1] at q1 q2
  obtain ⟨b1, b2⟩ := bitC_ok (n := n) (Or.inr ⟨hn.1, by omega⟩)
  refine ⟨q1, ?_, fun q => ?_⟩
  · rw [b2 30, decide_eq_false (by omega)]; rfl
  · unfold bt at b2 ⊢
    rw [q2, Nat.testBit_two_pow, decide_eq_true_iff]
    constructor
    · intro e
      exact ⟨n.toNat, by omega, by omega, by rw [b2]; exact decide_eq_true (by omega)⟩
    · rintro ⟨m, m1, m2, m3⟩
      rw [b2] at m3
      have := of_decide_eq_true m3
      have e : m = n.toNat := by omega
      subst e
      omega
def trE (a m t : Int) (M16 : Mm) : Rs := gd (0 ≤ m ∧ m < 30) (Cl (f_X12_equationFor (M16 31 m.toNat) a t M16) fun v20 M19 => if ¬ v20 = -3 then (if ¬ v20 = -1 then gd (0 ≤ v20 ∧ v20 < 30) (Cl (f_X12_expressed v20 (M19 25 v20.toNat) m M19) fun v25 M24 => some (v25, M24)) else gd (0 ≤ a ∧ a < 6) (if ¬ M19 12 a.toNat = 1 then some (-1, M19) else Cl (f_X12_looksAt m a M19) fun v32 M31 => some (v32, M31))) else some (-3, M19))
def trB (n a : Int) (M10 : Mm) : Rs := gd (0 ≤ a ∧ a < 6) (if ¬ M10 12 a.toNat = 2 then gd (0 ≤ a ∧ a < 6) (if ¬ M10 12 a.toNat = 1 then trE a n (-1) M10 else gd (0 ≤ n ∧ n < 30) (gd (0 ≤ n ∧ n < 30) (if ¬ M10 32 n.toNat = -1 then gd (0 ≤ M10 32 n.toNat ∧ M10 32 n.toNat < 30) (trE a (M10 32 n.toNat) (M10 33 n.toNat) (up M10 0 74 (lor_ (M10 0 74) (lshl_ 1 (M10 36 (M10 32 n.toNat).toNat))))) else some (-1, M10)))) else Cl (f_X12_gathers n a M10) fun v43 M42 => some (v43, M42))
def trM (n : Int) (M : Mm) : Mm := up (up (up M 0 72 (-1)) 0 74 (lshl_ 1 ((up M 0 72 (-1)) 36 n.toNat))) 0 75 0
set_option maxRecDepth 20000 in
theorem tries_eq (n a : Int) (M : Mm) : f_X12_tries n a M = gd (0 ≤ n ∧ n < 30) (if trM n M 0 79 = 0 then trB n a (up (trM n M) 0 80 (trM n M 0 80)) else if ¬ trM n M 0 69 = 1 then trB n a (up (trM n M) 0 80 (trM n M 0 80)) else trB n a (up (trM n M) 0 80 0)) := by
  unfold f_X12_tries trM trB trE
  simp only [LtE]
theorem Cl_self {x : Rs} : (Cl x fun v M => some (v, M)) = x := by
  cases x with
  | none => rfl
  | some r => rfl
theorem Qo.pre {S : Mm} {rg bv bh : Nat → Int} {op : List Int} {B : Int} {rb : Bool} {E : List Nat × Option Int} {hc : Int} {l : List Int} {M M1 : Mm} {r : Int × Mm} (h : Qo S rg bv bh op B rb E hc l M1 r) (hF : FrG M M1) : Qo S rg bv bh op B rb E hc l M r :=
  ⟨fun v hv => ⟨(h.1 v hv).1, (h.1 v hv).2.1, (h.1 v hv).2.2.1, hF.trans (h.1 v hv).2.2.2⟩, fun hno => by
    obtain ⟨t', s, a1, a2, a3, a4, a5, a6, a7⟩ := h.2 hno
    exact ⟨t', s, a1, a2, a3, a4, a5, fun hr => a6 (hF.rec_.mpr hr), hF.trans a7⟩⟩
theorem r_trE {S : Mm} (hg : Okg S) (hO : Oke S) (hN : Okn S) (hP : PlO S) {B : Int} (hB : B = 0 ∨ B = 360) {rg bv bh : Nat → Int} {op : List Int} (hbd : BdO S rg bv bh) (hbh : BdH S bh) {rb : Bool} {a m t : Int} (hm : 0 ≤ m ∧ m < S 0 35) (ha : 0 ≤ a ∧ a < S 0 12) (hk2 : S 12 a.toNat ≠ 2) (ht : -1 ≤ t) {M : Mm} {hc : Int} {l : List Int} (hT : TrR S M B rg bv bh op hc l) (hrb : rb = true ↔ Rec M) :
    Wp (trE a m t M) (Qo S rg bv bh op B rb (if rsv S (S 31 m.toNat) a t = -3 then ([], some (-3)) else if rsv S (S 31 m.toNat) a t = -1 then (if S 12 a.toNat = 1 then look (Lk S rg bv bh op) (6 * m + a) else ([], some (-1))) else evo S (Lk S rg bv bh op) m (S 31 m.toNat) (rsh S (S 31 m.toNat) a t) (rsv S (S 31 m.toNat) a t).toNat 8 (rt1 S (rsv S (S 31 m.toNat) a t).toNat)) hc l M) := by
  have h35 := hN.1
  have h30 := hO.1
  have h12 := hg.2.1
  have hnd := (hN.2.2 m.toNat (by omega)).2.1
  unfold trE
  rw [gdE (by omega), hT.1.1 31 (by decide) (by decide) (by decide)]
  obtain ⟨M1, e1, F1, s1⟩ := r_equationFor (a := a) hT.1 hg hO hnd ht
  rw [e1, ClS]
  have T1 := hT.g_ F1.1 F1.2
  have hrb1 := hrb.trans F1.frg.rec_.symm
  have set0 : ∀ v : Int, (-3 ≤ v ∧ v < 0) → Qo S rg bv bh op B rb ([], some v) hc l M (v, M1) := fun v hv => ⟨fun w hw => by
    have e : v = w := Option.some.inj hw
    subst e
    exact ⟨(pv_lo (by omega)).symm, by omega, by unfold lsB; simp only [ob, List.foldl_nil, ite_self]; exact T1, F1.frg⟩, fun e => (by cases e)⟩
  by_cases c3 : rsv S (S 31 m.toNat) a t = -3
  · rw [if_neg (fun q => q c3), if_pos c3]
    exact Wp_some (set0 _ (by omega))
  rw [if_pos c3, if_neg c3]
  by_cases c1 : rsv S (S 31 m.toNat) a t = -1
  · rw [if_neg (fun q => q c1), if_pos c1, gdE (by omega), T1.1.1 12 (by decide) (by decide) (by decide)]
    by_cases k1 : S 12 a.toNat = 1
    · rw [if_neg (fun q => q k1), if_pos k1, Cl_self]
      obtain ⟨w, M2, u1, u2, u3, u4⟩ := r_lookS hg hN hP hB hbd hbh T1 hrb1 hm ha
      rw [u1]
      refine Wp_some ⟨fun v hv => ?_, fun hno => ?_⟩
      · simp only [look] at hv
        cases hl : Lk S rg bv bh op (6 * m + a).toNat with
        | none => rw [hl] at hv; cases hv
        | some x =>
          obtain ⟨v', b⟩ := x
          rw [hl] at hv
          have e : v' = v := Option.some.inj hv
          subst e
          obtain ⟨y1, y2⟩ := u3 _ _ hl
          refine ⟨y1, Lk_bd h35.1 hbd _ _ _ hl, ?_, F1.frg.trans u2.frg⟩
          simp only [look, ob, List.foldl_cons, List.foldl_nil, hl, Option.elim]
          exact y2
      · simp only [look] at hno
        cases hl : Lk S rg bv bh op (6 * m + a).toNat with
        | some x => rw [hl] at hno; cases hno
        | none =>
          obtain ⟨y1, y2, y3, y4⟩ := u4 hl
          exact ⟨[], (6 * m + a).toNat, rfl, by simp only; rw [y1]; omega, by simp only; rw [y2]; omega, by simp only; rw [y1]; omega, y3, fun hr => y4 (F1.frg.rec_.mpr hr), F1.frg.trans u2.frg⟩
    · rw [if_pos k1, if_neg k1]
      exact Wp_some (set0 _ (by omega))
  rw [if_pos c1, if_neg c1]
  obtain ⟨s2, s3, s4⟩ := s1 c1
  rcases rsv_val S (S 31 m.toNat) a t with h | h | ⟨e, h1, h2, h3, h4⟩
  · exact absurd h c1
  · exact absurd h c3
  have hOk := hO.2.1 e h2
  have hn8 : eN S e ≤ 8 := by unfold eN; have := hOk.2.2.2.1; omega
  have hw : wfK (eK S e) (eN S e) := ⟨hn8, fun i hi => (hOk.2.2.2.2.2.1 i hi).2⟩
  have hlen : (stk (eK S e) (eN S e)).length = 1 := by
    have := hOk.2.2.2.2.2.2.1
    rw [h3, if_neg hk2] at this
    exact this
  obtain ⟨r1, r2, r3⟩ := roots1 hw hlen
  rw [h1, gdE (by omega), Int.toNat_natCast, T1.1.1 25 (by decide) (by decide) (by decide), (roots_cell hO h2).1, Cl_self]
  have St1 : StF S M1 m (rsh S (S 31 m.toNat) a t) e := ⟨h4, s2, s3, s4⟩
  obtain ⟨A1, A2⟩ := r_expressed hg hO hN hP hB hbd hbh (rb := rb) hm (h := rsh S (S 31 m.toNat) a t) h2 r2 T1 St1 hrb1
  cases ho : (evo S (Lk S rg bv bh op) m (S 31 m.toNat) (rsh S (S 31 m.toNat) a t) e 8 (rt1 S e)).2 with
  | none =>
    obtain ⟨w, M2, t', s, u1, u2, u3, u4, u5, u6, u7, u8⟩ := A2 ho
    rw [u1]
    exact Wp_some ⟨fun v hv => (by rw [ho] at hv; cases hv), fun _ => ⟨t', s, u2, u3, u4, u5, u6, fun hr => u7 (F1.frg.rec_.mpr hr), F1.frg.trans u8.frg⟩⟩
  | some v =>
    obtain ⟨vb, M2, u1, T2, F2⟩ := A1 v ho
    rw [u1]
    refine Wp_some ⟨fun w hw => ?_, fun q => (by rw [ho] at q; cases q)⟩
    rw [ho] at hw
    have e' : v = w := Option.some.inj hw
    subst e'
    exact ⟨rfl, vb, T2, F1.frg.trans F2.frg⟩
theorem r_tries {S : Mm} (hg : Okg S) (hO : Oke S) (hN : Okn S) (hP : PlO S) {B : Int} (hB : B = 0 ∨ B = 360) {rg bv bh : Nat → Int} {op : List Int} (hbd : BdO S rg bv bh) (hbh : BdH S bh) {rb : Bool} {n a : Int} (hn : 0 ≤ n ∧ n < S 0 35) (ha : 0 ≤ a ∧ a < S 0 12) {M : Mm} (hA : Ag M S) (e036 : M 0 36 = S 0 36) (e36 : M 36 = S 36) (e68 : M 0 68 = B) (hOr : OrR S M B rg bv bh op) (hrb : rb = true ↔ Rec M) :
    Wp (f_X12_tries n a M) (Qo S rg bv bh op B rb (spc S (Lk S rg bv bh op) n a) (h0_ S n a) [] M) := by
  have h35 := hN.1
  have h12 := hg.2.1
  have hbit := HBt.bit (S := S) h35.2 (n := n) (Or.inr hn)
  have hhr := hr_bit hP h35 hn
  have base : ∀ v : Int, (Rec M → v = 0) → Wp (trB n a (up (trM n M) 0 80 v)) (Qo S rg bv bh op B rb (spc S (Lk S rg bv bh op) n a) (h0_ S n a) [] M) := by
    intro v hv
    generalize hM1 : up (trM n M) 0 80 v = M1
    have f1 : ∀ j, j ≠ 0 → M1 j = M j := fun j hj => by rw [← hM1]; unfold trM; rw [up_ne _ _ _ hj, up_ne _ _ _ hj, up_ne _ _ _ hj, up_ne _ _ _ hj]
    have f0 : ∀ i, i ≠ 72 → i ≠ 74 → i ≠ 75 → i ≠ 80 → M1 0 i = M 0 i := fun i a b c d => by rw [← hM1]; simp [trM, up, a, b, c, d]
    have F1 : FrG M M1 := ⟨fun j a _ _ _ _ _ _ => f1 j a, fun i a _ b c _ d => f0 i a b c d⟩
    have T1 : TrR S M1 B rg bv bh op (bitC n) [] := by
      refine ⟨⟨fun j j1 j2 j3 => by rw [f1 j (by omega)]; exact hA.1 j j1 j2 j3, fun i hi => by rw [f0 i (by omega) (by omega) (by omega) (by omega)]; exact hA.2 i hi⟩, by rw [f0 36 (by decide) (by decide) (by decide) (by decide)]; exact e036, by rw [f1 36 (by decide)]; exact e36, by rw [f0 68 (by decide) (by decide) (by decide) (by decide)]; exact e68, by rw [← hM1]; simp [trM, up], hOr.frl fun j hj => f1 j (by omega), hbit, ?_, ⟨List.nodup_nil, fun x hx => (by cases hx)⟩, fun hr => ⟨?_, fun i hi => absurd hi (Nat.not_lt_zero _)⟩⟩
      · have x74 : M1 0 74 = lshl_ 1 (S 36 n.toNat) := by
          rw [← hM1, ← e36]; simp [trM, up]
        have x75 : M1 0 75 = 0 := by rw [← hM1]; simp [trM, up]
        rw [x74, x75]; exact hhr
      · rw [← hM1, up_at, hv (F1.rec_.mp hr)]; rfl
    have hrb1 := hrb.trans F1.rec_.symm
    unfold trB spc h0_
    rw [gdE (by omega), T1.1.1 12 (by decide) (by decide) (by decide)]
    by_cases k2 : S 12 a.toNat = 2
    · rw [if_neg (fun q => q k2), if_pos k2, if_pos k2, Cl_self]
      refine Wp_mono (r_gathers hg hO hN hP hB hbd hbh hn ha k2 T1 hrb1) fun r hr => ?_
      exact hr.pre F1
    rw [if_pos k2, if_neg k2, if_neg k2, gdE (by omega)]
    by_cases k1 : S 12 a.toNat = 1
    · have hpm : pm S n a = S 32 n.toNat := by unfold pm; rw [if_pos k1]
      have hpt : pt S n a = S 33 n.toNat := by unfold pt; rw [if_pos k1]
      rw [if_neg (fun q => q k1), gdE (by omega), gdE (by omega), if_pos (c := S 12 a.toNat = 1) k1, hpm, T1.1.1 32 (by decide) (by decide) (by decide), T1.1.1 33 (by decide) (by decide) (by decide)]
      have hnd := hN.2.2 n.toNat (by omega)
      by_cases c : S 32 n.toNat = -1
      · rw [if_neg (fun q => q c), if_pos c]
        have ez : jor (bitC n) (bitC (S 32 n.toNat)) = bitC n := by
          rw [c]; exact jor_zero (bitC_i32 n)
        rw [ez]
        refine Wp_some ⟨fun w hw => ?_, fun e => (by cases e)⟩
        have e : -1 = w := Option.some.inj hw
        subst e
        exact ⟨(pv_lo (show (-1 : Int) < 1000 by decide)).symm, by omega, by unfold lsB; simp only [ob, List.foldl_nil, ite_self]; exact T1, F1⟩
      · have hm : 0 ≤ S 32 n.toNat ∧ S 32 n.toNat < S 0 35 := by
          have := pm_ok hN (a := a) hn
          rw [hpm] at this
          exact this.resolve_left c
        have ht : -1 ≤ S 33 n.toNat := by
          by_cases z : n.toNat = 0
          · exact absurd (hnd.2.2.2.2.2.1 z).1 c
          · have := (hnd.2.2.2.2.2.2.1 (by omega)).2.2.1; omega
        rw [if_pos c, if_neg c, gdE (by omega)]
        generalize hM2 : up M1 0 74 (lor_ (M1 0 74) (lshl_ 1 (M1 36 (S 32 n.toNat).toNat))) = M2
        have g1 : ∀ j, j ≠ 0 → M2 j = M1 j := fun j hj => by rw [← hM2, up_ne _ _ _ hj]
        have g0 : ∀ i, i ≠ 74 → M2 0 i = M1 0 i := fun i d => by rw [← hM2]; simp [up, d]
        have F2 : FrG M1 M2 := ⟨fun j a _ _ _ _ _ _ => g1 j a, fun i _ _ b _ _ _ => g0 i b⟩
        have hbp := HBt.bit (S := S) h35.2 (n := S 32 n.toNat) (Or.inr hm)
        have T2 : TrR S M2 B rg bv bh op (jor (bitC n) (bitC (S 32 n.toNat))) [] := by
          obtain ⟨tA, t036, t36, t68, t72, tO, tB, tH, tS, tl⟩ := T1
          refine ⟨⟨fun j j1 j2 j3 => by rw [g1 j (by omega)]; exact tA.1 j j1 j2 j3, fun i hi => by rw [g0 i (by omega)]; exact tA.2 i hi⟩, by rw [g0 36 (by decide)]; exact t036, by rw [g1 36 (by decide)]; exact t36, by rw [g0 68 (by decide)]; exact t68, by rw [g0 72 (by decide)]; exact t72, tO.frl fun j hj => g1 j (by omega), (hbit.or_ hbp).1, ?_, tS, fun hr => ?_⟩
          · rw [← hM2, up_at, t36]
            have e75 : up M1 0 74 (lor_ (M1 0 74) (lshl_ 1 (S 36 (S 32 n.toNat).toNat))) 0 75 = M1 0 75 := by simp [up]
            rw [e75]
            have x75 : M1 0 75 = 0 := by rw [← hM1]; simp [trM, up]
            have := HR.or_ hbit hbp tH (hr_bit hP h35 hm)
            rw [x75] at this ⊢
            exact this
          · have := tl (F2.rec_.mp hr)
            exact ⟨by rw [g0 80 (by decide)]; exact this.1, fun i hi => absurd hi (Nat.not_lt_zero _)⟩
        have := r_trE hg hO hN hP hB hbd hbh (rb := rb) hm ha k2 ht T2 (hrb1.trans F2.rec_.symm)
        unfold prs
        rw [hpm, hpt]
        simp only [if_pos k1] at this ⊢
        refine Wp_mono this fun r hr => ?_
        exact hr.pre (F1.trans F2)
    · have hpm : pm S n a = n := by unfold pm; rw [if_neg k1]
      have hpt : pt S n a = -1 := by unfold pt; rw [if_neg k1]
      rw [if_pos k1, if_neg k1]
      have := r_trE hg hO hN hP hB hbd hbh (rb := rb) hn ha k2 (t := -1) (by decide) T1 hrb1
      unfold prs
      rw [hpm, hpt, if_neg (c := n = -1) (by omega)]
      simp only [if_neg k1] at this ⊢
      refine Wp_mono this fun r hr => ?_
      exact hr.pre F1
  rw [tries_eq, gdE (by omega)]
  have e79 : trM n M 0 79 = M 0 79 := by simp [trM, up]
  have e69 : trM n M 0 69 = M 0 69 := by simp [trM, up]
  rw [e79, e69]
  by_cases c1 : M 0 79 = 0
  · rw [if_pos c1]; exact base _ fun hr => absurd c1 hr.1
  rw [if_neg c1]
  by_cases c2 : M 0 69 = 1
  · rw [if_neg (fun q => q c2)]; exact base 0 fun _ => rfl
  · rw [if_pos c2]; exact base _ fun hr => absurd hr.2 c2
