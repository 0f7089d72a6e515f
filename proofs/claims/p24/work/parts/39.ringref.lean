/-! ringIn in the reference -/
def RF (M M' : Mm) : Prop := (∀ j, j ≠ 0 → j ≠ 59 → j ≠ 60 → j ≠ 65 → j ≠ 66 → M' j = M j) ∧ ∀ i, i ≠ 76 → M' 0 i = M 0 i
theorem RF.refl (M : Mm) : RF M M := ⟨fun _ _ _ _ _ _ => rfl, fun _ _ => rfl⟩
theorem RF.trans {A B C : Mm} (h : RF A B) (h' : RF B C) : RF A C := ⟨fun j j1 j2 j3 j4 j5 => (h'.1 j j1 j2 j3 j4 j5).trans (h.1 j j1 j2 j3 j4 j5), fun i hi => (h'.2 i hi).trans (h.2 i hi)⟩
theorem RF.ag {M M' S : Mm} (h : RF M M') (hA : Ag M S) : Ag M' S := ⟨fun j j1 j2 j3 => (h.1 j (by omega) (by omega) (by omega) (by omega) (by omega)).trans (hA.1 j j1 j2 j3), fun i hi => (h.2 i (by omega)).trans (hA.2 i hi)⟩
theorem RF.lay {M M' : Mm} (h : RF M M') {k : Nat} (hk : k = 65 ∨ k = 66) (f : Nat → Int) : RF M (sr M' k f) := ⟨fun j j1 j2 j3 j4 j5 => by rw [sr_ne _ _ (by omega)]; exact h.1 j j1 j2 j3 j4 j5, fun i hi => by rw [sr_ne _ _ (by omega)]; exact h.2 i hi⟩
theorem TF.rf {M M' : Mm} (h : TF M M') : RF M M' := ⟨fun j j1 j2 j3 _ _ => h.1 j j1 j2 j3, h.2⟩
theorem r_vertex {t a : Int} (ht : -1 ≤ t ∧ t < 3) (ha : 0 ≤ a ∧ a < 6) (M : Mm) : f_X12_vertex t a M = some (vtx t a, M) := by
  unfold f_X12_vertex vtx
  simp only [LtE]
  by_cases c : t = -1
  · rw [if_neg fun q => q c, show 6 * (t + 1) + a = a by omega]
  · rw [if_pos c, wrE (v := 6 * t) (by omega) (by omega), wrE (v := 6 + 6 * t) (by omega) (by omega), wrE (by omega) (by omega), show 6 * (t + 1) + a = 6 + 6 * t + a by omega]
theorem r_isStill {M S : Mm} (hA : Ag M S) (hg : Okg S) {a : Int} (ha : 0 ≤ a ∧ a < S 0 12) : f_X12_isStill a M = some (if S 12 a.toNat ≤ 1 then 1 else 0, M) := by
  have h12 := hg.2.1
  unfold f_X12_isStill
  simp only [LtE]
  rw [gdE (by omega), hA.1 12 (by decide) (by decide) (by decide)]
  by_cases c : S 12 a.toNat ≤ 1
  · rw [if_neg (by omega), if_pos c]
  · rw [if_pos (by omega), if_neg c]
theorem r_addsEdges {M S : Mm} (hA : Ag M S) (hg : Okg S) (hO : Oke S) {k : Nat} (hk : (k : Int) < S 0 19) {p v : Int} {h : Nat} (hp : 0 ≤ p ∧ p < S 0 0) (hsh : S 16 k = shown S p h) (hs : shown S p h ≠ -1) (hv : 0 ≤ v ∧ v < 24) (hst : ∀ b : Nat, b < 3 → M 59 b = rstand S p h b) : f_X12_addsEdges k v M = some (0, sr M 65 (fo (eStep S p h k v.toNat) (eN S k) (M 65))) := by
  have hk30 := hO.1
  obtain ⟨o1, o2, o3, o4, o5, o6, -⟩ := hO.2.1 k hk
  have h10 := hg.1
  have h12 := hg.2.1
  have hn8 : eN S k ≤ 8 := by unfold eN; omega
  have hN : S 20 k = (eN S k : Int) := by unfold eN; omega
  unfold f_X12_addsEdges
  simp only [LtE]
  rw [wrE (by omega) (by omega)]
  refine Lp_for (eN S k) (fun i => (8 * (k : Int) + i, sr M 65 (fo (eStep S p h k v.toNat) i (M 65)))) (fun rc i hi => ?_) (fun rc => ?_) (FU_lt (by omega)) ?_
  · simp only [fo]
    generalize fo (eStep S p h k v.toNat) i (M 65) = G
    have hw := hst
    have r20 : sr M 65 G 20 = S 20 := by rw [sr_ne _ _ (by decide)]; exact hA.1 20 (by decide) (by decide) (by decide)
    have r21 : sr M 65 G 21 = S 21 := by rw [sr_ne _ _ (by decide)]; exact hA.1 21 (by decide) (by decide) (by decide)
    have r22 : sr M 65 G 22 = S 22 := by rw [sr_ne _ _ (by decide)]; exact hA.1 22 (by decide) (by decide) (by decide)
    have r23 : sr M 65 G 23 = S 23 := by rw [sr_ne _ _ (by decide)]; exact hA.1 23 (by decide) (by decide) (by decide)
    have r16 : sr M 65 G 16 = S 16 := by rw [sr_ne _ _ (by decide)]; exact hA.1 16 (by decide) (by decide) (by decide)
    have r4 : sr M 65 G 4 = S 4 := by rw [sr_ne _ _ (by decide)]; exact hA.1 4 (by decide) (by decide) (by decide)
    have r59 : sr M 65 G 59 = M 59 := sr_ne _ _ (by decide)
    have hA' : Ag (sr M 65 G) S := ((RF.refl M).lay (Or.inl rfl) G).ag hA
    obtain ⟨k0, k1, k2⟩ := (o6 i hi).1
    have ek : S 21 (8 * (k : Int) + i).toNat = eK S k i := by unfold eK; congr 1
    have ea : S 22 (8 * (k : Int) + i).toNat = eA S k i := by unfold eA; congr 1
    have eb : S 23 (8 * (k : Int) + i).toNat = eB S k i := by unfold eB; congr 1
    simp only [f_X12_addsEdges_L5_44, LtE]
    rw [wrE (v := 8 * (k : Int)) (by omega) (by omega), gdE (by omega), Int.toNat_natCast, r20, hN, wrE (v := 8 * (k : Int) + (eN S k : Int)) (by omega) (by omega), if_neg (by omega), gdE (by omega), gdE (by omega), gdE (by omega), r21, r22, r23, ek, ea, eb, wrE (v := 8 * (k : Int) + i + 1) (by omega) (by omega), show 8 * (k : Int) + i + 1 = 8 * (k : Int) + ((i + 1 : Nat) : Int) by omega, gdE (show 0 ≤ 8 * (k : Int) + i ∧ 8 * (k : Int) + i < 240 by omega)]
    unfold eStep
    by_cases c1 : eK S k i = 1
    · rw [if_pos (c := eK S k i = 1 ∨ _ ∨ _) (Or.inl c1)] at k1
      rw [if_neg fun q => q c1, if_pos c1, r_isStill hA' hg k1, ClS]
      by_cases c4 : S 12 (eA S k i).toNat ≤ 1
      · rw [if_pos c4, if_neg (by decide), if_pos c4, gdE (by omega), gdE (by omega), sr_at, up_se, sr_at, sr_sr]
        rfl
      · rw [if_neg c4, if_pos rfl, if_neg c4, gdE (by omega), r21, ek, if_pos (by omega)]
    · rw [if_pos c1, if_neg c1]
      by_cases c2 : eK S k i = 2
      · rw [if_pos (c := eK S k i = 1 ∨ _ ∨ _) (Or.inr (Or.inl c2))] at k1
        have k2 : 0 ≤ eB S k i ∧ eB S k i ≤ 2 := by
          have := (o6 i hi).1.2.2
          rw [if_pos (c := eK S k i = 2 ∨ _) (Or.inl c2)] at this
          exact this
        rw [if_neg fun q => q c2, if_pos c2, r_isStill hA' hg k1, ClS]
        by_cases c4 : S 12 (eA S k i).toNat ≤ 1
        · rw [if_pos c4, if_neg (by decide), gdE (by omega), r16, gdE (by omega), r4]
          by_cases c3 : eB S k i < S 4 (S 16 k).toNat
          · rw [if_neg (by omega), if_pos ⟨c4, c3⟩, gdE (by omega), gdE (by omega), r59, sr_at]
            have c3' := c3
            rw [hsh] at c3'
            have hs1 := (stand_ok hg hp h (eB S k i)).1 ⟨k2.1, c3', hs⟩
            have hch := chl_le hg hp
            have e59 : M 59 (eB S k i).toNat = stand S p h (eB S k i) := by
              rw [hst _ (by omega), Int.toNat_of_nonneg k2.1, rstand_in ⟨k2.1, c3'⟩]
            rw [e59, r_vertex (by omega) (by omega), ClS, gdE (by omega), up_se, sr_at, sr_sr]
            rfl
          · rw [if_pos (by omega), if_neg fun q => c3 q.2]
        · rw [if_neg c4, if_pos rfl, if_neg fun q => c4 q.1]
      · rw [if_pos c2, if_neg c2]
  · have r20 : sr M 65 (fo (eStep S p h k v.toNat) (eN S k) (M 65)) 20 = S 20 := by rw [sr_ne _ _ (by decide)]; exact hA.1 20 (by decide) (by decide) (by decide)
    simp only [f_X12_addsEdges_L5_44, LtE]
    rw [wrE (v := 8 * (k : Int)) (by omega) (by omega), gdE (by omega), Int.toNat_natCast, r20, hN, wrE (by omega) (by omega), if_pos (by omega)]
  · simp only [fo, sr_self]
    refine Prod.ext (by simp only; omega) rfl
theorem r_addsAll {M S : Mm} (hA : Ag M S) (hg : Okg S) (hO : Oke S) {p a t : Int} (hp : 0 ≤ p ∧ p < S 0 0) (ha : 0 ≤ a ∧ a < S 0 12) (ht : -1 ≤ t ∧ t < 3) : ∃ M', f_X12_addsAll p a t M = some (0, M') ∧ RF M M' ∧ M' 66 = M 66 ∧ M' 65 = alE S p a t (M 65) := by
  have h12 := hg.2.1
  have hb := hO.1
  have hv := vtx_lt ht (a := a) (by omega)
  obtain ⟨M1, t1, t2, t3⟩ := r_teller (a := a) hA hg hO hp ht.1
  have hA1 := t2.ag hA
  have e65 : M1 65 = M 65 := t2.1 65 (by decide) (by decide) (by decide)
  have e66 : M1 66 = M 66 := t2.1 66 (by decide) (by decide) (by decide)
  unfold f_X12_addsAll
  rw [r_vertex ht (by omega), ClS, t1, ClS]
  unfold alE
  by_cases c : rsv S p a t = -1
  · have hl : ∀ (J : Mm → Rs), Lp (f_X12_addsAll_L40_32 a (vtx t a) (-1) 99999 J) FU (0, M1) = J M1 := by
      intro J
      rw [FU_4, Lp_s]
      simp only [f_X12_addsAll_L40_32, LtE]
      split
      · rfl
      · rw [if_pos trivial]
    rw [if_pos c, if_pos c]
    simp only [LtE]
    rw [if_neg (by decide), hl, if_neg (by decide)]
    by_cases c1 : t = -1
    · rw [if_pos c1, if_pos c1]
      exact ⟨M1, rfl, t2.rf, e66, e65⟩
    · rw [if_neg c1, if_neg c1, gdE (by omega), gdE (by omega)]
      refine ⟨_, rfl, ?_, ?_, ?_⟩
      · rw [up_se]; exact t2.rf.lay (Or.inl rfl) _
      · rw [up_ne _ _ _ (by decide), e66]
      · rw [up_se, sr_at, e65]; rfl
  · obtain ⟨k1, k2, k3⟩ := t3 c
    rw [if_neg c, if_neg c]
    simp only [LtE]
    rw [if_pos (c := ¬ shown S p (rsh S p a t) = -1) k1, r_childThereS hA1 hg hp k1 k3 ht.1, ClS]
    refine ⟨sr M1 65 (fo (fun k f => if mt S (shown S p (rsh S p a t)) a (there S p (rsh S p a t) t) k = true then fo (eStep S p (rsh S p a t) k (vtx t a).toNat) (eN S k) f else f) (S 0 19).toNat (M 65)), ?_, t2.rf.lay (Or.inl rfl) _, by rw [sr_ne _ _ (by decide), e66], sr_at _ _ _⟩
    refine Lp_for (S 0 19).toNat (fun n => ((n : Int), sr M1 65 (fo (fun k f => if mt S (shown S p (rsh S p a t)) a (there S p (rsh S p a t) t) k = true then fo (eStep S p (rsh S p a t) k (vtx t a).toNat) (eN S k) f else f) n (M 65)))) (fun rc n hn => ?_) (fun rc => ?_) (FU_lt (by omega)) ?_
    · simp only [fo]
      generalize fo _ n (M 65) = G
      have hA2 : Ag (sr M1 65 G) S := ((RF.refl M1).lay (Or.inl rfl) G).ag hA1
      have e0 : sr M1 65 G 0 19 = S 0 19 := hA2.2 19 (by simp)
      simp only [f_X12_addsAll_L40_32, LtE]
      rw [e0, if_neg (by omega), if_neg k1, r_counts (hA2.oke hO) (by rw [e0]; omega), ClS, mt_ag hA2, mt_rthere hg hO ht.1 _ _ hn, wrE (by omega) (by omega), show (n : Int) + 1 = ((n + 1 : Nat) : Int) by omega]
      by_cases c1 : mt S (shown S p (rsh S p a t)) a (there S p (rsh S p a t) t) n = true
      · have h4 := mt_iff.mp c1
        rw [if_pos c1, if_neg (by decide), if_pos c1, r_addsEdges hA2 hg hO (by omega) hp h4.1 k1 hv (fun b hb => by rw [sr_ne _ _ (by decide)]; exact k3 b hb), ClS, sr_at, sr_sr]
      · rw [if_neg c1, if_pos rfl, if_neg c1]
    · have hA2 : Ag (sr M1 65 (fo (fun k f => if mt S (shown S p (rsh S p a t)) a (there S p (rsh S p a t) t) k = true then fo (eStep S p (rsh S p a t) k (vtx t a).toNat) (eN S k) f else f) (S 0 19).toNat (M 65))) S := ((RF.refl M1).lay (Or.inl rfl) _).ag hA1
      simp only [f_X12_addsAll_L40_32, LtE]
      rw [hA2.2 19 (by simp), if_pos (by omega), if_pos k1]
    · simp only [fo]
      rw [← e65, sr_self]
      rfl
theorem r_findsEdges {M S : Mm} (hA : Ag M S) (hg : Okg S) (hO : Oke S) (hrl : b64 (M 66)) {p : Int} (hp : 0 ≤ p ∧ p < S 0 0) : Wp (f_X12_findsEdges p M) fun r => r.1 = 0 ∧ RF M r.2 ∧ r.2 66 = M 66 ∧ r.2 65 = drE S (M 66) p (z24 (M 65)) := by
  have h10 := hg.1
  have h12 := hg.2.1
  have h4 := chl_le hg hp
  unfold f_X12_findsEdges
  simp only [LtE]
  have L0 : ∀ J : Mm → Rs, Lp (f_X12_findsEdges_L2_90 J) FU (0, M) = J (sr M 65 (z24 (M 65))) := by
    intro J
    refine Lp_for 24 (fun n => ((n : Int), sr M 65 fun i => if i < n then 0 else M 65 i)) (fun rc n hn => ?_) (fun rc => ?_) (FU_lt (by omega)) ?_
    · simp only [f_X12_findsEdges_L2_90, LtE]
      rw [if_neg (by omega), gdE (by omega), wrE (by omega) (by omega), up_sr, sr_sr, sr_at]
      refine congrArg rc (Prod.ext (by simp only; omega) (congrArg (sr M 65) (funext fun j => ?_)))
      rw [Int.toNat_natCast]
      by_cases e : j = n
      · subst e; rw [if_pos rfl, if_pos (by omega)]
      · rw [if_neg e]
        by_cases e2 : j < n
        · rw [if_pos e2, if_pos (by omega)]
        · rw [if_neg e2, if_neg (by omega)]
    · simp only [f_X12_findsEdges_L2_90, LtE]
      rw [if_pos (by omega)]
      rfl
    · have : (fun (j : Nat) => if j < 0 then (0 : Int) else M 65 j) = M 65 := funext fun j => if_neg (Nat.not_lt_zero _)
      simp only [this, sr_self]
      rfl
  rw [L0]
  have L2 : ∀ (M2 : Mm), Lp (f_X12_findsEdges_L141_36 fun M5 => some (0, M5)) FU (0, M2) = some (0, sr M2 65 (fo clI 24 (M2 65))) := by
    intro M2
    refine Lp_for 24 (fun j => ((j : Int), sr M2 65 (fo clI j (M2 65)))) (fun rc j hj => ?_) (fun rc => ?_) (FU_lt (by omega)) ?_
    · simp only [fo]
      generalize fo clI j (M2 65) = G
      simp only [f_X12_findsEdges_L141_36, LtE]
      rw [if_neg (by omega)]
      have hin : ∀ K : Int → Mm → Rs, Lp (f_X12_findsEdges_L149_35 K) FU ((j : Int), 0, sr M2 65 G) = K j (sr M2 65 (clI j G)) := by
        intro K
        unfold clI
        refine Lp_for 24 (fun k => ((j : Int), (k : Int), sr M2 65 (fo (fun k f => se f k (jor (f k) (if jand (jshr (f k) j) 1 = 1 then f j else 0))) k G))) (fun rc k hk' => ?_) (fun rc => ?_) (FU_lt (by omega)) rfl
        · simp only [fo]
          generalize fo _ k G = H
          simp only [f_X12_findsEdges_L149_35, LtE]
          rw [if_neg (by omega), gdE (by omega), gdE (by omega), sr_at, Int.toNat_natCast, wrE (by omega) (by omega), show (k : Int) + 1 = ((k + 1 : Nat) : Int) by omega]
          by_cases cb : jand (jshr (H k) j) 1 = 1
          · rw [if_neg fun q => q cb, gdE (by omega), gdE (by omega), Int.toNat_natCast, if_pos cb, up_se, sr_at, sr_sr]
          · rw [if_pos cb, gdE (by omega), if_neg cb, up_se, sr_at, sr_sr]
        · simp only [f_X12_findsEdges_L149_35, LtE]
          rw [if_pos (by omega)]
      rw [hin, wrE (by omega) (by omega)]
      rfl
    · simp only [f_X12_findsEdges_L141_36, LtE]
      rw [if_pos (by omega)]
    · simp only [fo, sr_self]
      rfl
  generalize hM1 : sr M 65 (z24 (M 65)) = M1
  have f1 : RF M M1 := by rw [← hM1]; exact (RF.refl M).lay (Or.inl rfl) _
  have f66 : M1 66 = M 66 := by rw [← hM1]; exact sr_ne _ _ (by decide)
  have f65 : M1 65 = z24 (M 65) := by rw [← hM1]; exact sr_at _ _ _
  refine Wp_for (S 0 12).toNat (fun a (s : Int × Mm) => s.1 = a ∧ RF M s.2 ∧ s.2 66 = M 66 ∧ s.2 65 = fo (atE S (M 66) p) a (z24 (M 65))) (fun rc a s ha hs ih => ?_) (fun rc s hs => ?_) (FU_lt (by omega)) ⟨rfl, f1, f66, f65⟩
  · obtain ⟨a0, M2⟩ := s
    obtain ⟨e1, hR, e66, e65⟩ := hs
    simp only at e1 hR e66 e65
    subst e1
    have hA2 := hR.ag hA
    simp only [f_X12_findsEdges_L23_83, LtE]
    rw [hA2.2 12 (by simp), if_neg (by omega), gdE (by omega), hA2.1 12 (by decide) (by decide) (by decide), Int.toNat_natCast]
    have inner : ∀ (M3 : Mm) (G : Nat → Int), RF M M3 → M3 66 = M 66 → M3 65 = G → fo (atE S (M 66) p) (a + 1) (z24 (M 65)) = fo (fun (c : Nat) f => chE S (M 66) p a c f) (S 4 p.toNat).toNat G → Wp (Lp (f_X12_findsEdges_L49_80 p fun v46 M47 => rc (wr (v46 + 1), M47)) FU ((a : Int), 0, M3)) fun r => r.1 = 0 ∧ RF M r.2 ∧ r.2 66 = M 66 ∧ r.2 65 = drE S (M 66) p (z24 (M 65)) := by
      intro M3 G g1 g2 g3 g4
      refine Wp_for (S 4 p.toNat).toNat (fun c (s : Int × Int × Mm) => s.1 = a ∧ s.2.1 = c ∧ RF M s.2.2 ∧ s.2.2 66 = M 66 ∧ s.2.2 65 = fo (fun (c : Nat) f => chE S (M 66) p a c f) c G) (fun rc2 c s hc hs ih2 => ?_) (fun rc2 s hs => ?_) (FU_lt (by omega)) ⟨rfl, rfl, g1, g2, g3⟩
      · obtain ⟨a1, c1, M4⟩ := s
        obtain ⟨e2, e3, hR4, e664, e654⟩ := hs
        simp only at e2 e3 hR4 e664 e654
        subst e2 e3
        have hA4 := hR4.ag hA
        simp only [f_X12_findsEdges_L49_80, LtE]
        rw [gdE (by omega), hA4.1 4 (by decide) (by decide) (by decide), if_neg (by omega), gdE (by omega), hA4.1 12 (by decide) (by decide) (by decide), Int.toNat_natCast, wrE (v := (c : Int) + 1) (by omega) (by omega), show (c : Int) + 1 = ((c + 1 : Nat) : Int) by omega]
        have hch : ∀ f, chE S (M 66) p a c f = if S 12 a = 1 then alE S p a c f else if S 12 a = 0 then se f (vtx c a).toNat (jor (f (vtx c a).toNat) (jshl (M 66 (6 * S 5 (3 * p + c).toNat + a).toNat) (vtx c 0))) else f := fun f => rfl
        by_cases q1 : S 12 a = 1
        · rw [if_neg fun q => q q1]
          obtain ⟨M5, w1, w2, w3, w4⟩ := r_addsAll (a := a) (t := c) hA4 hg hO hp (by omega) (by omega)
          rw [w1, ClS]
          refine ih2 _ ⟨rfl, rfl, hR4.trans w2, w3.trans e664, ?_⟩
          simp only [fo]
          rw [w4, e654, hch, if_pos q1]
        · rw [if_pos q1, gdE (by omega)]
          by_cases q0 : S 12 a = 0
          · have h5 := (hg.2.2.2.1 p hp.1 hp.2).2.2.2.2.2.2.1 c (by omega) (by omega)
            have hv := vtx_lt (t := c) (by omega) (a := a) (by omega)
            rw [if_neg fun q => q q0, r_vertex (by omega) (by omega), ClS, gdE (by omega), wrE (v := 3 * p) (by omega) (by omega), wrE (v := 3 * p + c) (by omega) (by omega), gdE (by omega), hA4.1 5 (by decide) (by decide) (by decide), wrE (v := 6 * S 5 (3 * p + c).toNat) (by omega) (by omega), wrE (by omega) (by omega), gdE (by omega), e664, r_vertex (by omega) (by decide), ClS, gdE (by omega)]
            refine ih2 _ ⟨rfl, rfl, ?_, ?_, ?_⟩
            · simp only; rw [up_se]; exact hR4.lay (Or.inl rfl) _
            · simp only; rw [up_ne _ _ _ (by decide)]; exact e664
            · simp only [fo]
              rw [up_se, sr_at, e654, hch, if_neg q1, if_pos q0]
          · rw [if_pos q0]
            refine ih2 _ ⟨rfl, rfl, hR4, e664, ?_⟩
            simp only [fo]
            rw [e654, hch, if_neg q1, if_neg q0]
      · obtain ⟨a1, c1, M4⟩ := s
        obtain ⟨e2, e3, hR4, e664, e654⟩ := hs
        simp only at e2 e3 hR4 e664 e654
        subst e2 e3
        have hA4 := hR4.ag hA
        simp only [f_X12_findsEdges_L49_80, LtE]
        rw [gdE (by omega), hA4.1 4 (by decide) (by decide) (by decide), if_pos (by omega), wrE (by omega) (by omega)]
        exact ih _ ⟨by simp only; omega, hR4, e664, by simp only; rw [e654, g4]⟩
    by_cases q0 : S 12 a = 0
    · rw [if_neg fun q => q q0]
      obtain ⟨M5, w1, w2, w3, w4⟩ := r_addsAll (a := a) (t := -1) hA2 hg hO hp (by omega) (by decide)
      rw [w1, ClS]
      refine inner M5 _ (hR.trans w2) (w3.trans e66) w4 ?_
      simp only [fo, atE]
      rw [if_pos q0, e65]
    · rw [if_pos q0]
      refine inner M2 _ hR e66 e65 ?_
      simp only [fo, atE]
      rw [if_neg q0]
  · obtain ⟨a0, M2⟩ := s
    obtain ⟨e1, hR, e66, e65⟩ := hs
    simp only at e1 hR e66 e65
    subst e1
    have hA2 := hR.ag hA
    simp only [f_X12_findsEdges_L23_83, LtE]
    rw [hA2.2 12 (by simp), if_pos (by omega), L2]
    refine Wp_some ⟨rfl, hR.lay (Or.inl rfl) _, by simp only; rw [sr_ne _ _ (by decide)]; exact e66, ?_⟩
    simp only
    rw [sr_at, e65]
    rfl
theorem r_downs {M S : Mm} (hA : Ag M S) (hg : Okg S) : f_X12_downs M = some (dwn S, M) := by
  have h12 := hg.2.1
  unfold f_X12_downs dwn
  simp only [LtE]
  refine Lp_for (S 0 12).toNat (fun i => (fo (fun (a : Nat) x => jor x (if S 12 a = 1 then jshl 1 a else 0)) i 0, (i : Int), M)) (fun rc i hi => ?_) (fun rc => ?_) (FU_lt (by omega)) rfl
  · simp only [fo]
    generalize fo _ i 0 = x
    simp only [f_X12_downs_L4_20, LtE]
    rw [hA.2 12 (by simp), if_neg (by omega), gdE (by omega), hA.1 12 (by decide) (by decide) (by decide), Int.toNat_natCast, wrE (by omega) (by omega)]
    by_cases c1 : S 12 i = 1
    · rw [if_neg fun q => q c1, if_pos c1]; rfl
    · rw [if_pos c1, if_neg c1]; rfl
  · simp only [f_X12_downs_L4_20, LtE]
    rw [hA.2 12 (by simp), if_pos (by omega)]
theorem r_tell {M S : Mm} (hA : Ag M S) (hg : Okg S) (hrl : b64 (M 66)) {p : Int} (hp : 0 ≤ p ∧ p < S 0 0) {c : Int} (hc : c = 0 ∨ c = 1) {J : Int → Int → Mm → Rs} : Lp (f_X12_ringIn_L51_92 J) FU (c, p, 0, M) = J (tl S (M 65) p (M 66, c)).2 p (sr M 66 (tl S (M 65) p (M 66, c)).1) := by
  have h10 := hg.1
  have h12 := hg.2.1
  have h1 := (hg.2.2.2.1 p hp.1 hp.2).1
  have hP : ∀ n, n ≤ (S 0 12).toNat → b64 (fo (tlE S (M 65) p) n (M 66, c)).1 := fun n hn =>
    (fo_ind (P := fun (q : (Nat → Int) × Int) => b64 q.1 ∧ True) n (fun a x ha hx => ⟨by
      have hv := hx.1 (6 * S 1 p.toNat + a).toNat (by omega)
      unfold tlE
      exact hx.1.lay _ (jor_b64 hv (stE_64 hg _ a)).1, trivial⟩) (M 66, c) ⟨hrl, trivial⟩).1
  refine Lp_for (S 0 12).toNat (fun a => ((fo (tlE S (M 65) p) a (M 66, c)).2, p, (a : Int), sr M 66 (fo (tlE S (M 65) p) a (M 66, c)).1)) (fun rc a ha => ?_) (fun rc => ?_) (FU_lt (by omega)) ?_
  · have hPa := hP a (by omega)
    simp only [fo]
    generalize fo (tlE S (M 65) p) a (M 66, c) = q at hPa
    obtain ⟨f, ch⟩ := q
    simp only at hPa ⊢
    have hv := hPa (6 * S 1 p.toNat + a).toNat (by omega)
    have hA2 : Ag (sr M 66 f) S := ((RF.refl M).lay (Or.inr rfl) f).ag hA
    simp only [f_X12_ringIn_L51_92, LtE]
    rw [hA2.2 12 (by simp), if_neg (by omega), gdE (by omega), hA2.1 1 (by decide) (by decide) (by decide), wrE (v := 6 * S 1 p.toNat) (by omega) (by omega), wrE (v := 6 * S 1 p.toNat + a) (by omega) (by omega), gdE (by omega), hA2.1 12 (by decide) (by decide) (by decide), Int.toNat_natCast, wrE (v := (a : Int) + 1) (by omega) (by omega), show (a : Int) + 1 = ((a + 1 : Nat) : Int) by omega]
    have fin : ∀ x, (if ¬ ch = 0 then gd (0 ≤ 6 * S 1 p.toNat + (a : Int) ∧ 6 * S 1 p.toNat + (a : Int) < 24) (gd (0 ≤ 6 * S 1 p.toNat + (a : Int) ∧ 6 * S 1 p.toNat + (a : Int) < 24) (rc (1, p, ((a + 1 : Nat) : Int), up (sr M 66 f) 66 (6 * S 1 p.toNat + (a : Int)).toNat (jor (sr M 66 f 66 (6 * S 1 p.toNat + (a : Int)).toNat) x)))) else gd (0 ≤ 6 * S 1 p.toNat + (a : Int) ∧ 6 * S 1 p.toNat + (a : Int) < 24) (if jand x (jxor (sr M 66 f 66 (6 * S 1 p.toNat + (a : Int)).toNat) (-1)) = 0 then gd (0 ≤ 6 * S 1 p.toNat + (a : Int) ∧ 6 * S 1 p.toNat + (a : Int) < 24) (gd (0 ≤ 6 * S 1 p.toNat + (a : Int) ∧ 6 * S 1 p.toNat + (a : Int) < 24) (rc (0, p, ((a + 1 : Nat) : Int), up (sr M 66 f) 66 (6 * S 1 p.toNat + (a : Int)).toNat (jor (sr M 66 f 66 (6 * S 1 p.toNat + (a : Int)).toNat) x)))) else gd (0 ≤ 6 * S 1 p.toNat + (a : Int) ∧ 6 * S 1 p.toNat + (a : Int) < 24) (gd (0 ≤ 6 * S 1 p.toNat + (a : Int) ∧ 6 * S 1 p.toNat + (a : Int) < 24) (rc (1, p, ((a + 1 : Nat) : Int), up (sr M 66 f) 66 (6 * S 1 p.toNat + (a : Int)).toNat (jor (sr M 66 f 66 (6 * S 1 p.toNat + (a : Int)).toNat) x)))))) = rc ((if ch ≠ 0 ∨ jor (f (6 * S 1 p.toNat + a).toNat) x ≠ f (6 * S 1 p.toNat + a).toNat then 1 else 0), p, ((a + 1 : Nat) : Int), sr M 66 (se f (6 * S 1 p.toNat + a).toNat (jor (f (6 * S 1 p.toNat + a).toNat) x))) := by
      intro x
      have hgd : 0 ≤ 6 * S 1 p.toNat + (a : Int) ∧ 6 * S 1 p.toNat + (a : Int) < 24 := by omega
      simp only [gdE hgd]
      rw [sr_at, up_se, sr_at, sr_sr]
      have hj := jor_new (f (6 * S 1 p.toNat + a).toNat) x (by unfold i32; omega)
      by_cases c1 : ch = 0
      · rw [if_neg fun q => q c1]
        by_cases c2 : jor (f (6 * S 1 p.toNat + a).toNat) x = f (6 * S 1 p.toNat + a).toNat
        · rw [if_pos (hj.mpr c2), if_neg (c := ch ≠ 0 ∨ _) (fun q => q.elim (fun q => q c1) fun q => q c2)]
        · rw [if_neg fun q => c2 (hj.mp q), if_pos (c := ch ≠ 0 ∨ _) (Or.inr c2)]
      · rw [if_pos c1, if_pos (c := ch ≠ 0 ∨ _) (Or.inl c1)]
    unfold tlE
    simp only
    have hs : stE S (M 65) a = if S 12 a = 0 then jand (M 65 a) (dwn S) else 0 := rfl
    by_cases k0 : S 12 a = 0
    · rw [if_pos k0] at hs
      rw [if_neg fun q => q k0, gdE (by omega), r_downs hA2 hg, ClS, sr_ne _ _ (show (65 : Nat) ≠ 66 by decide), ← hs]
      exact fin _
    · rw [if_neg k0] at hs
      rw [if_pos k0, hs]
      exact fin 0
  · have hA2 : Ag (sr M 66 (fo (tlE S (M 65) p) (S 0 12).toNat (M 66, c)).1) S := ((RF.refl M).lay (Or.inr rfl) _).ag hA
    simp only [f_X12_ringIn_L51_92, LtE]
    rw [hA2.2 12 (by simp), if_pos (by omega)]
    rfl
  · simp only [fo, sr_self]
    rfl
theorem r_hasRing {M : Mm} {p : Int} {J1 J2 : Int → Mm → Rs} : Lp (f_X12_ringIn_L167_31 J1 J2) FU (p, 0, M) = if hr (M 65) 24 = true then J1 p M else J2 p M := by
  refine (show ∀ n : Nat, n ≤ 24 → ∀ f, f = 999999999999999 - n → (hr (M 65) n = false → Lp (f_X12_ringIn_L167_31 J1 J2) (f + 1) (p, (n : Int), M) = if hr (M 65) 24 = true then J1 p M else J2 p M) from ?_) 0 (by decide) _ rfl rfl
  have hmono : ∀ n m, hr (M 65) n = true → n ≤ m → hr (M 65) m = true := by
    intro n m h hm
    induction m with
    | zero => have : n = 0 := by omega
              subst this; exact h
    | succ m ih =>
      by_cases e : n = m + 1
      · subst e; exact h
      · simp only [hr]; rw [ih (by omega)]; rfl
  intro n hn
  obtain ⟨d, hd⟩ : ∃ d, n = 24 - d := ⟨24 - n, by omega⟩
  have hd24 : d ≤ 24 ∨ 24 < d := by omega
  clear hn
  induction d generalizing n with
  | zero =>
    subst hd
    intro f hf h0
    rw [Lp_s]
    simp only [f_X12_ringIn_L167_31]
    rw [if_pos (by decide), show hr (M 65) 24 = false from h0]
    rfl
  | succ d ih =>
    intro f hf h0
    rcases hd24 with hd24 | hd24
    case inr =>
      exact ih n (by omega) (by omega) f hf h0
    rw [Lp_s]
    simp only [f_X12_ringIn_L167_31, LtE]
    rw [if_neg (by omega), gdE (by omega), Int.toNat_natCast]
    have h1 : hr (M 65) (n + 1) = decide (jand (jshr (M 65 n) n) 1 = 1) := by simp only [hr]; rw [h0]; rfl
    by_cases cb : jand (jshr (M 65 n) n) 1 = 1
    · rw [if_neg fun q => q cb, if_pos (hmono (n + 1) 24 (by rw [h1]; exact decide_eq_true cb) (by omega))]
    · rw [if_pos cb, wrE (by omega) (by omega), show (n : Int) + 1 = ((n + 1 : Nat) : Int) by omega]
      obtain ⟨g, hgf⟩ : ∃ g, f = g + 1 := ⟨f - 1, by omega⟩
      rw [hgf]
      exact ih (n + 1) (by omega) (by omega) g (by omega) (by rw [h1]; exact decide_eq_false cb)
theorem r_ringIn {M S : Mm} (hA : Ag M S) (hg : Okg S) (hO : Oke S) {N : Nat} (hN : N ≤ 144) (h1 : ∀ n, n ≤ N → (itn S (fun _ => 0, fun _ => 0, 1) n).2.2 ≠ 0) (h2 : (itn S (fun _ => 0, fun _ => 0, 1) (N + 1)).2.2 = 0) : Wp (f_X12_ringIn M) fun r => r.1 = nxt (ht S (itn S (fun _ => 0, fun _ => 0, 1) (N + 1)).2.1) (S 0 0).toNat 0 ∧ RF (up M 0 87 0) r.2 := by
  have h10 := hg.1
  unfold f_X12_ringIn
  simp only [LtE]
  generalize hM0 : up M 0 87 0 = M0
  have hA0 : Ag M0 S := by rw [← hM0]; exact ⟨fun j j1 j2 j3 => by rw [up_ne _ _ _ (by omega)]; exact hA.1 j j1 j2 j3, fun i hi => by rw [← hA.2 i hi]; unfold up; rw [if_neg (by omega)]⟩
  have L0 : ∀ J : Mm → Rs, Lp (f_X12_ringIn_L7_101 J) FU (0, M0) = J (sr M0 66 (z24 (M0 66))) := by
    intro J
    refine Lp_for 24 (fun n => ((n : Int), sr M0 66 fun i => if i < n then 0 else M0 66 i)) (fun rc n hn => ?_) (fun rc => ?_) (FU_lt (by omega)) ?_
    · simp only [f_X12_ringIn_L7_101, LtE]
      rw [if_neg (by omega), gdE (by omega), wrE (by omega) (by omega), up_sr, sr_sr, sr_at]
      refine congrArg rc (Prod.ext (by simp only; omega) (congrArg (sr M0 66) (funext fun j => ?_)))
      rw [Int.toNat_natCast]
      by_cases e : j = n
      · subst e; rw [if_pos rfl, if_pos (by omega)]
      · rw [if_neg e]
        by_cases e2 : j < n
        · rw [if_pos e2, if_pos (by omega)]
        · rw [if_neg e2, if_neg (by omega)]
    · simp only [f_X12_ringIn_L7_101, LtE]
      rw [if_pos (by omega)]
      rfl
    · have : (fun (j : Nat) => if j < 0 then (0 : Int) else M0 66 j) = M0 66 := funext fun j => if_neg (Nat.not_lt_zero _)
      simp only [this, sr_self]
      rfl
  rw [L0]
  have hb : b64 (z24 (M0 66)) := fun i hi => by unfold z24; rw [if_pos hi]; decide
  have hR := R3.itn_ hg (q := (M0 65, z24 (M0 66), 1)) (q' := (fun _ => 0, fun _ => 0, 1)) ⟨fun i hi => if_pos hi, rfl⟩
  have hbn := itn_b64 hg (q := (M0 65, z24 (M0 66), 1)) hb
  generalize hq0 : (M0 65, z24 (M0 66), (1 : Int)) = q0 at hR hbn
  refine Wp_for (N + 1) (fun i (s : Int × Mm) => s.1 = (itn S q0 i).2.2 ∧ RF M0 s.2 ∧ s.2 65 = (itn S q0 i).1 ∧ s.2 66 = (itn S q0 i).2.1) (fun rc i s hi hs ih => ?_) (fun rc s hs => ?_) (FU_lt (by omega)) ?_
  · obtain ⟨g, M1⟩ := s
    obtain ⟨e1, hRF, e65, e66⟩ := hs
    simp only at e1 hRF e65 e66
    have hbi := hbn i
    have hne : g ≠ 0 := by rw [e1, (hR i).2]; exact h1 i (by omega)
    simp only [f_X12_ringIn_L28_94, LtE]
    rw [if_neg hne]
    have hit : itn S q0 (i + 1) = tn S (itn S q0 i) := rfl
    rw [hit] at ih
    generalize itn S q0 i = q at e1 e65 e66 hbi ih
    have hP : ∀ n, n ≤ (S 0 0).toNat → ok3 0 (fo (tnP S) n (q.1, q.2.1, 0)) := fun n hn => fo_ind (P := ok3 0) n (fun i x hi hx => hx.tnP_ hg (by omega)) _ ⟨hbi, Or.inl rfl, by simp⟩
    refine Wp_for (S 0 0).toNat (fun p (s : Int × Int × Mm) => s.1 = (fo (tnP S) p (q.1, q.2.1, 0)).2.2 ∧ s.2.1 = p ∧ RF M0 s.2.2 ∧ s.2.2 65 = (fo (tnP S) p (q.1, q.2.1, 0)).1 ∧ s.2.2 66 = (fo (tnP S) p (q.1, q.2.1, 0)).2.1) (fun rc2 p s hp hs ih2 => ?_) (fun rc2 s hs => ?_) (FU_lt (by omega)) ⟨rfl, rfl, hRF, e65, e66⟩
    · obtain ⟨g1, p1, M2⟩ := s
      obtain ⟨u1, u2, u3, u4, u5⟩ := hs
      simp only at u1 u2 u3 u4 u5
      subst u2
      have hPp := hP p (by omega)
      have hfo : fo (tnP S) (p + 1) (q.1, q.2.1, 0) = tnP S p (fo (tnP S) p (q.1, q.2.1, 0)) := rfl
      rw [hfo] at ih2
      generalize fo (tnP S) p (q.1, q.2.1, 0) = x at hPp u1 u4 u5 ih2
      obtain ⟨x1, x2, x3⟩ := id hPp
      have hA2 := u3.ag hA0
      simp only [f_X12_ringIn_L36_93, LtE]
      rw [hA2.2 0 (by simp), if_neg (by omega)]
      obtain ⟨r, hr, w1, w2, w3, w4⟩ := r_findsEdges hA2 hg hO (by rw [u5]; exact x1) (p := p) (by omega)
      rw [hr, show (r : Int × Mm) = (r.1, r.2) from rfl, ClS, u1, r_tell (w2.ag hA2) hg (by rw [w3, u5]; exact x1) (by omega) x2, wrE (by omega) (by omega)]
      refine ih2 _ ⟨?_, by simp only; omega, (u3.trans w2).lay (Or.inr rfl) _, ?_, ?_⟩
      · simp only; rw [w3, w4, u5, u4]; rfl
      · simp only; rw [sr_ne _ _ (by decide), w4, u5, u4]; rfl
      · simp only; rw [sr_at, w3, w4, u5, u4]; rfl
    · obtain ⟨g1, p1, M2⟩ := s
      obtain ⟨u1, u2, u3, u4, u5⟩ := hs
      simp only at u1 u2 u3 u4 u5
      subst u2
      have hA2 := u3.ag hA0
      simp only [f_X12_ringIn_L36_93, LtE]
      rw [hA2.2 0 (by simp), if_pos (by omega)]
      exact ih _ ⟨u1, u3, u4, u5⟩
  · obtain ⟨g, M1⟩ := s
    obtain ⟨e1, hRF, e65, e66⟩ := hs
    simp only at e1 hRF e65 e66
    have hz : g = 0 := by rw [e1, (hR (N + 1)).2]; exact h2
    simp only [f_X12_ringIn_L28_94, LtE]
    rw [if_pos hz]
    have hrl := (hR (N + 1)).1
    have hbN := hbn (N + 1)
    generalize itn S q0 (N + 1) = y at hrl hbN e66 e65 e1
    generalize (itn S (fun _ => 0, fun _ => 0, 1) (N + 1)).2.1 = rl at hrl
    refine Wp_lp (fun (s : Int × Mm) => ∃ p : Nat, p ≤ (S 0 0).toNat ∧ s.1 = p ∧ RF M0 s.2 ∧ s.2 66 = y.2.1 ∧ nxt (ht S rl) (S 0 0).toNat 0 = nxt (ht S rl) ((S 0 0).toNat - p) p) (fun s => (S 0 0 - s.1).toNat) ?_ FU _ ⟨0, Nat.zero_le _, rfl, hRF, e66, rfl⟩ (FU_lt (by simp only; omega))
    rintro rc2 ⟨p0, M'⟩ ⟨p, hp, v1, v2, v3, hn⟩ ih2
    simp only at v1 v2 v3 ih2
    subst v1
    have hA2 := v2.ag hA0
    simp only [f_X12_ringIn_L152_32, LtE]
    rw [hA2.2 0 (by simp)]
    by_cases c : S 0 0 ≤ p
    · rw [if_pos c]
      refine Wp_some ⟨?_, v2⟩
      simp only
      rw [hn, show (S 0 0).toNat - p = 0 by omega]
      rfl
    rw [if_neg c]
    obtain ⟨r, hr', w1, w2, w3, w4⟩ := r_findsEdges hA2 hg hO (by rw [v3]; exact hbN) (p := p) (by omega)
    rw [hr', show (r : Int × Mm) = (r.1, r.2) from rfl, ClS, r_hasRing, w4, v3, ht_e hg hrl (by omega)]
    rw [show (S 0 0).toNat - p = ((S 0 0).toNat - (p + 1)) + 1 by omega, nxt_step] at hn
    by_cases c1 : ht S rl p = true
    · rw [if_pos c1]
      rw [if_pos c1] at hn
      exact Wp_some ⟨hn.symm, v2.trans w2⟩
    · rw [if_neg c1, wrE (by omega) (by omega)]
      rw [if_neg c1] at hn
      exact ih2 _ ⟨p + 1, by omega, by simp only; omega, v2.trans w2, by simp only; rw [w3, v3], hn⟩ (by simp only; omega)
  · rw [← hq0]
    exact ⟨rfl, (RF.refl M0).lay (Or.inr rfl) _, by show sr M0 66 (z24 (M0 66)) 65 = M0 65; exact sr_ne _ _ (by decide), by show sr M0 66 (z24 (M0 66)) 66 = z24 (M0 66); exact sr_at _ _ _⟩
theorem s_ringIn {RG : Mm → Nat → Int} (hRG : RGok RG) : S_ringIn (Inv RG) := by
  intro MC MR k hI hk
  obtain ⟨⟨⟨p1, p2, p3, p4, p5⟩, ⟨q1, q2, q3, q4, q5⟩, q6, q7, p6⟩, hV, hR, hB⟩ := id hI
  obtain ⟨N, n1, n2, n3⟩ := itn_end p1 (q := (fun _ => 0, fun _ => 0, 1)) (fun i hi => by show (0 : Int) ≤ 0 ∧ (0 : Int) < 64; decide) rfl
  obtain ⟨r, hr1, r1, r2⟩ := c_firstRing ⟨q1, q3, hV⟩ p1 p3 n1 n2 n3
  obtain ⟨q, hq1, w1, w2⟩ := r_ringIn (Ag.refl MR) p1 p3 n1 n2 n3
  refine ⟨r, q, ?_, hq1, by rw [r1, w1], hI.of hRG _ (fun j hj => ?_) (fun i hi => ?_) (fun j hj => r2 j (by omega) (by omega)) (by rw [r2 273 (by decide) (by decide)]) (by rw [r2 310 (by decide) (by decide)])⟩
  · unfold f_X11_ringIn
    rw [hr1, show (r : Int × Mm) = (r.1, r.2) from rfl, ClS]
  · rw [w2.1 j (by omega) (by omega) (by omega) (by omega) (by omega), up_ne _ _ _ (by omega)]
  · rw [w2.2 i (by omega)]; unfold up; rw [if_neg (by omega)]
