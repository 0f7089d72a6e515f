/-! slots that are there, values within bounds -/
def SlV (S : Mm) (x : Nat) : Prop := ((x / 6 : Nat) : Int) < S 0 35 ∧ ((x % 6 : Nat) : Int) < S 0 12
def VlB (S : Mm) (v : Int) : Prop := -3 ≤ v ∧ v < 1000 + S 0 35
def TrB (S : Mm) (r : List Nat × Option Int) : Prop := (∀ x ∈ r.1, SlV S x) ∧ ∀ v, r.2 = some v → VlB S v
def LbB (S : Mm) (L : Nat → Option (Int × Int)) : Prop := ∀ x v, SlV S x → fv L x = some v → VlB S v
theorem SlV_of {S : Mm} (h12 : S 0 12 ≤ 6) {m a : Int} (hm : 0 ≤ m ∧ m < S 0 35) (ha : 0 ≤ a ∧ a < S 0 12) : SlV S (6 * m + a).toNat := by
  unfold SlV; omega
theorem SlV.lt {S : Mm} (h35 : S 0 35 ≤ 30) {x : Nat} (h : SlV S x) : x < 180 := by unfold SlV at h; omega
theorem TrB_val {S : Mm} {v : Int} (h : VlB S v) : TrB S ([], some v) := ⟨fun x hx => (by cases hx), fun w hw => by cases hw; exact h⟩
theorem TrB_none {S : Mm} : TrB S ([], none) := ⟨fun x hx => (by cases hx), fun w hw => by cases hw⟩
theorem TrB_look {S : Mm} {L : Nat → Option (Int × Int)} (hL : LbB S L) {s : Int} (hs : SlV S s.toNat) : TrB S (look L s) := by
  refine ⟨fun x hx => ?_, fun v hv => hL _ v hs hv⟩
  have : x = s.toNat := List.mem_singleton.mp hx
  rw [this]; exact hs
theorem TrB_bnd {S : Mm} {r : List Nat × Option Int} {g : Int → List Nat × Option Int} (h : TrB S r) (hg : ∀ v, r.2 = some v → VlB S v → TrB S (g v)) : TrB S (bnd r g) := by
  obtain ⟨t, o⟩ := r
  cases o with
  | none => exact h
  | some v =>
    have h1 := hg v rfl (h.2 v rfl)
    rw [bnd_some]
    refine ⟨fun x hx => ?_, fun w hw => h1.2 w hw⟩
    rcases List.mem_append.mp hx with q | q
    · exact h.1 x q
    · exact h1.1 x q
theorem evo_bd {S : Mm} (hg : Okg S) (hN : Okn S) {L : Nat → Option (Int × Int)} (hL : LbB S L) {m : Int} (hm : 0 ≤ m ∧ m < S 0 35) {k : Nat} (hO : OkE S k) (h : Nat) : ∀ f i, i < eN S k → i < f → TrB S (evo S L m (S 31 m.toNat) h k f i) := by
  have h12 := hg.2.1
  have h35 := hN.1
  have hK := hO.2.2.2.2.2.1
  intro f
  induction f with
  | zero => exact fun i _ hi => absurd hi (Nat.not_lt_zero _)
  | succ f ih =>
    intro i hi hf
    have hst := hK i hi
    have ho : ∀ j, j < tkn (eK S k i) → TrB S (evo S L m (S 31 m.toNat) h k f (opr (eK S k) i j)) := fun j hj => by
      have := opr_lt hj hst.2
      exact ih _ (by omega) (by omega)
    obtain ⟨s1, s2, s3⟩ := hst.1
    simp only [evo]
    by_cases c1 : tkn (eK S k i) = 0
    · rw [if_pos c1]
      by_cases c2 : lkS S m (S 31 m.toNat) h (eK S k i) (eA S k i) (eB S k i) 0 = -1
      · rw [if_pos c2]
        exact TrB_val (lfV_ok hg hN hm hst.1)
      · rw [if_neg c2]
        refine TrB_look hL ?_
        unfold lkS at c2 ⊢
        by_cases k1 : eK S k i = 1
        · rw [if_pos k1]
          rw [if_pos (Or.inl k1)] at s2
          exact SlV_of h12.2 hm s2
        rw [if_neg k1] at c2 ⊢
        by_cases k2 : eK S k i = 2
        · rw [if_pos k2] at c2 ⊢
          rw [if_pos (Or.inr (Or.inl k2))] at s2
          rcases chN_ok hg hN hm h (eB S k i) with q | q
          · rw [if_pos q] at c2; exact absurd rfl c2
          · rw [if_neg (by omega)]
            exact SlV_of h12.2 ⟨by omega, q.2.1⟩ s2
        rw [if_neg k2] at c2 ⊢
        by_cases k7 : eK S k i = 7
        · rw [k7] at c1; exact absurd c1 (by decide)
        · rw [if_neg k7] at c2; exact absurd rfl c2
    · rw [if_neg c1]
      refine TrB_bnd (ho 0 (by omega)) fun v hv hvb => ?_
      by_cases c2 : v < 0
      · rw [if_pos c2]; exact TrB_val hvb
      rw [if_neg c2]
      by_cases c3 : eK S k i = 7
      · rw [if_pos c3]
        rw [if_pos (Or.inr (Or.inr c3))] at s2
        by_cases c4 : v < 1000
        · rw [if_pos c4]; exact TrB_val ⟨by decide, by omega⟩
        · rw [if_neg c4]
          exact TrB_look hL (SlV_of h12.2 ⟨by omega, by have := hvb.2; omega⟩ s2)
      rw [if_neg c3]
      by_cases c4 : eK S k i = 13
      · rw [if_pos c4]
        refine ho _ ?_
        rw [c4]
        split <;> decide
      rw [if_neg c4]
      refine TrB_bnd (ho 1 ?_) fun w hw hwb => ?_
      · unfold tkn at c1 ⊢
        grind
      · by_cases c5 : w < 0
        · rw [if_pos c5]; exact TrB_val hwb
        · rw [if_neg c5]
          have := jn_ok (K := eK S k i) (v := v) (w := w) (by omega) (by omega)
          exact TrB_val ⟨this.1, by omega⟩
theorem gthL_bd {S : Mm} (hg : Okg S) (hO : Oke S) (hN : Okn S) {a : Int} (ha : S 12 a.toNat = 2) {L : Nat → Option (Int × Int)} (hL : LbB S L) (n : Int) : ∀ (g : List (Nat × Nat)) (sum : Int), (∀ x ∈ g, (x.1 : Int) < S 0 35 ∧ (x.2 : Int) < S 0 19 ∧ S 17 x.2 = a) → 0 ≤ sum ∧ sum < 1000 → TrB S (gthL S L n g sum) := by
  have h35 := hN.1
  intro g
  induction g with
  | nil => exact fun sum _ hs => TrB_val ⟨by omega, by omega⟩
  | cons mk r ih =>
    intro sum hm hs
    obtain ⟨m, k⟩ := mk
    have hk := hm (m, k) (List.mem_cons_self ..)
    simp only at hk
    have hOk := hO.2.1 k hk.2.1
    have hw : wfK (eK S k) (eN S k) := by
      obtain ⟨o1, o2, o3, o4, o5, o6, -⟩ := hOk
      exact ⟨by unfold eN; omega, fun i hi => (o6 i hi).2⟩
    have hlen : (stk (eK S k) (eN S k)).length = 2 := by
      have := hOk.2.2.2.2.2.2.1
      rw [hk.2.2, if_pos ha] at this
      exact this
    obtain ⟨-, -, r1, r2, -, -⟩ := roots2 hw hlen
    have h8 := hw.1
    have ih := fun s hs => ih s (fun x hx => hm x (List.mem_cons_of_mem _ hx)) hs
    have hm0 : 0 ≤ (m : Int) ∧ (m : Int) < S 0 35 := ⟨by omega, hk.1⟩
    have e1 := fun i h1 h2 => evo_bd hg hN hL hm0 hOk 0 8 i h1 h2
    simp only [Int.toNat_natCast] at e1
    simp only [gthL]
    refine TrB_bnd (e1 _ r1 (by omega)) fun v _ hv => ?_
    by_cases c1 : v = -2 ∨ v = -3
    · rw [if_pos c1]; exact TrB_val hv
    rw [if_neg c1]
    by_cases c2 : v = 1000 + n
    · rw [if_pos c2]
      refine TrB_bnd (e1 _ r2 (by omega)) fun w _ hw => ?_
      by_cases c3 : w = -2 ∨ w = -3
      · rw [if_pos c3]; exact TrB_val hw
      rw [if_neg c3]
      refine ih _ ?_
      by_cases c4 : 0 ≤ w ∧ w < 1000
      · rw [if_pos c4, jrem_sum hs c4]
        omega
      · rw [if_neg c4]; exact hs
    rw [if_neg c2]
    exact ih _ hs
theorem spc_bd {S : Mm} (hg : Okg S) (hO : Oke S) (hN : Okn S) {L : Nat → Option (Int × Int)} (hL : LbB S L) {n a : Int} (hn : 0 ≤ n ∧ n < S 0 35) (ha : 0 ≤ a ∧ a < S 0 12) : TrB S (spc S L n a) := by
  have h35 := hN.1
  have h12 := hg.2.1
  unfold spc
  by_cases c1 : S 12 a.toNat = 2
  · rw [if_pos c1]
    refine gthL_bd hg hO hN c1 hL n _ _ (fun x hx => ?_) ⟨by decide, by decide⟩
    have := nl_mem S a _ _ x hx
    exact ⟨by have := this.1; omega, this.2.1, this.2.2.1⟩
  rw [if_neg c1]
  by_cases c2 : pm S n a = -1
  · rw [if_pos c2]; exact TrB_val ⟨by decide, by omega⟩
  rw [if_neg c2]
  have hm := (pm_ok hN (a := a) hn).resolve_left c2
  by_cases c3 : prs S n a = -3
  · rw [if_pos c3]; exact TrB_val ⟨by decide, by omega⟩
  rw [if_neg c3]
  by_cases c4 : prs S n a = -1
  · rw [if_pos c4]
    by_cases c5 : S 12 a.toNat = 1
    · rw [if_pos c5]; exact TrB_look hL (SlV_of h12.2 hm ha)
    · rw [if_neg c5]; exact TrB_val ⟨by decide, by omega⟩
  rw [if_neg c4]
  rcases rsv_val S (S 31 (pm S n a).toNat) a (pt S n a) with h | h | ⟨e, h1, h2, h3, h4⟩
  · exact absurd h c4
  · exact absurd h c3
  have hpe : prs S n a = e := h1
  rw [hpe, Int.toNat_natCast]
  have hOk := hO.2.1 e h2
  have hw : wfK (eK S e) (eN S e) := by
    obtain ⟨o1, o2, o3, o4, o5, o6, -⟩ := hOk
    exact ⟨by unfold eN; omega, fun i hi => (o6 i hi).2⟩
  have hlen : (stk (eK S e) (eN S e)).length = 1 := by
    have := hOk.2.2.2.2.2.2.1
    rw [h3, if_neg c1] at this
    exact this
  obtain ⟨-, r2, -⟩ := roots1 hw hlen
  have h8 := hw.1
  exact evo_bd hg hN hL hm hOk _ 8 _ r2 (by omega)
/-- RING values within bounds -/
def RgB (rg : Nat → Int) : Prop := ∀ s, s < 180 → -3 ≤ rg s ∧ rg s < 1000
theorem SlV.nat {S : Mm} {x : Nat} (h : SlV S x) : (0 ≤ ((x / 6 : Nat) : Int) ∧ ((x / 6 : Nat) : Int) < S 0 35) ∧ (0 ≤ ((x % 6 : Nat) : Int) ∧ ((x % 6 : Nat) : Int) < S 0 12) := ⟨⟨by omega, h.1⟩, ⟨by omega, h.2⟩⟩
theorem KL_bd {S : Mm} (hg : Okg S) (hO : Oke S) (hN : Okn S) {rg : Nat → Int} (hr : RgB rg) : ∀ i, LbB S (KL S rg i) := by
  have h35 := hN.1
  intro i
  induction i with
  | zero =>
    intro x v hx h
    by_cases c : S 12 (x % 6) = 3
    · unfold fv at h
      rw [KL_ring c] at h
      have e : rg x = v := Option.some.inj h
      have := hr x (hx.lt h35.2)
      exact ⟨by omega, by omega⟩
    · unfold fv at h
      rw [KL_zero c] at h
      cases h
  | succ i ih =>
    intro x v hx h
    by_cases c : S 12 (x % 6) = 3
    · unfold fv at h
      rw [KL_ring c] at h
      have e : rg x = v := Option.some.inj h
      have := hr x (hx.lt h35.2)
      exact ⟨by omega, by omega⟩
    · rw [fvKL_succ c] at h
      exact (spc_bd hg hO hN ih hx.nat.1 hx.nat.2).2 v h
theorem Vs_bd {S : Mm} (hg : Okg S) (hO : Oke S) (hN : Okn S) {rg : Nat → Int} (hr : RgB rg) {x : Nat} (hx : SlV S x) : VlB S (Vs S rg x) := by
  by_cases hd : ∃ v, Dt S rg x v
  · obtain ⟨v, i, hi⟩ := hd
    rw [Vs_of ⟨i, hi⟩]
    exact KL_bd hg hO hN hr i x v hx hi
  · rw [Vs_not hd]
    have := hN.1
    exact ⟨by decide, by omega⟩
theorem Lst_bd {S : Mm} (hg : Okg S) (hO : Oke S) (hN : Okn S) {rg : Nat → Int} (hr : RgB rg) : LbB S (Lst_ S rg) := fun x v hx h => by
  rw [fvLst] at h
  cases h
  exact Vs_bd hg hO hN hr hx
theorem Rd_bd {S : Mm} (hg : Okg S) (hO : Oke S) (hN : Okn S) {rg : Nat → Int} (hr : RgB rg) {x : Nat} (hx : SlV S x) : ∀ y ∈ Rd S rg x, SlV S y := (spc_bd hg hO hN (Lst_bd hg hO hN hr) hx.nat.1 hx.nat.2).1
/-! RING values alike where slots are -/
theorem KL_rg {S : Mm} (hg : Okg S) (hO : Oke S) (hN : Okn S) {rg rg' : Nat → Int} (hr : RgB rg) (he : ∀ s, s < 180 → rg' s = rg s) : ∀ i x, SlV S x → fv (KL S rg' i) x = fv (KL S rg i) x := by
  have h35 := hN.1
  have hring : ∀ i x, SlV S x → S 12 (x % 6) = 3 → fv (KL S rg' i) x = fv (KL S rg i) x := fun i x hx c => by
    unfold fv
    rw [KL_ring c, KL_ring c, he x (hx.lt h35.2)]
  intro i
  induction i with
  | zero =>
    intro x hx
    by_cases c : S 12 (x % 6) = 3
    · exact hring 0 x hx c
    · unfold fv
      rw [KL_zero c, KL_zero c]
  | succ i ih =>
    intro x hx
    by_cases c : S 12 (x % 6) = 3
    · exact hring (i + 1) x hx c
    · rw [fvKL_succ c, fvKL_succ c]
      rcases DF_spc S (KL S rg i) (KL S rg' i) ((x / 6 : Nat) : Int) ((x % 6 : Nat) : Int) with q | ⟨t1, y, u, u', e1, e2, e3⟩
      · rw [q]
      · have hy := (spc_bd hg hO hN (KL_bd hg hO hN hr i) hx.nat.1 hx.nat.2).1 y (by rw [e1]; simp)
        exact absurd (ih y hy).symm e3
theorem Dt_rg {S : Mm} (hg : Okg S) (hO : Oke S) (hN : Okn S) {rg rg' : Nat → Int} (hr : RgB rg) (he : ∀ s, s < 180 → rg' s = rg s) {x : Nat} (hx : SlV S x) (v : Int) : Dt S rg' x v ↔ Dt S rg x v := by
  unfold Dt
  constructor
  · rintro ⟨i, hi⟩; exact ⟨i, by rw [← KL_rg hg hO hN hr he i x hx]; exact hi⟩
  · rintro ⟨i, hi⟩; exact ⟨i, by rw [KL_rg hg hO hN hr he i x hx]; exact hi⟩
theorem Vs_rg {S : Mm} (hg : Okg S) (hO : Oke S) (hN : Okn S) {rg rg' : Nat → Int} (hr : RgB rg) (he : ∀ s, s < 180 → rg' s = rg s) {x : Nat} (hx : SlV S x) : Vs S rg' x = Vs S rg x := by
  by_cases hd : ∃ v, Dt S rg x v
  · obtain ⟨v, hv⟩ := hd
    rw [Vs_of hv, Vs_of ((Dt_rg hg hO hN hr he hx v).mpr hv)]
  · rw [Vs_not hd, Vs_not fun ⟨v, hv⟩ => hd ⟨v, (Dt_rg hg hO hN hr he hx v).mp hv⟩]
theorem Rd_rg {S : Mm} (hg : Okg S) (hO : Oke S) (hN : Okn S) {rg rg' : Nat → Int} (hr : RgB rg) (he : ∀ s, s < 180 → rg' s = rg s) {x : Nat} (hx : SlV S x) : Rd S rg' x = Rd S rg x := by
  unfold Rd
  rcases DF_spc S (Lst_ S rg) (Lst_ S rg') ((x / 6 : Nat) : Int) ((x % 6 : Nat) : Int) with q | ⟨t1, y, u, u', e1, e2, e3⟩
  · rw [q]
  · have hy := (spc_bd hg hO hN (Lst_bd hg hO hN hr) hx.nat.1 hx.nat.2).1 y (by rw [e1]; simp)
    exact absurd (by rw [fvLst, fvLst, Vs_rg hg hO hN hr he hy]) e3
/-- a kept slot is one that is there -/
theorem KpO_rg {S : Mm} (hg : Okg S) (hO : Oke S) (hN : Okn S) {rg rg' : Nat → Int} (hr : RgB rg) (he : ∀ s, s < 180 → rg' s = rg s) {op : List Int} {bv bh : Nat → Int} (hs : ∀ s, s < 180 → bh s ≠ 0 → SlV S s) (h : KpO S rg op bv bh) : KpO S rg' op bv bh := by
  intro s hs0 hne
  obtain ⟨a1, a2, a3, a4, a5, a6⟩ := h s hs0 hne
  have hx := hs s hs0 hne
  have e1 := Vs_rg hg hO hN hr he hx
  have e2 := Rd_rg hg hO hN hr he hx
  refine ⟨a1, by rw [e1]; exact a2, by rw [e2]; exact a3, ?_⟩
  unfold HgO
  rw [e1, e2]
  exact ⟨a4, a5, a6⟩
