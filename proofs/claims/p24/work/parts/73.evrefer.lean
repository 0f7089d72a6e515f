/-! what a value refers to: nodes on which the finding hangs, or their children -/
def RfO (S : Mm) (h v : Int) : Prop := 1000 ≤ v → bt h (v - 1000).toNat = true ∨ (0 ≤ S 32 (v - 1000).toNat ∧ bt h (S 32 (v - 1000).toNat).toNat = true)
theorem RfO.mono {S : Mm} {h h' v : Int} (hh : ∀ i, bt h i = true → bt h' i = true) (x : RfO S h v) : RfO S h' v := fun q => by
  rcases x q with y | ⟨y, z⟩
  · exact Or.inl (hh _ y)
  · exact Or.inr ⟨y, hh _ z⟩
def RfE (S : Mm) (L : Nat → Option (Int × Int)) (m : Int) (t : List Nat) (v : Int) : Prop := v = 1000 + m ∨ (∃ c : Int, v = 1000 + c ∧ 0 ≤ c ∧ S 32 c.toNat = m) ∨ ∃ s ∈ t, ∃ b, L s = some (v, b)
theorem RfE.app {S : Mm} {L : Nat → Option (Int × Int)} {m : Int} {t t' : List Nat} {v : Int} (h : RfE S L m t' v) : RfE S L m (t ++ t') v := by
  rcases h with h | h | ⟨s, h1, h2⟩
  · exact Or.inl h
  · exact Or.inr (Or.inl h)
  · exact Or.inr (Or.inr ⟨s, List.mem_append_right _ h1, h2⟩)
theorem look_ref {S : Mm} {L : Nat → Option (Int × Int)} {m s : Int} {t : List Nat} {v : Int} (h : look L s = (t, some v)) : RfE S L m t v := by
  unfold look at h
  obtain ⟨rfl, h2⟩ := Prod.mk.inj h
  right; right
  cases e : L s.toNat with
  | none => rw [e] at h2; cases h2
  | some x =>
    obtain ⟨y, b⟩ := x
    rw [e] at h2
    have : y = v := by simpa using h2
    subst this
    exact ⟨s.toNat, List.mem_singleton.mpr rfl, b, e⟩
theorem lfV_ref {S : Mm} (hg : Okg S) (hN : Okn S) (L : Nat → Option (Int × Int)) {m : Int} (hm : 0 ≤ m ∧ m < S 0 35) {K a b : Int} {h : Nat} (hs : StepOk S K a b) (t : List Nat) (hv : 1000 ≤ lfV S m (S 31 m.toNat) h K a b) : RfE S L m t (lfV S m (S 31 m.toNat) h K a b) := by
  have hn := hN.2.2 m.toNat (by omega)
  have h1 := hg.1
  have hP := hg.2.2.2.1 _ hn.1.1 hn.1.2
  obtain ⟨k1, k2, k3⟩ := hs
  by_cases c5 : K = 5
  · left; unfold lfV; rw [c5]; rfl
  by_cases c6 : K = 6
  · right; left
    rcases chN_ok hg hN hm h b with c | ⟨x1, x2, x3⟩
    · exfalso
      have e : lfV S m (S 31 m.toNat) h K a b = -1 := by
        unfold lfV
        rw [c6, if_neg (by decide), if_neg (by decide), if_neg (by decide), if_neg (by decide), if_pos rfl, if_pos c]
      omega
    · refine ⟨chN S m (S 31 m.toNat) h b, ?_, by omega, x3⟩
      unfold lfV
      rw [c6, if_neg (by decide), if_neg (by decide), if_neg (by decide), if_neg (by decide), if_pos rfl, if_neg (by omega)]
  · exfalso
    unfold lfV at hv
    rw [if_neg (c := K = 5) c5, if_neg (c := K = 6) c6] at hv
    by_cases c0 : K = 0
    · rw [if_pos c0] at hv
      rw [if_neg (by omega), if_pos c0] at k2
      omega
    rw [if_neg c0] at hv
    by_cases c3 : K = 3
    · rw [if_pos c3] at hv
      rw [if_neg (by omega), if_neg c0, if_pos (Or.inl c3)] at k2
      split at hv
      · rename_i q
        have := (hP.2.2.2.2.2.2.2.1 a k2.1 q.2).2
        omega
      · exact absurd hv (by decide)
    rw [if_neg c3] at hv
    by_cases c4 : K = 4
    · rw [if_pos c4] at hv
      split at hv
      · have := jand_one (jshr (S 35 m.toNat) a)
        omega
      · exact absurd hv (by decide)
    rw [if_neg c4] at hv
    split at hv
    · have := hn.2.1
      omega
    · exact absurd hv (by decide)
theorem evo_ref {S : Mm} (hg : Okg S) (hO : Oke S) (hN : Okn S) {L : Nat → Option (Int × Int)} {m : Int} (hm : 0 ≤ m ∧ m < S 0 35) {h k : Nat} (hk : (k : Int) < S 0 19) : ∀ (f i : Nat), i < eN S k → ∀ t v, evo S L m (S 31 m.toNat) h k f i = (t, some v) → 1000 ≤ v → RfE S L m t v := by
  have hE := hO.2.1 k hk
  have hst := hE.2.2.2.2.2.1
  intro f
  induction f with
  | zero => intro i _ t v he; simp only [evo] at he; cases (Prod.mk.inj he).2
  | succ f ih =>
    intro i hi t v he hv
    have hs := hst i hi
    have hsub : ∀ j, j < tkn (eK S k i) → opr (eK S k) i j < eN S k := fun j hj => Nat.lt_trans (opr_lt hj hs.2) hi
    simp only [evo] at he
    by_cases c0 : tkn (eK S k i) = 0
    · rw [if_pos c0] at he
      by_cases c1 : lkS S m (S 31 m.toNat) h (eK S k i) (eA S k i) (eB S k i) 0 = -1
      · rw [if_pos c1] at he
        have := Option.some.inj (Prod.mk.inj he).2
        rw [← this] at hv ⊢
        exact lfV_ref hg hN L hm hs.1 t hv
      · rw [if_neg c1] at he
        exact look_ref he
    rw [if_neg c0] at he
    have hop0 := hsub 0 (by omega)
    generalize hr : evo S L m (S 31 m.toNat) h k f (opr (eK S k) i 0) = r at he
    obtain ⟨t0, o0⟩ := r
    cases o0 with
    | none => rw [bnd_none] at he; cases (Prod.mk.inj he).2
    | some v0 =>
      rw [bnd_some] at he
      obtain ⟨e1, e2⟩ := Prod.mk.inj he
      by_cases c1 : v0 < 0
      · rw [if_pos c1] at e2
        have := Option.some.inj e2
        omega
      rw [if_neg c1] at e1 e2
      by_cases c7 : eK S k i = 7
      · rw [if_pos c7] at e1 e2
        by_cases c8 : v0 < 1000
        · rw [if_pos c8] at e2
          have := Option.some.inj e2
          omega
        · rw [if_neg c8] at e1 e2
          rw [← e1]
          exact (look_ref (Prod.ext rfl e2)).app
      rw [if_neg c7] at e1 e2
      by_cases c13 : eK S k i = 13
      · rw [if_pos c13] at e1 e2
        have h3 : tkn (eK S k i) = 3 := by rw [c13]; rfl
        rw [← e1]
        exact (ih _ (hsub _ (by split <;> omega)) _ v (Prod.ext rfl e2) hv).app
      rw [if_neg c13] at e1 e2
      generalize hr1 : evo S L m (S 31 m.toNat) h k f (opr (eK S k) i 1) = r1 at e1 e2
      obtain ⟨t1, o1⟩ := r1
      cases o1 with
      | none => rw [bnd_none] at e2; cases e2
      | some w =>
        rw [bnd_some] at e2
        have e3 : (if w < 0 then w else jn (eK S k i) v0 w) = v := Option.some.inj e2
        by_cases cw : w < 0
        · rw [if_pos cw] at e3; omega
        · rw [if_neg cw] at e3
          have := jn_ok (K := eK S k i) (v := v0) (w := w) (by omega) (by omega)
          omega
theorem gthL_ref {S : Mm} {L : Nat → Option (Int × Int)} {n : Int} : ∀ (g : List (Nat × Nat)) (sum : Int), 0 ≤ sum ∧ sum < 1000 → ∀ t v, gthL S L n g sum = (t, some v) → v < 1000 := by
  intro g
  induction g with
  | nil =>
    intro sum hs t v he
    simp only [gthL] at he
    have := Option.some.inj (Prod.mk.inj he).2
    omega
  | cons x g ih =>
    obtain ⟨m, k⟩ := x
    intro sum hs t v he
    simp only [gthL] at he
    generalize evo S L m (S 31 m) 0 k 8 (rt1 S k) = r at he
    obtain ⟨t0, o0⟩ := r
    cases o0 with
    | none => rw [bnd_none] at he; cases (Prod.mk.inj he).2
    | some v0 =>
      rw [bnd_some] at he
      obtain ⟨-, e2⟩ := Prod.mk.inj he
      by_cases c1 : v0 = -2 ∨ v0 = -3
      · rw [if_pos c1] at e2
        have := Option.some.inj e2
        omega
      rw [if_neg c1] at e2
      by_cases c2 : v0 = 1000 + n
      · rw [if_pos c2] at e2
        generalize evo S L m (S 31 m) 0 k 8 (rt2 S k) = r at e2
        obtain ⟨t1, o1⟩ := r
        cases o1 with
        | none => rw [bnd_none] at e2; cases e2
        | some w =>
          rw [bnd_some] at e2
          by_cases c3 : w = -2 ∨ w = -3
          · rw [if_pos c3] at e2
            have := Option.some.inj e2
            omega
          rw [if_neg c3] at e2
          by_cases c4 : 0 ≤ w ∧ w < 1000
          · rw [if_pos c4, jrem_sum hs c4] at e2
            exact ih _ (by omega) _ _ (Prod.ext rfl e2)
          · rw [if_neg c4] at e2
            exact ih _ hs _ _ (Prod.ext rfl e2)
      · rw [if_neg c2] at e2
        exact ih _ hs _ _ (Prod.ext rfl e2)
theorem spc_ref {S : Mm} (hg : Okg S) (hO : Oke S) (hN : Okn S) {L : Nat → Option (Int × Int)} {n a : Int} (hn : 0 ≤ n ∧ n < S 0 35) {t : List Nat} {v : Int} (he : spc S L n a = (t, some v)) (hv : 1000 ≤ v) : S 12 a.toNat ≠ 2 ∧ (0 ≤ pm S n a ∧ pm S n a < S 0 35) ∧ RfE S L (pm S n a) t v := by
  unfold spc at he
  by_cases c2 : S 12 a.toNat = 2
  · rw [if_pos c2] at he
    have := gthL_ref _ _ ⟨by decide, by decide⟩ _ _ he
    omega
  rw [if_neg c2] at he
  by_cases cm : pm S n a = -1
  · rw [if_pos cm] at he
    have := Option.some.inj (Prod.mk.inj he).2
    omega
  rw [if_neg cm] at he
  have hm : 0 ≤ pm S n a ∧ pm S n a < S 0 35 := (pm_ok hN hn).resolve_left cm
  refine ⟨c2, hm, ?_⟩
  by_cases c3 : prs S n a = -3
  · rw [if_pos c3] at he
    have := Option.some.inj (Prod.mk.inj he).2
    omega
  rw [if_neg c3] at he
  by_cases c1 : prs S n a = -1
  · rw [if_pos c1] at he
    by_cases k1 : S 12 a.toNat = 1
    · rw [if_pos k1] at he
      exact look_ref he
    · rw [if_neg k1] at he
      have := Option.some.inj (Prod.mk.inj he).2
      omega
  rw [if_neg c1] at he
  rcases rsv_val S (S 31 (pm S n a).toNat) a (pt S n a) with q | q | ⟨e, e1, e2, e3, e4⟩
  · exact absurd q c1
  · exact absurd q c3
  · have ee : prs S n a = e := e1
    rw [ee, Int.toNat_natCast] at he
    have hE := hO.2.1 e e2
    have hw : wfK (eK S e) (eN S e) := ⟨by unfold eN; have := hE.2.2.2.1; omega, fun k hk => (hE.2.2.2.2.2.1 k hk).2⟩
    have hl := hE.2.2.2.2.2.2.1
    rw [e3, if_neg c2] at hl
    exact evo_ref hg hO hN hm e2 8 _ (roots1 hw hl).2.1 t v he hv
/-- what the findings tell beside their values: they are no RING ones, of nodes and attributes that there are -/
def OkF (S : Mm) (bv bh : Nat → Int) : Prop := ∀ s : Nat, s < 180 → bh s ≠ 0 → ((s / 6 : Nat) : Int) < S 0 35 ∧ ((s % 6 : Nat) : Int) < S 0 12 ∧ S 12 (s % 6) ≠ 3 ∧ bt (bh s) (s / 6) = true ∧ RfO S (bh s) (bv s)
theorem ob_mem {S : Mm} {L : Nat → Option (Int × Int)} (hL : ∀ s, HBt S ((L s).elim 0 (·.2))) : ∀ (t : List Nat) (b : Int), HBt S b → ∀ s ∈ t, ∀ i, bt ((L s).elim 0 (·.2)) i = true → bt (ob L b t) i = true := by
  intro t
  induction t with
  | nil => intro b _ s hs; cases hs
  | cons x t ih =>
    intro b hb s hs i hi
    have h1 := hb.or_ (hL x)
    show bt (ob L (jor b ((L x).elim 0 (·.2))) t) i = true
    rcases List.mem_cons.mp hs with q | q
    · subst q
      exact (ob_hb hL t _ h1.1).2 i (by rw [h1.2, hi, Bool.or_true])
    · exact ih _ h1.1 s q i hi
/-- a step keeps that, as long as no RING one is open -/
def IvF (S : Mm) (c : Cfg) : Prop := (∀ y ∈ c.1, S 12 (y % 6).toNat ≠ 3) ∧ OkF S c.2.1 c.2.2.1
theorem IvF.crs_ {S : Mm} (hg : Okg S) (hO : Oke S) (hN : Okn S) {rg : Nat → Int} {s : Int} {rest : List Int} {bv bh : Nat → Int} {lf : List Int} {kk : Nat} (hOp : OpV S (s :: rest)) (hbd : BdO S rg bv bh) (hbh : BdH S bh) (hx : OpV S (crs S rg (s :: rest, bv, bh, lf, kk)).1) (ht : (spc S (Lk S rg bv bh (s :: rest)) (s / 6) (s % 6)).2 = none → ∃ (t : List Nat) (x : Nat), (spc S (Lk S rg bv bh (s :: rest)) (s / 6) (s % 6)).1 = t ++ [x] ∧ Lk S rg bv bh (s :: rest) x = none) (hi : IvF S (s :: rest, bv, bh, lf, kk)) : IvF S (crs S rg (s :: rest, bv, bh, lf, kk)) := by
  have h35 := hN.1
  have h12 := hg.2.1
  obtain ⟨i1, i2⟩ := hi
  simp only at i1 i2
  have hs := hOp.2 s (List.mem_cons_self ..)
  have hn : 0 ≤ s / 6 ∧ s / 6 < S 0 35 := ⟨by omega, hs.2.1⟩
  cases ho : (spc S (Lk S rg bv bh (s :: rest)) (s / 6) (s % 6)).2 with
  | none =>
    obtain ⟨t, x, y1, y2⟩ := ht ho
    have hcrs : crs S rg (s :: rest, bv, bh, lf, kk) = ((x : Int) :: s :: rest, bv, bh, lf, kk) := by
      unfold crs
      simp only [ho]
      rw [y1]
      simp
      rfl
    rw [hcrs] at hx ⊢
    have hxv := hx.2 x (List.mem_cons_self ..)
    rw [Lk_in (by omega)] at y2
    refine ⟨fun y hy => ?_, i2⟩
    rcases List.mem_cons.mp hy with q | q
    · subst q
      intro k3
      have : S 12 (x % 6) = 3 := by rw [← k3]; congr 1
      rw [if_pos this] at y2
      cases y2
    · exact i1 y q
  | some v =>
    have hks := i1 s (List.mem_cons_self ..)
    have hL := Lk_hb hbh (rg := rg) (bv := bv) (op := s :: rest)
    generalize hT : (spc S (Lk S rg bv bh (s :: rest)) (s / 6) (s % 6)).1 = tt
    have hsp : spc S (Lk S rg bv bh (s :: rest)) (s / 6) (s % 6) = (tt, some v) := Prod.ext hT ho
    have hh := hgs_hb (S := S) hN hL (n := s / 6) (a := s % 6) hn tt v
    unfold crs
    simp only [ho]
    rw [hT]
    refine ⟨fun y hy => i1 y (List.mem_cons_of_mem _ hy), fun j hj hne => ?_⟩
    simp only at hne ⊢
    by_cases cj : j = s.toNat
    · subst cj
      have x1 : s.toNat / 6 = (s / 6).toNat := by omega
      have x2 : s.toNat % 6 = (s % 6).toNat := by omega
      rw [se_at, se_at, x1, x2]
      refine ⟨by omega, by omega, hks, hh.2.1, fun hv => ?_⟩
      obtain ⟨z1, z2, z3⟩ := spc_ref hg hO hN hn hsp hv
      have h0 := h0_hb (a := s % 6) hN hn
      have hob := ob_hb hL tt _ h0.1
      have hpm : bt (h0_ S (s / 6) (s % 6)) (pm S (s / 6) (s % 6)).toNat = true := by
        by_cases k1 : S 12 (s % 6).toNat = 1
        · unfold h0_
          rw [if_neg z1, if_pos k1]
          have em : pm S (s / 6) (s % 6) = S 32 (s / 6).toNat := by unfold pm; rw [if_pos k1]
          rw [em] at z2 ⊢
          have q1 := HBt.bit h35.2 (n := s / 6) (Or.inr hn)
          have q2 := HBt.bit h35.2 (n := S 32 (s / 6).toNat) (Or.inr z2)
          rw [(q1.or_ q2).2, (bitC_ok (n := S 32 (s / 6).toNat) (Or.inr ⟨z2.1, by omega⟩)).2, decide_eq_true (by omega), Bool.or_true]
        · have em : pm S (s / 6) (s % 6) = s / 6 := by unfold pm; rw [if_neg k1]
          rw [em]; exact h0.2
      have hpm2 := hh.2.2 _ (hob.2 _ hpm)
      rcases z3 with q | ⟨c, q1, q2, q3⟩ | ⟨x, q1, b, q2⟩
      · left
        have e : v - 1000 = pm S (s / 6) (s % 6) := by omega
        rw [e]
        exact hpm2
      · right
        have e : v - 1000 = c := by omega
        rw [e, q3]
        exact ⟨z2.1, hpm2⟩
      · have hmem : ∀ i, bt b i = true → bt (hgs S (Lk S rg bv bh (s :: rest)) (s / 6) (s % 6) tt v) i = true := fun i hi => hh.2.2 i (ob_mem hL tt _ h0.1 x q1 i (by rw [q2]; exact hi))
        have hRf : RfO S b v := by
          unfold Lk at q2
          by_cases d0 : 180 ≤ x
          · rw [if_pos d0] at q2; cases q2
          rw [if_neg d0] at q2
          by_cases d1 : S 12 (x % 6) = 3
          · rw [if_pos d1] at q2
            have := (Prod.mk.inj (Option.some.inj q2)).1
            have hr := hbd.1 x (by omega)
            omega
          rw [if_neg d1] at q2
          by_cases d2 : bh x ≠ 0
          · rw [if_pos d2] at q2
            obtain ⟨w1, w2⟩ := Prod.mk.inj (Option.some.inj q2)
            rw [← w1, ← w2]
            exact (i2 x (by omega) d2).2.2.2.2
          rw [if_neg d2] at q2
          split at q2
          · have := (Prod.mk.inj (Option.some.inj q2)).1
            omega
          · cases q2
        exact (hRf.mono hmem) hv
    · rw [se_ne _ _ cj] at hne ⊢
      rw [se_ne _ _ cj]
      exact i2 j hj hne
