/-! at what an attribute looks -/
theorem jqM_jn (A M : Mm) : jqM (jnM A M) M = jnM A M := by
  funext k
  unfold jqM jnM
  by_cases c : k < 686
  · rw [if_pos c]
  · rw [if_neg c, if_neg (by omega)]
theorem ClqS {α : Type} {v : Int} {M' M : Mm} {k : Int → Mm → Option α} : Clq (some (v, M')) M k = k v (jqM M' M) := Eq.trans rfl rfl
theorem LSt.on {RG : Mm → Nat → Int} {M S N : Mm} (h : LSt RG M S) (e : ∀ k, k < 685 → N k = M k) : LSt RG N S := by
  obtain ⟨h1, h2, h3⟩ := h
  refine ⟨h1.ext fun k hk => e k (by omega), h2.q (AgQ.refl S) (fun k _ hk => e k (by omega)) (by rw [e 273 (by decide)]), by rw [e 283 (by decide)]; exact h3⟩
theorem enc_inj {x y : Int} (h : enc x = enc y) (hx : 0 ≤ x) (hy : 0 ≤ y) : x = y := by unfold enc at h; omega
theorem getD_mem {l : List Int} {i : Nat} (h : i < l.length) : l.getD i 0 ∈ l := by
  rw [List.getD_eq_getElem?_getD, List.getElem?_eq_getElem h]
  exact List.getElem_mem _
theorem nodup_lt : ∀ (l : List Int), l.Nodup → ∀ i j, i < j → j < l.length → l.getD i 0 ≠ l.getD j 0 := by
  intro l
  induction l with
  | nil => exact fun _ i j _ hj => absurd hj (Nat.not_lt_zero _)
  | cons x r ih =>
    intro h i j hij hj
    have hc := List.nodup_cons.mp h
    have hj' : j < r.length + 1 := hj
    match i, j, hij, hj' with
    | 0, j + 1, _, hj' =>
      show x ≠ r.getD j 0
      intro e
      exact hc.1 (by rw [e]; exact getD_mem (by omega))
    | i + 1, j + 1, hij, hj' =>
      show r.getD i 0 ≠ r.getD j 0
      exact ih hc.2 i j (by omega) (by omega)
theorem nodup_getD {l : List Int} (h : l.Nodup) {i j : Nat} (hi : i < l.length) (hj : j < l.length) (e : l.getD i 0 = l.getD j 0) : i = j := by
  rcases Nat.lt_trichotomy i j with c | c | c
  · exact absurd e (nodup_lt l h i j c hj)
  · exact c
  · exact absurd e.symm (nodup_lt l h j i c hi)
/-- one question -/
theorem L_why {RG : Mm → Nat → Int} (hRG : RGok RG) (hRs : RGs RG) {M S : Mm} (h : LSt RG M S) {n a : Int} (hn : 0 ≤ n ∧ n < S 0 35) (ha : 0 ≤ a ∧ a < S 0 12) (w : Int) : ∃ N S', (∀ K : Int → Mm → Rs, Clq (f_L_does 13 n a w 0 0 M) M K = K (if 0 ≤ w ∧ w < ((dd (Rd S (RG S) (6 * n + a).toNat)).length : Int) then enc ((dd (Rd S (RG S) (6 * n + a).toNat)).getD w.toNat 0) else -3000000) N) ∧ LSt RG N S' ∧ AgQ S S' ∧ (∀ k, 681 ≤ k → N k = M k) ∧ N 299 = M 299 ∧ N 301 = M 301 := by
  obtain ⟨lf, -, -, e, hw⟩ := t_why hRG hRs h.1.1 hn ha
  obtain ⟨M', S', f1, f2, f3, f4⟩ := hw w
  rw [← e]
  refine ⟨jnM M' M, S', fun K => ?_, h.q f2 f3 (f4 273 (by decide)) (f4 283 (by decide)), f3, fun k hk => jnM_hi hk, by rw [jnM_lo (by decide), f4 299 (by decide)], by rw [jnM_lo (by decide), f4 301 (by decide)]⟩
  rw [does_13, f1]
  by_cases c1 : w < 0
  · rw [if_pos c1, if_neg (by omega), CltS, if_neg (by decide), ClqS, jqM_jn]; rfl
  · rw [if_neg c1]
    by_cases c2 : w < (lf.length : Int)
    · rw [if_pos c2, if_pos (by omega), CltS, if_pos rfl, ClqS, jqM_jn]
    · rw [if_neg c2, if_neg (by omega), CltS, if_neg (by decide), ClqS, jqM_jn]; rfl
theorem L_areReads {RG : Mm → Nat → Int} (hRG : RGok RG) (hRs : RGs RG) {M S : Mm} {b : Int} (h : LI RG M S b) {n a : Int} (hn : 0 ≤ n ∧ n < S 0 35) (ha : 0 ≤ a ∧ a < S 0 12) : ∃ M' S', f_L_areReads n a M = some (1, M') ∧ LI RG M' S' b := by
  obtain ⟨hci, hLM, h6, hB⟩ := id h
  obtain ⟨⟨p1, p2, p3, p4, p5⟩, ⟨q1, q2, q3, q4, q5⟩, -, -, -⟩ := hci.1.1.1
  obtain ⟨⟨l1, l2, l3, l4, l5⟩, -, -, l9, -⟩ := id hLM
  have h12 := p1.2.1
  have h35 := p5.1
  have g1 : (0 : Nat) ≤ 1 ∧ (1 : Nat) < 11 := by decide
  have g4 : (0 : Nat) ≤ 4 ∧ (4 : Nat) < 11 := by decide
  have g6 : (0 : Nat) ≤ 6 ∧ (6 : Nat) < 11 := by decide
  have hs180 : (6 * n + a).toNat < 180 := by omega
  obtain ⟨lf, w1, w2, w3, -⟩ := t_why hRG hRs hci.1 hn ha
  have hmem : ∀ x ∈ lf, (0 ≤ x ∧ x < 180) ∧ (x / 6 < S 0 35 ∧ x % 6 < S 0 12) ∧ x.toNat ∈ Rd S (RG S) (6 * n + a).toNat := fun x hx => by
    have y1 := w1.2 x hx
    have y2 := (w2 x hx).2
    unfold SlV at y2
    rw [w3] at hx
    obtain ⟨s, s1, s2⟩ := dd_mem.mp hx
    refine ⟨y1, by omega, ?_⟩
    rw [s2, Int.toNat_natCast]; exact s1
  -- a kept one has its reads kept
  have hkept : M 301 (6 * n + a).toNat ≠ 0 → ∀ x ∈ lf, S 12 (x % 6).toNat = 3 ∨ M 301 x.toNat ≠ 0 := fun hk x hx => by
    obtain ⟨y1, y2, y3⟩ := hmem x hx
    have z := ((hci.1.2 _ hs180 hk).2.2.1 x.toNat y3).2
    have e : x.toNat % 6 = (x % 6).toNat := by omega
    rw [e] at z
    rcases z with q | q | q
    · exact Or.inl q
    · exact Or.inr q
    · cases q
  have hls : LSt RG M S := ⟨hci, hLM, hB.2.2.2⟩
  have K0 := n_isKept hci.1.1 hn ha
  generalize hκ : (if M 301 (6 * n + a).toNat = 0 then (0 : Int) else 1) = κ at K0
  have hκ1 : κ ≠ 0 → M 301 (6 * n + a).toNat ≠ 0 := fun q w => by rw [if_pos w] at hκ; exact q hκ.symm
  -- the loop
  have key : ∀ (d j F : Nat), j + d = 4 → d < F → ∀ (Mj Sj : Mm) (told : Int), LSt RG Mj Sj → AgQ S Sj → (∀ k, 681 ≤ k → k ≤ 684 → Mj k = M k) → Mj 299 = M 299 → Mj 301 = M 301 → (∀ i, i < j → Mj 686 i = enc (lf.getD i 0)) → (told < 0 ∨ (j ≤ 3 ∧ j < lf.length ∧ told = enc (lf.getD j 0))) → j ≤ lf.length →
      ∃ N S', (∀ J : Int → Mm → Rs, Lp (f_L_areReads_L34_89 n a κ J) F (1, (j : Int), told, Mj) = J 1 N) ∧ LSt RG N S' ∧ AgQ S S' ∧ (∀ k, 681 ≤ k → k ≤ 684 → N k = M k) ∧ N 299 = M 299 ∧ N 301 = M 301 := by
    intro d
    induction d with
    | zero =>
      intro j F hj hF Mj Sj told x1 x2 x3 x4 x5 x6 x7 x8
      obtain ⟨G, rfl⟩ : ∃ G, F = G + 1 := ⟨F - 1, by omega⟩
      refine ⟨Mj, Sj, fun J => ?_, x1, x2, x3, x4, x5⟩
      rw [Lp_s]
      simp only [f_L_areReads_L34_89, LtE]
      rw [if_pos (by omega)]
    | succ d ih =>
      intro j F hj hF Mj Sj told x1 x2 x3 x4 x5 x6 x7 x8
      obtain ⟨G, rfl⟩ : ∃ G, F = G + 1 := ⟨F - 1, by omega⟩
      by_cases ct : told < 0
      · refine ⟨Mj, Sj, fun J => ?_, x1, x2, x3, x4, x5⟩
        rw [Lp_s]
        simp only [f_L_areReads_L34_89, LtE]
        rw [if_pos ct]
      obtain ⟨t1, t2, t3⟩ := x7.resolve_left ct
      generalize hx : lf.getD j 0 = x at t3
      have hxm : x ∈ lf := by rw [← hx]; exact getD_mem t2
      obtain ⟨y1, y2, y3⟩ := hmem x hxm
      have s35 : Sj 0 35 = S 0 35 := x2.2 35 (by simp)
      have s12 : Sj 0 12 = S 0 12 := x2.2 12 (by simp)
      have he : (0 ≤ told ∧ told < 1000) ∧ told / 10 = x / 6 ∧ told % 10 = x % 6 := by unfold enc at t3; omega
      have e10 := jremE (x := told) (k := 10) he.1.1 (by omega) (by decide) (by decide)
      rw [he.2.1, he.2.2] at e10
      -- the same was not told ahead
      have hin : ∀ J : Int → Int → Int → Mm → Rs, Lp (f_L_areReads_L109_67 J) FU (1, (j : Int), told, 0, Mj) = J 1 (j : Int) told Mj := fun J => by
        refine Lp_for j (fun i => ((1 : Int), (j : Int), told, (i : Int), Mj)) (fun rc i hi => ?_) (fun rc => ?_) (FU_lt (by omega)) rfl
        · have hne : Mj 686 i ≠ told := fun q => by
            rw [x6 i hi, t3] at q
            have hm := (hmem _ (getD_mem (l := lf) (i := i) (by omega))).1
            have := enc_inj q hm.1 y1.1
            have := nodup_getD w1.1 (by omega) t2 (this.trans hx.symm)
            omega
          simp only [f_L_areReads_L109_67, LtE]
          rw [if_neg (by omega), if_neg (by decide), gdE (by omega), Int.toNat_natCast, if_neg hne, wrE (by omega) (by omega)]
          rfl
        · simp only [f_L_areReads_L109_67, LtE]
          rw [if_pos (by omega)]
      generalize hM1 : up Mj 686 j told = M1
      have m1 : ∀ k, k ≠ 686 → M1 k = Mj k := fun k hk => by rw [← hM1, up_ne _ _ _ hk]
      have m686 : ∀ i, i < j + 1 → M1 686 i = enc (lf.getD i 0) := fun i hi => by
        rw [← hM1]
        by_cases c : i = j
        · subst c; rw [up_at, t3, hx]
        · have : up Mj 686 j told 686 i = Mj 686 i := up_off c
          rw [this]; exact x6 i (by omega)
      have z1 : LSt RG M1 Sj := x1.on fun k hk => m1 k (by omega)
      -- what follows
      have hnext : ∃ N2 S2 t2, (∀ K : Int → Mm → Rs, (if (j : Int) + 1 ≤ 3 then Clq (f_L_does 13 n a ((j : Int) + 1) 0 0 M1) M1 fun v49 M48 => K v49 M48 else K (-1) M1) = K t2 N2) ∧ LSt RG N2 S2 ∧ AgQ S S2 ∧ (∀ k, 681 ≤ k → k ≤ 684 → N2 k = M k) ∧ N2 299 = M 299 ∧ N2 301 = M 301 ∧ (∀ i, i < j + 1 → N2 686 i = enc (lf.getD i 0)) ∧ (t2 < 0 ∨ (j + 1 ≤ 3 ∧ j + 1 < lf.length ∧ t2 = enc (lf.getD (j + 1) 0))) := by
        by_cases c3 : (j : Int) + 1 ≤ 3
        · obtain ⟨N2, S2, k1, k2, k3, k4, k5, k6⟩ := L_why hRG hRs z1 (n := n) (a := a) (by rw [s35]; exact hn) (by rw [s12]; exact ha) ((j : Int) + 1)
          have ed : dd (Rd Sj (RG Sj) (6 * n + a).toNat) = lf := by rw [RG_q hRG x2, Rd_q x2, w3]
          rw [ed] at k1
          refine ⟨N2, S2, _, fun K => by rw [if_pos c3, k1], k2, x2.trans k3, fun k a1 a2 => by rw [k4 k a1, m1 k (by omega), x3 k a1 a2], by rw [k5, m1 299 (by decide), x4], by rw [k6, m1 301 (by decide), x5], fun i hi => by rw [k4 686 (by decide)]; exact m686 i hi, ?_⟩
          by_cases c4 : (j : Int) + 1 < (lf.length : Int)
          · right
            rw [if_pos ⟨by omega, c4⟩]
            exact ⟨by omega, by omega, by rw [show ((j : Int) + 1).toNat = j + 1 by omega]⟩
          · left
            rw [if_neg (fun q => c4 q.2)]
            decide
        · exact ⟨M1, Sj, -1, fun K => by rw [if_neg c3], z1, x2, fun k a1 a2 => by rw [m1 k (by omega), x3 k a1 a2], by rw [m1 299 (by decide), x4], by rw [m1 301 (by decide), x5], m686, Or.inl (by decide)⟩
      obtain ⟨N2, S2, tt, u1, u2, u3, u4, u5, u6, u7, u8⟩ := hnext
      obtain ⟨N, S', v1, v2, v3, v4, v5, v6⟩ := ih (j + 1) G (by omega) (by omega) N2 S2 tt u2 u3 u4 u5 u6 u7 u8 (by omega)
      refine ⟨N, S', fun J => ?_, v2, v3, v4, v5, v6⟩
      have x684 : Mj 684 = M 684 := x3 684 (by decide) (by decide)
      have hxk := n_isKept x1.1.1.1 (n := x / 6) (a := x % 6) (by omega) (by omega)
      rw [x5, show 6 * (x / 6) + x % 6 = x by omega] at hxk
      have hkd : Mj 683 (x % 6).toNat = S 12 (x % 6).toNat := by rw [x3 683 (by decide) (by decide)]; exact l9 _ (tn_lt (by omega) y2.2)
      have hv := v1 J
      rw [show ((j + 1 : Nat) : Int) = (j : Int) + 1 by omega] at hv
      have hu := u1 fun v48 M48 => Lp (f_L_areReads_L34_89 n a κ J) G (1, (j : Int) + 1, v48, M48)
      rw [Lp_s]
      simp only [f_L_areReads_L34_89, LtE, gdE g4, gdE g1]
      rw [if_neg ct, if_neg (c := (1 : Int) = 0) (by decide), e10.2, e10.1, x684, l5, if_neg (c := S 0 35 ≤ x / 6) (by omega), l2, if_neg (c := S 0 12 ≤ x % 6) (by omega), gdE (by omega), hkd, hin, gdE (by omega), Int.toNat_natCast, hM1, wrE (v := (j : Int) + 1) (by omega) (by omega)]
      by_cases cκ : κ = 0
      · rw [if_pos cκ, hu, hv]
      · rw [if_neg cκ]
        by_cases c3 : S 12 (x % 6).toNat = 3
        · rw [if_pos c3, hu, hv]
        · have hk1 : ¬ M 301 x.toNat = 0 := (hkept (hκ1 cκ) x hxm).resolve_left c3
          rw [if_neg hk1] at hxk
          rw [if_neg c3, hxk, CljS, jnM_self, if_neg (by decide), hin, gdE (by omega), Int.toNat_natCast, hM1, wrE (v := (j : Int) + 1) (by omega) (by omega), hu, hv]
  -- all of it
  have z0 : LSt RG (z686 M) S := hls.on fun k hk => if_neg (by omega)
  have zk : ∀ k, k ≠ 686 → z686 M k = M k := fun k hk => if_neg hk
  obtain ⟨N0, S0, a1, a2, a3, a4, a5, a6⟩ := L_why hRG hRs z0 hn ha 0
  rw [← w3] at a1
  obtain ⟨N1, S1, b1, b2, b3, b4, b5, b6⟩ := key 4 0 5 rfl (by decide) N0 S0 a2 a3 (fun k k1 k2 => by rw [a4 k k1, zk k (by omega)]) (by rw [a5, zk 299 (by decide)]) (by rw [a6, zk 301 (by decide)]) (fun i hi => absurd hi (Nat.not_lt_zero _)) (told := if 0 ≤ (0 : Int) ∧ (0 : Int) < (lf.length : Int) then enc (lf.getD (0 : Int).toNat 0) else -3000000) (by
    by_cases c : 0 < (lf.length : Int)
    · right
      rw [if_pos ⟨by decide, c⟩]
      exact ⟨by decide, by omega, rfl⟩
    · left
      rw [if_neg (fun q => c q.2)]
      decide) (Nat.zero_le _)
  have t35 : S1 0 35 = S 0 35 := b3.2 35 (by simp)
  have t12 : S1 0 12 = S 0 12 := b3.2 12 (by simp)
  obtain ⟨N2, S2, c1, c2, c3, c4, c5, c6⟩ := L_why hRG hRs b2 (n := n) (a := a) (by rw [t35]; exact hn) (by rw [t12]; exact ha) (-1)
  refine ⟨N2, S2, ?_, c2.1, c2.2.1, ?_, ?_⟩
  · unfold f_L_areReads
    simp only [LtE, gdE g6]
    rw [K0, CljS, jnM_self, a1]
    have hb := b1 fun v6 M7 => if v6 = 0 then some (0, M7) else Clj (f_X11_found M7) M7 fun v16 M15 => if ¬ v16 = M15 684 6 then some (0, M15) else Clq (f_L_does 13 n a (-1) 0 0 M15) M15 fun v20 M19 => if ¬ v20 = -3000000 then some (0, M19) else some (1, M19)
    refine hb.trans ?_
    rw [if_neg (by decide), t_found, CljS, jnM_self, b4 684 (by decide) (by decide), b5, h6, if_neg (fun q => q rfl), c1, if_neg (c := (0 : Int) ≤ -1 ∧ _) (fun q => absurd q.1 (by decide)), if_neg (fun q => q rfl)]
  · rw [c4 684 (by decide), b4 684 (by decide) (by decide), c5, b5]; exact h6
  · unfold LB
    rw [c5, b5, c4 684 (by decide), b4 684 (by decide) (by decide)]
    exact ⟨hB.1, hB.2.1, hB.2.2.1, c2.2.2⟩
