/-! the tree: nodes in their order -/
theorem n_mustNode {M S : Mm} (hN : CN M S) {a : Int} (ha : 0 ≤ a ∧ a < S 0 35) : f_N11_mustBeNode a M = some (0, M) := by
  unfold f_N11_mustBeNode
  simp only [LtE]
  rw [hN.1, if_neg (by omega), if_pos ha.2]
theorem n_node {RG : Mm → Nat → Int} {M S : Mm} (h : Inv RG M S 0) {n : Nat} (hn : (n : Int) < S 0 35) : f_N11_node (n : Int) M = some (1000 * (S 32 n + 1) + 10 * S 30 n + S 4 (S 30 n).toNat, M) := by
  obtain ⟨⟨⟨p1, p2, p3, p4, p5⟩, ⟨q1, q2, q3, q4, q5⟩, q6, q7, p6⟩, hV, hR, hB⟩ := id h
  have hN := p5.1
  have h10 := p1.1
  have ho := p5.2.2 n hn
  have hc := q5.2.2 n hn
  have h4 := chl_le p1 ho.1
  have h30 := ho.1
  have hpar : -1 ≤ S 32 n ∧ S 32 n < 30 := by
    by_cases e : n = 0
    · have := (ho.2.2.2.2.2.1 e).1; omega
    · have := ho.2.2.2.2.2.2.1 (by omega); omega
  unfold f_N11_node
  rw [n_mustNode q5 ⟨by omega, hn⟩, ClS, c8_readAsOf, ClS, c8_parentOf, ClS, if_pos (by omega), if_pos (by omega), Int.toNat_natCast, hc.1, hc.2.2.1, g_childCount q1 p1 ho.1]
  simp only [LtE, ClS]
  simp (disch := omega) only [wrE]
theorem nd_parts {S : Mm} (hg : Okg S) (hN : Okn S) {n : Nat} (hn : (n : Int) < S 0 35) : jrem (1000 * (S 32 n + 1) + 10 * S 30 n + S 4 (S 30 n).toNat) 10 = S 4 (S 30 n).toNat ∧ wr (wr (Int.tdiv (1000 * (S 32 n + 1) + 10 * S 30 n + S 4 (S 30 n).toNat) 1000) - 1) = S 32 n ∧ jrem (wr (Int.tdiv (1000 * (S 32 n + 1) + 10 * S 30 n + S 4 (S 30 n).toNat) 10)) 100 = S 30 n ∧ (0 ≤ S 4 (S 30 n).toNat ∧ S 4 (S 30 n).toNat ≤ 3) ∧ (-1 ≤ S 32 n ∧ S 32 n < 30) := by
  have h35 := hN.1
  have h10 := hg.1
  have ho := hN.2.2 n hn
  have h30 := ho.1
  have h4 := (hg.2.2.2.1 _ h30.1 h30.2)
  have h42 := h4.2.2.2.2.1
  have h43 := h4.2.1
  have hpar : -1 ≤ S 32 n ∧ S 32 n < 30 := by
    by_cases e : n = 0
    · have := (ho.2.2.2.2.2.1 e).1; omega
    · have := ho.2.2.2.2.2.2.1 (by omega); omega
  generalize S 4 (S 30 n).toNat = x at *
  generalize S 32 n = y at *
  generalize S 30 n = z at *
  have e1 := jremE (x := 1000 * (y + 1) + 10 * z + x) (k := 10) (by omega) (by omega) (by decide) (by decide)
  have e2 := jremE (x := 1000 * (y + 1) + 10 * z + x) (k := 1000) (by omega) (by omega) (by decide) (by decide)
  have e3 := jremE (x := (1000 * (y + 1) + 10 * z + x) / 10) (k := 100) (by omega) (by omega) (by decide) (by decide)
  rw [e1.1, e1.2, e2.2, e3.1, wrE (by omega) (by omega)]
  refine ⟨by omega, by omega, by omega, by omega, hpar⟩
/-- one child: is it visited -/
def v1 (S : Mm) (k q c : Nat) : Int := if (c : Int) < S 4 (S 30 q).toNat ∧ S 34 (3 * q + c) < (k : Int) then 1 else 0
def Uv (S : Mm) (k q : Nat) : Int := v1 S k q 0 + v1 S k q 1 + v1 S k q 2
theorem v1_bd (S : Mm) (k q c : Nat) : 0 ≤ v1 S k q c ∧ v1 S k q c ≤ 1 := by unfold v1; split <;> omega
theorem Uv_zero {S : Mm} (hN : Okn S) {k q : Nat} (hq : (q : Int) < S 0 35) (hk : k ≤ q + 1) : Uv S k q = 0 := by
  have ho := (hN.2.2 q hq).2.2.2.2.2.2.2
  have z : ∀ c : Nat, v1 S k q c = 0 := fun c => by
    unfold v1
    rw [if_neg]
    rintro ⟨a, b⟩
    have := (ho c a).1
    omega
  unfold Uv
  rw [z, z, z]; rfl
theorem Uv_all {S : Mm} (hg : Okg S) (hN : Okn S) {k q : Nat} (hq : (q : Int) < S 0 35) (h : ∀ c : Nat, (c : Int) < S 4 (S 30 q).toNat → S 34 (3 * q + c) < (k : Int)) : Uv S k q = S 4 (S 30 q).toNat := by
  have hb := (nd_parts hg hN hq).2.2.2.1
  have z : ∀ c : Nat, v1 S k q c = if (c : Int) < S 4 (S 30 q).toNat then 1 else 0 := fun c => by
    unfold v1
    by_cases d : (c : Int) < S 4 (S 30 q).toNat
    · rw [if_pos ⟨d, h c d⟩, if_pos d]
    · rw [if_neg (fun w => d w.1), if_neg d]
  unfold Uv
  rw [z, z, z]
  generalize S 4 (S 30 q).toNat = x at *
  repeat' split
  all_goals omega
/-- the parent of a node waits for its place -/
theorem Uv_place {S : Mm} (hg : Okg S) (hN : Okn S) {n : Nat} (hn : (n : Int) < S 0 35) (h0 : 0 < n) : Uv S n (S 32 n).toNat = S 33 n := by
  have h7 := (hN.2.2 n hn).2.2.2.2.2.2.1 h0
  have hP := hN.2.1.2
  obtain ⟨q, hq⟩ : ∃ q : Nat, S 32 n = (q : Int) := ⟨(S 32 n).toNat, by omega⟩
  obtain ⟨pl, hpl⟩ : ∃ p : Nat, S 33 n = (p : Int) := ⟨(S 33 n).toNat, by omega⟩
  rw [hq, Int.toNat_natCast, hpl]
  rw [hq, hpl, Int.toNat_natCast] at h7
  have hb := (nd_parts hg hN (n := q) (by omega)).2.2.2.1
  have hch := (hN.2.2 q (by omega)).2.2.2.2.2.2.2
  have e34 : S 34 (3 * q + pl) = (n : Int) := by
    have := h7.2.2.2.2
    rw [show (3 * (q : Int) + (pl : Int)).toNat = 3 * q + pl by omega] at this
    exact this
  have z : ∀ c : Nat, v1 S n q c = if c < pl then 1 else 0 := fun c => by
    unfold v1
    by_cases d : c < pl
    · have hv : S 34 (3 * q + c) < (n : Int) := Classical.byContradiction fun w => by
        rcases hP n q c hn h0 (by omega) (by omega) (by omega) with u | u <;> omega
      rw [if_pos d, if_pos ⟨by omega, hv⟩]
    · rw [if_neg d, if_neg]
      rintro ⟨a, b⟩
      by_cases e : c = pl
      · rw [e, e34] at b; omega
      · have hc := hch c a
        obtain ⟨m, hm⟩ : ∃ m : Nat, S 34 (3 * q + c) = (m : Int) := ⟨(S 34 (3 * q + c)).toNat, by omega⟩
        rw [hm, Int.toNat_natCast] at hc
        rw [hm] at b
        rcases hP m q pl (by omega) (by omega) (by omega) (by omega) (by omega) with u | u <;> omega
  unfold Uv
  rw [z, z, z]
  repeat' split
  all_goals omega
/-- one node more -/
theorem Uv_succ {S : Mm} (hg : Okg S) (hN : Okn S) {n : Nat} (hn : (n : Int) < S 0 35) (h0 : 0 < n) {q : Nat} (hq : (q : Int) < S 0 35) : Uv S (n + 1) q = Uv S n q + (if (q : Int) = S 32 n then 1 else 0) := by
  have h7 := (hN.2.2 n hn).2.2.2.2.2.2.1 h0
  have hch := (hN.2.2 q hq).2.2.2.2.2.2.2
  have hb := (nd_parts hg hN (n := q) hq).2.2.2.1
  have hst : ∀ c : Nat, v1 S (n + 1) q c = v1 S n q c + (if (q : Int) = S 32 n ∧ (c : Int) = S 33 n then 1 else 0) := fun c => by
    unfold v1
    by_cases a : (c : Int) < S 4 (S 30 q).toNat
    · have hc := hch c a
      by_cases e : (q : Int) = S 32 n ∧ (c : Int) = S 33 n
      · have := h7.2.2.2.2
        rw [← e.1, ← e.2, show (3 * (q : Int) + (c : Int)).toNat = 3 * q + c by omega] at this
        rw [if_pos e, if_pos ⟨a, by omega⟩, if_neg (fun w => by have := w.2; omega)]; rfl
      · rw [if_neg e]
        have hne : S 34 (3 * q + c) ≠ (n : Int) := fun w => by
          rw [w, Int.toNat_natCast] at hc
          exact e ⟨hc.2.2.1.symm, hc.2.2.2.symm⟩
        by_cases d : S 34 (3 * q + c) < (n : Int)
        · rw [if_pos ⟨a, by omega⟩, if_pos ⟨a, d⟩]; rfl
        · rw [if_neg (fun w => by have := w.2; omega), if_neg (fun w => d w.2)]; rfl
    · rw [if_neg (fun w => a w.1), if_neg (fun w => a w.1), if_neg]
      · rfl
      · rintro ⟨e1, e2⟩
        rw [← e1, Int.toNat_natCast, ← e2] at h7
        exact a h7.2.2.2.1
  unfold Uv
  rw [hst, hst, hst]
  by_cases e : (q : Int) = S 32 n
  · rw [if_pos e]
    have h4 := h7.2.2.2.1
    rw [← e, Int.toNat_natCast] at h4
    have h33 : S 33 n = 0 ∨ S 33 n = 1 ∨ S 33 n = 2 := by omega
    rcases h33 with w | w | w <;> rw [w] <;> simp [e] <;> omega
  · rw [if_neg e, if_neg (fun w => e w.1), if_neg (fun w => e w.1), if_neg (fun w => e w.1)]
    omega
/-- memories that differ in the law's scratch row -/
theorem LI.scr {RG : Mm → Nat → Int} {M S N : Mm} {b : Int} (h : LI RG M S b) (e : ∀ k, k ≠ 685 → N k = M k) : LI RG N S b := by
  obtain ⟨h1, h2, h3, h4⟩ := h
  refine ⟨h1.ext fun k hk => e k (by omega), h2.q (AgQ.refl S) (fun k _ hk => e k (by omega)) (by rw [e 273 (by decide)]), by rw [e 684 (by decide), e 299 (by decide)]; exact h3, ?_⟩
  unfold LB at h4 ⊢
  rw [e 299 (by decide), e 684 (by decide), e 283 (by decide)]
  exact h4
/-- up to the next that waits -/
theorem L_climb {RG : Mm → Nat → Int} {M S N : Mm} {b : Int} (h : LI RG N S b) {n : Nat} (hn : (n : Int) < S 0 35) (h0 : 0 < n) (hU : ∀ q : Nat, (q : Int) < S 0 35 → N 685 q = Uv S n q) {J : Int → Int → Mm → Rs} {k : Int} : ∀ (q F : Nat), S 32 n ≤ (q : Int) → q < n → q + 1 < F → Lp (f_L_isTree_L212_105 J) F ((q : Int), k, N) = J (S 32 n) k N := by
  obtain ⟨⟨p1, p2, p3, p4, p5⟩, -, -, -, -⟩ := h.1.1.1.1
  have h35 := p5.1
  have hP := p5.2.1.2
  have h7 := (p5.2.2 n hn).2.2.2.2.2.2.1 h0
  have hplace := Uv_place p1 p5 hn h0
  intro q
  induction q using Nat.strongRecOn with
  | ind q ih =>
    intro F hq1 hq2 hF
    obtain ⟨G, rfl⟩ : ∃ G, F = G + 1 := ⟨F - 1, by omega⟩
    have hqn : (q : Int) < S 0 35 := by omega
    have hp := nd_parts p1 p5 hqn
    rw [Lp_s]
    simp only [f_L_isTree_L212_105, LtE]
    rw [if_neg (by omega), gdE (by omega), Int.toNat_natCast, n_node h.1.1.1 hqn, CljS, jnM_self, hp.1, hU q hqn]
    by_cases c : (q : Int) = S 32 n
    · rw [show q = (S 32 n).toNat by omega, hplace, if_pos (by omega)]
      rw [Int.toNat_of_nonneg h7.1]
    · have hall := Uv_all p1 p5 (k := n) hqn fun c' hc' => Classical.byContradiction fun w => by
        rcases hP n q c' hn h0 hq2 hc' (by omega) with u | u <;> omega
      rw [hall, if_neg (fun w => w rfl), n_node h.1.1.1 hqn, CljS, jnM_self, hp.2.1]
      have h7q := (p5.2.2 q hqn).2.2.2.2.2.2.1 (by omega)
      have hge : S 32 n ≤ S 32 q := by
        have e34 := h7.2.2.2.2
        rw [show (3 * S 32 n + S 33 n).toNat = 3 * (S 32 n).toNat + (S 33 n).toNat by omega] at e34
        rcases hP q (S 32 n).toNat (S 33 n).toNat hqn (by omega) (by omega) (by have := h7.2.2.2.1; omega) (by omega) with u | u <;> omega
      have := ih (S 32 q).toNat (by omega) G (by omega) (by omega) (by omega)
      rw [Int.toNat_of_nonneg h7q.1] at this
      exact this
def upN (M S : Mm) (k : Nat) : Mm := sr M 685 fun q => if (q : Int) < S 0 35 then Uv S k q else M 685 q
theorem L_isTree {RG : Mm → Nat → Int} {M S : Mm} {b : Int} (h : LI RG M S b) : ∃ M', f_L_isTree M = some (1, M') ∧ LI RG M' S b := by
  obtain ⟨hci, hLM, h6, hB⟩ := id h
  obtain ⟨⟨p1, p2, p3, p4, p5⟩, ⟨q1, q2, q3, q4, q5⟩, -, -, -⟩ := hci.1.1.1
  obtain ⟨⟨l1, l2, l3, l4, l5⟩, -, l8, -⟩ := id hLM
  have h35 := p5.1
  have h10 := p1.1
  have g0 : (0 : Nat) ≤ 0 ∧ (0 : Nat) < 11 := by decide
  have g4 : (0 : Nat) ≤ 4 ∧ (4 : Nat) < 11 := by decide
  have hcost : f_X11_cost M = some (if S 0 35 = 0 then -1 else M 283 1, M) := by
    unfold f_X11_cost
    simp only [LtE]
    rw [q5.1]
    by_cases c : S 0 35 = 0
    · rw [if_pos c, if_neg (fun q => q c)]
    · rw [if_neg c, if_pos c]
  have hnone : ∀ x : Int, ¬ (0 ≤ x ∧ x < S 0 35) → f_L_does 12 x 0 0 0 0 M = some (-3000000, M) := fun x hx => by
    have : f_X11_node x M = some (1, 0, M) := by unfold f_X11_node; rw [g_mustNode q5, if_neg hx]
    rw [does_12, this, CltS, if_neg (by decide), jnM_self]; rfl
  unfold f_L_isTree
  simp only [LtE, gdE g4]
  by_cases c0 : S 0 35 = 0
  · refine ⟨M, ?_, h⟩
    rw [l5, if_neg (fun q => q c0), hcost, CljS, jnM_self, if_pos c0, if_neg (fun q => q rfl), hnone 0 (by omega), ClS, if_neg (fun q => q rfl)]
  have hcst : 0 ≤ M 283 1 := hB.2.2.2 (by rw [q5.1]; exact c0)
  rw [l5, if_pos c0, hcost, CljS, jnM_self, if_neg c0, if_neg (by omega), l5, hnone (S 0 35) (by omega), ClS, if_neg (fun q => q rfl)]
  obtain ⟨N, hNn⟩ : ∃ N : Nat, S 0 35 = (N : Int) := ⟨(S 0 35).toNat, by omega⟩
  -- all are not visited
  have hl1 : ∀ J : Mm → Rs, Lp (f_L_isTree_L71_134 J) FU (0, M) = J (upN M S 0) := fun J => by
    have e0 : sr M 685 (fun q => if q < 0 then (0 : Int) else M 685 q) = M := by
      have : (fun q => if q < 0 then (0 : Int) else M 685 q) = M 685 := funext fun q => if_neg (Nat.not_lt_zero q)
      rw [this]
      funext k
      unfold sr
      by_cases c : k = 685
      · rw [if_pos c, c]
      · rw [if_neg c]
    have e1 : upN M S 0 = sr M 685 (fun q => if q < N then (0 : Int) else M 685 q) := by
      unfold upN
      congr 1
      funext q
      by_cases c : q < N
      · rw [if_pos c, if_pos (by omega), Uv_zero p5 (by omega) (by omega)]
      · rw [if_neg c, if_neg (by omega)]
    rw [e1]
    refine Lp_for N (fun j => ((j : Int), sr M 685 (fun q => if q < j then (0 : Int) else M 685 q))) (fun rc j hj => ?_) (fun rc => ?_) (FU_lt (by omega)) (by rw [e0]; rfl)
    · simp only [f_L_isTree_L71_134, LtE, gdE g4]
      rw [sr_ne _ _ (by decide), l5, if_neg (by omega), gdE (by omega), Int.toNat_natCast, wrE (by omega) (by omega)]
      have : up (sr M 685 fun q => if q < j then (0 : Int) else M 685 q) 685 j 0 = sr M 685 fun q => if q < j + 1 then (0 : Int) else M 685 q := by
        rw [up_se, sr_at]
        funext k
        unfold sr
        by_cases c : k = 685
        · rw [if_pos c, if_pos c]
          funext q
          unfold se
          by_cases d : q = j
          · rw [if_pos d, if_pos (by omega)]
          · rw [if_neg d]
            show (if q < j then (0 : Int) else M 685 q) = _
            by_cases d2 : q < j
            · rw [if_pos d2, if_pos (by omega)]
            · rw [if_neg d2, if_neg (by omega)]
        · rw [if_neg c, if_neg c, if_neg c]
      rw [this]
      rfl
    · simp only [f_L_isTree_L71_134, LtE, gdE g4]
      rw [sr_ne _ _ (by decide), l5, if_pos (by omega)]
  rw [hl1]
  have hk : ∀ k, LI RG (upN M S k) S b := fun k => h.scr fun j hj => sr_ne _ _ hj
  have hU : ∀ k q : Nat, (q : Int) < S 0 35 → upN M S k 685 q = Uv S k q := fun k q hq => by unfold upN; rw [sr_at, if_pos hq]
  have k684 : ∀ k, upN M S k 684 = M 684 := fun k => sr_ne _ _ (by decide)
  have k681 : ∀ k, upN M S k 681 = M 681 := fun k => sr_ne _ _ (by decide)
  -- each node
  have hl2 : ∀ J : Int → Mm → Rs, Lp (f_L_isTree_L96_126 J) FU (1, -1, 0, upN M S 0) = J 1 (upN M S N) := fun J => by
    refine Lp_for N (fun k => ((1 : Int), (k : Int) - 1, (k : Int), upN M S k)) (fun rc k hkN => ?_) (fun rc => ?_) (FU_lt (by omega)) rfl
    · have hkn : (k : Int) < S 0 35 := by omega
      have hp := nd_parts p1 p5 hkn
      have ho := p5.2.2 k hkn
      have h30 := ho.1
      obtain ⟨hd1, hd2⟩ := hci.2.2 k hkn
      have hprod : (((S 30 k).toNat : Nat) : Int) = S 30 k := Int.toNat_of_nonneg ho.1.1
      have hch := L_children p1 (hk k).2.1 (p := (S 30 k).toNat) (by omega)
      rw [hprod] at hch
      have h681 : ∀ x : Nat, (x : Int) < S 0 0 → jrem (M 681 x) 10 = S 1 x := fun x hx => by
        have z := l8 x hx
        have b0 := sy_bd p1 hx 0
        have b1 := sy_bd p1 hx 1
        have b2 := sy_bd p1 hx 2
        have hh := (p1.2.2.2.1 x (by omega) hx).1
        rw [Int.toNat_natCast] at hh
        have := (jremE (x := M 681 x) (k := 10) (by omega) (by omega) (by decide) (by decide)).1
        rw [this]; omega
      simp only [f_L_isTree_L96_126, LtE, gdE g4, gdE g0]
      rw [k684, l5, if_neg (by omega), if_neg (by decide), n_node (hk k).1.1.1 hkn, CljS, jnM_self, k684, l1, hp.1, hp.2.1, hp.2.2.1, if_neg (by omega), hch, ClS, if_neg (fun q => q rfl)]
      by_cases c : k = 0
      · subst c
        have h61 := ho.2.2.2.2.2.1 rfl
        have hr0 : S 1 (S 30 0).toNat = 0 := hd1.1 h61.1
        have eU : upN M S 0 = upN M S 1 := by
          unfold upN
          congr 1
          funext q
          by_cases d : (q : Int) < S 0 35
          · rw [if_pos d, if_pos d, Uv_zero p5 d (by omega), Uv_zero p5 d (by omega)]
          · rw [if_neg d, if_neg d]
        rw [if_neg (c := ¬ ((0 : Nat) : Int) = 0) (fun q => q rfl), h61.1, if_neg (c := ¬ (-1 : Int) = -1) (fun q => q rfl), gdE (by omega), k681, h681 _ (by omega), hr0, if_neg (c := ¬ (0 : Int) = 0) (fun q => q rfl), if_neg (c := (1 : Int) = 0) (by decide), if_pos (by decide), wrE (by decide) (by decide), eU]
        rfl
      · have h7 := ho.2.2.2.2.2.2.1 (by omega)
        have hcl := fun (J : Int → Int → Mm → Rs) => L_climb (M := M) (hk k) hkn (by omega) (hU k) (J := J) (k := (k : Int)) (k - 1) FU (by omega) (by omega) (FU_lt (by omega))
        obtain ⟨P, hP⟩ : ∃ P : Nat, S 32 k = (P : Int) := ⟨(S 32 k).toNat, by omega⟩
        have hpn : (P : Int) < S 0 35 := by omega
        have hpp := nd_parts p1 p5 hpn
        have hoP := p5.2.2 P hpn
        have h30P := hoP.1
        have hplace := Uv_place p1 p5 hkn (by omega)
        rw [hP, Int.toNat_natCast] at hplace
        have h33 : 0 ≤ S 33 k ∧ S 33 k < 3 := by
          have a := h7.2.2.2.1
          have a2 := h7.2.2.1
          rw [hP, Int.toNat_natCast] at a
          have a3 := hpp.2.2.2.1
          omega
        obtain ⟨i, i1, i2, i3, i4⟩ := hd1.2 (by show 0 ≤ S 32 k; omega)
        simp only at i1 i2 i3 i4
        rw [hP, Int.toNat_natCast] at i1 i2 i3 i4
        have hprodP : (((S 30 P).toNat : Nat) : Int) = S 30 P := Int.toNat_of_nonneg hoP.1.1
        have e3 : (3 * S 30 P + (i : Int)).toNat = 3 * (S 30 P).toNat + i := by omega
        rw [e3] at i2 i3
        have hco := L_childOf p1 (hk k).2.1 (p := (S 30 P).toNat) (by omega) i1 i2 rfl
        rw [hprodP, ← i4] at hco
        rw [show ((k - 1 : Nat) : Int) = (k : Int) - 1 by omega] at hcl
        rw [if_pos (c := ¬ (k : Int) = 0) (by omega), if_neg (c := S 32 k < 0) (by omega), if_neg (c := (k : Int) ≤ S 32 k) (by omega), if_neg (c := (1 : Int) = 0) (by decide), if_neg (c := (k : Int) ≤ 0) (by omega), hcl, if_neg (c := ¬ S 32 k = S 32 k) (fun q => q rfl), hP, n_node (hk k).1.1.1 hpn, CljS, jnM_self, hpp.2.2.1, gdE (by omega), Int.toNat_natCast, hU k P hpn, hplace, hco, ClS, gdE (by omega), k681, h681 _ (by omega), ← i3, if_neg (fun q => q rfl), gdE (by omega), hU k P hpn, hplace, if_neg (by decide), gdE (by omega), wrE (v := S 33 k + 1) (by omega) (by omega), wrE (by omega) (by omega)]
        have eup : up (upN M S k) 685 P (S 33 k + 1) = upN M S (k + 1) := by
          unfold upN
          rw [up_se, sr_at]
          funext j
          unfold sr
          by_cases cj : j = 685
          · rw [if_pos cj, if_pos cj]
            funext q
            show (if q = P then S 33 k + 1 else (if (q : Int) < S 0 35 then Uv S k q else M 685 q)) = _
            by_cases d : (q : Int) < S 0 35
            · rw [if_pos d, if_pos d, Uv_succ p1 p5 hkn (by omega) d]
              by_cases e : q = P
              · subst e
                rw [if_pos rfl, if_pos hP.symm, hplace]
              · rw [if_neg e, if_neg (by omega)]; omega
            · rw [if_neg d, if_neg d, if_neg (by omega)]
          · rw [if_neg cj, if_neg cj, if_neg cj]
        rw [eup, show ((k + 1 : Nat) : Int) - 1 = (k : Int) by omega]
        rfl
    · simp only [f_L_isTree_L96_126, LtE, gdE g4]
      rw [k684, l5, if_pos (by omega)]
  rw [hl2]
  have hl3 : Lp (f_L_isTree_L324_33 fun v13 M14 => some (v13, M14)) FU (1, 0, upN M S N) = some (1, upN M S N) := by
    refine Lp_for N (fun k => ((1 : Int), (k : Int), upN M S N)) (fun rc k hkN => ?_) (fun rc => ?_) (FU_lt (by omega)) rfl
    · have hkn : (k : Int) < S 0 35 := by omega
      have hp := nd_parts p1 p5 hkn
      have hall := Uv_all p1 p5 (k := N) hkn fun c hc => by
        have := ((p5.2.2 k hkn).2.2.2.2.2.2.2 c hc).2.1
        omega
      simp only [f_L_isTree_L324_33, LtE, gdE g4]
      rw [k684, l5, if_neg (by omega), if_neg (by decide), gdE (by omega), Int.toNat_natCast, hU N k hkn, n_node (hk N).1.1.1 hkn, CljS, jnM_self, hp.1, hall, if_neg (fun q => q rfl), wrE (by omega) (by omega)]
      rfl
    · simp only [f_L_isTree_L324_33, LtE, gdE g4]
      rw [k684, l5, if_pos (by omega)]
  exact ⟨_, hl3, hk N⟩
