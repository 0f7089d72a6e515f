/-! a node rewritten; what is told of an attribute -/
theorem L_head {M S : Mm} (hg : Okg S) (h : LM M S) {x : Int} (h0 : 0 ≤ x) (hx : x < S 0 0) : jrem (M 681 x.toNat) 10 = S 1 x.toNat := by
  have z := h.2.2.1 x.toNat (by omega)
  have b0 := sy_bd hg (p := x.toNat) (by omega) 0
  have b1 := sy_bd hg (p := x.toNat) (by omega) 1
  have b2 := sy_bd hg (p := x.toNat) (by omega) 2
  have hh := (hg.2.2.2.1 x h0 hx).1
  have := (jremE (x := M 681 x.toNat) (k := 10) (by omega) (by omega) (by decide) (by decide)).1
  rw [this]; omega
theorem L_childrenI {M S : Mm} (hg : Okg S) (h : LM M S) {x : Int} (h0 : 0 ≤ x) (hx : x < S 0 0) : f_L_children x M = some (S 4 x.toNat, M) := by
  have := L_children hg h (p := x.toNat) (by omega)
  rw [Int.toNat_of_nonneg h0] at this
  exact this
theorem L_isRewritten {RG : Mm → Nat → Int} (hRG : RGok RG) (hRs : RGs RG) {M S : Mm} {b : Int} (hb : b ≤ 100000) (h : LI RG M S b) {n : Int} (h0 : 0 ≤ n) : ∃ M' S', f_L_isRewritten n M = some (1, M') ∧ LI RG M' S' (b + 400) := by
  obtain ⟨hci, hLM, h6, hB⟩ := id h
  obtain ⟨⟨p1, p2, p3, p4, p5⟩, ⟨q1, q2, q3, q4, q5⟩, -, -, -⟩ := hci.1.1.1
  obtain ⟨⟨l1, l2, l3, l4, l5⟩, -, l8, -⟩ := id hLM
  have h10 := p1.1
  have h35 := p5.1
  have g0 : (0 : Nat) ≤ 0 ∧ (0 : Nat) < 11 := by decide
  have g4 : (0 : Nat) ≤ 4 ∧ (4 : Nat) < 11 := by decide
  have g6 : (0 : Nat) ≤ 6 ∧ (6 : Nat) < 11 := by decide
  unfold f_L_isRewritten
  simp only [LtE, gdE g0, gdE g4, gdE g6]
  rw [does_10]
  by_cases c : n < S 0 35
  case neg =>
    have hx : f_X11_rewrite n M = some (1, 0, M) := by unfold f_X11_rewrite; rw [g_mustNode q5, if_neg (fun q => c q.2)]
    refine ⟨M, S, ?_, hci, hLM, h6, ⟨hB.1.1, by have := hB.1.2; omega⟩, ⟨hB.2.1.1, by have := hB.2.1.2; omega⟩, hB.2.2⟩
    rw [hx, CltS, if_neg (c := (1 : Int) = 0) (by decide), jnM_self, ClS, l5, if_neg c]
    rfl
  obtain ⟨p', M', S', a1, a2, a3, a4, ⟨a5, a6, a7⟩, d, a8, a9⟩ := t_rewrite hRG hRs hci.1 hci.2.1 ⟨h0, c⟩
  obtain ⟨m, rfl⟩ : ∃ m : Nat, n = (m : Int) := ⟨n.toNat, by omega⟩
  rw [Int.toNat_natCast] at a4 a6
  have ho := p5.2.2 m c
  have h30 := ho.1
  have hd9 := a9 hB.1.1 (by have := hB.1.2; omega)
  have a5' : ∀ j, (1 ≤ j ∧ j ≤ 30) ∨ (32 ≤ j ∧ j ≤ 35) → S' j = S j := fun j hj => a5 j (by omega) (by omega) (by omega)
  -- the class
  have hci' : CI RG M' S' := by
    refine ⟨a2, X2_same hci.2.1 (fun j hj => a5' j (by omega)) (a7 0 (by simp)), fun k hk => ?_⟩
    rw [a7 35 (by simp)] at hk
    obtain ⟨z1, z2⟩ := hci.2.2 k hk
    have z3 := HdN_S (S' := S') (fun j hj => a5' j (by omega)) z1
    refine ⟨?_, ?_⟩
    · unfold HdN HdE at z3 ⊢
      rw [a5' 30 (by omega), a5' 32 (by omega), a5' 33 (by omega)]
      exact z3
    · rw [a5' 1 (by omega), a5' 30 (by omega), a6]
      by_cases e : k = m
      · subst e
        rw [se_at, a4.2.2.2]; exact z2
      · rw [se_ne _ _ e]; exact z2
  generalize hM1 : jnM M' M = M1
  have mlo : ∀ k, k < 681 → M1 k = M' k := fun k hk => by rw [← hM1, jnM_lo hk]
  have mhi : ∀ k, 681 ≤ k → M1 k = M k := fun k hk => by rw [← hM1, jnM_hi hk]
  have hci1 : CI RG M1 S' := hci'.ext mlo
  have hLM1 : LM M1 S' := hLM.g (fun j hj => a5' j (by omega)) (fun i hi => a7 i (by omega)) (fun k hk _ => mhi k hk) (by rw [mlo 273 (by decide), a3 273 (by decide) (by decide)])
  obtain ⟨⟨k1, k2, k3, k4, k5⟩, -⟩ := id hLM1
  obtain ⟨⟨P1, P2, P3, P4, P5⟩, -, -, -, -⟩ := hci1.1.1.1
  have e00 : S' 0 0 = S 0 0 := a7 0 (by simp)
  have e35 : S' 0 35 = S 0 35 := a7 35 (by simp)
  have hnd := n_node hci1.1.1 (n := m) (by omega)
  have hp := nd_parts P1 P5 (n := m) (by omega)
  have e30 : S' 30 m = S 30 m := by rw [a5' 30 (by omega)]
  have hhd : S' 1 p'.toNat = S' 1 (S' 30 m).toNat := by
    rw [a5' 1 (by omega), e30, a4.2.2.2]
    exact (hci.2.2 m c).2
  have h4' : S' 4 p'.toNat = S' 4 (S' 30 m).toNat := by
    rw [a5' 4 (by omega), e30, a4.2.2.1]
    exact ho.2.2.1
  have x6 : ∀ v, up M1 684 6 v 299 = M1 299 := fun v => up_ne _ _ _ (by decide)
  refine ⟨up M1 684 6 (M1 299 0), S', ?_, hci1.ext fun k hk => up_ne _ _ _ (by omega), ?_, ?_, ?_⟩
  · rw [a1, CltS, if_pos rfl, hM1, ClS, k5, if_pos (by omega), hnd, CljS, jnM_self, hp.2.2.1, if_neg (c := p' < 0) (by omega), k1, if_neg (c := S' 0 0 ≤ p') (by omega), gdE (by omega), L_head P1 hLM1 a4.1 (by omega), gdE (by omega), L_head P1 hLM1 (by omega) (by omega), if_neg (fun q => q hhd), L_childrenI P1 hLM1 a4.1 (by omega), ClS, L_childrenI P1 hLM1 (by omega) (by omega), ClS, if_neg (fun q => q h4'), t_found, CljS, jnM_self]
  · unfold LM at hLM1 ⊢
    have y : ∀ i, i ≠ 6 → up M1 684 6 (M1 299 0) 684 i = M1 684 i := fun i hi => up_off hi
    rw [y 0 (by decide), y 1 (by decide), y 2 (by decide), y 3 (by decide), y 4 (by decide), y 5 (by decide), up_ne _ _ _ (show 681 ≠ 684 by decide), up_ne _ _ _ (show 682 ≠ 684 by decide), up_ne _ _ _ (show 683 ≠ 684 by decide), up_ne _ _ _ (show 273 ≠ 684 by decide)]
    exact hLM1
  · rw [up_at, x6]
  · have y : ∀ i, i ≠ 6 → up M1 684 6 (M1 299 0) 684 i = M 684 i := fun i hi => by
      have : up M1 684 6 (M1 299 0) 684 i = M1 684 i := up_off hi
      rw [this, mhi 684 (by decide)]
    unfold LB
    rw [y 9 (by decide), y 10 (by decide), x6, mlo 299 (by decide), hd9, up_ne _ _ _ (show 283 ≠ 684 by decide), mlo 283 (by decide), a3 283 (by decide) (by decide)]
    refine ⟨⟨by have := hB.1.1; omega, by have := hB.1.2; omega⟩, ⟨hB.2.1.1, by have := hB.2.1.2; omega⟩, hB.2.2⟩
/-- there is no such pair -/
theorem L_notPair {RG : Mm → Nat → Int} {M S : Mm} (h : CI RG M S) {n a : Int} (hx : ¬ ((0 ≤ n ∧ n < S 0 35) ∧ (0 ≤ a ∧ a < S 0 12))) : f_L_does 11 n a 0 0 0 M = some (-3000000, M) ∧ f_L_does 15 n a 0 0 0 M = some (-3000000, M) ∧ f_L_does 13 n a 0 0 0 M = some (-3000000, M) ∧ f_L_does 14 n a 0 0 0 M = some (-3000000, M) := by
  obtain ⟨-, ⟨q1, q2, q3, q4, q5⟩, -, -, -⟩ := h.1.1.1
  have e1 : f_X11_value n a M = some (1, 0, M) := by
    unfold f_X11_value; rw [g_mustNode q5]
    by_cases h1 : 0 ≤ n ∧ n < S 0 35
    · rw [if_pos h1, g_mustAttr q1, if_neg (fun q => hx ⟨h1, q⟩)]
    · rw [if_neg h1]
  have e2 : f_X11_valueAnew n a M = some (1, 0, M) := by
    unfold f_X11_valueAnew; rw [g_mustNode q5]
    by_cases h1 : 0 ≤ n ∧ n < S 0 35
    · rw [if_pos h1, g_mustAttr q1, if_neg (fun q => hx ⟨h1, q⟩)]
    · rw [if_neg h1]
  have e3 : f_X11_why n a 0 M = some (1, 0, M) := by
    unfold f_X11_why; rw [g_mustNode q5]
    by_cases h1 : 0 ≤ n ∧ n < S 0 35
    · rw [if_pos h1, g_mustAttr q1, if_neg (fun q => hx ⟨h1, q⟩)]
    · rw [if_neg h1]
  have e4 : f_X11_isKept n a M = some (1, 0, M) := by
    unfold f_X11_isKept; rw [g_mustNode q5]
    by_cases h1 : 0 ≤ n ∧ n < S 0 35
    · rw [if_pos h1, g_mustAttr q1, if_neg (fun q => hx ⟨h1, q⟩)]
    · rw [if_neg h1]
  have z : ∀ k : Int → Mm → Rs, Clt (some (1, 0, M)) M k = some (-3000000, M) := fun k => by
    rw [CltS, if_neg (c := (1 : Int) = 0) (by decide), jnM_self]; rfl
  rw [does_11, does_15, does_13, does_14, e1, e2, e3, e4]
  exact ⟨z _, z _, z _, z _⟩
theorem n_mustAttr {M S : Mm} (hM : CG M S) {a : Int} (ha : 0 ≤ a ∧ a < S 0 12) : f_N11_mustBeAttribute a M = some (0, M) := by
  unfold f_N11_mustBeAttribute
  rw [g_hasAttribute hM, ClS, if_pos ha, if_pos (by decide)]
theorem n_isKept {RG : Mm → Nat → Int} {M S : Mm} (h : Inv RG M S 0) {n a : Int} (hn : 0 ≤ n ∧ n < S 0 35) (ha : 0 ≤ a ∧ a < S 0 12) : f_N11_isKept n a M = some (if M 301 (6 * n + a).toNat = 0 then 0 else 1, M) := by
  obtain ⟨hp, -, -, -⟩ := h
  obtain ⟨⟨p1, p2, p3, p4, p5⟩, ⟨q1, q2, q3, q4, q5⟩, q6, q7, p6⟩ := hp
  have h12 := p1.2.1
  have h35 := p5.1
  unfold f_N11_isKept
  rw [n_mustNode q5 hn, ClS, n_mustAttr q1 ha, ClS, c_slotOf (by omega) (by omega), ClS]
  have e := c_has (s := (6 * n + a).toNat) (by omega) M
  rw [Int.toNat_of_nonneg (by omega)] at e
  rw [e, ClS]
theorem Cl_x {o : Rs} {k : Int → Mm → Rx} {k' : Int → Mm → Rs} {w : Int} {M' : Mm} (h : ∀ v M, k v M = some (0, w, M') → k' v M = some (w, M')) (e : Cl o k = some (0, w, M')) : Cl o k' = some (w, M') := by
  cases o with
  | none => cases e
  | some q => exact h q.1 q.2 e
theorem n_value {RG : Mm → Nat → Int} {M S : Mm} (h : Inv RG M S 0) {n a w : Int} {M' : Mm} (hn : 0 ≤ n ∧ n < S 0 35) (ha : 0 ≤ a ∧ a < S 0 12) (e : f_X11_value n a M = some (0, w, M')) : f_N11_value n a M = some (w, M') := by
  obtain ⟨-, ⟨q1, q2, q3, q4, q5⟩, -, -, -⟩ := h.1
  unfold f_X11_value at e
  rw [g_mustNode q5, if_pos hn, g_mustAttr q1, if_pos ha] at e
  unfold f_N11_value
  rw [n_mustNode q5 hn, ClS, n_mustAttr q1 ha, ClS]
  refine Cl_x (fun v M2 e2 => ?_) e
  exact Cl_x (fun v' M3 e3 => by cases e3; rfl) e2
theorem n_valueAnew {RG : Mm → Nat → Int} {M S : Mm} (h : Inv RG M S 0) {n a w : Int} {M' : Mm} (hn : 0 ≤ n ∧ n < S 0 35) (ha : 0 ≤ a ∧ a < S 0 12) (e : f_X11_valueAnew n a M = some (0, w, M')) : f_N11_valueAnew n a M = some (w, M') := by
  obtain ⟨-, ⟨q1, q2, q3, q4, q5⟩, -, -, -⟩ := h.1
  unfold f_X11_valueAnew at e
  rw [g_mustNode q5, if_pos hn, g_mustAttr q1, if_pos ha] at e
  unfold f_N11_valueAnew
  rw [n_mustNode q5 hn, ClS, n_mustAttr q1 ha, ClS]
  refine Cl_x (fun v M2 e2 => ?_) e
  refine Cl_x (fun v' M3 e3 => ?_) e2
  exact Cl_x (fun v' M3 e3 => by cases e3; rfl) e3
theorem tn_lt {a b : Int} (h0 : 0 ≤ a) (h : a < b) : ((a.toNat : Nat) : Int) < b := by omega
/-- the class and the law's rows, but for the number of findings -/
def LSt (RG : Mm → Nat → Int) (M S : Mm) : Prop := CI RG M S ∧ LM M S ∧ (M 283 0 ≠ 0 → 0 ≤ M 283 1)
theorem LSt.q {RG : Mm → Nat → Int} {M S M' S' : Mm} (h : LSt RG M S) (hc : CI0 RG M' S') (hq : AgQ S S') (e273 : M' 273 = M 273) (e283 : M' 283 = M 283) : LSt RG (jnM M' M) S' :=
  ⟨(h.1.q hc hq).ext fun k hk => jnM_lo hk, h.2.1.q hq (fun k hk _ => jnM_hi hk) (by rw [jnM_lo (by decide), e273]), by rw [jnM_lo (by decide), e283]; exact h.2.2⟩
theorem L_isTold {RG : Mm → Nat → Int} (hRG : RGok RG) (hRs : RGs RG) {M S : Mm} {b : Int} (hb : b ≤ 100000) (h : LI RG M S b) {n a : Int} (h0 : 0 ≤ n) (ha0 : 0 ≤ a) : ∃ M' S', f_L_isTold n a M = some (1, M') ∧ LI RG M' S' (b + 400) ∧ S' 0 35 = S 0 35 ∧ S' 0 12 = S 0 12 ∧ M' 684 9 = M 684 9 ∧ M' 684 10 = M 684 10 := by
  obtain ⟨hci, hLM, h6, hB⟩ := id h
  obtain ⟨⟨p1, p2, p3, p4, p5⟩, ⟨q1, q2, q3, q4, q5⟩, -, -, -⟩ := hci.1.1.1
  obtain ⟨⟨l1, l2, l3, l4, l5⟩, -, l8, l9, -⟩ := id hLM
  have h12 := p1.2.1
  have h35 := p5.1
  have g1 : (0 : Nat) ≤ 1 ∧ (1 : Nat) < 11 := by decide
  have g4 : (0 : Nat) ≤ 4 ∧ (4 : Nat) < 11 := by decide
  have g6 : (0 : Nat) ≤ 6 ∧ (6 : Nat) < 11 := by decide
  unfold f_L_isTold
  simp only [LtE, gdE g1, gdE g4, gdE g6]
  by_cases cp : (0 ≤ n ∧ n < S 0 35) ∧ (0 ≤ a ∧ a < S 0 12)
  case neg =>
    obtain ⟨e1, e2, e3, e4⟩ := L_notPair hci cp
    refine ⟨M, S, ?_, ⟨hci, hLM, h6, ⟨hB.1.1, by have := hB.1.2; omega⟩, ⟨hB.2.1.1, by have := hB.2.1.2; omega⟩, hB.2.2⟩, rfl, rfl, rfl, rfl⟩
    rw [l5, l2, e1, ClS, if_neg (c := ¬ (-3000000 : Int) = -3000000) (fun q => q rfl), e2, ClS, if_neg (c := ¬ (-3000000 : Int) = -3000000) (fun q => q rfl), e3, ClS, if_neg (c := ¬ (-3000000 : Int) = -3000000) (fun q => q rfl), e4, ClS, if_neg (c := ¬ (-3000000 : Int) = -3000000) (fun q => q rfl)]
    by_cases c1 : S 0 35 ≤ n
    · rw [if_pos c1]
    · rw [if_neg c1, if_neg (by omega)]
  obtain ⟨hn, ha⟩ := cp
  have hs180 : (6 * n + a).toNat < 180 := by omega
  have hsm : (6 * n + a).toNat % 6 = a.toNat := by omega
  have hls : LSt RG M S := ⟨hci, hLM, hB.2.2.2⟩
  -- found anew
  obtain ⟨A1, S1, b1, b2, b3, b4⟩ := t_valueAnew hRG hRs hci.1 hn ha
  generalize hv : Vl RG S n a = v at b1
  have hls1 := hls.q b2 b3 (b4 273 (by decide)) (b4 283 (by decide))
  generalize hM1 : jnM A1 M = M1 at hls1
  have m1hi : ∀ k, 681 ≤ k → M1 k = M k := fun k hk => by rw [← hM1, jnM_hi hk]
  have m1lo : ∀ k, k < 681 → M1 k = A1 k := fun k hk => by rw [← hM1, jnM_lo hk]
  have e299 : M1 299 = M 299 := by rw [m1lo 299 (by decide), b4 299 (by decide)]
  have e301 : M1 301 = M 301 := by rw [m1lo 301 (by decide), b4 301 (by decide)]
  have s35 : S1 0 35 = S 0 35 := b3.2 35 (by simp)
  have s12 : S1 0 12 = S 0 12 := b3.2 12 (by simp)
  have r12 : S1 12 = S 12 := b3.1 12 (by decide) (by decide) (by decide)
  have hn1 : 0 ≤ n ∧ n < S1 0 35 := by rw [s35]; exact hn
  have ha1 : 0 ≤ a ∧ a < S1 0 12 := by rw [s12]; exact ha
  -- found
  obtain ⟨A2, S2, c1, c2, c3, c4, c5, c6, c7, c8, c9⟩ := t_value hRG hRs hls1.1.1 hn1 ha1
  rw [Vl_q hRG b3, hv] at c1 c5 c6
  rw [r12] at c6 c7 c8 c9
  rw [e301] at c8 c9
  rw [e299] at c6 c8 c9
  have hls2 := hls1.q c2 c3 (c4 273 (by decide)) (c4 283 (by decide))
  generalize hM2 : jnM A2 M1 = M2 at hls2
  have m2hi : ∀ k, 681 ≤ k → M2 k = M k := fun k hk => by rw [← hM2, jnM_hi hk, m1hi k hk]
  have m2lo : ∀ k, k < 681 → M2 k = A2 k := fun k hk => by rw [← hM2, jnM_lo hk]
  have t35 : S2 0 35 = S1 0 35 := c3.2 35 (by simp)
  have t12 : S2 0 12 = S1 0 12 := c3.2 12 (by simp)
  have u12 : S2 12 = S1 12 := c3.1 12 (by decide) (by decide) (by decide)
  have hn2 : 0 ≤ n ∧ n < S2 0 35 := by rw [t35]; exact hn1
  have ha2 : 0 ≤ a ∧ a < S2 0 12 := by rw [t12]; exact ha1
  -- the number of findings is taken
  generalize hM3 : up M2 684 6 (M2 299 0) = M3
  have m3 : ∀ k, k ≠ 684 → M3 k = M2 k := fun k hk => by rw [← hM3, up_ne _ _ _ hk]
  have m3i : ∀ i, i ≠ 6 → M3 684 i = M2 684 i := fun i hi => by rw [← hM3]; exact up_off hi
  have m36 : M3 684 6 = M2 299 0 := by rw [← hM3, up_at]
  have hls3 : LSt RG M3 S2 := by
    refine ⟨hls2.1.ext fun k hk => m3 k (by omega), ?_, by rw [m3 283 (by decide)]; exact hls2.2.2⟩
    have y := hls2.2.1
    unfold LM at y ⊢
    rw [m3i 0 (by decide), m3i 1 (by decide), m3i 2 (by decide), m3i 3 (by decide), m3i 4 (by decide), m3i 5 (by decide), m3 681 (by decide), m3 682 (by decide), m3 683 (by decide), m3 273 (by decide)]
    exact y
  obtain ⟨A4, S4, d1, d2, d3, d4, d5, d6, d7, d8, d9⟩ := t_value hRG hRs hls3.1.1 hn2 ha2
  rw [Vl_q hRG c3, Vl_q hRG b3, hv] at d1 d5 d6
  rw [u12, r12] at d6 d7 d8 d9
  have hls4 := hls3.q d2 d3 (d4 273 (by decide)) (d4 283 (by decide))
  generalize hM4 : jnM A4 M3 = M4 at hls4
  have m4hi : ∀ k, 681 ≤ k → M4 k = M3 k := fun k hk => by rw [← hM4, jnM_hi hk]
  have m4lo : ∀ k, k < 681 → M4 k = A4 k := fun k hk => by rw [← hM4, jnM_lo hk]
  have x301 : M3 301 = A2 301 := by rw [m3 301 (by decide), m2lo 301 (by decide)]
  have x299 : M3 299 = A2 299 := by rw [m3 299 (by decide), m2lo 299 (by decide)]
  -- how many findings
  have hring : S 12 a.toNat = 3 → M 301 (6 * n + a).toNat = 0 := fun k3 => Classical.byContradiction fun q => by
    have := (hci.1.2 _ hs180 q).1
    rw [hsm] at this
    exact this k3
  have hF4 : A4 299 0 = A2 299 0 := by
    by_cases k3 : S 12 a.toNat = 3
    · rw [(d6 k3).1, x299]
    · rw [d8 k3 (by rw [x301]; exact c7 k3), x299]
  have hF2 : ∃ d : Nat, d ≤ 400 ∧ A2 299 0 = M 299 0 + d := by
    by_cases k3 : S 12 a.toNat = 3
    · exact ⟨0, by decide, by rw [(c6 k3).1]; omega⟩
    · by_cases hk : M 301 (6 * n + a).toNat = 0
      · obtain ⟨d, x1, x2, x3⟩ := c9 k3 hk
        exact ⟨d, x2, x3 hB.1.1 (by have := hB.1.2; omega)⟩
      · exact ⟨0, by decide, by rw [c8 k3 hk]; omega⟩
  have hkd : M2 683 a.toNat = S 12 a.toNat := by rw [m2hi 683 (by decide)]; exact l9 a.toNat (tn_lt ha.1 ha.2)
  have hkd3 : M4 683 a.toNat = S 12 a.toNat := by rw [m4hi 683 (by decide), m3 683 (by decide)]; exact hkd
  have hk03 := p1.2.2.1 a ha.1 ha.2
  have K0 := n_isKept hci.1.1 hn ha
  have K1 := n_isKept hls1.1.1.1 hn1 ha1
  rw [e301] at K1
  have K2 := n_isKept hls2.1.1.1 hn2 ha2
  have V1 := n_valueAnew hci.1.1 hn ha b1
  have V2 := n_value hls1.1.1.1 hn1 ha1 c1
  have V4 := n_value hls3.1.1.1 hn2 ha2 d1
  have hvr : -3 ≤ v ∧ v < 1000 + S 0 35 := by
    have := c5
    unfold VlB at this
    rw [s35] at this; exact this
  refine ⟨M4, S4, ?_, ⟨hls4.1, hls4.2.1, ?_, ?_⟩, by rw [d3.2 35 (by simp), t35, s35], by rw [d3.2 12 (by simp), t12, s12], by rw [m4hi 684 (by decide), m3i 9 (by decide), m2hi 684 (by decide)], by rw [m4hi 684 (by decide), m3i 10 (by decide), m2hi 684 (by decide)]⟩
  · rw [l5, if_neg (c := S 0 35 ≤ n) (by omega), l2, if_pos ha.2, K0, CljS, jnM_self, V1, CljS, hM1, t_found, CljS, jnM_self, e299, m1hi 684 (by decide), h6, if_neg (c := ¬ M 299 0 = M 299 0) (fun q => q rfl), K1, CljS, jnM_self, if_neg (fun q => q rfl), if_neg (c := (1 : Int) = 0) (by decide), V2, CljS, hM2, if_neg (c := ¬ v = v) (fun q => q rfl), K2, CljS, jnM_self, gdE (by omega), hkd]
    have f6 : M2 684 6 = M 299 0 := by rw [m2hi 684 (by decide), h6]
    have f299 : M2 299 0 = A2 299 0 := by rw [m2lo 299 (by decide)]
    have f301 : M2 301 = A2 301 := m2lo 301 (by decide)
    have fin : ∀ o : Rs, o = (Clj (f_N11_value n a M3) M3 fun v54 M53 => if ¬ v54 = v then some (0, M53) else Clj (f_X11_found M53) M53 fun v57 M56 => if ¬ v57 = M56 684 6 then some (0, M56) else gd (0 ≤ a ∧ a < 6) (if ¬ M56 683 a.toNat = 3 then some (1, M56) else if 1000 ≤ v then some (0, M56) else some (1, M56))) → o = some (1, M4) := fun o ho => by
      rw [ho, V4, CljS, hM4, if_neg (fun q => q rfl), t_found, CljS, jnM_self, m4lo 299 (by decide), hF4, m4hi 684 (by decide), m36, f299, if_neg (fun q => q rfl), gdE (by omega), hkd3]
      by_cases k3 : S 12 a.toNat = 3
      · have := (c6 k3).2.2
        rw [if_neg (fun q => q k3), if_neg (by omega)]
      · rw [if_pos k3]
    have hw : wr (1000 + M3 684 4) = 1000 + S 0 35 := by
      rw [m3i 4 (by decide), m2hi 684 (by decide), l5, wrE (by omega) (by omega)]
    by_cases k3 : S 12 a.toNat = 3
    · have hk := hring k3
      have hk2 : M2 301 (6 * n + a).toNat = 0 := by rw [f301, (c6 k3).2.1, e301, hk]
      have hf := (c6 k3).1
      rw [if_pos (c := 3 ≤ S 12 a.toNat) (by omega), if_pos hk2, if_neg (c := ¬ (0 : Int) = 0) (fun q => q rfl), if_neg (c := (1 : Int) = 0) (by decide), if_pos hk, if_neg (c := ¬ (0 : Int) = 0) (fun q => q rfl), gdE (by omega), if_neg (c := ¬ S 12 a.toNat = 3) (fun q => q k3), t_found, CljS, jnM_self, f6, f299, hf, if_neg (c := ¬ M 299 0 = M 299 0) (fun q => q rfl)]
      refine fin _ ?_
      rw [t_found, CljS, jnM_self, hM3, if_neg (c := v < -3) (by omega), hw, if_neg (c := 1000 + S 0 35 ≤ v) (by omega), if_neg (c := (1 : Int) = 0) (by decide), if_neg (c := (1 : Int) = 0) (by decide)]
    · have hk2 : ¬ M2 301 (6 * n + a).toNat = 0 := by rw [f301]; exact c7 k3
      rw [if_neg (c := 3 ≤ S 12 a.toNat) (by omega), if_neg hk2, if_neg (c := ¬ (1 : Int) = 1) (fun q => q rfl), if_neg (c := (1 : Int) = 0) (by decide)]
      by_cases hk : M 301 (6 * n + a).toNat = 0
      · obtain ⟨d, x1, x2, x3⟩ := c9 k3 hk
        have x3 := x3 hB.1.1 (by have := hB.1.2; omega)
        rw [if_pos hk, if_neg (c := ¬ (0 : Int) = 0) (fun q => q rfl), gdE (by omega), if_pos k3, t_found, CljS, jnM_self, f6, f299, if_neg (c := A2 299 0 ≤ M 299 0) (by omega)]
        refine fin _ ?_
        rw [t_found, CljS, jnM_self, hM3, if_neg (c := v < -3) (by omega), hw, if_neg (c := 1000 + S 0 35 ≤ v) (by omega), if_neg (c := (1 : Int) = 0) (by decide), if_neg (c := (1 : Int) = 0) (by decide)]
      · rw [if_neg hk, if_pos (c := ¬ (1 : Int) = 0) (by decide), t_found, CljS, jnM_self, f6, f299, c8 k3 hk, if_neg (c := ¬ M 299 0 = M 299 0) (fun q => q rfl)]
        refine fin _ ?_
        rw [t_found, CljS, jnM_self, hM3, if_neg (c := v < -3) (by omega), hw, if_neg (c := 1000 + S 0 35 ≤ v) (by omega), if_neg (c := (1 : Int) = 0) (by decide), if_neg (c := (1 : Int) = 0) (by decide)]
  · rw [m4hi 684 (by decide), m36, m4lo 299 (by decide), hF4, m2lo 299 (by decide)]
  · obtain ⟨d, x1, x2⟩ := hF2
    unfold LB
    rw [m4lo 299 (by decide), hF4, x2, m4hi 684 (by decide), m3i 9 (by decide), m3i 10 (by decide), m2hi 684 (by decide)]
    exact ⟨⟨by have := hB.1.1; omega, by have := hB.1.2; omega⟩, ⟨hB.2.1.1, by have := hB.2.1.2; omega⟩, hB.2.2.1, hls4.2.2⟩
