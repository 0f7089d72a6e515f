/-! a text that becomes another one; a node rewritten -/
theorem L_isRead {M : Mm} {n c same : Int} (hn : 0 ≤ n ∧ n ≤ 30) (hc : 0 ≤ c ∧ c ≤ n) (hc4 : c ≤ M 684 4) (h6 : M 684 6 = M 299 0) (hs : same ≠ 0 → n = M 684 4 ∧ c = n) : f_L_isRead (100 * n + c) same M = some (1, up M 684 4 n) := by
  have e := jremE (x := 100 * n + c) (k := 100) (by omega) (by omega) (by decide) (by decide)
  have e1 : (100 * n + c) % 100 = c := by omega
  have e2 : (100 * n + c) / 100 = n := by omega
  rw [e1, e2] at e
  have g4 : (0 : Nat) ≤ 4 ∧ (4 : Nat) < 11 := by decide
  have g6 : (0 : Nat) ≤ 6 ∧ (6 : Nat) < 11 := by decide
  have x6 : up M 684 4 n 684 6 = M 684 6 := up_off (by decide)
  have x299 : up M 684 4 n 299 = M 299 := up_ne _ _ _ (by decide)
  have hfin : (Clj (f_X11_found (up M 684 4 n)) (up M 684 4 n) fun v14 M13 => if ¬ v14 = M13 684 6 then some (0, M13) else some (1, M13) : Rs) = some (1, up M 684 4 n) := by
    rw [t_found, CljS, jnM_self, x6, x299, h6, if_neg (fun q => q rfl)]
  unfold f_L_isRead
  simp only [LtE, gdE g4, gdE g6]
  rw [e.1, e.2, if_neg (by omega), if_neg (by omega), if_neg (by omega)]
  by_cases cs : same = 0
  · rw [if_pos cs, if_neg (by decide)]
    exact hfin
  · obtain ⟨s1, s2⟩ := hs cs
    rw [if_neg cs, if_neg (fun q => q s1), if_neg (fun q => q s2), if_neg (by decide)]
    exact hfin
/-- the law's rows behind a reading -/
theorem LI.read {RG : Mm → Nat → Int} {M S M' S' N : Mm} {b d v : Int} (h : LI RG M S b) (hc : CI RG M' S') (hr : RdL M S d v M' S') (n0 : ∀ k, k < 681 → N k = M' k) (n1 : ∀ k, 681 ≤ k → k ≤ 683 → N k = M k) (n3 : N 684 3 = M 273 0 + d) (n4 : N 684 4 = S' 0 35) (nx : ∀ i, i ≠ 3 → i ≠ 4 → N 684 i = M 684 i) : LI RG N S' b := by
  obtain ⟨hci, ⟨⟨l1, l2, l3, l4, l5⟩, ⟨l6, l7⟩, l8, l9, l10⟩, h6, hB⟩ := h
  obtain ⟨r1, r2, r3, r4, r6, c, r5⟩ := hr
  have e299 : N 299 0 = M 299 0 := by rw [n0 299 (by decide), r4]
  refine ⟨hc.ext n0, ⟨⟨?_, ?_, ?_, ?_, n4⟩, ⟨?_, ?_⟩, ?_, ?_, ?_⟩, by rw [nx 6 (by decide) (by decide), e299]; exact h6, ⟨by rw [e299]; exact hB.1, by rw [nx 9 (by decide) (by decide)]; exact hB.2.1, by rw [nx 10 (by decide) (by decide)]; exact hB.2.2.1, by rw [n0 283 (by decide)]; exact r6⟩⟩
  · rw [nx 0 (by decide) (by decide), r2 0 (by simp)]; exact l1
  · rw [nx 1 (by decide) (by decide), r2 12 (by simp)]; exact l2
  · rw [nx 2 (by decide) (by decide), r2 19 (by simp)]; exact l3
  · rw [n3, n0 273 (by decide), r3]
  · rw [nx 5 (by decide) (by decide)]; exact l6
  · rw [nx 5 (by decide) (by decide), r1 27 (by decide) (by decide)]; exact l7
  · intro p hp
    rw [r2 0 (by simp)] at hp
    have hs : ∀ j, sy S' p j = sy S p j := fun j => by unfold sy; rw [r1 2 (by decide) (by decide), r1 3 (by decide) (by decide)]
    rw [n1 681 (by decide) (by decide), r1 1 (by decide) (by decide), hs, hs, hs]
    exact l8 p hp
  · intro a ha
    rw [r2 12 (by simp)] at ha
    rw [n1 683 (by decide) (by decide), r1 12 (by decide) (by decide)]
    exact l9 a ha
  · intro e he
    rw [r2 19 (by simp)] at he
    rw [n1 682 (by decide) (by decide), r1 16 (by decide) (by decide), r1 17 (by decide) (by decide), r1 18 (by decide) (by decide), r1 19 (by decide) (by decide)]
    exact l10 e he
theorem x_read {RG : Mm → Nat → Int} {M S : Mm} (h : CI RG M S) : (S 0 0 = 0 → f_X11_read M = some (3, 0, M)) ∧ (S 0 0 ≠ 0 → f_X11_read M = Cl (f_X11_readAgain M) fun v M' => some (0, v, M')) := by
  have e10 : M 1 0 = S 0 0 := h.1.1.1.2.1.1.1
  constructor
  · intro h0
    unfold f_X11_read
    simp only [LtE]
    rw [e10, if_neg (fun q => q h0)]
  · intro h0
    unfold f_X11_read
    simp only [LtE]
    rw [e10, if_pos h0]
theorem L_read0 {RG : Mm → Nat → Int} {M S : Mm} (h : CI RG M S) (h0 : S 0 0 = 0) : f_L_does 9 0 0 0 0 0 M = some (-1000000, M) := by
  rw [does_9, (x_read h).1 h0, CltS, if_neg (by decide), jnM_self]
  rfl
theorem L_isChanged {RG : Mm → Nat → Int} (hRG : RGok RG) {M S : Mm} {b : Int} (h : LI RG M S b) {what one two : Int} (hw : 0 ≤ what ∧ what < 5) (h1 : 0 ≤ one ∧ one < 70000) (h2 : 0 ≤ two ∧ two < 70000) : ∃ M' S', f_L_isChanged what one two M = some (1, M') ∧ LI RG M' S' b := by
  obtain ⟨hci, hLM, h6, hB⟩ := id h
  obtain ⟨⟨l1, l2, l3, l4, l5⟩, -⟩ := id hLM
  obtain ⟨⟨p1, p2, p3, p4, p5⟩, ⟨q1, q2, q3, q4, q5⟩, -, -, -⟩ := hci.1.1.1
  have hL := p4.1
  have n0 := p5.1
  have hlen : M 273 0 = S 0 33 := q4.1
  have g0 : (0 : Nat) ≤ 0 ∧ (0 : Nat) < 11 := by decide
  have g3 : (0 : Nat) ≤ 3 ∧ (3 : Nat) < 11 := by decide
  have e14 := (jremE (x := one) (k := 14) h1.1 (by omega) (by decide) (by decide)).1
  have e13 := (jremE (x := one) (k := 13) h1.1 (by omega) (by decide) (by decide)).1
  have e30 := (jremE (x := two) (k := 30) h2.1 (by omega) (by decide) (by decide)).1
  have e6 := (jremE (x := two) (k := 6) h2.1 (by omega) (by decide) (by decide)).1
  unfold f_L_isChanged
  simp only [LtE, gdE g0, gdE g3]
  by_cases c3 : 3 ≤ what
  · rw [if_pos c3]
    by_cases c4 : what = 3
    · rw [if_neg (fun q => q c4), e13]
      obtain ⟨c, w, M', S', a1, a2, a3, a4, a5⟩ := t_delete hRG hci (one % 13)
      by_cases k1 : one % 13 < S 0 33
      · rw [if_neg (by omega)] at a3
        by_cases k0 : S 0 0 = 0
        · rw [if_pos k0] at a3
          have hd : f_L_does 8 (one % 13) 0 0 0 0 M = some (-1000000, M) := by
            rw [does_8, Clt_fail a1 (by simp only; rw [a3]; decide) (a4 (by rw [a3]; decide)).1]
            simp only
            rw [a3]; rfl
          refine ⟨M, S, ?_, h⟩
          rw [hd, ClS, if_pos (by rw [l4, hlen]; exact k1), l1, if_neg (fun q => q k0), if_neg (by decide), if_neg (fun q => q rfl)]
        · rw [if_neg k0] at a3
          have hr := a5 a3
          obtain ⟨r1, r2, r3, r4, r6, x, x1, x2, x3, x4⟩ := id hr
          have n1 := a2.1.1.1.1.2.2.2.2.1
          have hd : f_L_does 8 (one % 13) 0 0 0 0 M = some (w, jnM M' M) := by rw [does_8, Clt_ok a1 a3]
          have e684 : jnM M' M 684 = M 684 := jnM_hi (by decide)
          have ew : wr (M 684 3 - 1) = M 273 0 + -1 := by rw [l4, wrE (by omega) (by omega)]; omega
          generalize hN : up (jnM M' M) 684 3 (M 273 0 + -1) = N
          have nn : ∀ k, k ≠ 684 → N k = jnM M' M k := fun k hk => by rw [← hN, up_ne _ _ _ hk]
          have n684 : ∀ i, i ≠ 3 → N 684 i = M 684 i := fun i hi => by
            rw [← hN]
            have : up (jnM M' M) 684 3 (M 273 0 + -1) 684 i = jnM M' M 684 i := up_off hi
            rw [this, e684]
          have hrd := L_isRead (M := N) (n := S' 0 35) (c := x) (same := 0) n1 ⟨x2, x3⟩ (by rw [n684 4 (by decide), l5]; exact x4) (by rw [n684 6 (by decide), h6, nn 299 (by decide), jnM_lo (by decide), r4]) (fun q => absurd rfl q)
          rw [← x1] at hrd
          refine ⟨up N 684 4 (S' 0 35), S', ?_, h.read a2 hr (fun k hk => by rw [up_ne _ _ _ (by omega), nn k (by omega), jnM_lo hk]) (fun k hk1 hk2 => by rw [up_ne _ _ _ (by omega), nn k (by omega), jnM_hi hk1]) ?_ (up_at _ _ _ _) fun i i3 i4 => ?_⟩
          · rw [hd, ClS, e684, if_pos (by rw [l4, hlen]; exact k1), l1, if_pos k0, if_pos (by decide), ew, hN, if_neg (by omega), hrd, ClS, if_neg (by decide)]
          · have : up N 684 4 (S' 0 35) 684 3 = N 684 3 := up_off (by decide)
            rw [this, ← hN, up_at]
          · have : up N 684 4 (S' 0 35) 684 i = N 684 i := up_off i4
            rw [this, n684 i i3]
      · rw [if_pos (by omega)] at a3
        have hd : f_L_does 8 (one % 13) 0 0 0 0 M = some (-3000000, M) := by
          rw [does_8, Clt_fail a1 (by simp only; rw [a3]; decide) (a4 (by rw [a3]; decide)).1]
          simp only
          rw [a3]; rfl
        refine ⟨M, S, ?_, h⟩
        rw [hd, ClS, if_neg (by rw [l4, hlen]; exact k1), if_neg (by decide), if_neg (fun q => q rfl)]
    · rw [if_pos c4]
      by_cases k0 : S 0 0 = 0
      · refine ⟨M, S, ?_, h⟩
        rw [L_read0 hci k0, ClS, l1, if_neg (fun q => q k0), if_neg (fun q => q rfl)]
      · obtain ⟨v, M', S', C1, a1, -, a3, a4, a5⟩ := t_readAgain hRG hci
        obtain ⟨r1, r2, r3, r4, r6, x, x1, x2, x3, x4⟩ := id a4
        have n1 := a3.1.1.1.1.2.2.2.2.1
        have hd : f_L_does 9 0 0 0 0 0 M = some (v, jnM M' M) := by rw [does_9, (x_read hci).2 k0, a1, ClS, CltS, if_pos rfl]
        have e684 : jnM M' M 684 = M 684 := jnM_hi (by decide)
        have hrd := L_isRead (M := jnM M' M) (n := S' 0 35) (c := x) (same := 0) n1 ⟨x2, x3⟩ (by rw [e684, l5]; exact x4) (by rw [e684, h6, jnM_lo (by decide), r4]) (fun q => absurd rfl q)
        rw [← x1] at hrd
        generalize hN : up (jnM M' M) 684 4 (S' 0 35) = N at hrd
        have nn : ∀ k, k ≠ 684 → N k = jnM M' M k := fun k hk => by rw [← hN, up_ne _ _ _ hk]
        have n684 : ∀ i, i ≠ 4 → N 684 i = M 684 i := fun i hi => by
          rw [← hN]
          have : up (jnM M' M) 684 4 (S' 0 35) 684 i = jnM M' M 684 i := up_off hi
          rw [this, e684]
        have n4 : N 684 4 = S' 0 35 := by rw [← hN, up_at]
        have hLN : LI RG N S' b := h.read a3 a4 (fun k hk => by rw [nn k (by omega), jnM_lo hk]) (fun k hk1 hk2 => by rw [nn k (by omega), jnM_hi hk1]) (by rw [n684 3 (by decide), l4]; omega) n4 fun i _ i4 => n684 i i4
        obtain ⟨w, M2, S2, b1, b2, b3, b4, b5⟩ := t_readTwice hRG hci a5 hLN.1
        have k0' : S' 0 0 ≠ 0 := by rw [r2 0 (by simp)]; exact k0
        have hd2 : f_L_does 9 0 0 0 0 0 N = some (w, jnM M2 N) := by rw [does_9, (x_read hLN.1).2 k0', b1, ClS, CltS, if_pos rfl]
        have f684 : jnM M2 N 684 = N 684 := jnM_hi (by decide)
        have hrd2 := L_isRead (M := jnM M2 N) (n := S2 0 35) (c := S2 0 35) (same := 1) (by omega) ⟨by omega, Int.le_refl _⟩ (by rw [f684, n4]; omega) (by rw [f684, hLN.2.2.1, jnM_lo (by decide), b3.2.2.2.1]) (fun _ => ⟨by rw [f684, n4, b4], rfl⟩)
        rw [show 100 * S2 0 35 + S2 0 35 = w by rw [b5, b4]; omega] at hrd2
        refine ⟨up (jnM M2 N) 684 4 (S2 0 35), S2, ?_, hLN.read b2 b3 (fun k hk => by rw [up_ne _ _ _ (by omega), jnM_lo hk]) (fun k hk1 hk2 => by rw [up_ne _ _ _ (by omega), jnM_hi hk1]) ?_ (up_at _ _ _ _) fun i i3 i4 => ?_⟩
        · rw [hd, ClS, e684, l1, if_pos k0, if_neg (by omega), hrd, ClS, if_neg (by decide), hd2, ClS, if_neg (by decide), hrd2, ClS, if_neg (by decide)]
        · have : up (jnM M2 N) 684 4 (S2 0 35) 684 3 = jnM M2 N 684 3 := up_off (by decide)
          have z := hLN.2.1.1.2.2.2.1
          rw [this, f684, z]; omega
        · have : up (jnM M2 N) 684 4 (S2 0 35) 684 i = jnM M2 N 684 i := up_off i4
          rw [this, f684]
  · rw [if_neg c3, e14, e30]
    -- the letter
    have hlet : ∃ lt : Int, (97 ≤ lt ∧ lt ≤ 103) ∧ ∀ F : Int → Mm → Rs, (if ¬ two % 30 = 0 then F (wr (97 + jrem two 6)) M else F 103 M) = F lt M := by
      by_cases c : two % 30 = 0
      · exact ⟨103, by decide, fun F => by rw [if_neg (fun q => q c)]⟩
      · refine ⟨97 + two % 6, by omega, fun F => ?_⟩
        rw [if_pos c, e6, wrE (by omega) (by omega)]
    obtain ⟨lt, hlt, hF⟩ := hlet
    obtain ⟨c, w, M', S', a1, a2, a3, a4, a5⟩ := t_insert hRG hci (one % 14) lt
    have hfail : ∀ cd : Int, c ≠ 0 → cdL c = cd → f_L_does 7 (one % 14) lt 0 0 0 M = some (cd, M) := fun cd h0 hcd => by
      rw [does_7, Clt_fail a1 h0 (a4 h0).1, ← hcd]
    have hbody := hF fun v61 M62 => Cl (f_L_does 7 (one % 14) v61 0 0 0 M62) fun v65 M64 => if one % 14 ≤ M64 684 3 then (if v61 ≤ 102 then (if M64 684 3 = 12 then (if (0 : Int) ≤ -1000000 then (if v65 < 0 then some (0, up M64 684 3 (wr (M64 684 3 + 1))) else Cl (f_L_isRead v65 0 (up M64 684 3 (wr (M64 684 3 + 1)))) fun v81 M80 => if v81 = 0 then some (0, M80) else some (1, M80)) else (if ¬ v65 = -1000000 then some (0, M64) else some (1, M64))) else (if ¬ M64 684 0 = 0 then (if (0 : Int) ≤ 0 then (if v65 < 0 then some (0, up M64 684 3 (wr (M64 684 3 + 1))) else Cl (f_L_isRead v65 0 (up M64 684 3 (wr (M64 684 3 + 1)))) fun v81 M80 => if v81 = 0 then some (0, M80) else some (1, M80)) else (if ¬ v65 = 0 then some (0, M64) else some (1, M64))) else (if (0 : Int) ≤ -1000000 then (if v65 < 0 then some (0, up M64 684 3 (wr (M64 684 3 + 1))) else Cl (f_L_isRead v65 0 (up M64 684 3 (wr (M64 684 3 + 1)))) fun v81 M80 => if v81 = 0 then some (0, M80) else some (1, M80)) else (if ¬ v65 = -1000000 then some (0, M64) else some (1, M64))))) else (if (0 : Int) ≤ -2000000 then (if v65 < 0 then some (0, up M64 684 3 (wr (M64 684 3 + 1))) else Cl (f_L_isRead v65 0 (up M64 684 3 (wr (M64 684 3 + 1)))) fun v81 M80 => if v81 = 0 then some (0, M80) else some (1, M80)) else (if ¬ v65 = -2000000 then some (0, M64) else some (1, M64)))) else (if (0 : Int) ≤ -3000000 then (if v65 < 0 then some (0, up M64 684 3 (wr (M64 684 3 + 1))) else Cl (f_L_isRead v65 0 (up M64 684 3 (wr (M64 684 3 + 1)))) fun v81 M80 => if v81 = 0 then some (0, M80) else some (1, M80)) else (if ¬ v65 = -3000000 then some (0, M64) else some (1, M64)))
    rw [hbody]
    by_cases k1 : one % 14 ≤ S 0 33
    case neg =>
      rw [if_pos (by omega)] at a3
      refine ⟨M, S, ?_, h⟩
      rw [hfail (-3000000) (by rw [a3]; decide) (by rw [a3]; rfl), ClS, if_neg (by rw [l4, hlen]; exact k1), if_neg (by decide), if_neg (fun q => q rfl)]
    rw [if_neg (by omega)] at a3
    by_cases k2 : lt ≤ 102
    case neg =>
      rw [if_pos (by omega)] at a3
      refine ⟨M, S, ?_, h⟩
      rw [hfail (-2000000) (by rw [a3]; decide) (by rw [a3]; rfl), ClS, if_pos (by rw [l4, hlen]; exact k1), if_neg k2, if_neg (by decide), if_neg (fun q => q rfl)]
    rw [if_neg (by omega)] at a3
    by_cases k3 : S 0 33 = 12 ∨ S 0 0 = 0
    · rw [if_pos k3] at a3
      refine ⟨M, S, ?_, h⟩
      rw [hfail (-1000000) (by rw [a3]; decide) (by rw [a3]; rfl), ClS, if_pos (by rw [l4, hlen]; exact k1), if_pos k2]
      by_cases k4 : M 684 3 = 12
      · rw [if_pos k4, if_neg (by decide), if_neg (fun q => q rfl)]
      · rw [if_neg k4, l1, if_neg (fun q => q (k3.resolve_left (by omega))), if_neg (by decide), if_neg (fun q => q rfl)]
    · rw [if_neg k3] at a3
      have hr := a5 a3
      obtain ⟨r1, r2, r3, r4, r6, x, x1, x2, x3, x4⟩ := id hr
      have n1 := a2.1.1.1.1.2.2.2.2.1
      have hd : f_L_does 7 (one % 14) lt 0 0 0 M = some (w, jnM M' M) := by rw [does_7, Clt_ok a1 a3]
      have e684 : jnM M' M 684 = M 684 := jnM_hi (by decide)
      have ew : wr (M 684 3 + 1) = M 273 0 + 1 := by rw [l4, wrE (by omega) (by omega)]
      generalize hN : up (jnM M' M) 684 3 (M 273 0 + 1) = N
      have nn : ∀ k, k ≠ 684 → N k = jnM M' M k := fun k hk => by rw [← hN, up_ne _ _ _ hk]
      have n684 : ∀ i, i ≠ 3 → N 684 i = M 684 i := fun i hi => by
        rw [← hN]
        have : up (jnM M' M) 684 3 (M 273 0 + 1) 684 i = jnM M' M 684 i := up_off hi
        rw [this, e684]
      have hrd := L_isRead (M := N) (n := S' 0 35) (c := x) (same := 0) n1 ⟨x2, x3⟩ (by rw [n684 4 (by decide), l5]; exact x4) (by rw [n684 6 (by decide), h6, nn 299 (by decide), jnM_lo (by decide), r4]) (fun q => absurd rfl q)
      rw [← x1] at hrd
      refine ⟨up N 684 4 (S' 0 35), S', ?_, h.read a2 hr (fun k hk => by rw [up_ne _ _ _ (by omega), nn k (by omega), jnM_lo hk]) (fun k hk1 hk2 => by rw [up_ne _ _ _ (by omega), nn k (by omega), jnM_hi hk1]) ?_ (up_at _ _ _ _) fun i i3 i4 => ?_⟩
      · have k33 : ¬ M 684 3 = 12 := fun q => k3 (Or.inl (by omega))
        have k00 : ¬ S 0 0 = 0 := fun q => k3 (Or.inr q)
        rw [hd, ClS, e684, if_pos (by rw [l4, hlen]; exact k1), if_pos k2, if_neg k33, l1, if_pos k00, if_pos (by decide), if_neg (by omega), ew, hN, hrd, ClS, if_neg (by decide)]
      · have : up N 684 4 (S' 0 35) 684 3 = N 684 3 := up_off (by decide)
        rw [this, ← hN, up_at]
      · have : up N 684 4 (S' 0 35) 684 i = N 684 i := up_off i4
        rw [this, n684 i i3]
