/-! the class between calls: all that the law asks of it -/
theorem Inv.ext {RG : Mm → Nat → Int} {M S M' : Mm} (h : Inv RG M S 0) (e : ∀ k, k < 681 → M' k = M k) : Inv RG M' S 0 := by
  obtain ⟨hp, hV, hR, V, H, b1, b2, b3⟩ := id h
  obtain ⟨⟨p1, p2, p3, p4, p5⟩, ⟨q1, q2, q3, q4, q5⟩, q6, q7, p6⟩ := id hp
  refine h.re 0 (fun _ _ => rfl) (fun _ _ => rfl) (fun j hj => e j (by omega)) (by rw [e 299 (by decide)]; exact q7) (q6.of fun k hk => e k (by omega)) p6 ?_ ⟨V, H, b1, ?_, b3⟩
  · unfold CR at hR ⊢
    rw [e 676 (by decide), e 309 (by decide)]
    exact hR
  · unfold CK at b2 ⊢
    rw [e 301 (by decide), e 300 (by decide)]
    exact b2
def X2 (S : Mm) : Prop := ∀ p : Int, 0 ≤ p → p < S 0 0 → S 10 p.toNat ≠ -1 → S 1 (S 10 p.toNat).toNat = S 1 p.toNat
def CI (RG : Mm → Nat → Int) (M S : Mm) : Prop := CI0 RG M S ∧ X2 S ∧ HdS S S
theorem nch_row {S S' : Mm} (e : S' 3 = S 3) : nch S' = nch S := by
  funext p n
  induction n with
  | zero => rfl
  | succ n ih => simp only [nch]; rw [ih, e]
theorem HdN_S {S S' R : Mm} {n : Nat} (e : ∀ j, j = 1 ∨ j = 2 ∨ j = 3 → S' j = S j) (h : HdN S R n) : HdN S' R n := by
  unfold HdN HdE at h ⊢
  rw [nch_row (e 3 (by simp)), e 1 (by simp), e 2 (by simp), e 3 (by simp)]
  exact h
theorem HdS_same {S S' : Mm} (h : HdS S S) (e : ∀ j, j = 1 ∨ j = 2 ∨ j = 3 ∨ (30 ≤ j ∧ j ≤ 33) → S' j = S j) (e35 : S' 0 35 = S 0 35) : HdS S' S' := by
  intro n hn
  rw [e35] at hn
  obtain ⟨h1, h2⟩ := h n hn
  have h3 := HdN_S (S' := S') (fun j hj => e j (by omega)) h1
  refine ⟨?_, by rw [e 1 (by simp), e 31 (by simp), e 30 (by simp)]; exact h2⟩
  unfold HdN HdE at h3 ⊢
  rw [e 30 (by simp), e 32 (by simp), e 33 (by simp)]
  exact h3
theorem X2_same {S S' : Mm} (h : X2 S) (e : ∀ j, j = 1 ∨ j = 10 → S' j = S j) (e0 : S' 0 0 = S 0 0) : X2 S' := by
  unfold X2 at h ⊢
  rw [e 1 (by simp), e 10 (by simp), e0]
  exact h
theorem CI.ext {RG : Mm → Nat → Int} {M S M' : Mm} (h : CI RG M S) (e : ∀ k, k < 681 → M' k = M k) : CI RG M' S := by
  refine ⟨⟨h.1.1.ext e, ?_⟩, h.2⟩
  rw [e 300 (by decide), e 301 (by decide)]
  exact h.1.2
theorem CI.q {RG : Mm → Nat → Int} {M S M' S' : Mm} (h : CI RG M S) (h0 : CI0 RG M' S') (hq : AgQ S S') : CI RG M' S' :=
  ⟨h0, X2_same h.2.1 (fun j hj => hq.1 j (by omega) (by omega) (by omega)) (hq.2 0 (by simp)), HdS_same h.2.2 (fun j hj => hq.1 j (by omega) (by omega) (by omega)) (hq.2 35 (by simp))⟩
theorem Ag87.q {S S' : Mm} (h : Ag87 S S') : AgQ S S' := ⟨fun j j1 _ _ => h.1 j (by omega), fun i hi => h.2 i (by omega)⟩
theorem CI.fail {RG : Mm → Nat → Int} (hRG : RGok RG) {M S S' : Mm} (h : CI RG M S) (hI : Inv RG M S' 0) (ha : Ag87 S S') : CI RG M S' := h.q ⟨hI, CI0.to hRG h.1.2 ha.q rfl rfl⟩ ha.q
theorem KpO_zero {S : Mm} {rg bv bh : Nat → Int} {op : List Int} (h : ∀ i, i < 180 → bh i = 0) : KpO S rg op bv bh := fun s hs hne => absurd (h s hs) hne
/-- a grammar call that leaves heads and symbols as they are -/
theorem CI.gram {RG : Mm → Nat → Int} {M S M' S' : Mm} (h : CI RG M S) (hI : Inv RG M' S' 0) (hg : GrX M M') (e : ∀ j, j = 1 ∨ j = 2 ∨ j = 3 ∨ (30 ≤ j ∧ j ≤ 33) → S' j = S j) (e35 : S' 0 35 = S 0 35) (hx : X2 S') : CI RG M' S' :=
  ⟨⟨hI, KpO_zero hg.1⟩, hx, HdS_same h.2.2 e e35⟩
theorem HdS_prod {S S' : Mm} (hN : Okn S) (hg : Okg S) (h : HdS S S) (e1 : ∀ i, i ≠ (S 0 0).toNat → S' 1 i = S 1 i) (e2 : ∀ i, i ≠ (S 0 0).toNat → S' 2 i = S 2 i) (e3 : ∀ i : Nat, ¬ (3 * S 0 0 ≤ i ∧ (i : Int) < 3 * S 0 0 + 3) → S' 3 i = S 3 i) (er : ∀ j, 30 ≤ j ∧ j ≤ 33 → S' j = S j) (e35 : S' 0 35 = S 0 35) : HdS S' S' := by
  intro n hn
  rw [e35] at hn
  obtain ⟨h1, h2⟩ := h n hn
  have ho := hN.2.2 n hn
  have h10 := hg.1
  unfold HdN HdE at h1 ⊢
  rw [er 30 (by omega), er 31 (by omega), er 32 (by omega), er 33 (by omega), e1 _ (by have := ho.1; omega), e1 _ (by have := ho.2.1; omega)]
  refine ⟨⟨h1.1, fun q => ?_⟩, h2⟩
  obtain ⟨i, i1, i2, i3, i4⟩ := h1.2 q
  simp only at q i1 i2 i3 i4 ⊢
  have hn0 : n ≠ 0 := fun c => by have := (ho.2.2.2.2.2.1 c).1; omega
  have h7 := ho.2.2.2.2.2.2.1 (by omega)
  have hp := (hN.2.2 (S 32 n).toNat (by omega)).1
  have h23 := (hg.2.2.2.1 _ hp.1 hp.2).2.1
  have z2 := e2 (S 30 (S 32 n).toNat).toNat (by omega)
  have z3 := e3 (3 * S 30 (S 32 n).toNat + (i : Int)).toNat (by omega)
  refine ⟨i, by rw [z2]; exact i1, by rw [z3]; exact i2, by rw [z3]; exact i3, ?_⟩
  rw [nch_eq (S := S) i fun j hj => e3 _ (by omega)]
  exact i4
theorem g24_step {RG : Mm → Nat → Int} (hRG : RGok RG) {MC MR : Mm} (kd a b : Int) (hI : Inv RG MC MR 0) : ∃ (r : Int × Int × Mm) (q : Int × Mm), f_X11_step kd a b MC = some r ∧ f_X12_step kd a b MR = some q ∧ (r.1 = 0 ∨ r.1 = 1 ∨ r.1 = 2 ∨ r.1 = 3) ∧ q.2 0 87 = (if r.1 = 1 then 1 else if r.1 = 2 then 2 else if r.1 = 3 then 3 else 0) ∧ (r.1 = 0 → r.2.1 = q.1) ∧ Inv RG r.2.2 q.2 0 ∧ r.1 = (if ¬ stA MR kd a then 1 else if ¬ stB kd a b then 2 else if MR 0 15 < (tkn kd : Int) ∨ MR 0 14 = 8 then 3 else 0) ∧ (r.1 ≠ 0 → r.2.2 = MC ∧ Ag87 MR q.2) ∧ (r.1 = 0 → q.1 = MR 0 15 + (1 - (tkn kd : Int)) ∧ q.2 0 14 = MR 0 14 + 1 ∧ q.2 0 15 = MR 0 15 + (1 - (tkn kd : Int)) ∧ (∀ j, j ≠ 0 → ¬ (13 ≤ j ∧ j ≤ 15) → q.2 j = MR j) ∧ (∀ i, i ≠ 14 → i ≠ 15 → i ≠ 87 → q.2 0 i = MR 0 i) ∧ ∀ j, ¬ (14 ≤ j ∧ j ≤ 21) → r.2.2 j = MC j) := by
  obtain ⟨⟨⟨p1, p2, p3, p4, p5⟩, ⟨q1, q2, q3, q4, q5⟩, q6, q7, p6⟩, hV, hR, hB⟩ := id hI
  have hA := p1.2.1
  have hd := p2.1
  have hl := stk_len_le (MR 13) (MR 0 14).toNat
  have ht3 := tkn_le kd
  have h15 := p2.2.2
  rw [c_stepE q1, r_stepE hA, r_fails, ClS]
  by_cases h1 : stA MR kd a
  case neg =>
    refine ⟨(1, 0, MC), (0, up MR 0 87 1), by rw [if_pos h1], ?_, by simp, by simp [up], by simp, hI.thr hRG _ _, by rw [if_pos h1], fun _ => ⟨rfl, Ag87_up⟩, fun h => absurd h (by simp)⟩
    rw [if_pos (c := ¬ stA MR kd a) h1, if_neg (by decide)]
  have y1 : ¬ ¬ stA MR kd a := fun q => q h1
  rw [if_neg y1, if_neg y1]
  by_cases h2 : stB kd a b
  case neg =>
    refine ⟨(2, 0, MC), (0, up MR 0 87 2), by rw [if_pos h2], ?_, by simp, by simp [up], by simp, hI.thr hRG _ _, by rw [if_pos h2], fun _ => ⟨rfl, Ag87_up⟩, fun h => absurd h (by simp)⟩
    rw [if_pos (c := ¬ stB kd a b) h2, if_neg (by decide)]
  have y2 : ¬ ¬ stB kd a b := fun q => q h2
  rw [if_neg y2, if_neg y2, q2.1, q2.2.1]
  by_cases h3 : MR 0 15 < (tkn kd : Int) ∨ MR 0 14 = 8
  case pos =>
    refine ⟨(3, 0, MC), (0, up MR 0 87 3), by rw [if_neg (by omega)], ?_, by simp, by simp [up], by simp, hI.thr hRG _ _, by rw [if_pos h3], fun _ => ⟨rfl, Ag87_up⟩, fun h => absurd h (by simp)⟩
    rw [if_pos h3, if_neg (by decide)]
  rw [if_neg h3, if_pos (c := MR 0 14 < 8 ∧ _) (by omega), if_pos (by decide)]
  have hb : stBody kd a b (up MR 0 87 0) = some (MR 0 15 + (1 - (tkn kd : Int)), up (up (up (up (up (up MR 0 87 0) 13 (MR 0 14).toNat kd) 14 (MR 0 14).toNat a) 15 (MR 0 14).toNat b) 0 14 (MR 0 14 + 1)) 0 15 (MR 0 15 + (1 - (tkn kd : Int)))) := by
    unfold stBody
    have e0 : up MR 0 87 0 0 14 = MR 0 14 := by simp [up]
    simp only [LtE, r_taken, ClS, e0]
    rw [gdE (by omega)]
    have e1 : up (up MR 0 87 0) 13 (MR 0 14).toNat kd 0 14 = MR 0 14 := by simp [up]
    rw [e1, gdE (by omega)]
    have e2 : up (up (up MR 0 87 0) 13 (MR 0 14).toNat kd) 14 (MR 0 14).toNat a 0 14 = MR 0 14 := by simp [up]
    rw [e2, gdE (by omega)]
    have e3 : up (up (up (up MR 0 87 0) 13 (MR 0 14).toNat kd) 14 (MR 0 14).toNat a) 15 (MR 0 14).toNat b 0 14 = MR 0 14 := by simp [up]
    rw [e3, wrE (by omega) (by omega)]
    have e4 : up (up (up (up (up MR 0 87 0) 13 (MR 0 14).toNat kd) 14 (MR 0 14).toNat a) 15 (MR 0 14).toNat b) 0 14 (MR 0 14 + 1) 0 15 = MR 0 15 := by simp [up]
    rw [e4, wrE (v := 1 - (tkn kd : Int)) (by omega) (by omega), wrE (v := MR 0 15 + (1 - (tkn kd : Int))) (by omega) (by omega), up_at]
  rw [hb]
  have hn : (MR 0 14).toNat < 8 := by omega
  obtain ⟨q21, q22, q23, q24⟩ := q2
  obtain ⟨r, hr, w1, w2, w3, w4, w5⟩ := c_append (M := MC) (K := MR 13) (A := MR 14) (B := MR 15) (kd := kd) (a := a) (b := b) hn (by rw [q21]; omega) (by rw [q22]; exact h15) (fun k hk => (p2.2.1 k hk).2) (by omega) q23 q24
  rw [hr]
  generalize hM' : up (up (up (up (up (up MR 0 87 0) 13 (MR 0 14).toNat kd) 14 (MR 0 14).toNat a) 15 (MR 0 14).toNat b) 0 14 (MR 0 14 + 1)) 0 15 (MR 0 15 + (1 - (tkn kd : Int))) = M'
  have m0 : ∀ i, i ≠ 14 → i ≠ 15 → i ≠ 87 → M' 0 i = MR 0 i := fun i j1 j2 j3 => by rw [← hM']; simp [up, j1, j2, j3]
  have m14 : M' 0 14 = MR 0 14 + 1 := by rw [← hM']; simp [up]
  have m15 : M' 0 15 = MR 0 15 + (1 - (tkn kd : Int)) := by rw [← hM', up_at]
  have mr : ∀ j, j ≠ 0 → ¬ (13 ≤ j ∧ j ≤ 15) → M' j = MR j := fun j j1 j2 => by rw [← hM', up_ne _ _ _ j1, up_ne _ _ _ j1, up_ne _ _ _ (by omega), up_ne _ _ _ (by omega), up_ne _ _ _ (by omega), up_ne _ _ _ j1]
  have z13 : M' 13 = se (MR 13) (MR 0 14).toNat kd := by rw [← hM']; simp [up_ne, up_se, sr_at, sr_ne]
  have z14 : M' 14 = se (MR 14) (MR 0 14).toNat a := by rw [← hM']; simp [up_ne, up_se, sr_at, sr_ne]
  have z15 : M' 15 = se (MR 15) (MR 0 14).toNat b := by rw [← hM']; simp [up_ne, up_se, sr_at, sr_ne]
  have z87 : M' 0 87 = 0 := by rw [← hM']; simp [up]
  have hlen : (stk (se (MR 13) (MR 0 14).toNat kd) ((MR 0 14).toNat + 1)).length = (stk (MR 13) (MR 0 14).toNat).length - tkn kd + 1 := by
    rw [stk_len, stk_congr (K := MR 13) _ (fun i hi => se_ne _ _ (by omega)), se_at]
  have e14 : (MR 0 14 + 1).toNat = (MR 0 14).toNat + 1 := by omega
  refine ⟨(0, r.2 14 5, r.2), (_, M'), rfl, rfl, by simp, by simp [z87], fun _ => ?_, hI.draft hRG _ mr m0 w5 ?_ ?_, rfl, fun h => absurd rfl h, fun _ => ⟨rfl, m14, m15, mr, m0, w5⟩⟩
  · simp only; rw [w2, hlen]; omega
  · unfold Okd
    simp only
    rw [m14, m15, z13, z14, z15, e14, hlen]
    refine ⟨by omega, fun j hj => ?_, by omega⟩
    by_cases e : j = (MR 0 14).toNat
    · subst e
      rw [se_at, se_at, se_at, stk_congr (K := MR 13) _ (fun i hi => se_ne _ _ (by omega))]
      exact ⟨(stepOk_of h1 h2).of (by rw [m0 12 (by decide) (by decide) (by decide)]; exact Int.le_refl _), by omega⟩
    · have := p2.2.1 j (by omega)
      rw [se_ne _ _ e, se_ne _ _ e, se_ne _ _ e, stk_congr (K := MR 13) _ (fun i hi => se_ne _ _ (by omega))]
      exact ⟨this.1.of (by rw [m0 12 (by decide) (by decide) (by decide)]; exact Int.le_refl _), this.2⟩
  · unfold CD
    simp only
    rw [m14, m15, z13, z14, z15, e14]
    refine ⟨by rw [w1]; omega, by rw [w2, hlen]; omega, w3, w4⟩
theorem t_dropSteps {RG : Mm → Nat → Int} (hRG : RGok RG) {M S : Mm} (h : CI RG M S) : ∃ M' S', f_X11_dropSteps M = some (S 0 14, M') ∧ 0 ≤ S 0 14 ∧ CI RG M' S' ∧ AgQ S S' ∧ S' 0 14 = 0 ∧ S' 0 15 = 0 ∧ ∀ j, j ≠ 14 → M' j = M j := by
  obtain ⟨⟨hI, hK⟩, h2, h3⟩ := id h
  have q2 := hI.1.2.1.2.1
  have p2 := hI.1.1.2.1
  have e14 : (up (up S 0 14 0) 0 15 0) 0 14 = 0 := by simp [up]
  have e15 : (up (up S 0 14 0) 0 15 0) 0 15 = 0 := by simp [up]
  have hq : AgQ S (up (up S 0 14 0) 0 15 0) := ⟨fun j j1 _ _ => by rw [up_ne _ _ _ (by omega), up_ne _ _ _ (by omega)], fun i hi => by
    have a1 : i ≠ 14 := by omega
    have a2 : i ≠ 15 := by omega
    simp [up, a1, a2]⟩
  have hm : ∀ j, j ≠ 14 → up (up M 14 4 0) 14 5 0 j = M j := fun j hj => by rw [up_ne _ _ _ hj, up_ne _ _ _ hj]
  refine ⟨up (up M 14 4 0) 14 5 0, up (up S 0 14 0) 0 15 0, ?_, p2.1.1, h.q ⟨hI.draft hRG _ (fun j j1 j2 => by rw [up_ne _ _ _ j1, up_ne _ _ _ j1]) (fun i i1 i2 i3 => by simp [up, i1, i2]) (fun j hj => hm j (by omega)) ?_ ?_, CI0.to hRG hK hq (hm 300 (by decide)) (hm 301 (by decide))⟩ hq, hq, e14, e15, hm⟩
  · unfold f_X11_dropSteps f_X0_clear
    simp only [LtE, ClS]
    rw [q2.1]
  · unfold Okd
    rw [e14, e15]
    exact ⟨by decide, fun k hk => absurd hk (Nat.not_lt_zero _), rfl⟩
  · unfold CD
    rw [e14, e15]
    refine ⟨by simp [up], by simp [up], ⟨fun k hk => absurd hk (Nat.not_lt_zero _), fun r hr => by cases hr⟩, fun i hi => absurd hi (Nat.not_lt_zero _)⟩
/-- a new text, read -/
def RdL (M S : Mm) (d v : Int) (M' S' : Mm) : Prop := (∀ j, 1 ≤ j → j ≤ 28 → S' j = S j) ∧ (∀ i, i = 0 ∨ i = 12 ∨ i = 19 → S' 0 i = S 0 i) ∧ M' 273 0 = M 273 0 + d ∧ M' 299 0 = M 299 0 ∧ (M' 283 0 ≠ 0 → 0 ≤ M' 283 1) ∧ ∃ c : Int, v = 100 * S' 0 35 + c ∧ 0 ≤ c ∧ c ≤ S' 0 35 ∧ c ≤ S 0 35
theorem CI.read {RG : Mm → Nat → Int} {M S M' S' C1 : Mm} {v : Int} (h : CI RG M S) (hI : Inv RG M' S' 0) (hK : KpO S' (RG S') [] (M' 300) (M' 301)) (hr : Rdx M S v S' C1) : CI RG M' S' ∧ RdL M S 0 v M' S' := by
  obtain ⟨⟨r1, r2⟩, r3, r4, r5, c, c1, c2, c3, c4, c5⟩ := hr
  refine ⟨⟨⟨hI, hK⟩, X2_same h.2.1 (fun j hj => r1 j (by omega) (by omega)) (r2 0 (by decide) (by decide) (by decide) (by decide) (by decide)), fun n hn => ⟨HdN_S (fun j hj => r1 j (by omega) (by omega)) (r3 n hn).1, by rw [r1 1 (by decide) (by decide)]; exact (r3 n hn).2⟩⟩, fun j j1 j2 => r1 j j1 (by omega), fun i hi => r2 i (by omega) (by omega) (by omega) (by omega) (by omega), ?_, ?_, fun q => ?_, c, c1, c2, c3, c4⟩
  · have e1 := hI.1.2.1.2.2.2.1.1
    have e2 := h.1.1.1.2.1.2.2.2.1.1
    rw [e1, e2, r2 33 (by decide) (by decide) (by decide) (by decide) (by decide)]
    omega
  · have e1 := hI.1.2.2.2.1.1
    have e2 := h.1.1.1.2.2.2.1.1
    rw [e1, e2, r2 67 (by decide) (by decide) (by decide) (by decide) (by decide)]
  · have hcn := hI.1.2.1.2.2.2.2
    rw [hcn.1] at q
    rw [hcn.2.1 q]
    exact r5 q
theorem t_readAgain {RG : Mm → Nat → Int} (hRG : RGok RG) {M S : Mm} (h : CI RG M S) : ∃ v M' S' C1, f_X11_readAgain M = some (v, M') ∧ f_X12_reads S = some (v, S') ∧ CI RG M' S' ∧ RdL M S 0 v M' S' ∧ Rdx M S v S' C1 := by
  obtain ⟨v, M', S', C1, a1, a2, a3, a4, a5, a6⟩ := both_readAgain24 hRG h.1.1 h.1.2 (fun n hn => (h.2.2 n hn).2) 0
  have := h.read a3 a5 a6
  exact ⟨v, M', S', C1, a1, a2, this.1, this.2, a6⟩
/-- what was read is read again: all is kept -/
theorem t_readTwice {RG : Mm → Nat → Int} (hRG : RGok RG) {M S : Mm} (h : CI RG M S) {v : Int} {S' C1 : Mm} (a5 : Rdx M S v S' C1) {N : Mm} (a3 : CI RG N S') : ∃ w M2 S2, f_X11_readAgain N = some (w, M2) ∧ CI RG M2 S2 ∧ RdL N S' 0 w M2 S2 ∧ S2 0 35 = S' 0 35 ∧ w = 101 * S' 0 35 := by
  obtain ⟨w, M2, S2, C2, b1, b2, b3, b4, b5⟩ := t_readAgain hRG a3
  obtain ⟨⟨r1, r2⟩, r3, ⟨r4, r4'⟩, -⟩ := a5
  obtain ⟨⟨p1, p2, p3, p4, p5⟩, -, -, -, p6⟩ := a3.1.1.1
  obtain ⟨-, ⟨q1, q2, q3, q4, q5⟩, -, -, -⟩ := h.1.1.1
  have hCG : CG M S' := by
    unfold CG at q1 ⊢
    rw [r2 0 (by decide) (by decide) (by decide) (by decide) (by decide), r2 12 (by decide) (by decide) (by decide) (by decide) (by decide), r1 1 (by decide) (by decide), r1 2 (by decide) (by decide), r1 3 (by decide) (by decide), r1 4 (by decide) (by decide), r1 5 (by decide) (by decide), r1 6 (by decide) (by decide), r1 7 (by decide) (by decide), r1 8 (by decide) (by decide), r1 9 (by decide) (by decide), r1 10 (by decide) (by decide), r1 11 (by decide) (by decide), r1 12 (by decide) (by decide)]
    exact q1
  have hCT : CT M S' := by
    unfold CT at q4 ⊢
    rw [r2 33 (by decide) (by decide) (by decide) (by decide) (by decide), r1 29 (by decide) (by decide)]
    exact q4
  obtain ⟨D1, u, U, d1, d2, d3⟩ := reads_det p1 p4 p5 p6.pl hCG hCT
  have e1 : D1 = C1 := by
    rw [r4] at d1
    exact ((Prod.mk.inj (Option.some.inj d1)).2).symm
  have e2 : U = S2 := by
    rw [b2] at d2
    exact ((Prod.mk.inj (Option.some.inj d2)).2).symm
  subst e1 e2
  have hs := r4'.same d3
  obtain ⟨-, -, -, -, c, c1, c2, c3, c4, c5⟩ := b5
  have := c5 hs
  exact ⟨w, M2, U, b1, b3, b4, hs.1, by rw [c1, this, hs.1]; omega⟩
theorem t_insert {RG : Mm → Nat → Int} (hRG : RGok RG) {MC MR : Mm} (hci : CI RG MC MR) (a v : Int) : ∃ c w M' S', f_X11_insert a v MC = some (c, w, M') ∧ CI RG M' S' ∧ c = (if ¬ (0 ≤ a ∧ a ≤ MR 0 33) then 1 else if ¬ (97 ≤ v ∧ v ≤ 102) then 2 else if MR 0 33 = 12 ∨ MR 0 0 = 0 then 3 else 0) ∧ (c ≠ 0 → M' = MC ∧ S' = MR) ∧ (c = 0 → RdL MC MR 1 w M' S') := by
  have hI := hci.1.1
  have k : Nat := 0
  obtain ⟨hp, -, -, -⟩ := id hI
  have e10 : MC 1 0 = MR 0 0 := hp.2.1.1.1
  have hT : CT MC MR := hp.2.1.2.2.2.1
  have ht : Okt MR := hp.1.2.2.2.1
  have hL := ht.1
  by_cases h1 : 0 ≤ a ∧ a ≤ MR 0 33
  case neg =>
    refine ⟨1, 0, MC, MR, ?_, hci, by rw [if_pos h1], fun _ => ⟨rfl, rfl⟩, fun q => absurd q (by decide)⟩
    unfold f_X11_insert
    simp only [LtE]
    rw [hT.1]
    by_cases q : a < 0
    · rw [if_pos q]
    · rw [if_neg q, if_neg (by omega)]
  have y1 : ¬ ¬ (0 ≤ a ∧ a ≤ MR 0 33) := fun q => q h1
  by_cases h2 : 97 ≤ v ∧ v ≤ 102
  case neg =>
    refine ⟨2, 0, MC, MR, ?_, hci, by rw [if_neg y1, if_pos h2], fun _ => ⟨rfl, rfl⟩, fun q => absurd q (by decide)⟩
    unfold f_X11_insert
    simp only [LtE]
    rw [hT.1, if_neg (by omega), if_pos h1.2]
    by_cases q : v < 97
    · rw [if_pos q]
    · rw [if_neg q, if_neg (by omega)]
  have y2 : ¬ ¬ (97 ≤ v ∧ v ≤ 102) := fun q => q h2
  by_cases h3 : MR 0 33 = 12 ∨ MR 0 0 = 0
  · refine ⟨3, 0, MC, MR, ?_, hci, by rw [if_neg y1, if_neg y2, if_pos h3], fun _ => ⟨rfl, rfl⟩, fun q => absurd q (by decide)⟩
    unfold f_X11_insert
    simp only [LtE]
    rw [hT.1, if_neg (by omega), if_pos h1.2, if_neg (by omega), if_pos (by omega), e10]
    by_cases q : MR 0 33 = 12
    · rw [if_pos (by omega)]
    · rw [if_neg (by omega), if_neg (fun z => z (h3.resolve_left q))]
  · obtain ⟨L, hLL⟩ : ∃ L : Nat, MR 0 33 = (L : Int) := ⟨(MR 0 33).toNat, by omega⟩
    obtain ⟨n, rfl⟩ : ∃ n : Nat, a = (n : Int) := ⟨a.toNat, by omega⟩
    have hC0 : MC 273 0 = (L : Int) := by rw [hT.1]; exact hLL
    have hput := c_putLetter (C := MC) hC0 (a := n) (by omega) (by omega) (v - 97)
    generalize hC' : up (sr MC 274 (insr (MC 274) n L (v - 97))) 273 0 ((L : Int) + 1) = C1 at hput
    have hr := r_putLetter (R := up MR 0 87 0) (a := n) (L := L) (by omega) (by omega) (J := fun M11 => gd (0 ≤ (n : Int) ∧ (n : Int) < 12) (Cl (f_X12_reads (up (up M11 29 (n : Int).toNat v) 0 33 (wr (up M11 29 (n : Int).toNat v 0 33 + 1)))) fun v18 M17 => some (v18, M17)))
    have e29 : up MR 0 87 0 29 = MR 29 := up_ne _ _ _ (by decide)
    have e033 : up MR 0 87 0 0 33 = (L : Int) := by rw [← hLL]; simp [up]
    generalize hF : (sr (up MR 0 87 0) 29 fun j => if n < j ∧ j ≤ L then up MR 0 87 0 29 (j - 1) else up MR 0 87 0 29 j) = R0 at hr
    have r0 : ∀ j, j ≠ 29 → R0 j = up MR 0 87 0 j := fun j hj => by rw [← hF, sr_ne _ _ hj]
    have r029 : ∀ j, R0 29 j = if n < j ∧ j ≤ L then MR 29 (j - 1) else MR 29 j := fun j => by rw [← hF, sr_at, e29]
    have e1 : up R0 29 n v 0 33 = (L : Int) := by rw [up_ne _ _ _ (by decide), r0 0 (by decide)]; exact e033
    generalize hR' : up (up R0 29 n v) 0 33 ((L : Int) + 1) = R1
    have r1 : ∀ j, j ≠ 0 → j ≠ 29 → R1 j = MR j := fun j a b => by rw [← hR', up_ne _ _ _ a, up_ne _ _ _ b, r0 j b, up_ne _ _ _ a]
    have r10 : ∀ i, i ≠ 33 → i ≠ 87 → R1 0 i = MR 0 i := fun i a b => by
      rw [← hR']
      have : up (up R0 29 n v) 0 33 ((L : Int) + 1) 0 i = up R0 29 n v 0 i := up_off a
      rw [this, up_ne _ _ _ (by decide), r0 0 (by decide)]
      exact up_off b
    have r187 : R1 0 87 = 0 := by
      rw [← hR']
      have : up (up R0 29 n v) 0 33 ((L : Int) + 1) 0 87 = up R0 29 n v 0 87 := up_off (by decide)
      rw [this, up_ne _ _ _ (by decide), r0 0 (by decide), up_at]
    have r133 : R1 0 33 = (L : Int) + 1 := by rw [← hR', up_at]
    have r129 : R1 29 = insr (MR 29) n L v := by
      rw [← hR', up_ne _ _ _ (by decide)]
      funext j
      unfold insr
      by_cases c : j = n
      · subst c; rw [up_at, if_pos rfl]
      · rw [up_off c, if_neg c]; exact r029 j
    have c1 : ∀ j, j ≠ 273 → j ≠ 274 → C1 j = MC j := fun j a b => by rw [← hC', up_ne _ _ _ a, sr_ne _ _ b]
    have c10 : C1 273 0 = (L : Int) + 1 := by rw [← hC', up_at]
    have c174 : C1 274 = insr (MC 274) n L (v - 97) := by rw [← hC', up_ne _ _ _ (by decide), sr_at]
    obtain ⟨t1, t2⟩ := txt_ins ht hT hLL (a := n) (by omega) h2 (by omega) c10 c174 r133 r129
    have hI1 : Inv RG C1 R1 0 := inv_text hRG hI r1 r10 c1 t1 t2
    have hq : AgQ MR R1 := ⟨fun j j1 _ j3 => r1 j (by omega) (by omega), fun i hi => r10 i (by omega) (by omega)⟩
    have hci1 : CI RG C1 R1 := hci.q ⟨hI1, CI0.to hRG hci.1.2 hq (c1 300 (by decide) (by decide)) (c1 301 (by decide) (by decide))⟩ hq
    obtain ⟨w, C', R', D1, a1, a2, a3, a4, a5⟩ := t_readAgain hRG hci1
    obtain ⟨x1, x2, x3, x4, x9, c, x5, x6, x7, x8⟩ := a4
    refine ⟨0, w, C', R', ?_, a3, by rw [if_neg y1, if_neg y2, if_neg h3], fun q => absurd rfl q, fun _ => ⟨fun j j1 j2 => by rw [x1 j j1 j2, r1 j (by omega) (by omega)], fun i hi => by rw [x2 i hi, r10 i (by omega) (by omega)], by rw [x3, c10, hC0]; omega, by rw [x4, c1 299 (by decide) (by decide)], x9, c, x5, x6, x7, by rw [r10 35 (by decide) (by decide)] at x8; exact x8⟩⟩
    unfold f_X11_insert
    simp only [LtE]
    rw [hT.1, if_neg (by omega), if_pos h1.2, if_neg (by omega), if_pos (by omega), if_neg (by omega), e10, if_pos (fun q => h3 (Or.inr q)), wrE (by omega) (by omega), hput, ClS, a1, ClS]
theorem t_delete {RG : Mm → Nat → Int} (hRG : RGok RG) {MC MR : Mm} (hci : CI RG MC MR) (a : Int) : ∃ c w M' S', f_X11_delete a MC = some (c, w, M') ∧ CI RG M' S' ∧ c = (if ¬ (0 ≤ a ∧ a < MR 0 33) then 1 else if MR 0 0 = 0 then 3 else 0) ∧ (c ≠ 0 → M' = MC ∧ S' = MR) ∧ (c = 0 → RdL MC MR (-1) w M' S') := by
  have hI := hci.1.1
  have k : Nat := 0
  obtain ⟨hp, -, -, -⟩ := id hI
  have e10 : MC 1 0 = MR 0 0 := hp.2.1.1.1
  have hT : CT MC MR := hp.2.1.2.2.2.1
  have ht : Okt MR := hp.1.2.2.2.1
  have hL := ht.1
  have ew : wr (MR 0 33 - 1) = MR 0 33 - 1 := wrE (by omega) (by omega)
  by_cases h1 : 0 ≤ a ∧ a < MR 0 33
  case neg =>
    refine ⟨1, 0, MC, MR, ?_, hci, by rw [if_pos h1], fun _ => ⟨rfl, rfl⟩, fun q => absurd q (by decide)⟩
    unfold f_X11_delete
    simp only [LtE]
    rw [hT.1]
    by_cases q : a < 0
    · rw [if_pos q]
    · rw [if_neg q, if_neg (by omega)]
  have y1 : ¬ ¬ (0 ≤ a ∧ a < MR 0 33) := fun q => q h1
  by_cases h3 : MR 0 0 = 0
  · refine ⟨3, 0, MC, MR, ?_, hci, by rw [if_neg y1, if_pos h3], fun _ => ⟨rfl, rfl⟩, fun q => absurd q (by decide)⟩
    unfold f_X11_delete
    simp only [LtE]
    rw [hT.1, if_neg (by omega), if_pos h1.2, e10, if_neg (fun z => z h3)]
  · obtain ⟨L, hLL⟩ : ∃ L : Nat, MR 0 33 = (L : Int) := ⟨(MR 0 33).toNat, by omega⟩
    obtain ⟨n, rfl⟩ : ∃ n : Nat, a = (n : Int) := ⟨a.toNat, by omega⟩
    have hC0 : MC 273 0 = (L : Int) := by rw [hT.1]; exact hLL
    have htake := c_takeLetter (C := MC) hC0 (a := n) (by omega) (by omega)
    generalize hC' : up (sr MC 274 (delr (MC 274) n L)) 273 0 ((L : Int) - 1) = C1 at htake
    have e033 : up MR 0 87 0 0 33 = (L : Int) := by rw [← hLL]; simp [up]
    generalize hR0 : up (up MR 0 87 0) 0 33 ((L : Int) - 1) = R0
    have r0 : ∀ j, j ≠ 0 → R0 j = MR j := fun j hj => by rw [← hR0, up_ne _ _ _ hj, up_ne _ _ _ hj]
    have r033 : R0 0 33 = (L : Int) - 1 := by rw [← hR0, up_at]
    have hr := r_takeLetter (R := R0) r033 (a := n) (by omega) (by omega) (J := fun M14 => Cl (f_X12_reads M14) fun v17 M16 => some (v17, M16))
    generalize hR' : sr R0 29 (delr (R0 29) n L) = R1 at hr
    have r1 : ∀ j, j ≠ 0 → j ≠ 29 → R1 j = MR j := fun j a b => by rw [← hR', sr_ne _ _ b, r0 j a]
    have r10 : ∀ i, i ≠ 33 → i ≠ 87 → R1 0 i = MR 0 i := fun i a b => by
      rw [← hR', sr_ne _ _ (by decide), ← hR0]
      have : up (up MR 0 87 0) 0 33 ((L : Int) - 1) 0 i = up MR 0 87 0 0 i := up_off a
      rw [this]
      exact up_off b
    have r187 : R1 0 87 = 0 := by
      rw [← hR', sr_ne _ _ (by decide), ← hR0]
      have : up (up MR 0 87 0) 0 33 ((L : Int) - 1) 0 87 = up MR 0 87 0 0 87 := up_off (by decide)
      rw [this, up_at]
    have r133 : R1 0 33 = (L : Int) - 1 := by rw [← hR', sr_ne _ _ (by decide)]; exact r033
    have r129 : R1 29 = delr (MR 29) n L := by rw [← hR', sr_at, r0 29 (by decide)]
    have c1 : ∀ j, j ≠ 273 → j ≠ 274 → C1 j = MC j := fun j a b => by rw [← hC', up_ne _ _ _ a, sr_ne _ _ b]
    have c10 : C1 273 0 = (L : Int) - 1 := by rw [← hC', up_at]
    have c174 : C1 274 = delr (MC 274) n L := by rw [← hC', up_ne _ _ _ (by decide), sr_at]
    obtain ⟨t1, t2⟩ := txt_del ht hT hLL (a := n) (by omega) c10 c174 r133 r129
    have hI1 : Inv RG C1 R1 0 := inv_text hRG hI r1 r10 c1 t1 t2
    have hq : AgQ MR R1 := ⟨fun j j1 _ j3 => r1 j (by omega) (by omega), fun i hi => r10 i (by omega) (by omega)⟩
    have hci1 : CI RG C1 R1 := hci.q ⟨hI1, CI0.to hRG hci.1.2 hq (c1 300 (by decide) (by decide)) (c1 301 (by decide) (by decide))⟩ hq
    obtain ⟨w, C', R', D1, a1, a2, a3, a4, a5⟩ := t_readAgain hRG hci1
    obtain ⟨x1, x2, x3, x4, x9, c, x5, x6, x7, x8⟩ := a4
    refine ⟨0, w, C', R', ?_, a3, by rw [if_neg y1, if_neg h3], fun q => absurd rfl q, fun _ => ⟨fun j j1 j2 => by rw [x1 j j1 j2, r1 j (by omega) (by omega)], fun i hi => by rw [x2 i hi, r10 i (by omega) (by omega)], by rw [x3, c10, hC0]; omega, by rw [x4, c1 299 (by decide) (by decide)], x9, c, x5, x6, x7, by rw [r10 35 (by decide) (by decide)] at x8; exact x8⟩⟩
    unfold f_X11_delete
    simp only [LtE]
    rw [hT.1, if_neg (by omega), if_pos h1.2, e10, if_pos h3, htake, ClS, a1, ClS]
