/-! the class measures a stretch -/
def Fm9 (M M' : Mm) : Prop := (∀ j, j ≠ 273 → j ≠ 275 → j ≠ 276 → M' j = M j) ∧ ∀ i, i ≠ 5 → M' 273 i = M 273 i
theorem Fm9.refl (M : Mm) : Fm9 M M := ⟨fun _ _ _ _ => rfl, fun _ _ => rfl⟩
theorem Fm9.trans {A B C : Mm} (h : Fm9 A B) (h' : Fm9 B C) : Fm9 A C := ⟨fun j a b c => (h'.1 j a b c).trans (h.1 j a b c), fun i a => (h'.2 i a).trans (h.2 i a)⟩
theorem Fm9.cut (M : Mm) (c : Int) : Fm9 M (up M 273 5 c) := ⟨fun j a _ _ => up_ne _ _ _ a, fun i hi => by simp [up, hi]⟩
theorem Fm9.set {M : Mm} {r : Nat} (hr : r = 275 ∨ r = 276) (i : Nat) (v : Int) : Fm9 M (up M r i v) := ⟨fun j _ b c => up_ne _ _ _ (by omega), fun _ _ => by rw [up_ne _ _ _ (by omega)]⟩
theorem tn_D {cn : Nat → (Nat → Int) → Int} {hd : Nat → Nat} {P : Nat} {D : (Nat → Int) → Prop} (H : TnH cn hd P D) {x : Nat → Int} (hx : D x) : ∀ k, k ≤ P → D (tnf cn hd k x) := by
  intro k
  induction k with
  | zero => exact fun _ => hx
  | succ k ih =>
    intro hk
    have i1 := ih (by omega)
    simp only [tnf]
    split
    · rename_i cu
      exact H.2.2.2.2 k _ (by omega) i1 cu
    · exact i1
/-- a cell of a stretch beyond is none of the four -/
theorem wix_off {c e b f t : Int} (hc : 0 ≤ c ∧ c ≤ 9) (he : 0 ≤ e ∧ e ≤ 12) (hb : 0 ≤ b ∧ b ≤ 12) (hf : 0 ≤ f ∧ f ≤ 12) (ht : 0 ≤ t ∧ t ≤ 12) (h : e ≠ f ∨ b ≠ t) : ∀ B : Int, 0 ≤ B → wix c e b ≠ wix B f t := fun B hB q => by
  have := wix_inj hc.1 he hb hB hf ht q
  omega
theorem c9_turn {S M0 : Mm} (hg : Okg S) (hM : CG M0 S) {f t : Int} (f0 : 0 ≤ f) (ft : f ≤ t) (t12 : t ≤ 12) (bW : RwB (M0 275)) (hT : ∀ p : Int, 0 ≤ p → p < S 0 0 → ∀ e, f < e → e ≤ t → TlC S (M0 275) (M0 276) p e t) {x : Nat → Int} (hx : x = fun B : Nat => M0 275 (wix (B : Int) f t)) {J : Int → Int → Mm → Rs} {v : Int} :
    ∀ (n k : Nat) (F : Nat) (M : Mm), k + n = (S 0 0).toNat → n < F → Fm9 M0 M → M 275 = lay4 (M0 275) f t (tnf (cnS S (M0 275) f t) (hdS S) k x) → RwB (M 276) → (∀ i, (∀ p : Int, 0 ≤ p → i ≠ wix p f t) → M 276 i = M0 276 i) → (tnc (cnS S (M0 275) f t) (hdS S) k x = false → ∀ p : Int, 0 ≤ p → p < k → TlC S (M0 275) (M 276) p f t) →
    ∃ M', Lp (f_X9_measureStretch_L21_51 f t J) F (b2i (tnc (cnS S (M0 275) f t) (hdS S) k x), v, (k : Int), M) = J (b2i (tnc (cnS S (M0 275) f t) (hdS S) (S 0 0).toNat x)) v M' ∧ Fm9 M0 M' ∧ M' 275 = lay4 (M0 275) f t (tnf (cnS S (M0 275) f t) (hdS S) (S 0 0).toNat x) ∧ RwB (M' 276) ∧ (∀ i, (∀ p : Int, 0 ≤ p → i ≠ wix p f t) → M' 276 i = M0 276 i) ∧ (tnc (cnS S (M0 275) f t) (hdS S) (S 0 0).toNat x = false → ∀ p : Int, 0 ≤ p → p < S 0 0 → TlC S (M0 275) (M' 276) p f t) := by
  have h10 := hg.1
  have fr : 0 ≤ f ∧ f ≤ 12 := by omega
  have tr : 0 ≤ t ∧ t ≤ 12 := by omega
  have H := cnS_H hg bW f0 ft t12
  have hx4 : D4 x := fun B hB => by
    rw [hx]
    exact bW _ (wix_lt (by omega) fr tr).1
  intro n
  induction n with
  | zero =>
    intro k F M hk hF h1 h2 h3 h4 h5
    obtain ⟨G, rfl⟩ : ∃ G, F = G + 1 := ⟨F - 1, by omega⟩
    obtain rfl : k = (S 0 0).toNat := by omega
    have e1 : M 1 0 = S 0 0 := by rw [h1.1 1 (by decide) (by decide) (by decide)]; exact hM.1
    refine ⟨M, ?_, h1, h2, h3, h4, fun q p p0 p1 => h5 q p p0 (by omega)⟩
    rw [Lp_s]
    simp only [f_X9_measureStretch_L21_51, LtE]
    rw [e1, if_pos (by omega)]
  | succ n ih =>
    intro k F M hk hF h1 h2 h3 h4 h5
    obtain ⟨G, rfl⟩ : ∃ G, F = G + 1 := ⟨F - 1, by omega⟩
    have hp : (0 : Int) ≤ (k : Int) ∧ (k : Int) < S 0 0 := by omega
    have hP := hg.2.2.2.1 k hp.1 hp.2
    have hn := hP.2.1
    have hD := tn_D H hx4 k (by omega)
    have e1 : M 1 0 = S 0 0 := by rw [h1.1 1 (by decide) (by decide) (by decide)]; exact hM.1
    have hMg : ∀ N : Mm, Fm9 M0 N → CG N S := fun N hN => hM.of fun j j1 j2 => hN.1 j (by omega) (by omega) (by omega)
    have hhd : S 1 ((k : Int)).toNat = ((hdS S k : Nat) : Int) := by
      unfold hdS
      have := hP.1
      rw [Int.toNat_natCast] at this ⊢
      omega
    have hh4 : hdS S k < 4 := H.1 k (by omega)
    generalize hy : tnf (cnS S (M0 275) f t) (hdS S) k x = y at h2 hD
    have bWk : RwB (M 275) := by rw [h2]; exact lay4_bd bW fr tr hD
    rw [Lp_s]
    simp only [f_X9_measureStretch_L21_51, LtE]
    rw [e1, if_neg (by omega), g_length (hMg M h1) hg hp, ClS]
    -- behind the tails
    have tail : ∀ M2 : Mm, Fm9 M0 M2 → M2 275 = M 275 → RwB (M2 276) → (∀ i, (∀ p : Int, 0 ≤ p → i ≠ wix p f t) → M2 276 i = M0 276 i) → (∀ p : Int, 0 ≤ p → p < k → M2 276 (wix p f t) = M 276 (wix p f t)) → TlC S (M 275) (M2 276) k f t →
        ∃ M', (Cl (f_X9_weigh (k : Int) 0 f t M2) fun v29 M28 => Cl (f_X5_headOf (k : Int) M28) fun v32 M31 => Cl (f_X9_placeOf v32 f t M31) fun v34 M33 => Cl (f_X11_entryOf 275 v34 M33) fun v36 M35 => if v36 ≤ wr (v29 + 1) then Lp (f_X9_measureStretch_L21_51 f t J) G (b2i (tnc (cnS S (M0 275) f t) (hdS S) k x), v, wr ((k : Int) + 1), M35) else Cl (f_X11_setEntry 275 v34 (wr (v29 + 1)) M35) fun _ M44 => Lp (f_X9_measureStretch_L21_51 f t J) G (1, v, wr ((k : Int) + 1), M44)) = J (b2i (tnc (cnS S (M0 275) f t) (hdS S) (S 0 0).toNat x)) v M' ∧ Fm9 M0 M' ∧ M' 275 = lay4 (M0 275) f t (tnf (cnS S (M0 275) f t) (hdS S) (S 0 0).toNat x) ∧ RwB (M' 276) ∧ (∀ i, (∀ p : Int, 0 ≤ p → i ≠ wix p f t) → M' 276 i = M0 276 i) ∧ (tnc (cnS S (M0 275) f t) (hdS S) (S 0 0).toNat x = false → ∀ p : Int, 0 ≤ p → p < S 0 0 → TlC S (M0 275) (M' 276) p f t) := by
      intro M2 g1 g2 g3 g4 g5 g6
      have hTl : ∀ e, f ≤ e → e ≤ t → TlC S (M2 275) (M2 276) k e t := fun e he1 he2 => by
        rw [g2]
        by_cases ce : e = f
        · subst ce; exact g6
        · intro h33
          rw [g4 _ fun p hp0 => wix_off ⟨hp.1, by omega⟩ ⟨by omega, by omega⟩ tr fr tr (Or.inl ce) p hp0, hT k hp.1 hp.2 e (by omega) he2 h33]
          refine wg1_congr hg hp h33 he2 fun c e' b c0 c9 q1 q2 q3 => ?_
          rw [h2, lay4_ne _ fun B hB => wix_off ⟨c0, c9⟩ ⟨by omega, by omega⟩ ⟨by omega, by omega⟩ fr tr (Or.inl (by omega)) B (by omega)]
      have hw := c9_weigh hg (hMg M2 g1) (by rw [g2]; exact bWk) g3 (p := k) (j := 0) (f := f) (t := t) hp (by omega) (by omega) f0 ft t12
      have hcq : (wg S (M2 275) (M2 276) k 0 f t).1 + 1 = cnS S (M0 275) f t k y := by
        have := cn9_cq (S := S) (W := M2 275) (T := M2 276) (p := (k : Int)) ⟨hp.1, by omega⟩ f0 ft t12 hn.2 hTl
        unfold cn9 at this
        rw [this, g2, h2]
        rfl
      have hbd := cq_bd hg (W := lay4 (M0 275) f t y) (lay4_bd bW fr tr hD) hp f0 ft t12
      have hcS : cnS S (M0 275) f t k y = cq S (lay4 (M0 275) f t y) (k : Int) f t := rfl
      generalize hM3 : up M2 273 5 (wg S (M2 275) (M2 276) k 0 f t).2 = M3 at hw
      have f3 : Fm9 M0 M3 := by rw [← hM3]; exact g1.trans (Fm9.cut _ _)
      have m3 : ∀ j, j ≠ 273 → M3 j = M2 j := fun j hj => by rw [← hM3, up_ne _ _ _ hj]
      have e36 : M3 275 (wix ((hdS S k : Nat) : Int) f t) = y (hdS S k) := by rw [m3 275 (by decide), g2, h2, lay4_at fr tr _ hh4]
      rw [hw, ClS, g_head (hMg M3 f3) hg hp, ClS, hhd, c9_place (by omega) (by omega) (by omega), ClS, c9_entry (Or.inl rfl) (by omega) fr tr, ClS, e36, hcq, wrE (v := cnS S (M0 275) f t k y) (by omega) (by omega), wrE (v := (k : Int) + 1) (by omega) (by omega)]
      have hks : (k : Int) + 1 = ((k + 1 : Nat) : Int) := by omega
      have hT3 : ∀ N : Mm, N 276 = M2 276 → tnc (cnS S (M0 275) f t) (hdS S) k x = false → ∀ p : Int, 0 ≤ p → p < ((k + 1 : Nat) : Int) → TlC S (M0 275) (N 276) p f t := fun N hN hc p p0 p1 => by
        have hst := (tn_still k hc).1
        rw [hy] at hst
        have eW : M 275 = M0 275 := by rw [h2, hst, hx]; exact lay4_self _ fr tr
        rw [hN]
        by_cases cp : p = k
        · subst cp
          rw [eW] at g6
          exact g6
        · intro h33
          have := h5 hc p p0 (by omega) h33
          rw [g5 p p0 (by omega), this, wg1 h33, wg1 h33]
      by_cases cu : cnS S (M0 275) f t k y < y (hdS S k)
      · rw [if_neg (by omega), c9_set (Or.inl rfl) (by omega) fr tr, ClS, hks]
        generalize hM4 : up M3 275 (wix ((hdS S k : Nat) : Int) f t) (cnS S (M0 275) f t k y) = M4
        have m4 : ∀ j, j ≠ 275 → M4 j = M3 j := fun j hj => by rw [← hM4, up_ne _ _ _ hj]
        have etf : tnf (cnS S (M0 275) f t) (hdS S) (k + 1) x = se y (hdS S k) (cnS S (M0 275) f t k y) := by
          simp only [tnf]
          rw [hy, if_pos cu]
        have etc : tnc (cnS S (M0 275) f t) (hdS S) (k + 1) x = true := by
          simp only [tnc]
          rw [hy, decide_eq_true cu, Bool.or_true]
        have e1b : (1 : Int) = b2i (tnc (cnS S (M0 275) f t) (hdS S) (k + 1) x) := by rw [etc]; rfl
        rw [e1b]
        refine ih (k + 1) G M4 (by omega) (by omega) (by rw [← hM4]; exact f3.trans (Fm9.set (Or.inl rfl) _ _)) ?_ (by rw [m4 276 (by decide), m3 276 (by decide)]; exact g3) (fun i hi => by rw [m4 276 (by decide), m3 276 (by decide)]; exact g4 i hi) (fun q => by rw [etc] at q; cases q)
        rw [← hM4, up_se, sr_at, m3 275 (by decide), g2, h2, lay4_se fr tr _ hh4, etf]
      · rw [if_pos (by omega), hks]
        have etf : tnf (cnS S (M0 275) f t) (hdS S) (k + 1) x = y := by
          simp only [tnf]
          rw [hy, if_neg cu]
        have etc : tnc (cnS S (M0 275) f t) (hdS S) (k + 1) x = tnc (cnS S (M0 275) f t) (hdS S) k x := by
          simp only [tnc]
          rw [hy, decide_eq_false cu, Bool.or_false]
        rw [← etc]
        refine ih (k + 1) G M3 (by omega) (by omega) f3 (by rw [m3 275 (by decide), g2, h2, etf]) (by rw [m3 276 (by decide)]; exact g3) (fun i hi => by rw [m3 276 (by decide)]; exact g4 i hi) (fun q => hT3 M3 (m3 276 (by decide)) (etc ▸ q))
    by_cases c3 : S 2 ((k : Int)).toNat = 3
    · rw [if_neg (fun q => q c3), c9_place (by omega) (by omega) (by omega), ClS]
      have hw := c9_weigh hg (hMg M h1) bWk h3 (p := k) (j := 1) (f := f) (t := t) hp (by omega) (by omega) f0 ft t12
      rw [hw, ClS, c9_set (Or.inr rfl) (by omega) fr tr, ClS]
      generalize hM2 : up (up M 273 5 (wg S (M 275) (M 276) k 1 f t).2) 276 (wix k f t) (wg S (M 275) (M 276) k 1 f t).1 = M2
      have m2 : ∀ i, i ≠ wix k f t → M2 276 i = M 276 i := fun i hi => by
        rw [← hM2]
        simp [up, hi]
      have m2k : M2 276 (wix k f t) = (wg S (M 275) (M 276) k 1 f t).1 := by rw [← hM2, up_at]
      have hb := wg1_nn hg bWk (T := M 276) hp f0 ft t12 c3
      refine tail M2 (by rw [← hM2]; exact (h1.trans (Fm9.cut _ _)).trans (Fm9.set (Or.inr rfl) _ _)) (by rw [← hM2, up_ne _ _ _ (by decide), up_ne _ _ _ (by decide)]) (fun i hi => ?_) (fun i hi => ?_) (fun p p0 p1 => ?_) (fun _ => ?_)
      · by_cases ci : i = wix k f t
        · subst ci; rw [m2k]; exact hb
        · rw [m2 i ci]; exact h3 i hi
      · rw [m2 i (hi k hp.1)]; exact h4 i hi
      · refine m2 _ fun q => ?_
        have := wix_inj p0 fr tr hp.1 fr tr q
        omega
      · rw [m2k, wg1 c3, wg1 c3]
    · rw [if_pos c3]
      exact tail M h1 rfl h3 h4 (fun _ _ _ => rfl) (fun q => absurd q c3)
/-- what is settled of a stretch -/
def Dn9 (S : Mm) (W T : Nat → Int) (f t : Int) : Prop :=
  (∀ p : Int, 0 ≤ p → p < S 0 0 → W (wix (S 1 p.toNat) f t) ≤ cq S W p f t) ∧
  (∀ A : Int, 0 ≤ A → A < 4 → W (wix A f t) = 500000000 ∨ ∃ p : Int, (0 ≤ p ∧ p < S 0 0) ∧ S 1 p.toNat = A ∧ cq S W p f t ≤ W (wix A f t)) ∧
  ∀ p : Int, 0 ≤ p → p < S 0 0 → TlC S W T p f t
theorem c9_stretch {S M0 : Mm} (hg : Okg S) (hM : CG M0 S) {f t : Int} (f0 : 0 ≤ f) (ft : f ≤ t) (t12 : t ≤ 12) (bW : RwB (M0 275)) (bT : RwB (M0 276)) (hT : ∀ p : Int, 0 ≤ p → p < S 0 0 → ∀ e, f < e → e ≤ t → TlC S (M0 275) (M0 276) p e t) (hE : ∀ B : Nat, B < 4 → M0 275 (wix (B : Int) f t) = 500000000) :
    ∃ M', f_X9_measureStretch f t M0 = some (0, M') ∧ Fm9 M0 M' ∧ RwB (M' 275) ∧ RwB (M' 276) ∧ (∀ i, (∀ B : Int, 0 ≤ B → B < 4 → i ≠ wix B f t) → M' 275 i = M0 275 i) ∧ (∀ i, (∀ p : Int, 0 ≤ p → i ≠ wix p f t) → M' 276 i = M0 276 i) ∧ Dn9 S (M' 275) (M' 276) f t := by
  have h10 := hg.1
  have fr : 0 ≤ f ∧ f ≤ 12 := by omega
  have tr : 0 ≤ t ∧ t ≤ 12 := by omega
  -- the turns, from a memory whose four cells are x
  have key : ∀ (m n : Nat) (F : Nat) (M : Mm), n + m = 5 → m + 1 < F → Fm9 M0 M → RwB (M 275) → RwB (M 276) → (∀ i, (∀ B : Int, 0 ≤ B → B < 4 → i ≠ wix B f t) → M 275 i = M0 275 i) → (∀ i, (∀ p : Int, 0 ≤ p → i ≠ wix p f t) → M 276 i = M0 276 i) →
      TnQ (cnS S (M 275) f t) (hdS S) (S 0 0).toNat D4 n (fun B => M 275 (wix (B : Int) f t)) → Att (cnS S (M 275) f t) (hdS S) (S 0 0).toNat (fun B => M 275 (wix (B : Int) f t)) →
      ∃ M', Lp (f_X9_measureStretch_L5_52 f t fun M1 => some (0, M1)) F (1, (n : Int), M) = some (0, M') ∧ Fm9 M0 M' ∧ RwB (M' 275) ∧ RwB (M' 276) ∧ (∀ i, (∀ B : Int, 0 ≤ B → B < 4 → i ≠ wix B f t) → M' 275 i = M0 275 i) ∧ (∀ i, (∀ p : Int, 0 ≤ p → i ≠ wix p f t) → M' 276 i = M0 276 i) ∧ Dn9 S (M' 275) (M' 276) f t := by
    intro m
    induction m with
    | zero =>
      intro n F M hn hF h1 h2 h3 h4 h5 h6 h7
      have := h6.le4
      omega
    | succ m ih =>
      intro n F M hn hF h1 h2 h3 h4 h5 h6 h7
      have hn4 := h6.le4
      obtain ⟨G, rfl⟩ : ∃ G, F = G + 1 := ⟨F - 1, by omega⟩
      have hMc : CG M S := hM.of fun j j1 j2 => h1.1 j (by omega) (by omega) (by omega)
      have hTM : ∀ p : Int, 0 ≤ p → p < S 0 0 → ∀ e, f < e → e ≤ t → TlC S (M 275) (M 276) p e t := fun p p0 p1 e e1 e2 h33 => by
        rw [h5 _ fun q q0 => wix_off ⟨p0, by omega⟩ ⟨by omega, by omega⟩ tr fr tr (Or.inl (by omega)) q q0, hT p p0 p1 e e1 e2 h33]
        refine wg1_congr hg ⟨p0, p1⟩ h33 e2 fun c e' b c0 c9 q1 q2 q3 => ?_
        exact (h4 _ fun B hB _ => wix_off ⟨c0, c9⟩ ⟨by omega, by omega⟩ ⟨by omega, by omega⟩ fr tr (Or.inl (by omega)) B hB).symm
      have H := cnS_H hg h2 f0 ft t12
      generalize hx : (fun B : Nat => M 275 (wix (B : Int) f t)) = x at h6 h7
      obtain ⟨M1, t1, t2, t3, t4, t5, t6⟩ := c9_turn hg hMc f0 ft t12 h2 hTM hx.symm (J := fun v9 v10 M11 => Lp (f_X9_measureStretch_L5_52 f t fun M1 => some (0, M1)) G (v9, wr (v10 + 1), M11)) (v := (n : Int)) _ 0 FU M (Nat.zero_add _) (FU_lt (by omega)) (Fm9.refl M) (by show M 275 = lay4 (M 275) f t x; rw [← hx, lay4_self _ fr tr]) h3 (fun _ _ => rfl) (fun _ p p0 p1 => absurd p1 (by omega))
      have hrun : Lp (f_X9_measureStretch_L5_52 f t fun M1 => some (0, M1)) (G + 1) (1, (n : Int), M) = Lp (f_X9_measureStretch_L5_52 f t fun M1 => some (0, M1)) G (b2i (tnc (cnS S (M 275) f t) (hdS S) (S 0 0).toNat x), ((n + 1 : Nat) : Int), M1) := by
        rw [Lp_s]
        simp only [f_X9_measureStretch_L5_52, LtE]
        rw [if_neg (by omega), if_neg (by decide)]
        refine Eq.trans t1 ?_
        rw [wrE (by omega) (by omega)]
        rfl
      have hD := tn_D H h6.1 _ (Nat.le_refl _)
      have o4 : ∀ i, (∀ B : Int, 0 ≤ B → B < 4 → i ≠ wix B f t) → M1 275 i = M0 275 i := fun i hi => by
        rw [t3, lay4_ne _ fun B hB => hi B (by omega) (by omega)]
        exact h4 i hi
      have o5 : ∀ i, (∀ p : Int, 0 ≤ p → i ≠ wix p f t) → M1 276 i = M0 276 i := fun i hi => by rw [t5 i hi]; exact h5 i hi
      have oW : RwB (M1 275) := by rw [t3]; exact lay4_bd h2 fr tr hD
      rw [hrun]
      cases hc : tnc (cnS S (M 275) f t) (hdS S) (S 0 0).toNat x with
      | true =>
        have hq := tn_step H h6 hc
        have hat := (tn_att H h6.1 h7 _ (Nat.le_refl _)).2
        have ex : (fun B : Nat => M1 275 (wix (B : Int) f t)) = fun B : Nat => M1 275 (wix (B : Int) f t) := rfl
        have ecn : ∀ p z, cnS S (M1 275) f t p z = cnS S (M 275) f t p z := fun p z => by
          unfold cnS
          rw [t3]
          refine congrArg (fun W => cq S W (p : Int) f t) (funext fun i => ?_)
          rcases lay4_cases f t i with ⟨A, hA, rfl⟩ | q
          · rw [lay4_at fr tr _ hA, lay4_at fr tr _ hA]
          · rw [lay4_ne _ q, lay4_ne _ q, lay4_ne _ q]
        have ecn' : cnS S (M1 275) f t = cnS S (M 275) f t := funext fun p => funext fun z => ecn p z
        have exB : ∀ B : Nat, B < 4 → M1 275 (wix (B : Int) f t) = tnf (cnS S (M 275) f t) (hdS S) (S 0 0).toNat x B := fun B hB => by rw [t3, lay4_at fr tr _ hB]
        have elay : ∀ z : Nat → Int, (∀ B, B < 4 → z B = tnf (cnS S (M 275) f t) (hdS S) (S 0 0).toNat x B) → ∀ p, cnS S (M 275) f t p z = cnS S (M 275) f t p (tnf (cnS S (M 275) f t) (hdS S) (S 0 0).toNat x) := fun z hz p => by
          unfold cnS
          refine congrArg (fun W => cq S W (p : Int) f t) (funext fun i => ?_)
          rcases lay4_cases f t i with ⟨A, hA, rfl⟩ | q
          · rw [lay4_at fr tr _ hA, lay4_at fr tr _ hA, hz A hA]
            rfl
          · rw [lay4_ne _ q, lay4_ne _ q]
        have hq' : TnQ (cnS S (M1 275) f t) (hdS S) (S 0 0).toNat D4 (n + 1) (fun B => M1 275 (wix (B : Int) f t)) := by
          rw [ecn']
          obtain ⟨z1, Fz, c, z2, z3, z4⟩ := hq
          refine ⟨fun B hB => by simp only; rw [exB B hB]; exact z1 B hB, Fz, c, z2, fun B hB q => by simp only; rw [exB B hB]; exact z3 B hB q, fun p hp hl => ?_⟩
          rw [elay _ exB] at hl ⊢
          have hh := H.1 p hp
          simp only at hl
          rw [exB _ hh] at hl
          exact z4 p hp hl
        have hat' : Att (cnS S (M1 275) f t) (hdS S) (S 0 0).toNat (fun B => M1 275 (wix (B : Int) f t)) := by
          rw [ecn']
          intro A hA
          simp only
          rw [exB A hA]
          rcases hat A hA with q | ⟨p, p1, p2, p3⟩
          · exact Or.inl q
          · exact Or.inr ⟨p, p1, p2, by rw [elay _ exB]; exact p3⟩
        exact ih (n + 1) G M1 (by omega) (by omega) (h1.trans t2) oW t4 o4 o5 hq' hat'
      | false =>
        obtain ⟨G2, rfl⟩ : ∃ G2, G = G2 + 1 := ⟨G - 1, by omega⟩
        obtain ⟨s1, s2⟩ := tn_still _ hc
        have eW : M1 275 = M 275 := by rw [t3, s1, ← hx, lay4_self _ fr tr]
        refine ⟨M1, ?_, h1.trans t2, oW, t4, o4, o5, ?_, ?_, ?_⟩
        · rw [Lp_s]
          simp only [f_X9_measureStretch_L5_52]
          rw [if_neg (by omega)]
          have e0 : b2i false = 0 := rfl
          rw [e0, if_pos rfl]
        · intro p p0 p1
          have := s2 p.toNat (by omega)
          have hh := (hg.2.2.2.1 p p0 p1).1
          have ecs : cnS S (M 275) f t p.toNat x = cq S (M 275) p f t := by
            unfold cnS
            rw [Int.toNat_of_nonneg p0, ← hx, lay4_self _ fr tr]
          have exh : x (hdS S p.toNat) = M 275 (wix (S 1 p.toNat) f t) := by
            rw [← hx]
            simp only
            unfold hdS
            rw [Int.toNat_of_nonneg hh.1]
          rw [ecs, exh] at this
          rw [eW]
          omega
        · intro A a0 a4
          rw [eW]
          have exA : x A.toNat = M 275 (wix A f t) := by
            rw [← hx]
            simp only
            rw [Int.toNat_of_nonneg a0]
          rcases h7 A.toNat (by omega) with q | ⟨p, p1, p2, p3⟩
          · left; rw [← exA]; exact q
          · right
            have hh := (hg.2.2.2.1 p (by omega) (by omega)).1
            rw [Int.toNat_natCast] at hh
            refine ⟨p, by omega, ?_, ?_⟩
            · unfold hdS at p2
              rw [Int.toNat_natCast]
              omega
            · rw [← exA]
              have ecs : cnS S (M 275) f t p x = cq S (M 275) p f t := by
                unfold cnS
                rw [← hx, lay4_self _ fr tr]
              rw [← ecs]
              exact p3
        · intro p p0 p1
          rw [eW]
          exact t6 hc p p0 p1
  have H0 := cnS_H hg bW f0 ft t12
  have hx4 : D4 (fun B => M0 275 (wix (B : Int) f t)) := fun B hB => bW _ (wix_lt (by omega) fr tr).1
  refine key 5 0 FU M0 rfl (FU_lt (by decide)) (Fm9.refl M0) bW bT (fun _ _ => rfl) (fun _ _ => rfl) (TnQ.zero hx4 fun p hp => ?_) (fun A hA => Or.inl (hE A hA))
  have := cq_bd hg (lay4_bd bW fr tr hx4) (p := (p : Int)) (f := f) (t := t) (by omega) f0 ft t12
  unfold cnS
  omega
