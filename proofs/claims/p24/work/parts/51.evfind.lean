/-! the class's loop by coarse steps -/
def Chn (S C : Mm) (rg bv bh : Nat → Int) (M : Mm) (l : List Int) : List Int → Option Int → Prop
  | [], _ => True
  | s :: rest, nd => (∃ q0 N t, Ini S (s / 6) (s % 6) q0 ∧ q0.1 7 = h0_ S (s / 6) (s % 6) ∧ Rn S C (Lk S rg bv bh (s :: rest)) N q0 t (M (314 + 2 * rest.length), M (314 + 2 * rest.length + 1)) ∧ (rest = [] → LiT S (M (314 + 2 * rest.length), M (314 + 2 * rest.length + 1)) t l) ∧
      (∀ x, nd = some x → VF S (M (314 + 2 * rest.length), M (314 + 2 * rest.length + 1)) ∧ VG S (M (314 + 2 * rest.length)) ∧ lkQ S (M (314 + 2 * rest.length), M (314 + 2 * rest.length + 1)) = x)) ∧ Chn S C rg bv bh M l rest (some s)
theorem Chn.mem {S C : Mm} {rg bv bh : Nat → Int} {M M' : Mm} {l l' : List Int} : ∀ (op : List Int) (nd : Option Int), Chn S C rg bv bh M l op nd → (∀ j, 314 ≤ j → j < 314 + 2 * op.length → M' j = M j) → (op ≠ [] → l' = l) → Chn S C rg bv bh M' l' op nd := by
  intro op
  induction op with
  | nil => exact fun _ _ _ _ => trivial
  | cons s rest ih =>
    intro nd h e el
    obtain ⟨⟨q0, N, t, h1, h2, h3, h4, h5⟩, h6⟩ := h
    rw [List.length_cons] at e
    have e1 : M' (314 + 2 * rest.length) = M (314 + 2 * rest.length) := e _ (by omega) (by omega)
    have e2 : M' (314 + 2 * rest.length + 1) = M (314 + 2 * rest.length + 1) := e _ (by omega) (by omega)
    have e3 := el (by simp)
    subst e3
    refine ⟨⟨q0, N, t, h1, h2, by rw [e1, e2]; exact h3, fun hr => by rw [e1, e2]; exact h4 hr, fun x hx => by rw [e1, e2]; exact h5 x hx⟩, ih _ h6 (fun j j1 j2 => e j j1 (by omega)) (fun _ => rfl)⟩
theorem Lk_ext {S : Mm} {rg bv bh : Nat → Int} {op : List Int} {k : Nat} {v h : Int} (hk : bh k = 0) (hop : (k : Int) ∉ op) : Ext (Lk S rg bv bh op) (Lk S rg (se bv k v) (se bh k h) op) := by
  intro s x hs
  unfold Lk at hs ⊢
  by_cases c0 : 180 ≤ s
  · rw [if_pos c0] at hs; cases hs
  rw [if_neg c0] at hs ⊢
  by_cases c1 : S 12 (s % 6) = 3
  · rw [if_pos c1] at hs ⊢; exact hs
  rw [if_neg c1] at hs ⊢
  by_cases e : s = k
  · subst e
    rw [if_neg (fun q => q hk), if_neg hop] at hs
    cases hs
  · rw [se_ne _ _ e, se_ne _ _ e]; exact hs
theorem Chn.known {S C : Mm} {rg bv bh : Nat → Int} {M : Mm} {l : List Int} {k : Nat} {v h : Int} (hk : bh k = 0) : ∀ (op : List Int) (nd : Option Int), (k : Int) ∉ op → Chn S C rg bv bh M l op nd → Chn S C rg (se bv k v) (se bh k h) M l op none := by
  intro op
  induction op with
  | nil => exact fun _ _ _ => trivial
  | cons s rest ih =>
    intro nd hop hc
    have aux : ∀ (op : List Int) (nd : Option Int), (k : Int) ∉ op → Chn S C rg bv bh M l op nd → Chn S C rg (se bv k v) (se bh k h) M l op nd := by
      intro op
      induction op with
      | nil => exact fun _ _ _ => trivial
      | cons s rest ih2 =>
        intro nd hop hc
        obtain ⟨⟨q0, N, t, h1, h2, h3, h4, h5⟩, h6⟩ := hc
        exact ⟨⟨q0, N, t, h1, h2, Rn.ext (Lk_ext hk hop) _ _ _ _ h3, h4, h5⟩, ih2 _ (fun q => hop (List.mem_cons_of_mem _ q)) h6⟩
    obtain ⟨⟨q0, N, t, h1, h2, h3, h4, h5⟩, h6⟩ := hc
    exact ⟨⟨q0, N, t, h1, h2, Rn.ext (Lk_ext hk hop) _ _ _ _ h3, h4, fun x hx => (by cases hx)⟩, aux _ _ (fun q => hop (List.mem_cons_of_mem _ q)) h6⟩
/-- the class's memory for a configuration -/
def RpC (S C : Mm) (bk : Nat) (rg : Nat → Int) (M : Mm) (c : Cfg) : Prop :=
  RBs S C bk rg c.2.1 c.2.2.1 c.1 M ∧ OpV S c.1 ∧ BdO S rg c.2.1 c.2.2.1 ∧ BdH S c.2.2.1 ∧ (∀ s ∈ c.1, c.2.2.1 s.toNat = 0) ∧
  ∃ l, (M 310 11 ≠ 0 → Lst M l) ∧ Sl l ∧ Chn S C rg c.2.1 c.2.2.1 M l c.1 none ∧ (c.1 = [] → l = c.2.2.2.1)
/-- what else stays -/
def FrC (bk : Nat) (M M' : Mm) : Prop := (∀ j, j ≠ bk → j ≠ bk + 1 → j ≠ bk + 2 → j ≠ 310 → j ≠ 311 → j ≠ 313 → ¬ (314 ≤ j ∧ j < 676) → M' j = M j) ∧ (∀ i, i ≠ 0 → i ≠ 9 → i ≠ 10 → M' 310 i = M 310 i) ∧ ∀ i, i ≠ 0 → M' bk i = M bk i
theorem FrC.refl (bk : Nat) (M : Mm) : FrC bk M M := ⟨fun _ _ _ _ _ _ _ _ => rfl, fun _ _ _ _ => rfl, fun _ _ => rfl⟩
theorem FrC.trans {bk : Nat} {A B D : Mm} (h : FrC bk A B) (h' : FrC bk B D) : FrC bk A D := ⟨fun j a b c d e f g => (h'.1 j a b c d e f g).trans (h.1 j a b c d e f g), fun i a b c => (h'.2.1 i a b c).trans (h.2.1 i a b c), fun i a => (h'.2.2 i a).trans (h.2.2 i a)⟩
theorem OpV.sl {S : Mm} (h35 : S 0 35 ≤ 30) {op : List Int} (h : OpV S op) : Sl op := ⟨h.1, fun x hx => by have := h.2 x hx; omega⟩
set_option maxHeartbeats 4000000 in
theorem coarse_C {S C : Mm} (hg : Okg S) (hO : Oke S) (hN : Okn S) (hE : CE C S) {bk : Nat} (hb : isF bk) {rg : Nat → Int} {s : Int} {rest : List Int} {bv bh : Nat → Int} {lf : List Int} {kk : Nat} {M : Mm} (hR : RpC S C bk rg M (s :: rest, bv, bh, lf, kk)) {J1 J2 : Mm → Rs} {F : Nat} {v : Int} (hF : 7400 ≤ F) (hv0 : 0 ≤ v) (hv : v + 7400 ≤ 10000000) :
    ∃ k M', k ≤ 7400 ∧ Lp (f_X2_find_L48_41 J1 J2) F (v, M) = Lp (f_X2_find_L48_41 J1 J2) (F - k) (v + k, M') ∧ RpC S C bk rg M' (crs S rg (s :: rest, bv, bh, lf, kk)) ∧ FrC bk M M' ∧ M' bk 0 = (if (crs S rg (s :: rest, bv, bh, lf, kk)).2.2.2.2 = kk then M bk 0 else wr (M bk 0 + 1)) := by
  obtain ⟨hRB, hOp, hbd, hbh, hz, l, hl, hsl, hch, -⟩ := hR
  simp only at hRB hOp hbd hbh hz hch
  have h35 := hN.1
  have h12 := hg.2.1
  have hb3 : bk = 299 ∨ bk = 304 := hb
  have hopl := (hOp.sl h35.2).len
  rw [List.length_cons] at hopl
  have hs := hOp.2 s List.mem_cons_self
  have hlen : rest.length < 181 := by omega
  obtain ⟨⟨q0, N0, t0, i1, i2, i3, i4, -⟩, hrest⟩ := hch
  have hn : 0 ≤ s / 6 ∧ s / 6 < S 0 35 := by omega
  have ha : 0 ≤ s % 6 ∧ s % 6 < S 0 12 := by omega
  have hLb := Lk_bd (S := S) (op := s :: rest) h35.1 hbd
  obtain ⟨NN, T, qe, n1, n2, n3⟩ := f_run hg hO hN hE hLb hn ha i1
  rw [i2] at n3
  obtain ⟨k1, t1, m1, m2, m3⟩ := Rn_split _ _ _ _ _ _ _ i3 n2 n3.end_
  obtain ⟨M1, a1, a2, a3, a4, a5, a6, a7⟩ := run_mem hg hO hN hb hlen hbd k1 F M v l qe t1 (by omega) hRB hl hsl m3 hv0 (by omega) (J1 := J1) (J2 := J2)
  obtain ⟨G, hG⟩ : ∃ G, F - k1 = G + 1 := ⟨F - k1 - 1, by omega⟩
  have hr : isR (314 + 2 * rest.length) := by constructor <;> omega
  obtain ⟨r1, r2, r3, r4, r5, r6, r7, r8⟩ := id a2
  have hd9 : M1 310 9 = ((rest.length + 1 : Nat) : Int) := by rw [r4, List.length_cons]
  have hq1 : M1 (314 + 2 * rest.length) = qe.1 := congrArg Prod.fst a3
  have hq2 : M1 (314 + 2 * rest.length + 1) = qe.2 := congrArg Prod.snd a3
  have hbody : ∀ (v : Int) (rc : Int × Mm → Rs), 0 ≤ v → v < 10000000 → f_X2_find_L48_41 J1 J2 rc (v, M1) = (if M1 (314 + 2 * rest.length) 9 = 0 then Cl (f_X2_goOn (314 + 2 * rest.length) M1) fun v36 M35 => if ¬ v36 = 0 then rc (wr (v + 1), M35) else Cl (f_X2_begin (M35 310 10) M35) fun _ M39 => rc (wr (v + 1), M39) else Cl (f_X2_close (314 + 2 * rest.length) M1) fun _ M40 => rc (wr (v + 1), M40)) := by
    intro v rc h0 h1
    simp only [f_X2_find_L48_41, LtE]
    rw [if_neg (by omega), hd9, if_neg (by omega), c_topFrame hlen hd9, ClS, if_pos (by omega), gdE ⟨by omega, by rw [Int.toNat_natCast]; exact hr⟩, Int.toNat_natCast]
  -- the list of the lowest frame
  have hlist : rest = [] → lsN (rest.length + 1) l t1 = dd T ∨ ∃ x, t1 = [] ∧ VF S qe ∧ lkQ S qe = x ∧ x ≠ -1 ∧ l = dd (T ++ [x.toNat]) := by
    intro hr0
    have hd1 : rest.length + 1 = 1 := by rw [hr0]; rfl
    rcases i4 hr0 with e | ⟨e1, e2, e3⟩
    · left
      rw [m2, e]; unfold lsN dd
      rw [if_pos hd1, List.foldl_append]
    · match k1, m3 with
      | 0, m3 =>
        obtain ⟨u1, u2⟩ := m3
        right
        refine ⟨_, u1, by rw [u2]; exact e1, rfl, by rw [u2]; exact e2, ?_⟩
        rw [m2, u1, List.append_nil, u2]; exact e3
      | k1 + 1, m3 =>
        obtain ⟨qq, s1, s2, u1, u2, u3⟩ := m3
        left
        rcases u1.2.2 with ⟨w1, _⟩ | ⟨_, vv, bb, _, w3, _⟩
        · exact absurd w1 e2
        · rw [m2, u2, w3, e3]
          unfold lsN
          rw [if_pos hd1]
          have : dd (t0 ++ ([(lkQ S (M (314 + 2 * rest.length), M (314 + 2 * rest.length + 1))).toNat] ++ s2)) = s2.foldl (fun l (s : Nat) => enl l s) (dd (t0 ++ [(lkQ S (M (314 + 2 * rest.length), M (314 + 2 * rest.length + 1))).toNat])) := by
            rw [← List.append_assoc]; unfold dd; rw [List.foldl_append]
          rw [this]
          simp only [List.foldl_cons, List.foldl_append, List.foldl_nil]
          rw [dd_snoc, enl_enl]
  obtain ⟨e0, e1, e7, hout⟩ := n3
  rcases hout with ⟨o9, osp, ob1, ob2⟩ | ⟨oVF, oVG, olk, oL, osp⟩
  · -- settled
    have hcr : crs S rg (s :: rest, bv, bh, lf, kk) = (rest, se bv s.toNat (qe.1 8), se bh s.toNat (hgs S (Lk S rg bv bh (s :: rest)) (s / 6) (s % 6) T (qe.1 8)), (if rest = [] then dd T else lf), kk + 1) := by
      simp only [crs, osp]
      refine Prod.ext rfl (Prod.ext rfl (Prod.ext rfl (Prod.ext ?_ rfl)))
      simp only
    have hsl6 : 6 * (s / 6) + s % 6 = s := by omega
    obtain ⟨M2, c1, c2, c3, c4, c5, c6, c7, c8⟩ := c_close hb r3 (n := s / 6) (a := s % 6) ⟨by omega, by omega⟩ ⟨by omega, by omega⟩ hlen hd9 (by rw [hq1]; exact e0) (by rw [hq1]; exact e1)
    rw [hsl6, hq1] at c2 c3
    rw [hsl6] at c5
    have hhg : (if qe.1 8 = -2 then jor (qe.1 7) ALL else qe.1 7) = hgs S (Lk S rg bv bh (s :: rest)) (s / 6) (s % 6) T (qe.1 8) := by unfold hgs; rw [e7]
    rw [hhg] at c3
    have hhb := hgs_hb hN (Lk_hb (S := S) (rg := rg) (bv := bv) (op := s :: rest) hbh) (a := s % 6) hn T (qe.1 8)
    have hsn : s ∉ rest := (List.nodup_cons.mp hOp.1).1
    have hz0 := hz s List.mem_cons_self
    refine ⟨k1 + 1, M2, by omega, ?_, ?_, ?_, ?_⟩
    · rw [a1, hG, Lp_s, hbody _ _ (by omega) (by omega), hq1, if_neg (by omega), c1, ClS, wrE (by omega) (by omega), show F - (k1 + 1) = G by omega, show v + (k1 : Int) + 1 = v + ((k1 + 1 : Nat) : Int) by omega]
    · rw [hcr]
      have hfr : ∀ j, j ≠ bk → j ≠ bk + 1 → j ≠ bk + 2 → j ≠ 310 → j ≠ 311 → j ≠ 313 → j ≠ 314 + 2 * rest.length → j ≠ 314 + 2 * rest.length + 1 → M2 j = M j := fun j j1 j2 j3 j4 j5 j6 j7 j8 => by rw [c8 j j1 j2 j3 j6 j4, a4 j j7 j8 j4 j5]
      refine ⟨⟨hRB.1.of hO fun j hj => hfr j (by omega) (by omega) (by omega) (by omega) (by omega) (by omega) (by omega) (by omega), fun j j1 j2 => by rw [hfr j (by omega) (by omega) (by omega) (by omega) (by omega) (by omega) (by omega) (by omega)]; exact hRB.2.1 j j1 j2, by rw [c7 12 (by decide)]; exact r3, by simp only; exact c6, ?_, ?_, ?_, ?_⟩, ⟨(List.nodup_cons.mp hOp.1).2, fun x hx => hOp.2 x (List.mem_cons_of_mem _ hx)⟩, ?_, ?_, ?_, lsN (rest.length + 1) l t1, ?_, a7, ?_, ?_⟩
      · rw [hfr 309 (by omega) (by omega) (by omega) (by omega) (by omega) (by omega) (by omega) (by omega)]; exact hRB.2.2.2.2.1
      · rw [c2, r6]
      · rw [c3, r7]
      · intro x hx
        rw [c5]
        unfold se
        by_cases e : x = s.toNat
        · rw [if_pos e, if_neg (by rw [e, Int.toNat_of_nonneg hs.1]; exact hsn)]
        · rw [if_neg e, r8 x hx]
          by_cases c : (x : Int) ∈ rest
          · rw [if_pos (List.mem_cons_of_mem _ c), if_pos c]
          · rw [if_neg c, if_neg (fun q => by
              rcases List.mem_cons.mp q with q | q
              · omega
              · exact c q)]
      · refine ⟨hbd.1, fun x hx hne => ?_⟩
        simp only at hne ⊢
        unfold se at hne ⊢
        by_cases e : x = s.toNat
        · rw [if_pos e]; exact ⟨ob1, ob2⟩
        · rw [if_neg e] at hne ⊢; exact hbd.2 x hx hne
      · intro x hx
        simp only
        unfold se
        split
        · exact hhb.1
        · exact hbh x hx
      · intro x hx
        simp only
        have h1 := hOp.2 x (List.mem_cons_of_mem _ hx)
        rw [se_ne _ _ (fun e => hsn (by have : x = s := by omega
                                        rw [← this]; exact hx))]
        exact hz x (List.mem_cons_of_mem _ hx)
      · intro h11
        have h11' : M1 310 11 ≠ 0 := by rw [c7 11 (by decide)] at h11; exact h11
        have := a6 h11'
        unfold Lst at this ⊢
        rw [c7 0 (by decide), c8 311 (by omega) (by omega) (by omega) (by omega) (by omega)]
        exact this
      · have hk := Chn.known (C := C) (rg := rg) (bv := bv) (M := M) (l := l) (v := qe.1 8) (h := hgs S (Lk S rg bv bh (s :: rest)) (s / 6) (s % 6) T (qe.1 8)) hz0 rest (some s) (by rw [Int.toNat_of_nonneg hs.1]; exact hsn) hrest
        simp only
        refine Chn.mem rest none hk (fun j j1 j2 => hfr j (by omega) (by omega) (by omega) (by omega) (by omega) (by omega) (by omega) (by omega)) (fun hne => ?_)
        unfold lsN
        rw [if_neg (fun q => hne (List.length_eq_zero_iff.mp (by omega)))]
      · intro he
        simp only at he ⊢
        rw [if_pos he]
        rcases hlist he with h | ⟨x, _, w, _⟩
        · exact h
        · have := w.1; omega
    · refine ⟨fun j j1 j2 j3 j4 j5 j6 j7 => ?_, fun i u1 u2 u3 => by rw [c7 i u2]; exact a5 i u1 u3, fun i hi => ?_⟩
      · rw [c8 j j1 j2 j3 j6 j4, a4 j (by omega) (by omega) j4 j5]
      · rw [c4, se_ne _ _ hi, a4 bk (by omega) (by omega) (by omega) (by omega)]
    · rw [hcr]
      simp only
      rw [if_neg (by omega), c4, se_at, a4 bk (by omega) (by omega) (by omega) (by omega)]
  · -- stuck: another attribute is begun
    have hcr : crs S rg (s :: rest, bv, bh, lf, kk) = ((((lkQ S qe).toNat : Nat) : Int) :: s :: rest, bv, bh, lf, kk) := by
      simp only [crs, osp]
      rw [List.getLastD_concat]
    have hLs : LsO M1 (lsN (rest.length + 1) l t1) := fun h11 _ => ⟨a6 h11, a7⟩
    have hVF1 : VF S (M1 (314 + 2 * rest.length), M1 (314 + 2 * rest.length + 1)) := by rw [a3]; exact oVF
    have hVG1 : VG S (M1 (314 + 2 * rest.length)) := by rw [hq1]; exact oVG
    obtain ⟨g1, g2⟩ := c_goOn (C := C) (bk := bk) (l := lsN (rest.length + 1) l t1) r1 hg hO hN hb r3 hr hLs (fun j j1 j2 => r2 j j1 j2) hVF1 hVG1
    rw [a3] at g2
    obtain ⟨⟨b1, b2, b3⟩, N1, ⟨y1, y2, y3, y4, y5, y6⟩, w1, -⟩ := g2 olk
    have hlt : (lkQ S qe).toNat < 180 := by omega
    have hLm : Lm S M1 bk (lkQ S qe).toNat = none := by rw [Lm_Lk a2 hlt]; exact oL
    have hgo := w1 hLm
    have y1' : N1 (314 + 2 * rest.length) = M1 (314 + 2 * rest.length) := by rw [y1, hLm]; rfl
    have y4' := y4 hLm
    have hx : 0 ≤ lkQ S qe := b1
    have hxc : (((lkQ S qe).toNat : Nat) : Int) = lkQ S qe := by omega
    have hLn : bh (lkQ S qe).toNat = 0 ∧ (((lkQ S qe).toNat : Nat) : Int) ∉ s :: rest := by
      have h := oL
      unfold Lk at h
      rw [if_neg (by omega)] at h
      by_cases k3 : S 12 ((lkQ S qe).toNat % 6) = 3
      · rw [if_pos k3] at h; cases h
      rw [if_neg k3] at h
      by_cases k4 : bh (lkQ S qe).toNat ≠ 0
      · rw [if_pos k4] at h; cases h
      rw [if_neg k4] at h
      refine ⟨Classical.not_not.mp k4, fun q => ?_⟩
      rw [if_pos q] at h; cases h
    have hOp2 : OpV S ((((lkQ S qe).toNat : Nat) : Int) :: s :: rest) := ⟨List.nodup_cons.mpr ⟨hLn.2, hOp.1⟩, fun x hx' => by
      rcases List.mem_cons.mp hx' with e | e
      · rw [e, hxc]; exact ⟨hx, b2, b3⟩
      · exact hOp.2 x e⟩
    have hl2 := (hOp2.sl h35.2).len
    rw [List.length_cons, List.length_cons] at hl2
    have hN19 : N1 310 9 = ((rest.length + 1 : Nat) : Int) := by rw [y3 9 (by decide) (by decide)]; exact hd9
    have hSN1 : SC N1 S := r1.of hO fun j hj => y2 j (by omega) (by omega) (by omega)
    obtain ⟨M2, c1, c2, c3, c4, c5, c6, c7⟩ := c_begin hSN1 hg hO hN (n := lkQ S qe / 6) (a := lkQ S qe % 6) ⟨by omega, b2⟩ ⟨by omega, b3⟩ (d := rest.length + 1) (by omega) hN19
    have hsl6 : 6 * (lkQ S qe / 6) + lkQ S qe % 6 = lkQ S qe := by omega
    rw [hsl6] at c1 c5
    have hfr : ∀ j, j ≠ 310 → j ≠ 311 → j ≠ 313 → j ≠ 314 + 2 * rest.length → j ≠ 314 + 2 * rest.length + 1 → j ≠ 314 + 2 * (rest.length + 1) → j ≠ 314 + 2 * (rest.length + 1) + 1 → M2 j = M j := fun j j1 j2 j3 j4 j5 j6 j7 => by rw [c6 j j6 j7 j1 j3, y2 j j4 j1 j2, a4 j j4 j5 j1 j2]
    refine ⟨k1 + 1, M2, by omega, ?_, ?_, ?_, ?_⟩
    · rw [a1, hG, Lp_s, hbody _ _ (by omega) (by omega), hq1, oVF.1, if_pos rfl, hgo, ClS, if_neg (by decide), y4', c1, ClS, wrE (by omega) (by omega), show F - (k1 + 1) = G by omega, show v + (k1 : Int) + 1 = v + ((k1 + 1 : Nat) : Int) by omega]
    · rw [hcr]
      refine ⟨⟨hRB.1.of hO fun j hj => hfr j (by omega) (by omega) (by omega) (by omega) (by omega) (by omega) (by omega), fun j j1 j2 => by rw [hfr j (by omega) (by omega) (by omega) (by omega) (by omega) (by omega) (by omega)]; exact hRB.2.1 j j1 j2, by rw [c7 12 (by decide), y3 12 (by decide) (by decide)]; exact r3, by simp only [List.length_cons]; exact c4, ?_, ?_, ?_, ?_⟩, hOp2, hbd, hbh, ?_, lsN (rest.length + 1) l (t1 ++ [(lkQ S qe).toNat]), ?_, ?_, ?_, fun q => (by cases q)⟩
      · rw [hfr 309 (by omega) (by omega) (by omega) (by omega) (by omega) (by omega) (by omega)]; exact hRB.2.2.2.2.1
      · rw [hfr (bk + 1) (by omega) (by omega) (by omega) (by omega) (by omega) (by omega) (by omega)]; exact hRB.2.2.2.2.2.1
      · rw [hfr (bk + 2) (by omega) (by omega) (by omega) (by omega) (by omega) (by omega) (by omega)]; exact hRB.2.2.2.2.2.2.1
      · intro x hx'
        rw [c5, y2 313 (by omega) (by decide) (by decide)]
        unfold se
        by_cases e : x = (lkQ S qe).toNat
        · rw [if_pos e, if_pos (by simp only; rw [e]; exact List.mem_cons_self)]
        · rw [if_neg e, r8 x hx']
          by_cases c : (x : Int) ∈ s :: rest
          · rw [if_pos c, if_pos (List.mem_cons_of_mem _ c)]
          · rw [if_neg c, if_neg (fun q => by
              rcases List.mem_cons.mp q with q | q
              · omega
              · exact c q)]
      · intro x hx'
        simp only
        rcases List.mem_cons.mp hx' with e | e
        · rw [e, Int.toNat_natCast]; exact hLn.1
        · exact hz x e
      · intro h11
        have h11' : N1 310 11 ≠ 0 := by rw [c7 11 (by decide)] at h11; exact h11
        have h11'' : M1 310 11 ≠ 0 := by rw [y3 11 (by decide) (by decide)] at h11'; exact h11'
        rw [lsN_app]
        have hL := a6 h11''
        generalize lsN (rest.length + 1) l t1 = l1 at hL y5
        unfold lsN
        simp only [List.foldl_cons, List.foldl_nil]
        rw [hxc]
        by_cases cd : rest.length + 1 = 1
        · rw [if_pos cd]
          have := y5 h11'' (by rw [hd9, cd]; rfl)
          unfold Lst at this ⊢
          rw [c7 0 (by decide), c6 311 (by omega) (by omega) (by decide) (by decide)]
          exact this
        · rw [if_neg cd]
          have h6 := y6 (fun q => cd (by have := q.2; rw [hd9] at this; omega))
          unfold Lst at hL ⊢
          rw [c7 0 (by decide), c6 311 (by omega) (by omega) (by decide) (by decide), h6.1, h6.2]
          exact hL
      · rw [lsN_app]
        generalize lsN (rest.length + 1) l t1 = l1 at a7
        unfold lsN
        simp only [List.foldl_cons, List.foldl_nil]
        rw [hxc]
        split
        · exact a7.enl_ ⟨hx, by omega⟩
        · exact a7
      · have hR1 : M2 (314 + 2 * rest.length) = qe.1 := by rw [c6 _ (by omega) (by omega) (by omega) (by omega), y1', hq1]
        have hR2 : M2 (314 + 2 * rest.length + 1) = qe.2 := by rw [c6 _ (by omega) (by omega) (by omega) (by omega), y2 _ (by omega) (by omega) (by omega), hq2]
        refine ⟨⟨_, 0, [], ?_, ?_, ⟨rfl, rfl⟩, fun q => (by cases q), fun x q => (by cases q)⟩, ⟨⟨q0, NN, T, i1, i2, by rw [hR1, hR2]; exact n2, fun hr0 => ?_, fun x hx' => ?_⟩, ?_⟩⟩
        · rw [hxc, List.length_cons]; exact c2
        · rw [hxc, List.length_cons]; exact c3
        · right
          rw [hR1, hR2]
          refine ⟨oVF, olk, ?_⟩
          rw [lsN_app]
          have hd1 : rest.length + 1 = 1 := by rw [hr0]; rfl
          rcases hlist hr0 with h | ⟨x, u1, u2, u3, u4, u5⟩
          · rw [h, dd_snoc]
            unfold lsN
            rw [if_pos hd1]
            rfl
          · rw [u1, u5, ← u3, dd_snoc]
            unfold lsN
            rw [if_pos hd1, if_pos hd1]
            simp only [List.foldl_cons, List.foldl_nil]
            rw [enl_enl]
        · rw [hR1, hR2]
          refine ⟨oVF, oVG, ?_⟩
          have := Option.some.inj hx'
          rw [← this, hxc]
        · refine Chn.mem rest (some s) hrest (fun j j1 j2 => hfr j (by omega) (by omega) (by omega) (by omega) (by omega) (by omega) (by omega)) (fun hne => ?_)
          unfold lsN
          rw [if_neg (fun q => hne (List.length_eq_zero_iff.mp (by omega)))]
    · refine ⟨fun j j1 j2 j3 j4 j5 j6 j7 => hfr j j4 j5 j6 (by omega) (by omega) (by omega) (by omega), fun i u1 u2 u3 => by rw [c7 i u2, y3 i u1 u3]; exact a5 i u1 u3, fun i hi => ?_⟩
      rw [hfr bk (by omega) (by omega) (by omega) (by omega) (by omega) (by omega) (by omega)]
    · rw [hcr]
      simp only
      rw [if_pos trivial, hfr bk (by omega) (by omega) (by omega) (by omega) (by omega) (by omega) (by omega)]
