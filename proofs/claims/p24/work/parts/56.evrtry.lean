theorem jrem_nn {x : Int} (h0 : 0 ≤ x) (h1 : x < 2147483648) : jrem x 1000 = x % 1000 := by
  unfold jrem
  have e : x.tdiv 1000 = x / 1000 := Int.tdiv_eq_ediv_of_nonneg h0
  rw [e, wrE (v := x / 1000) (by omega) (by omega), wrE (v := x / 1000 * 1000) (by omega) (by omega), wrE (by omega) (by omega)]
  omega
theorem r_expressedN {M : Mm} {k : Nat} (hk : k < 30) (h72 : M 0 72 ≠ -1) (root m : Int) : f_X12_expressed k root m M = some (-1, up (up M 62 0 root) 63 0 0) := by
  unfold f_X12_expressed
  simp only [LtE]
  rw [gdE (by omega), gdE (by decide), gdE (by decide)]
  have h72' : up (up M 62 0 root) 63 0 0 0 72 ≠ -1 := by rw [up_ne _ _ _ (by decide), up_ne _ _ _ (by decide)]; exact h72
  rw [FU_4, Lp_s, eb_over (Or.inr h72')]
/-- what follows behind the expressions of a contribution -/
def gaT (m k R isI v57 : Int) (J167 : Int → Mm → Rs) (rc : Int × Int × Int × Mm → Rs) (M58 : Mm) : Rs :=
  if ¬ M58 0 72 = -1 then J167 v57 M58 else if v57 = -2 then J167 v57 M58 else if ¬ v57 = -3 then (if isI = 0 then rc (wr (R + 0), m, wr (k + 1), M58) else Cl (f_X12_isIn v57 0 999 M58) fun v78 M77 => if v78 = 0 then rc (wr (R + 0), m, wr (k + 1), M77) else rc (wr (R + v57), m, wr (k + 1), M77)) else J167 v57 M58
def gaB (n m k R : Int) (J167 : Int → Mm → Rs) (rc : Int × Int × Int × Mm → Rs) (M41 : Mm) : Rs :=
  gd (0 ≤ k ∧ k < 30) (Cl (f_X12_expressed k (M41 25 k.toNat) m M41) fun v45 M44 => gd (0 ≤ n ∧ n < 30) (if ¬ v45 = wr (1000 + M44 36 n.toNat) then gaT m k R 0 v45 J167 rc M44 else gd (0 ≤ k ∧ k < 30) (Cl (f_X12_expressed k (M44 26 k.toNat) m M44) fun v83 M82 => gaT m k R 1 v83 J167 rc M82)))
set_option maxRecDepth 20000 in
theorem gath_body (n a R m k : Int) (J167 : Int → Mm → Rs) (J202 : Int → Int → Mm → Rs) (rc : Int × Int × Int × Mm → Rs) (M : Mm) : f_X12_gathers_L22_95 n a J167 J202 rc (R, m, k, M) = if M 0 19 ≤ k then J202 R m M else gd (0 ≤ m ∧ m < 30) (Cl (f_X12_counts k (M 31 m.toNat) a (-2) M) fun v29 M28 => if v29 = 0 then rc (R, m, wr (k + 1), M28) else Lp (f_X12_gathers_L58_94 fun v38 v39 v40 M41 => gaB n v39 v40 v38 J167 rc M41) FU (R, m, k, 0, up M28 0 76 0)) := by
  unfold gaB gaT
  simp only [f_X12_gathers_L22_95, LtE]
  rfl
theorem r_gathers {S : Mm} (hg : Okg S) (hO : Oke S) (hN : Okn S) (hP : PlO S) {B : Int} (hB : B = 0 ∨ B = 360) {rg bv bh : Nat → Int} {op : List Int} (hbd : BdO S rg bv bh) (hbh : BdH S bh) {rb : Bool} {n a : Int} (hn : 0 ≤ n ∧ n < S 0 35) (ha : 0 ≤ a ∧ a < S 0 12) (hk2 : S 12 a.toNat = 2) {M : Mm} {hc : Int} {l : List Int} (hT : TrR S M B rg bv bh op hc l) (hrb : rb = true ↔ Rec M) :
    Wp (f_X12_gathers n a M) (Qo S rg bv bh op B rb (gthL S (Lk S rg bv bh op) n (nls S a 0) 0) (jor hc ALL) l M) := by
  have h35 := hN.1
  have h30 := hO.1
  have hpn := (hP n.toNat (by omega)).1
  -- the contributions of a node
  have inner : ∀ (m : Nat) (J202 : Int → Int → Mm → Rs), (m : Int) < S 0 35 → ∀ (d j F : Nat) (R : Int) (M : Mm) (hc : Int) (l : List Int), (j : Int) + d = S 0 19 → d < F → TrR S M B rg bv bh op hc l → (rb = true ↔ Rec M) → (0 ≤ R ∧ R ≤ 1000 * (30 * m + j)) →
      (∀ (R' : Int) (M' : Mm) (hc' : Int) (l' : List Int), TrR S M' B rg bv bh op hc' l' → (rb = true ↔ Rec M') → (0 ≤ R' ∧ R' ≤ 1000 * (30 * m + 30)) → Wp (J202 R' m M') (Qo S rg bv bh op B rb (gthL S (Lk S rg bv bh op) n (nls S a (m + 1)) (R' % 1000)) hc' l' M')) →
      Wp (Lp (f_X12_gathers_L22_95 n a (fun v6 M7 => some (v6, M7)) J202) F (R, (m : Int), (j : Int), M)) (Qo S rg bv bh op B rb (gthL S (Lk S rg bv bh op) n ((gls S (S 31 m) a j).map (fun k => (m, k)) ++ nls S a (m + 1)) (R % 1000)) hc l M) := by
    intro m J202 hm d
    induction d with
    | zero =>
      intro j F R M hc l hj hF hT hrb hR cont
      obtain ⟨G, rfl⟩ : ∃ G, F = G + 1 := ⟨F - 1, by omega⟩
      rw [Lp_s, gath_body, hT.1.2 19 (by simp), if_pos (by omega), gls_end (by omega), List.map_nil, List.nil_append]
      exact cont R M hc l hT hrb ⟨hR.1, by omega⟩
    | succ d ih =>
      intro j F R M hc l hj hF hT hrb hR cont
      obtain ⟨G, rfl⟩ : ∃ G, F = G + 1 := ⟨F - 1, by omega⟩
      have hA := hT.1
      have hjk : (j : Int) < S 0 19 := by omega
      rw [Lp_s, gath_body, hA.2 19 (by simp), if_neg (by omega), gdE (by omega), hA.1 31 (by decide) (by decide) (by decide), Int.toNat_natCast, r_counts (hA.oke hO) (by rw [hA.2 19 (by simp)]; exact hjk), ClS, mt_ag hA, gls_step hjk]
      have hgo : ∀ (R' : Int) (M' : Mm) (hc' : Int) (l' : List Int), TrR S M' B rg bv bh op hc' l' → (rb = true ↔ Rec M') → (0 ≤ R' ∧ R' ≤ R + 999) → Wp (Lp (f_X12_gathers_L22_95 n a (fun v6 M7 => some (v6, M7)) J202) G (R', (m : Int), wr ((j : Int) + 1), M')) (Qo S rg bv bh op B rb (gthL S (Lk S rg bv bh op) n ((gls S (S 31 m) a (j + 1)).map (fun k => (m, k)) ++ nls S a (m + 1)) (R' % 1000)) hc' l' M') := by
        intro R' M' hc' l' hT' hrb' hR'
        rw [wrE (by omega) (by omega), show (j : Int) + 1 = ((j + 1 : Nat) : Int) by omega]
        exact ih (j + 1) G R' M' hc' l' (by omega) (by omega) hT' hrb' (by omega) cont
      by_cases c : mt S (S 31 m) a (-2) j = true
      case neg =>
        rw [if_neg c, if_pos rfl, if_neg c]
        exact hgo R M hc l hT hrb (by omega)
      rw [if_pos c, if_neg (by decide), if_pos c, r_ident]
      have hmi := mt_iff.mp c
      have hrc := roots_cell hO hjk
      have hE' := hO.2.1 j hjk
      have hn8 : eN S j ≤ 8 := by unfold eN; have := hE'.2.2.2.1; omega
      have hw : wfK (eK S j) (eN S j) := ⟨hn8, fun i hi => (hE'.2.2.2.2.2.1 i hi).2⟩
      have hlen : (stk (eK S j) (eN S j)).length = 2 := by
        have := hE'.2.2.2.2.2.2.1
        rw [hmi.2.1, if_pos hk2] at this
        exact this
      obtain ⟨r1, r2, r3, r4, r5, r6⟩ := roots2 hw hlen
      have h26 := hrc.2 (by rw [hmi.2.1]; exact hk2)
      generalize hM1 : sr (up M 0 76 0) 59 _ = M1
      have f1 : ∀ j, j ≠ 0 → j ≠ 59 → j ≠ 60 → M1 j = M j := fun j j1 j2 _ => by rw [← hM1, sr_ne _ _ j2, up_ne _ _ _ j1]
      have f0 : ∀ i, i ≠ 76 → M1 0 i = M 0 i := fun i hi => by rw [← hM1, sr_ne _ _ (by decide)]; simp [up, hi]
      have T1 := hT.g_ f1 f0
      have F1 : FrG M M1 := ⟨fun j a b c _ _ _ _ => f1 j a b c, fun i _ _ _ _ e _ => f0 i e⟩
      have hnd := hN.2.2 m hm
      have hnd2 := hnd.2.1
      have St1 : StF S M1 m 0 j := ⟨by rw [Int.toNat_natCast]; exact hmi.1, by rw [Int.toNat_natCast]; show S 31 m ≠ -1; omega, by rw [← hM1, sr_ne _ _ (by decide), up_at]; rfl, fun x hx => by rw [← hM1, sr_at, if_pos hx]; rfl⟩
      unfold gaB
      rw [gdE (by omega), Int.toNat_natCast, f1 25 (by decide) (by decide) (by decide), hA.1 25 (by decide) (by decide) (by decide), hrc.1]
      obtain ⟨A1, A2⟩ := r_expressed hg hO hN hP hB hbd hbh (rb := rb) (m := m) (by omega) (h := 0) hjk r3 T1 St1 (hrb.trans F1.rec_.symm)
      rw [Int.toNat_natCast] at A1 A2
      rw [List.map_cons, List.cons_append]
      simp only [gthL]
      have hgdn : 0 ≤ n ∧ n < 30 := by omega
      have hgdj : 0 ≤ (j : Int) ∧ (j : Int) < 30 := by omega
      cases ho : (evo S (Lk S rg bv bh op) m (S 31 m) 0 j 8 (rt1 S j)).2 with
      | none =>
        obtain ⟨w, M2, t', s, u1, u2, u3, u4, u5, u6, u7, u8⟩ := A2 ho
        have hE : evo S (Lk S rg bv bh op) m (S 31 m) 0 j 8 (rt1 S j) = (t' ++ [s], none) := Prod.ext u2 ho
        rw [hE, bnd_none, u1, ClS, gdE hgdn]
        rw [hE] at u6 u7
        have hQ : ∀ (w : Int) (M3 : Mm), M3 0 = M2 0 → M3 61 = M2 61 → FrG M M3 → Wp (gaT m j R 0 w (fun v6 M7 => some (v6, M7)) (Lp (f_X12_gathers_L22_95 n a (fun v6 M7 => some (v6, M7)) J202) G) M3) (Qo S rg bv bh op B rb (t' ++ [s], none) hc l M) ∧ Wp (gaT m j R 1 w (fun v6 M7 => some (v6, M7)) (Lp (f_X12_gathers_L22_95 n a (fun v6 M7 => some (v6, M7)) J202) G) M3) (Qo S rg bv bh op B rb (t' ++ [s], none) hc l M) := by
          intro w M3 e0 e61 hF
          have : Qo S rg bv bh op B rb (t' ++ [s], none) hc l M (w, M3) := ⟨fun v hv => (by cases hv), fun _ => ⟨t', s, rfl, by simp only; rw [e0]; exact u3, by simp only; rw [e0]; exact u4, by simp only; rw [e0]; exact u5, u6, fun hr => by
            have := u7 (F1.rec_.mpr hr)
            unfold LsR at this ⊢
            simp only
            rw [e0, e61]; exact this, hF⟩⟩
          unfold gaT
          rw [e0, if_pos u5, if_pos u5]
          exact ⟨Wp_some this, Wp_some this⟩
        by_cases cw : w = wr (1000 + M2 36 n.toNat)
        · rw [if_neg (fun q => q cw), gdE hgdj, r_expressedN (by omega) u5, ClS]
          exact (hQ (-1) _ (by rw [up_ne _ _ _ (by decide), up_ne _ _ _ (by decide)]) (by rw [up_ne _ _ _ (by decide), up_ne _ _ _ (by decide)]) (F1.trans (u8.frg.trans ⟨fun j _ _ _ _ a b c => by rw [up_ne _ _ _ b, up_ne _ _ _ a], fun i _ _ _ _ _ _ => by rw [up_ne _ _ _ (by decide), up_ne _ _ _ (by decide)]⟩))).2
        · rw [if_pos cw]
          exact (hQ w M2 rfl rfl (F1.trans u8.frg)).1
      | some v =>
        obtain ⟨vb, M2, u1, T2, F2⟩ := A1 v ho
        have hE : evo S (Lk S rg bv bh op) m (S 31 m) 0 j 8 (rt1 S j) = ((evo S (Lk S rg bv bh op) m (S 31 m) 0 j 8 (rt1 S j)).1, some v) := Prod.ext rfl ho
        generalize hE0 : (evo S (Lk S rg bv bh op) m (S 31 m) 0 j 8 (rt1 S j)).1 = t0 at hE T2
        rw [hE, bnd_some, u1, ClS, gdE hgdn]
        have F12 := F1.trans F2.frg
        have hrb2 := hrb.trans F12.rec_.symm
        have z72 := T2.2.2.2.2.1
        have epn : wr (1000 + M2 36 n.toNat) = pv S (1000 + n) := by
          rw [T2.2.2.1, wrE (by omega) (by omega)]
          unfold pv; rw [if_neg (by omega), show (1000 + n - 1000).toNat = n.toNat by omega]
        rw [epn]
        have hij := pv_inj (S := S) (v := v) (w := 1000 + n) hP vb.2 (by omega)
        have gaQ : ∀ (isI w : Int) (M3 : Mm) (tt : List Nat) (E : List Nat × Option Int), TrR S M3 B rg bv bh op (ob (Lk S rg bv bh op) hc tt) (lsB rb l tt) → FrG M M3 → (-3 ≤ w ∧ w < 1000 + S 0 35) → ((w = -2 ∨ w = -3) → E = ([], some w)) →
            (¬ (w = -2 ∨ w = -3) → E = gthL S (Lk S rg bv bh op) n ((gls S (S 31 m) a (j + 1)).map (fun k => (m, k)) ++ nls S a (m + 1)) ((if isI ≠ 0 ∧ 0 ≤ w ∧ w < 1000 then R + w else R) % 1000)) →
            Wp (gaT m j R isI (pv S w) (fun v6 M7 => some (v6, M7)) (Lp (f_X12_gathers_L22_95 n a (fun v6 M7 => some (v6, M7)) J202) G) M3) (Qo S rg bv bh op B rb (tt ++ E.1, E.2) hc l M) := by
          intro isI w M3 tt E T3 F3 wb h1 h2
          have hpw := pv_neg hP wb.2
          have z3 := T3.2.2.2.2.1
          unfold gaT
          rw [if_neg (fun q => q z3)]
          by_cases cw : w = -2 ∨ w = -3
          · have hlo : pv S w = w := pv_lo (by omega)
            rw [h1 cw, List.append_nil, hlo]
            have hq : Qo S rg bv bh op B rb (tt, some w) hc l M (w, M3) := ⟨fun v' hv => by
              have e : w = v' := Option.some.inj hv
              subst e
              exact ⟨hlo.symm, wb, T3, F3⟩, fun e => (by cases e)⟩
            rcases cw with e | e
            · rw [if_pos e]; exact Wp_some hq
            · rw [if_neg (by omega), if_neg (fun q => q e)]; exact Wp_some hq
          · have n2 : ¬ pv S w = -2 := fun e => cw (Or.inl (by
              unfold pv at e
              split at e
              · omega
              · have := (hP (w - 1000).toNat (by omega)).1; omega))
            have n3 : ¬ pv S w = -3 := fun e => cw (Or.inr (by
              unfold pv at e
              split at e
              · omega
              · have := (hP (w - 1000).toNat (by omega)).1; omega))
            rw [if_neg n2, if_pos n3, h2 cw]
            have hrb3 := hrb.trans F3.rec_.symm
            by_cases ci : isI = 0
            · rw [if_pos ci, if_neg (fun q => q.1 ci), wrE (v := R + 0) (by omega) (by omega), Int.add_zero]
              exact Wp_mono (hgo R M3 _ _ T3 hrb3 (by omega)) fun r hr => hr.cat F3
            · rw [if_neg ci, r_isIn, ClS]
              by_cases cr : 0 ≤ w ∧ w < 1000
              · rw [pv_lo cr.2, if_pos (c := 0 ≤ w ∧ w ≤ 999) (by omega), if_neg (by decide), if_pos ⟨ci, cr⟩, wrE (v := R + w) (by omega) (by omega)]
                exact Wp_mono (hgo (R + w) M3 _ _ T3 hrb3 (by omega)) fun r hr => hr.cat F3
              · rw [if_neg (c := 0 ≤ pv S w ∧ _) (by omega), if_pos rfl, if_neg (fun q => cr q.2), wrE (v := R + 0) (by omega) (by omega), Int.add_zero]
                exact Wp_mono (hgo R M3 _ _ T3 hrb3 (by omega)) fun r hr => hr.cat F3
        by_cases cr : v = 1000 + n
        · have nv : ¬ (v = -2 ∨ v = -3) := by omega
          rw [if_neg (fun q => q (hij.mpr cr)), if_neg nv, if_pos cr, gdE hgdj, T2.1.1 26 (by decide) (by decide) (by decide), h26]
          have St2 : StF S M2 m 0 j := St1.frl (F2.2.1 76 (by decide) (by decide) (by decide) (by decide) (by decide)) (F2.1 59 (by decide) (by decide) (by decide) (by decide) (by decide))
          obtain ⟨B1, B2⟩ := r_expressed hg hO hN hP hB hbd hbh (rb := rb) (m := m) (by omega) (h := 0) hjk r4 T2 St2 hrb2
          rw [Int.toNat_natCast] at B1 B2
          cases ho2 : (evo S (Lk S rg bv bh op) m (S 31 m) 0 j 8 (rt2 S j)).2 with
          | none =>
            obtain ⟨w, M3, t', s, y1, y2, y3, y4, y5, y6, y7, y8⟩ := B2 ho2
            have hE2 : evo S (Lk S rg bv bh op) m (S 31 m) 0 j 8 (rt2 S j) = (t' ++ [s], none) := Prod.ext y2 ho2
            rw [hE2, bnd_none, y1, ClS]
            rw [hE2] at y6 y7
            unfold gaT
            rw [if_pos y5]
            refine Wp_some ⟨fun v hv => (by cases hv), fun _ => ⟨t0 ++ t', s, by simp only; rw [List.append_assoc], y3, y4, y5, by simp only; rw [lsB_app]; exact y6, fun hr => by simp only; rw [lsB_app]; exact y7 (F12.rec_.mpr hr), F12.trans y8.frg⟩⟩
          | some w =>
            obtain ⟨wb, M3, y1, T3, F3⟩ := B1 w ho2
            have hE2 : evo S (Lk S rg bv bh op) m (S 31 m) 0 j 8 (rt2 S j) = ((evo S (Lk S rg bv bh op) m (S 31 m) 0 j 8 (rt2 S j)).1, some w) := Prod.ext rfl ho2
            generalize (evo S (Lk S rg bv bh op) m (S 31 m) 0 j 8 (rt2 S j)).1 = t1 at hE2 T3
            rw [hE2, bnd_some, y1, ClS]
            rw [← ob_app, ← lsB_app] at T3
            have := gaQ 1 w M3 (t0 ++ t1) (if w = -2 ∨ w = -3 then ([], some w) else gthL S (Lk S rg bv bh op) n ((gls S (S 31 m) a (j + 1)).map (fun k => (m, k)) ++ nls S a (m + 1)) (if 0 ≤ w ∧ w < 1000 then jrem (wr (R % 1000 + w)) 1000 else R % 1000)) T3 (F12.trans F3.frg) wb (fun cw => if_pos cw) (fun cw => by
              rw [if_neg cw]
              by_cases c1 : 0 ≤ w ∧ w < 1000
              · rw [if_pos c1, if_pos ⟨by decide, c1⟩, jrem_sum (by omega) c1, show (R % 1000 + w) % 1000 = (R + w) % 1000 by omega]
              · rw [if_neg c1, if_neg (fun q => c1 q.2)])
            rw [List.append_assoc] at this
            exact this
        · rw [if_pos (fun q => cr (hij.mp q))]
          exact gaQ 0 v M2 t0 (if v = -2 ∨ v = -3 then ([], some v) else if v = 1000 + n then _ else gthL S (Lk S rg bv bh op) n ((gls S (S 31 m) a (j + 1)).map (fun k => (m, k)) ++ nls S a (m + 1)) (R % 1000)) T2 F12 vb (fun cw => if_pos cw) (fun cw => by rw [if_neg cw, if_neg cr, if_neg (fun q => q.1 rfl)])
  -- the nodes
  have outer : ∀ (d m F : Nat) (R : Int) (M : Mm) (hc : Int) (l : List Int), (m : Int) + d = S 0 35 → d < F → TrR S M B rg bv bh op hc l → (rb = true ↔ Rec M) → (0 ≤ R ∧ R ≤ 1000 * (30 * m)) → Wp (Lp (f_X12_gathers_L10_96 n a (fun v2 M3 => some (jrem v2 1000, M3)) fun v6 M7 => some (v6, M7)) F (R, (m : Int), M)) (Qo S rg bv bh op B rb (gthL S (Lk S rg bv bh op) n (nls S a m) (R % 1000)) hc l M) := by
    intro d
    induction d with
    | zero =>
      intro m F R M hc l hm hF hT hrb hR
      obtain ⟨G, rfl⟩ : ∃ G, F = G + 1 := ⟨F - 1, by omega⟩
      rw [Lp_s]
      simp only [f_X12_gathers_L10_96, LtE]
      rw [hT.1.2 35 (by simp), if_pos (by omega), nls_end (by omega), jrem_nn hR.1 (by omega)]
      refine Wp_some ⟨fun v hv => ?_, fun e => (by cases e)⟩
      have e : R % 1000 = v := Option.some.inj hv
      subst e
      exact ⟨(pv_lo (by omega)).symm, by omega, by unfold lsB; simp only [gthL, ob, List.foldl_nil, ite_self]; exact hT, FrG.refl M⟩
    | succ d ih =>
      intro m F R M hc l hm hF hT hrb hR
      obtain ⟨G, rfl⟩ : ∃ G, F = G + 1 := ⟨F - 1, by omega⟩
      rw [Lp_s]
      simp only [f_X12_gathers_L10_96, LtE]
      rw [hT.1.2 35 (by simp), if_neg (by omega), nls_step (by omega)]
      refine inner m _ (by omega) (S 0 19).toNat 0 FU R M hc l (by omega) (FU_lt (by omega)) hT hrb (by omega) fun R' M' hc' l' hT' hrb' hR' => ?_
      rw [wrE (by omega) (by omega), show (m : Int) + 1 = ((m + 1 : Nat) : Int) by omega]
      exact ih (m + 1) G R' M' hc' l' (by omega) (by omega) hT' hrb' (by omega)
  unfold f_X12_gathers
  simp only [LtE]
  have T1 : TrR S (up M 0 75 1) B rg bv bh op (jor hc ALL) l := by
    obtain ⟨hA, e036, e36, e68, e72, hO', hc1, hH, hS, hl⟩ := hT
    refine ⟨⟨fun j j1 j2 j3 => by rw [up_ne _ _ _ (by omega)]; exact hA.1 j j1 j2 j3, fun i hi => by rw [← hA.2 i hi]; unfold up; rw [if_neg (by omega)]⟩, by simp [up, e036], by rw [up_ne _ _ _ (by decide)]; exact e36, by simp [up, e68], by simp [up, e72], hO'.frl fun j hj => up_ne _ _ _ (by omega), (hc1.or_ (HBt.all S)).1, ?_, hS, fun hr => ?_⟩
    · rw [show up M 0 75 1 0 74 = M 0 74 by simp [up], up_at]
      exact HR.all_ h35.2 hc1 hH
    · unfold Rec at hr
      unfold LsR at hl ⊢
      rw [show up M 0 75 1 0 79 = M 0 79 by simp [up], show up M 0 75 1 0 69 = M 0 69 by simp [up]] at hr
      rw [show up M 0 75 1 0 80 = M 0 80 by simp [up], up_ne _ _ _ (by decide)]
      exact hl hr
  have F1 : FrG M (up M 0 75 1) := ⟨fun j a _ _ _ _ _ _ => up_ne _ _ _ a, fun i _ _ _ d _ _ => by simp [up, d]⟩
  refine Wp_mono (outer (S 0 35).toNat 0 FU 0 (up M 0 75 1) (jor hc ALL) l (by omega) (FU_lt (by omega)) T1 (hrb.trans F1.rec_.symm) (by omega)) fun r hr => ?_
  exact Qo.cat (t0 := []) (by simpa [ob, lsB] using hr) F1
