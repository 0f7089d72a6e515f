/-! a node rewritten: what is kept goes along -/
theorem keeps24 {RG : Mm → Nat → Int} (hRG : RGok RG) (hRs : RGs RG) {MC MR : Mm} {k : Nat} (hI : Inv RG MC MR k) (hK : KpO MR (RG MR) [] (MC 300) (MC 301)) {n a : Int} (hn : 0 ≤ n ∧ n < MR 0 35) (ha : 0 ≤ a ∧ a < MR 0 12) :
    ∃ v M3 MC' MR', f_X7_settle MC = some (0, M3) ∧ f_X11_foundWith n a 299 M3 = some (v, MC') ∧ f_X12_keeps n a MR = some (pv MR v, MR') ∧ Inv RG MC' MR' k ∧ (-3 ≤ v ∧ v < 1000 + MR 0 35) ∧ (∀ j, j ≤ 298 → M3 j = MC j) ∧ (∀ j, j ≤ 298 → MC' j = MC j) ∧ (∀ j, 1 ≤ j → j ≤ 49 → MR' j = MR j) ∧ (∀ i, i = 0 ∨ i = 12 ∨ i = 19 ∨ i = 35 ∨ i = 87 ∨ i = 79 → MR' 0 i = MR 0 i) ∧ KpO MR' (RG MR') [] (MC' 300) (MC' 301) ∧ ∃ d : Nat, d ≤ 400 ∧ (0 ≤ MC 299 0 → MC 299 0 ≤ 900000000 → MC' 299 0 = MC 299 0 + d) := by
  obtain ⟨M3, N3, s1, s2, s3, s4, s5, s6, s7⟩ := settle24 hRG hRs hI
  have hq0 : AgQ MR N3 := AgQ.of49 s6 s7
  have hK3 : KpO N3 (RG N3) [] (M3 300) (M3 301) := CI0.to hRG hK hq0 (s5 300 (by decide)) (s5 301 (by decide))
  have hp3 := s3.1
  obtain ⟨⟨p1, p2, p3, p4, p5⟩, ⟨q1, q2, q3, q4, q5⟩, q6, q7, p6⟩ := id hp3
  have hP := p6.pl
  have h12 := p1.2.1
  have h35 := p5.1
  rw [← s7 35 (by simp)] at hn
  rw [← s7 12 (by simp)] at ha
  have e36 : N3 36 = MR 36 := s6 36 (by decide) (by decide)
  have hpn := (hP n.toNat (by omega)).1
  have hkc : f_X5_kindOf a M3 = some (N3 12 a.toNat, M3) := by rw [c_kindOf, if_pos ⟨ha.1, by rw [q1.2.1]; exact ha.2, by omega⟩, q1.2.2.1 a ha.1 ha.2]
  by_cases k3 : N3 12 a.toNat = 3
  · have hx := ixN_eq (S := N3) hn.1 ⟨ha.1, Int.lt_of_lt_of_le ha.2 h12.2⟩
    have hv := s4.2.1 (6 * n + a).toNat (by omega)
    have h55 := s4.2.2 (6 * n + a).toNat (by omega) (by rw [hx.2.1]; omega) (by rw [hx.2.1]; exact k3)
    rw [hx.2.2] at h55
    refine ⟨RG N3 (6 * n + a).toNat, M3, M3, N3, s1, ?_, ?_, s3, ⟨hv.1, by rw [← s7 35 (by simp)]; omega⟩, fun j hj => s5 j (by omega), fun j hj => s5 j (by omega), s6, s7, hK3, 0, by decide, fun _ _ => by rw [s5 299 (by decide)]; omega⟩
    · unfold f_X11_foundWith
      rw [hkc, ClS, if_neg (fun q => q k3), c_slotOf (by omega) (by omega), ClS]
      unfold f_X7_valueOf
      rw [c_entryOf_in 180 alenC_309 (by omega) (by omega), ClS, ClS, s4.1 _ (by omega)]
    · unfold f_X12_keeps
      simp only [LtE]
      rw [s2, ClS, gdE (by omega), if_neg (fun q => q k3), gdE (by omega), wrE (v := 6 * N3 36 n.toNat) (by omega) (by omega), wrE (by omega) (by omega), gdE (by omega), h55, pv_lo hv.2]
  · obtain ⟨v, MC', MR', f1, f2, f3, f4, f5, f6, f7, f8, f9, g1, g2, g3, g4, g5⟩ := find24 hRG s3 s4 hK3 hn ha k3
    have hq2 : AgQ N3 MR' := AgQ.of49 f8 f9
    have hAt := r_at (S := N3) (M := N3) hP (Or.inl rfl) rfl p6.1 h35.2 hn ⟨ha.1, by omega⟩
    refine ⟨v, M3, MC', MR', s1, ?_, ?_, f3, ⟨f5.1, by rw [← s7 35 (by simp)]; exact f5.2⟩, fun j hj => s5 j (by omega), fun j hj => by rw [f6 j hj]; exact s5 j (by omega), fun j j1 j2 => by rw [f8 j j1 j2]; exact s6 j j1 j2, fun i hi => by rw [f9 i hi]; exact s7 i hi, by rw [RG_q hRG hq2]; exact KpO_q hq2 g2, ?_⟩
    · unfold f_X11_foundWith
      rw [hkc, ClS, if_pos k3, f1, ClS]
    · unfold f_X12_keeps
      simp only [LtE]
      rw [s2, ClS, gdE (by omega), if_pos k3, hAt.1, ClS, gdE hAt.2, gdE hAt.2]
      have e0 : 0 + 6 * N3 36 n.toNat + a = 6 * N3 36 n.toNat + a := by omega
      rw [e0, ← pv_ag e36]
      exact f2 fun v' M' => some (v', M')
    · rw [← s5 299 (by decide)]
      by_cases c : M3 301 (6 * n + a).toNat = 0
      · obtain ⟨d, d1, d2, d3⟩ := g5 c
        exact ⟨d, d2, d3⟩
      · exact ⟨0, by decide, fun _ _ => by rw [g4 c]; omega⟩
theorem slM_id (s : Nat) : slM (fun n => n) s = s := by show 6 * (s / 6) + s % 6 = s; omega
theorem rvM_id (v : Int) : rvM (fun n => n) v = v := by
  unfold rvM
  show (if v < 1000 then v else 1000 + (((v - 1000).toNat : Nat) : Int)) = v
  split <;> omega
theorem AgQ.row0 {S : Mm} {v : Int} : AgQ S (up S 0 87 v) := ⟨fun j j1 _ _ => up_ne _ _ _ (by omega), fun i hi => by
  have : i ≠ 87 := by omega
  simp [up, this]⟩
theorem t_rewrite {RG : Mm → Nat → Int} (hRG : RGok RG) (hRs : RGs RG) {MC MR : Mm} (hci : CI0 RG MC MR) (hX : ∀ p : Int, 0 ≤ p → p < MR 0 0 → MR 10 p.toNat ≠ -1 → MR 1 (MR 10 p.toNat).toNat = MR 1 p.toNat) {n : Int} (h1 : 0 ≤ n ∧ n < MR 0 35) :
    ∃ p' M' S', f_X11_rewrite n MC = some (0, p', M') ∧ CI0 RG M' S' ∧ (∀ j, j ≤ 298 → j ≠ 287 → M' j = MC j) ∧ (0 ≤ p' ∧ p' < MR 0 0 ∧ MR 4 p'.toNat = MR 4 (MR 31 n.toNat).toNat ∧ MR 1 p'.toNat = MR 1 (MR 31 n.toNat).toNat) ∧ ((∀ j, 1 ≤ j → j ≤ 49 → j ≠ 31 → S' j = MR j) ∧ S' 31 = se (MR 31) n.toNat p' ∧ ∀ i, i = 0 ∨ i = 12 ∨ i = 19 ∨ i = 35 ∨ i = 79 → S' 0 i = MR 0 i) ∧ ∃ d : Nat, d ≤ 400 ∧ (0 ≤ MC 299 0 → MC 299 0 ≤ 900000000 → M' 299 0 = MC 299 0 + d) := by
  obtain ⟨hI, hK⟩ := hci
  obtain ⟨hp, hV, hR, -⟩ := id hI
  obtain ⟨⟨p1, p2, p3, p4, p5⟩, ⟨q1, q2, q3, q4, q5⟩, q6, q7, p6⟩ := id hp
  have hN := p5.1
  have h10 := p1.1
  have hnode := p5.2.2 n.toNat (by omega)
  have hcn := q5.2.2 n.toNat (by omega)
  generalize hpp : MR 31 n.toNat = p at hcn
  have hpr : 0 ≤ p ∧ p < MR 0 0 := by rw [← hpp]; exact hnode.2.1
  have hOp := p1.2.2.2.1 p hpr.1 hpr.2
  have hI0 := hI.thr hRG 0 0
  have e0 : ∀ i, i ≠ 87 → up MR 0 87 0 0 i = MR 0 i := fun i hi => by simp [up, hi]
  have er : ∀ j, j ≠ 0 → up MR 0 87 0 j = MR j := fun j hj => up_ne _ _ _ hj
  have hnow : f_X8_nowOf 283 n MC = some (p, MC) := by
    unfold f_X8_nowOf
    simp only [LtE]
    rw [if_neg (by omega), if_neg (by omega), gdE (by omega)]
    have : MC (283 + 4) n.toNat = p := hcn.2.2.2.1
    rw [this]
  have hro : f_X5_ruleOtherOf p MC = some (MR 10 p.toNat, MC) := g_ruleOther q1 p1 hpr
  generalize hto : MR 10 p.toNat = to at hro
  have hrA : ∀ x, f_X12_rewrite n MR = x ↔ (if ¬ to = -1 then Cl (f_X12_keeps n (MR 11 p.toNat) (up MR 0 87 0)) fun v28 M27 => Cl (f_X12_isIn v28 1 999 M27) fun v15 M14 => if v15 = 0 then gd (0 ≤ n ∧ n < 30) (some (M14 31 n.toNat, M14)) else gd (0 ≤ n ∧ n < 30) (gd (0 ≤ n ∧ n < 30) (Cl (f_X12_drops (lshl_ 1 (up M14 31 n.toNat to 36 n.toNat)) 0 1 (up M14 31 n.toNat to)) fun _ M23 => gd (0 ≤ n ∧ n < 30) (some (M23 31 n.toNat, M23)))) else some (p, up MR 0 87 0)) = x := by
    intro x
    unfold f_X12_rewrite; simp only [LtE]
    rw [r_isNode hN, ClS, if_pos h1, if_neg (by decide), r_fails, ClS, if_pos (by decide), gdE (by omega), er 31 (by decide), hpp, gdE (by omega), er 10 (by decide), hto]
    by_cases c : to = -1
    · rw [if_neg (c := ¬ to = -1) (fun q => q c), if_neg (c := ¬ to = -1) (fun q => q c), r_isIn, ClS, if_pos (by decide), gdE (by omega), er 31 (by decide), hpp]
    · rw [if_pos (c := ¬ to = -1) c, if_pos (c := ¬ to = -1) c, gdE (by omega), gdE (by omega), er 11 (by decide)]
  by_cases cto : to = -1
  · refine ⟨p, MC, up MR 0 87 0, ?_, ⟨hI0, CI0.to hRG hK AgQ.row0 rfl rfl⟩, fun _ _ _ => rfl, ⟨hpr.1, hpr.2, rfl, rfl⟩, ⟨fun j j1 _ _ => er j (by omega), by rw [er 31 (by decide), ← hpp, se_self], fun i hi => e0 i (by omega)⟩, 0, by decide, fun _ _ => by omega⟩
    · unfold f_X11_rewrite
      rw [g_mustNode q5, if_pos h1]
      show Cl (f_X8_nowOf 283 n MC) _ = _
      rw [hnow, ClS, hro, ClS, if_neg (fun q => q cto)]
  have hrule := hOp.2.2.2.2.2.2.2.2.2.resolve_left (by rw [hto]; exact cto)
  rw [hto] at hrule
  obtain ⟨v, M3, MC', MR', f1, f2, f3, f4, f5, f6, f7, f8, f9, hKf, hdf⟩ := keeps24 hRG hRs hI0 (CI0.to hRG hK AgQ.row0 rfl rfl) (n := n) (a := MR 11 p.toNat) (by rw [e0 35 (by decide)]; exact h1) (by rw [e0 12 (by decide)]; exact ⟨hrule.2.2.2.2.1, hrule.2.2.2.2.2⟩)
  have hra : f_X5_ruleAttributeOf p M3 = some (MR 11 p.toNat, M3) := by
    rw [c_ruleAttributeOf, if_pos (by omega), f6 11 (by decide), (q1.2.2.2.1 p hpr.1 hpr.2).2.2.2.2.2.2.1 (by rw [hto]; exact cto)]
  have hcl : ∀ x, f_X11_rewrite n MC = x ↔ (if v ≤ 0 then some (0, p, MC') else if v < 1000 then Cl (f_X8_rewriteTo 283 n to MC') fun _ M16 => Cl (f_X11_bitOf n M16) fun v18 M17 => Cl (f_X3_drop 299 (jor v18 1073741824) M17) fun _ M20 => Cl (f_X7_forget M20) fun _ M21 => some (0, to, M21) else some (0, p, MC')) = x := by
    intro x
    unfold f_X11_rewrite
    rw [g_mustNode q5, if_pos h1]
    have : (Cl (f_X8_nowOf 283 n MC) fun v3 M2 => Cl (f_X5_ruleOtherOf v3 M2) fun v5 M4 => if ¬ v5 = -1 then (Cl (f_X7_settle M4) fun _ M7 => Cl (f_X5_ruleAttributeOf v3 M7) fun v9 M8 => Cl (f_X11_foundWith n v9 299 M8) fun v11 M10 => Lt (fun (M12 : Mm) => some (0, v3, M12)) fun J69_13 => if v11 ≤ 0 then (J69_13 M10) else (if v11 < 1000 then (Cl (f_X8_rewriteTo 283 n v5 M10) fun _ M16 => Cl (f_X11_bitOf n M16) fun v18 M17 => Lt (jor v18 1073741824) fun v19 => Cl (f_X3_drop 299 v19 M17) fun _ M20 => Cl (f_X7_forget M20) fun _ M21 => some (0, v5, M21)) else (J69_13 M10))) else (some (0, v3, M4))) = x ↔ (if v ≤ 0 then some (0, p, MC') else if v < 1000 then Cl (f_X8_rewriteTo 283 n to MC') fun _ M16 => Cl (f_X11_bitOf n M16) fun v18 M17 => Cl (f_X3_drop 299 (jor v18 1073741824) M17) fun _ M20 => Cl (f_X7_forget M20) fun _ M21 => some (0, to, M21) else some (0, p, MC')) = x := by
      simp only [LtE]
      rw [hnow, ClS, hro, ClS, if_pos cto, f1, ClS, hra, ClS, f2, ClS]
    exact this
  have h87 : MR' 0 87 = 0 := by rw [f9 87 (by simp), up_at]
  have e31 : MR' 31 = MR 31 := by rw [f8 31 (by decide) (by decide), er 31 (by decide)]
  have hpv : ∀ M, f_X12_isIn (pv (up MR 0 87 0) v) 1 999 M = some (if 1 ≤ v ∧ v ≤ 999 then 1 else 0, M) := by
    intro M
    have hP : PlO (up MR 0 87 0) := by have := p6.pl; unfold PlO at this ⊢; rw [e0 35 (by decide), er 36 (by decide)]; exact this
    have hv2 := (pv_neg hP f5.2).2
    rw [r_isIn]
    by_cases c : v < 1000
    · rw [pv_lo c]
    · rw [if_neg (by omega), if_neg (by omega)]
  by_cases cv : 1 ≤ v ∧ v ≤ 999
  case neg =>
    refine ⟨p, MC', MR', ?_, ⟨f4, hKf⟩, fun j hj _ => f7 j hj, ⟨hpr.1, hpr.2, rfl, rfl⟩, ⟨fun j j1 j2 _ => by rw [f8 j j1 j2, er j (by omega)], by rw [e31, ← hpp, se_self], fun i hi => by rw [f9 i (by omega), e0 i (by omega)]⟩, hdf⟩
    · rw [hcl]
      by_cases c : v ≤ 0
      · rw [if_pos c]
      · rw [if_neg c, if_neg (by omega)]
  obtain ⟨hp', hV', hR', V, H, b1, b2, b3⟩ := id f4
  obtain ⟨⟨p1', p2', p3', p4', p5'⟩, ⟨q1', q2', q3', q4', q5'⟩, q6', q7', p6'⟩ := id hp'
  have hP := p6'.pl
  have h35 := p5'.1
  have e035 : MR' 0 35 = MR 0 35 := by rw [f9 35 (by simp), e0 35 (by decide)]
  have e00 : MR' 0 0 = MR 0 0 := by rw [f9 0 (by simp), e0 0 (by decide)]
  have hrw : ∀ j, 1 ≤ j → j ≤ 49 → MR' j = MR j := fun j j1 j2 => by rw [f8 j j1 j2, er j (by omega)]
  have hpn := (hP n.toNat (by omega)).1
  -- the class
  generalize hM1 : up MC' 287 n.toNat to = M1
  generalize hb : jor (bitC n) 1073741824 = b
  generalize hM2 : (sr M1 301 fun s => if s < 180 ∧ jand (M1 301 s) b ≠ 0 then 0 else M1 301 s) = M2
  generalize hM3 : up M2 676 6 0 = M5
  have hcl2 : f_X11_rewrite n MC = some (0, to, M5) := by
    rw [hcl, if_neg (by omega), if_pos (by omega)]
    unfold f_X8_rewriteTo
    rw [c_setEntry_in 30 alenC_287 (by omega) (by omega), ClS, ClS]
    have hM1' : up MC' (283 + 4) n.toNat to = M1 := hM1
    rw [hM1', c_bitOf, ClS, hb, c_drop, ClS, hM2]
    unfold f_X7_forget
    simp only [LtE]
    rw [ClS, hM3]
  have m5 : ∀ j, j ≠ 287 → j ≠ 301 → j ≠ 676 → M5 j = MC' j := fun j a b c => by rw [← hM3, up_ne _ _ _ c, ← hM2, sr_ne _ _ b, ← hM1, up_ne _ _ _ a]
  have m5287 : M5 287 = up MC' 287 n.toNat to 287 := by rw [← hM3, up_ne _ _ _ (by decide), ← hM2, sr_ne _ _ (by decide), hM1]
  have m5301 : ∀ s, s < 180 → M5 301 s = if jand (H s) b ≠ 0 then 0 else H s := fun s hs => by
    have e1 : M1 301 s = H s := by rw [← hM1, up_ne _ _ _ (by decide)]; exact (b2 s hs).1
    rw [← hM3, up_ne _ _ _ (by decide), ← hM2, sr_at, e1]
    by_cases c : jand (H s) b ≠ 0
    · rw [if_pos ⟨hs, c⟩, if_pos c]
    · rw [if_neg (fun q => c q.2), if_neg c]
  -- the reference
  generalize hN1 : up MR' 31 n.toNat to = N1
  have n1 : ∀ j, j ≠ 31 → N1 j = MR' j := fun j hj => by rw [← hN1, up_ne _ _ _ hj]
  generalize ht : lshl_ 1 (MR' 36 n.toNat) = t
  have htb := lshl_ok hpn
  rw [ht] at htb
  obtain ⟨f, g1, g2, g3⟩ := r_drops t 0 1 N1
  generalize hN2 : sr N1 50 f = N2 at g1
  have n2 : ∀ j, j ≠ 50 → N2 j = N1 j := fun j hj => by rw [← hN2, sr_ne _ _ hj]
  have n231 : N2 31 n.toNat = to := by rw [n2 31 (by decide), ← hN1, up_at]
  have hrl : f_X12_rewrite n MR = some (to, N2) := by
    rw [hrA, if_pos cto, f3, ClS, hpv, ClS, if_pos cv, if_neg (by decide), gdE (by omega), gdE (by omega), hN1, n1 36 (by decide), ht, g1, ClS, gdE (by omega), n231]
  have nn : ∀ j, j ≠ 31 → j ≠ 50 → N2 j = MR' j := fun j a b => by rw [n2 j b, n1 j a]
  have hbC := bitC_ok (n := n) (Or.inr ⟨h1.1, by omega⟩)
  have hbb : (0 ≤ b ∧ b < 2147483648) ∧ ∀ i, bt b i = (decide ((i : Int) = n) || decide (i = 30)) := by
    rw [← hb]
    have ha := ALL_bt
    refine ⟨(jor_nat hbC.1 ha.1).1, fun i => ?_⟩
    have := jor_bt hbC.1 ha.1 i
    rw [hbC.2, ha.2] at this
    exact this
  have hres : CI0 RG M5 N2 → ∃ p' M' S', f_X11_rewrite n MC = some (0, p', M') ∧ CI0 RG M' S' ∧ (∀ j, j ≤ 298 → j ≠ 287 → M' j = MC j) ∧ (0 ≤ p' ∧ p' < MR 0 0 ∧ MR 4 p'.toNat = MR 4 p.toNat ∧ MR 1 p'.toNat = MR 1 p.toNat) ∧ ((∀ j, 1 ≤ j → j ≤ 49 → j ≠ 31 → S' j = MR j) ∧ S' 31 = se (MR 31) n.toNat p' ∧ ∀ i, i = 0 ∨ i = 12 ∨ i = 19 ∨ i = 35 ∨ i = 79 → S' 0 i = MR 0 i) ∧ ∃ d : Nat, d ≤ 400 ∧ (0 ≤ MC 299 0 → MC 299 0 ≤ 900000000 → M' 299 0 = MC 299 0 + d) := fun hc => by
    refine ⟨to, M5, N2, hcl2, hc, fun j hj h => by rw [m5 j h (by omega) (by omega), f7 j hj], ⟨hrule.1, hrule.2.1, hrule.2.2.1, ?_⟩, ⟨fun j j1 j2 j3 => ?_, ?_, fun i hi => ?_⟩, ?_⟩
    · have := hX p hpr.1 hpr.2 (by rw [hto]; exact cto)
      rw [hto] at this
      exact this
    · by_cases c50 : j = 50
      · omega
      · rw [nn j j3 c50, hrw j j1 j2]
    · funext x
      rw [n2 31 (by decide), ← hN1, up_se, sr_at, e31]
    · rw [nn 0 (by decide) (by decide), f9 i (by omega), e0 i (by omega)]
    · obtain ⟨d, d1, d2⟩ := hdf
      exact ⟨d, d1, fun x y => by rw [m5 299 (by decide) (by decide) (by decide)]; exact d2 x y⟩
  have hOn' : p = MR' 31 n.toNat := by rw [e31, hpp]
  have hrule' : 0 ≤ to ∧ to < MR' 0 0 ∧ MR' 4 to.toNat = MR' 4 p.toNat ∧ MR' 6 to.toNat = MR' 6 p.toNat := by
    rw [e00, hrw 4 (by decide) (by decide), hrw 6 (by decide) (by decide)]
    exact ⟨hrule.1, hrule.2.1, hrule.2.2.1, hrule.2.2.2.1⟩
  have e0n : N2 0 = MR' 0 := nn 0 (by decide) (by decide)
  have hOkn : Okn N2 := by
    refine ⟨by rw [e0n]; exact p5'.1, ⟨by rw [e0n]; exact p5'.2.1.1, ?_⟩, fun m hm => ?_⟩
    · unfold PRo
      rw [e0n, nn 4 (by decide) (by decide), nn 30 (by decide) (by decide), nn 34 (by decide) (by decide), nn 32 (by decide) (by decide), nn 33 (by decide) (by decide)]
      exact p5'.2.1.2
    rw [e0n] at hm
    have hm0 := p5'.2.2 m hm
    obtain ⟨o1, o2, o3, o4, o5, o6, o7, o8⟩ := hm0
    unfold NodeOk
    rw [e0n, nn 30 (by decide) (by decide), nn 4 (by decide) (by decide), nn 6 (by decide) (by decide), nn 35 (by decide) (by decide), nn 32 (by decide) (by decide), nn 33 (by decide) (by decide), nn 34 (by decide) (by decide)]
    by_cases c : m = n.toNat
    · subst c
      rw [n231]
      rw [← hOn'] at o3 o4
      exact ⟨o1, ⟨hrule'.1, hrule'.2.1⟩, by rw [hrule'.2.2.1]; exact o3, by rw [hrule'.2.2.2]; exact o4, o5, o6, o7, o8⟩
    · have : N2 31 m = MR' 31 m := by rw [n2 31 (by decide), ← hN1]; simp [up, c]
      rw [this]
      exact ⟨o1, o2, o3, o4, o5, o6, o7, o8⟩
  have hCN : CN M5 N2 := by
    obtain ⟨x1, x2, x3⟩ := q5'
    refine ⟨by rw [m5 283 (by decide) (by decide) (by decide), e0n]; exact x1, by rw [m5 283 (by decide) (by decide) (by decide), e0n]; exact x2, fun m hm => ?_⟩
    rw [e0n] at hm
    have := x3 m hm
    rw [m5 284 (by decide) (by decide) (by decide), m5 285 (by decide) (by decide) (by decide), m5 286 (by decide) (by decide) (by decide), m5 288 (by decide) (by decide) (by decide), m5 289 (by decide) (by decide) (by decide), nn 32 (by decide) (by decide), nn 33 (by decide) (by decide), nn 30 (by decide) (by decide), nn 35 (by decide) (by decide), nn 4 (by decide) (by decide), nn 34 (by decide) (by decide)]
    refine ⟨this.1, this.2.1, this.2.2.1, ?_, this.2.2.2.2.1, this.2.2.2.2.2⟩
    rw [m5287]
    by_cases c : m = n.toNat
    · subst c; rw [n231, up_at]
    · have e1 : N2 31 m = MR' 31 m := by rw [n2 31 (by decide), ← hN1]; simp [up, c]
      have e2 : up MC' 287 n.toNat to 287 m = MC' 287 m := by simp [up, c]
      rw [e1, e2]; exact this.2.2.2.1
  have hBk : Bks M5 N2 := by
    refine ⟨V, fun s => if jand (H s) b ≠ 0 then 0 else H s, fun m a hm ha => ?_, fun s hs => ⟨m5301 s hs, fun hne => ?_⟩, fun q hq => ?_, fun m a hm ha => ?_, fun q a hq ha hno => ?_⟩
    · have := b1 m a hm ha
      rw [e0n, nn 12 (by decide) (by decide), nn 32 (by decide) (by decide)]
      simp only
      by_cases c : jand (H (6 * m + a)) b ≠ 0
      · rw [if_pos c]; exact ⟨⟨by decide, by decide⟩, fun q => absurd rfl q⟩
      · rw [if_neg c]; exact this
    · simp only at hne
      rw [m5 300 (by decide) (by decide) (by decide)]
      refine (b2 s hs).2 fun q => ?_
      rw [q] at hne
      split at hne <;> exact absurd rfl hne
    · have : N2 50 q = f q := by rw [← hN2, sr_at]
      rw [this]
      have g := g3 q hq
      by_cases c : N1 50 q = 0
      · exact Or.inl (g.1 c)
      · by_cases d : DpR N1 t 0 1 q
        · exact Or.inl ((g.2 c).1 d)
        · exact Or.inr ((g.2 c).2 d)
    · rw [e0n] at hm
      have hpm := (hP m hm).1
      have hbm := b3.2.1 m a hm ha
      have hob := b1 m a (by omega) ha
      rw [nn 36 (by decide) (by decide)]
      generalize hix : 6 * (MR' 36 m).toNat + a = ix at hbm
      have hi360 : ix < 360 := by omega
      have g := g3 ix hi360
      have e50 : N2 50 ix = f ix := by rw [← hN2, sr_at]
      have e50' : N1 50 ix = MR' 50 ix := by rw [n1 50 (by decide)]
      simp only
      rw [e50, pv_ag (nn 36 (by decide) (by decide)), nn 52 (by decide) (by decide), nn 53 (by decide) (by decide), nn 54 (by decide) (by decide)]
      have hk := b3.1 ix hi360
      by_cases c : H (6 * m + a) = 0
      · have c0 : N1 50 ix = 0 := by
          rw [e50']
          rcases hk with w | w
          · exact w
          · exact absurd c (hbm.1.mp w)
        rw [g.1 c0]
        have : (if jand (H (6 * m + a)) b ≠ 0 then (0 : Int) else H (6 * m + a)) = 0 := by rw [c]; split <;> rfl
        rw [this]
        exact ⟨⟨fun q => absurd q (by decide), fun q => absurd rfl q⟩, fun q => absurd rfl q⟩
      · have c1 : N1 50 ix ≠ 0 := by rw [e50', hbm.1.mpr c]; decide
        obtain ⟨t1, t2⟩ := hbm.2 c
        obtain ⟨x1, x2⟩ := hob
        have x3 := x2 c
        have hHB : HBt MR' (H (6 * m + a)) := ⟨x1, x3.2.2.2.2.1⟩
        have hD : DpR N1 t 0 1 ix ↔ jand (H (6 * m + a)) b ≠ 0 := by
          unfold DpR
          rw [n1 53 (by decide), n1 54 (by decide)]
          refine dp_iff (S := MR') h35 hP (q := ix / 6) (by omega) hHB t2 hbb.1 htb.1 (by decide) (fun m' hm' => ?_) ?_ (fun q => ?_)
          · have hp2 := (hP m' hm').1
            rw [hbb.2, htb.2, Bool.or_eq_true, decide_eq_true_iff, decide_eq_true_iff, decide_eq_true_iff]
            constructor
            · rintro (q | q)
              · rw [← q]; rw [Int.toNat_natCast]; omega
              · omega
            · intro q
              left
              have := (hP n.toNat (by omega)).2 m' hm' (by omega)
              omega
          · rw [hbb.2]; simp
          · rw [bt0] at q; cases q
        by_cases d : jand (H (6 * m + a)) b ≠ 0
        · rw [(g.2 c1).1 (hD.mpr d), if_pos d]
          exact ⟨⟨fun q => absurd q (by decide), fun q => absurd rfl q⟩, fun q => absurd rfl q⟩
        · rw [(g.2 c1).2 fun q => d (hD.mp q), if_neg d]
          refine ⟨⟨fun _ => c, fun _ => rfl⟩, fun _ => ⟨t1, ?_⟩⟩
          unfold HR at t2 ⊢
          rw [e0n, nn 36 (by decide) (by decide)]
          exact t2
    · rw [e0n, nn 36 (by decide) (by decide)] at hno
      have c0 : N1 50 (6 * q + a) = 0 := by rw [n1 50 (by decide)]; exact b3.2.2 q a hq ha hno
      have : N2 50 (6 * q + a) = f (6 * q + a) := by rw [← hN2, sr_at]
      rw [this]
      exact (g3 _ (by omega)).1 c0
  refine hres ⟨?_, ?_⟩
  rotate_left
  · have e0n35 : N2 0 35 = MR' 0 35 := by rw [e0n]
    refine KpO_move (S := MR') (S' := N2) (ρ := fun n => n) (Kp := fun m => (m : Int) < MR' 0 35) (Gd := fun m => (m : Int) < MR' 0 35 ∧ m ≠ n.toNat) ⟨⟨fun j hj => nn j (by omega) (by omega), fun i _ => by rw [e0n]⟩, fun m h => h, fun a b _ _ h => h, fun m hm => ⟨hm.1, ?_, by rw [nn 30 (by decide) (by decide)], by rw [nn 35 (by decide) (by decide)], fun c hc => ?_⟩, fun m hm => ?_⟩ p1' p3' p5' hKf (fun s hs hne => ?_) (fun m hm => ?_) (D := fun i => bt b i = true) (by rw [hbb.2]; simp) (fun m hm hd => ⟨hm, fun q => hd ?_⟩) (fun s hs hne => ?_) (fun s hs hne hd => ?_)
    · rw [n2 31 (by decide), ← hN1]
      simp [up, hm.2]
    · have hch := (p5'.2.2 m hm.1).2.2.2.2.2.2.2 c hc
      refine ⟨by omega, ?_⟩
      rw [nn 34 (by decide) (by decide)]
      have h0 : 0 ≤ MR' 34 (3 * m + c) := by omega
      exact (Int.toNat_of_nonneg h0).symm
    · rw [nn 32 (by decide) (by decide), nn 33 (by decide) (by decide)]
      exact ⟨fun q => q, fun q => ⟨(Int.toNat_of_nonneg q).symm, rfl⟩⟩
    · have es : 6 * (s / 6) + s % 6 = s := by omega
      have ok := b1 (s / 6) (s % 6) (by omega) (by omega)
      rw [es] at ok
      have ok2 := ok.2 (by rw [← (b2 s hs).1]; exact hne)
      exact ⟨ok2.1, ok2.2.1⟩
    · have hm : (m : Int) < MR' 0 35 := hm
      show m < 30
      omega
    · rw [hbb.2, q, decide_eq_true (by omega)]; rfl
    · rw [m5301 s hs] at hne
      have h0 : jand (H s) b = 0 := Classical.byContradiction fun q => hne (if_pos q)
      rw [if_neg (fun q => q h0)] at hne
      have es : 6 * (s / 6) + s % 6 = s := by omega
      have ok := b1 (s / 6) (s % 6) (by omega) (by omega)
      rw [es] at ok
      refine ⟨s, hs, by rw [(b2 s hs).1]; exact hne, fun i hi hbi => ?_, (slM_id s).symm⟩
      rw [(b2 s hs).1] at hi
      exact (jand_ne ok.1 hbb.1).mpr ⟨i, hi, hbi⟩ h0
    · have es : 6 * (s / 6) + s % 6 = s := by omega
      have ok := b1 (s / 6) (s % 6) (by omega) (by omega)
      rw [es] at ok
      rw [(b2 s hs).1] at hne hd
      have h0 : jand (H s) b = 0 := Classical.byContradiction fun q => by
        obtain ⟨i, i1, i2⟩ := (jand_ne ok.1 hbb.1).mp q
        exact hd i i1 i2
      rw [slM_id, m5301 s hs, if_neg (fun q => q h0), (b2 s hs).1, rvM_id, m5 300 (by decide) (by decide) (by decide)]
      exact ⟨hne, fun _ => rfl, fun j => ⟨fun q => ⟨j, q, rfl⟩, fun ⟨i, i1, i2⟩ => by rw [i2]; exact i1⟩⟩
  show Inv RG M5 N2 0
  refine ⟨⟨⟨?_, ?_, ?_, ?_, hOkn⟩, ⟨?_, ?_, ?_, ?_, hCN⟩, ?_, ?_, ?_⟩, ?_, Or.inl ?_, hBk⟩
  · exact p1'.of (by rw [e0n]) (by rw [e0n]) fun j j1 j2 => nn j (by omega) (by omega)
  · exact p2'.of (by rw [e0n]; exact Int.le_refl _) (by rw [e0n]) (by rw [e0n]) fun j j1 j2 => nn j (by omega) (by omega)
  · exact p3'.of (by rw [e0n]; exact Int.le_refl _) (by rw [e0n]; exact Int.le_refl _) (by rw [e0n]) (fun j j1 j2 => nn j (by omega) (by omega)) (fun a _ _ => by rw [nn 12 (by decide) (by decide)]) (fun a _ _ => by rw [nn 4 (by decide) (by decide)])
  · exact p4'.of (by rw [e0n]) (nn 29 (by decide) (by decide))
  · have := q1'.of (M' := M5) fun j j1 j2 => m5 j (by omega) (by omega) (by omega)
    unfold CG at this ⊢
    rw [e0n, nn 1 (by decide) (by decide), nn 2 (by decide) (by decide), nn 3 (by decide) (by decide), nn 4 (by decide) (by decide), nn 5 (by decide) (by decide), nn 6 (by decide) (by decide), nn 7 (by decide) (by decide), nn 8 (by decide) (by decide), nn 9 (by decide) (by decide), nn 10 (by decide) (by decide), nn 11 (by decide) (by decide), nn 12 (by decide) (by decide)]
    exact this
  · exact q2'.of (by rw [e0n]) (by rw [e0n]) (fun j j1 j2 => nn j (by omega) (by omega)) fun j j1 j2 => m5 j (by omega) (by omega) (by omega)
  · exact (q3'.of (M' := M5) (fun j j1 j2 j3 j4 => m5 j (by omega) (by omega) (by omega)) p3'.1.2).of2 (by rw [e0n]) fun j j1 j2 => nn j (by omega) (by omega)
  · exact q4'.of (by rw [e0n]) (nn 29 (by decide) (by decide)) fun j j1 j2 => m5 j (by omega) (by omega) (by omega)
  · exact q6'.of fun j hj => m5 j (by omega) (by omega) (by omega)
  · rw [m5 299 (by decide) (by decide) (by decide), e0n]; exact q7'
  · exact p6'.of (by rw [e0n]) (by rw [e0n]) (by rw [e0n]) (nn 51 (by decide) (by decide)) (nn 36 (by decide) (by decide))
  · have hV2 : CV M5 MR' := by
      unfold CV CVw CSg CGi CRs at hV' ⊢
      rw [m5 23 (by decide) (by decide) (by decide), m5 24 (by decide) (by decide) (by decide), m5 28 (by decide) (by decide) (by decide), m5 29 (by decide) (by decide) (by decide), m5 30 (by decide) (by decide) (by decide), m5 31 (by decide) (by decide) (by decide), m5 32 (by decide) (by decide) (by decide)]
      exact hV'
    exact hV2.of (by rw [e0n]) (by rw [e0n]) (by rw [e0n]) fun j hj => nn j (by omega) (by omega)
  · rw [← hM3, up_at]
