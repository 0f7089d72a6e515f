/-! what is asked, on the class's side: what it is -/
def CI0 (RG : Mm → Nat → Int) (M S : Mm) : Prop := Inv RG M S 0 ∧ KpO S (RG S) [] (M 300) (M 301)
noncomputable def Vl (RG : Mm → Nat → Int) (S : Mm) (n a : Int) : Int := Vs S (RG S) (6 * n + a).toNat
theorem CI0.to {RG : Mm → Nat → Int} (hRG : RGok RG) {M S M' S' : Mm} (h : KpO S (RG S) [] (M 300) (M 301)) (hq : AgQ S S') (e0 : M' 300 = M 300) (e1 : M' 301 = M 301) : KpO S' (RG S') [] (M' 300) (M' 301) := by
  rw [RG_q hRG hq, e0, e1]
  exact KpO_q hq h
theorem Vl_q {RG : Mm → Nat → Int} (hRG : RGok RG) {S S' : Mm} (hq : AgQ S S') (n a : Int) : Vl RG S' n a = Vl RG S n a := by
  unfold Vl
  rw [RG_q hRG hq, Vs_q hq]
theorem t_found {M : Mm} : f_X11_found M = some (M 299 0, M) := by
  unfold f_X11_found; rfl
theorem t_isKept {RG : Mm → Nat → Int} {M S : Mm} (h : Inv RG M S 0) {n a : Int} (hn : 0 ≤ n ∧ n < S 0 35) (ha : 0 ≤ a ∧ a < S 0 12) : f_X11_isKept n a M = some (0, if M 301 (6 * n + a).toNat = 0 then 0 else 1, M) := by
  obtain ⟨hp, -, -, -⟩ := h
  obtain ⟨⟨p1, p2, p3, p4, p5⟩, ⟨q1, q2, q3, q4, q5⟩, q6, q7, p6⟩ := hp
  have h12 := p1.2.1
  have h35 := p5.1
  unfold f_X11_isKept
  rw [g_mustNode q5, if_pos hn, g_mustAttr q1, if_pos ha]
  show Cl (f_X11_slotOf n a M) _ = _
  rw [c_slotOf (by omega) (by omega), ClS]
  have e := c_has (s := (6 * n + a).toNat) (by omega) M
  rw [Int.toNat_of_nonneg (by omega)] at e
  rw [e, ClS]
theorem t_value {RG : Mm → Nat → Int} (hRG : RGok RG) (hRs : RGs RG) {M S : Mm} (h : CI0 RG M S) {n a : Int} (hn : 0 ≤ n ∧ n < S 0 35) (ha : 0 ≤ a ∧ a < S 0 12) :
    ∃ M' S', f_X11_value n a M = some (0, Vl RG S n a, M') ∧ CI0 RG M' S' ∧ AgQ S S' ∧ (∀ j, j ≤ 298 → M' j = M j) ∧ VlB S (Vl RG S n a) ∧
      (S 12 a.toNat = 3 → M' 299 0 = M 299 0 ∧ M' 301 = M 301 ∧ Vl RG S n a < 1000) ∧ (S 12 a.toNat ≠ 3 → M' 301 (6 * n + a).toNat ≠ 0) ∧
      (S 12 a.toNat ≠ 3 → M 301 (6 * n + a).toNat ≠ 0 → M' 299 0 = M 299 0) ∧ (S 12 a.toNat ≠ 3 → M 301 (6 * n + a).toNat = 0 → ∃ d : Nat, 1 ≤ d ∧ d ≤ 400 ∧ (0 ≤ M 299 0 → M 299 0 ≤ 900000000 → M' 299 0 = M 299 0 + d)) := by
  obtain ⟨hI, hK⟩ := h
  obtain ⟨M3, N3, s1, s2, s3, s4, s5, s6, s7⟩ := settle24 hRG hRs hI
  have hq : AgQ S N3 := AgQ.of49 s6 s7
  have hp3 := s3.1
  obtain ⟨⟨p1, p2, p3, p4, p5⟩, ⟨q1, q2, q3, q4, q5⟩, q6, q7, p6⟩ := id hp3
  obtain ⟨⟨-, -, -, -, -⟩, ⟨q10, -, -, -, q50⟩, -, -, -⟩ := id hI.1
  have h12 := p1.2.1
  have h35 := p5.1
  have hn0 := hn
  have ha0 := ha
  rw [← s7 35 (by simp)] at hn
  rw [← s7 12 (by simp)] at ha
  have hK3 : KpO N3 (RG N3) [] (M3 300) (M3 301) := CI0.to hRG hK hq (s5 300 (by decide)) (s5 301 (by decide))
  have hkc : f_X5_kindOf a M3 = some (N3 12 a.toNat, M3) := by rw [c_kindOf, if_pos ⟨ha.1, by rw [q1.2.1]; exact ha.2, by omega⟩, q1.2.2.1 a ha.1 ha.2]
  have e12 : N3 12 = S 12 := s6 12 (by decide) (by decide)
  have hsl : SlV N3 (6 * n + a).toNat := SlV_of h12.2 hn ha
  have hvb := Vs_bd p1 p3 p5 s4.2.1 hsl
  have hvl : Vl RG S n a = Vs N3 (RG N3) (6 * n + a).toNat := (Vl_q hRG hq n a).symm
  have hvb' : VlB S (Vl RG S n a) := by
    rw [hvl]
    unfold VlB at hvb ⊢
    rw [s7 35 (by simp)] at hvb
    exact hvb
  have hv : ∀ v M', f_X11_foundWith n a 299 M3 = some (v, M') → f_X11_value n a M = some (0, v, M') := fun v M' hf => by
    unfold f_X11_value
    rw [g_mustNode q50, if_pos hn0, g_mustAttr q10, if_pos ha0]
    show Cl (f_X7_settle M) _ = _
    rw [s1, ClS, hf, ClS]
  by_cases k3 : S 12 a.toNat = 3
  · have k3' : N3 12 a.toNat = 3 := by rw [e12]; exact k3
    have em : (6 * n + a).toNat % 6 = a.toNat := by omega
    have hr : Vl RG S n a = RG N3 (6 * n + a).toNat := by rw [hvl, Vs_ring (by rw [em]; exact k3')]
    have hrb := s4.2.1 (6 * n + a).toNat (by omega)
    refine ⟨M3, N3, hv _ _ ?_, ⟨s3, hK3⟩, hq, fun j hj => s5 j (by omega), hvb', fun _ => ⟨by rw [s5 299 (by decide)], s5 301 (by decide), by rw [hr]; exact hrb.2⟩, fun q => absurd k3 q, fun q => absurd k3 q, fun q => absurd k3 q⟩
    unfold f_X11_foundWith
    rw [hkc, ClS, if_neg (fun q => q k3'), c_slotOf (by omega) (by omega), ClS]
    unfold f_X7_valueOf
    rw [c_entryOf_in 180 alenC_309 (by omega) (by omega), ClS, ClS, s4.1 _ (by omega), hr]
  · have k3' : N3 12 a.toNat ≠ 3 := by rw [e12]; exact k3
    obtain ⟨v, MC', MR', f1, f2, f3, f4, f5, f6, f7, f8, f9, g1, g2, g3, g4, g5⟩ := find24 hRG s3 s4 hK3 hn ha k3'
    have hq2 : AgQ N3 MR' := AgQ.of49 f8 f9
    have e299 : M3 299 = M 299 := s5 299 (by decide)
    have e301 : M3 301 = M 301 := s5 301 (by decide)
    refine ⟨MC', MR', hv _ _ ?_, ⟨f3, ?_⟩, hq.trans hq2, fun j hj => by rw [f6 j hj]; exact s5 j (by omega), hvb', fun q => absurd q k3, fun _ => g3, fun _ => ?_, fun _ => ?_⟩
    · unfold f_X11_foundWith
      rw [hkc, ClS, if_pos k3', f1, ClS, hvl, ← g1]
    · rw [RG_q hRG hq2]
      exact KpO_q hq2 g2
    · rw [← e301, ← e299]; exact g4
    · rw [← e301, ← e299]; exact g5
theorem t_valueAnew {RG : Mm → Nat → Int} (hRG : RGok RG) (hRs : RGs RG) {MC MR : Mm} (hci : CI0 RG MC MR) {n a : Int} (h1 : 0 ≤ n ∧ n < MR 0 35) (h2 : 0 ≤ a ∧ a < MR 0 12) :
    ∃ M' S', f_X11_valueAnew n a MC = some (0, Vl RG MR n a, M') ∧ CI0 RG M' S' ∧ AgQ MR S' ∧ ∀ j, j ≤ 303 → M' j = MC j := by
  obtain ⟨hI, hK⟩ := hci
  have k : Nat := 0
  obtain ⟨hp, hV, hR, V, H, b1, b2, b3⟩ := id hI
  obtain ⟨⟨p1, p2, p3, p4, p5⟩, ⟨q1, q2, q3, q4, q5⟩, q6, q7, p6⟩ := id hp
  have hA := p1.2.1
  have hN := p5.1
  have o1 := h1
  have o2 := h2
  have hI0 := hI.thr hRG (k + 1) 0
  have e0 : ∀ i, i ≠ 87 → up MR 0 87 0 0 i = MR 0 i := fun i hi => by simp [up, hi]
  obtain ⟨M3, N3, s1, s2, s3, s4, s5, s6, s7⟩ := settle24 hRG hRs hI0
  rw [← e0 35 (by decide), ← s7 35 (by simp)] at h1
  rw [← e0 12 (by decide), ← s7 12 (by simp)] at h2
  have hp3 := s3.1
  obtain ⟨⟨p31, -, -, -, p35⟩, ⟨q31, -, -, -, -⟩, q36, q37, p36⟩ := id hp3
  have h12 := p31.2.1
  have h35 := p35.1
  have hP := p36.pl
  generalize hM4 : (sr M3 306 fun j => if j < 180 then 0 else M3 306 j) = M4
  generalize hN4 : (sr (up N3 0 68 360) 50 fun j => if 360 ≤ j ∧ j < 720 then 0 else N3 50 j) = N4
  have m4 : ∀ j, j ≠ 306 → M4 j = M3 j := fun j hj => by rw [← hM4, sr_ne _ _ hj]
  have n4 : ∀ j, j ≠ 0 → j ≠ 50 → N4 j = N3 j := fun j a b => by rw [← hN4, sr_ne _ _ b, up_ne _ _ _ a]
  have n40 : ∀ i, i ≠ 68 → N4 0 i = N3 0 i := fun i hi => by rw [← hN4, sr_ne _ _ (by decide)]; simp [up, hi]
  obtain ⟨v, lf, MC', MR', f1, f2, f3, f4, f5, f6, f7, f8, f9, f10, f11, f12, f13, f14, f15, f16⟩ := scr24 s3 s4 h1 h2 (M4 := M4) (N4 := N4) (fun j a _ => m4 j a) (fun s hs => by rw [← hM4, sr_at, if_pos hs]) (fun q => absurd (by rw [m4 310 (by decide)]; exact q36.1) q) n4 (fun i hi => by rw [← hN4, sr_at, if_neg (by omega)]) (fun i a b => by rw [← hN4, sr_at, if_pos ⟨a, b⟩]) (by rw [← hN4, sr_ne _ _ (by decide), up_at]) (fun i a _ _ => n40 i a)
  generalize hN5 : up MR' 0 68 0 = N5
  have n5 : ∀ j, j ≠ 0 → N5 j = MR' j := fun j hj => by rw [← hN5, up_ne _ _ _ hj]
  have n50 : ∀ i, i ≠ 68 → N5 0 i = MR' 0 i := fun i hi => by rw [← hN5]; simp [up, hi]
  have hs0 : ∀ i, i = 0 ∨ i = 12 ∨ i = 14 ∨ i = 15 ∨ i = 19 ∨ i = 33 ∨ i = 35 ∨ i = 36 ∨ i = 79 ∨ i = 87 → N5 0 i = N3 0 i := fun i hi => by rw [n50 i (by omega), f14 i (by omega) (by omega) (by omega) (by omega) (by omega) (by omega) (by omega) (by omega), n40 i (by omega)]
  have m310 : M4 310 11 = 0 := by rw [m4 310 (by decide)]; exact q36.1
  have hI3 := scr_inv hRG s3 (k + 1) (M5 := M4) (N5 := N3) (fun j hj => m4 j (by omega)) m310 (fun s hs => by rw [m4 313 (by decide)]; exact q36.2 s hs) (fun _ _ => rfl) (fun _ _ _ _ => rfl) p36.2.2.1 rfl p36.1 p36.2.1 (fun _ _ => rfl)
  have hI5 : ∀ M5 : Mm, (∀ j, j ≤ 303 ∨ j = 309 ∨ j = 676 → M5 j = M3 j) → M5 310 11 = 0 → (∀ s, s < 180 → M5 313 s = 0) → Inv RG M5 N5 (k + 1) := fun M5 x1 x2 x3 =>
    scr_inv hRG s3 (k + 1) x1 x2 x3 (fun j hj => by rw [n5 j (by omega)]; exact f10 j (Or.inl hj)) (fun j hj i hi => by rw [n5 j (by omega)]; exact f11 j hj i hi) (fun i hi => by rw [n5 51 (by decide)]; exact f12 i hi) (by rw [n50 67 (by decide)]; exact f13) (by rw [← hN5, up_at]) (by rw [hs0 79 (by simp)]; exact p36.2.1) (fun i hi => hs0 i (by omega))
  have hkc : f_X5_kindOf a M4 = some (N3 12 a.toNat, M4) := by
    rw [c_kindOf, m4 1 (by decide), m4 13 (by decide), if_pos ⟨h2.1, by rw [q31.2.1]; exact h2.2, by omega⟩, q31.2.2.1 a h2.1 h2.2]
  have e36 : N5 36 = N3 36 := by rw [n5 36 (by decide)]; exact f10 36 (by simp)
  have e035 : N5 0 35 = N3 0 35 := hs0 35 (by simp)
  have e12 : N5 12 = N3 12 := by rw [n5 12 (by decide)]; exact f10 12 (by simp)
  have hPs : PlO N3 := hP
  have h87 : N5 0 87 = 0 := by rw [hs0 87 (by simp), s7 87 (by simp), up_at]
  have hpn := (hP n.toNat (by omega)).1
  have hcl : ∀ (v : Int) (M : Mm), f_X11_foundWith n a 304 M4 = some (v, M) → f_X11_valueAnew n a MC = some (0, v, M) := by
    intro v M hf
    unfold f_X11_valueAnew
    rw [g_mustNode q5, if_pos o1, g_mustAttr q1, if_pos o2]
    show Cl (f_X7_settle MC) _ = _
    rw [s1, ClS, c3_clear, ClS, alenC_306]
    have : (sr M3 (304 + 2) fun j => if j < 180 then 0 else M3 (304 + 2) j) = M4 := hM4
    rw [this, hf, ClS]
  have er : ∀ j, j ≠ 0 → up MR 0 87 0 j = MR j := fun j hj => up_ne _ _ _ hj
  have hq0 : AgQ MR (up MR 0 87 0) := ⟨fun j j1 j2 _ => er j (by omega), fun i hi => e0 i (by omega)⟩
  have hq3 : AgQ MR N3 := hq0.trans (AgQ.of49 s6 s7)
  have hq5 : AgQ MR N5 := hq3.trans ⟨fun j j1 j2 _ => by rw [n5 j (by omega)]; exact f10 j (Or.inl ⟨j1, by omega⟩), fun i hi => hs0 i (by omega)⟩
  have hvl : Vl RG MR n a = Vs N3 (RG N3) (6 * n + a).toNat := (Vl_q hRG hq3 n a).symm
  by_cases k3 : N3 12 a.toNat = 3
  · have em : (6 * n + a).toNat % 6 = a.toNat := by omega
    refine ⟨M4, N5, hcl _ _ ?_, ⟨hI5 M4 (fun j hj => m4 j (by omega)) m310 fun s hs => by rw [m4 313 (by decide)]; exact q36.2 s hs, CI0.to hRG hK hq5 (by rw [m4 300 (by decide), s5 300 (by decide)]) (by rw [m4 301 (by decide), s5 301 (by decide)])⟩, hq5, fun j hj => by rw [m4 j (by omega), s5 j hj]⟩
    unfold f_X11_foundWith
    rw [hkc, ClS, if_neg (fun q => q k3), c_slotOf (by omega) (by omega), ClS]
    unfold f_X7_valueOf
    rw [c_entryOf_in 180 alenC_309 (by omega) (by omega), ClS, ClS, m4 309 (by decide), s4.1 _ (by omega), hvl, Vs_ring (by rw [em]; exact k3)]
  · refine ⟨MC', N5, hcl _ _ ?_, ⟨hI5 MC' f7 (by rw [f8]; exact m310) f9, CI0.to hRG hK hq5 (by rw [f7 300 (by simp), s5 300 (by decide)]) (by rw [f7 301 (by simp), s5 301 (by decide)])⟩, hq5, fun j hj => by rw [f7 j (Or.inl hj), s5 j hj]⟩
    unfold f_X11_foundWith
    rw [hkc, ClS, if_pos k3, f1, ClS, hvl, f16.1 k3]
/-- what is told of why: the list of slots, each once -/
theorem t_why {RG : Mm → Nat → Int} (hRG : RGok RG) (hRs : RGs RG) {MC MR : Mm} (hci : CI0 RG MC MR) {n a : Int} (h1 : 0 ≤ n ∧ n < MR 0 35) (h2 : 0 ≤ a ∧ a < MR 0 12) :
    ∃ lf : List Int, Sl lf ∧ LfV MR lf ∧ lf = dd (Rd MR (RG MR) (6 * n + a).toNat) ∧ ∀ w : Int, ∃ M' S', f_X11_why n a w MC = (if w < 0 then some (1, 0, M') else if w < (lf.length : Int) then some (0, enc (lf.getD w.toNat 0), M') else some (1, 0, M')) ∧ CI0 RG M' S' ∧ AgQ MR S' ∧ ∀ j, j ≤ 303 → M' j = MC j := by
  obtain ⟨hI, hK⟩ := hci
  obtain ⟨hp, hV, hR, V, H, b1, b2, b3⟩ := id hI
  obtain ⟨⟨p1, p2, p3, p4, p5⟩, ⟨q1, q2, q3, q4, q5⟩, q6, q7, p6⟩ := id hp
  have hA := p1.2.1
  have hN := p5.1
  have e80 : ∀ i, i ≠ 80 → up MR 0 80 0 0 i = MR 0 i := fun i hi => by simp [up, hi]
  have hI80 : Inv RG MC (up MR 0 80 0) 0 := hI.of hRG 0 (fun j hj => up_ne _ _ _ (by omega)) (fun i hi => e80 i (by omega)) (fun _ _ => rfl) rfl rfl
  have o1 := h1
  have o2 := h2
  obtain ⟨M3, N3, s1, s2, s3, s4, s5, s6, s7⟩ := settle24 hRG hRs hI80
  rw [← e80 35 (by decide), ← s7 35 (by simp)] at h1
  rw [← e80 12 (by decide), ← s7 12 (by simp)] at h2
  have hp3 := s3.1
  obtain ⟨⟨p31, -, -, -, p35⟩, ⟨q31, -, -, -, -⟩, q36, q37, p36⟩ := id hp3
  have h12 := p31.2.1
  have h35 := p35.1
  have hP := p36.pl
  generalize hM4 : (sr M3 306 fun j => if j < 180 then 0 else M3 306 j) = M4
  generalize hM5 : up (up M4 310 0 0) 310 11 1 = M5
  generalize hN4 : (sr (up (up N3 0 79 1) 0 68 360) 50 fun j => if 360 ≤ j ∧ j < 720 then 0 else N3 50 j) = N4
  have m4 : ∀ j, j ≠ 306 → M4 j = M3 j := fun j hj => by rw [← hM4, sr_ne _ _ hj]
  have m5 : ∀ j, j ≠ 310 → M5 j = M4 j := fun j hj => by rw [← hM5, up_ne _ _ _ hj, up_ne _ _ _ hj]
  have m511 : M5 310 11 = 1 := by rw [← hM5, up_at]
  have n4 : ∀ j, j ≠ 0 → j ≠ 50 → N4 j = N3 j := fun j a b => by rw [← hN4, sr_ne _ _ b, up_ne _ _ _ a, up_ne _ _ _ a]
  have n40 : ∀ i, i ≠ 68 → i ≠ 79 → N4 0 i = N3 0 i := fun i hi hj => by rw [← hN4, sr_ne _ _ (by decide)]; simp [up, hi, hj]
  have n479 : N4 0 79 = 1 := by rw [← hN4, sr_ne _ _ (by decide)]; simp [up]
  obtain ⟨v, lf, MC', MR', f1, f2, f3, f4, f5, f6, f7, f8, f9, f10, f11, f12, f13, f14, f15, f16⟩ := scr24 s3 s4 h1 h2 (M4 := M5) (N4 := N4) (fun j a b => by rw [m5 j b, m4 j a]) (fun s hs => by rw [m5 306 (by decide), ← hM4, sr_at, if_pos hs]) (fun _ => by rw [← hM5]; simp [up]) n4 (fun i hi => by rw [← hN4, sr_at, if_neg (by omega)]) (fun i a b => by rw [← hN4, sr_at, if_pos ⟨a, b⟩]) (by rw [← hN4, sr_ne _ _ (by decide), up_at]) (fun i a b _ => n40 i a b)
  have hL := f5 (by rw [m511]; decide)
  have hLR := f6 (by rw [n479]; decide)
  have hlen := f4.len
  generalize hM6 : up MC' 310 11 0 = M6
  generalize hN6 : up (up MR' 0 68 0) 0 79 0 = N6
  have m6 : ∀ j, j ≠ 310 → M6 j = MC' j := fun j hj => by rw [← hM6, up_ne _ _ _ hj]
  have m60 : ∀ i, i ≠ 11 → M6 310 i = MC' 310 i := fun i hi => by rw [← hM6]; simp [up, hi]
  have n6 : ∀ j, j ≠ 0 → N6 j = MR' j := fun j hj => by rw [← hN6, up_ne _ _ _ hj, up_ne _ _ _ hj]
  have n60 : ∀ i, i ≠ 68 → i ≠ 79 → N6 0 i = MR' 0 i := fun i hi hj => by rw [← hN6]; simp [up, hi, hj]
  have hs0 : ∀ i, i = 0 ∨ i = 12 ∨ i = 14 ∨ i = 15 ∨ i = 19 ∨ i = 33 ∨ i = 35 ∨ i = 36 ∨ i = 87 → N6 0 i = N3 0 i := fun i hi => by rw [n60 i (by omega) (by omega), f14 i (by omega) (by omega) (by omega) (by omega) (by omega) (by omega) (by omega) (by omega), n40 i (by omega) (by omega)]
  have hI6 : Inv RG M6 N6 0 := scr_inv hRG s3 0 (fun j hj => by rw [m6 j (by omega)]; exact f7 j hj) (by rw [← hM6, up_at]) (fun s hs => by rw [m6 313 (by decide)]; exact f9 s hs) (fun j hj => by rw [n6 j (by omega)]; exact f10 j (Or.inl hj)) (fun j hj i hi => by rw [n6 j (by omega)]; exact f11 j hj i hi) (fun i hi => by rw [n6 51 (by decide)]; exact f12 i hi) (by rw [n60 67 (by decide) (by decide)]; exact f13) (by rw [← hN6]; simp [up]) (by rw [← hN6, up_at]) (fun i hi => hs0 i (by omega))
  have hc : ∀ w : Int, f_X11_why n a w MC = (if w < 0 then some (1, 0, M6) else if w < (lf.length : Int) then some (0, enc (lf.getD w.toNat 0), M6) else some (1, 0, M6)) := by
    intro w
    unfold f_X11_why
    rw [g_mustNode q5, if_pos o1, g_mustAttr q1, if_pos o2]
    show Cl (f_X7_settle MC) _ = _
    rw [s1, ClS, c3_clear, ClS, alenC_306]
    have hM4' : (sr M3 (304 + 2) fun j => if j < 180 then 0 else M3 (304 + 2) j) = M4 := hM4
    rw [hM4']
    have hfl : f_X2_findListing n a 304 M4 = some (0, M6) := by
      unfold f_X2_findListing
      simp only [LtE]
      rw [hM5, f1, ClS, hM6]
    rw [hfl, ClS]
    simp only [LtE]
    have e0 : M6 310 0 = (lf.length : Int) := by rw [m60 0 (by decide)]; exact hL.1
    rw [e0]
    by_cases c1 : w < 0
    · rw [if_pos c1, if_pos c1]
    rw [if_neg c1, if_neg c1]
    by_cases c2 : w < (lf.length : Int)
    · have e1 : M6 311 w.toNat = lf.getD w.toNat 0 := by rw [m6 311 (by decide)]; exact hL.2 _ (by omega)
      have hmem : lf.getD w.toNat 0 ∈ lf := by rw [List.getD_eq_getElem?_getD, List.getElem?_eq_getElem (by omega)]; exact List.getElem_mem _
      rw [if_pos c2, if_pos c2, c_entryOf, alenC_311, if_pos (by omega), ClS, e1, enc_ten (f4.2 _ hmem)]
    · rw [if_neg c2, if_neg c2]
  have er : ∀ j, j ≠ 0 → up MR 0 80 0 j = MR j := fun j hj => up_ne _ _ _ hj
  have hq0 : AgQ MR (up MR 0 80 0) := ⟨fun j j1 j2 _ => er j (by omega), fun i hi => e80 i (by omega)⟩
  have hq3 : AgQ MR N3 := hq0.trans (AgQ.of49 s6 s7)
  have hq6 : AgQ MR N6 := hq3.trans ⟨fun j j1 j2 _ => by rw [n6 j (by omega)]; exact f10 j (Or.inl ⟨j1, by omega⟩), fun i hi => hs0 i (by omega)⟩
  have e12 : N3 12 = MR 12 := hq3.1 12 (by decide) (by decide) (by decide)
  refine ⟨lf, f4, fun x hx => ?_, ?_, fun w => ⟨M6, N6, hc w, ⟨hI6, CI0.to hRG hK hq6 (by rw [m6 300 (by decide), f7 300 (by simp), s5 300 (by decide)]) (by rw [m6 301 (by decide), f7 301 (by simp), s5 301 (by decide)])⟩, hq6, fun j hj => by rw [m6 j (by omega), f7 j (Or.inl hj), s5 j hj]⟩⟩
  · have := f15 x hx
    unfold SlV at this ⊢
    rw [hq3.2 35 (by simp), hq3.2 12 (by simp)] at this
    exact this
  · rw [f16.2, RG_q hRG hq3, Rd_q hq3]
