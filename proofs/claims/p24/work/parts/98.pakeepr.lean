/-! which nodes are kept: the reference -/
theorem land_not {g s : Int} (hg : 0 ≤ g ∧ g < 1152921504606846976) (hs : 0 ≤ s ∧ s < 1152921504606846976) : (0 ≤ land_ g (lxor_ s (-1)) ∧ land_ g (lxor_ s (-1)) < 1152921504606846976) ∧ ∀ i, bt (land_ g (lxor_ s (-1))) i = (bt g i && !(bt s i)) := by
  have hm : ∀ i, i < 64 → (Ll (-1)).toBitVec.getLsbD i = true := by decide
  have e1 : land_ g (lxor_ s (-1)) = (Ll g &&& (Ll s ^^^ Ll (-1))).toBitVec.toInt := by
    show (Ll g &&& Ll (Ll s ^^^ Ll (-1)).toInt).toInt = _
    rw [Ll_of]; rfl
  have hN := ll_nat hg
  have hS := ll_nat hs
  have h4 : (Ll g &&& (Ll s ^^^ Ll (-1))).toBitVec.toNat = (Ll g).toBitVec.toNat &&& (Ll s ^^^ Ll (-1)).toBitVec.toNat := by rw [Int64.toBitVec_and, BitVec.toNat_and]
  have h5 : (Ll g &&& (Ll s ^^^ Ll (-1))).toBitVec.toNat ≤ g.toNat := by rw [h4, hN]; exact Nat.and_le_left
  have h6 : land_ g (lxor_ s (-1)) = (((Ll g &&& (Ll s ^^^ Ll (-1))).toBitVec.toNat : Nat) : Int) := by
    rw [e1, BitVec.toInt_eq_toNat_cond]
    split <;> omega
  refine ⟨by omega, fun i => ?_⟩
  unfold bt
  rw [h6, Int.toNat_natCast, h4, Nat.testBit_and, hN]
  by_cases hi : i < 64
  · have : ((Ll s ^^^ Ll (-1)).toBitVec.toNat).testBit i = !(s.toNat.testBit i) := by
      rw [← hS, BitVec.testBit_toNat, BitVec.testBit_toNat, Int64.toBitVec_xor, BitVec.getLsbD_xor, hm i hi]
      simp
    rw [this]
  · have : g.toNat.testBit i = false := Nat.testBit_lt_two_pow (Nat.lt_of_lt_of_le (show g.toNat < 2 ^ 60 by omega) (Nat.pow_le_pow_right (by decide) (by omega)))
    rw [this]; rfl
def Kf (M N : Mm) : Prop := ∀ j, j ≠ 31 → j ≠ 36 → j ≠ 42 → N j = M j
/-- the places of kept nodes, among the first k of the new tree -/
def Sty (R : Mm) (G : Nat → Int) (k : Nat) (L : Int) : Prop := (0 ≤ L ∧ L < 1152921504606846976) ∧ ∀ q : Nat, bt L q = true ↔ ∃ x : Nat, x < k ∧ G x ≠ -1 ∧ R 36 (G x).toNat = (q : Int)
/-- rows 31 and 36 of kept nodes -/
def Kpt (R R1 N : Mm) (k : Nat) : Prop := (∀ i : Nat, i < k → N 42 i ≠ -1 → N 31 i = R 31 (N 42 i).toNat ∧ N 36 i = R 36 (N 42 i).toNat) ∧ ∀ i : Nat, (i < k → N 42 i = -1) → N 31 i = R1 31 i
def smJ (rc7_114 : Int × Int × Int × Mm → Rs) (v118 v119 v120 v121 : Int) (M122 : Mm) : Rs :=
Lt (fun (v124 : Int) (v125 : Int) (v126 : Int) (v127 : Int) (M128 : Mm) => 
Lt (fun (v130 : Int) (v131 : Int) (v132 : Int) (v133 : Int) (v134 : Int) (M135 : Mm) => 
gd (0 ≤ v133 ∧ v133 < 30) <|
Lt (up M135 42 v133.toNat v134) fun M137 =>
Lt (fun (v138 : Int) (v139 : Int) (v140 : Int) (M141 : Mm) => 
Lt (wr (v140 + 1)) fun v143 =>
rc7_114 (v138, v139, v143, M141)) fun J198_142 =>
if v127 = 0 then (
J198_142 v130 v131 v132 M137) else (
gd (0 ≤ v121 ∧ v121 < 30) <|
Lt (M137 38 v121.toNat) fun v145 =>
gd (0 ≤ v132 ∧ v132 < 30) <|
Lt (up M137 31 v132.toNat v145) fun M146 =>
gd (0 ≤ v121 ∧ v121 < 30) <|
Lt (M146 41 v121.toNat) fun v147 =>
gd (0 ≤ v132 ∧ v132 < 30) <|
Lt (up M146 36 v132.toNat v147) fun M148 =>
gd (0 ≤ v132 ∧ v132 < 30) <|
Lt (M148 36 v132.toNat) fun v149 =>
Lt (lshl_ 1 v149) fun v150 =>
Lt (lor_ v130 v150) fun v151 =>
Lt (wr (v131 + 1)) fun v152 =>
J198_142 v151 v152 v132 M148)) fun J149_136 =>
if v127 = 0 then (
J149_136 v124 v125 v126 v126 ((-1)) M128) else (
J149_136 v124 v125 v126 v126 v121 M128)) fun J130_129 =>
Lt (fun (v154 : Int) (v155 : Int) (v156 : Int) (M157 : Mm) => 
J130_129 v154 v155 v156 0 M157) fun J129_158 =>
if v121 = ((-1)) then (
J129_158 v118 v119 v120 M122) else (
gd (0 ≤ v121 ∧ v121 < 30) <|
Lt (M122 37 v121.toNat) fun v160 =>
gd (0 ≤ v120 ∧ v120 < 30) <|
Lt (M122 30 v120.toNat) fun v161 =>
if ¬ v160 = v161 then (
J129_158 v118 v119 v120 M122) else (
gd (0 ≤ v121 ∧ v121 < 30) <|
Lt (M122 40 v121.toNat) fun v163 =>
gd (0 ≤ v120 ∧ v120 < 30) <|
Lt (M122 35 v120.toNat) fun v164 =>
if ¬ v163 = v164 then (
J129_158 v118 v119 v120 M122) else (
J130_129 v118 v119 v120 1 M122)))
theorem smJ_eq (J204_4 : Int → Int → Mm → Rs) (rc7_114 : Int × Int × Int × Mm → Rs) (v110 v111 v112 : Int) (M113 : Mm) : f_X12_keepsNodes_L7_176 J204_4 rc7_114 (v110, v111, v112, M113) = (if M113 0 35 ≤ v112 then J204_4 v110 v111 M113 else gd (0 ≤ v112 ∧ v112 < 30) (if ¬ M113 32 v112.toNat = -1 then gd (0 ≤ M113 32 v112.toNat ∧ M113 32 v112.toNat < 30) (if ¬ M113 42 (M113 32 v112.toNat).toNat = -1 then gd (0 ≤ M113 32 v112.toNat ∧ M113 32 v112.toNat < 30) (gd (0 ≤ v112 ∧ v112 < 30) (gd (0 ≤ wr (wr (3 * M113 42 (M113 32 v112.toNat).toNat) + M113 33 v112.toNat) ∧ wr (wr (3 * M113 42 (M113 32 v112.toNat).toNat) + M113 33 v112.toNat) < 90) (smJ rc7_114 v110 v111 v112 (M113 39 (wr (wr (3 * M113 42 (M113 32 v112.toNat).toNat) + M113 33 v112.toNat)).toNat) M113))) else smJ rc7_114 v110 v111 v112 (-1) M113) else if M113 0 44 ≤ 0 then smJ rc7_114 v110 v111 v112 (-1) M113 else smJ rc7_114 v110 v111 v112 0 M113)) := by
  simp only [f_X12_keepsNodes_L7_176, smJ, LtE]
/-- the old node at hand is the one -/
theorem smJ_yes {rc : Int × Int × Int × Mm → Rs} {L n : Int} {x : Nat} {c : Int} {M : Mm} (hx : x < 30) (hc : 0 ≤ c ∧ c < 30) (h1 : M 37 c.toNat = M 30 x) (h2 : M 40 c.toNat = M 35 x) : smJ rc L n x c M = rc (lor_ L (lshl_ 1 (M 41 c.toNat)), wr (n + 1), wr ((x : Int) + 1), up (up (up M 42 x c) 31 x (M 38 c.toNat)) 36 x (M 41 c.toNat)) := by
  have hg : (0 : Int) ≤ (x : Int) ∧ (x : Int) < 30 := by omega
  have e1 : up M 42 x c 38 c.toNat = M 38 c.toNat := by rw [up_ne _ _ _ (by decide)]
  have e2 : up (up M 42 x c) 31 x (M 38 c.toNat) 41 c.toNat = M 41 c.toNat := by rw [up_ne _ _ _ (by decide), up_ne _ _ _ (by decide)]
  unfold smJ
  simp only [LtE]
  rw [if_neg (c := c = -1) (by omega)]
  simp only [gdE hg, gdE hc, Int.toNat_natCast, e1, e2, up_at]
  rw [if_neg (fun q => q h1), if_neg (fun q => q h2), if_neg (by decide), if_neg (by decide)]
theorem smJ_no {rc : Int × Int × Int × Mm → Rs} {L n : Int} {x : Nat} {c : Int} {M : Mm} (hx : x < 30) (hc : c = -1 ∨ (0 ≤ c ∧ c < 30)) (h : c = -1 ∨ ¬ (M 37 c.toNat = M 30 x ∧ M 40 c.toNat = M 35 x)) : smJ rc L n x c M = rc (L, n, wr ((x : Int) + 1), up M 42 x (-1)) := by
  have hg : (0 : Int) ≤ (x : Int) ∧ (x : Int) < 30 := by omega
  unfold smJ
  simp only [LtE]
  by_cases c1 : c = -1
  · rw [if_pos c1]
    simp only [gdE hg, Int.toNat_natCast, if_true]
  · have hc2 : 0 ≤ c ∧ c < 30 := by omega
    rw [if_neg c1]
    simp only [gdE hg, gdE hc2, Int.toNat_natCast, if_true]
    by_cases c2 : M 37 c.toNat = M 30 x
    · rw [if_neg (fun q => q c2), if_pos (fun q => h.elim c1 fun z => z ⟨c2, q⟩)]
    · rw [if_pos c2]
theorem r_same {R R1 : Mm} (hT : Trr R) (hP : PlO R) (hg : Okg R) (hT1 : Trr R1) (e4 : R1 4 = R 4) (hO : Old R R1) (h44 : R1 0 44 = R 0 35) {J : Int → Int → Mm → Rs} : ∃ L N, Lp (f_X12_keepsNodes_L7_176 J) FU (0, 0, 0, R1) = J L ((cntm (fun x => decide (N 42 x ≠ -1)) (R1 0 35).toNat : Nat) : Int) N ∧ Kf R1 N ∧ (∀ x : Nat, (x : Int) < R1 0 35 → HrE R1 R (N 42) x) ∧ Sty R (N 42) (R1 0 35).toNat L ∧ Kpt R R1 N (R1 0 35).toNat := by
  have n0 := hT.1
  have n1 := hT1.1
  have key : ∀ (d x F : Nat) (L : Int) (N : Mm), (x : Int) + d = R1 0 35 → d < F → Kf R1 N → (∀ i : Nat, i < x → HrE R1 R (N 42) i) → Sty R (N 42) x L → Kpt R R1 N x →
      ∃ L' N', Lp (f_X12_keepsNodes_L7_176 J) F (L, ((cntm (fun i => decide (N 42 i ≠ -1)) x : Nat) : Int), (x : Int), N) = J L' ((cntm (fun x => decide (N' 42 x ≠ -1)) (R1 0 35).toNat : Nat) : Int) N' ∧ Kf R1 N' ∧ (∀ x : Nat, (x : Int) < R1 0 35 → HrE R1 R (N' 42) x) ∧ Sty R (N' 42) (R1 0 35).toNat L' ∧ Kpt R R1 N' (R1 0 35).toNat := by
    intro d
    induction d with
    | zero =>
      intro x F L N hx hF k1 k2 k3 k4
      obtain ⟨G, rfl⟩ : ∃ G, F = G + 1 := ⟨F - 1, by omega⟩
      have hxx : (R1 0 35).toNat = x := by omega
      rw [hxx]
      refine ⟨L, N, ?_, k1, fun i hi => k2 i (by omega), k3, k4⟩
      rw [Lp_s]
      simp only [f_X12_keepsNodes_L7_176, LtE]
      rw [k1 0 (by decide) (by decide) (by decide), if_pos (by omega)]
    | succ d ih =>
      intro x F L N hx hF k1 k2 k3 k4
      obtain ⟨G, rfl⟩ : ∃ G, F = G + 1 := ⟨F - 1, by omega⟩
      have hxn : (x : Int) < R1 0 35 := by omega
      have hn := hT1.2 x hxn
      have hgx : (0 : Int) ≤ (x : Int) ∧ (x : Int) < 30 := by omega
      have hx' : (x : Int).toNat = x := Int.toNat_natCast _
      have r : ∀ j, j ≠ 31 → j ≠ 36 → j ≠ 42 → N j = R1 j := k1
      have hcle := cntm_le (fun i => decide (N 42 i ≠ -1)) x
      -- the candidate
      have hcand : ∃ c : Int, (c = -1 ∨ (0 ≤ c ∧ c < R 0 35)) ∧ (alk R1 R x (cnd0 R1 R (N 42) x) ↔ alk R1 R x c) ∧ (c ≠ -1 → c = cnd0 R1 R (N 42) x) ∧ ∀ (rc : Int × Int × Int × Mm → Rs) (n : Int), (if ¬ N 32 x = -1 then gd (0 ≤ N 32 x ∧ N 32 x < 30) (if ¬ N 42 (N 32 x).toNat = -1 then gd (0 ≤ N 32 x ∧ N 32 x < 30) (gd (0 ≤ (x : Int) ∧ (x : Int) < 30) (gd (0 ≤ wr (wr (3 * N 42 (N 32 x).toNat) + N 33 x) ∧ wr (wr (3 * N 42 (N 32 x).toNat) + N 33 x) < 90) (smJ rc L n x (N 39 (wr (wr (3 * N 42 (N 32 x).toNat) + N 33 x)).toNat) N))) else smJ rc L n x (-1) N) else if R1 0 44 ≤ 0 then smJ rc L n x (-1) N else smJ rc L n x 0 N) = smJ rc L n x c N := by
        by_cases c0 : x = 0
        · have e32 : N 32 x = -1 := by rw [r 32 (by decide) (by decide) (by decide)]; exact (hn.2.2.2.2.2.1 c0).1
          have ec : cnd0 R1 R (N 42) x = 0 := by unfold cnd0; rw [if_pos c0]
          rw [ec]
          by_cases cz : R 0 35 ≤ 0
          · refine ⟨-1, Or.inl rfl, ⟨fun q => ?_, fun q => ?_⟩, fun q => absurd rfl q, fun rc n => ?_⟩
            · have := q.2.1; omega
            · have := q.1; omega
            · rw [if_neg (fun q => q e32), h44, if_pos cz]
          · refine ⟨0, Or.inr ⟨Int.le_refl _, by omega⟩, Iff.rfl, fun _ => rfl, fun rc n => ?_⟩
            rw [if_neg (fun q => q e32), h44, if_neg cz]
        · have h7 := hn.2.2.2.2.2.2.1 (by omega)
          have e32 : N 32 x = R1 32 x := by rw [r 32 (by decide) (by decide) (by decide)]
          have e33 : N 33 x = R1 33 x := by rw [r 33 (by decide) (by decide) (by decide)]
          have hgp : 0 ≤ R1 32 x ∧ R1 32 x < 30 := by omega
          rw [e32, e33]
          unfold cnd0
          rw [if_neg c0]
          by_cases cp : N 42 (R1 32 x).toNat = -1
          · refine ⟨-1, Or.inl rfl, ?_, fun q => absurd rfl q, fun rc n => ?_⟩
            · rw [if_pos cp]
            · rw [if_pos (by omega), gdE hgp, if_neg (fun q => q cp)]
          · rw [if_neg cp]
            have hpn : (((R1 32 x).toNat : Nat) : Int) = R1 32 x := Int.toNat_of_nonneg h7.1
            rcases (k2 (R1 32 x).toNat (by omega)).ok with z | ⟨⟨b1, b2, b3, b4⟩, -⟩
            · exact absurd z cp
            · have hy : (((N 42 (R1 32 x).toNat).toNat : Nat) : Int) = N 42 (R1 32 x).toNat := Int.toNat_of_nonneg b1
              have hny := hT.2 (N 42 (R1 32 x).toNat).toNat (by omega)
              have h43 := (hg.2.2.2.1 _ hny.1.1 hny.1.2).2
              have hlt : R1 33 x < R 4 (R 30 (N 42 (R1 32 x).toNat).toNat).toNat := by rw [← b3, ← e4]; exact h7.2.2.2.1
              have hch := hny.2.2.2.2.2.2.2 (R1 33 x).toNat (by omega)
              have ei : 3 * (N 42 (R1 32 x).toNat).toNat + (R1 33 x).toNat = (3 * N 42 (R1 32 x).toNat + R1 33 x).toNat := by omega
              rw [ei] at hch
              refine ⟨_, Or.inr ⟨by omega, hch.2.1⟩, Iff.rfl, fun _ => rfl, fun rc n => ?_⟩
              have e39 := ((hO (N 42 (R1 32 x).toNat).toNat (by omega)).2.2.2.2 (R1 33 x).toNat (by omega))
              rw [ei] at e39
              rw [if_pos (by omega), gdE hgp, if_pos cp, gdE hgp, gdE hgx, wrE (v := 3 * N 42 (R1 32 x).toNat) (by omega) (by omega), wrE (v := 3 * N 42 (R1 32 x).toNat + R1 33 x) (by omega) (by omega), gdE (by omega), r 39 (by decide) (by decide) (by decide), e39]
      obtain ⟨c, hc1, hc2, hc3, hcr⟩ := hcand
      have hnext : ∀ (L' : Int) (N' : Mm) (v : Int), Kf R1 N' → (∀ i, i ≠ x → N' 42 i = N 42 i) → HrE R1 R (N' 42) x → Sty R (N' 42) (x + 1) L' → Kpt R R1 N' (x + 1) → v = ((cntm (fun i => decide (N 42 i ≠ -1)) x : Nat) : Int) + (if N' 42 x ≠ -1 then 1 else 0) →
          ∃ L'' N'', Lp (f_X12_keepsNodes_L7_176 J) G (L', v, wr ((x : Int) + 1), N') = J L'' ((cntm (fun x => decide (N'' 42 x ≠ -1)) (R1 0 35).toNat : Nat) : Int) N'' ∧ Kf R1 N'' ∧ (∀ x : Nat, (x : Int) < R1 0 35 → HrE R1 R (N'' 42) x) ∧ Sty R (N'' 42) (R1 0 35).toNat L'' ∧ Kpt R R1 N'' (R1 0 35).toNat := by
        intro L' N' v f1 f2 f3 f4 f5 f6
        have e1 : v = ((cntm (fun i => decide (N' 42 i ≠ -1)) (x + 1) : Nat) : Int) := by
          rw [f6]
          simp only [cntm]
          rw [(cntm_congr (P := fun i => decide (N' 42 i ≠ -1)) (Q := fun i => decide (N 42 i ≠ -1)) x fun i hi => by rw [f2 i (by omega)]).1]
          by_cases q : N' 42 x ≠ -1
          · simp [q]
          · simp [q]
        rw [e1, wrE (by omega) (by omega), show (x : Int) + 1 = ((x + 1 : Nat) : Int) by omega]
        refine ih (x + 1) G L' N' (by omega) (by omega) f1 (fun i hi => ?_) f4 f5
        by_cases ci : i = x
        · subst ci; exact f3
        · refine (k2 i (by omega)).congr (f2 i ci) fun hi0 => f2 _ ?_
          have := (hT1.2 i (by omega)).2.2.2.2.2.2.1 (by omega)
          omega
      rw [Lp_s, smJ_eq, r 0 (by decide) (by decide) (by decide), if_neg (by omega), gdE hgx, hx', hcr]
      by_cases ca : alk R1 R x c
      case neg =>
        rw [smJ_no (by omega) (hc1.imp id fun q => ⟨q.1, by omega⟩) ?_]
        · generalize hN' : up N 42 x (-1) = N'
          have f1 : ∀ j, j ≠ 42 → N' j = N j := fun j hj => by rw [← hN', up_ne _ _ _ hj]
          have f2 : ∀ i, N' 42 i = if i = x then -1 else N 42 i := fun i => by
            rw [← hN']
            by_cases ci : i = x
            · subst ci; rw [up_at, if_pos rfl]
            · rw [if_neg ci]; simp [up, ci]
          refine hnext L N' _ (fun j a b c => by rw [f1 j c]; exact r j a b c) (fun i hi => by rw [f2, if_neg hi]) ?_ ?_ ?_ ?_
          · have ec : cnd0 R1 R (N' 42) x = cnd0 R1 R (N 42) x := by
              unfold cnd0
              by_cases c0 : x = 0
              · rw [if_pos c0, if_pos c0]
              · have h7 := hn.2.2.2.2.2.2.1 (by omega)
                rw [if_neg c0, if_neg c0, f2 (R1 32 x).toNat, if_neg (c := (R1 32 x).toNat = x) (by omega)]
            unfold HrE
            rw [ec]
            exact ⟨fun q => absurd (hc2.mp q) ca, fun _ => by rw [f2, if_pos rfl]⟩
          · refine ⟨k3.1, fun q => (k3.2 q).trans ⟨?_, ?_⟩⟩
            · rintro ⟨i, i1, i2, i3⟩
              exact ⟨i, by omega, by rw [f2, if_neg (by omega)]; exact i2, by rw [f2, if_neg (by omega)]; exact i3⟩
            · rintro ⟨i, i1, i2, i3⟩
              by_cases ci : i = x
              · rw [f2, if_pos ci] at i2; exact absurd rfl i2
              · rw [f2, if_neg ci] at i2 i3
                exact ⟨i, by omega, i2, i3⟩
          · refine ⟨fun i hi hne => ?_, fun i hi => ?_⟩
            · by_cases ci : i = x
              · rw [f2, if_pos ci] at hne; exact absurd rfl hne
              · rw [f2, if_neg ci] at hne ⊢
                rw [f1 31 (by decide), f1 36 (by decide)]
                exact k4.1 i (by omega) hne
            · rw [f1 31 (by decide)]
              refine k4.2 i fun hi' => ?_
              have := hi (by omega)
              rw [f2, if_neg (by omega)] at this
              exact this
          · rw [f2, if_pos rfl, if_neg (fun q => q rfl)]; omega
        · rcases hc1 with q | q
          · exact Or.inl q
          · refine Or.inr fun z => ca ?_
            have ho := hO c.toNat (by omega)
            rw [r 37 (by decide) (by decide) (by decide), r 40 (by decide) (by decide) (by decide), r 30 (by decide) (by decide) (by decide), r 35 (by decide) (by decide) (by decide), ho.1, ho.2.2.1] at z
            exact ⟨q.1, q.2, z.1.symm, z.2.symm⟩
      case pos =>
        have ca' := ca
        obtain ⟨a1, a2, a3, a4⟩ := ca
        have ho := hO c.toNat (by omega)
        have hpl := (hP c.toNat (by omega)).1
        rw [smJ_yes (by omega) ⟨a1, by omega⟩ (by rw [r 37 (by decide) (by decide) (by decide), r 30 (by decide) (by decide) (by decide), ho.1, a3]) (by rw [r 40 (by decide) (by decide) (by decide), r 35 (by decide) (by decide) (by decide), ho.2.2.1, a4])]
        rw [r 41 (by decide) (by decide) (by decide), r 38 (by decide) (by decide) (by decide), ho.2.1, ho.2.2.2.1]
        generalize hN' : up (up (up N 42 x c) 31 x (R 31 c.toNat)) 36 x (R 36 c.toNat) = N'
        have f1 : ∀ j, j ≠ 31 → j ≠ 36 → j ≠ 42 → N' j = N j := fun j a b d => by rw [← hN', up_ne _ _ _ b, up_ne _ _ _ a, up_ne _ _ _ d]
        have f2 : ∀ i, N' 42 i = if i = x then c else N 42 i := fun i => by
          rw [← hN', up_ne _ _ _ (by decide), up_ne _ _ _ (by decide)]
          by_cases ci : i = x
          · subst ci; rw [up_at, if_pos rfl]
          · rw [if_neg ci]; simp [up, ci]
        have f3 : ∀ i, N' 31 i = if i = x then R 31 c.toNat else N 31 i := fun i => by
          rw [← hN', up_ne _ _ _ (by decide)]
          by_cases ci : i = x
          · subst ci; rw [up_at, if_pos rfl]
          · rw [if_neg ci]
            have : up (up N 42 x c) 31 x (R 31 c.toNat) 31 i = up N 42 x c 31 i := by simp [up, ci]
            rw [this, up_ne _ _ _ (by decide)]
        have f4 : ∀ i, N' 36 i = if i = x then R 36 c.toNat else N 36 i := fun i => by
          rw [← hN']
          by_cases ci : i = x
          · subst ci; rw [up_at, if_pos rfl]
          · rw [if_neg ci]
            have : up (up (up N 42 x c) 31 x (R 31 c.toNat)) 36 x (R 36 c.toNat) 36 i = up (up N 42 x c) 31 x (R 31 c.toNat) 36 i := by simp [up, ci]
            rw [this, up_ne _ _ _ (by decide), up_ne _ _ _ (by decide)]
        have hsh := lshl_ok hpl
        have hor := lor_nat k3.1 hsh.1
        rw [wrE (v := ((cntm (fun i => decide (N 42 i ≠ -1)) x : Nat) : Int) + 1) (by omega) (by omega)]
        refine hnext _ N' _ (fun j a b d => by rw [f1 j a b d]; exact r j a b d) (fun i hi => by rw [f2, if_neg hi]) ?_ ⟨hor.1, fun q => ?_⟩ ⟨fun i hi hne => ?_, fun i hi => ?_⟩ ?_
        · have ec : cnd0 R1 R (N' 42) x = c := by
            rw [hc3 (by omega)]
            unfold cnd0
            by_cases c0 : x = 0
            · rw [if_pos c0, if_pos c0]
            · have h7 := hn.2.2.2.2.2.2.1 (by omega)
              rw [if_neg c0, if_neg c0, f2 (R1 32 x).toNat, if_neg (c := (R1 32 x).toNat = x) (by omega)]
          unfold HrE
          rw [ec]
          exact ⟨fun _ => by rw [f2, if_pos rfl], fun q => absurd ca' q⟩
        · rw [lor_bt k3.1 hsh.1, Bool.or_eq_true, k3.2, hsh.2, decide_eq_true_iff]
          constructor
          · rintro (⟨i, i1, i2, i3⟩ | e)
            · exact ⟨i, by omega, by rw [f2, if_neg (by omega)]; exact i2, by rw [f2, if_neg (by omega)]; exact i3⟩
            · exact ⟨x, Nat.lt_succ_self _, by rw [f2, if_pos rfl]; omega, by rw [f2, if_pos rfl]; exact e.symm⟩
          · rintro ⟨i, i1, i2, i3⟩
            by_cases ci : i = x
            · rw [f2, if_pos ci] at i3; exact Or.inr i3.symm
            · rw [f2, if_neg ci] at i2 i3
              exact Or.inl ⟨i, by omega, i2, i3⟩
        · rw [f3, f4]
          by_cases ci : i = x
          · rw [if_pos ci, if_pos ci, f2, if_pos ci]; exact ⟨rfl, rfl⟩
          · rw [if_neg ci, if_neg ci, f2, if_neg ci]
            rw [f2, if_neg ci] at hne
            exact k4.1 i (by omega) hne
        · have ci : i ≠ x := fun e => by
            have := hi (by omega)
            rw [f2, if_pos e] at this
            omega
          rw [f3, if_neg ci]
          refine k4.2 i fun hi' => ?_
          have := hi (by omega)
          rw [f2, if_neg ci] at this
          exact this
        · rw [f2, if_pos rfl, if_pos (by omega)]
  have := key (R1 0 35).toNat 0 FU 0 R1 (by omega) (FU_lt (by omega)) (fun _ _ _ _ => rfl) (fun i hi => absurd hi (Nat.not_lt_zero _)) ⟨by decide, fun q => ⟨fun h => (by rw [bt0] at h; cases h), fun ⟨x, h, _⟩ => absurd h (Nat.not_lt_zero _)⟩⟩ ⟨fun i hi => absurd hi (Nat.not_lt_zero _), fun i _ => rfl⟩
  exact this
