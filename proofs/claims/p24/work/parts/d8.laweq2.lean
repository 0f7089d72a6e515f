/-! an equation -/
theorem st_bd {st : Int} {j t : Nat} (h1 : 0 ≤ st ∧ st ≤ (j : Int)) (h2 : j < 8) (h3 : t ≤ 3) : -2147483648 ≤ st + (1 - (t : Int)) ∧ st + (1 - (t : Int)) < 2147483648 := by omega
theorem eq_body {RG : Mm → Nat → Int} (hRG : RGok RG) {N : Nat} {xs : Nat → Int32} {a7 nd : Int} (h7 : 0 ≤ a7 ∧ a7 ≤ 10000) (hnd : nd = 1 ∨ nd = 2) {M S : Mm} {b : Int} (h : LI RG M S b) (hg1 : 0 < S 0 12) {st : Int} {j : Nat} (hj : j < 8) (e15 : S 0 15 = st) (e14 : 0 ≤ S 0 14 ∧ S 0 14 ≤ j) (hst : 0 ≤ st ∧ st ≤ j) :
    ∃ st' M' S', (∀ (rc : Int × Int × Int × Mm → Rs) (J : Int → Int → Mm → Rs), f_L_isEquation_L83_257 N xs a7 nd J rc (1, st, (j : Int), M) = rc (1, st', ((j + 1 : Nat) : Int), M')) ∧ LI RG M' S' b ∧ AgQ S S' ∧ S' 0 15 = st' ∧ (0 ≤ S' 0 14 ∧ S' 0 14 ≤ ((j + 1 : Nat) : Int)) ∧ (0 ≤ st' ∧ st' ≤ ((j + 1 : Nat) : Int)) ∧ ∀ k, 681 ≤ k → M' k = M k := by
  have l2 := h.2.1.1.2.1
  have h12 := h.1.1.1.1.1.1.2.1
  have w2 : wr (2 * (j : Int)) = 2 * (j : Int) := wrE (by omega) (by omega)
  have w3 : wr (a7 + 2 * (j : Int)) = a7 + 2 * (j : Int) := wrE (by omega) (by omega)
  have w4 : wr (a7 + 2 * (j : Int) + 1) = a7 + 2 * (j : Int) + 1 := wrE (by omega) (by omega)
  have w5 : wr (a7 + 2 * (j : Int) + 2) = a7 + 2 * (j : Int) + 2 := wrE (by omega) (by omega)
  obtain ⟨d, d1, d2⟩ := L_part N xs (a := a7 + 2 * (j : Int) + 1) (n := 20) (by omega) (by decide)
  obtain ⟨x0, x01, x02⟩ := L_part N xs (a := a7 + 2 * (j : Int) + 2) (n := 1000) (by omega) (by decide)
  obtain ⟨x1, x11, x12⟩ := L_part N xs (a := a7 + 2 * (j : Int) + 2) (n := S 0 12) (by omega) (by omega)
  obtain ⟨x3, x31, x32⟩ := L_part N xs (a := a7 + 2 * (j : Int) + 2) (n := 3) (by omega) (by decide)
  have e8 := (jremE (x := d) (k := 8) d1.1 (by omega) (by decide) (by decide)).1
  have e5 := (jremE (x := d) (k := 5) d1.1 (by omega) (by decide) (by decide)).1
  have e3 := (jremE (x := d) (k := 3) d1.1 (by omega) (by decide) (by decide)).1
  have hkd := kdr_ok (st := st) (j := (j : Int)) hnd hst.1 d1
  generalize hK : kdr nd st (j : Int) d = K at hkd
  generalize hA : (if K = 0 then x0 else if K = 1 ∨ K = 2 ∨ K = 7 then x1 else if K = 3 ∨ K = 4 then x3 else 0) = A
  generalize hB : (if K = 2 ∨ K = 6 then x3 else 0) = B
  have hA1 : stA S K A := fun q => by
    rw [← hA, if_neg (by omega), if_pos q]; exact x11
  have hA2 : (K = 1 ∨ K = 2 ∨ K = 7) ∨ (0 ≤ A ∧ A ≤ (if K = 0 then 999 else if K = 3 ∨ K = 4 then 2 else 0)) := by
    by_cases c : K = 1 ∨ K = 2 ∨ K = 7
    · exact Or.inl c
    · right
      rw [← hA]
      by_cases c0 : K = 0
      · rw [if_pos c0, if_pos c0]; omega
      · rw [if_neg c0, if_neg c, if_neg c0]
        by_cases c3 : K = 3 ∨ K = 4
        · rw [if_pos c3, if_pos c3]; omega
        · rw [if_neg c3, if_neg c3]; decide
  have hB2 : 0 ≤ B ∧ B ≤ (if K = 2 ∨ K = 6 then 2 else 0) := by
    rw [← hB]
    by_cases c : K = 2 ∨ K = 6
    · rw [if_pos c, if_pos c]; omega
    · rw [if_neg c, if_neg c]; decide
  -- what the step makes
  have hres : ∃ st' M' S', LI RG M' S' b ∧ AgQ S S' ∧ S' 0 15 = st' ∧ (0 ≤ S' 0 14 ∧ S' 0 14 ≤ ((j + 1 : Nat) : Int)) ∧ (0 ≤ st' ∧ st' ≤ ((j + 1 : Nat) : Int)) ∧ (∀ k, 681 ≤ k → M' k = M k) ∧ (K < 0 → st' = st ∧ M' = M) ∧ (¬ K < 0 → f_L_does4 K A B 0 0 M = some (st', M') ∧ st' = st + (1 - (tkn K : Int))) := by
    rcases hkd with hk | ⟨hk1, hk2⟩
    · exact ⟨st, M, S, h, AgQ.refl S, e15, ⟨e14.1, by omega⟩, ⟨hst.1, by omega⟩, fun _ _ => rfl, fun _ => ⟨rfl, rfl⟩, fun q => absurd (by omega) q⟩
    · obtain ⟨M', S', f1, f2, f3, f4, f5, f6⟩ := L_step hRG h hA1 ⟨hk1, hA2, hB2⟩ (by omega) (by rw [e15]; exact hk2)
      rw [e15] at f1 f5
      exact ⟨st + (1 - (tkn K : Int)), M', S', f2, f3, f5, ⟨by omega, by omega⟩, ⟨by omega, by omega⟩, f6, fun q => absurd q (by omega), fun _ => ⟨f1, rfl⟩⟩
  obtain ⟨st', M', S', r1, r2, r3, r4, r5, r6, r7, r8⟩ := hres
  refine ⟨st', M', S', fun rc J => ?_, r1, r2, r3, r4, r5, r6⟩
  show (if 8 ≤ (j : Int) then J 1 st M else if (1 : Int) = 0 then J 1 st M else _) = _
  rw [if_neg (by omega), if_neg (by decide), LtE, LtE, LtE, w2, w3, w4, d2, ClS]
  refine Lt_gen fun J240 h240 => ?_
  -- which step
  have hsel : ∀ r : Rs, J240 1 st (j : Int) K M = r → (Lt (fun (v205 : Int) (v206 : Int) (v207 : Int) (M208 : Mm) => Lt (fun (v210 : Int) (v211 : Int) (v212 : Int) (M213 : Mm) => Lt (wr (v212 + v211)) fun v215 => Lt (wr (v215 - nd)) fun v216 => Lt (fun (v217 : Int) (v218 : Int) (v219 : Int) (M220 : Mm) => J240 v217 v218 v219 (-1) M220) fun J239_221 => if 7 ≤ v216 then J239_221 v210 v211 v212 M213 else Lt (fun (v223 : Int) (v224 : Int) (v225 : Int) (M226 : Mm) => Lt (jrem d 8) fun v228 => if ¬ v228 = 7 then Lt (jrem d 8) fun v230 => J240 v223 v224 v225 v230 M226 else J240 v223 v224 v225 14 M226) fun J216_227 => if v211 < nd then J216_227 v210 v211 v212 M213 else if d ≤ 5 then J239_221 v210 v211 v212 M213 else J216_227 v210 v211 v212 M213) fun J190_214 => if v206 ≤ 0 then J190_214 v205 v206 v207 M208 else if ¬ d = 19 then J190_214 v205 v206 v207 M208 else J240 v205 v206 v207 7 M208) fun J173_209 => if st ≤ nd then J173_209 1 st (j : Int) M else Lt (fun (v236 : Int) (v237 : Int) (v238 : Int) (M239 : Mm) => Lt (wr (nd + 1)) fun v241 => Lt (fun (v242 : Int) (v243 : Int) (v244 : Int) (M245 : Mm) => Lt (jrem d 5) fun v247 => Lt (wr (8 + v247)) fun v248 => J240 v242 v243 v244 v248 M245) fun J163_246 => if v237 ≤ v241 then J163_246 v236 v237 v238 M239 else Lt (jrem d 3) fun v250 => if ¬ v250 = 0 then J163_246 v236 v237 v238 M239 else J240 v236 v237 v238 13 M239) fun J142_240 => if d < 12 then J142_240 1 st (j : Int) M else Lt (wr (8 - st)) fun v253 => Lt (wr (v253 + nd)) fun v254 => Lt (wr (v254 - 2)) fun v255 => if (j : Int) ≤ v255 then J173_209 1 st (j : Int) M else J142_240 1 st (j : Int) M) = r := by
    intro r hr
    rw [← hr, ← hK]
    simp only [LtE]
    rw [e8, e5, e3, wrE (v := (j : Int) + st) (by omega) (by omega), wrE (v := (j : Int) + st - nd) (by omega) (by omega), wrE (v := nd + 1) (by omega) (by omega), wrE (v := 8 + d % 5) (by omega) (by omega), wrE (v := 8 - st) (by omega) (by omega), wrE (v := 8 - st + nd) (by omega) (by omega), wrE (v := 8 - st + nd - 2) (by omega) (by omega)]
    unfold kdr kdB kdA kdC kdD
    by_cases a1 : st ≤ nd <;> by_cases a2 : d < 12 <;> by_cases a3 : (j : Int) ≤ 8 - st + nd - 2 <;> by_cases a4 : st ≤ 0 <;> by_cases a5 : d = 19 <;> by_cases a6 : 7 ≤ (j : Int) + st - nd <;> by_cases a7' : st < nd <;> by_cases a8 : d ≤ 5 <;> by_cases a9 : d % 8 = 7 <;> by_cases a10 : st ≤ nd + 1 <;> by_cases a11 : d % 3 = 0 <;> simp only [a1, a2, a3, a4, a5, a6, a7', a8, a9, a10, a11, if_true, if_false, not_true_eq_false, not_false_eq_true] <;> rfl
  refine hsel _ ?_
  rw [h240]
  refine Lt_gen fun J338 h338 => ?_
  have hA' : ∀ r : Rs, J338 1 st (j : Int) A M = r → (if ¬ K = 0 then Lt (fun (v174 : Int) (v175 : Int) (v176 : Int) (M177 : Mm) => Lt (wr (2 * v176)) fun v179 => Lt (wr (a7 + v179)) fun v180 => Lt (wr (v180 + 2)) fun v181 => gd ((0 : Nat) ≤ 1 ∧ 1 < 11) <| Lt (M177 684 1) fun v182 => Cl (f_L_part N xs v181 v182 M177) fun v184 M183 => J338 v174 v175 v176 v184 M183) fun J286_178 => if K = 1 then J286_178 1 st (j : Int) M else if K = 2 then J286_178 1 st (j : Int) M else if ¬ K = 7 then Lt (fun (v188 : Int) (v189 : Int) (v190 : Int) (M191 : Mm) => Lt (wr (2 * v190)) fun v193 => Lt (wr (a7 + v193)) fun v194 => Lt (wr (v194 + 2)) fun v195 => Cl (f_L_part N xs v195 3 M191) fun v197 M196 => J338 v188 v189 v190 v197 M196) fun J319_192 => if K = 3 then J319_192 1 st (j : Int) M else if ¬ K = 4 then J338 1 st (j : Int) 0 M else J319_192 1 st (j : Int) M else J286_178 1 st (j : Int) M else Lt (wr (2 * (j : Int))) fun v200 => Lt (wr (a7 + v200)) fun v201 => Lt (wr (v201 + 2)) fun v202 => Cl (f_L_part N xs v202 1000 M) fun v204 M203 => J338 1 st (j : Int) v204 M203) = r := by
    intro r hr
    rw [← hr, ← hA]
    simp only [LtE]
    have g1 : (0 : Nat) ≤ 1 ∧ (1 : Nat) < 11 := by decide
    simp only [gdE g1]
    rw [w2, w3, w5, l2, x02, x12, x32, ClS, ClS, ClS]
    by_cases c0 : K = 0
    · rw [if_neg (fun q => q c0), if_pos c0]
    · rw [if_pos c0, if_neg c0]
      by_cases c1 : K = 1
      · rw [if_pos c1, if_pos (Or.inl c1)]
      · rw [if_neg c1]
        by_cases c2 : K = 2
        · rw [if_pos c2, if_pos (Or.inr (Or.inl c2))]
        · rw [if_neg c2]
          by_cases c7 : K = 7
          · rw [if_neg (fun q => q c7), if_pos (Or.inr (Or.inr c7))]
          · rw [if_pos c7, if_neg (c := K = 1 ∨ K = 2 ∨ K = 7) (by omega)]
            by_cases c3 : K = 3
            · rw [if_pos c3, if_pos (Or.inl c3)]
            · rw [if_neg c3]
              by_cases c4 : K = 4
              · rw [if_neg (fun q => q c4), if_pos (Or.inr c4)]
              · rw [if_pos c4, if_neg (c := K = 3 ∨ K = 4) (by omega)]
  refine hA' _ ?_
  rw [h338]
  refine Lt_gen fun J372 h372 => ?_
  have hB' : ∀ r : Rs, J372 1 st (j : Int) B M = r → (Lt (fun (v161 : Int) (v162 : Int) (v163 : Int) (M164 : Mm) => Lt (wr (2 * v163)) fun v166 => Lt (wr (a7 + v166)) fun v167 => Lt (wr (v167 + 2)) fun v168 => Cl (f_L_part N xs v168 3 M164) fun v170 M169 => J372 v161 v162 v163 v170 M169) fun J353_165 => if K = 2 then J353_165 1 st (j : Int) M else if ¬ K = 6 then J372 1 st (j : Int) 0 M else J353_165 1 st (j : Int) M) = r := by
    intro r hr
    rw [← hr, ← hB]
    simp only [LtE]
    rw [w2, w3, w5, x32, ClS]
    by_cases c2 : K = 2
    · rw [if_pos c2, if_pos (Or.inl c2)]
    · rw [if_neg c2]
      by_cases c6 : K = 6
      · rw [if_neg (fun q => q c6), if_pos (Or.inr c6)]
      · rw [if_pos c6, if_neg (c := K = 2 ∨ K = 6) (by omega)]
  refine hB' _ ?_
  rw [h372]
  refine Lt_gen fun J451 h451 => ?_
  have h451' : ∀ v133 v134 v135 M136, J451 v133 v134 v135 M136 = rc (v133, v134, wr (v135 + 1), M136) := fun _ _ _ _ => by rw [h451]; rfl
  have wj : wr ((j : Int) + 1) = ((j + 1 : Nat) : Int) := by rw [wrE (by omega) (by omega)]; omega
  by_cases cK : K < 0
  · obtain ⟨s1, s2⟩ := r7 cK
    show (if K < 0 then J451 1 st (j : Int) M else _) = _
    rw [if_pos cK, h451', wj, s1, s2]
  · obtain ⟨s1, s2⟩ := r8 cK
    have hk := (hkd.resolve_left (by omega)).1
    show (if K < 0 then J451 1 st (j : Int) M else _) = _
    rw [if_neg cK]
    refine Lt_gen fun J423 h423 => ?_
    have h423' : J423 (j : Int) st (1 - (tkn K : Int)) M = rc (1, st', ((j + 1 : Nat) : Int), M') := by
      rw [h423]
      show Lt (wr (st + (1 - (tkn K : Int)))) _ = _
      have hbd := st_bd hst hj (tkn_le K)
      rw [LtE, wrE (v := st + (1 - (tkn K : Int))) hbd.1 hbd.2, s1, ClS, LtE, ← s2, if_neg (c := ¬ st' = st') (fun q => q rfl)]
      show J451 1 st' (j : Int) M' = _
      rw [h451', wj]
    rw [← h423', tkn_del hk]
    simp only [LtE]
    by_cases k7 : K < 7
    · rw [if_pos k7, if_pos k7]
    · rw [if_neg k7, if_neg k7]
      by_cases k14 : K = 14
      · rw [if_neg (fun q => q k14), if_neg (fun q => q k14)]
      · rw [if_pos k14, if_pos k14]
        by_cases k77 : K = 7
        · rw [if_neg (fun q => q k77), if_neg (fun q => q k77)]
        · rw [if_pos k77, if_pos k77]
          by_cases k13 : K = 13
          · rw [if_neg (fun q => q k13), if_neg (fun q => q k13)]
          · rw [if_pos k13, if_pos k13]
