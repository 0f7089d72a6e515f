/-! draws; an equation's steps -/
theorem jand_pos (v : Int) : 0 ≤ jand v 2147483647 ∧ jand v 2147483647 < 2147483648 := by
  unfold jand
  have h : (Ii v &&& Ii 2147483647).toBitVec.msb = false := by
    rw [Int32.toBitVec_and, BitVec.msb_and]
    have : (Ii 2147483647).toBitVec.msb = false := by decide
    rw [this, Bool.and_false]
  have e : (Ii v &&& Ii 2147483647).toInt = ((Ii v &&& Ii 2147483647).toBitVec.toNat : Int) := BitVec.toInt_eq_toNat_of_msb h
  have hl := BitVec.toNat_lt_of_msb_false h
  rw [e]
  omega
theorem L_part (N : Nat) (xs : Nat → Int32) {a n : Int} (ha : 0 ≤ a) (hn : 0 < n ∧ n < 2147483648) : ∃ v, (0 ≤ v ∧ v < n) ∧ ∀ M, f_L_part N xs a n M = some (v, M) := by
  have key : ∀ x : Int, ∃ v, (0 ≤ v ∧ v < n) ∧ ∀ M : Mm, (gd (¬ n = 0) (some (jrem (jand x 2147483647) n, M)) : Rs) = some (v, M) := fun x => by
    have hj := jand_pos x
    have e := (jremE (x := jand x 2147483647) (k := n) hj.1 hj.2 hn.1 hn.2).1
    refine ⟨_, ⟨Int.emod_nonneg (jand x 2147483647) (by omega), Int.emod_lt_of_pos (jand x 2147483647) hn.1⟩, fun M => ?_⟩
    rw [gdE (by omega), e]
  unfold f_L_part
  simp only [LtE]
  by_cases c : (N : Int) ≤ a
  · obtain ⟨v, v1, v2⟩ := key (wr (wr (647 * a) + wr (wr (509 * a) * a)))
    exact ⟨v, v1, fun M => by rw [if_pos c]; exact v2 M⟩
  · obtain ⟨v, v1, v2⟩ := key (xs a.toNat).toInt
    exact ⟨v, v1, fun M => by rw [if_neg c, gdE (by omega)]; exact v2 M⟩
theorem does4E (k a b : Int) (M : Mm) : f_L_does4 k a b 0 0 M = Clj (f_N11_step k a b M) M fun v M' => some (v, M') := rfl
theorem n_step {M S : Mm} (hC : CG M S) {k a b v : Int} {M' : Mm} (h1 : stA S k a) (h2 : stB k a b) (h3 : M 14 4 < 8 ∧ (tkn k : Int) ≤ M 14 5) (e : f_X11_step k a b M = some (0, v, M')) : f_N11_step k a b M = some (v, M') := by
  rw [c_stepE hC, if_neg (fun q => q h1), if_neg (fun q => q h2), if_pos h3] at e
  have hN : f_N11_step k a b M = Cl (f_X0_append 14 k a b M) fun _ M23 => some (M23 14 5, M23) := by
    have hJ : ∀ (X : Rs), (if k < 0 then X else if 15 ≤ k then X else if (if (k = 1 ∨ k = 2 ∨ k = 7) ∨ (0 ≤ a ∧ a ≤ (if k = 0 then 999 else if k = 3 ∨ k = 4 then 2 else 0)) then (1 : Int) else 0) = 0 then X else if ¬ (if 0 ≤ b ∧ b ≤ (if k = 2 ∨ k = 6 then 2 else 0) then (1 : Int) else 0) = 0 then (if 8 ≤ M 14 4 then X else if (tkn k : Int) ≤ M 14 5 then Cl (f_X0_append 14 k a b M) fun _ M23 => some (M23 14 5, M23) else X) else X) = Cl (f_X0_append 14 k a b M) fun _ M23 => some (M23 14 5, M23) := fun X => by
      obtain ⟨s1, s2, s3⟩ := h2
      rw [if_neg (by omega), if_neg (by omega), if_pos s2, if_neg (by decide), if_pos s3, if_pos (by decide), if_neg (by omega), if_pos h3.2]
    unfold f_N11_step
    simp only [LtE, c_tellsAttribute, c_isRightNumber, c_isRightChild, c_operandsOf, ClS]
    by_cases c : k = 1 ∨ k = 2 ∨ k = 7
    · have := hJ none
      rw [if_pos c, if_neg (by decide), n_mustAttr hC (h1 c), ClS]
      exact this
    · have := hJ none
      rw [if_neg c, if_pos rfl]
      exact this
  rw [hN]
  exact Cl_x (fun v' M2 e2 => by cases e2; rfl) e
theorem LI.draft {RG : Mm → Nat → Int} {M S M' S' : Mm} {b : Int} (h : LI RG M S b) (hc : CI RG M' S') (hq : AgQ S S') (e : ∀ j, ¬ (14 ≤ j ∧ j ≤ 21) → M' j = M j) : LI RG (jnM M' M) S' b := by
  obtain ⟨h1, h2, h3, h4⟩ := h
  have e684 : jnM M' M 684 = M 684 := jnM_hi (by decide)
  have e299 : jnM M' M 299 = M 299 := by rw [jnM_lo (by decide), e 299 (by decide)]
  refine ⟨hc.ext fun k hk => jnM_lo hk, h2.q hq (fun k hk _ => jnM_hi hk) (by rw [jnM_lo (by decide), e 273 (by decide)]), by rw [e684, e299]; exact h3, h4.of (by rw [e299]) (by rw [e684]) (by rw [e684]) (by rw [jnM_lo (by decide), e 283 (by decide)])⟩
/-- a step that fits -/
theorem L_step {RG : Mm → Nat → Int} (hRG : RGok RG) {M S : Mm} {b : Int} (h : LI RG M S b) {k x y : Int} (h1 : stA S k x) (h2 : stB k x y) (h14 : S 0 14 < 8) (h15 : (tkn k : Int) ≤ S 0 15) : ∃ M' S', f_L_does4 k x y 0 0 M = some (S 0 15 + (1 - (tkn k : Int)), M') ∧ LI RG M' S' b ∧ AgQ S S' ∧ S' 0 14 = S 0 14 + 1 ∧ S' 0 15 = S 0 15 + (1 - (tkn k : Int)) ∧ ∀ j, 681 ≤ j → M' j = M j := by
  obtain ⟨r, q, a1, a2, a3, a4, a5, a6, a7, a8, a9⟩ := g24_step hRG k x y h.1.1.1
  obtain ⟨-, ⟨q1, q2, -⟩, -, -, -⟩ := h.1.1.1.1
  rw [if_neg (fun c => c h1), if_neg (fun c => c h2), if_neg (by omega)] at a7
  obtain ⟨e1, e2, e3, e4, e5, e6⟩ := a9 a7
  have hq : AgQ S q.2 := ⟨fun j j1 j2 j3 => e4 j (by omega) (by omega), fun i hi => e5 i (by omega) (by omega) (by omega)⟩
  have hci : CI RG r.2.2 q.2 := h.1.q ⟨a6, CI0.to hRG h.1.1.2 hq (e6 300 (by decide)) (e6 301 (by decide))⟩ hq
  obtain ⟨c, v, M'⟩ := r
  simp only at a1 a5 a6 a7 e6 hci
  subst a7
  have hv : v = S 0 15 + (1 - (tkn k : Int)) := by rw [a5 rfl, e1]
  refine ⟨jnM M' M, q.2, ?_, h.draft hci hq e6, hq, e2, e3, fun j hj => jnM_hi hj⟩
  rw [does4E, n_step q1 h1 h2 (by rw [q2.1, q2.2.1]; exact ⟨h14, h15⟩) a1, CljS, hv]
theorem Lt_gen {α β : Type} {x : α} {k : α → β} {r : β} (h : ∀ y, y = x → k y = r) : Lt x k = r := h x rfl
def kdD (d : Int) : Int := if ¬ d % 8 = 7 then d % 8 else 14
def kdC (nd st j d : Int) : Int := if 7 ≤ j + st - nd then -1 else if st < nd then kdD d else if d ≤ 5 then -1 else kdD d
def kdB (nd st j d : Int) : Int := if st ≤ 0 then kdC nd st j d else if ¬ d = 19 then kdC nd st j d else 7
def kdA (nd st d : Int) : Int := if st ≤ nd + 1 then 8 + d % 5 else if ¬ d % 3 = 0 then 8 + d % 5 else 13
def kdr (nd st j d : Int) : Int := if st ≤ nd then kdB nd st j d else if d < 12 then kdA nd st d else if j ≤ 8 - st + nd - 2 then kdB nd st j d else kdA nd st d
theorem kdr_ok {nd st j d : Int} (hn : nd = 1 ∨ nd = 2) (hs : 0 ≤ st) (hd : 0 ≤ d ∧ d < 20) : kdr nd st j d = -1 ∨ ((0 ≤ kdr nd st j d ∧ kdr nd st j d ≤ 14) ∧ (tkn (kdr nd st j d) : Int) ≤ st) := by
  have hD : (0 ≤ kdD d ∧ kdD d ≤ 14) ∧ tkn (kdD d) = 0 := by
    unfold kdD
    by_cases c : d % 8 = 7
    · rw [if_neg (fun q => q c)]; decide
    · rw [if_pos c]
      refine ⟨by omega, ?_⟩
      unfold tkn
      rw [if_neg (by omega), if_neg (by omega), if_neg (by omega)]
  have hC : kdC nd st j d = -1 ∨ ((0 ≤ kdC nd st j d ∧ kdC nd st j d ≤ 14) ∧ (tkn (kdC nd st j d) : Int) ≤ st) := by
    have z : (0 ≤ kdD d ∧ kdD d ≤ 14) ∧ (tkn (kdD d) : Int) ≤ st := ⟨hD.1, by rw [hD.2]; exact hs⟩
    unfold kdC
    repeat' split
    all_goals first | exact Or.inl rfl | exact Or.inr z
  have hB : kdB nd st j d = -1 ∨ ((0 ≤ kdB nd st j d ∧ kdB nd st j d ≤ 14) ∧ (tkn (kdB nd st j d) : Int) ≤ st) := by
    unfold kdB
    split
    · exact hC
    · split
      · exact hC
      · right
        refine ⟨by decide, ?_⟩
        have : tkn 7 = 1 := by decide
        rw [this]; omega
  have h5 : (0 ≤ 8 + d % 5 ∧ 8 + d % 5 ≤ 14) ∧ tkn (8 + d % 5) = 2 := by
    refine ⟨by omega, ?_⟩
    unfold tkn
    rw [if_neg (by omega), if_pos (by omega)]
  have hA : nd < st → (0 ≤ kdA nd st d ∧ kdA nd st d ≤ 14) ∧ (tkn (kdA nd st d) : Int) ≤ st := fun q => by
    unfold kdA
    split
    · exact ⟨h5.1, by rw [h5.2]; omega⟩
    · split
      · exact ⟨h5.1, by rw [h5.2]; omega⟩
      · refine ⟨by decide, ?_⟩
        have : tkn 13 = 3 := by decide
        rw [this]; omega
  unfold kdr
  split
  · exact hB
  · split
    · exact Or.inr (hA (by omega))
    · split
      · exact hB
      · exact Or.inr (hA (by omega))
/-- what a step puts on the stack and takes from it -/
theorem tkn_del {k : Int} (h : 0 ≤ k ∧ k ≤ 14) : (1 - (tkn k : Int)) = if k < 7 then 1 else if ¬ k = 14 then (if ¬ k = 7 then (if ¬ k = 13 then -1 else -2) else 0) else 1 := by
  obtain ⟨n, rfl⟩ : ∃ n : Nat, k = (n : Int) := ⟨k.toNat, by omega⟩
  have hn : n < 15 := by omega
  have : ∀ n : Fin 15, (1 - (tkn (n.val : Int) : Int)) = if (n.val : Int) < 7 then 1 else if ¬ (n.val : Int) = 14 then (if ¬ (n.val : Int) = 7 then (if ¬ (n.val : Int) = 13 then -1 else -2) else 0) else 1 := by decide
  exact this ⟨n, hn⟩
