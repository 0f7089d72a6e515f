/-! the same under other numbers of nodes -/
def AgG (S S' : Mm) : Prop := (∀ j, (1 ≤ j ∧ j ≤ 12) ∨ (16 ≤ j ∧ j ≤ 27) → S' j = S j) ∧ ∀ i, i = 0 ∨ i = 12 ∨ i = 19 → S' 0 i = S 0 i
theorem g_shown {S S' : Mm} (h : AgG S S') : shown S' = shown S := by
  funext p k
  induction k with
  | zero => rfl
  | succ k ih => simp only [shown]; rw [ih, h.1 8 (by decide)]
theorem g_stand {S S' : Mm} (h : AgG S S') : stand S' = stand S := by
  funext p k
  induction k with
  | zero => funext c; simp only [stand]; rw [h.1 4 (by decide)]
  | succ k ih => funext c; simp only [stand]; rw [ih, g_shown h, h.1 4 (by decide), h.1 9 (by decide)]
theorem g_mt {S S' : Mm} (h : AgG S S') : mt S' = mt S := by unfold mt; rw [h.1 16 (by decide), h.1 17 (by decide), h.1 18 (by decide), h.1 19 (by decide), h.1 27 (by decide)]
theorem g_rs {S S' : Mm} (h : AgG S S') : rsv S' = rsv S ∧ rsh S' = rsh S := by
  have h4 : sg S' = sg S := by unfold sg; rw [g_mt h, h.2 19 (by simp)]
  have h6 : sgh S' = sgh S := by unfold sgh there; rw [g_shown h, g_stand h, h4]
  have h7 : rsh S' = rsh S := by unfold rsh; rw [h6]
  exact ⟨by unfold rsv; rw [h6, h7], h7⟩
theorem g_e {S S' : Mm} (h : AgG S S') : eK S' = eK S ∧ eA S' = eA S ∧ eB S' = eB S ∧ eN S' = eN S := by
  unfold eK eA eB eN
  rw [h.1 20 (by decide), h.1 21 (by decide), h.1 22 (by decide), h.1 23 (by decide)]
  exact ⟨rfl, rfl, rfl, rfl⟩
theorem g_rt1 {S S' : Mm} (h : AgG S S') : rt1 S' = rt1 S := by
  unfold rt1
  rw [(g_e h).1, (g_e h).2.2.2]
section TR
variable (S S' : Mm) (ρ : Nat → Nat) (Kp Gd : Nat → Prop)
/-- which nodes are there on both sides, under which numbers; good ones have their children there as well -/
def Trn : Prop := AgG S S' ∧ (∀ n, Kp n → (n : Int) < S 0 35) ∧ (∀ n m, Kp n → Kp m → ρ n = ρ m → n = m) ∧
  (∀ n, Gd n → Kp n ∧ S' 31 (ρ n) = S 31 n ∧ S' 30 (ρ n) = S 30 n ∧ S' 35 (ρ n) = S 35 n ∧ ∀ c : Nat, (c : Int) < S 4 (S 30 n).toNat → Kp (S 34 (3 * n + c)).toNat ∧ S' 34 (3 * ρ n + c) = (ρ (S 34 (3 * n + c)).toNat : Int)) ∧
  (∀ n, Kp n → (S 32 n = -1 → S' 32 (ρ n) = -1) ∧ (0 ≤ S 32 n → S' 32 (ρ n) = (ρ (S 32 n).toNat : Int) ∧ S' 33 (ρ n) = S 33 n))
def rvM (v : Int) : Int := if v < 1000 then v else 1000 + (ρ (v - 1000).toNat : Int)
def slM (x : Nat) : Nat := 6 * ρ (x / 6) + x % 6
def VlK (v : Int) : Prop := 1000 ≤ v → Kp (v - 1000).toNat
def HLk (L L' : Nat → Option (Int × Int)) (t : List Nat) : Prop := ∀ x ∈ t, ∃ v, fv L x = some v ∧ fv L' (slM ρ x) = some (rvM ρ v) ∧ VlK Kp v
def Rl (r r' : List Nat × Option Int) : Prop := r' = (r.1.map (slM ρ), r.2.map (rvM ρ)) ∧ ∀ v, r.2 = some v → VlK Kp v
end TR
section TR2
variable {S S' : Mm} {ρ : Nat → Nat} {Kp Gd : Nat → Prop} {L L' : Nat → Option (Int × Int)}
theorem rvM_lo {v : Int} (h : v < 1000) : rvM ρ v = v := if_pos h
theorem rvM_hi {v : Int} (h : 1000 ≤ v) : rvM ρ v = 1000 + (ρ (v - 1000).toNat : Int) := if_neg (by omega)
theorem rvM_cmp (v : Int) : (1000 ≤ rvM ρ v ↔ 1000 ≤ v) ∧ (rvM ρ v < 0 ↔ v < 0) ∧ (rvM ρ v = 0 ↔ v = 0) := by
  unfold rvM
  split <;> omega
theorem rvM_inj (hi : ∀ n m, Kp n → Kp m → ρ n = ρ m → n = m) {v w : Int} (hv : VlK Kp v) (hw : VlK Kp w) : rvM ρ v = rvM ρ w ↔ v = w := by
  constructor
  · intro h
    have c1 := rvM_cmp (ρ := ρ) v
    have c2 := rvM_cmp (ρ := ρ) w
    by_cases h1 : 1000 ≤ v
    · have h2 : 1000 ≤ w := by omega
      rw [rvM_hi h1, rvM_hi h2] at h
      have := hi _ _ (hv h1) (hw h2) (by omega)
      omega
    · rw [rvM_lo (by omega), rvM_lo (by omega)] at h
      exact h
  · intro h; rw [h]
theorem Rl_val {v : Int} (h : v < 1000) : Rl ρ Kp ([], some v) ([], some v) := ⟨by simp [rvM_lo h], fun w hw => by cases hw; exact fun q => by omega⟩
theorem Rl_none : Rl ρ Kp ([], none) ([], none) := ⟨rfl, fun w hw => by cases hw⟩
theorem Rl_look {s s' : Int} (hs : s'.toNat = slM ρ s.toNat) (h : HLk ρ Kp L L' (look L s).1) : Rl ρ Kp (look L s) (look L' s') := by
  obtain ⟨v, h1, h2, h3⟩ := h s.toNat (List.mem_singleton.mpr rfl)
  have e1 : look L s = ([s.toNat], some v) := Prod.ext rfl h1
  have e2 : look L' s' = ([s'.toNat], some (rvM ρ v)) := Prod.ext rfl (by show fv L' s'.toNat = _; rw [hs]; exact h2)
  rw [e1, e2, hs]
  exact ⟨rfl, fun w hw => by cases hw; exact h3⟩
theorem Rl_bnd {r r' : List Nat × Option Int} {g g' : Int → List Nat × Option Int} (hh : HLk ρ Kp L L' (bnd r g).1) (h : HLk ρ Kp L L' r.1 → Rl ρ Kp r r') (hg : ∀ v, r.2 = some v → VlK Kp v → HLk ρ Kp L L' (g v).1 → Rl ρ Kp (g v) (g' (rvM ρ v))) : Rl ρ Kp (bnd r g) (bnd r' g') := by
  obtain ⟨t, o⟩ := r
  cases o with
  | none =>
    have h1 := h hh
    obtain ⟨e1, e2⟩ := h1
    subst e1
    exact ⟨rfl, e2⟩
  | some v =>
    rw [bnd_some] at hh ⊢
    have h1 := h fun x hx => hh x (List.mem_append_left _ hx)
    obtain ⟨e1, e2⟩ := h1
    have h2 := hg v rfl (e2 v rfl) fun x hx => hh x (List.mem_append_right _ hx)
    obtain ⟨e3, e4⟩ := h2
    subst e1
    show Rl ρ Kp _ (bnd (t.map (slM ρ), some (rvM ρ v)) g')
    rw [bnd_some, e3]
    exact ⟨by simp [List.map_append], e4⟩
theorem slM_of {m : Nat} {a : Int} (ha : 0 ≤ a ∧ a < 6) : (6 * (ρ m : Int) + a).toNat = slM ρ (6 * (m : Int) + a).toNat := by
  unfold slM
  rw [show (6 * (m : Int) + a).toNat / 6 = m by omega]
  omega
theorem chN_tr (hT : Trn S S' ρ Kp Gd) (hN : Okn S) {m : Nat} (hm : Gd m) (h : Nat) (b : Int) : (chN S m (S 31 m) h b = -1 ∧ chN S' (ρ m) (S 31 m) h b = -1) ∨ ∃ c : Nat, chN S m (S 31 m) h b = (c : Int) ∧ Kp c ∧ chN S' (ρ m) (S 31 m) h b = (ρ c : Int) := by
  obtain ⟨t1, t2, t3, t4, t5⟩ := hT
  obtain ⟨g1, g2, g3, g4, g5⟩ := t4 m hm
  have hn := hN.2.2 m (t2 m g1)
  unfold chN
  rw [g_stand t1]
  by_cases c : stand S (S 31 m) h b = -1
  · rw [if_pos c, if_pos c]; exact Or.inl ⟨rfl, rfl⟩
  · rw [if_neg c, if_neg c]
    right
    have hst : ∀ (h : Nat) (b : Int), stand S (S 31 m) h b = -1 ∨ (0 ≤ stand S (S 31 m) h b ∧ stand S (S 31 m) h b < S 4 (S 31 m).toNat) := by
      intro h
      induction h with
      | zero =>
        intro b
        simp only [stand]
        by_cases c : 0 ≤ b ∧ b < S 4 (S 31 m).toNat
        · rw [if_pos c]; exact Or.inr c
        · rw [if_neg c]; exact Or.inl rfl
      | succ h ih =>
        intro b
        simp only [stand]
        split
        · exact ih _
        · exact Or.inl rfl
    obtain ⟨s1, s2⟩ := (hst h b).resolve_left c
    rw [hn.2.2.1] at s2
    generalize stand S (S 31 m) h b = d at c s1 s2 ⊢
    obtain ⟨e, rfl⟩ : ∃ e : Nat, d = (e : Int) := ⟨d.toNat, by omega⟩
    have hc := hn.2.2.2.2.2.2.2 e s2
    have hk := g5 e s2
    refine ⟨(S 34 (3 * m + e)).toNat, ?_, hk.1, ?_⟩
    · rw [show (3 * (m : Int) + (e : Int)).toNat = 3 * m + e by omega, Int.toNat_of_nonneg (by omega)]
    · rw [show (3 * (ρ m : Int) + (e : Int)).toNat = 3 * ρ m + e by omega, hk.2]
theorem lfV_tr (hT : Trn S S' ρ Kp Gd) (hg : Okg S) (hN : Okn S) {m : Nat} (hm : Gd m) {K a b : Int} {h : Nat} (hs : StepOk S K a b) : lfV S' (ρ m) (S 31 m) h K a b = rvM ρ (lfV S m (S 31 m) h K a b) ∧ VlK Kp (lfV S m (S 31 m) h K a b) := by
  have hch := chN_tr hT hN hm h b
  obtain ⟨t1, t2, t3, t4, t5⟩ := hT
  obtain ⟨g1, g2, g3, g4, g5⟩ := t4 m hm
  have hmn := hN.2.2 m (t2 m g1)
  have h10 := hg.1
  obtain ⟨k0, k1, k2⟩ := hs
  have hm1 := hmn.2.1
  have lo : ∀ v : Int, v < 1000 → v = rvM ρ v ∧ VlK Kp v := fun v hv => ⟨(rvM_lo hv).symm, fun q => by omega⟩
  unfold lfV
  rw [Int.toNat_natCast, Int.toNat_natCast, g3, g4, t1.1 6 (by decide), t1.1 7 (by decide), g2]
  by_cases c0 : K = 0
  · rw [if_pos c0, if_pos c0]
    rw [if_neg (by omega), if_pos c0] at k1
    exact lo a (by omega)
  rw [if_neg c0, if_neg c0]
  by_cases c3 : K = 3
  · rw [if_pos c3, if_pos c3]
    rw [if_neg (by omega)] at k1
    by_cases c : h = 0 ∧ a < S 6 (S 30 m).toNat
    · have hP := (hg.2.2.2.1 _ hmn.1.1 hmn.1.2).2.2.2.2.2.2.2.1 a k1.1 c.2
      rw [if_pos c]; exact lo _ (by omega)
    · rw [if_neg c]; exact lo _ (by omega)
  rw [if_neg c3, if_neg c3]
  by_cases c4 : K = 4
  · rw [if_pos c4, if_pos c4]
    have hj := jand_one (jshr (S 35 m) a)
    split
    · exact lo _ (by omega)
    · exact lo _ (by omega)
  rw [if_neg c4, if_neg c4]
  by_cases c5 : K = 5
  · rw [if_pos c5, if_pos c5]
    refine ⟨?_, fun _ => ?_⟩
    · rw [rvM_hi (by omega), show ((1000 : Int) + (m : Int) - 1000).toNat = m by omega]
    · rw [show ((1000 : Int) + (m : Int) - 1000).toNat = m by omega]; exact g1
  rw [if_neg c5, if_neg c5]
  by_cases c6 : K = 6
  · rw [if_pos c6, if_pos c6]
    rcases hch with ⟨q1, q2⟩ | ⟨c, q1, q2, q3⟩
    · rw [if_pos q1, if_pos q2]; exact lo _ (by omega)
    · rw [if_neg (by omega), if_neg (by omega), q1, q3]
      refine ⟨?_, fun _ => ?_⟩
      · rw [rvM_hi (by omega), show ((1000 : Int) + (c : Int) - 1000).toNat = c by omega]
      · rw [show ((1000 : Int) + (c : Int) - 1000).toNat = c by omega]; exact q2
  rw [if_neg c6, if_neg c6]
  split
  · exact lo _ (by omega)
  · exact lo _ (by omega)
theorem jn_tr (hi : ∀ n m, Kp n → Kp m → ρ n = ρ m → n = m) {K v w : Int} (hv : VlK Kp v) (hw : VlK Kp w) (h0 : 0 ≤ v) (h1 : 0 ≤ w) : jn K (rvM ρ v) (rvM ρ w) = jn K v w := by
  have c1 := rvM_cmp (ρ := ρ) v
  have c2 := rvM_cmp (ρ := ρ) w
  unfold jn
  by_cases k : K = 12
  · rw [if_pos k, if_pos k]
    by_cases e : v = w
    · rw [if_pos e, if_pos (by rw [e])]
    · rw [if_neg e, if_neg fun q => e ((rvM_inj hi hv hw).mp q)]
  rw [if_neg k, if_neg k]
  by_cases c : 1000 ≤ v
  · rw [if_pos c, if_pos (c1.1.mpr c)]
  · rw [if_neg c, if_neg (by omega)]
    by_cases d : w < 1000
    · rw [rvM_lo (v := v) (by omega), rvM_lo d]
    · rw [if_neg d, if_neg (by omega)]
theorem evo_tr (hT : Trn S S' ρ Kp Gd) (hg : Okg S) (hN : Okn S) {m : Nat} (hm : Gd m) {k : Nat} (hO : OkE S k) (h : Nat) : ∀ f i, i < eN S k → i < f → HLk ρ Kp L L' (evo S L m (S 31 m) h k f i).1 → Rl ρ Kp (evo S L m (S 31 m) h k f i) (evo S' L' (ρ m) (S 31 m) h k f i) := by
  have h12 := hg.2.1
  have hK := hO.2.2.2.2.2.1
  have hch := chN_tr hT hN hm
  have hi3 := hT.2.2.1
  obtain ⟨e1, e2, e3, e4⟩ := g_e hT.1
  intro f
  induction f with
  | zero => exact fun i _ hi => absurd hi (Nat.not_lt_zero _)
  | succ f ih =>
    intro i hi hf
    have hst := hK i hi
    have ho : ∀ j, j < tkn (eK S k i) → HLk ρ Kp L L' (evo S L m (S 31 m) h k f (opr (eK S k) i j)).1 → Rl ρ Kp (evo S L m (S 31 m) h k f (opr (eK S k) i j)) (evo S' L' (ρ m) (S 31 m) h k f (opr (eK S k) i j)) := fun j hj => by
      have := opr_lt hj hst.2
      exact ih _ (by omega) (by omega)
    have hlf := lfV_tr hT hg hN hm (h := h) hst.1
    obtain ⟨s1, s2, s3⟩ := hst.1
    simp only [evo]
    rw [e1, e2, e3]
    by_cases c1 : tkn (eK S k i) = 0
    · rw [if_pos c1, if_pos c1]
      have c7 : eK S k i ≠ 7 := fun q => by rw [q] at c1; exact absurd c1 (by decide)
      by_cases k1 : eK S k i = 1
      · have l1 : ∀ (T : Mm) (x : Int), lkS T x (S 31 m) h (eK S k i) (eA S k i) (eB S k i) 0 = 6 * x + eA S k i := fun T x => by unfold lkS; rw [if_pos k1]
        rw [if_pos (Or.inl k1)] at s2
        rw [l1, l1, if_neg (by omega), if_neg (by omega)]
        exact Rl_look (slM_of ⟨s2.1, by omega⟩)
      by_cases k2 : eK S k i = 2
      · have l2 : ∀ (T : Mm) (x : Int), lkS T x (S 31 m) h (eK S k i) (eA S k i) (eB S k i) 0 = if chN T x (S 31 m) h (eB S k i) = -1 then -1 else 6 * chN T x (S 31 m) h (eB S k i) + eA S k i := fun T x => by unfold lkS; rw [if_neg k1, if_pos k2]
        rw [if_pos (Or.inr (Or.inl k2))] at s2
        rw [l2, l2]
        rcases hch h (eB S k i) with ⟨q1, q2⟩ | ⟨c, q1, q2, q3⟩
        · rw [if_pos q1, if_pos q2, if_pos rfl, if_pos rfl]
          intro _
          rw [hlf.1]
          exact ⟨rfl, fun v hv => by cases hv; exact hlf.2⟩
        · have n1 : ¬ chN S m (S 31 m) h (eB S k i) = -1 := by omega
          have n2 : ¬ chN S' (ρ m) (S 31 m) h (eB S k i) = -1 := by omega
          rw [if_neg n1, if_neg n2, if_neg (by omega), if_neg (by omega), q1, q3]
          exact Rl_look (slM_of ⟨s2.1, by omega⟩)
      have l3 : ∀ (T : Mm) (x : Int), lkS T x (S 31 m) h (eK S k i) (eA S k i) (eB S k i) 0 = -1 := fun T x => by unfold lkS; rw [if_neg k1, if_neg k2, if_neg c7]
      rw [l3, l3, if_pos rfl, if_pos rfl]
      intro _
      rw [hlf.1]
      exact ⟨rfl, fun v hv => by cases hv; exact hlf.2⟩
    · rw [if_neg c1, if_neg c1]
      intro hh
      refine Rl_bnd hh (ho 0 (by omega)) fun v hv hvk hgh => ?_
      have cv := rvM_cmp (ρ := ρ) v
      by_cases c2 : v < 0
      · rw [if_pos c2, if_pos (c := rvM ρ v < 0) (cv.2.1.mpr c2), rvM_lo (by omega)]
        exact Rl_val (by omega)
      rw [if_neg c2] at hgh
      rw [if_neg c2, if_neg (c := rvM ρ v < 0) (by omega)]
      by_cases c3 : eK S k i = 7
      · rw [if_pos c3] at hgh
        rw [if_pos c3, if_pos c3]
        rw [if_pos (Or.inr (Or.inr c3))] at s2
        by_cases c4 : v < 1000
        · rw [if_pos c4, if_pos (c := rvM ρ v < 1000) (by omega)]; exact Rl_val (by decide)
        · rw [if_neg c4] at hgh
          rw [if_neg c4, if_neg (c := rvM ρ v < 1000) (by omega), rvM_hi (by omega)]
          refine Rl_look ?_ hgh
          have := slM_of (ρ := ρ) (m := (v - 1000).toNat) (a := eA S k i) ⟨s2.1, by omega⟩
          rw [Int.toNat_of_nonneg (by omega)] at this
          rw [← this]
          congr 1
          omega
      rw [if_neg c3] at hgh
      rw [if_neg c3, if_neg c3]
      by_cases c4 : eK S k i = 13
      · rw [if_pos c4] at hgh
        rw [if_pos c4, if_pos c4]
        have e0 : (if rvM ρ v = 0 then 2 else 1) = if v = 0 then 2 else 1 := by
          by_cases z : v = 0
          · rw [if_pos z, if_pos (cv.2.2.mpr z)]
          · rw [if_neg z, if_neg (by omega)]
        rw [e0]
        refine ho _ ?_ hgh
        rw [c4]
        split <;> decide
      rw [if_neg c4] at hgh
      rw [if_neg c4, if_neg c4]
      refine Rl_bnd hgh (ho 1 ?_) fun w hw hwk _ => ?_
      · unfold tkn at c1 ⊢
        grind
      · have cw := rvM_cmp (ρ := ρ) w
        by_cases c5 : w < 0
        · rw [if_pos c5, if_pos (c := rvM ρ w < 0) (cw.2.1.mpr c5), rvM_lo (by omega)]
          exact Rl_val (by omega)
        · rw [if_neg c5, if_neg (c := rvM ρ w < 0) (by omega), jn_tr hi3 hvk hwk (by omega) (by omega)]
          have := jn_ok (K := eK S k i) (v := v) (w := w) (by omega) (by omega)
          exact Rl_val (by omega)
/-- the nodes at which an attribute is found are good ones -/
def SuN (S : Mm) (Kp Gd : Nat → Prop) (s : Nat) : Prop := SlV S s ∧ S 12 (s % 6) ≠ 2 ∧ Kp (s / 6) ∧ (S 12 (s % 6) ≠ 1 → Gd (s / 6)) ∧ (S 12 (s % 6) = 1 → S 32 (s / 6) = -1 ∨ (0 ≤ S 32 (s / 6) ∧ Gd (S 32 (s / 6)).toNat))
theorem spc_tr (hT : Trn S S' ρ Kp Gd) (hg : Okg S) (hO : Oke S) (hN : Okn S) {s : Nat} (hs : SuN S Kp Gd s) (hh : HLk ρ Kp L L' (spc S L ((s / 6 : Nat) : Int) ((s % 6 : Nat) : Int)).1) : Rl ρ Kp (spc S L ((s / 6 : Nat) : Int) ((s % 6 : Nat) : Int)) (spc S' L' ((ρ (s / 6) : Nat) : Int) ((s % 6 : Nat) : Int)) := by
  have h12 := hg.2.1
  obtain ⟨hv, k2, hk, hu, hd⟩ := hs
  obtain ⟨t1, t2, t3, t4, t5⟩ := id hT
  have e12 : S' 12 = S 12 := t1.1 12 (by decide)
  obtain ⟨r1, r2⟩ := g_rs t1
  have ha6 : 0 ≤ ((s % 6 : Nat) : Int) ∧ ((s % 6 : Nat) : Int) < 6 := by omega
  generalize s / 6 = n at hv hk hu hd hh ⊢
  have hpm : ∀ (T : Mm) (x : Nat), T 12 = S 12 → pm T x ((s % 6 : Nat) : Int) = (if S 12 (s % 6) = 1 then T 32 x else (x : Int)) ∧ pt T x ((s % 6 : Nat) : Int) = (if S 12 (s % 6) = 1 then T 33 x else -1) := fun T x hx => by
    unfold pm pt
    rw [Int.toNat_natCast, Int.toNat_natCast, hx]
    exact ⟨rfl, rfl⟩
  have hS := hpm S n rfl
  have hS' := hpm S' (ρ n) e12
  -- the node at which it is found
  have hcase : (pm S n ((s % 6 : Nat) : Int) = -1 ∧ pm S' (ρ n) ((s % 6 : Nat) : Int) = -1) ∨ ∃ m : Nat, Gd m ∧ pm S n ((s % 6 : Nat) : Int) = m ∧ pm S' (ρ n) ((s % 6 : Nat) : Int) = (ρ m : Int) ∧ pt S' (ρ n) ((s % 6 : Nat) : Int) = pt S n ((s % 6 : Nat) : Int) := by
    rw [hS.1, hS'.1, hS.2, hS'.2]
    by_cases c : S 12 (s % 6) = 1
    · rw [if_pos c, if_pos c, if_pos c, if_pos c]
      have hp := t5 n hk
      rcases hd c with q | ⟨q1, q2⟩
      · exact Or.inl ⟨q, hp.1 q⟩
      · have := hp.2 q1
        exact Or.inr ⟨_, q2, (Int.toNat_of_nonneg q1).symm, this.1, this.2⟩
    · rw [if_neg c, if_neg c, if_neg c, if_neg c]
      exact Or.inr ⟨n, hu c, rfl, rfl, rfl⟩
  unfold spc at hh ⊢
  rw [Int.toNat_natCast] at hh ⊢
  rw [e12]
  rw [if_neg k2] at hh
  rw [if_neg k2, if_neg k2]
  rcases hcase with ⟨q1, q2⟩ | ⟨m, hm, q1, q2, q3⟩
  · rw [if_pos q1, if_pos q2]; exact Rl_val (by decide)
  have n1 : ¬ pm S n ((s % 6 : Nat) : Int) = -1 := by omega
  have n2 : ¬ pm S' (ρ n) ((s % 6 : Nat) : Int) = -1 := by omega
  have hgm := t4 m hm
  have ep : prs S' (ρ n) ((s % 6 : Nat) : Int) = prs S n ((s % 6 : Nat) : Int) := by
    unfold prs
    rw [q1, q2, q3, Int.toNat_natCast, Int.toNat_natCast, r1, hgm.2.1]
  have er : rsh S' (S' 31 (pm S' (ρ n) ((s % 6 : Nat) : Int)).toNat) ((s % 6 : Nat) : Int) (pt S' (ρ n) ((s % 6 : Nat) : Int)) = rsh S (S 31 (pm S n ((s % 6 : Nat) : Int)).toNat) ((s % 6 : Nat) : Int) (pt S n ((s % 6 : Nat) : Int)) := by
    rw [q1, q2, q3, Int.toNat_natCast, Int.toNat_natCast, r2, hgm.2.1]
  rw [if_neg n1] at hh
  rw [if_neg n1, if_neg n2, er, ep]
  by_cases c3 : prs S n ((s % 6 : Nat) : Int) = -3
  · rw [if_pos c3, if_pos c3]; exact Rl_val (by decide)
  rw [if_neg c3] at hh
  rw [if_neg c3, if_neg c3]
  by_cases c4 : prs S n ((s % 6 : Nat) : Int) = -1
  · rw [if_pos c4] at hh
    rw [if_pos c4, if_pos c4]
    by_cases c5 : S 12 (s % 6) = 1
    · rw [if_pos c5] at hh
      rw [if_pos c5, if_pos c5, q1, q2]
      rw [q1] at hh
      exact Rl_look (slM_of ha6) hh
    · rw [if_neg c5, if_neg c5]; exact Rl_val (by decide)
  rw [if_neg c4] at hh
  rw [if_neg c4, if_neg c4]
  rcases rsv_val S (S 31 (pm S n ((s % 6 : Nat) : Int)).toNat) ((s % 6 : Nat) : Int) (pt S n ((s % 6 : Nat) : Int)) with h | h | ⟨e, h1, h2, h3, h4⟩
  · exact absurd h c4
  · exact absurd h c3
  have hpe : prs S n ((s % 6 : Nat) : Int) = e := h1
  rw [hpe, Int.toNat_natCast] at hh ⊢
  rw [q1, Int.toNat_natCast] at hh ⊢
  rw [q2, Int.toNat_natCast, hgm.2.1, g_rt1 t1]
  have hOk := hO.2.1 e h2
  have hw : wfK (eK S e) (eN S e) := by
    obtain ⟨o1, o2, o3, o4, o5, o6, -⟩ := hOk
    exact ⟨by unfold eN; omega, fun i hi => (o6 i hi).2⟩
  have hlen : (stk (eK S e) (eN S e)).length = 1 := by
    have := hOk.2.2.2.2.2.2.1
    rw [h3, Int.toNat_natCast, if_neg k2] at this
    exact this
  obtain ⟨-, rr2, -⟩ := roots1 hw hlen
  have h8 := hw.1
  exact evo_tr hT hg hN hm hOk _ 8 _ rr2 (by omega) hh
end TR2
