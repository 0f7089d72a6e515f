/-! how the steps of an expression lie -/
theorem getD_drop' (l : List Nat) (t i : Nat) : (l.drop t).getD i 0 = l.getD (t + i) 0 := by
  rw [List.getD_eq_getElem?_getD, List.getD_eq_getElem?_getD, List.getElem?_drop]
def wfK (K : Nat → Int) (n : Nat) : Prop := n ≤ 8 ∧ ∀ k, k < n → tkn (K k) ≤ (stk K k).length
theorem stk_top {K : Nat → Int} {n : Nat} : (stk K (n + 1)).getD 0 0 = n := rfl
theorem sta_unf {K : Nat → Int} {n : Nat} (h : wfK K n) {k : Nat} (hk : k < n) : sta K 8 k = if tkn (K k) = 0 then k else sta K 8 (opr K k 0) := by
  have e : sta K 8 k = if tkn (K k) = 0 then k else sta K 7 (opr K k 0) := rfl
  rw [e]
  split
  · rfl
  · rename_i c
    have hl := opr_lt (j := 0) (by omega) (h.2 k hk)
    have h8 := h.1
    exact sta_fuel h.2 7 _ (by omega) (by omega) 8 (by omega)
-- where the expressions on the stack begin
theorem stk_sta {K : Nat → Int} {N : Nat} (h : wfK K N) : ∀ n, n ≤ N → ∀ i, i < (stk K n).length → sta K 8 ((stk K n).getD i 0) = if i + 1 < (stk K n).length then (stk K n).getD (i + 1) 0 + 1 else 0 := by
  intro n
  induction n with
  | zero => intro _ i hi; exact absurd hi (Nat.not_lt_zero _)
  | succ n ih =>
    intro hn i hi
    have ih := ih (by omega)
    have ht := h.2 n (by omega)
    have hlen : (stk K (n + 1)).length = (stk K n).length - tkn (K n) + 1 := stk_len
    have hc : stk K (n + 1) = n :: (stk K n).drop (tkn (K n)) := rfl
    rw [hlen] at hi ⊢
    rw [hc]
    match i with
    | 0 =>
      rw [List.getD_cons_zero, sta_unf h (by omega), List.getD_cons_succ, getD_drop', Nat.add_zero]
      by_cases c : tkn (K n) = 0
      · rw [if_pos c, c]
        by_cases c2 : 0 + 1 < (stk K n).length - 0 + 1
        · rw [if_pos c2]
          obtain ⟨m, rfl⟩ : ∃ m, n = m + 1 := ⟨n - 1, by
            have := stk_len_le K n
            omega⟩
          rw [stk_top]
        · rw [if_neg c2]
          have : n = 0 := by
            match n, c2 with
            | 0, _ => rfl
            | m + 1, c2 => exact absurd (by rw [stk_len]; omega) c2
          exact this
      · rw [if_neg c]
        have := ih (tkn (K n) - 1) (by omega)
        unfold opr
        rw [Nat.sub_zero, this]
        by_cases c2 : 0 + 1 < (stk K n).length - tkn (K n) + 1
        · rw [if_pos c2, if_pos (by omega), show tkn (K n) - 1 + 1 = tkn (K n) by omega]; rfl
        · rw [if_neg c2, if_neg (by omega)]
    | i + 1 =>
      rw [List.getD_cons_succ, List.getD_cons_succ, getD_drop', getD_drop', ih _ (by omega)]
      by_cases c2 : i + 1 + 1 < (stk K n).length - tkn (K n) + 1
      · rw [if_pos c2, if_pos (by omega), show tkn (K n) + i + 1 = tkn (K n) + (i + 1) by omega]
      · rw [if_neg c2, if_neg (by omega)]
theorem opr_sta {K : Nat → Int} {N : Nat} (h : wfK K N) {u j : Nat} (hu : u < N) (hj : j + 1 < tkn (K u)) : sta K 8 (opr K u (j + 1)) = opr K u j + 1 := by
  have ht := h.2 u hu
  unfold opr
  rw [stk_sta h u (by omega) _ (by omega), if_pos (by omega), show tkn (K u) - 1 - (j + 1) + 1 = tkn (K u) - 1 - j by omega]
theorem opr_last {K : Nat → Int} {N : Nat} (h : wfK K N) {u : Nat} (hu : u < N) (ht0 : 0 < tkn (K u)) : opr K u (tkn (K u) - 1) + 1 = u := by
  have ht := h.2 u hu
  unfold opr
  rw [Nat.sub_self]
  match u, ht with
  | 0, ht => exact absurd ht0 (by have : (stk K 0).length = 0 := rfl; omega)
  | u + 1, _ => rw [stk_top]
theorem sta_le {K : Nat → Int} {N : Nat} (h : wfK K N) : ∀ f k, k < N → k ≤ f → sta K 8 k ≤ k ∧ tkn (K (sta K 8 k)) = 0 := by
  intro f
  induction f with
  | zero =>
    intro k hk hf
    have : k = 0 := by omega
    subst this
    have ht := h.2 0 hk
    have h0 : tkn (K 0) = 0 := by have : (stk K 0).length = 0 := rfl; omega
    rw [sta_unf h hk, if_pos h0]
    exact ⟨Nat.le_refl _, h0⟩
  | succ f ih =>
    intro k hk hf
    rw [sta_unf h hk]
    by_cases c : tkn (K k) = 0
    · rw [if_pos c]; exact ⟨Nat.le_refl _, c⟩
    · rw [if_neg c]
      have hl := opr_lt (j := 0) (by omega) (h.2 k hk)
      have := ih (opr K k 0) (by omega) (by omega)
      exact ⟨by omega, this.2⟩
-- each step is taken by one behind it, or stands
theorem step_used {K : Nat → Int} {N : Nat} (h : wfK K N) : ∀ n, n ≤ N → ∀ i, i < n → i ∈ stk K n ∨ ∃ u j, u < n ∧ j < tkn (K u) ∧ opr K u j = i := by
  intro n
  induction n with
  | zero => intro _ i hi; exact absurd hi (Nat.not_lt_zero _)
  | succ n ih =>
    intro hn i hi
    have ht := h.2 n (by omega)
    have hc : stk K (n + 1) = n :: (stk K n).drop (tkn (K n)) := rfl
    rw [hc]
    by_cases e : i = n
    · left; rw [e]; exact List.mem_cons_self
    · rcases ih (by omega) i (by omega) with hm | ⟨u, j, h1, h2, h3⟩
      · obtain ⟨x, hx, ex⟩ := List.mem_iff_getElem.mp hm
        by_cases cx : x < tkn (K n)
        · right
          refine ⟨n, tkn (K n) - 1 - x, by omega, by omega, ?_⟩
          unfold opr
          rw [show tkn (K n) - 1 - (tkn (K n) - 1 - x) = x by omega, List.getD_eq_getElem?_getD, List.getElem?_eq_getElem hx]
          exact ex
        · left
          refine List.mem_cons_of_mem _ (List.mem_iff_getElem.mpr ⟨x - tkn (K n), by rw [List.length_drop]; omega, ?_⟩)
          rw [List.getElem_drop]
          simp only [show tkn (K n) + (x - tkn (K n)) = x by omega]
          exact ex
      · exact Or.inr ⟨u, j, by omega, h2, h3⟩
/-! what an expression is, with the slots at which is looked -/
def bnd (r : List Nat × Option Int) (g : Int → List Nat × Option Int) : List Nat × Option Int :=
  match r.2 with
  | none => r
  | some v => (r.1 ++ (g v).1, (g v).2)
def look (L : Nat → Option (Int × Int)) (s : Int) : List Nat × Option Int := ([s.toNat], (L s.toNat).map (·.1))
def evo (S : Mm) (L : Nat → Option (Int × Int)) (m p : Int) (h k : Nat) : Nat → Nat → List Nat × Option Int
  | 0, _ => ([], none)
  | f + 1, i =>
    if tkn (eK S k i) = 0 then
      (if lkS S m p h (eK S k i) (eA S k i) (eB S k i) 0 = -1 then ([], some (lfV S m p h (eK S k i) (eA S k i) (eB S k i))) else look L (lkS S m p h (eK S k i) (eA S k i) (eB S k i) 0))
    else bnd (evo S L m p h k f (opr (eK S k) i 0)) fun v =>
      if v < 0 then ([], some v)
      else if eK S k i = 7 then (if v < 1000 then ([], some (-1)) else look L (6 * (v - 1000) + eA S k i))
      else if eK S k i = 13 then evo S L m p h k f (opr (eK S k) i (if v = 0 then 2 else 1))
      else bnd (evo S L m p h k f (opr (eK S k) i 1)) fun w => ([], some (if w < 0 then w else jn (eK S k i) v w))
theorem bnd_some {t : List Nat} {v : Int} {g : Int → List Nat × Option Int} : bnd (t, some v) g = (t ++ (g v).1, (g v).2) := rfl
theorem bnd_none {t : List Nat} {g : Int → List Nat × Option Int} : bnd (t, none) g = (t, none) := rfl
/-- a step of a frame, with the slot at which is looked -/
def Stq (S C : Mm) (L : Nat → Option (Int × Int)) (q q' : (Nat → Int) × (Nat → Int)) (t : List Nat) : Prop :=
  VF S q ∧ VG S q.1 ∧ ((lkQ S q = -1 ∧ t = [] ∧ q' = af S C q (vlQ S q)) ∨ (lkQ S q ≠ -1 ∧ ∃ v b, L (lkQ S q).toNat = some (v, b) ∧ t = [(lkQ S q).toNat] ∧ q' = af S C (se q.1 7 (jor (q.1 7) b), q.2) v))
def Rn (S C : Mm) (L : Nat → Option (Int × Int)) : Nat → (Nat → Int) × (Nat → Int) → List Nat → (Nat → Int) × (Nat → Int) → Prop
  | 0, q, t, q' => t = [] ∧ q' = q
  | n + 1, q, t, q' => ∃ q1 t1 t2, Stq S C L q q1 t1 ∧ t = t1 ++ t2 ∧ Rn S C L n q1 t2 q'
theorem Rn_add {S C : Mm} {L : Nat → Option (Int × Int)} : ∀ n q t q' n' t' q'', Rn S C L n q t q' → Rn S C L n' q' t' q'' → Rn S C L (n + n') q (t ++ t') q'' := by
  intro n
  induction n with
  | zero =>
    intro q t q' n' t' q'' h h'
    obtain ⟨e1, e2⟩ := h
    subst e1 e2
    rw [Nat.zero_add]; exact h'
  | succ n ih =>
    intro q t q' n' t' q'' h h'
    obtain ⟨q1, t1, t2, h1, h2, h3⟩ := h
    rw [show n + 1 + n' = (n + n') + 1 by omega]
    exact ⟨q1, t1, t2 ++ t', h1, by rw [h2, List.append_assoc], ih _ _ _ _ _ _ h3 h'⟩
theorem Stq_det {S C : Mm} {L : Nat → Option (Int × Int)} {q q1 q2 : (Nat → Int) × (Nat → Int)} {t1 t2 : List Nat} (h : Stq S C L q q1 t1) (h' : Stq S C L q q2 t2) : q1 = q2 ∧ t1 = t2 := by
  obtain ⟨-, -, h⟩ := h
  obtain ⟨-, -, h'⟩ := h'
  rcases h with ⟨a1, a2, a3⟩ | ⟨a1, v, b, a2, a3, a4⟩
  · rcases h' with ⟨b1, b2, b3⟩ | ⟨b1, _⟩
    · exact ⟨by rw [a3, b3], by rw [a2, b2]⟩
    · exact absurd a1 b1
  · rcases h' with ⟨b1, _⟩ | ⟨b1, v', b', b2, b3, b4⟩
    · exact absurd b1 a1
    · rw [a2] at b2
      have e := Option.some.inj b2
      have e1 : v = v' := congrArg Prod.fst e
      have e2 : b = b' := congrArg Prod.snd e
      subst e1 e2
      exact ⟨by rw [a4, b4], by rw [a3, b3]⟩
def Ext (L L' : Nat → Option (Int × Int)) : Prop := ∀ s x, L s = some x → L' s = some x
theorem Stq.ext {S C : Mm} {L L' : Nat → Option (Int × Int)} {q q' : (Nat → Int) × (Nat → Int)} {t : List Nat} (h : Stq S C L q q' t) (hL : Ext L L') : Stq S C L' q q' t := by
  obtain ⟨h1, h2, h3⟩ := h
  refine ⟨h1, h2, ?_⟩
  rcases h3 with h3 | ⟨a1, v, b, a2, a3⟩
  · exact Or.inl h3
  · exact Or.inr ⟨a1, v, b, hL _ _ a2, a3⟩
theorem Rn.ext {S C : Mm} {L L' : Nat → Option (Int × Int)} (hL : Ext L L') : ∀ n q t q', Rn S C L n q t q' → Rn S C L' n q t q' := by
  intro n
  induction n with
  | zero => exact fun _ _ _ h => h
  | succ n ih =>
    intro q t q' h
    obtain ⟨q1, t1, t2, h1, h2, h3⟩ := h
    exact ⟨q1, t1, t2, h1.ext hL, h2, ih _ _ _ h3⟩
/-- no step leads on from there -/
def End (S C : Mm) (L : Nat → Option (Int × Int)) (q : (Nat → Int) × (Nat → Int)) : Prop := ∀ q' t, ¬ Stq S C L q q' t
theorem Rn_split {S C : Mm} {L : Nat → Option (Int × Int)} : ∀ n q t q1 N T q2, Rn S C L n q t q1 → Rn S C L N q T q2 → End S C L q2 → ∃ M t', N = n + M ∧ T = t ++ t' ∧ Rn S C L M q1 t' q2 := by
  intro n
  induction n with
  | zero =>
    intro q t q1 N T q2 h h' _
    obtain ⟨e1, e2⟩ := h
    subst e1 e2
    exact ⟨N, T, by omega, rfl, h'⟩
  | succ n ih =>
    intro q t q1 N T q2 h h' he
    obtain ⟨p, t1, t2, h1, h2, h3⟩ := h
    match N, h' with
    | 0, h' => 
      obtain ⟨e1, e2⟩ := h'
      subst e2
      exact absurd h1 (he _ _)
    | N + 1, h' =>
      obtain ⟨p', t1', t2', h1', h2', h3'⟩ := h'
      obtain ⟨e1, e2⟩ := Stq_det h1 h1'
      subst e1 e2
      obtain ⟨M, t', m1, m2, m3⟩ := ih _ _ _ _ _ _ h3 h3' he
      exact ⟨M, t', by omega, by rw [h2', h2, m2, List.append_assoc], m3⟩
