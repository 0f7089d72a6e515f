/-! what an attribute of a node is, as far as is known -/
def pm (S : Mm) (n a : Int) : Int := if S 12 a.toNat = 1 then S 32 n.toNat else n
def pt (S : Mm) (n a : Int) : Int := if S 12 a.toNat = 1 then S 33 n.toNat else -1
def prs (S : Mm) (n a : Int) : Int := rsv S (S 31 (pm S n a).toNat) a (pt S n a)
def spc (S : Mm) (L : Nat → Option (Int × Int)) (n a : Int) : List Nat × Option Int :=
  if S 12 a.toNat = 2 then gthL S L n (nls S a 0) 0
  else if pm S n a = -1 then ([], some (-1))
  else if prs S n a = -3 then ([], some (-3))
  else if prs S n a = -1 then (if S 12 a.toNat = 1 then look L (6 * pm S n a + a) else ([], some (-1)))
  else evo S L (pm S n a) (S 31 (pm S n a).toNat) (rsh S (S 31 (pm S n a).toNat) a (pt S n a)) (prs S n a).toNat 8 (rt1 S (prs S n a).toNat)
/-- how a frame begins -/
def Ini (S : Mm) (n a : Int) (q : (Nat → Int) × (Nat → Int)) : Prop :=
  q.1 0 = n ∧ q.1 1 = a ∧ i32 (q.1 7) ∧ (S 12 a.toNat = 2 → GAt S n a 0 (nls S a 0) q.1) ∧
  (S 12 a.toNat ≠ 2 → (pm S n a = -1 → q.1 9 = 1 ∧ q.1 8 = -1) ∧ (pm S n a ≠ -1 →
    (prs S n a = -3 → q.1 9 = 1 ∧ q.1 8 = -3) ∧ (prs S n a = -1 → S 12 a.toNat = 1 → q.1 9 = 0 ∧ q.1 5 = -1 ∧ q.1 2 = pm S n a) ∧ (prs S n a = -1 → S 12 a.toNat ≠ 1 → q.1 9 = 1 ∧ q.1 8 = -1) ∧
    (∀ e : Nat, prs S n a = e → q.1 9 = 0 ∧ q.1 5 = ((33 + 8 * e : Nat) : Int) ∧ q.1 2 = pm S n a ∧ q.1 3 = S 31 (pm S n a).toNat ∧ q.1 4 = (rsh S (S 31 (pm S n a).toNat) a (pt S n a) : Int) ∧ q.1 6 = 0)))
theorem sgl_val (P : Nat → Bool) : ∀ n, sgl P n = -1 ∨ sgl P n = -3 ∨ ∃ e : Nat, sgl P n = e ∧ e < n ∧ P e = true := by
  intro n
  induction n with
  | zero => exact Or.inl rfl
  | succ n ih =>
    simp only [sgl]
    by_cases c : P n = true
    · rw [if_pos c]
      by_cases c2 : sgl P n = -1
      · rw [if_pos c2]; exact Or.inr (Or.inr ⟨n, rfl, by omega, c⟩)
      · rw [if_neg c2]; exact Or.inr (Or.inl rfl)
    · rw [if_neg c]
      rcases ih with h | h | ⟨e, h1, h2, h3⟩
      · exact Or.inl h
      · exact Or.inr (Or.inl h)
      · exact Or.inr (Or.inr ⟨e, h1, by omega, h3⟩)
theorem rsv_val (S : Mm) (p a t : Int) : rsv S p a t = -1 ∨ rsv S p a t = -3 ∨ ∃ e : Nat, rsv S p a t = e ∧ (e : Int) < S 0 19 ∧ S 17 e = a ∧ S 16 e = shown S p (rsh S p a t) := by
  have key : ∀ h, sgh S p a t h = -1 ∨ sgh S p a t h = -3 ∨ ∃ e : Nat, sgh S p a t h = e ∧ (e : Int) < S 0 19 ∧ S 17 e = a ∧ S 16 e = shown S p h := by
    intro h
    unfold sgh
    by_cases c : shown S p h = -1
    · rw [if_pos c]; exact Or.inl rfl
    · rw [if_neg c]
      unfold sg
      rcases sgl_val (mt S (shown S p h) a (there S p h t)) (S 0 19).toNat with h1 | h1 | ⟨e, h1, h2, h3⟩
      · exact Or.inl h1
      · exact Or.inr (Or.inl h1)
      · exact Or.inr (Or.inr ⟨e, h1, by omega, (mt_iff.mp h3).2.1, (mt_iff.mp h3).1⟩)
  exact key _
theorem rsh_lt (S : Mm) (p a t : Int) : rsh S p a t < 4 := by unfold rsh; repeat' split
                                                              all_goals decide
theorem pm_ok {S : Mm} (hN : Okn S) {n a : Int} (hn : 0 ≤ n ∧ n < S 0 35) : pm S n a = -1 ∨ (0 ≤ pm S n a ∧ pm S n a < S 0 35) := by
  unfold pm
  split
  · have h := hN.2.2 n.toNat (by omega)
    by_cases c : n.toNat = 0
    · have := (h.2.2.2.2.2.1 c).1
      left; exact this
    · have := h.2.2.2.2.2.2.1 (by omega)
      right; omega
  · exact Or.inr hn
theorem f_run {S C : Mm} (hg : Okg S) (hO : Oke S) (hN : Okn S) (hE : CE C S) {L : Nat → Option (Int × Int)} (hL : ∀ s v b, L s = some (v, b) → -3 ≤ v ∧ v < 1000 + S 0 35) {n a : Int} (hn : 0 ≤ n ∧ n < S 0 35) (ha : 0 ≤ a ∧ a < S 0 12) {q : (Nat → Int) × (Nat → Int)} (hq : Ini S n a q) : ∃ N t q', N ≤ 7300 ∧ Rn S C L N q t q' ∧ Out S L n a (q.1 7) (spc S L n a) t q' := by
  have h35 := hN.1
  have h19 := hO.1
  obtain ⟨q0, q1, q7, qG, qE⟩ := hq
  unfold spc
  by_cases k2 : S 12 a.toNat = 2
  · rw [if_pos k2]
    obtain ⟨N, t, q', n1, n2, n3⟩ := g_run hg hO hN hE hL hn ha k2 (nls S a 0) 0 q (qG k2) q7 (by decide)
    have hlen := nls_len S a 0
    have hm : (S 0 35).toNat * (S 0 19).toNat ≤ 30 * 30 := Nat.mul_le_mul (by omega) (by omega)
    exact ⟨N, t, q', by omega, n2, n3⟩
  rw [if_neg k2]
  obtain ⟨e1, e2⟩ := qE k2
  have set0 : ∀ v : Int, (-3 ≤ v ∧ v < 1000 + S 0 35) → q.1 9 = 1 → q.1 8 = v → ∃ N t q', N ≤ 7300 ∧ Rn S C L N q t q' ∧ Out S L n a (q.1 7) ([], some v) t q' := fun v hv h9 h8 =>
    ⟨0, [], q, by decide, ⟨rfl, rfl⟩, q0, q1, rfl, Or.inl ⟨h9, by rw [h8], by rw [h8]; exact hv.1, by rw [h8]; exact hv.2⟩⟩
  by_cases c1 : pm S n a = -1
  · rw [if_pos c1]; exact set0 _ (by omega) (e1 c1).1 (e1 c1).2
  rw [if_neg c1]
  obtain ⟨f1, f2, f3, f4⟩ := e2 c1
  have hm := (pm_ok hN (a := a) hn).resolve_left c1
  by_cases c2 : prs S n a = -3
  · rw [if_pos c2]; exact set0 _ (by omega) (f1 c2).1 (f1 c2).2
  rw [if_neg c2]
  by_cases c3 : prs S n a = -1
  · rw [if_pos c3]
    by_cases k1 : S 12 a.toNat = 1
    · rw [if_pos k1]
      obtain ⟨g9, g5, g2⟩ := f2 c3 k1
      have hVF : VF S q := ⟨g9, q7, by rw [q0]; exact hn, by rw [q1]; exact ha, by rw [g2]; exact hm, Or.inl ⟨g5, by rw [q1]; exact k1⟩⟩
      have hVG : VG S q.1 := fun h => absurd (by rw [q1] at h; exact h) k2
      have hlk : lkQ S q = 6 * pm S n a + a := by unfold lkQ; rw [if_pos g5, g2, q1]
      have hne : lkQ S q ≠ -1 := by rw [hlk]; omega
      unfold look
      rw [← hlk]
      cases hl : L (lkQ S q).toNat with
      | none => exact ⟨0, [], q, by decide, ⟨rfl, rfl⟩, q0, q1, rfl, Or.inr ⟨hVF, hVG, hne, hl, rfl⟩⟩
      | some x =>
        obtain ⟨v, b⟩ := x
        refine ⟨1, [(lkQ S q).toNat], _, by decide, ⟨_, [(lkQ S q).toNat], [], ⟨hVF, hVG, Or.inr ⟨hne, v, b, hl, rfl, rfl⟩⟩, rfl, rfl, rfl⟩, ?_⟩
        have haf : af S C (se q.1 7 (jor (q.1 7) b), q.2) v = (stl (se q.1 7 (jor (q.1 7) b)) v, q.2) := by
          unfold af; simp only; rw [if_pos (by rw [se_ne _ _ (by decide)]; exact g5)]
        rw [haf]
        have hc : ∀ i, i ≠ 7 → i ≠ 8 → i ≠ 9 → stl (se q.1 7 (jor (q.1 7) b)) v i = q.1 i := fun i i7 i8 i9 => by unfold stl; rw [se_ne _ _ i9, se_ne _ _ i8, se_ne _ _ i7]
        have h8 : stl (se q.1 7 (jor (q.1 7) b)) v 8 = v := by unfold stl; rw [se_ne _ _ (by decide), se_at]
        refine ⟨by simp only; rw [hc 0 (by decide) (by decide) (by decide)]; exact q0, by simp only; rw [hc 1 (by decide) (by decide) (by decide)]; exact q1, ?_, Or.inl ⟨?_, ?_, ?_⟩⟩
        · unfold stl; simp only; rw [se_ne _ _ (by decide), se_ne _ _ (by decide), se_at]
          simp only [ob, List.foldl_cons, List.foldl_nil, hl, Option.elim]
        · unfold stl; simp only; exact se_at _ _ _
        · simp only; rw [h8]; rfl
        · simp only; rw [h8]; exact hL _ _ _ hl
    · rw [if_neg k1]; exact set0 _ (by omega) (f3 c3 k1).1 (f3 c3 k1).2
  rw [if_neg c3]
  rcases rsv_val S (S 31 (pm S n a).toNat) a (pt S n a) with h | h | ⟨e, h1, h2, h3, h4⟩
  · exact absurd h c3
  · exact absurd h c2
  have hpe : prs S n a = e := h1
  obtain ⟨g9, g5, g2, g3, g4, g6⟩ := f4 e hpe
  have hOk := hO.2.1 e h2
  have hE' := eqF_of hE hO h2
  have hlen : (stk (eK S e) (eN S e)).length = 1 := by
    have := hOk.2.2.2.2.2.2.1
    rw [h3, if_neg k2] at this
    exact this
  obtain ⟨r1, r2, r3⟩ := roots1 hE'.1 hlen
  have h8 := hE'.1.1
  have hF : Fx S n a (pm S n a) (rsh S (S 31 (pm S n a).toNat) a (pt S n a)) e q := ⟨g9, q7, q0, q1, g2, g3, g4, g5, fun h => absurd (by rw [q1] at h; exact h) k2⟩
  obtain ⟨A1, A2⟩ := x_expr (C := C) (L := L) (n := n) (a := a) (m := pm S n a) (h := rsh S (S 31 (pm S n a).toNat) a (pt S n a)) (k := e) hg hO hN hL hE' h2 (rsh_lt _ _ _ _) hn ha hm 8 (rt1 S e) r2 (by omega) q hF (by rw [g6, r3]; rfl)
  rw [hpe, Int.toNat_natCast]
  rw [r3] at A1 A2
  generalize evo S L (pm S n a) (S 31 (pm S n a).toNat) (rsh S (S 31 (pm S n a).toNat) a (pt S n a)) e 8 (rt1 S e) = r at A1 A2
  obtain ⟨t0, o0⟩ := r
  cases o0 with
  | none =>
    obtain ⟨N, t', q', n1, n2, n3, n4, n5, n6, n7, n8, n9⟩ := A2 rfl
    refine ⟨N, t', q', by omega, n2, by rw [n8 0 (by decide) (by decide)]; exact q0, by rw [n8 1 (by decide) (by decide)]; exact q1, n9, Or.inr ⟨n3, n4, n5, n6, ?_⟩⟩
    rw [show t0 = t' ++ [(lkQ S q').toNat] from n7]
  | some v =>
    obtain ⟨vb, N0, qq, n0, R0, S0, b0, -⟩ := A1 v rfl
    rw [clb_root hE' r1] at R0
    have hfin : fin_ S (v, (se qq.1 6 ((rt1 S e + 1 : Nat) : Int), qq.2)) = (stl (se qq.1 6 ((rt1 S e + 1 : Nat) : Int)) v, qq.2) := by
      unfold fin_ tkw
      simp only
      rw [if_neg (by omega), se_ne _ _ (by decide), S0 1 (by decide) (by decide), q1, if_pos (Or.inl k2)]
    rw [hfin] at R0
    have hc : ∀ i, i ≠ 6 → i ≠ 8 → i ≠ 9 → stl (se qq.1 6 ((rt1 S e + 1 : Nat) : Int)) v i = qq.1 i := fun i i6 i8 i9 => by unfold stl; rw [se_ne _ _ i9, se_ne _ _ i8, se_ne _ _ i6]
    have h8' : stl (se qq.1 6 ((rt1 S e + 1 : Nat) : Int)) v 8 = v := by unfold stl; rw [se_ne _ _ (by decide), se_at]
    refine ⟨N0, t0, _, by omega, R0, by simp only; rw [hc 0 (by decide) (by decide) (by decide), S0 0 (by decide) (by decide)]; exact q0, by simp only; rw [hc 1 (by decide) (by decide) (by decide), S0 1 (by decide) (by decide)]; exact q1, by simp only; rw [hc 7 (by decide) (by decide) (by decide)]; exact b0, Or.inl ⟨?_, ?_, ?_⟩⟩
    · unfold stl; simp only; exact se_at _ _ _
    · simp only; rw [h8']
    · simp only; rw [h8']; exact vb
-- stuck or settled: no step leads on
theorem Out.end_ {S C : Mm} {L : Nat → Option (Int × Int)} {n a b0 : Int} {sp : List Nat × Option Int} {t : List Nat} {q' : (Nat → Int) × (Nat → Int)} (h : Out S L n a b0 sp t q') : End S C L q' := by
  intro q2 t2 hs
  obtain ⟨v1, v2, v3⟩ := hs
  rcases h.2.2.2 with ⟨g1, _⟩ | ⟨g1, g2, g3, g4, g5⟩
  · have := v1.1; omega
  · rcases v3 with ⟨w1, _⟩ | ⟨w1, v, b, w2, _⟩
    · exact g3 w1
    · rw [g4] at w2; cases w2
