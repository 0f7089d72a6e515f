/-! the text, the tree, what is kept: what holds between calls -/
def Okt (S : Mm) : Prop := (0 ≤ S 0 33 ∧ S 0 33 ≤ 12) ∧ ∀ k : Nat, (k : Int) < S 0 33 → 97 ≤ S 29 k ∧ S 29 k ≤ 102
def NodeOk (S : Mm) (n : Nat) : Prop :=
  (0 ≤ S 30 n ∧ S 30 n < S 0 0) ∧ (0 ≤ S 31 n ∧ S 31 n < S 0 0) ∧ S 4 (S 31 n).toNat = S 4 (S 30 n).toNat ∧ S 6 (S 31 n).toNat = S 6 (S 30 n).toNat ∧ (0 ≤ S 35 n ∧ S 35 n ≤ 7) ∧
  (n = 0 → S 32 n = -1 ∧ S 33 n = 0) ∧
  (0 < n → 0 ≤ S 32 n ∧ S 32 n < n ∧ 0 ≤ S 33 n ∧ S 33 n < S 4 (S 30 (S 32 n).toNat).toNat ∧ S 34 (3 * S 32 n + S 33 n).toNat = n) ∧
  (∀ c : Nat, (c : Int) < S 4 (S 30 n).toNat → (n : Int) < S 34 (3 * n + c) ∧ S 34 (3 * n + c) < S 0 35 ∧ S 32 (S 34 (3 * n + c)).toNat = n ∧ S 33 (S 34 (3 * n + c)).toNat = c)
/-- nodes are numbered with all below them ahead of the next one -/
def PRo (S : Mm) : Prop := ∀ n q c : Nat, (n : Int) < S 0 35 → 0 < n → q < n → (c : Int) < S 4 (S 30 q).toNat → (n : Int) ≤ S 34 (3 * q + c) → (q : Int) < S 32 n ∨ ((q : Int) = S 32 n ∧ S 33 n ≤ (c : Int))
def Okn (S : Mm) : Prop := (0 ≤ S 0 35 ∧ S 0 35 ≤ 30) ∧ ((S 0 35 = 0 → S 0 36 = -1) ∧ PRo S) ∧ ∀ n : Nat, (n : Int) < S 0 35 → NodeOk S n
def CT (M S : Mm) : Prop := M 273 0 = S 0 33 ∧ ∀ k : Nat, (k : Int) < S 0 33 → M 274 k = S 29 k - 97
def CN (M S : Mm) : Prop := M 283 0 = S 0 35 ∧ (S 0 35 ≠ 0 → M 283 1 = S 0 36) ∧ ∀ n : Nat, (n : Int) < S 0 35 → M 284 n = S 32 n ∧ M 285 n = S 33 n ∧ M 286 n = S 30 n ∧ M 287 n = S 31 n ∧ M 289 n = S 35 n ∧ ∀ c : Nat, c < 3 → M 288 (3 * n + c) = if (c : Int) < S 4 (S 30 n).toNat then S 34 (3 * n + c) else -1
def CO (M : Mm) : Prop := M 310 11 = 0 ∧ ∀ s, s < 180 → M 313 s = 0
/-- the reference's own -/
def RP (M : Mm) : Prop := M 0 68 = 0 ∧ M 0 79 = 0 ∧ (∀ i, i < 720 → M 51 i = 0) ∧ ∀ n : Nat, (n : Int) < M 0 35 → (0 ≤ M 36 n ∧ M 36 n < 60) ∧ ∀ m : Nat, (m : Int) < M 0 35 → M 36 m = M 36 n → m = n
def bt (h : Int) (i : Nat) : Bool := h.toNat.testBit i
def Okb (S : Mm) (V H : Nat → Int) : Prop := ∀ n a : Nat, n < 30 → a < 6 → (0 ≤ H (6 * n + a) ∧ H (6 * n + a) < 2147483648) ∧ (H (6 * n + a) ≠ 0 → (n : Int) < S 0 35 ∧ (a : Int) < S 0 12 ∧ S 12 a ≠ 3 ∧ bt (H (6 * n + a)) n = true ∧
  (∀ i, bt (H (6 * n + a)) i = true → (i : Int) < S 0 35 ∨ i = 30) ∧ -3 ≤ V (6 * n + a) ∧ V (6 * n + a) < 1000 + S 0 35 ∧
  (1000 ≤ V (6 * n + a) → bt (H (6 * n + a)) (V (6 * n + a) - 1000).toNat = true ∨ (0 ≤ S 32 (V (6 * n + a) - 1000).toNat ∧ bt (H (6 * n + a)) (S 32 (V (6 * n + a) - 1000).toNat).toNat = true)))
def CK (M : Mm) (V H : Nat → Int) : Prop := ∀ s, s < 180 → M 301 s = H s ∧ (H s ≠ 0 → M 300 s = V s)
/-- a value of the reference for one of the class -/
def pv (M : Mm) (v : Int) : Int := if v < 1000 then v else 1000 + M 36 (v - 1000).toNat
/-- what hangs on nodes, by their places -/
def HR (M : Mm) (h L b : Int) : Prop := (0 ≤ L ∧ L < 1152921504606846976) ∧ (b = if bt h 30 then 1 else 0) ∧ ∀ q, bt L q = true ↔ ∃ n : Nat, (n : Int) < M 0 35 ∧ M 36 n = (q : Int) ∧ bt h n = true
def RB (M : Mm) (V H : Nat → Int) : Prop :=
  (∀ k, k < 360 → M 50 k = 0 ∨ M 50 k = 1) ∧
  (∀ n a : Nat, (n : Int) < M 0 35 → a < 6 → (M 50 (6 * (M 36 n).toNat + a) = 1 ↔ H (6 * n + a) ≠ 0) ∧ (H (6 * n + a) ≠ 0 → M 52 (6 * (M 36 n).toNat + a) = pv M (V (6 * n + a)) ∧ HR M (H (6 * n + a)) (M 53 (6 * (M 36 n).toNat + a)) (M 54 (6 * (M 36 n).toNat + a)))) ∧
  (∀ q a : Nat, q < 60 → a < 6 → (∀ n : Nat, (n : Int) < M 0 35 → M 36 n ≠ (q : Int)) → M 50 (6 * q + a) = 0)
def CR (RG : Mm → Nat → Int) (M S : Mm) : Prop := M 676 6 = 0 ∨ ∀ s : Nat, s < 180 → M 309 s = RG S s
def Pre (MC MR : Mm) : Prop := (Okg MR ∧ Okd MR ∧ Oke MR ∧ Okt MR ∧ Okn MR) ∧ (CG MC MR ∧ CD MC MR ∧ CE MC MR ∧ CT MC MR ∧ CN MC MR) ∧ CO MC ∧ (MC 299 0 = MR 0 67 ∧ i32 (MR 0 67)) ∧ RP MR
def Inv (RG : Mm → Nat → Int) (MC MR : Mm) (_ : Nat) : Prop := Pre MC MR ∧ CV MC MR ∧ CR RG MC MR ∧ ∃ V H, Okb MR V H ∧ CK MC V H ∧ RB MR V H
/-! what carries over -/
theorem Okg.of {S S' : Mm} (h : Okg S) (e0 : S' 0 0 = S 0 0) (e12 : S' 0 12 = S 0 12) (e : ∀ k, 1 ≤ k → k ≤ 12 → S' k = S k) : Okg S' := by
  unfold Okg at *
  unfold OkP at *
  have hn : nch S' = nch S := by
    funext p n
    induction n with
    | zero => rfl
    | succ n ih => simp only [nch]; rw [ih, e 3 (by decide) (by decide)]
  rw [e0, e12, hn, e 1 (by decide) (by decide), e 2 (by decide) (by decide), e 3 (by decide) (by decide), e 4 (by decide) (by decide), e 5 (by decide) (by decide), e 6 (by decide) (by decide), e 7 (by decide) (by decide), e 8 (by decide) (by decide), e 9 (by decide) (by decide), e 10 (by decide) (by decide), e 11 (by decide) (by decide), e 12 (by decide) (by decide)]
  exact h
theorem StepOk.of {S S' : Mm} {k a b : Int} (h : StepOk S k a b) (e12 : S 0 12 ≤ S' 0 12) : StepOk S' k a b := by
  unfold StepOk at *
  refine ⟨h.1, ?_, h.2.2⟩
  have := h.2.1
  split at this
  · rename_i c; rw [if_pos c]; omega
  · rename_i c; rw [if_neg c]; exact this
theorem Okd.of {S S' : Mm} (h : Okd S) (e12 : S 0 12 ≤ S' 0 12) (e14 : S' 0 14 = S 0 14) (e15 : S' 0 15 = S 0 15) (e : ∀ k, 13 ≤ k → k ≤ 15 → S' k = S k) : Okd S' := by
  unfold Okd at *
  rw [e14, e15, e 13 (by decide) (by decide), e 14 (by decide) (by decide), e 15 (by decide) (by decide)]
  exact ⟨h.1, fun k hk => ⟨(h.2.1 k hk).1.of e12, (h.2.1 k hk).2⟩, h.2.2⟩
theorem Oke.of {S S' : Mm} (h : Oke S) (e0 : S 0 0 ≤ S' 0 0) (e12 : S 0 12 ≤ S' 0 12) (e19 : S' 0 19 = S 0 19) (e : ∀ k, 16 ≤ k → k ≤ 27 → S' k = S k) (ek : ∀ a : Int, 0 ≤ a → a < S 0 12 → S' 12 a.toNat = S 12 a.toNat) (ec : ∀ p : Int, 0 ≤ p → p < S 0 0 → S' 4 p.toNat = S 4 p.toNat) : Oke S' := by
  refine ⟨by rw [e19]; exact h.1, fun k hk => ?_, by rw [e 27 (by decide) (by decide)]; exact h.2.2⟩
  rw [e19] at hk
  have := h.2.1 k hk
  obtain ⟨o1, o2, o3, o4, o5, o6, o7, o8, o9, o10⟩ := this
  have k1 := ek _ o2.1 o2.2
  have k2 := ec _ o1.1 o1.2
  unfold OkE eK eA eB eN at *
  rw [e 16 (by decide) (by decide), e 17 (by decide) (by decide), e 18 (by decide) (by decide), e 19 (by decide) (by decide), e 20 (by decide) (by decide), e 21 (by decide) (by decide), e 22 (by decide) (by decide), e 23 (by decide) (by decide), e 24 (by decide) (by decide), e 25 (by decide) (by decide), e 26 (by decide) (by decide), k1, k2]
  exact ⟨⟨o1.1, by omega⟩, ⟨o2.1, by omega⟩, o3, o4, o5, fun i hi => ⟨(o6 i hi).1.of e12, (o6 i hi).2⟩, o7, o8, o9, o10⟩
theorem Okt.of {S S' : Mm} (h : Okt S) (e33 : S' 0 33 = S 0 33) (e : S' 29 = S 29) : Okt S' := by
  unfold Okt at *; rw [e33, e]; exact h
theorem Okn.of {S S' : Mm} (h : Okn S) (e0 : S 0 0 ≤ S' 0 0) (e35 : S' 0 35 = S 0 35) (e36 : S' 0 36 = S 0 36) (e : ∀ k, 30 ≤ k → k ≤ 35 → S' k = S k) (ec : ∀ p : Int, 0 ≤ p → p < S 0 0 → S' 4 p.toNat = S 4 p.toNat ∧ S' 6 p.toNat = S 6 p.toNat) : Okn S' := by
  refine ⟨by rw [e35]; exact h.1, ⟨by rw [e35, e36]; exact h.2.1.1, fun n q c hn hn0 hq hc hl => ?_⟩, fun n hn => ?_⟩
  · rw [e35] at hn
    have hqn := (h.2.2 q (by omega)).1
    rw [e 30 (by decide) (by decide), (ec _ hqn.1 hqn.2).1] at hc
    rw [e 34 (by decide) (by decide)] at hl
    rw [e 32 (by decide) (by decide), e 33 (by decide) (by decide)]
    exact h.2.1.2 n q c hn hn0 hq hc hl
  rw [e35] at hn
  obtain ⟨o1, o2, o3, o4, o5, o6, o7, o8⟩ := h.2.2 n hn
  unfold NodeOk
  rw [e 30 (by decide) (by decide), e 31 (by decide) (by decide), e 32 (by decide) (by decide), e 33 (by decide) (by decide), e 34 (by decide) (by decide), e 35 (by decide) (by decide), e35, (ec _ o1.1 o1.2).1, (ec _ o1.1 o1.2).2, (ec _ o2.1 o2.2).1, (ec _ o2.1 o2.2).2]
  refine ⟨⟨o1.1, by omega⟩, ⟨o2.1, by omega⟩, o3, o4, o5, o6, fun hn0 => ?_, o8⟩
  have h7 := o7 hn0
  have hp := h.2.2 (S 32 n).toNat (by omega)
  rw [(ec _ hp.1.1 hp.1.2).1]
  exact h7
theorem CD.of {M M' S S' : Mm} (h : CD M S) (e14 : S' 0 14 = S 0 14) (e15 : S' 0 15 = S 0 15) (e : ∀ k, 13 ≤ k → k ≤ 15 → S' k = S k) (em : ∀ k, 14 ≤ k → k ≤ 21 → M' k = M k) : CD M' S' := by
  unfold CD CSt at *
  simp only [Nat.reduceAdd] at *
  rw [e14, e15, e 13 (by decide) (by decide), e 14 (by decide) (by decide), e 15 (by decide) (by decide), em 14 (by decide) (by decide), em 15 (by decide) (by decide), em 16 (by decide) (by decide), em 17 (by decide) (by decide), em 18 (by decide) (by decide), em 19 (by decide) (by decide), em 20 (by decide) (by decide), em 21 (by decide) (by decide)]
  exact h
theorem CE.of2 {M S S' : Mm} (h : CE M S) (e19 : S' 0 19 = S 0 19) (e : ∀ k, 16 ≤ k → k ≤ 27 → S' k = S k) : CE M S' := by
  unfold CE eK eA eB eN at *
  rw [e19, e 16 (by decide) (by decide), e 17 (by decide) (by decide), e 18 (by decide) (by decide), e 19 (by decide) (by decide), e 20 (by decide) (by decide), e 21 (by decide) (by decide), e 22 (by decide) (by decide), e 23 (by decide) (by decide), e 27 (by decide) (by decide)]
  exact h
theorem CT.of {M M' S S' : Mm} (h : CT M S) (e33 : S' 0 33 = S 0 33) (e : S' 29 = S 29) (em : ∀ k, 273 ≤ k → k ≤ 274 → M' k = M k) : CT M' S' := by
  unfold CT at *; rw [e33, e, em 273 (by decide) (by decide), em 274 (by decide) (by decide)]; exact h
theorem CN.of {M M' S S' : Mm} (h : CN M S) (hn : Okn S) (e35 : S' 0 35 = S 0 35) (e36 : S' 0 36 = S 0 36) (e : ∀ k, 30 ≤ k → k ≤ 35 → S' k = S k) (ec : ∀ p : Int, 0 ≤ p → p < S 0 0 → S' 4 p.toNat = S 4 p.toNat) (em : ∀ k, 283 ≤ k → k ≤ 289 → M' k = M k) : CN M' S' := by
  obtain ⟨h1, h2, h3⟩ := h
  refine ⟨by rw [em 283 (by decide) (by decide), e35]; exact h1, by rw [em 283 (by decide) (by decide), e35, e36]; exact h2, fun n hn0 => ?_⟩
  rw [e35] at hn0
  rw [em 284 (by decide) (by decide), em 285 (by decide) (by decide), em 286 (by decide) (by decide), em 287 (by decide) (by decide), em 288 (by decide) (by decide), em 289 (by decide) (by decide), e 30 (by decide) (by decide), e 31 (by decide) (by decide), e 32 (by decide) (by decide), e 33 (by decide) (by decide), e 34 (by decide) (by decide), e 35 (by decide) (by decide), ec _ (hn.2.2 n hn0).1.1 (hn.2.2 n hn0).1.2]
  exact h3 n hn0
theorem CO.of {M M' : Mm} (h : CO M) (em : ∀ k, k = 310 ∨ k = 313 → M' k = M k) : CO M' := by
  unfold CO at *; rw [em 310 (Or.inl rfl), em 313 (Or.inr rfl)]; exact h
theorem RP.of {M M' : Mm} (h : RP M) (e35 : M' 0 35 = M 0 35) (e68 : M' 0 68 = M 0 68) (e79 : M' 0 79 = M 0 79) (e51 : M' 51 = M 51) (e36 : M' 36 = M 36) : RP M' := by
  unfold RP at *; rw [e35, e68, e79, e51, e36]; exact h
theorem CV.of {M S S' : Mm} (h : CV M S) (e0 : S' 0 0 = S 0 0) (e12 : S' 0 12 = S 0 12) (e19 : S' 0 19 = S 0 19) (e : ∀ k, (1 ≤ k ∧ k ≤ 12) ∨ (16 ≤ k ∧ k ≤ 27) → S' k = S k) : CV M S' := by
  have h1 : shown S' = shown S := by
    funext p h
    induction h with
    | zero => rfl
    | succ h ih => simp only [shown]; rw [ih, e 8 (by decide)]
  have h2 : stand S' = stand S := by
    funext p h
    induction h with
    | zero => funext c; simp only [stand]; rw [e 4 (by decide)]
    | succ h ih => funext c; simp only [stand]; rw [ih, h1, e 4 (by decide), e 9 (by decide)]
  have h3 : mt S' = mt S := by unfold mt; rw [e 16 (by decide), e 17 (by decide), e 18 (by decide), e 19 (by decide), e 27 (by decide)]
  have h4 : sg S' = sg S := by unfold sg; rw [h3, e19]
  have h5 : gift S' = gift S := by unfold gift; rw [h3, e19]
  have h6 : sgh S' = sgh S := by unfold sgh there; rw [h1, h2, h4]
  have h7 : rsh S' = rsh S := by unfold rsh; rw [h6]
  have h8 : rsv S' = rsv S := by unfold rsv; rw [h6, h7]
  unfold CV CVw CSg CGi CRs at *
  rw [h1, h2, h3, h4, h5, h7, h8, e0, e12, e19, e 16 (by decide), e 17 (by decide)]
  exact h
theorem bt0 (i : Nat) : bt 0 i = false := by unfold bt; simp
/-- behind a change of the grammar all is found anew -/
theorem fin_grammar {RG : Mm → Nat → Int} {MC MR : Mm} (hp : Pre MC MR) (k : Nat) : Wp (f_X11_followGrammar MC) fun r => Inv RG r.2 (sr MR 50 fun i => if i < 360 then 0 else MR 50 i) k := by
  obtain ⟨⟨p1, p2, p3, p4, p5⟩, ⟨q1, q2, q3, q4, q5⟩, q6, q7, p6⟩ := hp
  refine Wp_mono (c_followGrammar p1 p3 q1 q3) ?_
  rintro ⟨v, M2⟩ ⟨h1, h2, h3, h4⟩
  simp only at h1 h2 h3 h4 ⊢
  have e : ∀ j, j ≠ 50 → (sr MR 50 fun i => if i < 360 then 0 else MR 50 i) j = MR j := fun j hj => sr_ne _ _ hj
  generalize hR : (sr MR 50 fun i => if i < 360 then 0 else MR 50 i) = MR'
  rw [hR] at e
  have e50 : ∀ i, i < 360 → MR' 50 i = 0 := fun i hi => by rw [← hR, sr_at, if_pos hi]
  refine ⟨⟨⟨?_, ?_, ?_, ?_, ?_⟩, ⟨?_, ?_, ?_, ?_, ?_⟩, ?_, ?_, ?_⟩, ?_, Or.inl h4, ⟨fun _ => 0, fun _ => 0, ?_, ?_, ?_⟩⟩
  · exact p1.of (by rw [e 0 (by decide)]) (by rw [e 0 (by decide)]) fun k k1 k2 => e k (by omega)
  · exact p2.of (by rw [e 0 (by decide)]; exact Int.le_refl _) (by rw [e 0 (by decide)]) (by rw [e 0 (by decide)]) fun k k1 k2 => e k (by omega)
  · exact p3.of (by rw [e 0 (by decide)]; exact Int.le_refl _) (by rw [e 0 (by decide)]; exact Int.le_refl _) (by rw [e 0 (by decide)]) (fun k k1 k2 => e k (by omega)) (fun a _ _ => by rw [e 12 (by decide)]) (fun a _ _ => by rw [e 4 (by decide)])
  · exact p4.of (by rw [e 0 (by decide)]) (e 29 (by decide))
  · exact p5.of (by rw [e 0 (by decide)]; exact Int.le_refl _) (by rw [e 0 (by decide)]) (by rw [e 0 (by decide)]) (fun k k1 k2 => e k (by omega)) (fun p _ _ => by rw [e 4 (by decide), e 6 (by decide)]; exact ⟨rfl, rfl⟩)
  · have := q1.of (M' := M2) fun k k1 k2 => h2 k (by omega) (by omega) (by omega) (by omega) (by omega)
    unfold CG at this ⊢
    rw [e 0 (by decide), e 1 (by decide), e 2 (by decide), e 3 (by decide), e 4 (by decide), e 5 (by decide), e 6 (by decide), e 7 (by decide), e 8 (by decide), e 9 (by decide), e 10 (by decide), e 11 (by decide), e 12 (by decide)]
    exact this
  · exact q2.of (by rw [e 0 (by decide)]) (by rw [e 0 (by decide)]) (fun k k1 k2 => e k (by omega)) fun k k1 k2 => h2 k (by omega) (by omega) (by omega) (by omega) (by omega)
  · exact (q3.of (M' := M2) (fun k k1 k2 k3 k4 => h2 k (by omega) (by omega) k4 (by omega) (by omega)) p3.1.2).of2 (by rw [e 0 (by decide)]) fun k k1 k2 => e k (by omega)
  · exact q4.of (by rw [e 0 (by decide)]) (e 29 (by decide)) fun k k1 k2 => h2 k (by omega) (by omega) (by omega) (by omega) (by omega)
  · exact q5.of p5 (by rw [e 0 (by decide)]) (by rw [e 0 (by decide)]) (fun k k1 k2 => e k (by omega)) (fun p _ _ => by rw [e 4 (by decide)]) fun k k1 k2 => h2 k (by omega) (by omega) (by omega) (by omega) (by omega)
  · exact q6.of fun k hk => h2 k (by omega) (by omega) (by omega) (by omega) (by omega)
  · rw [h2 299 (by decide) (by decide) (by decide) (by decide) (by decide), e 0 (by decide)]; exact q7
  · exact p6.of (by rw [e 0 (by decide)]) (by rw [e 0 (by decide)]) (by rw [e 0 (by decide)]) (e 51 (by decide)) (e 36 (by decide))
  · exact h1.of (by rw [e 0 (by decide)]) (by rw [e 0 (by decide)]) (by rw [e 0 (by decide)]) fun k hk => e k (by omega)
  · exact fun n a _ _ => ⟨by simp only; omega, fun h => absurd rfl h⟩
  · exact fun s hs => ⟨h3 s hs, fun h => absurd rfl h⟩
  · refine ⟨fun k hk => Or.inl (e50 k hk), fun n a hn ha => ⟨⟨fun h => ?_, fun h => absurd rfl h⟩, fun h => absurd rfl h⟩, fun q a hq ha _ => e50 _ (by omega)⟩
    rw [e 0 (by decide)] at hn
    have := (p6.2.2.2 n hn).1
    rw [e 36 (by decide), e50 _ (by omega)] at h
    omega
def RGok (RG : Mm → Nat → Int) : Prop := ∀ S S' : Mm, (∀ j, 1 ≤ j → j ≤ 35 → ¬ (13 ≤ j ∧ j ≤ 15 ∨ 28 ≤ j ∧ j ≤ 29) → S' j = S j) → (∀ i, i = 0 ∨ i = 12 ∨ i = 19 ∨ i = 35 → S' 0 i = S 0 i) → RG S' = RG S
theorem Inv.of {RG : Mm → Nat → Int} {MC MR MC' MR' : Mm} {k : Nat} (hRG : RGok RG) (h : Inv RG MC MR k) (k' : Nat)
    (er : ∀ j, (1 ≤ j ∧ j ≤ 36) ∨ (50 ≤ j ∧ j ≤ 54) → MR' j = MR j) (es : ∀ i, i = 0 ∨ i = 12 ∨ i = 14 ∨ i = 15 ∨ i = 19 ∨ i = 33 ∨ i = 35 ∨ i = 36 ∨ i = 67 ∨ i = 68 ∨ i = 79 → MR' 0 i = MR 0 i)
    (ec : ∀ j, j ≤ 272 ∨ j = 274 ∨ (283 ≤ j ∧ j ≤ 289) ∨ (299 ≤ j ∧ j ≤ 301) ∨ j = 309 ∨ j = 313 ∨ j = 676 → MC' j = MC j) (e273 : MC' 273 0 = MC 273 0) (e310 : MC' 310 11 = MC 310 11) : Inv RG MC' MR' k' := by
  obtain ⟨⟨⟨p1, p2, p3, p4, p5⟩, ⟨q1, q2, q3, q4, q5⟩, q6, q7, p6⟩, hV, hR, V, H, b1, b2, b3⟩ := h
  refine ⟨⟨⟨?_, ?_, ?_, ?_, ?_⟩, ⟨?_, ?_, ?_, ?_, ?_⟩, ?_, ?_, ?_⟩, ?_, ?_, ⟨V, H, ?_, ?_, ?_⟩⟩
  · exact p1.of (es 0 (by simp)) (es 12 (by simp)) fun k k1 k2 => er k (by omega)
  · exact p2.of (by rw [es 12 (by simp)]; exact Int.le_refl _) (es 14 (by simp)) (es 15 (by simp)) fun k k1 k2 => er k (by omega)
  · exact p3.of (by rw [es 0 (by simp)]; exact Int.le_refl _) (by rw [es 12 (by simp)]; exact Int.le_refl _) (es 19 (by simp)) (fun k k1 k2 => er k (by omega)) (fun a _ _ => by rw [er 12 (by decide)]) (fun a _ _ => by rw [er 4 (by decide)])
  · exact p4.of (es 33 (by simp)) (er 29 (by decide))
  · exact p5.of (by rw [es 0 (by simp)]; exact Int.le_refl _) (es 35 (by simp)) (es 36 (by simp)) (fun k k1 k2 => er k (by omega)) (fun p _ _ => by rw [er 4 (by decide), er 6 (by decide)]; exact ⟨rfl, rfl⟩)
  · have := q1.of (M' := MC') fun k k1 k2 => ec k (by omega)
    unfold CG at this ⊢
    rw [es 0 (by simp), es 12 (by simp), er 1 (by decide), er 2 (by decide), er 3 (by decide), er 4 (by decide), er 5 (by decide), er 6 (by decide), er 7 (by decide), er 8 (by decide), er 9 (by decide), er 10 (by decide), er 11 (by decide), er 12 (by decide)]
    exact this
  · exact q2.of (es 14 (by simp)) (es 15 (by simp)) (fun k k1 k2 => er k (by omega)) fun k k1 k2 => ec k (by omega)
  · exact (q3.of (M' := MC') (fun k k1 k2 k3 k4 => ec k (by omega)) p3.1.2).of2 (es 19 (by simp)) fun k k1 k2 => er k (by omega)
  · unfold CT at q4 ⊢
    rw [es 33 (by simp), er 29 (by decide), e273, ec 274 (by simp)]
    exact q4
  · exact q5.of p5 (es 35 (by simp)) (es 36 (by simp)) (fun k k1 k2 => er k (by omega)) (fun p _ _ => by rw [er 4 (by decide)]) fun k k1 k2 => ec k (by omega)
  · unfold CO at q6 ⊢
    rw [e310, ec 313 (by simp)]; exact q6
  · rw [ec 299 (by simp), es 67 (by simp)]; exact q7
  · exact p6.of (es 35 (by simp)) (es 68 (by simp)) (es 79 (by simp)) (er 51 (by decide)) (er 36 (by decide))
  · have hV' : CV MC' MR := by
      unfold CV CVw CSg CGi CRs at hV ⊢
      rw [ec 23 (by decide), ec 24 (by decide), ec 28 (by decide), ec 29 (by decide), ec 30 (by decide), ec 31 (by decide), ec 32 (by decide)]
      exact hV
    exact hV'.of (es 0 (by simp)) (es 12 (by simp)) (es 19 (by simp)) fun k hk => er k (by omega)
  · unfold CR at hR ⊢
    rw [hRG MR MR' (fun j j1 j2 _ => er j (by omega)) (fun i hi => es i (by omega)), ec 676 (by simp), ec 309 (by simp)]
    exact hR
  · unfold Okb at b1 ⊢
    rw [es 35 (by simp), es 12 (by simp), er 12 (by decide), er 32 (by decide)]; exact b1
  · unfold CK at b2 ⊢
    rw [ec 300 (by simp), ec 301 (by simp)]; exact b2
  · unfold RB pv HR at b3 ⊢
    rw [es 35 (by simp), er 36 (by decide), er 50 (by decide), er 52 (by decide), er 53 (by decide), er 54 (by decide)]
    exact b3
theorem Inv.thr {RG : Mm → Nat → Int} {MC MR : Mm} {k : Nat} (hRG : RGok RG) (h : Inv RG MC MR k) (k' : Nat) (c : Int) : Inv RG MC (up MR 0 87 c) k' :=
  h.of hRG k' (fun j hj => up_ne _ _ _ (by omega)) (fun i hi => by unfold up; rw [if_neg (by omega)]) (fun _ _ => rfl) rfl rfl
/-! the reference's small methods -/
theorem r_fails (a : Int) (M : Mm) : f_X12_fails a M = some (if a ≤ 0 then 0 else 1, up M 0 87 a) := by
  unfold f_X12_fails Lt; grind
theorem r_isIn (a b c : Int) (M : Mm) : f_X12_isIn a b c M = some (if b ≤ a ∧ a ≤ c then 1 else 0, M) := by
  unfold f_X12_isIn Lt; grind
theorem r_isProduction {a : Int} {M : Mm} (h : 0 ≤ M 0 0 ∧ M 0 0 ≤ 10) : f_X12_isProduction a M = some (if 0 ≤ a ∧ a < M 0 0 then 1 else 0, M) := by
  simp only [f_X12_isProduction, LtE, r_isIn, ClS]
  rw [wrE (by omega) (by omega)]; grind
theorem r_isAttribute {a : Int} {M : Mm} (h : 0 ≤ M 0 12 ∧ M 0 12 ≤ 6) : f_X12_isAttribute a M = some (if 0 ≤ a ∧ a < M 0 12 then 1 else 0, M) := by
  simp only [f_X12_isAttribute, LtE, r_isIn, ClS]
  rw [wrE (by omega) (by omega)]; grind
theorem r_isNode {a : Int} {M : Mm} (h : 0 ≤ M 0 35 ∧ M 0 35 ≤ 30) : f_X12_isNode a M = some (if 0 ≤ a ∧ a < M 0 35 then 1 else 0, M) := by
  simp only [f_X12_isNode, LtE, r_isIn, ClS]
  rw [wrE (by omega) (by omega)]; grind
theorem r_isSymbol (a : Int) (M : Mm) : f_X12_isSymbol a M = some (if -1 ≤ a ∧ a ≤ 9 then 1 else 0, M) := by
  simp only [f_X12_isSymbol, r_isIn, ClS]
theorem r_dropsAll (M : Mm) : f_X12_dropsAll M = some (0, sr M 50 fun i => if i < 360 then 0 else M 50 i) := by
  unfold f_X12_dropsAll Lt
  refine Lp_for 360 (fun i => ((i : Int), sr M 50 fun j => if j < i then 0 else M 50 j)) (fun rc i hi => ?_) (fun rc => ?_) (FU_lt (by omega)) ?_
  · simp only [f_X12_dropsAll_L2_9]
    rw [if_neg (by omega), gdE (by omega), LtE, LtE, wrE (by omega) (by omega), up_sr, sr_sr]
    refine congrArg rc (Prod.ext rfl (congrArg (sr M 50) (funext fun j => ?_)))
    rw [sr_at]
    simp only [Int.toNat_natCast]
    by_cases h : j = i <;> grind
  · simp only [f_X12_dropsAll_L2_9]
    rw [if_pos (by omega)]
  · simp [sr_self]
theorem r_nth (k a b c : Int) (M : Mm) : f_X12_nth k a b c M = some (if k = 0 then a else if k = 1 then b else c, M) := by
  unfold f_X12_nth Lt; grind
theorem tkn_le (k : Int) : tkn k ≤ 3 := by unfold tkn; repeat' split
                                           all_goals decide
theorem r_taken (k : Int) (M : Mm) : f_X12_taken k M = some ((tkn k : Int), M) := by
  simp only [f_X12_taken, LtE, r_isIn, ClS]
  unfold tkn; grind
theorem r_isOfAttribute (k : Int) (M : Mm) : f_X12_isOfAttribute k M = some (if k = 1 ∨ k = 2 ∨ k = 7 then 1 else 0, M) := by
  unfold f_X12_isOfAttribute Lt; grind
theorem c_operandsOf (k : Int) (M : Mm) : f_X11_operandsOf k M = some ((tkn k : Int), M) := by
  unfold f_X11_operandsOf Lt tkn; grind
theorem sr_up {M : Mm} {k : Nat} {f : Nat → Int} : sr M k f k = f := sr_at _ _ _
/-! attribute -/
theorem fin_op {RG : Mm → Nat → Int} {C1 M1 : Mm} {v : Int} {c : Rx} {o : Rs} {P : Int × Int × Mm → Int × Mm → Prop} (k : Nat)
    (hc : c = Cl (f_X11_followGrammar C1) fun _ M9 => some (0, v, M9)) (ho : o = some (v, sr M1 50 fun i => if i < 360 then 0 else M1 50 i)) (hp : Pre C1 M1)
    (hP : ∀ M2, Inv RG M2 (sr M1 50 fun i => if i < 360 then 0 else M1 50 i) k → P (0, v, M2) (v, sr M1 50 fun i => if i < 360 then 0 else M1 50 i)) : ∃ r q, c = some r ∧ o = some q ∧ P r q := by
  obtain ⟨r, hr, hI⟩ := fin_grammar (RG := RG) hp k
  rw [hr] at hc
  exact ⟨_, _, hc, ho, hP _ hI⟩
theorem s_attribute {RG : Mm → Nat → Int} (hRG : RGok RG) : S_attribute (Inv RG) := by
  intro MC MR k a1 h1 hI hk
  obtain ⟨hp, hV, hR, hB⟩ := id hI
  obtain ⟨⟨p1, p2, p3, p4, p5⟩, ⟨q1, q2, q3, q4, q5⟩, q6, q7, p6⟩ := id hp
  have hA := p1.2.1
  by_cases c1 : 0 ≤ a1 ∧ a1 ≤ 3
  · by_cases c2 : MR 0 12 = 6
    · refine ⟨(3, 0, MC), (0, up MR 0 87 2), ?_, ?_, by simp, by simp [up], by simp, hI.thr hRG _ _⟩
      · unfold f_X11_attribute
        simp only [LtE]
        rw [if_neg (by omega), if_pos (by omega), q1.2.1, if_neg (by omega)]
      · unfold f_X12_attribute
        simp [LtE, r_isIn, ClS, r_fails, c1, c2]
    · generalize hM1 : up (up (up MR 0 87 0) 12 (MR 0 12).toNat a1) 0 12 (MR 0 12 + 1) = M1
      generalize hC1 : up (up MC 1 1 (MR 0 12 + 1)) 13 (MR 0 12).toNat a1 = C1
      have e0 : ∀ i, i ≠ 87 → i ≠ 12 → M1 0 i = MR 0 i := fun i i1 i2 => by rw [← hM1]; simp [up, i1, i2]
      have e012 : M1 0 12 = MR 0 12 + 1 := by rw [← hM1]; simp [up]
      have e12 : ∀ i, M1 12 i = if i = (MR 0 12).toNat then a1 else MR 12 i := fun i => by rw [← hM1]; simp [up]
      have er : ∀ j, j ≠ 0 → j ≠ 12 → M1 j = MR j := fun j j1 j2 => by rw [← hM1, up_ne _ _ _ j1, up_ne _ _ _ j2, up_ne _ _ _ j1]
      have f1 : ∀ j, j ≠ 1 → j ≠ 13 → C1 j = MC j := fun j j1 j2 => by rw [← hC1, up_ne _ _ _ j2, up_ne _ _ _ j1]
      have f10 : C1 1 0 = MC 1 0 := by rw [← hC1]; simp [up]
      have f11 : C1 1 1 = MR 0 12 + 1 := by rw [← hC1]; simp [up]
      have f13 : ∀ i, C1 13 i = if i = (MR 0 12).toNat then a1 else MC 13 i := fun i => by rw [← hC1]; simp [up]
      refine fin_op (RG := RG) (C1 := C1) (M1 := M1) (v := MR 0 12) (k + 1) ?_ ?_ ⟨⟨?_, ?_, ?_, ?_, ?_⟩, ⟨?_, ?_, ?_, ?_, ?_⟩, ?_, ?_, ?_⟩ ?_
      · unfold f_X11_attribute f_X5_addAttribute
        simp only [LtE]
        rw [if_neg (by omega), if_pos (by omega), q1.2.1, if_pos (by omega), wrE (by omega) (by omega), c_setEntry_in 6 alenC_13 (by omega) (by omega), ClS, ClS, hC1]
      · unfold f_X12_attribute
        have : (up MR 0 87 0) 0 12 = MR 0 12 := by simp [up]
        simp only [LtE, r_isIn, ClS, r_fails]
        rw [if_pos c1, if_pos (by decide), if_pos c2, if_pos (by decide), this, gdE (by omega)]
        have : (up (up MR 0 87 0) 12 (MR 0 12).toNat a1) 0 12 = MR 0 12 := by simp [up]
        rw [this, wrE (by omega) (by omega), hM1, r_dropsAll, ClS, sr_ne _ _ (by decide), e012, wrE (by omega) (by omega), show MR 0 12 + 1 - 1 = MR 0 12 by omega]
      · obtain ⟨o1, o2, o3, o4, o5⟩ := p1
        have hn : nch M1 = nch MR := by
          funext p n
          induction n with
          | zero => rfl
          | succ n ih => simp only [nch]; rw [ih, er 3 (by decide) (by decide)]
        unfold Okg OkP
        rw [e0 0 (by decide) (by decide), e012, hn, er 1 (by decide) (by decide), er 2 (by decide) (by decide), er 3 (by decide) (by decide), er 4 (by decide) (by decide), er 5 (by decide) (by decide), er 6 (by decide) (by decide), er 7 (by decide) (by decide), er 8 (by decide) (by decide), er 9 (by decide) (by decide), er 10 (by decide) (by decide), er 11 (by decide) (by decide)]
        refine ⟨o1, by omega, fun a a0 a1' => ?_, fun p p0 p1 => ?_, o5⟩
        · rw [e12]
          split
          · exact c1
          · exact o3 a a0 (by omega)
        · have := o4 p p0 p1
          unfold OkP at this
          obtain ⟨w1, w2, w3, w4, w5, w6, w7, w8, w9, w10⟩ := this
          refine ⟨w1, w2, w3, w4, w5, w6, w7, w8, w9, ?_⟩
          rcases w10 with w | w
          · exact Or.inl w
          · exact Or.inr ⟨w.1, w.2.1, w.2.2.1, w.2.2.2.1, w.2.2.2.2.1, by omega⟩
      · exact p2.of (by rw [e012]; omega) (e0 14 (by decide) (by decide)) (e0 15 (by decide) (by decide)) fun k k1 k2 => er k (by omega) (by omega)
      · exact p3.of (by rw [e0 0 (by decide) (by decide)]; exact Int.le_refl _) (by rw [e012]; omega) (e0 19 (by decide) (by decide)) (fun k k1 k2 => er k (by omega) (by omega)) (fun a a0 a1' => by rw [e12, if_neg (by omega)]) (fun a _ _ => by rw [er 4 (by decide) (by decide)])
      · exact p4.of (e0 33 (by decide) (by decide)) (er 29 (by decide) (by decide))
      · exact p5.of (by rw [e0 0 (by decide) (by decide)]; exact Int.le_refl _) (e0 35 (by decide) (by decide)) (e0 36 (by decide) (by decide)) (fun k k1 k2 => er k (by omega) (by omega)) (fun p _ _ => by rw [er 4 (by decide) (by decide), er 6 (by decide) (by decide)]; exact ⟨rfl, rfl⟩)
      · unfold CG at q1 ⊢
        rw [f10, f11, e0 0 (by decide) (by decide), e012, er 1 (by decide) (by decide), er 2 (by decide) (by decide), er 3 (by decide) (by decide), er 4 (by decide) (by decide), er 5 (by decide) (by decide), er 6 (by decide) (by decide), er 7 (by decide) (by decide), er 8 (by decide) (by decide), er 9 (by decide) (by decide), er 10 (by decide) (by decide), er 11 (by decide) (by decide), f1 2 (by decide) (by decide), f1 3 (by decide) (by decide), f1 4 (by decide) (by decide), f1 5 (by decide) (by decide), f1 6 (by decide) (by decide), f1 7 (by decide) (by decide), f1 8 (by decide) (by decide), f1 9 (by decide) (by decide), f1 10 (by decide) (by decide), f1 11 (by decide) (by decide), f1 12 (by decide) (by decide)]
        refine ⟨q1.1, rfl, fun a a0 a1' => ?_, q1.2.2.2⟩
        rw [f13, e12]
        split
        · rfl
        · exact q1.2.2.1 a a0 (by omega)
      · exact q2.of (e0 14 (by decide) (by decide)) (e0 15 (by decide) (by decide)) (fun k k1 k2 => er k (by omega) (by omega)) fun k k1 k2 => f1 k (by omega) (by omega)
      · exact (q3.of (M' := C1) (fun k k1 k2 k3 k4 => f1 k (by omega) (by omega)) p3.1.2).of2 (e0 19 (by decide) (by decide)) fun k k1 k2 => er k (by omega) (by omega)
      · exact q4.of (e0 33 (by decide) (by decide)) (er 29 (by decide) (by decide)) fun k k1 k2 => f1 k (by omega) (by omega)
      · exact q5.of p5 (e0 35 (by decide) (by decide)) (e0 36 (by decide) (by decide)) (fun k k1 k2 => er k (by omega) (by omega)) (fun p _ _ => by rw [er 4 (by decide) (by decide)]) fun k k1 k2 => f1 k (by omega) (by omega)
      · exact q6.of fun k hk => f1 k (by omega) (by omega)
      · rw [f1 299 (by decide) (by decide), e0 67 (by decide) (by decide)]; exact q7
      · exact p6.of (e0 35 (by decide) (by decide)) (e0 68 (by decide) (by decide)) (e0 79 (by decide) (by decide)) (er 51 (by decide) (by decide)) (er 36 (by decide) (by decide))
      · intro M2 h2
        refine ⟨Or.inl rfl, ?_, fun _ => rfl, h2⟩
        simp only
        rw [sr_ne _ _ (by decide), ← hM1]
        simp [up]
  · refine ⟨(2, 0, MC), (0, up MR 0 87 1), ?_, ?_, by simp, by simp [up], by simp, hI.thr hRG _ _⟩
    · unfold f_X11_attribute
      simp only [LtE]
      by_cases c2 : a1 < 0
      · rw [if_pos c2]
      · rw [if_neg c2, if_neg (by omega)]
    · unfold f_X12_attribute
      simp [LtE, r_isIn, ClS, r_fails, c1]
theorem Pre.gram {MC MR C1 M1 : Mm} (h : Pre MC MR) (hg1 : Okg M1) (hc1 : CG C1 M1) (e0 : MR 0 0 ≤ M1 0 0) (e12 : MR 0 12 ≤ M1 0 12) (es : ∀ i, i ≠ 87 → i ≠ 0 → i ≠ 12 → M1 0 i = MR 0 i) (er : ∀ j, 13 ≤ j → M1 j = MR j) (ek : ∀ a : Int, 0 ≤ a → a < MR 0 12 → M1 12 a.toNat = MR 12 a.toNat) (ec : ∀ p : Int, 0 ≤ p → p < MR 0 0 → M1 4 p.toNat = MR 4 p.toNat ∧ M1 6 p.toNat = MR 6 p.toNat) (em : ∀ j, 14 ≤ j → C1 j = MC j) : Pre C1 M1 := by
  obtain ⟨⟨p1, p2, p3, p4, p5⟩, ⟨q1, q2, q3, q4, q5⟩, q6, q7, p6⟩ := h
  refine ⟨⟨hg1, ?_, ?_, ?_, ?_⟩, ⟨hc1, ?_, ?_, ?_, ?_⟩, ?_, ?_, ?_⟩
  · exact p2.of e12 (es 14 (by decide) (by decide) (by decide)) (es 15 (by decide) (by decide) (by decide)) fun k k1 k2 => er k (by omega)
  · exact p3.of e0 e12 (es 19 (by decide) (by decide) (by decide)) (fun k k1 k2 => er k (by omega)) ek (fun a a0 a1 => (ec a a0 a1).1)
  · exact p4.of (es 33 (by decide) (by decide) (by decide)) (er 29 (by decide))
  · exact p5.of e0 (es 35 (by decide) (by decide) (by decide)) (es 36 (by decide) (by decide) (by decide)) (fun k k1 k2 => er k (by omega)) ec
  · exact q2.of (es 14 (by decide) (by decide) (by decide)) (es 15 (by decide) (by decide) (by decide)) (fun k k1 k2 => er k (by omega)) fun k k1 k2 => em k (by omega)
  · exact (q3.of (M' := C1) (fun k k1 k2 k3 k4 => em k (by omega)) p3.1.2).of2 (es 19 (by decide) (by decide) (by decide)) fun k k1 k2 => er k (by omega)
  · exact q4.of (es 33 (by decide) (by decide) (by decide)) (er 29 (by decide)) fun k k1 k2 => em k (by omega)
  · exact q5.of p5 (es 35 (by decide) (by decide) (by decide)) (es 36 (by decide) (by decide) (by decide)) (fun k k1 k2 => er k (by omega)) (fun p p0 p1 => (ec p p0 p1).1) fun k k1 k2 => em k (by omega)
  · exact q6.of fun k hk => em k (by omega)
  · rw [em 299 (by decide), es 67 (by decide) (by decide) (by decide)]; exact q7
  · exact p6.of (es 35 (by decide) (by decide) (by decide)) (es 68 (by decide) (by decide) (by decide)) (es 79 (by decide) (by decide) (by decide)) (er 51 (by decide)) (er 36 (by decide))
/-! forward -/
section
variable (S : Mm) (p o : Int)
abbrev fwB (k v : Int) : Prop := (o ≠ -1 ∧ k < S 4 o.toNat) → 0 ≤ v ∧ v < S 4 p.toNat
abbrev fwG (k v : Int) : Prop := ((o ≠ -1 ∧ k < S 4 o.toNat) → S 5 (3 * o + k).toNat = S 5 (3 * p + v).toNat) ∧ (¬ (o ≠ -1 ∧ k < S 4 o.toNat) → v = 0)
end
theorem c_standsByChild {M S : Mm} (hg : Okg S) (hM : CG M S) {p o k v : Int} (hp : 0 ≤ p ∧ p < S 0 0) (ho : o = -1 ∨ (0 ≤ o ∧ o < S 0 0)) (hk : 0 ≤ k) : f_X11_standsByChild p o k v M = some (if fwB S p o k v then 1 else 0, M) := by
  unfold f_X11_standsByChild fwB
  have hc : f_X5_childCountOf o M = some (if o = -1 then 0 else S 4 o.toNat, M) := by
    rcases ho with e | e
    · rw [if_pos e, c_childCountOf, if_neg (by omega)]
    · rw [if_neg (by omega), g_childCount hM hg e]
  simp only [LtE]
  rw [hc, ClS, g_childCount hM hg hp, ClS]
  rcases ho with e | e
  · rw [if_pos e]; simp [e, hk]
  · have e2 : ¬ o = -1 := by omega
    rw [if_neg (c := o = -1) e2]
    by_cases c : S 4 o.toNat ≤ k
    · rw [if_pos c, if_pos (fun h => by omega)]
    · rw [if_neg c]
      by_cases c2 : 0 ≤ v ∧ v < S 4 p.toNat
      · rw [if_neg (by omega), if_neg (by omega), if_pos (fun _ => c2)]
      · rw [if_neg (c := (o ≠ -1 ∧ k < S 4 o.toNat) → _) (fun h => c2 (h ⟨e2, by omega⟩))]
        grind
theorem c_standsRightly {M S : Mm} (hg : Okg S) (hM : CG M S) {p o k v : Int} (hp : 0 ≤ p ∧ p < S 0 0) (ho : o = -1 ∨ (0 ≤ o ∧ o < S 0 0)) (hk : 0 ≤ k ∧ k < 3) (hB : fwB S p o k v) : f_X11_standsRightly p o k v M = some (if fwG S p o k v then 1 else 0, M) := by
  unfold f_X11_standsRightly fwG
  have hc : f_X5_childCountOf o M = some (if o = -1 then 0 else S 4 o.toNat, M) := by
    rcases ho with e | e
    · rw [if_pos e, c_childCountOf, if_neg (by omega)]
    · rw [if_neg (by omega), g_childCount hM hg e]
  simp only [LtE]
  rw [hc, ClS]
  by_cases c : o ≠ -1 ∧ k < S 4 o.toNat
  · rw [if_neg c.1, if_pos c.2, g_childHead hM hg hp (hB c), ClS, g_childHead hM hg (by omega) ⟨hk.1, c.2⟩, ClS]
    grind
  · have : ¬ k < (if o = -1 then 0 else S 4 o.toNat) := by
      rcases ho with e | e
      · rw [if_pos e]; omega
      · rw [if_neg (by omega)]; intro h; exact c ⟨by omega, h⟩
    rw [if_neg this]
    grind
theorem r_fwStep {M : Mm} (hg : Okg M) {p o a b c : Int} (hp : 0 ≤ p ∧ p < M 0 0) (ho : o = -1 ∨ (0 ≤ o ∧ o < M 0 0)) {J : Int → Int → Mm → Rs} {rc : Int × Int × Int × Mm → Rs} {r k : Int} (hr : r = 0 ∨ r = 1) (hk : 0 ≤ k ∧ k < 3) {v : Int} (hv : v = if k = 0 then a else if k = 1 then b else c) :
    f_X12_forward_L68_91 p o a b c J rc (1, r, k, M) = rc (if fwB M p o k v then 1 else 0, if r = 1 ∧ fwB M p o k v ∧ fwG M p o k v then 1 else 0, k + 1, M) := by
  have hP := hg.1
  simp only [f_X12_forward_L68_91, LtE, r_nth, ClS, ← hv]
  rw [if_neg (by omega), if_neg (by decide), wrE (by omega) (by omega)]
  have hcp := chl_le hg hp
  rcases ho with e | e
  · rw [if_pos e]
    have hB : fwB M p o k v := fun h => absurd e h.1
    have hG : fwG M p o k v ↔ v = 0 := ⟨fun h => h.2 fun q => q.1 e, fun h => ⟨fun q => absurd e q.1, fun _ => h⟩⟩
    rw [if_pos hB]
    rcases hr with e1 | e1
    · rw [if_pos e1, if_neg (by omega)]
    · rw [if_neg (by omega)]
      by_cases h : v = 0
      · rw [if_neg (by simpa using h), if_pos ⟨e1, hB, hG.mpr h⟩]
      · rw [if_pos h, if_neg (fun q => h (hG.mp q.2.2))]
  · have e2 : ¬ o = -1 := by omega
    have hco := chl_le hg e
    rw [if_neg e2, gdE (by omega)]
    by_cases c1 : M 4 o.toNat ≤ k
    · rw [if_pos c1]
      have hB : fwB M p o k v := fun h => by omega
      have hG : fwG M p o k v ↔ v = 0 := ⟨fun h => h.2 fun q => by omega, fun h => ⟨fun q => by omega, fun _ => h⟩⟩
      rw [if_pos hB]
      rcases hr with e1 | e1
      · rw [if_pos e1, if_neg (by omega)]
      · rw [if_neg (by omega)]
        by_cases h : v = 0
        · rw [if_neg (by simpa using h), if_pos ⟨e1, hB, hG.mpr h⟩]
        · rw [if_pos h, if_neg (fun q => h (hG.mp q.2.2))]
    · rw [if_neg c1, gdE (by omega), wrE (by omega) (by omega), r_isIn, ClS]
      have hB : fwB M p o k v ↔ 0 ≤ v ∧ v < M 4 p.toNat := ⟨fun h => h ⟨e2, by omega⟩, fun h _ => h⟩
      have hG : fwG M p o k v ↔ M 5 (3 * o + k).toNat = M 5 (3 * p + v).toNat := ⟨fun h => h.1 ⟨e2, by omega⟩, fun h => ⟨fun _ => h, fun q => absurd ⟨e2, by omega⟩ q⟩⟩
      by_cases c2 : 0 ≤ v ∧ v < M 4 p.toNat
      · rw [if_pos (c := 0 ≤ v ∧ _) (by omega), if_pos (hB.mpr c2)]
        rcases hr with e1 | e1
        · rw [if_pos e1, if_neg (by omega)]
        · rw [if_neg (by omega), if_neg (by decide)]
          simp (disch := omega) only [wrE, gdE]
          by_cases h : M 5 (3 * o + k).toNat = M 5 (3 * p + v).toNat
          · rw [if_neg (by simpa using h), if_pos ⟨e1, hB.mpr c2, hG.mpr h⟩]
          · rw [if_pos h, if_neg (fun q => h (hG.mp q.2.2))]
      · rw [if_neg (c := 0 ≤ v ∧ _) (by omega), if_neg (fun q => c2 (hB.mp q))]
        have hno : ¬ (r = 1 ∧ fwB M p o k v ∧ fwG M p o k v) := fun q => c2 (hB.mp q.2.1)
        rw [if_neg hno]
        rcases hr with e1 | e1
        · rw [if_pos e1]
        · rw [if_neg (by omega), if_pos rfl]
theorem if3 {r : Int} {P0 P1 P2 : Prop} [Decidable P0] [Decidable P1] [Decidable P2] : (if (if (if r = 1 ∧ P0 then (1 : Int) else 0) = 1 ∧ P1 then (1 : Int) else 0) = 1 ∧ P2 then (1 : Int) else 0) = if r = 1 ∧ P0 ∧ P1 ∧ P2 then 1 else 0 := by
  by_cases h : r = 1 <;> by_cases h0 : P0 <;> by_cases h1 : P1 <;> by_cases h2 : P2 <;> simp [h, h0, h1, h2]
theorem r_fwLoop {M : Mm} (hg : Okg M) {p o a b c : Int} (hp : 0 ≤ p ∧ p < M 0 0) (ho : o = -1 ∨ (0 ≤ o ∧ o < M 0 0)) {J : Int → Int → Mm → Rs} {r : Int} (hr : r = 0 ∨ r = 1) :
    Lp (f_X12_forward_L68_91 p o a b c J) FU (1, r, 0, M) = if fwB M p o 0 a ∧ fwB M p o 1 b ∧ fwB M p o 2 c then J 1 (if r = 1 ∧ fwG M p o 0 a ∧ fwG M p o 1 b ∧ fwG M p o 2 c then 1 else 0) M else J 0 0 M := by
  have hout : ∀ rc (k r' : Int), f_X12_forward_L68_91 p o a b c J rc (0, r', k, M) = J 0 r' M := by
    intro rc k r'
    simp only [f_X12_forward_L68_91]
    by_cases h : 3 ≤ k
    · rw [if_pos h]
    · rw [if_neg h, if_pos trivial]
  have h01 : ∀ P : Prop, [Decidable P] → (if P then (1 : Int) else 0) = 0 ∨ (if P then (1 : Int) else 0) = 1 := by
    intro P _; by_cases h : P
    · rw [if_pos h]; exact Or.inr rfl
    · rw [if_neg h]; exact Or.inl rfl
  rw [FU_4, Lp_s, r_fwStep hg hp ho hr (by decide) (v := a) rfl, show (0 : Int) + 1 = 1 from rfl]
  by_cases b0 : fwB M p o 0 a
  · rw [if_pos b0, Lp_s, r_fwStep hg hp ho (h01 _) (by decide) (v := b) rfl, show (1 : Int) + 1 = 2 from rfl]
    by_cases b1 : fwB M p o 1 b
    · rw [if_pos b1, Lp_s, r_fwStep hg hp ho (h01 _) (by decide) (v := c) rfl]
      by_cases b2 : fwB M p o 2 c
      · rw [if_pos b2, Lp_s]
        simp only [f_X12_forward_L68_91]
        rw [if_pos (by decide), if_pos (c := fwB M p o 0 a ∧ fwB M p o 1 b ∧ fwB M p o 2 c) ⟨b0, b1, b2⟩, if3]
        congr 1
        by_cases hh : r = 1 ∧ fwG M p o 0 a ∧ fwG M p o 1 b ∧ fwG M p o 2 c
        · rw [if_pos hh, if_pos ⟨hh.1, ⟨b0, hh.2.1⟩, ⟨b1, hh.2.2.1⟩, ⟨b2, hh.2.2.2⟩⟩]
        · rw [if_neg hh, if_neg (fun q => hh ⟨q.1, q.2.1.2, q.2.2.1.2, q.2.2.2.2⟩)]
      · have n2 : ¬ (fwB M p o 0 a ∧ fwB M p o 1 b ∧ fwB M p o 2 c) := fun q => b2 q.2.2
        rw [if_neg b2, Lp_s, hout, if_neg n2, if_neg (fun q => b2 q.2.1)]
    · have n2 : ¬ (fwB M p o 0 a ∧ fwB M p o 1 b ∧ fwB M p o 2 c) := fun q => b1 q.2.1
      rw [if_neg b1, Lp_s, hout, if_neg n2, if_neg (fun q => b1 q.2.1)]
  · have n2 : ¬ (fwB M p o 0 a ∧ fwB M p o 1 b ∧ fwB M p o 2 c) := fun q => b0 q.1
    rw [if_neg b0, Lp_s, hout, if_neg n2, if_neg (fun q => b0 q.2.1)]
theorem g_hasProduction {M S : Mm} (hM : CG M S) (p : Int) : f_X5_hasProduction p M = some (if 0 ≤ p ∧ p < S 0 0 then 1 else 0, M) := by
  rw [c_hasProduction, hM.1]
theorem r_fwLay {M : Mm} {p a b c : Int} (hp : 0 ≤ p ∧ p < 10) {J : Mm → Rs} : Lp (f_X12_forward_L237_34 p a b c J) FU (0, M) = J (up (up (up M 9 (3 * p).toNat a) 9 (3 * p + 1).toNat b) 9 (3 * p + 2).toNat c) := by
  have hst : ∀ rc (k : Int) (M : Mm), 0 ≤ k → k < 3 → f_X12_forward_L237_34 p a b c J rc (k, M) = rc (k + 1, up M 9 (3 * p + k).toNat (if k = 0 then a else if k = 1 then b else c)) := by
    intro rc k M k0 k1
    simp only [f_X12_forward_L237_34, LtE, r_nth, ClS]
    rw [if_neg (by omega)]
    simp (disch := omega) only [wrE, gdE]
  rw [FU_4, Lp_s, hst _ _ _ (by decide) (by decide), Lp_s, hst _ _ _ (by decide) (by decide), Lp_s, hst _ _ _ (by decide) (by decide), Lp_s]
  simp only [f_X12_forward_L237_34]
  rw [if_pos (by decide)]
  simp
theorem s_forward {RG : Mm → Nat → Int} (hRG : RGok RG) : S_forward (Inv RG) := by
  intro MC MR k p o a b c i1 i2 i3 i4 i5 hI hk
  obtain ⟨hp, hV, hR, hB⟩ := id hI
  obtain ⟨⟨p1, p2, p3, p4, p5⟩, ⟨q1, q2, q3, q4, q5⟩, q6, q7, p6⟩ := id hp
  have hP := p1.1
  -- no such production
  by_cases c1 : (0 ≤ p ∧ p < MR 0 0) ∧ (o = -1 ∨ (0 ≤ o ∧ o < MR 0 0))
  case neg =>
    refine ⟨(1, 0, MC), (0, up MR 0 87 1), ?_, ?_, by simp, by simp [up], by simp, hI.thr hRG _ _⟩
    · unfold f_X11_forward
      simp only [LtE, g_hasProduction q1, ClS]
      by_cases c2 : 0 ≤ p ∧ p < MR 0 0
      · have c3 : ¬ o = -1 := fun h => c1 ⟨c2, Or.inl h⟩
        rw [if_pos c2, if_neg (by decide), if_neg c3, if_neg (fun h => c1 ⟨c2, Or.inr h⟩)]
        simp
      · rw [if_neg c2]; simp
    · have hout : ∀ (J : Int → Int → Mm → Rs) (r : Int) (M : Mm), Lp (f_X12_forward_L68_91 p o a b c J) FU (0, r, 0, M) = J 0 r M := by
        intro J r M
        rw [FU_4, Lp_s]
        simp only [f_X12_forward_L68_91]
        rw [if_neg (by decide), if_pos trivial]
      unfold f_X12_forward
      simp only [LtE, r_isProduction hP, ClS]
      by_cases c2 : 0 ≤ p ∧ p < MR 0 0
      · have c3 : ¬ o = -1 := fun h => c1 ⟨c2, Or.inl h⟩
        rw [if_pos c2, if_neg (by decide), if_neg c3, if_neg (fun h => c1 ⟨c2, Or.inr h⟩)]
        simp [hout, r_fails, ClS]
      · rw [if_neg c2]
        simp [hout, r_fails, ClS]
  case pos =>
  obtain ⟨hpp, hoo⟩ := c1
  have hcp := chl_le p1 hpp
  have hCpre : ∀ {α : Type} (A B : α), (if (if 0 ≤ p ∧ p < MR 0 0 then (1 : Int) else 0) = 0 then A else B) = B := fun A B => by rw [if_pos hpp, if_neg (by decide)]
  have hC1 : ∀ {J K : Mm → Rx}, (if o = -1 then J MC else Cl (f_X5_hasProduction o MC) fun v46 M45 => if ¬ v46 = 0 then J M45 else K M45) = J MC := by
    intro J K
    rcases hoo with e | e
    · rw [if_pos e]
    · rw [if_neg (by omega), g_hasProduction q1, ClS, if_pos e, if_pos (by decide)]
  have hB0 := c_standsByChild p1 q1 (k := 0) (v := a) hpp hoo (by decide)
  have hB1 := c_standsByChild p1 q1 (k := 1) (v := b) hpp hoo (by decide)
  have hB2 := c_standsByChild p1 q1 (k := 2) (v := c) hpp hoo (by decide)
  have hr0 : ∃ r : Int, (r = 0 ∨ r = 1) ∧ (r = 1 ↔ o ≠ p ∧ (o = -1 ∨ MR 1 o.toNat = MR 1 p.toNat)) ∧ f_X12_forward p o a b c MR = (if fwB MR p o 0 a ∧ fwB MR p o 1 b ∧ fwB MR p o 2 c then (if r = 1 ∧ fwG MR p o 0 a ∧ fwG MR p o 1 b ∧ fwG MR p o 2 c then
        some (MR 8 p.toNat, sr (up (up (up (up (up MR 0 87 0) 8 p.toNat o) 9 (3 * p).toNat a) 9 (3 * p + 1).toNat b) 9 (3 * p + 2).toNat c) 50 fun i => if i < 360 then 0 else MR 50 i)
        else some (0, up MR 0 87 2)) else some (0, up MR 0 87 1)) := by
    have hend : ∀ r : Int, (r = 0 ∨ r = 1) → Lp (f_X12_forward_L68_91 p o a b c (fun v9 v10 M11 => if ¬ v9 = 0 then (if v10 = 0 then (Cl (f_X12_fails 2 M11) fun v17 M16 => if v17 = 0 then gd (0 ≤ p ∧ p < 10) (gd (0 ≤ p ∧ p < 10) (Lp (f_X12_forward_L237_34 p a b c fun M21 => Cl (f_X12_dropsAll M21) fun _ M23 => some (M16 8 p.toNat, M23)) FU (0, up M16 8 p.toNat o))) else some (0, M16)) else (Cl (f_X12_fails 0 M11) fun v17 M16 => if v17 = 0 then gd (0 ≤ p ∧ p < 10) (gd (0 ≤ p ∧ p < 10) (Lp (f_X12_forward_L237_34 p a b c fun M21 => Cl (f_X12_dropsAll M21) fun _ M23 => some (M16 8 p.toNat, M23)) FU (0, up M16 8 p.toNat o))) else some (0, M16))) else (Cl (f_X12_fails 1 M11) fun v17 M16 => if v17 = 0 then gd (0 ≤ p ∧ p < 10) (gd (0 ≤ p ∧ p < 10) (Lp (f_X12_forward_L237_34 p a b c fun M21 => Cl (f_X12_dropsAll M21) fun _ M23 => some (M16 8 p.toNat, M23)) FU (0, up M16 8 p.toNat o))) else some (0, M16)))) FU (1, r, 0, MR) = (if fwB MR p o 0 a ∧ fwB MR p o 1 b ∧ fwB MR p o 2 c then (if r = 1 ∧ fwG MR p o 0 a ∧ fwG MR p o 1 b ∧ fwG MR p o 2 c then
        some (MR 8 p.toNat, sr (up (up (up (up (up MR 0 87 0) 8 p.toNat o) 9 (3 * p).toNat a) 9 (3 * p + 1).toNat b) 9 (3 * p + 2).toNat c) 50 fun i => if i < 360 then 0 else MR 50 i)
        else some (0, up MR 0 87 2)) else some (0, up MR 0 87 1)) := by
      intro r hr
      rw [r_fwLoop p1 hpp hoo hr]
      by_cases cB : fwB MR p o 0 a ∧ fwB MR p o 1 b ∧ fwB MR p o 2 c
      · rw [if_pos cB, if_pos cB, if_pos (by decide)]
        by_cases cG : r = 1 ∧ fwG MR p o 0 a ∧ fwG MR p o 1 b ∧ fwG MR p o 2 c
        · rw [if_pos cG, if_pos cG, if_neg (by decide), r_fails, ClS, if_pos (by decide), gdE (by omega), gdE (by omega), r_fwLay (by omega), r_dropsAll, ClS]
          rfl
        · rw [if_neg cG, if_neg cG, if_pos rfl, r_fails, ClS, if_neg (by decide)]
      · rw [if_neg cB, if_neg cB, if_neg (by decide), r_fails, ClS, if_neg (by decide)]
    unfold f_X12_forward
    simp only [LtE, r_isProduction hP, ClS]
    rw [if_pos hpp, if_neg (by decide)]
    have hq : ∃ r : Int, (r = 0 ∨ r = 1) ∧ (r = 1 ↔ o ≠ p ∧ (o = -1 ∨ MR 1 o.toNat = MR 1 p.toNat)) ∧ ∀ (F : Int → Rs), (if o = p then F 0 else if o = -1 then F 1 else gd (0 ≤ o ∧ o < 10) (gd (0 ≤ p ∧ p < 10) (if ¬ MR 1 o.toNat = MR 1 p.toNat then F 0 else F 1))) = F r := by
      by_cases e1 : o = p
      · exact ⟨0, Or.inl rfl, ⟨fun h => (by cases h), fun h => absurd e1 h.1⟩, fun F => by rw [if_pos e1]⟩
      · by_cases e2 : o = -1
        · exact ⟨1, Or.inr rfl, ⟨fun _ => ⟨e1, Or.inl e2⟩, fun _ => rfl⟩, fun F => by rw [if_neg e1, if_pos e2]⟩
        · have e3 : 0 ≤ o ∧ o < MR 0 0 := by omega
          by_cases e4 : MR 1 o.toNat = MR 1 p.toNat
          · exact ⟨1, Or.inr rfl, ⟨fun _ => ⟨e1, Or.inr e4⟩, fun _ => rfl⟩, fun F => by rw [if_neg e1, if_neg e2, gdE (by omega), gdE (by omega), if_neg (by simpa using e4)]⟩
          · exact ⟨0, Or.inl rfl, ⟨fun h => (by cases h), fun h => (by rcases h.2 with q | q; exact absurd q e2; exact absurd q e4)⟩, fun F => by rw [if_neg e1, if_neg e2, gdE (by omega), gdE (by omega), if_pos e4]⟩
    obtain ⟨r, hr1, hr2, hr3⟩ := hq
    refine ⟨r, hr1, hr2, ?_⟩
    rw [← hend r hr1]
    rw [← hr3 (fun r => Lp (f_X12_forward_L68_91 p o a b c (fun v9 v10 M11 => if ¬ v9 = 0 then (if v10 = 0 then (Cl (f_X12_fails 2 M11) fun v17 M16 => if v17 = 0 then gd (0 ≤ p ∧ p < 10) (gd (0 ≤ p ∧ p < 10) (Lp (f_X12_forward_L237_34 p a b c fun M21 => Cl (f_X12_dropsAll M21) fun _ M23 => some (M16 8 p.toNat, M23)) FU (0, up M16 8 p.toNat o))) else some (0, M16)) else (Cl (f_X12_fails 0 M11) fun v17 M16 => if v17 = 0 then gd (0 ≤ p ∧ p < 10) (gd (0 ≤ p ∧ p < 10) (Lp (f_X12_forward_L237_34 p a b c fun M21 => Cl (f_X12_dropsAll M21) fun _ M23 => some (M16 8 p.toNat, M23)) FU (0, up M16 8 p.toNat o))) else some (0, M16))) else (Cl (f_X12_fails 1 M11) fun v17 M16 => if v17 = 0 then gd (0 ≤ p ∧ p < 10) (gd (0 ≤ p ∧ p < 10) (Lp (f_X12_forward_L237_34 p a b c fun M21 => Cl (f_X12_dropsAll M21) fun _ M23 => some (M16 8 p.toNat, M23)) FU (0, up M16 8 p.toNat o))) else some (0, M16)))) FU (1, r, 0, MR))]
    rcases hoo with e | e
    · rw [if_pos e]; rfl
    · have e2 : ¬ o = -1 := by omega
      rw [if_neg e2, if_pos e, if_neg (by decide)]; rfl
  obtain ⟨r, hr1, hr2, hr3⟩ := hr0
  have hcl : f_X11_forward p o a b c MC = (if fwB MR p o 0 a ∧ fwB MR p o 1 b ∧ fwB MR p o 2 c then (if r = 1 ∧ fwG MR p o 0 a ∧ fwG MR p o 1 b ∧ fwG MR p o 2 c then Cl (f_X11_followGrammar (up (up (up (up MC 9 p.toNat o) 10 (3 * p).toNat a) 10 (3 * p + 1).toNat b) 10 (3 * p + 2).toNat c)) fun _ M9 => some (0, MR 8 p.toNat, M9) else some (2, 0, MC)) else some (1, 0, MC)) := by
    unfold f_X11_forward
    simp only [LtE, g_hasProduction q1, ClS]
    rw [if_pos hpp, if_neg (by decide)]
    have hst : ∀ A : Rx, (∀ (h : True), A = (if fwB MR p o 0 a ∧ fwB MR p o 1 b ∧ fwB MR p o 2 c then (if r = 1 ∧ fwG MR p o 0 a ∧ fwG MR p o 1 b ∧ fwG MR p o 2 c then Cl (f_X11_followGrammar (up (up (up (up MC 9 p.toNat o) 10 (3 * p).toNat a) 10 (3 * p + 1).toNat b) 10 (3 * p + 2).toNat c)) fun _ M9 => some (0, MR 8 p.toNat, M9) else some (2, 0, MC)) else some (1, 0, MC))) → (if o = -1 then A else if ¬ (if 0 ≤ o ∧ o < MR 0 0 then (1 : Int) else 0) = 0 then A else some (1, 0, MC)) = (if fwB MR p o 0 a ∧ fwB MR p o 1 b ∧ fwB MR p o 2 c then (if r = 1 ∧ fwG MR p o 0 a ∧ fwG MR p o 1 b ∧ fwG MR p o 2 c then Cl (f_X11_followGrammar (up (up (up (up MC 9 p.toNat o) 10 (3 * p).toNat a) 10 (3 * p + 1).toNat b) 10 (3 * p + 2).toNat c)) fun _ M9 => some (0, MR 8 p.toNat, M9) else some (2, 0, MC)) else some (1, 0, MC)) := by
      intro A hA
      rcases hoo with e | e
      · rw [if_pos e]; exact hA trivial
      · rw [if_neg (c := o = -1) (by omega), if_pos e, if_pos (by decide)]; exact hA trivial
    refine hst _ fun _ => ?_
    rw [hB0, ClS]
    by_cases b0 : fwB MR p o 0 a
    case neg => 
      have n2 : ¬ (fwB MR p o 0 a ∧ fwB MR p o 1 b ∧ fwB MR p o 2 c) := fun q => b0 q.1
      rw [if_neg b0, if_pos rfl, if_neg n2]
    rw [if_pos b0, if_neg (by decide), hB1, ClS]
    by_cases b1 : fwB MR p o 1 b
    case neg => 
      have n2 : ¬ (fwB MR p o 0 a ∧ fwB MR p o 1 b ∧ fwB MR p o 2 c) := fun q => b1 q.2.1
      rw [if_neg b1, if_pos rfl, if_neg n2]
    rw [if_pos b1, if_neg (by decide), hB2, ClS]
    by_cases b2 : fwB MR p o 2 c
    case neg => 
      have n2 : ¬ (fwB MR p o 0 a ∧ fwB MR p o 1 b ∧ fwB MR p o 2 c) := fun q => b2 q.2.2
      rw [if_neg b2, if_neg (by decide), if_neg n2]
    have y2 : fwB MR p o 0 a ∧ fwB MR p o 1 b ∧ fwB MR p o 2 c := ⟨b0, b1, b2⟩
    rw [if_pos b2, if_pos (by decide), if_pos y2]
    by_cases e1 : o = p
    · have n3 : ¬ (r = 1 ∧ fwG MR p o 0 a ∧ fwG MR p o 1 b ∧ fwG MR p o 2 c) := fun q => (hr2.mp q.1).1 e1
      rw [if_pos e1, if_neg n3]
    rw [if_neg e1]
    have hh : ∀ A : Rx, (if o = -1 then A else if MR 1 o.toNat = MR 1 p.toNat then A else some (2, 0, MC)) = if r = 1 then A else some (2, 0, MC) := by
      intro A
      by_cases e2 : o = -1
      · rw [if_pos e2, if_pos (hr2.mpr ⟨e1, Or.inl e2⟩)]
      · by_cases e3 : MR 1 o.toNat = MR 1 p.toNat
        · rw [if_neg e2, if_pos e3, if_pos (hr2.mpr ⟨e1, Or.inr e3⟩)]
        · rw [if_neg e2, if_neg e3, if_neg (fun h => by rcases (hr2.mp h).2 with q | q; exact e2 q; exact e3 q)]
    have hd : ∀ {K : Int → Int → Mm → Rx} {A : Rx}, (if o = -1 then A else Cl (f_X5_headOf o MC) fun v40 M39 => Cl (f_X5_headOf p M39) fun v42 M41 => K v40 v42 M41) = if o = -1 then A else K (MR 1 o.toNat) (MR 1 p.toNat) MC := by
      intro K A
      by_cases e2 : o = -1
      · rw [if_pos e2, if_pos e2]
      · rw [if_neg e2, if_neg e2, g_head q1 p1 (by omega), ClS, g_head q1 p1 hpp, ClS]
    rw [hd, hh]
    by_cases e3 : r = 1
    case neg =>
      have n3 : ¬ (r = 1 ∧ fwG MR p o 0 a ∧ fwG MR p o 1 b ∧ fwG MR p o 2 c) := fun q => e3 q.1
      rw [if_neg e3, if_neg n3]
    rw [if_pos e3]
    rw [c_standsRightly p1 q1 hpp hoo (by decide) b0, ClS]
    by_cases g0 : fwG MR p o 0 a
    case neg =>
      have n3 : ¬ (r = 1 ∧ fwG MR p o 0 a ∧ fwG MR p o 1 b ∧ fwG MR p o 2 c) := fun q => g0 q.2.1
      rw [if_neg g0, if_pos rfl, if_neg n3]
    rw [if_pos g0, if_neg (by decide), c_standsRightly p1 q1 hpp hoo (by decide) b1, ClS]
    by_cases g1 : fwG MR p o 1 b
    case neg =>
      have n3 : ¬ (r = 1 ∧ fwG MR p o 0 a ∧ fwG MR p o 1 b ∧ fwG MR p o 2 c) := fun q => g1 q.2.2.1
      rw [if_neg g1, if_pos rfl, if_neg n3]
    rw [if_pos g1, if_neg (by decide), c_standsRightly p1 q1 hpp hoo (by decide) b2, ClS]
    by_cases g2 : fwG MR p o 2 c
    case neg =>
      have n3 : ¬ (r = 1 ∧ fwG MR p o 0 a ∧ fwG MR p o 1 b ∧ fwG MR p o 2 c) := fun q => g2 q.2.2.2
      rw [if_neg g2, if_neg (by decide), if_neg n3]
    have y3 : r = 1 ∧ fwG MR p o 0 a ∧ fwG MR p o 1 b ∧ fwG MR p o 2 c := ⟨e3, g0, g1, g2⟩
    rw [if_pos g2, if_pos (by decide), if_pos y3]
    unfold f_X5_tellForward
    simp only [LtE]
    simp (disch := omega) only [wrE]
    rw [g_forward q1 p1 hpp, ClS, c_setEntry_in 10 alenC_9 (by omega) (by omega), ClS, c_setEntry_in 30 alenC_10 (by omega) (by omega), ClS, c_setEntry_in 30 alenC_10 (by omega) (by omega), ClS, c_setEntry_in 30 alenC_10 (by omega) (by omega), ClS, ClS, Int.mul_comm p 3]
  by_cases cB : fwB MR p o 0 a ∧ fwB MR p o 1 b ∧ fwB MR p o 2 c
  case neg =>
    rw [if_neg cB] at hcl hr3
    exact ⟨_, _, hcl, hr3, by simp, by simp [up], by simp, hI.thr hRG _ _⟩
  by_cases cG : r = 1 ∧ fwG MR p o 0 a ∧ fwG MR p o 1 b ∧ fwG MR p o 2 c
  case neg =>
    rw [if_pos cB, if_neg cG] at hcl hr3
    exact ⟨_, _, hcl, hr3, by simp, by simp [up], by simp, hI.thr hRG _ _⟩
  rw [if_pos cB, if_pos cG] at hcl hr3
  generalize hM1 : up (up (up (up (up MR 0 87 0) 8 p.toNat o) 9 (3 * p).toNat a) 9 (3 * p + 1).toNat b) 9 (3 * p + 2).toNat c = M1 at hr3
  generalize hC1 : up (up (up (up MC 9 p.toNat o) 10 (3 * p).toNat a) 10 (3 * p + 1).toNat b) 10 (3 * p + 2).toNat c = C1 at hcl
  have er : ∀ j, j ≠ 0 → j ≠ 8 → j ≠ 9 → M1 j = MR j := fun j j1 j2 j3 => by rw [← hM1, up_ne _ _ _ j3, up_ne _ _ _ j3, up_ne _ _ _ j3, up_ne _ _ _ j2, up_ne _ _ _ j1]
  have e0 : ∀ i, i ≠ 87 → M1 0 i = MR 0 i := fun i i1 => by rw [← hM1]; simp [up, i1]
  have e8 : ∀ i, M1 8 i = if i = p.toNat then o else MR 8 i := fun i => by rw [← hM1]; simp [up]
  have e9 : ∀ i, M1 9 i = if i = (3 * p + 2).toNat then c else if i = (3 * p + 1).toNat then b else if i = (3 * p).toNat then a else MR 9 i := fun i => by rw [← hM1]; simp [up]
  have em : ∀ j, j ≠ 9 → j ≠ 10 → C1 j = MC j := fun j j1 j2 => by rw [← hC1, up_ne _ _ _ j2, up_ne _ _ _ j2, up_ne _ _ _ j2, up_ne _ _ _ j1]
  have em9 : ∀ i, C1 9 i = if i = p.toNat then o else MC 9 i := fun i => by rw [← hC1]; simp [up]
  have em10 : ∀ i, C1 10 i = if i = (3 * p + 2).toNat then c else if i = (3 * p + 1).toNat then b else if i = (3 * p).toNat then a else MC 10 i := fun i => by rw [← hC1]; simp [up]
  rw [← er 50 (by decide) (by decide) (by decide)] at hr3
  have hn : nch M1 = nch MR := by
    funext p n
    induction n with
    | zero => rfl
    | succ n ih => simp only [nch]; rw [ih, er 3 (by decide) (by decide) (by decide)]
  refine fin_op (RG := RG) (k + 1) hcl hr3 (hp.gram ?_ ?_ (by rw [e0 0 (by decide)]; exact Int.le_refl _) (by rw [e0 12 (by decide)]; exact Int.le_refl _) (fun i i1 _ _ => e0 i i1) (fun j hj => er j (by omega) (by omega) (by omega)) (fun a _ _ => by rw [er 12 (by decide) (by decide) (by decide)]) (fun a _ _ => by rw [er 4 (by decide) (by decide) (by decide), er 6 (by decide) (by decide) (by decide)]; exact ⟨rfl, rfl⟩) fun j hj => em j (by omega) (by omega)) ?_
  · obtain ⟨o1, o2, o3, o4, o5⟩ := p1
    unfold Okg
    rw [e0 0 (by decide), e0 12 (by decide), er 12 (by decide) (by decide) (by decide), er 2 (by decide) (by decide) (by decide), er 4 (by decide) (by decide) (by decide), er 6 (by decide) (by decide) (by decide), er 10 (by decide) (by decide) (by decide)]
    refine ⟨o1, o2, o3, fun q q0 q1 => ?_, fun q q0 q1 => ?_⟩
    · have hq := o4 q q0 q1
      unfold OkP at hq ⊢
      rw [hn, e0 0 (by decide), e0 12 (by decide), er 1 (by decide) (by decide) (by decide), er 2 (by decide) (by decide) (by decide), er 3 (by decide) (by decide) (by decide), er 4 (by decide) (by decide) (by decide), er 5 (by decide) (by decide) (by decide), er 6 (by decide) (by decide) (by decide), er 7 (by decide) (by decide) (by decide), er 10 (by decide) (by decide) (by decide), er 11 (by decide) (by decide) (by decide)]
      obtain ⟨w1, w2, w3, w4, w5, w6, w7, w8, w9, w10⟩ := hq
      refine ⟨w1, w2, w3, w4, w5, w6, w7, w8, ?_, w10⟩
      rw [e8]
      by_cases e : q = p
      · subst e
        rw [if_pos rfl]
        rcases hoo with e1 | e1
        · exact Or.inl e1
        · refine Or.inr ⟨e1.1, e1.2, fun j j0 j1 => ?_⟩
          have h4 : MR 4 o.toNat ≤ 3 := (chl_le ⟨o1, o2, o3, o4, o5⟩ e1).2
          have hj : j = 0 ∨ j = 1 ∨ j = 2 := by omega
          rw [e9]
          rcases hj with rfl | rfl | rfl
          · rw [if_neg (by omega), if_neg (by omega), if_pos (by omega)]; exact cB.1 ⟨by omega, j1⟩
          · rw [if_neg (by omega), if_pos (by omega)]; exact cB.2.1 ⟨by omega, j1⟩
          · rw [if_pos (by omega)]; exact cB.2.2 ⟨by omega, j1⟩
      · rw [if_neg (by omega)]
        rcases w9 with w | w
        · exact Or.inl w
        · refine Or.inr ⟨w.1, w.2.1, fun j j0 j1 => ?_⟩
          have h4 : MR 4 (MR 8 q.toNat).toNat ≤ 3 := (chl_le ⟨o1, o2, o3, o4, o5⟩ ⟨w.1, w.2.1⟩).2
          rw [e9, if_neg (by omega), if_neg (by omega), if_neg (by omega)]
          exact w.2.2 j j0 j1
    · rw [e8, if_neg (by omega)]; exact o5 q q0 q1
  · unfold CG at q1 ⊢
    rw [e0 0 (by decide), e0 12 (by decide), er 1 (by decide) (by decide) (by decide), er 2 (by decide) (by decide) (by decide), er 3 (by decide) (by decide) (by decide), er 4 (by decide) (by decide) (by decide), er 5 (by decide) (by decide) (by decide), er 6 (by decide) (by decide) (by decide), er 7 (by decide) (by decide) (by decide), er 10 (by decide) (by decide) (by decide), er 11 (by decide) (by decide) (by decide), er 12 (by decide) (by decide) (by decide), em 1 (by decide) (by decide), em 2 (by decide) (by decide), em 3 (by decide) (by decide), em 4 (by decide) (by decide), em 5 (by decide) (by decide), em 6 (by decide) (by decide), em 7 (by decide) (by decide), em 8 (by decide) (by decide), em 11 (by decide) (by decide), em 12 (by decide) (by decide), em 13 (by decide) (by decide)]
    obtain ⟨w1, w2, w3, w4, w5⟩ := q1
    refine ⟨w1, w2, w3, fun q q0 q1 => ?_, fun i hi => ?_⟩
    · obtain ⟨v1, v2, v3, v4, v5, v6⟩ := w4 q q0 q1
      refine ⟨v1, v2, v3, v4, ?_, v6⟩
      rw [em9, e8]
      by_cases e : q.toNat = p.toNat
      · rw [if_pos e, if_pos e]
      · rw [if_neg e, if_neg e]; exact v5
    · rw [em10, e9, w5 i hi]
  · intro M2 h2
    refine ⟨Or.inl rfl, ?_, fun _ => rfl, h2⟩
    simp only
    rw [sr_ne _ _ (by decide), ← hM1]
    simp [up]
