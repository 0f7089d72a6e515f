/-! how many nodes a best tree has -/
def nn0 : Nat → Int
  | 0 => 0
  | r + 1 => 3 * nn0 r + 1
/-- cost and nodes of a weight -/
def CnW (K : Int) (x c n : Int) : Prop := x = K * c + n ∧ 0 ≤ c ∧ 0 ≤ n
theorem CnW.uniq {K x c n c' n' : Int} (hK : 0 < K) (h : CnW K x c n) (h' : CnW K x c' n') (hn : n < K) (hn' : n' < K) : c = c' ∧ n = n' := by
  obtain ⟨e, c0, n0⟩ := h
  obtain ⟨e', c0', n0'⟩ := h'
  have h1 : x / K = c := by rw [e, Int.add_comm, Int.add_mul_ediv_left _ _ (by omega), Int.ediv_eq_zero_of_lt n0 hn]; omega
  have h2 : x / K = c' := by rw [e', Int.add_comm, Int.add_mul_ediv_left _ _ (by omega), Int.ediv_eq_zero_of_lt n0' hn']; omega
  have hc : c = c' := by omega
  subst hc
  exact ⟨rfl, by omega⟩
theorem nn0_nn : ∀ r, 0 ≤ nn0 r := by
  intro r
  induction r with
  | zero => exact Int.le_refl _
  | succ r ih => simp only [nn0]; omega
theorem nn0_mono {r R : Nat} (h : r ≤ R) : nn0 r ≤ nn0 R := by
  induction R with
  | zero =>
    have : r = 0 := by omega
    rw [this]; exact Int.le_refl _
  | succ R ih =>
    by_cases c : r = R + 1
    · rw [c]; exact Int.le_refl _
    · have h1 := ih (by omega)
      have h2 := nn0_nn R
      simp only [nn0]
      omega
theorem nn0_v : nn0 0 = 0 ∧ nn0 1 = 1 ∧ nn0 2 = 4 ∧ nn0 3 = 13 ∧ nn0 4 = 40 := by decide
theorem nod_ar {m m1 y R : Int} (h0 : 0 ≤ m1 ∧ m1 ≤ m) (hm : 0 < m) (hR : 0 ≤ R) (b : y = 0 ∨ ((m1 = 0 → y ≤ 40) ∧ (0 < m1 → y ≤ 608 * m1 - 284) ∧ (m1 = m → y ≤ 608 * m - 608 + 81 * R))) : (m1 = 0 ∧ y ≤ 40) ∨ (m1 = m ∧ y ≤ 608 * m - 608 + 81 * R) ∨ (0 < m1 ∧ m1 < m ∧ y ≤ 608 * m1 - 284) := by
  by_cases c0 : m1 = 0
  · left
    refine ⟨c0, ?_⟩
    rcases b with b | b
    · omega
    · exact b.1 c0
  · right
    by_cases c1 : m1 = m
    · left
      refine ⟨c1, ?_⟩
      rcases b with b | b
      · omega
      · exact b.2.2 c1
    · right
      refine ⟨by omega, by omega, ?_⟩
      rcases b with b | b
      · omega
      · exact b.2.1 (by omega)
theorem nod_ar3 {m m1 m2 m3 y1 y2 y3 R : Int} (h1 : 0 ≤ m1) (h2 : 0 ≤ m2) (h3 : 0 ≤ m3) (hs : m1 + m2 + m3 = m) (hm : 0 < m) (hR : 0 ≤ R) (b1 : y1 = 0 ∨ ((m1 = 0 → y1 ≤ 40) ∧ (0 < m1 → y1 ≤ 608 * m1 - 284) ∧ (m1 = m → y1 ≤ 608 * m - 608 + 81 * R))) (b2 : y2 = 0 ∨ ((m2 = 0 → y2 ≤ 40) ∧ (0 < m2 → y2 ≤ 608 * m2 - 284) ∧ (m2 = m → y2 ≤ 608 * m - 608 + 81 * R))) (b3 : y3 = 0 ∨ ((m3 = 0 → y3 ≤ 40) ∧ (0 < m3 → y3 ≤ 608 * m3 - 284) ∧ (m3 = m → y3 ≤ 608 * m - 608 + 81 * R))) : y1 + y2 + y3 + 1 ≤ 608 * m - 527 + 81 * R := by
  have c1 := nod_ar (m := m) ⟨h1, by omega⟩ hm hR b1
  have c2 := nod_ar (m := m) ⟨h2, by omega⟩ hm hR b2
  have c3 := nod_ar (m := m) ⟨h3, by omega⟩ hm hR b3
  clear b1 b2 b3
  rcases c1 with c1 | c1 | c1 <;> rcases c2 with c2 | c2 | c2 <;> rcases c3 with c3 | c3 | c3 <;> omega
theorem Sol.nod {S : Mm} (hg : Okg S) {K E : Int} {w : WsF} (h : Sol S K E w) (hK : 1000 ≤ K) : ∀ (N : Nat) (A f t : Int), 0 ≤ A → A < 4 → 0 ≤ f → f ≤ t → t ≤ S 0 33 → w A f t < E → (w A f t).toNat = N →
    ∃ c n : Int, CnW K (w A f t) c n ∧ (t = f → n ≤ nn0 (rk w f t (w A f t) + 1)) ∧ (f < t → n ≤ 608 * (t - f) - 527 + 81 * (rk w f t (w A f t) : Int)) := by
  intro N
  induction N using Nat.strongRecOn with
  | ind N ih =>
    intro A f t a0 a4 f0 ft tl hE hN
    obtain ⟨p, a, b, hp, hA, hab, hfin, heq⟩ := (h.2 A f t a0 a4 f0 ft tl).2.2 hE
    have hx := pts_ok hg hp hab.1 hab.2.1 hab.2.2
    have hch := h.child hg (by omega) hp f0 hab.1 hab.2.1 hab.2.2 tl
    have hr := rk_le (w := w) (f := f) (t := t) (A := A) ⟨a0, a4⟩
    generalize hR : rk w f t (w A f t) = R at hr
    have hpart : ∀ x ∈ pts S p f a b t, ∃ c n : Int, CnW K (w x.1 x.2.1 x.2.2) c n ∧ (n = 0 ∨ ((x.2.2 = x.2.1 → n ≤ 40) ∧ (x.2.1 < x.2.2 → n ≤ 608 * (x.2.2 - x.2.1) - 284) ∧ (x.2.1 = f → x.2.2 = t → f < t → n ≤ 608 * (t - f) - 608 + 81 * (R : Int)) ∧ (x.2.1 = f → x.2.2 = t → t = f → n ≤ nn0 R))) := fun x hm => by
      have q := hx x hm
      have qf := hfin x hm
      have qc := hch x hm
      by_cases c4 : x.1 < 4
      · obtain ⟨c, n, h1, h2, h3⟩ := ih _ (by omega) x.1 x.2.1 x.2.2 q.1.1 c4 (by omega) q.2.2.1 (by omega) qf rfl
        have hrx := rk_le (w := w) (f := x.2.1) (t := x.2.2) (A := x.1) ⟨q.1.1, c4⟩
        refine ⟨c, n, h1, Or.inr ⟨fun e => ?_, fun e => ?_, fun e1 e2 e3 => ?_, fun e1 e2 e3 => ?_⟩⟩
        · have := h2 e
          have v := nn0_mono (Nat.succ_le_succ hrx)
          have v4 := nn0_v.2.2.2.2
          simp only [Nat.succ_eq_add_one, Nat.reduceAdd] at v
          omega
        · have := h3 e
          omega
        · have g := h3 (by omega)
          rw [e1, e2] at g qc
          rw [← heq] at qc
          have := rk_lt ⟨q.1.1, c4⟩ qc.2
          omega
        · have g := h2 (by omega)
          rw [e1, e2] at g qc
          rw [← heq] at qc
          have hl := rk_lt ⟨q.1.1, c4⟩ qc.2
          rw [hR] at hl
          exact Int.le_trans g (nn0_mono hl)
      · refine ⟨lc S x.1 x.2.1 x.2.2, 0, ⟨by rw [h.1 x.1 _ _ (by omega) q.1.2 (by omega) q.2.2.1 (by omega)]; omega, (lc_bd q.2.2.1).1, by omega⟩, Or.inl rfl⟩
    have hRv : R = 0 ∨ R = 1 ∨ R = 2 ∨ R = 3 := by omega
    have v := nn0_v
    have hfin2 : ∀ n : Int, (∀ m : Int, m = t - f → (m = 0 → n ≤ 3 * nn0 R + 1) ∧ (0 < m → n ≤ 608 * m - 527 + 81 * (R : Int))) → (t = f → n ≤ nn0 (R + 1)) ∧ (f < t → n ≤ 608 * (t - f) - 527 + 81 * (R : Int)) := fun n hn => by
      have h1 := hn _ rfl
      have e : nn0 (R + 1) = 3 * nn0 R + 1 := rfl
      rw [e]
      exact ⟨fun q => h1.1 (by omega), fun q => h1.2 (by omega)⟩
    have hz : 0 ≤ nn0 R ∧ nn0 R ≤ 13 := by rcases hRv with rfl | rfl | rfl | rfl <;> omega
    rw [heq]
    unfold cdv
    unfold pts at hpart ⊢
    by_cases c0 : S 2 p.toNat = 0
    · simp only [if_pos c0, sW]
      refine ⟨t - f, 1, ⟨by omega, by omega, by omega⟩, hfin2 1 fun m hm => ⟨fun _ => by omega, fun _ => by omega⟩⟩
    simp only [if_neg c0] at hpart ⊢
    by_cases c1 : S 2 p.toNat = 1
    · simp only [if_pos c1, sW] at hpart ⊢
      obtain ⟨x1, y1, ⟨e1, x10, y10⟩, b1⟩ := hpart _ (List.mem_cons_self ..)
      dsimp only at e1 b1
      refine ⟨x1, y1 + 1, ⟨by omega, by omega, by omega⟩, hfin2 _ fun m hm => ⟨fun _ => by omega, fun _ => by omega⟩⟩
    simp only [if_neg c1] at hpart ⊢
    by_cases c2 : S 2 p.toNat = 2
    · simp only [if_pos c2, sW] at hpart ⊢
      obtain ⟨x1, y1, ⟨e1, x10, y10⟩, b1⟩ := hpart _ (List.mem_cons_self ..)
      obtain ⟨x2, y2, ⟨e2, x20, y20⟩, b2⟩ := hpart _ (List.mem_cons_of_mem _ (List.mem_cons_self ..))
      dsimp only at e1 b1 e2 b2
      refine ⟨x1 + x2, y1 + y2 + 1, ⟨by rw [Int.mul_add]; omega, by omega, by omega⟩, hfin2 _ fun m hm => ⟨fun _ => by omega, fun _ => by omega⟩⟩
    · simp only [if_neg c2, sW] at hpart ⊢
      obtain ⟨x1, y1, ⟨e1, x10, y10⟩, b1⟩ := hpart _ (List.mem_cons_self ..)
      obtain ⟨x2, y2, ⟨e2, x20, y20⟩, b2⟩ := hpart _ (List.mem_cons_of_mem _ (List.mem_cons_self ..))
      obtain ⟨x3, y3, ⟨e3, x30, y30⟩, b3⟩ := hpart _ (List.mem_cons_of_mem _ (List.mem_cons_of_mem _ (List.mem_cons_self ..)))
      dsimp only at e1 b1 e2 b2 e3 b3
      have q1 := hx (S 3 (3 * p + 0).toNat, f, a) (by unfold pts; rw [if_neg c0, if_neg c1, if_neg c2]; exact List.mem_cons_self ..)
      have m1 : 0 ≤ a - f := by omega
      have m2 : 0 ≤ b - a := by omega
      have m3 : 0 ≤ t - b := by omega
      refine ⟨x1 + x2 + x3, y1 + y2 + y3 + 1, ⟨by rw [Int.mul_add, Int.mul_add]; omega, by omega, by omega⟩, hfin2 _ fun m hm => ⟨fun z => ?_, fun z => ?_⟩⟩
      · have g1 : y1 ≤ nn0 R := by
          rcases b1 with b1 | b1
          · omega
          · exact b1.2.2.2 rfl (by omega) (by omega)
        have g2 : y2 ≤ nn0 R := by
          rcases b2 with b2 | b2
          · omega
          · exact b2.2.2.2 (by omega) (by omega) (by omega)
        have g3 : y3 ≤ nn0 R := by
          rcases b3 with b3 | b3
          · omega
          · exact b3.2.2.2 (by omega) rfl (by omega)
        clear b1 b2 b3
        omega
      · have tr : ∀ {u v y : Int}, (f ≤ u ∧ u ≤ v ∧ v ≤ t) → (y = 0 ∨ ((v = u → y ≤ 40) ∧ (u < v → y ≤ 608 * (v - u) - 284) ∧ (u = f → v = t → f < t → y ≤ 608 * (t - f) - 608 + 81 * (R : Int)) ∧ (u = f → v = t → t = f → y ≤ nn0 R))) → (y = 0 ∨ ((v - u = 0 → y ≤ 40) ∧ (0 < v - u → y ≤ 608 * (v - u) - 284) ∧ (v - u = m → y ≤ 608 * m - 608 + 81 * (R : Int)))) := fun {u v y} hu hb => by
          rcases hb with hb | hb
          · exact Or.inl hb
          · obtain ⟨k1, k2, k3, -⟩ := hb
            refine Or.inr ⟨fun z => k1 (by omega), fun z => k2 (by omega), fun z => ?_⟩
            have := k3 (by omega) (by omega) (by omega)
            rw [hm]; exact this
        exact nod_ar3 m1 m2 m3 (by omega) z (by omega) (tr ⟨by omega, hab.1, by omega⟩ b1) (tr ⟨hab.1, hab.2.1, hab.2.2⟩ b2) (tr ⟨by omega, hab.2.2, by omega⟩ b3)
theorem Sol.nod2 {S : Mm} (hg : Okg S) {K E : Int} {w : WsF} (h : Sol S K E w) (hK : 1000 ≤ K) (hl : S 0 33 ≤ 12) {A f t : Int} (a0 : 0 ≤ A) (a4 : A < 4) (f0 : 0 ≤ f) (ft : f ≤ t) (tl : t ≤ S 0 33) (hE : w A f t < E) : ∃ c n : Int, CnW K (w A f t) c n ∧ n ≤ 7012 := by
  obtain ⟨c, n, h1, h2, h3⟩ := h.nod hg hK _ A f t a0 a4 f0 ft tl hE rfl
  refine ⟨c, n, h1, ?_⟩
  have hr := rk_le (w := w) (f := f) (t := t) (A := A) ⟨a0, a4⟩
  by_cases e : t = f
  · have := h2 e
    have v := nn0_mono (Nat.succ_le_succ hr)
    have v4 := nn0_v.2.2.2.2
    simp only [Nat.succ_eq_add_one, Nat.reduceAdd] at v
    omega
  · have := h3 (by omega)
    omega
/-! from one base to the other -/
def cnv (w : WsF) : WsF := fun c f t => if w c f t < 500000000 then 10000 * (w c f t / 100000) + w c f t % 100000 else 999990000
theorem cnv_cn {w : WsF} {A f t c n : Int} (h : CnW 100000 (w A f t) c n) (hn : n ≤ 7012) (hE : w A f t < 500000000) : CnW 10000 (cnv w A f t) c n := by
  obtain ⟨e, c0, n0⟩ := h
  refine ⟨?_, c0, n0⟩
  unfold cnv
  rw [if_pos hE, e]
  omega
theorem sW_cn {w w' : WsF} : ∀ (l : List (Int × Int × Int)), (∀ x ∈ l, ∃ c n : Int, CnW 100000 (w x.1 x.2.1 x.2.2) c n ∧ CnW 10000 (w' x.1 x.2.1 x.2.2) c n ∧ n ≤ 7012) → ∃ c n : Int, CnW 100000 (sW w l) c n ∧ CnW 10000 (sW w' l) c n ∧ n ≤ 7012 * l.length := by
  intro l
  induction l with
  | nil => intro _; exact ⟨0, 0, ⟨rfl, by decide, by decide⟩, ⟨rfl, by decide, by decide⟩, by simp⟩
  | cons x r ih =>
    intro hx
    obtain ⟨c, n, ⟨h1, h2, h3⟩, ⟨h4, -, -⟩, h5⟩ := hx x (List.mem_cons_self ..)
    obtain ⟨c', n', ⟨g1, g2, g3⟩, ⟨g4, -, -⟩, g5⟩ := ih fun y hy => hx y (List.mem_cons_of_mem _ hy)
    simp only [sW]
    refine ⟨c + c', n + n', ⟨by omega, by omega, by omega⟩, ⟨by omega, by omega, by omega⟩, ?_⟩
    rw [List.length_cons]
    omega
/-- a candidate, in both bases -/
theorem cd_cn {S : Mm} (hg : Okg S) {w : WsF} (h : Sol S 100000 500000000 w) (hl : S 0 33 ≤ 12) {p f a b t : Int} (hp : 0 ≤ p ∧ p < S 0 0) (f0 : 0 ≤ f) (h1 : f ≤ a) (h2 : a ≤ b) (h3 : b ≤ t) (tl : t ≤ S 0 33) (hfin : ∀ x ∈ pts S p f a b t, w x.1 x.2.1 x.2.2 < 500000000) :
    ∃ c n : Int, CnW 100000 (cdv S 100000 w p f a b t) c n ∧ CnW 10000 (cdv S 10000 (cnv w) p f a b t) c n ∧ n ≤ 21037 ∧ cdv S 100000 w p f a b t < 500000000 := by
  have hx := pts_ok hg hp h1 h2 h3
  have hp2 : ∀ x ∈ pts S p f a b t, ∃ c n : Int, CnW 100000 (w x.1 x.2.1 x.2.2) c n ∧ CnW 10000 (cnv w x.1 x.2.1 x.2.2) c n ∧ n ≤ 7012 := fun x hm => by
    have q := hx x hm
    have hf := hfin x hm
    by_cases c4 : x.1 < 4
    · obtain ⟨c, n, g1, g2⟩ := h.nod2 hg (by decide) hl q.1.1 c4 (by omega) q.2.2.1 (by omega) hf
      exact ⟨c, n, g1, cnv_cn g1 g2 hf, g2⟩
    · have e := h.1 x.1 x.2.1 x.2.2 (by omega) q.1.2 (by omega) q.2.2.1 (by omega)
      have hb := lc_bd (S := S) (c := x.1) q.2.2.1
      have g1 : CnW 100000 (w x.1 x.2.1 x.2.2) (lc S x.1 x.2.1 x.2.2) 0 := ⟨by omega, hb.1, by decide⟩
      exact ⟨_, 0, g1, cnv_cn g1 (by decide) hf, by decide⟩
  have hb : ∀ x ∈ pts S p f a b t, w x.1 x.2.1 x.2.2 ≤ 93 * 100000 + 40 := fun x hm => by
    have q := hx x hm
    by_cases c4 : x.1 < 4
    · exact h.bd hg (by decide) (by decide) hl q.1.1 c4 (by omega) q.2.2.1 (by omega) (hfin x hm)
    · rw [h.1 x.1 _ _ (by omega) q.1.2 (by omega) q.2.2.1 (by omega)]
      have := lc_bd (S := S) (c := x.1) q.2.2.1
      omega
  obtain ⟨c, n, ⟨g1, g2, g3⟩, ⟨g4, -, -⟩, g5⟩ := sW_cn _ hp2
  have hl3 := pts_len S p f a b t
  have hs := sW_le _ hb
  unfold cdv
  by_cases c0 : S 2 p.toNat = 0
  · rw [if_pos c0, if_pos c0]
    exact ⟨c + (t - f), n + 1, ⟨by omega, by omega, by omega⟩, ⟨by omega, by omega, by omega⟩, by omega, by omega⟩
  · rw [if_neg c0, if_neg c0]
    exact ⟨c, n + 1, ⟨by omega, by omega, by omega⟩, ⟨by omega, by omega, by omega⟩, by omega, by omega⟩
theorem cnv_fin {w : WsF} {c f t : Int} (h0 : 0 ≤ w c f t) : cnv w c f t < 999990000 ↔ w c f t < 500000000 := by
  unfold cnv
  split
  · rename_i q
    exact ⟨fun _ => q, fun _ => by omega⟩
  · rename_i q
    exact ⟨fun z => absurd z (by decide), fun z => absurd z q⟩
theorem cnv_sol {S : Mm} (hg : Okg S) {w : WsF} (h : Sol S 100000 500000000 w) (hl : S 0 33 ≤ 12) : Sol S 10000 999990000 (cnv w) := by
  refine ⟨fun c f t c4 c9 f0 ft tl => ?_, fun A f t a0 a4 f0 ft tl => ?_⟩
  · have e := h.1 c f t c4 c9 f0 ft tl
    have hb := lc_bd (S := S) (c := c) ft
    unfold cnv
    rw [e, if_pos (by omega)]
    omega
  · obtain ⟨⟨b1, b2⟩, b3, b4⟩ := h.2 A f t a0 a4 f0 ft tl
    have hfn : ∀ p a b, 0 ≤ p → p < S 0 0 → f ≤ a → a ≤ b → b ≤ t → ∀ x ∈ pts S p f a b t, cnv w x.1 x.2.1 x.2.2 < 999990000 ↔ w x.1 x.2.1 x.2.2 < 500000000 := fun p a b p0 p1 h1 h2 h3 x hm => by
      have q := pts_ok hg ⟨p0, p1⟩ h1 h2 h3 x hm
      exact cnv_fin (h.nn (by decide) q.1 (by omega) q.2.2.1 (by omega))
    refine ⟨?_, fun p a b p0 p1 hA h1 h2 h3 hfin => ?_, fun hE => ?_⟩
    · unfold cnv
      split
      · omega
      · omega
    · have hfin' : ∀ x ∈ pts S p f a b t, w x.1 x.2.1 x.2.2 < 500000000 := fun x hm => (hfn p a b p0 p1 h1 h2 h3 x hm).mp (hfin x hm)
      obtain ⟨c, n, ⟨g1, g2, g3⟩, ⟨g4, -, -⟩, g5, g6⟩ := cd_cn hg h hl ⟨p0, p1⟩ f0 h1 h2 h3 tl hfin'
      have hc := b3 p a b p0 p1 hA h1 h2 h3 hfin'
      obtain ⟨c', n', k1, k2⟩ := h.nod2 hg (by decide) hl a0 a4 f0 ft tl (by omega)
      have k3 := cnv_cn k1 k2 (by omega)
      obtain ⟨k4, k5, k6⟩ := k1
      have k7 := k3.1
      omega
    · have hE' := (cnv_fin (w := w) (c := A) (f := f) (t := t) (by omega)).mp hE
      obtain ⟨p, a, b, hp, hA, hab, hfin, heq⟩ := b4 hE'
      refine ⟨p, a, b, hp, hA, hab, fun x hm => (hfn p a b hp.1 hp.2 hab.1 hab.2.1 hab.2.2 x hm).mpr (hfin x hm), ?_⟩
      obtain ⟨c, n, ⟨g1, g2, g3⟩, ⟨g4, -, -⟩, g5, g6⟩ := cd_cn hg h hl hp f0 hab.1 hab.2.1 hab.2.2 tl hfin
      obtain ⟨c', n', k1, k2⟩ := h.nod2 hg (by decide) hl a0 a4 f0 ft tl hE'
      have k3 := (cnv_cn k1 k2 hE').1
      have k4 := k1.1
      have k5 := k1.2
      omega
/-- a candidate is a best one in one base where it is in the other -/
theorem cnv_best {S : Mm} (hg : Okg S) {w : WsF} (h : Sol S 100000 500000000 w) (hl : S 0 33 ≤ 12) {A f t : Int} (a0 : 0 ≤ A) (a4 : A < 4) (f0 : 0 ≤ f) (tl : t ≤ S 0 33) (hE : w A f t < 500000000) {p a b : Int} (hp : 0 ≤ p ∧ p < S 0 0) (hA : S 1 p.toNat = A) (h1 : f ≤ a) (h2 : a ≤ b) (h3 : b ≤ t) (hfin : ∀ x ∈ pts S p f a b t, w x.1 x.2.1 x.2.2 < 500000000) : cdv S 100000 w p f a b t = w A f t ↔ cdv S 10000 (cnv w) p f a b t = cnv w A f t := by
  have ft : f ≤ t := by omega
  have hc := (h.2 A f t a0 a4 f0 ft tl).2.1 p a b hp.1 hp.2 hA h1 h2 h3 hfin
  obtain ⟨c, n, ⟨g1, g2, g3⟩, ⟨g4, -, -⟩, g5, g6⟩ := cd_cn hg h hl hp f0 h1 h2 h3 tl hfin
  obtain ⟨c', n', k1, k2⟩ := h.nod2 hg (by decide) hl a0 a4 f0 ft tl hE
  have k3 := (cnv_cn k1 k2 hE).1
  have k4 := k1.1
  have k5 := k1.2
  omega
