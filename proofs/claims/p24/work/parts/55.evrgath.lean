/-! the reference gathers, and tries an attribute -/
theorem r_expressed {S : Mm} (hg : Okg S) (hO : Oke S) (hN : Okn S) (hP : PlO S) {B : Int} (hB : B = 0 ∨ B = 360) {rg bv bh : Nat → Int} {op : List Int} (hbd : BdO S rg bv bh) (hbh : BdH S bh) {rb : Bool} {m : Int} (hm : 0 ≤ m ∧ m < S 0 35) {h k : Nat} (hk : (k : Int) < S 0 19) {i : Nat} (hi : i < eN S k) {M : Mm} {hc : Int} {l : List Int} (hT : TrR S M B rg bv bh op hc l) (hst : StF S M m h k) (hrb : rb = true ↔ Rec M) :
    (∀ v, (evo S (Lk S rg bv bh op) m (S 31 m.toNat) h k 8 i).2 = some v → (-3 ≤ v ∧ v < 1000 + S 0 35) ∧ ∃ M', f_X12_expressed k ((8 * k + i : Nat) : Int) m M = some (pv S v, M') ∧ TrR S M' B rg bv bh op (ob (Lk S rg bv bh op) hc (evo S (Lk S rg bv bh op) m (S 31 m.toNat) h k 8 i).1) (lsB rb l (evo S (Lk S rg bv bh op) m (S 31 m.toNat) h k 8 i).1) ∧ FrE 0 M M') ∧
    ((evo S (Lk S rg bv bh op) m (S 31 m.toNat) h k 8 i).2 = none → ∃ (w : Int) (M' : Mm) (t' : List Nat) (s : Nat), f_X12_expressed k ((8 * k + i : Nat) : Int) m M = some (w, M') ∧ (evo S (Lk S rg bv bh op) m (S 31 m.toNat) h k 8 i).1 = t' ++ [s] ∧ M' 0 72 = (s : Int) / 6 ∧ M' 0 73 = (s : Int) % 6 ∧ M' 0 72 ≠ -1 ∧ Sl (lsB rb l (evo S (Lk S rg bv bh op) m (S 31 m.toNat) h k 8 i).1) ∧ (Rec M → LsR M' (lsB rb l (evo S (Lk S rg bv bh op) m (S 31 m.toNat) h k 8 i).1)) ∧ FrE 0 M M') := by
  have h30 := hO.1
  have hOk := hO.2.1 k hk
  have hn8 : eN S k ≤ 8 := by unfold eN; have := hOk.2.2.2.1; omega
  generalize hM3 : up (up M 62 0 ((8 * k + i : Nat) : Int)) 63 0 0 = M3
  have f1 : ∀ j, j ≠ 62 → j ≠ 63 → j ≠ 64 → M3 j = M j := fun j j1 j2 _ => by rw [← hM3, up_ne _ _ _ j2, up_ne _ _ _ j1]
  have F1 : FrE 0 M M3 := ⟨fun j _ _ a b c => f1 j a b c, fun i _ _ _ _ _ => by rw [f1 0 (by decide) (by decide) (by decide)], fun _ _ i hi => absurd hi (Nat.not_lt_zero _)⟩
  have e16 : M 16 k = S 16 k := by rw [hT.1.1 16 (by decide) (by decide) (by decide)]
  have hun : f_X12_expressed k ((8 * k + i : Nat) : Int) m M = Lp (f_X12_expressed_L28_102 m (S 16 k) fun v4 M5 => some (v4, M5)) FU (((0 + 1 : Nat) : Int), -1, M3) := by
    unfold f_X12_expressed
    simp only [LtE]
    rw [gdE (by omega), gdE (by decide), gdE (by decide), Int.toNat_natCast, e16, ← hM3]
    rfl
  obtain ⟨A1, A2⟩ := r_expr hg hO hN hP hB hbd hbh (rb := rb) hm (h := h) hk (J := fun v4 M5 => some (v4, M5)) 8 i hi (by omega) 0 FU (-1) M3 hc l (by omega) (by rw [← hM3, up_ne _ _ _ (by decide), up_at]) (by rw [← hM3, up_at]) (hT.stack f1) (hst.frl (by rw [f1 0 (by decide) (by decide) (by decide)]) (f1 59 (by decide) (by decide) (by decide))) (hrb.trans F1.rec_.symm) (by show 4 * 2 ^ 8 ≤ 1000000000000000; decide)
  rw [← hun] at A1 A2
  refine ⟨fun v hv => ?_, fun hno => ?_⟩
  · obtain ⟨vb, c, M', y1, y2, y3, y4⟩ := A1 v hv
    refine ⟨vb, M', ?_, y3, F1.trans y4⟩
    have hFU : FU - c = (FU - c - 1) + 1 := by
      have : FU = 1000000000000000 := rfl
      omega
    rw [y2, hFU, Lp_s, eb_over (Or.inl (by decide))]
  · obtain ⟨w, M', t', s, u1, u2, u3, u4, u5, u6, u7, u8⟩ := A2 hno
    exact ⟨w, M', t', s, u1, u2, u3, u4, u5, u6, fun hr => u7 (F1.rec_.mpr hr), F1.trans u8⟩
def FrG (M M' : Mm) : Prop := (∀ j, j ≠ 0 → j ≠ 59 → j ≠ 60 → j ≠ 61 → j ≠ 62 → j ≠ 63 → j ≠ 64 → M' j = M j) ∧ ∀ i, i ≠ 72 → i ≠ 73 → i ≠ 74 → i ≠ 75 → i ≠ 76 → i ≠ 80 → M' 0 i = M 0 i
theorem FrG.refl (M : Mm) : FrG M M := ⟨fun _ _ _ _ _ _ _ _ => rfl, fun _ _ _ _ _ _ _ => rfl⟩
theorem FrG.trans {A B D : Mm} (h : FrG A B) (h' : FrG B D) : FrG A D := ⟨fun j a b c d e f g => (h'.1 j a b c d e f g).trans (h.1 j a b c d e f g), fun i a b c d e f => (h'.2 i a b c d e f).trans (h.2 i a b c d e f)⟩
theorem FrE.frg {n : Nat} {A B : Mm} (h : FrE n A B) : FrG A B := ⟨fun j a _ _ d e f g => h.1 j a d e f g, fun i a b c d _ f => h.2.1 i a b c d f⟩
theorem FrL.frg {A B : Mm} (h : FrL A B) : FrG A B := ⟨fun j a _ _ d _ _ _ => h.1 j a d, fun i a b c d _ f => h.2 i a b c d f⟩
theorem TF.frg {A B : Mm} (h : TF A B) : FrG A B := ⟨fun j a b c _ _ _ _ => h.1 j a b c, fun i _ _ _ _ e _ => h.2 i e⟩
theorem FrG.rec_ {A B : Mm} (h : FrG A B) : Rec B ↔ Rec A := by
  unfold Rec
  rw [h.2 79 (by decide) (by decide) (by decide) (by decide) (by decide) (by decide), h.2 69 (by decide) (by decide) (by decide) (by decide) (by decide) (by decide)]
/-- the outcome of a try -/
def Qo (S : Mm) (rg bv bh : Nat → Int) (op : List Int) (B : Int) (rb : Bool) (E : List Nat × Option Int) (hc : Int) (l : List Int) (M : Mm) (r : Int × Mm) : Prop :=
  (∀ v, E.2 = some v → r.1 = pv S v ∧ (-3 ≤ v ∧ v < 1000 + S 0 35) ∧ TrR S r.2 B rg bv bh op (ob (Lk S rg bv bh op) hc E.1) (lsB rb l E.1) ∧ FrG M r.2) ∧
  (E.2 = none → ∃ (t' : List Nat) (s : Nat), E.1 = t' ++ [s] ∧ r.2 0 72 = (s : Int) / 6 ∧ r.2 0 73 = (s : Int) % 6 ∧ r.2 0 72 ≠ -1 ∧ Sl (lsB rb l E.1) ∧ (Rec M → LsR r.2 (lsB rb l E.1)) ∧ FrG M r.2)
theorem Qo.cat {S : Mm} {rg bv bh : Nat → Int} {op : List Int} {B : Int} {rb : Bool} {E : List Nat × Option Int} {hc : Int} {l : List Int} {M M1 : Mm} {r : Int × Mm} {t0 : List Nat} (h : Qo S rg bv bh op B rb E (ob (Lk S rg bv bh op) hc t0) (lsB rb l t0) M1 r) (hF : FrG M M1) : Qo S rg bv bh op B rb (t0 ++ E.1, E.2) hc l M r := by
  refine ⟨fun v hv => ?_, fun hno => ?_⟩
  · obtain ⟨a1, a2, a3, a4⟩ := h.1 v hv
    exact ⟨a1, a2, by simp only; rw [ob_app, lsB_app]; exact a3, hF.trans a4⟩
  · obtain ⟨t', s, a1, a2, a3, a4, a5, a6, a7⟩ := h.2 hno
    exact ⟨t0 ++ t', s, by simp only; rw [a1, List.append_assoc], a2, a3, a4, by simp only; rw [lsB_app]; exact a5, fun hr => by simp only; rw [lsB_app]; exact a6 (hF.rec_.mpr hr), hF.trans a7⟩
theorem r_ident {J : Int → Int → Int → Mm → Rs} {a b c : Int} {M : Mm} : Lp (f_X12_gathers_L58_94 J) FU (a, b, c, 0, M) = J a b c (sr M 59 fun j => if j < 3 then (j : Int) else M 59 j) := by
  refine Lp_for 3 (fun i => (a, b, c, (i : Int), sr M 59 fun j => if j < i then (j : Int) else M 59 j)) (fun rc i hi => ?_) (fun rc => ?_) (FU_lt (by omega)) ?_
  · simp only [f_X12_gathers_L58_94, LtE]
    rw [if_neg (by omega), gdE (by omega), wrE (by omega) (by omega), up_sr, sr_sr, sr_at]
    refine congrArg rc (Prod.ext rfl (Prod.ext rfl (Prod.ext rfl (Prod.ext (by simp only; omega) (congrArg (sr M 59) (funext fun j => ?_))))))
    rw [Int.toNat_natCast]
    by_cases e : j = i
    · subst e; rw [if_pos rfl, if_pos (by omega)]
    · rw [if_neg e]
      by_cases e2 : j < i
      · rw [if_pos e2, if_pos (by omega)]
      · rw [if_neg e2, if_neg (by omega)]
  · simp only [f_X12_gathers_L58_94, LtE]
    rw [if_pos (by omega)]
  · have : (fun (j : Nat) => if j < 0 then (j : Int) else M 59 j) = M 59 := funext fun j => if_neg (Nat.not_lt_zero _)
    simp only [this, sr_self]
    rfl
theorem TrR.g_ {S M M' : Mm} {B : Int} {rg bv bh : Nat → Int} {op : List Int} {hc : Int} {l : List Int} (hT : TrR S M B rg bv bh op hc l) (e : ∀ j, j ≠ 0 → j ≠ 59 → j ≠ 60 → M' j = M j) (e0 : ∀ i, i ≠ 76 → M' 0 i = M 0 i) : TrR S M' B rg bv bh op hc l := by
  obtain ⟨hA, e036, e36, e68, e72, hO, hc1, hH, hS, hl⟩ := hT
  refine ⟨⟨fun j j1 j2 j3 => (e j (by omega) (by omega) (by omega)).trans (hA.1 j j1 j2 j3), fun i hi => by rw [e0 i (by omega)]; exact hA.2 i hi⟩, by rw [e0 36 (by decide)]; exact e036, by rw [e 36 (by decide) (by decide) (by decide)]; exact e36, by rw [e0 68 (by decide)]; exact e68, by rw [e0 72 (by decide)]; exact e72, hO.frl fun j hj => e j (by omega) (by omega) (by omega), hc1, by rw [e0 74 (by decide), e0 75 (by decide)]; exact hH, hS, fun hr => ?_⟩
  unfold Rec at hr
  unfold LsR at hl ⊢
  rw [e0 79 (by decide), e0 69 (by decide)] at hr
  rw [e0 80 (by decide), e 61 (by decide) (by decide) (by decide)]
  exact hl hr
theorem roots_cell {S : Mm} (hO : Oke S) {k : Nat} (hk : (k : Int) < S 0 19) : S 25 k = ((8 * k + rt1 S k : Nat) : Int) ∧ (S 12 (S 17 k).toNat = 2 → S 26 k = ((8 * k + rt2 S k : Nat) : Int)) := by
  have h := hO.2.1 k hk
  exact ⟨h.2.2.2.2.2.2.2.2.1, h.2.2.2.2.2.2.2.2.2⟩
theorem gls_step {S : Mm} {p a : Int} {j : Nat} (hj : (j : Int) < S 0 19) : gls S p a j = if mt S p a (-2) j then j :: gls S p a (j + 1) else gls S p a (j + 1) := by
  unfold gls
  rw [show (S 0 19).toNat - j = ((S 0 19).toNat - (j + 1)) + 1 by omega]
  rfl
theorem gls_end {S : Mm} {p a : Int} {j : Nat} (hj : S 0 19 ≤ j) : gls S p a j = [] := by
  unfold gls
  rw [show (S 0 19).toNat - j = 0 by omega]
  rfl
