/-! what is known by stages; what an attribute is -/
def KL (S : Mm) (rg : Nat → Int) : Nat → Nat → Option (Int × Int)
  | 0, s => if S 12 (s % 6) = 3 then some (rg s, 0) else none
  | i + 1, s => if S 12 (s % 6) = 3 then some (rg s, 0) else ((spc S (KL S rg i) ((s / 6 : Nat) : Int) ((s % 6 : Nat) : Int)).2).map fun v => (v, 0)
theorem KL_ring {S : Mm} {rg : Nat → Int} {s : Nat} (h : S 12 (s % 6) = 3) (i : Nat) : KL S rg i s = some (rg s, 0) := by
  cases i <;> exact if_pos h
theorem KL_zero {S : Mm} {rg : Nat → Int} {s : Nat} (h : S 12 (s % 6) ≠ 3) : KL S rg 0 s = none := if_neg h
theorem fvKL_succ {S : Mm} {rg : Nat → Int} {s : Nat} (h : S 12 (s % 6) ≠ 3) (i : Nat) : fv (KL S rg (i + 1)) s = (spc S (KL S rg i) ((s / 6 : Nat) : Int) ((s % 6 : Nat) : Int)).2 := by
  have e : KL S rg (i + 1) s = ((spc S (KL S rg i) ((s / 6 : Nat) : Int) ((s % 6 : Nat) : Int)).2).map fun v => (v, 0) := if_neg h
  unfold fv
  rw [e, Option.map_map]
  cases (spc S (KL S rg i) ((s / 6 : Nat) : Int) ((s % 6 : Nat) : Int)).2 <;> rfl
/-- more is known, in values -/
def ExF (L L' : Nat → Option (Int × Int)) : Prop := ∀ s v, fv L s = some v → fv L' s = some v
theorem mem_split {x : Nat} {l : List Nat} (h : x ∈ l) : ∃ t u, l = t ++ x :: u := List.append_of_mem h
-- what comes of it comes of it where more is known
theorem spc_more {S : Mm} {L L' : Nat → Option (Int × Int)} (hL : ∀ x v, fv L x = some v → v = v → fv L' x = some v) {n a : Int} {t : List Nat} {v : Int} (h : spc S L n a = (t, some v)) : spc S L' n a = (t, some v) := by
  rcases DF_spc S L L' n a with e | ⟨t1, x, u, u', e1, e2, e3⟩
  · rw [← e]; exact h
  · exfalso
    have z := STr_spc S L n a t1 x u e1
    cases hx : fv L x with
    | none =>
      have := (z.1 hx).2
      rw [h] at this
      cases this
    | some w => exact e3 (by rw [hx, hL x w hx rfl])
theorem spc_known {S : Mm} {L : Nat → Option (Int × Int)} {n a : Int} {t : List Nat} {v : Int} (h : spc S L n a = (t, some v)) : ∀ x ∈ t, ∃ w, fv L x = some w := by
  intro x hx
  obtain ⟨t1, u, e⟩ := mem_split hx
  have z := STr_spc S L n a t1 x u (by rw [h]; exact e)
  cases hw : fv L x with
  | none =>
    have := (z.1 hw).2
    rw [h] at this
    cases this
  | some w => exact ⟨w, rfl⟩
theorem KL_mono {S : Mm} {rg : Nat → Int} : ∀ i, ExF (KL S rg i) (KL S rg (i + 1)) := by
  intro i
  induction i with
  | zero =>
    intro s v h
    by_cases c : S 12 (s % 6) = 3
    · unfold fv at h ⊢
      rw [KL_ring c] at h ⊢
      exact h
    · unfold fv at h
      rw [KL_zero c] at h
      cases h
  | succ i ih =>
    intro s v h
    by_cases c : S 12 (s % 6) = 3
    · unfold fv at h ⊢
      rw [KL_ring c] at h ⊢
      exact h
    · rw [fvKL_succ c] at h ⊢
      have e : spc S (KL S rg i) ((s / 6 : Nat) : Int) ((s % 6 : Nat) : Int) = ((spc S (KL S rg i) ((s / 6 : Nat) : Int) ((s % 6 : Nat) : Int)).1, some v) := Prod.ext rfl h
      rw [spc_more (fun x w hw _ => ih x w hw) e]
theorem KL_le {S : Mm} {rg : Nat → Int} {i j : Nat} (h : i ≤ j) : ExF (KL S rg i) (KL S rg j) := by
  obtain ⟨d, rfl⟩ : ∃ d, j = i + d := ⟨j - i, by omega⟩
  clear h
  induction d with
  | zero => exact fun s v hv => hv
  | succ d ih => exact fun s v hv => KL_mono _ s v (ih s v hv)
def Dt (S : Mm) (rg : Nat → Int) (s : Nat) (v : Int) : Prop := ∃ i, fv (KL S rg i) s = some v
theorem Dt.uniq {S : Mm} {rg : Nat → Int} {s : Nat} {v w : Int} (h : Dt S rg s v) (h' : Dt S rg s w) : v = w := by
  obtain ⟨i, hi⟩ := h
  obtain ⟨j, hj⟩ := h'
  have a := KL_le (Nat.le_max_left i j) s v hi
  have b := KL_le (Nat.le_max_right i j) s w hj
  rw [a] at b
  exact Option.some.inj b
/-- what an attribute is: CYCLE where nothing ever comes of it -/
noncomputable def Vs (S : Mm) (rg : Nat → Int) (s : Nat) : Int := @dite _ (∃ v, Dt S rg s v) (Classical.propDecidable _) (fun h => Classical.choose h) fun _ => -2
theorem Vs_of {S : Mm} {rg : Nat → Int} {s : Nat} {v : Int} (h : Dt S rg s v) : Vs S rg s = v := by
  have hx : ∃ v, Dt S rg s v := ⟨v, h⟩
  have e : Vs S rg s = Classical.choose hx := dif_pos hx
  rw [e]
  exact (Classical.choose_spec hx).uniq h
theorem Vs_not {S : Mm} {rg : Nat → Int} {s : Nat} (h : ¬ ∃ v, Dt S rg s v) : Vs S rg s = -2 := dif_neg h
theorem Vs_ring {S : Mm} {rg : Nat → Int} {s : Nat} (h : S 12 (s % 6) = 3) : Vs S rg s = rg s := Vs_of ⟨0, by unfold fv; rw [KL_ring h]; rfl⟩
/-- all as it is -/
noncomputable def Lst_ (S : Mm) (rg : Nat → Int) (s : Nat) : Option (Int × Int) := some (Vs S rg s, 0)
theorem fvLst (S : Mm) (rg : Nat → Int) (s : Nat) : fv (Lst_ S rg) s = some (Vs S rg s) := rfl
theorem KL_Lst {S : Mm} {rg : Nat → Int} (i : Nat) : ExF (KL S rg i) (Lst_ S rg) := fun s v h => by rw [fvLst, Vs_of ⟨i, h⟩]
/-- as far as something comes of it -/
noncomputable def Ld (S : Mm) (rg : Nat → Int) (s : Nat) : Option (Int × Int) := @ite _ (∃ v, Dt S rg s v) (Classical.propDecidable _) (some (Vs S rg s, 0)) none
theorem fvLd_of {S : Mm} {rg : Nat → Int} {s : Nat} {v : Int} (h : Dt S rg s v) : fv (Ld S rg) s = some v := by
  have e : Ld S rg s = some (Vs S rg s, 0) := if_pos ⟨v, h⟩
  unfold fv
  rw [e, Vs_of h]; rfl
theorem fvLd_not {S : Mm} {rg : Nat → Int} {s : Nat} (h : ¬ ∃ v, Dt S rg s v) : fv (Ld S rg) s = none := by
  have e : Ld S rg s = none := if_neg h
  unfold fv
  rw [e]; rfl
theorem stage_of {S : Mm} {rg : Nat → Int} : ∀ t : List Nat, (∀ x ∈ t, ∃ v, Dt S rg x v) → ∃ N, ∀ x ∈ t, ∃ v, fv (KL S rg N) x = some v := by
  intro t
  induction t with
  | nil => exact fun _ => ⟨0, fun x hx => absurd hx (List.not_mem_nil)⟩
  | cons y t ih =>
    intro h
    obtain ⟨N, hN⟩ := ih fun x hx => h x (List.mem_cons_of_mem _ hx)
    obtain ⟨v, i, hi⟩ := h y (List.mem_cons_self ..)
    refine ⟨max i N, fun x hx => ?_⟩
    rcases List.mem_cons.mp hx with q | q
    · subst q; exact ⟨v, KL_le (Nat.le_max_left i N) _ _ hi⟩
    · obtain ⟨w, hw⟩ := hN x q
      exact ⟨w, KL_le (Nat.le_max_right i N) _ _ hw⟩
/-- the slots at which an attribute looks -/
noncomputable def Rd (S : Mm) (rg : Nat → Int) (s : Nat) : List Nat := (spc S (Lst_ S rg) ((s / 6 : Nat) : Int) ((s % 6 : Nat) : Int)).1
-- an attribute at a stage looks at what was known at the stage ahead
theorem Dt_reads {S : Mm} {rg : Nat → Int} {s : Nat} (h3 : S 12 (s % 6) ≠ 3) {i : Nat} {v : Int} (h : fv (KL S rg (i + 1)) s = some v) : spc S (Lst_ S rg) ((s / 6 : Nat) : Int) ((s % 6 : Nat) : Int) = (Rd S rg s, some v) ∧ spc S (KL S rg i) ((s / 6 : Nat) : Int) ((s % 6 : Nat) : Int) = (Rd S rg s, some v) ∧ ∀ x ∈ Rd S rg s, ∃ w, fv (KL S rg i) x = some w := by
  rw [fvKL_succ h3] at h
  have e : spc S (KL S rg i) ((s / 6 : Nat) : Int) ((s % 6 : Nat) : Int) = ((spc S (KL S rg i) ((s / 6 : Nat) : Int) ((s % 6 : Nat) : Int)).1, some v) := Prod.ext rfl h
  have e2 := spc_more (fun x w hw _ => KL_Lst i x w hw) e
  have e3 : Rd S rg s = (spc S (KL S rg i) ((s / 6 : Nat) : Int) ((s % 6 : Nat) : Int)).1 := by unfold Rd; rw [e2]
  rw [← e3] at e e2
  exact ⟨e2, e, spc_known e⟩
theorem Vs_fix {S : Mm} (hO : Oke S) {rg : Nat → Int} {s : Nat} (h3 : S 12 (s % 6) ≠ 3) : spc S (Lst_ S rg) ((s / 6 : Nat) : Int) ((s % 6 : Nat) : Int) = (Rd S rg s, some (Vs S rg s)) := by
  by_cases hd : ∃ v, Dt S rg s v
  · obtain ⟨v, i, hi⟩ := hd
    match i, hi with
    | 0, hi => unfold fv at hi; rw [KL_zero h3] at hi; cases hi
    | i + 1, hi =>
      rw [Vs_of ⟨i + 1, hi⟩]
      exact (Dt_reads h3 hi).1
  · rw [Vs_not hd]
    have hno : (spc S (Ld S rg) ((s / 6 : Nat) : Int) ((s % 6 : Nat) : Int)).2 = none := by
      cases ho : (spc S (Ld S rg) ((s / 6 : Nat) : Int) ((s % 6 : Nat) : Int)).2 with
      | none => rfl
      | some v =>
        exfalso
        have e : spc S (Ld S rg) ((s / 6 : Nat) : Int) ((s % 6 : Nat) : Int) = ((spc S (Ld S rg) ((s / 6 : Nat) : Int) ((s % 6 : Nat) : Int)).1, some v) := Prod.ext rfl ho
        have kn := spc_known e
        have kd : ∀ x ∈ (spc S (Ld S rg) ((s / 6 : Nat) : Int) ((s % 6 : Nat) : Int)).1, ∃ v, Dt S rg x v := fun x hx => by
          by_cases c : ∃ v, Dt S rg x v
          · exact c
          · obtain ⟨w, hw⟩ := kn x hx
            rw [fvLd_not c] at hw
            cases hw
        obtain ⟨N, hN⟩ := stage_of _ kd
        rcases DF_spc S (Ld S rg) (KL S rg N) ((s / 6 : Nat) : Int) ((s % 6 : Nat) : Int) with q | ⟨t1, x, u, u', e1, e2, e3⟩
        · refine hd ⟨v, N + 1, ?_⟩
          rw [fvKL_succ h3, ← q]; exact ho
        · have hx : x ∈ (spc S (Ld S rg) ((s / 6 : Nat) : Int) ((s % 6 : Nat) : Int)).1 := by rw [e1]; simp
          obtain ⟨w, hw⟩ := hN x hx
          exact e3 (by rw [hw, fvLd_of ⟨N, hw⟩])
    have hun : ∀ x, fv (Ld S rg) x ≠ fv (Lst_ S rg) x → ¬ ∃ v, Dt S rg x v := fun x hx ⟨v, hv⟩ => hx (by rw [fvLd_of hv, fvLst, Vs_of hv])
    rcases DF_spc S (Ld S rg) (Lst_ S rg) ((s / 6 : Nat) : Int) ((s % 6 : Nat) : Int) with q | ⟨t1, x, u, u', e1, e2, e3⟩
    · exfalso
      rw [q] at hno
      obtain ⟨x, -, hx⟩ := SNr_spc hO (Lst_ S rg) _ _ (Int.natCast_nonneg _) hno
      rw [fvLst] at hx
      cases hx
    · have hu := hun x e3
      have z := STr_spc S (Lst_ S rg) _ _ t1 x u' e2
      have w := (z.2 (by rw [fvLst, Vs_not hu])).2
      exact Prod.ext rfl w
-- where each looks at another one, nothing comes of any
theorem cyc_not {S : Mm} {rg : Nat → Int} (P : Nat → Prop) (h : ∀ x, P x → S 12 (x % 6) ≠ 3 ∧ ∃ y, P y ∧ y ∈ Rd S rg x) : ∀ x, P x → ¬ ∃ v, Dt S rg x v := by
  have key : ∀ i x, P x → ∀ v, fv (KL S rg i) x ≠ some v := by
    intro i
    induction i with
    | zero =>
      intro x hx v hv
      unfold fv at hv
      rw [KL_zero (h x hx).1] at hv
      cases hv
    | succ i ih =>
      intro x hx v hv
      obtain ⟨y, y1, y2⟩ := (h x hx).2
      obtain ⟨w, hw⟩ := (Dt_reads (h x hx).1 hv).2.2 y y2
      exact ih y y1 w hw
  exact fun x hx ⟨v, i, hi⟩ => key i x hx v hi
theorem cyc_V {S : Mm} {rg : Nat → Int} (P : Nat → Prop) (h : ∀ x, P x → S 12 (x % 6) ≠ 3 ∧ ∃ y, P y ∧ y ∈ Rd S rg x) {x : Nat} (hx : P x) : Vs S rg x = -2 := Vs_not (cyc_not P h x hx)
