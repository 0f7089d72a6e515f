/-! frames: what a method leaves as it was, if it answers -/
def Fk (k : Nat) (m : Nat → Int) (o : Rs) : Prop := ∀ r, o = some r → r.2 k = m
theorem Fk_some {k : Nat} {m : Nat → Int} {v : Int} {M : Mm} (h : M k = m) : Fk k m (some (v, M)) := fun r hr => by cases hr; exact h
theorem Fk_none {k : Nat} {m : Nat → Int} : Fk k m none := fun r hr => by cases hr
theorem Fk_gd {k : Nat} {m : Nat → Int} {c : Prop} [Decidable c] {o : Rs} (h : Fk k m o) : Fk k m (gd c o) := by
  unfold gd
  split
  · exact h
  · exact Fk_none
theorem Fk_if {k : Nat} {m : Nat → Int} {c : Prop} [Decidable c] {o o' : Rs} (h : Fk k m o) (h' : Fk k m o') : Fk k m (if c then o else o') := by
  split
  · exact h
  · exact h'
theorem Fk_Cl {k : Nat} {m : Nat → Int} {o : Rs} {q : Int → Mm → Rs} (h : Fk k m o) (hq : ∀ v M, M k = m → Fk k m (q v M)) : Fk k m (Cl o q) := by
  cases o with
  | none => exact Fk_none
  | some z => exact hq z.1 z.2 (h z rfl)
theorem Fk_at {k : Nat} {m : Nat → Int} {o : Rs} {M : Mm} (h : Fk k (M k) o) (e : M k = m) : Fk k m o := by rw [← e]; exact h
theorem Fk_Lp {σ : Type} {k : Nat} {m : Nat → Int} {body : (σ → Rs) → σ → Rs} (mem : σ → Mm) (hb : ∀ rc, (∀ x, mem x k = m → Fk k m (rc x)) → ∀ x, mem x k = m → Fk k m (body rc x)) : ∀ (f : Nat) (x : σ), mem x k = m → Fk k m (Lp body f x) := by
  intro f
  induction f with
  | zero => exact fun x hx => Fk_none
  | succ f ih => exact fun x hx => hb _ ih x hx
theorem Fk_lt {β : Type} {k : Nat} {m : Nat → Int} {x : β} {q : β → Rs} (h : ∀ v, Fk k m (q v)) : Fk k m (Lt x q) := h x
theorem Fk_ltm {k : Nat} {m : Nat → Int} {M1 : Mm} {q : Mm → Rs} (e : M1 k = m) (h : ∀ M, M k = m → Fk k m (q M)) : Fk k m (Lt M1 q) := h M1 e
theorem Fk_join {β : Type} {k : Nat} {m : Nat → Int} {x : β} {q : β → Rs} (P : β → Prop) (h : P x) (hq : ∀ J, P J → Fk k m (q J)) : Fk k m (Lt x q) := hq x h
theorem Fk_up {k c i : Nat} {v : Int} {m : Nat → Int} {M : Mm} (h : k ≠ c) (e : M k = m) : up M c i v k = m := by rw [up_ne _ _ _ h]; exact e
theorem fr_f_X11_fillRow_L2_9 (k : Nat) (m : Nat → Int) (r1 : Nat) (a2 : Int) (J18_2 : Mm → Rs) (hw0 : k ≠ r1) (hJ18_2 : ∀ (x0 : Mm), x0 k = m → Fk k m (J18_2 x0)) (rc0 : Int × Mm → Rs) (hrc0 : ∀ x, x.2 k = m → Fk k m (rc0 x)) (x0 : Int × Mm) (hx0 : x0.2 k = m) : Fk k m (f_X11_fillRow_L2_9 r1 a2 J18_2 rc0 x0) := by
  obtain ⟨v3, M4⟩ := x0
  replace hx0 : M4 k = m := hx0
  have hM4 := hx0
  unfold f_X11_fillRow_L2_9
  dsimp only
  refine Fk_if ?_ ?_
  · exact hJ18_2 _ hM4
  · refine Fk_gd ?_
    refine Fk_ltm (Fk_up hw0 hM4) (fun M7 hM7 => ?_)
    refine Fk_lt (fun v8 => ?_)
    exact hrc0 _ hM7
theorem fr_f_X11_fillRow (k : Nat) (r1 : Nat) (a2 : Int) (hw0 : k ≠ r1) (M : Mm) : Fk k (M k) (f_X11_fillRow r1 a2 M) := by
  obtain ⟨m, hM⟩ : ∃ m, M k = m := ⟨_, rfl⟩
  rw [hM]
  unfold f_X11_fillRow
  refine Fk_join (fun J => ∀ (M1 : Mm), M1 k = m → Fk k m (J M1)) ?_ (fun J18_2 hJ18_2 => ?_)
  · intro M1 hM1
    exact Fk_some hM1
  exact Fk_Lp (fun x => x.2) (fun rc hrc x hx => fr_f_X11_fillRow_L2_9 k m _ _ _ hw0 hJ18_2 rc hrc x hx) _ _ hM
theorem fr_f_X11_setEntry (k : Nat) (r1 : Nat) (a2 : Int) (a3 : Int) (hw0 : k ≠ r1) (M : Mm) : Fk k (M k) (f_X11_setEntry r1 a2 a3 M) := by
  obtain ⟨m, hM⟩ : ∃ m, M k = m := ⟨_, rfl⟩
  rw [hM]
  unfold f_X11_setEntry
  refine Fk_join (fun J => ∀ (M1 : Mm), M1 k = m → Fk k m (J M1)) ?_ (fun J14_2 hJ14_2 => ?_)
  · intro M1 hM1
    exact Fk_some hM1
  refine Fk_if ?_ ?_
  · exact hJ14_2 _ hM
  · refine Fk_if ?_ ?_
    · exact hJ14_2 _ hM
    · refine Fk_gd ?_
      refine Fk_ltm (Fk_up hw0 hM) (fun M5 hM5 => ?_)
      exact hJ14_2 _ hM5
theorem fr_f_X5_forwardOf (k : Nat) (a1 : Int)  (M : Mm) : Fk k (M k) (f_X5_forwardOf a1 M) := by
  obtain ⟨m, hM⟩ : ∃ m, M k = m := ⟨_, rfl⟩
  rw [hM]
  unfold f_X5_forwardOf
  refine Fk_join (fun J => ∀ (v1 : Int) (M2 : Mm), M2 k = m → Fk k m (J v1 M2)) ?_ (fun J20_3 hJ20_3 => ?_)
  · intro v1 M2 hM2
    exact Fk_some hM2
  refine Fk_join (fun J => ∀ (M4 : Mm), M4 k = m → Fk k m (J M4)) ?_ (fun J19_5 hJ19_5 => ?_)
  · intro M4 hM4
    exact hJ20_3 _ _ hM4
  refine Fk_if ?_ ?_
  · exact hJ19_5 _ hM
  · refine Fk_if ?_ ?_
    · exact hJ19_5 _ hM
    · refine Fk_gd ?_
      refine Fk_lt (fun v8 => ?_)
      exact hJ20_3 _ _ hM
theorem fr_f_X5_childCountOf (k : Nat) (a1 : Int)  (M : Mm) : Fk k (M k) (f_X5_childCountOf a1 M) := by
  obtain ⟨m, hM⟩ : ∃ m, M k = m := ⟨_, rfl⟩
  rw [hM]
  unfold f_X5_childCountOf
  refine Fk_join (fun J => ∀ (v1 : Int) (M2 : Mm), M2 k = m → Fk k m (J v1 M2)) ?_ (fun J20_3 hJ20_3 => ?_)
  · intro v1 M2 hM2
    exact Fk_some hM2
  refine Fk_join (fun J => ∀ (M4 : Mm), M4 k = m → Fk k m (J M4)) ?_ (fun J19_5 hJ19_5 => ?_)
  · intro M4 hM4
    exact hJ20_3 _ _ hM4
  refine Fk_if ?_ ?_
  · exact hJ19_5 _ hM
  · refine Fk_if ?_ ?_
    · exact hJ19_5 _ hM
    · refine Fk_gd ?_
      refine Fk_lt (fun v8 => ?_)
      exact hJ20_3 _ _ hM
theorem fr_f_X11_entryOf (k : Nat) (r1 : Nat) (a2 : Int)  (M : Mm) : Fk k (M k) (f_X11_entryOf r1 a2 M) := by
  obtain ⟨m, hM⟩ : ∃ m, M k = m := ⟨_, rfl⟩
  rw [hM]
  unfold f_X11_entryOf
  refine Fk_join (fun J => ∀ (v1 : Int) (M2 : Mm), M2 k = m → Fk k m (J v1 M2)) ?_ (fun J17_3 hJ17_3 => ?_)
  · intro v1 M2 hM2
    exact Fk_some hM2
  refine Fk_join (fun J => ∀ (M4 : Mm), M4 k = m → Fk k m (J M4)) ?_ (fun J16_5 hJ16_5 => ?_)
  · intro M4 hM4
    exact hJ17_3 _ _ hM4
  refine Fk_if ?_ ?_
  · exact hJ16_5 _ hM
  · refine Fk_if ?_ ?_
    · exact hJ16_5 _ hM
    · refine Fk_gd ?_
      refine Fk_lt (fun v8 => ?_)
      exact hJ17_3 _ _ hM
theorem fr_f_X5_standInOf (k : Nat) (a1 : Int) (a2 : Int)  (M : Mm) : Fk k (M k) (f_X5_standInOf a1 a2 M) := by
  obtain ⟨m, hM⟩ : ∃ m, M k = m := ⟨_, rfl⟩
  rw [hM]
  unfold f_X5_standInOf
  refine Fk_join (fun J => ∀ (v1 : Int) (M2 : Mm), M2 k = m → Fk k m (J v1 M2)) ?_ (fun J14_3 hJ14_3 => ?_)
  · intro v1 M2 hM2
    refine Fk_join (fun J => ∀ (v4 : Int) (M5 : Mm), M5 k = m → Fk k m (J v4 M5)) ?_ (fun J35_6 hJ35_6 => ?_)
    · intro v4 M5 hM5
      exact Fk_some hM5
    refine Fk_if ?_ ?_
    · exact hJ35_6 _ _ hM2
    · refine Fk_lt (fun v8 => ?_)
      refine Fk_lt (fun v9 => ?_)
      refine Fk_Cl (Fk_at (fr_f_X11_entryOf k _ _  _) hM2) (fun v11 M10 hM10 => ?_)
      exact hJ35_6 _ _ hM10
  refine Fk_join (fun J => ∀ (M12 : Mm), M12 k = m → Fk k m (J M12)) ?_ (fun J13_13 hJ13_13 => ?_)
  · intro M12 hM12
    exact hJ14_3 _ _ hM12
  refine Fk_if ?_ ?_
  · exact hJ13_13 _ hM
  · refine Fk_if ?_ ?_
    · exact hJ13_13 _ hM
    · exact hJ14_3 _ _ hM
theorem fr_f_X10_childAt (k : Nat) (a1 : Int) (a2 : Int) (a3 : Int)  (M : Mm) : Fk k (M k) (f_X10_childAt a1 a2 a3 M) := by
  obtain ⟨m, hM⟩ : ∃ m, M k = m := ⟨_, rfl⟩
  rw [hM]
  unfold f_X10_childAt
  refine Fk_lt (fun v1 => ?_)
  refine Fk_lt (fun v2 => ?_)
  refine Fk_lt (fun v3 => ?_)
  refine Fk_lt (fun v4 => ?_)
  refine Fk_join (fun J => ∀ (v5 : Int) (M6 : Mm), M6 k = m → Fk k m (J v5 M6)) ?_ (fun J34_7 hJ34_7 => ?_)
  · intro v5 M6 hM6
    refine Fk_join (fun J => ∀ (v8 : Int) (M9 : Mm), M9 k = m → Fk k m (J v8 M9)) ?_ (fun J67_10 hJ67_10 => ?_)
    · intro v8 M9 hM9
      exact Fk_some hM9
    refine Fk_join (fun J => ∀ (M11 : Mm), M11 k = m → Fk k m (J M11)) ?_ (fun J66_12 hJ66_12 => ?_)
    · intro M11 hM11
      exact hJ67_10 _ _ hM11
    refine Fk_if ?_ ?_
    · exact hJ66_12 _ hM6
    · refine Fk_if ?_ ?_
      · exact hJ66_12 _ hM6
      · refine Fk_if ?_ ?_
        · exact hJ66_12 _ hM6
        · refine Fk_gd ?_
          refine Fk_lt (fun v16 => ?_)
          exact hJ67_10 _ _ hM6
  refine Fk_join (fun J => ∀ (M17 : Mm), M17 k = m → Fk k m (J M17)) ?_ (fun J33_18 hJ33_18 => ?_)
  · intro M17 hM17
    exact hJ34_7 _ _ hM17
  refine Fk_if ?_ ?_
  · exact hJ33_18 _ hM
  · refine Fk_if ?_ ?_
    · exact hJ33_18 _ hM
    · refine Fk_if ?_ ?_
      · exact hJ33_18 _ hM
      · refine Fk_if ?_ ?_
        · exact hJ33_18 _ hM
        · exact hJ34_7 _ _ hM
theorem fr_f_X10_arrangeOne_L39_46 (k : Nat) (m : Nat → Int) (a1 : Int) (v11 : Int) (J109_16 : Int → Int → Mm → Rs) (hw0 : k ≠ 24) (hJ109_16 : ∀ (x0 : Int) (x1 : Int) (x2 : Mm), x2 k = m → Fk k m (J109_16 x0 x1 x2)) (rc0 : Int × Int × Int × Int × Mm → Rs) (hrc0 : ∀ x, x.2.2.2.2 k = m → Fk k m (rc0 x)) (x0 : Int × Int × Int × Int × Mm) (hx0 : x0.2.2.2.2 k = m) : Fk k m (f_X10_arrangeOne_L39_46 a1 v11 J109_16 rc0 x0) := by
  obtain ⟨v20, v21, v22, v23, M24⟩ := x0
  replace hx0 : M24 k = m := hx0
  have hM24 := hx0
  unfold f_X10_arrangeOne_L39_46
  dsimp only
  refine Fk_Cl (Fk_at (fr_f_X5_childCountOf k _  _) hM24) (fun v27 M26 hM26 => ?_)
  refine Fk_if ?_ ?_
  · exact hJ109_16 _ _ _ hM26
  · refine Fk_Cl (Fk_at (fr_f_X5_standInOf k _ _  _) hM26) (fun v30 M29 hM29 => ?_)
    refine Fk_join (fun J => ∀ (v31 : Int) (v32 : Int) (v33 : Int) (v34 : Int) (v35 : Int) (M36 : Mm), M36 k = m → Fk k m (J v31 v32 v33 v34 v35 M36)) ?_ (fun J85_37 hJ85_37 => ?_)
    · intro v31 v32 v33 v34 v35 M36 hM36
      refine Fk_lt (fun v38 => ?_)
      refine Fk_lt (fun v39 => ?_)
      refine Fk_Cl (Fk_at (fr_f_X11_setEntry k _ _ _ hw0 _) hM36) (fun _ M40 hM40 => ?_)
      refine Fk_lt (fun v41 => ?_)
      exact hrc0 _ hM40
    refine Fk_if ?_ ?_
    · refine Fk_lt (fun v43 => ?_)
      refine Fk_Cl (Fk_at (fr_f_X10_childAt k _ _ _  _) hM29) (fun v45 M44 hM44 => ?_)
      exact hJ85_37 _ _ _ _ _ _ hM44
    · exact hJ85_37 _ _ _ _ _ _ hM29
theorem fr_f_X10_arrangeOne_L7_47 (k : Nat) (m : Nat → Int) (a1 : Int) (J126_2 : Mm → Rs) (hw0 : k ≠ 23) (hw1 : k ≠ 24) (hJ126_2 : ∀ (x0 : Mm), x0 k = m → Fk k m (J126_2 x0)) (rc0 : Int × Int × Int × Mm → Rs) (hrc0 : ∀ x, x.2.2.2 k = m → Fk k m (rc0 x)) (x0 : Int × Int × Int × Mm) (hx0 : x0.2.2.2 k = m) : Fk k m (f_X10_arrangeOne_L7_47 a1 J126_2 rc0 x0) := by
  obtain ⟨v3, v4, v5, M6⟩ := x0
  replace hx0 : M6 k = m := hx0
  have hM6 := hx0
  unfold f_X10_arrangeOne_L7_47
  dsimp only
  refine Fk_if ?_ ?_
  · exact hJ126_2 _ hM6
  · refine Fk_if ?_ ?_
    · exact hJ126_2 _ hM6
    · refine Fk_lt (fun v10 => ?_)
      refine Fk_lt (fun v11 => ?_)
      refine Fk_Cl (Fk_at (fr_f_X11_setEntry k _ _ _ hw0 _) hM6) (fun _ M12 hM12 => ?_)
      refine Fk_join (fun J => ∀ (v13 : Int) (v14 : Int) (M15 : Mm), M15 k = m → Fk k m (J v13 v14 M15)) ?_ (fun J109_16 hJ109_16 => ?_)
      · intro v13 v14 M15 hM15
        refine Fk_Cl (Fk_at (fr_f_X5_forwardOf k _  _) hM15) (fun v18 M17 hM17 => ?_)
        refine Fk_lt (fun v19 => ?_)
        exact hrc0 _ hM17
      exact Fk_Lp (fun x => x.2.2.2.2) (fun rc hrc x hx => fr_f_X10_arrangeOne_L39_46 k m _ _ _ hw1 hJ109_16 rc hrc x hx) _ _ hM12
theorem fr_f_X10_arrangeOne (k : Nat) (a1 : Int) (hw0 : k ≠ 23) (hw1 : k ≠ 24) (M : Mm) : Fk k (M k) (f_X10_arrangeOne a1 M) := by
  obtain ⟨m, hM⟩ : ∃ m, M k = m := ⟨_, rfl⟩
  rw [hM]
  unfold f_X10_arrangeOne
  refine Fk_join (fun J => ∀ (M1 : Mm), M1 k = m → Fk k m (J M1)) ?_ (fun J126_2 hJ126_2 => ?_)
  · intro M1 hM1
    exact Fk_some hM1
  exact Fk_Lp (fun x => x.2.2.2) (fun rc hrc x hx => fr_f_X10_arrangeOne_L7_47 k m _ _ hw0 hw1 hJ126_2 rc hrc x hx) _ _ hM
theorem fr_f_X10_arrange_L18_12 (k : Nat) (m : Nat → Int) (J40_4 : Mm → Rs) (hw0 : k ≠ 23) (hw1 : k ≠ 24) (hJ40_4 : ∀ (x0 : Mm), x0 k = m → Fk k m (J40_4 x0)) (rc0 : Int × Mm → Rs) (hrc0 : ∀ x, x.2 k = m → Fk k m (rc0 x)) (x0 : Int × Mm) (hx0 : x0.2 k = m) : Fk k m (f_X10_arrange_L18_12 J40_4 rc0 x0) := by
  obtain ⟨v5, M6⟩ := x0
  replace hx0 : M6 k = m := hx0
  have hM6 := hx0
  unfold f_X10_arrange_L18_12
  dsimp only
  refine Fk_lt (fun v8 => ?_)
  refine Fk_if ?_ ?_
  · exact hJ40_4 _ hM6
  · refine Fk_Cl (Fk_at (fr_f_X10_arrangeOne k _ hw0 hw1 _) hM6) (fun _ M10 hM10 => ?_)
    refine Fk_lt (fun v11 => ?_)
    exact hrc0 _ hM10
theorem fr_f_X10_arrange (k : Nat)  (hw0 : k ≠ 23) (hw1 : k ≠ 24) (M : Mm) : Fk k (M k) (f_X10_arrange M) := by
  obtain ⟨m, hM⟩ : ∃ m, M k = m := ⟨_, rfl⟩
  rw [hM]
  unfold f_X10_arrange
  refine Fk_Cl (Fk_at (fr_f_X11_fillRow k _ _ hw0 _) hM) (fun _ M1 hM1 => ?_)
  refine Fk_Cl (Fk_at (fr_f_X11_fillRow k _ _ hw1 _) hM1) (fun _ M2 hM2 => ?_)
  refine Fk_join (fun J => ∀ (M3 : Mm), M3 k = m → Fk k m (J M3)) ?_ (fun J40_4 hJ40_4 => ?_)
  · intro M3 hM3
    exact Fk_some hM3
  exact Fk_Lp (fun x => x.2) (fun rc hrc x hx => fr_f_X10_arrange_L18_12 k m _ hw0 hw1 hJ40_4 rc hrc x hx) _ _ hM2
theorem fr_f_X1_placeOf (k : Nat) (a1 : Int) (a2 : Int) (a3 : Int)  (M : Mm) : Fk k (M k) (f_X1_placeOf a1 a2 a3 M) := by
  obtain ⟨m, hM⟩ : ∃ m, M k = m := ⟨_, rfl⟩
  rw [hM]
  unfold f_X1_placeOf
  refine Fk_join (fun J => ∀ (M1 : Mm), M1 k = m → Fk k m (J M1)) ?_ (fun J18_2 hJ18_2 => ?_)
  · intro M1 hM1
    exact Fk_some hM1
  refine Fk_if ?_ ?_
  · exact hJ18_2 _ hM
  · refine Fk_if ?_ ?_
    · exact hJ18_2 _ hM
    · refine Fk_if ?_ ?_
      · exact hJ18_2 _ hM
      · refine Fk_if ?_ ?_
        · refine Fk_lt (fun v7 => ?_)
          refine Fk_lt (fun v8 => ?_)
          refine Fk_lt (fun v9 => ?_)
          refine Fk_lt (fun v10 => ?_)
          refine Fk_lt (fun v11 => ?_)
          exact Fk_some hM
        · exact hJ18_2 _ hM
theorem fr_f_X10_productionAt (k : Nat) (a1 : Int) (a2 : Int)  (M : Mm) : Fk k (M k) (f_X10_productionAt a1 a2 M) := by
  obtain ⟨m, hM⟩ : ∃ m, M k = m := ⟨_, rfl⟩
  rw [hM]
  unfold f_X10_productionAt
  refine Fk_lt (fun v1 => ?_)
  refine Fk_lt (fun v2 => ?_)
  refine Fk_join (fun J => ∀ (v3 : Int) (M4 : Mm), M4 k = m → Fk k m (J v3 M4)) ?_ (fun J33_5 hJ33_5 => ?_)
  · intro v3 M4 hM4
    refine Fk_join (fun J => ∀ (v6 : Int) (M7 : Mm), M7 k = m → Fk k m (J v6 M7)) ?_ (fun J50_8 hJ50_8 => ?_)
    · intro v6 M7 hM7
      exact Fk_some hM7
    refine Fk_if ?_ ?_
    · exact hJ50_8 _ _ hM4
    · refine Fk_gd ?_
      refine Fk_lt (fun v10 => ?_)
      exact hJ50_8 _ _ hM4
  refine Fk_join (fun J => ∀ (M11 : Mm), M11 k = m → Fk k m (J M11)) ?_ (fun J32_12 hJ32_12 => ?_)
  · intro M11 hM11
    exact hJ33_5 _ _ hM11
  refine Fk_if ?_ ?_
  · exact hJ32_12 _ hM
  · refine Fk_if ?_ ?_
    · exact hJ32_12 _ hM
    · refine Fk_if ?_ ?_
      · exact hJ32_12 _ hM
      · refine Fk_if ?_ ?_
        · exact hJ32_12 _ hM
        · exact hJ33_5 _ _ hM
theorem fr_f_X10_targetAt_L9_15 (k : Nat) (m : Nat → Int) (a1 : Int) (a2 : Int) (a3 : Int) (J36_3 : Mm → Rs) (J27_6 : Int → Mm → Rs)  (hJ36_3 : ∀ (x0 : Mm), x0 k = m → Fk k m (J36_3 x0)) (hJ27_6 : ∀ (x0 : Int) (x1 : Mm), x1 k = m → Fk k m (J27_6 x0 x1)) (rc0 : Int × Mm → Rs) (hrc0 : ∀ x, x.2 k = m → Fk k m (rc0 x)) (x0 : Int × Mm) (hx0 : x0.2 k = m) : Fk k m (f_X10_targetAt_L9_15 a1 a2 a3 J36_3 J27_6 rc0 x0) := by
  obtain ⟨v7, M8⟩ := x0
  replace hx0 : M8 k = m := hx0
  have hM8 := hx0
  unfold f_X10_targetAt_L9_15
  dsimp only
  refine Fk_if ?_ ?_
  · exact hJ36_3 _ hM8
  · refine Fk_Cl (Fk_at (fr_f_X10_childAt k _ _ _  _) hM8) (fun v12 M11 hM11 => ?_)
    refine Fk_if ?_ ?_
    · refine Fk_lt (fun v14 => ?_)
      exact hrc0 _ hM11
    · exact hJ27_6 _ _ hM11
theorem fr_f_X10_targetAt (k : Nat) (a1 : Int) (a2 : Int) (a3 : Int)  (M : Mm) : Fk k (M k) (f_X10_targetAt a1 a2 a3 M) := by
  obtain ⟨m, hM⟩ : ∃ m, M k = m := ⟨_, rfl⟩
  rw [hM]
  unfold f_X10_targetAt
  refine Fk_if ?_ ?_
  · refine Fk_join (fun J => ∀ (M2 : Mm), M2 k = m → Fk k m (J M2)) ?_ (fun J36_3 hJ36_3 => ?_)
    · intro M2 hM2
      exact Fk_some hM2
    refine Fk_join (fun J => ∀ (v4 : Int) (M5 : Mm), M5 k = m → Fk k m (J v4 M5)) ?_ (fun J27_6 hJ27_6 => ?_)
    · intro v4 M5 hM5
      exact Fk_some hM5
    exact Fk_Lp (fun x => x.2) (fun rc hrc x hx => fr_f_X10_targetAt_L9_15 k m _ _ _ _ _  hJ36_3 hJ27_6 rc hrc x hx) _ _ hM
  · exact Fk_some hM
theorem fr_f_X1_resolve_L21_26 (k : Nat) (m : Nat → Int) (a1 : Int) (a2 : Int) (a3 : Int) (J104_5 : Mm → Rs) (J75_9 : Int → Int → Mm → Rs)  (hJ104_5 : ∀ (x0 : Mm), x0 k = m → Fk k m (J104_5 x0)) (hJ75_9 : ∀ (x0 : Int) (x1 : Int) (x2 : Mm), x2 k = m → Fk k m (J75_9 x0 x1 x2)) (rc0 : Int × Mm → Rs) (hrc0 : ∀ x, x.2 k = m → Fk k m (rc0 x)) (x0 : Int × Mm) (hx0 : x0.2 k = m) : Fk k m (f_X1_resolve_L21_26 a1 a2 a3 J104_5 J75_9 rc0 x0) := by
  obtain ⟨v12, M13⟩ := x0
  replace hx0 : M13 k = m := hx0
  have hM13 := hx0
  unfold f_X1_resolve_L21_26
  dsimp only
  refine Fk_if ?_ ?_
  · exact hJ104_5 _ hM13
  · refine Fk_Cl (Fk_at (fr_f_X10_productionAt k _ _  _) hM13) (fun v17 M16 hM16 => ?_)
    refine Fk_Cl (Fk_at (fr_f_X10_targetAt k _ _ _  _) hM16) (fun v19 M18 hM18 => ?_)
    refine Fk_Cl (Fk_at (fr_f_X1_placeOf k _ _ _  _) hM18) (fun v21 M20 hM20 => ?_)
    refine Fk_Cl (Fk_at (fr_f_X11_entryOf k _ _  _) hM20) (fun v23 M22 hM22 => ?_)
    refine Fk_if ?_ ?_
    · refine Fk_lt (fun v25 => ?_)
      exact hrc0 _ hM22
    · exact hJ75_9 _ _ _ hM22
theorem fr_f_X1_resolve (k : Nat) (a1 : Int) (a2 : Int) (a3 : Int) (hw0 : k ≠ 29) (hw1 : k ≠ 30) (M : Mm) : Fk k (M k) (f_X1_resolve a1 a2 a3 M) := by
  obtain ⟨m, hM⟩ : ∃ m, M k = m := ⟨_, rfl⟩
  rw [hM]
  unfold f_X1_resolve
  refine Fk_Cl (Fk_at (fr_f_X1_placeOf k _ _ _  _) hM) (fun v2 M1 hM1 => ?_)
  refine Fk_Cl (Fk_at (fr_f_X11_setEntry k _ _ _ hw0 _) hM1) (fun _ M3 hM3 => ?_)
  refine Fk_join (fun J => ∀ (M4 : Mm), M4 k = m → Fk k m (J M4)) ?_ (fun J104_5 hJ104_5 => ?_)
  · intro M4 hM4
    exact Fk_some hM4
  refine Fk_join (fun J => ∀ (v6 : Int) (v7 : Int) (M8 : Mm), M8 k = m → Fk k m (J v6 v7 M8)) ?_ (fun J75_9 hJ75_9 => ?_)
  · intro v6 v7 M8 hM8
    refine Fk_Cl (Fk_at (fr_f_X11_setEntry k _ _ _ hw0 _) hM8) (fun _ M10 hM10 => ?_)
    refine Fk_Cl (Fk_at (fr_f_X11_setEntry k _ _ _ hw1 _) hM10) (fun _ M11 hM11 => ?_)
    exact Fk_some hM11
  exact Fk_Lp (fun x => x.2) (fun rc hrc x hx => fr_f_X1_resolve_L21_26 k m _ _ _ _ _  hJ104_5 hJ75_9 rc hrc x hx) _ _ hM3
theorem fr_f_X1_arrange_L92_38 (k : Nat) (m : Nat → Int) (J110_28 : Int → Int → Mm → Rs) (hw0 : k ≠ 29) (hw1 : k ≠ 30) (hJ110_28 : ∀ (x0 : Int) (x1 : Int) (x2 : Mm), x2 k = m → Fk k m (J110_28 x0 x1 x2)) (rc0 : Int × Int × Int × Mm → Rs) (hrc0 : ∀ x, x.2.2.2 k = m → Fk k m (rc0 x)) (x0 : Int × Int × Int × Mm) (hx0 : x0.2.2.2 k = m) : Fk k m (f_X1_arrange_L92_38 J110_28 rc0 x0) := by
  obtain ⟨v30, v31, v32, M33⟩ := x0
  replace hx0 : M33 k = m := hx0
  have hM33 := hx0
  unfold f_X1_arrange_L92_38
  dsimp only
  refine Fk_if ?_ ?_
  · exact hJ110_28 _ _ _ hM33
  · refine Fk_Cl (Fk_at (fr_f_X1_resolve k _ _ _ hw0 hw1 _) hM33) (fun _ M36 hM36 => ?_)
    refine Fk_lt (fun v37 => ?_)
    exact hrc0 _ hM36
theorem fr_f_X1_arrange_L79_39 (k : Nat) (m : Nat → Int) (J116_17 : Int → Mm → Rs) (hw0 : k ≠ 29) (hw1 : k ≠ 30) (hJ116_17 : ∀ (x0 : Int) (x1 : Mm), x1 k = m → Fk k m (J116_17 x0 x1)) (rc0 : Int × Int × Mm → Rs) (hrc0 : ∀ x, x.2.2 k = m → Fk k m (rc0 x)) (x0 : Int × Int × Mm) (hx0 : x0.2.2 k = m) : Fk k m (f_X1_arrange_L79_39 J116_17 rc0 x0) := by
  obtain ⟨v19, v20, M21⟩ := x0
  replace hx0 : M21 k = m := hx0
  have hM21 := hx0
  unfold f_X1_arrange_L79_39
  dsimp only
  refine Fk_lt (fun v23 => ?_)
  refine Fk_if ?_ ?_
  · exact hJ116_17 _ _ hM21
  · refine Fk_join (fun J => ∀ (v25 : Int) (v26 : Int) (M27 : Mm), M27 k = m → Fk k m (J v25 v26 M27)) ?_ (fun J110_28 hJ110_28 => ?_)
    · intro v25 v26 M27 hM27
      refine Fk_lt (fun v29 => ?_)
      exact hrc0 _ hM27
    exact Fk_Lp (fun x => x.2.2.2) (fun rc hrc x hx => fr_f_X1_arrange_L92_38 k m _ hw0 hw1 hJ110_28 rc hrc x hx) _ _ hM21
theorem fr_f_X1_arrange_L66_40 (k : Nat) (m : Nat → Int) (J122_9 : Mm → Rs) (hw0 : k ≠ 29) (hw1 : k ≠ 30) (hJ122_9 : ∀ (x0 : Mm), x0 k = m → Fk k m (J122_9 x0)) (rc0 : Int × Mm → Rs) (hrc0 : ∀ x, x.2 k = m → Fk k m (rc0 x)) (x0 : Int × Mm) (hx0 : x0.2 k = m) : Fk k m (f_X1_arrange_L66_40 J122_9 rc0 x0) := by
  obtain ⟨v10, M11⟩ := x0
  replace hx0 : M11 k = m := hx0
  have hM11 := hx0
  unfold f_X1_arrange_L66_40
  dsimp only
  refine Fk_lt (fun v13 => ?_)
  refine Fk_if ?_ ?_
  · exact hJ122_9 _ hM11
  · refine Fk_join (fun J => ∀ (v15 : Int) (M16 : Mm), M16 k = m → Fk k m (J v15 M16)) ?_ (fun J116_17 hJ116_17 => ?_)
    · intro v15 M16 hM16
      refine Fk_lt (fun v18 => ?_)
      exact hrc0 _ hM16
    exact Fk_Lp (fun x => x.2.2) (fun rc hrc x hx => fr_f_X1_arrange_L79_39 k m _ hw0 hw1 hJ116_17 rc hrc x hx) _ _ hM11
theorem fr_f_X1_rowOf (k : Nat) (a1 : Int)  (M : Mm) : Fk k (M k) (f_X1_rowOf a1 M) := by
  obtain ⟨m, hM⟩ : ∃ m, M k = m := ⟨_, rfl⟩
  rw [hM]
  unfold f_X1_rowOf
  refine Fk_join (fun J => ∀ (v1 : Int) (M2 : Mm), M2 k = m → Fk k m (J v1 M2)) ?_ (fun J31_3 hJ31_3 => ?_)
  · intro v1 M2 hM2
    exact Fk_some hM2
  refine Fk_join (fun J => ∀ (M4 : Mm), M4 k = m → Fk k m (J M4)) ?_ (fun J30_5 hJ30_5 => ?_)
  · intro M4 hM4
    exact hJ31_3 _ _ hM4
  refine Fk_if ?_ ?_
  · exact hJ30_5 _ hM
  · refine Fk_lt (fun v7 => ?_)
    refine Fk_if ?_ ?_
    · exact hJ30_5 _ hM
    · refine Fk_if ?_ ?_
      · exact hJ30_5 _ hM
      · refine Fk_gd ?_
        exact hJ31_3 _ _ hM
theorem fr_f_X1_counts (k : Nat) (r1 : Nat)  (M : Mm) : Fk k (M k) (f_X1_counts r1 M) := by
  obtain ⟨m, hM⟩ : ∃ m, M k = m := ⟨_, rfl⟩
  rw [hM]
  unfold f_X1_counts
  refine Fk_lt (fun v1 => ?_)
  refine Fk_join (fun J => ∀ (v2 : Int) (M3 : Mm), M3 k = m → Fk k m (J v2 M3)) ?_ (fun J32_4 hJ32_4 => ?_)
  · intro v2 M3 hM3
    exact Fk_some hM3
  refine Fk_join (fun J => ∀ (M5 : Mm), M5 k = m → Fk k m (J M5)) ?_ (fun J31_6 hJ31_6 => ?_)
  · intro M5 hM5
    exact hJ32_4 _ _ hM5
  refine Fk_if ?_ ?_
  · exact hJ31_6 _ hM
  · refine Fk_if ?_ ?_
    · exact hJ31_6 _ hM
    · refine Fk_gd ?_
      refine Fk_lt (fun v9 => ?_)
      refine Fk_if ?_ ?_
      · exact hJ31_6 _ hM
      · exact hJ32_4 _ _ hM
theorem fr_f_X1_arrangeOne (k : Nat) (r1 : Nat) (a2 : Int) (hw0 : k ≠ 28) (hw1 : k ≠ 32) (hw2 : k ≠ 31) (M : Mm) : Fk k (M k) (f_X1_arrangeOne r1 a2 M) := by
  obtain ⟨m, hM⟩ : ∃ m, M k = m := ⟨_, rfl⟩
  rw [hM]
  unfold f_X1_arrangeOne
  refine Fk_lt (fun v1 => ?_)
  refine Fk_lt (fun v2 => ?_)
  refine Fk_lt (fun v3 => ?_)
  refine Fk_lt (fun v4 => ?_)
  refine Fk_lt (fun v5 => ?_)
  refine Fk_if ?_ ?_
  · refine Fk_lt (fun v7 => ?_)
    refine Fk_lt (fun v8 => ?_)
    refine Fk_lt (fun v9 => ?_)
    refine Fk_Cl (Fk_at (fr_f_X1_placeOf k _ _ _  _) hM) (fun v11 M10 hM10 => ?_)
    refine Fk_Cl (Fk_at (fr_f_X11_entryOf k _ _  _) hM10) (fun v13 M12 hM12 => ?_)
    refine Fk_join (fun J => ∀ (v14 : Int) (M15 : Mm), M15 k = m → Fk k m (J v14 M15)) ?_ (fun J90_16 hJ90_16 => ?_)
    · intro v14 M15 hM15
      refine Fk_Cl (Fk_at (fr_f_X11_setEntry k _ _ _ hw0 _) hM15) (fun _ M17 hM17 => ?_)
      exact Fk_some hM17
    refine Fk_if ?_ ?_
    · exact hJ90_16 _ _ hM12
    · exact hJ90_16 _ _ hM12
  · refine Fk_Cl (Fk_at (fr_f_X11_entryOf k _ _  _) hM) (fun v20 M19 hM19 => ?_)
    refine Fk_Cl (Fk_at (fr_f_X11_setEntry k _ _ _ hw1 _) hM19) (fun _ M21 hM21 => ?_)
    refine Fk_Cl (Fk_at (fr_f_X11_setEntry k _ _ _ hw2 _) hM21) (fun _ M22 hM22 => ?_)
    exact Fk_some hM22
theorem fr_f_X1_arrange_L30_57 (k : Nat) (m : Nat → Int) (J64_7 : Mm → Rs) (hw0 : k ≠ 28) (hw1 : k ≠ 32) (hw2 : k ≠ 31) (hJ64_7 : ∀ (x0 : Mm), x0 k = m → Fk k m (J64_7 x0)) (rc0 : Int × Mm → Rs) (hrc0 : ∀ x, x.2 k = m → Fk k m (rc0 x)) (x0 : Int × Mm) (hx0 : x0.2 k = m) : Fk k m (f_X1_arrange_L30_57 J64_7 rc0 x0) := by
  obtain ⟨v41, M42⟩ := x0
  replace hx0 : M42 k = m := hx0
  have hM42 := hx0
  unfold f_X1_arrange_L30_57
  dsimp only
  refine Fk_if ?_ ?_
  · exact hJ64_7 _ hM42
  · refine Fk_Cl (Fk_at (fr_f_X1_rowOf k _  _) hM42) (fun v46 M45 hM45 => ?_)
    refine Fk_join (fun J => ∀ (v47 : Int) (M48 : Mm), M48 k = m → Fk k m (J v47 M48)) ?_ (fun J58_49 hJ58_49 => ?_)
    · intro v47 M48 hM48
      refine Fk_lt (fun v50 => ?_)
      exact hrc0 _ hM48
    refine Fk_if ?_ ?_
    · exact hJ58_49 _ _ hM45
    · refine Fk_gd ?_
      refine Fk_Cl (Fk_at (fr_f_X1_counts k _  _) hM45) (fun v54 M53 hM53 => ?_)
      refine Fk_if ?_ ?_
      · exact hJ58_49 _ _ hM53
      · refine Fk_Cl (Fk_at (fr_f_X1_arrangeOne k _ _ hw0 hw1 hw2 _) hM53) (fun _ M56 hM56 => ?_)
        exact hJ58_49 _ _ hM56
theorem fr_f_X1_arrange (k : Nat)  (hw0 : k ≠ 23) (hw1 : k ≠ 24) (hw2 : k ≠ 28) (hw3 : k ≠ 31) (hw4 : k ≠ 29) (hw5 : k ≠ 30) (hw6 : k ≠ 32) (M : Mm) : Fk k (M k) (f_X1_arrange M) := by
  obtain ⟨m, hM⟩ : ∃ m, M k = m := ⟨_, rfl⟩
  rw [hM]
  unfold f_X1_arrange
  refine Fk_Cl (Fk_at (fr_f_X10_arrange k  hw0 hw1 _) hM) (fun _ M1 hM1 => ?_)
  refine Fk_Cl (Fk_at (fr_f_X11_fillRow k _ _ hw2 _) hM1) (fun _ M2 hM2 => ?_)
  refine Fk_Cl (Fk_at (fr_f_X11_fillRow k _ _ hw3 _) hM2) (fun _ M3 hM3 => ?_)
  refine Fk_lt (fun v4 => ?_)
  refine Fk_lt (fun v5 => ?_)
  refine Fk_join (fun J => ∀ (M6 : Mm), M6 k = m → Fk k m (J M6)) ?_ (fun J64_7 hJ64_7 => ?_)
  · intro M6 hM6
    refine Fk_join (fun J => ∀ (M8 : Mm), M8 k = m → Fk k m (J M8)) ?_ (fun J122_9 hJ122_9 => ?_)
    · intro M8 hM8
      exact Fk_some hM8
    exact Fk_Lp (fun x => x.2) (fun rc hrc x hx => fr_f_X1_arrange_L66_40 k m _ hw4 hw5 hJ122_9 rc hrc x hx) _ _ hM6
  exact Fk_Lp (fun x => x.2) (fun rc hrc x hx => fr_f_X1_arrange_L30_57 k m _ hw2 hw6 hw3 hJ64_7 rc hrc x hx) _ _ hM3
theorem fr_f_X3_clear (k : Nat) (h : Nat) (hw0 : k ≠ h + 2) (M : Mm) : Fk k (M k) (f_X3_clear h M) := by
  obtain ⟨m, hM⟩ : ∃ m, M k = m := ⟨_, rfl⟩
  rw [hM]
  unfold f_X3_clear
  refine Fk_Cl (Fk_at (fr_f_X11_fillRow k _ _ hw0 _) hM) (fun _ M1 hM1 => ?_)
  exact Fk_some hM1
theorem fr_f_X7_forget (k : Nat)  (hw0 : k ≠ 676) (M : Mm) : Fk k (M k) (f_X7_forget M) := by
  obtain ⟨m, hM⟩ : ∃ m, M k = m := ⟨_, rfl⟩
  rw [hM]
  unfold f_X7_forget
  refine Fk_ltm (Fk_up hw0 hM) (fun M1 hM1 => ?_)
  exact Fk_some hM1
theorem fr_f_X11_followGrammar (k : Nat)  (hw0 : k ≠ 23) (hw1 : k ≠ 24) (hw2 : k ≠ 28) (hw3 : k ≠ 31) (hw4 : k ≠ 29) (hw5 : k ≠ 30) (hw6 : k ≠ 32) (hw7 : k ≠ 301) (hw8 : k ≠ 676) (M : Mm) : Fk k (M k) (f_X11_followGrammar M) := by
  obtain ⟨m, hM⟩ : ∃ m, M k = m := ⟨_, rfl⟩
  rw [hM]
  unfold f_X11_followGrammar
  refine Fk_Cl (Fk_at (fr_f_X1_arrange k  hw0 hw1 hw2 hw3 hw4 hw5 hw6 _) hM) (fun _ M1 hM1 => ?_)
  refine Fk_Cl (Fk_at (fr_f_X3_clear k _ hw7 _) hM1) (fun _ M2 hM2 => ?_)
  refine Fk_Cl (Fk_at (fr_f_X7_forget k  hw8 _) hM2) (fun _ M3 hM3 => ?_)
  exact Fk_some hM3
theorem fr_f_X8_clear (k : Nat) (h : Nat) (hw0 : k ≠ h) (M : Mm) : Fk k (M k) (f_X8_clear h M) := by
  obtain ⟨m, hM⟩ : ∃ m, M k = m := ⟨_, rfl⟩
  rw [hM]
  unfold f_X8_clear
  refine Fk_ltm (Fk_up hw0 hM) (fun M1 hM1 => ?_)
  refine Fk_ltm (Fk_up hw0 hM1) (fun M2 hM2 => ?_)
  exact Fk_some hM2
theorem fr_f_X5_lengthOf (k : Nat) (a1 : Int)  (M : Mm) : Fk k (M k) (f_X5_lengthOf a1 M) := by
  obtain ⟨m, hM⟩ : ∃ m, M k = m := ⟨_, rfl⟩
  rw [hM]
  unfold f_X5_lengthOf
  refine Fk_join (fun J => ∀ (v1 : Int) (M2 : Mm), M2 k = m → Fk k m (J v1 M2)) ?_ (fun J20_3 hJ20_3 => ?_)
  · intro v1 M2 hM2
    exact Fk_some hM2
  refine Fk_join (fun J => ∀ (M4 : Mm), M4 k = m → Fk k m (J M4)) ?_ (fun J19_5 hJ19_5 => ?_)
  · intro M4 hM4
    exact hJ20_3 _ _ hM4
  refine Fk_if ?_ ?_
  · exact hJ19_5 _ hM
  · refine Fk_if ?_ ?_
    · exact hJ19_5 _ hM
    · refine Fk_gd ?_
      refine Fk_lt (fun v8 => ?_)
      exact hJ20_3 _ _ hM
theorem fr_f_X5_symbolOf (k : Nat) (a1 : Int) (a2 : Int)  (M : Mm) : Fk k (M k) (f_X5_symbolOf a1 a2 M) := by
  obtain ⟨m, hM⟩ : ∃ m, M k = m := ⟨_, rfl⟩
  rw [hM]
  unfold f_X5_symbolOf
  refine Fk_lt (fun v1 => ?_)
  refine Fk_lt (fun v2 => ?_)
  refine Fk_join (fun J => ∀ (v3 : Int) (M4 : Mm), M4 k = m → Fk k m (J v3 M4)) ?_ (fun J38_5 hJ38_5 => ?_)
  · intro v3 M4 hM4
    exact Fk_some hM4
  refine Fk_join (fun J => ∀ (M6 : Mm), M6 k = m → Fk k m (J M6)) ?_ (fun J37_7 hJ37_7 => ?_)
  · intro M6 hM6
    exact hJ38_5 _ _ hM6
  refine Fk_if ?_ ?_
  · exact hJ37_7 _ hM
  · refine Fk_if ?_ ?_
    · exact hJ37_7 _ hM
    · refine Fk_if ?_ ?_
      · exact hJ37_7 _ hM
      · refine Fk_if ?_ ?_
        · exact hJ37_7 _ hM
        · refine Fk_gd ?_
          refine Fk_lt (fun v12 => ?_)
          exact hJ38_5 _ _ hM
theorem fr_f_X9_placeOf (k : Nat) (a1 : Int) (a2 : Int) (a3 : Int)  (M : Mm) : Fk k (M k) (f_X9_placeOf a1 a2 a3 M) := by
  obtain ⟨m, hM⟩ : ∃ m, M k = m := ⟨_, rfl⟩
  rw [hM]
  unfold f_X9_placeOf
  refine Fk_lt (fun v1 => ?_)
  refine Fk_lt (fun v2 => ?_)
  refine Fk_lt (fun v3 => ?_)
  refine Fk_lt (fun v4 => ?_)
  exact Fk_some hM
theorem fr_f_X9_weightOf (k : Nat) (a1 : Int) (a2 : Int) (a3 : Int)  (M : Mm) : Fk k (M k) (f_X9_weightOf a1 a2 a3 M) := by
  obtain ⟨m, hM⟩ : ∃ m, M k = m := ⟨_, rfl⟩
  rw [hM]
  unfold f_X9_weightOf
  refine Fk_Cl (Fk_at (fr_f_X9_placeOf k _ _ _  _) hM) (fun v2 M1 hM1 => ?_)
  refine Fk_Cl (Fk_at (fr_f_X11_entryOf k _ _  _) hM1) (fun v4 M3 hM3 => ?_)
  exact Fk_some hM3
theorem fr_f_X9_weigh_L119_41 (k : Nat) (m : Nat → Int) (a3 : Int) (a4 : Int) (v5 : Int) (v13 : Nat) (v16 : Int) (J175_21 : Int → Mm → Rs) (hw0 : k ≠ 273) (hJ175_21 : ∀ (x0 : Int) (x1 : Mm), x1 k = m → Fk k m (J175_21 x0 x1)) (rc0 : Int × Int × Mm → Rs) (hrc0 : ∀ x, x.2.2 k = m → Fk k m (rc0 x)) (x0 : Int × Int × Mm) (hx0 : x0.2.2 k = m) : Fk k m (f_X9_weigh_L119_41 a3 a4 v5 v13 v16 J175_21 rc0 x0) := by
  obtain ⟨v22, v23, M24⟩ := x0
  replace hx0 : M24 k = m := hx0
  have hM24 := hx0
  unfold f_X9_weigh_L119_41
  dsimp only
  refine Fk_if ?_ ?_
  · exact hJ175_21 _ _ hM24
  · refine Fk_Cl (Fk_at (fr_f_X9_weightOf k _ _ _  _) hM24) (fun v28 M27 hM27 => ?_)
    refine Fk_Cl (Fk_at (fr_f_X9_placeOf k _ _ _  _) hM27) (fun v30 M29 hM29 => ?_)
    refine Fk_Cl (Fk_at (fr_f_X11_entryOf k _ _  _) hM29) (fun v32 M31 hM31 => ?_)
    refine Fk_lt (fun v33 => ?_)
    refine Fk_join (fun J => ∀ (v34 : Int) (v35 : Int) (M36 : Mm), M36 k = m → Fk k m (J v34 v35 M36)) ?_ (fun J169_37 hJ169_37 => ?_)
    · intro v34 v35 M36 hM36
      refine Fk_lt (fun v38 => ?_)
      exact hrc0 _ hM36
    refine Fk_if ?_ ?_
    · exact hJ169_37 _ _ _ hM31
    · refine Fk_ltm (Fk_up hw0 hM31) (fun M40 hM40 => ?_)
      exact hJ169_37 _ _ _ hM40
theorem fr_f_X9_weigh (k : Nat) (a1 : Int) (a2 : Int) (a3 : Int) (a4 : Int) (hw0 : k ≠ 273) (M : Mm) : Fk k (M k) (f_X9_weigh a1 a2 a3 a4 M) := by
  obtain ⟨m, hM⟩ : ∃ m, M k = m := ⟨_, rfl⟩
  rw [hM]
  unfold f_X9_weigh
  refine Fk_Cl (Fk_at (fr_f_X5_lengthOf k _  _) hM) (fun v2 M1 hM1 => ?_)
  refine Fk_lt (fun v3 => ?_)
  refine Fk_Cl (Fk_at (fr_f_X5_symbolOf k _ _  _) hM1) (fun v5 M4 hM4 => ?_)
  refine Fk_ltm (Fk_up hw0 hM4) (fun M6 hM6 => ?_)
  refine Fk_if ?_ ?_
  · refine Fk_if ?_ ?_
    · refine Fk_lt (fun v9 => ?_)
      refine Fk_join (fun J => ∀ (v10 : Int) (M11 : Mm), M11 k = m → Fk k m (J v10 M11)) ?_ (fun J71_12 hJ71_12 => ?_)
      · intro v10 M11 hM11
        refine Fk_join (fun J => ∀ (v13 : Nat) (M14 : Mm), M14 k = m → Fk k m (J v13 M14)) ?_ (fun J89_15 hJ89_15 => ?_)
        · intro v13 M14 hM14
          refine Fk_join (fun J => ∀ (v16 : Int) (M17 : Mm), M17 k = m → Fk k m (J v16 M17)) ?_ (fun J110_18 hJ110_18 => ?_)
          · intro v16 M17 hM17
            refine Fk_join (fun J => ∀ (v19 : Int) (M20 : Mm), M20 k = m → Fk k m (J v19 M20)) ?_ (fun J175_21 hJ175_21 => ?_)
            · intro v19 M20 hM20
              exact Fk_some hM20
            exact Fk_Lp (fun x => x.2.2) (fun rc hrc x hx => fr_f_X9_weigh_L119_41 k m _ _ _ _ _ _ hw0 hJ175_21 rc hrc x hx) _ _ hM17
          refine Fk_if ?_ ?_
          · refine Fk_Cl (Fk_at (fr_f_X5_symbolOf k _ _  _) hM14) (fun v44 M43 hM43 => ?_)
            exact hJ110_18 _ _ hM43
          · exact hJ110_18 _ _ hM14
        refine Fk_if ?_ ?_
        · exact hJ89_15 _ _ hM11
        · exact hJ89_15 _ _ hM11
      refine Fk_if ?_ ?_
      · exact hJ71_12 _ _ hM6
      · exact hJ71_12 _ _ hM6
    · refine Fk_Cl (Fk_at (fr_f_X9_weightOf k _ _ _  _) hM6) (fun v48 M47 hM47 => ?_)
      exact Fk_some hM47
  · refine Fk_lt (fun v49 => ?_)
    refine Fk_lt (fun v50 => ?_)
    exact Fk_some hM6
theorem fr_f_X5_headOf (k : Nat) (a1 : Int)  (M : Mm) : Fk k (M k) (f_X5_headOf a1 M) := by
  obtain ⟨m, hM⟩ : ∃ m, M k = m := ⟨_, rfl⟩
  rw [hM]
  unfold f_X5_headOf
  refine Fk_join (fun J => ∀ (v1 : Int) (M2 : Mm), M2 k = m → Fk k m (J v1 M2)) ?_ (fun J20_3 hJ20_3 => ?_)
  · intro v1 M2 hM2
    exact Fk_some hM2
  refine Fk_join (fun J => ∀ (M4 : Mm), M4 k = m → Fk k m (J M4)) ?_ (fun J19_5 hJ19_5 => ?_)
  · intro M4 hM4
    exact hJ20_3 _ _ hM4
  refine Fk_if ?_ ?_
  · exact hJ19_5 _ hM
  · refine Fk_if ?_ ?_
    · exact hJ19_5 _ hM
    · refine Fk_gd ?_
      refine Fk_lt (fun v8 => ?_)
      exact hJ20_3 _ _ hM
theorem fr_f_X9_measureStretch_L21_51 (k : Nat) (m : Nat → Int) (a1 : Int) (a2 : Int) (J131_12 : Int → Int → Mm → Rs) (hw0 : k ≠ 273) (hw1 : k ≠ 275) (hw2 : k ≠ 276) (hJ131_12 : ∀ (x0 : Int) (x1 : Int) (x2 : Mm), x2 k = m → Fk k m (J131_12 x0 x1 x2)) (rc0 : Int × Int × Int × Mm → Rs) (hrc0 : ∀ x, x.2.2.2 k = m → Fk k m (rc0 x)) (x0 : Int × Int × Int × Mm) (hx0 : x0.2.2.2 k = m) : Fk k m (f_X9_measureStretch_L21_51 a1 a2 J131_12 rc0 x0) := by
  obtain ⟨v14, v15, v16, M17⟩ := x0
  replace hx0 : M17 k = m := hx0
  have hM17 := hx0
  unfold f_X9_measureStretch_L21_51
  dsimp only
  refine Fk_lt (fun v19 => ?_)
  refine Fk_if ?_ ?_
  · exact hJ131_12 _ _ _ hM17
  · refine Fk_Cl (Fk_at (fr_f_X5_lengthOf k _  _) hM17) (fun v22 M21 hM21 => ?_)
    refine Fk_join (fun J => ∀ (v23 : Int) (v24 : Int) (v25 : Int) (M26 : Mm), M26 k = m → Fk k m (J v23 v24 v25 M26)) ?_ (fun J69_27 hJ69_27 => ?_)
    · intro v23 v24 v25 M26 hM26
      refine Fk_Cl (Fk_at (fr_f_X9_weigh k _ _ _ _ hw0 _) hM26) (fun v29 M28 hM28 => ?_)
      refine Fk_lt (fun v30 => ?_)
      refine Fk_Cl (Fk_at (fr_f_X5_headOf k _  _) hM28) (fun v32 M31 hM31 => ?_)
      refine Fk_Cl (Fk_at (fr_f_X9_placeOf k _ _ _  _) hM31) (fun v34 M33 hM33 => ?_)
      refine Fk_Cl (Fk_at (fr_f_X11_entryOf k _ _  _) hM33) (fun v36 M35 hM35 => ?_)
      refine Fk_join (fun J => ∀ (v37 : Int) (v38 : Int) (v39 : Int) (M40 : Mm), M40 k = m → Fk k m (J v37 v38 v39 M40)) ?_ (fun J125_41 hJ125_41 => ?_)
      · intro v37 v38 v39 M40 hM40
        refine Fk_lt (fun v42 => ?_)
        exact hrc0 _ hM40
      refine Fk_if ?_ ?_
      · exact hJ125_41 _ _ _ _ hM35
      · refine Fk_Cl (Fk_at (fr_f_X11_setEntry k _ _ _ hw1 _) hM35) (fun _ M44 hM44 => ?_)
        exact hJ125_41 _ _ _ _ hM44
    refine Fk_if ?_ ?_
    · exact hJ69_27 _ _ _ _ hM21
    · refine Fk_Cl (Fk_at (fr_f_X9_placeOf k _ _ _  _) hM21) (fun v47 M46 hM46 => ?_)
      refine Fk_Cl (Fk_at (fr_f_X9_weigh k _ _ _ _ hw0 _) hM46) (fun v49 M48 hM48 => ?_)
      refine Fk_Cl (Fk_at (fr_f_X11_setEntry k _ _ _ hw2 _) hM48) (fun _ M50 hM50 => ?_)
      exact hJ69_27 _ _ _ _ hM50
theorem fr_f_X9_measureStretch_L5_52 (k : Nat) (m : Nat → Int) (a1 : Int) (a2 : Int) (J137_2 : Mm → Rs) (hw0 : k ≠ 273) (hw1 : k ≠ 275) (hw2 : k ≠ 276) (hJ137_2 : ∀ (x0 : Mm), x0 k = m → Fk k m (J137_2 x0)) (rc0 : Int × Int × Mm → Rs) (hrc0 : ∀ x, x.2.2 k = m → Fk k m (rc0 x)) (x0 : Int × Int × Mm) (hx0 : x0.2.2 k = m) : Fk k m (f_X9_measureStretch_L5_52 a1 a2 J137_2 rc0 x0) := by
  obtain ⟨v3, v4, M5⟩ := x0
  replace hx0 : M5 k = m := hx0
  have hM5 := hx0
  unfold f_X9_measureStretch_L5_52
  dsimp only
  refine Fk_if ?_ ?_
  · exact hJ137_2 _ hM5
  · refine Fk_if ?_ ?_
    · exact hJ137_2 _ hM5
    · refine Fk_join (fun J => ∀ (v9 : Int) (v10 : Int) (M11 : Mm), M11 k = m → Fk k m (J v9 v10 M11)) ?_ (fun J131_12 hJ131_12 => ?_)
      · intro v9 v10 M11 hM11
        refine Fk_lt (fun v13 => ?_)
        exact hrc0 _ hM11
      exact Fk_Lp (fun x => x.2.2.2) (fun rc hrc x hx => fr_f_X9_measureStretch_L21_51 k m _ _ _ hw0 hw1 hw2 hJ131_12 rc hrc x hx) _ _ hM5
theorem fr_f_X9_measureStretch (k : Nat) (a1 : Int) (a2 : Int) (hw0 : k ≠ 273) (hw1 : k ≠ 275) (hw2 : k ≠ 276) (M : Mm) : Fk k (M k) (f_X9_measureStretch a1 a2 M) := by
  obtain ⟨m, hM⟩ : ∃ m, M k = m := ⟨_, rfl⟩
  rw [hM]
  unfold f_X9_measureStretch
  refine Fk_join (fun J => ∀ (M1 : Mm), M1 k = m → Fk k m (J M1)) ?_ (fun J137_2 hJ137_2 => ?_)
  · intro M1 hM1
    exact Fk_some hM1
  exact Fk_Lp (fun x => x.2.2) (fun rc hrc x hx => fr_f_X9_measureStretch_L5_52 k m _ _ _ hw0 hw1 hw2 hJ137_2 rc hrc x hx) _ _ hM
theorem fr_f_X9_measure_L49_26 (k : Nat) (m : Nat → Int) (J73_14 : Int → Mm → Rs) (hw0 : k ≠ 273) (hw1 : k ≠ 275) (hw2 : k ≠ 276) (hJ73_14 : ∀ (x0 : Int) (x1 : Mm), x1 k = m → Fk k m (J73_14 x0 x1)) (rc0 : Int × Int × Mm → Rs) (hrc0 : ∀ x, x.2.2 k = m → Fk k m (rc0 x)) (x0 : Int × Int × Mm) (hx0 : x0.2.2 k = m) : Fk k m (f_X9_measure_L49_26 J73_14 rc0 x0) := by
  obtain ⟨v16, v17, M18⟩ := x0
  replace hx0 : M18 k = m := hx0
  have hM18 := hx0
  unfold f_X9_measure_L49_26
  dsimp only
  refine Fk_lt (fun v20 => ?_)
  refine Fk_lt (fun v21 => ?_)
  refine Fk_if ?_ ?_
  · exact hJ73_14 _ _ hM18
  · refine Fk_lt (fun v23 => ?_)
    refine Fk_Cl (Fk_at (fr_f_X9_measureStretch k _ _ hw0 hw1 hw2 _) hM18) (fun _ M24 hM24 => ?_)
    refine Fk_lt (fun v25 => ?_)
    exact hrc0 _ hM24
theorem fr_f_X9_measure_L39_27 (k : Nat) (m : Nat → Int) (J79_6 : Mm → Rs) (hw0 : k ≠ 273) (hw1 : k ≠ 275) (hw2 : k ≠ 276) (hJ79_6 : ∀ (x0 : Mm), x0 k = m → Fk k m (J79_6 x0)) (rc0 : Int × Mm → Rs) (hrc0 : ∀ x, x.2 k = m → Fk k m (rc0 x)) (x0 : Int × Mm) (hx0 : x0.2 k = m) : Fk k m (f_X9_measure_L39_27 J79_6 rc0 x0) := by
  obtain ⟨v7, M8⟩ := x0
  replace hx0 : M8 k = m := hx0
  have hM8 := hx0
  unfold f_X9_measure_L39_27
  dsimp only
  refine Fk_lt (fun v10 => ?_)
  refine Fk_if ?_ ?_
  · exact hJ79_6 _ hM8
  · refine Fk_join (fun J => ∀ (v12 : Int) (M13 : Mm), M13 k = m → Fk k m (J v12 M13)) ?_ (fun J73_14 hJ73_14 => ?_)
    · intro v12 M13 hM13
      refine Fk_lt (fun v15 => ?_)
      exact hrc0 _ hM13
    exact Fk_Lp (fun x => x.2.2) (fun rc hrc x hx => fr_f_X9_measure_L49_26 k m _ hw0 hw1 hw2 hJ73_14 rc hrc x hx) _ _ hM8
theorem fr_f_X9_measureLetter_L15_54 (k : Nat) (m : Nat → Int) (a1 : Int) (J103_10 : Int → Mm → Rs) (hw0 : k ≠ 275) (hJ103_10 : ∀ (x0 : Int) (x1 : Mm), x1 k = m → Fk k m (J103_10 x0 x1)) (rc0 : Int × Int × Int × Mm → Rs) (hrc0 : ∀ x, x.2.2.2 k = m → Fk k m (rc0 x)) (x0 : Int × Int × Int × Mm) (hx0 : x0.2.2.2 k = m) : Fk k m (f_X9_measureLetter_L15_54 a1 J103_10 rc0 x0) := by
  obtain ⟨v12, v13, v14, M15⟩ := x0
  replace hx0 : M15 k = m := hx0
  have hM15 := hx0
  unfold f_X9_measureLetter_L15_54
  dsimp only
  refine Fk_lt (fun v17 => ?_)
  refine Fk_if ?_ ?_
  · exact hJ103_10 _ _ hM15
  · refine Fk_join (fun J => ∀ (v19 : Int) (v20 : Int) (v21 : Int) (M22 : Mm), M22 k = m → Fk k m (J v19 v20 v21 M22)) ?_ (fun J54_23 hJ54_23 => ?_)
    · intro v19 v20 v21 M22 hM22
      refine Fk_join (fun J => ∀ (v24 : Int) (v25 : Int) (v26 : Int) (M27 : Mm), M27 k = m → Fk k m (J v24 v25 v26 M27)) ?_ (fun J74_28 hJ74_28 => ?_)
      · intro v24 v25 v26 M27 hM27
        refine Fk_lt (fun v29 => ?_)
        refine Fk_Cl (Fk_at (fr_f_X9_placeOf k _ _ _  _) hM27) (fun v31 M30 hM30 => ?_)
        refine Fk_lt (fun v32 => ?_)
        refine Fk_Cl (Fk_at (fr_f_X11_setEntry k _ _ _ hw0 _) hM30) (fun _ M33 hM33 => ?_)
        refine Fk_lt (fun v34 => ?_)
        exact hrc0 _ hM33
      refine Fk_if ?_ ?_
      · refine Fk_lt (fun v36 => ?_)
        refine Fk_lt (fun v37 => ?_)
        exact hJ74_28 _ _ _ _ hM22
      · refine Fk_lt (fun v38 => ?_)
        refine Fk_lt (fun v39 => ?_)
        exact hJ74_28 _ _ _ _ hM22
    refine Fk_join (fun J => ∀ (v40 : Int) (v41 : Int) (M42 : Mm), M42 k = m → Fk k m (J v40 v41 M42)) ?_ (fun J49_43 hJ49_43 => ?_)
    · intro v40 v41 M42 hM42
      exact hJ54_23 _ _ _ _ hM42
    refine Fk_if ?_ ?_
    · exact hJ49_43 _ _ _ hM15
    · refine Fk_join (fun J => ∀ (v45 : Int) (v46 : Int) (M47 : Mm), M47 k = m → Fk k m (J v45 v46 M47)) ?_ (fun J53_48 hJ53_48 => ?_)
      · intro v45 v46 M47 hM47
        exact hJ54_23 _ _ _ _ hM47
      refine Fk_if ?_ ?_
      · exact hJ53_48 _ _ _ hM15
      · refine Fk_lt (fun v50 => ?_)
        refine Fk_Cl (Fk_at (fr_f_X11_entryOf k _ _  _) hM15) (fun v52 M51 hM51 => ?_)
        refine Fk_if ?_ ?_
        · exact hJ53_48 _ _ _ hM51
        · exact hJ49_43 _ _ _ hM51
theorem fr_f_X9_measureLetter_L2_55 (k : Nat) (m : Nat → Int) (a1 : Int) (J109_2 : Mm → Rs) (hw0 : k ≠ 275) (hJ109_2 : ∀ (x0 : Mm), x0 k = m → Fk k m (J109_2 x0)) (rc0 : Int × Mm → Rs) (hrc0 : ∀ x, x.2 k = m → Fk k m (rc0 x)) (x0 : Int × Mm) (hx0 : x0.2 k = m) : Fk k m (f_X9_measureLetter_L2_55 a1 J109_2 rc0 x0) := by
  obtain ⟨v3, M4⟩ := x0
  replace hx0 : M4 k = m := hx0
  have hM4 := hx0
  unfold f_X9_measureLetter_L2_55
  dsimp only
  refine Fk_lt (fun v6 => ?_)
  refine Fk_if ?_ ?_
  · exact hJ109_2 _ hM4
  · refine Fk_join (fun J => ∀ (v8 : Int) (M9 : Mm), M9 k = m → Fk k m (J v8 M9)) ?_ (fun J103_10 hJ103_10 => ?_)
    · intro v8 M9 hM9
      refine Fk_lt (fun v11 => ?_)
      exact hrc0 _ hM9
    exact Fk_Lp (fun x => x.2.2.2) (fun rc hrc x hx => fr_f_X9_measureLetter_L15_54 k m _ _ hw0 hJ103_10 rc hrc x hx) _ _ hM4
theorem fr_f_X9_measureLetter (k : Nat) (a1 : Int) (hw0 : k ≠ 275) (M : Mm) : Fk k (M k) (f_X9_measureLetter a1 M) := by
  obtain ⟨m, hM⟩ : ∃ m, M k = m := ⟨_, rfl⟩
  rw [hM]
  unfold f_X9_measureLetter
  refine Fk_join (fun J => ∀ (M1 : Mm), M1 k = m → Fk k m (J M1)) ?_ (fun J109_2 hJ109_2 => ?_)
  · intro M1 hM1
    exact Fk_some hM1
  exact Fk_Lp (fun x => x.2) (fun rc hrc x hx => fr_f_X9_measureLetter_L2_55 k m _ _ hw0 hJ109_2 rc hrc x hx) _ _ hM
theorem fr_f_X9_measure_L20_34 (k : Nat) (m : Nat → Int) (J37_4 : Mm → Rs) (hw0 : k ≠ 275) (hJ37_4 : ∀ (x0 : Mm), x0 k = m → Fk k m (J37_4 x0)) (rc0 : Int × Mm → Rs) (hrc0 : ∀ x, x.2 k = m → Fk k m (rc0 x)) (x0 : Int × Mm) (hx0 : x0.2 k = m) : Fk k m (f_X9_measure_L20_34 J37_4 rc0 x0) := by
  obtain ⟨v28, M29⟩ := x0
  replace hx0 : M29 k = m := hx0
  have hM29 := hx0
  unfold f_X9_measure_L20_34
  dsimp only
  refine Fk_if ?_ ?_
  · exact hJ37_4 _ hM29
  · refine Fk_Cl (Fk_at (fr_f_X9_measureLetter k _ hw0 _) hM29) (fun _ M32 hM32 => ?_)
    refine Fk_lt (fun v33 => ?_)
    exact hrc0 _ hM32
theorem fr_f_X9_measure (k : Nat)  (hw0 : k ≠ 275) (hw1 : k ≠ 276) (hw2 : k ≠ 273) (M : Mm) : Fk k (M k) (f_X9_measure M) := by
  obtain ⟨m, hM⟩ : ∃ m, M k = m := ⟨_, rfl⟩
  rw [hM]
  unfold f_X9_measure
  refine Fk_Cl (Fk_at (fr_f_X11_fillRow k _ _ hw0 _) hM) (fun _ M1 hM1 => ?_)
  refine Fk_Cl (Fk_at (fr_f_X11_fillRow k _ _ hw1 _) hM1) (fun _ M2 hM2 => ?_)
  refine Fk_join (fun J => ∀ (M3 : Mm), M3 k = m → Fk k m (J M3)) ?_ (fun J37_4 hJ37_4 => ?_)
  · intro M3 hM3
    refine Fk_join (fun J => ∀ (M5 : Mm), M5 k = m → Fk k m (J M5)) ?_ (fun J79_6 hJ79_6 => ?_)
    · intro M5 hM5
      exact Fk_some hM5
    exact Fk_Lp (fun x => x.2) (fun rc hrc x hx => fr_f_X9_measure_L39_27 k m _ hw2 hw0 hw1 hJ79_6 rc hrc x hx) _ _ hM3
  exact Fk_Lp (fun x => x.2) (fun rc hrc x hx => fr_f_X9_measure_L20_34 k m _ hw0 hJ37_4 rc hrc x hx) _ _ hM2
theorem fr_f_X9_await (k : Nat) (a1 : Int) (a2 : Int) (a3 : Int) (a4 : Int) (a5 : Int) (hw0 : k ≠ 273) (hw1 : k ≠ 277) (hw2 : k ≠ 278) (hw3 : k ≠ 279) (hw4 : k ≠ 280) (hw5 : k ≠ 281) (M : Mm) : Fk k (M k) (f_X9_await a1 a2 a3 a4 a5 M) := by
  obtain ⟨m, hM⟩ : ∃ m, M k = m := ⟨_, rfl⟩
  rw [hM]
  unfold f_X9_await
  refine Fk_lt (fun v1 => ?_)
  refine Fk_if ?_ ?_
  · refine Fk_lt (fun v3 => ?_)
    refine Fk_Cl (Fk_at (fr_f_X11_setEntry k _ _ _ hw1 _) hM) (fun _ M4 hM4 => ?_)
    refine Fk_lt (fun v5 => ?_)
    refine Fk_Cl (Fk_at (fr_f_X11_setEntry k _ _ _ hw2 _) hM4) (fun _ M6 hM6 => ?_)
    refine Fk_lt (fun v7 => ?_)
    refine Fk_Cl (Fk_at (fr_f_X11_setEntry k _ _ _ hw3 _) hM6) (fun _ M8 hM8 => ?_)
    refine Fk_lt (fun v9 => ?_)
    refine Fk_Cl (Fk_at (fr_f_X11_setEntry k _ _ _ hw4 _) hM8) (fun _ M10 hM10 => ?_)
    refine Fk_lt (fun v11 => ?_)
    refine Fk_Cl (Fk_at (fr_f_X11_setEntry k _ _ _ hw5 _) hM10) (fun _ M12 hM12 => ?_)
    refine Fk_lt (fun v13 => ?_)
    refine Fk_lt (fun v14 => ?_)
    refine Fk_ltm (Fk_up hw0 hM12) (fun M15 hM15 => ?_)
    exact Fk_some hM15
  · exact Fk_some hM
theorem fr_f_X9_productionFor_L12_24 (k : Nat) (m : Nat → Int) (a1 : Int) (a2 : Int) (a3 : Int) (v2 : Int) (J62_4 : Mm → Rs) (J53_7 : Int → Mm → Rs) (hw0 : k ≠ 273) (hJ62_4 : ∀ (x0 : Mm), x0 k = m → Fk k m (J62_4 x0)) (hJ53_7 : ∀ (x0 : Int) (x1 : Mm), x1 k = m → Fk k m (J53_7 x0 x1)) (rc0 : Int × Mm → Rs) (hrc0 : ∀ x, x.2 k = m → Fk k m (rc0 x)) (x0 : Int × Mm) (hx0 : x0.2 k = m) : Fk k m (f_X9_productionFor_L12_24 a1 a2 a3 v2 J62_4 J53_7 rc0 x0) := by
  obtain ⟨v8, M9⟩ := x0
  replace hx0 : M9 k = m := hx0
  have hM9 := hx0
  unfold f_X9_productionFor_L12_24
  dsimp only
  refine Fk_lt (fun v11 => ?_)
  refine Fk_if ?_ ?_
  · exact hJ62_4 _ hM9
  · refine Fk_Cl (Fk_at (fr_f_X5_headOf k _  _) hM9) (fun v14 M13 hM13 => ?_)
    refine Fk_join (fun J => ∀ (v15 : Int) (M16 : Mm), M16 k = m → Fk k m (J v15 M16)) ?_ (fun J56_17 hJ56_17 => ?_)
    · intro v15 M16 hM16
      refine Fk_lt (fun v18 => ?_)
      exact hrc0 _ hM16
    refine Fk_if ?_ ?_
    · exact hJ56_17 _ _ hM13
    · refine Fk_Cl (Fk_at (fr_f_X9_weigh k _ _ _ _ hw0 _) hM13) (fun v21 M20 hM20 => ?_)
      refine Fk_lt (fun v22 => ?_)
      refine Fk_if ?_ ?_
      · exact hJ56_17 _ _ hM20
      · exact hJ53_7 _ _ hM20
theorem fr_f_X9_productionFor (k : Nat) (a1 : Int) (a2 : Int) (a3 : Int) (hw0 : k ≠ 273) (M : Mm) : Fk k (M k) (f_X9_productionFor a1 a2 a3 M) := by
  obtain ⟨m, hM⟩ : ∃ m, M k = m := ⟨_, rfl⟩
  rw [hM]
  unfold f_X9_productionFor
  refine Fk_Cl (Fk_at (fr_f_X9_weightOf k _ _ _  _) hM) (fun v2 M1 hM1 => ?_)
  refine Fk_join (fun J => ∀ (M3 : Mm), M3 k = m → Fk k m (J M3)) ?_ (fun J62_4 hJ62_4 => ?_)
  · intro M3 hM3
    exact Fk_some hM3
  refine Fk_join (fun J => ∀ (v5 : Int) (M6 : Mm), M6 k = m → Fk k m (J v5 M6)) ?_ (fun J53_7 hJ53_7 => ?_)
  · intro v5 M6 hM6
    exact Fk_some hM6
  exact Fk_Lp (fun x => x.2) (fun rc hrc x hx => fr_f_X9_productionFor_L12_24 k m _ _ _ _ _ _ hw0 hJ62_4 hJ53_7 rc hrc x hx) _ _ hM1
theorem fr_f_X9_cutUp_L23_18 (k : Nat) (m : Nat → Int) (a1 : Int) (a3 : Int) (J72_4 : Mm → Rs) (hw0 : k ≠ 273) (hw1 : k ≠ 282) (hJ72_4 : ∀ (x0 : Mm), x0 k = m → Fk k m (J72_4 x0)) (rc0 : Int × Int × Mm → Rs) (hrc0 : ∀ x, x.2.2 k = m → Fk k m (rc0 x)) (x0 : Int × Int × Mm) (hx0 : x0.2.2 k = m) : Fk k m (f_X9_cutUp_L23_18 a1 a3 J72_4 rc0 x0) := by
  obtain ⟨v5, v6, M7⟩ := x0
  replace hx0 : M7 k = m := hx0
  have hM7 := hx0
  unfold f_X9_cutUp_L23_18
  dsimp only
  refine Fk_Cl (Fk_at (fr_f_X5_lengthOf k _  _) hM7) (fun v10 M9 hM9 => ?_)
  refine Fk_if ?_ ?_
  · exact hJ72_4 _ hM9
  · refine Fk_Cl (Fk_at (fr_f_X9_weigh k _ _ _ _ hw0 _) hM9) (fun v13 M12 hM12 => ?_)
    refine Fk_lt (fun v14 => ?_)
    refine Fk_lt (fun v15 => ?_)
    refine Fk_Cl (Fk_at (fr_f_X11_setEntry k _ _ _ hw1 _) hM12) (fun _ M16 hM16 => ?_)
    refine Fk_lt (fun v17 => ?_)
    exact hrc0 _ hM16
theorem fr_f_X9_cutUp (k : Nat) (a1 : Int) (a2 : Int) (a3 : Int) (hw0 : k ≠ 282) (hw1 : k ≠ 273) (M : Mm) : Fk k (M k) (f_X9_cutUp a1 a2 a3 M) := by
  obtain ⟨m, hM⟩ : ∃ m, M k = m := ⟨_, rfl⟩
  rw [hM]
  unfold f_X9_cutUp
  refine Fk_Cl (Fk_at (fr_f_X11_fillRow k _ _ hw0 _) hM) (fun _ M1 hM1 => ?_)
  refine Fk_Cl (Fk_at (fr_f_X11_setEntry k _ _ _ hw0 _) hM1) (fun _ M2 hM2 => ?_)
  refine Fk_join (fun J => ∀ (M3 : Mm), M3 k = m → Fk k m (J M3)) ?_ (fun J72_4 hJ72_4 => ?_)
  · intro M3 hM3
    exact Fk_some hM3
  exact Fk_Lp (fun x => x.2.2) (fun rc hrc x hx => fr_f_X9_cutUp_L23_18 k m _ _ _ hw1 hw0 hJ72_4 rc hrc x hx) _ _ hM2
theorem fr_f_X9_putsOf_L7_39 (k : Nat) (m : Nat → Int) (a1 : Int) (J104_3 : Int → Mm → Rs)  (hJ104_3 : ∀ (x0 : Int) (x1 : Mm), x1 k = m → Fk k m (J104_3 x0 x1)) (rc0 : Int × Int × Int × Mm → Rs) (hrc0 : ∀ x, x.2.2.2 k = m → Fk k m (rc0 x)) (x0 : Int × Int × Int × Mm) (hx0 : x0.2.2.2 k = m) : Fk k m (f_X9_putsOf_L7_39 a1 J104_3 rc0 x0) := by
  obtain ⟨v4, v5, v6, M7⟩ := x0
  replace hx0 : M7 k = m := hx0
  have hM7 := hx0
  unfold f_X9_putsOf_L7_39
  dsimp only
  refine Fk_Cl (Fk_at (fr_f_X5_lengthOf k _  _) hM7) (fun v10 M9 hM9 => ?_)
  refine Fk_if ?_ ?_
  · exact hJ104_3 _ _ hM9
  · refine Fk_Cl (Fk_at (fr_f_X5_symbolOf k _ _  _) hM9) (fun v13 M12 hM12 => ?_)
    refine Fk_join (fun J => ∀ (v14 : Int) (v15 : Int) (v16 : Int) (M17 : Mm), M17 k = m → Fk k m (J v14 v15 v16 M17)) ?_ (fun J98_18 hJ98_18 => ?_)
    · intro v14 v15 v16 M17 hM17
      refine Fk_lt (fun v19 => ?_)
      exact hrc0 _ hM17
    refine Fk_if ?_ ?_
    · refine Fk_Cl (Fk_at (fr_f_X11_entryOf k _ _  _) hM12) (fun v22 M21 hM21 => ?_)
      refine Fk_lt (fun v23 => ?_)
      refine Fk_Cl (Fk_at (fr_f_X11_entryOf k _ _  _) hM21) (fun v25 M24 hM24 => ?_)
      refine Fk_Cl (Fk_at (fr_f_X9_weightOf k _ _ _  _) hM24) (fun v27 M26 hM26 => ?_)
      refine Fk_lt (fun v28 => ?_)
      refine Fk_lt (fun v29 => ?_)
      refine Fk_join (fun J => ∀ (v30 : Int) (v31 : Int) (v32 : Int) (v33 : Int) (M34 : Mm), M34 k = m → Fk k m (J v30 v31 v32 v33 M34)) ?_ (fun J92_35 hJ92_35 => ?_)
      · intro v30 v31 v32 v33 M34 hM34
        refine Fk_lt (fun v36 => ?_)
        refine Fk_lt (fun v37 => ?_)
        exact hJ98_18 _ _ _ _ hM34
      refine Fk_if ?_ ?_
      · exact hJ92_35 _ _ _ _ _ hM26
      · exact hJ92_35 _ _ _ _ _ hM26
    · exact hJ98_18 _ _ _ _ hM12
theorem fr_f_X9_putsOf (k : Nat) (a1 : Int)  (M : Mm) : Fk k (M k) (f_X9_putsOf a1 M) := by
  obtain ⟨m, hM⟩ : ∃ m, M k = m := ⟨_, rfl⟩
  rw [hM]
  unfold f_X9_putsOf
  refine Fk_join (fun J => ∀ (v1 : Int) (M2 : Mm), M2 k = m → Fk k m (J v1 M2)) ?_ (fun J104_3 hJ104_3 => ?_)
  · intro v1 M2 hM2
    exact Fk_some hM2
  exact Fk_Lp (fun x => x.2.2.2) (fun rc hrc x hx => fr_f_X9_putsOf_L7_39 k m _ _  hJ104_3 rc hrc x hx) _ _ hM
theorem fr_f_X8_append_L79_29 (k : Nat) (m : Nat → Int) (h : Nat) (v1 : Int) (J106_12 : Mm → Rs) (hw0 : k ≠ h + 5) (hJ106_12 : ∀ (x0 : Mm), x0 k = m → Fk k m (J106_12 x0)) (rc0 : Int × Mm → Rs) (hrc0 : ∀ x, x.2 k = m → Fk k m (rc0 x)) (x0 : Int × Mm) (hx0 : x0.2 k = m) : Fk k m (f_X8_append_L79_29 h v1 J106_12 rc0 x0) := by
  obtain ⟨v21, M22⟩ := x0
  replace hx0 : M22 k = m := hx0
  have hM22 := hx0
  unfold f_X8_append_L79_29
  dsimp only
  refine Fk_if ?_ ?_
  · exact hJ106_12 _ hM22
  · refine Fk_lt (fun v25 => ?_)
    refine Fk_lt (fun v26 => ?_)
    refine Fk_Cl (Fk_at (fr_f_X11_setEntry k _ _ _ hw0 _) hM22) (fun _ M27 hM27 => ?_)
    refine Fk_lt (fun v28 => ?_)
    exact hrc0 _ hM27
theorem fr_f_X8_append (k : Nat) (h : Nat) (a1 : Int) (a2 : Int) (a3 : Int) (a4 : Int) (hw0 : k ≠ h) (hw1 : k ≠ h + 1) (hw2 : k ≠ h + 2) (hw3 : k ≠ h + 3) (hw4 : k ≠ h + 4) (hw5 : k ≠ h + 6) (hw6 : k ≠ h + 5) (M : Mm) : Fk k (M k) (f_X8_append h a1 a2 a3 a4 M) := by
  obtain ⟨m, hM⟩ : ∃ m, M k = m := ⟨_, rfl⟩
  rw [hM]
  unfold f_X8_append
  refine Fk_lt (fun v1 => ?_)
  refine Fk_if ?_ ?_
  · refine Fk_lt (fun v3 => ?_)
    refine Fk_lt (fun v4 => ?_)
    refine Fk_ltm (Fk_up hw0 hM) (fun M5 hM5 => ?_)
    refine Fk_Cl (Fk_at (fr_f_X11_setEntry k _ _ _ hw1 _) hM5) (fun _ M6 hM6 => ?_)
    refine Fk_Cl (Fk_at (fr_f_X11_setEntry k _ _ _ hw2 _) hM6) (fun _ M7 hM7 => ?_)
    refine Fk_Cl (Fk_at (fr_f_X11_setEntry k _ _ _ hw3 _) hM7) (fun _ M8 hM8 => ?_)
    refine Fk_Cl (Fk_at (fr_f_X11_setEntry k _ _ _ hw4 _) hM8) (fun _ M9 hM9 => ?_)
    refine Fk_Cl (Fk_at (fr_f_X11_setEntry k _ _ _ hw5 _) hM9) (fun _ M10 hM10 => ?_)
    refine Fk_join (fun J => ∀ (M11 : Mm), M11 k = m → Fk k m (J M11)) ?_ (fun J106_12 hJ106_12 => ?_)
    · intro M11 hM11
      refine Fk_join (fun J => ∀ (M13 : Mm), M13 k = m → Fk k m (J M13)) ?_ (fun J133_14 hJ133_14 => ?_)
      · intro M13 hM13
        exact Fk_some hM13
      refine Fk_if ?_ ?_
      · exact hJ133_14 _ hM11
      · refine Fk_if ?_ ?_
        · exact hJ133_14 _ hM11
        · refine Fk_if ?_ ?_
          · exact hJ133_14 _ hM11
          · refine Fk_lt (fun v18 => ?_)
            refine Fk_lt (fun v19 => ?_)
            refine Fk_Cl (Fk_at (fr_f_X11_setEntry k _ _ _ hw6 _) hM11) (fun _ M20 hM20 => ?_)
            exact hJ133_14 _ hM20
    exact Fk_Lp (fun x => x.2) (fun rc hrc x hx => fr_f_X8_append_L79_29 k m _ _ _ hw6 hJ106_12 rc hrc x hx) _ _ hM10
  · exact Fk_some hM
theorem fr_f_X9_awaitChildren_L21_28 (k : Nat) (m : Nat → Int) (a1 : Int) (a2 : Int) (J81_7 : Mm → Rs) (hw0 : k ≠ 273) (hw1 : k ≠ 277) (hw2 : k ≠ 278) (hw3 : k ≠ 279) (hw4 : k ≠ 280) (hw5 : k ≠ 281) (hJ81_7 : ∀ (x0 : Mm), x0 k = m → Fk k m (J81_7 x0)) (rc0 : Int × Int × Mm → Rs) (hrc0 : ∀ x, x.2.2 k = m → Fk k m (rc0 x)) (x0 : Int × Int × Mm) (hx0 : x0.2.2 k = m) : Fk k m (f_X9_awaitChildren_L21_28 a1 a2 J81_7 rc0 x0) := by
  obtain ⟨v8, v9, M10⟩ := x0
  replace hx0 : M10 k = m := hx0
  have hM10 := hx0
  unfold f_X9_awaitChildren_L21_28
  dsimp only
  refine Fk_if ?_ ?_
  · exact hJ81_7 _ hM10
  · refine Fk_Cl (Fk_at (fr_f_X5_symbolOf k _ _  _) hM10) (fun v14 M13 hM13 => ?_)
    refine Fk_join (fun J => ∀ (v15 : Int) (v16 : Int) (M17 : Mm), M17 k = m → Fk k m (J v15 v16 M17)) ?_ (fun J75_18 hJ75_18 => ?_)
    · intro v15 v16 M17 hM17
      refine Fk_lt (fun v19 => ?_)
      exact hrc0 _ hM17
    refine Fk_if ?_ ?_
    · exact hJ75_18 _ _ _ hM13
    · refine Fk_lt (fun v21 => ?_)
      refine Fk_Cl (Fk_at (fr_f_X11_entryOf k _ _  _) hM13) (fun v23 M22 hM22 => ?_)
      refine Fk_lt (fun v24 => ?_)
      refine Fk_Cl (Fk_at (fr_f_X11_entryOf k _ _  _) hM22) (fun v26 M25 hM25 => ?_)
      refine Fk_Cl (Fk_at (fr_f_X9_await k _ _ _ _ _ hw0 hw1 hw2 hw3 hw4 hw5 _) hM25) (fun _ M27 hM27 => ?_)
      exact hJ75_18 _ _ _ hM27
theorem fr_f_X9_awaitChildren (k : Nat) (a1 : Int) (a2 : Int) (hw0 : k ≠ 273) (hw1 : k ≠ 277) (hw2 : k ≠ 278) (hw3 : k ≠ 279) (hw4 : k ≠ 280) (hw5 : k ≠ 281) (M : Mm) : Fk k (M k) (f_X9_awaitChildren a1 a2 M) := by
  obtain ⟨m, hM⟩ : ∃ m, M k = m := ⟨_, rfl⟩
  rw [hM]
  unfold f_X9_awaitChildren
  refine Fk_Cl (Fk_at (fr_f_X5_childCountOf k _  _) hM) (fun v2 M1 hM1 => ?_)
  refine Fk_Cl (Fk_at (fr_f_X5_lengthOf k _  _) hM1) (fun v4 M3 hM3 => ?_)
  refine Fk_lt (fun v5 => ?_)
  refine Fk_join (fun J => ∀ (M6 : Mm), M6 k = m → Fk k m (J M6)) ?_ (fun J81_7 hJ81_7 => ?_)
  · intro M6 hM6
    exact Fk_some hM6
  exact Fk_Lp (fun x => x.2.2) (fun rc hrc x hx => fr_f_X9_awaitChildren_L21_28 k m _ _ _ hw0 hw1 hw2 hw3 hw4 hw5 hJ81_7 rc hrc x hx) _ _ hM3
theorem fr_f_X9_grow_L19_39 (k : Nat) (m : Nat → Int) (r1 : Nat) (J150_5 : Mm → Rs) (hw0 : k ≠ 273) (hw1 : k ≠ 282) (hw2 : k ≠ r1) (hw3 : k ≠ r1 + 1) (hw4 : k ≠ r1 + 2) (hw5 : k ≠ r1 + 3) (hw6 : k ≠ r1 + 4) (hw7 : k ≠ r1 + 6) (hw8 : k ≠ r1 + 5) (hw9 : k ≠ 277) (hw10 : k ≠ 278) (hw11 : k ≠ 279) (hw12 : k ≠ 280) (hw13 : k ≠ 281) (hJ150_5 : ∀ (x0 : Mm), x0 k = m → Fk k m (J150_5 x0)) (rc0 : Int × Mm → Rs) (hrc0 : ∀ x, x.2 k = m → Fk k m (rc0 x)) (x0 : Int × Mm) (hx0 : x0.2 k = m) : Fk k m (f_X9_grow_L19_39 r1 J150_5 rc0 x0) := by
  obtain ⟨v6, M7⟩ := x0
  replace hx0 : M7 k = m := hx0
  have hM7 := hx0
  unfold f_X9_grow_L19_39
  dsimp only
  refine Fk_if ?_ ?_
  · exact hJ150_5 _ hM7
  · refine Fk_lt (fun v10 => ?_)
    refine Fk_if ?_ ?_
    · exact hJ150_5 _ hM7
    · refine Fk_lt (fun v12 => ?_)
      refine Fk_lt (fun v13 => ?_)
      refine Fk_ltm (Fk_up hw0 hM7) (fun M14 hM14 => ?_)
      refine Fk_lt (fun v15 => ?_)
      refine Fk_Cl (Fk_at (fr_f_X11_entryOf k _ _  _) hM14) (fun v17 M16 hM16 => ?_)
      refine Fk_lt (fun v18 => ?_)
      refine Fk_Cl (Fk_at (fr_f_X11_entryOf k _ _  _) hM16) (fun v20 M19 hM19 => ?_)
      refine Fk_lt (fun v21 => ?_)
      refine Fk_Cl (Fk_at (fr_f_X11_entryOf k _ _  _) hM19) (fun v23 M22 hM22 => ?_)
      refine Fk_Cl (Fk_at (fr_f_X9_productionFor k _ _ _ hw0 _) hM22) (fun v25 M24 hM24 => ?_)
      refine Fk_Cl (Fk_at (fr_f_X9_cutUp k _ _ _ hw1 hw0 _) hM24) (fun _ M26 hM26 => ?_)
      refine Fk_Cl (Fk_at (fr_f_X9_putsOf k _  _) hM26) (fun v28 M27 hM27 => ?_)
      refine Fk_lt (fun v29 => ?_)
      refine Fk_Cl (Fk_at (fr_f_X11_entryOf k _ _  _) hM27) (fun v31 M30 hM30 => ?_)
      refine Fk_lt (fun v32 => ?_)
      refine Fk_Cl (Fk_at (fr_f_X11_entryOf k _ _  _) hM30) (fun v34 M33 hM33 => ?_)
      refine Fk_Cl (Fk_at (fr_f_X8_append k _ _ _ _ _ hw2 hw3 hw4 hw5 hw6 hw7 hw8 _) hM33) (fun v36 M35 hM35 => ?_)
      refine Fk_Cl (Fk_at (fr_f_X9_awaitChildren k _ _ hw0 hw9 hw10 hw11 hw12 hw13 _) hM35) (fun _ M37 hM37 => ?_)
      refine Fk_lt (fun v38 => ?_)
      exact hrc0 _ hM37
theorem fr_f_X9_grow (k : Nat) (r1 : Nat) (hw0 : k ≠ 273) (hw1 : k ≠ 277) (hw2 : k ≠ 278) (hw3 : k ≠ 279) (hw4 : k ≠ 280) (hw5 : k ≠ 281) (hw6 : k ≠ 282) (hw7 : k ≠ r1) (hw8 : k ≠ r1 + 1) (hw9 : k ≠ r1 + 2) (hw10 : k ≠ r1 + 3) (hw11 : k ≠ r1 + 4) (hw12 : k ≠ r1 + 6) (hw13 : k ≠ r1 + 5) (M : Mm) : Fk k (M k) (f_X9_grow r1 M) := by
  obtain ⟨m, hM⟩ : ∃ m, M k = m := ⟨_, rfl⟩
  rw [hM]
  unfold f_X9_grow
  refine Fk_ltm (Fk_up hw0 hM) (fun M1 hM1 => ?_)
  refine Fk_lt (fun v2 => ?_)
  refine Fk_Cl (Fk_at (fr_f_X9_await k _ _ _ _ _ hw0 hw1 hw2 hw3 hw4 hw5 _) hM1) (fun _ M3 hM3 => ?_)
  refine Fk_join (fun J => ∀ (M4 : Mm), M4 k = m → Fk k m (J M4)) ?_ (fun J150_5 hJ150_5 => ?_)
  · intro M4 hM4
    exact Fk_some hM4
  exact Fk_Lp (fun x => x.2) (fun rc hrc x hx => fr_f_X9_grow_L19_39 k m _ _ hw0 hw6 hw7 hw8 hw9 hw10 hw11 hw12 hw13 hw1 hw2 hw3 hw4 hw5 hJ150_5 rc hrc x hx) _ _ hM3
theorem fr_f_X9_readInto (k : Nat) (r1 : Nat) (hw0 : k ≠ r1) (hw1 : k ≠ 275) (hw2 : k ≠ 276) (hw3 : k ≠ 273) (hw4 : k ≠ 277) (hw5 : k ≠ 278) (hw6 : k ≠ 279) (hw7 : k ≠ 280) (hw8 : k ≠ 281) (hw9 : k ≠ 282) (hw10 : k ≠ r1 + 1) (hw11 : k ≠ r1 + 2) (hw12 : k ≠ r1 + 3) (hw13 : k ≠ r1 + 4) (hw14 : k ≠ r1 + 6) (hw15 : k ≠ r1 + 5) (M : Mm) : Fk k (M k) (f_X9_readInto r1 M) := by
  obtain ⟨m, hM⟩ : ∃ m, M k = m := ⟨_, rfl⟩
  rw [hM]
  unfold f_X9_readInto
  refine Fk_Cl (Fk_at (fr_f_X8_clear k _ hw0 _) hM) (fun _ M1 hM1 => ?_)
  refine Fk_Cl (Fk_at (fr_f_X9_measure k  hw1 hw2 hw3 _) hM1) (fun _ M2 hM2 => ?_)
  refine Fk_lt (fun v3 => ?_)
  refine Fk_Cl (Fk_at (fr_f_X9_weightOf k _ _ _  _) hM2) (fun v5 M4 hM4 => ?_)
  refine Fk_join (fun J => ∀ (M6 : Mm), M6 k = m → Fk k m (J M6)) ?_ (fun J47_7 hJ47_7 => ?_)
  · intro M6 hM6
    exact Fk_some hM6
  refine Fk_if ?_ ?_
  · exact hJ47_7 _ hM4
  · refine Fk_lt (fun v9 => ?_)
    refine Fk_if ?_ ?_
    · exact hJ47_7 _ hM4
    · refine Fk_Cl (Fk_at (fr_f_X9_grow k _ hw3 hw4 hw5 hw6 hw7 hw8 hw9 hw0 hw10 hw11 hw12 hw13 hw14 hw15 _) hM4) (fun _ M11 hM11 => ?_)
      refine Fk_lt (fun v12 => ?_)
      refine Fk_ltm (Fk_up hw0 hM11) (fun M13 hM13 => ?_)
      exact hJ47_7 _ hM13
theorem fr_f_X8_hasNode (k : Nat) (h : Nat) (a1 : Int)  (M : Mm) : Fk k (M k) (f_X8_hasNode h a1 M) := by
  obtain ⟨m, hM⟩ : ∃ m, M k = m := ⟨_, rfl⟩
  rw [hM]
  unfold f_X8_hasNode
  refine Fk_join (fun J => ∀ (v1 : Int) (M2 : Mm), M2 k = m → Fk k m (J v1 M2)) ?_ (fun J17_3 hJ17_3 => ?_)
  · intro v1 M2 hM2
    exact Fk_some hM2
  refine Fk_join (fun J => ∀ (M4 : Mm), M4 k = m → Fk k m (J M4)) ?_ (fun J16_5 hJ16_5 => ?_)
  · intro M4 hM4
    exact hJ17_3 _ _ hM4
  refine Fk_if ?_ ?_
  · exact hJ16_5 _ hM
  · refine Fk_lt (fun v7 => ?_)
    refine Fk_if ?_ ?_
    · exact hJ16_5 _ hM
    · exact hJ17_3 _ _ hM
theorem fr_f_X8_readAsOf (k : Nat) (h : Nat) (a1 : Int)  (M : Mm) : Fk k (M k) (f_X8_readAsOf h a1 M) := by
  obtain ⟨m, hM⟩ : ∃ m, M k = m := ⟨_, rfl⟩
  rw [hM]
  unfold f_X8_readAsOf
  refine Fk_join (fun J => ∀ (v1 : Int) (M2 : Mm), M2 k = m → Fk k m (J v1 M2)) ?_ (fun J20_3 hJ20_3 => ?_)
  · intro v1 M2 hM2
    exact Fk_some hM2
  refine Fk_join (fun J => ∀ (M4 : Mm), M4 k = m → Fk k m (J M4)) ?_ (fun J19_5 hJ19_5 => ?_)
  · intro M4 hM4
    exact hJ20_3 _ _ hM4
  refine Fk_if ?_ ?_
  · exact hJ19_5 _ hM
  · refine Fk_if ?_ ?_
    · exact hJ19_5 _ hM
    · refine Fk_gd ?_
      refine Fk_lt (fun v8 => ?_)
      exact hJ20_3 _ _ hM
theorem fr_f_X8_isAlike (k : Nat) (h : Nat) (a1 : Int) (r2 : Nat) (a3 : Int)  (M : Mm) : Fk k (M k) (f_X8_isAlike h a1 r2 a3 M) := by
  obtain ⟨m, hM⟩ : ∃ m, M k = m := ⟨_, rfl⟩
  rw [hM]
  unfold f_X8_isAlike
  refine Fk_Cl (Fk_at (fr_f_X8_readAsOf k _ _  _) hM) (fun v2 M1 hM1 => ?_)
  refine Fk_Cl (Fk_at (fr_f_X8_readAsOf k _ _  _) hM1) (fun v4 M3 hM3 => ?_)
  refine Fk_join (fun J => ∀ (v5 : Int) (M6 : Mm), M6 k = m → Fk k m (J v5 M6)) ?_ (fun J37_7 hJ37_7 => ?_)
  · intro v5 M6 hM6
    exact Fk_some hM6
  refine Fk_join (fun J => ∀ (M8 : Mm), M8 k = m → Fk k m (J M8)) ?_ (fun J36_9 hJ36_9 => ?_)
  · intro M8 hM8
    exact hJ37_7 _ _ hM8
  refine Fk_if ?_ ?_
  · exact hJ36_9 _ hM3
  · refine Fk_Cl (Fk_at (fr_f_X11_entryOf k _ _  _) hM3) (fun v12 M11 hM11 => ?_)
    refine Fk_Cl (Fk_at (fr_f_X11_entryOf k _ _  _) hM11) (fun v14 M13 hM13 => ?_)
    refine Fk_if ?_ ?_
    · exact hJ36_9 _ hM13
    · exact hJ37_7 _ _ hM13
theorem fr_f_X8_nowOf (k : Nat) (h : Nat) (a1 : Int)  (M : Mm) : Fk k (M k) (f_X8_nowOf h a1 M) := by
  obtain ⟨m, hM⟩ : ∃ m, M k = m := ⟨_, rfl⟩
  rw [hM]
  unfold f_X8_nowOf
  refine Fk_join (fun J => ∀ (v1 : Int) (M2 : Mm), M2 k = m → Fk k m (J v1 M2)) ?_ (fun J20_3 hJ20_3 => ?_)
  · intro v1 M2 hM2
    exact Fk_some hM2
  refine Fk_join (fun J => ∀ (M4 : Mm), M4 k = m → Fk k m (J M4)) ?_ (fun J19_5 hJ19_5 => ?_)
  · intro M4 hM4
    exact hJ20_3 _ _ hM4
  refine Fk_if ?_ ?_
  · exact hJ19_5 _ hM
  · refine Fk_if ?_ ?_
    · exact hJ19_5 _ hM
    · refine Fk_gd ?_
      refine Fk_lt (fun v8 => ?_)
      exact hJ20_3 _ _ hM
theorem fr_f_X8_rewriteTo (k : Nat) (h : Nat) (a1 : Int) (a2 : Int) (hw0 : k ≠ h + 4) (M : Mm) : Fk k (M k) (f_X8_rewriteTo h a1 a2 M) := by
  obtain ⟨m, hM⟩ : ∃ m, M k = m := ⟨_, rfl⟩
  rw [hM]
  unfold f_X8_rewriteTo
  refine Fk_Cl (Fk_at (fr_f_X11_setEntry k _ _ _ hw0 _) hM) (fun _ M1 hM1 => ?_)
  exact Fk_some hM1
theorem fr_f_X8_parentOf (k : Nat) (h : Nat) (a1 : Int)  (M : Mm) : Fk k (M k) (f_X8_parentOf h a1 M) := by
  obtain ⟨m, hM⟩ : ∃ m, M k = m := ⟨_, rfl⟩
  rw [hM]
  unfold f_X8_parentOf
  refine Fk_join (fun J => ∀ (v1 : Int) (M2 : Mm), M2 k = m → Fk k m (J v1 M2)) ?_ (fun J20_3 hJ20_3 => ?_)
  · intro v1 M2 hM2
    exact Fk_some hM2
  refine Fk_join (fun J => ∀ (M4 : Mm), M4 k = m → Fk k m (J M4)) ?_ (fun J19_5 hJ19_5 => ?_)
  · intro M4 hM4
    exact hJ20_3 _ _ hM4
  refine Fk_if ?_ ?_
  · exact hJ19_5 _ hM
  · refine Fk_if ?_ ?_
    · exact hJ19_5 _ hM
    · refine Fk_gd ?_
      refine Fk_lt (fun v8 => ?_)
      exact hJ20_3 _ _ hM
theorem fr_f_X8_heirOf (k : Nat) (h : Nat) (a1 : Int)  (M : Mm) : Fk k (M k) (f_X8_heirOf h a1 M) := by
  obtain ⟨m, hM⟩ : ∃ m, M k = m := ⟨_, rfl⟩
  rw [hM]
  unfold f_X8_heirOf
  refine Fk_Cl (Fk_at (fr_f_X8_hasNode k _ _  _) hM) (fun v2 M1 hM1 => ?_)
  refine Fk_join (fun J => ∀ (v3 : Int) (M4 : Mm), M4 k = m → Fk k m (J v3 M4)) ?_ (fun J20_5 hJ20_5 => ?_)
  · intro v3 M4 hM4
    exact Fk_some hM4
  refine Fk_if ?_ ?_
  · exact hJ20_5 _ _ hM1
  · refine Fk_Cl (Fk_at (fr_f_X11_entryOf k _ _  _) hM1) (fun v8 M7 hM7 => ?_)
    exact hJ20_5 _ _ hM7
theorem fr_f_X8_placeOf (k : Nat) (h : Nat) (a1 : Int)  (M : Mm) : Fk k (M k) (f_X8_placeOf h a1 M) := by
  obtain ⟨m, hM⟩ : ∃ m, M k = m := ⟨_, rfl⟩
  rw [hM]
  unfold f_X8_placeOf
  refine Fk_join (fun J => ∀ (v1 : Int) (M2 : Mm), M2 k = m → Fk k m (J v1 M2)) ?_ (fun J20_3 hJ20_3 => ?_)
  · intro v1 M2 hM2
    exact Fk_some hM2
  refine Fk_join (fun J => ∀ (M4 : Mm), M4 k = m → Fk k m (J M4)) ?_ (fun J19_5 hJ19_5 => ?_)
  · intro M4 hM4
    exact hJ20_3 _ _ hM4
  refine Fk_if ?_ ?_
  · exact hJ19_5 _ hM
  · refine Fk_if ?_ ?_
    · exact hJ19_5 _ hM
    · refine Fk_gd ?_
      refine Fk_lt (fun v8 => ?_)
      exact hJ20_3 _ _ hM
theorem fr_f_X8_childOf (k : Nat) (h : Nat) (a1 : Int) (a2 : Int)  (M : Mm) : Fk k (M k) (f_X8_childOf h a1 a2 M) := by
  obtain ⟨m, hM⟩ : ∃ m, M k = m := ⟨_, rfl⟩
  rw [hM]
  unfold f_X8_childOf
  refine Fk_join (fun J => ∀ (M1 : Mm), M1 k = m → Fk k m (J M1)) ?_ (fun J21_2 hJ21_2 => ?_)
  · intro M1 hM1
    exact Fk_some hM1
  refine Fk_if ?_ ?_
  · exact hJ21_2 _ hM
  · refine Fk_lt (fun v4 => ?_)
    refine Fk_if ?_ ?_
    · exact hJ21_2 _ hM
    · refine Fk_if ?_ ?_
      · exact hJ21_2 _ hM
      · refine Fk_if ?_ ?_
        · refine Fk_lt (fun v8 => ?_)
          refine Fk_lt (fun v9 => ?_)
          refine Fk_join (fun J => ∀ (v10 : Int) (M11 : Mm), M11 k = m → Fk k m (J v10 M11)) ?_ (fun J48_12 hJ48_12 => ?_)
          · intro v10 M11 hM11
            exact Fk_some hM11
          refine Fk_if ?_ ?_
          · exact hJ48_12 _ _ hM
          · refine Fk_gd ?_
            refine Fk_lt (fun v14 => ?_)
            exact hJ48_12 _ _ hM
        · exact hJ21_2 _ hM
theorem fr_f_X8_compare_L4_45 (k : Nat) (m : Nat → Int) (h : Nat) (r1 : Nat) (J102_3 : Int → Mm → Rs) (hw0 : k ≠ h + 7) (hw1 : k ≠ r1 + 4) (hJ102_3 : ∀ (x0 : Int) (x1 : Mm), x1 k = m → Fk k m (J102_3 x0 x1)) (rc0 : Int × Int × Mm → Rs) (hrc0 : ∀ x, x.2.2 k = m → Fk k m (rc0 x)) (x0 : Int × Int × Mm) (hx0 : x0.2.2 k = m) : Fk k m (f_X8_compare_L4_45 h r1 J102_3 rc0 x0) := by
  obtain ⟨v4, v5, M6⟩ := x0
  replace hx0 : M6 k = m := hx0
  have hM6 := hx0
  unfold f_X8_compare_L4_45
  dsimp only
  refine Fk_lt (fun v8 => ?_)
  refine Fk_if ?_ ?_
  · exact hJ102_3 _ _ hM6
  · refine Fk_join (fun J => ∀ (v10 : Int) (v11 : Int) (v12 : Int) (M13 : Mm), M13 k = m → Fk k m (J v10 v11 v12 M13)) ?_ (fun J38_14 hJ38_14 => ?_)
    · intro v10 v11 v12 M13 hM13
      refine Fk_Cl (Fk_at (fr_f_X8_hasNode k _ _  _) hM13) (fun v16 M15 hM15 => ?_)
      refine Fk_join (fun J => ∀ (v17 : Int) (v18 : Int) (M19 : Mm), M19 k = m → Fk k m (J v17 v18 M19)) ?_ (fun J96_20 hJ96_20 => ?_)
      · intro v17 v18 M19 hM19
        refine Fk_lt (fun v21 => ?_)
        exact hrc0 _ hM19
      refine Fk_join (fun J => ∀ (v22 : Int) (v23 : Int) (M24 : Mm), M24 k = m → Fk k m (J v22 v23 M24)) ?_ (fun J60_25 hJ60_25 => ?_)
      · intro v22 v23 M24 hM24
        refine Fk_Cl (Fk_at (fr_f_X11_setEntry k _ _ _ hw0 _) hM24) (fun _ M26 hM26 => ?_)
        exact hJ96_20 _ _ _ hM26
      refine Fk_if ?_ ?_
      · exact hJ60_25 _ _ _ hM15
      · refine Fk_Cl (Fk_at (fr_f_X8_isAlike k _ _ _ _  _) hM15) (fun v29 M28 hM28 => ?_)
        refine Fk_if ?_ ?_
        · refine Fk_Cl (Fk_at (fr_f_X11_setEntry k _ _ _ hw0 _) hM28) (fun _ M31 hM31 => ?_)
          refine Fk_Cl (Fk_at (fr_f_X8_nowOf k _ _  _) hM31) (fun v33 M32 hM32 => ?_)
          refine Fk_Cl (Fk_at (fr_f_X8_rewriteTo k _ _ _ hw1 _) hM32) (fun _ M34 hM34 => ?_)
          refine Fk_lt (fun v35 => ?_)
          exact hJ96_20 _ _ _ hM34
        · exact hJ60_25 _ _ _ hM28
    refine Fk_if ?_ ?_
    · refine Fk_Cl (Fk_at (fr_f_X8_parentOf k _ _  _) hM6) (fun v38 M37 hM37 => ?_)
      refine Fk_Cl (Fk_at (fr_f_X8_heirOf k _ _  _) hM37) (fun v40 M39 hM39 => ?_)
      refine Fk_Cl (Fk_at (fr_f_X8_placeOf k _ _  _) hM39) (fun v42 M41 hM41 => ?_)
      refine Fk_Cl (Fk_at (fr_f_X8_childOf k _ _ _  _) hM41) (fun v44 M43 hM43 => ?_)
      exact hJ38_14 _ _ _ _ hM43
    · exact hJ38_14 _ _ _ _ hM6
theorem fr_f_X8_compare (k : Nat) (h : Nat) (r1 : Nat) (hw0 : k ≠ h + 7) (hw1 : k ≠ r1 + 4) (M : Mm) : Fk k (M k) (f_X8_compare h r1 M) := by
  obtain ⟨m, hM⟩ : ∃ m, M k = m := ⟨_, rfl⟩
  rw [hM]
  unfold f_X8_compare
  refine Fk_join (fun J => ∀ (v1 : Int) (M2 : Mm), M2 k = m → Fk k m (J v1 M2)) ?_ (fun J102_3 hJ102_3 => ?_)
  · intro v1 M2 hM2
    exact Fk_some hM2
  exact Fk_Lp (fun x => x.2.2) (fun rc hrc x hx => fr_f_X8_compare_L4_45 k m _ _ _ hw0 hw1 hJ102_3 rc hrc x hx) _ _ hM
theorem fr_f_X11_copyRow_L2_11 (k : Nat) (m : Nat → Int) (r1 : Nat) (r2 : Nat) (J26_2 : Mm → Rs) (hw0 : k ≠ r2) (hJ26_2 : ∀ (x0 : Mm), x0 k = m → Fk k m (J26_2 x0)) (rc0 : Int × Mm → Rs) (hrc0 : ∀ x, x.2 k = m → Fk k m (rc0 x)) (x0 : Int × Mm) (hx0 : x0.2 k = m) : Fk k m (f_X11_copyRow_L2_11 r1 r2 J26_2 rc0 x0) := by
  obtain ⟨v3, M4⟩ := x0
  replace hx0 : M4 k = m := hx0
  have hM4 := hx0
  unfold f_X11_copyRow_L2_11
  dsimp only
  refine Fk_if ?_ ?_
  · exact hJ26_2 _ hM4
  · refine Fk_if ?_ ?_
    · exact hJ26_2 _ hM4
    · refine Fk_gd ?_
      refine Fk_lt (fun v8 => ?_)
      refine Fk_gd ?_
      refine Fk_ltm (Fk_up hw0 hM4) (fun M9 hM9 => ?_)
      refine Fk_lt (fun v10 => ?_)
      exact hrc0 _ hM9
theorem fr_f_X11_copyRow (k : Nat) (r1 : Nat) (r2 : Nat) (hw0 : k ≠ r2) (M : Mm) : Fk k (M k) (f_X11_copyRow r1 r2 M) := by
  obtain ⟨m, hM⟩ : ∃ m, M k = m := ⟨_, rfl⟩
  rw [hM]
  unfold f_X11_copyRow
  refine Fk_join (fun J => ∀ (M1 : Mm), M1 k = m → Fk k m (J M1)) ?_ (fun J26_2 hJ26_2 => ?_)
  · intro M1 hM1
    exact Fk_some hM1
  exact Fk_Lp (fun x => x.2) (fun rc hrc x hx => fr_f_X11_copyRow_L2_11 k m _ _ _ hw0 hJ26_2 rc hrc x hx) _ _ hM
theorem fr_f_X8_take (k : Nat) (h : Nat) (r1 : Nat) (hw0 : k ≠ h) (hw1 : k ≠ h + 1) (hw2 : k ≠ h + 2) (hw3 : k ≠ h + 3) (hw4 : k ≠ h + 4) (hw5 : k ≠ h + 5) (hw6 : k ≠ h + 6) (M : Mm) : Fk k (M k) (f_X8_take h r1 M) := by
  obtain ⟨m, hM⟩ : ∃ m, M k = m := ⟨_, rfl⟩
  rw [hM]
  unfold f_X8_take
  refine Fk_lt (fun v1 => ?_)
  refine Fk_ltm (Fk_up hw0 hM) (fun M2 hM2 => ?_)
  refine Fk_lt (fun v3 => ?_)
  refine Fk_ltm (Fk_up hw0 hM2) (fun M4 hM4 => ?_)
  refine Fk_Cl (Fk_at (fr_f_X11_copyRow k _ _ hw1 _) hM4) (fun _ M5 hM5 => ?_)
  refine Fk_Cl (Fk_at (fr_f_X11_copyRow k _ _ hw2 _) hM5) (fun _ M6 hM6 => ?_)
  refine Fk_Cl (Fk_at (fr_f_X11_copyRow k _ _ hw3 _) hM6) (fun _ M7 hM7 => ?_)
  refine Fk_Cl (Fk_at (fr_f_X11_copyRow k _ _ hw4 _) hM7) (fun _ M8 hM8 => ?_)
  refine Fk_Cl (Fk_at (fr_f_X11_copyRow k _ _ hw5 _) hM8) (fun _ M9 hM9 => ?_)
  refine Fk_Cl (Fk_at (fr_f_X11_copyRow k _ _ hw6 _) hM9) (fun _ M10 hM10 => ?_)
  exact Fk_some hM10
theorem fr_f_X11_bitOf (k : Nat) (a1 : Int)  (M : Mm) : Fk k (M k) (f_X11_bitOf a1 M) := by
  obtain ⟨m, hM⟩ : ∃ m, M k = m := ⟨_, rfl⟩
  rw [hM]
  unfold f_X11_bitOf
  refine Fk_join (fun J => ∀ (v1 : Int) (M2 : Mm), M2 k = m → Fk k m (J v1 M2)) ?_ (fun J17_3 hJ17_3 => ?_)
  · intro v1 M2 hM2
    exact Fk_some hM2
  refine Fk_join (fun J => ∀ (M4 : Mm), M4 k = m → Fk k m (J M4)) ?_ (fun J16_5 hJ16_5 => ?_)
  · intro M4 hM4
    exact hJ17_3 _ _ hM4
  refine Fk_if ?_ ?_
  · exact hJ16_5 _ hM
  · refine Fk_if ?_ ?_
    · exact hJ16_5 _ hM
    · refine Fk_lt (fun v8 => ?_)
      exact hJ17_3 _ _ hM
theorem fr_f_X8_touched_L4_26 (k : Nat) (m : Nat → Int) (h : Nat) (J43_3 : Int → Mm → Rs)  (hJ43_3 : ∀ (x0 : Int) (x1 : Mm), x1 k = m → Fk k m (J43_3 x0 x1)) (rc0 : Int × Int × Mm → Rs) (hrc0 : ∀ x, x.2.2 k = m → Fk k m (rc0 x)) (x0 : Int × Int × Mm) (hx0 : x0.2.2 k = m) : Fk k m (f_X8_touched_L4_26 h J43_3 rc0 x0) := by
  obtain ⟨v4, v5, M6⟩ := x0
  replace hx0 : M6 k = m := hx0
  have hM6 := hx0
  unfold f_X8_touched_L4_26
  dsimp only
  refine Fk_lt (fun v8 => ?_)
  refine Fk_if ?_ ?_
  · exact hJ43_3 _ _ hM6
  · refine Fk_Cl (Fk_at (fr_f_X8_heirOf k _ _  _) hM6) (fun v11 M10 hM10 => ?_)
    refine Fk_join (fun J => ∀ (v12 : Int) (v13 : Int) (M14 : Mm), M14 k = m → Fk k m (J v12 v13 M14)) ?_ (fun J37_15 hJ37_15 => ?_)
    · intro v12 v13 M14 hM14
      refine Fk_lt (fun v16 => ?_)
      exact hrc0 _ hM14
    refine Fk_if ?_ ?_
    · exact hJ37_15 _ _ _ hM10
    · refine Fk_Cl (Fk_at (fr_f_X11_bitOf k _  _) hM10) (fun v19 M18 hM18 => ?_)
      refine Fk_Cl (Fk_at (fr_f_X8_parentOf k _ _  _) hM18) (fun v21 M20 hM20 => ?_)
      refine Fk_Cl (Fk_at (fr_f_X11_bitOf k _  _) hM20) (fun v23 M22 hM22 => ?_)
      refine Fk_lt (fun v24 => ?_)
      refine Fk_lt (fun v25 => ?_)
      exact hJ37_15 _ _ _ hM22
theorem fr_f_X8_touched (k : Nat) (h : Nat)  (M : Mm) : Fk k (M k) (f_X8_touched h M) := by
  obtain ⟨m, hM⟩ : ∃ m, M k = m := ⟨_, rfl⟩
  rw [hM]
  unfold f_X8_touched
  refine Fk_join (fun J => ∀ (v1 : Int) (M2 : Mm), M2 k = m → Fk k m (J v1 M2)) ?_ (fun J43_3 hJ43_3 => ?_)
  · intro v1 M2 hM2
    exact Fk_some hM2
  exact Fk_Lp (fun x => x.2.2) (fun rc hrc x hx => fr_f_X8_touched_L4_26 k m _ _  hJ43_3 rc hrc x hx) _ _ hM
theorem fr_f_X3_drop_L2_16 (k : Nat) (m : Nat → Int) (h : Nat) (a1 : Int) (J37_2 : Mm → Rs) (hw0 : k ≠ h + 2) (hJ37_2 : ∀ (x0 : Mm), x0 k = m → Fk k m (J37_2 x0)) (rc0 : Int × Mm → Rs) (hrc0 : ∀ x, x.2 k = m → Fk k m (rc0 x)) (x0 : Int × Mm) (hx0 : x0.2 k = m) : Fk k m (f_X3_drop_L2_16 h a1 J37_2 rc0 x0) := by
  obtain ⟨v3, M4⟩ := x0
  replace hx0 : M4 k = m := hx0
  have hM4 := hx0
  unfold f_X3_drop_L2_16
  dsimp only
  refine Fk_if ?_ ?_
  · exact hJ37_2 _ hM4
  · refine Fk_Cl (Fk_at (fr_f_X11_entryOf k _ _  _) hM4) (fun v8 M7 hM7 => ?_)
    refine Fk_lt (fun v9 => ?_)
    refine Fk_join (fun J => ∀ (v10 : Int) (M11 : Mm), M11 k = m → Fk k m (J v10 M11)) ?_ (fun J31_12 hJ31_12 => ?_)
    · intro v10 M11 hM11
      refine Fk_lt (fun v13 => ?_)
      exact hrc0 _ hM11
    refine Fk_if ?_ ?_
    · exact hJ31_12 _ _ hM7
    · refine Fk_Cl (Fk_at (fr_f_X11_setEntry k _ _ _ hw0 _) hM7) (fun _ M15 hM15 => ?_)
      exact hJ31_12 _ _ hM15
theorem fr_f_X3_drop (k : Nat) (h : Nat) (a1 : Int) (hw0 : k ≠ h + 2) (M : Mm) : Fk k (M k) (f_X3_drop h a1 M) := by
  obtain ⟨m, hM⟩ : ∃ m, M k = m := ⟨_, rfl⟩
  rw [hM]
  unfold f_X3_drop
  refine Fk_join (fun J => ∀ (M1 : Mm), M1 k = m → Fk k m (J M1)) ?_ (fun J37_2 hJ37_2 => ?_)
  · intro M1 hM1
    exact Fk_some hM1
  exact Fk_Lp (fun x => x.2) (fun rc hrc x hx => fr_f_X3_drop_L2_16 k m _ _ _ hw0 hJ37_2 rc hrc x hx) _ _ hM
theorem fr_f_X3_has (k : Nat) (h : Nat) (a1 : Int)  (M : Mm) : Fk k (M k) (f_X3_has h a1 M) := by
  obtain ⟨m, hM⟩ : ∃ m, M k = m := ⟨_, rfl⟩
  rw [hM]
  unfold f_X3_has
  refine Fk_join (fun J => ∀ (v1 : Int) (M2 : Mm), M2 k = m → Fk k m (J v1 M2)) ?_ (fun J25_3 hJ25_3 => ?_)
  · intro v1 M2 hM2
    exact Fk_some hM2
  refine Fk_join (fun J => ∀ (M4 : Mm), M4 k = m → Fk k m (J M4)) ?_ (fun J24_5 hJ24_5 => ?_)
  · intro M4 hM4
    exact hJ25_3 _ _ hM4
  refine Fk_if ?_ ?_
  · exact hJ24_5 _ hM
  · refine Fk_if ?_ ?_
    · exact hJ24_5 _ hM
    · refine Fk_gd ?_
      refine Fk_lt (fun v8 => ?_)
      refine Fk_if ?_ ?_
      · exact hJ24_5 _ hM
      · exact hJ25_3 _ _ hM
theorem fr_f_X11_slotOf (k : Nat) (a1 : Int) (a2 : Int)  (M : Mm) : Fk k (M k) (f_X11_slotOf a1 a2 M) := by
  obtain ⟨m, hM⟩ : ∃ m, M k = m := ⟨_, rfl⟩
  rw [hM]
  unfold f_X11_slotOf
  refine Fk_lt (fun v1 => ?_)
  refine Fk_lt (fun v2 => ?_)
  exact Fk_some hM
theorem fr_f_X3_valueOf (k : Nat) (h : Nat) (a1 : Int)  (M : Mm) : Fk k (M k) (f_X3_valueOf h a1 M) := by
  obtain ⟨m, hM⟩ : ∃ m, M k = m := ⟨_, rfl⟩
  rw [hM]
  unfold f_X3_valueOf
  refine Fk_join (fun J => ∀ (v1 : Int) (M2 : Mm), M2 k = m → Fk k m (J v1 M2)) ?_ (fun J21_3 hJ21_3 => ?_)
  · intro v1 M2 hM2
    exact Fk_some hM2
  refine Fk_join (fun J => ∀ (M4 : Mm), M4 k = m → Fk k m (J M4)) ?_ (fun J20_5 hJ20_5 => ?_)
  · intro M4 hM4
    exact hJ21_3 _ _ hM4
  refine Fk_if ?_ ?_
  · exact hJ20_5 _ hM
  · refine Fk_if ?_ ?_
    · exact hJ20_5 _ hM
    · refine Fk_gd ?_
      refine Fk_lt (fun v8 => ?_)
      exact hJ21_3 _ _ hM
theorem fr_f_X3_valueInHeirs (k : Nat) (r1 : Nat) (a2 : Int)  (M : Mm) : Fk k (M k) (f_X3_valueInHeirs r1 a2 M) := by
  obtain ⟨m, hM⟩ : ∃ m, M k = m := ⟨_, rfl⟩
  rw [hM]
  unfold f_X3_valueInHeirs
  refine Fk_join (fun J => ∀ (v1 : Int) (M2 : Mm), M2 k = m → Fk k m (J v1 M2)) ?_ (fun J24_3 hJ24_3 => ?_)
  · intro v1 M2 hM2
    exact Fk_some hM2
  refine Fk_if ?_ ?_
  · refine Fk_lt (fun v5 => ?_)
    refine Fk_Cl (Fk_at (fr_f_X8_heirOf k _ _  _) hM) (fun v7 M6 hM6 => ?_)
    refine Fk_lt (fun v8 => ?_)
    exact hJ24_3 _ _ hM6
  · exact hJ24_3 _ _ hM
theorem fr_f_X3_hangsOf (k : Nat) (h : Nat) (a1 : Int)  (M : Mm) : Fk k (M k) (f_X3_hangsOf h a1 M) := by
  obtain ⟨m, hM⟩ : ∃ m, M k = m := ⟨_, rfl⟩
  rw [hM]
  unfold f_X3_hangsOf
  refine Fk_join (fun J => ∀ (v1 : Int) (M2 : Mm), M2 k = m → Fk k m (J v1 M2)) ?_ (fun J21_3 hJ21_3 => ?_)
  · intro v1 M2 hM2
    exact Fk_some hM2
  refine Fk_join (fun J => ∀ (M4 : Mm), M4 k = m → Fk k m (J M4)) ?_ (fun J20_5 hJ20_5 => ?_)
  · intro M4 hM4
    exact hJ21_3 _ _ hM4
  refine Fk_if ?_ ?_
  · exact hJ20_5 _ hM
  · refine Fk_if ?_ ?_
    · exact hJ20_5 _ hM
    · refine Fk_gd ?_
      refine Fk_lt (fun v8 => ?_)
      exact hJ21_3 _ _ hM
theorem fr_f_X3_bitsInHeirs_L4_24 (k : Nat) (m : Nat → Int) (r1 : Nat) (a2 : Int) (J40_3 : Int → Mm → Rs)  (hJ40_3 : ∀ (x0 : Int) (x1 : Mm), x1 k = m → Fk k m (J40_3 x0 x1)) (rc0 : Int × Int × Mm → Rs) (hrc0 : ∀ x, x.2.2 k = m → Fk k m (rc0 x)) (x0 : Int × Int × Mm) (hx0 : x0.2.2 k = m) : Fk k m (f_X3_bitsInHeirs_L4_24 r1 a2 J40_3 rc0 x0) := by
  obtain ⟨v4, v5, M6⟩ := x0
  replace hx0 : M6 k = m := hx0
  have hM6 := hx0
  unfold f_X3_bitsInHeirs_L4_24
  dsimp only
  refine Fk_if ?_ ?_
  · exact hJ40_3 _ _ hM6
  · refine Fk_Cl (Fk_at (fr_f_X11_bitOf k _  _) hM6) (fun v10 M9 hM9 => ?_)
    refine Fk_lt (fun v11 => ?_)
    refine Fk_join (fun J => ∀ (v12 : Int) (v13 : Int) (v14 : Int) (M15 : Mm), M15 k = m → Fk k m (J v12 v13 v14 M15)) ?_ (fun J32_16 hJ32_16 => ?_)
    · intro v12 v13 v14 M15 hM15
      refine Fk_lt (fun v17 => ?_)
      refine Fk_lt (fun v18 => ?_)
      exact hrc0 _ hM15
    refine Fk_if ?_ ?_
    · exact hJ32_16 _ _ _ _ hM9
    · refine Fk_Cl (Fk_at (fr_f_X8_heirOf k _ _  _) hM9) (fun v21 M20 hM20 => ?_)
      refine Fk_Cl (Fk_at (fr_f_X11_bitOf k _  _) hM20) (fun v23 M22 hM22 => ?_)
      exact hJ32_16 _ _ _ _ hM22
theorem fr_f_X3_bitsInHeirs (k : Nat) (r1 : Nat) (a2 : Int)  (M : Mm) : Fk k (M k) (f_X3_bitsInHeirs r1 a2 M) := by
  obtain ⟨m, hM⟩ : ∃ m, M k = m := ⟨_, rfl⟩
  rw [hM]
  unfold f_X3_bitsInHeirs
  refine Fk_join (fun J => ∀ (v1 : Int) (M2 : Mm), M2 k = m → Fk k m (J v1 M2)) ?_ (fun J40_3 hJ40_3 => ?_)
  · intro v1 M2 hM2
    exact Fk_some hM2
  exact Fk_Lp (fun x => x.2.2) (fun rc hrc x hx => fr_f_X3_bitsInHeirs_L4_24 k m _ _ _  hJ40_3 rc hrc x hx) _ _ hM
theorem fr_f_X3_follow_L10_34 (k : Nat) (m : Nat → Int) (h : Nat) (r1 : Nat) (J91_3 : Mm → Rs) (hw0 : k ≠ h + 3) (hw1 : k ≠ h + 4) (hJ91_3 : ∀ (x0 : Mm), x0 k = m → Fk k m (J91_3 x0)) (rc0 : Int × Mm → Rs) (hrc0 : ∀ x, x.2 k = m → Fk k m (rc0 x)) (x0 : Int × Mm) (hx0 : x0.2 k = m) : Fk k m (f_X3_follow_L10_34 h r1 J91_3 rc0 x0) := by
  obtain ⟨v6, M7⟩ := x0
  replace hx0 : M7 k = m := hx0
  have hM7 := hx0
  unfold f_X3_follow_L10_34
  dsimp only
  refine Fk_if ?_ ?_
  · exact hJ91_3 _ hM7
  · refine Fk_lt (fun v10 => ?_)
    refine Fk_Cl (Fk_at (fr_f_X8_heirOf k _ _  _) hM7) (fun v12 M11 hM11 => ?_)
    refine Fk_Cl (Fk_at (fr_f_X3_has k _ _  _) hM11) (fun v14 M13 hM13 => ?_)
    refine Fk_join (fun J => ∀ (v15 : Int) (M16 : Mm), M16 k = m → Fk k m (J v15 M16)) ?_ (fun J85_17 hJ85_17 => ?_)
    · intro v15 M16 hM16
      refine Fk_lt (fun v18 => ?_)
      exact hrc0 _ hM16
    refine Fk_if ?_ ?_
    · exact hJ85_17 _ _ hM13
    · refine Fk_if ?_ ?_
      · exact hJ85_17 _ _ hM13
      · refine Fk_lt (fun v21 => ?_)
        refine Fk_Cl (Fk_at (fr_f_X11_slotOf k _ _  _) hM13) (fun v23 M22 hM22 => ?_)
        refine Fk_Cl (Fk_at (fr_f_X3_valueOf k _ _  _) hM22) (fun v25 M24 hM24 => ?_)
        refine Fk_Cl (Fk_at (fr_f_X3_valueInHeirs k _ _  _) hM24) (fun v27 M26 hM26 => ?_)
        refine Fk_Cl (Fk_at (fr_f_X11_setEntry k _ _ _ hw0 _) hM26) (fun _ M28 hM28 => ?_)
        refine Fk_Cl (Fk_at (fr_f_X3_hangsOf k _ _  _) hM28) (fun v30 M29 hM29 => ?_)
        refine Fk_Cl (Fk_at (fr_f_X3_bitsInHeirs k _ _  _) hM29) (fun v32 M31 hM31 => ?_)
        refine Fk_Cl (Fk_at (fr_f_X11_setEntry k _ _ _ hw1 _) hM31) (fun _ M33 hM33 => ?_)
        exact hJ85_17 _ _ hM33
theorem fr_f_X3_follow (k : Nat) (h : Nat) (r1 : Nat) (hw0 : k ≠ h + 4) (hw1 : k ≠ h + 1) (hw2 : k ≠ h + 2) (hw3 : k ≠ h + 3) (M : Mm) : Fk k (M k) (f_X3_follow h r1 M) := by
  obtain ⟨m, hM⟩ : ∃ m, M k = m := ⟨_, rfl⟩
  rw [hM]
  unfold f_X3_follow
  refine Fk_Cl (Fk_at (fr_f_X11_fillRow k _ _ hw0 _) hM) (fun _ M1 hM1 => ?_)
  refine Fk_join (fun J => ∀ (M2 : Mm), M2 k = m → Fk k m (J M2)) ?_ (fun J91_3 hJ91_3 => ?_)
  · intro M2 hM2
    refine Fk_Cl (Fk_at (fr_f_X11_copyRow k _ _ hw1 _) hM2) (fun _ M4 hM4 => ?_)
    refine Fk_Cl (Fk_at (fr_f_X11_copyRow k _ _ hw2 _) hM4) (fun _ M5 hM5 => ?_)
    exact Fk_some hM5
  exact Fk_Lp (fun x => x.2) (fun rc hrc x hx => fr_f_X3_follow_L10_34 k m _ _ _ hw3 hw0 hJ91_3 rc hrc x hx) _ _ hM1
theorem fr_f_X11_readAgain (k : Nat)  (hw0 : k ≠ 291) (hw1 : k ≠ 275) (hw2 : k ≠ 276) (hw3 : k ≠ 273) (hw4 : k ≠ 277) (hw5 : k ≠ 278) (hw6 : k ≠ 279) (hw7 : k ≠ 280) (hw8 : k ≠ 281) (hw9 : k ≠ 282) (hw10 : k ≠ 292) (hw11 : k ≠ 293) (hw12 : k ≠ 294) (hw13 : k ≠ 295) (hw14 : k ≠ 297) (hw15 : k ≠ 296) (hw16 : k ≠ 290) (hw17 : k ≠ 283) (hw18 : k ≠ 284) (hw19 : k ≠ 285) (hw20 : k ≠ 286) (hw21 : k ≠ 287) (hw22 : k ≠ 288) (hw23 : k ≠ 289) (hw24 : k ≠ 301) (hw25 : k ≠ 303) (hw26 : k ≠ 300) (hw27 : k ≠ 302) (hw28 : k ≠ 676) (M : Mm) : Fk k (M k) (f_X11_readAgain M) := by
  obtain ⟨m, hM⟩ : ∃ m, M k = m := ⟨_, rfl⟩
  rw [hM]
  unfold f_X11_readAgain
  refine Fk_Cl (Fk_at (fr_f_X9_readInto k _ hw0 hw1 hw2 hw3 hw4 hw5 hw6 hw7 hw8 hw9 hw10 hw11 hw12 hw13 hw14 hw15 _) hM) (fun _ M1 hM1 => ?_)
  refine Fk_Cl (Fk_at (fr_f_X8_compare k _ _ hw16 hw13 _) hM1) (fun v3 M2 hM2 => ?_)
  refine Fk_lt (fun v4 => ?_)
  refine Fk_join (fun J => ∀ (M5 : Mm), M5 k = m → Fk k m (J M5)) ?_ (fun J81_6 hJ81_6 => ?_)
  · intro M5 hM5
    refine Fk_Cl (Fk_at (fr_f_X8_take k _ _ hw17 hw18 hw19 hw20 hw21 hw22 hw23 _) hM5) (fun _ M7 hM7 => ?_)
    refine Fk_lt (fun v8 => ?_)
    refine Fk_lt (fun v9 => ?_)
    refine Fk_lt (fun v10 => ?_)
    exact Fk_some hM7
  refine Fk_join (fun J => ∀ (M11 : Mm), M11 k = m → Fk k m (J M11)) ?_ (fun J45_12 hJ45_12 => ?_)
  · intro M11 hM11
    refine Fk_Cl (Fk_at (fr_f_X8_touched k _  _) hM11) (fun v14 M13 hM13 => ?_)
    refine Fk_lt (fun v15 => ?_)
    refine Fk_Cl (Fk_at (fr_f_X3_drop k _ _ hw24 _) hM13) (fun _ M16 hM16 => ?_)
    refine Fk_Cl (Fk_at (fr_f_X3_follow k _ _ hw25 hw26 hw24 hw27 _) hM16) (fun _ M17 hM17 => ?_)
    refine Fk_Cl (Fk_at (fr_f_X7_forget k  hw28 _) hM17) (fun _ M18 hM18 => ?_)
    exact hJ81_6 _ hM18
  refine Fk_if ?_ ?_
  · exact hJ45_12 _ hM2
  · refine Fk_lt (fun v20 => ?_)
    refine Fk_if ?_ ?_
    · exact hJ81_6 _ hM2
    · exact hJ45_12 _ hM2
theorem fr_f_X6_hasBit (k : Nat) (a1 : Int) (a2 : Int)  (M : Mm) : Fk k (M k) (f_X6_hasBit a1 a2 M) := by
  obtain ⟨m, hM⟩ : ∃ m, M k = m := ⟨_, rfl⟩
  rw [hM]
  unfold f_X6_hasBit
  refine Fk_join (fun J => ∀ (v1 : Int) (M2 : Mm), M2 k = m → Fk k m (J v1 M2)) ?_ (fun J23_3 hJ23_3 => ?_)
  · intro v1 M2 hM2
    exact Fk_some hM2
  refine Fk_join (fun J => ∀ (M4 : Mm), M4 k = m → Fk k m (J M4)) ?_ (fun J22_5 hJ22_5 => ?_)
  · intro M4 hM4
    exact hJ23_3 _ _ hM4
  refine Fk_if ?_ ?_
  · exact hJ22_5 _ hM
  · refine Fk_if ?_ ?_
    · exact hJ22_5 _ hM
    · refine Fk_lt (fun v8 => ?_)
      refine Fk_lt (fun v9 => ?_)
      refine Fk_if ?_ ?_
      · exact hJ22_5 _ hM
      · exact hJ23_3 _ _ hM
theorem fr_f_X6_draw_L76_35 (k : Nat) (m : Nat → Int) (J128_12 : Int → Mm → Rs) (hw0 : k ≠ 679) (hJ128_12 : ∀ (x0 : Int) (x1 : Mm), x1 k = m → Fk k m (J128_12 x0 x1)) (rc0 : Int × Int × Mm → Rs) (hrc0 : ∀ x, x.2.2 k = m → Fk k m (rc0 x)) (x0 : Int × Int × Mm) (hx0 : x0.2.2 k = m) : Fk k m (f_X6_draw_L76_35 J128_12 rc0 x0) := by
  obtain ⟨v14, v15, M16⟩ := x0
  replace hx0 : M16 k = m := hx0
  have hM16 := hx0
  unfold f_X6_draw_L76_35
  dsimp only
  refine Fk_if ?_ ?_
  · exact hJ128_12 _ _ hM16
  · refine Fk_Cl (Fk_at (fr_f_X11_entryOf k _ _  _) hM16) (fun v20 M19 hM19 => ?_)
    refine Fk_Cl (Fk_at (fr_f_X6_hasBit k _ _  _) hM19) (fun v22 M21 hM21 => ?_)
    refine Fk_join (fun J => ∀ (v23 : Int) (v24 : Int) (M25 : Mm), M25 k = m → Fk k m (J v23 v24 M25)) ?_ (fun J122_26 hJ122_26 => ?_)
    · intro v23 v24 M25 hM25
      refine Fk_lt (fun v27 => ?_)
      exact hrc0 _ hM25
    refine Fk_if ?_ ?_
    · exact hJ122_26 _ _ _ hM21
    · refine Fk_Cl (Fk_at (fr_f_X11_entryOf k _ _  _) hM21) (fun v30 M29 hM29 => ?_)
      refine Fk_Cl (Fk_at (fr_f_X11_entryOf k _ _  _) hM29) (fun v32 M31 hM31 => ?_)
      refine Fk_lt (fun v33 => ?_)
      refine Fk_Cl (Fk_at (fr_f_X11_setEntry k _ _ _ hw0 _) hM31) (fun _ M34 hM34 => ?_)
      exact hJ122_26 _ _ _ hM34
theorem fr_f_X6_draw_L68_36 (k : Nat) (m : Nat → Int) (J134_5 : Mm → Rs) (hw0 : k ≠ 679) (hJ134_5 : ∀ (x0 : Mm), x0 k = m → Fk k m (J134_5 x0)) (rc0 : Int × Mm → Rs) (hrc0 : ∀ x, x.2 k = m → Fk k m (rc0 x)) (x0 : Int × Mm) (hx0 : x0.2 k = m) : Fk k m (f_X6_draw_L68_36 J134_5 rc0 x0) := by
  obtain ⟨v6, M7⟩ := x0
  replace hx0 : M7 k = m := hx0
  have hM7 := hx0
  unfold f_X6_draw_L68_36
  dsimp only
  refine Fk_if ?_ ?_
  · exact hJ134_5 _ hM7
  · refine Fk_join (fun J => ∀ (v10 : Int) (M11 : Mm), M11 k = m → Fk k m (J v10 M11)) ?_ (fun J128_12 hJ128_12 => ?_)
    · intro v10 M11 hM11
      refine Fk_lt (fun v13 => ?_)
      exact hrc0 _ hM11
    exact Fk_Lp (fun x => x.2.2) (fun rc hrc x hx => fr_f_X6_draw_L76_35 k m _ hw0 hJ128_12 rc hrc x hx) _ _ hM7
theorem fr_f_X5_kindOf (k : Nat) (a1 : Int)  (M : Mm) : Fk k (M k) (f_X5_kindOf a1 M) := by
  obtain ⟨m, hM⟩ : ∃ m, M k = m := ⟨_, rfl⟩
  rw [hM]
  unfold f_X5_kindOf
  refine Fk_join (fun J => ∀ (v1 : Int) (M2 : Mm), M2 k = m → Fk k m (J v1 M2)) ?_ (fun J28_3 hJ28_3 => ?_)
  · intro v1 M2 hM2
    exact Fk_some hM2
  refine Fk_join (fun J => ∀ (M4 : Mm), M4 k = m → Fk k m (J M4)) ?_ (fun J27_5 hJ27_5 => ?_)
  · intro M4 hM4
    exact hJ28_3 _ _ hM4
  refine Fk_if ?_ ?_
  · exact hJ27_5 _ hM
  · refine Fk_lt (fun v7 => ?_)
    refine Fk_if ?_ ?_
    · exact hJ27_5 _ hM
    · refine Fk_if ?_ ?_
      · exact hJ27_5 _ hM
      · refine Fk_gd ?_
        refine Fk_lt (fun v10 => ?_)
        exact hJ28_3 _ _ hM
theorem fr_f_X6_isOfKind (k : Nat) (a1 : Int) (a2 : Int)  (M : Mm) : Fk k (M k) (f_X6_isOfKind a1 a2 M) := by
  obtain ⟨m, hM⟩ : ∃ m, M k = m := ⟨_, rfl⟩
  rw [hM]
  unfold f_X6_isOfKind
  refine Fk_Cl (Fk_at (fr_f_X5_kindOf k _  _) hM) (fun v2 M1 hM1 => ?_)
  refine Fk_join (fun J => ∀ (v3 : Int) (M4 : Mm), M4 k = m → Fk k m (J v3 M4)) ?_ (fun J17_5 hJ17_5 => ?_)
  · intro v3 M4 hM4
    exact Fk_some hM4
  refine Fk_if ?_ ?_
  · exact hJ17_5 _ _ hM1
  · exact hJ17_5 _ _ hM1
theorem fr_f_X6_cornerOf (k : Nat) (a1 : Int) (a2 : Int)  (M : Mm) : Fk k (M k) (f_X6_cornerOf a1 a2 M) := by
  obtain ⟨m, hM⟩ : ∃ m, M k = m := ⟨_, rfl⟩
  rw [hM]
  unfold f_X6_cornerOf
  refine Fk_lt (fun v1 => ?_)
  refine Fk_lt (fun v2 => ?_)
  refine Fk_lt (fun v3 => ?_)
  exact Fk_some hM
theorem fr_f_X5_childHeadOf (k : Nat) (a1 : Int) (a2 : Int)  (M : Mm) : Fk k (M k) (f_X5_childHeadOf a1 a2 M) := by
  obtain ⟨m, hM⟩ : ∃ m, M k = m := ⟨_, rfl⟩
  rw [hM]
  unfold f_X5_childHeadOf
  refine Fk_join (fun J => ∀ (v1 : Int) (M2 : Mm), M2 k = m → Fk k m (J v1 M2)) ?_ (fun J18_3 hJ18_3 => ?_)
  · intro v1 M2 hM2
    refine Fk_join (fun J => ∀ (v4 : Int) (M5 : Mm), M5 k = m → Fk k m (J v4 M5)) ?_ (fun J39_6 hJ39_6 => ?_)
    · intro v4 M5 hM5
      exact Fk_some hM5
    refine Fk_if ?_ ?_
    · exact hJ39_6 _ _ hM2
    · refine Fk_lt (fun v8 => ?_)
      refine Fk_lt (fun v9 => ?_)
      refine Fk_Cl (Fk_at (fr_f_X11_entryOf k _ _  _) hM2) (fun v11 M10 hM10 => ?_)
      exact hJ39_6 _ _ hM10
  refine Fk_join (fun J => ∀ (M12 : Mm), M12 k = m → Fk k m (J M12)) ?_ (fun J17_13 hJ17_13 => ?_)
  · intro M12 hM12
    exact hJ18_3 _ _ hM12
  refine Fk_if ?_ ?_
  · exact hJ17_13 _ hM
  · refine Fk_Cl (Fk_at (fr_f_X5_childCountOf k _  _) hM) (fun v16 M15 hM15 => ?_)
    refine Fk_if ?_ ?_
    · exact hJ17_13 _ hM15
    · exact hJ18_3 _ _ hM15
theorem fr_f_X6_hang (k : Nat) (a1 : Int) (a2 : Int) (hw0 : k ≠ 679) (M : Mm) : Fk k (M k) (f_X6_hang a1 a2 M) := by
  obtain ⟨m, hM⟩ : ∃ m, M k = m := ⟨_, rfl⟩
  rw [hM]
  unfold f_X6_hang
  refine Fk_join (fun J => ∀ (M1 : Mm), M1 k = m → Fk k m (J M1)) ?_ (fun J30_2 hJ30_2 => ?_)
  · intro M1 hM1
    exact Fk_some hM1
  refine Fk_if ?_ ?_
  · exact hJ30_2 _ hM
  · refine Fk_if ?_ ?_
    · exact hJ30_2 _ hM
    · refine Fk_Cl (Fk_at (fr_f_X11_entryOf k _ _  _) hM) (fun v6 M5 hM5 => ?_)
      refine Fk_lt (fun v7 => ?_)
      refine Fk_lt (fun v8 => ?_)
      refine Fk_Cl (Fk_at (fr_f_X11_setEntry k _ _ _ hw0 _) hM5) (fun _ M9 hM9 => ?_)
      exact hJ30_2 _ hM9
theorem fr_f_X6_drawChild_L76_32 (k : Nat) (m : Nat → Int) (a3 : Int) (v2 : Int) (J111_10 : Mm → Rs) (v17 : Int) (hw0 : k ≠ 679) (hJ111_10 : ∀ (x0 : Mm), x0 k = m → Fk k m (J111_10 x0)) (rc0 : Int × Mm → Rs) (hrc0 : ∀ x, x.2 k = m → Fk k m (rc0 x)) (x0 : Int × Mm) (hx0 : x0.2 k = m) : Fk k m (f_X6_drawChild_L76_32 a3 v2 J111_10 v17 rc0 x0) := by
  obtain ⟨v18, M19⟩ := x0
  replace hx0 : M19 k = m := hx0
  have hM19 := hx0
  unfold f_X6_drawChild_L76_32
  dsimp only
  refine Fk_if ?_ ?_
  · exact hJ111_10 _ hM19
  · refine Fk_Cl (Fk_at (fr_f_X6_hasBit k _ _  _) hM19) (fun v23 M22 hM22 => ?_)
    refine Fk_join (fun J => ∀ (v24 : Int) (M25 : Mm), M25 k = m → Fk k m (J v24 M25)) ?_ (fun J105_26 hJ105_26 => ?_)
    · intro v24 M25 hM25
      refine Fk_lt (fun v27 => ?_)
      exact hrc0 _ hM25
    refine Fk_if ?_ ?_
    · exact hJ105_26 _ _ hM22
    · refine Fk_Cl (Fk_at (fr_f_X6_cornerOf k _ _  _) hM22) (fun v30 M29 hM29 => ?_)
      refine Fk_Cl (Fk_at (fr_f_X6_hang k _ _ hw0 _) hM29) (fun _ M31 hM31 => ?_)
      exact hJ105_26 _ _ hM31
theorem fr_f_X1_resolvedFor (k : Nat) (a1 : Int) (a2 : Int) (a3 : Int)  (M : Mm) : Fk k (M k) (f_X1_resolvedFor a1 a2 a3 M) := by
  obtain ⟨m, hM⟩ : ∃ m, M k = m := ⟨_, rfl⟩
  rw [hM]
  unfold f_X1_resolvedFor
  refine Fk_Cl (Fk_at (fr_f_X1_placeOf k _ _ _  _) hM) (fun v2 M1 hM1 => ?_)
  refine Fk_Cl (Fk_at (fr_f_X11_entryOf k _ _  _) hM1) (fun v4 M3 hM3 => ?_)
  exact Fk_some hM3
theorem fr_f_X1_hopsFor (k : Nat) (a1 : Int) (a2 : Int) (a3 : Int)  (M : Mm) : Fk k (M k) (f_X1_hopsFor a1 a2 a3 M) := by
  obtain ⟨m, hM⟩ : ∃ m, M k = m := ⟨_, rfl⟩
  rw [hM]
  unfold f_X1_hopsFor
  refine Fk_Cl (Fk_at (fr_f_X1_placeOf k _ _ _  _) hM) (fun v2 M1 hM1 => ?_)
  refine Fk_Cl (Fk_at (fr_f_X11_entryOf k _ _  _) hM1) (fun v4 M3 hM3 => ?_)
  exact Fk_some hM3
theorem fr_f_X0_isFor (k : Nat) (h : Nat) (a1 : Int) (a2 : Int) (a3 : Int)  (M : Mm) : Fk k (M k) (f_X0_isFor h a1 a2 a3 M) := by
  obtain ⟨m, hM⟩ : ∃ m, M k = m := ⟨_, rfl⟩
  rw [hM]
  unfold f_X0_isFor
  refine Fk_lt (fun v1 => ?_)
  refine Fk_join (fun J => ∀ (v2 : Int) (M3 : Mm), M3 k = m → Fk k m (J v2 M3)) ?_ (fun J29_4 hJ29_4 => ?_)
  · intro v2 M3 hM3
    exact Fk_some hM3
  refine Fk_join (fun J => ∀ (M5 : Mm), M5 k = m → Fk k m (J M5)) ?_ (fun J28_6 hJ28_6 => ?_)
  · intro M5 hM5
    exact hJ29_4 _ _ hM5
  refine Fk_if ?_ ?_
  · exact hJ28_6 _ hM
  · refine Fk_lt (fun v8 => ?_)
    refine Fk_if ?_ ?_
    · exact hJ28_6 _ hM
    · refine Fk_lt (fun v10 => ?_)
      refine Fk_if ?_ ?_
      · exact hJ28_6 _ hM
      · exact hJ29_4 _ _ hM
theorem fr_f_X0_kindOf (k : Nat) (h : Nat) (a1 : Int)  (M : Mm) : Fk k (M k) (f_X0_kindOf h a1 M) := by
  obtain ⟨m, hM⟩ : ∃ m, M k = m := ⟨_, rfl⟩
  rw [hM]
  unfold f_X0_kindOf
  refine Fk_join (fun J => ∀ (v1 : Int) (M2 : Mm), M2 k = m → Fk k m (J v1 M2)) ?_ (fun J20_3 hJ20_3 => ?_)
  · intro v1 M2 hM2
    exact Fk_some hM2
  refine Fk_join (fun J => ∀ (M4 : Mm), M4 k = m → Fk k m (J M4)) ?_ (fun J19_5 hJ19_5 => ?_)
  · intro M4 hM4
    exact hJ20_3 _ _ hM4
  refine Fk_if ?_ ?_
  · exact hJ19_5 _ hM
  · refine Fk_if ?_ ?_
    · exact hJ19_5 _ hM
    · refine Fk_gd ?_
      refine Fk_lt (fun v8 => ?_)
      exact hJ20_3 _ _ hM
theorem fr_f_X0_numberOf (k : Nat) (h : Nat) (a1 : Int)  (M : Mm) : Fk k (M k) (f_X0_numberOf h a1 M) := by
  obtain ⟨m, hM⟩ : ∃ m, M k = m := ⟨_, rfl⟩
  rw [hM]
  unfold f_X0_numberOf
  refine Fk_join (fun J => ∀ (v1 : Int) (M2 : Mm), M2 k = m → Fk k m (J v1 M2)) ?_ (fun J20_3 hJ20_3 => ?_)
  · intro v1 M2 hM2
    exact Fk_some hM2
  refine Fk_join (fun J => ∀ (M4 : Mm), M4 k = m → Fk k m (J M4)) ?_ (fun J19_5 hJ19_5 => ?_)
  · intro M4 hM4
    exact hJ20_3 _ _ hM4
  refine Fk_if ?_ ?_
  · exact hJ19_5 _ hM
  · refine Fk_if ?_ ?_
    · exact hJ19_5 _ hM
    · refine Fk_gd ?_
      refine Fk_lt (fun v8 => ?_)
      exact hJ20_3 _ _ hM
theorem fr_f_X0_childOf (k : Nat) (h : Nat) (a1 : Int)  (M : Mm) : Fk k (M k) (f_X0_childOf h a1 M) := by
  obtain ⟨m, hM⟩ : ∃ m, M k = m := ⟨_, rfl⟩
  rw [hM]
  unfold f_X0_childOf
  refine Fk_join (fun J => ∀ (v1 : Int) (M2 : Mm), M2 k = m → Fk k m (J v1 M2)) ?_ (fun J20_3 hJ20_3 => ?_)
  · intro v1 M2 hM2
    exact Fk_some hM2
  refine Fk_join (fun J => ∀ (M4 : Mm), M4 k = m → Fk k m (J M4)) ?_ (fun J19_5 hJ19_5 => ?_)
  · intro M4 hM4
    exact hJ20_3 _ _ hM4
  refine Fk_if ?_ ?_
  · exact hJ19_5 _ hM
  · refine Fk_if ?_ ?_
    · exact hJ19_5 _ hM
    · refine Fk_gd ?_
      refine Fk_lt (fun v8 => ?_)
      exact hJ20_3 _ _ hM
theorem fr_f_X6_drawSteps_L3_51 (k : Nat) (m : Nat → Int) (r1 : Nat) (a2 : Int) (a3 : Int) (a4 : Int) (J124_2 : Mm → Rs) (hw0 : k ≠ 679) (hJ124_2 : ∀ (x0 : Mm), x0 k = m → Fk k m (J124_2 x0)) (rc0 : Int × Mm → Rs) (hrc0 : ∀ x, x.2 k = m → Fk k m (rc0 x)) (x0 : Int × Mm) (hx0 : x0.2 k = m) : Fk k m (f_X6_drawSteps_L3_51 r1 a2 a3 a4 J124_2 rc0 x0) := by
  obtain ⟨v3, M4⟩ := x0
  replace hx0 : M4 k = m := hx0
  have hM4 := hx0
  unfold f_X6_drawSteps_L3_51
  dsimp only
  refine Fk_lt (fun v6 => ?_)
  refine Fk_if ?_ ?_
  · exact hJ124_2 _ hM4
  · refine Fk_Cl (Fk_at (fr_f_X0_kindOf k _ _  _) hM4) (fun v9 M8 hM8 => ?_)
    refine Fk_Cl (Fk_at (fr_f_X0_numberOf k _ _  _) hM8) (fun v11 M10 hM10 => ?_)
    refine Fk_join (fun J => ∀ (v12 : Int) (v13 : Int) (M14 : Mm), M14 k = m → Fk k m (J v12 v13 M14)) ?_ (fun J53_15 hJ53_15 => ?_)
    · intro v12 v13 M14 hM14
      refine Fk_join (fun J => ∀ (v16 : Int) (v17 : Int) (M18 : Mm), M18 k = m → Fk k m (J v16 v17 M18)) ?_ (fun J78_19 hJ78_19 => ?_)
      · intro v16 v17 M18 hM18
        refine Fk_join (fun J => ∀ (v20 : Int) (M21 : Mm), M21 k = m → Fk k m (J v20 M21)) ?_ (fun J118_22 hJ118_22 => ?_)
        · intro v20 M21 hM21
          refine Fk_lt (fun v23 => ?_)
          exact hrc0 _ hM21
        refine Fk_if ?_ ?_
        · exact hJ118_22 _ _ hM18
        · refine Fk_Cl (Fk_at (fr_f_X6_isOfKind k _ _  _) hM18) (fun v26 M25 hM25 => ?_)
          refine Fk_join (fun J => ∀ (v27 : Int) (M28 : Mm), M28 k = m → Fk k m (J v27 M28)) ?_ (fun J105_29 hJ105_29 => ?_)
          · intro v27 M28 hM28
            refine Fk_Cl (Fk_at (fr_f_X6_cornerOf k _ _  _) hM28) (fun v31 M30 hM30 => ?_)
            refine Fk_Cl (Fk_at (fr_f_X6_hang k _ _ hw0 _) hM30) (fun _ M32 hM32 => ?_)
            exact hJ118_22 _ _ hM32
          refine Fk_if ?_ ?_
          · exact hJ105_29 _ _ hM25
          · refine Fk_Cl (Fk_at (fr_f_X6_isOfKind k _ _  _) hM25) (fun v35 M34 hM34 => ?_)
            refine Fk_if ?_ ?_
            · exact hJ118_22 _ _ hM34
            · exact hJ105_29 _ _ hM34
      refine Fk_join (fun J => ∀ (v37 : Int) (M38 : Mm), M38 k = m → Fk k m (J v37 M38)) ?_ (fun J73_39 hJ73_39 => ?_)
      · intro v37 M38 hM38
        exact hJ78_19 _ _ _ hM38
      refine Fk_if ?_ ?_
      · exact hJ73_39 _ _ hM14
      · refine Fk_join (fun J => ∀ (v41 : Int) (M42 : Mm), M42 k = m → Fk k m (J v41 M42)) ?_ (fun J77_43 hJ77_43 => ?_)
        · intro v41 M42 hM42
          exact hJ78_19 _ _ _ hM42
        refine Fk_if ?_ ?_
        · exact hJ77_43 _ _ hM14
        · refine Fk_if ?_ ?_
          · exact hJ77_43 _ _ hM14
          · exact hJ73_39 _ _ hM14
    refine Fk_if ?_ ?_
    · exact hJ53_15 _ _ _ hM10
    · refine Fk_Cl (Fk_at (fr_f_X0_childOf k _ _  _) hM10) (fun v48 M47 hM47 => ?_)
      refine Fk_Cl (Fk_at (fr_f_X10_childAt k _ _ _  _) hM47) (fun v50 M49 hM49 => ?_)
      exact hJ53_15 _ _ _ hM49
theorem fr_f_X6_drawSteps (k : Nat) (r1 : Nat) (a2 : Int) (a3 : Int) (a4 : Int) (hw0 : k ≠ 679) (M : Mm) : Fk k (M k) (f_X6_drawSteps r1 a2 a3 a4 M) := by
  obtain ⟨m, hM⟩ : ∃ m, M k = m := ⟨_, rfl⟩
  rw [hM]
  unfold f_X6_drawSteps
  refine Fk_join (fun J => ∀ (M1 : Mm), M1 k = m → Fk k m (J M1)) ?_ (fun J124_2 hJ124_2 => ?_)
  · intro M1 hM1
    exact Fk_some hM1
  exact Fk_Lp (fun x => x.2) (fun rc hrc x hx => fr_f_X6_drawSteps_L3_51 k m _ _ _ _ _ hw0 hJ124_2 rc hrc x hx) _ _ hM
theorem fr_f_X6_drawEquations_L56_34 (k : Nat) (m : Nat → Int) (a1 : Int) (a2 : Int) (a3 : Int) (v5 : Int) (v7 : Int) (v9 : Int) (J129_11 : Mm → Rs) (hw0 : k ≠ 679) (hJ129_11 : ∀ (x0 : Mm), x0 k = m → Fk k m (J129_11 x0)) (rc0 : Int × Mm → Rs) (hrc0 : ∀ x, x.2 k = m → Fk k m (rc0 x)) (x0 : Int × Mm) (hx0 : x0.2 k = m) : Fk k m (f_X6_drawEquations_L56_34 a1 a2 a3 v5 v7 v9 J129_11 rc0 x0) := by
  obtain ⟨v12, M13⟩ := x0
  replace hx0 : M13 k = m := hx0
  have hM13 := hx0
  unfold f_X6_drawEquations_L56_34
  dsimp only
  refine Fk_lt (fun v15 => ?_)
  refine Fk_if ?_ ?_
  · exact hJ129_11 _ hM13
  · refine Fk_Cl (Fk_at (fr_f_X1_rowOf k _  _) hM13) (fun v18 M17 hM17 => ?_)
    refine Fk_join (fun J => ∀ (v19 : Int) (M20 : Mm), M20 k = m → Fk k m (J v19 M20)) ?_ (fun J123_21 hJ123_21 => ?_)
    · intro v19 M20 hM20
      refine Fk_lt (fun v22 => ?_)
      exact hrc0 _ hM20
    refine Fk_if ?_ ?_
    · exact hJ123_21 _ _ hM17
    · refine Fk_gd ?_
      refine Fk_Cl (Fk_at (fr_f_X1_counts k _  _) hM17) (fun v26 M25 hM25 => ?_)
      refine Fk_if ?_ ?_
      · exact hJ123_21 _ _ hM25
      · refine Fk_Cl (Fk_at (fr_f_X0_isFor k _ _ _ _  _) hM25) (fun v29 M28 hM28 => ?_)
        refine Fk_if ?_ ?_
        · exact hJ123_21 _ _ hM28
        · refine Fk_Cl (Fk_at (fr_f_X6_cornerOf k _ _  _) hM28) (fun v32 M31 hM31 => ?_)
          refine Fk_Cl (Fk_at (fr_f_X6_drawSteps k _ _ _ _ hw0 _) hM31) (fun _ M33 hM33 => ?_)
          exact hJ123_21 _ _ hM33
theorem fr_f_X6_drawEquations (k : Nat) (a1 : Int) (a2 : Int) (a3 : Int) (hw0 : k ≠ 679) (M : Mm) : Fk k (M k) (f_X6_drawEquations a1 a2 a3 M) := by
  obtain ⟨m, hM⟩ : ∃ m, M k = m := ⟨_, rfl⟩
  rw [hM]
  unfold f_X6_drawEquations
  refine Fk_Cl (Fk_at (fr_f_X1_resolvedFor k _ _ _  _) hM) (fun v2 M1 hM1 => ?_)
  refine Fk_if ?_ ?_
  · refine Fk_Cl (Fk_at (fr_f_X1_hopsFor k _ _ _  _) hM1) (fun v5 M4 hM4 => ?_)
    refine Fk_Cl (Fk_at (fr_f_X10_productionAt k _ _  _) hM4) (fun v7 M6 hM6 => ?_)
    refine Fk_Cl (Fk_at (fr_f_X10_targetAt k _ _ _  _) hM6) (fun v9 M8 hM8 => ?_)
    refine Fk_join (fun J => ∀ (M10 : Mm), M10 k = m → Fk k m (J M10)) ?_ (fun J129_11 hJ129_11 => ?_)
    · intro M10 hM10
      exact Fk_some hM10
    exact Fk_Lp (fun x => x.2) (fun rc hrc x hx => fr_f_X6_drawEquations_L56_34 k m _ _ _ _ _ _ _ hw0 hJ129_11 rc hrc x hx) _ _ hM8
  · exact Fk_some hM1
theorem fr_f_X6_drawChild (k : Nat) (a1 : Int) (a2 : Int) (a3 : Int) (hw0 : k ≠ 679) (M : Mm) : Fk k (M k) (f_X6_drawChild a1 a2 a3 M) := by
  obtain ⟨m, hM⟩ : ∃ m, M k = m := ⟨_, rfl⟩
  rw [hM]
  unfold f_X6_drawChild
  refine Fk_Cl (Fk_at (fr_f_X6_cornerOf k _ _  _) hM) (fun v2 M1 hM1 => ?_)
  refine Fk_Cl (Fk_at (fr_f_X6_isOfKind k _ _  _) hM1) (fun v4 M3 hM3 => ?_)
  refine Fk_join (fun J => ∀ (M5 : Mm), M5 k = m → Fk k m (J M5)) ?_ (fun J37_6 hJ37_6 => ?_)
  · intro M5 hM5
    refine Fk_Cl (Fk_at (fr_f_X6_isOfKind k _ _  _) hM5) (fun v8 M7 hM7 => ?_)
    refine Fk_join (fun J => ∀ (M9 : Mm), M9 k = m → Fk k m (J M9)) ?_ (fun J111_10 hJ111_10 => ?_)
    · intro M9 hM9
      exact Fk_some hM9
    refine Fk_if ?_ ?_
    · exact hJ111_10 _ hM7
    · refine Fk_Cl (Fk_at (fr_f_X5_childHeadOf k _ _  _) hM7) (fun v13 M12 hM12 => ?_)
      refine Fk_lt (fun v14 => ?_)
      refine Fk_lt (fun v15 => ?_)
      refine Fk_Cl (Fk_at (fr_f_X11_entryOf k _ _  _) hM12) (fun v17 M16 hM16 => ?_)
      exact Fk_Lp (fun x => x.2) (fun rc hrc x hx => fr_f_X6_drawChild_L76_32 k m _ _ _ _ hw0 hJ111_10 rc hrc x hx) _ _ hM16
  refine Fk_if ?_ ?_
  · exact hJ37_6 _ hM3
  · refine Fk_Cl (Fk_at (fr_f_X6_drawEquations k _ _ _ hw0 _) hM3) (fun v35 M34 hM34 => ?_)
    refine Fk_if ?_ ?_
    · exact hJ37_6 _ hM34
    · refine Fk_Cl (Fk_at (fr_f_X6_cornerOf k _ _  _) hM34) (fun v38 M37 hM37 => ?_)
      refine Fk_Cl (Fk_at (fr_f_X6_hang k _ _ hw0 _) hM37) (fun _ M39 hM39 => ?_)
      exact hJ37_6 _ hM39
theorem fr_f_X6_draw_L35_59 (k : Nat) (m : Nat → Int) (a1 : Int) (J60_48 : Int → Mm → Rs) (hw0 : k ≠ 679) (hJ60_48 : ∀ (x0 : Int) (x1 : Mm), x1 k = m → Fk k m (J60_48 x0 x1)) (rc0 : Int × Int × Mm → Rs) (hrc0 : ∀ x, x.2.2 k = m → Fk k m (rc0 x)) (x0 : Int × Int × Mm) (hx0 : x0.2.2 k = m) : Fk k m (f_X6_draw_L35_59 a1 J60_48 rc0 x0) := by
  obtain ⟨v50, v51, M52⟩ := x0
  replace hx0 : M52 k = m := hx0
  have hM52 := hx0
  unfold f_X6_draw_L35_59
  dsimp only
  refine Fk_Cl (Fk_at (fr_f_X5_childCountOf k _  _) hM52) (fun v55 M54 hM54 => ?_)
  refine Fk_if ?_ ?_
  · exact hJ60_48 _ _ hM54
  · refine Fk_Cl (Fk_at (fr_f_X6_drawChild k _ _ _ hw0 _) hM54) (fun _ M57 hM57 => ?_)
    refine Fk_lt (fun v58 => ?_)
    exact hrc0 _ hM57
theorem fr_f_X6_draw_L10_63 (k : Nat) (m : Nat → Int) (a1 : Int) (J66_3 : Mm → Rs) (hw0 : k ≠ 679) (hJ66_3 : ∀ (x0 : Mm), x0 k = m → Fk k m (J66_3 x0)) (rc0 : Int × Mm → Rs) (hrc0 : ∀ x, x.2 k = m → Fk k m (rc0 x)) (x0 : Int × Mm) (hx0 : x0.2 k = m) : Fk k m (f_X6_draw_L10_63 a1 J66_3 rc0 x0) := by
  obtain ⟨v37, M38⟩ := x0
  replace hx0 : M38 k = m := hx0
  have hM38 := hx0
  unfold f_X6_draw_L10_63
  dsimp only
  refine Fk_if ?_ ?_
  · exact hJ66_3 _ hM38
  · refine Fk_Cl (Fk_at (fr_f_X6_isOfKind k _ _  _) hM38) (fun v42 M41 hM41 => ?_)
    refine Fk_join (fun J => ∀ (v43 : Int) (M44 : Mm), M44 k = m → Fk k m (J v43 M44)) ?_ (fun J33_45 hJ33_45 => ?_)
    · intro v43 M44 hM44
      refine Fk_join (fun J => ∀ (v46 : Int) (M47 : Mm), M47 k = m → Fk k m (J v46 M47)) ?_ (fun J60_48 hJ60_48 => ?_)
      · intro v46 M47 hM47
        refine Fk_lt (fun v49 => ?_)
        exact hrc0 _ hM47
      exact Fk_Lp (fun x => x.2.2) (fun rc hrc x hx => fr_f_X6_draw_L35_59 k m _ _ hw0 hJ60_48 rc hrc x hx) _ _ hM44
    refine Fk_if ?_ ?_
    · exact hJ33_45 _ _ hM41
    · refine Fk_Cl (Fk_at (fr_f_X6_drawEquations k _ _ _ hw0 _) hM41) (fun v62 M61 hM61 => ?_)
      exact hJ33_45 _ _ hM61
theorem fr_f_X6_draw (k : Nat) (a1 : Int) (hw0 : k ≠ 679) (M : Mm) : Fk k (M k) (f_X6_draw a1 M) := by
  obtain ⟨m, hM⟩ : ∃ m, M k = m := ⟨_, rfl⟩
  rw [hM]
  unfold f_X6_draw
  refine Fk_Cl (Fk_at (fr_f_X11_fillRow k _ _ hw0 _) hM) (fun _ M1 hM1 => ?_)
  refine Fk_join (fun J => ∀ (M2 : Mm), M2 k = m → Fk k m (J M2)) ?_ (fun J66_3 hJ66_3 => ?_)
  · intro M2 hM2
    refine Fk_join (fun J => ∀ (M4 : Mm), M4 k = m → Fk k m (J M4)) ?_ (fun J134_5 hJ134_5 => ?_)
    · intro M4 hM4
      exact Fk_some hM4
    exact Fk_Lp (fun x => x.2) (fun rc hrc x hx => fr_f_X6_draw_L68_36 k m _ hw0 hJ134_5 rc hrc x hx) _ _ hM2
  exact Fk_Lp (fun x => x.2) (fun rc hrc x hx => fr_f_X6_draw_L10_63 k m _ _ hw0 hJ66_3 rc hrc x hx) _ _ hM1
theorem fr_f_X6_hasRing_L2_15 (k : Nat) (m : Nat → Int) (J31_2 : Mm → Rs) (J23_4 : Mm → Rs)  (hJ31_2 : ∀ (x0 : Mm), x0 k = m → Fk k m (J31_2 x0)) (hJ23_4 : ∀ (x0 : Mm), x0 k = m → Fk k m (J23_4 x0)) (rc0 : Int × Mm → Rs) (hrc0 : ∀ x, x.2 k = m → Fk k m (rc0 x)) (x0 : Int × Mm) (hx0 : x0.2 k = m) : Fk k m (f_X6_hasRing_L2_15 J31_2 J23_4 rc0 x0) := by
  obtain ⟨v5, M6⟩ := x0
  replace hx0 : M6 k = m := hx0
  have hM6 := hx0
  unfold f_X6_hasRing_L2_15
  dsimp only
  refine Fk_if ?_ ?_
  · exact hJ31_2 _ hM6
  · refine Fk_Cl (Fk_at (fr_f_X11_entryOf k _ _  _) hM6) (fun v10 M9 hM9 => ?_)
    refine Fk_Cl (Fk_at (fr_f_X6_hasBit k _ _  _) hM9) (fun v12 M11 hM11 => ?_)
    refine Fk_if ?_ ?_
    · refine Fk_lt (fun v14 => ?_)
      exact hrc0 _ hM11
    · exact hJ23_4 _ hM11
theorem fr_f_X6_hasRing (k : Nat)   (M : Mm) : Fk k (M k) (f_X6_hasRing M) := by
  obtain ⟨m, hM⟩ : ∃ m, M k = m := ⟨_, rfl⟩
  rw [hM]
  unfold f_X6_hasRing
  refine Fk_join (fun J => ∀ (M1 : Mm), M1 k = m → Fk k m (J M1)) ?_ (fun J31_2 hJ31_2 => ?_)
  · intro M1 hM1
    exact Fk_some hM1
  refine Fk_join (fun J => ∀ (M3 : Mm), M3 k = m → Fk k m (J M3)) ?_ (fun J23_4 hJ23_4 => ?_)
  · intro M3 hM3
    exact Fk_some hM3
  exact Fk_Lp (fun x => x.2) (fun rc hrc x hx => fr_f_X6_hasRing_L2_15 k m _ _  hJ31_2 hJ23_4 rc hrc x hx) _ _ hM
theorem fr_f_X6_firstRing_L75_19 (k : Nat) (m : Nat → Int) (J106_5 : Mm → Rs) (J98_8 : Int → Mm → Rs) (hw0 : k ≠ 679) (hJ106_5 : ∀ (x0 : Mm), x0 k = m → Fk k m (J106_5 x0)) (hJ98_8 : ∀ (x0 : Int) (x1 : Mm), x1 k = m → Fk k m (J98_8 x0 x1)) (rc0 : Int × Mm → Rs) (hrc0 : ∀ x, x.2 k = m → Fk k m (rc0 x)) (x0 : Int × Mm) (hx0 : x0.2 k = m) : Fk k m (f_X6_firstRing_L75_19 J106_5 J98_8 rc0 x0) := by
  obtain ⟨v9, M10⟩ := x0
  replace hx0 : M10 k = m := hx0
  have hM10 := hx0
  unfold f_X6_firstRing_L75_19
  dsimp only
  refine Fk_lt (fun v12 => ?_)
  refine Fk_if ?_ ?_
  · exact hJ106_5 _ hM10
  · refine Fk_Cl (Fk_at (fr_f_X6_draw k _ hw0 _) hM10) (fun _ M14 hM14 => ?_)
    refine Fk_Cl (Fk_at (fr_f_X6_hasRing k   _) hM14) (fun v16 M15 hM15 => ?_)
    refine Fk_if ?_ ?_
    · refine Fk_lt (fun v18 => ?_)
      exact hrc0 _ hM15
    · exact hJ98_8 _ _ hM15
theorem fr_f_X6_downsOf_L4_21 (k : Nat) (m : Nat → Int) (a1 : Int) (J37_3 : Int → Mm → Rs)  (hJ37_3 : ∀ (x0 : Int) (x1 : Mm), x1 k = m → Fk k m (J37_3 x0 x1)) (rc0 : Int × Int × Mm → Rs) (hrc0 : ∀ x, x.2.2 k = m → Fk k m (rc0 x)) (x0 : Int × Int × Mm) (hx0 : x0.2.2 k = m) : Fk k m (f_X6_downsOf_L4_21 a1 J37_3 rc0 x0) := by
  obtain ⟨v4, v5, M6⟩ := x0
  replace hx0 : M6 k = m := hx0
  have hM6 := hx0
  unfold f_X6_downsOf_L4_21
  dsimp only
  refine Fk_if ?_ ?_
  · exact hJ37_3 _ _ hM6
  · refine Fk_Cl (Fk_at (fr_f_X6_isOfKind k _ _  _) hM6) (fun v10 M9 hM9 => ?_)
    refine Fk_join (fun J => ∀ (v11 : Int) (v12 : Int) (v13 : Int) (M14 : Mm), M14 k = m → Fk k m (J v11 v12 v13 M14)) ?_ (fun J29_15 hJ29_15 => ?_)
    · intro v11 v12 v13 M14 hM14
      refine Fk_lt (fun v16 => ?_)
      refine Fk_lt (fun v17 => ?_)
      exact hrc0 _ hM14
    refine Fk_if ?_ ?_
    · exact hJ29_15 _ _ _ _ hM9
    · refine Fk_lt (fun v19 => ?_)
      refine Fk_lt (fun v20 => ?_)
      exact hJ29_15 _ _ _ _ hM9
theorem fr_f_X6_downsOf (k : Nat) (a1 : Int)  (M : Mm) : Fk k (M k) (f_X6_downsOf a1 M) := by
  obtain ⟨m, hM⟩ : ∃ m, M k = m := ⟨_, rfl⟩
  rw [hM]
  unfold f_X6_downsOf
  refine Fk_join (fun J => ∀ (v1 : Int) (M2 : Mm), M2 k = m → Fk k m (J v1 M2)) ?_ (fun J37_3 hJ37_3 => ?_)
  · intro v1 M2 hM2
    exact Fk_some hM2
  exact Fk_Lp (fun x => x.2.2) (fun rc hrc x hx => fr_f_X6_downsOf_L4_21 k m _ _  hJ37_3 rc hrc x hx) _ _ hM
theorem fr_f_X6_tellRelations_L14_40 (k : Nat) (m : Nat → Int) (v2 : Int) (J110_5 : Int → Mm → Rs) (hw0 : k ≠ 680) (hJ110_5 : ∀ (x0 : Int) (x1 : Mm), x1 k = m → Fk k m (J110_5 x0 x1)) (rc0 : Int × Int × Mm → Rs) (hrc0 : ∀ x, x.2.2 k = m → Fk k m (rc0 x)) (x0 : Int × Int × Mm) (hx0 : x0.2.2 k = m) : Fk k m (f_X6_tellRelations_L14_40 v2 J110_5 rc0 x0) := by
  obtain ⟨v6, v7, M8⟩ := x0
  replace hx0 : M8 k = m := hx0
  have hM8 := hx0
  unfold f_X6_tellRelations_L14_40
  dsimp only
  refine Fk_if ?_ ?_
  · exact hJ110_5 _ _ hM8
  · refine Fk_lt (fun v11 => ?_)
    refine Fk_lt (fun v12 => ?_)
    refine Fk_Cl (Fk_at (fr_f_X11_entryOf k _ _  _) hM8) (fun v14 M13 hM13 => ?_)
    refine Fk_Cl (Fk_at (fr_f_X6_isOfKind k _ _  _) hM13) (fun v16 M15 hM15 => ?_)
    refine Fk_join (fun J => ∀ (v17 : Int) (v18 : Int) (v19 : Int) (M20 : Mm), M20 k = m → Fk k m (J v17 v18 v19 M20)) ?_ (fun J68_21 hJ68_21 => ?_)
    · intro v17 v18 v19 M20 hM20
      refine Fk_lt (fun v22 => ?_)
      refine Fk_Cl (Fk_at (fr_f_X11_setEntry k _ _ _ hw0 _) hM20) (fun _ M23 hM23 => ?_)
      refine Fk_join (fun J => ∀ (v24 : Int) (v25 : Int) (M26 : Mm), M26 k = m → Fk k m (J v24 v25 M26)) ?_ (fun J103_27 hJ103_27 => ?_)
      · intro v24 v25 M26 hM26
        refine Fk_lt (fun v28 => ?_)
        exact hrc0 _ hM26
      refine Fk_join (fun J => ∀ (v29 : Int) (M30 : Mm), M30 k = m → Fk k m (J v29 M30)) ?_ (fun J98_31 hJ98_31 => ?_)
      · intro v29 M30 hM30
        exact hJ103_27 _ _ _ hM30
      refine Fk_if ?_ ?_
      · exact hJ98_31 _ _ hM23
      · refine Fk_lt (fun v33 => ?_)
        refine Fk_if ?_ ?_
        · exact hJ103_27 _ _ _ hM23
        · exact hJ98_31 _ _ hM23
    refine Fk_if ?_ ?_
    · exact hJ68_21 _ _ _ _ hM15
    · refine Fk_Cl (Fk_at (fr_f_X11_entryOf k _ _  _) hM15) (fun v37 M36 hM36 => ?_)
      refine Fk_Cl (Fk_at (fr_f_X6_downsOf k _  _) hM36) (fun v39 M38 hM38 => ?_)
      exact hJ68_21 _ _ _ _ hM38
theorem fr_f_X6_tellRelations (k : Nat) (a1 : Int) (hw0 : k ≠ 680) (M : Mm) : Fk k (M k) (f_X6_tellRelations a1 M) := by
  obtain ⟨m, hM⟩ : ∃ m, M k = m := ⟨_, rfl⟩
  rw [hM]
  unfold f_X6_tellRelations
  refine Fk_Cl (Fk_at (fr_f_X5_headOf k _  _) hM) (fun v2 M1 hM1 => ?_)
  refine Fk_join (fun J => ∀ (v3 : Int) (M4 : Mm), M4 k = m → Fk k m (J v3 M4)) ?_ (fun J110_5 hJ110_5 => ?_)
  · intro v3 M4 hM4
    exact Fk_some hM4
  exact Fk_Lp (fun x => x.2.2) (fun rc hrc x hx => fr_f_X6_tellRelations_L14_40 k m _ _ hw0 hJ110_5 rc hrc x hx) _ _ hM1
theorem fr_f_X6_firstRing_L27_53 (k : Nat) (m : Nat → Int) (J67_29 : Int → Int → Mm → Rs) (hw0 : k ≠ 679) (hw1 : k ≠ 680) (hJ67_29 : ∀ (x0 : Int) (x1 : Int) (x2 : Mm), x2 k = m → Fk k m (J67_29 x0 x1 x2)) (rc0 : Int × Int × Int × Mm → Rs) (hrc0 : ∀ x, x.2.2.2 k = m → Fk k m (rc0 x)) (x0 : Int × Int × Int × Mm) (hx0 : x0.2.2.2 k = m) : Fk k m (f_X6_firstRing_L27_53 J67_29 rc0 x0) := by
  obtain ⟨v31, v32, v33, M34⟩ := x0
  replace hx0 : M34 k = m := hx0
  have hM34 := hx0
  unfold f_X6_firstRing_L27_53
  dsimp only
  refine Fk_lt (fun v36 => ?_)
  refine Fk_if ?_ ?_
  · exact hJ67_29 _ _ _ hM34
  · refine Fk_Cl (Fk_at (fr_f_X6_draw k _ hw0 _) hM34) (fun _ M38 hM38 => ?_)
    refine Fk_Cl (Fk_at (fr_f_X6_tellRelations k _ hw1 _) hM38) (fun v40 M39 hM39 => ?_)
    refine Fk_join (fun J => ∀ (v41 : Int) (v42 : Int) (v43 : Int) (M44 : Mm), M44 k = m → Fk k m (J v41 v42 v43 M44)) ?_ (fun J60_45 hJ60_45 => ?_)
    · intro v41 v42 v43 M44 hM44
      refine Fk_lt (fun v46 => ?_)
      exact hrc0 _ hM44
    refine Fk_join (fun J => ∀ (v47 : Int) (v48 : Int) (M49 : Mm), M49 k = m → Fk k m (J v47 v48 M49)) ?_ (fun J55_50 hJ55_50 => ?_)
    · intro v47 v48 M49 hM49
      exact hJ60_45 _ _ _ _ hM49
    refine Fk_if ?_ ?_
    · exact hJ55_50 _ _ _ hM39
    · refine Fk_if ?_ ?_
      · exact hJ60_45 _ _ _ _ hM39
      · exact hJ55_50 _ _ _ hM39
theorem fr_f_X6_firstRing_L12_54 (k : Nat) (m : Nat → Int) (J73_3 : Mm → Rs) (hw0 : k ≠ 679) (hw1 : k ≠ 680) (hJ73_3 : ∀ (x0 : Mm), x0 k = m → Fk k m (J73_3 x0)) (rc0 : Int × Int × Mm → Rs) (hrc0 : ∀ x, x.2.2 k = m → Fk k m (rc0 x)) (x0 : Int × Int × Mm) (hx0 : x0.2.2 k = m) : Fk k m (f_X6_firstRing_L12_54 J73_3 rc0 x0) := by
  obtain ⟨v20, v21, M22⟩ := x0
  replace hx0 : M22 k = m := hx0
  have hM22 := hx0
  unfold f_X6_firstRing_L12_54
  dsimp only
  refine Fk_if ?_ ?_
  · exact hJ73_3 _ hM22
  · refine Fk_if ?_ ?_
    · exact hJ73_3 _ hM22
    · refine Fk_join (fun J => ∀ (v26 : Int) (v27 : Int) (M28 : Mm), M28 k = m → Fk k m (J v26 v27 M28)) ?_ (fun J67_29 hJ67_29 => ?_)
      · intro v26 v27 M28 hM28
        refine Fk_lt (fun v30 => ?_)
        exact hrc0 _ hM28
      exact Fk_Lp (fun x => x.2.2.2) (fun rc hrc x hx => fr_f_X6_firstRing_L27_53 k m _ hw0 hw1 hJ67_29 rc hrc x hx) _ _ hM22
theorem fr_f_X6_firstRing (k : Nat)  (hw0 : k ≠ 680) (hw1 : k ≠ 679) (M : Mm) : Fk k (M k) (f_X6_firstRing M) := by
  obtain ⟨m, hM⟩ : ∃ m, M k = m := ⟨_, rfl⟩
  rw [hM]
  unfold f_X6_firstRing
  refine Fk_Cl (Fk_at (fr_f_X11_fillRow k _ _ hw0 _) hM) (fun _ M1 hM1 => ?_)
  refine Fk_join (fun J => ∀ (M2 : Mm), M2 k = m → Fk k m (J M2)) ?_ (fun J73_3 hJ73_3 => ?_)
  · intro M2 hM2
    refine Fk_join (fun J => ∀ (M4 : Mm), M4 k = m → Fk k m (J M4)) ?_ (fun J106_5 hJ106_5 => ?_)
    · intro M4 hM4
      exact Fk_some hM4
    refine Fk_join (fun J => ∀ (v6 : Int) (M7 : Mm), M7 k = m → Fk k m (J v6 M7)) ?_ (fun J98_8 hJ98_8 => ?_)
    · intro v6 M7 hM7
      exact Fk_some hM7
    exact Fk_Lp (fun x => x.2) (fun rc hrc x hx => fr_f_X6_firstRing_L75_19 k m _ _ hw1 hJ106_5 hJ98_8 rc hrc x hx) _ _ hM2
  exact Fk_Lp (fun x => x.2.2) (fun rc hrc x hx => fr_f_X6_firstRing_L12_54 k m _ hw1 hw0 hJ73_3 rc hrc x hx) _ _ hM1
