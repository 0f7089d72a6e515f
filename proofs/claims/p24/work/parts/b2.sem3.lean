/-! what is kept is what it is, with what it looked at: that stands while findings are made -/
def ChR (S : Mm) (rg : Nat → Int) : List Int → Prop
  | [] => True
  | x :: r => (∀ y r', r = y :: r' → x.toNat ∈ Rd S rg y.toNat) ∧ ChR S rg r
def HgO (S : Mm) (rg bh : Nat → Int) (s : Nat) : Prop :=
  (∀ i, bt (h0_ S ((s / 6 : Nat) : Int) ((s % 6 : Nat) : Int)) i = true → bt (bh s) i = true) ∧ (Vs S rg s = -2 → bt (bh s) 30 = true) ∧
  (Vs S rg s ≠ -2 → ∀ x ∈ Rd S rg s, (S 12 (x % 6) = 3 → bt (bh s) 30 = true) ∧ (S 12 (x % 6) ≠ 3 → bh x ≠ 0 ∧ ∀ i, bt (bh x) i = true → bt (bh s) i = true))
def KpO (S : Mm) (rg : Nat → Int) (op : List Int) (bv bh : Nat → Int) : Prop :=
  ∀ s, s < 180 → bh s ≠ 0 → S 12 (s % 6) ≠ 3 ∧ bv s = Vs S rg s ∧ (∀ x ∈ Rd S rg s, x < 180 ∧ (S 12 (x % 6) = 3 ∨ bh x ≠ 0 ∨ (x : Int) ∈ op)) ∧ HgO S rg bh s
def ISem (S : Mm) (rg : Nat → Int) (b : Nat) (c : Cfg) : Prop :=
  ChR S rg c.1 ∧ (∀ y ∈ c.1, S 12 (y % 6).toNat ≠ 3) ∧ KpO S rg c.1 c.2.1 c.2.2.1 ∧ (c.1 ≠ [] → c.1.getLast? = some (b : Int)) ∧ (c.1 = [] → c.2.2.2.1 = dd (Rd S rg b))
-- those on the way down from the top to one of them
theorem ChR.way {S : Mm} {rg : Nat → Int} : ∀ (op : List Int) (s o : Int), ChR S rg (s :: op) → o ∈ s :: op → ∃ P : Nat → Prop, P s.toNat ∧ P o.toNat ∧ (∀ x, P x → (∃ y ∈ s :: op, x = y.toNat) ∧ (x = s.toNat ∨ ∃ y, P y ∧ y ∈ Rd S rg x)) := by
  intro op
  induction op with
  | nil =>
    intro s o _ ho
    have e : o = s := List.mem_singleton.mp ho
    subst e
    exact ⟨fun x => x = o.toNat, rfl, rfl, fun x hx => ⟨⟨o, List.mem_cons_self .., hx⟩, Or.inl hx⟩⟩
  | cons s1 op ih =>
    intro s o hc ho
    rcases List.mem_cons.mp ho with e | e
    · subst e
      exact ⟨fun x => x = o.toNat, rfl, rfl, fun x hx => ⟨⟨o, List.mem_cons_self .., hx⟩, Or.inl hx⟩⟩
    · obtain ⟨P, p1, p2, p3⟩ := ih s1 o hc.2 e
      refine ⟨fun x => x = s.toNat ∨ P x, Or.inl rfl, Or.inr p2, fun x hx => ?_⟩
      rcases hx with q | q
      · exact ⟨⟨s, List.mem_cons_self .., q⟩, Or.inl q⟩
      · obtain ⟨⟨y, y1, y2⟩, hy⟩ := p3 x q
        refine ⟨⟨y, List.mem_cons_of_mem _ y1, y2⟩, Or.inr ?_⟩
        rcases hy with z | ⟨w, w1, w2⟩
        · exact ⟨s.toNat, Or.inl rfl, by rw [z]; exact hc.1 s1 op rfl⟩
        · exact ⟨w, Or.inr w1, w2⟩
theorem ISem.known {S : Mm} {rg : Nat → Int} {op : List Int} {bv bh : Nat → Int} (hk : KpO S rg op bv bh) (x : Nat) : fv (Lk S rg bv bh op) x = none ∨ (x < 180 ∧ S 12 (x % 6) = 3 ∧ fv (Lk S rg bv bh op) x = fv (Lst_ S rg) x ∧ Lk S rg bv bh op x = some (rg x, ALL)) ∨ (x < 180 ∧ S 12 (x % 6) ≠ 3 ∧ bh x ≠ 0 ∧ fv (Lk S rg bv bh op) x = fv (Lst_ S rg) x ∧ Lk S rg bv bh op x = some (bv x, bh x)) ∨ (x < 180 ∧ S 12 (x % 6) ≠ 3 ∧ bh x = 0 ∧ (x : Int) ∈ op ∧ fv (Lk S rg bv bh op) x = some (-2)) := by
  rw [fvLst]
  unfold fv Lk
  by_cases c0 : 180 ≤ x
  · left; rw [if_pos c0]; rfl
  rw [if_neg c0]
  by_cases c1 : S 12 (x % 6) = 3
  · right; left
    rw [if_pos c1, Vs_ring c1]
    exact ⟨by omega, c1, rfl, rfl⟩
  rw [if_neg c1]
  by_cases c2 : bh x ≠ 0
  · right; right; left
    rw [if_pos c2, (hk x (by omega) c2).2.1.symm]
    exact ⟨by omega, c1, c2, rfl, rfl⟩
  rw [if_neg c2]
  by_cases c3 : (x : Int) ∈ op
  · right; right; right
    rw [if_pos c3]
    exact ⟨by omega, c1, by omega, c3, rfl⟩
  · left; rw [if_neg c3]; rfl
theorem crs_none {S : Mm} {rg : Nat → Int} {s : Int} {rest : List Int} {bv bh : Nat → Int} {lf : List Int} {kk : Nat} {t : List Nat} (h : spc S (Lk S rg bv bh (s :: rest)) (s / 6) (s % 6) = (t, none)) : crs S rg (s :: rest, bv, bh, lf, kk) = (((t.getLastD 0 : Nat) : Int) :: s :: rest, bv, bh, lf, kk) := by
  unfold crs
  simp only [h]
  rfl
theorem crs_some {S : Mm} {rg : Nat → Int} {s : Int} {rest : List Int} {bv bh : Nat → Int} {lf : List Int} {kk : Nat} {t : List Nat} {v : Int} (h : spc S (Lk S rg bv bh (s :: rest)) (s / 6) (s % 6) = (t, some v)) : crs S rg (s :: rest, bv, bh, lf, kk) = (rest, se bv s.toNat v, se bh s.toNat (hgs S (Lk S rg bv bh (s :: rest)) (s / 6) (s % 6) t v), if rest = [] then dd t else lf, kk + 1) := by
  unfold crs
  simp only [h]
  rfl
theorem ISem.crs_ {S : Mm} (hO : Oke S) (hN : Okn S) {rg : Nat → Int} {b : Nat} {s : Int} {rest : List Int} {bv bh : Nat → Int} {lf : List Int} {kk : Nat} (hOp : OpV S (s :: rest)) (hbh : BdH S bh) (hz : ∀ y ∈ s :: rest, bh y.toNat = 0) (hx : OpV S (crs S rg (s :: rest, bv, bh, lf, kk)).1) (ht : (spc S (Lk S rg bv bh (s :: rest)) (s / 6) (s % 6)).2 = none → ∃ (t : List Nat) (x : Nat), (spc S (Lk S rg bv bh (s :: rest)) (s / 6) (s % 6)).1 = t ++ [x] ∧ Lk S rg bv bh (s :: rest) x = none) (hi : ISem S rg b (s :: rest, bv, bh, lf, kk)) : ISem S rg b (crs S rg (s :: rest, bv, bh, lf, kk)) := by
  have h35 := hN.1
  obtain ⟨i1, i2, i3, i4, -⟩ := hi
  simp only at i1 i2 i3 i4
  have hs := hOp.2 s (List.mem_cons_self ..)
  obtain ⟨k, rfl⟩ : ∃ k : Nat, s = (k : Int) := ⟨s.toNat, by omega⟩
  have e6 : (k : Int) / 6 = ((k / 6 : Nat) : Int) := by omega
  have em : (k : Int) % 6 = ((k % 6 : Nat) : Int) := by omega
  have ek : (k : Int).toNat = k := Int.toNat_natCast k
  have h3 : S 12 (k % 6) ≠ 3 := by
    have := i2 k (List.mem_cons_self ..)
    rw [em, Int.toNat_natCast] at this
    exact this
  have hfix := Vs_fix hO (rg := rg) h3
  have hdf := DF_spc S (Lk S rg bv bh ((k : Int) :: rest)) (Lst_ S rg) ((k : Int) / 6) ((k : Int) % 6)
  have hst := STr_spc S (Lk S rg bv bh ((k : Int) :: rest)) ((k : Int) / 6) ((k : Int) % 6)
  have hst' := STr_spc S (Lst_ S rg) ((k : Int) / 6) ((k : Int) % 6)
  have hkn : ∀ t v, spc S (Lk S rg bv bh ((k : Int) :: rest)) ((k : Int) / 6) ((k : Int) % 6) = (t, some v) → ∀ x ∈ t, ∃ w, fv (Lk S rg bv bh ((k : Int) :: rest)) x = some w := fun t v h => spc_known h
  have hL := Lk_hb hbh (rg := rg) (bv := bv) (op := (k : Int) :: rest)
  rw [← e6, ← em] at hfix
  generalize hr : spc S (Lk S rg bv bh ((k : Int) :: rest)) ((k : Int) / 6) ((k : Int) % 6) = r at *
  generalize hr' : spc S (Lst_ S rg) ((k : Int) / 6) ((k : Int) % 6) = r' at *
  subst hfix
  obtain ⟨tt, o⟩ := r
  -- where they differ
  have hdiff : ∀ x, fv (Lk S rg bv bh ((k : Int) :: rest)) x ≠ fv (Lst_ S rg) x → fv (Lk S rg bv bh ((k : Int) :: rest)) x = none ∨ ((x : Int) ∈ (k : Int) :: rest ∧ fv (Lk S rg bv bh ((k : Int) :: rest)) x = some (-2)) := fun x hne => by
    rcases ISem.known i3 x with q | ⟨-, -, q, -⟩ | ⟨-, -, -, q, -⟩ | ⟨-, -, -, q, q'⟩
    · exact Or.inl q
    · exact absurd q hne
    · exact absurd q hne
    · exact Or.inr ⟨q, q'⟩
  cases o with
  | none =>
    obtain ⟨t, x, y1, y2⟩ := ht rfl
    rw [crs_none hr] at hx ⊢
    simp only at y1 hx ⊢
    have hlast : ((tt.getLastD 0 : Nat) : Int) = (x : Int) := by rw [y1]; simp
    rw [hlast] at hx ⊢
    have hxR : x ∈ Rd S rg k := by
      rcases hdf with q | ⟨t1, y, u, u', e1, e2, e3⟩
      · cases q
      · have hu : u = [] := by
          rcases hdiff y e3 with q | ⟨-, q⟩
          · exact ((hst t1 y u e1).1 q).1
          · exact ((hst t1 y u e1).2 q).1
        have e1 : tt = t1 ++ y :: u := e1
        rw [y1, hu] at e1
        have ee := List.append_inj_right' e1 rfl
        have : x = y := (List.cons.inj ee).1
        rw [this, show Rd S rg k = t1 ++ y :: u' from e2]
        simp
    have hxv := hx.2 x (List.mem_cons_self ..)
    refine ⟨⟨fun y r' e => ?_, i1⟩, fun y hy => ?_, fun j hj hne => ?_, fun _ => ?_, fun q => by cases q⟩
    · have : y = (k : Int) := (List.cons.inj e).1.symm
      rw [this, Int.toNat_natCast, Int.toNat_natCast]
      exact hxR
    · rcases List.mem_cons.mp hy with q | q
      · subst q
        intro k3
        have : fv (Lk S rg bv bh ((k : Int) :: rest)) x = none := by unfold fv; rw [y2]; rfl
        rcases ISem.known i3 x with z | ⟨-, -, -, z⟩ | ⟨-, -, -, -, z⟩ | ⟨-, -, -, -, z⟩
        · have hx3 : S 12 (x % 6) = 3 := by rw [← k3]; congr 1
          rw [Lk_in (by omega), if_pos hx3] at y2
          cases y2
        · rw [y2] at z; cases z
        · rw [y2] at z; cases z
        · rw [this] at z; cases z
      · exact i2 y q
    · obtain ⟨a1, a2, a3, a4⟩ := i3 j hj hne
      exact ⟨a1, a2, fun z hz' => ⟨(a3 z hz').1, (a3 z hz').2.imp id fun w => w.imp id fun w => List.mem_cons_of_mem _ w⟩, a4⟩
    · rw [List.getLast?_cons_cons]
      exact i4 (List.cons_ne_nil _ _)
  | some v =>
    -- the trace and the value are as they are
    have hcyc : ∀ x : Nat, (x : Int) ∈ (k : Int) :: rest → x ∈ Rd S rg k → Vs S rg k = -2 ∧ Vs S rg x = -2 := fun x hxo hxr => by
      obtain ⟨P, p1, p2, p3⟩ := ChR.way rest k x i1 hxo
      rw [ek] at p1 p3
      rw [Int.toNat_natCast] at p2
      have hP : ∀ y, P y → S 12 (y % 6) ≠ 3 ∧ ∃ z, P z ∧ z ∈ Rd S rg y := fun y hy => by
        obtain ⟨⟨w, w1, w2⟩, hw⟩ := p3 y hy
        have hwv := hOp.2 w w1
        have := i2 w w1
        rw [show (w % 6).toNat = y % 6 by omega] at this
        refine ⟨this, ?_⟩
        rcases hw with q | q
        · subst q; exact ⟨x, p2, hxr⟩
        · exact q
      exact ⟨cyc_V P hP p1, cyc_V P hP p2⟩
    have hmain : tt = Rd S rg k ∧ v = Vs S rg k := by
      rcases hdf with q | ⟨t1, y, u, u', e1, e2, e3⟩
      · exact ⟨congrArg Prod.fst q, Option.some.inj (congrArg Prod.snd q)⟩
      · have hyR : y ∈ Rd S rg k := by rw [show Rd S rg k = t1 ++ y :: u' from e2]; simp
        rcases hdiff y e3 with q | ⟨q1, q⟩
        · have := ((hst t1 y u e1).1 q).2; cases this
        · obtain ⟨z1, z2⟩ := (hst t1 y u e1).2 q
          obtain ⟨z3, z4⟩ := hcyc y q1 hyR
          have z5 := ((hst' t1 y u' e2).2 (by rw [fvLst, z4])).1
          refine ⟨?_, ?_⟩
          · rw [show tt = t1 ++ y :: u from e1, show Rd S rg k = t1 ++ y :: u' from e2, z1, z5]
          · rw [z3]; exact Option.some.inj z2
    obtain ⟨hT, hv⟩ := hmain
    subst hT hv
    rw [crs_some hr] at hx ⊢
    simp only at hx ⊢
    rw [ek]
    have hn : 0 ≤ (k : Int) / 6 ∧ (k : Int) / 6 < S 0 35 := ⟨by omega, hs.2.1⟩
    have hh := hgs_hb (S := S) hN hL (a := (k : Int) % 6) hn (Rd S rg k) (Vs S rg k)
    have hhn : hgs S (Lk S rg bv bh ((k : Int) :: rest)) ((k : Int) / 6) ((k : Int) % 6) (Rd S rg k) (Vs S rg k) ≠ 0 := bt_ne hh.2.1
    have hob := ob_mem hL (Rd S rg k) (h0_ S ((k : Int) / 6) ((k : Int) % 6)) (h0_hb (a := (k : Int) % 6) hN hn).1
    have hob0 := (ob_hb hL (Rd S rg k) (h0_ S ((k : Int) / 6) ((k : Int) % 6)) (h0_hb (a := (k : Int) % 6) hN hn).1).2
    have hb30 : Vs S rg k = -2 → bt (hgs S (Lk S rg bv bh ((k : Int) :: rest)) ((k : Int) / 6) ((k : Int) % 6) (Rd S rg k) (Vs S rg k)) 30 = true := fun q => by
      have h1 := ob_hb hL (Rd S rg k) (h0_ S ((k : Int) / 6) ((k : Int) % 6)) (h0_hb (a := (k : Int) % 6) hN hn).1
      unfold hgs
      rw [if_pos q, (h1.1.or_ (HBt.all S)).2, ALL_bt.2]
      simp
    generalize hG : hgs S (Lk S rg bv bh ((k : Int) :: rest)) ((k : Int) / 6) ((k : Int) % 6) (Rd S rg k) (Vs S rg k) = G at *
    have hz0 : bh k = 0 := by have := hz k (List.mem_cons_self ..); rw [ek] at this; exact this
    have hkw := hkn _ _ rfl
    have kne : ∀ x, bh x ≠ 0 → x ≠ k := fun x hx0 q => hx0 (by rw [q]; exact hz0)
    unfold ISem
    dsimp only
    refine ⟨i1.2, fun y hy => i2 y (List.mem_cons_of_mem _ hy), fun j hj hne => ?_, fun q => ?_, fun q => ?_⟩
    · by_cases cj : j = k
      · subst cj
        rw [se_at]
        have hin : ∀ x ∈ Rd S rg j, x < 180 ∧ (S 12 (x % 6) = 3 ∨ (S 12 (x % 6) ≠ 3 ∧ bh x ≠ 0 ∧ Lk S rg bv bh ((j : Int) :: rest) x = some (bv x, bh x)) ∨ (S 12 (x % 6) ≠ 3 ∧ (x : Int) ∈ (j : Int) :: rest ∧ bh x = 0)) := fun x hxR => by
          obtain ⟨w, hw⟩ := hkw x hxR
          rcases ISem.known i3 x with z | ⟨z0, z1, -, -⟩ | ⟨z0, z1, z2, -, z3⟩ | ⟨z0, z1, z2, z3, -⟩
          · rw [hw] at z; cases z
          · exact ⟨z0, Or.inl z1⟩
          · exact ⟨z0, Or.inr (Or.inl ⟨z1, z2, z3⟩)⟩
          · exact ⟨z0, Or.inr (Or.inr ⟨z1, z3, z2⟩)⟩
        refine ⟨h3, rfl, fun x hxR => ?_, ?_, ?_, ?_⟩
        · obtain ⟨x0, xc⟩ := hin x hxR
          refine ⟨x0, ?_⟩
          rcases xc with q | ⟨q, q1, -⟩ | ⟨q, q1, -⟩
          · exact Or.inl q
          · right; left; rw [se_ne _ _ (kne x q1)]; exact q1
          · right
            rcases List.mem_cons.mp q1 with e | e
            · left
              have : x = j := by omega
              rw [this, se_at]; exact hhn
            · exact Or.inr e
        · intro i hi
          rw [se_at]
          rw [← e6, ← em] at hi
          exact hh.2.2 i (hob0 i hi)
        · intro q; rw [se_at]; exact hb30 q
        · intro hv2 x hxR
          obtain ⟨x0, xc⟩ := hin x hxR
          rw [se_at]
          have hmem := hob x hxR
          rcases xc with q | ⟨q, q1, q2⟩ | ⟨q, q1, q2⟩
          · refine ⟨fun _ => hh.2.2 30 (hmem 30 ?_), fun w => absurd q w⟩
            rw [Lk_in x0, if_pos q]
            show bt ALL 30 = true
            rw [ALL_bt.2]; rfl
          · refine ⟨fun w => absurd w q, fun _ => ⟨by rw [se_ne _ _ (kne x q1)]; exact q1, fun i hi => ?_⟩⟩
            rw [se_ne _ _ (kne x q1)] at hi
            refine hh.2.2 i (hmem i ?_)
            rw [q2]; exact hi
          · exact absurd (hcyc x q1 hxR).1 hv2
      · rw [se_ne _ _ cj] at hne ⊢
        obtain ⟨a1, a2, a3, a4, a5, a6⟩ := i3 j hj hne
        refine ⟨a1, a2, fun x hxR => ⟨(a3 x hxR).1, ?_⟩, fun i hi => ?_, fun q => ?_, fun q x hxR => ?_⟩
        · by_cases cx : x = k
          · right; left; rw [cx, se_at]; exact hhn
          · rw [se_ne _ _ cx]
            rcases (a3 x hxR).2 with w | w | w
            · exact Or.inl w
            · exact Or.inr (Or.inl w)
            · rcases List.mem_cons.mp w with e | e
              · exact absurd (by omega) cx
              · exact Or.inr (Or.inr e)
        · rw [se_ne _ _ cj]; exact a4 i hi
        · rw [se_ne _ _ cj]; exact a5 q
        · rw [se_ne _ _ cj]
          refine ⟨(a6 q x hxR).1, fun w => ?_⟩
          obtain ⟨w1, w2⟩ := (a6 q x hxR).2 w
          rw [se_ne _ _ (kne x w1)]
          exact ⟨w1, w2⟩
    · have := i4 (List.cons_ne_nil _ _)
      match rest, q, this with
      | y :: r, _, this =>
        rw [List.getLast?_cons_cons] at this
        exact this
    · have := i4 (List.cons_ne_nil _ _)
      have q : rest = [] := q
      subst q
      rw [if_pos rfl]
      have e : (k : Int) = (b : Int) := Option.some.inj this
      have : k = b := by omega
      rw [this]
