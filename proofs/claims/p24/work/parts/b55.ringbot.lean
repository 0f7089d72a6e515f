/-! the same where a RING attribute itself is asked for: its expression is looked through once -/
theorem ChR.pre {S : Mm} {rg : Nat → Int} : ∀ (l l' : List Int), ChR S rg (l ++ l') → ChR S rg l := by
  intro l
  induction l with
  | nil => exact fun _ _ => trivial
  | cons x r ih =>
    intro l' h
    refine ⟨fun y r' e => ?_, ih l' h.2⟩
    refine h.1 y (r' ++ l') ?_
    rw [e]; rfl
def ISemR (S : Mm) (rg : Nat → Int) (b : Nat) (c : Cfg) : Prop :=
  (c.1 ≠ [] → ∃ pre : List Int, c.1 = pre ++ [(b : Int)] ∧ ChR S rg c.1 ∧ (∀ y ∈ pre, S 12 (y % 6).toNat ≠ 3) ∧ KpO S rg c.1 c.2.1 c.2.2.1) ∧ (c.1 = [] → c.2.2.2.1 = dd (Rd S rg b))
theorem spc_Lst {S : Mm} (hO : Oke S) (rg : Nat → Int) (s : Nat) : ∃ w, spc S (Lst_ S rg) ((s / 6 : Nat) : Int) ((s % 6 : Nat) : Int) = (Rd S rg s, some w) := by
  cases ho : (spc S (Lst_ S rg) ((s / 6 : Nat) : Int) ((s % 6 : Nat) : Int)).2 with
  | none =>
    obtain ⟨x, -, hx⟩ := SNr_spc hO (Lst_ S rg) _ _ (Int.natCast_nonneg _) ho
    rw [fvLst] at hx
    cases hx
  | some w => exact ⟨w, Prod.ext rfl ho⟩
theorem ISemR.crs_ {S : Mm} (hO : Oke S) (hN : Okn S) {rg : Nat → Int} {b : Nat} (hb3 : S 12 (b % 6) = 3) {s : Int} {rest : List Int} {bv bh : Nat → Int} {lf : List Int} {kk : Nat} (hOp : OpV S (s :: rest)) (hbh : BdH S bh) (hz : ∀ y ∈ s :: rest, bh y.toNat = 0) (hx : OpV S (crs S rg (s :: rest, bv, bh, lf, kk)).1) (ht : (spc S (Lk S rg bv bh (s :: rest)) (s / 6) (s % 6)).2 = none → ∃ (t : List Nat) (x : Nat), (spc S (Lk S rg bv bh (s :: rest)) (s / 6) (s % 6)).1 = t ++ [x] ∧ Lk S rg bv bh (s :: rest) x = none) (hi : ISemR S rg b (s :: rest, bv, bh, lf, kk)) : ISemR S rg b (crs S rg (s :: rest, bv, bh, lf, kk)) := by
  have h35 := hN.1
  obtain ⟨pre, epre, i1, i2, i3⟩ := hi.1 (List.cons_ne_nil _ _)
  simp only at epre i1 i2 i3
  have hs := hOp.2 s (List.mem_cons_self ..)
  obtain ⟨k, rfl⟩ : ∃ k : Nat, s = (k : Int) := ⟨s.toNat, by omega⟩
  have e6 : (k : Int) / 6 = ((k / 6 : Nat) : Int) := by omega
  have em : (k : Int) % 6 = ((k % 6 : Nat) : Int) := by omega
  have ek : (k : Int).toNat = k := Int.toNat_natCast k
  obtain ⟨w0, hfix⟩ := spc_Lst hO rg k
  have hfixn : S 12 (k % 6) ≠ 3 → w0 = Vs S rg k := fun h3 => by
    have := Vs_fix hO (rg := rg) h3
    rw [hfix] at this
    exact Option.some.inj (congrArg Prod.snd this)
  have hdf := DF_spc S (Lk S rg bv bh ((k : Int) :: rest)) (Lst_ S rg) ((k : Int) / 6) ((k : Int) % 6)
  have hst := STr_spc S (Lk S rg bv bh ((k : Int) :: rest)) ((k : Int) / 6) ((k : Int) % 6)
  have hst' := STr_spc S (Lst_ S rg) ((k : Int) / 6) ((k : Int) % 6)
  have hkn : ∀ t v, spc S (Lk S rg bv bh ((k : Int) :: rest)) ((k : Int) / 6) ((k : Int) % 6) = (t, some v) → ∀ x ∈ t, ∃ w, fv (Lk S rg bv bh ((k : Int) :: rest)) x = some w := fun t v h => spc_known h
  have hL := Lk_hb hbh (rg := rg) (bv := bv) (op := (k : Int) :: rest)
  rw [← e6, ← em] at hfix
  generalize hr : spc S (Lk S rg bv bh ((k : Int) :: rest)) ((k : Int) / 6) ((k : Int) % 6) = r at *
  generalize hr' : spc S (Lst_ S rg) ((k : Int) / 6) ((k : Int) % 6) = r' at *
  subst hfix
  obtain ⟨tt, o⟩ := r
  -- where they differ
  have hdiff : ∀ x, fv (Lk S rg bv bh ((k : Int) :: rest)) x ≠ fv (Lst_ S rg) x → fv (Lk S rg bv bh ((k : Int) :: rest)) x = none ∨ ((x : Int) ∈ (k : Int) :: rest ∧ S 12 (x % 6) ≠ 3 ∧ fv (Lk S rg bv bh ((k : Int) :: rest)) x = some (-2)) := fun x hne => by
    rcases ISem.known i3 x with q | ⟨-, -, q, -⟩ | ⟨-, -, -, q, -⟩ | ⟨-, q0, -, q, q'⟩
    · exact Or.inl q
    · exact absurd q hne
    · exact absurd q hne
    · exact Or.inr ⟨q, q0, q'⟩
  cases o with
  | none =>
    obtain ⟨t, x, y1, y2⟩ := ht rfl
    rw [crs_none hr] at hx ⊢
    simp only at y1 hx ⊢
    have hlast : ((tt.getLastD 0 : Nat) : Int) = (x : Int) := by rw [y1]; simp
    rw [hlast] at hx ⊢
    have hxR : x ∈ Rd S rg k := by
      rcases hdf with q | ⟨t1, y, u, u', e1, e2, e3⟩
      · cases q
      · have hu : u = [] := by
          rcases hdiff y e3 with q | ⟨-, -, q⟩
          · exact ((hst t1 y u e1).1 q).1
          · exact ((hst t1 y u e1).2 q).1
        have e1 : tt = t1 ++ y :: u := e1
        rw [y1, hu] at e1
        have ee := List.append_inj_right' e1 rfl
        have : x = y := (List.cons.inj ee).1
        rw [this, show Rd S rg k = t1 ++ y :: u' from e2]
        simp
    have hxv := hx.2 x (List.mem_cons_self ..)
    refine ⟨fun _ => ⟨(x : Int) :: pre, by show (x : Int) :: (k : Int) :: rest = _; rw [epre]; rfl, ⟨fun y r' e => ?_, i1⟩, fun y hy => ?_, fun j hj hne => ?_⟩, fun q => by cases q⟩
    · have : y = (k : Int) := (List.cons.inj e).1.symm
      rw [this, Int.toNat_natCast, Int.toNat_natCast]
      exact hxR
    · rcases List.mem_cons.mp hy with q | q
      · subst q
        intro k3
        have hx3 : S 12 (x % 6) = 3 := by rw [← k3]; congr 1
        rw [Lk_in (by omega), if_pos hx3] at y2
        cases y2
      · exact i2 y q
    · obtain ⟨a1, a2, a3, a4⟩ := i3 j hj hne
      exact ⟨a1, a2, fun z hz' => ⟨(a3 z hz').1, (a3 z hz').2.imp id fun w => w.imp id fun w => List.mem_cons_of_mem _ w⟩, a4⟩
  | some v =>
    rw [crs_some hr] at hx ⊢
    simp only at hx ⊢
    rw [ek]
    match pre, epre, i2 with
    | [], epre, _ =>
      -- the last one: the RING attribute itself
      have hk : (k : Int) = (b : Int) := (List.cons.inj epre).1
      have hrest : rest = [] := (List.cons.inj epre).2
      have hkb : k = b := by omega
      subst hkb
      subst hrest
      have hmain : tt = Rd S rg k := by
        rcases hdf with q | ⟨t1, y, u, u', e1, e2, e3⟩
        · exact congrArg Prod.fst q
        · rcases hdiff y e3 with q | ⟨q1, q2, q⟩
          · have := ((hst t1 y u e1).1 q).2; cases this
          · have : y = k := by
              have := List.mem_singleton.mp q1
              omega
            rw [this] at q2
            exact absurd hb3 q2
      refine ⟨fun q => absurd rfl q, fun _ => ?_⟩
      show (if ([] : List Int) = [] then dd tt else lf) = dd (Rd S rg k)
      rw [if_pos rfl, hmain]
    | p0 :: pre', epre, i2 =>
      have hk0 : (k : Int) = p0 := (List.cons.inj epre).1
      have hrest : rest = pre' ++ [(b : Int)] := (List.cons.inj epre).2
      subst hk0
      have h3 : S 12 (k % 6) ≠ 3 := by
        have := i2 k (List.mem_cons_self ..)
        rw [em, Int.toNat_natCast] at this
        exact this
      have hpre : ChR S rg ((k : Int) :: pre') := ChR.pre _ [(b : Int)] (by rw [← epre]; exact i1)
      have hcyc : ∀ x : Nat, (x : Int) ∈ (k : Int) :: rest → S 12 (x % 6) ≠ 3 → x ∈ Rd S rg k → Vs S rg k = -2 ∧ Vs S rg x = -2 := fun x hxo hx3 hxr => by
        have hxp : (x : Int) ∈ (k : Int) :: pre' := by
          rw [epre] at hxo
          rcases List.mem_append.mp hxo with q | q
          · exact q
          · have : x = b := by
              have := List.mem_singleton.mp q
              omega
            rw [this] at hx3
            exact absurd hb3 hx3
        obtain ⟨P, p1, p2, p3⟩ := ChR.way pre' k x hpre hxp
        rw [ek] at p1 p3
        rw [Int.toNat_natCast] at p2
        have hP : ∀ y, P y → S 12 (y % 6) ≠ 3 ∧ ∃ z, P z ∧ z ∈ Rd S rg y := fun y hy => by
          obtain ⟨⟨w, w1, w2⟩, hw⟩ := p3 y hy
          have hwv := hOp.2 w (by rw [epre]; exact List.mem_append_left _ w1)
          have := i2 w w1
          rw [show (w % 6).toNat = y % 6 by omega] at this
          refine ⟨this, ?_⟩
          rcases hw with q | q
          · subst q; exact ⟨x, p2, hxr⟩
          · exact q
        exact ⟨cyc_V P hP p1, cyc_V P hP p2⟩
      have hmain : tt = Rd S rg k ∧ v = Vs S rg k := by
        rcases hdf with q | ⟨t1, y, u, u', e1, e2, e3⟩
        · exact ⟨congrArg Prod.fst q, (Option.some.inj (congrArg Prod.snd q)).trans (hfixn h3)⟩
        · have hyR : y ∈ Rd S rg k := by rw [show Rd S rg k = t1 ++ y :: u' from e2]; simp
          rcases hdiff y e3 with q | ⟨q1, q0, q⟩
          · have := ((hst t1 y u e1).1 q).2; cases this
          · obtain ⟨z1, z2⟩ := (hst t1 y u e1).2 q
            obtain ⟨z3, z4⟩ := hcyc y q1 q0 hyR
            have z5 := ((hst' t1 y u' e2).2 (by rw [fvLst, z4])).1
            refine ⟨?_, ?_⟩
            · rw [show tt = t1 ++ y :: u from e1, show Rd S rg k = t1 ++ y :: u' from e2, z1, z5]
            · rw [z3]; exact Option.some.inj z2
      obtain ⟨hT, hv⟩ := hmain
      have hrn : rest ≠ [] := by rw [hrest]; simp
      subst hT hv
      have hn : 0 ≤ (k : Int) / 6 ∧ (k : Int) / 6 < S 0 35 := ⟨by omega, hs.2.1⟩
      have hh := hgs_hb (S := S) hN hL (a := (k : Int) % 6) hn (Rd S rg k) (Vs S rg k)
      have hhn : hgs S (Lk S rg bv bh ((k : Int) :: rest)) ((k : Int) / 6) ((k : Int) % 6) (Rd S rg k) (Vs S rg k) ≠ 0 := bt_ne hh.2.1
      have hob := ob_mem hL (Rd S rg k) (h0_ S ((k : Int) / 6) ((k : Int) % 6)) (h0_hb (a := (k : Int) % 6) hN hn).1
      have hob0 := (ob_hb hL (Rd S rg k) (h0_ S ((k : Int) / 6) ((k : Int) % 6)) (h0_hb (a := (k : Int) % 6) hN hn).1).2
      have hb30 : Vs S rg k = -2 → bt (hgs S (Lk S rg bv bh ((k : Int) :: rest)) ((k : Int) / 6) ((k : Int) % 6) (Rd S rg k) (Vs S rg k)) 30 = true := fun q => by
        have h1 := ob_hb hL (Rd S rg k) (h0_ S ((k : Int) / 6) ((k : Int) % 6)) (h0_hb (a := (k : Int) % 6) hN hn).1
        unfold hgs
        rw [if_pos q, (h1.1.or_ (HBt.all S)).2, ALL_bt.2]
        simp
      generalize hG : hgs S (Lk S rg bv bh ((k : Int) :: rest)) ((k : Int) / 6) ((k : Int) % 6) (Rd S rg k) (Vs S rg k) = G at *
      have hz0 : bh k = 0 := by have := hz k (List.mem_cons_self ..); rw [ek] at this; exact this
      have hkw := hkn _ _ rfl
      have kne : ∀ x, bh x ≠ 0 → x ≠ k := fun x hx0 q => hx0 (by rw [q]; exact hz0)
      unfold ISemR
      dsimp only
      refine ⟨fun _ => ⟨pre', hrest, i1.2, fun y hy => i2 y (List.mem_cons_of_mem _ hy), fun j hj hne => ?_⟩, fun q => absurd q hrn⟩
      by_cases cj : j = k
      · subst cj
        rw [se_at]
        have hin : ∀ x ∈ Rd S rg j, x < 180 ∧ (S 12 (x % 6) = 3 ∨ (S 12 (x % 6) ≠ 3 ∧ bh x ≠ 0 ∧ Lk S rg bv bh ((j : Int) :: rest) x = some (bv x, bh x)) ∨ (S 12 (x % 6) ≠ 3 ∧ (x : Int) ∈ (j : Int) :: rest ∧ bh x = 0)) := fun x hxR => by
          obtain ⟨w, hw⟩ := hkw x hxR
          rcases ISem.known i3 x with z | ⟨z0, z1, -, -⟩ | ⟨z0, z1, z2, -, z3⟩ | ⟨z0, z1, z2, z3, -⟩
          · rw [hw] at z; cases z
          · exact ⟨z0, Or.inl z1⟩
          · exact ⟨z0, Or.inr (Or.inl ⟨z1, z2, z3⟩)⟩
          · exact ⟨z0, Or.inr (Or.inr ⟨z1, z3, z2⟩)⟩
        refine ⟨h3, rfl, fun x hxR => ?_, ?_, ?_, ?_⟩
        · obtain ⟨x0, xc⟩ := hin x hxR
          refine ⟨x0, ?_⟩
          rcases xc with q | ⟨q, q1, -⟩ | ⟨q, q1, -⟩
          · exact Or.inl q
          · right; left; rw [se_ne _ _ (kne x q1)]; exact q1
          · right
            rcases List.mem_cons.mp q1 with e | e
            · left
              have : x = j := by omega
              rw [this, se_at]; exact hhn
            · exact Or.inr e
        · intro i hi
          rw [se_at]
          rw [← e6, ← em] at hi
          exact hh.2.2 i (hob0 i hi)
        · intro q; rw [se_at]; exact hb30 q
        · intro hv2 x hxR
          obtain ⟨x0, xc⟩ := hin x hxR
          rw [se_at]
          have hmem := hob x hxR
          rcases xc with q | ⟨q, q1, q2⟩ | ⟨q, q1, q2⟩
          · refine ⟨fun _ => hh.2.2 30 (hmem 30 ?_), fun w => absurd q w⟩
            rw [Lk_in x0, if_pos q]
            show bt ALL 30 = true
            rw [ALL_bt.2]; rfl
          · refine ⟨fun w => absurd w q, fun _ => ⟨by rw [se_ne _ _ (kne x q1)]; exact q1, fun i hi => ?_⟩⟩
            rw [se_ne _ _ (kne x q1)] at hi
            refine hh.2.2 i (hmem i ?_)
            rw [q2]; exact hi
          · exact absurd (hcyc x q1 q hxR).1 hv2
      · rw [se_ne _ _ cj] at hne ⊢
        obtain ⟨a1, a2, a3, a4, a5, a6⟩ := i3 j hj hne
        refine ⟨a1, a2, fun x hxR => ⟨(a3 x hxR).1, ?_⟩, fun i hi => ?_, fun q => ?_, fun q x hxR => ?_⟩
        · by_cases cx : x = k
          · right; left; rw [cx, se_at]; exact hhn
          · rw [se_ne _ _ cx]
            rcases (a3 x hxR).2 with w | w | w
            · exact Or.inl w
            · exact Or.inr (Or.inl w)
            · rcases List.mem_cons.mp w with e | e
              · exact absurd (by omega) cx
              · exact Or.inr (Or.inr e)
        · rw [se_ne _ _ cj]; exact a4 i hi
        · rw [se_ne _ _ cj]; exact a5 q
        · rw [se_ne _ _ cj]
          refine ⟨(a6 q x hxR).1, fun w => ?_⟩
          obtain ⟨w1, w2⟩ := (a6 q x hxR).2 w
          rw [se_ne _ _ (kne x w1)]
          exact ⟨w1, w2⟩
