/-! the law's own rows behind the class's cells: productions, equations, kinds, counts, scratch -/
def TL (k : Nat) : Ck := if k < 681 then TC k else if k = 681 then (1, 10, []) else if k = 682 then (1, 30, []) else if k = 683 then (1, 6, []) else if k = 684 then (1, 11, []) else (1, 30, [])
theorem TL_lt {k : Nat} (h : k < 681) : TL k = TC k := if_pos h
theorem tl681 : TL 681 = (1, 10, []) := rfl
theorem tl682 : TL 682 = (1, 30, []) := rfl
theorem tl683 : TL 683 = (1, 6, []) := rfl
theorem tl684 : TL 684 = (1, 11, []) := rfl
theorem tl685 : TL 685 = (1, 30, []) := rfl
theorem tln681 : 681 < 686 := by decide
theorem tln682 : 682 < 686 := by decide
theorem tln683 : 683 < 686 := by decide
theorem tln684 : 684 < 686 := by decide
theorem tln685 : 685 < 686 := by decide
/-- the class's cells out of one memory, the law's out of another -/
def jnM (A M : Mm) : Mm := fun k => if k < 681 then A k else M k
def Clj {α : Type} (o : Rs) (M : Mm) (k : Int → Mm → Option α) : Option α := match o with
  | none => none
  | some q => k q.1 (jnM q.2 M)
def Clt (o : Rx) (M : Mm) (k : Int → Mm → Rs) : Rs := match o with
  | none => none
  | some q => if q.1 = 0 then k q.2.1 (jnM q.2.2 M) else some (if q.1 = 1 then -3000000 else if q.1 = 2 then -2000000 else -1000000, jnM q.2.2 M)
theorem Met_ofWH {l : Launch} {y : MethodName} {ws ws' : List Cond} {rm : Room} {Pc : Array Value → State → Prop} {Qc : Array Value → State → Outcome → State → Prop} {mc ms : Nat} {free : Addr → Prop} {cc : ByteArray} {maxL : Nat} {ret : Option FieldType} {hh : List (Nat × Nat × Nat × Nat)}
    (hy : plainName y.cls = true) (hw : ws = Cond.codeWith y cc maxL ret hh :: ws')
    (body : ∀ p e s m args below meth c s₁, BodyLoose p l y (headSpec ws rm) cc maxL ret e s m args below meth c s₁ → c.maxLocals = maxL → Pc args s →
      W p l e (headSpec ws rm).room s m args below meth c s.heap [] 0 0 (MQ below Qc args s mc ms free) (entryFrame m args maxL)) : Met l y ws rm Pc Qc mc ms free := by
  refine MetFree.of_bodyS (code := cc) (maxLocals := maxL) (ret := ret) hy ?_ ?_
  · intro args s m h hn
    obtain ⟨m9, meth, c, hn9, h1, h2, h3, h4, -, h5, h6, -⟩ := Cond.codeWith_spec (atoms_spec (ws := ws) h _ (by rw [hw]; exact List.mem_cons_self))
    cases hn.symm.trans hn9
    exact ⟨meth, c, h1, h2, h3, h4, h5, h6⟩
  · intro p e s m args below meth c s₁ B hml hP _
    have hh0 : s₁.heap = s.heap := by rw [B.state]; rfl
    obtain ⟨t, a1, o, b1, b2, b3⟩ := body p e s m args below meth c s₁ B hml hP s₁ hh0 (Stand.of_body B)
    exact ⟨t, o, a1, b1, b2, ⟨b3.1, b3.2⟩⟩
theorem FA_iff {base n sz : Nat} {q : Nat} : FA base n sz q ↔ (base ≤ q ∧ q < base + n) ∨ sz ≤ q := Iff.rfl
section LQ
variable {p : Program} {l : Launch} {e : Env} {R : Room} {s : State} {m : MethodId} {args : Array Value} {below : List Frame} {meth : Method} {c : Code} {cc : ByteArray} {D : Dd} {base b N nL kc ks : Nat} {xs : Nat → Int32} {own : String} {α : Type} {fin : α → State → Prop} {M : Mm} {pc : Nat} {L : List (Nat × Value)} {st : List Value} {k : Option α}
theorem Wd_cut {H : Heap} (h : Wd D TL 686 base M H) : Wd D TC 681 base M H := by
  refine ⟨fun k q hq => ?_, fun k hk i => ?_⟩
  · have hk : k < 681 := by
      have := (List.getElem?_eq_some_iff.mp hq).1
      rwa [Ws_len] at this
    rw [Ws_get D TC base M hk] at hq
    cases hq
    have := h.1 k _ (Ws_get D TL base M (Nat.lt_trans hk (by decide)))
    rw [TL_lt hk] at this
    exact this
  · have := h.2 k (Nat.lt_trans hk (by decide)) i
    rwa [TL_lt hk] at this
theorem Wd_glue {H H1 : Heap} {A : Mm} (h : Wd D TL 686 base M H) (h1 : Wd D TC 681 base A H1) (ho : ∀ q : Nat, base + 681 ≤ q → q < base + 686 → H1[q]? = H[q]?) : Wd D TL 686 base (jnM A M) H1 := by
  refine ⟨fun k q hq => ?_, fun k hk i => ?_⟩
  · have hk : k < 686 := by
      have := (List.getElem?_eq_some_iff.mp hq).1
      rwa [Ws_len] at this
    rw [Ws_get D TL base (jnM A M) hk] at hq
    cases hq
    by_cases c : k < 681
    · have := h1.1 k _ (Ws_get D TC base A c)
      rw [TL_lt c, show jnM A M k = A k from if_pos c]
      exact this
    · rw [show jnM A M k = M k from if_neg c]
      have h2 : va_P D.1 vwCl [(base + k, ent D base (TL k) (M k))] H := fun j q hj => by
        have hj0 : j = 0 := by
          have := (List.getElem?_eq_some_iff.mp hj).1
          simp at this
          exact this
        subst hj0
        cases hj
        exact h.1 k _ (Ws_get D TL base M hk)
      have h3 := h2.kept (H1 := H1) (fun j q hj => by
        have hj0 : j = 0 := by
          have := (List.getElem?_eq_some_iff.mp hj).1
          simp at this
          exact this
        subst hj0
        cases hj
        exact ho _ (by show base + 681 ≤ base + k; omega) (by show base + k < base + 686; omega))
      exact h3 0 _ rfl
  · by_cases c : k < 681
    · rw [TL_lt c, show jnM A M k = A k from if_pos c]; exact h1.2 k c i
    · rw [show jnM A M k = M k from if_neg c]; exact h.2 k hk i
/-- what a method of the law has beside the class's words: the script, and what throwing wants -/
def Yq (s : State) (args : Array Value) (b base N : Nat) (xs : Nat → Int32) : Prop := (∀ w ∈ LX, w.before args s = true) ∧ KX base s s.heap ∧ va_X b N xs s s.heap ∧ b < base ∧ base ≤ s.heap.size
def PcQ (D : Dd) (base b N : Nat) (xs : Nat → Int32) (M : Mm) (av : List Value) (sz : Nat) : Array Value → State → Prop := va_Pc av (fun U => U.heap.size = sz ∧ Wd D TL 686 base M U.heap ∧ va_K D.1 vwCl (tys D) U ∧ Nw_ U ∧ KX base U U.heap ∧ va_X b N xs U U.heap ∧ b < base)
theorem PcQ_blind {av : List Value} {sz : Nat} : FrameBlind (PcQ D base b N xs M av sz) := by
  intro a U g mk q
  obtain ⟨q0, q1, q2, q3, q4, q5, q6, q7⟩ := q
  exact ⟨q0, q1, q2, va_K.moved (u := U) (U := U.calling g mk a) (Vm.Alike.refl U.vm) q3, fun z hz => va_Nw.same rfl (u := U) (U := U.calling g mk a) rfl (q4 z hz), q5.calling g mk a, va_X.moved (u := U) (U := U.calling g mk a) (Vm.Alike.refl U.vm) q6, q7⟩
def Qq (D : Dd) (base : Nat) (okr : Int → Prop) (r : Int × Mm) (sz : Nat) : Array Value → State → Outcome → State → Prop := va_Qi (fun (x : Int32) (_ : Unit) => x = Ii r.1 ∧ okr r.1) (fun _ t => Wd D TL 686 base r.2 t.heap) (FA base 686 sz)
def OkQ (l : Launch) (D : Dd) (base b N : Nat) (xs : Nat → Int32) (y : MethodName) (w0 : Cond) (fr lo mc ms : Nat) (av : List Value) (M : Mm) (okr : Int → Prop) (o : Rs) : Prop :=
  ∀ sz r, o = some r → Met l y (w0 :: LWX) (rmX fr lo mc ms) (PcQ D base b N xs M av sz) (Qq D base okr r sz) mc ms (FA base 686 sz)
def FinQ (D : Dd) (base mc ms : Nat) (below : List Frame) (args : Array Value) (s : State) (okr : Int → Prop) : Int × Mm → State → Prop := fun r => MQ below (Qq D base okr r s.heap.size) args s mc ms (FA base 686 s.heap.size)
theorem go_qireturn {okr : Int → Prop} {x : Int} {mc ms : Nat} (X : Cx p s m args c cc D nL own) (hrt : meth.sig.returnType = some .int) (hlk : meth.locks = false) (hd : decode cc pc = .ok (.ireturn, 1)) (hok : okr x) (h1 : kc ≤ mc) (h2 : ks ≤ ms) : Go p l e R s m args below meth c D TL 686 base nL kc ks (FinQ D base mc ms below args s okr) M pc L [.int (Ii x)] (some (x, M)) := by
  refine go_widen mc ms h1 h2 ?_
  intro r hr H locs ls hW hS hL
  obtain ⟨hx, hb, hml, hown, hts, hK, hN⟩ := X
  cases hr
  exact W.iret (v := Ii x) hx hb hrt (fun t ht hWm => ⟨⟨Ii x, (), rfl, ⟨rfl, hok⟩, (show Wd D TL 686 base M t.heap by rw [ht]; exact hW)⟩, hS.F ht⟩) hS.2.2 hd hlk
theorem go_qzreturn {okr : Int → Prop} {x : Int} {mc ms : Nat} (X : Cx p s m args c cc D nL own) (hrt : meth.sig.returnType = some .boolean) (hlk : meth.locks = false) (hd : decode cc pc = .ok (.ireturn, 1)) (hx9 : bo x) (hok : okr x) (h1 : kc ≤ mc) (h2 : ks ≤ ms) : Go p l e R s m args below meth c D TL 686 base nL kc ks (FinQ D base mc ms below args s okr) M pc L [.int (Ii x)] (some (x, M)) := by
  refine go_widen mc ms h1 h2 ?_
  intro r hr H locs ls hW hS hL
  obtain ⟨hx, hb, hml, hown, hts, hK, hN⟩ := X
  cases hr
  exact W.zret (v := Ii x) hx hb hrt (Ii_narr hx9) (fun t ht hWm => ⟨⟨Ii x, (), rfl, ⟨rfl, hok⟩, (show Wd D TL 686 base M t.heap by rw [ht]; exact hW)⟩, hS.F ht⟩) hS.2.2 hd hlk
theorem metQ {y : MethodName} {cy : ByteArray} {mL : Nat} {ret : Option FieldType} {fr lo mc ms : Nat} {av : List Value} {okr : Int → Prop} {o : Rs} (hy : plainName y.cls = true) (L0 : List (Nat × Value)) (hL0 : lv_args 0 av = L0) (hle : (lg_sl av).length ≤ mL)
    (body : ∀ (p : Program) (e : Env) (s : State) (m : MethodId) (args : Array Value) (below : List Frame) (meth : Method) (c : Code), Cx p s m args c cy D mL y.cls → Yq s args b base N xs → meth.sig.returnType = ret → meth.locks = false → Go p l e (rmX fr lo mc ms) s m args below meth c D TL 686 base mL 0 0 (FinQ D base mc ms below args s okr) M 0 L0 [] o) : OkQ l D base b N xs y (.code y cy mL ret) fr lo mc ms av M okr o := by
  intro sz r ho
  refine Met.ofW (cc := cy) (maxL := mL) (ret := ret) hy rfl ?_
  intro p e s m args below meth c s₁ B hml hv
  obtain ⟨rfl, rfl, hW, hK, hN, hKX, hX, hbb⟩ := hv
  have hts := atoms_spec (ws := .code y cy mL ret :: LWX) B.pre
  have hl9 := lv_entry av (n := mL) hle
  rw [lg_entry_eq]
  rw [hL0] at hl9
  have hbs : base ≤ s.heap.size := Nat.le_trans (Nat.le_add_right base 0) (Nat.le_of_lt (hW.1 0 _ (Ws_get D TL base M (show 0 < 686 by decide))).lt)
  exact body p e s m av.toArray below meth c ⟨B.exec, B.bytes, hml, findClass_of_methodNamed B.named, fun w hw => hts w (List.mem_cons_of_mem _ (List.mem_append_left _ hw)), hK, hN⟩ ⟨fun w hw => hts w (List.mem_cons_of_mem _ (List.mem_append_right _ hw)), hKX, hX, hbb, hbs⟩ B.returns B.notSynchronized r ho s.heap [] _ hW va_S.rf hl9
theorem metQH {y : MethodName} {cy : ByteArray} {mL : Nat} {ret : Option FieldType} {hh : List (Nat × Nat × Nat × Nat)} {fr lo mc ms : Nat} {av : List Value} {okr : Int → Prop} {o : Rs} (hy : plainName y.cls = true) (L0 : List (Nat × Value)) (hL0 : lv_args 0 av = L0) (hle : (lg_sl av).length ≤ mL)
    (body : ∀ (p : Program) (e : Env) (s : State) (m : MethodId) (args : Array Value) (below : List Frame) (meth : Method) (c : Code), Cx p s m args c cy D mL y.cls → Yq s args b base N xs → c.exceptionTable.toList = tableOf hh → meth.sig.returnType = ret → meth.locks = false → Go p l e (rmX fr lo mc ms) s m args below meth c D TL 686 base mL 0 0 (FinQ D base mc ms below args s okr) M 0 L0 [] o) : OkQ l D base b N xs y (.codeWith y cy mL ret hh) fr lo mc ms av M okr o := by
  intro sz r ho
  refine Met_ofWH (hh := hh) (cc := cy) (maxL := mL) (ret := ret) hy rfl ?_
  intro p e s m args below meth c s₁ B hml hv
  obtain ⟨rfl, rfl, hW, hK, hN, hKX, hX, hbb⟩ := hv
  have hts := atoms_spec (ws := .codeWith y cy mL ret hh :: LWX) B.pre
  have htb : c.exceptionTable.toList = tableOf hh := vx_table (x := y) B (hts _ List.mem_cons_self)
  have hl9 := lv_entry av (n := mL) hle
  rw [lg_entry_eq]
  rw [hL0] at hl9
  have hbs : base ≤ s.heap.size := Nat.le_trans (Nat.le_add_right base 0) (Nat.le_of_lt (hW.1 0 _ (Ws_get D TL base M (show 0 < 686 by decide))).lt)
  exact body p e s m av.toArray below meth c ⟨B.exec, B.bytes, hml, findClass_of_methodNamed B.named, fun w hw => hts w (List.mem_cons_of_mem _ (List.mem_append_left _ hw)), hK, hN⟩ ⟨fun w hw => hts w (List.mem_cons_of_mem _ (List.mem_append_right _ hw)), hKX, hX, hbb, hbs⟩ htb B.returns B.notSynchronized r ho s.heap [] _ hW va_S.rf hl9
theorem FA_not {n sz : Nat} (hb : b < base) (hs : base ≤ sz) : ¬ FA base n sz b := by
  intro h
  rcases h with h | h <;> omega
theorem go_slen (X : Cx p s m args c cc D nL own) (Y : Yq s args b base N xs) (hd : decode cc pc = .ok (.arraylength, 1)) (kk : Go p l e R s m args below meth c D TL 686 base nL kc ks fin M (pc + 1) L (.int (Ii (N : Int)) :: st) k) : Go p l e R s m args below meth c D TL 686 base nL kc ks fin M pc L (.ref b :: st) k := by
  intro r hr H locs ls hW hS hL
  obtain ⟨hx, hb, hml, hown, hts, hK, hN⟩ := X
  obtain ⟨hLX, hKX, hX, hbb, hbs⟩ := Y
  exact va_slen hx hb hX (Nat.lt_of_lt_of_le hbb hbs) (FA_not hbb hbs) hS hd (kk r hr H locs ls hW hS hL)
theorem go_sld {j : Int} {k : Int → Option α} (X : Cx p s m args c cc D nL own) (Y : Yq s args b base N xs) (hd : decode cc pc = .ok (.iaload, 1)) (hi : i32 j) (kk : ∀ x, i32 x → Go p l e R s m args below meth c D TL 686 base nL kc ks fin M (pc + 1) L (.int (Ii x) :: st) (k x)) : Go p l e R s m args below meth c D TL 686 base nL kc ks fin M pc L (.int (Ii j) :: .ref b :: st) (gd (0 ≤ j ∧ j < (N : Int)) (Lt ((xs j.toNat).toInt) k)) := by
  refine go_gd (fun z => ?_)
  intro r hr H locs ls hW hS hL
  obtain ⟨hx, hb, hml, hown, hts, hK, hN⟩ := X
  obtain ⟨hLX, hKX, hX, hbb, hbs⟩ := Y
  refine va_sld hx hb hX (Nat.lt_of_lt_of_le hbb hbs) (FA_not hbb hbs) hS (vp_in_Ii z hi) hd ?_
  rw [Ii_nat hi]
  have := kk _ (i32_of _) r hr H locs ls hW hS hL
  rw [Ii_of] at this
  exact this
theorem Yq_at {H : Heap} {locs : List Loc} {n : Nat} (Y : Yq s args b base N xs) (hS : va_S (FA base n s.heap.size) s.heap H locs) : H[b]? = s.heap[b]? := by
  obtain ⟨hLX, hKX, hX, hbb, hbs⟩ := Y
  exact hS.2.1 b (Nat.lt_of_lt_of_le hbb hbs) (FA_not hbb hbs)
theorem KX_at {H : Heap} {U : State} {locs : List Loc} (hKX : KX base s s.heap) (hS : va_S (FA base 686 s.heap.size) s.heap H locs) (hU : U.heap = H) (hWm : s.WarmedH U.vm) : KX base U U.heap := by
  rw [hU]
  refine hKX.warm hWm (fun a ha hA => hS.2.1 a ha (fun hf => ?_))
  rcases hf with h1 | h1
  · exact hA h1.1
  · exact absurd ha (Nat.not_lt.mpr h1)
/-- a static method of the law called -/
theorem go_lcall {okr : Int → Prop} {y : MethodName} {cy : ByteArray} {mL : Nat} {ret : Option FieldType} {fr lo np index mc2 ms2 : Nat} {As rest : List Value} {o : Rs} {q : Int → Mm → Option α}
    (X : Cx p s m args c cc D nL own) (Y : Yq s args b base N xs) (hM : OkQ l D base b N xs y (.code y cy mL ret) fr lo mc2 ms2 As M okr o) (hd : decode cc pc = .ok (.invokestatic index, 3)) (w1 : Cond.methodLink own index y ∈ LW) (w2 : Cond.static y ∈ LW) (w4 : Cond.initialized y.cls ∈ LW) (w5 : Cw R y cy mL ret fr lo np)
    (hn : As.length = np) (hst : st = As.reverse ++ rest) (hrs : (rest.map fun v => v.category).sum ≤ 8) (hkc : kc + mc2 ≤ R.cells ∧ ks + ms2 ≤ R.slots)
    (kk : ∀ x M, okr x → Go p l e R s m args below meth c D TL 686 base nL (kc + mc2) (ks + ms2) fin M (pc + 3) L (.int (Ii x) :: rest) (q x M)) : Go p l e R s m args below meth c D TL 686 base nL kc ks fin M pc L st (Cl o q) := by
  intro r hr H locs ls hW hS hL
  have hat := Yq_at Y hS
  obtain ⟨hx, hb, hml, hown, hts, hK, hN⟩ := X
  obtain ⟨hLX, hKX, hX, hbb, hbs⟩ := Y
  obtain ⟨hco, ⟨hy1, hy2, hy3⟩, hR⟩ := w5
  subst hst
  cases o with
  | none => exact absurd hr (by simp [Cl])
  | some z =>
    refine va_calli (va_runS (g := F0 m pc ls (As.reverse ++ rest)) (nL := nL) ⟨hx, hb, hml, hown, htsX hts hLX⟩ (hM H.size z rfl) (va_cwS np (htsX hts hLX) (good_callX (pre := [.methodLink own index y, .static y, .initialized y.cls]) (fun w hw => ?_) hco) rfl rfl rfl ⟨hy1, hy2, hy3⟩ hR) ⟨PcQ_blind, fun U hU hWm => ⟨rfl, by rw [hU], by rw [hU]; exact hW, va_K.moved hWm.alike hK, fun z hz => va_Nw.warmM hWm (hN z hz), KX_at hKX hS hU hWm, va_X.moved hWm.alike (by rw [hU]; exact hX.kept hat), hbb⟩⟩ rfl hn hL.1 rfl (by show 2 * 0 + (rest.map fun v => v.category).sum ≤ 8; omega) hd hkc) hS (FA_le hS.1) (FA_le2 hS.1) (fun x u t H1 locs1 ht hvm hp hB hz hk hS1 => ?_)
    · simp only [List.mem_cons, List.not_mem_nil, or_false] at hw
      rcases hw with rfl | rfl | rfl
      · exact w1
      · exact w2
      · exact w4
    · rw [ht] at hB
      rw [hp.1]
      exact kk z.1 z.2 hp.2 r hr H1 locs1 ls hB hS1 hL
/-- .. one that catches -/
theorem go_lcallH {okr : Int → Prop} {y : MethodName} {cy : ByteArray} {mL : Nat} {hh : List (Nat × Nat × Nat × Nat)} {fr lo np index mc2 ms2 : Nat} {As rest : List Value} {o : Rs} {q : Int → Mm → Option α}
    (X : Cx p s m args c cc D nL own) (Y : Yq s args b base N xs) (hM : OkQ l D base b N xs y (.codeWith y cy mL (some .int) hh) fr lo mc2 ms2 As M okr o) (hd : decode cc pc = .ok (.invokestatic index, 3)) (w1 : Cond.methodLink own index y ∈ LW) (w2 : Cond.static y ∈ LW) (w4 : Cond.initialized y.cls ∈ LW) (hco : Cond.codeWith y cy mL (some .int) hh ∈ LW) (hy : y.cls ≠ "java/lang/invoke/MethodHandle" ∧ y.cls ≠ "java/lang/invoke/VarHandle" ∧ (parseMethodDescriptor y.desc).map (fun d => d.parameters.length) = some np) (hR : fr + 1 ≤ R.frames ∧ 8 + (mL + 11) + lo ≤ R.locals)
    (hn : As.length = np) (hst : st = As.reverse ++ rest) (hrs : (rest.map fun v => v.category).sum ≤ 8) (hkc : kc + mc2 ≤ R.cells ∧ ks + ms2 ≤ R.slots)
    (kk : ∀ x M, okr x → Go p l e R s m args below meth c D TL 686 base nL (kc + mc2) (ks + ms2) fin M (pc + 3) L (.int (Ii x) :: rest) (q x M)) : Go p l e R s m args below meth c D TL 686 base nL kc ks fin M pc L st (Cl o q) := by
  intro r hr H locs ls hW hS hL
  have hat := Yq_at Y hS
  obtain ⟨hx, hb, hml, hown, hts, hK, hN⟩ := X
  obtain ⟨hLX, hKX, hX, hbb, hbs⟩ := Y
  subst hst
  cases o with
  | none => exact absurd hr (by simp [Cl])
  | some z =>
    refine va_calli (vx_runSW (hh := hh) (bytes := cy) (maxL := mL) (ret := some .int) (g := F0 m pc ls (As.reverse ++ rest)) (nL := nL) ⟨hx, hb, hml, hown, htsX hts hLX⟩ (hM H.size z rfl) (vx_cwSW np (htsX hts hLX) (good_callX (pre := [.methodLink own index y, .static y, .initialized y.cls]) (fun w hw => ?_) hco) rfl rfl rfl hy hR) ⟨PcQ_blind, fun U hU hWm => ⟨rfl, by rw [hU], by rw [hU]; exact hW, va_K.moved hWm.alike hK, fun z hz => va_Nw.warmM hWm (hN z hz), KX_at hKX hS hU hWm, va_X.moved hWm.alike (by rw [hU]; exact hX.kept hat), hbb⟩⟩ rfl hn hL.1 rfl (by show 2 * 0 + (rest.map fun v => v.category).sum ≤ 8; omega) hd hkc) hS (FA_le hS.1) (FA_le2 hS.1) (fun x u t H1 locs1 ht hvm hp hB hz hk hS1 => ?_)
    · simp only [List.mem_cons, List.not_mem_nil, or_false] at hw
      rcases hw with rfl | rfl | rfl
      · exact w1
      · exact w2
      · exact w4
    · rw [ht] at hB
      rw [hp.1]
      exact kk z.1 z.2 hp.2 r hr H1 locs1 ls hB hS1 hL
theorem FAc_le {sz sz' : Nat} (h : sz' ≤ sz) : ∀ q, FA base 681 sz q → FA base 686 sz' q := by
  intro q hf
  have hf := FA_iff.mp hf
  refine FA_iff.mpr ?_
  omega
theorem Wd_rest {H H1 : Heap} (hW : Wd D TL 686 base M H) (hk : ∀ q : Nat, q < H.size → ¬ FA base 681 H.size q → H1[q]? = H[q]?) : ∀ q : Nat, base + 681 ≤ q → q < base + 686 → H1[q]? = H[q]? := by
  intro q h1 h2
  have hlt : base + 685 < H.size := (hW.1 685 _ (Ws_get D TL base M (by decide))).lt
  refine hk q (by omega) (fun hf => ?_)
  have hf := FA_iff.mp hf
  omega
/-- a method of the class called that doesn't throw -/
theorem go_ccall {okr : Int → Prop} {C : String} {y : MethodName} {cy : ByteArray} {mL : Nat} {ret : Option FieldType} {fr lo np index : Nat} {As rest : List Value} {o : Rs} {q : Int → Mm → Option α}
    (X : Cx p s m args c cc D nL own) (hM : OkI l D TC 681 base y cy mL ret fr lo (.ref (base + 0) :: As) M okr o) (hd : decode cc pc = .ok (.invokevirtual index, 3)) (w1 : Cond.methodLink own index y ∈ LW) (w2 : Cond.instanceMethod y ∈ LW) (w3 : Cond.selects C y y ∈ LW) (w4 : Cond.initialized C ∈ LW) (w5 : Cw R y cy mL ret fr lo np) (hC : y.cls = C) (hC9 : C = RX11)
    (hn : As.length = np) (hst : st = As.reverse ++ .ref (base + 0) :: rest) (hrs : (rest.map fun v => v.category).sum ≤ 8) (hkc : kc ≤ R.cells ∧ ks ≤ R.slots)
    (kk : ∀ x M, okr x → Go p l e R s m args below meth c D TL 686 base nL kc ks fin M (pc + 3) L (.int (Ii x) :: rest) (q x M)) : Go p l e R s m args below meth c D TL 686 base nL kc ks fin M pc L st (Clj o M q) := by
  intro r hr H locs ls hW hS hL
  obtain ⟨hx, hb, hml, hown, hts, hK, hN⟩ := X
  obtain ⟨hco, ⟨hy1, hy2, hy3⟩, hR⟩ := w5
  subst hst
  subst hC9
  cases o with
  | none => exact absurd hr (by simp [Clj])
  | some z =>
    refine va_calli (va_runV (g := F0 m pc ls (As.reverse ++ .ref (base + 0) :: rest)) (nL := nL) ⟨hx, hb, hml, hown, hts⟩ (hM H.size z rfl) (cwV np hts (good_call (y := .tt) (ws := []) (pre := [.methodLink own index y, .instanceMethod y, .selects RX11 y y, .initialized RX11]) (fun w hw => ?_) hco) rfl rfl rfl ⟨hC, hy1, hy2, hy3⟩ hR) ⟨PcW_blind, ?_, fun U hU hWm => ⟨rfl, by rw [hU], by rw [hU]; exact Wd_cut hW, va_K.moved hWm.alike hK, fun z hz => va_Nw.warmM hWm (hN z hz)⟩⟩ rfl hn hL.1 rfl (by show 2 * 0 + (rest.map fun v => v.category).sum ≤ 8; omega) hd hkc) hS (fun q _ h => FAc_le hS.1 q h) (FAc_le hS.1) (fun x u t H1 locs1 ht hvm hp hB hz hk hS1 => ?_)
    · simp only [List.mem_cons, List.not_mem_nil, or_false] at hw
      rcases hw with rfl | rfl | rfl | rfl
      · exact w1
      · exact w2
      · exact w3
      · exact w4
    · have he := Ws_get D TC base M tcn0
      rw [show ent D base (TC 0) (M 0) = .inr (11, sts base (TC 0).2.2 (M 0)) by rw [tc0]; rfl] at he
      exact va_recv hK (Wd_cut hW).1 (ci := 11) rfl he
    · rw [ht] at hB
      rw [hp.1]
      exact kk z.1 (jnM z.2 M) hp.2 r hr H1 locs1 ls (Wd_glue hW hB (Wd_rest hW hk)) hS1 hL
def hhD : List (Nat × Nat × Nat × Nat) := [(0, 253, 254, 66), (0, 253, 259, 69), (0, 253, 264, 72)]
/-- a method of the class called by the one that catches -/
theorem go_dcall {okr2 : Int → Prop} {y : MethodName} {cy : ByteArray} {mL : Nat} {ret : Option FieldType} {fr lo np index mc2 ms2 : Nat} {As rest : List Value} {o : Rx} {q : Int → Mm → Rs}
    (X : Cx p s m args c cL_does D 8 RL) (Y : Yq s args b base N xs) (htb : c.exceptionTable.toList = tableOf hhD) (hrt : meth.sig.returnType = some .int) (hlk : meth.locks = false) (hM : OkXi l D TC 681 base base y cy mL ret fr lo mc2 ms2 (.ref (base + 0) :: As) M okr2 o) (hd : decode cL_does pc = .ok (.invokevirtual index, 3)) (w1 : Cond.methodLink RL index y ∈ LW) (w2 : Cond.instanceMethod y ∈ LW) (w3 : Cond.selects RX11 y y ∈ LW) (w4 : Cond.initialized RX11 ∈ LW) (w5 : Cw R y cy mL ret fr lo np) (hC : y.cls = RX11)
    (hn : As.length = np) (hst : st = As.reverse ++ .ref (base + 0) :: rest) (hrs : (rest.map fun v => v.category).sum ≤ 8) (hkc : kc + mc2 ≤ R.cells ∧ ks + ms2 ≤ R.slots) (hmc : kc + mc2 ≤ 3 ∧ ks + ms2 ≤ 18) (hcov : ∀ h t, covers ⟨0, 253, h, t⟩ pc = true)
    (kk : ∀ x M, okr2 x → Go p l e R s m args below meth c D TL 686 base 8 (kc + mc2) (ks + ms2) (FinQ D base 3 18 below args s i32) M (pc + 3) L (.int (Ii x) :: rest) (q x M)) : Go p l e R s m args below meth c D TL 686 base 8 kc ks (FinQ D base 3 18 below args s i32) M pc L st (Clt o M q) := by
  intro r hr H locs ls hW hS hL
  have X9 := X
  obtain ⟨hx, hb, hml, hown, hts, hK, hN⟩ := X
  obtain ⟨hLX, hKX, hX, hbb, hbs⟩ := Y
  obtain ⟨hco, ⟨hy1, hy2, hy3⟩, hR⟩ := w5
  subst hst
  cases o with
  | none => exact absurd hr (by simp [Clt])
  | some z =>
    have hrun := vx_runV (g := F0 m pc ls (As.reverse ++ .ref (base + 0) :: rest)) (nL := 8) (locs := locs) (p := p) (e := e) (R := R) (below := below) (meth := meth) (c := c) (cells := kc) (slots := ks) (H := H) ⟨hx, hb, hml, hown, htsX hts hLX⟩ (hM H.size z rfl) (cwV np (htsX hts hLX) (good_callX (pre := [.methodLink RL index y, .instanceMethod y, .selects RX11 y y, .initialized RX11]) (fun w hw => ?_) hco) rfl rfl rfl ⟨hC, hy1, hy2, hy3⟩ hR) ⟨PcX_blind, ?_, fun U hU hWm => ⟨rfl, by rw [hU], by rw [hU]; exact Wd_cut hW, va_K.moved hWm.alike hK, fun z hz => va_Nw.warmM hWm (hN z hz), KX_at hKX hS hU hWm⟩⟩ rfl hn hL.1 rfl (by show 2 * 0 + (rest.map fun v => v.category).sum ≤ 8; omega) hd hkc
    · refine vx_calli hrun hS (fun q _ h => FAc_le hS.1 q h) (FAc_le hS.1) (fun q _ h => FAc_le hS.1 q h) (fun E ce q8 u t H1 locs1 ht hvm hp hB hz hk hS1 hce hcv hcl => ?_) (fun x u t H1 locs1 ht hvm hp hB hz hk hS1 => ?_)
      · rw [ht] at hB
        have hW1 : Wd D TL 686 base (jnM z.2.2 M) H1 := Wd_glue hW hB.2 (Wd_rest hW hk)
        have hz0 : ¬ z.1 = 0 := by rcases hp with h | h | h <;> rw [h] <;> decide
        unfold Clt at hr
        dsimp only at hr
        rw [if_neg hz0] at hr
        rw [hB.1] at hcl
        have hh : ∀ (v : Int) (hpc ix : Nat), i32 v → decode cL_does hpc = .ok (.astore 7, 2) → decode cL_does (hpc + 2) = .ok (.ldc ix, 2) → decode cL_does (hpc + 4) = .ok (.ireturn, 1) → (∃ w : Int32, Cond.constant RL ix w ∈ LW ∧ w = Ii v) → r = (v, jnM z.2.2 M) → W p l e R s m args below meth c H1 locs1 (kc + mc2) (ks + ms2) (FinQ D base 3 18 below args s i32 r) (F0 m hpc ls [.ref q8]) := by
          intro v hpc ix hv d1 d2 d3 ⟨w, hw1, hw2⟩ hr9
          have h1 : Go p l e R s m args below meth c D TL 686 base 8 (kc + mc2) (ks + ms2) (FinQ D base 3 18 below args s i32) (jnM z.2.2 M) hpc L [.ref q8] (some (v, jnM z.2.2 M)) := by
            refine go_astore (i := 7) X9 d1 (by decide) rfl ?_
            refine go_ldc (v := v) X9 d2 hw1 hw2 ?_
            exact go_qireturn X9 hrt hlk d3 hv hmc.1 hmc.2
          exact h1 r (by rw [hr9]) H1 locs1 ls hW1 hS1 hL
        rcases hp with hq | hq | hq
        · rw [if_pos hq] at hr
          rw [hq] at hcl
          exact vx_catch hown [] ⟨0, 253, 254, 66⟩ [⟨0, 253, 259, 69⟩, ⟨0, 253, 264, 72⟩] (by rw [htb]; rfl) (fun z hz => by cases hz) (hcov _ _) (by decide) (hts _ lw867) (va_Nw.use rfl (hKX.1 (.castable (exn 1) (exn 1)) (by decide +kernel))) hce hcv hcl (hh (-3000000) 254 68 (by decide) dL_does_254 dL_does_256 dL_does_258 ⟨_, lw870, rfl⟩ (Option.some.inj hr).symm)
        · rw [if_neg (by rw [hq]; decide), if_pos hq] at hr
          rw [hq] at hcl
          exact vx_catch hown [⟨0, 253, 254, 66⟩] ⟨0, 253, 259, 69⟩ [⟨0, 253, 264, 72⟩] (by rw [htb]; rfl) (fun z hz => by
            simp only [List.mem_cons, List.not_mem_nil, or_false] at hz
            rcases hz with rfl
            exact Or.inr ⟨by decide, exn 1, hts _ lw867, hKX.2.2.2.2 (exn 2, exn 1) (by decide +kernel)⟩) (hcov _ _) (by decide) (hts _ lw868) (va_Nw.use rfl (hKX.1 (.castable (exn 2) (exn 2)) (by decide +kernel))) hce hcv hcl (hh (-2000000) 259 71 (by decide) dL_does_259 dL_does_261 dL_does_263 ⟨_, lw871, rfl⟩ (Option.some.inj hr).symm)
        · rw [if_neg (by rw [hq]; decide), if_neg (by rw [hq]; decide)] at hr
          rw [hq] at hcl
          exact vx_catch hown [⟨0, 253, 254, 66⟩, ⟨0, 253, 259, 69⟩] ⟨0, 253, 264, 72⟩ [] (by rw [htb]; rfl) (fun z hz => by
            simp only [List.mem_cons, List.not_mem_nil, or_false] at hz
            rcases hz with rfl | rfl
            · exact Or.inr ⟨by decide, exn 1, hts _ lw867, hKX.2.2.2.2 (exn 3, exn 1) (by decide +kernel)⟩
            · exact Or.inr ⟨by decide, exn 2, hts _ lw868, hKX.2.2.2.2 (exn 3, exn 2) (by decide +kernel)⟩) (hcov _ _) (by decide) (hts _ lw869) (va_Nw.use rfl (hKX.1 (.castable (exn 3) (exn 3)) (by decide +kernel))) hce hcv hcl (hh (-1000000) 264 74 (by decide) dL_does_264 dL_does_266 dL_does_268 ⟨_, lw872, rfl⟩ (Option.some.inj hr).symm)
      · rw [ht] at hB
        unfold Clt at hr
        dsimp only at hr
        rw [if_pos hp.1] at hr
        rw [hp.2.1]
        exact kk _ _ hp.2.2 r hr H1 locs1 ls (Wd_glue hW hB (Wd_rest hW hk)) hS1 hL
    · simp only [List.mem_cons, List.not_mem_nil, or_false] at hw
      rcases hw with rfl | rfl | rfl | rfl
      · exact w1
      · exact w2
      · exact w3
      · exact w4
    · have he := Ws_get D TC base M tcn0
      rw [show ent D base (TC 0) (M 0) = .inr (11, sts base (TC 0).2.2 (M 0)) by rw [tc0]; rfl] at he
      exact va_recv hK (Wd_cut hW).1 (ci := 11) rfl he
/-- a loop whose turns make something: so many turns at most -/
theorem go_lpk {σ β : Type} {body : (σ → Option β) → σ → Option β} (P : Nat → (σ → Option β) → Prop) (h0 : P 0 (fun _ => none)) (step : ∀ f rc, P f rc → P (f + 1) (body rc)) : ∀ f, P f (Lp body f) := by
  intro f
  induction f with
  | zero => exact h0
  | succ f ih => exact step _ _ ih
end LQ
