/-! methods that throw -/
def exn (q : Int) : String := if q = 1 then "java/lang/IndexOutOfBoundsException" else if q = 2 then "java/lang/IllegalArgumentException" else "java/lang/IllegalStateException"
def xNm : List String := ["java/lang/RuntimeException", "java/lang/Exception"]
def xAt1 : List Cond := vx_atS RX11 95 (exn 1) xNm
def xAt2 : List Cond := vx_atS RX11 106 (exn 2) xNm
def xAt3 : List Cond := vx_atS RX11 115 (exn 3) xNm
def LX : List Cond := xAt1.filter goodWord ++ (xAt2.filter goodWord ++ xAt3.filter goodWord)
def LWX : List Cond := LW ++ LX
def XB : List Cond := xAt1.filter (fun w => !goodWord w) ++ (xAt2.filter (fun w => !goodWord w) ++ xAt3.filter (fun w => !goodWord w))
def isCD : Cond → Bool
  | .castable .. => true
  | .declares .. => true
  | _ => false
theorem XB_cd : ∀ w ∈ XB, isCD w = true := List.all_eq_true.mp (by decide +kernel)
theorem LX_good : ∀ w ∈ LX, goodWord w = true := by
  intro w hw
  rcases List.mem_append.mp hw with h | h
  · exact (List.mem_filter.mp h).2
  · rcases List.mem_append.mp h with h | h
    · exact (List.mem_filter.mp h).2
    · exact (List.mem_filter.mp h).2
theorem LWX_good : ∀ w ∈ LWX, goodWord w = true := fun w h => (List.mem_append.mp h).elim (LW_good w) (LX_good w)
theorem isCD_warm {w : Cond} {s U : State} (h : isCD w = true) (hW : s.WarmedH U.vm) (hw : va_Nw w s) : va_Nw w U := by
  cases w <;> simp [isCD] at h
  · exact va_Nw.warmD hW hw
  · exact va_Nw.warmC hW hw
theorem isCD_tab {w : Cond} (h : isCD w = true) : w.onTables = true := by
  cases w <;> simp [isCD] at h <;> rfl
def STR : List (Nat × String) := [(93, "no such nonterminal"), (104, "a symbol is out of range"), (113, "there are 10 productions"), (127, "no such production"), (133, "no such child"), (139, "the other production does not go with it"), (144, "a child does not go with it"), (333, "no such attribute"), (162, "the kind is out of range"), (167, "there are 6 attributes"), (181, "the kind, a or b is out of range"), (192, "the draft is full or has too few expressions"), (335, "no such aspect"), (213, "the target does not go with the attribute"), (218, "the draft is no such equation, or there are 30"), (240, "no such place"), (242, "the letter is out of range"), (244, "the text is full, or there is no production"), (253, "no such letter"), (255, "there is no production"), (337, "no such node"), (320, "no such read")]
def XP : List (String × String) := [(exn 1, exn 2), (exn 1, exn 3), (exn 2, exn 1), (exn 2, exn 3), (exn 3, exn 1), (exn 3, exn 2)]
def KX (b0 : Nat) (U : State) (H : Heap) : Prop := (∀ w ∈ XB, va_Nw w U) ∧ (∀ q ∈ STR, ∃ a, vk_R RX11 q.1 q.2 a U) ∧ vx_Zq Bundle.tN "UNASSIGNED_STACK" Bundle.steD (fun q => b0 ≤ q) U H ∧ vx_Zq Bundle.tN "SUPPRESSED_SENTINEL" Bundle.listD (fun q => b0 ≤ q) U H ∧ (∀ q ∈ XP, va_Nc q.1 q.2 U)
theorem KX.warm {b0 : Nat} {s U : State} {H0 H : Heap} (h : KX b0 s H0) (hW : s.WarmedH U.vm) (hq : ∀ a : Nat, a < H0.size → ¬ b0 ≤ a → H[a]? = H0[a]?) : KX b0 U H := by
  obtain ⟨h1, h2, h3, h4, h5⟩ := h
  refine ⟨fun w hw => isCD_warm (XB_cd w hw) hW (h1 w hw), fun q hq => ?_, (h3.kept hq).moved hW.alike, (h4.kept hq).moved hW.alike, fun q hq => (h5 q hq).moved hW.alike⟩
  obtain ⟨a, ha⟩ := h2 q hq
  exact ⟨a, ha.warm hW⟩
theorem KX.calling {b0 : Nat} {U : State} (g : JFrame) (mk : MethodId) (a : Array Value) (h : KX b0 U U.heap) : KX b0 (U.calling g mk a) (U.calling g mk a).heap := by
  obtain ⟨h1, h2, h3, h4, h5⟩ := h
  refine ⟨fun w hw => va_Nw.same (isCD_tab (XB_cd w hw)) (u := U) rfl (h1 w hw), fun q hq => ?_, vx_Zq.moved (u := U) (Vm.Alike.refl U.vm) h3, vx_Zq.moved (u := U) (Vm.Alike.refl U.vm) h4, fun q hq => va_Nc.moved (u := U) (Vm.Alike.refl U.vm) (h5 q hq)⟩
  obtain ⟨a, ha⟩ := h2 q hq
  exact ⟨a, vk_R.same (u := U) rfl ha⟩
abbrev Rx : Type := Option (Int × Int × Mm)
def Clx (o : Rx) (k : Int → Mm → Rx) : Rx := match o with
  | none => none
  | some q => if q.1 = 0 then k q.2.1 q.2.2 else some (q.1, 0, q.2.2)
def rmX (fr lo mc ms : Nat) : Room := { frames := fr, cells := mc, slots := ms, locals := lo }
section THR
variable {p : Program} {l : Launch} {e : Env} {R : Room} {s : State} {m : MethodId} {args : Array Value} {below : List Frame} {meth : Method} {c : Code} {cc : ByteArray} {D : Dd} {T : Nat → Ck} {n base b0 nL kc ks mc ms : Nat} {own : String} {M : Mm} {pc : Nat} {L : List (Nat × Value)} {st : List Value}
def PcX (D : Dd) (T : Nat → Ck) (n base b0 : Nat) (M : Mm) (av : List Value) (sz : Nat) : Array Value → State → Prop := va_Pc av (fun U => U.heap.size = sz ∧ Wd D T n base M U.heap ∧ va_K D.1 vwCl (tys D) U ∧ Nw_ U ∧ KX b0 U U.heap)
theorem PcX_blind {av : List Value} {sz : Nat} : FrameBlind (PcX D T n base b0 M av sz) := by
  intro a U g mk q
  obtain ⟨q0, q1, q2, q3, q4, q5⟩ := q
  exact ⟨q0, q1, q2, va_K.moved (u := U) (U := U.calling g mk a) (Vm.Alike.refl U.vm) q3, fun z hz => va_Nw.same rfl (u := U) (U := U.calling g mk a) rfl (q4 z hz), q5.calling g mk a⟩
/-- what a method that throws adds to what stands through its walk -/
def Xx (l : Launch) (s : State) (args : Array Value) (meth : Method) (c : Code) (b0 : Nat) : Prop := (∀ w ∈ LX, w.before args s = true) ∧ KX b0 s s.heap ∧ l.stackTraces = false ∧ meth.locks = false ∧ (∀ x ∈ c.exceptionTable.toList, False)
def Qxi (D : Dd) (T : Nat → Ck) (n base sz : Nat) (okr : Int → Prop) (r : Int × Int × Mm) : Array Value → State → Outcome → State → Prop := va_Qi (fun (x : Int32) (_ : Unit) => r.1 = 0 ∧ x = Ii r.2.1 ∧ okr r.2.1) (fun _ t => Wd D T n base r.2.2 t.heap) (FA base n sz)
def Qxv (D : Dd) (T : Nat → Ck) (n base sz : Nat) (r : Int × Int × Mm) : Array Value → State → Outcome → State → Prop := va_Qv (fun (_ : Unit) => r.1 = 0) (fun _ t => Wd D T n base r.2.2 t.heap) (FA base n sz)
def Xxc (D : Dd) (T : Nat → Ck) (n base sz : Nat) (r : Int × Int × Mm) : String → State → State → Prop := vx_X (fun (_ : Unit) => (r.1 = 1 ∨ r.1 = 2 ∨ r.1 = 3)) (fun E _ t => E = exn r.1 ∧ Wd D T n base r.2.2 t.heap) (FA base n sz)
def OkXi (l : Launch) (D : Dd) (T : Nat → Ck) (n base b0 : Nat) (y : MethodName) (cc : ByteArray) (mL : Nat) (ret : Option FieldType) (fr lo mc ms : Nat) (av : List Value) (M : Mm) (okr : Int → Prop) (o : Rx) : Prop :=
  ∀ sz r, o = some r → vx_Met l y (.code y cc mL ret :: LWX) (rmX fr lo mc ms) (PcX D T n base b0 M av sz) (Qxi D T n base sz okr r) (Xxc D T n base sz r) mc ms (FA base n sz)
def OkXv (l : Launch) (D : Dd) (T : Nat → Ck) (n base b0 : Nat) (y : MethodName) (cc : ByteArray) (mL : Nat) (ret : Option FieldType) (fr lo mc ms : Nat) (av : List Value) (M : Mm) (o : Rx) : Prop :=
  ∀ sz r, o = some r → vx_Met l y (.code y cc mL ret :: LWX) (rmX fr lo mc ms) (PcX D T n base b0 M av sz) (Qxv D T n base sz r) (Xxc D T n base sz r) mc ms (FA base n sz)
def FinXi (D : Dd) (T : Nat → Ck) (n base mc ms : Nat) (below : List Frame) (args : Array Value) (s : State) (okr : Int → Prop) : Int × Int × Mm → State → Prop := fun r => vx_MQ below (Qxi D T n base s.heap.size okr r) (Xxc D T n base s.heap.size r) args s mc ms (FA base n s.heap.size)
def FinXv (D : Dd) (T : Nat → Ck) (n base mc ms : Nat) (below : List Frame) (args : Array Value) (s : State) : Int × Int × Mm → State → Prop := fun r => vx_MQ below (Qxv D T n base s.heap.size r) (Xxc D T n base s.heap.size r) args s mc ms (FA base n s.heap.size)
theorem Wd.kept {H H1 : Heap} (h : Wd D T n base M H) (hq : ∀ q : Nat, q < H.size → H1[q]? = H[q]?) : Wd D T n base M H1 := ⟨h.1.kept (fun k q hk => hq q.1 (h.1 k q hk).lt), h.2⟩
theorem go_widen {α : Type} {fin : α → State → Prop} {k : Option α} (kc' ks' : Nat) (h1 : kc ≤ kc') (h2 : ks ≤ ks') (kk : Go p l e R s m args below meth c D T n base nL kc' ks' fin M pc L st k) : Go p l e R s m args below meth c D T n base nL kc ks fin M pc L st k := fun r hr H locs ls hW hS hL => W.widen h1 h2 (kk r hr H locs ls hW hS hL)
theorem go_xireturn {okr : Int → Prop} {x : Int} (X : Cx p s m args c cc D nL own) (hrt : meth.sig.returnType = some .int) (hlk : meth.locks = false) (hd : decode cc pc = .ok (.ireturn, 1)) (hok : okr x) (h1 : kc ≤ mc) (h2 : ks ≤ ms) : Go p l e R s m args below meth c D T n base nL kc ks (FinXi D T n base mc ms below args s okr) M pc L [.int (Ii x)] (some (0, x, M)) := by
  refine go_widen mc ms h1 h2 ?_
  intro r hr H locs ls hW hS hL
  obtain ⟨hx, hb, hml, hown, hts, hK, hN⟩ := X
  cases hr
  exact vx_ret (W.iret (v := Ii x) hx hb hrt (fun t ht hWm => ⟨⟨Ii x, (), rfl, ⟨rfl, rfl, hok⟩, (show Wd D T n base M t.heap by rw [ht]; exact hW)⟩, hS.F ht⟩) hS.2.2 hd hlk)
theorem go_xzreturn {okr : Int → Prop} {x : Int} (X : Cx p s m args c cc D nL own) (hrt : meth.sig.returnType = some .boolean) (hlk : meth.locks = false) (hd : decode cc pc = .ok (.ireturn, 1)) (hx9 : bo x) (hok : okr x) (h1 : kc ≤ mc) (h2 : ks ≤ ms) : Go p l e R s m args below meth c D T n base nL kc ks (FinXi D T n base mc ms below args s okr) M pc L [.int (Ii x)] (some (0, x, M)) := by
  refine go_widen mc ms h1 h2 ?_
  intro r hr H locs ls hW hS hL
  obtain ⟨hx, hb, hml, hown, hts, hK, hN⟩ := X
  cases hr
  exact vx_ret (W.zret (v := Ii x) hx hb hrt (Ii_narr hx9) (fun t ht hWm => ⟨⟨Ii x, (), rfl, ⟨rfl, rfl, hok⟩, (show Wd D T n base M t.heap by rw [ht]; exact hW)⟩, hS.F ht⟩) hS.2.2 hd hlk)
theorem go_xvreturn {x : Int} (X : Cx p s m args c cc D nL own) (hrt : meth.sig.returnType = none) (hlk : meth.locks = false) (hd : decode cc pc = .ok (.return_, 1)) (h1 : kc ≤ mc) (h2 : ks ≤ ms) : Go p l e R s m args below meth c D T n base nL kc ks (FinXv D T n base mc ms below args s) M pc L [] (some (0, x, M)) := by
  refine go_widen mc ms h1 h2 ?_
  intro r hr H locs ls hW hS hL
  obtain ⟨hx, hb, hml, hown, hts, hK, hN⟩ := X
  cases hr
  exact vx_ret (W.vret hx hb hrt (fun t ht hWm => ⟨⟨(), rfl, rfl, (show Wd D T n base M t.heap by rw [ht]; exact hW)⟩, hS.F ht⟩) hS.2.2 hd hlk)
/-- the words of one throw -/
def xD (q : Int) (ik ic : Nat) : Prop := Cond.classLink RX11 ik (exn q) ∈ LW ∧ Cond.initialized (exn q) ∈ LW ∧ Bundle.fit (exn q) = true ∧ ((vx_atS RX11 ic (exn q) xNm).filter goodWord ⊆ LX) ∧ ((vx_atS RX11 ic (exn q) xNm).filter (fun w => !goodWord w) ⊆ XB) ∧ (∀ w ∈ Cond.classLink RX11 ik (exn q) :: Cond.initialized (exn q) :: vx_atS RX11 ic (exn q) xNm, vx_ot w = true) ∧ (q = 1 ∨ q = 2 ∨ q = 3)
theorem xNm_fit : ∀ n ∈ xNm, Bundle.fit n = true := by decide +kernel
theorem Xxc_thrown {q : Int} {H : Heap} {locs : List Loc} {t : State} (hq : q = 1 ∨ q = 2 ∨ q = 3) (hW : Wd D T n base M H) (hS : va_S (FA base n s.heap.size) s.heap H locs) (h1 : H.size ≤ t.heap.size) (h2 : ∀ a : Nat, a < H.size → t.heap[a]? = H[a]?) : Xxc D T n base s.heap.size (q, 0, M) (exn q) s t :=
  ⟨(), hq, ⟨rfl, hW.kept h2⟩, Nat.le_trans hS.1 h1, fun a ha hA => by rw [h2 a (Nat.lt_of_lt_of_le ha hS.1)]; exact hS.2.1 a ha hA⟩
theorem KX_narrow (hb : b0 ≤ base) (hs : base ≤ s.heap.size) {C d nm : String} (h : vx_Zq C nm d (fun q => b0 ≤ q) s s.heap) : vx_Zq C nm d (FA base n s.heap.size) s s.heap := h.narrow (fun q hq => by rcases hq with h | h <;> omega)
theorem go_throwI {okr : Int → Prop} {q : Int} {ik is ic : Nat} {tx : String} (X : Cx p s m args c cc D nL RX11) (Z : Xx l s args meth c b0) (hb0 : b0 ≤ base ∧ base ≤ s.heap.size) (xd : xD q ik ic) (hstr : (is, tx) ∈ STR)
    (d0 : decode cc pc = .ok (.new ik, 3)) (d3 : decode cc (pc + 3) = .ok (.dup, 1)) (d4 : decode cc (pc + 4) = .ok (.ldc is, 2)) (d6 : decode cc (pc + 6) = .ok (.invokespecial ic, 3)) (d9 : decode cc (pc + 9) = .ok (.athrow, 1))
    (hR : 5 < R.frames ∧ 82 ≤ R.locals ∧ kc + 1 ≤ R.cells ∧ ks + 6 ≤ R.slots) (h1 : kc + 1 ≤ mc) (h2 : ks + 6 ≤ ms) : Go p l e R s m args below meth c D T n base nL kc ks (FinXi D T n base mc ms below args s okr) M pc L [] (some (q, 0, M)) := by
  intro r hr H locs ls hW hS hL
  obtain ⟨hx, hb, hml, hown, hts, hK, hN⟩ := X
  obtain ⟨hLX, ⟨k1, k2, k3, k4, -⟩, hl, hlk, hno⟩ := Z
  obtain ⟨x1, x2, x3, x4, x5, x6, x7⟩ := xd
  obtain ⟨sa, hsa⟩ := k2 _ hstr
  cases hr
  exact vx_throwS (A := FA base n s.heap.size) hx hb hl hown x3 xNm_fit (hts _ x1) (hts _ x2) hsa (vx_hat (B := XB) (fun w hw => hLX w (x4 hw)) (fun w hw => x5 hw) (fun w hw => va_Nw.use (isCD_tab (XB_cd w hw)) (k1 w hw))) x6 (KX_narrow hb0.1 hb0.2 k3) (KX_narrow hb0.1 hb0.2 k4) hS (hL.1.trans hml.symm) d0 d3 d4 d6 d9 (fun z hz => (hno z hz).elim) hR.1 (by show 0 + 82 ≤ R.locals; rw [Nat.zero_add]; exact hR.2.1) hR.2.2.1 hR.2.2.2 hlk (fun t _ ht1 ht2 => Xxc_thrown x7 hW hS ht1 ht2) hS.2.2 h1 h2
theorem go_throwV {q : Int} {ik is ic : Nat} {tx : String} (X : Cx p s m args c cc D nL RX11) (Z : Xx l s args meth c b0) (hb0 : b0 ≤ base ∧ base ≤ s.heap.size) (xd : xD q ik ic) (hstr : (is, tx) ∈ STR)
    (d0 : decode cc pc = .ok (.new ik, 3)) (d3 : decode cc (pc + 3) = .ok (.dup, 1)) (d4 : decode cc (pc + 4) = .ok (.ldc is, 2)) (d6 : decode cc (pc + 6) = .ok (.invokespecial ic, 3)) (d9 : decode cc (pc + 9) = .ok (.athrow, 1))
    (hR : 5 < R.frames ∧ 82 ≤ R.locals ∧ kc + 1 ≤ R.cells ∧ ks + 6 ≤ R.slots) (h1 : kc + 1 ≤ mc) (h2 : ks + 6 ≤ ms) : Go p l e R s m args below meth c D T n base nL kc ks (FinXv D T n base mc ms below args s) M pc L [] (some (q, 0, M)) := by
  intro r hr H locs ls hW hS hL
  obtain ⟨hx, hb, hml, hown, hts, hK, hN⟩ := X
  obtain ⟨hLX, ⟨k1, k2, k3, k4, -⟩, hl, hlk, hno⟩ := Z
  obtain ⟨x1, x2, x3, x4, x5, x6, x7⟩ := xd
  obtain ⟨sa, hsa⟩ := k2 _ hstr
  cases hr
  exact vx_throwS (A := FA base n s.heap.size) hx hb hl hown x3 xNm_fit (hts _ x1) (hts _ x2) hsa (vx_hat (B := XB) (fun w hw => hLX w (x4 hw)) (fun w hw => x5 hw) (fun w hw => va_Nw.use (isCD_tab (XB_cd w hw)) (k1 w hw))) x6 (KX_narrow hb0.1 hb0.2 k3) (KX_narrow hb0.1 hb0.2 k4) hS (hL.1.trans hml.symm) d0 d3 d4 d6 d9 (fun z hz => (hno z hz).elim) hR.1 (by show 0 + 82 ≤ R.locals; rw [Nat.zero_add]; exact hR.2.1) hR.2.2.1 hR.2.2.2 hlk (fun t _ ht1 ht2 => Xxc_thrown x7 hW hS ht1 ht2) hS.2.2 h1 h2
theorem go_throwWI {okr : Int → Prop} {q : Int} {ik is ic : Nat} {tx : String} (X : Cx p s m args c cc D nL RX11) (Z : Xx l s args meth c b0) (hb0 : b0 ≤ base ∧ base ≤ s.heap.size) (xd : xD q ik ic) (hstr : (is, tx) ∈ STR)
    (d0 : decode cc pc = .ok (.new ik, 3)) (d3 : decode cc (pc + 3) = .ok (.dup, 1)) (d4 : decode cc (pc + 4) = .ok (.ldc_w is, 3)) (d6 : decode cc (pc + 7) = .ok (.invokespecial ic, 3)) (d9 : decode cc (pc + 10) = .ok (.athrow, 1))
    (hR : 5 < R.frames ∧ 82 ≤ R.locals ∧ kc + 1 ≤ R.cells ∧ ks + 6 ≤ R.slots) (h1 : kc + 1 ≤ mc) (h2 : ks + 6 ≤ ms) : Go p l e R s m args below meth c D T n base nL kc ks (FinXi D T n base mc ms below args s okr) M pc L [] (some (q, 0, M)) := by
  intro r hr H locs ls hW hS hL
  obtain ⟨hx, hb, hml, hown, hts, hK, hN⟩ := X
  obtain ⟨hLX, ⟨k1, k2, k3, k4, -⟩, hl, hlk, hno⟩ := Z
  obtain ⟨x1, x2, x3, x4, x5, x6, x7⟩ := xd
  obtain ⟨sa, hsa⟩ := k2 _ hstr
  cases hr
  exact vx_throwSW (A := FA base n s.heap.size) hx hb hl hown x3 xNm_fit (hts _ x1) (hts _ x2) hsa (vx_hat (B := XB) (fun w hw => hLX w (x4 hw)) (fun w hw => x5 hw) (fun w hw => va_Nw.use (isCD_tab (XB_cd w hw)) (k1 w hw))) x6 (KX_narrow hb0.1 hb0.2 k3) (KX_narrow hb0.1 hb0.2 k4) hS (hL.1.trans hml.symm) d0 d3 d4 d6 d9 (fun z hz => (hno z hz).elim) hR.1 (by show 0 + 82 ≤ R.locals; rw [Nat.zero_add]; exact hR.2.1) hR.2.2.1 hR.2.2.2 hlk (fun t _ ht1 ht2 => Xxc_thrown x7 hW hS ht1 ht2) hS.2.2 h1 h2
theorem go_throwWV {q : Int} {ik is ic : Nat} {tx : String} (X : Cx p s m args c cc D nL RX11) (Z : Xx l s args meth c b0) (hb0 : b0 ≤ base ∧ base ≤ s.heap.size) (xd : xD q ik ic) (hstr : (is, tx) ∈ STR)
    (d0 : decode cc pc = .ok (.new ik, 3)) (d3 : decode cc (pc + 3) = .ok (.dup, 1)) (d4 : decode cc (pc + 4) = .ok (.ldc_w is, 3)) (d6 : decode cc (pc + 7) = .ok (.invokespecial ic, 3)) (d9 : decode cc (pc + 10) = .ok (.athrow, 1))
    (hR : 5 < R.frames ∧ 82 ≤ R.locals ∧ kc + 1 ≤ R.cells ∧ ks + 6 ≤ R.slots) (h1 : kc + 1 ≤ mc) (h2 : ks + 6 ≤ ms) : Go p l e R s m args below meth c D T n base nL kc ks (FinXv D T n base mc ms below args s) M pc L [] (some (q, 0, M)) := by
  intro r hr H locs ls hW hS hL
  obtain ⟨hx, hb, hml, hown, hts, hK, hN⟩ := X
  obtain ⟨hLX, ⟨k1, k2, k3, k4, -⟩, hl, hlk, hno⟩ := Z
  obtain ⟨x1, x2, x3, x4, x5, x6, x7⟩ := xd
  obtain ⟨sa, hsa⟩ := k2 _ hstr
  cases hr
  exact vx_throwSW (A := FA base n s.heap.size) hx hb hl hown x3 xNm_fit (hts _ x1) (hts _ x2) hsa (vx_hat (B := XB) (fun w hw => hLX w (x4 hw)) (fun w hw => x5 hw) (fun w hw => va_Nw.use (isCD_tab (XB_cd w hw)) (k1 w hw))) x6 (KX_narrow hb0.1 hb0.2 k3) (KX_narrow hb0.1 hb0.2 k4) hS (hL.1.trans hml.symm) d0 d3 d4 d6 d9 (fun z hz => (hno z hz).elim) hR.1 (by show 0 + 82 ≤ R.locals; rw [Nat.zero_add]; exact hR.2.1) hR.2.2.1 hR.2.2.2 hlk (fun t _ ht1 ht2 => Xxc_thrown x7 hW hS ht1 ht2) hS.2.2 h1 h2
end THR
theorem xd1 : xD 1 91 95 := ⟨lw692, lw693, by decide +kernel, List.subset_append_left _ _, List.subset_append_left _ _, by decide +kernel, Or.inl rfl⟩
theorem xd2 : xD 2 102 106 := ⟨lw694, lw695, by decide +kernel, fun w h => List.mem_append_right _ (List.mem_append_left _ h), fun w h => List.mem_append_right _ (List.mem_append_left _ h), by decide +kernel, Or.inr (Or.inl rfl)⟩
theorem xd3 : xD 3 111 115 := ⟨lw696, lw697, by decide +kernel, fun w h => List.mem_append_right _ (List.mem_append_right _ h), fun w h => List.mem_append_right _ (List.mem_append_right _ h), by decide +kernel, Or.inr (Or.inr rfl)⟩
section THC
variable {p : Program} {l : Launch} {e : Env} {R : Room} {s : State} {m : MethodId} {args : Array Value} {below : List Frame} {meth : Method} {c : Code} {cc : ByteArray} {D : Dd} {T : Nat → Ck} {n base b0 nL kc ks mc ms : Nat} {own : String} {M : Mm} {pc : Nat} {L : List (Nat × Value)} {st : List Value}
theorem good_callX {x : Cond} {pre : List Cond} (hpre : ∀ w ∈ pre, w ∈ LW) (hx : x ∈ LW) : GoodIn LWX (pre ++ (x :: LWX)) := by
  intro w hw
  have hm : w ∈ LWX := by
    rcases List.mem_append.mp hw with h | h
    · exact List.mem_append_left _ (hpre w h)
    · rcases List.mem_cons.mp h with h | h
      · rw [h]; exact List.mem_append_left _ hx
      · exact h
  exact ⟨hm, good_of_word (LWX_good w hm)⟩
theorem htsX (h1 : ∀ w ∈ LW, w.before args s = true) (h2 : ∀ w ∈ LX, w.before args s = true) : ∀ w ∈ LWX, w.before args s = true := fun w h => (List.mem_append.mp h).elim (h1 w) (h2 w)
/-- a call, on the machine, of a method that throws: it returns, or the throw goes on -/
theorem go_xcall {fin : Int × Int × Mm → State → Prop} {y : MethodName} {cy : ByteArray} {mL : Nat} {ret : Option FieldType} {fr lo np index h ci mc2 ms2 : Nat} {sl : List (Nat × Nat)} {As rest : List Value} {q9 : vw_C} {C : String} {o : Rx} {q : Int → Mm → Rx} {okr : Int → Prop}
    (hfin : fin = FinXi D T n base mc ms below args s okr ∨ fin = FinXv D T n base mc ms below args s)
    (X : Cx p s m args c cc D nL own) (Z : Xx l s args meth c b0) (hb0 : b0 ≤ base) (hM : OkXv l D T n base b0 y cy mL ret fr lo mc2 ms2 (.ref (base + h) :: As) M o) (hd : decode cc pc = .ok (.invokevirtual index, 3)) (w1 : Cond.methodLink own index y ∈ LW) (w2 : Cond.instanceMethod y ∈ LW) (w3 : Cond.selects C y y ∈ LW) (w4 : Cond.initialized C ∈ LW) (w5 : Cw R y cy mL ret fr lo np) (hC : y.cls = C)
    (hk : h < n) (hT : T h = (0, ci, sl)) (hc : vwCl[ci]? = some q9) (hq : q9.1 = C) (hn : As.length = np) (hst : st = As.reverse ++ .ref (base + h) :: rest) (hrs : (rest.map fun v => v.category).sum ≤ 8) (hkc : kc + mc2 ≤ R.cells ∧ ks + ms2 ≤ R.slots) (hmc : kc + mc2 ≤ mc ∧ ks + ms2 ≤ ms)
    (kk : ∀ x M, Go p l e R s m args below meth c D T n base nL (kc + mc2) (ks + ms2) fin M (pc + 3) L rest (q x M)) : Go p l e R s m args below meth c D T n base nL kc ks fin M pc L st (Clx o q) := by
  intro r hr H locs ls hW hS hL
  obtain ⟨hx, hb, hml, hown, hts, hK, hN⟩ := X
  obtain ⟨hLX, hKX, hl, hlk, hno⟩ := Z
  obtain ⟨hco, ⟨hy1, hy2, hy3⟩, hR⟩ := w5
  subst hst
  cases o with
  | none => exact absurd hr (by simp [Clx])
  | some z =>
    have hrun := vx_runV (g := F0 m pc ls (As.reverse ++ .ref (base + h) :: rest)) (nL := nL) (locs := locs) (p := p) (e := e) (R := R) (below := below) (meth := meth) (c := c) (cells := kc) (slots := ks) (H := H) ⟨hx, hb, hml, hown, htsX hts hLX⟩ (hM H.size z rfl) (cwV np (htsX hts hLX) (good_callX (pre := [.methodLink own index y, .instanceMethod y, .selects C y y, .initialized C]) (fun w hw => ?_) hco) rfl rfl rfl ⟨hC, hy1, hy2, hy3⟩ hR) ⟨PcX_blind, ?_, fun U hU hWm => ⟨rfl, by rw [hU], by rw [hU]; exact hW, va_K.moved hWm.alike hK, fun z hz => va_Nw.warmM hWm (hN z hz), ?_⟩⟩ rfl hn hL.1 rfl (by show 2 * 0 + (rest.map fun v => v.category).sum ≤ 8; omega) hd hkc
    · refine vx_callv hrun hS (FA_le hS.1) (FA_le2 hS.1) (FA_le hS.1) (fun E ce q8 u t H1 locs1 ht hvm hp hB hz hk hS1 hce hcv hcl => ?_) (fun u t H1 locs1 ht hvm hp hB hz hk hS1 => ?_)
      · rw [ht] at hB
        have hz0 : ¬ z.1 = 0 := by rcases hp with h | h | h <;> rw [h] <;> decide
        unfold Clx at hr
        dsimp only at hr
        rw [if_neg hz0] at hr
        cases hr
        rcases hfin with rfl | rfl
        · exact vx_out (fun x hx => (hno x hx).elim) hlk hce hcv hcl (fun t2 ht2 _ => ⟨(), hp, ⟨hB.1, by rw [ht2]; exact hB.2⟩, by rw [ht2]; exact hS1.1, fun a ha hA => by rw [ht2]; exact hS1.2.1 a ha hA⟩) hS1.2.2 hmc.1 hmc.2
        · exact vx_out (fun x hx => (hno x hx).elim) hlk hce hcv hcl (fun t2 ht2 _ => ⟨(), hp, ⟨hB.1, by rw [ht2]; exact hB.2⟩, by rw [ht2]; exact hS1.1, fun a ha hA => by rw [ht2]; exact hS1.2.1 a ha hA⟩) hS1.2.2 hmc.1 hmc.2
      · rw [ht] at hB
        unfold Clx at hr
        dsimp only at hr
        rw [if_pos hp] at hr
        exact kk _ _ r hr H1 locs1 ls hB hS1 hL
    · simp only [List.mem_cons, List.not_mem_nil, or_false] at hw
      rcases hw with rfl | rfl | rfl | rfl
      · exact w1
      · exact w2
      · exact w3
      · exact w4
    · have he := Ws_get D T base M hk
      rw [show ent D base (T h) (M h) = .inr (ci, sts base sl (M h)) by rw [hT]; rfl] at he
      have := va_recv hK hW.1 hc he
      rw [hq] at this
      exact this
    · rw [hU]
      refine hKX.warm hWm (fun a ha hA => hS.2.1 a ha (fun hf => ?_))
      rcases hf with h1 | h1
      · exact hA (Nat.le_trans hb0 h1.1)
      · exact absurd ha (Nat.not_lt.mpr h1)
theorem metXi {y : MethodName} {cy : ByteArray} {mL : Nat} {ret : Option FieldType} {fr lo : Nat} {av : List Value} {okr : Int → Prop} {o : Rx} (hl : l.stackTraces = false) (hy : plainName y.cls = true) (L0 : List (Nat × Value)) (hL0 : lv_args 0 av = L0) (hle : (lg_sl av).length ≤ mL)
    (body : ∀ (p : Program) (e : Env) (s : State) (m : MethodId) (args : Array Value) (below : List Frame) (meth : Method) (c : Code), Cx p s m args c cy D mL y.cls → Xx l s args meth c b0 → base ≤ s.heap.size → meth.sig.returnType = ret → meth.locks = false → Go p l e (rmX fr lo mc ms) s m args below meth c D T n base mL 0 0 (FinXi D T n base mc ms below args s okr) M 0 L0 [] o) (hn : 0 < n) : OkXi l D T n base b0 y cy mL ret fr lo mc ms av M okr o := by
  intro sz r ho
  refine vx_ofW (cc := cy) (maxL := mL) (ret := ret) hy rfl ?_
  intro p e s m args below meth c s₁ B hml hno hv
  obtain ⟨rfl, rfl, hW, hK, hN, hKX⟩ := hv
  have hts := atoms_spec (ws := .code y cy mL ret :: LWX) B.pre
  have hl9 := lv_entry av (n := mL) hle
  rw [lg_entry_eq]
  rw [hL0] at hl9
  have hbs : base ≤ s.heap.size := Nat.le_trans (Nat.le_add_right base 0) (Nat.le_of_lt (hW.1 0 _ (Ws_get D T base M hn)).lt)
  exact body p e s m av.toArray below meth c ⟨B.exec, B.bytes, hml, findClass_of_methodNamed B.named, fun w hw => hts w (List.mem_cons_of_mem _ (List.mem_append_left _ hw)), hK, hN⟩ ⟨fun w hw => hts w (List.mem_cons_of_mem _ (List.mem_append_right _ hw)), hKX, hl, B.notSynchronized, hno⟩ hbs B.returns B.notSynchronized r ho s.heap [] _ hW va_S.rf hl9
theorem metXv {y : MethodName} {cy : ByteArray} {mL : Nat} {ret : Option FieldType} {fr lo : Nat} {av : List Value} {o : Rx} (hl : l.stackTraces = false) (hy : plainName y.cls = true) (L0 : List (Nat × Value)) (hL0 : lv_args 0 av = L0) (hle : (lg_sl av).length ≤ mL)
    (body : ∀ (p : Program) (e : Env) (s : State) (m : MethodId) (args : Array Value) (below : List Frame) (meth : Method) (c : Code), Cx p s m args c cy D mL y.cls → Xx l s args meth c b0 → base ≤ s.heap.size → meth.sig.returnType = ret → meth.locks = false → Go p l e (rmX fr lo mc ms) s m args below meth c D T n base mL 0 0 (FinXv D T n base mc ms below args s) M 0 L0 [] o) (hn : 0 < n) : OkXv l D T n base b0 y cy mL ret fr lo mc ms av M o := by
  intro sz r ho
  refine vx_ofW (cc := cy) (maxL := mL) (ret := ret) hy rfl ?_
  intro p e s m args below meth c s₁ B hml hno hv
  obtain ⟨rfl, rfl, hW, hK, hN, hKX⟩ := hv
  have hts := atoms_spec (ws := .code y cy mL ret :: LWX) B.pre
  have hl9 := lv_entry av (n := mL) hle
  rw [lg_entry_eq]
  rw [hL0] at hl9
  have hbs : base ≤ s.heap.size := Nat.le_trans (Nat.le_add_right base 0) (Nat.le_of_lt (hW.1 0 _ (Ws_get D T base M hn)).lt)
  exact body p e s m av.toArray below meth c ⟨B.exec, B.bytes, hml, findClass_of_methodNamed B.named, fun w hw => hts w (List.mem_cons_of_mem _ (List.mem_append_left _ hw)), hK, hN⟩ ⟨fun w hw => hts w (List.mem_cons_of_mem _ (List.mem_append_right _ hw)), hKX, hl, B.notSynchronized, hno⟩ hbs B.returns B.notSynchronized r ho s.heap [] _ hW va_S.rf hl9
end THC
