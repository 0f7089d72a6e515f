section LAW
variable {p : Program} {l : Launch} {e : Env} {s : State} {m : MethodId} {below : List Frame} {meth : Method} {c : Code} {D : Dd} {kc ks b N : Nat} {xs : Nat → Int32} {Q : State → Prop} {MC MR : Mm} {fo : Nat → Int64} {pc : Nat} {L : List (Nat × Value)} {st : List Value}
def Gl (p : Program) (l : Launch) (e : Env) (s : State) (m : MethodId) (b : Nat) (below : List Frame) (meth : Method) (c : Code) (D : Dd) (kc ks : Nat) (Q : State → Prop) (MC MR : Mm) (fo : Nat → Int64) (pc : Nat) (L : List (Nat × Value)) (st : List Value) : Prop :=
  ∀ (H : Heap) (locs : List Loc) (ls : Array Slot), Wd D TC 681 s.heap.size MC H → Wd D TR 67 (s.heap.size + 681) MR H → OutAt D (s.heap.size + 748) fo H → va_S (FB s.heap.size) s.heap H locs → lv_has ls 7 L → W p l e room_1 s m #[Value.ref b] below meth c H locs kc ks Q (F0 m pc ls st)
def Ll_ (p : Program) (s : State) (m : MethodId) (c : Code) (D : Dd) (b N : Nat) (xs : Nat → Int32) : Prop := p.tables.exec = Jvm.exec ∧ c.code = code ∧ c.maxLocals = 7 ∧ s.vm.findClass RL = some m.cls ∧ (∀ w ∈ LWL, w.before #[Value.ref b] s = true) ∧ va_K D.1 vwCl (tys D) s ∧ Nw_ s ∧ KX s.heap.size s s.heap ∧ va_X b N xs s s.heap ∧ b < s.heap.size
theorem gl_iload_n {kf : Fin 4} {i : Nat} {v : Int32} (X : Ll_ p s m c D b N xs) (hd : decode code pc = .ok (.iload_n kf, 1)) (hi : (kf : Nat) = i) (j : Nat) (hl : L[j]? = some (i, .int v)) (kk : Gl p l e s m b below meth c D kc ks Q MC MR fo (pc + 1) L (.int v :: st)) : Gl p l e s m b below meth c D kc ks Q MC MR fo pc L st := by
  intro H locs ls hW hR hO hS hL
  obtain ⟨hx, hb, hml, hown, hts, hK, hN, hKX, hX, hbl⟩ := X
  exact lv_iload_n hx hb hd hi (lv_at hL j hl) (kk H locs ls hW hR hO hS hL)
theorem gl_iload {i : Nat} {v : Int32} (X : Ll_ p s m c D b N xs) (hd : decode code pc = .ok (.iload i, 2)) (j : Nat) (hl : L[j]? = some (i, .int v)) (kk : Gl p l e s m b below meth c D kc ks Q MC MR fo (pc + 2) L (.int v :: st)) : Gl p l e s m b below meth c D kc ks Q MC MR fo pc L st := by
  intro H locs ls hW hR hO hS hL
  obtain ⟨hx, hb, hml, hown, hts, hK, hN, hKX, hX, hbl⟩ := X
  exact lv_iload hx hb hd (lv_at hL j hl) (kk H locs ls hW hR hO hS hL)
theorem gl_aload_n {kf : Fin 4} {i : Nat} {v : Nat} (X : Ll_ p s m c D b N xs) (hd : decode code pc = .ok (.aload_n kf, 1)) (hi : (kf : Nat) = i) (j : Nat) (hl : L[j]? = some (i, .ref v)) (kk : Gl p l e s m b below meth c D kc ks Q MC MR fo (pc + 1) L (.ref v :: st)) : Gl p l e s m b below meth c D kc ks Q MC MR fo pc L st := by
  intro H locs ls hW hR hO hS hL
  obtain ⟨hx, hb, hml, hown, hts, hK, hN, hKX, hX, hbl⟩ := X
  exact lv_aload_n hx hb hd hi (lv_at hL j hl) (kk H locs ls hW hR hO hS hL)
theorem gl_aload {i : Nat} {v : Nat} (X : Ll_ p s m c D b N xs) (hd : decode code pc = .ok (.aload i, 2)) (j : Nat) (hl : L[j]? = some (i, .ref v)) (kk : Gl p l e s m b below meth c D kc ks Q MC MR fo (pc + 2) L (.ref v :: st)) : Gl p l e s m b below meth c D kc ks Q MC MR fo pc L st := by
  intro H locs ls hW hR hO hS hL
  obtain ⟨hx, hb, hml, hown, hts, hK, hN, hKX, hX, hbl⟩ := X
  exact lv_aload hx hb hd (lv_at hL j hl) (kk H locs ls hW hR hO hS hL)
theorem gl_istore {i : Nat} {v : Int32} {L' : List (Nat × Value)} (X : Ll_ p s m c D b N xs) (hd : decode code pc = .ok (.istore i, 2)) (hn : i < 7) (hl : (i, Value.int v) :: L.filter (fun q => !(q.1 == i) && !(q.1 + 1 == i && q.2.category == 2)) = L') (kk : Gl p l e s m b below meth c D kc ks Q MC MR fo (pc + 2) L' st) : Gl p l e s m b below meth c D kc ks Q MC MR fo pc L (.int v :: st) := by
  intro H locs ls hW hR hO hS hL
  obtain ⟨hx, hb, hml, hown, hts, hK, hN, hKX, hX, hbl⟩ := X
  exact lv_istore hx hb hd hL hn hl (fun ls hl => kk H locs ls hW hR hO hS hl)
theorem gl_sub {L' : List (Nat × Value)} (pk : List Nat) (hl : lv_pick L pk = L') (kk : Gl p l e s m b below meth c D kc ks Q MC MR fo pc L' st) : Gl p l e s m b below meth c D kc ks Q MC MR fo pc L st := fun H locs ls hW hR hO hS hL => kk H locs ls hW hR hO hS (lv_sub hL pk hl)
theorem gl_widen (kc' ks' : Nat) (h1 : kc ≤ kc') (h2 : ks ≤ ks') (kk : Gl p l e s m b below meth c D kc' ks' Q MC MR fo pc L st) : Gl p l e s m b below meth c D kc ks Q MC MR fo pc L st := fun H locs ls hW hR hO hS hL => W.widen h1 h2 (kk H locs ls hW hR hO hS hL)
theorem gl_iconst {q v : Int} (X : Ll_ p s m c D b N xs) (hd : decode code pc = .ok (.iconst q, 1)) (hv : Int32.ofInt q = Ii v) (kk : Gl p l e s m b below meth c D kc ks Q MC MR fo (pc + 1) L (.int (Ii v) :: st)) : Gl p l e s m b below meth c D kc ks Q MC MR fo pc L st := by
  intro H locs ls hW hR hO hS hL
  obtain ⟨hx, hb, hml, hown, hts, hK, hN, hKX, hX, hbl⟩ := X
  exact lv_iconst hx hb hd hv (kk H locs ls hW hR hO hS hL)
theorem gl_bipush {q v : Int} (X : Ll_ p s m c D b N xs) (hd : decode code pc = .ok (.bipush q, 2)) (hv : (Int8.ofInt q).toInt32 = Ii v) (kk : Gl p l e s m b below meth c D kc ks Q MC MR fo (pc + 2) L (.int (Ii v) :: st)) : Gl p l e s m b below meth c D kc ks Q MC MR fo pc L st := by
  intro H locs ls hW hR hO hS hL
  obtain ⟨hx, hb, hml, hown, hts, hK, hN, hKX, hX, hbl⟩ := X
  exact lv_bipush hx hb hd hv (kk H locs ls hW hR hO hS hL)
theorem gl_lconst {q : Fin 2} {v : Int} (X : Ll_ p s m c D b N xs) (hd : decode code pc = .ok (.lconst q, 1)) (hv : Int64.ofNat (q : Nat) = Ll v) (kk : Gl p l e s m b below meth c D kc ks Q MC MR fo (pc + 1) L (.long (Ll v) :: st)) : Gl p l e s m b below meth c D kc ks Q MC MR fo pc L st := by
  intro H locs ls hW hR hO hS hL
  obtain ⟨hx, hb, hml, hown, hts, hK, hN, hKX, hX, hbl⟩ := X
  exact lv_lconst hx hb hd hv (kk H locs ls hW hR hO hS hL)
theorem gl_iadd {u v : Int} (X : Ll_ p s m c D b N xs) (hd : decode code pc = .ok (.iadd, 1)) (hu : i32 u) (hv : i32 v) (hs : i32 (u + v)) (kk : Gl p l e s m b below meth c D kc ks Q MC MR fo (pc + 1) L (.int (Ii (u + v)) :: st)) : Gl p l e s m b below meth c D kc ks Q MC MR fo pc L (.int (Ii v) :: .int (Ii u) :: st) := by
  intro H locs ls hW hR hO hS hL
  obtain ⟨hx, hb, hml, hown, hts, hK, hN, hKX, hX, hbl⟩ := X
  refine lv_iadd hx hb hd ?_
  rw [Ii_add hu hv, wr_eq hs]
  exact (kk H locs ls hW hR hO hS hL)
theorem gl_isub {u v : Int} (X : Ll_ p s m c D b N xs) (hd : decode code pc = .ok (.isub, 1)) (hu : i32 u) (hv : i32 v) (hs : i32 (u - v)) (kk : Gl p l e s m b below meth c D kc ks Q MC MR fo (pc + 1) L (.int (Ii (u - v)) :: st)) : Gl p l e s m b below meth c D kc ks Q MC MR fo pc L (.int (Ii v) :: .int (Ii u) :: st) := by
  intro H locs ls hW hR hO hS hL
  obtain ⟨hx, hb, hml, hown, hts, hK, hN, hKX, hX, hbl⟩ := X
  refine lv_isub hx hb hd ?_
  rw [Ii_sub hu hv, wr_eq hs]
  exact (kk H locs ls hW hR hO hS hL)
theorem gl_iand {u v : Int} (X : Ll_ p s m c D b N xs) (hd : decode code pc = .ok (.iand, 1)) (kk : Gl p l e s m b below meth c D kc ks Q MC MR fo (pc + 1) L (.int (Ii (jand u v)) :: st)) : Gl p l e s m b below meth c D kc ks Q MC MR fo pc L (.int (Ii v) :: .int (Ii u) :: st) := by
  intro H locs ls hW hR hO hS hL
  obtain ⟨hx, hb, hml, hown, hts, hK, hN, hKX, hX, hbl⟩ := X
  refine lv_iand hx hb hd ?_
  rw [Ii_eq (x := Ii u &&& Ii v) rfl]
  exact (kk H locs ls hW hR hO hS hL)
theorem gl_i2l {a : Int} (X : Ll_ p s m c D b N xs) (hd : decode code pc = .ok (.i2l, 1)) (ha : i32 a) (kk : Gl p l e s m b below meth c D kc ks Q MC MR fo (pc + 1) L (.long (Ll a) :: st)) : Gl p l e s m b below meth c D kc ks Q MC MR fo pc L (.int (Ii a) :: st) := by
  intro H locs ls hW hR hO hS hL
  obtain ⟨hx, hb, hml, hown, hts, hK, hN, hKX, hX, hbl⟩ := X
  exact lv_i2l hx hb hd (Ii_long ha) (kk H locs ls hW hR hO hS hL)
theorem gl_lcmp {u v : Int} (X : Ll_ p s m c D b N xs) (hd : decode code pc = .ok (.lcmp, 1)) (hu : i64 u) (hv : i64 v) (kk : Gl p l e s m b below meth c D kc ks Q MC MR fo (pc + 1) L (.int (Ii (lcmp_ u v)) :: st)) : Gl p l e s m b below meth c D kc ks Q MC MR fo pc L (.long (Ll v) :: .long (Ll u) :: st) := by
  intro H locs ls hW hR hO hS hL
  obtain ⟨hx, hb, hml, hown, hts, hK, hN, hKX, hX, hbl⟩ := X
  refine W.lcmp hx hb hd ?_
  rw [Ii_lcmp hu hv]
  exact (kk H locs ls hW hR hO hS hL)
theorem gl_goto {off : Int} {tgt : Nat} (X : Ll_ p s m c D b N xs) (hd : decode code pc = .ok (.goto off, 3)) (ht : (pc : Int) + off = (tgt : Int)) (kk : Gl p l e s m b below meth c D kc ks Q MC MR fo tgt L st) : Gl p l e s m b below meth c D kc ks Q MC MR fo pc L st := by
  intro H locs ls hW hR hO hS hL
  obtain ⟨hx, hb, hml, hown, hts, hK, hN, hKX, hX, hbl⟩ := X
  exact lv_goto hx hb hd ht (kk H locs ls hW hR hO hS hL)
theorem gl_icmp_gt {u v off : Int} {tgt : Nat} (X : Ll_ p s m c D b N xs) (hd : decode code pc = .ok (.if_icmp .gt off, 3)) (ht : (pc : Int) + off = (tgt : Int)) (hu : i32 u) (hv : i32 v) (k1 : v < u → Gl p l e s m b below meth c D kc ks Q MC MR fo tgt L st) (k2 : ¬ v < u → Gl p l e s m b below meth c D kc ks Q MC MR fo (pc + 3) L st) : Gl p l e s m b below meth c D kc ks Q MC MR fo pc L (.int (Ii v) :: .int (Ii u) :: st) := by
  intro H locs ls hW hR hO hS hL
  obtain ⟨hx, hb, hml, hown, hts, hK, hN, hKX, hX, hbl⟩ := X
  exact lv_icmp_gt hx hb hd ht (fun z => k1 ((Ii_lt hv hu).mp z) H locs ls hW hR hO hS hL) (fun z => k2 ((not_congr (Ii_lt hv hu)).mp z) H locs ls hW hR hO hS hL)
theorem gl_icmp_eqT {u v off : Int} {tgt : Nat} (X : Ll_ p s m c D b N xs) (hd : decode code pc = .ok (.if_icmp .eq off, 3)) (ht : (pc : Int) + off = (tgt : Int)) (huv : u = v) (kk : Gl p l e s m b below meth c D kc ks Q MC MR fo tgt L st) : Gl p l e s m b below meth c D kc ks Q MC MR fo pc L (.int (Ii v) :: .int (Ii u) :: st) := by
  intro H locs ls hW hR hO hS hL
  obtain ⟨hx, hb, hml, hown, hts, hK, hN, hKX, hX, hbl⟩ := X
  subst huv
  exact lv_icmp_eq hx hb hd ht (fun z => kk H locs ls hW hR hO hS hL) (fun z => absurd rfl z)
theorem gl_if_ne {u off : Int} {tgt : Nat} (X : Ll_ p s m c D b N xs) (hd : decode code pc = .ok (.ifCond .ne off, 3)) (ht : (pc : Int) + off = (tgt : Int)) (hu : i32 u) (k1 : ¬ u = 0 → Gl p l e s m b below meth c D kc ks Q MC MR fo tgt L st) (k2 : u = 0 → Gl p l e s m b below meth c D kc ks Q MC MR fo (pc + 3) L st) : Gl p l e s m b below meth c D kc ks Q MC MR fo pc L (.int (Ii u) :: st) := by
  intro H locs ls hW hR hO hS hL
  obtain ⟨hx, hb, hml, hown, hts, hK, hN, hKX, hX, hbl⟩ := X
  have h00 : i32 0 := by decide
  exact lv_if_ne hx hb hd ht (fun z => k1 ((not_congr (Ii_inj hu h00)).mp z) H locs ls hW hR hO hS hL) (fun z => k2 ((Ii_inj hu h00).mp z) H locs ls hW hR hO hS hL)
theorem gl_if_eq {u off : Int} {tgt : Nat} (X : Ll_ p s m c D b N xs) (hd : decode code pc = .ok (.ifCond .eq off, 3)) (ht : (pc : Int) + off = (tgt : Int)) (hu : i32 u) (k1 : u = 0 → Gl p l e s m b below meth c D kc ks Q MC MR fo tgt L st) (k2 : ¬ u = 0 → Gl p l e s m b below meth c D kc ks Q MC MR fo (pc + 3) L st) : Gl p l e s m b below meth c D kc ks Q MC MR fo pc L (.int (Ii u) :: st) := by
  intro H locs ls hW hR hO hS hL
  obtain ⟨hx, hb, hml, hown, hts, hK, hN, hKX, hX, hbl⟩ := X
  have h00 : i32 0 := by decide
  exact lv_if_eq hx hb hd ht (fun z => k1 ((Ii_inj hu h00).mp z) H locs ls hW hR hO hS hL) (fun z => k2 ((not_congr (Ii_inj hu h00)).mp z) H locs ls hW hR hO hS hL)
theorem gl_iinc {a q : Int} {i j : Nat} {L' : List (Nat × Value)} (X : Ll_ p s m c D b N xs) (hd : decode code pc = .ok (.iinc i q, 3)) (ha : i32 a) (hq : i32 q) (hs : i32 (a + q)) (hj : L[j]? = some (i, .int (Ii a))) (hn : i < 7) (hl : (i, Value.int (Ii (a + q))) :: L.filter (fun q => !(q.1 == i) && !(q.1 + 1 == i && q.2.category == 2)) = L') (kk : Gl p l e s m b below meth c D kc ks Q MC MR fo (pc + 3) L' st) : Gl p l e s m b below meth c D kc ks Q MC MR fo pc L st := by
  intro H locs ls hW hR hO hS hL
  obtain ⟨hx, hb, hml, hown, hts, hK, hN, hKX, hX, hbl⟩ := X
  exact lv_iinc hx hb hd hL hj (show Ii a + Ii q = Ii (a + q) by rw [Ii_add ha hq, wr_eq hs]) hn hl (fun ls hl => kk H locs ls hW hR hO hS hl)
theorem gl_slen  (X : Ll_ p s m c D b N xs) (hd : decode code pc = .ok (.arraylength, 1)) (kk : Gl p l e s m b below meth c D kc ks Q MC MR fo (pc + 1) L (.int (Ii (N : Int)) :: st)) : Gl p l e s m b below meth c D kc ks Q MC MR fo pc L (.ref b :: st) := by
  intro H locs ls hW hR hO hS hL
  obtain ⟨hx, hb, hml, hown, hts, hK, hN, hKX, hX, hbl⟩ := X
  exact va_slen hx hb hX hbl (show ¬ FB s.heap.size b from Nat.not_le.mpr hbl) hS hd (kk H locs ls hW hR hO hS hL)
theorem gl_sld {j : Int} (X : Ll_ p s m c D b N xs) (hd : decode code pc = .ok (.iaload, 1)) (hj : 0 ≤ j ∧ j < (N : Int)) (hi : i32 j) (kk : Gl p l e s m b below meth c D kc ks Q MC MR fo (pc + 1) L (.int (Ii (xs j.toNat).toInt) :: st)) : Gl p l e s m b below meth c D kc ks Q MC MR fo pc L (.int (Ii j) :: .ref b :: st) := by
  intro H locs ls hW hR hO hS hL
  obtain ⟨hx, hb, hml, hown, hts, hK, hN, hKX, hX, hbl⟩ := X
  refine va_sld hx hb hX hbl (show ¬ FB s.heap.size b from Nat.not_le.mpr hbl) hS (vp_in_Ii hj hi) hd ?_
  rw [Ii_nat hi]
  have := kk H locs ls hW hR hO hS hL
  rw [Ii_of] at this
  exact this
theorem gl_laload  (X : Ll_ p s m c D b N xs) (hd : decode code pc = .ok (.laload, 1)) (kk : Gl p l e s m b below meth c D kc ks Q MC MR fo (pc + 1) L (.long (fo 0) :: st)) : Gl p l e s m b below meth c D kc ks Q MC MR fo pc L (.int (Ii 0) :: .ref (s.heap.size + 748) :: st) := by
  intro H locs ls hW hR hO hS hL
  obtain ⟨hx, hb, hml, hown, hts, hK, hN, hKX, hX, hbl⟩ := X
  refine W.lald hx hb hO ((hK.2 2 _ rfl).1 1 (fun j => .long (fo j))) (fun q => by cases q) (by show ¬ (_ ∨ (arrV _ _ _).slots.size ≤ _); rw [arrV_size]; exact vp_in_Ii (n := 1) (by decide) (by decide)) (v := .long (fo 0)) (by show (arrV _ _ _).slots[_]? = _; rw [show (Ii 0).toNatClampNeg = 0 from rfl, arrV_read _ _ (show 0 < 1 by decide)]) rfl rfl hd ?_
  exact (kk H locs ls hW hR hO hS hL)
theorem gl_tabIn {a dflt lo hi off : Int} {offs : Array Int} {len tgt : Nat} (X : Ll_ p s m c D b N xs) (hd : decode code pc = .ok (.tableswitch dflt lo hi offs, len)) (ha : i32 a) (v : Int) (hv : a = v) (h1 : ¬ v < lo) (h2 : ¬ hi < v) (ho : offs[(v - lo).toNat]? = some off) (ht : (pc : Int) + off = (tgt : Int)) (kk : Gl p l e s m b below meth c D kc ks Q MC MR fo tgt L st) : Gl p l e s m b below meth c D kc ks Q MC MR fo pc L (.int (Ii a) :: st) := by
  intro H locs ls hW hR hO hS hL
  obtain ⟨hx, hb, hml, hown, hts, hK, hN, hKX, hX, hbl⟩ := X
  subst hv
  have e := Ii_toInt ha
  exact lv_tableIn hx hb hd (by rw [e]; exact h1) (by rw [e]; exact h2) (by rw [e]; exact ho) ht (kk H locs ls hW hR hO hS hL)
theorem gl_tabOut {a dflt lo hi : Int} {offs : Array Int} {len tgt : Nat} (X : Ll_ p s m c D b N xs) (hd : decode code pc = .ok (.tableswitch dflt lo hi offs, len)) (ha : i32 a) (h1 : a < lo ∨ hi < a) (ht : (pc : Int) + dflt = (tgt : Int)) (kk : Gl p l e s m b below meth c D kc ks Q MC MR fo tgt L st) : Gl p l e s m b below meth c D kc ks Q MC MR fo pc L (.int (Ii a) :: st) := by
  intro H locs ls hW hR hO hS hL
  obtain ⟨hx, hb, hml, hown, hts, hK, hN, hKX, hX, hbl⟩ := X
  have e := Ii_toInt ha
  exact lv_tableOut hx hb hd (by rw [e]; exact h1) ht (kk H locs ls hW hR hO hS hL)
theorem FA_iff {base n sz q : Nat} : FA base n sz q ↔ (base ≤ q ∧ q < base + n) ∨ sz ≤ q := Iff.rfl
theorem FW_iff {base ao sz q : Nat} : FW base ao sz q ↔ (base ≤ q ∧ q < base + 681) ∨ q = ao ∨ sz ≤ q := Iff.rfl
theorem keptR {H H1 : Heap} {base : Nat} {A1 : Nat → Prop} (hR : Wd D TR 67 (base + 681) MR H) (hk : ∀ q : Nat, q < H.size → ¬ A1 q → H1[q]? = H[q]?) (hA : ∀ q, base + 681 ≤ q → q < base + 748 → ¬ A1 q) : Wd D TR 67 (base + 681) MR H1 := by
  refine ⟨hR.1.kept (fun k q hq => ?_), hR.2⟩
  have hk9 : k < 67 := by
    have := (List.getElem?_eq_some_iff.mp hq).1
    rwa [Ws_len] at this
  have hlt := (hR.1 k q hq).lt
  rw [Ws_get D TR (base + 681) MR hk9] at hq
  cases hq
  exact hk _ hlt (hA _ (by show base + 681 ≤ base + 681 + k; omega) (by show base + 681 + k < base + 748; omega))
theorem keptC {H H1 : Heap} {base : Nat} {A1 : Nat → Prop} (hW : Wd D TC 681 base MC H) (hk : ∀ q : Nat, q < H.size → ¬ A1 q → H1[q]? = H[q]?) (hA : ∀ q, base ≤ q → q < base + 681 → ¬ A1 q) : Wd D TC 681 base MC H1 := by
  refine ⟨hW.1.kept (fun k q hq => ?_), hW.2⟩
  have hk9 : k < 681 := by
    have := (List.getElem?_eq_some_iff.mp hq).1
    rwa [Ws_len] at this
  have hlt := (hW.1 k q hq).lt
  rw [Ws_get D TC base MC hk9] at hq
  cases hq
  exact hk _ hlt (hA _ (by show base ≤ base + k; omega) (by show base + k < base + 681; omega))
theorem keptO {H H1 : Heap} {ao : Nat} {A1 : Nat → Prop} (hO : OutAt D ao fo H) (hk : ∀ q : Nat, q < H.size → ¬ A1 q → H1[q]? = H[q]?) (hA : ¬ A1 ao) : OutAt D ao fo H1 := by
  show H1[ao]? = _
  rw [hk ao (Array.getElem?_eq_some_iff.mp hO).1 hA]
  exact hO
theorem gl_wrap {y : MethodName} {cy : ByteArray} {mL fr lo np index mc2 ms2 : Nat} {hh : List (Nat × Nat × Nat × Nat)} {As rest : List Value} {cd : Int} {MC' : Mm} {fo' : Nat → Int64}
    (X : Ll_ p s m c D b N xs) (hM : ∀ sz, Met l y (.codeWith y cy mL (some .int) hh :: LWL) (rmX fr lo mc2 ms2) (PcL D s.heap.size s.heap.size (s.heap.size + 748) MC fo As sz) (QcL D s.heap.size (s.heap.size + 748) cd MC' fo' sz) mc2 ms2 (FW s.heap.size (s.heap.size + 748) sz)) (hd : decode code pc = .ok (.invokestatic index, 3)) (w1 : Cond.methodLink RL index y ∈ LLX) (w2 : Cond.static y ∈ LLX) (w4 : Cond.initialized y.cls ∈ LLX) (hco : Cond.codeWith y cy mL (some .int) hh ∈ LLX) (hy : y.cls ≠ "java/lang/invoke/MethodHandle" ∧ y.cls ≠ "java/lang/invoke/VarHandle" ∧ (parseMethodDescriptor y.desc).map (fun d => d.parameters.length) = some np) (hR9 : fr + 1 ≤ room_1.frames ∧ 8 + (mL + 11) + lo ≤ room_1.locals)
    (hn : As.length = np) (hst : st = As.reverse ++ rest) (hrs : (rest.map fun v => v.category).sum ≤ 8) (hkc : kc + mc2 ≤ room_1.cells ∧ ks + ms2 ≤ room_1.slots)
    (kk : Gl p l e s m b below meth c D (kc + mc2) (ks + ms2) Q MC' MR fo' (pc + 3) L (.int (Ii cd) :: rest)) : Gl p l e s m b below meth c D kc ks Q MC MR fo pc L st := by
  intro H locs ls hW hR hO hS hL
  obtain ⟨hx, hb, hml, hown, hts, hK, hN, hKX, hX, hbl⟩ := X
  subst hst
  have haolt : s.heap.size + 748 < H.size := (Array.getElem?_eq_some_iff.mp hO).1
  have hsub : ∀ q, FW s.heap.size (s.heap.size + 748) H.size q → FB s.heap.size q := by
    intro q hf
    rcases FW_iff.mp hf with h | h | h
    · exact h.1
    · exact Nat.le_trans (Nat.le_add_right _ 748) (Nat.le_of_eq h.symm)
    · exact Nat.le_trans hS.1 h
  refine va_calli (vx_runSW (hh := hh) (bytes := cy) (maxL := mL) (ret := some .int) (g := F0 m pc ls (As.reverse ++ rest)) (nL := 7) ⟨hx, hb, hml, hown, hts⟩ (hM H.size) (vx_cwSW np hts (good_callL (pre := [.methodLink RL index y, .static y, .initialized y.cls]) (fun w hw => ?_) (inL _ hco) (fun w hw => hw)) rfl rfl rfl hy hR9) ⟨PcL_blind, fun U hU hWm => ⟨rfl, by rw [hU], by rw [hU]; exact hW, by rw [hU]; exact hO, va_K.moved hWm.alike hK, fun z hz => va_Nw.warmM hWm (hN z hz), ?_⟩⟩ rfl hn hL.1 rfl (by show 2 * 0 + (rest.map fun v => v.category).sum ≤ 8; omega) hd hkc) hS (fun q _ h => hsub q h) hsub (fun x u t H1 locs1 ht hvm hp hB hz hk hS1 => ?_)
  · simp only [List.mem_cons, List.not_mem_nil, or_false] at hw
    rcases hw with rfl | rfl | rfl
    · exact inL _ w1
    · exact inL _ w2
    · exact inL _ w4
  · rw [hU]
    exact hKX.warm hWm (fun a ha hA => hS.2.1 a ha hA)
  · rw [ht] at hB
    rw [hp]
    refine kk H1 locs1 ls hB.1 (keptR hR hk (fun q h1 h2 hf => ?_)) hB.2 hS1 hL
    rcases FW_iff.mp hf with h | h | h <;> omega
theorem gl_class {y : MethodName} {cy : ByteArray} {mL fr lo np index h ci : Nat} {ret : Option FieldType} {sl : List (Nat × Nat)} {q9 : vw_C} {C : String} {As rest : List Value} {o : Rs} {r : Int × Mm} {okr : Int → Prop}
    (X : Ll_ p s m c D b N xs) (hM : OkI l D TC 681 s.heap.size y cy mL ret fr lo (.ref (s.heap.size + h) :: As) MC okr o) (ho : o = some r) (hd : decode code pc = .ok (.invokevirtual index, 3)) (w1 : Cond.methodLink RL index y ∈ LLX) (w2 : Cond.instanceMethod y ∈ LWL) (w3 : Cond.selects C y y ∈ LWL) (w4 : Cond.initialized C ∈ LWL) (hco : Cond.code y cy mL ret ∈ LW) (hy : y.cls ≠ "java/lang/invoke/MethodHandle" ∧ y.cls ≠ "java/lang/invoke/VarHandle" ∧ (parseMethodDescriptor y.desc).map (fun d => d.parameters.length) = some np) (hC : y.cls = C) (hR9 : fr + 1 ≤ room_1.frames ∧ 8 + (mL + 11) + lo ≤ room_1.locals)
    (hk9 : h < 681) (hT : TC h = (0, ci, sl)) (hc : vwCl[ci]? = some q9) (hq : q9.1 = C) (hn : As.length = np) (hst : st = As.reverse ++ .ref (s.heap.size + h) :: rest) (hrs : (rest.map fun v => v.category).sum ≤ 8) (hkc : kc ≤ room_1.cells ∧ ks ≤ room_1.slots)
    (kk : okr r.1 → Gl p l e s m b below meth c D kc ks Q r.2 MR fo (pc + 3) L (.int (Ii r.1) :: rest)) : Gl p l e s m b below meth c D kc ks Q MC MR fo pc L st := by
  intro H locs ls hW hR hO hS hL
  obtain ⟨hx, hb, hml, hown, hts, hK, hN, hKX, hX, hbl⟩ := X
  subst hst
  have haolt : s.heap.size + 748 < H.size := (Array.getElem?_eq_some_iff.mp hO).1
  have hsub : ∀ q, FA s.heap.size 681 H.size q → FB s.heap.size q := by
    intro q hf
    rcases hf with h | h
    · exact h.1
    · exact Nat.le_trans hS.1 h
  refine va_calli (va_runV (g := F0 m pc ls (As.reverse ++ .ref (s.heap.size + h) :: rest)) (nL := 7) ⟨hx, hb, hml, hown, hts⟩ (hM H.size r ho) (cwV np hts (good_callL (pre := [.methodLink RL index y, .instanceMethod y, .selects C y y, .initialized C]) (fun w hw => ?_) (inW _ hco) inW) rfl rfl rfl ⟨hC, hy.1, hy.2.1, hy.2.2⟩ hR9) ⟨PcW_blind, ?_, fun U hU hWm => ⟨rfl, by rw [hU], by rw [hU]; exact hW, va_K.moved hWm.alike hK, fun z hz => va_Nw.warmM hWm (hN z hz)⟩⟩ rfl hn hL.1 rfl (by show 2 * 0 + (rest.map fun v => v.category).sum ≤ 8; omega) hd hkc) hS (fun q _ h => hsub q h) hsub (fun x u t H1 locs1 ht hvm hp hB hz hk hS1 => ?_)
  · simp only [List.mem_cons, List.not_mem_nil, or_false] at hw
    rcases hw with rfl | rfl | rfl | rfl
    · exact inL _ w1
    · exact w2
    · exact w3
    · exact w4
  · have he := Ws_get D TC s.heap.size MC hk9
    rw [show ent D s.heap.size (TC h) (MC h) = .inr (ci, sts s.heap.size sl (MC h)) by rw [hT]; rfl] at he
    have := va_recv hK hW.1 hc he
    rw [hq] at this
    exact this
  · rw [ht] at hB
    rw [hp.1]
    refine kk hp.2 H1 locs1 ls hB (keptR hR hk (fun q h1 h2 hf => ?_)) (keptO hO hk (fun hf => ?_)) hS1 hL
    · rcases FA_iff.mp hf with h | h <;> omega
    · rcases FA_iff.mp hf with h | h <;> omega
theorem gl_ref {y : MethodName} {cy : ByteArray} {mL fr lo np index h ci : Nat} {ret : Option FieldType} {sl : List (Nat × Nat)} {q9 : vw_C} {C : String} {As rest : List Value} {o : Rs} {r : Int × Mm} {okr : Int → Prop}
    (X : Ll_ p s m c D b N xs) (hM : OkI l D TR 67 (s.heap.size + 681) y cy mL ret fr lo (.ref (s.heap.size + 681 + h) :: As) MR okr o) (ho : o = some r) (hd : decode code pc = .ok (.invokevirtual index, 3)) (w1 : Cond.methodLink RL index y ∈ LLX) (w2 : Cond.instanceMethod y ∈ LWL) (w3 : Cond.selects C y y ∈ LWL) (w4 : Cond.initialized C ∈ LWL) (hco : Cond.code y cy mL ret ∈ LW) (hy : y.cls ≠ "java/lang/invoke/MethodHandle" ∧ y.cls ≠ "java/lang/invoke/VarHandle" ∧ (parseMethodDescriptor y.desc).map (fun d => d.parameters.length) = some np) (hC : y.cls = C) (hR9 : fr + 1 ≤ room_1.frames ∧ 8 + (mL + 11) + lo ≤ room_1.locals)
    (hk9 : h < 67) (hT : TR h = (0, ci, sl)) (hc : vwCl[ci]? = some q9) (hq : q9.1 = C) (hn : As.length = np) (hst : st = As.reverse ++ .ref (s.heap.size + 681 + h) :: rest) (hrs : (rest.map fun v => v.category).sum ≤ 8) (hkc : kc ≤ room_1.cells ∧ ks ≤ room_1.slots)
    (kk : okr r.1 → Gl p l e s m b below meth c D kc ks Q MC r.2 fo (pc + 3) L (.int (Ii r.1) :: rest)) : Gl p l e s m b below meth c D kc ks Q MC MR fo pc L st := by
  intro H locs ls hW hR hO hS hL
  obtain ⟨hx, hb, hml, hown, hts, hK, hN, hKX, hX, hbl⟩ := X
  subst hst
  have haolt : s.heap.size + 748 < H.size := (Array.getElem?_eq_some_iff.mp hO).1
  have hsub : ∀ q, FA (s.heap.size + 681) 67 H.size q → FB s.heap.size q := by
    intro q hf
    rcases FA_iff.mp hf with h | h
    · exact Nat.le_trans (Nat.le_add_right _ 681) h.1
    · exact Nat.le_trans hS.1 h
  refine va_calli (va_runV (g := F0 m pc ls (As.reverse ++ .ref (s.heap.size + 681 + h) :: rest)) (nL := 7) ⟨hx, hb, hml, hown, hts⟩ (hM H.size r ho) (cwV np hts (good_callL (pre := [.methodLink RL index y, .instanceMethod y, .selects C y y, .initialized C]) (fun w hw => ?_) (inW _ hco) inW) rfl rfl rfl ⟨hC, hy.1, hy.2.1, hy.2.2⟩ hR9) ⟨PcW_blind, ?_, fun U hU hWm => ⟨rfl, by rw [hU], by rw [hU]; exact hR, va_K.moved hWm.alike hK, fun z hz => va_Nw.warmM hWm (hN z hz)⟩⟩ rfl hn hL.1 rfl (by show 2 * 0 + (rest.map fun v => v.category).sum ≤ 8; omega) hd hkc) hS (fun q _ h => hsub q h) hsub (fun x u t H1 locs1 ht hvm hp hB hz hk hS1 => ?_)
  · simp only [List.mem_cons, List.not_mem_nil, or_false] at hw
    rcases hw with rfl | rfl | rfl | rfl
    · exact inL _ w1
    · exact w2
    · exact w3
    · exact w4
  · have he := Ws_get D TR (s.heap.size + 681) MR hk9
    rw [show ent D (s.heap.size + 681) (TR h) (MR h) = .inr (ci, sts (s.heap.size + 681) sl (MR h)) by rw [hT]; rfl] at he
    have := va_recv hK hR.1 hc he
    rw [hq] at this
    exact this
  · rw [ht] at hB
    rw [hp.1]
    refine kk hp.2 H1 locs1 ls (keptC hW hk (fun q h1 h2 hf => ?_)) hB (keptO hO hk (fun hf => ?_)) hS1 hL
    · rcases FA_iff.mp hf with h | h <;> omega
    · rcases FA_iff.mp hf with h | h <;> omega
end LAW
