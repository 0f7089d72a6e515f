/-! the same walk beside an array of four ints of its own; its contents are the memory's row 686 -/
def jqM (A M : Mm) : Mm := fun k => if k < 686 then A k else M k
def Clq {α : Type} (o : Rs) (M : Mm) (k : Int → Mm → Option α) : Option α := match o with
  | none => none
  | some q => k q.1 (jqM q.2 M)
def z686 (M : Mm) : Mm := fun k => if k = 686 then (fun _ => 0) else M k
def RdAt (D : Dd) (ra : Nat) (f : Nat → Int) (H : Heap) : Prop := va_P D.1 vwCl [(ra, .inl (D.2 0, 4, .inl fun i => Ii (f i)))] H ∧ ∀ i, i32 (f i)
section GE
variable {p : Program} {l : Launch} {e : Env} {R : Room} {s : State} {m : MethodId} {args : Array Value} {below : List Frame} {meth : Method} {c : Code} {cc : ByteArray} {D : Dd} {base b N ra nL kc ks : Nat} {xs : Nat → Int32} {own : String} {α : Type} {fin : α → State → Prop} {M : Mm} {pc : Nat} {L : List (Nat × Value)} {st : List Value}
def Ge (p : Program) (l : Launch) (e : Env) (R : Room) (s : State) (m : MethodId) (args : Array Value) (below : List Frame) (meth : Method) (c : Code) (D : Dd) (ra base nL kc ks : Nat) {α : Type} (fin : α → State → Prop) (M : Mm) (pc : Nat) (L : List (Nat × Value)) (st : List Value) (k : Option α) : Prop :=
  ∀ r, k = some r → ∀ (H : Heap) (locs : List Loc) (ls : Array Slot), Wd D TL 686 base M H → RdAt D ra (M 686) H → va_S (FA base 686 s.heap.size) s.heap H locs → lv_has ls nL L → W p l e R s m args below meth c H locs kc ks (fin r) (F0 m pc ls st)
theorem Wd_on {T : Nat → Ck} {n : Nat} {M' : Mm} {H : Heap} (h : Wd D T n base M H) (he : ∀ k, k < n → M' k = M k) : Wd D T n base M' H := by
  have e : Ws D T n base M' = Ws D T n base M := List.map_congr_left (fun k hk => by rw [he k (List.mem_range.mp hk)])
  refine ⟨by rw [e]; exact h.1, fun k hk i => by rw [he k hk]; exact h.2 k hk i⟩
theorem RdAt.kept {f : Nat → Int} {H H1 : Heap} (h : RdAt D ra f H) (hq : H1[ra]? = H[ra]?) : RdAt D ra f H1 := ⟨h.1.kept (fun j q hj => by
  have hj0 : j = 0 := by
    have := (List.getElem?_eq_some_iff.mp hj).1
    simp at this
    exact this
  subst hj0
  cases hj
  exact hq), h.2⟩
theorem RdAt.lt {f : Nat → Int} {H : Heap} (h : RdAt D ra f H) : ra < H.size := (h.1 0 _ rfl).lt
theorem ge_iload_n {k : Option α} {kf : Fin 4} {i : Nat} {v : Int32} (X : Cx p s m args c cc D nL own) (hd : decode cc pc = .ok (.iload_n kf, 1)) (hi : (kf : Nat) = i) (j : Nat) (hl : L[j]? = some (i, .int v)) (kk : Ge p l e R s m args below meth c D ra base nL kc ks fin M (pc + 1) L (.int v :: st) k) : Ge p l e R s m args below meth c D ra base nL kc ks fin M pc L st k := by
  intro r hr H locs ls hW hE hS hL
  obtain ⟨hx, hb, hml, hown, hts, hK, hN⟩ := X
  exact lv_iload_n hx hb hd hi (lv_at hL j hl) (kk r hr H locs ls hW hE hS hL)
theorem ge_iload {k : Option α} {i : Nat} {v : Int32} (X : Cx p s m args c cc D nL own) (hd : decode cc pc = .ok (.iload i, 2)) (j : Nat) (hl : L[j]? = some (i, .int v)) (kk : Ge p l e R s m args below meth c D ra base nL kc ks fin M (pc + 2) L (.int v :: st) k) : Ge p l e R s m args below meth c D ra base nL kc ks fin M pc L st k := by
  intro r hr H locs ls hW hE hS hL
  obtain ⟨hx, hb, hml, hown, hts, hK, hN⟩ := X
  exact lv_iload hx hb hd (lv_at hL j hl) (kk r hr H locs ls hW hE hS hL)
theorem ge_aload_n {k : Option α} {kf : Fin 4} {i : Nat} {v : Nat} (X : Cx p s m args c cc D nL own) (hd : decode cc pc = .ok (.aload_n kf, 1)) (hi : (kf : Nat) = i) (j : Nat) (hl : L[j]? = some (i, .ref v)) (kk : Ge p l e R s m args below meth c D ra base nL kc ks fin M (pc + 1) L (.ref v :: st) k) : Ge p l e R s m args below meth c D ra base nL kc ks fin M pc L st k := by
  intro r hr H locs ls hW hE hS hL
  obtain ⟨hx, hb, hml, hown, hts, hK, hN⟩ := X
  exact lv_aload_n hx hb hd hi (lv_at hL j hl) (kk r hr H locs ls hW hE hS hL)
theorem ge_aload {k : Option α} {i : Nat} {v : Nat} (X : Cx p s m args c cc D nL own) (hd : decode cc pc = .ok (.aload i, 2)) (j : Nat) (hl : L[j]? = some (i, .ref v)) (kk : Ge p l e R s m args below meth c D ra base nL kc ks fin M (pc + 2) L (.ref v :: st) k) : Ge p l e R s m args below meth c D ra base nL kc ks fin M pc L st k := by
  intro r hr H locs ls hW hE hS hL
  obtain ⟨hx, hb, hml, hown, hts, hK, hN⟩ := X
  exact lv_aload hx hb hd (lv_at hL j hl) (kk r hr H locs ls hW hE hS hL)
theorem ge_istore_n {k : Option α} {kf : Fin 4} {i : Nat} {v : Int32} {L' : List (Nat × Value)} (X : Cx p s m args c cc D nL own) (hd : decode cc pc = .ok (.istore_n kf, 1)) (hi : (kf : Nat) = i) (hn : i < nL) (hl : (i, Value.int v) :: L.filter (fun q => !(q.1 == i) && !(q.1 + 1 == i && q.2.category == 2)) = L') (kk : Ge p l e R s m args below meth c D ra base nL kc ks fin M (pc + 1) L' st k) : Ge p l e R s m args below meth c D ra base nL kc ks fin M pc L (.int v :: st) k := by
  intro r hr H locs ls hW hE hS hL
  obtain ⟨hx, hb, hml, hown, hts, hK, hN⟩ := X
  exact lv_istore_n hx hb hd hi hL hn hl (fun ls hl => kk r hr H locs ls hW hE hS hl)
theorem ge_istore {k : Option α} {i : Nat} {v : Int32} {L' : List (Nat × Value)} (X : Cx p s m args c cc D nL own) (hd : decode cc pc = .ok (.istore i, 2)) (hn : i < nL) (hl : (i, Value.int v) :: L.filter (fun q => !(q.1 == i) && !(q.1 + 1 == i && q.2.category == 2)) = L') (kk : Ge p l e R s m args below meth c D ra base nL kc ks fin M (pc + 2) L' st k) : Ge p l e R s m args below meth c D ra base nL kc ks fin M pc L (.int v :: st) k := by
  intro r hr H locs ls hW hE hS hL
  obtain ⟨hx, hb, hml, hown, hts, hK, hN⟩ := X
  exact lv_istore hx hb hd hL hn hl (fun ls hl => kk r hr H locs ls hW hE hS hl)
theorem ge_astore {k : Option α} {i : Nat} {v : Nat} {L' : List (Nat × Value)} (X : Cx p s m args c cc D nL own) (hd : decode cc pc = .ok (.astore i, 2)) (hn : i < nL) (hl : (i, Value.ref v) :: L.filter (fun q => !(q.1 == i) && !(q.1 + 1 == i && q.2.category == 2)) = L') (kk : Ge p l e R s m args below meth c D ra base nL kc ks fin M (pc + 2) L' st k) : Ge p l e R s m args below meth c D ra base nL kc ks fin M pc L (.ref v :: st) k := by
  intro r hr H locs ls hW hE hS hL
  obtain ⟨hx, hb, hml, hown, hts, hK, hN⟩ := X
  exact lv_astore hx hb hd hL hn hl (fun ls hl => kk r hr H locs ls hW hE hS hl)
theorem ge_iconst {k : Option α} {q v : Int} (X : Cx p s m args c cc D nL own) (hd : decode cc pc = .ok (.iconst q, 1)) (hv : Int32.ofInt q = Ii v) (kk : Ge p l e R s m args below meth c D ra base nL kc ks fin M (pc + 1) L (.int (Ii v) :: st) k) : Ge p l e R s m args below meth c D ra base nL kc ks fin M pc L st k := by
  intro r hr H locs ls hW hE hS hL
  obtain ⟨hx, hb, hml, hown, hts, hK, hN⟩ := X
  exact lv_iconst hx hb hd hv (kk r hr H locs ls hW hE hS hL)
theorem ge_bipush {k : Option α} {q v : Int} (X : Cx p s m args c cc D nL own) (hd : decode cc pc = .ok (.bipush q, 2)) (hv : (Int8.ofInt q).toInt32 = Ii v) (kk : Ge p l e R s m args below meth c D ra base nL kc ks fin M (pc + 2) L (.int (Ii v) :: st) k) : Ge p l e R s m args below meth c D ra base nL kc ks fin M pc L st k := by
  intro r hr H locs ls hW hE hS hL
  obtain ⟨hx, hb, hml, hown, hts, hK, hN⟩ := X
  exact lv_bipush hx hb hd hv (kk r hr H locs ls hW hE hS hL)
theorem ge_ldc {k : Option α} {ix : Nat} {w : Int32} {v : Int} (X : Cx p s m args c cc D nL own) (hd : decode cc pc = .ok (.ldc ix, 2)) (hc : Cond.constant own ix w ∈ LW) (hv : w = Ii v) (kk : Ge p l e R s m args below meth c D ra base nL kc ks fin M (pc + 2) L (.int (Ii v) :: st) k) : Ge p l e R s m args below meth c D ra base nL kc ks fin M pc L st k := by
  intro r hr H locs ls hW hE hS hL
  obtain ⟨hx, hb, hml, hown, hts, hK, hN⟩ := X
  subst hv
  exact lv_ldc hx hb hown (hts _ hc) hd (kk r hr H locs ls hW hE hS hL)
theorem ge_iadd {a b : Int} {k : Int → Option α} (X : Cx p s m args c cc D nL own) (hd : decode cc pc = .ok (.iadd, 1)) (ha : i32 a) (hb2 : i32 b) (kk : ∀ x, i32 x → Ge p l e R s m args below meth c D ra base nL kc ks fin M (pc + 1) L (.int (Ii x) :: st) (k x)) : Ge p l e R s m args below meth c D ra base nL kc ks fin M pc L (.int (Ii b) :: .int (Ii a) :: st) (Lt (wr (a + b)) k) := by
  intro r hr H locs ls hW hE hS hL
  obtain ⟨hx, hb, hml, hown, hts, hK, hN⟩ := X
  refine lv_iadd hx hb hd ?_
  rw [Ii_add ha hb2]
  exact (kk _ (i32_wr _) r hr H locs ls hW hE hS hL)
theorem ge_isub {a b : Int} {k : Int → Option α} (X : Cx p s m args c cc D nL own) (hd : decode cc pc = .ok (.isub, 1)) (ha : i32 a) (hb2 : i32 b) (kk : ∀ x, i32 x → Ge p l e R s m args below meth c D ra base nL kc ks fin M (pc + 1) L (.int (Ii x) :: st) (k x)) : Ge p l e R s m args below meth c D ra base nL kc ks fin M pc L (.int (Ii b) :: .int (Ii a) :: st) (Lt (wr (a - b)) k) := by
  intro r hr H locs ls hW hE hS hL
  obtain ⟨hx, hb, hml, hown, hts, hK, hN⟩ := X
  refine lv_isub hx hb hd ?_
  rw [Ii_sub ha hb2]
  exact (kk _ (i32_wr _) r hr H locs ls hW hE hS hL)
theorem ge_idiv {a b : Int} {k : Int → Option α} (X : Cx p s m args c cc D nL own) (hd : decode cc pc = .ok (.idiv, 1)) (ha : i32 a) (hb2 : i32 b) (h0 : ¬ b = 0) (kk : ∀ x, i32 x → Ge p l e R s m args below meth c D ra base nL kc ks fin M (pc + 1) L (.int (Ii x) :: st) (k x)) : Ge p l e R s m args below meth c D ra base nL kc ks fin M pc L (.int (Ii b) :: .int (Ii a) :: st) (Lt (wr (a.tdiv b)) k) := by
  intro r hr H locs ls hW hE hS hL
  obtain ⟨hx, hb, hml, hown, hts, hK, hN⟩ := X
  refine lv_idiv hx hb hd (fun z => h0 ((Ii_inj hb2 (by decide)).mp z)) ?_
  rw [Ii_div ha hb2]
  exact (kk _ (i32_wr _) r hr H locs ls hW hE hS hL)
theorem ge_irem {a b : Int} {k : Int → Option α} (X : Cx p s m args c cc D nL own) (hd : decode cc pc = .ok (.irem, 1)) (ha : i32 a) (hb2 : i32 b) (h0 : ¬ b = 0) (kk : ∀ x, i32 x → Ge p l e R s m args below meth c D ra base nL kc ks fin M (pc + 1) L (.int (Ii x) :: st) (k x)) : Ge p l e R s m args below meth c D ra base nL kc ks fin M pc L (.int (Ii b) :: .int (Ii a) :: st) (Lt (jrem a b) k) := by
  intro r hr H locs ls hW hE hS hL
  obtain ⟨hx, hb, hml, hown, hts, hK, hN⟩ := X
  refine lv_irem hx hb hd (fun z => h0 ((Ii_inj hb2 (by decide)).mp z)) ?_
  rw [Ii_div ha hb2, Ii_mul (i32_wr _) hb2, Ii_sub ha (i32_wr _)]
  exact (kk _ (i32_jrem _ _) r hr H locs ls hW hE hS hL)
theorem ge_iinc {a q : Int} {i j : Nat} {L' : Int → List (Nat × Value)} {k : Int → Option α} (X : Cx p s m args c cc D nL own) (hd : decode cc pc = .ok (.iinc i q, 3)) (ha : i32 a) (hq : i32 q) (hj : L[j]? = some (i, .int (Ii a))) (hn : i < nL) (hl : ∀ v : Int, (i, Value.int (Ii v)) :: L.filter (fun q => !(q.1 == i) && !(q.1 + 1 == i && q.2.category == 2)) = L' v) (kk : ∀ x, i32 x → Ge p l e R s m args below meth c D ra base nL kc ks fin M (pc + 3) (L' x) st (k x)) : Ge p l e R s m args below meth c D ra base nL kc ks fin M pc L st (Lt (wr (a + q)) k) := by
  intro r hr H locs ls hW hE hS hL
  obtain ⟨hx, hb, hml, hown, hts, hK, hN⟩ := X
  exact lv_iinc hx hb hd hL hj (show Ii a + Ii q = _ from Ii_add ha hq) hn (hl _) (fun ls hl => kk _ (i32_wr _) r hr H locs ls hW hE hS hl)
theorem ge_icmp_eq {a b off : Int} {tgt : Nat} {q1 q2 : Option α} (X : Cx p s m args c cc D nL own) (hd : decode cc pc = .ok (.if_icmp .eq off, 3)) (ht : (pc : Int) + off = (tgt : Int)) (ha : i32 a) (hb2 : i32 b) (k1 : a = b → Ge p l e R s m args below meth c D ra base nL kc ks fin M tgt L st q1) (k2 : ¬ (a = b) → Ge p l e R s m args below meth c D ra base nL kc ks fin M (pc + 3) L st q2) : Ge p l e R s m args below meth c D ra base nL kc ks fin M pc L (.int (Ii b) :: .int (Ii a) :: st) (if a = b then q1 else q2) := by
  intro r hr H locs ls hW hE hS hL
  obtain ⟨hx, hb, hml, hown, hts, hK, hN⟩ := X
  refine lv_icmp_eq hx hb hd ht (fun z => ?_) (fun z => ?_)
  · have z := (Ii_inj ha hb2).mp z
    rw [if_pos z] at hr
    exact k1 z r hr H locs ls hW hE hS hL
  · have z := (not_congr (Ii_inj ha hb2)).mp z
    rw [if_neg z] at hr
    exact k2 z r hr H locs ls hW hE hS hL
theorem ge_icmp_ne {a b off : Int} {tgt : Nat} {q1 q2 : Option α} (X : Cx p s m args c cc D nL own) (hd : decode cc pc = .ok (.if_icmp .ne off, 3)) (ht : (pc : Int) + off = (tgt : Int)) (ha : i32 a) (hb2 : i32 b) (k1 : ¬ a = b → Ge p l e R s m args below meth c D ra base nL kc ks fin M tgt L st q1) (k2 : ¬ (¬ a = b) → Ge p l e R s m args below meth c D ra base nL kc ks fin M (pc + 3) L st q2) : Ge p l e R s m args below meth c D ra base nL kc ks fin M pc L (.int (Ii b) :: .int (Ii a) :: st) (if ¬ a = b then q1 else q2) := by
  intro r hr H locs ls hW hE hS hL
  obtain ⟨hx, hb, hml, hown, hts, hK, hN⟩ := X
  refine lv_icmp_ne hx hb hd ht (fun z => ?_) (fun z => ?_)
  · have z := (not_congr (Ii_inj ha hb2)).mp z
    rw [if_pos z] at hr
    exact k1 z r hr H locs ls hW hE hS hL
  · have z := not_not_intro ((Ii_inj ha hb2).mp z)
    rw [if_neg z] at hr
    exact k2 z r hr H locs ls hW hE hS hL
theorem ge_icmp_lt {a b off : Int} {tgt : Nat} {q1 q2 : Option α} (X : Cx p s m args c cc D nL own) (hd : decode cc pc = .ok (.if_icmp .lt off, 3)) (ht : (pc : Int) + off = (tgt : Int)) (ha : i32 a) (hb2 : i32 b) (k1 : a < b → Ge p l e R s m args below meth c D ra base nL kc ks fin M tgt L st q1) (k2 : ¬ (a < b) → Ge p l e R s m args below meth c D ra base nL kc ks fin M (pc + 3) L st q2) : Ge p l e R s m args below meth c D ra base nL kc ks fin M pc L (.int (Ii b) :: .int (Ii a) :: st) (if a < b then q1 else q2) := by
  intro r hr H locs ls hW hE hS hL
  obtain ⟨hx, hb, hml, hown, hts, hK, hN⟩ := X
  refine lv_icmp_lt hx hb hd ht (fun z => ?_) (fun z => ?_)
  · have z := (Ii_lt ha hb2).mp z
    rw [if_pos z] at hr
    exact k1 z r hr H locs ls hW hE hS hL
  · have z := (not_congr (Ii_lt ha hb2)).mp z
    rw [if_neg z] at hr
    exact k2 z r hr H locs ls hW hE hS hL
theorem ge_icmp_ge {a b off : Int} {tgt : Nat} {q1 q2 : Option α} (X : Cx p s m args c cc D nL own) (hd : decode cc pc = .ok (.if_icmp .ge off, 3)) (ht : (pc : Int) + off = (tgt : Int)) (ha : i32 a) (hb2 : i32 b) (k1 : b ≤ a → Ge p l e R s m args below meth c D ra base nL kc ks fin M tgt L st q1) (k2 : ¬ (b ≤ a) → Ge p l e R s m args below meth c D ra base nL kc ks fin M (pc + 3) L st q2) : Ge p l e R s m args below meth c D ra base nL kc ks fin M pc L (.int (Ii b) :: .int (Ii a) :: st) (if b ≤ a then q1 else q2) := by
  intro r hr H locs ls hW hE hS hL
  obtain ⟨hx, hb, hml, hown, hts, hK, hN⟩ := X
  refine lv_icmp_ge hx hb hd ht (fun z => ?_) (fun z => ?_)
  · have z := (Ii_le hb2 ha).mp z
    rw [if_pos z] at hr
    exact k1 z r hr H locs ls hW hE hS hL
  · have z := (not_congr (Ii_le hb2 ha)).mp z
    rw [if_neg z] at hr
    exact k2 z r hr H locs ls hW hE hS hL
theorem ge_icmp_gt {a b off : Int} {tgt : Nat} {q1 q2 : Option α} (X : Cx p s m args c cc D nL own) (hd : decode cc pc = .ok (.if_icmp .gt off, 3)) (ht : (pc : Int) + off = (tgt : Int)) (ha : i32 a) (hb2 : i32 b) (k1 : b < a → Ge p l e R s m args below meth c D ra base nL kc ks fin M tgt L st q1) (k2 : ¬ (b < a) → Ge p l e R s m args below meth c D ra base nL kc ks fin M (pc + 3) L st q2) : Ge p l e R s m args below meth c D ra base nL kc ks fin M pc L (.int (Ii b) :: .int (Ii a) :: st) (if b < a then q1 else q2) := by
  intro r hr H locs ls hW hE hS hL
  obtain ⟨hx, hb, hml, hown, hts, hK, hN⟩ := X
  refine lv_icmp_gt hx hb hd ht (fun z => ?_) (fun z => ?_)
  · have z := (Ii_lt hb2 ha).mp z
    rw [if_pos z] at hr
    exact k1 z r hr H locs ls hW hE hS hL
  · have z := (not_congr (Ii_lt hb2 ha)).mp z
    rw [if_neg z] at hr
    exact k2 z r hr H locs ls hW hE hS hL
theorem ge_icmp_le {a b off : Int} {tgt : Nat} {q1 q2 : Option α} (X : Cx p s m args c cc D nL own) (hd : decode cc pc = .ok (.if_icmp .le off, 3)) (ht : (pc : Int) + off = (tgt : Int)) (ha : i32 a) (hb2 : i32 b) (k1 : a ≤ b → Ge p l e R s m args below meth c D ra base nL kc ks fin M tgt L st q1) (k2 : ¬ (a ≤ b) → Ge p l e R s m args below meth c D ra base nL kc ks fin M (pc + 3) L st q2) : Ge p l e R s m args below meth c D ra base nL kc ks fin M pc L (.int (Ii b) :: .int (Ii a) :: st) (if a ≤ b then q1 else q2) := by
  intro r hr H locs ls hW hE hS hL
  obtain ⟨hx, hb, hml, hown, hts, hK, hN⟩ := X
  refine lv_icmp_le hx hb hd ht (fun z => ?_) (fun z => ?_)
  · have z := (Ii_le ha hb2).mp z
    rw [if_pos z] at hr
    exact k1 z r hr H locs ls hW hE hS hL
  · have z := (not_congr (Ii_le ha hb2)).mp z
    rw [if_neg z] at hr
    exact k2 z r hr H locs ls hW hE hS hL
theorem ge_if_eq {a off : Int} {tgt : Nat} {q1 q2 : Option α} (X : Cx p s m args c cc D nL own) (hd : decode cc pc = .ok (.ifCond .eq off, 3)) (ht : (pc : Int) + off = (tgt : Int)) (ha : i32 a) (k1 : a = 0 → Ge p l e R s m args below meth c D ra base nL kc ks fin M tgt L st q1) (k2 : ¬ (a = 0) → Ge p l e R s m args below meth c D ra base nL kc ks fin M (pc + 3) L st q2) : Ge p l e R s m args below meth c D ra base nL kc ks fin M pc L (.int (Ii a) :: st) (if a = 0 then q1 else q2) := by
  intro r hr H locs ls hW hE hS hL
  obtain ⟨hx, hb, hml, hown, hts, hK, hN⟩ := X
  have h00 : i32 0 := by decide
  refine lv_if_eq hx hb hd ht (fun z => ?_) (fun z => ?_)
  · have z := (Ii_inj ha h00).mp z
    rw [if_pos z] at hr
    exact k1 z r hr H locs ls hW hE hS hL
  · have z := (not_congr (Ii_inj ha h00)).mp z
    rw [if_neg z] at hr
    exact k2 z r hr H locs ls hW hE hS hL
theorem ge_if_ne {a off : Int} {tgt : Nat} {q1 q2 : Option α} (X : Cx p s m args c cc D nL own) (hd : decode cc pc = .ok (.ifCond .ne off, 3)) (ht : (pc : Int) + off = (tgt : Int)) (ha : i32 a) (k1 : ¬ a = 0 → Ge p l e R s m args below meth c D ra base nL kc ks fin M tgt L st q1) (k2 : ¬ (¬ a = 0) → Ge p l e R s m args below meth c D ra base nL kc ks fin M (pc + 3) L st q2) : Ge p l e R s m args below meth c D ra base nL kc ks fin M pc L (.int (Ii a) :: st) (if ¬ a = 0 then q1 else q2) := by
  intro r hr H locs ls hW hE hS hL
  obtain ⟨hx, hb, hml, hown, hts, hK, hN⟩ := X
  have h00 : i32 0 := by decide
  refine lv_if_ne hx hb hd ht (fun z => ?_) (fun z => ?_)
  · have z := (not_congr (Ii_inj ha h00)).mp z
    rw [if_pos z] at hr
    exact k1 z r hr H locs ls hW hE hS hL
  · have z := not_not_intro ((Ii_inj ha h00).mp z)
    rw [if_neg z] at hr
    exact k2 z r hr H locs ls hW hE hS hL
theorem ge_if_lt {a off : Int} {tgt : Nat} {q1 q2 : Option α} (X : Cx p s m args c cc D nL own) (hd : decode cc pc = .ok (.ifCond .lt off, 3)) (ht : (pc : Int) + off = (tgt : Int)) (ha : i32 a) (k1 : a < 0 → Ge p l e R s m args below meth c D ra base nL kc ks fin M tgt L st q1) (k2 : ¬ (a < 0) → Ge p l e R s m args below meth c D ra base nL kc ks fin M (pc + 3) L st q2) : Ge p l e R s m args below meth c D ra base nL kc ks fin M pc L (.int (Ii a) :: st) (if a < 0 then q1 else q2) := by
  intro r hr H locs ls hW hE hS hL
  obtain ⟨hx, hb, hml, hown, hts, hK, hN⟩ := X
  have h00 : i32 0 := by decide
  refine lv_if_lt hx hb hd ht (fun z => ?_) (fun z => ?_)
  · have z := (Ii_lt ha h00).mp z
    rw [if_pos z] at hr
    exact k1 z r hr H locs ls hW hE hS hL
  · have z := (not_congr (Ii_lt ha h00)).mp z
    rw [if_neg z] at hr
    exact k2 z r hr H locs ls hW hE hS hL
theorem ge_if_ge {a off : Int} {tgt : Nat} {q1 q2 : Option α} (X : Cx p s m args c cc D nL own) (hd : decode cc pc = .ok (.ifCond .ge off, 3)) (ht : (pc : Int) + off = (tgt : Int)) (ha : i32 a) (k1 : 0 ≤ a → Ge p l e R s m args below meth c D ra base nL kc ks fin M tgt L st q1) (k2 : ¬ (0 ≤ a) → Ge p l e R s m args below meth c D ra base nL kc ks fin M (pc + 3) L st q2) : Ge p l e R s m args below meth c D ra base nL kc ks fin M pc L (.int (Ii a) :: st) (if 0 ≤ a then q1 else q2) := by
  intro r hr H locs ls hW hE hS hL
  obtain ⟨hx, hb, hml, hown, hts, hK, hN⟩ := X
  have h00 : i32 0 := by decide
  refine lv_if_ge hx hb hd ht (fun z => ?_) (fun z => ?_)
  · have z := (Ii_le h00 ha).mp z
    rw [if_pos z] at hr
    exact k1 z r hr H locs ls hW hE hS hL
  · have z := (not_congr (Ii_le h00 ha)).mp z
    rw [if_neg z] at hr
    exact k2 z r hr H locs ls hW hE hS hL
theorem ge_if_gt {a off : Int} {tgt : Nat} {q1 q2 : Option α} (X : Cx p s m args c cc D nL own) (hd : decode cc pc = .ok (.ifCond .gt off, 3)) (ht : (pc : Int) + off = (tgt : Int)) (ha : i32 a) (k1 : 0 < a → Ge p l e R s m args below meth c D ra base nL kc ks fin M tgt L st q1) (k2 : ¬ (0 < a) → Ge p l e R s m args below meth c D ra base nL kc ks fin M (pc + 3) L st q2) : Ge p l e R s m args below meth c D ra base nL kc ks fin M pc L (.int (Ii a) :: st) (if 0 < a then q1 else q2) := by
  intro r hr H locs ls hW hE hS hL
  obtain ⟨hx, hb, hml, hown, hts, hK, hN⟩ := X
  have h00 : i32 0 := by decide
  refine lv_if_gt hx hb hd ht (fun z => ?_) (fun z => ?_)
  · have z := (Ii_lt h00 ha).mp z
    rw [if_pos z] at hr
    exact k1 z r hr H locs ls hW hE hS hL
  · have z := (not_congr (Ii_lt h00 ha)).mp z
    rw [if_neg z] at hr
    exact k2 z r hr H locs ls hW hE hS hL
theorem ge_if_le {a off : Int} {tgt : Nat} {q1 q2 : Option α} (X : Cx p s m args c cc D nL own) (hd : decode cc pc = .ok (.ifCond .le off, 3)) (ht : (pc : Int) + off = (tgt : Int)) (ha : i32 a) (k1 : a ≤ 0 → Ge p l e R s m args below meth c D ra base nL kc ks fin M tgt L st q1) (k2 : ¬ (a ≤ 0) → Ge p l e R s m args below meth c D ra base nL kc ks fin M (pc + 3) L st q2) : Ge p l e R s m args below meth c D ra base nL kc ks fin M pc L (.int (Ii a) :: st) (if a ≤ 0 then q1 else q2) := by
  intro r hr H locs ls hW hE hS hL
  obtain ⟨hx, hb, hml, hown, hts, hK, hN⟩ := X
  have h00 : i32 0 := by decide
  refine lv_if_le hx hb hd ht (fun z => ?_) (fun z => ?_)
  · have z := (Ii_le ha h00).mp z
    rw [if_pos z] at hr
    exact k1 z r hr H locs ls hW hE hS hL
  · have z := (not_congr (Ii_le ha h00)).mp z
    rw [if_neg z] at hr
    exact k2 z r hr H locs ls hW hE hS hL
theorem ge_goto {k : Option α} {off : Int} {tgt : Nat} (X : Cx p s m args c cc D nL own) (hd : decode cc pc = .ok (.goto off, 3)) (ht : (pc : Int) + off = (tgt : Int)) (kk : Ge p l e R s m args below meth c D ra base nL kc ks fin M tgt L st k) : Ge p l e R s m args below meth c D ra base nL kc ks fin M pc L st k := by
  intro r hr H locs ls hW hE hS hL
  obtain ⟨hx, hb, hml, hown, hts, hK, hN⟩ := X
  exact lv_goto hx hb hd ht (kk r hr H locs ls hW hE hS hL)
theorem ge_sub {k : Option α} {L' : List (Nat × Value)} (pk : List Nat) (hl : lv_pick L pk = L') (kk : Ge p l e R s m args below meth c D ra base nL kc ks fin M pc L' st k) : Ge p l e R s m args below meth c D ra base nL kc ks fin M pc L st k := fun r hr H locs ls hW hE hS hL => kk r hr H locs ls hW hE hS (lv_sub hL pk hl)
theorem ge_lt {β : Type} {x : β} {k : β → Option α} (P : β → Prop) (h : P x) (kk : ∀ J, P J → Ge p l e R s m args below meth c D ra base nL kc ks fin M pc L st (k J)) : Ge p l e R s m args below meth c D ra base nL kc ks fin M pc L st (Lt x k) := kk x h
theorem ge_gd {cd : Prop} [Decidable cd] {k : Option α} (kk : cd → Ge p l e R s m args below meth c D ra base nL kc ks fin M pc L st k) : Ge p l e R s m args below meth c D ra base nL kc ks fin M pc L st (gd cd k) := by
  intro r hr
  unfold gd at hr
  by_cases z : cd
  · rw [if_pos z] at hr
    exact kk z r hr
  · rw [if_neg z] at hr
    exact absurd hr (by simp)
theorem ge_none : Ge p l e R s m args below meth c D ra base nL kc ks fin M pc L st none := fun r hr => absurd hr (by simp)
theorem ge_iaload {h len : Nat} {sl : List (Nat × Nat)} {j : Int} {k : Int → Option α} (X : Cx p s m args c cc D nL own) (hd : decode cc pc = .ok (.iaload, 1)) (hk : h < 686) (hT : TL h = (1, len, sl)) (hj : i32 j)
    (kk : ∀ x, i32 x → Ge p l e R s m args below meth c D ra base nL kc ks fin M (pc + 1) L (.int (Ii x) :: st) (k x)) : Ge p l e R s m args below meth c D ra base nL kc ks fin M pc L (.int (Ii j) :: .ref (base + h) :: st) (gd (0 ≤ j ∧ j < (len : Int)) (Lt (M h j.toNat) k)) := by
  refine ge_gd (fun z => ?_)
  intro r hr H locs ls hW hE hS hL
  obtain ⟨hx, hb, hml, hown, hts, hK, hN⟩ := X
  have he := Ws_get D TL base M hk
  rw [show ent D base (TL h) (M h) = .inl (D.2 0, len, .inl fun i => Ii (M h i)) by rw [hT]; rfl] at he
  have hok := hW.2 h hk j.toNat
  rw [hT] at hok
  refine va_iald hx hb hK hW.1 h 0 he rfl (vp_in_Ii z hj) hd ?_
  rw [Ii_nat hj]
  exact kk _ hok r hr H locs ls hW hE hS hL
theorem ge_widen {α : Type} {fin : α → State → Prop} {k : Option α} (kc' ks' : Nat) (h1 : kc ≤ kc') (h2 : ks ≤ ks') (kk : Ge p l e R s m args below meth c D ra base nL kc' ks' fin M pc L st k) : Ge p l e R s m args below meth c D ra base nL kc ks fin M pc L st k := fun r hr H locs ls hW hE hS hL => W.widen h1 h2 (kk r hr H locs ls hW hE hS hL)
theorem go_newR {k : Mm → Option α} (X : Cx p s m args c cc D nL own) (hd : decode cc pc = .ok (.newarray .int, 2)) (w1 : Cond.arrayClass .int ∈ LW) (hR : kc + 1 ≤ R.cells ∧ ks + 4 ≤ R.slots) (kk : ∀ ra, s.heap.size ≤ ra ∧ base + 686 ≤ ra → Ge p l e R s m args below meth c D ra base nL (kc + 1) (ks + 4) fin (z686 M) (pc + 2) L (.ref ra :: st) (k (z686 M))) : Go p l e R s m args below meth c D TL 686 base nL kc ks fin M pc L (.int (Ii 4) :: st) (Lt (z686 M) k) := by
  intro r hr H locs ls hW hS hL
  obtain ⟨hx, hb, hml, hown, hts, hK, hN⟩ := X
  refine va_newaK (atype := .int) (N := 4) hx hb (hts _ w1) rfl hd rfl (by decide) rfl (Nat.le_of_ble_eq_true rfl) hR.1 hR.2 (h := H.size) rfl fun H1 cA e1 z1 o1 hAr hNm => ?_
  have hcA : cA = D.2 0 := by
    have h9 := (hK.2 0 _ rfl).2
    exact Option.some.inj (hNm.symm.trans h9)
  subst hcA
  have hlt : base + 685 < H.size := (hW.1 685 _ (Ws_get D TL base M (by decide))).lt
  refine kk H.size ⟨hS.1, hlt⟩ r hr H1 locs ls (Wd_on (hW.kept (fun q hq => o1 q hq)) fun k hk => if_neg (by omega)) ⟨fun j q hj => ?_, fun i => ?_⟩ ⟨by rw [z1]; exact Nat.le_succ_of_le hS.1, fun q h1 h2 => by rw [o1 q (Nat.lt_of_lt_of_le h1 hS.1)]; exact hS.2.1 q h1 h2, hS.2.2⟩ hL
  · have hj0 : j = 0 := by
      have := (List.getElem?_eq_some_iff.mp hj).1
      simp at this
      exact this
    subst hj0
    cases hj
    show H1[H.size]? = some (vp_cell _ _)
    rw [e1]
    rfl
  · rw [show z686 M 686 i = 0 from rfl]
    decide
theorem ge_rld {j : Int} {k : Int → Option α} (X : Cx p s m args c cc D nL own) (hd : decode cc pc = .ok (.iaload, 1)) (hj : i32 j) (kk : ∀ x, i32 x → Ge p l e R s m args below meth c D ra base nL kc ks fin M (pc + 1) L (.int (Ii x) :: st) (k x)) : Ge p l e R s m args below meth c D ra base nL kc ks fin M pc L (.int (Ii j) :: .ref ra :: st) (gd (0 ≤ j ∧ j < 4) (Lt (M 686 j.toNat) k)) := by
  refine ge_gd (fun z => ?_)
  intro r hr H locs ls hW hE hS hL
  obtain ⟨hx, hb, hml, hown, hts, hK, hN⟩ := X
  refine va_iald hx hb hK hE.1 0 0 rfl rfl (vp_in_Ii (n := 4) z hj) hd ?_
  rw [Ii_nat hj]
  exact kk _ (hE.2 _) r hr H locs ls hW hE hS hL
theorem ge_rst {j v : Int} {k : Mm → Option α} (X : Cx p s m args c cc D nL own) (hra : s.heap.size ≤ ra ∧ base + 686 ≤ ra) (hd : decode cc pc = .ok (.iastore, 1)) (hj : i32 j) (hv : i32 v) (kk : ∀ M, Ge p l e R s m args below meth c D ra base nL kc ks fin M (pc + 1) L st (k M)) : Ge p l e R s m args below meth c D ra base nL kc ks fin M pc L (.int (Ii v) :: .int (Ii j) :: .ref ra :: st) (gd (0 ≤ j ∧ j < 4) (Lt (up M 686 j.toNat v) k)) := by
  refine ge_gd (fun z => ?_)
  intro r hr H locs ls hW hE hS hL
  obtain ⟨hx, hb, hml, hown, hts, hK, hN⟩ := X
  refine W.iast hx hb (hE.1 0 _ rfl) ((hK.2 0 _ rfl).1 4 (fun j => .int (Ii (M 686 j)))) (fun q => by cases q) (by show ¬ (_ ∨ (arrV _ _ _).slots.size ≤ _); rw [arrV_size]; exact vp_in_Ii (n := 4) z hj) rfl rfl hd fun H1 e1 z1 o1 => ?_
  refine kk _ r hr H1 _ ls (Wd_on ⟨hW.1.kept (fun k q hk => o1 q.1 ?_), hW.2⟩ fun k hk => up_ne _ _ _ (by omega)) ⟨fun q t hq => ?_, fun i => ?_⟩ (hS.put z1 o1 (Or.inr hra.1)) hL
  · have hk9 : k < 686 := by
      have := (List.getElem?_eq_some_iff.mp hk).1
      rwa [Ws_len] at this
    rw [Ws_get D TL base M hk9] at hk
    cases hk
    show base + k ≠ ra
    omega
  · have hq0 : q = 0 := by
      have := (List.getElem?_eq_some_iff.mp hq).1
      simp at this
      exact this
    subst hq0
    cases hq
    show H1[ra]? = some (vp_cell _ _)
    rw [e1]
    rw [vp_cell_i, vp_cell_i, arrV_store, Ii_nat hj]
    congr 2
    funext q
    by_cases h9 : q = j.toNat
    · subst h9
      simp [updV, up]
    · simp [updV, up, h9]
  · unfold up
    split
    · exact hv
    · exact hE.2 i
theorem ge_qzreturn {okr : Int → Prop} {x : Int} {mc ms : Nat} (X : Cx p s m args c cc D nL own) (hrt : meth.sig.returnType = some .boolean) (hlk : meth.locks = false) (hd : decode cc pc = .ok (.ireturn, 1)) (hx9 : bo x) (hok : okr x) (h1 : kc ≤ mc) (h2 : ks ≤ ms) : Ge p l e R s m args below meth c D ra base nL kc ks (FinQ D base mc ms below args s okr) M pc L [.int (Ii x)] (some (x, M)) := fun r hr H locs ls hW _ hS hL => go_qzreturn (kc := kc) (ks := ks) X hrt hlk hd hx9 hok h1 h2 r hr H locs ls hW hS hL
/-- a method of the class called that doesn't throw -/
theorem ge_ccall {okr : Int → Prop} {C : String} {y : MethodName} {cy : ByteArray} {mL : Nat} {ret : Option FieldType} {fr lo np index : Nat} {As rest : List Value} {o : Rs} {q : Int → Mm → Option α}
    (X : Cx p s m args c cc D nL own) (hra : s.heap.size ≤ ra ∧ base + 686 ≤ ra) (hM : OkI l D TC 681 base y cy mL ret fr lo (.ref (base + 0) :: As) M okr o) (hd : decode cc pc = .ok (.invokevirtual index, 3)) (w1 : Cond.methodLink own index y ∈ LW) (w2 : Cond.instanceMethod y ∈ LW) (w3 : Cond.selects C y y ∈ LW) (w4 : Cond.initialized C ∈ LW) (w5 : Cw R y cy mL ret fr lo np) (hC : y.cls = C) (hC9 : C = RX11)
    (hn : As.length = np) (hst : st = As.reverse ++ .ref (base + 0) :: rest) (hrs : (rest.map fun v => v.category).sum ≤ 8) (hkc : kc ≤ R.cells ∧ ks ≤ R.slots)
    (kk : ∀ x M, okr x → Ge p l e R s m args below meth c D ra base nL kc ks fin M (pc + 3) L (.int (Ii x) :: rest) (q x M)) : Ge p l e R s m args below meth c D ra base nL kc ks fin M pc L st (Clj o M q) := by
  intro r hr H locs ls hW hE hS hL
  obtain ⟨hx, hb, hml, hown, hts, hK, hN⟩ := X
  obtain ⟨hco, ⟨hy1, hy2, hy3⟩, hR⟩ := w5
  subst hst
  subst hC9
  cases o with
  | none => exact absurd hr (by simp [Clj])
  | some z =>
    refine va_calli (va_runV (g := F0 m pc ls (As.reverse ++ .ref (base + 0) :: rest)) (nL := nL) ⟨hx, hb, hml, hown, hts⟩ (hM H.size z rfl) (cwV np hts (good_call (y := .tt) (ws := []) (pre := [.methodLink own index y, .instanceMethod y, .selects RX11 y y, .initialized RX11]) (fun w hw => ?_) hco) rfl rfl rfl ⟨hC, hy1, hy2, hy3⟩ hR) ⟨PcW_blind, ?_, fun U hU hWm => ⟨rfl, by rw [hU], by rw [hU]; exact Wd_cut hW, va_K.moved hWm.alike hK, fun z hz => va_Nw.warmM hWm (hN z hz)⟩⟩ rfl hn hL.1 rfl (by show 2 * 0 + (rest.map fun v => v.category).sum ≤ 8; omega) hd hkc) hS (fun q _ h => FAc_le hS.1 q h) (FAc_le hS.1) (fun x u t H1 locs1 ht hvm hp hB hz hk hS1 => ?_)
    · simp only [List.mem_cons, List.not_mem_nil, or_false] at hw
      rcases hw with rfl | rfl | rfl | rfl
      · exact w1
      · exact w2
      · exact w3
      · exact w4
    · have he := Ws_get D TC base M tcn0
      rw [show ent D base (TC 0) (M 0) = .inr (11, sts base (TC 0).2.2 (M 0)) by rw [tc0]; rfl] at he
      exact va_recv hK (Wd_cut hW).1 (ci := 11) rfl he
    · rw [ht] at hB
      rw [hp.1]
      exact kk z.1 (jnM z.2 M) hp.2 r hr H1 locs1 ls (Wd_glue hW hB (Wd_rest hW hk)) (hE.kept (hk ra hE.lt (fun hf => by have hf := FA_iff.mp hf; have := hE.lt; omega))) hS1 hL
/-- .. one that catches -/
theorem ge_lcallH {okr : Int → Prop} {y : MethodName} {cy : ByteArray} {mL : Nat} {hh : List (Nat × Nat × Nat × Nat)} {fr lo np index mc2 ms2 : Nat} {As rest : List Value} {o : Rs} {q : Int → Mm → Option α}
    (X : Cx p s m args c cc D nL own) (hra : s.heap.size ≤ ra ∧ base + 686 ≤ ra) (Y : Yq s args b base N xs) (hM : OkQ l D base b N xs y (.codeWith y cy mL (some .int) hh) fr lo mc2 ms2 As M okr o) (hd : decode cc pc = .ok (.invokestatic index, 3)) (w1 : Cond.methodLink own index y ∈ LW) (w2 : Cond.static y ∈ LW) (w4 : Cond.initialized y.cls ∈ LW) (hco : Cond.codeWith y cy mL (some .int) hh ∈ LW) (hy : y.cls ≠ "java/lang/invoke/MethodHandle" ∧ y.cls ≠ "java/lang/invoke/VarHandle" ∧ (parseMethodDescriptor y.desc).map (fun d => d.parameters.length) = some np) (hR : fr + 1 ≤ R.frames ∧ 8 + (mL + 11) + lo ≤ R.locals)
    (hn : As.length = np) (hst : st = As.reverse ++ rest) (hrs : (rest.map fun v => v.category).sum ≤ 8) (hkc : kc + mc2 ≤ R.cells ∧ ks + ms2 ≤ R.slots)
    (kk : ∀ x M, okr x → Ge p l e R s m args below meth c D ra base nL (kc + mc2) (ks + ms2) fin M (pc + 3) L (.int (Ii x) :: rest) (q x M)) : Ge p l e R s m args below meth c D ra base nL kc ks fin M pc L st (Clq o M q) := by
  intro r hr H locs ls hW hE hS hL
  have hat := Yq_at Y hS
  obtain ⟨hx, hb, hml, hown, hts, hK, hN⟩ := X
  obtain ⟨hLX, hKX, hX, hbb, hbs⟩ := Y
  subst hst
  cases o with
  | none => exact absurd hr (by simp [Clq])
  | some z =>
    refine va_calli (vx_runSW (hh := hh) (bytes := cy) (maxL := mL) (ret := some .int) (g := F0 m pc ls (As.reverse ++ rest)) (nL := nL) ⟨hx, hb, hml, hown, htsX hts hLX⟩ (hM H.size z rfl) (vx_cwSW np (htsX hts hLX) (good_callX (pre := [.methodLink own index y, .static y, .initialized y.cls]) (fun w hw => ?_) hco) rfl rfl rfl hy hR) ⟨PcQ_blind, fun U hU hWm => ⟨rfl, by rw [hU], by rw [hU]; exact hW, va_K.moved hWm.alike hK, fun z hz => va_Nw.warmM hWm (hN z hz), KX_at hKX hS hU hWm, va_X.moved hWm.alike (by rw [hU]; exact hX.kept hat), hbb⟩⟩ rfl hn hL.1 rfl (by show 2 * 0 + (rest.map fun v => v.category).sum ≤ 8; omega) hd hkc) hS (FA_le hS.1) (FA_le2 hS.1) (fun x u t H1 locs1 ht hvm hp hB hz hk hS1 => ?_)
    · simp only [List.mem_cons, List.not_mem_nil, or_false] at hw
      rcases hw with rfl | rfl | rfl
      · exact w1
      · exact w2
      · exact w4
    · rw [ht] at hB
      rw [hp.1]
      exact kk z.1 (jqM z.2 M) hp.2 r hr H1 locs1 ls (Wd_on hB fun k hk => if_pos hk) (hE.kept (hk ra hE.lt (fun hf => by have hf := FA_iff.mp hf; have := hE.lt; omega))) hS1 hL
end GE
