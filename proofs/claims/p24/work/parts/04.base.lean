/-! Ints as whole numbers, the memory of a world, and what lies in the heap by it. -/
abbrev Mm : Type := Nat → Nat → Int
abbrev Ck : Type := Nat × Nat × List (Nat × Nat)
abbrev Dd : Type := va_G × (Nat → ClassId)
def Ii (v : Int) : Int32 := Int32.ofInt v
def Ll (v : Int) : Int64 := Int64.ofInt v
abbrev i32 (v : Int) : Prop := -2147483648 ≤ v ∧ v < 2147483648
abbrev i64 (v : Int) : Prop := -9223372036854775808 ≤ v ∧ v < 9223372036854775808
abbrev bo (v : Int) : Prop := v = 0 ∨ v = 1
def wr (v : Int) : Int := v.bmod 4294967296
def Lt {α β : Type} (x : α) (k : α → β) : β := k x
def gd {α : Type} (c : Prop) [Decidable c] (k : Option α) : Option α := if c then k else none
abbrev Rs : Type := Option (Int × Mm)
def Cl {α : Type} (o : Rs) (k : Int → Mm → Option α) : Option α := match o with
  | none => none
  | some q => k q.1 q.2
def up (M : Mm) (k i : Nat) (v : Int) : Mm := fun k' i' => if k' = k ∧ i' = i then v else M k' i'
theorem i32_wr (v : Int) : i32 (wr v) := by
  unfold wr i32
  have h1 := Int.le_bmod (x := v) (m := 4294967296) (by decide)
  have h2 := Int.bmod_lt (x := v) (m := 4294967296) (by decide)
  omega
theorem wr_eq {v : Int} (h : i32 v) : wr v = v := by
  unfold wr
  have := Int.bmod_eq_of_le (n := v) (m := 4294967296) (by omega) (by omega)
  exact this
theorem Ii_toInt {v : Int} (h : i32 v) : (Ii v).toInt = v := Int32.toInt_ofInt_of_le h.1 h.2
theorem Ll_toInt {v : Int} (h : i64 v) : (Ll v).toInt = v := Int64.toInt_ofInt_of_le h.1 h.2
theorem Ii_of (x : Int32) : Ii x.toInt = x := Int32.ofInt_toInt x
theorem i32_of (x : Int32) : i32 x.toInt := ⟨Int32.le_toInt x, Int32.toInt_lt x⟩
theorem Ll_of (x : Int64) : Ll x.toInt = x := Int64.ofInt_toInt x
theorem i64_of (x : Int64) : i64 x.toInt := ⟨Int64.le_toInt x, Int64.toInt_lt x⟩
theorem Ii_eq {v : Int} {x : Int32} (h : x.toInt = v) : x = Ii v := by subst h; exact (Ii_of x).symm
theorem Ll_eq {v : Int} {x : Int64} (h : x.toInt = v) : x = Ll v := by subst h; exact (Ll_of x).symm
theorem bo_i32 {v : Int} (h : bo v) : i32 v := by rcases h with rfl | rfl <;> decide
theorem Ii_inj {a b : Int} (ha : i32 a) (hb : i32 b) : Ii a = Ii b ↔ a = b := by
  rw [← Int32.toInt_inj, Ii_toInt ha, Ii_toInt hb]
theorem Ii_lt {a b : Int} (ha : i32 a) (hb : i32 b) : Ii a < Ii b ↔ a < b := by
  rw [Int32.lt_iff_toInt_lt, Ii_toInt ha, Ii_toInt hb]
theorem Ii_le {a b : Int} (ha : i32 a) (hb : i32 b) : Ii a ≤ Ii b ↔ a ≤ b := by
  rw [Int32.le_iff_toInt_le, Ii_toInt ha, Ii_toInt hb]
theorem Ii_add {a b : Int} (ha : i32 a) (hb : i32 b) : Ii a + Ii b = Ii (wr (a + b)) := Ii_eq (by rw [Int32.toInt_add, Ii_toInt ha, Ii_toInt hb]; rfl)
theorem Ii_sub {a b : Int} (ha : i32 a) (hb : i32 b) : Ii a - Ii b = Ii (wr (a - b)) := Ii_eq (by rw [Int32.toInt_sub, Ii_toInt ha, Ii_toInt hb]; rfl)
theorem Ii_mul {a b : Int} (ha : i32 a) (hb : i32 b) : Ii a * Ii b = Ii (wr (a * b)) := Ii_eq (by rw [Int32.toInt_mul, Ii_toInt ha, Ii_toInt hb]; rfl)
theorem Ii_div {a b : Int} (ha : i32 a) (hb : i32 b) : Ii a / Ii b = Ii (wr (a.tdiv b)) := Ii_eq (by rw [Int32.toInt_div, Ii_toInt ha, Ii_toInt hb]; rfl)
def jrem (a b : Int) : Int := wr (a - wr (wr (a.tdiv b) * b))
def jor (a b : Int) : Int := (Ii a ||| Ii b).toInt
def jand (a b : Int) : Int := (Ii a &&& Ii b).toInt
def jxor (a b : Int) : Int := (Ii a ^^^ Ii b).toInt
def jshl (a b : Int) : Int := (Ii a <<< (Ii b &&& 31)).toInt
def jshr (a b : Int) : Int := (Ii a >>> (Ii b &&& 31)).toInt
def lor_ (a b : Int) : Int := (Ll a ||| Ll b).toInt
def land_ (a b : Int) : Int := (Ll a &&& Ll b).toInt
def lxor_ (a b : Int) : Int := (Ll a ^^^ Ll b).toInt
def lshl_ (a b : Int) : Int := (Ll a <<< ((Ii b).toInt64 &&& 63)).toInt
def lshr_ (a b : Int) : Int := (Ll a >>> ((Ii b).toInt64 &&& 63)).toInt
def lcmp_ (a b : Int) : Int := if b < a then 1 else if a = b then 0 else -1
theorem i32_jrem (a b : Int) : i32 (jrem a b) := i32_wr _
theorem i32_jor (a b : Int) : i32 (jor a b) := i32_of _
theorem i32_jand (a b : Int) : i32 (jand a b) := i32_of _
theorem i32_jxor (a b : Int) : i32 (jxor a b) := i32_of _
theorem i32_jshl (a b : Int) : i32 (jshl a b) := i32_of _
theorem i32_jshr (a b : Int) : i32 (jshr a b) := i32_of _
theorem i64_lor (a b : Int) : i64 (lor_ a b) := i64_of _
theorem i64_land (a b : Int) : i64 (land_ a b) := i64_of _
theorem i64_lxor (a b : Int) : i64 (lxor_ a b) := i64_of _
theorem i64_lshl (a b : Int) : i64 (lshl_ a b) := i64_of _
theorem i64_lshr (a b : Int) : i64 (lshr_ a b) := i64_of _
theorem i32_lcmp (a b : Int) : i32 (lcmp_ a b) := by unfold lcmp_; (repeat' split) <;> decide
theorem Ii_lcmp {a b : Int} (ha : i64 a) (hb : i64 b) : lg_cmp (Ll a) (Ll b) = Ii (lcmp_ a b) := by
  unfold lg_cmp lcmp_
  simp only [gt_iff_lt, Int64.lt_iff_toInt_lt, ← Int64.toInt_inj, Ll_toInt ha, Ll_toInt hb]
  (repeat' split) <;> rfl
theorem i32_i64 {v : Int} (h : i32 v) : i64 v := by unfold i32 at h; unfold i64; omega
theorem Ii_long {v : Int} (h : i32 v) : (Ii v).toInt64 = Ll v := Ll_eq (by rw [Int32.toInt_toInt64, Ii_toInt h])
theorem vp_in_Ii {i : Int} {n : Nat} (h : 0 ≤ i ∧ i < n) (hi : i32 i) : vp_in (Ii i) n := by
  rintro (q | q)
  · rw [show (0 : Int32) = Ii 0 from rfl, Ii_lt hi (by decide)] at q
    omega
  · have : (Ii i).toNatClampNeg = i.toNat := by show (Ii i).toInt.toNat = _; rw [Ii_toInt hi]
    rw [this] at q
    omega
theorem Ii_nat {i : Int} (hi : i32 i) : (Ii i).toNatClampNeg = i.toNat := by show (Ii i).toInt.toNat = _; rw [Ii_toInt hi]
theorem Ii_nar {v : Int} (h : bo v) : vp_nar .boolean (Ii v) = Ii v := by rcases h with rfl | rfl <;> rfl
theorem Ii_narr {v : Int} (h : bo v) : narrow .boolean (.int (Ii v)) = .int (Ii v) := by rcases h with rfl | rfl <;> rfl
theorem Ii_fit {v : Int} (h : bo v) : fits .boolean (.int (Ii v)) = true := by rcases h with rfl | rfl <;> rfl
/-! a world: the cells base .. base + n - 1; kinds: 0 an object (its class, its slots), 1 ints, 2 booleans, 3 longs, 4 rows of Equation that may change, 5 that stand still (from, by), 6 and 7 of Frame; slots: 0 int, 1 boolean, 2 a reference that stands still, 3 one that may change, 4 long -/
def rv (base : Nat) (v : Int) : Value := if v < 0 then .null else .ref (base + v.toNat)
def ro (base : Nat) (v : Int) : Option Nat := if v < 0 then none else some (base + v.toNat)
theorem ro_rv (base : Nat) (v : Int) : va_rf (ro base v) = rv base v := by unfold ro rv; split <;> rfl
def sv (base : Nat) (q : Nat × Nat) (v : Int) : Value := match q.1 with
  | 0 => .int (Ii v)
  | 1 => .int (Ii v)
  | 2 => .ref (base + q.2)
  | 3 => rv base v
  | _ => .long (Ll v)
def sts (base : Nat) (sl : List (Nat × Nat)) (f : Nat → Int) : List Value := (List.range sl.length).map fun i => sv base (sl.getD i (0, 0)) (f i)
def ent (D : Dd) (base : Nat) (q : Ck) (f : Nat → Int) : va_E := match q.1 with
  | 0 => .inr (q.2.1, sts base q.2.2 f)
  | 1 => .inl (D.2 0, q.2.1, .inl fun i => Ii (f i))
  | 2 => .inl (D.2 1, q.2.1, .inl fun i => Ii (f i))
  | 3 => .inl (D.2 2, q.2.1, .inr (.inl fun i => Ll (f i)))
  | 4 => .inl (D.2 3, q.2.1, .inr (.inr (.inr (.inr fun i => ro base (f i)))))
  | 5 => .inl (D.2 3, q.2.1, .inr (.inr (.inr (.inr fun i => some (base + ((q.2.2.getD 0 (0, 0)).1 + (q.2.2.getD 0 (0, 0)).2 * i))))))
  | 6 => .inl (D.2 4, q.2.1, .inr (.inr (.inr (.inr fun i => ro base (f i)))))
  | _ => .inl (D.2 4, q.2.1, .inr (.inr (.inr (.inr fun i => some (base + ((q.2.2.getD 0 (0, 0)).1 + (q.2.2.getD 0 (0, 0)).2 * i))))))
def okS (q : Nat × Nat) (v : Int) : Prop := match q.1 with
  | 0 => i32 v
  | 1 => bo v
  | 4 => i64 v
  | _ => True
def okC (q : Ck) (i : Nat) (v : Int) : Prop := match q.1 with
  | 0 => okS (q.2.2.getD i (0, 0)) v
  | 1 => i32 v
  | 2 => bo v
  | 3 => i64 v
  | _ => True
def tys (D : Dd) : List (ClassId × FieldType) := [(D.2 0, .int), (D.2 1, .boolean), (D.2 2, .int), (D.2 3, .object RX0), (D.2 4, .object RX4)]
def Ws (D : Dd) (T : Nat → Ck) (n base : Nat) (M : Mm) : va_W := (List.range n).map fun k => (base + k, ent D base (T k) (M k))
def Wd (D : Dd) (T : Nat → Ck) (n base : Nat) (M : Mm) (H : Heap) : Prop := va_P D.1 vwCl (Ws D T n base M) H ∧ ∀ k, k < n → ∀ i, okC (T k) i (M k i)
def FA (base n sz : Nat) : Addr → Prop := fun q => (base ≤ q ∧ q < base + n) ∨ sz ≤ q
theorem Ws_get (D : Dd) (T : Nat → Ck) {n : Nat} (base : Nat) (M : Mm) {k : Nat} (hk : k < n) : (Ws D T n base M)[k]? = some (base + k, ent D base (T k) (M k)) := by
  unfold Ws
  rw [List.getElem?_map, List.getElem?_range hk]
  rfl
theorem Ws_len (D : Dd) (T : Nat → Ck) (n base : Nat) (M : Mm) : (Ws D T n base M).length = n := by simp [Ws]
theorem Ws_D (D : Dd) (T : Nat → Ck) (n base sz : Nat) (M : Mm) : va_D (FA base n sz) (Ws D T n base M) := by
  have hg : ∀ i p, (Ws D T n base M)[i]? = some p → i < n ∧ p.1 = base + i := by
    intro i p h
    have hi : i < n := by
      have := (List.getElem?_eq_some_iff.mp h).1
      rwa [Ws_len] at this
    rw [Ws_get D T base M hi] at h
    cases h
    exact ⟨hi, rfl⟩
  refine ⟨fun i j p q hi hj e => ?_, fun k q hk => ?_⟩
  · have h1 := (hg i p hi).2
    have h2 := (hg j q hj).2
    omega
  · obtain ⟨h1, h2⟩ := hg k q hk
    refine Or.inl ⟨?_, ?_⟩
    · rw [h2]; exact Nat.le_add_right _ _
    · rw [h2]; exact Nat.add_lt_add_left h1 _
theorem Ws_set (D : Dd) (T : Nat → Ck) {n : Nat} (base : Nat) (M M' : Mm) {k : Nat} (hk : k < n) (e : va_E) (he : ent D base (T k) (M' k) = e) (ho : ∀ j, j ≠ k → M' j = M j) : (Ws D T n base M).set k (base + k, e) = Ws D T n base M' := by
  apply List.ext_getElem?
  intro i
  rw [List.getElem?_set]
  by_cases hi : i < n
  · rw [Ws_get D T base M' hi]
    by_cases h : k = i
    · subst h
      rw [if_pos rfl, Ws_len, if_pos hk, he]
    · rw [if_neg h, Ws_get D T base M hi, ho i (fun z => h z.symm)]
  · have hi2 : n ≤ i := Nat.le_of_not_lt hi
    rw [if_neg (by omega), List.getElem?_eq_none (by rw [Ws_len]; exact hi2), List.getElem?_eq_none (by rw [Ws_len]; exact hi2)]
theorem up_at (M : Mm) (k i : Nat) (v : Int) : up M k i v k i = v := by simp [up]
theorem up_row (M : Mm) (k i : Nat) (v : Int) : up M k i v k = fun i' => if i' = i then v else M k i' := by funext i'; simp [up]
theorem up_ne (M : Mm) {k k' : Nat} (i : Nat) (v : Int) (h : k' ≠ k) : up M k i v k' = M k' := by funext i'; simp [up, h]
theorem sts_len (base : Nat) (sl : List (Nat × Nat)) (f : Nat → Int) : (sts base sl f).length = sl.length := by simp [sts]
theorem sts_get (base : Nat) {sl : List (Nat × Nat)} (f : Nat → Int) {i : Nat} {q : Nat × Nat} (h : sl[i]? = some q) : (sts base sl f)[i]? = some (sv base q (f i)) := by
  have hi : i < sl.length := (List.getElem?_eq_some_iff.mp h).1
  unfold sts
  rw [List.getElem?_map, List.getElem?_range hi]
  show some (sv base (sl.getD i (0, 0)) (f i)) = _
  rw [List.getD_eq_getElem?_getD, h]
  rfl
theorem sts_set (base : Nat) {sl : List (Nat × Nat)} (f : Nat → Int) {i : Nat} {q : Nat × Nat} (h : sl[i]? = some q) (v : Int) : (sts base sl f).set i (sv base q v) = sts base sl (fun j => if j = i then v else f j) := by
  have hi : i < sl.length := (List.getElem?_eq_some_iff.mp h).1
  apply List.ext_getElem?
  intro j
  rw [List.getElem?_set]
  by_cases hj : j < sl.length
  · obtain ⟨qj, hqj⟩ : ∃ x, sl[j]? = some x := ⟨_, List.getElem?_eq_getElem hj⟩
    rw [sts_get base (fun j => if j = i then v else f j) hqj]
    by_cases e : i = j
    · subst e
      rw [h] at hqj
      cases hqj
      rw [if_pos rfl, sts_len, if_pos hi, if_pos rfl]
    · rw [if_neg e, sts_get base f hqj, if_neg (fun z => e z.symm)]
  · rw [if_neg (by omega), List.getElem?_eq_none (by rw [sts_len]; omega), List.getElem?_eq_none (by rw [sts_len]; omega)]
theorem okC_up {T : Nat → Ck} {n : Nat} {M : Mm} {k i : Nat} {v : Int} (h : ∀ k, k < n → ∀ i, okC (T k) i (M k i)) (hv : okC (T k) i v) : ∀ k', k' < n → ∀ i', okC (T k') i' (up M k i v k' i') := by
  intro k' hk' i'
  unfold up
  split
  · rename_i e
    obtain ⟨rfl, rfl⟩ := e
    exact hv
  · exact h k' hk' i'
section GO
variable {p : Program} {l : Launch} {e : Env} {R : Room} {s : State} {m : MethodId} {args : Array Value} {below : List Frame} {meth : Method} {c : Code} {cc : ByteArray} {D : Dd} {T : Nat → Ck} {n base nL kc ks : Nat} {own : String} {α : Type} {fin : α → State → Prop} {M : Mm} {pc : Nat} {L : List (Nat × Value)} {st : List Value}
/-- what stands through a method's walk -/
def Cx (p : Program) (s : State) (m : MethodId) (args : Array Value) (c : Code) (cc : ByteArray) (D : Dd) (nL : Nat) (own : String) : Prop := p.tables.exec = Jvm.exec ∧ c.code = cc ∧ c.maxLocals = nL ∧ s.vm.findClass own = some m.cls ∧ (∀ w ∈ LW, w.before args s = true) ∧ va_K D.1 vwCl (tys D) s ∧ (∀ q ∈ NL, va_Nw (.methodLinkNest q.1 q.2.1 q.2.2.1 q.2.2.2) s)
/-- from here the walk comes to the end that k tells, if it tells one -/
def Go (p : Program) (l : Launch) (e : Env) (R : Room) (s : State) (m : MethodId) (args : Array Value) (below : List Frame) (meth : Method) (c : Code) (D : Dd) (T : Nat → Ck) (n base nL kc ks : Nat) {α : Type} (fin : α → State → Prop) (M : Mm) (pc : Nat) (L : List (Nat × Value)) (st : List Value) (k : Option α) : Prop :=
  ∀ r, k = some r → ∀ (H : Heap) (locs : List Loc) (ls : Array Slot), Wd D T n base M H → va_S (FA base n s.heap.size) s.heap H locs → lv_has ls nL L → W p l e R s m args below meth c H locs kc ks (fin r) (F0 m pc ls st)
theorem go_iload_n {k : Option α} {kf : Fin 4} {i : Nat} {v : Int32} (X : Cx p s m args c cc D nL own) (hd : decode cc pc = .ok (.iload_n kf, 1)) (hi : (kf : Nat) = i) (j : Nat) (hl : L[j]? = some (i, .int v)) (kk : Go p l e R s m args below meth c D T n base nL kc ks fin M (pc + 1) L (.int v :: st) k) : Go p l e R s m args below meth c D T n base nL kc ks fin M pc L st k := by
  intro r hr H locs ls hW hS hL
  obtain ⟨hx, hb, hml, hown, hts, hK, hN⟩ := X
  exact lv_iload_n hx hb hd hi (lv_at hL j hl) (kk r hr H locs ls hW hS hL)
theorem go_lload_n {k : Option α} {kf : Fin 4} {i : Nat} {v : Int64} (X : Cx p s m args c cc D nL own) (hd : decode cc pc = .ok (.lload_n kf, 1)) (hi : (kf : Nat) = i) (j : Nat) (hl : L[j]? = some (i, .long v)) (kk : Go p l e R s m args below meth c D T n base nL kc ks fin M (pc + 1) L (.long v :: st) k) : Go p l e R s m args below meth c D T n base nL kc ks fin M pc L st k := by
  intro r hr H locs ls hW hS hL
  obtain ⟨hx, hb, hml, hown, hts, hK, hN⟩ := X
  exact lv_lload_n hx hb hd hi (lv_at hL j hl) (kk r hr H locs ls hW hS hL)
theorem go_aload_n {k : Option α} {kf : Fin 4} {i : Nat} {v : Nat} (X : Cx p s m args c cc D nL own) (hd : decode cc pc = .ok (.aload_n kf, 1)) (hi : (kf : Nat) = i) (j : Nat) (hl : L[j]? = some (i, .ref v)) (kk : Go p l e R s m args below meth c D T n base nL kc ks fin M (pc + 1) L (.ref v :: st) k) : Go p l e R s m args below meth c D T n base nL kc ks fin M pc L st k := by
  intro r hr H locs ls hW hS hL
  obtain ⟨hx, hb, hml, hown, hts, hK, hN⟩ := X
  exact lv_aload_n hx hb hd hi (lv_at hL j hl) (kk r hr H locs ls hW hS hL)
theorem go_iload {k : Option α} {i : Nat} {v : Int32} (X : Cx p s m args c cc D nL own) (hd : decode cc pc = .ok (.iload i, 2)) (j : Nat) (hl : L[j]? = some (i, .int v)) (kk : Go p l e R s m args below meth c D T n base nL kc ks fin M (pc + 2) L (.int v :: st) k) : Go p l e R s m args below meth c D T n base nL kc ks fin M pc L st k := by
  intro r hr H locs ls hW hS hL
  obtain ⟨hx, hb, hml, hown, hts, hK, hN⟩ := X
  exact lv_iload hx hb hd (lv_at hL j hl) (kk r hr H locs ls hW hS hL)
theorem go_lload {k : Option α} {i : Nat} {v : Int64} (X : Cx p s m args c cc D nL own) (hd : decode cc pc = .ok (.lload i, 2)) (j : Nat) (hl : L[j]? = some (i, .long v)) (kk : Go p l e R s m args below meth c D T n base nL kc ks fin M (pc + 2) L (.long v :: st) k) : Go p l e R s m args below meth c D T n base nL kc ks fin M pc L st k := by
  intro r hr H locs ls hW hS hL
  obtain ⟨hx, hb, hml, hown, hts, hK, hN⟩ := X
  exact lv_lload hx hb hd (lv_at hL j hl) (kk r hr H locs ls hW hS hL)
theorem go_aload {k : Option α} {i : Nat} {v : Nat} (X : Cx p s m args c cc D nL own) (hd : decode cc pc = .ok (.aload i, 2)) (j : Nat) (hl : L[j]? = some (i, .ref v)) (kk : Go p l e R s m args below meth c D T n base nL kc ks fin M (pc + 2) L (.ref v :: st) k) : Go p l e R s m args below meth c D T n base nL kc ks fin M pc L st k := by
  intro r hr H locs ls hW hS hL
  obtain ⟨hx, hb, hml, hown, hts, hK, hN⟩ := X
  exact lv_aload hx hb hd (lv_at hL j hl) (kk r hr H locs ls hW hS hL)
theorem go_istore_n {k : Option α} {kf : Fin 4} {i : Nat} {v : Int32} {L' : List (Nat × Value)} (X : Cx p s m args c cc D nL own) (hd : decode cc pc = .ok (.istore_n kf, 1)) (hi : (kf : Nat) = i) (hn : i < nL) (hl : (i, Value.int v) :: L.filter (fun q => !(q.1 == i) && !(q.1 + 1 == i && q.2.category == 2)) = L') (kk : Go p l e R s m args below meth c D T n base nL kc ks fin M (pc + 1) L' st k) : Go p l e R s m args below meth c D T n base nL kc ks fin M pc L (.int v :: st) k := by
  intro r hr H locs ls hW hS hL
  obtain ⟨hx, hb, hml, hown, hts, hK, hN⟩ := X
  exact lv_istore_n hx hb hd hi hL hn hl (fun ls hl => kk r hr H locs ls hW hS hl)
theorem go_istore {k : Option α} {i : Nat} {v : Int32} {L' : List (Nat × Value)} (X : Cx p s m args c cc D nL own) (hd : decode cc pc = .ok (.istore i, 2)) (hn : i < nL) (hl : (i, Value.int v) :: L.filter (fun q => !(q.1 == i) && !(q.1 + 1 == i && q.2.category == 2)) = L') (kk : Go p l e R s m args below meth c D T n base nL kc ks fin M (pc + 2) L' st k) : Go p l e R s m args below meth c D T n base nL kc ks fin M pc L (.int v :: st) k := by
  intro r hr H locs ls hW hS hL
  obtain ⟨hx, hb, hml, hown, hts, hK, hN⟩ := X
  exact lv_istore hx hb hd hL hn hl (fun ls hl => kk r hr H locs ls hW hS hl)
theorem go_astore_n {k : Option α} {kf : Fin 4} {i : Nat} {v : Nat} {L' : List (Nat × Value)} (X : Cx p s m args c cc D nL own) (hd : decode cc pc = .ok (.astore_n kf, 1)) (hi : (kf : Nat) = i) (hn : i < nL) (hl : (i, Value.ref v) :: L.filter (fun q => !(q.1 == i) && !(q.1 + 1 == i && q.2.category == 2)) = L') (kk : Go p l e R s m args below meth c D T n base nL kc ks fin M (pc + 1) L' st k) : Go p l e R s m args below meth c D T n base nL kc ks fin M pc L (.ref v :: st) k := by
  intro r hr H locs ls hW hS hL
  obtain ⟨hx, hb, hml, hown, hts, hK, hN⟩ := X
  exact lv_astore_n hx hb hd hi hL hn hl (fun ls hl => kk r hr H locs ls hW hS hl)
theorem go_astore {k : Option α} {i : Nat} {v : Nat} {L' : List (Nat × Value)} (X : Cx p s m args c cc D nL own) (hd : decode cc pc = .ok (.astore i, 2)) (hn : i < nL) (hl : (i, Value.ref v) :: L.filter (fun q => !(q.1 == i) && !(q.1 + 1 == i && q.2.category == 2)) = L') (kk : Go p l e R s m args below meth c D T n base nL kc ks fin M (pc + 2) L' st k) : Go p l e R s m args below meth c D T n base nL kc ks fin M pc L (.ref v :: st) k := by
  intro r hr H locs ls hW hS hL
  obtain ⟨hx, hb, hml, hown, hts, hK, hN⟩ := X
  exact lv_astore hx hb hd hL hn hl (fun ls hl => kk r hr H locs ls hW hS hl)
theorem go_lstore_n {k : Option α} {kf : Fin 4} {i : Nat} {v : Int64} {L' : List (Nat × Value)} (X : Cx p s m args c cc D nL own) (hd : decode cc pc = .ok (.lstore_n kf, 1)) (hi : (kf : Nat) = i) (hn : i + 1 < nL) (hl : (i, Value.long v) :: L.filter (fun q => !(q.1 == i) && (!(q.1 == i + 1) && !(q.1 + 1 == i && q.2.category == 2))) = L') (kk : Go p l e R s m args below meth c D T n base nL kc ks fin M (pc + 1) L' st k) : Go p l e R s m args below meth c D T n base nL kc ks fin M pc L (.long v :: st) k := by
  intro r hr H locs ls hW hS hL
  obtain ⟨hx, hb, hml, hown, hts, hK, hN⟩ := X
  exact lv_lstore_n hx hb hd hi hL hn hl (fun ls hl => kk r hr H locs ls hW hS hl)
theorem go_lstore {k : Option α} {i : Nat} {v : Int64} {L' : List (Nat × Value)} (X : Cx p s m args c cc D nL own) (hd : decode cc pc = .ok (.lstore i, 2)) (hn : i + 1 < nL) (hl : (i, Value.long v) :: L.filter (fun q => !(q.1 == i) && (!(q.1 == i + 1) && !(q.1 + 1 == i && q.2.category == 2))) = L') (kk : Go p l e R s m args below meth c D T n base nL kc ks fin M (pc + 2) L' st k) : Go p l e R s m args below meth c D T n base nL kc ks fin M pc L (.long v :: st) k := by
  intro r hr H locs ls hW hS hL
  obtain ⟨hx, hb, hml, hown, hts, hK, hN⟩ := X
  exact lv_lstore hx hb hd hL hn hl (fun ls hl => kk r hr H locs ls hW hS hl)
theorem go_sub {k : Option α} {L' : List (Nat × Value)} (pk : List Nat) (hl : lv_pick L pk = L') (kk : Go p l e R s m args below meth c D T n base nL kc ks fin M pc L' st k) : Go p l e R s m args below meth c D T n base nL kc ks fin M pc L st k := fun r hr H locs ls hW hS hL => kk r hr H locs ls hW hS (lv_sub hL pk hl)
theorem go_iconst {k : Option α} {q v : Int} (X : Cx p s m args c cc D nL own) (hd : decode cc pc = .ok (.iconst q, 1)) (hv : Int32.ofInt q = Ii v) (kk : Go p l e R s m args below meth c D T n base nL kc ks fin M (pc + 1) L (.int (Ii v) :: st) k) : Go p l e R s m args below meth c D T n base nL kc ks fin M pc L st k := by
  intro r hr H locs ls hW hS hL
  obtain ⟨hx, hb, hml, hown, hts, hK, hN⟩ := X
  exact lv_iconst hx hb hd hv (kk r hr H locs ls hW hS hL)
theorem go_bipush {k : Option α} {q v : Int} (X : Cx p s m args c cc D nL own) (hd : decode cc pc = .ok (.bipush q, 2)) (hv : (Int8.ofInt q).toInt32 = Ii v) (kk : Go p l e R s m args below meth c D T n base nL kc ks fin M (pc + 2) L (.int (Ii v) :: st) k) : Go p l e R s m args below meth c D T n base nL kc ks fin M pc L st k := by
  intro r hr H locs ls hW hS hL
  obtain ⟨hx, hb, hml, hown, hts, hK, hN⟩ := X
  exact lv_bipush hx hb hd hv (kk r hr H locs ls hW hS hL)
theorem go_sipush {k : Option α} {q v : Int} (X : Cx p s m args c cc D nL own) (hd : decode cc pc = .ok (.sipush q, 3)) (hv : (Int16.ofInt q).toInt32 = Ii v) (kk : Go p l e R s m args below meth c D T n base nL kc ks fin M (pc + 3) L (.int (Ii v) :: st) k) : Go p l e R s m args below meth c D T n base nL kc ks fin M pc L st k := by
  intro r hr H locs ls hW hS hL
  obtain ⟨hx, hb, hml, hown, hts, hK, hN⟩ := X
  exact lv_sipush hx hb hd hv (kk r hr H locs ls hW hS hL)
theorem go_ldc {k : Option α} {ix : Nat} {w : Int32} {v : Int} (X : Cx p s m args c cc D nL own) (hd : decode cc pc = .ok (.ldc ix, 2)) (hc : Cond.constant own ix w ∈ LW) (hv : w = Ii v) (kk : Go p l e R s m args below meth c D T n base nL kc ks fin M (pc + 2) L (.int (Ii v) :: st) k) : Go p l e R s m args below meth c D T n base nL kc ks fin M pc L st k := by
  intro r hr H locs ls hW hS hL
  obtain ⟨hx, hb, hml, hown, hts, hK, hN⟩ := X
  subst hv
  exact lv_ldc hx hb hown (hts _ hc) hd (kk r hr H locs ls hW hS hL)
theorem go_ldcw {k : Option α} {ix : Nat} {w : Int32} {v : Int} (X : Cx p s m args c cc D nL own) (hd : decode cc pc = .ok (.ldc_w ix, 3)) (hc : Cond.constant own ix w ∈ LW) (hv : w = Ii v) (kk : Go p l e R s m args below meth c D T n base nL kc ks fin M (pc + 3) L (.int (Ii v) :: st) k) : Go p l e R s m args below meth c D T n base nL kc ks fin M pc L st k := by
  intro r hr H locs ls hW hS hL
  obtain ⟨hx, hb, hml, hown, hts, hK, hN⟩ := X
  subst hv
  exact lv_ldcw hx hb hown (hts _ hc) hd (kk r hr H locs ls hW hS hL)
theorem go_lconst {k : Option α} {q : Fin 2} {v : Int} (X : Cx p s m args c cc D nL own) (hd : decode cc pc = .ok (.lconst q, 1)) (hv : Int64.ofNat (q : Nat) = Ll v) (kk : Go p l e R s m args below meth c D T n base nL kc ks fin M (pc + 1) L (.long (Ll v) :: st) k) : Go p l e R s m args below meth c D T n base nL kc ks fin M pc L st k := by
  intro r hr H locs ls hW hS hL
  obtain ⟨hx, hb, hml, hown, hts, hK, hN⟩ := X
  exact lv_lconst hx hb hd hv (kk r hr H locs ls hW hS hL)
theorem go_ldc2 {k : Option α} {ix : Nat} {w : Int64} {v : Int} (X : Cx p s m args c cc D nL own) (hd : decode cc pc = .ok (.ldc2_w ix, 3)) (hc : Cond.constantLong own ix w ∈ LW) (hv : w = Ll v) (kk : Go p l e R s m args below meth c D T n base nL kc ks fin M (pc + 3) L (.long (Ll v) :: st) k) : Go p l e R s m args below meth c D T n base nL kc ks fin M pc L st k := by
  intro r hr H locs ls hW hS hL
  obtain ⟨hx, hb, hml, hown, hts, hK, hN⟩ := X
  subst hv
  exact lv_ldc2 hx hb hown (hts _ hc) hd (kk r hr H locs ls hW hS hL)
theorem go_iadd {a b : Int} {k : Int → Option α} (X : Cx p s m args c cc D nL own) (hd : decode cc pc = .ok (.iadd, 1)) (ha : i32 a) (hb2 : i32 b) (kk : ∀ x, i32 x → Go p l e R s m args below meth c D T n base nL kc ks fin M (pc + 1) L (.int (Ii x) :: st) (k x)) : Go p l e R s m args below meth c D T n base nL kc ks fin M pc L (.int (Ii b) :: .int (Ii a) :: st) (Lt (wr (a + b)) k) := by
  intro r hr H locs ls hW hS hL
  obtain ⟨hx, hb, hml, hown, hts, hK, hN⟩ := X
  refine lv_iadd hx hb hd ?_
  rw [Ii_add ha hb2]
  exact (kk _ (i32_wr _) r hr H locs ls hW hS hL)
theorem go_isub {a b : Int} {k : Int → Option α} (X : Cx p s m args c cc D nL own) (hd : decode cc pc = .ok (.isub, 1)) (ha : i32 a) (hb2 : i32 b) (kk : ∀ x, i32 x → Go p l e R s m args below meth c D T n base nL kc ks fin M (pc + 1) L (.int (Ii x) :: st) (k x)) : Go p l e R s m args below meth c D T n base nL kc ks fin M pc L (.int (Ii b) :: .int (Ii a) :: st) (Lt (wr (a - b)) k) := by
  intro r hr H locs ls hW hS hL
  obtain ⟨hx, hb, hml, hown, hts, hK, hN⟩ := X
  refine lv_isub hx hb hd ?_
  rw [Ii_sub ha hb2]
  exact (kk _ (i32_wr _) r hr H locs ls hW hS hL)
theorem go_imul {a b : Int} {k : Int → Option α} (X : Cx p s m args c cc D nL own) (hd : decode cc pc = .ok (.imul, 1)) (ha : i32 a) (hb2 : i32 b) (kk : ∀ x, i32 x → Go p l e R s m args below meth c D T n base nL kc ks fin M (pc + 1) L (.int (Ii x) :: st) (k x)) : Go p l e R s m args below meth c D T n base nL kc ks fin M pc L (.int (Ii b) :: .int (Ii a) :: st) (Lt (wr (a * b)) k) := by
  intro r hr H locs ls hW hS hL
  obtain ⟨hx, hb, hml, hown, hts, hK, hN⟩ := X
  refine lv_imul hx hb hd ?_
  rw [Ii_mul ha hb2]
  exact (kk _ (i32_wr _) r hr H locs ls hW hS hL)
theorem go_idiv {a b : Int} {k : Int → Option α} (X : Cx p s m args c cc D nL own) (hd : decode cc pc = .ok (.idiv, 1)) (ha : i32 a) (hb2 : i32 b) (h0 : ¬ b = 0) (kk : ∀ x, i32 x → Go p l e R s m args below meth c D T n base nL kc ks fin M (pc + 1) L (.int (Ii x) :: st) (k x)) : Go p l e R s m args below meth c D T n base nL kc ks fin M pc L (.int (Ii b) :: .int (Ii a) :: st) (Lt (wr (a.tdiv b)) k) := by
  intro r hr H locs ls hW hS hL
  obtain ⟨hx, hb, hml, hown, hts, hK, hN⟩ := X
  refine lv_idiv hx hb hd (fun z => h0 ((Ii_inj hb2 (by decide)).mp z)) ?_
  rw [Ii_div ha hb2]
  exact (kk _ (i32_wr _) r hr H locs ls hW hS hL)
theorem go_irem {a b : Int} {k : Int → Option α} (X : Cx p s m args c cc D nL own) (hd : decode cc pc = .ok (.irem, 1)) (ha : i32 a) (hb2 : i32 b) (h0 : ¬ b = 0) (kk : ∀ x, i32 x → Go p l e R s m args below meth c D T n base nL kc ks fin M (pc + 1) L (.int (Ii x) :: st) (k x)) : Go p l e R s m args below meth c D T n base nL kc ks fin M pc L (.int (Ii b) :: .int (Ii a) :: st) (Lt (jrem a b) k) := by
  intro r hr H locs ls hW hS hL
  obtain ⟨hx, hb, hml, hown, hts, hK, hN⟩ := X
  refine lv_irem hx hb hd (fun z => h0 ((Ii_inj hb2 (by decide)).mp z)) ?_
  rw [Ii_div ha hb2, Ii_mul (i32_wr _) hb2, Ii_sub ha (i32_wr _)]
  exact (kk _ (i32_jrem _ _) r hr H locs ls hW hS hL)
theorem go_ior {a b : Int} {k : Int → Option α} (X : Cx p s m args c cc D nL own) (hd : decode cc pc = .ok (.ior, 1)) (ha : i32 a) (hb2 : i32 b) (kk : ∀ x, i32 x → Go p l e R s m args below meth c D T n base nL kc ks fin M (pc + 1) L (.int (Ii x) :: st) (k x)) : Go p l e R s m args below meth c D T n base nL kc ks fin M pc L (.int (Ii b) :: .int (Ii a) :: st) (Lt (jor a b) k) := by
  intro r hr H locs ls hW hS hL
  obtain ⟨hx, hb, hml, hown, hts, hK, hN⟩ := X
  refine lv_ior hx hb hd ?_
  rw [Ii_eq (x := Ii a ||| Ii b) rfl]
  exact (kk _ (i32_jor _ _) r hr H locs ls hW hS hL)
theorem go_iand {a b : Int} {k : Int → Option α} (X : Cx p s m args c cc D nL own) (hd : decode cc pc = .ok (.iand, 1)) (ha : i32 a) (hb2 : i32 b) (kk : ∀ x, i32 x → Go p l e R s m args below meth c D T n base nL kc ks fin M (pc + 1) L (.int (Ii x) :: st) (k x)) : Go p l e R s m args below meth c D T n base nL kc ks fin M pc L (.int (Ii b) :: .int (Ii a) :: st) (Lt (jand a b) k) := by
  intro r hr H locs ls hW hS hL
  obtain ⟨hx, hb, hml, hown, hts, hK, hN⟩ := X
  refine lv_iand hx hb hd ?_
  rw [Ii_eq (x := Ii a &&& Ii b) rfl]
  exact (kk _ (i32_jand _ _) r hr H locs ls hW hS hL)
theorem go_ixor {a b : Int} {k : Int → Option α} (X : Cx p s m args c cc D nL own) (hd : decode cc pc = .ok (.ixor, 1)) (ha : i32 a) (hb2 : i32 b) (kk : ∀ x, i32 x → Go p l e R s m args below meth c D T n base nL kc ks fin M (pc + 1) L (.int (Ii x) :: st) (k x)) : Go p l e R s m args below meth c D T n base nL kc ks fin M pc L (.int (Ii b) :: .int (Ii a) :: st) (Lt (jxor a b) k) := by
  intro r hr H locs ls hW hS hL
  obtain ⟨hx, hb, hml, hown, hts, hK, hN⟩ := X
  refine lv_ixor hx hb hd ?_
  rw [Ii_eq (x := Ii a ^^^ Ii b) rfl]
  exact (kk _ (i32_jxor _ _) r hr H locs ls hW hS hL)
theorem go_ishl {a b : Int} {k : Int → Option α} (X : Cx p s m args c cc D nL own) (hd : decode cc pc = .ok (.ishl, 1)) (ha : i32 a) (hb2 : i32 b) (kk : ∀ x, i32 x → Go p l e R s m args below meth c D T n base nL kc ks fin M (pc + 1) L (.int (Ii x) :: st) (k x)) : Go p l e R s m args below meth c D T n base nL kc ks fin M pc L (.int (Ii b) :: .int (Ii a) :: st) (Lt (jshl a b) k) := by
  intro r hr H locs ls hW hS hL
  obtain ⟨hx, hb, hml, hown, hts, hK, hN⟩ := X
  refine lv_ishl hx hb hd ?_
  rw [Ii_eq (x := Ii a <<< (Ii b &&& 31)) rfl]
  exact (kk _ (i32_jshl _ _) r hr H locs ls hW hS hL)
theorem go_ishr {a b : Int} {k : Int → Option α} (X : Cx p s m args c cc D nL own) (hd : decode cc pc = .ok (.ishr, 1)) (ha : i32 a) (hb2 : i32 b) (kk : ∀ x, i32 x → Go p l e R s m args below meth c D T n base nL kc ks fin M (pc + 1) L (.int (Ii x) :: st) (k x)) : Go p l e R s m args below meth c D T n base nL kc ks fin M pc L (.int (Ii b) :: .int (Ii a) :: st) (Lt (jshr a b) k) := by
  intro r hr H locs ls hW hS hL
  obtain ⟨hx, hb, hml, hown, hts, hK, hN⟩ := X
  refine lv_ishr hx hb hd ?_
  rw [Ii_eq (x := Ii a >>> (Ii b &&& 31)) rfl]
  exact (kk _ (i32_jshr _ _) r hr H locs ls hW hS hL)
theorem go_lor {a b : Int} {k : Int → Option α} (X : Cx p s m args c cc D nL own) (hd : decode cc pc = .ok (.lor, 1)) (ha : i64 a) (hb2 : i64 b) (kk : ∀ x, i64 x → Go p l e R s m args below meth c D T n base nL kc ks fin M (pc + 1) L (.long (Ll x) :: st) (k x)) : Go p l e R s m args below meth c D T n base nL kc ks fin M pc L (.long (Ll b) :: .long (Ll a) :: st) (Lt (lor_ a b) k) := by
  intro r hr H locs ls hW hS hL
  obtain ⟨hx, hb, hml, hown, hts, hK, hN⟩ := X
  refine lv_lor hx hb hd ?_
  rw [Ll_eq (x := Ll a ||| Ll b) rfl]
  exact (kk _ (i64_lor _ _) r hr H locs ls hW hS hL)
theorem go_land {a b : Int} {k : Int → Option α} (X : Cx p s m args c cc D nL own) (hd : decode cc pc = .ok (.land, 1)) (ha : i64 a) (hb2 : i64 b) (kk : ∀ x, i64 x → Go p l e R s m args below meth c D T n base nL kc ks fin M (pc + 1) L (.long (Ll x) :: st) (k x)) : Go p l e R s m args below meth c D T n base nL kc ks fin M pc L (.long (Ll b) :: .long (Ll a) :: st) (Lt (land_ a b) k) := by
  intro r hr H locs ls hW hS hL
  obtain ⟨hx, hb, hml, hown, hts, hK, hN⟩ := X
  refine lv_land hx hb hd ?_
  rw [Ll_eq (x := Ll a &&& Ll b) rfl]
  exact (kk _ (i64_land _ _) r hr H locs ls hW hS hL)
theorem go_lxor {a b : Int} {k : Int → Option α} (X : Cx p s m args c cc D nL own) (hd : decode cc pc = .ok (.lxor, 1)) (ha : i64 a) (hb2 : i64 b) (kk : ∀ x, i64 x → Go p l e R s m args below meth c D T n base nL kc ks fin M (pc + 1) L (.long (Ll x) :: st) (k x)) : Go p l e R s m args below meth c D T n base nL kc ks fin M pc L (.long (Ll b) :: .long (Ll a) :: st) (Lt (lxor_ a b) k) := by
  intro r hr H locs ls hW hS hL
  obtain ⟨hx, hb, hml, hown, hts, hK, hN⟩ := X
  refine lv_lxor hx hb hd ?_
  rw [Ll_eq (x := Ll a ^^^ Ll b) rfl]
  exact (kk _ (i64_lxor _ _) r hr H locs ls hW hS hL)
theorem go_lshl {a b : Int} {k : Int → Option α} (X : Cx p s m args c cc D nL own) (hd : decode cc pc = .ok (.lshl, 1)) (ha : i64 a) (hb2 : i32 b) (kk : ∀ x, i64 x → Go p l e R s m args below meth c D T n base nL kc ks fin M (pc + 1) L (.long (Ll x) :: st) (k x)) : Go p l e R s m args below meth c D T n base nL kc ks fin M pc L (.int (Ii b) :: .long (Ll a) :: st) (Lt (lshl_ a b) k) := by
  intro r hr H locs ls hW hS hL
  obtain ⟨hx, hb, hml, hown, hts, hK, hN⟩ := X
  exact lv_lshl hx hb hd (Ll_eq (x := Ll a <<< ((Ii b).toInt64 &&& 63)) rfl) (kk _ (i64_lshl _ _) r hr H locs ls hW hS hL)
theorem go_lshr {a b : Int} {k : Int → Option α} (X : Cx p s m args c cc D nL own) (hd : decode cc pc = .ok (.lshr, 1)) (ha : i64 a) (hb2 : i32 b) (kk : ∀ x, i64 x → Go p l e R s m args below meth c D T n base nL kc ks fin M (pc + 1) L (.long (Ll x) :: st) (k x)) : Go p l e R s m args below meth c D T n base nL kc ks fin M pc L (.int (Ii b) :: .long (Ll a) :: st) (Lt (lshr_ a b) k) := by
  intro r hr H locs ls hW hS hL
  obtain ⟨hx, hb, hml, hown, hts, hK, hN⟩ := X
  exact lv_lshr hx hb hd (Ll_eq (x := Ll a >>> ((Ii b).toInt64 &&& 63)) rfl) (kk _ (i64_lshr _ _) r hr H locs ls hW hS hL)
theorem go_lcmp {a b : Int} {k : Int → Option α} (X : Cx p s m args c cc D nL own) (hd : decode cc pc = .ok (.lcmp, 1)) (ha : i64 a) (hb2 : i64 b) (kk : ∀ x, i32 x → Go p l e R s m args below meth c D T n base nL kc ks fin M (pc + 1) L (.int (Ii x) :: st) (k x)) : Go p l e R s m args below meth c D T n base nL kc ks fin M pc L (.long (Ll b) :: .long (Ll a) :: st) (Lt (lcmp_ a b) k) := by
  intro r hr H locs ls hW hS hL
  obtain ⟨hx, hb, hml, hown, hts, hK, hN⟩ := X
  refine W.lcmp hx hb hd ?_
  rw [Ii_lcmp ha hb2]
  exact (kk _ (i32_lcmp _ _) r hr H locs ls hW hS hL)
theorem go_i2l {k : Option α} {a : Int} (X : Cx p s m args c cc D nL own) (hd : decode cc pc = .ok (.i2l, 1)) (ha : i32 a) (kk : Go p l e R s m args below meth c D T n base nL kc ks fin M (pc + 1) L (.long (Ll a) :: st) k) : Go p l e R s m args below meth c D T n base nL kc ks fin M pc L (.int (Ii a) :: st) k := by
  intro r hr H locs ls hW hS hL
  obtain ⟨hx, hb, hml, hown, hts, hK, hN⟩ := X
  exact lv_i2l hx hb hd (Ii_long ha) (kk r hr H locs ls hW hS hL)
theorem go_iinc {a q : Int} {i j : Nat} {L' : Int → List (Nat × Value)} {k : Int → Option α} (X : Cx p s m args c cc D nL own) (hd : decode cc pc = .ok (.iinc i q, 3)) (ha : i32 a) (hq : i32 q) (hj : L[j]? = some (i, .int (Ii a))) (hn : i < nL) (hl : ∀ v : Int, (i, Value.int (Ii v)) :: L.filter (fun q => !(q.1 == i) && !(q.1 + 1 == i && q.2.category == 2)) = L' v) (kk : ∀ x, i32 x → Go p l e R s m args below meth c D T n base nL kc ks fin M (pc + 3) (L' x) st (k x)) : Go p l e R s m args below meth c D T n base nL kc ks fin M pc L st (Lt (wr (a + q)) k) := by
  intro r hr H locs ls hW hS hL
  obtain ⟨hx, hb, hml, hown, hts, hK, hN⟩ := X
  exact lv_iinc hx hb hd hL hj (show Ii a + Ii q = _ from Ii_add ha hq) hn (hl _) (fun ls hl => kk _ (i32_wr _) r hr H locs ls hW hS hl)
theorem go_dup {k : Option α} {v : Value} (X : Cx p s m args c cc D nL own) (hd : decode cc pc = .ok (.dup, 1)) (hv : v.category = 1) (kk : Go p l e R s m args below meth c D T n base nL kc ks fin M (pc + 1) L (v :: v :: st) k) : Go p l e R s m args below meth c D T n base nL kc ks fin M pc L (v :: st) k := by
  intro r hr H locs ls hW hS hL
  obtain ⟨hx, hb, hml, hown, hts, hK, hN⟩ := X
  exact lv_dup hx hb hd hv (kk r hr H locs ls hW hS hL)
theorem go_dup2 {k : Option α} {v w : Value} (X : Cx p s m args c cc D nL own) (hd : decode cc pc = .ok (.dup2, 1)) (hv : v.category = 1) (hw : w.category = 1) (kk : Go p l e R s m args below meth c D T n base nL kc ks fin M (pc + 1) L (v :: w :: v :: w :: st) k) : Go p l e R s m args below meth c D T n base nL kc ks fin M pc L (v :: w :: st) k := by
  intro r hr H locs ls hW hS hL
  obtain ⟨hx, hb, hml, hown, hts, hK, hN⟩ := X
  exact lv_dup2_11 hx hb hd hv hw (kk r hr H locs ls hW hS hL)
theorem go_pop {k : Option α} {v : Value} (X : Cx p s m args c cc D nL own) (hd : decode cc pc = .ok (.pop, 1)) (hv : v.category = 1) (kk : Go p l e R s m args below meth c D T n base nL kc ks fin M (pc + 1) L st k) : Go p l e R s m args below meth c D T n base nL kc ks fin M pc L (v :: st) k := by
  intro r hr H locs ls hW hS hL
  obtain ⟨hx, hb, hml, hown, hts, hK, hN⟩ := X
  exact lv_pop hx hb hd hv (kk r hr H locs ls hW hS hL)
theorem go_goto {k : Option α} {off : Int} {tgt : Nat} (X : Cx p s m args c cc D nL own) (hd : decode cc pc = .ok (.goto off, 3)) (ht : (pc : Int) + off = (tgt : Int)) (kk : Go p l e R s m args below meth c D T n base nL kc ks fin M tgt L st k) : Go p l e R s m args below meth c D T n base nL kc ks fin M pc L st k := by
  intro r hr H locs ls hW hS hL
  obtain ⟨hx, hb, hml, hown, hts, hK, hN⟩ := X
  exact lv_goto hx hb hd ht (kk r hr H locs ls hW hS hL)
theorem go_icmp_eq {a b off : Int} {tgt : Nat} {q1 q2 : Option α} (X : Cx p s m args c cc D nL own) (hd : decode cc pc = .ok (.if_icmp .eq off, 3)) (ht : (pc : Int) + off = (tgt : Int)) (ha : i32 a) (hb2 : i32 b) (k1 : a = b → Go p l e R s m args below meth c D T n base nL kc ks fin M tgt L st q1) (k2 : ¬ (a = b) → Go p l e R s m args below meth c D T n base nL kc ks fin M (pc + 3) L st q2) : Go p l e R s m args below meth c D T n base nL kc ks fin M pc L (.int (Ii b) :: .int (Ii a) :: st) (if a = b then q1 else q2) := by
  intro r hr H locs ls hW hS hL
  obtain ⟨hx, hb, hml, hown, hts, hK, hN⟩ := X
  refine lv_icmp_eq hx hb hd ht (fun z => ?_) (fun z => ?_)
  · have z := (Ii_inj ha hb2).mp z
    rw [if_pos z] at hr
    exact k1 z r hr H locs ls hW hS hL
  · have z := (not_congr (Ii_inj ha hb2)).mp z
    rw [if_neg z] at hr
    exact k2 z r hr H locs ls hW hS hL
theorem go_icmp_ne {a b off : Int} {tgt : Nat} {q1 q2 : Option α} (X : Cx p s m args c cc D nL own) (hd : decode cc pc = .ok (.if_icmp .ne off, 3)) (ht : (pc : Int) + off = (tgt : Int)) (ha : i32 a) (hb2 : i32 b) (k1 : ¬ a = b → Go p l e R s m args below meth c D T n base nL kc ks fin M tgt L st q1) (k2 : ¬ (¬ a = b) → Go p l e R s m args below meth c D T n base nL kc ks fin M (pc + 3) L st q2) : Go p l e R s m args below meth c D T n base nL kc ks fin M pc L (.int (Ii b) :: .int (Ii a) :: st) (if ¬ a = b then q1 else q2) := by
  intro r hr H locs ls hW hS hL
  obtain ⟨hx, hb, hml, hown, hts, hK, hN⟩ := X
  refine lv_icmp_ne hx hb hd ht (fun z => ?_) (fun z => ?_)
  · have z := (not_congr (Ii_inj ha hb2)).mp z
    rw [if_pos z] at hr
    exact k1 z r hr H locs ls hW hS hL
  · have z := not_not_intro ((Ii_inj ha hb2).mp z)
    rw [if_neg z] at hr
    exact k2 z r hr H locs ls hW hS hL
theorem go_icmp_lt {a b off : Int} {tgt : Nat} {q1 q2 : Option α} (X : Cx p s m args c cc D nL own) (hd : decode cc pc = .ok (.if_icmp .lt off, 3)) (ht : (pc : Int) + off = (tgt : Int)) (ha : i32 a) (hb2 : i32 b) (k1 : a < b → Go p l e R s m args below meth c D T n base nL kc ks fin M tgt L st q1) (k2 : ¬ (a < b) → Go p l e R s m args below meth c D T n base nL kc ks fin M (pc + 3) L st q2) : Go p l e R s m args below meth c D T n base nL kc ks fin M pc L (.int (Ii b) :: .int (Ii a) :: st) (if a < b then q1 else q2) := by
  intro r hr H locs ls hW hS hL
  obtain ⟨hx, hb, hml, hown, hts, hK, hN⟩ := X
  refine lv_icmp_lt hx hb hd ht (fun z => ?_) (fun z => ?_)
  · have z := (Ii_lt ha hb2).mp z
    rw [if_pos z] at hr
    exact k1 z r hr H locs ls hW hS hL
  · have z := (not_congr (Ii_lt ha hb2)).mp z
    rw [if_neg z] at hr
    exact k2 z r hr H locs ls hW hS hL
theorem go_icmp_ge {a b off : Int} {tgt : Nat} {q1 q2 : Option α} (X : Cx p s m args c cc D nL own) (hd : decode cc pc = .ok (.if_icmp .ge off, 3)) (ht : (pc : Int) + off = (tgt : Int)) (ha : i32 a) (hb2 : i32 b) (k1 : b ≤ a → Go p l e R s m args below meth c D T n base nL kc ks fin M tgt L st q1) (k2 : ¬ (b ≤ a) → Go p l e R s m args below meth c D T n base nL kc ks fin M (pc + 3) L st q2) : Go p l e R s m args below meth c D T n base nL kc ks fin M pc L (.int (Ii b) :: .int (Ii a) :: st) (if b ≤ a then q1 else q2) := by
  intro r hr H locs ls hW hS hL
  obtain ⟨hx, hb, hml, hown, hts, hK, hN⟩ := X
  refine lv_icmp_ge hx hb hd ht (fun z => ?_) (fun z => ?_)
  · have z := (Ii_le hb2 ha).mp z
    rw [if_pos z] at hr
    exact k1 z r hr H locs ls hW hS hL
  · have z := (not_congr (Ii_le hb2 ha)).mp z
    rw [if_neg z] at hr
    exact k2 z r hr H locs ls hW hS hL
theorem go_icmp_gt {a b off : Int} {tgt : Nat} {q1 q2 : Option α} (X : Cx p s m args c cc D nL own) (hd : decode cc pc = .ok (.if_icmp .gt off, 3)) (ht : (pc : Int) + off = (tgt : Int)) (ha : i32 a) (hb2 : i32 b) (k1 : b < a → Go p l e R s m args below meth c D T n base nL kc ks fin M tgt L st q1) (k2 : ¬ (b < a) → Go p l e R s m args below meth c D T n base nL kc ks fin M (pc + 3) L st q2) : Go p l e R s m args below meth c D T n base nL kc ks fin M pc L (.int (Ii b) :: .int (Ii a) :: st) (if b < a then q1 else q2) := by
  intro r hr H locs ls hW hS hL
  obtain ⟨hx, hb, hml, hown, hts, hK, hN⟩ := X
  refine lv_icmp_gt hx hb hd ht (fun z => ?_) (fun z => ?_)
  · have z := (Ii_lt hb2 ha).mp z
    rw [if_pos z] at hr
    exact k1 z r hr H locs ls hW hS hL
  · have z := (not_congr (Ii_lt hb2 ha)).mp z
    rw [if_neg z] at hr
    exact k2 z r hr H locs ls hW hS hL
theorem go_icmp_le {a b off : Int} {tgt : Nat} {q1 q2 : Option α} (X : Cx p s m args c cc D nL own) (hd : decode cc pc = .ok (.if_icmp .le off, 3)) (ht : (pc : Int) + off = (tgt : Int)) (ha : i32 a) (hb2 : i32 b) (k1 : a ≤ b → Go p l e R s m args below meth c D T n base nL kc ks fin M tgt L st q1) (k2 : ¬ (a ≤ b) → Go p l e R s m args below meth c D T n base nL kc ks fin M (pc + 3) L st q2) : Go p l e R s m args below meth c D T n base nL kc ks fin M pc L (.int (Ii b) :: .int (Ii a) :: st) (if a ≤ b then q1 else q2) := by
  intro r hr H locs ls hW hS hL
  obtain ⟨hx, hb, hml, hown, hts, hK, hN⟩ := X
  refine lv_icmp_le hx hb hd ht (fun z => ?_) (fun z => ?_)
  · have z := (Ii_le ha hb2).mp z
    rw [if_pos z] at hr
    exact k1 z r hr H locs ls hW hS hL
  · have z := (not_congr (Ii_le ha hb2)).mp z
    rw [if_neg z] at hr
    exact k2 z r hr H locs ls hW hS hL
theorem go_if_eq {a off : Int} {tgt : Nat} {q1 q2 : Option α} (X : Cx p s m args c cc D nL own) (hd : decode cc pc = .ok (.ifCond .eq off, 3)) (ht : (pc : Int) + off = (tgt : Int)) (ha : i32 a) (k1 : a = 0 → Go p l e R s m args below meth c D T n base nL kc ks fin M tgt L st q1) (k2 : ¬ (a = 0) → Go p l e R s m args below meth c D T n base nL kc ks fin M (pc + 3) L st q2) : Go p l e R s m args below meth c D T n base nL kc ks fin M pc L (.int (Ii a) :: st) (if a = 0 then q1 else q2) := by
  intro r hr H locs ls hW hS hL
  obtain ⟨hx, hb, hml, hown, hts, hK, hN⟩ := X
  have h00 : i32 0 := by decide
  refine lv_if_eq hx hb hd ht (fun z => ?_) (fun z => ?_)
  · have z := (Ii_inj ha h00).mp z
    rw [if_pos z] at hr
    exact k1 z r hr H locs ls hW hS hL
  · have z := (not_congr (Ii_inj ha h00)).mp z
    rw [if_neg z] at hr
    exact k2 z r hr H locs ls hW hS hL
theorem go_if_ne {a off : Int} {tgt : Nat} {q1 q2 : Option α} (X : Cx p s m args c cc D nL own) (hd : decode cc pc = .ok (.ifCond .ne off, 3)) (ht : (pc : Int) + off = (tgt : Int)) (ha : i32 a) (k1 : ¬ a = 0 → Go p l e R s m args below meth c D T n base nL kc ks fin M tgt L st q1) (k2 : ¬ (¬ a = 0) → Go p l e R s m args below meth c D T n base nL kc ks fin M (pc + 3) L st q2) : Go p l e R s m args below meth c D T n base nL kc ks fin M pc L (.int (Ii a) :: st) (if ¬ a = 0 then q1 else q2) := by
  intro r hr H locs ls hW hS hL
  obtain ⟨hx, hb, hml, hown, hts, hK, hN⟩ := X
  have h00 : i32 0 := by decide
  refine lv_if_ne hx hb hd ht (fun z => ?_) (fun z => ?_)
  · have z := (not_congr (Ii_inj ha h00)).mp z
    rw [if_pos z] at hr
    exact k1 z r hr H locs ls hW hS hL
  · have z := not_not_intro ((Ii_inj ha h00).mp z)
    rw [if_neg z] at hr
    exact k2 z r hr H locs ls hW hS hL
theorem go_if_lt {a off : Int} {tgt : Nat} {q1 q2 : Option α} (X : Cx p s m args c cc D nL own) (hd : decode cc pc = .ok (.ifCond .lt off, 3)) (ht : (pc : Int) + off = (tgt : Int)) (ha : i32 a) (k1 : a < 0 → Go p l e R s m args below meth c D T n base nL kc ks fin M tgt L st q1) (k2 : ¬ (a < 0) → Go p l e R s m args below meth c D T n base nL kc ks fin M (pc + 3) L st q2) : Go p l e R s m args below meth c D T n base nL kc ks fin M pc L (.int (Ii a) :: st) (if a < 0 then q1 else q2) := by
  intro r hr H locs ls hW hS hL
  obtain ⟨hx, hb, hml, hown, hts, hK, hN⟩ := X
  have h00 : i32 0 := by decide
  refine lv_if_lt hx hb hd ht (fun z => ?_) (fun z => ?_)
  · have z := (Ii_lt ha h00).mp z
    rw [if_pos z] at hr
    exact k1 z r hr H locs ls hW hS hL
  · have z := (not_congr (Ii_lt ha h00)).mp z
    rw [if_neg z] at hr
    exact k2 z r hr H locs ls hW hS hL
theorem go_if_ge {a off : Int} {tgt : Nat} {q1 q2 : Option α} (X : Cx p s m args c cc D nL own) (hd : decode cc pc = .ok (.ifCond .ge off, 3)) (ht : (pc : Int) + off = (tgt : Int)) (ha : i32 a) (k1 : 0 ≤ a → Go p l e R s m args below meth c D T n base nL kc ks fin M tgt L st q1) (k2 : ¬ (0 ≤ a) → Go p l e R s m args below meth c D T n base nL kc ks fin M (pc + 3) L st q2) : Go p l e R s m args below meth c D T n base nL kc ks fin M pc L (.int (Ii a) :: st) (if 0 ≤ a then q1 else q2) := by
  intro r hr H locs ls hW hS hL
  obtain ⟨hx, hb, hml, hown, hts, hK, hN⟩ := X
  have h00 : i32 0 := by decide
  refine lv_if_ge hx hb hd ht (fun z => ?_) (fun z => ?_)
  · have z := (Ii_le h00 ha).mp z
    rw [if_pos z] at hr
    exact k1 z r hr H locs ls hW hS hL
  · have z := (not_congr (Ii_le h00 ha)).mp z
    rw [if_neg z] at hr
    exact k2 z r hr H locs ls hW hS hL
theorem go_if_gt {a off : Int} {tgt : Nat} {q1 q2 : Option α} (X : Cx p s m args c cc D nL own) (hd : decode cc pc = .ok (.ifCond .gt off, 3)) (ht : (pc : Int) + off = (tgt : Int)) (ha : i32 a) (k1 : 0 < a → Go p l e R s m args below meth c D T n base nL kc ks fin M tgt L st q1) (k2 : ¬ (0 < a) → Go p l e R s m args below meth c D T n base nL kc ks fin M (pc + 3) L st q2) : Go p l e R s m args below meth c D T n base nL kc ks fin M pc L (.int (Ii a) :: st) (if 0 < a then q1 else q2) := by
  intro r hr H locs ls hW hS hL
  obtain ⟨hx, hb, hml, hown, hts, hK, hN⟩ := X
  have h00 : i32 0 := by decide
  refine lv_if_gt hx hb hd ht (fun z => ?_) (fun z => ?_)
  · have z := (Ii_lt h00 ha).mp z
    rw [if_pos z] at hr
    exact k1 z r hr H locs ls hW hS hL
  · have z := (not_congr (Ii_lt h00 ha)).mp z
    rw [if_neg z] at hr
    exact k2 z r hr H locs ls hW hS hL
theorem go_if_le {a off : Int} {tgt : Nat} {q1 q2 : Option α} (X : Cx p s m args c cc D nL own) (hd : decode cc pc = .ok (.ifCond .le off, 3)) (ht : (pc : Int) + off = (tgt : Int)) (ha : i32 a) (k1 : a ≤ 0 → Go p l e R s m args below meth c D T n base nL kc ks fin M tgt L st q1) (k2 : ¬ (a ≤ 0) → Go p l e R s m args below meth c D T n base nL kc ks fin M (pc + 3) L st q2) : Go p l e R s m args below meth c D T n base nL kc ks fin M pc L (.int (Ii a) :: st) (if a ≤ 0 then q1 else q2) := by
  intro r hr H locs ls hW hS hL
  obtain ⟨hx, hb, hml, hown, hts, hK, hN⟩ := X
  have h00 : i32 0 := by decide
  refine lv_if_le hx hb hd ht (fun z => ?_) (fun z => ?_)
  · have z := (Ii_le ha h00).mp z
    rw [if_pos z] at hr
    exact k1 z r hr H locs ls hW hS hL
  · have z := (not_congr (Ii_le ha h00)).mp z
    rw [if_neg z] at hr
    exact k2 z r hr H locs ls hW hS hL
theorem rv_null {base : Nat} {v : Int} (h : v < 0) : rv base v = .null := if_pos h
theorem rv_ref {base : Nat} {v : Int} (h : ¬ v < 0) : rv base v = .ref (base + v.toNat) := if_neg h
theorem rv_cat (base : Nat) (v : Int) : (rv base v).category = 1 := by unfold rv; split <;> rfl
theorem go_ifnull {a off : Int} {tgt : Nat} {q1 q2 : Option α} (X : Cx p s m args c cc D nL own) (hd : decode cc pc = .ok (.ifnull off, 3)) (ht : (pc : Int) + off = (tgt : Int)) (k1 : a < 0 → Go p l e R s m args below meth c D T n base nL kc ks fin M tgt L st q1) (k2 : ¬ (a < 0) → Go p l e R s m args below meth c D T n base nL kc ks fin M (pc + 3) L st q2) : Go p l e R s m args below meth c D T n base nL kc ks fin M pc L (rv base a :: st) (if a < 0 then q1 else q2) := by
  intro r hr H locs ls hW hS hL
  obtain ⟨hx, hb, hml, hown, hts, hK, hN⟩ := X
  by_cases z : a < 0
  · rw [if_pos z] at hr
    rw [rv_null z]
    exact lv_ifnullN hx hb hd ht (k1 z r hr H locs ls hW hS hL)
  · rw [if_neg z] at hr
    rw [rv_ref z]
    exact lv_ifnull hx hb hd (k2 z r hr H locs ls hW hS hL)
theorem go_ifnonnull {a off : Int} {tgt : Nat} {q1 q2 : Option α} (X : Cx p s m args c cc D nL own) (hd : decode cc pc = .ok (.ifnonnull off, 3)) (ht : (pc : Int) + off = (tgt : Int)) (k1 : ¬ a < 0 → Go p l e R s m args below meth c D T n base nL kc ks fin M tgt L st q1) (k2 : ¬ (¬ a < 0) → Go p l e R s m args below meth c D T n base nL kc ks fin M (pc + 3) L st q2) : Go p l e R s m args below meth c D T n base nL kc ks fin M pc L (rv base a :: st) (if ¬ a < 0 then q1 else q2) := by
  intro r hr H locs ls hW hS hL
  obtain ⟨hx, hb, hml, hown, hts, hK, hN⟩ := X
  by_cases z : a < 0
  · rw [if_neg (not_not_intro z)] at hr
    rw [rv_null z]
    exact lv_ifnonnullN hx hb hd (k2 (not_not_intro z) r hr H locs ls hW hS hL)
  · rw [if_pos z] at hr
    rw [rv_ref z]
    exact lv_ifnonnull hx hb hd ht (k1 z r hr H locs ls hW hS hL)
theorem go_gd {cd : Prop} [Decidable cd] {k : Option α} (kk : cd → Go p l e R s m args below meth c D T n base nL kc ks fin M pc L st k) : Go p l e R s m args below meth c D T n base nL kc ks fin M pc L st (gd cd k) := by
  intro r hr
  unfold gd at hr
  by_cases z : cd
  · rw [if_pos z] at hr
    exact kk z r hr
  · rw [if_neg z] at hr
    exact absurd hr (by simp)
theorem go_none : Go p l e R s m args below meth c D T n base nL kc ks fin M pc L st none := fun r hr => absurd hr (by simp)
theorem go_sw {a v : Int} {q1 q2 : Option α} (k1 : a = v → Go p l e R s m args below meth c D T n base nL kc ks fin M pc L st q1) (k2 : ¬ a = v → Go p l e R s m args below meth c D T n base nL kc ks fin M pc L st q2) : Go p l e R s m args below meth c D T n base nL kc ks fin M pc L st (if a = v then q1 else q2) := by
  by_cases z : a = v
  · rw [if_pos z]
    exact k1 z
  · rw [if_neg z]
    exact k2 z
theorem go_tabIn {k : Option α} {a dflt lo hi off : Int} {offs : Array Int} {len tgt : Nat} (X : Cx p s m args c cc D nL own) (hd : decode cc pc = .ok (.tableswitch dflt lo hi offs, len)) (ha : i32 a) (v : Int) (hv : a = v) (h1 : ¬ v < lo) (h2 : ¬ hi < v) (ho : offs[(v - lo).toNat]? = some off) (ht : (pc : Int) + off = (tgt : Int)) (kk : Go p l e R s m args below meth c D T n base nL kc ks fin M tgt L st k) : Go p l e R s m args below meth c D T n base nL kc ks fin M pc L (.int (Ii a) :: st) k := by
  intro r hr H locs ls hW hS hL
  obtain ⟨hx, hb, hml, hown, hts, hK, hN⟩ := X
  subst hv
  have e := Ii_toInt ha
  exact lv_tableIn hx hb hd (by rw [e]; exact h1) (by rw [e]; exact h2) (by rw [e]; exact ho) ht (kk r hr H locs ls hW hS hL)
theorem go_tabOut {k : Option α} {a dflt lo hi : Int} {offs : Array Int} {len tgt : Nat} (X : Cx p s m args c cc D nL own) (hd : decode cc pc = .ok (.tableswitch dflt lo hi offs, len)) (ha : i32 a) (h1 : a < lo ∨ hi < a) (ht : (pc : Int) + dflt = (tgt : Int)) (kk : Go p l e R s m args below meth c D T n base nL kc ks fin M tgt L st k) : Go p l e R s m args below meth c D T n base nL kc ks fin M pc L (.int (Ii a) :: st) k := by
  intro r hr H locs ls hW hS hL
  obtain ⟨hx, hb, hml, hown, hts, hK, hN⟩ := X
  have e := Ii_toInt ha
  exact lv_tableOut hx hb hd (by rw [e]; exact h1) ht (kk r hr H locs ls hW hS hL)
end GO
section GH
variable {p : Program} {l : Launch} {e : Env} {R : Room} {s : State} {m : MethodId} {args : Array Value} {below : List Frame} {meth : Method} {c : Code} {cc : ByteArray} {D : Dd} {T : Nat → Ck} {n base nL kc ks : Nat} {own : String} {α : Type} {fin : α → State → Prop} {M : Mm} {pc : Nat} {L : List (Nat × Value)} {st : List Value} {k : Option α}
/-- a class of the list: its words, names, types -/
def Fc (ci : Nat) (C : String) (Tb : u_T) (N : Nat) (ty0 : Nat → FieldType) : Prop := vwCl[ci]? = some (C, Tb, N) ∧ (∀ w ∈ u_ws C Tb N, w ∈ LW) ∧ (∀ k, k < N → parseFieldDescriptor (Tb k).2.2.1 = some (ty0 k)) ∧ (∀ a, a < N → ∀ b, b < N → a ≠ b → (Tb a).2.1 ≠ (Tb b).2.1)
theorem go_getf {C ref : String} {Tb : u_T} {N ci index : Nat} {ty0 : Nat → FieldType} {sl : List (Nat × Nat)} {h i : Nat} {q : Nat × Nat} (X : Cx p s m args c cc D nL own) (F : Fc ci C Tb N ty0) (hd : decode cc pc = .ok (.getfield index, 3)) (hk : h < n) (hT : T h = (0, ci, sl)) (hi : i < N) (hq : sl[i]? = some q) (hl : Cond.fieldLink own index ref (Tb i).2.1 (Tb i).2.2.1 ∈ LW) (hr1 : (Tb i).1 = ref)
    (kk : okS q (M h i) → Go p l e R s m args below meth c D T n base nL kc ks fin M (pc + 3) L (sv base q (M h i) :: st) k) : Go p l e R s m args below meth c D T n base nL kc ks fin M pc L (.ref (base + h) :: st) k := by
  intro r hr H locs ls hW hS hL
  obtain ⟨hx, hb, hml, hown, hts, hK, hN⟩ := X
  obtain ⟨f1, f2, f3, f4⟩ := F
  have he := Ws_get D T base M hk
  rw [show ent D base (T h) (M h) = .inr (ci, sts base sl (M h)) by rw [hT]; rfl] at he
  have hok := hW.2 h hk i
  rw [hT] at hok
  have hok : okS (sl.getD i (0, 0)) (M h i) := hok
  rw [List.getD_eq_getElem?_getD, hq] at hok
  exact va_get hx hb hts f2 hown hK hW.1 h he f1 i hi (hts _ hl) (fun _ h9 => by rw [← hr1]; exact h9) (sts_get base (M h) hq) hd (kk hok r hr H locs ls hW hS hL)
theorem go_geti {C ref : String} {Tb : u_T} {N ci index : Nat} {ty0 : Nat → FieldType} {sl : List (Nat × Nat)} {h i j9 : Nat} {k : Int → Option α} (X : Cx p s m args c cc D nL own) (F : Fc ci C Tb N ty0) (hd : decode cc pc = .ok (.getfield index, 3)) (hk : h < n) (hT : T h = (0, ci, sl)) (hi : i < N) (hq : sl[i]? = some (0, j9)) (hl : Cond.fieldLink own index ref (Tb i).2.1 (Tb i).2.2.1 ∈ LW) (hr1 : (Tb i).1 = ref)
    (kk : ∀ x, i32 x → Go p l e R s m args below meth c D T n base nL kc ks fin M (pc + 3) L (.int (Ii x) :: st) (k x)) : Go p l e R s m args below meth c D T n base nL kc ks fin M pc L (.ref (base + h) :: st) (Lt (M h i) k) := go_getf X F hd hk hT hi hq hl hr1 (fun z => kk _ z)
theorem go_getz {C ref : String} {Tb : u_T} {N ci index : Nat} {ty0 : Nat → FieldType} {sl : List (Nat × Nat)} {h i j9 : Nat} {k : Int → Option α} (X : Cx p s m args c cc D nL own) (F : Fc ci C Tb N ty0) (hd : decode cc pc = .ok (.getfield index, 3)) (hk : h < n) (hT : T h = (0, ci, sl)) (hi : i < N) (hq : sl[i]? = some (1, j9)) (hl : Cond.fieldLink own index ref (Tb i).2.1 (Tb i).2.2.1 ∈ LW) (hr1 : (Tb i).1 = ref)
    (kk : ∀ x, bo x → Go p l e R s m args below meth c D T n base nL kc ks fin M (pc + 3) L (.int (Ii x) :: st) (k x)) : Go p l e R s m args below meth c D T n base nL kc ks fin M pc L (.ref (base + h) :: st) (Lt (M h i) k) := go_getf X F hd hk hT hi hq hl hr1 (fun z => kk _ z)
theorem go_getl {C ref : String} {Tb : u_T} {N ci index : Nat} {ty0 : Nat → FieldType} {sl : List (Nat × Nat)} {h i j9 : Nat} {k : Int → Option α} (X : Cx p s m args c cc D nL own) (F : Fc ci C Tb N ty0) (hd : decode cc pc = .ok (.getfield index, 3)) (hk : h < n) (hT : T h = (0, ci, sl)) (hi : i < N) (hq : sl[i]? = some (4, j9)) (hl : Cond.fieldLink own index ref (Tb i).2.1 (Tb i).2.2.1 ∈ LW) (hr1 : (Tb i).1 = ref)
    (kk : ∀ x, i64 x → Go p l e R s m args below meth c D T n base nL kc ks fin M (pc + 3) L (.long (Ll x) :: st) (k x)) : Go p l e R s m args below meth c D T n base nL kc ks fin M pc L (.ref (base + h) :: st) (Lt (M h i) k) := go_getf X F hd hk hT hi hq hl hr1 (fun z => kk _ z)
theorem go_getc {C ref : String} {Tb : u_T} {N ci index : Nat} {ty0 : Nat → FieldType} {sl : List (Nat × Nat)} {h i j9 : Nat} (X : Cx p s m args c cc D nL own) (F : Fc ci C Tb N ty0) (hd : decode cc pc = .ok (.getfield index, 3)) (hk : h < n) (hT : T h = (0, ci, sl)) (hi : i < N) (hq : sl[i]? = some (2, j9)) (hl : Cond.fieldLink own index ref (Tb i).2.1 (Tb i).2.2.1 ∈ LW) (hr1 : (Tb i).1 = ref)
    (kk : Go p l e R s m args below meth c D T n base nL kc ks fin M (pc + 3) L (.ref (base + j9) :: st) k) : Go p l e R s m args below meth c D T n base nL kc ks fin M pc L (.ref (base + h) :: st) k := go_getf X F hd hk hT hi hq hl hr1 (fun z => kk)
theorem go_getq {C ref : String} {Tb : u_T} {N ci index : Nat} {ty0 : Nat → FieldType} {sl : List (Nat × Nat)} {h i j9 : Nat} {k : Int → Option α} (X : Cx p s m args c cc D nL own) (F : Fc ci C Tb N ty0) (hd : decode cc pc = .ok (.getfield index, 3)) (hk : h < n) (hT : T h = (0, ci, sl)) (hi : i < N) (hq : sl[i]? = some (3, j9)) (hl : Cond.fieldLink own index ref (Tb i).2.1 (Tb i).2.2.1 ∈ LW) (hr1 : (Tb i).1 = ref)
    (kk : ∀ x, Go p l e R s m args below meth c D T n base nL kc ks fin M (pc + 3) L (rv base x :: st) (k x)) : Go p l e R s m args below meth c D T n base nL kc ks fin M pc L (.ref (base + h) :: st) (Lt (M h i) k) := go_getf X F hd hk hT hi hq hl hr1 (fun z => kk _)
theorem go_putf {C ref : String} {Tb : u_T} {N ci index : Nat} {ty0 : Nat → FieldType} {sl : List (Nat × Nat)} {h i : Nat} {q : Nat × Nat} {v : Int} (X : Cx p s m args c cc D nL own) (F : Fc ci C Tb N ty0) (hd : decode cc pc = .ok (.putfield index, 3)) (hk : h < n) (hT : T h = (0, ci, sl)) (hi : i < N) (hq : sl[i]? = some q) (hl : Cond.fieldLink own index ref (Tb i).2.1 (Tb i).2.2.1 ∈ LW) (hr1 : (Tb i).1 = ref) (hfin : (Tb i).2.2.2 = false) (hn : narrow (ty0 i) (sv base q v) = sv base q v) (hfit : fits (ty0 i) (sv base q v) = true) (hok : okS q v)
    (kk : Go p l e R s m args below meth c D T n base nL kc ks fin (up M h i v) (pc + 3) L st k) : Go p l e R s m args below meth c D T n base nL kc ks fin M pc L (sv base q v :: .ref (base + h) :: st) k := by
  intro r hr H locs ls hW hS hL
  obtain ⟨hx, hb, hml, hown, hts, hK, hN⟩ := X
  obtain ⟨f1, f2, f3, f4⟩ := F
  have he := Ws_get D T base M hk
  rw [show ent D base (T h) (M h) = .inr (ci, sts base sl (M h)) by rw [hT]; rfl] at he
  refine va_put hx hb hts f2 ty0 f3 f4 hown hK hW.1 (Ws_D D T n base s.heap.size M) hS h he f1 i hi (hts _ hl) (fun _ h9 => by rw [← hr1]; exact h9) hfin (f3 i hi) hn hfit (by rw [sts_len]; exact (List.getElem?_eq_some_iff.mp hq).1) hd (fun H1 locs1 hP1 hD1 hS1 => ?_)
  rw [sts_set base (M h) hq v, Ws_set D T base M (up M h i v) hk _ (by rw [hT, up_row]; rfl) (fun j hj => up_ne M i v hj)] at hP1
  exact kk r hr H1 locs1 ls ⟨hP1, okC_up hW.2 (by rw [hT]; show okS (sl.getD i (0, 0)) v; rw [List.getD_eq_getElem?_getD, hq]; exact hok)⟩ hS1 hL
theorem go_puti {C ref : String} {Tb : u_T} {N ci index : Nat} {ty0 : Nat → FieldType} {sl : List (Nat × Nat)} {h i j9 : Nat} {v : Int} {k : Mm → Option α} (X : Cx p s m args c cc D nL own) (F : Fc ci C Tb N ty0) (hd : decode cc pc = .ok (.putfield index, 3)) (hk : h < n) (hT : T h = (0, ci, sl)) (hi : i < N) (hq : sl[i]? = some (0, j9)) (hl : Cond.fieldLink own index ref (Tb i).2.1 (Tb i).2.2.1 ∈ LW) (hr1 : (Tb i).1 = ref) (hfin : (Tb i).2.2.2 = false) (hty : ty0 i = .int) (hv : i32 v)
    (kk : ∀ M, Go p l e R s m args below meth c D T n base nL kc ks fin M (pc + 3) L st (k M)) : Go p l e R s m args below meth c D T n base nL kc ks fin M pc L (.int (Ii v) :: .ref (base + h) :: st) (Lt (up M h i v) k) := go_putf (q := (0, j9)) (v := v) X F hd hk hT hi hq hl hr1 hfin (by rw [hty]; rfl) (by rw [hty]; rfl) hv (kk _)
theorem go_putz {C ref : String} {Tb : u_T} {N ci index : Nat} {ty0 : Nat → FieldType} {sl : List (Nat × Nat)} {h i j9 : Nat} {v : Int} {k : Mm → Option α} (X : Cx p s m args c cc D nL own) (F : Fc ci C Tb N ty0) (hd : decode cc pc = .ok (.putfield index, 3)) (hk : h < n) (hT : T h = (0, ci, sl)) (hi : i < N) (hq : sl[i]? = some (1, j9)) (hl : Cond.fieldLink own index ref (Tb i).2.1 (Tb i).2.2.1 ∈ LW) (hr1 : (Tb i).1 = ref) (hfin : (Tb i).2.2.2 = false) (hty : ty0 i = .boolean) (hv : bo v)
    (kk : ∀ M, Go p l e R s m args below meth c D T n base nL kc ks fin M (pc + 3) L st (k M)) : Go p l e R s m args below meth c D T n base nL kc ks fin M pc L (.int (Ii v) :: .ref (base + h) :: st) (Lt (up M h i v) k) := go_putf (q := (1, j9)) (v := v) X F hd hk hT hi hq hl hr1 hfin (by rw [hty]; exact Ii_narr hv) (by rw [hty]; exact Ii_fit hv) hv (kk _)
theorem go_putl {C ref : String} {Tb : u_T} {N ci index : Nat} {ty0 : Nat → FieldType} {sl : List (Nat × Nat)} {h i j9 : Nat} {v : Int} {k : Mm → Option α} (X : Cx p s m args c cc D nL own) (F : Fc ci C Tb N ty0) (hd : decode cc pc = .ok (.putfield index, 3)) (hk : h < n) (hT : T h = (0, ci, sl)) (hi : i < N) (hq : sl[i]? = some (4, j9)) (hl : Cond.fieldLink own index ref (Tb i).2.1 (Tb i).2.2.1 ∈ LW) (hr1 : (Tb i).1 = ref) (hfin : (Tb i).2.2.2 = false) (hty : ty0 i = .long) (hv : i64 v)
    (kk : ∀ M, Go p l e R s m args below meth c D T n base nL kc ks fin M (pc + 3) L st (k M)) : Go p l e R s m args below meth c D T n base nL kc ks fin M pc L (.long (Ll v) :: .ref (base + h) :: st) (Lt (up M h i v) k) := go_putf (q := (4, j9)) (v := v) X F hd hk hT hi hq hl hr1 hfin (by rw [hty]; rfl) (by rw [hty]; rfl) hv (kk _)
theorem rv_fit {C : String} (base : Nat) (v : Int) : fits (.object C) (rv base v) = true := by unfold rv; split <;> rfl
theorem rv_nar {C : String} (base : Nat) (v : Int) : narrow (.object C) (rv base v) = rv base v := by unfold rv; split <;> rfl
theorem rv_nat (base k : Nat) : rv base (k : Int) = .ref (base + k) := by
  unfold rv
  rw [if_neg (by omega)]
  simp
theorem go_putq {C ref E : String} {Tb : u_T} {N ci index : Nat} {ty0 : Nat → FieldType} {sl : List (Nat × Nat)} {h i j9 : Nat} {v : Int} {w : Value} {k : Mm → Option α} (X : Cx p s m args c cc D nL own) (F : Fc ci C Tb N ty0) (hd : decode cc pc = .ok (.putfield index, 3)) (hk : h < n) (hT : T h = (0, ci, sl)) (hi : i < N) (hq : sl[i]? = some (3, j9)) (hl : Cond.fieldLink own index ref (Tb i).2.1 (Tb i).2.2.1 ∈ LW) (hr1 : (Tb i).1 = ref) (hfin : (Tb i).2.2.2 = false) (hty : ty0 i = .object E) (hw : w = rv base v)
    (kk : ∀ M, Go p l e R s m args below meth c D T n base nL kc ks fin M (pc + 3) L st (k M)) : Go p l e R s m args below meth c D T n base nL kc ks fin M pc L (w :: .ref (base + h) :: st) (Lt (up M h i v) k) := by
  subst hw
  exact go_putf (q := (3, j9)) (v := v) X F hd hk hT hi hq hl hr1 hfin (by rw [hty]; exact rv_nar base v) (by rw [hty]; exact rv_fit base v) trivial (kk _)
theorem go_iaload {h len : Nat} {sl : List (Nat × Nat)} {j : Int} {k : Int → Option α} (X : Cx p s m args c cc D nL own) (hd : decode cc pc = .ok (.iaload, 1)) (hk : h < n) (hT : T h = (1, len, sl)) (hj : i32 j)
    (kk : ∀ x, i32 x → Go p l e R s m args below meth c D T n base nL kc ks fin M (pc + 1) L (.int (Ii x) :: st) (k x)) : Go p l e R s m args below meth c D T n base nL kc ks fin M pc L (.int (Ii j) :: .ref (base + h) :: st) (gd (0 ≤ j ∧ j < (len : Int)) (Lt (M h j.toNat) k)) := by
  refine go_gd (fun z => ?_)
  intro r hr H locs ls hW hS hL
  obtain ⟨hx, hb, hml, hown, hts, hK, hN⟩ := X
  have he := Ws_get D T base M hk
  rw [show ent D base (T h) (M h) = .inl (D.2 0, len, .inl fun i => Ii (M h i)) by rw [hT]; rfl] at he
  have hok := hW.2 h hk j.toNat
  rw [hT] at hok
  refine va_iald hx hb hK hW.1 h 0 he rfl (vp_in_Ii z hj) hd ?_
  rw [Ii_nat hj]
  exact kk _ hok r hr H locs ls hW hS hL
theorem go_zaload {h len : Nat} {sl : List (Nat × Nat)} {j : Int} {k : Int → Option α} (X : Cx p s m args c cc D nL own) (hd : decode cc pc = .ok (.baload, 1)) (hk : h < n) (hT : T h = (2, len, sl)) (hj : i32 j)
    (kk : ∀ x, bo x → Go p l e R s m args below meth c D T n base nL kc ks fin M (pc + 1) L (.int (Ii x) :: st) (k x)) : Go p l e R s m args below meth c D T n base nL kc ks fin M pc L (.int (Ii j) :: .ref (base + h) :: st) (gd (0 ≤ j ∧ j < (len : Int)) (Lt (M h j.toNat) k)) := by
  refine go_gd (fun z => ?_)
  intro r hr H locs ls hW hS hL
  obtain ⟨hx, hb, hml, hown, hts, hK, hN⟩ := X
  have he := Ws_get D T base M hk
  rw [show ent D base (T h) (M h) = .inl (D.2 1, len, .inl fun i => Ii (M h i)) by rw [hT]; rfl] at he
  have hok := hW.2 h hk j.toNat
  rw [hT] at hok
  refine va_zald hx hb hK hW.1 h 1 he rfl (vp_in_Ii z hj) hd ?_
  rw [Ii_nat hj]
  exact kk _ hok r hr H locs ls hW hS hL
theorem go_aaloadE {h len b0 by0 : Nat} {j : Int} (X : Cx p s m args c cc D nL own) (hd : decode cc pc = .ok (.aaload, 1)) (hk : h < n) (hT : T h = (5, len, [(b0, by0)])) (hj : i32 j)
    (kk : (0 ≤ j ∧ j < (len : Int)) → Go p l e R s m args below meth c D T n base nL kc ks fin M (pc + 1) L (.ref (base + (b0 + by0 * j.toNat)) :: st) k) : Go p l e R s m args below meth c D T n base nL kc ks fin M pc L (.int (Ii j) :: .ref (base + h) :: st) (gd (0 ≤ j ∧ j < (len : Int)) k) := by
  refine go_gd (fun z => ?_)
  intro r hr H locs ls hW hS hL
  obtain ⟨hx, hb, hml, hown, hts, hK, hN⟩ := X
  have he := Ws_get D T base M hk
  rw [show ent D base (T h) (M h) = .inl (D.2 3, len, .inr (.inr (.inr (.inr fun i => some (base + (b0 + by0 * i)))))) by rw [hT]; rfl] at he
  refine va_aldq hx hb hK hW.1 h 3 he rfl (vp_in_Ii z hj) hd ?_
  rw [Ii_nat hj]
  exact kk z r hr H locs ls hW hS hL
theorem go_aaloadF {h len b0 by0 : Nat} {j : Int} (X : Cx p s m args c cc D nL own) (hd : decode cc pc = .ok (.aaload, 1)) (hk : h < n) (hT : T h = (7, len, [(b0, by0)])) (hj : i32 j)
    (kk : (0 ≤ j ∧ j < (len : Int)) → Go p l e R s m args below meth c D T n base nL kc ks fin M (pc + 1) L (.ref (base + (b0 + by0 * j.toNat)) :: st) k) : Go p l e R s m args below meth c D T n base nL kc ks fin M pc L (.int (Ii j) :: .ref (base + h) :: st) (gd (0 ≤ j ∧ j < (len : Int)) k) := by
  refine go_gd (fun z => ?_)
  intro r hr H locs ls hW hS hL
  obtain ⟨hx, hb, hml, hown, hts, hK, hN⟩ := X
  have he := Ws_get D T base M hk
  rw [show ent D base (T h) (M h) = .inl (D.2 4, len, .inr (.inr (.inr (.inr fun i => some (base + (b0 + by0 * i)))))) by rw [hT]; rfl] at he
  refine va_aldq hx hb hK hW.1 h 4 he rfl (vp_in_Ii z hj) hd ?_
  rw [Ii_nat hj]
  exact kk z r hr H locs ls hW hS hL
theorem go_alen {h len tag : Nat} {sl : List (Nat × Nat)} (X : Cx p s m args c cc D nL own) (hd : decode cc pc = .ok (.arraylength, 1)) (hk : h < n) (hT : T h = (tag, len, sl)) (htag : tag = 1 ∨ tag = 2 ∨ tag = 3 ∨ tag = 5 ∨ tag = 7)
    (kk : Go p l e R s m args below meth c D T n base nL kc ks fin M (pc + 1) L (.int (Ii (len : Int)) :: st) k) : Go p l e R s m args below meth c D T n base nL kc ks fin M pc L (.ref (base + h) :: st) k := by
  intro r hr H locs ls hW hS hL
  obtain ⟨hx, hb, hml, hown, hts, hK, hN⟩ := X
  have he := Ws_get D T base M hk
  rw [hT] at he
  rcases htag with rfl | rfl | rfl | rfl | rfl
  · exact va_alen hx hb hK hW.1 h 0 he rfl rfl hd (kk r hr H locs ls hW hS hL)
  · exact va_alen hx hb hK hW.1 h 1 he rfl rfl hd (kk r hr H locs ls hW hS hL)
  · exact va_alen hx hb hK hW.1 h 2 he rfl rfl hd (kk r hr H locs ls hW hS hL)
  · exact va_alen hx hb hK hW.1 h 3 he rfl rfl hd (kk r hr H locs ls hW hS hL)
  · exact va_alen hx hb hK hW.1 h 4 he rfl rfl hd (kk r hr H locs ls hW hS hL)
theorem go_iastore {h len : Nat} {sl : List (Nat × Nat)} {j v : Int} {k : Mm → Option α} (X : Cx p s m args c cc D nL own) (hd : decode cc pc = .ok (.iastore, 1)) (hk : h < n) (hT : T h = (1, len, sl)) (hj : i32 j) (hv : i32 v)
    (kk : ∀ M, Go p l e R s m args below meth c D T n base nL kc ks fin M (pc + 1) L st (k M)) : Go p l e R s m args below meth c D T n base nL kc ks fin M pc L (.int (Ii v) :: .int (Ii j) :: .ref (base + h) :: st) (gd (0 ≤ j ∧ j < (len : Int)) (Lt (up M h j.toNat v) k)) := by
  refine go_gd (fun z => ?_)
  intro r hr H locs ls hW hS hL
  obtain ⟨hx, hb, hml, hown, hts, hK, hN⟩ := X
  have he := Ws_get D T base M hk
  rw [show ent D base (T h) (M h) = .inl (D.2 0, len, .inl fun i => Ii (M h i)) by rw [hT]; rfl] at he
  refine va_iast hx hb hK hW.1 (Ws_D D T n base s.heap.size M) hS h 0 he rfl (vp_in_Ii z hj) hd (fun H1 locs1 hP1 hD1 hS1 => ?_)
  rw [Ii_nat hj, Ws_set D T base M (up M h j.toNat v) hk _ (by rw [hT, up_row]; exact congrArg (fun f => (Sum.inl (D.2 0, len, Sum.inl f) : va_E)) (by funext i; by_cases z9 : i = j.toNat <;> simp [upd, z9])) (fun i hi => up_ne M j.toNat v hi)] at hP1
  exact kk _ r hr H1 locs1 ls ⟨hP1, okC_up hW.2 (by rw [hT]; exact hv)⟩ hS1 hL
theorem go_zastore {h len : Nat} {sl : List (Nat × Nat)} {j v : Int} {k : Mm → Option α} (X : Cx p s m args c cc D nL own) (hd : decode cc pc = .ok (.bastore, 1)) (hk : h < n) (hT : T h = (2, len, sl)) (hj : i32 j) (hv : bo v)
    (kk : ∀ M, Go p l e R s m args below meth c D T n base nL kc ks fin M (pc + 1) L st (k M)) : Go p l e R s m args below meth c D T n base nL kc ks fin M pc L (.int (Ii v) :: .int (Ii j) :: .ref (base + h) :: st) (gd (0 ≤ j ∧ j < (len : Int)) (Lt (up M h j.toNat v) k)) := by
  refine go_gd (fun z => ?_)
  intro r hr H locs ls hW hS hL
  obtain ⟨hx, hb, hml, hown, hts, hK, hN⟩ := X
  have he := Ws_get D T base M hk
  rw [show ent D base (T h) (M h) = .inl (D.2 1, len, .inl fun i => Ii (M h i)) by rw [hT]; rfl] at he
  refine va_zast hx hb hK hW.1 (Ws_D D T n base s.heap.size M) hS h 1 he rfl (vp_in_Ii z hj) hd (fun H1 locs1 hP1 hD1 hS1 => ?_)
  rw [Ii_nar hv, Ii_nat hj, Ws_set D T base M (up M h j.toNat v) hk _ (by rw [hT, up_row]; exact congrArg (fun f => (Sum.inl (D.2 1, len, Sum.inl f) : va_E)) (by funext i; by_cases z9 : i = j.toNat <;> simp [upd, z9])) (fun i hi => up_ne M j.toNat v hi)] at hP1
  exact kk _ r hr H1 locs1 ls ⟨hP1, okC_up hW.2 (by rw [hT]; exact hv)⟩ hS1 hL
end GH
section CALLS
variable {p : Program} {l : Launch} {e : Env} {R : Room} {s : State} {m : MethodId} {args : Array Value} {below : List Frame} {meth : Method} {c : Code} {cc : ByteArray} {D : Dd} {T : Nat → Ck} {n base nL kc ks : Nat} {own : String} {α : Type} {fin : α → State → Prop} {M : Mm} {pc : Nat} {L : List (Nat × Value)} {st : List Value} {k : Option α}
def Nw_ (U : State) : Prop := ∀ q ∈ NL, va_Nw (.methodLinkNest q.1 q.2.1 q.2.2.1 q.2.2.2) U
def PcW (D : Dd) (T : Nat → Ck) (n base : Nat) (M : Mm) (av : List Value) (sz : Nat) : Array Value → State → Prop := va_Pc av (fun U => U.heap.size = sz ∧ Wd D T n base M U.heap ∧ va_K D.1 vwCl (tys D) U ∧ Nw_ U)
theorem PcW_blind {av : List Value} {sz : Nat} : FrameBlind (PcW D T n base M av sz) := by
  intro a U g mk q
  obtain ⟨q0, q1, q2, q3, q4⟩ := q
  exact ⟨q0, q1, q2, va_K.moved (u := U) (U := U.calling g mk a) (Vm.Alike.refl U.vm) q3, fun z hz => va_Nw.same rfl (u := U) (U := U.calling g mk a) rfl (q4 z hz)⟩
def rmO (fr lo : Nat) : Room := { frames := fr, cells := 0, slots := 0, locals := lo }
def OkI (l : Launch) (D : Dd) (T : Nat → Ck) (n base : Nat) (y : MethodName) (cc : ByteArray) (mL : Nat) (ret : Option FieldType) (fr lo : Nat) (av : List Value) (M : Mm) (okr : Int → Prop) (o : Rs) : Prop :=
  ∀ sz r, o = some r → Met l y (.code y cc mL ret :: LW) (rmO fr lo) (PcW D T n base M av sz) (va_Qi (fun (x : Int32) (_ : Unit) => x = Ii r.1 ∧ okr r.1) (fun _ t => Wd D T n base r.2 t.heap) (FA base n sz)) 0 0 (FA base n sz)
def OkV (l : Launch) (D : Dd) (T : Nat → Ck) (n base : Nat) (y : MethodName) (cc : ByteArray) (mL : Nat) (ret : Option FieldType) (fr lo : Nat) (av : List Value) (M : Mm) (o : Rs) : Prop :=
  ∀ sz r, o = some r → Met l y (.code y cc mL ret :: LW) (rmO fr lo) (PcW D T n base M av sz) (va_Qv (fun (_ : Unit) => True) (fun _ t => Wd D T n base r.2 t.heap) (FA base n sz)) 0 0 (FA base n sz)
def OkR (l : Launch) (D : Dd) (T : Nat → Ck) (n base : Nat) (y : MethodName) (cc : ByteArray) (mL : Nat) (ret : Option FieldType) (fr lo : Nat) (av : List Value) (M : Mm) (o : Rs) : Prop :=
  ∀ sz r, o = some r → Met l y (.code y cc mL ret :: LW) (rmO fr lo) (PcW D T n base M av sz) (va_Qq (fun (x : Option Nat) (_ : Unit) => x = ro base r.1) (fun _ t => Wd D T n base r.2 t.heap) (FA base n sz)) 0 0 (FA base n sz)
theorem good_call {x y : Cond} {ws pre : List Cond} (hpre : ∀ w ∈ pre, w ∈ LW) (hx : x ∈ LW) : GoodIn LW (pre ++ (x :: LW)) := by
  intro w hw
  have hm : w ∈ LW := by
    rcases List.mem_append.mp hw with h | h
    · exact hpre w h
    · rcases List.mem_cons.mp h with h | h
      · rw [h]; exact hx
      · exact h
  exact ⟨hm, good_of_word (LW_good w hm)⟩
/-- the callee's words and room -/
def Cw (R : Room) (y : MethodName) (cc : ByteArray) (mL : Nat) (ret : Option FieldType) (fr lo np : Nat) : Prop := Cond.code y cc mL ret ∈ LW ∧ (y.cls ≠ "java/lang/invoke/MethodHandle" ∧ y.cls ≠ "java/lang/invoke/VarHandle" ∧ (parseMethodDescriptor y.desc).map (fun d => d.parameters.length) = some np) ∧ (fr + 1 ≤ R.frames ∧ 8 + (mL + 11) + lo ≤ R.locals)
theorem runV {C : String} {y : MethodName} {cy : ByteArray} {mL : Nat} {ret : Option FieldType} {fr lo np index h ci : Nat} {sl : List (Nat × Nat)} {As rest : List Value} {Qc : Array Value → State → Outcome → State → Prop} {free : Addr → Prop} {H : Heap} {locs : List Loc} {ls : Array Slot} {q : vw_C}
    (X : Cx p s m args c cc D nL own) (hM : Met l y (.code y cy mL ret :: LW) (rmO fr lo) (PcW D T n base M (.ref (base + h) :: As) H.size) Qc 0 0 free) (hd : decode cc pc = .ok (.invokevirtual index, 3)) (w1 : Cond.methodLink own index y ∈ LW) (w2 : Cond.instanceMethod y ∈ LW) (w3 : Cond.selects C y y ∈ LW) (w4 : Cond.initialized C ∈ LW) (w5 : Cw R y cy mL ret fr lo np) (hC : y.cls = C)
    (hk : h < n) (hT : T h = (0, ci, sl)) (hc : vwCl[ci]? = some q) (hq : q.1 = C) (hn : As.length = np) (hst : st = As.reverse ++ .ref (base + h) :: rest) (hrs : (rest.map fun v => v.category).sum ≤ 8) (hW : Wd D T n base M H) (hL : lv_has ls nL L) (hkc : kc ≤ R.cells ∧ ks ≤ R.slots) :
    va_Run p l e R s m args below meth c H locs kc ks 0 0 (F0 m pc ls st) rest (Qc (Value.ref (base + h) :: As).toArray) free := by
  obtain ⟨hx, hb, hml, hown, hts, hK, hN⟩ := X
  obtain ⟨hco, ⟨hy1, hy2, hy3⟩, hR⟩ := w5
  subst hst
  refine va_runV (g := F0 m pc ls (As.reverse ++ .ref (base + h) :: rest)) (nL := nL) ⟨hx, hb, hml, hown, hts⟩ hM (cwV np hts (good_call (y := .tt) (ws := []) (fun w hw => ?_) hco) rfl rfl rfl ⟨hC, hy1, hy2, hy3⟩ hR) ⟨PcW_blind, ?_, fun U hU hWm => ⟨rfl, by rw [hU], by rw [hU]; exact hW, va_K.moved hWm.alike hK, fun z hz => va_Nw.warmM hWm (hN z hz)⟩⟩ rfl hn hL.1 rfl (by show 2 * 0 + (rest.map fun v => v.category).sum ≤ 8; omega) hd hkc
  · simp only [List.mem_cons, List.not_mem_nil, or_false] at hw
    rcases hw with rfl | rfl | rfl | rfl
    · exact w1
    · exact w2
    · exact w3
    · exact w4
  · have he := Ws_get D T base M hk
    rw [show ent D base (T h) (M h) = .inr (ci, sts base sl (M h)) by rw [hT]; rfl] at he
    have := va_recv hK hW.1 hc he
    rw [hq] at this
    exact this
theorem runVN {C host : String} {y : MethodName} {cy : ByteArray} {mL : Nat} {ret : Option FieldType} {fr lo np index h ci : Nat} {sl : List (Nat × Nat)} {As rest : List Value} {Qc : Array Value → State → Outcome → State → Prop} {free : Addr → Prop} {H : Heap} {locs : List Loc} {ls : Array Slot} {q : vw_C}
    (X : Cx p s m args c cc D nL own) (hM : Met l y (.code y cy mL ret :: LW) (rmO fr lo) (PcW D T n base M (.ref (base + h) :: As) H.size) Qc 0 0 free) (hd : decode cc pc = .ok (.invokevirtual index, 3)) (w1 : (own, index, y, host) ∈ NL) (w2 : Cond.instanceMethod y ∈ LW) (w3 : Cond.selects C y y ∈ LW) (w4 : Cond.initialized C ∈ LW) (w5 : Cw R y cy mL ret fr lo np) (hC : y.cls = C)
    (hk : h < n) (hT : T h = (0, ci, sl)) (hc : vwCl[ci]? = some q) (hq : q.1 = C) (hn : As.length = np) (hst : st = As.reverse ++ .ref (base + h) :: rest) (hrs : (rest.map fun v => v.category).sum ≤ 8) (hW : Wd D T n base M H) (hL : lv_has ls nL L) (hkc : kc ≤ R.cells ∧ ks ≤ R.slots) :
    va_Run p l e R s m args below meth c H locs kc ks 0 0 (F0 m pc ls st) rest (Qc (Value.ref (base + h) :: As).toArray) free := by
  obtain ⟨hx, hb, hml, hown, hts, hK, hN⟩ := X
  obtain ⟨hco, ⟨hy1, hy2, hy3⟩, hR⟩ := w5
  subst hst
  subst hC
  refine va_runVN (host := host) (g := F0 m pc ls (As.reverse ++ .ref (base + h) :: rest)) (nL := nL) ⟨hx, hb, hml, hown, hts⟩ hM ⟨va_cnB np hts (good_call (y := .tt) (ws := []) (pre := []) (fun w hw => by cases hw) hco) rfl rfl rfl (hN _ w1) (hts _ w4) ⟨hy1, hy2, hy3⟩ hR, hts _ w2, hts _ w3⟩ ⟨PcW_blind, ?_, fun U hU hWm => ⟨rfl, by rw [hU], by rw [hU]; exact hW, va_K.moved hWm.alike hK, fun z hz => va_Nw.warmM hWm (hN z hz)⟩⟩ rfl hn hL.1 rfl (by show 2 * 0 + (rest.map fun v => v.category).sum ≤ 8; omega) hd hkc
  have he := Ws_get D T base M hk
  rw [show ent D base (T h) (M h) = .inr (ci, sts base sl (M h)) by rw [hT]; rfl] at he
  have := va_recv hK hW.1 hc he
  rw [hq] at this
  exact this
theorem runS {y : MethodName} {cy : ByteArray} {mL : Nat} {ret : Option FieldType} {fr lo np index : Nat} {As rest : List Value} {Qc : Array Value → State → Outcome → State → Prop} {free : Addr → Prop} {H : Heap} {locs : List Loc} {ls : Array Slot}
    (X : Cx p s m args c cc D nL own) (hM : Met l y (.code y cy mL ret :: LW) (rmO fr lo) (PcW D T n base M As H.size) Qc 0 0 free) (hd : decode cc pc = .ok (.invokestatic index, 3)) (w1 : Cond.methodLink own index y ∈ LW) (w2 : Cond.static y ∈ LW) (w4 : Cond.initialized y.cls ∈ LW) (w5 : Cw R y cy mL ret fr lo np)
    (hn : As.length = np) (hst : st = As.reverse ++ rest) (hrs : (rest.map fun v => v.category).sum ≤ 8) (hW : Wd D T n base M H) (hL : lv_has ls nL L) (hkc : kc ≤ R.cells ∧ ks ≤ R.slots) :
    va_Run p l e R s m args below meth c H locs kc ks 0 0 (F0 m pc ls st) rest (Qc As.toArray) free := by
  obtain ⟨hx, hb, hml, hown, hts, hK, hN⟩ := X
  obtain ⟨hco, ⟨hy1, hy2, hy3⟩, hR⟩ := w5
  subst hst
  refine va_runS (g := F0 m pc ls (As.reverse ++ rest)) (nL := nL) ⟨hx, hb, hml, hown, hts⟩ hM (va_cwS np hts (good_call (y := .tt) (ws := []) (fun w hw => ?_) hco) rfl rfl rfl ⟨hy1, hy2, hy3⟩ hR) ⟨PcW_blind, fun U hU hWm => ⟨rfl, by rw [hU], by rw [hU]; exact hW, va_K.moved hWm.alike hK, fun z hz => va_Nw.warmM hWm (hN z hz)⟩⟩ rfl hn hL.1 rfl (by show 2 * 0 + (rest.map fun v => v.category).sum ≤ 8; omega) hd hkc
  simp only [List.mem_cons, List.not_mem_nil, or_false] at hw
  rcases hw with rfl | rfl | rfl
  · exact w1
  · exact w2
  · exact w4
theorem runSN {host : String} {y : MethodName} {cy : ByteArray} {mL : Nat} {ret : Option FieldType} {fr lo np index : Nat} {As rest : List Value} {Qc : Array Value → State → Outcome → State → Prop} {free : Addr → Prop} {H : Heap} {locs : List Loc} {ls : Array Slot}
    (X : Cx p s m args c cc D nL own) (hM : Met l y (.code y cy mL ret :: LW) (rmO fr lo) (PcW D T n base M As H.size) Qc 0 0 free) (hd : decode cc pc = .ok (.invokestatic index, 3)) (w1 : (own, index, y, host) ∈ NL) (w2 : Cond.static y ∈ LW) (w4 : Cond.initialized y.cls ∈ LW) (w5 : Cw R y cy mL ret fr lo np)
    (hn : As.length = np) (hst : st = As.reverse ++ rest) (hrs : (rest.map fun v => v.category).sum ≤ 8) (hW : Wd D T n base M H) (hL : lv_has ls nL L) (hkc : kc ≤ R.cells ∧ ks ≤ R.slots) :
    va_Run p l e R s m args below meth c H locs kc ks 0 0 (F0 m pc ls st) rest (Qc As.toArray) free := by
  obtain ⟨hx, hb, hml, hown, hts, hK, hN⟩ := X
  obtain ⟨hco, ⟨hy1, hy2, hy3⟩, hR⟩ := w5
  subst hst
  exact va_runSN (host := host) (g := F0 m pc ls (As.reverse ++ rest)) (nL := nL) ⟨hx, hb, hml, hown, hts⟩ hM ⟨va_cnB np hts (good_call (y := .tt) (ws := []) (pre := []) (fun w hw => by cases hw) hco) rfl rfl rfl (hN _ w1) (hts _ w4) ⟨hy1, hy2, hy3⟩ hR, hts _ w2, trivial⟩ ⟨PcW_blind, fun U hU hWm => ⟨rfl, by rw [hU], by rw [hU]; exact hW, va_K.moved hWm.alike hK, fun z hz => va_Nw.warmM hWm (hN z hz)⟩⟩ rfl hn hL.1 rfl (by show 2 * 0 + (rest.map fun v => v.category).sum ≤ 8; omega) hd hkc
/-- a call behind its run, by what it answers -/
theorem FA_le {sz sz' : Nat} (h : sz' ≤ sz) : ∀ q, q < sz → FA base n sz q → FA base n sz' q := by
  intro q hq hf
  rcases hf with h1 | h1
  · exact Or.inl h1
  · exact Or.inr (Nat.le_trans h h1)
theorem FA_le2 {sz sz' : Nat} (h : sz' ≤ sz) : ∀ q, FA base n sz q → FA base n sz' q := by
  intro q hf
  rcases hf with h1 | h1
  · exact Or.inl h1
  · exact Or.inr (Nat.le_trans h h1)
theorem goI {a : Array Value} {okr : Int → Prop} {o : Rs} {q : Int → Mm → Option α} {rest : List Value} (hrun : ∀ (H : Heap) (locs : List Loc) (ls : Array Slot) (r : Int × Mm), o = some r → Wd D T n base M H → lv_has ls nL L → va_Run p l e R s m args below meth c H locs kc ks 0 0 (F0 m pc ls st) rest (va_Qi (fun (x : Int32) (_ : Unit) => x = Ii r.1 ∧ okr r.1) (fun _ t => Wd D T n base r.2 t.heap) (FA base n H.size) a) (FA base n H.size))
    (kk : ∀ x M, okr x → Go p l e R s m args below meth c D T n base nL kc ks fin M (pc + 3) L (.int (Ii x) :: rest) (q x M)) : Go p l e R s m args below meth c D T n base nL kc ks fin M pc L st (Cl o q) := by
  intro r hr H locs ls hW hS hL
  cases o with
  | none => exact absurd hr (by simp [Cl])
  | some z =>
    refine va_calli (hrun H locs ls z rfl hW hL) hS (FA_le hS.1) (FA_le2 hS.1) (fun x u t H1 locs1 ht hvm hp hB hz hk hS1 => ?_)
    rw [ht] at hB
    rw [hp.1]
    exact kk z.1 z.2 hp.2 r hr H1 locs1 ls hB hS1 hL
theorem goV {a : Array Value} {o : Rs} {q : Int → Mm → Option α} {rest : List Value} (hrun : ∀ (H : Heap) (locs : List Loc) (ls : Array Slot) (r : Int × Mm), o = some r → Wd D T n base M H → lv_has ls nL L → va_Run p l e R s m args below meth c H locs kc ks 0 0 (F0 m pc ls st) rest (va_Qv (fun (_ : Unit) => True) (fun _ t => Wd D T n base r.2 t.heap) (FA base n H.size) a) (FA base n H.size))
    (kk : ∀ x M, Go p l e R s m args below meth c D T n base nL kc ks fin M (pc + 3) L rest (q x M)) : Go p l e R s m args below meth c D T n base nL kc ks fin M pc L st (Cl o q) := by
  intro r hr H locs ls hW hS hL
  cases o with
  | none => exact absurd hr (by simp [Cl])
  | some z =>
    refine va_callv (hrun H locs ls z rfl hW hL) hS (FA_le hS.1) (FA_le2 hS.1) (fun u t H1 locs1 ht hvm hp hB hz hk hS1 => ?_)
    rw [ht] at hB
    exact kk z.1 z.2 r hr H1 locs1 ls hB hS1 hL
theorem goR {a : Array Value} {o : Rs} {q : Int → Mm → Option α} {rest : List Value} (hrun : ∀ (H : Heap) (locs : List Loc) (ls : Array Slot) (r : Int × Mm), o = some r → Wd D T n base M H → lv_has ls nL L → va_Run p l e R s m args below meth c H locs kc ks 0 0 (F0 m pc ls st) rest (va_Qq (fun (x : Option Nat) (_ : Unit) => x = ro base r.1) (fun _ t => Wd D T n base r.2 t.heap) (FA base n H.size) a) (FA base n H.size))
    (kk : ∀ x M, Go p l e R s m args below meth c D T n base nL kc ks fin M (pc + 3) L (rv base x :: rest) (q x M)) : Go p l e R s m args below meth c D T n base nL kc ks fin M pc L st (Cl o q) := by
  intro r hr H locs ls hW hS hL
  cases o with
  | none => exact absurd hr (by simp [Cl])
  | some z =>
    refine va_callq (hrun H locs ls z rfl hW hL) hS (FA_le hS.1) (FA_le2 hS.1) (fun x u t H1 locs1 ht hvm hp hB hz hk hS1 => ?_)
    rw [ht] at hB
    rw [hp, ro_rv]
    exact kk z.1 z.2 r hr H1 locs1 ls hB hS1 hL
end CALLS
section ENDS
variable {p : Program} {l : Launch} {e : Env} {R : Room} {s : State} {m : MethodId} {args : Array Value} {below : List Frame} {meth : Method} {c : Code} {cc : ByteArray} {D : Dd} {T : Nat → Ck} {n base nL kc ks : Nat} {own : String} {M : Mm} {pc : Nat} {L : List (Nat × Value)} {st : List Value}
def FinI (D : Dd) (T : Nat → Ck) (n base : Nat) (below : List Frame) (args : Array Value) (s : State) (okr : Int → Prop) : Int × Mm → State → Prop := fun r => MQ below (va_Qi (fun (x : Int32) (_ : Unit) => x = Ii r.1 ∧ okr r.1) (fun _ t => Wd D T n base r.2 t.heap) (FA base n s.heap.size)) args s 0 0 (FA base n s.heap.size)
def FinV (D : Dd) (T : Nat → Ck) (n base : Nat) (below : List Frame) (args : Array Value) (s : State) : Int × Mm → State → Prop := fun r => MQ below (va_Qv (fun (_ : Unit) => True) (fun _ t => Wd D T n base r.2 t.heap) (FA base n s.heap.size)) args s 0 0 (FA base n s.heap.size)
def FinR (D : Dd) (T : Nat → Ck) (n base : Nat) (below : List Frame) (args : Array Value) (s : State) : Int × Mm → State → Prop := fun r => MQ below (va_Qq (fun (x : Option Nat) (_ : Unit) => x = ro base r.1) (fun _ t => Wd D T n base r.2 t.heap) (FA base n s.heap.size)) args s 0 0 (FA base n s.heap.size)
theorem go_ireturn {okr : Int → Prop} {x : Int} (X : Cx p s m args c cc D nL own) (hrt : meth.sig.returnType = some .int) (hlk : meth.locks = false) (hd : decode cc pc = .ok (.ireturn, 1)) (hok : okr x) : Go p l e R s m args below meth c D T n base nL 0 0 (FinI D T n base below args s okr) M pc L [.int (Ii x)] (some (x, M)) := by
  intro r hr H locs ls hW hS hL
  obtain ⟨hx, hb, hml, hown, hts, hK, hN⟩ := X
  cases hr
  exact W.iret (v := Ii x) hx hb hrt (fun t ht hWm => ⟨⟨Ii x, (), rfl, ⟨rfl, hok⟩, (show Wd D T n base M t.heap by rw [ht]; exact hW)⟩, hS.F ht⟩) hS.2.2 hd hlk
theorem go_zreturn {okr : Int → Prop} {x : Int} (X : Cx p s m args c cc D nL own) (hrt : meth.sig.returnType = some .boolean) (hlk : meth.locks = false) (hd : decode cc pc = .ok (.ireturn, 1)) (hx9 : bo x) (hok : okr x) : Go p l e R s m args below meth c D T n base nL 0 0 (FinI D T n base below args s okr) M pc L [.int (Ii x)] (some (x, M)) := by
  intro r hr H locs ls hW hS hL
  obtain ⟨hx, hb, hml, hown, hts, hK, hN⟩ := X
  cases hr
  exact W.zret (v := Ii x) hx hb hrt (Ii_narr hx9) (fun t ht hWm => ⟨⟨Ii x, (), rfl, ⟨rfl, hok⟩, (show Wd D T n base M t.heap by rw [ht]; exact hW)⟩, hS.F ht⟩) hS.2.2 hd hlk
theorem go_vreturn {x : Int} (X : Cx p s m args c cc D nL own) (hrt : meth.sig.returnType = none) (hlk : meth.locks = false) (hd : decode cc pc = .ok (.return_, 1)) : Go p l e R s m args below meth c D T n base nL 0 0 (FinV D T n base below args s) M pc L [] (some (x, M)) := by
  intro r hr H locs ls hW hS hL
  obtain ⟨hx, hb, hml, hown, hts, hK, hN⟩ := X
  cases hr
  exact W.vret hx hb hrt (fun t ht hWm => ⟨⟨(), rfl, trivial, (show Wd D T n base M t.heap by rw [ht]; exact hW)⟩, hS.F ht⟩) hS.2.2 hd hlk
theorem rv_or (base : Nat) (v : Int) : rv base v = .null ∨ ∃ a, rv base v = .ref a := by unfold rv; split; exact Or.inl rfl; exact Or.inr ⟨_, rfl⟩
theorem go_areturn {x : Int} {w : Value} {C : String} (X : Cx p s m args c cc D nL own) (hrt : meth.sig.returnType = some (.object C)) (hlk : meth.locks = false) (hd : decode cc pc = .ok (.areturn, 1)) (hw : w = rv base x) : Go p l e R s m args below meth c D T n base nL 0 0 (FinR D T n base below args s) M pc L [w] (some (x, M)) := by
  intro r hr H locs ls hW hS hL
  obtain ⟨hx, hb, hml, hown, hts, hK, hN⟩ := X
  cases hr
  subst hw
  exact W.aret (v := rv base x) hx hb hrt (Or.inl ⟨_, rfl⟩) (rv_or base x) (fun t ht hWm => ⟨⟨ro base x, (), by rw [ro_rv], rfl, (show Wd D T n base M t.heap by rw [ht]; exact hW)⟩, hS.F ht⟩) hS.2.2 hd hlk
theorem metI {y : MethodName} {cy : ByteArray} {mL : Nat} {ret : Option FieldType} {fr lo : Nat} {av : List Value} {okr : Int → Prop} {o : Rs} (hy : plainName y.cls = true) (L0 : List (Nat × Value)) (hL0 : lv_args 0 av = L0) (hle : (lg_sl av).length ≤ mL)
    (body : ∀ (p : Program) (e : Env) (s : State) (m : MethodId) (args : Array Value) (below : List Frame) (meth : Method) (c : Code), Cx p s m args c cy D mL y.cls → meth.sig.returnType = ret → meth.locks = false → Go p l e (rmO fr lo) s m args below meth c D T n base mL 0 0 (FinI D T n base below args s okr) M 0 L0 [] o) : OkI l D T n base y cy mL ret fr lo av M okr o := by
  intro sz r ho
  refine Met.ofW (cc := cy) (maxL := mL) (ret := ret) hy rfl ?_
  intro p e s m args below meth c s₁ B hml hv
  obtain ⟨rfl, rfl, hW, hK, hN⟩ := hv
  have hts := atoms_spec (ws := .code y cy mL ret :: LW) B.pre
  have hl := lv_entry av (n := mL) hle
  rw [lg_entry_eq]
  rw [hL0] at hl
  exact body p e s m av.toArray below meth c ⟨B.exec, B.bytes, hml, findClass_of_methodNamed B.named, fun w hw => hts w (List.mem_cons_of_mem _ hw), hK, hN⟩ B.returns B.notSynchronized r ho s.heap [] _ hW va_S.rf hl
theorem metV {y : MethodName} {cy : ByteArray} {mL : Nat} {ret : Option FieldType} {fr lo : Nat} {av : List Value} {o : Rs} (hy : plainName y.cls = true) (L0 : List (Nat × Value)) (hL0 : lv_args 0 av = L0) (hle : (lg_sl av).length ≤ mL)
    (body : ∀ (p : Program) (e : Env) (s : State) (m : MethodId) (args : Array Value) (below : List Frame) (meth : Method) (c : Code), Cx p s m args c cy D mL y.cls → meth.sig.returnType = ret → meth.locks = false → Go p l e (rmO fr lo) s m args below meth c D T n base mL 0 0 (FinV D T n base below args s) M 0 L0 [] o) : OkV l D T n base y cy mL ret fr lo av M o := by
  intro sz r ho
  refine Met.ofW (cc := cy) (maxL := mL) (ret := ret) hy rfl ?_
  intro p e s m args below meth c s₁ B hml hv
  obtain ⟨rfl, rfl, hW, hK, hN⟩ := hv
  have hts := atoms_spec (ws := .code y cy mL ret :: LW) B.pre
  have hl := lv_entry av (n := mL) hle
  rw [lg_entry_eq]
  rw [hL0] at hl
  exact body p e s m av.toArray below meth c ⟨B.exec, B.bytes, hml, findClass_of_methodNamed B.named, fun w hw => hts w (List.mem_cons_of_mem _ hw), hK, hN⟩ B.returns B.notSynchronized r ho s.heap [] _ hW va_S.rf hl
theorem metR {y : MethodName} {cy : ByteArray} {mL : Nat} {ret : Option FieldType} {fr lo : Nat} {av : List Value} {o : Rs} (hy : plainName y.cls = true) (L0 : List (Nat × Value)) (hL0 : lv_args 0 av = L0) (hle : (lg_sl av).length ≤ mL)
    (body : ∀ (p : Program) (e : Env) (s : State) (m : MethodId) (args : Array Value) (below : List Frame) (meth : Method) (c : Code), Cx p s m args c cy D mL y.cls → meth.sig.returnType = ret → meth.locks = false → Go p l e (rmO fr lo) s m args below meth c D T n base mL 0 0 (FinR D T n base below args s) M 0 L0 [] o) : OkR l D T n base y cy mL ret fr lo av M o := by
  intro sz r ho
  refine Met.ofW (cc := cy) (maxL := mL) (ret := ret) hy rfl ?_
  intro p e s m args below meth c s₁ B hml hv
  obtain ⟨rfl, rfl, hW, hK, hN⟩ := hv
  have hts := atoms_spec (ws := .code y cy mL ret :: LW) B.pre
  have hl := lv_entry av (n := mL) hle
  rw [lg_entry_eq]
  rw [hL0] at hl
  exact body p e s m av.toArray below meth c ⟨B.exec, B.bytes, hml, findClass_of_methodNamed B.named, fun w hw => hts w (List.mem_cons_of_mem _ hw), hK, hN⟩ B.returns B.notSynchronized r ho s.heap [] _ hW va_S.rf hl
end ENDS
theorem nl0 : ((RX11, 11, yX5_init, "AttribArbor") : Nst) ∈ NL := List.mem_of_getElem? (i := 0) rfl
theorem nl1 : ((RX11, 18, yX0_init, "AttribArbor") : Nst) ∈ NL := List.mem_of_getElem? (i := 1) rfl
theorem nl2 : ((RX1, 45, yX0_init, "AttribArbor") : Nst) ∈ NL := List.mem_of_getElem? (i := 2) rfl
theorem nl3 : ((RX11, 46, yX8_init, "AttribArbor") : Nst) ∈ NL := List.mem_of_getElem? (i := 3) rfl
theorem nl4 : ((RX11, 56, yX3_init, "AttribArbor") : Nst) ∈ NL := List.mem_of_getElem? (i := 4) rfl
theorem nl5 : ((RX2, 44, yX4_init, "AttribArbor") : Nst) ∈ NL := List.mem_of_getElem? (i := 5) rfl
theorem nl6 : ((RX1, 99, yX11_entryOf, "AttribArbor") : Nst) ∈ NL := List.mem_of_getElem? (i := 6) rfl
theorem nl7 : ((RX6, 30, yX11_fillRow, "AttribArbor") : Nst) ∈ NL := List.mem_of_getElem? (i := 7) rfl
theorem nl8 : ((RX6, 52, yX11_entryOf, "AttribArbor") : Nst) ∈ NL := List.mem_of_getElem? (i := 8) rfl
theorem nl9 : ((RX6, 56, yX11_setEntry, "AttribArbor") : Nst) ∈ NL := List.mem_of_getElem? (i := 9) rfl
theorem nl10 : ((RX5, 64, yX11_entryOf, "AttribArbor") : Nst) ∈ NL := List.mem_of_getElem? (i := 10) rfl
theorem nl11 : ((RX5, 52, yX11_setEntry, "AttribArbor") : Nst) ∈ NL := List.mem_of_getElem? (i := 11) rfl
theorem nl12 : ((RX10, 22, yX11_fillRow, "AttribArbor") : Nst) ∈ NL := List.mem_of_getElem? (i := 12) rfl
theorem nl13 : ((RX10, 35, yX11_setEntry, "AttribArbor") : Nst) ∈ NL := List.mem_of_getElem? (i := 13) rfl
theorem nl14 : ((RX1, 62, yX11_fillRow, "AttribArbor") : Nst) ∈ NL := List.mem_of_getElem? (i := 14) rfl
theorem nl15 : ((RX1, 103, yX11_setEntry, "AttribArbor") : Nst) ∈ NL := List.mem_of_getElem? (i := 15) rfl
theorem nl16 : ((RX3, 32, yX11_fillRow, "AttribArbor") : Nst) ∈ NL := List.mem_of_getElem? (i := 16) rfl
theorem nl17 : ((RX0, 33, yX11_operandsOf, "AttribArbor") : Nst) ∈ NL := List.mem_of_getElem? (i := 17) rfl
theorem nl18 : ((RX0, 44, yX11_entryOf, "AttribArbor") : Nst) ∈ NL := List.mem_of_getElem? (i := 18) rfl
theorem nl19 : ((RX0, 48, yX11_setEntry, "AttribArbor") : Nst) ∈ NL := List.mem_of_getElem? (i := 19) rfl
theorem nl20 : ((RX0, 68, yX11_copyRow, "AttribArbor") : Nst) ∈ NL := List.mem_of_getElem? (i := 20) rfl
theorem nl21 : ((RX9, 47, yX11_entryOf, "AttribArbor") : Nst) ∈ NL := List.mem_of_getElem? (i := 21) rfl
theorem nl22 : ((RX9, 51, yX11_setEntry, "AttribArbor") : Nst) ∈ NL := List.mem_of_getElem? (i := 22) rfl
theorem nl23 : ((RX9, 76, yX11_fillRow, "AttribArbor") : Nst) ∈ NL := List.mem_of_getElem? (i := 23) rfl
theorem nl24 : ((RX8, 40, yX11_setEntry, "AttribArbor") : Nst) ∈ NL := List.mem_of_getElem? (i := 24) rfl
theorem nl25 : ((RX8, 48, yX11_entryOf, "AttribArbor") : Nst) ∈ NL := List.mem_of_getElem? (i := 25) rfl
theorem nl26 : ((RX8, 80, yX11_bitOf, "AttribArbor") : Nst) ∈ NL := List.mem_of_getElem? (i := 26) rfl
theorem nl27 : ((RX3, 36, yX11_entryOf, "AttribArbor") : Nst) ∈ NL := List.mem_of_getElem? (i := 27) rfl
theorem nl28 : ((RX3, 24, yX11_setEntry, "AttribArbor") : Nst) ∈ NL := List.mem_of_getElem? (i := 28) rfl
theorem nl29 : ((RX3, 50, yX11_slotOf, "AttribArbor") : Nst) ∈ NL := List.mem_of_getElem? (i := 29) rfl
theorem nl30 : ((RX3, 71, yX11_bitOf, "AttribArbor") : Nst) ∈ NL := List.mem_of_getElem? (i := 30) rfl
theorem nl31 : ((RX3, 67, yX11_copyRow, "AttribArbor") : Nst) ∈ NL := List.mem_of_getElem? (i := 31) rfl
theorem nl32 : ((RX8, 83, yX11_copyRow, "AttribArbor") : Nst) ∈ NL := List.mem_of_getElem? (i := 32) rfl
theorem nl33 : ((RX7, 42, yX11_fillRow, "AttribArbor") : Nst) ∈ NL := List.mem_of_getElem? (i := 33) rfl
theorem nl34 : ((RX2, 57, yX11_slotOf, "AttribArbor") : Nst) ∈ NL := List.mem_of_getElem? (i := 34) rfl
theorem nl35 : ((RX2, 111, yX11_bitOf, "AttribArbor") : Nst) ∈ NL := List.mem_of_getElem? (i := 35) rfl
theorem nl36 : ((RX2, 252, yX11_entryOf, "AttribArbor") : Nst) ∈ NL := List.mem_of_getElem? (i := 36) rfl
theorem nl37 : ((RX4, 45, yX11_setEntry, "AttribArbor") : Nst) ∈ NL := List.mem_of_getElem? (i := 37) rfl
theorem nl38 : ((RX7, 73, yX11_setEntry, "AttribArbor") : Nst) ∈ NL := List.mem_of_getElem? (i := 38) rfl
theorem nl39 : ((RX7, 38, yX11_entryOf, "AttribArbor") : Nst) ∈ NL := List.mem_of_getElem? (i := 39) rfl
theorem nl40 : ((RX7, 80, yX11_copyRow, "AttribArbor") : Nst) ∈ NL := List.mem_of_getElem? (i := 40) rfl
theorem fc0 : Fc 0 RX0 TX0 13 tyX0 := ⟨rfl, fcw0, tyX0_ok, nmX0⟩
theorem fc1 : Fc 1 RX1 TX1 10 tyX1 := ⟨rfl, fcw1, tyX1_ok, nmX1⟩
theorem fc2 : Fc 2 RX2 TX2 13 tyX2 := ⟨rfl, fcw2, tyX2_ok, nmX2⟩
theorem fc3 : Fc 3 RX3 TX3 5 tyX3 := ⟨rfl, fcw3, tyX3_ok, nmX3⟩
theorem fc4 : Fc 4 RX4 TX4 14 tyX4 := ⟨rfl, fcw4, tyX4_ok, nmX4⟩
theorem fc5 : Fc 5 RX5 TX5 14 tyX5 := ⟨rfl, fcw5, tyX5_ok, nmX5⟩
theorem fc6 : Fc 6 RX6 TX6 5 tyX6 := ⟨rfl, fcw6, tyX6_ok, nmX6⟩
theorem fc7 : Fc 7 RX7 TX7 7 tyX7 := ⟨rfl, fcw7, tyX7_ok, nmX7⟩
theorem fc8 : Fc 8 RX8 TX8 9 tyX8 := ⟨rfl, fcw8, tyX8_ok, nmX8⟩
theorem fc9 : Fc 9 RX9 TX9 13 tyX9 := ⟨rfl, fcw9, tyX9_ok, nmX9⟩
theorem fc10 : Fc 10 RX10 TX10 3 tyX10 := ⟨rfl, fcw10, tyX10_ok, nmX10⟩
theorem fc11 : Fc 11 RX11 TX11 11 tyX11 := ⟨rfl, fcw11, tyX11_ok, nmX11⟩
theorem hk0 {a b : Nat} : 0 ≤ a ∧ 0 ≤ b := ⟨Nat.zero_le _, Nat.zero_le _⟩
section GQ
theorem cat_i (x : Int32) : (Value.int x).category = 1 := rfl
theorem cat_r (x : Nat) : (Value.ref x).category = 1 := rfl
theorem cat_l (x : Int64) : (Value.long x).category = 2 := rfl
variable {p : Program} {l : Launch} {e : Env} {R : Room} {s : State} {m : MethodId} {args : Array Value} {below : List Frame} {meth : Method} {c : Code} {cc : ByteArray} {D : Dd} {T : Nat → Ck} {n base nL kc ks : Nat} {own : String} {α : Type} {fin : α → State → Prop} {M : Mm} {pc : Nat} {L : List (Nat × Value)} {st : List Value}

theorem go_anull {k : Option α}  (X : Cx p s m args c cc D nL own) (hd : decode cc pc = .ok (.aconst_null, 1)) (kk : Go p l e R s m args below meth c D T n base nL kc ks fin M (pc + 1) L (rv base (-1) :: st) k) : Go p l e R s m args below meth c D T n base nL kc ks fin M pc L st k := by
  intro r hr H locs ls hW hS hL
  obtain ⟨hx, hb, hml, hown, hts, hK, hN⟩ := X
  exact lv_null hx hb hd (kk r hr H locs ls hW hS hL)
theorem go_aload_nQ {k : Option α} {kf : Fin 4} {i : Nat} {v : Int} (X : Cx p s m args c cc D nL own) (hd : decode cc pc = .ok (.aload_n kf, 1)) (hi : (kf : Nat) = i) (j : Nat) (hl : L[j]? = some (i, rv base v)) (kk : Go p l e R s m args below meth c D T n base nL kc ks fin M (pc + 1) L (rv base v :: st) k) : Go p l e R s m args below meth c D T n base nL kc ks fin M pc L st k := by
  intro r hr H locs ls hW hS hL
  obtain ⟨hx, hb, hml, hown, hts, hK, hN⟩ := X
  have hl9 := lv_at hL j hl
  have kk9 := kk r hr H locs ls hW hS hL
  by_cases z : v < 0
  · rw [rv_null z] at hl9 kk9
    exact lv_aload_nN hx hb hd hi hl9 kk9
  · rw [rv_ref z] at hl9 kk9
    exact lv_aload_n hx hb hd hi hl9 kk9
theorem go_aload_nP {k : Option α} {kf : Fin 4} {i : Nat} {v : Int} (X : Cx p s m args c cc D nL own) (hd : decode cc pc = .ok (.aload_n kf, 1)) (hi : (kf : Nat) = i) (j : Nat) (hl : L[j]? = some (i, rv base v)) (hz : ¬ v < 0) (kk : Go p l e R s m args below meth c D T n base nL kc ks fin M (pc + 1) L (.ref (base + v.toNat) :: st) k) : Go p l e R s m args below meth c D T n base nL kc ks fin M pc L st k := by
  intro r hr H locs ls hW hS hL
  obtain ⟨hx, hb, hml, hown, hts, hK, hN⟩ := X
  have hl9 := lv_at hL j hl
  rw [rv_ref hz] at hl9
  exact lv_aload_n hx hb hd hi hl9 (kk r hr H locs ls hW hS hL)
theorem go_aloadQ {k : Option α} {i : Nat} {v : Int} (X : Cx p s m args c cc D nL own) (hd : decode cc pc = .ok (.aload i, 2)) (j : Nat) (hl : L[j]? = some (i, rv base v)) (kk : Go p l e R s m args below meth c D T n base nL kc ks fin M (pc + 2) L (rv base v :: st) k) : Go p l e R s m args below meth c D T n base nL kc ks fin M pc L st k := by
  intro r hr H locs ls hW hS hL
  obtain ⟨hx, hb, hml, hown, hts, hK, hN⟩ := X
  have hl9 := lv_at hL j hl
  have kk9 := kk r hr H locs ls hW hS hL
  by_cases z : v < 0
  · rw [rv_null z] at hl9 kk9
    exact lv_aloadN hx hb hd hl9 kk9
  · rw [rv_ref z] at hl9 kk9
    exact lv_aload hx hb hd hl9 kk9
theorem go_aloadP {k : Option α} {i : Nat} {v : Int} (X : Cx p s m args c cc D nL own) (hd : decode cc pc = .ok (.aload i, 2)) (j : Nat) (hl : L[j]? = some (i, rv base v)) (hz : ¬ v < 0) (kk : Go p l e R s m args below meth c D T n base nL kc ks fin M (pc + 2) L (.ref (base + v.toNat) :: st) k) : Go p l e R s m args below meth c D T n base nL kc ks fin M pc L st k := by
  intro r hr H locs ls hW hS hL
  obtain ⟨hx, hb, hml, hown, hts, hK, hN⟩ := X
  have hl9 := lv_at hL j hl
  rw [rv_ref hz] at hl9
  exact lv_aload hx hb hd hl9 (kk r hr H locs ls hW hS hL)
theorem go_astore_nQ {k : Option α} {kf : Fin 4} {i : Nat} {v : Int} {L' : List (Nat × Value)} (X : Cx p s m args c cc D nL own) (hd : decode cc pc = .ok (.astore_n kf, 1)) (hi : (kf : Nat) = i) (hn : i < nL) (hl : (i, rv base v) :: L.filter (fun q => !(q.1 == i) && !(q.1 + 1 == i && q.2.category == 2)) = L') (kk : Go p l e R s m args below meth c D T n base nL kc ks fin M (pc + 1) L' st k) : Go p l e R s m args below meth c D T n base nL kc ks fin M pc L (rv base v :: st) k := by
  intro r hr H locs ls hW hS hL
  obtain ⟨hx, hb, hml, hown, hts, hK, hN⟩ := X
  subst hl
  by_cases z : v < 0
  · rw [rv_null z] at kk ⊢
    exact lv_astore_nN hx hb hd hi hL hn rfl (fun ls hl => kk r hr H locs ls hW hS hl)
  · rw [rv_ref z] at kk ⊢
    exact lv_astore_n hx hb hd hi hL hn rfl (fun ls hl => kk r hr H locs ls hW hS hl)
theorem go_astoreQ {k : Option α} {i : Nat} {v : Int} {L' : List (Nat × Value)} (X : Cx p s m args c cc D nL own) (hd : decode cc pc = .ok (.astore i, 2)) (hn : i < nL) (hl : (i, rv base v) :: L.filter (fun q => !(q.1 == i) && !(q.1 + 1 == i && q.2.category == 2)) = L') (kk : Go p l e R s m args below meth c D T n base nL kc ks fin M (pc + 2) L' st k) : Go p l e R s m args below meth c D T n base nL kc ks fin M pc L (rv base v :: st) k := by
  intro r hr H locs ls hW hS hL
  obtain ⟨hx, hb, hml, hown, hts, hK, hN⟩ := X
  subst hl
  by_cases z : v < 0
  · rw [rv_null z] at kk ⊢
    exact lv_astoreN hx hb hd hL hn rfl (fun ls hl => kk r hr H locs ls hW hS hl)
  · rw [rv_ref z] at kk ⊢
    exact lv_astore hx hb hd hL hn rfl (fun ls hl => kk r hr H locs ls hW hS hl)
theorem go_q2r {k : Option α} {v : Int} (hz : ¬ v < 0) (kk : Go p l e R s m args below meth c D T n base nL kc ks fin M pc L (.ref (base + v.toNat) :: st) k) : Go p l e R s m args below meth c D T n base nL kc ks fin M pc L (rv base v :: st) k := by
  rw [rv_ref hz]
  exact kk
theorem go_r2q {k : Option α} {i : Nat} (kk : Go p l e R s m args below meth c D T n base nL kc ks fin M pc L (rv base ((i : Nat) : Int) :: st) k) : Go p l e R s m args below meth c D T n base nL kc ks fin M pc L (.ref (base + i) :: st) k := by
  rw [rv_nat] at kk
  exact kk
theorem go_lt {β : Type} {x : β} {k : β → Option α} (P : β → Prop) (h : P x) (kk : ∀ J, P J → Go p l e R s m args below meth c D T n base nL kc ks fin M pc L st (k J)) : Go p l e R s m args below meth c D T n base nL kc ks fin M pc L st (Lt x k) := kk x h
theorem go_mmax {a b : Int} {k : Int → Option α} {index : Nat} (X : Cx p s m args c cc D nL own) (hd : decode cc pc = .ok (.invokestatic index, 3)) (w1 : Cond.methodLink own index Lib.Math.max.name ∈ LW) (w2 : Cond.static Lib.Math.max.name ∈ LW) (w3 : Cond.initialized "java/lang/Math" ∈ LW) (w4 : Cond.code Lib.Math.max.name Lib.Math.max.code 2 (some .int) ∈ LW) (h1 : 1 ≤ R.frames) (h2 : (st.map fun v => v.category).sum + 13 ≤ R.locals) (hkc : kc ≤ R.cells ∧ ks ≤ R.slots) (ha : i32 a) (hb2 : i32 b) (kk : ∀ x, i32 x → Go p l e R s m args below meth c D T n base nL kc ks fin M (pc + 3) L (.int (Ii x) :: st) (k x)) : Go p l e R s m args below meth c D T n base nL kc ks fin M pc L (.int (Ii b) :: .int (Ii a) :: st) (Lt (if a < b then b else a) k) := by
  intro r hr H locs ls hW hS hL
  obtain ⟨hx, hb, hml, hown, hts, hK, hN⟩ := X
  refine va_mmax hx hb (hml.trans hL.1.symm) hown (hts _ w1) (hts _ w2) (hts _ w3) (hts _ w4) h1 h2 hkc.1 hkc.2 hd ?_
  unfold Lt at hr
  by_cases z : a < b
  · rw [if_pos ((Ii_lt ha hb2).mpr z)]
    rw [if_pos z] at hr
    exact kk b hb2 r hr H locs ls hW hS hL
  · rw [if_neg (fun h => z ((Ii_lt ha hb2).mp h))]
    rw [if_neg z] at hr
    exact kk a ha r hr H locs ls hW hS hL
/-- a loop, by its body, for so many turns at most -/
def Lp {σ β : Type} (body : (σ → Option β) → σ → Option β) : Nat → σ → Option β
  | 0, _ => none
  | f + 1, x => body (Lp body f) x
def FU : Nat := 1000000000000000
theorem go_lp {σ β : Type} {body : (σ → Option β) → σ → Option β} (P : (σ → Option β) → Prop) (h0 : P (fun _ => none)) (step : ∀ rc, P rc → P (body rc)) : ∀ f, P (Lp body f) := by
  intro f
  induction f with
  | zero => exact h0
  | succ f ih => exact step _ ih
end GQ
