/-! constructors: a world that grows; its references may change till it stands -/
def tk (q : Ck) : Ck := match q.1 with
  | 0 => (0, q.2.1, q.2.2.map fun z => if z.1 = 2 then (3, 0) else z)
  | 5 => (4, q.2.1, [])
  | 7 => (6, q.2.1, [])
  | _ => q
def TK (T : Nat → Ck) (k : Nat) : Ck := tk (T k)
def miS (q : Nat × Nat) : Int := if q.1 = 3 then -1 else 0
def mi (q : Ck) (i : Nat) : Int := match q.1 with
  | 0 => miS (q.2.2.getD i (0, 0))
  | 1 => 0
  | 2 => 0
  | 3 => 0
  | _ => -1
def MI (T : Nat → Ck) : Mm := fun k i => mi (TK T k) i
def kdOk (t : FieldType) (q : Nat × Nat) : Bool := match t with
  | .int => q.1 == 0
  | .boolean => q.1 == 1
  | .long => q.1 == 4
  | .object _ => q.1 == 3
  | .array _ => q.1 == 3
  | _ => false
theorem kdOk_def {t : FieldType} {q : Nat × Nat} (base : Nat) (h : kdOk t q = true) : defaultValue t = sv base q (miS q) := by
  obtain ⟨a, b⟩ := q
  cases t <;> simp [kdOk] at h <;> subst h <;> rfl
section CT
variable {p : Program} {l : Launch} {e : Env} {R : Room} {s : State} {m : MethodId} {args : Array Value} {below : List Frame} {meth : Method} {c : Code} {cc : ByteArray} {D : Dd} {T : Nat → Ck} {n base nL kc ks : Nat} {own : String} {Q : State → Prop} {M : Mm} {pc : Nat} {L : List (Nat × Value)} {st : List Value}
def FB (base : Nat) : Addr → Prop := fun q => base ≤ q
def Gn (p : Program) (l : Launch) (e : Env) (R : Room) (s : State) (m : MethodId) (args : Array Value) (below : List Frame) (meth : Method) (c : Code) (D : Dd) (T : Nat → Ck) (n base nL kc ks : Nat) (Q : State → Prop) (M : Mm) (pc : Nat) (L : List (Nat × Value)) (st : List Value) : Prop :=
  ∀ (H : Heap) (locs : List Loc) (ls : Array Slot), Wd D T n base M H → H.size = base + n → va_S (FB base) s.heap H locs → lv_has ls nL L → W p l e R s m args below meth c H locs kc ks Q (F0 m pc ls st)
def Kc (args : Array Value) (s : State) : Prop := va_AO RX0 s ∧ va_AO RX4 s
theorem gn_iload_n {kf : Fin 4} {i : Nat} {v : Int32} (X : Cx p s m args c cc D nL own) (hd : decode cc pc = .ok (.iload_n kf, 1)) (hi : (kf : Nat) = i) (j : Nat) (hl : L[j]? = some (i, .int v)) (kk : Gn p l e R s m args below meth c D T n base nL kc ks Q M (pc + 1) L (.int v :: st)) : Gn p l e R s m args below meth c D T n base nL kc ks Q M pc L st := by
  intro H locs ls hW hz hS hL
  obtain ⟨hx, hb, hml, hown, hts, hK, hN⟩ := X
  exact lv_iload_n hx hb hd hi (lv_at hL j hl) (kk H locs ls hW hz hS hL)
theorem gn_iload {i : Nat} {v : Int32} (X : Cx p s m args c cc D nL own) (hd : decode cc pc = .ok (.iload i, 2)) (j : Nat) (hl : L[j]? = some (i, .int v)) (kk : Gn p l e R s m args below meth c D T n base nL kc ks Q M (pc + 2) L (.int v :: st)) : Gn p l e R s m args below meth c D T n base nL kc ks Q M pc L st := by
  intro H locs ls hW hz hS hL
  obtain ⟨hx, hb, hml, hown, hts, hK, hN⟩ := X
  exact lv_iload hx hb hd (lv_at hL j hl) (kk H locs ls hW hz hS hL)
theorem gn_aload_n {kf : Fin 4} {i : Nat} {v : Nat} (X : Cx p s m args c cc D nL own) (hd : decode cc pc = .ok (.aload_n kf, 1)) (hi : (kf : Nat) = i) (j : Nat) (hl : L[j]? = some (i, .ref v)) (kk : Gn p l e R s m args below meth c D T n base nL kc ks Q M (pc + 1) L (.ref v :: st)) : Gn p l e R s m args below meth c D T n base nL kc ks Q M pc L st := by
  intro H locs ls hW hz hS hL
  obtain ⟨hx, hb, hml, hown, hts, hK, hN⟩ := X
  exact lv_aload_n hx hb hd hi (lv_at hL j hl) (kk H locs ls hW hz hS hL)
theorem gn_aload {i : Nat} {v : Nat} (X : Cx p s m args c cc D nL own) (hd : decode cc pc = .ok (.aload i, 2)) (j : Nat) (hl : L[j]? = some (i, .ref v)) (kk : Gn p l e R s m args below meth c D T n base nL kc ks Q M (pc + 2) L (.ref v :: st)) : Gn p l e R s m args below meth c D T n base nL kc ks Q M pc L st := by
  intro H locs ls hW hz hS hL
  obtain ⟨hx, hb, hml, hown, hts, hK, hN⟩ := X
  exact lv_aload hx hb hd (lv_at hL j hl) (kk H locs ls hW hz hS hL)
theorem gn_istore_n {kf : Fin 4} {i : Nat} {v : Int32} {L' : List (Nat × Value)} (X : Cx p s m args c cc D nL own) (hd : decode cc pc = .ok (.istore_n kf, 1)) (hi : (kf : Nat) = i) (hn : i < nL) (hl : (i, Value.int v) :: L.filter (fun q => !(q.1 == i) && !(q.1 + 1 == i && q.2.category == 2)) = L') (kk : Gn p l e R s m args below meth c D T n base nL kc ks Q M (pc + 1) L' st) : Gn p l e R s m args below meth c D T n base nL kc ks Q M pc L (.int v :: st) := by
  intro H locs ls hW hz hS hL
  obtain ⟨hx, hb, hml, hown, hts, hK, hN⟩ := X
  exact lv_istore_n hx hb hd hi hL hn hl (fun ls hl => kk H locs ls hW hz hS hl)
theorem gn_istore {i : Nat} {v : Int32} {L' : List (Nat × Value)} (X : Cx p s m args c cc D nL own) (hd : decode cc pc = .ok (.istore i, 2)) (hn : i < nL) (hl : (i, Value.int v) :: L.filter (fun q => !(q.1 == i) && !(q.1 + 1 == i && q.2.category == 2)) = L') (kk : Gn p l e R s m args below meth c D T n base nL kc ks Q M (pc + 2) L' st) : Gn p l e R s m args below meth c D T n base nL kc ks Q M pc L (.int v :: st) := by
  intro H locs ls hW hz hS hL
  obtain ⟨hx, hb, hml, hown, hts, hK, hN⟩ := X
  exact lv_istore hx hb hd hL hn hl (fun ls hl => kk H locs ls hW hz hS hl)
theorem gn_astore_n {kf : Fin 4} {i : Nat} {v : Nat} {L' : List (Nat × Value)} (X : Cx p s m args c cc D nL own) (hd : decode cc pc = .ok (.astore_n kf, 1)) (hi : (kf : Nat) = i) (hn : i < nL) (hl : (i, Value.ref v) :: L.filter (fun q => !(q.1 == i) && !(q.1 + 1 == i && q.2.category == 2)) = L') (kk : Gn p l e R s m args below meth c D T n base nL kc ks Q M (pc + 1) L' st) : Gn p l e R s m args below meth c D T n base nL kc ks Q M pc L (.ref v :: st) := by
  intro H locs ls hW hz hS hL
  obtain ⟨hx, hb, hml, hown, hts, hK, hN⟩ := X
  exact lv_astore_n hx hb hd hi hL hn hl (fun ls hl => kk H locs ls hW hz hS hl)
theorem gn_astore {i : Nat} {v : Nat} {L' : List (Nat × Value)} (X : Cx p s m args c cc D nL own) (hd : decode cc pc = .ok (.astore i, 2)) (hn : i < nL) (hl : (i, Value.ref v) :: L.filter (fun q => !(q.1 == i) && !(q.1 + 1 == i && q.2.category == 2)) = L') (kk : Gn p l e R s m args below meth c D T n base nL kc ks Q M (pc + 2) L' st) : Gn p l e R s m args below meth c D T n base nL kc ks Q M pc L (.ref v :: st) := by
  intro H locs ls hW hz hS hL
  obtain ⟨hx, hb, hml, hown, hts, hK, hN⟩ := X
  exact lv_astore hx hb hd hL hn hl (fun ls hl => kk H locs ls hW hz hS hl)
theorem gn_sub {L' : List (Nat × Value)} (pk : List Nat) (hl : lv_pick L pk = L') (kk : Gn p l e R s m args below meth c D T n base nL kc ks Q M pc L' st) : Gn p l e R s m args below meth c D T n base nL kc ks Q M pc L st := fun H locs ls hW hz hS hL => kk H locs ls hW hz hS (lv_sub hL pk hl)
theorem gn_widen (kc' ks' : Nat) (h1 : kc ≤ kc') (h2 : ks ≤ ks') (kk : Gn p l e R s m args below meth c D T n base nL kc' ks' Q M pc L st) : Gn p l e R s m args below meth c D T n base nL kc ks Q M pc L st := fun H locs ls hW hz hS hL => W.widen h1 h2 (kk H locs ls hW hz hS hL)
theorem gn_iconst {q v : Int} (X : Cx p s m args c cc D nL own) (hd : decode cc pc = .ok (.iconst q, 1)) (hv : Int32.ofInt q = Ii v) (kk : Gn p l e R s m args below meth c D T n base nL kc ks Q M (pc + 1) L (.int (Ii v) :: st)) : Gn p l e R s m args below meth c D T n base nL kc ks Q M pc L st := by
  intro H locs ls hW hz hS hL
  obtain ⟨hx, hb, hml, hown, hts, hK, hN⟩ := X
  exact lv_iconst hx hb hd hv (kk H locs ls hW hz hS hL)
theorem gn_bipush {q v : Int} (X : Cx p s m args c cc D nL own) (hd : decode cc pc = .ok (.bipush q, 2)) (hv : (Int8.ofInt q).toInt32 = Ii v) (kk : Gn p l e R s m args below meth c D T n base nL kc ks Q M (pc + 2) L (.int (Ii v) :: st)) : Gn p l e R s m args below meth c D T n base nL kc ks Q M pc L st := by
  intro H locs ls hW hz hS hL
  obtain ⟨hx, hb, hml, hown, hts, hK, hN⟩ := X
  exact lv_bipush hx hb hd hv (kk H locs ls hW hz hS hL)
theorem gn_sipush {q v : Int} (X : Cx p s m args c cc D nL own) (hd : decode cc pc = .ok (.sipush q, 3)) (hv : (Int16.ofInt q).toInt32 = Ii v) (kk : Gn p l e R s m args below meth c D T n base nL kc ks Q M (pc + 3) L (.int (Ii v) :: st)) : Gn p l e R s m args below meth c D T n base nL kc ks Q M pc L st := by
  intro H locs ls hW hz hS hL
  obtain ⟨hx, hb, hml, hown, hts, hK, hN⟩ := X
  exact lv_sipush hx hb hd hv (kk H locs ls hW hz hS hL)
theorem gn_dup {v : Value} (X : Cx p s m args c cc D nL own) (hd : decode cc pc = .ok (.dup, 1)) (hv : v.category = 1) (kk : Gn p l e R s m args below meth c D T n base nL kc ks Q M (pc + 1) L (v :: v :: st)) : Gn p l e R s m args below meth c D T n base nL kc ks Q M pc L (v :: st) := by
  intro H locs ls hW hz hS hL
  obtain ⟨hx, hb, hml, hown, hts, hK, hN⟩ := X
  exact lv_dup hx hb hd hv (kk H locs ls hW hz hS hL)
theorem gn_goto {off : Int} {tgt : Nat} (X : Cx p s m args c cc D nL own) (hd : decode cc pc = .ok (.goto off, 3)) (ht : (pc : Int) + off = (tgt : Int)) (kk : Gn p l e R s m args below meth c D T n base nL kc ks Q M tgt L st) : Gn p l e R s m args below meth c D T n base nL kc ks Q M pc L st := by
  intro H locs ls hW hz hS hL
  obtain ⟨hx, hb, hml, hown, hts, hK, hN⟩ := X
  exact lv_goto hx hb hd ht (kk H locs ls hW hz hS hL)
theorem gn_icmp_ge {a b off : Int} {tgt : Nat} (X : Cx p s m args c cc D nL own) (hd : decode cc pc = .ok (.if_icmp .ge off, 3)) (ht : (pc : Int) + off = (tgt : Int)) (ha : i32 a) (hb2 : i32 b) (k1 : b ≤ a → Gn p l e R s m args below meth c D T n base nL kc ks Q M tgt L st) (k2 : ¬ b ≤ a → Gn p l e R s m args below meth c D T n base nL kc ks Q M (pc + 3) L st) : Gn p l e R s m args below meth c D T n base nL kc ks Q M pc L (.int (Ii b) :: .int (Ii a) :: st) := by
  intro H locs ls hW hz hS hL
  obtain ⟨hx, hb, hml, hown, hts, hK, hN⟩ := X
  exact lv_icmp_ge hx hb hd ht (fun z => k1 ((Ii_le hb2 ha).mp z) H locs ls hW hz hS hL) (fun z => k2 ((not_congr (Ii_le hb2 ha)).mp z) H locs ls hW hz hS hL)
theorem gn_iinc {a q : Int} {i j : Nat} {L' : Int → List (Nat × Value)} (X : Cx p s m args c cc D nL own) (hd : decode cc pc = .ok (.iinc i q, 3)) (ha : i32 a) (hq : i32 q) (hj : L[j]? = some (i, .int (Ii a))) (hn : i < nL) (hl : ∀ v : Int, (i, Value.int (Ii v)) :: L.filter (fun q => !(q.1 == i) && !(q.1 + 1 == i && q.2.category == 2)) = L' v) (kk : Gn p l e R s m args below meth c D T n base nL kc ks Q M (pc + 3) (L' (wr (a + q))) st) : Gn p l e R s m args below meth c D T n base nL kc ks Q M pc L st := by
  intro H locs ls hW hz hS hL
  obtain ⟨hx, hb, hml, hown, hts, hK, hN⟩ := X
  exact lv_iinc hx hb hd hL hj (show Ii a + Ii q = _ from Ii_add ha hq) hn (hl _) (fun ls hl => kk H locs ls hW hz hS hl)
theorem gn_getq {C ref : String} {Tb : u_T} {N ci index : Nat} {ty0 : Nat → FieldType} {sl : List (Nat × Nat)} {h i j9 : Nat} {v : Nat} (X : Cx p s m args c cc D nL own) (F : Fc ci C Tb N ty0) (hd : decode cc pc = .ok (.getfield index, 3)) (hk : h < n) (hT : T h = (0, ci, sl)) (hi : i < N) (hq : sl[i]? = some (3, j9)) (hl : Cond.fieldLink own index ref (Tb i).2.1 (Tb i).2.2.1 ∈ LW) (hr1 : (Tb i).1 = ref) (hv : M h i = ((v : Nat) : Int)) (kk : Gn p l e R s m args below meth c D T n base nL kc ks Q M (pc + 3) L (.ref (base + v) :: st)) : Gn p l e R s m args below meth c D T n base nL kc ks Q M pc L (.ref (base + h) :: st) := by
  intro H locs ls hW hz hS hL
  obtain ⟨hx, hb, hml, hown, hts, hK, hN⟩ := X
  obtain ⟨f1, f2, f3, f4⟩ := F
  have he := Ws_get D T base M hk
  rw [show ent D base (T h) (M h) = .inr (ci, sts base sl (M h)) by rw [hT]; rfl] at he
  refine va_get (v := .ref (base + v)) hx hb hts f2 hown hK hW.1 h he f1 i hi (hts _ hl) (fun _ h9 => by rw [← hr1]; exact h9) ?_ hd (kk H locs ls hW hz hS hL)
  rw [sts_get base (M h) hq]
  show some (rv base (M h i)) = _
  rw [hv, rv_nat]
theorem gn_alen {h len tag : Nat} {sl : List (Nat × Nat)} (X : Cx p s m args c cc D nL own) (hd : decode cc pc = .ok (.arraylength, 1)) (hk : h < n) (hT : T h = (tag, len, sl)) (htag : tag = 4 ∨ tag = 6) (kk : Gn p l e R s m args below meth c D T n base nL kc ks Q M (pc + 1) L (.int (Ii (len : Int)) :: st)) : Gn p l e R s m args below meth c D T n base nL kc ks Q M pc L (.ref (base + h) :: st) := by
  intro H locs ls hW hz hS hL
  obtain ⟨hx, hb, hml, hown, hts, hK, hN⟩ := X
  have he := Ws_get D T base M hk
  rw [hT] at he
  rcases htag with rfl | rfl
  · exact va_alen hx hb hK hW.1 h 3 he rfl rfl hd (kk H locs ls hW hz hS hL)
  · exact va_alen hx hb hK hW.1 h 4 he rfl rfl hd (kk H locs ls hW hz hS hL)
theorem Ws_succ (D : Dd) (T : Nat → Ck) (n base : Nat) (M : Mm) : Ws D T (n + 1) base M = Ws D T n base M ++ [(base + n, ent D base (T n) (M n))] := by
  unfold Ws
  rw [List.range_succ, List.map_append]
  rfl
theorem Wd_grow {H H1 : Heap} (hW : Wd D T n base M H) (ho : ∀ q, q < base + n → H1[q]? = H[q]?) (hz : H.size = base + n) (ha : va_at D.1 vwCl (base + n, ent D base (T n) (M n)) H1) (hok : ∀ i, okC (T n) i (M n i)) : Wd D T (n + 1) base M H1 := by
  refine ⟨?_, fun k hk i => ?_⟩
  · rw [Ws_succ]
    refine (hW.1.kept (fun k q hq => ho q.1 ?_)).app (fun k q hq => ?_)
    · rw [← hz]
      exact (hW.1 k q hq).lt
    · have hk : k < 1 := (List.getElem?_eq_some_iff.mp hq).1
      rw [show k = 0 by omega] at hq
      cases hq
      exact ha
  · by_cases h : k < n
    · exact hW.2 k h i
    · rw [show k = n by omega]
      exact hok i
theorem gn_new {C : String} {Tb : u_T} {N ci index : Nat} {ty0 : Nat → FieldType} {sl : List (Nat × Nat)} (X : Cx p s m args c cc D nL own) (F : Fc ci C Tb N ty0) (hd : decode cc pc = .ok (.new index, 3)) (hcl : Cond.classLink own index C ∈ LW) (hin : Cond.instantiable C N ∈ LW) (hini : Cond.initialized C ∈ LW) (hT : T n = (0, ci, sl)) (hN9 : sl.length = N) (hM : ∀ i, M n i = mi (T n) i) (hdf : ∀ j, j < N → kdOk (ty0 j) (sl.getD j (0, 0)) = true) (hR : kc + 1 ≤ R.cells ∧ ks + N ≤ R.slots) (kk : Gn p l e R s m args below meth c D T (n + 1) base nL (kc + 1) (ks + N) Q M (pc + 3) L (.ref (base + n) :: st)) : Gn p l e R s m args below meth c D T n base nL kc ks Q M pc L st := by
  intro H locs ls hW hz hS hL
  obtain ⟨hx, hb, hml, hown, hts, hK, hN⟩ := X
  obtain ⟨f1, f2, f3, f4⟩ := F
  have hKn := hK.1 ci _ f1
  refine W.newcK hx hb hown (hts _ hcl) (hts _ hin) (hts _ hini) rfl hd hR.1 hR.2 hKn.2.1 hz fun H1 kC hkC e1 z1 o1 => ?_
  refine kk H1 locs ls (Wd_grow hW o1 hz ?_ (fun i => ?_)) (by rw [z1]; rfl) ⟨?_, fun q h1 h2 => ?_, hS.2.2⟩ hL
  · rw [hT]
    refine ⟨_, f1, (u_born ty0 hts f2 hKn hkC e1 f3).to (fun j hj => ?_)⟩
    have hj9 : j < sl.length := by rw [hN9]; exact hj
    show defaultValue (ty0 j) = vp_V (sts base sl (M n)) j
    unfold vp_V
    rw [List.getD_eq_getElem?_getD, sts_get base (M n) (q := sl.getD j (0, 0)) (by rw [List.getD_eq_getElem?_getD, List.getElem?_eq_getElem hj9]; rfl), hM, hT]
    exact kdOk_def base (hdf j hj)
  · rw [hT, hM, hT]
    show okS (sl.getD i (0, 0)) (miS (sl.getD i (0, 0)))
    by_cases hi : i < N
    · have h9 := hdf i hi
      generalize sl.getD i (0, 0) = q at h9 ⊢
      obtain ⟨a, b⟩ := q
      generalize ty0 i = t at h9
      cases t <;> simp [kdOk] at h9 <;> subst h9 <;> first | (show i32 0; decide) | (show bo 0; decide) | (show i64 0; decide) | trivial
    · rw [List.getD_eq_getElem?_getD, List.getElem?_eq_none (by omega)]
      show i32 0
      decide
  · have := hS.1; omega
  · rw [o1 q (by have := hS.1; omega)]
    exact hS.2.1 q h1 h2
theorem gn_newarr_int {len : Nat} {z : Int} (X : Cx p s m args c cc D nL own) (hd : decode cc pc = .ok (.newarray .int, 2)) (ha : Cond.arrayClass .int ∈ LW) (hT : T n = (1, len, [])) (hM : ∀ i, M n i = mi (T n) i) (hz9 : z = (len : Int)) (hlen : len < 100000) (hR : kc + 1 ≤ R.cells ∧ ks + len ≤ R.slots) (kk : Gn p l e R s m args below meth c D T (n + 1) base nL (kc + 1) (ks + len) Q M (pc + 2) L (.ref (base + n) :: st)) : Gn p l e R s m args below meth c D T n base nL kc ks Q M pc L (.int (Ii z) :: st) := by
  intro H locs ls hW hz hS hL
  obtain ⟨hx, hb, hml, hown, hts, hK, hN⟩ := X
  subst hz9
  have hi : i32 (len : Int) := by unfold i32; omega
  have hnat : (Ii (len : Int)).toNatClampNeg = len := by rw [Ii_nat hi]; simp
  refine va_newaK (atype := .int) hx hb (hts _ ha) rfl hd rfl (fun q => ?_) hnat (by show len * _ ≤ 536870912; first | (show len * 4 ≤ 536870912; omega) | (show len * 1 ≤ 536870912; omega) | (show len * 8 ≤ 536870912; omega)) hR.1 hR.2 hz fun H1 cA e1 z1 o1 hAr hNm => ?_
  · rw [show (0 : Int32) = Ii 0 from rfl, Ii_lt hi (by decide)] at q
    omega
  have hcA : cA = D.2 0 := by
    have h9 := (hK.2 0 _ rfl).2
    exact Option.some.inj (hNm.symm.trans h9)
  subst hcA
  refine kk H1 locs ls (Wd_grow hW o1 hz ?_ (fun i => ?_)) (by rw [z1]; rfl) ⟨?_, fun q h1 h2 => ?_, hS.2.2⟩ hL
  · rw [hT]
    show H1[base + n]? = some (vp_cell _ _)
    rw [e1]
    have hf : M n = fun _ => 0 := by funext i; rw [hM, hT]; rfl
    rw [hf]
    rfl
  · rw [hM, hT]
    show i32 0
    decide
  · have := hS.1; omega
  · rw [o1 q (by have := hS.1; omega)]
    exact hS.2.1 q h1 h2
theorem gn_newarr_boolean {len : Nat} {z : Int} (X : Cx p s m args c cc D nL own) (hd : decode cc pc = .ok (.newarray .boolean, 2)) (ha : Cond.arrayClass .boolean ∈ LW) (hT : T n = (2, len, [])) (hM : ∀ i, M n i = mi (T n) i) (hz9 : z = (len : Int)) (hlen : len < 100000) (hR : kc + 1 ≤ R.cells ∧ ks + len ≤ R.slots) (kk : Gn p l e R s m args below meth c D T (n + 1) base nL (kc + 1) (ks + len) Q M (pc + 2) L (.ref (base + n) :: st)) : Gn p l e R s m args below meth c D T n base nL kc ks Q M pc L (.int (Ii z) :: st) := by
  intro H locs ls hW hz hS hL
  obtain ⟨hx, hb, hml, hown, hts, hK, hN⟩ := X
  subst hz9
  have hi : i32 (len : Int) := by unfold i32; omega
  have hnat : (Ii (len : Int)).toNatClampNeg = len := by rw [Ii_nat hi]; simp
  refine va_newaK (atype := .boolean) hx hb (hts _ ha) rfl hd rfl (fun q => ?_) hnat (by show len * _ ≤ 536870912; first | (show len * 4 ≤ 536870912; omega) | (show len * 1 ≤ 536870912; omega) | (show len * 8 ≤ 536870912; omega)) hR.1 hR.2 hz fun H1 cA e1 z1 o1 hAr hNm => ?_
  · rw [show (0 : Int32) = Ii 0 from rfl, Ii_lt hi (by decide)] at q
    omega
  have hcA : cA = D.2 1 := by
    have h9 := (hK.2 1 _ rfl).2
    exact Option.some.inj (hNm.symm.trans h9)
  subst hcA
  refine kk H1 locs ls (Wd_grow hW o1 hz ?_ (fun i => ?_)) (by rw [z1]; rfl) ⟨?_, fun q h1 h2 => ?_, hS.2.2⟩ hL
  · rw [hT]
    show H1[base + n]? = some (vp_cell _ _)
    rw [e1]
    have hf : M n = fun _ => 0 := by funext i; rw [hM, hT]; rfl
    rw [hf]
    rfl
  · rw [hM, hT]
    show bo 0
    decide
  · have := hS.1; omega
  · rw [o1 q (by have := hS.1; omega)]
    exact hS.2.1 q h1 h2
theorem gn_newqE {len index : Nat} {z : Int} (X : Cx p s m args c cc D nL own) (hd : decode cc pc = .ok (.anewarray index, 3)) (hcl : Cond.classLink own index RX0 ∈ LW) (hao : va_AO RX0 s) (hT : T n = (4, len, [])) (hM : ∀ i, M n i = mi (T n) i) (hz9 : z = (len : Int)) (hlen : len < 100000) (hR : kc + 1 ≤ R.cells ∧ ks + len ≤ R.slots) (kk : Gn p l e R s m args below meth c D T (n + 1) base nL (kc + 1) (ks + len) Q M (pc + 3) L (.ref (base + n) :: st)) : Gn p l e R s m args below meth c D T n base nL kc ks Q M pc L (.int (Ii z) :: st) := by
  intro H locs ls hW hz hS hL
  obtain ⟨hx, hb, hml, hown, hts, hK, hN⟩ := X
  subst hz9
  have hi : i32 (len : Int) := by unfold i32; omega
  have hnat : (Ii (len : Int)).toNatClampNeg = len := by rw [Ii_nat hi]; simp
  refine W.anew hx hb hown (hts _ hcl) (va_AO.use hao) rfl hd rfl (fun q => ?_) (by rw [hnat]; omega) hR.1 (by rw [hnat]; exact hR.2) fun cA kA comp f1 f2 f3 f4 => ?_
  · rw [show (0 : Int32) = Ii 0 from rfl, Ii_lt hi (by decide)] at q
    omega
  have hcA : cA = D.2 3 := by
    obtain ⟨kA9, comp9, g1, g2, g3, g4⟩ := (hK.2 3 _ rfl).2
    exact Option.some.inj (f1.symm.trans g4)
  subst hcA
  rw [hnat, hz]
  refine kk _ locs ls (Wd_grow hW (fun q hq => ?_) hz ?_ (fun i => ?_)) (by simp [hz]; omega) ⟨?_, fun q h1 h2 => ?_, hS.2.2⟩ hL
  · rw [Array.getElem?_push, if_neg (by omega)]
  · rw [hT]
    show (Array.push _ _)[base + n]? = some (vp_cell _ _)
    rw [← hz, Array.getElem?_push, if_pos rfl]
    have hf : M n = fun _ => -1 := by funext i; rw [hM, hT]; rfl
    rw [hf, arrV_new]
    rfl
  · rw [hM, hT]
    trivial
  · have := hS.1; simp; omega
  · rw [Array.getElem?_push, if_neg (by have := hS.1; omega)]
    exact hS.2.1 q h1 h2
theorem gn_newqF {len index : Nat} {z : Int} (X : Cx p s m args c cc D nL own) (hd : decode cc pc = .ok (.anewarray index, 3)) (hcl : Cond.classLink own index RX4 ∈ LW) (hao : va_AO RX4 s) (hT : T n = (6, len, [])) (hM : ∀ i, M n i = mi (T n) i) (hz9 : z = (len : Int)) (hlen : len < 100000) (hR : kc + 1 ≤ R.cells ∧ ks + len ≤ R.slots) (kk : Gn p l e R s m args below meth c D T (n + 1) base nL (kc + 1) (ks + len) Q M (pc + 3) L (.ref (base + n) :: st)) : Gn p l e R s m args below meth c D T n base nL kc ks Q M pc L (.int (Ii z) :: st) := by
  intro H locs ls hW hz hS hL
  obtain ⟨hx, hb, hml, hown, hts, hK, hN⟩ := X
  subst hz9
  have hi : i32 (len : Int) := by unfold i32; omega
  have hnat : (Ii (len : Int)).toNatClampNeg = len := by rw [Ii_nat hi]; simp
  refine W.anew hx hb hown (hts _ hcl) (va_AO.use hao) rfl hd rfl (fun q => ?_) (by rw [hnat]; omega) hR.1 (by rw [hnat]; exact hR.2) fun cA kA comp f1 f2 f3 f4 => ?_
  · rw [show (0 : Int32) = Ii 0 from rfl, Ii_lt hi (by decide)] at q
    omega
  have hcA : cA = D.2 4 := by
    obtain ⟨kA9, comp9, g1, g2, g3, g4⟩ := (hK.2 4 _ rfl).2
    exact Option.some.inj (f1.symm.trans g4)
  subst hcA
  rw [hnat, hz]
  refine kk _ locs ls (Wd_grow hW (fun q hq => ?_) hz ?_ (fun i => ?_)) (by simp [hz]; omega) ⟨?_, fun q h1 h2 => ?_, hS.2.2⟩ hL
  · rw [Array.getElem?_push, if_neg (by omega)]
  · rw [hT]
    show (Array.push _ _)[base + n]? = some (vp_cell _ _)
    rw [← hz, Array.getElem?_push, if_pos rfl]
    have hf : M n = fun _ => -1 := by funext i; rw [hM, hT]; rfl
    rw [hf, arrV_new]
    rfl
  · rw [hM, hT]
    trivial
  · have := hS.1; simp; omega
  · rw [Array.getElem?_push, if_neg (by have := hS.1; omega)]
    exact hS.2.1 q h1 h2
end CT
section CT2
variable {p : Program} {l : Launch} {e : Env} {R : Room} {s : State} {m : MethodId} {args : Array Value} {below : List Frame} {meth : Method} {c : Code} {cc : ByteArray} {D : Dd} {T : Nat → Ck} {n base nL kc ks : Nat} {own : String} {Q : State → Prop} {M : Mm} {pc : Nat} {L : List (Nat × Value)} {st : List Value}
theorem Ws_DB (D : Dd) (T : Nat → Ck) (n base : Nat) (M : Mm) : va_D (FB base) (Ws D T n base M) := by
  have h := Ws_D D T n base (base + n) M
  refine ⟨h.1, fun k q hk => ?_⟩
  rcases h.2 k q hk with z | z
  · exact z.1
  · exact Nat.le_trans (Nat.le_add_right _ _) z
theorem gn_putF {C ref E : String} {Tb : u_T} {N ci index : Nat} {ty0 : Nat → FieldType} {sl : List (Nat × Nat)} {h i j9 v : Nat} {t9 : FieldType} (X : Cx p s m args c cc D nL own) (hin2 : meth.name = "<init>") (F : Fc ci C Tb N ty0) (hd : decode cc pc = .ok (.putfield index, 3)) (hk : h < n) (hT : T h = (0, ci, sl)) (hi : i < N) (hq : sl[i]? = some (3, j9)) (hl : Cond.fieldLink own index ref (Tb i).2.1 (Tb i).2.2.1 ∈ LW) (hr1 : (Tb i).1 = ref) (hfin : (Tb i).2.2.2 = true) (hdecl : (Tb i).1 = own) (hty : ty0 i = .object E ∨ ty0 i = .array t9)
    (kk : Gn p l e R s m args below meth c D T n base nL kc ks Q (up M h i ((v : Nat) : Int)) (pc + 3) L st) : Gn p l e R s m args below meth c D T n base nL kc ks Q M pc L (.ref (base + v) :: .ref (base + h) :: st) := by
  intro H locs ls hW hz hS hL
  obtain ⟨hx, hb, hml, hown, hts, hK, hN⟩ := X
  obtain ⟨f1, f2, f3, f4⟩ := F
  have he := Ws_get D T base M hk
  rw [show ent D base (T h) (M h) = .inr (ci, sts base sl (M h)) by rw [hT]; rfl] at he
  have hap := va_apart (own := own) hts f2 ty0 f3 f4 hK f1
  obtain ⟨r, h1, cell, q1, q2, q3, q4⟩ := hW.1 h _ he
  have hr : r = (C, Tb, N) := Option.some.inj (h1.symm.trans f1)
  subst hr
  obtain ⟨hS9, hfc, kC, hkC, hkind⟩ := hK.1 ci _ f1
  obtain ⟨cf, kf, fi, f, hi9, hsl⟩ := hS9 i hi
  have hlay := hts _ (f2 _ (u_in_lay hi))
  unfold u_lay at hlay
  rw [if_pos hfin] at hlay
  have hst := (u_facts hfc hkC (u_lays hts f2 hi) hi9).1
  have hcf : m.cls = cf := by
    obtain ⟨_, _, c', _, _, _, -, -, hf', -, -, -, hown2, -⟩ := Cond.laysFinal_spec hlay
    have e1 : c' = cf := by have := hi9.symm.trans hf'; simp at this; exact this.1.symm
    rw [hdecl] at hown2
    rw [← e1]; exact Option.some.inj (hown.symm.trans hown2)
  have hsv : sv base (3, j9) ((v : Nat) : Int) = .ref (base + v) := rv_nat base v
  have h6 := u_fits hfc hkC hkind (Or.inr hlay) hi9 (f3 i hi) (v := .ref (base + v)) (by rcases hty with h | h <;> rw [h] <;> rfl) (by rcases hty with h | h <;> rw [h] <;> rfl)
  refine W.putFinK hx hb hown (hts _ hl) (by rw [← hr1]; exact hi9) hst hcf hin2 (by rw [q2]; exact h6) q1 q3 (by rw [hsl]; exact k2_hasslot (q4 i hi)) rfl rfl hd fun H' e1 e2 e3 => ?_
  rw [hsl] at e1
  have hlen : i < (sts base sl (M h)).length := by rw [sts_len]; exact (List.getElem?_eq_some_iff.mp hq).1
  have hP := hW.1.set (Ws_DB D T n base M) he (e := .inr (ci, (sts base sl (M h)).set i (.ref (base + v)))) ⟨_, f1, t_OB.to (V := updV (vp_V (sts base sl (M h))) i (.ref (base + v))) ⟨_, e1, q2, q3, t_set q4 hap hi (.ref (base + v))⟩ (fun j _ => vp_updV_set hlen _ j)⟩ e3
  rw [← hsv, sts_set base (M h) hq _, Ws_set D T base M (up M h i ((v : Nat) : Int)) hk _ (by rw [hT, up_row]; rfl) (fun j hj => up_ne M i _ hj)] at hP
  exact kk H' _ ls ⟨hP, okC_up hW.2 (by rw [hT]; show okS (sl.getD i (0, 0)) _; rw [List.getD_eq_getElem?_getD, hq]; trivial)⟩ (by rw [e2]; exact hz) (hS.put e2 e3 (Nat.le_add_right _ _)) hL
theorem gn_puti {C ref : String} {Tb : u_T} {N ci index : Nat} {ty0 : Nat → FieldType} {sl : List (Nat × Nat)} {h i j9 : Nat} {v : Int} (X : Cx p s m args c cc D nL own) (F : Fc ci C Tb N ty0) (hd : decode cc pc = .ok (.putfield index, 3)) (hk : h < n) (hT : T h = (0, ci, sl)) (hi : i < N) (hq : sl[i]? = some (0, j9)) (hl : Cond.fieldLink own index ref (Tb i).2.1 (Tb i).2.2.1 ∈ LW) (hr1 : (Tb i).1 = ref) (hfin : (Tb i).2.2.2 = false) (hty : ty0 i = .int) (hv : i32 v)
    (kk : Gn p l e R s m args below meth c D T n base nL kc ks Q (up M h i v) (pc + 3) L st) : Gn p l e R s m args below meth c D T n base nL kc ks Q M pc L (.int (Ii v) :: .ref (base + h) :: st) := by
  intro H locs ls hW hz hS hL
  obtain ⟨hx, hb, hml, hown, hts, hK, hN⟩ := X
  obtain ⟨f1, f2, f3, f4⟩ := F
  have he := Ws_get D T base M hk
  rw [show ent D base (T h) (M h) = .inr (ci, sts base sl (M h)) by rw [hT]; rfl] at he
  have hap := va_apart (own := own) hts f2 ty0 f3 f4 hK f1
  obtain ⟨r, h1, cell, q1, q2, q3, q4⟩ := hW.1 h _ he
  have hr : r = (C, Tb, N) := Option.some.inj (h1.symm.trans f1)
  subst hr
  obtain ⟨hS9, hfc, kC, hkC, hkind⟩ := hK.1 ci _ f1
  obtain ⟨cf, kf, fi, f, hi9, hsl⟩ := hS9 i hi
  have hlay := hts _ (f2 _ (u_in_lay hi))
  unfold u_lay at hlay
  rw [if_neg (by rw [hfin]; decide)] at hlay
  have hst := (u_facts hfc hkC (u_lays hts f2 hi) hi9).1
  have h6 := u_store hfc hkC hkind hlay hi9 (f3 i hi) (v := .int (Ii v)) (by rw [hty]; rfl) (by rw [hty]; rfl)
  refine W.putK hx hb (f := f) ⟨hown, hts _ hl, ⟨_, _, _, by rw [← hr1]; exact hi9⟩, hst⟩ (by rw [q2]; exact h6) q1 q3 (by rw [hsl]; exact k2_hasslot (q4 i hi)) rfl rfl hd fun H' e1 e2 e3 => ?_
  rw [hsl] at e1
  have hlen : i < (sts base sl (M h)).length := by rw [sts_len]; exact (List.getElem?_eq_some_iff.mp hq).1
  have hP := hW.1.set (Ws_DB D T n base M) he (e := .inr (ci, (sts base sl (M h)).set i (.int (Ii v)))) ⟨_, f1, t_OB.to (V := updV (vp_V (sts base sl (M h))) i (.int (Ii v))) ⟨_, e1, q2, q3, t_set q4 hap hi (.int (Ii v))⟩ (fun j _ => vp_updV_set hlen _ j)⟩ e3
  rw [show Value.int (Ii v) = sv base (0, j9) v from rfl, sts_set base (M h) hq _, Ws_set D T base M (up M h i v) hk _ (by rw [hT, up_row]; rfl) (fun j hj => up_ne M i _ hj)] at hP
  exact kk H' _ ls ⟨hP, okC_up hW.2 (by rw [hT]; show okS (sl.getD i (0, 0)) _; rw [List.getD_eq_getElem?_getD, hq]; exact hv)⟩ (by rw [e2]; exact hz) (hS.put e2 e3 (Nat.le_add_right _ _)) hL
theorem gn_iastore {h len : Nat} {sl : List (Nat × Nat)} {j v : Int} (X : Cx p s m args c cc D nL own) (hd : decode cc pc = .ok (.iastore, 1)) (hk : h < n) (hT : T h = (1, len, sl)) (hj : i32 j) (hv : i32 v) (hr : 0 ≤ j ∧ j < (len : Int))
    (kk : Gn p l e R s m args below meth c D T n base nL kc ks Q (up M h j.toNat v) (pc + 1) L st) : Gn p l e R s m args below meth c D T n base nL kc ks Q M pc L (.int (Ii v) :: .int (Ii j) :: .ref (base + h) :: st) := by
  intro H locs ls hW hz hS hL
  obtain ⟨hx, hb, hml, hown, hts, hK, hN⟩ := X
  have he := Ws_get D T base M hk
  rw [show ent D base (T h) (M h) = .inl (D.2 0, len, .inl fun i => Ii (M h i)) by rw [hT]; rfl] at he
  refine W.iast hx hb (hW.1 h _ he) ((hK.2 0 _ rfl).1 len (fun i => .int (Ii (M h i)))) (fun q => by cases q) (by show ¬ (_ ∨ (arrV _ _ _).slots.size ≤ _); rw [arrV_size]; exact vp_in_Ii hr hj) rfl rfl hd fun H1 e1 z1 o1 => ?_
  have hP := hW.1.set (Ws_DB D T n base M) he (e := .inl (D.2 0, len, .inl (upd (fun i => Ii (M h i)) (Ii j).toNatClampNeg (Ii v)))) (by
    show H1[base + h]? = some (vp_cell _ _)
    rw [e1]
    dsimp only
    rw [vp_cell_i, vp_cell_i, arrV_store]
    congr 2
    funext q
    by_cases hq : q = (Ii j).toNatClampNeg
    · subst hq
      simp [updV, upd]
    · simp [updV, upd, hq]) o1
  rw [Ii_nat hj, Ws_set D T base M (up M h j.toNat v) hk _ (by rw [hT, up_row]; exact congrArg (fun f => (Sum.inl (D.2 0, len, Sum.inl f) : va_E)) (by funext i; by_cases z9 : i = j.toNat <;> simp [upd, z9])) (fun i hi => up_ne M j.toNat v hi)] at hP
  exact kk H1 _ ls ⟨hP, okC_up hW.2 (by rw [hT]; exact hv)⟩ (by rw [z1]; exact hz) (hS.put z1 o1 (Nat.le_add_right _ _)) hL
theorem gn_aast {h len ix tag v ci : Nat} {sl slv : List (Nat × Nat)} {j : Int} {r : vw_C} (X : Cx p s m args c cc D nL own) (hd : decode cc pc = .ok (.aastore, 1)) (hk : h < n) (hT : T h = (tag, len, sl)) (htag : (tag = 4 ∧ ix = 3) ∨ (tag = 6 ∧ ix = 4)) (hty : (tys D)[ix]? = some (D.2 ix, .object r.1)) (hkv : v < n) (hTv : T v = (0, ci, slv)) (hc : vwCl[ci]? = some r) (hj : i32 j) (hr : 0 ≤ j ∧ j < (len : Int))
    (kk : Gn p l e R s m args below meth c D T n base nL kc ks Q (up M h j.toNat ((v : Nat) : Int)) (pc + 1) L st) : Gn p l e R s m args below meth c D T n base nL kc ks Q M pc L (.ref (base + v) :: .int (Ii j) :: .ref (base + h) :: st) := by
  intro H locs ls hW hz hS hL
  obtain ⟨hx, hb, hml, hown, hts, hK, hN⟩ := X
  have he := Ws_get D T base M hk
  have hev := Ws_get D T base M hkv
  rw [show ent D base (T v) (M v) = .inr (ci, sts base slv (M v)) by rw [hTv]; rfl] at hev
  have hent : ∀ f : Nat → Int, ent D base (T h) f = .inl (D.2 ix, len, .inr (.inr (.inr (.inr fun i => ro base (f i))))) := by
    intro f
    rw [hT]
    rcases htag with ⟨rfl, rfl⟩ | ⟨rfl, rfl⟩ <;> rfl
  rw [hent] at he
  have hin := vp_in_Ii hr hj
  have hlt : (Ii j).toNatClampNeg < len := Nat.not_le.mp fun q => hin (Or.inr q)
  have h0 : ¬ Ii j < 0 := fun q => hin (Or.inl q)
  obtain ⟨r', hr', cellV, g1, g2, g3, -⟩ := hW.1 v _ hev
  have hcls := (hK.1 ci r hc).2
  obtain ⟨kA, comp, k1, k2, k3, -⟩ := (hK.2 ix _ hty).2
  have hcomp : comp = D.1.1 ci := Option.some.inj (k3.symm.trans hcls.1)
  subst hcomp
  obtain ⟨kC, hkC, -⟩ := hcls.2
  refine W.aast hx hb (hW.1 h _ he) (fun q h => by cases h) (fun h => by cases h) k1 k2 rfl hkC ⟨h0, by show _ < (arrV _ _ _).slots.size; rw [arrV_size]; exact hlt⟩ g1 (fun q h => by rw [g3] at h; cases h) (by rw [g2]; exact hkC) (by rw [g2]; exact va_assign hcls) rfl rfl hd fun H1 e1 z1 o1 => ?_
  have hP := hW.1.set (Ws_DB D T n base M) he (e := .inl (D.2 ix, len, .inr (.inr (.inr (.inr (va_up (fun i => ro base (M h i)) (Ii j).toNatClampNeg (some (base + v)))))))) (by
    show H1[base + h]? = some (vp_cell _ _)
    rw [e1]
    dsimp only
    rw [vp_cell_q, vp_cell_q, arrV_store]
    congr 2
    funext q
    by_cases hq : q = (Ii j).toNatClampNeg
    · subst hq
      simp [updV, va_up, va_rf]
    · simp [updV, va_up, hq]) o1
  rw [Ii_nat hj, Ws_set D T base M (up M h j.toNat ((v : Nat) : Int)) hk _ (by
    rw [hent, up_row]
    exact congrArg (fun f => (Sum.inl (D.2 ix, len, Sum.inr (Sum.inr (Sum.inr (Sum.inr f)))) : va_E)) (by
      funext i
      by_cases z9 : i = j.toNat
      · simp [va_up, z9, ro]
      · simp [va_up, z9])) (fun i hi => up_ne M j.toNat _ hi)] at hP
  exact kk H1 _ ls ⟨hP, okC_up hW.2 (by rw [hT]; rcases htag with ⟨rfl, rfl⟩ | ⟨rfl, rfl⟩ <;> trivial)⟩ (by rw [z1]; exact hz) (hS.put z1 o1 (Nat.le_add_right _ _)) hL
theorem gn_objInit {h idx : Nat} (X : Cx p s m args c cc D nL own) (w1 : Cond.methodLink own idx Lib.objectInit ∈ LW) (w2 : Cond.instanceMethod Lib.objectInit ∈ LW) (w3 : Cond.code Lib.objectInit ⟨#[0xb1]⟩ 1 none ∈ LW) (hd : decode cc pc = .ok (.invokespecial idx, 3)) (hR : 1 ≤ R.frames ∧ (st.map fun v => v.category).sum + 12 ≤ R.locals)
    (kk : Gn p l e R s m args below meth c D T n base nL kc ks Q M (pc + 3) L st) : Gn p l e R s m args below meth c D T n base nL kc ks Q M pc L (.ref (base + h) :: st) := by
  intro H locs ls hW hz hS hL
  obtain ⟨hx, hb, hml, hown, hts, hK, hN⟩ := X
  refine W.objInit hx hb hown (hts _ w1) (hts _ w2) (hts _ w3) rfl (by rw [hml]; exact hL.1) rfl hd hR.1 (by show 2 * 0 + _ + 12 ≤ _; have := hR.2; omega) ?_
  exact kk H locs ls hW hz hS hL
def PcN (D : Dd) (T : Nat → Ck) (n base : Nat) (M : Mm) (av : List Value) : Array Value → State → Prop := va_Pc av (fun U => U.heap.size = base + n ∧ Wd D T n base M U.heap ∧ va_K D.1 vwCl (tys D) U ∧ Nw_ U ∧ va_AO RX0 U ∧ va_AO RX4 U)
theorem va_AO.bl {C : String} {U : State} (g : JFrame) (mk : MethodId) (a : Array Value) (h : va_AO C U) : va_AO C (U.calling g mk a) := va_AO.moved (u := U) (Vm.Alike.refl U.vm) h
theorem PcN_blind {av : List Value} : FrameBlind (PcN D T n base M av) := by
  intro a U g mk q
  obtain ⟨q0, q1, q2, q3, q4, q5, q6⟩ := q
  exact ⟨q0, q1, q2, va_K.moved (u := U) (U := U.calling g mk a) (Vm.Alike.refl U.vm) q3, fun z hz => va_Nw.same rfl (u := U) (U := U.calling g mk a) rfl (q4 z hz), q5.bl g mk a, q6.bl g mk a⟩
/-- a constructor's contract: from n cells holding M to n' cells holding M' -/
def OkN (l : Launch) (D : Dd) (T : Nat → Ck) (n base : Nat) (M : Mm) (n' : Nat) (M' : Mm) (y : MethodName) (cc : ByteArray) (mL fr lo mc ms : Nat) (av : List Value) : Prop :=
  Met l y (.code y cc mL none :: LW) (rmX fr lo mc ms) (PcN D T n base M av) (va_Qv (fun (_ : Unit) => True) (fun _ t => Wd D T n' base M' t.heap ∧ t.heap.size = base + n') (FB base)) mc ms (FB base)
def FinN (D : Dd) (T : Nat → Ck) (base : Nat) (n' : Nat) (M' : Mm) (mc ms : Nat) (below : List Frame) (args : Array Value) (s : State) : State → Prop := MQ below (va_Qv (fun (_ : Unit) => True) (fun _ t => Wd D T n' base M' t.heap ∧ t.heap.size = base + n') (FB base)) args s mc ms (FB base)
theorem gn_return {mc ms : Nat} (X : Cx p s m args c cc D nL own) (hrt : meth.sig.returnType = none) (hlk : meth.locks = false) (hd : decode cc pc = .ok (.return_, 1)) (h1 : kc ≤ mc) (h2 : ks ≤ ms) : Gn p l e R s m args below meth c D T n base nL kc ks (FinN D T base n M mc ms below args s) M pc L [] := by
  refine gn_widen mc ms h1 h2 ?_
  intro H locs ls hW hz hS hL
  obtain ⟨hx, hb, hml, hown, hts, hK, hN⟩ := X
  exact W.vret hx hb hrt (fun t ht hWm => ⟨⟨(), rfl, trivial, (show Wd D T n base M t.heap by rw [ht]; exact hW), by rw [ht]; exact hz⟩, hS.F ht⟩) hS.2.2 hd hlk
theorem metN {y : MethodName} {cy : ByteArray} {mL : Nat} {fr lo mc ms n' : Nat} {M' : Mm} {av : List Value} (hy : plainName y.cls = true) (L0 : List (Nat × Value)) (hL0 : lv_args 0 av = L0) (hle : (lg_sl av).length ≤ mL) (hnm : y.name = "<init>")
    (body : ∀ (p : Program) (e : Env) (s : State) (m : MethodId) (args : Array Value) (below : List Frame) (meth : Method) (c : Code), Cx p s m args c cy D mL y.cls → Kc args s → meth.name = "<init>" → meth.sig.returnType = none → meth.locks = false → Gn p l e (rmX fr lo mc ms) s m args below meth c D T n base mL 0 0 (FinN D T base n' M' mc ms below args s) M 0 L0 []) : OkN l D T n base M n' M' y cy mL fr lo mc ms av := by
  refine Met.ofW (cc := cy) (maxL := mL) (ret := none) hy rfl ?_
  intro p e s m args below meth c s₁ B hml hv
  obtain ⟨rfl, hz, hW, hK, hN, hA0, hA4⟩ := hv
  have hts := atoms_spec (ws := .code y cy mL none :: LW) B.pre
  have hl := lv_entry av (n := mL) hle
  rw [lg_entry_eq]
  rw [hL0] at hl
  exact body p e s m av.toArray below meth c ⟨B.exec, B.bytes, hml, findClass_of_methodNamed B.named, fun w hw => hts w (List.mem_cons_of_mem _ hw), hK, hN⟩ ⟨hA0, hA4⟩ ((name_of_methodNamed B.named B.method).1.trans hnm) B.returns B.notSynchronized s.heap [] _ hW hz va_S.rf hl
theorem FB_le {sz : Nat} : ∀ q, q < sz → FB base q → FB base q := fun _ _ h => h
/-- a constructor's call, its constructor reached through the nest -/
theorem gn_ctorN {host : String} {y : MethodName} {cy : ByteArray} {mL fr lo mc ms n' np index h : Nat} {M' : Mm} {As rest : List Value} (X : Cx p s m args c cc D nL own) (Z : Kc args s) (hM : OkN l D T n base M n' M' y cy mL fr lo mc ms (.ref (base + h) :: As)) (hd : decode cc pc = .ok (.invokespecial index, 3)) (w1 : (own, index, y, host) ∈ NL) (w2 : Cond.instanceMethod y ∈ LW) (w4 : Cond.initialized y.cls ∈ LW) (w5 : Cw R y cy mL none fr lo np) (hnm : y.name = "<init>")
    (hn : As.length = np) (hst : st = As.reverse ++ .ref (base + h) :: rest) (hrs : (rest.map fun v => v.category).sum ≤ 8) (hkc : kc + mc ≤ R.cells ∧ ks + ms ≤ R.slots)
    (kk : Gn p l e R s m args below meth c D T n' base nL (kc + mc) (ks + ms) Q M' (pc + 3) L rest) : Gn p l e R s m args below meth c D T n base nL kc ks Q M pc L st := by
  intro H locs ls hW hz hS hL
  obtain ⟨hx, hb, hml, hown, hts, hK, hN⟩ := X
  obtain ⟨hco, ⟨hy1, hy2, hy3⟩, hR⟩ := w5
  subst hst
  refine va_callv (A1 := FB base) (free := FB base) (va_runIN (host := host) (g := F0 m pc ls (As.reverse ++ .ref (base + h) :: rest)) (nL := nL) ⟨hx, hb, hml, hown, hts⟩ hM ⟨va_cnB np hts (good_call (y := .tt) (ws := []) (pre := []) (fun w hw => by cases hw) hco) rfl rfl rfl (hN _ w1) (hts _ w4) ⟨hy1, hy2, hy3⟩ hR, hnm, hts _ w2⟩ ⟨PcN_blind, fun U hU hWm => ⟨rfl, by rw [hU]; exact hz, by rw [hU]; exact hW, va_K.moved hWm.alike hK, fun z hz => va_Nw.warmM hWm (hN z hz), Z.1.moved hWm.alike, Z.2.moved hWm.alike⟩⟩ rfl hn hL.1 rfl (by show 2 * 0 + (rest.map fun v => v.category).sum ≤ 8; omega) hd hkc) hS (fun q _ h => h) (fun q h => h) (fun u t H1 locs1 ht hvm hp hB hz1 hk hS1 => ?_)
  rw [ht] at hB
  exact kk H1 locs1 ls hB.1 hB.2 hS1 hL
theorem gn_ctor {y : MethodName} {cy : ByteArray} {mL fr lo mc ms n' np index h : Nat} {M' : Mm} {As rest : List Value} (X : Cx p s m args c cc D nL own) (Z : Kc args s) (hM : OkN l D T n base M n' M' y cy mL fr lo mc ms (.ref (base + h) :: As)) (hd : decode cc pc = .ok (.invokespecial index, 3)) (w1 : Cond.methodLink own index y ∈ LW) (w2 : Cond.instanceMethod y ∈ LW) (w4 : Cond.initialized y.cls ∈ LW) (w5 : Cw R y cy mL none fr lo np) (hnm : y.name = "<init>")
    (hn : As.length = np) (hst : st = As.reverse ++ .ref (base + h) :: rest) (hrs : (rest.map fun v => v.category).sum ≤ 8) (hkc : kc + mc ≤ R.cells ∧ ks + ms ≤ R.slots)
    (kk : Gn p l e R s m args below meth c D T n' base nL (kc + mc) (ks + ms) Q M' (pc + 3) L rest) : Gn p l e R s m args below meth c D T n base nL kc ks Q M pc L st := by
  intro H locs ls hW hz hS hL
  obtain ⟨hx, hb, hml, hown, hts, hK, hN⟩ := X
  obtain ⟨hco, ⟨hy1, hy2, hy3⟩, hR⟩ := w5
  subst hst
  refine va_callv (A1 := FB base) (free := FB base) (va_runI (g := F0 m pc ls (As.reverse ++ .ref (base + h) :: rest)) (nL := nL) ⟨hx, hb, hml, hown, hts⟩ hM (cwI np hts (good_call (y := .tt) (ws := []) (pre := []) (fun w hw => by cases hw) hco) rfl rfl rfl (hts _ w4) (hts _ w1) (hts _ w2) hnm ⟨hy1, hy2, hy3⟩ hR) ⟨PcN_blind, fun U hU hWm => ⟨rfl, by rw [hU]; exact hz, by rw [hU]; exact hW, va_K.moved hWm.alike hK, fun z hz => va_Nw.warmM hWm (hN z hz), Z.1.moved hWm.alike, Z.2.moved hWm.alike⟩⟩ rfl hn hL.1 rfl (by show 2 * 0 + (rest.map fun v => v.category).sum ≤ 8; omega) hd hkc) hS (fun q _ h => h) (fun q h => h) (fun u t H1 locs1 ht hvm hp hB hz1 hk hS1 => ?_)
  rw [ht] at hB
  exact kk H1 locs1 ls hB.1 hB.2 hS1 hL
end CT2
