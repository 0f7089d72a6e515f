/-! THE CLAIM OUT OF ONE WALK OF THE LAW'S BODY. Your part is whole_start (and what it stands on); all else here is the same for every law, but numbers. -/
def R_law : String := "AttribArborLaw"
def lw_P (b : Addr) (xs : List Int32) (args : Array Value) (s : State) : Prop := args = #[.ref b] ∧ s.IntsAt b xs ∧ xs.length ≤ 3072 ∧ (Jvm.Cond.and given_1 narrow_1).before args s = true
def lw_Q (_ : Array Value) (s : State) (o : Outcome) (t : State) : Prop := o = .returned (some (.int 1)) ∧ Framed s o t [] 601024 7293034
def lw_Z (below : List Frame) (a : Array Value) (s : State) : State → Prop := fun t => ∃ o, t.status = .running ∧ Ended t below o ∧ lw_Q a s o t
/-- the law's own end, with 1 on the stack, nothing written that was there before, its room as the claim has it -/
theorem lw_ret {p : Program} {l : Launch} {e : Env} {s : State} {m : MethodId} {below : List Frame} {meth : Method} {c : Code} {b : Nat} (hx : p.tables.exec = Jvm.exec) (hb : c.code = code) (hr : meth.sig.returnType = ret) (hlocks : meth.locks = false) {pc : Nat} {H : Heap} {ls : Array Slot} (hdg : decode code pc = .ok (.ireturn, 1)) : W p l e room_1 s m #[Value.ref b] below meth c H [] 601024 7293034 (lw_Z below #[Value.ref b] s) (F0 m pc ls [.int 1]) := by
  intro T hT X
  obtain ⟨fs, hret, hrun, hended, hW, hframe⟩ := X.leave (v := some (.int 1)) (hlocks := hlocks) (fun h => by rw [hr] at h; cases h)
  have hmeth' : T.vm.method? m = some meth := X.method'
  refine ⟨T.setFrames fs, ?_, .returned (some (.int 1)), hrun, hended, rfl, ⟨_, rfl⟩, hW, hframe⟩
  jvm_step X.here [X.here.top, hx, hb, hdg, hmeth', hr, ret, narrow_b1]
  (try refine ⟨rfl, ?_⟩); (try refine ⟨rfl, ?_⟩)
  first | (intro acts; rw [hret _ acts rfl rfl rfl]) | rw [hret _ _ rfl rfl rfl]
  exact Steps.refl _
/-- what holds at the law's entry: the machine, the code, the tables' words (any of lw_tbl by 'hts w (by decide +kernel)'), the script of L ints xs at the cell b, what the Statement gives of the start (any of its parts by flat_of_before) -/
def lw_At (p : Program) (s : State) (m : MethodId) (meth : Method) (c : Code) (b L : Nat) (xs : Nat → Int32) : Prop :=
  p.tables.exec = Jvm.exec ∧ c.code = code ∧ meth.sig.returnType = ret ∧ c.maxLocals = 7 ∧ s.vm.findClass R_law = some m.cls ∧ (∀ w ∈ lw_tbl, w.before #[Value.ref b] s = true) ∧ va_X b L xs s s.heap ∧ b < s.heap.size ∧ meth.locks = false ∧ (Jvm.Cond.and given_1 narrow_1).before #[Value.ref b] s = true
def S_production (Inv : Mm → Mm → Nat → Prop) : Prop := ∀ (MC MR : Mm) (k : Nat) (a1 : Int) (a2 : Int) (a3 : Int) (a4 : Int), i32 a1 → i32 a2 → i32 a3 → i32 a4 → Inv MC MR k → k < 512 → ∃ (r : Int × Int × Mm) (q : Int × Mm), f_X11_production a1 a2 a3 a4 MC = some r ∧ f_X12_production a1 a2 a3 a4 MR = some q ∧ (r.1 = 0 ∨ r.1 = 1 ∨ r.1 = 2 ∨ r.1 = 3) ∧ q.2 0 87 = (if r.1 = 1 then 1 else if r.1 = 2 then 2 else if r.1 = 3 then 3 else 0) ∧ (r.1 = 0 → r.2.1 = q.1) ∧ Inv r.2.2 q.2 (k + 1)
def S_forward (Inv : Mm → Mm → Nat → Prop) : Prop := ∀ (MC MR : Mm) (k : Nat) (a1 : Int) (a2 : Int) (a3 : Int) (a4 : Int) (a5 : Int), i32 a1 → i32 a2 → i32 a3 → i32 a4 → i32 a5 → Inv MC MR k → k < 512 → ∃ (r : Int × Int × Mm) (q : Int × Mm), f_X11_forward a1 a2 a3 a4 a5 MC = some r ∧ f_X12_forward a1 a2 a3 a4 a5 MR = some q ∧ (r.1 = 0 ∨ r.1 = 1 ∨ r.1 = 2) ∧ q.2 0 87 = (if r.1 = 1 then 1 else if r.1 = 2 then 2 else 0) ∧ (r.1 = 0 → r.2.1 = q.1) ∧ Inv r.2.2 q.2 (k + 1)
def S_rule (Inv : Mm → Mm → Nat → Prop) : Prop := ∀ (MC MR : Mm) (k : Nat) (a1 : Int) (a2 : Int) (a3 : Int), i32 a1 → i32 a2 → i32 a3 → Inv MC MR k → k < 512 → ∃ (r : Int × Int × Mm) (q : Int × Mm), f_X11_rule a1 a2 a3 MC = some r ∧ f_X12_rule a1 a2 a3 MR = some q ∧ (r.1 = 0 ∨ r.1 = 1 ∨ r.1 = 2) ∧ q.2 0 87 = (if r.1 = 1 then 1 else if r.1 = 2 then 2 else 0) ∧ (r.1 = 0 → r.2.1 = q.1) ∧ Inv r.2.2 q.2 (k + 1)
def S_attribute (Inv : Mm → Mm → Nat → Prop) : Prop := ∀ (MC MR : Mm) (k : Nat) (a1 : Int), i32 a1 → Inv MC MR k → k < 512 → ∃ (r : Int × Int × Mm) (q : Int × Mm), f_X11_attribute a1 MC = some r ∧ f_X12_attribute a1 MR = some q ∧ (r.1 = 0 ∨ r.1 = 2 ∨ r.1 = 3) ∧ q.2 0 87 = (if r.1 = 2 then 1 else if r.1 = 3 then 2 else 0) ∧ (r.1 = 0 → r.2.1 = q.1) ∧ Inv r.2.2 q.2 (k + 1)
def S_step (Inv : Mm → Mm → Nat → Prop) : Prop := ∀ (MC MR : Mm) (k : Nat) (a1 : Int) (a2 : Int) (a3 : Int), i32 a1 → i32 a2 → i32 a3 → Inv MC MR k → k < 512 → ∃ (r : Int × Int × Mm) (q : Int × Mm), f_X11_step a1 a2 a3 MC = some r ∧ f_X12_step a1 a2 a3 MR = some q ∧ (r.1 = 0 ∨ r.1 = 1 ∨ r.1 = 2 ∨ r.1 = 3) ∧ q.2 0 87 = (if r.1 = 1 then 1 else if r.1 = 2 then 2 else if r.1 = 3 then 3 else 0) ∧ (r.1 = 0 → r.2.1 = q.1) ∧ Inv r.2.2 q.2 (k + 1)
def S_dropSteps (Inv : Mm → Mm → Nat → Prop) : Prop := ∀ (MC MR : Mm) (k : Nat), Inv MC MR k → k < 512 → ∃ (r q : Int × Mm), f_X11_dropSteps MC = some r ∧ f_X12_dropSteps MR = some q ∧ r.1 = q.1 ∧ Inv r.2 q.2 (k + 1)
def S_equation (Inv : Mm → Mm → Nat → Prop) : Prop := ∀ (MC MR : Mm) (k : Nat) (a1 : Int) (a2 : Int) (a3 : Int) (a4 : Int), i32 a1 → i32 a2 → i32 a3 → i32 a4 → Inv MC MR k → k < 512 → ∃ (r : Int × Int × Mm) (q : Int × Mm), f_X11_equation a1 a2 a3 a4 MC = some r ∧ f_X12_equation a1 a2 a3 a4 MR = some q ∧ (r.1 = 0 ∨ r.1 = 1 ∨ r.1 = 2 ∨ r.1 = 3) ∧ q.2 0 87 = (if r.1 = 1 then 1 else if r.1 = 2 then 2 else if r.1 = 3 then 3 else 0) ∧ (r.1 = 0 → r.2.1 = q.1) ∧ Inv r.2.2 q.2 (k + 1)
def S_toggle (Inv : Mm → Mm → Nat → Prop) : Prop := ∀ (MC MR : Mm) (k : Nat) (a1 : Int), i32 a1 → Inv MC MR k → k < 512 → ∃ (r : Int × Int × Mm) (q : Int × Mm), f_X11_toggle a1 MC = some r ∧ f_X12_toggle a1 MR = some q ∧ (r.1 = 0 ∨ r.1 = 1) ∧ q.2 0 87 = (if r.1 = 1 then 1 else 0) ∧ (r.1 = 0 → r.2.1 = q.1) ∧ Inv r.2.2 q.2 (k + 1)
def S_conflicts (Inv : Mm → Mm → Nat → Prop) : Prop := ∀ (MC MR : Mm) (k : Nat), Inv MC MR k → k < 512 → ∃ (r q : Int × Mm), f_X11_conflicts MC = some r ∧ f_X12_conflicts MR = some q ∧ r.1 = q.1 ∧ Inv r.2 q.2 (k + 1)
def S_ringIn (Inv : Mm → Mm → Nat → Prop) : Prop := ∀ (MC MR : Mm) (k : Nat), Inv MC MR k → k < 512 → ∃ (r q : Int × Mm), f_X11_ringIn MC = some r ∧ f_X12_ringIn MR = some q ∧ r.1 = q.1 ∧ Inv r.2 q.2 (k + 1)
def S_insert (Inv : Mm → Mm → Nat → Prop) : Prop := ∀ (MC MR : Mm) (k : Nat) (a1 : Int) (a2 : Int), i32 a1 → i32 a2 → Inv MC MR k → k < 512 → ∃ (r : Int × Int × Mm) (q : Int × Mm), f_X11_insert a1 a2 MC = some r ∧ f_X12_insert a1 a2 MR = some q ∧ (r.1 = 0 ∨ r.1 = 1 ∨ r.1 = 2 ∨ r.1 = 3) ∧ q.2 0 87 = (if r.1 = 1 then 1 else if r.1 = 2 then 2 else if r.1 = 3 then 3 else 0) ∧ (r.1 = 0 → r.2.1 = q.1) ∧ Inv r.2.2 q.2 (k + 1)
def S_delete (Inv : Mm → Mm → Nat → Prop) : Prop := ∀ (MC MR : Mm) (k : Nat) (a1 : Int), i32 a1 → Inv MC MR k → k < 512 → ∃ (r : Int × Int × Mm) (q : Int × Mm), f_X11_delete a1 MC = some r ∧ f_X12_delete a1 MR = some q ∧ (r.1 = 0 ∨ r.1 = 1 ∨ r.1 = 3) ∧ q.2 0 87 = (if r.1 = 1 then 1 else if r.1 = 3 then 2 else 0) ∧ (r.1 = 0 → r.2.1 = q.1) ∧ Inv r.2.2 q.2 (k + 1)
def S_read (Inv : Mm → Mm → Nat → Prop) : Prop := ∀ (MC MR : Mm) (k : Nat), Inv MC MR k → k < 512 → ∃ (r : Int × Int × Mm) (q : Int × Mm), f_X11_read MC = some r ∧ f_X12_read MR = some q ∧ (r.1 = 0 ∨ r.1 = 3) ∧ q.2 0 87 = (if r.1 = 3 then 1 else 0) ∧ (r.1 = 0 → r.2.1 = q.1) ∧ Inv r.2.2 q.2 (k + 1)
def S_cost (Inv : Mm → Mm → Nat → Prop) : Prop := ∀ (MC MR : Mm) (k : Nat), Inv MC MR k → k < 512 → ∃ (r q : Int × Mm), f_X11_cost MC = some r ∧ f_X12_cost MR = some q ∧ r.1 = q.1 ∧ Inv r.2 q.2 (k + 1)
def S_node (Inv : Mm → Mm → Nat → Prop) : Prop := ∀ (MC MR : Mm) (k : Nat) (a1 : Int), i32 a1 → Inv MC MR k → k < 512 → ∃ (r : Int × Int × Mm) (q : Int × Mm), f_X11_node a1 MC = some r ∧ f_X12_node a1 MR = some q ∧ (r.1 = 0 ∨ r.1 = 1) ∧ q.2 0 87 = (if r.1 = 1 then 1 else 0) ∧ (r.1 = 0 → r.2.1 = q.1) ∧ Inv r.2.2 q.2 (k + 1)
def S_rewrite (Inv : Mm → Mm → Nat → Prop) : Prop := ∀ (MC MR : Mm) (k : Nat) (a1 : Int), i32 a1 → Inv MC MR k → k < 512 → ∃ (r : Int × Int × Mm) (q : Int × Mm), f_X11_rewrite a1 MC = some r ∧ f_X12_rewrite a1 MR = some q ∧ (r.1 = 0 ∨ r.1 = 1) ∧ q.2 0 87 = (if r.1 = 1 then 1 else 0) ∧ (r.1 = 0 → r.2.1 = q.1) ∧ Inv r.2.2 q.2 (k + 1)
def S_value (Inv : Mm → Mm → Nat → Prop) : Prop := ∀ (MC MR : Mm) (k : Nat) (a1 : Int) (a2 : Int), i32 a1 → i32 a2 → Inv MC MR k → k < 512 → ∃ (r : Int × Int × Mm) (q : Int × Mm), f_X11_value a1 a2 MC = some r ∧ f_X12_value a1 a2 MR = some q ∧ (r.1 = 0 ∨ r.1 = 1) ∧ q.2 0 87 = (if r.1 = 1 then 1 else 0) ∧ (r.1 = 0 → r.2.1 = q.1) ∧ Inv r.2.2 q.2 (k + 1)
def S_valueAnew (Inv : Mm → Mm → Nat → Prop) : Prop := ∀ (MC MR : Mm) (k : Nat) (a1 : Int) (a2 : Int), i32 a1 → i32 a2 → Inv MC MR k → k < 512 → ∃ (r : Int × Int × Mm) (q : Int × Mm), f_X11_valueAnew a1 a2 MC = some r ∧ f_X12_valueAnew a1 a2 MR = some q ∧ (r.1 = 0 ∨ r.1 = 1) ∧ q.2 0 87 = (if r.1 = 1 then 1 else 0) ∧ (r.1 = 0 → r.2.1 = q.1) ∧ Inv r.2.2 q.2 (k + 1)
def S_found (Inv : Mm → Mm → Nat → Prop) : Prop := ∀ (MC MR : Mm) (k : Nat), Inv MC MR k → k < 512 → ∃ (r q : Int × Mm), f_X11_found MC = some r ∧ f_X12_found MR = some q ∧ r.1 = q.1 ∧ Inv r.2 q.2 (k + 1)
def S_isKept (Inv : Mm → Mm → Nat → Prop) : Prop := ∀ (MC MR : Mm) (k : Nat) (a1 : Int) (a2 : Int), i32 a1 → i32 a2 → Inv MC MR k → k < 512 → ∃ (r : Int × Int × Mm) (q : Int × Mm), f_X11_isKept a1 a2 MC = some r ∧ f_X12_isKept a1 a2 MR = some q ∧ (r.1 = 0 ∨ r.1 = 1) ∧ q.2 0 87 = (if r.1 = 1 then 1 else 0) ∧ (r.1 = 0 → r.2.1 = q.1) ∧ Inv r.2.2 q.2 (k + 1)
def S_why (Inv : Mm → Mm → Nat → Prop) : Prop := ∀ (MC MR : Mm) (k : Nat) (a1 : Int) (a2 : Int) (a3 : Int), i32 a1 → i32 a2 → i32 a3 → Inv MC MR k → k < 512 → ∃ (r : Int × Int × Mm) (q : Int × Mm), f_X11_why a1 a2 a3 MC = some r ∧ f_X12_why a1 a2 a3 MR = some q ∧ (r.1 = 0 ∨ r.1 = 1) ∧ q.2 0 87 = (if r.1 = 1 then 1 else 0) ∧ (r.1 = 0 → r.2.1 = q.1) ∧ Inv r.2.2 q.2 (k + 1)
def S_none (Inv : Mm → Mm → Nat → Prop) : Prop := ∀ (MC MR : Mm) (k : Nat), Inv MC MR k → k < 512 → Inv MC MR (k + 1)
def Sim (Inv : Mm → Mm → Nat → Prop) : Prop := S_production Inv ∧ S_forward Inv ∧ S_rule Inv ∧ S_attribute Inv ∧ S_step Inv ∧ S_dropSteps Inv ∧ S_equation Inv ∧ S_toggle Inv ∧ S_conflicts Inv ∧ S_ringIn Inv ∧ S_insert Inv ∧ S_delete Inv ∧ S_read Inv ∧ S_cost Inv ∧ S_node Inv ∧ S_rewrite Inv ∧ S_value Inv ∧ S_valueAnew Inv ∧ S_found Inv ∧ S_isKept Inv ∧ S_why Inv ∧ S_none Inv
theorem lcmp_same (u : Int) : lcmp_ u u = 0 := by unfold lcmp_; rw [if_neg (Int.lt_irrefl u), if_pos rfl]
theorem R_law_RL : R_law = RL := rfl
set_option maxRecDepth 20000 in
theorem law_production {p : Program} {l : Launch} {e : Env} {s : State} {m : MethodId} {below : List Frame} {meth : Method} {c : Code} {D : Dd} {b N : Nat} {xs : Nat → Int32} {Inv : Mm → Mm → Nat → Prop} (hl : l.stackTraces = false) (X : Ll_ p s m c D b N xs) (hS : S_production Inv) {k : Nat} (hk : k < 512) (hN : 6 * k + 6 ≤ N) (hN2 : N ≤ 3072) (tail : ∀ (MC MR : Mm) (fo : Nat → Int64), Inv MC MR (k + 1) → Gl p l e s m b below meth c D (749 + 3 * (k + 1)) (24000 + 18 * (k + 1)) (lw_Z below #[Value.ref b] s) MC MR fo 1343 [(0, .ref b), (1, .ref (s.heap.size + 0)), (2, .ref (s.heap.size + 681 + 0)), (3, .ref (s.heap.size + 748)), (4, .int (Ii ((6 * k : Nat) : Int)))] []) (MC MR : Mm) (fo : Nat → Int64) (hI : Inv MC MR k) : Gl p l e s m b below meth c D (749 + 3 * k) (24000 + 18 * k) (lw_Z below #[Value.ref b] s) MC MR fo 140 [(0, .ref b), (1, .ref (s.heap.size + 0)), (2, .ref (s.heap.size + 681 + 0)), (3, .ref (s.heap.size + 748)), (4, .int (Ii ((6 * k : Nat) : Int)))] [] := by
  have hi4 : i32 ((6 * k : Nat) : Int) := by unfold i32; omega
  obtain ⟨r, q, h1, h2, h3, h4, h5, h6⟩ := hS MC MR k (xs (((6 * k : Nat) : Int) + 1).toNat).toInt (xs (((6 * k : Nat) : Int) + 2).toNat).toInt (xs (((6 * k : Nat) : Int) + 3).toNat).toInt (xs (((6 * k : Nat) : Int) + 4).toNat).toInt (i32_of _) (i32_of _) (i32_of _) (i32_of _) hI hk
  have hcd : i32 (if r.1 = 1 then 1 else if r.1 = 2 then 2 else if r.1 = 3 then 3 else 0) := by (repeat' split) <;> decide
  refine gl_aload_n X dL_law_140 rfl 1 rfl ?_
  refine gl_aload_n X dL_law_141 rfl 0 rfl ?_
  refine gl_iload X dL_law_142 4 rfl ?_
  refine gl_iconst (v := 1) X dL_law_144 rfl ?_
  refine gl_iadd X dL_law_145 hi4 (show i32 1 by decide) (by unfold i32; omega) ?_
  refine gl_sld X dL_law_146 (by omega) (by unfold i32; omega) ?_
  refine gl_aload_n X dL_law_147 rfl 0 rfl ?_
  refine gl_iload X dL_law_148 4 rfl ?_
  refine gl_iconst (v := 2) X dL_law_150 rfl ?_
  refine gl_iadd X dL_law_151 hi4 (show i32 2 by decide) (by unfold i32; omega) ?_
  refine gl_sld X dL_law_152 (by omega) (by unfold i32; omega) ?_
  refine gl_aload_n X dL_law_153 rfl 0 rfl ?_
  refine gl_iload X dL_law_154 4 rfl ?_
  refine gl_iconst (v := 3) X dL_law_156 rfl ?_
  refine gl_iadd X dL_law_157 hi4 (show i32 3 by decide) (by unfold i32; omega) ?_
  refine gl_sld X dL_law_158 (by omega) (by unfold i32; omega) ?_
  refine gl_aload_n X dL_law_159 rfl 0 rfl ?_
  refine gl_iload X dL_law_160 4 rfl ?_
  refine gl_iconst (v := 4) X dL_law_162 rfl ?_
  refine gl_iadd X dL_law_163 hi4 (show i32 4 by decide) (by unfold i32; omega) ?_
  refine gl_sld X dL_law_164 (by omega) (by unfold i32; omega) ?_
  refine gl_aload_n X dL_law_165 rfl 3 rfl ?_
  refine gl_wrap (np := 6) X (fun sz => ok_L_production l hl D s.heap.size s.heap.size (s.heap.size + 748) (Nat.le_refl _) (by omega) MC fo (xs (((6 * k : Nat) : Int) + 1).toNat).toInt (i32_of _) (xs (((6 * k : Nat) : Int) + 2).toNat).toInt (i32_of _) (xs (((6 * k : Nat) : Int) + 3).toNat).toInt (i32_of _) (xs (((6 * k : Nat) : Int) + 4).toNat).toInt (i32_of _) sz r h1 h3) dL_law_166 ll75 ll76 ll77 ll6 ⟨by decide +kernel, by decide +kernel, by decide +kernel⟩ ⟨Nat.le_of_ble_eq_true rfl, Nat.le_of_ble_eq_true rfl⟩ rfl rfl (Nat.le_of_ble_eq_true rfl) ⟨by show _ ≤ 601024; omega, by show _ ≤ 7293034; omega⟩ ?_
  refine gl_istore (L' := [(5, .int (Ii (if r.1 = 1 then 1 else if r.1 = 2 then 2 else if r.1 = 3 then 3 else 0))), (0, .ref b), (1, .ref (s.heap.size + 0)), (2, .ref (s.heap.size + 681 + 0)), (3, .ref (s.heap.size + 748)), (4, .int (Ii ((6 * k : Nat) : Int)))]) X dL_law_169 (by decide) rfl ?_
  refine gl_aload_n X dL_law_171 rfl 3 rfl ?_
  refine gl_aload_n X dL_law_172 rfl 1 rfl ?_
  refine gl_iload X dL_law_173 5 rfl ?_
  refine gl_iconst (v := 1) X dL_law_175 rfl ?_
  refine gl_iadd X dL_law_176 hi4 (show i32 1 by decide) (by unfold i32; omega) ?_
  refine gl_sld X dL_law_177 (by omega) (by unfold i32; omega) ?_
  refine gl_aload_n X dL_law_178 rfl 1 rfl ?_
  refine gl_iload X dL_law_179 5 rfl ?_
  refine gl_iconst (v := 2) X dL_law_181 rfl ?_
  refine gl_iadd X dL_law_182 hi4 (show i32 2 by decide) (by unfold i32; omega) ?_
  refine gl_sld X dL_law_183 (by omega) (by unfold i32; omega) ?_
  refine gl_aload_n X dL_law_184 rfl 1 rfl ?_
  refine gl_iload X dL_law_185 5 rfl ?_
  refine gl_iconst (v := 3) X dL_law_187 rfl ?_
  refine gl_iadd X dL_law_188 hi4 (show i32 3 by decide) (by unfold i32; omega) ?_
  refine gl_sld X dL_law_189 (by omega) (by unfold i32; omega) ?_
  refine gl_aload_n X dL_law_190 rfl 1 rfl ?_
  refine gl_iload X dL_law_191 5 rfl ?_
  refine gl_iconst (v := 4) X dL_law_193 rfl ?_
  refine gl_iadd X dL_law_194 hi4 (show i32 4 by decide) (by unfold i32; omega) ?_
  refine gl_sld X dL_law_195 (by omega) (by unfold i32; omega) ?_
  refine gl_ref X (ok_X12_production l D (s.heap.size + 681) MR (xs (((6 * k : Nat) : Int) + 1).toNat).toInt (i32_of _) (xs (((6 * k : Nat) : Int) + 2).toNat).toInt (i32_of _) (xs (((6 * k : Nat) : Int) + 3).toNat).toInt (i32_of _) (xs (((6 * k : Nat) : Int) + 4).toNat).toInt (i32_of _)) h2 dL_law_196 ll78 (inL _ ll79) (inL _ ll80) (inW _ lw944) lw963 cy_X12_production rfl ⟨Nat.le_of_ble_eq_true rfl, Nat.le_of_ble_eq_true rfl⟩ (Nat.le_of_ble_eq_true rfl) tr0 rfl rfl rfl rfl (Nat.le_of_ble_eq_true rfl) ⟨by show _ ≤ 601024; omega, by show _ ≤ 7293034; omega⟩ (fun hq9 => ?_)
  refine gl_istore (L' := [(6, .int (Ii q.1)), (5, .int (Ii (if r.1 = 1 then 1 else if r.1 = 2 then 2 else if r.1 = 3 then 3 else 0))), (0, .ref b), (1, .ref (s.heap.size + 0)), (2, .ref (s.heap.size + 681 + 0)), (3, .ref (s.heap.size + 748)), (4, .int (Ii ((6 * k : Nat) : Int)))]) X dL_law_199 (by decide) rfl ?_
  refine gl_aload_n X dL_law_201 rfl 4 rfl ?_
  refine gl_ref X (ok_X12_thrown l D (s.heap.size + 681) q.2) (r := (q.2 0 87, q.2)) rfl dL_law_202 ll81 (inL _ ll82) (inL _ ll83) (inW _ lw944) lw935 cy_X12_thrown rfl ⟨Nat.le_of_ble_eq_true rfl, Nat.le_of_ble_eq_true rfl⟩ (Nat.le_of_ble_eq_true rfl) tr0 rfl rfl rfl rfl (Nat.le_of_ble_eq_true rfl) ⟨by show _ ≤ 601024; omega, by show _ ≤ 7293034; omega⟩ (fun _ => ?_)
  refine gl_iload X dL_law_205 1 rfl ?_
  refine gl_icmp_eqT (tgt := 212) X dL_law_207 rfl h4 ?_
  refine gl_iload X dL_law_212 1 rfl ?_
  refine gl_if_ne (tgt := 229) X dL_law_214 rfl hcd (fun h0 => ?_) (fun h0 => ?_)
  · refine gl_goto (tgt := 1343) X dL_law_229 rfl ?_
    refine gl_sub [2, 3, 4, 5, 6] rfl ?_
    refine gl_widen (749 + 3 * (k + 1)) (24000 + 18 * (k + 1)) (by omega) (by omega) ?_
    exact tail _ _ _ h6
  · have hr0 : r.1 = 0 := by omega
    have hfo : (if r.1 = 0 then vp_updL fo 0 (Ll r.2.1) else fo) 0 = Ll r.2.1 := by rw [if_pos hr0]; rfl
    have hv9 : r.2.1 = q.1 := h5 hr0
    refine gl_aload_n X dL_law_217 rfl 5 rfl ?_
    refine gl_iconst (v := 0) X dL_law_218 rfl ?_
    refine gl_laload X dL_law_219 ?_
    rw [hfo]
    refine gl_iload X dL_law_220 0 rfl ?_
    refine gl_i2l X dL_law_222 hq9 ?_
    refine gl_lcmp X dL_law_223 (by rw [hv9]; exact i32_i64 hq9) (i32_i64 hq9) ?_
    rw [hv9]
    refine gl_if_eq (tgt := 229) X dL_law_224 rfl (i32_lcmp _ _) (fun hz => ?_) (fun hz => absurd (lcmp_same _) hz)
    refine gl_goto (tgt := 1343) X dL_law_229 rfl ?_
    refine gl_sub [2, 3, 4, 5, 6] rfl ?_
    refine gl_widen (749 + 3 * (k + 1)) (24000 + 18 * (k + 1)) (by omega) (by omega) ?_
    exact tail _ _ _ h6
set_option maxRecDepth 20000 in
theorem law_forward {p : Program} {l : Launch} {e : Env} {s : State} {m : MethodId} {below : List Frame} {meth : Method} {c : Code} {D : Dd} {b N : Nat} {xs : Nat → Int32} {Inv : Mm → Mm → Nat → Prop} (hl : l.stackTraces = false) (X : Ll_ p s m c D b N xs) (hS : S_forward Inv) {k : Nat} (hk : k < 512) (hN : 6 * k + 6 ≤ N) (hN2 : N ≤ 3072) (tail : ∀ (MC MR : Mm) (fo : Nat → Int64), Inv MC MR (k + 1) → Gl p l e s m b below meth c D (749 + 3 * (k + 1)) (24000 + 18 * (k + 1)) (lw_Z below #[Value.ref b] s) MC MR fo 1343 [(0, .ref b), (1, .ref (s.heap.size + 0)), (2, .ref (s.heap.size + 681 + 0)), (3, .ref (s.heap.size + 748)), (4, .int (Ii ((6 * k : Nat) : Int)))] []) (MC MR : Mm) (fo : Nat → Int64) (hI : Inv MC MR k) : Gl p l e s m b below meth c D (749 + 3 * k) (24000 + 18 * k) (lw_Z below #[Value.ref b] s) MC MR fo 232 [(0, .ref b), (1, .ref (s.heap.size + 0)), (2, .ref (s.heap.size + 681 + 0)), (3, .ref (s.heap.size + 748)), (4, .int (Ii ((6 * k : Nat) : Int)))] [] := by
  have hi4 : i32 ((6 * k : Nat) : Int) := by unfold i32; omega
  obtain ⟨r, q, h1, h2, h3, h4, h5, h6⟩ := hS MC MR k (xs (((6 * k : Nat) : Int) + 1).toNat).toInt (xs (((6 * k : Nat) : Int) + 2).toNat).toInt (xs (((6 * k : Nat) : Int) + 3).toNat).toInt (xs (((6 * k : Nat) : Int) + 4).toNat).toInt (xs (((6 * k : Nat) : Int) + 5).toNat).toInt (i32_of _) (i32_of _) (i32_of _) (i32_of _) (i32_of _) hI hk
  have hcd : i32 (if r.1 = 1 then 1 else if r.1 = 2 then 2 else 0) := by (repeat' split) <;> decide
  refine gl_aload_n X dL_law_232 rfl 1 rfl ?_
  refine gl_aload_n X dL_law_233 rfl 0 rfl ?_
  refine gl_iload X dL_law_234 4 rfl ?_
  refine gl_iconst (v := 1) X dL_law_236 rfl ?_
  refine gl_iadd X dL_law_237 hi4 (show i32 1 by decide) (by unfold i32; omega) ?_
  refine gl_sld X dL_law_238 (by omega) (by unfold i32; omega) ?_
  refine gl_aload_n X dL_law_239 rfl 0 rfl ?_
  refine gl_iload X dL_law_240 4 rfl ?_
  refine gl_iconst (v := 2) X dL_law_242 rfl ?_
  refine gl_iadd X dL_law_243 hi4 (show i32 2 by decide) (by unfold i32; omega) ?_
  refine gl_sld X dL_law_244 (by omega) (by unfold i32; omega) ?_
  refine gl_aload_n X dL_law_245 rfl 0 rfl ?_
  refine gl_iload X dL_law_246 4 rfl ?_
  refine gl_iconst (v := 3) X dL_law_248 rfl ?_
  refine gl_iadd X dL_law_249 hi4 (show i32 3 by decide) (by unfold i32; omega) ?_
  refine gl_sld X dL_law_250 (by omega) (by unfold i32; omega) ?_
  refine gl_aload_n X dL_law_251 rfl 0 rfl ?_
  refine gl_iload X dL_law_252 4 rfl ?_
  refine gl_iconst (v := 4) X dL_law_254 rfl ?_
  refine gl_iadd X dL_law_255 hi4 (show i32 4 by decide) (by unfold i32; omega) ?_
  refine gl_sld X dL_law_256 (by omega) (by unfold i32; omega) ?_
  refine gl_aload_n X dL_law_257 rfl 0 rfl ?_
  refine gl_iload X dL_law_258 4 rfl ?_
  refine gl_iconst (v := 5) X dL_law_260 rfl ?_
  refine gl_iadd X dL_law_261 hi4 (show i32 5 by decide) (by unfold i32; omega) ?_
  refine gl_sld X dL_law_262 (by omega) (by unfold i32; omega) ?_
  refine gl_aload_n X dL_law_263 rfl 3 rfl ?_
  refine gl_wrap (np := 7) X (fun sz => ok_L_forward l hl D s.heap.size s.heap.size (s.heap.size + 748) (Nat.le_refl _) (by omega) MC fo (xs (((6 * k : Nat) : Int) + 1).toNat).toInt (i32_of _) (xs (((6 * k : Nat) : Int) + 2).toNat).toInt (i32_of _) (xs (((6 * k : Nat) : Int) + 3).toNat).toInt (i32_of _) (xs (((6 * k : Nat) : Int) + 4).toNat).toInt (i32_of _) (xs (((6 * k : Nat) : Int) + 5).toNat).toInt (i32_of _) sz r h1 h3) dL_law_264 ll84 ll85 ll77 ll10 ⟨by decide +kernel, by decide +kernel, by decide +kernel⟩ ⟨Nat.le_of_ble_eq_true rfl, Nat.le_of_ble_eq_true rfl⟩ rfl rfl (Nat.le_of_ble_eq_true rfl) ⟨by show _ ≤ 601024; omega, by show _ ≤ 7293034; omega⟩ ?_
  refine gl_istore (L' := [(5, .int (Ii (if r.1 = 1 then 1 else if r.1 = 2 then 2 else 0))), (0, .ref b), (1, .ref (s.heap.size + 0)), (2, .ref (s.heap.size + 681 + 0)), (3, .ref (s.heap.size + 748)), (4, .int (Ii ((6 * k : Nat) : Int)))]) X dL_law_267 (by decide) rfl ?_
  refine gl_aload_n X dL_law_269 rfl 3 rfl ?_
  refine gl_aload_n X dL_law_270 rfl 1 rfl ?_
  refine gl_iload X dL_law_271 5 rfl ?_
  refine gl_iconst (v := 1) X dL_law_273 rfl ?_
  refine gl_iadd X dL_law_274 hi4 (show i32 1 by decide) (by unfold i32; omega) ?_
  refine gl_sld X dL_law_275 (by omega) (by unfold i32; omega) ?_
  refine gl_aload_n X dL_law_276 rfl 1 rfl ?_
  refine gl_iload X dL_law_277 5 rfl ?_
  refine gl_iconst (v := 2) X dL_law_279 rfl ?_
  refine gl_iadd X dL_law_280 hi4 (show i32 2 by decide) (by unfold i32; omega) ?_
  refine gl_sld X dL_law_281 (by omega) (by unfold i32; omega) ?_
  refine gl_aload_n X dL_law_282 rfl 1 rfl ?_
  refine gl_iload X dL_law_283 5 rfl ?_
  refine gl_iconst (v := 3) X dL_law_285 rfl ?_
  refine gl_iadd X dL_law_286 hi4 (show i32 3 by decide) (by unfold i32; omega) ?_
  refine gl_sld X dL_law_287 (by omega) (by unfold i32; omega) ?_
  refine gl_aload_n X dL_law_288 rfl 1 rfl ?_
  refine gl_iload X dL_law_289 5 rfl ?_
  refine gl_iconst (v := 4) X dL_law_291 rfl ?_
  refine gl_iadd X dL_law_292 hi4 (show i32 4 by decide) (by unfold i32; omega) ?_
  refine gl_sld X dL_law_293 (by omega) (by unfold i32; omega) ?_
  refine gl_aload_n X dL_law_294 rfl 1 rfl ?_
  refine gl_iload X dL_law_295 5 rfl ?_
  refine gl_iconst (v := 5) X dL_law_297 rfl ?_
  refine gl_iadd X dL_law_298 hi4 (show i32 5 by decide) (by unfold i32; omega) ?_
  refine gl_sld X dL_law_299 (by omega) (by unfold i32; omega) ?_
  refine gl_ref X (ok_X12_forward l D (s.heap.size + 681) MR (xs (((6 * k : Nat) : Int) + 1).toNat).toInt (i32_of _) (xs (((6 * k : Nat) : Int) + 2).toNat).toInt (i32_of _) (xs (((6 * k : Nat) : Int) + 3).toNat).toInt (i32_of _) (xs (((6 * k : Nat) : Int) + 4).toNat).toInt (i32_of _) (xs (((6 * k : Nat) : Int) + 5).toNat).toInt (i32_of _)) h2 dL_law_300 ll86 (inL _ ll87) (inL _ ll88) (inW _ lw944) lw970 cy_X12_forward rfl ⟨Nat.le_of_ble_eq_true rfl, Nat.le_of_ble_eq_true rfl⟩ (Nat.le_of_ble_eq_true rfl) tr0 rfl rfl rfl rfl (Nat.le_of_ble_eq_true rfl) ⟨by show _ ≤ 601024; omega, by show _ ≤ 7293034; omega⟩ (fun hq9 => ?_)
  refine gl_istore (L' := [(6, .int (Ii q.1)), (5, .int (Ii (if r.1 = 1 then 1 else if r.1 = 2 then 2 else 0))), (0, .ref b), (1, .ref (s.heap.size + 0)), (2, .ref (s.heap.size + 681 + 0)), (3, .ref (s.heap.size + 748)), (4, .int (Ii ((6 * k : Nat) : Int)))]) X dL_law_303 (by decide) rfl ?_
  refine gl_aload_n X dL_law_305 rfl 4 rfl ?_
  refine gl_ref X (ok_X12_thrown l D (s.heap.size + 681) q.2) (r := (q.2 0 87, q.2)) rfl dL_law_306 ll81 (inL _ ll82) (inL _ ll83) (inW _ lw944) lw935 cy_X12_thrown rfl ⟨Nat.le_of_ble_eq_true rfl, Nat.le_of_ble_eq_true rfl⟩ (Nat.le_of_ble_eq_true rfl) tr0 rfl rfl rfl rfl (Nat.le_of_ble_eq_true rfl) ⟨by show _ ≤ 601024; omega, by show _ ≤ 7293034; omega⟩ (fun _ => ?_)
  refine gl_iload X dL_law_309 1 rfl ?_
  refine gl_icmp_eqT (tgt := 316) X dL_law_311 rfl h4 ?_
  refine gl_iload X dL_law_316 1 rfl ?_
  refine gl_if_ne (tgt := 333) X dL_law_318 rfl hcd (fun h0 => ?_) (fun h0 => ?_)
  · refine gl_goto (tgt := 1343) X dL_law_333 rfl ?_
    refine gl_sub [2, 3, 4, 5, 6] rfl ?_
    refine gl_widen (749 + 3 * (k + 1)) (24000 + 18 * (k + 1)) (by omega) (by omega) ?_
    exact tail _ _ _ h6
  · have hr0 : r.1 = 0 := by omega
    have hfo : (if r.1 = 0 then vp_updL fo 0 (Ll r.2.1) else fo) 0 = Ll r.2.1 := by rw [if_pos hr0]; rfl
    have hv9 : r.2.1 = q.1 := h5 hr0
    refine gl_aload_n X dL_law_321 rfl 5 rfl ?_
    refine gl_iconst (v := 0) X dL_law_322 rfl ?_
    refine gl_laload X dL_law_323 ?_
    rw [hfo]
    refine gl_iload X dL_law_324 0 rfl ?_
    refine gl_i2l X dL_law_326 hq9 ?_
    refine gl_lcmp X dL_law_327 (by rw [hv9]; exact i32_i64 hq9) (i32_i64 hq9) ?_
    rw [hv9]
    refine gl_if_eq (tgt := 333) X dL_law_328 rfl (i32_lcmp _ _) (fun hz => ?_) (fun hz => absurd (lcmp_same _) hz)
    refine gl_goto (tgt := 1343) X dL_law_333 rfl ?_
    refine gl_sub [2, 3, 4, 5, 6] rfl ?_
    refine gl_widen (749 + 3 * (k + 1)) (24000 + 18 * (k + 1)) (by omega) (by omega) ?_
    exact tail _ _ _ h6
set_option maxRecDepth 20000 in
theorem law_rule {p : Program} {l : Launch} {e : Env} {s : State} {m : MethodId} {below : List Frame} {meth : Method} {c : Code} {D : Dd} {b N : Nat} {xs : Nat → Int32} {Inv : Mm → Mm → Nat → Prop} (hl : l.stackTraces = false) (X : Ll_ p s m c D b N xs) (hS : S_rule Inv) {k : Nat} (hk : k < 512) (hN : 6 * k + 6 ≤ N) (hN2 : N ≤ 3072) (tail : ∀ (MC MR : Mm) (fo : Nat → Int64), Inv MC MR (k + 1) → Gl p l e s m b below meth c D (749 + 3 * (k + 1)) (24000 + 18 * (k + 1)) (lw_Z below #[Value.ref b] s) MC MR fo 1343 [(0, .ref b), (1, .ref (s.heap.size + 0)), (2, .ref (s.heap.size + 681 + 0)), (3, .ref (s.heap.size + 748)), (4, .int (Ii ((6 * k : Nat) : Int)))] []) (MC MR : Mm) (fo : Nat → Int64) (hI : Inv MC MR k) : Gl p l e s m b below meth c D (749 + 3 * k) (24000 + 18 * k) (lw_Z below #[Value.ref b] s) MC MR fo 336 [(0, .ref b), (1, .ref (s.heap.size + 0)), (2, .ref (s.heap.size + 681 + 0)), (3, .ref (s.heap.size + 748)), (4, .int (Ii ((6 * k : Nat) : Int)))] [] := by
  have hi4 : i32 ((6 * k : Nat) : Int) := by unfold i32; omega
  obtain ⟨r, q, h1, h2, h3, h4, h5, h6⟩ := hS MC MR k (xs (((6 * k : Nat) : Int) + 1).toNat).toInt (xs (((6 * k : Nat) : Int) + 2).toNat).toInt (xs (((6 * k : Nat) : Int) + 3).toNat).toInt (i32_of _) (i32_of _) (i32_of _) hI hk
  have hcd : i32 (if r.1 = 1 then 1 else if r.1 = 2 then 2 else 0) := by (repeat' split) <;> decide
  refine gl_aload_n X dL_law_336 rfl 1 rfl ?_
  refine gl_aload_n X dL_law_337 rfl 0 rfl ?_
  refine gl_iload X dL_law_338 4 rfl ?_
  refine gl_iconst (v := 1) X dL_law_340 rfl ?_
  refine gl_iadd X dL_law_341 hi4 (show i32 1 by decide) (by unfold i32; omega) ?_
  refine gl_sld X dL_law_342 (by omega) (by unfold i32; omega) ?_
  refine gl_aload_n X dL_law_343 rfl 0 rfl ?_
  refine gl_iload X dL_law_344 4 rfl ?_
  refine gl_iconst (v := 2) X dL_law_346 rfl ?_
  refine gl_iadd X dL_law_347 hi4 (show i32 2 by decide) (by unfold i32; omega) ?_
  refine gl_sld X dL_law_348 (by omega) (by unfold i32; omega) ?_
  refine gl_aload_n X dL_law_349 rfl 0 rfl ?_
  refine gl_iload X dL_law_350 4 rfl ?_
  refine gl_iconst (v := 3) X dL_law_352 rfl ?_
  refine gl_iadd X dL_law_353 hi4 (show i32 3 by decide) (by unfold i32; omega) ?_
  refine gl_sld X dL_law_354 (by omega) (by unfold i32; omega) ?_
  refine gl_aload_n X dL_law_355 rfl 3 rfl ?_
  refine gl_wrap (np := 5) X (fun sz => ok_L_rule l hl D s.heap.size s.heap.size (s.heap.size + 748) (Nat.le_refl _) (by omega) MC fo (xs (((6 * k : Nat) : Int) + 1).toNat).toInt (i32_of _) (xs (((6 * k : Nat) : Int) + 2).toNat).toInt (i32_of _) (xs (((6 * k : Nat) : Int) + 3).toNat).toInt (i32_of _) sz r h1 h3) dL_law_356 ll89 ll90 ll77 ll14 ⟨by decide +kernel, by decide +kernel, by decide +kernel⟩ ⟨Nat.le_of_ble_eq_true rfl, Nat.le_of_ble_eq_true rfl⟩ rfl rfl (Nat.le_of_ble_eq_true rfl) ⟨by show _ ≤ 601024; omega, by show _ ≤ 7293034; omega⟩ ?_
  refine gl_istore (L' := [(5, .int (Ii (if r.1 = 1 then 1 else if r.1 = 2 then 2 else 0))), (0, .ref b), (1, .ref (s.heap.size + 0)), (2, .ref (s.heap.size + 681 + 0)), (3, .ref (s.heap.size + 748)), (4, .int (Ii ((6 * k : Nat) : Int)))]) X dL_law_359 (by decide) rfl ?_
  refine gl_aload_n X dL_law_361 rfl 3 rfl ?_
  refine gl_aload_n X dL_law_362 rfl 1 rfl ?_
  refine gl_iload X dL_law_363 5 rfl ?_
  refine gl_iconst (v := 1) X dL_law_365 rfl ?_
  refine gl_iadd X dL_law_366 hi4 (show i32 1 by decide) (by unfold i32; omega) ?_
  refine gl_sld X dL_law_367 (by omega) (by unfold i32; omega) ?_
  refine gl_aload_n X dL_law_368 rfl 1 rfl ?_
  refine gl_iload X dL_law_369 5 rfl ?_
  refine gl_iconst (v := 2) X dL_law_371 rfl ?_
  refine gl_iadd X dL_law_372 hi4 (show i32 2 by decide) (by unfold i32; omega) ?_
  refine gl_sld X dL_law_373 (by omega) (by unfold i32; omega) ?_
  refine gl_aload_n X dL_law_374 rfl 1 rfl ?_
  refine gl_iload X dL_law_375 5 rfl ?_
  refine gl_iconst (v := 3) X dL_law_377 rfl ?_
  refine gl_iadd X dL_law_378 hi4 (show i32 3 by decide) (by unfold i32; omega) ?_
  refine gl_sld X dL_law_379 (by omega) (by unfold i32; omega) ?_
  refine gl_ref X (ok_X12_rule l D (s.heap.size + 681) MR (xs (((6 * k : Nat) : Int) + 1).toNat).toInt (i32_of _) (xs (((6 * k : Nat) : Int) + 2).toNat).toInt (i32_of _) (xs (((6 * k : Nat) : Int) + 3).toNat).toInt (i32_of _)) h2 dL_law_380 ll91 (inL _ ll92) (inL _ ll93) (inW _ lw944) lw974 cy_X12_rule rfl ⟨Nat.le_of_ble_eq_true rfl, Nat.le_of_ble_eq_true rfl⟩ (Nat.le_of_ble_eq_true rfl) tr0 rfl rfl rfl rfl (Nat.le_of_ble_eq_true rfl) ⟨by show _ ≤ 601024; omega, by show _ ≤ 7293034; omega⟩ (fun hq9 => ?_)
  refine gl_istore (L' := [(6, .int (Ii q.1)), (5, .int (Ii (if r.1 = 1 then 1 else if r.1 = 2 then 2 else 0))), (0, .ref b), (1, .ref (s.heap.size + 0)), (2, .ref (s.heap.size + 681 + 0)), (3, .ref (s.heap.size + 748)), (4, .int (Ii ((6 * k : Nat) : Int)))]) X dL_law_383 (by decide) rfl ?_
  refine gl_aload_n X dL_law_385 rfl 4 rfl ?_
  refine gl_ref X (ok_X12_thrown l D (s.heap.size + 681) q.2) (r := (q.2 0 87, q.2)) rfl dL_law_386 ll81 (inL _ ll82) (inL _ ll83) (inW _ lw944) lw935 cy_X12_thrown rfl ⟨Nat.le_of_ble_eq_true rfl, Nat.le_of_ble_eq_true rfl⟩ (Nat.le_of_ble_eq_true rfl) tr0 rfl rfl rfl rfl (Nat.le_of_ble_eq_true rfl) ⟨by show _ ≤ 601024; omega, by show _ ≤ 7293034; omega⟩ (fun _ => ?_)
  refine gl_iload X dL_law_389 1 rfl ?_
  refine gl_icmp_eqT (tgt := 396) X dL_law_391 rfl h4 ?_
  refine gl_iload X dL_law_396 1 rfl ?_
  refine gl_if_ne (tgt := 413) X dL_law_398 rfl hcd (fun h0 => ?_) (fun h0 => ?_)
  · refine gl_goto (tgt := 1343) X dL_law_413 rfl ?_
    refine gl_sub [2, 3, 4, 5, 6] rfl ?_
    refine gl_widen (749 + 3 * (k + 1)) (24000 + 18 * (k + 1)) (by omega) (by omega) ?_
    exact tail _ _ _ h6
  · have hr0 : r.1 = 0 := by omega
    have hfo : (if r.1 = 0 then vp_updL fo 0 (Ll r.2.1) else fo) 0 = Ll r.2.1 := by rw [if_pos hr0]; rfl
    have hv9 : r.2.1 = q.1 := h5 hr0
    refine gl_aload_n X dL_law_401 rfl 5 rfl ?_
    refine gl_iconst (v := 0) X dL_law_402 rfl ?_
    refine gl_laload X dL_law_403 ?_
    rw [hfo]
    refine gl_iload X dL_law_404 0 rfl ?_
    refine gl_i2l X dL_law_406 hq9 ?_
    refine gl_lcmp X dL_law_407 (by rw [hv9]; exact i32_i64 hq9) (i32_i64 hq9) ?_
    rw [hv9]
    refine gl_if_eq (tgt := 413) X dL_law_408 rfl (i32_lcmp _ _) (fun hz => ?_) (fun hz => absurd (lcmp_same _) hz)
    refine gl_goto (tgt := 1343) X dL_law_413 rfl ?_
    refine gl_sub [2, 3, 4, 5, 6] rfl ?_
    refine gl_widen (749 + 3 * (k + 1)) (24000 + 18 * (k + 1)) (by omega) (by omega) ?_
    exact tail _ _ _ h6
set_option maxRecDepth 20000 in
theorem law_attribute {p : Program} {l : Launch} {e : Env} {s : State} {m : MethodId} {below : List Frame} {meth : Method} {c : Code} {D : Dd} {b N : Nat} {xs : Nat → Int32} {Inv : Mm → Mm → Nat → Prop} (hl : l.stackTraces = false) (X : Ll_ p s m c D b N xs) (hS : S_attribute Inv) {k : Nat} (hk : k < 512) (hN : 6 * k + 6 ≤ N) (hN2 : N ≤ 3072) (tail : ∀ (MC MR : Mm) (fo : Nat → Int64), Inv MC MR (k + 1) → Gl p l e s m b below meth c D (749 + 3 * (k + 1)) (24000 + 18 * (k + 1)) (lw_Z below #[Value.ref b] s) MC MR fo 1343 [(0, .ref b), (1, .ref (s.heap.size + 0)), (2, .ref (s.heap.size + 681 + 0)), (3, .ref (s.heap.size + 748)), (4, .int (Ii ((6 * k : Nat) : Int)))] []) (MC MR : Mm) (fo : Nat → Int64) (hI : Inv MC MR k) : Gl p l e s m b below meth c D (749 + 3 * k) (24000 + 18 * k) (lw_Z below #[Value.ref b] s) MC MR fo 416 [(0, .ref b), (1, .ref (s.heap.size + 0)), (2, .ref (s.heap.size + 681 + 0)), (3, .ref (s.heap.size + 748)), (4, .int (Ii ((6 * k : Nat) : Int)))] [] := by
  have hi4 : i32 ((6 * k : Nat) : Int) := by unfold i32; omega
  obtain ⟨r, q, h1, h2, h3, h4, h5, h6⟩ := hS MC MR k (xs (((6 * k : Nat) : Int) + 1).toNat).toInt (i32_of _) hI hk
  have hcd : i32 (if r.1 = 2 then 1 else if r.1 = 3 then 2 else 0) := by (repeat' split) <;> decide
  refine gl_aload_n X dL_law_416 rfl 1 rfl ?_
  refine gl_aload_n X dL_law_417 rfl 0 rfl ?_
  refine gl_iload X dL_law_418 4 rfl ?_
  refine gl_iconst (v := 1) X dL_law_420 rfl ?_
  refine gl_iadd X dL_law_421 hi4 (show i32 1 by decide) (by unfold i32; omega) ?_
  refine gl_sld X dL_law_422 (by omega) (by unfold i32; omega) ?_
  refine gl_aload_n X dL_law_423 rfl 3 rfl ?_
  refine gl_wrap (np := 3) X (fun sz => ok_L_attribute l hl D s.heap.size s.heap.size (s.heap.size + 748) (Nat.le_refl _) (by omega) MC fo (xs (((6 * k : Nat) : Int) + 1).toNat).toInt (i32_of _) sz r h1 h3) dL_law_424 ll94 ll95 ll77 ll18 ⟨by decide +kernel, by decide +kernel, by decide +kernel⟩ ⟨Nat.le_of_ble_eq_true rfl, Nat.le_of_ble_eq_true rfl⟩ rfl rfl (Nat.le_of_ble_eq_true rfl) ⟨by show _ ≤ 601024; omega, by show _ ≤ 7293034; omega⟩ ?_
  refine gl_istore (L' := [(5, .int (Ii (if r.1 = 2 then 1 else if r.1 = 3 then 2 else 0))), (0, .ref b), (1, .ref (s.heap.size + 0)), (2, .ref (s.heap.size + 681 + 0)), (3, .ref (s.heap.size + 748)), (4, .int (Ii ((6 * k : Nat) : Int)))]) X dL_law_427 (by decide) rfl ?_
  refine gl_aload_n X dL_law_429 rfl 3 rfl ?_
  refine gl_aload_n X dL_law_430 rfl 1 rfl ?_
  refine gl_iload X dL_law_431 5 rfl ?_
  refine gl_iconst (v := 1) X dL_law_433 rfl ?_
  refine gl_iadd X dL_law_434 hi4 (show i32 1 by decide) (by unfold i32; omega) ?_
  refine gl_sld X dL_law_435 (by omega) (by unfold i32; omega) ?_
  refine gl_ref X (ok_X12_attribute l D (s.heap.size + 681) MR (xs (((6 * k : Nat) : Int) + 1).toNat).toInt (i32_of _)) h2 dL_law_436 ll96 (inL _ ll97) (inL _ ll98) (inW _ lw944) lw975 cy_X12_attribute rfl ⟨Nat.le_of_ble_eq_true rfl, Nat.le_of_ble_eq_true rfl⟩ (Nat.le_of_ble_eq_true rfl) tr0 rfl rfl rfl rfl (Nat.le_of_ble_eq_true rfl) ⟨by show _ ≤ 601024; omega, by show _ ≤ 7293034; omega⟩ (fun hq9 => ?_)
  refine gl_istore (L' := [(6, .int (Ii q.1)), (5, .int (Ii (if r.1 = 2 then 1 else if r.1 = 3 then 2 else 0))), (0, .ref b), (1, .ref (s.heap.size + 0)), (2, .ref (s.heap.size + 681 + 0)), (3, .ref (s.heap.size + 748)), (4, .int (Ii ((6 * k : Nat) : Int)))]) X dL_law_439 (by decide) rfl ?_
  refine gl_aload_n X dL_law_441 rfl 4 rfl ?_
  refine gl_ref X (ok_X12_thrown l D (s.heap.size + 681) q.2) (r := (q.2 0 87, q.2)) rfl dL_law_442 ll81 (inL _ ll82) (inL _ ll83) (inW _ lw944) lw935 cy_X12_thrown rfl ⟨Nat.le_of_ble_eq_true rfl, Nat.le_of_ble_eq_true rfl⟩ (Nat.le_of_ble_eq_true rfl) tr0 rfl rfl rfl rfl (Nat.le_of_ble_eq_true rfl) ⟨by show _ ≤ 601024; omega, by show _ ≤ 7293034; omega⟩ (fun _ => ?_)
  refine gl_iload X dL_law_445 1 rfl ?_
  refine gl_icmp_eqT (tgt := 452) X dL_law_447 rfl h4 ?_
  refine gl_iload X dL_law_452 1 rfl ?_
  refine gl_if_ne (tgt := 469) X dL_law_454 rfl hcd (fun h0 => ?_) (fun h0 => ?_)
  · refine gl_goto (tgt := 1343) X dL_law_469 rfl ?_
    refine gl_sub [2, 3, 4, 5, 6] rfl ?_
    refine gl_widen (749 + 3 * (k + 1)) (24000 + 18 * (k + 1)) (by omega) (by omega) ?_
    exact tail _ _ _ h6
  · have hr0 : r.1 = 0 := by omega
    have hfo : (if r.1 = 0 then vp_updL fo 0 (Ll r.2.1) else fo) 0 = Ll r.2.1 := by rw [if_pos hr0]; rfl
    have hv9 : r.2.1 = q.1 := h5 hr0
    refine gl_aload_n X dL_law_457 rfl 5 rfl ?_
    refine gl_iconst (v := 0) X dL_law_458 rfl ?_
    refine gl_laload X dL_law_459 ?_
    rw [hfo]
    refine gl_iload X dL_law_460 0 rfl ?_
    refine gl_i2l X dL_law_462 hq9 ?_
    refine gl_lcmp X dL_law_463 (by rw [hv9]; exact i32_i64 hq9) (i32_i64 hq9) ?_
    rw [hv9]
    refine gl_if_eq (tgt := 469) X dL_law_464 rfl (i32_lcmp _ _) (fun hz => ?_) (fun hz => absurd (lcmp_same _) hz)
    refine gl_goto (tgt := 1343) X dL_law_469 rfl ?_
    refine gl_sub [2, 3, 4, 5, 6] rfl ?_
    refine gl_widen (749 + 3 * (k + 1)) (24000 + 18 * (k + 1)) (by omega) (by omega) ?_
    exact tail _ _ _ h6
set_option maxRecDepth 20000 in
theorem law_step {p : Program} {l : Launch} {e : Env} {s : State} {m : MethodId} {below : List Frame} {meth : Method} {c : Code} {D : Dd} {b N : Nat} {xs : Nat → Int32} {Inv : Mm → Mm → Nat → Prop} (hl : l.stackTraces = false) (X : Ll_ p s m c D b N xs) (hS : S_step Inv) {k : Nat} (hk : k < 512) (hN : 6 * k + 6 ≤ N) (hN2 : N ≤ 3072) (tail : ∀ (MC MR : Mm) (fo : Nat → Int64), Inv MC MR (k + 1) → Gl p l e s m b below meth c D (749 + 3 * (k + 1)) (24000 + 18 * (k + 1)) (lw_Z below #[Value.ref b] s) MC MR fo 1343 [(0, .ref b), (1, .ref (s.heap.size + 0)), (2, .ref (s.heap.size + 681 + 0)), (3, .ref (s.heap.size + 748)), (4, .int (Ii ((6 * k : Nat) : Int)))] []) (MC MR : Mm) (fo : Nat → Int64) (hI : Inv MC MR k) : Gl p l e s m b below meth c D (749 + 3 * k) (24000 + 18 * k) (lw_Z below #[Value.ref b] s) MC MR fo 472 [(0, .ref b), (1, .ref (s.heap.size + 0)), (2, .ref (s.heap.size + 681 + 0)), (3, .ref (s.heap.size + 748)), (4, .int (Ii ((6 * k : Nat) : Int)))] [] := by
  have hi4 : i32 ((6 * k : Nat) : Int) := by unfold i32; omega
  obtain ⟨r, q, h1, h2, h3, h4, h5, h6⟩ := hS MC MR k (xs (((6 * k : Nat) : Int) + 1).toNat).toInt (xs (((6 * k : Nat) : Int) + 2).toNat).toInt (xs (((6 * k : Nat) : Int) + 3).toNat).toInt (i32_of _) (i32_of _) (i32_of _) hI hk
  have hcd : i32 (if r.1 = 1 then 1 else if r.1 = 2 then 2 else if r.1 = 3 then 3 else 0) := by (repeat' split) <;> decide
  refine gl_aload_n X dL_law_472 rfl 1 rfl ?_
  refine gl_aload_n X dL_law_473 rfl 0 rfl ?_
  refine gl_iload X dL_law_474 4 rfl ?_
  refine gl_iconst (v := 1) X dL_law_476 rfl ?_
  refine gl_iadd X dL_law_477 hi4 (show i32 1 by decide) (by unfold i32; omega) ?_
  refine gl_sld X dL_law_478 (by omega) (by unfold i32; omega) ?_
  refine gl_aload_n X dL_law_479 rfl 0 rfl ?_
  refine gl_iload X dL_law_480 4 rfl ?_
  refine gl_iconst (v := 2) X dL_law_482 rfl ?_
  refine gl_iadd X dL_law_483 hi4 (show i32 2 by decide) (by unfold i32; omega) ?_
  refine gl_sld X dL_law_484 (by omega) (by unfold i32; omega) ?_
  refine gl_aload_n X dL_law_485 rfl 0 rfl ?_
  refine gl_iload X dL_law_486 4 rfl ?_
  refine gl_iconst (v := 3) X dL_law_488 rfl ?_
  refine gl_iadd X dL_law_489 hi4 (show i32 3 by decide) (by unfold i32; omega) ?_
  refine gl_sld X dL_law_490 (by omega) (by unfold i32; omega) ?_
  refine gl_aload_n X dL_law_491 rfl 3 rfl ?_
  refine gl_wrap (np := 5) X (fun sz => ok_L_step l hl D s.heap.size s.heap.size (s.heap.size + 748) (Nat.le_refl _) (by omega) MC fo (xs (((6 * k : Nat) : Int) + 1).toNat).toInt (i32_of _) (xs (((6 * k : Nat) : Int) + 2).toNat).toInt (i32_of _) (xs (((6 * k : Nat) : Int) + 3).toNat).toInt (i32_of _) sz r h1 h3) dL_law_492 ll99 ll100 ll77 ll22 ⟨by decide +kernel, by decide +kernel, by decide +kernel⟩ ⟨Nat.le_of_ble_eq_true rfl, Nat.le_of_ble_eq_true rfl⟩ rfl rfl (Nat.le_of_ble_eq_true rfl) ⟨by show _ ≤ 601024; omega, by show _ ≤ 7293034; omega⟩ ?_
  refine gl_istore (L' := [(5, .int (Ii (if r.1 = 1 then 1 else if r.1 = 2 then 2 else if r.1 = 3 then 3 else 0))), (0, .ref b), (1, .ref (s.heap.size + 0)), (2, .ref (s.heap.size + 681 + 0)), (3, .ref (s.heap.size + 748)), (4, .int (Ii ((6 * k : Nat) : Int)))]) X dL_law_495 (by decide) rfl ?_
  refine gl_aload_n X dL_law_497 rfl 3 rfl ?_
  refine gl_aload_n X dL_law_498 rfl 1 rfl ?_
  refine gl_iload X dL_law_499 5 rfl ?_
  refine gl_iconst (v := 1) X dL_law_501 rfl ?_
  refine gl_iadd X dL_law_502 hi4 (show i32 1 by decide) (by unfold i32; omega) ?_
  refine gl_sld X dL_law_503 (by omega) (by unfold i32; omega) ?_
  refine gl_aload_n X dL_law_504 rfl 1 rfl ?_
  refine gl_iload X dL_law_505 5 rfl ?_
  refine gl_iconst (v := 2) X dL_law_507 rfl ?_
  refine gl_iadd X dL_law_508 hi4 (show i32 2 by decide) (by unfold i32; omega) ?_
  refine gl_sld X dL_law_509 (by omega) (by unfold i32; omega) ?_
  refine gl_aload_n X dL_law_510 rfl 1 rfl ?_
  refine gl_iload X dL_law_511 5 rfl ?_
  refine gl_iconst (v := 3) X dL_law_513 rfl ?_
  refine gl_iadd X dL_law_514 hi4 (show i32 3 by decide) (by unfold i32; omega) ?_
  refine gl_sld X dL_law_515 (by omega) (by unfold i32; omega) ?_
  refine gl_ref X (ok_X12_step l D (s.heap.size + 681) MR (xs (((6 * k : Nat) : Int) + 1).toNat).toInt (i32_of _) (xs (((6 * k : Nat) : Int) + 2).toNat).toInt (i32_of _) (xs (((6 * k : Nat) : Int) + 3).toNat).toInt (i32_of _)) h2 dL_law_516 ll101 (inL _ ll102) (inL _ ll103) (inW _ lw944) lw984 cy_X12_step rfl ⟨Nat.le_of_ble_eq_true rfl, Nat.le_of_ble_eq_true rfl⟩ (Nat.le_of_ble_eq_true rfl) tr0 rfl rfl rfl rfl (Nat.le_of_ble_eq_true rfl) ⟨by show _ ≤ 601024; omega, by show _ ≤ 7293034; omega⟩ (fun hq9 => ?_)
  refine gl_istore (L' := [(6, .int (Ii q.1)), (5, .int (Ii (if r.1 = 1 then 1 else if r.1 = 2 then 2 else if r.1 = 3 then 3 else 0))), (0, .ref b), (1, .ref (s.heap.size + 0)), (2, .ref (s.heap.size + 681 + 0)), (3, .ref (s.heap.size + 748)), (4, .int (Ii ((6 * k : Nat) : Int)))]) X dL_law_519 (by decide) rfl ?_
  refine gl_aload_n X dL_law_521 rfl 4 rfl ?_
  refine gl_ref X (ok_X12_thrown l D (s.heap.size + 681) q.2) (r := (q.2 0 87, q.2)) rfl dL_law_522 ll81 (inL _ ll82) (inL _ ll83) (inW _ lw944) lw935 cy_X12_thrown rfl ⟨Nat.le_of_ble_eq_true rfl, Nat.le_of_ble_eq_true rfl⟩ (Nat.le_of_ble_eq_true rfl) tr0 rfl rfl rfl rfl (Nat.le_of_ble_eq_true rfl) ⟨by show _ ≤ 601024; omega, by show _ ≤ 7293034; omega⟩ (fun _ => ?_)
  refine gl_iload X dL_law_525 1 rfl ?_
  refine gl_icmp_eqT (tgt := 532) X dL_law_527 rfl h4 ?_
  refine gl_iload X dL_law_532 1 rfl ?_
  refine gl_if_ne (tgt := 549) X dL_law_534 rfl hcd (fun h0 => ?_) (fun h0 => ?_)
  · refine gl_goto (tgt := 1343) X dL_law_549 rfl ?_
    refine gl_sub [2, 3, 4, 5, 6] rfl ?_
    refine gl_widen (749 + 3 * (k + 1)) (24000 + 18 * (k + 1)) (by omega) (by omega) ?_
    exact tail _ _ _ h6
  · have hr0 : r.1 = 0 := by omega
    have hfo : (if r.1 = 0 then vp_updL fo 0 (Ll r.2.1) else fo) 0 = Ll r.2.1 := by rw [if_pos hr0]; rfl
    have hv9 : r.2.1 = q.1 := h5 hr0
    refine gl_aload_n X dL_law_537 rfl 5 rfl ?_
    refine gl_iconst (v := 0) X dL_law_538 rfl ?_
    refine gl_laload X dL_law_539 ?_
    rw [hfo]
    refine gl_iload X dL_law_540 0 rfl ?_
    refine gl_i2l X dL_law_542 hq9 ?_
    refine gl_lcmp X dL_law_543 (by rw [hv9]; exact i32_i64 hq9) (i32_i64 hq9) ?_
    rw [hv9]
    refine gl_if_eq (tgt := 549) X dL_law_544 rfl (i32_lcmp _ _) (fun hz => ?_) (fun hz => absurd (lcmp_same _) hz)
    refine gl_goto (tgt := 1343) X dL_law_549 rfl ?_
    refine gl_sub [2, 3, 4, 5, 6] rfl ?_
    refine gl_widen (749 + 3 * (k + 1)) (24000 + 18 * (k + 1)) (by omega) (by omega) ?_
    exact tail _ _ _ h6
set_option maxRecDepth 20000 in
theorem law_dropSteps {p : Program} {l : Launch} {e : Env} {s : State} {m : MethodId} {below : List Frame} {meth : Method} {c : Code} {D : Dd} {b N : Nat} {xs : Nat → Int32} {Inv : Mm → Mm → Nat → Prop} (hl : l.stackTraces = false) (X : Ll_ p s m c D b N xs) (hS : S_dropSteps Inv) {k : Nat} (hk : k < 512) (hN : 6 * k + 6 ≤ N) (hN2 : N ≤ 3072) (tail : ∀ (MC MR : Mm) (fo : Nat → Int64), Inv MC MR (k + 1) → Gl p l e s m b below meth c D (749 + 3 * (k + 1)) (24000 + 18 * (k + 1)) (lw_Z below #[Value.ref b] s) MC MR fo 1343 [(0, .ref b), (1, .ref (s.heap.size + 0)), (2, .ref (s.heap.size + 681 + 0)), (3, .ref (s.heap.size + 748)), (4, .int (Ii ((6 * k : Nat) : Int)))] []) (MC MR : Mm) (fo : Nat → Int64) (hI : Inv MC MR k) : Gl p l e s m b below meth c D (749 + 3 * k) (24000 + 18 * k) (lw_Z below #[Value.ref b] s) MC MR fo 552 [(0, .ref b), (1, .ref (s.heap.size + 0)), (2, .ref (s.heap.size + 681 + 0)), (3, .ref (s.heap.size + 748)), (4, .int (Ii ((6 * k : Nat) : Int)))] [] := by
  have hi4 : i32 ((6 * k : Nat) : Int) := by unfold i32; omega
  obtain ⟨r, q, h1, h2, h3, h6⟩ := hS MC MR k hI hk
  refine gl_aload_n X dL_law_552 rfl 1 rfl ?_
  refine gl_class X (ok_X11_dropSteps l D s.heap.size MC) h1 dL_law_553 ll104 (inL _ ll105) (inL _ ll106) (inW _ lw19) lw761 cy_X11_dropSteps rfl ⟨Nat.le_of_ble_eq_true rfl, Nat.le_of_ble_eq_true rfl⟩ (Nat.le_of_ble_eq_true rfl) tc0 rfl rfl rfl rfl (Nat.le_of_ble_eq_true rfl) ⟨by show _ ≤ 601024; omega, by show _ ≤ 7293034; omega⟩ (fun _ => ?_)
  refine gl_aload_n X dL_law_556 rfl 2 rfl ?_
  refine gl_ref X (ok_X12_dropSteps l D (s.heap.size + 681) MR) h2 dL_law_557 ll107 (inL _ ll108) (inL _ ll109) (inW _ lw944) lw985 cy_X12_dropSteps rfl ⟨Nat.le_of_ble_eq_true rfl, Nat.le_of_ble_eq_true rfl⟩ (Nat.le_of_ble_eq_true rfl) tr0 rfl rfl rfl rfl (Nat.le_of_ble_eq_true rfl) ⟨by show _ ≤ 601024; omega, by show _ ≤ 7293034; omega⟩ (fun hq9 => ?_)
  refine gl_icmp_eqT (tgt := 1343) X dL_law_560 rfl h3 ?_
  refine gl_widen (749 + 3 * (k + 1)) (24000 + 18 * (k + 1)) (by omega) (by omega) ?_
  exact tail _ _ _ h6
set_option maxRecDepth 20000 in
theorem law_equation {p : Program} {l : Launch} {e : Env} {s : State} {m : MethodId} {below : List Frame} {meth : Method} {c : Code} {D : Dd} {b N : Nat} {xs : Nat → Int32} {Inv : Mm → Mm → Nat → Prop} (hl : l.stackTraces = false) (X : Ll_ p s m c D b N xs) (hS : S_equation Inv) {k : Nat} (hk : k < 512) (hN : 6 * k + 6 ≤ N) (hN2 : N ≤ 3072) (tail : ∀ (MC MR : Mm) (fo : Nat → Int64), Inv MC MR (k + 1) → Gl p l e s m b below meth c D (749 + 3 * (k + 1)) (24000 + 18 * (k + 1)) (lw_Z below #[Value.ref b] s) MC MR fo 1343 [(0, .ref b), (1, .ref (s.heap.size + 0)), (2, .ref (s.heap.size + 681 + 0)), (3, .ref (s.heap.size + 748)), (4, .int (Ii ((6 * k : Nat) : Int)))] []) (MC MR : Mm) (fo : Nat → Int64) (hI : Inv MC MR k) : Gl p l e s m b below meth c D (749 + 3 * k) (24000 + 18 * k) (lw_Z below #[Value.ref b] s) MC MR fo 565 [(0, .ref b), (1, .ref (s.heap.size + 0)), (2, .ref (s.heap.size + 681 + 0)), (3, .ref (s.heap.size + 748)), (4, .int (Ii ((6 * k : Nat) : Int)))] [] := by
  have hi4 : i32 ((6 * k : Nat) : Int) := by unfold i32; omega
  obtain ⟨r, q, h1, h2, h3, h4, h5, h6⟩ := hS MC MR k (xs (((6 * k : Nat) : Int) + 1).toNat).toInt (xs (((6 * k : Nat) : Int) + 2).toNat).toInt (xs (((6 * k : Nat) : Int) + 3).toNat).toInt (xs (((6 * k : Nat) : Int) + 4).toNat).toInt (i32_of _) (i32_of _) (i32_of _) (i32_of _) hI hk
  have hcd : i32 (if r.1 = 1 then 1 else if r.1 = 2 then 2 else if r.1 = 3 then 3 else 0) := by (repeat' split) <;> decide
  refine gl_aload_n X dL_law_565 rfl 1 rfl ?_
  refine gl_aload_n X dL_law_566 rfl 0 rfl ?_
  refine gl_iload X dL_law_567 4 rfl ?_
  refine gl_iconst (v := 1) X dL_law_569 rfl ?_
  refine gl_iadd X dL_law_570 hi4 (show i32 1 by decide) (by unfold i32; omega) ?_
  refine gl_sld X dL_law_571 (by omega) (by unfold i32; omega) ?_
  refine gl_aload_n X dL_law_572 rfl 0 rfl ?_
  refine gl_iload X dL_law_573 4 rfl ?_
  refine gl_iconst (v := 2) X dL_law_575 rfl ?_
  refine gl_iadd X dL_law_576 hi4 (show i32 2 by decide) (by unfold i32; omega) ?_
  refine gl_sld X dL_law_577 (by omega) (by unfold i32; omega) ?_
  refine gl_aload_n X dL_law_578 rfl 0 rfl ?_
  refine gl_iload X dL_law_579 4 rfl ?_
  refine gl_iconst (v := 3) X dL_law_581 rfl ?_
  refine gl_iadd X dL_law_582 hi4 (show i32 3 by decide) (by unfold i32; omega) ?_
  refine gl_sld X dL_law_583 (by omega) (by unfold i32; omega) ?_
  refine gl_aload_n X dL_law_584 rfl 0 rfl ?_
  refine gl_iload X dL_law_585 4 rfl ?_
  refine gl_iconst (v := 4) X dL_law_587 rfl ?_
  refine gl_iadd X dL_law_588 hi4 (show i32 4 by decide) (by unfold i32; omega) ?_
  refine gl_sld X dL_law_589 (by omega) (by unfold i32; omega) ?_
  refine gl_aload_n X dL_law_590 rfl 3 rfl ?_
  refine gl_wrap (np := 6) X (fun sz => ok_L_equation l hl D s.heap.size s.heap.size (s.heap.size + 748) (Nat.le_refl _) (by omega) MC fo (xs (((6 * k : Nat) : Int) + 1).toNat).toInt (i32_of _) (xs (((6 * k : Nat) : Int) + 2).toNat).toInt (i32_of _) (xs (((6 * k : Nat) : Int) + 3).toNat).toInt (i32_of _) (xs (((6 * k : Nat) : Int) + 4).toNat).toInt (i32_of _) sz r h1 h3) dL_law_591 ll110 ll111 ll77 ll26 ⟨by decide +kernel, by decide +kernel, by decide +kernel⟩ ⟨Nat.le_of_ble_eq_true rfl, Nat.le_of_ble_eq_true rfl⟩ rfl rfl (Nat.le_of_ble_eq_true rfl) ⟨by show _ ≤ 601024; omega, by show _ ≤ 7293034; omega⟩ ?_
  refine gl_istore (L' := [(5, .int (Ii (if r.1 = 1 then 1 else if r.1 = 2 then 2 else if r.1 = 3 then 3 else 0))), (0, .ref b), (1, .ref (s.heap.size + 0)), (2, .ref (s.heap.size + 681 + 0)), (3, .ref (s.heap.size + 748)), (4, .int (Ii ((6 * k : Nat) : Int)))]) X dL_law_594 (by decide) rfl ?_
  refine gl_aload_n X dL_law_596 rfl 3 rfl ?_
  refine gl_aload_n X dL_law_597 rfl 1 rfl ?_
  refine gl_iload X dL_law_598 5 rfl ?_
  refine gl_iconst (v := 1) X dL_law_600 rfl ?_
  refine gl_iadd X dL_law_601 hi4 (show i32 1 by decide) (by unfold i32; omega) ?_
  refine gl_sld X dL_law_602 (by omega) (by unfold i32; omega) ?_
  refine gl_aload_n X dL_law_603 rfl 1 rfl ?_
  refine gl_iload X dL_law_604 5 rfl ?_
  refine gl_iconst (v := 2) X dL_law_606 rfl ?_
  refine gl_iadd X dL_law_607 hi4 (show i32 2 by decide) (by unfold i32; omega) ?_
  refine gl_sld X dL_law_608 (by omega) (by unfold i32; omega) ?_
  refine gl_aload_n X dL_law_609 rfl 1 rfl ?_
  refine gl_iload X dL_law_610 5 rfl ?_
  refine gl_iconst (v := 3) X dL_law_612 rfl ?_
  refine gl_iadd X dL_law_613 hi4 (show i32 3 by decide) (by unfold i32; omega) ?_
  refine gl_sld X dL_law_614 (by omega) (by unfold i32; omega) ?_
  refine gl_aload_n X dL_law_615 rfl 1 rfl ?_
  refine gl_iload X dL_law_616 5 rfl ?_
  refine gl_iconst (v := 4) X dL_law_618 rfl ?_
  refine gl_iadd X dL_law_619 hi4 (show i32 4 by decide) (by unfold i32; omega) ?_
  refine gl_sld X dL_law_620 (by omega) (by unfold i32; omega) ?_
  refine gl_ref X (ok_X12_equation l D (s.heap.size + 681) MR (xs (((6 * k : Nat) : Int) + 1).toNat).toInt (i32_of _) (xs (((6 * k : Nat) : Int) + 2).toNat).toInt (i32_of _) (xs (((6 * k : Nat) : Int) + 3).toNat).toInt (i32_of _) (xs (((6 * k : Nat) : Int) + 4).toNat).toInt (i32_of _)) h2 dL_law_621 ll112 (inL _ ll113) (inL _ ll114) (inW _ lw944) lw991 cy_X12_equation rfl ⟨Nat.le_of_ble_eq_true rfl, Nat.le_of_ble_eq_true rfl⟩ (Nat.le_of_ble_eq_true rfl) tr0 rfl rfl rfl rfl (Nat.le_of_ble_eq_true rfl) ⟨by show _ ≤ 601024; omega, by show _ ≤ 7293034; omega⟩ (fun hq9 => ?_)
  refine gl_istore (L' := [(6, .int (Ii q.1)), (5, .int (Ii (if r.1 = 1 then 1 else if r.1 = 2 then 2 else if r.1 = 3 then 3 else 0))), (0, .ref b), (1, .ref (s.heap.size + 0)), (2, .ref (s.heap.size + 681 + 0)), (3, .ref (s.heap.size + 748)), (4, .int (Ii ((6 * k : Nat) : Int)))]) X dL_law_624 (by decide) rfl ?_
  refine gl_aload_n X dL_law_626 rfl 4 rfl ?_
  refine gl_ref X (ok_X12_thrown l D (s.heap.size + 681) q.2) (r := (q.2 0 87, q.2)) rfl dL_law_627 ll81 (inL _ ll82) (inL _ ll83) (inW _ lw944) lw935 cy_X12_thrown rfl ⟨Nat.le_of_ble_eq_true rfl, Nat.le_of_ble_eq_true rfl⟩ (Nat.le_of_ble_eq_true rfl) tr0 rfl rfl rfl rfl (Nat.le_of_ble_eq_true rfl) ⟨by show _ ≤ 601024; omega, by show _ ≤ 7293034; omega⟩ (fun _ => ?_)
  refine gl_iload X dL_law_630 1 rfl ?_
  refine gl_icmp_eqT (tgt := 637) X dL_law_632 rfl h4 ?_
  refine gl_iload X dL_law_637 1 rfl ?_
  refine gl_if_ne (tgt := 654) X dL_law_639 rfl hcd (fun h0 => ?_) (fun h0 => ?_)
  · refine gl_goto (tgt := 1343) X dL_law_654 rfl ?_
    refine gl_sub [2, 3, 4, 5, 6] rfl ?_
    refine gl_widen (749 + 3 * (k + 1)) (24000 + 18 * (k + 1)) (by omega) (by omega) ?_
    exact tail _ _ _ h6
  · have hr0 : r.1 = 0 := by omega
    have hfo : (if r.1 = 0 then vp_updL fo 0 (Ll r.2.1) else fo) 0 = Ll r.2.1 := by rw [if_pos hr0]; rfl
    have hv9 : r.2.1 = q.1 := h5 hr0
    refine gl_aload_n X dL_law_642 rfl 5 rfl ?_
    refine gl_iconst (v := 0) X dL_law_643 rfl ?_
    refine gl_laload X dL_law_644 ?_
    rw [hfo]
    refine gl_iload X dL_law_645 0 rfl ?_
    refine gl_i2l X dL_law_647 hq9 ?_
    refine gl_lcmp X dL_law_648 (by rw [hv9]; exact i32_i64 hq9) (i32_i64 hq9) ?_
    rw [hv9]
    refine gl_if_eq (tgt := 654) X dL_law_649 rfl (i32_lcmp _ _) (fun hz => ?_) (fun hz => absurd (lcmp_same _) hz)
    refine gl_goto (tgt := 1343) X dL_law_654 rfl ?_
    refine gl_sub [2, 3, 4, 5, 6] rfl ?_
    refine gl_widen (749 + 3 * (k + 1)) (24000 + 18 * (k + 1)) (by omega) (by omega) ?_
    exact tail _ _ _ h6
set_option maxRecDepth 20000 in
theorem law_toggle {p : Program} {l : Launch} {e : Env} {s : State} {m : MethodId} {below : List Frame} {meth : Method} {c : Code} {D : Dd} {b N : Nat} {xs : Nat → Int32} {Inv : Mm → Mm → Nat → Prop} (hl : l.stackTraces = false) (X : Ll_ p s m c D b N xs) (hS : S_toggle Inv) {k : Nat} (hk : k < 512) (hN : 6 * k + 6 ≤ N) (hN2 : N ≤ 3072) (tail : ∀ (MC MR : Mm) (fo : Nat → Int64), Inv MC MR (k + 1) → Gl p l e s m b below meth c D (749 + 3 * (k + 1)) (24000 + 18 * (k + 1)) (lw_Z below #[Value.ref b] s) MC MR fo 1343 [(0, .ref b), (1, .ref (s.heap.size + 0)), (2, .ref (s.heap.size + 681 + 0)), (3, .ref (s.heap.size + 748)), (4, .int (Ii ((6 * k : Nat) : Int)))] []) (MC MR : Mm) (fo : Nat → Int64) (hI : Inv MC MR k) : Gl p l e s m b below meth c D (749 + 3 * k) (24000 + 18 * k) (lw_Z below #[Value.ref b] s) MC MR fo 657 [(0, .ref b), (1, .ref (s.heap.size + 0)), (2, .ref (s.heap.size + 681 + 0)), (3, .ref (s.heap.size + 748)), (4, .int (Ii ((6 * k : Nat) : Int)))] [] := by
  have hi4 : i32 ((6 * k : Nat) : Int) := by unfold i32; omega
  obtain ⟨r, q, h1, h2, h3, h4, h5, h6⟩ := hS MC MR k (xs (((6 * k : Nat) : Int) + 1).toNat).toInt (i32_of _) hI hk
  have hcd : i32 (if r.1 = 1 then 1 else 0) := by (repeat' split) <;> decide
  refine gl_aload_n X dL_law_657 rfl 1 rfl ?_
  refine gl_aload_n X dL_law_658 rfl 0 rfl ?_
  refine gl_iload X dL_law_659 4 rfl ?_
  refine gl_iconst (v := 1) X dL_law_661 rfl ?_
  refine gl_iadd X dL_law_662 hi4 (show i32 1 by decide) (by unfold i32; omega) ?_
  refine gl_sld X dL_law_663 (by omega) (by unfold i32; omega) ?_
  refine gl_aload_n X dL_law_664 rfl 3 rfl ?_
  refine gl_wrap (np := 3) X (fun sz => ok_L_toggle l hl D s.heap.size s.heap.size (s.heap.size + 748) (Nat.le_refl _) (by omega) MC fo (xs (((6 * k : Nat) : Int) + 1).toNat).toInt (i32_of _) sz r h1 h3) dL_law_665 ll115 ll116 ll77 ll30 ⟨by decide +kernel, by decide +kernel, by decide +kernel⟩ ⟨Nat.le_of_ble_eq_true rfl, Nat.le_of_ble_eq_true rfl⟩ rfl rfl (Nat.le_of_ble_eq_true rfl) ⟨by show _ ≤ 601024; omega, by show _ ≤ 7293034; omega⟩ ?_
  refine gl_istore (L' := [(5, .int (Ii (if r.1 = 1 then 1 else 0))), (0, .ref b), (1, .ref (s.heap.size + 0)), (2, .ref (s.heap.size + 681 + 0)), (3, .ref (s.heap.size + 748)), (4, .int (Ii ((6 * k : Nat) : Int)))]) X dL_law_668 (by decide) rfl ?_
  refine gl_aload_n X dL_law_670 rfl 3 rfl ?_
  refine gl_aload_n X dL_law_671 rfl 1 rfl ?_
  refine gl_iload X dL_law_672 5 rfl ?_
  refine gl_iconst (v := 1) X dL_law_674 rfl ?_
  refine gl_iadd X dL_law_675 hi4 (show i32 1 by decide) (by unfold i32; omega) ?_
  refine gl_sld X dL_law_676 (by omega) (by unfold i32; omega) ?_
  refine gl_ref X (ok_X12_toggle l D (s.heap.size + 681) MR (xs (((6 * k : Nat) : Int) + 1).toNat).toInt (i32_of _)) h2 dL_law_677 ll117 (inL _ ll118) (inL _ ll119) (inW _ lw944) lw992 cy_X12_toggle rfl ⟨Nat.le_of_ble_eq_true rfl, Nat.le_of_ble_eq_true rfl⟩ (Nat.le_of_ble_eq_true rfl) tr0 rfl rfl rfl rfl (Nat.le_of_ble_eq_true rfl) ⟨by show _ ≤ 601024; omega, by show _ ≤ 7293034; omega⟩ (fun hq9 => ?_)
  refine gl_istore (L' := [(6, .int (Ii q.1)), (5, .int (Ii (if r.1 = 1 then 1 else 0))), (0, .ref b), (1, .ref (s.heap.size + 0)), (2, .ref (s.heap.size + 681 + 0)), (3, .ref (s.heap.size + 748)), (4, .int (Ii ((6 * k : Nat) : Int)))]) X dL_law_680 (by decide) rfl ?_
  refine gl_aload_n X dL_law_682 rfl 4 rfl ?_
  refine gl_ref X (ok_X12_thrown l D (s.heap.size + 681) q.2) (r := (q.2 0 87, q.2)) rfl dL_law_683 ll81 (inL _ ll82) (inL _ ll83) (inW _ lw944) lw935 cy_X12_thrown rfl ⟨Nat.le_of_ble_eq_true rfl, Nat.le_of_ble_eq_true rfl⟩ (Nat.le_of_ble_eq_true rfl) tr0 rfl rfl rfl rfl (Nat.le_of_ble_eq_true rfl) ⟨by show _ ≤ 601024; omega, by show _ ≤ 7293034; omega⟩ (fun _ => ?_)
  refine gl_iload X dL_law_686 1 rfl ?_
  refine gl_icmp_eqT (tgt := 693) X dL_law_688 rfl h4 ?_
  refine gl_iload X dL_law_693 1 rfl ?_
  refine gl_if_ne (tgt := 717) X dL_law_695 rfl hcd (fun h0 => ?_) (fun h0 => ?_)
  · refine gl_goto (tgt := 1343) X dL_law_717 rfl ?_
    refine gl_sub [2, 3, 4, 5, 6] rfl ?_
    refine gl_widen (749 + 3 * (k + 1)) (24000 + 18 * (k + 1)) (by omega) (by omega) ?_
    exact tail _ _ _ h6
  · have hr0 : r.1 = 0 := by omega
    have hfo : (if r.1 = 0 then vp_updL fo 0 (Ll r.2.1) else fo) 0 = Ll r.2.1 := by rw [if_pos hr0]; rfl
    have hv9 : r.2.1 = q.1 := h5 hr0
    refine gl_aload_n X dL_law_698 rfl 5 rfl ?_
    refine gl_iconst (v := 0) X dL_law_699 rfl ?_
    refine gl_laload X dL_law_700 ?_
    rw [hfo]
    refine gl_iload X dL_law_701 0 rfl ?_
    refine gl_if_eq (tgt := 710) X dL_law_703 rfl (bo_i32 hq9) (fun hz => ?_) (fun hz => ?_)
    · have hq1 : q.1 = 0 := hz
      refine gl_lconst (v := 0) X dL_law_710 rfl ?_
      refine gl_lcmp X dL_law_711 (by rw [hv9, hq1]; decide) (by decide) ?_
      rw [show r.2.1 = 0 by rw [hv9, hq1]]
      refine gl_if_eq (tgt := 717) X dL_law_712 rfl (i32_lcmp _ _) (fun hz2 => ?_) (fun hz2 => absurd (lcmp_same _) hz2)
      refine gl_goto (tgt := 1343) X dL_law_717 rfl ?_
      refine gl_sub [2, 3, 4, 5, 6] rfl ?_
      refine gl_widen (749 + 3 * (k + 1)) (24000 + 18 * (k + 1)) (by omega) (by omega) ?_
      exact tail _ _ _ h6
    · have hq1 : q.1 = 1 := hq9.resolve_left hz
      refine gl_lconst (v := 1) X dL_law_706 rfl ?_
      refine gl_goto (tgt := 711) X dL_law_707 rfl ?_
      refine gl_lcmp X dL_law_711 (by rw [hv9, hq1]; decide) (by decide) ?_
      rw [show r.2.1 = 1 by rw [hv9, hq1]]
      refine gl_if_eq (tgt := 717) X dL_law_712 rfl (i32_lcmp _ _) (fun hz2 => ?_) (fun hz2 => absurd (lcmp_same _) hz2)
      refine gl_goto (tgt := 1343) X dL_law_717 rfl ?_
      refine gl_sub [2, 3, 4, 5, 6] rfl ?_
      refine gl_widen (749 + 3 * (k + 1)) (24000 + 18 * (k + 1)) (by omega) (by omega) ?_
      exact tail _ _ _ h6
set_option maxRecDepth 20000 in
theorem law_conflicts {p : Program} {l : Launch} {e : Env} {s : State} {m : MethodId} {below : List Frame} {meth : Method} {c : Code} {D : Dd} {b N : Nat} {xs : Nat → Int32} {Inv : Mm → Mm → Nat → Prop} (hl : l.stackTraces = false) (X : Ll_ p s m c D b N xs) (hS : S_conflicts Inv) {k : Nat} (hk : k < 512) (hN : 6 * k + 6 ≤ N) (hN2 : N ≤ 3072) (tail : ∀ (MC MR : Mm) (fo : Nat → Int64), Inv MC MR (k + 1) → Gl p l e s m b below meth c D (749 + 3 * (k + 1)) (24000 + 18 * (k + 1)) (lw_Z below #[Value.ref b] s) MC MR fo 1343 [(0, .ref b), (1, .ref (s.heap.size + 0)), (2, .ref (s.heap.size + 681 + 0)), (3, .ref (s.heap.size + 748)), (4, .int (Ii ((6 * k : Nat) : Int)))] []) (MC MR : Mm) (fo : Nat → Int64) (hI : Inv MC MR k) : Gl p l e s m b below meth c D (749 + 3 * k) (24000 + 18 * k) (lw_Z below #[Value.ref b] s) MC MR fo 720 [(0, .ref b), (1, .ref (s.heap.size + 0)), (2, .ref (s.heap.size + 681 + 0)), (3, .ref (s.heap.size + 748)), (4, .int (Ii ((6 * k : Nat) : Int)))] [] := by
  have hi4 : i32 ((6 * k : Nat) : Int) := by unfold i32; omega
  obtain ⟨r, q, h1, h2, h3, h6⟩ := hS MC MR k hI hk
  refine gl_aload_n X dL_law_720 rfl 1 rfl ?_
  refine gl_class X (ok_X11_conflicts l D s.heap.size MC) h1 dL_law_721 ll120 (inL _ ll121) (inL _ ll122) (inW _ lw19) lw786 cy_X11_conflicts rfl ⟨Nat.le_of_ble_eq_true rfl, Nat.le_of_ble_eq_true rfl⟩ (Nat.le_of_ble_eq_true rfl) tc0 rfl rfl rfl rfl (Nat.le_of_ble_eq_true rfl) ⟨by show _ ≤ 601024; omega, by show _ ≤ 7293034; omega⟩ (fun _ => ?_)
  refine gl_aload_n X dL_law_724 rfl 2 rfl ?_
  refine gl_ref X (ok_X12_conflicts l D (s.heap.size + 681) MR) h2 dL_law_725 ll123 (inL _ ll124) (inL _ ll125) (inW _ lw944) lw994 cy_X12_conflicts rfl ⟨Nat.le_of_ble_eq_true rfl, Nat.le_of_ble_eq_true rfl⟩ (Nat.le_of_ble_eq_true rfl) tr0 rfl rfl rfl rfl (Nat.le_of_ble_eq_true rfl) ⟨by show _ ≤ 601024; omega, by show _ ≤ 7293034; omega⟩ (fun hq9 => ?_)
  refine gl_icmp_eqT (tgt := 1343) X dL_law_728 rfl h3 ?_
  refine gl_widen (749 + 3 * (k + 1)) (24000 + 18 * (k + 1)) (by omega) (by omega) ?_
  exact tail _ _ _ h6
set_option maxRecDepth 20000 in
theorem law_ringIn {p : Program} {l : Launch} {e : Env} {s : State} {m : MethodId} {below : List Frame} {meth : Method} {c : Code} {D : Dd} {b N : Nat} {xs : Nat → Int32} {Inv : Mm → Mm → Nat → Prop} (hl : l.stackTraces = false) (X : Ll_ p s m c D b N xs) (hS : S_ringIn Inv) {k : Nat} (hk : k < 512) (hN : 6 * k + 6 ≤ N) (hN2 : N ≤ 3072) (tail : ∀ (MC MR : Mm) (fo : Nat → Int64), Inv MC MR (k + 1) → Gl p l e s m b below meth c D (749 + 3 * (k + 1)) (24000 + 18 * (k + 1)) (lw_Z below #[Value.ref b] s) MC MR fo 1343 [(0, .ref b), (1, .ref (s.heap.size + 0)), (2, .ref (s.heap.size + 681 + 0)), (3, .ref (s.heap.size + 748)), (4, .int (Ii ((6 * k : Nat) : Int)))] []) (MC MR : Mm) (fo : Nat → Int64) (hI : Inv MC MR k) : Gl p l e s m b below meth c D (749 + 3 * k) (24000 + 18 * k) (lw_Z below #[Value.ref b] s) MC MR fo 733 [(0, .ref b), (1, .ref (s.heap.size + 0)), (2, .ref (s.heap.size + 681 + 0)), (3, .ref (s.heap.size + 748)), (4, .int (Ii ((6 * k : Nat) : Int)))] [] := by
  have hi4 : i32 ((6 * k : Nat) : Int) := by unfold i32; omega
  obtain ⟨r, q, h1, h2, h3, h6⟩ := hS MC MR k hI hk
  refine gl_aload_n X dL_law_733 rfl 1 rfl ?_
  refine gl_class X (ok_X11_ringIn l D s.heap.size MC) h1 dL_law_734 ll126 (inL _ ll127) (inL _ ll128) (inW _ lw19) lw790 cy_X11_ringIn rfl ⟨Nat.le_of_ble_eq_true rfl, Nat.le_of_ble_eq_true rfl⟩ (Nat.le_of_ble_eq_true rfl) tc0 rfl rfl rfl rfl (Nat.le_of_ble_eq_true rfl) ⟨by show _ ≤ 601024; omega, by show _ ≤ 7293034; omega⟩ (fun _ => ?_)
  refine gl_aload_n X dL_law_737 rfl 2 rfl ?_
  refine gl_ref X (ok_X12_ringIn l D (s.heap.size + 681) MR) h2 dL_law_738 ll129 (inL _ ll130) (inL _ ll131) (inW _ lw944) lw1039 cy_X12_ringIn rfl ⟨Nat.le_of_ble_eq_true rfl, Nat.le_of_ble_eq_true rfl⟩ (Nat.le_of_ble_eq_true rfl) tr0 rfl rfl rfl rfl (Nat.le_of_ble_eq_true rfl) ⟨by show _ ≤ 601024; omega, by show _ ≤ 7293034; omega⟩ (fun hq9 => ?_)
  refine gl_icmp_eqT (tgt := 1343) X dL_law_741 rfl h3 ?_
  refine gl_widen (749 + 3 * (k + 1)) (24000 + 18 * (k + 1)) (by omega) (by omega) ?_
  exact tail _ _ _ h6
set_option maxRecDepth 20000 in
theorem law_insert {p : Program} {l : Launch} {e : Env} {s : State} {m : MethodId} {below : List Frame} {meth : Method} {c : Code} {D : Dd} {b N : Nat} {xs : Nat → Int32} {Inv : Mm → Mm → Nat → Prop} (hl : l.stackTraces = false) (X : Ll_ p s m c D b N xs) (hS : S_insert Inv) {k : Nat} (hk : k < 512) (hN : 6 * k + 6 ≤ N) (hN2 : N ≤ 3072) (tail : ∀ (MC MR : Mm) (fo : Nat → Int64), Inv MC MR (k + 1) → Gl p l e s m b below meth c D (749 + 3 * (k + 1)) (24000 + 18 * (k + 1)) (lw_Z below #[Value.ref b] s) MC MR fo 1343 [(0, .ref b), (1, .ref (s.heap.size + 0)), (2, .ref (s.heap.size + 681 + 0)), (3, .ref (s.heap.size + 748)), (4, .int (Ii ((6 * k : Nat) : Int)))] []) (MC MR : Mm) (fo : Nat → Int64) (hI : Inv MC MR k) : Gl p l e s m b below meth c D (749 + 3 * k) (24000 + 18 * k) (lw_Z below #[Value.ref b] s) MC MR fo 746 [(0, .ref b), (1, .ref (s.heap.size + 0)), (2, .ref (s.heap.size + 681 + 0)), (3, .ref (s.heap.size + 748)), (4, .int (Ii ((6 * k : Nat) : Int)))] [] := by
  have hi4 : i32 ((6 * k : Nat) : Int) := by unfold i32; omega
  obtain ⟨r, q, h1, h2, h3, h4, h5, h6⟩ := hS MC MR k (xs (((6 * k : Nat) : Int) + 1).toNat).toInt (xs (((6 * k : Nat) : Int) + 2).toNat).toInt (i32_of _) (i32_of _) hI hk
  have hcd : i32 (if r.1 = 1 then 1 else if r.1 = 2 then 2 else if r.1 = 3 then 3 else 0) := by (repeat' split) <;> decide
  refine gl_aload_n X dL_law_746 rfl 1 rfl ?_
  refine gl_aload_n X dL_law_747 rfl 0 rfl ?_
  refine gl_iload X dL_law_748 4 rfl ?_
  refine gl_iconst (v := 1) X dL_law_750 rfl ?_
  refine gl_iadd X dL_law_751 hi4 (show i32 1 by decide) (by unfold i32; omega) ?_
  refine gl_sld X dL_law_752 (by omega) (by unfold i32; omega) ?_
  refine gl_aload_n X dL_law_753 rfl 0 rfl ?_
  refine gl_iload X dL_law_754 4 rfl ?_
  refine gl_iconst (v := 2) X dL_law_756 rfl ?_
  refine gl_iadd X dL_law_757 hi4 (show i32 2 by decide) (by unfold i32; omega) ?_
  refine gl_sld X dL_law_758 (by omega) (by unfold i32; omega) ?_
  refine gl_aload_n X dL_law_759 rfl 3 rfl ?_
  refine gl_wrap (np := 4) X (fun sz => ok_L_insert l hl D s.heap.size s.heap.size (s.heap.size + 748) (Nat.le_refl _) (by omega) MC fo (xs (((6 * k : Nat) : Int) + 1).toNat).toInt (i32_of _) (xs (((6 * k : Nat) : Int) + 2).toNat).toInt (i32_of _) sz r h1 h3) dL_law_760 ll132 ll133 ll77 ll34 ⟨by decide +kernel, by decide +kernel, by decide +kernel⟩ ⟨Nat.le_of_ble_eq_true rfl, Nat.le_of_ble_eq_true rfl⟩ rfl rfl (Nat.le_of_ble_eq_true rfl) ⟨by show _ ≤ 601024; omega, by show _ ≤ 7293034; omega⟩ ?_
  refine gl_istore (L' := [(5, .int (Ii (if r.1 = 1 then 1 else if r.1 = 2 then 2 else if r.1 = 3 then 3 else 0))), (0, .ref b), (1, .ref (s.heap.size + 0)), (2, .ref (s.heap.size + 681 + 0)), (3, .ref (s.heap.size + 748)), (4, .int (Ii ((6 * k : Nat) : Int)))]) X dL_law_763 (by decide) rfl ?_
  refine gl_aload_n X dL_law_765 rfl 3 rfl ?_
  refine gl_aload_n X dL_law_766 rfl 1 rfl ?_
  refine gl_iload X dL_law_767 5 rfl ?_
  refine gl_iconst (v := 1) X dL_law_769 rfl ?_
  refine gl_iadd X dL_law_770 hi4 (show i32 1 by decide) (by unfold i32; omega) ?_
  refine gl_sld X dL_law_771 (by omega) (by unfold i32; omega) ?_
  refine gl_aload_n X dL_law_772 rfl 1 rfl ?_
  refine gl_iload X dL_law_773 5 rfl ?_
  refine gl_iconst (v := 2) X dL_law_775 rfl ?_
  refine gl_iadd X dL_law_776 hi4 (show i32 2 by decide) (by unfold i32; omega) ?_
  refine gl_sld X dL_law_777 (by omega) (by unfold i32; omega) ?_
  refine gl_ref X (ok_X12_insert l D (s.heap.size + 681) MR (xs (((6 * k : Nat) : Int) + 1).toNat).toInt (i32_of _) (xs (((6 * k : Nat) : Int) + 2).toNat).toInt (i32_of _)) h2 dL_law_778 ll134 (inL _ ll135) (inL _ ll136) (inW _ lw944) lw1093 cy_X12_insert rfl ⟨Nat.le_of_ble_eq_true rfl, Nat.le_of_ble_eq_true rfl⟩ (Nat.le_of_ble_eq_true rfl) tr0 rfl rfl rfl rfl (Nat.le_of_ble_eq_true rfl) ⟨by show _ ≤ 601024; omega, by show _ ≤ 7293034; omega⟩ (fun hq9 => ?_)
  refine gl_istore (L' := [(6, .int (Ii q.1)), (5, .int (Ii (if r.1 = 1 then 1 else if r.1 = 2 then 2 else if r.1 = 3 then 3 else 0))), (0, .ref b), (1, .ref (s.heap.size + 0)), (2, .ref (s.heap.size + 681 + 0)), (3, .ref (s.heap.size + 748)), (4, .int (Ii ((6 * k : Nat) : Int)))]) X dL_law_781 (by decide) rfl ?_
  refine gl_aload_n X dL_law_783 rfl 4 rfl ?_
  refine gl_ref X (ok_X12_thrown l D (s.heap.size + 681) q.2) (r := (q.2 0 87, q.2)) rfl dL_law_784 ll81 (inL _ ll82) (inL _ ll83) (inW _ lw944) lw935 cy_X12_thrown rfl ⟨Nat.le_of_ble_eq_true rfl, Nat.le_of_ble_eq_true rfl⟩ (Nat.le_of_ble_eq_true rfl) tr0 rfl rfl rfl rfl (Nat.le_of_ble_eq_true rfl) ⟨by show _ ≤ 601024; omega, by show _ ≤ 7293034; omega⟩ (fun _ => ?_)
  refine gl_iload X dL_law_787 1 rfl ?_
  refine gl_icmp_eqT (tgt := 794) X dL_law_789 rfl h4 ?_
  refine gl_iload X dL_law_794 1 rfl ?_
  refine gl_if_ne (tgt := 811) X dL_law_796 rfl hcd (fun h0 => ?_) (fun h0 => ?_)
  · refine gl_goto (tgt := 1343) X dL_law_811 rfl ?_
    refine gl_sub [2, 3, 4, 5, 6] rfl ?_
    refine gl_widen (749 + 3 * (k + 1)) (24000 + 18 * (k + 1)) (by omega) (by omega) ?_
    exact tail _ _ _ h6
  · have hr0 : r.1 = 0 := by omega
    have hfo : (if r.1 = 0 then vp_updL fo 0 (Ll r.2.1) else fo) 0 = Ll r.2.1 := by rw [if_pos hr0]; rfl
    have hv9 : r.2.1 = q.1 := h5 hr0
    refine gl_aload_n X dL_law_799 rfl 5 rfl ?_
    refine gl_iconst (v := 0) X dL_law_800 rfl ?_
    refine gl_laload X dL_law_801 ?_
    rw [hfo]
    refine gl_iload X dL_law_802 0 rfl ?_
    refine gl_i2l X dL_law_804 hq9 ?_
    refine gl_lcmp X dL_law_805 (by rw [hv9]; exact i32_i64 hq9) (i32_i64 hq9) ?_
    rw [hv9]
    refine gl_if_eq (tgt := 811) X dL_law_806 rfl (i32_lcmp _ _) (fun hz => ?_) (fun hz => absurd (lcmp_same _) hz)
    refine gl_goto (tgt := 1343) X dL_law_811 rfl ?_
    refine gl_sub [2, 3, 4, 5, 6] rfl ?_
    refine gl_widen (749 + 3 * (k + 1)) (24000 + 18 * (k + 1)) (by omega) (by omega) ?_
    exact tail _ _ _ h6
set_option maxRecDepth 20000 in
theorem law_delete {p : Program} {l : Launch} {e : Env} {s : State} {m : MethodId} {below : List Frame} {meth : Method} {c : Code} {D : Dd} {b N : Nat} {xs : Nat → Int32} {Inv : Mm → Mm → Nat → Prop} (hl : l.stackTraces = false) (X : Ll_ p s m c D b N xs) (hS : S_delete Inv) {k : Nat} (hk : k < 512) (hN : 6 * k + 6 ≤ N) (hN2 : N ≤ 3072) (tail : ∀ (MC MR : Mm) (fo : Nat → Int64), Inv MC MR (k + 1) → Gl p l e s m b below meth c D (749 + 3 * (k + 1)) (24000 + 18 * (k + 1)) (lw_Z below #[Value.ref b] s) MC MR fo 1343 [(0, .ref b), (1, .ref (s.heap.size + 0)), (2, .ref (s.heap.size + 681 + 0)), (3, .ref (s.heap.size + 748)), (4, .int (Ii ((6 * k : Nat) : Int)))] []) (MC MR : Mm) (fo : Nat → Int64) (hI : Inv MC MR k) : Gl p l e s m b below meth c D (749 + 3 * k) (24000 + 18 * k) (lw_Z below #[Value.ref b] s) MC MR fo 814 [(0, .ref b), (1, .ref (s.heap.size + 0)), (2, .ref (s.heap.size + 681 + 0)), (3, .ref (s.heap.size + 748)), (4, .int (Ii ((6 * k : Nat) : Int)))] [] := by
  have hi4 : i32 ((6 * k : Nat) : Int) := by unfold i32; omega
  obtain ⟨r, q, h1, h2, h3, h4, h5, h6⟩ := hS MC MR k (xs (((6 * k : Nat) : Int) + 1).toNat).toInt (i32_of _) hI hk
  have hcd : i32 (if r.1 = 1 then 1 else if r.1 = 3 then 2 else 0) := by (repeat' split) <;> decide
  refine gl_aload_n X dL_law_814 rfl 1 rfl ?_
  refine gl_aload_n X dL_law_815 rfl 0 rfl ?_
  refine gl_iload X dL_law_816 4 rfl ?_
  refine gl_iconst (v := 1) X dL_law_818 rfl ?_
  refine gl_iadd X dL_law_819 hi4 (show i32 1 by decide) (by unfold i32; omega) ?_
  refine gl_sld X dL_law_820 (by omega) (by unfold i32; omega) ?_
  refine gl_aload_n X dL_law_821 rfl 3 rfl ?_
  refine gl_wrap (np := 3) X (fun sz => ok_L_delete l hl D s.heap.size s.heap.size (s.heap.size + 748) (Nat.le_refl _) (by omega) MC fo (xs (((6 * k : Nat) : Int) + 1).toNat).toInt (i32_of _) sz r h1 h3) dL_law_822 ll137 ll138 ll77 ll38 ⟨by decide +kernel, by decide +kernel, by decide +kernel⟩ ⟨Nat.le_of_ble_eq_true rfl, Nat.le_of_ble_eq_true rfl⟩ rfl rfl (Nat.le_of_ble_eq_true rfl) ⟨by show _ ≤ 601024; omega, by show _ ≤ 7293034; omega⟩ ?_
  refine gl_istore (L' := [(5, .int (Ii (if r.1 = 1 then 1 else if r.1 = 3 then 2 else 0))), (0, .ref b), (1, .ref (s.heap.size + 0)), (2, .ref (s.heap.size + 681 + 0)), (3, .ref (s.heap.size + 748)), (4, .int (Ii ((6 * k : Nat) : Int)))]) X dL_law_825 (by decide) rfl ?_
  refine gl_aload_n X dL_law_827 rfl 3 rfl ?_
  refine gl_aload_n X dL_law_828 rfl 1 rfl ?_
  refine gl_iload X dL_law_829 5 rfl ?_
  refine gl_iconst (v := 1) X dL_law_831 rfl ?_
  refine gl_iadd X dL_law_832 hi4 (show i32 1 by decide) (by unfold i32; omega) ?_
  refine gl_sld X dL_law_833 (by omega) (by unfold i32; omega) ?_
  refine gl_ref X (ok_X12_delete l D (s.heap.size + 681) MR (xs (((6 * k : Nat) : Int) + 1).toNat).toInt (i32_of _)) h2 dL_law_834 ll139 (inL _ ll140) (inL _ ll141) (inW _ lw944) lw1094 cy_X12_delete rfl ⟨Nat.le_of_ble_eq_true rfl, Nat.le_of_ble_eq_true rfl⟩ (Nat.le_of_ble_eq_true rfl) tr0 rfl rfl rfl rfl (Nat.le_of_ble_eq_true rfl) ⟨by show _ ≤ 601024; omega, by show _ ≤ 7293034; omega⟩ (fun hq9 => ?_)
  refine gl_istore (L' := [(6, .int (Ii q.1)), (5, .int (Ii (if r.1 = 1 then 1 else if r.1 = 3 then 2 else 0))), (0, .ref b), (1, .ref (s.heap.size + 0)), (2, .ref (s.heap.size + 681 + 0)), (3, .ref (s.heap.size + 748)), (4, .int (Ii ((6 * k : Nat) : Int)))]) X dL_law_837 (by decide) rfl ?_
  refine gl_aload_n X dL_law_839 rfl 4 rfl ?_
  refine gl_ref X (ok_X12_thrown l D (s.heap.size + 681) q.2) (r := (q.2 0 87, q.2)) rfl dL_law_840 ll81 (inL _ ll82) (inL _ ll83) (inW _ lw944) lw935 cy_X12_thrown rfl ⟨Nat.le_of_ble_eq_true rfl, Nat.le_of_ble_eq_true rfl⟩ (Nat.le_of_ble_eq_true rfl) tr0 rfl rfl rfl rfl (Nat.le_of_ble_eq_true rfl) ⟨by show _ ≤ 601024; omega, by show _ ≤ 7293034; omega⟩ (fun _ => ?_)
  refine gl_iload X dL_law_843 1 rfl ?_
  refine gl_icmp_eqT (tgt := 850) X dL_law_845 rfl h4 ?_
  refine gl_iload X dL_law_850 1 rfl ?_
  refine gl_if_ne (tgt := 867) X dL_law_852 rfl hcd (fun h0 => ?_) (fun h0 => ?_)
  · refine gl_goto (tgt := 1343) X dL_law_867 rfl ?_
    refine gl_sub [2, 3, 4, 5, 6] rfl ?_
    refine gl_widen (749 + 3 * (k + 1)) (24000 + 18 * (k + 1)) (by omega) (by omega) ?_
    exact tail _ _ _ h6
  · have hr0 : r.1 = 0 := by omega
    have hfo : (if r.1 = 0 then vp_updL fo 0 (Ll r.2.1) else fo) 0 = Ll r.2.1 := by rw [if_pos hr0]; rfl
    have hv9 : r.2.1 = q.1 := h5 hr0
    refine gl_aload_n X dL_law_855 rfl 5 rfl ?_
    refine gl_iconst (v := 0) X dL_law_856 rfl ?_
    refine gl_laload X dL_law_857 ?_
    rw [hfo]
    refine gl_iload X dL_law_858 0 rfl ?_
    refine gl_i2l X dL_law_860 hq9 ?_
    refine gl_lcmp X dL_law_861 (by rw [hv9]; exact i32_i64 hq9) (i32_i64 hq9) ?_
    rw [hv9]
    refine gl_if_eq (tgt := 867) X dL_law_862 rfl (i32_lcmp _ _) (fun hz => ?_) (fun hz => absurd (lcmp_same _) hz)
    refine gl_goto (tgt := 1343) X dL_law_867 rfl ?_
    refine gl_sub [2, 3, 4, 5, 6] rfl ?_
    refine gl_widen (749 + 3 * (k + 1)) (24000 + 18 * (k + 1)) (by omega) (by omega) ?_
    exact tail _ _ _ h6
set_option maxRecDepth 20000 in
theorem law_read {p : Program} {l : Launch} {e : Env} {s : State} {m : MethodId} {below : List Frame} {meth : Method} {c : Code} {D : Dd} {b N : Nat} {xs : Nat → Int32} {Inv : Mm → Mm → Nat → Prop} (hl : l.stackTraces = false) (X : Ll_ p s m c D b N xs) (hS : S_read Inv) {k : Nat} (hk : k < 512) (hN : 6 * k + 6 ≤ N) (hN2 : N ≤ 3072) (tail : ∀ (MC MR : Mm) (fo : Nat → Int64), Inv MC MR (k + 1) → Gl p l e s m b below meth c D (749 + 3 * (k + 1)) (24000 + 18 * (k + 1)) (lw_Z below #[Value.ref b] s) MC MR fo 1343 [(0, .ref b), (1, .ref (s.heap.size + 0)), (2, .ref (s.heap.size + 681 + 0)), (3, .ref (s.heap.size + 748)), (4, .int (Ii ((6 * k : Nat) : Int)))] []) (MC MR : Mm) (fo : Nat → Int64) (hI : Inv MC MR k) : Gl p l e s m b below meth c D (749 + 3 * k) (24000 + 18 * k) (lw_Z below #[Value.ref b] s) MC MR fo 870 [(0, .ref b), (1, .ref (s.heap.size + 0)), (2, .ref (s.heap.size + 681 + 0)), (3, .ref (s.heap.size + 748)), (4, .int (Ii ((6 * k : Nat) : Int)))] [] := by
  have hi4 : i32 ((6 * k : Nat) : Int) := by unfold i32; omega
  obtain ⟨r, q, h1, h2, h3, h4, h5, h6⟩ := hS MC MR k hI hk
  have hcd : i32 (if r.1 = 3 then 1 else 0) := by (repeat' split) <;> decide
  refine gl_aload_n X dL_law_870 rfl 1 rfl ?_
  refine gl_aload_n X dL_law_871 rfl 3 rfl ?_
  refine gl_wrap (np := 2) X (fun sz => ok_L_read l hl D s.heap.size s.heap.size (s.heap.size + 748) (Nat.le_refl _) (by omega) MC fo sz r h1 h3) dL_law_872 ll142 ll143 ll77 ll42 ⟨by decide +kernel, by decide +kernel, by decide +kernel⟩ ⟨Nat.le_of_ble_eq_true rfl, Nat.le_of_ble_eq_true rfl⟩ rfl rfl (Nat.le_of_ble_eq_true rfl) ⟨by show _ ≤ 601024; omega, by show _ ≤ 7293034; omega⟩ ?_
  refine gl_istore (L' := [(5, .int (Ii (if r.1 = 3 then 1 else 0))), (0, .ref b), (1, .ref (s.heap.size + 0)), (2, .ref (s.heap.size + 681 + 0)), (3, .ref (s.heap.size + 748)), (4, .int (Ii ((6 * k : Nat) : Int)))]) X dL_law_875 (by decide) rfl ?_
  refine gl_aload_n X dL_law_877 rfl 3 rfl ?_
  refine gl_ref X (ok_X12_read l D (s.heap.size + 681) MR) h2 dL_law_878 ll144 (inL _ ll145) (inL _ ll146) (inW _ lw944) lw1095 cy_X12_read rfl ⟨Nat.le_of_ble_eq_true rfl, Nat.le_of_ble_eq_true rfl⟩ (Nat.le_of_ble_eq_true rfl) tr0 rfl rfl rfl rfl (Nat.le_of_ble_eq_true rfl) ⟨by show _ ≤ 601024; omega, by show _ ≤ 7293034; omega⟩ (fun hq9 => ?_)
  refine gl_istore (L' := [(6, .int (Ii q.1)), (5, .int (Ii (if r.1 = 3 then 1 else 0))), (0, .ref b), (1, .ref (s.heap.size + 0)), (2, .ref (s.heap.size + 681 + 0)), (3, .ref (s.heap.size + 748)), (4, .int (Ii ((6 * k : Nat) : Int)))]) X dL_law_881 (by decide) rfl ?_
  refine gl_aload_n X dL_law_883 rfl 4 rfl ?_
  refine gl_ref X (ok_X12_thrown l D (s.heap.size + 681) q.2) (r := (q.2 0 87, q.2)) rfl dL_law_884 ll81 (inL _ ll82) (inL _ ll83) (inW _ lw944) lw935 cy_X12_thrown rfl ⟨Nat.le_of_ble_eq_true rfl, Nat.le_of_ble_eq_true rfl⟩ (Nat.le_of_ble_eq_true rfl) tr0 rfl rfl rfl rfl (Nat.le_of_ble_eq_true rfl) ⟨by show _ ≤ 601024; omega, by show _ ≤ 7293034; omega⟩ (fun _ => ?_)
  refine gl_iload X dL_law_887 1 rfl ?_
  refine gl_icmp_eqT (tgt := 894) X dL_law_889 rfl h4 ?_
  refine gl_iload X dL_law_894 1 rfl ?_
  refine gl_if_ne (tgt := 911) X dL_law_896 rfl hcd (fun h0 => ?_) (fun h0 => ?_)
  · refine gl_goto (tgt := 1343) X dL_law_911 rfl ?_
    refine gl_sub [2, 3, 4, 5, 6] rfl ?_
    refine gl_widen (749 + 3 * (k + 1)) (24000 + 18 * (k + 1)) (by omega) (by omega) ?_
    exact tail _ _ _ h6
  · have hr0 : r.1 = 0 := by omega
    have hfo : (if r.1 = 0 then vp_updL fo 0 (Ll r.2.1) else fo) 0 = Ll r.2.1 := by rw [if_pos hr0]; rfl
    have hv9 : r.2.1 = q.1 := h5 hr0
    refine gl_aload_n X dL_law_899 rfl 5 rfl ?_
    refine gl_iconst (v := 0) X dL_law_900 rfl ?_
    refine gl_laload X dL_law_901 ?_
    rw [hfo]
    refine gl_iload X dL_law_902 0 rfl ?_
    refine gl_i2l X dL_law_904 hq9 ?_
    refine gl_lcmp X dL_law_905 (by rw [hv9]; exact i32_i64 hq9) (i32_i64 hq9) ?_
    rw [hv9]
    refine gl_if_eq (tgt := 911) X dL_law_906 rfl (i32_lcmp _ _) (fun hz => ?_) (fun hz => absurd (lcmp_same _) hz)
    refine gl_goto (tgt := 1343) X dL_law_911 rfl ?_
    refine gl_sub [2, 3, 4, 5, 6] rfl ?_
    refine gl_widen (749 + 3 * (k + 1)) (24000 + 18 * (k + 1)) (by omega) (by omega) ?_
    exact tail _ _ _ h6
set_option maxRecDepth 20000 in
theorem law_cost {p : Program} {l : Launch} {e : Env} {s : State} {m : MethodId} {below : List Frame} {meth : Method} {c : Code} {D : Dd} {b N : Nat} {xs : Nat → Int32} {Inv : Mm → Mm → Nat → Prop} (hl : l.stackTraces = false) (X : Ll_ p s m c D b N xs) (hS : S_cost Inv) {k : Nat} (hk : k < 512) (hN : 6 * k + 6 ≤ N) (hN2 : N ≤ 3072) (tail : ∀ (MC MR : Mm) (fo : Nat → Int64), Inv MC MR (k + 1) → Gl p l e s m b below meth c D (749 + 3 * (k + 1)) (24000 + 18 * (k + 1)) (lw_Z below #[Value.ref b] s) MC MR fo 1343 [(0, .ref b), (1, .ref (s.heap.size + 0)), (2, .ref (s.heap.size + 681 + 0)), (3, .ref (s.heap.size + 748)), (4, .int (Ii ((6 * k : Nat) : Int)))] []) (MC MR : Mm) (fo : Nat → Int64) (hI : Inv MC MR k) : Gl p l e s m b below meth c D (749 + 3 * k) (24000 + 18 * k) (lw_Z below #[Value.ref b] s) MC MR fo 914 [(0, .ref b), (1, .ref (s.heap.size + 0)), (2, .ref (s.heap.size + 681 + 0)), (3, .ref (s.heap.size + 748)), (4, .int (Ii ((6 * k : Nat) : Int)))] [] := by
  have hi4 : i32 ((6 * k : Nat) : Int) := by unfold i32; omega
  obtain ⟨r, q, h1, h2, h3, h6⟩ := hS MC MR k hI hk
  refine gl_aload_n X dL_law_914 rfl 1 rfl ?_
  refine gl_class X (ok_X11_cost l D s.heap.size MC) h1 dL_law_915 ll147 (inL _ ll148) (inL _ ll149) (inW _ lw19) lw825 cy_X11_cost rfl ⟨Nat.le_of_ble_eq_true rfl, Nat.le_of_ble_eq_true rfl⟩ (Nat.le_of_ble_eq_true rfl) tc0 rfl rfl rfl rfl (Nat.le_of_ble_eq_true rfl) ⟨by show _ ≤ 601024; omega, by show _ ≤ 7293034; omega⟩ (fun _ => ?_)
  refine gl_aload_n X dL_law_918 rfl 2 rfl ?_
  refine gl_ref X (ok_X12_cost l D (s.heap.size + 681) MR) h2 dL_law_919 ll150 (inL _ ll151) (inL _ ll152) (inW _ lw944) lw1096 cy_X12_cost rfl ⟨Nat.le_of_ble_eq_true rfl, Nat.le_of_ble_eq_true rfl⟩ (Nat.le_of_ble_eq_true rfl) tr0 rfl rfl rfl rfl (Nat.le_of_ble_eq_true rfl) ⟨by show _ ≤ 601024; omega, by show _ ≤ 7293034; omega⟩ (fun hq9 => ?_)
  refine gl_icmp_eqT (tgt := 1343) X dL_law_922 rfl h3 ?_
  refine gl_widen (749 + 3 * (k + 1)) (24000 + 18 * (k + 1)) (by omega) (by omega) ?_
  exact tail _ _ _ h6
set_option maxRecDepth 20000 in
theorem law_node {p : Program} {l : Launch} {e : Env} {s : State} {m : MethodId} {below : List Frame} {meth : Method} {c : Code} {D : Dd} {b N : Nat} {xs : Nat → Int32} {Inv : Mm → Mm → Nat → Prop} (hl : l.stackTraces = false) (X : Ll_ p s m c D b N xs) (hS : S_node Inv) {k : Nat} (hk : k < 512) (hN : 6 * k + 6 ≤ N) (hN2 : N ≤ 3072) (tail : ∀ (MC MR : Mm) (fo : Nat → Int64), Inv MC MR (k + 1) → Gl p l e s m b below meth c D (749 + 3 * (k + 1)) (24000 + 18 * (k + 1)) (lw_Z below #[Value.ref b] s) MC MR fo 1343 [(0, .ref b), (1, .ref (s.heap.size + 0)), (2, .ref (s.heap.size + 681 + 0)), (3, .ref (s.heap.size + 748)), (4, .int (Ii ((6 * k : Nat) : Int)))] []) (MC MR : Mm) (fo : Nat → Int64) (hI : Inv MC MR k) : Gl p l e s m b below meth c D (749 + 3 * k) (24000 + 18 * k) (lw_Z below #[Value.ref b] s) MC MR fo 927 [(0, .ref b), (1, .ref (s.heap.size + 0)), (2, .ref (s.heap.size + 681 + 0)), (3, .ref (s.heap.size + 748)), (4, .int (Ii ((6 * k : Nat) : Int)))] [] := by
  have hi4 : i32 ((6 * k : Nat) : Int) := by unfold i32; omega
  obtain ⟨r, q, h1, h2, h3, h4, h5, h6⟩ := hS MC MR k (xs (((6 * k : Nat) : Int) + 1).toNat).toInt (i32_of _) hI hk
  have hcd : i32 (if r.1 = 1 then 1 else 0) := by (repeat' split) <;> decide
  refine gl_aload_n X dL_law_927 rfl 1 rfl ?_
  refine gl_aload_n X dL_law_928 rfl 0 rfl ?_
  refine gl_iload X dL_law_929 4 rfl ?_
  refine gl_iconst (v := 1) X dL_law_931 rfl ?_
  refine gl_iadd X dL_law_932 hi4 (show i32 1 by decide) (by unfold i32; omega) ?_
  refine gl_sld X dL_law_933 (by omega) (by unfold i32; omega) ?_
  refine gl_aload_n X dL_law_934 rfl 3 rfl ?_
  refine gl_wrap (np := 3) X (fun sz => ok_L_node l hl D s.heap.size s.heap.size (s.heap.size + 748) (Nat.le_refl _) (by omega) MC fo (xs (((6 * k : Nat) : Int) + 1).toNat).toInt (i32_of _) sz r h1 h3) dL_law_935 ll153 ll154 ll77 ll46 ⟨by decide +kernel, by decide +kernel, by decide +kernel⟩ ⟨Nat.le_of_ble_eq_true rfl, Nat.le_of_ble_eq_true rfl⟩ rfl rfl (Nat.le_of_ble_eq_true rfl) ⟨by show _ ≤ 601024; omega, by show _ ≤ 7293034; omega⟩ ?_
  refine gl_istore (L' := [(5, .int (Ii (if r.1 = 1 then 1 else 0))), (0, .ref b), (1, .ref (s.heap.size + 0)), (2, .ref (s.heap.size + 681 + 0)), (3, .ref (s.heap.size + 748)), (4, .int (Ii ((6 * k : Nat) : Int)))]) X dL_law_938 (by decide) rfl ?_
  refine gl_aload_n X dL_law_940 rfl 3 rfl ?_
  refine gl_aload_n X dL_law_941 rfl 1 rfl ?_
  refine gl_iload X dL_law_942 5 rfl ?_
  refine gl_iconst (v := 1) X dL_law_944 rfl ?_
  refine gl_iadd X dL_law_945 hi4 (show i32 1 by decide) (by unfold i32; omega) ?_
  refine gl_sld X dL_law_946 (by omega) (by unfold i32; omega) ?_
  refine gl_ref X (ok_X12_node l D (s.heap.size + 681) MR (xs (((6 * k : Nat) : Int) + 1).toNat).toInt (i32_of _)) h2 dL_law_947 ll155 (inL _ ll156) (inL _ ll157) (inW _ lw944) lw1097 cy_X12_node rfl ⟨Nat.le_of_ble_eq_true rfl, Nat.le_of_ble_eq_true rfl⟩ (Nat.le_of_ble_eq_true rfl) tr0 rfl rfl rfl rfl (Nat.le_of_ble_eq_true rfl) ⟨by show _ ≤ 601024; omega, by show _ ≤ 7293034; omega⟩ (fun hq9 => ?_)
  refine gl_istore (L' := [(6, .int (Ii q.1)), (5, .int (Ii (if r.1 = 1 then 1 else 0))), (0, .ref b), (1, .ref (s.heap.size + 0)), (2, .ref (s.heap.size + 681 + 0)), (3, .ref (s.heap.size + 748)), (4, .int (Ii ((6 * k : Nat) : Int)))]) X dL_law_950 (by decide) rfl ?_
  refine gl_aload_n X dL_law_952 rfl 4 rfl ?_
  refine gl_ref X (ok_X12_thrown l D (s.heap.size + 681) q.2) (r := (q.2 0 87, q.2)) rfl dL_law_953 ll81 (inL _ ll82) (inL _ ll83) (inW _ lw944) lw935 cy_X12_thrown rfl ⟨Nat.le_of_ble_eq_true rfl, Nat.le_of_ble_eq_true rfl⟩ (Nat.le_of_ble_eq_true rfl) tr0 rfl rfl rfl rfl (Nat.le_of_ble_eq_true rfl) ⟨by show _ ≤ 601024; omega, by show _ ≤ 7293034; omega⟩ (fun _ => ?_)
  refine gl_iload X dL_law_956 1 rfl ?_
  refine gl_icmp_eqT (tgt := 963) X dL_law_958 rfl h4 ?_
  refine gl_iload X dL_law_963 1 rfl ?_
  refine gl_if_ne (tgt := 980) X dL_law_965 rfl hcd (fun h0 => ?_) (fun h0 => ?_)
  · refine gl_goto (tgt := 1343) X dL_law_980 rfl ?_
    refine gl_sub [2, 3, 4, 5, 6] rfl ?_
    refine gl_widen (749 + 3 * (k + 1)) (24000 + 18 * (k + 1)) (by omega) (by omega) ?_
    exact tail _ _ _ h6
  · have hr0 : r.1 = 0 := by omega
    have hfo : (if r.1 = 0 then vp_updL fo 0 (Ll r.2.1) else fo) 0 = Ll r.2.1 := by rw [if_pos hr0]; rfl
    have hv9 : r.2.1 = q.1 := h5 hr0
    refine gl_aload_n X dL_law_968 rfl 5 rfl ?_
    refine gl_iconst (v := 0) X dL_law_969 rfl ?_
    refine gl_laload X dL_law_970 ?_
    rw [hfo]
    refine gl_iload X dL_law_971 0 rfl ?_
    refine gl_i2l X dL_law_973 hq9 ?_
    refine gl_lcmp X dL_law_974 (by rw [hv9]; exact i32_i64 hq9) (i32_i64 hq9) ?_
    rw [hv9]
    refine gl_if_eq (tgt := 980) X dL_law_975 rfl (i32_lcmp _ _) (fun hz => ?_) (fun hz => absurd (lcmp_same _) hz)
    refine gl_goto (tgt := 1343) X dL_law_980 rfl ?_
    refine gl_sub [2, 3, 4, 5, 6] rfl ?_
    refine gl_widen (749 + 3 * (k + 1)) (24000 + 18 * (k + 1)) (by omega) (by omega) ?_
    exact tail _ _ _ h6
set_option maxRecDepth 20000 in
theorem law_rewrite {p : Program} {l : Launch} {e : Env} {s : State} {m : MethodId} {below : List Frame} {meth : Method} {c : Code} {D : Dd} {b N : Nat} {xs : Nat → Int32} {Inv : Mm → Mm → Nat → Prop} (hl : l.stackTraces = false) (X : Ll_ p s m c D b N xs) (hS : S_rewrite Inv) {k : Nat} (hk : k < 512) (hN : 6 * k + 6 ≤ N) (hN2 : N ≤ 3072) (tail : ∀ (MC MR : Mm) (fo : Nat → Int64), Inv MC MR (k + 1) → Gl p l e s m b below meth c D (749 + 3 * (k + 1)) (24000 + 18 * (k + 1)) (lw_Z below #[Value.ref b] s) MC MR fo 1343 [(0, .ref b), (1, .ref (s.heap.size + 0)), (2, .ref (s.heap.size + 681 + 0)), (3, .ref (s.heap.size + 748)), (4, .int (Ii ((6 * k : Nat) : Int)))] []) (MC MR : Mm) (fo : Nat → Int64) (hI : Inv MC MR k) : Gl p l e s m b below meth c D (749 + 3 * k) (24000 + 18 * k) (lw_Z below #[Value.ref b] s) MC MR fo 983 [(0, .ref b), (1, .ref (s.heap.size + 0)), (2, .ref (s.heap.size + 681 + 0)), (3, .ref (s.heap.size + 748)), (4, .int (Ii ((6 * k : Nat) : Int)))] [] := by
  have hi4 : i32 ((6 * k : Nat) : Int) := by unfold i32; omega
  obtain ⟨r, q, h1, h2, h3, h4, h5, h6⟩ := hS MC MR k (xs (((6 * k : Nat) : Int) + 1).toNat).toInt (i32_of _) hI hk
  have hcd : i32 (if r.1 = 1 then 1 else 0) := by (repeat' split) <;> decide
  refine gl_aload_n X dL_law_983 rfl 1 rfl ?_
  refine gl_aload_n X dL_law_984 rfl 0 rfl ?_
  refine gl_iload X dL_law_985 4 rfl ?_
  refine gl_iconst (v := 1) X dL_law_987 rfl ?_
  refine gl_iadd X dL_law_988 hi4 (show i32 1 by decide) (by unfold i32; omega) ?_
  refine gl_sld X dL_law_989 (by omega) (by unfold i32; omega) ?_
  refine gl_aload_n X dL_law_990 rfl 3 rfl ?_
  refine gl_wrap (np := 3) X (fun sz => ok_L_rewrite l hl D s.heap.size s.heap.size (s.heap.size + 748) (Nat.le_refl _) (by omega) MC fo (xs (((6 * k : Nat) : Int) + 1).toNat).toInt (i32_of _) sz r h1 h3) dL_law_991 ll158 ll159 ll77 ll50 ⟨by decide +kernel, by decide +kernel, by decide +kernel⟩ ⟨Nat.le_of_ble_eq_true rfl, Nat.le_of_ble_eq_true rfl⟩ rfl rfl (Nat.le_of_ble_eq_true rfl) ⟨by show _ ≤ 601024; omega, by show _ ≤ 7293034; omega⟩ ?_
  refine gl_istore (L' := [(5, .int (Ii (if r.1 = 1 then 1 else 0))), (0, .ref b), (1, .ref (s.heap.size + 0)), (2, .ref (s.heap.size + 681 + 0)), (3, .ref (s.heap.size + 748)), (4, .int (Ii ((6 * k : Nat) : Int)))]) X dL_law_994 (by decide) rfl ?_
  refine gl_aload_n X dL_law_996 rfl 3 rfl ?_
  refine gl_aload_n X dL_law_997 rfl 1 rfl ?_
  refine gl_iload X dL_law_998 5 rfl ?_
  refine gl_iconst (v := 1) X dL_law_1000 rfl ?_
  refine gl_iadd X dL_law_1001 hi4 (show i32 1 by decide) (by unfold i32; omega) ?_
  refine gl_sld X dL_law_1002 (by omega) (by unfold i32; omega) ?_
  refine gl_ref X (ok_X12_rewrite l D (s.heap.size + 681) MR (xs (((6 * k : Nat) : Int) + 1).toNat).toInt (i32_of _)) h2 dL_law_1003 ll160 (inL _ ll161) (inL _ ll162) (inW _ lw944) lw1178 cy_X12_rewrite rfl ⟨Nat.le_of_ble_eq_true rfl, Nat.le_of_ble_eq_true rfl⟩ (Nat.le_of_ble_eq_true rfl) tr0 rfl rfl rfl rfl (Nat.le_of_ble_eq_true rfl) ⟨by show _ ≤ 601024; omega, by show _ ≤ 7293034; omega⟩ (fun hq9 => ?_)
  refine gl_istore (L' := [(6, .int (Ii q.1)), (5, .int (Ii (if r.1 = 1 then 1 else 0))), (0, .ref b), (1, .ref (s.heap.size + 0)), (2, .ref (s.heap.size + 681 + 0)), (3, .ref (s.heap.size + 748)), (4, .int (Ii ((6 * k : Nat) : Int)))]) X dL_law_1006 (by decide) rfl ?_
  refine gl_aload_n X dL_law_1008 rfl 4 rfl ?_
  refine gl_ref X (ok_X12_thrown l D (s.heap.size + 681) q.2) (r := (q.2 0 87, q.2)) rfl dL_law_1009 ll81 (inL _ ll82) (inL _ ll83) (inW _ lw944) lw935 cy_X12_thrown rfl ⟨Nat.le_of_ble_eq_true rfl, Nat.le_of_ble_eq_true rfl⟩ (Nat.le_of_ble_eq_true rfl) tr0 rfl rfl rfl rfl (Nat.le_of_ble_eq_true rfl) ⟨by show _ ≤ 601024; omega, by show _ ≤ 7293034; omega⟩ (fun _ => ?_)
  refine gl_iload X dL_law_1012 1 rfl ?_
  refine gl_icmp_eqT (tgt := 1019) X dL_law_1014 rfl h4 ?_
  refine gl_iload X dL_law_1019 1 rfl ?_
  refine gl_if_ne (tgt := 1036) X dL_law_1021 rfl hcd (fun h0 => ?_) (fun h0 => ?_)
  · refine gl_goto (tgt := 1343) X dL_law_1036 rfl ?_
    refine gl_sub [2, 3, 4, 5, 6] rfl ?_
    refine gl_widen (749 + 3 * (k + 1)) (24000 + 18 * (k + 1)) (by omega) (by omega) ?_
    exact tail _ _ _ h6
  · have hr0 : r.1 = 0 := by omega
    have hfo : (if r.1 = 0 then vp_updL fo 0 (Ll r.2.1) else fo) 0 = Ll r.2.1 := by rw [if_pos hr0]; rfl
    have hv9 : r.2.1 = q.1 := h5 hr0
    refine gl_aload_n X dL_law_1024 rfl 5 rfl ?_
    refine gl_iconst (v := 0) X dL_law_1025 rfl ?_
    refine gl_laload X dL_law_1026 ?_
    rw [hfo]
    refine gl_iload X dL_law_1027 0 rfl ?_
    refine gl_i2l X dL_law_1029 hq9 ?_
    refine gl_lcmp X dL_law_1030 (by rw [hv9]; exact i32_i64 hq9) (i32_i64 hq9) ?_
    rw [hv9]
    refine gl_if_eq (tgt := 1036) X dL_law_1031 rfl (i32_lcmp _ _) (fun hz => ?_) (fun hz => absurd (lcmp_same _) hz)
    refine gl_goto (tgt := 1343) X dL_law_1036 rfl ?_
    refine gl_sub [2, 3, 4, 5, 6] rfl ?_
    refine gl_widen (749 + 3 * (k + 1)) (24000 + 18 * (k + 1)) (by omega) (by omega) ?_
    exact tail _ _ _ h6
set_option maxRecDepth 20000 in
theorem law_value {p : Program} {l : Launch} {e : Env} {s : State} {m : MethodId} {below : List Frame} {meth : Method} {c : Code} {D : Dd} {b N : Nat} {xs : Nat → Int32} {Inv : Mm → Mm → Nat → Prop} (hl : l.stackTraces = false) (X : Ll_ p s m c D b N xs) (hS : S_value Inv) {k : Nat} (hk : k < 512) (hN : 6 * k + 6 ≤ N) (hN2 : N ≤ 3072) (tail : ∀ (MC MR : Mm) (fo : Nat → Int64), Inv MC MR (k + 1) → Gl p l e s m b below meth c D (749 + 3 * (k + 1)) (24000 + 18 * (k + 1)) (lw_Z below #[Value.ref b] s) MC MR fo 1343 [(0, .ref b), (1, .ref (s.heap.size + 0)), (2, .ref (s.heap.size + 681 + 0)), (3, .ref (s.heap.size + 748)), (4, .int (Ii ((6 * k : Nat) : Int)))] []) (MC MR : Mm) (fo : Nat → Int64) (hI : Inv MC MR k) : Gl p l e s m b below meth c D (749 + 3 * k) (24000 + 18 * k) (lw_Z below #[Value.ref b] s) MC MR fo 1039 [(0, .ref b), (1, .ref (s.heap.size + 0)), (2, .ref (s.heap.size + 681 + 0)), (3, .ref (s.heap.size + 748)), (4, .int (Ii ((6 * k : Nat) : Int)))] [] := by
  have hi4 : i32 ((6 * k : Nat) : Int) := by unfold i32; omega
  obtain ⟨r, q, h1, h2, h3, h4, h5, h6⟩ := hS MC MR k (xs (((6 * k : Nat) : Int) + 1).toNat).toInt (xs (((6 * k : Nat) : Int) + 2).toNat).toInt (i32_of _) (i32_of _) hI hk
  have hcd : i32 (if r.1 = 1 then 1 else 0) := by (repeat' split) <;> decide
  refine gl_aload_n X dL_law_1039 rfl 1 rfl ?_
  refine gl_aload_n X dL_law_1040 rfl 0 rfl ?_
  refine gl_iload X dL_law_1041 4 rfl ?_
  refine gl_iconst (v := 1) X dL_law_1043 rfl ?_
  refine gl_iadd X dL_law_1044 hi4 (show i32 1 by decide) (by unfold i32; omega) ?_
  refine gl_sld X dL_law_1045 (by omega) (by unfold i32; omega) ?_
  refine gl_aload_n X dL_law_1046 rfl 0 rfl ?_
  refine gl_iload X dL_law_1047 4 rfl ?_
  refine gl_iconst (v := 2) X dL_law_1049 rfl ?_
  refine gl_iadd X dL_law_1050 hi4 (show i32 2 by decide) (by unfold i32; omega) ?_
  refine gl_sld X dL_law_1051 (by omega) (by unfold i32; omega) ?_
  refine gl_aload_n X dL_law_1052 rfl 3 rfl ?_
  refine gl_wrap (np := 4) X (fun sz => ok_L_value l hl D s.heap.size s.heap.size (s.heap.size + 748) (Nat.le_refl _) (by omega) MC fo (xs (((6 * k : Nat) : Int) + 1).toNat).toInt (i32_of _) (xs (((6 * k : Nat) : Int) + 2).toNat).toInt (i32_of _) sz r h1 h3) dL_law_1053 ll163 ll164 ll77 ll54 ⟨by decide +kernel, by decide +kernel, by decide +kernel⟩ ⟨Nat.le_of_ble_eq_true rfl, Nat.le_of_ble_eq_true rfl⟩ rfl rfl (Nat.le_of_ble_eq_true rfl) ⟨by show _ ≤ 601024; omega, by show _ ≤ 7293034; omega⟩ ?_
  refine gl_istore (L' := [(5, .int (Ii (if r.1 = 1 then 1 else 0))), (0, .ref b), (1, .ref (s.heap.size + 0)), (2, .ref (s.heap.size + 681 + 0)), (3, .ref (s.heap.size + 748)), (4, .int (Ii ((6 * k : Nat) : Int)))]) X dL_law_1056 (by decide) rfl ?_
  refine gl_aload_n X dL_law_1058 rfl 3 rfl ?_
  refine gl_aload_n X dL_law_1059 rfl 1 rfl ?_
  refine gl_iload X dL_law_1060 5 rfl ?_
  refine gl_iconst (v := 1) X dL_law_1062 rfl ?_
  refine gl_iadd X dL_law_1063 hi4 (show i32 1 by decide) (by unfold i32; omega) ?_
  refine gl_sld X dL_law_1064 (by omega) (by unfold i32; omega) ?_
  refine gl_aload_n X dL_law_1065 rfl 1 rfl ?_
  refine gl_iload X dL_law_1066 5 rfl ?_
  refine gl_iconst (v := 2) X dL_law_1068 rfl ?_
  refine gl_iadd X dL_law_1069 hi4 (show i32 2 by decide) (by unfold i32; omega) ?_
  refine gl_sld X dL_law_1070 (by omega) (by unfold i32; omega) ?_
  refine gl_ref X (ok_X12_value l D (s.heap.size + 681) MR (xs (((6 * k : Nat) : Int) + 1).toNat).toInt (i32_of _) (xs (((6 * k : Nat) : Int) + 2).toNat).toInt (i32_of _)) h2 dL_law_1071 ll165 (inL _ ll166) (inL _ ll167) (inW _ lw944) lw1185 cy_X12_value rfl ⟨Nat.le_of_ble_eq_true rfl, Nat.le_of_ble_eq_true rfl⟩ (Nat.le_of_ble_eq_true rfl) tr0 rfl rfl rfl rfl (Nat.le_of_ble_eq_true rfl) ⟨by show _ ≤ 601024; omega, by show _ ≤ 7293034; omega⟩ (fun hq9 => ?_)
  refine gl_istore (L' := [(6, .int (Ii q.1)), (5, .int (Ii (if r.1 = 1 then 1 else 0))), (0, .ref b), (1, .ref (s.heap.size + 0)), (2, .ref (s.heap.size + 681 + 0)), (3, .ref (s.heap.size + 748)), (4, .int (Ii ((6 * k : Nat) : Int)))]) X dL_law_1074 (by decide) rfl ?_
  refine gl_aload_n X dL_law_1076 rfl 4 rfl ?_
  refine gl_ref X (ok_X12_thrown l D (s.heap.size + 681) q.2) (r := (q.2 0 87, q.2)) rfl dL_law_1077 ll81 (inL _ ll82) (inL _ ll83) (inW _ lw944) lw935 cy_X12_thrown rfl ⟨Nat.le_of_ble_eq_true rfl, Nat.le_of_ble_eq_true rfl⟩ (Nat.le_of_ble_eq_true rfl) tr0 rfl rfl rfl rfl (Nat.le_of_ble_eq_true rfl) ⟨by show _ ≤ 601024; omega, by show _ ≤ 7293034; omega⟩ (fun _ => ?_)
  refine gl_iload X dL_law_1080 1 rfl ?_
  refine gl_icmp_eqT (tgt := 1087) X dL_law_1082 rfl h4 ?_
  refine gl_iload X dL_law_1087 1 rfl ?_
  refine gl_if_ne (tgt := 1104) X dL_law_1089 rfl hcd (fun h0 => ?_) (fun h0 => ?_)
  · refine gl_goto (tgt := 1343) X dL_law_1104 rfl ?_
    refine gl_sub [2, 3, 4, 5, 6] rfl ?_
    refine gl_widen (749 + 3 * (k + 1)) (24000 + 18 * (k + 1)) (by omega) (by omega) ?_
    exact tail _ _ _ h6
  · have hr0 : r.1 = 0 := by omega
    have hfo : (if r.1 = 0 then vp_updL fo 0 (Ll r.2.1) else fo) 0 = Ll r.2.1 := by rw [if_pos hr0]; rfl
    have hv9 : r.2.1 = q.1 := h5 hr0
    refine gl_aload_n X dL_law_1092 rfl 5 rfl ?_
    refine gl_iconst (v := 0) X dL_law_1093 rfl ?_
    refine gl_laload X dL_law_1094 ?_
    rw [hfo]
    refine gl_iload X dL_law_1095 0 rfl ?_
    refine gl_i2l X dL_law_1097 hq9 ?_
    refine gl_lcmp X dL_law_1098 (by rw [hv9]; exact i32_i64 hq9) (i32_i64 hq9) ?_
    rw [hv9]
    refine gl_if_eq (tgt := 1104) X dL_law_1099 rfl (i32_lcmp _ _) (fun hz => ?_) (fun hz => absurd (lcmp_same _) hz)
    refine gl_goto (tgt := 1343) X dL_law_1104 rfl ?_
    refine gl_sub [2, 3, 4, 5, 6] rfl ?_
    refine gl_widen (749 + 3 * (k + 1)) (24000 + 18 * (k + 1)) (by omega) (by omega) ?_
    exact tail _ _ _ h6
set_option maxRecDepth 20000 in
theorem law_valueAnew {p : Program} {l : Launch} {e : Env} {s : State} {m : MethodId} {below : List Frame} {meth : Method} {c : Code} {D : Dd} {b N : Nat} {xs : Nat → Int32} {Inv : Mm → Mm → Nat → Prop} (hl : l.stackTraces = false) (X : Ll_ p s m c D b N xs) (hS : S_valueAnew Inv) {k : Nat} (hk : k < 512) (hN : 6 * k + 6 ≤ N) (hN2 : N ≤ 3072) (tail : ∀ (MC MR : Mm) (fo : Nat → Int64), Inv MC MR (k + 1) → Gl p l e s m b below meth c D (749 + 3 * (k + 1)) (24000 + 18 * (k + 1)) (lw_Z below #[Value.ref b] s) MC MR fo 1343 [(0, .ref b), (1, .ref (s.heap.size + 0)), (2, .ref (s.heap.size + 681 + 0)), (3, .ref (s.heap.size + 748)), (4, .int (Ii ((6 * k : Nat) : Int)))] []) (MC MR : Mm) (fo : Nat → Int64) (hI : Inv MC MR k) : Gl p l e s m b below meth c D (749 + 3 * k) (24000 + 18 * k) (lw_Z below #[Value.ref b] s) MC MR fo 1107 [(0, .ref b), (1, .ref (s.heap.size + 0)), (2, .ref (s.heap.size + 681 + 0)), (3, .ref (s.heap.size + 748)), (4, .int (Ii ((6 * k : Nat) : Int)))] [] := by
  have hi4 : i32 ((6 * k : Nat) : Int) := by unfold i32; omega
  obtain ⟨r, q, h1, h2, h3, h4, h5, h6⟩ := hS MC MR k (xs (((6 * k : Nat) : Int) + 1).toNat).toInt (xs (((6 * k : Nat) : Int) + 2).toNat).toInt (i32_of _) (i32_of _) hI hk
  have hcd : i32 (if r.1 = 1 then 1 else 0) := by (repeat' split) <;> decide
  refine gl_aload_n X dL_law_1107 rfl 1 rfl ?_
  refine gl_aload_n X dL_law_1108 rfl 0 rfl ?_
  refine gl_iload X dL_law_1109 4 rfl ?_
  refine gl_iconst (v := 1) X dL_law_1111 rfl ?_
  refine gl_iadd X dL_law_1112 hi4 (show i32 1 by decide) (by unfold i32; omega) ?_
  refine gl_sld X dL_law_1113 (by omega) (by unfold i32; omega) ?_
  refine gl_aload_n X dL_law_1114 rfl 0 rfl ?_
  refine gl_iload X dL_law_1115 4 rfl ?_
  refine gl_iconst (v := 2) X dL_law_1117 rfl ?_
  refine gl_iadd X dL_law_1118 hi4 (show i32 2 by decide) (by unfold i32; omega) ?_
  refine gl_sld X dL_law_1119 (by omega) (by unfold i32; omega) ?_
  refine gl_aload_n X dL_law_1120 rfl 3 rfl ?_
  refine gl_wrap (np := 4) X (fun sz => ok_L_valueAnew l hl D s.heap.size s.heap.size (s.heap.size + 748) (Nat.le_refl _) (by omega) MC fo (xs (((6 * k : Nat) : Int) + 1).toNat).toInt (i32_of _) (xs (((6 * k : Nat) : Int) + 2).toNat).toInt (i32_of _) sz r h1 h3) dL_law_1121 ll168 ll169 ll77 ll58 ⟨by decide +kernel, by decide +kernel, by decide +kernel⟩ ⟨Nat.le_of_ble_eq_true rfl, Nat.le_of_ble_eq_true rfl⟩ rfl rfl (Nat.le_of_ble_eq_true rfl) ⟨by show _ ≤ 601024; omega, by show _ ≤ 7293034; omega⟩ ?_
  refine gl_istore (L' := [(5, .int (Ii (if r.1 = 1 then 1 else 0))), (0, .ref b), (1, .ref (s.heap.size + 0)), (2, .ref (s.heap.size + 681 + 0)), (3, .ref (s.heap.size + 748)), (4, .int (Ii ((6 * k : Nat) : Int)))]) X dL_law_1124 (by decide) rfl ?_
  refine gl_aload_n X dL_law_1126 rfl 3 rfl ?_
  refine gl_aload_n X dL_law_1127 rfl 1 rfl ?_
  refine gl_iload X dL_law_1128 5 rfl ?_
  refine gl_iconst (v := 1) X dL_law_1130 rfl ?_
  refine gl_iadd X dL_law_1131 hi4 (show i32 1 by decide) (by unfold i32; omega) ?_
  refine gl_sld X dL_law_1132 (by omega) (by unfold i32; omega) ?_
  refine gl_aload_n X dL_law_1133 rfl 1 rfl ?_
  refine gl_iload X dL_law_1134 5 rfl ?_
  refine gl_iconst (v := 2) X dL_law_1136 rfl ?_
  refine gl_iadd X dL_law_1137 hi4 (show i32 2 by decide) (by unfold i32; omega) ?_
  refine gl_sld X dL_law_1138 (by omega) (by unfold i32; omega) ?_
  refine gl_ref X (ok_X12_valueAnew l D (s.heap.size + 681) MR (xs (((6 * k : Nat) : Int) + 1).toNat).toInt (i32_of _) (xs (((6 * k : Nat) : Int) + 2).toNat).toInt (i32_of _)) h2 dL_law_1139 ll170 (inL _ ll171) (inL _ ll172) (inW _ lw944) lw1190 cy_X12_valueAnew rfl ⟨Nat.le_of_ble_eq_true rfl, Nat.le_of_ble_eq_true rfl⟩ (Nat.le_of_ble_eq_true rfl) tr0 rfl rfl rfl rfl (Nat.le_of_ble_eq_true rfl) ⟨by show _ ≤ 601024; omega, by show _ ≤ 7293034; omega⟩ (fun hq9 => ?_)
  refine gl_istore (L' := [(6, .int (Ii q.1)), (5, .int (Ii (if r.1 = 1 then 1 else 0))), (0, .ref b), (1, .ref (s.heap.size + 0)), (2, .ref (s.heap.size + 681 + 0)), (3, .ref (s.heap.size + 748)), (4, .int (Ii ((6 * k : Nat) : Int)))]) X dL_law_1142 (by decide) rfl ?_
  refine gl_aload_n X dL_law_1144 rfl 4 rfl ?_
  refine gl_ref X (ok_X12_thrown l D (s.heap.size + 681) q.2) (r := (q.2 0 87, q.2)) rfl dL_law_1145 ll81 (inL _ ll82) (inL _ ll83) (inW _ lw944) lw935 cy_X12_thrown rfl ⟨Nat.le_of_ble_eq_true rfl, Nat.le_of_ble_eq_true rfl⟩ (Nat.le_of_ble_eq_true rfl) tr0 rfl rfl rfl rfl (Nat.le_of_ble_eq_true rfl) ⟨by show _ ≤ 601024; omega, by show _ ≤ 7293034; omega⟩ (fun _ => ?_)
  refine gl_iload X dL_law_1148 1 rfl ?_
  refine gl_icmp_eqT (tgt := 1155) X dL_law_1150 rfl h4 ?_
  refine gl_iload X dL_law_1155 1 rfl ?_
  refine gl_if_ne (tgt := 1172) X dL_law_1157 rfl hcd (fun h0 => ?_) (fun h0 => ?_)
  · refine gl_goto (tgt := 1343) X dL_law_1172 rfl ?_
    refine gl_sub [2, 3, 4, 5, 6] rfl ?_
    refine gl_widen (749 + 3 * (k + 1)) (24000 + 18 * (k + 1)) (by omega) (by omega) ?_
    exact tail _ _ _ h6
  · have hr0 : r.1 = 0 := by omega
    have hfo : (if r.1 = 0 then vp_updL fo 0 (Ll r.2.1) else fo) 0 = Ll r.2.1 := by rw [if_pos hr0]; rfl
    have hv9 : r.2.1 = q.1 := h5 hr0
    refine gl_aload_n X dL_law_1160 rfl 5 rfl ?_
    refine gl_iconst (v := 0) X dL_law_1161 rfl ?_
    refine gl_laload X dL_law_1162 ?_
    rw [hfo]
    refine gl_iload X dL_law_1163 0 rfl ?_
    refine gl_i2l X dL_law_1165 hq9 ?_
    refine gl_lcmp X dL_law_1166 (by rw [hv9]; exact i32_i64 hq9) (i32_i64 hq9) ?_
    rw [hv9]
    refine gl_if_eq (tgt := 1172) X dL_law_1167 rfl (i32_lcmp _ _) (fun hz => ?_) (fun hz => absurd (lcmp_same _) hz)
    refine gl_goto (tgt := 1343) X dL_law_1172 rfl ?_
    refine gl_sub [2, 3, 4, 5, 6] rfl ?_
    refine gl_widen (749 + 3 * (k + 1)) (24000 + 18 * (k + 1)) (by omega) (by omega) ?_
    exact tail _ _ _ h6
set_option maxRecDepth 20000 in
theorem law_found {p : Program} {l : Launch} {e : Env} {s : State} {m : MethodId} {below : List Frame} {meth : Method} {c : Code} {D : Dd} {b N : Nat} {xs : Nat → Int32} {Inv : Mm → Mm → Nat → Prop} (hl : l.stackTraces = false) (X : Ll_ p s m c D b N xs) (hS : S_found Inv) {k : Nat} (hk : k < 512) (hN : 6 * k + 6 ≤ N) (hN2 : N ≤ 3072) (tail : ∀ (MC MR : Mm) (fo : Nat → Int64), Inv MC MR (k + 1) → Gl p l e s m b below meth c D (749 + 3 * (k + 1)) (24000 + 18 * (k + 1)) (lw_Z below #[Value.ref b] s) MC MR fo 1343 [(0, .ref b), (1, .ref (s.heap.size + 0)), (2, .ref (s.heap.size + 681 + 0)), (3, .ref (s.heap.size + 748)), (4, .int (Ii ((6 * k : Nat) : Int)))] []) (MC MR : Mm) (fo : Nat → Int64) (hI : Inv MC MR k) : Gl p l e s m b below meth c D (749 + 3 * k) (24000 + 18 * k) (lw_Z below #[Value.ref b] s) MC MR fo 1175 [(0, .ref b), (1, .ref (s.heap.size + 0)), (2, .ref (s.heap.size + 681 + 0)), (3, .ref (s.heap.size + 748)), (4, .int (Ii ((6 * k : Nat) : Int)))] [] := by
  have hi4 : i32 ((6 * k : Nat) : Int) := by unfold i32; omega
  obtain ⟨r, q, h1, h2, h3, h6⟩ := hS MC MR k hI hk
  refine gl_aload_n X dL_law_1175 rfl 1 rfl ?_
  refine gl_class X (ok_X11_found l D s.heap.size MC) h1 dL_law_1176 ll173 (inL _ ll174) (inL _ ll175) (inW _ lw19) lw854 cy_X11_found rfl ⟨Nat.le_of_ble_eq_true rfl, Nat.le_of_ble_eq_true rfl⟩ (Nat.le_of_ble_eq_true rfl) tc0 rfl rfl rfl rfl (Nat.le_of_ble_eq_true rfl) ⟨by show _ ≤ 601024; omega, by show _ ≤ 7293034; omega⟩ (fun _ => ?_)
  refine gl_aload_n X dL_law_1179 rfl 2 rfl ?_
  refine gl_ref X (ok_X12_found l D (s.heap.size + 681) MR) h2 dL_law_1180 ll176 (inL _ ll177) (inL _ ll178) (inW _ lw944) lw1191 cy_X12_found rfl ⟨Nat.le_of_ble_eq_true rfl, Nat.le_of_ble_eq_true rfl⟩ (Nat.le_of_ble_eq_true rfl) tr0 rfl rfl rfl rfl (Nat.le_of_ble_eq_true rfl) ⟨by show _ ≤ 601024; omega, by show _ ≤ 7293034; omega⟩ (fun hq9 => ?_)
  refine gl_icmp_eqT (tgt := 1343) X dL_law_1183 rfl h3 ?_
  refine gl_widen (749 + 3 * (k + 1)) (24000 + 18 * (k + 1)) (by omega) (by omega) ?_
  exact tail _ _ _ h6
set_option maxRecDepth 20000 in
theorem law_isKept {p : Program} {l : Launch} {e : Env} {s : State} {m : MethodId} {below : List Frame} {meth : Method} {c : Code} {D : Dd} {b N : Nat} {xs : Nat → Int32} {Inv : Mm → Mm → Nat → Prop} (hl : l.stackTraces = false) (X : Ll_ p s m c D b N xs) (hS : S_isKept Inv) {k : Nat} (hk : k < 512) (hN : 6 * k + 6 ≤ N) (hN2 : N ≤ 3072) (tail : ∀ (MC MR : Mm) (fo : Nat → Int64), Inv MC MR (k + 1) → Gl p l e s m b below meth c D (749 + 3 * (k + 1)) (24000 + 18 * (k + 1)) (lw_Z below #[Value.ref b] s) MC MR fo 1343 [(0, .ref b), (1, .ref (s.heap.size + 0)), (2, .ref (s.heap.size + 681 + 0)), (3, .ref (s.heap.size + 748)), (4, .int (Ii ((6 * k : Nat) : Int)))] []) (MC MR : Mm) (fo : Nat → Int64) (hI : Inv MC MR k) : Gl p l e s m b below meth c D (749 + 3 * k) (24000 + 18 * k) (lw_Z below #[Value.ref b] s) MC MR fo 1188 [(0, .ref b), (1, .ref (s.heap.size + 0)), (2, .ref (s.heap.size + 681 + 0)), (3, .ref (s.heap.size + 748)), (4, .int (Ii ((6 * k : Nat) : Int)))] [] := by
  have hi4 : i32 ((6 * k : Nat) : Int) := by unfold i32; omega
  obtain ⟨r, q, h1, h2, h3, h4, h5, h6⟩ := hS MC MR k (xs (((6 * k : Nat) : Int) + 1).toNat).toInt (xs (((6 * k : Nat) : Int) + 2).toNat).toInt (i32_of _) (i32_of _) hI hk
  have hcd : i32 (if r.1 = 1 then 1 else 0) := by (repeat' split) <;> decide
  refine gl_aload_n X dL_law_1188 rfl 1 rfl ?_
  refine gl_aload_n X dL_law_1189 rfl 0 rfl ?_
  refine gl_iload X dL_law_1190 4 rfl ?_
  refine gl_iconst (v := 1) X dL_law_1192 rfl ?_
  refine gl_iadd X dL_law_1193 hi4 (show i32 1 by decide) (by unfold i32; omega) ?_
  refine gl_sld X dL_law_1194 (by omega) (by unfold i32; omega) ?_
  refine gl_aload_n X dL_law_1195 rfl 0 rfl ?_
  refine gl_iload X dL_law_1196 4 rfl ?_
  refine gl_iconst (v := 2) X dL_law_1198 rfl ?_
  refine gl_iadd X dL_law_1199 hi4 (show i32 2 by decide) (by unfold i32; omega) ?_
  refine gl_sld X dL_law_1200 (by omega) (by unfold i32; omega) ?_
  refine gl_aload_n X dL_law_1201 rfl 3 rfl ?_
  refine gl_wrap (np := 4) X (fun sz => ok_L_isKept l hl D s.heap.size s.heap.size (s.heap.size + 748) (Nat.le_refl _) (by omega) MC fo (xs (((6 * k : Nat) : Int) + 1).toNat).toInt (i32_of _) (xs (((6 * k : Nat) : Int) + 2).toNat).toInt (i32_of _) sz r h1 h3) dL_law_1202 ll179 ll180 ll77 ll62 ⟨by decide +kernel, by decide +kernel, by decide +kernel⟩ ⟨Nat.le_of_ble_eq_true rfl, Nat.le_of_ble_eq_true rfl⟩ rfl rfl (Nat.le_of_ble_eq_true rfl) ⟨by show _ ≤ 601024; omega, by show _ ≤ 7293034; omega⟩ ?_
  refine gl_istore (L' := [(5, .int (Ii (if r.1 = 1 then 1 else 0))), (0, .ref b), (1, .ref (s.heap.size + 0)), (2, .ref (s.heap.size + 681 + 0)), (3, .ref (s.heap.size + 748)), (4, .int (Ii ((6 * k : Nat) : Int)))]) X dL_law_1205 (by decide) rfl ?_
  refine gl_aload_n X dL_law_1207 rfl 3 rfl ?_
  refine gl_aload_n X dL_law_1208 rfl 1 rfl ?_
  refine gl_iload X dL_law_1209 5 rfl ?_
  refine gl_iconst (v := 1) X dL_law_1211 rfl ?_
  refine gl_iadd X dL_law_1212 hi4 (show i32 1 by decide) (by unfold i32; omega) ?_
  refine gl_sld X dL_law_1213 (by omega) (by unfold i32; omega) ?_
  refine gl_aload_n X dL_law_1214 rfl 1 rfl ?_
  refine gl_iload X dL_law_1215 5 rfl ?_
  refine gl_iconst (v := 2) X dL_law_1217 rfl ?_
  refine gl_iadd X dL_law_1218 hi4 (show i32 2 by decide) (by unfold i32; omega) ?_
  refine gl_sld X dL_law_1219 (by omega) (by unfold i32; omega) ?_
  refine gl_ref X (ok_X12_isKept l D (s.heap.size + 681) MR (xs (((6 * k : Nat) : Int) + 1).toNat).toInt (i32_of _) (xs (((6 * k : Nat) : Int) + 2).toNat).toInt (i32_of _)) h2 dL_law_1220 ll181 (inL _ ll182) (inL _ ll183) (inW _ lw944) lw1192 cy_X12_isKept rfl ⟨Nat.le_of_ble_eq_true rfl, Nat.le_of_ble_eq_true rfl⟩ (Nat.le_of_ble_eq_true rfl) tr0 rfl rfl rfl rfl (Nat.le_of_ble_eq_true rfl) ⟨by show _ ≤ 601024; omega, by show _ ≤ 7293034; omega⟩ (fun hq9 => ?_)
  refine gl_istore (L' := [(6, .int (Ii q.1)), (5, .int (Ii (if r.1 = 1 then 1 else 0))), (0, .ref b), (1, .ref (s.heap.size + 0)), (2, .ref (s.heap.size + 681 + 0)), (3, .ref (s.heap.size + 748)), (4, .int (Ii ((6 * k : Nat) : Int)))]) X dL_law_1223 (by decide) rfl ?_
  refine gl_aload_n X dL_law_1225 rfl 4 rfl ?_
  refine gl_ref X (ok_X12_thrown l D (s.heap.size + 681) q.2) (r := (q.2 0 87, q.2)) rfl dL_law_1226 ll81 (inL _ ll82) (inL _ ll83) (inW _ lw944) lw935 cy_X12_thrown rfl ⟨Nat.le_of_ble_eq_true rfl, Nat.le_of_ble_eq_true rfl⟩ (Nat.le_of_ble_eq_true rfl) tr0 rfl rfl rfl rfl (Nat.le_of_ble_eq_true rfl) ⟨by show _ ≤ 601024; omega, by show _ ≤ 7293034; omega⟩ (fun _ => ?_)
  refine gl_iload X dL_law_1229 1 rfl ?_
  refine gl_icmp_eqT (tgt := 1236) X dL_law_1231 rfl h4 ?_
  refine gl_iload X dL_law_1236 1 rfl ?_
  refine gl_if_ne (tgt := 1260) X dL_law_1238 rfl hcd (fun h0 => ?_) (fun h0 => ?_)
  · refine gl_goto (tgt := 1343) X dL_law_1260 rfl ?_
    refine gl_sub [2, 3, 4, 5, 6] rfl ?_
    refine gl_widen (749 + 3 * (k + 1)) (24000 + 18 * (k + 1)) (by omega) (by omega) ?_
    exact tail _ _ _ h6
  · have hr0 : r.1 = 0 := by omega
    have hfo : (if r.1 = 0 then vp_updL fo 0 (Ll r.2.1) else fo) 0 = Ll r.2.1 := by rw [if_pos hr0]; rfl
    have hv9 : r.2.1 = q.1 := h5 hr0
    refine gl_aload_n X dL_law_1241 rfl 5 rfl ?_
    refine gl_iconst (v := 0) X dL_law_1242 rfl ?_
    refine gl_laload X dL_law_1243 ?_
    rw [hfo]
    refine gl_iload X dL_law_1244 0 rfl ?_
    refine gl_if_eq (tgt := 1253) X dL_law_1246 rfl (bo_i32 hq9) (fun hz => ?_) (fun hz => ?_)
    · have hq1 : q.1 = 0 := hz
      refine gl_lconst (v := 0) X dL_law_1253 rfl ?_
      refine gl_lcmp X dL_law_1254 (by rw [hv9, hq1]; decide) (by decide) ?_
      rw [show r.2.1 = 0 by rw [hv9, hq1]]
      refine gl_if_eq (tgt := 1260) X dL_law_1255 rfl (i32_lcmp _ _) (fun hz2 => ?_) (fun hz2 => absurd (lcmp_same _) hz2)
      refine gl_goto (tgt := 1343) X dL_law_1260 rfl ?_
      refine gl_sub [2, 3, 4, 5, 6] rfl ?_
      refine gl_widen (749 + 3 * (k + 1)) (24000 + 18 * (k + 1)) (by omega) (by omega) ?_
      exact tail _ _ _ h6
    · have hq1 : q.1 = 1 := hq9.resolve_left hz
      refine gl_lconst (v := 1) X dL_law_1249 rfl ?_
      refine gl_goto (tgt := 1254) X dL_law_1250 rfl ?_
      refine gl_lcmp X dL_law_1254 (by rw [hv9, hq1]; decide) (by decide) ?_
      rw [show r.2.1 = 1 by rw [hv9, hq1]]
      refine gl_if_eq (tgt := 1260) X dL_law_1255 rfl (i32_lcmp _ _) (fun hz2 => ?_) (fun hz2 => absurd (lcmp_same _) hz2)
      refine gl_goto (tgt := 1343) X dL_law_1260 rfl ?_
      refine gl_sub [2, 3, 4, 5, 6] rfl ?_
      refine gl_widen (749 + 3 * (k + 1)) (24000 + 18 * (k + 1)) (by omega) (by omega) ?_
      exact tail _ _ _ h6
set_option maxRecDepth 20000 in
theorem law_why {p : Program} {l : Launch} {e : Env} {s : State} {m : MethodId} {below : List Frame} {meth : Method} {c : Code} {D : Dd} {b N : Nat} {xs : Nat → Int32} {Inv : Mm → Mm → Nat → Prop} (hl : l.stackTraces = false) (X : Ll_ p s m c D b N xs) (hS : S_why Inv) {k : Nat} (hk : k < 512) (hN : 6 * k + 6 ≤ N) (hN2 : N ≤ 3072) (tail : ∀ (MC MR : Mm) (fo : Nat → Int64), Inv MC MR (k + 1) → Gl p l e s m b below meth c D (749 + 3 * (k + 1)) (24000 + 18 * (k + 1)) (lw_Z below #[Value.ref b] s) MC MR fo 1343 [(0, .ref b), (1, .ref (s.heap.size + 0)), (2, .ref (s.heap.size + 681 + 0)), (3, .ref (s.heap.size + 748)), (4, .int (Ii ((6 * k : Nat) : Int)))] []) (MC MR : Mm) (fo : Nat → Int64) (hI : Inv MC MR k) : Gl p l e s m b below meth c D (749 + 3 * k) (24000 + 18 * k) (lw_Z below #[Value.ref b] s) MC MR fo 1263 [(0, .ref b), (1, .ref (s.heap.size + 0)), (2, .ref (s.heap.size + 681 + 0)), (3, .ref (s.heap.size + 748)), (4, .int (Ii ((6 * k : Nat) : Int)))] [] := by
  have hi4 : i32 ((6 * k : Nat) : Int) := by unfold i32; omega
  obtain ⟨r, q, h1, h2, h3, h4, h5, h6⟩ := hS MC MR k (xs (((6 * k : Nat) : Int) + 1).toNat).toInt (xs (((6 * k : Nat) : Int) + 2).toNat).toInt (xs (((6 * k : Nat) : Int) + 3).toNat).toInt (i32_of _) (i32_of _) (i32_of _) hI hk
  have hcd : i32 (if r.1 = 1 then 1 else 0) := by (repeat' split) <;> decide
  refine gl_aload_n X dL_law_1263 rfl 1 rfl ?_
  refine gl_aload_n X dL_law_1264 rfl 0 rfl ?_
  refine gl_iload X dL_law_1265 4 rfl ?_
  refine gl_iconst (v := 1) X dL_law_1267 rfl ?_
  refine gl_iadd X dL_law_1268 hi4 (show i32 1 by decide) (by unfold i32; omega) ?_
  refine gl_sld X dL_law_1269 (by omega) (by unfold i32; omega) ?_
  refine gl_aload_n X dL_law_1270 rfl 0 rfl ?_
  refine gl_iload X dL_law_1271 4 rfl ?_
  refine gl_iconst (v := 2) X dL_law_1273 rfl ?_
  refine gl_iadd X dL_law_1274 hi4 (show i32 2 by decide) (by unfold i32; omega) ?_
  refine gl_sld X dL_law_1275 (by omega) (by unfold i32; omega) ?_
  refine gl_aload_n X dL_law_1276 rfl 0 rfl ?_
  refine gl_iload X dL_law_1277 4 rfl ?_
  refine gl_iconst (v := 3) X dL_law_1279 rfl ?_
  refine gl_iadd X dL_law_1280 hi4 (show i32 3 by decide) (by unfold i32; omega) ?_
  refine gl_sld X dL_law_1281 (by omega) (by unfold i32; omega) ?_
  refine gl_aload_n X dL_law_1282 rfl 3 rfl ?_
  refine gl_wrap (np := 5) X (fun sz => ok_L_why l hl D s.heap.size s.heap.size (s.heap.size + 748) (Nat.le_refl _) (by omega) MC fo (xs (((6 * k : Nat) : Int) + 1).toNat).toInt (i32_of _) (xs (((6 * k : Nat) : Int) + 2).toNat).toInt (i32_of _) (xs (((6 * k : Nat) : Int) + 3).toNat).toInt (i32_of _) sz r h1 h3) dL_law_1283 ll184 ll185 ll77 ll66 ⟨by decide +kernel, by decide +kernel, by decide +kernel⟩ ⟨Nat.le_of_ble_eq_true rfl, Nat.le_of_ble_eq_true rfl⟩ rfl rfl (Nat.le_of_ble_eq_true rfl) ⟨by show _ ≤ 601024; omega, by show _ ≤ 7293034; omega⟩ ?_
  refine gl_istore (L' := [(5, .int (Ii (if r.1 = 1 then 1 else 0))), (0, .ref b), (1, .ref (s.heap.size + 0)), (2, .ref (s.heap.size + 681 + 0)), (3, .ref (s.heap.size + 748)), (4, .int (Ii ((6 * k : Nat) : Int)))]) X dL_law_1286 (by decide) rfl ?_
  refine gl_aload_n X dL_law_1288 rfl 3 rfl ?_
  refine gl_aload_n X dL_law_1289 rfl 1 rfl ?_
  refine gl_iload X dL_law_1290 5 rfl ?_
  refine gl_iconst (v := 1) X dL_law_1292 rfl ?_
  refine gl_iadd X dL_law_1293 hi4 (show i32 1 by decide) (by unfold i32; omega) ?_
  refine gl_sld X dL_law_1294 (by omega) (by unfold i32; omega) ?_
  refine gl_aload_n X dL_law_1295 rfl 1 rfl ?_
  refine gl_iload X dL_law_1296 5 rfl ?_
  refine gl_iconst (v := 2) X dL_law_1298 rfl ?_
  refine gl_iadd X dL_law_1299 hi4 (show i32 2 by decide) (by unfold i32; omega) ?_
  refine gl_sld X dL_law_1300 (by omega) (by unfold i32; omega) ?_
  refine gl_aload_n X dL_law_1301 rfl 1 rfl ?_
  refine gl_iload X dL_law_1302 5 rfl ?_
  refine gl_iconst (v := 3) X dL_law_1304 rfl ?_
  refine gl_iadd X dL_law_1305 hi4 (show i32 3 by decide) (by unfold i32; omega) ?_
  refine gl_sld X dL_law_1306 (by omega) (by unfold i32; omega) ?_
  refine gl_ref X (ok_X12_why l D (s.heap.size + 681) MR (xs (((6 * k : Nat) : Int) + 1).toNat).toInt (i32_of _) (xs (((6 * k : Nat) : Int) + 2).toNat).toInt (i32_of _) (xs (((6 * k : Nat) : Int) + 3).toNat).toInt (i32_of _)) h2 dL_law_1307 ll186 (inL _ ll187) (inL _ ll188) (inW _ lw944) lw1193 cy_X12_why rfl ⟨Nat.le_of_ble_eq_true rfl, Nat.le_of_ble_eq_true rfl⟩ (Nat.le_of_ble_eq_true rfl) tr0 rfl rfl rfl rfl (Nat.le_of_ble_eq_true rfl) ⟨by show _ ≤ 601024; omega, by show _ ≤ 7293034; omega⟩ (fun hq9 => ?_)
  refine gl_istore (L' := [(6, .int (Ii q.1)), (5, .int (Ii (if r.1 = 1 then 1 else 0))), (0, .ref b), (1, .ref (s.heap.size + 0)), (2, .ref (s.heap.size + 681 + 0)), (3, .ref (s.heap.size + 748)), (4, .int (Ii ((6 * k : Nat) : Int)))]) X dL_law_1310 (by decide) rfl ?_
  refine gl_aload_n X dL_law_1312 rfl 4 rfl ?_
  refine gl_ref X (ok_X12_thrown l D (s.heap.size + 681) q.2) (r := (q.2 0 87, q.2)) rfl dL_law_1313 ll81 (inL _ ll82) (inL _ ll83) (inW _ lw944) lw935 cy_X12_thrown rfl ⟨Nat.le_of_ble_eq_true rfl, Nat.le_of_ble_eq_true rfl⟩ (Nat.le_of_ble_eq_true rfl) tr0 rfl rfl rfl rfl (Nat.le_of_ble_eq_true rfl) ⟨by show _ ≤ 601024; omega, by show _ ≤ 7293034; omega⟩ (fun _ => ?_)
  refine gl_iload X dL_law_1316 1 rfl ?_
  refine gl_icmp_eqT (tgt := 1323) X dL_law_1318 rfl h4 ?_
  refine gl_iload X dL_law_1323 1 rfl ?_
  refine gl_if_ne (tgt := 1340) X dL_law_1325 rfl hcd (fun h0 => ?_) (fun h0 => ?_)
  · refine gl_goto (tgt := 1343) X dL_law_1340 rfl ?_
    refine gl_sub [2, 3, 4, 5, 6] rfl ?_
    refine gl_widen (749 + 3 * (k + 1)) (24000 + 18 * (k + 1)) (by omega) (by omega) ?_
    exact tail _ _ _ h6
  · have hr0 : r.1 = 0 := by omega
    have hfo : (if r.1 = 0 then vp_updL fo 0 (Ll r.2.1) else fo) 0 = Ll r.2.1 := by rw [if_pos hr0]; rfl
    have hv9 : r.2.1 = q.1 := h5 hr0
    refine gl_aload_n X dL_law_1328 rfl 5 rfl ?_
    refine gl_iconst (v := 0) X dL_law_1329 rfl ?_
    refine gl_laload X dL_law_1330 ?_
    rw [hfo]
    refine gl_iload X dL_law_1331 0 rfl ?_
    refine gl_i2l X dL_law_1333 hq9 ?_
    refine gl_lcmp X dL_law_1334 (by rw [hv9]; exact i32_i64 hq9) (i32_i64 hq9) ?_
    rw [hv9]
    refine gl_if_eq (tgt := 1340) X dL_law_1335 rfl (i32_lcmp _ _) (fun hz => ?_) (fun hz => absurd (lcmp_same _) hz)
    refine gl_goto (tgt := 1343) X dL_law_1340 rfl ?_
    refine gl_sub [2, 3, 4, 5, 6] rfl ?_
    refine gl_widen (749 + 3 * (k + 1)) (24000 + 18 * (k + 1)) (by omega) (by omega) ?_
    exact tail _ _ _ h6
set_option maxRecDepth 20000 in
theorem law_loop {p : Program} {l : Launch} {e : Env} {s : State} {m : MethodId} {below : List Frame} {meth : Method} {c : Code} {D : Dd} {b N : Nat} {xs : Nat → Int32} {Inv : Mm → Mm → Nat → Prop} (hl : l.stackTraces = false) (X : Ll_ p s m c D b N xs) (hS : Sim Inv) (hrt : meth.sig.returnType = ret) (hlk : meth.locks = false) (hN2 : N ≤ 3072) : ∀ (d k : Nat), k + d = 513 → k ≤ 512 → ∀ (MC MR : Mm) (fo : Nat → Int64), Inv MC MR k → Gl p l e s m b below meth c D (749 + 3 * k) (24000 + 18 * k) (lw_Z below #[Value.ref b] s) MC MR fo 23 [(0, .ref b), (1, .ref (s.heap.size + 0)), (2, .ref (s.heap.size + 681 + 0)), (3, .ref (s.heap.size + 748)), (4, .int (Ii ((6 * k : Nat) : Int)))] [] := by
  intro d
  induction d with
  | zero => intro k h1 h2; omega
  | succ d ih =>
    intro k h1 h2 MC MR fo hI
    obtain ⟨s0, s1, s2, s3, s4, s5, s6, s7, s8, s9, s10, s11, s12, s13, s14, s15, s16, s17, s18, s19, s20, s_none⟩ := hS
    have hi4 : i32 ((6 * k : Nat) : Int) := by unfold i32; omega
    have hNi : i32 ((N : Nat) : Int) := by unfold i32; omega
    have hNm : i32 ((N : Int) - 6) := by unfold i32; omega
    refine gl_iload X dL_law_23 4 rfl ?_
    refine gl_aload_n X dL_law_25 rfl 0 rfl ?_
    refine gl_slen X dL_law_26 ?_
    refine gl_bipush (v := 6) X dL_law_27 (by decide) ?_
    refine gl_isub X dL_law_29 hNi (show i32 6 by decide) hNm ?_
    refine gl_icmp_gt (tgt := 1349) X dL_law_30 rfl hi4 hNm (fun c1 => ?_) (fun c1 => ?_)
    · refine gl_iconst (v := 1) X dL_law_1349 rfl ?_
      intro H locs ls hW hR hO hS9 hL
      obtain ⟨hx, hb, hml, hown, hts, hK, hN, hKX, hX, hbl⟩ := X
      refine va_forget (fun q hq => hS9.2.2 q hq) ?_
      refine W.widen (k := 601024) (n := 7293034) (by omega) (by omega) ?_
      exact lw_ret hx hb hrt hlk dL_law_1350
    · have hN6 : 6 * k + 6 ≤ N := by omega
      have hk5 : k < 512 := by omega
      have tail : ∀ (MC MR : Mm) (fo : Nat → Int64), Inv MC MR (k + 1) → Gl p l e s m b below meth c D (749 + 3 * (k + 1)) (24000 + 18 * (k + 1)) (lw_Z below #[Value.ref b] s) MC MR fo 1343 [(0, .ref b), (1, .ref (s.heap.size + 0)), (2, .ref (s.heap.size + 681 + 0)), (3, .ref (s.heap.size + 748)), (4, .int (Ii ((6 * k : Nat) : Int)))] [] := by
        intro MC MR fo hI
        refine gl_iinc (L' := [(4, .int (Ii (((6 * k : Nat) : Int) + 6))), (0, .ref b), (1, .ref (s.heap.size + 0)), (2, .ref (s.heap.size + 681 + 0)), (3, .ref (s.heap.size + 748))]) (j := 4) X dL_law_1343 hi4 (show i32 6 by decide) (by unfold i32; omega) rfl (by decide) rfl ?_
        rw [show ((6 * k : Nat) : Int) + 6 = ((6 * (k + 1) : Nat) : Int) by omega]
        refine gl_goto (tgt := 23) X dL_law_1346 rfl ?_
        refine gl_sub [1, 2, 3, 4, 0] rfl ?_
        exact ih (k + 1) (by omega) (by omega) MC MR fo hI
      refine gl_aload_n X dL_law_33 rfl 0 rfl ?_
      refine gl_iload X dL_law_34 4 rfl ?_
      refine gl_sld X dL_law_36 (by omega) hi4 ?_
      refine gl_bipush (v := 31) X dL_law_37 (by decide) ?_
      refine gl_iand X dL_law_39 ?_
      have hj9 := i32_jand (xs ((6 * k : Nat) : Int).toNat).toInt 31
      generalize jand (xs ((6 * k : Nat) : Int).toNat).toInt 31 = j9 at hj9 ⊢
      by_cases e0 : j9 = 0
      · exact gl_tabIn (tgt := 140) X dL_law_40 hj9 0 e0 (by decide) (by decide) rfl rfl (law_production hl X s0 hk5 hN6 hN2 tail MC MR fo hI)
      by_cases e1 : j9 = 1
      · exact gl_tabIn (tgt := 232) X dL_law_40 hj9 1 e1 (by decide) (by decide) rfl rfl (law_forward hl X s1 hk5 hN6 hN2 tail MC MR fo hI)
      by_cases e2 : j9 = 2
      · exact gl_tabIn (tgt := 336) X dL_law_40 hj9 2 e2 (by decide) (by decide) rfl rfl (law_rule hl X s2 hk5 hN6 hN2 tail MC MR fo hI)
      by_cases e3 : j9 = 3
      · exact gl_tabIn (tgt := 416) X dL_law_40 hj9 3 e3 (by decide) (by decide) rfl rfl (law_attribute hl X s3 hk5 hN6 hN2 tail MC MR fo hI)
      by_cases e4 : j9 = 4
      · exact gl_tabIn (tgt := 472) X dL_law_40 hj9 4 e4 (by decide) (by decide) rfl rfl (law_step hl X s4 hk5 hN6 hN2 tail MC MR fo hI)
      by_cases e5 : j9 = 5
      · exact gl_tabIn (tgt := 552) X dL_law_40 hj9 5 e5 (by decide) (by decide) rfl rfl (law_dropSteps hl X s5 hk5 hN6 hN2 tail MC MR fo hI)
      by_cases e6 : j9 = 6
      · exact gl_tabIn (tgt := 565) X dL_law_40 hj9 6 e6 (by decide) (by decide) rfl rfl (law_equation hl X s6 hk5 hN6 hN2 tail MC MR fo hI)
      by_cases e7 : j9 = 7
      · exact gl_tabIn (tgt := 657) X dL_law_40 hj9 7 e7 (by decide) (by decide) rfl rfl (law_toggle hl X s7 hk5 hN6 hN2 tail MC MR fo hI)
      by_cases e8 : j9 = 8
      · exact gl_tabIn (tgt := 720) X dL_law_40 hj9 8 e8 (by decide) (by decide) rfl rfl (law_conflicts hl X s8 hk5 hN6 hN2 tail MC MR fo hI)
      by_cases e9 : j9 = 9
      · exact gl_tabIn (tgt := 733) X dL_law_40 hj9 9 e9 (by decide) (by decide) rfl rfl (law_ringIn hl X s9 hk5 hN6 hN2 tail MC MR fo hI)
      by_cases e10 : j9 = 10
      · exact gl_tabIn (tgt := 746) X dL_law_40 hj9 10 e10 (by decide) (by decide) rfl rfl (law_insert hl X s10 hk5 hN6 hN2 tail MC MR fo hI)
      by_cases e11 : j9 = 11
      · exact gl_tabIn (tgt := 814) X dL_law_40 hj9 11 e11 (by decide) (by decide) rfl rfl (law_delete hl X s11 hk5 hN6 hN2 tail MC MR fo hI)
      by_cases e12 : j9 = 12
      · exact gl_tabIn (tgt := 870) X dL_law_40 hj9 12 e12 (by decide) (by decide) rfl rfl (law_read hl X s12 hk5 hN6 hN2 tail MC MR fo hI)
      by_cases e13 : j9 = 13
      · exact gl_tabIn (tgt := 914) X dL_law_40 hj9 13 e13 (by decide) (by decide) rfl rfl (law_cost hl X s13 hk5 hN6 hN2 tail MC MR fo hI)
      by_cases e14 : j9 = 14
      · exact gl_tabIn (tgt := 927) X dL_law_40 hj9 14 e14 (by decide) (by decide) rfl rfl (law_node hl X s14 hk5 hN6 hN2 tail MC MR fo hI)
      by_cases e15 : j9 = 15
      · exact gl_tabIn (tgt := 983) X dL_law_40 hj9 15 e15 (by decide) (by decide) rfl rfl (law_rewrite hl X s15 hk5 hN6 hN2 tail MC MR fo hI)
      by_cases e16 : j9 = 16
      · exact gl_tabIn (tgt := 1039) X dL_law_40 hj9 16 e16 (by decide) (by decide) rfl rfl (law_value hl X s16 hk5 hN6 hN2 tail MC MR fo hI)
      by_cases e17 : j9 = 17
      · exact gl_tabIn (tgt := 1107) X dL_law_40 hj9 17 e17 (by decide) (by decide) rfl rfl (law_valueAnew hl X s17 hk5 hN6 hN2 tail MC MR fo hI)
      by_cases e18 : j9 = 18
      · exact gl_tabIn (tgt := 1175) X dL_law_40 hj9 18 e18 (by decide) (by decide) rfl rfl (law_found hl X s18 hk5 hN6 hN2 tail MC MR fo hI)
      by_cases e19 : j9 = 19
      · exact gl_tabIn (tgt := 1188) X dL_law_40 hj9 19 e19 (by decide) (by decide) rfl rfl (law_isKept hl X s19 hk5 hN6 hN2 tail MC MR fo hI)
      by_cases e20 : j9 = 20
      · exact gl_tabIn (tgt := 1263) X dL_law_40 hj9 20 e20 (by decide) (by decide) rfl rfl (law_why hl X s20 hk5 hN6 hN2 tail MC MR fo hI)
      refine gl_tabOut (tgt := 1343) X dL_law_40 hj9 (by omega) rfl ?_
      refine gl_widen (749 + 3 * (k + 1)) (24000 + 18 * (k + 1)) (by omega) (by omega) ?_
      exact tail MC MR fo (s_none MC MR k hI hk5)
