def f_X12_thrown (M : Mm) : Rs :=
Lt (M 0 87) fun v1 =>
some (v1, M)
theorem cy_X12_thrown : yX12_thrown.cls ≠ "java/lang/invoke/MethodHandle" ∧ yX12_thrown.cls ≠ "java/lang/invoke/VarHandle" ∧ (parseMethodDescriptor yX12_thrown.desc).map (fun d => d.parameters.length) = some 0 := ⟨by decide +kernel, by decide +kernel, by decide +kernel⟩
set_option maxRecDepth 20000 in
theorem ok_X12_thrown (l : Launch) (D : Dd) (base : Nat) (M : Mm) : OkI l D TR 67 base yX12_thrown cX12_thrown 1 (some .int) 0 0 [.ref (base + 0)] M i32 (f_X12_thrown M) := by
  refine metI (by decide +kernel) [(0, .ref (base + 0))] rfl (Nat.le_of_ble_eq_true rfl) (fun p e s m args below meth c X hrt hlk => ?_)
  have X : Cx p s m args c cX12_thrown D 1 RX12 := X
  unfold f_X12_thrown
  refine go_aload_n X dX12_thrown_0 rfl 0 rfl ?_
  refine go_geti (i := 87) X fc12 dX12_thrown_1 trn0 tr0 (Nat.le_of_ble_eq_true rfl) rfl lw936 rfl (fun v1 hv1 => ?_)
  exact go_ireturn X hrt hlk dX12_thrown_4 hv1
def f_X12_fails (a1 : Int) (M : Mm) : Rs :=
Lt (up M 0 87 a1) fun M1 =>
Lt (fun (v2 : Int) (M3 : Mm) => 
some (v2, M3)) fun J14_4 =>
if a1 ≤ 0 then (
J14_4 0 M1) else (
J14_4 1 M1)
theorem cy_X12_fails : yX12_fails.cls ≠ "java/lang/invoke/MethodHandle" ∧ yX12_fails.cls ≠ "java/lang/invoke/VarHandle" ∧ (parseMethodDescriptor yX12_fails.desc).map (fun d => d.parameters.length) = some 1 := ⟨by decide +kernel, by decide +kernel, by decide +kernel⟩
set_option maxRecDepth 20000 in
theorem ok_X12_fails (l : Launch) (D : Dd) (base : Nat) (M : Mm) (a1 : Int) (ha1 : i32 a1) : OkI l D TR 67 base yX12_fails cX12_fails 2 (some .boolean) 0 0 [.ref (base + 0), .int (Ii a1)] M bo (f_X12_fails a1 M) := by
  refine metI (by decide +kernel) [(0, .ref (base + 0)), (1, .int (Ii a1))] rfl (Nat.le_of_ble_eq_true rfl) (fun p e s m args below meth c X hrt hlk => ?_)
  have X : Cx p s m args c cX12_fails D 2 RX12 := X
  unfold f_X12_fails
  refine go_aload_n X dX12_fails_0 rfl 0 rfl ?_
  refine go_iload_n X dX12_fails_1 rfl 1 rfl ?_
  refine go_puti (i := 87) X fc12 dX12_fails_2 trn0 tr0 (Nat.le_of_ble_eq_true rfl) rfl lw936 rfl rfl rfl ha1 (fun M1 => ?_)
  refine go_iload_n X dX12_fails_5 rfl 1 rfl ?_
  refine go_lt (fun J => ∀ (v2 : Int) (M3 : Mm), bo v2 → Go p l e (rmO 0 0) s m args below meth c D TR 67 base 2 0 0 (FinI D TR 67 base below args s bo) M3 14 [] [.int (Ii v2)] (J v2 M3)) (by
      intro v2 M3 hv2
      exact go_zreturn X hrt hlk dX12_fails_14 hv2 hv2
      )
      (fun J14_4 hJ14_4 => ?_)
  refine go_if_le (tgt := 13) X dX12_fails_6 rfl ha1 (fun c5 => ?_) (fun c5 => ?_)
  · refine go_iconst (v := 0) X dX12_fails_13 rfl ?_
    refine go_sub [] rfl ?_
    exact hJ14_4 0 M1 (Or.inl rfl)
  · refine go_iconst (v := 1) X dX12_fails_9 rfl ?_
    refine go_goto (tgt := 14) X dX12_fails_10 rfl ?_
    refine go_sub [] rfl ?_
    exact hJ14_4 1 M1 (Or.inr rfl)
def f_X12_tells (a1 : Int) (M : Mm) : Rs :=
Lt (up M 0 87 0) fun M1 =>
some (a1, M1)
theorem cy_X12_tells : yX12_tells.cls ≠ "java/lang/invoke/MethodHandle" ∧ yX12_tells.cls ≠ "java/lang/invoke/VarHandle" ∧ (parseMethodDescriptor yX12_tells.desc).map (fun d => d.parameters.length) = some 1 := ⟨by decide +kernel, by decide +kernel, by decide +kernel⟩
set_option maxRecDepth 20000 in
theorem ok_X12_tells (l : Launch) (D : Dd) (base : Nat) (M : Mm) (a1 : Int) (ha1 : i32 a1) : OkI l D TR 67 base yX12_tells cX12_tells 2 (some .int) 0 0 [.ref (base + 0), .int (Ii a1)] M i32 (f_X12_tells a1 M) := by
  refine metI (by decide +kernel) [(0, .ref (base + 0)), (1, .int (Ii a1))] rfl (Nat.le_of_ble_eq_true rfl) (fun p e s m args below meth c X hrt hlk => ?_)
  have X : Cx p s m args c cX12_tells D 2 RX12 := X
  unfold f_X12_tells
  refine go_aload_n X dX12_tells_0 rfl 0 rfl ?_
  refine go_iconst (v := 0) X dX12_tells_1 rfl ?_
  refine go_puti (i := 87) X fc12 dX12_tells_2 trn0 tr0 (Nat.le_of_ble_eq_true rfl) rfl lw936 rfl rfl rfl kI_0 (fun M1 => ?_)
  refine go_iload_n X dX12_tells_5 rfl 1 rfl ?_
  exact go_ireturn X hrt hlk dX12_tells_6 ha1
def f_X12_isIn (a1 : Int) (a2 : Int) (a3 : Int) (M : Mm) : Rs :=
Lt (fun (v1 : Int) (M2 : Mm) => 
some (v1, M2)) fun J15_3 =>
Lt (fun (M4 : Mm) => 
J15_3 0 M4) fun J14_5 =>
if a1 < a2 then (
J14_5 M) else (
if a3 < a1 then (
J14_5 M) else (
J15_3 1 M))
theorem cy_X12_isIn : yX12_isIn.cls ≠ "java/lang/invoke/MethodHandle" ∧ yX12_isIn.cls ≠ "java/lang/invoke/VarHandle" ∧ (parseMethodDescriptor yX12_isIn.desc).map (fun d => d.parameters.length) = some 3 := ⟨by decide +kernel, by decide +kernel, by decide +kernel⟩
set_option maxRecDepth 20000 in
theorem ok_X12_isIn (l : Launch) (D : Dd) (base : Nat) (M : Mm) (a1 : Int) (ha1 : i32 a1) (a2 : Int) (ha2 : i32 a2) (a3 : Int) (ha3 : i32 a3) : OkI l D TR 67 base yX12_isIn cX12_isIn 3 (some .boolean) 0 0 [.int (Ii a1), .int (Ii a2), .int (Ii a3)] M bo (f_X12_isIn a1 a2 a3 M) := by
  refine metI (by decide +kernel) [(0, .int (Ii a1)), (1, .int (Ii a2)), (2, .int (Ii a3))] rfl (Nat.le_of_ble_eq_true rfl) (fun p e s m args below meth c X hrt hlk => ?_)
  have X : Cx p s m args c cX12_isIn D 3 RX12 := X
  unfold f_X12_isIn
  refine go_iload_n X dX12_isIn_0 rfl 0 rfl ?_
  refine go_iload_n X dX12_isIn_1 rfl 1 rfl ?_
  refine go_lt (fun J => ∀ (v1 : Int) (M2 : Mm), bo v1 → Go p l e (rmO 0 0) s m args below meth c D TR 67 base 3 0 0 (FinI D TR 67 base below args s bo) M2 15 [] [.int (Ii v1)] (J v1 M2)) (by
      intro v1 M2 hv1
      exact go_zreturn X hrt hlk dX12_isIn_15 hv1 hv1
      )
      (fun J15_3 hJ15_3 => ?_)
  refine go_lt (fun J => ∀ (M4 : Mm), Go p l e (rmO 0 0) s m args below meth c D TR 67 base 3 0 0 (FinI D TR 67 base below args s bo) M4 14 [] [] (J M4)) (by
      intro M4
      refine go_iconst (v := 0) X dX12_isIn_14 rfl ?_
      exact hJ15_3 0 M4 (Or.inl rfl)
      )
      (fun J14_5 hJ14_5 => ?_)
  refine go_icmp_lt (tgt := 14) X dX12_isIn_2 rfl ha1 ha2 (fun c6 => ?_) (fun c6 => ?_)
  · refine go_sub [] rfl ?_
    exact hJ14_5 M
  · refine go_iload_n X dX12_isIn_5 rfl 0 rfl ?_
    refine go_iload_n X dX12_isIn_6 rfl 2 rfl ?_
    refine go_icmp_gt (tgt := 14) X dX12_isIn_7 rfl ha1 ha3 (fun c7 => ?_) (fun c7 => ?_)
    · refine go_sub [] rfl ?_
      exact hJ14_5 M
    · refine go_iconst (v := 1) X dX12_isIn_10 rfl ?_
      refine go_goto (tgt := 15) X dX12_isIn_11 rfl ?_
      refine go_sub [] rfl ?_
      exact hJ15_3 1 M (Or.inr rfl)
def f_X12_isProduction (a1 : Int) (M : Mm) : Rs :=
Lt (M 0 0) fun v1 =>
Lt (wr (v1 - 1)) fun v2 =>
Cl (f_X12_isIn a1 0 v2 M) fun v4 M3 =>
some (v4, M3)
theorem cy_X12_isProduction : yX12_isProduction.cls ≠ "java/lang/invoke/MethodHandle" ∧ yX12_isProduction.cls ≠ "java/lang/invoke/VarHandle" ∧ (parseMethodDescriptor yX12_isProduction.desc).map (fun d => d.parameters.length) = some 1 := ⟨by decide +kernel, by decide +kernel, by decide +kernel⟩
set_option maxRecDepth 20000 in
theorem ok_X12_isProduction (l : Launch) (D : Dd) (base : Nat) (M : Mm) (a1 : Int) (ha1 : i32 a1) : OkI l D TR 67 base yX12_isProduction cX12_isProduction 2 (some .boolean) 1 22 [.ref (base + 0), .int (Ii a1)] M bo (f_X12_isProduction a1 M) := by
  refine metI (by decide +kernel) [(0, .ref (base + 0)), (1, .int (Ii a1))] rfl (Nat.le_of_ble_eq_true rfl) (fun p e s m args below meth c X hrt hlk => ?_)
  have X : Cx p s m args c cX12_isProduction D 2 RX12 := X
  unfold f_X12_isProduction
  refine go_iload_n X dX12_isProduction_0 rfl 1 rfl ?_
  refine go_iconst (v := 0) X dX12_isProduction_1 rfl ?_
  refine go_aload_n X dX12_isProduction_2 rfl 0 rfl ?_
  refine go_geti (i := 0) X fc12 dX12_isProduction_3 trn0 tr0 (Nat.le_of_ble_eq_true rfl) rfl lw941 rfl (fun v1 hv1 => ?_)
  refine go_iconst (v := 1) X dX12_isProduction_6 rfl ?_
  refine go_isub X dX12_isProduction_7 hv1 kI_1 (fun v2 hv2 => ?_)
  refine goI (fun H locs ls r ho hW hL => runS X (ok_X12_isIn l D base M a1 ha1 0 kI_0 v2 hv2 H.size r ho) dX12_isProduction_8 lw942 lw943 lw944 ⟨lw939, cy_X12_isIn, Nat.le_of_ble_eq_true rfl, Nat.le_of_ble_eq_true rfl⟩ rfl rfl (Nat.le_of_ble_eq_true rfl) hW hL hk0) (fun v4 M3 hv4 => ?_)
  exact go_zreturn X hrt hlk dX12_isProduction_11 hv4 hv4
def f_X12_isAttribute (a1 : Int) (M : Mm) : Rs :=
Lt (M 0 12) fun v1 =>
Lt (wr (v1 - 1)) fun v2 =>
Cl (f_X12_isIn a1 0 v2 M) fun v4 M3 =>
some (v4, M3)
theorem cy_X12_isAttribute : yX12_isAttribute.cls ≠ "java/lang/invoke/MethodHandle" ∧ yX12_isAttribute.cls ≠ "java/lang/invoke/VarHandle" ∧ (parseMethodDescriptor yX12_isAttribute.desc).map (fun d => d.parameters.length) = some 1 := ⟨by decide +kernel, by decide +kernel, by decide +kernel⟩
set_option maxRecDepth 20000 in
theorem ok_X12_isAttribute (l : Launch) (D : Dd) (base : Nat) (M : Mm) (a1 : Int) (ha1 : i32 a1) : OkI l D TR 67 base yX12_isAttribute cX12_isAttribute 2 (some .boolean) 1 22 [.ref (base + 0), .int (Ii a1)] M bo (f_X12_isAttribute a1 M) := by
  refine metI (by decide +kernel) [(0, .ref (base + 0)), (1, .int (Ii a1))] rfl (Nat.le_of_ble_eq_true rfl) (fun p e s m args below meth c X hrt hlk => ?_)
  have X : Cx p s m args c cX12_isAttribute D 2 RX12 := X
  unfold f_X12_isAttribute
  refine go_iload_n X dX12_isAttribute_0 rfl 1 rfl ?_
  refine go_iconst (v := 0) X dX12_isAttribute_1 rfl ?_
  refine go_aload_n X dX12_isAttribute_2 rfl 0 rfl ?_
  refine go_geti (i := 12) X fc12 dX12_isAttribute_3 trn0 tr0 (Nat.le_of_ble_eq_true rfl) rfl lw946 rfl (fun v1 hv1 => ?_)
  refine go_iconst (v := 1) X dX12_isAttribute_6 rfl ?_
  refine go_isub X dX12_isAttribute_7 hv1 kI_1 (fun v2 hv2 => ?_)
  refine goI (fun H locs ls r ho hW hL => runS X (ok_X12_isIn l D base M a1 ha1 0 kI_0 v2 hv2 H.size r ho) dX12_isAttribute_8 lw942 lw943 lw944 ⟨lw939, cy_X12_isIn, Nat.le_of_ble_eq_true rfl, Nat.le_of_ble_eq_true rfl⟩ rfl rfl (Nat.le_of_ble_eq_true rfl) hW hL hk0) (fun v4 M3 hv4 => ?_)
  exact go_zreturn X hrt hlk dX12_isAttribute_11 hv4 hv4
def f_X12_isNode (a1 : Int) (M : Mm) : Rs :=
Lt (M 0 35) fun v1 =>
Lt (wr (v1 - 1)) fun v2 =>
Cl (f_X12_isIn a1 0 v2 M) fun v4 M3 =>
some (v4, M3)
theorem cy_X12_isNode : yX12_isNode.cls ≠ "java/lang/invoke/MethodHandle" ∧ yX12_isNode.cls ≠ "java/lang/invoke/VarHandle" ∧ (parseMethodDescriptor yX12_isNode.desc).map (fun d => d.parameters.length) = some 1 := ⟨by decide +kernel, by decide +kernel, by decide +kernel⟩
set_option maxRecDepth 20000 in
theorem ok_X12_isNode (l : Launch) (D : Dd) (base : Nat) (M : Mm) (a1 : Int) (ha1 : i32 a1) : OkI l D TR 67 base yX12_isNode cX12_isNode 2 (some .boolean) 1 22 [.ref (base + 0), .int (Ii a1)] M bo (f_X12_isNode a1 M) := by
  refine metI (by decide +kernel) [(0, .ref (base + 0)), (1, .int (Ii a1))] rfl (Nat.le_of_ble_eq_true rfl) (fun p e s m args below meth c X hrt hlk => ?_)
  have X : Cx p s m args c cX12_isNode D 2 RX12 := X
  unfold f_X12_isNode
  refine go_iload_n X dX12_isNode_0 rfl 1 rfl ?_
  refine go_iconst (v := 0) X dX12_isNode_1 rfl ?_
  refine go_aload_n X dX12_isNode_2 rfl 0 rfl ?_
  refine go_geti (i := 35) X fc12 dX12_isNode_3 trn0 tr0 (Nat.le_of_ble_eq_true rfl) rfl lw948 rfl (fun v1 hv1 => ?_)
  refine go_iconst (v := 1) X dX12_isNode_6 rfl ?_
  refine go_isub X dX12_isNode_7 hv1 kI_1 (fun v2 hv2 => ?_)
  refine goI (fun H locs ls r ho hW hL => runS X (ok_X12_isIn l D base M a1 ha1 0 kI_0 v2 hv2 H.size r ho) dX12_isNode_8 lw942 lw943 lw944 ⟨lw939, cy_X12_isIn, Nat.le_of_ble_eq_true rfl, Nat.le_of_ble_eq_true rfl⟩ rfl rfl (Nat.le_of_ble_eq_true rfl) hW hL hk0) (fun v4 M3 hv4 => ?_)
  exact go_zreturn X hrt hlk dX12_isNode_11 hv4 hv4
def f_X12_dropsAll_L2_9 (J22_2 : Mm → Rs) (rc2_5 : Int × Mm → Rs) : Int × Mm → Rs := fun (v3, M4) =>
if 360 ≤ v3 then (
J22_2 M4) else (
gd (0 ≤ v3 ∧ v3 < 720) <|
Lt (up M4 50 v3.toNat 0) fun M7 =>
Lt (wr (v3 + 1)) fun v8 =>
rc2_5 (v8, M7))
def f_X12_dropsAll (M : Mm) : Rs :=
Lt (fun (M1 : Mm) => 
some (0, M1)) fun J22_2 =>
Lp (f_X12_dropsAll_L2_9 J22_2) FU (0, M)
theorem cy_X12_dropsAll : yX12_dropsAll.cls ≠ "java/lang/invoke/MethodHandle" ∧ yX12_dropsAll.cls ≠ "java/lang/invoke/VarHandle" ∧ (parseMethodDescriptor yX12_dropsAll.desc).map (fun d => d.parameters.length) = some 0 := ⟨by decide +kernel, by decide +kernel, by decide +kernel⟩
set_option maxRecDepth 20000 in
theorem ok_X12_dropsAll (l : Launch) (D : Dd) (base : Nat) (M : Mm) : OkV l D TR 67 base yX12_dropsAll cX12_dropsAll 2 none 0 0 [.ref (base + 0)] M (f_X12_dropsAll M) := by
  refine metV (by decide +kernel) [(0, .ref (base + 0))] rfl (Nat.le_of_ble_eq_true rfl) (fun p e s m args below meth c X hrt hlk => ?_)
  have X : Cx p s m args c cX12_dropsAll D 2 RX12 := X
  unfold f_X12_dropsAll
  refine go_iconst (v := 0) X dX12_dropsAll_0 rfl ?_
  refine go_istore_n (i := 1) (L' := [(1, .int (Ii 0)), (0, .ref (base + 0))]) X dX12_dropsAll_1 rfl (by decide) rfl ?_
  refine go_lt (fun J => ∀ (M1 : Mm), Go p l e (rmO 0 0) s m args below meth c D TR 67 base 2 0 0 (FinV D TR 67 base below args s) M1 22 [] [] (J M1)) (by
      intro M1
      exact go_vreturn X hrt hlk dX12_dropsAll_22
      )
      (fun J22_2 hJ22_2 => ?_)
  refine go_sub [1, 0] rfl ?_
  exact go_lp (fun (rc : Int × Mm → Rs) => ∀ (v3 : Int) (M4 : Mm), i32 v3 → Go p l e (rmO 0 0) s m args below meth c D TR 67 base 2 0 0 (FinV D TR 67 base below args s) M4 2 [(0, .ref (base + 0)), (1, .int (Ii v3))] [] (rc (v3, M4)))
      (by intro v3 M4 hv3; exact go_none)
      (by
      intro rc2_5 hrc2_5 v3 M4 hv3
      unfold f_X12_dropsAll_L2_9
      dsimp only
      refine go_iload_n X dX12_dropsAll_2 rfl 1 rfl ?_
      refine go_sipush (v := 360) X dX12_dropsAll_3 (by decide) ?_
      refine go_icmp_ge (tgt := 22) X dX12_dropsAll_6 rfl hv3 kI_360 (fun c6 => ?_) (fun c6 => ?_)
      · refine go_sub [] rfl ?_
        exact hJ22_2 M4
      · refine go_aload_n X dX12_dropsAll_9 rfl 0 rfl ?_
        refine go_getc (i := 60) X fc12 dX12_dropsAll_10 trn0 tr0 (Nat.le_of_ble_eq_true rfl) rfl lw916 rfl ?_
        refine go_iload_n X dX12_dropsAll_13 rfl 1 rfl ?_
        refine go_iconst (v := 0) X dX12_dropsAll_14 rfl ?_
        refine go_zastore X dX12_dropsAll_15 trn50 tr50 hv3 (Or.inl rfl) (fun M7 => ?_)
        refine go_iinc (i := 1) (L' := fun v => [(1, .int (Ii v)), (0, .ref (base + 0))]) X dX12_dropsAll_16 hv3 kI_1 (j := 1) rfl (by decide) (fun _ => rfl) (fun v8 hv8 => ?_)
        refine go_goto (tgt := 2) X dX12_dropsAll_19 rfl ?_
        refine go_sub [1, 0] rfl ?_
        exact hrc2_5 v8 M7 hv8
      )
      FU 0 M kI_0
def f_X12_isSymbol (a1 : Int) (M : Mm) : Rs :=
Cl (f_X12_isIn a1 ((-1)) 9 M) fun v2 M1 =>
some (v2, M1)
theorem cy_X12_isSymbol : yX12_isSymbol.cls ≠ "java/lang/invoke/MethodHandle" ∧ yX12_isSymbol.cls ≠ "java/lang/invoke/VarHandle" ∧ (parseMethodDescriptor yX12_isSymbol.desc).map (fun d => d.parameters.length) = some 1 := ⟨by decide +kernel, by decide +kernel, by decide +kernel⟩
set_option maxRecDepth 20000 in
theorem ok_X12_isSymbol (l : Launch) (D : Dd) (base : Nat) (M : Mm) (a1 : Int) (ha1 : i32 a1) : OkI l D TR 67 base yX12_isSymbol cX12_isSymbol 1 (some .boolean) 1 22 [.int (Ii a1)] M bo (f_X12_isSymbol a1 M) := by
  refine metI (by decide +kernel) [(0, .int (Ii a1))] rfl (Nat.le_of_ble_eq_true rfl) (fun p e s m args below meth c X hrt hlk => ?_)
  have X : Cx p s m args c cX12_isSymbol D 1 RX12 := X
  unfold f_X12_isSymbol
  refine go_iload_n X dX12_isSymbol_0 rfl 0 rfl ?_
  refine go_iconst (v := (-1)) X dX12_isSymbol_1 rfl ?_
  refine go_bipush (v := 9) X dX12_isSymbol_2 (by decide) ?_
  refine goI (fun H locs ls r ho hW hL => runS X (ok_X12_isIn l D base M a1 ha1 ((-1)) kI_m1 9 kI_9 H.size r ho) dX12_isSymbol_4 lw942 lw943 lw944 ⟨lw939, cy_X12_isIn, Nat.le_of_ble_eq_true rfl, Nat.le_of_ble_eq_true rfl⟩ rfl rfl (Nat.le_of_ble_eq_true rfl) hW hL hk0) (fun v2 M1 hv2 => ?_)
  exact go_zreturn X hrt hlk dX12_isSymbol_7 hv2 hv2
def f_X12_adds (a1 : Int) (M : Mm) : Rs :=
Lt (M 0 0) fun v1 =>
Lt (wr (3 * v1)) fun v2 =>
if ¬ a1 = ((-1)) then (
Lt (M 0 0) fun v4 =>
gd (0 ≤ v4 ∧ v4 < 10) <|
Lt (M 2 v4.toNat) fun v5 =>
Lt (wr (v2 + v5)) fun v6 =>
gd (0 ≤ v6 ∧ v6 < 30) <|
Lt (up M 3 v6.toNat a1) fun M7 =>
Lt (M7 0 0) fun v8 =>
gd (0 ≤ v8 ∧ v8 < 10) <|
Lt (M7 2 v8.toNat) fun v9 =>
Lt (wr (v9 + 1)) fun v10 =>
gd (0 ≤ v8 ∧ v8 < 10) <|
Lt (up M7 2 v8.toNat v10) fun M11 =>
Lt (fun (M12 : Mm) => 
some (0, M12)) fun J111_13 =>
if 4 ≤ a1 then (
Lt (M11 0 0) fun v15 =>
gd (0 ≤ v15 ∧ v15 < 10) <|
Lt (M11 6 v15.toNat) fun v16 =>
Lt (wr (v2 + v16)) fun v17 =>
gd (0 ≤ v17 ∧ v17 < 30) <|
Lt (up M11 7 v17.toNat a1) fun M18 =>
Lt (M18 0 0) fun v19 =>
gd (0 ≤ v19 ∧ v19 < 10) <|
Lt (M18 6 v19.toNat) fun v20 =>
Lt (wr (v20 + 1)) fun v21 =>
gd (0 ≤ v19 ∧ v19 < 10) <|
Lt (up M18 6 v19.toNat v21) fun M22 =>
J111_13 M22) else (
Lt (M11 0 0) fun v23 =>
gd (0 ≤ v23 ∧ v23 < 10) <|
Lt (M11 4 v23.toNat) fun v24 =>
Lt (wr (v2 + v24)) fun v25 =>
gd (0 ≤ v25 ∧ v25 < 30) <|
Lt (up M11 5 v25.toNat a1) fun M26 =>
Lt (M26 0 0) fun v27 =>
gd (0 ≤ v27 ∧ v27 < 10) <|
Lt (M26 4 v27.toNat) fun v28 =>
Lt (wr (v28 + 1)) fun v29 =>
gd (0 ≤ v27 ∧ v27 < 10) <|
Lt (up M26 4 v27.toNat v29) fun M30 =>
J111_13 M30)) else (
some (0, M))
theorem cy_X12_adds : yX12_adds.cls ≠ "java/lang/invoke/MethodHandle" ∧ yX12_adds.cls ≠ "java/lang/invoke/VarHandle" ∧ (parseMethodDescriptor yX12_adds.desc).map (fun d => d.parameters.length) = some 1 := ⟨by decide +kernel, by decide +kernel, by decide +kernel⟩
set_option maxRecDepth 20000 in
theorem ok_X12_adds (l : Launch) (D : Dd) (base : Nat) (M : Mm) (a1 : Int) (ha1 : i32 a1) : OkV l D TR 67 base yX12_adds cX12_adds 3 none 0 0 [.ref (base + 0), .int (Ii a1)] M (f_X12_adds a1 M) := by
  refine metV (by decide +kernel) [(0, .ref (base + 0)), (1, .int (Ii a1))] rfl (Nat.le_of_ble_eq_true rfl) (fun p e s m args below meth c X hrt hlk => ?_)
  have X : Cx p s m args c cX12_adds D 3 RX12 := X
  unfold f_X12_adds
  refine go_iconst (v := 3) X dX12_adds_0 rfl ?_
  refine go_aload_n X dX12_adds_1 rfl 0 rfl ?_
  refine go_geti (i := 0) X fc12 dX12_adds_2 trn0 tr0 (Nat.le_of_ble_eq_true rfl) rfl lw941 rfl (fun v1 hv1 => ?_)
  refine go_imul X dX12_adds_5 kI_3 hv1 (fun v2 hv2 => ?_)
  refine go_istore_n (i := 2) (L' := [(2, .int (Ii v2)), (0, .ref (base + 0)), (1, .int (Ii a1))]) X dX12_adds_6 rfl (by decide) rfl ?_
  refine go_iload_n X dX12_adds_7 rfl 2 rfl ?_
  refine go_iconst (v := (-1)) X dX12_adds_8 rfl ?_
  refine go_icmp_ne (tgt := 13) X dX12_adds_9 rfl ha1 kI_m1 (fun c3 => ?_) (fun c3 => ?_)
  · refine go_aload_n X dX12_adds_13 rfl 1 rfl ?_
    refine go_getc (i := 3) X fc12 dX12_adds_14 trn0 tr0 (Nat.le_of_ble_eq_true rfl) rfl lw868 rfl ?_
    refine go_iload_n X dX12_adds_17 rfl 0 rfl ?_
    refine go_aload_n X dX12_adds_18 rfl 1 rfl ?_
    refine go_getc (i := 2) X fc12 dX12_adds_19 trn0 tr0 (Nat.le_of_ble_eq_true rfl) rfl lw867 rfl ?_
    refine go_aload_n X dX12_adds_22 rfl 1 rfl ?_
    refine go_geti (i := 0) X fc12 dX12_adds_23 trn0 tr0 (Nat.le_of_ble_eq_true rfl) rfl lw941 rfl (fun v4 hv4 => ?_)
    refine go_iaload X dX12_adds_26 trn2 tr2 hv4 (fun v5 hv5 => ?_)
    refine go_iadd X dX12_adds_27 hv2 hv5 (fun v6 hv6 => ?_)
    refine go_iload_n X dX12_adds_28 rfl 2 rfl ?_
    refine go_iastore X dX12_adds_29 trn3 tr3 hv6 ha1 (fun M7 => ?_)
    refine go_aload_n X dX12_adds_30 rfl 1 rfl ?_
    refine go_getc (i := 2) X fc12 dX12_adds_31 trn0 tr0 (Nat.le_of_ble_eq_true rfl) rfl lw867 rfl ?_
    refine go_aload_n X dX12_adds_34 rfl 1 rfl ?_
    refine go_geti (i := 0) X fc12 dX12_adds_35 trn0 tr0 (Nat.le_of_ble_eq_true rfl) rfl lw941 rfl (fun v8 hv8 => ?_)
    refine go_dup2 X dX12_adds_38 rfl rfl ?_
    refine go_iaload X dX12_adds_39 trn2 tr2 hv8 (fun v9 hv9 => ?_)
    refine go_iconst (v := 1) X dX12_adds_40 rfl ?_
    refine go_iadd X dX12_adds_41 hv9 kI_1 (fun v10 hv10 => ?_)
    refine go_iastore X dX12_adds_42 trn2 tr2 hv8 hv10 (fun M11 => ?_)
    refine go_iload_n X dX12_adds_43 rfl 2 rfl ?_
    refine go_iconst (v := 4) X dX12_adds_44 rfl ?_
    refine go_lt (fun J => ∀ (M12 : Mm), Go p l e (rmO 0 0) s m args below meth c D TR 67 base 3 0 0 (FinV D TR 67 base below args s) M12 111 [] [] (J M12)) (by
        intro M12
        exact go_vreturn X hrt hlk dX12_adds_111
        )
        (fun J111_13 hJ111_13 => ?_)
    refine go_icmp_ge (tgt := 81) X dX12_adds_45 rfl ha1 kI_4 (fun c14 => ?_) (fun c14 => ?_)
    · refine go_aload_n X dX12_adds_81 rfl 1 rfl ?_
      refine go_getc (i := 7) X fc12 dX12_adds_82 trn0 tr0 (Nat.le_of_ble_eq_true rfl) rfl lw872 rfl ?_
      refine go_iload_n X dX12_adds_85 rfl 0 rfl ?_
      refine go_aload_n X dX12_adds_86 rfl 1 rfl ?_
      refine go_getc (i := 6) X fc12 dX12_adds_87 trn0 tr0 (Nat.le_of_ble_eq_true rfl) rfl lw871 rfl ?_
      refine go_aload_n X dX12_adds_90 rfl 1 rfl ?_
      refine go_geti (i := 0) X fc12 dX12_adds_91 trn0 tr0 (Nat.le_of_ble_eq_true rfl) rfl lw941 rfl (fun v15 hv15 => ?_)
      refine go_iaload X dX12_adds_94 trn6 tr6 hv15 (fun v16 hv16 => ?_)
      refine go_iadd X dX12_adds_95 hv2 hv16 (fun v17 hv17 => ?_)
      refine go_iload_n X dX12_adds_96 rfl 2 rfl ?_
      refine go_iastore X dX12_adds_97 trn7 tr7 hv17 ha1 (fun M18 => ?_)
      refine go_aload_n X dX12_adds_98 rfl 1 rfl ?_
      refine go_getc (i := 6) X fc12 dX12_adds_99 trn0 tr0 (Nat.le_of_ble_eq_true rfl) rfl lw871 rfl ?_
      refine go_aload_n X dX12_adds_102 rfl 1 rfl ?_
      refine go_geti (i := 0) X fc12 dX12_adds_103 trn0 tr0 (Nat.le_of_ble_eq_true rfl) rfl lw941 rfl (fun v19 hv19 => ?_)
      refine go_dup2 X dX12_adds_106 rfl rfl ?_
      refine go_iaload X dX12_adds_107 trn6 tr6 hv19 (fun v20 hv20 => ?_)
      refine go_iconst (v := 1) X dX12_adds_108 rfl ?_
      refine go_iadd X dX12_adds_109 hv20 kI_1 (fun v21 hv21 => ?_)
      refine go_iastore X dX12_adds_110 trn6 tr6 hv19 hv21 (fun M22 => ?_)
      refine go_sub [] rfl ?_
      exact hJ111_13 M22
    · refine go_aload_n X dX12_adds_48 rfl 1 rfl ?_
      refine go_getc (i := 5) X fc12 dX12_adds_49 trn0 tr0 (Nat.le_of_ble_eq_true rfl) rfl lw870 rfl ?_
      refine go_iload_n X dX12_adds_52 rfl 0 rfl ?_
      refine go_aload_n X dX12_adds_53 rfl 1 rfl ?_
      refine go_getc (i := 4) X fc12 dX12_adds_54 trn0 tr0 (Nat.le_of_ble_eq_true rfl) rfl lw869 rfl ?_
      refine go_aload_n X dX12_adds_57 rfl 1 rfl ?_
      refine go_geti (i := 0) X fc12 dX12_adds_58 trn0 tr0 (Nat.le_of_ble_eq_true rfl) rfl lw941 rfl (fun v23 hv23 => ?_)
      refine go_iaload X dX12_adds_61 trn4 tr4 hv23 (fun v24 hv24 => ?_)
      refine go_iadd X dX12_adds_62 hv2 hv24 (fun v25 hv25 => ?_)
      refine go_iload_n X dX12_adds_63 rfl 2 rfl ?_
      refine go_iastore X dX12_adds_64 trn5 tr5 hv25 ha1 (fun M26 => ?_)
      refine go_aload_n X dX12_adds_65 rfl 1 rfl ?_
      refine go_getc (i := 4) X fc12 dX12_adds_66 trn0 tr0 (Nat.le_of_ble_eq_true rfl) rfl lw869 rfl ?_
      refine go_aload_n X dX12_adds_69 rfl 1 rfl ?_
      refine go_geti (i := 0) X fc12 dX12_adds_70 trn0 tr0 (Nat.le_of_ble_eq_true rfl) rfl lw941 rfl (fun v27 hv27 => ?_)
      refine go_dup2 X dX12_adds_73 rfl rfl ?_
      refine go_iaload X dX12_adds_74 trn4 tr4 hv27 (fun v28 hv28 => ?_)
      refine go_iconst (v := 1) X dX12_adds_75 rfl ?_
      refine go_iadd X dX12_adds_76 hv28 kI_1 (fun v29 hv29 => ?_)
      refine go_iastore X dX12_adds_77 trn4 tr4 hv27 hv29 (fun M30 => ?_)
      refine go_goto (tgt := 111) X dX12_adds_78 rfl ?_
      refine go_sub [] rfl ?_
      exact hJ111_13 M30
  · exact go_vreturn X hrt hlk dX12_adds_12
def f_X12_production (a1 : Int) (a2 : Int) (a3 : Int) (a4 : Int) (M : Mm) : Rs :=
Cl (f_X12_isSymbol a2 M) fun v2 M1 =>
Lt (fun (v3 : Int) (M4 : Mm) => 
Cl (f_X12_isIn a1 0 3 M4) fun v7 M6 =>
Lt (fun (v8 : Int) (M9 : Mm) => 
Cl (f_X12_fails v8 M9) fun v12 M11 =>
if v12 = 0 then (
Lt (M11 0 0) fun v14 =>
gd (0 ≤ v14 ∧ v14 < 10) <|
Lt (up M11 1 v14.toNat a1) fun M15 =>
Cl (f_X12_adds a2 M15) fun _ M16 =>
Cl (f_X12_adds a3 M16) fun _ M17 =>
Cl (f_X12_adds a4 M17) fun _ M18 =>
Lt (M18 0 0) fun v19 =>
Lt (wr (v19 + 1)) fun v20 =>
Lt (up M18 0 0 v20) fun M21 =>
Cl (f_X12_dropsAll M21) fun _ M22 =>
Lt (M22 0 0) fun v23 =>
Lt (wr (v23 - 1)) fun v24 =>
some (v24, M22)) else (
some (0, M11))) fun J87_10 =>
if ¬ v7 = 0 then (
if ¬ v3 = 0 then (
Lt (M6 0 0) fun v27 =>
if ¬ v27 = 10 then (
J87_10 0 M6) else (
J87_10 3 M6)) else (
J87_10 2 M6)) else (
J87_10 1 M6)) fun J48_5 =>
Lt (fun (M29 : Mm) => 
J48_5 0 M29) fun J47_30 =>
if v2 = 0 then (
J47_30 M1) else (
Cl (f_X12_isSymbol a3 M1) fun v33 M32 =>
if v33 = 0 then (
J47_30 M32) else (
Cl (f_X12_isSymbol a4 M32) fun v36 M35 =>
if v36 = 0 then (
J47_30 M35) else (
Lt (fun (M38 : Mm) => 
Lt (fun (M40 : Mm) => 
J48_5 1 M40) fun J43_41 =>
if ¬ a3 = ((-1)) then (
J43_41 M38) else (
if ¬ a4 = ((-1)) then (
J47_30 M38) else (
J43_41 M38))) fun J32_39 =>
if ¬ a2 = ((-1)) then (
J32_39 M35) else (
if ¬ a3 = ((-1)) then (
J47_30 M35) else (
J32_39 M35)))))
theorem cy_X12_production : yX12_production.cls ≠ "java/lang/invoke/MethodHandle" ∧ yX12_production.cls ≠ "java/lang/invoke/VarHandle" ∧ (parseMethodDescriptor yX12_production.desc).map (fun d => d.parameters.length) = some 4 := ⟨by decide +kernel, by decide +kernel, by decide +kernel⟩
set_option maxRecDepth 20000 in
theorem ok_X12_production (l : Launch) (D : Dd) (base : Nat) (M : Mm) (a1 : Int) (ha1 : i32 a1) (a2 : Int) (ha2 : i32 a2) (a3 : Int) (ha3 : i32 a3) (a4 : Int) (ha4 : i32 a4) : OkI l D TR 67 base yX12_production cX12_production 6 (some .int) 2 42 [.ref (base + 0), .int (Ii a1), .int (Ii a2), .int (Ii a3), .int (Ii a4)] M i32 (f_X12_production a1 a2 a3 a4 M) := by
  refine metI (by decide +kernel) [(0, .ref (base + 0)), (1, .int (Ii a1)), (2, .int (Ii a2)), (3, .int (Ii a3)), (4, .int (Ii a4))] rfl (Nat.le_of_ble_eq_true rfl) (fun p e s m args below meth c X hrt hlk => ?_)
  have X : Cx p s m args c cX12_production D 6 RX12 := X
  unfold f_X12_production
  refine go_iload_n X dX12_production_0 rfl 2 rfl ?_
  refine goI (fun H locs ls r ho hW hL => runS X (ok_X12_isSymbol l D base M a2 ha2 H.size r ho) dX12_production_1 lw952 lw953 lw944 ⟨lw950, cy_X12_isSymbol, Nat.le_of_ble_eq_true rfl, Nat.le_of_ble_eq_true rfl⟩ rfl rfl (Nat.le_of_ble_eq_true rfl) hW hL hk0) (fun v2 M1 hv2 => ?_)
  refine go_lt (fun J => ∀ (v3 : Int) (M4 : Mm), bo v3 → Go p l e (rmO 2 42) s m args below meth c D TR 67 base 6 0 0 (FinI D TR 67 base below args s i32) M4 48 [(0, .ref (base + 0)), (1, .int (Ii a1)), (2, .int (Ii a2)), (3, .int (Ii a3)), (4, .int (Ii a4))] [.int (Ii v3)] (J v3 M4)) (by
      intro v3 M4 hv3
      refine go_istore (i := 5) (L' := [(5, .int (Ii v3)), (0, .ref (base + 0)), (1, .int (Ii a1)), (2, .int (Ii a2)), (3, .int (Ii a3)), (4, .int (Ii a4))]) X dX12_production_48 (by decide) rfl ?_
      refine go_aload_n X dX12_production_50 rfl 1 rfl ?_
      refine go_iload_n X dX12_production_51 rfl 2 rfl ?_
      refine go_iconst (v := 0) X dX12_production_52 rfl ?_
      refine go_iconst (v := 3) X dX12_production_53 rfl ?_
      refine goI (fun H locs ls r ho hW hL => runS X (ok_X12_isIn l D base M4 a1 ha1 0 kI_0 3 kI_3 H.size r ho) dX12_production_54 lw942 lw943 lw944 ⟨lw939, cy_X12_isIn, Nat.le_of_ble_eq_true rfl, Nat.le_of_ble_eq_true rfl⟩ rfl rfl (Nat.le_of_ble_eq_true rfl) hW hL hk0) (fun v7 M6 hv7 => ?_)
      refine go_lt (fun J => ∀ (v8 : Int) (M9 : Mm), i32 v8 → Go p l e (rmO 2 42) s m args below meth c D TR 67 base 6 0 0 (FinI D TR 67 base below args s i32) M9 87 [(0, .ref (base + 0)), (1, .int (Ii a1)), (2, .int (Ii a2)), (3, .int (Ii a3)), (4, .int (Ii a4))] [.int (Ii v8), .ref (base + 0)] (J v8 M9)) (by
          intro v8 M9 hv8
          refine goI (fun H locs ls r ho hW hL => runV X (ok_X12_fails l D base M9 v8 hv8 H.size r ho) dX12_production_87 lw954 lw955 lw956 lw944 ⟨lw937, cy_X12_fails, Nat.le_of_ble_eq_true rfl, Nat.le_of_ble_eq_true rfl⟩ rfl trn0 tr0 rfl rfl rfl rfl (Nat.le_of_ble_eq_true rfl) hW hL hk0) (fun v12 M11 hv12 => ?_)
          refine go_if_eq (tgt := 95) X dX12_production_90 rfl (bo_i32 hv12) (fun c13 => ?_) (fun c13 => ?_)
          · refine go_aload_n X dX12_production_95 rfl 0 rfl ?_
            refine go_getc (i := 1) X fc12 dX12_production_96 trn0 tr0 (Nat.le_of_ble_eq_true rfl) rfl lw866 rfl ?_
            refine go_aload_n X dX12_production_99 rfl 0 rfl ?_
            refine go_geti (i := 0) X fc12 dX12_production_100 trn0 tr0 (Nat.le_of_ble_eq_true rfl) rfl lw941 rfl (fun v14 hv14 => ?_)
            refine go_iload_n X dX12_production_103 rfl 1 rfl ?_
            refine go_iastore X dX12_production_104 trn1 tr1 hv14 ha1 (fun M15 => ?_)
            refine go_aload_n X dX12_production_105 rfl 0 rfl ?_
            refine go_iload_n X dX12_production_106 rfl 2 rfl ?_
            refine goV (fun H locs ls r ho hW hL => runV X (ok_X12_adds l D base M15 a2 ha2 H.size r ho) dX12_production_107 lw957 lw958 lw959 lw944 ⟨lw951, cy_X12_adds, Nat.le_of_ble_eq_true rfl, Nat.le_of_ble_eq_true rfl⟩ rfl trn0 tr0 rfl rfl rfl rfl (Nat.le_of_ble_eq_true rfl) hW hL hk0) (fun _ M16 => ?_)
            refine go_aload_n X dX12_production_110 rfl 0 rfl ?_
            refine go_iload_n X dX12_production_111 rfl 3 rfl ?_
            refine goV (fun H locs ls r ho hW hL => runV X (ok_X12_adds l D base M16 a3 ha3 H.size r ho) dX12_production_112 lw957 lw958 lw959 lw944 ⟨lw951, cy_X12_adds, Nat.le_of_ble_eq_true rfl, Nat.le_of_ble_eq_true rfl⟩ rfl trn0 tr0 rfl rfl rfl rfl (Nat.le_of_ble_eq_true rfl) hW hL hk0) (fun _ M17 => ?_)
            refine go_aload_n X dX12_production_115 rfl 0 rfl ?_
            refine go_iload X dX12_production_116 4 rfl ?_
            refine goV (fun H locs ls r ho hW hL => runV X (ok_X12_adds l D base M17 a4 ha4 H.size r ho) dX12_production_118 lw957 lw958 lw959 lw944 ⟨lw951, cy_X12_adds, Nat.le_of_ble_eq_true rfl, Nat.le_of_ble_eq_true rfl⟩ rfl trn0 tr0 rfl rfl rfl rfl (Nat.le_of_ble_eq_true rfl) hW hL hk0) (fun _ M18 => ?_)
            refine go_aload_n X dX12_production_121 rfl 0 rfl ?_
            refine go_dup X dX12_production_122 rfl ?_
            refine go_geti (i := 0) X fc12 dX12_production_123 trn0 tr0 (Nat.le_of_ble_eq_true rfl) rfl lw941 rfl (fun v19 hv19 => ?_)
            refine go_iconst (v := 1) X dX12_production_126 rfl ?_
            refine go_iadd X dX12_production_127 hv19 kI_1 (fun v20 hv20 => ?_)
            refine go_puti (i := 0) X fc12 dX12_production_128 trn0 tr0 (Nat.le_of_ble_eq_true rfl) rfl lw941 rfl rfl rfl hv20 (fun M21 => ?_)
            refine go_aload_n X dX12_production_131 rfl 0 rfl ?_
            refine goV (fun H locs ls r ho hW hL => runV X (ok_X12_dropsAll l D base M21  H.size r ho) dX12_production_132 lw960 lw961 lw962 lw944 ⟨lw949, cy_X12_dropsAll, Nat.le_of_ble_eq_true rfl, Nat.le_of_ble_eq_true rfl⟩ rfl trn0 tr0 rfl rfl rfl rfl (Nat.le_of_ble_eq_true rfl) hW hL hk0) (fun _ M22 => ?_)
            refine go_aload_n X dX12_production_135 rfl 0 rfl ?_
            refine go_geti (i := 0) X fc12 dX12_production_136 trn0 tr0 (Nat.le_of_ble_eq_true rfl) rfl lw941 rfl (fun v23 hv23 => ?_)
            refine go_iconst (v := 1) X dX12_production_139 rfl ?_
            refine go_isub X dX12_production_140 hv23 kI_1 (fun v24 hv24 => ?_)
            exact go_ireturn X hrt hlk dX12_production_141 hv24
          · refine go_iconst (v := 0) X dX12_production_93 rfl ?_
            exact go_ireturn X hrt hlk dX12_production_94 kI_0
          )
          (fun J87_10 hJ87_10 => ?_)
      refine go_if_ne (tgt := 64) X dX12_production_57 rfl (bo_i32 hv7) (fun c25 => ?_) (fun c25 => ?_)
      · refine go_iload X dX12_production_64 0 rfl ?_
        refine go_if_ne (tgt := 73) X dX12_production_66 rfl (bo_i32 hv3) (fun c26 => ?_) (fun c26 => ?_)
        · refine go_aload_n X dX12_production_73 rfl 1 rfl ?_
          refine go_geti (i := 0) X fc12 dX12_production_74 trn0 tr0 (Nat.le_of_ble_eq_true rfl) rfl lw941 rfl (fun v27 hv27 => ?_)
          refine go_bipush (v := 10) X dX12_production_77 (by decide) ?_
          refine go_icmp_ne (tgt := 86) X dX12_production_79 rfl hv27 kI_10 (fun c28 => ?_) (fun c28 => ?_)
          · refine go_iconst (v := 0) X dX12_production_86 rfl ?_
            refine go_sub [1, 2, 3, 4, 5] rfl ?_
            exact hJ87_10 0 M6 kI_0
          · refine go_iconst (v := 3) X dX12_production_82 rfl ?_
            refine go_goto (tgt := 87) X dX12_production_83 rfl ?_
            refine go_sub [1, 2, 3, 4, 5] rfl ?_
            exact hJ87_10 3 M6 kI_3
        · refine go_iconst (v := 2) X dX12_production_69 rfl ?_
          refine go_goto (tgt := 87) X dX12_production_70 rfl ?_
          refine go_sub [1, 2, 3, 4, 5] rfl ?_
          exact hJ87_10 2 M6 kI_2
      · refine go_iconst (v := 1) X dX12_production_60 rfl ?_
        refine go_goto (tgt := 87) X dX12_production_61 rfl ?_
        refine go_sub [1, 2, 3, 4, 5] rfl ?_
        exact hJ87_10 1 M6 kI_1
      )
      (fun J48_5 hJ48_5 => ?_)
  refine go_lt (fun J => ∀ (M29 : Mm), Go p l e (rmO 2 42) s m args below meth c D TR 67 base 6 0 0 (FinI D TR 67 base below args s i32) M29 47 [(0, .ref (base + 0)), (1, .int (Ii a1)), (2, .int (Ii a2)), (3, .int (Ii a3)), (4, .int (Ii a4))] [] (J M29)) (by
      intro M29
      refine go_iconst (v := 0) X dX12_production_47 rfl ?_
      exact hJ48_5 0 M29 (Or.inl rfl)
      )
      (fun J47_30 hJ47_30 => ?_)
  refine go_if_eq (tgt := 47) X dX12_production_4 rfl (bo_i32 hv2) (fun c31 => ?_) (fun c31 => ?_)
  · exact hJ47_30 M1
  · refine go_iload_n X dX12_production_7 rfl 3 rfl ?_
    refine goI (fun H locs ls r ho hW hL => runS X (ok_X12_isSymbol l D base M1 a3 ha3 H.size r ho) dX12_production_8 lw952 lw953 lw944 ⟨lw950, cy_X12_isSymbol, Nat.le_of_ble_eq_true rfl, Nat.le_of_ble_eq_true rfl⟩ rfl rfl (Nat.le_of_ble_eq_true rfl) hW hL hk0) (fun v33 M32 hv33 => ?_)
    refine go_if_eq (tgt := 47) X dX12_production_11 rfl (bo_i32 hv33) (fun c34 => ?_) (fun c34 => ?_)
    · exact hJ47_30 M32
    · refine go_iload X dX12_production_14 4 rfl ?_
      refine goI (fun H locs ls r ho hW hL => runS X (ok_X12_isSymbol l D base M32 a4 ha4 H.size r ho) dX12_production_16 lw952 lw953 lw944 ⟨lw950, cy_X12_isSymbol, Nat.le_of_ble_eq_true rfl, Nat.le_of_ble_eq_true rfl⟩ rfl rfl (Nat.le_of_ble_eq_true rfl) hW hL hk0) (fun v36 M35 hv36 => ?_)
      refine go_if_eq (tgt := 47) X dX12_production_19 rfl (bo_i32 hv36) (fun c37 => ?_) (fun c37 => ?_)
      · exact hJ47_30 M35
      · refine go_iload_n X dX12_production_22 rfl 2 rfl ?_
        refine go_iconst (v := (-1)) X dX12_production_23 rfl ?_
        refine go_lt (fun J => ∀ (M38 : Mm), Go p l e (rmO 2 42) s m args below meth c D TR 67 base 6 0 0 (FinI D TR 67 base below args s i32) M38 32 [(0, .ref (base + 0)), (1, .int (Ii a1)), (2, .int (Ii a2)), (3, .int (Ii a3)), (4, .int (Ii a4))] [] (J M38)) (by
            intro M38
            refine go_iload_n X dX12_production_32 rfl 3 rfl ?_
            refine go_iconst (v := (-1)) X dX12_production_33 rfl ?_
            refine go_lt (fun J => ∀ (M40 : Mm), Go p l e (rmO 2 42) s m args below meth c D TR 67 base 6 0 0 (FinI D TR 67 base below args s i32) M40 43 [(0, .ref (base + 0)), (1, .int (Ii a1)), (2, .int (Ii a2)), (3, .int (Ii a3)), (4, .int (Ii a4))] [] (J M40)) (by
                intro M40
                refine go_iconst (v := 1) X dX12_production_43 rfl ?_
                refine go_goto (tgt := 48) X dX12_production_44 rfl ?_
                exact hJ48_5 1 M40 (Or.inr rfl)
                )
                (fun J43_41 hJ43_41 => ?_)
            refine go_icmp_ne (tgt := 43) X dX12_production_34 rfl ha3 kI_m1 (fun c42 => ?_) (fun c42 => ?_)
            · exact hJ43_41 M38
            · refine go_iload X dX12_production_37 4 rfl ?_
              refine go_iconst (v := (-1)) X dX12_production_39 rfl ?_
              refine go_icmp_ne (tgt := 47) X dX12_production_40 rfl ha4 kI_m1 (fun c43 => ?_) (fun c43 => ?_)
              · exact hJ47_30 M38
              · exact hJ43_41 M38
            )
            (fun J32_39 hJ32_39 => ?_)
        refine go_icmp_ne (tgt := 32) X dX12_production_24 rfl ha2 kI_m1 (fun c44 => ?_) (fun c44 => ?_)
        · exact hJ32_39 M35
        · refine go_iload_n X dX12_production_27 rfl 3 rfl ?_
          refine go_iconst (v := (-1)) X dX12_production_28 rfl ?_
          refine go_icmp_ne (tgt := 47) X dX12_production_29 rfl ha3 kI_m1 (fun c45 => ?_) (fun c45 => ?_)
          · exact hJ47_30 M35
          · exact hJ32_39 M35
def f_X12_nth (a1 : Int) (a2 : Int) (a3 : Int) (a4 : Int) (M : Mm) : Rs :=
Lt (fun (v1 : Int) (M2 : Mm) => 
some (v1, M2)) fun J18_3 =>
if ¬ a1 = 0 then (
if ¬ a1 = 1 then (
J18_3 a4 M) else (
J18_3 a3 M)) else (
J18_3 a2 M)
theorem cy_X12_nth : yX12_nth.cls ≠ "java/lang/invoke/MethodHandle" ∧ yX12_nth.cls ≠ "java/lang/invoke/VarHandle" ∧ (parseMethodDescriptor yX12_nth.desc).map (fun d => d.parameters.length) = some 4 := ⟨by decide +kernel, by decide +kernel, by decide +kernel⟩
set_option maxRecDepth 20000 in
theorem ok_X12_nth (l : Launch) (D : Dd) (base : Nat) (M : Mm) (a1 : Int) (ha1 : i32 a1) (a2 : Int) (ha2 : i32 a2) (a3 : Int) (ha3 : i32 a3) (a4 : Int) (ha4 : i32 a4) : OkI l D TR 67 base yX12_nth cX12_nth 4 (some .int) 0 0 [.int (Ii a1), .int (Ii a2), .int (Ii a3), .int (Ii a4)] M i32 (f_X12_nth a1 a2 a3 a4 M) := by
  refine metI (by decide +kernel) [(0, .int (Ii a1)), (1, .int (Ii a2)), (2, .int (Ii a3)), (3, .int (Ii a4))] rfl (Nat.le_of_ble_eq_true rfl) (fun p e s m args below meth c X hrt hlk => ?_)
  have X : Cx p s m args c cX12_nth D 4 RX12 := X
  unfold f_X12_nth
  refine go_iload_n X dX12_nth_0 rfl 0 rfl ?_
  refine go_lt (fun J => ∀ (v1 : Int) (M2 : Mm), i32 v1 → Go p l e (rmO 0 0) s m args below meth c D TR 67 base 4 0 0 (FinI D TR 67 base below args s i32) M2 18 [] [.int (Ii v1)] (J v1 M2)) (by
      intro v1 M2 hv1
      exact go_ireturn X hrt hlk dX12_nth_18 hv1
      )
      (fun J18_3 hJ18_3 => ?_)
  refine go_if_ne (tgt := 8) X dX12_nth_1 rfl ha1 (fun c4 => ?_) (fun c4 => ?_)
  · refine go_iload_n X dX12_nth_8 rfl 0 rfl ?_
    refine go_iconst (v := 1) X dX12_nth_9 rfl ?_
    refine go_icmp_ne (tgt := 17) X dX12_nth_10 rfl ha1 kI_1 (fun c5 => ?_) (fun c5 => ?_)
    · refine go_iload_n X dX12_nth_17 rfl 3 rfl ?_
      refine go_sub [] rfl ?_
      exact hJ18_3 a4 M ha4
    · refine go_iload_n X dX12_nth_13 rfl 2 rfl ?_
      refine go_goto (tgt := 18) X dX12_nth_14 rfl ?_
      refine go_sub [] rfl ?_
      exact hJ18_3 a3 M ha3
  · refine go_iload_n X dX12_nth_4 rfl 1 rfl ?_
    refine go_goto (tgt := 18) X dX12_nth_5 rfl ?_
    refine go_sub [] rfl ?_
    exact hJ18_3 a2 M ha2
def f_X12_forward_L237_34 (a1 : Int) (a3 : Int) (a4 : Int) (a5 : Int) (J270_22 : Mm → Rs) (rc237_26 : Int × Mm → Rs) : Int × Mm → Rs := fun (v24, M25) =>
if 3 ≤ v24 then (
J270_22 M25) else (
Lt (wr (3 * a1)) fun v28 =>
Lt (wr (v28 + v24)) fun v29 =>
Cl (f_X12_nth v24 a3 a4 a5 M25) fun v31 M30 =>
gd (0 ≤ v29 ∧ v29 < 30) <|
Lt (up M30 9 v29.toNat v31) fun M32 =>
Lt (wr (v24 + 1)) fun v33 =>
rc237_26 (v33, M32))
def f_X12_forward_L68_91 (a1 : Int) (a2 : Int) (a3 : Int) (a4 : Int) (a5 : Int) (J191_12 : Int → Int → Mm → Rs) (rc68_41 : Int × Int × Int × Mm → Rs) : Int × Int × Int × Mm → Rs := fun (v37, v38, v39, M40) =>
if 3 ≤ v39 then (
J191_12 v37 v38 M40) else (
if v37 = 0 then (
J191_12 v37 v38 M40) else (
Cl (f_X12_nth v39 a3 a4 a5 M40) fun v45 M44 =>
Lt (fun (v46 : Int) (v47 : Int) (v48 : Int) (M49 : Mm) => 
Lt (wr (v48 + 1)) fun v51 =>
rc68_41 (v46, v47, v51, M49)) fun J185_50 =>
Lt (fun (v52 : Int) (v53 : Int) (v54 : Int) (M55 : Mm) => 
Lt (fun (v57 : Int) (v58 : Int) (v59 : Int) (M60 : Mm) => 
J185_50 v57 v59 v58 M60) fun J183_61 =>
Lt (fun (v62 : Int) (v63 : Int) (M64 : Mm) => 
J183_61 v62 v63 0 M64) fun J182_65 =>
if v53 = 0 then (
J182_65 v52 v54 M55) else (
if ¬ v45 = 0 then (
J182_65 v52 v54 M55) else (
J183_61 v52 v54 1 M55))) fun J168_56 =>
if a2 = ((-1)) then (
J168_56 v37 v38 v39 M44) else (
gd (0 ≤ a2 ∧ a2 < 10) <|
Lt (M44 4 a2.toNat) fun v69 =>
if v69 ≤ v39 then (
J168_56 v37 v38 v39 M44) else (
gd (0 ≤ a1 ∧ a1 < 10) <|
Lt (M44 4 a1.toNat) fun v71 =>
Lt (wr (v71 - 1)) fun v72 =>
Cl (f_X12_isIn v45 0 v72 M44) fun v74 M73 =>
Lt (fun (v75 : Int) (v76 : Int) (M77 : Mm) => 
J185_50 v74 v76 v75 M77) fun J163_78 =>
Lt (fun (v79 : Int) (M80 : Mm) => 
J163_78 v79 0 M80) fun J162_81 =>
if v38 = 0 then (
J162_81 v39 M73) else (
if v74 = 0 then (
J162_81 v39 M73) else (
Lt (wr (3 * a2)) fun v84 =>
Lt (wr (v84 + v39)) fun v85 =>
gd (0 ≤ v85 ∧ v85 < 30) <|
Lt (M73 5 v85.toNat) fun v86 =>
Lt (wr (3 * a1)) fun v87 =>
Lt (wr (v87 + v45)) fun v88 =>
gd (0 ≤ v88 ∧ v88 < 30) <|
Lt (M73 5 v88.toNat) fun v89 =>
if ¬ v86 = v89 then (
J162_81 v39 M73) else (
J163_78 v39 1 M73)))))))
def f_X12_forward (a1 : Int) (a2 : Int) (a3 : Int) (a4 : Int) (a5 : Int) (M : Mm) : Rs :=
Cl (f_X12_isProduction a1 M) fun v2 M1 =>
Lt (fun (v3 : Int) (M4 : Mm) => 
Lt (fun (v6 : Int) (M7 : Mm) => 
Lt (fun (v9 : Int) (v10 : Int) (M11 : Mm) => 
Lt (fun (v13 : Int) (M14 : Mm) => 
Cl (f_X12_fails v13 M14) fun v17 M16 =>
if v17 = 0 then (
gd (0 ≤ a1 ∧ a1 < 10) <|
Lt (M16 8 a1.toNat) fun v19 =>
gd (0 ≤ a1 ∧ a1 < 10) <|
Lt (up M16 8 a1.toNat a2) fun M20 =>
Lt (fun (M21 : Mm) => 
Cl (f_X12_dropsAll M21) fun _ M23 =>
some (v19, M23)) fun J270_22 =>
Lp (f_X12_forward_L237_34 a1 a3 a4 a5 J270_22) FU (0, M20)) else (
some (0, M16))) fun J211_15 =>
if ¬ v9 = 0 then (
if v10 = 0 then (
J211_15 2 M11) else (
J211_15 0 M11)) else (
J211_15 1 M11)) fun J191_12 =>
Lp (f_X12_forward_L68_91 a1 a2 a3 a4 a5 J191_12) FU (v3, v6, 0, M7)) fun J63_8 =>
Lt (fun (M92 : Mm) => 
J63_8 0 M92) fun J62_93 =>
if v3 = 0 then (
J62_93 M4) else (
if a2 = a1 then (
J62_93 M4) else (
Lt (fun (M96 : Mm) => 
J63_8 1 M96) fun J58_97 =>
if a2 = ((-1)) then (
J58_97 M4) else (
gd (0 ≤ a2 ∧ a2 < 10) <|
Lt (M4 1 a2.toNat) fun v99 =>
gd (0 ≤ a1 ∧ a1 < 10) <|
Lt (M4 1 a1.toNat) fun v100 =>
if ¬ v99 = v100 then (
J62_93 M4) else (
J58_97 M4))))) fun J26_5 =>
Lt (fun (M102 : Mm) => 
J26_5 0 M102) fun J25_103 =>
if v2 = 0 then (
J25_103 M1) else (
Lt (fun (M105 : Mm) => 
J26_5 1 M105) fun J21_106 =>
if a2 = ((-1)) then (
J21_106 M1) else (
Cl (f_X12_isProduction a2 M1) fun v109 M108 =>
if v109 = 0 then (
J25_103 M108) else (
J21_106 M108)))
theorem cy_X12_forward : yX12_forward.cls ≠ "java/lang/invoke/MethodHandle" ∧ yX12_forward.cls ≠ "java/lang/invoke/VarHandle" ∧ (parseMethodDescriptor yX12_forward.desc).map (fun d => d.parameters.length) = some 5 := ⟨by decide +kernel, by decide +kernel, by decide +kernel⟩
set_option maxRecDepth 20000 in
theorem ok_X12_forward (l : Launch) (D : Dd) (base : Nat) (M : Mm) (a1 : Int) (ha1 : i32 a1) (a2 : Int) (ha2 : i32 a2) (a3 : Int) (ha3 : i32 a3) (a4 : Int) (ha4 : i32 a4) (a5 : Int) (ha5 : i32 a5) : OkI l D TR 67 base yX12_forward cX12_forward 10 (some .int) 2 43 [.ref (base + 0), .int (Ii a1), .int (Ii a2), .int (Ii a3), .int (Ii a4), .int (Ii a5)] M i32 (f_X12_forward a1 a2 a3 a4 a5 M) := by
  refine metI (by decide +kernel) [(0, .ref (base + 0)), (1, .int (Ii a1)), (2, .int (Ii a2)), (3, .int (Ii a3)), (4, .int (Ii a4)), (5, .int (Ii a5))] rfl (Nat.le_of_ble_eq_true rfl) (fun p e s m args below meth c X hrt hlk => ?_)
  have X : Cx p s m args c cX12_forward D 10 RX12 := X
  unfold f_X12_forward
  refine go_aload_n X dX12_forward_0 rfl 0 rfl ?_
  refine go_iload_n X dX12_forward_1 rfl 1 rfl ?_
  refine goI (fun H locs ls r ho hW hL => runV X (ok_X12_isProduction l D base M a1 ha1 H.size r ho) dX12_forward_2 lw965 lw966 lw967 lw944 ⟨lw940, cy_X12_isProduction, Nat.le_of_ble_eq_true rfl, Nat.le_of_ble_eq_true rfl⟩ rfl trn0 tr0 rfl rfl rfl rfl (Nat.le_of_ble_eq_true rfl) hW hL hk0) (fun v2 M1 hv2 => ?_)
  refine go_lt (fun J => ∀ (v3 : Int) (M4 : Mm), bo v3 → Go p l e (rmO 2 43) s m args below meth c D TR 67 base 10 0 0 (FinI D TR 67 base below args s i32) M4 26 [(0, .ref (base + 0)), (1, .int (Ii a1)), (2, .int (Ii a2)), (3, .int (Ii a3)), (4, .int (Ii a4)), (5, .int (Ii a5))] [.int (Ii v3)] (J v3 M4)) (by
      intro v3 M4 hv3
      refine go_istore (i := 6) (L' := [(6, .int (Ii v3)), (0, .ref (base + 0)), (1, .int (Ii a1)), (2, .int (Ii a2)), (3, .int (Ii a3)), (4, .int (Ii a4)), (5, .int (Ii a5))]) X dX12_forward_26 (by decide) rfl ?_
      refine go_iload X dX12_forward_28 0 rfl ?_
      refine go_lt (fun J => ∀ (v6 : Int) (M7 : Mm), bo v6 → Go p l e (rmO 2 43) s m args below meth c D TR 67 base 10 0 0 (FinI D TR 67 base below args s i32) M7 63 [(0, .ref (base + 0)), (1, .int (Ii a1)), (2, .int (Ii a2)), (3, .int (Ii a3)), (4, .int (Ii a4)), (5, .int (Ii a5)), (6, .int (Ii v3))] [.int (Ii v6)] (J v6 M7)) (by
          intro v6 M7 hv6
          refine go_istore (i := 7) (L' := [(7, .int (Ii v6)), (0, .ref (base + 0)), (1, .int (Ii a1)), (2, .int (Ii a2)), (3, .int (Ii a3)), (4, .int (Ii a4)), (5, .int (Ii a5)), (6, .int (Ii v3))]) X dX12_forward_63 (by decide) rfl ?_
          refine go_iconst (v := 0) X dX12_forward_65 rfl ?_
          refine go_istore (i := 8) (L' := [(8, .int (Ii 0)), (7, .int (Ii v6)), (0, .ref (base + 0)), (1, .int (Ii a1)), (2, .int (Ii a2)), (3, .int (Ii a3)), (4, .int (Ii a4)), (5, .int (Ii a5)), (6, .int (Ii v3))]) X dX12_forward_66 (by decide) rfl ?_
          refine go_lt (fun J => ∀ (v9 : Int) (v10 : Int) (M11 : Mm), bo v9 → bo v10 → Go p l e (rmO 2 43) s m args below meth c D TR 67 base 10 0 0 (FinI D TR 67 base below args s i32) M11 191 [(0, .ref (base + 0)), (1, .int (Ii a1)), (2, .int (Ii a2)), (3, .int (Ii a3)), (4, .int (Ii a4)), (5, .int (Ii a5)), (6, .int (Ii v9)), (7, .int (Ii v10))] [] (J v9 v10 M11)) (by
              intro v9 v10 M11 hv9 hv10
              refine go_aload_n X dX12_forward_191 rfl 0 rfl ?_
              refine go_iload X dX12_forward_192 6 rfl ?_
              refine go_lt (fun J => ∀ (v13 : Int) (M14 : Mm), i32 v13 → Go p l e (rmO 2 43) s m args below meth c D TR 67 base 10 0 0 (FinI D TR 67 base below args s i32) M14 211 [(0, .ref (base + 0)), (1, .int (Ii a1)), (2, .int (Ii a2)), (3, .int (Ii a3)), (4, .int (Ii a4)), (5, .int (Ii a5))] [.int (Ii v13), .ref (base + 0)] (J v13 M14)) (by
                  intro v13 M14 hv13
                  refine goI (fun H locs ls r ho hW hL => runV X (ok_X12_fails l D base M14 v13 hv13 H.size r ho) dX12_forward_211 lw954 lw955 lw956 lw944 ⟨lw937, cy_X12_fails, Nat.le_of_ble_eq_true rfl, Nat.le_of_ble_eq_true rfl⟩ rfl trn0 tr0 rfl rfl rfl rfl (Nat.le_of_ble_eq_true rfl) hW hL hk0) (fun v17 M16 hv17 => ?_)
                  refine go_if_eq (tgt := 219) X dX12_forward_214 rfl (bo_i32 hv17) (fun c18 => ?_) (fun c18 => ?_)
                  · refine go_aload_n X dX12_forward_219 rfl 0 rfl ?_
                    refine go_getc (i := 8) X fc12 dX12_forward_220 trn0 tr0 (Nat.le_of_ble_eq_true rfl) rfl lw873 rfl ?_
                    refine go_iload_n X dX12_forward_223 rfl 1 rfl ?_
                    refine go_iaload X dX12_forward_224 trn8 tr8 ha1 (fun v19 hv19 => ?_)
                    refine go_istore (i := 8) (L' := [(8, .int (Ii v19)), (0, .ref (base + 0)), (1, .int (Ii a1)), (2, .int (Ii a2)), (3, .int (Ii a3)), (4, .int (Ii a4)), (5, .int (Ii a5))]) X dX12_forward_225 (by decide) rfl ?_
                    refine go_aload_n X dX12_forward_227 rfl 1 rfl ?_
                    refine go_getc (i := 8) X fc12 dX12_forward_228 trn0 tr0 (Nat.le_of_ble_eq_true rfl) rfl lw873 rfl ?_
                    refine go_iload_n X dX12_forward_231 rfl 2 rfl ?_
                    refine go_iload_n X dX12_forward_232 rfl 3 rfl ?_
                    refine go_iastore X dX12_forward_233 trn8 tr8 ha1 ha2 (fun M20 => ?_)
                    refine go_iconst (v := 0) X dX12_forward_234 rfl ?_
                    refine go_istore (i := 9) (L' := [(9, .int (Ii 0)), (8, .int (Ii v19)), (0, .ref (base + 0)), (1, .int (Ii a1)), (2, .int (Ii a2)), (3, .int (Ii a3)), (4, .int (Ii a4)), (5, .int (Ii a5))]) X dX12_forward_235 (by decide) rfl ?_
                    refine go_lt (fun J => ∀ (M21 : Mm), Go p l e (rmO 2 43) s m args below meth c D TR 67 base 10 0 0 (FinI D TR 67 base below args s i32) M21 270 [(0, .ref (base + 0)), (8, .int (Ii v19))] [] (J M21)) (by
                        intro M21
                        refine go_aload_n X dX12_forward_270 rfl 0 rfl ?_
                        refine goV (fun H locs ls r ho hW hL => runV X (ok_X12_dropsAll l D base M21  H.size r ho) dX12_forward_271 lw960 lw961 lw962 lw944 ⟨lw949, cy_X12_dropsAll, Nat.le_of_ble_eq_true rfl, Nat.le_of_ble_eq_true rfl⟩ rfl trn0 tr0 rfl rfl rfl rfl (Nat.le_of_ble_eq_true rfl) hW hL hk0) (fun _ M23 => ?_)
                        refine go_iload X dX12_forward_274 1 rfl ?_
                        exact go_ireturn X hrt hlk dX12_forward_276 hv19
                        )
                        (fun J270_22 hJ270_22 => ?_)
                    refine go_sub [2, 3, 5, 6, 7, 1, 0] rfl ?_
                    exact go_lp (fun (rc : Int × Mm → Rs) => ∀ (v24 : Int) (M25 : Mm), i32 v24 → Go p l e (rmO 2 43) s m args below meth c D TR 67 base 10 0 0 (FinI D TR 67 base below args s i32) M25 237 [(0, .ref (base + 0)), (1, .int (Ii a1)), (3, .int (Ii a3)), (4, .int (Ii a4)), (5, .int (Ii a5)), (8, .int (Ii v19)), (9, .int (Ii v24))] [] (rc (v24, M25)))
                        (by intro v24 M25 hv24; exact go_none)
                        (by
                        intro rc237_26 hrc237_26 v24 M25 hv24
                        unfold f_X12_forward_L237_34
                        dsimp only
                        refine go_iload X dX12_forward_237 6 rfl ?_
                        refine go_iconst (v := 3) X dX12_forward_239 rfl ?_
                        refine go_icmp_ge (tgt := 270) X dX12_forward_240 rfl hv24 kI_3 (fun c27 => ?_) (fun c27 => ?_)
                        · refine go_sub [0, 5] rfl ?_
                          exact hJ270_22 M25
                        · refine go_aload_n X dX12_forward_243 rfl 0 rfl ?_
                          refine go_getc (i := 9) X fc12 dX12_forward_244 trn0 tr0 (Nat.le_of_ble_eq_true rfl) rfl lw874 rfl ?_
                          refine go_iconst (v := 3) X dX12_forward_247 rfl ?_
                          refine go_iload_n X dX12_forward_248 rfl 1 rfl ?_
                          refine go_imul X dX12_forward_249 kI_3 ha1 (fun v28 hv28 => ?_)
                          refine go_iload X dX12_forward_250 6 rfl ?_
                          refine go_iadd X dX12_forward_252 hv28 hv24 (fun v29 hv29 => ?_)
                          refine go_iload X dX12_forward_253 6 rfl ?_
                          refine go_iload_n X dX12_forward_255 rfl 2 rfl ?_
                          refine go_iload X dX12_forward_256 3 rfl ?_
                          refine go_iload X dX12_forward_258 4 rfl ?_
                          refine goI (fun H locs ls r ho hW hL => runS X (ok_X12_nth l D base M25 v24 hv24 a3 ha3 a4 ha4 a5 ha5 H.size r ho) dX12_forward_260 lw968 lw969 lw944 ⟨lw964, cy_X12_nth, Nat.le_of_ble_eq_true rfl, Nat.le_of_ble_eq_true rfl⟩ rfl rfl (Nat.le_of_ble_eq_true rfl) hW hL hk0) (fun v31 M30 hv31 => ?_)
                          refine go_iastore X dX12_forward_263 trn9 tr9 hv29 hv31 (fun M32 => ?_)
                          refine go_iinc (i := 9) (L' := fun v => [(9, .int (Ii v)), (0, .ref (base + 0)), (1, .int (Ii a1)), (3, .int (Ii a3)), (4, .int (Ii a4)), (5, .int (Ii a5)), (8, .int (Ii v19))]) X dX12_forward_264 hv24 kI_1 (j := 6) rfl (by decide) (fun _ => rfl) (fun v33 hv33 => ?_)
                          refine go_goto (tgt := 237) X dX12_forward_267 rfl ?_
                          refine go_sub [1, 2, 3, 4, 5, 6, 0] rfl ?_
                          exact hrc237_26 v33 M32 hv33
                        )
                        FU 0 M20 kI_0
                  · refine go_iconst (v := 0) X dX12_forward_217 rfl ?_
                    exact go_ireturn X hrt hlk dX12_forward_218 kI_0
                  )
                  (fun J211_15 hJ211_15 => ?_)
              refine go_if_ne (tgt := 201) X dX12_forward_194 rfl (bo_i32 hv9) (fun c35 => ?_) (fun c35 => ?_)
              · refine go_iload X dX12_forward_201 7 rfl ?_
                refine go_if_eq (tgt := 210) X dX12_forward_203 rfl (bo_i32 hv10) (fun c36 => ?_) (fun c36 => ?_)
                · refine go_iconst (v := 2) X dX12_forward_210 rfl ?_
                  refine go_sub [0, 1, 2, 3, 4, 5] rfl ?_
                  exact hJ211_15 2 M11 kI_2
                · refine go_iconst (v := 0) X dX12_forward_206 rfl ?_
                  refine go_goto (tgt := 211) X dX12_forward_207 rfl ?_
                  refine go_sub [0, 1, 2, 3, 4, 5] rfl ?_
                  exact hJ211_15 0 M11 kI_0
              · refine go_iconst (v := 1) X dX12_forward_197 rfl ?_
                refine go_goto (tgt := 211) X dX12_forward_198 rfl ?_
                refine go_sub [0, 1, 2, 3, 4, 5] rfl ?_
                exact hJ211_15 1 M11 kI_1
              )
              (fun J191_12 hJ191_12 => ?_)
          refine go_sub [2, 3, 4, 5, 6, 7, 8, 1, 0] rfl ?_
          exact go_lp (fun (rc : Int × Int × Int × Mm → Rs) => ∀ (v37 : Int) (v38 : Int) (v39 : Int) (M40 : Mm), bo v37 → bo v38 → i32 v39 → Go p l e (rmO 2 43) s m args below meth c D TR 67 base 10 0 0 (FinI D TR 67 base below args s i32) M40 68 [(0, .ref (base + 0)), (1, .int (Ii a1)), (2, .int (Ii a2)), (3, .int (Ii a3)), (4, .int (Ii a4)), (5, .int (Ii a5)), (6, .int (Ii v37)), (7, .int (Ii v38)), (8, .int (Ii v39))] [] (rc (v37, v38, v39, M40)))
              (by intro v37 v38 v39 M40 hv37 hv38 hv39; exact go_none)
              (by
              intro rc68_41 hrc68_41 v37 v38 v39 M40 hv37 hv38 hv39
              unfold f_X12_forward_L68_91
              dsimp only
              refine go_iload X dX12_forward_68 8 rfl ?_
              refine go_iconst (v := 3) X dX12_forward_70 rfl ?_
              refine go_icmp_ge (tgt := 191) X dX12_forward_71 rfl hv39 kI_3 (fun c42 => ?_) (fun c42 => ?_)
              · refine go_sub [0, 1, 2, 3, 4, 5, 6, 7] rfl ?_
                exact hJ191_12 v37 v38 M40 hv37 hv38
              · refine go_iload X dX12_forward_74 6 rfl ?_
                refine go_if_eq (tgt := 191) X dX12_forward_76 rfl (bo_i32 hv37) (fun c43 => ?_) (fun c43 => ?_)
                · refine go_sub [0, 1, 2, 3, 4, 5, 6, 7] rfl ?_
                  exact hJ191_12 v37 v38 M40 hv37 hv38
                · refine go_iload X dX12_forward_79 8 rfl ?_
                  refine go_iload_n X dX12_forward_81 rfl 3 rfl ?_
                  refine go_iload X dX12_forward_82 4 rfl ?_
                  refine go_iload X dX12_forward_84 5 rfl ?_
                  refine goI (fun H locs ls r ho hW hL => runS X (ok_X12_nth l D base M40 v39 hv39 a3 ha3 a4 ha4 a5 ha5 H.size r ho) dX12_forward_86 lw968 lw969 lw944 ⟨lw964, cy_X12_nth, Nat.le_of_ble_eq_true rfl, Nat.le_of_ble_eq_true rfl⟩ rfl rfl (Nat.le_of_ble_eq_true rfl) hW hL hk0) (fun v45 M44 hv45 => ?_)
                  refine go_istore (i := 9) (L' := [(9, .int (Ii v45)), (0, .ref (base + 0)), (1, .int (Ii a1)), (2, .int (Ii a2)), (3, .int (Ii a3)), (4, .int (Ii a4)), (5, .int (Ii a5)), (6, .int (Ii v37)), (7, .int (Ii v38)), (8, .int (Ii v39))]) X dX12_forward_89 (by decide) rfl ?_
                  refine go_iload_n X dX12_forward_91 rfl 3 rfl ?_
                  refine go_iconst (v := (-1)) X dX12_forward_92 rfl ?_
                  refine go_lt (fun J => ∀ (v46 : Int) (v47 : Int) (v48 : Int) (M49 : Mm), bo v46 → bo v47 → i32 v48 → Go p l e (rmO 2 43) s m args below meth c D TR 67 base 10 0 0 (FinI D TR 67 base below args s i32) M49 185 [(0, .ref (base + 0)), (1, .int (Ii a1)), (2, .int (Ii a2)), (3, .int (Ii a3)), (4, .int (Ii a4)), (5, .int (Ii a5)), (6, .int (Ii v46)), (7, .int (Ii v47)), (8, .int (Ii v48))] [] (J v46 v47 v48 M49)) (by
                      intro v46 v47 v48 M49 hv46 hv47 hv48
                      refine go_iinc (i := 8) (L' := fun v => [(8, .int (Ii v)), (0, .ref (base + 0)), (1, .int (Ii a1)), (2, .int (Ii a2)), (3, .int (Ii a3)), (4, .int (Ii a4)), (5, .int (Ii a5)), (6, .int (Ii v46)), (7, .int (Ii v47))]) X dX12_forward_185 hv48 kI_1 (j := 8) rfl (by decide) (fun _ => rfl) (fun v51 hv51 => ?_)
                      refine go_goto (tgt := 68) X dX12_forward_188 rfl ?_
                      refine go_sub [1, 2, 3, 4, 5, 6, 7, 8, 0] rfl ?_
                      exact hrc68_41 v46 v47 v51 M49 hv46 hv47 hv51
                      )
                      (fun J185_50 hJ185_50 => ?_)
                  refine go_lt (fun J => ∀ (v52 : Int) (v53 : Int) (v54 : Int) (M55 : Mm), bo v52 → bo v53 → i32 v54 → Go p l e (rmO 2 43) s m args below meth c D TR 67 base 10 0 0 (FinI D TR 67 base below args s i32) M55 168 [(0, .ref (base + 0)), (1, .int (Ii a1)), (2, .int (Ii a2)), (3, .int (Ii a3)), (4, .int (Ii a4)), (5, .int (Ii a5)), (6, .int (Ii v52)), (7, .int (Ii v53)), (8, .int (Ii v54)), (9, .int (Ii v45))] [] (J v52 v53 v54 M55)) (by
                      intro v52 v53 v54 M55 hv52 hv53 hv54
                      refine go_iload X dX12_forward_168 7 rfl ?_
                      refine go_lt (fun J => ∀ (v57 : Int) (v58 : Int) (v59 : Int) (M60 : Mm), bo v57 → i32 v58 → bo v59 → Go p l e (rmO 2 43) s m args below meth c D TR 67 base 10 0 0 (FinI D TR 67 base below args s i32) M60 183 [(0, .ref (base + 0)), (1, .int (Ii a1)), (2, .int (Ii a2)), (3, .int (Ii a3)), (4, .int (Ii a4)), (5, .int (Ii a5)), (6, .int (Ii v57)), (8, .int (Ii v58))] [.int (Ii v59)] (J v57 v58 v59 M60)) (by
                          intro v57 v58 v59 M60 hv57 hv58 hv59
                          refine go_istore (i := 7) (L' := [(7, .int (Ii v59)), (0, .ref (base + 0)), (1, .int (Ii a1)), (2, .int (Ii a2)), (3, .int (Ii a3)), (4, .int (Ii a4)), (5, .int (Ii a5)), (6, .int (Ii v57)), (8, .int (Ii v58))]) X dX12_forward_183 (by decide) rfl ?_
                          refine go_sub [1, 2, 3, 4, 5, 6, 7, 0, 8] rfl ?_
                          exact hJ185_50 v57 v59 v58 M60 hv57 hv59 hv58
                          )
                          (fun J183_61 hJ183_61 => ?_)
                      refine go_lt (fun J => ∀ (v62 : Int) (v63 : Int) (M64 : Mm), bo v62 → i32 v63 → Go p l e (rmO 2 43) s m args below meth c D TR 67 base 10 0 0 (FinI D TR 67 base below args s i32) M64 182 [(0, .ref (base + 0)), (1, .int (Ii a1)), (2, .int (Ii a2)), (3, .int (Ii a3)), (4, .int (Ii a4)), (5, .int (Ii a5)), (6, .int (Ii v62)), (8, .int (Ii v63))] [] (J v62 v63 M64)) (by
                          intro v62 v63 M64 hv62 hv63
                          refine go_iconst (v := 0) X dX12_forward_182 rfl ?_
                          exact hJ183_61 v62 v63 0 M64 hv62 hv63 (Or.inl rfl)
                          )
                          (fun J182_65 hJ182_65 => ?_)
                      refine go_if_eq (tgt := 182) X dX12_forward_170 rfl (bo_i32 hv53) (fun c66 => ?_) (fun c66 => ?_)
                      · refine go_sub [0, 1, 2, 3, 4, 5, 6, 8] rfl ?_
                        exact hJ182_65 v52 v54 M55 hv52 hv54
                      · refine go_iload X dX12_forward_173 9 rfl ?_
                        refine go_if_ne (tgt := 182) X dX12_forward_175 rfl hv45 (fun c67 => ?_) (fun c67 => ?_)
                        · refine go_sub [0, 1, 2, 3, 4, 5, 6, 8] rfl ?_
                          exact hJ182_65 v52 v54 M55 hv52 hv54
                        · refine go_iconst (v := 1) X dX12_forward_178 rfl ?_
                          refine go_goto (tgt := 183) X dX12_forward_179 rfl ?_
                          refine go_sub [0, 1, 2, 3, 4, 5, 6, 8] rfl ?_
                          exact hJ183_61 v52 v54 1 M55 hv52 hv54 (Or.inr rfl)
                      )
                      (fun J168_56 hJ168_56 => ?_)
                  refine go_icmp_eq (tgt := 168) X dX12_forward_93 rfl ha2 kI_m1 (fun c68 => ?_) (fun c68 => ?_)
                  · refine go_sub [1, 2, 3, 4, 5, 6, 7, 8, 9, 0] rfl ?_
                    exact hJ168_56 v37 v38 v39 M44 hv37 hv38 hv39
                  · refine go_iload X dX12_forward_96 9 rfl ?_
                    refine go_aload_n X dX12_forward_98 rfl 1 rfl ?_
                    refine go_getc (i := 4) X fc12 dX12_forward_99 trn0 tr0 (Nat.le_of_ble_eq_true rfl) rfl lw869 rfl ?_
                    refine go_iload_n X dX12_forward_102 rfl 3 rfl ?_
                    refine go_iaload X dX12_forward_103 trn4 tr4 ha2 (fun v69 hv69 => ?_)
                    refine go_icmp_ge (tgt := 168) X dX12_forward_104 rfl hv39 hv69 (fun c70 => ?_) (fun c70 => ?_)
                    · refine go_sub [1, 2, 3, 4, 5, 6, 7, 8, 9, 0] rfl ?_
                      exact hJ168_56 v37 v38 v39 M44 hv37 hv38 hv39
                    · refine go_iload X dX12_forward_107 0 rfl ?_
                      refine go_iconst (v := 0) X dX12_forward_109 rfl ?_
                      refine go_aload_n X dX12_forward_110 rfl 1 rfl ?_
                      refine go_getc (i := 4) X fc12 dX12_forward_111 trn0 tr0 (Nat.le_of_ble_eq_true rfl) rfl lw869 rfl ?_
                      refine go_iload_n X dX12_forward_114 rfl 2 rfl ?_
                      refine go_iaload X dX12_forward_115 trn4 tr4 ha1 (fun v71 hv71 => ?_)
                      refine go_iconst (v := 1) X dX12_forward_116 rfl ?_
                      refine go_isub X dX12_forward_117 hv71 kI_1 (fun v72 hv72 => ?_)
                      refine goI (fun H locs ls r ho hW hL => runS X (ok_X12_isIn l D base M44 v45 hv45 0 kI_0 v72 hv72 H.size r ho) dX12_forward_118 lw942 lw943 lw944 ⟨lw939, cy_X12_isIn, Nat.le_of_ble_eq_true rfl, Nat.le_of_ble_eq_true rfl⟩ rfl rfl (Nat.le_of_ble_eq_true rfl) hW hL hk0) (fun v74 M73 hv74 => ?_)
                      refine go_istore (i := 6) (L' := [(6, .int (Ii v74)), (9, .int (Ii v45)), (0, .ref (base + 0)), (1, .int (Ii a1)), (2, .int (Ii a2)), (3, .int (Ii a3)), (4, .int (Ii a4)), (5, .int (Ii a5)), (7, .int (Ii v38)), (8, .int (Ii v39))]) X dX12_forward_121 (by decide) rfl ?_
                      refine go_iload X dX12_forward_123 8 rfl ?_
                      refine go_lt (fun J => ∀ (v75 : Int) (v76 : Int) (M77 : Mm), i32 v75 → bo v76 → Go p l e (rmO 2 43) s m args below meth c D TR 67 base 10 0 0 (FinI D TR 67 base below args s i32) M77 163 [(0, .ref (base + 0)), (1, .int (Ii a1)), (2, .int (Ii a2)), (3, .int (Ii a3)), (4, .int (Ii a4)), (5, .int (Ii a5)), (6, .int (Ii v74)), (8, .int (Ii v75))] [.int (Ii v76)] (J v75 v76 M77)) (by
                          intro v75 v76 M77 hv75 hv76
                          refine go_istore (i := 7) (L' := [(7, .int (Ii v76)), (0, .ref (base + 0)), (1, .int (Ii a1)), (2, .int (Ii a2)), (3, .int (Ii a3)), (4, .int (Ii a4)), (5, .int (Ii a5)), (6, .int (Ii v74)), (8, .int (Ii v75))]) X dX12_forward_163 (by decide) rfl ?_
                          refine go_goto (tgt := 185) X dX12_forward_165 rfl ?_
                          refine go_sub [1, 2, 3, 4, 5, 6, 7, 0, 8] rfl ?_
                          exact hJ185_50 v74 v76 v75 M77 hv74 hv76 hv75
                          )
                          (fun J163_78 hJ163_78 => ?_)
                      refine go_lt (fun J => ∀ (v79 : Int) (M80 : Mm), i32 v79 → Go p l e (rmO 2 43) s m args below meth c D TR 67 base 10 0 0 (FinI D TR 67 base below args s i32) M80 162 [(0, .ref (base + 0)), (1, .int (Ii a1)), (2, .int (Ii a2)), (3, .int (Ii a3)), (4, .int (Ii a4)), (5, .int (Ii a5)), (6, .int (Ii v74)), (8, .int (Ii v79))] [] (J v79 M80)) (by
                          intro v79 M80 hv79
                          refine go_iconst (v := 0) X dX12_forward_162 rfl ?_
                          exact hJ163_78 v79 0 M80 hv79 (Or.inl rfl)
                          )
                          (fun J162_81 hJ162_81 => ?_)
                      refine go_if_eq (tgt := 162) X dX12_forward_125 rfl (bo_i32 hv38) (fun c82 => ?_) (fun c82 => ?_)
                      · refine go_sub [2, 3, 4, 5, 6, 7, 0, 9] rfl ?_
                        exact hJ162_81 v39 M73 hv39
                      · refine go_iload X dX12_forward_128 0 rfl ?_
                        refine go_if_eq (tgt := 162) X dX12_forward_130 rfl (bo_i32 hv74) (fun c83 => ?_) (fun c83 => ?_)
                        · refine go_sub [2, 3, 4, 5, 6, 7, 0, 9] rfl ?_
                          exact hJ162_81 v39 M73 hv39
                        · refine go_aload_n X dX12_forward_133 rfl 2 rfl ?_
                          refine go_getc (i := 5) X fc12 dX12_forward_134 trn0 tr0 (Nat.le_of_ble_eq_true rfl) rfl lw870 rfl ?_
                          refine go_iconst (v := 3) X dX12_forward_137 rfl ?_
                          refine go_iload_n X dX12_forward_138 rfl 4 rfl ?_
                          refine go_imul X dX12_forward_139 kI_3 ha2 (fun v84 hv84 => ?_)
                          refine go_iload X dX12_forward_140 9 rfl ?_
                          refine go_iadd X dX12_forward_142 hv84 hv39 (fun v85 hv85 => ?_)
                          refine go_iaload X dX12_forward_143 trn5 tr5 hv85 (fun v86 hv86 => ?_)
                          refine go_aload_n X dX12_forward_144 rfl 2 rfl ?_
                          refine go_getc (i := 5) X fc12 dX12_forward_145 trn0 tr0 (Nat.le_of_ble_eq_true rfl) rfl lw870 rfl ?_
                          refine go_iconst (v := 3) X dX12_forward_148 rfl ?_
                          refine go_iload_n X dX12_forward_149 rfl 3 rfl ?_
                          refine go_imul X dX12_forward_150 kI_3 ha1 (fun v87 hv87 => ?_)
                          refine go_iload X dX12_forward_151 1 rfl ?_
                          refine go_iadd X dX12_forward_153 hv87 hv45 (fun v88 hv88 => ?_)
                          refine go_iaload X dX12_forward_154 trn5 tr5 hv88 (fun v89 hv89 => ?_)
                          refine go_icmp_ne (tgt := 162) X dX12_forward_155 rfl hv86 hv89 (fun c90 => ?_) (fun c90 => ?_)
                          · refine go_sub [2, 3, 4, 5, 6, 7, 0, 9] rfl ?_
                            exact hJ162_81 v39 M73 hv39
                          · refine go_iconst (v := 1) X dX12_forward_158 rfl ?_
                            refine go_goto (tgt := 163) X dX12_forward_159 rfl ?_
                            refine go_sub [2, 3, 4, 5, 6, 7, 0, 9] rfl ?_
                            exact hJ163_78 v39 1 M73 hv39 (Or.inr rfl)
              )
              FU v3 v6 0 M7 hv3 hv6 kI_0
          )
          (fun J63_8 hJ63_8 => ?_)
      refine go_lt (fun J => ∀ (M92 : Mm), Go p l e (rmO 2 43) s m args below meth c D TR 67 base 10 0 0 (FinI D TR 67 base below args s i32) M92 62 [(0, .ref (base + 0)), (1, .int (Ii a1)), (2, .int (Ii a2)), (3, .int (Ii a3)), (4, .int (Ii a4)), (5, .int (Ii a5)), (6, .int (Ii v3))] [] (J M92)) (by
          intro M92
          refine go_iconst (v := 0) X dX12_forward_62 rfl ?_
          exact hJ63_8 0 M92 (Or.inl rfl)
          )
          (fun J62_93 hJ62_93 => ?_)
      refine go_if_eq (tgt := 62) X dX12_forward_30 rfl (bo_i32 hv3) (fun c94 => ?_) (fun c94 => ?_)
      · refine go_sub [1, 2, 3, 4, 5, 6, 0] rfl ?_
        exact hJ62_93 M4
      · refine go_iload_n X dX12_forward_33 rfl 3 rfl ?_
        refine go_iload_n X dX12_forward_34 rfl 2 rfl ?_
        refine go_icmp_eq (tgt := 62) X dX12_forward_35 rfl ha2 ha1 (fun c95 => ?_) (fun c95 => ?_)
        · refine go_sub [1, 2, 3, 4, 5, 6, 0] rfl ?_
          exact hJ62_93 M4
        · refine go_iload_n X dX12_forward_38 rfl 3 rfl ?_
          refine go_iconst (v := (-1)) X dX12_forward_39 rfl ?_
          refine go_lt (fun J => ∀ (M96 : Mm), Go p l e (rmO 2 43) s m args below meth c D TR 67 base 10 0 0 (FinI D TR 67 base below args s i32) M96 58 [(0, .ref (base + 0)), (1, .int (Ii a1)), (2, .int (Ii a2)), (3, .int (Ii a3)), (4, .int (Ii a4)), (5, .int (Ii a5)), (6, .int (Ii v3))] [] (J M96)) (by
              intro M96
              refine go_iconst (v := 1) X dX12_forward_58 rfl ?_
              refine go_goto (tgt := 63) X dX12_forward_59 rfl ?_
              exact hJ63_8 1 M96 (Or.inr rfl)
              )
              (fun J58_97 hJ58_97 => ?_)
          refine go_icmp_eq (tgt := 58) X dX12_forward_40 rfl ha2 kI_m1 (fun c98 => ?_) (fun c98 => ?_)
          · refine go_sub [1, 2, 3, 4, 5, 6, 0] rfl ?_
            exact hJ58_97 M4
          · refine go_aload_n X dX12_forward_43 rfl 1 rfl ?_
            refine go_getc (i := 1) X fc12 dX12_forward_44 trn0 tr0 (Nat.le_of_ble_eq_true rfl) rfl lw866 rfl ?_
            refine go_iload_n X dX12_forward_47 rfl 3 rfl ?_
            refine go_iaload X dX12_forward_48 trn1 tr1 ha2 (fun v99 hv99 => ?_)
            refine go_aload_n X dX12_forward_49 rfl 1 rfl ?_
            refine go_getc (i := 1) X fc12 dX12_forward_50 trn0 tr0 (Nat.le_of_ble_eq_true rfl) rfl lw866 rfl ?_
            refine go_iload_n X dX12_forward_53 rfl 2 rfl ?_
            refine go_iaload X dX12_forward_54 trn1 tr1 ha1 (fun v100 hv100 => ?_)
            refine go_icmp_ne (tgt := 62) X dX12_forward_55 rfl hv99 hv100 (fun c101 => ?_) (fun c101 => ?_)
            · refine go_sub [1, 2, 3, 4, 5, 6, 0] rfl ?_
              exact hJ62_93 M4
            · refine go_sub [1, 2, 3, 4, 5, 6, 0] rfl ?_
              exact hJ58_97 M4
      )
      (fun J26_5 hJ26_5 => ?_)
  refine go_lt (fun J => ∀ (M102 : Mm), Go p l e (rmO 2 43) s m args below meth c D TR 67 base 10 0 0 (FinI D TR 67 base below args s i32) M102 25 [(0, .ref (base + 0)), (1, .int (Ii a1)), (2, .int (Ii a2)), (3, .int (Ii a3)), (4, .int (Ii a4)), (5, .int (Ii a5))] [] (J M102)) (by
      intro M102
      refine go_iconst (v := 0) X dX12_forward_25 rfl ?_
      exact hJ26_5 0 M102 (Or.inl rfl)
      )
      (fun J25_103 hJ25_103 => ?_)
  refine go_if_eq (tgt := 25) X dX12_forward_5 rfl (bo_i32 hv2) (fun c104 => ?_) (fun c104 => ?_)
  · exact hJ25_103 M1
  · refine go_iload_n X dX12_forward_8 rfl 2 rfl ?_
    refine go_iconst (v := (-1)) X dX12_forward_9 rfl ?_
    refine go_lt (fun J => ∀ (M105 : Mm), Go p l e (rmO 2 43) s m args below meth c D TR 67 base 10 0 0 (FinI D TR 67 base below args s i32) M105 21 [(0, .ref (base + 0)), (1, .int (Ii a1)), (2, .int (Ii a2)), (3, .int (Ii a3)), (4, .int (Ii a4)), (5, .int (Ii a5))] [] (J M105)) (by
        intro M105
        refine go_iconst (v := 1) X dX12_forward_21 rfl ?_
        refine go_goto (tgt := 26) X dX12_forward_22 rfl ?_
        exact hJ26_5 1 M105 (Or.inr rfl)
        )
        (fun J21_106 hJ21_106 => ?_)
    refine go_icmp_eq (tgt := 21) X dX12_forward_10 rfl ha2 kI_m1 (fun c107 => ?_) (fun c107 => ?_)
    · exact hJ21_106 M1
    · refine go_aload_n X dX12_forward_13 rfl 0 rfl ?_
      refine go_iload_n X dX12_forward_14 rfl 2 rfl ?_
      refine goI (fun H locs ls r ho hW hL => runV X (ok_X12_isProduction l D base M1 a2 ha2 H.size r ho) dX12_forward_15 lw965 lw966 lw967 lw944 ⟨lw940, cy_X12_isProduction, Nat.le_of_ble_eq_true rfl, Nat.le_of_ble_eq_true rfl⟩ rfl trn0 tr0 rfl rfl rfl rfl (Nat.le_of_ble_eq_true rfl) hW hL hk0) (fun v109 M108 hv109 => ?_)
      refine go_if_eq (tgt := 25) X dX12_forward_18 rfl (bo_i32 hv109) (fun c110 => ?_) (fun c110 => ?_)
      · exact hJ25_103 M108
      · exact hJ21_106 M108
def f_X12_rule_L96_47 (a1 : Int) (a3 : Int) (J156_11 : Int → Mm → Rs) (rc96_27 : Int × Int × Mm → Rs) : Int × Int × Mm → Rs := fun (v24, v25, M26) =>
if 3 ≤ v25 then (
J156_11 v24 M26) else (
if v24 = 0 then (
J156_11 v24 M26) else (
gd (0 ≤ a1 ∧ a1 < 10) <|
Lt (M26 4 a1.toNat) fun v30 =>
Lt (fun (v31 : Int) (v32 : Int) (M33 : Mm) => 
Lt (wr (v31 + 1)) fun v35 =>
rc96_27 (v32, v35, M33)) fun J148_34 =>
Lt (fun (v36 : Int) (M37 : Mm) => 
J148_34 v36 1 M37) fun J143_38 =>
if v30 ≤ v25 then (
J143_38 v25 M26) else (
Lt (wr (3 * a1)) fun v40 =>
Lt (wr (v40 + v25)) fun v41 =>
gd (0 ≤ v41 ∧ v41 < 30) <|
Lt (M26 5 v41.toNat) fun v42 =>
Lt (wr (3 * a3)) fun v43 =>
Lt (wr (v43 + v25)) fun v44 =>
gd (0 ≤ v44 ∧ v44 < 30) <|
Lt (M26 5 v44.toNat) fun v45 =>
if ¬ v42 = v45 then (
J148_34 v25 0 M26) else (
J143_38 v25 M26))))
def f_X12_rule (a1 : Int) (a2 : Int) (a3 : Int) (M : Mm) : Rs :=
Cl (f_X12_isProduction a1 M) fun v2 M1 =>
Lt (fun (v3 : Int) (M4 : Mm) => 
Lt (fun (v6 : Int) (M7 : Mm) => 
Lt (fun (v9 : Int) (M10 : Mm) => 
Lt (fun (v12 : Int) (M13 : Mm) => 
Cl (f_X12_fails v12 M13) fun v16 M15 =>
if v16 = 0 then (
gd (0 ≤ a1 ∧ a1 < 10) <|
Lt (M15 10 a1.toNat) fun v18 =>
gd (0 ≤ a1 ∧ a1 < 10) <|
Lt (up M15 10 a1.toNat a3) fun M19 =>
gd (0 ≤ a1 ∧ a1 < 10) <|
Lt (up M19 11 a1.toNat a2) fun M20 =>
Cl (f_X12_dropsAll M20) fun _ M21 =>
some (v18, M21)) else (
some (0, M15))) fun J176_14 =>
if ¬ v3 = 0 then (
if v9 = 0 then (
J176_14 2 M10) else (
J176_14 0 M10)) else (
J176_14 1 M10)) fun J156_11 =>
Lp (f_X12_rule_L96_47 a1 a3 J156_11) FU (v6, 0, M7)) fun J91_8 =>
Lt (fun (M48 : Mm) => 
J91_8 0 M48) fun J90_49 =>
if v3 = 0 then (
J90_49 M4) else (
if a1 = a3 then (
J90_49 M4) else (
gd (0 ≤ a1 ∧ a1 < 10) <|
Lt (M4 1 a1.toNat) fun v52 =>
gd (0 ≤ a3 ∧ a3 < 10) <|
Lt (M4 1 a3.toNat) fun v53 =>
if ¬ v52 = v53 then (
J90_49 M4) else (
gd (0 ≤ a1 ∧ a1 < 10) <|
Lt (M4 4 a1.toNat) fun v55 =>
gd (0 ≤ a3 ∧ a3 < 10) <|
Lt (M4 4 a3.toNat) fun v56 =>
if ¬ v55 = v56 then (
J90_49 M4) else (
gd (0 ≤ a1 ∧ a1 < 10) <|
Lt (M4 6 a1.toNat) fun v58 =>
gd (0 ≤ a3 ∧ a3 < 10) <|
Lt (M4 6 a3.toNat) fun v59 =>
if ¬ v58 = v59 then (
J90_49 M4) else (
J91_8 1 M4)))))) fun J29_5 =>
Lt (fun (M61 : Mm) => 
J29_5 0 M61) fun J28_62 =>
if v2 = 0 then (
J28_62 M1) else (
Cl (f_X12_isProduction a3 M1) fun v65 M64 =>
if v65 = 0 then (
J28_62 M64) else (
Cl (f_X12_isAttribute a2 M64) fun v68 M67 =>
if v68 = 0 then (
J28_62 M67) else (
J29_5 1 M67)))
theorem cy_X12_rule : yX12_rule.cls ≠ "java/lang/invoke/MethodHandle" ∧ yX12_rule.cls ≠ "java/lang/invoke/VarHandle" ∧ (parseMethodDescriptor yX12_rule.desc).map (fun d => d.parameters.length) = some 3 := ⟨by decide +kernel, by decide +kernel, by decide +kernel⟩
set_option maxRecDepth 20000 in
theorem ok_X12_rule (l : Launch) (D : Dd) (base : Nat) (M : Mm) (a1 : Int) (ha1 : i32 a1) (a2 : Int) (ha2 : i32 a2) (a3 : Int) (ha3 : i32 a3) : OkI l D TR 67 base yX12_rule cX12_rule 7 (some .int) 2 43 [.ref (base + 0), .int (Ii a1), .int (Ii a2), .int (Ii a3)] M i32 (f_X12_rule a1 a2 a3 M) := by
  refine metI (by decide +kernel) [(0, .ref (base + 0)), (1, .int (Ii a1)), (2, .int (Ii a2)), (3, .int (Ii a3))] rfl (Nat.le_of_ble_eq_true rfl) (fun p e s m args below meth c X hrt hlk => ?_)
  have X : Cx p s m args c cX12_rule D 7 RX12 := X
  unfold f_X12_rule
  refine go_aload_n X dX12_rule_0 rfl 0 rfl ?_
  refine go_iload_n X dX12_rule_1 rfl 1 rfl ?_
  refine goI (fun H locs ls r ho hW hL => runV X (ok_X12_isProduction l D base M a1 ha1 H.size r ho) dX12_rule_2 lw965 lw966 lw967 lw944 ⟨lw940, cy_X12_isProduction, Nat.le_of_ble_eq_true rfl, Nat.le_of_ble_eq_true rfl⟩ rfl trn0 tr0 rfl rfl rfl rfl (Nat.le_of_ble_eq_true rfl) hW hL hk0) (fun v2 M1 hv2 => ?_)
  refine go_lt (fun J => ∀ (v3 : Int) (M4 : Mm), bo v3 → Go p l e (rmO 2 43) s m args below meth c D TR 67 base 7 0 0 (FinI D TR 67 base below args s i32) M4 29 [(0, .ref (base + 0)), (1, .int (Ii a1)), (2, .int (Ii a2)), (3, .int (Ii a3))] [.int (Ii v3)] (J v3 M4)) (by
      intro v3 M4 hv3
      refine go_istore (i := 4) (L' := [(4, .int (Ii v3)), (0, .ref (base + 0)), (1, .int (Ii a1)), (2, .int (Ii a2)), (3, .int (Ii a3))]) X dX12_rule_29 (by decide) rfl ?_
      refine go_iload X dX12_rule_31 0 rfl ?_
      refine go_lt (fun J => ∀ (v6 : Int) (M7 : Mm), bo v6 → Go p l e (rmO 2 43) s m args below meth c D TR 67 base 7 0 0 (FinI D TR 67 base below args s i32) M7 91 [(0, .ref (base + 0)), (1, .int (Ii a1)), (2, .int (Ii a2)), (3, .int (Ii a3)), (4, .int (Ii v3))] [.int (Ii v6)] (J v6 M7)) (by
          intro v6 M7 hv6
          refine go_istore (i := 5) (L' := [(5, .int (Ii v6)), (0, .ref (base + 0)), (1, .int (Ii a1)), (2, .int (Ii a2)), (3, .int (Ii a3)), (4, .int (Ii v3))]) X dX12_rule_91 (by decide) rfl ?_
          refine go_iconst (v := 0) X dX12_rule_93 rfl ?_
          refine go_istore (i := 6) (L' := [(6, .int (Ii 0)), (5, .int (Ii v6)), (0, .ref (base + 0)), (1, .int (Ii a1)), (2, .int (Ii a2)), (3, .int (Ii a3)), (4, .int (Ii v3))]) X dX12_rule_94 (by decide) rfl ?_
          refine go_lt (fun J => ∀ (v9 : Int) (M10 : Mm), bo v9 → Go p l e (rmO 2 43) s m args below meth c D TR 67 base 7 0 0 (FinI D TR 67 base below args s i32) M10 156 [(0, .ref (base + 0)), (1, .int (Ii a1)), (2, .int (Ii a2)), (3, .int (Ii a3)), (4, .int (Ii v3)), (5, .int (Ii v9))] [] (J v9 M10)) (by
              intro v9 M10 hv9
              refine go_aload_n X dX12_rule_156 rfl 0 rfl ?_
              refine go_iload X dX12_rule_157 4 rfl ?_
              refine go_lt (fun J => ∀ (v12 : Int) (M13 : Mm), i32 v12 → Go p l e (rmO 2 43) s m args below meth c D TR 67 base 7 0 0 (FinI D TR 67 base below args s i32) M13 176 [(0, .ref (base + 0)), (1, .int (Ii a1)), (2, .int (Ii a2)), (3, .int (Ii a3))] [.int (Ii v12), .ref (base + 0)] (J v12 M13)) (by
                  intro v12 M13 hv12
                  refine goI (fun H locs ls r ho hW hL => runV X (ok_X12_fails l D base M13 v12 hv12 H.size r ho) dX12_rule_176 lw954 lw955 lw956 lw944 ⟨lw937, cy_X12_fails, Nat.le_of_ble_eq_true rfl, Nat.le_of_ble_eq_true rfl⟩ rfl trn0 tr0 rfl rfl rfl rfl (Nat.le_of_ble_eq_true rfl) hW hL hk0) (fun v16 M15 hv16 => ?_)
                  refine go_if_eq (tgt := 184) X dX12_rule_179 rfl (bo_i32 hv16) (fun c17 => ?_) (fun c17 => ?_)
                  · refine go_aload_n X dX12_rule_184 rfl 0 rfl ?_
                    refine go_getc (i := 10) X fc12 dX12_rule_185 trn0 tr0 (Nat.le_of_ble_eq_true rfl) rfl lw875 rfl ?_
                    refine go_iload_n X dX12_rule_188 rfl 1 rfl ?_
                    refine go_iaload X dX12_rule_189 trn10 tr10 ha1 (fun v18 hv18 => ?_)
                    refine go_istore (i := 6) (L' := [(6, .int (Ii v18)), (0, .ref (base + 0)), (1, .int (Ii a1)), (2, .int (Ii a2)), (3, .int (Ii a3))]) X dX12_rule_190 (by decide) rfl ?_
                    refine go_aload_n X dX12_rule_192 rfl 1 rfl ?_
                    refine go_getc (i := 10) X fc12 dX12_rule_193 trn0 tr0 (Nat.le_of_ble_eq_true rfl) rfl lw875 rfl ?_
                    refine go_iload_n X dX12_rule_196 rfl 2 rfl ?_
                    refine go_iload_n X dX12_rule_197 rfl 4 rfl ?_
                    refine go_iastore X dX12_rule_198 trn10 tr10 ha1 ha3 (fun M19 => ?_)
                    refine go_aload_n X dX12_rule_199 rfl 1 rfl ?_
                    refine go_getc (i := 11) X fc12 dX12_rule_200 trn0 tr0 (Nat.le_of_ble_eq_true rfl) rfl lw876 rfl ?_
                    refine go_iload_n X dX12_rule_203 rfl 2 rfl ?_
                    refine go_iload_n X dX12_rule_204 rfl 3 rfl ?_
                    refine go_iastore X dX12_rule_205 trn11 tr11 ha1 ha2 (fun M20 => ?_)
                    refine go_aload_n X dX12_rule_206 rfl 1 rfl ?_
                    refine goV (fun H locs ls r ho hW hL => runV X (ok_X12_dropsAll l D base M20  H.size r ho) dX12_rule_207 lw960 lw961 lw962 lw944 ⟨lw949, cy_X12_dropsAll, Nat.le_of_ble_eq_true rfl, Nat.le_of_ble_eq_true rfl⟩ rfl trn0 tr0 rfl rfl rfl rfl (Nat.le_of_ble_eq_true rfl) hW hL hk0) (fun _ M21 => ?_)
                    refine go_iload X dX12_rule_210 0 rfl ?_
                    exact go_ireturn X hrt hlk dX12_rule_212 hv18
                  · refine go_iconst (v := 0) X dX12_rule_182 rfl ?_
                    exact go_ireturn X hrt hlk dX12_rule_183 kI_0
                  )
                  (fun J176_14 hJ176_14 => ?_)
              refine go_if_ne (tgt := 166) X dX12_rule_159 rfl (bo_i32 hv3) (fun c22 => ?_) (fun c22 => ?_)
              · refine go_iload X dX12_rule_166 5 rfl ?_
                refine go_if_eq (tgt := 175) X dX12_rule_168 rfl (bo_i32 hv9) (fun c23 => ?_) (fun c23 => ?_)
                · refine go_iconst (v := 2) X dX12_rule_175 rfl ?_
                  refine go_sub [0, 1, 2, 3] rfl ?_
                  exact hJ176_14 2 M10 kI_2
                · refine go_iconst (v := 0) X dX12_rule_171 rfl ?_
                  refine go_goto (tgt := 176) X dX12_rule_172 rfl ?_
                  refine go_sub [0, 1, 2, 3] rfl ?_
                  exact hJ176_14 0 M10 kI_0
              · refine go_iconst (v := 1) X dX12_rule_162 rfl ?_
                refine go_goto (tgt := 176) X dX12_rule_163 rfl ?_
                refine go_sub [0, 1, 2, 3] rfl ?_
                exact hJ176_14 1 M10 kI_1
              )
              (fun J156_11 hJ156_11 => ?_)
          refine go_sub [2, 3, 4, 5, 6, 1, 0] rfl ?_
          exact go_lp (fun (rc : Int × Int × Mm → Rs) => ∀ (v24 : Int) (v25 : Int) (M26 : Mm), bo v24 → i32 v25 → Go p l e (rmO 2 43) s m args below meth c D TR 67 base 7 0 0 (FinI D TR 67 base below args s i32) M26 96 [(0, .ref (base + 0)), (1, .int (Ii a1)), (2, .int (Ii a2)), (3, .int (Ii a3)), (4, .int (Ii v3)), (5, .int (Ii v24)), (6, .int (Ii v25))] [] (rc (v24, v25, M26)))
              (by intro v24 v25 M26 hv24 hv25; exact go_none)
              (by
              intro rc96_27 hrc96_27 v24 v25 M26 hv24 hv25
              unfold f_X12_rule_L96_47
              dsimp only
              refine go_iload X dX12_rule_96 6 rfl ?_
              refine go_iconst (v := 3) X dX12_rule_98 rfl ?_
              refine go_icmp_ge (tgt := 156) X dX12_rule_99 rfl hv25 kI_3 (fun c28 => ?_) (fun c28 => ?_)
              · refine go_sub [0, 1, 2, 3, 4, 5] rfl ?_
                exact hJ156_11 v24 M26 hv24
              · refine go_iload X dX12_rule_102 5 rfl ?_
                refine go_if_eq (tgt := 156) X dX12_rule_104 rfl (bo_i32 hv24) (fun c29 => ?_) (fun c29 => ?_)
                · refine go_sub [0, 1, 2, 3, 4, 5] rfl ?_
                  exact hJ156_11 v24 M26 hv24
                · refine go_iload X dX12_rule_107 6 rfl ?_
                  refine go_aload_n X dX12_rule_109 rfl 0 rfl ?_
                  refine go_getc (i := 4) X fc12 dX12_rule_110 trn0 tr0 (Nat.le_of_ble_eq_true rfl) rfl lw869 rfl ?_
                  refine go_iload_n X dX12_rule_113 rfl 1 rfl ?_
                  refine go_iaload X dX12_rule_114 trn4 tr4 ha1 (fun v30 hv30 => ?_)
                  refine go_lt (fun J => ∀ (v31 : Int) (v32 : Int) (M33 : Mm), i32 v31 → bo v32 → Go p l e (rmO 2 43) s m args below meth c D TR 67 base 7 0 0 (FinI D TR 67 base below args s i32) M33 148 [(0, .ref (base + 0)), (1, .int (Ii a1)), (2, .int (Ii a2)), (3, .int (Ii a3)), (4, .int (Ii v3)), (6, .int (Ii v31))] [.int (Ii v32)] (J v31 v32 M33)) (by
                      intro v31 v32 M33 hv31 hv32
                      refine go_istore (i := 5) (L' := [(5, .int (Ii v32)), (0, .ref (base + 0)), (1, .int (Ii a1)), (2, .int (Ii a2)), (3, .int (Ii a3)), (4, .int (Ii v3)), (6, .int (Ii v31))]) X dX12_rule_148 (by decide) rfl ?_
                      refine go_iinc (i := 6) (L' := fun v => [(6, .int (Ii v)), (5, .int (Ii v32)), (0, .ref (base + 0)), (1, .int (Ii a1)), (2, .int (Ii a2)), (3, .int (Ii a3)), (4, .int (Ii v3))]) X dX12_rule_150 hv31 kI_1 (j := 6) rfl (by decide) (fun _ => rfl) (fun v35 hv35 => ?_)
                      refine go_goto (tgt := 96) X dX12_rule_153 rfl ?_
                      refine go_sub [2, 3, 4, 5, 6, 1, 0] rfl ?_
                      exact hrc96_27 v32 v35 M33 hv32 hv35
                      )
                      (fun J148_34 hJ148_34 => ?_)
                  refine go_lt (fun J => ∀ (v36 : Int) (M37 : Mm), i32 v36 → Go p l e (rmO 2 43) s m args below meth c D TR 67 base 7 0 0 (FinI D TR 67 base below args s i32) M37 143 [(0, .ref (base + 0)), (1, .int (Ii a1)), (2, .int (Ii a2)), (3, .int (Ii a3)), (4, .int (Ii v3)), (6, .int (Ii v36))] [] (J v36 M37)) (by
                      intro v36 M37 hv36
                      refine go_iconst (v := 1) X dX12_rule_143 rfl ?_
                      refine go_goto (tgt := 148) X dX12_rule_144 rfl ?_
                      exact hJ148_34 v36 1 M37 hv36 (Or.inr rfl)
                      )
                      (fun J143_38 hJ143_38 => ?_)
                  refine go_icmp_ge (tgt := 143) X dX12_rule_115 rfl hv25 hv30 (fun c39 => ?_) (fun c39 => ?_)
                  · refine go_sub [0, 1, 2, 3, 4, 6] rfl ?_
                    exact hJ143_38 v25 M26 hv25
                  · refine go_aload_n X dX12_rule_118 rfl 0 rfl ?_
                    refine go_getc (i := 5) X fc12 dX12_rule_119 trn0 tr0 (Nat.le_of_ble_eq_true rfl) rfl lw870 rfl ?_
                    refine go_iconst (v := 3) X dX12_rule_122 rfl ?_
                    refine go_iload_n X dX12_rule_123 rfl 1 rfl ?_
                    refine go_imul X dX12_rule_124 kI_3 ha1 (fun v40 hv40 => ?_)
                    refine go_iload X dX12_rule_125 6 rfl ?_
                    refine go_iadd X dX12_rule_127 hv40 hv25 (fun v41 hv41 => ?_)
                    refine go_iaload X dX12_rule_128 trn5 tr5 hv41 (fun v42 hv42 => ?_)
                    refine go_aload_n X dX12_rule_129 rfl 0 rfl ?_
                    refine go_getc (i := 5) X fc12 dX12_rule_130 trn0 tr0 (Nat.le_of_ble_eq_true rfl) rfl lw870 rfl ?_
                    refine go_iconst (v := 3) X dX12_rule_133 rfl ?_
                    refine go_iload_n X dX12_rule_134 rfl 3 rfl ?_
                    refine go_imul X dX12_rule_135 kI_3 ha3 (fun v43 hv43 => ?_)
                    refine go_iload X dX12_rule_136 6 rfl ?_
                    refine go_iadd X dX12_rule_138 hv43 hv25 (fun v44 hv44 => ?_)
                    refine go_iaload X dX12_rule_139 trn5 tr5 hv44 (fun v45 hv45 => ?_)
                    refine go_icmp_ne (tgt := 147) X dX12_rule_140 rfl hv42 hv45 (fun c46 => ?_) (fun c46 => ?_)
                    · refine go_iconst (v := 0) X dX12_rule_147 rfl ?_
                      refine go_sub [0, 1, 2, 3, 4, 6] rfl ?_
                      exact hJ148_34 v25 0 M26 hv25 (Or.inl rfl)
                    · refine go_sub [0, 1, 2, 3, 4, 6] rfl ?_
                      exact hJ143_38 v25 M26 hv25
              )
              FU v6 0 M7 hv6 kI_0
          )
          (fun J91_8 hJ91_8 => ?_)
      refine go_lt (fun J => ∀ (M48 : Mm), Go p l e (rmO 2 43) s m args below meth c D TR 67 base 7 0 0 (FinI D TR 67 base below args s i32) M48 90 [(0, .ref (base + 0)), (1, .int (Ii a1)), (2, .int (Ii a2)), (3, .int (Ii a3)), (4, .int (Ii v3))] [] (J M48)) (by
          intro M48
          refine go_iconst (v := 0) X dX12_rule_90 rfl ?_
          exact hJ91_8 0 M48 (Or.inl rfl)
          )
          (fun J90_49 hJ90_49 => ?_)
      refine go_if_eq (tgt := 90) X dX12_rule_33 rfl (bo_i32 hv3) (fun c50 => ?_) (fun c50 => ?_)
      · refine go_sub [1, 2, 3, 4, 0] rfl ?_
        exact hJ90_49 M4
      · refine go_iload_n X dX12_rule_36 rfl 2 rfl ?_
        refine go_iload_n X dX12_rule_37 rfl 4 rfl ?_
        refine go_icmp_eq (tgt := 90) X dX12_rule_38 rfl ha1 ha3 (fun c51 => ?_) (fun c51 => ?_)
        · refine go_sub [1, 2, 3, 4, 0] rfl ?_
          exact hJ90_49 M4
        · refine go_aload_n X dX12_rule_41 rfl 1 rfl ?_
          refine go_getc (i := 1) X fc12 dX12_rule_42 trn0 tr0 (Nat.le_of_ble_eq_true rfl) rfl lw866 rfl ?_
          refine go_iload_n X dX12_rule_45 rfl 2 rfl ?_
          refine go_iaload X dX12_rule_46 trn1 tr1 ha1 (fun v52 hv52 => ?_)
          refine go_aload_n X dX12_rule_47 rfl 1 rfl ?_
          refine go_getc (i := 1) X fc12 dX12_rule_48 trn0 tr0 (Nat.le_of_ble_eq_true rfl) rfl lw866 rfl ?_
          refine go_iload_n X dX12_rule_51 rfl 4 rfl ?_
          refine go_iaload X dX12_rule_52 trn1 tr1 ha3 (fun v53 hv53 => ?_)
          refine go_icmp_ne (tgt := 90) X dX12_rule_53 rfl hv52 hv53 (fun c54 => ?_) (fun c54 => ?_)
          · refine go_sub [1, 2, 3, 4, 0] rfl ?_
            exact hJ90_49 M4
          · refine go_aload_n X dX12_rule_56 rfl 1 rfl ?_
            refine go_getc (i := 4) X fc12 dX12_rule_57 trn0 tr0 (Nat.le_of_ble_eq_true rfl) rfl lw869 rfl ?_
            refine go_iload_n X dX12_rule_60 rfl 2 rfl ?_
            refine go_iaload X dX12_rule_61 trn4 tr4 ha1 (fun v55 hv55 => ?_)
            refine go_aload_n X dX12_rule_62 rfl 1 rfl ?_
            refine go_getc (i := 4) X fc12 dX12_rule_63 trn0 tr0 (Nat.le_of_ble_eq_true rfl) rfl lw869 rfl ?_
            refine go_iload_n X dX12_rule_66 rfl 4 rfl ?_
            refine go_iaload X dX12_rule_67 trn4 tr4 ha3 (fun v56 hv56 => ?_)
            refine go_icmp_ne (tgt := 90) X dX12_rule_68 rfl hv55 hv56 (fun c57 => ?_) (fun c57 => ?_)
            · refine go_sub [1, 2, 3, 4, 0] rfl ?_
              exact hJ90_49 M4
            · refine go_aload_n X dX12_rule_71 rfl 1 rfl ?_
              refine go_getc (i := 6) X fc12 dX12_rule_72 trn0 tr0 (Nat.le_of_ble_eq_true rfl) rfl lw871 rfl ?_
              refine go_iload_n X dX12_rule_75 rfl 2 rfl ?_
              refine go_iaload X dX12_rule_76 trn6 tr6 ha1 (fun v58 hv58 => ?_)
              refine go_aload_n X dX12_rule_77 rfl 1 rfl ?_
              refine go_getc (i := 6) X fc12 dX12_rule_78 trn0 tr0 (Nat.le_of_ble_eq_true rfl) rfl lw871 rfl ?_
              refine go_iload_n X dX12_rule_81 rfl 4 rfl ?_
              refine go_iaload X dX12_rule_82 trn6 tr6 ha3 (fun v59 hv59 => ?_)
              refine go_icmp_ne (tgt := 90) X dX12_rule_83 rfl hv58 hv59 (fun c60 => ?_) (fun c60 => ?_)
              · refine go_sub [1, 2, 3, 4, 0] rfl ?_
                exact hJ90_49 M4
              · refine go_iconst (v := 1) X dX12_rule_86 rfl ?_
                refine go_goto (tgt := 91) X dX12_rule_87 rfl ?_
                refine go_sub [1, 2, 3, 4, 0] rfl ?_
                exact hJ91_8 1 M4 (Or.inr rfl)
      )
      (fun J29_5 hJ29_5 => ?_)
  refine go_lt (fun J => ∀ (M61 : Mm), Go p l e (rmO 2 43) s m args below meth c D TR 67 base 7 0 0 (FinI D TR 67 base below args s i32) M61 28 [(0, .ref (base + 0)), (1, .int (Ii a1)), (2, .int (Ii a2)), (3, .int (Ii a3))] [] (J M61)) (by
      intro M61
      refine go_iconst (v := 0) X dX12_rule_28 rfl ?_
      exact hJ29_5 0 M61 (Or.inl rfl)
      )
      (fun J28_62 hJ28_62 => ?_)
  refine go_if_eq (tgt := 28) X dX12_rule_5 rfl (bo_i32 hv2) (fun c63 => ?_) (fun c63 => ?_)
  · exact hJ28_62 M1
  · refine go_aload_n X dX12_rule_8 rfl 0 rfl ?_
    refine go_iload_n X dX12_rule_9 rfl 3 rfl ?_
    refine goI (fun H locs ls r ho hW hL => runV X (ok_X12_isProduction l D base M1 a3 ha3 H.size r ho) dX12_rule_10 lw965 lw966 lw967 lw944 ⟨lw940, cy_X12_isProduction, Nat.le_of_ble_eq_true rfl, Nat.le_of_ble_eq_true rfl⟩ rfl trn0 tr0 rfl rfl rfl rfl (Nat.le_of_ble_eq_true rfl) hW hL hk0) (fun v65 M64 hv65 => ?_)
    refine go_if_eq (tgt := 28) X dX12_rule_13 rfl (bo_i32 hv65) (fun c66 => ?_) (fun c66 => ?_)
    · exact hJ28_62 M64
    · refine go_aload_n X dX12_rule_16 rfl 0 rfl ?_
      refine go_iload_n X dX12_rule_17 rfl 2 rfl ?_
      refine goI (fun H locs ls r ho hW hL => runV X (ok_X12_isAttribute l D base M64 a2 ha2 H.size r ho) dX12_rule_18 lw971 lw972 lw973 lw944 ⟨lw945, cy_X12_isAttribute, Nat.le_of_ble_eq_true rfl, Nat.le_of_ble_eq_true rfl⟩ rfl trn0 tr0 rfl rfl rfl rfl (Nat.le_of_ble_eq_true rfl) hW hL hk0) (fun v68 M67 hv68 => ?_)
      refine go_if_eq (tgt := 28) X dX12_rule_21 rfl (bo_i32 hv68) (fun c69 => ?_) (fun c69 => ?_)
      · exact hJ28_62 M67
      · refine go_iconst (v := 1) X dX12_rule_24 rfl ?_
        refine go_goto (tgt := 29) X dX12_rule_25 rfl ?_
        exact hJ29_5 1 M67 (Or.inr rfl)
def f_X12_attribute (a1 : Int) (M : Mm) : Rs :=
Cl (f_X12_isIn a1 0 3 M) fun v2 M1 =>
Lt (fun (v3 : Int) (M4 : Mm) => 
Cl (f_X12_fails v3 M4) fun v7 M6 =>
if v7 = 0 then (
Lt (M6 0 12) fun v9 =>
gd (0 ≤ v9 ∧ v9 < 6) <|
Lt (up M6 12 v9.toNat a1) fun M10 =>
Lt (M10 0 12) fun v11 =>
Lt (wr (v11 + 1)) fun v12 =>
Lt (up M10 0 12 v12) fun M13 =>
Cl (f_X12_dropsAll M13) fun _ M14 =>
Lt (M14 0 12) fun v15 =>
Lt (wr (v15 - 1)) fun v16 =>
some (v16, M14)) else (
some (0, M6))) fun J28_5 =>
if ¬ v2 = 0 then (
Lt (M1 0 12) fun v18 =>
if ¬ v18 = 6 then (
J28_5 0 M1) else (
J28_5 2 M1)) else (
J28_5 1 M1)
theorem cy_X12_attribute : yX12_attribute.cls ≠ "java/lang/invoke/MethodHandle" ∧ yX12_attribute.cls ≠ "java/lang/invoke/VarHandle" ∧ (parseMethodDescriptor yX12_attribute.desc).map (fun d => d.parameters.length) = some 1 := ⟨by decide +kernel, by decide +kernel, by decide +kernel⟩
set_option maxRecDepth 20000 in
theorem ok_X12_attribute (l : Launch) (D : Dd) (base : Nat) (M : Mm) (a1 : Int) (ha1 : i32 a1) : OkI l D TR 67 base yX12_attribute cX12_attribute 2 (some .int) 1 22 [.ref (base + 0), .int (Ii a1)] M i32 (f_X12_attribute a1 M) := by
  refine metI (by decide +kernel) [(0, .ref (base + 0)), (1, .int (Ii a1))] rfl (Nat.le_of_ble_eq_true rfl) (fun p e s m args below meth c X hrt hlk => ?_)
  have X : Cx p s m args c cX12_attribute D 2 RX12 := X
  unfold f_X12_attribute
  refine go_aload_n X dX12_attribute_0 rfl 0 rfl ?_
  refine go_iload_n X dX12_attribute_1 rfl 1 rfl ?_
  refine go_iconst (v := 0) X dX12_attribute_2 rfl ?_
  refine go_iconst (v := 3) X dX12_attribute_3 rfl ?_
  refine goI (fun H locs ls r ho hW hL => runS X (ok_X12_isIn l D base M a1 ha1 0 kI_0 3 kI_3 H.size r ho) dX12_attribute_4 lw942 lw943 lw944 ⟨lw939, cy_X12_isIn, Nat.le_of_ble_eq_true rfl, Nat.le_of_ble_eq_true rfl⟩ rfl rfl (Nat.le_of_ble_eq_true rfl) hW hL hk0) (fun v2 M1 hv2 => ?_)
  refine go_lt (fun J => ∀ (v3 : Int) (M4 : Mm), i32 v3 → Go p l e (rmO 1 22) s m args below meth c D TR 67 base 2 0 0 (FinI D TR 67 base below args s i32) M4 28 [(0, .ref (base + 0)), (1, .int (Ii a1))] [.int (Ii v3), .ref (base + 0)] (J v3 M4)) (by
      intro v3 M4 hv3
      refine goI (fun H locs ls r ho hW hL => runV X (ok_X12_fails l D base M4 v3 hv3 H.size r ho) dX12_attribute_28 lw954 lw955 lw956 lw944 ⟨lw937, cy_X12_fails, Nat.le_of_ble_eq_true rfl, Nat.le_of_ble_eq_true rfl⟩ rfl trn0 tr0 rfl rfl rfl rfl (Nat.le_of_ble_eq_true rfl) hW hL hk0) (fun v7 M6 hv7 => ?_)
      refine go_if_eq (tgt := 36) X dX12_attribute_31 rfl (bo_i32 hv7) (fun c8 => ?_) (fun c8 => ?_)
      · refine go_aload_n X dX12_attribute_36 rfl 0 rfl ?_
        refine go_getc (i := 13) X fc12 dX12_attribute_37 trn0 tr0 (Nat.le_of_ble_eq_true rfl) rfl lw877 rfl ?_
        refine go_aload_n X dX12_attribute_40 rfl 0 rfl ?_
        refine go_geti (i := 12) X fc12 dX12_attribute_41 trn0 tr0 (Nat.le_of_ble_eq_true rfl) rfl lw946 rfl (fun v9 hv9 => ?_)
        refine go_iload_n X dX12_attribute_44 rfl 1 rfl ?_
        refine go_iastore X dX12_attribute_45 trn12 tr12 hv9 ha1 (fun M10 => ?_)
        refine go_aload_n X dX12_attribute_46 rfl 0 rfl ?_
        refine go_dup X dX12_attribute_47 rfl ?_
        refine go_geti (i := 12) X fc12 dX12_attribute_48 trn0 tr0 (Nat.le_of_ble_eq_true rfl) rfl lw946 rfl (fun v11 hv11 => ?_)
        refine go_iconst (v := 1) X dX12_attribute_51 rfl ?_
        refine go_iadd X dX12_attribute_52 hv11 kI_1 (fun v12 hv12 => ?_)
        refine go_puti (i := 12) X fc12 dX12_attribute_53 trn0 tr0 (Nat.le_of_ble_eq_true rfl) rfl lw946 rfl rfl rfl hv12 (fun M13 => ?_)
        refine go_aload_n X dX12_attribute_56 rfl 0 rfl ?_
        refine goV (fun H locs ls r ho hW hL => runV X (ok_X12_dropsAll l D base M13  H.size r ho) dX12_attribute_57 lw960 lw961 lw962 lw944 ⟨lw949, cy_X12_dropsAll, Nat.le_of_ble_eq_true rfl, Nat.le_of_ble_eq_true rfl⟩ rfl trn0 tr0 rfl rfl rfl rfl (Nat.le_of_ble_eq_true rfl) hW hL hk0) (fun _ M14 => ?_)
        refine go_aload_n X dX12_attribute_60 rfl 0 rfl ?_
        refine go_geti (i := 12) X fc12 dX12_attribute_61 trn0 tr0 (Nat.le_of_ble_eq_true rfl) rfl lw946 rfl (fun v15 hv15 => ?_)
        refine go_iconst (v := 1) X dX12_attribute_64 rfl ?_
        refine go_isub X dX12_attribute_65 hv15 kI_1 (fun v16 hv16 => ?_)
        exact go_ireturn X hrt hlk dX12_attribute_66 hv16
      · refine go_iconst (v := 0) X dX12_attribute_34 rfl ?_
        exact go_ireturn X hrt hlk dX12_attribute_35 kI_0
      )
      (fun J28_5 hJ28_5 => ?_)
  refine go_if_ne (tgt := 14) X dX12_attribute_7 rfl (bo_i32 hv2) (fun c17 => ?_) (fun c17 => ?_)
  · refine go_aload_n X dX12_attribute_14 rfl 0 rfl ?_
    refine go_geti (i := 12) X fc12 dX12_attribute_15 trn0 tr0 (Nat.le_of_ble_eq_true rfl) rfl lw946 rfl (fun v18 hv18 => ?_)
    refine go_bipush (v := 6) X dX12_attribute_18 (by decide) ?_
    refine go_icmp_ne (tgt := 27) X dX12_attribute_20 rfl hv18 kI_6 (fun c19 => ?_) (fun c19 => ?_)
    · refine go_iconst (v := 0) X dX12_attribute_27 rfl ?_
      exact hJ28_5 0 M1 kI_0
    · refine go_iconst (v := 2) X dX12_attribute_23 rfl ?_
      refine go_goto (tgt := 28) X dX12_attribute_24 rfl ?_
      exact hJ28_5 2 M1 kI_2
  · refine go_iconst (v := 1) X dX12_attribute_10 rfl ?_
    refine go_goto (tgt := 28) X dX12_attribute_11 rfl ?_
    exact hJ28_5 1 M1 kI_1
def f_X12_taken (a1 : Int) (M : Mm) : Rs :=
Lt (fun (v1 : Int) (M2 : Mm) => 
some (v1, M2)) fun J36_3 =>
if ¬ a1 = 7 then (
Cl (f_X12_isIn a1 8 12 M) fun v6 M5 =>
if v6 = 0 then (
if ¬ a1 = 13 then (
J36_3 0 M5) else (
J36_3 3 M5)) else (
J36_3 2 M5)) else (
J36_3 1 M)
theorem cy_X12_taken : yX12_taken.cls ≠ "java/lang/invoke/MethodHandle" ∧ yX12_taken.cls ≠ "java/lang/invoke/VarHandle" ∧ (parseMethodDescriptor yX12_taken.desc).map (fun d => d.parameters.length) = some 1 := ⟨by decide +kernel, by decide +kernel, by decide +kernel⟩
set_option maxRecDepth 20000 in
theorem ok_X12_taken (l : Launch) (D : Dd) (base : Nat) (M : Mm) (a1 : Int) (ha1 : i32 a1) : OkI l D TR 67 base yX12_taken cX12_taken 1 (some .int) 1 22 [.int (Ii a1)] M i32 (f_X12_taken a1 M) := by
  refine metI (by decide +kernel) [(0, .int (Ii a1))] rfl (Nat.le_of_ble_eq_true rfl) (fun p e s m args below meth c X hrt hlk => ?_)
  have X : Cx p s m args c cX12_taken D 1 RX12 := X
  unfold f_X12_taken
  refine go_iload_n X dX12_taken_0 rfl 0 rfl ?_
  refine go_bipush (v := 7) X dX12_taken_1 (by decide) ?_
  refine go_lt (fun J => ∀ (v1 : Int) (M2 : Mm), i32 v1 → Go p l e (rmO 1 22) s m args below meth c D TR 67 base 1 0 0 (FinI D TR 67 base below args s i32) M2 36 [] [.int (Ii v1)] (J v1 M2)) (by
      intro v1 M2 hv1
      exact go_ireturn X hrt hlk dX12_taken_36 hv1
      )
      (fun J36_3 hJ36_3 => ?_)
  refine go_icmp_ne (tgt := 10) X dX12_taken_3 rfl ha1 kI_7 (fun c4 => ?_) (fun c4 => ?_)
  · refine go_iload_n X dX12_taken_10 rfl 0 rfl ?_
    refine go_bipush (v := 8) X dX12_taken_11 (by decide) ?_
    refine go_bipush (v := 12) X dX12_taken_13 (by decide) ?_
    refine goI (fun H locs ls r ho hW hL => runS X (ok_X12_isIn l D base M a1 ha1 8 kI_8 12 kI_12 H.size r ho) dX12_taken_15 lw942 lw943 lw944 ⟨lw939, cy_X12_isIn, Nat.le_of_ble_eq_true rfl, Nat.le_of_ble_eq_true rfl⟩ rfl rfl (Nat.le_of_ble_eq_true rfl) hW hL hk0) (fun v6 M5 hv6 => ?_)
    refine go_if_eq (tgt := 25) X dX12_taken_18 rfl (bo_i32 hv6) (fun c7 => ?_) (fun c7 => ?_)
    · refine go_iload_n X dX12_taken_25 rfl 0 rfl ?_
      refine go_bipush (v := 13) X dX12_taken_26 (by decide) ?_
      refine go_icmp_ne (tgt := 35) X dX12_taken_28 rfl ha1 kI_13 (fun c8 => ?_) (fun c8 => ?_)
      · refine go_iconst (v := 0) X dX12_taken_35 rfl ?_
        refine go_sub [] rfl ?_
        exact hJ36_3 0 M5 kI_0
      · refine go_iconst (v := 3) X dX12_taken_31 rfl ?_
        refine go_goto (tgt := 36) X dX12_taken_32 rfl ?_
        refine go_sub [] rfl ?_
        exact hJ36_3 3 M5 kI_3
    · refine go_iconst (v := 2) X dX12_taken_21 rfl ?_
      refine go_goto (tgt := 36) X dX12_taken_22 rfl ?_
      refine go_sub [] rfl ?_
      exact hJ36_3 2 M5 kI_2
  · refine go_iconst (v := 1) X dX12_taken_6 rfl ?_
    refine go_goto (tgt := 36) X dX12_taken_7 rfl ?_
    refine go_sub [] rfl ?_
    exact hJ36_3 1 M kI_1
def f_X12_isOfAttribute (a1 : Int) (M : Mm) : Rs :=
Lt (fun (v1 : Int) (M2 : Mm) => 
some (v1, M2)) fun J21_3 =>
Lt (fun (M4 : Mm) => 
J21_3 1 M4) fun J16_5 =>
if a1 = 1 then (
J16_5 M) else (
if a1 = 2 then (
J16_5 M) else (
if ¬ a1 = 7 then (
J21_3 0 M) else (
J16_5 M)))
theorem cy_X12_isOfAttribute : yX12_isOfAttribute.cls ≠ "java/lang/invoke/MethodHandle" ∧ yX12_isOfAttribute.cls ≠ "java/lang/invoke/VarHandle" ∧ (parseMethodDescriptor yX12_isOfAttribute.desc).map (fun d => d.parameters.length) = some 1 := ⟨by decide +kernel, by decide +kernel, by decide +kernel⟩
set_option maxRecDepth 20000 in
theorem ok_X12_isOfAttribute (l : Launch) (D : Dd) (base : Nat) (M : Mm) (a1 : Int) (ha1 : i32 a1) : OkI l D TR 67 base yX12_isOfAttribute cX12_isOfAttribute 1 (some .boolean) 0 0 [.int (Ii a1)] M bo (f_X12_isOfAttribute a1 M) := by
  refine metI (by decide +kernel) [(0, .int (Ii a1))] rfl (Nat.le_of_ble_eq_true rfl) (fun p e s m args below meth c X hrt hlk => ?_)
  have X : Cx p s m args c cX12_isOfAttribute D 1 RX12 := X
  unfold f_X12_isOfAttribute
  refine go_iload_n X dX12_isOfAttribute_0 rfl 0 rfl ?_
  refine go_iconst (v := 1) X dX12_isOfAttribute_1 rfl ?_
  refine go_lt (fun J => ∀ (v1 : Int) (M2 : Mm), bo v1 → Go p l e (rmO 0 0) s m args below meth c D TR 67 base 1 0 0 (FinI D TR 67 base below args s bo) M2 21 [] [.int (Ii v1)] (J v1 M2)) (by
      intro v1 M2 hv1
      exact go_zreturn X hrt hlk dX12_isOfAttribute_21 hv1 hv1
      )
      (fun J21_3 hJ21_3 => ?_)
  refine go_lt (fun J => ∀ (M4 : Mm), Go p l e (rmO 0 0) s m args below meth c D TR 67 base 1 0 0 (FinI D TR 67 base below args s bo) M4 16 [] [] (J M4)) (by
      intro M4
      refine go_iconst (v := 1) X dX12_isOfAttribute_16 rfl ?_
      refine go_goto (tgt := 21) X dX12_isOfAttribute_17 rfl ?_
      exact hJ21_3 1 M4 (Or.inr rfl)
      )
      (fun J16_5 hJ16_5 => ?_)
  refine go_icmp_eq (tgt := 16) X dX12_isOfAttribute_2 rfl ha1 kI_1 (fun c6 => ?_) (fun c6 => ?_)
  · refine go_sub [] rfl ?_
    exact hJ16_5 M
  · refine go_iload_n X dX12_isOfAttribute_5 rfl 0 rfl ?_
    refine go_iconst (v := 2) X dX12_isOfAttribute_6 rfl ?_
    refine go_icmp_eq (tgt := 16) X dX12_isOfAttribute_7 rfl ha1 kI_2 (fun c7 => ?_) (fun c7 => ?_)
    · refine go_sub [] rfl ?_
      exact hJ16_5 M
    · refine go_iload_n X dX12_isOfAttribute_10 rfl 0 rfl ?_
      refine go_bipush (v := 7) X dX12_isOfAttribute_11 (by decide) ?_
      refine go_icmp_ne (tgt := 20) X dX12_isOfAttribute_13 rfl ha1 kI_7 (fun c8 => ?_) (fun c8 => ?_)
      · refine go_iconst (v := 0) X dX12_isOfAttribute_20 rfl ?_
        refine go_sub [] rfl ?_
        exact hJ21_3 0 M (Or.inl rfl)
      · refine go_sub [] rfl ?_
        exact hJ16_5 M
def f_X12_step (a1 : Int) (a2 : Int) (a3 : Int) (M : Mm) : Rs :=
Cl (f_X12_isOfAttribute a1 M) fun v2 M1 =>
Lt (fun (v3 : Int) (M4 : Mm) => 
Lt (fun (v6 : Int) (M7 : Mm) => 
Cl (f_X12_isIn a1 0 14 M7) fun v10 M9 =>
Lt (fun (v11 : Int) (M12 : Mm) => 
Lt (fun (v14 : Int) (M15 : Mm) => 
Cl (f_X12_fails v14 M15) fun v18 M17 =>
if v18 = 0 then (
Lt (M17 0 14) fun v20 =>
gd (0 ≤ v20 ∧ v20 < 8) <|
Lt (up M17 13 v20.toNat a1) fun M21 =>
Lt (M21 0 14) fun v22 =>
gd (0 ≤ v22 ∧ v22 < 8) <|
Lt (up M21 14 v22.toNat a2) fun M23 =>
Lt (M23 0 14) fun v24 =>
gd (0 ≤ v24 ∧ v24 < 8) <|
Lt (up M23 15 v24.toNat a3) fun M25 =>
Lt (M25 0 14) fun v26 =>
Lt (wr (v26 + 1)) fun v27 =>
Lt (up M25 0 14 v27) fun M28 =>
Lt (M28 0 15) fun v29 =>
Cl (f_X12_taken a1 M28) fun v31 M30 =>
Lt (wr (1 - v31)) fun v32 =>
Lt (wr (v29 + v32)) fun v33 =>
Lt (up M30 0 15 v33) fun M34 =>
Lt (M34 0 15) fun v35 =>
some (v35, M34)) else (
some (0, M17))) fun J156_16 =>
if ¬ v3 = 0 then (
if ¬ v11 = 0 then (
Lt (M12 0 15) fun v38 =>
Cl (f_X12_taken a1 M12) fun v40 M39 =>
Lt (fun (M41 : Mm) => 
J156_16 3 M41) fun J151_42 =>
if v38 < v40 then (
J151_42 M39) else (
Lt (M39 0 14) fun v44 =>
if ¬ v44 = 8 then (
J156_16 0 M39) else (
J151_42 M39))) else (
J156_16 2 M12)) else (
J156_16 1 M12)) fun J110_13 =>
Lt (fun (M46 : Mm) => 
J110_13 0 M46) fun J109_47 =>
if v10 = 0 then (
J109_47 M9) else (
Cl (f_X12_isIn a2 0 v6 M9) fun v50 M49 =>
if v50 = 0 then (
J109_47 M49) else (
Lt (fun (v52 : Int) (M53 : Mm) => 
Cl (f_X12_isIn a3 0 v52 M53) fun v56 M55 =>
if v56 = 0 then (
J109_47 M55) else (
J110_13 1 M55)) fun J99_54 =>
Lt (fun (M58 : Mm) => 
J99_54 2 M58) fun J94_59 =>
if a1 = 2 then (
J94_59 M49) else (
if ¬ a1 = 6 then (
J99_54 0 M49) else (
J94_59 M49))))) fun J59_8 =>
if ¬ a1 = 0 then (
Lt (fun (M63 : Mm) => 
J59_8 2 M63) fun J42_64 =>
if a1 = 3 then (
J42_64 M4) else (
if ¬ a1 = 4 then (
Cl (f_X12_isOfAttribute a1 M4) fun v68 M67 =>
if v68 = 0 then (
J59_8 0 M67) else (
J59_8 6 M67)) else (
J42_64 M4))) else (
J59_8 999 M4)) fun J20_5 =>
Lt (fun (M70 : Mm) => 
J20_5 1 M70) fun J15_71 =>
if v2 = 0 then (
J15_71 M1) else (
Cl (f_X12_isAttribute a2 M1) fun v74 M73 =>
if v74 = 0 then (
J20_5 0 M73) else (
J15_71 M73))
theorem cy_X12_step : yX12_step.cls ≠ "java/lang/invoke/MethodHandle" ∧ yX12_step.cls ≠ "java/lang/invoke/VarHandle" ∧ (parseMethodDescriptor yX12_step.desc).map (fun d => d.parameters.length) = some 3 := ⟨by decide +kernel, by decide +kernel, by decide +kernel⟩
set_option maxRecDepth 20000 in
theorem ok_X12_step (l : Launch) (D : Dd) (base : Nat) (M : Mm) (a1 : Int) (ha1 : i32 a1) (a2 : Int) (ha2 : i32 a2) (a3 : Int) (ha3 : i32 a3) : OkI l D TR 67 base yX12_step cX12_step 7 (some .int) 2 43 [.ref (base + 0), .int (Ii a1), .int (Ii a2), .int (Ii a3)] M i32 (f_X12_step a1 a2 a3 M) := by
  refine metI (by decide +kernel) [(0, .ref (base + 0)), (1, .int (Ii a1)), (2, .int (Ii a2)), (3, .int (Ii a3))] rfl (Nat.le_of_ble_eq_true rfl) (fun p e s m args below meth c X hrt hlk => ?_)
  have X : Cx p s m args c cX12_step D 7 RX12 := X
  unfold f_X12_step
  refine go_iload_n X dX12_step_0 rfl 1 rfl ?_
  refine goI (fun H locs ls r ho hW hL => runS X (ok_X12_isOfAttribute l D base M a1 ha1 H.size r ho) dX12_step_1 lw980 lw981 lw944 ⟨lw977, cy_X12_isOfAttribute, Nat.le_of_ble_eq_true rfl, Nat.le_of_ble_eq_true rfl⟩ rfl rfl (Nat.le_of_ble_eq_true rfl) hW hL hk0) (fun v2 M1 hv2 => ?_)
  refine go_lt (fun J => ∀ (v3 : Int) (M4 : Mm), bo v3 → Go p l e (rmO 2 43) s m args below meth c D TR 67 base 7 0 0 (FinI D TR 67 base below args s i32) M4 20 [(0, .ref (base + 0)), (1, .int (Ii a1)), (2, .int (Ii a2)), (3, .int (Ii a3))] [.int (Ii v3)] (J v3 M4)) (by
      intro v3 M4 hv3
      refine go_istore (i := 4) (L' := [(4, .int (Ii v3)), (0, .ref (base + 0)), (1, .int (Ii a1)), (2, .int (Ii a2)), (3, .int (Ii a3))]) X dX12_step_20 (by decide) rfl ?_
      refine go_iload_n X dX12_step_22 rfl 2 rfl ?_
      refine go_lt (fun J => ∀ (v6 : Int) (M7 : Mm), i32 v6 → Go p l e (rmO 2 43) s m args below meth c D TR 67 base 7 0 0 (FinI D TR 67 base below args s i32) M7 59 [(0, .ref (base + 0)), (1, .int (Ii a1)), (2, .int (Ii a2)), (3, .int (Ii a3)), (4, .int (Ii v3))] [.int (Ii v6)] (J v6 M7)) (by
          intro v6 M7 hv6
          refine go_istore (i := 5) (L' := [(5, .int (Ii v6)), (0, .ref (base + 0)), (1, .int (Ii a1)), (2, .int (Ii a2)), (3, .int (Ii a3)), (4, .int (Ii v3))]) X dX12_step_59 (by decide) rfl ?_
          refine go_iload_n X dX12_step_61 rfl 2 rfl ?_
          refine go_iconst (v := 0) X dX12_step_62 rfl ?_
          refine go_bipush (v := 14) X dX12_step_63 (by decide) ?_
          refine goI (fun H locs ls r ho hW hL => runS X (ok_X12_isIn l D base M7 a1 ha1 0 kI_0 14 kI_14 H.size r ho) dX12_step_65 lw942 lw943 lw944 ⟨lw939, cy_X12_isIn, Nat.le_of_ble_eq_true rfl, Nat.le_of_ble_eq_true rfl⟩ rfl rfl (Nat.le_of_ble_eq_true rfl) hW hL hk0) (fun v10 M9 hv10 => ?_)
          refine go_lt (fun J => ∀ (v11 : Int) (M12 : Mm), bo v11 → Go p l e (rmO 2 43) s m args below meth c D TR 67 base 7 0 0 (FinI D TR 67 base below args s i32) M12 110 [(0, .ref (base + 0)), (1, .int (Ii a1)), (2, .int (Ii a2)), (3, .int (Ii a3)), (4, .int (Ii v3))] [.int (Ii v11)] (J v11 M12)) (by
              intro v11 M12 hv11
              refine go_istore (i := 6) (L' := [(6, .int (Ii v11)), (0, .ref (base + 0)), (1, .int (Ii a1)), (2, .int (Ii a2)), (3, .int (Ii a3)), (4, .int (Ii v3))]) X dX12_step_110 (by decide) rfl ?_
              refine go_aload_n X dX12_step_112 rfl 1 rfl ?_
              refine go_iload X dX12_step_113 5 rfl ?_
              refine go_lt (fun J => ∀ (v14 : Int) (M15 : Mm), i32 v14 → Go p l e (rmO 2 43) s m args below meth c D TR 67 base 7 0 0 (FinI D TR 67 base below args s i32) M15 156 [(0, .ref (base + 0)), (1, .int (Ii a1)), (2, .int (Ii a2)), (3, .int (Ii a3))] [.int (Ii v14), .ref (base + 0)] (J v14 M15)) (by
                  intro v14 M15 hv14
                  refine goI (fun H locs ls r ho hW hL => runV X (ok_X12_fails l D base M15 v14 hv14 H.size r ho) dX12_step_156 lw954 lw955 lw956 lw944 ⟨lw937, cy_X12_fails, Nat.le_of_ble_eq_true rfl, Nat.le_of_ble_eq_true rfl⟩ rfl trn0 tr0 rfl rfl rfl rfl (Nat.le_of_ble_eq_true rfl) hW hL hk0) (fun v18 M17 hv18 => ?_)
                  refine go_if_eq (tgt := 164) X dX12_step_159 rfl (bo_i32 hv18) (fun c19 => ?_) (fun c19 => ?_)
                  · refine go_aload_n X dX12_step_164 rfl 0 rfl ?_
                    refine go_getc (i := 16) X fc12 dX12_step_165 trn0 tr0 (Nat.le_of_ble_eq_true rfl) rfl lw878 rfl ?_
                    refine go_aload_n X dX12_step_168 rfl 0 rfl ?_
                    refine go_geti (i := 14) X fc12 dX12_step_169 trn0 tr0 (Nat.le_of_ble_eq_true rfl) rfl lw979 rfl (fun v20 hv20 => ?_)
                    refine go_iload_n X dX12_step_172 rfl 1 rfl ?_
                    refine go_iastore X dX12_step_173 trn13 tr13 hv20 ha1 (fun M21 => ?_)
                    refine go_aload_n X dX12_step_174 rfl 0 rfl ?_
                    refine go_getc (i := 17) X fc12 dX12_step_175 trn0 tr0 (Nat.le_of_ble_eq_true rfl) rfl lw879 rfl ?_
                    refine go_aload_n X dX12_step_178 rfl 0 rfl ?_
                    refine go_geti (i := 14) X fc12 dX12_step_179 trn0 tr0 (Nat.le_of_ble_eq_true rfl) rfl lw979 rfl (fun v22 hv22 => ?_)
                    refine go_iload_n X dX12_step_182 rfl 2 rfl ?_
                    refine go_iastore X dX12_step_183 trn14 tr14 hv22 ha2 (fun M23 => ?_)
                    refine go_aload_n X dX12_step_184 rfl 0 rfl ?_
                    refine go_getc (i := 18) X fc12 dX12_step_185 trn0 tr0 (Nat.le_of_ble_eq_true rfl) rfl lw880 rfl ?_
                    refine go_aload_n X dX12_step_188 rfl 0 rfl ?_
                    refine go_geti (i := 14) X fc12 dX12_step_189 trn0 tr0 (Nat.le_of_ble_eq_true rfl) rfl lw979 rfl (fun v24 hv24 => ?_)
                    refine go_iload_n X dX12_step_192 rfl 3 rfl ?_
                    refine go_iastore X dX12_step_193 trn15 tr15 hv24 ha3 (fun M25 => ?_)
                    refine go_aload_n X dX12_step_194 rfl 0 rfl ?_
                    refine go_dup X dX12_step_195 rfl ?_
                    refine go_geti (i := 14) X fc12 dX12_step_196 trn0 tr0 (Nat.le_of_ble_eq_true rfl) rfl lw979 rfl (fun v26 hv26 => ?_)
                    refine go_iconst (v := 1) X dX12_step_199 rfl ?_
                    refine go_iadd X dX12_step_200 hv26 kI_1 (fun v27 hv27 => ?_)
                    refine go_puti (i := 14) X fc12 dX12_step_201 trn0 tr0 (Nat.le_of_ble_eq_true rfl) rfl lw979 rfl rfl rfl hv27 (fun M28 => ?_)
                    refine go_aload_n X dX12_step_204 rfl 0 rfl ?_
                    refine go_dup X dX12_step_205 rfl ?_
                    refine go_geti (i := 15) X fc12 dX12_step_206 trn0 tr0 (Nat.le_of_ble_eq_true rfl) rfl lw978 rfl (fun v29 hv29 => ?_)
                    refine go_iconst (v := 1) X dX12_step_209 rfl ?_
                    refine go_iload_n X dX12_step_210 rfl 1 rfl ?_
                    refine goI (fun H locs ls r ho hW hL => runS X (ok_X12_taken l D base M28 a1 ha1 H.size r ho) dX12_step_211 lw982 lw983 lw944 ⟨lw976, cy_X12_taken, Nat.le_of_ble_eq_true rfl, Nat.le_of_ble_eq_true rfl⟩ rfl rfl (Nat.le_of_ble_eq_true rfl) hW hL hk0) (fun v31 M30 hv31 => ?_)
                    refine go_isub X dX12_step_214 kI_1 hv31 (fun v32 hv32 => ?_)
                    refine go_iadd X dX12_step_215 hv29 hv32 (fun v33 hv33 => ?_)
                    refine go_puti (i := 15) X fc12 dX12_step_216 trn0 tr0 (Nat.le_of_ble_eq_true rfl) rfl lw978 rfl rfl rfl hv33 (fun M34 => ?_)
                    refine go_aload_n X dX12_step_219 rfl 0 rfl ?_
                    refine go_geti (i := 15) X fc12 dX12_step_220 trn0 tr0 (Nat.le_of_ble_eq_true rfl) rfl lw978 rfl (fun v35 hv35 => ?_)
                    exact go_ireturn X hrt hlk dX12_step_223 hv35
                  · refine go_iconst (v := 0) X dX12_step_162 rfl ?_
                    exact go_ireturn X hrt hlk dX12_step_163 kI_0
                  )
                  (fun J156_16 hJ156_16 => ?_)
              refine go_if_ne (tgt := 122) X dX12_step_115 rfl (bo_i32 hv3) (fun c36 => ?_) (fun c36 => ?_)
              · refine go_iload X dX12_step_122 0 rfl ?_
                refine go_if_ne (tgt := 131) X dX12_step_124 rfl (bo_i32 hv11) (fun c37 => ?_) (fun c37 => ?_)
                · refine go_aload_n X dX12_step_131 rfl 1 rfl ?_
                  refine go_geti (i := 15) X fc12 dX12_step_132 trn0 tr0 (Nat.le_of_ble_eq_true rfl) rfl lw978 rfl (fun v38 hv38 => ?_)
                  refine go_iload_n X dX12_step_135 rfl 2 rfl ?_
                  refine goI (fun H locs ls r ho hW hL => runS X (ok_X12_taken l D base M12 a1 ha1 H.size r ho) dX12_step_136 lw982 lw983 lw944 ⟨lw976, cy_X12_taken, Nat.le_of_ble_eq_true rfl, Nat.le_of_ble_eq_true rfl⟩ rfl rfl (Nat.le_of_ble_eq_true rfl) hW hL hk0) (fun v40 M39 hv40 => ?_)
                  refine go_lt (fun J => ∀ (M41 : Mm), Go p l e (rmO 2 43) s m args below meth c D TR 67 base 7 0 0 (FinI D TR 67 base below args s i32) M41 151 [(0, .ref (base + 0)), (1, .int (Ii a1)), (2, .int (Ii a2)), (3, .int (Ii a3))] [.ref (base + 0)] (J M41)) (by
                      intro M41
                      refine go_iconst (v := 3) X dX12_step_151 rfl ?_
                      refine go_goto (tgt := 156) X dX12_step_152 rfl ?_
                      exact hJ156_16 3 M41 kI_3
                      )
                      (fun J151_42 hJ151_42 => ?_)
                  refine go_icmp_lt (tgt := 151) X dX12_step_139 rfl hv38 hv40 (fun c43 => ?_) (fun c43 => ?_)
                  · refine go_sub [1, 2, 3, 4] rfl ?_
                    exact hJ151_42 M39
                  · refine go_aload_n X dX12_step_142 rfl 1 rfl ?_
                    refine go_geti (i := 14) X fc12 dX12_step_143 trn0 tr0 (Nat.le_of_ble_eq_true rfl) rfl lw979 rfl (fun v44 hv44 => ?_)
                    refine go_bipush (v := 8) X dX12_step_146 (by decide) ?_
                    refine go_icmp_ne (tgt := 155) X dX12_step_148 rfl hv44 kI_8 (fun c45 => ?_) (fun c45 => ?_)
                    · refine go_iconst (v := 0) X dX12_step_155 rfl ?_
                      refine go_sub [1, 2, 3, 4] rfl ?_
                      exact hJ156_16 0 M39 kI_0
                    · refine go_sub [1, 2, 3, 4] rfl ?_
                      exact hJ151_42 M39
                · refine go_iconst (v := 2) X dX12_step_127 rfl ?_
                  refine go_goto (tgt := 156) X dX12_step_128 rfl ?_
                  refine go_sub [1, 2, 3, 4] rfl ?_
                  exact hJ156_16 2 M12 kI_2
              · refine go_iconst (v := 1) X dX12_step_118 rfl ?_
                refine go_goto (tgt := 156) X dX12_step_119 rfl ?_
                refine go_sub [1, 2, 3, 4] rfl ?_
                exact hJ156_16 1 M12 kI_1
              )
              (fun J110_13 hJ110_13 => ?_)
          refine go_lt (fun J => ∀ (M46 : Mm), Go p l e (rmO 2 43) s m args below meth c D TR 67 base 7 0 0 (FinI D TR 67 base below args s i32) M46 109 [(0, .ref (base + 0)), (1, .int (Ii a1)), (2, .int (Ii a2)), (3, .int (Ii a3)), (4, .int (Ii v3))] [] (J M46)) (by
              intro M46
              refine go_iconst (v := 0) X dX12_step_109 rfl ?_
              exact hJ110_13 0 M46 (Or.inl rfl)
              )
              (fun J109_47 hJ109_47 => ?_)
          refine go_if_eq (tgt := 109) X dX12_step_68 rfl (bo_i32 hv10) (fun c48 => ?_) (fun c48 => ?_)
          · refine go_sub [1, 2, 3, 4, 5] rfl ?_
            exact hJ109_47 M9
          · refine go_iload_n X dX12_step_71 rfl 3 rfl ?_
            refine go_iconst (v := 0) X dX12_step_72 rfl ?_
            refine go_iload X dX12_step_73 0 rfl ?_
            refine goI (fun H locs ls r ho hW hL => runS X (ok_X12_isIn l D base M9 a2 ha2 0 kI_0 v6 hv6 H.size r ho) dX12_step_75 lw942 lw943 lw944 ⟨lw939, cy_X12_isIn, Nat.le_of_ble_eq_true rfl, Nat.le_of_ble_eq_true rfl⟩ rfl rfl (Nat.le_of_ble_eq_true rfl) hW hL hk0) (fun v50 M49 hv50 => ?_)
            refine go_if_eq (tgt := 109) X dX12_step_78 rfl (bo_i32 hv50) (fun c51 => ?_) (fun c51 => ?_)
            · refine go_sub [1, 2, 3, 4, 5] rfl ?_
              exact hJ109_47 M49
            · refine go_iload_n X dX12_step_81 rfl 4 rfl ?_
              refine go_iconst (v := 0) X dX12_step_82 rfl ?_
              refine go_iload_n X dX12_step_83 rfl 2 rfl ?_
              refine go_iconst (v := 2) X dX12_step_84 rfl ?_
              refine go_lt (fun J => ∀ (v52 : Int) (M53 : Mm), i32 v52 → Go p l e (rmO 2 43) s m args below meth c D TR 67 base 7 0 0 (FinI D TR 67 base below args s i32) M53 99 [(0, .ref (base + 0)), (1, .int (Ii a1)), (2, .int (Ii a2)), (3, .int (Ii a3)), (4, .int (Ii v3))] [.int (Ii v52), .int (Ii 0), .int (Ii a3)] (J v52 M53)) (by
                  intro v52 M53 hv52
                  refine goI (fun H locs ls r ho hW hL => runS X (ok_X12_isIn l D base M53 a3 ha3 0 kI_0 v52 hv52 H.size r ho) dX12_step_99 lw942 lw943 lw944 ⟨lw939, cy_X12_isIn, Nat.le_of_ble_eq_true rfl, Nat.le_of_ble_eq_true rfl⟩ rfl rfl (Nat.le_of_ble_eq_true rfl) hW hL hk0) (fun v56 M55 hv56 => ?_)
                  refine go_if_eq (tgt := 109) X dX12_step_102 rfl (bo_i32 hv56) (fun c57 => ?_) (fun c57 => ?_)
                  · exact hJ109_47 M55
                  · refine go_iconst (v := 1) X dX12_step_105 rfl ?_
                    refine go_goto (tgt := 110) X dX12_step_106 rfl ?_
                    exact hJ110_13 1 M55 (Or.inr rfl)
                  )
                  (fun J99_54 hJ99_54 => ?_)
              refine go_lt (fun J => ∀ (M58 : Mm), Go p l e (rmO 2 43) s m args below meth c D TR 67 base 7 0 0 (FinI D TR 67 base below args s i32) M58 94 [(0, .ref (base + 0)), (1, .int (Ii a1)), (2, .int (Ii a2)), (3, .int (Ii a3)), (4, .int (Ii v3))] [.int (Ii 0), .int (Ii a3)] (J M58)) (by
                  intro M58
                  refine go_iconst (v := 2) X dX12_step_94 rfl ?_
                  refine go_goto (tgt := 99) X dX12_step_95 rfl ?_
                  exact hJ99_54 2 M58 kI_2
                  )
                  (fun J94_59 hJ94_59 => ?_)
              refine go_icmp_eq (tgt := 94) X dX12_step_85 rfl ha1 kI_2 (fun c60 => ?_) (fun c60 => ?_)
              · refine go_sub [1, 2, 3, 4, 5] rfl ?_
                exact hJ94_59 M49
              · refine go_iload_n X dX12_step_88 rfl 2 rfl ?_
                refine go_bipush (v := 6) X dX12_step_89 (by decide) ?_
                refine go_icmp_ne (tgt := 98) X dX12_step_91 rfl ha1 kI_6 (fun c61 => ?_) (fun c61 => ?_)
                · refine go_iconst (v := 0) X dX12_step_98 rfl ?_
                  refine go_sub [1, 2, 3, 4, 5] rfl ?_
                  exact hJ99_54 0 M49 kI_0
                · refine go_sub [1, 2, 3, 4, 5] rfl ?_
                  exact hJ94_59 M49
          )
          (fun J59_8 hJ59_8 => ?_)
      refine go_if_ne (tgt := 32) X dX12_step_23 rfl ha1 (fun c62 => ?_) (fun c62 => ?_)
      · refine go_iload_n X dX12_step_32 rfl 2 rfl ?_
        refine go_iconst (v := 3) X dX12_step_33 rfl ?_
        refine go_lt (fun J => ∀ (M63 : Mm), Go p l e (rmO 2 43) s m args below meth c D TR 67 base 7 0 0 (FinI D TR 67 base below args s i32) M63 42 [(0, .ref (base + 0)), (1, .int (Ii a1)), (2, .int (Ii a2)), (3, .int (Ii a3)), (4, .int (Ii v3))] [] (J M63)) (by
            intro M63
            refine go_iconst (v := 2) X dX12_step_42 rfl ?_
            refine go_goto (tgt := 59) X dX12_step_43 rfl ?_
            exact hJ59_8 2 M63 kI_2
            )
            (fun J42_64 hJ42_64 => ?_)
        refine go_icmp_eq (tgt := 42) X dX12_step_34 rfl ha1 kI_3 (fun c65 => ?_) (fun c65 => ?_)
        · refine go_sub [1, 2, 3, 4, 0] rfl ?_
          exact hJ42_64 M4
        · refine go_iload_n X dX12_step_37 rfl 2 rfl ?_
          refine go_iconst (v := 4) X dX12_step_38 rfl ?_
          refine go_icmp_ne (tgt := 46) X dX12_step_39 rfl ha1 kI_4 (fun c66 => ?_) (fun c66 => ?_)
          · refine go_iload_n X dX12_step_46 rfl 2 rfl ?_
            refine goI (fun H locs ls r ho hW hL => runS X (ok_X12_isOfAttribute l D base M4 a1 ha1 H.size r ho) dX12_step_47 lw980 lw981 lw944 ⟨lw977, cy_X12_isOfAttribute, Nat.le_of_ble_eq_true rfl, Nat.le_of_ble_eq_true rfl⟩ rfl rfl (Nat.le_of_ble_eq_true rfl) hW hL hk0) (fun v68 M67 hv68 => ?_)
            refine go_if_eq (tgt := 58) X dX12_step_50 rfl (bo_i32 hv68) (fun c69 => ?_) (fun c69 => ?_)
            · refine go_iconst (v := 0) X dX12_step_58 rfl ?_
              refine go_sub [1, 2, 3, 4, 0] rfl ?_
              exact hJ59_8 0 M67 kI_0
            · refine go_bipush (v := 6) X dX12_step_53 (by decide) ?_
              refine go_goto (tgt := 59) X dX12_step_55 rfl ?_
              refine go_sub [1, 2, 3, 4, 0] rfl ?_
              exact hJ59_8 6 M67 kI_6
          · refine go_sub [1, 2, 3, 4, 0] rfl ?_
            exact hJ42_64 M4
      · refine go_sipush (v := 999) X dX12_step_26 (by decide) ?_
        refine go_goto (tgt := 59) X dX12_step_29 rfl ?_
        refine go_sub [1, 2, 3, 4, 0] rfl ?_
        exact hJ59_8 999 M4 kI_999
      )
      (fun J20_5 hJ20_5 => ?_)
  refine go_lt (fun J => ∀ (M70 : Mm), Go p l e (rmO 2 43) s m args below meth c D TR 67 base 7 0 0 (FinI D TR 67 base below args s i32) M70 15 [(0, .ref (base + 0)), (1, .int (Ii a1)), (2, .int (Ii a2)), (3, .int (Ii a3))] [] (J M70)) (by
      intro M70
      refine go_iconst (v := 1) X dX12_step_15 rfl ?_
      refine go_goto (tgt := 20) X dX12_step_16 rfl ?_
      exact hJ20_5 1 M70 (Or.inr rfl)
      )
      (fun J15_71 hJ15_71 => ?_)
  refine go_if_eq (tgt := 15) X dX12_step_4 rfl (bo_i32 hv2) (fun c72 => ?_) (fun c72 => ?_)
  · exact hJ15_71 M1
  · refine go_aload_n X dX12_step_7 rfl 0 rfl ?_
    refine go_iload_n X dX12_step_8 rfl 2 rfl ?_
    refine goI (fun H locs ls r ho hW hL => runV X (ok_X12_isAttribute l D base M1 a2 ha2 H.size r ho) dX12_step_9 lw971 lw972 lw973 lw944 ⟨lw945, cy_X12_isAttribute, Nat.le_of_ble_eq_true rfl, Nat.le_of_ble_eq_true rfl⟩ rfl trn0 tr0 rfl rfl rfl rfl (Nat.le_of_ble_eq_true rfl) hW hL hk0) (fun v74 M73 hv74 => ?_)
    refine go_if_eq (tgt := 19) X dX12_step_12 rfl (bo_i32 hv74) (fun c75 => ?_) (fun c75 => ?_)
    · refine go_iconst (v := 0) X dX12_step_19 rfl ?_
      exact hJ20_5 0 M73 (Or.inl rfl)
    · exact hJ15_71 M73
def f_X12_dropSteps (M : Mm) : Rs :=
Lt (up M 0 87 0) fun M1 =>
Lt (M1 0 14) fun v2 =>
Lt (up M1 0 14 0) fun M3 =>
Lt (up M3 0 15 0) fun M4 =>
some (v2, M4)
theorem cy_X12_dropSteps : yX12_dropSteps.cls ≠ "java/lang/invoke/MethodHandle" ∧ yX12_dropSteps.cls ≠ "java/lang/invoke/VarHandle" ∧ (parseMethodDescriptor yX12_dropSteps.desc).map (fun d => d.parameters.length) = some 0 := ⟨by decide +kernel, by decide +kernel, by decide +kernel⟩
set_option maxRecDepth 20000 in
theorem ok_X12_dropSteps (l : Launch) (D : Dd) (base : Nat) (M : Mm) : OkI l D TR 67 base yX12_dropSteps cX12_dropSteps 2 (some .int) 0 0 [.ref (base + 0)] M i32 (f_X12_dropSteps M) := by
  refine metI (by decide +kernel) [(0, .ref (base + 0))] rfl (Nat.le_of_ble_eq_true rfl) (fun p e s m args below meth c X hrt hlk => ?_)
  have X : Cx p s m args c cX12_dropSteps D 2 RX12 := X
  unfold f_X12_dropSteps
  refine go_aload_n X dX12_dropSteps_0 rfl 0 rfl ?_
  refine go_iconst (v := 0) X dX12_dropSteps_1 rfl ?_
  refine go_puti (i := 87) X fc12 dX12_dropSteps_2 trn0 tr0 (Nat.le_of_ble_eq_true rfl) rfl lw936 rfl rfl rfl kI_0 (fun M1 => ?_)
  refine go_aload_n X dX12_dropSteps_5 rfl 0 rfl ?_
  refine go_geti (i := 14) X fc12 dX12_dropSteps_6 trn0 tr0 (Nat.le_of_ble_eq_true rfl) rfl lw979 rfl (fun v2 hv2 => ?_)
  refine go_istore_n (i := 1) (L' := [(1, .int (Ii v2)), (0, .ref (base + 0))]) X dX12_dropSteps_9 rfl (by decide) rfl ?_
  refine go_aload_n X dX12_dropSteps_10 rfl 1 rfl ?_
  refine go_iconst (v := 0) X dX12_dropSteps_11 rfl ?_
  refine go_puti (i := 14) X fc12 dX12_dropSteps_12 trn0 tr0 (Nat.le_of_ble_eq_true rfl) rfl lw979 rfl rfl rfl kI_0 (fun M3 => ?_)
  refine go_aload_n X dX12_dropSteps_15 rfl 1 rfl ?_
  refine go_iconst (v := 0) X dX12_dropSteps_16 rfl ?_
  refine go_puti (i := 15) X fc12 dX12_dropSteps_17 trn0 tr0 (Nat.le_of_ble_eq_true rfl) rfl lw978 rfl rfl rfl kI_0 (fun M4 => ?_)
  refine go_iload_n X dX12_dropSteps_20 rfl 0 rfl ?_
  exact go_ireturn X hrt hlk dX12_dropSteps_21 hv2
def f_X12_lays_L78_44 (v16 : Int) (v25 : Int) (v26 : Int) (J112_29 : Int → Mm → Rs) (rc78_36 : Int × Int × Mm → Rs) : Int × Int × Mm → Rs := fun (v33, v34, M35) =>
if v25 ≤ v34 then (
J112_29 v33 M35) else (
Lt (wr (3 * v16)) fun v38 =>
Lt (wr (v38 + v34)) fun v39 =>
Lt (wr (v26 + v34)) fun v40 =>
gd (0 ≤ v40 ∧ v40 < 9) <|
Lt (M35 28 v40.toNat) fun v41 =>
gd (0 ≤ v39 ∧ v39 < 720) <|
Lt (up M35 24 v39.toNat v41) fun M42 =>
Lt (wr (v34 + 1)) fun v43 =>
rc78_36 (v33, v43, M42))
def f_X12_lays_L4_45 (a1 : Int) (J129_2 : Mm → Rs) (rc4_12 : Int × Int × Mm → Rs) : Int × Int × Mm → Rs := fun (v9, v10, M11) =>
Lt (M11 0 14) fun v13 =>
if v13 ≤ v10 then (
J129_2 M11) else (
Lt (wr (8 * a1)) fun v15 =>
Lt (wr (v15 + v10)) fun v16 =>
gd (0 ≤ v10 ∧ v10 < 8) <|
Lt (M11 13 v10.toNat) fun v17 =>
gd (0 ≤ v16 ∧ v16 < 240) <|
Lt (up M11 21 v16.toNat v17) fun M18 =>
gd (0 ≤ v10 ∧ v10 < 8) <|
Lt (M18 14 v10.toNat) fun v19 =>
gd (0 ≤ v16 ∧ v16 < 240) <|
Lt (up M18 22 v16.toNat v19) fun M20 =>
gd (0 ≤ v10 ∧ v10 < 8) <|
Lt (M20 15 v10.toNat) fun v21 =>
gd (0 ≤ v16 ∧ v16 < 240) <|
Lt (up M20 23 v16.toNat v21) fun M22 =>
gd (0 ≤ v10 ∧ v10 < 8) <|
Lt (M22 13 v10.toNat) fun v23 =>
Cl (f_X12_taken v23 M22) fun v25 M24 =>
Lt (wr (v9 - v25)) fun v26 =>
Lt (fun (v27 : Int) (M28 : Mm) => 
gd (0 ≤ v26 ∧ v26 < 9) <|
Lt (up M28 28 v26.toNat v16) fun M30 =>
Lt (wr (v26 + 1)) fun v31 =>
Lt (wr (v27 + 1)) fun v32 =>
rc4_12 (v31, v32, M30)) fun J112_29 =>
Lp (f_X12_lays_L78_44 v16 v25 v26 J112_29) FU (v10, 0, M24))
def f_X12_lays (a1 : Int) (M : Mm) : Rs :=
Lt (fun (M1 : Mm) => 
gd (0 ≤ 0 ∧ 0 < 9) <|
Lt (M1 28 0) fun v3 =>
gd (0 ≤ a1 ∧ a1 < 30) <|
Lt (up M1 25 a1.toNat v3) fun M4 =>
gd (0 ≤ 1 ∧ 1 < 9) <|
Lt (M4 28 1) fun v5 =>
gd (0 ≤ a1 ∧ a1 < 30) <|
Lt (up M4 26 a1.toNat v5) fun M6 =>
Lt (M6 0 14) fun v7 =>
gd (0 ≤ a1 ∧ a1 < 30) <|
Lt (up M6 20 a1.toNat v7) fun M8 =>
some (0, M8)) fun J129_2 =>
Lp (f_X12_lays_L4_45 a1 J129_2) FU (0, 0, M)
theorem cy_X12_lays : yX12_lays.cls ≠ "java/lang/invoke/MethodHandle" ∧ yX12_lays.cls ≠ "java/lang/invoke/VarHandle" ∧ (parseMethodDescriptor yX12_lays.desc).map (fun d => d.parameters.length) = some 1 := ⟨by decide +kernel, by decide +kernel, by decide +kernel⟩
set_option maxRecDepth 20000 in
theorem ok_X12_lays (l : Launch) (D : Dd) (base : Nat) (M : Mm) (a1 : Int) (ha1 : i32 a1) : OkV l D TR 67 base yX12_lays cX12_lays 7 none 2 42 [.ref (base + 0), .int (Ii a1)] M (f_X12_lays a1 M) := by
  refine metV (by decide +kernel) [(0, .ref (base + 0)), (1, .int (Ii a1))] rfl (Nat.le_of_ble_eq_true rfl) (fun p e s m args below meth c X hrt hlk => ?_)
  have X : Cx p s m args c cX12_lays D 7 RX12 := X
  unfold f_X12_lays
  refine go_iconst (v := 0) X dX12_lays_0 rfl ?_
  refine go_istore_n (i := 2) (L' := [(2, .int (Ii 0)), (0, .ref (base + 0)), (1, .int (Ii a1))]) X dX12_lays_1 rfl (by decide) rfl ?_
  refine go_iconst (v := 0) X dX12_lays_2 rfl ?_
  refine go_istore_n (i := 3) (L' := [(3, .int (Ii 0)), (2, .int (Ii 0)), (0, .ref (base + 0)), (1, .int (Ii a1))]) X dX12_lays_3 rfl (by decide) rfl ?_
  refine go_lt (fun J => ∀ (M1 : Mm), Go p l e (rmO 2 42) s m args below meth c D TR 67 base 7 0 0 (FinV D TR 67 base below args s) M1 129 [(0, .ref (base + 0)), (1, .int (Ii a1))] [] (J M1)) (by
      intro M1
      refine go_aload_n X dX12_lays_129 rfl 0 rfl ?_
      refine go_getc (i := 29) X fc12 dX12_lays_130 trn0 tr0 (Nat.le_of_ble_eq_true rfl) rfl lw890 rfl ?_
      refine go_iload_n X dX12_lays_133 rfl 1 rfl ?_
      refine go_aload_n X dX12_lays_134 rfl 0 rfl ?_
      refine go_getc (i := 32) X fc12 dX12_lays_135 trn0 tr0 (Nat.le_of_ble_eq_true rfl) rfl lw893 rfl ?_
      refine go_iconst (v := 0) X dX12_lays_138 rfl ?_
      refine go_iaload X dX12_lays_139 trn28 tr28 kI_0 (fun v3 hv3 => ?_)
      refine go_iastore X dX12_lays_140 trn25 tr25 ha1 hv3 (fun M4 => ?_)
      refine go_aload_n X dX12_lays_141 rfl 0 rfl ?_
      refine go_getc (i := 30) X fc12 dX12_lays_142 trn0 tr0 (Nat.le_of_ble_eq_true rfl) rfl lw891 rfl ?_
      refine go_iload_n X dX12_lays_145 rfl 1 rfl ?_
      refine go_aload_n X dX12_lays_146 rfl 0 rfl ?_
      refine go_getc (i := 32) X fc12 dX12_lays_147 trn0 tr0 (Nat.le_of_ble_eq_true rfl) rfl lw893 rfl ?_
      refine go_iconst (v := 1) X dX12_lays_150 rfl ?_
      refine go_iaload X dX12_lays_151 trn28 tr28 kI_1 (fun v5 hv5 => ?_)
      refine go_iastore X dX12_lays_152 trn26 tr26 ha1 hv5 (fun M6 => ?_)
      refine go_aload_n X dX12_lays_153 rfl 0 rfl ?_
      refine go_getc (i := 24) X fc12 dX12_lays_154 trn0 tr0 (Nat.le_of_ble_eq_true rfl) rfl lw885 rfl ?_
      refine go_iload_n X dX12_lays_157 rfl 1 rfl ?_
      refine go_aload_n X dX12_lays_158 rfl 0 rfl ?_
      refine go_geti (i := 14) X fc12 dX12_lays_159 trn0 tr0 (Nat.le_of_ble_eq_true rfl) rfl lw979 rfl (fun v7 hv7 => ?_)
      refine go_iastore X dX12_lays_162 trn20 tr20 ha1 hv7 (fun M8 => ?_)
      exact go_vreturn X hrt hlk dX12_lays_163
      )
      (fun J129_2 hJ129_2 => ?_)
  refine go_sub [2, 3, 1, 0] rfl ?_
  exact go_lp (fun (rc : Int × Int × Mm → Rs) => ∀ (v9 : Int) (v10 : Int) (M11 : Mm), i32 v9 → i32 v10 → Go p l e (rmO 2 42) s m args below meth c D TR 67 base 7 0 0 (FinV D TR 67 base below args s) M11 4 [(0, .ref (base + 0)), (1, .int (Ii a1)), (2, .int (Ii v9)), (3, .int (Ii v10))] [] (rc (v9, v10, M11)))
      (by intro v9 v10 M11 hv9 hv10; exact go_none)
      (by
      intro rc4_12 hrc4_12 v9 v10 M11 hv9 hv10
      unfold f_X12_lays_L4_45
      dsimp only
      refine go_iload_n X dX12_lays_4 rfl 3 rfl ?_
      refine go_aload_n X dX12_lays_5 rfl 0 rfl ?_
      refine go_geti (i := 14) X fc12 dX12_lays_6 trn0 tr0 (Nat.le_of_ble_eq_true rfl) rfl lw979 rfl (fun v13 hv13 => ?_)
      refine go_icmp_ge (tgt := 129) X dX12_lays_9 rfl hv10 hv13 (fun c14 => ?_) (fun c14 => ?_)
      · refine go_sub [0, 1] rfl ?_
        exact hJ129_2 M11
      · refine go_bipush (v := 8) X dX12_lays_12 (by decide) ?_
        refine go_iload_n X dX12_lays_14 rfl 1 rfl ?_
        refine go_imul X dX12_lays_15 kI_8 ha1 (fun v15 hv15 => ?_)
        refine go_iload_n X dX12_lays_16 rfl 3 rfl ?_
        refine go_iadd X dX12_lays_17 hv15 hv10 (fun v16 hv16 => ?_)
        refine go_istore (i := 4) (L' := [(4, .int (Ii v16)), (0, .ref (base + 0)), (1, .int (Ii a1)), (2, .int (Ii v9)), (3, .int (Ii v10))]) X dX12_lays_18 (by decide) rfl ?_
        refine go_aload_n X dX12_lays_20 rfl 1 rfl ?_
        refine go_getc (i := 25) X fc12 dX12_lays_21 trn0 tr0 (Nat.le_of_ble_eq_true rfl) rfl lw886 rfl ?_
        refine go_iload X dX12_lays_24 0 rfl ?_
        refine go_aload_n X dX12_lays_26 rfl 1 rfl ?_
        refine go_getc (i := 16) X fc12 dX12_lays_27 trn0 tr0 (Nat.le_of_ble_eq_true rfl) rfl lw878 rfl ?_
        refine go_iload_n X dX12_lays_30 rfl 4 rfl ?_
        refine go_iaload X dX12_lays_31 trn13 tr13 hv10 (fun v17 hv17 => ?_)
        refine go_iastore X dX12_lays_32 trn21 tr21 hv16 hv17 (fun M18 => ?_)
        refine go_aload_n X dX12_lays_33 rfl 1 rfl ?_
        refine go_getc (i := 26) X fc12 dX12_lays_34 trn0 tr0 (Nat.le_of_ble_eq_true rfl) rfl lw887 rfl ?_
        refine go_iload X dX12_lays_37 0 rfl ?_
        refine go_aload_n X dX12_lays_39 rfl 1 rfl ?_
        refine go_getc (i := 17) X fc12 dX12_lays_40 trn0 tr0 (Nat.le_of_ble_eq_true rfl) rfl lw879 rfl ?_
        refine go_iload_n X dX12_lays_43 rfl 4 rfl ?_
        refine go_iaload X dX12_lays_44 trn14 tr14 hv10 (fun v19 hv19 => ?_)
        refine go_iastore X dX12_lays_45 trn22 tr22 hv16 hv19 (fun M20 => ?_)
        refine go_aload_n X dX12_lays_46 rfl 1 rfl ?_
        refine go_getc (i := 27) X fc12 dX12_lays_47 trn0 tr0 (Nat.le_of_ble_eq_true rfl) rfl lw888 rfl ?_
        refine go_iload X dX12_lays_50 0 rfl ?_
        refine go_aload_n X dX12_lays_52 rfl 1 rfl ?_
        refine go_getc (i := 18) X fc12 dX12_lays_53 trn0 tr0 (Nat.le_of_ble_eq_true rfl) rfl lw880 rfl ?_
        refine go_iload_n X dX12_lays_56 rfl 4 rfl ?_
        refine go_iaload X dX12_lays_57 trn15 tr15 hv10 (fun v21 hv21 => ?_)
        refine go_iastore X dX12_lays_58 trn23 tr23 hv16 hv21 (fun M22 => ?_)
        refine go_aload_n X dX12_lays_59 rfl 1 rfl ?_
        refine go_getc (i := 16) X fc12 dX12_lays_60 trn0 tr0 (Nat.le_of_ble_eq_true rfl) rfl lw878 rfl ?_
        refine go_iload_n X dX12_lays_63 rfl 4 rfl ?_
        refine go_iaload X dX12_lays_64 trn13 tr13 hv10 (fun v23 hv23 => ?_)
        refine goI (fun H locs ls r ho hW hL => runS X (ok_X12_taken l D base M22 v23 hv23 H.size r ho) dX12_lays_65 lw982 lw983 lw944 ⟨lw976, cy_X12_taken, Nat.le_of_ble_eq_true rfl, Nat.le_of_ble_eq_true rfl⟩ rfl rfl (Nat.le_of_ble_eq_true rfl) hW hL hk0) (fun v25 M24 hv25 => ?_)
        refine go_istore (i := 5) (L' := [(5, .int (Ii v25)), (4, .int (Ii v16)), (0, .ref (base + 0)), (1, .int (Ii a1)), (2, .int (Ii v9)), (3, .int (Ii v10))]) X dX12_lays_68 (by decide) rfl ?_
        refine go_iload_n X dX12_lays_70 rfl 4 rfl ?_
        refine go_iload X dX12_lays_71 0 rfl ?_
        refine go_isub X dX12_lays_73 hv9 hv25 (fun v26 hv26 => ?_)
        refine go_istore_n (i := 2) (L' := [(2, .int (Ii v26)), (5, .int (Ii v25)), (4, .int (Ii v16)), (0, .ref (base + 0)), (1, .int (Ii a1)), (3, .int (Ii v10))]) X dX12_lays_74 rfl (by decide) rfl ?_
        refine go_iconst (v := 0) X dX12_lays_75 rfl ?_
        refine go_istore (i := 6) (L' := [(6, .int (Ii 0)), (2, .int (Ii v26)), (5, .int (Ii v25)), (4, .int (Ii v16)), (0, .ref (base + 0)), (1, .int (Ii a1)), (3, .int (Ii v10))]) X dX12_lays_76 (by decide) rfl ?_
        refine go_lt (fun J => ∀ (v27 : Int) (M28 : Mm), i32 v27 → Go p l e (rmO 2 42) s m args below meth c D TR 67 base 7 0 0 (FinV D TR 67 base below args s) M28 112 [(0, .ref (base + 0)), (1, .int (Ii a1)), (2, .int (Ii v26)), (3, .int (Ii v27)), (4, .int (Ii v16))] [] (J v27 M28)) (by
            intro v27 M28 hv27
            refine go_aload_n X dX12_lays_112 rfl 0 rfl ?_
            refine go_getc (i := 32) X fc12 dX12_lays_113 trn0 tr0 (Nat.le_of_ble_eq_true rfl) rfl lw893 rfl ?_
            refine go_iload_n X dX12_lays_116 rfl 2 rfl ?_
            refine go_iload X dX12_lays_117 4 rfl ?_
            refine go_iastore X dX12_lays_119 trn28 tr28 hv26 hv16 (fun M30 => ?_)
            refine go_iinc (i := 2) (L' := fun v => [(2, .int (Ii v)), (0, .ref (base + 0)), (1, .int (Ii a1)), (3, .int (Ii v27)), (4, .int (Ii v16))]) X dX12_lays_120 hv26 kI_1 (j := 2) rfl (by decide) (fun _ => rfl) (fun v31 hv31 => ?_)
            refine go_iinc (i := 3) (L' := fun v => [(3, .int (Ii v)), (2, .int (Ii v31)), (0, .ref (base + 0)), (1, .int (Ii a1)), (4, .int (Ii v16))]) X dX12_lays_123 hv27 kI_1 (j := 3) rfl (by decide) (fun _ => rfl) (fun v32 hv32 => ?_)
            refine go_goto (tgt := 4) X dX12_lays_126 rfl ?_
            refine go_sub [2, 3, 1, 0] rfl ?_
            exact hrc4_12 v31 v32 M30 hv31 hv32
            )
            (fun J112_29 hJ112_29 => ?_)
        refine go_sub [4, 5, 1, 6, 3, 2, 0] rfl ?_
        exact go_lp (fun (rc : Int × Int × Mm → Rs) => ∀ (v33 : Int) (v34 : Int) (M35 : Mm), i32 v33 → i32 v34 → Go p l e (rmO 2 42) s m args below meth c D TR 67 base 7 0 0 (FinV D TR 67 base below args s) M35 78 [(0, .ref (base + 0)), (1, .int (Ii a1)), (2, .int (Ii v26)), (3, .int (Ii v33)), (4, .int (Ii v16)), (5, .int (Ii v25)), (6, .int (Ii v34))] [] (rc (v33, v34, M35)))
            (by intro v33 v34 M35 hv33 hv34; exact go_none)
            (by
            intro rc78_36 hrc78_36 v33 v34 M35 hv33 hv34
            unfold f_X12_lays_L78_44
            dsimp only
            refine go_iload X dX12_lays_78 6 rfl ?_
            refine go_iload X dX12_lays_80 5 rfl ?_
            refine go_icmp_ge (tgt := 112) X dX12_lays_82 rfl hv34 hv25 (fun c37 => ?_) (fun c37 => ?_)
            · refine go_sub [0, 1, 2, 3, 4] rfl ?_
              exact hJ112_29 v33 M35 hv33
            · refine go_aload_n X dX12_lays_85 rfl 0 rfl ?_
              refine go_getc (i := 28) X fc12 dX12_lays_86 trn0 tr0 (Nat.le_of_ble_eq_true rfl) rfl lw889 rfl ?_
              refine go_iconst (v := 3) X dX12_lays_89 rfl ?_
              refine go_iload X dX12_lays_90 4 rfl ?_
              refine go_imul X dX12_lays_92 kI_3 hv16 (fun v38 hv38 => ?_)
              refine go_iload X dX12_lays_93 6 rfl ?_
              refine go_iadd X dX12_lays_95 hv38 hv34 (fun v39 hv39 => ?_)
              refine go_aload_n X dX12_lays_96 rfl 0 rfl ?_
              refine go_getc (i := 32) X fc12 dX12_lays_97 trn0 tr0 (Nat.le_of_ble_eq_true rfl) rfl lw893 rfl ?_
              refine go_iload_n X dX12_lays_100 rfl 2 rfl ?_
              refine go_iload X dX12_lays_101 6 rfl ?_
              refine go_iadd X dX12_lays_103 hv26 hv34 (fun v40 hv40 => ?_)
              refine go_iaload X dX12_lays_104 trn28 tr28 hv40 (fun v41 hv41 => ?_)
              refine go_iastore X dX12_lays_105 trn24 tr24 hv39 hv41 (fun M42 => ?_)
              refine go_iinc (i := 6) (L' := fun v => [(6, .int (Ii v)), (0, .ref (base + 0)), (1, .int (Ii a1)), (2, .int (Ii v26)), (3, .int (Ii v33)), (4, .int (Ii v16)), (5, .int (Ii v25))]) X dX12_lays_106 hv34 kI_1 (j := 6) rfl (by decide) (fun _ => rfl) (fun v43 hv43 => ?_)
              refine go_goto (tgt := 78) X dX12_lays_109 rfl ?_
              refine go_sub [1, 2, 3, 4, 5, 6, 0] rfl ?_
              exact hrc78_36 v33 v43 M42 hv33 hv43
            )
            FU v10 0 M24 hv10 kI_0
      )
      FU 0 0 M kI_0 kI_0
def f_X12_equation (a1 : Int) (a2 : Int) (a3 : Int) (a4 : Int) (M : Mm) : Rs :=
Cl (f_X12_isProduction a1 M) fun v2 M1 =>
Lt (fun (v3 : Int) (M4 : Mm) => 
Lt (fun (v6 : Int) (M7 : Mm) => 
Lt (fun (v9 : Int) (M10 : Mm) => 
Lt (fun (v12 : Int) (M13 : Mm) => 
Cl (f_X12_fails v12 M13) fun v16 M15 =>
if v16 = 0 then (
Lt (M15 0 19) fun v18 =>
gd (0 ≤ v18 ∧ v18 < 30) <|
Lt (up M15 16 v18.toNat a1) fun M19 =>
Lt (M19 0 19) fun v20 =>
gd (0 ≤ v20 ∧ v20 < 30) <|
Lt (up M19 17 v20.toNat a2) fun M21 =>
Lt (M21 0 19) fun v22 =>
gd (0 ≤ v22 ∧ v22 < 30) <|
Lt (up M21 18 v22.toNat a3) fun M23 =>
Lt (M23 0 19) fun v24 =>
gd (0 ≤ v24 ∧ v24 < 30) <|
Lt (up M23 19 v24.toNat a4) fun M25 =>
Lt (M25 0 19) fun v26 =>
Cl (f_X12_lays v26 M25) fun _ M27 =>
Lt (up M27 0 14 0) fun M28 =>
Lt (up M28 0 15 0) fun M29 =>
Lt (M29 0 19) fun v30 =>
Lt (wr (v30 + 1)) fun v31 =>
Lt (up M29 0 19 v31) fun M32 =>
Cl (f_X12_dropsAll M32) fun _ M33 =>
Lt (M33 0 19) fun v34 =>
Lt (wr (v34 - 1)) fun v35 =>
some (v35, M33)) else (
some (0, M15))) fun J165_14 =>
if ¬ v3 = 0 then (
if ¬ v9 = 0 then (
Lt (M10 0 15) fun v38 =>
Lt (fun (v39 : Int) (M40 : Mm) => 
Lt (fun (M42 : Mm) => 
J165_14 3 M42) fun J160_43 =>
if ¬ v38 = v39 then (
J160_43 M40) else (
Lt (M40 0 19) fun v45 =>
if ¬ v45 = 30 then (
J165_14 0 M40) else (
J160_43 M40))) fun J148_41 =>
if ¬ v6 = 2 then (
J148_41 1 M10) else (
J148_41 2 M10)) else (
J165_14 2 M10)) else (
J165_14 1 M10)) fun J112_11 =>
if ¬ v6 = 1 then (
if ¬ v6 = 2 then (
if ¬ a3 = ((-1)) then (
J112_11 0 M7) else (
J112_11 1 M7)) else (
if ¬ a3 = ((-2)) then (
J112_11 0 M7) else (
J112_11 1 M7))) else (
if a3 < 0 then (
J112_11 0 M7) else (
J112_11 1 M7))) fun J62_8 =>
if v3 = 0 then (
J62_8 0 M4) else (
gd (0 ≤ a2 ∧ a2 < 6) <|
Lt (M4 12 a2.toNat) fun v54 =>
J62_8 v54 M4)) fun J45_5 =>
Lt (fun (M55 : Mm) => 
J45_5 0 M55) fun J44_56 =>
if v2 = 0 then (
J44_56 M1) else (
Cl (f_X12_isAttribute a2 M1) fun v59 M58 =>
if v59 = 0 then (
J44_56 M58) else (
Cl (f_X12_isIn a4 0 3 M58) fun v62 M61 =>
if v62 = 0 then (
J44_56 M61) else (
Lt (fun (M64 : Mm) => 
J45_5 1 M64) fun J40_65 =>
if a3 < 0 then (
J40_65 M61) else (
gd (0 ≤ a1 ∧ a1 < 10) <|
Lt (M61 4 a1.toNat) fun v67 =>
if v67 ≤ a3 then (
J44_56 M61) else (
J40_65 M61)))))
theorem cy_X12_equation : yX12_equation.cls ≠ "java/lang/invoke/MethodHandle" ∧ yX12_equation.cls ≠ "java/lang/invoke/VarHandle" ∧ (parseMethodDescriptor yX12_equation.desc).map (fun d => d.parameters.length) = some 4 := ⟨by decide +kernel, by decide +kernel, by decide +kernel⟩
set_option maxRecDepth 20000 in
theorem ok_X12_equation (l : Launch) (D : Dd) (base : Nat) (M : Mm) (a1 : Int) (ha1 : i32 a1) (a2 : Int) (ha2 : i32 a2) (a3 : Int) (ha3 : i32 a3) (a4 : Int) (ha4 : i32 a4) : OkI l D TR 67 base yX12_equation cX12_equation 8 (some .int) 3 68 [.ref (base + 0), .int (Ii a1), .int (Ii a2), .int (Ii a3), .int (Ii a4)] M i32 (f_X12_equation a1 a2 a3 a4 M) := by
  refine metI (by decide +kernel) [(0, .ref (base + 0)), (1, .int (Ii a1)), (2, .int (Ii a2)), (3, .int (Ii a3)), (4, .int (Ii a4))] rfl (Nat.le_of_ble_eq_true rfl) (fun p e s m args below meth c X hrt hlk => ?_)
  have X : Cx p s m args c cX12_equation D 8 RX12 := X
  unfold f_X12_equation
  refine go_aload_n X dX12_equation_0 rfl 0 rfl ?_
  refine go_iload_n X dX12_equation_1 rfl 1 rfl ?_
  refine goI (fun H locs ls r ho hW hL => runV X (ok_X12_isProduction l D base M a1 ha1 H.size r ho) dX12_equation_2 lw965 lw966 lw967 lw944 ⟨lw940, cy_X12_isProduction, Nat.le_of_ble_eq_true rfl, Nat.le_of_ble_eq_true rfl⟩ rfl trn0 tr0 rfl rfl rfl rfl (Nat.le_of_ble_eq_true rfl) hW hL hk0) (fun v2 M1 hv2 => ?_)
  refine go_lt (fun J => ∀ (v3 : Int) (M4 : Mm), bo v3 → Go p l e (rmO 3 68) s m args below meth c D TR 67 base 8 0 0 (FinI D TR 67 base below args s i32) M4 45 [(0, .ref (base + 0)), (1, .int (Ii a1)), (2, .int (Ii a2)), (3, .int (Ii a3)), (4, .int (Ii a4))] [.int (Ii v3)] (J v3 M4)) (by
      intro v3 M4 hv3
      refine go_istore (i := 5) (L' := [(5, .int (Ii v3)), (0, .ref (base + 0)), (1, .int (Ii a1)), (2, .int (Ii a2)), (3, .int (Ii a3)), (4, .int (Ii a4))]) X dX12_equation_45 (by decide) rfl ?_
      refine go_iload X dX12_equation_47 0 rfl ?_
      refine go_lt (fun J => ∀ (v6 : Int) (M7 : Mm), i32 v6 → Go p l e (rmO 3 68) s m args below meth c D TR 67 base 8 0 0 (FinI D TR 67 base below args s i32) M7 62 [(0, .ref (base + 0)), (1, .int (Ii a1)), (2, .int (Ii a2)), (3, .int (Ii a3)), (4, .int (Ii a4)), (5, .int (Ii v3))] [.int (Ii v6)] (J v6 M7)) (by
          intro v6 M7 hv6
          refine go_istore (i := 6) (L' := [(6, .int (Ii v6)), (0, .ref (base + 0)), (1, .int (Ii a1)), (2, .int (Ii a2)), (3, .int (Ii a3)), (4, .int (Ii a4)), (5, .int (Ii v3))]) X dX12_equation_62 (by decide) rfl ?_
          refine go_iload X dX12_equation_64 0 rfl ?_
          refine go_iconst (v := 1) X dX12_equation_66 rfl ?_
          refine go_lt (fun J => ∀ (v9 : Int) (M10 : Mm), bo v9 → Go p l e (rmO 3 68) s m args below meth c D TR 67 base 8 0 0 (FinI D TR 67 base below args s i32) M10 112 [(0, .ref (base + 0)), (1, .int (Ii a1)), (2, .int (Ii a2)), (3, .int (Ii a3)), (4, .int (Ii a4)), (5, .int (Ii v3)), (6, .int (Ii v6))] [.int (Ii v9)] (J v9 M10)) (by
              intro v9 M10 hv9
              refine go_istore (i := 7) (L' := [(7, .int (Ii v9)), (0, .ref (base + 0)), (1, .int (Ii a1)), (2, .int (Ii a2)), (3, .int (Ii a3)), (4, .int (Ii a4)), (5, .int (Ii v3)), (6, .int (Ii v6))]) X dX12_equation_112 (by decide) rfl ?_
              refine go_aload_n X dX12_equation_114 rfl 1 rfl ?_
              refine go_iload X dX12_equation_115 6 rfl ?_
              refine go_lt (fun J => ∀ (v12 : Int) (M13 : Mm), i32 v12 → Go p l e (rmO 3 68) s m args below meth c D TR 67 base 8 0 0 (FinI D TR 67 base below args s i32) M13 165 [(0, .ref (base + 0)), (1, .int (Ii a1)), (2, .int (Ii a2)), (3, .int (Ii a3)), (4, .int (Ii a4))] [.int (Ii v12), .ref (base + 0)] (J v12 M13)) (by
                  intro v12 M13 hv12
                  refine goI (fun H locs ls r ho hW hL => runV X (ok_X12_fails l D base M13 v12 hv12 H.size r ho) dX12_equation_165 lw954 lw955 lw956 lw944 ⟨lw937, cy_X12_fails, Nat.le_of_ble_eq_true rfl, Nat.le_of_ble_eq_true rfl⟩ rfl trn0 tr0 rfl rfl rfl rfl (Nat.le_of_ble_eq_true rfl) hW hL hk0) (fun v16 M15 hv16 => ?_)
                  refine go_if_eq (tgt := 173) X dX12_equation_168 rfl (bo_i32 hv16) (fun c17 => ?_) (fun c17 => ?_)
                  · refine go_aload_n X dX12_equation_173 rfl 0 rfl ?_
                    refine go_getc (i := 20) X fc12 dX12_equation_174 trn0 tr0 (Nat.le_of_ble_eq_true rfl) rfl lw881 rfl ?_
                    refine go_aload_n X dX12_equation_177 rfl 0 rfl ?_
                    refine go_geti (i := 19) X fc12 dX12_equation_178 trn0 tr0 (Nat.le_of_ble_eq_true rfl) rfl lw987 rfl (fun v18 hv18 => ?_)
                    refine go_iload_n X dX12_equation_181 rfl 1 rfl ?_
                    refine go_iastore X dX12_equation_182 trn16 tr16 hv18 ha1 (fun M19 => ?_)
                    refine go_aload_n X dX12_equation_183 rfl 0 rfl ?_
                    refine go_getc (i := 21) X fc12 dX12_equation_184 trn0 tr0 (Nat.le_of_ble_eq_true rfl) rfl lw882 rfl ?_
                    refine go_aload_n X dX12_equation_187 rfl 0 rfl ?_
                    refine go_geti (i := 19) X fc12 dX12_equation_188 trn0 tr0 (Nat.le_of_ble_eq_true rfl) rfl lw987 rfl (fun v20 hv20 => ?_)
                    refine go_iload_n X dX12_equation_191 rfl 2 rfl ?_
                    refine go_iastore X dX12_equation_192 trn17 tr17 hv20 ha2 (fun M21 => ?_)
                    refine go_aload_n X dX12_equation_193 rfl 0 rfl ?_
                    refine go_getc (i := 22) X fc12 dX12_equation_194 trn0 tr0 (Nat.le_of_ble_eq_true rfl) rfl lw883 rfl ?_
                    refine go_aload_n X dX12_equation_197 rfl 0 rfl ?_
                    refine go_geti (i := 19) X fc12 dX12_equation_198 trn0 tr0 (Nat.le_of_ble_eq_true rfl) rfl lw987 rfl (fun v22 hv22 => ?_)
                    refine go_iload_n X dX12_equation_201 rfl 3 rfl ?_
                    refine go_iastore X dX12_equation_202 trn18 tr18 hv22 ha3 (fun M23 => ?_)
                    refine go_aload_n X dX12_equation_203 rfl 0 rfl ?_
                    refine go_getc (i := 23) X fc12 dX12_equation_204 trn0 tr0 (Nat.le_of_ble_eq_true rfl) rfl lw884 rfl ?_
                    refine go_aload_n X dX12_equation_207 rfl 0 rfl ?_
                    refine go_geti (i := 19) X fc12 dX12_equation_208 trn0 tr0 (Nat.le_of_ble_eq_true rfl) rfl lw987 rfl (fun v24 hv24 => ?_)
                    refine go_iload X dX12_equation_211 4 rfl ?_
                    refine go_iastore X dX12_equation_213 trn19 tr19 hv24 ha4 (fun M25 => ?_)
                    refine go_aload_n X dX12_equation_214 rfl 0 rfl ?_
                    refine go_aload_n X dX12_equation_215 rfl 0 rfl ?_
                    refine go_geti (i := 19) X fc12 dX12_equation_216 trn0 tr0 (Nat.le_of_ble_eq_true rfl) rfl lw987 rfl (fun v26 hv26 => ?_)
                    refine goV (fun H locs ls r ho hW hL => runV X (ok_X12_lays l D base M25 v26 hv26 H.size r ho) dX12_equation_219 lw988 lw989 lw990 lw944 ⟨lw986, cy_X12_lays, Nat.le_of_ble_eq_true rfl, Nat.le_of_ble_eq_true rfl⟩ rfl trn0 tr0 rfl rfl rfl rfl (Nat.le_of_ble_eq_true rfl) hW hL hk0) (fun _ M27 => ?_)
                    refine go_aload_n X dX12_equation_222 rfl 0 rfl ?_
                    refine go_iconst (v := 0) X dX12_equation_223 rfl ?_
                    refine go_puti (i := 14) X fc12 dX12_equation_224 trn0 tr0 (Nat.le_of_ble_eq_true rfl) rfl lw979 rfl rfl rfl kI_0 (fun M28 => ?_)
                    refine go_aload_n X dX12_equation_227 rfl 0 rfl ?_
                    refine go_iconst (v := 0) X dX12_equation_228 rfl ?_
                    refine go_puti (i := 15) X fc12 dX12_equation_229 trn0 tr0 (Nat.le_of_ble_eq_true rfl) rfl lw978 rfl rfl rfl kI_0 (fun M29 => ?_)
                    refine go_aload_n X dX12_equation_232 rfl 0 rfl ?_
                    refine go_dup X dX12_equation_233 rfl ?_
                    refine go_geti (i := 19) X fc12 dX12_equation_234 trn0 tr0 (Nat.le_of_ble_eq_true rfl) rfl lw987 rfl (fun v30 hv30 => ?_)
                    refine go_iconst (v := 1) X dX12_equation_237 rfl ?_
                    refine go_iadd X dX12_equation_238 hv30 kI_1 (fun v31 hv31 => ?_)
                    refine go_puti (i := 19) X fc12 dX12_equation_239 trn0 tr0 (Nat.le_of_ble_eq_true rfl) rfl lw987 rfl rfl rfl hv31 (fun M32 => ?_)
                    refine go_aload_n X dX12_equation_242 rfl 0 rfl ?_
                    refine goV (fun H locs ls r ho hW hL => runV X (ok_X12_dropsAll l D base M32  H.size r ho) dX12_equation_243 lw960 lw961 lw962 lw944 ⟨lw949, cy_X12_dropsAll, Nat.le_of_ble_eq_true rfl, Nat.le_of_ble_eq_true rfl⟩ rfl trn0 tr0 rfl rfl rfl rfl (Nat.le_of_ble_eq_true rfl) hW hL hk0) (fun _ M33 => ?_)
                    refine go_aload_n X dX12_equation_246 rfl 0 rfl ?_
                    refine go_geti (i := 19) X fc12 dX12_equation_247 trn0 tr0 (Nat.le_of_ble_eq_true rfl) rfl lw987 rfl (fun v34 hv34 => ?_)
                    refine go_iconst (v := 1) X dX12_equation_250 rfl ?_
                    refine go_isub X dX12_equation_251 hv34 kI_1 (fun v35 hv35 => ?_)
                    exact go_ireturn X hrt hlk dX12_equation_252 hv35
                  · refine go_iconst (v := 0) X dX12_equation_171 rfl ?_
                    exact go_ireturn X hrt hlk dX12_equation_172 kI_0
                  )
                  (fun J165_14 hJ165_14 => ?_)
              refine go_if_ne (tgt := 124) X dX12_equation_117 rfl (bo_i32 hv3) (fun c36 => ?_) (fun c36 => ?_)
              · refine go_iload X dX12_equation_124 0 rfl ?_
                refine go_if_ne (tgt := 133) X dX12_equation_126 rfl (bo_i32 hv9) (fun c37 => ?_) (fun c37 => ?_)
                · refine go_aload_n X dX12_equation_133 rfl 1 rfl ?_
                  refine go_geti (i := 15) X fc12 dX12_equation_134 trn0 tr0 (Nat.le_of_ble_eq_true rfl) rfl lw978 rfl (fun v38 hv38 => ?_)
                  refine go_iload X dX12_equation_137 7 rfl ?_
                  refine go_iconst (v := 2) X dX12_equation_139 rfl ?_
                  refine go_lt (fun J => ∀ (v39 : Int) (M40 : Mm), i32 v39 → Go p l e (rmO 3 68) s m args below meth c D TR 67 base 8 0 0 (FinI D TR 67 base below args s i32) M40 148 [(0, .ref (base + 0)), (1, .int (Ii a1)), (2, .int (Ii a2)), (3, .int (Ii a3)), (4, .int (Ii a4))] [.int (Ii v39), .int (Ii v38), .ref (base + 0)] (J v39 M40)) (by
                      intro v39 M40 hv39
                      refine go_lt (fun J => ∀ (M42 : Mm), Go p l e (rmO 3 68) s m args below meth c D TR 67 base 8 0 0 (FinI D TR 67 base below args s i32) M42 160 [(0, .ref (base + 0)), (1, .int (Ii a1)), (2, .int (Ii a2)), (3, .int (Ii a3)), (4, .int (Ii a4))] [.ref (base + 0)] (J M42)) (by
                          intro M42
                          refine go_iconst (v := 3) X dX12_equation_160 rfl ?_
                          refine go_goto (tgt := 165) X dX12_equation_161 rfl ?_
                          exact hJ165_14 3 M42 kI_3
                          )
                          (fun J160_43 hJ160_43 => ?_)
                      refine go_icmp_ne (tgt := 160) X dX12_equation_148 rfl hv38 hv39 (fun c44 => ?_) (fun c44 => ?_)
                      · exact hJ160_43 M40
                      · refine go_aload_n X dX12_equation_151 rfl 0 rfl ?_
                        refine go_geti (i := 19) X fc12 dX12_equation_152 trn0 tr0 (Nat.le_of_ble_eq_true rfl) rfl lw987 rfl (fun v45 hv45 => ?_)
                        refine go_bipush (v := 30) X dX12_equation_155 (by decide) ?_
                        refine go_icmp_ne (tgt := 164) X dX12_equation_157 rfl hv45 kI_30 (fun c46 => ?_) (fun c46 => ?_)
                        · refine go_iconst (v := 0) X dX12_equation_164 rfl ?_
                          exact hJ165_14 0 M40 kI_0
                        · exact hJ160_43 M40
                      )
                      (fun J148_41 hJ148_41 => ?_)
                  refine go_icmp_ne (tgt := 147) X dX12_equation_140 rfl hv6 kI_2 (fun c47 => ?_) (fun c47 => ?_)
                  · refine go_iconst (v := 1) X dX12_equation_147 rfl ?_
                    refine go_sub [1, 2, 3, 4, 5] rfl ?_
                    exact hJ148_41 1 M10 kI_1
                  · refine go_iconst (v := 2) X dX12_equation_143 rfl ?_
                    refine go_goto (tgt := 148) X dX12_equation_144 rfl ?_
                    refine go_sub [1, 2, 3, 4, 5] rfl ?_
                    exact hJ148_41 2 M10 kI_2
                · refine go_iconst (v := 2) X dX12_equation_129 rfl ?_
                  refine go_goto (tgt := 165) X dX12_equation_130 rfl ?_
                  refine go_sub [1, 2, 3, 4, 5] rfl ?_
                  exact hJ165_14 2 M10 kI_2
              · refine go_iconst (v := 1) X dX12_equation_120 rfl ?_
                refine go_goto (tgt := 165) X dX12_equation_121 rfl ?_
                refine go_sub [1, 2, 3, 4, 5] rfl ?_
                exact hJ165_14 1 M10 kI_1
              )
              (fun J112_11 hJ112_11 => ?_)
          refine go_icmp_ne (tgt := 82) X dX12_equation_67 rfl hv6 kI_1 (fun c48 => ?_) (fun c48 => ?_)
          · refine go_iload X dX12_equation_82 0 rfl ?_
            refine go_iconst (v := 2) X dX12_equation_84 rfl ?_
            refine go_icmp_ne (tgt := 102) X dX12_equation_85 rfl hv6 kI_2 (fun c49 => ?_) (fun c49 => ?_)
            · refine go_iload_n X dX12_equation_102 rfl 4 rfl ?_
              refine go_iconst (v := (-1)) X dX12_equation_103 rfl ?_
              refine go_icmp_ne (tgt := 111) X dX12_equation_104 rfl ha3 kI_m1 (fun c50 => ?_) (fun c50 => ?_)
              · refine go_iconst (v := 0) X dX12_equation_111 rfl ?_
                refine go_sub [1, 2, 3, 4, 5, 6, 0] rfl ?_
                exact hJ112_11 0 M7 (Or.inl rfl)
              · refine go_iconst (v := 1) X dX12_equation_107 rfl ?_
                refine go_goto (tgt := 112) X dX12_equation_108 rfl ?_
                refine go_sub [1, 2, 3, 4, 5, 6, 0] rfl ?_
                exact hJ112_11 1 M7 (Or.inr rfl)
            · refine go_iload_n X dX12_equation_88 rfl 4 rfl ?_
              refine go_bipush (v := (-2)) X dX12_equation_89 (by decide) ?_
              refine go_icmp_ne (tgt := 98) X dX12_equation_91 rfl ha3 kI_m2 (fun c51 => ?_) (fun c51 => ?_)
              · refine go_iconst (v := 0) X dX12_equation_98 rfl ?_
                refine go_goto (tgt := 112) X dX12_equation_99 rfl ?_
                refine go_sub [1, 2, 3, 4, 5, 6, 0] rfl ?_
                exact hJ112_11 0 M7 (Or.inl rfl)
              · refine go_iconst (v := 1) X dX12_equation_94 rfl ?_
                refine go_goto (tgt := 112) X dX12_equation_95 rfl ?_
                refine go_sub [1, 2, 3, 4, 5, 6, 0] rfl ?_
                exact hJ112_11 1 M7 (Or.inr rfl)
          · refine go_iload_n X dX12_equation_70 rfl 4 rfl ?_
            refine go_if_lt (tgt := 78) X dX12_equation_71 rfl ha3 (fun c52 => ?_) (fun c52 => ?_)
            · refine go_iconst (v := 0) X dX12_equation_78 rfl ?_
              refine go_goto (tgt := 112) X dX12_equation_79 rfl ?_
              refine go_sub [1, 2, 3, 4, 5, 6, 0] rfl ?_
              exact hJ112_11 0 M7 (Or.inl rfl)
            · refine go_iconst (v := 1) X dX12_equation_74 rfl ?_
              refine go_goto (tgt := 112) X dX12_equation_75 rfl ?_
              refine go_sub [1, 2, 3, 4, 5, 6, 0] rfl ?_
              exact hJ112_11 1 M7 (Or.inr rfl)
          )
          (fun J62_8 hJ62_8 => ?_)
      refine go_if_eq (tgt := 61) X dX12_equation_49 rfl (bo_i32 hv3) (fun c53 => ?_) (fun c53 => ?_)
      · refine go_iconst (v := 0) X dX12_equation_61 rfl ?_
        refine go_sub [1, 2, 3, 4, 5, 0] rfl ?_
        exact hJ62_8 0 M4 kI_0
      · refine go_aload_n X dX12_equation_52 rfl 1 rfl ?_
        refine go_getc (i := 13) X fc12 dX12_equation_53 trn0 tr0 (Nat.le_of_ble_eq_true rfl) rfl lw877 rfl ?_
        refine go_iload_n X dX12_equation_56 rfl 3 rfl ?_
        refine go_iaload X dX12_equation_57 trn12 tr12 ha2 (fun v54 hv54 => ?_)
        refine go_goto (tgt := 62) X dX12_equation_58 rfl ?_
        refine go_sub [1, 2, 3, 4, 5, 0] rfl ?_
        exact hJ62_8 v54 M4 hv54
      )
      (fun J45_5 hJ45_5 => ?_)
  refine go_lt (fun J => ∀ (M55 : Mm), Go p l e (rmO 3 68) s m args below meth c D TR 67 base 8 0 0 (FinI D TR 67 base below args s i32) M55 44 [(0, .ref (base + 0)), (1, .int (Ii a1)), (2, .int (Ii a2)), (3, .int (Ii a3)), (4, .int (Ii a4))] [] (J M55)) (by
      intro M55
      refine go_iconst (v := 0) X dX12_equation_44 rfl ?_
      exact hJ45_5 0 M55 (Or.inl rfl)
      )
      (fun J44_56 hJ44_56 => ?_)
  refine go_if_eq (tgt := 44) X dX12_equation_5 rfl (bo_i32 hv2) (fun c57 => ?_) (fun c57 => ?_)
  · exact hJ44_56 M1
  · refine go_aload_n X dX12_equation_8 rfl 0 rfl ?_
    refine go_iload_n X dX12_equation_9 rfl 2 rfl ?_
    refine goI (fun H locs ls r ho hW hL => runV X (ok_X12_isAttribute l D base M1 a2 ha2 H.size r ho) dX12_equation_10 lw971 lw972 lw973 lw944 ⟨lw945, cy_X12_isAttribute, Nat.le_of_ble_eq_true rfl, Nat.le_of_ble_eq_true rfl⟩ rfl trn0 tr0 rfl rfl rfl rfl (Nat.le_of_ble_eq_true rfl) hW hL hk0) (fun v59 M58 hv59 => ?_)
    refine go_if_eq (tgt := 44) X dX12_equation_13 rfl (bo_i32 hv59) (fun c60 => ?_) (fun c60 => ?_)
    · exact hJ44_56 M58
    · refine go_iload X dX12_equation_16 4 rfl ?_
      refine go_iconst (v := 0) X dX12_equation_18 rfl ?_
      refine go_iconst (v := 3) X dX12_equation_19 rfl ?_
      refine goI (fun H locs ls r ho hW hL => runS X (ok_X12_isIn l D base M58 a4 ha4 0 kI_0 3 kI_3 H.size r ho) dX12_equation_20 lw942 lw943 lw944 ⟨lw939, cy_X12_isIn, Nat.le_of_ble_eq_true rfl, Nat.le_of_ble_eq_true rfl⟩ rfl rfl (Nat.le_of_ble_eq_true rfl) hW hL hk0) (fun v62 M61 hv62 => ?_)
      refine go_if_eq (tgt := 44) X dX12_equation_23 rfl (bo_i32 hv62) (fun c63 => ?_) (fun c63 => ?_)
      · exact hJ44_56 M61
      · refine go_iload_n X dX12_equation_26 rfl 3 rfl ?_
        refine go_lt (fun J => ∀ (M64 : Mm), Go p l e (rmO 3 68) s m args below meth c D TR 67 base 8 0 0 (FinI D TR 67 base below args s i32) M64 40 [(0, .ref (base + 0)), (1, .int (Ii a1)), (2, .int (Ii a2)), (3, .int (Ii a3)), (4, .int (Ii a4))] [] (J M64)) (by
            intro M64
            refine go_iconst (v := 1) X dX12_equation_40 rfl ?_
            refine go_goto (tgt := 45) X dX12_equation_41 rfl ?_
            exact hJ45_5 1 M64 (Or.inr rfl)
            )
            (fun J40_65 hJ40_65 => ?_)
        refine go_if_lt (tgt := 40) X dX12_equation_27 rfl ha3 (fun c66 => ?_) (fun c66 => ?_)
        · exact hJ40_65 M61
        · refine go_iload_n X dX12_equation_30 rfl 3 rfl ?_
          refine go_aload_n X dX12_equation_31 rfl 0 rfl ?_
          refine go_getc (i := 4) X fc12 dX12_equation_32 trn0 tr0 (Nat.le_of_ble_eq_true rfl) rfl lw869 rfl ?_
          refine go_iload_n X dX12_equation_35 rfl 1 rfl ?_
          refine go_iaload X dX12_equation_36 trn4 tr4 ha1 (fun v67 hv67 => ?_)
          refine go_icmp_ge (tgt := 44) X dX12_equation_37 rfl ha3 hv67 (fun c68 => ?_) (fun c68 => ?_)
          · exact hJ44_56 M61
          · exact hJ40_65 M61
