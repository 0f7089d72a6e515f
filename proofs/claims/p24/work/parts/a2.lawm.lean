theorem kI_102 : i32 (102) := by decide
theorem kI_11 : i32 (11) := by decide
theorem kI_110 : i32 (110) := by decide
theorem kI_121 : i32 (121) := by decide
theorem kI_1210 : i32 (1210) := by decide
theorem kI_14 : i32 (14) := by decide
theorem kI_17 : i32 (17) := by decide
theorem kI_18 : i32 (18) := by decide
theorem kI_19 : i32 (19) := by decide
theorem kI_20 : i32 (20) := by decide
theorem kI_2000 : i32 (2000) := by decide
theorem kI_2147483647 : i32 (2147483647) := by decide
theorem kI_5 : i32 (5) := by decide
theorem kI_509 : i32 (509) := by decide
theorem kI_647 : i32 (647) := by decide
theorem kI_m1000000 : i32 (-1000000) := by decide
theorem kI_m2000000 : i32 (-2000000) := by decide
theorem kI_m3000000 : i32 (-3000000) := by decide
def f_L_part (N : Nat) (xs : Nat → Int32) (a2 : Int) (a3 : Int) (M : Mm) : Rs :=
Lt (fun (v1 : Int) (M2 : Mm) => 
Lt (jand v1 2147483647) fun v4 =>
gd (¬ a3 = 0) <|
Lt (jrem v4 a3) fun v5 =>
some (v5, M2)) fun J25_3 =>
if ((N : Int)) ≤ a2 then (
Lt (wr (647 * a2)) fun v8 =>
Lt (wr (509 * a2)) fun v9 =>
Lt (wr (v9 * a2)) fun v10 =>
Lt (wr (v8 + v10)) fun v11 =>
J25_3 v11 M) else (
gd (0 ≤ a2 ∧ a2 < (N : Int)) <|
Lt ((xs a2.toNat).toInt) fun v12 =>
J25_3 v12 M)
theorem cy_L_part : yL_part.cls ≠ "java/lang/invoke/MethodHandle" ∧ yL_part.cls ≠ "java/lang/invoke/VarHandle" ∧ (parseMethodDescriptor yL_part.desc).map (fun d => d.parameters.length) = some 3 := ⟨by decide +kernel, by decide +kernel, by decide +kernel⟩
set_option maxRecDepth 20000 in
theorem ok_L_part (l : Launch) (hl : l.stackTraces = false) (D : Dd) (base b N : Nat) (xs : Nat → Int32) (hN : N ≤ 260) (M : Mm) (a2 : Int) (ha2 : i32 a2) (a3 : Int) (ha3 : i32 a3) : OkQ l D base b N xs yL_part (.code yL_part cL_part 4 (some .int)) 0 0 0 0 [.ref b, .int (Ii a2), .int (Ii a3)] M i32 (f_L_part N xs a2 a3 M) := by
  have hN32 : i32 (N : Int) := by unfold i32; omega
  refine metQ (by decide +kernel) [(0, .ref b), (1, .int (Ii a2)), (2, .int (Ii a3))] rfl (Nat.le_of_ble_eq_true rfl) (fun p e s m args below meth c X Y hrt hlk => ?_)
  have X : Cx p s m args c cL_part D 4 RL := X
  unfold f_L_part
  refine go_iload_n X dL_part_0 rfl 1 rfl ?_
  refine go_aload_n X dL_part_1 rfl 0 rfl ?_
  refine go_slen X Y dL_part_2 ?_
  refine go_lt (fun J => ∀ (v1 : Int) (M2 : Mm), i32 v1 → Go p l e (rmX 0 0 0 0) s m args below meth c D TL 686 base 4 0 0 (FinQ D base 0 0 below args s i32) M2 25 [(2, .int (Ii a3))] [.int (Ii v1)] (J v1 M2)) (by
      intro v1 M2 hv1
      refine go_istore_n (i := 3) (L' := [(3, .int (Ii v1)), (2, .int (Ii a3))]) X dL_part_25 rfl (by decide) rfl ?_
      refine go_iload_n X dL_part_26 rfl 0 rfl ?_
      refine go_ldc (v := 2147483647) X dL_part_27 lw866 rfl ?_
      refine go_iand X dL_part_29 hv1 kI_2147483647 (fun v4 hv4 => ?_)
      refine go_iload_n X dL_part_30 rfl 1 rfl ?_
      refine go_gd (fun g6 => ?_)
      refine go_irem X dL_part_31 hv4 ha3 g6 (fun v5 hv5 => ?_)
      exact go_qireturn X hrt hlk dL_part_32 hv5 (Nat.le_of_ble_eq_true rfl) (Nat.le_of_ble_eq_true rfl)
      )
      (fun J25_3 hJ25_3 => ?_)
  refine go_icmp_ge (tgt := 12) X dL_part_3 rfl ha2 hN32 (fun c7 => ?_) (fun c7 => ?_)
  · refine go_sipush (v := 647) X dL_part_12 (by decide) ?_
    refine go_iload_n X dL_part_15 rfl 1 rfl ?_
    refine go_imul X dL_part_16 kI_647 ha2 (fun v8 hv8 => ?_)
    refine go_sipush (v := 509) X dL_part_17 (by decide) ?_
    refine go_iload_n X dL_part_20 rfl 1 rfl ?_
    refine go_imul X dL_part_21 kI_509 ha2 (fun v9 hv9 => ?_)
    refine go_iload_n X dL_part_22 rfl 1 rfl ?_
    refine go_imul X dL_part_23 hv9 ha2 (fun v10 hv10 => ?_)
    refine go_iadd X dL_part_24 hv8 hv10 (fun v11 hv11 => ?_)
    refine go_sub [2] rfl ?_
    exact hJ25_3 v11 M hv11
  · refine go_aload_n X dL_part_6 rfl 0 rfl ?_
    refine go_iload_n X dL_part_7 rfl 1 rfl ?_
    refine go_sld X Y dL_part_8 ha2 (fun v12 hv12 => ?_)
    refine go_goto (tgt := 25) X dL_part_9 rfl ?_
    refine go_sub [2] rfl ?_
    exact hJ25_3 v12 M hv12
def f_L_symbol (a2 : Int) (a3 : Int) (M : Mm) : Rs :=
gd (0 ≤ a2 ∧ a2 < 10) <|
Lt (M 681 a2.toNat) fun v1 =>
Lt (fun (v2 : Int) (M3 : Mm) => 
gd (¬ v2 = 0) <|
Lt (wr (Int.tdiv v1 v2)) fun v5 =>
Lt (jrem v5 11) fun v7 =>
Lt (wr (v7 - 1)) fun v8 =>
some (v8, M3)) fun J25_4 =>
if ¬ a3 = 0 then (
if ¬ a3 = 1 then (
J25_4 1210 M) else (
J25_4 110 M)) else (
J25_4 10 M)
theorem cy_L_symbol : yL_symbol.cls ≠ "java/lang/invoke/MethodHandle" ∧ yL_symbol.cls ≠ "java/lang/invoke/VarHandle" ∧ (parseMethodDescriptor yL_symbol.desc).map (fun d => d.parameters.length) = some 3 := ⟨by decide +kernel, by decide +kernel, by decide +kernel⟩
set_option maxRecDepth 20000 in
theorem ok_L_symbol (l : Launch) (D : Dd) (base : Nat) (M : Mm) (a2 : Int) (ha2 : i32 a2) (a3 : Int) (ha3 : i32 a3) : OkI l D TL 686 base yL_symbol cL_symbol 3 (some .int) 0 0 [.ref (base + 681), .int (Ii a2), .int (Ii a3)] M i32 (f_L_symbol a2 a3 M) := by
  refine metI (by decide +kernel) [(0, .ref (base + 681)), (1, .int (Ii a2)), (2, .int (Ii a3))] rfl (Nat.le_of_ble_eq_true rfl) (fun p e s m args below meth c X hrt hlk => ?_)
  have X : Cx p s m args c cL_symbol D 3 RL := X
  unfold f_L_symbol
  refine go_aload_n X dL_symbol_0 rfl 0 rfl ?_
  refine go_iload_n X dL_symbol_1 rfl 1 rfl ?_
  refine go_iaload X dL_symbol_2 tln681 tl681 ha2 (fun v1 hv1 => ?_)
  refine go_iload_n X dL_symbol_3 rfl 2 rfl ?_
  refine go_lt (fun J => ∀ (v2 : Int) (M3 : Mm), i32 v2 → Go p l e (rmO 0 0) s m args below meth c D TL 686 base 3 0 0 (FinI D TL 686 base below args s i32) M3 25 [] [.int (Ii v2), .int (Ii v1)] (J v2 M3)) (by
      intro v2 M3 hv2
      refine go_gd (fun g6 => ?_)
      refine go_idiv X dL_symbol_25 hv1 hv2 g6 (fun v5 hv5 => ?_)
      refine go_bipush (v := 11) X dL_symbol_26 (by decide) ?_
      refine go_irem X dL_symbol_28 hv5 kI_11 (by decide) (fun v7 hv7 => ?_)
      refine go_iconst (v := 1) X dL_symbol_29 rfl ?_
      refine go_isub X dL_symbol_30 hv7 kI_1 (fun v8 hv8 => ?_)
      exact go_ireturn X hrt hlk dL_symbol_31 hv8
      )
      (fun J25_4 hJ25_4 => ?_)
  refine go_if_ne (tgt := 12) X dL_symbol_4 rfl ha3 (fun c9 => ?_) (fun c9 => ?_)
  · refine go_iload_n X dL_symbol_12 rfl 2 rfl ?_
    refine go_iconst (v := 1) X dL_symbol_13 rfl ?_
    refine go_icmp_ne (tgt := 22) X dL_symbol_14 rfl ha3 kI_1 (fun c10 => ?_) (fun c10 => ?_)
    · refine go_sipush (v := 1210) X dL_symbol_22 (by decide) ?_
      refine go_sub [] rfl ?_
      exact hJ25_4 1210 M kI_1210
    · refine go_bipush (v := 110) X dL_symbol_17 (by decide) ?_
      refine go_goto (tgt := 25) X dL_symbol_19 rfl ?_
      refine go_sub [] rfl ?_
      exact hJ25_4 110 M kI_110
  · refine go_bipush (v := 10) X dL_symbol_7 (by decide) ?_
    refine go_goto (tgt := 25) X dL_symbol_9 rfl ?_
    refine go_sub [] rfl ?_
    exact hJ25_4 10 M kI_10
def f_L_children_L4_26 (a2 : Int) (J42_3 : Int → Mm → Rs) (rc4_7 : Int × Int × Mm → Rs) : Int × Int × Mm → Rs := fun (v4, v5, M6) =>
if 3 ≤ v5 then (
J42_3 v4 M6) else (
Cl (f_L_symbol a2 v5 M6) fun v10 M9 =>
Lt (fun (v11 : Int) (v12 : Int) (v13 : Int) (M14 : Mm) => 
Lt (wr (v12 + v13)) fun v16 =>
Lt (wr (v11 + 1)) fun v17 =>
rc4_7 (v16, v17, M14)) fun J34_15 =>
Lt (fun (v18 : Int) (v19 : Int) (M20 : Mm) => 
J34_15 v18 v19 0 M20) fun J33_21 =>
if v10 < 0 then (
J33_21 v5 v4 M9) else (
Cl (f_L_symbol a2 v5 M9) fun v24 M23 =>
if 4 ≤ v24 then (
J33_21 v5 v4 M23) else (
J34_15 v5 v4 1 M23)))
def f_L_children (a2 : Int) (M : Mm) : Rs :=
Lt (fun (v1 : Int) (M2 : Mm) => 
some (v1, M2)) fun J42_3 =>
Lp (f_L_children_L4_26 a2 J42_3) FU (0, 0, M)
theorem cy_L_children : yL_children.cls ≠ "java/lang/invoke/MethodHandle" ∧ yL_children.cls ≠ "java/lang/invoke/VarHandle" ∧ (parseMethodDescriptor yL_children.desc).map (fun d => d.parameters.length) = some 2 := ⟨by decide +kernel, by decide +kernel, by decide +kernel⟩
set_option maxRecDepth 20000 in
theorem ok_L_children (l : Launch) (D : Dd) (base : Nat) (M : Mm) (a2 : Int) (ha2 : i32 a2) : OkI l D TL 686 base yL_children cL_children 4 (some .int) 1 22 [.ref (base + 681), .int (Ii a2)] M i32 (f_L_children a2 M) := by
  refine metI (by decide +kernel) [(0, .ref (base + 681)), (1, .int (Ii a2))] rfl (Nat.le_of_ble_eq_true rfl) (fun p e s m args below meth c X hrt hlk => ?_)
  have X : Cx p s m args c cL_children D 4 RL := X
  unfold f_L_children
  refine go_iconst (v := 0) X dL_children_0 rfl ?_
  refine go_istore_n (i := 2) (L' := [(2, .int (Ii 0)), (0, .ref (base + 681)), (1, .int (Ii a2))]) X dL_children_1 rfl (by decide) rfl ?_
  refine go_iconst (v := 0) X dL_children_2 rfl ?_
  refine go_istore_n (i := 3) (L' := [(3, .int (Ii 0)), (2, .int (Ii 0)), (0, .ref (base + 681)), (1, .int (Ii a2))]) X dL_children_3 rfl (by decide) rfl ?_
  refine go_lt (fun J => ∀ (v1 : Int) (M2 : Mm), i32 v1 → Go p l e (rmO 1 22) s m args below meth c D TL 686 base 4 0 0 (FinI D TL 686 base below args s i32) M2 42 [(2, .int (Ii v1))] [] (J v1 M2)) (by
      intro v1 M2 hv1
      refine go_iload_n X dL_children_42 rfl 0 rfl ?_
      exact go_ireturn X hrt hlk dL_children_43 hv1
      )
      (fun J42_3 hJ42_3 => ?_)
  refine go_sub [2, 3, 1, 0] rfl ?_
  exact go_lp (fun (rc : Int × Int × Mm → Rs) => ∀ (v4 : Int) (v5 : Int) (M6 : Mm), i32 v4 → i32 v5 → Go p l e (rmO 1 22) s m args below meth c D TL 686 base 4 0 0 (FinI D TL 686 base below args s i32) M6 4 [(0, .ref (base + 681)), (1, .int (Ii a2)), (2, .int (Ii v4)), (3, .int (Ii v5))] [] (rc (v4, v5, M6)))
      (by intro v4 v5 M6 hv4 hv5; exact go_none)
      (by
      intro rc4_7 hrc4_7 v4 v5 M6 hv4 hv5
      unfold f_L_children_L4_26
      dsimp only
      refine go_iload_n X dL_children_4 rfl 3 rfl ?_
      refine go_iconst (v := 3) X dL_children_5 rfl ?_
      refine go_icmp_ge (tgt := 42) X dL_children_6 rfl hv5 kI_3 (fun c8 => ?_) (fun c8 => ?_)
      · refine go_sub [2] rfl ?_
        exact hJ42_3 v4 M6 hv4
      · refine go_iload_n X dL_children_9 rfl 2 rfl ?_
        refine go_aload_n X dL_children_10 rfl 0 rfl ?_
        refine go_iload_n X dL_children_11 rfl 1 rfl ?_
        refine go_iload_n X dL_children_12 rfl 3 rfl ?_
        refine goI (fun H locs ls r ho hW hL => runS X (ok_L_symbol l D base M6 a2 ha2 v5 hv5 H.size r ho) dL_children_13 lw924 lw925 lw926 ⟨lw922, cy_L_symbol, Nat.le_of_ble_eq_true rfl, Nat.le_of_ble_eq_true rfl⟩ rfl rfl (Nat.le_of_ble_eq_true rfl) hW hL ⟨Nat.le_of_ble_eq_true rfl, Nat.le_of_ble_eq_true rfl⟩) (fun v10 M9 hv10 => ?_)
        refine go_lt (fun J => ∀ (v11 : Int) (v12 : Int) (v13 : Int) (M14 : Mm), i32 v11 → i32 v12 → bo v13 → Go p l e (rmO 1 22) s m args below meth c D TL 686 base 4 0 0 (FinI D TL 686 base below args s i32) M14 34 [(0, .ref (base + 681)), (1, .int (Ii a2)), (3, .int (Ii v11))] [.int (Ii v13), .int (Ii v12)] (J v11 v12 v13 M14)) (by
            intro v11 v12 v13 M14 hv11 hv12 hv13
            refine go_iadd X dL_children_34 hv12 (bo_i32 hv13) (fun v16 hv16 => ?_)
            refine go_istore_n (i := 2) (L' := [(2, .int (Ii v16)), (0, .ref (base + 681)), (1, .int (Ii a2)), (3, .int (Ii v11))]) X dL_children_35 rfl (by decide) rfl ?_
            refine go_iinc (i := 3) (L' := fun v => [(3, .int (Ii v)), (2, .int (Ii v16)), (0, .ref (base + 681)), (1, .int (Ii a2))]) X dL_children_36 hv11 kI_1 (j := 3) rfl (by decide) (fun _ => rfl) (fun v17 hv17 => ?_)
            refine go_goto (tgt := 4) X dL_children_39 rfl ?_
            refine go_sub [2, 3, 1, 0] rfl ?_
            exact hrc4_7 v16 v17 M14 hv16 hv17
            )
            (fun J34_15 hJ34_15 => ?_)
        refine go_lt (fun J => ∀ (v18 : Int) (v19 : Int) (M20 : Mm), i32 v18 → i32 v19 → Go p l e (rmO 1 22) s m args below meth c D TL 686 base 4 0 0 (FinI D TL 686 base below args s i32) M20 33 [(0, .ref (base + 681)), (1, .int (Ii a2)), (3, .int (Ii v18))] [.int (Ii v19)] (J v18 v19 M20)) (by
            intro v18 v19 M20 hv18 hv19
            refine go_iconst (v := 0) X dL_children_33 rfl ?_
            exact hJ34_15 v18 v19 0 M20 hv18 hv19 (Or.inl rfl)
            )
            (fun J33_21 hJ33_21 => ?_)
        refine go_if_lt (tgt := 33) X dL_children_16 rfl hv10 (fun c22 => ?_) (fun c22 => ?_)
        · refine go_sub [0, 1, 3] rfl ?_
          exact hJ33_21 v5 v4 M9 hv5 hv4
        · refine go_aload_n X dL_children_19 rfl 0 rfl ?_
          refine go_iload_n X dL_children_20 rfl 1 rfl ?_
          refine go_iload_n X dL_children_21 rfl 3 rfl ?_
          refine goI (fun H locs ls r ho hW hL => runS X (ok_L_symbol l D base M9 a2 ha2 v5 hv5 H.size r ho) dL_children_22 lw924 lw925 lw926 ⟨lw922, cy_L_symbol, Nat.le_of_ble_eq_true rfl, Nat.le_of_ble_eq_true rfl⟩ rfl rfl (Nat.le_of_ble_eq_true rfl) hW hL ⟨Nat.le_of_ble_eq_true rfl, Nat.le_of_ble_eq_true rfl⟩) (fun v24 M23 hv24 => ?_)
          refine go_iconst (v := 4) X dL_children_25 rfl ?_
          refine go_icmp_ge (tgt := 33) X dL_children_26 rfl hv24 kI_4 (fun c25 => ?_) (fun c25 => ?_)
          · refine go_sub [0, 1, 3] rfl ?_
            exact hJ33_21 v5 v4 M23 hv5 hv4
          · refine go_iconst (v := 1) X dL_children_29 rfl ?_
            refine go_goto (tgt := 34) X dL_children_30 rfl ?_
            refine go_sub [0, 1, 3] rfl ?_
            exact hJ34_15 v5 v4 1 M23 hv5 hv4 (Or.inr rfl)
      )
      FU 0 0 M kI_0 kI_0
def f_L_childOf_L5_22 (a2 : Int) (J47_2 : Mm → Rs) (J35_5 : Int → Mm → Rs) (rc5_9 : Int × Int × Mm → Rs) : Int × Int × Mm → Rs := fun (v6, v7, M8) =>
if 3 ≤ v7 then (
J47_2 M8) else (
Cl (f_L_symbol a2 v7 M8) fun v12 M11 =>
Lt (fun (v13 : Int) (v14 : Int) (M15 : Mm) => 
Lt (wr (v14 + 1)) fun v17 =>
rc5_9 (v13, v17, M15)) fun J41_16 =>
if v12 < 0 then (
J41_16 v6 v7 M11) else (
if 4 ≤ v12 then (
J41_16 v6 v7 M11) else (
if ¬ v6 = 0 then (
Lt (wr (v6 + (-1))) fun v21 =>
J41_16 v21 v7 M11) else (
J35_5 v12 M11))))
def f_L_childOf (a2 : Int) (a3 : Int) (M : Mm) : Rs :=
Lt (fun (M1 : Mm) => 
some ((-1), M1)) fun J47_2 =>
Lt (fun (v3 : Int) (M4 : Mm) => 
some (v3, M4)) fun J35_5 =>
Lp (f_L_childOf_L5_22 a2 J47_2 J35_5) FU (a3, 0, M)
theorem cy_L_childOf : yL_childOf.cls ≠ "java/lang/invoke/MethodHandle" ∧ yL_childOf.cls ≠ "java/lang/invoke/VarHandle" ∧ (parseMethodDescriptor yL_childOf.desc).map (fun d => d.parameters.length) = some 3 := ⟨by decide +kernel, by decide +kernel, by decide +kernel⟩
set_option maxRecDepth 20000 in
theorem ok_L_childOf (l : Launch) (D : Dd) (base : Nat) (M : Mm) (a2 : Int) (ha2 : i32 a2) (a3 : Int) (ha3 : i32 a3) : OkI l D TL 686 base yL_childOf cL_childOf 6 (some .int) 1 22 [.ref (base + 681), .int (Ii a2), .int (Ii a3)] M i32 (f_L_childOf a2 a3 M) := by
  refine metI (by decide +kernel) [(0, .ref (base + 681)), (1, .int (Ii a2)), (2, .int (Ii a3))] rfl (Nat.le_of_ble_eq_true rfl) (fun p e s m args below meth c X hrt hlk => ?_)
  have X : Cx p s m args c cL_childOf D 6 RL := X
  unfold f_L_childOf
  refine go_iload_n X dL_childOf_0 rfl 2 rfl ?_
  refine go_istore_n (i := 3) (L' := [(3, .int (Ii a3)), (0, .ref (base + 681)), (1, .int (Ii a2)), (2, .int (Ii a3))]) X dL_childOf_1 rfl (by decide) rfl ?_
  refine go_iconst (v := 0) X dL_childOf_2 rfl ?_
  refine go_istore (i := 4) (L' := [(4, .int (Ii 0)), (3, .int (Ii a3)), (0, .ref (base + 681)), (1, .int (Ii a2)), (2, .int (Ii a3))]) X dL_childOf_3 (by decide) rfl ?_
  refine go_lt (fun J => ∀ (M1 : Mm), Go p l e (rmO 1 22) s m args below meth c D TL 686 base 6 0 0 (FinI D TL 686 base below args s i32) M1 47 [] [] (J M1)) (by
      intro M1
      refine go_iconst (v := (-1)) X dL_childOf_47 rfl ?_
      exact go_ireturn X hrt hlk dL_childOf_48 kI_m1
      )
      (fun J47_2 hJ47_2 => ?_)
  refine go_lt (fun J => ∀ (v3 : Int) (M4 : Mm), i32 v3 → Go p l e (rmO 1 22) s m args below meth c D TL 686 base 6 0 0 (FinI D TL 686 base below args s i32) M4 35 [(5, .int (Ii v3))] [] (J v3 M4)) (by
      intro v3 M4 hv3
      refine go_iload X dL_childOf_35 0 rfl ?_
      exact go_ireturn X hrt hlk dL_childOf_37 hv3
      )
      (fun J35_5 hJ35_5 => ?_)
  refine go_sub [2, 3, 1, 0] rfl ?_
  exact go_lp (fun (rc : Int × Int × Mm → Rs) => ∀ (v6 : Int) (v7 : Int) (M8 : Mm), i32 v6 → i32 v7 → Go p l e (rmO 1 22) s m args below meth c D TL 686 base 6 0 0 (FinI D TL 686 base below args s i32) M8 5 [(0, .ref (base + 681)), (1, .int (Ii a2)), (3, .int (Ii v6)), (4, .int (Ii v7))] [] (rc (v6, v7, M8)))
      (by intro v6 v7 M8 hv6 hv7; exact go_none)
      (by
      intro rc5_9 hrc5_9 v6 v7 M8 hv6 hv7
      unfold f_L_childOf_L5_22
      dsimp only
      refine go_iload X dL_childOf_5 3 rfl ?_
      refine go_iconst (v := 3) X dL_childOf_7 rfl ?_
      refine go_icmp_ge (tgt := 47) X dL_childOf_8 rfl hv7 kI_3 (fun c10 => ?_) (fun c10 => ?_)
      · refine go_sub [] rfl ?_
        exact hJ47_2 M8
      · refine go_aload_n X dL_childOf_11 rfl 0 rfl ?_
        refine go_iload_n X dL_childOf_12 rfl 1 rfl ?_
        refine go_iload X dL_childOf_13 3 rfl ?_
        refine goI (fun H locs ls r ho hW hL => runS X (ok_L_symbol l D base M8 a2 ha2 v7 hv7 H.size r ho) dL_childOf_15 lw924 lw925 lw926 ⟨lw922, cy_L_symbol, Nat.le_of_ble_eq_true rfl, Nat.le_of_ble_eq_true rfl⟩ rfl rfl (Nat.le_of_ble_eq_true rfl) hW hL ⟨Nat.le_of_ble_eq_true rfl, Nat.le_of_ble_eq_true rfl⟩) (fun v12 M11 hv12 => ?_)
        refine go_istore (i := 5) (L' := [(5, .int (Ii v12)), (0, .ref (base + 681)), (1, .int (Ii a2)), (3, .int (Ii v6)), (4, .int (Ii v7))]) X dL_childOf_18 (by decide) rfl ?_
        refine go_iload X dL_childOf_20 0 rfl ?_
        refine go_lt (fun J => ∀ (v13 : Int) (v14 : Int) (M15 : Mm), i32 v13 → i32 v14 → Go p l e (rmO 1 22) s m args below meth c D TL 686 base 6 0 0 (FinI D TL 686 base below args s i32) M15 41 [(0, .ref (base + 681)), (1, .int (Ii a2)), (3, .int (Ii v13)), (4, .int (Ii v14))] [] (J v13 v14 M15)) (by
            intro v13 v14 M15 hv13 hv14
            refine go_iinc (i := 4) (L' := fun v => [(4, .int (Ii v)), (0, .ref (base + 681)), (1, .int (Ii a2)), (3, .int (Ii v13))]) X dL_childOf_41 hv14 kI_1 (j := 3) rfl (by decide) (fun _ => rfl) (fun v17 hv17 => ?_)
            refine go_goto (tgt := 5) X dL_childOf_44 rfl ?_
            refine go_sub [1, 2, 3, 0] rfl ?_
            exact hrc5_9 v13 v17 M15 hv13 hv17
            )
            (fun J41_16 hJ41_16 => ?_)
        refine go_if_lt (tgt := 41) X dL_childOf_22 rfl hv12 (fun c18 => ?_) (fun c18 => ?_)
        · refine go_sub [1, 2, 3, 4] rfl ?_
          exact hJ41_16 v6 v7 M11 hv6 hv7
        · refine go_iload X dL_childOf_25 0 rfl ?_
          refine go_iconst (v := 4) X dL_childOf_27 rfl ?_
          refine go_icmp_ge (tgt := 41) X dL_childOf_28 rfl hv12 kI_4 (fun c19 => ?_) (fun c19 => ?_)
          · refine go_sub [1, 2, 3, 4] rfl ?_
            exact hJ41_16 v6 v7 M11 hv6 hv7
          · refine go_iload_n X dL_childOf_31 rfl 3 rfl ?_
            refine go_if_ne (tgt := 38) X dL_childOf_32 rfl hv6 (fun c20 => ?_) (fun c20 => ?_)
            · refine go_iinc (i := 3) (L' := fun v => [(3, .int (Ii v)), (5, .int (Ii v12)), (0, .ref (base + 681)), (1, .int (Ii a2)), (4, .int (Ii v7))]) X dL_childOf_38 hv6 kI_m1 (j := 3) rfl (by decide) (fun _ => rfl) (fun v21 hv21 => ?_)
              refine go_sub [2, 3, 0, 4] rfl ?_
              exact hJ41_16 v21 v7 M11 hv21 hv7
            · refine go_sub [0] rfl ?_
              exact hJ35_5 v12 M11 hv12
      )
      FU a3 0 M ha3 kI_0
def f_L_conflicts_L17_85 (J125_14 : Int → Int → Int → Mm → Rs) (rc17_28 : Int × Int × Int × Int × Mm → Rs) : Int × Int × Int × Int × Mm → Rs := fun (v23, v24, v25, v26, M27) =>
gd (0 ≤ 2 ∧ 2 < 11) <|
Lt (M27 684 2) fun v29 =>
if v29 ≤ v26 then (
J125_14 v23 v24 v25 M27) else (
gd (0 ≤ 5 ∧ 5 < 11) <|
Lt (M27 684 5) fun v31 =>
gd (0 ≤ v24 ∧ v24 < 30) <|
Lt (M27 682 v24.toNat) fun v32 =>
Lt (wr (Int.tdiv v32 2000)) fun v33 =>
Lt (jshr v31 v33) fun v34 =>
Lt (jand v34 1) fun v35 =>
Lt (fun (v36 : Int) (v37 : Int) (v38 : Int) (v39 : Int) (v40 : Int) (M41 : Mm) => 
Lt (fun (v43 : Int) (v44 : Int) (v45 : Int) (v46 : Int) (M47 : Mm) => 
Lt (wr (v45 + 1)) fun v49 =>
rc17_28 (v43, v44, v46, v49, M47)) fun J117_48 =>
Lt (fun (v50 : Int) (v51 : Int) (v52 : Int) (M53 : Mm) => 
J117_48 v50 v51 v52 1 M53) fun J112_54 =>
if ¬ v38 = 0 then (
J112_54 v36 v37 v39 M41) else (
Lt (fun (v56 : Int) (v57 : Int) (v58 : Int) (M59 : Mm) => 
J117_48 v56 v57 v58 0 M59) fun J116_60 =>
if v37 = v39 then (
J116_60 v36 v37 v39 M41) else (
if v40 = 0 then (
J116_60 v36 v37 v39 M41) else (
gd (0 ≤ v37 ∧ v37 < 30) <|
Lt (M41 682 v37.toNat) fun v63 =>
Lt (wr (Int.tdiv v63 200)) fun v64 =>
Lt (jrem v64 10) fun v65 =>
if v65 ≤ 0 then (
J116_60 v36 v37 v39 M41) else (
gd (0 ≤ v37 ∧ v37 < 30) <|
Lt (M41 682 v37.toNat) fun v67 =>
Lt (jrem v67 2000) fun v68 =>
gd (0 ≤ v39 ∧ v39 < 30) <|
Lt (M41 682 v39.toNat) fun v69 =>
Lt (jrem v69 2000) fun v70 =>
if ¬ v68 = v70 then (
J116_60 v36 v37 v39 M41) else (
J112_54 v36 v37 v39 M41)))))) fun J63_42 =>
Lt (fun (v72 : Int) (v73 : Int) (v74 : Int) (v75 : Int) (M76 : Mm) => 
J63_42 v72 v73 v74 v75 0 M76) fun J62_77 =>
if ¬ v35 = 0 then (
J62_77 v23 v24 v25 v26 M27) else (
gd (0 ≤ 5 ∧ 5 < 11) <|
Lt (M27 684 5) fun v79 =>
gd (0 ≤ v26 ∧ v26 < 30) <|
Lt (M27 682 v26.toNat) fun v80 =>
Lt (wr (Int.tdiv v80 2000)) fun v81 =>
Lt (jshr v79 v81) fun v82 =>
Lt (jand v82 1) fun v83 =>
if ¬ v83 = 0 then (
J62_77 v23 v24 v25 v26 M27) else (
J63_42 v23 v24 v25 v26 1 M27)))
def f_L_conflicts_L4_86 (J144_3 : Int → Mm → Rs) (rc4_7 : Int × Int × Mm → Rs) : Int × Int × Mm → Rs := fun (v4, v5, M6) =>
gd (0 ≤ 2 ∧ 2 < 11) <|
Lt (M6 684 2) fun v8 =>
if v8 ≤ v5 then (
J144_3 v4 M6) else (
Lt (fun (v10 : Int) (v11 : Int) (v12 : Int) (M13 : Mm) => 
Lt (fun (v15 : Int) (v16 : Int) (v17 : Int) (M18 : Mm) => 
Lt (wr (v16 + v17)) fun v20 =>
Lt (wr (v15 + 1)) fun v21 =>
rc4_7 (v20, v21, M18)) fun J136_19 =>
if v12 = 0 then (
J136_19 v11 v10 0 M13) else (
J136_19 v11 v10 1 M13)) fun J125_14 =>
Lp (f_L_conflicts_L17_85 J125_14) FU (v4, v5, 0, 0, M6))
def f_L_conflicts (M : Mm) : Rs :=
Lt (fun (v1 : Int) (M2 : Mm) => 
some (v1, M2)) fun J144_3 =>
Lp (f_L_conflicts_L4_86 J144_3) FU (0, 0, M)
theorem cy_L_conflicts : yL_conflicts.cls ≠ "java/lang/invoke/MethodHandle" ∧ yL_conflicts.cls ≠ "java/lang/invoke/VarHandle" ∧ (parseMethodDescriptor yL_conflicts.desc).map (fun d => d.parameters.length) = some 2 := ⟨by decide +kernel, by decide +kernel, by decide +kernel⟩
set_option maxRecDepth 20000 in
theorem ok_L_conflicts (l : Launch) (D : Dd) (base : Nat) (M : Mm) : OkI l D TL 686 base yL_conflicts cL_conflicts 7 (some .int) 0 0 [.ref (base + 682), .ref (base + 684)] M i32 (f_L_conflicts M) := by
  refine metI (by decide +kernel) [(0, .ref (base + 682)), (1, .ref (base + 684))] rfl (Nat.le_of_ble_eq_true rfl) (fun p e s m args below meth c X hrt hlk => ?_)
  have X : Cx p s m args c cL_conflicts D 7 RL := X
  unfold f_L_conflicts
  refine go_iconst (v := 0) X dL_conflicts_0 rfl ?_
  refine go_istore_n (i := 2) (L' := [(2, .int (Ii 0)), (0, .ref (base + 682)), (1, .ref (base + 684))]) X dL_conflicts_1 rfl (by decide) rfl ?_
  refine go_iconst (v := 0) X dL_conflicts_2 rfl ?_
  refine go_istore_n (i := 3) (L' := [(3, .int (Ii 0)), (2, .int (Ii 0)), (0, .ref (base + 682)), (1, .ref (base + 684))]) X dL_conflicts_3 rfl (by decide) rfl ?_
  refine go_lt (fun J => ∀ (v1 : Int) (M2 : Mm), i32 v1 → Go p l e (rmO 0 0) s m args below meth c D TL 686 base 7 0 0 (FinI D TL 686 base below args s i32) M2 144 [(2, .int (Ii v1))] [] (J v1 M2)) (by
      intro v1 M2 hv1
      refine go_iload_n X dL_conflicts_144 rfl 0 rfl ?_
      exact go_ireturn X hrt hlk dL_conflicts_145 hv1
      )
      (fun J144_3 hJ144_3 => ?_)
  refine go_sub [2, 3, 1, 0] rfl ?_
  exact go_lp (fun (rc : Int × Int × Mm → Rs) => ∀ (v4 : Int) (v5 : Int) (M6 : Mm), i32 v4 → i32 v5 → Go p l e (rmO 0 0) s m args below meth c D TL 686 base 7 0 0 (FinI D TL 686 base below args s i32) M6 4 [(0, .ref (base + 682)), (1, .ref (base + 684)), (2, .int (Ii v4)), (3, .int (Ii v5))] [] (rc (v4, v5, M6)))
      (by intro v4 v5 M6 hv4 hv5; exact go_none)
      (by
      intro rc4_7 hrc4_7 v4 v5 M6 hv4 hv5
      unfold f_L_conflicts_L4_86
      dsimp only
      refine go_iload_n X dL_conflicts_4 rfl 3 rfl ?_
      refine go_aload_n X dL_conflicts_5 rfl 1 rfl ?_
      refine go_iconst (v := 2) X dL_conflicts_6 rfl ?_
      refine go_iaload X dL_conflicts_7 tln684 tl684 kI_2 (fun v8 hv8 => ?_)
      refine go_icmp_ge (tgt := 144) X dL_conflicts_8 rfl hv5 hv8 (fun c9 => ?_) (fun c9 => ?_)
      · refine go_sub [2] rfl ?_
        exact hJ144_3 v4 M6 hv4
      · refine go_iconst (v := 0) X dL_conflicts_11 rfl ?_
        refine go_istore (i := 4) (L' := [(4, .int (Ii 0)), (0, .ref (base + 682)), (1, .ref (base + 684)), (2, .int (Ii v4)), (3, .int (Ii v5))]) X dL_conflicts_12 (by decide) rfl ?_
        refine go_iconst (v := 0) X dL_conflicts_14 rfl ?_
        refine go_istore (i := 5) (L' := [(5, .int (Ii 0)), (4, .int (Ii 0)), (0, .ref (base + 682)), (1, .ref (base + 684)), (2, .int (Ii v4)), (3, .int (Ii v5))]) X dL_conflicts_15 (by decide) rfl ?_
        refine go_lt (fun J => ∀ (v10 : Int) (v11 : Int) (v12 : Int) (M13 : Mm), i32 v10 → i32 v11 → bo v12 → Go p l e (rmO 0 0) s m args below meth c D TL 686 base 7 0 0 (FinI D TL 686 base below args s i32) M13 125 [(0, .ref (base + 682)), (1, .ref (base + 684)), (2, .int (Ii v10)), (3, .int (Ii v11)), (4, .int (Ii v12))] [] (J v10 v11 v12 M13)) (by
            intro v10 v11 v12 M13 hv10 hv11 hv12
            refine go_iload_n X dL_conflicts_125 rfl 2 rfl ?_
            refine go_iload X dL_conflicts_126 4 rfl ?_
            refine go_lt (fun J => ∀ (v15 : Int) (v16 : Int) (v17 : Int) (M18 : Mm), i32 v15 → i32 v16 → bo v17 → Go p l e (rmO 0 0) s m args below meth c D TL 686 base 7 0 0 (FinI D TL 686 base below args s i32) M18 136 [(0, .ref (base + 682)), (1, .ref (base + 684)), (3, .int (Ii v15))] [.int (Ii v17), .int (Ii v16)] (J v15 v16 v17 M18)) (by
                intro v15 v16 v17 M18 hv15 hv16 hv17
                refine go_iadd X dL_conflicts_136 hv16 (bo_i32 hv17) (fun v20 hv20 => ?_)
                refine go_istore_n (i := 2) (L' := [(2, .int (Ii v20)), (0, .ref (base + 682)), (1, .ref (base + 684)), (3, .int (Ii v15))]) X dL_conflicts_137 rfl (by decide) rfl ?_
                refine go_iinc (i := 3) (L' := fun v => [(3, .int (Ii v)), (2, .int (Ii v20)), (0, .ref (base + 682)), (1, .ref (base + 684))]) X dL_conflicts_138 hv15 kI_1 (j := 3) rfl (by decide) (fun _ => rfl) (fun v21 hv21 => ?_)
                refine go_goto (tgt := 4) X dL_conflicts_141 rfl ?_
                refine go_sub [2, 3, 1, 0] rfl ?_
                exact hrc4_7 v20 v21 M18 hv20 hv21
                )
                (fun J136_19 hJ136_19 => ?_)
            refine go_if_eq (tgt := 135) X dL_conflicts_128 rfl (bo_i32 hv12) (fun c22 => ?_) (fun c22 => ?_)
            · refine go_iconst (v := 0) X dL_conflicts_135 rfl ?_
              refine go_sub [0, 1, 3] rfl ?_
              exact hJ136_19 v11 v10 0 M13 hv11 hv10 (Or.inl rfl)
            · refine go_iconst (v := 1) X dL_conflicts_131 rfl ?_
              refine go_goto (tgt := 136) X dL_conflicts_132 rfl ?_
              refine go_sub [0, 1, 3] rfl ?_
              exact hJ136_19 v11 v10 1 M13 hv11 hv10 (Or.inr rfl)
            )
            (fun J125_14 hJ125_14 => ?_)
        refine go_sub [2, 3, 4, 5, 1, 0] rfl ?_
        exact go_lp (fun (rc : Int × Int × Int × Int × Mm → Rs) => ∀ (v23 : Int) (v24 : Int) (v25 : Int) (v26 : Int) (M27 : Mm), i32 v23 → i32 v24 → bo v25 → i32 v26 → Go p l e (rmO 0 0) s m args below meth c D TL 686 base 7 0 0 (FinI D TL 686 base below args s i32) M27 17 [(0, .ref (base + 682)), (1, .ref (base + 684)), (2, .int (Ii v23)), (3, .int (Ii v24)), (4, .int (Ii v25)), (5, .int (Ii v26))] [] (rc (v23, v24, v25, v26, M27)))
            (by intro v23 v24 v25 v26 M27 hv23 hv24 hv25 hv26; exact go_none)
            (by
            intro rc17_28 hrc17_28 v23 v24 v25 v26 M27 hv23 hv24 hv25 hv26
            unfold f_L_conflicts_L17_85
            dsimp only
            refine go_iload X dL_conflicts_17 5 rfl ?_
            refine go_aload_n X dL_conflicts_19 rfl 1 rfl ?_
            refine go_iconst (v := 2) X dL_conflicts_20 rfl ?_
            refine go_iaload X dL_conflicts_21 tln684 tl684 kI_2 (fun v29 hv29 => ?_)
            refine go_icmp_ge (tgt := 125) X dL_conflicts_22 rfl hv26 hv29 (fun c30 => ?_) (fun c30 => ?_)
            · refine go_sub [0, 1, 2, 3, 4] rfl ?_
              exact hJ125_14 v23 v24 v25 M27 hv23 hv24 hv25
            · refine go_aload_n X dL_conflicts_25 rfl 1 rfl ?_
              refine go_iconst (v := 5) X dL_conflicts_26 rfl ?_
              refine go_iaload X dL_conflicts_27 tln684 tl684 kI_5 (fun v31 hv31 => ?_)
              refine go_aload_n X dL_conflicts_28 rfl 0 rfl ?_
              refine go_iload_n X dL_conflicts_29 rfl 3 rfl ?_
              refine go_iaload X dL_conflicts_30 tln682 tl682 hv24 (fun v32 hv32 => ?_)
              refine go_sipush (v := 2000) X dL_conflicts_31 (by decide) ?_
              refine go_idiv X dL_conflicts_34 hv32 kI_2000 (by decide) (fun v33 hv33 => ?_)
              refine go_ishr X dL_conflicts_35 hv31 hv33 (fun v34 hv34 => ?_)
              refine go_iconst (v := 1) X dL_conflicts_36 rfl ?_
              refine go_iand X dL_conflicts_37 hv34 kI_1 (fun v35 hv35 => ?_)
              refine go_lt (fun J => ∀ (v36 : Int) (v37 : Int) (v38 : Int) (v39 : Int) (v40 : Int) (M41 : Mm), i32 v36 → i32 v37 → bo v38 → i32 v39 → bo v40 → Go p l e (rmO 0 0) s m args below meth c D TL 686 base 7 0 0 (FinI D TL 686 base below args s i32) M41 63 [(0, .ref (base + 682)), (1, .ref (base + 684)), (2, .int (Ii v36)), (3, .int (Ii v37)), (4, .int (Ii v38)), (5, .int (Ii v39))] [.int (Ii v40)] (J v36 v37 v38 v39 v40 M41)) (by
                  intro v36 v37 v38 v39 v40 M41 hv36 hv37 hv38 hv39 hv40
                  refine go_istore (i := 6) (L' := [(6, .int (Ii v40)), (0, .ref (base + 682)), (1, .ref (base + 684)), (2, .int (Ii v36)), (3, .int (Ii v37)), (4, .int (Ii v38)), (5, .int (Ii v39))]) X dL_conflicts_63 (by decide) rfl ?_
                  refine go_iload X dL_conflicts_65 5 rfl ?_
                  refine go_lt (fun J => ∀ (v43 : Int) (v44 : Int) (v45 : Int) (v46 : Int) (M47 : Mm), i32 v43 → i32 v44 → i32 v45 → bo v46 → Go p l e (rmO 0 0) s m args below meth c D TL 686 base 7 0 0 (FinI D TL 686 base below args s i32) M47 117 [(0, .ref (base + 682)), (1, .ref (base + 684)), (2, .int (Ii v43)), (3, .int (Ii v44)), (5, .int (Ii v45))] [.int (Ii v46)] (J v43 v44 v45 v46 M47)) (by
                      intro v43 v44 v45 v46 M47 hv43 hv44 hv45 hv46
                      refine go_istore (i := 4) (L' := [(4, .int (Ii v46)), (0, .ref (base + 682)), (1, .ref (base + 684)), (2, .int (Ii v43)), (3, .int (Ii v44)), (5, .int (Ii v45))]) X dL_conflicts_117 (by decide) rfl ?_
                      refine go_iinc (i := 5) (L' := fun v => [(5, .int (Ii v)), (4, .int (Ii v46)), (0, .ref (base + 682)), (1, .ref (base + 684)), (2, .int (Ii v43)), (3, .int (Ii v44))]) X dL_conflicts_119 hv45 kI_1 (j := 5) rfl (by decide) (fun _ => rfl) (fun v49 hv49 => ?_)
                      refine go_goto (tgt := 17) X dL_conflicts_122 rfl ?_
                      refine go_sub [2, 3, 4, 5, 1, 0] rfl ?_
                      exact hrc17_28 v43 v44 v46 v49 M47 hv43 hv44 hv46 hv49
                      )
                      (fun J117_48 hJ117_48 => ?_)
                  refine go_lt (fun J => ∀ (v50 : Int) (v51 : Int) (v52 : Int) (M53 : Mm), i32 v50 → i32 v51 → i32 v52 → Go p l e (rmO 0 0) s m args below meth c D TL 686 base 7 0 0 (FinI D TL 686 base below args s i32) M53 112 [(0, .ref (base + 682)), (1, .ref (base + 684)), (2, .int (Ii v50)), (3, .int (Ii v51)), (5, .int (Ii v52))] [] (J v50 v51 v52 M53)) (by
                      intro v50 v51 v52 M53 hv50 hv51 hv52
                      refine go_iconst (v := 1) X dL_conflicts_112 rfl ?_
                      refine go_goto (tgt := 117) X dL_conflicts_113 rfl ?_
                      exact hJ117_48 v50 v51 v52 1 M53 hv50 hv51 hv52 (Or.inr rfl)
                      )
                      (fun J112_54 hJ112_54 => ?_)
                  refine go_if_ne (tgt := 112) X dL_conflicts_67 rfl (bo_i32 hv38) (fun c55 => ?_) (fun c55 => ?_)
                  · refine go_sub [1, 2, 3, 4, 6] rfl ?_
                    exact hJ112_54 v36 v37 v39 M41 hv36 hv37 hv39
                  · refine go_iload_n X dL_conflicts_70 rfl 4 rfl ?_
                    refine go_iload X dL_conflicts_71 6 rfl ?_
                    refine go_lt (fun J => ∀ (v56 : Int) (v57 : Int) (v58 : Int) (M59 : Mm), i32 v56 → i32 v57 → i32 v58 → Go p l e (rmO 0 0) s m args below meth c D TL 686 base 7 0 0 (FinI D TL 686 base below args s i32) M59 116 [(0, .ref (base + 682)), (1, .ref (base + 684)), (2, .int (Ii v56)), (3, .int (Ii v57)), (5, .int (Ii v58))] [] (J v56 v57 v58 M59)) (by
                        intro v56 v57 v58 M59 hv56 hv57 hv58
                        refine go_iconst (v := 0) X dL_conflicts_116 rfl ?_
                        exact hJ117_48 v56 v57 v58 0 M59 hv56 hv57 hv58 (Or.inl rfl)
                        )
                        (fun J116_60 hJ116_60 => ?_)
                    refine go_icmp_eq (tgt := 116) X dL_conflicts_73 rfl hv37 hv39 (fun c61 => ?_) (fun c61 => ?_)
                    · refine go_sub [1, 2, 3, 4, 6] rfl ?_
                      exact hJ116_60 v36 v37 v39 M41 hv36 hv37 hv39
                    · refine go_iload X dL_conflicts_76 0 rfl ?_
                      refine go_if_eq (tgt := 116) X dL_conflicts_78 rfl (bo_i32 hv40) (fun c62 => ?_) (fun c62 => ?_)
                      · refine go_sub [1, 2, 3, 4, 6] rfl ?_
                        exact hJ116_60 v36 v37 v39 M41 hv36 hv37 hv39
                      · refine go_aload_n X dL_conflicts_81 rfl 1 rfl ?_
                        refine go_iload_n X dL_conflicts_82 rfl 4 rfl ?_
                        refine go_iaload X dL_conflicts_83 tln682 tl682 hv37 (fun v63 hv63 => ?_)
                        refine go_sipush (v := 200) X dL_conflicts_84 (by decide) ?_
                        refine go_idiv X dL_conflicts_87 hv63 kI_200 (by decide) (fun v64 hv64 => ?_)
                        refine go_bipush (v := 10) X dL_conflicts_88 (by decide) ?_
                        refine go_irem X dL_conflicts_90 hv64 kI_10 (by decide) (fun v65 hv65 => ?_)
                        refine go_if_le (tgt := 116) X dL_conflicts_91 rfl hv65 (fun c66 => ?_) (fun c66 => ?_)
                        · refine go_sub [1, 2, 3, 4, 6] rfl ?_
                          exact hJ116_60 v36 v37 v39 M41 hv36 hv37 hv39
                        · refine go_aload_n X dL_conflicts_94 rfl 1 rfl ?_
                          refine go_iload_n X dL_conflicts_95 rfl 4 rfl ?_
                          refine go_iaload X dL_conflicts_96 tln682 tl682 hv37 (fun v67 hv67 => ?_)
                          refine go_sipush (v := 2000) X dL_conflicts_97 (by decide) ?_
                          refine go_irem X dL_conflicts_100 hv67 kI_2000 (by decide) (fun v68 hv68 => ?_)
                          refine go_aload_n X dL_conflicts_101 rfl 1 rfl ?_
                          refine go_iload X dL_conflicts_102 6 rfl ?_
                          refine go_iaload X dL_conflicts_104 tln682 tl682 hv39 (fun v69 hv69 => ?_)
                          refine go_sipush (v := 2000) X dL_conflicts_105 (by decide) ?_
                          refine go_irem X dL_conflicts_108 hv69 kI_2000 (by decide) (fun v70 hv70 => ?_)
                          refine go_icmp_ne (tgt := 116) X dL_conflicts_109 rfl hv68 hv70 (fun c71 => ?_) (fun c71 => ?_)
                          · refine go_sub [1, 2, 3, 4, 6] rfl ?_
                            exact hJ116_60 v36 v37 v39 M41 hv36 hv37 hv39
                          · refine go_sub [1, 2, 3, 4, 6] rfl ?_
                            exact hJ112_54 v36 v37 v39 M41 hv36 hv37 hv39
                  )
                  (fun J63_42 hJ63_42 => ?_)
              refine go_lt (fun J => ∀ (v72 : Int) (v73 : Int) (v74 : Int) (v75 : Int) (M76 : Mm), i32 v72 → i32 v73 → bo v74 → i32 v75 → Go p l e (rmO 0 0) s m args below meth c D TL 686 base 7 0 0 (FinI D TL 686 base below args s i32) M76 62 [(0, .ref (base + 682)), (1, .ref (base + 684)), (2, .int (Ii v72)), (3, .int (Ii v73)), (4, .int (Ii v74)), (5, .int (Ii v75))] [] (J v72 v73 v74 v75 M76)) (by
                  intro v72 v73 v74 v75 M76 hv72 hv73 hv74 hv75
                  refine go_iconst (v := 0) X dL_conflicts_62 rfl ?_
                  exact hJ63_42 v72 v73 v74 v75 0 M76 hv72 hv73 hv74 hv75 (Or.inl rfl)
                  )
                  (fun J62_77 hJ62_77 => ?_)
              refine go_if_ne (tgt := 62) X dL_conflicts_38 rfl hv35 (fun c78 => ?_) (fun c78 => ?_)
              · exact hJ62_77 v23 v24 v25 v26 M27 hv23 hv24 hv25 hv26
              · refine go_aload_n X dL_conflicts_41 rfl 1 rfl ?_
                refine go_iconst (v := 5) X dL_conflicts_42 rfl ?_
                refine go_iaload X dL_conflicts_43 tln684 tl684 kI_5 (fun v79 hv79 => ?_)
                refine go_aload_n X dL_conflicts_44 rfl 0 rfl ?_
                refine go_iload X dL_conflicts_45 5 rfl ?_
                refine go_iaload X dL_conflicts_47 tln682 tl682 hv26 (fun v80 hv80 => ?_)
                refine go_sipush (v := 2000) X dL_conflicts_48 (by decide) ?_
                refine go_idiv X dL_conflicts_51 hv80 kI_2000 (by decide) (fun v81 hv81 => ?_)
                refine go_ishr X dL_conflicts_52 hv79 hv81 (fun v82 hv82 => ?_)
                refine go_iconst (v := 1) X dL_conflicts_53 rfl ?_
                refine go_iand X dL_conflicts_54 hv82 kI_1 (fun v83 hv83 => ?_)
                refine go_if_ne (tgt := 62) X dL_conflicts_55 rfl hv83 (fun c84 => ?_) (fun c84 => ?_)
                · exact hJ62_77 v23 v24 v25 v26 M27 hv23 hv24 hv25 hv26
                · refine go_iconst (v := 1) X dL_conflicts_58 rfl ?_
                  refine go_goto (tgt := 63) X dL_conflicts_59 rfl ?_
                  exact hJ63_42 v23 v24 v25 v26 1 M27 hv23 hv24 hv25 hv26 (Or.inr rfl)
            )
            FU v4 v5 0 0 M6 hv4 hv5 (Or.inl rfl) kI_0
      )
      FU 0 0 M kI_0 kI_0
def f_L_does (a2 : Int) (a3 : Int) (a4 : Int) (a5 : Int) (a6 : Int) (a7 : Int) (M : Mm) : Rs :=
Lt (fun (v1 : Int) (M2 : Mm) => 
some (v1, M2)) fun J253_3 =>
if ¬ a2 = 0 then (
if ¬ a2 = 1 then (
if ¬ a2 = 2 then (
if ¬ a2 = 3 then (
if ¬ a2 = 4 then (
if ¬ a2 = 5 then (
if ¬ a2 = 6 then (
if ¬ a2 = 7 then (
if ¬ a2 = 8 then (
if ¬ a2 = 9 then (
if ¬ a2 = 10 then (
if ¬ a2 = 11 then (
if ¬ a2 = 12 then (
if ¬ a2 = 13 then (
if ¬ a2 = 14 then (
Clt (f_X11_valueAnew a3 a4 M) M fun v20 M19 =>
J253_3 v20 M19) else (
Clt (f_X11_isKept a3 a4 M) M fun v22 M21 =>
if v22 = 0 then (
J253_3 0 M21) else (
J253_3 1 M21))) else (
Clt (f_X11_why a3 a4 a5 M) M fun v25 M24 =>
J253_3 v25 M24)) else (
Clt (f_X11_node a3 M) M fun v27 M26 =>
J253_3 v27 M26)) else (
Clt (f_X11_value a3 a4 M) M fun v29 M28 =>
J253_3 v29 M28)) else (
Clt (f_X11_rewrite a3 M) M fun v31 M30 =>
J253_3 v31 M30)) else (
Clt (f_X11_read M) M fun v33 M32 =>
J253_3 v33 M32)) else (
Clt (f_X11_delete a3 M) M fun v35 M34 =>
J253_3 v35 M34)) else (
Clt (f_X11_insert a3 a4 M) M fun v37 M36 =>
J253_3 v37 M36)) else (
Clt (f_X11_toggle a3 M) M fun v39 M38 =>
if v39 = 0 then (
J253_3 0 M38) else (
J253_3 1 M38))) else (
Clt (f_X11_equation a3 a4 a5 a6 M) M fun v42 M41 =>
J253_3 v42 M41)) else (
Clt (f_X11_step a3 a4 a5 M) M fun v44 M43 =>
J253_3 v44 M43)) else (
Clt (f_X11_attribute a3 M) M fun v46 M45 =>
J253_3 v46 M45)) else (
Clt (f_X11_rule a3 a4 a5 M) M fun v48 M47 =>
J253_3 v48 M47)) else (
Clt (f_X11_forward a3 a4 a5 a6 a7 M) M fun v50 M49 =>
J253_3 v50 M49)) else (
Clt (f_X11_production a3 a4 a5 a6 M) M fun v52 M51 =>
J253_3 v52 M51)
theorem cy_L_does : yL_does.cls ≠ "java/lang/invoke/MethodHandle" ∧ yL_does.cls ≠ "java/lang/invoke/VarHandle" ∧ (parseMethodDescriptor yL_does.desc).map (fun d => d.parameters.length) = some 7 := ⟨by decide +kernel, by decide +kernel, by decide +kernel⟩
set_option maxRecDepth 20000 in
theorem ok_L_does (l : Launch) (hl : l.stackTraces = false) (D : Dd) (base b N : Nat) (xs : Nat → Int32) (hN : N ≤ 260) (M : Mm) (a2 : Int) (ha2 : i32 a2) (a3 : Int) (ha3 : i32 a3) (a4 : Int) (ha4 : i32 a4) (a5 : Int) (ha5 : i32 a5) (a6 : Int) (ha6 : i32 a6) (a7 : Int) (ha7 : i32 a7) : OkQ l D base b N xs yL_does (.codeWith yL_does cL_does 8 (some .int) hhD) 8 194 3 18 [.ref (base + 0), .int (Ii a2), .int (Ii a3), .int (Ii a4), .int (Ii a5), .int (Ii a6), .int (Ii a7)] M i32 (f_L_does a2 a3 a4 a5 a6 a7 M) := by
  refine metQH (by decide +kernel) [(0, .ref (base + 0)), (1, .int (Ii a2)), (2, .int (Ii a3)), (3, .int (Ii a4)), (4, .int (Ii a5)), (5, .int (Ii a6)), (6, .int (Ii a7))] rfl (Nat.le_of_ble_eq_true rfl) (fun p e s m args below meth c X Y htb hrt hlk => ?_)
  have X : Cx p s m args c cL_does D 8 RL := X
  unfold f_L_does
  refine go_iload_n X dL_does_0 rfl 1 rfl ?_
  refine go_lt (fun J => ∀ (v1 : Int) (M2 : Mm), i32 v1 → Go p l e (rmX 8 194 3 18) s m args below meth c D TL 686 base 8 3 18 (FinQ D base 3 18 below args s i32) M2 253 [] [.int (Ii v1)] (J v1 M2)) (by
      intro v1 M2 hv1
      exact go_qireturn X hrt hlk dL_does_253 hv1 (Nat.le_of_ble_eq_true rfl) (Nat.le_of_ble_eq_true rfl)
      )
      (fun J253_3 hJ253_3 => ?_)
  refine go_if_ne (tgt := 17) X dL_does_1 rfl ha2 (fun c4 => ?_) (fun c4 => ?_)
  · refine go_iload_n X dL_does_17 rfl 1 rfl ?_
    refine go_iconst (v := 1) X dL_does_18 rfl ?_
    refine go_icmp_ne (tgt := 37) X dL_does_19 rfl ha2 kI_1 (fun c5 => ?_) (fun c5 => ?_)
    · refine go_iload_n X dL_does_37 rfl 1 rfl ?_
      refine go_iconst (v := 2) X dL_does_38 rfl ?_
      refine go_icmp_ne (tgt := 53) X dL_does_39 rfl ha2 kI_2 (fun c6 => ?_) (fun c6 => ?_)
      · refine go_iload_n X dL_does_53 rfl 1 rfl ?_
        refine go_iconst (v := 3) X dL_does_54 rfl ?_
        refine go_icmp_ne (tgt := 66) X dL_does_55 rfl ha2 kI_3 (fun c7 => ?_) (fun c7 => ?_)
        · refine go_iload_n X dL_does_66 rfl 1 rfl ?_
          refine go_iconst (v := 4) X dL_does_67 rfl ?_
          refine go_icmp_ne (tgt := 82) X dL_does_68 rfl ha2 kI_4 (fun c8 => ?_) (fun c8 => ?_)
          · refine go_iload_n X dL_does_82 rfl 1 rfl ?_
            refine go_iconst (v := 5) X dL_does_83 rfl ?_
            refine go_icmp_ne (tgt := 100) X dL_does_84 rfl ha2 kI_5 (fun c9 => ?_) (fun c9 => ?_)
            · refine go_iload_n X dL_does_100 rfl 1 rfl ?_
              refine go_bipush (v := 6) X dL_does_101 (by decide) ?_
              refine go_icmp_ne (tgt := 122) X dL_does_103 rfl ha2 kI_6 (fun c10 => ?_) (fun c10 => ?_)
              · refine go_iload_n X dL_does_122 rfl 1 rfl ?_
                refine go_bipush (v := 7) X dL_does_123 (by decide) ?_
                refine go_icmp_ne (tgt := 137) X dL_does_125 rfl ha2 kI_7 (fun c11 => ?_) (fun c11 => ?_)
                · refine go_iload_n X dL_does_137 rfl 1 rfl ?_
                  refine go_bipush (v := 8) X dL_does_138 (by decide) ?_
                  refine go_icmp_ne (tgt := 151) X dL_does_140 rfl ha2 kI_8 (fun c12 => ?_) (fun c12 => ?_)
                  · refine go_iload_n X dL_does_151 rfl 1 rfl ?_
                    refine go_bipush (v := 9) X dL_does_152 (by decide) ?_
                    refine go_icmp_ne (tgt := 164) X dL_does_154 rfl ha2 kI_9 (fun c13 => ?_) (fun c13 => ?_)
                    · refine go_iload_n X dL_does_164 rfl 1 rfl ?_
                      refine go_bipush (v := 10) X dL_does_165 (by decide) ?_
                      refine go_icmp_ne (tgt := 178) X dL_does_167 rfl ha2 kI_10 (fun c14 => ?_) (fun c14 => ?_)
                      · refine go_iload_n X dL_does_178 rfl 1 rfl ?_
                        refine go_bipush (v := 11) X dL_does_179 (by decide) ?_
                        refine go_icmp_ne (tgt := 193) X dL_does_181 rfl ha2 kI_11 (fun c15 => ?_) (fun c15 => ?_)
                        · refine go_iload_n X dL_does_193 rfl 1 rfl ?_
                          refine go_bipush (v := 12) X dL_does_194 (by decide) ?_
                          refine go_icmp_ne (tgt := 207) X dL_does_196 rfl ha2 kI_12 (fun c16 => ?_) (fun c16 => ?_)
                          · refine go_iload_n X dL_does_207 rfl 1 rfl ?_
                            refine go_bipush (v := 13) X dL_does_208 (by decide) ?_
                            refine go_icmp_ne (tgt := 224) X dL_does_210 rfl ha2 kI_13 (fun c17 => ?_) (fun c17 => ?_)
                            · refine go_iload_n X dL_does_224 rfl 1 rfl ?_
                              refine go_bipush (v := 14) X dL_does_225 (by decide) ?_
                              refine go_icmp_ne (tgt := 247) X dL_does_227 rfl ha2 kI_14 (fun c18 => ?_) (fun c18 => ?_)
                              · refine go_aload_n X dL_does_247 rfl 0 rfl ?_
                                refine go_iload_n X dL_does_248 rfl 2 rfl ?_
                                refine go_iload_n X dL_does_249 rfl 3 rfl ?_
                                refine go_dcall X Y htb hrt hlk (ok_X11_valueAnew l hl D base base (Nat.le_refl _) M a3 ha3 a4 ha4) dL_does_250 lw918 lw919 lw920 lw19 ⟨lw853, cy_X11_valueAnew, Nat.le_of_ble_eq_true rfl, Nat.le_of_ble_eq_true rfl⟩ rfl rfl rfl (Nat.le_of_ble_eq_true rfl) ⟨Nat.le_of_ble_eq_true rfl, Nat.le_of_ble_eq_true rfl⟩ (by decide) (fun _ _ => rfl) (fun v20 M19 hv20 => ?_)
                                refine go_widen 3 18 (by decide) (by decide) ?_
                                refine go_sub [] rfl ?_
                                exact hJ253_3 v20 M19 hv20
                              · refine go_aload_n X dL_does_230 rfl 0 rfl ?_
                                refine go_iload_n X dL_does_231 rfl 2 rfl ?_
                                refine go_iload_n X dL_does_232 rfl 3 rfl ?_
                                refine go_dcall X Y htb hrt hlk (ok_X11_isKept l hl D base base (Nat.le_refl _) M a3 ha3 a4 ha4) dL_does_233 lw915 lw916 lw917 lw19 ⟨lw857, cy_X11_isKept, Nat.le_of_ble_eq_true rfl, Nat.le_of_ble_eq_true rfl⟩ rfl rfl rfl (Nat.le_of_ble_eq_true rfl) ⟨Nat.le_of_ble_eq_true rfl, Nat.le_of_ble_eq_true rfl⟩ (by decide) (fun _ _ => rfl) (fun v22 M21 hv22 => ?_)
                                refine go_if_eq (tgt := 243) X dL_does_236 rfl (bo_i32 hv22) (fun c23 => ?_) (fun c23 => ?_)
                                · refine go_iconst (v := 0) X dL_does_243 rfl ?_
                                  refine go_goto (tgt := 253) X dL_does_244 rfl ?_
                                  refine go_widen 3 18 (by decide) (by decide) ?_
                                  refine go_sub [] rfl ?_
                                  exact hJ253_3 0 M21 kI_0
                                · refine go_iconst (v := 1) X dL_does_239 rfl ?_
                                  refine go_goto (tgt := 253) X dL_does_240 rfl ?_
                                  refine go_widen 3 18 (by decide) (by decide) ?_
                                  refine go_sub [] rfl ?_
                                  exact hJ253_3 1 M21 kI_1
                            · refine go_aload_n X dL_does_213 rfl 0 rfl ?_
                              refine go_iload_n X dL_does_214 rfl 2 rfl ?_
                              refine go_iload_n X dL_does_215 rfl 3 rfl ?_
                              refine go_iload X dL_does_216 4 rfl ?_
                              refine go_dcall X Y htb hrt hlk (ok_X11_why l hl D base base (Nat.le_refl _) M a3 ha3 a4 ha4 a5 ha5) dL_does_218 lw912 lw913 lw914 lw19 ⟨lw864, cy_X11_why, Nat.le_of_ble_eq_true rfl, Nat.le_of_ble_eq_true rfl⟩ rfl rfl rfl (Nat.le_of_ble_eq_true rfl) ⟨Nat.le_of_ble_eq_true rfl, Nat.le_of_ble_eq_true rfl⟩ (by decide) (fun _ _ => rfl) (fun v25 M24 hv25 => ?_)
                              refine go_goto (tgt := 253) X dL_does_221 rfl ?_
                              refine go_sub [] rfl ?_
                              exact hJ253_3 v25 M24 hv25
                          · refine go_aload_n X dL_does_199 rfl 0 rfl ?_
                            refine go_iload_n X dL_does_200 rfl 2 rfl ?_
                            refine go_dcall X Y htb hrt hlk (ok_X11_node l hl D base base (Nat.le_refl _) M a3 ha3) dL_does_201 lw909 lw910 lw911 lw19 ⟨lw833, cy_X11_node, Nat.le_of_ble_eq_true rfl, Nat.le_of_ble_eq_true rfl⟩ rfl rfl rfl (Nat.le_of_ble_eq_true rfl) ⟨Nat.le_of_ble_eq_true rfl, Nat.le_of_ble_eq_true rfl⟩ (by decide) (fun _ _ => rfl) (fun v27 M26 hv27 => ?_)
                            refine go_goto (tgt := 253) X dL_does_204 rfl ?_
                            refine go_widen 3 18 (by decide) (by decide) ?_
                            refine go_sub [] rfl ?_
                            exact hJ253_3 v27 M26 hv27
                        · refine go_aload_n X dL_does_184 rfl 0 rfl ?_
                          refine go_iload_n X dL_does_185 rfl 2 rfl ?_
                          refine go_iload_n X dL_does_186 rfl 3 rfl ?_
                          refine go_dcall X Y htb hrt hlk (ok_X11_value l hl D base base (Nat.le_refl _) M a3 ha3 a4 ha4) dL_does_187 lw906 lw907 lw908 lw19 ⟨lw852, cy_X11_value, Nat.le_of_ble_eq_true rfl, Nat.le_of_ble_eq_true rfl⟩ rfl rfl rfl (Nat.le_of_ble_eq_true rfl) ⟨Nat.le_of_ble_eq_true rfl, Nat.le_of_ble_eq_true rfl⟩ (by decide) (fun _ _ => rfl) (fun v29 M28 hv29 => ?_)
                          refine go_goto (tgt := 253) X dL_does_190 rfl ?_
                          refine go_widen 3 18 (by decide) (by decide) ?_
                          refine go_sub [] rfl ?_
                          exact hJ253_3 v29 M28 hv29
                      · refine go_aload_n X dL_does_170 rfl 0 rfl ?_
                        refine go_iload_n X dL_does_171 rfl 2 rfl ?_
                        refine go_dcall X Y htb hrt hlk (ok_X11_rewrite l hl D base base (Nat.le_refl _) M a3 ha3) dL_does_172 lw903 lw904 lw905 lw19 ⟨lw851, cy_X11_rewrite, Nat.le_of_ble_eq_true rfl, Nat.le_of_ble_eq_true rfl⟩ rfl rfl rfl (Nat.le_of_ble_eq_true rfl) ⟨Nat.le_of_ble_eq_true rfl, Nat.le_of_ble_eq_true rfl⟩ (by decide) (fun _ _ => rfl) (fun v31 M30 hv31 => ?_)
                        refine go_goto (tgt := 253) X dL_does_175 rfl ?_
                        refine go_widen 3 18 (by decide) (by decide) ?_
                        refine go_sub [] rfl ?_
                        exact hJ253_3 v31 M30 hv31
                    · refine go_aload_n X dL_does_157 rfl 0 rfl ?_
                      refine go_dcall X Y htb hrt hlk (ok_X11_read l hl D base base (Nat.le_refl _) M ) dL_does_158 lw900 lw901 lw902 lw19 ⟨lw824, cy_X11_read, Nat.le_of_ble_eq_true rfl, Nat.le_of_ble_eq_true rfl⟩ rfl rfl rfl (Nat.le_of_ble_eq_true rfl) ⟨Nat.le_of_ble_eq_true rfl, Nat.le_of_ble_eq_true rfl⟩ (by decide) (fun _ _ => rfl) (fun v33 M32 hv33 => ?_)
                      refine go_goto (tgt := 253) X dL_does_161 rfl ?_
                      refine go_widen 3 18 (by decide) (by decide) ?_
                      refine go_sub [] rfl ?_
                      exact hJ253_3 v33 M32 hv33
                  · refine go_aload_n X dL_does_143 rfl 0 rfl ?_
                    refine go_iload_n X dL_does_144 rfl 2 rfl ?_
                    refine go_dcall X Y htb hrt hlk (ok_X11_delete l hl D base base (Nat.le_refl _) M a3 ha3) dL_does_145 lw897 lw898 lw899 lw19 ⟨lw823, cy_X11_delete, Nat.le_of_ble_eq_true rfl, Nat.le_of_ble_eq_true rfl⟩ rfl rfl rfl (Nat.le_of_ble_eq_true rfl) ⟨Nat.le_of_ble_eq_true rfl, Nat.le_of_ble_eq_true rfl⟩ (by decide) (fun _ _ => rfl) (fun v35 M34 hv35 => ?_)
                    refine go_goto (tgt := 253) X dL_does_148 rfl ?_
                    refine go_widen 3 18 (by decide) (by decide) ?_
                    refine go_sub [] rfl ?_
                    exact hJ253_3 v35 M34 hv35
                · refine go_aload_n X dL_does_128 rfl 0 rfl ?_
                  refine go_iload_n X dL_does_129 rfl 2 rfl ?_
                  refine go_iload_n X dL_does_130 rfl 3 rfl ?_
                  refine go_dcall X Y htb hrt hlk (ok_X11_insert l hl D base base (Nat.le_refl _) M a3 ha3 a4 ha4) dL_does_131 lw894 lw895 lw896 lw19 ⟨lw819, cy_X11_insert, Nat.le_of_ble_eq_true rfl, Nat.le_of_ble_eq_true rfl⟩ rfl rfl rfl (Nat.le_of_ble_eq_true rfl) ⟨Nat.le_of_ble_eq_true rfl, Nat.le_of_ble_eq_true rfl⟩ (by decide) (fun _ _ => rfl) (fun v37 M36 hv37 => ?_)
                  refine go_goto (tgt := 253) X dL_does_134 rfl ?_
                  refine go_widen 3 18 (by decide) (by decide) ?_
                  refine go_sub [] rfl ?_
                  exact hJ253_3 v37 M36 hv37
              · refine go_aload_n X dL_does_106 rfl 0 rfl ?_
                refine go_iload_n X dL_does_107 rfl 2 rfl ?_
                refine go_dcall X Y htb hrt hlk (ok_X11_toggle l hl D base base (Nat.le_refl _) M a3 ha3) dL_does_108 lw891 lw892 lw893 lw19 ⟨lw782, cy_X11_toggle, Nat.le_of_ble_eq_true rfl, Nat.le_of_ble_eq_true rfl⟩ rfl rfl rfl (Nat.le_of_ble_eq_true rfl) ⟨Nat.le_of_ble_eq_true rfl, Nat.le_of_ble_eq_true rfl⟩ (by decide) (fun _ _ => rfl) (fun v39 M38 hv39 => ?_)
                refine go_if_eq (tgt := 118) X dL_does_111 rfl (bo_i32 hv39) (fun c40 => ?_) (fun c40 => ?_)
                · refine go_iconst (v := 0) X dL_does_118 rfl ?_
                  refine go_goto (tgt := 253) X dL_does_119 rfl ?_
                  refine go_widen 3 18 (by decide) (by decide) ?_
                  refine go_sub [] rfl ?_
                  exact hJ253_3 0 M38 kI_0
                · refine go_iconst (v := 1) X dL_does_114 rfl ?_
                  refine go_goto (tgt := 253) X dL_does_115 rfl ?_
                  refine go_widen 3 18 (by decide) (by decide) ?_
                  refine go_sub [] rfl ?_
                  exact hJ253_3 1 M38 kI_1
            · refine go_aload_n X dL_does_87 rfl 0 rfl ?_
              refine go_iload_n X dL_does_88 rfl 2 rfl ?_
              refine go_iload_n X dL_does_89 rfl 3 rfl ?_
              refine go_iload X dL_does_90 4 rfl ?_
              refine go_iload X dL_does_92 5 rfl ?_
              refine go_dcall X Y htb hrt hlk (ok_X11_equation l hl D base base (Nat.le_refl _) M a3 ha3 a4 ha4 a5 ha5 a6 ha6) dL_does_94 lw888 lw889 lw890 lw19 ⟨lw778, cy_X11_equation, Nat.le_of_ble_eq_true rfl, Nat.le_of_ble_eq_true rfl⟩ rfl rfl rfl (Nat.le_of_ble_eq_true rfl) ⟨Nat.le_of_ble_eq_true rfl, Nat.le_of_ble_eq_true rfl⟩ (by decide) (fun _ _ => rfl) (fun v42 M41 hv42 => ?_)
              refine go_goto (tgt := 253) X dL_does_97 rfl ?_
              refine go_sub [] rfl ?_
              exact hJ253_3 v42 M41 hv42
          · refine go_aload_n X dL_does_71 rfl 0 rfl ?_
            refine go_iload_n X dL_does_72 rfl 2 rfl ?_
            refine go_iload_n X dL_does_73 rfl 3 rfl ?_
            refine go_iload X dL_does_74 4 rfl ?_
            refine go_dcall X Y htb hrt hlk (ok_X11_step l hl D base base (Nat.le_refl _) M a3 ha3 a4 ha4 a5 ha5) dL_does_76 lw885 lw886 lw887 lw19 ⟨lw760, cy_X11_step, Nat.le_of_ble_eq_true rfl, Nat.le_of_ble_eq_true rfl⟩ rfl rfl rfl (Nat.le_of_ble_eq_true rfl) ⟨Nat.le_of_ble_eq_true rfl, Nat.le_of_ble_eq_true rfl⟩ (by decide) (fun _ _ => rfl) (fun v44 M43 hv44 => ?_)
            refine go_goto (tgt := 253) X dL_does_79 rfl ?_
            refine go_widen 3 18 (by decide) (by decide) ?_
            refine go_sub [] rfl ?_
            exact hJ253_3 v44 M43 hv44
        · refine go_aload_n X dL_does_58 rfl 0 rfl ?_
          refine go_iload_n X dL_does_59 rfl 2 rfl ?_
          refine go_dcall X Y htb hrt hlk (ok_X11_attribute l hl D base base (Nat.le_refl _) M a3 ha3) dL_does_60 lw882 lw883 lw884 lw19 ⟨lw744, cy_X11_attribute, Nat.le_of_ble_eq_true rfl, Nat.le_of_ble_eq_true rfl⟩ rfl rfl rfl (Nat.le_of_ble_eq_true rfl) ⟨Nat.le_of_ble_eq_true rfl, Nat.le_of_ble_eq_true rfl⟩ (by decide) (fun _ _ => rfl) (fun v46 M45 hv46 => ?_)
          refine go_goto (tgt := 253) X dL_does_63 rfl ?_
          refine go_widen 3 18 (by decide) (by decide) ?_
          refine go_sub [] rfl ?_
          exact hJ253_3 v46 M45 hv46
      · refine go_aload_n X dL_does_42 rfl 0 rfl ?_
        refine go_iload_n X dL_does_43 rfl 2 rfl ?_
        refine go_iload_n X dL_does_44 rfl 3 rfl ?_
        refine go_iload X dL_does_45 4 rfl ?_
        refine go_dcall X Y htb hrt hlk (ok_X11_rule l hl D base base (Nat.le_refl _) M a3 ha3 a4 ha4 a5 ha5) dL_does_47 lw879 lw880 lw881 lw19 ⟨lw739, cy_X11_rule, Nat.le_of_ble_eq_true rfl, Nat.le_of_ble_eq_true rfl⟩ rfl rfl rfl (Nat.le_of_ble_eq_true rfl) ⟨Nat.le_of_ble_eq_true rfl, Nat.le_of_ble_eq_true rfl⟩ (by decide) (fun _ _ => rfl) (fun v48 M47 hv48 => ?_)
        refine go_goto (tgt := 253) X dL_does_50 rfl ?_
        refine go_widen 3 18 (by decide) (by decide) ?_
        refine go_sub [] rfl ?_
        exact hJ253_3 v48 M47 hv48
    · refine go_aload_n X dL_does_22 rfl 0 rfl ?_
      refine go_iload_n X dL_does_23 rfl 2 rfl ?_
      refine go_iload_n X dL_does_24 rfl 3 rfl ?_
      refine go_iload X dL_does_25 4 rfl ?_
      refine go_iload X dL_does_27 5 rfl ?_
      refine go_iload X dL_does_29 6 rfl ?_
      refine go_dcall X Y htb hrt hlk (ok_X11_forward l hl D base base (Nat.le_refl _) M a3 ha3 a4 ha4 a5 ha5 a6 ha6 a7 ha7) dL_does_31 lw876 lw877 lw878 lw19 ⟨lw725, cy_X11_forward, Nat.le_of_ble_eq_true rfl, Nat.le_of_ble_eq_true rfl⟩ rfl rfl rfl (Nat.le_of_ble_eq_true rfl) ⟨Nat.le_of_ble_eq_true rfl, Nat.le_of_ble_eq_true rfl⟩ (by decide) (fun _ _ => rfl) (fun v50 M49 hv50 => ?_)
      refine go_goto (tgt := 253) X dL_does_34 rfl ?_
      refine go_widen 3 18 (by decide) (by decide) ?_
      refine go_sub [] rfl ?_
      exact hJ253_3 v50 M49 hv50
  · refine go_aload_n X dL_does_4 rfl 0 rfl ?_
    refine go_iload_n X dL_does_5 rfl 2 rfl ?_
    refine go_iload_n X dL_does_6 rfl 3 rfl ?_
    refine go_iload X dL_does_7 4 rfl ?_
    refine go_iload X dL_does_9 5 rfl ?_
    refine go_dcall X Y htb hrt hlk (ok_X11_production l hl D base base (Nat.le_refl _) M a3 ha3 a4 ha4 a5 ha5 a6 ha6) dL_does_11 lw873 lw874 lw875 lw19 ⟨lw707, cy_X11_production, Nat.le_of_ble_eq_true rfl, Nat.le_of_ble_eq_true rfl⟩ rfl rfl rfl (Nat.le_of_ble_eq_true rfl) ⟨Nat.le_of_ble_eq_true rfl, Nat.le_of_ble_eq_true rfl⟩ (by decide) (fun _ _ => rfl) (fun v52 M51 hv52 => ?_)
    refine go_goto (tgt := 253) X dL_does_14 rfl ?_
    refine go_widen 3 18 (by decide) (by decide) ?_
    refine go_sub [] rfl ?_
    exact hJ253_3 v52 M51 hv52
def f_L_does4 (a3 : Int) (a4 : Int) (a5 : Int) (a6 : Int) (a7 : Int) (M : Mm) : Rs :=
Lt (fun (v1 : Int) (M2 : Mm) => 
some (v1, M2)) fun J253_3 =>
if ¬ 4 = (0 : Int) then (
if ¬ 4 = (1 : Int) then (
if ¬ 4 = (2 : Int) then (
if ¬ 4 = (3 : Int) then (
if ¬ 4 = (4 : Int) then (
none) else (
Clj (f_N11_step a3 a4 a5 M) M fun v10 M9 =>
J253_3 v10 M9)) else (
none)) else (
none)) else (
none)) else (
none)
set_option maxRecDepth 20000 in
theorem ok_L_does4 (l : Launch) (hl : l.stackTraces = false) (D : Dd) (base b N : Nat) (xs : Nat → Int32) (hN : N ≤ 260) (M : Mm) (a3 : Int) (ha3 : i32 a3) (a4 : Int) (ha4 : i32 a4) (a5 : Int) (ha5 : i32 a5) (a6 : Int) (ha6 : i32 a6) (a7 : Int) (ha7 : i32 a7) : OkQ l D base b N xs yL_does (.codeWith yL_does cL_does 8 (some .int) hhD) 3 72 0 0 [.ref (base + 0), .int (Ii 4), .int (Ii a3), .int (Ii a4), .int (Ii a5), .int (Ii a6), .int (Ii a7)] M i32 (f_L_does4 a3 a4 a5 a6 a7 M) := by
  refine metQH (by decide +kernel) [(0, .ref (base + 0)), (1, .int (Ii 4)), (2, .int (Ii a3)), (3, .int (Ii a4)), (4, .int (Ii a5)), (5, .int (Ii a6)), (6, .int (Ii a7))] rfl (Nat.le_of_ble_eq_true rfl) (fun p e s m args below meth c X Y htb hrt hlk => ?_)
  have X : Cx p s m args c cL_does D 8 RL := X
  unfold f_L_does4
  refine go_iload_n X dL_does_0 rfl 1 rfl ?_
  refine go_lt (fun J => ∀ (v1 : Int) (M2 : Mm), i32 v1 → Go p l e (rmX 3 72 0 0) s m args below meth c D TL 686 base 8 0 0 (FinQ D base 0 0 below args s i32) M2 253 [] [.int (Ii v1)] (J v1 M2)) (by
      intro v1 M2 hv1
      exact go_qireturn X hrt hlk dL_does_253 hv1 (Nat.le_of_ble_eq_true rfl) (Nat.le_of_ble_eq_true rfl)
      )
      (fun J253_3 hJ253_3 => ?_)
  refine go_if_ne (tgt := 17) X dL_does_1 rfl kI_4 (fun c4 => ?_) (fun c4 => ?_)
  · refine go_iload_n X dL_does_17 rfl 1 rfl ?_
    refine go_iconst (v := 1) X dL_does_18 rfl ?_
    refine go_icmp_ne (tgt := 37) X dL_does_19 rfl kI_4 kI_1 (fun c5 => ?_) (fun c5 => ?_)
    · refine go_iload_n X dL_does_37 rfl 1 rfl ?_
      refine go_iconst (v := 2) X dL_does_38 rfl ?_
      refine go_icmp_ne (tgt := 53) X dL_does_39 rfl kI_4 kI_2 (fun c6 => ?_) (fun c6 => ?_)
      · refine go_iload_n X dL_does_53 rfl 1 rfl ?_
        refine go_iconst (v := 3) X dL_does_54 rfl ?_
        refine go_icmp_ne (tgt := 66) X dL_does_55 rfl kI_4 kI_3 (fun c7 => ?_) (fun c7 => ?_)
        · refine go_iload_n X dL_does_66 rfl 1 rfl ?_
          refine go_iconst (v := 4) X dL_does_67 rfl ?_
          refine go_icmp_ne (tgt := 82) X dL_does_68 rfl kI_4 kI_4 (fun c8 => ?_) (fun c8 => ?_)
          · exact absurd c8 (by decide)
          · refine go_aload_n X dL_does_71 rfl 0 rfl ?_
            refine go_iload_n X dL_does_72 rfl 2 rfl ?_
            refine go_iload_n X dL_does_73 rfl 3 rfl ?_
            refine go_iload X dL_does_74 4 rfl ?_
            refine go_ccall X (ok_N11_step l D base M a3 ha3 a4 ha4 a5 ha5) dL_does_76 lw885 lw886 lw887 lw19 ⟨lw760, cy_X11_step, Nat.le_of_ble_eq_true rfl, Nat.le_of_ble_eq_true rfl⟩ rfl rfl rfl rfl (Nat.le_of_ble_eq_true rfl) ⟨Nat.le_of_ble_eq_true rfl, Nat.le_of_ble_eq_true rfl⟩ (fun v10 M9 hv10 => ?_)
            refine go_goto (tgt := 253) X dL_does_79 rfl ?_
            refine go_sub [] rfl ?_
            exact hJ253_3 v10 M9 hv10
        · exact absurd (by decide) c7
      · exact absurd (by decide) c6
    · exact absurd (by decide) c5
  · exact absurd (by decide) c4
def f_L_isTree_L324_33 (J366_15 : Int → Mm → Rs) (rc324_19 : Int × Int × Mm → Rs) : Int × Int × Mm → Rs := fun (v16, v17, M18) =>
gd (0 ≤ 4 ∧ 4 < 11) <|
Lt (M18 684 4) fun v20 =>
if v20 ≤ v17 then (
J366_15 v16 M18) else (
if v16 = 0 then (
J366_15 v16 M18) else (
gd (0 ≤ v17 ∧ v17 < 30) <|
Lt (M18 685 v17.toNat) fun v23 =>
Clj (f_N11_node v17 M18) M18 fun v25 M24 =>
Lt (jrem v25 10) fun v26 =>
Lt (fun (v27 : Int) (v28 : Int) (M29 : Mm) => 
Lt (wr (v27 + 1)) fun v31 =>
rc324_19 (v28, v31, M29)) fun J358_30 =>
if ¬ v23 = v26 then (
J358_30 v17 0 M24) else (
J358_30 v17 1 M24)))
def f_L_isTree_L212_105 (J250_64 : Int → Int → Mm → Rs) (rc212_94 : Int × Int × Mm → Rs) : Int × Int × Mm → Rs := fun (v91, v92, M93) =>
if v91 < 0 then (
J250_64 v91 v92 M93) else (
gd (0 ≤ v91 ∧ v91 < 30) <|
Lt (M93 685 v91.toNat) fun v96 =>
Clj (f_N11_node v91 M93) M93 fun v98 M97 =>
Lt (jrem v98 10) fun v99 =>
if ¬ v96 = v99 then (
J250_64 v91 v92 M97) else (
Clj (f_N11_node v91 M97) M97 fun v102 M101 =>
Lt (wr (Int.tdiv v102 1000)) fun v103 =>
Lt (wr (v103 - 1)) fun v104 =>
rc212_94 (v104, v92, M101)))
def f_L_isTree_L96_126 (J321_12 : Int → Mm → Rs) (rc96_38 : Int × Int × Int × Mm → Rs) : Int × Int × Int × Mm → Rs := fun (v34, v35, v36, M37) =>
gd (0 ≤ 4 ∧ 4 < 11) <|
Lt (M37 684 4) fun v39 =>
if v39 ≤ v36 then (
J321_12 v34 M37) else (
if v34 = 0 then (
J321_12 v34 M37) else (
Clj (f_N11_node v36 M37) M37 fun v43 M42 =>
Lt (wr (Int.tdiv v43 1000)) fun v44 =>
Lt (wr (v44 - 1)) fun v45 =>
Lt (wr (Int.tdiv v43 10)) fun v46 =>
Lt (jrem v46 100) fun v47 =>
gd (0 ≤ 0 ∧ 0 < 11) <|
Lt (M42 684 0) fun v48 =>
Lt (fun (v49 : Int) (v50 : Int) (v51 : Int) (M52 : Mm) => 
Lt (fun (v54 : Int) (v55 : Int) (M56 : Mm) => 
Lt (wr (v55 + 1)) fun v58 =>
rc96_38 (v54, v55, v58, M56)) fun J311_57 =>
if v51 = 0 then (
J311_57 v51 v50 M52) else (
if v50 ≤ 0 then (
J311_57 v51 v50 M52) else (
Lt (fun (v61 : Int) (v62 : Int) (M63 : Mm) => 
Lt (fun (v65 : Int) (v66 : Int) (M67 : Mm) => 
gd (0 ≤ v45 ∧ v45 < 30) <|
Lt (M67 685 v45.toNat) fun v69 =>
Lt (fun (v70 : Int) (v71 : Int) (M72 : Mm) => 
Lt (wr (v69 + v71)) fun v74 =>
gd (0 ≤ v45 ∧ v45 < 30) <|
Lt (up M72 685 v45.toNat v74) fun M75 =>
J311_57 v66 v70 M75) fun J309_73 =>
if v66 = 0 then (
J309_73 v65 0 M67) else (
J309_73 v65 1 M67)) fun J292_68 =>
Lt (fun (v77 : Int) (M78 : Mm) => 
J292_68 v77 0 M78) fun J291_79 =>
if ¬ v45 = v61 then (
J291_79 v62 M63) else (
Clj (f_N11_node v45 M63) M63 fun v82 M81 =>
Lt (wr (Int.tdiv v82 10)) fun v83 =>
Lt (jrem v83 100) fun v84 =>
gd (0 ≤ v45 ∧ v45 < 30) <|
Lt (M81 685 v45.toNat) fun v85 =>
Cl (f_L_childOf v84 v85 M81) fun v87 M86 =>
gd (0 ≤ v47 ∧ v47 < 10) <|
Lt (M86 681 v47.toNat) fun v88 =>
Lt (jrem v88 10) fun v89 =>
if ¬ v87 = v89 then (
J291_79 v62 M86) else (
J292_68 v62 1 M86))) fun J250_64 =>
Lp (f_L_isTree_L212_105 J250_64) FU (v49, v50, M52)))) fun J200_53 =>
Lt (fun (v106 : Int) (v107 : Int) (M108 : Mm) => 
J200_53 v106 v107 0 M108) fun J199_109 =>
if v48 ≤ v47 then (
J199_109 v35 v36 M42) else (
Lt (jrem v43 10) fun v111 =>
Cl (f_L_children v47 M42) fun v113 M112 =>
if ¬ v111 = v113 then (
J199_109 v35 v36 M112) else (
Lt (fun (v115 : Int) (v116 : Int) (M117 : Mm) => 
J200_53 v115 v116 1 M117) fun J195_118 =>
if ¬ v36 = 0 then (
if v45 < 0 then (
J199_109 v35 v36 M112) else (
if v36 ≤ v45 then (
J199_109 v35 v36 M112) else (
J195_118 v35 v36 M112))) else (
if ¬ v45 = ((-1)) then (
J199_109 v35 v36 M112) else (
gd (0 ≤ v47 ∧ v47 < 10) <|
Lt (M112 681 v47.toNat) fun v123 =>
Lt (jrem v123 10) fun v124 =>
if ¬ v124 = 0 then (
J199_109 v35 v36 M112) else (
J195_118 v35 v36 M112)))))))
def f_L_isTree_L71_134 (J90_9 : Mm → Rs) (rc71_129 : Int × Mm → Rs) : Int × Mm → Rs := fun (v127, M128) =>
gd (0 ≤ 4 ∧ 4 < 11) <|
Lt (M128 684 4) fun v130 =>
if v130 ≤ v127 then (
J90_9 M128) else (
gd (0 ≤ v127 ∧ v127 < 30) <|
Lt (up M128 685 v127.toNat 0) fun M132 =>
Lt (wr (v127 + 1)) fun v133 =>
rc71_129 (v133, M132))
def f_L_isTree (M : Mm) : Rs :=
gd (0 ≤ 4 ∧ 4 < 11) <|
Lt (M 684 4) fun v1 =>
if ¬ v1 = 0 then (
Clj (f_X11_cost M) M fun v4 M3 =>
Lt (fun (v5 : Int) (M6 : Mm) => 
Lt (fun (M8 : Mm) => 
Lt (fun (v10 : Int) (M11 : Mm) => 
Lt (fun (v13 : Int) (M14 : Mm) => 
some (v13, M14)) fun J366_15 =>
Lp (f_L_isTree_L324_33 J366_15) FU (v10, 0, M11)) fun J321_12 =>
Lp (f_L_isTree_L96_126 J321_12) FU (v5, (-1), 0, M8)) fun J90_9 =>
Lp (f_L_isTree_L71_134 J90_9) FU (0, M6)) fun J66_7 =>
Lt (fun (M135 : Mm) => 
J66_7 0 M135) fun J65_136 =>
if v4 < 0 then (
J65_136 M3) else (
gd (0 ≤ 4 ∧ 4 < 11) <|
Lt (M3 684 4) fun v138 =>
Cl (f_L_does 12 v138 0 0 0 0 M3) fun v140 M139 =>
if ¬ v140 = ((-3000000)) then (
J65_136 M139) else (
J66_7 1 M139))) else (
Clj (f_X11_cost M) M fun v143 M142 =>
Lt (fun (v144 : Int) (M145 : Mm) => 
some (v144, M145)) fun J35_146 =>
Lt (fun (M147 : Mm) => 
J35_146 0 M147) fun J34_148 =>
if ¬ v143 = ((-1)) then (
J34_148 M142) else (
Cl (f_L_does 12 0 0 0 0 0 M142) fun v151 M150 =>
if ¬ v151 = ((-3000000)) then (
J34_148 M150) else (
J35_146 1 M150)))
theorem cy_L_isTree : yL_isTree.cls ≠ "java/lang/invoke/MethodHandle" ∧ yL_isTree.cls ≠ "java/lang/invoke/VarHandle" ∧ (parseMethodDescriptor yL_isTree.desc).map (fun d => d.parameters.length) = some 4 := ⟨by decide +kernel, by decide +kernel, by decide +kernel⟩
set_option maxRecDepth 20000 in
theorem ok_L_isTree (l : Launch) (hl : l.stackTraces = false) (D : Dd) (base b N : Nat) (xs : Nat → Int32) (hN : N ≤ 260) (M : Mm) : OkQ l D base b N xs yL_isTree (.code yL_isTree cL_isTree 10 (some .boolean)) 9 221 3 18 [.ref (base + 0), .ref (base + 681), .ref (base + 684), .ref (base + 685)] M bo (f_L_isTree M) := by
  refine metQ (by decide +kernel) [(0, .ref (base + 0)), (1, .ref (base + 681)), (2, .ref (base + 684)), (3, .ref (base + 685))] rfl (Nat.le_of_ble_eq_true rfl) (fun p e s m args below meth c X Y hrt hlk => ?_)
  have X : Cx p s m args c cL_isTree D 10 RL := X
  unfold f_L_isTree
  refine go_aload_n X dL_isTree_0 rfl 2 rfl ?_
  refine go_iconst (v := 4) X dL_isTree_1 rfl ?_
  refine go_iaload X dL_isTree_2 tln684 tl684 kI_4 (fun v1 hv1 => ?_)
  refine go_if_ne (tgt := 36) X dL_isTree_3 rfl hv1 (fun c2 => ?_) (fun c2 => ?_)
  · refine go_aload_n X dL_isTree_36 rfl 0 rfl ?_
    refine go_ccall X (ok_X11_cost l D base M ) dL_isTree_37 lw928 lw929 lw930 lw19 ⟨lw825, cy_X11_cost, Nat.le_of_ble_eq_true rfl, Nat.le_of_ble_eq_true rfl⟩ rfl rfl rfl rfl (Nat.le_of_ble_eq_true rfl) ⟨Nat.le_of_ble_eq_true rfl, Nat.le_of_ble_eq_true rfl⟩ (fun v4 M3 hv4 => ?_)
    refine go_lt (fun J => ∀ (v5 : Int) (M6 : Mm), bo v5 → Go p l e (rmX 9 221 3 18) s m args below meth c D TL 686 base 10 3 18 (FinQ D base 3 18 below args s bo) M6 66 [(0, .ref (base + 0)), (1, .ref (base + 681)), (2, .ref (base + 684)), (3, .ref (base + 685))] [.int (Ii v5)] (J v5 M6)) (by
        intro v5 M6 hv5
        refine go_istore (i := 4) (L' := [(4, .int (Ii v5)), (0, .ref (base + 0)), (1, .ref (base + 681)), (2, .ref (base + 684)), (3, .ref (base + 685))]) X dL_isTree_66 (by decide) rfl ?_
        refine go_iconst (v := 0) X dL_isTree_68 rfl ?_
        refine go_istore (i := 5) (L' := [(5, .int (Ii 0)), (4, .int (Ii v5)), (0, .ref (base + 0)), (1, .ref (base + 681)), (2, .ref (base + 684)), (3, .ref (base + 685))]) X dL_isTree_69 (by decide) rfl ?_
        refine go_lt (fun J => ∀ (M8 : Mm), Go p l e (rmX 9 221 3 18) s m args below meth c D TL 686 base 10 3 18 (FinQ D base 3 18 below args s bo) M8 90 [(0, .ref (base + 0)), (1, .ref (base + 681)), (2, .ref (base + 684)), (3, .ref (base + 685)), (4, .int (Ii v5))] [] (J M8)) (by
            intro M8
            refine go_iconst (v := (-1)) X dL_isTree_90 rfl ?_
            refine go_istore (i := 5) (L' := [(5, .int (Ii ((-1)))), (0, .ref (base + 0)), (1, .ref (base + 681)), (2, .ref (base + 684)), (3, .ref (base + 685)), (4, .int (Ii v5))]) X dL_isTree_91 (by decide) rfl ?_
            refine go_iconst (v := 0) X dL_isTree_93 rfl ?_
            refine go_istore (i := 6) (L' := [(6, .int (Ii 0)), (5, .int (Ii ((-1)))), (0, .ref (base + 0)), (1, .ref (base + 681)), (2, .ref (base + 684)), (3, .ref (base + 685)), (4, .int (Ii v5))]) X dL_isTree_94 (by decide) rfl ?_
            refine go_lt (fun J => ∀ (v10 : Int) (M11 : Mm), bo v10 → Go p l e (rmX 9 221 3 18) s m args below meth c D TL 686 base 10 3 18 (FinQ D base 3 18 below args s bo) M11 321 [(0, .ref (base + 0)), (2, .ref (base + 684)), (3, .ref (base + 685)), (4, .int (Ii v10))] [] (J v10 M11)) (by
                intro v10 M11 hv10
                refine go_iconst (v := 0) X dL_isTree_321 rfl ?_
                refine go_istore (i := 6) (L' := [(6, .int (Ii 0)), (0, .ref (base + 0)), (2, .ref (base + 684)), (3, .ref (base + 685)), (4, .int (Ii v10))]) X dL_isTree_322 (by decide) rfl ?_
                refine go_lt (fun J => ∀ (v13 : Int) (M14 : Mm), bo v13 → Go p l e (rmX 9 221 3 18) s m args below meth c D TL 686 base 10 3 18 (FinQ D base 3 18 below args s bo) M14 366 [(4, .int (Ii v13))] [] (J v13 M14)) (by
                    intro v13 M14 hv13
                    refine go_iload X dL_isTree_366 0 rfl ?_
                    exact go_qzreturn X hrt hlk dL_isTree_368 hv13 hv13 (Nat.le_of_ble_eq_true rfl) (Nat.le_of_ble_eq_true rfl)
                    )
                    (fun J366_15 hJ366_15 => ?_)
                refine go_sub [1, 2, 3, 4, 0] rfl ?_
                exact go_lp (fun (rc : Int × Int × Mm → Rs) => ∀ (v16 : Int) (v17 : Int) (M18 : Mm), bo v16 → i32 v17 → Go p l e (rmX 9 221 3 18) s m args below meth c D TL 686 base 10 3 18 (FinQ D base 3 18 below args s bo) M18 324 [(0, .ref (base + 0)), (2, .ref (base + 684)), (3, .ref (base + 685)), (4, .int (Ii v16)), (6, .int (Ii v17))] [] (rc (v16, v17, M18)))
                    (by intro v16 v17 M18 hv16 hv17; exact go_none)
                    (by
                    intro rc324_19 hrc324_19 v16 v17 M18 hv16 hv17
                    unfold f_L_isTree_L324_33
                    dsimp only
                    refine go_iload X dL_isTree_324 4 rfl ?_
                    refine go_aload_n X dL_isTree_326 rfl 1 rfl ?_
                    refine go_iconst (v := 4) X dL_isTree_327 rfl ?_
                    refine go_iaload X dL_isTree_328 tln684 tl684 kI_4 (fun v20 hv20 => ?_)
                    refine go_icmp_ge (tgt := 366) X dL_isTree_329 rfl hv17 hv20 (fun c21 => ?_) (fun c21 => ?_)
                    · refine go_sub [3] rfl ?_
                      exact hJ366_15 v16 M18 hv16
                    · refine go_iload X dL_isTree_332 3 rfl ?_
                      refine go_if_eq (tgt := 366) X dL_isTree_334 rfl (bo_i32 hv16) (fun c22 => ?_) (fun c22 => ?_)
                      · refine go_sub [3] rfl ?_
                        exact hJ366_15 v16 M18 hv16
                      · refine go_aload_n X dL_isTree_337 rfl 2 rfl ?_
                        refine go_iload X dL_isTree_338 4 rfl ?_
                        refine go_iaload X dL_isTree_340 tln685 tl685 hv17 (fun v23 hv23 => ?_)
                        refine go_aload_n X dL_isTree_341 rfl 0 rfl ?_
                        refine go_iload X dL_isTree_342 4 rfl ?_
                        refine go_ccall X (ok_N11_node l D base M18 v17 hv17) dL_isTree_344 lw909 lw910 lw911 lw19 ⟨lw833, cy_X11_node, Nat.le_of_ble_eq_true rfl, Nat.le_of_ble_eq_true rfl⟩ rfl rfl rfl rfl (Nat.le_of_ble_eq_true rfl) ⟨Nat.le_of_ble_eq_true rfl, Nat.le_of_ble_eq_true rfl⟩ (fun v25 M24 hv25 => ?_)
                        refine go_bipush (v := 10) X dL_isTree_347 (by decide) ?_
                        refine go_irem X dL_isTree_349 hv25 kI_10 (by decide) (fun v26 hv26 => ?_)
                        refine go_lt (fun J => ∀ (v27 : Int) (v28 : Int) (M29 : Mm), i32 v27 → bo v28 → Go p l e (rmX 9 221 3 18) s m args below meth c D TL 686 base 10 3 18 (FinQ D base 3 18 below args s bo) M29 358 [(0, .ref (base + 0)), (2, .ref (base + 684)), (3, .ref (base + 685)), (6, .int (Ii v27))] [.int (Ii v28)] (J v27 v28 M29)) (by
                            intro v27 v28 M29 hv27 hv28
                            refine go_istore (i := 4) (L' := [(4, .int (Ii v28)), (0, .ref (base + 0)), (2, .ref (base + 684)), (3, .ref (base + 685)), (6, .int (Ii v27))]) X dL_isTree_358 (by decide) rfl ?_
                            refine go_iinc (i := 6) (L' := fun v => [(6, .int (Ii v)), (4, .int (Ii v28)), (0, .ref (base + 0)), (2, .ref (base + 684)), (3, .ref (base + 685))]) X dL_isTree_360 hv27 kI_1 (j := 4) rfl (by decide) (fun _ => rfl) (fun v31 hv31 => ?_)
                            refine go_goto (tgt := 324) X dL_isTree_363 rfl ?_
                            refine go_sub [2, 3, 4, 1, 0] rfl ?_
                            exact hrc324_19 v28 v31 M29 hv28 hv31
                            )
                            (fun J358_30 hJ358_30 => ?_)
                        refine go_icmp_ne (tgt := 357) X dL_isTree_350 rfl hv23 hv26 (fun c32 => ?_) (fun c32 => ?_)
                        · refine go_iconst (v := 0) X dL_isTree_357 rfl ?_
                          refine go_sub [0, 1, 2, 4] rfl ?_
                          exact hJ358_30 v17 0 M24 hv17 (Or.inl rfl)
                        · refine go_iconst (v := 1) X dL_isTree_353 rfl ?_
                          refine go_goto (tgt := 358) X dL_isTree_354 rfl ?_
                          refine go_sub [0, 1, 2, 4] rfl ?_
                          exact hJ358_30 v17 1 M24 hv17 (Or.inr rfl)
                    )
                    FU v10 0 M11 hv10 kI_0
                )
                (fun J321_12 hJ321_12 => ?_)
            refine go_sub [2, 3, 4, 5, 6, 1, 0] rfl ?_
            exact go_lp (fun (rc : Int × Int × Int × Mm → Rs) => ∀ (v34 : Int) (v35 : Int) (v36 : Int) (M37 : Mm), bo v34 → i32 v35 → i32 v36 → Go p l e (rmX 9 221 3 18) s m args below meth c D TL 686 base 10 3 18 (FinQ D base 3 18 below args s bo) M37 96 [(0, .ref (base + 0)), (1, .ref (base + 681)), (2, .ref (base + 684)), (3, .ref (base + 685)), (4, .int (Ii v34)), (5, .int (Ii v35)), (6, .int (Ii v36))] [] (rc (v34, v35, v36, M37)))
                (by intro v34 v35 v36 M37 hv34 hv35 hv36; exact go_none)
                (by
                intro rc96_38 hrc96_38 v34 v35 v36 M37 hv34 hv35 hv36
                unfold f_L_isTree_L96_126
                dsimp only
                refine go_iload X dL_isTree_96 6 rfl ?_
                refine go_aload_n X dL_isTree_98 rfl 2 rfl ?_
                refine go_iconst (v := 4) X dL_isTree_99 rfl ?_
                refine go_iaload X dL_isTree_100 tln684 tl684 kI_4 (fun v39 hv39 => ?_)
                refine go_icmp_ge (tgt := 321) X dL_isTree_101 rfl hv36 hv39 (fun c40 => ?_) (fun c40 => ?_)
                · refine go_sub [0, 2, 3, 4] rfl ?_
                  exact hJ321_12 v34 M37 hv34
                · refine go_iload X dL_isTree_104 4 rfl ?_
                  refine go_if_eq (tgt := 321) X dL_isTree_106 rfl (bo_i32 hv34) (fun c41 => ?_) (fun c41 => ?_)
                  · refine go_sub [0, 2, 3, 4] rfl ?_
                    exact hJ321_12 v34 M37 hv34
                  · refine go_aload_n X dL_isTree_109 rfl 0 rfl ?_
                    refine go_iload X dL_isTree_110 6 rfl ?_
                    refine go_ccall X (ok_N11_node l D base M37 v36 hv36) dL_isTree_112 lw909 lw910 lw911 lw19 ⟨lw833, cy_X11_node, Nat.le_of_ble_eq_true rfl, Nat.le_of_ble_eq_true rfl⟩ rfl rfl rfl rfl (Nat.le_of_ble_eq_true rfl) ⟨Nat.le_of_ble_eq_true rfl, Nat.le_of_ble_eq_true rfl⟩ (fun v43 M42 hv43 => ?_)
                    refine go_istore (i := 7) (L' := [(7, .int (Ii v43)), (0, .ref (base + 0)), (1, .ref (base + 681)), (2, .ref (base + 684)), (3, .ref (base + 685)), (4, .int (Ii v34)), (5, .int (Ii v35)), (6, .int (Ii v36))]) X dL_isTree_115 (by decide) rfl ?_
                    refine go_iload X dL_isTree_117 0 rfl ?_
                    refine go_sipush (v := 1000) X dL_isTree_119 (by decide) ?_
                    refine go_idiv X dL_isTree_122 hv43 kI_1000 (by decide) (fun v44 hv44 => ?_)
                    refine go_iconst (v := 1) X dL_isTree_123 rfl ?_
                    refine go_isub X dL_isTree_124 hv44 kI_1 (fun v45 hv45 => ?_)
                    refine go_istore (i := 8) (L' := [(8, .int (Ii v45)), (7, .int (Ii v43)), (0, .ref (base + 0)), (1, .ref (base + 681)), (2, .ref (base + 684)), (3, .ref (base + 685)), (4, .int (Ii v34)), (5, .int (Ii v35)), (6, .int (Ii v36))]) X dL_isTree_125 (by decide) rfl ?_
                    refine go_iload X dL_isTree_127 1 rfl ?_
                    refine go_bipush (v := 10) X dL_isTree_129 (by decide) ?_
                    refine go_idiv X dL_isTree_131 hv43 kI_10 (by decide) (fun v46 hv46 => ?_)
                    refine go_bipush (v := 100) X dL_isTree_132 (by decide) ?_
                    refine go_irem X dL_isTree_134 hv46 kI_100 (by decide) (fun v47 hv47 => ?_)
                    refine go_istore (i := 9) (L' := [(9, .int (Ii v47)), (8, .int (Ii v45)), (7, .int (Ii v43)), (0, .ref (base + 0)), (1, .ref (base + 681)), (2, .ref (base + 684)), (3, .ref (base + 685)), (4, .int (Ii v34)), (5, .int (Ii v35)), (6, .int (Ii v36))]) X dL_isTree_135 (by decide) rfl ?_
                    refine go_iload X dL_isTree_137 0 rfl ?_
                    refine go_aload_n X dL_isTree_139 rfl 5 rfl ?_
                    refine go_iconst (v := 0) X dL_isTree_140 rfl ?_
                    refine go_iaload X dL_isTree_141 tln684 tl684 kI_0 (fun v48 hv48 => ?_)
                    refine go_lt (fun J => ∀ (v49 : Int) (v50 : Int) (v51 : Int) (M52 : Mm), i32 v49 → i32 v50 → bo v51 → Go p l e (rmX 9 221 3 18) s m args below meth c D TL 686 base 10 3 18 (FinQ D base 3 18 below args s bo) M52 200 [(0, .ref (base + 0)), (1, .ref (base + 681)), (2, .ref (base + 684)), (3, .ref (base + 685)), (5, .int (Ii v49)), (6, .int (Ii v50)), (8, .int (Ii v45)), (9, .int (Ii v47))] [.int (Ii v51)] (J v49 v50 v51 M52)) (by
                        intro v49 v50 v51 M52 hv49 hv50 hv51
                        refine go_istore (i := 4) (L' := [(4, .int (Ii v51)), (0, .ref (base + 0)), (1, .ref (base + 681)), (2, .ref (base + 684)), (3, .ref (base + 685)), (5, .int (Ii v49)), (6, .int (Ii v50)), (8, .int (Ii v45)), (9, .int (Ii v47))]) X dL_isTree_200 (by decide) rfl ?_
                        refine go_iload X dL_isTree_202 0 rfl ?_
                        refine go_lt (fun J => ∀ (v54 : Int) (v55 : Int) (M56 : Mm), bo v54 → i32 v55 → Go p l e (rmX 9 221 3 18) s m args below meth c D TL 686 base 10 3 18 (FinQ D base 3 18 below args s bo) M56 311 [(0, .ref (base + 0)), (1, .ref (base + 681)), (2, .ref (base + 684)), (3, .ref (base + 685)), (4, .int (Ii v54)), (6, .int (Ii v55))] [] (J v54 v55 M56)) (by
                            intro v54 v55 M56 hv54 hv55
                            refine go_iload X dL_isTree_311 5 rfl ?_
                            refine go_istore (i := 5) (L' := [(5, .int (Ii v55)), (0, .ref (base + 0)), (1, .ref (base + 681)), (2, .ref (base + 684)), (3, .ref (base + 685)), (4, .int (Ii v54)), (6, .int (Ii v55))]) X dL_isTree_313 (by decide) rfl ?_
                            refine go_iinc (i := 6) (L' := fun v => [(6, .int (Ii v)), (5, .int (Ii v55)), (0, .ref (base + 0)), (1, .ref (base + 681)), (2, .ref (base + 684)), (3, .ref (base + 685)), (4, .int (Ii v54))]) X dL_isTree_315 hv55 kI_1 (j := 6) rfl (by decide) (fun _ => rfl) (fun v58 hv58 => ?_)
                            refine go_goto (tgt := 96) X dL_isTree_318 rfl ?_
                            refine go_sub [2, 3, 4, 5, 6, 1, 0] rfl ?_
                            exact hrc96_38 v54 v55 v58 M56 hv54 hv55 hv58
                            )
                            (fun J311_57 hJ311_57 => ?_)
                        refine go_if_eq (tgt := 311) X dL_isTree_204 rfl (bo_i32 hv51) (fun c59 => ?_) (fun c59 => ?_)
                        · refine go_sub [1, 2, 3, 4, 0, 6] rfl ?_
                          exact hJ311_57 v51 v50 M52 hv51 hv50
                        · refine go_iload X dL_isTree_207 6 rfl ?_
                          refine go_if_le (tgt := 311) X dL_isTree_209 rfl hv50 (fun c60 => ?_) (fun c60 => ?_)
                          · refine go_sub [1, 2, 3, 4, 0, 6] rfl ?_
                            exact hJ311_57 v51 v50 M52 hv51 hv50
                          · refine go_lt (fun J => ∀ (v61 : Int) (v62 : Int) (M63 : Mm), i32 v61 → i32 v62 → Go p l e (rmX 9 221 3 18) s m args below meth c D TL 686 base 10 3 18 (FinQ D base 3 18 below args s bo) M63 250 [(0, .ref (base + 0)), (1, .ref (base + 681)), (2, .ref (base + 684)), (3, .ref (base + 685)), (5, .int (Ii v61)), (6, .int (Ii v62)), (8, .int (Ii v45)), (9, .int (Ii v47))] [] (J v61 v62 M63)) (by
                                intro v61 v62 M63 hv61 hv62
                                refine go_iload X dL_isTree_250 6 rfl ?_
                                refine go_iload X dL_isTree_252 4 rfl ?_
                                refine go_lt (fun J => ∀ (v65 : Int) (v66 : Int) (M67 : Mm), i32 v65 → bo v66 → Go p l e (rmX 9 221 3 18) s m args below meth c D TL 686 base 10 3 18 (FinQ D base 3 18 below args s bo) M67 292 [(0, .ref (base + 0)), (1, .ref (base + 681)), (2, .ref (base + 684)), (3, .ref (base + 685)), (6, .int (Ii v65)), (8, .int (Ii v45))] [.int (Ii v66)] (J v65 v66 M67)) (by
                                    intro v65 v66 M67 hv65 hv66
                                    refine go_istore (i := 4) (L' := [(4, .int (Ii v66)), (0, .ref (base + 0)), (1, .ref (base + 681)), (2, .ref (base + 684)), (3, .ref (base + 685)), (6, .int (Ii v65)), (8, .int (Ii v45))]) X dL_isTree_292 (by decide) rfl ?_
                                    refine go_aload_n X dL_isTree_294 rfl 4 rfl ?_
                                    refine go_iload X dL_isTree_295 6 rfl ?_
                                    refine go_dup2 X dL_isTree_297 rfl rfl ?_
                                    refine go_iaload X dL_isTree_298 tln685 tl685 hv45 (fun v69 hv69 => ?_)
                                    refine go_iload X dL_isTree_299 0 rfl ?_
                                    refine go_lt (fun J => ∀ (v70 : Int) (v71 : Int) (M72 : Mm), i32 v70 → bo v71 → Go p l e (rmX 9 221 3 18) s m args below meth c D TL 686 base 10 3 18 (FinQ D base 3 18 below args s bo) M72 309 [(0, .ref (base + 0)), (1, .ref (base + 681)), (2, .ref (base + 684)), (3, .ref (base + 685)), (4, .int (Ii v66)), (6, .int (Ii v70))] [.int (Ii v71), .int (Ii v69), .int (Ii v45), .ref (base + 685)] (J v70 v71 M72)) (by
                                        intro v70 v71 M72 hv70 hv71
                                        refine go_iadd X dL_isTree_309 hv69 (bo_i32 hv71) (fun v74 hv74 => ?_)
                                        refine go_iastore X dL_isTree_310 tln685 tl685 hv45 hv74 (fun M75 => ?_)
                                        exact hJ311_57 v66 v70 M75 hv66 hv70
                                        )
                                        (fun J309_73 hJ309_73 => ?_)
                                    refine go_if_eq (tgt := 308) X dL_isTree_301 rfl (bo_i32 hv66) (fun c76 => ?_) (fun c76 => ?_)
                                    · refine go_iconst (v := 0) X dL_isTree_308 rfl ?_
                                      refine go_sub [1, 2, 3, 4, 0, 5] rfl ?_
                                      exact hJ309_73 v65 0 M67 hv65 (Or.inl rfl)
                                    · refine go_iconst (v := 1) X dL_isTree_304 rfl ?_
                                      refine go_goto (tgt := 309) X dL_isTree_305 rfl ?_
                                      refine go_sub [1, 2, 3, 4, 0, 5] rfl ?_
                                      exact hJ309_73 v65 1 M67 hv65 (Or.inr rfl)
                                    )
                                    (fun J292_68 hJ292_68 => ?_)
                                refine go_lt (fun J => ∀ (v77 : Int) (M78 : Mm), i32 v77 → Go p l e (rmX 9 221 3 18) s m args below meth c D TL 686 base 10 3 18 (FinQ D base 3 18 below args s bo) M78 291 [(0, .ref (base + 0)), (1, .ref (base + 681)), (2, .ref (base + 684)), (3, .ref (base + 685)), (6, .int (Ii v77)), (8, .int (Ii v45))] [] (J v77 M78)) (by
                                    intro v77 M78 hv77
                                    refine go_iconst (v := 0) X dL_isTree_291 rfl ?_
                                    exact hJ292_68 v77 0 M78 hv77 (Or.inl rfl)
                                    )
                                    (fun J291_79 hJ291_79 => ?_)
                                refine go_icmp_ne (tgt := 291) X dL_isTree_254 rfl hv45 hv61 (fun c80 => ?_) (fun c80 => ?_)
                                · refine go_sub [0, 1, 2, 3, 5, 6] rfl ?_
                                  exact hJ291_79 v62 M63 hv62
                                · refine go_aload_n X dL_isTree_257 rfl 1 rfl ?_
                                  refine go_aload_n X dL_isTree_258 rfl 0 rfl ?_
                                  refine go_iload X dL_isTree_259 6 rfl ?_
                                  refine go_ccall X (ok_N11_node l D base M63 v45 hv45) dL_isTree_261 lw909 lw910 lw911 lw19 ⟨lw833, cy_X11_node, Nat.le_of_ble_eq_true rfl, Nat.le_of_ble_eq_true rfl⟩ rfl rfl rfl rfl (Nat.le_of_ble_eq_true rfl) ⟨Nat.le_of_ble_eq_true rfl, Nat.le_of_ble_eq_true rfl⟩ (fun v82 M81 hv82 => ?_)
                                  refine go_bipush (v := 10) X dL_isTree_264 (by decide) ?_
                                  refine go_idiv X dL_isTree_266 hv82 kI_10 (by decide) (fun v83 hv83 => ?_)
                                  refine go_bipush (v := 100) X dL_isTree_267 (by decide) ?_
                                  refine go_irem X dL_isTree_269 hv83 kI_100 (by decide) (fun v84 hv84 => ?_)
                                  refine go_aload_n X dL_isTree_270 rfl 3 rfl ?_
                                  refine go_iload X dL_isTree_271 6 rfl ?_
                                  refine go_iaload X dL_isTree_273 tln685 tl685 hv45 (fun v85 hv85 => ?_)
                                  refine goI (fun H locs ls r ho hW hL => runS X (ok_L_childOf l D base M81 v84 hv84 v85 hv85 H.size r ho) dL_isTree_274 lw935 lw936 lw926 ⟨lw927, cy_L_childOf, Nat.le_of_ble_eq_true rfl, Nat.le_of_ble_eq_true rfl⟩ rfl rfl (Nat.le_of_ble_eq_true rfl) hW hL ⟨Nat.le_of_ble_eq_true rfl, Nat.le_of_ble_eq_true rfl⟩) (fun v87 M86 hv87 => ?_)
                                  refine go_aload_n X dL_isTree_277 rfl 1 rfl ?_
                                  refine go_iload X dL_isTree_278 7 rfl ?_
                                  refine go_iaload X dL_isTree_280 tln681 tl681 hv47 (fun v88 hv88 => ?_)
                                  refine go_bipush (v := 10) X dL_isTree_281 (by decide) ?_
                                  refine go_irem X dL_isTree_283 hv88 kI_10 (by decide) (fun v89 hv89 => ?_)
                                  refine go_icmp_ne (tgt := 291) X dL_isTree_284 rfl hv87 hv89 (fun c90 => ?_) (fun c90 => ?_)
                                  · refine go_sub [0, 1, 2, 3, 5, 6] rfl ?_
                                    exact hJ291_79 v62 M86 hv62
                                  · refine go_iconst (v := 1) X dL_isTree_287 rfl ?_
                                    refine go_goto (tgt := 292) X dL_isTree_288 rfl ?_
                                    refine go_sub [0, 1, 2, 3, 5, 6] rfl ?_
                                    exact hJ292_68 v62 1 M86 hv62 (Or.inr rfl)
                                )
                                (fun J250_64 hJ250_64 => ?_)
                            refine go_sub [1, 2, 3, 4, 5, 6, 7, 8] rfl ?_
                            exact go_lp (fun (rc : Int × Int × Mm → Rs) => ∀ (v91 : Int) (v92 : Int) (M93 : Mm), i32 v91 → i32 v92 → Go p l e (rmX 9 221 3 18) s m args below meth c D TL 686 base 10 3 18 (FinQ D base 3 18 below args s bo) M93 212 [(0, .ref (base + 0)), (1, .ref (base + 681)), (2, .ref (base + 684)), (3, .ref (base + 685)), (5, .int (Ii v91)), (6, .int (Ii v92)), (8, .int (Ii v45)), (9, .int (Ii v47))] [] (rc (v91, v92, M93)))
                                (by intro v91 v92 M93 hv91 hv92; exact go_none)
                                (by
                                intro rc212_94 hrc212_94 v91 v92 M93 hv91 hv92
                                unfold f_L_isTree_L212_105
                                dsimp only
                                refine go_iload X dL_isTree_212 4 rfl ?_
                                refine go_if_lt (tgt := 250) X dL_isTree_214 rfl hv91 (fun c95 => ?_) (fun c95 => ?_)
                                · exact hJ250_64 v91 v92 M93 hv91 hv92
                                · refine go_aload_n X dL_isTree_217 rfl 3 rfl ?_
                                  refine go_iload X dL_isTree_218 4 rfl ?_
                                  refine go_iaload X dL_isTree_220 tln685 tl685 hv91 (fun v96 hv96 => ?_)
                                  refine go_aload_n X dL_isTree_221 rfl 0 rfl ?_
                                  refine go_iload X dL_isTree_222 4 rfl ?_
                                  refine go_ccall X (ok_N11_node l D base M93 v91 hv91) dL_isTree_224 lw909 lw910 lw911 lw19 ⟨lw833, cy_X11_node, Nat.le_of_ble_eq_true rfl, Nat.le_of_ble_eq_true rfl⟩ rfl rfl rfl rfl (Nat.le_of_ble_eq_true rfl) ⟨Nat.le_of_ble_eq_true rfl, Nat.le_of_ble_eq_true rfl⟩ (fun v98 M97 hv98 => ?_)
                                  refine go_bipush (v := 10) X dL_isTree_227 (by decide) ?_
                                  refine go_irem X dL_isTree_229 hv98 kI_10 (by decide) (fun v99 hv99 => ?_)
                                  refine go_icmp_ne (tgt := 250) X dL_isTree_230 rfl hv96 hv99 (fun c100 => ?_) (fun c100 => ?_)
                                  · exact hJ250_64 v91 v92 M97 hv91 hv92
                                  · refine go_aload_n X dL_isTree_233 rfl 0 rfl ?_
                                    refine go_iload X dL_isTree_234 4 rfl ?_
                                    refine go_ccall X (ok_N11_node l D base M97 v91 hv91) dL_isTree_236 lw909 lw910 lw911 lw19 ⟨lw833, cy_X11_node, Nat.le_of_ble_eq_true rfl, Nat.le_of_ble_eq_true rfl⟩ rfl rfl rfl rfl (Nat.le_of_ble_eq_true rfl) ⟨Nat.le_of_ble_eq_true rfl, Nat.le_of_ble_eq_true rfl⟩ (fun v102 M101 hv102 => ?_)
                                    refine go_sipush (v := 1000) X dL_isTree_239 (by decide) ?_
                                    refine go_idiv X dL_isTree_242 hv102 kI_1000 (by decide) (fun v103 hv103 => ?_)
                                    refine go_iconst (v := 1) X dL_isTree_243 rfl ?_
                                    refine go_isub X dL_isTree_244 hv103 kI_1 (fun v104 hv104 => ?_)
                                    refine go_istore (i := 5) (L' := [(5, .int (Ii v104)), (0, .ref (base + 0)), (1, .ref (base + 681)), (2, .ref (base + 684)), (3, .ref (base + 685)), (6, .int (Ii v92)), (8, .int (Ii v45)), (9, .int (Ii v47))]) X dL_isTree_245 (by decide) rfl ?_
                                    refine go_goto (tgt := 212) X dL_isTree_247 rfl ?_
                                    refine go_sub [1, 2, 3, 4, 0, 5, 6, 7] rfl ?_
                                    exact hrc212_94 v104 v92 M101 hv104 hv92
                                )
                                FU v49 v50 M52 hv49 hv50
                        )
                        (fun J200_53 hJ200_53 => ?_)
                    refine go_lt (fun J => ∀ (v106 : Int) (v107 : Int) (M108 : Mm), i32 v106 → i32 v107 → Go p l e (rmX 9 221 3 18) s m args below meth c D TL 686 base 10 3 18 (FinQ D base 3 18 below args s bo) M108 199 [(0, .ref (base + 0)), (1, .ref (base + 681)), (2, .ref (base + 684)), (3, .ref (base + 685)), (5, .int (Ii v106)), (6, .int (Ii v107)), (8, .int (Ii v45)), (9, .int (Ii v47))] [] (J v106 v107 M108)) (by
                        intro v106 v107 M108 hv106 hv107
                        refine go_iconst (v := 0) X dL_isTree_199 rfl ?_
                        exact hJ200_53 v106 v107 0 M108 hv106 hv107 (Or.inl rfl)
                        )
                        (fun J199_109 hJ199_109 => ?_)
                    refine go_icmp_ge (tgt := 199) X dL_isTree_142 rfl hv47 hv48 (fun c110 => ?_) (fun c110 => ?_)
                    · refine go_sub [3, 4, 5, 6, 8, 9, 1, 0] rfl ?_
                      exact hJ199_109 v35 v36 M42 hv35 hv36
                    · refine go_iload X dL_isTree_145 2 rfl ?_
                      refine go_bipush (v := 10) X dL_isTree_147 (by decide) ?_
                      refine go_irem X dL_isTree_149 hv43 kI_10 (by decide) (fun v111 hv111 => ?_)
                      refine go_aload_n X dL_isTree_150 rfl 4 rfl ?_
                      refine go_iload X dL_isTree_151 0 rfl ?_
                      refine goI (fun H locs ls r ho hW hL => runS X (ok_L_children l D base M42 v47 hv47 H.size r ho) dL_isTree_153 lw933 lw934 lw926 ⟨lw923, cy_L_children, Nat.le_of_ble_eq_true rfl, Nat.le_of_ble_eq_true rfl⟩ rfl rfl (Nat.le_of_ble_eq_true rfl) hW hL ⟨Nat.le_of_ble_eq_true rfl, Nat.le_of_ble_eq_true rfl⟩) (fun v113 M112 hv113 => ?_)
                      refine go_icmp_ne (tgt := 199) X dL_isTree_156 rfl hv111 hv113 (fun c114 => ?_) (fun c114 => ?_)
                      · refine go_sub [3, 4, 5, 6, 8, 9, 1, 0] rfl ?_
                        exact hJ199_109 v35 v36 M112 hv35 hv36
                      · refine go_iload X dL_isTree_159 9 rfl ?_
                        refine go_lt (fun J => ∀ (v115 : Int) (v116 : Int) (M117 : Mm), i32 v115 → i32 v116 → Go p l e (rmX 9 221 3 18) s m args below meth c D TL 686 base 10 3 18 (FinQ D base 3 18 below args s bo) M117 195 [(0, .ref (base + 0)), (1, .ref (base + 681)), (2, .ref (base + 684)), (3, .ref (base + 685)), (5, .int (Ii v115)), (6, .int (Ii v116)), (8, .int (Ii v45)), (9, .int (Ii v47))] [] (J v115 v116 M117)) (by
                            intro v115 v116 M117 hv115 hv116
                            refine go_iconst (v := 1) X dL_isTree_195 rfl ?_
                            refine go_goto (tgt := 200) X dL_isTree_196 rfl ?_
                            exact hJ200_53 v115 v116 1 M117 hv115 hv116 (Or.inr rfl)
                            )
                            (fun J195_118 hJ195_118 => ?_)
                        refine go_if_ne (tgt := 183) X dL_isTree_161 rfl hv36 (fun c119 => ?_) (fun c119 => ?_)
                        · refine go_iload X dL_isTree_183 1 rfl ?_
                          refine go_if_lt (tgt := 199) X dL_isTree_185 rfl hv45 (fun c120 => ?_) (fun c120 => ?_)
                          · refine go_sub [3, 4, 5, 6, 8, 9, 1, 0] rfl ?_
                            exact hJ199_109 v35 v36 M112 hv35 hv36
                          · refine go_iload X dL_isTree_188 1 rfl ?_
                            refine go_iload X dL_isTree_190 9 rfl ?_
                            refine go_icmp_ge (tgt := 199) X dL_isTree_192 rfl hv45 hv36 (fun c121 => ?_) (fun c121 => ?_)
                            · refine go_sub [3, 4, 5, 6, 8, 9, 1, 0] rfl ?_
                              exact hJ199_109 v35 v36 M112 hv35 hv36
                            · refine go_sub [3, 4, 5, 6, 8, 9, 1, 0] rfl ?_
                              exact hJ195_118 v35 v36 M112 hv35 hv36
                        · refine go_iload X dL_isTree_164 1 rfl ?_
                          refine go_iconst (v := (-1)) X dL_isTree_166 rfl ?_
                          refine go_icmp_ne (tgt := 199) X dL_isTree_167 rfl hv45 kI_m1 (fun c122 => ?_) (fun c122 => ?_)
                          · refine go_sub [3, 4, 5, 6, 8, 9, 1, 0] rfl ?_
                            exact hJ199_109 v35 v36 M112 hv35 hv36
                          · refine go_aload_n X dL_isTree_170 rfl 4 rfl ?_
                            refine go_iload X dL_isTree_171 0 rfl ?_
                            refine go_iaload X dL_isTree_173 tln681 tl681 hv47 (fun v123 hv123 => ?_)
                            refine go_bipush (v := 10) X dL_isTree_174 (by decide) ?_
                            refine go_irem X dL_isTree_176 hv123 kI_10 (by decide) (fun v124 hv124 => ?_)
                            refine go_if_ne (tgt := 199) X dL_isTree_177 rfl hv124 (fun c125 => ?_) (fun c125 => ?_)
                            · refine go_sub [3, 4, 5, 6, 8, 9, 1, 0] rfl ?_
                              exact hJ199_109 v35 v36 M112 hv35 hv36
                            · refine go_goto (tgt := 195) X dL_isTree_180 rfl ?_
                              refine go_sub [3, 4, 5, 6, 8, 9, 1, 0] rfl ?_
                              exact hJ195_118 v35 v36 M112 hv35 hv36
                )
                FU v5 ((-1)) 0 M8 hv5 kI_m1 kI_0
            )
            (fun J90_9 hJ90_9 => ?_)
        refine go_sub [2, 3, 4, 5, 1, 0] rfl ?_
        exact go_lp (fun (rc : Int × Mm → Rs) => ∀ (v127 : Int) (M128 : Mm), i32 v127 → Go p l e (rmX 9 221 3 18) s m args below meth c D TL 686 base 10 3 18 (FinQ D base 3 18 below args s bo) M128 71 [(0, .ref (base + 0)), (1, .ref (base + 681)), (2, .ref (base + 684)), (3, .ref (base + 685)), (4, .int (Ii v5)), (5, .int (Ii v127))] [] (rc (v127, M128)))
            (by intro v127 M128 hv127; exact go_none)
            (by
            intro rc71_129 hrc71_129 v127 M128 hv127
            unfold f_L_isTree_L71_134
            dsimp only
            refine go_iload X dL_isTree_71 5 rfl ?_
            refine go_aload_n X dL_isTree_73 rfl 2 rfl ?_
            refine go_iconst (v := 4) X dL_isTree_74 rfl ?_
            refine go_iaload X dL_isTree_75 tln684 tl684 kI_4 (fun v130 hv130 => ?_)
            refine go_icmp_ge (tgt := 90) X dL_isTree_76 rfl hv127 hv130 (fun c131 => ?_) (fun c131 => ?_)
            · refine go_sub [0, 1, 2, 3, 4] rfl ?_
              exact hJ90_9 M128
            · refine go_aload_n X dL_isTree_79 rfl 3 rfl ?_
              refine go_iload X dL_isTree_80 5 rfl ?_
              refine go_iconst (v := 0) X dL_isTree_82 rfl ?_
              refine go_iastore X dL_isTree_83 tln685 tl685 hv127 kI_0 (fun M132 => ?_)
              refine go_iinc (i := 5) (L' := fun v => [(5, .int (Ii v)), (0, .ref (base + 0)), (1, .ref (base + 681)), (2, .ref (base + 684)), (3, .ref (base + 685)), (4, .int (Ii v5))]) X dL_isTree_84 hv127 kI_1 (j := 5) rfl (by decide) (fun _ => rfl) (fun v133 hv133 => ?_)
              refine go_goto (tgt := 71) X dL_isTree_87 rfl ?_
              refine go_sub [1, 2, 3, 4, 5, 0] rfl ?_
              exact hrc71_129 v133 M132 hv133
            )
            FU 0 M6 kI_0
        )
        (fun J66_7 hJ66_7 => ?_)
    refine go_lt (fun J => ∀ (M135 : Mm), Go p l e (rmX 9 221 3 18) s m args below meth c D TL 686 base 10 3 18 (FinQ D base 3 18 below args s bo) M135 65 [(0, .ref (base + 0)), (1, .ref (base + 681)), (2, .ref (base + 684)), (3, .ref (base + 685))] [] (J M135)) (by
        intro M135
        refine go_iconst (v := 0) X dL_isTree_65 rfl ?_
        exact hJ66_7 0 M135 (Or.inl rfl)
        )
        (fun J65_136 hJ65_136 => ?_)
    refine go_if_lt (tgt := 65) X dL_isTree_40 rfl hv4 (fun c137 => ?_) (fun c137 => ?_)
    · refine go_widen 3 18 (by decide) (by decide) ?_
      exact hJ65_136 M3
    · refine go_aload_n X dL_isTree_43 rfl 0 rfl ?_
      refine go_bipush (v := 12) X dL_isTree_44 (by decide) ?_
      refine go_aload_n X dL_isTree_46 rfl 2 rfl ?_
      refine go_iconst (v := 4) X dL_isTree_47 rfl ?_
      refine go_iaload X dL_isTree_48 tln684 tl684 kI_4 (fun v138 hv138 => ?_)
      refine go_iconst (v := 0) X dL_isTree_49 rfl ?_
      refine go_iconst (v := 0) X dL_isTree_50 rfl ?_
      refine go_iconst (v := 0) X dL_isTree_51 rfl ?_
      refine go_iconst (v := 0) X dL_isTree_52 rfl ?_
      refine go_lcallH X Y (ok_L_does l hl D base b N xs hN M3 12 kI_12 v138 hv138 0 kI_0 0 kI_0 0 kI_0 0 kI_0) dL_isTree_53 lw931 lw932 lw926 lw921 cy_L_does ⟨Nat.le_of_ble_eq_true rfl, Nat.le_of_ble_eq_true rfl⟩ rfl rfl (Nat.le_of_ble_eq_true rfl) ⟨Nat.le_of_ble_eq_true rfl, Nat.le_of_ble_eq_true rfl⟩ (fun v140 M139 hv140 => ?_)
      refine go_ldc (v := (-3000000)) X dL_isTree_56 lw870 rfl ?_
      refine go_icmp_ne (tgt := 65) X dL_isTree_58 rfl hv140 kI_m3000000 (fun c141 => ?_) (fun c141 => ?_)
      · exact hJ65_136 M139
      · refine go_iconst (v := 1) X dL_isTree_61 rfl ?_
        refine go_goto (tgt := 66) X dL_isTree_62 rfl ?_
        exact hJ66_7 1 M139 (Or.inr rfl)
  · refine go_aload_n X dL_isTree_6 rfl 0 rfl ?_
    refine go_ccall X (ok_X11_cost l D base M ) dL_isTree_7 lw928 lw929 lw930 lw19 ⟨lw825, cy_X11_cost, Nat.le_of_ble_eq_true rfl, Nat.le_of_ble_eq_true rfl⟩ rfl rfl rfl rfl (Nat.le_of_ble_eq_true rfl) ⟨Nat.le_of_ble_eq_true rfl, Nat.le_of_ble_eq_true rfl⟩ (fun v143 M142 hv143 => ?_)
    refine go_iconst (v := (-1)) X dL_isTree_10 rfl ?_
    refine go_lt (fun J => ∀ (v144 : Int) (M145 : Mm), bo v144 → Go p l e (rmX 9 221 3 18) s m args below meth c D TL 686 base 10 3 18 (FinQ D base 3 18 below args s bo) M145 35 [] [.int (Ii v144)] (J v144 M145)) (by
        intro v144 M145 hv144
        exact go_qzreturn X hrt hlk dL_isTree_35 hv144 hv144 (Nat.le_of_ble_eq_true rfl) (Nat.le_of_ble_eq_true rfl)
        )
        (fun J35_146 hJ35_146 => ?_)
    refine go_lt (fun J => ∀ (M147 : Mm), Go p l e (rmX 9 221 3 18) s m args below meth c D TL 686 base 10 3 18 (FinQ D base 3 18 below args s bo) M147 34 [] [] (J M147)) (by
        intro M147
        refine go_iconst (v := 0) X dL_isTree_34 rfl ?_
        exact hJ35_146 0 M147 (Or.inl rfl)
        )
        (fun J34_148 hJ34_148 => ?_)
    refine go_icmp_ne (tgt := 34) X dL_isTree_11 rfl hv143 kI_m1 (fun c149 => ?_) (fun c149 => ?_)
    · refine go_widen 3 18 (by decide) (by decide) ?_
      refine go_sub [] rfl ?_
      exact hJ34_148 M142
    · refine go_aload_n X dL_isTree_14 rfl 0 rfl ?_
      refine go_bipush (v := 12) X dL_isTree_15 (by decide) ?_
      refine go_iconst (v := 0) X dL_isTree_17 rfl ?_
      refine go_iconst (v := 0) X dL_isTree_18 rfl ?_
      refine go_iconst (v := 0) X dL_isTree_19 rfl ?_
      refine go_iconst (v := 0) X dL_isTree_20 rfl ?_
      refine go_iconst (v := 0) X dL_isTree_21 rfl ?_
      refine go_lcallH X Y (ok_L_does l hl D base b N xs hN M142 12 kI_12 0 kI_0 0 kI_0 0 kI_0 0 kI_0 0 kI_0) dL_isTree_22 lw931 lw932 lw926 lw921 cy_L_does ⟨Nat.le_of_ble_eq_true rfl, Nat.le_of_ble_eq_true rfl⟩ rfl rfl (Nat.le_of_ble_eq_true rfl) ⟨Nat.le_of_ble_eq_true rfl, Nat.le_of_ble_eq_true rfl⟩ (fun v151 M150 hv151 => ?_)
      refine go_ldc (v := (-3000000)) X dL_isTree_25 lw870 rfl ?_
      refine go_icmp_ne (tgt := 34) X dL_isTree_27 rfl hv151 kI_m3000000 (fun c152 => ?_) (fun c152 => ?_)
      · refine go_sub [] rfl ?_
        exact hJ34_148 M150
      · refine go_iconst (v := 1) X dL_isTree_30 rfl ?_
        refine go_goto (tgt := 35) X dL_isTree_31 rfl ?_
        refine go_sub [] rfl ?_
        exact hJ35_146 1 M150 (Or.inr rfl)
def f_L_isTold (a4 : Int) (a5 : Int) (M : Mm) : Rs :=
gd (0 ≤ 4 ∧ 4 < 11) <|
Lt (M 684 4) fun v1 =>
Lt (fun (M2 : Mm) => 
Cl (f_L_does 11 a4 a5 0 0 0 M2) fun v5 M4 =>
Lt (fun (v6 : Int) (M7 : Mm) => 
some (v6, M7)) fun J88_8 =>
Lt (fun (M9 : Mm) => 
J88_8 0 M9) fun J87_10 =>
if ¬ v5 = ((-3000000)) then (
J87_10 M4) else (
Cl (f_L_does 15 a4 a5 0 0 0 M4) fun v13 M12 =>
if ¬ v13 = ((-3000000)) then (
J87_10 M12) else (
Cl (f_L_does 13 a4 a5 0 0 0 M12) fun v16 M15 =>
if ¬ v16 = ((-3000000)) then (
J87_10 M15) else (
Cl (f_L_does 14 a4 a5 0 0 0 M15) fun v19 M18 =>
if ¬ v19 = ((-3000000)) then (
J87_10 M18) else (
J88_8 1 M18))))) fun J15_3 =>
if v1 ≤ a4 then (
J15_3 M) else (
gd (0 ≤ 1 ∧ 1 < 11) <|
Lt (M 684 1) fun v22 =>
if a5 < v22 then (
Clj (f_N11_isKept a4 a5 M) M fun v25 M24 =>
Clj (f_N11_valueAnew a4 a5 M24) M24 fun v27 M26 =>
Clj (f_X11_found M26) M26 fun v29 M28 =>
gd (0 ≤ 6 ∧ 6 < 11) <|
Lt (M28 684 6) fun v30 =>
Lt (fun (v31 : Int) (M32 : Mm) => 
Lt (fun (v34 : Int) (M35 : Mm) => 
Lt (fun (v37 : Int) (M38 : Mm) => 
Clj (f_X11_found M38) M38 fun v41 M40 =>
gd (0 ≤ 6 ∧ 6 < 11) <|
Lt (up M40 684 6 v41) fun M42 =>
Lt (fun (v43 : Int) (M44 : Mm) => 
Lt (fun (v46 : Int) (M47 : Mm) => 
some (v46, M47)) fun J322_48 =>
Lt (fun (M49 : Mm) => 
J322_48 0 M49) fun J321_50 =>
if v37 = 0 then (
J321_50 M44) else (
if v43 = 0 then (
J321_50 M44) else (
Clj (f_N11_value a4 a5 M44) M44 fun v54 M53 =>
if ¬ v54 = v27 then (
J321_50 M53) else (
Clj (f_X11_found M53) M53 fun v57 M56 =>
gd (0 ≤ 6 ∧ 6 < 11) <|
Lt (M56 684 6) fun v58 =>
if ¬ v57 = v58 then (
J321_50 M56) else (
gd (0 ≤ a5 ∧ a5 < 6) <|
Lt (M56 683 a5.toNat) fun v60 =>
Lt (fun (M61 : Mm) => 
J322_48 1 M61) fun J317_62 =>
if ¬ v60 = 3 then (
J317_62 M56) else (
if 1000 ≤ v27 then (
J321_50 M56) else (
J317_62 M56))))))) fun J266_45 =>
Lt (fun (M65 : Mm) => 
J266_45 0 M65) fun J265_66 =>
if v27 < ((-3)) then (
J265_66 M42) else (
gd (0 ≤ 4 ∧ 4 < 11) <|
Lt (M42 684 4) fun v68 =>
Lt (wr (1000 + v68)) fun v69 =>
if v69 ≤ v27 then (
J265_66 M42) else (
J266_45 1 M42))) fun J232_39 =>
Lt (fun (M71 : Mm) => 
J232_39 0 M71) fun J231_72 =>
if v34 = 0 then (
J231_72 M35) else (
Lt (fun (M74 : Mm) => 
J232_39 1 M74) fun J227_75 =>
Lt (fun (M76 : Mm) => 
Clj (f_X11_found M76) M76 fun v79 M78 =>
gd (0 ≤ 6 ∧ 6 < 11) <|
Lt (M78 684 6) fun v80 =>
if ¬ v79 = v80 then (
J231_72 M78) else (
J227_75 M78)) fun J202_77 =>
if ¬ v25 = 0 then (
J202_77 M35) else (
gd (0 ≤ a5 ∧ a5 < 6) <|
Lt (M35 683 a5.toNat) fun v83 =>
if ¬ v83 = 3 then (
Clj (f_X11_found M35) M35 fun v86 M85 =>
gd (0 ≤ 6 ∧ 6 < 11) <|
Lt (M85 684 6) fun v87 =>
if v86 ≤ v87 then (
J231_72 M85) else (
J227_75 M85)) else (
J202_77 M35)))) fun J182_36 =>
Lt (fun (M89 : Mm) => 
J182_36 0 M89) fun J181_90 =>
if v31 = 0 then (
J181_90 M32) else (
Clj (f_N11_value a4 a5 M32) M32 fun v93 M92 =>
if ¬ v93 = v27 then (
J181_90 M92) else (
Clj (f_N11_isKept a4 a5 M92) M92 fun v96 M95 =>
gd (0 ≤ a5 ∧ a5 < 6) <|
Lt (M95 683 a5.toNat) fun v97 =>
Lt (fun (v98 : Int) (M99 : Mm) => 
if ¬ v96 = v98 then (
J181_90 M99) else (
J182_36 1 M99)) fun J174_100 =>
if 3 ≤ v97 then (
J174_100 0 M95) else (
J174_100 1 M95)))) fun J135_33 =>
Lt (fun (M103 : Mm) => 
J135_33 0 M103) fun J134_104 =>
if ¬ v29 = v30 then (
J134_104 M28) else (
Clj (f_N11_isKept a4 a5 M28) M28 fun v107 M106 =>
if ¬ v107 = v25 then (
J134_104 M106) else (
J135_33 1 M106))) else (
J15_3 M))
theorem cy_L_isTold : yL_isTold.cls ≠ "java/lang/invoke/MethodHandle" ∧ yL_isTold.cls ≠ "java/lang/invoke/VarHandle" ∧ (parseMethodDescriptor yL_isTold.desc).map (fun d => d.parameters.length) = some 5 := ⟨by decide +kernel, by decide +kernel, by decide +kernel⟩
set_option maxRecDepth 20000 in
theorem ok_L_isTold (l : Launch) (hl : l.stackTraces = false) (D : Dd) (base b N : Nat) (xs : Nat → Int32) (hN : N ≤ 260) (M : Mm) (a4 : Int) (ha4 : i32 a4) (a5 : Int) (ha5 : i32 a5) : OkQ l D base b N xs yL_isTold (.code yL_isTold cL_isTold 9 (some .boolean)) 9 221 12 72 [.ref (base + 0), .ref (base + 683), .ref (base + 684), .int (Ii a4), .int (Ii a5)] M bo (f_L_isTold a4 a5 M) := by
  refine metQ (by decide +kernel) [(0, .ref (base + 0)), (1, .ref (base + 683)), (2, .ref (base + 684)), (3, .int (Ii a4)), (4, .int (Ii a5))] rfl (Nat.le_of_ble_eq_true rfl) (fun p e s m args below meth c X Y hrt hlk => ?_)
  have X : Cx p s m args c cL_isTold D 9 RL := X
  unfold f_L_isTold
  refine go_iload_n X dL_isTold_0 rfl 3 rfl ?_
  refine go_aload_n X dL_isTold_1 rfl 2 rfl ?_
  refine go_iconst (v := 4) X dL_isTold_2 rfl ?_
  refine go_iaload X dL_isTold_3 tln684 tl684 kI_4 (fun v1 hv1 => ?_)
  refine go_lt (fun J => ∀ (M2 : Mm), Go p l e (rmX 9 221 12 72) s m args below meth c D TL 686 base 9 0 0 (FinQ D base 12 72 below args s bo) M2 15 [(0, .ref (base + 0)), (3, .int (Ii a4)), (4, .int (Ii a5))] [] (J M2)) (by
      intro M2
      refine go_aload_n X dL_isTold_15 rfl 0 rfl ?_
      refine go_bipush (v := 11) X dL_isTold_16 (by decide) ?_
      refine go_iload_n X dL_isTold_18 rfl 1 rfl ?_
      refine go_iload X dL_isTold_19 2 rfl ?_
      refine go_iconst (v := 0) X dL_isTold_21 rfl ?_
      refine go_iconst (v := 0) X dL_isTold_22 rfl ?_
      refine go_iconst (v := 0) X dL_isTold_23 rfl ?_
      refine go_lcallH X Y (ok_L_does l hl D base b N xs hN M2 11 kI_11 a4 ha4 a5 ha5 0 kI_0 0 kI_0 0 kI_0) dL_isTold_24 lw931 lw932 lw926 lw921 cy_L_does ⟨Nat.le_of_ble_eq_true rfl, Nat.le_of_ble_eq_true rfl⟩ rfl rfl (Nat.le_of_ble_eq_true rfl) ⟨Nat.le_of_ble_eq_true rfl, Nat.le_of_ble_eq_true rfl⟩ (fun v5 M4 hv5 => ?_)
      refine go_ldc (v := (-3000000)) X dL_isTold_27 lw870 rfl ?_
      refine go_lt (fun J => ∀ (v6 : Int) (M7 : Mm), bo v6 → Go p l e (rmX 9 221 12 72) s m args below meth c D TL 686 base 9 12 72 (FinQ D base 12 72 below args s bo) M7 88 [] [.int (Ii v6)] (J v6 M7)) (by
          intro v6 M7 hv6
          exact go_qzreturn X hrt hlk dL_isTold_88 hv6 hv6 (Nat.le_of_ble_eq_true rfl) (Nat.le_of_ble_eq_true rfl)
          )
          (fun J88_8 hJ88_8 => ?_)
      refine go_lt (fun J => ∀ (M9 : Mm), Go p l e (rmX 9 221 12 72) s m args below meth c D TL 686 base 9 12 72 (FinQ D base 12 72 below args s bo) M9 87 [] [] (J M9)) (by
          intro M9
          refine go_iconst (v := 0) X dL_isTold_87 rfl ?_
          exact hJ88_8 0 M9 (Or.inl rfl)
          )
          (fun J87_10 hJ87_10 => ?_)
      refine go_icmp_ne (tgt := 87) X dL_isTold_29 rfl hv5 kI_m3000000 (fun c11 => ?_) (fun c11 => ?_)
      · refine go_widen 12 72 (by decide) (by decide) ?_
        refine go_sub [] rfl ?_
        exact hJ87_10 M4
      · refine go_aload_n X dL_isTold_32 rfl 0 rfl ?_
        refine go_bipush (v := 15) X dL_isTold_33 (by decide) ?_
        refine go_iload_n X dL_isTold_35 rfl 1 rfl ?_
        refine go_iload X dL_isTold_36 2 rfl ?_
        refine go_iconst (v := 0) X dL_isTold_38 rfl ?_
        refine go_iconst (v := 0) X dL_isTold_39 rfl ?_
        refine go_iconst (v := 0) X dL_isTold_40 rfl ?_
        refine go_lcallH X Y (ok_L_does l hl D base b N xs hN M4 15 kI_15 a4 ha4 a5 ha5 0 kI_0 0 kI_0 0 kI_0) dL_isTold_41 lw931 lw932 lw926 lw921 cy_L_does ⟨Nat.le_of_ble_eq_true rfl, Nat.le_of_ble_eq_true rfl⟩ rfl rfl (Nat.le_of_ble_eq_true rfl) ⟨Nat.le_of_ble_eq_true rfl, Nat.le_of_ble_eq_true rfl⟩ (fun v13 M12 hv13 => ?_)
        refine go_ldc (v := (-3000000)) X dL_isTold_44 lw870 rfl ?_
        refine go_icmp_ne (tgt := 87) X dL_isTold_46 rfl hv13 kI_m3000000 (fun c14 => ?_) (fun c14 => ?_)
        · refine go_widen 12 72 (by decide) (by decide) ?_
          refine go_sub [] rfl ?_
          exact hJ87_10 M12
        · refine go_aload_n X dL_isTold_49 rfl 0 rfl ?_
          refine go_bipush (v := 13) X dL_isTold_50 (by decide) ?_
          refine go_iload_n X dL_isTold_52 rfl 1 rfl ?_
          refine go_iload X dL_isTold_53 2 rfl ?_
          refine go_iconst (v := 0) X dL_isTold_55 rfl ?_
          refine go_iconst (v := 0) X dL_isTold_56 rfl ?_
          refine go_iconst (v := 0) X dL_isTold_57 rfl ?_
          refine go_lcallH X Y (ok_L_does l hl D base b N xs hN M12 13 kI_13 a4 ha4 a5 ha5 0 kI_0 0 kI_0 0 kI_0) dL_isTold_58 lw931 lw932 lw926 lw921 cy_L_does ⟨Nat.le_of_ble_eq_true rfl, Nat.le_of_ble_eq_true rfl⟩ rfl rfl (Nat.le_of_ble_eq_true rfl) ⟨Nat.le_of_ble_eq_true rfl, Nat.le_of_ble_eq_true rfl⟩ (fun v16 M15 hv16 => ?_)
          refine go_ldc (v := (-3000000)) X dL_isTold_61 lw870 rfl ?_
          refine go_icmp_ne (tgt := 87) X dL_isTold_63 rfl hv16 kI_m3000000 (fun c17 => ?_) (fun c17 => ?_)
          · refine go_widen 12 72 (by decide) (by decide) ?_
            refine go_sub [] rfl ?_
            exact hJ87_10 M15
          · refine go_aload_n X dL_isTold_66 rfl 0 rfl ?_
            refine go_bipush (v := 14) X dL_isTold_67 (by decide) ?_
            refine go_iload_n X dL_isTold_69 rfl 1 rfl ?_
            refine go_iload X dL_isTold_70 2 rfl ?_
            refine go_iconst (v := 0) X dL_isTold_72 rfl ?_
            refine go_iconst (v := 0) X dL_isTold_73 rfl ?_
            refine go_iconst (v := 0) X dL_isTold_74 rfl ?_
            refine go_lcallH X Y (ok_L_does l hl D base b N xs hN M15 14 kI_14 a4 ha4 a5 ha5 0 kI_0 0 kI_0 0 kI_0) dL_isTold_75 lw931 lw932 lw926 lw921 cy_L_does ⟨Nat.le_of_ble_eq_true rfl, Nat.le_of_ble_eq_true rfl⟩ rfl rfl (Nat.le_of_ble_eq_true rfl) ⟨Nat.le_of_ble_eq_true rfl, Nat.le_of_ble_eq_true rfl⟩ (fun v19 M18 hv19 => ?_)
            refine go_ldc (v := (-3000000)) X dL_isTold_78 lw870 rfl ?_
            refine go_icmp_ne (tgt := 87) X dL_isTold_80 rfl hv19 kI_m3000000 (fun c20 => ?_) (fun c20 => ?_)
            · refine go_sub [] rfl ?_
              exact hJ87_10 M18
            · refine go_iconst (v := 1) X dL_isTold_83 rfl ?_
              refine go_goto (tgt := 88) X dL_isTold_84 rfl ?_
              refine go_sub [] rfl ?_
              exact hJ88_8 1 M18 (Or.inr rfl)
      )
      (fun J15_3 hJ15_3 => ?_)
  refine go_icmp_ge (tgt := 15) X dL_isTold_4 rfl ha4 hv1 (fun c21 => ?_) (fun c21 => ?_)
  · refine go_sub [0, 3, 4] rfl ?_
    exact hJ15_3 M
  · refine go_iload X dL_isTold_7 4 rfl ?_
    refine go_aload_n X dL_isTold_9 rfl 2 rfl ?_
    refine go_iconst (v := 1) X dL_isTold_10 rfl ?_
    refine go_iaload X dL_isTold_11 tln684 tl684 kI_1 (fun v22 hv22 => ?_)
    refine go_icmp_lt (tgt := 89) X dL_isTold_12 rfl ha5 hv22 (fun c23 => ?_) (fun c23 => ?_)
    · refine go_aload_n X dL_isTold_89 rfl 0 rfl ?_
      refine go_iload_n X dL_isTold_90 rfl 3 rfl ?_
      refine go_iload X dL_isTold_91 4 rfl ?_
      refine go_ccall X (ok_N11_isKept l D base M a4 ha4 a5 ha5) dL_isTold_93 lw915 lw916 lw917 lw19 ⟨lw857, cy_X11_isKept, Nat.le_of_ble_eq_true rfl, Nat.le_of_ble_eq_true rfl⟩ rfl rfl rfl rfl (Nat.le_of_ble_eq_true rfl) ⟨Nat.le_of_ble_eq_true rfl, Nat.le_of_ble_eq_true rfl⟩ (fun v25 M24 hv25 => ?_)
      refine go_istore (i := 5) (L' := [(5, .int (Ii v25)), (0, .ref (base + 0)), (1, .ref (base + 683)), (2, .ref (base + 684)), (3, .int (Ii a4)), (4, .int (Ii a5))]) X dL_isTold_96 (by decide) rfl ?_
      refine go_aload_n X dL_isTold_98 rfl 1 rfl ?_
      refine go_iload_n X dL_isTold_99 rfl 4 rfl ?_
      refine go_iload X dL_isTold_100 5 rfl ?_
      refine go_ccall X (ok_N11_valueAnew l D base M24 a4 ha4 a5 ha5) dL_isTold_102 lw918 lw919 lw920 lw19 ⟨lw853, cy_X11_valueAnew, Nat.le_of_ble_eq_true rfl, Nat.le_of_ble_eq_true rfl⟩ rfl rfl rfl rfl (Nat.le_of_ble_eq_true rfl) ⟨Nat.le_of_ble_eq_true rfl, Nat.le_of_ble_eq_true rfl⟩ (fun v27 M26 hv27 => ?_)
      refine go_istore (i := 6) (L' := [(6, .int (Ii v27)), (5, .int (Ii v25)), (0, .ref (base + 0)), (1, .ref (base + 683)), (2, .ref (base + 684)), (3, .int (Ii a4)), (4, .int (Ii a5))]) X dL_isTold_105 (by decide) rfl ?_
      refine go_aload_n X dL_isTold_107 rfl 2 rfl ?_
      refine go_ccall X (ok_X11_found l D base M26 ) dL_isTold_108 lw938 lw939 lw940 lw19 ⟨lw854, cy_X11_found, Nat.le_of_ble_eq_true rfl, Nat.le_of_ble_eq_true rfl⟩ rfl rfl rfl rfl (Nat.le_of_ble_eq_true rfl) ⟨Nat.le_of_ble_eq_true rfl, Nat.le_of_ble_eq_true rfl⟩ (fun v29 M28 hv29 => ?_)
      refine go_aload_n X dL_isTold_111 rfl 4 rfl ?_
      refine go_bipush (v := 6) X dL_isTold_112 (by decide) ?_
      refine go_iaload X dL_isTold_114 tln684 tl684 kI_6 (fun v30 hv30 => ?_)
      refine go_lt (fun J => ∀ (v31 : Int) (M32 : Mm), bo v31 → Go p l e (rmX 9 221 12 72) s m args below meth c D TL 686 base 9 0 0 (FinQ D base 12 72 below args s bo) M32 135 [(0, .ref (base + 0)), (1, .ref (base + 683)), (2, .ref (base + 684)), (3, .int (Ii a4)), (4, .int (Ii a5)), (5, .int (Ii v25)), (6, .int (Ii v27))] [.int (Ii v31)] (J v31 M32)) (by
          intro v31 M32 hv31
          refine go_istore (i := 7) (L' := [(7, .int (Ii v31)), (0, .ref (base + 0)), (1, .ref (base + 683)), (2, .ref (base + 684)), (3, .int (Ii a4)), (4, .int (Ii a5)), (5, .int (Ii v25)), (6, .int (Ii v27))]) X dL_isTold_135 (by decide) rfl ?_
          refine go_iload X dL_isTold_137 0 rfl ?_
          refine go_lt (fun J => ∀ (v34 : Int) (M35 : Mm), bo v34 → Go p l e (rmX 9 221 12 72) s m args below meth c D TL 686 base 9 0 0 (FinQ D base 12 72 below args s bo) M35 182 [(0, .ref (base + 0)), (1, .ref (base + 683)), (2, .ref (base + 684)), (3, .int (Ii a4)), (4, .int (Ii a5)), (5, .int (Ii v25)), (6, .int (Ii v27))] [.int (Ii v34)] (J v34 M35)) (by
              intro v34 M35 hv34
              refine go_istore (i := 7) (L' := [(7, .int (Ii v34)), (0, .ref (base + 0)), (1, .ref (base + 683)), (2, .ref (base + 684)), (3, .int (Ii a4)), (4, .int (Ii a5)), (5, .int (Ii v25)), (6, .int (Ii v27))]) X dL_isTold_182 (by decide) rfl ?_
              refine go_iload X dL_isTold_184 0 rfl ?_
              refine go_lt (fun J => ∀ (v37 : Int) (M38 : Mm), bo v37 → Go p l e (rmX 9 221 12 72) s m args below meth c D TL 686 base 9 0 0 (FinQ D base 12 72 below args s bo) M38 232 [(0, .ref (base + 0)), (1, .ref (base + 683)), (2, .ref (base + 684)), (3, .int (Ii a4)), (4, .int (Ii a5)), (6, .int (Ii v27))] [.int (Ii v37)] (J v37 M38)) (by
                  intro v37 M38 hv37
                  refine go_istore (i := 7) (L' := [(7, .int (Ii v37)), (0, .ref (base + 0)), (1, .ref (base + 683)), (2, .ref (base + 684)), (3, .int (Ii a4)), (4, .int (Ii a5)), (6, .int (Ii v27))]) X dL_isTold_232 (by decide) rfl ?_
                  refine go_aload_n X dL_isTold_234 rfl 3 rfl ?_
                  refine go_bipush (v := 6) X dL_isTold_235 (by decide) ?_
                  refine go_aload_n X dL_isTold_237 rfl 1 rfl ?_
                  refine go_ccall X (ok_X11_found l D base M38 ) dL_isTold_238 lw938 lw939 lw940 lw19 ⟨lw854, cy_X11_found, Nat.le_of_ble_eq_true rfl, Nat.le_of_ble_eq_true rfl⟩ rfl rfl rfl rfl (Nat.le_of_ble_eq_true rfl) ⟨Nat.le_of_ble_eq_true rfl, Nat.le_of_ble_eq_true rfl⟩ (fun v41 M40 hv41 => ?_)
                  refine go_iastore X dL_isTold_241 tln684 tl684 kI_6 hv41 (fun M42 => ?_)
                  refine go_iload X dL_isTold_242 6 rfl ?_
                  refine go_bipush (v := (-3)) X dL_isTold_244 (by decide) ?_
                  refine go_lt (fun J => ∀ (v43 : Int) (M44 : Mm), bo v43 → Go p l e (rmX 9 221 12 72) s m args below meth c D TL 686 base 9 0 0 (FinQ D base 12 72 below args s bo) M44 266 [(0, .ref (base + 0)), (1, .ref (base + 683)), (2, .ref (base + 684)), (3, .int (Ii a4)), (4, .int (Ii a5)), (6, .int (Ii v27)), (7, .int (Ii v37))] [.int (Ii v43)] (J v43 M44)) (by
                      intro v43 M44 hv43
                      refine go_istore (i := 8) (L' := [(8, .int (Ii v43)), (0, .ref (base + 0)), (1, .ref (base + 683)), (2, .ref (base + 684)), (3, .int (Ii a4)), (4, .int (Ii a5)), (6, .int (Ii v27)), (7, .int (Ii v37))]) X dL_isTold_266 (by decide) rfl ?_
                      refine go_iload X dL_isTold_268 7 rfl ?_
                      refine go_lt (fun J => ∀ (v46 : Int) (M47 : Mm), bo v46 → Go p l e (rmX 9 221 12 72) s m args below meth c D TL 686 base 9 0 0 (FinQ D base 12 72 below args s bo) M47 322 [] [.int (Ii v46)] (J v46 M47)) (by
                          intro v46 M47 hv46
                          exact go_qzreturn X hrt hlk dL_isTold_322 hv46 hv46 (Nat.le_of_ble_eq_true rfl) (Nat.le_of_ble_eq_true rfl)
                          )
                          (fun J322_48 hJ322_48 => ?_)
                      refine go_lt (fun J => ∀ (M49 : Mm), Go p l e (rmX 9 221 12 72) s m args below meth c D TL 686 base 9 0 0 (FinQ D base 12 72 below args s bo) M49 321 [] [] (J M49)) (by
                          intro M49
                          refine go_iconst (v := 0) X dL_isTold_321 rfl ?_
                          exact hJ322_48 0 M49 (Or.inl rfl)
                          )
                          (fun J321_50 hJ321_50 => ?_)
                      refine go_if_eq (tgt := 321) X dL_isTold_270 rfl (bo_i32 hv37) (fun c51 => ?_) (fun c51 => ?_)
                      · refine go_sub [] rfl ?_
                        exact hJ321_50 M44
                      · refine go_iload X dL_isTold_273 0 rfl ?_
                        refine go_if_eq (tgt := 321) X dL_isTold_275 rfl (bo_i32 hv43) (fun c52 => ?_) (fun c52 => ?_)
                        · refine go_sub [] rfl ?_
                          exact hJ321_50 M44
                        · refine go_aload_n X dL_isTold_278 rfl 1 rfl ?_
                          refine go_iload_n X dL_isTold_279 rfl 4 rfl ?_
                          refine go_iload X dL_isTold_280 5 rfl ?_
                          refine go_ccall X (ok_N11_value l D base M44 a4 ha4 a5 ha5) dL_isTold_282 lw906 lw907 lw908 lw19 ⟨lw852, cy_X11_value, Nat.le_of_ble_eq_true rfl, Nat.le_of_ble_eq_true rfl⟩ rfl rfl rfl rfl (Nat.le_of_ble_eq_true rfl) ⟨Nat.le_of_ble_eq_true rfl, Nat.le_of_ble_eq_true rfl⟩ (fun v54 M53 hv54 => ?_)
                          refine go_iload X dL_isTold_285 6 rfl ?_
                          refine go_icmp_ne (tgt := 321) X dL_isTold_287 rfl hv54 hv27 (fun c55 => ?_) (fun c55 => ?_)
                          · refine go_sub [] rfl ?_
                            exact hJ321_50 M53
                          · refine go_aload_n X dL_isTold_290 rfl 1 rfl ?_
                            refine go_ccall X (ok_X11_found l D base M53 ) dL_isTold_291 lw938 lw939 lw940 lw19 ⟨lw854, cy_X11_found, Nat.le_of_ble_eq_true rfl, Nat.le_of_ble_eq_true rfl⟩ rfl rfl rfl rfl (Nat.le_of_ble_eq_true rfl) ⟨Nat.le_of_ble_eq_true rfl, Nat.le_of_ble_eq_true rfl⟩ (fun v57 M56 hv57 => ?_)
                            refine go_aload_n X dL_isTold_294 rfl 3 rfl ?_
                            refine go_bipush (v := 6) X dL_isTold_295 (by decide) ?_
                            refine go_iaload X dL_isTold_297 tln684 tl684 kI_6 (fun v58 hv58 => ?_)
                            refine go_icmp_ne (tgt := 321) X dL_isTold_298 rfl hv57 hv58 (fun c59 => ?_) (fun c59 => ?_)
                            · refine go_sub [] rfl ?_
                              exact hJ321_50 M56
                            · refine go_aload_n X dL_isTold_301 rfl 2 rfl ?_
                              refine go_iload X dL_isTold_302 5 rfl ?_
                              refine go_iaload X dL_isTold_304 tln683 tl683 ha5 (fun v60 hv60 => ?_)
                              refine go_iconst (v := 3) X dL_isTold_305 rfl ?_
                              refine go_lt (fun J => ∀ (M61 : Mm), Go p l e (rmX 9 221 12 72) s m args below meth c D TL 686 base 9 0 0 (FinQ D base 12 72 below args s bo) M61 317 [] [] (J M61)) (by
                                  intro M61
                                  refine go_iconst (v := 1) X dL_isTold_317 rfl ?_
                                  refine go_goto (tgt := 322) X dL_isTold_318 rfl ?_
                                  exact hJ322_48 1 M61 (Or.inr rfl)
                                  )
                                  (fun J317_62 hJ317_62 => ?_)
                              refine go_icmp_ne (tgt := 317) X dL_isTold_306 rfl hv60 kI_3 (fun c63 => ?_) (fun c63 => ?_)
                              · refine go_sub [] rfl ?_
                                exact hJ317_62 M56
                              · refine go_iload X dL_isTold_309 6 rfl ?_
                                refine go_sipush (v := 1000) X dL_isTold_311 (by decide) ?_
                                refine go_icmp_ge (tgt := 321) X dL_isTold_314 rfl hv27 kI_1000 (fun c64 => ?_) (fun c64 => ?_)
                                · refine go_sub [] rfl ?_
                                  exact hJ321_50 M56
                                · refine go_sub [] rfl ?_
                                  exact hJ317_62 M56
                      )
                      (fun J266_45 hJ266_45 => ?_)
                  refine go_lt (fun J => ∀ (M65 : Mm), Go p l e (rmX 9 221 12 72) s m args below meth c D TL 686 base 9 0 0 (FinQ D base 12 72 below args s bo) M65 265 [(0, .ref (base + 0)), (1, .ref (base + 683)), (2, .ref (base + 684)), (3, .int (Ii a4)), (4, .int (Ii a5)), (6, .int (Ii v27)), (7, .int (Ii v37))] [] (J M65)) (by
                      intro M65
                      refine go_iconst (v := 0) X dL_isTold_265 rfl ?_
                      exact hJ266_45 0 M65 (Or.inl rfl)
                      )
                      (fun J265_66 hJ265_66 => ?_)
                  refine go_icmp_lt (tgt := 265) X dL_isTold_246 rfl hv27 kI_m3 (fun c67 => ?_) (fun c67 => ?_)
                  · refine go_sub [1, 2, 3, 4, 5, 6, 0] rfl ?_
                    exact hJ265_66 M42
                  · refine go_iload X dL_isTold_249 6 rfl ?_
                    refine go_sipush (v := 1000) X dL_isTold_251 (by decide) ?_
                    refine go_aload_n X dL_isTold_254 rfl 3 rfl ?_
                    refine go_iconst (v := 4) X dL_isTold_255 rfl ?_
                    refine go_iaload X dL_isTold_256 tln684 tl684 kI_4 (fun v68 hv68 => ?_)
                    refine go_iadd X dL_isTold_257 kI_1000 hv68 (fun v69 hv69 => ?_)
                    refine go_icmp_ge (tgt := 265) X dL_isTold_258 rfl hv27 hv69 (fun c70 => ?_) (fun c70 => ?_)
                    · refine go_sub [1, 2, 3, 4, 5, 6, 0] rfl ?_
                      exact hJ265_66 M42
                    · refine go_iconst (v := 1) X dL_isTold_261 rfl ?_
                      refine go_goto (tgt := 266) X dL_isTold_262 rfl ?_
                      refine go_sub [1, 2, 3, 4, 5, 6, 0] rfl ?_
                      exact hJ266_45 1 M42 (Or.inr rfl)
                  )
                  (fun J232_39 hJ232_39 => ?_)
              refine go_lt (fun J => ∀ (M71 : Mm), Go p l e (rmX 9 221 12 72) s m args below meth c D TL 686 base 9 0 0 (FinQ D base 12 72 below args s bo) M71 231 [(0, .ref (base + 0)), (1, .ref (base + 683)), (2, .ref (base + 684)), (3, .int (Ii a4)), (4, .int (Ii a5)), (6, .int (Ii v27))] [] (J M71)) (by
                  intro M71
                  refine go_iconst (v := 0) X dL_isTold_231 rfl ?_
                  exact hJ232_39 0 M71 (Or.inl rfl)
                  )
                  (fun J231_72 hJ231_72 => ?_)
              refine go_if_eq (tgt := 231) X dL_isTold_186 rfl (bo_i32 hv34) (fun c73 => ?_) (fun c73 => ?_)
              · refine go_sub [1, 2, 3, 4, 5, 7] rfl ?_
                exact hJ231_72 M35
              · refine go_iload X dL_isTold_189 6 rfl ?_
                refine go_lt (fun J => ∀ (M74 : Mm), Go p l e (rmX 9 221 12 72) s m args below meth c D TL 686 base 9 0 0 (FinQ D base 12 72 below args s bo) M74 227 [(0, .ref (base + 0)), (1, .ref (base + 683)), (2, .ref (base + 684)), (3, .int (Ii a4)), (4, .int (Ii a5)), (6, .int (Ii v27))] [] (J M74)) (by
                    intro M74
                    refine go_iconst (v := 1) X dL_isTold_227 rfl ?_
                    refine go_goto (tgt := 232) X dL_isTold_228 rfl ?_
                    exact hJ232_39 1 M74 (Or.inr rfl)
                    )
                    (fun J227_75 hJ227_75 => ?_)
                refine go_lt (fun J => ∀ (M76 : Mm), Go p l e (rmX 9 221 12 72) s m args below meth c D TL 686 base 9 0 0 (FinQ D base 12 72 below args s bo) M76 202 [(0, .ref (base + 0)), (1, .ref (base + 683)), (2, .ref (base + 684)), (3, .int (Ii a4)), (4, .int (Ii a5)), (6, .int (Ii v27))] [] (J M76)) (by
                    intro M76
                    refine go_aload_n X dL_isTold_202 rfl 0 rfl ?_
                    refine go_ccall X (ok_X11_found l D base M76 ) dL_isTold_203 lw938 lw939 lw940 lw19 ⟨lw854, cy_X11_found, Nat.le_of_ble_eq_true rfl, Nat.le_of_ble_eq_true rfl⟩ rfl rfl rfl rfl (Nat.le_of_ble_eq_true rfl) ⟨Nat.le_of_ble_eq_true rfl, Nat.le_of_ble_eq_true rfl⟩ (fun v79 M78 hv79 => ?_)
                    refine go_aload_n X dL_isTold_206 rfl 2 rfl ?_
                    refine go_bipush (v := 6) X dL_isTold_207 (by decide) ?_
                    refine go_iaload X dL_isTold_209 tln684 tl684 kI_6 (fun v80 hv80 => ?_)
                    refine go_icmp_ne (tgt := 231) X dL_isTold_210 rfl hv79 hv80 (fun c81 => ?_) (fun c81 => ?_)
                    · exact hJ231_72 M78
                    · refine go_goto (tgt := 227) X dL_isTold_213 rfl ?_
                      exact hJ227_75 M78
                    )
                    (fun J202_77 hJ202_77 => ?_)
                refine go_if_ne (tgt := 202) X dL_isTold_191 rfl (bo_i32 hv25) (fun c82 => ?_) (fun c82 => ?_)
                · refine go_sub [1, 2, 3, 4, 5, 7] rfl ?_
                  exact hJ202_77 M35
                · refine go_aload_n X dL_isTold_194 rfl 2 rfl ?_
                  refine go_iload X dL_isTold_195 5 rfl ?_
                  refine go_iaload X dL_isTold_197 tln683 tl683 ha5 (fun v83 hv83 => ?_)
                  refine go_iconst (v := 3) X dL_isTold_198 rfl ?_
                  refine go_icmp_ne (tgt := 216) X dL_isTold_199 rfl hv83 kI_3 (fun c84 => ?_) (fun c84 => ?_)
                  · refine go_aload_n X dL_isTold_216 rfl 1 rfl ?_
                    refine go_ccall X (ok_X11_found l D base M35 ) dL_isTold_217 lw938 lw939 lw940 lw19 ⟨lw854, cy_X11_found, Nat.le_of_ble_eq_true rfl, Nat.le_of_ble_eq_true rfl⟩ rfl rfl rfl rfl (Nat.le_of_ble_eq_true rfl) ⟨Nat.le_of_ble_eq_true rfl, Nat.le_of_ble_eq_true rfl⟩ (fun v86 M85 hv86 => ?_)
                    refine go_aload_n X dL_isTold_220 rfl 3 rfl ?_
                    refine go_bipush (v := 6) X dL_isTold_221 (by decide) ?_
                    refine go_iaload X dL_isTold_223 tln684 tl684 kI_6 (fun v87 hv87 => ?_)
                    refine go_icmp_le (tgt := 231) X dL_isTold_224 rfl hv86 hv87 (fun c88 => ?_) (fun c88 => ?_)
                    · refine go_sub [1, 2, 3, 4, 5, 7] rfl ?_
                      exact hJ231_72 M85
                    · refine go_sub [1, 2, 3, 4, 5, 7] rfl ?_
                      exact hJ227_75 M85
                  · refine go_sub [1, 2, 3, 4, 5, 7] rfl ?_
                    exact hJ202_77 M35
              )
              (fun J182_36 hJ182_36 => ?_)
          refine go_lt (fun J => ∀ (M89 : Mm), Go p l e (rmX 9 221 12 72) s m args below meth c D TL 686 base 9 0 0 (FinQ D base 12 72 below args s bo) M89 181 [(0, .ref (base + 0)), (1, .ref (base + 683)), (2, .ref (base + 684)), (3, .int (Ii a4)), (4, .int (Ii a5)), (5, .int (Ii v25)), (6, .int (Ii v27))] [] (J M89)) (by
              intro M89
              refine go_iconst (v := 0) X dL_isTold_181 rfl ?_
              exact hJ182_36 0 M89 (Or.inl rfl)
              )
              (fun J181_90 hJ181_90 => ?_)
          refine go_if_eq (tgt := 181) X dL_isTold_139 rfl (bo_i32 hv31) (fun c91 => ?_) (fun c91 => ?_)
          · refine go_sub [1, 2, 3, 4, 5, 6, 7] rfl ?_
            exact hJ181_90 M32
          · refine go_aload_n X dL_isTold_142 rfl 1 rfl ?_
            refine go_iload_n X dL_isTold_143 rfl 4 rfl ?_
            refine go_iload X dL_isTold_144 5 rfl ?_
            refine go_ccall X (ok_N11_value l D base M32 a4 ha4 a5 ha5) dL_isTold_146 lw906 lw907 lw908 lw19 ⟨lw852, cy_X11_value, Nat.le_of_ble_eq_true rfl, Nat.le_of_ble_eq_true rfl⟩ rfl rfl rfl rfl (Nat.le_of_ble_eq_true rfl) ⟨Nat.le_of_ble_eq_true rfl, Nat.le_of_ble_eq_true rfl⟩ (fun v93 M92 hv93 => ?_)
            refine go_iload X dL_isTold_149 7 rfl ?_
            refine go_icmp_ne (tgt := 181) X dL_isTold_151 rfl hv93 hv27 (fun c94 => ?_) (fun c94 => ?_)
            · refine go_sub [1, 2, 3, 4, 5, 6, 7] rfl ?_
              exact hJ181_90 M92
            · refine go_aload_n X dL_isTold_154 rfl 1 rfl ?_
              refine go_iload_n X dL_isTold_155 rfl 4 rfl ?_
              refine go_iload X dL_isTold_156 5 rfl ?_
              refine go_ccall X (ok_N11_isKept l D base M92 a4 ha4 a5 ha5) dL_isTold_158 lw915 lw916 lw917 lw19 ⟨lw857, cy_X11_isKept, Nat.le_of_ble_eq_true rfl, Nat.le_of_ble_eq_true rfl⟩ rfl rfl rfl rfl (Nat.le_of_ble_eq_true rfl) ⟨Nat.le_of_ble_eq_true rfl, Nat.le_of_ble_eq_true rfl⟩ (fun v96 M95 hv96 => ?_)
              refine go_aload_n X dL_isTold_161 rfl 2 rfl ?_
              refine go_iload X dL_isTold_162 5 rfl ?_
              refine go_iaload X dL_isTold_164 tln683 tl683 ha5 (fun v97 hv97 => ?_)
              refine go_iconst (v := 3) X dL_isTold_165 rfl ?_
              refine go_lt (fun J => ∀ (v98 : Int) (M99 : Mm), bo v98 → Go p l e (rmX 9 221 12 72) s m args below meth c D TL 686 base 9 0 0 (FinQ D base 12 72 below args s bo) M99 174 [(0, .ref (base + 0)), (1, .ref (base + 683)), (2, .ref (base + 684)), (3, .int (Ii a4)), (4, .int (Ii a5)), (5, .int (Ii v25)), (6, .int (Ii v27))] [.int (Ii v98), .int (Ii v96)] (J v98 M99)) (by
                  intro v98 M99 hv98
                  refine go_icmp_ne (tgt := 181) X dL_isTold_174 rfl (bo_i32 hv96) (bo_i32 hv98) (fun c101 => ?_) (fun c101 => ?_)
                  · exact hJ181_90 M99
                  · refine go_iconst (v := 1) X dL_isTold_177 rfl ?_
                    refine go_goto (tgt := 182) X dL_isTold_178 rfl ?_
                    exact hJ182_36 1 M99 (Or.inr rfl)
                  )
                  (fun J174_100 hJ174_100 => ?_)
              refine go_icmp_ge (tgt := 173) X dL_isTold_166 rfl hv97 kI_3 (fun c102 => ?_) (fun c102 => ?_)
              · refine go_iconst (v := 0) X dL_isTold_173 rfl ?_
                refine go_sub [1, 2, 3, 4, 5, 6, 7] rfl ?_
                exact hJ174_100 0 M95 (Or.inl rfl)
              · refine go_iconst (v := 1) X dL_isTold_169 rfl ?_
                refine go_goto (tgt := 174) X dL_isTold_170 rfl ?_
                refine go_sub [1, 2, 3, 4, 5, 6, 7] rfl ?_
                exact hJ174_100 1 M95 (Or.inr rfl)
          )
          (fun J135_33 hJ135_33 => ?_)
      refine go_lt (fun J => ∀ (M103 : Mm), Go p l e (rmX 9 221 12 72) s m args below meth c D TL 686 base 9 0 0 (FinQ D base 12 72 below args s bo) M103 134 [(0, .ref (base + 0)), (1, .ref (base + 683)), (2, .ref (base + 684)), (3, .int (Ii a4)), (4, .int (Ii a5)), (5, .int (Ii v25)), (6, .int (Ii v27))] [] (J M103)) (by
          intro M103
          refine go_iconst (v := 0) X dL_isTold_134 rfl ?_
          exact hJ135_33 0 M103 (Or.inl rfl)
          )
          (fun J134_104 hJ134_104 => ?_)
      refine go_icmp_ne (tgt := 134) X dL_isTold_115 rfl hv29 hv30 (fun c105 => ?_) (fun c105 => ?_)
      · refine go_sub [2, 3, 4, 5, 6, 1, 0] rfl ?_
        exact hJ134_104 M28
      · refine go_aload_n X dL_isTold_118 rfl 2 rfl ?_
        refine go_iload_n X dL_isTold_119 rfl 5 rfl ?_
        refine go_iload X dL_isTold_120 6 rfl ?_
        refine go_ccall X (ok_N11_isKept l D base M28 a4 ha4 a5 ha5) dL_isTold_122 lw915 lw916 lw917 lw19 ⟨lw857, cy_X11_isKept, Nat.le_of_ble_eq_true rfl, Nat.le_of_ble_eq_true rfl⟩ rfl rfl rfl rfl (Nat.le_of_ble_eq_true rfl) ⟨Nat.le_of_ble_eq_true rfl, Nat.le_of_ble_eq_true rfl⟩ (fun v107 M106 hv107 => ?_)
        refine go_iload X dL_isTold_125 1 rfl ?_
        refine go_icmp_ne (tgt := 134) X dL_isTold_127 rfl (bo_i32 hv107) (bo_i32 hv25) (fun c108 => ?_) (fun c108 => ?_)
        · refine go_sub [2, 3, 4, 5, 6, 1, 0] rfl ?_
          exact hJ134_104 M106
        · refine go_iconst (v := 1) X dL_isTold_130 rfl ?_
          refine go_goto (tgt := 135) X dL_isTold_131 rfl ?_
          refine go_sub [2, 3, 4, 5, 6, 1, 0] rfl ?_
          exact hJ135_33 1 M106 (Or.inr rfl)
    · refine go_sub [0, 3, 4] rfl ?_
      exact hJ15_3 M
def f_L_isProduction (a4 : Int) (a5 : Int) (M : Mm) : Rs :=
Lt (jrem a4 11) fun v1 =>
Lt (wr (v1 - 1)) fun v2 =>
Lt (fun (v3 : Int) (M4 : Mm) => 
Lt (fun (v6 : Int) (M7 : Mm) => 
Lt (jrem a5 3) fun v9 =>
Cl (f_L_does 0 v9 v2 v3 v6 0 M7) fun v11 M10 =>
gd (0 ≤ 0 ∧ 0 < 11) <|
Lt (M10 684 0) fun v12 =>
if ¬ v12 = 10 then (
gd (0 ≤ 0 ∧ 0 < 11) <|
Lt (M10 684 0) fun v14 =>
Lt (wr (v2 + 1)) fun v15 =>
Lt (wr (10 * v15)) fun v16 =>
Lt (wr (v9 + v16)) fun v17 =>
Lt (wr (v3 + 1)) fun v18 =>
Lt (wr (110 * v18)) fun v19 =>
Lt (wr (v17 + v19)) fun v20 =>
Lt (wr (v6 + 1)) fun v21 =>
Lt (wr (1210 * v21)) fun v22 =>
Lt (wr (v20 + v22)) fun v23 =>
gd (0 ≤ v14 ∧ v14 < 10) <|
Lt (up M10 681 v14.toNat v23) fun M24 =>
gd (0 ≤ 0 ∧ 0 < 11) <|
Lt (M24 684 0) fun v25 =>
Lt (wr (v25 + 1)) fun v26 =>
gd (0 ≤ 0 ∧ 0 < 11) <|
Lt (up M24 684 0 v26) fun M27 =>
gd (0 ≤ 0 ∧ 0 < 11) <|
Lt (M27 684 0) fun v28 =>
Lt (wr (v28 - 1)) fun v29 =>
Lt (fun (v30 : Int) (M31 : Mm) => 
some (v30, M31)) fun J145_32 =>
if ¬ v11 = v29 then (
J145_32 0 M27) else (
J145_32 1 M27)) else (
Lt (fun (v34 : Int) (M35 : Mm) => 
some (v34, M35)) fun J90_36 =>
if ¬ v11 = ((-1000000)) then (
J90_36 0 M10) else (
J90_36 1 M10))) fun J46_8 =>
if 0 ≤ v3 then (
Lt (wr (Int.tdiv a4 121)) fun v39 =>
Lt (jrem v39 11) fun v40 =>
Lt (wr (v40 - 1)) fun v41 =>
J46_8 v41 M4) else (
J46_8 ((-1)) M4)) fun J26_5 =>
if 0 ≤ v2 then (
Lt (wr (Int.tdiv a4 11)) fun v43 =>
Lt (jrem v43 11) fun v44 =>
Lt (wr (v44 - 1)) fun v45 =>
J26_5 v45 M) else (
J26_5 ((-1)) M)
theorem cy_L_isProduction : yL_isProduction.cls ≠ "java/lang/invoke/MethodHandle" ∧ yL_isProduction.cls ≠ "java/lang/invoke/VarHandle" ∧ (parseMethodDescriptor yL_isProduction.desc).map (fun d => d.parameters.length) = some 5 := ⟨by decide +kernel, by decide +kernel, by decide +kernel⟩
set_option maxRecDepth 20000 in
theorem ok_L_isProduction (l : Launch) (hl : l.stackTraces = false) (D : Dd) (base b N : Nat) (xs : Nat → Int32) (hN : N ≤ 260) (M : Mm) (a4 : Int) (ha4 : i32 a4) (a5 : Int) (ha5 : i32 a5) : OkQ l D base b N xs yL_isProduction (.code yL_isProduction cL_isProduction 10 (some .boolean)) 9 221 3 18 [.ref (base + 0), .ref (base + 681), .ref (base + 684), .int (Ii a4), .int (Ii a5)] M bo (f_L_isProduction a4 a5 M) := by
  refine metQ (by decide +kernel) [(0, .ref (base + 0)), (1, .ref (base + 681)), (2, .ref (base + 684)), (3, .int (Ii a4)), (4, .int (Ii a5))] rfl (Nat.le_of_ble_eq_true rfl) (fun p e s m args below meth c X Y hrt hlk => ?_)
  have X : Cx p s m args c cL_isProduction D 10 RL := X
  unfold f_L_isProduction
  refine go_iload_n X dL_isProduction_0 rfl 3 rfl ?_
  refine go_bipush (v := 11) X dL_isProduction_1 (by decide) ?_
  refine go_irem X dL_isProduction_3 ha4 kI_11 (by decide) (fun v1 hv1 => ?_)
  refine go_iconst (v := 1) X dL_isProduction_4 rfl ?_
  refine go_isub X dL_isProduction_5 hv1 kI_1 (fun v2 hv2 => ?_)
  refine go_istore (i := 5) (L' := [(5, .int (Ii v2)), (0, .ref (base + 0)), (1, .ref (base + 681)), (2, .ref (base + 684)), (3, .int (Ii a4)), (4, .int (Ii a5))]) X dL_isProduction_6 (by decide) rfl ?_
  refine go_iload X dL_isProduction_8 0 rfl ?_
  refine go_lt (fun J => ∀ (v3 : Int) (M4 : Mm), i32 v3 → Go p l e (rmX 9 221 3 18) s m args below meth c D TL 686 base 10 0 0 (FinQ D base 3 18 below args s bo) M4 26 [(0, .ref (base + 0)), (1, .ref (base + 681)), (2, .ref (base + 684)), (3, .int (Ii a4)), (4, .int (Ii a5)), (5, .int (Ii v2))] [.int (Ii v3)] (J v3 M4)) (by
      intro v3 M4 hv3
      refine go_istore (i := 6) (L' := [(6, .int (Ii v3)), (0, .ref (base + 0)), (1, .ref (base + 681)), (2, .ref (base + 684)), (3, .int (Ii a4)), (4, .int (Ii a5)), (5, .int (Ii v2))]) X dL_isProduction_26 (by decide) rfl ?_
      refine go_iload X dL_isProduction_28 0 rfl ?_
      refine go_lt (fun J => ∀ (v6 : Int) (M7 : Mm), i32 v6 → Go p l e (rmX 9 221 3 18) s m args below meth c D TL 686 base 10 0 0 (FinQ D base 3 18 below args s bo) M7 46 [(0, .ref (base + 0)), (1, .ref (base + 681)), (2, .ref (base + 684)), (4, .int (Ii a5)), (5, .int (Ii v2)), (6, .int (Ii v3))] [.int (Ii v6)] (J v6 M7)) (by
          intro v6 M7 hv6
          refine go_istore (i := 7) (L' := [(7, .int (Ii v6)), (0, .ref (base + 0)), (1, .ref (base + 681)), (2, .ref (base + 684)), (4, .int (Ii a5)), (5, .int (Ii v2)), (6, .int (Ii v3))]) X dL_isProduction_46 (by decide) rfl ?_
          refine go_iload X dL_isProduction_48 4 rfl ?_
          refine go_iconst (v := 3) X dL_isProduction_50 rfl ?_
          refine go_irem X dL_isProduction_51 ha5 kI_3 (by decide) (fun v9 hv9 => ?_)
          refine go_istore (i := 8) (L' := [(8, .int (Ii v9)), (7, .int (Ii v6)), (0, .ref (base + 0)), (1, .ref (base + 681)), (2, .ref (base + 684)), (4, .int (Ii a5)), (5, .int (Ii v2)), (6, .int (Ii v3))]) X dL_isProduction_52 (by decide) rfl ?_
          refine go_aload_n X dL_isProduction_54 rfl 2 rfl ?_
          refine go_iconst (v := 0) X dL_isProduction_55 rfl ?_
          refine go_iload X dL_isProduction_56 0 rfl ?_
          refine go_iload X dL_isProduction_58 6 rfl ?_
          refine go_iload X dL_isProduction_60 7 rfl ?_
          refine go_iload X dL_isProduction_62 1 rfl ?_
          refine go_iconst (v := 0) X dL_isProduction_64 rfl ?_
          refine go_lcallH X Y (ok_L_does l hl D base b N xs hN M7 0 kI_0 v9 hv9 v2 hv2 v3 hv3 v6 hv6 0 kI_0) dL_isProduction_65 lw931 lw932 lw926 lw921 cy_L_does ⟨Nat.le_of_ble_eq_true rfl, Nat.le_of_ble_eq_true rfl⟩ rfl rfl (Nat.le_of_ble_eq_true rfl) ⟨Nat.le_of_ble_eq_true rfl, Nat.le_of_ble_eq_true rfl⟩ (fun v11 M10 hv11 => ?_)
          refine go_istore (i := 9) (L' := [(9, .int (Ii v11)), (8, .int (Ii v9)), (7, .int (Ii v6)), (0, .ref (base + 0)), (1, .ref (base + 681)), (2, .ref (base + 684)), (4, .int (Ii a5)), (5, .int (Ii v2)), (6, .int (Ii v3))]) X dL_isProduction_68 (by decide) rfl ?_
          refine go_aload_n X dL_isProduction_70 rfl 5 rfl ?_
          refine go_iconst (v := 0) X dL_isProduction_71 rfl ?_
          refine go_iaload X dL_isProduction_72 tln684 tl684 kI_0 (fun v12 hv12 => ?_)
          refine go_bipush (v := 10) X dL_isProduction_73 (by decide) ?_
          refine go_icmp_ne (tgt := 91) X dL_isProduction_75 rfl hv12 kI_10 (fun c13 => ?_) (fun c13 => ?_)
          · refine go_aload_n X dL_isProduction_91 rfl 4 rfl ?_
            refine go_aload_n X dL_isProduction_92 rfl 5 rfl ?_
            refine go_iconst (v := 0) X dL_isProduction_93 rfl ?_
            refine go_iaload X dL_isProduction_94 tln684 tl684 kI_0 (fun v14 hv14 => ?_)
            refine go_iload X dL_isProduction_95 1 rfl ?_
            refine go_bipush (v := 10) X dL_isProduction_97 (by decide) ?_
            refine go_iload X dL_isProduction_99 7 rfl ?_
            refine go_iconst (v := 1) X dL_isProduction_101 rfl ?_
            refine go_iadd X dL_isProduction_102 hv2 kI_1 (fun v15 hv15 => ?_)
            refine go_imul X dL_isProduction_103 kI_10 hv15 (fun v16 hv16 => ?_)
            refine go_iadd X dL_isProduction_104 hv9 hv16 (fun v17 hv17 => ?_)
            refine go_bipush (v := 110) X dL_isProduction_105 (by decide) ?_
            refine go_iload X dL_isProduction_107 8 rfl ?_
            refine go_iconst (v := 1) X dL_isProduction_109 rfl ?_
            refine go_iadd X dL_isProduction_110 hv3 kI_1 (fun v18 hv18 => ?_)
            refine go_imul X dL_isProduction_111 kI_110 hv18 (fun v19 hv19 => ?_)
            refine go_iadd X dL_isProduction_112 hv17 hv19 (fun v20 hv20 => ?_)
            refine go_sipush (v := 1210) X dL_isProduction_113 (by decide) ?_
            refine go_iload X dL_isProduction_116 2 rfl ?_
            refine go_iconst (v := 1) X dL_isProduction_118 rfl ?_
            refine go_iadd X dL_isProduction_119 hv6 kI_1 (fun v21 hv21 => ?_)
            refine go_imul X dL_isProduction_120 kI_1210 hv21 (fun v22 hv22 => ?_)
            refine go_iadd X dL_isProduction_121 hv20 hv22 (fun v23 hv23 => ?_)
            refine go_iastore X dL_isProduction_122 tln681 tl681 hv14 hv23 (fun M24 => ?_)
            refine go_aload_n X dL_isProduction_123 rfl 5 rfl ?_
            refine go_iconst (v := 0) X dL_isProduction_124 rfl ?_
            refine go_dup2 X dL_isProduction_125 rfl rfl ?_
            refine go_iaload X dL_isProduction_126 tln684 tl684 kI_0 (fun v25 hv25 => ?_)
            refine go_iconst (v := 1) X dL_isProduction_127 rfl ?_
            refine go_iadd X dL_isProduction_128 hv25 kI_1 (fun v26 hv26 => ?_)
            refine go_iastore X dL_isProduction_129 tln684 tl684 kI_0 hv26 (fun M27 => ?_)
            refine go_iload X dL_isProduction_130 0 rfl ?_
            refine go_aload_n X dL_isProduction_132 rfl 5 rfl ?_
            refine go_iconst (v := 0) X dL_isProduction_133 rfl ?_
            refine go_iaload X dL_isProduction_134 tln684 tl684 kI_0 (fun v28 hv28 => ?_)
            refine go_iconst (v := 1) X dL_isProduction_135 rfl ?_
            refine go_isub X dL_isProduction_136 hv28 kI_1 (fun v29 hv29 => ?_)
            refine go_lt (fun J => ∀ (v30 : Int) (M31 : Mm), bo v30 → Go p l e (rmX 9 221 3 18) s m args below meth c D TL 686 base 10 3 18 (FinQ D base 3 18 below args s bo) M31 145 [] [.int (Ii v30)] (J v30 M31)) (by
                intro v30 M31 hv30
                exact go_qzreturn X hrt hlk dL_isProduction_145 hv30 hv30 (Nat.le_of_ble_eq_true rfl) (Nat.le_of_ble_eq_true rfl)
                )
                (fun J145_32 hJ145_32 => ?_)
            refine go_icmp_ne (tgt := 144) X dL_isProduction_137 rfl hv11 hv29 (fun c33 => ?_) (fun c33 => ?_)
            · refine go_iconst (v := 0) X dL_isProduction_144 rfl ?_
              refine go_sub [] rfl ?_
              exact hJ145_32 0 M27 (Or.inl rfl)
            · refine go_iconst (v := 1) X dL_isProduction_140 rfl ?_
              refine go_goto (tgt := 145) X dL_isProduction_141 rfl ?_
              refine go_sub [] rfl ?_
              exact hJ145_32 1 M27 (Or.inr rfl)
          · refine go_iload X dL_isProduction_78 0 rfl ?_
            refine go_ldc (v := (-1000000)) X dL_isProduction_80 lw872 rfl ?_
            refine go_lt (fun J => ∀ (v34 : Int) (M35 : Mm), bo v34 → Go p l e (rmX 9 221 3 18) s m args below meth c D TL 686 base 10 3 18 (FinQ D base 3 18 below args s bo) M35 90 [] [.int (Ii v34)] (J v34 M35)) (by
                intro v34 M35 hv34
                exact go_qzreturn X hrt hlk dL_isProduction_90 hv34 hv34 (Nat.le_of_ble_eq_true rfl) (Nat.le_of_ble_eq_true rfl)
                )
                (fun J90_36 hJ90_36 => ?_)
            refine go_icmp_ne (tgt := 89) X dL_isProduction_82 rfl hv11 kI_m1000000 (fun c37 => ?_) (fun c37 => ?_)
            · refine go_iconst (v := 0) X dL_isProduction_89 rfl ?_
              refine go_sub [] rfl ?_
              exact hJ90_36 0 M10 (Or.inl rfl)
            · refine go_iconst (v := 1) X dL_isProduction_85 rfl ?_
              refine go_goto (tgt := 90) X dL_isProduction_86 rfl ?_
              refine go_sub [] rfl ?_
              exact hJ90_36 1 M10 (Or.inr rfl)
          )
          (fun J46_8 hJ46_8 => ?_)
      refine go_if_ge (tgt := 37) X dL_isProduction_30 rfl hv3 (fun c38 => ?_) (fun c38 => ?_)
      · refine go_iload_n X dL_isProduction_37 rfl 4 rfl ?_
        refine go_bipush (v := 121) X dL_isProduction_38 (by decide) ?_
        refine go_idiv X dL_isProduction_40 ha4 kI_121 (by decide) (fun v39 hv39 => ?_)
        refine go_bipush (v := 11) X dL_isProduction_41 (by decide) ?_
        refine go_irem X dL_isProduction_43 hv39 kI_11 (by decide) (fun v40 hv40 => ?_)
        refine go_iconst (v := 1) X dL_isProduction_44 rfl ?_
        refine go_isub X dL_isProduction_45 hv40 kI_1 (fun v41 hv41 => ?_)
        refine go_sub [1, 2, 3, 5, 6, 0] rfl ?_
        exact hJ46_8 v41 M4 hv41
      · refine go_iconst (v := (-1)) X dL_isProduction_33 rfl ?_
        refine go_goto (tgt := 46) X dL_isProduction_34 rfl ?_
        refine go_sub [1, 2, 3, 5, 6, 0] rfl ?_
        exact hJ46_8 ((-1)) M4 kI_m1
      )
      (fun J26_5 hJ26_5 => ?_)
  refine go_if_ge (tgt := 17) X dL_isProduction_10 rfl hv2 (fun c42 => ?_) (fun c42 => ?_)
  · refine go_iload_n X dL_isProduction_17 rfl 4 rfl ?_
    refine go_bipush (v := 11) X dL_isProduction_18 (by decide) ?_
    refine go_idiv X dL_isProduction_20 ha4 kI_11 (by decide) (fun v43 hv43 => ?_)
    refine go_bipush (v := 11) X dL_isProduction_21 (by decide) ?_
    refine go_irem X dL_isProduction_23 hv43 kI_11 (by decide) (fun v44 hv44 => ?_)
    refine go_iconst (v := 1) X dL_isProduction_24 rfl ?_
    refine go_isub X dL_isProduction_25 hv44 kI_1 (fun v45 hv45 => ?_)
    refine go_sub [1, 2, 3, 4, 5, 0] rfl ?_
    exact hJ26_5 v45 M hv45
  · refine go_iconst (v := (-1)) X dL_isProduction_13 rfl ?_
    refine go_goto (tgt := 26) X dL_isProduction_14 rfl ?_
    refine go_sub [1, 2, 3, 4, 5, 0] rfl ?_
    exact hJ26_5 ((-1)) M kI_m1
def f_L_isRead (a3 : Int) (a4 : Int) (M : Mm) : Rs :=
Lt (wr (Int.tdiv a3 100)) fun v1 =>
Lt (jrem a3 100) fun v2 =>
Lt (fun (v3 : Int) (M4 : Mm) => 
gd (0 ≤ 4 ∧ 4 < 11) <|
Lt (up M4 684 4 v1) fun M6 =>
Lt (fun (v7 : Int) (M8 : Mm) => 
some (v7, M8)) fun J86_9 =>
Lt (fun (M10 : Mm) => 
J86_9 0 M10) fun J85_11 =>
if v3 = 0 then (
J85_11 M6) else (
Clj (f_X11_found M6) M6 fun v14 M13 =>
gd (0 ≤ 6 ∧ 6 < 11) <|
Lt (M13 684 6) fun v15 =>
if ¬ v14 = v15 then (
J85_11 M13) else (
J86_9 1 M13))) fun J58_5 =>
Lt (fun (M17 : Mm) => 
J58_5 0 M17) fun J57_18 =>
if 30 < v1 then (
J57_18 M) else (
if v1 < v2 then (
J57_18 M) else (
gd (0 ≤ 4 ∧ 4 < 11) <|
Lt (M 684 4) fun v21 =>
if v21 < v2 then (
J57_18 M) else (
Lt (fun (M23 : Mm) => 
J58_5 1 M23) fun J53_24 =>
if a4 = 0 then (
J53_24 M) else (
gd (0 ≤ 4 ∧ 4 < 11) <|
Lt (M 684 4) fun v26 =>
if ¬ v1 = v26 then (
J57_18 M) else (
if ¬ v2 = v1 then (
J57_18 M) else (
J53_24 M))))))
theorem cy_L_isRead : yL_isRead.cls ≠ "java/lang/invoke/MethodHandle" ∧ yL_isRead.cls ≠ "java/lang/invoke/VarHandle" ∧ (parseMethodDescriptor yL_isRead.desc).map (fun d => d.parameters.length) = some 4 := ⟨by decide +kernel, by decide +kernel, by decide +kernel⟩
set_option maxRecDepth 20000 in
theorem ok_L_isRead (l : Launch) (hl : l.stackTraces = false) (D : Dd) (base b N : Nat) (xs : Nat → Int32) (hN : N ≤ 260) (M : Mm) (a3 : Int) (ha3 : i32 a3) (a4 : Int) (ha4 : bo a4) : OkQ l D base b N xs yL_isRead (.code yL_isRead cL_isRead 7 (some .boolean)) 1 20 0 0 [.ref (base + 0), .ref (base + 684), .int (Ii a3), .int (Ii a4)] M bo (f_L_isRead a3 a4 M) := by
  refine metQ (by decide +kernel) [(0, .ref (base + 0)), (1, .ref (base + 684)), (2, .int (Ii a3)), (3, .int (Ii a4))] rfl (Nat.le_of_ble_eq_true rfl) (fun p e s m args below meth c X Y hrt hlk => ?_)
  have X : Cx p s m args c cL_isRead D 7 RL := X
  unfold f_L_isRead
  refine go_iload_n X dL_isRead_0 rfl 2 rfl ?_
  refine go_bipush (v := 100) X dL_isRead_1 (by decide) ?_
  refine go_idiv X dL_isRead_3 ha3 kI_100 (by decide) (fun v1 hv1 => ?_)
  refine go_istore (i := 4) (L' := [(4, .int (Ii v1)), (0, .ref (base + 0)), (1, .ref (base + 684)), (2, .int (Ii a3)), (3, .int (Ii a4))]) X dL_isRead_4 (by decide) rfl ?_
  refine go_iload_n X dL_isRead_6 rfl 3 rfl ?_
  refine go_bipush (v := 100) X dL_isRead_7 (by decide) ?_
  refine go_irem X dL_isRead_9 ha3 kI_100 (by decide) (fun v2 hv2 => ?_)
  refine go_istore (i := 5) (L' := [(5, .int (Ii v2)), (4, .int (Ii v1)), (0, .ref (base + 0)), (1, .ref (base + 684)), (2, .int (Ii a3)), (3, .int (Ii a4))]) X dL_isRead_10 (by decide) rfl ?_
  refine go_iload X dL_isRead_12 1 rfl ?_
  refine go_bipush (v := 30) X dL_isRead_14 (by decide) ?_
  refine go_lt (fun J => ∀ (v3 : Int) (M4 : Mm), bo v3 → Go p l e (rmX 1 20 0 0) s m args below meth c D TL 686 base 7 0 0 (FinQ D base 0 0 below args s bo) M4 58 [(0, .ref (base + 0)), (1, .ref (base + 684)), (4, .int (Ii v1))] [.int (Ii v3)] (J v3 M4)) (by
      intro v3 M4 hv3
      refine go_istore (i := 6) (L' := [(6, .int (Ii v3)), (0, .ref (base + 0)), (1, .ref (base + 684)), (4, .int (Ii v1))]) X dL_isRead_58 (by decide) rfl ?_
      refine go_aload_n X dL_isRead_60 rfl 2 rfl ?_
      refine go_iconst (v := 4) X dL_isRead_61 rfl ?_
      refine go_iload X dL_isRead_62 3 rfl ?_
      refine go_iastore X dL_isRead_64 tln684 tl684 kI_4 hv1 (fun M6 => ?_)
      refine go_iload X dL_isRead_65 0 rfl ?_
      refine go_lt (fun J => ∀ (v7 : Int) (M8 : Mm), bo v7 → Go p l e (rmX 1 20 0 0) s m args below meth c D TL 686 base 7 0 0 (FinQ D base 0 0 below args s bo) M8 86 [] [.int (Ii v7)] (J v7 M8)) (by
          intro v7 M8 hv7
          exact go_qzreturn X hrt hlk dL_isRead_86 hv7 hv7 (Nat.le_of_ble_eq_true rfl) (Nat.le_of_ble_eq_true rfl)
          )
          (fun J86_9 hJ86_9 => ?_)
      refine go_lt (fun J => ∀ (M10 : Mm), Go p l e (rmX 1 20 0 0) s m args below meth c D TL 686 base 7 0 0 (FinQ D base 0 0 below args s bo) M10 85 [] [] (J M10)) (by
          intro M10
          refine go_iconst (v := 0) X dL_isRead_85 rfl ?_
          exact hJ86_9 0 M10 (Or.inl rfl)
          )
          (fun J85_11 hJ85_11 => ?_)
      refine go_if_eq (tgt := 85) X dL_isRead_67 rfl (bo_i32 hv3) (fun c12 => ?_) (fun c12 => ?_)
      · refine go_sub [] rfl ?_
        exact hJ85_11 M6
      · refine go_aload_n X dL_isRead_70 rfl 1 rfl ?_
        refine go_ccall X (ok_X11_found l D base M6 ) dL_isRead_71 lw938 lw939 lw940 lw19 ⟨lw854, cy_X11_found, Nat.le_of_ble_eq_true rfl, Nat.le_of_ble_eq_true rfl⟩ rfl rfl rfl rfl (Nat.le_of_ble_eq_true rfl) ⟨Nat.le_of_ble_eq_true rfl, Nat.le_of_ble_eq_true rfl⟩ (fun v14 M13 hv14 => ?_)
        refine go_aload_n X dL_isRead_74 rfl 2 rfl ?_
        refine go_bipush (v := 6) X dL_isRead_75 (by decide) ?_
        refine go_iaload X dL_isRead_77 tln684 tl684 kI_6 (fun v15 hv15 => ?_)
        refine go_icmp_ne (tgt := 85) X dL_isRead_78 rfl hv14 hv15 (fun c16 => ?_) (fun c16 => ?_)
        · refine go_sub [] rfl ?_
          exact hJ85_11 M13
        · refine go_iconst (v := 1) X dL_isRead_81 rfl ?_
          refine go_goto (tgt := 86) X dL_isRead_82 rfl ?_
          refine go_sub [] rfl ?_
          exact hJ86_9 1 M13 (Or.inr rfl)
      )
      (fun J58_5 hJ58_5 => ?_)
  refine go_lt (fun J => ∀ (M17 : Mm), Go p l e (rmX 1 20 0 0) s m args below meth c D TL 686 base 7 0 0 (FinQ D base 0 0 below args s bo) M17 57 [(0, .ref (base + 0)), (1, .ref (base + 684)), (4, .int (Ii v1))] [] (J M17)) (by
      intro M17
      refine go_iconst (v := 0) X dL_isRead_57 rfl ?_
      exact hJ58_5 0 M17 (Or.inl rfl)
      )
      (fun J57_18 hJ57_18 => ?_)
  refine go_icmp_gt (tgt := 57) X dL_isRead_16 rfl hv1 kI_30 (fun c19 => ?_) (fun c19 => ?_)
  · refine go_sub [2, 3, 1] rfl ?_
    exact hJ57_18 M
  · refine go_iload X dL_isRead_19 0 rfl ?_
    refine go_iload X dL_isRead_21 1 rfl ?_
    refine go_icmp_gt (tgt := 57) X dL_isRead_23 rfl hv2 hv1 (fun c20 => ?_) (fun c20 => ?_)
    · refine go_sub [2, 3, 1] rfl ?_
      exact hJ57_18 M
    · refine go_iload X dL_isRead_26 0 rfl ?_
      refine go_aload_n X dL_isRead_28 rfl 3 rfl ?_
      refine go_iconst (v := 4) X dL_isRead_29 rfl ?_
      refine go_iaload X dL_isRead_30 tln684 tl684 kI_4 (fun v21 hv21 => ?_)
      refine go_icmp_gt (tgt := 57) X dL_isRead_31 rfl hv2 hv21 (fun c22 => ?_) (fun c22 => ?_)
      · refine go_sub [2, 3, 1] rfl ?_
        exact hJ57_18 M
      · refine go_iload_n X dL_isRead_34 rfl 5 rfl ?_
        refine go_lt (fun J => ∀ (M23 : Mm), Go p l e (rmX 1 20 0 0) s m args below meth c D TL 686 base 7 0 0 (FinQ D base 0 0 below args s bo) M23 53 [(0, .ref (base + 0)), (1, .ref (base + 684)), (4, .int (Ii v1))] [] (J M23)) (by
            intro M23
            refine go_iconst (v := 1) X dL_isRead_53 rfl ?_
            refine go_goto (tgt := 58) X dL_isRead_54 rfl ?_
            exact hJ58_5 1 M23 (Or.inr rfl)
            )
            (fun J53_24 hJ53_24 => ?_)
        refine go_if_eq (tgt := 53) X dL_isRead_35 rfl (bo_i32 ha4) (fun c25 => ?_) (fun c25 => ?_)
        · refine go_sub [2, 3, 1] rfl ?_
          exact hJ53_24 M
        · refine go_iload X dL_isRead_38 1 rfl ?_
          refine go_aload_n X dL_isRead_40 rfl 3 rfl ?_
          refine go_iconst (v := 4) X dL_isRead_41 rfl ?_
          refine go_iaload X dL_isRead_42 tln684 tl684 kI_4 (fun v26 hv26 => ?_)
          refine go_icmp_ne (tgt := 57) X dL_isRead_43 rfl hv1 hv26 (fun c27 => ?_) (fun c27 => ?_)
          · refine go_sub [2, 3, 1] rfl ?_
            exact hJ57_18 M
          · refine go_iload X dL_isRead_46 0 rfl ?_
            refine go_iload X dL_isRead_48 1 rfl ?_
            refine go_icmp_ne (tgt := 57) X dL_isRead_50 rfl hv2 hv1 (fun c28 => ?_) (fun c28 => ?_)
            · refine go_sub [2, 3, 1] rfl ?_
              exact hJ57_18 M
            · refine go_sub [2, 3, 1] rfl ?_
              exact hJ53_24 M
def f_L_isChanged (a3 : Int) (a4 : Int) (a5 : Int) (M : Mm) : Rs :=
if 3 ≤ a3 then (
if ¬ a3 = 3 then (
Cl (f_L_does 9 0 0 0 0 0 M) fun v4 M3 =>
gd (0 ≤ 0 ∧ 0 < 11) <|
Lt (M3 684 0) fun v5 =>
if ¬ v5 = 0 then (
Lt (fun (v7 : Int) (M8 : Mm) => 
Cl (f_L_does 9 0 0 0 0 0 M8) fun v11 M10 =>
Lt (fun (v12 : Int) (M13 : Mm) => 
some (v12, M13)) fun J329_14 =>
Lt (fun (M15 : Mm) => 
J329_14 0 M15) fun J328_16 =>
if v7 = 0 then (
J328_16 M10) else (
Cl (f_L_isRead v11 1 M10) fun v19 M18 =>
if v19 = 0 then (
J328_16 M18) else (
J329_14 1 M18))) fun J293_9 =>
Lt (fun (M21 : Mm) => 
J293_9 0 M21) fun J292_22 =>
if v4 < 0 then (
J292_22 M3) else (
Cl (f_L_isRead v4 0 M3) fun v25 M24 =>
if v25 = 0 then (
J292_22 M24) else (
J293_9 1 M24))) else (
Lt (fun (v27 : Int) (M28 : Mm) => 
some (v27, M28)) fun J271_29 =>
if ¬ v4 = ((-1000000)) then (
J271_29 0 M3) else (
J271_29 1 M3))) else (
Lt (jrem a4 13) fun v31 =>
Cl (f_L_does 8 v31 0 0 0 0 M) fun v33 M32 =>
Lt (jrem a4 13) fun v34 =>
gd (0 ≤ 3 ∧ 3 < 11) <|
Lt (M32 684 3) fun v35 =>
Lt (fun (v36 : Int) (M37 : Mm) => 
if 0 ≤ v36 then (
gd (0 ≤ 3 ∧ 3 < 11) <|
Lt (M37 684 3) fun v40 =>
Lt (wr (v40 - 1)) fun v41 =>
gd (0 ≤ 3 ∧ 3 < 11) <|
Lt (up M37 684 3 v41) fun M42 =>
Lt (fun (v43 : Int) (M44 : Mm) => 
some (v43, M44)) fun J239_45 =>
Lt (fun (M46 : Mm) => 
J239_45 0 M46) fun J238_47 =>
if v33 < 0 then (
J238_47 M42) else (
Cl (f_L_isRead v33 0 M42) fun v50 M49 =>
if v50 = 0 then (
J238_47 M49) else (
J239_45 1 M49))) else (
Lt (fun (v52 : Int) (M53 : Mm) => 
some (v52, M53)) fun J210_54 =>
if ¬ v33 = v36 then (
J210_54 0 M37) else (
J210_54 1 M37))) fun J191_38 =>
if v34 < v35 then (
gd (0 ≤ 0 ∧ 0 < 11) <|
Lt (M32 684 0) fun v57 =>
if ¬ v57 = 0 then (
J191_38 0 M32) else (
J191_38 ((-1000000)) M32)) else (
J191_38 ((-3000000)) M32))) else (
Lt (jrem a4 14) fun v59 =>
Lt (jrem a5 30) fun v60 =>
Lt (fun (v61 : Int) (M62 : Mm) => 
Cl (f_L_does 7 v59 v61 0 0 0 M62) fun v65 M64 =>
gd (0 ≤ 3 ∧ 3 < 11) <|
Lt (M64 684 3) fun v66 =>
Lt (fun (v67 : Int) (M68 : Mm) => 
if 0 ≤ v67 then (
gd (0 ≤ 3 ∧ 3 < 11) <|
Lt (M68 684 3) fun v71 =>
Lt (wr (v71 + 1)) fun v72 =>
gd (0 ≤ 3 ∧ 3 < 11) <|
Lt (up M68 684 3 v72) fun M73 =>
Lt (fun (v74 : Int) (M75 : Mm) => 
some (v74, M75)) fun J142_76 =>
Lt (fun (M77 : Mm) => 
J142_76 0 M77) fun J141_78 =>
if v65 < 0 then (
J141_78 M73) else (
Cl (f_L_isRead v65 0 M73) fun v81 M80 =>
if v81 = 0 then (
J141_78 M80) else (
J142_76 1 M80))) else (
Lt (fun (v83 : Int) (M84 : Mm) => 
some (v83, M84)) fun J113_85 =>
if ¬ v65 = v67 then (
J113_85 0 M68) else (
J113_85 1 M68))) fun J94_69 =>
if v59 ≤ v66 then (
if v61 ≤ 102 then (
gd (0 ≤ 3 ∧ 3 < 11) <|
Lt (M64 684 3) fun v89 =>
Lt (fun (M90 : Mm) => 
J94_69 ((-1000000)) M90) fun J88_91 =>
if v89 = 12 then (
J88_91 M64) else (
gd (0 ≤ 0 ∧ 0 < 11) <|
Lt (M64 684 0) fun v93 =>
if ¬ v93 = 0 then (
J94_69 0 M64) else (
J88_91 M64))) else (
J94_69 ((-2000000)) M64)) else (
J94_69 ((-3000000)) M64)) fun J32_63 =>
if ¬ v60 = 0 then (
Lt (jrem a5 6) fun v96 =>
Lt (wr (97 + v96)) fun v97 =>
J32_63 v97 M) else (
J32_63 103 M))
theorem cy_L_isChanged : yL_isChanged.cls ≠ "java/lang/invoke/MethodHandle" ∧ yL_isChanged.cls ≠ "java/lang/invoke/VarHandle" ∧ (parseMethodDescriptor yL_isChanged.desc).map (fun d => d.parameters.length) = some 5 := ⟨by decide +kernel, by decide +kernel, by decide +kernel⟩
set_option maxRecDepth 20000 in
theorem ok_L_isChanged (l : Launch) (hl : l.stackTraces = false) (D : Dd) (base b N : Nat) (xs : Nat → Int32) (hN : N ≤ 260) (M : Mm) (a3 : Int) (ha3 : i32 a3) (a4 : Int) (ha4 : i32 a4) (a5 : Int) (ha5 : i32 a5) : OkQ l D base b N xs yL_isChanged (.code yL_isChanged cL_isChanged 9 (some .boolean)) 9 221 6 36 [.ref (base + 0), .ref (base + 684), .int (Ii a3), .int (Ii a4), .int (Ii a5)] M bo (f_L_isChanged a3 a4 a5 M) := by
  refine metQ (by decide +kernel) [(0, .ref (base + 0)), (1, .ref (base + 684)), (2, .int (Ii a3)), (3, .int (Ii a4)), (4, .int (Ii a5))] rfl (Nat.le_of_ble_eq_true rfl) (fun p e s m args below meth c X Y hrt hlk => ?_)
  have X : Cx p s m args c cL_isChanged D 9 RL := X
  unfold f_L_isChanged
  refine go_iload_n X dL_isChanged_0 rfl 2 rfl ?_
  refine go_iconst (v := 3) X dL_isChanged_1 rfl ?_
  refine go_icmp_ge (tgt := 143) X dL_isChanged_2 rfl ha3 kI_3 (fun c1 => ?_) (fun c1 => ?_)
  · refine go_iload_n X dL_isChanged_143 rfl 2 rfl ?_
    refine go_iconst (v := 3) X dL_isChanged_144 rfl ?_
    refine go_icmp_ne (tgt := 240) X dL_isChanged_145 rfl ha3 kI_3 (fun c2 => ?_) (fun c2 => ?_)
    · refine go_aload_n X dL_isChanged_240 rfl 0 rfl ?_
      refine go_bipush (v := 9) X dL_isChanged_241 (by decide) ?_
      refine go_iconst (v := 0) X dL_isChanged_243 rfl ?_
      refine go_iconst (v := 0) X dL_isChanged_244 rfl ?_
      refine go_iconst (v := 0) X dL_isChanged_245 rfl ?_
      refine go_iconst (v := 0) X dL_isChanged_246 rfl ?_
      refine go_iconst (v := 0) X dL_isChanged_247 rfl ?_
      refine go_lcallH X Y (ok_L_does l hl D base b N xs hN M 9 kI_9 0 kI_0 0 kI_0 0 kI_0 0 kI_0 0 kI_0) dL_isChanged_248 lw931 lw932 lw926 lw921 cy_L_does ⟨Nat.le_of_ble_eq_true rfl, Nat.le_of_ble_eq_true rfl⟩ rfl rfl (Nat.le_of_ble_eq_true rfl) ⟨Nat.le_of_ble_eq_true rfl, Nat.le_of_ble_eq_true rfl⟩ (fun v4 M3 hv4 => ?_)
      refine go_istore (i := 5) (L' := [(5, .int (Ii v4)), (0, .ref (base + 0)), (1, .ref (base + 684)), (2, .int (Ii a3)), (3, .int (Ii a4)), (4, .int (Ii a5))]) X dL_isChanged_251 (by decide) rfl ?_
      refine go_aload_n X dL_isChanged_253 rfl 2 rfl ?_
      refine go_iconst (v := 0) X dL_isChanged_254 rfl ?_
      refine go_iaload X dL_isChanged_255 tln684 tl684 kI_0 (fun v5 hv5 => ?_)
      refine go_if_ne (tgt := 272) X dL_isChanged_256 rfl hv5 (fun c6 => ?_) (fun c6 => ?_)
      · refine go_iload X dL_isChanged_272 0 rfl ?_
        refine go_lt (fun J => ∀ (v7 : Int) (M8 : Mm), bo v7 → Go p l e (rmX 9 221 6 36) s m args below meth c D TL 686 base 9 3 18 (FinQ D base 6 36 below args s bo) M8 293 [(0, .ref (base + 0)), (1, .ref (base + 684))] [.int (Ii v7)] (J v7 M8)) (by
            intro v7 M8 hv7
            refine go_istore (i := 6) (L' := [(6, .int (Ii v7)), (0, .ref (base + 0)), (1, .ref (base + 684))]) X dL_isChanged_293 (by decide) rfl ?_
            refine go_aload_n X dL_isChanged_295 rfl 1 rfl ?_
            refine go_bipush (v := 9) X dL_isChanged_296 (by decide) ?_
            refine go_iconst (v := 0) X dL_isChanged_298 rfl ?_
            refine go_iconst (v := 0) X dL_isChanged_299 rfl ?_
            refine go_iconst (v := 0) X dL_isChanged_300 rfl ?_
            refine go_iconst (v := 0) X dL_isChanged_301 rfl ?_
            refine go_iconst (v := 0) X dL_isChanged_302 rfl ?_
            refine go_lcallH X Y (ok_L_does l hl D base b N xs hN M8 9 kI_9 0 kI_0 0 kI_0 0 kI_0 0 kI_0 0 kI_0) dL_isChanged_303 lw931 lw932 lw926 lw921 cy_L_does ⟨Nat.le_of_ble_eq_true rfl, Nat.le_of_ble_eq_true rfl⟩ rfl rfl (Nat.le_of_ble_eq_true rfl) ⟨Nat.le_of_ble_eq_true rfl, Nat.le_of_ble_eq_true rfl⟩ (fun v11 M10 hv11 => ?_)
            refine go_istore (i := 7) (L' := [(7, .int (Ii v11)), (6, .int (Ii v7)), (0, .ref (base + 0)), (1, .ref (base + 684))]) X dL_isChanged_306 (by decide) rfl ?_
            refine go_iload X dL_isChanged_308 1 rfl ?_
            refine go_lt (fun J => ∀ (v12 : Int) (M13 : Mm), bo v12 → Go p l e (rmX 9 221 6 36) s m args below meth c D TL 686 base 9 6 36 (FinQ D base 6 36 below args s bo) M13 329 [] [.int (Ii v12)] (J v12 M13)) (by
                intro v12 M13 hv12
                exact go_qzreturn X hrt hlk dL_isChanged_329 hv12 hv12 (Nat.le_of_ble_eq_true rfl) (Nat.le_of_ble_eq_true rfl)
                )
                (fun J329_14 hJ329_14 => ?_)
            refine go_lt (fun J => ∀ (M15 : Mm), Go p l e (rmX 9 221 6 36) s m args below meth c D TL 686 base 9 6 36 (FinQ D base 6 36 below args s bo) M15 328 [] [] (J M15)) (by
                intro M15
                refine go_iconst (v := 0) X dL_isChanged_328 rfl ?_
                exact hJ329_14 0 M15 (Or.inl rfl)
                )
                (fun J328_16 hJ328_16 => ?_)
            refine go_if_eq (tgt := 328) X dL_isChanged_310 rfl (bo_i32 hv7) (fun c17 => ?_) (fun c17 => ?_)
            · refine go_sub [] rfl ?_
              exact hJ328_16 M10
            · refine go_aload_n X dL_isChanged_313 rfl 2 rfl ?_
              refine go_aload_n X dL_isChanged_314 rfl 3 rfl ?_
              refine go_iload X dL_isChanged_315 0 rfl ?_
              refine go_iconst (v := 1) X dL_isChanged_317 rfl ?_
              refine go_lcall X Y (ok_L_isRead l hl D base b N xs hN M10 v11 hv11 1 (Or.inr rfl)) dL_isChanged_318 lw952 lw953 lw926 ⟨lw951, cy_L_isRead, Nat.le_of_ble_eq_true rfl, Nat.le_of_ble_eq_true rfl⟩ rfl rfl (Nat.le_of_ble_eq_true rfl) ⟨Nat.le_of_ble_eq_true rfl, Nat.le_of_ble_eq_true rfl⟩ (fun v19 M18 hv19 => ?_)
              refine go_if_eq (tgt := 328) X dL_isChanged_321 rfl (bo_i32 hv19) (fun c20 => ?_) (fun c20 => ?_)
              · refine go_sub [] rfl ?_
                exact hJ328_16 M18
              · refine go_iconst (v := 1) X dL_isChanged_324 rfl ?_
                refine go_goto (tgt := 329) X dL_isChanged_325 rfl ?_
                refine go_sub [] rfl ?_
                exact hJ329_14 1 M18 (Or.inr rfl)
            )
            (fun J293_9 hJ293_9 => ?_)
        refine go_lt (fun J => ∀ (M21 : Mm), Go p l e (rmX 9 221 6 36) s m args below meth c D TL 686 base 9 3 18 (FinQ D base 6 36 below args s bo) M21 292 [(0, .ref (base + 0)), (1, .ref (base + 684))] [] (J M21)) (by
            intro M21
            refine go_iconst (v := 0) X dL_isChanged_292 rfl ?_
            exact hJ293_9 0 M21 (Or.inl rfl)
            )
            (fun J292_22 hJ292_22 => ?_)
        refine go_if_lt (tgt := 292) X dL_isChanged_274 rfl hv4 (fun c23 => ?_) (fun c23 => ?_)
        · refine go_sub [1, 2] rfl ?_
          exact hJ292_22 M3
        · refine go_aload_n X dL_isChanged_277 rfl 1 rfl ?_
          refine go_aload_n X dL_isChanged_278 rfl 2 rfl ?_
          refine go_iload X dL_isChanged_279 0 rfl ?_
          refine go_iconst (v := 0) X dL_isChanged_281 rfl ?_
          refine go_lcall X Y (ok_L_isRead l hl D base b N xs hN M3 v4 hv4 0 (Or.inl rfl)) dL_isChanged_282 lw952 lw953 lw926 ⟨lw951, cy_L_isRead, Nat.le_of_ble_eq_true rfl, Nat.le_of_ble_eq_true rfl⟩ rfl rfl (Nat.le_of_ble_eq_true rfl) ⟨Nat.le_of_ble_eq_true rfl, Nat.le_of_ble_eq_true rfl⟩ (fun v25 M24 hv25 => ?_)
          refine go_if_eq (tgt := 292) X dL_isChanged_285 rfl (bo_i32 hv25) (fun c26 => ?_) (fun c26 => ?_)
          · refine go_sub [1, 2] rfl ?_
            exact hJ292_22 M24
          · refine go_iconst (v := 1) X dL_isChanged_288 rfl ?_
            refine go_goto (tgt := 293) X dL_isChanged_289 rfl ?_
            refine go_sub [1, 2] rfl ?_
            exact hJ293_9 1 M24 (Or.inr rfl)
      · refine go_iload X dL_isChanged_259 0 rfl ?_
        refine go_ldc (v := (-1000000)) X dL_isChanged_261 lw872 rfl ?_
        refine go_lt (fun J => ∀ (v27 : Int) (M28 : Mm), bo v27 → Go p l e (rmX 9 221 6 36) s m args below meth c D TL 686 base 9 3 18 (FinQ D base 6 36 below args s bo) M28 271 [] [.int (Ii v27)] (J v27 M28)) (by
            intro v27 M28 hv27
            exact go_qzreturn X hrt hlk dL_isChanged_271 hv27 hv27 (Nat.le_of_ble_eq_true rfl) (Nat.le_of_ble_eq_true rfl)
            )
            (fun J271_29 hJ271_29 => ?_)
        refine go_icmp_ne (tgt := 270) X dL_isChanged_263 rfl hv4 kI_m1000000 (fun c30 => ?_) (fun c30 => ?_)
        · refine go_iconst (v := 0) X dL_isChanged_270 rfl ?_
          refine go_sub [] rfl ?_
          exact hJ271_29 0 M3 (Or.inl rfl)
        · refine go_iconst (v := 1) X dL_isChanged_266 rfl ?_
          refine go_goto (tgt := 271) X dL_isChanged_267 rfl ?_
          refine go_sub [] rfl ?_
          exact hJ271_29 1 M3 (Or.inr rfl)
    · refine go_aload_n X dL_isChanged_148 rfl 0 rfl ?_
      refine go_bipush (v := 8) X dL_isChanged_149 (by decide) ?_
      refine go_iload_n X dL_isChanged_151 rfl 3 rfl ?_
      refine go_bipush (v := 13) X dL_isChanged_152 (by decide) ?_
      refine go_irem X dL_isChanged_154 ha4 kI_13 (by decide) (fun v31 hv31 => ?_)
      refine go_iconst (v := 0) X dL_isChanged_155 rfl ?_
      refine go_iconst (v := 0) X dL_isChanged_156 rfl ?_
      refine go_iconst (v := 0) X dL_isChanged_157 rfl ?_
      refine go_iconst (v := 0) X dL_isChanged_158 rfl ?_
      refine go_lcallH X Y (ok_L_does l hl D base b N xs hN M 8 kI_8 v31 hv31 0 kI_0 0 kI_0 0 kI_0 0 kI_0) dL_isChanged_159 lw931 lw932 lw926 lw921 cy_L_does ⟨Nat.le_of_ble_eq_true rfl, Nat.le_of_ble_eq_true rfl⟩ rfl rfl (Nat.le_of_ble_eq_true rfl) ⟨Nat.le_of_ble_eq_true rfl, Nat.le_of_ble_eq_true rfl⟩ (fun v33 M32 hv33 => ?_)
      refine go_istore (i := 5) (L' := [(5, .int (Ii v33)), (0, .ref (base + 0)), (1, .ref (base + 684)), (2, .int (Ii a3)), (3, .int (Ii a4)), (4, .int (Ii a5))]) X dL_isChanged_162 (by decide) rfl ?_
      refine go_iload_n X dL_isChanged_164 rfl 4 rfl ?_
      refine go_bipush (v := 13) X dL_isChanged_165 (by decide) ?_
      refine go_irem X dL_isChanged_167 ha4 kI_13 (by decide) (fun v34 hv34 => ?_)
      refine go_aload_n X dL_isChanged_168 rfl 2 rfl ?_
      refine go_iconst (v := 3) X dL_isChanged_169 rfl ?_
      refine go_iaload X dL_isChanged_170 tln684 tl684 kI_3 (fun v35 hv35 => ?_)
      refine go_lt (fun J => ∀ (v36 : Int) (M37 : Mm), i32 v36 → Go p l e (rmX 9 221 6 36) s m args below meth c D TL 686 base 9 3 18 (FinQ D base 6 36 below args s bo) M37 191 [(0, .ref (base + 0)), (1, .ref (base + 684)), (5, .int (Ii v33))] [.int (Ii v36)] (J v36 M37)) (by
          intro v36 M37 hv36
          refine go_istore (i := 6) (L' := [(6, .int (Ii v36)), (0, .ref (base + 0)), (1, .ref (base + 684)), (5, .int (Ii v33))]) X dL_isChanged_191 (by decide) rfl ?_
          refine go_iload X dL_isChanged_193 0 rfl ?_
          refine go_if_ge (tgt := 211) X dL_isChanged_195 rfl hv36 (fun c39 => ?_) (fun c39 => ?_)
          · refine go_aload_n X dL_isChanged_211 rfl 2 rfl ?_
            refine go_iconst (v := 3) X dL_isChanged_212 rfl ?_
            refine go_dup2 X dL_isChanged_213 rfl rfl ?_
            refine go_iaload X dL_isChanged_214 tln684 tl684 kI_3 (fun v40 hv40 => ?_)
            refine go_iconst (v := 1) X dL_isChanged_215 rfl ?_
            refine go_isub X dL_isChanged_216 hv40 kI_1 (fun v41 hv41 => ?_)
            refine go_iastore X dL_isChanged_217 tln684 tl684 kI_3 hv41 (fun M42 => ?_)
            refine go_iload X dL_isChanged_218 3 rfl ?_
            refine go_lt (fun J => ∀ (v43 : Int) (M44 : Mm), bo v43 → Go p l e (rmX 9 221 6 36) s m args below meth c D TL 686 base 9 3 18 (FinQ D base 6 36 below args s bo) M44 239 [] [.int (Ii v43)] (J v43 M44)) (by
                intro v43 M44 hv43
                exact go_qzreturn X hrt hlk dL_isChanged_239 hv43 hv43 (Nat.le_of_ble_eq_true rfl) (Nat.le_of_ble_eq_true rfl)
                )
                (fun J239_45 hJ239_45 => ?_)
            refine go_lt (fun J => ∀ (M46 : Mm), Go p l e (rmX 9 221 6 36) s m args below meth c D TL 686 base 9 3 18 (FinQ D base 6 36 below args s bo) M46 238 [] [] (J M46)) (by
                intro M46
                refine go_iconst (v := 0) X dL_isChanged_238 rfl ?_
                exact hJ239_45 0 M46 (Or.inl rfl)
                )
                (fun J238_47 hJ238_47 => ?_)
            refine go_if_lt (tgt := 238) X dL_isChanged_220 rfl hv33 (fun c48 => ?_) (fun c48 => ?_)
            · refine go_sub [] rfl ?_
              exact hJ238_47 M42
            · refine go_aload_n X dL_isChanged_223 rfl 1 rfl ?_
              refine go_aload_n X dL_isChanged_224 rfl 2 rfl ?_
              refine go_iload X dL_isChanged_225 3 rfl ?_
              refine go_iconst (v := 0) X dL_isChanged_227 rfl ?_
              refine go_lcall X Y (ok_L_isRead l hl D base b N xs hN M42 v33 hv33 0 (Or.inl rfl)) dL_isChanged_228 lw952 lw953 lw926 ⟨lw951, cy_L_isRead, Nat.le_of_ble_eq_true rfl, Nat.le_of_ble_eq_true rfl⟩ rfl rfl (Nat.le_of_ble_eq_true rfl) ⟨Nat.le_of_ble_eq_true rfl, Nat.le_of_ble_eq_true rfl⟩ (fun v50 M49 hv50 => ?_)
              refine go_if_eq (tgt := 238) X dL_isChanged_231 rfl (bo_i32 hv50) (fun c51 => ?_) (fun c51 => ?_)
              · refine go_sub [] rfl ?_
                exact hJ238_47 M49
              · refine go_iconst (v := 1) X dL_isChanged_234 rfl ?_
                refine go_goto (tgt := 239) X dL_isChanged_235 rfl ?_
                refine go_sub [] rfl ?_
                exact hJ239_45 1 M49 (Or.inr rfl)
          · refine go_iload X dL_isChanged_198 3 rfl ?_
            refine go_iload X dL_isChanged_200 0 rfl ?_
            refine go_lt (fun J => ∀ (v52 : Int) (M53 : Mm), bo v52 → Go p l e (rmX 9 221 6 36) s m args below meth c D TL 686 base 9 3 18 (FinQ D base 6 36 below args s bo) M53 210 [] [.int (Ii v52)] (J v52 M53)) (by
                intro v52 M53 hv52
                exact go_qzreturn X hrt hlk dL_isChanged_210 hv52 hv52 (Nat.le_of_ble_eq_true rfl) (Nat.le_of_ble_eq_true rfl)
                )
                (fun J210_54 hJ210_54 => ?_)
            refine go_icmp_ne (tgt := 209) X dL_isChanged_202 rfl hv33 hv36 (fun c55 => ?_) (fun c55 => ?_)
            · refine go_iconst (v := 0) X dL_isChanged_209 rfl ?_
              refine go_sub [] rfl ?_
              exact hJ210_54 0 M37 (Or.inl rfl)
            · refine go_iconst (v := 1) X dL_isChanged_205 rfl ?_
              refine go_goto (tgt := 210) X dL_isChanged_206 rfl ?_
              refine go_sub [] rfl ?_
              exact hJ210_54 1 M37 (Or.inr rfl)
          )
          (fun J191_38 hJ191_38 => ?_)
      refine go_icmp_lt (tgt := 179) X dL_isChanged_171 rfl hv34 hv35 (fun c56 => ?_) (fun c56 => ?_)
      · refine go_aload_n X dL_isChanged_179 rfl 2 rfl ?_
        refine go_iconst (v := 0) X dL_isChanged_180 rfl ?_
        refine go_iaload X dL_isChanged_181 tln684 tl684 kI_0 (fun v57 hv57 => ?_)
        refine go_if_ne (tgt := 190) X dL_isChanged_182 rfl hv57 (fun c58 => ?_) (fun c58 => ?_)
        · refine go_iconst (v := 0) X dL_isChanged_190 rfl ?_
          refine go_sub [1, 2, 0] rfl ?_
          exact hJ191_38 0 M32 kI_0
        · refine go_ldc (v := (-1000000)) X dL_isChanged_185 lw872 rfl ?_
          refine go_goto (tgt := 191) X dL_isChanged_187 rfl ?_
          refine go_sub [1, 2, 0] rfl ?_
          exact hJ191_38 ((-1000000)) M32 kI_m1000000
      · refine go_ldc (v := (-3000000)) X dL_isChanged_174 lw870 rfl ?_
        refine go_goto (tgt := 191) X dL_isChanged_176 rfl ?_
        refine go_sub [1, 2, 0] rfl ?_
        exact hJ191_38 ((-3000000)) M32 kI_m3000000
  · refine go_iload_n X dL_isChanged_5 rfl 3 rfl ?_
    refine go_bipush (v := 14) X dL_isChanged_6 (by decide) ?_
    refine go_irem X dL_isChanged_8 ha4 kI_14 (by decide) (fun v59 hv59 => ?_)
    refine go_istore (i := 5) (L' := [(5, .int (Ii v59)), (0, .ref (base + 0)), (1, .ref (base + 684)), (2, .int (Ii a3)), (3, .int (Ii a4)), (4, .int (Ii a5))]) X dL_isChanged_9 (by decide) rfl ?_
    refine go_iload X dL_isChanged_11 5 rfl ?_
    refine go_bipush (v := 30) X dL_isChanged_13 (by decide) ?_
    refine go_irem X dL_isChanged_15 ha5 kI_30 (by decide) (fun v60 hv60 => ?_)
    refine go_lt (fun J => ∀ (v61 : Int) (M62 : Mm), i32 v61 → Go p l e (rmX 9 221 6 36) s m args below meth c D TL 686 base 9 0 0 (FinQ D base 6 36 below args s bo) M62 32 [(0, .ref (base + 0)), (1, .ref (base + 684)), (5, .int (Ii v59))] [.int (Ii v61)] (J v61 M62)) (by
        intro v61 M62 hv61
        refine go_istore (i := 6) (L' := [(6, .int (Ii v61)), (0, .ref (base + 0)), (1, .ref (base + 684)), (5, .int (Ii v59))]) X dL_isChanged_32 (by decide) rfl ?_
        refine go_aload_n X dL_isChanged_34 rfl 1 rfl ?_
        refine go_bipush (v := 7) X dL_isChanged_35 (by decide) ?_
        refine go_iload X dL_isChanged_37 3 rfl ?_
        refine go_iload X dL_isChanged_39 0 rfl ?_
        refine go_iconst (v := 0) X dL_isChanged_41 rfl ?_
        refine go_iconst (v := 0) X dL_isChanged_42 rfl ?_
        refine go_iconst (v := 0) X dL_isChanged_43 rfl ?_
        refine go_lcallH X Y (ok_L_does l hl D base b N xs hN M62 7 kI_7 v59 hv59 v61 hv61 0 kI_0 0 kI_0 0 kI_0) dL_isChanged_44 lw931 lw932 lw926 lw921 cy_L_does ⟨Nat.le_of_ble_eq_true rfl, Nat.le_of_ble_eq_true rfl⟩ rfl rfl (Nat.le_of_ble_eq_true rfl) ⟨Nat.le_of_ble_eq_true rfl, Nat.le_of_ble_eq_true rfl⟩ (fun v65 M64 hv65 => ?_)
        refine go_istore (i := 7) (L' := [(7, .int (Ii v65)), (6, .int (Ii v61)), (0, .ref (base + 0)), (1, .ref (base + 684)), (5, .int (Ii v59))]) X dL_isChanged_47 (by decide) rfl ?_
        refine go_iload X dL_isChanged_49 4 rfl ?_
        refine go_aload_n X dL_isChanged_51 rfl 3 rfl ?_
        refine go_iconst (v := 3) X dL_isChanged_52 rfl ?_
        refine go_iaload X dL_isChanged_53 tln684 tl684 kI_3 (fun v66 hv66 => ?_)
        refine go_lt (fun J => ∀ (v67 : Int) (M68 : Mm), i32 v67 → Go p l e (rmX 9 221 6 36) s m args below meth c D TL 686 base 9 3 18 (FinQ D base 6 36 below args s bo) M68 94 [(0, .ref (base + 0)), (1, .ref (base + 684)), (7, .int (Ii v65))] [.int (Ii v67)] (J v67 M68)) (by
            intro v67 M68 hv67
            refine go_istore (i := 8) (L' := [(8, .int (Ii v67)), (0, .ref (base + 0)), (1, .ref (base + 684)), (7, .int (Ii v65))]) X dL_isChanged_94 (by decide) rfl ?_
            refine go_iload X dL_isChanged_96 0 rfl ?_
            refine go_if_ge (tgt := 114) X dL_isChanged_98 rfl hv67 (fun c70 => ?_) (fun c70 => ?_)
            · refine go_aload_n X dL_isChanged_114 rfl 2 rfl ?_
              refine go_iconst (v := 3) X dL_isChanged_115 rfl ?_
              refine go_dup2 X dL_isChanged_116 rfl rfl ?_
              refine go_iaload X dL_isChanged_117 tln684 tl684 kI_3 (fun v71 hv71 => ?_)
              refine go_iconst (v := 1) X dL_isChanged_118 rfl ?_
              refine go_iadd X dL_isChanged_119 hv71 kI_1 (fun v72 hv72 => ?_)
              refine go_iastore X dL_isChanged_120 tln684 tl684 kI_3 hv72 (fun M73 => ?_)
              refine go_iload X dL_isChanged_121 3 rfl ?_
              refine go_lt (fun J => ∀ (v74 : Int) (M75 : Mm), bo v74 → Go p l e (rmX 9 221 6 36) s m args below meth c D TL 686 base 9 3 18 (FinQ D base 6 36 below args s bo) M75 142 [] [.int (Ii v74)] (J v74 M75)) (by
                  intro v74 M75 hv74
                  exact go_qzreturn X hrt hlk dL_isChanged_142 hv74 hv74 (Nat.le_of_ble_eq_true rfl) (Nat.le_of_ble_eq_true rfl)
                  )
                  (fun J142_76 hJ142_76 => ?_)
              refine go_lt (fun J => ∀ (M77 : Mm), Go p l e (rmX 9 221 6 36) s m args below meth c D TL 686 base 9 3 18 (FinQ D base 6 36 below args s bo) M77 141 [] [] (J M77)) (by
                  intro M77
                  refine go_iconst (v := 0) X dL_isChanged_141 rfl ?_
                  exact hJ142_76 0 M77 (Or.inl rfl)
                  )
                  (fun J141_78 hJ141_78 => ?_)
              refine go_if_lt (tgt := 141) X dL_isChanged_123 rfl hv65 (fun c79 => ?_) (fun c79 => ?_)
              · refine go_sub [] rfl ?_
                exact hJ141_78 M73
              · refine go_aload_n X dL_isChanged_126 rfl 1 rfl ?_
                refine go_aload_n X dL_isChanged_127 rfl 2 rfl ?_
                refine go_iload X dL_isChanged_128 3 rfl ?_
                refine go_iconst (v := 0) X dL_isChanged_130 rfl ?_
                refine go_lcall X Y (ok_L_isRead l hl D base b N xs hN M73 v65 hv65 0 (Or.inl rfl)) dL_isChanged_131 lw952 lw953 lw926 ⟨lw951, cy_L_isRead, Nat.le_of_ble_eq_true rfl, Nat.le_of_ble_eq_true rfl⟩ rfl rfl (Nat.le_of_ble_eq_true rfl) ⟨Nat.le_of_ble_eq_true rfl, Nat.le_of_ble_eq_true rfl⟩ (fun v81 M80 hv81 => ?_)
                refine go_if_eq (tgt := 141) X dL_isChanged_134 rfl (bo_i32 hv81) (fun c82 => ?_) (fun c82 => ?_)
                · refine go_sub [] rfl ?_
                  exact hJ141_78 M80
                · refine go_iconst (v := 1) X dL_isChanged_137 rfl ?_
                  refine go_goto (tgt := 142) X dL_isChanged_138 rfl ?_
                  refine go_sub [] rfl ?_
                  exact hJ142_76 1 M80 (Or.inr rfl)
            · refine go_iload X dL_isChanged_101 3 rfl ?_
              refine go_iload X dL_isChanged_103 0 rfl ?_
              refine go_lt (fun J => ∀ (v83 : Int) (M84 : Mm), bo v83 → Go p l e (rmX 9 221 6 36) s m args below meth c D TL 686 base 9 3 18 (FinQ D base 6 36 below args s bo) M84 113 [] [.int (Ii v83)] (J v83 M84)) (by
                  intro v83 M84 hv83
                  exact go_qzreturn X hrt hlk dL_isChanged_113 hv83 hv83 (Nat.le_of_ble_eq_true rfl) (Nat.le_of_ble_eq_true rfl)
                  )
                  (fun J113_85 hJ113_85 => ?_)
              refine go_icmp_ne (tgt := 112) X dL_isChanged_105 rfl hv65 hv67 (fun c86 => ?_) (fun c86 => ?_)
              · refine go_iconst (v := 0) X dL_isChanged_112 rfl ?_
                refine go_sub [] rfl ?_
                exact hJ113_85 0 M68 (Or.inl rfl)
              · refine go_iconst (v := 1) X dL_isChanged_108 rfl ?_
                refine go_goto (tgt := 113) X dL_isChanged_109 rfl ?_
                refine go_sub [] rfl ?_
                exact hJ113_85 1 M68 (Or.inr rfl)
            )
            (fun J94_69 hJ94_69 => ?_)
        refine go_icmp_le (tgt := 62) X dL_isChanged_54 rfl hv59 hv66 (fun c87 => ?_) (fun c87 => ?_)
        · refine go_iload X dL_isChanged_62 1 rfl ?_
          refine go_bipush (v := 102) X dL_isChanged_64 (by decide) ?_
          refine go_icmp_le (tgt := 74) X dL_isChanged_66 rfl hv61 kI_102 (fun c88 => ?_) (fun c88 => ?_)
          · refine go_aload_n X dL_isChanged_74 rfl 3 rfl ?_
            refine go_iconst (v := 3) X dL_isChanged_75 rfl ?_
            refine go_iaload X dL_isChanged_76 tln684 tl684 kI_3 (fun v89 hv89 => ?_)
            refine go_bipush (v := 12) X dL_isChanged_77 (by decide) ?_
            refine go_lt (fun J => ∀ (M90 : Mm), Go p l e (rmX 9 221 6 36) s m args below meth c D TL 686 base 9 3 18 (FinQ D base 6 36 below args s bo) M90 88 [(0, .ref (base + 0)), (1, .ref (base + 684)), (7, .int (Ii v65))] [] (J M90)) (by
                intro M90
                refine go_ldc (v := (-1000000)) X dL_isChanged_88 lw872 rfl ?_
                refine go_goto (tgt := 94) X dL_isChanged_90 rfl ?_
                exact hJ94_69 ((-1000000)) M90 kI_m1000000
                )
                (fun J88_91 hJ88_91 => ?_)
            refine go_icmp_eq (tgt := 88) X dL_isChanged_79 rfl hv89 kI_12 (fun c92 => ?_) (fun c92 => ?_)
            · refine go_sub [2, 3, 0] rfl ?_
              exact hJ88_91 M64
            · refine go_aload_n X dL_isChanged_82 rfl 3 rfl ?_
              refine go_iconst (v := 0) X dL_isChanged_83 rfl ?_
              refine go_iaload X dL_isChanged_84 tln684 tl684 kI_0 (fun v93 hv93 => ?_)
              refine go_if_ne (tgt := 93) X dL_isChanged_85 rfl hv93 (fun c94 => ?_) (fun c94 => ?_)
              · refine go_iconst (v := 0) X dL_isChanged_93 rfl ?_
                refine go_sub [2, 3, 0] rfl ?_
                exact hJ94_69 0 M64 kI_0
              · refine go_sub [2, 3, 0] rfl ?_
                exact hJ88_91 M64
          · refine go_ldc (v := (-2000000)) X dL_isChanged_69 lw871 rfl ?_
            refine go_goto (tgt := 94) X dL_isChanged_71 rfl ?_
            refine go_sub [2, 3, 0] rfl ?_
            exact hJ94_69 ((-2000000)) M64 kI_m2000000
        · refine go_ldc (v := (-3000000)) X dL_isChanged_57 lw870 rfl ?_
          refine go_goto (tgt := 94) X dL_isChanged_59 rfl ?_
          refine go_sub [2, 3, 0] rfl ?_
          exact hJ94_69 ((-3000000)) M64 kI_m3000000
        )
        (fun J32_63 hJ32_63 => ?_)
    refine go_if_ne (tgt := 24) X dL_isChanged_16 rfl hv60 (fun c95 => ?_) (fun c95 => ?_)
    · refine go_bipush (v := 97) X dL_isChanged_24 (by decide) ?_
      refine go_iload X dL_isChanged_26 5 rfl ?_
      refine go_bipush (v := 6) X dL_isChanged_28 (by decide) ?_
      refine go_irem X dL_isChanged_30 ha5 kI_6 (by decide) (fun v96 hv96 => ?_)
      refine go_iadd X dL_isChanged_31 kI_97 hv96 (fun v97 hv97 => ?_)
      refine go_sub [1, 2, 0] rfl ?_
      exact hJ32_63 v97 M hv97
    · refine go_bipush (v := 103) X dL_isChanged_19 (by decide) ?_
      refine go_goto (tgt := 32) X dL_isChanged_21 rfl ?_
      refine go_sub [1, 2, 0] rfl ?_
      exact hJ32_63 103 M kI_103
def f_L_isRewritten (a4 : Int) (M : Mm) : Rs :=
Cl (f_L_does 10 a4 0 0 0 0 M) fun v2 M1 =>
gd (0 ≤ 4 ∧ 4 < 11) <|
Lt (M1 684 4) fun v3 =>
if a4 < v3 then (
Clj (f_N11_node a4 M1) M1 fun v6 M5 =>
Lt (wr (Int.tdiv v6 10)) fun v7 =>
Lt (jrem v7 100) fun v8 =>
Lt (fun (v9 : Int) (M10 : Mm) => 
Clj (f_X11_found M10) M10 fun v13 M12 =>
gd (0 ≤ 6 ∧ 6 < 11) <|
Lt (up M12 684 6 v13) fun M14 =>
some (v9, M14)) fun J96_11 =>
Lt (fun (M15 : Mm) => 
J96_11 0 M15) fun J95_16 =>
if v2 < 0 then (
J95_16 M5) else (
gd (0 ≤ 0 ∧ 0 < 11) <|
Lt (M5 684 0) fun v18 =>
if v18 ≤ v2 then (
J95_16 M5) else (
gd (0 ≤ v2 ∧ v2 < 10) <|
Lt (M5 681 v2.toNat) fun v20 =>
Lt (jrem v20 10) fun v21 =>
gd (0 ≤ v8 ∧ v8 < 10) <|
Lt (M5 681 v8.toNat) fun v22 =>
Lt (jrem v22 10) fun v23 =>
if ¬ v21 = v23 then (
J95_16 M5) else (
Cl (f_L_children v2 M5) fun v26 M25 =>
Cl (f_L_children v8 M25) fun v28 M27 =>
if ¬ v26 = v28 then (
J95_16 M27) else (
J96_11 1 M27))))) else (
Lt (fun (v30 : Int) (M31 : Mm) => 
some (v30, M31)) fun J32_32 =>
if ¬ v2 = ((-3000000)) then (
J32_32 0 M1) else (
J32_32 1 M1))
theorem cy_L_isRewritten : yL_isRewritten.cls ≠ "java/lang/invoke/MethodHandle" ∧ yL_isRewritten.cls ≠ "java/lang/invoke/VarHandle" ∧ (parseMethodDescriptor yL_isRewritten.desc).map (fun d => d.parameters.length) = some 4 := ⟨by decide +kernel, by decide +kernel, by decide +kernel⟩
set_option maxRecDepth 20000 in
theorem ok_L_isRewritten (l : Launch) (hl : l.stackTraces = false) (D : Dd) (base b N : Nat) (xs : Nat → Int32) (hN : N ≤ 260) (M : Mm) (a4 : Int) (ha4 : i32 a4) : OkQ l D base b N xs yL_isRewritten (.code yL_isRewritten cL_isRewritten 7 (some .boolean)) 9 221 3 18 [.ref (base + 0), .ref (base + 681), .ref (base + 684), .int (Ii a4)] M bo (f_L_isRewritten a4 M) := by
  refine metQ (by decide +kernel) [(0, .ref (base + 0)), (1, .ref (base + 681)), (2, .ref (base + 684)), (3, .int (Ii a4))] rfl (Nat.le_of_ble_eq_true rfl) (fun p e s m args below meth c X Y hrt hlk => ?_)
  have X : Cx p s m args c cL_isRewritten D 7 RL := X
  unfold f_L_isRewritten
  refine go_aload_n X dL_isRewritten_0 rfl 0 rfl ?_
  refine go_bipush (v := 10) X dL_isRewritten_1 (by decide) ?_
  refine go_iload_n X dL_isRewritten_3 rfl 3 rfl ?_
  refine go_iconst (v := 0) X dL_isRewritten_4 rfl ?_
  refine go_iconst (v := 0) X dL_isRewritten_5 rfl ?_
  refine go_iconst (v := 0) X dL_isRewritten_6 rfl ?_
  refine go_iconst (v := 0) X dL_isRewritten_7 rfl ?_
  refine go_lcallH X Y (ok_L_does l hl D base b N xs hN M 10 kI_10 a4 ha4 0 kI_0 0 kI_0 0 kI_0 0 kI_0) dL_isRewritten_8 lw931 lw932 lw926 lw921 cy_L_does ⟨Nat.le_of_ble_eq_true rfl, Nat.le_of_ble_eq_true rfl⟩ rfl rfl (Nat.le_of_ble_eq_true rfl) ⟨Nat.le_of_ble_eq_true rfl, Nat.le_of_ble_eq_true rfl⟩ (fun v2 M1 hv2 => ?_)
  refine go_istore (i := 4) (L' := [(4, .int (Ii v2)), (0, .ref (base + 0)), (1, .ref (base + 681)), (2, .ref (base + 684)), (3, .int (Ii a4))]) X dL_isRewritten_11 (by decide) rfl ?_
  refine go_iload_n X dL_isRewritten_13 rfl 4 rfl ?_
  refine go_aload_n X dL_isRewritten_14 rfl 3 rfl ?_
  refine go_iconst (v := 4) X dL_isRewritten_15 rfl ?_
  refine go_iaload X dL_isRewritten_16 tln684 tl684 kI_4 (fun v3 hv3 => ?_)
  refine go_icmp_lt (tgt := 33) X dL_isRewritten_17 rfl ha4 hv3 (fun c4 => ?_) (fun c4 => ?_)
  · refine go_aload_n X dL_isRewritten_33 rfl 1 rfl ?_
    refine go_iload_n X dL_isRewritten_34 rfl 4 rfl ?_
    refine go_ccall X (ok_N11_node l D base M1 a4 ha4) dL_isRewritten_35 lw909 lw910 lw911 lw19 ⟨lw833, cy_X11_node, Nat.le_of_ble_eq_true rfl, Nat.le_of_ble_eq_true rfl⟩ rfl rfl rfl rfl (Nat.le_of_ble_eq_true rfl) ⟨Nat.le_of_ble_eq_true rfl, Nat.le_of_ble_eq_true rfl⟩ (fun v6 M5 hv6 => ?_)
    refine go_bipush (v := 10) X dL_isRewritten_38 (by decide) ?_
    refine go_idiv X dL_isRewritten_40 hv6 kI_10 (by decide) (fun v7 hv7 => ?_)
    refine go_bipush (v := 100) X dL_isRewritten_41 (by decide) ?_
    refine go_irem X dL_isRewritten_43 hv7 kI_100 (by decide) (fun v8 hv8 => ?_)
    refine go_istore (i := 5) (L' := [(5, .int (Ii v8)), (4, .int (Ii v2)), (0, .ref (base + 0)), (1, .ref (base + 681)), (2, .ref (base + 684)), (3, .int (Ii a4))]) X dL_isRewritten_44 (by decide) rfl ?_
    refine go_iload X dL_isRewritten_46 1 rfl ?_
    refine go_lt (fun J => ∀ (v9 : Int) (M10 : Mm), bo v9 → Go p l e (rmX 9 221 3 18) s m args below meth c D TL 686 base 7 3 18 (FinQ D base 3 18 below args s bo) M10 96 [(0, .ref (base + 0)), (2, .ref (base + 684))] [.int (Ii v9)] (J v9 M10)) (by
        intro v9 M10 hv9
        refine go_istore (i := 6) (L' := [(6, .int (Ii v9)), (0, .ref (base + 0)), (2, .ref (base + 684))]) X dL_isRewritten_96 (by decide) rfl ?_
        refine go_aload_n X dL_isRewritten_98 rfl 2 rfl ?_
        refine go_bipush (v := 6) X dL_isRewritten_99 (by decide) ?_
        refine go_aload_n X dL_isRewritten_101 rfl 1 rfl ?_
        refine go_ccall X (ok_X11_found l D base M10 ) dL_isRewritten_102 lw938 lw939 lw940 lw19 ⟨lw854, cy_X11_found, Nat.le_of_ble_eq_true rfl, Nat.le_of_ble_eq_true rfl⟩ rfl rfl rfl rfl (Nat.le_of_ble_eq_true rfl) ⟨Nat.le_of_ble_eq_true rfl, Nat.le_of_ble_eq_true rfl⟩ (fun v13 M12 hv13 => ?_)
        refine go_iastore X dL_isRewritten_105 tln684 tl684 kI_6 hv13 (fun M14 => ?_)
        refine go_iload X dL_isRewritten_106 0 rfl ?_
        exact go_qzreturn X hrt hlk dL_isRewritten_108 hv9 hv9 (Nat.le_of_ble_eq_true rfl) (Nat.le_of_ble_eq_true rfl)
        )
        (fun J96_11 hJ96_11 => ?_)
    refine go_lt (fun J => ∀ (M15 : Mm), Go p l e (rmX 9 221 3 18) s m args below meth c D TL 686 base 7 3 18 (FinQ D base 3 18 below args s bo) M15 95 [(0, .ref (base + 0)), (2, .ref (base + 684))] [] (J M15)) (by
        intro M15
        refine go_iconst (v := 0) X dL_isRewritten_95 rfl ?_
        exact hJ96_11 0 M15 (Or.inl rfl)
        )
        (fun J95_16 hJ95_16 => ?_)
    refine go_if_lt (tgt := 95) X dL_isRewritten_48 rfl hv2 (fun c17 => ?_) (fun c17 => ?_)
    · refine go_sub [2, 4] rfl ?_
      exact hJ95_16 M5
    · refine go_iload X dL_isRewritten_51 1 rfl ?_
      refine go_aload_n X dL_isRewritten_53 rfl 4 rfl ?_
      refine go_iconst (v := 0) X dL_isRewritten_54 rfl ?_
      refine go_iaload X dL_isRewritten_55 tln684 tl684 kI_0 (fun v18 hv18 => ?_)
      refine go_icmp_ge (tgt := 95) X dL_isRewritten_56 rfl hv2 hv18 (fun c19 => ?_) (fun c19 => ?_)
      · refine go_sub [2, 4] rfl ?_
        exact hJ95_16 M5
      · refine go_aload_n X dL_isRewritten_59 rfl 3 rfl ?_
        refine go_iload X dL_isRewritten_60 1 rfl ?_
        refine go_iaload X dL_isRewritten_62 tln681 tl681 hv2 (fun v20 hv20 => ?_)
        refine go_bipush (v := 10) X dL_isRewritten_63 (by decide) ?_
        refine go_irem X dL_isRewritten_65 hv20 kI_10 (by decide) (fun v21 hv21 => ?_)
        refine go_aload_n X dL_isRewritten_66 rfl 3 rfl ?_
        refine go_iload X dL_isRewritten_67 0 rfl ?_
        refine go_iaload X dL_isRewritten_69 tln681 tl681 hv8 (fun v22 hv22 => ?_)
        refine go_bipush (v := 10) X dL_isRewritten_70 (by decide) ?_
        refine go_irem X dL_isRewritten_72 hv22 kI_10 (by decide) (fun v23 hv23 => ?_)
        refine go_icmp_ne (tgt := 95) X dL_isRewritten_73 rfl hv21 hv23 (fun c24 => ?_) (fun c24 => ?_)
        · refine go_sub [2, 4] rfl ?_
          exact hJ95_16 M5
        · refine go_aload_n X dL_isRewritten_76 rfl 3 rfl ?_
          refine go_iload X dL_isRewritten_77 1 rfl ?_
          refine goI (fun H locs ls r ho hW hL => runS X (ok_L_children l D base M5 v2 hv2 H.size r ho) dL_isRewritten_79 lw933 lw934 lw926 ⟨lw923, cy_L_children, Nat.le_of_ble_eq_true rfl, Nat.le_of_ble_eq_true rfl⟩ rfl rfl (Nat.le_of_ble_eq_true rfl) hW hL ⟨Nat.le_of_ble_eq_true rfl, Nat.le_of_ble_eq_true rfl⟩) (fun v26 M25 hv26 => ?_)
          refine go_aload_n X dL_isRewritten_82 rfl 3 rfl ?_
          refine go_iload X dL_isRewritten_83 0 rfl ?_
          refine goI (fun H locs ls r ho hW hL => runS X (ok_L_children l D base M25 v8 hv8 H.size r ho) dL_isRewritten_85 lw933 lw934 lw926 ⟨lw923, cy_L_children, Nat.le_of_ble_eq_true rfl, Nat.le_of_ble_eq_true rfl⟩ rfl rfl (Nat.le_of_ble_eq_true rfl) hW hL ⟨Nat.le_of_ble_eq_true rfl, Nat.le_of_ble_eq_true rfl⟩) (fun v28 M27 hv28 => ?_)
          refine go_icmp_ne (tgt := 95) X dL_isRewritten_88 rfl hv26 hv28 (fun c29 => ?_) (fun c29 => ?_)
          · refine go_sub [2, 4] rfl ?_
            exact hJ95_16 M27
          · refine go_iconst (v := 1) X dL_isRewritten_91 rfl ?_
            refine go_goto (tgt := 96) X dL_isRewritten_92 rfl ?_
            refine go_sub [2, 4] rfl ?_
            exact hJ96_11 1 M27 (Or.inr rfl)
  · refine go_iload X dL_isRewritten_20 0 rfl ?_
    refine go_ldc (v := (-3000000)) X dL_isRewritten_22 lw870 rfl ?_
    refine go_lt (fun J => ∀ (v30 : Int) (M31 : Mm), bo v30 → Go p l e (rmX 9 221 3 18) s m args below meth c D TL 686 base 7 3 18 (FinQ D base 3 18 below args s bo) M31 32 [] [.int (Ii v30)] (J v30 M31)) (by
        intro v30 M31 hv30
        exact go_qzreturn X hrt hlk dL_isRewritten_32 hv30 hv30 (Nat.le_of_ble_eq_true rfl) (Nat.le_of_ble_eq_true rfl)
        )
        (fun J32_32 hJ32_32 => ?_)
    refine go_icmp_ne (tgt := 31) X dL_isRewritten_24 rfl hv2 kI_m3000000 (fun c33 => ?_) (fun c33 => ?_)
    · refine go_iconst (v := 0) X dL_isRewritten_31 rfl ?_
      refine go_sub [] rfl ?_
      exact hJ32_32 0 M1 (Or.inl rfl)
    · refine go_iconst (v := 1) X dL_isRewritten_27 rfl ?_
      refine go_goto (tgt := 32) X dL_isRewritten_28 rfl ?_
      refine go_sub [] rfl ?_
      exact hJ32_32 1 M1 (Or.inr rfl)
def f_L_isEquation_L83_257 (N : Nat) (xs : Nat → Int32) (a7 : Int) (v17 : Int) (J457_28 : Int → Int → Mm → Rs) (rc83_107 : Int × Int × Int × Mm → Rs) : Int × Int × Int × Mm → Rs := fun (v103, v104, v105, M106) =>
if 8 ≤ v105 then (
J457_28 v103 v104 M106) else (
if v103 = 0 then (
J457_28 v103 v104 M106) else (
Lt (wr (2 * v105)) fun v110 =>
Lt (wr (a7 + v110)) fun v111 =>
Lt (wr (v111 + 1)) fun v112 =>
Cl (f_L_part N xs v112 20 M106) fun v114 M113 =>
Lt (fun (v115 : Int) (v116 : Int) (v117 : Int) (v118 : Int) (M119 : Mm) => 
Lt (fun (v121 : Int) (v122 : Int) (v123 : Int) (v124 : Int) (M125 : Mm) => 
Lt (fun (v127 : Int) (v128 : Int) (v129 : Int) (v130 : Int) (M131 : Mm) => 
Lt (fun (v133 : Int) (v134 : Int) (v135 : Int) (M136 : Mm) => 
Lt (wr (v135 + 1)) fun v138 =>
rc83_107 (v133, v134, v138, M136)) fun J451_137 =>
if v118 < 0 then (
J451_137 v127 v128 v129 M131) else (
Lt (fun (v140 : Int) (v141 : Int) (v142 : Int) (M143 : Mm) => 
Lt (wr (v141 + v142)) fun v145 =>
Cl (f_L_does4 v118 v124 v130 0 0 M143) fun v147 M146 =>
Lt (fun (v148 : Int) (v149 : Int) (M150 : Mm) => 
J451_137 v149 v145 v148 M150) fun J449_151 =>
if ¬ v147 = v145 then (
J449_151 v140 0 M146) else (
J449_151 v140 1 M146)) fun J423_144 =>
Lt (fun (v153 : Int) (v154 : Int) (M155 : Mm) => 
J423_144 v153 v154 1 M155) fun J395_156 =>
if v118 < 7 then (
J395_156 v129 v128 M131) else (
if ¬ v118 = 14 then (
if ¬ v118 = 7 then (
if ¬ v118 = 13 then (
J423_144 v129 v128 ((-1)) M131) else (
J423_144 v129 v128 ((-2)) M131)) else (
J423_144 v129 v128 0 M131)) else (
J395_156 v129 v128 M131)))) fun J372_132 =>
Lt (fun (v161 : Int) (v162 : Int) (v163 : Int) (M164 : Mm) => 
Lt (wr (2 * v163)) fun v166 =>
Lt (wr (a7 + v166)) fun v167 =>
Lt (wr (v167 + 2)) fun v168 =>
Cl (f_L_part N xs v168 3 M164) fun v170 M169 =>
J372_132 v161 v162 v163 v170 M169) fun J353_165 =>
if v118 = 2 then (
J353_165 v121 v122 v123 M125) else (
if ¬ v118 = 6 then (
J372_132 v121 v122 v123 0 M125) else (
J353_165 v121 v122 v123 M125))) fun J338_126 =>
if ¬ v118 = 0 then (
Lt (fun (v174 : Int) (v175 : Int) (v176 : Int) (M177 : Mm) => 
Lt (wr (2 * v176)) fun v179 =>
Lt (wr (a7 + v179)) fun v180 =>
Lt (wr (v180 + 2)) fun v181 =>
gd (0 ≤ 1 ∧ 1 < 11) <|
Lt (M177 684 1) fun v182 =>
Cl (f_L_part N xs v181 v182 M177) fun v184 M183 =>
J338_126 v174 v175 v176 v184 M183) fun J286_178 =>
if v118 = 1 then (
J286_178 v115 v116 v117 M119) else (
if v118 = 2 then (
J286_178 v115 v116 v117 M119) else (
if ¬ v118 = 7 then (
Lt (fun (v188 : Int) (v189 : Int) (v190 : Int) (M191 : Mm) => 
Lt (wr (2 * v190)) fun v193 =>
Lt (wr (a7 + v193)) fun v194 =>
Lt (wr (v194 + 2)) fun v195 =>
Cl (f_L_part N xs v195 3 M191) fun v197 M196 =>
J338_126 v188 v189 v190 v197 M196) fun J319_192 =>
if v118 = 3 then (
J319_192 v115 v116 v117 M119) else (
if ¬ v118 = 4 then (
J338_126 v115 v116 v117 0 M119) else (
J319_192 v115 v116 v117 M119))) else (
J286_178 v115 v116 v117 M119)))) else (
Lt (wr (2 * v117)) fun v200 =>
Lt (wr (a7 + v200)) fun v201 =>
Lt (wr (v201 + 2)) fun v202 =>
Cl (f_L_part N xs v202 1000 M119) fun v204 M203 =>
J338_126 v115 v116 v117 v204 M203)) fun J240_120 =>
Lt (fun (v205 : Int) (v206 : Int) (v207 : Int) (M208 : Mm) => 
Lt (fun (v210 : Int) (v211 : Int) (v212 : Int) (M213 : Mm) => 
Lt (wr (v212 + v211)) fun v215 =>
Lt (wr (v215 - v17)) fun v216 =>
Lt (fun (v217 : Int) (v218 : Int) (v219 : Int) (M220 : Mm) => 
J240_120 v217 v218 v219 ((-1)) M220) fun J239_221 =>
if 7 ≤ v216 then (
J239_221 v210 v211 v212 M213) else (
Lt (fun (v223 : Int) (v224 : Int) (v225 : Int) (M226 : Mm) => 
Lt (jrem v114 8) fun v228 =>
if ¬ v228 = 7 then (
Lt (jrem v114 8) fun v230 =>
J240_120 v223 v224 v225 v230 M226) else (
J240_120 v223 v224 v225 14 M226)) fun J216_227 =>
if v211 < v17 then (
J216_227 v210 v211 v212 M213) else (
if v114 ≤ 5 then (
J239_221 v210 v211 v212 M213) else (
J216_227 v210 v211 v212 M213)))) fun J190_214 =>
if v206 ≤ 0 then (
J190_214 v205 v206 v207 M208) else (
if ¬ v114 = 19 then (
J190_214 v205 v206 v207 M208) else (
J240_120 v205 v206 v207 7 M208))) fun J173_209 =>
if v104 ≤ v17 then (
J173_209 v103 v104 v105 M113) else (
Lt (fun (v236 : Int) (v237 : Int) (v238 : Int) (M239 : Mm) => 
Lt (wr (v17 + 1)) fun v241 =>
Lt (fun (v242 : Int) (v243 : Int) (v244 : Int) (M245 : Mm) => 
Lt (jrem v114 5) fun v247 =>
Lt (wr (8 + v247)) fun v248 =>
J240_120 v242 v243 v244 v248 M245) fun J163_246 =>
if v237 ≤ v241 then (
J163_246 v236 v237 v238 M239) else (
Lt (jrem v114 3) fun v250 =>
if ¬ v250 = 0 then (
J163_246 v236 v237 v238 M239) else (
J240_120 v236 v237 v238 13 M239))) fun J142_240 =>
if v114 < 12 then (
J142_240 v103 v104 v105 M113) else (
Lt (wr (8 - v104)) fun v253 =>
Lt (wr (v253 + v17)) fun v254 =>
Lt (wr (v254 - 2)) fun v255 =>
if v105 ≤ v255 then (
J173_209 v103 v104 v105 M113) else (
J142_240 v103 v104 v105 M113)))))
def f_L_isEquation (N : Nat) (xs : Nat → Int32) (a7 : Int) (M : Mm) : Rs :=
gd (0 ≤ 1 ∧ 1 < 11) <|
Lt (M 684 1) fun v1 =>
Lt (fun (M2 : Mm) => 
Cl (f_L_does 5 0 0 ((-1)) 0 0 M2) fun v5 M4 =>
Lt (fun (v6 : Int) (M7 : Mm) => 
some (v6, M7)) fun J34_8 =>
if ¬ v5 = ((-3000000)) then (
J34_8 0 M4) else (
J34_8 1 M4)) fun J14_3 =>
if v1 = 0 then (
J14_3 M) else (
gd (0 ≤ 0 ∧ 0 < 11) <|
Lt (M 684 0) fun v11 =>
if ¬ v11 = 0 then (
gd (0 ≤ 1 ∧ 1 < 11) <|
Lt (M 684 1) fun v13 =>
Cl (f_L_part N xs a7 v13 M) fun v15 M14 =>
gd (0 ≤ v15 ∧ v15 < 6) <|
Lt (M14 683 v15.toNat) fun v16 =>
Lt (fun (v17 : Int) (M18 : Mm) => 
Clj (f_X11_dropSteps M18) M18 fun v21 M20 =>
Lt (fun (v22 : Int) (M23 : Mm) => 
Lt (fun (v25 : Int) (v26 : Int) (M27 : Mm) => 
Lt (wr (a7 + 17)) fun v29 =>
gd (0 ≤ 0 ∧ 0 < 11) <|
Lt (M27 684 0) fun v30 =>
Cl (f_L_part N xs v29 v30 M27) fun v32 M31 =>
gd (0 ≤ v15 ∧ v15 < 6) <|
Lt (M31 683 v15.toNat) fun v33 =>
Lt (fun (v34 : Int) (v35 : Int) (v36 : Int) (M37 : Mm) => 
Lt (wr (a7 + 19)) fun v39 =>
Cl (f_L_part N xs v39 4 M37) fun v41 M40 =>
Cl (f_L_children v32 M40) fun v43 M42 =>
Lt (fun (v44 : Int) (v45 : Int) (v46 : Int) (M47 : Mm) => 
Cl (f_L_does 5 v32 v15 v36 v41 0 M47) fun v50 M49 =>
Lt (fun (v51 : Int) (v52 : Int) (M53 : Mm) => 
Lt (fun (v55 : Int) (M56 : Mm) => 
Lt (fun (v58 : Int) (M59 : Mm) => 
some (v58, M59)) fun J697_60 =>
Lt (fun (M61 : Mm) => 
J697_60 0 M61) fun J696_62 =>
if v55 = 0 then (
J696_62 M56) else (
if ¬ v50 = v52 then (
J696_62 M56) else (
gd (0 ≤ v15 ∧ v15 < 6) <|
Lt (M56 683 v15.toNat) fun v65 =>
Lt (fun (v66 : Int) (M67 : Mm) => 
Cl (f_L_does 5 v32 v15 v66 0 0 M67) fun v70 M69 =>
if ¬ v70 = ((-2000000)) then (
J696_62 M69) else (
J697_60 1 M69)) fun J682_68 =>
if ¬ v65 = 1 then (
gd (0 ≤ v15 ∧ v15 < 6) <|
Lt (M56 683 v15.toNat) fun v73 =>
if ¬ v73 = 2 then (
J682_68 ((-2)) M56) else (
J682_68 ((-1)) M56)) else (
J682_68 ((-1)) M56)))) fun J638_57 =>
if v52 < 0 then (
J638_57 v51 M53) else (
gd (0 ≤ 2 ∧ 2 < 11) <|
Lt (M53 684 2) fun v76 =>
Lt (wr (20 * v15)) fun v77 =>
Lt (wr (v32 + v77)) fun v78 =>
Lt (wr (v36 + 2)) fun v79 =>
Lt (wr (200 * v79)) fun v80 =>
Lt (wr (v78 + v80)) fun v81 =>
Lt (wr (2000 * v41)) fun v82 =>
Lt (wr (v81 + v82)) fun v83 =>
gd (0 ≤ v76 ∧ v76 < 30) <|
Lt (up M53 682 v76.toNat v83) fun M84 =>
gd (0 ≤ 2 ∧ 2 < 11) <|
Lt (M84 684 2) fun v85 =>
Lt (wr (v85 + 1)) fun v86 =>
gd (0 ≤ 2 ∧ 2 < 11) <|
Lt (up M84 684 2 v86) fun M87 =>
J638_57 v51 M87)) fun J593_54 =>
if ¬ v46 = 0 then (
Lt (fun (v89 : Int) (M90 : Mm) => 
J593_54 v89 ((-1000000)) M90) fun J584_91 =>
if ¬ v45 = v17 then (
J584_91 v44 M49) else (
gd (0 ≤ 2 ∧ 2 < 11) <|
Lt (M49 684 2) fun v93 =>
if ¬ v93 = 30 then (
gd (0 ≤ 2 ∧ 2 < 11) <|
Lt (M49 684 2) fun v95 =>
J593_54 v44 v95 M49) else (
J584_91 v44 M49))) else (
J593_54 v44 ((-3000000)) M49)) fun J540_48 =>
if v43 ≤ v36 then (
J540_48 v34 v35 0 M42) else (
J540_48 v34 v35 1 M42)) fun J509_38 =>
if ¬ v33 = 2 then (
gd (0 ≤ v15 ∧ v15 < 6) <|
Lt (M31 683 v15.toNat) fun v98 =>
if ¬ v98 = 1 then (
J509_38 v25 v26 ((-1)) M31) else (
Lt (wr (a7 + 18)) fun v100 =>
Cl (f_L_part N xs v100 3 M31) fun v102 M101 =>
J509_38 v25 v26 v102 M101)) else (
J509_38 v25 v26 ((-2)) M31)) fun J457_28 =>
Lp (f_L_isEquation_L83_257 N xs a7 v17 J457_28) FU (v22, 0, 0, M23)) fun J75_24 =>
if v21 < 0 then (
J75_24 0 M20) else (
J75_24 1 M20)) fun J61_19 =>
if ¬ v16 = 2 then (
J61_19 1 M14) else (
J61_19 2 M14)) else (
J14_3 M))
theorem cy_L_isEquation : yL_isEquation.cls ≠ "java/lang/invoke/MethodHandle" ∧ yL_isEquation.cls ≠ "java/lang/invoke/VarHandle" ∧ (parseMethodDescriptor yL_isEquation.desc).map (fun d => d.parameters.length) = some 7 := ⟨by decide +kernel, by decide +kernel, by decide +kernel⟩
set_option maxRecDepth 20000 in
theorem ok_L_isEquation (l : Launch) (hl : l.stackTraces = false) (D : Dd) (base b N : Nat) (xs : Nat → Int32) (hN : N ≤ 260) (M : Mm) (a7 : Int) (ha7 : i32 a7) : OkQ l D base b N xs yL_isEquation (.code yL_isEquation cL_isEquation 17 (some .boolean)) 9 221 6 36 [.ref (base + 0), .ref (base + 681), .ref (base + 682), .ref (base + 683), .ref (base + 684), .ref b, .int (Ii a7)] M bo (f_L_isEquation N xs a7 M) := by
  have hN32 : i32 (N : Int) := by unfold i32; omega
  refine metQ (by decide +kernel) [(0, .ref (base + 0)), (1, .ref (base + 681)), (2, .ref (base + 682)), (3, .ref (base + 683)), (4, .ref (base + 684)), (5, .ref b), (6, .int (Ii a7))] rfl (Nat.le_of_ble_eq_true rfl) (fun p e s m args below meth c X Y hrt hlk => ?_)
  have X : Cx p s m args c cL_isEquation D 17 RL := X
  unfold f_L_isEquation
  refine go_aload X dL_isEquation_0 4 rfl ?_
  refine go_iconst (v := 1) X dL_isEquation_2 rfl ?_
  refine go_iaload X dL_isEquation_3 tln684 tl684 kI_1 (fun v1 hv1 => ?_)
  refine go_lt (fun J => ∀ (M2 : Mm), Go p l e (rmX 9 221 6 36) s m args below meth c D TL 686 base 17 0 0 (FinQ D base 6 36 below args s bo) M2 14 [(0, .ref (base + 0))] [] (J M2)) (by
      intro M2
      refine go_aload_n X dL_isEquation_14 rfl 0 rfl ?_
      refine go_iconst (v := 5) X dL_isEquation_15 rfl ?_
      refine go_iconst (v := 0) X dL_isEquation_16 rfl ?_
      refine go_iconst (v := 0) X dL_isEquation_17 rfl ?_
      refine go_iconst (v := (-1)) X dL_isEquation_18 rfl ?_
      refine go_iconst (v := 0) X dL_isEquation_19 rfl ?_
      refine go_iconst (v := 0) X dL_isEquation_20 rfl ?_
      refine go_lcallH X Y (ok_L_does l hl D base b N xs hN M2 5 kI_5 0 kI_0 0 kI_0 ((-1)) kI_m1 0 kI_0 0 kI_0) dL_isEquation_21 lw931 lw932 lw926 lw921 cy_L_does ⟨Nat.le_of_ble_eq_true rfl, Nat.le_of_ble_eq_true rfl⟩ rfl rfl (Nat.le_of_ble_eq_true rfl) ⟨Nat.le_of_ble_eq_true rfl, Nat.le_of_ble_eq_true rfl⟩ (fun v5 M4 hv5 => ?_)
      refine go_ldc (v := (-3000000)) X dL_isEquation_24 lw870 rfl ?_
      refine go_lt (fun J => ∀ (v6 : Int) (M7 : Mm), bo v6 → Go p l e (rmX 9 221 6 36) s m args below meth c D TL 686 base 17 3 18 (FinQ D base 6 36 below args s bo) M7 34 [] [.int (Ii v6)] (J v6 M7)) (by
          intro v6 M7 hv6
          exact go_qzreturn X hrt hlk dL_isEquation_34 hv6 hv6 (Nat.le_of_ble_eq_true rfl) (Nat.le_of_ble_eq_true rfl)
          )
          (fun J34_8 hJ34_8 => ?_)
      refine go_icmp_ne (tgt := 33) X dL_isEquation_26 rfl hv5 kI_m3000000 (fun c9 => ?_) (fun c9 => ?_)
      · refine go_iconst (v := 0) X dL_isEquation_33 rfl ?_
        refine go_sub [] rfl ?_
        exact hJ34_8 0 M4 (Or.inl rfl)
      · refine go_iconst (v := 1) X dL_isEquation_29 rfl ?_
        refine go_goto (tgt := 34) X dL_isEquation_30 rfl ?_
        refine go_sub [] rfl ?_
        exact hJ34_8 1 M4 (Or.inr rfl)
      )
      (fun J14_3 hJ14_3 => ?_)
  refine go_if_eq (tgt := 14) X dL_isEquation_4 rfl hv1 (fun c10 => ?_) (fun c10 => ?_)
  · refine go_sub [0] rfl ?_
    exact hJ14_3 M
  · refine go_aload X dL_isEquation_7 4 rfl ?_
    refine go_iconst (v := 0) X dL_isEquation_9 rfl ?_
    refine go_iaload X dL_isEquation_10 tln684 tl684 kI_0 (fun v11 hv11 => ?_)
    refine go_if_ne (tgt := 35) X dL_isEquation_11 rfl hv11 (fun c12 => ?_) (fun c12 => ?_)
    · refine go_aload X dL_isEquation_35 5 rfl ?_
      refine go_iload X dL_isEquation_37 6 rfl ?_
      refine go_aload X dL_isEquation_39 4 rfl ?_
      refine go_iconst (v := 1) X dL_isEquation_41 rfl ?_
      refine go_iaload X dL_isEquation_42 tln684 tl684 kI_1 (fun v13 hv13 => ?_)
      refine go_lcall X Y (ok_L_part l hl D base b N xs hN M a7 ha7 v13 hv13) dL_isEquation_43 lw945 lw946 lw926 ⟨lw865, cy_L_part, Nat.le_of_ble_eq_true rfl, Nat.le_of_ble_eq_true rfl⟩ rfl rfl (Nat.le_of_ble_eq_true rfl) ⟨Nat.le_of_ble_eq_true rfl, Nat.le_of_ble_eq_true rfl⟩ (fun v15 M14 hv15 => ?_)
      refine go_istore (i := 7) (L' := [(7, .int (Ii v15)), (0, .ref (base + 0)), (1, .ref (base + 681)), (2, .ref (base + 682)), (3, .ref (base + 683)), (4, .ref (base + 684)), (5, .ref b), (6, .int (Ii a7))]) X dL_isEquation_46 (by decide) rfl ?_
      refine go_aload_n X dL_isEquation_48 rfl 4 rfl ?_
      refine go_iload X dL_isEquation_49 0 rfl ?_
      refine go_iaload X dL_isEquation_51 tln683 tl683 hv15 (fun v16 hv16 => ?_)
      refine go_iconst (v := 2) X dL_isEquation_52 rfl ?_
      refine go_lt (fun J => ∀ (v17 : Int) (M18 : Mm), i32 v17 → Go p l e (rmX 9 221 6 36) s m args below meth c D TL 686 base 17 0 0 (FinQ D base 6 36 below args s bo) M18 61 [(0, .ref (base + 0)), (1, .ref (base + 681)), (2, .ref (base + 682)), (3, .ref (base + 683)), (4, .ref (base + 684)), (5, .ref b), (6, .int (Ii a7)), (7, .int (Ii v15))] [.int (Ii v17)] (J v17 M18)) (by
          intro v17 M18 hv17
          refine go_istore (i := 8) (L' := [(8, .int (Ii v17)), (0, .ref (base + 0)), (1, .ref (base + 681)), (2, .ref (base + 682)), (3, .ref (base + 683)), (4, .ref (base + 684)), (5, .ref b), (6, .int (Ii a7)), (7, .int (Ii v15))]) X dL_isEquation_61 (by decide) rfl ?_
          refine go_aload_n X dL_isEquation_63 rfl 1 rfl ?_
          refine go_ccall X (ok_X11_dropSteps l D base M18 ) dL_isEquation_64 lw947 lw948 lw949 lw19 ⟨lw761, cy_X11_dropSteps, Nat.le_of_ble_eq_true rfl, Nat.le_of_ble_eq_true rfl⟩ rfl rfl rfl rfl (Nat.le_of_ble_eq_true rfl) ⟨Nat.le_of_ble_eq_true rfl, Nat.le_of_ble_eq_true rfl⟩ (fun v21 M20 hv21 => ?_)
          refine go_lt (fun J => ∀ (v22 : Int) (M23 : Mm), bo v22 → Go p l e (rmX 9 221 6 36) s m args below meth c D TL 686 base 17 0 0 (FinQ D base 6 36 below args s bo) M23 75 [(0, .ref (base + 0)), (1, .ref (base + 681)), (2, .ref (base + 682)), (3, .ref (base + 683)), (4, .ref (base + 684)), (5, .ref b), (6, .int (Ii a7)), (7, .int (Ii v15)), (8, .int (Ii v17))] [.int (Ii v22)] (J v22 M23)) (by
              intro v22 M23 hv22
              refine go_istore (i := 9) (L' := [(9, .int (Ii v22)), (0, .ref (base + 0)), (1, .ref (base + 681)), (2, .ref (base + 682)), (3, .ref (base + 683)), (4, .ref (base + 684)), (5, .ref b), (6, .int (Ii a7)), (7, .int (Ii v15)), (8, .int (Ii v17))]) X dL_isEquation_75 (by decide) rfl ?_
              refine go_iconst (v := 0) X dL_isEquation_77 rfl ?_
              refine go_istore (i := 10) (L' := [(10, .int (Ii 0)), (9, .int (Ii v22)), (0, .ref (base + 0)), (1, .ref (base + 681)), (2, .ref (base + 682)), (3, .ref (base + 683)), (4, .ref (base + 684)), (5, .ref b), (6, .int (Ii a7)), (7, .int (Ii v15)), (8, .int (Ii v17))]) X dL_isEquation_78 (by decide) rfl ?_
              refine go_iconst (v := 0) X dL_isEquation_80 rfl ?_
              refine go_istore (i := 11) (L' := [(11, .int (Ii 0)), (10, .int (Ii 0)), (9, .int (Ii v22)), (0, .ref (base + 0)), (1, .ref (base + 681)), (2, .ref (base + 682)), (3, .ref (base + 683)), (4, .ref (base + 684)), (5, .ref b), (6, .int (Ii a7)), (7, .int (Ii v15)), (8, .int (Ii v17))]) X dL_isEquation_81 (by decide) rfl ?_
              refine go_lt (fun J => ∀ (v25 : Int) (v26 : Int) (M27 : Mm), bo v25 → i32 v26 → Go p l e (rmX 9 221 6 36) s m args below meth c D TL 686 base 17 0 0 (FinQ D base 6 36 below args s bo) M27 457 [(0, .ref (base + 0)), (1, .ref (base + 681)), (2, .ref (base + 682)), (3, .ref (base + 683)), (4, .ref (base + 684)), (5, .ref b), (6, .int (Ii a7)), (7, .int (Ii v15)), (8, .int (Ii v17)), (9, .int (Ii v25)), (10, .int (Ii v26))] [] (J v25 v26 M27)) (by
                  intro v25 v26 M27 hv25 hv26
                  refine go_aload X dL_isEquation_457 5 rfl ?_
                  refine go_iload X dL_isEquation_459 6 rfl ?_
                  refine go_bipush (v := 17) X dL_isEquation_461 (by decide) ?_
                  refine go_iadd X dL_isEquation_463 ha7 kI_17 (fun v29 hv29 => ?_)
                  refine go_aload X dL_isEquation_464 4 rfl ?_
                  refine go_iconst (v := 0) X dL_isEquation_466 rfl ?_
                  refine go_iaload X dL_isEquation_467 tln684 tl684 kI_0 (fun v30 hv30 => ?_)
                  refine go_lcall X Y (ok_L_part l hl D base b N xs hN M27 v29 hv29 v30 hv30) dL_isEquation_468 lw945 lw946 lw926 ⟨lw865, cy_L_part, Nat.le_of_ble_eq_true rfl, Nat.le_of_ble_eq_true rfl⟩ rfl rfl (Nat.le_of_ble_eq_true rfl) ⟨Nat.le_of_ble_eq_true rfl, Nat.le_of_ble_eq_true rfl⟩ (fun v32 M31 hv32 => ?_)
                  refine go_istore (i := 11) (L' := [(11, .int (Ii v32)), (0, .ref (base + 0)), (1, .ref (base + 681)), (2, .ref (base + 682)), (3, .ref (base + 683)), (4, .ref (base + 684)), (5, .ref b), (6, .int (Ii a7)), (7, .int (Ii v15)), (8, .int (Ii v17)), (9, .int (Ii v25)), (10, .int (Ii v26))]) X dL_isEquation_471 (by decide) rfl ?_
                  refine go_aload_n X dL_isEquation_473 rfl 4 rfl ?_
                  refine go_iload X dL_isEquation_474 8 rfl ?_
                  refine go_iaload X dL_isEquation_476 tln683 tl683 hv15 (fun v33 hv33 => ?_)
                  refine go_iconst (v := 2) X dL_isEquation_477 rfl ?_
                  refine go_lt (fun J => ∀ (v34 : Int) (v35 : Int) (v36 : Int) (M37 : Mm), bo v34 → i32 v35 → i32 v36 → Go p l e (rmX 9 221 6 36) s m args below meth c D TL 686 base 17 0 0 (FinQ D base 6 36 below args s bo) M37 509 [(0, .ref (base + 0)), (1, .ref (base + 681)), (2, .ref (base + 682)), (3, .ref (base + 683)), (4, .ref (base + 684)), (5, .ref b), (6, .int (Ii a7)), (7, .int (Ii v15)), (8, .int (Ii v17)), (9, .int (Ii v34)), (10, .int (Ii v35)), (11, .int (Ii v32))] [.int (Ii v36)] (J v34 v35 v36 M37)) (by
                      intro v34 v35 v36 M37 hv34 hv35 hv36
                      refine go_istore (i := 12) (L' := [(12, .int (Ii v36)), (0, .ref (base + 0)), (1, .ref (base + 681)), (2, .ref (base + 682)), (3, .ref (base + 683)), (4, .ref (base + 684)), (5, .ref b), (6, .int (Ii a7)), (7, .int (Ii v15)), (8, .int (Ii v17)), (9, .int (Ii v34)), (10, .int (Ii v35)), (11, .int (Ii v32))]) X dL_isEquation_509 (by decide) rfl ?_
                      refine go_aload X dL_isEquation_511 6 rfl ?_
                      refine go_iload X dL_isEquation_513 7 rfl ?_
                      refine go_bipush (v := 19) X dL_isEquation_515 (by decide) ?_
                      refine go_iadd X dL_isEquation_517 ha7 kI_19 (fun v39 hv39 => ?_)
                      refine go_iconst (v := 4) X dL_isEquation_518 rfl ?_
                      refine go_lcall X Y (ok_L_part l hl D base b N xs hN M37 v39 hv39 4 kI_4) dL_isEquation_519 lw945 lw946 lw926 ⟨lw865, cy_L_part, Nat.le_of_ble_eq_true rfl, Nat.le_of_ble_eq_true rfl⟩ rfl rfl (Nat.le_of_ble_eq_true rfl) ⟨Nat.le_of_ble_eq_true rfl, Nat.le_of_ble_eq_true rfl⟩ (fun v41 M40 hv41 => ?_)
                      refine go_istore (i := 13) (L' := [(13, .int (Ii v41)), (12, .int (Ii v36)), (0, .ref (base + 0)), (1, .ref (base + 681)), (2, .ref (base + 682)), (3, .ref (base + 683)), (4, .ref (base + 684)), (5, .ref b), (6, .int (Ii a7)), (7, .int (Ii v15)), (8, .int (Ii v17)), (9, .int (Ii v34)), (10, .int (Ii v35)), (11, .int (Ii v32))]) X dL_isEquation_522 (by decide) rfl ?_
                      refine go_iload X dL_isEquation_524 1 rfl ?_
                      refine go_aload_n X dL_isEquation_526 rfl 3 rfl ?_
                      refine go_iload X dL_isEquation_527 13 rfl ?_
                      refine goI (fun H locs ls r ho hW hL => runS X (ok_L_children l D base M40 v32 hv32 H.size r ho) dL_isEquation_529 lw933 lw934 lw926 ⟨lw923, cy_L_children, Nat.le_of_ble_eq_true rfl, Nat.le_of_ble_eq_true rfl⟩ rfl rfl (Nat.le_of_ble_eq_true rfl) hW hL ⟨Nat.le_of_ble_eq_true rfl, Nat.le_of_ble_eq_true rfl⟩) (fun v43 M42 hv43 => ?_)
                      refine go_lt (fun J => ∀ (v44 : Int) (v45 : Int) (v46 : Int) (M47 : Mm), bo v44 → i32 v45 → bo v46 → Go p l e (rmX 9 221 6 36) s m args below meth c D TL 686 base 17 0 0 (FinQ D base 6 36 below args s bo) M47 540 [(0, .ref (base + 0)), (2, .ref (base + 682)), (3, .ref (base + 683)), (4, .ref (base + 684)), (7, .int (Ii v15)), (8, .int (Ii v17)), (9, .int (Ii v44)), (10, .int (Ii v45)), (11, .int (Ii v32)), (12, .int (Ii v36)), (13, .int (Ii v41))] [.int (Ii v46)] (J v44 v45 v46 M47)) (by
                          intro v44 v45 v46 M47 hv44 hv45 hv46
                          refine go_istore (i := 14) (L' := [(14, .int (Ii v46)), (0, .ref (base + 0)), (2, .ref (base + 682)), (3, .ref (base + 683)), (4, .ref (base + 684)), (7, .int (Ii v15)), (8, .int (Ii v17)), (9, .int (Ii v44)), (10, .int (Ii v45)), (11, .int (Ii v32)), (12, .int (Ii v36)), (13, .int (Ii v41))]) X dL_isEquation_540 (by decide) rfl ?_
                          refine go_aload_n X dL_isEquation_542 rfl 1 rfl ?_
                          refine go_iconst (v := 5) X dL_isEquation_543 rfl ?_
                          refine go_iload X dL_isEquation_544 9 rfl ?_
                          refine go_iload X dL_isEquation_546 5 rfl ?_
                          refine go_iload X dL_isEquation_548 10 rfl ?_
                          refine go_iload X dL_isEquation_550 11 rfl ?_
                          refine go_iconst (v := 0) X dL_isEquation_552 rfl ?_
                          refine go_lcallH X Y (ok_L_does l hl D base b N xs hN M47 5 kI_5 v32 hv32 v15 hv15 v36 hv36 v41 hv41 0 kI_0) dL_isEquation_553 lw931 lw932 lw926 lw921 cy_L_does ⟨Nat.le_of_ble_eq_true rfl, Nat.le_of_ble_eq_true rfl⟩ rfl rfl (Nat.le_of_ble_eq_true rfl) ⟨Nat.le_of_ble_eq_true rfl, Nat.le_of_ble_eq_true rfl⟩ (fun v50 M49 hv50 => ?_)
                          refine go_istore (i := 15) (L' := [(15, .int (Ii v50)), (14, .int (Ii v46)), (0, .ref (base + 0)), (2, .ref (base + 682)), (3, .ref (base + 683)), (4, .ref (base + 684)), (7, .int (Ii v15)), (8, .int (Ii v17)), (9, .int (Ii v44)), (10, .int (Ii v45)), (11, .int (Ii v32)), (12, .int (Ii v36)), (13, .int (Ii v41))]) X dL_isEquation_556 (by decide) rfl ?_
                          refine go_iload X dL_isEquation_558 1 rfl ?_
                          refine go_lt (fun J => ∀ (v51 : Int) (v52 : Int) (M53 : Mm), bo v51 → i32 v52 → Go p l e (rmX 9 221 6 36) s m args below meth c D TL 686 base 17 3 18 (FinQ D base 6 36 below args s bo) M53 593 [(0, .ref (base + 0)), (2, .ref (base + 682)), (3, .ref (base + 683)), (4, .ref (base + 684)), (7, .int (Ii v15)), (9, .int (Ii v51)), (11, .int (Ii v32)), (12, .int (Ii v36)), (13, .int (Ii v41)), (15, .int (Ii v50))] [.int (Ii v52)] (J v51 v52 M53)) (by
                              intro v51 v52 M53 hv51 hv52
                              refine go_istore (i := 16) (L' := [(16, .int (Ii v52)), (0, .ref (base + 0)), (2, .ref (base + 682)), (3, .ref (base + 683)), (4, .ref (base + 684)), (7, .int (Ii v15)), (9, .int (Ii v51)), (11, .int (Ii v32)), (12, .int (Ii v36)), (13, .int (Ii v41)), (15, .int (Ii v50))]) X dL_isEquation_593 (by decide) rfl ?_
                              refine go_iload X dL_isEquation_595 0 rfl ?_
                              refine go_lt (fun J => ∀ (v55 : Int) (M56 : Mm), bo v55 → Go p l e (rmX 9 221 6 36) s m args below meth c D TL 686 base 17 3 18 (FinQ D base 6 36 below args s bo) M56 638 [(0, .ref (base + 0)), (3, .ref (base + 683)), (7, .int (Ii v15)), (9, .int (Ii v55)), (11, .int (Ii v32)), (15, .int (Ii v50)), (16, .int (Ii v52))] [] (J v55 M56)) (by
                                  intro v55 M56 hv55
                                  refine go_iload X dL_isEquation_638 3 rfl ?_
                                  refine go_lt (fun J => ∀ (v58 : Int) (M59 : Mm), bo v58 → Go p l e (rmX 9 221 6 36) s m args below meth c D TL 686 base 17 6 36 (FinQ D base 6 36 below args s bo) M59 697 [] [.int (Ii v58)] (J v58 M59)) (by
                                      intro v58 M59 hv58
                                      exact go_qzreturn X hrt hlk dL_isEquation_697 hv58 hv58 (Nat.le_of_ble_eq_true rfl) (Nat.le_of_ble_eq_true rfl)
                                      )
                                      (fun J697_60 hJ697_60 => ?_)
                                  refine go_lt (fun J => ∀ (M61 : Mm), Go p l e (rmX 9 221 6 36) s m args below meth c D TL 686 base 17 6 36 (FinQ D base 6 36 below args s bo) M61 696 [] [] (J M61)) (by
                                      intro M61
                                      refine go_iconst (v := 0) X dL_isEquation_696 rfl ?_
                                      exact hJ697_60 0 M61 (Or.inl rfl)
                                      )
                                      (fun J696_62 hJ696_62 => ?_)
                                  refine go_if_eq (tgt := 696) X dL_isEquation_640 rfl (bo_i32 hv55) (fun c63 => ?_) (fun c63 => ?_)
                                  · refine go_widen 6 36 (by decide) (by decide) ?_
                                    refine go_sub [] rfl ?_
                                    exact hJ696_62 M56
                                  · refine go_iload X dL_isEquation_643 5 rfl ?_
                                    refine go_iload X dL_isEquation_645 6 rfl ?_
                                    refine go_icmp_ne (tgt := 696) X dL_isEquation_647 rfl hv50 hv52 (fun c64 => ?_) (fun c64 => ?_)
                                    · refine go_widen 6 36 (by decide) (by decide) ?_
                                      refine go_sub [] rfl ?_
                                      exact hJ696_62 M56
                                    · refine go_aload_n X dL_isEquation_650 rfl 0 rfl ?_
                                      refine go_iconst (v := 5) X dL_isEquation_651 rfl ?_
                                      refine go_iload X dL_isEquation_652 4 rfl ?_
                                      refine go_iload X dL_isEquation_654 2 rfl ?_
                                      refine go_aload_n X dL_isEquation_656 rfl 1 rfl ?_
                                      refine go_iload X dL_isEquation_657 2 rfl ?_
                                      refine go_iaload X dL_isEquation_659 tln683 tl683 hv15 (fun v65 hv65 => ?_)
                                      refine go_iconst (v := 1) X dL_isEquation_660 rfl ?_
                                      refine go_lt (fun J => ∀ (v66 : Int) (M67 : Mm), i32 v66 → Go p l e (rmX 9 221 6 36) s m args below meth c D TL 686 base 17 3 18 (FinQ D base 6 36 below args s bo) M67 682 [] [.int (Ii v66), .int (Ii v15), .int (Ii v32), .int (Ii 5), .ref (base + 0)] (J v66 M67)) (by
                                          intro v66 M67 hv66
                                          refine go_iconst (v := 0) X dL_isEquation_682 rfl ?_
                                          refine go_iconst (v := 0) X dL_isEquation_683 rfl ?_
                                          refine go_lcallH X Y (ok_L_does l hl D base b N xs hN M67 5 kI_5 v32 hv32 v15 hv15 v66 hv66 0 kI_0 0 kI_0) dL_isEquation_684 lw931 lw932 lw926 lw921 cy_L_does ⟨Nat.le_of_ble_eq_true rfl, Nat.le_of_ble_eq_true rfl⟩ rfl rfl (Nat.le_of_ble_eq_true rfl) ⟨Nat.le_of_ble_eq_true rfl, Nat.le_of_ble_eq_true rfl⟩ (fun v70 M69 hv70 => ?_)
                                          refine go_ldc (v := (-2000000)) X dL_isEquation_687 lw871 rfl ?_
                                          refine go_icmp_ne (tgt := 696) X dL_isEquation_689 rfl hv70 kI_m2000000 (fun c71 => ?_) (fun c71 => ?_)
                                          · exact hJ696_62 M69
                                          · refine go_iconst (v := 1) X dL_isEquation_692 rfl ?_
                                            refine go_goto (tgt := 697) X dL_isEquation_693 rfl ?_
                                            exact hJ697_60 1 M69 (Or.inr rfl)
                                          )
                                          (fun J682_68 hJ682_68 => ?_)
                                      refine go_icmp_ne (tgt := 668) X dL_isEquation_661 rfl hv65 kI_1 (fun c72 => ?_) (fun c72 => ?_)
                                      · refine go_aload_n X dL_isEquation_668 rfl 1 rfl ?_
                                        refine go_iload X dL_isEquation_669 2 rfl ?_
                                        refine go_iaload X dL_isEquation_671 tln683 tl683 hv15 (fun v73 hv73 => ?_)
                                        refine go_iconst (v := 2) X dL_isEquation_672 rfl ?_
                                        refine go_icmp_ne (tgt := 680) X dL_isEquation_673 rfl hv73 kI_2 (fun c74 => ?_) (fun c74 => ?_)
                                        · refine go_bipush (v := (-2)) X dL_isEquation_680 (by decide) ?_
                                          refine go_sub [] rfl ?_
                                          exact hJ682_68 ((-2)) M56 kI_m2
                                        · refine go_iconst (v := (-1)) X dL_isEquation_676 rfl ?_
                                          refine go_goto (tgt := 682) X dL_isEquation_677 rfl ?_
                                          refine go_sub [] rfl ?_
                                          exact hJ682_68 ((-1)) M56 kI_m1
                                      · refine go_iconst (v := (-1)) X dL_isEquation_664 rfl ?_
                                        refine go_goto (tgt := 682) X dL_isEquation_665 rfl ?_
                                        refine go_sub [] rfl ?_
                                        exact hJ682_68 ((-1)) M56 kI_m1
                                  )
                                  (fun J638_57 hJ638_57 => ?_)
                              refine go_if_lt (tgt := 638) X dL_isEquation_597 rfl hv52 (fun c75 => ?_) (fun c75 => ?_)
                              · refine go_sub [1, 3, 5, 6, 7, 10, 0] rfl ?_
                                exact hJ638_57 v51 M53 hv51
                              · refine go_aload_n X dL_isEquation_600 rfl 2 rfl ?_
                                refine go_aload X dL_isEquation_601 4 rfl ?_
                                refine go_iconst (v := 2) X dL_isEquation_603 rfl ?_
                                refine go_iaload X dL_isEquation_604 tln684 tl684 kI_2 (fun v76 hv76 => ?_)
                                refine go_iload X dL_isEquation_605 7 rfl ?_
                                refine go_bipush (v := 20) X dL_isEquation_607 (by decide) ?_
                                refine go_iload X dL_isEquation_609 5 rfl ?_
                                refine go_imul X dL_isEquation_611 kI_20 hv15 (fun v77 hv77 => ?_)
                                refine go_iadd X dL_isEquation_612 hv32 hv77 (fun v78 hv78 => ?_)
                                refine go_sipush (v := 200) X dL_isEquation_613 (by decide) ?_
                                refine go_iload X dL_isEquation_616 8 rfl ?_
                                refine go_iconst (v := 2) X dL_isEquation_618 rfl ?_
                                refine go_iadd X dL_isEquation_619 hv36 kI_2 (fun v79 hv79 => ?_)
                                refine go_imul X dL_isEquation_620 kI_200 hv79 (fun v80 hv80 => ?_)
                                refine go_iadd X dL_isEquation_621 hv78 hv80 (fun v81 hv81 => ?_)
                                refine go_sipush (v := 2000) X dL_isEquation_622 (by decide) ?_
                                refine go_iload X dL_isEquation_625 9 rfl ?_
                                refine go_imul X dL_isEquation_627 kI_2000 hv41 (fun v82 hv82 => ?_)
                                refine go_iadd X dL_isEquation_628 hv81 hv82 (fun v83 hv83 => ?_)
                                refine go_iastore X dL_isEquation_629 tln682 tl682 hv76 hv83 (fun M84 => ?_)
                                refine go_aload X dL_isEquation_630 4 rfl ?_
                                refine go_iconst (v := 2) X dL_isEquation_632 rfl ?_
                                refine go_dup2 X dL_isEquation_633 rfl rfl ?_
                                refine go_iaload X dL_isEquation_634 tln684 tl684 kI_2 (fun v85 hv85 => ?_)
                                refine go_iconst (v := 1) X dL_isEquation_635 rfl ?_
                                refine go_iadd X dL_isEquation_636 hv85 kI_1 (fun v86 hv86 => ?_)
                                refine go_iastore X dL_isEquation_637 tln684 tl684 kI_2 hv86 (fun M87 => ?_)
                                refine go_sub [1, 3, 5, 6, 7, 10, 0] rfl ?_
                                exact hJ638_57 v51 M87 hv51
                              )
                              (fun J593_54 hJ593_54 => ?_)
                          refine go_if_ne (tgt := 568) X dL_isEquation_560 rfl (bo_i32 hv46) (fun c88 => ?_) (fun c88 => ?_)
                          · refine go_iload X dL_isEquation_568 9 rfl ?_
                            refine go_iload X dL_isEquation_570 7 rfl ?_
                            refine go_lt (fun J => ∀ (v89 : Int) (M90 : Mm), bo v89 → Go p l e (rmX 9 221 6 36) s m args below meth c D TL 686 base 17 3 18 (FinQ D base 6 36 below args s bo) M90 584 [(0, .ref (base + 0)), (2, .ref (base + 682)), (3, .ref (base + 683)), (4, .ref (base + 684)), (7, .int (Ii v15)), (9, .int (Ii v89)), (11, .int (Ii v32)), (12, .int (Ii v36)), (13, .int (Ii v41)), (15, .int (Ii v50))] [] (J v89 M90)) (by
                                intro v89 M90 hv89
                                refine go_ldc (v := (-1000000)) X dL_isEquation_584 lw872 rfl ?_
                                refine go_goto (tgt := 593) X dL_isEquation_586 rfl ?_
                                exact hJ593_54 v89 ((-1000000)) M90 hv89 kI_m1000000
                                )
                                (fun J584_91 hJ584_91 => ?_)
                            refine go_icmp_ne (tgt := 584) X dL_isEquation_572 rfl hv45 hv17 (fun c92 => ?_) (fun c92 => ?_)
                            · refine go_sub [2, 3, 4, 5, 6, 8, 10, 11, 12, 0] rfl ?_
                              exact hJ584_91 v44 M49 hv44
                            · refine go_aload X dL_isEquation_575 5 rfl ?_
                              refine go_iconst (v := 2) X dL_isEquation_577 rfl ?_
                              refine go_iaload X dL_isEquation_578 tln684 tl684 kI_2 (fun v93 hv93 => ?_)
                              refine go_bipush (v := 30) X dL_isEquation_579 (by decide) ?_
                              refine go_icmp_ne (tgt := 589) X dL_isEquation_581 rfl hv93 kI_30 (fun c94 => ?_) (fun c94 => ?_)
                              · refine go_aload X dL_isEquation_589 5 rfl ?_
                                refine go_iconst (v := 2) X dL_isEquation_591 rfl ?_
                                refine go_iaload X dL_isEquation_592 tln684 tl684 kI_2 (fun v95 hv95 => ?_)
                                refine go_sub [2, 3, 4, 5, 6, 8, 10, 11, 12, 0] rfl ?_
                                exact hJ593_54 v44 v95 M49 hv44 hv95
                              · refine go_sub [2, 3, 4, 5, 6, 8, 10, 11, 12, 0] rfl ?_
                                exact hJ584_91 v44 M49 hv44
                          · refine go_ldc (v := (-3000000)) X dL_isEquation_563 lw870 rfl ?_
                            refine go_goto (tgt := 593) X dL_isEquation_565 rfl ?_
                            refine go_sub [2, 3, 4, 5, 6, 8, 10, 11, 12, 0] rfl ?_
                            exact hJ593_54 v44 ((-3000000)) M49 hv44 kI_m3000000
                          )
                          (fun J540_48 hJ540_48 => ?_)
                      refine go_icmp_ge (tgt := 539) X dL_isEquation_532 rfl hv36 hv43 (fun c96 => ?_) (fun c96 => ?_)
                      · refine go_iconst (v := 0) X dL_isEquation_539 rfl ?_
                        refine go_sub [2, 4, 5, 6, 9, 10, 11, 12, 13, 1, 0] rfl ?_
                        exact hJ540_48 v34 v35 0 M42 hv34 hv35 (Or.inl rfl)
                      · refine go_iconst (v := 1) X dL_isEquation_535 rfl ?_
                        refine go_goto (tgt := 540) X dL_isEquation_536 rfl ?_
                        refine go_sub [2, 4, 5, 6, 9, 10, 11, 12, 13, 1, 0] rfl ?_
                        exact hJ540_48 v34 v35 1 M42 hv34 hv35 (Or.inr rfl)
                      )
                      (fun J509_38 hJ509_38 => ?_)
                  refine go_icmp_ne (tgt := 486) X dL_isEquation_478 rfl hv33 kI_2 (fun c97 => ?_) (fun c97 => ?_)
                  · refine go_aload_n X dL_isEquation_486 rfl 4 rfl ?_
                    refine go_iload X dL_isEquation_487 8 rfl ?_
                    refine go_iaload X dL_isEquation_489 tln683 tl683 hv15 (fun v98 hv98 => ?_)
                    refine go_iconst (v := 1) X dL_isEquation_490 rfl ?_
                    refine go_icmp_ne (tgt := 508) X dL_isEquation_491 rfl hv98 kI_1 (fun c99 => ?_) (fun c99 => ?_)
                    · refine go_iconst (v := (-1)) X dL_isEquation_508 rfl ?_
                      refine go_sub [1, 2, 3, 4, 5, 6, 7, 8, 9, 10, 11, 0] rfl ?_
                      exact hJ509_38 v25 v26 ((-1)) M31 hv25 hv26 kI_m1
                    · refine go_aload X dL_isEquation_494 6 rfl ?_
                      refine go_iload X dL_isEquation_496 7 rfl ?_
                      refine go_bipush (v := 18) X dL_isEquation_498 (by decide) ?_
                      refine go_iadd X dL_isEquation_500 ha7 kI_18 (fun v100 hv100 => ?_)
                      refine go_iconst (v := 3) X dL_isEquation_501 rfl ?_
                      refine go_lcall X Y (ok_L_part l hl D base b N xs hN M31 v100 hv100 3 kI_3) dL_isEquation_502 lw945 lw946 lw926 ⟨lw865, cy_L_part, Nat.le_of_ble_eq_true rfl, Nat.le_of_ble_eq_true rfl⟩ rfl rfl (Nat.le_of_ble_eq_true rfl) ⟨Nat.le_of_ble_eq_true rfl, Nat.le_of_ble_eq_true rfl⟩ (fun v102 M101 hv102 => ?_)
                      refine go_goto (tgt := 509) X dL_isEquation_505 rfl ?_
                      refine go_sub [1, 2, 3, 4, 5, 6, 7, 8, 9, 10, 11, 0] rfl ?_
                      exact hJ509_38 v25 v26 v102 M101 hv25 hv26 hv102
                  · refine go_bipush (v := (-2)) X dL_isEquation_481 (by decide) ?_
                    refine go_goto (tgt := 509) X dL_isEquation_483 rfl ?_
                    refine go_sub [1, 2, 3, 4, 5, 6, 7, 8, 9, 10, 11, 0] rfl ?_
                    exact hJ509_38 v25 v26 ((-2)) M31 hv25 hv26 kI_m2
                  )
                  (fun J457_28 hJ457_28 => ?_)
              refine go_sub [3, 4, 5, 6, 7, 8, 9, 10, 11, 2, 1, 0] rfl ?_
              exact go_lp (fun (rc : Int × Int × Int × Mm → Rs) => ∀ (v103 : Int) (v104 : Int) (v105 : Int) (M106 : Mm), bo v103 → i32 v104 → i32 v105 → Go p l e (rmX 9 221 6 36) s m args below meth c D TL 686 base 17 0 0 (FinQ D base 6 36 below args s bo) M106 83 [(0, .ref (base + 0)), (1, .ref (base + 681)), (2, .ref (base + 682)), (3, .ref (base + 683)), (4, .ref (base + 684)), (5, .ref b), (6, .int (Ii a7)), (7, .int (Ii v15)), (8, .int (Ii v17)), (9, .int (Ii v103)), (10, .int (Ii v104)), (11, .int (Ii v105))] [] (rc (v103, v104, v105, M106)))
                  (by intro v103 v104 v105 M106 hv103 hv104 hv105; exact go_none)
                  (by
                  intro rc83_107 hrc83_107 v103 v104 v105 M106 hv103 hv104 hv105
                  unfold f_L_isEquation_L83_257
                  dsimp only
                  refine go_iload X dL_isEquation_83 11 rfl ?_
                  refine go_bipush (v := 8) X dL_isEquation_85 (by decide) ?_
                  refine go_icmp_ge (tgt := 457) X dL_isEquation_87 rfl hv105 kI_8 (fun c108 => ?_) (fun c108 => ?_)
                  · refine go_sub [0, 1, 2, 3, 4, 5, 6, 7, 8, 9, 10] rfl ?_
                    exact hJ457_28 v103 v104 M106 hv103 hv104
                  · refine go_iload X dL_isEquation_90 9 rfl ?_
                    refine go_if_eq (tgt := 457) X dL_isEquation_92 rfl (bo_i32 hv103) (fun c109 => ?_) (fun c109 => ?_)
                    · refine go_sub [0, 1, 2, 3, 4, 5, 6, 7, 8, 9, 10] rfl ?_
                      exact hJ457_28 v103 v104 M106 hv103 hv104
                    · refine go_aload X dL_isEquation_95 5 rfl ?_
                      refine go_iload X dL_isEquation_97 6 rfl ?_
                      refine go_iconst (v := 2) X dL_isEquation_99 rfl ?_
                      refine go_iload X dL_isEquation_100 11 rfl ?_
                      refine go_imul X dL_isEquation_102 kI_2 hv105 (fun v110 hv110 => ?_)
                      refine go_iadd X dL_isEquation_103 ha7 hv110 (fun v111 hv111 => ?_)
                      refine go_iconst (v := 1) X dL_isEquation_104 rfl ?_
                      refine go_iadd X dL_isEquation_105 hv111 kI_1 (fun v112 hv112 => ?_)
                      refine go_bipush (v := 20) X dL_isEquation_106 (by decide) ?_
                      refine go_lcall X Y (ok_L_part l hl D base b N xs hN M106 v112 hv112 20 kI_20) dL_isEquation_108 lw945 lw946 lw926 ⟨lw865, cy_L_part, Nat.le_of_ble_eq_true rfl, Nat.le_of_ble_eq_true rfl⟩ rfl rfl (Nat.le_of_ble_eq_true rfl) ⟨Nat.le_of_ble_eq_true rfl, Nat.le_of_ble_eq_true rfl⟩ (fun v114 M113 hv114 => ?_)
                      refine go_istore (i := 12) (L' := [(12, .int (Ii v114)), (0, .ref (base + 0)), (1, .ref (base + 681)), (2, .ref (base + 682)), (3, .ref (base + 683)), (4, .ref (base + 684)), (5, .ref b), (6, .int (Ii a7)), (7, .int (Ii v15)), (8, .int (Ii v17)), (9, .int (Ii v103)), (10, .int (Ii v104)), (11, .int (Ii v105))]) X dL_isEquation_111 (by decide) rfl ?_
                      refine go_iload X dL_isEquation_113 11 rfl ?_
                      refine go_iload X dL_isEquation_115 9 rfl ?_
                      refine go_lt (fun J => ∀ (v115 : Int) (v116 : Int) (v117 : Int) (v118 : Int) (M119 : Mm), bo v115 → i32 v116 → i32 v117 → i32 v118 → Go p l e (rmX 9 221 6 36) s m args below meth c D TL 686 base 17 0 0 (FinQ D base 6 36 below args s bo) M119 240 [(0, .ref (base + 0)), (1, .ref (base + 681)), (2, .ref (base + 682)), (3, .ref (base + 683)), (4, .ref (base + 684)), (5, .ref b), (6, .int (Ii a7)), (7, .int (Ii v15)), (8, .int (Ii v17)), (9, .int (Ii v115)), (10, .int (Ii v116)), (11, .int (Ii v117))] [.int (Ii v118)] (J v115 v116 v117 v118 M119)) (by
                          intro v115 v116 v117 v118 M119 hv115 hv116 hv117 hv118
                          refine go_istore (i := 13) (L' := [(13, .int (Ii v118)), (0, .ref (base + 0)), (1, .ref (base + 681)), (2, .ref (base + 682)), (3, .ref (base + 683)), (4, .ref (base + 684)), (5, .ref b), (6, .int (Ii a7)), (7, .int (Ii v15)), (8, .int (Ii v17)), (9, .int (Ii v115)), (10, .int (Ii v116)), (11, .int (Ii v117))]) X dL_isEquation_240 (by decide) rfl ?_
                          refine go_iload X dL_isEquation_242 0 rfl ?_
                          refine go_lt (fun J => ∀ (v121 : Int) (v122 : Int) (v123 : Int) (v124 : Int) (M125 : Mm), bo v121 → i32 v122 → i32 v123 → i32 v124 → Go p l e (rmX 9 221 6 36) s m args below meth c D TL 686 base 17 0 0 (FinQ D base 6 36 below args s bo) M125 338 [(0, .ref (base + 0)), (1, .ref (base + 681)), (2, .ref (base + 682)), (3, .ref (base + 683)), (4, .ref (base + 684)), (5, .ref b), (6, .int (Ii a7)), (7, .int (Ii v15)), (8, .int (Ii v17)), (9, .int (Ii v121)), (10, .int (Ii v122)), (11, .int (Ii v123)), (13, .int (Ii v118))] [.int (Ii v124)] (J v121 v122 v123 v124 M125)) (by
                              intro v121 v122 v123 v124 M125 hv121 hv122 hv123 hv124
                              refine go_istore (i := 14) (L' := [(14, .int (Ii v124)), (0, .ref (base + 0)), (1, .ref (base + 681)), (2, .ref (base + 682)), (3, .ref (base + 683)), (4, .ref (base + 684)), (5, .ref b), (6, .int (Ii a7)), (7, .int (Ii v15)), (8, .int (Ii v17)), (9, .int (Ii v121)), (10, .int (Ii v122)), (11, .int (Ii v123)), (13, .int (Ii v118))]) X dL_isEquation_338 (by decide) rfl ?_
                              refine go_iload X dL_isEquation_340 13 rfl ?_
                              refine go_iconst (v := 2) X dL_isEquation_342 rfl ?_
                              refine go_lt (fun J => ∀ (v127 : Int) (v128 : Int) (v129 : Int) (v130 : Int) (M131 : Mm), bo v127 → i32 v128 → i32 v129 → i32 v130 → Go p l e (rmX 9 221 6 36) s m args below meth c D TL 686 base 17 0 0 (FinQ D base 6 36 below args s bo) M131 372 [(0, .ref (base + 0)), (1, .ref (base + 681)), (2, .ref (base + 682)), (3, .ref (base + 683)), (4, .ref (base + 684)), (5, .ref b), (6, .int (Ii a7)), (7, .int (Ii v15)), (8, .int (Ii v17)), (9, .int (Ii v127)), (10, .int (Ii v128)), (11, .int (Ii v129)), (13, .int (Ii v118)), (14, .int (Ii v124))] [.int (Ii v130)] (J v127 v128 v129 v130 M131)) (by
                                  intro v127 v128 v129 v130 M131 hv127 hv128 hv129 hv130
                                  refine go_istore (i := 15) (L' := [(15, .int (Ii v130)), (0, .ref (base + 0)), (1, .ref (base + 681)), (2, .ref (base + 682)), (3, .ref (base + 683)), (4, .ref (base + 684)), (5, .ref b), (6, .int (Ii a7)), (7, .int (Ii v15)), (8, .int (Ii v17)), (9, .int (Ii v127)), (10, .int (Ii v128)), (11, .int (Ii v129)), (13, .int (Ii v118)), (14, .int (Ii v124))]) X dL_isEquation_372 (by decide) rfl ?_
                                  refine go_iload X dL_isEquation_374 13 rfl ?_
                                  refine go_lt (fun J => ∀ (v133 : Int) (v134 : Int) (v135 : Int) (M136 : Mm), bo v133 → i32 v134 → i32 v135 → Go p l e (rmX 9 221 6 36) s m args below meth c D TL 686 base 17 0 0 (FinQ D base 6 36 below args s bo) M136 451 [(0, .ref (base + 0)), (1, .ref (base + 681)), (2, .ref (base + 682)), (3, .ref (base + 683)), (4, .ref (base + 684)), (5, .ref b), (6, .int (Ii a7)), (7, .int (Ii v15)), (8, .int (Ii v17)), (9, .int (Ii v133)), (10, .int (Ii v134)), (11, .int (Ii v135))] [] (J v133 v134 v135 M136)) (by
                                      intro v133 v134 v135 M136 hv133 hv134 hv135
                                      refine go_iinc (i := 11) (L' := fun v => [(11, .int (Ii v)), (0, .ref (base + 0)), (1, .ref (base + 681)), (2, .ref (base + 682)), (3, .ref (base + 683)), (4, .ref (base + 684)), (5, .ref b), (6, .int (Ii a7)), (7, .int (Ii v15)), (8, .int (Ii v17)), (9, .int (Ii v133)), (10, .int (Ii v134))]) X dL_isEquation_451 hv135 kI_1 (j := 11) rfl (by decide) (fun _ => rfl) (fun v138 hv138 => ?_)
                                      refine go_goto (tgt := 83) X dL_isEquation_454 rfl ?_
                                      refine go_sub [1, 2, 3, 4, 5, 6, 7, 8, 9, 10, 11, 0] rfl ?_
                                      exact hrc83_107 v133 v134 v138 M136 hv133 hv134 hv138
                                      )
                                      (fun J451_137 hJ451_137 => ?_)
                                  refine go_if_lt (tgt := 451) X dL_isEquation_376 rfl hv118 (fun c139 => ?_) (fun c139 => ?_)
                                  · refine go_sub [1, 2, 3, 4, 5, 6, 7, 8, 9, 10, 11, 12] rfl ?_
                                    exact hJ451_137 v127 v128 v129 M131 hv127 hv128 hv129
                                  · refine go_iload X dL_isEquation_379 11 rfl ?_
                                    refine go_iload X dL_isEquation_381 13 rfl ?_
                                    refine go_bipush (v := 7) X dL_isEquation_383 (by decide) ?_
                                    refine go_lt (fun J => ∀ (v140 : Int) (v141 : Int) (v142 : Int) (M143 : Mm), i32 v140 → i32 v141 → i32 v142 → Go p l e (rmX 9 221 6 36) s m args below meth c D TL 686 base 17 0 0 (FinQ D base 6 36 below args s bo) M143 423 [(0, .ref (base + 0)), (1, .ref (base + 681)), (2, .ref (base + 682)), (3, .ref (base + 683)), (4, .ref (base + 684)), (5, .ref b), (6, .int (Ii a7)), (7, .int (Ii v15)), (8, .int (Ii v17)), (11, .int (Ii v140)), (13, .int (Ii v118)), (14, .int (Ii v124)), (15, .int (Ii v130))] [.int (Ii v142), .int (Ii v141)] (J v140 v141 v142 M143)) (by
                                        intro v140 v141 v142 M143 hv140 hv141 hv142
                                        refine go_iadd X dL_isEquation_423 hv141 hv142 (fun v145 hv145 => ?_)
                                        refine go_istore (i := 10) (L' := [(10, .int (Ii v145)), (0, .ref (base + 0)), (1, .ref (base + 681)), (2, .ref (base + 682)), (3, .ref (base + 683)), (4, .ref (base + 684)), (5, .ref b), (6, .int (Ii a7)), (7, .int (Ii v15)), (8, .int (Ii v17)), (11, .int (Ii v140)), (13, .int (Ii v118)), (14, .int (Ii v124)), (15, .int (Ii v130))]) X dL_isEquation_424 (by decide) rfl ?_
                                        refine go_aload_n X dL_isEquation_426 rfl 1 rfl ?_
                                        refine go_iconst (v := 4) X dL_isEquation_427 rfl ?_
                                        refine go_iload X dL_isEquation_428 11 rfl ?_
                                        refine go_iload X dL_isEquation_430 12 rfl ?_
                                        refine go_iload X dL_isEquation_432 13 rfl ?_
                                        refine go_iconst (v := 0) X dL_isEquation_434 rfl ?_
                                        refine go_iconst (v := 0) X dL_isEquation_435 rfl ?_
                                        refine go_lcallH X Y (ok_L_does4 l hl D base b N xs hN M143 v118 hv118 v124 hv124 v130 hv130 0 kI_0 0 kI_0) dL_isEquation_436 lw931 lw932 lw926 lw921 cy_L_does ⟨Nat.le_of_ble_eq_true rfl, Nat.le_of_ble_eq_true rfl⟩ rfl rfl (Nat.le_of_ble_eq_true rfl) ⟨Nat.le_of_ble_eq_true rfl, Nat.le_of_ble_eq_true rfl⟩ (fun v147 M146 hv147 => ?_)
                                        refine go_iload X dL_isEquation_439 0 rfl ?_
                                        refine go_lt (fun J => ∀ (v148 : Int) (v149 : Int) (M150 : Mm), i32 v148 → bo v149 → Go p l e (rmX 9 221 6 36) s m args below meth c D TL 686 base 17 0 0 (FinQ D base 6 36 below args s bo) M150 449 [(0, .ref (base + 0)), (1, .ref (base + 681)), (2, .ref (base + 682)), (3, .ref (base + 683)), (4, .ref (base + 684)), (5, .ref b), (6, .int (Ii a7)), (7, .int (Ii v15)), (8, .int (Ii v17)), (10, .int (Ii v145)), (11, .int (Ii v148))] [.int (Ii v149)] (J v148 v149 M150)) (by
                                            intro v148 v149 M150 hv148 hv149
                                            refine go_istore (i := 9) (L' := [(9, .int (Ii v149)), (0, .ref (base + 0)), (1, .ref (base + 681)), (2, .ref (base + 682)), (3, .ref (base + 683)), (4, .ref (base + 684)), (5, .ref b), (6, .int (Ii a7)), (7, .int (Ii v15)), (8, .int (Ii v17)), (10, .int (Ii v145)), (11, .int (Ii v148))]) X dL_isEquation_449 (by decide) rfl ?_
                                            refine go_sub [1, 2, 3, 4, 5, 6, 7, 8, 9, 0, 10, 11] rfl ?_
                                            exact hJ451_137 v149 v145 v148 M150 hv149 hv145 hv148
                                            )
                                            (fun J449_151 hJ449_151 => ?_)
                                        refine go_icmp_ne (tgt := 448) X dL_isEquation_441 rfl hv147 hv145 (fun c152 => ?_) (fun c152 => ?_)
                                        · refine go_iconst (v := 0) X dL_isEquation_448 rfl ?_
                                          refine go_sub [1, 2, 3, 4, 5, 6, 7, 8, 9, 0, 10] rfl ?_
                                          exact hJ449_151 v140 0 M146 hv140 (Or.inl rfl)
                                        · refine go_iconst (v := 1) X dL_isEquation_444 rfl ?_
                                          refine go_goto (tgt := 449) X dL_isEquation_445 rfl ?_
                                          refine go_sub [1, 2, 3, 4, 5, 6, 7, 8, 9, 0, 10] rfl ?_
                                          exact hJ449_151 v140 1 M146 hv140 (Or.inr rfl)
                                        )
                                        (fun J423_144 hJ423_144 => ?_)
                                    refine go_lt (fun J => ∀ (v153 : Int) (v154 : Int) (M155 : Mm), i32 v153 → i32 v154 → Go p l e (rmX 9 221 6 36) s m args below meth c D TL 686 base 17 0 0 (FinQ D base 6 36 below args s bo) M155 395 [(0, .ref (base + 0)), (1, .ref (base + 681)), (2, .ref (base + 682)), (3, .ref (base + 683)), (4, .ref (base + 684)), (5, .ref b), (6, .int (Ii a7)), (7, .int (Ii v15)), (8, .int (Ii v17)), (11, .int (Ii v153)), (13, .int (Ii v118)), (14, .int (Ii v124)), (15, .int (Ii v130))] [.int (Ii v154)] (J v153 v154 M155)) (by
                                        intro v153 v154 M155 hv153 hv154
                                        refine go_iconst (v := 1) X dL_isEquation_395 rfl ?_
                                        refine go_goto (tgt := 423) X dL_isEquation_396 rfl ?_
                                        exact hJ423_144 v153 v154 1 M155 hv153 hv154 kI_1
                                        )
                                        (fun J395_156 hJ395_156 => ?_)
                                    refine go_icmp_lt (tgt := 395) X dL_isEquation_385 rfl hv118 kI_7 (fun c157 => ?_) (fun c157 => ?_)
                                    · refine go_sub [1, 2, 3, 4, 5, 6, 7, 8, 9, 12, 13, 14, 0] rfl ?_
                                      exact hJ395_156 v129 v128 M131 hv129 hv128
                                    · refine go_iload X dL_isEquation_388 13 rfl ?_
                                      refine go_bipush (v := 14) X dL_isEquation_390 (by decide) ?_
                                      refine go_icmp_ne (tgt := 399) X dL_isEquation_392 rfl hv118 kI_14 (fun c158 => ?_) (fun c158 => ?_)
                                      · refine go_iload X dL_isEquation_399 13 rfl ?_
                                        refine go_bipush (v := 7) X dL_isEquation_401 (by decide) ?_
                                        refine go_icmp_ne (tgt := 410) X dL_isEquation_403 rfl hv118 kI_7 (fun c159 => ?_) (fun c159 => ?_)
                                        · refine go_iload X dL_isEquation_410 13 rfl ?_
                                          refine go_bipush (v := 13) X dL_isEquation_412 (by decide) ?_
                                          refine go_icmp_ne (tgt := 422) X dL_isEquation_414 rfl hv118 kI_13 (fun c160 => ?_) (fun c160 => ?_)
                                          · refine go_iconst (v := (-1)) X dL_isEquation_422 rfl ?_
                                            refine go_sub [1, 2, 3, 4, 5, 6, 7, 8, 9, 12, 13, 14, 0] rfl ?_
                                            exact hJ423_144 v129 v128 ((-1)) M131 hv129 hv128 kI_m1
                                          · refine go_bipush (v := (-2)) X dL_isEquation_417 (by decide) ?_
                                            refine go_goto (tgt := 423) X dL_isEquation_419 rfl ?_
                                            refine go_sub [1, 2, 3, 4, 5, 6, 7, 8, 9, 12, 13, 14, 0] rfl ?_
                                            exact hJ423_144 v129 v128 ((-2)) M131 hv129 hv128 kI_m2
                                        · refine go_iconst (v := 0) X dL_isEquation_406 rfl ?_
                                          refine go_goto (tgt := 423) X dL_isEquation_407 rfl ?_
                                          refine go_sub [1, 2, 3, 4, 5, 6, 7, 8, 9, 12, 13, 14, 0] rfl ?_
                                          exact hJ423_144 v129 v128 0 M131 hv129 hv128 kI_0
                                      · refine go_sub [1, 2, 3, 4, 5, 6, 7, 8, 9, 12, 13, 14, 0] rfl ?_
                                        exact hJ395_156 v129 v128 M131 hv129 hv128
                                  )
                                  (fun J372_132 hJ372_132 => ?_)
                              refine go_lt (fun J => ∀ (v161 : Int) (v162 : Int) (v163 : Int) (M164 : Mm), bo v161 → i32 v162 → i32 v163 → Go p l e (rmX 9 221 6 36) s m args below meth c D TL 686 base 17 0 0 (FinQ D base 6 36 below args s bo) M164 353 [(0, .ref (base + 0)), (1, .ref (base + 681)), (2, .ref (base + 682)), (3, .ref (base + 683)), (4, .ref (base + 684)), (5, .ref b), (6, .int (Ii a7)), (7, .int (Ii v15)), (8, .int (Ii v17)), (9, .int (Ii v161)), (10, .int (Ii v162)), (11, .int (Ii v163)), (13, .int (Ii v118)), (14, .int (Ii v124))] [] (J v161 v162 v163 M164)) (by
                                  intro v161 v162 v163 M164 hv161 hv162 hv163
                                  refine go_aload X dL_isEquation_353 5 rfl ?_
                                  refine go_iload X dL_isEquation_355 6 rfl ?_
                                  refine go_iconst (v := 2) X dL_isEquation_357 rfl ?_
                                  refine go_iload X dL_isEquation_358 11 rfl ?_
                                  refine go_imul X dL_isEquation_360 kI_2 hv163 (fun v166 hv166 => ?_)
                                  refine go_iadd X dL_isEquation_361 ha7 hv166 (fun v167 hv167 => ?_)
                                  refine go_iconst (v := 2) X dL_isEquation_362 rfl ?_
                                  refine go_iadd X dL_isEquation_363 hv167 kI_2 (fun v168 hv168 => ?_)
                                  refine go_iconst (v := 3) X dL_isEquation_364 rfl ?_
                                  refine go_lcall X Y (ok_L_part l hl D base b N xs hN M164 v168 hv168 3 kI_3) dL_isEquation_365 lw945 lw946 lw926 ⟨lw865, cy_L_part, Nat.le_of_ble_eq_true rfl, Nat.le_of_ble_eq_true rfl⟩ rfl rfl (Nat.le_of_ble_eq_true rfl) ⟨Nat.le_of_ble_eq_true rfl, Nat.le_of_ble_eq_true rfl⟩ (fun v170 M169 hv170 => ?_)
                                  refine go_goto (tgt := 372) X dL_isEquation_368 rfl ?_
                                  exact hJ372_132 v161 v162 v163 v170 M169 hv161 hv162 hv163 hv170
                                  )
                                  (fun J353_165 hJ353_165 => ?_)
                              refine go_icmp_eq (tgt := 353) X dL_isEquation_343 rfl hv118 kI_2 (fun c171 => ?_) (fun c171 => ?_)
                              · refine go_sub [1, 2, 3, 4, 5, 6, 7, 8, 9, 10, 11, 12, 13, 0] rfl ?_
                                exact hJ353_165 v121 v122 v123 M125 hv121 hv122 hv123
                              · refine go_iload X dL_isEquation_346 13 rfl ?_
                                refine go_bipush (v := 6) X dL_isEquation_348 (by decide) ?_
                                refine go_icmp_ne (tgt := 371) X dL_isEquation_350 rfl hv118 kI_6 (fun c172 => ?_) (fun c172 => ?_)
                                · refine go_iconst (v := 0) X dL_isEquation_371 rfl ?_
                                  refine go_sub [1, 2, 3, 4, 5, 6, 7, 8, 9, 10, 11, 12, 13, 0] rfl ?_
                                  exact hJ372_132 v121 v122 v123 0 M125 hv121 hv122 hv123 kI_0
                                · refine go_sub [1, 2, 3, 4, 5, 6, 7, 8, 9, 10, 11, 12, 13, 0] rfl ?_
                                  exact hJ353_165 v121 v122 v123 M125 hv121 hv122 hv123
                              )
                              (fun J338_126 hJ338_126 => ?_)
                          refine go_if_ne (tgt := 267) X dL_isEquation_244 rfl hv118 (fun c173 => ?_) (fun c173 => ?_)
                          · refine go_iload X dL_isEquation_267 0 rfl ?_
                            refine go_iconst (v := 1) X dL_isEquation_269 rfl ?_
                            refine go_lt (fun J => ∀ (v174 : Int) (v175 : Int) (v176 : Int) (M177 : Mm), bo v174 → i32 v175 → i32 v176 → Go p l e (rmX 9 221 6 36) s m args below meth c D TL 686 base 17 0 0 (FinQ D base 6 36 below args s bo) M177 286 [(0, .ref (base + 0)), (1, .ref (base + 681)), (2, .ref (base + 682)), (3, .ref (base + 683)), (4, .ref (base + 684)), (5, .ref b), (6, .int (Ii a7)), (7, .int (Ii v15)), (8, .int (Ii v17)), (9, .int (Ii v174)), (10, .int (Ii v175)), (11, .int (Ii v176)), (13, .int (Ii v118))] [] (J v174 v175 v176 M177)) (by
                                intro v174 v175 v176 M177 hv174 hv175 hv176
                                refine go_aload X dL_isEquation_286 5 rfl ?_
                                refine go_iload X dL_isEquation_288 6 rfl ?_
                                refine go_iconst (v := 2) X dL_isEquation_290 rfl ?_
                                refine go_iload X dL_isEquation_291 11 rfl ?_
                                refine go_imul X dL_isEquation_293 kI_2 hv176 (fun v179 hv179 => ?_)
                                refine go_iadd X dL_isEquation_294 ha7 hv179 (fun v180 hv180 => ?_)
                                refine go_iconst (v := 2) X dL_isEquation_295 rfl ?_
                                refine go_iadd X dL_isEquation_296 hv180 kI_2 (fun v181 hv181 => ?_)
                                refine go_aload X dL_isEquation_297 4 rfl ?_
                                refine go_iconst (v := 1) X dL_isEquation_299 rfl ?_
                                refine go_iaload X dL_isEquation_300 tln684 tl684 kI_1 (fun v182 hv182 => ?_)
                                refine go_lcall X Y (ok_L_part l hl D base b N xs hN M177 v181 hv181 v182 hv182) dL_isEquation_301 lw945 lw946 lw926 ⟨lw865, cy_L_part, Nat.le_of_ble_eq_true rfl, Nat.le_of_ble_eq_true rfl⟩ rfl rfl (Nat.le_of_ble_eq_true rfl) ⟨Nat.le_of_ble_eq_true rfl, Nat.le_of_ble_eq_true rfl⟩ (fun v184 M183 hv184 => ?_)
                                refine go_goto (tgt := 338) X dL_isEquation_304 rfl ?_
                                exact hJ338_126 v174 v175 v176 v184 M183 hv174 hv175 hv176 hv184
                                )
                                (fun J286_178 hJ286_178 => ?_)
                            refine go_icmp_eq (tgt := 286) X dL_isEquation_270 rfl hv118 kI_1 (fun c185 => ?_) (fun c185 => ?_)
                            · refine go_sub [1, 2, 3, 4, 5, 6, 7, 8, 9, 10, 11, 12, 0] rfl ?_
                              exact hJ286_178 v115 v116 v117 M119 hv115 hv116 hv117
                            · refine go_iload X dL_isEquation_273 0 rfl ?_
                              refine go_iconst (v := 2) X dL_isEquation_275 rfl ?_
                              refine go_icmp_eq (tgt := 286) X dL_isEquation_276 rfl hv118 kI_2 (fun c186 => ?_) (fun c186 => ?_)
                              · refine go_sub [1, 2, 3, 4, 5, 6, 7, 8, 9, 10, 11, 12, 0] rfl ?_
                                exact hJ286_178 v115 v116 v117 M119 hv115 hv116 hv117
                              · refine go_iload X dL_isEquation_279 0 rfl ?_
                                refine go_bipush (v := 7) X dL_isEquation_281 (by decide) ?_
                                refine go_icmp_ne (tgt := 307) X dL_isEquation_283 rfl hv118 kI_7 (fun c187 => ?_) (fun c187 => ?_)
                                · refine go_iload X dL_isEquation_307 0 rfl ?_
                                  refine go_iconst (v := 3) X dL_isEquation_309 rfl ?_
                                  refine go_lt (fun J => ∀ (v188 : Int) (v189 : Int) (v190 : Int) (M191 : Mm), bo v188 → i32 v189 → i32 v190 → Go p l e (rmX 9 221 6 36) s m args below meth c D TL 686 base 17 0 0 (FinQ D base 6 36 below args s bo) M191 319 [(0, .ref (base + 0)), (1, .ref (base + 681)), (2, .ref (base + 682)), (3, .ref (base + 683)), (4, .ref (base + 684)), (5, .ref b), (6, .int (Ii a7)), (7, .int (Ii v15)), (8, .int (Ii v17)), (9, .int (Ii v188)), (10, .int (Ii v189)), (11, .int (Ii v190)), (13, .int (Ii v118))] [] (J v188 v189 v190 M191)) (by
                                      intro v188 v189 v190 M191 hv188 hv189 hv190
                                      refine go_aload X dL_isEquation_319 5 rfl ?_
                                      refine go_iload X dL_isEquation_321 6 rfl ?_
                                      refine go_iconst (v := 2) X dL_isEquation_323 rfl ?_
                                      refine go_iload X dL_isEquation_324 11 rfl ?_
                                      refine go_imul X dL_isEquation_326 kI_2 hv190 (fun v193 hv193 => ?_)
                                      refine go_iadd X dL_isEquation_327 ha7 hv193 (fun v194 hv194 => ?_)
                                      refine go_iconst (v := 2) X dL_isEquation_328 rfl ?_
                                      refine go_iadd X dL_isEquation_329 hv194 kI_2 (fun v195 hv195 => ?_)
                                      refine go_iconst (v := 3) X dL_isEquation_330 rfl ?_
                                      refine go_lcall X Y (ok_L_part l hl D base b N xs hN M191 v195 hv195 3 kI_3) dL_isEquation_331 lw945 lw946 lw926 ⟨lw865, cy_L_part, Nat.le_of_ble_eq_true rfl, Nat.le_of_ble_eq_true rfl⟩ rfl rfl (Nat.le_of_ble_eq_true rfl) ⟨Nat.le_of_ble_eq_true rfl, Nat.le_of_ble_eq_true rfl⟩ (fun v197 M196 hv197 => ?_)
                                      refine go_goto (tgt := 338) X dL_isEquation_334 rfl ?_
                                      exact hJ338_126 v188 v189 v190 v197 M196 hv188 hv189 hv190 hv197
                                      )
                                      (fun J319_192 hJ319_192 => ?_)
                                  refine go_icmp_eq (tgt := 319) X dL_isEquation_310 rfl hv118 kI_3 (fun c198 => ?_) (fun c198 => ?_)
                                  · refine go_sub [1, 2, 3, 4, 5, 6, 7, 8, 9, 10, 11, 12, 0] rfl ?_
                                    exact hJ319_192 v115 v116 v117 M119 hv115 hv116 hv117
                                  · refine go_iload X dL_isEquation_313 0 rfl ?_
                                    refine go_iconst (v := 4) X dL_isEquation_315 rfl ?_
                                    refine go_icmp_ne (tgt := 337) X dL_isEquation_316 rfl hv118 kI_4 (fun c199 => ?_) (fun c199 => ?_)
                                    · refine go_iconst (v := 0) X dL_isEquation_337 rfl ?_
                                      refine go_sub [1, 2, 3, 4, 5, 6, 7, 8, 9, 10, 11, 12, 0] rfl ?_
                                      exact hJ338_126 v115 v116 v117 0 M119 hv115 hv116 hv117 kI_0
                                    · refine go_sub [1, 2, 3, 4, 5, 6, 7, 8, 9, 10, 11, 12, 0] rfl ?_
                                      exact hJ319_192 v115 v116 v117 M119 hv115 hv116 hv117
                                · refine go_sub [1, 2, 3, 4, 5, 6, 7, 8, 9, 10, 11, 12, 0] rfl ?_
                                  exact hJ286_178 v115 v116 v117 M119 hv115 hv116 hv117
                          · refine go_aload X dL_isEquation_247 6 rfl ?_
                            refine go_iload X dL_isEquation_249 7 rfl ?_
                            refine go_iconst (v := 2) X dL_isEquation_251 rfl ?_
                            refine go_iload X dL_isEquation_252 12 rfl ?_
                            refine go_imul X dL_isEquation_254 kI_2 hv117 (fun v200 hv200 => ?_)
                            refine go_iadd X dL_isEquation_255 ha7 hv200 (fun v201 hv201 => ?_)
                            refine go_iconst (v := 2) X dL_isEquation_256 rfl ?_
                            refine go_iadd X dL_isEquation_257 hv201 kI_2 (fun v202 hv202 => ?_)
                            refine go_sipush (v := 1000) X dL_isEquation_258 (by decide) ?_
                            refine go_lcall X Y (ok_L_part l hl D base b N xs hN M119 v202 hv202 1000 kI_1000) dL_isEquation_261 lw945 lw946 lw926 ⟨lw865, cy_L_part, Nat.le_of_ble_eq_true rfl, Nat.le_of_ble_eq_true rfl⟩ rfl rfl (Nat.le_of_ble_eq_true rfl) ⟨Nat.le_of_ble_eq_true rfl, Nat.le_of_ble_eq_true rfl⟩ (fun v204 M203 hv204 => ?_)
                            refine go_goto (tgt := 338) X dL_isEquation_264 rfl ?_
                            refine go_sub [1, 2, 3, 4, 5, 6, 7, 8, 9, 10, 11, 12, 0] rfl ?_
                            exact hJ338_126 v115 v116 v117 v204 M203 hv115 hv116 hv117 hv204
                          )
                          (fun J240_120 hJ240_120 => ?_)
                      refine go_lt (fun J => ∀ (v205 : Int) (v206 : Int) (v207 : Int) (M208 : Mm), bo v205 → i32 v206 → i32 v207 → Go p l e (rmX 9 221 6 36) s m args below meth c D TL 686 base 17 0 0 (FinQ D base 6 36 below args s bo) M208 173 [(0, .ref (base + 0)), (1, .ref (base + 681)), (2, .ref (base + 682)), (3, .ref (base + 683)), (4, .ref (base + 684)), (5, .ref b), (6, .int (Ii a7)), (7, .int (Ii v15)), (8, .int (Ii v17)), (9, .int (Ii v205)), (10, .int (Ii v206)), (11, .int (Ii v207)), (12, .int (Ii v114))] [] (J v205 v206 v207 M208)) (by
                          intro v205 v206 v207 M208 hv205 hv206 hv207
                          refine go_iload X dL_isEquation_173 10 rfl ?_
                          refine go_lt (fun J => ∀ (v210 : Int) (v211 : Int) (v212 : Int) (M213 : Mm), bo v210 → i32 v211 → i32 v212 → Go p l e (rmX 9 221 6 36) s m args below meth c D TL 686 base 17 0 0 (FinQ D base 6 36 below args s bo) M213 190 [(0, .ref (base + 0)), (1, .ref (base + 681)), (2, .ref (base + 682)), (3, .ref (base + 683)), (4, .ref (base + 684)), (5, .ref b), (6, .int (Ii a7)), (7, .int (Ii v15)), (8, .int (Ii v17)), (9, .int (Ii v210)), (10, .int (Ii v211)), (11, .int (Ii v212)), (12, .int (Ii v114))] [] (J v210 v211 v212 M213)) (by
                              intro v210 v211 v212 M213 hv210 hv211 hv212
                              refine go_iload X dL_isEquation_190 11 rfl ?_
                              refine go_iload X dL_isEquation_192 10 rfl ?_
                              refine go_iadd X dL_isEquation_194 hv212 hv211 (fun v215 hv215 => ?_)
                              refine go_iload X dL_isEquation_195 8 rfl ?_
                              refine go_isub X dL_isEquation_197 hv215 hv17 (fun v216 hv216 => ?_)
                              refine go_bipush (v := 7) X dL_isEquation_198 (by decide) ?_
                              refine go_lt (fun J => ∀ (v217 : Int) (v218 : Int) (v219 : Int) (M220 : Mm), bo v217 → i32 v218 → i32 v219 → Go p l e (rmX 9 221 6 36) s m args below meth c D TL 686 base 17 0 0 (FinQ D base 6 36 below args s bo) M220 239 [(0, .ref (base + 0)), (1, .ref (base + 681)), (2, .ref (base + 682)), (3, .ref (base + 683)), (4, .ref (base + 684)), (5, .ref b), (6, .int (Ii a7)), (7, .int (Ii v15)), (8, .int (Ii v17)), (9, .int (Ii v217)), (10, .int (Ii v218)), (11, .int (Ii v219))] [] (J v217 v218 v219 M220)) (by
                                  intro v217 v218 v219 M220 hv217 hv218 hv219
                                  refine go_iconst (v := (-1)) X dL_isEquation_239 rfl ?_
                                  exact hJ240_120 v217 v218 v219 ((-1)) M220 hv217 hv218 hv219 kI_m1
                                  )
                                  (fun J239_221 hJ239_221 => ?_)
                              refine go_icmp_ge (tgt := 239) X dL_isEquation_200 rfl hv216 kI_7 (fun c222 => ?_) (fun c222 => ?_)
                              · refine go_sub [0, 1, 2, 3, 4, 5, 6, 7, 8, 9, 10, 11] rfl ?_
                                exact hJ239_221 v210 v211 v212 M213 hv210 hv211 hv212
                              · refine go_iload X dL_isEquation_203 10 rfl ?_
                                refine go_iload X dL_isEquation_205 8 rfl ?_
                                refine go_lt (fun J => ∀ (v223 : Int) (v224 : Int) (v225 : Int) (M226 : Mm), bo v223 → i32 v224 → i32 v225 → Go p l e (rmX 9 221 6 36) s m args below meth c D TL 686 base 17 0 0 (FinQ D base 6 36 below args s bo) M226 216 [(0, .ref (base + 0)), (1, .ref (base + 681)), (2, .ref (base + 682)), (3, .ref (base + 683)), (4, .ref (base + 684)), (5, .ref b), (6, .int (Ii a7)), (7, .int (Ii v15)), (8, .int (Ii v17)), (9, .int (Ii v223)), (10, .int (Ii v224)), (11, .int (Ii v225)), (12, .int (Ii v114))] [] (J v223 v224 v225 M226)) (by
                                    intro v223 v224 v225 M226 hv223 hv224 hv225
                                    refine go_iload X dL_isEquation_216 12 rfl ?_
                                    refine go_bipush (v := 8) X dL_isEquation_218 (by decide) ?_
                                    refine go_irem X dL_isEquation_220 hv114 kI_8 (by decide) (fun v228 hv228 => ?_)
                                    refine go_bipush (v := 7) X dL_isEquation_221 (by decide) ?_
                                    refine go_icmp_ne (tgt := 231) X dL_isEquation_223 rfl hv228 kI_7 (fun c229 => ?_) (fun c229 => ?_)
                                    · refine go_iload X dL_isEquation_231 12 rfl ?_
                                      refine go_bipush (v := 8) X dL_isEquation_233 (by decide) ?_
                                      refine go_irem X dL_isEquation_235 hv114 kI_8 (by decide) (fun v230 hv230 => ?_)
                                      refine go_goto (tgt := 240) X dL_isEquation_236 rfl ?_
                                      refine go_sub [0, 1, 2, 3, 4, 5, 6, 7, 8, 9, 10, 11] rfl ?_
                                      exact hJ240_120 v223 v224 v225 v230 M226 hv223 hv224 hv225 hv230
                                    · refine go_bipush (v := 14) X dL_isEquation_226 (by decide) ?_
                                      refine go_goto (tgt := 240) X dL_isEquation_228 rfl ?_
                                      refine go_sub [0, 1, 2, 3, 4, 5, 6, 7, 8, 9, 10, 11] rfl ?_
                                      exact hJ240_120 v223 v224 v225 14 M226 hv223 hv224 hv225 kI_14
                                    )
                                    (fun J216_227 hJ216_227 => ?_)
                                refine go_icmp_lt (tgt := 216) X dL_isEquation_207 rfl hv211 hv17 (fun c231 => ?_) (fun c231 => ?_)
                                · exact hJ216_227 v210 v211 v212 M213 hv210 hv211 hv212
                                · refine go_iload X dL_isEquation_210 12 rfl ?_
                                  refine go_iconst (v := 5) X dL_isEquation_212 rfl ?_
                                  refine go_icmp_le (tgt := 239) X dL_isEquation_213 rfl hv114 kI_5 (fun c232 => ?_) (fun c232 => ?_)
                                  · refine go_sub [0, 1, 2, 3, 4, 5, 6, 7, 8, 9, 10, 11] rfl ?_
                                    exact hJ239_221 v210 v211 v212 M213 hv210 hv211 hv212
                                  · exact hJ216_227 v210 v211 v212 M213 hv210 hv211 hv212
                              )
                              (fun J190_214 hJ190_214 => ?_)
                          refine go_if_le (tgt := 190) X dL_isEquation_175 rfl hv206 (fun c233 => ?_) (fun c233 => ?_)
                          · exact hJ190_214 v205 v206 v207 M208 hv205 hv206 hv207
                          · refine go_iload X dL_isEquation_178 12 rfl ?_
                            refine go_bipush (v := 19) X dL_isEquation_180 (by decide) ?_
                            refine go_icmp_ne (tgt := 190) X dL_isEquation_182 rfl hv114 kI_19 (fun c234 => ?_) (fun c234 => ?_)
                            · exact hJ190_214 v205 v206 v207 M208 hv205 hv206 hv207
                            · refine go_bipush (v := 7) X dL_isEquation_185 (by decide) ?_
                              refine go_goto (tgt := 240) X dL_isEquation_187 rfl ?_
                              refine go_sub [0, 1, 2, 3, 4, 5, 6, 7, 8, 9, 10, 11] rfl ?_
                              exact hJ240_120 v205 v206 v207 7 M208 hv205 hv206 hv207 kI_7
                          )
                          (fun J173_209 hJ173_209 => ?_)
                      refine go_icmp_le (tgt := 173) X dL_isEquation_117 rfl hv104 hv17 (fun c235 => ?_) (fun c235 => ?_)
                      · refine go_sub [1, 2, 3, 4, 5, 6, 7, 8, 9, 10, 11, 12, 0] rfl ?_
                        exact hJ173_209 v103 v104 v105 M113 hv103 hv104 hv105
                      · refine go_iload X dL_isEquation_120 0 rfl ?_
                        refine go_bipush (v := 12) X dL_isEquation_122 (by decide) ?_
                        refine go_lt (fun J => ∀ (v236 : Int) (v237 : Int) (v238 : Int) (M239 : Mm), bo v236 → i32 v237 → i32 v238 → Go p l e (rmX 9 221 6 36) s m args below meth c D TL 686 base 17 0 0 (FinQ D base 6 36 below args s bo) M239 142 [(0, .ref (base + 0)), (1, .ref (base + 681)), (2, .ref (base + 682)), (3, .ref (base + 683)), (4, .ref (base + 684)), (5, .ref b), (6, .int (Ii a7)), (7, .int (Ii v15)), (8, .int (Ii v17)), (9, .int (Ii v236)), (10, .int (Ii v237)), (11, .int (Ii v238)), (12, .int (Ii v114))] [] (J v236 v237 v238 M239)) (by
                            intro v236 v237 v238 M239 hv236 hv237 hv238
                            refine go_iload X dL_isEquation_142 10 rfl ?_
                            refine go_iload X dL_isEquation_144 8 rfl ?_
                            refine go_iconst (v := 1) X dL_isEquation_146 rfl ?_
                            refine go_iadd X dL_isEquation_147 hv17 kI_1 (fun v241 hv241 => ?_)
                            refine go_lt (fun J => ∀ (v242 : Int) (v243 : Int) (v244 : Int) (M245 : Mm), bo v242 → i32 v243 → i32 v244 → Go p l e (rmX 9 221 6 36) s m args below meth c D TL 686 base 17 0 0 (FinQ D base 6 36 below args s bo) M245 163 [(0, .ref (base + 0)), (1, .ref (base + 681)), (2, .ref (base + 682)), (3, .ref (base + 683)), (4, .ref (base + 684)), (5, .ref b), (6, .int (Ii a7)), (7, .int (Ii v15)), (8, .int (Ii v17)), (9, .int (Ii v242)), (10, .int (Ii v243)), (11, .int (Ii v244)), (12, .int (Ii v114))] [] (J v242 v243 v244 M245)) (by
                                intro v242 v243 v244 M245 hv242 hv243 hv244
                                refine go_bipush (v := 8) X dL_isEquation_163 (by decide) ?_
                                refine go_iload X dL_isEquation_165 12 rfl ?_
                                refine go_iconst (v := 5) X dL_isEquation_167 rfl ?_
                                refine go_irem X dL_isEquation_168 hv114 kI_5 (by decide) (fun v247 hv247 => ?_)
                                refine go_iadd X dL_isEquation_169 kI_8 hv247 (fun v248 hv248 => ?_)
                                refine go_goto (tgt := 240) X dL_isEquation_170 rfl ?_
                                refine go_sub [0, 1, 2, 3, 4, 5, 6, 7, 8, 9, 10, 11] rfl ?_
                                exact hJ240_120 v242 v243 v244 v248 M245 hv242 hv243 hv244 hv248
                                )
                                (fun J163_246 hJ163_246 => ?_)
                            refine go_icmp_le (tgt := 163) X dL_isEquation_148 rfl hv237 hv241 (fun c249 => ?_) (fun c249 => ?_)
                            · exact hJ163_246 v236 v237 v238 M239 hv236 hv237 hv238
                            · refine go_iload X dL_isEquation_151 12 rfl ?_
                              refine go_iconst (v := 3) X dL_isEquation_153 rfl ?_
                              refine go_irem X dL_isEquation_154 hv114 kI_3 (by decide) (fun v250 hv250 => ?_)
                              refine go_if_ne (tgt := 163) X dL_isEquation_155 rfl hv250 (fun c251 => ?_) (fun c251 => ?_)
                              · exact hJ163_246 v236 v237 v238 M239 hv236 hv237 hv238
                              · refine go_bipush (v := 13) X dL_isEquation_158 (by decide) ?_
                                refine go_goto (tgt := 240) X dL_isEquation_160 rfl ?_
                                refine go_sub [0, 1, 2, 3, 4, 5, 6, 7, 8, 9, 10, 11] rfl ?_
                                exact hJ240_120 v236 v237 v238 13 M239 hv236 hv237 hv238 kI_13
                            )
                            (fun J142_240 hJ142_240 => ?_)
                        refine go_icmp_lt (tgt := 142) X dL_isEquation_124 rfl hv114 kI_12 (fun c252 => ?_) (fun c252 => ?_)
                        · refine go_sub [1, 2, 3, 4, 5, 6, 7, 8, 9, 10, 11, 12, 0] rfl ?_
                          exact hJ142_240 v103 v104 v105 M113 hv103 hv104 hv105
                        · refine go_iload X dL_isEquation_127 12 rfl ?_
                          refine go_bipush (v := 8) X dL_isEquation_129 (by decide) ?_
                          refine go_iload X dL_isEquation_131 11 rfl ?_
                          refine go_isub X dL_isEquation_133 kI_8 hv104 (fun v253 hv253 => ?_)
                          refine go_iload X dL_isEquation_134 9 rfl ?_
                          refine go_iadd X dL_isEquation_136 hv253 hv17 (fun v254 hv254 => ?_)
                          refine go_iconst (v := 2) X dL_isEquation_137 rfl ?_
                          refine go_isub X dL_isEquation_138 hv254 kI_2 (fun v255 hv255 => ?_)
                          refine go_icmp_le (tgt := 173) X dL_isEquation_139 rfl hv105 hv255 (fun c256 => ?_) (fun c256 => ?_)
                          · refine go_sub [1, 2, 3, 4, 5, 6, 7, 8, 9, 10, 11, 12, 0] rfl ?_
                            exact hJ173_209 v103 v104 v105 M113 hv103 hv104 hv105
                          · refine go_sub [1, 2, 3, 4, 5, 6, 7, 8, 9, 10, 11, 12, 0] rfl ?_
                            exact hJ142_240 v103 v104 v105 M113 hv103 hv104 hv105
                  )
                  FU v22 0 0 M23 hv22 kI_0 kI_0
              )
              (fun J75_24 hJ75_24 => ?_)
          refine go_if_lt (tgt := 74) X dL_isEquation_67 rfl hv21 (fun c258 => ?_) (fun c258 => ?_)
          · refine go_iconst (v := 0) X dL_isEquation_74 rfl ?_
            refine go_sub [1, 2, 3, 4, 5, 6, 7, 8, 0] rfl ?_
            exact hJ75_24 0 M20 (Or.inl rfl)
          · refine go_iconst (v := 1) X dL_isEquation_70 rfl ?_
            refine go_goto (tgt := 75) X dL_isEquation_71 rfl ?_
            refine go_sub [1, 2, 3, 4, 5, 6, 7, 8, 0] rfl ?_
            exact hJ75_24 1 M20 (Or.inr rfl)
          )
          (fun J61_19 hJ61_19 => ?_)
      refine go_icmp_ne (tgt := 60) X dL_isEquation_53 rfl hv16 kI_2 (fun c259 => ?_) (fun c259 => ?_)
      · refine go_iconst (v := 1) X dL_isEquation_60 rfl ?_
        refine go_sub [1, 2, 3, 4, 5, 6, 7, 0] rfl ?_
        exact hJ61_19 1 M14 kI_1
      · refine go_iconst (v := 2) X dL_isEquation_56 rfl ?_
        refine go_goto (tgt := 61) X dL_isEquation_57 rfl ?_
        refine go_sub [1, 2, 3, 4, 5, 6, 7, 0] rfl ?_
        exact hJ61_19 2 M14 kI_2
    · refine go_sub [0] rfl ?_
      exact hJ14_3 M
