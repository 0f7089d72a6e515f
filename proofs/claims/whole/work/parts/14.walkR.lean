def f_X12_delete_L53_27 (J81_15 : Mm → Rs) (rc53_20 : Int × Mm → Rs) : Int × Mm → Rs := fun (v18, M19) =>
Lt (M19 0 33) fun v21 =>
if v21 ≤ v18 then (
J81_15 M19) else (
Lt (wr (v18 + 1)) fun v23 =>
gd (0 ≤ v23 ∧ v23 < 12) <|
Lt (M19 29 v23.toNat) fun v24 =>
gd (0 ≤ v18 ∧ v18 < 12) <|
Lt (up M19 29 v18.toNat v24) fun M25 =>
Lt (wr (v18 + 1)) fun v26 =>
rc53_20 (v26, M25))
def f_X12_delete (a1 : Int) (M : Mm) : Rs :=
Lt (M 0 33) fun v1 =>
Lt (wr (v1 - 1)) fun v2 =>
Cl (f_X12_isIn a1 0 v2 M) fun v4 M3 =>
Lt (fun (v5 : Int) (M6 : Mm) => 
Cl (f_X12_fails v5 M6) fun v9 M8 =>
if v9 = 0 then (
Lt (M8 0 33) fun v11 =>
Lt (wr (v11 - 1)) fun v12 =>
Lt (up M8 0 33 v12) fun M13 =>
Lt (fun (M14 : Mm) => 
Cl (f_X12_reads M14) fun v17 M16 =>
some (v17, M16)) fun J81_15 =>
Lp (f_X12_delete_L53_27 J81_15) FU (a1, M13)) else (
some (0, M8))) fun J33_7 =>
if ¬ v4 = 0 then (
Lt (M3 0 0) fun v29 =>
if ¬ v29 = 0 then (
J33_7 0 M3) else (
J33_7 2 M3)) else (
J33_7 1 M3)
theorem cy_X12_delete : yX12_delete.cls ≠ "java/lang/invoke/MethodHandle" ∧ yX12_delete.cls ≠ "java/lang/invoke/VarHandle" ∧ (parseMethodDescriptor yX12_delete.desc).map (fun d => d.parameters.length) = some 1 := ⟨by decide +kernel, by decide +kernel, by decide +kernel⟩
set_option maxRecDepth 20000 in
theorem ok_X12_delete (l : Launch) (D : Dd) (base : Nat) (M : Mm) (a1 : Int) (ha1 : i32 a1) : OkI l D TR 67 base yX12_delete cX12_delete 4 (some .int) 6 164 [.ref (base + 0), .int (Ii a1)] M i32 (f_X12_delete a1 M) := by
  refine metI (by decide +kernel) [(0, .ref (base + 0)), (1, .int (Ii a1))] rfl (Nat.le_of_ble_eq_true rfl) (fun p e s m args below meth c X hrt hlk => ?_)
  have X : Cx p s m args c cX12_delete D 4 RX12 := X
  unfold f_X12_delete
  refine go_iload_n X dX12_delete_0 rfl 1 rfl ?_
  refine go_iconst (v := 0) X dX12_delete_1 rfl ?_
  refine go_aload_n X dX12_delete_2 rfl 0 rfl ?_
  refine go_geti (i := 33) X fc12 dX12_delete_3 trn0 tr0 (Nat.le_of_ble_eq_true rfl) rfl lw1061 rfl (fun v1 hv1 => ?_)
  refine go_iconst (v := 1) X dX12_delete_6 rfl ?_
  refine go_isub X dX12_delete_7 hv1 kI_1 (fun v2 hv2 => ?_)
  refine goI (fun H locs ls r ho hW hL => runS X (ok_X12_isIn l D base M a1 ha1 0 kI_0 v2 hv2 H.size r ho) dX12_delete_8 lw942 lw943 lw944 ⟨lw939, cy_X12_isIn, Nat.le_of_ble_eq_true rfl, Nat.le_of_ble_eq_true rfl⟩ rfl rfl (Nat.le_of_ble_eq_true rfl) hW hL hk0) (fun v4 M3 hv4 => ?_)
  refine go_istore_n (i := 2) (L' := [(2, .int (Ii v4)), (0, .ref (base + 0)), (1, .int (Ii a1))]) X dX12_delete_11 rfl (by decide) rfl ?_
  refine go_aload_n X dX12_delete_12 rfl 1 rfl ?_
  refine go_iload_n X dX12_delete_13 rfl 0 rfl ?_
  refine go_lt (fun J => ∀ (v5 : Int) (M6 : Mm), i32 v5 → Go p l e (rmO 6 164) s m args below meth c D TR 67 base 4 0 0 (FinI D TR 67 base below args s i32) M6 33 [(0, .ref (base + 0)), (1, .int (Ii a1))] [.int (Ii v5), .ref (base + 0)] (J v5 M6)) (by
      intro v5 M6 hv5
      refine goI (fun H locs ls r ho hW hL => runV X (ok_X12_fails l D base M6 v5 hv5 H.size r ho) dX12_delete_33 lw954 lw955 lw956 lw944 ⟨lw937, cy_X12_fails, Nat.le_of_ble_eq_true rfl, Nat.le_of_ble_eq_true rfl⟩ rfl trn0 tr0 rfl rfl rfl rfl (Nat.le_of_ble_eq_true rfl) hW hL hk0) (fun v9 M8 hv9 => ?_)
      refine go_if_eq (tgt := 41) X dX12_delete_36 rfl (bo_i32 hv9) (fun c10 => ?_) (fun c10 => ?_)
      · refine go_aload_n X dX12_delete_41 rfl 0 rfl ?_
        refine go_dup X dX12_delete_42 rfl ?_
        refine go_geti (i := 33) X fc12 dX12_delete_43 trn0 tr0 (Nat.le_of_ble_eq_true rfl) rfl lw1061 rfl (fun v11 hv11 => ?_)
        refine go_iconst (v := 1) X dX12_delete_46 rfl ?_
        refine go_isub X dX12_delete_47 hv11 kI_1 (fun v12 hv12 => ?_)
        refine go_puti (i := 33) X fc12 dX12_delete_48 trn0 tr0 (Nat.le_of_ble_eq_true rfl) rfl lw1061 rfl rfl rfl hv12 (fun M13 => ?_)
        refine go_iload_n X dX12_delete_51 rfl 1 rfl ?_
        refine go_istore_n (i := 3) (L' := [(3, .int (Ii a1)), (0, .ref (base + 0)), (1, .int (Ii a1))]) X dX12_delete_52 rfl (by decide) rfl ?_
        refine go_lt (fun J => ∀ (M14 : Mm), Go p l e (rmO 6 164) s m args below meth c D TR 67 base 4 0 0 (FinI D TR 67 base below args s i32) M14 81 [(0, .ref (base + 0))] [] (J M14)) (by
            intro M14
            refine go_aload_n X dX12_delete_81 rfl 0 rfl ?_
            refine goI (fun H locs ls r ho hW hL => runV X (ok_X12_reads l D base M14  H.size r ho) dX12_delete_82 lw1090 lw1091 lw1092 lw944 ⟨lw1089, cy_X12_reads, Nat.le_of_ble_eq_true rfl, Nat.le_of_ble_eq_true rfl⟩ rfl trn0 tr0 rfl rfl rfl rfl (Nat.le_of_ble_eq_true rfl) hW hL hk0) (fun v17 M16 hv17 => ?_)
            exact go_ireturn X hrt hlk dX12_delete_85 hv17
            )
            (fun J81_15 hJ81_15 => ?_)
        refine go_sub [1, 0] rfl ?_
        exact go_lp (fun (rc : Int × Mm → Rs) => ∀ (v18 : Int) (M19 : Mm), i32 v18 → Go p l e (rmO 6 164) s m args below meth c D TR 67 base 4 0 0 (FinI D TR 67 base below args s i32) M19 53 [(0, .ref (base + 0)), (3, .int (Ii v18))] [] (rc (v18, M19)))
            (by intro v18 M19 hv18; exact go_none)
            (by
            intro rc53_20 hrc53_20 v18 M19 hv18
            unfold f_X12_delete_L53_27
            dsimp only
            refine go_iload_n X dX12_delete_53 rfl 1 rfl ?_
            refine go_aload_n X dX12_delete_54 rfl 0 rfl ?_
            refine go_geti (i := 33) X fc12 dX12_delete_55 trn0 tr0 (Nat.le_of_ble_eq_true rfl) rfl lw1061 rfl (fun v21 hv21 => ?_)
            refine go_icmp_ge (tgt := 81) X dX12_delete_58 rfl hv18 hv21 (fun c22 => ?_) (fun c22 => ?_)
            · refine go_sub [0] rfl ?_
              exact hJ81_15 M19
            · refine go_aload_n X dX12_delete_61 rfl 0 rfl ?_
              refine go_getc (i := 34) X fc12 dX12_delete_62 trn0 tr0 (Nat.le_of_ble_eq_true rfl) rfl lw894 rfl ?_
              refine go_iload_n X dX12_delete_65 rfl 1 rfl ?_
              refine go_aload_n X dX12_delete_66 rfl 0 rfl ?_
              refine go_getc (i := 34) X fc12 dX12_delete_67 trn0 tr0 (Nat.le_of_ble_eq_true rfl) rfl lw894 rfl ?_
              refine go_iload_n X dX12_delete_70 rfl 1 rfl ?_
              refine go_iconst (v := 1) X dX12_delete_71 rfl ?_
              refine go_iadd X dX12_delete_72 hv18 kI_1 (fun v23 hv23 => ?_)
              refine go_iaload X dX12_delete_73 trn29 tr29 hv23 (fun v24 hv24 => ?_)
              refine go_iastore X dX12_delete_74 trn29 tr29 hv18 hv24 (fun M25 => ?_)
              refine go_iinc (i := 3) (L' := fun v => [(3, .int (Ii v)), (0, .ref (base + 0))]) X dX12_delete_75 hv18 kI_1 (j := 1) rfl (by decide) (fun _ => rfl) (fun v26 hv26 => ?_)
              refine go_goto (tgt := 53) X dX12_delete_78 rfl ?_
              refine go_sub [1, 0] rfl ?_
              exact hrc53_20 v26 M25 hv26
            )
            FU a1 M13 ha1
      · refine go_iconst (v := 0) X dX12_delete_39 rfl ?_
        exact go_ireturn X hrt hlk dX12_delete_40 kI_0
      )
      (fun J33_7 hJ33_7 => ?_)
  refine go_if_ne (tgt := 21) X dX12_delete_14 rfl (bo_i32 hv4) (fun c28 => ?_) (fun c28 => ?_)
  · refine go_aload_n X dX12_delete_21 rfl 1 rfl ?_
    refine go_geti (i := 0) X fc12 dX12_delete_22 trn0 tr0 (Nat.le_of_ble_eq_true rfl) rfl lw941 rfl (fun v29 hv29 => ?_)
    refine go_if_ne (tgt := 32) X dX12_delete_25 rfl hv29 (fun c30 => ?_) (fun c30 => ?_)
    · refine go_iconst (v := 0) X dX12_delete_32 rfl ?_
      refine go_sub [1, 2] rfl ?_
      exact hJ33_7 0 M3 kI_0
    · refine go_iconst (v := 2) X dX12_delete_28 rfl ?_
      refine go_goto (tgt := 33) X dX12_delete_29 rfl ?_
      refine go_sub [1, 2] rfl ?_
      exact hJ33_7 2 M3 kI_2
  · refine go_iconst (v := 1) X dX12_delete_17 rfl ?_
    refine go_goto (tgt := 33) X dX12_delete_18 rfl ?_
    refine go_sub [1, 2] rfl ?_
    exact hJ33_7 1 M3 kI_1
def f_X12_read (M : Mm) : Rs :=
Lt (M 0 0) fun v1 =>
Lt (fun (v2 : Int) (M3 : Mm) => 
Cl (f_X12_fails v2 M3) fun v6 M5 =>
Lt (fun (v7 : Int) (M8 : Mm) => 
some (v7, M8)) fun J27_9 =>
if v6 = 0 then (
Cl (f_X12_reads M5) fun v12 M11 =>
J27_9 v12 M11) else (
J27_9 0 M5)) fun J13_4 =>
if ¬ v1 = 0 then (
J13_4 0 M) else (
J13_4 1 M)
theorem cy_X12_read : yX12_read.cls ≠ "java/lang/invoke/MethodHandle" ∧ yX12_read.cls ≠ "java/lang/invoke/VarHandle" ∧ (parseMethodDescriptor yX12_read.desc).map (fun d => d.parameters.length) = some 0 := ⟨by decide +kernel, by decide +kernel, by decide +kernel⟩
set_option maxRecDepth 20000 in
theorem ok_X12_read (l : Launch) (D : Dd) (base : Nat) (M : Mm) : OkI l D TR 67 base yX12_read cX12_read 1 (some .int) 6 164 [.ref (base + 0)] M i32 (f_X12_read M) := by
  refine metI (by decide +kernel) [(0, .ref (base + 0))] rfl (Nat.le_of_ble_eq_true rfl) (fun p e s m args below meth c X hrt hlk => ?_)
  have X : Cx p s m args c cX12_read D 1 RX12 := X
  unfold f_X12_read
  refine go_aload_n X dX12_read_0 rfl 0 rfl ?_
  refine go_aload_n X dX12_read_1 rfl 0 rfl ?_
  refine go_geti (i := 0) X fc12 dX12_read_2 trn0 tr0 (Nat.le_of_ble_eq_true rfl) rfl lw941 rfl (fun v1 hv1 => ?_)
  refine go_lt (fun J => ∀ (v2 : Int) (M3 : Mm), bo v2 → Go p l e (rmO 6 164) s m args below meth c D TR 67 base 1 0 0 (FinI D TR 67 base below args s i32) M3 13 [(0, .ref (base + 0))] [.int (Ii v2), .ref (base + 0)] (J v2 M3)) (by
      intro v2 M3 hv2
      refine goI (fun H locs ls r ho hW hL => runV X (ok_X12_fails l D base M3 v2 (bo_i32 hv2) H.size r ho) dX12_read_13 lw954 lw955 lw956 lw944 ⟨lw937, cy_X12_fails, Nat.le_of_ble_eq_true rfl, Nat.le_of_ble_eq_true rfl⟩ rfl trn0 tr0 rfl rfl rfl rfl (Nat.le_of_ble_eq_true rfl) hW hL hk0) (fun v6 M5 hv6 => ?_)
      refine go_lt (fun J => ∀ (v7 : Int) (M8 : Mm), i32 v7 → Go p l e (rmO 6 164) s m args below meth c D TR 67 base 1 0 0 (FinI D TR 67 base below args s i32) M8 27 [] [.int (Ii v7)] (J v7 M8)) (by
          intro v7 M8 hv7
          exact go_ireturn X hrt hlk dX12_read_27 hv7
          )
          (fun J27_9 hJ27_9 => ?_)
      refine go_if_eq (tgt := 23) X dX12_read_16 rfl (bo_i32 hv6) (fun c10 => ?_) (fun c10 => ?_)
      · refine go_aload_n X dX12_read_23 rfl 0 rfl ?_
        refine goI (fun H locs ls r ho hW hL => runV X (ok_X12_reads l D base M5  H.size r ho) dX12_read_24 lw1090 lw1091 lw1092 lw944 ⟨lw1089, cy_X12_reads, Nat.le_of_ble_eq_true rfl, Nat.le_of_ble_eq_true rfl⟩ rfl trn0 tr0 rfl rfl rfl rfl (Nat.le_of_ble_eq_true rfl) hW hL hk0) (fun v12 M11 hv12 => ?_)
        refine go_sub [] rfl ?_
        exact hJ27_9 v12 M11 hv12
      · refine go_iconst (v := 0) X dX12_read_19 rfl ?_
        refine go_goto (tgt := 27) X dX12_read_20 rfl ?_
        refine go_sub [] rfl ?_
        exact hJ27_9 0 M5 kI_0
      )
      (fun J13_4 hJ13_4 => ?_)
  refine go_if_ne (tgt := 12) X dX12_read_5 rfl hv1 (fun c13 => ?_) (fun c13 => ?_)
  · refine go_iconst (v := 0) X dX12_read_12 rfl ?_
    exact hJ13_4 0 M (Or.inl rfl)
  · refine go_iconst (v := 1) X dX12_read_8 rfl ?_
    refine go_goto (tgt := 13) X dX12_read_9 rfl ?_
    exact hJ13_4 1 M (Or.inr rfl)
def f_X12_cost (M : Mm) : Rs :=
Lt (M 0 36) fun v1 =>
Cl (f_X12_tells v1 M) fun v3 M2 =>
some (v3, M2)
theorem cy_X12_cost : yX12_cost.cls ≠ "java/lang/invoke/MethodHandle" ∧ yX12_cost.cls ≠ "java/lang/invoke/VarHandle" ∧ (parseMethodDescriptor yX12_cost.desc).map (fun d => d.parameters.length) = some 0 := ⟨by decide +kernel, by decide +kernel, by decide +kernel⟩
set_option maxRecDepth 20000 in
theorem ok_X12_cost (l : Launch) (D : Dd) (base : Nat) (M : Mm) : OkI l D TR 67 base yX12_cost cX12_cost 1 (some .int) 1 21 [.ref (base + 0)] M i32 (f_X12_cost M) := by
  refine metI (by decide +kernel) [(0, .ref (base + 0))] rfl (Nat.le_of_ble_eq_true rfl) (fun p e s m args below meth c X hrt hlk => ?_)
  have X : Cx p s m args c cX12_cost D 1 RX12 := X
  unfold f_X12_cost
  refine go_aload_n X dX12_cost_0 rfl 0 rfl ?_
  refine go_aload_n X dX12_cost_1 rfl 0 rfl ?_
  refine go_geti (i := 36) X fc12 dX12_cost_2 trn0 tr0 (Nat.le_of_ble_eq_true rfl) rfl lw895 rfl (fun v1 hv1 => ?_)
  refine goI (fun H locs ls r ho hW hL => runV X (ok_X12_tells l D base M v1 hv1 H.size r ho) dX12_cost_5 lw998 lw999 lw1000 lw944 ⟨lw938, cy_X12_tells, Nat.le_of_ble_eq_true rfl, Nat.le_of_ble_eq_true rfl⟩ rfl trn0 tr0 rfl rfl rfl rfl (Nat.le_of_ble_eq_true rfl) hW hL hk0) (fun v3 M2 hv3 => ?_)
  exact go_ireturn X hrt hlk dX12_cost_8 hv3
def f_X12_node (a1 : Int) (M : Mm) : Rs :=
Cl (f_X12_isNode a1 M) fun v2 M1 =>
Lt (fun (v3 : Int) (M4 : Mm) => 
Cl (f_X12_fails v3 M4) fun v7 M6 =>
Lt (fun (v8 : Int) (M9 : Mm) => 
some (v8, M9)) fun J58_10 =>
if v7 = 0 then (
gd (0 ≤ a1 ∧ a1 < 30) <|
Lt (M6 32 a1.toNat) fun v12 =>
Lt (wr (v12 + 1)) fun v13 =>
Lt (wr (1000 * v13)) fun v14 =>
gd (0 ≤ a1 ∧ a1 < 30) <|
Lt (M6 30 a1.toNat) fun v15 =>
Lt (wr (10 * v15)) fun v16 =>
Lt (wr (v14 + v16)) fun v17 =>
gd (0 ≤ a1 ∧ a1 < 30) <|
Lt (M6 30 a1.toNat) fun v18 =>
gd (0 ≤ v18 ∧ v18 < 10) <|
Lt (M6 4 v18.toNat) fun v19 =>
Lt (wr (v17 + v19)) fun v20 =>
J58_10 v20 M6) else (
J58_10 0 M6)) fun J14_5 =>
if v2 = 0 then (
J14_5 1 M1) else (
J14_5 0 M1)
theorem cy_X12_node : yX12_node.cls ≠ "java/lang/invoke/MethodHandle" ∧ yX12_node.cls ≠ "java/lang/invoke/VarHandle" ∧ (parseMethodDescriptor yX12_node.desc).map (fun d => d.parameters.length) = some 1 := ⟨by decide +kernel, by decide +kernel, by decide +kernel⟩
set_option maxRecDepth 20000 in
theorem ok_X12_node (l : Launch) (D : Dd) (base : Nat) (M : Mm) (a1 : Int) (ha1 : i32 a1) : OkI l D TR 67 base yX12_node cX12_node 2 (some .int) 2 43 [.ref (base + 0), .int (Ii a1)] M i32 (f_X12_node a1 M) := by
  refine metI (by decide +kernel) [(0, .ref (base + 0)), (1, .int (Ii a1))] rfl (Nat.le_of_ble_eq_true rfl) (fun p e s m args below meth c X hrt hlk => ?_)
  have X : Cx p s m args c cX12_node D 2 RX12 := X
  unfold f_X12_node
  refine go_aload_n X dX12_node_0 rfl 0 rfl ?_
  refine go_aload_n X dX12_node_1 rfl 0 rfl ?_
  refine go_iload_n X dX12_node_2 rfl 1 rfl ?_
  refine goI (fun H locs ls r ho hW hL => runV X (ok_X12_isNode l D base M a1 ha1 H.size r ho) dX12_node_3 lw1098 lw1099 lw1100 lw944 ⟨lw947, cy_X12_isNode, Nat.le_of_ble_eq_true rfl, Nat.le_of_ble_eq_true rfl⟩ rfl trn0 tr0 rfl rfl rfl rfl (Nat.le_of_ble_eq_true rfl) hW hL hk0) (fun v2 M1 hv2 => ?_)
  refine go_lt (fun J => ∀ (v3 : Int) (M4 : Mm), bo v3 → Go p l e (rmO 2 43) s m args below meth c D TR 67 base 2 0 0 (FinI D TR 67 base below args s i32) M4 14 [(0, .ref (base + 0)), (1, .int (Ii a1))] [.int (Ii v3), .ref (base + 0)] (J v3 M4)) (by
      intro v3 M4 hv3
      refine goI (fun H locs ls r ho hW hL => runV X (ok_X12_fails l D base M4 v3 (bo_i32 hv3) H.size r ho) dX12_node_14 lw954 lw955 lw956 lw944 ⟨lw937, cy_X12_fails, Nat.le_of_ble_eq_true rfl, Nat.le_of_ble_eq_true rfl⟩ rfl trn0 tr0 rfl rfl rfl rfl (Nat.le_of_ble_eq_true rfl) hW hL hk0) (fun v7 M6 hv7 => ?_)
      refine go_lt (fun J => ∀ (v8 : Int) (M9 : Mm), i32 v8 → Go p l e (rmO 2 43) s m args below meth c D TR 67 base 2 0 0 (FinI D TR 67 base below args s i32) M9 58 [] [.int (Ii v8)] (J v8 M9)) (by
          intro v8 M9 hv8
          exact go_ireturn X hrt hlk dX12_node_58 hv8
          )
          (fun J58_10 hJ58_10 => ?_)
      refine go_if_eq (tgt := 24) X dX12_node_17 rfl (bo_i32 hv7) (fun c11 => ?_) (fun c11 => ?_)
      · refine go_sipush (v := 1000) X dX12_node_24 (by decide) ?_
        refine go_aload_n X dX12_node_27 rfl 0 rfl ?_
        refine go_getc (i := 39) X fc12 dX12_node_28 trn0 tr0 (Nat.le_of_ble_eq_true rfl) rfl lw898 rfl ?_
        refine go_iload_n X dX12_node_31 rfl 1 rfl ?_
        refine go_iaload X dX12_node_32 trn32 tr32 ha1 (fun v12 hv12 => ?_)
        refine go_iconst (v := 1) X dX12_node_33 rfl ?_
        refine go_iadd X dX12_node_34 hv12 kI_1 (fun v13 hv13 => ?_)
        refine go_imul X dX12_node_35 kI_1000 hv13 (fun v14 hv14 => ?_)
        refine go_bipush (v := 10) X dX12_node_36 (by decide) ?_
        refine go_aload_n X dX12_node_38 rfl 0 rfl ?_
        refine go_getc (i := 37) X fc12 dX12_node_39 trn0 tr0 (Nat.le_of_ble_eq_true rfl) rfl lw896 rfl ?_
        refine go_iload_n X dX12_node_42 rfl 1 rfl ?_
        refine go_iaload X dX12_node_43 trn30 tr30 ha1 (fun v15 hv15 => ?_)
        refine go_imul X dX12_node_44 kI_10 hv15 (fun v16 hv16 => ?_)
        refine go_iadd X dX12_node_45 hv14 hv16 (fun v17 hv17 => ?_)
        refine go_aload_n X dX12_node_46 rfl 0 rfl ?_
        refine go_getc (i := 4) X fc12 dX12_node_47 trn0 tr0 (Nat.le_of_ble_eq_true rfl) rfl lw869 rfl ?_
        refine go_aload_n X dX12_node_50 rfl 0 rfl ?_
        refine go_getc (i := 37) X fc12 dX12_node_51 trn0 tr0 (Nat.le_of_ble_eq_true rfl) rfl lw896 rfl ?_
        refine go_iload_n X dX12_node_54 rfl 1 rfl ?_
        refine go_iaload X dX12_node_55 trn30 tr30 ha1 (fun v18 hv18 => ?_)
        refine go_iaload X dX12_node_56 trn4 tr4 hv18 (fun v19 hv19 => ?_)
        refine go_iadd X dX12_node_57 hv17 hv19 (fun v20 hv20 => ?_)
        refine go_sub [] rfl ?_
        exact hJ58_10 v20 M6 hv20
      · refine go_iconst (v := 0) X dX12_node_20 rfl ?_
        refine go_goto (tgt := 58) X dX12_node_21 rfl ?_
        refine go_sub [] rfl ?_
        exact hJ58_10 0 M6 kI_0
      )
      (fun J14_5 hJ14_5 => ?_)
  refine go_if_eq (tgt := 13) X dX12_node_6 rfl (bo_i32 hv2) (fun c21 => ?_) (fun c21 => ?_)
  · refine go_iconst (v := 1) X dX12_node_13 rfl ?_
    exact hJ14_5 1 M1 (Or.inr rfl)
  · refine go_iconst (v := 0) X dX12_node_9 rfl ?_
    refine go_goto (tgt := 14) X dX12_node_10 rfl ?_
    exact hJ14_5 0 M1 (Or.inl rfl)
def f_X12_at (a1 : Int) (a2 : Int) (M : Mm) : Rs :=
Lt (M 0 68) fun v1 =>
gd (0 ≤ a1 ∧ a1 < 30) <|
Lt (M 36 a1.toNat) fun v2 =>
Lt (wr (6 * v2)) fun v3 =>
Lt (wr (v1 + v3)) fun v4 =>
Lt (wr (v4 + a2)) fun v5 =>
some (v5, M)
theorem cy_X12_at : yX12_at.cls ≠ "java/lang/invoke/MethodHandle" ∧ yX12_at.cls ≠ "java/lang/invoke/VarHandle" ∧ (parseMethodDescriptor yX12_at.desc).map (fun d => d.parameters.length) = some 2 := ⟨by decide +kernel, by decide +kernel, by decide +kernel⟩
set_option maxRecDepth 20000 in
theorem ok_X12_at (l : Launch) (D : Dd) (base : Nat) (M : Mm) (a1 : Int) (ha1 : i32 a1) (a2 : Int) (ha2 : i32 a2) : OkI l D TR 67 base yX12_at cX12_at 3 (some .int) 0 0 [.ref (base + 0), .int (Ii a1), .int (Ii a2)] M i32 (f_X12_at a1 a2 M) := by
  refine metI (by decide +kernel) [(0, .ref (base + 0)), (1, .int (Ii a1)), (2, .int (Ii a2))] rfl (Nat.le_of_ble_eq_true rfl) (fun p e s m args below meth c X hrt hlk => ?_)
  have X : Cx p s m args c cX12_at D 3 RX12 := X
  unfold f_X12_at
  refine go_aload_n X dX12_at_0 rfl 0 rfl ?_
  refine go_geti (i := 68) X fc12 dX12_at_1 trn0 tr0 (Nat.le_of_ble_eq_true rfl) rfl lw1102 rfl (fun v1 hv1 => ?_)
  refine go_bipush (v := 6) X dX12_at_4 (by decide) ?_
  refine go_aload_n X dX12_at_6 rfl 0 rfl ?_
  refine go_getc (i := 43) X fc12 dX12_at_7 trn0 tr0 (Nat.le_of_ble_eq_true rfl) rfl lw902 rfl ?_
  refine go_iload_n X dX12_at_10 rfl 1 rfl ?_
  refine go_iaload X dX12_at_11 trn36 tr36 ha1 (fun v2 hv2 => ?_)
  refine go_imul X dX12_at_12 kI_6 hv2 (fun v3 hv3 => ?_)
  refine go_iadd X dX12_at_13 hv1 hv3 (fun v4 hv4 => ?_)
  refine go_iload_n X dX12_at_14 rfl 2 rfl ?_
  refine go_iadd X dX12_at_15 hv4 ha2 (fun v5 hv5 => ?_)
  exact go_ireturn X hrt hlk dX12_at_16 hv5
def f_X12_records_L4_29 (a1 : Int) (J38_3 : Int → Mm → Rs) (rc4_15 : Int × Int × Mm → Rs) : Int × Int × Mm → Rs := fun (v12, v13, M14) =>
Lt (M14 0 80) fun v16 =>
if v16 ≤ v13 then (
J38_3 v12 M14) else (
Lt (fun (v18 : Int) (v19 : Int) (M20 : Mm) => 
Lt (wr (v18 + 1)) fun v22 =>
rc4_15 (v19, v22, M20)) fun J31_21 =>
Lt (fun (v23 : Int) (M24 : Mm) => 
J31_21 v23 1 M24) fun J26_25 =>
if ¬ v12 = 0 then (
J26_25 v13 M14) else (
gd (0 ≤ v13 ∧ v13 < 240) <|
Lt (M14 61 v13.toNat) fun v27 =>
if ¬ v27 = a1 then (
J31_21 v13 0 M14) else (
J26_25 v13 M14)))
def f_X12_records (a1 : Int) (M : Mm) : Rs :=
Lt (fun (v1 : Int) (M2 : Mm) => 
Lt (fun (M4 : Mm) => 
some (0, M4)) fun J62_5 =>
if ¬ v1 = 0 then (
J62_5 M2) else (
Lt (M2 0 80) fun v7 =>
gd (0 ≤ v7 ∧ v7 < 240) <|
Lt (up M2 61 v7.toNat a1) fun M8 =>
Lt (M8 0 80) fun v9 =>
Lt (wr (v9 + 1)) fun v10 =>
Lt (up M8 0 80 v10) fun M11 =>
J62_5 M11)) fun J38_3 =>
Lp (f_X12_records_L4_29 a1 J38_3) FU (0, 0, M)
theorem cy_X12_records : yX12_records.cls ≠ "java/lang/invoke/MethodHandle" ∧ yX12_records.cls ≠ "java/lang/invoke/VarHandle" ∧ (parseMethodDescriptor yX12_records.desc).map (fun d => d.parameters.length) = some 1 := ⟨by decide +kernel, by decide +kernel, by decide +kernel⟩
set_option maxRecDepth 20000 in
theorem ok_X12_records (l : Launch) (D : Dd) (base : Nat) (M : Mm) (a1 : Int) (ha1 : i32 a1) : OkV l D TR 67 base yX12_records cX12_records 4 none 0 0 [.ref (base + 0), .int (Ii a1)] M (f_X12_records a1 M) := by
  refine metV (by decide +kernel) [(0, .ref (base + 0)), (1, .int (Ii a1))] rfl (Nat.le_of_ble_eq_true rfl) (fun p e s m args below meth c X hrt hlk => ?_)
  have X : Cx p s m args c cX12_records D 4 RX12 := X
  unfold f_X12_records
  refine go_iconst (v := 0) X dX12_records_0 rfl ?_
  refine go_istore_n (i := 2) (L' := [(2, .int (Ii 0)), (0, .ref (base + 0)), (1, .int (Ii a1))]) X dX12_records_1 rfl (by decide) rfl ?_
  refine go_iconst (v := 0) X dX12_records_2 rfl ?_
  refine go_istore_n (i := 3) (L' := [(3, .int (Ii 0)), (2, .int (Ii 0)), (0, .ref (base + 0)), (1, .int (Ii a1))]) X dX12_records_3 rfl (by decide) rfl ?_
  refine go_lt (fun J => ∀ (v1 : Int) (M2 : Mm), bo v1 → Go p l e (rmO 0 0) s m args below meth c D TR 67 base 4 0 0 (FinV D TR 67 base below args s) M2 38 [(0, .ref (base + 0)), (1, .int (Ii a1)), (2, .int (Ii v1))] [] (J v1 M2)) (by
      intro v1 M2 hv1
      refine go_iload_n X dX12_records_38 rfl 2 rfl ?_
      refine go_lt (fun J => ∀ (M4 : Mm), Go p l e (rmO 0 0) s m args below meth c D TR 67 base 4 0 0 (FinV D TR 67 base below args s) M4 62 [] [] (J M4)) (by
          intro M4
          exact go_vreturn X hrt hlk dX12_records_62
          )
          (fun J62_5 hJ62_5 => ?_)
      refine go_if_ne (tgt := 62) X dX12_records_39 rfl (bo_i32 hv1) (fun c6 => ?_) (fun c6 => ?_)
      · refine go_sub [] rfl ?_
        exact hJ62_5 M2
      · refine go_aload_n X dX12_records_42 rfl 0 rfl ?_
        refine go_getc (i := 81) X fc12 dX12_records_43 trn0 tr0 (Nat.le_of_ble_eq_true rfl) rfl lw928 rfl ?_
        refine go_aload_n X dX12_records_46 rfl 0 rfl ?_
        refine go_geti (i := 80) X fc12 dX12_records_47 trn0 tr0 (Nat.le_of_ble_eq_true rfl) rfl lw1104 rfl (fun v7 hv7 => ?_)
        refine go_iload_n X dX12_records_50 rfl 1 rfl ?_
        refine go_iastore X dX12_records_51 trn61 tr61 hv7 ha1 (fun M8 => ?_)
        refine go_aload_n X dX12_records_52 rfl 0 rfl ?_
        refine go_dup X dX12_records_53 rfl ?_
        refine go_geti (i := 80) X fc12 dX12_records_54 trn0 tr0 (Nat.le_of_ble_eq_true rfl) rfl lw1104 rfl (fun v9 hv9 => ?_)
        refine go_iconst (v := 1) X dX12_records_57 rfl ?_
        refine go_iadd X dX12_records_58 hv9 kI_1 (fun v10 hv10 => ?_)
        refine go_puti (i := 80) X fc12 dX12_records_59 trn0 tr0 (Nat.le_of_ble_eq_true rfl) rfl lw1104 rfl rfl rfl hv10 (fun M11 => ?_)
        refine go_sub [] rfl ?_
        exact hJ62_5 M11
      )
      (fun J38_3 hJ38_3 => ?_)
  refine go_sub [2, 3, 1, 0] rfl ?_
  exact go_lp (fun (rc : Int × Int × Mm → Rs) => ∀ (v12 : Int) (v13 : Int) (M14 : Mm), bo v12 → i32 v13 → Go p l e (rmO 0 0) s m args below meth c D TR 67 base 4 0 0 (FinV D TR 67 base below args s) M14 4 [(0, .ref (base + 0)), (1, .int (Ii a1)), (2, .int (Ii v12)), (3, .int (Ii v13))] [] (rc (v12, v13, M14)))
      (by intro v12 v13 M14 hv12 hv13; exact go_none)
      (by
      intro rc4_15 hrc4_15 v12 v13 M14 hv12 hv13
      unfold f_X12_records_L4_29
      dsimp only
      refine go_iload_n X dX12_records_4 rfl 3 rfl ?_
      refine go_aload_n X dX12_records_5 rfl 0 rfl ?_
      refine go_geti (i := 80) X fc12 dX12_records_6 trn0 tr0 (Nat.le_of_ble_eq_true rfl) rfl lw1104 rfl (fun v16 hv16 => ?_)
      refine go_icmp_ge (tgt := 38) X dX12_records_9 rfl hv13 hv16 (fun c17 => ?_) (fun c17 => ?_)
      · refine go_sub [0, 1, 2] rfl ?_
        exact hJ38_3 v12 M14 hv12
      · refine go_iload_n X dX12_records_12 rfl 2 rfl ?_
        refine go_lt (fun J => ∀ (v18 : Int) (v19 : Int) (M20 : Mm), i32 v18 → bo v19 → Go p l e (rmO 0 0) s m args below meth c D TR 67 base 4 0 0 (FinV D TR 67 base below args s) M20 31 [(0, .ref (base + 0)), (1, .int (Ii a1)), (3, .int (Ii v18))] [.int (Ii v19)] (J v18 v19 M20)) (by
            intro v18 v19 M20 hv18 hv19
            refine go_istore_n (i := 2) (L' := [(2, .int (Ii v19)), (0, .ref (base + 0)), (1, .int (Ii a1)), (3, .int (Ii v18))]) X dX12_records_31 rfl (by decide) rfl ?_
            refine go_iinc (i := 3) (L' := fun v => [(3, .int (Ii v)), (2, .int (Ii v19)), (0, .ref (base + 0)), (1, .int (Ii a1))]) X dX12_records_32 hv18 kI_1 (j := 3) rfl (by decide) (fun _ => rfl) (fun v22 hv22 => ?_)
            refine go_goto (tgt := 4) X dX12_records_35 rfl ?_
            refine go_sub [2, 3, 1, 0] rfl ?_
            exact hrc4_15 v19 v22 M20 hv19 hv22
            )
            (fun J31_21 hJ31_21 => ?_)
        refine go_lt (fun J => ∀ (v23 : Int) (M24 : Mm), i32 v23 → Go p l e (rmO 0 0) s m args below meth c D TR 67 base 4 0 0 (FinV D TR 67 base below args s) M24 26 [(0, .ref (base + 0)), (1, .int (Ii a1)), (3, .int (Ii v23))] [] (J v23 M24)) (by
            intro v23 M24 hv23
            refine go_iconst (v := 1) X dX12_records_26 rfl ?_
            refine go_goto (tgt := 31) X dX12_records_27 rfl ?_
            exact hJ31_21 v23 1 M24 hv23 (Or.inr rfl)
            )
            (fun J26_25 hJ26_25 => ?_)
        refine go_if_ne (tgt := 26) X dX12_records_13 rfl (bo_i32 hv12) (fun c26 => ?_) (fun c26 => ?_)
        · refine go_sub [0, 1, 3] rfl ?_
          exact hJ26_25 v13 M14 hv13
        · refine go_aload_n X dX12_records_16 rfl 0 rfl ?_
          refine go_getc (i := 81) X fc12 dX12_records_17 trn0 tr0 (Nat.le_of_ble_eq_true rfl) rfl lw928 rfl ?_
          refine go_iload_n X dX12_records_20 rfl 3 rfl ?_
          refine go_iaload X dX12_records_21 trn61 tr61 hv13 (fun v27 hv27 => ?_)
          refine go_iload_n X dX12_records_22 rfl 1 rfl ?_
          refine go_icmp_ne (tgt := 30) X dX12_records_23 rfl hv27 ha1 (fun c28 => ?_) (fun c28 => ?_)
          · refine go_iconst (v := 0) X dX12_records_30 rfl ?_
            refine go_sub [0, 1, 3] rfl ?_
            exact hJ31_21 v13 0 M14 hv13 (Or.inl rfl)
          · refine go_sub [0, 1, 3] rfl ?_
            exact hJ26_25 v13 M14 hv13
      )
      FU 0 0 M (Or.inl rfl) kI_0
def f_X12_looksAt (a1 : Int) (a2 : Int) (M : Mm) : Rs :=
Lt (M 0 72) fun v1 =>
if v1 = ((-1)) then (
Lt (M 0 79) fun v3 =>
Lt (fun (M4 : Mm) => 
gd (0 ≤ a2 ∧ a2 < 6) <|
Lt (M4 12 a2.toNat) fun v6 =>
if ¬ v6 = 3 then (
Cl (f_X12_at a1 a2 M4) fun v9 M8 =>
gd (0 ≤ v9 ∧ v9 < 720) <|
Lt (M8 50 v9.toNat) fun v10 =>
if v10 = 0 then (
gd (0 ≤ v9 ∧ v9 < 720) <|
Lt (M8 51 v9.toNat) fun v12 =>
if v12 = 0 then (
Lt (up M8 0 72 a1) fun M14 =>
Lt (up M14 0 73 a2) fun M15 =>
some ((-1), M15)) else (
some ((-2), M8))) else (
Lt (M8 0 74) fun v16 =>
gd (0 ≤ v9 ∧ v9 < 720) <|
Lt (M8 53 v9.toNat) fun v17 =>
Lt (lor_ v16 v17) fun v18 =>
Lt (up M8 0 74 v18) fun M19 =>
Lt (M19 0 75) fun v20 =>
Lt (fun (v21 : Int) (M22 : Mm) => 
Lt (up M22 0 75 v21) fun M24 =>
gd (0 ≤ v9 ∧ v9 < 720) <|
Lt (M24 52 v9.toNat) fun v25 =>
some (v25, M24)) fun J120_23 =>
Lt (fun (M26 : Mm) => 
J120_23 1 M26) fun J115_27 =>
if ¬ v20 = 0 then (
J115_27 M19) else (
gd (0 ≤ v9 ∧ v9 < 720) <|
Lt (M19 54 v9.toNat) fun v29 =>
if v29 = 0 then (
J120_23 0 M19) else (
J115_27 M19)))) else (
Lt (up M4 0 75 1) fun M31 =>
gd (0 ≤ a1 ∧ a1 < 30) <|
Lt (M31 36 a1.toNat) fun v32 =>
Lt (wr (6 * v32)) fun v33 =>
Lt (wr (v33 + a2)) fun v34 =>
gd (0 ≤ v34 ∧ v34 < 360) <|
Lt (M31 55 v34.toNat) fun v35 =>
some (v35, M31))) fun J35_5 =>
if v3 = 0 then (
J35_5 M) else (
Lt (M 0 69) fun v37 =>
if ¬ v37 = 1 then (
J35_5 M) else (
Lt (wr (10 * a1)) fun v39 =>
Lt (wr (v39 + a2)) fun v40 =>
Cl (f_X12_records v40 M) fun _ M41 =>
J35_5 M41))) else (
some ((-1), M))
theorem cy_X12_looksAt : yX12_looksAt.cls ≠ "java/lang/invoke/MethodHandle" ∧ yX12_looksAt.cls ≠ "java/lang/invoke/VarHandle" ∧ (parseMethodDescriptor yX12_looksAt.desc).map (fun d => d.parameters.length) = some 2 := ⟨by decide +kernel, by decide +kernel, by decide +kernel⟩
set_option maxRecDepth 20000 in
theorem ok_X12_looksAt (l : Launch) (D : Dd) (base : Nat) (M : Mm) (a1 : Int) (ha1 : i32 a1) (a2 : Int) (ha2 : i32 a2) : OkI l D TR 67 base yX12_looksAt cX12_looksAt 4 (some .int) 1 23 [.ref (base + 0), .int (Ii a1), .int (Ii a2)] M i32 (f_X12_looksAt a1 a2 M) := by
  refine metI (by decide +kernel) [(0, .ref (base + 0)), (1, .int (Ii a1)), (2, .int (Ii a2))] rfl (Nat.le_of_ble_eq_true rfl) (fun p e s m args below meth c X hrt hlk => ?_)
  have X : Cx p s m args c cX12_looksAt D 4 RX12 := X
  unfold f_X12_looksAt
  refine go_aload_n X dX12_looksAt_0 rfl 0 rfl ?_
  refine go_geti (i := 72) X fc12 dX12_looksAt_1 trn0 tr0 (Nat.le_of_ble_eq_true rfl) rfl lw1105 rfl (fun v1 hv1 => ?_)
  refine go_iconst (v := (-1)) X dX12_looksAt_4 rfl ?_
  refine go_icmp_eq (tgt := 10) X dX12_looksAt_5 rfl hv1 kI_m1 (fun c2 => ?_) (fun c2 => ?_)
  · refine go_aload_n X dX12_looksAt_10 rfl 0 rfl ?_
    refine go_getz (i := 79) X fc12 dX12_looksAt_11 trn0 tr0 (Nat.le_of_ble_eq_true rfl) rfl lw1106 rfl (fun v3 hv3 => ?_)
    refine go_lt (fun J => ∀ (M4 : Mm), Go p l e (rmO 1 23) s m args below meth c D TR 67 base 4 0 0 (FinI D TR 67 base below args s i32) M4 35 [(0, .ref (base + 0)), (1, .int (Ii a1)), (2, .int (Ii a2))] [] (J M4)) (by
        intro M4
        refine go_aload_n X dX12_looksAt_35 rfl 0 rfl ?_
        refine go_getc (i := 13) X fc12 dX12_looksAt_36 trn0 tr0 (Nat.le_of_ble_eq_true rfl) rfl lw877 rfl ?_
        refine go_iload_n X dX12_looksAt_39 rfl 2 rfl ?_
        refine go_iaload X dX12_looksAt_40 trn12 tr12 ha2 (fun v6 hv6 => ?_)
        refine go_iconst (v := 3) X dX12_looksAt_41 rfl ?_
        refine go_icmp_ne (tgt := 67) X dX12_looksAt_42 rfl hv6 kI_3 (fun c7 => ?_) (fun c7 => ?_)
        · refine go_aload_n X dX12_looksAt_67 rfl 0 rfl ?_
          refine go_iload_n X dX12_looksAt_68 rfl 1 rfl ?_
          refine go_iload_n X dX12_looksAt_69 rfl 2 rfl ?_
          refine goI (fun H locs ls r ho hW hL => runV X (ok_X12_at l D base M4 a1 ha1 a2 ha2 H.size r ho) dX12_looksAt_70 lw1114 lw1115 lw1116 lw944 ⟨lw1101, cy_X12_at, Nat.le_of_ble_eq_true rfl, Nat.le_of_ble_eq_true rfl⟩ rfl trn0 tr0 rfl rfl rfl rfl (Nat.le_of_ble_eq_true rfl) hW hL hk0) (fun v9 M8 hv9 => ?_)
          refine go_istore_n (i := 3) (L' := [(3, .int (Ii v9)), (0, .ref (base + 0)), (1, .int (Ii a1)), (2, .int (Ii a2))]) X dX12_looksAt_73 rfl (by decide) rfl ?_
          refine go_aload_n X dX12_looksAt_74 rfl 1 rfl ?_
          refine go_getc (i := 60) X fc12 dX12_looksAt_75 trn0 tr0 (Nat.le_of_ble_eq_true rfl) rfl lw916 rfl ?_
          refine go_iload_n X dX12_looksAt_78 rfl 0 rfl ?_
          refine go_zaload X dX12_looksAt_79 trn50 tr50 hv9 (fun v10 hv10 => ?_)
          refine go_if_eq (tgt := 130) X dX12_looksAt_80 rfl (bo_i32 hv10) (fun c11 => ?_) (fun c11 => ?_)
          · refine go_aload_n X dX12_looksAt_130 rfl 1 rfl ?_
            refine go_getc (i := 61) X fc12 dX12_looksAt_131 trn0 tr0 (Nat.le_of_ble_eq_true rfl) rfl lw917 rfl ?_
            refine go_iload_n X dX12_looksAt_134 rfl 0 rfl ?_
            refine go_zaload X dX12_looksAt_135 trn51 tr51 hv9 (fun v12 hv12 => ?_)
            refine go_if_eq (tgt := 142) X dX12_looksAt_136 rfl (bo_i32 hv12) (fun c13 => ?_) (fun c13 => ?_)
            · refine go_aload_n X dX12_looksAt_142 rfl 1 rfl ?_
              refine go_iload_n X dX12_looksAt_143 rfl 2 rfl ?_
              refine go_puti (i := 72) X fc12 dX12_looksAt_144 trn0 tr0 (Nat.le_of_ble_eq_true rfl) rfl lw1105 rfl rfl rfl ha1 (fun M14 => ?_)
              refine go_aload_n X dX12_looksAt_147 rfl 1 rfl ?_
              refine go_iload_n X dX12_looksAt_148 rfl 3 rfl ?_
              refine go_puti (i := 73) X fc12 dX12_looksAt_149 trn0 tr0 (Nat.le_of_ble_eq_true rfl) rfl lw1110 rfl rfl rfl ha2 (fun M15 => ?_)
              refine go_iconst (v := (-1)) X dX12_looksAt_152 rfl ?_
              exact go_ireturn X hrt hlk dX12_looksAt_153 kI_m1
            · refine go_bipush (v := (-2)) X dX12_looksAt_139 (by decide) ?_
              exact go_ireturn X hrt hlk dX12_looksAt_141 kI_m2
          · refine go_aload_n X dX12_looksAt_83 rfl 1 rfl ?_
            refine go_dup X dX12_looksAt_84 rfl ?_
            refine go_getl (i := 74) X fc12 dX12_looksAt_85 trn0 tr0 (Nat.le_of_ble_eq_true rfl) rfl lw1109 rfl (fun v16 hv16 => ?_)
            refine go_aload_n X dX12_looksAt_88 rfl 1 rfl ?_
            refine go_getc (i := 63) X fc12 dX12_looksAt_89 trn0 tr0 (Nat.le_of_ble_eq_true rfl) rfl lw920 rfl ?_
            refine go_iload_n X dX12_looksAt_92 rfl 0 rfl ?_
            refine go_laload X dX12_looksAt_93 trn53 tr53 hv9 (fun v17 hv17 => ?_)
            refine go_lor X dX12_looksAt_94 hv16 hv17 (fun v18 hv18 => ?_)
            refine go_putl (i := 74) X fc12 dX12_looksAt_95 trn0 tr0 (Nat.le_of_ble_eq_true rfl) rfl lw1109 rfl rfl rfl hv18 (fun M19 => ?_)
            refine go_aload_n X dX12_looksAt_98 rfl 1 rfl ?_
            refine go_aload_n X dX12_looksAt_99 rfl 1 rfl ?_
            refine go_getz (i := 75) X fc12 dX12_looksAt_100 trn0 tr0 (Nat.le_of_ble_eq_true rfl) rfl lw1108 rfl (fun v20 hv20 => ?_)
            refine go_lt (fun J => ∀ (v21 : Int) (M22 : Mm), bo v21 → Go p l e (rmO 1 23) s m args below meth c D TR 67 base 4 0 0 (FinI D TR 67 base below args s i32) M22 120 [(0, .ref (base + 0)), (3, .int (Ii v9))] [.int (Ii v21), .ref (base + 0)] (J v21 M22)) (by
                intro v21 M22 hv21
                refine go_putz (i := 75) X fc12 dX12_looksAt_120 trn0 tr0 (Nat.le_of_ble_eq_true rfl) rfl lw1108 rfl rfl rfl hv21 (fun M24 => ?_)
                refine go_aload_n X dX12_looksAt_123 rfl 0 rfl ?_
                refine go_getc (i := 62) X fc12 dX12_looksAt_124 trn0 tr0 (Nat.le_of_ble_eq_true rfl) rfl lw918 rfl ?_
                refine go_iload_n X dX12_looksAt_127 rfl 1 rfl ?_
                refine go_iaload X dX12_looksAt_128 trn52 tr52 hv9 (fun v25 hv25 => ?_)
                exact go_ireturn X hrt hlk dX12_looksAt_129 hv25
                )
                (fun J120_23 hJ120_23 => ?_)
            refine go_lt (fun J => ∀ (M26 : Mm), Go p l e (rmO 1 23) s m args below meth c D TR 67 base 4 0 0 (FinI D TR 67 base below args s i32) M26 115 [(0, .ref (base + 0)), (3, .int (Ii v9))] [.ref (base + 0)] (J M26)) (by
                intro M26
                refine go_iconst (v := 1) X dX12_looksAt_115 rfl ?_
                refine go_goto (tgt := 120) X dX12_looksAt_116 rfl ?_
                exact hJ120_23 1 M26 (Or.inr rfl)
                )
                (fun J115_27 hJ115_27 => ?_)
            refine go_if_ne (tgt := 115) X dX12_looksAt_103 rfl (bo_i32 hv20) (fun c28 => ?_) (fun c28 => ?_)
            · refine go_sub [1, 0] rfl ?_
              exact hJ115_27 M19
            · refine go_aload_n X dX12_looksAt_106 rfl 1 rfl ?_
              refine go_getc (i := 64) X fc12 dX12_looksAt_107 trn0 tr0 (Nat.le_of_ble_eq_true rfl) rfl lw921 rfl ?_
              refine go_iload_n X dX12_looksAt_110 rfl 0 rfl ?_
              refine go_zaload X dX12_looksAt_111 trn54 tr54 hv9 (fun v29 hv29 => ?_)
              refine go_if_eq (tgt := 119) X dX12_looksAt_112 rfl (bo_i32 hv29) (fun c30 => ?_) (fun c30 => ?_)
              · refine go_iconst (v := 0) X dX12_looksAt_119 rfl ?_
                refine go_sub [1, 0] rfl ?_
                exact hJ120_23 0 M19 (Or.inl rfl)
              · refine go_sub [1, 0] rfl ?_
                exact hJ115_27 M19
        · refine go_aload_n X dX12_looksAt_45 rfl 0 rfl ?_
          refine go_iconst (v := 1) X dX12_looksAt_46 rfl ?_
          refine go_putz (i := 75) X fc12 dX12_looksAt_47 trn0 tr0 (Nat.le_of_ble_eq_true rfl) rfl lw1108 rfl rfl rfl (Or.inr rfl) (fun M31 => ?_)
          refine go_aload_n X dX12_looksAt_50 rfl 0 rfl ?_
          refine go_getc (i := 65) X fc12 dX12_looksAt_51 trn0 tr0 (Nat.le_of_ble_eq_true rfl) rfl lw922 rfl ?_
          refine go_bipush (v := 6) X dX12_looksAt_54 (by decide) ?_
          refine go_aload_n X dX12_looksAt_56 rfl 0 rfl ?_
          refine go_getc (i := 43) X fc12 dX12_looksAt_57 trn0 tr0 (Nat.le_of_ble_eq_true rfl) rfl lw902 rfl ?_
          refine go_iload_n X dX12_looksAt_60 rfl 1 rfl ?_
          refine go_iaload X dX12_looksAt_61 trn36 tr36 ha1 (fun v32 hv32 => ?_)
          refine go_imul X dX12_looksAt_62 kI_6 hv32 (fun v33 hv33 => ?_)
          refine go_iload_n X dX12_looksAt_63 rfl 2 rfl ?_
          refine go_iadd X dX12_looksAt_64 hv33 ha2 (fun v34 hv34 => ?_)
          refine go_iaload X dX12_looksAt_65 trn55 tr55 hv34 (fun v35 hv35 => ?_)
          exact go_ireturn X hrt hlk dX12_looksAt_66 hv35
        )
        (fun J35_5 hJ35_5 => ?_)
    refine go_if_eq (tgt := 35) X dX12_looksAt_14 rfl (bo_i32 hv3) (fun c36 => ?_) (fun c36 => ?_)
    · exact hJ35_5 M
    · refine go_aload_n X dX12_looksAt_17 rfl 0 rfl ?_
      refine go_geti (i := 69) X fc12 dX12_looksAt_18 trn0 tr0 (Nat.le_of_ble_eq_true rfl) rfl lw1107 rfl (fun v37 hv37 => ?_)
      refine go_iconst (v := 1) X dX12_looksAt_21 rfl ?_
      refine go_icmp_ne (tgt := 35) X dX12_looksAt_22 rfl hv37 kI_1 (fun c38 => ?_) (fun c38 => ?_)
      · exact hJ35_5 M
      · refine go_aload_n X dX12_looksAt_25 rfl 0 rfl ?_
        refine go_bipush (v := 10) X dX12_looksAt_26 (by decide) ?_
        refine go_iload_n X dX12_looksAt_28 rfl 1 rfl ?_
        refine go_imul X dX12_looksAt_29 kI_10 ha1 (fun v39 hv39 => ?_)
        refine go_iload_n X dX12_looksAt_30 rfl 2 rfl ?_
        refine go_iadd X dX12_looksAt_31 hv39 ha2 (fun v40 hv40 => ?_)
        refine goV (fun H locs ls r ho hW hL => runV X (ok_X12_records l D base M v40 hv40 H.size r ho) dX12_looksAt_32 lw1111 lw1112 lw1113 lw944 ⟨lw1103, cy_X12_records, Nat.le_of_ble_eq_true rfl, Nat.le_of_ble_eq_true rfl⟩ rfl trn0 tr0 rfl rfl rfl rfl (Nat.le_of_ble_eq_true rfl) hW hL hk0) (fun _ M41 => ?_)
        exact hJ35_5 M41
  · refine go_iconst (v := (-1)) X dX12_looksAt_8 rfl ?_
    exact go_ireturn X hrt hlk dX12_looksAt_9 kI_m1
def f_X12_childFor (a1 : Int) (a2 : Int) (M : Mm) : Rs :=
Lt (fun (v1 : Int) (M2 : Mm) => 
Lt (fun (v4 : Int) (M5 : Mm) => 
some (v4, M5)) fun J50_6 =>
Lt (fun (M7 : Mm) => 
J50_6 ((-1)) M7) fun J36_8 =>
if v1 = ((-1)) then (
J36_8 M2) else (
gd (0 ≤ a1 ∧ a1 < 30) <|
Lt (M2 31 a1.toNat) fun v10 =>
gd (0 ≤ v10 ∧ v10 < 10) <|
Lt (M2 4 v10.toNat) fun v11 =>
if v1 < v11 then (
Lt (wr (3 * a1)) fun v13 =>
Lt (wr (v13 + v1)) fun v14 =>
gd (0 ≤ v14 ∧ v14 < 90) <|
Lt (M2 34 v14.toNat) fun v15 =>
J50_6 v15 M2) else (
J36_8 M2))) fun J15_3 =>
if 3 ≤ a2 then (
J15_3 ((-1)) M) else (
gd (0 ≤ a2 ∧ a2 < 3) <|
Lt (M 59 a2.toNat) fun v17 =>
J15_3 v17 M)
theorem cy_X12_childFor : yX12_childFor.cls ≠ "java/lang/invoke/MethodHandle" ∧ yX12_childFor.cls ≠ "java/lang/invoke/VarHandle" ∧ (parseMethodDescriptor yX12_childFor.desc).map (fun d => d.parameters.length) = some 2 := ⟨by decide +kernel, by decide +kernel, by decide +kernel⟩
set_option maxRecDepth 20000 in
theorem ok_X12_childFor (l : Launch) (D : Dd) (base : Nat) (M : Mm) (a1 : Int) (ha1 : i32 a1) (a2 : Int) (ha2 : i32 a2) : OkI l D TR 67 base yX12_childFor cX12_childFor 4 (some .int) 0 0 [.ref (base + 0), .int (Ii a1), .int (Ii a2)] M i32 (f_X12_childFor a1 a2 M) := by
  refine metI (by decide +kernel) [(0, .ref (base + 0)), (1, .int (Ii a1)), (2, .int (Ii a2))] rfl (Nat.le_of_ble_eq_true rfl) (fun p e s m args below meth c X hrt hlk => ?_)
  have X : Cx p s m args c cX12_childFor D 4 RX12 := X
  unfold f_X12_childFor
  refine go_iload_n X dX12_childFor_0 rfl 2 rfl ?_
  refine go_iconst (v := 3) X dX12_childFor_1 rfl ?_
  refine go_lt (fun J => ∀ (v1 : Int) (M2 : Mm), i32 v1 → Go p l e (rmO 0 0) s m args below meth c D TR 67 base 4 0 0 (FinI D TR 67 base below args s i32) M2 15 [(0, .ref (base + 0)), (1, .int (Ii a1))] [.int (Ii v1)] (J v1 M2)) (by
      intro v1 M2 hv1
      refine go_istore_n (i := 3) (L' := [(3, .int (Ii v1)), (0, .ref (base + 0)), (1, .int (Ii a1))]) X dX12_childFor_15 rfl (by decide) rfl ?_
      refine go_iload_n X dX12_childFor_16 rfl 0 rfl ?_
      refine go_iconst (v := (-1)) X dX12_childFor_17 rfl ?_
      refine go_lt (fun J => ∀ (v4 : Int) (M5 : Mm), i32 v4 → Go p l e (rmO 0 0) s m args below meth c D TR 67 base 4 0 0 (FinI D TR 67 base below args s i32) M5 50 [] [.int (Ii v4)] (J v4 M5)) (by
          intro v4 M5 hv4
          exact go_ireturn X hrt hlk dX12_childFor_50 hv4
          )
          (fun J50_6 hJ50_6 => ?_)
      refine go_lt (fun J => ∀ (M7 : Mm), Go p l e (rmO 0 0) s m args below meth c D TR 67 base 4 0 0 (FinI D TR 67 base below args s i32) M7 36 [] [] (J M7)) (by
          intro M7
          refine go_iconst (v := (-1)) X dX12_childFor_36 rfl ?_
          refine go_goto (tgt := 50) X dX12_childFor_37 rfl ?_
          exact hJ50_6 ((-1)) M7 kI_m1
          )
          (fun J36_8 hJ36_8 => ?_)
      refine go_icmp_eq (tgt := 36) X dX12_childFor_18 rfl hv1 kI_m1 (fun c9 => ?_) (fun c9 => ?_)
      · refine go_sub [] rfl ?_
        exact hJ36_8 M2
      · refine go_iload_n X dX12_childFor_21 rfl 0 rfl ?_
        refine go_aload_n X dX12_childFor_22 rfl 1 rfl ?_
        refine go_getc (i := 4) X fc12 dX12_childFor_23 trn0 tr0 (Nat.le_of_ble_eq_true rfl) rfl lw869 rfl ?_
        refine go_aload_n X dX12_childFor_26 rfl 1 rfl ?_
        refine go_getc (i := 38) X fc12 dX12_childFor_27 trn0 tr0 (Nat.le_of_ble_eq_true rfl) rfl lw897 rfl ?_
        refine go_iload_n X dX12_childFor_30 rfl 2 rfl ?_
        refine go_iaload X dX12_childFor_31 trn31 tr31 ha1 (fun v10 hv10 => ?_)
        refine go_iaload X dX12_childFor_32 trn4 tr4 hv10 (fun v11 hv11 => ?_)
        refine go_icmp_lt (tgt := 40) X dX12_childFor_33 rfl hv1 hv11 (fun c12 => ?_) (fun c12 => ?_)
        · refine go_aload_n X dX12_childFor_40 rfl 1 rfl ?_
          refine go_getc (i := 41) X fc12 dX12_childFor_41 trn0 tr0 (Nat.le_of_ble_eq_true rfl) rfl lw900 rfl ?_
          refine go_iconst (v := 3) X dX12_childFor_44 rfl ?_
          refine go_iload_n X dX12_childFor_45 rfl 2 rfl ?_
          refine go_imul X dX12_childFor_46 kI_3 ha1 (fun v13 hv13 => ?_)
          refine go_iload_n X dX12_childFor_47 rfl 0 rfl ?_
          refine go_iadd X dX12_childFor_48 hv13 hv1 (fun v14 hv14 => ?_)
          refine go_iaload X dX12_childFor_49 trn34 tr34 hv14 (fun v15 hv15 => ?_)
          refine go_sub [] rfl ?_
          exact hJ50_6 v15 M2 hv15
        · refine go_sub [] rfl ?_
          exact hJ36_8 M2
      )
      (fun J15_3 hJ15_3 => ?_)
  refine go_icmp_ge (tgt := 14) X dX12_childFor_2 rfl ha2 kI_3 (fun c16 => ?_) (fun c16 => ?_)
  · refine go_iconst (v := (-1)) X dX12_childFor_14 rfl ?_
    refine go_sub [0, 1] rfl ?_
    exact hJ15_3 ((-1)) M kI_m1
  · refine go_aload_n X dX12_childFor_5 rfl 0 rfl ?_
    refine go_getc (i := 77) X fc12 dX12_childFor_6 trn0 tr0 (Nat.le_of_ble_eq_true rfl) rfl lw926 rfl ?_
    refine go_iload_n X dX12_childFor_9 rfl 2 rfl ?_
    refine go_iaload X dX12_childFor_10 trn59 tr59 ha2 (fun v17 hv17 => ?_)
    refine go_goto (tgt := 15) X dX12_childFor_11 rfl ?_
    refine go_sub [0, 1] rfl ?_
    exact hJ15_3 v17 M hv17
def f_X12_plain (a1 : Int) (a2 : Int) (a3 : Int) (M : Mm) : Rs :=
gd (0 ≤ a1 ∧ a1 < 240) <|
Lt (M 22 a1.toNat) fun v1 =>
gd (0 ≤ a1 ∧ a1 < 240) <|
Lt (M 23 a1.toNat) fun v2 =>
Lt (M 0 76) fun v3 =>
Lt (fun (v4 : Int) (M5 : Mm) => 
gd (0 ≤ a3 ∧ a3 < 10) <|
Lt (M5 4 a3.toNat) fun v7 =>
Lt (fun (v8 : Int) (M9 : Mm) => 
gd (0 ≤ a1 ∧ a1 < 240) <|
Lt (M9 21 a1.toNat) fun v11 =>
if v11 = 0 then (
some (v1, M9)) else (
if v11 = 1 then (
Cl (f_X12_looksAt a2 v1 M9) fun v14 M13 =>
some (v14, M13)) else (
if v11 = 2 then (
Lt (fun (v16 : Int) (M17 : Mm) => 
some (v16, M17)) fun J149_18 =>
if ¬ v8 = ((-1)) then (
Cl (f_X12_looksAt v8 v1 M9) fun v21 M20 =>
J149_18 v21 M20) else (
J149_18 ((-1)) M9)) else (
if v11 = 3 then (
Lt (fun (v23 : Int) (M24 : Mm) => 
some (v23, M24)) fun J178_25 =>
if ¬ v4 = ((-1)) then (
gd (0 ≤ a2 ∧ a2 < 30) <|
Lt (M9 30 a2.toNat) fun v27 =>
Lt (wr (3 * v27)) fun v28 =>
Lt (wr (v28 + v4)) fun v29 =>
gd (0 ≤ v29 ∧ v29 < 30) <|
Lt (M9 7 v29.toNat) fun v30 =>
Lt (wr (v30 - 3)) fun v31 =>
J178_25 v31 M9) else (
J178_25 ((-1)) M9)) else (
if v11 = 4 then (
Lt (fun (v33 : Int) (M34 : Mm) => 
some (v33, M34)) fun J200_35 =>
if ¬ v4 = ((-1)) then (
gd (0 ≤ a2 ∧ a2 < 30) <|
Lt (M9 35 a2.toNat) fun v37 =>
Lt (jshr v37 v4) fun v38 =>
Lt (jand v38 1) fun v39 =>
J200_35 v39 M9) else (
J200_35 ((-1)) M9)) else (
if v11 = 5 then (
gd (0 ≤ a2 ∧ a2 < 30) <|
Lt (M9 36 a2.toNat) fun v41 =>
Lt (wr (1000 + v41)) fun v42 =>
some (v42, M9)) else (
if v11 = 6 then (
Lt (fun (v44 : Int) (M45 : Mm) => 
some (v44, M45)) fun J233_46 =>
if ¬ v8 = ((-1)) then (
gd (0 ≤ v8 ∧ v8 < 30) <|
Lt (M9 36 v8.toNat) fun v48 =>
Lt (wr (1000 + v48)) fun v49 =>
J233_46 v49 M9) else (
J233_46 ((-1)) M9)) else (
gd (0 ≤ a2 ∧ a2 < 30) <|
Lt (M9 31 a2.toNat) fun v51 =>
some (v51, M9))))))))) fun J69_10 =>
if v7 ≤ v2 then (
J69_10 ((-1)) M5) else (
Cl (f_X12_childFor a2 v2 M5) fun v54 M53 =>
J69_10 v54 M53)) fun J45_6 =>
Lt (fun (M55 : Mm) => 
J45_6 ((-1)) M55) fun J44_56 =>
if ¬ v3 = 0 then (
J44_56 M) else (
gd (0 ≤ a2 ∧ a2 < 30) <|
Lt (M 30 a2.toNat) fun v58 =>
gd (0 ≤ v58 ∧ v58 < 10) <|
Lt (M 6 v58.toNat) fun v59 =>
if v59 ≤ v1 then (
J44_56 M) else (
J45_6 v1 M))
theorem cy_X12_plain : yX12_plain.cls ≠ "java/lang/invoke/MethodHandle" ∧ yX12_plain.cls ≠ "java/lang/invoke/VarHandle" ∧ (parseMethodDescriptor yX12_plain.desc).map (fun d => d.parameters.length) = some 3 := ⟨by decide +kernel, by decide +kernel, by decide +kernel⟩
set_option maxRecDepth 20000 in
theorem ok_X12_plain (l : Launch) (D : Dd) (base : Nat) (M : Mm) (a1 : Int) (ha1 : i32 a1) (a2 : Int) (ha2 : i32 a2) (a3 : Int) (ha3 : i32 a3) : OkI l D TR 67 base yX12_plain cX12_plain 8 (some .int) 2 46 [.ref (base + 0), .int (Ii a1), .int (Ii a2), .int (Ii a3)] M i32 (f_X12_plain a1 a2 a3 M) := by
  refine metI (by decide +kernel) [(0, .ref (base + 0)), (1, .int (Ii a1)), (2, .int (Ii a2)), (3, .int (Ii a3))] rfl (Nat.le_of_ble_eq_true rfl) (fun p e s m args below meth c X hrt hlk => ?_)
  have X : Cx p s m args c cX12_plain D 8 RX12 := X
  unfold f_X12_plain
  refine go_aload_n X dX12_plain_0 rfl 0 rfl ?_
  refine go_getc (i := 26) X fc12 dX12_plain_1 trn0 tr0 (Nat.le_of_ble_eq_true rfl) rfl lw887 rfl ?_
  refine go_iload_n X dX12_plain_4 rfl 1 rfl ?_
  refine go_iaload X dX12_plain_5 trn22 tr22 ha1 (fun v1 hv1 => ?_)
  refine go_istore (i := 4) (L' := [(4, .int (Ii v1)), (0, .ref (base + 0)), (1, .int (Ii a1)), (2, .int (Ii a2)), (3, .int (Ii a3))]) X dX12_plain_6 (by decide) rfl ?_
  refine go_aload_n X dX12_plain_8 rfl 1 rfl ?_
  refine go_getc (i := 27) X fc12 dX12_plain_9 trn0 tr0 (Nat.le_of_ble_eq_true rfl) rfl lw888 rfl ?_
  refine go_iload_n X dX12_plain_12 rfl 2 rfl ?_
  refine go_iaload X dX12_plain_13 trn23 tr23 ha1 (fun v2 hv2 => ?_)
  refine go_istore (i := 5) (L' := [(5, .int (Ii v2)), (4, .int (Ii v1)), (0, .ref (base + 0)), (1, .int (Ii a1)), (2, .int (Ii a2)), (3, .int (Ii a3))]) X dX12_plain_14 (by decide) rfl ?_
  refine go_aload_n X dX12_plain_16 rfl 2 rfl ?_
  refine go_getz (i := 76) X fc12 dX12_plain_17 trn0 tr0 (Nat.le_of_ble_eq_true rfl) rfl lw1004 rfl (fun v3 hv3 => ?_)
  refine go_lt (fun J => ∀ (v4 : Int) (M5 : Mm), i32 v4 → Go p l e (rmO 2 46) s m args below meth c D TR 67 base 8 0 0 (FinI D TR 67 base below args s i32) M5 45 [(0, .ref (base + 0)), (1, .int (Ii a1)), (2, .int (Ii a2)), (3, .int (Ii a3)), (4, .int (Ii v1)), (5, .int (Ii v2))] [.int (Ii v4)] (J v4 M5)) (by
      intro v4 M5 hv4
      refine go_istore (i := 6) (L' := [(6, .int (Ii v4)), (0, .ref (base + 0)), (1, .int (Ii a1)), (2, .int (Ii a2)), (3, .int (Ii a3)), (4, .int (Ii v1)), (5, .int (Ii v2))]) X dX12_plain_45 (by decide) rfl ?_
      refine go_iload X dX12_plain_47 6 rfl ?_
      refine go_aload_n X dX12_plain_49 rfl 1 rfl ?_
      refine go_getc (i := 4) X fc12 dX12_plain_50 trn0 tr0 (Nat.le_of_ble_eq_true rfl) rfl lw869 rfl ?_
      refine go_iload_n X dX12_plain_53 rfl 4 rfl ?_
      refine go_iaload X dX12_plain_54 trn4 tr4 ha3 (fun v7 hv7 => ?_)
      refine go_lt (fun J => ∀ (v8 : Int) (M9 : Mm), i32 v8 → Go p l e (rmO 2 46) s m args below meth c D TR 67 base 8 0 0 (FinI D TR 67 base below args s i32) M9 69 [(0, .ref (base + 0)), (1, .int (Ii a1)), (2, .int (Ii a2)), (4, .int (Ii v1)), (6, .int (Ii v4))] [.int (Ii v8)] (J v8 M9)) (by
          intro v8 M9 hv8
          refine go_istore (i := 7) (L' := [(7, .int (Ii v8)), (0, .ref (base + 0)), (1, .int (Ii a1)), (2, .int (Ii a2)), (4, .int (Ii v1)), (6, .int (Ii v4))]) X dX12_plain_69 (by decide) rfl ?_
          refine go_aload_n X dX12_plain_71 rfl 1 rfl ?_
          refine go_getc (i := 25) X fc12 dX12_plain_72 trn0 tr0 (Nat.le_of_ble_eq_true rfl) rfl lw886 rfl ?_
          refine go_iload_n X dX12_plain_75 rfl 2 rfl ?_
          refine go_iaload X dX12_plain_76 trn21 tr21 ha1 (fun v11 hv11 => ?_)
          refine go_sw (fun c12 => ?_) (fun c12 => ?_)
          · refine go_tabIn (tgt := 120) X dX12_plain_77 hv11 0 c12 (by decide) (by decide) rfl rfl ?_
            refine go_iload X dX12_plain_120 4 rfl ?_
            exact go_ireturn X hrt hlk dX12_plain_122 hv1
          refine go_sw (fun c15 => ?_) (fun c15 => ?_)
          · refine go_tabIn (tgt := 123) X dX12_plain_77 hv11 1 c15 (by decide) (by decide) rfl rfl ?_
            refine go_aload_n X dX12_plain_123 rfl 1 rfl ?_
            refine go_iload_n X dX12_plain_124 rfl 3 rfl ?_
            refine go_iload X dX12_plain_125 4 rfl ?_
            refine goI (fun H locs ls r ho hW hL => runV X (ok_X12_looksAt l D base M9 a2 ha2 v1 hv1 H.size r ho) dX12_plain_127 lw1122 lw1123 lw1124 lw944 ⟨lw1117, cy_X12_looksAt, Nat.le_of_ble_eq_true rfl, Nat.le_of_ble_eq_true rfl⟩ rfl trn0 tr0 rfl rfl rfl rfl (Nat.le_of_ble_eq_true rfl) hW hL hk0) (fun v14 M13 hv14 => ?_)
            exact go_ireturn X hrt hlk dX12_plain_130 hv14
          refine go_sw (fun c22 => ?_) (fun c22 => ?_)
          · refine go_tabIn (tgt := 131) X dX12_plain_77 hv11 2 c22 (by decide) (by decide) rfl rfl ?_
            refine go_iload X dX12_plain_131 0 rfl ?_
            refine go_iconst (v := (-1)) X dX12_plain_133 rfl ?_
            refine go_lt (fun J => ∀ (v16 : Int) (M17 : Mm), i32 v16 → Go p l e (rmO 2 46) s m args below meth c D TR 67 base 8 0 0 (FinI D TR 67 base below args s i32) M17 149 [] [.int (Ii v16)] (J v16 M17)) (by
                intro v16 M17 hv16
                exact go_ireturn X hrt hlk dX12_plain_149 hv16
                )
                (fun J149_18 hJ149_18 => ?_)
            refine go_icmp_ne (tgt := 141) X dX12_plain_134 rfl hv8 kI_m1 (fun c19 => ?_) (fun c19 => ?_)
            · refine go_aload_n X dX12_plain_141 rfl 1 rfl ?_
              refine go_iload X dX12_plain_142 0 rfl ?_
              refine go_iload X dX12_plain_144 4 rfl ?_
              refine goI (fun H locs ls r ho hW hL => runV X (ok_X12_looksAt l D base M9 v8 hv8 v1 hv1 H.size r ho) dX12_plain_146 lw1122 lw1123 lw1124 lw944 ⟨lw1117, cy_X12_looksAt, Nat.le_of_ble_eq_true rfl, Nat.le_of_ble_eq_true rfl⟩ rfl trn0 tr0 rfl rfl rfl rfl (Nat.le_of_ble_eq_true rfl) hW hL hk0) (fun v21 M20 hv21 => ?_)
              refine go_sub [] rfl ?_
              exact hJ149_18 v21 M20 hv21
            · refine go_iconst (v := (-1)) X dX12_plain_137 rfl ?_
              refine go_goto (tgt := 149) X dX12_plain_138 rfl ?_
              refine go_sub [] rfl ?_
              exact hJ149_18 ((-1)) M9 kI_m1
          refine go_sw (fun c32 => ?_) (fun c32 => ?_)
          · refine go_tabIn (tgt := 150) X dX12_plain_77 hv11 3 c32 (by decide) (by decide) rfl rfl ?_
            refine go_iload X dX12_plain_150 5 rfl ?_
            refine go_iconst (v := (-1)) X dX12_plain_152 rfl ?_
            refine go_lt (fun J => ∀ (v23 : Int) (M24 : Mm), i32 v23 → Go p l e (rmO 2 46) s m args below meth c D TR 67 base 8 0 0 (FinI D TR 67 base below args s i32) M24 178 [] [.int (Ii v23)] (J v23 M24)) (by
                intro v23 M24 hv23
                exact go_ireturn X hrt hlk dX12_plain_178 hv23
                )
                (fun J178_25 hJ178_25 => ?_)
            refine go_icmp_ne (tgt := 160) X dX12_plain_153 rfl hv4 kI_m1 (fun c26 => ?_) (fun c26 => ?_)
            · refine go_aload_n X dX12_plain_160 rfl 1 rfl ?_
              refine go_getc (i := 7) X fc12 dX12_plain_161 trn0 tr0 (Nat.le_of_ble_eq_true rfl) rfl lw872 rfl ?_
              refine go_iconst (v := 3) X dX12_plain_164 rfl ?_
              refine go_aload_n X dX12_plain_165 rfl 1 rfl ?_
              refine go_getc (i := 37) X fc12 dX12_plain_166 trn0 tr0 (Nat.le_of_ble_eq_true rfl) rfl lw896 rfl ?_
              refine go_iload_n X dX12_plain_169 rfl 3 rfl ?_
              refine go_iaload X dX12_plain_170 trn30 tr30 ha2 (fun v27 hv27 => ?_)
              refine go_imul X dX12_plain_171 kI_3 hv27 (fun v28 hv28 => ?_)
              refine go_iload X dX12_plain_172 5 rfl ?_
              refine go_iadd X dX12_plain_174 hv28 hv4 (fun v29 hv29 => ?_)
              refine go_iaload X dX12_plain_175 trn7 tr7 hv29 (fun v30 hv30 => ?_)
              refine go_iconst (v := 3) X dX12_plain_176 rfl ?_
              refine go_isub X dX12_plain_177 hv30 kI_3 (fun v31 hv31 => ?_)
              refine go_sub [] rfl ?_
              exact hJ178_25 v31 M9 hv31
            · refine go_iconst (v := (-1)) X dX12_plain_156 rfl ?_
              refine go_goto (tgt := 178) X dX12_plain_157 rfl ?_
              refine go_sub [] rfl ?_
              exact hJ178_25 ((-1)) M9 kI_m1
          refine go_sw (fun c40 => ?_) (fun c40 => ?_)
          · refine go_tabIn (tgt := 179) X dX12_plain_77 hv11 4 c40 (by decide) (by decide) rfl rfl ?_
            refine go_iload X dX12_plain_179 5 rfl ?_
            refine go_iconst (v := (-1)) X dX12_plain_181 rfl ?_
            refine go_lt (fun J => ∀ (v33 : Int) (M34 : Mm), i32 v33 → Go p l e (rmO 2 46) s m args below meth c D TR 67 base 8 0 0 (FinI D TR 67 base below args s i32) M34 200 [] [.int (Ii v33)] (J v33 M34)) (by
                intro v33 M34 hv33
                exact go_ireturn X hrt hlk dX12_plain_200 hv33
                )
                (fun J200_35 hJ200_35 => ?_)
            refine go_icmp_ne (tgt := 189) X dX12_plain_182 rfl hv4 kI_m1 (fun c36 => ?_) (fun c36 => ?_)
            · refine go_aload_n X dX12_plain_189 rfl 1 rfl ?_
              refine go_getc (i := 42) X fc12 dX12_plain_190 trn0 tr0 (Nat.le_of_ble_eq_true rfl) rfl lw901 rfl ?_
              refine go_iload_n X dX12_plain_193 rfl 3 rfl ?_
              refine go_iaload X dX12_plain_194 trn35 tr35 ha2 (fun v37 hv37 => ?_)
              refine go_iload X dX12_plain_195 5 rfl ?_
              refine go_ishr X dX12_plain_197 hv37 hv4 (fun v38 hv38 => ?_)
              refine go_iconst (v := 1) X dX12_plain_198 rfl ?_
              refine go_iand X dX12_plain_199 hv38 kI_1 (fun v39 hv39 => ?_)
              refine go_sub [] rfl ?_
              exact hJ200_35 v39 M9 hv39
            · refine go_iconst (v := (-1)) X dX12_plain_185 rfl ?_
              refine go_goto (tgt := 200) X dX12_plain_186 rfl ?_
              refine go_sub [] rfl ?_
              exact hJ200_35 ((-1)) M9 kI_m1
          refine go_sw (fun c43 => ?_) (fun c43 => ?_)
          · refine go_tabIn (tgt := 201) X dX12_plain_77 hv11 5 c43 (by decide) (by decide) rfl rfl ?_
            refine go_sipush (v := 1000) X dX12_plain_201 (by decide) ?_
            refine go_aload_n X dX12_plain_204 rfl 1 rfl ?_
            refine go_getc (i := 43) X fc12 dX12_plain_205 trn0 tr0 (Nat.le_of_ble_eq_true rfl) rfl lw902 rfl ?_
            refine go_iload_n X dX12_plain_208 rfl 3 rfl ?_
            refine go_iaload X dX12_plain_209 trn36 tr36 ha2 (fun v41 hv41 => ?_)
            refine go_iadd X dX12_plain_210 kI_1000 hv41 (fun v42 hv42 => ?_)
            exact go_ireturn X hrt hlk dX12_plain_211 hv42
          refine go_sw (fun c50 => ?_) (fun c50 => ?_)
          · refine go_tabIn (tgt := 212) X dX12_plain_77 hv11 6 c50 (by decide) (by decide) rfl rfl ?_
            refine go_iload X dX12_plain_212 0 rfl ?_
            refine go_iconst (v := (-1)) X dX12_plain_214 rfl ?_
            refine go_lt (fun J => ∀ (v44 : Int) (M45 : Mm), i32 v44 → Go p l e (rmO 2 46) s m args below meth c D TR 67 base 8 0 0 (FinI D TR 67 base below args s i32) M45 233 [] [.int (Ii v44)] (J v44 M45)) (by
                intro v44 M45 hv44
                exact go_ireturn X hrt hlk dX12_plain_233 hv44
                )
                (fun J233_46 hJ233_46 => ?_)
            refine go_icmp_ne (tgt := 222) X dX12_plain_215 rfl hv8 kI_m1 (fun c47 => ?_) (fun c47 => ?_)
            · refine go_sipush (v := 1000) X dX12_plain_222 (by decide) ?_
              refine go_aload_n X dX12_plain_225 rfl 1 rfl ?_
              refine go_getc (i := 43) X fc12 dX12_plain_226 trn0 tr0 (Nat.le_of_ble_eq_true rfl) rfl lw902 rfl ?_
              refine go_iload X dX12_plain_229 0 rfl ?_
              refine go_iaload X dX12_plain_231 trn36 tr36 hv8 (fun v48 hv48 => ?_)
              refine go_iadd X dX12_plain_232 kI_1000 hv48 (fun v49 hv49 => ?_)
              refine go_sub [] rfl ?_
              exact hJ233_46 v49 M9 hv49
            · refine go_iconst (v := (-1)) X dX12_plain_218 rfl ?_
              refine go_goto (tgt := 233) X dX12_plain_219 rfl ?_
              refine go_sub [] rfl ?_
              exact hJ233_46 ((-1)) M9 kI_m1
          refine go_tabOut (tgt := 234) X dX12_plain_77 hv11 (by omega) rfl ?_
          refine go_aload_n X dX12_plain_234 rfl 1 rfl ?_
          refine go_getc (i := 38) X fc12 dX12_plain_235 trn0 tr0 (Nat.le_of_ble_eq_true rfl) rfl lw897 rfl ?_
          refine go_iload_n X dX12_plain_238 rfl 3 rfl ?_
          refine go_iaload X dX12_plain_239 trn31 tr31 ha2 (fun v51 hv51 => ?_)
          exact go_ireturn X hrt hlk dX12_plain_240 hv51
          )
          (fun J69_10 hJ69_10 => ?_)
      refine go_icmp_ge (tgt := 68) X dX12_plain_55 rfl hv2 hv7 (fun c52 => ?_) (fun c52 => ?_)
      · refine go_iconst (v := (-1)) X dX12_plain_68 rfl ?_
        refine go_sub [1, 2, 3, 5, 0] rfl ?_
        exact hJ69_10 ((-1)) M5 kI_m1
      · refine go_aload_n X dX12_plain_58 rfl 1 rfl ?_
        refine go_iload_n X dX12_plain_59 rfl 3 rfl ?_
        refine go_iload X dX12_plain_60 6 rfl ?_
        refine goI (fun H locs ls r ho hW hL => runV X (ok_X12_childFor l D base M5 a2 ha2 v2 hv2 H.size r ho) dX12_plain_62 lw1119 lw1120 lw1121 lw944 ⟨lw1118, cy_X12_childFor, Nat.le_of_ble_eq_true rfl, Nat.le_of_ble_eq_true rfl⟩ rfl trn0 tr0 rfl rfl rfl rfl (Nat.le_of_ble_eq_true rfl) hW hL hk0) (fun v54 M53 hv54 => ?_)
        refine go_goto (tgt := 69) X dX12_plain_65 rfl ?_
        refine go_sub [1, 2, 3, 5, 0] rfl ?_
        exact hJ69_10 v54 M53 hv54
      )
      (fun J45_6 hJ45_6 => ?_)
  refine go_lt (fun J => ∀ (M55 : Mm), Go p l e (rmO 2 46) s m args below meth c D TR 67 base 8 0 0 (FinI D TR 67 base below args s i32) M55 44 [(0, .ref (base + 0)), (1, .int (Ii a1)), (2, .int (Ii a2)), (3, .int (Ii a3)), (4, .int (Ii v1)), (5, .int (Ii v2))] [] (J M55)) (by
      intro M55
      refine go_iconst (v := (-1)) X dX12_plain_44 rfl ?_
      exact hJ45_6 ((-1)) M55 kI_m1
      )
      (fun J44_56 hJ44_56 => ?_)
  refine go_if_ne (tgt := 44) X dX12_plain_20 rfl (bo_i32 hv3) (fun c57 => ?_) (fun c57 => ?_)
  · refine go_sub [2, 3, 4, 5, 1, 0] rfl ?_
    exact hJ44_56 M
  · refine go_iload X dX12_plain_23 1 rfl ?_
    refine go_aload_n X dX12_plain_25 rfl 2 rfl ?_
    refine go_getc (i := 6) X fc12 dX12_plain_26 trn0 tr0 (Nat.le_of_ble_eq_true rfl) rfl lw871 rfl ?_
    refine go_aload_n X dX12_plain_29 rfl 2 rfl ?_
    refine go_getc (i := 37) X fc12 dX12_plain_30 trn0 tr0 (Nat.le_of_ble_eq_true rfl) rfl lw896 rfl ?_
    refine go_iload_n X dX12_plain_33 rfl 4 rfl ?_
    refine go_iaload X dX12_plain_34 trn30 tr30 ha2 (fun v58 hv58 => ?_)
    refine go_iaload X dX12_plain_35 trn6 tr6 hv58 (fun v59 hv59 => ?_)
    refine go_icmp_ge (tgt := 44) X dX12_plain_36 rfl hv1 hv59 (fun c60 => ?_) (fun c60 => ?_)
    · refine go_sub [2, 3, 4, 5, 1, 0] rfl ?_
      exact hJ44_56 M
    · refine go_iload X dX12_plain_39 1 rfl ?_
      refine go_goto (tgt := 45) X dX12_plain_41 rfl ?_
      refine go_sub [2, 3, 4, 5, 1, 0] rfl ?_
      exact hJ45_6 v1 M hv1
def f_X12_nodeAt_L4_17 (a1 : Int) (J34_3 : Int → Mm → Rs) (rc4_7 : Int × Int × Mm → Rs) : Int × Int × Mm → Rs := fun (v4, v5, M6) =>
Lt (M6 0 35) fun v8 =>
if v8 ≤ v5 then (
J34_3 v4 M6) else (
gd (0 ≤ v5 ∧ v5 < 30) <|
Lt (M6 36 v5.toNat) fun v10 =>
Lt (fun (v11 : Int) (v12 : Int) (M13 : Mm) => 
Lt (wr (v11 + 1)) fun v15 =>
rc4_7 (v12, v15, M13)) fun J27_14 =>
if ¬ v10 = a1 then (
J27_14 v5 v4 M6) else (
J27_14 v5 v5 M6))
def f_X12_nodeAt (a1 : Int) (M : Mm) : Rs :=
Lt (fun (v1 : Int) (M2 : Mm) => 
some (v1, M2)) fun J34_3 =>
Lp (f_X12_nodeAt_L4_17 a1 J34_3) FU ((-1), 0, M)
theorem cy_X12_nodeAt : yX12_nodeAt.cls ≠ "java/lang/invoke/MethodHandle" ∧ yX12_nodeAt.cls ≠ "java/lang/invoke/VarHandle" ∧ (parseMethodDescriptor yX12_nodeAt.desc).map (fun d => d.parameters.length) = some 1 := ⟨by decide +kernel, by decide +kernel, by decide +kernel⟩
set_option maxRecDepth 20000 in
theorem ok_X12_nodeAt (l : Launch) (D : Dd) (base : Nat) (M : Mm) (a1 : Int) (ha1 : i32 a1) : OkI l D TR 67 base yX12_nodeAt cX12_nodeAt 4 (some .int) 0 0 [.ref (base + 0), .int (Ii a1)] M i32 (f_X12_nodeAt a1 M) := by
  refine metI (by decide +kernel) [(0, .ref (base + 0)), (1, .int (Ii a1))] rfl (Nat.le_of_ble_eq_true rfl) (fun p e s m args below meth c X hrt hlk => ?_)
  have X : Cx p s m args c cX12_nodeAt D 4 RX12 := X
  unfold f_X12_nodeAt
  refine go_iconst (v := (-1)) X dX12_nodeAt_0 rfl ?_
  refine go_istore_n (i := 2) (L' := [(2, .int (Ii ((-1)))), (0, .ref (base + 0)), (1, .int (Ii a1))]) X dX12_nodeAt_1 rfl (by decide) rfl ?_
  refine go_iconst (v := 0) X dX12_nodeAt_2 rfl ?_
  refine go_istore_n (i := 3) (L' := [(3, .int (Ii 0)), (2, .int (Ii ((-1)))), (0, .ref (base + 0)), (1, .int (Ii a1))]) X dX12_nodeAt_3 rfl (by decide) rfl ?_
  refine go_lt (fun J => ∀ (v1 : Int) (M2 : Mm), i32 v1 → Go p l e (rmO 0 0) s m args below meth c D TR 67 base 4 0 0 (FinI D TR 67 base below args s i32) M2 34 [(2, .int (Ii v1))] [] (J v1 M2)) (by
      intro v1 M2 hv1
      refine go_iload_n X dX12_nodeAt_34 rfl 0 rfl ?_
      exact go_ireturn X hrt hlk dX12_nodeAt_35 hv1
      )
      (fun J34_3 hJ34_3 => ?_)
  refine go_sub [2, 3, 1, 0] rfl ?_
  exact go_lp (fun (rc : Int × Int × Mm → Rs) => ∀ (v4 : Int) (v5 : Int) (M6 : Mm), i32 v4 → i32 v5 → Go p l e (rmO 0 0) s m args below meth c D TR 67 base 4 0 0 (FinI D TR 67 base below args s i32) M6 4 [(0, .ref (base + 0)), (1, .int (Ii a1)), (2, .int (Ii v4)), (3, .int (Ii v5))] [] (rc (v4, v5, M6)))
      (by intro v4 v5 M6 hv4 hv5; exact go_none)
      (by
      intro rc4_7 hrc4_7 v4 v5 M6 hv4 hv5
      unfold f_X12_nodeAt_L4_17
      dsimp only
      refine go_iload_n X dX12_nodeAt_4 rfl 3 rfl ?_
      refine go_aload_n X dX12_nodeAt_5 rfl 0 rfl ?_
      refine go_geti (i := 35) X fc12 dX12_nodeAt_6 trn0 tr0 (Nat.le_of_ble_eq_true rfl) rfl lw948 rfl (fun v8 hv8 => ?_)
      refine go_icmp_ge (tgt := 34) X dX12_nodeAt_9 rfl hv5 hv8 (fun c9 => ?_) (fun c9 => ?_)
      · refine go_sub [2] rfl ?_
        exact hJ34_3 v4 M6 hv4
      · refine go_aload_n X dX12_nodeAt_12 rfl 0 rfl ?_
        refine go_getc (i := 43) X fc12 dX12_nodeAt_13 trn0 tr0 (Nat.le_of_ble_eq_true rfl) rfl lw902 rfl ?_
        refine go_iload_n X dX12_nodeAt_16 rfl 3 rfl ?_
        refine go_iaload X dX12_nodeAt_17 trn36 tr36 hv5 (fun v10 hv10 => ?_)
        refine go_iload_n X dX12_nodeAt_18 rfl 1 rfl ?_
        refine go_lt (fun J => ∀ (v11 : Int) (v12 : Int) (M13 : Mm), i32 v11 → i32 v12 → Go p l e (rmO 0 0) s m args below meth c D TR 67 base 4 0 0 (FinI D TR 67 base below args s i32) M13 27 [(0, .ref (base + 0)), (1, .int (Ii a1)), (3, .int (Ii v11))] [.int (Ii v12)] (J v11 v12 M13)) (by
            intro v11 v12 M13 hv11 hv12
            refine go_istore_n (i := 2) (L' := [(2, .int (Ii v12)), (0, .ref (base + 0)), (1, .int (Ii a1)), (3, .int (Ii v11))]) X dX12_nodeAt_27 rfl (by decide) rfl ?_
            refine go_iinc (i := 3) (L' := fun v => [(3, .int (Ii v)), (2, .int (Ii v12)), (0, .ref (base + 0)), (1, .int (Ii a1))]) X dX12_nodeAt_28 hv11 kI_1 (j := 3) rfl (by decide) (fun _ => rfl) (fun v15 hv15 => ?_)
            refine go_goto (tgt := 4) X dX12_nodeAt_31 rfl ?_
            refine go_sub [2, 3, 1, 0] rfl ?_
            exact hrc4_7 v12 v15 M13 hv12 hv15
            )
            (fun J27_14 hJ27_14 => ?_)
        refine go_icmp_ne (tgt := 26) X dX12_nodeAt_19 rfl hv10 ha1 (fun c16 => ?_) (fun c16 => ?_)
        · refine go_iload_n X dX12_nodeAt_26 rfl 2 rfl ?_
          refine go_sub [0, 1, 3] rfl ?_
          exact hJ27_14 v5 v4 M6 hv5 hv4
        · refine go_iload_n X dX12_nodeAt_22 rfl 3 rfl ?_
          refine go_goto (tgt := 27) X dX12_nodeAt_23 rfl ?_
          refine go_sub [0, 1, 3] rfl ?_
          exact hJ27_14 v5 v5 M6 hv5 hv5
      )
      FU ((-1)) 0 M kI_m1 kI_0
def f_X12_joined (a1 : Int) (a2 : Int) (a3 : Int) (M : Mm) : Rs :=
if ¬ a1 = 12 then (
Lt (fun (M2 : Mm) => 
some ((-1), M2)) fun J31_3 =>
if 1000 ≤ a2 then (
J31_3 M) else (
if a3 < 1000 then (
Lt (fun (v6 : Int) (M7 : Mm) => 
some (v6, M7)) fun J91_8 =>
if ¬ a1 = 8 then (
if ¬ a1 = 9 then (
if ¬ a1 = 10 then (
Lt (jor a2 a3) fun v12 =>
Lt (jrem v12 1000) fun v13 =>
J91_8 v13 M) else (
if a2 ≤ a3 then (
J91_8 a3 M) else (
J91_8 a2 M))) else (
Lt (wr (a2 * a3)) fun v15 =>
Lt (jrem v15 1000) fun v16 =>
J91_8 v16 M)) else (
Lt (wr (a2 + a3)) fun v17 =>
Lt (jrem v17 1000) fun v18 =>
J91_8 v18 M)) else (
J31_3 M))) else (
Lt (fun (v19 : Int) (M20 : Mm) => 
some (v19, M20)) fun J16_21 =>
if ¬ a2 = a3 then (
J16_21 0 M) else (
J16_21 1 M))
theorem cy_X12_joined : yX12_joined.cls ≠ "java/lang/invoke/MethodHandle" ∧ yX12_joined.cls ≠ "java/lang/invoke/VarHandle" ∧ (parseMethodDescriptor yX12_joined.desc).map (fun d => d.parameters.length) = some 3 := ⟨by decide +kernel, by decide +kernel, by decide +kernel⟩
set_option maxRecDepth 20000 in
theorem ok_X12_joined (l : Launch) (D : Dd) (base : Nat) (M : Mm) (a1 : Int) (ha1 : i32 a1) (a2 : Int) (ha2 : i32 a2) (a3 : Int) (ha3 : i32 a3) : OkI l D TR 67 base yX12_joined cX12_joined 3 (some .int) 0 0 [.int (Ii a1), .int (Ii a2), .int (Ii a3)] M i32 (f_X12_joined a1 a2 a3 M) := by
  refine metI (by decide +kernel) [(0, .int (Ii a1)), (1, .int (Ii a2)), (2, .int (Ii a3))] rfl (Nat.le_of_ble_eq_true rfl) (fun p e s m args below meth c X hrt hlk => ?_)
  have X : Cx p s m args c cX12_joined D 3 RX12 := X
  unfold f_X12_joined
  refine go_iload_n X dX12_joined_0 rfl 0 rfl ?_
  refine go_bipush (v := 12) X dX12_joined_1 (by decide) ?_
  refine go_icmp_ne (tgt := 17) X dX12_joined_3 rfl ha1 kI_12 (fun c1 => ?_) (fun c1 => ?_)
  · refine go_iload_n X dX12_joined_17 rfl 1 rfl ?_
    refine go_sipush (v := 1000) X dX12_joined_18 (by decide) ?_
    refine go_lt (fun J => ∀ (M2 : Mm), Go p l e (rmO 0 0) s m args below meth c D TR 67 base 3 0 0 (FinI D TR 67 base below args s i32) M2 31 [] [] (J M2)) (by
        intro M2
        refine go_iconst (v := (-1)) X dX12_joined_31 rfl ?_
        exact go_ireturn X hrt hlk dX12_joined_32 kI_m1
        )
        (fun J31_3 hJ31_3 => ?_)
    refine go_icmp_ge (tgt := 31) X dX12_joined_21 rfl ha2 kI_1000 (fun c4 => ?_) (fun c4 => ?_)
    · refine go_sub [] rfl ?_
      exact hJ31_3 M
    · refine go_iload_n X dX12_joined_24 rfl 2 rfl ?_
      refine go_sipush (v := 1000) X dX12_joined_25 (by decide) ?_
      refine go_icmp_lt (tgt := 33) X dX12_joined_28 rfl ha3 kI_1000 (fun c5 => ?_) (fun c5 => ?_)
      · refine go_iload_n X dX12_joined_33 rfl 0 rfl ?_
        refine go_bipush (v := 8) X dX12_joined_34 (by decide) ?_
        refine go_lt (fun J => ∀ (v6 : Int) (M7 : Mm), i32 v6 → Go p l e (rmO 0 0) s m args below meth c D TR 67 base 3 0 0 (FinI D TR 67 base below args s i32) M7 91 [] [.int (Ii v6)] (J v6 M7)) (by
            intro v6 M7 hv6
            exact go_ireturn X hrt hlk dX12_joined_91 hv6
            )
            (fun J91_8 hJ91_8 => ?_)
        refine go_icmp_ne (tgt := 49) X dX12_joined_36 rfl ha1 kI_8 (fun c9 => ?_) (fun c9 => ?_)
        · refine go_iload_n X dX12_joined_49 rfl 0 rfl ?_
          refine go_bipush (v := 9) X dX12_joined_50 (by decide) ?_
          refine go_icmp_ne (tgt := 65) X dX12_joined_52 rfl ha1 kI_9 (fun c10 => ?_) (fun c10 => ?_)
          · refine go_iload_n X dX12_joined_65 rfl 0 rfl ?_
            refine go_bipush (v := 10) X dX12_joined_66 (by decide) ?_
            refine go_icmp_ne (tgt := 84) X dX12_joined_68 rfl ha1 kI_10 (fun c11 => ?_) (fun c11 => ?_)
            · refine go_iload_n X dX12_joined_84 rfl 1 rfl ?_
              refine go_iload_n X dX12_joined_85 rfl 2 rfl ?_
              refine go_ior X dX12_joined_86 ha2 ha3 (fun v12 hv12 => ?_)
              refine go_sipush (v := 1000) X dX12_joined_87 (by decide) ?_
              refine go_irem X dX12_joined_90 hv12 kI_1000 (by decide) (fun v13 hv13 => ?_)
              refine go_sub [] rfl ?_
              exact hJ91_8 v13 M hv13
            · refine go_iload_n X dX12_joined_71 rfl 1 rfl ?_
              refine go_iload_n X dX12_joined_72 rfl 2 rfl ?_
              refine go_icmp_le (tgt := 80) X dX12_joined_73 rfl ha2 ha3 (fun c14 => ?_) (fun c14 => ?_)
              · refine go_iload_n X dX12_joined_80 rfl 2 rfl ?_
                refine go_goto (tgt := 91) X dX12_joined_81 rfl ?_
                refine go_sub [] rfl ?_
                exact hJ91_8 a3 M ha3
              · refine go_iload_n X dX12_joined_76 rfl 1 rfl ?_
                refine go_goto (tgt := 91) X dX12_joined_77 rfl ?_
                refine go_sub [] rfl ?_
                exact hJ91_8 a2 M ha2
          · refine go_iload_n X dX12_joined_55 rfl 1 rfl ?_
            refine go_iload_n X dX12_joined_56 rfl 2 rfl ?_
            refine go_imul X dX12_joined_57 ha2 ha3 (fun v15 hv15 => ?_)
            refine go_sipush (v := 1000) X dX12_joined_58 (by decide) ?_
            refine go_irem X dX12_joined_61 hv15 kI_1000 (by decide) (fun v16 hv16 => ?_)
            refine go_goto (tgt := 91) X dX12_joined_62 rfl ?_
            refine go_sub [] rfl ?_
            exact hJ91_8 v16 M hv16
        · refine go_iload_n X dX12_joined_39 rfl 1 rfl ?_
          refine go_iload_n X dX12_joined_40 rfl 2 rfl ?_
          refine go_iadd X dX12_joined_41 ha2 ha3 (fun v17 hv17 => ?_)
          refine go_sipush (v := 1000) X dX12_joined_42 (by decide) ?_
          refine go_irem X dX12_joined_45 hv17 kI_1000 (by decide) (fun v18 hv18 => ?_)
          refine go_goto (tgt := 91) X dX12_joined_46 rfl ?_
          refine go_sub [] rfl ?_
          exact hJ91_8 v18 M hv18
      · refine go_sub [] rfl ?_
        exact hJ31_3 M
  · refine go_iload_n X dX12_joined_6 rfl 1 rfl ?_
    refine go_iload_n X dX12_joined_7 rfl 2 rfl ?_
    refine go_lt (fun J => ∀ (v19 : Int) (M20 : Mm), bo v19 → Go p l e (rmO 0 0) s m args below meth c D TR 67 base 3 0 0 (FinI D TR 67 base below args s i32) M20 16 [] [.int (Ii v19)] (J v19 M20)) (by
        intro v19 M20 hv19
        exact go_ireturn X hrt hlk dX12_joined_16 (bo_i32 hv19)
        )
        (fun J16_21 hJ16_21 => ?_)
    refine go_icmp_ne (tgt := 15) X dX12_joined_8 rfl ha2 ha3 (fun c22 => ?_) (fun c22 => ?_)
    · refine go_iconst (v := 0) X dX12_joined_15 rfl ?_
      refine go_sub [] rfl ?_
      exact hJ16_21 0 M (Or.inl rfl)
    · refine go_iconst (v := 1) X dX12_joined_11 rfl ?_
      refine go_goto (tgt := 16) X dX12_joined_12 rfl ?_
      refine go_sub [] rfl ?_
      exact hJ16_21 1 M (Or.inr rfl)
def f_X12_expressed_L28_102 (a3 : Int) (v1 : Int) (J330_6 : Int → Mm → Rs) (rc28_10 : Int × Int × Mm → Rs) : Int × Int × Mm → Rs := fun (v7, v8, M9) =>
if v7 ≤ 0 then (
J330_6 v8 M9) else (
Lt (M9 0 72) fun v12 =>
if ¬ v12 = ((-1)) then (
J330_6 v8 M9) else (
Lt (wr (v7 - 1)) fun v14 =>
gd (0 ≤ v14 ∧ v14 < 9) <|
Lt (M9 62 v14.toNat) fun v15 =>
gd (0 ≤ v15 ∧ v15 < 240) <|
Lt (M9 21 v15.toNat) fun v16 =>
Lt (wr (v7 - 1)) fun v17 =>
gd (0 ≤ v17 ∧ v17 < 9) <|
Lt (M9 63 v17.toNat) fun v18 =>
Lt (fun (v19 : Int) (v20 : Int) (v21 : Int) (M22 : Mm) => 
Cl (f_X12_taken v16 M22) fun v25 M24 =>
Lt (fun (v26 : Int) (v27 : Int) (M28 : Mm) => 
rc28_10 (v26, v27, M28)) fun J327_29 =>
if ¬ v25 = 0 then (
if ¬ v18 = 0 then (
Lt (fun (v32 : Int) (v33 : Int) (M34 : Mm) => 
Lt (wr (v32 + (-1))) fun v36 =>
J327_29 v36 v33 M34) fun J177_35 =>
if ¬ v21 = 0 then (
J177_35 v19 v20 M24) else (
Lt (fun (v38 : Int) (v39 : Int) (M40 : Mm) => 
if ¬ v16 = 7 then (
if ¬ v18 = 1 then (
Lt (wr (v38 - 1)) fun v44 =>
gd (0 ≤ v44 ∧ v44 < 9) <|
Lt (M40 64 v44.toNat) fun v45 =>
Cl (f_X12_joined v16 v45 v39 M40) fun v47 M46 =>
Lt (wr (v38 + (-1))) fun v48 =>
J327_29 v48 v47 M46) else (
Lt (wr (v38 - 1)) fun v49 =>
gd (0 ≤ v49 ∧ v49 < 9) <|
Lt (up M40 64 v49.toNat v39) fun M50 =>
Lt (wr (v38 - 1)) fun v51 =>
gd (0 ≤ v51 ∧ v51 < 9) <|
Lt (up M50 63 v51.toNat 2) fun M52 =>
Lt (wr (3 * v15)) fun v53 =>
Lt (fun (v54 : Int) (v55 : Int) (v56 : Int) (v57 : Int) (M58 : Mm) => 
Lt (wr (v53 + v57)) fun v60 =>
gd (0 ≤ v60 ∧ v60 < 720) <|
Lt (M58 24 v60.toNat) fun v61 =>
gd (0 ≤ v56 ∧ v56 < 9) <|
Lt (up M58 62 v56.toNat v61) fun M62 =>
gd (0 ≤ v54 ∧ v54 < 9) <|
Lt (up M62 63 v54.toNat 0) fun M63 =>
Lt (wr (v54 + 1)) fun v64 =>
J327_29 v64 v55 M63) fun J289_59 =>
Lt (fun (v65 : Int) (v66 : Int) (v67 : Int) (M68 : Mm) => 
J289_59 v65 v66 v67 1 M68) fun J288_69 =>
if ¬ v16 = 13 then (
J288_69 v38 v39 v38 M52) else (
if ¬ v39 = 0 then (
J288_69 v38 v39 v38 M52) else (
J289_59 v38 v39 v38 2 M52)))) else (
Lt (fun (v72 : Int) (v73 : Int) (M74 : Mm) => 
Lt (wr (v72 + (-1))) fun v76 =>
J327_29 v76 v73 M74) fun J223_75 =>
if 1000 ≤ v39 then (
Lt (wr (v39 - 1000)) fun v78 =>
Cl (f_X12_nodeAt v78 M40) fun v80 M79 =>
gd (0 ≤ v15 ∧ v15 < 240) <|
Lt (M79 22 v15.toNat) fun v81 =>
Cl (f_X12_looksAt v80 v81 M79) fun v83 M82 =>
J223_75 v38 v83 M82) else (
J223_75 v38 ((-1)) M40))) fun J183_41 =>
if ¬ v18 = 2 then (
J183_41 v19 v20 M24) else (
if ¬ v16 = 13 then (
J183_41 v19 v20 M24) else (
J177_35 v19 v20 M24)))) else (
Lt (wr (v19 - 1)) fun v86 =>
gd (0 ≤ v86 ∧ v86 < 9) <|
Lt (up M24 63 v86.toNat 1) fun M87 =>
Lt (wr (3 * v15)) fun v88 =>
gd (0 ≤ v88 ∧ v88 < 720) <|
Lt (M87 24 v88.toNat) fun v89 =>
gd (0 ≤ v19 ∧ v19 < 9) <|
Lt (up M87 62 v19.toNat v89) fun M90 =>
gd (0 ≤ v19 ∧ v19 < 9) <|
Lt (up M90 63 v19.toNat 0) fun M91 =>
Lt (wr (v19 + 1)) fun v92 =>
J327_29 v92 v20 M91)) else (
Cl (f_X12_plain v15 a3 v1 M24) fun v94 M93 =>
Lt (wr (v19 + (-1))) fun v95 =>
J327_29 v95 v94 M93)) fun J87_23 =>
Lt (fun (v96 : Int) (v97 : Int) (M98 : Mm) => 
J87_23 v96 v97 0 M98) fun J86_99 =>
if v18 ≤ 0 then (
J86_99 v7 v8 M9) else (
if 0 ≤ v8 then (
J86_99 v7 v8 M9) else (
J87_23 v7 v8 1 M9))))
def f_X12_expressed (a1 : Int) (a2 : Int) (a3 : Int) (M : Mm) : Rs :=
gd (0 ≤ a1 ∧ a1 < 30) <|
Lt (M 16 a1.toNat) fun v1 =>
gd (0 ≤ 0 ∧ 0 < 9) <|
Lt (up M 62 0 a2) fun M2 =>
gd (0 ≤ 0 ∧ 0 < 9) <|
Lt (up M2 63 0 0) fun M3 =>
Lt (fun (v4 : Int) (M5 : Mm) => 
some (v4, M5)) fun J330_6 =>
Lp (f_X12_expressed_L28_102 a3 v1 J330_6) FU (1, (-1), M3)
theorem cy_X12_expressed : yX12_expressed.cls ≠ "java/lang/invoke/MethodHandle" ∧ yX12_expressed.cls ≠ "java/lang/invoke/VarHandle" ∧ (parseMethodDescriptor yX12_expressed.desc).map (fun d => d.parameters.length) = some 3 := ⟨by decide +kernel, by decide +kernel, by decide +kernel⟩
set_option maxRecDepth 20000 in
theorem ok_X12_expressed (l : Launch) (D : Dd) (base : Nat) (M : Mm) (a1 : Int) (ha1 : i32 a1) (a2 : Int) (ha2 : i32 a2) (a3 : Int) (ha3 : i32 a3) : OkI l D TR 67 base yX12_expressed cX12_expressed 11 (some .int) 3 73 [.ref (base + 0), .int (Ii a1), .int (Ii a2), .int (Ii a3)] M i32 (f_X12_expressed a1 a2 a3 M) := by
  refine metI (by decide +kernel) [(0, .ref (base + 0)), (1, .int (Ii a1)), (2, .int (Ii a2)), (3, .int (Ii a3))] rfl (Nat.le_of_ble_eq_true rfl) (fun p e s m args below meth c X hrt hlk => ?_)
  have X : Cx p s m args c cX12_expressed D 11 RX12 := X
  unfold f_X12_expressed
  refine go_aload_n X dX12_expressed_0 rfl 0 rfl ?_
  refine go_getc (i := 20) X fc12 dX12_expressed_1 trn0 tr0 (Nat.le_of_ble_eq_true rfl) rfl lw881 rfl ?_
  refine go_iload_n X dX12_expressed_4 rfl 1 rfl ?_
  refine go_iaload X dX12_expressed_5 trn16 tr16 ha1 (fun v1 hv1 => ?_)
  refine go_istore (i := 4) (L' := [(4, .int (Ii v1)), (0, .ref (base + 0)), (1, .int (Ii a1)), (2, .int (Ii a2)), (3, .int (Ii a3))]) X dX12_expressed_6 (by decide) rfl ?_
  refine go_iconst (v := 1) X dX12_expressed_8 rfl ?_
  refine go_istore (i := 5) (L' := [(5, .int (Ii 1)), (4, .int (Ii v1)), (0, .ref (base + 0)), (1, .int (Ii a1)), (2, .int (Ii a2)), (3, .int (Ii a3))]) X dX12_expressed_9 (by decide) rfl ?_
  refine go_iconst (v := (-1)) X dX12_expressed_11 rfl ?_
  refine go_istore (i := 6) (L' := [(6, .int (Ii ((-1)))), (5, .int (Ii 1)), (4, .int (Ii v1)), (0, .ref (base + 0)), (1, .int (Ii a1)), (2, .int (Ii a2)), (3, .int (Ii a3))]) X dX12_expressed_12 (by decide) rfl ?_
  refine go_aload_n X dX12_expressed_14 rfl 3 rfl ?_
  refine go_getc (i := 82) X fc12 dX12_expressed_15 trn0 tr0 (Nat.le_of_ble_eq_true rfl) rfl lw929 rfl ?_
  refine go_iconst (v := 0) X dX12_expressed_18 rfl ?_
  refine go_iload_n X dX12_expressed_19 rfl 5 rfl ?_
  refine go_iastore X dX12_expressed_20 trn62 tr62 kI_0 ha2 (fun M2 => ?_)
  refine go_aload_n X dX12_expressed_21 rfl 3 rfl ?_
  refine go_getc (i := 83) X fc12 dX12_expressed_22 trn0 tr0 (Nat.le_of_ble_eq_true rfl) rfl lw930 rfl ?_
  refine go_iconst (v := 0) X dX12_expressed_25 rfl ?_
  refine go_iconst (v := 0) X dX12_expressed_26 rfl ?_
  refine go_iastore X dX12_expressed_27 trn63 tr63 kI_0 kI_0 (fun M3 => ?_)
  refine go_lt (fun J => ∀ (v4 : Int) (M5 : Mm), i32 v4 → Go p l e (rmO 3 73) s m args below meth c D TR 67 base 11 0 0 (FinI D TR 67 base below args s i32) M5 330 [(6, .int (Ii v4))] [] (J v4 M5)) (by
      intro v4 M5 hv4
      refine go_iload X dX12_expressed_330 0 rfl ?_
      exact go_ireturn X hrt hlk dX12_expressed_332 hv4
      )
      (fun J330_6 hJ330_6 => ?_)
  refine go_sub [3, 6, 2, 1, 0] rfl ?_
  exact go_lp (fun (rc : Int × Int × Mm → Rs) => ∀ (v7 : Int) (v8 : Int) (M9 : Mm), i32 v7 → i32 v8 → Go p l e (rmO 3 73) s m args below meth c D TR 67 base 11 0 0 (FinI D TR 67 base below args s i32) M9 28 [(0, .ref (base + 0)), (3, .int (Ii a3)), (4, .int (Ii v1)), (5, .int (Ii v7)), (6, .int (Ii v8))] [] (rc (v7, v8, M9)))
      (by intro v7 v8 M9 hv7 hv8; exact go_none)
      (by
      intro rc28_10 hrc28_10 v7 v8 M9 hv7 hv8
      unfold f_X12_expressed_L28_102
      dsimp only
      refine go_iload X dX12_expressed_28 3 rfl ?_
      refine go_if_le (tgt := 330) X dX12_expressed_30 rfl hv7 (fun c11 => ?_) (fun c11 => ?_)
      · refine go_sub [4] rfl ?_
        exact hJ330_6 v8 M9 hv8
      · refine go_aload_n X dX12_expressed_33 rfl 0 rfl ?_
        refine go_geti (i := 72) X fc12 dX12_expressed_34 trn0 tr0 (Nat.le_of_ble_eq_true rfl) rfl lw1105 rfl (fun v12 hv12 => ?_)
        refine go_iconst (v := (-1)) X dX12_expressed_37 rfl ?_
        refine go_icmp_ne (tgt := 330) X dX12_expressed_38 rfl hv12 kI_m1 (fun c13 => ?_) (fun c13 => ?_)
        · refine go_sub [4] rfl ?_
          exact hJ330_6 v8 M9 hv8
        · refine go_aload_n X dX12_expressed_41 rfl 0 rfl ?_
          refine go_getc (i := 82) X fc12 dX12_expressed_42 trn0 tr0 (Nat.le_of_ble_eq_true rfl) rfl lw929 rfl ?_
          refine go_iload X dX12_expressed_45 3 rfl ?_
          refine go_iconst (v := 1) X dX12_expressed_47 rfl ?_
          refine go_isub X dX12_expressed_48 hv7 kI_1 (fun v14 hv14 => ?_)
          refine go_iaload X dX12_expressed_49 trn62 tr62 hv14 (fun v15 hv15 => ?_)
          refine go_istore (i := 7) (L' := [(7, .int (Ii v15)), (0, .ref (base + 0)), (3, .int (Ii a3)), (4, .int (Ii v1)), (5, .int (Ii v7)), (6, .int (Ii v8))]) X dX12_expressed_50 (by decide) rfl ?_
          refine go_aload_n X dX12_expressed_52 rfl 1 rfl ?_
          refine go_getc (i := 25) X fc12 dX12_expressed_53 trn0 tr0 (Nat.le_of_ble_eq_true rfl) rfl lw886 rfl ?_
          refine go_iload X dX12_expressed_56 0 rfl ?_
          refine go_iaload X dX12_expressed_58 trn21 tr21 hv15 (fun v16 hv16 => ?_)
          refine go_istore (i := 8) (L' := [(8, .int (Ii v16)), (7, .int (Ii v15)), (0, .ref (base + 0)), (3, .int (Ii a3)), (4, .int (Ii v1)), (5, .int (Ii v7)), (6, .int (Ii v8))]) X dX12_expressed_59 (by decide) rfl ?_
          refine go_aload_n X dX12_expressed_61 rfl 2 rfl ?_
          refine go_getc (i := 83) X fc12 dX12_expressed_62 trn0 tr0 (Nat.le_of_ble_eq_true rfl) rfl lw930 rfl ?_
          refine go_iload X dX12_expressed_65 5 rfl ?_
          refine go_iconst (v := 1) X dX12_expressed_67 rfl ?_
          refine go_isub X dX12_expressed_68 hv7 kI_1 (fun v17 hv17 => ?_)
          refine go_iaload X dX12_expressed_69 trn63 tr63 hv17 (fun v18 hv18 => ?_)
          refine go_istore (i := 9) (L' := [(9, .int (Ii v18)), (8, .int (Ii v16)), (7, .int (Ii v15)), (0, .ref (base + 0)), (3, .int (Ii a3)), (4, .int (Ii v1)), (5, .int (Ii v7)), (6, .int (Ii v8))]) X dX12_expressed_70 (by decide) rfl ?_
          refine go_iload X dX12_expressed_72 0 rfl ?_
          refine go_lt (fun J => ∀ (v19 : Int) (v20 : Int) (v21 : Int) (M22 : Mm), i32 v19 → i32 v20 → bo v21 → Go p l e (rmO 3 73) s m args below meth c D TR 67 base 11 0 0 (FinI D TR 67 base below args s i32) M22 87 [(0, .ref (base + 0)), (3, .int (Ii a3)), (4, .int (Ii v1)), (5, .int (Ii v19)), (6, .int (Ii v20)), (7, .int (Ii v15)), (8, .int (Ii v16)), (9, .int (Ii v18))] [.int (Ii v21)] (J v19 v20 v21 M22)) (by
              intro v19 v20 v21 M22 hv19 hv20 hv21
              refine go_istore (i := 10) (L' := [(10, .int (Ii v21)), (0, .ref (base + 0)), (3, .int (Ii a3)), (4, .int (Ii v1)), (5, .int (Ii v19)), (6, .int (Ii v20)), (7, .int (Ii v15)), (8, .int (Ii v16)), (9, .int (Ii v18))]) X dX12_expressed_87 (by decide) rfl ?_
              refine go_iload X dX12_expressed_89 7 rfl ?_
              refine goI (fun H locs ls r ho hW hL => runS X (ok_X12_taken l D base M22 v16 hv16 H.size r ho) dX12_expressed_91 lw982 lw983 lw944 ⟨lw976, cy_X12_taken, Nat.le_of_ble_eq_true rfl, Nat.le_of_ble_eq_true rfl⟩ rfl rfl (Nat.le_of_ble_eq_true rfl) hW hL hk0) (fun v25 M24 hv25 => ?_)
              refine go_lt (fun J => ∀ (v26 : Int) (v27 : Int) (M28 : Mm), i32 v26 → i32 v27 → Go p l e (rmO 3 73) s m args below meth c D TR 67 base 11 0 0 (FinI D TR 67 base below args s i32) M28 327 [(0, .ref (base + 0)), (3, .int (Ii a3)), (4, .int (Ii v1)), (5, .int (Ii v26)), (6, .int (Ii v27))] [] (J v26 v27 M28)) (by
                  intro v26 v27 M28 hv26 hv27
                  refine go_goto (tgt := 28) X dX12_expressed_327 rfl ?_
                  exact hrc28_10 v26 v27 M28 hv26 hv27
                  )
                  (fun J327_29 hJ327_29 => ?_)
              refine go_if_ne (tgt := 114) X dX12_expressed_94 rfl hv25 (fun c30 => ?_) (fun c30 => ?_)
              · refine go_iload X dX12_expressed_114 8 rfl ?_
                refine go_if_ne (tgt := 159) X dX12_expressed_116 rfl hv18 (fun c31 => ?_) (fun c31 => ?_)
                · refine go_iload X dX12_expressed_159 0 rfl ?_
                  refine go_lt (fun J => ∀ (v32 : Int) (v33 : Int) (M34 : Mm), i32 v32 → i32 v33 → Go p l e (rmO 3 73) s m args below meth c D TR 67 base 11 0 0 (FinI D TR 67 base below args s i32) M34 177 [(0, .ref (base + 0)), (3, .int (Ii a3)), (4, .int (Ii v1)), (5, .int (Ii v32)), (6, .int (Ii v33))] [] (J v32 v33 M34)) (by
                      intro v32 v33 M34 hv32 hv33
                      refine go_iinc (i := 5) (L' := fun v => [(5, .int (Ii v)), (0, .ref (base + 0)), (3, .int (Ii a3)), (4, .int (Ii v1)), (6, .int (Ii v33))]) X dX12_expressed_177 hv32 kI_m1 (j := 3) rfl (by decide) (fun _ => rfl) (fun v36 hv36 => ?_)
                      refine go_goto (tgt := 327) X dX12_expressed_180 rfl ?_
                      refine go_sub [1, 2, 3, 0, 4] rfl ?_
                      exact hJ327_29 v36 v33 M34 hv36 hv33
                      )
                      (fun J177_35 hJ177_35 => ?_)
                  refine go_if_ne (tgt := 177) X dX12_expressed_161 rfl (bo_i32 hv21) (fun c37 => ?_) (fun c37 => ?_)
                  · refine go_sub [1, 2, 3, 4, 5] rfl ?_
                    exact hJ177_35 v19 v20 M24 hv19 hv20
                  · refine go_iload X dX12_expressed_164 8 rfl ?_
                    refine go_iconst (v := 2) X dX12_expressed_166 rfl ?_
                    refine go_lt (fun J => ∀ (v38 : Int) (v39 : Int) (M40 : Mm), i32 v38 → i32 v39 → Go p l e (rmO 3 73) s m args below meth c D TR 67 base 11 0 0 (FinI D TR 67 base below args s i32) M40 183 [(0, .ref (base + 0)), (3, .int (Ii a3)), (4, .int (Ii v1)), (5, .int (Ii v38)), (6, .int (Ii v39)), (7, .int (Ii v15)), (8, .int (Ii v16)), (9, .int (Ii v18))] [] (J v38 v39 M40)) (by
                        intro v38 v39 M40 hv38 hv39
                        refine go_iload X dX12_expressed_183 6 rfl ?_
                        refine go_bipush (v := 7) X dX12_expressed_185 (by decide) ?_
                        refine go_icmp_ne (tgt := 231) X dX12_expressed_187 rfl hv16 kI_7 (fun c42 => ?_) (fun c42 => ?_)
                        · refine go_iload X dX12_expressed_231 7 rfl ?_
                          refine go_iconst (v := 1) X dX12_expressed_233 rfl ?_
                          refine go_icmp_ne (tgt := 306) X dX12_expressed_234 rfl hv18 kI_1 (fun c43 => ?_) (fun c43 => ?_)
                          · refine go_iload X dX12_expressed_306 6 rfl ?_
                            refine go_aload_n X dX12_expressed_308 rfl 0 rfl ?_
                            refine go_getc (i := 84) X fc12 dX12_expressed_309 trn0 tr0 (Nat.le_of_ble_eq_true rfl) rfl lw931 rfl ?_
                            refine go_iload X dX12_expressed_312 3 rfl ?_
                            refine go_iconst (v := 1) X dX12_expressed_314 rfl ?_
                            refine go_isub X dX12_expressed_315 hv38 kI_1 (fun v44 hv44 => ?_)
                            refine go_iaload X dX12_expressed_316 trn64 tr64 hv44 (fun v45 hv45 => ?_)
                            refine go_iload X dX12_expressed_317 4 rfl ?_
                            refine goI (fun H locs ls r ho hW hL => runS X (ok_X12_joined l D base M40 v16 hv16 v45 hv45 v39 hv39 H.size r ho) dX12_expressed_319 lw1134 lw1135 lw944 ⟨lw1127, cy_X12_joined, Nat.le_of_ble_eq_true rfl, Nat.le_of_ble_eq_true rfl⟩ rfl rfl (Nat.le_of_ble_eq_true rfl) hW hL hk0) (fun v47 M46 hv47 => ?_)
                            refine go_istore (i := 6) (L' := [(6, .int (Ii v47)), (0, .ref (base + 0)), (3, .int (Ii a3)), (4, .int (Ii v1)), (5, .int (Ii v38)), (7, .int (Ii v15)), (8, .int (Ii v16)), (9, .int (Ii v18))]) X dX12_expressed_322 (by decide) rfl ?_
                            refine go_iinc (i := 5) (L' := fun v => [(5, .int (Ii v)), (6, .int (Ii v47)), (0, .ref (base + 0)), (3, .int (Ii a3)), (4, .int (Ii v1)), (7, .int (Ii v15)), (8, .int (Ii v16)), (9, .int (Ii v18))]) X dX12_expressed_324 hv38 kI_m1 (j := 4) rfl (by decide) (fun _ => rfl) (fun v48 hv48 => ?_)
                            refine go_sub [2, 3, 4, 0, 1] rfl ?_
                            exact hJ327_29 v48 v47 M46 hv48 hv47
                          · refine go_aload_n X dX12_expressed_237 rfl 0 rfl ?_
                            refine go_getc (i := 84) X fc12 dX12_expressed_238 trn0 tr0 (Nat.le_of_ble_eq_true rfl) rfl lw931 rfl ?_
                            refine go_iload X dX12_expressed_241 3 rfl ?_
                            refine go_iconst (v := 1) X dX12_expressed_243 rfl ?_
                            refine go_isub X dX12_expressed_244 hv38 kI_1 (fun v49 hv49 => ?_)
                            refine go_iload X dX12_expressed_245 4 rfl ?_
                            refine go_iastore X dX12_expressed_247 trn64 tr64 hv49 hv39 (fun M50 => ?_)
                            refine go_aload_n X dX12_expressed_248 rfl 0 rfl ?_
                            refine go_getc (i := 83) X fc12 dX12_expressed_249 trn0 tr0 (Nat.le_of_ble_eq_true rfl) rfl lw930 rfl ?_
                            refine go_iload X dX12_expressed_252 3 rfl ?_
                            refine go_iconst (v := 1) X dX12_expressed_254 rfl ?_
                            refine go_isub X dX12_expressed_255 hv38 kI_1 (fun v51 hv51 => ?_)
                            refine go_iconst (v := 2) X dX12_expressed_256 rfl ?_
                            refine go_iastore X dX12_expressed_257 trn63 tr63 hv51 kI_2 (fun M52 => ?_)
                            refine go_aload_n X dX12_expressed_258 rfl 0 rfl ?_
                            refine go_getc (i := 82) X fc12 dX12_expressed_259 trn0 tr0 (Nat.le_of_ble_eq_true rfl) rfl lw929 rfl ?_
                            refine go_iload X dX12_expressed_262 3 rfl ?_
                            refine go_aload_n X dX12_expressed_264 rfl 0 rfl ?_
                            refine go_getc (i := 28) X fc12 dX12_expressed_265 trn0 tr0 (Nat.le_of_ble_eq_true rfl) rfl lw889 rfl ?_
                            refine go_iconst (v := 3) X dX12_expressed_268 rfl ?_
                            refine go_iload X dX12_expressed_269 5 rfl ?_
                            refine go_imul X dX12_expressed_271 kI_3 hv15 (fun v53 hv53 => ?_)
                            refine go_iload X dX12_expressed_272 6 rfl ?_
                            refine go_bipush (v := 13) X dX12_expressed_274 (by decide) ?_
                            refine go_lt (fun J => ∀ (v54 : Int) (v55 : Int) (v56 : Int) (v57 : Int) (M58 : Mm), i32 v54 → i32 v55 → i32 v56 → i32 v57 → Go p l e (rmO 3 73) s m args below meth c D TR 67 base 11 0 0 (FinI D TR 67 base below args s i32) M58 289 [(0, .ref (base + 0)), (3, .int (Ii a3)), (4, .int (Ii v1)), (5, .int (Ii v54)), (6, .int (Ii v55))] [.int (Ii v57), .int (Ii v53), .ref (base + 24), .int (Ii v56), .ref (base + 62)] (J v54 v55 v56 v57 M58)) (by
                                intro v54 v55 v56 v57 M58 hv54 hv55 hv56 hv57
                                refine go_iadd X dX12_expressed_289 hv53 hv57 (fun v60 hv60 => ?_)
                                refine go_iaload X dX12_expressed_290 trn24 tr24 hv60 (fun v61 hv61 => ?_)
                                refine go_iastore X dX12_expressed_291 trn62 tr62 hv56 hv61 (fun M62 => ?_)
                                refine go_aload_n X dX12_expressed_292 rfl 0 rfl ?_
                                refine go_getc (i := 83) X fc12 dX12_expressed_293 trn0 tr0 (Nat.le_of_ble_eq_true rfl) rfl lw930 rfl ?_
                                refine go_iload X dX12_expressed_296 3 rfl ?_
                                refine go_iconst (v := 0) X dX12_expressed_298 rfl ?_
                                refine go_iastore X dX12_expressed_299 trn63 tr63 hv54 kI_0 (fun M63 => ?_)
                                refine go_iinc (i := 5) (L' := fun v => [(5, .int (Ii v)), (0, .ref (base + 0)), (3, .int (Ii a3)), (4, .int (Ii v1)), (6, .int (Ii v55))]) X dX12_expressed_300 hv54 kI_1 (j := 3) rfl (by decide) (fun _ => rfl) (fun v64 hv64 => ?_)
                                refine go_goto (tgt := 327) X dX12_expressed_303 rfl ?_
                                refine go_sub [1, 2, 3, 0, 4] rfl ?_
                                exact hJ327_29 v64 v55 M63 hv64 hv55
                                )
                                (fun J289_59 hJ289_59 => ?_)
                            refine go_lt (fun J => ∀ (v65 : Int) (v66 : Int) (v67 : Int) (M68 : Mm), i32 v65 → i32 v66 → i32 v67 → Go p l e (rmO 3 73) s m args below meth c D TR 67 base 11 0 0 (FinI D TR 67 base below args s i32) M68 288 [(0, .ref (base + 0)), (3, .int (Ii a3)), (4, .int (Ii v1)), (5, .int (Ii v65)), (6, .int (Ii v66))] [.int (Ii v53), .ref (base + 24), .int (Ii v67), .ref (base + 62)] (J v65 v66 v67 M68)) (by
                                intro v65 v66 v67 M68 hv65 hv66 hv67
                                refine go_iconst (v := 1) X dX12_expressed_288 rfl ?_
                                exact hJ289_59 v65 v66 v67 1 M68 hv65 hv66 hv67 kI_1
                                )
                                (fun J288_69 hJ288_69 => ?_)
                            refine go_icmp_ne (tgt := 288) X dX12_expressed_276 rfl hv16 kI_13 (fun c70 => ?_) (fun c70 => ?_)
                            · refine go_sub [0, 1, 2, 3, 4] rfl ?_
                              exact hJ288_69 v38 v39 v38 M52 hv38 hv39 hv38
                            · refine go_iload X dX12_expressed_279 4 rfl ?_
                              refine go_if_ne (tgt := 288) X dX12_expressed_281 rfl hv39 (fun c71 => ?_) (fun c71 => ?_)
                              · refine go_sub [0, 1, 2, 3, 4] rfl ?_
                                exact hJ288_69 v38 v39 v38 M52 hv38 hv39 hv38
                              · refine go_iconst (v := 2) X dX12_expressed_284 rfl ?_
                                refine go_goto (tgt := 289) X dX12_expressed_285 rfl ?_
                                refine go_sub [0, 1, 2, 3, 4] rfl ?_
                                exact hJ289_59 v38 v39 v38 2 M52 hv38 hv39 hv38 kI_2
                        · refine go_iload X dX12_expressed_190 4 rfl ?_
                          refine go_sipush (v := 1000) X dX12_expressed_192 (by decide) ?_
                          refine go_lt (fun J => ∀ (v72 : Int) (v73 : Int) (M74 : Mm), i32 v72 → i32 v73 → Go p l e (rmO 3 73) s m args below meth c D TR 67 base 11 0 0 (FinI D TR 67 base below args s i32) M74 223 [(0, .ref (base + 0)), (3, .int (Ii a3)), (4, .int (Ii v1)), (5, .int (Ii v72))] [.int (Ii v73)] (J v72 v73 M74)) (by
                              intro v72 v73 M74 hv72 hv73
                              refine go_istore (i := 6) (L' := [(6, .int (Ii v73)), (0, .ref (base + 0)), (3, .int (Ii a3)), (4, .int (Ii v1)), (5, .int (Ii v72))]) X dX12_expressed_223 (by decide) rfl ?_
                              refine go_iinc (i := 5) (L' := fun v => [(5, .int (Ii v)), (6, .int (Ii v73)), (0, .ref (base + 0)), (3, .int (Ii a3)), (4, .int (Ii v1))]) X dX12_expressed_225 hv72 kI_m1 (j := 4) rfl (by decide) (fun _ => rfl) (fun v76 hv76 => ?_)
                              refine go_goto (tgt := 327) X dX12_expressed_228 rfl ?_
                              refine go_sub [2, 3, 4, 0, 1] rfl ?_
                              exact hJ327_29 v76 v73 M74 hv76 hv73
                              )
                              (fun J223_75 hJ223_75 => ?_)
                          refine go_icmp_ge (tgt := 202) X dX12_expressed_195 rfl hv39 kI_1000 (fun c77 => ?_) (fun c77 => ?_)
                          · refine go_aload_n X dX12_expressed_202 rfl 0 rfl ?_
                            refine go_aload_n X dX12_expressed_203 rfl 0 rfl ?_
                            refine go_iload X dX12_expressed_204 4 rfl ?_
                            refine go_sipush (v := 1000) X dX12_expressed_206 (by decide) ?_
                            refine go_isub X dX12_expressed_209 hv39 kI_1000 (fun v78 hv78 => ?_)
                            refine goI (fun H locs ls r ho hW hL => runV X (ok_X12_nodeAt l D base M40 v78 hv78 H.size r ho) dX12_expressed_210 lw1131 lw1132 lw1133 lw944 ⟨lw1126, cy_X12_nodeAt, Nat.le_of_ble_eq_true rfl, Nat.le_of_ble_eq_true rfl⟩ rfl trn0 tr0 rfl rfl rfl rfl (Nat.le_of_ble_eq_true rfl) hW hL hk0) (fun v80 M79 hv80 => ?_)
                            refine go_aload_n X dX12_expressed_213 rfl 0 rfl ?_
                            refine go_getc (i := 26) X fc12 dX12_expressed_214 trn0 tr0 (Nat.le_of_ble_eq_true rfl) rfl lw887 rfl ?_
                            refine go_iload X dX12_expressed_217 5 rfl ?_
                            refine go_iaload X dX12_expressed_219 trn22 tr22 hv15 (fun v81 hv81 => ?_)
                            refine goI (fun H locs ls r ho hW hL => runV X (ok_X12_looksAt l D base M79 v80 hv80 v81 hv81 H.size r ho) dX12_expressed_220 lw1122 lw1123 lw1124 lw944 ⟨lw1117, cy_X12_looksAt, Nat.le_of_ble_eq_true rfl, Nat.le_of_ble_eq_true rfl⟩ rfl trn0 tr0 rfl rfl rfl rfl (Nat.le_of_ble_eq_true rfl) hW hL hk0) (fun v83 M82 hv83 => ?_)
                            refine go_sub [0, 1, 2, 3] rfl ?_
                            exact hJ223_75 v38 v83 M82 hv38 hv83
                          · refine go_iconst (v := (-1)) X dX12_expressed_198 rfl ?_
                            refine go_goto (tgt := 223) X dX12_expressed_199 rfl ?_
                            refine go_sub [0, 1, 2, 3] rfl ?_
                            exact hJ223_75 v38 ((-1)) M40 hv38 kI_m1
                        )
                        (fun J183_41 hJ183_41 => ?_)
                    refine go_icmp_ne (tgt := 183) X dX12_expressed_167 rfl hv18 kI_2 (fun c84 => ?_) (fun c84 => ?_)
                    · refine go_sub [1, 2, 3, 4, 5, 6, 7, 8] rfl ?_
                      exact hJ183_41 v19 v20 M24 hv19 hv20
                    · refine go_iload X dX12_expressed_170 7 rfl ?_
                      refine go_bipush (v := 13) X dX12_expressed_172 (by decide) ?_
                      refine go_icmp_ne (tgt := 183) X dX12_expressed_174 rfl hv16 kI_13 (fun c85 => ?_) (fun c85 => ?_)
                      · refine go_sub [1, 2, 3, 4, 5, 6, 7, 8] rfl ?_
                        exact hJ183_41 v19 v20 M24 hv19 hv20
                      · refine go_sub [1, 2, 3, 4, 5] rfl ?_
                        exact hJ177_35 v19 v20 M24 hv19 hv20
                · refine go_aload_n X dX12_expressed_119 rfl 1 rfl ?_
                  refine go_getc (i := 83) X fc12 dX12_expressed_120 trn0 tr0 (Nat.le_of_ble_eq_true rfl) rfl lw930 rfl ?_
                  refine go_iload X dX12_expressed_123 4 rfl ?_
                  refine go_iconst (v := 1) X dX12_expressed_125 rfl ?_
                  refine go_isub X dX12_expressed_126 hv19 kI_1 (fun v86 hv86 => ?_)
                  refine go_iconst (v := 1) X dX12_expressed_127 rfl ?_
                  refine go_iastore X dX12_expressed_128 trn63 tr63 hv86 kI_1 (fun M87 => ?_)
                  refine go_aload_n X dX12_expressed_129 rfl 1 rfl ?_
                  refine go_getc (i := 82) X fc12 dX12_expressed_130 trn0 tr0 (Nat.le_of_ble_eq_true rfl) rfl lw929 rfl ?_
                  refine go_iload X dX12_expressed_133 4 rfl ?_
                  refine go_aload_n X dX12_expressed_135 rfl 1 rfl ?_
                  refine go_getc (i := 28) X fc12 dX12_expressed_136 trn0 tr0 (Nat.le_of_ble_eq_true rfl) rfl lw889 rfl ?_
                  refine go_iconst (v := 3) X dX12_expressed_139 rfl ?_
                  refine go_iload X dX12_expressed_140 6 rfl ?_
                  refine go_imul X dX12_expressed_142 kI_3 hv15 (fun v88 hv88 => ?_)
                  refine go_iaload X dX12_expressed_143 trn24 tr24 hv88 (fun v89 hv89 => ?_)
                  refine go_iastore X dX12_expressed_144 trn62 tr62 hv19 hv89 (fun M90 => ?_)
                  refine go_aload_n X dX12_expressed_145 rfl 1 rfl ?_
                  refine go_getc (i := 83) X fc12 dX12_expressed_146 trn0 tr0 (Nat.le_of_ble_eq_true rfl) rfl lw930 rfl ?_
                  refine go_iload X dX12_expressed_149 4 rfl ?_
                  refine go_iconst (v := 0) X dX12_expressed_151 rfl ?_
                  refine go_iastore X dX12_expressed_152 trn63 tr63 hv19 kI_0 (fun M91 => ?_)
                  refine go_iinc (i := 5) (L' := fun v => [(5, .int (Ii v)), (10, .int (Ii v21)), (0, .ref (base + 0)), (3, .int (Ii a3)), (4, .int (Ii v1)), (6, .int (Ii v20)), (7, .int (Ii v15)), (8, .int (Ii v16)), (9, .int (Ii v18))]) X dX12_expressed_153 hv19 kI_1 (j := 4) rfl (by decide) (fun _ => rfl) (fun v92 hv92 => ?_)
                  refine go_goto (tgt := 327) X dX12_expressed_156 rfl ?_
                  refine go_sub [2, 3, 4, 0, 5] rfl ?_
                  exact hJ327_29 v92 v20 M91 hv92 hv20
              · refine go_aload_n X dX12_expressed_97 rfl 1 rfl ?_
                refine go_iload X dX12_expressed_98 6 rfl ?_
                refine go_iload_n X dX12_expressed_100 rfl 2 rfl ?_
                refine go_iload X dX12_expressed_101 3 rfl ?_
                refine goI (fun H locs ls r ho hW hL => runV X (ok_X12_plain l D base M24 v15 hv15 a3 ha3 v1 hv1 H.size r ho) dX12_expressed_103 lw1128 lw1129 lw1130 lw944 ⟨lw1125, cy_X12_plain, Nat.le_of_ble_eq_true rfl, Nat.le_of_ble_eq_true rfl⟩ rfl trn0 tr0 rfl rfl rfl rfl (Nat.le_of_ble_eq_true rfl) hW hL hk0) (fun v94 M93 hv94 => ?_)
                refine go_istore (i := 6) (L' := [(6, .int (Ii v94)), (10, .int (Ii v21)), (0, .ref (base + 0)), (3, .int (Ii a3)), (4, .int (Ii v1)), (5, .int (Ii v19)), (7, .int (Ii v15)), (8, .int (Ii v16)), (9, .int (Ii v18))]) X dX12_expressed_106 (by decide) rfl ?_
                refine go_iinc (i := 5) (L' := fun v => [(5, .int (Ii v)), (6, .int (Ii v94)), (10, .int (Ii v21)), (0, .ref (base + 0)), (3, .int (Ii a3)), (4, .int (Ii v1)), (7, .int (Ii v15)), (8, .int (Ii v16)), (9, .int (Ii v18))]) X dX12_expressed_108 hv19 kI_m1 (j := 5) rfl (by decide) (fun _ => rfl) (fun v95 hv95 => ?_)
                refine go_goto (tgt := 327) X dX12_expressed_111 rfl ?_
                refine go_sub [3, 4, 5, 0, 1] rfl ?_
                exact hJ327_29 v95 v94 M93 hv95 hv94
              )
              (fun J87_23 hJ87_23 => ?_)
          refine go_lt (fun J => ∀ (v96 : Int) (v97 : Int) (M98 : Mm), i32 v96 → i32 v97 → Go p l e (rmO 3 73) s m args below meth c D TR 67 base 11 0 0 (FinI D TR 67 base below args s i32) M98 86 [(0, .ref (base + 0)), (3, .int (Ii a3)), (4, .int (Ii v1)), (5, .int (Ii v96)), (6, .int (Ii v97)), (7, .int (Ii v15)), (8, .int (Ii v16)), (9, .int (Ii v18))] [] (J v96 v97 M98)) (by
              intro v96 v97 M98 hv96 hv97
              refine go_iconst (v := 0) X dX12_expressed_86 rfl ?_
              exact hJ87_23 v96 v97 0 M98 hv96 hv97 (Or.inl rfl)
              )
              (fun J86_99 hJ86_99 => ?_)
          refine go_if_le (tgt := 86) X dX12_expressed_74 rfl hv18 (fun c100 => ?_) (fun c100 => ?_)
          · refine go_sub [3, 4, 5, 6, 7, 2, 1, 0] rfl ?_
            exact hJ86_99 v7 v8 M9 hv7 hv8
          · refine go_iload X dX12_expressed_77 7 rfl ?_
            refine go_if_ge (tgt := 86) X dX12_expressed_79 rfl hv8 (fun c101 => ?_) (fun c101 => ?_)
            · refine go_sub [3, 4, 5, 6, 7, 2, 1, 0] rfl ?_
              exact hJ86_99 v7 v8 M9 hv7 hv8
            · refine go_iconst (v := 1) X dX12_expressed_82 rfl ?_
              refine go_goto (tgt := 87) X dX12_expressed_83 rfl ?_
              refine go_sub [3, 4, 5, 6, 7, 2, 1, 0] rfl ?_
              exact hJ87_23 v7 v8 1 M9 hv7 hv8 (Or.inr rfl)
      )
      FU 1 ((-1)) M3 kI_1 kI_m1
def f_X12_gathers_L58_94 (J79_42 : Int → Int → Int → Mm → Rs) (rc58_90 : Int × Int × Int × Int × Mm → Rs) : Int × Int × Int × Int × Mm → Rs := fun (v85, v86, v87, v88, M89) =>
if 3 ≤ v88 then (
J79_42 v85 v86 v87 M89) else (
gd (0 ≤ v88 ∧ v88 < 3) <|
Lt (up M89 59 v88.toNat v88) fun M92 =>
Lt (wr (v88 + 1)) fun v93 =>
rc58_90 (v85, v86, v87, v93, M92))
def f_X12_gathers_L22_95 (a1 : Int) (a2 : Int) (J167_8 : Int → Mm → Rs) (J202_18 : Int → Int → Mm → Rs) (rc22_24 : Int × Int × Int × Mm → Rs) : Int × Int × Int × Mm → Rs := fun (v20, v21, v22, M23) =>
Lt (M23 0 19) fun v25 =>
if v25 ≤ v22 then (
J202_18 v20 v21 M23) else (
gd (0 ≤ v21 ∧ v21 < 30) <|
Lt (M23 31 v21.toNat) fun v27 =>
Cl (f_X12_counts v22 v27 a2 ((-2)) M23) fun v29 M28 =>
Lt (fun (v30 : Int) (v31 : Int) (v32 : Int) (M33 : Mm) => 
Lt (wr (v32 + 1)) fun v35 =>
rc22_24 (v30, v31, v35, M33)) fun J196_34 =>
if v29 = 0 then (
J196_34 v20 v21 v22 M28) else (
Lt (up M28 0 76 0) fun M37 =>
Lt (fun (v38 : Int) (v39 : Int) (v40 : Int) (M41 : Mm) => 
gd (0 ≤ v40 ∧ v40 < 30) <|
Lt (M41 25 v40.toNat) fun v43 =>
Cl (f_X12_expressed v40 v43 v39 M41) fun v45 M44 =>
gd (0 ≤ a1 ∧ a1 < 30) <|
Lt (M44 36 a1.toNat) fun v46 =>
Lt (wr (1000 + v46)) fun v47 =>
Lt (fun (v48 : Int) (v49 : Int) (v50 : Int) (v51 : Int) (M52 : Mm) => 
Lt (fun (v54 : Int) (v55 : Int) (v56 : Int) (v57 : Int) (M58 : Mm) => 
Lt (M58 0 72) fun v60 =>
if ¬ v60 = ((-1)) then (
J167_8 v57 M58) else (
if v57 = ((-2)) then (
J167_8 v57 M58) else (
if ¬ v57 = ((-3)) then (
Lt (fun (v64 : Int) (v65 : Int) (v66 : Int) (v67 : Int) (M68 : Mm) => 
Lt (wr (v66 + v67)) fun v70 =>
J196_34 v70 v64 v65 M68) fun J194_69 =>
Lt (fun (v71 : Int) (v72 : Int) (v73 : Int) (M74 : Mm) => 
J194_69 v71 v72 v73 0 M74) fun J193_75 =>
if v51 = 0 then (
J193_75 v55 v56 v54 M58) else (
Cl (f_X12_isIn v57 0 999 M58) fun v78 M77 =>
if v78 = 0 then (
J193_75 v55 v56 v54 M77) else (
J194_69 v55 v56 v54 v57 M77))) else (
J167_8 v57 M58)))) fun J143_59 =>
if v51 = 0 then (
J143_59 v48 v49 v50 v45 M52) else (
gd (0 ≤ v50 ∧ v50 < 30) <|
Lt (M52 26 v50.toNat) fun v81 =>
Cl (f_X12_expressed v50 v81 v49 M52) fun v83 M82 =>
J143_59 v48 v49 v50 v83 M82)) fun J116_53 =>
if ¬ v45 = v47 then (
J116_53 v38 v39 v40 0 M44) else (
J116_53 v38 v39 v40 1 M44)) fun J79_42 =>
Lp (f_X12_gathers_L58_94 J79_42) FU (v20, v21, v22, 0, M37)))
def f_X12_gathers_L10_96 (a1 : Int) (a2 : Int) (J208_4 : Int → Mm → Rs) (J167_8 : Int → Mm → Rs) (rc10_12 : Int × Int × Mm → Rs) : Int × Int × Mm → Rs := fun (v9, v10, M11) =>
Lt (M11 0 35) fun v13 =>
if v13 ≤ v10 then (
J208_4 v9 M11) else (
Lt (fun (v15 : Int) (v16 : Int) (M17 : Mm) => 
Lt (wr (v16 + 1)) fun v19 =>
rc10_12 (v15, v19, M17)) fun J202_18 =>
Lp (f_X12_gathers_L22_95 a1 a2 J167_8 J202_18) FU (v9, v10, 0, M11))
def f_X12_gathers (a1 : Int) (a2 : Int) (M : Mm) : Rs :=
Lt (up M 0 75 1) fun M1 =>
Lt (fun (v2 : Int) (M3 : Mm) => 
Lt (jrem v2 1000) fun v5 =>
some (v5, M3)) fun J208_4 =>
Lt (fun (v6 : Int) (M7 : Mm) => 
some (v6, M7)) fun J167_8 =>
Lp (f_X12_gathers_L10_96 a1 a2 J208_4 J167_8) FU (0, 0, M1)
theorem cy_X12_gathers : yX12_gathers.cls ≠ "java/lang/invoke/MethodHandle" ∧ yX12_gathers.cls ≠ "java/lang/invoke/VarHandle" ∧ (parseMethodDescriptor yX12_gathers.desc).map (fun d => d.parameters.length) = some 2 := ⟨by decide +kernel, by decide +kernel, by decide +kernel⟩
set_option maxRecDepth 20000 in
theorem ok_X12_gathers (l : Launch) (D : Dd) (base : Nat) (M : Mm) (a1 : Int) (ha1 : i32 a1) (a2 : Int) (ha2 : i32 a2) : OkI l D TR 67 base yX12_gathers cX12_gathers 8 (some .int) 4 103 [.ref (base + 0), .int (Ii a1), .int (Ii a2)] M i32 (f_X12_gathers a1 a2 M) := by
  refine metI (by decide +kernel) [(0, .ref (base + 0)), (1, .int (Ii a1)), (2, .int (Ii a2))] rfl (Nat.le_of_ble_eq_true rfl) (fun p e s m args below meth c X hrt hlk => ?_)
  have X : Cx p s m args c cX12_gathers D 8 RX12 := X
  unfold f_X12_gathers
  refine go_aload_n X dX12_gathers_0 rfl 0 rfl ?_
  refine go_iconst (v := 1) X dX12_gathers_1 rfl ?_
  refine go_putz (i := 75) X fc12 dX12_gathers_2 trn0 tr0 (Nat.le_of_ble_eq_true rfl) rfl lw1108 rfl rfl rfl (Or.inr rfl) (fun M1 => ?_)
  refine go_iconst (v := 0) X dX12_gathers_5 rfl ?_
  refine go_istore_n (i := 3) (L' := [(3, .int (Ii 0)), (0, .ref (base + 0)), (1, .int (Ii a1)), (2, .int (Ii a2))]) X dX12_gathers_6 rfl (by decide) rfl ?_
  refine go_iconst (v := 0) X dX12_gathers_7 rfl ?_
  refine go_istore (i := 4) (L' := [(4, .int (Ii 0)), (3, .int (Ii 0)), (0, .ref (base + 0)), (1, .int (Ii a1)), (2, .int (Ii a2))]) X dX12_gathers_8 (by decide) rfl ?_
  refine go_lt (fun J => ∀ (v2 : Int) (M3 : Mm), i32 v2 → Go p l e (rmO 4 103) s m args below meth c D TR 67 base 8 0 0 (FinI D TR 67 base below args s i32) M3 208 [(3, .int (Ii v2))] [] (J v2 M3)) (by
      intro v2 M3 hv2
      refine go_iload_n X dX12_gathers_208 rfl 0 rfl ?_
      refine go_sipush (v := 1000) X dX12_gathers_209 (by decide) ?_
      refine go_irem X dX12_gathers_212 hv2 kI_1000 (by decide) (fun v5 hv5 => ?_)
      exact go_ireturn X hrt hlk dX12_gathers_213 hv5
      )
      (fun J208_4 hJ208_4 => ?_)
  refine go_lt (fun J => ∀ (v6 : Int) (M7 : Mm), i32 v6 → Go p l e (rmO 4 103) s m args below meth c D TR 67 base 8 0 0 (FinI D TR 67 base below args s i32) M7 167 [(6, .int (Ii v6))] [] (J v6 M7)) (by
      intro v6 M7 hv6
      refine go_iload X dX12_gathers_167 0 rfl ?_
      exact go_ireturn X hrt hlk dX12_gathers_169 hv6
      )
      (fun J167_8 hJ167_8 => ?_)
  refine go_sub [2, 3, 4, 1, 0] rfl ?_
  exact go_lp (fun (rc : Int × Int × Mm → Rs) => ∀ (v9 : Int) (v10 : Int) (M11 : Mm), i32 v9 → i32 v10 → Go p l e (rmO 4 103) s m args below meth c D TR 67 base 8 0 0 (FinI D TR 67 base below args s i32) M11 10 [(0, .ref (base + 0)), (1, .int (Ii a1)), (2, .int (Ii a2)), (3, .int (Ii v9)), (4, .int (Ii v10))] [] (rc (v9, v10, M11)))
      (by intro v9 v10 M11 hv9 hv10; exact go_none)
      (by
      intro rc10_12 hrc10_12 v9 v10 M11 hv9 hv10
      unfold f_X12_gathers_L10_96
      dsimp only
      refine go_iload X dX12_gathers_10 4 rfl ?_
      refine go_aload_n X dX12_gathers_12 rfl 0 rfl ?_
      refine go_geti (i := 35) X fc12 dX12_gathers_13 trn0 tr0 (Nat.le_of_ble_eq_true rfl) rfl lw948 rfl (fun v13 hv13 => ?_)
      refine go_icmp_ge (tgt := 208) X dX12_gathers_16 rfl hv10 hv13 (fun c14 => ?_) (fun c14 => ?_)
      · refine go_sub [3] rfl ?_
        exact hJ208_4 v9 M11 hv9
      · refine go_iconst (v := 0) X dX12_gathers_19 rfl ?_
        refine go_istore (i := 5) (L' := [(5, .int (Ii 0)), (0, .ref (base + 0)), (1, .int (Ii a1)), (2, .int (Ii a2)), (3, .int (Ii v9)), (4, .int (Ii v10))]) X dX12_gathers_20 (by decide) rfl ?_
        refine go_lt (fun J => ∀ (v15 : Int) (v16 : Int) (M17 : Mm), i32 v15 → i32 v16 → Go p l e (rmO 4 103) s m args below meth c D TR 67 base 8 0 0 (FinI D TR 67 base below args s i32) M17 202 [(0, .ref (base + 0)), (1, .int (Ii a1)), (2, .int (Ii a2)), (3, .int (Ii v15)), (4, .int (Ii v16))] [] (J v15 v16 M17)) (by
            intro v15 v16 M17 hv15 hv16
            refine go_iinc (i := 4) (L' := fun v => [(4, .int (Ii v)), (0, .ref (base + 0)), (1, .int (Ii a1)), (2, .int (Ii a2)), (3, .int (Ii v15))]) X dX12_gathers_202 hv16 kI_1 (j := 4) rfl (by decide) (fun _ => rfl) (fun v19 hv19 => ?_)
            refine go_goto (tgt := 10) X dX12_gathers_205 rfl ?_
            refine go_sub [1, 2, 3, 4, 0] rfl ?_
            exact hrc10_12 v15 v19 M17 hv15 hv19
            )
            (fun J202_18 hJ202_18 => ?_)
        refine go_sub [1, 2, 3, 4, 5, 0] rfl ?_
        exact go_lp (fun (rc : Int × Int × Int × Mm → Rs) => ∀ (v20 : Int) (v21 : Int) (v22 : Int) (M23 : Mm), i32 v20 → i32 v21 → i32 v22 → Go p l e (rmO 4 103) s m args below meth c D TR 67 base 8 0 0 (FinI D TR 67 base below args s i32) M23 22 [(0, .ref (base + 0)), (1, .int (Ii a1)), (2, .int (Ii a2)), (3, .int (Ii v20)), (4, .int (Ii v21)), (5, .int (Ii v22))] [] (rc (v20, v21, v22, M23)))
            (by intro v20 v21 v22 M23 hv20 hv21 hv22; exact go_none)
            (by
            intro rc22_24 hrc22_24 v20 v21 v22 M23 hv20 hv21 hv22
            unfold f_X12_gathers_L22_95
            dsimp only
            refine go_iload X dX12_gathers_22 5 rfl ?_
            refine go_aload_n X dX12_gathers_24 rfl 0 rfl ?_
            refine go_geti (i := 19) X fc12 dX12_gathers_25 trn0 tr0 (Nat.le_of_ble_eq_true rfl) rfl lw987 rfl (fun v25 hv25 => ?_)
            refine go_icmp_ge (tgt := 202) X dX12_gathers_28 rfl hv22 hv25 (fun c26 => ?_) (fun c26 => ?_)
            · refine go_sub [0, 1, 2, 3, 4] rfl ?_
              exact hJ202_18 v20 v21 M23 hv20 hv21
            · refine go_aload_n X dX12_gathers_31 rfl 0 rfl ?_
              refine go_iload X dX12_gathers_32 5 rfl ?_
              refine go_aload_n X dX12_gathers_34 rfl 0 rfl ?_
              refine go_getc (i := 38) X fc12 dX12_gathers_35 trn0 tr0 (Nat.le_of_ble_eq_true rfl) rfl lw897 rfl ?_
              refine go_iload X dX12_gathers_38 4 rfl ?_
              refine go_iaload X dX12_gathers_40 trn31 tr31 hv21 (fun v27 hv27 => ?_)
              refine go_iload_n X dX12_gathers_41 rfl 2 rfl ?_
              refine go_bipush (v := (-2)) X dX12_gathers_42 (by decide) ?_
              refine goI (fun H locs ls r ho hW hL => runV X (ok_X12_counts l D base M23 v22 hv22 v27 hv27 a2 ha2 ((-2)) kI_m2 H.size r ho) dX12_gathers_44 lw995 lw996 lw997 lw944 ⟨lw993, cy_X12_counts, Nat.le_of_ble_eq_true rfl, Nat.le_of_ble_eq_true rfl⟩ rfl trn0 tr0 rfl rfl rfl rfl (Nat.le_of_ble_eq_true rfl) hW hL hk0) (fun v29 M28 hv29 => ?_)
              refine go_lt (fun J => ∀ (v30 : Int) (v31 : Int) (v32 : Int) (M33 : Mm), i32 v30 → i32 v31 → i32 v32 → Go p l e (rmO 4 103) s m args below meth c D TR 67 base 8 0 0 (FinI D TR 67 base below args s i32) M33 196 [(0, .ref (base + 0)), (1, .int (Ii a1)), (2, .int (Ii a2)), (3, .int (Ii v30)), (4, .int (Ii v31)), (5, .int (Ii v32))] [] (J v30 v31 v32 M33)) (by
                  intro v30 v31 v32 M33 hv30 hv31 hv32
                  refine go_iinc (i := 5) (L' := fun v => [(5, .int (Ii v)), (0, .ref (base + 0)), (1, .int (Ii a1)), (2, .int (Ii a2)), (3, .int (Ii v30)), (4, .int (Ii v31))]) X dX12_gathers_196 hv32 kI_1 (j := 5) rfl (by decide) (fun _ => rfl) (fun v35 hv35 => ?_)
                  refine go_goto (tgt := 22) X dX12_gathers_199 rfl ?_
                  refine go_sub [1, 2, 3, 4, 5, 0] rfl ?_
                  exact hrc22_24 v30 v31 v35 M33 hv30 hv31 hv35
                  )
                  (fun J196_34 hJ196_34 => ?_)
              refine go_if_eq (tgt := 196) X dX12_gathers_47 rfl (bo_i32 hv29) (fun c36 => ?_) (fun c36 => ?_)
              · exact hJ196_34 v20 v21 v22 M28 hv20 hv21 hv22
              · refine go_aload_n X dX12_gathers_50 rfl 0 rfl ?_
                refine go_iconst (v := 0) X dX12_gathers_51 rfl ?_
                refine go_putz (i := 76) X fc12 dX12_gathers_52 trn0 tr0 (Nat.le_of_ble_eq_true rfl) rfl lw1004 rfl rfl rfl (Or.inl rfl) (fun M37 => ?_)
                refine go_iconst (v := 0) X dX12_gathers_55 rfl ?_
                refine go_istore (i := 6) (L' := [(6, .int (Ii 0)), (0, .ref (base + 0)), (1, .int (Ii a1)), (2, .int (Ii a2)), (3, .int (Ii v20)), (4, .int (Ii v21)), (5, .int (Ii v22))]) X dX12_gathers_56 (by decide) rfl ?_
                refine go_lt (fun J => ∀ (v38 : Int) (v39 : Int) (v40 : Int) (M41 : Mm), i32 v38 → i32 v39 → i32 v40 → Go p l e (rmO 4 103) s m args below meth c D TR 67 base 8 0 0 (FinI D TR 67 base below args s i32) M41 79 [(0, .ref (base + 0)), (1, .int (Ii a1)), (2, .int (Ii a2)), (3, .int (Ii v38)), (4, .int (Ii v39)), (5, .int (Ii v40))] [] (J v38 v39 v40 M41)) (by
                    intro v38 v39 v40 M41 hv38 hv39 hv40
                    refine go_aload_n X dX12_gathers_79 rfl 0 rfl ?_
                    refine go_iload X dX12_gathers_80 5 rfl ?_
                    refine go_aload_n X dX12_gathers_82 rfl 0 rfl ?_
                    refine go_getc (i := 29) X fc12 dX12_gathers_83 trn0 tr0 (Nat.le_of_ble_eq_true rfl) rfl lw890 rfl ?_
                    refine go_iload X dX12_gathers_86 5 rfl ?_
                    refine go_iaload X dX12_gathers_88 trn25 tr25 hv40 (fun v43 hv43 => ?_)
                    refine go_iload X dX12_gathers_89 4 rfl ?_
                    refine goI (fun H locs ls r ho hW hL => runV X (ok_X12_expressed l D base M41 v40 hv40 v43 hv43 v39 hv39 H.size r ho) dX12_gathers_91 lw1137 lw1138 lw1139 lw944 ⟨lw1136, cy_X12_expressed, Nat.le_of_ble_eq_true rfl, Nat.le_of_ble_eq_true rfl⟩ rfl trn0 tr0 rfl rfl rfl rfl (Nat.le_of_ble_eq_true rfl) hW hL hk0) (fun v45 M44 hv45 => ?_)
                    refine go_istore (i := 6) (L' := [(6, .int (Ii v45)), (0, .ref (base + 0)), (1, .int (Ii a1)), (2, .int (Ii a2)), (3, .int (Ii v38)), (4, .int (Ii v39)), (5, .int (Ii v40))]) X dX12_gathers_94 (by decide) rfl ?_
                    refine go_iload X dX12_gathers_96 0 rfl ?_
                    refine go_sipush (v := 1000) X dX12_gathers_98 (by decide) ?_
                    refine go_aload_n X dX12_gathers_101 rfl 1 rfl ?_
                    refine go_getc (i := 43) X fc12 dX12_gathers_102 trn0 tr0 (Nat.le_of_ble_eq_true rfl) rfl lw902 rfl ?_
                    refine go_iload_n X dX12_gathers_105 rfl 2 rfl ?_
                    refine go_iaload X dX12_gathers_106 trn36 tr36 ha1 (fun v46 hv46 => ?_)
                    refine go_iadd X dX12_gathers_107 kI_1000 hv46 (fun v47 hv47 => ?_)
                    refine go_lt (fun J => ∀ (v48 : Int) (v49 : Int) (v50 : Int) (v51 : Int) (M52 : Mm), i32 v48 → i32 v49 → i32 v50 → bo v51 → Go p l e (rmO 4 103) s m args below meth c D TR 67 base 8 0 0 (FinI D TR 67 base below args s i32) M52 116 [(0, .ref (base + 0)), (1, .int (Ii a1)), (2, .int (Ii a2)), (3, .int (Ii v48)), (4, .int (Ii v49)), (5, .int (Ii v50)), (6, .int (Ii v45))] [.int (Ii v51)] (J v48 v49 v50 v51 M52)) (by
                        intro v48 v49 v50 v51 M52 hv48 hv49 hv50 hv51
                        refine go_istore (i := 7) (L' := [(7, .int (Ii v51)), (0, .ref (base + 0)), (1, .int (Ii a1)), (2, .int (Ii a2)), (3, .int (Ii v48)), (4, .int (Ii v49)), (5, .int (Ii v50)), (6, .int (Ii v45))]) X dX12_gathers_116 (by decide) rfl ?_
                        refine go_iload X dX12_gathers_118 0 rfl ?_
                        refine go_lt (fun J => ∀ (v54 : Int) (v55 : Int) (v56 : Int) (v57 : Int) (M58 : Mm), i32 v54 → i32 v55 → i32 v56 → i32 v57 → Go p l e (rmO 4 103) s m args below meth c D TR 67 base 8 0 0 (FinI D TR 67 base below args s i32) M58 143 [(0, .ref (base + 0)), (1, .int (Ii a1)), (2, .int (Ii a2)), (3, .int (Ii v54)), (4, .int (Ii v55)), (5, .int (Ii v56)), (7, .int (Ii v51))] [.int (Ii v57)] (J v54 v55 v56 v57 M58)) (by
                            intro v54 v55 v56 v57 M58 hv54 hv55 hv56 hv57
                            refine go_istore (i := 6) (L' := [(6, .int (Ii v57)), (0, .ref (base + 0)), (1, .int (Ii a1)), (2, .int (Ii a2)), (3, .int (Ii v54)), (4, .int (Ii v55)), (5, .int (Ii v56)), (7, .int (Ii v51))]) X dX12_gathers_143 (by decide) rfl ?_
                            refine go_aload_n X dX12_gathers_145 rfl 1 rfl ?_
                            refine go_geti (i := 72) X fc12 dX12_gathers_146 trn0 tr0 (Nat.le_of_ble_eq_true rfl) rfl lw1105 rfl (fun v60 hv60 => ?_)
                            refine go_iconst (v := (-1)) X dX12_gathers_149 rfl ?_
                            refine go_icmp_ne (tgt := 167) X dX12_gathers_150 rfl hv60 kI_m1 (fun c61 => ?_) (fun c61 => ?_)
                            · refine go_sub [0] rfl ?_
                              exact hJ167_8 v57 M58 hv57
                            · refine go_iload X dX12_gathers_153 0 rfl ?_
                              refine go_bipush (v := (-2)) X dX12_gathers_155 (by decide) ?_
                              refine go_icmp_eq (tgt := 167) X dX12_gathers_157 rfl hv57 kI_m2 (fun c62 => ?_) (fun c62 => ?_)
                              · refine go_sub [0] rfl ?_
                                exact hJ167_8 v57 M58 hv57
                              · refine go_iload X dX12_gathers_160 0 rfl ?_
                                refine go_bipush (v := (-3)) X dX12_gathers_162 (by decide) ?_
                                refine go_icmp_ne (tgt := 170) X dX12_gathers_164 rfl hv57 kI_m3 (fun c63 => ?_) (fun c63 => ?_)
                                · refine go_iload_n X dX12_gathers_170 rfl 4 rfl ?_
                                  refine go_iload X dX12_gathers_171 7 rfl ?_
                                  refine go_lt (fun J => ∀ (v64 : Int) (v65 : Int) (v66 : Int) (v67 : Int) (M68 : Mm), i32 v64 → i32 v65 → i32 v66 → i32 v67 → Go p l e (rmO 4 103) s m args below meth c D TR 67 base 8 0 0 (FinI D TR 67 base below args s i32) M68 194 [(0, .ref (base + 0)), (1, .int (Ii a1)), (2, .int (Ii a2)), (4, .int (Ii v64)), (5, .int (Ii v65))] [.int (Ii v67), .int (Ii v66)] (J v64 v65 v66 v67 M68)) (by
                                      intro v64 v65 v66 v67 M68 hv64 hv65 hv66 hv67
                                      refine go_iadd X dX12_gathers_194 hv66 hv67 (fun v70 hv70 => ?_)
                                      refine go_istore_n (i := 3) (L' := [(3, .int (Ii v70)), (0, .ref (base + 0)), (1, .int (Ii a1)), (2, .int (Ii a2)), (4, .int (Ii v64)), (5, .int (Ii v65))]) X dX12_gathers_195 rfl (by decide) rfl ?_
                                      refine go_sub [1, 2, 3, 0, 4, 5] rfl ?_
                                      exact hJ196_34 v70 v64 v65 M68 hv70 hv64 hv65
                                      )
                                      (fun J194_69 hJ194_69 => ?_)
                                  refine go_lt (fun J => ∀ (v71 : Int) (v72 : Int) (v73 : Int) (M74 : Mm), i32 v71 → i32 v72 → i32 v73 → Go p l e (rmO 4 103) s m args below meth c D TR 67 base 8 0 0 (FinI D TR 67 base below args s i32) M74 193 [(0, .ref (base + 0)), (1, .int (Ii a1)), (2, .int (Ii a2)), (4, .int (Ii v71)), (5, .int (Ii v72))] [.int (Ii v73)] (J v71 v72 v73 M74)) (by
                                      intro v71 v72 v73 M74 hv71 hv72 hv73
                                      refine go_iconst (v := 0) X dX12_gathers_193 rfl ?_
                                      exact hJ194_69 v71 v72 v73 0 M74 hv71 hv72 hv73 kI_0
                                      )
                                      (fun J193_75 hJ193_75 => ?_)
                                  refine go_if_eq (tgt := 193) X dX12_gathers_173 rfl (bo_i32 hv51) (fun c76 => ?_) (fun c76 => ?_)
                                  · refine go_sub [1, 2, 3, 5, 6] rfl ?_
                                    exact hJ193_75 v55 v56 v54 M58 hv55 hv56 hv54
                                  · refine go_iload X dX12_gathers_176 0 rfl ?_
                                    refine go_iconst (v := 0) X dX12_gathers_178 rfl ?_
                                    refine go_sipush (v := 999) X dX12_gathers_179 (by decide) ?_
                                    refine goI (fun H locs ls r ho hW hL => runS X (ok_X12_isIn l D base M58 v57 hv57 0 kI_0 999 kI_999 H.size r ho) dX12_gathers_182 lw942 lw943 lw944 ⟨lw939, cy_X12_isIn, Nat.le_of_ble_eq_true rfl, Nat.le_of_ble_eq_true rfl⟩ rfl rfl (Nat.le_of_ble_eq_true rfl) hW hL hk0) (fun v78 M77 hv78 => ?_)
                                    refine go_if_eq (tgt := 193) X dX12_gathers_185 rfl (bo_i32 hv78) (fun c79 => ?_) (fun c79 => ?_)
                                    · refine go_sub [1, 2, 3, 5, 6] rfl ?_
                                      exact hJ193_75 v55 v56 v54 M77 hv55 hv56 hv54
                                    · refine go_iload X dX12_gathers_188 0 rfl ?_
                                      refine go_goto (tgt := 194) X dX12_gathers_190 rfl ?_
                                      refine go_sub [1, 2, 3, 5, 6] rfl ?_
                                      exact hJ194_69 v55 v56 v54 v57 M77 hv55 hv56 hv54 hv57
                                · refine go_sub [0] rfl ?_
                                  exact hJ167_8 v57 M58 hv57
                            )
                            (fun J143_59 hJ143_59 => ?_)
                        refine go_if_eq (tgt := 141) X dX12_gathers_120 rfl (bo_i32 hv51) (fun c80 => ?_) (fun c80 => ?_)
                        · refine go_iload X dX12_gathers_141 7 rfl ?_
                          refine go_sub [1, 2, 3, 4, 5, 6, 0] rfl ?_
                          exact hJ143_59 v48 v49 v50 v45 M52 hv48 hv49 hv50 hv45
                        · refine go_aload_n X dX12_gathers_123 rfl 1 rfl ?_
                          refine go_iload X dX12_gathers_124 6 rfl ?_
                          refine go_aload_n X dX12_gathers_126 rfl 1 rfl ?_
                          refine go_getc (i := 30) X fc12 dX12_gathers_127 trn0 tr0 (Nat.le_of_ble_eq_true rfl) rfl lw891 rfl ?_
                          refine go_iload X dX12_gathers_130 6 rfl ?_
                          refine go_iaload X dX12_gathers_132 trn26 tr26 hv50 (fun v81 hv81 => ?_)
                          refine go_iload X dX12_gathers_133 5 rfl ?_
                          refine goI (fun H locs ls r ho hW hL => runV X (ok_X12_expressed l D base M52 v50 hv50 v81 hv81 v49 hv49 H.size r ho) dX12_gathers_135 lw1137 lw1138 lw1139 lw944 ⟨lw1136, cy_X12_expressed, Nat.le_of_ble_eq_true rfl, Nat.le_of_ble_eq_true rfl⟩ rfl trn0 tr0 rfl rfl rfl rfl (Nat.le_of_ble_eq_true rfl) hW hL hk0) (fun v83 M82 hv83 => ?_)
                          refine go_goto (tgt := 143) X dX12_gathers_138 rfl ?_
                          refine go_sub [1, 2, 3, 4, 5, 6, 0] rfl ?_
                          exact hJ143_59 v48 v49 v50 v83 M82 hv48 hv49 hv50 hv83
                        )
                        (fun J116_53 hJ116_53 => ?_)
                    refine go_icmp_ne (tgt := 115) X dX12_gathers_108 rfl hv45 hv47 (fun c84 => ?_) (fun c84 => ?_)
                    · refine go_iconst (v := 0) X dX12_gathers_115 rfl ?_
                      refine go_sub [1, 2, 3, 4, 5, 6, 0] rfl ?_
                      exact hJ116_53 v38 v39 v40 0 M44 hv38 hv39 hv40 (Or.inl rfl)
                    · refine go_iconst (v := 1) X dX12_gathers_111 rfl ?_
                      refine go_goto (tgt := 116) X dX12_gathers_112 rfl ?_
                      refine go_sub [1, 2, 3, 4, 5, 6, 0] rfl ?_
                      exact hJ116_53 v38 v39 v40 1 M44 hv38 hv39 hv40 (Or.inr rfl)
                    )
                    (fun J79_42 hJ79_42 => ?_)
                refine go_sub [1, 2, 3, 4, 5, 6, 0] rfl ?_
                exact go_lp (fun (rc : Int × Int × Int × Int × Mm → Rs) => ∀ (v85 : Int) (v86 : Int) (v87 : Int) (v88 : Int) (M89 : Mm), i32 v85 → i32 v86 → i32 v87 → i32 v88 → Go p l e (rmO 4 103) s m args below meth c D TR 67 base 8 0 0 (FinI D TR 67 base below args s i32) M89 58 [(0, .ref (base + 0)), (1, .int (Ii a1)), (2, .int (Ii a2)), (3, .int (Ii v85)), (4, .int (Ii v86)), (5, .int (Ii v87)), (6, .int (Ii v88))] [] (rc (v85, v86, v87, v88, M89)))
                    (by intro v85 v86 v87 v88 M89 hv85 hv86 hv87 hv88; exact go_none)
                    (by
                    intro rc58_90 hrc58_90 v85 v86 v87 v88 M89 hv85 hv86 hv87 hv88
                    unfold f_X12_gathers_L58_94
                    dsimp only
                    refine go_iload X dX12_gathers_58 6 rfl ?_
                    refine go_iconst (v := 3) X dX12_gathers_60 rfl ?_
                    refine go_icmp_ge (tgt := 79) X dX12_gathers_61 rfl hv88 kI_3 (fun c91 => ?_) (fun c91 => ?_)
                    · refine go_sub [0, 1, 2, 3, 4, 5] rfl ?_
                      exact hJ79_42 v85 v86 v87 M89 hv85 hv86 hv87
                    · refine go_aload_n X dX12_gathers_64 rfl 0 rfl ?_
                      refine go_getc (i := 77) X fc12 dX12_gathers_65 trn0 tr0 (Nat.le_of_ble_eq_true rfl) rfl lw926 rfl ?_
                      refine go_iload X dX12_gathers_68 6 rfl ?_
                      refine go_iload X dX12_gathers_70 6 rfl ?_
                      refine go_iastore X dX12_gathers_72 trn59 tr59 hv88 hv88 (fun M92 => ?_)
                      refine go_iinc (i := 6) (L' := fun v => [(6, .int (Ii v)), (0, .ref (base + 0)), (1, .int (Ii a1)), (2, .int (Ii a2)), (3, .int (Ii v85)), (4, .int (Ii v86)), (5, .int (Ii v87))]) X dX12_gathers_73 hv88 kI_1 (j := 6) rfl (by decide) (fun _ => rfl) (fun v93 hv93 => ?_)
                      refine go_goto (tgt := 58) X dX12_gathers_76 rfl ?_
                      refine go_sub [1, 2, 3, 4, 5, 6, 0] rfl ?_
                      exact hrc58_90 v85 v86 v87 v93 M92 hv85 hv86 hv87 hv93
                    )
                    FU v20 v21 v22 0 M37 hv20 hv21 hv22 kI_0
            )
            FU v9 v10 0 M11 hv9 hv10 kI_0
      )
      FU 0 0 M1 kI_0 kI_0
def f_X12_tries (a1 : Int) (a2 : Int) (M : Mm) : Rs :=
Lt (up M 0 72 ((-1))) fun M1 =>
gd (0 ≤ a1 ∧ a1 < 30) <|
Lt (M1 36 a1.toNat) fun v2 =>
Lt (lshl_ 1 v2) fun v3 =>
Lt (up M1 0 74 v3) fun M4 =>
Lt (up M4 0 75 0) fun M5 =>
Lt (M5 0 79) fun v6 =>
Lt (fun (v7 : Int) (M8 : Mm) => 
Lt (up M8 0 80 v7) fun M10 =>
gd (0 ≤ a2 ∧ a2 < 6) <|
Lt (M10 12 a2.toNat) fun v11 =>
if ¬ v11 = 2 then (
gd (0 ≤ a2 ∧ a2 < 6) <|
Lt (M10 12 a2.toNat) fun v13 =>
Lt (fun (v14 : Int) (v15 : Int) (M16 : Mm) => 
gd (0 ≤ v14 ∧ v14 < 30) <|
Lt (M16 31 v14.toNat) fun v18 =>
Cl (f_X12_equationFor v18 a2 v15 M16) fun v20 M19 =>
if ¬ v20 = ((-3)) then (
if ¬ v20 = ((-1)) then (
gd (0 ≤ v20 ∧ v20 < 30) <|
Lt (M19 25 v20.toNat) fun v23 =>
Cl (f_X12_expressed v20 v23 v14 M19) fun v25 M24 =>
some (v25, M24)) else (
gd (0 ≤ a2 ∧ a2 < 6) <|
Lt (M19 12 a2.toNat) fun v26 =>
Lt (fun (v27 : Int) (M28 : Mm) => 
some (v27, M28)) fun J171_29 =>
if ¬ v26 = 1 then (
J171_29 ((-1)) M19) else (
Cl (f_X12_looksAt v14 a2 M19) fun v32 M31 =>
J171_29 v32 M31))) else (
some ((-3), M19))) fun J120_17 =>
if ¬ v13 = 1 then (
J120_17 a1 ((-1)) M10) else (
gd (0 ≤ a1 ∧ a1 < 30) <|
Lt (M10 32 a1.toNat) fun v34 =>
gd (0 ≤ a1 ∧ a1 < 30) <|
Lt (M10 33 a1.toNat) fun v35 =>
if ¬ v34 = ((-1)) then (
Lt (M10 0 74) fun v37 =>
gd (0 ≤ v34 ∧ v34 < 30) <|
Lt (M10 36 v34.toNat) fun v38 =>
Lt (lshl_ 1 v38) fun v39 =>
Lt (lor_ v37 v39) fun v40 =>
Lt (up M10 0 74 v40) fun M41 =>
J120_17 v34 v35 M41) else (
some ((-1), M10)))) else (
Cl (f_X12_gathers a1 a2 M10) fun v43 M42 =>
some (v43, M42))) fun J46_9 =>
Lt (fun (M44 : Mm) => 
Lt (M44 0 80) fun v46 =>
J46_9 v46 M44) fun J42_45 =>
if v6 = 0 then (
J42_45 M5) else (
Lt (M5 0 69) fun v48 =>
if ¬ v48 = 1 then (
J42_45 M5) else (
J46_9 0 M5))
theorem cy_X12_tries : yX12_tries.cls ≠ "java/lang/invoke/MethodHandle" ∧ yX12_tries.cls ≠ "java/lang/invoke/VarHandle" ∧ (parseMethodDescriptor yX12_tries.desc).map (fun d => d.parameters.length) = some 2 := ⟨by decide +kernel, by decide +kernel, by decide +kernel⟩
set_option maxRecDepth 20000 in
theorem ok_X12_tries (l : Launch) (D : Dd) (base : Nat) (M : Mm) (a1 : Int) (ha1 : i32 a1) (a2 : Int) (ha2 : i32 a2) : OkI l D TR 67 base yX12_tries cX12_tries 6 (some .int) 5 130 [.ref (base + 0), .int (Ii a1), .int (Ii a2)] M i32 (f_X12_tries a1 a2 M) := by
  refine metI (by decide +kernel) [(0, .ref (base + 0)), (1, .int (Ii a1)), (2, .int (Ii a2))] rfl (Nat.le_of_ble_eq_true rfl) (fun p e s m args below meth c X hrt hlk => ?_)
  have X : Cx p s m args c cX12_tries D 6 RX12 := X
  unfold f_X12_tries
  refine go_aload_n X dX12_tries_0 rfl 0 rfl ?_
  refine go_iconst (v := (-1)) X dX12_tries_1 rfl ?_
  refine go_puti (i := 72) X fc12 dX12_tries_2 trn0 tr0 (Nat.le_of_ble_eq_true rfl) rfl lw1105 rfl rfl rfl kI_m1 (fun M1 => ?_)
  refine go_aload_n X dX12_tries_5 rfl 0 rfl ?_
  refine go_lconst (v := 1) X dX12_tries_6 rfl ?_
  refine go_aload_n X dX12_tries_7 rfl 0 rfl ?_
  refine go_getc (i := 43) X fc12 dX12_tries_8 trn0 tr0 (Nat.le_of_ble_eq_true rfl) rfl lw902 rfl ?_
  refine go_iload_n X dX12_tries_11 rfl 1 rfl ?_
  refine go_iaload X dX12_tries_12 trn36 tr36 ha1 (fun v2 hv2 => ?_)
  refine go_lshl X dX12_tries_13 (by decide) hv2 (fun v3 hv3 => ?_)
  refine go_putl (i := 74) X fc12 dX12_tries_14 trn0 tr0 (Nat.le_of_ble_eq_true rfl) rfl lw1109 rfl rfl rfl hv3 (fun M4 => ?_)
  refine go_aload_n X dX12_tries_17 rfl 0 rfl ?_
  refine go_iconst (v := 0) X dX12_tries_18 rfl ?_
  refine go_putz (i := 75) X fc12 dX12_tries_19 trn0 tr0 (Nat.le_of_ble_eq_true rfl) rfl lw1108 rfl rfl rfl (Or.inl rfl) (fun M5 => ?_)
  refine go_aload_n X dX12_tries_22 rfl 0 rfl ?_
  refine go_aload_n X dX12_tries_23 rfl 0 rfl ?_
  refine go_getz (i := 79) X fc12 dX12_tries_24 trn0 tr0 (Nat.le_of_ble_eq_true rfl) rfl lw1106 rfl (fun v6 hv6 => ?_)
  refine go_lt (fun J => ∀ (v7 : Int) (M8 : Mm), i32 v7 → Go p l e (rmO 5 130) s m args below meth c D TR 67 base 6 0 0 (FinI D TR 67 base below args s i32) M8 46 [(0, .ref (base + 0)), (1, .int (Ii a1)), (2, .int (Ii a2))] [.int (Ii v7), .ref (base + 0)] (J v7 M8)) (by
      intro v7 M8 hv7
      refine go_puti (i := 80) X fc12 dX12_tries_46 trn0 tr0 (Nat.le_of_ble_eq_true rfl) rfl lw1104 rfl rfl rfl hv7 (fun M10 => ?_)
      refine go_aload_n X dX12_tries_49 rfl 0 rfl ?_
      refine go_getc (i := 13) X fc12 dX12_tries_50 trn0 tr0 (Nat.le_of_ble_eq_true rfl) rfl lw877 rfl ?_
      refine go_iload_n X dX12_tries_53 rfl 2 rfl ?_
      refine go_iaload X dX12_tries_54 trn12 tr12 ha2 (fun v11 hv11 => ?_)
      refine go_iconst (v := 2) X dX12_tries_55 rfl ?_
      refine go_icmp_ne (tgt := 66) X dX12_tries_56 rfl hv11 kI_2 (fun c12 => ?_) (fun c12 => ?_)
      · refine go_iload_n X dX12_tries_66 rfl 1 rfl ?_
        refine go_istore_n (i := 3) (L' := [(3, .int (Ii a1)), (0, .ref (base + 0)), (1, .int (Ii a1)), (2, .int (Ii a2))]) X dX12_tries_67 rfl (by decide) rfl ?_
        refine go_iconst (v := (-1)) X dX12_tries_68 rfl ?_
        refine go_istore (i := 4) (L' := [(4, .int (Ii ((-1)))), (3, .int (Ii a1)), (0, .ref (base + 0)), (1, .int (Ii a1)), (2, .int (Ii a2))]) X dX12_tries_69 (by decide) rfl ?_
        refine go_aload_n X dX12_tries_71 rfl 2 rfl ?_
        refine go_getc (i := 13) X fc12 dX12_tries_72 trn0 tr0 (Nat.le_of_ble_eq_true rfl) rfl lw877 rfl ?_
        refine go_iload_n X dX12_tries_75 rfl 4 rfl ?_
        refine go_iaload X dX12_tries_76 trn12 tr12 ha2 (fun v13 hv13 => ?_)
        refine go_iconst (v := 1) X dX12_tries_77 rfl ?_
        refine go_lt (fun J => ∀ (v14 : Int) (v15 : Int) (M16 : Mm), i32 v14 → i32 v15 → Go p l e (rmO 5 130) s m args below meth c D TR 67 base 6 0 0 (FinI D TR 67 base below args s i32) M16 120 [(0, .ref (base + 0)), (2, .int (Ii a2)), (3, .int (Ii v14)), (4, .int (Ii v15))] [] (J v14 v15 M16)) (by
            intro v14 v15 M16 hv14 hv15
            refine go_aload_n X dX12_tries_120 rfl 0 rfl ?_
            refine go_aload_n X dX12_tries_121 rfl 0 rfl ?_
            refine go_getc (i := 38) X fc12 dX12_tries_122 trn0 tr0 (Nat.le_of_ble_eq_true rfl) rfl lw897 rfl ?_
            refine go_iload_n X dX12_tries_125 rfl 2 rfl ?_
            refine go_iaload X dX12_tries_126 trn31 tr31 hv14 (fun v18 hv18 => ?_)
            refine go_iload_n X dX12_tries_127 rfl 1 rfl ?_
            refine go_iload X dX12_tries_128 3 rfl ?_
            refine goI (fun H locs ls r ho hW hL => runV X (ok_X12_equationFor l D base M16 v18 hv18 a2 ha2 v15 hv15 H.size r ho) dX12_tries_130 lw1144 lw1145 lw1146 lw944 ⟨lw1015, cy_X12_equationFor, Nat.le_of_ble_eq_true rfl, Nat.le_of_ble_eq_true rfl⟩ rfl trn0 tr0 rfl rfl rfl rfl (Nat.le_of_ble_eq_true rfl) hW hL hk0) (fun v20 M19 hv20 => ?_)
            refine go_istore (i := 5) (L' := [(5, .int (Ii v20)), (0, .ref (base + 0)), (2, .int (Ii a2)), (3, .int (Ii v14)), (4, .int (Ii v15))]) X dX12_tries_133 (by decide) rfl ?_
            refine go_iload X dX12_tries_135 0 rfl ?_
            refine go_bipush (v := (-3)) X dX12_tries_137 (by decide) ?_
            refine go_icmp_ne (tgt := 145) X dX12_tries_139 rfl hv20 kI_m3 (fun c21 => ?_) (fun c21 => ?_)
            · refine go_iload X dX12_tries_145 0 rfl ?_
              refine go_iconst (v := (-1)) X dX12_tries_147 rfl ?_
              refine go_icmp_ne (tgt := 172) X dX12_tries_148 rfl hv20 kI_m1 (fun c22 => ?_) (fun c22 => ?_)
              · refine go_aload_n X dX12_tries_172 rfl 1 rfl ?_
                refine go_iload X dX12_tries_173 0 rfl ?_
                refine go_aload_n X dX12_tries_175 rfl 1 rfl ?_
                refine go_getc (i := 29) X fc12 dX12_tries_176 trn0 tr0 (Nat.le_of_ble_eq_true rfl) rfl lw890 rfl ?_
                refine go_iload X dX12_tries_179 0 rfl ?_
                refine go_iaload X dX12_tries_181 trn25 tr25 hv20 (fun v23 hv23 => ?_)
                refine go_iload_n X dX12_tries_182 rfl 3 rfl ?_
                refine goI (fun H locs ls r ho hW hL => runV X (ok_X12_expressed l D base M19 v20 hv20 v23 hv23 v14 hv14 H.size r ho) dX12_tries_183 lw1137 lw1138 lw1139 lw944 ⟨lw1136, cy_X12_expressed, Nat.le_of_ble_eq_true rfl, Nat.le_of_ble_eq_true rfl⟩ rfl trn0 tr0 rfl rfl rfl rfl (Nat.le_of_ble_eq_true rfl) hW hL hk0) (fun v25 M24 hv25 => ?_)
                exact go_ireturn X hrt hlk dX12_tries_186 hv25
              · refine go_aload_n X dX12_tries_151 rfl 1 rfl ?_
                refine go_getc (i := 13) X fc12 dX12_tries_152 trn0 tr0 (Nat.le_of_ble_eq_true rfl) rfl lw877 rfl ?_
                refine go_iload_n X dX12_tries_155 rfl 2 rfl ?_
                refine go_iaload X dX12_tries_156 trn12 tr12 ha2 (fun v26 hv26 => ?_)
                refine go_iconst (v := 1) X dX12_tries_157 rfl ?_
                refine go_lt (fun J => ∀ (v27 : Int) (M28 : Mm), i32 v27 → Go p l e (rmO 5 130) s m args below meth c D TR 67 base 6 0 0 (FinI D TR 67 base below args s i32) M28 171 [] [.int (Ii v27)] (J v27 M28)) (by
                    intro v27 M28 hv27
                    exact go_ireturn X hrt hlk dX12_tries_171 hv27
                    )
                    (fun J171_29 hJ171_29 => ?_)
                refine go_icmp_ne (tgt := 170) X dX12_tries_158 rfl hv26 kI_1 (fun c30 => ?_) (fun c30 => ?_)
                · refine go_iconst (v := (-1)) X dX12_tries_170 rfl ?_
                  refine go_sub [] rfl ?_
                  exact hJ171_29 ((-1)) M19 kI_m1
                · refine go_aload_n X dX12_tries_161 rfl 1 rfl ?_
                  refine go_iload_n X dX12_tries_162 rfl 3 rfl ?_
                  refine go_iload_n X dX12_tries_163 rfl 2 rfl ?_
                  refine goI (fun H locs ls r ho hW hL => runV X (ok_X12_looksAt l D base M19 v14 hv14 a2 ha2 H.size r ho) dX12_tries_164 lw1122 lw1123 lw1124 lw944 ⟨lw1117, cy_X12_looksAt, Nat.le_of_ble_eq_true rfl, Nat.le_of_ble_eq_true rfl⟩ rfl trn0 tr0 rfl rfl rfl rfl (Nat.le_of_ble_eq_true rfl) hW hL hk0) (fun v32 M31 hv32 => ?_)
                  refine go_goto (tgt := 171) X dX12_tries_167 rfl ?_
                  refine go_sub [] rfl ?_
                  exact hJ171_29 v32 M31 hv32
            · refine go_bipush (v := (-3)) X dX12_tries_142 (by decide) ?_
              exact go_ireturn X hrt hlk dX12_tries_144 kI_m3
            )
            (fun J120_17 hJ120_17 => ?_)
        refine go_icmp_ne (tgt := 120) X dX12_tries_78 rfl hv13 kI_1 (fun c33 => ?_) (fun c33 => ?_)
        · refine go_sub [2, 4, 1, 0] rfl ?_
          exact hJ120_17 a1 ((-1)) M10 ha1 kI_m1
        · refine go_aload_n X dX12_tries_81 rfl 2 rfl ?_
          refine go_getc (i := 39) X fc12 dX12_tries_82 trn0 tr0 (Nat.le_of_ble_eq_true rfl) rfl lw898 rfl ?_
          refine go_iload_n X dX12_tries_85 rfl 3 rfl ?_
          refine go_iaload X dX12_tries_86 trn32 tr32 ha1 (fun v34 hv34 => ?_)
          refine go_istore_n (i := 3) (L' := [(3, .int (Ii v34)), (4, .int (Ii ((-1)))), (0, .ref (base + 0)), (1, .int (Ii a1)), (2, .int (Ii a2))]) X dX12_tries_87 rfl (by decide) rfl ?_
          refine go_aload_n X dX12_tries_88 rfl 2 rfl ?_
          refine go_getc (i := 40) X fc12 dX12_tries_89 trn0 tr0 (Nat.le_of_ble_eq_true rfl) rfl lw899 rfl ?_
          refine go_iload_n X dX12_tries_92 rfl 3 rfl ?_
          refine go_iaload X dX12_tries_93 trn33 tr33 ha1 (fun v35 hv35 => ?_)
          refine go_istore (i := 4) (L' := [(4, .int (Ii v35)), (3, .int (Ii v34)), (0, .ref (base + 0)), (1, .int (Ii a1)), (2, .int (Ii a2))]) X dX12_tries_94 (by decide) rfl ?_
          refine go_iload_n X dX12_tries_96 rfl 1 rfl ?_
          refine go_iconst (v := (-1)) X dX12_tries_97 rfl ?_
          refine go_icmp_ne (tgt := 103) X dX12_tries_98 rfl hv34 kI_m1 (fun c36 => ?_) (fun c36 => ?_)
          · refine go_aload_n X dX12_tries_103 rfl 2 rfl ?_
            refine go_dup X dX12_tries_104 rfl ?_
            refine go_getl (i := 74) X fc12 dX12_tries_105 trn0 tr0 (Nat.le_of_ble_eq_true rfl) rfl lw1109 rfl (fun v37 hv37 => ?_)
            refine go_lconst (v := 1) X dX12_tries_108 rfl ?_
            refine go_aload_n X dX12_tries_109 rfl 2 rfl ?_
            refine go_getc (i := 43) X fc12 dX12_tries_110 trn0 tr0 (Nat.le_of_ble_eq_true rfl) rfl lw902 rfl ?_
            refine go_iload_n X dX12_tries_113 rfl 1 rfl ?_
            refine go_iaload X dX12_tries_114 trn36 tr36 hv34 (fun v38 hv38 => ?_)
            refine go_lshl X dX12_tries_115 (by decide) hv38 (fun v39 hv39 => ?_)
            refine go_lor X dX12_tries_116 hv37 hv39 (fun v40 hv40 => ?_)
            refine go_putl (i := 74) X fc12 dX12_tries_117 trn0 tr0 (Nat.le_of_ble_eq_true rfl) rfl lw1109 rfl rfl rfl hv40 (fun M41 => ?_)
            refine go_sub [2, 4, 1, 0] rfl ?_
            exact hJ120_17 v34 v35 M41 hv34 hv35
          · refine go_iconst (v := (-1)) X dX12_tries_101 rfl ?_
            exact go_ireturn X hrt hlk dX12_tries_102 kI_m1
      · refine go_aload_n X dX12_tries_59 rfl 0 rfl ?_
        refine go_iload_n X dX12_tries_60 rfl 1 rfl ?_
        refine go_iload_n X dX12_tries_61 rfl 2 rfl ?_
        refine goI (fun H locs ls r ho hW hL => runV X (ok_X12_gathers l D base M10 a1 ha1 a2 ha2 H.size r ho) dX12_tries_62 lw1141 lw1142 lw1143 lw944 ⟨lw1140, cy_X12_gathers, Nat.le_of_ble_eq_true rfl, Nat.le_of_ble_eq_true rfl⟩ rfl trn0 tr0 rfl rfl rfl rfl (Nat.le_of_ble_eq_true rfl) hW hL hk0) (fun v43 M42 hv43 => ?_)
        exact go_ireturn X hrt hlk dX12_tries_65 hv43
      )
      (fun J46_9 hJ46_9 => ?_)
  refine go_lt (fun J => ∀ (M44 : Mm), Go p l e (rmO 5 130) s m args below meth c D TR 67 base 6 0 0 (FinI D TR 67 base below args s i32) M44 42 [(0, .ref (base + 0)), (1, .int (Ii a1)), (2, .int (Ii a2))] [.ref (base + 0)] (J M44)) (by
      intro M44
      refine go_aload_n X dX12_tries_42 rfl 0 rfl ?_
      refine go_geti (i := 80) X fc12 dX12_tries_43 trn0 tr0 (Nat.le_of_ble_eq_true rfl) rfl lw1104 rfl (fun v46 hv46 => ?_)
      exact hJ46_9 v46 M44 hv46
      )
      (fun J42_45 hJ42_45 => ?_)
  refine go_if_eq (tgt := 42) X dX12_tries_27 rfl (bo_i32 hv6) (fun c47 => ?_) (fun c47 => ?_)
  · exact hJ42_45 M5
  · refine go_aload_n X dX12_tries_30 rfl 0 rfl ?_
    refine go_geti (i := 69) X fc12 dX12_tries_31 trn0 tr0 (Nat.le_of_ble_eq_true rfl) rfl lw1107 rfl (fun v48 hv48 => ?_)
    refine go_iconst (v := 1) X dX12_tries_34 rfl ?_
    refine go_icmp_ne (tgt := 42) X dX12_tries_35 rfl hv48 kI_1 (fun c49 => ?_) (fun c49 => ?_)
    · exact hJ42_45 M5
    · refine go_iconst (v := 0) X dX12_tries_38 rfl ?_
      refine go_goto (tgt := 46) X dX12_tries_39 rfl ?_
      exact hJ46_9 0 M5 kI_0
def f_X12_enters (a1 : Int) (a2 : Int) (M : Mm) : Rs :=
Lt (M 0 69) fun v1 =>
gd (0 ≤ v1 ∧ v1 < 200) <|
Lt (up M 57 v1.toNat a1) fun M2 =>
Lt (M2 0 69) fun v3 =>
gd (0 ≤ v3 ∧ v3 < 200) <|
Lt (up M2 58 v3.toNat a2) fun M4 =>
Cl (f_X12_at a1 a2 M4) fun v6 M5 =>
gd (0 ≤ v6 ∧ v6 < 720) <|
Lt (up M5 51 v6.toNat 1) fun M7 =>
Lt (M7 0 69) fun v8 =>
Lt (wr (v8 + 1)) fun v9 =>
Lt (up M7 0 69 v9) fun M10 =>
some (0, M10)
theorem cy_X12_enters : yX12_enters.cls ≠ "java/lang/invoke/MethodHandle" ∧ yX12_enters.cls ≠ "java/lang/invoke/VarHandle" ∧ (parseMethodDescriptor yX12_enters.desc).map (fun d => d.parameters.length) = some 2 := ⟨by decide +kernel, by decide +kernel, by decide +kernel⟩
set_option maxRecDepth 20000 in
theorem ok_X12_enters (l : Launch) (D : Dd) (base : Nat) (M : Mm) (a1 : Int) (ha1 : i32 a1) (a2 : Int) (ha2 : i32 a2) : OkV l D TR 67 base yX12_enters cX12_enters 3 none 1 22 [.ref (base + 0), .int (Ii a1), .int (Ii a2)] M (f_X12_enters a1 a2 M) := by
  refine metV (by decide +kernel) [(0, .ref (base + 0)), (1, .int (Ii a1)), (2, .int (Ii a2))] rfl (Nat.le_of_ble_eq_true rfl) (fun p e s m args below meth c X hrt hlk => ?_)
  have X : Cx p s m args c cX12_enters D 3 RX12 := X
  unfold f_X12_enters
  refine go_aload_n X dX12_enters_0 rfl 0 rfl ?_
  refine go_getc (i := 70) X fc12 dX12_enters_1 trn0 tr0 (Nat.le_of_ble_eq_true rfl) rfl lw924 rfl ?_
  refine go_aload_n X dX12_enters_4 rfl 0 rfl ?_
  refine go_geti (i := 69) X fc12 dX12_enters_5 trn0 tr0 (Nat.le_of_ble_eq_true rfl) rfl lw1107 rfl (fun v1 hv1 => ?_)
  refine go_iload_n X dX12_enters_8 rfl 1 rfl ?_
  refine go_iastore X dX12_enters_9 trn57 tr57 hv1 ha1 (fun M2 => ?_)
  refine go_aload_n X dX12_enters_10 rfl 0 rfl ?_
  refine go_getc (i := 71) X fc12 dX12_enters_11 trn0 tr0 (Nat.le_of_ble_eq_true rfl) rfl lw925 rfl ?_
  refine go_aload_n X dX12_enters_14 rfl 0 rfl ?_
  refine go_geti (i := 69) X fc12 dX12_enters_15 trn0 tr0 (Nat.le_of_ble_eq_true rfl) rfl lw1107 rfl (fun v3 hv3 => ?_)
  refine go_iload_n X dX12_enters_18 rfl 2 rfl ?_
  refine go_iastore X dX12_enters_19 trn58 tr58 hv3 ha2 (fun M4 => ?_)
  refine go_aload_n X dX12_enters_20 rfl 0 rfl ?_
  refine go_getc (i := 61) X fc12 dX12_enters_21 trn0 tr0 (Nat.le_of_ble_eq_true rfl) rfl lw917 rfl ?_
  refine go_aload_n X dX12_enters_24 rfl 0 rfl ?_
  refine go_iload_n X dX12_enters_25 rfl 1 rfl ?_
  refine go_iload_n X dX12_enters_26 rfl 2 rfl ?_
  refine goI (fun H locs ls r ho hW hL => runV X (ok_X12_at l D base M4 a1 ha1 a2 ha2 H.size r ho) dX12_enters_27 lw1114 lw1115 lw1116 lw944 ⟨lw1101, cy_X12_at, Nat.le_of_ble_eq_true rfl, Nat.le_of_ble_eq_true rfl⟩ rfl trn0 tr0 rfl rfl rfl rfl (Nat.le_of_ble_eq_true rfl) hW hL hk0) (fun v6 M5 hv6 => ?_)
  refine go_iconst (v := 1) X dX12_enters_30 rfl ?_
  refine go_zastore X dX12_enters_31 trn51 tr51 hv6 (Or.inr rfl) (fun M7 => ?_)
  refine go_aload_n X dX12_enters_32 rfl 0 rfl ?_
  refine go_dup X dX12_enters_33 rfl ?_
  refine go_geti (i := 69) X fc12 dX12_enters_34 trn0 tr0 (Nat.le_of_ble_eq_true rfl) rfl lw1107 rfl (fun v8 hv8 => ?_)
  refine go_iconst (v := 1) X dX12_enters_37 rfl ?_
  refine go_iadd X dX12_enters_38 hv8 kI_1 (fun v9 hv9 => ?_)
  refine go_puti (i := 69) X fc12 dX12_enters_39 trn0 tr0 (Nat.le_of_ble_eq_true rfl) rfl lw1107 rfl rfl rfl hv9 (fun M10 => ?_)
  exact go_vreturn X hrt hlk dX12_enters_42
def f_X12_finds_L13_55 (J193_5 : Int → Mm → Rs) (rc13_8 : Int × Mm → Rs) : Int × Mm → Rs := fun (v6, M7) =>
Lt (M7 0 69) fun v9 =>
if v9 ≤ 0 then (
J193_5 v6 M7) else (
Lt (M7 0 69) fun v11 =>
Lt (wr (v11 - 1)) fun v12 =>
gd (0 ≤ v12 ∧ v12 < 200) <|
Lt (M7 57 v12.toNat) fun v13 =>
Lt (M7 0 69) fun v14 =>
Lt (wr (v14 - 1)) fun v15 =>
gd (0 ≤ v15 ∧ v15 < 200) <|
Lt (M7 58 v15.toNat) fun v16 =>
Cl (f_X12_tries v13 v16 M7) fun v18 M17 =>
Lt (M17 0 72) fun v19 =>
Lt (fun (M20 : Mm) => 
rc13_8 (v18, M20)) fun J190_21 =>
if v19 = ((-1)) then (
Lt (M17 0 69) fun v23 =>
Lt (wr (v23 - 1)) fun v24 =>
Lt (up M17 0 69 v24) fun M25 =>
Cl (f_X12_at v13 v16 M25) fun v27 M26 =>
gd (0 ≤ v27 ∧ v27 < 720) <|
Lt (up M26 51 v27.toNat 0) fun M28 =>
gd (0 ≤ v16 ∧ v16 < 6) <|
Lt (M28 12 v16.toNat) fun v29 =>
if v29 = 3 then (
J190_21 M28) else (
gd (0 ≤ v27 ∧ v27 < 720) <|
Lt (up M28 50 v27.toNat 1) fun M31 =>
gd (0 ≤ v27 ∧ v27 < 720) <|
Lt (up M31 52 v27.toNat v18) fun M32 =>
Lt (M32 0 74) fun v33 =>
gd (0 ≤ v27 ∧ v27 < 720) <|
Lt (up M32 53 v27.toNat v33) fun M34 =>
Lt (M34 0 75) fun v35 =>
Lt (fun (v36 : Int) (M37 : Mm) => 
gd (0 ≤ v27 ∧ v27 < 720) <|
Lt (up M37 54 v27.toNat v36) fun M39 =>
Lt (M39 0 67) fun v40 =>
Lt (M39 0 68) fun v41 =>
Lt (fun (v42 : Int) (M43 : Mm) => 
Lt (wr (v40 + v42)) fun v45 =>
Lt (up M43 0 67 v45) fun M46 =>
J190_21 M46) fun J186_44 =>
if ¬ v41 = 0 then (
J186_44 0 M39) else (
J186_44 1 M39)) fun J168_38 =>
Lt (fun (M48 : Mm) => 
J168_38 1 M48) fun J163_49 =>
if ¬ v35 = 0 then (
J163_49 M34) else (
if ¬ v18 = ((-2)) then (
J168_38 0 M34) else (
J163_49 M34)))) else (
Lt (M17 0 72) fun v52 =>
Lt (M17 0 73) fun v53 =>
Cl (f_X12_enters v52 v53 M17) fun _ M54 =>
J190_21 M54))
def f_X12_finds (a1 : Int) (a2 : Int) (M : Mm) : Rs :=
Lt (up M 0 69 0) fun M1 =>
Cl (f_X12_enters a1 a2 M1) fun _ M2 =>
Lt (fun (v3 : Int) (M4 : Mm) => 
some (v3, M4)) fun J193_5 =>
Lp (f_X12_finds_L13_55 J193_5) FU ((-1), M2)
theorem cy_X12_finds : yX12_finds.cls ≠ "java/lang/invoke/MethodHandle" ∧ yX12_finds.cls ≠ "java/lang/invoke/VarHandle" ∧ (parseMethodDescriptor yX12_finds.desc).map (fun d => d.parameters.length) = some 2 := ⟨by decide +kernel, by decide +kernel, by decide +kernel⟩
set_option maxRecDepth 20000 in
theorem ok_X12_finds (l : Launch) (D : Dd) (base : Nat) (M : Mm) (a1 : Int) (ha1 : i32 a1) (a2 : Int) (ha2 : i32 a2) : OkI l D TR 67 base yX12_finds cX12_finds 7 (some .int) 6 155 [.ref (base + 0), .int (Ii a1), .int (Ii a2)] M i32 (f_X12_finds a1 a2 M) := by
  refine metI (by decide +kernel) [(0, .ref (base + 0)), (1, .int (Ii a1)), (2, .int (Ii a2))] rfl (Nat.le_of_ble_eq_true rfl) (fun p e s m args below meth c X hrt hlk => ?_)
  have X : Cx p s m args c cX12_finds D 7 RX12 := X
  unfold f_X12_finds
  refine go_aload_n X dX12_finds_0 rfl 0 rfl ?_
  refine go_iconst (v := 0) X dX12_finds_1 rfl ?_
  refine go_puti (i := 69) X fc12 dX12_finds_2 trn0 tr0 (Nat.le_of_ble_eq_true rfl) rfl lw1107 rfl rfl rfl kI_0 (fun M1 => ?_)
  refine go_aload_n X dX12_finds_5 rfl 0 rfl ?_
  refine go_iload_n X dX12_finds_6 rfl 1 rfl ?_
  refine go_iload_n X dX12_finds_7 rfl 2 rfl ?_
  refine goV (fun H locs ls r ho hW hL => runV X (ok_X12_enters l D base M1 a1 ha1 a2 ha2 H.size r ho) dX12_finds_8 lw1150 lw1151 lw1152 lw944 ⟨lw1148, cy_X12_enters, Nat.le_of_ble_eq_true rfl, Nat.le_of_ble_eq_true rfl⟩ rfl trn0 tr0 rfl rfl rfl rfl (Nat.le_of_ble_eq_true rfl) hW hL hk0) (fun _ M2 => ?_)
  refine go_iconst (v := (-1)) X dX12_finds_11 rfl ?_
  refine go_istore_n (i := 3) (L' := [(3, .int (Ii ((-1)))), (0, .ref (base + 0)), (1, .int (Ii a1)), (2, .int (Ii a2))]) X dX12_finds_12 rfl (by decide) rfl ?_
  refine go_lt (fun J => ∀ (v3 : Int) (M4 : Mm), i32 v3 → Go p l e (rmO 6 155) s m args below meth c D TR 67 base 7 0 0 (FinI D TR 67 base below args s i32) M4 193 [(3, .int (Ii v3))] [] (J v3 M4)) (by
      intro v3 M4 hv3
      refine go_iload_n X dX12_finds_193 rfl 0 rfl ?_
      exact go_ireturn X hrt hlk dX12_finds_194 hv3
      )
      (fun J193_5 hJ193_5 => ?_)
  refine go_sub [1, 0] rfl ?_
  exact go_lp (fun (rc : Int × Mm → Rs) => ∀ (v6 : Int) (M7 : Mm), i32 v6 → Go p l e (rmO 6 155) s m args below meth c D TR 67 base 7 0 0 (FinI D TR 67 base below args s i32) M7 13 [(0, .ref (base + 0)), (3, .int (Ii v6))] [] (rc (v6, M7)))
      (by intro v6 M7 hv6; exact go_none)
      (by
      intro rc13_8 hrc13_8 v6 M7 hv6
      unfold f_X12_finds_L13_55
      dsimp only
      refine go_aload_n X dX12_finds_13 rfl 0 rfl ?_
      refine go_geti (i := 69) X fc12 dX12_finds_14 trn0 tr0 (Nat.le_of_ble_eq_true rfl) rfl lw1107 rfl (fun v9 hv9 => ?_)
      refine go_if_le (tgt := 193) X dX12_finds_17 rfl hv9 (fun c10 => ?_) (fun c10 => ?_)
      · refine go_sub [1] rfl ?_
        exact hJ193_5 v6 M7 hv6
      · refine go_aload_n X dX12_finds_20 rfl 0 rfl ?_
        refine go_getc (i := 70) X fc12 dX12_finds_21 trn0 tr0 (Nat.le_of_ble_eq_true rfl) rfl lw924 rfl ?_
        refine go_aload_n X dX12_finds_24 rfl 0 rfl ?_
        refine go_geti (i := 69) X fc12 dX12_finds_25 trn0 tr0 (Nat.le_of_ble_eq_true rfl) rfl lw1107 rfl (fun v11 hv11 => ?_)
        refine go_iconst (v := 1) X dX12_finds_28 rfl ?_
        refine go_isub X dX12_finds_29 hv11 kI_1 (fun v12 hv12 => ?_)
        refine go_iaload X dX12_finds_30 trn57 tr57 hv12 (fun v13 hv13 => ?_)
        refine go_istore (i := 4) (L' := [(4, .int (Ii v13)), (0, .ref (base + 0)), (3, .int (Ii v6))]) X dX12_finds_31 (by decide) rfl ?_
        refine go_aload_n X dX12_finds_33 rfl 1 rfl ?_
        refine go_getc (i := 71) X fc12 dX12_finds_34 trn0 tr0 (Nat.le_of_ble_eq_true rfl) rfl lw925 rfl ?_
        refine go_aload_n X dX12_finds_37 rfl 1 rfl ?_
        refine go_geti (i := 69) X fc12 dX12_finds_38 trn0 tr0 (Nat.le_of_ble_eq_true rfl) rfl lw1107 rfl (fun v14 hv14 => ?_)
        refine go_iconst (v := 1) X dX12_finds_41 rfl ?_
        refine go_isub X dX12_finds_42 hv14 kI_1 (fun v15 hv15 => ?_)
        refine go_iaload X dX12_finds_43 trn58 tr58 hv15 (fun v16 hv16 => ?_)
        refine go_istore (i := 5) (L' := [(5, .int (Ii v16)), (4, .int (Ii v13)), (0, .ref (base + 0)), (3, .int (Ii v6))]) X dX12_finds_44 (by decide) rfl ?_
        refine go_aload_n X dX12_finds_46 rfl 2 rfl ?_
        refine go_iload X dX12_finds_47 1 rfl ?_
        refine go_iload X dX12_finds_49 0 rfl ?_
        refine goI (fun H locs ls r ho hW hL => runV X (ok_X12_tries l D base M7 v13 hv13 v16 hv16 H.size r ho) dX12_finds_51 lw1153 lw1154 lw1155 lw944 ⟨lw1147, cy_X12_tries, Nat.le_of_ble_eq_true rfl, Nat.le_of_ble_eq_true rfl⟩ rfl trn0 tr0 rfl rfl rfl rfl (Nat.le_of_ble_eq_true rfl) hW hL hk0) (fun v18 M17 hv18 => ?_)
        refine go_istore_n (i := 3) (L' := [(3, .int (Ii v18)), (5, .int (Ii v16)), (4, .int (Ii v13)), (0, .ref (base + 0))]) X dX12_finds_54 rfl (by decide) rfl ?_
        refine go_aload_n X dX12_finds_55 rfl 3 rfl ?_
        refine go_geti (i := 72) X fc12 dX12_finds_56 trn0 tr0 (Nat.le_of_ble_eq_true rfl) rfl lw1105 rfl (fun v19 hv19 => ?_)
        refine go_iconst (v := (-1)) X dX12_finds_59 rfl ?_
        refine go_lt (fun J => ∀ (M20 : Mm), Go p l e (rmO 6 155) s m args below meth c D TR 67 base 7 0 0 (FinI D TR 67 base below args s i32) M20 190 [(0, .ref (base + 0)), (3, .int (Ii v18))] [] (J M20)) (by
            intro M20
            refine go_goto (tgt := 13) X dX12_finds_190 rfl ?_
            exact hrc13_8 v18 M20 hv18
            )
            (fun J190_21 hJ190_21 => ?_)
        refine go_icmp_eq (tgt := 78) X dX12_finds_60 rfl hv19 kI_m1 (fun c22 => ?_) (fun c22 => ?_)
        · refine go_aload_n X dX12_finds_78 rfl 3 rfl ?_
          refine go_dup X dX12_finds_79 rfl ?_
          refine go_geti (i := 69) X fc12 dX12_finds_80 trn0 tr0 (Nat.le_of_ble_eq_true rfl) rfl lw1107 rfl (fun v23 hv23 => ?_)
          refine go_iconst (v := 1) X dX12_finds_83 rfl ?_
          refine go_isub X dX12_finds_84 hv23 kI_1 (fun v24 hv24 => ?_)
          refine go_puti (i := 69) X fc12 dX12_finds_85 trn0 tr0 (Nat.le_of_ble_eq_true rfl) rfl lw1107 rfl rfl rfl hv24 (fun M25 => ?_)
          refine go_aload_n X dX12_finds_88 rfl 3 rfl ?_
          refine go_iload X dX12_finds_89 2 rfl ?_
          refine go_iload X dX12_finds_91 1 rfl ?_
          refine goI (fun H locs ls r ho hW hL => runV X (ok_X12_at l D base M25 v13 hv13 v16 hv16 H.size r ho) dX12_finds_93 lw1114 lw1115 lw1116 lw944 ⟨lw1101, cy_X12_at, Nat.le_of_ble_eq_true rfl, Nat.le_of_ble_eq_true rfl⟩ rfl trn0 tr0 rfl rfl rfl rfl (Nat.le_of_ble_eq_true rfl) hW hL hk0) (fun v27 M26 hv27 => ?_)
          refine go_istore (i := 6) (L' := [(6, .int (Ii v27)), (3, .int (Ii v18)), (5, .int (Ii v16)), (4, .int (Ii v13)), (0, .ref (base + 0))]) X dX12_finds_96 (by decide) rfl ?_
          refine go_aload_n X dX12_finds_98 rfl 4 rfl ?_
          refine go_getc (i := 61) X fc12 dX12_finds_99 trn0 tr0 (Nat.le_of_ble_eq_true rfl) rfl lw917 rfl ?_
          refine go_iload X dX12_finds_102 0 rfl ?_
          refine go_iconst (v := 0) X dX12_finds_104 rfl ?_
          refine go_zastore X dX12_finds_105 trn51 tr51 hv27 (Or.inl rfl) (fun M28 => ?_)
          refine go_aload_n X dX12_finds_106 rfl 4 rfl ?_
          refine go_getc (i := 13) X fc12 dX12_finds_107 trn0 tr0 (Nat.le_of_ble_eq_true rfl) rfl lw877 rfl ?_
          refine go_iload X dX12_finds_110 2 rfl ?_
          refine go_iaload X dX12_finds_112 trn12 tr12 hv16 (fun v29 hv29 => ?_)
          refine go_iconst (v := 3) X dX12_finds_113 rfl ?_
          refine go_icmp_eq (tgt := 190) X dX12_finds_114 rfl hv29 kI_3 (fun c30 => ?_) (fun c30 => ?_)
          · refine go_sub [4, 1] rfl ?_
            exact hJ190_21 M28
          · refine go_aload_n X dX12_finds_117 rfl 4 rfl ?_
            refine go_getc (i := 60) X fc12 dX12_finds_118 trn0 tr0 (Nat.le_of_ble_eq_true rfl) rfl lw916 rfl ?_
            refine go_iload X dX12_finds_121 0 rfl ?_
            refine go_iconst (v := 1) X dX12_finds_123 rfl ?_
            refine go_zastore X dX12_finds_124 trn50 tr50 hv27 (Or.inr rfl) (fun M31 => ?_)
            refine go_aload_n X dX12_finds_125 rfl 4 rfl ?_
            refine go_getc (i := 62) X fc12 dX12_finds_126 trn0 tr0 (Nat.le_of_ble_eq_true rfl) rfl lw918 rfl ?_
            refine go_iload X dX12_finds_129 0 rfl ?_
            refine go_iload_n X dX12_finds_131 rfl 1 rfl ?_
            refine go_iastore X dX12_finds_132 trn52 tr52 hv27 hv18 (fun M32 => ?_)
            refine go_aload_n X dX12_finds_133 rfl 4 rfl ?_
            refine go_getc (i := 63) X fc12 dX12_finds_134 trn0 tr0 (Nat.le_of_ble_eq_true rfl) rfl lw920 rfl ?_
            refine go_iload X dX12_finds_137 0 rfl ?_
            refine go_aload_n X dX12_finds_139 rfl 4 rfl ?_
            refine go_getl (i := 74) X fc12 dX12_finds_140 trn0 tr0 (Nat.le_of_ble_eq_true rfl) rfl lw1109 rfl (fun v33 hv33 => ?_)
            refine go_lastore X dX12_finds_143 trn53 tr53 hv27 hv33 (fun M34 => ?_)
            refine go_aload_n X dX12_finds_144 rfl 4 rfl ?_
            refine go_getc (i := 64) X fc12 dX12_finds_145 trn0 tr0 (Nat.le_of_ble_eq_true rfl) rfl lw921 rfl ?_
            refine go_iload X dX12_finds_148 0 rfl ?_
            refine go_aload_n X dX12_finds_150 rfl 4 rfl ?_
            refine go_getz (i := 75) X fc12 dX12_finds_151 trn0 tr0 (Nat.le_of_ble_eq_true rfl) rfl lw1108 rfl (fun v35 hv35 => ?_)
            refine go_lt (fun J => ∀ (v36 : Int) (M37 : Mm), bo v36 → Go p l e (rmO 6 155) s m args below meth c D TR 67 base 7 0 0 (FinI D TR 67 base below args s i32) M37 168 [(0, .ref (base + 0)), (3, .int (Ii v18))] [.int (Ii v36), .int (Ii v27), .ref (base + 54)] (J v36 M37)) (by
                intro v36 M37 hv36
                refine go_zastore X dX12_finds_168 trn54 tr54 hv27 hv36 (fun M39 => ?_)
                refine go_aload_n X dX12_finds_169 rfl 0 rfl ?_
                refine go_dup X dX12_finds_170 rfl ?_
                refine go_geti (i := 67) X fc12 dX12_finds_171 trn0 tr0 (Nat.le_of_ble_eq_true rfl) rfl lw1149 rfl (fun v40 hv40 => ?_)
                refine go_aload_n X dX12_finds_174 rfl 0 rfl ?_
                refine go_geti (i := 68) X fc12 dX12_finds_175 trn0 tr0 (Nat.le_of_ble_eq_true rfl) rfl lw1102 rfl (fun v41 hv41 => ?_)
                refine go_lt (fun J => ∀ (v42 : Int) (M43 : Mm), bo v42 → Go p l e (rmO 6 155) s m args below meth c D TR 67 base 7 0 0 (FinI D TR 67 base below args s i32) M43 186 [(0, .ref (base + 0)), (3, .int (Ii v18))] [.int (Ii v42), .int (Ii v40), .ref (base + 0)] (J v42 M43)) (by
                    intro v42 M43 hv42
                    refine go_iadd X dX12_finds_186 hv40 (bo_i32 hv42) (fun v45 hv45 => ?_)
                    refine go_puti (i := 67) X fc12 dX12_finds_187 trn0 tr0 (Nat.le_of_ble_eq_true rfl) rfl lw1149 rfl rfl rfl hv45 (fun M46 => ?_)
                    exact hJ190_21 M46
                    )
                    (fun J186_44 hJ186_44 => ?_)
                refine go_if_ne (tgt := 185) X dX12_finds_178 rfl hv41 (fun c47 => ?_) (fun c47 => ?_)
                · refine go_iconst (v := 0) X dX12_finds_185 rfl ?_
                  exact hJ186_44 0 M39 (Or.inl rfl)
                · refine go_iconst (v := 1) X dX12_finds_181 rfl ?_
                  refine go_goto (tgt := 186) X dX12_finds_182 rfl ?_
                  exact hJ186_44 1 M39 (Or.inr rfl)
                )
                (fun J168_38 hJ168_38 => ?_)
            refine go_lt (fun J => ∀ (M48 : Mm), Go p l e (rmO 6 155) s m args below meth c D TR 67 base 7 0 0 (FinI D TR 67 base below args s i32) M48 163 [(0, .ref (base + 0)), (3, .int (Ii v18))] [.int (Ii v27), .ref (base + 54)] (J M48)) (by
                intro M48
                refine go_iconst (v := 1) X dX12_finds_163 rfl ?_
                refine go_goto (tgt := 168) X dX12_finds_164 rfl ?_
                exact hJ168_38 1 M48 (Or.inr rfl)
                )
                (fun J163_49 hJ163_49 => ?_)
            refine go_if_ne (tgt := 163) X dX12_finds_154 rfl (bo_i32 hv35) (fun c50 => ?_) (fun c50 => ?_)
            · refine go_sub [4, 1] rfl ?_
              exact hJ163_49 M34
            · refine go_iload_n X dX12_finds_157 rfl 1 rfl ?_
              refine go_bipush (v := (-2)) X dX12_finds_158 (by decide) ?_
              refine go_icmp_ne (tgt := 167) X dX12_finds_160 rfl hv18 kI_m2 (fun c51 => ?_) (fun c51 => ?_)
              · refine go_iconst (v := 0) X dX12_finds_167 rfl ?_
                refine go_sub [4, 1] rfl ?_
                exact hJ168_38 0 M34 (Or.inl rfl)
              · refine go_sub [4, 1] rfl ?_
                exact hJ163_49 M34
        · refine go_aload_n X dX12_finds_63 rfl 3 rfl ?_
          refine go_aload_n X dX12_finds_64 rfl 3 rfl ?_
          refine go_geti (i := 72) X fc12 dX12_finds_65 trn0 tr0 (Nat.le_of_ble_eq_true rfl) rfl lw1105 rfl (fun v52 hv52 => ?_)
          refine go_aload_n X dX12_finds_68 rfl 3 rfl ?_
          refine go_geti (i := 73) X fc12 dX12_finds_69 trn0 tr0 (Nat.le_of_ble_eq_true rfl) rfl lw1110 rfl (fun v53 hv53 => ?_)
          refine goV (fun H locs ls r ho hW hL => runV X (ok_X12_enters l D base M17 v52 hv52 v53 hv53 H.size r ho) dX12_finds_72 lw1150 lw1151 lw1152 lw944 ⟨lw1148, cy_X12_enters, Nat.le_of_ble_eq_true rfl, Nat.le_of_ble_eq_true rfl⟩ rfl trn0 tr0 rfl rfl rfl rfl (Nat.le_of_ble_eq_true rfl) hW hL hk0) (fun _ M54 => ?_)
          refine go_goto (tgt := 190) X dX12_finds_75 rfl ?_
          refine go_sub [3, 0] rfl ?_
          exact hJ190_21 M54
      )
      FU ((-1)) M2 kI_m1
