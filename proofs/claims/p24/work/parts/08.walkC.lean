def f_X2_letterFor (r1 : Nat) (a2 : Int) (M : Mm) : Rs :=
Lt (M r1 4) fun v1 =>
Lt (fun (v2 : Int) (M3 : Mm) => 
some (v2, M3)) fun J30_4 =>
if v1 ≤ 0 then (
Lt (M r1 2) fun v6 =>
Cl (f_X8_readAsOf 283 v6 M) fun v8 M7 =>
Cl (f_X5_letterOf v8 a2 M7) fun v10 M9 =>
J30_4 v10 M9) else (
J30_4 ((-1)) M)
theorem cy_X2_letterFor : yX2_letterFor.cls ≠ "java/lang/invoke/MethodHandle" ∧ yX2_letterFor.cls ≠ "java/lang/invoke/VarHandle" ∧ (parseMethodDescriptor yX2_letterFor.desc).map (fun d => d.parameters.length) = some 2 := ⟨by decide +kernel, by decide +kernel, by decide +kernel⟩
set_option maxRecDepth 20000 in
theorem ok_X2_letterFor (l : Launch) (D : Dd) (base : Nat) (M : Mm) (r1 : Nat) (hr1 : isR r1) (a2 : Int) (ha2 : i32 a2) : OkI l D TC 681 base yX2_letterFor cX2_letterFor 3 (some .int) 1 23 [.ref (base + 310), .ref (base + r1), .int (Ii a2)] M i32 (f_X2_letterFor r1 a2 M) := by
  refine metI (by decide +kernel) [(0, .ref (base + 310)), (1, .ref (base + r1)), (2, .int (Ii a2))] rfl (Nat.le_of_ble_eq_true rfl) (fun p e s m args below meth c X hrt hlk => ?_)
  have X : Cx p s m args c cX2_letterFor D 3 RX2 := X
  unfold f_X2_letterFor
  refine go_aload_n X dX2_letterFor_0 rfl 1 rfl ?_
  refine go_geti (i := 4) X fc4 dX2_letterFor_1 (nR hr1) (tR hr1) (Nat.le_of_ble_eq_true rfl) rfl lw179 rfl (fun v1 hv1 => ?_)
  refine go_lt (fun J => ∀ (v2 : Int) (M3 : Mm), i32 v2 → Go p l e (rmO 1 23) s m args below meth c D TC 681 base 3 0 0 (FinI D TC 681 base below args s i32) M3 30 [] [.int (Ii v2)] (J v2 M3)) (by
      intro v2 M3 hv2
      exact go_ireturn X hrt hlk dX2_letterFor_30 hv2
      )
      (fun J30_4 hJ30_4 => ?_)
  refine go_if_le (tgt := 11) X dX2_letterFor_4 rfl hv1 (fun c5 => ?_) (fun c5 => ?_)
  · refine go_aload_n X dX2_letterFor_11 rfl 0 rfl ?_
    refine go_getc (i := 2) X fc2 dX2_letterFor_12 tcn310 tc310 (Nat.le_of_ble_eq_true rfl) rfl lw151 rfl ?_
    refine go_aload_n X dX2_letterFor_15 rfl 0 rfl ?_
    refine go_getc (i := 5) X fc2 dX2_letterFor_16 tcn310 tc310 (Nat.le_of_ble_eq_true rfl) rfl lw154 rfl ?_
    refine go_aload_n X dX2_letterFor_19 rfl 1 rfl ?_
    refine go_geti (i := 2) X fc4 dX2_letterFor_20 (nR hr1) (tR hr1) (Nat.le_of_ble_eq_true rfl) rfl lw176 rfl (fun v6 hv6 => ?_)
    refine goI (fun H locs ls r ho hW hL => runV X (ok_X8_readAsOf l D base M 283 isT_283 v6 hv6 H.size r ho) dX2_letterFor_23 lw283 lw284 lw285 lw189 ⟨lw277, cy_X8_readAsOf, Nat.le_of_ble_eq_true rfl, Nat.le_of_ble_eq_true rfl⟩ rfl tcn283 tc283 rfl rfl rfl rfl (Nat.le_of_ble_eq_true rfl) hW hL hk0) (fun v8 M7 hv8 => ?_)
    refine go_iload_n X dX2_letterFor_26 rfl 2 rfl ?_
    refine goI (fun H locs ls r ho hW hL => runV X (ok_X5_letterOf l D base M7 v8 hv8 a2 ha2 H.size r ho) dX2_letterFor_27 lw286 lw287 lw288 lw80 ⟨lw279, cy_X5_letterOf, Nat.le_of_ble_eq_true rfl, Nat.le_of_ble_eq_true rfl⟩ rfl tcn1 tc1 rfl rfl rfl rfl (Nat.le_of_ble_eq_true rfl) hW hL hk0) (fun v10 M9 hv10 => ?_)
    refine go_sub [] rfl ?_
    exact hJ30_4 v10 M9 hv10
  · refine go_iconst (v := (-1)) X dX2_letterFor_7 rfl ?_
    refine go_goto (tgt := 30) X dX2_letterFor_8 rfl ?_
    refine go_sub [] rfl ?_
    exact hJ30_4 ((-1)) M kI_m1
def f_X8_putOf (h : Nat) (a1 : Int) (a2 : Int) (M : Mm) : Rs :=
Lt (fun (v1 : Int) (M2 : Mm) => 
Lt (fun (v4 : Int) (M5 : Mm) => 
some (v4, M5)) fun J43_6 =>
if v1 = 0 then (
J43_6 0 M2) else (
gd (0 ≤ a1 ∧ a1 < 30) <|
Lt (M2 (h + 6) a1.toNat) fun v8 =>
Lt (jshr v8 a2) fun v9 =>
Lt (jand v9 1) fun v10 =>
J43_6 v10 M2)) fun J24_3 =>
Lt (fun (M11 : Mm) => 
J24_3 0 M11) fun J23_12 =>
if a1 < 0 then (
J23_12 M) else (
if 30 ≤ a1 then (
J23_12 M) else (
if a2 < 0 then (
J23_12 M) else (
if 3 ≤ a2 then (
J23_12 M) else (
J24_3 1 M))))
theorem cy_X8_putOf : yX8_putOf.cls ≠ "java/lang/invoke/MethodHandle" ∧ yX8_putOf.cls ≠ "java/lang/invoke/VarHandle" ∧ (parseMethodDescriptor yX8_putOf.desc).map (fun d => d.parameters.length) = some 2 := ⟨by decide +kernel, by decide +kernel, by decide +kernel⟩
set_option maxRecDepth 20000 in
theorem ok_X8_putOf (l : Launch) (D : Dd) (base : Nat) (M : Mm) (h : Nat) (hh : isT h) (a1 : Int) (ha1 : i32 a1) (a2 : Int) (ha2 : i32 a2) : OkI l D TC 681 base yX8_putOf cX8_putOf 4 (some .int) 0 0 [.ref (base + h), .int (Ii a1), .int (Ii a2)] M i32 (f_X8_putOf h a1 a2 M) := by
  refine metI (by decide +kernel) [(0, .ref (base + h)), (1, .int (Ii a1)), (2, .int (Ii a2))] rfl (Nat.le_of_ble_eq_true rfl) (fun p e s m args below meth c X hrt hlk => ?_)
  have X : Cx p s m args c cX8_putOf D 4 RX8 := X
  unfold f_X8_putOf
  refine go_iload_n X dX8_putOf_0 rfl 1 rfl ?_
  refine go_lt (fun J => ∀ (v1 : Int) (M2 : Mm), bo v1 → Go p l e (rmO 0 0) s m args below meth c D TC 681 base 4 0 0 (FinI D TC 681 base below args s i32) M2 24 [(0, .ref (base + h)), (1, .int (Ii a1)), (2, .int (Ii a2))] [.int (Ii v1)] (J v1 M2)) (by
      intro v1 M2 hv1
      refine go_istore_n (i := 3) (L' := [(3, .int (Ii v1)), (0, .ref (base + h)), (1, .int (Ii a1)), (2, .int (Ii a2))]) X dX8_putOf_24 rfl (by decide) rfl ?_
      refine go_iload_n X dX8_putOf_25 rfl 0 rfl ?_
      refine go_lt (fun J => ∀ (v4 : Int) (M5 : Mm), i32 v4 → Go p l e (rmO 0 0) s m args below meth c D TC 681 base 4 0 0 (FinI D TC 681 base below args s i32) M5 43 [] [.int (Ii v4)] (J v4 M5)) (by
          intro v4 M5 hv4
          exact go_ireturn X hrt hlk dX8_putOf_43 hv4
          )
          (fun J43_6 hJ43_6 => ?_)
      refine go_if_eq (tgt := 42) X dX8_putOf_26 rfl (bo_i32 hv1) (fun c7 => ?_) (fun c7 => ?_)
      · refine go_iconst (v := 0) X dX8_putOf_42 rfl ?_
        refine go_sub [] rfl ?_
        exact hJ43_6 0 M2 kI_0
      · refine go_aload_n X dX8_putOf_29 rfl 1 rfl ?_
        refine go_getc (i := 7) X fc8 dX8_putOf_30 (nT hh) (tT hh) (Nat.le_of_ble_eq_true rfl) rfl lw290 rfl ?_
        refine go_iload_n X dX8_putOf_33 rfl 2 rfl ?_
        refine go_iaload X dX8_putOf_34 (nTa6 hh) (tTa6 hh) ha1 (fun v8 hv8 => ?_)
        refine go_iload_n X dX8_putOf_35 rfl 3 rfl ?_
        refine go_ishr X dX8_putOf_36 hv8 ha2 (fun v9 hv9 => ?_)
        refine go_iconst (v := 1) X dX8_putOf_37 rfl ?_
        refine go_iand X dX8_putOf_38 hv9 kI_1 (fun v10 hv10 => ?_)
        refine go_goto (tgt := 43) X dX8_putOf_39 rfl ?_
        refine go_sub [] rfl ?_
        exact hJ43_6 v10 M2 hv10
      )
      (fun J24_3 hJ24_3 => ?_)
  refine go_lt (fun J => ∀ (M11 : Mm), Go p l e (rmO 0 0) s m args below meth c D TC 681 base 4 0 0 (FinI D TC 681 base below args s i32) M11 23 [(0, .ref (base + h)), (1, .int (Ii a1)), (2, .int (Ii a2))] [] (J M11)) (by
      intro M11
      refine go_iconst (v := 0) X dX8_putOf_23 rfl ?_
      exact hJ24_3 0 M11 (Or.inl rfl)
      )
      (fun J23_12 hJ23_12 => ?_)
  refine go_if_lt (tgt := 23) X dX8_putOf_1 rfl ha1 (fun c13 => ?_) (fun c13 => ?_)
  · exact hJ23_12 M
  · refine go_iload_n X dX8_putOf_4 rfl 1 rfl ?_
    refine go_bipush (v := 30) X dX8_putOf_5 (by decide) ?_
    refine go_icmp_ge (tgt := 23) X dX8_putOf_7 rfl ha1 kI_30 (fun c14 => ?_) (fun c14 => ?_)
    · exact hJ23_12 M
    · refine go_iload_n X dX8_putOf_10 rfl 2 rfl ?_
      refine go_if_lt (tgt := 23) X dX8_putOf_11 rfl ha2 (fun c15 => ?_) (fun c15 => ?_)
      · exact hJ23_12 M
      · refine go_iload_n X dX8_putOf_14 rfl 2 rfl ?_
        refine go_iconst (v := 3) X dX8_putOf_15 rfl ?_
        refine go_icmp_ge (tgt := 23) X dX8_putOf_16 rfl ha2 kI_3 (fun c16 => ?_) (fun c16 => ?_)
        · exact hJ23_12 M
        · refine go_iconst (v := 1) X dX8_putOf_19 rfl ?_
          refine go_goto (tgt := 24) X dX8_putOf_20 rfl ?_
          exact hJ24_3 1 M (Or.inr rfl)
def f_X4_heldFor (h : Nat) (a1 : Int) (M : Mm) : Rs :=
Lt (fun (v1 : Int) (M2 : Mm) => 
some (v1, M2)) fun J20_3 =>
Lt (fun (M4 : Mm) => 
J20_3 ((-1)) M4) fun J19_5 =>
if a1 < 0 then (
J19_5 M) else (
if 8 ≤ a1 then (
J19_5 M) else (
gd (0 ≤ a1 ∧ a1 < 8) <|
Lt (M (h + 1) a1.toNat) fun v8 =>
J20_3 v8 M))
theorem cy_X4_heldFor : yX4_heldFor.cls ≠ "java/lang/invoke/MethodHandle" ∧ yX4_heldFor.cls ≠ "java/lang/invoke/VarHandle" ∧ (parseMethodDescriptor yX4_heldFor.desc).map (fun d => d.parameters.length) = some 1 := ⟨by decide +kernel, by decide +kernel, by decide +kernel⟩
set_option maxRecDepth 20000 in
theorem ok_X4_heldFor (l : Launch) (D : Dd) (base : Nat) (M : Mm) (h : Nat) (hh : isR h) (a1 : Int) (ha1 : i32 a1) : OkI l D TC 681 base yX4_heldFor cX4_heldFor 2 (some .int) 0 0 [.ref (base + h), .int (Ii a1)] M i32 (f_X4_heldFor h a1 M) := by
  refine metI (by decide +kernel) [(0, .ref (base + h)), (1, .int (Ii a1))] rfl (Nat.le_of_ble_eq_true rfl) (fun p e s m args below meth c X hrt hlk => ?_)
  have X : Cx p s m args c cX4_heldFor D 2 RX4 := X
  unfold f_X4_heldFor
  refine go_iload_n X dX4_heldFor_0 rfl 1 rfl ?_
  refine go_lt (fun J => ∀ (v1 : Int) (M2 : Mm), i32 v1 → Go p l e (rmO 0 0) s m args below meth c D TC 681 base 2 0 0 (FinI D TC 681 base below args s i32) M2 20 [] [.int (Ii v1)] (J v1 M2)) (by
      intro v1 M2 hv1
      exact go_ireturn X hrt hlk dX4_heldFor_20 hv1
      )
      (fun J20_3 hJ20_3 => ?_)
  refine go_lt (fun J => ∀ (M4 : Mm), Go p l e (rmO 0 0) s m args below meth c D TC 681 base 2 0 0 (FinI D TC 681 base below args s i32) M4 19 [] [] (J M4)) (by
      intro M4
      refine go_iconst (v := (-1)) X dX4_heldFor_19 rfl ?_
      exact hJ20_3 ((-1)) M4 kI_m1
      )
      (fun J19_5 hJ19_5 => ?_)
  refine go_if_lt (tgt := 19) X dX4_heldFor_1 rfl ha1 (fun c6 => ?_) (fun c6 => ?_)
  · refine go_sub [] rfl ?_
    exact hJ19_5 M
  · refine go_iload_n X dX4_heldFor_4 rfl 1 rfl ?_
    refine go_bipush (v := 8) X dX4_heldFor_5 (by decide) ?_
    refine go_icmp_ge (tgt := 19) X dX4_heldFor_7 rfl ha1 kI_8 (fun c7 => ?_) (fun c7 => ?_)
    · refine go_sub [] rfl ?_
      exact hJ19_5 M
    · refine go_aload_n X dX4_heldFor_10 rfl 0 rfl ?_
      refine go_getc (i := 13) X fc4 dX4_heldFor_11 (nR hh) (tR hh) (Nat.le_of_ble_eq_true rfl) rfl lw144 rfl ?_
      refine go_iload_n X dX4_heldFor_14 rfl 1 rfl ?_
      refine go_iaload X dX4_heldFor_15 (nRa1 hh) (tRa1 hh) ha1 (fun v8 hv8 => ?_)
      refine go_goto (tgt := 20) X dX4_heldFor_16 rfl ?_
      refine go_sub [] rfl ?_
      exact hJ20_3 v8 M hv8
def f_X2_lookAtStep (r1 : Nat) (r2 : Nat) (a3 : Int) (M : Mm) : Rs :=
Cl (f_X0_numberOf r2 a3 M) fun v2 M1 =>
Cl (f_X0_kindOf r2 a3 M1) fun v4 M3 =>
if v4 = 0 then (
some (v2, M3)) else (
if v4 = 1 then (
Lt (M3 r1 2) fun v6 =>
Cl (f_X2_lookAt r1 v6 v2 M3) fun v8 M7 =>
some (v8, M7)) else (
if v4 = 2 then (
Cl (f_X0_childOf r2 a3 M3) fun v11 M10 =>
Cl (f_X2_childFor r1 v11 M10) fun v13 M12 =>
Lt (fun (v14 : Int) (M15 : Mm) => 
some (v14, M15)) fun J134_16 =>
if ¬ v13 = ((-1)) then (
Cl (f_X2_lookAt r1 v13 v2 M12) fun v19 M18 =>
J134_16 v19 M18) else (
J134_16 ((-1)) M12)) else (
if v4 = 3 then (
Cl (f_X2_letterFor r1 v2 M3) fun v22 M21 =>
Lt (fun (v23 : Int) (M24 : Mm) => 
some (v23, M24)) fun J159_25 =>
if ¬ v22 = ((-1)) then (
Cl (f_X2_letterFor r1 v2 M21) fun v28 M27 =>
Lt (wr (v28 + 1)) fun v29 =>
J159_25 v29 M27) else (
J159_25 ((-1)) M21)) else (
if v4 = 4 then (
Cl (f_X2_letterFor r1 v2 M3) fun v32 M31 =>
Lt (fun (v33 : Int) (M34 : Mm) => 
some (v33, M34)) fun J188_35 =>
if ¬ v32 = ((-1)) then (
Lt (M31 r1 2) fun v37 =>
Cl (f_X8_putOf 283 v37 v2 M31) fun v39 M38 =>
J188_35 v39 M38) else (
J188_35 ((-1)) M31)) else (
if v4 = 5 then (
Lt (M3 r1 2) fun v41 =>
Lt (wr (1000 + v41)) fun v42 =>
some (v42, M3)) else (
if v4 = 6 then (
Cl (f_X0_childOf r2 a3 M3) fun v45 M44 =>
Cl (f_X2_childFor r1 v45 M44) fun v47 M46 =>
Lt (fun (v48 : Int) (M49 : Mm) => 
some (v48, M49)) fun J226_50 =>
if ¬ v47 = ((-1)) then (
Lt (wr (1000 + v47)) fun v52 =>
J226_50 v52 M46) else (
J226_50 ((-1)) M46)) else (
if v4 = 7 then (
Cl (f_X4_heldFor r1 a3 M3) fun v55 M54 =>
Lt (wr (v55 - 1000)) fun v56 =>
Cl (f_X2_lookAt r1 v56 v2 M54) fun v58 M57 =>
some (v58, M57)) else (
if v4 = 8 then (
some ((-1), M3)) else (
if v4 = 9 then (
some ((-1), M3)) else (
if v4 = 10 then (
some ((-1), M3)) else (
if v4 = 11 then (
some ((-1), M3)) else (
if v4 = 12 then (
some ((-1), M3)) else (
if v4 = 13 then (
some ((-1), M3)) else (
if v4 = 14 then (
Lt (M3 r1 2) fun v66 =>
Cl (f_X8_nowOf 283 v66 M3) fun v68 M67 =>
some (v68, M67)) else (
some ((-1), M3))))))))))))))))
theorem cy_X2_lookAtStep : yX2_lookAtStep.cls ≠ "java/lang/invoke/MethodHandle" ∧ yX2_lookAtStep.cls ≠ "java/lang/invoke/VarHandle" ∧ (parseMethodDescriptor yX2_lookAtStep.desc).map (fun d => d.parameters.length) = some 3 := ⟨by decide +kernel, by decide +kernel, by decide +kernel⟩
set_option maxRecDepth 20000 in
theorem ok_X2_lookAtStep (l : Launch) (D : Dd) (base : Nat) (M : Mm) (r1 : Nat) (hr1 : isR r1) (r2 : Nat) (hr2 : isE r2) (a3 : Int) (ha3 : i32 a3) : OkI l D TC 681 base yX2_lookAtStep cX2_lookAtStep 6 (some .int) 2 47 [.ref (base + 310), .ref (base + r1), .ref (base + r2), .int (Ii a3)] M i32 (f_X2_lookAtStep r1 r2 a3 M) := by
  refine metI (by decide +kernel) [(0, .ref (base + 310)), (1, .ref (base + r1)), (2, .ref (base + r2)), (3, .int (Ii a3))] rfl (Nat.le_of_ble_eq_true rfl) (fun p e s m args below meth c X hrt hlk => ?_)
  have X : Cx p s m args c cX2_lookAtStep D 6 RX2 := X
  unfold f_X2_lookAtStep
  refine go_aload_n X dX2_lookAtStep_0 rfl 2 rfl ?_
  refine go_iload_n X dX2_lookAtStep_1 rfl 3 rfl ?_
  refine goI (fun H locs ls r ho hW hL => runV X (ok_X0_numberOf l D base M r2 hr2 a3 ha3 H.size r ho) dX2_lookAtStep_2 lw292 lw293 lw294 lw33 ⟨lw37, cy_X0_numberOf, Nat.le_of_ble_eq_true rfl, Nat.le_of_ble_eq_true rfl⟩ rfl (nE hr2) (tE hr2) rfl rfl rfl rfl (Nat.le_of_ble_eq_true rfl) hW hL hk0) (fun v2 M1 hv2 => ?_)
  refine go_istore (i := 4) (L' := [(4, .int (Ii v2)), (0, .ref (base + 310)), (1, .ref (base + r1)), (2, .ref (base + r2)), (3, .int (Ii a3))]) X dX2_lookAtStep_5 (by decide) rfl ?_
  refine go_aload_n X dX2_lookAtStep_7 rfl 3 rfl ?_
  refine go_iload_n X dX2_lookAtStep_8 rfl 4 rfl ?_
  refine goI (fun H locs ls r ho hW hL => runV X (ok_X0_kindOf l D base M1 r2 hr2 a3 ha3 H.size r ho) dX2_lookAtStep_9 lw295 lw296 lw297 lw33 ⟨lw36, cy_X0_kindOf, Nat.le_of_ble_eq_true rfl, Nat.le_of_ble_eq_true rfl⟩ rfl (nE hr2) (tE hr2) rfl rfl rfl rfl (Nat.le_of_ble_eq_true rfl) hW hL hk0) (fun v4 M3 hv4 => ?_)
  refine go_sw (fun c5 => ?_) (fun c5 => ?_)
  · refine go_tabIn (tgt := 88) X dX2_lookAtStep_12 hv4 0 c5 (by decide) (by decide) rfl rfl ?_
    refine go_iload X dX2_lookAtStep_88 0 rfl ?_
    exact go_ireturn X hrt hlk dX2_lookAtStep_90 hv2
  refine go_sw (fun c9 => ?_) (fun c9 => ?_)
  · refine go_tabIn (tgt := 91) X dX2_lookAtStep_12 hv4 1 c9 (by decide) (by decide) rfl rfl ?_
    refine go_aload_n X dX2_lookAtStep_91 rfl 1 rfl ?_
    refine go_aload_n X dX2_lookAtStep_92 rfl 2 rfl ?_
    refine go_aload_n X dX2_lookAtStep_93 rfl 2 rfl ?_
    refine go_geti (i := 2) X fc4 dX2_lookAtStep_94 (nR hr1) (tR hr1) (Nat.le_of_ble_eq_true rfl) rfl lw176 rfl (fun v6 hv6 => ?_)
    refine go_iload X dX2_lookAtStep_97 0 rfl ?_
    refine goI (fun H locs ls r ho hW hL => runV X (ok_X2_lookAt l D base M3 r1 hr1 v6 hv6 v2 hv2 H.size r ho) dX2_lookAtStep_99 lw298 lw299 lw300 lw216 ⟨lw268, cy_X2_lookAt, Nat.le_of_ble_eq_true rfl, Nat.le_of_ble_eq_true rfl⟩ rfl tcn310 tc310 rfl rfl rfl rfl (Nat.le_of_ble_eq_true rfl) hW hL hk0) (fun v8 M7 hv8 => ?_)
    exact go_ireturn X hrt hlk dX2_lookAtStep_102 hv8
  refine go_sw (fun c20 => ?_) (fun c20 => ?_)
  · refine go_tabIn (tgt := 103) X dX2_lookAtStep_12 hv4 2 c20 (by decide) (by decide) rfl rfl ?_
    refine go_aload_n X dX2_lookAtStep_103 rfl 1 rfl ?_
    refine go_aload_n X dX2_lookAtStep_104 rfl 2 rfl ?_
    refine go_aload_n X dX2_lookAtStep_105 rfl 3 rfl ?_
    refine go_iload_n X dX2_lookAtStep_106 rfl 4 rfl ?_
    refine goI (fun H locs ls r ho hW hL => runV X (ok_X0_childOf l D base M3 r2 hr2 a3 ha3 H.size r ho) dX2_lookAtStep_107 lw301 lw302 lw303 lw33 ⟨lw38, cy_X0_childOf, Nat.le_of_ble_eq_true rfl, Nat.le_of_ble_eq_true rfl⟩ rfl (nE hr2) (tE hr2) rfl rfl rfl rfl (Nat.le_of_ble_eq_true rfl) hW hL hk0) (fun v11 M10 hv11 => ?_)
    refine goI (fun H locs ls r ho hW hL => runV X (ok_X2_childFor l D base M10 r1 hr1 v11 hv11 H.size r ho) dX2_lookAtStep_110 lw304 lw305 lw306 lw216 ⟨lw272, cy_X2_childFor, Nat.le_of_ble_eq_true rfl, Nat.le_of_ble_eq_true rfl⟩ rfl tcn310 tc310 rfl rfl rfl rfl (Nat.le_of_ble_eq_true rfl) hW hL hk0) (fun v13 M12 hv13 => ?_)
    refine go_istore (i := 5) (L' := [(5, .int (Ii v13)), (4, .int (Ii v2)), (0, .ref (base + 310)), (1, .ref (base + r1)), (2, .ref (base + r2)), (3, .int (Ii a3))]) X dX2_lookAtStep_113 (by decide) rfl ?_
    refine go_iload X dX2_lookAtStep_115 0 rfl ?_
    refine go_iconst (v := (-1)) X dX2_lookAtStep_117 rfl ?_
    refine go_lt (fun J => ∀ (v14 : Int) (M15 : Mm), i32 v14 → Go p l e (rmO 2 47) s m args below meth c D TC 681 base 6 0 0 (FinI D TC 681 base below args s i32) M15 134 [] [.int (Ii v14)] (J v14 M15)) (by
        intro v14 M15 hv14
        exact go_ireturn X hrt hlk dX2_lookAtStep_134 hv14
        )
        (fun J134_16 hJ134_16 => ?_)
    refine go_icmp_ne (tgt := 125) X dX2_lookAtStep_118 rfl hv13 kI_m1 (fun c17 => ?_) (fun c17 => ?_)
    · refine go_aload_n X dX2_lookAtStep_125 rfl 2 rfl ?_
      refine go_aload_n X dX2_lookAtStep_126 rfl 3 rfl ?_
      refine go_iload X dX2_lookAtStep_127 0 rfl ?_
      refine go_iload X dX2_lookAtStep_129 1 rfl ?_
      refine goI (fun H locs ls r ho hW hL => runV X (ok_X2_lookAt l D base M12 r1 hr1 v13 hv13 v2 hv2 H.size r ho) dX2_lookAtStep_131 lw298 lw299 lw300 lw216 ⟨lw268, cy_X2_lookAt, Nat.le_of_ble_eq_true rfl, Nat.le_of_ble_eq_true rfl⟩ rfl tcn310 tc310 rfl rfl rfl rfl (Nat.le_of_ble_eq_true rfl) hW hL hk0) (fun v19 M18 hv19 => ?_)
      refine go_sub [] rfl ?_
      exact hJ134_16 v19 M18 hv19
    · refine go_iconst (v := (-1)) X dX2_lookAtStep_121 rfl ?_
      refine go_goto (tgt := 134) X dX2_lookAtStep_122 rfl ?_
      refine go_sub [] rfl ?_
      exact hJ134_16 ((-1)) M12 kI_m1
  refine go_sw (fun c30 => ?_) (fun c30 => ?_)
  · refine go_tabIn (tgt := 135) X dX2_lookAtStep_12 hv4 3 c30 (by decide) (by decide) rfl rfl ?_
    refine go_aload_n X dX2_lookAtStep_135 rfl 1 rfl ?_
    refine go_aload_n X dX2_lookAtStep_136 rfl 2 rfl ?_
    refine go_iload X dX2_lookAtStep_137 0 rfl ?_
    refine goI (fun H locs ls r ho hW hL => runV X (ok_X2_letterFor l D base M3 r1 hr1 v2 hv2 H.size r ho) dX2_lookAtStep_139 lw307 lw308 lw309 lw216 ⟨lw282, cy_X2_letterFor, Nat.le_of_ble_eq_true rfl, Nat.le_of_ble_eq_true rfl⟩ rfl tcn310 tc310 rfl rfl rfl rfl (Nat.le_of_ble_eq_true rfl) hW hL hk0) (fun v22 M21 hv22 => ?_)
    refine go_iconst (v := (-1)) X dX2_lookAtStep_142 rfl ?_
    refine go_lt (fun J => ∀ (v23 : Int) (M24 : Mm), i32 v23 → Go p l e (rmO 2 47) s m args below meth c D TC 681 base 6 0 0 (FinI D TC 681 base below args s i32) M24 159 [] [.int (Ii v23)] (J v23 M24)) (by
        intro v23 M24 hv23
        exact go_ireturn X hrt hlk dX2_lookAtStep_159 hv23
        )
        (fun J159_25 hJ159_25 => ?_)
    refine go_icmp_ne (tgt := 150) X dX2_lookAtStep_143 rfl hv22 kI_m1 (fun c26 => ?_) (fun c26 => ?_)
    · refine go_aload_n X dX2_lookAtStep_150 rfl 1 rfl ?_
      refine go_aload_n X dX2_lookAtStep_151 rfl 2 rfl ?_
      refine go_iload X dX2_lookAtStep_152 0 rfl ?_
      refine goI (fun H locs ls r ho hW hL => runV X (ok_X2_letterFor l D base M21 r1 hr1 v2 hv2 H.size r ho) dX2_lookAtStep_154 lw307 lw308 lw309 lw216 ⟨lw282, cy_X2_letterFor, Nat.le_of_ble_eq_true rfl, Nat.le_of_ble_eq_true rfl⟩ rfl tcn310 tc310 rfl rfl rfl rfl (Nat.le_of_ble_eq_true rfl) hW hL hk0) (fun v28 M27 hv28 => ?_)
      refine go_iconst (v := 1) X dX2_lookAtStep_157 rfl ?_
      refine go_iadd X dX2_lookAtStep_158 hv28 kI_1 (fun v29 hv29 => ?_)
      refine go_sub [] rfl ?_
      exact hJ159_25 v29 M27 hv29
    · refine go_iconst (v := (-1)) X dX2_lookAtStep_146 rfl ?_
      refine go_goto (tgt := 159) X dX2_lookAtStep_147 rfl ?_
      refine go_sub [] rfl ?_
      exact hJ159_25 ((-1)) M21 kI_m1
  refine go_sw (fun c40 => ?_) (fun c40 => ?_)
  · refine go_tabIn (tgt := 160) X dX2_lookAtStep_12 hv4 4 c40 (by decide) (by decide) rfl rfl ?_
    refine go_aload_n X dX2_lookAtStep_160 rfl 1 rfl ?_
    refine go_aload_n X dX2_lookAtStep_161 rfl 2 rfl ?_
    refine go_iload X dX2_lookAtStep_162 0 rfl ?_
    refine goI (fun H locs ls r ho hW hL => runV X (ok_X2_letterFor l D base M3 r1 hr1 v2 hv2 H.size r ho) dX2_lookAtStep_164 lw307 lw308 lw309 lw216 ⟨lw282, cy_X2_letterFor, Nat.le_of_ble_eq_true rfl, Nat.le_of_ble_eq_true rfl⟩ rfl tcn310 tc310 rfl rfl rfl rfl (Nat.le_of_ble_eq_true rfl) hW hL hk0) (fun v32 M31 hv32 => ?_)
    refine go_iconst (v := (-1)) X dX2_lookAtStep_167 rfl ?_
    refine go_lt (fun J => ∀ (v33 : Int) (M34 : Mm), i32 v33 → Go p l e (rmO 2 47) s m args below meth c D TC 681 base 6 0 0 (FinI D TC 681 base below args s i32) M34 188 [] [.int (Ii v33)] (J v33 M34)) (by
        intro v33 M34 hv33
        exact go_ireturn X hrt hlk dX2_lookAtStep_188 hv33
        )
        (fun J188_35 hJ188_35 => ?_)
    refine go_icmp_ne (tgt := 175) X dX2_lookAtStep_168 rfl hv32 kI_m1 (fun c36 => ?_) (fun c36 => ?_)
    · refine go_aload_n X dX2_lookAtStep_175 rfl 1 rfl ?_
      refine go_getc (i := 5) X fc2 dX2_lookAtStep_176 tcn310 tc310 (Nat.le_of_ble_eq_true rfl) rfl lw154 rfl ?_
      refine go_aload_n X dX2_lookAtStep_179 rfl 2 rfl ?_
      refine go_geti (i := 2) X fc4 dX2_lookAtStep_180 (nR hr1) (tR hr1) (Nat.le_of_ble_eq_true rfl) rfl lw176 rfl (fun v37 hv37 => ?_)
      refine go_iload X dX2_lookAtStep_183 0 rfl ?_
      refine goI (fun H locs ls r ho hW hL => runV X (ok_X8_putOf l D base M31 283 isT_283 v37 hv37 v2 hv2 H.size r ho) dX2_lookAtStep_185 lw310 lw311 lw312 lw189 ⟨lw289, cy_X8_putOf, Nat.le_of_ble_eq_true rfl, Nat.le_of_ble_eq_true rfl⟩ rfl tcn283 tc283 rfl rfl rfl rfl (Nat.le_of_ble_eq_true rfl) hW hL hk0) (fun v39 M38 hv39 => ?_)
      refine go_sub [] rfl ?_
      exact hJ188_35 v39 M38 hv39
    · refine go_iconst (v := (-1)) X dX2_lookAtStep_171 rfl ?_
      refine go_goto (tgt := 188) X dX2_lookAtStep_172 rfl ?_
      refine go_sub [] rfl ?_
      exact hJ188_35 ((-1)) M31 kI_m1
  refine go_sw (fun c43 => ?_) (fun c43 => ?_)
  · refine go_tabIn (tgt := 189) X dX2_lookAtStep_12 hv4 5 c43 (by decide) (by decide) rfl rfl ?_
    refine go_sipush (v := 1000) X dX2_lookAtStep_189 (by decide) ?_
    refine go_aload_n X dX2_lookAtStep_192 rfl 2 rfl ?_
    refine go_geti (i := 2) X fc4 dX2_lookAtStep_193 (nR hr1) (tR hr1) (Nat.le_of_ble_eq_true rfl) rfl lw176 rfl (fun v41 hv41 => ?_)
    refine go_iadd X dX2_lookAtStep_196 kI_1000 hv41 (fun v42 hv42 => ?_)
    exact go_ireturn X hrt hlk dX2_lookAtStep_197 hv42
  refine go_sw (fun c53 => ?_) (fun c53 => ?_)
  · refine go_tabIn (tgt := 198) X dX2_lookAtStep_12 hv4 6 c53 (by decide) (by decide) rfl rfl ?_
    refine go_aload_n X dX2_lookAtStep_198 rfl 1 rfl ?_
    refine go_aload_n X dX2_lookAtStep_199 rfl 2 rfl ?_
    refine go_aload_n X dX2_lookAtStep_200 rfl 3 rfl ?_
    refine go_iload_n X dX2_lookAtStep_201 rfl 4 rfl ?_
    refine goI (fun H locs ls r ho hW hL => runV X (ok_X0_childOf l D base M3 r2 hr2 a3 ha3 H.size r ho) dX2_lookAtStep_202 lw301 lw302 lw303 lw33 ⟨lw38, cy_X0_childOf, Nat.le_of_ble_eq_true rfl, Nat.le_of_ble_eq_true rfl⟩ rfl (nE hr2) (tE hr2) rfl rfl rfl rfl (Nat.le_of_ble_eq_true rfl) hW hL hk0) (fun v45 M44 hv45 => ?_)
    refine goI (fun H locs ls r ho hW hL => runV X (ok_X2_childFor l D base M44 r1 hr1 v45 hv45 H.size r ho) dX2_lookAtStep_205 lw304 lw305 lw306 lw216 ⟨lw272, cy_X2_childFor, Nat.le_of_ble_eq_true rfl, Nat.le_of_ble_eq_true rfl⟩ rfl tcn310 tc310 rfl rfl rfl rfl (Nat.le_of_ble_eq_true rfl) hW hL hk0) (fun v47 M46 hv47 => ?_)
    refine go_istore (i := 5) (L' := [(5, .int (Ii v47)), (4, .int (Ii v2)), (0, .ref (base + 310)), (1, .ref (base + r1)), (2, .ref (base + r2)), (3, .int (Ii a3))]) X dX2_lookAtStep_208 (by decide) rfl ?_
    refine go_iload X dX2_lookAtStep_210 0 rfl ?_
    refine go_iconst (v := (-1)) X dX2_lookAtStep_212 rfl ?_
    refine go_lt (fun J => ∀ (v48 : Int) (M49 : Mm), i32 v48 → Go p l e (rmO 2 47) s m args below meth c D TC 681 base 6 0 0 (FinI D TC 681 base below args s i32) M49 226 [] [.int (Ii v48)] (J v48 M49)) (by
        intro v48 M49 hv48
        exact go_ireturn X hrt hlk dX2_lookAtStep_226 hv48
        )
        (fun J226_50 hJ226_50 => ?_)
    refine go_icmp_ne (tgt := 220) X dX2_lookAtStep_213 rfl hv47 kI_m1 (fun c51 => ?_) (fun c51 => ?_)
    · refine go_sipush (v := 1000) X dX2_lookAtStep_220 (by decide) ?_
      refine go_iload X dX2_lookAtStep_223 0 rfl ?_
      refine go_iadd X dX2_lookAtStep_225 kI_1000 hv47 (fun v52 hv52 => ?_)
      refine go_sub [] rfl ?_
      exact hJ226_50 v52 M46 hv52
    · refine go_iconst (v := (-1)) X dX2_lookAtStep_216 rfl ?_
      refine go_goto (tgt := 226) X dX2_lookAtStep_217 rfl ?_
      refine go_sub [] rfl ?_
      exact hJ226_50 ((-1)) M46 kI_m1
  refine go_sw (fun c59 => ?_) (fun c59 => ?_)
  · refine go_tabIn (tgt := 227) X dX2_lookAtStep_12 hv4 7 c59 (by decide) (by decide) rfl rfl ?_
    refine go_aload_n X dX2_lookAtStep_227 rfl 1 rfl ?_
    refine go_aload_n X dX2_lookAtStep_228 rfl 2 rfl ?_
    refine go_aload_n X dX2_lookAtStep_229 rfl 2 rfl ?_
    refine go_iload_n X dX2_lookAtStep_230 rfl 4 rfl ?_
    refine goI (fun H locs ls r ho hW hL => runV X (ok_X4_heldFor l D base M3 r1 hr1 a3 ha3 H.size r ho) dX2_lookAtStep_231 lw313 lw314 lw315 lw157 ⟨lw291, cy_X4_heldFor, Nat.le_of_ble_eq_true rfl, Nat.le_of_ble_eq_true rfl⟩ rfl (nR hr1) (tR hr1) rfl rfl rfl rfl (Nat.le_of_ble_eq_true rfl) hW hL hk0) (fun v55 M54 hv55 => ?_)
    refine go_sipush (v := 1000) X dX2_lookAtStep_234 (by decide) ?_
    refine go_isub X dX2_lookAtStep_237 hv55 kI_1000 (fun v56 hv56 => ?_)
    refine go_iload X dX2_lookAtStep_238 0 rfl ?_
    refine goI (fun H locs ls r ho hW hL => runV X (ok_X2_lookAt l D base M54 r1 hr1 v56 hv56 v2 hv2 H.size r ho) dX2_lookAtStep_240 lw298 lw299 lw300 lw216 ⟨lw268, cy_X2_lookAt, Nat.le_of_ble_eq_true rfl, Nat.le_of_ble_eq_true rfl⟩ rfl tcn310 tc310 rfl rfl rfl rfl (Nat.le_of_ble_eq_true rfl) hW hL hk0) (fun v58 M57 hv58 => ?_)
    exact go_ireturn X hrt hlk dX2_lookAtStep_243 hv58
  refine go_sw (fun c60 => ?_) (fun c60 => ?_)
  · refine go_tabIn (tgt := 256) X dX2_lookAtStep_12 hv4 8 c60 (by decide) (by decide) rfl rfl ?_
    refine go_iconst (v := (-1)) X dX2_lookAtStep_256 rfl ?_
    exact go_ireturn X hrt hlk dX2_lookAtStep_257 kI_m1
  refine go_sw (fun c61 => ?_) (fun c61 => ?_)
  · refine go_tabIn (tgt := 256) X dX2_lookAtStep_12 hv4 9 c61 (by decide) (by decide) rfl rfl ?_
    refine go_iconst (v := (-1)) X dX2_lookAtStep_256 rfl ?_
    exact go_ireturn X hrt hlk dX2_lookAtStep_257 kI_m1
  refine go_sw (fun c62 => ?_) (fun c62 => ?_)
  · refine go_tabIn (tgt := 256) X dX2_lookAtStep_12 hv4 10 c62 (by decide) (by decide) rfl rfl ?_
    refine go_iconst (v := (-1)) X dX2_lookAtStep_256 rfl ?_
    exact go_ireturn X hrt hlk dX2_lookAtStep_257 kI_m1
  refine go_sw (fun c63 => ?_) (fun c63 => ?_)
  · refine go_tabIn (tgt := 256) X dX2_lookAtStep_12 hv4 11 c63 (by decide) (by decide) rfl rfl ?_
    refine go_iconst (v := (-1)) X dX2_lookAtStep_256 rfl ?_
    exact go_ireturn X hrt hlk dX2_lookAtStep_257 kI_m1
  refine go_sw (fun c64 => ?_) (fun c64 => ?_)
  · refine go_tabIn (tgt := 256) X dX2_lookAtStep_12 hv4 12 c64 (by decide) (by decide) rfl rfl ?_
    refine go_iconst (v := (-1)) X dX2_lookAtStep_256 rfl ?_
    exact go_ireturn X hrt hlk dX2_lookAtStep_257 kI_m1
  refine go_sw (fun c65 => ?_) (fun c65 => ?_)
  · refine go_tabIn (tgt := 256) X dX2_lookAtStep_12 hv4 13 c65 (by decide) (by decide) rfl rfl ?_
    refine go_iconst (v := (-1)) X dX2_lookAtStep_256 rfl ?_
    exact go_ireturn X hrt hlk dX2_lookAtStep_257 kI_m1
  refine go_sw (fun c69 => ?_) (fun c69 => ?_)
  · refine go_tabIn (tgt := 244) X dX2_lookAtStep_12 hv4 14 c69 (by decide) (by decide) rfl rfl ?_
    refine go_aload_n X dX2_lookAtStep_244 rfl 1 rfl ?_
    refine go_getc (i := 5) X fc2 dX2_lookAtStep_245 tcn310 tc310 (Nat.le_of_ble_eq_true rfl) rfl lw154 rfl ?_
    refine go_aload_n X dX2_lookAtStep_248 rfl 2 rfl ?_
    refine go_geti (i := 2) X fc4 dX2_lookAtStep_249 (nR hr1) (tR hr1) (Nat.le_of_ble_eq_true rfl) rfl lw176 rfl (fun v66 hv66 => ?_)
    refine goI (fun H locs ls r ho hW hL => runV X (ok_X8_nowOf l D base M3 283 isT_283 v66 hv66 H.size r ho) dX2_lookAtStep_252 lw186 lw187 lw188 lw189 ⟨lw171, cy_X8_nowOf, Nat.le_of_ble_eq_true rfl, Nat.le_of_ble_eq_true rfl⟩ rfl tcn283 tc283 rfl rfl rfl rfl (Nat.le_of_ble_eq_true rfl) hW hL hk0) (fun v68 M67 hv68 => ?_)
    exact go_ireturn X hrt hlk dX2_lookAtStep_255 hv68
  refine go_tabOut (tgt := 256) X dX2_lookAtStep_12 hv4 (by omega) rfl ?_
  refine go_iconst (v := (-1)) X dX2_lookAtStep_256 rfl ?_
  exact go_ireturn X hrt hlk dX2_lookAtStep_257 kI_m1
def f_X0_userOf (h : Nat) (a1 : Int) (M : Mm) : Rs :=
Lt (fun (v1 : Int) (M2 : Mm) => 
some (v1, M2)) fun J20_3 =>
Lt (fun (M4 : Mm) => 
J20_3 ((-1)) M4) fun J19_5 =>
if a1 < 0 then (
J19_5 M) else (
if 8 ≤ a1 then (
J19_5 M) else (
gd (0 ≤ a1 ∧ a1 < 8) <|
Lt (M (h + 4) a1.toNat) fun v8 =>
J20_3 v8 M))
theorem cy_X0_userOf : yX0_userOf.cls ≠ "java/lang/invoke/MethodHandle" ∧ yX0_userOf.cls ≠ "java/lang/invoke/VarHandle" ∧ (parseMethodDescriptor yX0_userOf.desc).map (fun d => d.parameters.length) = some 1 := ⟨by decide +kernel, by decide +kernel, by decide +kernel⟩
set_option maxRecDepth 20000 in
theorem ok_X0_userOf (l : Launch) (D : Dd) (base : Nat) (M : Mm) (h : Nat) (hh : isE h) (a1 : Int) (ha1 : i32 a1) : OkI l D TC 681 base yX0_userOf cX0_userOf 2 (some .int) 0 0 [.ref (base + h), .int (Ii a1)] M i32 (f_X0_userOf h a1 M) := by
  refine metI (by decide +kernel) [(0, .ref (base + h)), (1, .int (Ii a1))] rfl (Nat.le_of_ble_eq_true rfl) (fun p e s m args below meth c X hrt hlk => ?_)
  have X : Cx p s m args c cX0_userOf D 2 RX0 := X
  unfold f_X0_userOf
  refine go_iload_n X dX0_userOf_0 rfl 1 rfl ?_
  refine go_lt (fun J => ∀ (v1 : Int) (M2 : Mm), i32 v1 → Go p l e (rmO 0 0) s m args below meth c D TC 681 base 2 0 0 (FinI D TC 681 base below args s i32) M2 20 [] [.int (Ii v1)] (J v1 M2)) (by
      intro v1 M2 hv1
      exact go_ireturn X hrt hlk dX0_userOf_20 hv1
      )
      (fun J20_3 hJ20_3 => ?_)
  refine go_lt (fun J => ∀ (M4 : Mm), Go p l e (rmO 0 0) s m args below meth c D TC 681 base 2 0 0 (FinI D TC 681 base below args s i32) M4 19 [] [] (J M4)) (by
      intro M4
      refine go_iconst (v := (-1)) X dX0_userOf_19 rfl ?_
      exact hJ20_3 ((-1)) M4 kI_m1
      )
      (fun J19_5 hJ19_5 => ?_)
  refine go_if_lt (tgt := 19) X dX0_userOf_1 rfl ha1 (fun c6 => ?_) (fun c6 => ?_)
  · refine go_sub [] rfl ?_
    exact hJ19_5 M
  · refine go_iload_n X dX0_userOf_4 rfl 1 rfl ?_
    refine go_bipush (v := 8) X dX0_userOf_5 (by decide) ?_
    refine go_icmp_ge (tgt := 19) X dX0_userOf_7 rfl ha1 kI_8 (fun c7 => ?_) (fun c7 => ?_)
    · refine go_sub [] rfl ?_
      exact hJ19_5 M
    · refine go_aload_n X dX0_userOf_10 rfl 0 rfl ?_
      refine go_getc (i := 9) X fc0 dX0_userOf_11 (nE hh) (tE hh) (Nat.le_of_ble_eq_true rfl) rfl lw8 rfl ?_
      refine go_iload_n X dX0_userOf_14 rfl 1 rfl ?_
      refine go_iaload X dX0_userOf_15 (nEa4 hh) (tEa4 hh) ha1 (fun v8 hv8 => ?_)
      refine go_goto (tgt := 20) X dX0_userOf_16 rfl ?_
      refine go_sub [] rfl ?_
      exact hJ20_3 v8 M hv8
def f_X0_roleOf (h : Nat) (a1 : Int) (M : Mm) : Rs :=
Lt (fun (v1 : Int) (M2 : Mm) => 
some (v1, M2)) fun J20_3 =>
Lt (fun (M4 : Mm) => 
J20_3 ((-1)) M4) fun J19_5 =>
if a1 < 0 then (
J19_5 M) else (
if 8 ≤ a1 then (
J19_5 M) else (
gd (0 ≤ a1 ∧ a1 < 8) <|
Lt (M (h + 5) a1.toNat) fun v8 =>
J20_3 v8 M))
theorem cy_X0_roleOf : yX0_roleOf.cls ≠ "java/lang/invoke/MethodHandle" ∧ yX0_roleOf.cls ≠ "java/lang/invoke/VarHandle" ∧ (parseMethodDescriptor yX0_roleOf.desc).map (fun d => d.parameters.length) = some 1 := ⟨by decide +kernel, by decide +kernel, by decide +kernel⟩
set_option maxRecDepth 20000 in
theorem ok_X0_roleOf (l : Launch) (D : Dd) (base : Nat) (M : Mm) (h : Nat) (hh : isE h) (a1 : Int) (ha1 : i32 a1) : OkI l D TC 681 base yX0_roleOf cX0_roleOf 2 (some .int) 0 0 [.ref (base + h), .int (Ii a1)] M i32 (f_X0_roleOf h a1 M) := by
  refine metI (by decide +kernel) [(0, .ref (base + h)), (1, .int (Ii a1))] rfl (Nat.le_of_ble_eq_true rfl) (fun p e s m args below meth c X hrt hlk => ?_)
  have X : Cx p s m args c cX0_roleOf D 2 RX0 := X
  unfold f_X0_roleOf
  refine go_iload_n X dX0_roleOf_0 rfl 1 rfl ?_
  refine go_lt (fun J => ∀ (v1 : Int) (M2 : Mm), i32 v1 → Go p l e (rmO 0 0) s m args below meth c D TC 681 base 2 0 0 (FinI D TC 681 base below args s i32) M2 20 [] [.int (Ii v1)] (J v1 M2)) (by
      intro v1 M2 hv1
      exact go_ireturn X hrt hlk dX0_roleOf_20 hv1
      )
      (fun J20_3 hJ20_3 => ?_)
  refine go_lt (fun J => ∀ (M4 : Mm), Go p l e (rmO 0 0) s m args below meth c D TC 681 base 2 0 0 (FinI D TC 681 base below args s i32) M4 19 [] [] (J M4)) (by
      intro M4
      refine go_iconst (v := (-1)) X dX0_roleOf_19 rfl ?_
      exact hJ20_3 ((-1)) M4 kI_m1
      )
      (fun J19_5 hJ19_5 => ?_)
  refine go_if_lt (tgt := 19) X dX0_roleOf_1 rfl ha1 (fun c6 => ?_) (fun c6 => ?_)
  · refine go_sub [] rfl ?_
    exact hJ19_5 M
  · refine go_iload_n X dX0_roleOf_4 rfl 1 rfl ?_
    refine go_bipush (v := 8) X dX0_roleOf_5 (by decide) ?_
    refine go_icmp_ge (tgt := 19) X dX0_roleOf_7 rfl ha1 kI_8 (fun c7 => ?_) (fun c7 => ?_)
    · refine go_sub [] rfl ?_
      exact hJ19_5 M
    · refine go_aload_n X dX0_roleOf_10 rfl 0 rfl ?_
      refine go_getc (i := 10) X fc0 dX0_roleOf_11 (nE hh) (tE hh) (Nat.le_of_ble_eq_true rfl) rfl lw9 rfl ?_
      refine go_iload_n X dX0_roleOf_14 rfl 1 rfl ?_
      refine go_iaload X dX0_roleOf_15 (nEa5 hh) (tEa5 hh) ha1 (fun v8 hv8 => ?_)
      refine go_goto (tgt := 20) X dX0_roleOf_16 rfl ?_
      refine go_sub [] rfl ?_
      exact hJ20_3 v8 M hv8
def f_X0_startOf (h : Nat) (a1 : Int) (M : Mm) : Rs :=
Lt (fun (v1 : Int) (M2 : Mm) => 
some (v1, M2)) fun J20_3 =>
Lt (fun (M4 : Mm) => 
J20_3 ((-1)) M4) fun J19_5 =>
if a1 < 0 then (
J19_5 M) else (
if 8 ≤ a1 then (
J19_5 M) else (
gd (0 ≤ a1 ∧ a1 < 8) <|
Lt (M (h + 6) a1.toNat) fun v8 =>
J20_3 v8 M))
theorem cy_X0_startOf : yX0_startOf.cls ≠ "java/lang/invoke/MethodHandle" ∧ yX0_startOf.cls ≠ "java/lang/invoke/VarHandle" ∧ (parseMethodDescriptor yX0_startOf.desc).map (fun d => d.parameters.length) = some 1 := ⟨by decide +kernel, by decide +kernel, by decide +kernel⟩
set_option maxRecDepth 20000 in
theorem ok_X0_startOf (l : Launch) (D : Dd) (base : Nat) (M : Mm) (h : Nat) (hh : isE h) (a1 : Int) (ha1 : i32 a1) : OkI l D TC 681 base yX0_startOf cX0_startOf 2 (some .int) 0 0 [.ref (base + h), .int (Ii a1)] M i32 (f_X0_startOf h a1 M) := by
  refine metI (by decide +kernel) [(0, .ref (base + h)), (1, .int (Ii a1))] rfl (Nat.le_of_ble_eq_true rfl) (fun p e s m args below meth c X hrt hlk => ?_)
  have X : Cx p s m args c cX0_startOf D 2 RX0 := X
  unfold f_X0_startOf
  refine go_iload_n X dX0_startOf_0 rfl 1 rfl ?_
  refine go_lt (fun J => ∀ (v1 : Int) (M2 : Mm), i32 v1 → Go p l e (rmO 0 0) s m args below meth c D TC 681 base 2 0 0 (FinI D TC 681 base below args s i32) M2 20 [] [.int (Ii v1)] (J v1 M2)) (by
      intro v1 M2 hv1
      exact go_ireturn X hrt hlk dX0_startOf_20 hv1
      )
      (fun J20_3 hJ20_3 => ?_)
  refine go_lt (fun J => ∀ (M4 : Mm), Go p l e (rmO 0 0) s m args below meth c D TC 681 base 2 0 0 (FinI D TC 681 base below args s i32) M4 19 [] [] (J M4)) (by
      intro M4
      refine go_iconst (v := (-1)) X dX0_startOf_19 rfl ?_
      exact hJ20_3 ((-1)) M4 kI_m1
      )
      (fun J19_5 hJ19_5 => ?_)
  refine go_if_lt (tgt := 19) X dX0_startOf_1 rfl ha1 (fun c6 => ?_) (fun c6 => ?_)
  · refine go_sub [] rfl ?_
    exact hJ19_5 M
  · refine go_iload_n X dX0_startOf_4 rfl 1 rfl ?_
    refine go_bipush (v := 8) X dX0_startOf_5 (by decide) ?_
    refine go_icmp_ge (tgt := 19) X dX0_startOf_7 rfl ha1 kI_8 (fun c7 => ?_) (fun c7 => ?_)
    · refine go_sub [] rfl ?_
      exact hJ19_5 M
    · refine go_aload_n X dX0_startOf_10 rfl 0 rfl ?_
      refine go_getc (i := 11) X fc0 dX0_startOf_11 (nE hh) (tE hh) (Nat.le_of_ble_eq_true rfl) rfl lw10 rfl ?_
      refine go_iload_n X dX0_startOf_14 rfl 1 rfl ?_
      refine go_iaload X dX0_startOf_15 (nEa6 hh) (tEa6 hh) ha1 (fun v8 hv8 => ?_)
      refine go_goto (tgt := 20) X dX0_startOf_16 rfl ?_
      refine go_sub [] rfl ?_
      exact hJ20_3 v8 M hv8
def f_X4_joined (a1 : Int) (a2 : Int) (a3 : Int) (M : Mm) : Rs :=
if ¬ a1 = 12 then (
Lt (fun (M2 : Mm) => 
some ((-1), M2)) fun J31_3 =>
if 1000 ≤ a2 then (
J31_3 M) else (
if a3 < 1000 then (
if a1 = 8 then (
Lt (wr (a2 + a3)) fun v6 =>
Lt (jrem v6 1000) fun v7 =>
some (v7, M)) else (
if a1 = 9 then (
Lt (wr (a2 * a3)) fun v9 =>
Lt (jrem v9 1000) fun v10 =>
some (v10, M)) else (
if a1 = 10 then (
Lt (fun (v12 : Int) (M13 : Mm) => 
some (v12, M13)) fun J86_14 =>
if a2 ≤ a3 then (
J86_14 a3 M) else (
J86_14 a2 M)) else (
Lt (jor a2 a3) fun v17 =>
Lt (jrem v17 1000) fun v18 =>
some (v18, M))))) else (
J31_3 M))) else (
Lt (fun (v19 : Int) (M20 : Mm) => 
some (v19, M20)) fun J16_21 =>
if ¬ a2 = a3 then (
J16_21 0 M) else (
J16_21 1 M))
theorem cy_X4_joined : yX4_joined.cls ≠ "java/lang/invoke/MethodHandle" ∧ yX4_joined.cls ≠ "java/lang/invoke/VarHandle" ∧ (parseMethodDescriptor yX4_joined.desc).map (fun d => d.parameters.length) = some 3 := ⟨by decide +kernel, by decide +kernel, by decide +kernel⟩
set_option maxRecDepth 20000 in
theorem ok_X4_joined (l : Launch) (D : Dd) (base : Nat) (M : Mm) (a1 : Int) (ha1 : i32 a1) (a2 : Int) (ha2 : i32 a2) (a3 : Int) (ha3 : i32 a3) : OkI l D TC 681 base yX4_joined cX4_joined 3 (some .int) 0 0 [.int (Ii a1), .int (Ii a2), .int (Ii a3)] M i32 (f_X4_joined a1 a2 a3 M) := by
  refine metI (by decide +kernel) [(0, .int (Ii a1)), (1, .int (Ii a2)), (2, .int (Ii a3))] rfl (Nat.le_of_ble_eq_true rfl) (fun p e s m args below meth c X hrt hlk => ?_)
  have X : Cx p s m args c cX4_joined D 3 RX4 := X
  unfold f_X4_joined
  refine go_iload_n X dX4_joined_0 rfl 0 rfl ?_
  refine go_bipush (v := 12) X dX4_joined_1 (by decide) ?_
  refine go_icmp_ne (tgt := 17) X dX4_joined_3 rfl ha1 kI_12 (fun c1 => ?_) (fun c1 => ?_)
  · refine go_iload_n X dX4_joined_17 rfl 1 rfl ?_
    refine go_sipush (v := 1000) X dX4_joined_18 (by decide) ?_
    refine go_lt (fun J => ∀ (M2 : Mm), Go p l e (rmO 0 0) s m args below meth c D TC 681 base 3 0 0 (FinI D TC 681 base below args s i32) M2 31 [] [] (J M2)) (by
        intro M2
        refine go_iconst (v := (-1)) X dX4_joined_31 rfl ?_
        exact go_ireturn X hrt hlk dX4_joined_32 kI_m1
        )
        (fun J31_3 hJ31_3 => ?_)
    refine go_icmp_ge (tgt := 31) X dX4_joined_21 rfl ha2 kI_1000 (fun c4 => ?_) (fun c4 => ?_)
    · refine go_sub [] rfl ?_
      exact hJ31_3 M
    · refine go_iload_n X dX4_joined_24 rfl 2 rfl ?_
      refine go_sipush (v := 1000) X dX4_joined_25 (by decide) ?_
      refine go_icmp_lt (tgt := 33) X dX4_joined_28 rfl ha3 kI_1000 (fun c5 => ?_) (fun c5 => ?_)
      · refine go_iload_n X dX4_joined_33 rfl 0 rfl ?_
        refine go_sw (fun c8 => ?_) (fun c8 => ?_)
        · refine go_tabIn (tgt := 60) X dX4_joined_34 ha1 8 c8 (by decide) (by decide) rfl rfl ?_
          refine go_iload_n X dX4_joined_60 rfl 1 rfl ?_
          refine go_iload_n X dX4_joined_61 rfl 2 rfl ?_
          refine go_iadd X dX4_joined_62 ha2 ha3 (fun v6 hv6 => ?_)
          refine go_sipush (v := 1000) X dX4_joined_63 (by decide) ?_
          refine go_irem X dX4_joined_66 hv6 kI_1000 (by decide) (fun v7 hv7 => ?_)
          exact go_ireturn X hrt hlk dX4_joined_67 hv7
        refine go_sw (fun c11 => ?_) (fun c11 => ?_)
        · refine go_tabIn (tgt := 68) X dX4_joined_34 ha1 9 c11 (by decide) (by decide) rfl rfl ?_
          refine go_iload_n X dX4_joined_68 rfl 1 rfl ?_
          refine go_iload_n X dX4_joined_69 rfl 2 rfl ?_
          refine go_imul X dX4_joined_70 ha2 ha3 (fun v9 hv9 => ?_)
          refine go_sipush (v := 1000) X dX4_joined_71 (by decide) ?_
          refine go_irem X dX4_joined_74 hv9 kI_1000 (by decide) (fun v10 hv10 => ?_)
          exact go_ireturn X hrt hlk dX4_joined_75 hv10
        refine go_sw (fun c16 => ?_) (fun c16 => ?_)
        · refine go_tabIn (tgt := 76) X dX4_joined_34 ha1 10 c16 (by decide) (by decide) rfl rfl ?_
          refine go_iload_n X dX4_joined_76 rfl 1 rfl ?_
          refine go_iload_n X dX4_joined_77 rfl 2 rfl ?_
          refine go_lt (fun J => ∀ (v12 : Int) (M13 : Mm), i32 v12 → Go p l e (rmO 0 0) s m args below meth c D TC 681 base 3 0 0 (FinI D TC 681 base below args s i32) M13 86 [] [.int (Ii v12)] (J v12 M13)) (by
              intro v12 M13 hv12
              exact go_ireturn X hrt hlk dX4_joined_86 hv12
              )
              (fun J86_14 hJ86_14 => ?_)
          refine go_icmp_le (tgt := 85) X dX4_joined_78 rfl ha2 ha3 (fun c15 => ?_) (fun c15 => ?_)
          · refine go_iload_n X dX4_joined_85 rfl 2 rfl ?_
            refine go_sub [] rfl ?_
            exact hJ86_14 a3 M ha3
          · refine go_iload_n X dX4_joined_81 rfl 1 rfl ?_
            refine go_goto (tgt := 86) X dX4_joined_82 rfl ?_
            refine go_sub [] rfl ?_
            exact hJ86_14 a2 M ha2
        refine go_tabOut (tgt := 87) X dX4_joined_34 ha1 (by omega) rfl ?_
        refine go_iload_n X dX4_joined_87 rfl 1 rfl ?_
        refine go_iload_n X dX4_joined_88 rfl 2 rfl ?_
        refine go_ior X dX4_joined_89 ha2 ha3 (fun v17 hv17 => ?_)
        refine go_sipush (v := 1000) X dX4_joined_90 (by decide) ?_
        refine go_irem X dX4_joined_93 hv17 kI_1000 (by decide) (fun v18 hv18 => ?_)
        exact go_ireturn X hrt hlk dX4_joined_94 hv18
      · refine go_sub [] rfl ?_
        exact hJ31_3 M
  · refine go_iload_n X dX4_joined_6 rfl 1 rfl ?_
    refine go_iload_n X dX4_joined_7 rfl 2 rfl ?_
    refine go_lt (fun J => ∀ (v19 : Int) (M20 : Mm), bo v19 → Go p l e (rmO 0 0) s m args below meth c D TC 681 base 3 0 0 (FinI D TC 681 base below args s i32) M20 16 [] [.int (Ii v19)] (J v19 M20)) (by
        intro v19 M20 hv19
        exact go_ireturn X hrt hlk dX4_joined_16 (bo_i32 hv19)
        )
        (fun J16_21 hJ16_21 => ?_)
    refine go_icmp_ne (tgt := 15) X dX4_joined_8 rfl ha2 ha3 (fun c22 => ?_) (fun c22 => ?_)
    · refine go_iconst (v := 0) X dX4_joined_15 rfl ?_
      refine go_sub [] rfl ?_
      exact hJ16_21 0 M (Or.inl rfl)
    · refine go_iconst (v := 1) X dX4_joined_11 rfl ?_
      refine go_goto (tgt := 16) X dX4_joined_12 rfl ?_
      refine go_sub [] rfl ?_
      exact hJ16_21 1 M (Or.inr rfl)
def f_X4_takeUp (h : Nat) (r1 : Nat) (a2 : Int) (a3 : Int) (a4 : Int) (M : Mm) : Rs :=
Cl (f_X0_kindOf r1 a2 M) fun v2 M1 =>
if ¬ v2 = 13 then (
if ¬ v2 = 7 then (
Cl (f_X0_roleOf r1 a3 M1) fun v6 M5 =>
if v6 ≤ 0 then (
Cl (f_X11_setEntry (h + 1) a2 a4 M5) fun _ M8 =>
Lt (wr (a3 + 1)) fun v9 =>
Lt (up M8 h 6 v9) fun M10 =>
some ((-7), M10)) else (
Cl (f_X4_heldFor h a2 M5) fun v12 M11 =>
Cl (f_X4_joined v2 v12 a4 M11) fun v14 M13 =>
some (v14, M13))) else (
if 1000 ≤ a4 then (
Cl (f_X11_setEntry (h + 1) a2 a4 M1) fun _ M16 =>
Lt (up M16 h 6 a2) fun M17 =>
some ((-7), M17)) else (
some ((-1), M1)))) else (
Cl (f_X0_roleOf r1 a3 M1) fun v19 M18 =>
if v19 ≤ 0 then (
Lt (fun (v21 : Int) (M22 : Mm) => 
Lt (up M22 h 6 v21) fun M24 =>
some ((-7), M24)) fun J44_23 =>
if a4 = 0 then (
Lt (wr (a2 - 1)) fun v26 =>
Cl (f_X0_startOf r1 v26 M18) fun v28 M27 =>
J44_23 v28 M27) else (
Lt (wr (a3 + 1)) fun v29 =>
J44_23 v29 M18)) else (
some (a4, M18)))
theorem cy_X4_takeUp : yX4_takeUp.cls ≠ "java/lang/invoke/MethodHandle" ∧ yX4_takeUp.cls ≠ "java/lang/invoke/VarHandle" ∧ (parseMethodDescriptor yX4_takeUp.desc).map (fun d => d.parameters.length) = some 4 := ⟨by decide +kernel, by decide +kernel, by decide +kernel⟩
set_option maxRecDepth 20000 in
theorem ok_X4_takeUp (l : Launch) (D : Dd) (base : Nat) (M : Mm) (h : Nat) (hh : isR h) (r1 : Nat) (hr1 : isE r1) (a2 : Int) (ha2 : i32 a2) (a3 : Int) (ha3 : i32 a3) (a4 : Int) (ha4 : i32 a4) : OkI l D TC 681 base yX4_takeUp cX4_takeUp 6 (some .int) 1 22 [.ref (base + h), .ref (base + r1), .int (Ii a2), .int (Ii a3), .int (Ii a4)] M i32 (f_X4_takeUp h r1 a2 a3 a4 M) := by
  refine metI (by decide +kernel) [(0, .ref (base + h)), (1, .ref (base + r1)), (2, .int (Ii a2)), (3, .int (Ii a3)), (4, .int (Ii a4))] rfl (Nat.le_of_ble_eq_true rfl) (fun p e s m args below meth c X hrt hlk => ?_)
  have X : Cx p s m args c cX4_takeUp D 6 RX4 := X
  unfold f_X4_takeUp
  refine go_aload_n X dX4_takeUp_0 rfl 1 rfl ?_
  refine go_iload_n X dX4_takeUp_1 rfl 2 rfl ?_
  refine goI (fun H locs ls r ho hW hL => runV X (ok_X0_kindOf l D base M r1 hr1 a2 ha2 H.size r ho) dX4_takeUp_2 lw319 lw296 lw297 lw33 ⟨lw36, cy_X0_kindOf, Nat.le_of_ble_eq_true rfl, Nat.le_of_ble_eq_true rfl⟩ rfl (nE hr1) (tE hr1) rfl rfl rfl rfl (Nat.le_of_ble_eq_true rfl) hW hL hk0) (fun v2 M1 hv2 => ?_)
  refine go_istore (i := 5) (L' := [(5, .int (Ii v2)), (0, .ref (base + h)), (1, .ref (base + r1)), (2, .int (Ii a2)), (3, .int (Ii a3)), (4, .int (Ii a4))]) X dX4_takeUp_5 (by decide) rfl ?_
  refine go_iload X dX4_takeUp_7 0 rfl ?_
  refine go_bipush (v := 13) X dX4_takeUp_9 (by decide) ?_
  refine go_icmp_ne (tgt := 50) X dX4_takeUp_11 rfl hv2 kI_13 (fun c3 => ?_) (fun c3 => ?_)
  · refine go_iload X dX4_takeUp_50 0 rfl ?_
    refine go_bipush (v := 7) X dX4_takeUp_52 (by decide) ?_
    refine go_icmp_ne (tgt := 85) X dX4_takeUp_54 rfl hv2 kI_7 (fun c4 => ?_) (fun c4 => ?_)
    · refine go_aload_n X dX4_takeUp_85 rfl 2 rfl ?_
      refine go_iload_n X dX4_takeUp_86 rfl 4 rfl ?_
      refine goI (fun H locs ls r ho hW hL => runV X (ok_X0_roleOf l D base M1 r1 hr1 a3 ha3 H.size r ho) dX4_takeUp_87 lw320 lw321 lw322 lw33 ⟨lw40, cy_X0_roleOf, Nat.le_of_ble_eq_true rfl, Nat.le_of_ble_eq_true rfl⟩ rfl (nE hr1) (tE hr1) rfl rfl rfl rfl (Nat.le_of_ble_eq_true rfl) hW hL hk0) (fun v6 M5 hv6 => ?_)
      refine go_if_le (tgt := 106) X dX4_takeUp_90 rfl hv6 (fun c7 => ?_) (fun c7 => ?_)
      · refine go_aload_n X dX4_takeUp_106 rfl 1 rfl ?_
        refine go_getc (i := 13) X fc4 dX4_takeUp_107 (nR hh) (tR hh) (Nat.le_of_ble_eq_true rfl) rfl lw144 rfl ?_
        refine go_iload_n X dX4_takeUp_110 rfl 3 rfl ?_
        refine go_iload X dX4_takeUp_111 5 rfl ?_
        refine goV (fun H locs ls r ho hW hL => runSN X (ok_X11_setEntry l D base M5 (h + 1) (isARa1 hh) a2 ha2 a4 ha4 H.size r ho) dX4_takeUp_113 nl37 lw21 lw19 ⟨lw14, cy_X11_setEntry, Nat.le_of_ble_eq_true rfl, Nat.le_of_ble_eq_true rfl⟩ rfl rfl (Nat.le_of_ble_eq_true rfl) hW hL hk0) (fun _ M8 => ?_)
        refine go_aload_n X dX4_takeUp_116 rfl 1 rfl ?_
        refine go_iload_n X dX4_takeUp_117 rfl 4 rfl ?_
        refine go_iconst (v := 1) X dX4_takeUp_118 rfl ?_
        refine go_iadd X dX4_takeUp_119 ha3 kI_1 (fun v9 hv9 => ?_)
        refine go_puti (i := 6) X fc4 dX4_takeUp_120 (nR hh) (tR hh) (Nat.le_of_ble_eq_true rfl) rfl lw318 rfl rfl rfl hv9 (fun M10 => ?_)
        refine go_bipush (v := (-7)) X dX4_takeUp_123 (by decide) ?_
        exact go_ireturn X hrt hlk dX4_takeUp_125 kI_m7
      · refine go_iload X dX4_takeUp_93 0 rfl ?_
        refine go_aload_n X dX4_takeUp_95 rfl 1 rfl ?_
        refine go_iload_n X dX4_takeUp_96 rfl 3 rfl ?_
        refine goI (fun H locs ls r ho hW hL => runV X (ok_X4_heldFor l D base M5 h hh a2 ha2 H.size r ho) dX4_takeUp_97 lw326 lw314 lw315 lw157 ⟨lw291, cy_X4_heldFor, Nat.le_of_ble_eq_true rfl, Nat.le_of_ble_eq_true rfl⟩ rfl (nR hh) (tR hh) rfl rfl rfl rfl (Nat.le_of_ble_eq_true rfl) hW hL hk0) (fun v12 M11 hv12 => ?_)
        refine go_iload X dX4_takeUp_100 5 rfl ?_
        refine goI (fun H locs ls r ho hW hL => runS X (ok_X4_joined l D base M11 v2 hv2 v12 hv12 a4 ha4 H.size r ho) dX4_takeUp_102 lw327 lw328 lw157 ⟨lw317, cy_X4_joined, Nat.le_of_ble_eq_true rfl, Nat.le_of_ble_eq_true rfl⟩ rfl rfl (Nat.le_of_ble_eq_true rfl) hW hL hk0) (fun v14 M13 hv14 => ?_)
        exact go_ireturn X hrt hlk dX4_takeUp_105 hv14
    · refine go_iload X dX4_takeUp_57 5 rfl ?_
      refine go_sipush (v := 1000) X dX4_takeUp_59 (by decide) ?_
      refine go_icmp_ge (tgt := 67) X dX4_takeUp_62 rfl ha4 kI_1000 (fun c15 => ?_) (fun c15 => ?_)
      · refine go_aload_n X dX4_takeUp_67 rfl 1 rfl ?_
        refine go_getc (i := 13) X fc4 dX4_takeUp_68 (nR hh) (tR hh) (Nat.le_of_ble_eq_true rfl) rfl lw144 rfl ?_
        refine go_iload_n X dX4_takeUp_71 rfl 3 rfl ?_
        refine go_iload X dX4_takeUp_72 5 rfl ?_
        refine goV (fun H locs ls r ho hW hL => runSN X (ok_X11_setEntry l D base M1 (h + 1) (isARa1 hh) a2 ha2 a4 ha4 H.size r ho) dX4_takeUp_74 nl37 lw21 lw19 ⟨lw14, cy_X11_setEntry, Nat.le_of_ble_eq_true rfl, Nat.le_of_ble_eq_true rfl⟩ rfl rfl (Nat.le_of_ble_eq_true rfl) hW hL hk0) (fun _ M16 => ?_)
        refine go_aload_n X dX4_takeUp_77 rfl 1 rfl ?_
        refine go_iload_n X dX4_takeUp_78 rfl 3 rfl ?_
        refine go_puti (i := 6) X fc4 dX4_takeUp_79 (nR hh) (tR hh) (Nat.le_of_ble_eq_true rfl) rfl lw318 rfl rfl rfl ha2 (fun M17 => ?_)
        refine go_bipush (v := (-7)) X dX4_takeUp_82 (by decide) ?_
        exact go_ireturn X hrt hlk dX4_takeUp_84 kI_m7
      · refine go_iconst (v := (-1)) X dX4_takeUp_65 rfl ?_
        exact go_ireturn X hrt hlk dX4_takeUp_66 kI_m1
  · refine go_aload_n X dX4_takeUp_14 rfl 2 rfl ?_
    refine go_iload_n X dX4_takeUp_15 rfl 4 rfl ?_
    refine goI (fun H locs ls r ho hW hL => runV X (ok_X0_roleOf l D base M1 r1 hr1 a3 ha3 H.size r ho) dX4_takeUp_16 lw320 lw321 lw322 lw33 ⟨lw40, cy_X0_roleOf, Nat.le_of_ble_eq_true rfl, Nat.le_of_ble_eq_true rfl⟩ rfl (nE hr1) (tE hr1) rfl rfl rfl rfl (Nat.le_of_ble_eq_true rfl) hW hL hk0) (fun v19 M18 hv19 => ?_)
    refine go_if_le (tgt := 25) X dX4_takeUp_19 rfl hv19 (fun c20 => ?_) (fun c20 => ?_)
    · refine go_aload_n X dX4_takeUp_25 rfl 1 rfl ?_
      refine go_iload X dX4_takeUp_26 5 rfl ?_
      refine go_lt (fun J => ∀ (v21 : Int) (M22 : Mm), i32 v21 → Go p l e (rmO 1 22) s m args below meth c D TC 681 base 6 0 0 (FinI D TC 681 base below args s i32) M22 44 [] [.int (Ii v21), .ref (base + h)] (J v21 M22)) (by
          intro v21 M22 hv21
          refine go_puti (i := 6) X fc4 dX4_takeUp_44 (nR hh) (tR hh) (Nat.le_of_ble_eq_true rfl) rfl lw318 rfl rfl rfl hv21 (fun M24 => ?_)
          refine go_bipush (v := (-7)) X dX4_takeUp_47 (by decide) ?_
          exact go_ireturn X hrt hlk dX4_takeUp_49 kI_m7
          )
          (fun J44_23 hJ44_23 => ?_)
      refine go_if_eq (tgt := 37) X dX4_takeUp_28 rfl ha4 (fun c25 => ?_) (fun c25 => ?_)
      · refine go_aload_n X dX4_takeUp_37 rfl 2 rfl ?_
        refine go_iload_n X dX4_takeUp_38 rfl 3 rfl ?_
        refine go_iconst (v := 1) X dX4_takeUp_39 rfl ?_
        refine go_isub X dX4_takeUp_40 ha2 kI_1 (fun v26 hv26 => ?_)
        refine goI (fun H locs ls r ho hW hL => runV X (ok_X0_startOf l D base M18 r1 hr1 v26 hv26 H.size r ho) dX4_takeUp_41 lw323 lw324 lw325 lw33 ⟨lw41, cy_X0_startOf, Nat.le_of_ble_eq_true rfl, Nat.le_of_ble_eq_true rfl⟩ rfl (nE hr1) (tE hr1) rfl rfl rfl rfl (Nat.le_of_ble_eq_true rfl) hW hL hk0) (fun v28 M27 hv28 => ?_)
        refine go_sub [] rfl ?_
        exact hJ44_23 v28 M27 hv28
      · refine go_iload_n X dX4_takeUp_31 rfl 4 rfl ?_
        refine go_iconst (v := 1) X dX4_takeUp_32 rfl ?_
        refine go_iadd X dX4_takeUp_33 ha3 kI_1 (fun v29 hv29 => ?_)
        refine go_goto (tgt := 44) X dX4_takeUp_34 rfl ?_
        refine go_sub [] rfl ?_
        exact hJ44_23 v29 M18 hv29
    · refine go_iload X dX4_takeUp_22 5 rfl ?_
      exact go_ireturn X hrt hlk dX4_takeUp_24 ha4
def f_X4_climb_L9_29 (h : Nat) (r1 : Nat) (J79_2 : Mm → Rs) (J66_4 : Mm → Rs) (J30_8 : Int → Int → Mm → Rs) (rc9_15 : Int × Int × Int × Mm → Rs) : Int × Int × Int × Mm → Rs := fun (v11, v12, v13, M14) =>
if 8 ≤ v13 then (
J79_2 M14) else (
Cl (f_X0_userOf r1 v11 M14) fun v18 M17 =>
if ¬ v18 = ((-1)) then (
Lt (fun (v20 : Int) (v21 : Int) (M22 : Mm) => 
if ¬ v20 = ((-7)) then (
Lt (wr (v21 + 1)) fun v25 =>
rc9_15 (v18, v20, v25, M22)) else (
J66_4 M22)) fun J59_23 =>
if v12 < 0 then (
J59_23 v12 v13 M17) else (
Cl (f_X4_takeUp h r1 v18 v11 v12 M17) fun v28 M27 =>
J59_23 v28 v13 M27)) else (
J30_8 v11 v12 M17))
def f_X4_climb (h : Nat) (r1 : Nat) (a2 : Int) (a3 : Int) (M : Mm) : Rs :=
Lt (fun (M1 : Mm) => 
some ((-1), M1)) fun J79_2 =>
Lt (fun (M3 : Mm) => 
some ((-7), M3)) fun J66_4 =>
Lt (fun (v5 : Int) (v6 : Int) (M7 : Mm) => 
Lt (wr (v5 + 1)) fun v9 =>
Lt (up M7 h 6 v9) fun M10 =>
some (v6, M10)) fun J30_8 =>
Lp (f_X4_climb_L9_29 h r1 J79_2 J66_4 J30_8) FU (a2, a3, 0, M)
theorem cy_X4_climb : yX4_climb.cls ≠ "java/lang/invoke/MethodHandle" ∧ yX4_climb.cls ≠ "java/lang/invoke/VarHandle" ∧ (parseMethodDescriptor yX4_climb.desc).map (fun d => d.parameters.length) = some 3 := ⟨by decide +kernel, by decide +kernel, by decide +kernel⟩
set_option maxRecDepth 20000 in
theorem ok_X4_climb (l : Launch) (D : Dd) (base : Nat) (M : Mm) (h : Nat) (hh : isR h) (r1 : Nat) (hr1 : isE r1) (a2 : Int) (ha2 : i32 a2) (a3 : Int) (ha3 : i32 a3) : OkI l D TC 681 base yX4_climb cX4_climb 8 (some .int) 2 47 [.ref (base + h), .ref (base + r1), .int (Ii a2), .int (Ii a3)] M i32 (f_X4_climb h r1 a2 a3 M) := by
  refine metI (by decide +kernel) [(0, .ref (base + h)), (1, .ref (base + r1)), (2, .int (Ii a2)), (3, .int (Ii a3))] rfl (Nat.le_of_ble_eq_true rfl) (fun p e s m args below meth c X hrt hlk => ?_)
  have X : Cx p s m args c cX4_climb D 8 RX4 := X
  unfold f_X4_climb
  refine go_iload_n X dX4_climb_0 rfl 2 rfl ?_
  refine go_istore (i := 4) (L' := [(4, .int (Ii a2)), (0, .ref (base + h)), (1, .ref (base + r1)), (2, .int (Ii a2)), (3, .int (Ii a3))]) X dX4_climb_1 (by decide) rfl ?_
  refine go_iload_n X dX4_climb_3 rfl 4 rfl ?_
  refine go_istore (i := 5) (L' := [(5, .int (Ii a3)), (4, .int (Ii a2)), (0, .ref (base + h)), (1, .ref (base + r1)), (2, .int (Ii a2)), (3, .int (Ii a3))]) X dX4_climb_4 (by decide) rfl ?_
  refine go_iconst (v := 0) X dX4_climb_6 rfl ?_
  refine go_istore (i := 6) (L' := [(6, .int (Ii 0)), (5, .int (Ii a3)), (4, .int (Ii a2)), (0, .ref (base + h)), (1, .ref (base + r1)), (2, .int (Ii a2)), (3, .int (Ii a3))]) X dX4_climb_7 (by decide) rfl ?_
  refine go_lt (fun J => ∀ (M1 : Mm), Go p l e (rmO 2 47) s m args below meth c D TC 681 base 8 0 0 (FinI D TC 681 base below args s i32) M1 79 [] [] (J M1)) (by
      intro M1
      refine go_iconst (v := (-1)) X dX4_climb_79 rfl ?_
      exact go_ireturn X hrt hlk dX4_climb_80 kI_m1
      )
      (fun J79_2 hJ79_2 => ?_)
  refine go_lt (fun J => ∀ (M3 : Mm), Go p l e (rmO 2 47) s m args below meth c D TC 681 base 8 0 0 (FinI D TC 681 base below args s i32) M3 66 [] [] (J M3)) (by
      intro M3
      refine go_bipush (v := (-7)) X dX4_climb_66 (by decide) ?_
      exact go_ireturn X hrt hlk dX4_climb_68 kI_m7
      )
      (fun J66_4 hJ66_4 => ?_)
  refine go_lt (fun J => ∀ (v5 : Int) (v6 : Int) (M7 : Mm), i32 v5 → i32 v6 → Go p l e (rmO 2 47) s m args below meth c D TC 681 base 8 0 0 (FinI D TC 681 base below args s i32) M7 30 [(0, .ref (base + h)), (4, .int (Ii v5)), (5, .int (Ii v6))] [] (J v5 v6 M7)) (by
      intro v5 v6 M7 hv5 hv6
      refine go_aload_n X dX4_climb_30 rfl 0 rfl ?_
      refine go_iload X dX4_climb_31 1 rfl ?_
      refine go_iconst (v := 1) X dX4_climb_33 rfl ?_
      refine go_iadd X dX4_climb_34 hv5 kI_1 (fun v9 hv9 => ?_)
      refine go_puti (i := 6) X fc4 dX4_climb_35 (nR hh) (tR hh) (Nat.le_of_ble_eq_true rfl) rfl lw318 rfl rfl rfl hv9 (fun M10 => ?_)
      refine go_iload X dX4_climb_38 2 rfl ?_
      exact go_ireturn X hrt hlk dX4_climb_40 hv6
      )
      (fun J30_8 hJ30_8 => ?_)
  refine go_sub [3, 4, 2, 1, 0] rfl ?_
  exact go_lp (fun (rc : Int × Int × Int × Mm → Rs) => ∀ (v11 : Int) (v12 : Int) (v13 : Int) (M14 : Mm), i32 v11 → i32 v12 → i32 v13 → Go p l e (rmO 2 47) s m args below meth c D TC 681 base 8 0 0 (FinI D TC 681 base below args s i32) M14 9 [(0, .ref (base + h)), (1, .ref (base + r1)), (4, .int (Ii v11)), (5, .int (Ii v12)), (6, .int (Ii v13))] [] (rc (v11, v12, v13, M14)))
      (by intro v11 v12 v13 M14 hv11 hv12 hv13; exact go_none)
      (by
      intro rc9_15 hrc9_15 v11 v12 v13 M14 hv11 hv12 hv13
      unfold f_X4_climb_L9_29
      dsimp only
      refine go_iload X dX4_climb_9 4 rfl ?_
      refine go_bipush (v := 8) X dX4_climb_11 (by decide) ?_
      refine go_icmp_ge (tgt := 79) X dX4_climb_13 rfl hv13 kI_8 (fun c16 => ?_) (fun c16 => ?_)
      · refine go_sub [] rfl ?_
        exact hJ79_2 M14
      · refine go_aload_n X dX4_climb_16 rfl 1 rfl ?_
        refine go_iload X dX4_climb_17 2 rfl ?_
        refine goI (fun H locs ls r ho hW hL => runV X (ok_X0_userOf l D base M14 r1 hr1 v11 hv11 H.size r ho) dX4_climb_19 lw330 lw331 lw332 lw33 ⟨lw39, cy_X0_userOf, Nat.le_of_ble_eq_true rfl, Nat.le_of_ble_eq_true rfl⟩ rfl (nE hr1) (tE hr1) rfl rfl rfl rfl (Nat.le_of_ble_eq_true rfl) hW hL hk0) (fun v18 M17 hv18 => ?_)
        refine go_istore (i := 7) (L' := [(7, .int (Ii v18)), (0, .ref (base + h)), (1, .ref (base + r1)), (4, .int (Ii v11)), (5, .int (Ii v12)), (6, .int (Ii v13))]) X dX4_climb_22 (by decide) rfl ?_
        refine go_iload X dX4_climb_24 0 rfl ?_
        refine go_iconst (v := (-1)) X dX4_climb_26 rfl ?_
        refine go_icmp_ne (tgt := 41) X dX4_climb_27 rfl hv18 kI_m1 (fun c19 => ?_) (fun c19 => ?_)
        · refine go_iload X dX4_climb_41 4 rfl ?_
          refine go_lt (fun J => ∀ (v20 : Int) (v21 : Int) (M22 : Mm), i32 v20 → i32 v21 → Go p l e (rmO 2 47) s m args below meth c D TC 681 base 8 0 0 (FinI D TC 681 base below args s i32) M22 59 [(0, .ref (base + h)), (1, .ref (base + r1)), (5, .int (Ii v20)), (6, .int (Ii v21)), (7, .int (Ii v18))] [] (J v20 v21 M22)) (by
              intro v20 v21 M22 hv20 hv21
              refine go_iload X dX4_climb_59 2 rfl ?_
              refine go_bipush (v := (-7)) X dX4_climb_61 (by decide) ?_
              refine go_icmp_ne (tgt := 69) X dX4_climb_63 rfl hv20 kI_m7 (fun c24 => ?_) (fun c24 => ?_)
              · refine go_iload X dX4_climb_69 4 rfl ?_
                refine go_istore (i := 4) (L' := [(4, .int (Ii v18)), (0, .ref (base + h)), (1, .ref (base + r1)), (5, .int (Ii v20)), (6, .int (Ii v21)), (7, .int (Ii v18))]) X dX4_climb_71 (by decide) rfl ?_
                refine go_iinc (i := 6) (L' := fun v => [(6, .int (Ii v)), (4, .int (Ii v18)), (0, .ref (base + h)), (1, .ref (base + r1)), (5, .int (Ii v20)), (7, .int (Ii v18))]) X dX4_climb_73 hv21 kI_1 (j := 4) rfl (by decide) (fun _ => rfl) (fun v25 hv25 => ?_)
                refine go_goto (tgt := 9) X dX4_climb_76 rfl ?_
                refine go_sub [2, 3, 1, 4, 0] rfl ?_
                exact hrc9_15 v18 v20 v25 M22 hv18 hv20 hv25
              · refine go_sub [] rfl ?_
                exact hJ66_4 M22
              )
              (fun J59_23 hJ59_23 => ?_)
          refine go_if_lt (tgt := 59) X dX4_climb_43 rfl hv12 (fun c26 => ?_) (fun c26 => ?_)
          · refine go_sub [1, 2, 4, 5, 0] rfl ?_
            exact hJ59_23 v12 v13 M17 hv12 hv13
          · refine go_aload_n X dX4_climb_46 rfl 1 rfl ?_
            refine go_aload_n X dX4_climb_47 rfl 2 rfl ?_
            refine go_iload X dX4_climb_48 0 rfl ?_
            refine go_iload X dX4_climb_50 3 rfl ?_
            refine go_iload X dX4_climb_52 4 rfl ?_
            refine goI (fun H locs ls r ho hW hL => runV X (ok_X4_takeUp l D base M17 h hh r1 hr1 v18 hv18 v11 hv11 v12 hv12 H.size r ho) dX4_climb_54 lw333 lw334 lw335 lw157 ⟨lw329, cy_X4_takeUp, Nat.le_of_ble_eq_true rfl, Nat.le_of_ble_eq_true rfl⟩ rfl (nR hh) (tR hh) rfl rfl rfl rfl (Nat.le_of_ble_eq_true rfl) hW hL hk0) (fun v28 M27 hv28 => ?_)
            refine go_istore (i := 5) (L' := [(5, .int (Ii v28)), (7, .int (Ii v18)), (0, .ref (base + h)), (1, .ref (base + r1)), (4, .int (Ii v11)), (6, .int (Ii v13))]) X dX4_climb_57 (by decide) rfl ?_
            refine go_sub [2, 3, 0, 5, 1] rfl ?_
            exact hJ59_23 v28 v13 M27 hv28 hv13
        · refine go_sub [1, 3, 4] rfl ?_
          exact hJ30_8 v11 v12 M17 hv11 hv12
      )
      FU a2 a3 0 M ha2 ha3 kI_0
def f_X1_nextGiftOf (a1 : Int) (M : Mm) : Rs :=
Lt (fun (v1 : Int) (M2 : Mm) => 
some (v1, M2)) fun J23_3 =>
Lt (fun (M4 : Mm) => 
J23_3 ((-1)) M4) fun J22_5 =>
if a1 < 0 then (
J22_5 M) else (
if 30 ≤ a1 then (
J22_5 M) else (
gd (0 ≤ a1 ∧ a1 < 30) <|
Lt (M 32 a1.toNat) fun v8 =>
J23_3 v8 M))
theorem cy_X1_nextGiftOf : yX1_nextGiftOf.cls ≠ "java/lang/invoke/MethodHandle" ∧ yX1_nextGiftOf.cls ≠ "java/lang/invoke/VarHandle" ∧ (parseMethodDescriptor yX1_nextGiftOf.desc).map (fun d => d.parameters.length) = some 1 := ⟨by decide +kernel, by decide +kernel, by decide +kernel⟩
set_option maxRecDepth 20000 in
theorem ok_X1_nextGiftOf (l : Launch) (D : Dd) (base : Nat) (M : Mm) (a1 : Int) (ha1 : i32 a1) : OkI l D TC 681 base yX1_nextGiftOf cX1_nextGiftOf 2 (some .int) 0 0 [.ref (base + 25), .int (Ii a1)] M i32 (f_X1_nextGiftOf a1 M) := by
  refine metI (by decide +kernel) [(0, .ref (base + 25)), (1, .int (Ii a1))] rfl (Nat.le_of_ble_eq_true rfl) (fun p e s m args below meth c X hrt hlk => ?_)
  have X : Cx p s m args c cX1_nextGiftOf D 2 RX1 := X
  unfold f_X1_nextGiftOf
  refine go_iload_n X dX1_nextGiftOf_0 rfl 1 rfl ?_
  refine go_lt (fun J => ∀ (v1 : Int) (M2 : Mm), i32 v1 → Go p l e (rmO 0 0) s m args below meth c D TC 681 base 2 0 0 (FinI D TC 681 base below args s i32) M2 23 [] [.int (Ii v1)] (J v1 M2)) (by
      intro v1 M2 hv1
      exact go_ireturn X hrt hlk dX1_nextGiftOf_23 hv1
      )
      (fun J23_3 hJ23_3 => ?_)
  refine go_lt (fun J => ∀ (M4 : Mm), Go p l e (rmO 0 0) s m args below meth c D TC 681 base 2 0 0 (FinI D TC 681 base below args s i32) M4 22 [] [] (J M4)) (by
      intro M4
      refine go_iconst (v := (-1)) X dX1_nextGiftOf_22 rfl ?_
      exact hJ23_3 ((-1)) M4 kI_m1
      )
      (fun J22_5 hJ22_5 => ?_)
  refine go_if_lt (tgt := 22) X dX1_nextGiftOf_1 rfl ha1 (fun c6 => ?_) (fun c6 => ?_)
  · refine go_sub [] rfl ?_
    exact hJ22_5 M
  · refine go_iload_n X dX1_nextGiftOf_4 rfl 1 rfl ?_
    refine go_aload_n X dX1_nextGiftOf_5 rfl 0 rfl ?_
    refine go_getc (i := 9) X fc1 dX1_nextGiftOf_6 tcn25 tc25 (Nat.le_of_ble_eq_true rfl) rfl lw51 rfl ?_
    refine go_alen X dX1_nextGiftOf_9 tcn32 tc32 (by decide) ?_
    refine go_icmp_ge (tgt := 22) X dX1_nextGiftOf_10 rfl ha1 kI_30 (fun c7 => ?_) (fun c7 => ?_)
    · refine go_sub [] rfl ?_
      exact hJ22_5 M
    · refine go_aload_n X dX1_nextGiftOf_13 rfl 0 rfl ?_
      refine go_getc (i := 9) X fc1 dX1_nextGiftOf_14 tcn25 tc25 (Nat.le_of_ble_eq_true rfl) rfl lw51 rfl ?_
      refine go_iload_n X dX1_nextGiftOf_17 rfl 1 rfl ?_
      refine go_iaload X dX1_nextGiftOf_18 tcn32 tc32 ha1 (fun v8 hv8 => ?_)
      refine go_goto (tgt := 23) X dX1_nextGiftOf_19 rfl ?_
      refine go_sub [] rfl ?_
      exact hJ23_3 v8 M hv8
def f_X2_takeWhole (r1 : Nat) (a2 : Int) (M : Mm) : Rs :=
Lt (M r1 1) fun v1 =>
Cl (f_X5_kindOf v1 M) fun v3 M2 =>
Lt (fun (M4 : Mm) => 
Cl (f_X4_settle r1 a2 M4) fun _ M6 =>
some (0, M6)) fun J27_5 =>
if ¬ v3 = 2 then (
J27_5 M2) else (
if a2 = ((-2)) then (
J27_5 M2) else (
if ¬ a2 = ((-3)) then (
Lt (M2 r1 11) fun v10 =>
Lt (fun (M11 : Mm) => 
Lt (M11 r1 11) fun v13 =>
Lt (fun (M14 : Mm) => 
Lt (M14 r1 10) fun v16 =>
Cl (f_X1_nextGiftOf v16 M14) fun v18 M17 =>
Cl (f_X2_beginGift r1 v18 M17) fun _ M19 =>
some (0, M19)) fun J90_15 =>
if v13 = 0 then (
J90_15 M11) else (
if a2 < 0 then (
J90_15 M11) else (
if 1000 ≤ a2 then (
J90_15 M11) else (
Lt (M11 r1 12) fun v23 =>
Lt (wr (v23 + a2)) fun v24 =>
Lt (jrem v24 1000) fun v25 =>
Lt (up M11 r1 12 v25) fun M26 =>
J90_15 M26)))) fun J58_12 =>
if ¬ v10 = 0 then (
J58_12 M2) else (
Lt (M2 r1 0) fun v28 =>
Lt (wr (1000 + v28)) fun v29 =>
if ¬ a2 = v29 then (
J58_12 M2) else (
Lt (up M2 r1 11 1) fun M31 =>
some (0, M31)))) else (
J27_5 M2)))
theorem cy_X2_takeWhole : yX2_takeWhole.cls ≠ "java/lang/invoke/MethodHandle" ∧ yX2_takeWhole.cls ≠ "java/lang/invoke/VarHandle" ∧ (parseMethodDescriptor yX2_takeWhole.desc).map (fun d => d.parameters.length) = some 2 := ⟨by decide +kernel, by decide +kernel, by decide +kernel⟩
set_option maxRecDepth 20000 in
theorem ok_X2_takeWhole (l : Launch) (D : Dd) (base : Nat) (M : Mm) (r1 : Nat) (hr1 : isR r1) (a2 : Int) (ha2 : i32 a2) : OkV l D TC 681 base yX2_takeWhole cX2_takeWhole 3 none 2 47 [.ref (base + 310), .ref (base + r1), .int (Ii a2)] M (f_X2_takeWhole r1 a2 M) := by
  refine metV (by decide +kernel) [(0, .ref (base + 310)), (1, .ref (base + r1)), (2, .int (Ii a2))] rfl (Nat.le_of_ble_eq_true rfl) (fun p e s m args below meth c X hrt hlk => ?_)
  have X : Cx p s m args c cX2_takeWhole D 3 RX2 := X
  unfold f_X2_takeWhole
  refine go_aload_n X dX2_takeWhole_0 rfl 0 rfl ?_
  refine go_getc (i := 2) X fc2 dX2_takeWhole_1 tcn310 tc310 (Nat.le_of_ble_eq_true rfl) rfl lw151 rfl ?_
  refine go_aload_n X dX2_takeWhole_4 rfl 1 rfl ?_
  refine go_geti (i := 1) X fc4 dX2_takeWhole_5 (nR hr1) (tR hr1) (Nat.le_of_ble_eq_true rfl) rfl lw180 rfl (fun v1 hv1 => ?_)
  refine goI (fun H locs ls r ho hW hL => runV X (ok_X5_kindOf l D base M v1 hv1 H.size r ho) dX2_takeWhole_8 lw221 lw222 lw223 lw80 ⟨lw168, cy_X5_kindOf, Nat.le_of_ble_eq_true rfl, Nat.le_of_ble_eq_true rfl⟩ rfl tcn1 tc1 rfl rfl rfl rfl (Nat.le_of_ble_eq_true rfl) hW hL hk0) (fun v3 M2 hv3 => ?_)
  refine go_iconst (v := 2) X dX2_takeWhole_11 rfl ?_
  refine go_lt (fun J => ∀ (M4 : Mm), Go p l e (rmO 2 47) s m args below meth c D TC 681 base 3 0 0 (FinV D TC 681 base below args s) M4 27 [(1, .ref (base + r1)), (2, .int (Ii a2))] [] (J M4)) (by
      intro M4
      refine go_aload_n X dX2_takeWhole_27 rfl 0 rfl ?_
      refine go_iload_n X dX2_takeWhole_28 rfl 1 rfl ?_
      refine goV (fun H locs ls r ho hW hL => runV X (ok_X4_settle l D base M4 r1 hr1 a2 ha2 H.size r ho) dX2_takeWhole_29 lw194 lw195 lw196 lw157 ⟨lw173, cy_X4_settle, Nat.le_of_ble_eq_true rfl, Nat.le_of_ble_eq_true rfl⟩ rfl (nR hr1) (tR hr1) rfl rfl rfl rfl (Nat.le_of_ble_eq_true rfl) hW hL hk0) (fun _ M6 => ?_)
      exact go_vreturn X hrt hlk dX2_takeWhole_32
      )
      (fun J27_5 hJ27_5 => ?_)
  refine go_icmp_ne (tgt := 27) X dX2_takeWhole_12 rfl hv3 kI_2 (fun c7 => ?_) (fun c7 => ?_)
  · refine go_sub [1, 2] rfl ?_
    exact hJ27_5 M2
  · refine go_iload_n X dX2_takeWhole_15 rfl 2 rfl ?_
    refine go_bipush (v := (-2)) X dX2_takeWhole_16 (by decide) ?_
    refine go_icmp_eq (tgt := 27) X dX2_takeWhole_18 rfl ha2 kI_m2 (fun c8 => ?_) (fun c8 => ?_)
    · refine go_sub [1, 2] rfl ?_
      exact hJ27_5 M2
    · refine go_iload_n X dX2_takeWhole_21 rfl 2 rfl ?_
      refine go_bipush (v := (-3)) X dX2_takeWhole_22 (by decide) ?_
      refine go_icmp_ne (tgt := 33) X dX2_takeWhole_24 rfl ha2 kI_m3 (fun c9 => ?_) (fun c9 => ?_)
      · refine go_aload_n X dX2_takeWhole_33 rfl 1 rfl ?_
        refine go_getz (i := 11) X fc4 dX2_takeWhole_34 (nR hr1) (tR hr1) (Nat.le_of_ble_eq_true rfl) rfl lw182 rfl (fun v10 hv10 => ?_)
        refine go_lt (fun J => ∀ (M11 : Mm), Go p l e (rmO 2 47) s m args below meth c D TC 681 base 3 0 0 (FinV D TC 681 base below args s) M11 58 [(0, .ref (base + 310)), (1, .ref (base + r1)), (2, .int (Ii a2))] [] (J M11)) (by
            intro M11
            refine go_aload_n X dX2_takeWhole_58 rfl 1 rfl ?_
            refine go_getz (i := 11) X fc4 dX2_takeWhole_59 (nR hr1) (tR hr1) (Nat.le_of_ble_eq_true rfl) rfl lw182 rfl (fun v13 hv13 => ?_)
            refine go_lt (fun J => ∀ (M14 : Mm), Go p l e (rmO 2 47) s m args below meth c D TC 681 base 3 0 0 (FinV D TC 681 base below args s) M14 90 [(0, .ref (base + 310)), (1, .ref (base + r1))] [] (J M14)) (by
                intro M14
                refine go_aload_n X dX2_takeWhole_90 rfl 0 rfl ?_
                refine go_aload_n X dX2_takeWhole_91 rfl 1 rfl ?_
                refine go_aload_n X dX2_takeWhole_92 rfl 0 rfl ?_
                refine go_getc (i := 3) X fc2 dX2_takeWhole_93 tcn310 tc310 (Nat.le_of_ble_eq_true rfl) rfl lw152 rfl ?_
                refine go_aload_n X dX2_takeWhole_96 rfl 1 rfl ?_
                refine go_geti (i := 10) X fc4 dX2_takeWhole_97 (nR hr1) (tR hr1) (Nat.le_of_ble_eq_true rfl) rfl lw181 rfl (fun v16 hv16 => ?_)
                refine goI (fun H locs ls r ho hW hL => runV X (ok_X1_nextGiftOf l D base M14 v16 hv16 H.size r ho) dX2_takeWhole_100 lw337 lw338 lw339 lw105 ⟨lw136, cy_X1_nextGiftOf, Nat.le_of_ble_eq_true rfl, Nat.le_of_ble_eq_true rfl⟩ rfl tcn25 tc25 rfl rfl rfl rfl (Nat.le_of_ble_eq_true rfl) hW hL hk0) (fun v18 M17 hv18 => ?_)
                refine goV (fun H locs ls r ho hW hL => runV X (ok_X2_beginGift l D base M17 r1 hr1 v18 hv18 H.size r ho) dX2_takeWhole_103 lw224 lw225 lw226 lw216 ⟨lw197, cy_X2_beginGift, Nat.le_of_ble_eq_true rfl, Nat.le_of_ble_eq_true rfl⟩ rfl tcn310 tc310 rfl rfl rfl rfl (Nat.le_of_ble_eq_true rfl) hW hL hk0) (fun _ M19 => ?_)
                exact go_vreturn X hrt hlk dX2_takeWhole_106
                )
                (fun J90_15 hJ90_15 => ?_)
            refine go_if_eq (tgt := 90) X dX2_takeWhole_62 rfl (bo_i32 hv13) (fun c20 => ?_) (fun c20 => ?_)
            · refine go_sub [0, 1] rfl ?_
              exact hJ90_15 M11
            · refine go_iload_n X dX2_takeWhole_65 rfl 2 rfl ?_
              refine go_if_lt (tgt := 90) X dX2_takeWhole_66 rfl ha2 (fun c21 => ?_) (fun c21 => ?_)
              · refine go_sub [0, 1] rfl ?_
                exact hJ90_15 M11
              · refine go_iload_n X dX2_takeWhole_69 rfl 2 rfl ?_
                refine go_sipush (v := 1000) X dX2_takeWhole_70 (by decide) ?_
                refine go_icmp_ge (tgt := 90) X dX2_takeWhole_73 rfl ha2 kI_1000 (fun c22 => ?_) (fun c22 => ?_)
                · refine go_sub [0, 1] rfl ?_
                  exact hJ90_15 M11
                · refine go_aload_n X dX2_takeWhole_76 rfl 1 rfl ?_
                  refine go_aload_n X dX2_takeWhole_77 rfl 1 rfl ?_
                  refine go_geti (i := 12) X fc4 dX2_takeWhole_78 (nR hr1) (tR hr1) (Nat.le_of_ble_eq_true rfl) rfl lw185 rfl (fun v23 hv23 => ?_)
                  refine go_iload_n X dX2_takeWhole_81 rfl 2 rfl ?_
                  refine go_iadd X dX2_takeWhole_82 hv23 ha2 (fun v24 hv24 => ?_)
                  refine go_sipush (v := 1000) X dX2_takeWhole_83 (by decide) ?_
                  refine go_irem X dX2_takeWhole_86 hv24 kI_1000 (by decide) (fun v25 hv25 => ?_)
                  refine go_puti (i := 12) X fc4 dX2_takeWhole_87 (nR hr1) (tR hr1) (Nat.le_of_ble_eq_true rfl) rfl lw185 rfl rfl rfl hv25 (fun M26 => ?_)
                  refine go_sub [0, 1] rfl ?_
                  exact hJ90_15 M26
            )
            (fun J58_12 hJ58_12 => ?_)
        refine go_if_ne (tgt := 58) X dX2_takeWhole_37 rfl (bo_i32 hv10) (fun c27 => ?_) (fun c27 => ?_)
        · exact hJ58_12 M2
        · refine go_iload_n X dX2_takeWhole_40 rfl 2 rfl ?_
          refine go_sipush (v := 1000) X dX2_takeWhole_41 (by decide) ?_
          refine go_aload_n X dX2_takeWhole_44 rfl 1 rfl ?_
          refine go_geti (i := 0) X fc4 dX2_takeWhole_45 (nR hr1) (tR hr1) (Nat.le_of_ble_eq_true rfl) rfl lw209 rfl (fun v28 hv28 => ?_)
          refine go_iadd X dX2_takeWhole_48 kI_1000 hv28 (fun v29 hv29 => ?_)
          refine go_icmp_ne (tgt := 58) X dX2_takeWhole_49 rfl ha2 hv29 (fun c30 => ?_) (fun c30 => ?_)
          · exact hJ58_12 M2
          · refine go_aload_n X dX2_takeWhole_52 rfl 1 rfl ?_
            refine go_iconst (v := 1) X dX2_takeWhole_53 rfl ?_
            refine go_putz (i := 11) X fc4 dX2_takeWhole_54 (nR hr1) (tR hr1) (Nat.le_of_ble_eq_true rfl) rfl lw182 rfl rfl rfl (Or.inr rfl) (fun M31 => ?_)
            exact go_vreturn X hrt hlk dX2_takeWhole_57
      · refine go_sub [1, 2] rfl ?_
        exact hJ27_5 M2
def f_X2_goOn (r1 : Nat) (M : Mm) : Rs :=
Lt (M r1 5) fun v1 =>
if ¬ v1 < 0 then (
Lt (M r1 6) fun v3 =>
gd (¬ v1 < 0 ∧ isE v1.toNat) <|
Cl (f_X2_lookAtStep r1 v1.toNat v3 M) fun v6 M5 =>
if ¬ v6 = ((-8)) then (
Cl (f_X4_climb r1 v1.toNat v3 v6 M5) fun v9 M8 =>
Lt (fun (M10 : Mm) => 
some (1, M10)) fun J93_11 =>
if v9 = ((-7)) then (
J93_11 M8) else (
Cl (f_X2_takeWhole r1 v9 M8) fun _ M13 =>
J93_11 M13)) else (
some (0, M5))) else (
Lt (M r1 2) fun v14 =>
Lt (M r1 1) fun v15 =>
Cl (f_X2_lookAt r1 v14 v15 M) fun v17 M16 =>
Lt (fun (M18 : Mm) => 
Lt (fun (v20 : Int) (M21 : Mm) => 
some (v20, M21)) fun J45_22 =>
if v17 = ((-8)) then (
J45_22 0 M18) else (
J45_22 1 M18)) fun J34_19 =>
if v17 = ((-8)) then (
J34_19 M16) else (
Cl (f_X4_settle r1 v17 M16) fun _ M25 =>
J34_19 M25))
theorem cy_X2_goOn : yX2_goOn.cls ≠ "java/lang/invoke/MethodHandle" ∧ yX2_goOn.cls ≠ "java/lang/invoke/VarHandle" ∧ (parseMethodDescriptor yX2_goOn.desc).map (fun d => d.parameters.length) = some 1 := ⟨by decide +kernel, by decide +kernel, by decide +kernel⟩
set_option maxRecDepth 20000 in
theorem ok_X2_goOn (l : Launch) (D : Dd) (base : Nat) (M : Mm) (r1 : Nat) (hr1 : isR r1) : OkI l D TC 681 base yX2_goOn cX2_goOn 6 (some .boolean) 3 74 [.ref (base + 310), .ref (base + r1)] M bo (f_X2_goOn r1 M) := by
  refine metI (by decide +kernel) [(0, .ref (base + 310)), (1, .ref (base + r1))] rfl (Nat.le_of_ble_eq_true rfl) (fun p e s m args below meth c X hrt hlk => ?_)
  have X : Cx p s m args c cX2_goOn D 6 RX2 := X
  unfold f_X2_goOn
  refine go_aload_n X dX2_goOn_0 rfl 1 rfl ?_
  refine go_getq (i := 5) X fc4 dX2_goOn_1 (nR hr1) (tR hr1) (Nat.le_of_ble_eq_true rfl) rfl lw184 rfl (fun v1 => ?_)
  refine go_astore_nQ (i := 2) (L' := [(2, rv base v1), (0, .ref (base + 310)), (1, .ref (base + r1))]) X dX2_goOn_4 rfl (by decide) rfl ?_
  refine go_aload_nQ X dX2_goOn_5 rfl 0 rfl ?_
  refine go_ifnonnull (tgt := 46) X dX2_goOn_6 rfl (fun c2 => ?_) (fun c2 => ?_)
  · refine go_aload_n X dX2_goOn_46 rfl 2 rfl ?_
    refine go_geti (i := 6) X fc4 dX2_goOn_47 (nR hr1) (tR hr1) (Nat.le_of_ble_eq_true rfl) rfl lw183 rfl (fun v3 hv3 => ?_)
    refine go_istore_n (i := 3) (L' := [(3, .int (Ii v3)), (2, rv base v1), (0, .ref (base + 310)), (1, .ref (base + r1))]) X dX2_goOn_50 rfl (by decide) (by simp [rv_cat, cat_i, cat_r, cat_l]) ?_
    refine go_aload_n X dX2_goOn_51 rfl 2 rfl ?_
    refine go_aload_n X dX2_goOn_52 rfl 3 rfl ?_
    refine go_gd (fun g4 => ?_)
    refine go_aload_nP X dX2_goOn_53 rfl 1 rfl g4.1 ?_
    refine go_iload_n X dX2_goOn_54 rfl 0 rfl ?_
    refine goI (fun H locs ls r ho hW hL => runV X (ok_X2_lookAtStep l D base M r1 hr1 v1.toNat g4.2 v3 hv3 H.size r ho) dX2_goOn_55 lw341 lw342 lw343 lw216 ⟨lw316, cy_X2_lookAtStep, Nat.le_of_ble_eq_true rfl, Nat.le_of_ble_eq_true rfl⟩ rfl tcn310 tc310 rfl rfl rfl rfl (Nat.le_of_ble_eq_true rfl) hW hL hk0) (fun v6 M5 hv6 => ?_)
    refine go_istore (i := 4) (L' := [(4, .int (Ii v6)), (3, .int (Ii v3)), (2, rv base v1), (0, .ref (base + 310)), (1, .ref (base + r1))]) X dX2_goOn_58 (by decide) rfl ?_
    refine go_iload X dX2_goOn_60 0 rfl ?_
    refine go_bipush (v := (-8)) X dX2_goOn_62 (by decide) ?_
    refine go_icmp_ne (tgt := 69) X dX2_goOn_64 rfl hv6 kI_m8 (fun c7 => ?_) (fun c7 => ?_)
    · refine go_aload_n X dX2_goOn_69 rfl 4 rfl ?_
      refine go_aload_nP X dX2_goOn_70 rfl 2 rfl g4.1 ?_
      refine go_iload_n X dX2_goOn_71 rfl 1 rfl ?_
      refine go_iload X dX2_goOn_72 0 rfl ?_
      refine goI (fun H locs ls r ho hW hL => runV X (ok_X4_climb l D base M5 r1 hr1 v1.toNat g4.2 v3 hv3 v6 hv6 H.size r ho) dX2_goOn_74 lw344 lw345 lw346 lw157 ⟨lw336, cy_X4_climb, Nat.le_of_ble_eq_true rfl, Nat.le_of_ble_eq_true rfl⟩ rfl (nR hr1) (tR hr1) rfl rfl rfl rfl (Nat.le_of_ble_eq_true rfl) hW hL hk0) (fun v9 M8 hv9 => ?_)
      refine go_istore (i := 5) (L' := [(5, .int (Ii v9)), (4, .int (Ii v6)), (3, .int (Ii v3)), (2, rv base v1), (0, .ref (base + 310)), (1, .ref (base + r1))]) X dX2_goOn_77 (by decide) rfl ?_
      refine go_iload X dX2_goOn_79 0 rfl ?_
      refine go_bipush (v := (-7)) X dX2_goOn_81 (by decide) ?_
      refine go_lt (fun J => ∀ (M10 : Mm), Go p l e (rmO 3 74) s m args below meth c D TC 681 base 6 0 0 (FinI D TC 681 base below args s bo) M10 93 [] [] (J M10)) (by
          intro M10
          refine go_iconst (v := 1) X dX2_goOn_93 rfl ?_
          exact go_zreturn X hrt hlk dX2_goOn_94 (Or.inr rfl) (Or.inr rfl)
          )
          (fun J93_11 hJ93_11 => ?_)
      refine go_icmp_eq (tgt := 93) X dX2_goOn_83 rfl hv9 kI_m7 (fun c12 => ?_) (fun c12 => ?_)
      · refine go_sub [] rfl ?_
        exact hJ93_11 M8
      · refine go_aload_n X dX2_goOn_86 rfl 4 rfl ?_
        refine go_aload_n X dX2_goOn_87 rfl 5 rfl ?_
        refine go_iload X dX2_goOn_88 0 rfl ?_
        refine goV (fun H locs ls r ho hW hL => runV X (ok_X2_takeWhole l D base M8 r1 hr1 v9 hv9 H.size r ho) dX2_goOn_90 lw347 lw348 lw349 lw216 ⟨lw340, cy_X2_takeWhole, Nat.le_of_ble_eq_true rfl, Nat.le_of_ble_eq_true rfl⟩ rfl tcn310 tc310 rfl rfl rfl rfl (Nat.le_of_ble_eq_true rfl) hW hL hk0) (fun _ M13 => ?_)
        refine go_sub [] rfl ?_
        exact hJ93_11 M13
    · refine go_iconst (v := 0) X dX2_goOn_67 rfl ?_
      exact go_zreturn X hrt hlk dX2_goOn_68 (Or.inl rfl) (Or.inl rfl)
  · refine go_aload_n X dX2_goOn_9 rfl 1 rfl ?_
    refine go_aload_n X dX2_goOn_10 rfl 2 rfl ?_
    refine go_aload_n X dX2_goOn_11 rfl 2 rfl ?_
    refine go_geti (i := 2) X fc4 dX2_goOn_12 (nR hr1) (tR hr1) (Nat.le_of_ble_eq_true rfl) rfl lw176 rfl (fun v14 hv14 => ?_)
    refine go_aload_n X dX2_goOn_15 rfl 2 rfl ?_
    refine go_geti (i := 1) X fc4 dX2_goOn_16 (nR hr1) (tR hr1) (Nat.le_of_ble_eq_true rfl) rfl lw180 rfl (fun v15 hv15 => ?_)
    refine goI (fun H locs ls r ho hW hL => runV X (ok_X2_lookAt l D base M r1 hr1 v14 hv14 v15 hv15 H.size r ho) dX2_goOn_19 lw298 lw299 lw300 lw216 ⟨lw268, cy_X2_lookAt, Nat.le_of_ble_eq_true rfl, Nat.le_of_ble_eq_true rfl⟩ rfl tcn310 tc310 rfl rfl rfl rfl (Nat.le_of_ble_eq_true rfl) hW hL hk0) (fun v17 M16 hv17 => ?_)
    refine go_istore_n (i := 3) (L' := [(3, .int (Ii v17)), (2, rv base v1), (0, .ref (base + 310)), (1, .ref (base + r1))]) X dX2_goOn_22 rfl (by decide) (by simp [rv_cat, cat_i, cat_r, cat_l]) ?_
    refine go_iload_n X dX2_goOn_23 rfl 0 rfl ?_
    refine go_bipush (v := (-8)) X dX2_goOn_24 (by decide) ?_
    refine go_lt (fun J => ∀ (M18 : Mm), Go p l e (rmO 3 74) s m args below meth c D TC 681 base 6 0 0 (FinI D TC 681 base below args s bo) M18 34 [(3, .int (Ii v17))] [] (J M18)) (by
        intro M18
        refine go_iload_n X dX2_goOn_34 rfl 0 rfl ?_
        refine go_bipush (v := (-8)) X dX2_goOn_35 (by decide) ?_
        refine go_lt (fun J => ∀ (v20 : Int) (M21 : Mm), bo v20 → Go p l e (rmO 3 74) s m args below meth c D TC 681 base 6 0 0 (FinI D TC 681 base below args s bo) M21 45 [] [.int (Ii v20)] (J v20 M21)) (by
            intro v20 M21 hv20
            exact go_zreturn X hrt hlk dX2_goOn_45 hv20 hv20
            )
            (fun J45_22 hJ45_22 => ?_)
        refine go_icmp_eq (tgt := 44) X dX2_goOn_37 rfl hv17 kI_m8 (fun c23 => ?_) (fun c23 => ?_)
        · refine go_iconst (v := 0) X dX2_goOn_44 rfl ?_
          refine go_sub [] rfl ?_
          exact hJ45_22 0 M18 (Or.inl rfl)
        · refine go_iconst (v := 1) X dX2_goOn_40 rfl ?_
          refine go_goto (tgt := 45) X dX2_goOn_41 rfl ?_
          refine go_sub [] rfl ?_
          exact hJ45_22 1 M18 (Or.inr rfl)
        )
        (fun J34_19 hJ34_19 => ?_)
    refine go_icmp_eq (tgt := 34) X dX2_goOn_26 rfl hv17 kI_m8 (fun c24 => ?_) (fun c24 => ?_)
    · refine go_sub [0] rfl ?_
      exact hJ34_19 M16
    · refine go_aload_n X dX2_goOn_29 rfl 3 rfl ?_
      refine go_iload_n X dX2_goOn_30 rfl 0 rfl ?_
      refine goV (fun H locs ls r ho hW hL => runV X (ok_X4_settle l D base M16 r1 hr1 v17 hv17 H.size r ho) dX2_goOn_31 lw194 lw195 lw196 lw157 ⟨lw173, cy_X4_settle, Nat.le_of_ble_eq_true rfl, Nat.le_of_ble_eq_true rfl⟩ rfl (nR hr1) (tR hr1) rfl rfl rfl rfl (Nat.le_of_ble_eq_true rfl) hW hL hk0) (fun _ M25 => ?_)
      refine go_sub [0] rfl ?_
      exact hJ34_19 M25
def f_X2_find_L48_41 (J115_12 : Mm → Rs) (J73_18 : Mm → Rs) (rc48_21 : Int × Mm → Rs) : Int × Mm → Rs := fun (v19, M20) =>
if 10000000 ≤ v19 then (
J115_12 M20) else (
Lt (M20 310 9) fun v23 =>
if v23 ≤ 0 then (
J115_12 M20) else (
Cl (f_X2_topFrame M20) fun v26 M25 =>
if ¬ v26 < 0 then (
gd (¬ v26 < 0 ∧ isR v26.toNat) <|
Lt (M25 v26.toNat 9) fun v29 =>
Lt (fun (v30 : Int) (M31 : Mm) => 
Lt (wr (v30 + 1)) fun v33 =>
rc48_21 (v33, M31)) fun J109_32 =>
if v29 = 0 then (
Cl (f_X2_goOn v26.toNat M25) fun v36 M35 =>
if ¬ v36 = 0 then (
J109_32 v19 M35) else (
Lt (M35 310 10) fun v38 =>
Cl (f_X2_begin v38 M35) fun _ M39 =>
J109_32 v19 M39)) else (
Cl (f_X2_close v26.toNat M25) fun _ M40 =>
J109_32 v19 M40)) else (
J73_18 M25)))
def f_X2_find (a1 : Int) (a2 : Int) (r3 : Nat) (M : Mm) : Rs :=
Cl (f_X11_slotOf a1 a2 M) fun v2 M1 =>
Lt (up M1 310 12 (((r3 : Nat) : Int))) fun M3 =>
Lt (M3 310 12) fun v4 =>
gd (¬ v4 < 0 ∧ isF v4.toNat) <|
Cl (f_X3_has v4.toNat v2 M3) fun v7 M6 =>
if v7 = 0 then (
Lt (up M6 310 9 0) fun M9 =>
Cl (f_X2_begin v2 M9) fun _ M10 =>
Lt (fun (M11 : Mm) => 
Lt (M11 310 12) fun v13 =>
gd (¬ v13 < 0 ∧ isF v13.toNat) <|
Cl (f_X3_valueOf v13.toNat v2 M11) fun v16 M15 =>
some (v16, M15)) fun J115_12 =>
Lt (fun (M17 : Mm) => 
some ((-1), M17)) fun J73_18 =>
Lp (f_X2_find_L48_41 J115_12 J73_18) FU (0, M10)) else (
Lt (M6 310 12) fun v42 =>
gd (¬ v42 < 0 ∧ isF v42.toNat) <|
Cl (f_X3_valueOf v42.toNat v2 M6) fun v45 M44 =>
some (v45, M44))
theorem cy_X2_find : yX2_find.cls ≠ "java/lang/invoke/MethodHandle" ∧ yX2_find.cls ≠ "java/lang/invoke/VarHandle" ∧ (parseMethodDescriptor yX2_find.desc).map (fun d => d.parameters.length) = some 3 := ⟨by decide +kernel, by decide +kernel, by decide +kernel⟩
set_option maxRecDepth 20000 in
theorem ok_X2_find (l : Launch) (D : Dd) (base : Nat) (M : Mm) (a1 : Int) (ha1 : i32 a1) (a2 : Int) (ha2 : i32 a2) (r3 : Nat) (hr3 : isF r3) : OkI l D TC 681 base yX2_find cX2_find 7 (some .int) 4 99 [.ref (base + 310), .int (Ii a1), .int (Ii a2), .ref (base + r3)] M i32 (f_X2_find a1 a2 r3 M) := by
  refine metI (by decide +kernel) [(0, .ref (base + 310)), (1, .int (Ii a1)), (2, .int (Ii a2)), (3, .ref (base + r3))] rfl (Nat.le_of_ble_eq_true rfl) (fun p e s m args below meth c X hrt hlk => ?_)
  have X : Cx p s m args c cX2_find D 7 RX2 := X
  unfold f_X2_find
  refine go_iload_n X dX2_find_0 rfl 1 rfl ?_
  refine go_iload_n X dX2_find_1 rfl 2 rfl ?_
  refine goI (fun H locs ls r ho hW hL => runSN X (ok_X11_slotOf l D base M a1 ha1 a2 ha2 H.size r ho) dX2_find_2 nl34 lw241 lw19 ⟨lw159, cy_X11_slotOf, Nat.le_of_ble_eq_true rfl, Nat.le_of_ble_eq_true rfl⟩ rfl rfl (Nat.le_of_ble_eq_true rfl) hW hL hk0) (fun v2 M1 hv2 => ?_)
  refine go_istore (i := 4) (L' := [(4, .int (Ii v2)), (0, .ref (base + 310)), (1, .int (Ii a1)), (2, .int (Ii a2)), (3, .ref (base + r3))]) X dX2_find_5 (by decide) rfl ?_
  refine go_aload_n X dX2_find_7 rfl 1 rfl ?_
  refine go_aload_n X dX2_find_8 rfl 4 rfl ?_
  refine go_putq (i := 12) X fc2 dX2_find_9 tcn310 tc310 (Nat.le_of_ble_eq_true rfl) rfl lw240 rfl rfl rfl (rv_nat base _).symm (fun M3 => ?_)
  refine go_aload_n X dX2_find_12 rfl 1 rfl ?_
  refine go_getq (i := 12) X fc2 dX2_find_13 tcn310 tc310 (Nat.le_of_ble_eq_true rfl) rfl lw240 rfl (fun v4 => ?_)
  refine go_gd (fun g5 => ?_)
  refine go_q2r g5.1 ?_
  refine go_iload X dX2_find_16 0 rfl ?_
  refine goI (fun H locs ls r ho hW hL => runV X (ok_X3_has l D base M3 v4.toNat g5.2 v2 hv2 H.size r ho) dX2_find_18 lw256 lw257 lw258 lw245 ⟨lw160, cy_X3_has, Nat.le_of_ble_eq_true rfl, Nat.le_of_ble_eq_true rfl⟩ rfl (nF g5.2) (tF g5.2) rfl rfl rfl rfl (Nat.le_of_ble_eq_true rfl) hW hL hk0) (fun v7 M6 hv7 => ?_)
  refine go_if_eq (tgt := 34) X dX2_find_21 rfl (bo_i32 hv7) (fun c8 => ?_) (fun c8 => ?_)
  · refine go_aload_n X dX2_find_34 rfl 1 rfl ?_
    refine go_iconst (v := 0) X dX2_find_35 rfl ?_
    refine go_puti (i := 9) X fc2 dX2_find_36 tcn310 tc310 (Nat.le_of_ble_eq_true rfl) rfl lw165 rfl rfl rfl kI_0 (fun M9 => ?_)
    refine go_aload_n X dX2_find_39 rfl 1 rfl ?_
    refine go_iload X dX2_find_40 0 rfl ?_
    refine goV (fun H locs ls r ho hW hL => runV X (ok_X2_begin l D base M9 v2 hv2 H.size r ho) dX2_find_42 lw352 lw353 lw354 lw216 ⟨lw236, cy_X2_begin, Nat.le_of_ble_eq_true rfl, Nat.le_of_ble_eq_true rfl⟩ rfl tcn310 tc310 rfl rfl rfl rfl (Nat.le_of_ble_eq_true rfl) hW hL hk0) (fun _ M10 => ?_)
    refine go_iconst (v := 0) X dX2_find_45 rfl ?_
    refine go_istore (i := 5) (L' := [(5, .int (Ii 0)), (4, .int (Ii v2)), (0, .ref (base + 310)), (1, .int (Ii a1)), (2, .int (Ii a2)), (3, .ref (base + r3))]) X dX2_find_46 (by decide) rfl ?_
    refine go_lt (fun J => ∀ (M11 : Mm), Go p l e (rmO 4 99) s m args below meth c D TC 681 base 7 0 0 (FinI D TC 681 base below args s i32) M11 115 [(0, .ref (base + 310)), (4, .int (Ii v2))] [] (J M11)) (by
        intro M11
        refine go_aload_n X dX2_find_115 rfl 0 rfl ?_
        refine go_getq (i := 12) X fc2 dX2_find_116 tcn310 tc310 (Nat.le_of_ble_eq_true rfl) rfl lw240 rfl (fun v13 => ?_)
        refine go_gd (fun g14 => ?_)
        refine go_q2r g14.1 ?_
        refine go_iload X dX2_find_119 1 rfl ?_
        refine goI (fun H locs ls r ho hW hL => runV X (ok_X3_valueOf l D base M11 v13.toNat g14.2 v2 hv2 H.size r ho) dX2_find_121 lw262 lw263 lw264 lw245 ⟨lw162, cy_X3_valueOf, Nat.le_of_ble_eq_true rfl, Nat.le_of_ble_eq_true rfl⟩ rfl (nF g14.2) (tF g14.2) rfl rfl rfl rfl (Nat.le_of_ble_eq_true rfl) hW hL hk0) (fun v16 M15 hv16 => ?_)
        exact go_ireturn X hrt hlk dX2_find_124 hv16
        )
        (fun J115_12 hJ115_12 => ?_)
    refine go_lt (fun J => ∀ (M17 : Mm), Go p l e (rmO 4 99) s m args below meth c D TC 681 base 7 0 0 (FinI D TC 681 base below args s i32) M17 73 [] [] (J M17)) (by
        intro M17
        refine go_iconst (v := (-1)) X dX2_find_73 rfl ?_
        exact go_ireturn X hrt hlk dX2_find_74 kI_m1
        )
        (fun J73_18 hJ73_18 => ?_)
    refine go_sub [2, 1, 0] rfl ?_
    exact go_lp (fun (rc : Int × Mm → Rs) => ∀ (v19 : Int) (M20 : Mm), i32 v19 → Go p l e (rmO 4 99) s m args below meth c D TC 681 base 7 0 0 (FinI D TC 681 base below args s i32) M20 48 [(0, .ref (base + 310)), (4, .int (Ii v2)), (5, .int (Ii v19))] [] (rc (v19, M20)))
        (by intro v19 M20 hv19; exact go_none)
        (by
        intro rc48_21 hrc48_21 v19 M20 hv19
        unfold f_X2_find_L48_41
        dsimp only
        refine go_iload X dX2_find_48 2 rfl ?_
        refine go_ldc (v := 10000000) X dX2_find_50 lw351 rfl ?_
        refine go_icmp_ge (tgt := 115) X dX2_find_52 rfl hv19 kI_10000000 (fun c22 => ?_) (fun c22 => ?_)
        · refine go_sub [0, 1] rfl ?_
          exact hJ115_12 M20
        · refine go_aload_n X dX2_find_55 rfl 0 rfl ?_
          refine go_geti (i := 9) X fc2 dX2_find_56 tcn310 tc310 (Nat.le_of_ble_eq_true rfl) rfl lw165 rfl (fun v23 hv23 => ?_)
          refine go_if_le (tgt := 115) X dX2_find_59 rfl hv23 (fun c24 => ?_) (fun c24 => ?_)
          · refine go_sub [0, 1] rfl ?_
            exact hJ115_12 M20
          · refine go_aload_n X dX2_find_62 rfl 0 rfl ?_
            refine goR (fun H locs ls r ho hW hL => runV X (ok_X2_topFrame l D base M20  H.size r ho) dX2_find_63 lw213 lw214 lw215 lw216 ⟨lw164, cy_X2_topFrame, Nat.le_of_ble_eq_true rfl, Nat.le_of_ble_eq_true rfl⟩ rfl tcn310 tc310 rfl rfl rfl rfl (Nat.le_of_ble_eq_true rfl) hW hL hk0) (fun v26 M25 => ?_)
            refine go_astoreQ (i := 6) (L' := [(6, rv base v26), (0, .ref (base + 310)), (4, .int (Ii v2)), (5, .int (Ii v19))]) X dX2_find_66 (by decide) rfl ?_
            refine go_aloadQ X dX2_find_68 0 rfl ?_
            refine go_ifnonnull (tgt := 75) X dX2_find_70 rfl (fun c27 => ?_) (fun c27 => ?_)
            · refine go_gd (fun g28 => ?_)
              refine go_aloadP X dX2_find_75 0 rfl g28.1 ?_
              refine go_getz (i := 9) X fc4 dX2_find_77 (nR g28.2) (tR g28.2) (Nat.le_of_ble_eq_true rfl) rfl lw211 rfl (fun v29 hv29 => ?_)
              refine go_lt (fun J => ∀ (v30 : Int) (M31 : Mm), i32 v30 → Go p l e (rmO 4 99) s m args below meth c D TC 681 base 7 0 0 (FinI D TC 681 base below args s i32) M31 109 [(0, .ref (base + 310)), (4, .int (Ii v2)), (5, .int (Ii v30))] [] (J v30 M31)) (by
                  intro v30 M31 hv30
                  refine go_iinc (i := 5) (L' := fun v => [(5, .int (Ii v)), (0, .ref (base + 310)), (4, .int (Ii v2))]) X dX2_find_109 hv30 kI_1 (j := 2) rfl (by decide) (fun _ => rfl) (fun v33 hv33 => ?_)
                  refine go_goto (tgt := 48) X dX2_find_112 rfl ?_
                  refine go_sub [1, 2, 0] rfl ?_
                  exact hrc48_21 v33 M31 hv33
                  )
                  (fun J109_32 hJ109_32 => ?_)
              refine go_if_eq (tgt := 92) X dX2_find_80 rfl (bo_i32 hv29) (fun c34 => ?_) (fun c34 => ?_)
              · refine go_aload_n X dX2_find_92 rfl 1 rfl ?_
                refine go_aloadP X dX2_find_93 0 rfl g28.1 ?_
                refine goI (fun H locs ls r ho hW hL => runV X (ok_X2_goOn l D base M25 v26.toNat g28.2 H.size r ho) dX2_find_95 lw358 lw359 lw360 lw216 ⟨lw350, cy_X2_goOn, Nat.le_of_ble_eq_true rfl, Nat.le_of_ble_eq_true rfl⟩ rfl tcn310 tc310 rfl rfl rfl rfl (Nat.le_of_ble_eq_true rfl) hW hL hk0) (fun v36 M35 hv36 => ?_)
                refine go_if_ne (tgt := 109) X dX2_find_98 rfl (bo_i32 hv36) (fun c37 => ?_) (fun c37 => ?_)
                · refine go_sub [1, 2, 3] rfl ?_
                  exact hJ109_32 v19 M35 hv19
                · refine go_aload_n X dX2_find_101 rfl 1 rfl ?_
                  refine go_aload_n X dX2_find_102 rfl 1 rfl ?_
                  refine go_geti (i := 10) X fc2 dX2_find_103 tcn310 tc310 (Nat.le_of_ble_eq_true rfl) rfl lw252 rfl (fun v38 hv38 => ?_)
                  refine goV (fun H locs ls r ho hW hL => runV X (ok_X2_begin l D base M35 v38 hv38 H.size r ho) dX2_find_106 lw352 lw353 lw354 lw216 ⟨lw236, cy_X2_begin, Nat.le_of_ble_eq_true rfl, Nat.le_of_ble_eq_true rfl⟩ rfl tcn310 tc310 rfl rfl rfl rfl (Nat.le_of_ble_eq_true rfl) hW hL hk0) (fun _ M39 => ?_)
                  refine go_sub [1, 2, 3] rfl ?_
                  exact hJ109_32 v19 M39 hv19
              · refine go_aload_n X dX2_find_83 rfl 1 rfl ?_
                refine go_aloadP X dX2_find_84 0 rfl g28.1 ?_
                refine goV (fun H locs ls r ho hW hL => runV X (ok_X2_close l D base M25 v26.toNat g28.2 H.size r ho) dX2_find_86 lw355 lw356 lw357 lw216 ⟨lw246, cy_X2_close, Nat.le_of_ble_eq_true rfl, Nat.le_of_ble_eq_true rfl⟩ rfl tcn310 tc310 rfl rfl rfl rfl (Nat.le_of_ble_eq_true rfl) hW hL hk0) (fun _ M40 => ?_)
                refine go_goto (tgt := 109) X dX2_find_89 rfl ?_
                refine go_sub [1, 2, 3] rfl ?_
                exact hJ109_32 v19 M40 hv19
            · refine go_sub [] rfl ?_
              exact hJ73_18 M25
        )
        FU 0 M10 kI_0
  · refine go_aload_n X dX2_find_24 rfl 1 rfl ?_
    refine go_getq (i := 12) X fc2 dX2_find_25 tcn310 tc310 (Nat.le_of_ble_eq_true rfl) rfl lw240 rfl (fun v42 => ?_)
    refine go_gd (fun g43 => ?_)
    refine go_q2r g43.1 ?_
    refine go_iload X dX2_find_28 0 rfl ?_
    refine goI (fun H locs ls r ho hW hL => runV X (ok_X3_valueOf l D base M6 v42.toNat g43.2 v2 hv2 H.size r ho) dX2_find_30 lw262 lw263 lw264 lw245 ⟨lw162, cy_X3_valueOf, Nat.le_of_ble_eq_true rfl, Nat.le_of_ble_eq_true rfl⟩ rfl (nF g43.2) (tF g43.2) rfl rfl rfl rfl (Nat.le_of_ble_eq_true rfl) hW hL hk0) (fun v45 M44 hv45 => ?_)
    exact go_ireturn X hrt hlk dX2_find_33 hv45
def f_X11_foundWith (a1 : Int) (a2 : Int) (r3 : Nat) (M : Mm) : Rs :=
Cl (f_X5_kindOf a2 M) fun v2 M1 =>
if ¬ v2 = 3 then (
Cl (f_X2_find a1 a2 r3 M1) fun v5 M4 =>
some (v5, M4)) else (
Cl (f_X11_slotOf a1 a2 M1) fun v7 M6 =>
Cl (f_X7_valueOf v7 M6) fun v9 M8 =>
some (v9, M8))
theorem cy_X11_foundWith : yX11_foundWith.cls ≠ "java/lang/invoke/MethodHandle" ∧ yX11_foundWith.cls ≠ "java/lang/invoke/VarHandle" ∧ (parseMethodDescriptor yX11_foundWith.desc).map (fun d => d.parameters.length) = some 3 := ⟨by decide +kernel, by decide +kernel, by decide +kernel⟩
set_option maxRecDepth 20000 in
theorem ok_X11_foundWith (l : Launch) (D : Dd) (base : Nat) (M : Mm) (a1 : Int) (ha1 : i32 a1) (a2 : Int) (ha2 : i32 a2) (r3 : Nat) (hr3 : isF r3) : OkI l D TC 681 base yX11_foundWith cX11_foundWith 4 (some .int) 5 125 [.ref (base + 0), .int (Ii a1), .int (Ii a2), .ref (base + r3)] M i32 (f_X11_foundWith a1 a2 r3 M) := by
  refine metI (by decide +kernel) [(0, .ref (base + 0)), (1, .int (Ii a1)), (2, .int (Ii a2)), (3, .ref (base + r3))] rfl (Nat.le_of_ble_eq_true rfl) (fun p e s m args below meth c X hrt hlk => ?_)
  have X : Cx p s m args c cX11_foundWith D 4 RX11 := X
  unfold f_X11_foundWith
  refine go_aload_n X dX11_foundWith_0 rfl 0 rfl ?_
  refine go_getc (i := 0) X fc11 dX11_foundWith_1 tcn0 tc0 (Nat.le_of_ble_eq_true rfl) rfl lw639 rfl ?_
  refine go_iload_n X dX11_foundWith_4 rfl 2 rfl ?_
  refine goI (fun H locs ls r ho hW hL => runV X (ok_X5_kindOf l D base M a2 ha2 H.size r ho) dX11_foundWith_5 lw771 lw222 lw223 lw80 ⟨lw168, cy_X5_kindOf, Nat.le_of_ble_eq_true rfl, Nat.le_of_ble_eq_true rfl⟩ rfl tcn1 tc1 rfl rfl rfl rfl (Nat.le_of_ble_eq_true rfl) hW hL hk0) (fun v2 M1 hv2 => ?_)
  refine go_iconst (v := 3) X dX11_foundWith_8 rfl ?_
  refine go_icmp_ne (tgt := 25) X dX11_foundWith_9 rfl hv2 kI_3 (fun c3 => ?_) (fun c3 => ?_)
  · refine go_aload_n X dX11_foundWith_25 rfl 0 rfl ?_
    refine go_getc (i := 8) X fc11 dX11_foundWith_26 tcn0 tc0 (Nat.le_of_ble_eq_true rfl) rfl lw660 rfl ?_
    refine go_iload_n X dX11_foundWith_29 rfl 1 rfl ?_
    refine go_iload_n X dX11_foundWith_30 rfl 2 rfl ?_
    refine go_aload_n X dX11_foundWith_31 rfl 3 rfl ?_
    refine goI (fun H locs ls r ho hW hL => runV X (ok_X2_find l D base M1 a1 ha1 a2 ha2 r3 hr3 H.size r ho) dX11_foundWith_32 lw836 lw363 lw364 lw216 ⟨lw361, cy_X2_find, Nat.le_of_ble_eq_true rfl, Nat.le_of_ble_eq_true rfl⟩ rfl tcn310 tc310 rfl rfl rfl rfl (Nat.le_of_ble_eq_true rfl) hW hL hk0) (fun v5 M4 hv5 => ?_)
    exact go_ireturn X hrt hlk dX11_foundWith_35 hv5
  · refine go_aload_n X dX11_foundWith_12 rfl 0 rfl ?_
    refine go_getc (i := 9) X fc11 dX11_foundWith_13 tcn0 tc0 (Nat.le_of_ble_eq_true rfl) rfl lw663 rfl ?_
    refine go_iload_n X dX11_foundWith_16 rfl 1 rfl ?_
    refine go_iload_n X dX11_foundWith_17 rfl 2 rfl ?_
    refine goI (fun H locs ls r ho hW hL => runS X (ok_X11_slotOf l D base M1 a1 ha1 a2 ha2 H.size r ho) dX11_foundWith_18 lw834 lw241 lw19 ⟨lw159, cy_X11_slotOf, Nat.le_of_ble_eq_true rfl, Nat.le_of_ble_eq_true rfl⟩ rfl rfl (Nat.le_of_ble_eq_true rfl) hW hL hk0) (fun v7 M6 hv7 => ?_)
    refine goI (fun H locs ls r ho hW hL => runV X (ok_X7_valueOf l D base M6 v7 hv7 H.size r ho) dX11_foundWith_21 lw835 lw520 lw521 lw522 ⟨lw512, cy_X7_valueOf, Nat.le_of_ble_eq_true rfl, Nat.le_of_ble_eq_true rfl⟩ rfl tcn676 tc676 rfl rfl rfl rfl (Nat.le_of_ble_eq_true rfl) hW hL hk0) (fun v9 M8 hv9 => ?_)
    exact go_ireturn X hrt hlk dX11_foundWith_24 hv9
def f_X8_clear (h : Nat) (M : Mm) : Rs :=
Lt (up M h 0 0) fun M1 =>
Lt (up M1 h 1 0) fun M2 =>
some (0, M2)
theorem cy_X8_clear : yX8_clear.cls ≠ "java/lang/invoke/MethodHandle" ∧ yX8_clear.cls ≠ "java/lang/invoke/VarHandle" ∧ (parseMethodDescriptor yX8_clear.desc).map (fun d => d.parameters.length) = some 0 := ⟨by decide +kernel, by decide +kernel, by decide +kernel⟩
set_option maxRecDepth 20000 in
theorem ok_X8_clear (l : Launch) (D : Dd) (base : Nat) (M : Mm) (h : Nat) (hh : isT h) : OkV l D TC 681 base yX8_clear cX8_clear 1 none 0 0 [.ref (base + h)] M (f_X8_clear h M) := by
  refine metV (by decide +kernel) [(0, .ref (base + h))] rfl (Nat.le_of_ble_eq_true rfl) (fun p e s m args below meth c X hrt hlk => ?_)
  have X : Cx p s m args c cX8_clear D 1 RX8 := X
  unfold f_X8_clear
  refine go_aload_n X dX8_clear_0 rfl 0 rfl ?_
  refine go_iconst (v := 0) X dX8_clear_1 rfl ?_
  refine go_puti (i := 0) X fc8 dX8_clear_2 (nT hh) (tT hh) (Nat.le_of_ble_eq_true rfl) rfl lw270 rfl rfl rfl kI_0 (fun M1 => ?_)
  refine go_aload_n X dX8_clear_5 rfl 0 rfl ?_
  refine go_iconst (v := 0) X dX8_clear_6 rfl ?_
  refine go_puti (i := 1) X fc8 dX8_clear_7 (nT hh) (tT hh) (Nat.le_of_ble_eq_true rfl) rfl lw531 rfl rfl rfl kI_0 (fun M2 => ?_)
  exact go_vreturn X hrt hlk dX8_clear_10
def f_X9_placeOf (a1 : Int) (a2 : Int) (a3 : Int) (M : Mm) : Rs :=
Lt (wr (a1 * 169)) fun v1 =>
Lt (wr (a2 * 13)) fun v2 =>
Lt (wr (v1 + v2)) fun v3 =>
Lt (wr (v3 + a3)) fun v4 =>
some (v4, M)
theorem cy_X9_placeOf : yX9_placeOf.cls ≠ "java/lang/invoke/MethodHandle" ∧ yX9_placeOf.cls ≠ "java/lang/invoke/VarHandle" ∧ (parseMethodDescriptor yX9_placeOf.desc).map (fun d => d.parameters.length) = some 3 := ⟨by decide +kernel, by decide +kernel, by decide +kernel⟩
set_option maxRecDepth 20000 in
theorem ok_X9_placeOf (l : Launch) (D : Dd) (base : Nat) (M : Mm) (a1 : Int) (ha1 : i32 a1) (a2 : Int) (ha2 : i32 a2) (a3 : Int) (ha3 : i32 a3) : OkI l D TC 681 base yX9_placeOf cX9_placeOf 3 (some .int) 0 0 [.int (Ii a1), .int (Ii a2), .int (Ii a3)] M i32 (f_X9_placeOf a1 a2 a3 M) := by
  refine metI (by decide +kernel) [(0, .int (Ii a1)), (1, .int (Ii a2)), (2, .int (Ii a3))] rfl (Nat.le_of_ble_eq_true rfl) (fun p e s m args below meth c X hrt hlk => ?_)
  have X : Cx p s m args c cX9_placeOf D 3 RX9 := X
  unfold f_X9_placeOf
  refine go_iload_n X dX9_placeOf_0 rfl 0 rfl ?_
  refine go_sipush (v := 169) X dX9_placeOf_1 (by decide) ?_
  refine go_imul X dX9_placeOf_4 ha1 kI_169 (fun v1 hv1 => ?_)
  refine go_iload_n X dX9_placeOf_5 rfl 1 rfl ?_
  refine go_bipush (v := 13) X dX9_placeOf_6 (by decide) ?_
  refine go_imul X dX9_placeOf_8 ha2 kI_13 (fun v2 hv2 => ?_)
  refine go_iadd X dX9_placeOf_9 hv1 hv2 (fun v3 hv3 => ?_)
  refine go_iload_n X dX9_placeOf_10 rfl 2 rfl ?_
  refine go_iadd X dX9_placeOf_11 hv3 ha3 (fun v4 hv4 => ?_)
  exact go_ireturn X hrt hlk dX9_placeOf_12 hv4
def f_X9_measureLetter_L15_54 (a1 : Int) (J103_10 : Int → Mm → Rs) (rc15_16 : Int × Int × Int × Mm → Rs) : Int × Int × Int × Mm → Rs := fun (v12, v13, v14, M15) =>
Lt (M15 273 0) fun v17 =>
if v17 < v14 then (
J103_10 v12 M15) else (
Lt (fun (v19 : Int) (v20 : Int) (v21 : Int) (M22 : Mm) => 
Lt (fun (v24 : Int) (v25 : Int) (v26 : Int) (M27 : Mm) => 
Lt (wr (4 + a1)) fun v29 =>
Cl (f_X9_placeOf v29 v24 v25 M27) fun v31 M30 =>
Lt (wr (v26 * 100000)) fun v32 =>
Cl (f_X11_setEntry 275 v31 v32 M30) fun _ M33 =>
Lt (wr (v25 + 1)) fun v34 =>
rc15_16 (v24, v21, v34, M33)) fun J74_28 =>
if v21 = 0 then (
Lt (wr (v20 - v19)) fun v36 =>
Lt (wr (v36 + 1)) fun v37 =>
J74_28 v19 v20 v37 M22) else (
Lt (wr (v20 - v19)) fun v38 =>
Lt (wr (v38 - 1)) fun v39 =>
J74_28 v19 v20 v39 M22)) fun J54_23 =>
Lt (fun (v40 : Int) (v41 : Int) (M42 : Mm) => 
J54_23 v40 v41 1 M42) fun J49_43 =>
if ¬ v13 = 0 then (
J49_43 v12 v14 M15) else (
Lt (fun (v45 : Int) (v46 : Int) (M47 : Mm) => 
J54_23 v45 v46 0 M47) fun J53_48 =>
if v14 ≤ v12 then (
J53_48 v12 v14 M15) else (
Lt (wr (v14 - 1)) fun v50 =>
Cl (f_X11_entryOf 274 v50 M15) fun v52 M51 =>
if ¬ v52 = a1 then (
J53_48 v12 v14 M51) else (
J49_43 v12 v14 M51))))
def f_X9_measureLetter_L2_55 (a1 : Int) (J109_2 : Mm → Rs) (rc2_5 : Int × Mm → Rs) : Int × Mm → Rs := fun (v3, M4) =>
Lt (M4 273 0) fun v6 =>
if v6 < v3 then (
J109_2 M4) else (
Lt (fun (v8 : Int) (M9 : Mm) => 
Lt (wr (v8 + 1)) fun v11 =>
rc2_5 (v11, M9)) fun J103_10 =>
Lp (f_X9_measureLetter_L15_54 a1 J103_10) FU (v3, 0, v3, M4))
def f_X9_measureLetter (a1 : Int) (M : Mm) : Rs :=
Lt (fun (M1 : Mm) => 
some (0, M1)) fun J109_2 =>
Lp (f_X9_measureLetter_L2_55 a1 J109_2) FU (0, M)
theorem cy_X9_measureLetter : yX9_measureLetter.cls ≠ "java/lang/invoke/MethodHandle" ∧ yX9_measureLetter.cls ≠ "java/lang/invoke/VarHandle" ∧ (parseMethodDescriptor yX9_measureLetter.desc).map (fun d => d.parameters.length) = some 1 := ⟨by decide +kernel, by decide +kernel, by decide +kernel⟩
set_option maxRecDepth 20000 in
theorem ok_X9_measureLetter (l : Launch) (D : Dd) (base : Nat) (M : Mm) (a1 : Int) (ha1 : i32 a1) : OkV l D TC 681 base yX9_measureLetter cX9_measureLetter 6 none 1 22 [.ref (base + 273), .int (Ii a1)] M (f_X9_measureLetter a1 M) := by
  refine metV (by decide +kernel) [(0, .ref (base + 273)), (1, .int (Ii a1))] rfl (Nat.le_of_ble_eq_true rfl) (fun p e s m args below meth c X hrt hlk => ?_)
  have X : Cx p s m args c cX9_measureLetter D 6 RX9 := X
  unfold f_X9_measureLetter
  refine go_iconst (v := 0) X dX9_measureLetter_0 rfl ?_
  refine go_istore_n (i := 2) (L' := [(2, .int (Ii 0)), (0, .ref (base + 273)), (1, .int (Ii a1))]) X dX9_measureLetter_1 rfl (by decide) rfl ?_
  refine go_lt (fun J => ∀ (M1 : Mm), Go p l e (rmO 1 22) s m args below meth c D TC 681 base 6 0 0 (FinV D TC 681 base below args s) M1 109 [] [] (J M1)) (by
      intro M1
      exact go_vreturn X hrt hlk dX9_measureLetter_109
      )
      (fun J109_2 hJ109_2 => ?_)
  refine go_sub [1, 2, 0] rfl ?_
  exact go_lp (fun (rc : Int × Mm → Rs) => ∀ (v3 : Int) (M4 : Mm), i32 v3 → Go p l e (rmO 1 22) s m args below meth c D TC 681 base 6 0 0 (FinV D TC 681 base below args s) M4 2 [(0, .ref (base + 273)), (1, .int (Ii a1)), (2, .int (Ii v3))] [] (rc (v3, M4)))
      (by intro v3 M4 hv3; exact go_none)
      (by
      intro rc2_5 hrc2_5 v3 M4 hv3
      unfold f_X9_measureLetter_L2_55
      dsimp only
      refine go_iload_n X dX9_measureLetter_2 rfl 2 rfl ?_
      refine go_aload_n X dX9_measureLetter_3 rfl 0 rfl ?_
      refine go_geti (i := 0) X fc9 dX9_measureLetter_4 tcn273 tc273 (Nat.le_of_ble_eq_true rfl) rfl lw563 rfl (fun v6 hv6 => ?_)
      refine go_icmp_gt (tgt := 109) X dX9_measureLetter_7 rfl hv3 hv6 (fun c7 => ?_) (fun c7 => ?_)
      · refine go_sub [] rfl ?_
        exact hJ109_2 M4
      · refine go_iconst (v := 0) X dX9_measureLetter_10 rfl ?_
        refine go_istore_n (i := 3) (L' := [(3, .int (Ii 0)), (0, .ref (base + 273)), (1, .int (Ii a1)), (2, .int (Ii v3))]) X dX9_measureLetter_11 rfl (by decide) rfl ?_
        refine go_iload_n X dX9_measureLetter_12 rfl 3 rfl ?_
        refine go_istore (i := 4) (L' := [(4, .int (Ii v3)), (3, .int (Ii 0)), (0, .ref (base + 273)), (1, .int (Ii a1)), (2, .int (Ii v3))]) X dX9_measureLetter_13 (by decide) rfl ?_
        refine go_lt (fun J => ∀ (v8 : Int) (M9 : Mm), i32 v8 → Go p l e (rmO 1 22) s m args below meth c D TC 681 base 6 0 0 (FinV D TC 681 base below args s) M9 103 [(0, .ref (base + 273)), (1, .int (Ii a1)), (2, .int (Ii v8))] [] (J v8 M9)) (by
            intro v8 M9 hv8
            refine go_iinc (i := 2) (L' := fun v => [(2, .int (Ii v)), (0, .ref (base + 273)), (1, .int (Ii a1))]) X dX9_measureLetter_103 hv8 kI_1 (j := 2) rfl (by decide) (fun _ => rfl) (fun v11 hv11 => ?_)
            refine go_goto (tgt := 2) X dX9_measureLetter_106 rfl ?_
            refine go_sub [1, 2, 0] rfl ?_
            exact hrc2_5 v11 M9 hv11
            )
            (fun J103_10 hJ103_10 => ?_)
        refine go_sub [2, 3, 4, 1, 0] rfl ?_
        exact go_lp (fun (rc : Int × Int × Int × Mm → Rs) => ∀ (v12 : Int) (v13 : Int) (v14 : Int) (M15 : Mm), i32 v12 → bo v13 → i32 v14 → Go p l e (rmO 1 22) s m args below meth c D TC 681 base 6 0 0 (FinV D TC 681 base below args s) M15 15 [(0, .ref (base + 273)), (1, .int (Ii a1)), (2, .int (Ii v12)), (3, .int (Ii v13)), (4, .int (Ii v14))] [] (rc (v12, v13, v14, M15)))
            (by intro v12 v13 v14 M15 hv12 hv13 hv14; exact go_none)
            (by
            intro rc15_16 hrc15_16 v12 v13 v14 M15 hv12 hv13 hv14
            unfold f_X9_measureLetter_L15_54
            dsimp only
            refine go_iload X dX9_measureLetter_15 4 rfl ?_
            refine go_aload_n X dX9_measureLetter_17 rfl 0 rfl ?_
            refine go_geti (i := 0) X fc9 dX9_measureLetter_18 tcn273 tc273 (Nat.le_of_ble_eq_true rfl) rfl lw563 rfl (fun v17 hv17 => ?_)
            refine go_icmp_gt (tgt := 103) X dX9_measureLetter_21 rfl hv14 hv17 (fun c18 => ?_) (fun c18 => ?_)
            · refine go_sub [0, 1, 2] rfl ?_
              exact hJ103_10 v12 M15 hv12
            · refine go_iload_n X dX9_measureLetter_24 rfl 3 rfl ?_
              refine go_lt (fun J => ∀ (v19 : Int) (v20 : Int) (v21 : Int) (M22 : Mm), i32 v19 → i32 v20 → bo v21 → Go p l e (rmO 1 22) s m args below meth c D TC 681 base 6 0 0 (FinV D TC 681 base below args s) M22 54 [(0, .ref (base + 273)), (1, .int (Ii a1)), (2, .int (Ii v19)), (4, .int (Ii v20))] [.int (Ii v21)] (J v19 v20 v21 M22)) (by
                  intro v19 v20 v21 M22 hv19 hv20 hv21
                  refine go_istore_n (i := 3) (L' := [(3, .int (Ii v21)), (0, .ref (base + 273)), (1, .int (Ii a1)), (2, .int (Ii v19)), (4, .int (Ii v20))]) X dX9_measureLetter_54 rfl (by decide) rfl ?_
                  refine go_iload_n X dX9_measureLetter_55 rfl 0 rfl ?_
                  refine go_lt (fun J => ∀ (v24 : Int) (v25 : Int) (v26 : Int) (M27 : Mm), i32 v24 → i32 v25 → i32 v26 → Go p l e (rmO 1 22) s m args below meth c D TC 681 base 6 0 0 (FinV D TC 681 base below args s) M27 74 [(0, .ref (base + 273)), (1, .int (Ii a1)), (2, .int (Ii v24)), (3, .int (Ii v21)), (4, .int (Ii v25))] [.int (Ii v26)] (J v24 v25 v26 M27)) (by
                      intro v24 v25 v26 M27 hv24 hv25 hv26
                      refine go_istore (i := 5) (L' := [(5, .int (Ii v26)), (0, .ref (base + 273)), (1, .int (Ii a1)), (2, .int (Ii v24)), (3, .int (Ii v21)), (4, .int (Ii v25))]) X dX9_measureLetter_74 (by decide) rfl ?_
                      refine go_aload_n X dX9_measureLetter_76 rfl 1 rfl ?_
                      refine go_getc (i := 3) X fc9 dX9_measureLetter_77 tcn273 tc273 (Nat.le_of_ble_eq_true rfl) rfl lw553 rfl ?_
                      refine go_iconst (v := 4) X dX9_measureLetter_80 rfl ?_
                      refine go_iload_n X dX9_measureLetter_81 rfl 2 rfl ?_
                      refine go_iadd X dX9_measureLetter_82 kI_4 ha1 (fun v29 hv29 => ?_)
                      refine go_iload_n X dX9_measureLetter_83 rfl 3 rfl ?_
                      refine go_iload X dX9_measureLetter_84 5 rfl ?_
                      refine goI (fun H locs ls r ho hW hL => runS X (ok_X9_placeOf l D base M27 v29 hv29 v24 hv24 v25 hv25 H.size r ho) dX9_measureLetter_86 lw568 lw569 lw570 ⟨lw565, cy_X9_placeOf, Nat.le_of_ble_eq_true rfl, Nat.le_of_ble_eq_true rfl⟩ rfl rfl (Nat.le_of_ble_eq_true rfl) hW hL hk0) (fun v31 M30 hv31 => ?_)
                      refine go_iload X dX9_measureLetter_89 0 rfl ?_
                      refine go_ldc (v := 100000) X dX9_measureLetter_91 lw567 rfl ?_
                      refine go_imul X dX9_measureLetter_93 hv26 kI_100000 (fun v32 hv32 => ?_)
                      refine goV (fun H locs ls r ho hW hL => runSN X (ok_X11_setEntry l D base M30 275 isAC_275 v31 hv31 v32 hv32 H.size r ho) dX9_measureLetter_94 nl22 lw21 lw19 ⟨lw14, cy_X11_setEntry, Nat.le_of_ble_eq_true rfl, Nat.le_of_ble_eq_true rfl⟩ rfl rfl (Nat.le_of_ble_eq_true rfl) hW hL hk0) (fun _ M33 => ?_)
                      refine go_iinc (i := 4) (L' := fun v => [(4, .int (Ii v)), (5, .int (Ii v26)), (0, .ref (base + 273)), (1, .int (Ii a1)), (2, .int (Ii v24)), (3, .int (Ii v21))]) X dX9_measureLetter_97 hv25 kI_1 (j := 5) rfl (by decide) (fun _ => rfl) (fun v34 hv34 => ?_)
                      refine go_goto (tgt := 15) X dX9_measureLetter_100 rfl ?_
                      refine go_sub [2, 3, 4, 5, 0] rfl ?_
                      exact hrc15_16 v24 v21 v34 M33 hv24 hv21 hv34
                      )
                      (fun J74_28 hJ74_28 => ?_)
                  refine go_if_eq (tgt := 68) X dX9_measureLetter_56 rfl (bo_i32 hv21) (fun c35 => ?_) (fun c35 => ?_)
                  · refine go_iload X dX9_measureLetter_68 4 rfl ?_
                    refine go_iload_n X dX9_measureLetter_70 rfl 3 rfl ?_
                    refine go_isub X dX9_measureLetter_71 hv20 hv19 (fun v36 hv36 => ?_)
                    refine go_iconst (v := 1) X dX9_measureLetter_72 rfl ?_
                    refine go_iadd X dX9_measureLetter_73 hv36 kI_1 (fun v37 hv37 => ?_)
                    refine go_sub [1, 2, 3, 0, 4] rfl ?_
                    exact hJ74_28 v19 v20 v37 M22 hv19 hv20 hv37
                  · refine go_iload X dX9_measureLetter_59 4 rfl ?_
                    refine go_iload_n X dX9_measureLetter_61 rfl 3 rfl ?_
                    refine go_isub X dX9_measureLetter_62 hv20 hv19 (fun v38 hv38 => ?_)
                    refine go_iconst (v := 1) X dX9_measureLetter_63 rfl ?_
                    refine go_isub X dX9_measureLetter_64 hv38 kI_1 (fun v39 hv39 => ?_)
                    refine go_goto (tgt := 74) X dX9_measureLetter_65 rfl ?_
                    refine go_sub [1, 2, 3, 0, 4] rfl ?_
                    exact hJ74_28 v19 v20 v39 M22 hv19 hv20 hv39
                  )
                  (fun J54_23 hJ54_23 => ?_)
              refine go_lt (fun J => ∀ (v40 : Int) (v41 : Int) (M42 : Mm), i32 v40 → i32 v41 → Go p l e (rmO 1 22) s m args below meth c D TC 681 base 6 0 0 (FinV D TC 681 base below args s) M42 49 [(0, .ref (base + 273)), (1, .int (Ii a1)), (2, .int (Ii v40)), (4, .int (Ii v41))] [] (J v40 v41 M42)) (by
                  intro v40 v41 M42 hv40 hv41
                  refine go_iconst (v := 1) X dX9_measureLetter_49 rfl ?_
                  refine go_goto (tgt := 54) X dX9_measureLetter_50 rfl ?_
                  exact hJ54_23 v40 v41 1 M42 hv40 hv41 (Or.inr rfl)
                  )
                  (fun J49_43 hJ49_43 => ?_)
              refine go_if_ne (tgt := 49) X dX9_measureLetter_25 rfl (bo_i32 hv13) (fun c44 => ?_) (fun c44 => ?_)
              · refine go_sub [0, 1, 2, 4] rfl ?_
                exact hJ49_43 v12 v14 M15 hv12 hv14
              · refine go_iload X dX9_measureLetter_28 4 rfl ?_
                refine go_iload_n X dX9_measureLetter_30 rfl 2 rfl ?_
                refine go_lt (fun J => ∀ (v45 : Int) (v46 : Int) (M47 : Mm), i32 v45 → i32 v46 → Go p l e (rmO 1 22) s m args below meth c D TC 681 base 6 0 0 (FinV D TC 681 base below args s) M47 53 [(0, .ref (base + 273)), (1, .int (Ii a1)), (2, .int (Ii v45)), (4, .int (Ii v46))] [] (J v45 v46 M47)) (by
                    intro v45 v46 M47 hv45 hv46
                    refine go_iconst (v := 0) X dX9_measureLetter_53 rfl ?_
                    exact hJ54_23 v45 v46 0 M47 hv45 hv46 (Or.inl rfl)
                    )
                    (fun J53_48 hJ53_48 => ?_)
                refine go_icmp_le (tgt := 53) X dX9_measureLetter_31 rfl hv14 hv12 (fun c49 => ?_) (fun c49 => ?_)
                · refine go_sub [0, 1, 2, 4] rfl ?_
                  exact hJ53_48 v12 v14 M15 hv12 hv14
                · refine go_aload_n X dX9_measureLetter_34 rfl 0 rfl ?_
                  refine go_getc (i := 2) X fc9 dX9_measureLetter_35 tcn273 tc273 (Nat.le_of_ble_eq_true rfl) rfl lw552 rfl ?_
                  refine go_iload X dX9_measureLetter_38 4 rfl ?_
                  refine go_iconst (v := 1) X dX9_measureLetter_40 rfl ?_
                  refine go_isub X dX9_measureLetter_41 hv14 kI_1 (fun v50 hv50 => ?_)
                  refine goI (fun H locs ls r ho hW hL => runSN X (ok_X11_entryOf l D base M15 274 isAC_274 v50 hv50 H.size r ho) dX9_measureLetter_42 nl21 lw20 lw19 ⟨lw13, cy_X11_entryOf, Nat.le_of_ble_eq_true rfl, Nat.le_of_ble_eq_true rfl⟩ rfl rfl (Nat.le_of_ble_eq_true rfl) hW hL hk0) (fun v52 M51 hv52 => ?_)
                  refine go_iload_n X dX9_measureLetter_45 rfl 1 rfl ?_
                  refine go_icmp_ne (tgt := 53) X dX9_measureLetter_46 rfl hv52 ha1 (fun c53 => ?_) (fun c53 => ?_)
                  · refine go_sub [0, 1, 2, 4] rfl ?_
                    exact hJ53_48 v12 v14 M51 hv12 hv14
                  · refine go_sub [0, 1, 2, 4] rfl ?_
                    exact hJ49_43 v12 v14 M51 hv12 hv14
            )
            FU v3 0 v3 M4 hv3 (Or.inl rfl) hv3
      )
      FU 0 M kI_0
def f_X5_lengthOf (a1 : Int) (M : Mm) : Rs :=
Lt (fun (v1 : Int) (M2 : Mm) => 
some (v1, M2)) fun J20_3 =>
Lt (fun (M4 : Mm) => 
J20_3 ((-1)) M4) fun J19_5 =>
if a1 < 0 then (
J19_5 M) else (
if 10 ≤ a1 then (
J19_5 M) else (
gd (0 ≤ a1 ∧ a1 < 10) <|
Lt (M 3 a1.toNat) fun v8 =>
J20_3 v8 M))
theorem cy_X5_lengthOf : yX5_lengthOf.cls ≠ "java/lang/invoke/MethodHandle" ∧ yX5_lengthOf.cls ≠ "java/lang/invoke/VarHandle" ∧ (parseMethodDescriptor yX5_lengthOf.desc).map (fun d => d.parameters.length) = some 1 := ⟨by decide +kernel, by decide +kernel, by decide +kernel⟩
set_option maxRecDepth 20000 in
theorem ok_X5_lengthOf (l : Launch) (D : Dd) (base : Nat) (M : Mm) (a1 : Int) (ha1 : i32 a1) : OkI l D TC 681 base yX5_lengthOf cX5_lengthOf 2 (some .int) 0 0 [.ref (base + 1), .int (Ii a1)] M i32 (f_X5_lengthOf a1 M) := by
  refine metI (by decide +kernel) [(0, .ref (base + 1)), (1, .int (Ii a1))] rfl (Nat.le_of_ble_eq_true rfl) (fun p e s m args below meth c X hrt hlk => ?_)
  have X : Cx p s m args c cX5_lengthOf D 2 RX5 := X
  unfold f_X5_lengthOf
  refine go_iload_n X dX5_lengthOf_0 rfl 1 rfl ?_
  refine go_lt (fun J => ∀ (v1 : Int) (M2 : Mm), i32 v1 → Go p l e (rmO 0 0) s m args below meth c D TC 681 base 2 0 0 (FinI D TC 681 base below args s i32) M2 20 [] [.int (Ii v1)] (J v1 M2)) (by
      intro v1 M2 hv1
      exact go_ireturn X hrt hlk dX5_lengthOf_20 hv1
      )
      (fun J20_3 hJ20_3 => ?_)
  refine go_lt (fun J => ∀ (M4 : Mm), Go p l e (rmO 0 0) s m args below meth c D TC 681 base 2 0 0 (FinI D TC 681 base below args s i32) M4 19 [] [] (J M4)) (by
      intro M4
      refine go_iconst (v := (-1)) X dX5_lengthOf_19 rfl ?_
      exact hJ20_3 ((-1)) M4 kI_m1
      )
      (fun J19_5 hJ19_5 => ?_)
  refine go_if_lt (tgt := 19) X dX5_lengthOf_1 rfl ha1 (fun c6 => ?_) (fun c6 => ?_)
  · refine go_sub [] rfl ?_
    exact hJ19_5 M
  · refine go_iload_n X dX5_lengthOf_4 rfl 1 rfl ?_
    refine go_bipush (v := 10) X dX5_lengthOf_5 (by decide) ?_
    refine go_icmp_ge (tgt := 19) X dX5_lengthOf_7 rfl ha1 kI_10 (fun c7 => ?_) (fun c7 => ?_)
    · refine go_sub [] rfl ?_
      exact hJ19_5 M
    · refine go_aload_n X dX5_lengthOf_10 rfl 0 rfl ?_
      refine go_getc (i := 3) X fc5 dX5_lengthOf_11 tcn1 tc1 (Nat.le_of_ble_eq_true rfl) rfl lw394 rfl ?_
      refine go_iload_n X dX5_lengthOf_14 rfl 1 rfl ?_
      refine go_iaload X dX5_lengthOf_15 tcn3 tc3 ha1 (fun v8 hv8 => ?_)
      refine go_goto (tgt := 20) X dX5_lengthOf_16 rfl ?_
      refine go_sub [] rfl ?_
      exact hJ20_3 v8 M hv8
def f_X5_symbolOf (a1 : Int) (a2 : Int) (M : Mm) : Rs :=
Lt (wr (a1 * 3)) fun v1 =>
Lt (wr (v1 + a2)) fun v2 =>
Lt (fun (v3 : Int) (M4 : Mm) => 
some (v3, M4)) fun J38_5 =>
Lt (fun (M6 : Mm) => 
J38_5 ((-1)) M6) fun J37_7 =>
if a2 < 0 then (
J37_7 M) else (
if 3 ≤ a2 then (
J37_7 M) else (
if v2 < 0 then (
J37_7 M) else (
if 30 ≤ v2 then (
J37_7 M) else (
gd (0 ≤ v2 ∧ v2 < 30) <|
Lt (M 4 v2.toNat) fun v12 =>
J38_5 v12 M))))
theorem cy_X5_symbolOf : yX5_symbolOf.cls ≠ "java/lang/invoke/MethodHandle" ∧ yX5_symbolOf.cls ≠ "java/lang/invoke/VarHandle" ∧ (parseMethodDescriptor yX5_symbolOf.desc).map (fun d => d.parameters.length) = some 2 := ⟨by decide +kernel, by decide +kernel, by decide +kernel⟩
set_option maxRecDepth 20000 in
theorem ok_X5_symbolOf (l : Launch) (D : Dd) (base : Nat) (M : Mm) (a1 : Int) (ha1 : i32 a1) (a2 : Int) (ha2 : i32 a2) : OkI l D TC 681 base yX5_symbolOf cX5_symbolOf 4 (some .int) 0 0 [.ref (base + 1), .int (Ii a1), .int (Ii a2)] M i32 (f_X5_symbolOf a1 a2 M) := by
  refine metI (by decide +kernel) [(0, .ref (base + 1)), (1, .int (Ii a1)), (2, .int (Ii a2))] rfl (Nat.le_of_ble_eq_true rfl) (fun p e s m args below meth c X hrt hlk => ?_)
  have X : Cx p s m args c cX5_symbolOf D 4 RX5 := X
  unfold f_X5_symbolOf
  refine go_iload_n X dX5_symbolOf_0 rfl 1 rfl ?_
  refine go_iconst (v := 3) X dX5_symbolOf_1 rfl ?_
  refine go_imul X dX5_symbolOf_2 ha1 kI_3 (fun v1 hv1 => ?_)
  refine go_iload_n X dX5_symbolOf_3 rfl 2 rfl ?_
  refine go_iadd X dX5_symbolOf_4 hv1 ha2 (fun v2 hv2 => ?_)
  refine go_istore_n (i := 3) (L' := [(3, .int (Ii v2)), (0, .ref (base + 1)), (1, .int (Ii a1)), (2, .int (Ii a2))]) X dX5_symbolOf_5 rfl (by decide) rfl ?_
  refine go_iload_n X dX5_symbolOf_6 rfl 3 rfl ?_
  refine go_lt (fun J => ∀ (v3 : Int) (M4 : Mm), i32 v3 → Go p l e (rmO 0 0) s m args below meth c D TC 681 base 4 0 0 (FinI D TC 681 base below args s i32) M4 38 [] [.int (Ii v3)] (J v3 M4)) (by
      intro v3 M4 hv3
      exact go_ireturn X hrt hlk dX5_symbolOf_38 hv3
      )
      (fun J38_5 hJ38_5 => ?_)
  refine go_lt (fun J => ∀ (M6 : Mm), Go p l e (rmO 0 0) s m args below meth c D TC 681 base 4 0 0 (FinI D TC 681 base below args s i32) M6 37 [] [] (J M6)) (by
      intro M6
      refine go_iconst (v := (-1)) X dX5_symbolOf_37 rfl ?_
      exact hJ38_5 ((-1)) M6 kI_m1
      )
      (fun J37_7 hJ37_7 => ?_)
  refine go_if_lt (tgt := 37) X dX5_symbolOf_7 rfl ha2 (fun c8 => ?_) (fun c8 => ?_)
  · refine go_sub [] rfl ?_
    exact hJ37_7 M
  · refine go_iload_n X dX5_symbolOf_10 rfl 3 rfl ?_
    refine go_iconst (v := 3) X dX5_symbolOf_11 rfl ?_
    refine go_icmp_ge (tgt := 37) X dX5_symbolOf_12 rfl ha2 kI_3 (fun c9 => ?_) (fun c9 => ?_)
    · refine go_sub [] rfl ?_
      exact hJ37_7 M
    · refine go_iload_n X dX5_symbolOf_15 rfl 0 rfl ?_
      refine go_if_lt (tgt := 37) X dX5_symbolOf_16 rfl hv2 (fun c10 => ?_) (fun c10 => ?_)
      · refine go_sub [] rfl ?_
        exact hJ37_7 M
      · refine go_iload_n X dX5_symbolOf_19 rfl 0 rfl ?_
        refine go_aload_n X dX5_symbolOf_20 rfl 1 rfl ?_
        refine go_getc (i := 4) X fc5 dX5_symbolOf_21 tcn1 tc1 (Nat.le_of_ble_eq_true rfl) rfl lw395 rfl ?_
        refine go_alen X dX5_symbolOf_24 tcn4 tc4 (by decide) ?_
        refine go_icmp_ge (tgt := 37) X dX5_symbolOf_25 rfl hv2 kI_30 (fun c11 => ?_) (fun c11 => ?_)
        · refine go_sub [] rfl ?_
          exact hJ37_7 M
        · refine go_aload_n X dX5_symbolOf_28 rfl 1 rfl ?_
          refine go_getc (i := 4) X fc5 dX5_symbolOf_29 tcn1 tc1 (Nat.le_of_ble_eq_true rfl) rfl lw395 rfl ?_
          refine go_iload_n X dX5_symbolOf_32 rfl 0 rfl ?_
          refine go_iaload X dX5_symbolOf_33 tcn4 tc4 hv2 (fun v12 hv12 => ?_)
          refine go_goto (tgt := 38) X dX5_symbolOf_34 rfl ?_
          refine go_sub [] rfl ?_
          exact hJ38_5 v12 M hv12
def f_X9_weightOf (a1 : Int) (a2 : Int) (a3 : Int) (M : Mm) : Rs :=
Cl (f_X9_placeOf a1 a2 a3 M) fun v2 M1 =>
Cl (f_X11_entryOf 275 v2 M1) fun v4 M3 =>
some (v4, M3)
theorem cy_X9_weightOf : yX9_weightOf.cls ≠ "java/lang/invoke/MethodHandle" ∧ yX9_weightOf.cls ≠ "java/lang/invoke/VarHandle" ∧ (parseMethodDescriptor yX9_weightOf.desc).map (fun d => d.parameters.length) = some 3 := ⟨by decide +kernel, by decide +kernel, by decide +kernel⟩
set_option maxRecDepth 20000 in
theorem ok_X9_weightOf (l : Launch) (D : Dd) (base : Nat) (M : Mm) (a1 : Int) (ha1 : i32 a1) (a2 : Int) (ha2 : i32 a2) (a3 : Int) (ha3 : i32 a3) : OkI l D TC 681 base yX9_weightOf cX9_weightOf 4 (some .int) 1 22 [.ref (base + 273), .int (Ii a1), .int (Ii a2), .int (Ii a3)] M i32 (f_X9_weightOf a1 a2 a3 M) := by
  refine metI (by decide +kernel) [(0, .ref (base + 273)), (1, .int (Ii a1)), (2, .int (Ii a2)), (3, .int (Ii a3))] rfl (Nat.le_of_ble_eq_true rfl) (fun p e s m args below meth c X hrt hlk => ?_)
  have X : Cx p s m args c cX9_weightOf D 4 RX9 := X
  unfold f_X9_weightOf
  refine go_aload_n X dX9_weightOf_0 rfl 0 rfl ?_
  refine go_getc (i := 3) X fc9 dX9_weightOf_1 tcn273 tc273 (Nat.le_of_ble_eq_true rfl) rfl lw553 rfl ?_
  refine go_iload_n X dX9_weightOf_4 rfl 1 rfl ?_
  refine go_iload_n X dX9_weightOf_5 rfl 2 rfl ?_
  refine go_iload_n X dX9_weightOf_6 rfl 3 rfl ?_
  refine goI (fun H locs ls r ho hW hL => runS X (ok_X9_placeOf l D base M a1 ha1 a2 ha2 a3 ha3 H.size r ho) dX9_weightOf_7 lw568 lw569 lw570 ⟨lw565, cy_X9_placeOf, Nat.le_of_ble_eq_true rfl, Nat.le_of_ble_eq_true rfl⟩ rfl rfl (Nat.le_of_ble_eq_true rfl) hW hL hk0) (fun v2 M1 hv2 => ?_)
  refine goI (fun H locs ls r ho hW hL => runSN X (ok_X11_entryOf l D base M1 275 isAC_275 v2 hv2 H.size r ho) dX9_weightOf_10 nl21 lw20 lw19 ⟨lw13, cy_X11_entryOf, Nat.le_of_ble_eq_true rfl, Nat.le_of_ble_eq_true rfl⟩ rfl rfl (Nat.le_of_ble_eq_true rfl) hW hL hk0) (fun v4 M3 hv4 => ?_)
  exact go_ireturn X hrt hlk dX9_weightOf_13 hv4
def f_X9_weigh_L119_41 (a3 : Int) (a4 : Int) (v5 : Int) (v13 : Nat) (v16 : Int) (J175_21 : Int → Mm → Rs) (rc119_25 : Int × Int × Mm → Rs) : Int × Int × Mm → Rs := fun (v22, v23, M24) =>
if a4 < v23 then (
J175_21 v22 M24) else (
Cl (f_X9_weightOf v5 a3 v23 M24) fun v28 M27 =>
Cl (f_X9_placeOf v16 v23 a4 M27) fun v30 M29 =>
Cl (f_X11_entryOf v13 v30 M29) fun v32 M31 =>
Lt (wr (v28 + v32)) fun v33 =>
Lt (fun (v34 : Int) (v35 : Int) (M36 : Mm) => 
Lt (wr (v35 + 1)) fun v38 =>
rc119_25 (v34, v38, M36)) fun J169_37 =>
if v22 ≤ v33 then (
J169_37 v22 v23 M31) else (
Lt (up M31 273 5 v23) fun M40 =>
J169_37 v33 v23 M40))
def f_X9_weigh (a1 : Int) (a2 : Int) (a3 : Int) (a4 : Int) (M : Mm) : Rs :=
Cl (f_X5_lengthOf a1 M) fun v2 M1 =>
Lt (wr (v2 - 1)) fun v3 =>
Cl (f_X5_symbolOf a1 a2 M1) fun v5 M4 =>
Lt (up M4 273 5 a4) fun M6 =>
if 0 ≤ v3 then (
if a2 < v3 then (
Lt (wr (a2 + 1)) fun v9 =>
Lt (fun (v10 : Int) (M11 : Mm) => 
Lt (fun (v13 : Nat) (M14 : Mm) => 
Lt (fun (v16 : Int) (M17 : Mm) => 
Lt (fun (v19 : Int) (M20 : Mm) => 
some (v19, M20)) fun J175_21 =>
Lp (f_X9_weigh_L119_41 a3 a4 v5 v13 v16 J175_21) FU (500000000, a3, M17)) fun J110_18 =>
if v10 = 0 then (
Cl (f_X5_symbolOf a1 v3 M14) fun v44 M43 =>
J110_18 v44 M43) else (
J110_18 a1 M14)) fun J89_15 =>
if v10 = 0 then (
J89_15 275 M11) else (
J89_15 276 M11)) fun J71_12 =>
if v3 ≤ v9 then (
J71_12 0 M6) else (
J71_12 1 M6)) else (
Cl (f_X9_weightOf v5 a3 a4 M6) fun v48 M47 =>
some (v48, M47))) else (
Lt (wr (a4 - a3)) fun v49 =>
Lt (wr (v49 * 100000)) fun v50 =>
some (v50, M6))
theorem cy_X9_weigh : yX9_weigh.cls ≠ "java/lang/invoke/MethodHandle" ∧ yX9_weigh.cls ≠ "java/lang/invoke/VarHandle" ∧ (parseMethodDescriptor yX9_weigh.desc).map (fun d => d.parameters.length) = some 4 := ⟨by decide +kernel, by decide +kernel, by decide +kernel⟩
set_option maxRecDepth 20000 in
theorem ok_X9_weigh (l : Launch) (D : Dd) (base : Nat) (M : Mm) (a1 : Int) (ha1 : i32 a1) (a2 : Int) (ha2 : i32 a2) (a3 : Int) (ha3 : i32 a3) (a4 : Int) (ha4 : i32 a4) : OkI l D TC 681 base yX9_weigh cX9_weigh 13 (some .int) 2 45 [.ref (base + 273), .int (Ii a1), .int (Ii a2), .int (Ii a3), .int (Ii a4)] M i32 (f_X9_weigh a1 a2 a3 a4 M) := by
  refine metI (by decide +kernel) [(0, .ref (base + 273)), (1, .int (Ii a1)), (2, .int (Ii a2)), (3, .int (Ii a3)), (4, .int (Ii a4))] rfl (Nat.le_of_ble_eq_true rfl) (fun p e s m args below meth c X hrt hlk => ?_)
  have X : Cx p s m args c cX9_weigh D 13 RX9 := X
  unfold f_X9_weigh
  refine go_aload_n X dX9_weigh_0 rfl 0 rfl ?_
  refine go_getc (i := 1) X fc9 dX9_weigh_1 tcn273 tc273 (Nat.le_of_ble_eq_true rfl) rfl lw561 rfl ?_
  refine go_iload_n X dX9_weigh_4 rfl 1 rfl ?_
  refine goI (fun H locs ls r ho hW hL => runV X (ok_X5_lengthOf l D base M a1 ha1 H.size r ho) dX9_weigh_5 lw574 lw575 lw576 lw80 ⟨lw419, cy_X5_lengthOf, Nat.le_of_ble_eq_true rfl, Nat.le_of_ble_eq_true rfl⟩ rfl tcn1 tc1 rfl rfl rfl rfl (Nat.le_of_ble_eq_true rfl) hW hL hk0) (fun v2 M1 hv2 => ?_)
  refine go_iconst (v := 1) X dX9_weigh_8 rfl ?_
  refine go_isub X dX9_weigh_9 hv2 kI_1 (fun v3 hv3 => ?_)
  refine go_istore (i := 5) (L' := [(5, .int (Ii v3)), (0, .ref (base + 273)), (1, .int (Ii a1)), (2, .int (Ii a2)), (3, .int (Ii a3)), (4, .int (Ii a4))]) X dX9_weigh_10 (by decide) rfl ?_
  refine go_aload_n X dX9_weigh_12 rfl 1 rfl ?_
  refine go_getc (i := 1) X fc9 dX9_weigh_13 tcn273 tc273 (Nat.le_of_ble_eq_true rfl) rfl lw561 rfl ?_
  refine go_iload_n X dX9_weigh_16 rfl 2 rfl ?_
  refine go_iload_n X dX9_weigh_17 rfl 3 rfl ?_
  refine goI (fun H locs ls r ho hW hL => runV X (ok_X5_symbolOf l D base M1 a1 ha1 a2 ha2 H.size r ho) dX9_weigh_18 lw577 lw578 lw579 lw80 ⟨lw420, cy_X5_symbolOf, Nat.le_of_ble_eq_true rfl, Nat.le_of_ble_eq_true rfl⟩ rfl tcn1 tc1 rfl rfl rfl rfl (Nat.le_of_ble_eq_true rfl) hW hL hk0) (fun v5 M4 hv5 => ?_)
  refine go_istore (i := 6) (L' := [(6, .int (Ii v5)), (5, .int (Ii v3)), (0, .ref (base + 273)), (1, .int (Ii a1)), (2, .int (Ii a2)), (3, .int (Ii a3)), (4, .int (Ii a4))]) X dX9_weigh_21 (by decide) rfl ?_
  refine go_aload_n X dX9_weigh_23 rfl 2 rfl ?_
  refine go_iload X dX9_weigh_24 6 rfl ?_
  refine go_puti (i := 5) X fc9 dX9_weigh_26 tcn273 tc273 (Nat.le_of_ble_eq_true rfl) rfl lw572 rfl rfl rfl ha4 (fun M6 => ?_)
  refine go_iload X dX9_weigh_29 1 rfl ?_
  refine go_if_ge (tgt := 42) X dX9_weigh_31 rfl hv3 (fun c7 => ?_) (fun c7 => ?_)
  · refine go_iload_n X dX9_weigh_42 rfl 4 rfl ?_
    refine go_iload X dX9_weigh_43 1 rfl ?_
    refine go_icmp_lt (tgt := 58) X dX9_weigh_45 rfl ha2 hv3 (fun c8 => ?_) (fun c8 => ?_)
    · refine go_iload_n X dX9_weigh_58 rfl 4 rfl ?_
      refine go_iconst (v := 1) X dX9_weigh_59 rfl ?_
      refine go_iadd X dX9_weigh_60 ha2 kI_1 (fun v9 hv9 => ?_)
      refine go_iload X dX9_weigh_61 1 rfl ?_
      refine go_lt (fun J => ∀ (v10 : Int) (M11 : Mm), bo v10 → Go p l e (rmO 2 45) s m args below meth c D TC 681 base 13 0 0 (FinI D TC 681 base below args s i32) M11 71 [(0, .ref (base + 273)), (1, .int (Ii a1)), (3, .int (Ii a3)), (4, .int (Ii a4)), (5, .int (Ii v3)), (6, .int (Ii v5))] [.int (Ii v10)] (J v10 M11)) (by
          intro v10 M11 hv10
          refine go_istore (i := 7) (L' := [(7, .int (Ii v10)), (0, .ref (base + 273)), (1, .int (Ii a1)), (3, .int (Ii a3)), (4, .int (Ii a4)), (5, .int (Ii v3)), (6, .int (Ii v5))]) X dX9_weigh_71 (by decide) rfl ?_
          refine go_iload X dX9_weigh_73 0 rfl ?_
          refine go_lt (fun J => ∀ (v13 : Nat) (M14 : Mm), isAC v13 → Go p l e (rmO 2 45) s m args below meth c D TC 681 base 13 0 0 (FinI D TC 681 base below args s i32) M14 89 [(0, .ref (base + 273)), (1, .int (Ii a1)), (3, .int (Ii a3)), (4, .int (Ii a4)), (5, .int (Ii v3)), (6, .int (Ii v5)), (7, .int (Ii v10))] [.ref (base + v13)] (J v13 M14)) (by
              intro v13 M14 hv13
              refine go_astore (i := 8) (L' := [(8, .ref (base + v13)), (0, .ref (base + 273)), (1, .int (Ii a1)), (3, .int (Ii a3)), (4, .int (Ii a4)), (5, .int (Ii v3)), (6, .int (Ii v5)), (7, .int (Ii v10))]) X dX9_weigh_89 (by decide) rfl ?_
              refine go_iload X dX9_weigh_91 7 rfl ?_
              refine go_lt (fun J => ∀ (v16 : Int) (M17 : Mm), i32 v16 → Go p l e (rmO 2 45) s m args below meth c D TC 681 base 13 0 0 (FinI D TC 681 base below args s i32) M17 110 [(0, .ref (base + 273)), (3, .int (Ii a3)), (4, .int (Ii a4)), (6, .int (Ii v5)), (8, .ref (base + v13))] [.int (Ii v16)] (J v16 M17)) (by
                  intro v16 M17 hv16
                  refine go_istore (i := 9) (L' := [(9, .int (Ii v16)), (0, .ref (base + 273)), (3, .int (Ii a3)), (4, .int (Ii a4)), (6, .int (Ii v5)), (8, .ref (base + v13))]) X dX9_weigh_110 (by decide) rfl ?_
                  refine go_ldc (v := 500000000) X dX9_weigh_112 lw573 rfl ?_
                  refine go_istore (i := 10) (L' := [(10, .int (Ii 500000000)), (9, .int (Ii v16)), (0, .ref (base + 273)), (3, .int (Ii a3)), (4, .int (Ii a4)), (6, .int (Ii v5)), (8, .ref (base + v13))]) X dX9_weigh_114 (by decide) rfl ?_
                  refine go_iload_n X dX9_weigh_116 rfl 3 rfl ?_
                  refine go_istore (i := 11) (L' := [(11, .int (Ii a3)), (10, .int (Ii 500000000)), (9, .int (Ii v16)), (0, .ref (base + 273)), (3, .int (Ii a3)), (4, .int (Ii a4)), (6, .int (Ii v5)), (8, .ref (base + v13))]) X dX9_weigh_117 (by decide) rfl ?_
                  refine go_lt (fun J => ∀ (v19 : Int) (M20 : Mm), i32 v19 → Go p l e (rmO 2 45) s m args below meth c D TC 681 base 13 0 0 (FinI D TC 681 base below args s i32) M20 175 [(10, .int (Ii v19))] [] (J v19 M20)) (by
                      intro v19 M20 hv19
                      refine go_iload X dX9_weigh_175 0 rfl ?_
                      exact go_ireturn X hrt hlk dX9_weigh_177 hv19
                      )
                      (fun J175_21 hJ175_21 => ?_)
                  refine go_sub [3, 4, 5, 6, 7, 2, 1, 0] rfl ?_
                  exact go_lp (fun (rc : Int × Int × Mm → Rs) => ∀ (v22 : Int) (v23 : Int) (M24 : Mm), i32 v22 → i32 v23 → Go p l e (rmO 2 45) s m args below meth c D TC 681 base 13 0 0 (FinI D TC 681 base below args s i32) M24 119 [(0, .ref (base + 273)), (3, .int (Ii a3)), (4, .int (Ii a4)), (6, .int (Ii v5)), (8, .ref (base + v13)), (9, .int (Ii v16)), (10, .int (Ii v22)), (11, .int (Ii v23))] [] (rc (v22, v23, M24)))
                      (by intro v22 v23 M24 hv22 hv23; exact go_none)
                      (by
                      intro rc119_25 hrc119_25 v22 v23 M24 hv22 hv23
                      unfold f_X9_weigh_L119_41
                      dsimp only
                      refine go_iload X dX9_weigh_119 7 rfl ?_
                      refine go_iload X dX9_weigh_121 2 rfl ?_
                      refine go_icmp_gt (tgt := 175) X dX9_weigh_123 rfl hv23 ha4 (fun c26 => ?_) (fun c26 => ?_)
                      · refine go_sub [6] rfl ?_
                        exact hJ175_21 v22 M24 hv22
                      · refine go_aload_n X dX9_weigh_126 rfl 0 rfl ?_
                        refine go_iload X dX9_weigh_127 3 rfl ?_
                        refine go_iload_n X dX9_weigh_129 rfl 1 rfl ?_
                        refine go_iload X dX9_weigh_130 7 rfl ?_
                        refine goI (fun H locs ls r ho hW hL => runV X (ok_X9_weightOf l D base M24 v5 hv5 a3 ha3 v23 hv23 H.size r ho) dX9_weigh_132 lw580 lw581 lw582 lw570 ⟨lw571, cy_X9_weightOf, Nat.le_of_ble_eq_true rfl, Nat.le_of_ble_eq_true rfl⟩ rfl tcn273 tc273 rfl rfl rfl rfl (Nat.le_of_ble_eq_true rfl) hW hL hk0) (fun v28 M27 hv28 => ?_)
                        refine go_aload X dX9_weigh_135 4 rfl ?_
                        refine go_iload X dX9_weigh_137 5 rfl ?_
                        refine go_iload X dX9_weigh_139 7 rfl ?_
                        refine go_iload X dX9_weigh_141 2 rfl ?_
                        refine goI (fun H locs ls r ho hW hL => runS X (ok_X9_placeOf l D base M27 v16 hv16 v23 hv23 a4 ha4 H.size r ho) dX9_weigh_143 lw568 lw569 lw570 ⟨lw565, cy_X9_placeOf, Nat.le_of_ble_eq_true rfl, Nat.le_of_ble_eq_true rfl⟩ rfl rfl (Nat.le_of_ble_eq_true rfl) hW hL hk0) (fun v30 M29 hv30 => ?_)
                        refine goI (fun H locs ls r ho hW hL => runSN X (ok_X11_entryOf l D base M29 v13 hv13 v30 hv30 H.size r ho) dX9_weigh_146 nl21 lw20 lw19 ⟨lw13, cy_X11_entryOf, Nat.le_of_ble_eq_true rfl, Nat.le_of_ble_eq_true rfl⟩ rfl rfl (Nat.le_of_ble_eq_true rfl) hW hL hk0) (fun v32 M31 hv32 => ?_)
                        refine go_iadd X dX9_weigh_149 hv28 hv32 (fun v33 hv33 => ?_)
                        refine go_istore (i := 12) (L' := [(12, .int (Ii v33)), (0, .ref (base + 273)), (3, .int (Ii a3)), (4, .int (Ii a4)), (6, .int (Ii v5)), (8, .ref (base + v13)), (9, .int (Ii v16)), (10, .int (Ii v22)), (11, .int (Ii v23))]) X dX9_weigh_150 (by decide) rfl ?_
                        refine go_iload X dX9_weigh_152 0 rfl ?_
                        refine go_iload X dX9_weigh_154 7 rfl ?_
                        refine go_lt (fun J => ∀ (v34 : Int) (v35 : Int) (M36 : Mm), i32 v34 → i32 v35 → Go p l e (rmO 2 45) s m args below meth c D TC 681 base 13 0 0 (FinI D TC 681 base below args s i32) M36 169 [(0, .ref (base + 273)), (3, .int (Ii a3)), (4, .int (Ii a4)), (6, .int (Ii v5)), (8, .ref (base + v13)), (9, .int (Ii v16)), (10, .int (Ii v34)), (11, .int (Ii v35))] [] (J v34 v35 M36)) (by
                            intro v34 v35 M36 hv34 hv35
                            refine go_iinc (i := 11) (L' := fun v => [(11, .int (Ii v)), (0, .ref (base + 273)), (3, .int (Ii a3)), (4, .int (Ii a4)), (6, .int (Ii v5)), (8, .ref (base + v13)), (9, .int (Ii v16)), (10, .int (Ii v34))]) X dX9_weigh_169 hv35 kI_1 (j := 7) rfl (by decide) (fun _ => rfl) (fun v38 hv38 => ?_)
                            refine go_goto (tgt := 119) X dX9_weigh_172 rfl ?_
                            refine go_sub [1, 2, 3, 4, 5, 6, 7, 0] rfl ?_
                            exact hrc119_25 v34 v38 M36 hv34 hv38
                            )
                            (fun J169_37 hJ169_37 => ?_)
                        refine go_icmp_ge (tgt := 169) X dX9_weigh_156 rfl hv33 hv22 (fun c39 => ?_) (fun c39 => ?_)
                        · refine go_sub [1, 2, 3, 4, 5, 6, 7, 8] rfl ?_
                          exact hJ169_37 v22 v23 M31 hv22 hv23
                        · refine go_iload X dX9_weigh_159 0 rfl ?_
                          refine go_istore (i := 10) (L' := [(10, .int (Ii v33)), (12, .int (Ii v33)), (0, .ref (base + 273)), (3, .int (Ii a3)), (4, .int (Ii a4)), (6, .int (Ii v5)), (8, .ref (base + v13)), (9, .int (Ii v16)), (11, .int (Ii v23))]) X dX9_weigh_161 (by decide) rfl ?_
                          refine go_aload_n X dX9_weigh_163 rfl 2 rfl ?_
                          refine go_iload X dX9_weigh_164 8 rfl ?_
                          refine go_puti (i := 5) X fc9 dX9_weigh_166 tcn273 tc273 (Nat.le_of_ble_eq_true rfl) rfl lw572 rfl rfl rfl hv23 (fun M40 => ?_)
                          refine go_sub [2, 3, 4, 5, 6, 7, 0, 8] rfl ?_
                          exact hJ169_37 v33 v23 M40 hv33 hv23
                      )
                      FU 500000000 a3 M17 kI_500000000 ha3
                  )
                  (fun J110_18 hJ110_18 => ?_)
              refine go_if_eq (tgt := 100) X dX9_weigh_93 rfl (bo_i32 hv10) (fun c42 => ?_) (fun c42 => ?_)
              · refine go_aload_n X dX9_weigh_100 rfl 1 rfl ?_
                refine go_getc (i := 1) X fc9 dX9_weigh_101 tcn273 tc273 (Nat.le_of_ble_eq_true rfl) rfl lw561 rfl ?_
                refine go_iload_n X dX9_weigh_104 rfl 2 rfl ?_
                refine go_iload X dX9_weigh_105 5 rfl ?_
                refine goI (fun H locs ls r ho hW hL => runV X (ok_X5_symbolOf l D base M14 a1 ha1 v3 hv3 H.size r ho) dX9_weigh_107 lw577 lw578 lw579 lw80 ⟨lw420, cy_X5_symbolOf, Nat.le_of_ble_eq_true rfl, Nat.le_of_ble_eq_true rfl⟩ rfl tcn1 tc1 rfl rfl rfl rfl (Nat.le_of_ble_eq_true rfl) hW hL hk0) (fun v44 M43 hv44 => ?_)
                refine go_sub [1, 3, 4, 6, 0] rfl ?_
                exact hJ110_18 v44 M43 hv44
              · refine go_iload_n X dX9_weigh_96 rfl 2 rfl ?_
                refine go_goto (tgt := 110) X dX9_weigh_97 rfl ?_
                refine go_sub [1, 3, 4, 6, 0] rfl ?_
                exact hJ110_18 a1 M14 ha1
              )
              (fun J89_15 hJ89_15 => ?_)
          refine go_if_eq (tgt := 85) X dX9_weigh_75 rfl (bo_i32 hv10) (fun c45 => ?_) (fun c45 => ?_)
          · refine go_aload_n X dX9_weigh_85 rfl 1 rfl ?_
            refine go_getc (i := 3) X fc9 dX9_weigh_86 tcn273 tc273 (Nat.le_of_ble_eq_true rfl) rfl lw553 rfl ?_
            refine go_sub [1, 2, 3, 4, 5, 6, 0] rfl ?_
            exact hJ89_15 275 M11 isAC_275
          · refine go_aload_n X dX9_weigh_78 rfl 1 rfl ?_
            refine go_getc (i := 4) X fc9 dX9_weigh_79 tcn273 tc273 (Nat.le_of_ble_eq_true rfl) rfl lw554 rfl ?_
            refine go_goto (tgt := 89) X dX9_weigh_82 rfl ?_
            refine go_sub [1, 2, 3, 4, 5, 6, 0] rfl ?_
            exact hJ89_15 276 M11 isAC_276
          )
          (fun J71_12 hJ71_12 => ?_)
      refine go_icmp_ge (tgt := 70) X dX9_weigh_63 rfl hv9 hv3 (fun c46 => ?_) (fun c46 => ?_)
      · refine go_iconst (v := 0) X dX9_weigh_70 rfl ?_
        refine go_sub [2, 3, 5, 6, 1, 0] rfl ?_
        exact hJ71_12 0 M6 (Or.inl rfl)
      · refine go_iconst (v := 1) X dX9_weigh_66 rfl ?_
        refine go_goto (tgt := 71) X dX9_weigh_67 rfl ?_
        refine go_sub [2, 3, 5, 6, 1, 0] rfl ?_
        exact hJ71_12 1 M6 (Or.inr rfl)
    · refine go_aload_n X dX9_weigh_48 rfl 2 rfl ?_
      refine go_iload X dX9_weigh_49 0 rfl ?_
      refine go_iload_n X dX9_weigh_51 rfl 5 rfl ?_
      refine go_iload X dX9_weigh_52 6 rfl ?_
      refine goI (fun H locs ls r ho hW hL => runV X (ok_X9_weightOf l D base M6 v5 hv5 a3 ha3 a4 ha4 H.size r ho) dX9_weigh_54 lw580 lw581 lw582 lw570 ⟨lw571, cy_X9_weightOf, Nat.le_of_ble_eq_true rfl, Nat.le_of_ble_eq_true rfl⟩ rfl tcn273 tc273 rfl rfl rfl rfl (Nat.le_of_ble_eq_true rfl) hW hL hk0) (fun v48 M47 hv48 => ?_)
      exact go_ireturn X hrt hlk dX9_weigh_57 hv48
  · refine go_iload X dX9_weigh_34 6 rfl ?_
    refine go_iload_n X dX9_weigh_36 rfl 5 rfl ?_
    refine go_isub X dX9_weigh_37 ha4 ha3 (fun v49 hv49 => ?_)
    refine go_ldc (v := 100000) X dX9_weigh_38 lw567 rfl ?_
    refine go_imul X dX9_weigh_40 hv49 kI_100000 (fun v50 hv50 => ?_)
    exact go_ireturn X hrt hlk dX9_weigh_41 hv50
def f_X9_measureStretch_L21_51 (a1 : Int) (a2 : Int) (J131_12 : Int → Int → Mm → Rs) (rc21_18 : Int × Int × Int × Mm → Rs) : Int × Int × Int × Mm → Rs := fun (v14, v15, v16, M17) =>
Lt (M17 1 0) fun v19 =>
if v19 ≤ v16 then (
J131_12 v14 v15 M17) else (
Cl (f_X5_lengthOf v16 M17) fun v22 M21 =>
Lt (fun (v23 : Int) (v24 : Int) (v25 : Int) (M26 : Mm) => 
Cl (f_X9_weigh v25 0 a1 a2 M26) fun v29 M28 =>
Lt (wr (v29 + 1)) fun v30 =>
Cl (f_X5_headOf v25 M28) fun v32 M31 =>
Cl (f_X9_placeOf v32 a1 a2 M31) fun v34 M33 =>
Cl (f_X11_entryOf 275 v34 M33) fun v36 M35 =>
Lt (fun (v37 : Int) (v38 : Int) (v39 : Int) (M40 : Mm) => 
Lt (wr (v39 + 1)) fun v42 =>
rc21_18 (v37, v38, v42, M40)) fun J125_41 =>
if v36 ≤ v30 then (
J125_41 v23 v24 v25 M35) else (
Cl (f_X11_setEntry 275 v34 v30 M35) fun _ M44 =>
J125_41 1 v24 v25 M44)) fun J69_27 =>
if ¬ v22 = 3 then (
J69_27 v14 v15 v16 M21) else (
Cl (f_X9_placeOf v16 a1 a2 M21) fun v47 M46 =>
Cl (f_X9_weigh v16 1 a1 a2 M46) fun v49 M48 =>
Cl (f_X11_setEntry 276 v47 v49 M48) fun _ M50 =>
J69_27 v14 v15 v16 M50))
def f_X9_measureStretch_L5_52 (a1 : Int) (a2 : Int) (J137_2 : Mm → Rs) (rc5_6 : Int × Int × Mm → Rs) : Int × Int × Mm → Rs := fun (v3, v4, M5) =>
if 6 ≤ v4 then (
J137_2 M5) else (
if v3 = 0 then (
J137_2 M5) else (
Lt (fun (v9 : Int) (v10 : Int) (M11 : Mm) => 
Lt (wr (v10 + 1)) fun v13 =>
rc5_6 (v9, v13, M11)) fun J131_12 =>
Lp (f_X9_measureStretch_L21_51 a1 a2 J131_12) FU (0, v4, 0, M5)))
def f_X9_measureStretch (a1 : Int) (a2 : Int) (M : Mm) : Rs :=
Lt (fun (M1 : Mm) => 
some (0, M1)) fun J137_2 =>
Lp (f_X9_measureStretch_L5_52 a1 a2 J137_2) FU (1, 0, M)
theorem cy_X9_measureStretch : yX9_measureStretch.cls ≠ "java/lang/invoke/MethodHandle" ∧ yX9_measureStretch.cls ≠ "java/lang/invoke/VarHandle" ∧ (parseMethodDescriptor yX9_measureStretch.desc).map (fun d => d.parameters.length) = some 2 := ⟨by decide +kernel, by decide +kernel, by decide +kernel⟩
set_option maxRecDepth 20000 in
theorem ok_X9_measureStretch (l : Launch) (D : Dd) (base : Nat) (M : Mm) (a1 : Int) (ha1 : i32 a1) (a2 : Int) (ha2 : i32 a2) : OkV l D TC 681 base yX9_measureStretch cX9_measureStretch 8 none 3 77 [.ref (base + 273), .int (Ii a1), .int (Ii a2)] M (f_X9_measureStretch a1 a2 M) := by
  refine metV (by decide +kernel) [(0, .ref (base + 273)), (1, .int (Ii a1)), (2, .int (Ii a2))] rfl (Nat.le_of_ble_eq_true rfl) (fun p e s m args below meth c X hrt hlk => ?_)
  have X : Cx p s m args c cX9_measureStretch D 8 RX9 := X
  unfold f_X9_measureStretch
  refine go_iconst (v := 1) X dX9_measureStretch_0 rfl ?_
  refine go_istore_n (i := 3) (L' := [(3, .int (Ii 1)), (0, .ref (base + 273)), (1, .int (Ii a1)), (2, .int (Ii a2))]) X dX9_measureStretch_1 rfl (by decide) rfl ?_
  refine go_iconst (v := 0) X dX9_measureStretch_2 rfl ?_
  refine go_istore (i := 4) (L' := [(4, .int (Ii 0)), (3, .int (Ii 1)), (0, .ref (base + 273)), (1, .int (Ii a1)), (2, .int (Ii a2))]) X dX9_measureStretch_3 (by decide) rfl ?_
  refine go_lt (fun J => ∀ (M1 : Mm), Go p l e (rmO 3 77) s m args below meth c D TC 681 base 8 0 0 (FinV D TC 681 base below args s) M1 137 [] [] (J M1)) (by
      intro M1
      exact go_vreturn X hrt hlk dX9_measureStretch_137
      )
      (fun J137_2 hJ137_2 => ?_)
  refine go_sub [2, 3, 4, 1, 0] rfl ?_
  exact go_lp (fun (rc : Int × Int × Mm → Rs) => ∀ (v3 : Int) (v4 : Int) (M5 : Mm), bo v3 → i32 v4 → Go p l e (rmO 3 77) s m args below meth c D TC 681 base 8 0 0 (FinV D TC 681 base below args s) M5 5 [(0, .ref (base + 273)), (1, .int (Ii a1)), (2, .int (Ii a2)), (3, .int (Ii v3)), (4, .int (Ii v4))] [] (rc (v3, v4, M5)))
      (by intro v3 v4 M5 hv3 hv4; exact go_none)
      (by
      intro rc5_6 hrc5_6 v3 v4 M5 hv3 hv4
      unfold f_X9_measureStretch_L5_52
      dsimp only
      refine go_iload X dX9_measureStretch_5 4 rfl ?_
      refine go_bipush (v := 6) X dX9_measureStretch_7 (by decide) ?_
      refine go_icmp_ge (tgt := 137) X dX9_measureStretch_9 rfl hv4 kI_6 (fun c7 => ?_) (fun c7 => ?_)
      · refine go_sub [] rfl ?_
        exact hJ137_2 M5
      · refine go_iload_n X dX9_measureStretch_12 rfl 3 rfl ?_
        refine go_if_eq (tgt := 137) X dX9_measureStretch_13 rfl (bo_i32 hv3) (fun c8 => ?_) (fun c8 => ?_)
        · refine go_sub [] rfl ?_
          exact hJ137_2 M5
        · refine go_iconst (v := 0) X dX9_measureStretch_16 rfl ?_
          refine go_istore_n (i := 3) (L' := [(3, .int (Ii 0)), (0, .ref (base + 273)), (1, .int (Ii a1)), (2, .int (Ii a2)), (4, .int (Ii v4))]) X dX9_measureStretch_17 rfl (by decide) rfl ?_
          refine go_iconst (v := 0) X dX9_measureStretch_18 rfl ?_
          refine go_istore (i := 5) (L' := [(5, .int (Ii 0)), (3, .int (Ii 0)), (0, .ref (base + 273)), (1, .int (Ii a1)), (2, .int (Ii a2)), (4, .int (Ii v4))]) X dX9_measureStretch_19 (by decide) rfl ?_
          refine go_lt (fun J => ∀ (v9 : Int) (v10 : Int) (M11 : Mm), bo v9 → i32 v10 → Go p l e (rmO 3 77) s m args below meth c D TC 681 base 8 0 0 (FinV D TC 681 base below args s) M11 131 [(0, .ref (base + 273)), (1, .int (Ii a1)), (2, .int (Ii a2)), (3, .int (Ii v9)), (4, .int (Ii v10))] [] (J v9 v10 M11)) (by
              intro v9 v10 M11 hv9 hv10
              refine go_iinc (i := 4) (L' := fun v => [(4, .int (Ii v)), (0, .ref (base + 273)), (1, .int (Ii a1)), (2, .int (Ii a2)), (3, .int (Ii v9))]) X dX9_measureStretch_131 hv10 kI_1 (j := 4) rfl (by decide) (fun _ => rfl) (fun v13 hv13 => ?_)
              refine go_goto (tgt := 5) X dX9_measureStretch_134 rfl ?_
              refine go_sub [1, 2, 3, 4, 0] rfl ?_
              exact hrc5_6 v9 v13 M11 hv9 hv13
              )
              (fun J131_12 hJ131_12 => ?_)
          refine go_sub [2, 3, 4, 1, 5, 0] rfl ?_
          exact go_lp (fun (rc : Int × Int × Int × Mm → Rs) => ∀ (v14 : Int) (v15 : Int) (v16 : Int) (M17 : Mm), bo v14 → i32 v15 → i32 v16 → Go p l e (rmO 3 77) s m args below meth c D TC 681 base 8 0 0 (FinV D TC 681 base below args s) M17 21 [(0, .ref (base + 273)), (1, .int (Ii a1)), (2, .int (Ii a2)), (3, .int (Ii v14)), (4, .int (Ii v15)), (5, .int (Ii v16))] [] (rc (v14, v15, v16, M17)))
              (by intro v14 v15 v16 M17 hv14 hv15 hv16; exact go_none)
              (by
              intro rc21_18 hrc21_18 v14 v15 v16 M17 hv14 hv15 hv16
              unfold f_X9_measureStretch_L21_51
              dsimp only
              refine go_iload X dX9_measureStretch_21 5 rfl ?_
              refine go_aload_n X dX9_measureStretch_23 rfl 0 rfl ?_
              refine go_getc (i := 1) X fc9 dX9_measureStretch_24 tcn273 tc273 (Nat.le_of_ble_eq_true rfl) rfl lw561 rfl ?_
              refine go_geti (i := 0) X fc5 dX9_measureStretch_27 tcn1 tc1 (Nat.le_of_ble_eq_true rfl) rfl lw584 rfl (fun v19 hv19 => ?_)
              refine go_icmp_ge (tgt := 131) X dX9_measureStretch_30 rfl hv16 hv19 (fun c20 => ?_) (fun c20 => ?_)
              · refine go_sub [0, 1, 2, 3, 4] rfl ?_
                exact hJ131_12 v14 v15 M17 hv14 hv15
              · refine go_aload_n X dX9_measureStretch_33 rfl 0 rfl ?_
                refine go_getc (i := 1) X fc9 dX9_measureStretch_34 tcn273 tc273 (Nat.le_of_ble_eq_true rfl) rfl lw561 rfl ?_
                refine go_iload X dX9_measureStretch_37 5 rfl ?_
                refine goI (fun H locs ls r ho hW hL => runV X (ok_X5_lengthOf l D base M17 v16 hv16 H.size r ho) dX9_measureStretch_39 lw574 lw575 lw576 lw80 ⟨lw419, cy_X5_lengthOf, Nat.le_of_ble_eq_true rfl, Nat.le_of_ble_eq_true rfl⟩ rfl tcn1 tc1 rfl rfl rfl rfl (Nat.le_of_ble_eq_true rfl) hW hL hk0) (fun v22 M21 hv22 => ?_)
                refine go_iconst (v := 3) X dX9_measureStretch_42 rfl ?_
                refine go_lt (fun J => ∀ (v23 : Int) (v24 : Int) (v25 : Int) (M26 : Mm), bo v23 → i32 v24 → i32 v25 → Go p l e (rmO 3 77) s m args below meth c D TC 681 base 8 0 0 (FinV D TC 681 base below args s) M26 69 [(0, .ref (base + 273)), (1, .int (Ii a1)), (2, .int (Ii a2)), (3, .int (Ii v23)), (4, .int (Ii v24)), (5, .int (Ii v25))] [] (J v23 v24 v25 M26)) (by
                    intro v23 v24 v25 M26 hv23 hv24 hv25
                    refine go_aload_n X dX9_measureStretch_69 rfl 0 rfl ?_
                    refine go_iload X dX9_measureStretch_70 5 rfl ?_
                    refine go_iconst (v := 0) X dX9_measureStretch_72 rfl ?_
                    refine go_iload_n X dX9_measureStretch_73 rfl 1 rfl ?_
                    refine go_iload_n X dX9_measureStretch_74 rfl 2 rfl ?_
                    refine goI (fun H locs ls r ho hW hL => runV X (ok_X9_weigh l D base M26 v25 hv25 0 kI_0 a1 ha1 a2 ha2 H.size r ho) dX9_measureStretch_75 lw585 lw586 lw587 lw570 ⟨lw583, cy_X9_weigh, Nat.le_of_ble_eq_true rfl, Nat.le_of_ble_eq_true rfl⟩ rfl tcn273 tc273 rfl rfl rfl rfl (Nat.le_of_ble_eq_true rfl) hW hL hk0) (fun v29 M28 hv29 => ?_)
                    refine go_iconst (v := 1) X dX9_measureStretch_78 rfl ?_
                    refine go_iadd X dX9_measureStretch_79 hv29 kI_1 (fun v30 hv30 => ?_)
                    refine go_istore (i := 6) (L' := [(6, .int (Ii v30)), (0, .ref (base + 273)), (1, .int (Ii a1)), (2, .int (Ii a2)), (3, .int (Ii v23)), (4, .int (Ii v24)), (5, .int (Ii v25))]) X dX9_measureStretch_80 (by decide) rfl ?_
                    refine go_aload_n X dX9_measureStretch_82 rfl 1 rfl ?_
                    refine go_getc (i := 1) X fc9 dX9_measureStretch_83 tcn273 tc273 (Nat.le_of_ble_eq_true rfl) rfl lw561 rfl ?_
                    refine go_iload X dX9_measureStretch_86 6 rfl ?_
                    refine goI (fun H locs ls r ho hW hL => runV X (ok_X5_headOf l D base M28 v25 hv25 H.size r ho) dX9_measureStretch_88 lw588 lw426 lw427 lw80 ⟨lw418, cy_X5_headOf, Nat.le_of_ble_eq_true rfl, Nat.le_of_ble_eq_true rfl⟩ rfl tcn1 tc1 rfl rfl rfl rfl (Nat.le_of_ble_eq_true rfl) hW hL hk0) (fun v32 M31 hv32 => ?_)
                    refine go_iload_n X dX9_measureStretch_91 rfl 2 rfl ?_
                    refine go_iload_n X dX9_measureStretch_92 rfl 3 rfl ?_
                    refine goI (fun H locs ls r ho hW hL => runS X (ok_X9_placeOf l D base M31 v32 hv32 a1 ha1 a2 ha2 H.size r ho) dX9_measureStretch_93 lw568 lw569 lw570 ⟨lw565, cy_X9_placeOf, Nat.le_of_ble_eq_true rfl, Nat.le_of_ble_eq_true rfl⟩ rfl rfl (Nat.le_of_ble_eq_true rfl) hW hL hk0) (fun v34 M33 hv34 => ?_)
                    refine go_istore (i := 7) (L' := [(7, .int (Ii v34)), (6, .int (Ii v30)), (0, .ref (base + 273)), (1, .int (Ii a1)), (2, .int (Ii a2)), (3, .int (Ii v23)), (4, .int (Ii v24)), (5, .int (Ii v25))]) X dX9_measureStretch_96 (by decide) rfl ?_
                    refine go_iload X dX9_measureStretch_98 1 rfl ?_
                    refine go_aload_n X dX9_measureStretch_100 rfl 2 rfl ?_
                    refine go_getc (i := 3) X fc9 dX9_measureStretch_101 tcn273 tc273 (Nat.le_of_ble_eq_true rfl) rfl lw553 rfl ?_
                    refine go_iload X dX9_measureStretch_104 0 rfl ?_
                    refine goI (fun H locs ls r ho hW hL => runSN X (ok_X11_entryOf l D base M33 275 isAC_275 v34 hv34 H.size r ho) dX9_measureStretch_106 nl21 lw20 lw19 ⟨lw13, cy_X11_entryOf, Nat.le_of_ble_eq_true rfl, Nat.le_of_ble_eq_true rfl⟩ rfl rfl (Nat.le_of_ble_eq_true rfl) hW hL hk0) (fun v36 M35 hv36 => ?_)
                    refine go_lt (fun J => ∀ (v37 : Int) (v38 : Int) (v39 : Int) (M40 : Mm), bo v37 → i32 v38 → i32 v39 → Go p l e (rmO 3 77) s m args below meth c D TC 681 base 8 0 0 (FinV D TC 681 base below args s) M40 125 [(0, .ref (base + 273)), (1, .int (Ii a1)), (2, .int (Ii a2)), (3, .int (Ii v37)), (4, .int (Ii v38)), (5, .int (Ii v39))] [] (J v37 v38 v39 M40)) (by
                        intro v37 v38 v39 M40 hv37 hv38 hv39
                        refine go_iinc (i := 5) (L' := fun v => [(5, .int (Ii v)), (0, .ref (base + 273)), (1, .int (Ii a1)), (2, .int (Ii a2)), (3, .int (Ii v37)), (4, .int (Ii v38))]) X dX9_measureStretch_125 hv39 kI_1 (j := 5) rfl (by decide) (fun _ => rfl) (fun v42 hv42 => ?_)
                        refine go_goto (tgt := 21) X dX9_measureStretch_128 rfl ?_
                        refine go_sub [1, 2, 3, 4, 5, 0] rfl ?_
                        exact hrc21_18 v37 v38 v42 M40 hv37 hv38 hv42
                        )
                        (fun J125_41 hJ125_41 => ?_)
                    refine go_icmp_ge (tgt := 125) X dX9_measureStretch_109 rfl hv30 hv36 (fun c43 => ?_) (fun c43 => ?_)
                    · refine go_sub [2, 3, 4, 5, 6, 7] rfl ?_
                      exact hJ125_41 v23 v24 v25 M35 hv23 hv24 hv25
                    · refine go_aload_n X dX9_measureStretch_112 rfl 2 rfl ?_
                      refine go_getc (i := 3) X fc9 dX9_measureStretch_113 tcn273 tc273 (Nat.le_of_ble_eq_true rfl) rfl lw553 rfl ?_
                      refine go_iload X dX9_measureStretch_116 0 rfl ?_
                      refine go_iload X dX9_measureStretch_118 1 rfl ?_
                      refine goV (fun H locs ls r ho hW hL => runSN X (ok_X11_setEntry l D base M35 275 isAC_275 v34 hv34 v30 hv30 H.size r ho) dX9_measureStretch_120 nl22 lw21 lw19 ⟨lw14, cy_X11_setEntry, Nat.le_of_ble_eq_true rfl, Nat.le_of_ble_eq_true rfl⟩ rfl rfl (Nat.le_of_ble_eq_true rfl) hW hL hk0) (fun _ M44 => ?_)
                      refine go_iconst (v := 1) X dX9_measureStretch_123 rfl ?_
                      refine go_istore_n (i := 3) (L' := [(3, .int (Ii 1)), (7, .int (Ii v34)), (6, .int (Ii v30)), (0, .ref (base + 273)), (1, .int (Ii a1)), (2, .int (Ii a2)), (4, .int (Ii v24)), (5, .int (Ii v25))]) X dX9_measureStretch_124 rfl (by decide) rfl ?_
                      refine go_sub [3, 4, 5, 0, 6, 7] rfl ?_
                      exact hJ125_41 1 v24 v25 M44 (Or.inr rfl) hv24 hv25
                    )
                    (fun J69_27 hJ69_27 => ?_)
                refine go_icmp_ne (tgt := 69) X dX9_measureStretch_43 rfl hv22 kI_3 (fun c45 => ?_) (fun c45 => ?_)
                · exact hJ69_27 v14 v15 v16 M21 hv14 hv15 hv16
                · refine go_aload_n X dX9_measureStretch_46 rfl 0 rfl ?_
                  refine go_getc (i := 4) X fc9 dX9_measureStretch_47 tcn273 tc273 (Nat.le_of_ble_eq_true rfl) rfl lw554 rfl ?_
                  refine go_iload X dX9_measureStretch_50 5 rfl ?_
                  refine go_iload_n X dX9_measureStretch_52 rfl 1 rfl ?_
                  refine go_iload_n X dX9_measureStretch_53 rfl 2 rfl ?_
                  refine goI (fun H locs ls r ho hW hL => runS X (ok_X9_placeOf l D base M21 v16 hv16 a1 ha1 a2 ha2 H.size r ho) dX9_measureStretch_54 lw568 lw569 lw570 ⟨lw565, cy_X9_placeOf, Nat.le_of_ble_eq_true rfl, Nat.le_of_ble_eq_true rfl⟩ rfl rfl (Nat.le_of_ble_eq_true rfl) hW hL hk0) (fun v47 M46 hv47 => ?_)
                  refine go_aload_n X dX9_measureStretch_57 rfl 0 rfl ?_
                  refine go_iload X dX9_measureStretch_58 5 rfl ?_
                  refine go_iconst (v := 1) X dX9_measureStretch_60 rfl ?_
                  refine go_iload_n X dX9_measureStretch_61 rfl 1 rfl ?_
                  refine go_iload_n X dX9_measureStretch_62 rfl 2 rfl ?_
                  refine goI (fun H locs ls r ho hW hL => runV X (ok_X9_weigh l D base M46 v16 hv16 1 kI_1 a1 ha1 a2 ha2 H.size r ho) dX9_measureStretch_63 lw585 lw586 lw587 lw570 ⟨lw583, cy_X9_weigh, Nat.le_of_ble_eq_true rfl, Nat.le_of_ble_eq_true rfl⟩ rfl tcn273 tc273 rfl rfl rfl rfl (Nat.le_of_ble_eq_true rfl) hW hL hk0) (fun v49 M48 hv49 => ?_)
                  refine goV (fun H locs ls r ho hW hL => runSN X (ok_X11_setEntry l D base M48 276 isAC_276 v47 hv47 v49 hv49 H.size r ho) dX9_measureStretch_66 nl22 lw21 lw19 ⟨lw14, cy_X11_setEntry, Nat.le_of_ble_eq_true rfl, Nat.le_of_ble_eq_true rfl⟩ rfl rfl (Nat.le_of_ble_eq_true rfl) hW hL hk0) (fun _ M50 => ?_)
                  exact hJ69_27 v14 v15 v16 M50 hv14 hv15 hv16
              )
              FU 0 v4 0 M5 (Or.inl rfl) hv4 kI_0
      )
      FU 1 0 M (Or.inr rfl) kI_0
def f_X9_measure_L49_26 (J73_14 : Int → Mm → Rs) (rc49_19 : Int × Int × Mm → Rs) : Int × Int × Mm → Rs := fun (v16, v17, M18) =>
Lt (wr (v17 + v16)) fun v20 =>
Lt (M18 273 0) fun v21 =>
if v21 < v20 then (
J73_14 v16 M18) else (
Lt (wr (v17 + v16)) fun v23 =>
Cl (f_X9_measureStretch v17 v23 M18) fun _ M24 =>
Lt (wr (v17 + 1)) fun v25 =>
rc49_19 (v16, v25, M24))
def f_X9_measure_L39_27 (J79_6 : Mm → Rs) (rc39_9 : Int × Mm → Rs) : Int × Mm → Rs := fun (v7, M8) =>
Lt (M8 273 0) fun v10 =>
if v10 < v7 then (
J79_6 M8) else (
Lt (fun (v12 : Int) (M13 : Mm) => 
Lt (wr (v12 + 1)) fun v15 =>
rc39_9 (v15, M13)) fun J73_14 =>
Lp (f_X9_measure_L49_26 J73_14) FU (v7, 0, M8))
def f_X9_measure_L20_34 (J37_4 : Mm → Rs) (rc20_30 : Int × Mm → Rs) : Int × Mm → Rs := fun (v28, M29) =>
if 6 ≤ v28 then (
J37_4 M29) else (
Cl (f_X9_measureLetter v28 M29) fun _ M32 =>
Lt (wr (v28 + 1)) fun v33 =>
rc20_30 (v33, M32))
def f_X9_measure (M : Mm) : Rs :=
Cl (f_X11_fillRow 275 500000000 M) fun _ M1 =>
Cl (f_X11_fillRow 276 500000000 M1) fun _ M2 =>
Lt (fun (M3 : Mm) => 
Lt (fun (M5 : Mm) => 
some (0, M5)) fun J79_6 =>
Lp (f_X9_measure_L39_27 J79_6) FU (0, M3)) fun J37_4 =>
Lp (f_X9_measure_L20_34 J37_4) FU (0, M2)
theorem cy_X9_measure : yX9_measure.cls ≠ "java/lang/invoke/MethodHandle" ∧ yX9_measure.cls ≠ "java/lang/invoke/VarHandle" ∧ (parseMethodDescriptor yX9_measure.desc).map (fun d => d.parameters.length) = some 0 := ⟨by decide +kernel, by decide +kernel, by decide +kernel⟩
set_option maxRecDepth 20000 in
theorem ok_X9_measure (l : Launch) (D : Dd) (base : Nat) (M : Mm) : OkV l D TC 681 base yX9_measure cX9_measure 3 none 4 104 [.ref (base + 273)] M (f_X9_measure M) := by
  refine metV (by decide +kernel) [(0, .ref (base + 273))] rfl (Nat.le_of_ble_eq_true rfl) (fun p e s m args below meth c X hrt hlk => ?_)
  have X : Cx p s m args c cX9_measure D 3 RX9 := X
  unfold f_X9_measure
  refine go_aload_n X dX9_measure_0 rfl 0 rfl ?_
  refine go_getc (i := 3) X fc9 dX9_measure_1 tcn273 tc273 (Nat.le_of_ble_eq_true rfl) rfl lw553 rfl ?_
  refine go_ldc (v := 500000000) X dX9_measure_4 lw573 rfl ?_
  refine goV (fun H locs ls r ho hW hL => runSN X (ok_X11_fillRow l D base M 275 isAC_275 500000000 kI_500000000 H.size r ho) dX9_measure_6 nl23 lw93 lw19 ⟨lw66, cy_X11_fillRow, Nat.le_of_ble_eq_true rfl, Nat.le_of_ble_eq_true rfl⟩ rfl rfl (Nat.le_of_ble_eq_true rfl) hW hL hk0) (fun _ M1 => ?_)
  refine go_aload_n X dX9_measure_9 rfl 0 rfl ?_
  refine go_getc (i := 4) X fc9 dX9_measure_10 tcn273 tc273 (Nat.le_of_ble_eq_true rfl) rfl lw554 rfl ?_
  refine go_ldc (v := 500000000) X dX9_measure_13 lw573 rfl ?_
  refine goV (fun H locs ls r ho hW hL => runSN X (ok_X11_fillRow l D base M1 276 isAC_276 500000000 kI_500000000 H.size r ho) dX9_measure_15 nl23 lw93 lw19 ⟨lw66, cy_X11_fillRow, Nat.le_of_ble_eq_true rfl, Nat.le_of_ble_eq_true rfl⟩ rfl rfl (Nat.le_of_ble_eq_true rfl) hW hL hk0) (fun _ M2 => ?_)
  refine go_iconst (v := 0) X dX9_measure_18 rfl ?_
  refine go_istore_n (i := 1) (L' := [(1, .int (Ii 0)), (0, .ref (base + 273))]) X dX9_measure_19 rfl (by decide) rfl ?_
  refine go_lt (fun J => ∀ (M3 : Mm), Go p l e (rmO 4 104) s m args below meth c D TC 681 base 3 0 0 (FinV D TC 681 base below args s) M3 37 [(0, .ref (base + 273))] [] (J M3)) (by
      intro M3
      refine go_iconst (v := 0) X dX9_measure_37 rfl ?_
      refine go_istore_n (i := 1) (L' := [(1, .int (Ii 0)), (0, .ref (base + 273))]) X dX9_measure_38 rfl (by decide) rfl ?_
      refine go_lt (fun J => ∀ (M5 : Mm), Go p l e (rmO 4 104) s m args below meth c D TC 681 base 3 0 0 (FinV D TC 681 base below args s) M5 79 [] [] (J M5)) (by
          intro M5
          exact go_vreturn X hrt hlk dX9_measure_79
          )
          (fun J79_6 hJ79_6 => ?_)
      refine go_sub [1, 0] rfl ?_
      exact go_lp (fun (rc : Int × Mm → Rs) => ∀ (v7 : Int) (M8 : Mm), i32 v7 → Go p l e (rmO 4 104) s m args below meth c D TC 681 base 3 0 0 (FinV D TC 681 base below args s) M8 39 [(0, .ref (base + 273)), (1, .int (Ii v7))] [] (rc (v7, M8)))
          (by intro v7 M8 hv7; exact go_none)
          (by
          intro rc39_9 hrc39_9 v7 M8 hv7
          unfold f_X9_measure_L39_27
          dsimp only
          refine go_iload_n X dX9_measure_39 rfl 1 rfl ?_
          refine go_aload_n X dX9_measure_40 rfl 0 rfl ?_
          refine go_geti (i := 0) X fc9 dX9_measure_41 tcn273 tc273 (Nat.le_of_ble_eq_true rfl) rfl lw563 rfl (fun v10 hv10 => ?_)
          refine go_icmp_gt (tgt := 79) X dX9_measure_44 rfl hv7 hv10 (fun c11 => ?_) (fun c11 => ?_)
          · refine go_sub [] rfl ?_
            exact hJ79_6 M8
          · refine go_iconst (v := 0) X dX9_measure_47 rfl ?_
            refine go_istore_n (i := 2) (L' := [(2, .int (Ii 0)), (0, .ref (base + 273)), (1, .int (Ii v7))]) X dX9_measure_48 rfl (by decide) rfl ?_
            refine go_lt (fun J => ∀ (v12 : Int) (M13 : Mm), i32 v12 → Go p l e (rmO 4 104) s m args below meth c D TC 681 base 3 0 0 (FinV D TC 681 base below args s) M13 73 [(0, .ref (base + 273)), (1, .int (Ii v12))] [] (J v12 M13)) (by
                intro v12 M13 hv12
                refine go_iinc (i := 1) (L' := fun v => [(1, .int (Ii v)), (0, .ref (base + 273))]) X dX9_measure_73 hv12 kI_1 (j := 1) rfl (by decide) (fun _ => rfl) (fun v15 hv15 => ?_)
                refine go_goto (tgt := 39) X dX9_measure_76 rfl ?_
                refine go_sub [1, 0] rfl ?_
                exact hrc39_9 v15 M13 hv15
                )
                (fun J73_14 hJ73_14 => ?_)
            refine go_sub [1, 2, 0] rfl ?_
            exact go_lp (fun (rc : Int × Int × Mm → Rs) => ∀ (v16 : Int) (v17 : Int) (M18 : Mm), i32 v16 → i32 v17 → Go p l e (rmO 4 104) s m args below meth c D TC 681 base 3 0 0 (FinV D TC 681 base below args s) M18 49 [(0, .ref (base + 273)), (1, .int (Ii v16)), (2, .int (Ii v17))] [] (rc (v16, v17, M18)))
                (by intro v16 v17 M18 hv16 hv17; exact go_none)
                (by
                intro rc49_19 hrc49_19 v16 v17 M18 hv16 hv17
                unfold f_X9_measure_L49_26
                dsimp only
                refine go_iload_n X dX9_measure_49 rfl 2 rfl ?_
                refine go_iload_n X dX9_measure_50 rfl 1 rfl ?_
                refine go_iadd X dX9_measure_51 hv17 hv16 (fun v20 hv20 => ?_)
                refine go_aload_n X dX9_measure_52 rfl 0 rfl ?_
                refine go_geti (i := 0) X fc9 dX9_measure_53 tcn273 tc273 (Nat.le_of_ble_eq_true rfl) rfl lw563 rfl (fun v21 hv21 => ?_)
                refine go_icmp_gt (tgt := 73) X dX9_measure_56 rfl hv20 hv21 (fun c22 => ?_) (fun c22 => ?_)
                · refine go_sub [0, 1] rfl ?_
                  exact hJ73_14 v16 M18 hv16
                · refine go_aload_n X dX9_measure_59 rfl 0 rfl ?_
                  refine go_iload_n X dX9_measure_60 rfl 2 rfl ?_
                  refine go_iload_n X dX9_measure_61 rfl 2 rfl ?_
                  refine go_iload_n X dX9_measure_62 rfl 1 rfl ?_
                  refine go_iadd X dX9_measure_63 hv17 hv16 (fun v23 hv23 => ?_)
                  refine goV (fun H locs ls r ho hW hL => runV X (ok_X9_measureStretch l D base M18 v17 hv17 v23 hv23 H.size r ho) dX9_measure_64 lw593 lw594 lw595 lw570 ⟨lw589, cy_X9_measureStretch, Nat.le_of_ble_eq_true rfl, Nat.le_of_ble_eq_true rfl⟩ rfl tcn273 tc273 rfl rfl rfl rfl (Nat.le_of_ble_eq_true rfl) hW hL hk0) (fun _ M24 => ?_)
                  refine go_iinc (i := 2) (L' := fun v => [(2, .int (Ii v)), (0, .ref (base + 273)), (1, .int (Ii v16))]) X dX9_measure_67 hv17 kI_1 (j := 2) rfl (by decide) (fun _ => rfl) (fun v25 hv25 => ?_)
                  refine go_goto (tgt := 49) X dX9_measure_70 rfl ?_
                  refine go_sub [1, 2, 0] rfl ?_
                  exact hrc49_19 v16 v25 M24 hv16 hv25
                )
                FU v7 0 M8 hv7 kI_0
          )
          FU 0 M3 kI_0
      )
      (fun J37_4 hJ37_4 => ?_)
  refine go_sub [1, 0] rfl ?_
  exact go_lp (fun (rc : Int × Mm → Rs) => ∀ (v28 : Int) (M29 : Mm), i32 v28 → Go p l e (rmO 4 104) s m args below meth c D TC 681 base 3 0 0 (FinV D TC 681 base below args s) M29 20 [(0, .ref (base + 273)), (1, .int (Ii v28))] [] (rc (v28, M29)))
      (by intro v28 M29 hv28; exact go_none)
      (by
      intro rc20_30 hrc20_30 v28 M29 hv28
      unfold f_X9_measure_L20_34
      dsimp only
      refine go_iload_n X dX9_measure_20 rfl 1 rfl ?_
      refine go_bipush (v := 6) X dX9_measure_21 (by decide) ?_
      refine go_icmp_ge (tgt := 37) X dX9_measure_23 rfl hv28 kI_6 (fun c31 => ?_) (fun c31 => ?_)
      · refine go_sub [0] rfl ?_
        exact hJ37_4 M29
      · refine go_aload_n X dX9_measure_26 rfl 0 rfl ?_
        refine go_iload_n X dX9_measure_27 rfl 1 rfl ?_
        refine goV (fun H locs ls r ho hW hL => runV X (ok_X9_measureLetter l D base M29 v28 hv28 H.size r ho) dX9_measure_28 lw590 lw591 lw592 lw570 ⟨lw566, cy_X9_measureLetter, Nat.le_of_ble_eq_true rfl, Nat.le_of_ble_eq_true rfl⟩ rfl tcn273 tc273 rfl rfl rfl rfl (Nat.le_of_ble_eq_true rfl) hW hL hk0) (fun _ M32 => ?_)
        refine go_iinc (i := 1) (L' := fun v => [(1, .int (Ii v)), (0, .ref (base + 273))]) X dX9_measure_31 hv28 kI_1 (j := 1) rfl (by decide) (fun _ => rfl) (fun v33 hv33 => ?_)
        refine go_goto (tgt := 20) X dX9_measure_34 rfl ?_
        refine go_sub [1, 0] rfl ?_
        exact hrc20_30 v33 M32 hv33
      )
      FU 0 M2 kI_0
def f_X9_await (a1 : Int) (a2 : Int) (a3 : Int) (a4 : Int) (a5 : Int) (M : Mm) : Rs :=
Lt (M 273 6) fun v1 =>
if v1 < 90 then (
Lt (M 273 6) fun v3 =>
Cl (f_X11_setEntry 277 v3 a1 M) fun _ M4 =>
Lt (M4 273 6) fun v5 =>
Cl (f_X11_setEntry 278 v5 a2 M4) fun _ M6 =>
Lt (M6 273 6) fun v7 =>
Cl (f_X11_setEntry 279 v7 a3 M6) fun _ M8 =>
Lt (M8 273 6) fun v9 =>
Cl (f_X11_setEntry 280 v9 a4 M8) fun _ M10 =>
Lt (M10 273 6) fun v11 =>
Cl (f_X11_setEntry 281 v11 a5 M10) fun _ M12 =>
Lt (M12 273 6) fun v13 =>
Lt (wr (v13 + 1)) fun v14 =>
Lt (up M12 273 6 v14) fun M15 =>
some (0, M15)) else (
some (0, M))
theorem cy_X9_await : yX9_await.cls ≠ "java/lang/invoke/MethodHandle" ∧ yX9_await.cls ≠ "java/lang/invoke/VarHandle" ∧ (parseMethodDescriptor yX9_await.desc).map (fun d => d.parameters.length) = some 5 := ⟨by decide +kernel, by decide +kernel, by decide +kernel⟩
set_option maxRecDepth 20000 in
theorem ok_X9_await (l : Launch) (D : Dd) (base : Nat) (M : Mm) (a1 : Int) (ha1 : i32 a1) (a2 : Int) (ha2 : i32 a2) (a3 : Int) (ha3 : i32 a3) (a4 : Int) (ha4 : i32 a4) (a5 : Int) (ha5 : i32 a5) : OkV l D TC 681 base yX9_await cX9_await 6 none 1 22 [.ref (base + 273), .int (Ii a1), .int (Ii a2), .int (Ii a3), .int (Ii a4), .int (Ii a5)] M (f_X9_await a1 a2 a3 a4 a5 M) := by
  refine metV (by decide +kernel) [(0, .ref (base + 273)), (1, .int (Ii a1)), (2, .int (Ii a2)), (3, .int (Ii a3)), (4, .int (Ii a4)), (5, .int (Ii a5))] rfl (Nat.le_of_ble_eq_true rfl) (fun p e s m args below meth c X hrt hlk => ?_)
  have X : Cx p s m args c cX9_await D 6 RX9 := X
  unfold f_X9_await
  refine go_aload_n X dX9_await_0 rfl 0 rfl ?_
  refine go_geti (i := 6) X fc9 dX9_await_1 tcn273 tc273 (Nat.le_of_ble_eq_true rfl) rfl lw598 rfl (fun v1 hv1 => ?_)
  refine go_bipush (v := 90) X dX9_await_4 (by decide) ?_
  refine go_icmp_lt (tgt := 10) X dX9_await_6 rfl hv1 kI_90 (fun c2 => ?_) (fun c2 => ?_)
  · refine go_aload_n X dX9_await_10 rfl 0 rfl ?_
    refine go_getc (i := 7) X fc9 dX9_await_11 tcn273 tc273 (Nat.le_of_ble_eq_true rfl) rfl lw555 rfl ?_
    refine go_aload_n X dX9_await_14 rfl 0 rfl ?_
    refine go_geti (i := 6) X fc9 dX9_await_15 tcn273 tc273 (Nat.le_of_ble_eq_true rfl) rfl lw598 rfl (fun v3 hv3 => ?_)
    refine go_iload_n X dX9_await_18 rfl 1 rfl ?_
    refine goV (fun H locs ls r ho hW hL => runSN X (ok_X11_setEntry l D base M 277 isAC_277 v3 hv3 a1 ha1 H.size r ho) dX9_await_19 nl22 lw21 lw19 ⟨lw14, cy_X11_setEntry, Nat.le_of_ble_eq_true rfl, Nat.le_of_ble_eq_true rfl⟩ rfl rfl (Nat.le_of_ble_eq_true rfl) hW hL hk0) (fun _ M4 => ?_)
    refine go_aload_n X dX9_await_22 rfl 0 rfl ?_
    refine go_getc (i := 8) X fc9 dX9_await_23 tcn273 tc273 (Nat.le_of_ble_eq_true rfl) rfl lw556 rfl ?_
    refine go_aload_n X dX9_await_26 rfl 0 rfl ?_
    refine go_geti (i := 6) X fc9 dX9_await_27 tcn273 tc273 (Nat.le_of_ble_eq_true rfl) rfl lw598 rfl (fun v5 hv5 => ?_)
    refine go_iload_n X dX9_await_30 rfl 2 rfl ?_
    refine goV (fun H locs ls r ho hW hL => runSN X (ok_X11_setEntry l D base M4 278 isAC_278 v5 hv5 a2 ha2 H.size r ho) dX9_await_31 nl22 lw21 lw19 ⟨lw14, cy_X11_setEntry, Nat.le_of_ble_eq_true rfl, Nat.le_of_ble_eq_true rfl⟩ rfl rfl (Nat.le_of_ble_eq_true rfl) hW hL hk0) (fun _ M6 => ?_)
    refine go_aload_n X dX9_await_34 rfl 0 rfl ?_
    refine go_getc (i := 9) X fc9 dX9_await_35 tcn273 tc273 (Nat.le_of_ble_eq_true rfl) rfl lw557 rfl ?_
    refine go_aload_n X dX9_await_38 rfl 0 rfl ?_
    refine go_geti (i := 6) X fc9 dX9_await_39 tcn273 tc273 (Nat.le_of_ble_eq_true rfl) rfl lw598 rfl (fun v7 hv7 => ?_)
    refine go_iload_n X dX9_await_42 rfl 3 rfl ?_
    refine goV (fun H locs ls r ho hW hL => runSN X (ok_X11_setEntry l D base M6 279 isAC_279 v7 hv7 a3 ha3 H.size r ho) dX9_await_43 nl22 lw21 lw19 ⟨lw14, cy_X11_setEntry, Nat.le_of_ble_eq_true rfl, Nat.le_of_ble_eq_true rfl⟩ rfl rfl (Nat.le_of_ble_eq_true rfl) hW hL hk0) (fun _ M8 => ?_)
    refine go_aload_n X dX9_await_46 rfl 0 rfl ?_
    refine go_getc (i := 10) X fc9 dX9_await_47 tcn273 tc273 (Nat.le_of_ble_eq_true rfl) rfl lw558 rfl ?_
    refine go_aload_n X dX9_await_50 rfl 0 rfl ?_
    refine go_geti (i := 6) X fc9 dX9_await_51 tcn273 tc273 (Nat.le_of_ble_eq_true rfl) rfl lw598 rfl (fun v9 hv9 => ?_)
    refine go_iload X dX9_await_54 4 rfl ?_
    refine goV (fun H locs ls r ho hW hL => runSN X (ok_X11_setEntry l D base M8 280 isAC_280 v9 hv9 a4 ha4 H.size r ho) dX9_await_56 nl22 lw21 lw19 ⟨lw14, cy_X11_setEntry, Nat.le_of_ble_eq_true rfl, Nat.le_of_ble_eq_true rfl⟩ rfl rfl (Nat.le_of_ble_eq_true rfl) hW hL hk0) (fun _ M10 => ?_)
    refine go_aload_n X dX9_await_59 rfl 0 rfl ?_
    refine go_getc (i := 11) X fc9 dX9_await_60 tcn273 tc273 (Nat.le_of_ble_eq_true rfl) rfl lw559 rfl ?_
    refine go_aload_n X dX9_await_63 rfl 0 rfl ?_
    refine go_geti (i := 6) X fc9 dX9_await_64 tcn273 tc273 (Nat.le_of_ble_eq_true rfl) rfl lw598 rfl (fun v11 hv11 => ?_)
    refine go_iload X dX9_await_67 5 rfl ?_
    refine goV (fun H locs ls r ho hW hL => runSN X (ok_X11_setEntry l D base M10 281 isAC_281 v11 hv11 a5 ha5 H.size r ho) dX9_await_69 nl22 lw21 lw19 ⟨lw14, cy_X11_setEntry, Nat.le_of_ble_eq_true rfl, Nat.le_of_ble_eq_true rfl⟩ rfl rfl (Nat.le_of_ble_eq_true rfl) hW hL hk0) (fun _ M12 => ?_)
    refine go_aload_n X dX9_await_72 rfl 0 rfl ?_
    refine go_dup X dX9_await_73 rfl ?_
    refine go_geti (i := 6) X fc9 dX9_await_74 tcn273 tc273 (Nat.le_of_ble_eq_true rfl) rfl lw598 rfl (fun v13 hv13 => ?_)
    refine go_iconst (v := 1) X dX9_await_77 rfl ?_
    refine go_iadd X dX9_await_78 hv13 kI_1 (fun v14 hv14 => ?_)
    refine go_puti (i := 6) X fc9 dX9_await_79 tcn273 tc273 (Nat.le_of_ble_eq_true rfl) rfl lw598 rfl rfl rfl hv14 (fun M15 => ?_)
    exact go_vreturn X hrt hlk dX9_await_82
  · exact go_vreturn X hrt hlk dX9_await_9
