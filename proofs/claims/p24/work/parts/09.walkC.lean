def f_X9_productionFor_L12_24 (a1 : Int) (a2 : Int) (a3 : Int) (v2 : Int) (J62_4 : Mm → Rs) (J53_7 : Int → Mm → Rs) (rc12_10 : Int × Mm → Rs) : Int × Mm → Rs := fun (v8, M9) =>
Lt (M9 1 0) fun v11 =>
if v11 ≤ v8 then (
J62_4 M9) else (
Cl (f_X5_headOf v8 M9) fun v14 M13 =>
Lt (fun (v15 : Int) (M16 : Mm) => 
Lt (wr (v15 + 1)) fun v18 =>
rc12_10 (v18, M16)) fun J56_17 =>
if ¬ v14 = a1 then (
J56_17 v8 M13) else (
Cl (f_X9_weigh v8 0 a2 a3 M13) fun v21 M20 =>
Lt (wr (v21 + 1)) fun v22 =>
if ¬ v22 = v2 then (
J56_17 v8 M20) else (
J53_7 v8 M20)))
def f_X9_productionFor (a1 : Int) (a2 : Int) (a3 : Int) (M : Mm) : Rs :=
Cl (f_X9_weightOf a1 a2 a3 M) fun v2 M1 =>
Lt (fun (M3 : Mm) => 
some ((-1), M3)) fun J62_4 =>
Lt (fun (v5 : Int) (M6 : Mm) => 
some (v5, M6)) fun J53_7 =>
Lp (f_X9_productionFor_L12_24 a1 a2 a3 v2 J62_4 J53_7) FU (0, M1)
theorem cy_X9_productionFor : yX9_productionFor.cls ≠ "java/lang/invoke/MethodHandle" ∧ yX9_productionFor.cls ≠ "java/lang/invoke/VarHandle" ∧ (parseMethodDescriptor yX9_productionFor.desc).map (fun d => d.parameters.length) = some 3 := ⟨by decide +kernel, by decide +kernel, by decide +kernel⟩
set_option maxRecDepth 20000 in
theorem ok_X9_productionFor (l : Launch) (D : Dd) (base : Nat) (M : Mm) (a1 : Int) (ha1 : i32 a1) (a2 : Int) (ha2 : i32 a2) (a3 : Int) (ha3 : i32 a3) : OkI l D TC 681 base yX9_productionFor cX9_productionFor 6 (some .int) 3 77 [.ref (base + 273), .int (Ii a1), .int (Ii a2), .int (Ii a3)] M i32 (f_X9_productionFor a1 a2 a3 M) := by
  refine metI (by decide +kernel) [(0, .ref (base + 273)), (1, .int (Ii a1)), (2, .int (Ii a2)), (3, .int (Ii a3))] rfl (Nat.le_of_ble_eq_true rfl) (fun p e s m args below meth c X hrt hlk => ?_)
  have X : Cx p s m args c cX9_productionFor D 6 RX9 := X
  unfold f_X9_productionFor
  refine go_aload_n X dX9_productionFor_0 rfl 0 rfl ?_
  refine go_iload_n X dX9_productionFor_1 rfl 1 rfl ?_
  refine go_iload_n X dX9_productionFor_2 rfl 2 rfl ?_
  refine go_iload_n X dX9_productionFor_3 rfl 3 rfl ?_
  refine goI (fun H locs ls r ho hW hL => runV X (ok_X9_weightOf l D base M a1 ha1 a2 ha2 a3 ha3 H.size r ho) dX9_productionFor_4 lw580 lw581 lw582 lw570 ⟨lw571, cy_X9_weightOf, Nat.le_of_ble_eq_true rfl, Nat.le_of_ble_eq_true rfl⟩ rfl tcn273 tc273 rfl rfl rfl rfl (Nat.le_of_ble_eq_true rfl) hW hL hk0) (fun v2 M1 hv2 => ?_)
  refine go_istore (i := 4) (L' := [(4, .int (Ii v2)), (0, .ref (base + 273)), (1, .int (Ii a1)), (2, .int (Ii a2)), (3, .int (Ii a3))]) X dX9_productionFor_7 (by decide) rfl ?_
  refine go_iconst (v := 0) X dX9_productionFor_9 rfl ?_
  refine go_istore (i := 5) (L' := [(5, .int (Ii 0)), (4, .int (Ii v2)), (0, .ref (base + 273)), (1, .int (Ii a1)), (2, .int (Ii a2)), (3, .int (Ii a3))]) X dX9_productionFor_10 (by decide) rfl ?_
  refine go_lt (fun J => ∀ (M3 : Mm), Go p l e (rmO 3 77) s m args below meth c D TC 681 base 6 0 0 (FinI D TC 681 base below args s i32) M3 62 [] [] (J M3)) (by
      intro M3
      refine go_iconst (v := (-1)) X dX9_productionFor_62 rfl ?_
      exact go_ireturn X hrt hlk dX9_productionFor_63 kI_m1
      )
      (fun J62_4 hJ62_4 => ?_)
  refine go_lt (fun J => ∀ (v5 : Int) (M6 : Mm), i32 v5 → Go p l e (rmO 3 77) s m args below meth c D TC 681 base 6 0 0 (FinI D TC 681 base below args s i32) M6 53 [(5, .int (Ii v5))] [] (J v5 M6)) (by
      intro v5 M6 hv5
      refine go_iload X dX9_productionFor_53 0 rfl ?_
      exact go_ireturn X hrt hlk dX9_productionFor_55 hv5
      )
      (fun J53_7 hJ53_7 => ?_)
  refine go_sub [2, 3, 4, 5, 1, 0] rfl ?_
  exact go_lp (fun (rc : Int × Mm → Rs) => ∀ (v8 : Int) (M9 : Mm), i32 v8 → Go p l e (rmO 3 77) s m args below meth c D TC 681 base 6 0 0 (FinI D TC 681 base below args s i32) M9 12 [(0, .ref (base + 273)), (1, .int (Ii a1)), (2, .int (Ii a2)), (3, .int (Ii a3)), (4, .int (Ii v2)), (5, .int (Ii v8))] [] (rc (v8, M9)))
      (by intro v8 M9 hv8; exact go_none)
      (by
      intro rc12_10 hrc12_10 v8 M9 hv8
      unfold f_X9_productionFor_L12_24
      dsimp only
      refine go_iload X dX9_productionFor_12 5 rfl ?_
      refine go_aload_n X dX9_productionFor_14 rfl 0 rfl ?_
      refine go_getc (i := 1) X fc9 dX9_productionFor_15 tcn273 tc273 (Nat.le_of_ble_eq_true rfl) rfl lw561 rfl ?_
      refine go_geti (i := 0) X fc5 dX9_productionFor_18 tcn1 tc1 (Nat.le_of_ble_eq_true rfl) rfl lw584 rfl (fun v11 hv11 => ?_)
      refine go_icmp_ge (tgt := 62) X dX9_productionFor_21 rfl hv8 hv11 (fun c12 => ?_) (fun c12 => ?_)
      · refine go_sub [] rfl ?_
        exact hJ62_4 M9
      · refine go_aload_n X dX9_productionFor_24 rfl 0 rfl ?_
        refine go_getc (i := 1) X fc9 dX9_productionFor_25 tcn273 tc273 (Nat.le_of_ble_eq_true rfl) rfl lw561 rfl ?_
        refine go_iload X dX9_productionFor_28 5 rfl ?_
        refine goI (fun H locs ls r ho hW hL => runV X (ok_X5_headOf l D base M9 v8 hv8 H.size r ho) dX9_productionFor_30 lw588 lw426 lw427 lw80 ⟨lw418, cy_X5_headOf, Nat.le_of_ble_eq_true rfl, Nat.le_of_ble_eq_true rfl⟩ rfl tcn1 tc1 rfl rfl rfl rfl (Nat.le_of_ble_eq_true rfl) hW hL hk0) (fun v14 M13 hv14 => ?_)
        refine go_iload_n X dX9_productionFor_33 rfl 1 rfl ?_
        refine go_lt (fun J => ∀ (v15 : Int) (M16 : Mm), i32 v15 → Go p l e (rmO 3 77) s m args below meth c D TC 681 base 6 0 0 (FinI D TC 681 base below args s i32) M16 56 [(0, .ref (base + 273)), (1, .int (Ii a1)), (2, .int (Ii a2)), (3, .int (Ii a3)), (4, .int (Ii v2)), (5, .int (Ii v15))] [] (J v15 M16)) (by
            intro v15 M16 hv15
            refine go_iinc (i := 5) (L' := fun v => [(5, .int (Ii v)), (0, .ref (base + 273)), (1, .int (Ii a1)), (2, .int (Ii a2)), (3, .int (Ii a3)), (4, .int (Ii v2))]) X dX9_productionFor_56 hv15 kI_1 (j := 5) rfl (by decide) (fun _ => rfl) (fun v18 hv18 => ?_)
            refine go_goto (tgt := 12) X dX9_productionFor_59 rfl ?_
            refine go_sub [1, 2, 3, 4, 5, 0] rfl ?_
            exact hrc12_10 v18 M16 hv18
            )
            (fun J56_17 hJ56_17 => ?_)
        refine go_icmp_ne (tgt := 56) X dX9_productionFor_34 rfl hv14 ha1 (fun c19 => ?_) (fun c19 => ?_)
        · exact hJ56_17 v8 M13 hv8
        · refine go_aload_n X dX9_productionFor_37 rfl 0 rfl ?_
          refine go_iload X dX9_productionFor_38 5 rfl ?_
          refine go_iconst (v := 0) X dX9_productionFor_40 rfl ?_
          refine go_iload_n X dX9_productionFor_41 rfl 2 rfl ?_
          refine go_iload_n X dX9_productionFor_42 rfl 3 rfl ?_
          refine goI (fun H locs ls r ho hW hL => runV X (ok_X9_weigh l D base M13 v8 hv8 0 kI_0 a2 ha2 a3 ha3 H.size r ho) dX9_productionFor_43 lw585 lw586 lw587 lw570 ⟨lw583, cy_X9_weigh, Nat.le_of_ble_eq_true rfl, Nat.le_of_ble_eq_true rfl⟩ rfl tcn273 tc273 rfl rfl rfl rfl (Nat.le_of_ble_eq_true rfl) hW hL hk0) (fun v21 M20 hv21 => ?_)
          refine go_iconst (v := 1) X dX9_productionFor_46 rfl ?_
          refine go_iadd X dX9_productionFor_47 hv21 kI_1 (fun v22 hv22 => ?_)
          refine go_iload X dX9_productionFor_48 4 rfl ?_
          refine go_icmp_ne (tgt := 56) X dX9_productionFor_50 rfl hv22 hv2 (fun c23 => ?_) (fun c23 => ?_)
          · exact hJ56_17 v8 M20 hv8
          · refine go_sub [5] rfl ?_
            exact hJ53_7 v8 M20 hv8
      )
      FU 0 M1 kI_0
def f_X9_cutUp_L23_18 (a1 : Int) (a3 : Int) (J72_4 : Mm → Rs) (rc23_8 : Int × Int × Mm → Rs) : Int × Int × Mm → Rs := fun (v5, v6, M7) =>
Cl (f_X5_lengthOf a1 M7) fun v10 M9 =>
if v10 ≤ v6 then (
J72_4 M9) else (
Cl (f_X9_weigh a1 v6 v5 a3 M9) fun v13 M12 =>
Lt (M12 273 5) fun v14 =>
Lt (wr (v6 + 1)) fun v15 =>
Cl (f_X11_setEntry 282 v15 v14 M12) fun _ M16 =>
Lt (wr (v6 + 1)) fun v17 =>
rc23_8 (v14, v17, M16))
def f_X9_cutUp (a1 : Int) (a2 : Int) (a3 : Int) (M : Mm) : Rs :=
Cl (f_X11_fillRow 282 a3 M) fun _ M1 =>
Cl (f_X11_setEntry 282 0 a2 M1) fun _ M2 =>
Lt (fun (M3 : Mm) => 
some (0, M3)) fun J72_4 =>
Lp (f_X9_cutUp_L23_18 a1 a3 J72_4) FU (a2, 0, M2)
theorem cy_X9_cutUp : yX9_cutUp.cls ≠ "java/lang/invoke/MethodHandle" ∧ yX9_cutUp.cls ≠ "java/lang/invoke/VarHandle" ∧ (parseMethodDescriptor yX9_cutUp.desc).map (fun d => d.parameters.length) = some 3 := ⟨by decide +kernel, by decide +kernel, by decide +kernel⟩
set_option maxRecDepth 20000 in
theorem ok_X9_cutUp (l : Launch) (D : Dd) (base : Nat) (M : Mm) (a1 : Int) (ha1 : i32 a1) (a2 : Int) (ha2 : i32 a2) (a3 : Int) (ha3 : i32 a3) : OkV l D TC 681 base yX9_cutUp cX9_cutUp 6 none 3 77 [.ref (base + 273), .int (Ii a1), .int (Ii a2), .int (Ii a3)] M (f_X9_cutUp a1 a2 a3 M) := by
  refine metV (by decide +kernel) [(0, .ref (base + 273)), (1, .int (Ii a1)), (2, .int (Ii a2)), (3, .int (Ii a3))] rfl (Nat.le_of_ble_eq_true rfl) (fun p e s m args below meth c X hrt hlk => ?_)
  have X : Cx p s m args c cX9_cutUp D 6 RX9 := X
  unfold f_X9_cutUp
  refine go_aload_n X dX9_cutUp_0 rfl 0 rfl ?_
  refine go_getc (i := 12) X fc9 dX9_cutUp_1 tcn273 tc273 (Nat.le_of_ble_eq_true rfl) rfl lw560 rfl ?_
  refine go_iload_n X dX9_cutUp_4 rfl 3 rfl ?_
  refine goV (fun H locs ls r ho hW hL => runSN X (ok_X11_fillRow l D base M 282 isAC_282 a3 ha3 H.size r ho) dX9_cutUp_5 nl23 lw93 lw19 ⟨lw66, cy_X11_fillRow, Nat.le_of_ble_eq_true rfl, Nat.le_of_ble_eq_true rfl⟩ rfl rfl (Nat.le_of_ble_eq_true rfl) hW hL hk0) (fun _ M1 => ?_)
  refine go_aload_n X dX9_cutUp_8 rfl 0 rfl ?_
  refine go_getc (i := 12) X fc9 dX9_cutUp_9 tcn273 tc273 (Nat.le_of_ble_eq_true rfl) rfl lw560 rfl ?_
  refine go_iconst (v := 0) X dX9_cutUp_12 rfl ?_
  refine go_iload_n X dX9_cutUp_13 rfl 2 rfl ?_
  refine goV (fun H locs ls r ho hW hL => runSN X (ok_X11_setEntry l D base M1 282 isAC_282 0 kI_0 a2 ha2 H.size r ho) dX9_cutUp_14 nl22 lw21 lw19 ⟨lw14, cy_X11_setEntry, Nat.le_of_ble_eq_true rfl, Nat.le_of_ble_eq_true rfl⟩ rfl rfl (Nat.le_of_ble_eq_true rfl) hW hL hk0) (fun _ M2 => ?_)
  refine go_iload_n X dX9_cutUp_17 rfl 2 rfl ?_
  refine go_istore (i := 4) (L' := [(4, .int (Ii a2)), (0, .ref (base + 273)), (1, .int (Ii a1)), (2, .int (Ii a2)), (3, .int (Ii a3))]) X dX9_cutUp_18 (by decide) rfl ?_
  refine go_iconst (v := 0) X dX9_cutUp_20 rfl ?_
  refine go_istore (i := 5) (L' := [(5, .int (Ii 0)), (4, .int (Ii a2)), (0, .ref (base + 273)), (1, .int (Ii a1)), (2, .int (Ii a2)), (3, .int (Ii a3))]) X dX9_cutUp_21 (by decide) rfl ?_
  refine go_lt (fun J => ∀ (M3 : Mm), Go p l e (rmO 3 77) s m args below meth c D TC 681 base 6 0 0 (FinV D TC 681 base below args s) M3 72 [] [] (J M3)) (by
      intro M3
      exact go_vreturn X hrt hlk dX9_cutUp_72
      )
      (fun J72_4 hJ72_4 => ?_)
  refine go_sub [2, 3, 5, 1, 0] rfl ?_
  exact go_lp (fun (rc : Int × Int × Mm → Rs) => ∀ (v5 : Int) (v6 : Int) (M7 : Mm), i32 v5 → i32 v6 → Go p l e (rmO 3 77) s m args below meth c D TC 681 base 6 0 0 (FinV D TC 681 base below args s) M7 23 [(0, .ref (base + 273)), (1, .int (Ii a1)), (3, .int (Ii a3)), (4, .int (Ii v5)), (5, .int (Ii v6))] [] (rc (v5, v6, M7)))
      (by intro v5 v6 M7 hv5 hv6; exact go_none)
      (by
      intro rc23_8 hrc23_8 v5 v6 M7 hv5 hv6
      unfold f_X9_cutUp_L23_18
      dsimp only
      refine go_iload X dX9_cutUp_23 4 rfl ?_
      refine go_aload_n X dX9_cutUp_25 rfl 0 rfl ?_
      refine go_getc (i := 1) X fc9 dX9_cutUp_26 tcn273 tc273 (Nat.le_of_ble_eq_true rfl) rfl lw561 rfl ?_
      refine go_iload_n X dX9_cutUp_29 rfl 1 rfl ?_
      refine goI (fun H locs ls r ho hW hL => runV X (ok_X5_lengthOf l D base M7 a1 ha1 H.size r ho) dX9_cutUp_30 lw574 lw575 lw576 lw80 ⟨lw419, cy_X5_lengthOf, Nat.le_of_ble_eq_true rfl, Nat.le_of_ble_eq_true rfl⟩ rfl tcn1 tc1 rfl rfl rfl rfl (Nat.le_of_ble_eq_true rfl) hW hL hk0) (fun v10 M9 hv10 => ?_)
      refine go_icmp_ge (tgt := 72) X dX9_cutUp_33 rfl hv6 hv10 (fun c11 => ?_) (fun c11 => ?_)
      · refine go_sub [] rfl ?_
        exact hJ72_4 M9
      · refine go_aload_n X dX9_cutUp_36 rfl 0 rfl ?_
        refine go_iload_n X dX9_cutUp_37 rfl 1 rfl ?_
        refine go_iload X dX9_cutUp_38 4 rfl ?_
        refine go_iload X dX9_cutUp_40 3 rfl ?_
        refine go_iload_n X dX9_cutUp_42 rfl 2 rfl ?_
        refine goI (fun H locs ls r ho hW hL => runV X (ok_X9_weigh l D base M9 a1 ha1 v6 hv6 v5 hv5 a3 ha3 H.size r ho) dX9_cutUp_43 lw585 lw586 lw587 lw570 ⟨lw583, cy_X9_weigh, Nat.le_of_ble_eq_true rfl, Nat.le_of_ble_eq_true rfl⟩ rfl tcn273 tc273 rfl rfl rfl rfl (Nat.le_of_ble_eq_true rfl) hW hL hk0) (fun v13 M12 hv13 => ?_)
        refine go_pop X dX9_cutUp_46 rfl ?_
        refine go_aload_n X dX9_cutUp_47 rfl 0 rfl ?_
        refine go_geti (i := 5) X fc9 dX9_cutUp_48 tcn273 tc273 (Nat.le_of_ble_eq_true rfl) rfl lw572 rfl (fun v14 hv14 => ?_)
        refine go_istore (i := 4) (L' := [(4, .int (Ii v14)), (0, .ref (base + 273)), (1, .int (Ii a1)), (3, .int (Ii a3)), (5, .int (Ii v6))]) X dX9_cutUp_51 (by decide) rfl ?_
        refine go_aload_n X dX9_cutUp_53 rfl 1 rfl ?_
        refine go_getc (i := 12) X fc9 dX9_cutUp_54 tcn273 tc273 (Nat.le_of_ble_eq_true rfl) rfl lw560 rfl ?_
        refine go_iload X dX9_cutUp_57 4 rfl ?_
        refine go_iconst (v := 1) X dX9_cutUp_59 rfl ?_
        refine go_iadd X dX9_cutUp_60 hv6 kI_1 (fun v15 hv15 => ?_)
        refine go_iload X dX9_cutUp_61 0 rfl ?_
        refine goV (fun H locs ls r ho hW hL => runSN X (ok_X11_setEntry l D base M12 282 isAC_282 v15 hv15 v14 hv14 H.size r ho) dX9_cutUp_63 nl22 lw21 lw19 ⟨lw14, cy_X11_setEntry, Nat.le_of_ble_eq_true rfl, Nat.le_of_ble_eq_true rfl⟩ rfl rfl (Nat.le_of_ble_eq_true rfl) hW hL hk0) (fun _ M16 => ?_)
        refine go_iinc (i := 5) (L' := fun v => [(5, .int (Ii v)), (4, .int (Ii v14)), (0, .ref (base + 273)), (1, .int (Ii a1)), (3, .int (Ii a3))]) X dX9_cutUp_66 hv6 kI_1 (j := 4) rfl (by decide) (fun _ => rfl) (fun v17 hv17 => ?_)
        refine go_goto (tgt := 23) X dX9_cutUp_69 rfl ?_
        refine go_sub [2, 3, 4, 1, 0] rfl ?_
        exact hrc23_8 v14 v17 M16 hv14 hv17
      )
      FU a2 0 M2 ha2 kI_0
def f_X9_putsOf_L7_39 (a1 : Int) (J104_3 : Int → Mm → Rs) (rc7_8 : Int × Int × Int × Mm → Rs) : Int × Int × Int × Mm → Rs := fun (v4, v5, v6, M7) =>
Cl (f_X5_lengthOf a1 M7) fun v10 M9 =>
if v10 ≤ v6 then (
J104_3 v4 M9) else (
Cl (f_X5_symbolOf a1 v6 M9) fun v13 M12 =>
Lt (fun (v14 : Int) (v15 : Int) (v16 : Int) (M17 : Mm) => 
Lt (wr (v16 + 1)) fun v19 =>
rc7_8 (v14, v15, v19, M17)) fun J98_18 =>
if 4 ≤ v13 then (
Cl (f_X11_entryOf 282 v6 M12) fun v22 M21 =>
Lt (wr (v6 + 1)) fun v23 =>
Cl (f_X11_entryOf 282 v23 M21) fun v25 M24 =>
Cl (f_X9_weightOf v13 v22 v25 M24) fun v27 M26 =>
Lt (wr (v25 - v22)) fun v28 =>
Lt (wr (v28 * 100000)) fun v29 =>
Lt (fun (v30 : Int) (v31 : Int) (v32 : Int) (v33 : Int) (M34 : Mm) => 
Lt (jor v32 v33) fun v36 =>
Lt (jshl v30 1) fun v37 =>
J98_18 v36 v37 v31 M34) fun J92_35 =>
if v27 ≤ v29 then (
J92_35 v5 v6 v4 0 M26) else (
J92_35 v5 v6 v4 v5 M26)) else (
J98_18 v4 v5 v6 M12))
def f_X9_putsOf (a1 : Int) (M : Mm) : Rs :=
Lt (fun (v1 : Int) (M2 : Mm) => 
some (v1, M2)) fun J104_3 =>
Lp (f_X9_putsOf_L7_39 a1 J104_3) FU (0, 1, 0, M)
theorem cy_X9_putsOf : yX9_putsOf.cls ≠ "java/lang/invoke/MethodHandle" ∧ yX9_putsOf.cls ≠ "java/lang/invoke/VarHandle" ∧ (parseMethodDescriptor yX9_putsOf.desc).map (fun d => d.parameters.length) = some 1 := ⟨by decide +kernel, by decide +kernel, by decide +kernel⟩
set_option maxRecDepth 20000 in
theorem ok_X9_putsOf (l : Launch) (D : Dd) (base : Nat) (M : Mm) (a1 : Int) (ha1 : i32 a1) : OkI l D TC 681 base yX9_putsOf cX9_putsOf 8 (some .int) 2 45 [.ref (base + 273), .int (Ii a1)] M i32 (f_X9_putsOf a1 M) := by
  refine metI (by decide +kernel) [(0, .ref (base + 273)), (1, .int (Ii a1))] rfl (Nat.le_of_ble_eq_true rfl) (fun p e s m args below meth c X hrt hlk => ?_)
  have X : Cx p s m args c cX9_putsOf D 8 RX9 := X
  unfold f_X9_putsOf
  refine go_iconst (v := 0) X dX9_putsOf_0 rfl ?_
  refine go_istore_n (i := 2) (L' := [(2, .int (Ii 0)), (0, .ref (base + 273)), (1, .int (Ii a1))]) X dX9_putsOf_1 rfl (by decide) rfl ?_
  refine go_iconst (v := 1) X dX9_putsOf_2 rfl ?_
  refine go_istore_n (i := 3) (L' := [(3, .int (Ii 1)), (2, .int (Ii 0)), (0, .ref (base + 273)), (1, .int (Ii a1))]) X dX9_putsOf_3 rfl (by decide) rfl ?_
  refine go_iconst (v := 0) X dX9_putsOf_4 rfl ?_
  refine go_istore (i := 4) (L' := [(4, .int (Ii 0)), (3, .int (Ii 1)), (2, .int (Ii 0)), (0, .ref (base + 273)), (1, .int (Ii a1))]) X dX9_putsOf_5 (by decide) rfl ?_
  refine go_lt (fun J => ∀ (v1 : Int) (M2 : Mm), i32 v1 → Go p l e (rmO 2 45) s m args below meth c D TC 681 base 8 0 0 (FinI D TC 681 base below args s i32) M2 104 [(2, .int (Ii v1))] [] (J v1 M2)) (by
      intro v1 M2 hv1
      refine go_iload_n X dX9_putsOf_104 rfl 0 rfl ?_
      exact go_ireturn X hrt hlk dX9_putsOf_105 hv1
      )
      (fun J104_3 hJ104_3 => ?_)
  refine go_sub [3, 4, 2, 1, 0] rfl ?_
  exact go_lp (fun (rc : Int × Int × Int × Mm → Rs) => ∀ (v4 : Int) (v5 : Int) (v6 : Int) (M7 : Mm), i32 v4 → i32 v5 → i32 v6 → Go p l e (rmO 2 45) s m args below meth c D TC 681 base 8 0 0 (FinI D TC 681 base below args s i32) M7 7 [(0, .ref (base + 273)), (1, .int (Ii a1)), (2, .int (Ii v4)), (3, .int (Ii v5)), (4, .int (Ii v6))] [] (rc (v4, v5, v6, M7)))
      (by intro v4 v5 v6 M7 hv4 hv5 hv6; exact go_none)
      (by
      intro rc7_8 hrc7_8 v4 v5 v6 M7 hv4 hv5 hv6
      unfold f_X9_putsOf_L7_39
      dsimp only
      refine go_iload X dX9_putsOf_7 4 rfl ?_
      refine go_aload_n X dX9_putsOf_9 rfl 0 rfl ?_
      refine go_getc (i := 1) X fc9 dX9_putsOf_10 tcn273 tc273 (Nat.le_of_ble_eq_true rfl) rfl lw561 rfl ?_
      refine go_iload_n X dX9_putsOf_13 rfl 1 rfl ?_
      refine goI (fun H locs ls r ho hW hL => runV X (ok_X5_lengthOf l D base M7 a1 ha1 H.size r ho) dX9_putsOf_14 lw574 lw575 lw576 lw80 ⟨lw419, cy_X5_lengthOf, Nat.le_of_ble_eq_true rfl, Nat.le_of_ble_eq_true rfl⟩ rfl tcn1 tc1 rfl rfl rfl rfl (Nat.le_of_ble_eq_true rfl) hW hL hk0) (fun v10 M9 hv10 => ?_)
      refine go_icmp_ge (tgt := 104) X dX9_putsOf_17 rfl hv6 hv10 (fun c11 => ?_) (fun c11 => ?_)
      · refine go_sub [2] rfl ?_
        exact hJ104_3 v4 M9 hv4
      · refine go_aload_n X dX9_putsOf_20 rfl 0 rfl ?_
        refine go_getc (i := 1) X fc9 dX9_putsOf_21 tcn273 tc273 (Nat.le_of_ble_eq_true rfl) rfl lw561 rfl ?_
        refine go_iload_n X dX9_putsOf_24 rfl 1 rfl ?_
        refine go_iload X dX9_putsOf_25 4 rfl ?_
        refine goI (fun H locs ls r ho hW hL => runV X (ok_X5_symbolOf l D base M9 a1 ha1 v6 hv6 H.size r ho) dX9_putsOf_27 lw577 lw578 lw579 lw80 ⟨lw420, cy_X5_symbolOf, Nat.le_of_ble_eq_true rfl, Nat.le_of_ble_eq_true rfl⟩ rfl tcn1 tc1 rfl rfl rfl rfl (Nat.le_of_ble_eq_true rfl) hW hL hk0) (fun v13 M12 hv13 => ?_)
        refine go_istore (i := 5) (L' := [(5, .int (Ii v13)), (0, .ref (base + 273)), (1, .int (Ii a1)), (2, .int (Ii v4)), (3, .int (Ii v5)), (4, .int (Ii v6))]) X dX9_putsOf_30 (by decide) rfl ?_
        refine go_iload X dX9_putsOf_32 0 rfl ?_
        refine go_iconst (v := 4) X dX9_putsOf_34 rfl ?_
        refine go_lt (fun J => ∀ (v14 : Int) (v15 : Int) (v16 : Int) (M17 : Mm), i32 v14 → i32 v15 → i32 v16 → Go p l e (rmO 2 45) s m args below meth c D TC 681 base 8 0 0 (FinI D TC 681 base below args s i32) M17 98 [(0, .ref (base + 273)), (1, .int (Ii a1)), (2, .int (Ii v14)), (3, .int (Ii v15)), (4, .int (Ii v16))] [] (J v14 v15 v16 M17)) (by
            intro v14 v15 v16 M17 hv14 hv15 hv16
            refine go_iinc (i := 4) (L' := fun v => [(4, .int (Ii v)), (0, .ref (base + 273)), (1, .int (Ii a1)), (2, .int (Ii v14)), (3, .int (Ii v15))]) X dX9_putsOf_98 hv16 kI_1 (j := 4) rfl (by decide) (fun _ => rfl) (fun v19 hv19 => ?_)
            refine go_goto (tgt := 7) X dX9_putsOf_101 rfl ?_
            refine go_sub [1, 2, 3, 4, 0] rfl ?_
            exact hrc7_8 v14 v15 v19 M17 hv14 hv15 hv19
            )
            (fun J98_18 hJ98_18 => ?_)
        refine go_icmp_ge (tgt := 41) X dX9_putsOf_35 rfl hv13 kI_4 (fun c20 => ?_) (fun c20 => ?_)
        · refine go_aload_n X dX9_putsOf_41 rfl 1 rfl ?_
          refine go_getc (i := 12) X fc9 dX9_putsOf_42 tcn273 tc273 (Nat.le_of_ble_eq_true rfl) rfl lw560 rfl ?_
          refine go_iload X dX9_putsOf_45 5 rfl ?_
          refine goI (fun H locs ls r ho hW hL => runSN X (ok_X11_entryOf l D base M12 282 isAC_282 v6 hv6 H.size r ho) dX9_putsOf_47 nl21 lw20 lw19 ⟨lw13, cy_X11_entryOf, Nat.le_of_ble_eq_true rfl, Nat.le_of_ble_eq_true rfl⟩ rfl rfl (Nat.le_of_ble_eq_true rfl) hW hL hk0) (fun v22 M21 hv22 => ?_)
          refine go_istore (i := 6) (L' := [(6, .int (Ii v22)), (5, .int (Ii v13)), (0, .ref (base + 273)), (1, .int (Ii a1)), (2, .int (Ii v4)), (3, .int (Ii v5)), (4, .int (Ii v6))]) X dX9_putsOf_50 (by decide) rfl ?_
          refine go_aload_n X dX9_putsOf_52 rfl 2 rfl ?_
          refine go_getc (i := 12) X fc9 dX9_putsOf_53 tcn273 tc273 (Nat.le_of_ble_eq_true rfl) rfl lw560 rfl ?_
          refine go_iload X dX9_putsOf_56 6 rfl ?_
          refine go_iconst (v := 1) X dX9_putsOf_58 rfl ?_
          refine go_iadd X dX9_putsOf_59 hv6 kI_1 (fun v23 hv23 => ?_)
          refine goI (fun H locs ls r ho hW hL => runSN X (ok_X11_entryOf l D base M21 282 isAC_282 v23 hv23 H.size r ho) dX9_putsOf_60 nl21 lw20 lw19 ⟨lw13, cy_X11_entryOf, Nat.le_of_ble_eq_true rfl, Nat.le_of_ble_eq_true rfl⟩ rfl rfl (Nat.le_of_ble_eq_true rfl) hW hL hk0) (fun v25 M24 hv25 => ?_)
          refine go_istore (i := 7) (L' := [(7, .int (Ii v25)), (6, .int (Ii v22)), (5, .int (Ii v13)), (0, .ref (base + 273)), (1, .int (Ii a1)), (2, .int (Ii v4)), (3, .int (Ii v5)), (4, .int (Ii v6))]) X dX9_putsOf_63 (by decide) rfl ?_
          refine go_iload_n X dX9_putsOf_65 rfl 5 rfl ?_
          refine go_aload_n X dX9_putsOf_66 rfl 3 rfl ?_
          refine go_iload X dX9_putsOf_67 2 rfl ?_
          refine go_iload X dX9_putsOf_69 1 rfl ?_
          refine go_iload X dX9_putsOf_71 0 rfl ?_
          refine goI (fun H locs ls r ho hW hL => runV X (ok_X9_weightOf l D base M24 v13 hv13 v22 hv22 v25 hv25 H.size r ho) dX9_putsOf_73 lw580 lw581 lw582 lw570 ⟨lw571, cy_X9_weightOf, Nat.le_of_ble_eq_true rfl, Nat.le_of_ble_eq_true rfl⟩ rfl tcn273 tc273 rfl rfl rfl rfl (Nat.le_of_ble_eq_true rfl) hW hL hk0) (fun v27 M26 hv27 => ?_)
          refine go_iload X dX9_putsOf_76 0 rfl ?_
          refine go_iload X dX9_putsOf_78 1 rfl ?_
          refine go_isub X dX9_putsOf_80 hv25 hv22 (fun v28 hv28 => ?_)
          refine go_ldc (v := 100000) X dX9_putsOf_81 lw567 rfl ?_
          refine go_imul X dX9_putsOf_83 hv28 kI_100000 (fun v29 hv29 => ?_)
          refine go_lt (fun J => ∀ (v30 : Int) (v31 : Int) (v32 : Int) (v33 : Int) (M34 : Mm), i32 v30 → i32 v31 → i32 v32 → i32 v33 → Go p l e (rmO 2 45) s m args below meth c D TC 681 base 8 0 0 (FinI D TC 681 base below args s i32) M34 92 [(0, .ref (base + 273)), (1, .int (Ii a1)), (3, .int (Ii v30)), (4, .int (Ii v31))] [.int (Ii v33), .int (Ii v32)] (J v30 v31 v32 v33 M34)) (by
              intro v30 v31 v32 v33 M34 hv30 hv31 hv32 hv33
              refine go_ior X dX9_putsOf_92 hv32 hv33 (fun v36 hv36 => ?_)
              refine go_istore_n (i := 2) (L' := [(2, .int (Ii v36)), (0, .ref (base + 273)), (1, .int (Ii a1)), (3, .int (Ii v30)), (4, .int (Ii v31))]) X dX9_putsOf_93 rfl (by decide) rfl ?_
              refine go_iload_n X dX9_putsOf_94 rfl 3 rfl ?_
              refine go_iconst (v := 1) X dX9_putsOf_95 rfl ?_
              refine go_ishl X dX9_putsOf_96 hv30 kI_1 (fun v37 hv37 => ?_)
              refine go_istore_n (i := 3) (L' := [(3, .int (Ii v37)), (2, .int (Ii v36)), (0, .ref (base + 273)), (1, .int (Ii a1)), (4, .int (Ii v31))]) X dX9_putsOf_97 rfl (by decide) rfl ?_
              refine go_sub [2, 3, 1, 0, 4] rfl ?_
              exact hJ98_18 v36 v37 v31 M34 hv36 hv37 hv31
              )
              (fun J92_35 hJ92_35 => ?_)
          refine go_icmp_le (tgt := 91) X dX9_putsOf_84 rfl hv27 hv29 (fun c38 => ?_) (fun c38 => ?_)
          · refine go_iconst (v := 0) X dX9_putsOf_91 rfl ?_
            refine go_sub [3, 4, 6, 7] rfl ?_
            exact hJ92_35 v5 v6 v4 0 M26 hv5 hv6 hv4 kI_0
          · refine go_iload_n X dX9_putsOf_87 rfl 6 rfl ?_
            refine go_goto (tgt := 92) X dX9_putsOf_88 rfl ?_
            refine go_sub [3, 4, 6, 7] rfl ?_
            exact hJ92_35 v5 v6 v4 v5 M26 hv5 hv6 hv4 hv5
        · refine go_goto (tgt := 98) X dX9_putsOf_38 rfl ?_
          refine go_sub [1, 2, 3, 4, 5] rfl ?_
          exact hJ98_18 v4 v5 v6 M12 hv4 hv5 hv6
      )
      FU 0 1 0 M kI_0 kI_1 kI_0
def f_X8_append_L79_29 (h : Nat) (v1 : Int) (J106_12 : Mm → Rs) (rc79_23 : Int × Mm → Rs) : Int × Mm → Rs := fun (v21, M22) =>
if 3 ≤ v21 then (
J106_12 M22) else (
Lt (wr (v1 * 3)) fun v25 =>
Lt (wr (v25 + v21)) fun v26 =>
Cl (f_X11_setEntry (h + 5) v26 ((-1)) M22) fun _ M27 =>
Lt (wr (v21 + 1)) fun v28 =>
rc79_23 (v28, M27))
def f_X8_append (h : Nat) (a1 : Int) (a2 : Int) (a3 : Int) (a4 : Int) (M : Mm) : Rs :=
Lt (M h 0) fun v1 =>
if v1 < 30 then (
Lt (M h 0) fun v3 =>
Lt (wr (v3 + 1)) fun v4 =>
Lt (up M h 0 v4) fun M5 =>
Cl (f_X11_setEntry (h + 1) v1 a1 M5) fun _ M6 =>
Cl (f_X11_setEntry (h + 2) v1 a2 M6) fun _ M7 =>
Cl (f_X11_setEntry (h + 3) v1 a3 M7) fun _ M8 =>
Cl (f_X11_setEntry (h + 4) v1 a3 M8) fun _ M9 =>
Cl (f_X11_setEntry (h + 6) v1 a4 M9) fun _ M10 =>
Lt (fun (M11 : Mm) => 
Lt (fun (M13 : Mm) => 
some (v1, M13)) fun J133_14 =>
if a1 < 0 then (
J133_14 M11) else (
if a2 < 0 then (
J133_14 M11) else (
if 3 ≤ a2 then (
J133_14 M11) else (
Lt (wr (a1 * 3)) fun v18 =>
Lt (wr (v18 + a2)) fun v19 =>
Cl (f_X11_setEntry (h + 5) v19 v1 M11) fun _ M20 =>
J133_14 M20)))) fun J106_12 =>
Lp (f_X8_append_L79_29 h v1 J106_12) FU (0, M10)) else (
some ((-1), M))
theorem cy_X8_append : yX8_append.cls ≠ "java/lang/invoke/MethodHandle" ∧ yX8_append.cls ≠ "java/lang/invoke/VarHandle" ∧ (parseMethodDescriptor yX8_append.desc).map (fun d => d.parameters.length) = some 4 := ⟨by decide +kernel, by decide +kernel, by decide +kernel⟩
set_option maxRecDepth 20000 in
theorem ok_X8_append (l : Launch) (D : Dd) (base : Nat) (M : Mm) (h : Nat) (hh : isT h) (a1 : Int) (ha1 : i32 a1) (a2 : Int) (ha2 : i32 a2) (a3 : Int) (ha3 : i32 a3) (a4 : Int) (ha4 : i32 a4) : OkI l D TC 681 base yX8_append cX8_append 7 (some .int) 1 22 [.ref (base + h), .int (Ii a1), .int (Ii a2), .int (Ii a3), .int (Ii a4)] M i32 (f_X8_append h a1 a2 a3 a4 M) := by
  refine metI (by decide +kernel) [(0, .ref (base + h)), (1, .int (Ii a1)), (2, .int (Ii a2)), (3, .int (Ii a3)), (4, .int (Ii a4))] rfl (Nat.le_of_ble_eq_true rfl) (fun p e s m args below meth c X hrt hlk => ?_)
  have X : Cx p s m args c cX8_append D 7 RX8 := X
  unfold f_X8_append
  refine go_aload_n X dX8_append_0 rfl 0 rfl ?_
  refine go_geti (i := 0) X fc8 dX8_append_1 (nT hh) (tT hh) (Nat.le_of_ble_eq_true rfl) rfl lw270 rfl (fun v1 hv1 => ?_)
  refine go_istore (i := 5) (L' := [(5, .int (Ii v1)), (0, .ref (base + h)), (1, .int (Ii a1)), (2, .int (Ii a2)), (3, .int (Ii a3)), (4, .int (Ii a4))]) X dX8_append_4 (by decide) rfl ?_
  refine go_iload X dX8_append_6 0 rfl ?_
  refine go_bipush (v := 30) X dX8_append_8 (by decide) ?_
  refine go_icmp_lt (tgt := 15) X dX8_append_10 rfl hv1 kI_30 (fun c2 => ?_) (fun c2 => ?_)
  · refine go_aload_n X dX8_append_15 rfl 1 rfl ?_
    refine go_dup X dX8_append_16 rfl ?_
    refine go_geti (i := 0) X fc8 dX8_append_17 (nT hh) (tT hh) (Nat.le_of_ble_eq_true rfl) rfl lw270 rfl (fun v3 hv3 => ?_)
    refine go_iconst (v := 1) X dX8_append_20 rfl ?_
    refine go_iadd X dX8_append_21 hv3 kI_1 (fun v4 hv4 => ?_)
    refine go_puti (i := 0) X fc8 dX8_append_22 (nT hh) (tT hh) (Nat.le_of_ble_eq_true rfl) rfl lw270 rfl rfl rfl hv4 (fun M5 => ?_)
    refine go_aload_n X dX8_append_25 rfl 1 rfl ?_
    refine go_getc (i := 2) X fc8 dX8_append_26 (nT hh) (tT hh) (Nat.le_of_ble_eq_true rfl) rfl lw199 rfl ?_
    refine go_iload X dX8_append_29 0 rfl ?_
    refine go_iload_n X dX8_append_31 rfl 2 rfl ?_
    refine goV (fun H locs ls r ho hW hL => runSN X (ok_X11_setEntry l D base M5 (h + 1) (isATa1 hh) v1 hv1 a1 ha1 H.size r ho) dX8_append_32 nl24 lw21 lw19 ⟨lw14, cy_X11_setEntry, Nat.le_of_ble_eq_true rfl, Nat.le_of_ble_eq_true rfl⟩ rfl rfl (Nat.le_of_ble_eq_true rfl) hW hL hk0) (fun _ M6 => ?_)
    refine go_aload_n X dX8_append_35 rfl 1 rfl ?_
    refine go_getc (i := 3) X fc8 dX8_append_36 (nT hh) (tT hh) (Nat.le_of_ble_eq_true rfl) rfl lw201 rfl ?_
    refine go_iload X dX8_append_39 0 rfl ?_
    refine go_iload_n X dX8_append_41 rfl 3 rfl ?_
    refine goV (fun H locs ls r ho hW hL => runSN X (ok_X11_setEntry l D base M6 (h + 2) (isATa2 hh) v1 hv1 a2 ha2 H.size r ho) dX8_append_42 nl24 lw21 lw19 ⟨lw14, cy_X11_setEntry, Nat.le_of_ble_eq_true rfl, Nat.le_of_ble_eq_true rfl⟩ rfl rfl (Nat.le_of_ble_eq_true rfl) hW hL hk0) (fun _ M7 => ?_)
    refine go_aload_n X dX8_append_45 rfl 1 rfl ?_
    refine go_getc (i := 4) X fc8 dX8_append_46 (nT hh) (tT hh) (Nat.le_of_ble_eq_true rfl) rfl lw278 rfl ?_
    refine go_iload X dX8_append_49 0 rfl ?_
    refine go_iload_n X dX8_append_51 rfl 4 rfl ?_
    refine goV (fun H locs ls r ho hW hL => runSN X (ok_X11_setEntry l D base M7 (h + 3) (isATa3 hh) v1 hv1 a3 ha3 H.size r ho) dX8_append_52 nl24 lw21 lw19 ⟨lw14, cy_X11_setEntry, Nat.le_of_ble_eq_true rfl, Nat.le_of_ble_eq_true rfl⟩ rfl rfl (Nat.le_of_ble_eq_true rfl) hW hL hk0) (fun _ M8 => ?_)
    refine go_aload_n X dX8_append_55 rfl 1 rfl ?_
    refine go_getc (i := 5) X fc8 dX8_append_56 (nT hh) (tT hh) (Nat.le_of_ble_eq_true rfl) rfl lw172 rfl ?_
    refine go_iload X dX8_append_59 0 rfl ?_
    refine go_iload_n X dX8_append_61 rfl 4 rfl ?_
    refine goV (fun H locs ls r ho hW hL => runSN X (ok_X11_setEntry l D base M8 (h + 4) (isATa4 hh) v1 hv1 a3 ha3 H.size r ho) dX8_append_62 nl24 lw21 lw19 ⟨lw14, cy_X11_setEntry, Nat.le_of_ble_eq_true rfl, Nat.le_of_ble_eq_true rfl⟩ rfl rfl (Nat.le_of_ble_eq_true rfl) hW hL hk0) (fun _ M9 => ?_)
    refine go_aload_n X dX8_append_65 rfl 1 rfl ?_
    refine go_getc (i := 7) X fc8 dX8_append_66 (nT hh) (tT hh) (Nat.le_of_ble_eq_true rfl) rfl lw290 rfl ?_
    refine go_iload X dX8_append_69 0 rfl ?_
    refine go_iload X dX8_append_71 5 rfl ?_
    refine goV (fun H locs ls r ho hW hL => runSN X (ok_X11_setEntry l D base M9 (h + 6) (isATa6 hh) v1 hv1 a4 ha4 H.size r ho) dX8_append_73 nl24 lw21 lw19 ⟨lw14, cy_X11_setEntry, Nat.le_of_ble_eq_true rfl, Nat.le_of_ble_eq_true rfl⟩ rfl rfl (Nat.le_of_ble_eq_true rfl) hW hL hk0) (fun _ M10 => ?_)
    refine go_iconst (v := 0) X dX8_append_76 rfl ?_
    refine go_istore (i := 6) (L' := [(6, .int (Ii 0)), (5, .int (Ii v1)), (0, .ref (base + h)), (1, .int (Ii a1)), (2, .int (Ii a2)), (3, .int (Ii a3)), (4, .int (Ii a4))]) X dX8_append_77 (by decide) rfl ?_
    refine go_lt (fun J => ∀ (M11 : Mm), Go p l e (rmO 1 22) s m args below meth c D TC 681 base 7 0 0 (FinI D TC 681 base below args s i32) M11 106 [(0, .ref (base + h)), (1, .int (Ii a1)), (2, .int (Ii a2)), (5, .int (Ii v1))] [] (J M11)) (by
        intro M11
        refine go_iload_n X dX8_append_106 rfl 1 rfl ?_
        refine go_lt (fun J => ∀ (M13 : Mm), Go p l e (rmO 1 22) s m args below meth c D TC 681 base 7 0 0 (FinI D TC 681 base below args s i32) M13 133 [(5, .int (Ii v1))] [] (J M13)) (by
            intro M13
            refine go_iload X dX8_append_133 0 rfl ?_
            exact go_ireturn X hrt hlk dX8_append_135 hv1
            )
            (fun J133_14 hJ133_14 => ?_)
        refine go_if_lt (tgt := 133) X dX8_append_107 rfl ha1 (fun c15 => ?_) (fun c15 => ?_)
        · refine go_sub [3] rfl ?_
          exact hJ133_14 M11
        · refine go_iload_n X dX8_append_110 rfl 2 rfl ?_
          refine go_if_lt (tgt := 133) X dX8_append_111 rfl ha2 (fun c16 => ?_) (fun c16 => ?_)
          · refine go_sub [3] rfl ?_
            exact hJ133_14 M11
          · refine go_iload_n X dX8_append_114 rfl 2 rfl ?_
            refine go_iconst (v := 3) X dX8_append_115 rfl ?_
            refine go_icmp_ge (tgt := 133) X dX8_append_116 rfl ha2 kI_3 (fun c17 => ?_) (fun c17 => ?_)
            · refine go_sub [3] rfl ?_
              exact hJ133_14 M11
            · refine go_aload_n X dX8_append_119 rfl 0 rfl ?_
              refine go_getc (i := 6) X fc8 dX8_append_120 (nT hh) (tT hh) (Nat.le_of_ble_eq_true rfl) rfl lw271 rfl ?_
              refine go_iload_n X dX8_append_123 rfl 1 rfl ?_
              refine go_iconst (v := 3) X dX8_append_124 rfl ?_
              refine go_imul X dX8_append_125 ha1 kI_3 (fun v18 hv18 => ?_)
              refine go_iload_n X dX8_append_126 rfl 2 rfl ?_
              refine go_iadd X dX8_append_127 hv18 ha2 (fun v19 hv19 => ?_)
              refine go_iload X dX8_append_128 3 rfl ?_
              refine goV (fun H locs ls r ho hW hL => runSN X (ok_X11_setEntry l D base M11 (h + 5) (isATa5 hh) v19 hv19 v1 hv1 H.size r ho) dX8_append_130 nl24 lw21 lw19 ⟨lw14, cy_X11_setEntry, Nat.le_of_ble_eq_true rfl, Nat.le_of_ble_eq_true rfl⟩ rfl rfl (Nat.le_of_ble_eq_true rfl) hW hL hk0) (fun _ M20 => ?_)
              refine go_sub [3] rfl ?_
              exact hJ133_14 M20
        )
        (fun J106_12 hJ106_12 => ?_)
    refine go_sub [2, 3, 4, 1, 0] rfl ?_
    exact go_lp (fun (rc : Int × Mm → Rs) => ∀ (v21 : Int) (M22 : Mm), i32 v21 → Go p l e (rmO 1 22) s m args below meth c D TC 681 base 7 0 0 (FinI D TC 681 base below args s i32) M22 79 [(0, .ref (base + h)), (1, .int (Ii a1)), (2, .int (Ii a2)), (5, .int (Ii v1)), (6, .int (Ii v21))] [] (rc (v21, M22)))
        (by intro v21 M22 hv21; exact go_none)
        (by
        intro rc79_23 hrc79_23 v21 M22 hv21
        unfold f_X8_append_L79_29
        dsimp only
        refine go_iload X dX8_append_79 4 rfl ?_
        refine go_iconst (v := 3) X dX8_append_81 rfl ?_
        refine go_icmp_ge (tgt := 106) X dX8_append_82 rfl hv21 kI_3 (fun c24 => ?_) (fun c24 => ?_)
        · refine go_sub [0, 1, 2, 3] rfl ?_
          exact hJ106_12 M22
        · refine go_aload_n X dX8_append_85 rfl 0 rfl ?_
          refine go_getc (i := 6) X fc8 dX8_append_86 (nT hh) (tT hh) (Nat.le_of_ble_eq_true rfl) rfl lw271 rfl ?_
          refine go_iload X dX8_append_89 3 rfl ?_
          refine go_iconst (v := 3) X dX8_append_91 rfl ?_
          refine go_imul X dX8_append_92 hv1 kI_3 (fun v25 hv25 => ?_)
          refine go_iload X dX8_append_93 4 rfl ?_
          refine go_iadd X dX8_append_95 hv25 hv21 (fun v26 hv26 => ?_)
          refine go_iconst (v := (-1)) X dX8_append_96 rfl ?_
          refine goV (fun H locs ls r ho hW hL => runSN X (ok_X11_setEntry l D base M22 (h + 5) (isATa5 hh) v26 hv26 ((-1)) kI_m1 H.size r ho) dX8_append_97 nl24 lw21 lw19 ⟨lw14, cy_X11_setEntry, Nat.le_of_ble_eq_true rfl, Nat.le_of_ble_eq_true rfl⟩ rfl rfl (Nat.le_of_ble_eq_true rfl) hW hL hk0) (fun _ M27 => ?_)
          refine go_iinc (i := 6) (L' := fun v => [(6, .int (Ii v)), (0, .ref (base + h)), (1, .int (Ii a1)), (2, .int (Ii a2)), (5, .int (Ii v1))]) X dX8_append_100 hv21 kI_1 (j := 4) rfl (by decide) (fun _ => rfl) (fun v28 hv28 => ?_)
          refine go_goto (tgt := 79) X dX8_append_103 rfl ?_
          refine go_sub [1, 2, 3, 4, 0] rfl ?_
          exact hrc79_23 v28 M27 hv28
        )
        FU 0 M10 kI_0
  · refine go_iconst (v := (-1)) X dX8_append_13 rfl ?_
    exact go_ireturn X hrt hlk dX8_append_14 kI_m1
def f_X9_awaitChildren_L21_28 (a1 : Int) (a2 : Int) (J81_7 : Mm → Rs) (rc21_11 : Int × Int × Mm → Rs) : Int × Int × Mm → Rs := fun (v8, v9, M10) =>
if v9 < 0 then (
J81_7 M10) else (
Cl (f_X5_symbolOf a1 v9 M10) fun v14 M13 =>
Lt (fun (v15 : Int) (v16 : Int) (M17 : Mm) => 
Lt (wr (v16 + (-1))) fun v19 =>
rc21_11 (v15, v19, M17)) fun J75_18 =>
if 4 ≤ v14 then (
J75_18 v8 v9 M13) else (
Lt (wr (v8 + (-1))) fun v21 =>
Cl (f_X11_entryOf 282 v9 M13) fun v23 M22 =>
Lt (wr (v9 + 1)) fun v24 =>
Cl (f_X11_entryOf 282 v24 M22) fun v26 M25 =>
Cl (f_X9_await v14 v23 v26 a2 v21 M25) fun _ M27 =>
J75_18 v21 v9 M27))
def f_X9_awaitChildren (a1 : Int) (a2 : Int) (M : Mm) : Rs :=
Cl (f_X5_childCountOf a1 M) fun v2 M1 =>
Cl (f_X5_lengthOf a1 M1) fun v4 M3 =>
Lt (wr (v4 - 1)) fun v5 =>
Lt (fun (M6 : Mm) => 
some (0, M6)) fun J81_7 =>
Lp (f_X9_awaitChildren_L21_28 a1 a2 J81_7) FU (v2, v5, M3)
theorem cy_X9_awaitChildren : yX9_awaitChildren.cls ≠ "java/lang/invoke/MethodHandle" ∧ yX9_awaitChildren.cls ≠ "java/lang/invoke/VarHandle" ∧ (parseMethodDescriptor yX9_awaitChildren.desc).map (fun d => d.parameters.length) = some 2 := ⟨by decide +kernel, by decide +kernel, by decide +kernel⟩
set_option maxRecDepth 20000 in
theorem ok_X9_awaitChildren (l : Launch) (D : Dd) (base : Nat) (M : Mm) (a1 : Int) (ha1 : i32 a1) (a2 : Int) (ha2 : i32 a2) : OkV l D TC 681 base yX9_awaitChildren cX9_awaitChildren 6 none 2 47 [.ref (base + 273), .int (Ii a1), .int (Ii a2)] M (f_X9_awaitChildren a1 a2 M) := by
  refine metV (by decide +kernel) [(0, .ref (base + 273)), (1, .int (Ii a1)), (2, .int (Ii a2))] rfl (Nat.le_of_ble_eq_true rfl) (fun p e s m args below meth c X hrt hlk => ?_)
  have X : Cx p s m args c cX9_awaitChildren D 6 RX9 := X
  unfold f_X9_awaitChildren
  refine go_aload_n X dX9_awaitChildren_0 rfl 0 rfl ?_
  refine go_getc (i := 1) X fc9 dX9_awaitChildren_1 tcn273 tc273 (Nat.le_of_ble_eq_true rfl) rfl lw561 rfl ?_
  refine go_iload_n X dX9_awaitChildren_4 rfl 1 rfl ?_
  refine goI (fun H locs ls r ho hW hL => runV X (ok_X5_childCountOf l D base M a1 ha1 H.size r ho) dX9_awaitChildren_5 lw602 lw78 lw79 lw80 ⟨lw67, cy_X5_childCountOf, Nat.le_of_ble_eq_true rfl, Nat.le_of_ble_eq_true rfl⟩ rfl tcn1 tc1 rfl rfl rfl rfl (Nat.le_of_ble_eq_true rfl) hW hL hk0) (fun v2 M1 hv2 => ?_)
  refine go_istore_n (i := 3) (L' := [(3, .int (Ii v2)), (0, .ref (base + 273)), (1, .int (Ii a1)), (2, .int (Ii a2))]) X dX9_awaitChildren_8 rfl (by decide) rfl ?_
  refine go_aload_n X dX9_awaitChildren_9 rfl 1 rfl ?_
  refine go_getc (i := 1) X fc9 dX9_awaitChildren_10 tcn273 tc273 (Nat.le_of_ble_eq_true rfl) rfl lw561 rfl ?_
  refine go_iload_n X dX9_awaitChildren_13 rfl 2 rfl ?_
  refine goI (fun H locs ls r ho hW hL => runV X (ok_X5_lengthOf l D base M1 a1 ha1 H.size r ho) dX9_awaitChildren_14 lw574 lw575 lw576 lw80 ⟨lw419, cy_X5_lengthOf, Nat.le_of_ble_eq_true rfl, Nat.le_of_ble_eq_true rfl⟩ rfl tcn1 tc1 rfl rfl rfl rfl (Nat.le_of_ble_eq_true rfl) hW hL hk0) (fun v4 M3 hv4 => ?_)
  refine go_iconst (v := 1) X dX9_awaitChildren_17 rfl ?_
  refine go_isub X dX9_awaitChildren_18 hv4 kI_1 (fun v5 hv5 => ?_)
  refine go_istore (i := 4) (L' := [(4, .int (Ii v5)), (3, .int (Ii v2)), (0, .ref (base + 273)), (1, .int (Ii a1)), (2, .int (Ii a2))]) X dX9_awaitChildren_19 (by decide) rfl ?_
  refine go_lt (fun J => ∀ (M6 : Mm), Go p l e (rmO 2 47) s m args below meth c D TC 681 base 6 0 0 (FinV D TC 681 base below args s) M6 81 [] [] (J M6)) (by
      intro M6
      exact go_vreturn X hrt hlk dX9_awaitChildren_81
      )
      (fun J81_7 hJ81_7 => ?_)
  refine go_sub [2, 3, 4, 1, 0] rfl ?_
  exact go_lp (fun (rc : Int × Int × Mm → Rs) => ∀ (v8 : Int) (v9 : Int) (M10 : Mm), i32 v8 → i32 v9 → Go p l e (rmO 2 47) s m args below meth c D TC 681 base 6 0 0 (FinV D TC 681 base below args s) M10 21 [(0, .ref (base + 273)), (1, .int (Ii a1)), (2, .int (Ii a2)), (3, .int (Ii v8)), (4, .int (Ii v9))] [] (rc (v8, v9, M10)))
      (by intro v8 v9 M10 hv8 hv9; exact go_none)
      (by
      intro rc21_11 hrc21_11 v8 v9 M10 hv8 hv9
      unfold f_X9_awaitChildren_L21_28
      dsimp only
      refine go_iload X dX9_awaitChildren_21 4 rfl ?_
      refine go_if_lt (tgt := 81) X dX9_awaitChildren_23 rfl hv9 (fun c12 => ?_) (fun c12 => ?_)
      · refine go_sub [] rfl ?_
        exact hJ81_7 M10
      · refine go_aload_n X dX9_awaitChildren_26 rfl 0 rfl ?_
        refine go_getc (i := 1) X fc9 dX9_awaitChildren_27 tcn273 tc273 (Nat.le_of_ble_eq_true rfl) rfl lw561 rfl ?_
        refine go_iload_n X dX9_awaitChildren_30 rfl 1 rfl ?_
        refine go_iload X dX9_awaitChildren_31 4 rfl ?_
        refine goI (fun H locs ls r ho hW hL => runV X (ok_X5_symbolOf l D base M10 a1 ha1 v9 hv9 H.size r ho) dX9_awaitChildren_33 lw577 lw578 lw579 lw80 ⟨lw420, cy_X5_symbolOf, Nat.le_of_ble_eq_true rfl, Nat.le_of_ble_eq_true rfl⟩ rfl tcn1 tc1 rfl rfl rfl rfl (Nat.le_of_ble_eq_true rfl) hW hL hk0) (fun v14 M13 hv14 => ?_)
        refine go_istore (i := 5) (L' := [(5, .int (Ii v14)), (0, .ref (base + 273)), (1, .int (Ii a1)), (2, .int (Ii a2)), (3, .int (Ii v8)), (4, .int (Ii v9))]) X dX9_awaitChildren_36 (by decide) rfl ?_
        refine go_iload X dX9_awaitChildren_38 0 rfl ?_
        refine go_iconst (v := 4) X dX9_awaitChildren_40 rfl ?_
        refine go_lt (fun J => ∀ (v15 : Int) (v16 : Int) (M17 : Mm), i32 v15 → i32 v16 → Go p l e (rmO 2 47) s m args below meth c D TC 681 base 6 0 0 (FinV D TC 681 base below args s) M17 75 [(0, .ref (base + 273)), (1, .int (Ii a1)), (2, .int (Ii a2)), (3, .int (Ii v15)), (4, .int (Ii v16))] [] (J v15 v16 M17)) (by
            intro v15 v16 M17 hv15 hv16
            refine go_iinc (i := 4) (L' := fun v => [(4, .int (Ii v)), (0, .ref (base + 273)), (1, .int (Ii a1)), (2, .int (Ii a2)), (3, .int (Ii v15))]) X dX9_awaitChildren_75 hv16 kI_m1 (j := 4) rfl (by decide) (fun _ => rfl) (fun v19 hv19 => ?_)
            refine go_goto (tgt := 21) X dX9_awaitChildren_78 rfl ?_
            refine go_sub [1, 2, 3, 4, 0] rfl ?_
            exact hrc21_11 v15 v19 M17 hv15 hv19
            )
            (fun J75_18 hJ75_18 => ?_)
        refine go_icmp_ge (tgt := 75) X dX9_awaitChildren_41 rfl hv14 kI_4 (fun c20 => ?_) (fun c20 => ?_)
        · refine go_sub [1, 2, 3, 4, 5] rfl ?_
          exact hJ75_18 v8 v9 M13 hv8 hv9
        · refine go_iinc (i := 3) (L' := fun v => [(3, .int (Ii v)), (5, .int (Ii v14)), (0, .ref (base + 273)), (1, .int (Ii a1)), (2, .int (Ii a2)), (4, .int (Ii v9))]) X dX9_awaitChildren_44 hv8 kI_m1 (j := 4) rfl (by decide) (fun _ => rfl) (fun v21 hv21 => ?_)
          refine go_aload_n X dX9_awaitChildren_47 rfl 2 rfl ?_
          refine go_iload X dX9_awaitChildren_48 1 rfl ?_
          refine go_aload_n X dX9_awaitChildren_50 rfl 2 rfl ?_
          refine go_getc (i := 12) X fc9 dX9_awaitChildren_51 tcn273 tc273 (Nat.le_of_ble_eq_true rfl) rfl lw560 rfl ?_
          refine go_iload X dX9_awaitChildren_54 5 rfl ?_
          refine goI (fun H locs ls r ho hW hL => runSN X (ok_X11_entryOf l D base M13 282 isAC_282 v9 hv9 H.size r ho) dX9_awaitChildren_56 nl21 lw20 lw19 ⟨lw13, cy_X11_entryOf, Nat.le_of_ble_eq_true rfl, Nat.le_of_ble_eq_true rfl⟩ rfl rfl (Nat.le_of_ble_eq_true rfl) hW hL hk0) (fun v23 M22 hv23 => ?_)
          refine go_aload_n X dX9_awaitChildren_59 rfl 2 rfl ?_
          refine go_getc (i := 12) X fc9 dX9_awaitChildren_60 tcn273 tc273 (Nat.le_of_ble_eq_true rfl) rfl lw560 rfl ?_
          refine go_iload X dX9_awaitChildren_63 5 rfl ?_
          refine go_iconst (v := 1) X dX9_awaitChildren_65 rfl ?_
          refine go_iadd X dX9_awaitChildren_66 hv9 kI_1 (fun v24 hv24 => ?_)
          refine goI (fun H locs ls r ho hW hL => runSN X (ok_X11_entryOf l D base M22 282 isAC_282 v24 hv24 H.size r ho) dX9_awaitChildren_67 nl21 lw20 lw19 ⟨lw13, cy_X11_entryOf, Nat.le_of_ble_eq_true rfl, Nat.le_of_ble_eq_true rfl⟩ rfl rfl (Nat.le_of_ble_eq_true rfl) hW hL hk0) (fun v26 M25 hv26 => ?_)
          refine go_iload_n X dX9_awaitChildren_70 rfl 4 rfl ?_
          refine go_iload_n X dX9_awaitChildren_71 rfl 0 rfl ?_
          refine goV (fun H locs ls r ho hW hL => runV X (ok_X9_await l D base M25 v14 hv14 v23 hv23 v26 hv26 a2 ha2 v21 hv21 H.size r ho) dX9_awaitChildren_72 lw603 lw604 lw605 lw570 ⟨lw597, cy_X9_await, Nat.le_of_ble_eq_true rfl, Nat.le_of_ble_eq_true rfl⟩ rfl tcn273 tc273 rfl rfl rfl rfl (Nat.le_of_ble_eq_true rfl) hW hL hk0) (fun _ M27 => ?_)
          refine go_sub [2, 3, 4, 0, 5] rfl ?_
          exact hJ75_18 v21 v9 M27 hv21 hv9
      )
      FU v2 v5 M3 hv2 hv5
def f_X9_grow_L19_39 (r1 : Nat) (J150_5 : Mm → Rs) (rc19_8 : Int × Mm → Rs) : Int × Mm → Rs := fun (v6, M7) =>
if 30 ≤ v6 then (
J150_5 M7) else (
Lt (M7 273 6) fun v10 =>
if v10 ≤ 0 then (
J150_5 M7) else (
Lt (M7 273 6) fun v12 =>
Lt (wr (v12 - 1)) fun v13 =>
Lt (up M7 273 6 v13) fun M14 =>
Lt (M14 273 6) fun v15 =>
Cl (f_X11_entryOf 278 v15 M14) fun v17 M16 =>
Lt (M16 273 6) fun v18 =>
Cl (f_X11_entryOf 279 v18 M16) fun v20 M19 =>
Lt (M19 273 6) fun v21 =>
Cl (f_X11_entryOf 277 v21 M19) fun v23 M22 =>
Cl (f_X9_productionFor v23 v17 v20 M22) fun v25 M24 =>
Cl (f_X9_cutUp v25 v17 v20 M24) fun _ M26 =>
Cl (f_X9_putsOf v25 M26) fun v28 M27 =>
Lt (M27 273 6) fun v29 =>
Cl (f_X11_entryOf 280 v29 M27) fun v31 M30 =>
Lt (M30 273 6) fun v32 =>
Cl (f_X11_entryOf 281 v32 M30) fun v34 M33 =>
Cl (f_X8_append r1 v31 v34 v25 v28 M33) fun v36 M35 =>
Cl (f_X9_awaitChildren v25 v36 M35) fun _ M37 =>
Lt (wr (v6 + 1)) fun v38 =>
rc19_8 (v38, M37)))
def f_X9_grow (r1 : Nat) (M : Mm) : Rs :=
Lt (up M 273 6 0) fun M1 =>
Lt (M1 273 0) fun v2 =>
Cl (f_X9_await 0 0 v2 ((-1)) 0 M1) fun _ M3 =>
Lt (fun (M4 : Mm) => 
some (0, M4)) fun J150_5 =>
Lp (f_X9_grow_L19_39 r1 J150_5) FU (0, M3)
theorem cy_X9_grow : yX9_grow.cls ≠ "java/lang/invoke/MethodHandle" ∧ yX9_grow.cls ≠ "java/lang/invoke/VarHandle" ∧ (parseMethodDescriptor yX9_grow.desc).map (fun d => d.parameters.length) = some 1 := ⟨by decide +kernel, by decide +kernel, by decide +kernel⟩
set_option maxRecDepth 20000 in
theorem ok_X9_grow (l : Launch) (D : Dd) (base : Nat) (M : Mm) (r1 : Nat) (hr1 : isT r1) : OkV l D TC 681 base yX9_grow cX9_grow 8 none 4 102 [.ref (base + 273), .ref (base + r1)] M (f_X9_grow r1 M) := by
  refine metV (by decide +kernel) [(0, .ref (base + 273)), (1, .ref (base + r1))] rfl (Nat.le_of_ble_eq_true rfl) (fun p e s m args below meth c X hrt hlk => ?_)
  have X : Cx p s m args c cX9_grow D 8 RX9 := X
  unfold f_X9_grow
  refine go_aload_n X dX9_grow_0 rfl 0 rfl ?_
  refine go_iconst (v := 0) X dX9_grow_1 rfl ?_
  refine go_puti (i := 6) X fc9 dX9_grow_2 tcn273 tc273 (Nat.le_of_ble_eq_true rfl) rfl lw598 rfl rfl rfl kI_0 (fun M1 => ?_)
  refine go_aload_n X dX9_grow_5 rfl 0 rfl ?_
  refine go_iconst (v := 0) X dX9_grow_6 rfl ?_
  refine go_iconst (v := 0) X dX9_grow_7 rfl ?_
  refine go_aload_n X dX9_grow_8 rfl 0 rfl ?_
  refine go_geti (i := 0) X fc9 dX9_grow_9 tcn273 tc273 (Nat.le_of_ble_eq_true rfl) rfl lw563 rfl (fun v2 hv2 => ?_)
  refine go_iconst (v := (-1)) X dX9_grow_12 rfl ?_
  refine go_iconst (v := 0) X dX9_grow_13 rfl ?_
  refine goV (fun H locs ls r ho hW hL => runV X (ok_X9_await l D base M1 0 kI_0 0 kI_0 v2 hv2 ((-1)) kI_m1 0 kI_0 H.size r ho) dX9_grow_14 lw603 lw604 lw605 lw570 ⟨lw597, cy_X9_await, Nat.le_of_ble_eq_true rfl, Nat.le_of_ble_eq_true rfl⟩ rfl tcn273 tc273 rfl rfl rfl rfl (Nat.le_of_ble_eq_true rfl) hW hL hk0) (fun _ M3 => ?_)
  refine go_iconst (v := 0) X dX9_grow_17 rfl ?_
  refine go_istore_n (i := 2) (L' := [(2, .int (Ii 0)), (0, .ref (base + 273)), (1, .ref (base + r1))]) X dX9_grow_18 rfl (by decide) rfl ?_
  refine go_lt (fun J => ∀ (M4 : Mm), Go p l e (rmO 4 102) s m args below meth c D TC 681 base 8 0 0 (FinV D TC 681 base below args s) M4 150 [] [] (J M4)) (by
      intro M4
      exact go_vreturn X hrt hlk dX9_grow_150
      )
      (fun J150_5 hJ150_5 => ?_)
  refine go_sub [1, 2, 0] rfl ?_
  exact go_lp (fun (rc : Int × Mm → Rs) => ∀ (v6 : Int) (M7 : Mm), i32 v6 → Go p l e (rmO 4 102) s m args below meth c D TC 681 base 8 0 0 (FinV D TC 681 base below args s) M7 19 [(0, .ref (base + 273)), (1, .ref (base + r1)), (2, .int (Ii v6))] [] (rc (v6, M7)))
      (by intro v6 M7 hv6; exact go_none)
      (by
      intro rc19_8 hrc19_8 v6 M7 hv6
      unfold f_X9_grow_L19_39
      dsimp only
      refine go_iload_n X dX9_grow_19 rfl 2 rfl ?_
      refine go_bipush (v := 30) X dX9_grow_20 (by decide) ?_
      refine go_icmp_ge (tgt := 150) X dX9_grow_22 rfl hv6 kI_30 (fun c9 => ?_) (fun c9 => ?_)
      · refine go_sub [] rfl ?_
        exact hJ150_5 M7
      · refine go_aload_n X dX9_grow_25 rfl 0 rfl ?_
        refine go_geti (i := 6) X fc9 dX9_grow_26 tcn273 tc273 (Nat.le_of_ble_eq_true rfl) rfl lw598 rfl (fun v10 hv10 => ?_)
        refine go_if_le (tgt := 150) X dX9_grow_29 rfl hv10 (fun c11 => ?_) (fun c11 => ?_)
        · refine go_sub [] rfl ?_
          exact hJ150_5 M7
        · refine go_aload_n X dX9_grow_32 rfl 0 rfl ?_
          refine go_dup X dX9_grow_33 rfl ?_
          refine go_geti (i := 6) X fc9 dX9_grow_34 tcn273 tc273 (Nat.le_of_ble_eq_true rfl) rfl lw598 rfl (fun v12 hv12 => ?_)
          refine go_iconst (v := 1) X dX9_grow_37 rfl ?_
          refine go_isub X dX9_grow_38 hv12 kI_1 (fun v13 hv13 => ?_)
          refine go_puti (i := 6) X fc9 dX9_grow_39 tcn273 tc273 (Nat.le_of_ble_eq_true rfl) rfl lw598 rfl rfl rfl hv13 (fun M14 => ?_)
          refine go_aload_n X dX9_grow_42 rfl 0 rfl ?_
          refine go_getc (i := 8) X fc9 dX9_grow_43 tcn273 tc273 (Nat.le_of_ble_eq_true rfl) rfl lw556 rfl ?_
          refine go_aload_n X dX9_grow_46 rfl 0 rfl ?_
          refine go_geti (i := 6) X fc9 dX9_grow_47 tcn273 tc273 (Nat.le_of_ble_eq_true rfl) rfl lw598 rfl (fun v15 hv15 => ?_)
          refine goI (fun H locs ls r ho hW hL => runSN X (ok_X11_entryOf l D base M14 278 isAC_278 v15 hv15 H.size r ho) dX9_grow_50 nl21 lw20 lw19 ⟨lw13, cy_X11_entryOf, Nat.le_of_ble_eq_true rfl, Nat.le_of_ble_eq_true rfl⟩ rfl rfl (Nat.le_of_ble_eq_true rfl) hW hL hk0) (fun v17 M16 hv17 => ?_)
          refine go_istore_n (i := 3) (L' := [(3, .int (Ii v17)), (0, .ref (base + 273)), (1, .ref (base + r1)), (2, .int (Ii v6))]) X dX9_grow_53 rfl (by decide) rfl ?_
          refine go_aload_n X dX9_grow_54 rfl 1 rfl ?_
          refine go_getc (i := 9) X fc9 dX9_grow_55 tcn273 tc273 (Nat.le_of_ble_eq_true rfl) rfl lw557 rfl ?_
          refine go_aload_n X dX9_grow_58 rfl 1 rfl ?_
          refine go_geti (i := 6) X fc9 dX9_grow_59 tcn273 tc273 (Nat.le_of_ble_eq_true rfl) rfl lw598 rfl (fun v18 hv18 => ?_)
          refine goI (fun H locs ls r ho hW hL => runSN X (ok_X11_entryOf l D base M16 279 isAC_279 v18 hv18 H.size r ho) dX9_grow_62 nl21 lw20 lw19 ⟨lw13, cy_X11_entryOf, Nat.le_of_ble_eq_true rfl, Nat.le_of_ble_eq_true rfl⟩ rfl rfl (Nat.le_of_ble_eq_true rfl) hW hL hk0) (fun v20 M19 hv20 => ?_)
          refine go_istore (i := 4) (L' := [(4, .int (Ii v20)), (3, .int (Ii v17)), (0, .ref (base + 273)), (1, .ref (base + r1)), (2, .int (Ii v6))]) X dX9_grow_65 (by decide) rfl ?_
          refine go_aload_n X dX9_grow_67 rfl 2 rfl ?_
          refine go_aload_n X dX9_grow_68 rfl 2 rfl ?_
          refine go_getc (i := 7) X fc9 dX9_grow_69 tcn273 tc273 (Nat.le_of_ble_eq_true rfl) rfl lw555 rfl ?_
          refine go_aload_n X dX9_grow_72 rfl 2 rfl ?_
          refine go_geti (i := 6) X fc9 dX9_grow_73 tcn273 tc273 (Nat.le_of_ble_eq_true rfl) rfl lw598 rfl (fun v21 hv21 => ?_)
          refine goI (fun H locs ls r ho hW hL => runSN X (ok_X11_entryOf l D base M19 277 isAC_277 v21 hv21 H.size r ho) dX9_grow_76 nl21 lw20 lw19 ⟨lw13, cy_X11_entryOf, Nat.le_of_ble_eq_true rfl, Nat.le_of_ble_eq_true rfl⟩ rfl rfl (Nat.le_of_ble_eq_true rfl) hW hL hk0) (fun v23 M22 hv23 => ?_)
          refine go_iload_n X dX9_grow_79 rfl 1 rfl ?_
          refine go_iload X dX9_grow_80 0 rfl ?_
          refine goI (fun H locs ls r ho hW hL => runV X (ok_X9_productionFor l D base M22 v23 hv23 v17 hv17 v20 hv20 H.size r ho) dX9_grow_82 lw607 lw608 lw609 lw570 ⟨lw599, cy_X9_productionFor, Nat.le_of_ble_eq_true rfl, Nat.le_of_ble_eq_true rfl⟩ rfl tcn273 tc273 rfl rfl rfl rfl (Nat.le_of_ble_eq_true rfl) hW hL hk0) (fun v25 M24 hv25 => ?_)
          refine go_istore (i := 5) (L' := [(5, .int (Ii v25)), (4, .int (Ii v20)), (3, .int (Ii v17)), (0, .ref (base + 273)), (1, .ref (base + r1)), (2, .int (Ii v6))]) X dX9_grow_85 (by decide) rfl ?_
          refine go_aload_n X dX9_grow_87 rfl 3 rfl ?_
          refine go_iload X dX9_grow_88 0 rfl ?_
          refine go_iload_n X dX9_grow_90 rfl 2 rfl ?_
          refine go_iload X dX9_grow_91 1 rfl ?_
          refine goV (fun H locs ls r ho hW hL => runV X (ok_X9_cutUp l D base M24 v25 hv25 v17 hv17 v20 hv20 H.size r ho) dX9_grow_93 lw610 lw611 lw612 lw570 ⟨lw600, cy_X9_cutUp, Nat.le_of_ble_eq_true rfl, Nat.le_of_ble_eq_true rfl⟩ rfl tcn273 tc273 rfl rfl rfl rfl (Nat.le_of_ble_eq_true rfl) hW hL hk0) (fun _ M26 => ?_)
          refine go_aload_n X dX9_grow_96 rfl 3 rfl ?_
          refine go_iload X dX9_grow_97 0 rfl ?_
          refine goI (fun H locs ls r ho hW hL => runV X (ok_X9_putsOf l D base M26 v25 hv25 H.size r ho) dX9_grow_99 lw613 lw614 lw615 lw570 ⟨lw601, cy_X9_putsOf, Nat.le_of_ble_eq_true rfl, Nat.le_of_ble_eq_true rfl⟩ rfl tcn273 tc273 rfl rfl rfl rfl (Nat.le_of_ble_eq_true rfl) hW hL hk0) (fun v28 M27 hv28 => ?_)
          refine go_istore (i := 6) (L' := [(6, .int (Ii v28)), (5, .int (Ii v25)), (4, .int (Ii v20)), (3, .int (Ii v17)), (0, .ref (base + 273)), (1, .ref (base + r1)), (2, .int (Ii v6))]) X dX9_grow_102 (by decide) rfl ?_
          refine go_aload_n X dX9_grow_104 rfl 5 rfl ?_
          refine go_aload_n X dX9_grow_105 rfl 4 rfl ?_
          refine go_getc (i := 10) X fc9 dX9_grow_106 tcn273 tc273 (Nat.le_of_ble_eq_true rfl) rfl lw558 rfl ?_
          refine go_aload_n X dX9_grow_109 rfl 4 rfl ?_
          refine go_geti (i := 6) X fc9 dX9_grow_110 tcn273 tc273 (Nat.le_of_ble_eq_true rfl) rfl lw598 rfl (fun v29 hv29 => ?_)
          refine goI (fun H locs ls r ho hW hL => runSN X (ok_X11_entryOf l D base M27 280 isAC_280 v29 hv29 H.size r ho) dX9_grow_113 nl21 lw20 lw19 ⟨lw13, cy_X11_entryOf, Nat.le_of_ble_eq_true rfl, Nat.le_of_ble_eq_true rfl⟩ rfl rfl (Nat.le_of_ble_eq_true rfl) hW hL hk0) (fun v31 M30 hv31 => ?_)
          refine go_aload_n X dX9_grow_116 rfl 4 rfl ?_
          refine go_getc (i := 11) X fc9 dX9_grow_117 tcn273 tc273 (Nat.le_of_ble_eq_true rfl) rfl lw559 rfl ?_
          refine go_aload_n X dX9_grow_120 rfl 4 rfl ?_
          refine go_geti (i := 6) X fc9 dX9_grow_121 tcn273 tc273 (Nat.le_of_ble_eq_true rfl) rfl lw598 rfl (fun v32 hv32 => ?_)
          refine goI (fun H locs ls r ho hW hL => runSN X (ok_X11_entryOf l D base M30 281 isAC_281 v32 hv32 H.size r ho) dX9_grow_124 nl21 lw20 lw19 ⟨lw13, cy_X11_entryOf, Nat.le_of_ble_eq_true rfl, Nat.le_of_ble_eq_true rfl⟩ rfl rfl (Nat.le_of_ble_eq_true rfl) hW hL hk0) (fun v34 M33 hv34 => ?_)
          refine go_iload X dX9_grow_127 1 rfl ?_
          refine go_iload X dX9_grow_129 0 rfl ?_
          refine goI (fun H locs ls r ho hW hL => runV X (ok_X8_append l D base M33 r1 hr1 v31 hv31 v34 hv34 v25 hv25 v28 hv28 H.size r ho) dX9_grow_131 lw616 lw617 lw618 lw189 ⟨lw532, cy_X8_append, Nat.le_of_ble_eq_true rfl, Nat.le_of_ble_eq_true rfl⟩ rfl (nT hr1) (tT hr1) rfl rfl rfl rfl (Nat.le_of_ble_eq_true rfl) hW hL hk0) (fun v36 M35 hv36 => ?_)
          refine go_istore (i := 7) (L' := [(7, .int (Ii v36)), (6, .int (Ii v28)), (5, .int (Ii v25)), (4, .int (Ii v20)), (3, .int (Ii v17)), (0, .ref (base + 273)), (1, .ref (base + r1)), (2, .int (Ii v6))]) X dX9_grow_134 (by decide) rfl ?_
          refine go_aload_n X dX9_grow_136 rfl 5 rfl ?_
          refine go_iload X dX9_grow_137 2 rfl ?_
          refine go_iload X dX9_grow_139 0 rfl ?_
          refine goV (fun H locs ls r ho hW hL => runV X (ok_X9_awaitChildren l D base M35 v25 hv25 v36 hv36 H.size r ho) dX9_grow_141 lw619 lw620 lw621 lw570 ⟨lw606, cy_X9_awaitChildren, Nat.le_of_ble_eq_true rfl, Nat.le_of_ble_eq_true rfl⟩ rfl tcn273 tc273 rfl rfl rfl rfl (Nat.le_of_ble_eq_true rfl) hW hL hk0) (fun _ M37 => ?_)
          refine go_iinc (i := 2) (L' := fun v => [(2, .int (Ii v)), (7, .int (Ii v36)), (6, .int (Ii v28)), (5, .int (Ii v25)), (4, .int (Ii v20)), (3, .int (Ii v17)), (0, .ref (base + 273)), (1, .ref (base + r1))]) X dX9_grow_144 hv6 kI_1 (j := 7) rfl (by decide) (fun _ => rfl) (fun v38 hv38 => ?_)
          refine go_goto (tgt := 19) X dX9_grow_147 rfl ?_
          refine go_sub [6, 7, 0] rfl ?_
          exact hrc19_8 v38 M37 hv38
      )
      FU 0 M3 kI_0
def f_X9_readInto (r1 : Nat) (M : Mm) : Rs :=
Cl (f_X8_clear r1 M) fun _ M1 =>
Cl (f_X9_measure M1) fun _ M2 =>
Lt (M2 273 0) fun v3 =>
Cl (f_X9_weightOf 0 0 v3 M2) fun v5 M4 =>
Lt (fun (M6 : Mm) => 
some (0, M6)) fun J47_7 =>
if 500000000 ≤ v5 then (
J47_7 M4) else (
Lt (jrem v5 100000) fun v9 =>
if 30 < v9 then (
J47_7 M4) else (
Cl (f_X9_grow r1 M4) fun _ M11 =>
Lt (wr (Int.tdiv v5 100000)) fun v12 =>
Lt (up M11 r1 1 v12) fun M13 =>
J47_7 M13))
theorem cy_X9_readInto : yX9_readInto.cls ≠ "java/lang/invoke/MethodHandle" ∧ yX9_readInto.cls ≠ "java/lang/invoke/VarHandle" ∧ (parseMethodDescriptor yX9_readInto.desc).map (fun d => d.parameters.length) = some 1 := ⟨by decide +kernel, by decide +kernel, by decide +kernel⟩
set_option maxRecDepth 20000 in
theorem ok_X9_readInto (l : Launch) (D : Dd) (base : Nat) (M : Mm) (r1 : Nat) (hr1 : isT r1) : OkV l D TC 681 base yX9_readInto cX9_readInto 3 none 5 129 [.ref (base + 273), .ref (base + r1)] M (f_X9_readInto r1 M) := by
  refine metV (by decide +kernel) [(0, .ref (base + 273)), (1, .ref (base + r1))] rfl (Nat.le_of_ble_eq_true rfl) (fun p e s m args below meth c X hrt hlk => ?_)
  have X : Cx p s m args c cX9_readInto D 3 RX9 := X
  unfold f_X9_readInto
  refine go_aload_n X dX9_readInto_0 rfl 1 rfl ?_
  refine goV (fun H locs ls r ho hW hL => runV X (ok_X8_clear l D base M r1 hr1 H.size r ho) dX9_readInto_1 lw624 lw625 lw626 lw189 ⟨lw530, cy_X8_clear, Nat.le_of_ble_eq_true rfl, Nat.le_of_ble_eq_true rfl⟩ rfl (nT hr1) (tT hr1) rfl rfl rfl rfl (Nat.le_of_ble_eq_true rfl) hW hL hk0) (fun _ M1 => ?_)
  refine go_aload_n X dX9_readInto_4 rfl 0 rfl ?_
  refine goV (fun H locs ls r ho hW hL => runV X (ok_X9_measure l D base M1  H.size r ho) dX9_readInto_5 lw627 lw628 lw629 lw570 ⟨lw596, cy_X9_measure, Nat.le_of_ble_eq_true rfl, Nat.le_of_ble_eq_true rfl⟩ rfl tcn273 tc273 rfl rfl rfl rfl (Nat.le_of_ble_eq_true rfl) hW hL hk0) (fun _ M2 => ?_)
  refine go_aload_n X dX9_readInto_8 rfl 0 rfl ?_
  refine go_iconst (v := 0) X dX9_readInto_9 rfl ?_
  refine go_iconst (v := 0) X dX9_readInto_10 rfl ?_
  refine go_aload_n X dX9_readInto_11 rfl 0 rfl ?_
  refine go_geti (i := 0) X fc9 dX9_readInto_12 tcn273 tc273 (Nat.le_of_ble_eq_true rfl) rfl lw563 rfl (fun v3 hv3 => ?_)
  refine goI (fun H locs ls r ho hW hL => runV X (ok_X9_weightOf l D base M2 0 kI_0 0 kI_0 v3 hv3 H.size r ho) dX9_readInto_15 lw580 lw581 lw582 lw570 ⟨lw571, cy_X9_weightOf, Nat.le_of_ble_eq_true rfl, Nat.le_of_ble_eq_true rfl⟩ rfl tcn273 tc273 rfl rfl rfl rfl (Nat.le_of_ble_eq_true rfl) hW hL hk0) (fun v5 M4 hv5 => ?_)
  refine go_istore_n (i := 2) (L' := [(2, .int (Ii v5)), (0, .ref (base + 273)), (1, .ref (base + r1))]) X dX9_readInto_18 rfl (by decide) rfl ?_
  refine go_iload_n X dX9_readInto_19 rfl 0 rfl ?_
  refine go_ldc (v := 500000000) X dX9_readInto_20 lw573 rfl ?_
  refine go_lt (fun J => ∀ (M6 : Mm), Go p l e (rmO 5 129) s m args below meth c D TC 681 base 3 0 0 (FinV D TC 681 base below args s) M6 47 [] [] (J M6)) (by
      intro M6
      exact go_vreturn X hrt hlk dX9_readInto_47
      )
      (fun J47_7 hJ47_7 => ?_)
  refine go_icmp_ge (tgt := 47) X dX9_readInto_22 rfl hv5 kI_500000000 (fun c8 => ?_) (fun c8 => ?_)
  · refine go_sub [] rfl ?_
    exact hJ47_7 M4
  · refine go_iload_n X dX9_readInto_25 rfl 0 rfl ?_
    refine go_ldc (v := 100000) X dX9_readInto_26 lw567 rfl ?_
    refine go_irem X dX9_readInto_28 hv5 kI_100000 (by decide) (fun v9 hv9 => ?_)
    refine go_bipush (v := 30) X dX9_readInto_29 (by decide) ?_
    refine go_icmp_gt (tgt := 47) X dX9_readInto_31 rfl hv9 kI_30 (fun c10 => ?_) (fun c10 => ?_)
    · refine go_sub [] rfl ?_
      exact hJ47_7 M4
    · refine go_aload_n X dX9_readInto_34 rfl 1 rfl ?_
      refine go_aload_n X dX9_readInto_35 rfl 2 rfl ?_
      refine goV (fun H locs ls r ho hW hL => runV X (ok_X9_grow l D base M4 r1 hr1 H.size r ho) dX9_readInto_36 lw630 lw631 lw632 lw570 ⟨lw622, cy_X9_grow, Nat.le_of_ble_eq_true rfl, Nat.le_of_ble_eq_true rfl⟩ rfl tcn273 tc273 rfl rfl rfl rfl (Nat.le_of_ble_eq_true rfl) hW hL hk0) (fun _ M11 => ?_)
      refine go_aload_n X dX9_readInto_39 rfl 2 rfl ?_
      refine go_iload_n X dX9_readInto_40 rfl 0 rfl ?_
      refine go_ldc (v := 100000) X dX9_readInto_41 lw567 rfl ?_
      refine go_idiv X dX9_readInto_43 hv5 kI_100000 (by decide) (fun v12 hv12 => ?_)
      refine go_puti (i := 1) X fc8 dX9_readInto_44 (nT hr1) (tT hr1) (Nat.le_of_ble_eq_true rfl) rfl lw623 rfl rfl rfl hv12 (fun M13 => ?_)
      refine go_sub [] rfl ?_
      exact hJ47_7 M13
def f_X8_hasNode (h : Nat) (a1 : Int) (M : Mm) : Rs :=
Lt (fun (v1 : Int) (M2 : Mm) => 
some (v1, M2)) fun J17_3 =>
Lt (fun (M4 : Mm) => 
J17_3 0 M4) fun J16_5 =>
if a1 < 0 then (
J16_5 M) else (
Lt (M h 0) fun v7 =>
if v7 ≤ a1 then (
J16_5 M) else (
J17_3 1 M))
theorem cy_X8_hasNode : yX8_hasNode.cls ≠ "java/lang/invoke/MethodHandle" ∧ yX8_hasNode.cls ≠ "java/lang/invoke/VarHandle" ∧ (parseMethodDescriptor yX8_hasNode.desc).map (fun d => d.parameters.length) = some 1 := ⟨by decide +kernel, by decide +kernel, by decide +kernel⟩
set_option maxRecDepth 20000 in
theorem ok_X8_hasNode (l : Launch) (D : Dd) (base : Nat) (M : Mm) (h : Nat) (hh : isT h) (a1 : Int) (ha1 : i32 a1) : OkI l D TC 681 base yX8_hasNode cX8_hasNode 2 (some .boolean) 0 0 [.ref (base + h), .int (Ii a1)] M bo (f_X8_hasNode h a1 M) := by
  refine metI (by decide +kernel) [(0, .ref (base + h)), (1, .int (Ii a1))] rfl (Nat.le_of_ble_eq_true rfl) (fun p e s m args below meth c X hrt hlk => ?_)
  have X : Cx p s m args c cX8_hasNode D 2 RX8 := X
  unfold f_X8_hasNode
  refine go_iload_n X dX8_hasNode_0 rfl 1 rfl ?_
  refine go_lt (fun J => ∀ (v1 : Int) (M2 : Mm), bo v1 → Go p l e (rmO 0 0) s m args below meth c D TC 681 base 2 0 0 (FinI D TC 681 base below args s bo) M2 17 [] [.int (Ii v1)] (J v1 M2)) (by
      intro v1 M2 hv1
      exact go_zreturn X hrt hlk dX8_hasNode_17 hv1 hv1
      )
      (fun J17_3 hJ17_3 => ?_)
  refine go_lt (fun J => ∀ (M4 : Mm), Go p l e (rmO 0 0) s m args below meth c D TC 681 base 2 0 0 (FinI D TC 681 base below args s bo) M4 16 [] [] (J M4)) (by
      intro M4
      refine go_iconst (v := 0) X dX8_hasNode_16 rfl ?_
      exact hJ17_3 0 M4 (Or.inl rfl)
      )
      (fun J16_5 hJ16_5 => ?_)
  refine go_if_lt (tgt := 16) X dX8_hasNode_1 rfl ha1 (fun c6 => ?_) (fun c6 => ?_)
  · refine go_sub [] rfl ?_
    exact hJ16_5 M
  · refine go_iload_n X dX8_hasNode_4 rfl 1 rfl ?_
    refine go_aload_n X dX8_hasNode_5 rfl 0 rfl ?_
    refine go_geti (i := 0) X fc8 dX8_hasNode_6 (nT hh) (tT hh) (Nat.le_of_ble_eq_true rfl) rfl lw270 rfl (fun v7 hv7 => ?_)
    refine go_icmp_ge (tgt := 16) X dX8_hasNode_9 rfl ha1 hv7 (fun c8 => ?_) (fun c8 => ?_)
    · refine go_sub [] rfl ?_
      exact hJ16_5 M
    · refine go_iconst (v := 1) X dX8_hasNode_12 rfl ?_
      refine go_goto (tgt := 17) X dX8_hasNode_13 rfl ?_
      refine go_sub [] rfl ?_
      exact hJ17_3 1 M (Or.inr rfl)
def f_X8_heirOf (h : Nat) (a1 : Int) (M : Mm) : Rs :=
Cl (f_X8_hasNode h a1 M) fun v2 M1 =>
Lt (fun (v3 : Int) (M4 : Mm) => 
some (v3, M4)) fun J20_5 =>
if v2 = 0 then (
J20_5 ((-1)) M1) else (
Cl (f_X11_entryOf (h + 7) a1 M1) fun v8 M7 =>
J20_5 v8 M7)
theorem cy_X8_heirOf : yX8_heirOf.cls ≠ "java/lang/invoke/MethodHandle" ∧ yX8_heirOf.cls ≠ "java/lang/invoke/VarHandle" ∧ (parseMethodDescriptor yX8_heirOf.desc).map (fun d => d.parameters.length) = some 1 := ⟨by decide +kernel, by decide +kernel, by decide +kernel⟩
set_option maxRecDepth 20000 in
theorem ok_X8_heirOf (l : Launch) (D : Dd) (base : Nat) (M : Mm) (h : Nat) (hh : isT h) (a1 : Int) (ha1 : i32 a1) : OkI l D TC 681 base yX8_heirOf cX8_heirOf 2 (some .int) 1 21 [.ref (base + h), .int (Ii a1)] M i32 (f_X8_heirOf h a1 M) := by
  refine metI (by decide +kernel) [(0, .ref (base + h)), (1, .int (Ii a1))] rfl (Nat.le_of_ble_eq_true rfl) (fun p e s m args below meth c X hrt hlk => ?_)
  have X : Cx p s m args c cX8_heirOf D 2 RX8 := X
  unfold f_X8_heirOf
  refine go_aload_n X dX8_heirOf_0 rfl 0 rfl ?_
  refine go_iload_n X dX8_heirOf_1 rfl 1 rfl ?_
  refine goI (fun H locs ls r ho hW hL => runV X (ok_X8_hasNode l D base M h hh a1 ha1 H.size r ho) dX8_heirOf_2 lw375 lw376 lw377 lw189 ⟨lw372, cy_X8_hasNode, Nat.le_of_ble_eq_true rfl, Nat.le_of_ble_eq_true rfl⟩ rfl (nT hh) (tT hh) rfl rfl rfl rfl (Nat.le_of_ble_eq_true rfl) hW hL hk0) (fun v2 M1 hv2 => ?_)
  refine go_lt (fun J => ∀ (v3 : Int) (M4 : Mm), i32 v3 → Go p l e (rmO 1 21) s m args below meth c D TC 681 base 2 0 0 (FinI D TC 681 base below args s i32) M4 20 [] [.int (Ii v3)] (J v3 M4)) (by
      intro v3 M4 hv3
      exact go_ireturn X hrt hlk dX8_heirOf_20 hv3
      )
      (fun J20_5 hJ20_5 => ?_)
  refine go_if_eq (tgt := 19) X dX8_heirOf_5 rfl (bo_i32 hv2) (fun c6 => ?_) (fun c6 => ?_)
  · refine go_iconst (v := (-1)) X dX8_heirOf_19 rfl ?_
    refine go_sub [] rfl ?_
    exact hJ20_5 ((-1)) M1 kI_m1
  · refine go_aload_n X dX8_heirOf_8 rfl 0 rfl ?_
    refine go_getc (i := 8) X fc8 dX8_heirOf_9 (nT hh) (tT hh) (Nat.le_of_ble_eq_true rfl) rfl lw374 rfl ?_
    refine go_iload_n X dX8_heirOf_12 rfl 1 rfl ?_
    refine goI (fun H locs ls r ho hW hL => runSN X (ok_X11_entryOf l D base M1 (h + 7) (isATa7 hh) a1 ha1 H.size r ho) dX8_heirOf_13 nl25 lw20 lw19 ⟨lw13, cy_X11_entryOf, Nat.le_of_ble_eq_true rfl, Nat.le_of_ble_eq_true rfl⟩ rfl rfl (Nat.le_of_ble_eq_true rfl) hW hL hk0) (fun v8 M7 hv8 => ?_)
    refine go_goto (tgt := 20) X dX8_heirOf_16 rfl ?_
    refine go_sub [] rfl ?_
    exact hJ20_5 v8 M7 hv8
def f_X8_isAlike (h : Nat) (a1 : Int) (r2 : Nat) (a3 : Int) (M : Mm) : Rs :=
Cl (f_X8_readAsOf h a1 M) fun v2 M1 =>
Cl (f_X8_readAsOf r2 a3 M1) fun v4 M3 =>
Lt (fun (v5 : Int) (M6 : Mm) => 
some (v5, M6)) fun J37_7 =>
Lt (fun (M8 : Mm) => 
J37_7 0 M8) fun J36_9 =>
if ¬ v2 = v4 then (
J36_9 M3) else (
Cl (f_X11_entryOf (h + 6) a1 M3) fun v12 M11 =>
Cl (f_X11_entryOf (r2 + 6) a3 M11) fun v14 M13 =>
if ¬ v12 = v14 then (
J36_9 M13) else (
J37_7 1 M13))
theorem cy_X8_isAlike : yX8_isAlike.cls ≠ "java/lang/invoke/MethodHandle" ∧ yX8_isAlike.cls ≠ "java/lang/invoke/VarHandle" ∧ (parseMethodDescriptor yX8_isAlike.desc).map (fun d => d.parameters.length) = some 3 := ⟨by decide +kernel, by decide +kernel, by decide +kernel⟩
set_option maxRecDepth 20000 in
theorem ok_X8_isAlike (l : Launch) (D : Dd) (base : Nat) (M : Mm) (h : Nat) (hh : isT h) (a1 : Int) (ha1 : i32 a1) (r2 : Nat) (hr2 : isT r2) (a3 : Int) (ha3 : i32 a3) : OkI l D TC 681 base yX8_isAlike cX8_isAlike 4 (some .boolean) 1 21 [.ref (base + h), .int (Ii a1), .ref (base + r2), .int (Ii a3)] M bo (f_X8_isAlike h a1 r2 a3 M) := by
  refine metI (by decide +kernel) [(0, .ref (base + h)), (1, .int (Ii a1)), (2, .ref (base + r2)), (3, .int (Ii a3))] rfl (Nat.le_of_ble_eq_true rfl) (fun p e s m args below meth c X hrt hlk => ?_)
  have X : Cx p s m args c cX8_isAlike D 4 RX8 := X
  unfold f_X8_isAlike
  refine go_aload_n X dX8_isAlike_0 rfl 0 rfl ?_
  refine go_iload_n X dX8_isAlike_1 rfl 1 rfl ?_
  refine goI (fun H locs ls r ho hW hL => runV X (ok_X8_readAsOf l D base M h hh a1 ha1 H.size r ho) dX8_isAlike_2 lw535 lw284 lw285 lw189 ⟨lw277, cy_X8_readAsOf, Nat.le_of_ble_eq_true rfl, Nat.le_of_ble_eq_true rfl⟩ rfl (nT hh) (tT hh) rfl rfl rfl rfl (Nat.le_of_ble_eq_true rfl) hW hL hk0) (fun v2 M1 hv2 => ?_)
  refine go_aload_n X dX8_isAlike_5 rfl 2 rfl ?_
  refine go_iload_n X dX8_isAlike_6 rfl 3 rfl ?_
  refine goI (fun H locs ls r ho hW hL => runV X (ok_X8_readAsOf l D base M1 r2 hr2 a3 ha3 H.size r ho) dX8_isAlike_7 lw535 lw284 lw285 lw189 ⟨lw277, cy_X8_readAsOf, Nat.le_of_ble_eq_true rfl, Nat.le_of_ble_eq_true rfl⟩ rfl (nT hr2) (tT hr2) rfl rfl rfl rfl (Nat.le_of_ble_eq_true rfl) hW hL hk0) (fun v4 M3 hv4 => ?_)
  refine go_lt (fun J => ∀ (v5 : Int) (M6 : Mm), bo v5 → Go p l e (rmO 1 21) s m args below meth c D TC 681 base 4 0 0 (FinI D TC 681 base below args s bo) M6 37 [] [.int (Ii v5)] (J v5 M6)) (by
      intro v5 M6 hv5
      exact go_zreturn X hrt hlk dX8_isAlike_37 hv5 hv5
      )
      (fun J37_7 hJ37_7 => ?_)
  refine go_lt (fun J => ∀ (M8 : Mm), Go p l e (rmO 1 21) s m args below meth c D TC 681 base 4 0 0 (FinI D TC 681 base below args s bo) M8 36 [] [] (J M8)) (by
      intro M8
      refine go_iconst (v := 0) X dX8_isAlike_36 rfl ?_
      exact hJ37_7 0 M8 (Or.inl rfl)
      )
      (fun J36_9 hJ36_9 => ?_)
  refine go_icmp_ne (tgt := 36) X dX8_isAlike_10 rfl hv2 hv4 (fun c10 => ?_) (fun c10 => ?_)
  · refine go_sub [] rfl ?_
    exact hJ36_9 M3
  · refine go_aload_n X dX8_isAlike_13 rfl 0 rfl ?_
    refine go_getc (i := 7) X fc8 dX8_isAlike_14 (nT hh) (tT hh) (Nat.le_of_ble_eq_true rfl) rfl lw290 rfl ?_
    refine go_iload_n X dX8_isAlike_17 rfl 1 rfl ?_
    refine goI (fun H locs ls r ho hW hL => runSN X (ok_X11_entryOf l D base M3 (h + 6) (isATa6 hh) a1 ha1 H.size r ho) dX8_isAlike_18 nl25 lw20 lw19 ⟨lw13, cy_X11_entryOf, Nat.le_of_ble_eq_true rfl, Nat.le_of_ble_eq_true rfl⟩ rfl rfl (Nat.le_of_ble_eq_true rfl) hW hL hk0) (fun v12 M11 hv12 => ?_)
    refine go_aload_n X dX8_isAlike_21 rfl 2 rfl ?_
    refine go_getc (i := 7) X fc8 dX8_isAlike_22 (nT hr2) (tT hr2) (Nat.le_of_ble_eq_true rfl) rfl lw290 rfl ?_
    refine go_iload_n X dX8_isAlike_25 rfl 3 rfl ?_
    refine goI (fun H locs ls r ho hW hL => runSN X (ok_X11_entryOf l D base M11 (r2 + 6) (isATa6 hr2) a3 ha3 H.size r ho) dX8_isAlike_26 nl25 lw20 lw19 ⟨lw13, cy_X11_entryOf, Nat.le_of_ble_eq_true rfl, Nat.le_of_ble_eq_true rfl⟩ rfl rfl (Nat.le_of_ble_eq_true rfl) hW hL hk0) (fun v14 M13 hv14 => ?_)
    refine go_icmp_ne (tgt := 36) X dX8_isAlike_29 rfl hv12 hv14 (fun c15 => ?_) (fun c15 => ?_)
    · refine go_sub [] rfl ?_
      exact hJ36_9 M13
    · refine go_iconst (v := 1) X dX8_isAlike_32 rfl ?_
      refine go_goto (tgt := 37) X dX8_isAlike_33 rfl ?_
      refine go_sub [] rfl ?_
      exact hJ37_7 1 M13 (Or.inr rfl)
def f_X8_rewriteTo (h : Nat) (a1 : Int) (a2 : Int) (M : Mm) : Rs :=
Cl (f_X11_setEntry (h + 4) a1 a2 M) fun _ M1 =>
some (0, M1)
theorem cy_X8_rewriteTo : yX8_rewriteTo.cls ≠ "java/lang/invoke/MethodHandle" ∧ yX8_rewriteTo.cls ≠ "java/lang/invoke/VarHandle" ∧ (parseMethodDescriptor yX8_rewriteTo.desc).map (fun d => d.parameters.length) = some 2 := ⟨by decide +kernel, by decide +kernel, by decide +kernel⟩
set_option maxRecDepth 20000 in
theorem ok_X8_rewriteTo (l : Launch) (D : Dd) (base : Nat) (M : Mm) (h : Nat) (hh : isT h) (a1 : Int) (ha1 : i32 a1) (a2 : Int) (ha2 : i32 a2) : OkV l D TC 681 base yX8_rewriteTo cX8_rewriteTo 3 none 1 22 [.ref (base + h), .int (Ii a1), .int (Ii a2)] M (f_X8_rewriteTo h a1 a2 M) := by
  refine metV (by decide +kernel) [(0, .ref (base + h)), (1, .int (Ii a1)), (2, .int (Ii a2))] rfl (Nat.le_of_ble_eq_true rfl) (fun p e s m args below meth c X hrt hlk => ?_)
  have X : Cx p s m args c cX8_rewriteTo D 3 RX8 := X
  unfold f_X8_rewriteTo
  refine go_aload_n X dX8_rewriteTo_0 rfl 0 rfl ?_
  refine go_getc (i := 5) X fc8 dX8_rewriteTo_1 (nT hh) (tT hh) (Nat.le_of_ble_eq_true rfl) rfl lw172 rfl ?_
  refine go_iload_n X dX8_rewriteTo_4 rfl 1 rfl ?_
  refine go_iload_n X dX8_rewriteTo_5 rfl 2 rfl ?_
  refine goV (fun H locs ls r ho hW hL => runSN X (ok_X11_setEntry l D base M (h + 4) (isATa4 hh) a1 ha1 a2 ha2 H.size r ho) dX8_rewriteTo_6 nl24 lw21 lw19 ⟨lw14, cy_X11_setEntry, Nat.le_of_ble_eq_true rfl, Nat.le_of_ble_eq_true rfl⟩ rfl rfl (Nat.le_of_ble_eq_true rfl) hW hL hk0) (fun _ M1 => ?_)
  exact go_vreturn X hrt hlk dX8_rewriteTo_9
def f_X8_compare_L4_45 (h : Nat) (r1 : Nat) (J102_3 : Int → Mm → Rs) (rc4_7 : Int × Int × Mm → Rs) : Int × Int × Mm → Rs := fun (v4, v5, M6) =>
Lt (M6 h 0) fun v8 =>
if v8 ≤ v5 then (
J102_3 v4 M6) else (
Lt (fun (v10 : Int) (v11 : Int) (v12 : Int) (M13 : Mm) => 
Cl (f_X8_hasNode r1 v12 M13) fun v16 M15 =>
Lt (fun (v17 : Int) (v18 : Int) (M19 : Mm) => 
Lt (wr (v18 + 1)) fun v21 =>
rc4_7 (v17, v21, M19)) fun J96_20 =>
Lt (fun (v22 : Int) (v23 : Int) (M24 : Mm) => 
Cl (f_X11_setEntry (h + 7) v23 ((-1)) M24) fun _ M26 =>
J96_20 v22 v23 M26) fun J60_25 =>
if v16 = 0 then (
J60_25 v10 v11 M15) else (
Cl (f_X8_isAlike h v11 r1 v12 M15) fun v29 M28 =>
if ¬ v29 = 0 then (
Cl (f_X11_setEntry (h + 7) v11 v12 M28) fun _ M31 =>
Cl (f_X8_nowOf h v11 M31) fun v33 M32 =>
Cl (f_X8_rewriteTo r1 v12 v33 M32) fun _ M34 =>
Lt (wr (v10 + 1)) fun v35 =>
J96_20 v35 v11 M34) else (
J60_25 v10 v11 M28))) fun J38_14 =>
if ¬ v5 = 0 then (
Cl (f_X8_parentOf h v5 M6) fun v38 M37 =>
Cl (f_X8_heirOf h v38 M37) fun v40 M39 =>
Cl (f_X8_placeOf h v5 M39) fun v42 M41 =>
Cl (f_X8_childOf r1 v40 v42 M41) fun v44 M43 =>
J38_14 v4 v5 v44 M43) else (
J38_14 v4 v5 0 M6))
def f_X8_compare (h : Nat) (r1 : Nat) (M : Mm) : Rs :=
Lt (fun (v1 : Int) (M2 : Mm) => 
some (v1, M2)) fun J102_3 =>
Lp (f_X8_compare_L4_45 h r1 J102_3) FU (0, 0, M)
theorem cy_X8_compare : yX8_compare.cls ≠ "java/lang/invoke/MethodHandle" ∧ yX8_compare.cls ≠ "java/lang/invoke/VarHandle" ∧ (parseMethodDescriptor yX8_compare.desc).map (fun d => d.parameters.length) = some 1 := ⟨by decide +kernel, by decide +kernel, by decide +kernel⟩
set_option maxRecDepth 20000 in
theorem ok_X8_compare (l : Launch) (D : Dd) (base : Nat) (M : Mm) (h : Nat) (hh : isT h) (r1 : Nat) (hr1 : isT r1) : OkI l D TC 681 base yX8_compare cX8_compare 5 (some .int) 2 44 [.ref (base + h), .ref (base + r1)] M i32 (f_X8_compare h r1 M) := by
  refine metI (by decide +kernel) [(0, .ref (base + h)), (1, .ref (base + r1))] rfl (Nat.le_of_ble_eq_true rfl) (fun p e s m args below meth c X hrt hlk => ?_)
  have X : Cx p s m args c cX8_compare D 5 RX8 := X
  unfold f_X8_compare
  refine go_iconst (v := 0) X dX8_compare_0 rfl ?_
  refine go_istore_n (i := 2) (L' := [(2, .int (Ii 0)), (0, .ref (base + h)), (1, .ref (base + r1))]) X dX8_compare_1 rfl (by decide) rfl ?_
  refine go_iconst (v := 0) X dX8_compare_2 rfl ?_
  refine go_istore_n (i := 3) (L' := [(3, .int (Ii 0)), (2, .int (Ii 0)), (0, .ref (base + h)), (1, .ref (base + r1))]) X dX8_compare_3 rfl (by decide) rfl ?_
  refine go_lt (fun J => ∀ (v1 : Int) (M2 : Mm), i32 v1 → Go p l e (rmO 2 44) s m args below meth c D TC 681 base 5 0 0 (FinI D TC 681 base below args s i32) M2 102 [(2, .int (Ii v1))] [] (J v1 M2)) (by
      intro v1 M2 hv1
      refine go_iload_n X dX8_compare_102 rfl 0 rfl ?_
      exact go_ireturn X hrt hlk dX8_compare_103 hv1
      )
      (fun J102_3 hJ102_3 => ?_)
  refine go_sub [2, 3, 1, 0] rfl ?_
  exact go_lp (fun (rc : Int × Int × Mm → Rs) => ∀ (v4 : Int) (v5 : Int) (M6 : Mm), i32 v4 → i32 v5 → Go p l e (rmO 2 44) s m args below meth c D TC 681 base 5 0 0 (FinI D TC 681 base below args s i32) M6 4 [(0, .ref (base + h)), (1, .ref (base + r1)), (2, .int (Ii v4)), (3, .int (Ii v5))] [] (rc (v4, v5, M6)))
      (by intro v4 v5 M6 hv4 hv5; exact go_none)
      (by
      intro rc4_7 hrc4_7 v4 v5 M6 hv4 hv5
      unfold f_X8_compare_L4_45
      dsimp only
      refine go_iload_n X dX8_compare_4 rfl 3 rfl ?_
      refine go_aload_n X dX8_compare_5 rfl 0 rfl ?_
      refine go_geti (i := 0) X fc8 dX8_compare_6 (nT hh) (tT hh) (Nat.le_of_ble_eq_true rfl) rfl lw270 rfl (fun v8 hv8 => ?_)
      refine go_icmp_ge (tgt := 102) X dX8_compare_9 rfl hv5 hv8 (fun c9 => ?_) (fun c9 => ?_)
      · refine go_sub [2] rfl ?_
        exact hJ102_3 v4 M6 hv4
      · refine go_iload_n X dX8_compare_12 rfl 3 rfl ?_
        refine go_lt (fun J => ∀ (v10 : Int) (v11 : Int) (v12 : Int) (M13 : Mm), i32 v10 → i32 v11 → i32 v12 → Go p l e (rmO 2 44) s m args below meth c D TC 681 base 5 0 0 (FinI D TC 681 base below args s i32) M13 38 [(0, .ref (base + h)), (1, .ref (base + r1)), (2, .int (Ii v10)), (3, .int (Ii v11))] [.int (Ii v12)] (J v10 v11 v12 M13)) (by
            intro v10 v11 v12 M13 hv10 hv11 hv12
            refine go_istore (i := 4) (L' := [(4, .int (Ii v12)), (0, .ref (base + h)), (1, .ref (base + r1)), (2, .int (Ii v10)), (3, .int (Ii v11))]) X dX8_compare_38 (by decide) rfl ?_
            refine go_aload_n X dX8_compare_40 rfl 2 rfl ?_
            refine go_iload X dX8_compare_41 0 rfl ?_
            refine goI (fun H locs ls r ho hW hL => runV X (ok_X8_hasNode l D base M13 r1 hr1 v12 hv12 H.size r ho) dX8_compare_43 lw375 lw376 lw377 lw189 ⟨lw372, cy_X8_hasNode, Nat.le_of_ble_eq_true rfl, Nat.le_of_ble_eq_true rfl⟩ rfl (nT hr1) (tT hr1) rfl rfl rfl rfl (Nat.le_of_ble_eq_true rfl) hW hL hk0) (fun v16 M15 hv16 => ?_)
            refine go_lt (fun J => ∀ (v17 : Int) (v18 : Int) (M19 : Mm), i32 v17 → i32 v18 → Go p l e (rmO 2 44) s m args below meth c D TC 681 base 5 0 0 (FinI D TC 681 base below args s i32) M19 96 [(0, .ref (base + h)), (1, .ref (base + r1)), (2, .int (Ii v17)), (3, .int (Ii v18))] [] (J v17 v18 M19)) (by
                intro v17 v18 M19 hv17 hv18
                refine go_iinc (i := 3) (L' := fun v => [(3, .int (Ii v)), (0, .ref (base + h)), (1, .ref (base + r1)), (2, .int (Ii v17))]) X dX8_compare_96 hv18 kI_1 (j := 3) rfl (by decide) (fun _ => rfl) (fun v21 hv21 => ?_)
                refine go_goto (tgt := 4) X dX8_compare_99 rfl ?_
                refine go_sub [1, 2, 3, 0] rfl ?_
                exact hrc4_7 v17 v21 M19 hv17 hv21
                )
                (fun J96_20 hJ96_20 => ?_)
            refine go_lt (fun J => ∀ (v22 : Int) (v23 : Int) (M24 : Mm), i32 v22 → i32 v23 → Go p l e (rmO 2 44) s m args below meth c D TC 681 base 5 0 0 (FinI D TC 681 base below args s i32) M24 60 [(0, .ref (base + h)), (1, .ref (base + r1)), (2, .int (Ii v22)), (3, .int (Ii v23))] [] (J v22 v23 M24)) (by
                intro v22 v23 M24 hv22 hv23
                refine go_aload_n X dX8_compare_60 rfl 0 rfl ?_
                refine go_getc (i := 8) X fc8 dX8_compare_61 (nT hh) (tT hh) (Nat.le_of_ble_eq_true rfl) rfl lw374 rfl ?_
                refine go_iload_n X dX8_compare_64 rfl 3 rfl ?_
                refine go_iconst (v := (-1)) X dX8_compare_65 rfl ?_
                refine goV (fun H locs ls r ho hW hL => runSN X (ok_X11_setEntry l D base M24 (h + 7) (isATa7 hh) v23 hv23 ((-1)) kI_m1 H.size r ho) dX8_compare_66 nl24 lw21 lw19 ⟨lw14, cy_X11_setEntry, Nat.le_of_ble_eq_true rfl, Nat.le_of_ble_eq_true rfl⟩ rfl rfl (Nat.le_of_ble_eq_true rfl) hW hL hk0) (fun _ M26 => ?_)
                refine go_goto (tgt := 96) X dX8_compare_69 rfl ?_
                exact hJ96_20 v22 v23 M26 hv22 hv23
                )
                (fun J60_25 hJ60_25 => ?_)
            refine go_if_eq (tgt := 60) X dX8_compare_46 rfl (bo_i32 hv16) (fun c27 => ?_) (fun c27 => ?_)
            · refine go_sub [1, 2, 3, 4] rfl ?_
              exact hJ60_25 v10 v11 M15 hv10 hv11
            · refine go_aload_n X dX8_compare_49 rfl 1 rfl ?_
              refine go_iload_n X dX8_compare_50 rfl 4 rfl ?_
              refine go_aload_n X dX8_compare_51 rfl 2 rfl ?_
              refine go_iload X dX8_compare_52 0 rfl ?_
              refine goI (fun H locs ls r ho hW hL => runV X (ok_X8_isAlike l D base M15 h hh v11 hv11 r1 hr1 v12 hv12 H.size r ho) dX8_compare_54 lw540 lw541 lw542 lw189 ⟨lw534, cy_X8_isAlike, Nat.le_of_ble_eq_true rfl, Nat.le_of_ble_eq_true rfl⟩ rfl (nT hh) (tT hh) rfl rfl rfl rfl (Nat.le_of_ble_eq_true rfl) hW hL hk0) (fun v29 M28 hv29 => ?_)
              refine go_if_ne (tgt := 72) X dX8_compare_57 rfl (bo_i32 hv29) (fun c30 => ?_) (fun c30 => ?_)
              · refine go_aload_n X dX8_compare_72 rfl 1 rfl ?_
                refine go_getc (i := 8) X fc8 dX8_compare_73 (nT hh) (tT hh) (Nat.le_of_ble_eq_true rfl) rfl lw374 rfl ?_
                refine go_iload_n X dX8_compare_76 rfl 4 rfl ?_
                refine go_iload X dX8_compare_77 0 rfl ?_
                refine goV (fun H locs ls r ho hW hL => runSN X (ok_X11_setEntry l D base M28 (h + 7) (isATa7 hh) v11 hv11 v12 hv12 H.size r ho) dX8_compare_79 nl24 lw21 lw19 ⟨lw14, cy_X11_setEntry, Nat.le_of_ble_eq_true rfl, Nat.le_of_ble_eq_true rfl⟩ rfl rfl (Nat.le_of_ble_eq_true rfl) hW hL hk0) (fun _ M31 => ?_)
                refine go_aload_n X dX8_compare_82 rfl 2 rfl ?_
                refine go_iload X dX8_compare_83 0 rfl ?_
                refine go_aload_n X dX8_compare_85 rfl 1 rfl ?_
                refine go_iload_n X dX8_compare_86 rfl 4 rfl ?_
                refine goI (fun H locs ls r ho hW hL => runV X (ok_X8_nowOf l D base M31 h hh v11 hv11 H.size r ho) dX8_compare_87 lw543 lw187 lw188 lw189 ⟨lw171, cy_X8_nowOf, Nat.le_of_ble_eq_true rfl, Nat.le_of_ble_eq_true rfl⟩ rfl (nT hh) (tT hh) rfl rfl rfl rfl (Nat.le_of_ble_eq_true rfl) hW hL hk0) (fun v33 M32 hv33 => ?_)
                refine goV (fun H locs ls r ho hW hL => runV X (ok_X8_rewriteTo l D base M32 r1 hr1 v12 hv12 v33 hv33 H.size r ho) dX8_compare_90 lw544 lw545 lw546 lw189 ⟨lw533, cy_X8_rewriteTo, Nat.le_of_ble_eq_true rfl, Nat.le_of_ble_eq_true rfl⟩ rfl (nT hr1) (tT hr1) rfl rfl rfl rfl (Nat.le_of_ble_eq_true rfl) hW hL hk0) (fun _ M34 => ?_)
                refine go_iinc (i := 2) (L' := fun v => [(2, .int (Ii v)), (4, .int (Ii v12)), (0, .ref (base + h)), (1, .ref (base + r1)), (3, .int (Ii v11))]) X dX8_compare_93 hv10 kI_1 (j := 3) rfl (by decide) (fun _ => rfl) (fun v35 hv35 => ?_)
                refine go_sub [2, 3, 0, 4] rfl ?_
                exact hJ96_20 v35 v11 M34 hv35 hv11
              · refine go_sub [1, 2, 3, 4] rfl ?_
                exact hJ60_25 v10 v11 M28 hv10 hv11
            )
            (fun J38_14 hJ38_14 => ?_)
        refine go_if_ne (tgt := 20) X dX8_compare_13 rfl hv5 (fun c36 => ?_) (fun c36 => ?_)
        · refine go_aload_n X dX8_compare_20 rfl 1 rfl ?_
          refine go_aload_n X dX8_compare_21 rfl 0 rfl ?_
          refine go_aload_n X dX8_compare_22 rfl 0 rfl ?_
          refine go_iload_n X dX8_compare_23 rfl 3 rfl ?_
          refine goI (fun H locs ls r ho hW hL => runV X (ok_X8_parentOf l D base M6 h hh v5 hv5 H.size r ho) dX8_compare_24 lw536 lw228 lw229 lw189 ⟨lw198, cy_X8_parentOf, Nat.le_of_ble_eq_true rfl, Nat.le_of_ble_eq_true rfl⟩ rfl (nT hh) (tT hh) rfl rfl rfl rfl (Nat.le_of_ble_eq_true rfl) hW hL hk0) (fun v38 M37 hv38 => ?_)
          refine goI (fun H locs ls r ho hW hL => runV X (ok_X8_heirOf l D base M37 h hh v38 hv38 H.size r ho) dX8_compare_27 lw537 lw380 lw381 lw189 ⟨lw373, cy_X8_heirOf, Nat.le_of_ble_eq_true rfl, Nat.le_of_ble_eq_true rfl⟩ rfl (nT hh) (tT hh) rfl rfl rfl rfl (Nat.le_of_ble_eq_true rfl) hW hL hk0) (fun v40 M39 hv40 => ?_)
          refine go_aload_n X dX8_compare_30 rfl 0 rfl ?_
          refine go_iload_n X dX8_compare_31 rfl 3 rfl ?_
          refine goI (fun H locs ls r ho hW hL => runV X (ok_X8_placeOf l D base M39 h hh v5 hv5 H.size r ho) dX8_compare_32 lw538 lw231 lw232 lw189 ⟨lw200, cy_X8_placeOf, Nat.le_of_ble_eq_true rfl, Nat.le_of_ble_eq_true rfl⟩ rfl (nT hh) (tT hh) rfl rfl rfl rfl (Nat.le_of_ble_eq_true rfl) hW hL hk0) (fun v42 M41 hv42 => ?_)
          refine goI (fun H locs ls r ho hW hL => runV X (ok_X8_childOf l D base M41 r1 hr1 v40 hv40 v42 hv42 H.size r ho) dX8_compare_35 lw539 lw275 lw276 lw189 ⟨lw269, cy_X8_childOf, Nat.le_of_ble_eq_true rfl, Nat.le_of_ble_eq_true rfl⟩ rfl (nT hr1) (tT hr1) rfl rfl rfl rfl (Nat.le_of_ble_eq_true rfl) hW hL hk0) (fun v44 M43 hv44 => ?_)
          exact hJ38_14 v4 v5 v44 M43 hv4 hv5 hv44
        · refine go_iconst (v := 0) X dX8_compare_16 rfl ?_
          refine go_goto (tgt := 38) X dX8_compare_17 rfl ?_
          exact hJ38_14 v4 v5 0 M6 hv4 hv5 kI_0
      )
      FU 0 0 M kI_0 kI_0
def f_X8_touched_L4_26 (h : Nat) (J43_3 : Int → Mm → Rs) (rc4_7 : Int × Int × Mm → Rs) : Int × Int × Mm → Rs := fun (v4, v5, M6) =>
Lt (M6 h 0) fun v8 =>
if v8 ≤ v5 then (
J43_3 v4 M6) else (
Cl (f_X8_heirOf h v5 M6) fun v11 M10 =>
Lt (fun (v12 : Int) (v13 : Int) (M14 : Mm) => 
Lt (wr (v13 + 1)) fun v16 =>
rc4_7 (v12, v16, M14)) fun J37_15 =>
if ¬ v11 = ((-1)) then (
J37_15 v4 v5 M10) else (
Cl (f_X11_bitOf v5 M10) fun v19 M18 =>
Cl (f_X8_parentOf h v5 M18) fun v21 M20 =>
Cl (f_X11_bitOf v21 M20) fun v23 M22 =>
Lt (jor v19 v23) fun v24 =>
Lt (jor v4 v24) fun v25 =>
J37_15 v25 v5 M22))
def f_X8_touched (h : Nat) (M : Mm) : Rs :=
Lt (fun (v1 : Int) (M2 : Mm) => 
some (v1, M2)) fun J43_3 =>
Lp (f_X8_touched_L4_26 h J43_3) FU (0, 0, M)
theorem cy_X8_touched : yX8_touched.cls ≠ "java/lang/invoke/MethodHandle" ∧ yX8_touched.cls ≠ "java/lang/invoke/VarHandle" ∧ (parseMethodDescriptor yX8_touched.desc).map (fun d => d.parameters.length) = some 0 := ⟨by decide +kernel, by decide +kernel, by decide +kernel⟩
set_option maxRecDepth 20000 in
theorem ok_X8_touched (l : Launch) (D : Dd) (base : Nat) (M : Mm) (h : Nat) (hh : isT h) : OkI l D TC 681 base yX8_touched cX8_touched 3 (some .int) 2 42 [.ref (base + h)] M i32 (f_X8_touched h M) := by
  refine metI (by decide +kernel) [(0, .ref (base + h))] rfl (Nat.le_of_ble_eq_true rfl) (fun p e s m args below meth c X hrt hlk => ?_)
  have X : Cx p s m args c cX8_touched D 3 RX8 := X
  unfold f_X8_touched
  refine go_iconst (v := 0) X dX8_touched_0 rfl ?_
  refine go_istore_n (i := 1) (L' := [(1, .int (Ii 0)), (0, .ref (base + h))]) X dX8_touched_1 rfl (by decide) rfl ?_
  refine go_iconst (v := 0) X dX8_touched_2 rfl ?_
  refine go_istore_n (i := 2) (L' := [(2, .int (Ii 0)), (1, .int (Ii 0)), (0, .ref (base + h))]) X dX8_touched_3 rfl (by decide) rfl ?_
  refine go_lt (fun J => ∀ (v1 : Int) (M2 : Mm), i32 v1 → Go p l e (rmO 2 42) s m args below meth c D TC 681 base 3 0 0 (FinI D TC 681 base below args s i32) M2 43 [(1, .int (Ii v1))] [] (J v1 M2)) (by
      intro v1 M2 hv1
      refine go_iload_n X dX8_touched_43 rfl 0 rfl ?_
      exact go_ireturn X hrt hlk dX8_touched_44 hv1
      )
      (fun J43_3 hJ43_3 => ?_)
  refine go_sub [2, 1, 0] rfl ?_
  exact go_lp (fun (rc : Int × Int × Mm → Rs) => ∀ (v4 : Int) (v5 : Int) (M6 : Mm), i32 v4 → i32 v5 → Go p l e (rmO 2 42) s m args below meth c D TC 681 base 3 0 0 (FinI D TC 681 base below args s i32) M6 4 [(0, .ref (base + h)), (1, .int (Ii v4)), (2, .int (Ii v5))] [] (rc (v4, v5, M6)))
      (by intro v4 v5 M6 hv4 hv5; exact go_none)
      (by
      intro rc4_7 hrc4_7 v4 v5 M6 hv4 hv5
      unfold f_X8_touched_L4_26
      dsimp only
      refine go_iload_n X dX8_touched_4 rfl 2 rfl ?_
      refine go_aload_n X dX8_touched_5 rfl 0 rfl ?_
      refine go_geti (i := 0) X fc8 dX8_touched_6 (nT hh) (tT hh) (Nat.le_of_ble_eq_true rfl) rfl lw270 rfl (fun v8 hv8 => ?_)
      refine go_icmp_ge (tgt := 43) X dX8_touched_9 rfl hv5 hv8 (fun c9 => ?_) (fun c9 => ?_)
      · refine go_sub [1] rfl ?_
        exact hJ43_3 v4 M6 hv4
      · refine go_aload_n X dX8_touched_12 rfl 0 rfl ?_
        refine go_iload_n X dX8_touched_13 rfl 2 rfl ?_
        refine goI (fun H locs ls r ho hW hL => runV X (ok_X8_heirOf l D base M6 h hh v5 hv5 H.size r ho) dX8_touched_14 lw537 lw380 lw381 lw189 ⟨lw373, cy_X8_heirOf, Nat.le_of_ble_eq_true rfl, Nat.le_of_ble_eq_true rfl⟩ rfl (nT hh) (tT hh) rfl rfl rfl rfl (Nat.le_of_ble_eq_true rfl) hW hL hk0) (fun v11 M10 hv11 => ?_)
        refine go_iconst (v := (-1)) X dX8_touched_17 rfl ?_
        refine go_lt (fun J => ∀ (v12 : Int) (v13 : Int) (M14 : Mm), i32 v12 → i32 v13 → Go p l e (rmO 2 42) s m args below meth c D TC 681 base 3 0 0 (FinI D TC 681 base below args s i32) M14 37 [(0, .ref (base + h)), (1, .int (Ii v12)), (2, .int (Ii v13))] [] (J v12 v13 M14)) (by
            intro v12 v13 M14 hv12 hv13
            refine go_iinc (i := 2) (L' := fun v => [(2, .int (Ii v)), (0, .ref (base + h)), (1, .int (Ii v12))]) X dX8_touched_37 hv13 kI_1 (j := 2) rfl (by decide) (fun _ => rfl) (fun v16 hv16 => ?_)
            refine go_goto (tgt := 4) X dX8_touched_40 rfl ?_
            refine go_sub [1, 2, 0] rfl ?_
            exact hrc4_7 v12 v16 M14 hv12 hv16
            )
            (fun J37_15 hJ37_15 => ?_)
        refine go_icmp_ne (tgt := 37) X dX8_touched_18 rfl hv11 kI_m1 (fun c17 => ?_) (fun c17 => ?_)
        · exact hJ37_15 v4 v5 M10 hv4 hv5
        · refine go_iload_n X dX8_touched_21 rfl 1 rfl ?_
          refine go_iload_n X dX8_touched_22 rfl 2 rfl ?_
          refine goI (fun H locs ls r ho hW hL => runSN X (ok_X11_bitOf l D base M10 v5 hv5 H.size r ho) dX8_touched_23 nl26 lw220 lw19 ⟨lw167, cy_X11_bitOf, Nat.le_of_ble_eq_true rfl, Nat.le_of_ble_eq_true rfl⟩ rfl rfl (Nat.le_of_ble_eq_true rfl) hW hL hk0) (fun v19 M18 hv19 => ?_)
          refine go_aload_n X dX8_touched_26 rfl 0 rfl ?_
          refine go_iload_n X dX8_touched_27 rfl 2 rfl ?_
          refine goI (fun H locs ls r ho hW hL => runV X (ok_X8_parentOf l D base M18 h hh v5 hv5 H.size r ho) dX8_touched_28 lw536 lw228 lw229 lw189 ⟨lw198, cy_X8_parentOf, Nat.le_of_ble_eq_true rfl, Nat.le_of_ble_eq_true rfl⟩ rfl (nT hh) (tT hh) rfl rfl rfl rfl (Nat.le_of_ble_eq_true rfl) hW hL hk0) (fun v21 M20 hv21 => ?_)
          refine goI (fun H locs ls r ho hW hL => runSN X (ok_X11_bitOf l D base M20 v21 hv21 H.size r ho) dX8_touched_31 nl26 lw220 lw19 ⟨lw167, cy_X11_bitOf, Nat.le_of_ble_eq_true rfl, Nat.le_of_ble_eq_true rfl⟩ rfl rfl (Nat.le_of_ble_eq_true rfl) hW hL hk0) (fun v23 M22 hv23 => ?_)
          refine go_ior X dX8_touched_34 hv19 hv23 (fun v24 hv24 => ?_)
          refine go_ior X dX8_touched_35 hv4 hv24 (fun v25 hv25 => ?_)
          refine go_istore_n (i := 1) (L' := [(1, .int (Ii v25)), (0, .ref (base + h)), (2, .int (Ii v5))]) X dX8_touched_36 rfl (by decide) rfl ?_
          refine go_sub [1, 0, 2] rfl ?_
          exact hJ37_15 v25 v5 M22 hv25 hv5
      )
      FU 0 0 M kI_0 kI_0
def f_X3_drop_L2_16 (h : Nat) (a1 : Int) (J37_2 : Mm → Rs) (rc2_5 : Int × Mm → Rs) : Int × Mm → Rs := fun (v3, M4) =>
if 180 ≤ v3 then (
J37_2 M4) else (
Cl (f_X11_entryOf (h + 2) v3 M4) fun v8 M7 =>
Lt (jand v8 a1) fun v9 =>
Lt (fun (v10 : Int) (M11 : Mm) => 
Lt (wr (v10 + 1)) fun v13 =>
rc2_5 (v13, M11)) fun J31_12 =>
if v9 = 0 then (
J31_12 v3 M7) else (
Cl (f_X11_setEntry (h + 2) v3 0 M7) fun _ M15 =>
J31_12 v3 M15))
def f_X3_drop (h : Nat) (a1 : Int) (M : Mm) : Rs :=
Lt (fun (M1 : Mm) => 
some (0, M1)) fun J37_2 =>
Lp (f_X3_drop_L2_16 h a1 J37_2) FU (0, M)
theorem cy_X3_drop : yX3_drop.cls ≠ "java/lang/invoke/MethodHandle" ∧ yX3_drop.cls ≠ "java/lang/invoke/VarHandle" ∧ (parseMethodDescriptor yX3_drop.desc).map (fun d => d.parameters.length) = some 1 := ⟨by decide +kernel, by decide +kernel, by decide +kernel⟩
set_option maxRecDepth 20000 in
theorem ok_X3_drop (l : Launch) (D : Dd) (base : Nat) (M : Mm) (h : Nat) (hh : isF h) (a1 : Int) (ha1 : i32 a1) : OkV l D TC 681 base yX3_drop cX3_drop 3 none 1 22 [.ref (base + h), .int (Ii a1)] M (f_X3_drop h a1 M) := by
  refine metV (by decide +kernel) [(0, .ref (base + h)), (1, .int (Ii a1))] rfl (Nat.le_of_ble_eq_true rfl) (fun p e s m args below meth c X hrt hlk => ?_)
  have X : Cx p s m args c cX3_drop D 3 RX3 := X
  unfold f_X3_drop
  refine go_iconst (v := 0) X dX3_drop_0 rfl ?_
  refine go_istore_n (i := 2) (L' := [(2, .int (Ii 0)), (0, .ref (base + h)), (1, .int (Ii a1))]) X dX3_drop_1 rfl (by decide) rfl ?_
  refine go_lt (fun J => ∀ (M1 : Mm), Go p l e (rmO 1 22) s m args below meth c D TC 681 base 3 0 0 (FinV D TC 681 base below args s) M1 37 [] [] (J M1)) (by
      intro M1
      exact go_vreturn X hrt hlk dX3_drop_37
      )
      (fun J37_2 hJ37_2 => ?_)
  refine go_sub [1, 2, 0] rfl ?_
  exact go_lp (fun (rc : Int × Mm → Rs) => ∀ (v3 : Int) (M4 : Mm), i32 v3 → Go p l e (rmO 1 22) s m args below meth c D TC 681 base 3 0 0 (FinV D TC 681 base below args s) M4 2 [(0, .ref (base + h)), (1, .int (Ii a1)), (2, .int (Ii v3))] [] (rc (v3, M4)))
      (by intro v3 M4 hv3; exact go_none)
      (by
      intro rc2_5 hrc2_5 v3 M4 hv3
      unfold f_X3_drop_L2_16
      dsimp only
      refine go_iload_n X dX3_drop_2 rfl 2 rfl ?_
      refine go_sipush (v := 180) X dX3_drop_3 (by decide) ?_
      refine go_icmp_ge (tgt := 37) X dX3_drop_6 rfl hv3 kI_180 (fun c6 => ?_) (fun c6 => ?_)
      · refine go_sub [] rfl ?_
        exact hJ37_2 M4
      · refine go_aload_n X dX3_drop_9 rfl 0 rfl ?_
        refine go_getc (i := 2) X fc3 dX3_drop_10 (nF hh) (tF hh) (Nat.le_of_ble_eq_true rfl) rfl lw161 rfl ?_
        refine go_iload_n X dX3_drop_13 rfl 2 rfl ?_
        refine goI (fun H locs ls r ho hW hL => runSN X (ok_X11_entryOf l D base M4 (h + 2) (isAFa2 hh) v3 hv3 H.size r ho) dX3_drop_14 nl27 lw20 lw19 ⟨lw13, cy_X11_entryOf, Nat.le_of_ble_eq_true rfl, Nat.le_of_ble_eq_true rfl⟩ rfl rfl (Nat.le_of_ble_eq_true rfl) hW hL hk0) (fun v8 M7 hv8 => ?_)
        refine go_iload_n X dX3_drop_17 rfl 1 rfl ?_
        refine go_iand X dX3_drop_18 hv8 ha1 (fun v9 hv9 => ?_)
        refine go_lt (fun J => ∀ (v10 : Int) (M11 : Mm), i32 v10 → Go p l e (rmO 1 22) s m args below meth c D TC 681 base 3 0 0 (FinV D TC 681 base below args s) M11 31 [(0, .ref (base + h)), (1, .int (Ii a1)), (2, .int (Ii v10))] [] (J v10 M11)) (by
            intro v10 M11 hv10
            refine go_iinc (i := 2) (L' := fun v => [(2, .int (Ii v)), (0, .ref (base + h)), (1, .int (Ii a1))]) X dX3_drop_31 hv10 kI_1 (j := 2) rfl (by decide) (fun _ => rfl) (fun v13 hv13 => ?_)
            refine go_goto (tgt := 2) X dX3_drop_34 rfl ?_
            refine go_sub [1, 2, 0] rfl ?_
            exact hrc2_5 v13 M11 hv13
            )
            (fun J31_12 hJ31_12 => ?_)
        refine go_if_eq (tgt := 31) X dX3_drop_19 rfl hv9 (fun c14 => ?_) (fun c14 => ?_)
        · exact hJ31_12 v3 M7 hv3
        · refine go_aload_n X dX3_drop_22 rfl 0 rfl ?_
          refine go_getc (i := 2) X fc3 dX3_drop_23 (nF hh) (tF hh) (Nat.le_of_ble_eq_true rfl) rfl lw161 rfl ?_
          refine go_iload_n X dX3_drop_26 rfl 2 rfl ?_
          refine go_iconst (v := 0) X dX3_drop_27 rfl ?_
          refine goV (fun H locs ls r ho hW hL => runSN X (ok_X11_setEntry l D base M7 (h + 2) (isAFa2 hh) v3 hv3 0 kI_0 H.size r ho) dX3_drop_28 nl28 lw21 lw19 ⟨lw14, cy_X11_setEntry, Nat.le_of_ble_eq_true rfl, Nat.le_of_ble_eq_true rfl⟩ rfl rfl (Nat.le_of_ble_eq_true rfl) hW hL hk0) (fun _ M15 => ?_)
          exact hJ31_12 v3 M15 hv3
      )
      FU 0 M kI_0
def f_X3_valueInHeirs (r1 : Nat) (a2 : Int) (M : Mm) : Rs :=
Lt (fun (v1 : Int) (M2 : Mm) => 
some (v1, M2)) fun J24_3 =>
if 1000 ≤ a2 then (
Lt (wr (a2 - 1000)) fun v5 =>
Cl (f_X8_heirOf r1 v5 M) fun v7 M6 =>
Lt (wr (1000 + v7)) fun v8 =>
J24_3 v8 M6) else (
J24_3 a2 M)
theorem cy_X3_valueInHeirs : yX3_valueInHeirs.cls ≠ "java/lang/invoke/MethodHandle" ∧ yX3_valueInHeirs.cls ≠ "java/lang/invoke/VarHandle" ∧ (parseMethodDescriptor yX3_valueInHeirs.desc).map (fun d => d.parameters.length) = some 2 := ⟨by decide +kernel, by decide +kernel, by decide +kernel⟩
set_option maxRecDepth 20000 in
theorem ok_X3_valueInHeirs (l : Launch) (D : Dd) (base : Nat) (M : Mm) (r1 : Nat) (hr1 : isT r1) (a2 : Int) (ha2 : i32 a2) : OkI l D TC 681 base yX3_valueInHeirs cX3_valueInHeirs 2 (some .int) 2 42 [.ref (base + r1), .int (Ii a2)] M i32 (f_X3_valueInHeirs r1 a2 M) := by
  refine metI (by decide +kernel) [(0, .ref (base + r1)), (1, .int (Ii a2))] rfl (Nat.le_of_ble_eq_true rfl) (fun p e s m args below meth c X hrt hlk => ?_)
  have X : Cx p s m args c cX3_valueInHeirs D 2 RX3 := X
  unfold f_X3_valueInHeirs
  refine go_iload_n X dX3_valueInHeirs_0 rfl 1 rfl ?_
  refine go_sipush (v := 1000) X dX3_valueInHeirs_1 (by decide) ?_
  refine go_lt (fun J => ∀ (v1 : Int) (M2 : Mm), i32 v1 → Go p l e (rmO 2 42) s m args below meth c D TC 681 base 2 0 0 (FinI D TC 681 base below args s i32) M2 24 [] [.int (Ii v1)] (J v1 M2)) (by
      intro v1 M2 hv1
      exact go_ireturn X hrt hlk dX3_valueInHeirs_24 hv1
      )
      (fun J24_3 hJ24_3 => ?_)
  refine go_icmp_ge (tgt := 11) X dX3_valueInHeirs_4 rfl ha2 kI_1000 (fun c4 => ?_) (fun c4 => ?_)
  · refine go_sipush (v := 1000) X dX3_valueInHeirs_11 (by decide) ?_
    refine go_aload_n X dX3_valueInHeirs_14 rfl 0 rfl ?_
    refine go_iload_n X dX3_valueInHeirs_15 rfl 1 rfl ?_
    refine go_sipush (v := 1000) X dX3_valueInHeirs_16 (by decide) ?_
    refine go_isub X dX3_valueInHeirs_19 ha2 kI_1000 (fun v5 hv5 => ?_)
    refine goI (fun H locs ls r ho hW hL => runV X (ok_X8_heirOf l D base M r1 hr1 v5 hv5 H.size r ho) dX3_valueInHeirs_20 lw379 lw380 lw381 lw189 ⟨lw373, cy_X8_heirOf, Nat.le_of_ble_eq_true rfl, Nat.le_of_ble_eq_true rfl⟩ rfl (nT hr1) (tT hr1) rfl rfl rfl rfl (Nat.le_of_ble_eq_true rfl) hW hL hk0) (fun v7 M6 hv7 => ?_)
    refine go_iadd X dX3_valueInHeirs_23 kI_1000 hv7 (fun v8 hv8 => ?_)
    refine go_sub [] rfl ?_
    exact hJ24_3 v8 M6 hv8
  · refine go_iload_n X dX3_valueInHeirs_7 rfl 1 rfl ?_
    refine go_goto (tgt := 24) X dX3_valueInHeirs_8 rfl ?_
    refine go_sub [] rfl ?_
    exact hJ24_3 a2 M ha2
def f_X3_bitsInHeirs_L4_24 (r1 : Nat) (a2 : Int) (J40_3 : Int → Mm → Rs) (rc4_7 : Int × Int × Mm → Rs) : Int × Int × Mm → Rs := fun (v4, v5, M6) =>
if 30 ≤ v5 then (
J40_3 v4 M6) else (
Cl (f_X11_bitOf v5 M6) fun v10 M9 =>
Lt (jand a2 v10) fun v11 =>
Lt (fun (v12 : Int) (v13 : Int) (v14 : Int) (M15 : Mm) => 
Lt (jor v13 v14) fun v17 =>
Lt (wr (v12 + 1)) fun v18 =>
rc4_7 (v17, v18, M15)) fun J32_16 =>
if v11 = 0 then (
J32_16 v5 v4 0 M9) else (
Cl (f_X8_heirOf r1 v5 M9) fun v21 M20 =>
Cl (f_X11_bitOf v21 M20) fun v23 M22 =>
J32_16 v5 v4 v23 M22))
def f_X3_bitsInHeirs (r1 : Nat) (a2 : Int) (M : Mm) : Rs :=
Lt (fun (v1 : Int) (M2 : Mm) => 
some (v1, M2)) fun J40_3 =>
Lp (f_X3_bitsInHeirs_L4_24 r1 a2 J40_3) FU (0, 0, M)
theorem cy_X3_bitsInHeirs : yX3_bitsInHeirs.cls ≠ "java/lang/invoke/MethodHandle" ∧ yX3_bitsInHeirs.cls ≠ "java/lang/invoke/VarHandle" ∧ (parseMethodDescriptor yX3_bitsInHeirs.desc).map (fun d => d.parameters.length) = some 2 := ⟨by decide +kernel, by decide +kernel, by decide +kernel⟩
set_option maxRecDepth 20000 in
theorem ok_X3_bitsInHeirs (l : Launch) (D : Dd) (base : Nat) (M : Mm) (r1 : Nat) (hr1 : isT r1) (a2 : Int) (ha2 : i32 a2) : OkI l D TC 681 base yX3_bitsInHeirs cX3_bitsInHeirs 4 (some .int) 2 42 [.ref (base + r1), .int (Ii a2)] M i32 (f_X3_bitsInHeirs r1 a2 M) := by
  refine metI (by decide +kernel) [(0, .ref (base + r1)), (1, .int (Ii a2))] rfl (Nat.le_of_ble_eq_true rfl) (fun p e s m args below meth c X hrt hlk => ?_)
  have X : Cx p s m args c cX3_bitsInHeirs D 4 RX3 := X
  unfold f_X3_bitsInHeirs
  refine go_iconst (v := 0) X dX3_bitsInHeirs_0 rfl ?_
  refine go_istore_n (i := 2) (L' := [(2, .int (Ii 0)), (0, .ref (base + r1)), (1, .int (Ii a2))]) X dX3_bitsInHeirs_1 rfl (by decide) rfl ?_
  refine go_iconst (v := 0) X dX3_bitsInHeirs_2 rfl ?_
  refine go_istore_n (i := 3) (L' := [(3, .int (Ii 0)), (2, .int (Ii 0)), (0, .ref (base + r1)), (1, .int (Ii a2))]) X dX3_bitsInHeirs_3 rfl (by decide) rfl ?_
  refine go_lt (fun J => ∀ (v1 : Int) (M2 : Mm), i32 v1 → Go p l e (rmO 2 42) s m args below meth c D TC 681 base 4 0 0 (FinI D TC 681 base below args s i32) M2 40 [(2, .int (Ii v1))] [] (J v1 M2)) (by
      intro v1 M2 hv1
      refine go_iload_n X dX3_bitsInHeirs_40 rfl 0 rfl ?_
      exact go_ireturn X hrt hlk dX3_bitsInHeirs_41 hv1
      )
      (fun J40_3 hJ40_3 => ?_)
  refine go_sub [2, 3, 1, 0] rfl ?_
  exact go_lp (fun (rc : Int × Int × Mm → Rs) => ∀ (v4 : Int) (v5 : Int) (M6 : Mm), i32 v4 → i32 v5 → Go p l e (rmO 2 42) s m args below meth c D TC 681 base 4 0 0 (FinI D TC 681 base below args s i32) M6 4 [(0, .ref (base + r1)), (1, .int (Ii a2)), (2, .int (Ii v4)), (3, .int (Ii v5))] [] (rc (v4, v5, M6)))
      (by intro v4 v5 M6 hv4 hv5; exact go_none)
      (by
      intro rc4_7 hrc4_7 v4 v5 M6 hv4 hv5
      unfold f_X3_bitsInHeirs_L4_24
      dsimp only
      refine go_iload_n X dX3_bitsInHeirs_4 rfl 3 rfl ?_
      refine go_bipush (v := 30) X dX3_bitsInHeirs_5 (by decide) ?_
      refine go_icmp_ge (tgt := 40) X dX3_bitsInHeirs_7 rfl hv5 kI_30 (fun c8 => ?_) (fun c8 => ?_)
      · refine go_sub [2] rfl ?_
        exact hJ40_3 v4 M6 hv4
      · refine go_iload_n X dX3_bitsInHeirs_10 rfl 2 rfl ?_
        refine go_iload_n X dX3_bitsInHeirs_11 rfl 1 rfl ?_
        refine go_iload_n X dX3_bitsInHeirs_12 rfl 3 rfl ?_
        refine goI (fun H locs ls r ho hW hL => runSN X (ok_X11_bitOf l D base M6 v5 hv5 H.size r ho) dX3_bitsInHeirs_13 nl30 lw220 lw19 ⟨lw167, cy_X11_bitOf, Nat.le_of_ble_eq_true rfl, Nat.le_of_ble_eq_true rfl⟩ rfl rfl (Nat.le_of_ble_eq_true rfl) hW hL hk0) (fun v10 M9 hv10 => ?_)
        refine go_iand X dX3_bitsInHeirs_16 ha2 hv10 (fun v11 hv11 => ?_)
        refine go_lt (fun J => ∀ (v12 : Int) (v13 : Int) (v14 : Int) (M15 : Mm), i32 v12 → i32 v13 → i32 v14 → Go p l e (rmO 2 42) s m args below meth c D TC 681 base 4 0 0 (FinI D TC 681 base below args s i32) M15 32 [(0, .ref (base + r1)), (1, .int (Ii a2)), (3, .int (Ii v12))] [.int (Ii v14), .int (Ii v13)] (J v12 v13 v14 M15)) (by
            intro v12 v13 v14 M15 hv12 hv13 hv14
            refine go_ior X dX3_bitsInHeirs_32 hv13 hv14 (fun v17 hv17 => ?_)
            refine go_istore_n (i := 2) (L' := [(2, .int (Ii v17)), (0, .ref (base + r1)), (1, .int (Ii a2)), (3, .int (Ii v12))]) X dX3_bitsInHeirs_33 rfl (by decide) rfl ?_
            refine go_iinc (i := 3) (L' := fun v => [(3, .int (Ii v)), (2, .int (Ii v17)), (0, .ref (base + r1)), (1, .int (Ii a2))]) X dX3_bitsInHeirs_34 hv12 kI_1 (j := 3) rfl (by decide) (fun _ => rfl) (fun v18 hv18 => ?_)
            refine go_goto (tgt := 4) X dX3_bitsInHeirs_37 rfl ?_
            refine go_sub [2, 3, 1, 0] rfl ?_
            exact hrc4_7 v17 v18 M15 hv17 hv18
            )
            (fun J32_16 hJ32_16 => ?_)
        refine go_if_eq (tgt := 31) X dX3_bitsInHeirs_17 rfl hv11 (fun c19 => ?_) (fun c19 => ?_)
        · refine go_iconst (v := 0) X dX3_bitsInHeirs_31 rfl ?_
          refine go_sub [0, 1, 3] rfl ?_
          exact hJ32_16 v5 v4 0 M9 hv5 hv4 kI_0
        · refine go_aload_n X dX3_bitsInHeirs_20 rfl 0 rfl ?_
          refine go_iload_n X dX3_bitsInHeirs_21 rfl 3 rfl ?_
          refine goI (fun H locs ls r ho hW hL => runV X (ok_X8_heirOf l D base M9 r1 hr1 v5 hv5 H.size r ho) dX3_bitsInHeirs_22 lw379 lw380 lw381 lw189 ⟨lw373, cy_X8_heirOf, Nat.le_of_ble_eq_true rfl, Nat.le_of_ble_eq_true rfl⟩ rfl (nT hr1) (tT hr1) rfl rfl rfl rfl (Nat.le_of_ble_eq_true rfl) hW hL hk0) (fun v21 M20 hv21 => ?_)
          refine goI (fun H locs ls r ho hW hL => runSN X (ok_X11_bitOf l D base M20 v21 hv21 H.size r ho) dX3_bitsInHeirs_25 nl30 lw220 lw19 ⟨lw167, cy_X11_bitOf, Nat.le_of_ble_eq_true rfl, Nat.le_of_ble_eq_true rfl⟩ rfl rfl (Nat.le_of_ble_eq_true rfl) hW hL hk0) (fun v23 M22 hv23 => ?_)
          refine go_goto (tgt := 32) X dX3_bitsInHeirs_28 rfl ?_
          refine go_sub [0, 1, 3] rfl ?_
          exact hJ32_16 v5 v4 v23 M22 hv5 hv4 hv23
      )
      FU 0 0 M kI_0 kI_0
def f_X11_copyRow_L2_11 (r1 : Nat) (r2 : Nat) (J26_2 : Mm → Rs) (rc2_5 : Int × Mm → Rs) : Int × Mm → Rs := fun (v3, M4) =>
if (((alenC r1 : Nat) : Int)) ≤ v3 then (
J26_2 M4) else (
if (((alenC r2 : Nat) : Int)) ≤ v3 then (
J26_2 M4) else (
gd (0 ≤ v3 ∧ v3 < ((alenC r1 : Nat) : Int)) <|
Lt (M4 r1 v3.toNat) fun v8 =>
gd (0 ≤ v3 ∧ v3 < ((alenC r2 : Nat) : Int)) <|
Lt (up M4 r2 v3.toNat v8) fun M9 =>
Lt (wr (v3 + 1)) fun v10 =>
rc2_5 (v10, M9)))
def f_X11_copyRow (r1 : Nat) (r2 : Nat) (M : Mm) : Rs :=
Lt (fun (M1 : Mm) => 
some (0, M1)) fun J26_2 =>
Lp (f_X11_copyRow_L2_11 r1 r2 J26_2) FU (0, M)
theorem cy_X11_copyRow : yX11_copyRow.cls ≠ "java/lang/invoke/MethodHandle" ∧ yX11_copyRow.cls ≠ "java/lang/invoke/VarHandle" ∧ (parseMethodDescriptor yX11_copyRow.desc).map (fun d => d.parameters.length) = some 2 := ⟨by decide +kernel, by decide +kernel, by decide +kernel⟩
set_option maxRecDepth 20000 in
theorem ok_X11_copyRow (l : Launch) (D : Dd) (base : Nat) (M : Mm) (r1 : Nat) (hr1 : isAC r1) (r2 : Nat) (hr2 : isAC r2) : OkV l D TC 681 base yX11_copyRow cX11_copyRow 3 none 0 0 [.ref (base + r1), .ref (base + r2)] M (f_X11_copyRow r1 r2 M) := by
  refine metV (by decide +kernel) [(0, .ref (base + r1)), (1, .ref (base + r2))] rfl (Nat.le_of_ble_eq_true rfl) (fun p e s m args below meth c X hrt hlk => ?_)
  have X : Cx p s m args c cX11_copyRow D 3 RX11 := X
  unfold f_X11_copyRow
  refine go_iconst (v := 0) X dX11_copyRow_0 rfl ?_
  refine go_istore_n (i := 2) (L' := [(2, .int (Ii 0)), (0, .ref (base + r1)), (1, .ref (base + r2))]) X dX11_copyRow_1 rfl (by decide) rfl ?_
  refine go_lt (fun J => ∀ (M1 : Mm), Go p l e (rmO 0 0) s m args below meth c D TC 681 base 3 0 0 (FinV D TC 681 base below args s) M1 26 [] [] (J M1)) (by
      intro M1
      exact go_vreturn X hrt hlk dX11_copyRow_26
      )
      (fun J26_2 hJ26_2 => ?_)
  refine go_sub [1, 2, 0] rfl ?_
  exact go_lp (fun (rc : Int × Mm → Rs) => ∀ (v3 : Int) (M4 : Mm), i32 v3 → Go p l e (rmO 0 0) s m args below meth c D TC 681 base 3 0 0 (FinV D TC 681 base below args s) M4 2 [(0, .ref (base + r1)), (1, .ref (base + r2)), (2, .int (Ii v3))] [] (rc (v3, M4)))
      (by intro v3 M4 hv3; exact go_none)
      (by
      intro rc2_5 hrc2_5 v3 M4 hv3
      unfold f_X11_copyRow_L2_11
      dsimp only
      refine go_iload_n X dX11_copyRow_2 rfl 2 rfl ?_
      refine go_aload_n X dX11_copyRow_3 rfl 0 rfl ?_
      refine go_alen X dX11_copyRow_4 hr1.1 hr1.2 (by decide) ?_
      refine go_icmp_ge (tgt := 26) X dX11_copyRow_5 rfl hv3 (i32_alenC _) (fun c6 => ?_) (fun c6 => ?_)
      · refine go_sub [] rfl ?_
        exact hJ26_2 M4
      · refine go_iload_n X dX11_copyRow_8 rfl 2 rfl ?_
        refine go_aload_n X dX11_copyRow_9 rfl 1 rfl ?_
        refine go_alen X dX11_copyRow_10 hr2.1 hr2.2 (by decide) ?_
        refine go_icmp_ge (tgt := 26) X dX11_copyRow_11 rfl hv3 (i32_alenC _) (fun c7 => ?_) (fun c7 => ?_)
        · refine go_sub [] rfl ?_
          exact hJ26_2 M4
        · refine go_aload_n X dX11_copyRow_14 rfl 1 rfl ?_
          refine go_iload_n X dX11_copyRow_15 rfl 2 rfl ?_
          refine go_aload_n X dX11_copyRow_16 rfl 0 rfl ?_
          refine go_iload_n X dX11_copyRow_17 rfl 2 rfl ?_
          refine go_iaload X dX11_copyRow_18 hr1.1 hr1.2 hv3 (fun v8 hv8 => ?_)
          refine go_iastore X dX11_copyRow_19 hr2.1 hr2.2 hv3 hv8 (fun M9 => ?_)
          refine go_iinc (i := 2) (L' := fun v => [(2, .int (Ii v)), (0, .ref (base + r1)), (1, .ref (base + r2))]) X dX11_copyRow_20 hv3 kI_1 (j := 2) rfl (by decide) (fun _ => rfl) (fun v10 hv10 => ?_)
          refine go_goto (tgt := 2) X dX11_copyRow_23 rfl ?_
          refine go_sub [1, 2, 0] rfl ?_
          exact hrc2_5 v10 M9 hv10
      )
      FU 0 M kI_0
def f_X3_follow_L10_34 (h : Nat) (r1 : Nat) (J91_3 : Mm → Rs) (rc10_8 : Int × Mm → Rs) : Int × Mm → Rs := fun (v6, M7) =>
if 180 ≤ v6 then (
J91_3 M7) else (
Lt (wr (Int.tdiv v6 6)) fun v10 =>
Cl (f_X8_heirOf r1 v10 M7) fun v12 M11 =>
Cl (f_X3_has h v6 M11) fun v14 M13 =>
Lt (fun (v15 : Int) (M16 : Mm) => 
Lt (wr (v15 + 1)) fun v18 =>
rc10_8 (v18, M16)) fun J85_17 =>
if v14 = 0 then (
J85_17 v6 M13) else (
if v12 = ((-1)) then (
J85_17 v6 M13) else (
Lt (jrem v6 6) fun v21 =>
Cl (f_X11_slotOf v12 v21 M13) fun v23 M22 =>
Cl (f_X3_valueOf h v6 M22) fun v25 M24 =>
Cl (f_X3_valueInHeirs r1 v25 M24) fun v27 M26 =>
Cl (f_X11_setEntry (h + 3) v23 v27 M26) fun _ M28 =>
Cl (f_X3_hangsOf h v6 M28) fun v30 M29 =>
Cl (f_X3_bitsInHeirs r1 v30 M29) fun v32 M31 =>
Cl (f_X11_setEntry (h + 4) v23 v32 M31) fun _ M33 =>
J85_17 v6 M33)))
def f_X3_follow (h : Nat) (r1 : Nat) (M : Mm) : Rs :=
Cl (f_X11_fillRow (h + 4) 0 M) fun _ M1 =>
Lt (fun (M2 : Mm) => 
Cl (f_X11_copyRow (h + 3) (h + 1) M2) fun _ M4 =>
Cl (f_X11_copyRow (h + 4) (h + 2) M4) fun _ M5 =>
some (0, M5)) fun J91_3 =>
Lp (f_X3_follow_L10_34 h r1 J91_3) FU (0, M1)
theorem cy_X3_follow : yX3_follow.cls ≠ "java/lang/invoke/MethodHandle" ∧ yX3_follow.cls ≠ "java/lang/invoke/VarHandle" ∧ (parseMethodDescriptor yX3_follow.desc).map (fun d => d.parameters.length) = some 1 := ⟨by decide +kernel, by decide +kernel, by decide +kernel⟩
set_option maxRecDepth 20000 in
theorem ok_X3_follow (l : Launch) (D : Dd) (base : Nat) (M : Mm) (h : Nat) (hh : isF h) (r1 : Nat) (hr1 : isT r1) : OkV l D TC 681 base yX3_follow cX3_follow 5 none 3 65 [.ref (base + h), .ref (base + r1)] M (f_X3_follow h r1 M) := by
  refine metV (by decide +kernel) [(0, .ref (base + h)), (1, .ref (base + r1))] rfl (Nat.le_of_ble_eq_true rfl) (fun p e s m args below meth c X hrt hlk => ?_)
  have X : Cx p s m args c cX3_follow D 5 RX3 := X
  unfold f_X3_follow
  refine go_aload_n X dX3_follow_0 rfl 0 rfl ?_
  refine go_getc (i := 4) X fc3 dX3_follow_1 (nF hh) (tF hh) (Nat.le_of_ble_eq_true rfl) rfl lw369 rfl ?_
  refine go_iconst (v := 0) X dX3_follow_4 rfl ?_
  refine goV (fun H locs ls r ho hW hL => runSN X (ok_X11_fillRow l D base M (h + 4) (isAFa4 hh) 0 kI_0 H.size r ho) dX3_follow_5 nl16 lw93 lw19 ⟨lw66, cy_X11_fillRow, Nat.le_of_ble_eq_true rfl, Nat.le_of_ble_eq_true rfl⟩ rfl rfl (Nat.le_of_ble_eq_true rfl) hW hL hk0) (fun _ M1 => ?_)
  refine go_iconst (v := 0) X dX3_follow_8 rfl ?_
  refine go_istore_n (i := 2) (L' := [(2, .int (Ii 0)), (0, .ref (base + h)), (1, .ref (base + r1))]) X dX3_follow_9 rfl (by decide) rfl ?_
  refine go_lt (fun J => ∀ (M2 : Mm), Go p l e (rmO 3 65) s m args below meth c D TC 681 base 5 0 0 (FinV D TC 681 base below args s) M2 91 [(0, .ref (base + h))] [] (J M2)) (by
      intro M2
      refine go_aload_n X dX3_follow_91 rfl 0 rfl ?_
      refine go_getc (i := 3) X fc3 dX3_follow_92 (nF hh) (tF hh) (Nat.le_of_ble_eq_true rfl) rfl lw368 rfl ?_
      refine go_aload_n X dX3_follow_95 rfl 0 rfl ?_
      refine go_getc (i := 1) X fc3 dX3_follow_96 (nF hh) (tF hh) (Nat.le_of_ble_eq_true rfl) rfl lw163 rfl ?_
      refine goV (fun H locs ls r ho hW hL => runSN X (ok_X11_copyRow l D base M2 (h + 3) (isAFa3 hh) (h + 1) (isAFa1 hh) H.size r ho) dX3_follow_99 nl31 lw34 lw19 ⟨lw28, cy_X11_copyRow, Nat.le_of_ble_eq_true rfl, Nat.le_of_ble_eq_true rfl⟩ rfl rfl (Nat.le_of_ble_eq_true rfl) hW hL hk0) (fun _ M4 => ?_)
      refine go_aload_n X dX3_follow_102 rfl 0 rfl ?_
      refine go_getc (i := 4) X fc3 dX3_follow_103 (nF hh) (tF hh) (Nat.le_of_ble_eq_true rfl) rfl lw369 rfl ?_
      refine go_aload_n X dX3_follow_106 rfl 0 rfl ?_
      refine go_getc (i := 2) X fc3 dX3_follow_107 (nF hh) (tF hh) (Nat.le_of_ble_eq_true rfl) rfl lw161 rfl ?_
      refine goV (fun H locs ls r ho hW hL => runSN X (ok_X11_copyRow l D base M4 (h + 4) (isAFa4 hh) (h + 2) (isAFa2 hh) H.size r ho) dX3_follow_110 nl31 lw34 lw19 ⟨lw28, cy_X11_copyRow, Nat.le_of_ble_eq_true rfl, Nat.le_of_ble_eq_true rfl⟩ rfl rfl (Nat.le_of_ble_eq_true rfl) hW hL hk0) (fun _ M5 => ?_)
      exact go_vreturn X hrt hlk dX3_follow_113
      )
      (fun J91_3 hJ91_3 => ?_)
  refine go_sub [1, 2, 0] rfl ?_
  exact go_lp (fun (rc : Int × Mm → Rs) => ∀ (v6 : Int) (M7 : Mm), i32 v6 → Go p l e (rmO 3 65) s m args below meth c D TC 681 base 5 0 0 (FinV D TC 681 base below args s) M7 10 [(0, .ref (base + h)), (1, .ref (base + r1)), (2, .int (Ii v6))] [] (rc (v6, M7)))
      (by intro v6 M7 hv6; exact go_none)
      (by
      intro rc10_8 hrc10_8 v6 M7 hv6
      unfold f_X3_follow_L10_34
      dsimp only
      refine go_iload_n X dX3_follow_10 rfl 2 rfl ?_
      refine go_sipush (v := 180) X dX3_follow_11 (by decide) ?_
      refine go_icmp_ge (tgt := 91) X dX3_follow_14 rfl hv6 kI_180 (fun c9 => ?_) (fun c9 => ?_)
      · refine go_sub [0] rfl ?_
        exact hJ91_3 M7
      · refine go_aload_n X dX3_follow_17 rfl 1 rfl ?_
        refine go_iload_n X dX3_follow_18 rfl 2 rfl ?_
        refine go_bipush (v := 6) X dX3_follow_19 (by decide) ?_
        refine go_idiv X dX3_follow_21 hv6 kI_6 (by decide) (fun v10 hv10 => ?_)
        refine goI (fun H locs ls r ho hW hL => runV X (ok_X8_heirOf l D base M7 r1 hr1 v10 hv10 H.size r ho) dX3_follow_22 lw379 lw380 lw381 lw189 ⟨lw373, cy_X8_heirOf, Nat.le_of_ble_eq_true rfl, Nat.le_of_ble_eq_true rfl⟩ rfl (nT hr1) (tT hr1) rfl rfl rfl rfl (Nat.le_of_ble_eq_true rfl) hW hL hk0) (fun v12 M11 hv12 => ?_)
        refine go_istore_n (i := 3) (L' := [(3, .int (Ii v12)), (0, .ref (base + h)), (1, .ref (base + r1)), (2, .int (Ii v6))]) X dX3_follow_25 rfl (by decide) rfl ?_
        refine go_aload_n X dX3_follow_26 rfl 1 rfl ?_
        refine go_iload_n X dX3_follow_27 rfl 3 rfl ?_
        refine goI (fun H locs ls r ho hW hL => runV X (ok_X3_has l D base M11 h hh v6 hv6 H.size r ho) dX3_follow_28 lw383 lw257 lw258 lw245 ⟨lw160, cy_X3_has, Nat.le_of_ble_eq_true rfl, Nat.le_of_ble_eq_true rfl⟩ rfl (nF hh) (tF hh) rfl rfl rfl rfl (Nat.le_of_ble_eq_true rfl) hW hL hk0) (fun v14 M13 hv14 => ?_)
        refine go_lt (fun J => ∀ (v15 : Int) (M16 : Mm), i32 v15 → Go p l e (rmO 3 65) s m args below meth c D TC 681 base 5 0 0 (FinV D TC 681 base below args s) M16 85 [(0, .ref (base + h)), (1, .ref (base + r1)), (2, .int (Ii v15))] [] (J v15 M16)) (by
            intro v15 M16 hv15
            refine go_iinc (i := 2) (L' := fun v => [(2, .int (Ii v)), (0, .ref (base + h)), (1, .ref (base + r1))]) X dX3_follow_85 hv15 kI_1 (j := 2) rfl (by decide) (fun _ => rfl) (fun v18 hv18 => ?_)
            refine go_goto (tgt := 10) X dX3_follow_88 rfl ?_
            refine go_sub [1, 2, 0] rfl ?_
            exact hrc10_8 v18 M16 hv18
            )
            (fun J85_17 hJ85_17 => ?_)
        refine go_if_eq (tgt := 85) X dX3_follow_31 rfl (bo_i32 hv14) (fun c19 => ?_) (fun c19 => ?_)
        · refine go_sub [1, 2, 3] rfl ?_
          exact hJ85_17 v6 M13 hv6
        · refine go_iload_n X dX3_follow_34 rfl 0 rfl ?_
          refine go_iconst (v := (-1)) X dX3_follow_35 rfl ?_
          refine go_icmp_eq (tgt := 85) X dX3_follow_36 rfl hv12 kI_m1 (fun c20 => ?_) (fun c20 => ?_)
          · refine go_sub [1, 2, 3] rfl ?_
            exact hJ85_17 v6 M13 hv6
          · refine go_iload_n X dX3_follow_39 rfl 0 rfl ?_
            refine go_iload_n X dX3_follow_40 rfl 3 rfl ?_
            refine go_bipush (v := 6) X dX3_follow_41 (by decide) ?_
            refine go_irem X dX3_follow_43 hv6 kI_6 (by decide) (fun v21 hv21 => ?_)
            refine goI (fun H locs ls r ho hW hL => runSN X (ok_X11_slotOf l D base M13 v12 hv12 v21 hv21 H.size r ho) dX3_follow_44 nl29 lw241 lw19 ⟨lw159, cy_X11_slotOf, Nat.le_of_ble_eq_true rfl, Nat.le_of_ble_eq_true rfl⟩ rfl rfl (Nat.le_of_ble_eq_true rfl) hW hL hk0) (fun v23 M22 hv23 => ?_)
            refine go_istore (i := 4) (L' := [(4, .int (Ii v23)), (3, .int (Ii v12)), (0, .ref (base + h)), (1, .ref (base + r1)), (2, .int (Ii v6))]) X dX3_follow_47 (by decide) rfl ?_
            refine go_aload_n X dX3_follow_49 rfl 2 rfl ?_
            refine go_getc (i := 3) X fc3 dX3_follow_50 (nF hh) (tF hh) (Nat.le_of_ble_eq_true rfl) rfl lw368 rfl ?_
            refine go_iload X dX3_follow_53 0 rfl ?_
            refine go_aload_n X dX3_follow_55 rfl 3 rfl ?_
            refine go_aload_n X dX3_follow_56 rfl 2 rfl ?_
            refine go_iload_n X dX3_follow_57 rfl 4 rfl ?_
            refine goI (fun H locs ls r ho hW hL => runV X (ok_X3_valueOf l D base M22 h hh v6 hv6 H.size r ho) dX3_follow_58 lw384 lw263 lw264 lw245 ⟨lw162, cy_X3_valueOf, Nat.le_of_ble_eq_true rfl, Nat.le_of_ble_eq_true rfl⟩ rfl (nF hh) (tF hh) rfl rfl rfl rfl (Nat.le_of_ble_eq_true rfl) hW hL hk0) (fun v25 M24 hv25 => ?_)
            refine goI (fun H locs ls r ho hW hL => runS X (ok_X3_valueInHeirs l D base M24 r1 hr1 v25 hv25 H.size r ho) dX3_follow_61 lw385 lw386 lw245 ⟨lw378, cy_X3_valueInHeirs, Nat.le_of_ble_eq_true rfl, Nat.le_of_ble_eq_true rfl⟩ rfl rfl (Nat.le_of_ble_eq_true rfl) hW hL hk0) (fun v27 M26 hv27 => ?_)
            refine goV (fun H locs ls r ho hW hL => runSN X (ok_X11_setEntry l D base M26 (h + 3) (isAFa3 hh) v23 hv23 v27 hv27 H.size r ho) dX3_follow_64 nl28 lw21 lw19 ⟨lw14, cy_X11_setEntry, Nat.le_of_ble_eq_true rfl, Nat.le_of_ble_eq_true rfl⟩ rfl rfl (Nat.le_of_ble_eq_true rfl) hW hL hk0) (fun _ M28 => ?_)
            refine go_aload_n X dX3_follow_67 rfl 2 rfl ?_
            refine go_getc (i := 4) X fc3 dX3_follow_68 (nF hh) (tF hh) (Nat.le_of_ble_eq_true rfl) rfl lw369 rfl ?_
            refine go_iload X dX3_follow_71 0 rfl ?_
            refine go_aload_n X dX3_follow_73 rfl 3 rfl ?_
            refine go_aload_n X dX3_follow_74 rfl 2 rfl ?_
            refine go_iload_n X dX3_follow_75 rfl 4 rfl ?_
            refine goI (fun H locs ls r ho hW hL => runV X (ok_X3_hangsOf l D base M28 h hh v6 hv6 H.size r ho) dX3_follow_76 lw387 lw260 lw261 lw245 ⟨lw249, cy_X3_hangsOf, Nat.le_of_ble_eq_true rfl, Nat.le_of_ble_eq_true rfl⟩ rfl (nF hh) (tF hh) rfl rfl rfl rfl (Nat.le_of_ble_eq_true rfl) hW hL hk0) (fun v30 M29 hv30 => ?_)
            refine goI (fun H locs ls r ho hW hL => runS X (ok_X3_bitsInHeirs l D base M29 r1 hr1 v30 hv30 H.size r ho) dX3_follow_79 lw388 lw389 lw245 ⟨lw382, cy_X3_bitsInHeirs, Nat.le_of_ble_eq_true rfl, Nat.le_of_ble_eq_true rfl⟩ rfl rfl (Nat.le_of_ble_eq_true rfl) hW hL hk0) (fun v32 M31 hv32 => ?_)
            refine goV (fun H locs ls r ho hW hL => runSN X (ok_X11_setEntry l D base M31 (h + 4) (isAFa4 hh) v23 hv23 v32 hv32 H.size r ho) dX3_follow_82 nl28 lw21 lw19 ⟨lw14, cy_X11_setEntry, Nat.le_of_ble_eq_true rfl, Nat.le_of_ble_eq_true rfl⟩ rfl rfl (Nat.le_of_ble_eq_true rfl) hW hL hk0) (fun _ M33 => ?_)
            refine go_sub [2, 3, 4] rfl ?_
            exact hJ85_17 v6 M33 hv6
      )
      FU 0 M1 kI_0
def f_X8_take (h : Nat) (r1 : Nat) (M : Mm) : Rs :=
Lt (M r1 0) fun v1 =>
Lt (up M h 0 v1) fun M2 =>
Lt (M2 r1 1) fun v3 =>
Lt (up M2 h 1 v3) fun M4 =>
Cl (f_X11_copyRow (r1 + 1) (h + 1) M4) fun _ M5 =>
Cl (f_X11_copyRow (r1 + 2) (h + 2) M5) fun _ M6 =>
Cl (f_X11_copyRow (r1 + 3) (h + 3) M6) fun _ M7 =>
Cl (f_X11_copyRow (r1 + 4) (h + 4) M7) fun _ M8 =>
Cl (f_X11_copyRow (r1 + 5) (h + 5) M8) fun _ M9 =>
Cl (f_X11_copyRow (r1 + 6) (h + 6) M9) fun _ M10 =>
some (0, M10)
theorem cy_X8_take : yX8_take.cls ≠ "java/lang/invoke/MethodHandle" ∧ yX8_take.cls ≠ "java/lang/invoke/VarHandle" ∧ (parseMethodDescriptor yX8_take.desc).map (fun d => d.parameters.length) = some 1 := ⟨by decide +kernel, by decide +kernel, by decide +kernel⟩
set_option maxRecDepth 20000 in
theorem ok_X8_take (l : Launch) (D : Dd) (base : Nat) (M : Mm) (h : Nat) (hh : isT h) (r1 : Nat) (hr1 : isT r1) : OkV l D TC 681 base yX8_take cX8_take 2 none 1 22 [.ref (base + h), .ref (base + r1)] M (f_X8_take h r1 M) := by
  refine metV (by decide +kernel) [(0, .ref (base + h)), (1, .ref (base + r1))] rfl (Nat.le_of_ble_eq_true rfl) (fun p e s m args below meth c X hrt hlk => ?_)
  have X : Cx p s m args c cX8_take D 2 RX8 := X
  unfold f_X8_take
  refine go_aload_n X dX8_take_0 rfl 0 rfl ?_
  refine go_aload_n X dX8_take_1 rfl 1 rfl ?_
  refine go_geti (i := 0) X fc8 dX8_take_2 (nT hr1) (tT hr1) (Nat.le_of_ble_eq_true rfl) rfl lw270 rfl (fun v1 hv1 => ?_)
  refine go_puti (i := 0) X fc8 dX8_take_5 (nT hh) (tT hh) (Nat.le_of_ble_eq_true rfl) rfl lw270 rfl rfl rfl hv1 (fun M2 => ?_)
  refine go_aload_n X dX8_take_8 rfl 0 rfl ?_
  refine go_aload_n X dX8_take_9 rfl 1 rfl ?_
  refine go_geti (i := 1) X fc8 dX8_take_10 (nT hr1) (tT hr1) (Nat.le_of_ble_eq_true rfl) rfl lw531 rfl (fun v3 hv3 => ?_)
  refine go_puti (i := 1) X fc8 dX8_take_13 (nT hh) (tT hh) (Nat.le_of_ble_eq_true rfl) rfl lw531 rfl rfl rfl hv3 (fun M4 => ?_)
  refine go_aload_n X dX8_take_16 rfl 1 rfl ?_
  refine go_getc (i := 2) X fc8 dX8_take_17 (nT hr1) (tT hr1) (Nat.le_of_ble_eq_true rfl) rfl lw199 rfl ?_
  refine go_aload_n X dX8_take_20 rfl 0 rfl ?_
  refine go_getc (i := 2) X fc8 dX8_take_21 (nT hh) (tT hh) (Nat.le_of_ble_eq_true rfl) rfl lw199 rfl ?_
  refine goV (fun H locs ls r ho hW hL => runSN X (ok_X11_copyRow l D base M4 (r1 + 1) (isATa1 hr1) (h + 1) (isATa1 hh) H.size r ho) dX8_take_24 nl32 lw34 lw19 ⟨lw28, cy_X11_copyRow, Nat.le_of_ble_eq_true rfl, Nat.le_of_ble_eq_true rfl⟩ rfl rfl (Nat.le_of_ble_eq_true rfl) hW hL hk0) (fun _ M5 => ?_)
  refine go_aload_n X dX8_take_27 rfl 1 rfl ?_
  refine go_getc (i := 3) X fc8 dX8_take_28 (nT hr1) (tT hr1) (Nat.le_of_ble_eq_true rfl) rfl lw201 rfl ?_
  refine go_aload_n X dX8_take_31 rfl 0 rfl ?_
  refine go_getc (i := 3) X fc8 dX8_take_32 (nT hh) (tT hh) (Nat.le_of_ble_eq_true rfl) rfl lw201 rfl ?_
  refine goV (fun H locs ls r ho hW hL => runSN X (ok_X11_copyRow l D base M5 (r1 + 2) (isATa2 hr1) (h + 2) (isATa2 hh) H.size r ho) dX8_take_35 nl32 lw34 lw19 ⟨lw28, cy_X11_copyRow, Nat.le_of_ble_eq_true rfl, Nat.le_of_ble_eq_true rfl⟩ rfl rfl (Nat.le_of_ble_eq_true rfl) hW hL hk0) (fun _ M6 => ?_)
  refine go_aload_n X dX8_take_38 rfl 1 rfl ?_
  refine go_getc (i := 4) X fc8 dX8_take_39 (nT hr1) (tT hr1) (Nat.le_of_ble_eq_true rfl) rfl lw278 rfl ?_
  refine go_aload_n X dX8_take_42 rfl 0 rfl ?_
  refine go_getc (i := 4) X fc8 dX8_take_43 (nT hh) (tT hh) (Nat.le_of_ble_eq_true rfl) rfl lw278 rfl ?_
  refine goV (fun H locs ls r ho hW hL => runSN X (ok_X11_copyRow l D base M6 (r1 + 3) (isATa3 hr1) (h + 3) (isATa3 hh) H.size r ho) dX8_take_46 nl32 lw34 lw19 ⟨lw28, cy_X11_copyRow, Nat.le_of_ble_eq_true rfl, Nat.le_of_ble_eq_true rfl⟩ rfl rfl (Nat.le_of_ble_eq_true rfl) hW hL hk0) (fun _ M7 => ?_)
  refine go_aload_n X dX8_take_49 rfl 1 rfl ?_
  refine go_getc (i := 5) X fc8 dX8_take_50 (nT hr1) (tT hr1) (Nat.le_of_ble_eq_true rfl) rfl lw172 rfl ?_
  refine go_aload_n X dX8_take_53 rfl 0 rfl ?_
  refine go_getc (i := 5) X fc8 dX8_take_54 (nT hh) (tT hh) (Nat.le_of_ble_eq_true rfl) rfl lw172 rfl ?_
  refine goV (fun H locs ls r ho hW hL => runSN X (ok_X11_copyRow l D base M7 (r1 + 4) (isATa4 hr1) (h + 4) (isATa4 hh) H.size r ho) dX8_take_57 nl32 lw34 lw19 ⟨lw28, cy_X11_copyRow, Nat.le_of_ble_eq_true rfl, Nat.le_of_ble_eq_true rfl⟩ rfl rfl (Nat.le_of_ble_eq_true rfl) hW hL hk0) (fun _ M8 => ?_)
  refine go_aload_n X dX8_take_60 rfl 1 rfl ?_
  refine go_getc (i := 6) X fc8 dX8_take_61 (nT hr1) (tT hr1) (Nat.le_of_ble_eq_true rfl) rfl lw271 rfl ?_
  refine go_aload_n X dX8_take_64 rfl 0 rfl ?_
  refine go_getc (i := 6) X fc8 dX8_take_65 (nT hh) (tT hh) (Nat.le_of_ble_eq_true rfl) rfl lw271 rfl ?_
  refine goV (fun H locs ls r ho hW hL => runSN X (ok_X11_copyRow l D base M8 (r1 + 5) (isATa5 hr1) (h + 5) (isATa5 hh) H.size r ho) dX8_take_68 nl32 lw34 lw19 ⟨lw28, cy_X11_copyRow, Nat.le_of_ble_eq_true rfl, Nat.le_of_ble_eq_true rfl⟩ rfl rfl (Nat.le_of_ble_eq_true rfl) hW hL hk0) (fun _ M9 => ?_)
  refine go_aload_n X dX8_take_71 rfl 1 rfl ?_
  refine go_getc (i := 7) X fc8 dX8_take_72 (nT hr1) (tT hr1) (Nat.le_of_ble_eq_true rfl) rfl lw290 rfl ?_
  refine go_aload_n X dX8_take_75 rfl 0 rfl ?_
  refine go_getc (i := 7) X fc8 dX8_take_76 (nT hh) (tT hh) (Nat.le_of_ble_eq_true rfl) rfl lw290 rfl ?_
  refine goV (fun H locs ls r ho hW hL => runSN X (ok_X11_copyRow l D base M9 (r1 + 6) (isATa6 hr1) (h + 6) (isATa6 hh) H.size r ho) dX8_take_79 nl32 lw34 lw19 ⟨lw28, cy_X11_copyRow, Nat.le_of_ble_eq_true rfl, Nat.le_of_ble_eq_true rfl⟩ rfl rfl (Nat.le_of_ble_eq_true rfl) hW hL hk0) (fun _ M10 => ?_)
  exact go_vreturn X hrt hlk dX8_take_82
def f_X11_readAgain (M : Mm) : Rs :=
Cl (f_X9_readInto 291 M) fun _ M1 =>
Cl (f_X8_compare 283 291 M1) fun v3 M2 =>
Lt (M2 283 0) fun v4 =>
Lt (fun (M5 : Mm) => 
Cl (f_X8_take 283 291 M5) fun _ M7 =>
Lt (M7 283 0) fun v8 =>
Lt (wr (100 * v8)) fun v9 =>
Lt (wr (v9 + v3)) fun v10 =>
some (v10, M7)) fun J81_6 =>
Lt (fun (M11 : Mm) => 
Cl (f_X8_touched 283 M11) fun v14 M13 =>
Lt (jor v14 1073741824) fun v15 =>
Cl (f_X3_drop 299 v15 M13) fun _ M16 =>
Cl (f_X3_follow 299 283 M16) fun _ M17 =>
Cl (f_X7_forget M17) fun _ M18 =>
J81_6 M18) fun J45_12 =>
if ¬ v3 = v4 then (
J45_12 M2) else (
Lt (M2 291 0) fun v20 =>
if v3 = v20 then (
J81_6 M2) else (
J45_12 M2))
theorem cy_X11_readAgain : yX11_readAgain.cls ≠ "java/lang/invoke/MethodHandle" ∧ yX11_readAgain.cls ≠ "java/lang/invoke/VarHandle" ∧ (parseMethodDescriptor yX11_readAgain.desc).map (fun d => d.parameters.length) = some 0 := ⟨by decide +kernel, by decide +kernel, by decide +kernel⟩
set_option maxRecDepth 20000 in
theorem ok_X11_readAgain (l : Launch) (D : Dd) (base : Nat) (M : Mm) : OkI l D TC 681 base yX11_readAgain cX11_readAgain 2 (some .int) 6 151 [.ref (base + 0)] M i32 (f_X11_readAgain M) := by
  refine metI (by decide +kernel) [(0, .ref (base + 0))] rfl (Nat.le_of_ble_eq_true rfl) (fun p e s m args below meth c X hrt hlk => ?_)
  have X : Cx p s m args c cX11_readAgain D 2 RX11 := X
  unfold f_X11_readAgain
  refine go_aload_n X dX11_readAgain_0 rfl 0 rfl ?_
  refine go_getc (i := 3) X fc11 dX11_readAgain_1 tcn0 tc0 (Nat.le_of_ble_eq_true rfl) rfl lw649 rfl ?_
  refine go_aload_n X dX11_readAgain_4 rfl 0 rfl ?_
  refine go_getc (i := 5) X fc11 dX11_readAgain_5 tcn0 tc0 (Nat.le_of_ble_eq_true rfl) rfl lw653 rfl ?_
  refine goV (fun H locs ls r ho hW hL => runV X (ok_X9_readInto l D base M 291 isT_291 H.size r ho) dX11_readAgain_8 lw793 lw794 lw795 lw570 ⟨lw633, cy_X9_readInto, Nat.le_of_ble_eq_true rfl, Nat.le_of_ble_eq_true rfl⟩ rfl tcn273 tc273 rfl rfl rfl rfl (Nat.le_of_ble_eq_true rfl) hW hL hk0) (fun _ M1 => ?_)
  refine go_aload_n X dX11_readAgain_11 rfl 0 rfl ?_
  refine go_getc (i := 4) X fc11 dX11_readAgain_12 tcn0 tc0 (Nat.le_of_ble_eq_true rfl) rfl lw652 rfl ?_
  refine go_aload_n X dX11_readAgain_15 rfl 0 rfl ?_
  refine go_getc (i := 5) X fc11 dX11_readAgain_16 tcn0 tc0 (Nat.le_of_ble_eq_true rfl) rfl lw653 rfl ?_
  refine goI (fun H locs ls r ho hW hL => runV X (ok_X8_compare l D base M1 283 isT_283 291 isT_291 H.size r ho) dX11_readAgain_19 lw796 lw797 lw798 lw189 ⟨lw547, cy_X8_compare, Nat.le_of_ble_eq_true rfl, Nat.le_of_ble_eq_true rfl⟩ rfl tcn283 tc283 rfl rfl rfl rfl (Nat.le_of_ble_eq_true rfl) hW hL hk0) (fun v3 M2 hv3 => ?_)
  refine go_istore_n (i := 1) (L' := [(1, .int (Ii v3)), (0, .ref (base + 0))]) X dX11_readAgain_22 rfl (by decide) rfl ?_
  refine go_iload_n X dX11_readAgain_23 rfl 0 rfl ?_
  refine go_aload_n X dX11_readAgain_24 rfl 1 rfl ?_
  refine go_getc (i := 4) X fc11 dX11_readAgain_25 tcn0 tc0 (Nat.le_of_ble_eq_true rfl) rfl lw652 rfl ?_
  refine go_geti (i := 0) X fc8 dX11_readAgain_28 tcn283 tc283 (Nat.le_of_ble_eq_true rfl) rfl lw791 rfl (fun v4 hv4 => ?_)
  refine go_lt (fun J => ∀ (M5 : Mm), Go p l e (rmO 6 151) s m args below meth c D TC 681 base 2 0 0 (FinI D TC 681 base below args s i32) M5 81 [(0, .ref (base + 0)), (1, .int (Ii v3))] [] (J M5)) (by
      intro M5
      refine go_aload_n X dX11_readAgain_81 rfl 0 rfl ?_
      refine go_getc (i := 4) X fc11 dX11_readAgain_82 tcn0 tc0 (Nat.le_of_ble_eq_true rfl) rfl lw652 rfl ?_
      refine go_aload_n X dX11_readAgain_85 rfl 0 rfl ?_
      refine go_getc (i := 5) X fc11 dX11_readAgain_86 tcn0 tc0 (Nat.le_of_ble_eq_true rfl) rfl lw653 rfl ?_
      refine goV (fun H locs ls r ho hW hL => runV X (ok_X8_take l D base M5 283 isT_283 291 isT_291 H.size r ho) dX11_readAgain_89 lw808 lw809 lw810 lw189 ⟨lw549, cy_X8_take, Nat.le_of_ble_eq_true rfl, Nat.le_of_ble_eq_true rfl⟩ rfl tcn283 tc283 rfl rfl rfl rfl (Nat.le_of_ble_eq_true rfl) hW hL hk0) (fun _ M7 => ?_)
      refine go_bipush (v := 100) X dX11_readAgain_92 (by decide) ?_
      refine go_aload_n X dX11_readAgain_94 rfl 0 rfl ?_
      refine go_getc (i := 4) X fc11 dX11_readAgain_95 tcn0 tc0 (Nat.le_of_ble_eq_true rfl) rfl lw652 rfl ?_
      refine go_geti (i := 0) X fc8 dX11_readAgain_98 tcn283 tc283 (Nat.le_of_ble_eq_true rfl) rfl lw791 rfl (fun v8 hv8 => ?_)
      refine go_imul X dX11_readAgain_101 kI_100 hv8 (fun v9 hv9 => ?_)
      refine go_iload_n X dX11_readAgain_102 rfl 1 rfl ?_
      refine go_iadd X dX11_readAgain_103 hv9 hv3 (fun v10 hv10 => ?_)
      exact go_ireturn X hrt hlk dX11_readAgain_104 hv10
      )
      (fun J81_6 hJ81_6 => ?_)
  refine go_lt (fun J => ∀ (M11 : Mm), Go p l e (rmO 6 151) s m args below meth c D TC 681 base 2 0 0 (FinI D TC 681 base below args s i32) M11 45 [(0, .ref (base + 0)), (1, .int (Ii v3))] [] (J M11)) (by
      intro M11
      refine go_aload_n X dX11_readAgain_45 rfl 0 rfl ?_
      refine go_getc (i := 6) X fc11 dX11_readAgain_46 tcn0 tc0 (Nat.le_of_ble_eq_true rfl) rfl lw656 rfl ?_
      refine go_aload_n X dX11_readAgain_49 rfl 0 rfl ?_
      refine go_getc (i := 4) X fc11 dX11_readAgain_50 tcn0 tc0 (Nat.le_of_ble_eq_true rfl) rfl lw652 rfl ?_
      refine goI (fun H locs ls r ho hW hL => runV X (ok_X8_touched l D base M11 283 isT_283 H.size r ho) dX11_readAgain_53 lw799 lw800 lw801 lw189 ⟨lw548, cy_X8_touched, Nat.le_of_ble_eq_true rfl, Nat.le_of_ble_eq_true rfl⟩ rfl tcn283 tc283 rfl rfl rfl rfl (Nat.le_of_ble_eq_true rfl) hW hL hk0) (fun v14 M13 hv14 => ?_)
      refine go_ldcw (v := 1073741824) X dX11_readAgain_56 lw792 rfl ?_
      refine go_ior X dX11_readAgain_59 hv14 kI_1073741824 (fun v15 hv15 => ?_)
      refine goV (fun H locs ls r ho hW hL => runV X (ok_X3_drop l D base M13 299 isF_299 v15 hv15 H.size r ho) dX11_readAgain_60 lw802 lw803 lw804 lw245 ⟨lw371, cy_X3_drop, Nat.le_of_ble_eq_true rfl, Nat.le_of_ble_eq_true rfl⟩ rfl tcn299 tc299 rfl rfl rfl rfl (Nat.le_of_ble_eq_true rfl) hW hL hk0) (fun _ M16 => ?_)
      refine go_aload_n X dX11_readAgain_63 rfl 0 rfl ?_
      refine go_getc (i := 6) X fc11 dX11_readAgain_64 tcn0 tc0 (Nat.le_of_ble_eq_true rfl) rfl lw656 rfl ?_
      refine go_aload_n X dX11_readAgain_67 rfl 0 rfl ?_
      refine go_getc (i := 4) X fc11 dX11_readAgain_68 tcn0 tc0 (Nat.le_of_ble_eq_true rfl) rfl lw652 rfl ?_
      refine goV (fun H locs ls r ho hW hL => runV X (ok_X3_follow l D base M16 299 isF_299 283 isT_283 H.size r ho) dX11_readAgain_71 lw805 lw806 lw807 lw245 ⟨lw390, cy_X3_follow, Nat.le_of_ble_eq_true rfl, Nat.le_of_ble_eq_true rfl⟩ rfl tcn299 tc299 rfl rfl rfl rfl (Nat.le_of_ble_eq_true rfl) hW hL hk0) (fun _ M17 => ?_)
      refine go_aload_n X dX11_readAgain_74 rfl 0 rfl ?_
      refine go_getc (i := 9) X fc11 dX11_readAgain_75 tcn0 tc0 (Nat.le_of_ble_eq_true rfl) rfl lw663 rfl ?_
      refine goV (fun H locs ls r ho hW hL => runV X (ok_X7_forget l D base M17  H.size r ho) dX11_readAgain_78 lw688 lw689 lw690 lw522 ⟨lw510, cy_X7_forget, Nat.le_of_ble_eq_true rfl, Nat.le_of_ble_eq_true rfl⟩ rfl tcn676 tc676 rfl rfl rfl rfl (Nat.le_of_ble_eq_true rfl) hW hL hk0) (fun _ M18 => ?_)
      exact hJ81_6 M18
      )
      (fun J45_12 hJ45_12 => ?_)
  refine go_icmp_ne (tgt := 45) X dX11_readAgain_31 rfl hv3 hv4 (fun c19 => ?_) (fun c19 => ?_)
  · refine go_sub [1, 0] rfl ?_
    exact hJ45_12 M2
  · refine go_iload_n X dX11_readAgain_34 rfl 0 rfl ?_
    refine go_aload_n X dX11_readAgain_35 rfl 1 rfl ?_
    refine go_getc (i := 5) X fc11 dX11_readAgain_36 tcn0 tc0 (Nat.le_of_ble_eq_true rfl) rfl lw653 rfl ?_
    refine go_geti (i := 0) X fc8 dX11_readAgain_39 tcn291 tc291 (Nat.le_of_ble_eq_true rfl) rfl lw791 rfl (fun v20 hv20 => ?_)
    refine go_icmp_eq (tgt := 81) X dX11_readAgain_42 rfl hv3 hv20 (fun c21 => ?_) (fun c21 => ?_)
    · refine go_sub [1, 0] rfl ?_
      exact hJ81_6 M2
    · refine go_sub [1, 0] rfl ?_
      exact hJ45_12 M2
def f_X11_standsByChild (a1 : Int) (a2 : Int) (a3 : Int) (a4 : Int) (M : Mm) : Rs :=
Cl (f_X5_childCountOf a2 M) fun v2 M1 =>
Lt (fun (v3 : Int) (M4 : Mm) => 
some (v3, M4)) fun J35_5 =>
Lt (fun (M6 : Mm) => 
J35_5 1 M6) fun J30_7 =>
if v2 ≤ a3 then (
J30_7 M1) else (
Lt (fun (M9 : Mm) => 
J35_5 0 M9) fun J34_10 =>
if a4 < 0 then (
J34_10 M1) else (
Cl (f_X5_childCountOf a1 M1) fun v13 M12 =>
if v13 ≤ a4 then (
J34_10 M12) else (
J30_7 M12)))
theorem cy_X11_standsByChild : yX11_standsByChild.cls ≠ "java/lang/invoke/MethodHandle" ∧ yX11_standsByChild.cls ≠ "java/lang/invoke/VarHandle" ∧ (parseMethodDescriptor yX11_standsByChild.desc).map (fun d => d.parameters.length) = some 4 := ⟨by decide +kernel, by decide +kernel, by decide +kernel⟩
set_option maxRecDepth 20000 in
theorem ok_X11_standsByChild (l : Launch) (D : Dd) (base : Nat) (M : Mm) (a1 : Int) (ha1 : i32 a1) (a2 : Int) (ha2 : i32 a2) (a3 : Int) (ha3 : i32 a3) (a4 : Int) (ha4 : i32 a4) : OkI l D TC 681 base yX11_standsByChild cX11_standsByChild 5 (some .boolean) 1 21 [.ref (base + 0), .int (Ii a1), .int (Ii a2), .int (Ii a3), .int (Ii a4)] M bo (f_X11_standsByChild a1 a2 a3 a4 M) := by
  refine metI (by decide +kernel) [(0, .ref (base + 0)), (1, .int (Ii a1)), (2, .int (Ii a2)), (3, .int (Ii a3)), (4, .int (Ii a4))] rfl (Nat.le_of_ble_eq_true rfl) (fun p e s m args below meth c X hrt hlk => ?_)
  have X : Cx p s m args c cX11_standsByChild D 5 RX11 := X
  unfold f_X11_standsByChild
  refine go_iload_n X dX11_standsByChild_0 rfl 3 rfl ?_
  refine go_aload_n X dX11_standsByChild_1 rfl 0 rfl ?_
  refine go_getc (i := 0) X fc11 dX11_standsByChild_2 tcn0 tc0 (Nat.le_of_ble_eq_true rfl) rfl lw639 rfl ?_
  refine go_iload_n X dX11_standsByChild_5 rfl 2 rfl ?_
  refine goI (fun H locs ls r ho hW hL => runV X (ok_X5_childCountOf l D base M a2 ha2 H.size r ho) dX11_standsByChild_6 lw709 lw78 lw79 lw80 ⟨lw67, cy_X5_childCountOf, Nat.le_of_ble_eq_true rfl, Nat.le_of_ble_eq_true rfl⟩ rfl tcn1 tc1 rfl rfl rfl rfl (Nat.le_of_ble_eq_true rfl) hW hL hk0) (fun v2 M1 hv2 => ?_)
  refine go_lt (fun J => ∀ (v3 : Int) (M4 : Mm), bo v3 → Go p l e (rmO 1 21) s m args below meth c D TC 681 base 5 0 0 (FinI D TC 681 base below args s bo) M4 35 [] [.int (Ii v3)] (J v3 M4)) (by
      intro v3 M4 hv3
      exact go_zreturn X hrt hlk dX11_standsByChild_35 hv3 hv3
      )
      (fun J35_5 hJ35_5 => ?_)
  refine go_lt (fun J => ∀ (M6 : Mm), Go p l e (rmO 1 21) s m args below meth c D TC 681 base 5 0 0 (FinI D TC 681 base below args s bo) M6 30 [] [] (J M6)) (by
      intro M6
      refine go_iconst (v := 1) X dX11_standsByChild_30 rfl ?_
      refine go_goto (tgt := 35) X dX11_standsByChild_31 rfl ?_
      exact hJ35_5 1 M6 (Or.inr rfl)
      )
      (fun J30_7 hJ30_7 => ?_)
  refine go_icmp_ge (tgt := 30) X dX11_standsByChild_9 rfl ha3 hv2 (fun c8 => ?_) (fun c8 => ?_)
  · refine go_sub [] rfl ?_
    exact hJ30_7 M1
  · refine go_iload X dX11_standsByChild_12 4 rfl ?_
    refine go_lt (fun J => ∀ (M9 : Mm), Go p l e (rmO 1 21) s m args below meth c D TC 681 base 5 0 0 (FinI D TC 681 base below args s bo) M9 34 [] [] (J M9)) (by
        intro M9
        refine go_iconst (v := 0) X dX11_standsByChild_34 rfl ?_
        exact hJ35_5 0 M9 (Or.inl rfl)
        )
        (fun J34_10 hJ34_10 => ?_)
    refine go_if_lt (tgt := 34) X dX11_standsByChild_14 rfl ha4 (fun c11 => ?_) (fun c11 => ?_)
    · refine go_sub [] rfl ?_
      exact hJ34_10 M1
    · refine go_iload X dX11_standsByChild_17 4 rfl ?_
      refine go_aload_n X dX11_standsByChild_19 rfl 0 rfl ?_
      refine go_getc (i := 0) X fc11 dX11_standsByChild_20 tcn0 tc0 (Nat.le_of_ble_eq_true rfl) rfl lw639 rfl ?_
      refine go_iload_n X dX11_standsByChild_23 rfl 1 rfl ?_
      refine goI (fun H locs ls r ho hW hL => runV X (ok_X5_childCountOf l D base M1 a1 ha1 H.size r ho) dX11_standsByChild_24 lw709 lw78 lw79 lw80 ⟨lw67, cy_X5_childCountOf, Nat.le_of_ble_eq_true rfl, Nat.le_of_ble_eq_true rfl⟩ rfl tcn1 tc1 rfl rfl rfl rfl (Nat.le_of_ble_eq_true rfl) hW hL hk0) (fun v13 M12 hv13 => ?_)
      refine go_icmp_ge (tgt := 34) X dX11_standsByChild_27 rfl ha4 hv13 (fun c14 => ?_) (fun c14 => ?_)
      · refine go_sub [] rfl ?_
        exact hJ34_10 M12
      · refine go_sub [] rfl ?_
        exact hJ30_7 M12
def f_X11_standsRightly (a1 : Int) (a2 : Int) (a3 : Int) (a4 : Int) (M : Mm) : Rs :=
Cl (f_X5_childCountOf a2 M) fun v2 M1 =>
if a3 < v2 then (
Cl (f_X5_childHeadOf a1 a4 M1) fun v5 M4 =>
Cl (f_X5_childHeadOf a2 a3 M4) fun v7 M6 =>
Lt (fun (v8 : Int) (M9 : Mm) => 
some (v8, M9)) fun J50_10 =>
if ¬ v5 = v7 then (
J50_10 0 M6) else (
J50_10 1 M6)) else (
Lt (fun (v12 : Int) (M13 : Mm) => 
some (v12, M13)) fun J22_14 =>
if ¬ a4 = 0 then (
J22_14 0 M1) else (
J22_14 1 M1))
theorem cy_X11_standsRightly : yX11_standsRightly.cls ≠ "java/lang/invoke/MethodHandle" ∧ yX11_standsRightly.cls ≠ "java/lang/invoke/VarHandle" ∧ (parseMethodDescriptor yX11_standsRightly.desc).map (fun d => d.parameters.length) = some 4 := ⟨by decide +kernel, by decide +kernel, by decide +kernel⟩
set_option maxRecDepth 20000 in
theorem ok_X11_standsRightly (l : Launch) (D : Dd) (base : Nat) (M : Mm) (a1 : Int) (ha1 : i32 a1) (a2 : Int) (ha2 : i32 a2) (a3 : Int) (ha3 : i32 a3) (a4 : Int) (ha4 : i32 a4) : OkI l D TC 681 base yX11_standsRightly cX11_standsRightly 5 (some .boolean) 2 44 [.ref (base + 0), .int (Ii a1), .int (Ii a2), .int (Ii a3), .int (Ii a4)] M bo (f_X11_standsRightly a1 a2 a3 a4 M) := by
  refine metI (by decide +kernel) [(0, .ref (base + 0)), (1, .int (Ii a1)), (2, .int (Ii a2)), (3, .int (Ii a3)), (4, .int (Ii a4))] rfl (Nat.le_of_ble_eq_true rfl) (fun p e s m args below meth c X hrt hlk => ?_)
  have X : Cx p s m args c cX11_standsRightly D 5 RX11 := X
  unfold f_X11_standsRightly
  refine go_iload_n X dX11_standsRightly_0 rfl 3 rfl ?_
  refine go_aload_n X dX11_standsRightly_1 rfl 0 rfl ?_
  refine go_getc (i := 0) X fc11 dX11_standsRightly_2 tcn0 tc0 (Nat.le_of_ble_eq_true rfl) rfl lw639 rfl ?_
  refine go_iload_n X dX11_standsRightly_5 rfl 2 rfl ?_
  refine goI (fun H locs ls r ho hW hL => runV X (ok_X5_childCountOf l D base M a2 ha2 H.size r ho) dX11_standsRightly_6 lw709 lw78 lw79 lw80 ⟨lw67, cy_X5_childCountOf, Nat.le_of_ble_eq_true rfl, Nat.le_of_ble_eq_true rfl⟩ rfl tcn1 tc1 rfl rfl rfl rfl (Nat.le_of_ble_eq_true rfl) hW hL hk0) (fun v2 M1 hv2 => ?_)
  refine go_icmp_lt (tgt := 23) X dX11_standsRightly_9 rfl ha3 hv2 (fun c3 => ?_) (fun c3 => ?_)
  · refine go_aload_n X dX11_standsRightly_23 rfl 0 rfl ?_
    refine go_getc (i := 0) X fc11 dX11_standsRightly_24 tcn0 tc0 (Nat.le_of_ble_eq_true rfl) rfl lw639 rfl ?_
    refine go_iload_n X dX11_standsRightly_27 rfl 1 rfl ?_
    refine go_iload X dX11_standsRightly_28 4 rfl ?_
    refine goI (fun H locs ls r ho hW hL => runV X (ok_X5_childHeadOf l D base M1 a1 ha1 a4 ha4 H.size r ho) dX11_standsRightly_30 lw711 lw429 lw430 lw80 ⟨lw421, cy_X5_childHeadOf, Nat.le_of_ble_eq_true rfl, Nat.le_of_ble_eq_true rfl⟩ rfl tcn1 tc1 rfl rfl rfl rfl (Nat.le_of_ble_eq_true rfl) hW hL hk0) (fun v5 M4 hv5 => ?_)
    refine go_aload_n X dX11_standsRightly_33 rfl 0 rfl ?_
    refine go_getc (i := 0) X fc11 dX11_standsRightly_34 tcn0 tc0 (Nat.le_of_ble_eq_true rfl) rfl lw639 rfl ?_
    refine go_iload_n X dX11_standsRightly_37 rfl 2 rfl ?_
    refine go_iload_n X dX11_standsRightly_38 rfl 3 rfl ?_
    refine goI (fun H locs ls r ho hW hL => runV X (ok_X5_childHeadOf l D base M4 a2 ha2 a3 ha3 H.size r ho) dX11_standsRightly_39 lw711 lw429 lw430 lw80 ⟨lw421, cy_X5_childHeadOf, Nat.le_of_ble_eq_true rfl, Nat.le_of_ble_eq_true rfl⟩ rfl tcn1 tc1 rfl rfl rfl rfl (Nat.le_of_ble_eq_true rfl) hW hL hk0) (fun v7 M6 hv7 => ?_)
    refine go_lt (fun J => ∀ (v8 : Int) (M9 : Mm), bo v8 → Go p l e (rmO 2 44) s m args below meth c D TC 681 base 5 0 0 (FinI D TC 681 base below args s bo) M9 50 [] [.int (Ii v8)] (J v8 M9)) (by
        intro v8 M9 hv8
        exact go_zreturn X hrt hlk dX11_standsRightly_50 hv8 hv8
        )
        (fun J50_10 hJ50_10 => ?_)
    refine go_icmp_ne (tgt := 49) X dX11_standsRightly_42 rfl hv5 hv7 (fun c11 => ?_) (fun c11 => ?_)
    · refine go_iconst (v := 0) X dX11_standsRightly_49 rfl ?_
      refine go_sub [] rfl ?_
      exact hJ50_10 0 M6 (Or.inl rfl)
    · refine go_iconst (v := 1) X dX11_standsRightly_45 rfl ?_
      refine go_goto (tgt := 50) X dX11_standsRightly_46 rfl ?_
      refine go_sub [] rfl ?_
      exact hJ50_10 1 M6 (Or.inr rfl)
  · refine go_iload X dX11_standsRightly_12 4 rfl ?_
    refine go_lt (fun J => ∀ (v12 : Int) (M13 : Mm), bo v12 → Go p l e (rmO 2 44) s m args below meth c D TC 681 base 5 0 0 (FinI D TC 681 base below args s bo) M13 22 [] [.int (Ii v12)] (J v12 M13)) (by
        intro v12 M13 hv12
        exact go_zreturn X hrt hlk dX11_standsRightly_22 hv12 hv12
        )
        (fun J22_14 hJ22_14 => ?_)
    refine go_if_ne (tgt := 21) X dX11_standsRightly_14 rfl ha4 (fun c15 => ?_) (fun c15 => ?_)
    · refine go_iconst (v := 0) X dX11_standsRightly_21 rfl ?_
      refine go_sub [] rfl ?_
      exact hJ22_14 0 M1 (Or.inl rfl)
    · refine go_iconst (v := 1) X dX11_standsRightly_17 rfl ?_
      refine go_goto (tgt := 22) X dX11_standsRightly_18 rfl ?_
      refine go_sub [] rfl ?_
      exact hJ22_14 1 M1 (Or.inr rfl)
def f_X11_followsAsSymbol (a1 : Int) (a2 : Int) (M : Mm) : Rs :=
Lt (fun (v1 : Int) (M2 : Mm) => 
some (v1, M2)) fun J26_3 =>
Lt (fun (M4 : Mm) => 
J26_3 1 M4) fun J21_5 =>
if a1 = ((-1)) then (
J21_5 M) else (
Lt (fun (M7 : Mm) => 
J26_3 0 M7) fun J25_8 =>
if a2 = 0 then (
J25_8 M) else (
if a1 < 0 then (
J25_8 M) else (
if 9 < a1 then (
J25_8 M) else (
J21_5 M))))
theorem cy_X11_followsAsSymbol : yX11_followsAsSymbol.cls ≠ "java/lang/invoke/MethodHandle" ∧ yX11_followsAsSymbol.cls ≠ "java/lang/invoke/VarHandle" ∧ (parseMethodDescriptor yX11_followsAsSymbol.desc).map (fun d => d.parameters.length) = some 2 := ⟨by decide +kernel, by decide +kernel, by decide +kernel⟩
set_option maxRecDepth 20000 in
theorem ok_X11_followsAsSymbol (l : Launch) (D : Dd) (base : Nat) (M : Mm) (a1 : Int) (ha1 : i32 a1) (a2 : Int) (ha2 : bo a2) : OkI l D TC 681 base yX11_followsAsSymbol cX11_followsAsSymbol 3 (some .boolean) 0 0 [.int (Ii a1), .int (Ii a2)] M bo (f_X11_followsAsSymbol a1 a2 M) := by
  refine metI (by decide +kernel) [(0, .int (Ii a1)), (1, .int (Ii a2))] rfl (Nat.le_of_ble_eq_true rfl) (fun p e s m args below meth c X hrt hlk => ?_)
  have X : Cx p s m args c cX11_followsAsSymbol D 3 RX11 := X
  unfold f_X11_followsAsSymbol
  refine go_bipush (v := 9) X dX11_followsAsSymbol_0 (by decide) ?_
  refine go_istore_n (i := 2) (L' := [(2, .int (Ii 9)), (0, .int (Ii a1)), (1, .int (Ii a2))]) X dX11_followsAsSymbol_2 rfl (by decide) rfl ?_
  refine go_iload_n X dX11_followsAsSymbol_3 rfl 1 rfl ?_
  refine go_iconst (v := (-1)) X dX11_followsAsSymbol_4 rfl ?_
  refine go_lt (fun J => ∀ (v1 : Int) (M2 : Mm), bo v1 → Go p l e (rmO 0 0) s m args below meth c D TC 681 base 3 0 0 (FinI D TC 681 base below args s bo) M2 26 [] [.int (Ii v1)] (J v1 M2)) (by
      intro v1 M2 hv1
      exact go_zreturn X hrt hlk dX11_followsAsSymbol_26 hv1 hv1
      )
      (fun J26_3 hJ26_3 => ?_)
  refine go_lt (fun J => ∀ (M4 : Mm), Go p l e (rmO 0 0) s m args below meth c D TC 681 base 3 0 0 (FinI D TC 681 base below args s bo) M4 21 [] [] (J M4)) (by
      intro M4
      refine go_iconst (v := 1) X dX11_followsAsSymbol_21 rfl ?_
      refine go_goto (tgt := 26) X dX11_followsAsSymbol_22 rfl ?_
      exact hJ26_3 1 M4 (Or.inr rfl)
      )
      (fun J21_5 hJ21_5 => ?_)
  refine go_icmp_eq (tgt := 21) X dX11_followsAsSymbol_5 rfl ha1 kI_m1 (fun c6 => ?_) (fun c6 => ?_)
  · refine go_sub [] rfl ?_
    exact hJ21_5 M
  · refine go_iload_n X dX11_followsAsSymbol_8 rfl 2 rfl ?_
    refine go_lt (fun J => ∀ (M7 : Mm), Go p l e (rmO 0 0) s m args below meth c D TC 681 base 3 0 0 (FinI D TC 681 base below args s bo) M7 25 [] [] (J M7)) (by
        intro M7
        refine go_iconst (v := 0) X dX11_followsAsSymbol_25 rfl ?_
        exact hJ26_3 0 M7 (Or.inl rfl)
        )
        (fun J25_8 hJ25_8 => ?_)
    refine go_if_eq (tgt := 25) X dX11_followsAsSymbol_9 rfl (bo_i32 ha2) (fun c9 => ?_) (fun c9 => ?_)
    · refine go_sub [] rfl ?_
      exact hJ25_8 M
    · refine go_iload_n X dX11_followsAsSymbol_12 rfl 1 rfl ?_
      refine go_if_lt (tgt := 25) X dX11_followsAsSymbol_13 rfl ha1 (fun c10 => ?_) (fun c10 => ?_)
      · refine go_sub [] rfl ?_
        exact hJ25_8 M
      · refine go_iload_n X dX11_followsAsSymbol_16 rfl 1 rfl ?_
        refine go_iload_n X dX11_followsAsSymbol_17 rfl 0 rfl ?_
        refine go_icmp_gt (tgt := 25) X dX11_followsAsSymbol_18 rfl ha1 kI_9 (fun c11 => ?_) (fun c11 => ?_)
        · refine go_sub [] rfl ?_
          exact hJ25_8 M
        · refine go_sub [] rfl ?_
          exact hJ21_5 M
def f_X11_tellsAttribute (a1 : Int) (M : Mm) : Rs :=
Lt (fun (v1 : Int) (M2 : Mm) => 
some (v1, M2)) fun J21_3 =>
Lt (fun (M4 : Mm) => 
J21_3 1 M4) fun J16_5 =>
if a1 = 1 then (
J16_5 M) else (
if a1 = 2 then (
J16_5 M) else (
if ¬ a1 = 7 then (
J21_3 0 M) else (
J16_5 M)))
theorem cy_X11_tellsAttribute : yX11_tellsAttribute.cls ≠ "java/lang/invoke/MethodHandle" ∧ yX11_tellsAttribute.cls ≠ "java/lang/invoke/VarHandle" ∧ (parseMethodDescriptor yX11_tellsAttribute.desc).map (fun d => d.parameters.length) = some 1 := ⟨by decide +kernel, by decide +kernel, by decide +kernel⟩
set_option maxRecDepth 20000 in
theorem ok_X11_tellsAttribute (l : Launch) (D : Dd) (base : Nat) (M : Mm) (a1 : Int) (ha1 : i32 a1) : OkI l D TC 681 base yX11_tellsAttribute cX11_tellsAttribute 1 (some .boolean) 0 0 [.int (Ii a1)] M bo (f_X11_tellsAttribute a1 M) := by
  refine metI (by decide +kernel) [(0, .int (Ii a1))] rfl (Nat.le_of_ble_eq_true rfl) (fun p e s m args below meth c X hrt hlk => ?_)
  have X : Cx p s m args c cX11_tellsAttribute D 1 RX11 := X
  unfold f_X11_tellsAttribute
  refine go_iload_n X dX11_tellsAttribute_0 rfl 0 rfl ?_
  refine go_iconst (v := 1) X dX11_tellsAttribute_1 rfl ?_
  refine go_lt (fun J => ∀ (v1 : Int) (M2 : Mm), bo v1 → Go p l e (rmO 0 0) s m args below meth c D TC 681 base 1 0 0 (FinI D TC 681 base below args s bo) M2 21 [] [.int (Ii v1)] (J v1 M2)) (by
      intro v1 M2 hv1
      exact go_zreturn X hrt hlk dX11_tellsAttribute_21 hv1 hv1
      )
      (fun J21_3 hJ21_3 => ?_)
  refine go_lt (fun J => ∀ (M4 : Mm), Go p l e (rmO 0 0) s m args below meth c D TC 681 base 1 0 0 (FinI D TC 681 base below args s bo) M4 16 [] [] (J M4)) (by
      intro M4
      refine go_iconst (v := 1) X dX11_tellsAttribute_16 rfl ?_
      refine go_goto (tgt := 21) X dX11_tellsAttribute_17 rfl ?_
      exact hJ21_3 1 M4 (Or.inr rfl)
      )
      (fun J16_5 hJ16_5 => ?_)
  refine go_icmp_eq (tgt := 16) X dX11_tellsAttribute_2 rfl ha1 kI_1 (fun c6 => ?_) (fun c6 => ?_)
  · refine go_sub [] rfl ?_
    exact hJ16_5 M
  · refine go_iload_n X dX11_tellsAttribute_5 rfl 0 rfl ?_
    refine go_iconst (v := 2) X dX11_tellsAttribute_6 rfl ?_
    refine go_icmp_eq (tgt := 16) X dX11_tellsAttribute_7 rfl ha1 kI_2 (fun c7 => ?_) (fun c7 => ?_)
    · refine go_sub [] rfl ?_
      exact hJ16_5 M
    · refine go_iload_n X dX11_tellsAttribute_10 rfl 0 rfl ?_
      refine go_bipush (v := 7) X dX11_tellsAttribute_11 (by decide) ?_
      refine go_icmp_ne (tgt := 20) X dX11_tellsAttribute_13 rfl ha1 kI_7 (fun c8 => ?_) (fun c8 => ?_)
      · refine go_iconst (v := 0) X dX11_tellsAttribute_20 rfl ?_
        refine go_sub [] rfl ?_
        exact hJ21_3 0 M (Or.inl rfl)
      · refine go_sub [] rfl ?_
        exact hJ16_5 M
def f_X11_isRightNumber (a1 : Int) (a2 : Int) (M : Mm) : Rs :=
Cl (f_X11_tellsAttribute a1 M) fun v2 M1 =>
if v2 = 0 then (
Lt (fun (v4 : Int) (M5 : Mm) => 
Lt (fun (v7 : Int) (M8 : Mm) => 
some (v7, M8)) fun J48_9 =>
Lt (fun (M10 : Mm) => 
J48_9 0 M10) fun J47_11 =>
if a2 < 0 then (
J47_11 M5) else (
if v4 < a2 then (
J47_11 M5) else (
J48_9 1 M5))) fun J34_6 =>
if ¬ a1 = 0 then (
Lt (fun (M15 : Mm) => 
J34_6 2 M15) fun J32_16 =>
if a1 = 3 then (
J32_16 M1) else (
if ¬ a1 = 4 then (
J34_6 0 M1) else (
J32_16 M1))) else (
J34_6 999 M1)) else (
some (1, M1))
theorem cy_X11_isRightNumber : yX11_isRightNumber.cls ≠ "java/lang/invoke/MethodHandle" ∧ yX11_isRightNumber.cls ≠ "java/lang/invoke/VarHandle" ∧ (parseMethodDescriptor yX11_isRightNumber.desc).map (fun d => d.parameters.length) = some 2 := ⟨by decide +kernel, by decide +kernel, by decide +kernel⟩
set_option maxRecDepth 20000 in
theorem ok_X11_isRightNumber (l : Launch) (D : Dd) (base : Nat) (M : Mm) (a1 : Int) (ha1 : i32 a1) (a2 : Int) (ha2 : i32 a2) : OkI l D TC 681 base yX11_isRightNumber cX11_isRightNumber 3 (some .boolean) 1 20 [.int (Ii a1), .int (Ii a2)] M bo (f_X11_isRightNumber a1 a2 M) := by
  refine metI (by decide +kernel) [(0, .int (Ii a1)), (1, .int (Ii a2))] rfl (Nat.le_of_ble_eq_true rfl) (fun p e s m args below meth c X hrt hlk => ?_)
  have X : Cx p s m args c cX11_isRightNumber D 3 RX11 := X
  unfold f_X11_isRightNumber
  refine go_iload_n X dX11_isRightNumber_0 rfl 0 rfl ?_
  refine goI (fun H locs ls r ho hW hL => runS X (ok_X11_tellsAttribute l D base M a1 ha1 H.size r ho) dX11_isRightNumber_1 lw747 lw748 lw19 ⟨lw745, cy_X11_tellsAttribute, Nat.le_of_ble_eq_true rfl, Nat.le_of_ble_eq_true rfl⟩ rfl rfl (Nat.le_of_ble_eq_true rfl) hW hL hk0) (fun v2 M1 hv2 => ?_)
  refine go_if_eq (tgt := 9) X dX11_isRightNumber_4 rfl (bo_i32 hv2) (fun c3 => ?_) (fun c3 => ?_)
  · refine go_iconst (v := 0) X dX11_isRightNumber_9 rfl ?_
    refine go_istore_n (i := 2) (L' := [(2, .int (Ii 0)), (0, .int (Ii a1)), (1, .int (Ii a2))]) X dX11_isRightNumber_10 rfl (by decide) rfl ?_
    refine go_iload_n X dX11_isRightNumber_11 rfl 1 rfl ?_
    refine go_lt (fun J => ∀ (v4 : Int) (M5 : Mm), i32 v4 → Go p l e (rmO 1 20) s m args below meth c D TC 681 base 3 0 0 (FinI D TC 681 base below args s bo) M5 34 [(1, .int (Ii a2)), (2, .int (Ii v4))] [] (J v4 M5)) (by
        intro v4 M5 hv4
        refine go_iload_n X dX11_isRightNumber_34 rfl 0 rfl ?_
        refine go_lt (fun J => ∀ (v7 : Int) (M8 : Mm), bo v7 → Go p l e (rmO 1 20) s m args below meth c D TC 681 base 3 0 0 (FinI D TC 681 base below args s bo) M8 48 [] [.int (Ii v7)] (J v7 M8)) (by
            intro v7 M8 hv7
            exact go_zreturn X hrt hlk dX11_isRightNumber_48 hv7 hv7
            )
            (fun J48_9 hJ48_9 => ?_)
        refine go_lt (fun J => ∀ (M10 : Mm), Go p l e (rmO 1 20) s m args below meth c D TC 681 base 3 0 0 (FinI D TC 681 base below args s bo) M10 47 [] [] (J M10)) (by
            intro M10
            refine go_iconst (v := 0) X dX11_isRightNumber_47 rfl ?_
            exact hJ48_9 0 M10 (Or.inl rfl)
            )
            (fun J47_11 hJ47_11 => ?_)
        refine go_if_lt (tgt := 47) X dX11_isRightNumber_35 rfl ha2 (fun c12 => ?_) (fun c12 => ?_)
        · refine go_sub [] rfl ?_
          exact hJ47_11 M5
        · refine go_iload_n X dX11_isRightNumber_38 rfl 0 rfl ?_
          refine go_iload_n X dX11_isRightNumber_39 rfl 1 rfl ?_
          refine go_icmp_gt (tgt := 47) X dX11_isRightNumber_40 rfl ha2 hv4 (fun c13 => ?_) (fun c13 => ?_)
          · refine go_sub [] rfl ?_
            exact hJ47_11 M5
          · refine go_iconst (v := 1) X dX11_isRightNumber_43 rfl ?_
            refine go_goto (tgt := 48) X dX11_isRightNumber_44 rfl ?_
            refine go_sub [] rfl ?_
            exact hJ48_9 1 M5 (Or.inr rfl)
        )
        (fun J34_6 hJ34_6 => ?_)
    refine go_if_ne (tgt := 22) X dX11_isRightNumber_12 rfl ha1 (fun c14 => ?_) (fun c14 => ?_)
    · refine go_iload_n X dX11_isRightNumber_22 rfl 1 rfl ?_
      refine go_iconst (v := 3) X dX11_isRightNumber_23 rfl ?_
      refine go_lt (fun J => ∀ (M15 : Mm), Go p l e (rmO 1 20) s m args below meth c D TC 681 base 3 0 0 (FinI D TC 681 base below args s bo) M15 32 [(1, .int (Ii a2))] [] (J M15)) (by
          intro M15
          refine go_iconst (v := 2) X dX11_isRightNumber_32 rfl ?_
          refine go_istore_n (i := 2) (L' := [(2, .int (Ii 2)), (1, .int (Ii a2))]) X dX11_isRightNumber_33 rfl (by decide) rfl ?_
          refine go_sub [1, 0] rfl ?_
          exact hJ34_6 2 M15 kI_2
          )
          (fun J32_16 hJ32_16 => ?_)
      refine go_icmp_eq (tgt := 32) X dX11_isRightNumber_24 rfl ha1 kI_3 (fun c17 => ?_) (fun c17 => ?_)
      · refine go_sub [2] rfl ?_
        exact hJ32_16 M1
      · refine go_iload_n X dX11_isRightNumber_27 rfl 1 rfl ?_
        refine go_iconst (v := 4) X dX11_isRightNumber_28 rfl ?_
        refine go_icmp_ne (tgt := 34) X dX11_isRightNumber_29 rfl ha1 kI_4 (fun c18 => ?_) (fun c18 => ?_)
        · refine go_sub [2, 0] rfl ?_
          exact hJ34_6 0 M1 kI_0
        · refine go_sub [2] rfl ?_
          exact hJ32_16 M1
    · refine go_sipush (v := 999) X dX11_isRightNumber_15 (by decide) ?_
      refine go_istore_n (i := 2) (L' := [(2, .int (Ii 999)), (0, .int (Ii a1)), (1, .int (Ii a2))]) X dX11_isRightNumber_18 rfl (by decide) rfl ?_
      refine go_goto (tgt := 34) X dX11_isRightNumber_19 rfl ?_
      refine go_sub [2, 0] rfl ?_
      exact hJ34_6 999 M1 kI_999
  · refine go_iconst (v := 1) X dX11_isRightNumber_7 rfl ?_
    exact go_zreturn X hrt hlk dX11_isRightNumber_8 (Or.inr rfl) (Or.inr rfl)
def f_X11_isRightChild (a1 : Int) (a2 : Int) (M : Mm) : Rs :=
Lt (fun (v1 : Int) (M2 : Mm) => 
some (v1, M2)) fun J29_3 =>
Lt (fun (M4 : Mm) => 
J29_3 0 M4) fun J28_5 =>
if a2 < 0 then (
J28_5 M) else (
Lt (fun (v7 : Int) (M8 : Mm) => 
if v7 < a2 then (
J28_5 M8) else (
J29_3 1 M8)) fun J21_9 =>
Lt (fun (M11 : Mm) => 
J21_9 2 M11) fun J16_12 =>
if a1 = 2 then (
J16_12 M) else (
if ¬ a1 = 6 then (
J21_9 0 M) else (
J16_12 M)))
theorem cy_X11_isRightChild : yX11_isRightChild.cls ≠ "java/lang/invoke/MethodHandle" ∧ yX11_isRightChild.cls ≠ "java/lang/invoke/VarHandle" ∧ (parseMethodDescriptor yX11_isRightChild.desc).map (fun d => d.parameters.length) = some 2 := ⟨by decide +kernel, by decide +kernel, by decide +kernel⟩
set_option maxRecDepth 20000 in
theorem ok_X11_isRightChild (l : Launch) (D : Dd) (base : Nat) (M : Mm) (a1 : Int) (ha1 : i32 a1) (a2 : Int) (ha2 : i32 a2) : OkI l D TC 681 base yX11_isRightChild cX11_isRightChild 2 (some .boolean) 0 0 [.int (Ii a1), .int (Ii a2)] M bo (f_X11_isRightChild a1 a2 M) := by
  refine metI (by decide +kernel) [(0, .int (Ii a1)), (1, .int (Ii a2))] rfl (Nat.le_of_ble_eq_true rfl) (fun p e s m args below meth c X hrt hlk => ?_)
  have X : Cx p s m args c cX11_isRightChild D 2 RX11 := X
  unfold f_X11_isRightChild
  refine go_iload_n X dX11_isRightChild_0 rfl 1 rfl ?_
  refine go_lt (fun J => ∀ (v1 : Int) (M2 : Mm), bo v1 → Go p l e (rmO 0 0) s m args below meth c D TC 681 base 2 0 0 (FinI D TC 681 base below args s bo) M2 29 [] [.int (Ii v1)] (J v1 M2)) (by
      intro v1 M2 hv1
      exact go_zreturn X hrt hlk dX11_isRightChild_29 hv1 hv1
      )
      (fun J29_3 hJ29_3 => ?_)
  refine go_lt (fun J => ∀ (M4 : Mm), Go p l e (rmO 0 0) s m args below meth c D TC 681 base 2 0 0 (FinI D TC 681 base below args s bo) M4 28 [] [] (J M4)) (by
      intro M4
      refine go_iconst (v := 0) X dX11_isRightChild_28 rfl ?_
      exact hJ29_3 0 M4 (Or.inl rfl)
      )
      (fun J28_5 hJ28_5 => ?_)
  refine go_if_lt (tgt := 28) X dX11_isRightChild_1 rfl ha2 (fun c6 => ?_) (fun c6 => ?_)
  · refine go_sub [] rfl ?_
    exact hJ28_5 M
  · refine go_iload_n X dX11_isRightChild_4 rfl 1 rfl ?_
    refine go_iload_n X dX11_isRightChild_5 rfl 0 rfl ?_
    refine go_iconst (v := 2) X dX11_isRightChild_6 rfl ?_
    refine go_lt (fun J => ∀ (v7 : Int) (M8 : Mm), i32 v7 → Go p l e (rmO 0 0) s m args below meth c D TC 681 base 2 0 0 (FinI D TC 681 base below args s bo) M8 21 [] [.int (Ii v7), .int (Ii a2)] (J v7 M8)) (by
        intro v7 M8 hv7
        refine go_icmp_gt (tgt := 28) X dX11_isRightChild_21 rfl ha2 hv7 (fun c10 => ?_) (fun c10 => ?_)
        · exact hJ28_5 M8
        · refine go_iconst (v := 1) X dX11_isRightChild_24 rfl ?_
          refine go_goto (tgt := 29) X dX11_isRightChild_25 rfl ?_
          exact hJ29_3 1 M8 (Or.inr rfl)
        )
        (fun J21_9 hJ21_9 => ?_)
    refine go_lt (fun J => ∀ (M11 : Mm), Go p l e (rmO 0 0) s m args below meth c D TC 681 base 2 0 0 (FinI D TC 681 base below args s bo) M11 16 [] [.int (Ii a2)] (J M11)) (by
        intro M11
        refine go_iconst (v := 2) X dX11_isRightChild_16 rfl ?_
        refine go_goto (tgt := 21) X dX11_isRightChild_17 rfl ?_
        exact hJ21_9 2 M11 kI_2
        )
        (fun J16_12 hJ16_12 => ?_)
    refine go_icmp_eq (tgt := 16) X dX11_isRightChild_7 rfl ha1 kI_2 (fun c13 => ?_) (fun c13 => ?_)
    · refine go_sub [] rfl ?_
      exact hJ16_12 M
    · refine go_iload_n X dX11_isRightChild_10 rfl 0 rfl ?_
      refine go_bipush (v := 6) X dX11_isRightChild_11 (by decide) ?_
      refine go_icmp_ne (tgt := 20) X dX11_isRightChild_13 rfl ha1 kI_6 (fun c14 => ?_) (fun c14 => ?_)
      · refine go_iconst (v := 0) X dX11_isRightChild_20 rfl ?_
        refine go_sub [] rfl ?_
        exact hJ21_9 0 M kI_0
      · refine go_sub [] rfl ?_
        exact hJ16_12 M
def f_X11_goesWithKind (a1 : Int) (a2 : Int) (M : Mm) : Rs :=
if ¬ a2 = 1 then (
Lt (fun (v2 : Int) (M3 : Mm) => 
Lt (fun (v5 : Int) (M6 : Mm) => 
some (v5, M6)) fun J35_7 =>
if ¬ a1 = v2 then (
J35_7 0 M3) else (
J35_7 1 M3)) fun J27_4 =>
if ¬ a2 = 2 then (
J27_4 ((-1)) M) else (
J27_4 ((-2)) M)) else (
Lt (fun (v10 : Int) (M11 : Mm) => 
some (v10, M11)) fun J14_12 =>
if a1 < 0 then (
J14_12 0 M) else (
J14_12 1 M))
theorem cy_X11_goesWithKind : yX11_goesWithKind.cls ≠ "java/lang/invoke/MethodHandle" ∧ yX11_goesWithKind.cls ≠ "java/lang/invoke/VarHandle" ∧ (parseMethodDescriptor yX11_goesWithKind.desc).map (fun d => d.parameters.length) = some 2 := ⟨by decide +kernel, by decide +kernel, by decide +kernel⟩
set_option maxRecDepth 20000 in
theorem ok_X11_goesWithKind (l : Launch) (D : Dd) (base : Nat) (M : Mm) (a1 : Int) (ha1 : i32 a1) (a2 : Int) (ha2 : i32 a2) : OkI l D TC 681 base yX11_goesWithKind cX11_goesWithKind 2 (some .boolean) 0 0 [.int (Ii a1), .int (Ii a2)] M bo (f_X11_goesWithKind a1 a2 M) := by
  refine metI (by decide +kernel) [(0, .int (Ii a1)), (1, .int (Ii a2))] rfl (Nat.le_of_ble_eq_true rfl) (fun p e s m args below meth c X hrt hlk => ?_)
  have X : Cx p s m args c cX11_goesWithKind D 2 RX11 := X
  unfold f_X11_goesWithKind
  refine go_iload_n X dX11_goesWithKind_0 rfl 1 rfl ?_
  refine go_iconst (v := 1) X dX11_goesWithKind_1 rfl ?_
  refine go_icmp_ne (tgt := 15) X dX11_goesWithKind_2 rfl ha2 kI_1 (fun c1 => ?_) (fun c1 => ?_)
  · refine go_iload_n X dX11_goesWithKind_15 rfl 0 rfl ?_
    refine go_iload_n X dX11_goesWithKind_16 rfl 1 rfl ?_
    refine go_iconst (v := 2) X dX11_goesWithKind_17 rfl ?_
    refine go_lt (fun J => ∀ (v2 : Int) (M3 : Mm), i32 v2 → Go p l e (rmO 0 0) s m args below meth c D TC 681 base 2 0 0 (FinI D TC 681 base below args s bo) M3 27 [] [.int (Ii v2), .int (Ii a1)] (J v2 M3)) (by
        intro v2 M3 hv2
        refine go_lt (fun J => ∀ (v5 : Int) (M6 : Mm), bo v5 → Go p l e (rmO 0 0) s m args below meth c D TC 681 base 2 0 0 (FinI D TC 681 base below args s bo) M6 35 [] [.int (Ii v5)] (J v5 M6)) (by
            intro v5 M6 hv5
            exact go_zreturn X hrt hlk dX11_goesWithKind_35 hv5 hv5
            )
            (fun J35_7 hJ35_7 => ?_)
        refine go_icmp_ne (tgt := 34) X dX11_goesWithKind_27 rfl ha1 hv2 (fun c8 => ?_) (fun c8 => ?_)
        · refine go_iconst (v := 0) X dX11_goesWithKind_34 rfl ?_
          exact hJ35_7 0 M3 (Or.inl rfl)
        · refine go_iconst (v := 1) X dX11_goesWithKind_30 rfl ?_
          refine go_goto (tgt := 35) X dX11_goesWithKind_31 rfl ?_
          exact hJ35_7 1 M3 (Or.inr rfl)
        )
        (fun J27_4 hJ27_4 => ?_)
    refine go_icmp_ne (tgt := 26) X dX11_goesWithKind_18 rfl ha2 kI_2 (fun c9 => ?_) (fun c9 => ?_)
    · refine go_iconst (v := (-1)) X dX11_goesWithKind_26 rfl ?_
      refine go_sub [] rfl ?_
      exact hJ27_4 ((-1)) M kI_m1
    · refine go_bipush (v := (-2)) X dX11_goesWithKind_21 (by decide) ?_
      refine go_goto (tgt := 27) X dX11_goesWithKind_23 rfl ?_
      refine go_sub [] rfl ?_
      exact hJ27_4 ((-2)) M kI_m2
  · refine go_iload_n X dX11_goesWithKind_5 rfl 0 rfl ?_
    refine go_lt (fun J => ∀ (v10 : Int) (M11 : Mm), bo v10 → Go p l e (rmO 0 0) s m args below meth c D TC 681 base 2 0 0 (FinI D TC 681 base below args s bo) M11 14 [] [.int (Ii v10)] (J v10 M11)) (by
        intro v10 M11 hv10
        exact go_zreturn X hrt hlk dX11_goesWithKind_14 hv10 hv10
        )
        (fun J14_12 hJ14_12 => ?_)
    refine go_if_lt (tgt := 13) X dX11_goesWithKind_6 rfl ha1 (fun c13 => ?_) (fun c13 => ?_)
    · refine go_iconst (v := 0) X dX11_goesWithKind_13 rfl ?_
      refine go_sub [] rfl ?_
      exact hJ14_12 0 M (Or.inl rfl)
    · refine go_iconst (v := 1) X dX11_goesWithKind_9 rfl ?_
      refine go_goto (tgt := 14) X dX11_goesWithKind_10 rfl ?_
      refine go_sub [] rfl ?_
      exact hJ14_12 1 M (Or.inr rfl)
def f_X11_operandsOf (a1 : Int) (M : Mm) : Rs :=
if ¬ a1 = 7 then (
if ¬ a1 = 13 then (
Lt (fun (v3 : Int) (M4 : Mm) => 
some (v3, M4)) fun J33_5 =>
Lt (fun (M6 : Mm) => 
J33_5 0 M6) fun J32_7 =>
if a1 < 8 then (
J32_7 M) else (
if 12 < a1 then (
J32_7 M) else (
J33_5 2 M))) else (
some (3, M))) else (
some (1, M))
theorem cy_X11_operandsOf : yX11_operandsOf.cls ≠ "java/lang/invoke/MethodHandle" ∧ yX11_operandsOf.cls ≠ "java/lang/invoke/VarHandle" ∧ (parseMethodDescriptor yX11_operandsOf.desc).map (fun d => d.parameters.length) = some 1 := ⟨by decide +kernel, by decide +kernel, by decide +kernel⟩
set_option maxRecDepth 20000 in
theorem ok_X11_operandsOf (l : Launch) (D : Dd) (base : Nat) (M : Mm) (a1 : Int) (ha1 : i32 a1) : OkI l D TC 681 base yX11_operandsOf cX11_operandsOf 1 (some .int) 0 0 [.int (Ii a1)] M i32 (f_X11_operandsOf a1 M) := by
  refine metI (by decide +kernel) [(0, .int (Ii a1))] rfl (Nat.le_of_ble_eq_true rfl) (fun p e s m args below meth c X hrt hlk => ?_)
  have X : Cx p s m args c cX11_operandsOf D 1 RX11 := X
  unfold f_X11_operandsOf
  refine go_iload_n X dX11_operandsOf_0 rfl 0 rfl ?_
  refine go_bipush (v := 7) X dX11_operandsOf_1 (by decide) ?_
  refine go_icmp_ne (tgt := 8) X dX11_operandsOf_3 rfl ha1 kI_7 (fun c1 => ?_) (fun c1 => ?_)
  · refine go_iload_n X dX11_operandsOf_8 rfl 0 rfl ?_
    refine go_bipush (v := 13) X dX11_operandsOf_9 (by decide) ?_
    refine go_icmp_ne (tgt := 16) X dX11_operandsOf_11 rfl ha1 kI_13 (fun c2 => ?_) (fun c2 => ?_)
    · refine go_iload_n X dX11_operandsOf_16 rfl 0 rfl ?_
      refine go_bipush (v := 8) X dX11_operandsOf_17 (by decide) ?_
      refine go_lt (fun J => ∀ (v3 : Int) (M4 : Mm), i32 v3 → Go p l e (rmO 0 0) s m args below meth c D TC 681 base 1 0 0 (FinI D TC 681 base below args s i32) M4 33 [] [.int (Ii v3)] (J v3 M4)) (by
          intro v3 M4 hv3
          exact go_ireturn X hrt hlk dX11_operandsOf_33 hv3
          )
          (fun J33_5 hJ33_5 => ?_)
      refine go_lt (fun J => ∀ (M6 : Mm), Go p l e (rmO 0 0) s m args below meth c D TC 681 base 1 0 0 (FinI D TC 681 base below args s i32) M6 32 [] [] (J M6)) (by
          intro M6
          refine go_iconst (v := 0) X dX11_operandsOf_32 rfl ?_
          exact hJ33_5 0 M6 kI_0
          )
          (fun J32_7 hJ32_7 => ?_)
      refine go_icmp_lt (tgt := 32) X dX11_operandsOf_19 rfl ha1 kI_8 (fun c8 => ?_) (fun c8 => ?_)
      · refine go_sub [] rfl ?_
        exact hJ32_7 M
      · refine go_iload_n X dX11_operandsOf_22 rfl 0 rfl ?_
        refine go_bipush (v := 12) X dX11_operandsOf_23 (by decide) ?_
        refine go_icmp_gt (tgt := 32) X dX11_operandsOf_25 rfl ha1 kI_12 (fun c9 => ?_) (fun c9 => ?_)
        · refine go_sub [] rfl ?_
          exact hJ32_7 M
        · refine go_iconst (v := 2) X dX11_operandsOf_28 rfl ?_
          refine go_goto (tgt := 33) X dX11_operandsOf_29 rfl ?_
          refine go_sub [] rfl ?_
          exact hJ33_5 2 M kI_2
    · refine go_iconst (v := 3) X dX11_operandsOf_14 rfl ?_
      exact go_ireturn X hrt hlk dX11_operandsOf_15 kI_3
  · refine go_iconst (v := 1) X dX11_operandsOf_6 rfl ?_
    exact go_ireturn X hrt hlk dX11_operandsOf_7 kI_1
def f_X0_append_L45_57 (h : Nat) (v2 : Int) (J119_15 : Int → Mm → Rs) (rc45_40 : Int × Int × Mm → Rs) : Int × Int × Mm → Rs := fun (v37, v38, M39) =>
if v2 ≤ v38 then (
J119_15 v37 M39) else (
Lt (M39 h 5) fun v42 =>
Lt (wr (v42 + v38)) fun v43 =>
Cl (f_X11_entryOf (h + 7) v43 M39) fun v45 M44 =>
Lt (M44 h 4) fun v46 =>
Cl (f_X11_setEntry (h + 4) v45 v46 M44) fun _ M47 =>
Cl (f_X11_setEntry (h + 5) v45 v38 M47) fun _ M48 =>
Lt (fun (v49 : Int) (v50 : Int) (M51 : Mm) => 
Lt (wr (v49 + 1)) fun v53 =>
rc45_40 (v50, v53, M51)) fun J111_52 =>
if ¬ v38 = 0 then (
J111_52 v38 v37 M48) else (
Cl (f_X11_entryOf (h + 6) v45 M48) fun v56 M55 =>
J111_52 v38 v56 M55))
def f_X0_append (h : Nat) (a1 : Int) (a2 : Int) (a3 : Int) (M : Mm) : Rs :=
Cl (f_X11_operandsOf a1 M) fun v2 M1 =>
Lt (M1 h 4) fun v3 =>
Lt (fun (M4 : Mm) => 
some (0, M4)) fun J24_5 =>
if 8 ≤ v3 then (
J24_5 M1) else (
Lt (M1 h 5) fun v7 =>
if v2 ≤ v7 then (
Lt (M1 h 4) fun v9 =>
Lt (M1 h 5) fun v10 =>
Lt (wr (v10 - v2)) fun v11 =>
Lt (up M1 h 5 v11) fun M12 =>
Lt (fun (v13 : Int) (M14 : Mm) => 
Lt (M14 h 4) fun v16 =>
Cl (f_X11_setEntry (h + 1) v16 a1 M14) fun _ M17 =>
Lt (M17 h 4) fun v18 =>
Cl (f_X11_setEntry (h + 2) v18 a2 M17) fun _ M19 =>
Lt (M19 h 4) fun v20 =>
Cl (f_X11_setEntry (h + 3) v20 a3 M19) fun _ M21 =>
Lt (M21 h 4) fun v22 =>
Cl (f_X11_setEntry (h + 4) v22 ((-1)) M21) fun _ M23 =>
Lt (M23 h 4) fun v24 =>
Cl (f_X11_setEntry (h + 5) v24 0 M23) fun _ M25 =>
Lt (M25 h 4) fun v26 =>
Cl (f_X11_setEntry (h + 6) v26 v13 M25) fun _ M27 =>
Lt (M27 h 5) fun v28 =>
Lt (M27 h 4) fun v29 =>
Cl (f_X11_setEntry (h + 7) v28 v29 M27) fun _ M30 =>
Lt (M30 h 5) fun v31 =>
Lt (wr (v31 + 1)) fun v32 =>
Lt (up M30 h 5 v32) fun M33 =>
Lt (M33 h 4) fun v34 =>
Lt (wr (v34 + 1)) fun v35 =>
Lt (up M33 h 4 v35) fun M36 =>
some (0, M36)) fun J119_15 =>
Lp (f_X0_append_L45_57 h v2 J119_15) FU (v9, 0, M12)) else (
J24_5 M1))
theorem cy_X0_append : yX0_append.cls ≠ "java/lang/invoke/MethodHandle" ∧ yX0_append.cls ≠ "java/lang/invoke/VarHandle" ∧ (parseMethodDescriptor yX0_append.desc).map (fun d => d.parameters.length) = some 3 := ⟨by decide +kernel, by decide +kernel, by decide +kernel⟩
set_option maxRecDepth 20000 in
theorem ok_X0_append (l : Launch) (D : Dd) (base : Nat) (M : Mm) (h : Nat) (hh : isE h) (a1 : Int) (ha1 : i32 a1) (a2 : Int) (ha2 : i32 a2) (a3 : Int) (ha3 : i32 a3) : OkV l D TC 681 base yX0_append cX0_append 8 none 1 22 [.ref (base + h), .int (Ii a1), .int (Ii a2), .int (Ii a3)] M (f_X0_append h a1 a2 a3 M) := by
  refine metV (by decide +kernel) [(0, .ref (base + h)), (1, .int (Ii a1)), (2, .int (Ii a2)), (3, .int (Ii a3))] rfl (Nat.le_of_ble_eq_true rfl) (fun p e s m args below meth c X hrt hlk => ?_)
  have X : Cx p s m args c cX0_append D 8 RX0 := X
  unfold f_X0_append
  refine go_iload_n X dX0_append_0 rfl 1 rfl ?_
  refine goI (fun H locs ls r ho hW hL => runSN X (ok_X11_operandsOf l D base M a1 ha1 H.size r ho) dX0_append_1 nl17 lw18 lw19 ⟨lw12, cy_X11_operandsOf, Nat.le_of_ble_eq_true rfl, Nat.le_of_ble_eq_true rfl⟩ rfl rfl (Nat.le_of_ble_eq_true rfl) hW hL hk0) (fun v2 M1 hv2 => ?_)
  refine go_istore (i := 4) (L' := [(4, .int (Ii v2)), (0, .ref (base + h)), (1, .int (Ii a1)), (2, .int (Ii a2)), (3, .int (Ii a3))]) X dX0_append_4 (by decide) rfl ?_
  refine go_aload_n X dX0_append_6 rfl 1 rfl ?_
  refine go_geti (i := 4) X fc0 dX0_append_7 (nE hh) (tE hh) (Nat.le_of_ble_eq_true rfl) rfl lw16 rfl (fun v3 hv3 => ?_)
  refine go_bipush (v := 8) X dX0_append_10 (by decide) ?_
  refine go_lt (fun J => ∀ (M4 : Mm), Go p l e (rmO 1 22) s m args below meth c D TC 681 base 8 0 0 (FinV D TC 681 base below args s) M4 24 [] [] (J M4)) (by
      intro M4
      exact go_vreturn X hrt hlk dX0_append_24
      )
      (fun J24_5 hJ24_5 => ?_)
  refine go_icmp_ge (tgt := 24) X dX0_append_12 rfl hv3 kI_8 (fun c6 => ?_) (fun c6 => ?_)
  · refine go_sub [] rfl ?_
    exact hJ24_5 M1
  · refine go_iload X dX0_append_15 0 rfl ?_
    refine go_aload_n X dX0_append_17 rfl 1 rfl ?_
    refine go_geti (i := 5) X fc0 dX0_append_18 (nE hh) (tE hh) (Nat.le_of_ble_eq_true rfl) rfl lw17 rfl (fun v7 hv7 => ?_)
    refine go_icmp_le (tgt := 25) X dX0_append_21 rfl hv2 hv7 (fun c8 => ?_) (fun c8 => ?_)
    · refine go_aload_n X dX0_append_25 rfl 1 rfl ?_
      refine go_geti (i := 4) X fc0 dX0_append_26 (nE hh) (tE hh) (Nat.le_of_ble_eq_true rfl) rfl lw16 rfl (fun v9 hv9 => ?_)
      refine go_istore (i := 5) (L' := [(5, .int (Ii v9)), (4, .int (Ii v2)), (0, .ref (base + h)), (1, .int (Ii a1)), (2, .int (Ii a2)), (3, .int (Ii a3))]) X dX0_append_29 (by decide) rfl ?_
      refine go_aload_n X dX0_append_31 rfl 2 rfl ?_
      refine go_dup X dX0_append_32 rfl ?_
      refine go_geti (i := 5) X fc0 dX0_append_33 (nE hh) (tE hh) (Nat.le_of_ble_eq_true rfl) rfl lw17 rfl (fun v10 hv10 => ?_)
      refine go_iload X dX0_append_36 1 rfl ?_
      refine go_isub X dX0_append_38 hv10 hv2 (fun v11 hv11 => ?_)
      refine go_puti (i := 5) X fc0 dX0_append_39 (nE hh) (tE hh) (Nat.le_of_ble_eq_true rfl) rfl lw17 rfl rfl rfl hv11 (fun M12 => ?_)
      refine go_iconst (v := 0) X dX0_append_42 rfl ?_
      refine go_istore (i := 6) (L' := [(6, .int (Ii 0)), (5, .int (Ii v9)), (4, .int (Ii v2)), (0, .ref (base + h)), (1, .int (Ii a1)), (2, .int (Ii a2)), (3, .int (Ii a3))]) X dX0_append_43 (by decide) rfl ?_
      refine go_lt (fun J => ∀ (v13 : Int) (M14 : Mm), i32 v13 → Go p l e (rmO 1 22) s m args below meth c D TC 681 base 8 0 0 (FinV D TC 681 base below args s) M14 119 [(0, .ref (base + h)), (1, .int (Ii a1)), (2, .int (Ii a2)), (3, .int (Ii a3)), (5, .int (Ii v13))] [] (J v13 M14)) (by
          intro v13 M14 hv13
          refine go_aload_n X dX0_append_119 rfl 0 rfl ?_
          refine go_getc (i := 6) X fc0 dX0_append_120 (nE hh) (tE hh) (Nat.le_of_ble_eq_true rfl) rfl lw5 rfl ?_
          refine go_aload_n X dX0_append_123 rfl 0 rfl ?_
          refine go_geti (i := 4) X fc0 dX0_append_124 (nE hh) (tE hh) (Nat.le_of_ble_eq_true rfl) rfl lw16 rfl (fun v16 hv16 => ?_)
          refine go_iload_n X dX0_append_127 rfl 1 rfl ?_
          refine goV (fun H locs ls r ho hW hL => runSN X (ok_X11_setEntry l D base M14 (h + 1) (isAEa1 hh) v16 hv16 a1 ha1 H.size r ho) dX0_append_128 nl19 lw21 lw19 ⟨lw14, cy_X11_setEntry, Nat.le_of_ble_eq_true rfl, Nat.le_of_ble_eq_true rfl⟩ rfl rfl (Nat.le_of_ble_eq_true rfl) hW hL hk0) (fun _ M17 => ?_)
          refine go_aload_n X dX0_append_131 rfl 0 rfl ?_
          refine go_getc (i := 7) X fc0 dX0_append_132 (nE hh) (tE hh) (Nat.le_of_ble_eq_true rfl) rfl lw6 rfl ?_
          refine go_aload_n X dX0_append_135 rfl 0 rfl ?_
          refine go_geti (i := 4) X fc0 dX0_append_136 (nE hh) (tE hh) (Nat.le_of_ble_eq_true rfl) rfl lw16 rfl (fun v18 hv18 => ?_)
          refine go_iload_n X dX0_append_139 rfl 2 rfl ?_
          refine goV (fun H locs ls r ho hW hL => runSN X (ok_X11_setEntry l D base M17 (h + 2) (isAEa2 hh) v18 hv18 a2 ha2 H.size r ho) dX0_append_140 nl19 lw21 lw19 ⟨lw14, cy_X11_setEntry, Nat.le_of_ble_eq_true rfl, Nat.le_of_ble_eq_true rfl⟩ rfl rfl (Nat.le_of_ble_eq_true rfl) hW hL hk0) (fun _ M19 => ?_)
          refine go_aload_n X dX0_append_143 rfl 0 rfl ?_
          refine go_getc (i := 8) X fc0 dX0_append_144 (nE hh) (tE hh) (Nat.le_of_ble_eq_true rfl) rfl lw7 rfl ?_
          refine go_aload_n X dX0_append_147 rfl 0 rfl ?_
          refine go_geti (i := 4) X fc0 dX0_append_148 (nE hh) (tE hh) (Nat.le_of_ble_eq_true rfl) rfl lw16 rfl (fun v20 hv20 => ?_)
          refine go_iload_n X dX0_append_151 rfl 3 rfl ?_
          refine goV (fun H locs ls r ho hW hL => runSN X (ok_X11_setEntry l D base M19 (h + 3) (isAEa3 hh) v20 hv20 a3 ha3 H.size r ho) dX0_append_152 nl19 lw21 lw19 ⟨lw14, cy_X11_setEntry, Nat.le_of_ble_eq_true rfl, Nat.le_of_ble_eq_true rfl⟩ rfl rfl (Nat.le_of_ble_eq_true rfl) hW hL hk0) (fun _ M21 => ?_)
          refine go_aload_n X dX0_append_155 rfl 0 rfl ?_
          refine go_getc (i := 9) X fc0 dX0_append_156 (nE hh) (tE hh) (Nat.le_of_ble_eq_true rfl) rfl lw8 rfl ?_
          refine go_aload_n X dX0_append_159 rfl 0 rfl ?_
          refine go_geti (i := 4) X fc0 dX0_append_160 (nE hh) (tE hh) (Nat.le_of_ble_eq_true rfl) rfl lw16 rfl (fun v22 hv22 => ?_)
          refine go_iconst (v := (-1)) X dX0_append_163 rfl ?_
          refine goV (fun H locs ls r ho hW hL => runSN X (ok_X11_setEntry l D base M21 (h + 4) (isAEa4 hh) v22 hv22 ((-1)) kI_m1 H.size r ho) dX0_append_164 nl19 lw21 lw19 ⟨lw14, cy_X11_setEntry, Nat.le_of_ble_eq_true rfl, Nat.le_of_ble_eq_true rfl⟩ rfl rfl (Nat.le_of_ble_eq_true rfl) hW hL hk0) (fun _ M23 => ?_)
          refine go_aload_n X dX0_append_167 rfl 0 rfl ?_
          refine go_getc (i := 10) X fc0 dX0_append_168 (nE hh) (tE hh) (Nat.le_of_ble_eq_true rfl) rfl lw9 rfl ?_
          refine go_aload_n X dX0_append_171 rfl 0 rfl ?_
          refine go_geti (i := 4) X fc0 dX0_append_172 (nE hh) (tE hh) (Nat.le_of_ble_eq_true rfl) rfl lw16 rfl (fun v24 hv24 => ?_)
          refine go_iconst (v := 0) X dX0_append_175 rfl ?_
          refine goV (fun H locs ls r ho hW hL => runSN X (ok_X11_setEntry l D base M23 (h + 5) (isAEa5 hh) v24 hv24 0 kI_0 H.size r ho) dX0_append_176 nl19 lw21 lw19 ⟨lw14, cy_X11_setEntry, Nat.le_of_ble_eq_true rfl, Nat.le_of_ble_eq_true rfl⟩ rfl rfl (Nat.le_of_ble_eq_true rfl) hW hL hk0) (fun _ M25 => ?_)
          refine go_aload_n X dX0_append_179 rfl 0 rfl ?_
          refine go_getc (i := 11) X fc0 dX0_append_180 (nE hh) (tE hh) (Nat.le_of_ble_eq_true rfl) rfl lw10 rfl ?_
          refine go_aload_n X dX0_append_183 rfl 0 rfl ?_
          refine go_geti (i := 4) X fc0 dX0_append_184 (nE hh) (tE hh) (Nat.le_of_ble_eq_true rfl) rfl lw16 rfl (fun v26 hv26 => ?_)
          refine go_iload X dX0_append_187 4 rfl ?_
          refine goV (fun H locs ls r ho hW hL => runSN X (ok_X11_setEntry l D base M25 (h + 6) (isAEa6 hh) v26 hv26 v13 hv13 H.size r ho) dX0_append_189 nl19 lw21 lw19 ⟨lw14, cy_X11_setEntry, Nat.le_of_ble_eq_true rfl, Nat.le_of_ble_eq_true rfl⟩ rfl rfl (Nat.le_of_ble_eq_true rfl) hW hL hk0) (fun _ M27 => ?_)
          refine go_aload_n X dX0_append_192 rfl 0 rfl ?_
          refine go_getc (i := 12) X fc0 dX0_append_193 (nE hh) (tE hh) (Nat.le_of_ble_eq_true rfl) rfl lw11 rfl ?_
          refine go_aload_n X dX0_append_196 rfl 0 rfl ?_
          refine go_geti (i := 5) X fc0 dX0_append_197 (nE hh) (tE hh) (Nat.le_of_ble_eq_true rfl) rfl lw17 rfl (fun v28 hv28 => ?_)
          refine go_aload_n X dX0_append_200 rfl 0 rfl ?_
          refine go_geti (i := 4) X fc0 dX0_append_201 (nE hh) (tE hh) (Nat.le_of_ble_eq_true rfl) rfl lw16 rfl (fun v29 hv29 => ?_)
          refine goV (fun H locs ls r ho hW hL => runSN X (ok_X11_setEntry l D base M27 (h + 7) (isAEa7 hh) v28 hv28 v29 hv29 H.size r ho) dX0_append_204 nl19 lw21 lw19 ⟨lw14, cy_X11_setEntry, Nat.le_of_ble_eq_true rfl, Nat.le_of_ble_eq_true rfl⟩ rfl rfl (Nat.le_of_ble_eq_true rfl) hW hL hk0) (fun _ M30 => ?_)
          refine go_aload_n X dX0_append_207 rfl 0 rfl ?_
          refine go_dup X dX0_append_208 rfl ?_
          refine go_geti (i := 5) X fc0 dX0_append_209 (nE hh) (tE hh) (Nat.le_of_ble_eq_true rfl) rfl lw17 rfl (fun v31 hv31 => ?_)
          refine go_iconst (v := 1) X dX0_append_212 rfl ?_
          refine go_iadd X dX0_append_213 hv31 kI_1 (fun v32 hv32 => ?_)
          refine go_puti (i := 5) X fc0 dX0_append_214 (nE hh) (tE hh) (Nat.le_of_ble_eq_true rfl) rfl lw17 rfl rfl rfl hv32 (fun M33 => ?_)
          refine go_aload_n X dX0_append_217 rfl 0 rfl ?_
          refine go_dup X dX0_append_218 rfl ?_
          refine go_geti (i := 4) X fc0 dX0_append_219 (nE hh) (tE hh) (Nat.le_of_ble_eq_true rfl) rfl lw16 rfl (fun v34 hv34 => ?_)
          refine go_iconst (v := 1) X dX0_append_222 rfl ?_
          refine go_iadd X dX0_append_223 hv34 kI_1 (fun v35 hv35 => ?_)
          refine go_puti (i := 4) X fc0 dX0_append_224 (nE hh) (tE hh) (Nat.le_of_ble_eq_true rfl) rfl lw16 rfl rfl rfl hv35 (fun M36 => ?_)
          exact go_vreturn X hrt hlk dX0_append_227
          )
          (fun J119_15 hJ119_15 => ?_)
      refine go_sub [3, 4, 5, 6, 2, 1, 0] rfl ?_
      exact go_lp (fun (rc : Int × Int × Mm → Rs) => ∀ (v37 : Int) (v38 : Int) (M39 : Mm), i32 v37 → i32 v38 → Go p l e (rmO 1 22) s m args below meth c D TC 681 base 8 0 0 (FinV D TC 681 base below args s) M39 45 [(0, .ref (base + h)), (1, .int (Ii a1)), (2, .int (Ii a2)), (3, .int (Ii a3)), (4, .int (Ii v2)), (5, .int (Ii v37)), (6, .int (Ii v38))] [] (rc (v37, v38, M39)))
          (by intro v37 v38 M39 hv37 hv38; exact go_none)
          (by
          intro rc45_40 hrc45_40 v37 v38 M39 hv37 hv38
          unfold f_X0_append_L45_57
          dsimp only
          refine go_iload X dX0_append_45 6 rfl ?_
          refine go_iload X dX0_append_47 4 rfl ?_
          refine go_icmp_ge (tgt := 119) X dX0_append_49 rfl hv38 hv2 (fun c41 => ?_) (fun c41 => ?_)
          · refine go_sub [0, 1, 2, 3, 5] rfl ?_
            exact hJ119_15 v37 M39 hv37
          · refine go_aload_n X dX0_append_52 rfl 0 rfl ?_
            refine go_getc (i := 12) X fc0 dX0_append_53 (nE hh) (tE hh) (Nat.le_of_ble_eq_true rfl) rfl lw11 rfl ?_
            refine go_aload_n X dX0_append_56 rfl 0 rfl ?_
            refine go_geti (i := 5) X fc0 dX0_append_57 (nE hh) (tE hh) (Nat.le_of_ble_eq_true rfl) rfl lw17 rfl (fun v42 hv42 => ?_)
            refine go_iload X dX0_append_60 6 rfl ?_
            refine go_iadd X dX0_append_62 hv42 hv38 (fun v43 hv43 => ?_)
            refine goI (fun H locs ls r ho hW hL => runSN X (ok_X11_entryOf l D base M39 (h + 7) (isAEa7 hh) v43 hv43 H.size r ho) dX0_append_63 nl18 lw20 lw19 ⟨lw13, cy_X11_entryOf, Nat.le_of_ble_eq_true rfl, Nat.le_of_ble_eq_true rfl⟩ rfl rfl (Nat.le_of_ble_eq_true rfl) hW hL hk0) (fun v45 M44 hv45 => ?_)
            refine go_istore (i := 7) (L' := [(7, .int (Ii v45)), (0, .ref (base + h)), (1, .int (Ii a1)), (2, .int (Ii a2)), (3, .int (Ii a3)), (4, .int (Ii v2)), (5, .int (Ii v37)), (6, .int (Ii v38))]) X dX0_append_66 (by decide) rfl ?_
            refine go_aload_n X dX0_append_68 rfl 1 rfl ?_
            refine go_getc (i := 9) X fc0 dX0_append_69 (nE hh) (tE hh) (Nat.le_of_ble_eq_true rfl) rfl lw8 rfl ?_
            refine go_iload X dX0_append_72 0 rfl ?_
            refine go_aload_n X dX0_append_74 rfl 1 rfl ?_
            refine go_geti (i := 4) X fc0 dX0_append_75 (nE hh) (tE hh) (Nat.le_of_ble_eq_true rfl) rfl lw16 rfl (fun v46 hv46 => ?_)
            refine goV (fun H locs ls r ho hW hL => runSN X (ok_X11_setEntry l D base M44 (h + 4) (isAEa4 hh) v45 hv45 v46 hv46 H.size r ho) dX0_append_78 nl19 lw21 lw19 ⟨lw14, cy_X11_setEntry, Nat.le_of_ble_eq_true rfl, Nat.le_of_ble_eq_true rfl⟩ rfl rfl (Nat.le_of_ble_eq_true rfl) hW hL hk0) (fun _ M47 => ?_)
            refine go_aload_n X dX0_append_81 rfl 1 rfl ?_
            refine go_getc (i := 10) X fc0 dX0_append_82 (nE hh) (tE hh) (Nat.le_of_ble_eq_true rfl) rfl lw9 rfl ?_
            refine go_iload X dX0_append_85 0 rfl ?_
            refine go_iload X dX0_append_87 7 rfl ?_
            refine goV (fun H locs ls r ho hW hL => runSN X (ok_X11_setEntry l D base M47 (h + 5) (isAEa5 hh) v45 hv45 v38 hv38 H.size r ho) dX0_append_89 nl19 lw21 lw19 ⟨lw14, cy_X11_setEntry, Nat.le_of_ble_eq_true rfl, Nat.le_of_ble_eq_true rfl⟩ rfl rfl (Nat.le_of_ble_eq_true rfl) hW hL hk0) (fun _ M48 => ?_)
            refine go_iload X dX0_append_92 7 rfl ?_
            refine go_lt (fun J => ∀ (v49 : Int) (v50 : Int) (M51 : Mm), i32 v49 → i32 v50 → Go p l e (rmO 1 22) s m args below meth c D TC 681 base 8 0 0 (FinV D TC 681 base below args s) M51 111 [(0, .ref (base + h)), (1, .int (Ii a1)), (2, .int (Ii a2)), (3, .int (Ii a3)), (4, .int (Ii v2)), (6, .int (Ii v49))] [.int (Ii v50)] (J v49 v50 M51)) (by
                intro v49 v50 M51 hv49 hv50
                refine go_istore (i := 5) (L' := [(5, .int (Ii v50)), (0, .ref (base + h)), (1, .int (Ii a1)), (2, .int (Ii a2)), (3, .int (Ii a3)), (4, .int (Ii v2)), (6, .int (Ii v49))]) X dX0_append_111 (by decide) rfl ?_
                refine go_iinc (i := 6) (L' := fun v => [(6, .int (Ii v)), (5, .int (Ii v50)), (0, .ref (base + h)), (1, .int (Ii a1)), (2, .int (Ii a2)), (3, .int (Ii a3)), (4, .int (Ii v2))]) X dX0_append_113 hv49 kI_1 (j := 6) rfl (by decide) (fun _ => rfl) (fun v53 hv53 => ?_)
                refine go_goto (tgt := 45) X dX0_append_116 rfl ?_
                refine go_sub [2, 3, 4, 5, 6, 1, 0] rfl ?_
                exact hrc45_40 v50 v53 M51 hv50 hv53
                )
                (fun J111_52 hJ111_52 => ?_)
            refine go_if_ne (tgt := 109) X dX0_append_94 rfl hv38 (fun c54 => ?_) (fun c54 => ?_)
            · refine go_iload X dX0_append_109 6 rfl ?_
              refine go_sub [1, 2, 3, 4, 5, 7] rfl ?_
              exact hJ111_52 v38 v37 M48 hv38 hv37
            · refine go_aload_n X dX0_append_97 rfl 1 rfl ?_
              refine go_getc (i := 11) X fc0 dX0_append_98 (nE hh) (tE hh) (Nat.le_of_ble_eq_true rfl) rfl lw10 rfl ?_
              refine go_iload X dX0_append_101 0 rfl ?_
              refine goI (fun H locs ls r ho hW hL => runSN X (ok_X11_entryOf l D base M48 (h + 6) (isAEa6 hh) v45 hv45 H.size r ho) dX0_append_103 nl18 lw20 lw19 ⟨lw13, cy_X11_entryOf, Nat.le_of_ble_eq_true rfl, Nat.le_of_ble_eq_true rfl⟩ rfl rfl (Nat.le_of_ble_eq_true rfl) hW hL hk0) (fun v56 M55 hv56 => ?_)
              refine go_goto (tgt := 111) X dX0_append_106 rfl ?_
              refine go_sub [1, 2, 3, 4, 5, 7] rfl ?_
              exact hJ111_52 v38 v56 M55 hv38 hv56
          )
          FU v9 0 M12 hv9 kI_0
    · refine go_sub [] rfl ?_
      exact hJ24_5 M1
