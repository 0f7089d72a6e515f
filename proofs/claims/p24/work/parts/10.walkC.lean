def f_X0_place (h : Nat) (a1 : Int) (a2 : Int) (a3 : Int) (a4 : Int) (M : Mm) : Rs :=
Lt (up M h 0 a1) fun M1 =>
Lt (up M1 h 1 a2) fun M2 =>
Lt (up M2 h 2 a3) fun M3 =>
Lt (up M3 h 3 a4) fun M4 =>
some (0, M4)
theorem cy_X0_place : yX0_place.cls ≠ "java/lang/invoke/MethodHandle" ∧ yX0_place.cls ≠ "java/lang/invoke/VarHandle" ∧ (parseMethodDescriptor yX0_place.desc).map (fun d => d.parameters.length) = some 4 := ⟨by decide +kernel, by decide +kernel, by decide +kernel⟩
set_option maxRecDepth 20000 in
theorem ok_X0_place (l : Launch) (D : Dd) (base : Nat) (M : Mm) (h : Nat) (hh : isE h) (a1 : Int) (ha1 : i32 a1) (a2 : Int) (ha2 : i32 a2) (a3 : Int) (ha3 : i32 a3) (a4 : Int) (ha4 : i32 a4) : OkV l D TC 681 base yX0_place cX0_place 5 none 0 0 [.ref (base + h), .int (Ii a1), .int (Ii a2), .int (Ii a3), .int (Ii a4)] M (f_X0_place h a1 a2 a3 a4 M) := by
  refine metV (by decide +kernel) [(0, .ref (base + h)), (1, .int (Ii a1)), (2, .int (Ii a2)), (3, .int (Ii a3)), (4, .int (Ii a4))] rfl (Nat.le_of_ble_eq_true rfl) (fun p e s m args below meth c X hrt hlk => ?_)
  have X : Cx p s m args c cX0_place D 5 RX0 := X
  unfold f_X0_place
  refine go_aload_n X dX0_place_0 rfl 0 rfl ?_
  refine go_iload_n X dX0_place_1 rfl 1 rfl ?_
  refine go_puti (i := 0) X fc0 dX0_place_2 (nE hh) (tE hh) (Nat.le_of_ble_eq_true rfl) rfl lw24 rfl rfl rfl ha1 (fun M1 => ?_)
  refine go_aload_n X dX0_place_5 rfl 0 rfl ?_
  refine go_iload_n X dX0_place_6 rfl 2 rfl ?_
  refine go_puti (i := 1) X fc0 dX0_place_7 (nE hh) (tE hh) (Nat.le_of_ble_eq_true rfl) rfl lw25 rfl rfl rfl ha2 (fun M2 => ?_)
  refine go_aload_n X dX0_place_10 rfl 0 rfl ?_
  refine go_iload_n X dX0_place_11 rfl 3 rfl ?_
  refine go_puti (i := 2) X fc0 dX0_place_12 (nE hh) (tE hh) (Nat.le_of_ble_eq_true rfl) rfl lw26 rfl rfl rfl ha3 (fun M3 => ?_)
  refine go_aload_n X dX0_place_15 rfl 0 rfl ?_
  refine go_iload X dX0_place_16 4 rfl ?_
  refine go_puti (i := 3) X fc0 dX0_place_18 (nE hh) (tE hh) (Nat.le_of_ble_eq_true rfl) rfl lw27 rfl rfl rfl ha4 (fun M4 => ?_)
  exact go_vreturn X hrt hlk dX0_place_21
def f_X0_take (h : Nat) (r1 : Nat) (M : Mm) : Rs :=
Lt (M r1 0) fun v1 =>
Lt (M r1 1) fun v2 =>
Lt (M r1 2) fun v3 =>
Lt (M r1 3) fun v4 =>
Cl (f_X0_place h v1 v2 v3 v4 M) fun _ M5 =>
Lt (M5 r1 4) fun v6 =>
Lt (up M5 h 4 v6) fun M7 =>
Lt (M7 r1 5) fun v8 =>
Lt (up M7 h 5 v8) fun M9 =>
Cl (f_X11_copyRow (r1 + 1) (h + 1) M9) fun _ M10 =>
Cl (f_X11_copyRow (r1 + 2) (h + 2) M10) fun _ M11 =>
Cl (f_X11_copyRow (r1 + 3) (h + 3) M11) fun _ M12 =>
Cl (f_X11_copyRow (r1 + 4) (h + 4) M12) fun _ M13 =>
Cl (f_X11_copyRow (r1 + 5) (h + 5) M13) fun _ M14 =>
Cl (f_X11_copyRow (r1 + 6) (h + 6) M14) fun _ M15 =>
some (0, M15)
theorem cy_X0_take : yX0_take.cls ≠ "java/lang/invoke/MethodHandle" ∧ yX0_take.cls ≠ "java/lang/invoke/VarHandle" ∧ (parseMethodDescriptor yX0_take.desc).map (fun d => d.parameters.length) = some 1 := ⟨by decide +kernel, by decide +kernel, by decide +kernel⟩
set_option maxRecDepth 20000 in
theorem ok_X0_take (l : Launch) (D : Dd) (base : Nat) (M : Mm) (h : Nat) (hh : isE h) (r1 : Nat) (hr1 : isE r1) : OkV l D TC 681 base yX0_take cX0_take 2 none 1 24 [.ref (base + h), .ref (base + r1)] M (f_X0_take h r1 M) := by
  refine metV (by decide +kernel) [(0, .ref (base + h)), (1, .ref (base + r1))] rfl (Nat.le_of_ble_eq_true rfl) (fun p e s m args below meth c X hrt hlk => ?_)
  have X : Cx p s m args c cX0_take D 2 RX0 := X
  unfold f_X0_take
  refine go_aload_n X dX0_take_0 rfl 0 rfl ?_
  refine go_aload_n X dX0_take_1 rfl 1 rfl ?_
  refine go_geti (i := 0) X fc0 dX0_take_2 (nE hr1) (tE hr1) (Nat.le_of_ble_eq_true rfl) rfl lw24 rfl (fun v1 hv1 => ?_)
  refine go_aload_n X dX0_take_5 rfl 1 rfl ?_
  refine go_geti (i := 1) X fc0 dX0_take_6 (nE hr1) (tE hr1) (Nat.le_of_ble_eq_true rfl) rfl lw25 rfl (fun v2 hv2 => ?_)
  refine go_aload_n X dX0_take_9 rfl 1 rfl ?_
  refine go_geti (i := 2) X fc0 dX0_take_10 (nE hr1) (tE hr1) (Nat.le_of_ble_eq_true rfl) rfl lw26 rfl (fun v3 hv3 => ?_)
  refine go_aload_n X dX0_take_13 rfl 1 rfl ?_
  refine go_geti (i := 3) X fc0 dX0_take_14 (nE hr1) (tE hr1) (Nat.le_of_ble_eq_true rfl) rfl lw27 rfl (fun v4 hv4 => ?_)
  refine goV (fun H locs ls r ho hW hL => runV X (ok_X0_place l D base M h hh v1 hv1 v2 hv2 v3 hv3 v4 hv4 H.size r ho) dX0_take_17 lw30 lw31 lw32 lw33 ⟨lw23, cy_X0_place, Nat.le_of_ble_eq_true rfl, Nat.le_of_ble_eq_true rfl⟩ rfl (nE hh) (tE hh) rfl rfl rfl rfl (Nat.le_of_ble_eq_true rfl) hW hL hk0) (fun _ M5 => ?_)
  refine go_aload_n X dX0_take_20 rfl 0 rfl ?_
  refine go_aload_n X dX0_take_21 rfl 1 rfl ?_
  refine go_geti (i := 4) X fc0 dX0_take_22 (nE hr1) (tE hr1) (Nat.le_of_ble_eq_true rfl) rfl lw16 rfl (fun v6 hv6 => ?_)
  refine go_puti (i := 4) X fc0 dX0_take_25 (nE hh) (tE hh) (Nat.le_of_ble_eq_true rfl) rfl lw16 rfl rfl rfl hv6 (fun M7 => ?_)
  refine go_aload_n X dX0_take_28 rfl 0 rfl ?_
  refine go_aload_n X dX0_take_29 rfl 1 rfl ?_
  refine go_geti (i := 5) X fc0 dX0_take_30 (nE hr1) (tE hr1) (Nat.le_of_ble_eq_true rfl) rfl lw17 rfl (fun v8 hv8 => ?_)
  refine go_puti (i := 5) X fc0 dX0_take_33 (nE hh) (tE hh) (Nat.le_of_ble_eq_true rfl) rfl lw17 rfl rfl rfl hv8 (fun M9 => ?_)
  refine go_aload_n X dX0_take_36 rfl 1 rfl ?_
  refine go_getc (i := 6) X fc0 dX0_take_37 (nE hr1) (tE hr1) (Nat.le_of_ble_eq_true rfl) rfl lw5 rfl ?_
  refine go_aload_n X dX0_take_40 rfl 0 rfl ?_
  refine go_getc (i := 6) X fc0 dX0_take_41 (nE hh) (tE hh) (Nat.le_of_ble_eq_true rfl) rfl lw5 rfl ?_
  refine goV (fun H locs ls r ho hW hL => runSN X (ok_X11_copyRow l D base M9 (r1 + 1) (isAEa1 hr1) (h + 1) (isAEa1 hh) H.size r ho) dX0_take_44 nl20 lw34 lw19 ⟨lw28, cy_X11_copyRow, Nat.le_of_ble_eq_true rfl, Nat.le_of_ble_eq_true rfl⟩ rfl rfl (Nat.le_of_ble_eq_true rfl) hW hL hk0) (fun _ M10 => ?_)
  refine go_aload_n X dX0_take_47 rfl 1 rfl ?_
  refine go_getc (i := 7) X fc0 dX0_take_48 (nE hr1) (tE hr1) (Nat.le_of_ble_eq_true rfl) rfl lw6 rfl ?_
  refine go_aload_n X dX0_take_51 rfl 0 rfl ?_
  refine go_getc (i := 7) X fc0 dX0_take_52 (nE hh) (tE hh) (Nat.le_of_ble_eq_true rfl) rfl lw6 rfl ?_
  refine goV (fun H locs ls r ho hW hL => runSN X (ok_X11_copyRow l D base M10 (r1 + 2) (isAEa2 hr1) (h + 2) (isAEa2 hh) H.size r ho) dX0_take_55 nl20 lw34 lw19 ⟨lw28, cy_X11_copyRow, Nat.le_of_ble_eq_true rfl, Nat.le_of_ble_eq_true rfl⟩ rfl rfl (Nat.le_of_ble_eq_true rfl) hW hL hk0) (fun _ M11 => ?_)
  refine go_aload_n X dX0_take_58 rfl 1 rfl ?_
  refine go_getc (i := 8) X fc0 dX0_take_59 (nE hr1) (tE hr1) (Nat.le_of_ble_eq_true rfl) rfl lw7 rfl ?_
  refine go_aload_n X dX0_take_62 rfl 0 rfl ?_
  refine go_getc (i := 8) X fc0 dX0_take_63 (nE hh) (tE hh) (Nat.le_of_ble_eq_true rfl) rfl lw7 rfl ?_
  refine goV (fun H locs ls r ho hW hL => runSN X (ok_X11_copyRow l D base M11 (r1 + 3) (isAEa3 hr1) (h + 3) (isAEa3 hh) H.size r ho) dX0_take_66 nl20 lw34 lw19 ⟨lw28, cy_X11_copyRow, Nat.le_of_ble_eq_true rfl, Nat.le_of_ble_eq_true rfl⟩ rfl rfl (Nat.le_of_ble_eq_true rfl) hW hL hk0) (fun _ M12 => ?_)
  refine go_aload_n X dX0_take_69 rfl 1 rfl ?_
  refine go_getc (i := 9) X fc0 dX0_take_70 (nE hr1) (tE hr1) (Nat.le_of_ble_eq_true rfl) rfl lw8 rfl ?_
  refine go_aload_n X dX0_take_73 rfl 0 rfl ?_
  refine go_getc (i := 9) X fc0 dX0_take_74 (nE hh) (tE hh) (Nat.le_of_ble_eq_true rfl) rfl lw8 rfl ?_
  refine goV (fun H locs ls r ho hW hL => runSN X (ok_X11_copyRow l D base M12 (r1 + 4) (isAEa4 hr1) (h + 4) (isAEa4 hh) H.size r ho) dX0_take_77 nl20 lw34 lw19 ⟨lw28, cy_X11_copyRow, Nat.le_of_ble_eq_true rfl, Nat.le_of_ble_eq_true rfl⟩ rfl rfl (Nat.le_of_ble_eq_true rfl) hW hL hk0) (fun _ M13 => ?_)
  refine go_aload_n X dX0_take_80 rfl 1 rfl ?_
  refine go_getc (i := 10) X fc0 dX0_take_81 (nE hr1) (tE hr1) (Nat.le_of_ble_eq_true rfl) rfl lw9 rfl ?_
  refine go_aload_n X dX0_take_84 rfl 0 rfl ?_
  refine go_getc (i := 10) X fc0 dX0_take_85 (nE hh) (tE hh) (Nat.le_of_ble_eq_true rfl) rfl lw9 rfl ?_
  refine goV (fun H locs ls r ho hW hL => runSN X (ok_X11_copyRow l D base M13 (r1 + 5) (isAEa5 hr1) (h + 5) (isAEa5 hh) H.size r ho) dX0_take_88 nl20 lw34 lw19 ⟨lw28, cy_X11_copyRow, Nat.le_of_ble_eq_true rfl, Nat.le_of_ble_eq_true rfl⟩ rfl rfl (Nat.le_of_ble_eq_true rfl) hW hL hk0) (fun _ M14 => ?_)
  refine go_aload_n X dX0_take_91 rfl 1 rfl ?_
  refine go_getc (i := 11) X fc0 dX0_take_92 (nE hr1) (tE hr1) (Nat.le_of_ble_eq_true rfl) rfl lw10 rfl ?_
  refine go_aload_n X dX0_take_95 rfl 0 rfl ?_
  refine go_getc (i := 11) X fc0 dX0_take_96 (nE hh) (tE hh) (Nat.le_of_ble_eq_true rfl) rfl lw10 rfl ?_
  refine goV (fun H locs ls r ho hW hL => runSN X (ok_X11_copyRow l D base M14 (r1 + 6) (isAEa6 hr1) (h + 6) (isAEa6 hh) H.size r ho) dX0_take_99 nl20 lw34 lw19 ⟨lw28, cy_X11_copyRow, Nat.le_of_ble_eq_true rfl, Nat.le_of_ble_eq_true rfl⟩ rfl rfl (Nat.le_of_ble_eq_true rfl) hW hL hk0) (fun _ M15 => ?_)
  exact go_vreturn X hrt hlk dX0_take_102
def f_X5_appendTo (r1 : Nat) (r2 : Nat) (a3 : Int) (a4 : Int) (M : Mm) : Rs :=
Cl (f_X11_entryOf r2 a3 M) fun v2 M1 =>
Lt (wr (a3 * 3)) fun v3 =>
Lt (wr (v3 + v2)) fun v4 =>
Cl (f_X11_setEntry r1 v4 a4 M1) fun _ M5 =>
Lt (wr (v2 + 1)) fun v6 =>
Cl (f_X11_setEntry r2 a3 v6 M5) fun _ M7 =>
some (0, M7)
theorem cy_X5_appendTo : yX5_appendTo.cls ≠ "java/lang/invoke/MethodHandle" ∧ yX5_appendTo.cls ≠ "java/lang/invoke/VarHandle" ∧ (parseMethodDescriptor yX5_appendTo.desc).map (fun d => d.parameters.length) = some 4 := ⟨by decide +kernel, by decide +kernel, by decide +kernel⟩
set_option maxRecDepth 20000 in
theorem ok_X5_appendTo (l : Launch) (D : Dd) (base : Nat) (M : Mm) (r1 : Nat) (hr1 : isAC r1) (r2 : Nat) (hr2 : isAC r2) (a3 : Int) (ha3 : i32 a3) (a4 : Int) (ha4 : i32 a4) : OkV l D TC 681 base yX5_appendTo cX5_appendTo 5 none 1 22 [.ref (base + r1), .ref (base + r2), .int (Ii a3), .int (Ii a4)] M (f_X5_appendTo r1 r2 a3 a4 M) := by
  refine metV (by decide +kernel) [(0, .ref (base + r1)), (1, .ref (base + r2)), (2, .int (Ii a3)), (3, .int (Ii a4))] rfl (Nat.le_of_ble_eq_true rfl) (fun p e s m args below meth c X hrt hlk => ?_)
  have X : Cx p s m args c cX5_appendTo D 5 RX5 := X
  unfold f_X5_appendTo
  refine go_aload_n X dX5_appendTo_0 rfl 1 rfl ?_
  refine go_iload_n X dX5_appendTo_1 rfl 2 rfl ?_
  refine goI (fun H locs ls r ho hW hL => runSN X (ok_X11_entryOf l D base M r2 hr2 a3 ha3 H.size r ho) dX5_appendTo_2 nl10 lw20 lw19 ⟨lw13, cy_X11_entryOf, Nat.le_of_ble_eq_true rfl, Nat.le_of_ble_eq_true rfl⟩ rfl rfl (Nat.le_of_ble_eq_true rfl) hW hL hk0) (fun v2 M1 hv2 => ?_)
  refine go_istore (i := 4) (L' := [(4, .int (Ii v2)), (0, .ref (base + r1)), (1, .ref (base + r2)), (2, .int (Ii a3)), (3, .int (Ii a4))]) X dX5_appendTo_5 (by decide) rfl ?_
  refine go_aload_n X dX5_appendTo_7 rfl 1 rfl ?_
  refine go_iload_n X dX5_appendTo_8 rfl 3 rfl ?_
  refine go_iconst (v := 3) X dX5_appendTo_9 rfl ?_
  refine go_imul X dX5_appendTo_10 ha3 kI_3 (fun v3 hv3 => ?_)
  refine go_iload X dX5_appendTo_11 0 rfl ?_
  refine go_iadd X dX5_appendTo_13 hv3 hv2 (fun v4 hv4 => ?_)
  refine go_iload_n X dX5_appendTo_14 rfl 4 rfl ?_
  refine goV (fun H locs ls r ho hW hL => runSN X (ok_X11_setEntry l D base M1 r1 hr1 v4 hv4 a4 ha4 H.size r ho) dX5_appendTo_15 nl11 lw21 lw19 ⟨lw14, cy_X11_setEntry, Nat.le_of_ble_eq_true rfl, Nat.le_of_ble_eq_true rfl⟩ rfl rfl (Nat.le_of_ble_eq_true rfl) hW hL hk0) (fun _ M5 => ?_)
  refine go_aload_n X dX5_appendTo_18 rfl 2 rfl ?_
  refine go_iload_n X dX5_appendTo_19 rfl 3 rfl ?_
  refine go_iload X dX5_appendTo_20 0 rfl ?_
  refine go_iconst (v := 1) X dX5_appendTo_22 rfl ?_
  refine go_iadd X dX5_appendTo_23 hv2 kI_1 (fun v6 hv6 => ?_)
  refine goV (fun H locs ls r ho hW hL => runSN X (ok_X11_setEntry l D base M5 r2 hr2 a3 ha3 v6 hv6 H.size r ho) dX5_appendTo_24 nl11 lw21 lw19 ⟨lw14, cy_X11_setEntry, Nat.le_of_ble_eq_true rfl, Nat.le_of_ble_eq_true rfl⟩ rfl rfl (Nat.le_of_ble_eq_true rfl) hW hL hk0) (fun _ M7 => ?_)
  exact go_vreturn X hrt hlk dX5_appendTo_27
def f_X5_appendSymbol (a1 : Int) (a2 : Int) (M : Mm) : Rs :=
if 0 ≤ a2 then (
Cl (f_X5_appendTo 4 3 a1 a2 M) fun _ M2 =>
Lt (fun (M3 : Mm) => 
some (0, M3)) fun J54_4 =>
if 4 ≤ a2 then (
Lt (wr (a2 - 4)) fun v6 =>
Cl (f_X5_appendTo 8 7 a1 v6 M2) fun _ M7 =>
J54_4 M7) else (
Cl (f_X5_appendTo 6 5 a1 a2 M2) fun _ M8 =>
J54_4 M8)) else (
some (0, M))
theorem cy_X5_appendSymbol : yX5_appendSymbol.cls ≠ "java/lang/invoke/MethodHandle" ∧ yX5_appendSymbol.cls ≠ "java/lang/invoke/VarHandle" ∧ (parseMethodDescriptor yX5_appendSymbol.desc).map (fun d => d.parameters.length) = some 2 := ⟨by decide +kernel, by decide +kernel, by decide +kernel⟩
set_option maxRecDepth 20000 in
theorem ok_X5_appendSymbol (l : Launch) (D : Dd) (base : Nat) (M : Mm) (a1 : Int) (ha1 : i32 a1) (a2 : Int) (ha2 : i32 a2) : OkV l D TC 681 base yX5_appendSymbol cX5_appendSymbol 3 none 2 46 [.ref (base + 1), .int (Ii a1), .int (Ii a2)] M (f_X5_appendSymbol a1 a2 M) := by
  refine metV (by decide +kernel) [(0, .ref (base + 1)), (1, .int (Ii a1)), (2, .int (Ii a2))] rfl (Nat.le_of_ble_eq_true rfl) (fun p e s m args below meth c X hrt hlk => ?_)
  have X : Cx p s m args c cX5_appendSymbol D 3 RX5 := X
  unfold f_X5_appendSymbol
  refine go_iload_n X dX5_appendSymbol_0 rfl 2 rfl ?_
  refine go_if_ge (tgt := 5) X dX5_appendSymbol_1 rfl ha2 (fun c1 => ?_) (fun c1 => ?_)
  · refine go_aload_n X dX5_appendSymbol_5 rfl 0 rfl ?_
    refine go_getc (i := 4) X fc5 dX5_appendSymbol_6 tcn1 tc1 (Nat.le_of_ble_eq_true rfl) rfl lw395 rfl ?_
    refine go_aload_n X dX5_appendSymbol_9 rfl 0 rfl ?_
    refine go_getc (i := 3) X fc5 dX5_appendSymbol_10 tcn1 tc1 (Nat.le_of_ble_eq_true rfl) rfl lw394 rfl ?_
    refine go_iload_n X dX5_appendSymbol_13 rfl 1 rfl ?_
    refine go_iload_n X dX5_appendSymbol_14 rfl 2 rfl ?_
    refine goV (fun H locs ls r ho hW hL => runS X (ok_X5_appendTo l D base M 4 isAC_4 3 isAC_3 a1 ha1 a2 ha2 H.size r ho) dX5_appendSymbol_15 lw401 lw402 lw80 ⟨lw399, cy_X5_appendTo, Nat.le_of_ble_eq_true rfl, Nat.le_of_ble_eq_true rfl⟩ rfl rfl (Nat.le_of_ble_eq_true rfl) hW hL hk0) (fun _ M2 => ?_)
    refine go_iload_n X dX5_appendSymbol_18 rfl 2 rfl ?_
    refine go_iconst (v := 4) X dX5_appendSymbol_19 rfl ?_
    refine go_lt (fun J => ∀ (M3 : Mm), Go p l e (rmO 2 46) s m args below meth c D TC 681 base 3 0 0 (FinV D TC 681 base below args s) M3 54 [] [] (J M3)) (by
        intro M3
        exact go_vreturn X hrt hlk dX5_appendSymbol_54
        )
        (fun J54_4 hJ54_4 => ?_)
    refine go_icmp_ge (tgt := 39) X dX5_appendSymbol_20 rfl ha2 kI_4 (fun c5 => ?_) (fun c5 => ?_)
    · refine go_aload_n X dX5_appendSymbol_39 rfl 0 rfl ?_
      refine go_getc (i := 8) X fc5 dX5_appendSymbol_40 tcn1 tc1 (Nat.le_of_ble_eq_true rfl) rfl lw281 rfl ?_
      refine go_aload_n X dX5_appendSymbol_43 rfl 0 rfl ?_
      refine go_getc (i := 7) X fc5 dX5_appendSymbol_44 tcn1 tc1 (Nat.le_of_ble_eq_true rfl) rfl lw280 rfl ?_
      refine go_iload_n X dX5_appendSymbol_47 rfl 1 rfl ?_
      refine go_iload_n X dX5_appendSymbol_48 rfl 2 rfl ?_
      refine go_iconst (v := 4) X dX5_appendSymbol_49 rfl ?_
      refine go_isub X dX5_appendSymbol_50 ha2 kI_4 (fun v6 hv6 => ?_)
      refine goV (fun H locs ls r ho hW hL => runS X (ok_X5_appendTo l D base M2 8 isAC_8 7 isAC_7 a1 ha1 v6 hv6 H.size r ho) dX5_appendSymbol_51 lw401 lw402 lw80 ⟨lw399, cy_X5_appendTo, Nat.le_of_ble_eq_true rfl, Nat.le_of_ble_eq_true rfl⟩ rfl rfl (Nat.le_of_ble_eq_true rfl) hW hL hk0) (fun _ M7 => ?_)
      refine go_sub [] rfl ?_
      exact hJ54_4 M7
    · refine go_aload_n X dX5_appendSymbol_23 rfl 0 rfl ?_
      refine go_getc (i := 6) X fc5 dX5_appendSymbol_24 tcn1 tc1 (Nat.le_of_ble_eq_true rfl) rfl lw396 rfl ?_
      refine go_aload_n X dX5_appendSymbol_27 rfl 0 rfl ?_
      refine go_getc (i := 5) X fc5 dX5_appendSymbol_28 tcn1 tc1 (Nat.le_of_ble_eq_true rfl) rfl lw68 rfl ?_
      refine go_iload_n X dX5_appendSymbol_31 rfl 1 rfl ?_
      refine go_iload_n X dX5_appendSymbol_32 rfl 2 rfl ?_
      refine goV (fun H locs ls r ho hW hL => runS X (ok_X5_appendTo l D base M2 6 isAC_6 5 isAC_5 a1 ha1 a2 ha2 H.size r ho) dX5_appendSymbol_33 lw401 lw402 lw80 ⟨lw399, cy_X5_appendTo, Nat.le_of_ble_eq_true rfl, Nat.le_of_ble_eq_true rfl⟩ rfl rfl (Nat.le_of_ble_eq_true rfl) hW hL hk0) (fun _ M8 => ?_)
      refine go_goto (tgt := 54) X dX5_appendSymbol_36 rfl ?_
      refine go_sub [] rfl ?_
      exact hJ54_4 M8
  · exact go_vreturn X hrt hlk dX5_appendSymbol_4
def f_X5_addProduction (a1 : Int) (a2 : Int) (a3 : Int) (a4 : Int) (M : Mm) : Rs :=
Lt (M 1 0) fun v1 =>
Lt (M 1 0) fun v2 =>
Lt (wr (v2 + 1)) fun v3 =>
Lt (up M 1 0 v3) fun M4 =>
Cl (f_X11_setEntry 2 v1 a1 M4) fun _ M5 =>
Cl (f_X11_setEntry 3 v1 0 M5) fun _ M6 =>
Cl (f_X11_setEntry 5 v1 0 M6) fun _ M7 =>
Cl (f_X11_setEntry 7 v1 0 M7) fun _ M8 =>
Cl (f_X11_setEntry 9 v1 ((-1)) M8) fun _ M9 =>
Cl (f_X11_setEntry 11 v1 ((-1)) M9) fun _ M10 =>
Cl (f_X11_setEntry 12 v1 ((-1)) M10) fun _ M11 =>
Cl (f_X5_appendSymbol v1 a2 M11) fun _ M12 =>
Cl (f_X5_appendSymbol v1 a3 M12) fun _ M13 =>
Cl (f_X5_appendSymbol v1 a4 M13) fun _ M14 =>
some (v1, M14)
theorem cy_X5_addProduction : yX5_addProduction.cls ≠ "java/lang/invoke/MethodHandle" ∧ yX5_addProduction.cls ≠ "java/lang/invoke/VarHandle" ∧ (parseMethodDescriptor yX5_addProduction.desc).map (fun d => d.parameters.length) = some 4 := ⟨by decide +kernel, by decide +kernel, by decide +kernel⟩
set_option maxRecDepth 20000 in
theorem ok_X5_addProduction (l : Launch) (D : Dd) (base : Nat) (M : Mm) (a1 : Int) (ha1 : i32 a1) (a2 : Int) (ha2 : i32 a2) (a3 : Int) (ha3 : i32 a3) (a4 : Int) (ha4 : i32 a4) : OkI l D TC 681 base yX5_addProduction cX5_addProduction 6 (some .int) 3 68 [.ref (base + 1), .int (Ii a1), .int (Ii a2), .int (Ii a3), .int (Ii a4)] M i32 (f_X5_addProduction a1 a2 a3 a4 M) := by
  refine metI (by decide +kernel) [(0, .ref (base + 1)), (1, .int (Ii a1)), (2, .int (Ii a2)), (3, .int (Ii a3)), (4, .int (Ii a4))] rfl (Nat.le_of_ble_eq_true rfl) (fun p e s m args below meth c X hrt hlk => ?_)
  have X : Cx p s m args c cX5_addProduction D 6 RX5 := X
  unfold f_X5_addProduction
  refine go_aload_n X dX5_addProduction_0 rfl 0 rfl ?_
  refine go_geti (i := 0) X fc5 dX5_addProduction_1 tcn1 tc1 (Nat.le_of_ble_eq_true rfl) rfl lw404 rfl (fun v1 hv1 => ?_)
  refine go_istore (i := 5) (L' := [(5, .int (Ii v1)), (0, .ref (base + 1)), (1, .int (Ii a1)), (2, .int (Ii a2)), (3, .int (Ii a3)), (4, .int (Ii a4))]) X dX5_addProduction_4 (by decide) rfl ?_
  refine go_aload_n X dX5_addProduction_6 rfl 1 rfl ?_
  refine go_dup X dX5_addProduction_7 rfl ?_
  refine go_geti (i := 0) X fc5 dX5_addProduction_8 tcn1 tc1 (Nat.le_of_ble_eq_true rfl) rfl lw404 rfl (fun v2 hv2 => ?_)
  refine go_iconst (v := 1) X dX5_addProduction_11 rfl ?_
  refine go_iadd X dX5_addProduction_12 hv2 kI_1 (fun v3 hv3 => ?_)
  refine go_puti (i := 0) X fc5 dX5_addProduction_13 tcn1 tc1 (Nat.le_of_ble_eq_true rfl) rfl lw404 rfl rfl rfl hv3 (fun M4 => ?_)
  refine go_aload_n X dX5_addProduction_16 rfl 1 rfl ?_
  refine go_getc (i := 2) X fc5 dX5_addProduction_17 tcn1 tc1 (Nat.le_of_ble_eq_true rfl) rfl lw393 rfl ?_
  refine go_iload X dX5_addProduction_20 0 rfl ?_
  refine go_iload_n X dX5_addProduction_22 rfl 2 rfl ?_
  refine goV (fun H locs ls r ho hW hL => runSN X (ok_X11_setEntry l D base M4 2 isAC_2 v1 hv1 a1 ha1 H.size r ho) dX5_addProduction_23 nl11 lw21 lw19 ⟨lw14, cy_X11_setEntry, Nat.le_of_ble_eq_true rfl, Nat.le_of_ble_eq_true rfl⟩ rfl rfl (Nat.le_of_ble_eq_true rfl) hW hL hk0) (fun _ M5 => ?_)
  refine go_aload_n X dX5_addProduction_26 rfl 1 rfl ?_
  refine go_getc (i := 3) X fc5 dX5_addProduction_27 tcn1 tc1 (Nat.le_of_ble_eq_true rfl) rfl lw394 rfl ?_
  refine go_iload X dX5_addProduction_30 0 rfl ?_
  refine go_iconst (v := 0) X dX5_addProduction_32 rfl ?_
  refine goV (fun H locs ls r ho hW hL => runSN X (ok_X11_setEntry l D base M5 3 isAC_3 v1 hv1 0 kI_0 H.size r ho) dX5_addProduction_33 nl11 lw21 lw19 ⟨lw14, cy_X11_setEntry, Nat.le_of_ble_eq_true rfl, Nat.le_of_ble_eq_true rfl⟩ rfl rfl (Nat.le_of_ble_eq_true rfl) hW hL hk0) (fun _ M6 => ?_)
  refine go_aload_n X dX5_addProduction_36 rfl 1 rfl ?_
  refine go_getc (i := 5) X fc5 dX5_addProduction_37 tcn1 tc1 (Nat.le_of_ble_eq_true rfl) rfl lw68 rfl ?_
  refine go_iload X dX5_addProduction_40 0 rfl ?_
  refine go_iconst (v := 0) X dX5_addProduction_42 rfl ?_
  refine goV (fun H locs ls r ho hW hL => runSN X (ok_X11_setEntry l D base M6 5 isAC_5 v1 hv1 0 kI_0 H.size r ho) dX5_addProduction_43 nl11 lw21 lw19 ⟨lw14, cy_X11_setEntry, Nat.le_of_ble_eq_true rfl, Nat.le_of_ble_eq_true rfl⟩ rfl rfl (Nat.le_of_ble_eq_true rfl) hW hL hk0) (fun _ M7 => ?_)
  refine go_aload_n X dX5_addProduction_46 rfl 1 rfl ?_
  refine go_getc (i := 7) X fc5 dX5_addProduction_47 tcn1 tc1 (Nat.le_of_ble_eq_true rfl) rfl lw280 rfl ?_
  refine go_iload X dX5_addProduction_50 0 rfl ?_
  refine go_iconst (v := 0) X dX5_addProduction_52 rfl ?_
  refine goV (fun H locs ls r ho hW hL => runSN X (ok_X11_setEntry l D base M7 7 isAC_7 v1 hv1 0 kI_0 H.size r ho) dX5_addProduction_53 nl11 lw21 lw19 ⟨lw14, cy_X11_setEntry, Nat.le_of_ble_eq_true rfl, Nat.le_of_ble_eq_true rfl⟩ rfl rfl (Nat.le_of_ble_eq_true rfl) hW hL hk0) (fun _ M8 => ?_)
  refine go_aload_n X dX5_addProduction_56 rfl 1 rfl ?_
  refine go_getc (i := 9) X fc5 dX5_addProduction_57 tcn1 tc1 (Nat.le_of_ble_eq_true rfl) rfl lw74 rfl ?_
  refine go_iload X dX5_addProduction_60 0 rfl ?_
  refine go_iconst (v := (-1)) X dX5_addProduction_62 rfl ?_
  refine goV (fun H locs ls r ho hW hL => runSN X (ok_X11_setEntry l D base M8 9 isAC_9 v1 hv1 ((-1)) kI_m1 H.size r ho) dX5_addProduction_63 nl11 lw21 lw19 ⟨lw14, cy_X11_setEntry, Nat.le_of_ble_eq_true rfl, Nat.le_of_ble_eq_true rfl⟩ rfl rfl (Nat.le_of_ble_eq_true rfl) hW hL hk0) (fun _ M9 => ?_)
  refine go_aload_n X dX5_addProduction_66 rfl 1 rfl ?_
  refine go_getc (i := 11) X fc5 dX5_addProduction_67 tcn1 tc1 (Nat.le_of_ble_eq_true rfl) rfl lw397 rfl ?_
  refine go_iload X dX5_addProduction_70 0 rfl ?_
  refine go_iconst (v := (-1)) X dX5_addProduction_72 rfl ?_
  refine goV (fun H locs ls r ho hW hL => runSN X (ok_X11_setEntry l D base M9 11 isAC_11 v1 hv1 ((-1)) kI_m1 H.size r ho) dX5_addProduction_73 nl11 lw21 lw19 ⟨lw14, cy_X11_setEntry, Nat.le_of_ble_eq_true rfl, Nat.le_of_ble_eq_true rfl⟩ rfl rfl (Nat.le_of_ble_eq_true rfl) hW hL hk0) (fun _ M10 => ?_)
  refine go_aload_n X dX5_addProduction_76 rfl 1 rfl ?_
  refine go_getc (i := 12) X fc5 dX5_addProduction_77 tcn1 tc1 (Nat.le_of_ble_eq_true rfl) rfl lw398 rfl ?_
  refine go_iload X dX5_addProduction_80 0 rfl ?_
  refine go_iconst (v := (-1)) X dX5_addProduction_82 rfl ?_
  refine goV (fun H locs ls r ho hW hL => runSN X (ok_X11_setEntry l D base M10 12 isAC_12 v1 hv1 ((-1)) kI_m1 H.size r ho) dX5_addProduction_83 nl11 lw21 lw19 ⟨lw14, cy_X11_setEntry, Nat.le_of_ble_eq_true rfl, Nat.le_of_ble_eq_true rfl⟩ rfl rfl (Nat.le_of_ble_eq_true rfl) hW hL hk0) (fun _ M11 => ?_)
  refine go_aload_n X dX5_addProduction_86 rfl 1 rfl ?_
  refine go_iload X dX5_addProduction_87 0 rfl ?_
  refine go_iload_n X dX5_addProduction_89 rfl 3 rfl ?_
  refine goV (fun H locs ls r ho hW hL => runV X (ok_X5_appendSymbol l D base M11 v1 hv1 a2 ha2 H.size r ho) dX5_addProduction_90 lw405 lw406 lw407 lw80 ⟨lw400, cy_X5_appendSymbol, Nat.le_of_ble_eq_true rfl, Nat.le_of_ble_eq_true rfl⟩ rfl tcn1 tc1 rfl rfl rfl rfl (Nat.le_of_ble_eq_true rfl) hW hL hk0) (fun _ M12 => ?_)
  refine go_aload_n X dX5_addProduction_93 rfl 1 rfl ?_
  refine go_iload X dX5_addProduction_94 0 rfl ?_
  refine go_iload_n X dX5_addProduction_96 rfl 4 rfl ?_
  refine goV (fun H locs ls r ho hW hL => runV X (ok_X5_appendSymbol l D base M12 v1 hv1 a3 ha3 H.size r ho) dX5_addProduction_97 lw405 lw406 lw407 lw80 ⟨lw400, cy_X5_appendSymbol, Nat.le_of_ble_eq_true rfl, Nat.le_of_ble_eq_true rfl⟩ rfl tcn1 tc1 rfl rfl rfl rfl (Nat.le_of_ble_eq_true rfl) hW hL hk0) (fun _ M13 => ?_)
  refine go_aload_n X dX5_addProduction_100 rfl 1 rfl ?_
  refine go_iload X dX5_addProduction_101 0 rfl ?_
  refine go_iload X dX5_addProduction_103 5 rfl ?_
  refine goV (fun H locs ls r ho hW hL => runV X (ok_X5_appendSymbol l D base M13 v1 hv1 a4 ha4 H.size r ho) dX5_addProduction_105 lw405 lw406 lw407 lw80 ⟨lw400, cy_X5_appendSymbol, Nat.le_of_ble_eq_true rfl, Nat.le_of_ble_eq_true rfl⟩ rfl tcn1 tc1 rfl rfl rfl rfl (Nat.le_of_ble_eq_true rfl) hW hL hk0) (fun _ M14 => ?_)
  refine go_iload X dX5_addProduction_108 0 rfl ?_
  exact go_ireturn X hrt hlk dX5_addProduction_110 hv1
def f_X5_addAttribute (a1 : Int) (M : Mm) : Rs :=
Lt (M 1 1) fun v1 =>
Lt (M 1 1) fun v2 =>
Lt (wr (v2 + 1)) fun v3 =>
Lt (up M 1 1 v3) fun M4 =>
Cl (f_X11_setEntry 13 v1 a1 M4) fun _ M5 =>
some (v1, M5)
theorem cy_X5_addAttribute : yX5_addAttribute.cls ≠ "java/lang/invoke/MethodHandle" ∧ yX5_addAttribute.cls ≠ "java/lang/invoke/VarHandle" ∧ (parseMethodDescriptor yX5_addAttribute.desc).map (fun d => d.parameters.length) = some 1 := ⟨by decide +kernel, by decide +kernel, by decide +kernel⟩
set_option maxRecDepth 20000 in
theorem ok_X5_addAttribute (l : Launch) (D : Dd) (base : Nat) (M : Mm) (a1 : Int) (ha1 : i32 a1) : OkI l D TC 681 base yX5_addAttribute cX5_addAttribute 3 (some .int) 1 22 [.ref (base + 1), .int (Ii a1)] M i32 (f_X5_addAttribute a1 M) := by
  refine metI (by decide +kernel) [(0, .ref (base + 1)), (1, .int (Ii a1))] rfl (Nat.le_of_ble_eq_true rfl) (fun p e s m args below meth c X hrt hlk => ?_)
  have X : Cx p s m args c cX5_addAttribute D 3 RX5 := X
  unfold f_X5_addAttribute
  refine go_aload_n X dX5_addAttribute_0 rfl 0 rfl ?_
  refine go_geti (i := 1) X fc5 dX5_addAttribute_1 tcn1 tc1 (Nat.le_of_ble_eq_true rfl) rfl lw169 rfl (fun v1 hv1 => ?_)
  refine go_istore_n (i := 2) (L' := [(2, .int (Ii v1)), (0, .ref (base + 1)), (1, .int (Ii a1))]) X dX5_addAttribute_4 rfl (by decide) rfl ?_
  refine go_aload_n X dX5_addAttribute_5 rfl 1 rfl ?_
  refine go_dup X dX5_addAttribute_6 rfl ?_
  refine go_geti (i := 1) X fc5 dX5_addAttribute_7 tcn1 tc1 (Nat.le_of_ble_eq_true rfl) rfl lw169 rfl (fun v2 hv2 => ?_)
  refine go_iconst (v := 1) X dX5_addAttribute_10 rfl ?_
  refine go_iadd X dX5_addAttribute_11 hv2 kI_1 (fun v3 hv3 => ?_)
  refine go_puti (i := 1) X fc5 dX5_addAttribute_12 tcn1 tc1 (Nat.le_of_ble_eq_true rfl) rfl lw169 rfl rfl rfl hv3 (fun M4 => ?_)
  refine go_aload_n X dX5_addAttribute_15 rfl 1 rfl ?_
  refine go_getc (i := 13) X fc5 dX5_addAttribute_16 tcn1 tc1 (Nat.le_of_ble_eq_true rfl) rfl lw170 rfl ?_
  refine go_iload_n X dX5_addAttribute_19 rfl 0 rfl ?_
  refine go_iload_n X dX5_addAttribute_20 rfl 2 rfl ?_
  refine goV (fun H locs ls r ho hW hL => runSN X (ok_X11_setEntry l D base M4 13 isAC_13 v1 hv1 a1 ha1 H.size r ho) dX5_addAttribute_21 nl11 lw21 lw19 ⟨lw14, cy_X11_setEntry, Nat.le_of_ble_eq_true rfl, Nat.le_of_ble_eq_true rfl⟩ rfl rfl (Nat.le_of_ble_eq_true rfl) hW hL hk0) (fun _ M5 => ?_)
  refine go_iload_n X dX5_addAttribute_24 rfl 0 rfl ?_
  exact go_ireturn X hrt hlk dX5_addAttribute_25 hv1
def f_X5_tellForward (a1 : Int) (a2 : Int) (a3 : Int) (a4 : Int) (a5 : Int) (M : Mm) : Rs :=
Cl (f_X5_forwardOf a1 M) fun v2 M1 =>
Cl (f_X11_setEntry 9 a1 a2 M1) fun _ M3 =>
Lt (wr (a1 * 3)) fun v4 =>
Cl (f_X11_setEntry 10 v4 a3 M3) fun _ M5 =>
Lt (wr (a1 * 3)) fun v6 =>
Lt (wr (v6 + 1)) fun v7 =>
Cl (f_X11_setEntry 10 v7 a4 M5) fun _ M8 =>
Lt (wr (a1 * 3)) fun v9 =>
Lt (wr (v9 + 2)) fun v10 =>
Cl (f_X11_setEntry 10 v10 a5 M8) fun _ M11 =>
some (v2, M11)
theorem cy_X5_tellForward : yX5_tellForward.cls ≠ "java/lang/invoke/MethodHandle" ∧ yX5_tellForward.cls ≠ "java/lang/invoke/VarHandle" ∧ (parseMethodDescriptor yX5_tellForward.desc).map (fun d => d.parameters.length) = some 5 := ⟨by decide +kernel, by decide +kernel, by decide +kernel⟩
set_option maxRecDepth 20000 in
theorem ok_X5_tellForward (l : Launch) (D : Dd) (base : Nat) (M : Mm) (a1 : Int) (ha1 : i32 a1) (a2 : Int) (ha2 : i32 a2) (a3 : Int) (ha3 : i32 a3) (a4 : Int) (ha4 : i32 a4) (a5 : Int) (ha5 : i32 a5) : OkI l D TC 681 base yX5_tellForward cX5_tellForward 7 (some .int) 1 22 [.ref (base + 1), .int (Ii a1), .int (Ii a2), .int (Ii a3), .int (Ii a4), .int (Ii a5)] M i32 (f_X5_tellForward a1 a2 a3 a4 a5 M) := by
  refine metI (by decide +kernel) [(0, .ref (base + 1)), (1, .int (Ii a1)), (2, .int (Ii a2)), (3, .int (Ii a3)), (4, .int (Ii a4)), (5, .int (Ii a5))] rfl (Nat.le_of_ble_eq_true rfl) (fun p e s m args below meth c X hrt hlk => ?_)
  have X : Cx p s m args c cX5_tellForward D 7 RX5 := X
  unfold f_X5_tellForward
  refine go_aload_n X dX5_tellForward_0 rfl 0 rfl ?_
  refine go_iload_n X dX5_tellForward_1 rfl 1 rfl ?_
  refine goI (fun H locs ls r ho hW hL => runV X (ok_X5_forwardOf l D base M a1 ha1 H.size r ho) dX5_tellForward_2 lw410 lw89 lw90 lw80 ⟨lw73, cy_X5_forwardOf, Nat.le_of_ble_eq_true rfl, Nat.le_of_ble_eq_true rfl⟩ rfl tcn1 tc1 rfl rfl rfl rfl (Nat.le_of_ble_eq_true rfl) hW hL hk0) (fun v2 M1 hv2 => ?_)
  refine go_istore (i := 6) (L' := [(6, .int (Ii v2)), (0, .ref (base + 1)), (1, .int (Ii a1)), (2, .int (Ii a2)), (3, .int (Ii a3)), (4, .int (Ii a4)), (5, .int (Ii a5))]) X dX5_tellForward_5 (by decide) rfl ?_
  refine go_aload_n X dX5_tellForward_7 rfl 1 rfl ?_
  refine go_getc (i := 9) X fc5 dX5_tellForward_8 tcn1 tc1 (Nat.le_of_ble_eq_true rfl) rfl lw74 rfl ?_
  refine go_iload_n X dX5_tellForward_11 rfl 2 rfl ?_
  refine go_iload_n X dX5_tellForward_12 rfl 3 rfl ?_
  refine goV (fun H locs ls r ho hW hL => runSN X (ok_X11_setEntry l D base M1 9 isAC_9 a1 ha1 a2 ha2 H.size r ho) dX5_tellForward_13 nl11 lw21 lw19 ⟨lw14, cy_X11_setEntry, Nat.le_of_ble_eq_true rfl, Nat.le_of_ble_eq_true rfl⟩ rfl rfl (Nat.le_of_ble_eq_true rfl) hW hL hk0) (fun _ M3 => ?_)
  refine go_aload_n X dX5_tellForward_16 rfl 1 rfl ?_
  refine go_getc (i := 10) X fc5 dX5_tellForward_17 tcn1 tc1 (Nat.le_of_ble_eq_true rfl) rfl lw70 rfl ?_
  refine go_iload_n X dX5_tellForward_20 rfl 2 rfl ?_
  refine go_iconst (v := 3) X dX5_tellForward_21 rfl ?_
  refine go_imul X dX5_tellForward_22 ha1 kI_3 (fun v4 hv4 => ?_)
  refine go_iload_n X dX5_tellForward_23 rfl 4 rfl ?_
  refine goV (fun H locs ls r ho hW hL => runSN X (ok_X11_setEntry l D base M3 10 isAC_10 v4 hv4 a3 ha3 H.size r ho) dX5_tellForward_24 nl11 lw21 lw19 ⟨lw14, cy_X11_setEntry, Nat.le_of_ble_eq_true rfl, Nat.le_of_ble_eq_true rfl⟩ rfl rfl (Nat.le_of_ble_eq_true rfl) hW hL hk0) (fun _ M5 => ?_)
  refine go_aload_n X dX5_tellForward_27 rfl 1 rfl ?_
  refine go_getc (i := 10) X fc5 dX5_tellForward_28 tcn1 tc1 (Nat.le_of_ble_eq_true rfl) rfl lw70 rfl ?_
  refine go_iload_n X dX5_tellForward_31 rfl 2 rfl ?_
  refine go_iconst (v := 3) X dX5_tellForward_32 rfl ?_
  refine go_imul X dX5_tellForward_33 ha1 kI_3 (fun v6 hv6 => ?_)
  refine go_iconst (v := 1) X dX5_tellForward_34 rfl ?_
  refine go_iadd X dX5_tellForward_35 hv6 kI_1 (fun v7 hv7 => ?_)
  refine go_iload X dX5_tellForward_36 5 rfl ?_
  refine goV (fun H locs ls r ho hW hL => runSN X (ok_X11_setEntry l D base M5 10 isAC_10 v7 hv7 a4 ha4 H.size r ho) dX5_tellForward_38 nl11 lw21 lw19 ⟨lw14, cy_X11_setEntry, Nat.le_of_ble_eq_true rfl, Nat.le_of_ble_eq_true rfl⟩ rfl rfl (Nat.le_of_ble_eq_true rfl) hW hL hk0) (fun _ M8 => ?_)
  refine go_aload_n X dX5_tellForward_41 rfl 1 rfl ?_
  refine go_getc (i := 10) X fc5 dX5_tellForward_42 tcn1 tc1 (Nat.le_of_ble_eq_true rfl) rfl lw70 rfl ?_
  refine go_iload_n X dX5_tellForward_45 rfl 2 rfl ?_
  refine go_iconst (v := 3) X dX5_tellForward_46 rfl ?_
  refine go_imul X dX5_tellForward_47 ha1 kI_3 (fun v9 hv9 => ?_)
  refine go_iconst (v := 2) X dX5_tellForward_48 rfl ?_
  refine go_iadd X dX5_tellForward_49 hv9 kI_2 (fun v10 hv10 => ?_)
  refine go_iload X dX5_tellForward_50 6 rfl ?_
  refine goV (fun H locs ls r ho hW hL => runSN X (ok_X11_setEntry l D base M8 10 isAC_10 v10 hv10 a5 ha5 H.size r ho) dX5_tellForward_52 nl11 lw21 lw19 ⟨lw14, cy_X11_setEntry, Nat.le_of_ble_eq_true rfl, Nat.le_of_ble_eq_true rfl⟩ rfl rfl (Nat.le_of_ble_eq_true rfl) hW hL hk0) (fun _ M11 => ?_)
  refine go_iload X dX5_tellForward_55 0 rfl ?_
  exact go_ireturn X hrt hlk dX5_tellForward_57 hv2
def f_X5_ruleOtherOf (a1 : Int) (M : Mm) : Rs :=
Lt (fun (v1 : Int) (M2 : Mm) => 
some (v1, M2)) fun J20_3 =>
Lt (fun (M4 : Mm) => 
J20_3 ((-1)) M4) fun J19_5 =>
if a1 < 0 then (
J19_5 M) else (
if 10 ≤ a1 then (
J19_5 M) else (
gd (0 ≤ a1 ∧ a1 < 10) <|
Lt (M 12 a1.toNat) fun v8 =>
J20_3 v8 M))
theorem cy_X5_ruleOtherOf : yX5_ruleOtherOf.cls ≠ "java/lang/invoke/MethodHandle" ∧ yX5_ruleOtherOf.cls ≠ "java/lang/invoke/VarHandle" ∧ (parseMethodDescriptor yX5_ruleOtherOf.desc).map (fun d => d.parameters.length) = some 1 := ⟨by decide +kernel, by decide +kernel, by decide +kernel⟩
set_option maxRecDepth 20000 in
theorem ok_X5_ruleOtherOf (l : Launch) (D : Dd) (base : Nat) (M : Mm) (a1 : Int) (ha1 : i32 a1) : OkI l D TC 681 base yX5_ruleOtherOf cX5_ruleOtherOf 2 (some .int) 0 0 [.ref (base + 1), .int (Ii a1)] M i32 (f_X5_ruleOtherOf a1 M) := by
  refine metI (by decide +kernel) [(0, .ref (base + 1)), (1, .int (Ii a1))] rfl (Nat.le_of_ble_eq_true rfl) (fun p e s m args below meth c X hrt hlk => ?_)
  have X : Cx p s m args c cX5_ruleOtherOf D 2 RX5 := X
  unfold f_X5_ruleOtherOf
  refine go_iload_n X dX5_ruleOtherOf_0 rfl 1 rfl ?_
  refine go_lt (fun J => ∀ (v1 : Int) (M2 : Mm), i32 v1 → Go p l e (rmO 0 0) s m args below meth c D TC 681 base 2 0 0 (FinI D TC 681 base below args s i32) M2 20 [] [.int (Ii v1)] (J v1 M2)) (by
      intro v1 M2 hv1
      exact go_ireturn X hrt hlk dX5_ruleOtherOf_20 hv1
      )
      (fun J20_3 hJ20_3 => ?_)
  refine go_lt (fun J => ∀ (M4 : Mm), Go p l e (rmO 0 0) s m args below meth c D TC 681 base 2 0 0 (FinI D TC 681 base below args s i32) M4 19 [] [] (J M4)) (by
      intro M4
      refine go_iconst (v := (-1)) X dX5_ruleOtherOf_19 rfl ?_
      exact hJ20_3 ((-1)) M4 kI_m1
      )
      (fun J19_5 hJ19_5 => ?_)
  refine go_if_lt (tgt := 19) X dX5_ruleOtherOf_1 rfl ha1 (fun c6 => ?_) (fun c6 => ?_)
  · refine go_sub [] rfl ?_
    exact hJ19_5 M
  · refine go_iload_n X dX5_ruleOtherOf_4 rfl 1 rfl ?_
    refine go_bipush (v := 10) X dX5_ruleOtherOf_5 (by decide) ?_
    refine go_icmp_ge (tgt := 19) X dX5_ruleOtherOf_7 rfl ha1 kI_10 (fun c7 => ?_) (fun c7 => ?_)
    · refine go_sub [] rfl ?_
      exact hJ19_5 M
    · refine go_aload_n X dX5_ruleOtherOf_10 rfl 0 rfl ?_
      refine go_getc (i := 12) X fc5 dX5_ruleOtherOf_11 tcn1 tc1 (Nat.le_of_ble_eq_true rfl) rfl lw398 rfl ?_
      refine go_iload_n X dX5_ruleOtherOf_14 rfl 1 rfl ?_
      refine go_iaload X dX5_ruleOtherOf_15 tcn12 tc12 ha1 (fun v8 hv8 => ?_)
      refine go_goto (tgt := 20) X dX5_ruleOtherOf_16 rfl ?_
      refine go_sub [] rfl ?_
      exact hJ20_3 v8 M hv8
def f_X5_tellRule (a1 : Int) (a2 : Int) (a3 : Int) (M : Mm) : Rs :=
Cl (f_X5_ruleOtherOf a1 M) fun v2 M1 =>
Cl (f_X11_setEntry 11 a1 a2 M1) fun _ M3 =>
Cl (f_X11_setEntry 12 a1 a3 M3) fun _ M4 =>
some (v2, M4)
theorem cy_X5_tellRule : yX5_tellRule.cls ≠ "java/lang/invoke/MethodHandle" ∧ yX5_tellRule.cls ≠ "java/lang/invoke/VarHandle" ∧ (parseMethodDescriptor yX5_tellRule.desc).map (fun d => d.parameters.length) = some 3 := ⟨by decide +kernel, by decide +kernel, by decide +kernel⟩
set_option maxRecDepth 20000 in
theorem ok_X5_tellRule (l : Launch) (D : Dd) (base : Nat) (M : Mm) (a1 : Int) (ha1 : i32 a1) (a2 : Int) (ha2 : i32 a2) (a3 : Int) (ha3 : i32 a3) : OkI l D TC 681 base yX5_tellRule cX5_tellRule 5 (some .int) 1 22 [.ref (base + 1), .int (Ii a1), .int (Ii a2), .int (Ii a3)] M i32 (f_X5_tellRule a1 a2 a3 M) := by
  refine metI (by decide +kernel) [(0, .ref (base + 1)), (1, .int (Ii a1)), (2, .int (Ii a2)), (3, .int (Ii a3))] rfl (Nat.le_of_ble_eq_true rfl) (fun p e s m args below meth c X hrt hlk => ?_)
  have X : Cx p s m args c cX5_tellRule D 5 RX5 := X
  unfold f_X5_tellRule
  refine go_aload_n X dX5_tellRule_0 rfl 0 rfl ?_
  refine go_iload_n X dX5_tellRule_1 rfl 1 rfl ?_
  refine goI (fun H locs ls r ho hW hL => runV X (ok_X5_ruleOtherOf l D base M a1 ha1 H.size r ho) dX5_tellRule_2 lw413 lw414 lw415 lw80 ⟨lw411, cy_X5_ruleOtherOf, Nat.le_of_ble_eq_true rfl, Nat.le_of_ble_eq_true rfl⟩ rfl tcn1 tc1 rfl rfl rfl rfl (Nat.le_of_ble_eq_true rfl) hW hL hk0) (fun v2 M1 hv2 => ?_)
  refine go_istore (i := 4) (L' := [(4, .int (Ii v2)), (0, .ref (base + 1)), (1, .int (Ii a1)), (2, .int (Ii a2)), (3, .int (Ii a3))]) X dX5_tellRule_5 (by decide) rfl ?_
  refine go_aload_n X dX5_tellRule_7 rfl 1 rfl ?_
  refine go_getc (i := 11) X fc5 dX5_tellRule_8 tcn1 tc1 (Nat.le_of_ble_eq_true rfl) rfl lw397 rfl ?_
  refine go_iload_n X dX5_tellRule_11 rfl 2 rfl ?_
  refine go_iload_n X dX5_tellRule_12 rfl 3 rfl ?_
  refine goV (fun H locs ls r ho hW hL => runSN X (ok_X11_setEntry l D base M1 11 isAC_11 a1 ha1 a2 ha2 H.size r ho) dX5_tellRule_13 nl11 lw21 lw19 ⟨lw14, cy_X11_setEntry, Nat.le_of_ble_eq_true rfl, Nat.le_of_ble_eq_true rfl⟩ rfl rfl (Nat.le_of_ble_eq_true rfl) hW hL hk0) (fun _ M3 => ?_)
  refine go_aload_n X dX5_tellRule_16 rfl 1 rfl ?_
  refine go_getc (i := 12) X fc5 dX5_tellRule_17 tcn1 tc1 (Nat.le_of_ble_eq_true rfl) rfl lw398 rfl ?_
  refine go_iload_n X dX5_tellRule_20 rfl 2 rfl ?_
  refine go_iload_n X dX5_tellRule_21 rfl 4 rfl ?_
  refine goV (fun H locs ls r ho hW hL => runSN X (ok_X11_setEntry l D base M3 12 isAC_12 a1 ha1 a3 ha3 H.size r ho) dX5_tellRule_22 nl11 lw21 lw19 ⟨lw14, cy_X11_setEntry, Nat.le_of_ble_eq_true rfl, Nat.le_of_ble_eq_true rfl⟩ rfl rfl (Nat.le_of_ble_eq_true rfl) hW hL hk0) (fun _ M4 => ?_)
  refine go_iload X dX5_tellRule_25 0 rfl ?_
  exact go_ireturn X hrt hlk dX5_tellRule_27 hv2
def f_X5_hasProduction (a1 : Int) (M : Mm) : Rs :=
Lt (fun (v1 : Int) (M2 : Mm) => 
some (v1, M2)) fun J17_3 =>
Lt (fun (M4 : Mm) => 
J17_3 0 M4) fun J16_5 =>
if a1 < 0 then (
J16_5 M) else (
Lt (M 1 0) fun v7 =>
if v7 ≤ a1 then (
J16_5 M) else (
J17_3 1 M))
theorem cy_X5_hasProduction : yX5_hasProduction.cls ≠ "java/lang/invoke/MethodHandle" ∧ yX5_hasProduction.cls ≠ "java/lang/invoke/VarHandle" ∧ (parseMethodDescriptor yX5_hasProduction.desc).map (fun d => d.parameters.length) = some 1 := ⟨by decide +kernel, by decide +kernel, by decide +kernel⟩
set_option maxRecDepth 20000 in
theorem ok_X5_hasProduction (l : Launch) (D : Dd) (base : Nat) (M : Mm) (a1 : Int) (ha1 : i32 a1) : OkI l D TC 681 base yX5_hasProduction cX5_hasProduction 2 (some .boolean) 0 0 [.ref (base + 1), .int (Ii a1)] M bo (f_X5_hasProduction a1 M) := by
  refine metI (by decide +kernel) [(0, .ref (base + 1)), (1, .int (Ii a1))] rfl (Nat.le_of_ble_eq_true rfl) (fun p e s m args below meth c X hrt hlk => ?_)
  have X : Cx p s m args c cX5_hasProduction D 2 RX5 := X
  unfold f_X5_hasProduction
  refine go_iload_n X dX5_hasProduction_0 rfl 1 rfl ?_
  refine go_lt (fun J => ∀ (v1 : Int) (M2 : Mm), bo v1 → Go p l e (rmO 0 0) s m args below meth c D TC 681 base 2 0 0 (FinI D TC 681 base below args s bo) M2 17 [] [.int (Ii v1)] (J v1 M2)) (by
      intro v1 M2 hv1
      exact go_zreturn X hrt hlk dX5_hasProduction_17 hv1 hv1
      )
      (fun J17_3 hJ17_3 => ?_)
  refine go_lt (fun J => ∀ (M4 : Mm), Go p l e (rmO 0 0) s m args below meth c D TC 681 base 2 0 0 (FinI D TC 681 base below args s bo) M4 16 [] [] (J M4)) (by
      intro M4
      refine go_iconst (v := 0) X dX5_hasProduction_16 rfl ?_
      exact hJ17_3 0 M4 (Or.inl rfl)
      )
      (fun J16_5 hJ16_5 => ?_)
  refine go_if_lt (tgt := 16) X dX5_hasProduction_1 rfl ha1 (fun c6 => ?_) (fun c6 => ?_)
  · refine go_sub [] rfl ?_
    exact hJ16_5 M
  · refine go_iload_n X dX5_hasProduction_4 rfl 1 rfl ?_
    refine go_aload_n X dX5_hasProduction_5 rfl 0 rfl ?_
    refine go_geti (i := 0) X fc5 dX5_hasProduction_6 tcn1 tc1 (Nat.le_of_ble_eq_true rfl) rfl lw404 rfl (fun v7 hv7 => ?_)
    refine go_icmp_ge (tgt := 16) X dX5_hasProduction_9 rfl ha1 hv7 (fun c8 => ?_) (fun c8 => ?_)
    · refine go_sub [] rfl ?_
      exact hJ16_5 M
    · refine go_iconst (v := 1) X dX5_hasProduction_12 rfl ?_
      refine go_goto (tgt := 17) X dX5_hasProduction_13 rfl ?_
      refine go_sub [] rfl ?_
      exact hJ17_3 1 M (Or.inr rfl)
def f_X5_hasAttribute (a1 : Int) (M : Mm) : Rs :=
Lt (fun (v1 : Int) (M2 : Mm) => 
some (v1, M2)) fun J17_3 =>
Lt (fun (M4 : Mm) => 
J17_3 0 M4) fun J16_5 =>
if a1 < 0 then (
J16_5 M) else (
Lt (M 1 1) fun v7 =>
if v7 ≤ a1 then (
J16_5 M) else (
J17_3 1 M))
theorem cy_X5_hasAttribute : yX5_hasAttribute.cls ≠ "java/lang/invoke/MethodHandle" ∧ yX5_hasAttribute.cls ≠ "java/lang/invoke/VarHandle" ∧ (parseMethodDescriptor yX5_hasAttribute.desc).map (fun d => d.parameters.length) = some 1 := ⟨by decide +kernel, by decide +kernel, by decide +kernel⟩
set_option maxRecDepth 20000 in
theorem ok_X5_hasAttribute (l : Launch) (D : Dd) (base : Nat) (M : Mm) (a1 : Int) (ha1 : i32 a1) : OkI l D TC 681 base yX5_hasAttribute cX5_hasAttribute 2 (some .boolean) 0 0 [.ref (base + 1), .int (Ii a1)] M bo (f_X5_hasAttribute a1 M) := by
  refine metI (by decide +kernel) [(0, .ref (base + 1)), (1, .int (Ii a1))] rfl (Nat.le_of_ble_eq_true rfl) (fun p e s m args below meth c X hrt hlk => ?_)
  have X : Cx p s m args c cX5_hasAttribute D 2 RX5 := X
  unfold f_X5_hasAttribute
  refine go_iload_n X dX5_hasAttribute_0 rfl 1 rfl ?_
  refine go_lt (fun J => ∀ (v1 : Int) (M2 : Mm), bo v1 → Go p l e (rmO 0 0) s m args below meth c D TC 681 base 2 0 0 (FinI D TC 681 base below args s bo) M2 17 [] [.int (Ii v1)] (J v1 M2)) (by
      intro v1 M2 hv1
      exact go_zreturn X hrt hlk dX5_hasAttribute_17 hv1 hv1
      )
      (fun J17_3 hJ17_3 => ?_)
  refine go_lt (fun J => ∀ (M4 : Mm), Go p l e (rmO 0 0) s m args below meth c D TC 681 base 2 0 0 (FinI D TC 681 base below args s bo) M4 16 [] [] (J M4)) (by
      intro M4
      refine go_iconst (v := 0) X dX5_hasAttribute_16 rfl ?_
      exact hJ17_3 0 M4 (Or.inl rfl)
      )
      (fun J16_5 hJ16_5 => ?_)
  refine go_if_lt (tgt := 16) X dX5_hasAttribute_1 rfl ha1 (fun c6 => ?_) (fun c6 => ?_)
  · refine go_sub [] rfl ?_
    exact hJ16_5 M
  · refine go_iload_n X dX5_hasAttribute_4 rfl 1 rfl ?_
    refine go_aload_n X dX5_hasAttribute_5 rfl 0 rfl ?_
    refine go_geti (i := 1) X fc5 dX5_hasAttribute_6 tcn1 tc1 (Nat.le_of_ble_eq_true rfl) rfl lw169 rfl (fun v7 hv7 => ?_)
    refine go_icmp_ge (tgt := 16) X dX5_hasAttribute_9 rfl ha1 hv7 (fun c8 => ?_) (fun c8 => ?_)
    · refine go_sub [] rfl ?_
      exact hJ16_5 M
    · refine go_iconst (v := 1) X dX5_hasAttribute_12 rfl ?_
      refine go_goto (tgt := 17) X dX5_hasAttribute_13 rfl ?_
      refine go_sub [] rfl ?_
      exact hJ17_3 1 M (Or.inr rfl)
def f_X5_ruleAttributeOf (a1 : Int) (M : Mm) : Rs :=
Lt (fun (v1 : Int) (M2 : Mm) => 
some (v1, M2)) fun J20_3 =>
Lt (fun (M4 : Mm) => 
J20_3 ((-1)) M4) fun J19_5 =>
if a1 < 0 then (
J19_5 M) else (
if 10 ≤ a1 then (
J19_5 M) else (
gd (0 ≤ a1 ∧ a1 < 10) <|
Lt (M 11 a1.toNat) fun v8 =>
J20_3 v8 M))
theorem cy_X5_ruleAttributeOf : yX5_ruleAttributeOf.cls ≠ "java/lang/invoke/MethodHandle" ∧ yX5_ruleAttributeOf.cls ≠ "java/lang/invoke/VarHandle" ∧ (parseMethodDescriptor yX5_ruleAttributeOf.desc).map (fun d => d.parameters.length) = some 1 := ⟨by decide +kernel, by decide +kernel, by decide +kernel⟩
set_option maxRecDepth 20000 in
theorem ok_X5_ruleAttributeOf (l : Launch) (D : Dd) (base : Nat) (M : Mm) (a1 : Int) (ha1 : i32 a1) : OkI l D TC 681 base yX5_ruleAttributeOf cX5_ruleAttributeOf 2 (some .int) 0 0 [.ref (base + 1), .int (Ii a1)] M i32 (f_X5_ruleAttributeOf a1 M) := by
  refine metI (by decide +kernel) [(0, .ref (base + 1)), (1, .int (Ii a1))] rfl (Nat.le_of_ble_eq_true rfl) (fun p e s m args below meth c X hrt hlk => ?_)
  have X : Cx p s m args c cX5_ruleAttributeOf D 2 RX5 := X
  unfold f_X5_ruleAttributeOf
  refine go_iload_n X dX5_ruleAttributeOf_0 rfl 1 rfl ?_
  refine go_lt (fun J => ∀ (v1 : Int) (M2 : Mm), i32 v1 → Go p l e (rmO 0 0) s m args below meth c D TC 681 base 2 0 0 (FinI D TC 681 base below args s i32) M2 20 [] [.int (Ii v1)] (J v1 M2)) (by
      intro v1 M2 hv1
      exact go_ireturn X hrt hlk dX5_ruleAttributeOf_20 hv1
      )
      (fun J20_3 hJ20_3 => ?_)
  refine go_lt (fun J => ∀ (M4 : Mm), Go p l e (rmO 0 0) s m args below meth c D TC 681 base 2 0 0 (FinI D TC 681 base below args s i32) M4 19 [] [] (J M4)) (by
      intro M4
      refine go_iconst (v := (-1)) X dX5_ruleAttributeOf_19 rfl ?_
      exact hJ20_3 ((-1)) M4 kI_m1
      )
      (fun J19_5 hJ19_5 => ?_)
  refine go_if_lt (tgt := 19) X dX5_ruleAttributeOf_1 rfl ha1 (fun c6 => ?_) (fun c6 => ?_)
  · refine go_sub [] rfl ?_
    exact hJ19_5 M
  · refine go_iload_n X dX5_ruleAttributeOf_4 rfl 1 rfl ?_
    refine go_bipush (v := 10) X dX5_ruleAttributeOf_5 (by decide) ?_
    refine go_icmp_ge (tgt := 19) X dX5_ruleAttributeOf_7 rfl ha1 kI_10 (fun c7 => ?_) (fun c7 => ?_)
    · refine go_sub [] rfl ?_
      exact hJ19_5 M
    · refine go_aload_n X dX5_ruleAttributeOf_10 rfl 0 rfl ?_
      refine go_getc (i := 11) X fc5 dX5_ruleAttributeOf_11 tcn1 tc1 (Nat.le_of_ble_eq_true rfl) rfl lw397 rfl ?_
      refine go_iload_n X dX5_ruleAttributeOf_14 rfl 1 rfl ?_
      refine go_iaload X dX5_ruleAttributeOf_15 tcn11 tc11 ha1 (fun v8 hv8 => ?_)
      refine go_goto (tgt := 20) X dX5_ruleAttributeOf_16 rfl ?_
      refine go_sub [] rfl ?_
      exact hJ20_3 v8 M hv8
def f_X5_isAlikeInShape_L54_30 (a1 : Int) (a2 : Int) (J93_10 : Int → Mm → Rs) (rc54_14 : Int × Int × Mm → Rs) : Int × Int × Mm → Rs := fun (v11, v12, M13) =>
if 3 ≤ v12 then (
J93_10 v11 M13) else (
Lt (fun (v16 : Int) (v17 : Int) (M18 : Mm) => 
Lt (wr (v16 + 1)) fun v20 =>
rc54_14 (v17, v20, M18)) fun J86_19 =>
Lt (fun (v21 : Int) (M22 : Mm) => 
J86_19 v21 0 M22) fun J85_23 =>
if v11 = 0 then (
J85_23 v12 M13) else (
Cl (f_X5_childHeadOf a1 v12 M13) fun v26 M25 =>
Cl (f_X5_childHeadOf a2 v12 M25) fun v28 M27 =>
if ¬ v26 = v28 then (
J85_23 v12 M27) else (
J86_19 v12 1 M27)))
def f_X5_isAlikeInShape (a1 : Int) (a2 : Int) (M : Mm) : Rs :=
Cl (f_X5_headOf a1 M) fun v2 M1 =>
Cl (f_X5_headOf a2 M1) fun v4 M3 =>
Lt (fun (v5 : Int) (M6 : Mm) => 
Lt (fun (v8 : Int) (M9 : Mm) => 
some (v8, M9)) fun J93_10 =>
Lp (f_X5_isAlikeInShape_L54_30 a1 a2 J93_10) FU (v5, 0, M6)) fun J50_7 =>
Lt (fun (M31 : Mm) => 
J50_7 0 M31) fun J49_32 =>
if ¬ v2 = v4 then (
J49_32 M3) else (
Cl (f_X5_childCountOf a1 M3) fun v35 M34 =>
Cl (f_X5_childCountOf a2 M34) fun v37 M36 =>
if ¬ v35 = v37 then (
J49_32 M36) else (
Cl (f_X11_entryOf 7 a1 M36) fun v40 M39 =>
Cl (f_X11_entryOf 7 a2 M39) fun v42 M41 =>
if ¬ v40 = v42 then (
J49_32 M41) else (
J50_7 1 M41)))
theorem cy_X5_isAlikeInShape : yX5_isAlikeInShape.cls ≠ "java/lang/invoke/MethodHandle" ∧ yX5_isAlikeInShape.cls ≠ "java/lang/invoke/VarHandle" ∧ (parseMethodDescriptor yX5_isAlikeInShape.desc).map (fun d => d.parameters.length) = some 2 := ⟨by decide +kernel, by decide +kernel, by decide +kernel⟩
set_option maxRecDepth 20000 in
theorem ok_X5_isAlikeInShape (l : Launch) (D : Dd) (base : Nat) (M : Mm) (a1 : Int) (ha1 : i32 a1) (a2 : Int) (ha2 : i32 a2) : OkI l D TC 681 base yX5_isAlikeInShape cX5_isAlikeInShape 5 (some .boolean) 2 44 [.ref (base + 1), .int (Ii a1), .int (Ii a2)] M bo (f_X5_isAlikeInShape a1 a2 M) := by
  refine metI (by decide +kernel) [(0, .ref (base + 1)), (1, .int (Ii a1)), (2, .int (Ii a2))] rfl (Nat.le_of_ble_eq_true rfl) (fun p e s m args below meth c X hrt hlk => ?_)
  have X : Cx p s m args c cX5_isAlikeInShape D 5 RX5 := X
  unfold f_X5_isAlikeInShape
  refine go_aload_n X dX5_isAlikeInShape_0 rfl 0 rfl ?_
  refine go_iload_n X dX5_isAlikeInShape_1 rfl 1 rfl ?_
  refine goI (fun H locs ls r ho hW hL => runV X (ok_X5_headOf l D base M a1 ha1 H.size r ho) dX5_isAlikeInShape_2 lw425 lw426 lw427 lw80 ⟨lw418, cy_X5_headOf, Nat.le_of_ble_eq_true rfl, Nat.le_of_ble_eq_true rfl⟩ rfl tcn1 tc1 rfl rfl rfl rfl (Nat.le_of_ble_eq_true rfl) hW hL hk0) (fun v2 M1 hv2 => ?_)
  refine go_aload_n X dX5_isAlikeInShape_5 rfl 0 rfl ?_
  refine go_iload_n X dX5_isAlikeInShape_6 rfl 2 rfl ?_
  refine goI (fun H locs ls r ho hW hL => runV X (ok_X5_headOf l D base M1 a2 ha2 H.size r ho) dX5_isAlikeInShape_7 lw425 lw426 lw427 lw80 ⟨lw418, cy_X5_headOf, Nat.le_of_ble_eq_true rfl, Nat.le_of_ble_eq_true rfl⟩ rfl tcn1 tc1 rfl rfl rfl rfl (Nat.le_of_ble_eq_true rfl) hW hL hk0) (fun v4 M3 hv4 => ?_)
  refine go_lt (fun J => ∀ (v5 : Int) (M6 : Mm), bo v5 → Go p l e (rmO 2 44) s m args below meth c D TC 681 base 5 0 0 (FinI D TC 681 base below args s bo) M6 50 [(0, .ref (base + 1)), (1, .int (Ii a1)), (2, .int (Ii a2))] [.int (Ii v5)] (J v5 M6)) (by
      intro v5 M6 hv5
      refine go_istore_n (i := 3) (L' := [(3, .int (Ii v5)), (0, .ref (base + 1)), (1, .int (Ii a1)), (2, .int (Ii a2))]) X dX5_isAlikeInShape_50 rfl (by decide) rfl ?_
      refine go_iconst (v := 0) X dX5_isAlikeInShape_51 rfl ?_
      refine go_istore (i := 4) (L' := [(4, .int (Ii 0)), (3, .int (Ii v5)), (0, .ref (base + 1)), (1, .int (Ii a1)), (2, .int (Ii a2))]) X dX5_isAlikeInShape_52 (by decide) rfl ?_
      refine go_lt (fun J => ∀ (v8 : Int) (M9 : Mm), bo v8 → Go p l e (rmO 2 44) s m args below meth c D TC 681 base 5 0 0 (FinI D TC 681 base below args s bo) M9 93 [(3, .int (Ii v8))] [] (J v8 M9)) (by
          intro v8 M9 hv8
          refine go_iload_n X dX5_isAlikeInShape_93 rfl 0 rfl ?_
          exact go_zreturn X hrt hlk dX5_isAlikeInShape_94 hv8 hv8
          )
          (fun J93_10 hJ93_10 => ?_)
      refine go_sub [2, 3, 4, 1, 0] rfl ?_
      exact go_lp (fun (rc : Int × Int × Mm → Rs) => ∀ (v11 : Int) (v12 : Int) (M13 : Mm), bo v11 → i32 v12 → Go p l e (rmO 2 44) s m args below meth c D TC 681 base 5 0 0 (FinI D TC 681 base below args s bo) M13 54 [(0, .ref (base + 1)), (1, .int (Ii a1)), (2, .int (Ii a2)), (3, .int (Ii v11)), (4, .int (Ii v12))] [] (rc (v11, v12, M13)))
          (by intro v11 v12 M13 hv11 hv12; exact go_none)
          (by
          intro rc54_14 hrc54_14 v11 v12 M13 hv11 hv12
          unfold f_X5_isAlikeInShape_L54_30
          dsimp only
          refine go_iload X dX5_isAlikeInShape_54 4 rfl ?_
          refine go_iconst (v := 3) X dX5_isAlikeInShape_56 rfl ?_
          refine go_icmp_ge (tgt := 93) X dX5_isAlikeInShape_57 rfl hv12 kI_3 (fun c15 => ?_) (fun c15 => ?_)
          · refine go_sub [3] rfl ?_
            exact hJ93_10 v11 M13 hv11
          · refine go_iload_n X dX5_isAlikeInShape_60 rfl 3 rfl ?_
            refine go_lt (fun J => ∀ (v16 : Int) (v17 : Int) (M18 : Mm), i32 v16 → bo v17 → Go p l e (rmO 2 44) s m args below meth c D TC 681 base 5 0 0 (FinI D TC 681 base below args s bo) M18 86 [(0, .ref (base + 1)), (1, .int (Ii a1)), (2, .int (Ii a2)), (4, .int (Ii v16))] [.int (Ii v17)] (J v16 v17 M18)) (by
                intro v16 v17 M18 hv16 hv17
                refine go_istore_n (i := 3) (L' := [(3, .int (Ii v17)), (0, .ref (base + 1)), (1, .int (Ii a1)), (2, .int (Ii a2)), (4, .int (Ii v16))]) X dX5_isAlikeInShape_86 rfl (by decide) rfl ?_
                refine go_iinc (i := 4) (L' := fun v => [(4, .int (Ii v)), (3, .int (Ii v17)), (0, .ref (base + 1)), (1, .int (Ii a1)), (2, .int (Ii a2))]) X dX5_isAlikeInShape_87 hv16 kI_1 (j := 4) rfl (by decide) (fun _ => rfl) (fun v20 hv20 => ?_)
                refine go_goto (tgt := 54) X dX5_isAlikeInShape_90 rfl ?_
                refine go_sub [2, 3, 4, 1, 0] rfl ?_
                exact hrc54_14 v17 v20 M18 hv17 hv20
                )
                (fun J86_19 hJ86_19 => ?_)
            refine go_lt (fun J => ∀ (v21 : Int) (M22 : Mm), i32 v21 → Go p l e (rmO 2 44) s m args below meth c D TC 681 base 5 0 0 (FinI D TC 681 base below args s bo) M22 85 [(0, .ref (base + 1)), (1, .int (Ii a1)), (2, .int (Ii a2)), (4, .int (Ii v21))] [] (J v21 M22)) (by
                intro v21 M22 hv21
                refine go_iconst (v := 0) X dX5_isAlikeInShape_85 rfl ?_
                exact hJ86_19 v21 0 M22 hv21 (Or.inl rfl)
                )
                (fun J85_23 hJ85_23 => ?_)
            refine go_if_eq (tgt := 85) X dX5_isAlikeInShape_61 rfl (bo_i32 hv11) (fun c24 => ?_) (fun c24 => ?_)
            · refine go_sub [0, 1, 2, 4] rfl ?_
              exact hJ85_23 v12 M13 hv12
            · refine go_aload_n X dX5_isAlikeInShape_64 rfl 0 rfl ?_
              refine go_iload_n X dX5_isAlikeInShape_65 rfl 1 rfl ?_
              refine go_iload X dX5_isAlikeInShape_66 4 rfl ?_
              refine goI (fun H locs ls r ho hW hL => runV X (ok_X5_childHeadOf l D base M13 a1 ha1 v12 hv12 H.size r ho) dX5_isAlikeInShape_68 lw428 lw429 lw430 lw80 ⟨lw421, cy_X5_childHeadOf, Nat.le_of_ble_eq_true rfl, Nat.le_of_ble_eq_true rfl⟩ rfl tcn1 tc1 rfl rfl rfl rfl (Nat.le_of_ble_eq_true rfl) hW hL hk0) (fun v26 M25 hv26 => ?_)
              refine go_aload_n X dX5_isAlikeInShape_71 rfl 0 rfl ?_
              refine go_iload_n X dX5_isAlikeInShape_72 rfl 2 rfl ?_
              refine go_iload X dX5_isAlikeInShape_73 4 rfl ?_
              refine goI (fun H locs ls r ho hW hL => runV X (ok_X5_childHeadOf l D base M25 a2 ha2 v12 hv12 H.size r ho) dX5_isAlikeInShape_75 lw428 lw429 lw430 lw80 ⟨lw421, cy_X5_childHeadOf, Nat.le_of_ble_eq_true rfl, Nat.le_of_ble_eq_true rfl⟩ rfl tcn1 tc1 rfl rfl rfl rfl (Nat.le_of_ble_eq_true rfl) hW hL hk0) (fun v28 M27 hv28 => ?_)
              refine go_icmp_ne (tgt := 85) X dX5_isAlikeInShape_78 rfl hv26 hv28 (fun c29 => ?_) (fun c29 => ?_)
              · refine go_sub [0, 1, 2, 4] rfl ?_
                exact hJ85_23 v12 M27 hv12
              · refine go_iconst (v := 1) X dX5_isAlikeInShape_81 rfl ?_
                refine go_goto (tgt := 86) X dX5_isAlikeInShape_82 rfl ?_
                refine go_sub [0, 1, 2, 4] rfl ?_
                exact hJ86_19 v12 1 M27 hv12 (Or.inr rfl)
          )
          FU v5 0 M6 hv5 kI_0
      )
      (fun J50_7 hJ50_7 => ?_)
  refine go_lt (fun J => ∀ (M31 : Mm), Go p l e (rmO 2 44) s m args below meth c D TC 681 base 5 0 0 (FinI D TC 681 base below args s bo) M31 49 [(0, .ref (base + 1)), (1, .int (Ii a1)), (2, .int (Ii a2))] [] (J M31)) (by
      intro M31
      refine go_iconst (v := 0) X dX5_isAlikeInShape_49 rfl ?_
      exact hJ50_7 0 M31 (Or.inl rfl)
      )
      (fun J49_32 hJ49_32 => ?_)
  refine go_icmp_ne (tgt := 49) X dX5_isAlikeInShape_10 rfl hv2 hv4 (fun c33 => ?_) (fun c33 => ?_)
  · exact hJ49_32 M3
  · refine go_aload_n X dX5_isAlikeInShape_13 rfl 0 rfl ?_
    refine go_iload_n X dX5_isAlikeInShape_14 rfl 1 rfl ?_
    refine goI (fun H locs ls r ho hW hL => runV X (ok_X5_childCountOf l D base M3 a1 ha1 H.size r ho) dX5_isAlikeInShape_15 lw422 lw78 lw79 lw80 ⟨lw67, cy_X5_childCountOf, Nat.le_of_ble_eq_true rfl, Nat.le_of_ble_eq_true rfl⟩ rfl tcn1 tc1 rfl rfl rfl rfl (Nat.le_of_ble_eq_true rfl) hW hL hk0) (fun v35 M34 hv35 => ?_)
    refine go_aload_n X dX5_isAlikeInShape_18 rfl 0 rfl ?_
    refine go_iload_n X dX5_isAlikeInShape_19 rfl 2 rfl ?_
    refine goI (fun H locs ls r ho hW hL => runV X (ok_X5_childCountOf l D base M34 a2 ha2 H.size r ho) dX5_isAlikeInShape_20 lw422 lw78 lw79 lw80 ⟨lw67, cy_X5_childCountOf, Nat.le_of_ble_eq_true rfl, Nat.le_of_ble_eq_true rfl⟩ rfl tcn1 tc1 rfl rfl rfl rfl (Nat.le_of_ble_eq_true rfl) hW hL hk0) (fun v37 M36 hv37 => ?_)
    refine go_icmp_ne (tgt := 49) X dX5_isAlikeInShape_23 rfl hv35 hv37 (fun c38 => ?_) (fun c38 => ?_)
    · exact hJ49_32 M36
    · refine go_aload_n X dX5_isAlikeInShape_26 rfl 0 rfl ?_
      refine go_getc (i := 7) X fc5 dX5_isAlikeInShape_27 tcn1 tc1 (Nat.le_of_ble_eq_true rfl) rfl lw280 rfl ?_
      refine go_iload_n X dX5_isAlikeInShape_30 rfl 1 rfl ?_
      refine goI (fun H locs ls r ho hW hL => runSN X (ok_X11_entryOf l D base M36 7 isAC_7 a1 ha1 H.size r ho) dX5_isAlikeInShape_31 nl10 lw20 lw19 ⟨lw13, cy_X11_entryOf, Nat.le_of_ble_eq_true rfl, Nat.le_of_ble_eq_true rfl⟩ rfl rfl (Nat.le_of_ble_eq_true rfl) hW hL hk0) (fun v40 M39 hv40 => ?_)
      refine go_aload_n X dX5_isAlikeInShape_34 rfl 0 rfl ?_
      refine go_getc (i := 7) X fc5 dX5_isAlikeInShape_35 tcn1 tc1 (Nat.le_of_ble_eq_true rfl) rfl lw280 rfl ?_
      refine go_iload_n X dX5_isAlikeInShape_38 rfl 2 rfl ?_
      refine goI (fun H locs ls r ho hW hL => runSN X (ok_X11_entryOf l D base M39 7 isAC_7 a2 ha2 H.size r ho) dX5_isAlikeInShape_39 nl10 lw20 lw19 ⟨lw13, cy_X11_entryOf, Nat.le_of_ble_eq_true rfl, Nat.le_of_ble_eq_true rfl⟩ rfl rfl (Nat.le_of_ble_eq_true rfl) hW hL hk0) (fun v42 M41 hv42 => ?_)
      refine go_icmp_ne (tgt := 49) X dX5_isAlikeInShape_42 rfl hv40 hv42 (fun c43 => ?_) (fun c43 => ?_)
      · exact hJ49_32 M41
      · refine go_iconst (v := 1) X dX5_isAlikeInShape_45 rfl ?_
        refine go_goto (tgt := 50) X dX5_isAlikeInShape_46 rfl ?_
        exact hJ50_7 1 M41 (Or.inr rfl)
def f_X1_append (r1 : Nat) (M : Mm) : Rs :=
Lt (M 25 0) fun v1 =>
Lt (fun (v2 : Int) (M3 : Mm) => 
if ¬ v2 < 0 then (
gd (¬ v2 < 0 ∧ isE v2.toNat) <|
Cl (f_X0_take v2.toNat r1 M3) fun _ M7 =>
Lt (M7 25 0) fun v8 =>
Lt (wr (v8 + 1)) fun v9 =>
Lt (up M7 25 0 v9) fun M10 =>
some (v1, M10)) else (
some ((-1), M3))) fun J28_4 =>
Lt (fun (M11 : Mm) => 
J28_4 ((-1)) M11) fun J27_12 =>
if v1 < 0 then (
J27_12 M) else (
if 30 ≤ v1 then (
J27_12 M) else (
gd (0 ≤ v1 ∧ v1 < 30) <|
J28_4 (((33 + 8 * v1.toNat : Nat) : Int)) M))
theorem cy_X1_append : yX1_append.cls ≠ "java/lang/invoke/MethodHandle" ∧ yX1_append.cls ≠ "java/lang/invoke/VarHandle" ∧ (parseMethodDescriptor yX1_append.desc).map (fun d => d.parameters.length) = some 1 := ⟨by decide +kernel, by decide +kernel, by decide +kernel⟩
set_option maxRecDepth 20000 in
theorem ok_X1_append (l : Launch) (D : Dd) (base : Nat) (M : Mm) (r1 : Nat) (hr1 : isE r1) : OkI l D TC 681 base yX1_append cX1_append 4 (some .int) 2 45 [.ref (base + 25), .ref (base + r1)] M i32 (f_X1_append r1 M) := by
  refine metI (by decide +kernel) [(0, .ref (base + 25)), (1, .ref (base + r1))] rfl (Nat.le_of_ble_eq_true rfl) (fun p e s m args below meth c X hrt hlk => ?_)
  have X : Cx p s m args c cX1_append D 4 RX1 := X
  unfold f_X1_append
  refine go_aload_n X dX1_append_0 rfl 0 rfl ?_
  refine go_geti (i := 0) X fc1 dX1_append_1 tcn25 tc25 (Nat.le_of_ble_eq_true rfl) rfl lw57 rfl (fun v1 hv1 => ?_)
  refine go_istore_n (i := 2) (L' := [(2, .int (Ii v1)), (0, .ref (base + 25)), (1, .ref (base + r1))]) X dX1_append_4 rfl (by decide) rfl ?_
  refine go_iload_n X dX1_append_5 rfl 0 rfl ?_
  refine go_lt (fun J => ∀ (v2 : Int) (M3 : Mm), Go p l e (rmO 2 45) s m args below meth c D TC 681 base 4 0 0 (FinI D TC 681 base below args s i32) M3 28 [(0, .ref (base + 25)), (1, .ref (base + r1)), (2, .int (Ii v1))] [rv base v2] (J v2 M3)) (by
      intro v2 M3
      refine go_astore_nQ (i := 3) (L' := [(3, rv base v2), (0, .ref (base + 25)), (1, .ref (base + r1)), (2, .int (Ii v1))]) X dX1_append_28 rfl (by decide) rfl ?_
      refine go_aload_nQ X dX1_append_29 rfl 0 rfl ?_
      refine go_ifnonnull (tgt := 35) X dX1_append_30 rfl (fun c5 => ?_) (fun c5 => ?_)
      · refine go_gd (fun g6 => ?_)
        refine go_aload_nP X dX1_append_35 rfl 0 rfl g6.1 ?_
        refine go_aload_n X dX1_append_36 rfl 2 rfl ?_
        refine goV (fun H locs ls r ho hW hL => runV X (ok_X0_take l D base M3 v2.toNat g6.2 r1 hr1 H.size r ho) dX1_append_37 lw58 lw59 lw60 lw33 ⟨lw29, cy_X0_take, Nat.le_of_ble_eq_true rfl, Nat.le_of_ble_eq_true rfl⟩ rfl (nE g6.2) (tE g6.2) rfl rfl rfl rfl (Nat.le_of_ble_eq_true rfl) hW hL hk0) (fun _ M7 => ?_)
        refine go_aload_n X dX1_append_40 rfl 1 rfl ?_
        refine go_dup X dX1_append_41 rfl ?_
        refine go_geti (i := 0) X fc1 dX1_append_42 tcn25 tc25 (Nat.le_of_ble_eq_true rfl) rfl lw57 rfl (fun v8 hv8 => ?_)
        refine go_iconst (v := 1) X dX1_append_45 rfl ?_
        refine go_iadd X dX1_append_46 hv8 kI_1 (fun v9 hv9 => ?_)
        refine go_puti (i := 0) X fc1 dX1_append_47 tcn25 tc25 (Nat.le_of_ble_eq_true rfl) rfl lw57 rfl rfl rfl hv9 (fun M10 => ?_)
        refine go_iload_n X dX1_append_50 rfl 3 rfl ?_
        exact go_ireturn X hrt hlk dX1_append_51 hv1
      · refine go_iconst (v := (-1)) X dX1_append_33 rfl ?_
        exact go_ireturn X hrt hlk dX1_append_34 kI_m1
      )
      (fun J28_4 hJ28_4 => ?_)
  refine go_lt (fun J => ∀ (M11 : Mm), Go p l e (rmO 2 45) s m args below meth c D TC 681 base 4 0 0 (FinI D TC 681 base below args s i32) M11 27 [(0, .ref (base + 25)), (1, .ref (base + r1)), (2, .int (Ii v1))] [] (J M11)) (by
      intro M11
      refine go_anull X dX1_append_27 ?_
      exact hJ28_4 ((-1)) M11
      )
      (fun J27_12 hJ27_12 => ?_)
  refine go_if_lt (tgt := 27) X dX1_append_6 rfl hv1 (fun c13 => ?_) (fun c13 => ?_)
  · refine go_sub [1, 2, 0] rfl ?_
    exact hJ27_12 M
  · refine go_iload_n X dX1_append_9 rfl 0 rfl ?_
    refine go_aload_n X dX1_append_10 rfl 1 rfl ?_
    refine go_getc (i := 1) X fc1 dX1_append_11 tcn25 tc25 (Nat.le_of_ble_eq_true rfl) rfl lw44 rfl ?_
    refine go_alen X dX1_append_14 tcn26 tc26 (by decide) ?_
    refine go_icmp_ge (tgt := 27) X dX1_append_15 rfl hv1 kI_30 (fun c14 => ?_) (fun c14 => ?_)
    · refine go_sub [1, 2, 0] rfl ?_
      exact hJ27_12 M
    · refine go_aload_n X dX1_append_18 rfl 1 rfl ?_
      refine go_getc (i := 1) X fc1 dX1_append_19 tcn25 tc25 (Nat.le_of_ble_eq_true rfl) rfl lw44 rfl ?_
      refine go_iload_n X dX1_append_22 rfl 0 rfl ?_
      refine go_aaloadE X dX1_append_23 tcn26 tc26 hv1 (fun g15 => ?_)
      refine go_goto (tgt := 28) X dX1_append_24 rfl ?_
      refine go_sub [1, 2, 0] rfl ?_
      refine go_r2q ?_
      exact hJ28_4 (((33 + 8 * v1.toNat : Nat) : Int)) M
def f_X1_turnAspect (a1 : Int) (M : Mm) : Rs :=
Lt (fun (M1 : Mm) => 
some (0, M1)) fun J13_2 =>
if a1 < 0 then (
J13_2 M) else (
if a1 < 4 then (
gd (0 ≤ a1 ∧ a1 < 4) <|
Lt (M 27 a1.toNat) fun v5 =>
Lt (fun (v6 : Int) (M7 : Mm) => 
gd (0 ≤ a1 ∧ a1 < 4) <|
Lt (up M7 27 a1.toNat v6) fun M9 =>
gd (0 ≤ a1 ∧ a1 < 4) <|
Lt (M9 27 a1.toNat) fun v10 =>
Lt (fun (v11 : Int) (M12 : Mm) => 
some (v11, M12)) fun J49_13 =>
if ¬ v10 = 0 then (
J49_13 0 M9) else (
J49_13 1 M9)) fun J34_8 =>
if ¬ v5 = 0 then (
J34_8 0 M) else (
J34_8 1 M)) else (
J13_2 M))
theorem cy_X1_turnAspect : yX1_turnAspect.cls ≠ "java/lang/invoke/MethodHandle" ∧ yX1_turnAspect.cls ≠ "java/lang/invoke/VarHandle" ∧ (parseMethodDescriptor yX1_turnAspect.desc).map (fun d => d.parameters.length) = some 1 := ⟨by decide +kernel, by decide +kernel, by decide +kernel⟩
set_option maxRecDepth 20000 in
theorem ok_X1_turnAspect (l : Launch) (D : Dd) (base : Nat) (M : Mm) (a1 : Int) (ha1 : i32 a1) : OkI l D TC 681 base yX1_turnAspect cX1_turnAspect 2 (some .boolean) 0 0 [.ref (base + 25), .int (Ii a1)] M bo (f_X1_turnAspect a1 M) := by
  refine metI (by decide +kernel) [(0, .ref (base + 25)), (1, .int (Ii a1))] rfl (Nat.le_of_ble_eq_true rfl) (fun p e s m args below meth c X hrt hlk => ?_)
  have X : Cx p s m args c cX1_turnAspect D 2 RX1 := X
  unfold f_X1_turnAspect
  refine go_iload_n X dX1_turnAspect_0 rfl 1 rfl ?_
  refine go_lt (fun J => ∀ (M1 : Mm), Go p l e (rmO 0 0) s m args below meth c D TC 681 base 2 0 0 (FinI D TC 681 base below args s bo) M1 13 [] [] (J M1)) (by
      intro M1
      refine go_iconst (v := 0) X dX1_turnAspect_13 rfl ?_
      exact go_zreturn X hrt hlk dX1_turnAspect_14 (Or.inl rfl) (Or.inl rfl)
      )
      (fun J13_2 hJ13_2 => ?_)
  refine go_if_lt (tgt := 13) X dX1_turnAspect_1 rfl ha1 (fun c3 => ?_) (fun c3 => ?_)
  · refine go_sub [] rfl ?_
    exact hJ13_2 M
  · refine go_iload_n X dX1_turnAspect_4 rfl 1 rfl ?_
    refine go_aload_n X dX1_turnAspect_5 rfl 0 rfl ?_
    refine go_getc (i := 2) X fc1 dX1_turnAspect_6 tcn25 tc25 (Nat.le_of_ble_eq_true rfl) rfl lw46 rfl ?_
    refine go_alen X dX1_turnAspect_9 tcn27 tc27 (by decide) ?_
    refine go_icmp_lt (tgt := 15) X dX1_turnAspect_10 rfl ha1 kI_4 (fun c4 => ?_) (fun c4 => ?_)
    · refine go_aload_n X dX1_turnAspect_15 rfl 0 rfl ?_
      refine go_getc (i := 2) X fc1 dX1_turnAspect_16 tcn25 tc25 (Nat.le_of_ble_eq_true rfl) rfl lw46 rfl ?_
      refine go_iload_n X dX1_turnAspect_19 rfl 1 rfl ?_
      refine go_aload_n X dX1_turnAspect_20 rfl 0 rfl ?_
      refine go_getc (i := 2) X fc1 dX1_turnAspect_21 tcn25 tc25 (Nat.le_of_ble_eq_true rfl) rfl lw46 rfl ?_
      refine go_iload_n X dX1_turnAspect_24 rfl 1 rfl ?_
      refine go_zaload X dX1_turnAspect_25 tcn27 tc27 ha1 (fun v5 hv5 => ?_)
      refine go_lt (fun J => ∀ (v6 : Int) (M7 : Mm), bo v6 → Go p l e (rmO 0 0) s m args below meth c D TC 681 base 2 0 0 (FinI D TC 681 base below args s bo) M7 34 [(0, .ref (base + 25)), (1, .int (Ii a1))] [.int (Ii v6), .int (Ii a1), .ref (base + 27)] (J v6 M7)) (by
          intro v6 M7 hv6
          refine go_zastore X dX1_turnAspect_34 tcn27 tc27 ha1 hv6 (fun M9 => ?_)
          refine go_aload_n X dX1_turnAspect_35 rfl 0 rfl ?_
          refine go_getc (i := 2) X fc1 dX1_turnAspect_36 tcn25 tc25 (Nat.le_of_ble_eq_true rfl) rfl lw46 rfl ?_
          refine go_iload_n X dX1_turnAspect_39 rfl 1 rfl ?_
          refine go_zaload X dX1_turnAspect_40 tcn27 tc27 ha1 (fun v10 hv10 => ?_)
          refine go_lt (fun J => ∀ (v11 : Int) (M12 : Mm), bo v11 → Go p l e (rmO 0 0) s m args below meth c D TC 681 base 2 0 0 (FinI D TC 681 base below args s bo) M12 49 [] [.int (Ii v11)] (J v11 M12)) (by
              intro v11 M12 hv11
              exact go_zreturn X hrt hlk dX1_turnAspect_49 hv11 hv11
              )
              (fun J49_13 hJ49_13 => ?_)
          refine go_if_ne (tgt := 48) X dX1_turnAspect_41 rfl (bo_i32 hv10) (fun c14 => ?_) (fun c14 => ?_)
          · refine go_iconst (v := 0) X dX1_turnAspect_48 rfl ?_
            refine go_sub [] rfl ?_
            exact hJ49_13 0 M9 (Or.inl rfl)
          · refine go_iconst (v := 1) X dX1_turnAspect_44 rfl ?_
            refine go_goto (tgt := 49) X dX1_turnAspect_45 rfl ?_
            refine go_sub [] rfl ?_
            exact hJ49_13 1 M9 (Or.inr rfl)
          )
          (fun J34_8 hJ34_8 => ?_)
      refine go_if_ne (tgt := 33) X dX1_turnAspect_26 rfl (bo_i32 hv5) (fun c15 => ?_) (fun c15 => ?_)
      · refine go_iconst (v := 0) X dX1_turnAspect_33 rfl ?_
        exact hJ34_8 0 M (Or.inl rfl)
      · refine go_iconst (v := 1) X dX1_turnAspect_29 rfl ?_
        refine go_goto (tgt := 34) X dX1_turnAspect_30 rfl ?_
        exact hJ34_8 1 M (Or.inr rfl)
    · refine go_sub [] rfl ?_
      exact hJ13_2 M
def f_X9_putLetter_L5_17 (a1 : Int) (J34_3 : Mm → Rs) (rc5_10 : Int × Mm → Rs) : Int × Mm → Rs := fun (v8, M9) =>
if v8 ≤ a1 then (
J34_3 M9) else (
Lt (wr (v8 - 1)) fun v12 =>
Cl (f_X11_entryOf 274 v12 M9) fun v14 M13 =>
Cl (f_X11_setEntry 274 v8 v14 M13) fun _ M15 =>
Lt (wr (v8 + (-1))) fun v16 =>
rc5_10 (v16, M15))
def f_X9_putLetter (a1 : Int) (a2 : Int) (M : Mm) : Rs :=
Lt (M 273 0) fun v1 =>
Lt (fun (M2 : Mm) => 
Cl (f_X11_setEntry 274 a1 a2 M2) fun _ M4 =>
Lt (M4 273 0) fun v5 =>
Lt (wr (v5 + 1)) fun v6 =>
Lt (up M4 273 0 v6) fun M7 =>
some (0, M7)) fun J34_3 =>
Lp (f_X9_putLetter_L5_17 a1 J34_3) FU (v1, M)
theorem cy_X9_putLetter : yX9_putLetter.cls ≠ "java/lang/invoke/MethodHandle" ∧ yX9_putLetter.cls ≠ "java/lang/invoke/VarHandle" ∧ (parseMethodDescriptor yX9_putLetter.desc).map (fun d => d.parameters.length) = some 2 := ⟨by decide +kernel, by decide +kernel, by decide +kernel⟩
set_option maxRecDepth 20000 in
theorem ok_X9_putLetter (l : Launch) (D : Dd) (base : Nat) (M : Mm) (a1 : Int) (ha1 : i32 a1) (a2 : Int) (ha2 : i32 a2) : OkV l D TC 681 base yX9_putLetter cX9_putLetter 4 none 1 22 [.ref (base + 273), .int (Ii a1), .int (Ii a2)] M (f_X9_putLetter a1 a2 M) := by
  refine metV (by decide +kernel) [(0, .ref (base + 273)), (1, .int (Ii a1)), (2, .int (Ii a2))] rfl (Nat.le_of_ble_eq_true rfl) (fun p e s m args below meth c X hrt hlk => ?_)
  have X : Cx p s m args c cX9_putLetter D 4 RX9 := X
  unfold f_X9_putLetter
  refine go_aload_n X dX9_putLetter_0 rfl 0 rfl ?_
  refine go_geti (i := 0) X fc9 dX9_putLetter_1 tcn273 tc273 (Nat.le_of_ble_eq_true rfl) rfl lw563 rfl (fun v1 hv1 => ?_)
  refine go_istore_n (i := 3) (L' := [(3, .int (Ii v1)), (0, .ref (base + 273)), (1, .int (Ii a1)), (2, .int (Ii a2))]) X dX9_putLetter_4 rfl (by decide) rfl ?_
  refine go_lt (fun J => ∀ (M2 : Mm), Go p l e (rmO 1 22) s m args below meth c D TC 681 base 4 0 0 (FinV D TC 681 base below args s) M2 34 [(0, .ref (base + 273)), (1, .int (Ii a1)), (2, .int (Ii a2))] [] (J M2)) (by
      intro M2
      refine go_aload_n X dX9_putLetter_34 rfl 0 rfl ?_
      refine go_getc (i := 2) X fc9 dX9_putLetter_35 tcn273 tc273 (Nat.le_of_ble_eq_true rfl) rfl lw552 rfl ?_
      refine go_iload_n X dX9_putLetter_38 rfl 1 rfl ?_
      refine go_iload_n X dX9_putLetter_39 rfl 2 rfl ?_
      refine goV (fun H locs ls r ho hW hL => runSN X (ok_X11_setEntry l D base M2 274 isAC_274 a1 ha1 a2 ha2 H.size r ho) dX9_putLetter_40 nl22 lw21 lw19 ⟨lw14, cy_X11_setEntry, Nat.le_of_ble_eq_true rfl, Nat.le_of_ble_eq_true rfl⟩ rfl rfl (Nat.le_of_ble_eq_true rfl) hW hL hk0) (fun _ M4 => ?_)
      refine go_aload_n X dX9_putLetter_43 rfl 0 rfl ?_
      refine go_dup X dX9_putLetter_44 rfl ?_
      refine go_geti (i := 0) X fc9 dX9_putLetter_45 tcn273 tc273 (Nat.le_of_ble_eq_true rfl) rfl lw563 rfl (fun v5 hv5 => ?_)
      refine go_iconst (v := 1) X dX9_putLetter_48 rfl ?_
      refine go_iadd X dX9_putLetter_49 hv5 kI_1 (fun v6 hv6 => ?_)
      refine go_puti (i := 0) X fc9 dX9_putLetter_50 tcn273 tc273 (Nat.le_of_ble_eq_true rfl) rfl lw563 rfl rfl rfl hv6 (fun M7 => ?_)
      exact go_vreturn X hrt hlk dX9_putLetter_53
      )
      (fun J34_3 hJ34_3 => ?_)
  refine go_sub [1, 2, 3, 0] rfl ?_
  exact go_lp (fun (rc : Int × Mm → Rs) => ∀ (v8 : Int) (M9 : Mm), i32 v8 → Go p l e (rmO 1 22) s m args below meth c D TC 681 base 4 0 0 (FinV D TC 681 base below args s) M9 5 [(0, .ref (base + 273)), (1, .int (Ii a1)), (2, .int (Ii a2)), (3, .int (Ii v8))] [] (rc (v8, M9)))
      (by intro v8 M9 hv8; exact go_none)
      (by
      intro rc5_10 hrc5_10 v8 M9 hv8
      unfold f_X9_putLetter_L5_17
      dsimp only
      refine go_iload_n X dX9_putLetter_5 rfl 3 rfl ?_
      refine go_iload_n X dX9_putLetter_6 rfl 1 rfl ?_
      refine go_icmp_le (tgt := 34) X dX9_putLetter_7 rfl hv8 ha1 (fun c11 => ?_) (fun c11 => ?_)
      · refine go_sub [0, 1, 2] rfl ?_
        exact hJ34_3 M9
      · refine go_aload_n X dX9_putLetter_10 rfl 0 rfl ?_
        refine go_getc (i := 2) X fc9 dX9_putLetter_11 tcn273 tc273 (Nat.le_of_ble_eq_true rfl) rfl lw552 rfl ?_
        refine go_iload_n X dX9_putLetter_14 rfl 3 rfl ?_
        refine go_aload_n X dX9_putLetter_15 rfl 0 rfl ?_
        refine go_getc (i := 2) X fc9 dX9_putLetter_16 tcn273 tc273 (Nat.le_of_ble_eq_true rfl) rfl lw552 rfl ?_
        refine go_iload_n X dX9_putLetter_19 rfl 3 rfl ?_
        refine go_iconst (v := 1) X dX9_putLetter_20 rfl ?_
        refine go_isub X dX9_putLetter_21 hv8 kI_1 (fun v12 hv12 => ?_)
        refine goI (fun H locs ls r ho hW hL => runSN X (ok_X11_entryOf l D base M9 274 isAC_274 v12 hv12 H.size r ho) dX9_putLetter_22 nl21 lw20 lw19 ⟨lw13, cy_X11_entryOf, Nat.le_of_ble_eq_true rfl, Nat.le_of_ble_eq_true rfl⟩ rfl rfl (Nat.le_of_ble_eq_true rfl) hW hL hk0) (fun v14 M13 hv14 => ?_)
        refine goV (fun H locs ls r ho hW hL => runSN X (ok_X11_setEntry l D base M13 274 isAC_274 v8 hv8 v14 hv14 H.size r ho) dX9_putLetter_25 nl22 lw21 lw19 ⟨lw14, cy_X11_setEntry, Nat.le_of_ble_eq_true rfl, Nat.le_of_ble_eq_true rfl⟩ rfl rfl (Nat.le_of_ble_eq_true rfl) hW hL hk0) (fun _ M15 => ?_)
        refine go_iinc (i := 3) (L' := fun v => [(3, .int (Ii v)), (0, .ref (base + 273)), (1, .int (Ii a1)), (2, .int (Ii a2))]) X dX9_putLetter_28 hv8 kI_m1 (j := 3) rfl (by decide) (fun _ => rfl) (fun v16 hv16 => ?_)
        refine go_goto (tgt := 5) X dX9_putLetter_31 rfl ?_
        refine go_sub [1, 2, 3, 0] rfl ?_
        exact hrc5_10 v16 M15 hv16
      )
      FU v1 M hv1
def f_X9_takeLetter_L2_17 (J36_2 : Mm → Rs) (rc2_8 : Int × Mm → Rs) : Int × Mm → Rs := fun (v6, M7) =>
Lt (wr (v6 + 1)) fun v9 =>
Lt (M7 273 0) fun v10 =>
if v10 ≤ v9 then (
J36_2 M7) else (
Lt (wr (v6 + 1)) fun v12 =>
Cl (f_X11_entryOf 274 v12 M7) fun v14 M13 =>
Cl (f_X11_setEntry 274 v6 v14 M13) fun _ M15 =>
Lt (wr (v6 + 1)) fun v16 =>
rc2_8 (v16, M15))
def f_X9_takeLetter (a1 : Int) (M : Mm) : Rs :=
Lt (fun (M1 : Mm) => 
Lt (M1 273 0) fun v3 =>
Lt (wr (v3 - 1)) fun v4 =>
Lt (up M1 273 0 v4) fun M5 =>
some (0, M5)) fun J36_2 =>
Lp (f_X9_takeLetter_L2_17 J36_2) FU (a1, M)
theorem cy_X9_takeLetter : yX9_takeLetter.cls ≠ "java/lang/invoke/MethodHandle" ∧ yX9_takeLetter.cls ≠ "java/lang/invoke/VarHandle" ∧ (parseMethodDescriptor yX9_takeLetter.desc).map (fun d => d.parameters.length) = some 1 := ⟨by decide +kernel, by decide +kernel, by decide +kernel⟩
set_option maxRecDepth 20000 in
theorem ok_X9_takeLetter (l : Launch) (D : Dd) (base : Nat) (M : Mm) (a1 : Int) (ha1 : i32 a1) : OkV l D TC 681 base yX9_takeLetter cX9_takeLetter 3 none 1 22 [.ref (base + 273), .int (Ii a1)] M (f_X9_takeLetter a1 M) := by
  refine metV (by decide +kernel) [(0, .ref (base + 273)), (1, .int (Ii a1))] rfl (Nat.le_of_ble_eq_true rfl) (fun p e s m args below meth c X hrt hlk => ?_)
  have X : Cx p s m args c cX9_takeLetter D 3 RX9 := X
  unfold f_X9_takeLetter
  refine go_iload_n X dX9_takeLetter_0 rfl 1 rfl ?_
  refine go_istore_n (i := 2) (L' := [(2, .int (Ii a1)), (0, .ref (base + 273)), (1, .int (Ii a1))]) X dX9_takeLetter_1 rfl (by decide) rfl ?_
  refine go_lt (fun J => ∀ (M1 : Mm), Go p l e (rmO 1 22) s m args below meth c D TC 681 base 3 0 0 (FinV D TC 681 base below args s) M1 36 [(0, .ref (base + 273))] [] (J M1)) (by
      intro M1
      refine go_aload_n X dX9_takeLetter_36 rfl 0 rfl ?_
      refine go_dup X dX9_takeLetter_37 rfl ?_
      refine go_geti (i := 0) X fc9 dX9_takeLetter_38 tcn273 tc273 (Nat.le_of_ble_eq_true rfl) rfl lw563 rfl (fun v3 hv3 => ?_)
      refine go_iconst (v := 1) X dX9_takeLetter_41 rfl ?_
      refine go_isub X dX9_takeLetter_42 hv3 kI_1 (fun v4 hv4 => ?_)
      refine go_puti (i := 0) X fc9 dX9_takeLetter_43 tcn273 tc273 (Nat.le_of_ble_eq_true rfl) rfl lw563 rfl rfl rfl hv4 (fun M5 => ?_)
      exact go_vreturn X hrt hlk dX9_takeLetter_46
      )
      (fun J36_2 hJ36_2 => ?_)
  refine go_sub [1, 0] rfl ?_
  exact go_lp (fun (rc : Int × Mm → Rs) => ∀ (v6 : Int) (M7 : Mm), i32 v6 → Go p l e (rmO 1 22) s m args below meth c D TC 681 base 3 0 0 (FinV D TC 681 base below args s) M7 2 [(0, .ref (base + 273)), (2, .int (Ii v6))] [] (rc (v6, M7)))
      (by intro v6 M7 hv6; exact go_none)
      (by
      intro rc2_8 hrc2_8 v6 M7 hv6
      unfold f_X9_takeLetter_L2_17
      dsimp only
      refine go_iload_n X dX9_takeLetter_2 rfl 1 rfl ?_
      refine go_iconst (v := 1) X dX9_takeLetter_3 rfl ?_
      refine go_iadd X dX9_takeLetter_4 hv6 kI_1 (fun v9 hv9 => ?_)
      refine go_aload_n X dX9_takeLetter_5 rfl 0 rfl ?_
      refine go_geti (i := 0) X fc9 dX9_takeLetter_6 tcn273 tc273 (Nat.le_of_ble_eq_true rfl) rfl lw563 rfl (fun v10 hv10 => ?_)
      refine go_icmp_ge (tgt := 36) X dX9_takeLetter_9 rfl hv9 hv10 (fun c11 => ?_) (fun c11 => ?_)
      · refine go_sub [0] rfl ?_
        exact hJ36_2 M7
      · refine go_aload_n X dX9_takeLetter_12 rfl 0 rfl ?_
        refine go_getc (i := 2) X fc9 dX9_takeLetter_13 tcn273 tc273 (Nat.le_of_ble_eq_true rfl) rfl lw552 rfl ?_
        refine go_iload_n X dX9_takeLetter_16 rfl 1 rfl ?_
        refine go_aload_n X dX9_takeLetter_17 rfl 0 rfl ?_
        refine go_getc (i := 2) X fc9 dX9_takeLetter_18 tcn273 tc273 (Nat.le_of_ble_eq_true rfl) rfl lw552 rfl ?_
        refine go_iload_n X dX9_takeLetter_21 rfl 1 rfl ?_
        refine go_iconst (v := 1) X dX9_takeLetter_22 rfl ?_
        refine go_iadd X dX9_takeLetter_23 hv6 kI_1 (fun v12 hv12 => ?_)
        refine goI (fun H locs ls r ho hW hL => runSN X (ok_X11_entryOf l D base M7 274 isAC_274 v12 hv12 H.size r ho) dX9_takeLetter_24 nl21 lw20 lw19 ⟨lw13, cy_X11_entryOf, Nat.le_of_ble_eq_true rfl, Nat.le_of_ble_eq_true rfl⟩ rfl rfl (Nat.le_of_ble_eq_true rfl) hW hL hk0) (fun v14 M13 hv14 => ?_)
        refine goV (fun H locs ls r ho hW hL => runSN X (ok_X11_setEntry l D base M13 274 isAC_274 v6 hv6 v14 hv14 H.size r ho) dX9_takeLetter_27 nl22 lw21 lw19 ⟨lw14, cy_X11_setEntry, Nat.le_of_ble_eq_true rfl, Nat.le_of_ble_eq_true rfl⟩ rfl rfl (Nat.le_of_ble_eq_true rfl) hW hL hk0) (fun _ M15 => ?_)
        refine go_iinc (i := 2) (L' := fun v => [(2, .int (Ii v)), (0, .ref (base + 273))]) X dX9_takeLetter_30 hv6 kI_1 (j := 1) rfl (by decide) (fun _ => rfl) (fun v16 hv16 => ?_)
        refine go_goto (tgt := 2) X dX9_takeLetter_33 rfl ?_
        refine go_sub [1, 0] rfl ?_
        exact hrc2_8 v16 M15 hv16
      )
      FU a1 M ha1
def f_X2_findListing (a1 : Int) (a2 : Int) (r3 : Nat) (M : Mm) : Rs :=
Lt (up M 310 0 0) fun M1 =>
Lt (up M1 310 11 1) fun M2 =>
Cl (f_X2_find a1 a2 r3 M2) fun v4 M3 =>
Lt (up M3 310 11 0) fun M5 =>
some (0, M5)
theorem cy_X2_findListing : yX2_findListing.cls ≠ "java/lang/invoke/MethodHandle" ∧ yX2_findListing.cls ≠ "java/lang/invoke/VarHandle" ∧ (parseMethodDescriptor yX2_findListing.desc).map (fun d => d.parameters.length) = some 3 := ⟨by decide +kernel, by decide +kernel, by decide +kernel⟩
set_option maxRecDepth 20000 in
theorem ok_X2_findListing (l : Launch) (D : Dd) (base : Nat) (M : Mm) (a1 : Int) (ha1 : i32 a1) (a2 : Int) (ha2 : i32 a2) (r3 : Nat) (hr3 : isF r3) : OkV l D TC 681 base yX2_findListing cX2_findListing 4 none 5 125 [.ref (base + 310), .int (Ii a1), .int (Ii a2), .ref (base + r3)] M (f_X2_findListing a1 a2 r3 M) := by
  refine metV (by decide +kernel) [(0, .ref (base + 310)), (1, .int (Ii a1)), (2, .int (Ii a2)), (3, .ref (base + r3))] rfl (Nat.le_of_ble_eq_true rfl) (fun p e s m args below meth c X hrt hlk => ?_)
  have X : Cx p s m args c cX2_findListing D 4 RX2 := X
  unfold f_X2_findListing
  refine go_aload_n X dX2_findListing_0 rfl 0 rfl ?_
  refine go_iconst (v := 0) X dX2_findListing_1 rfl ?_
  refine go_puti (i := 0) X fc2 dX2_findListing_2 tcn310 tc310 (Nat.le_of_ble_eq_true rfl) rfl lw248 rfl rfl rfl kI_0 (fun M1 => ?_)
  refine go_aload_n X dX2_findListing_5 rfl 0 rfl ?_
  refine go_iconst (v := 1) X dX2_findListing_6 rfl ?_
  refine go_putz (i := 11) X fc2 dX2_findListing_7 tcn310 tc310 (Nat.le_of_ble_eq_true rfl) rfl lw251 rfl rfl rfl (Or.inr rfl) (fun M2 => ?_)
  refine go_aload_n X dX2_findListing_10 rfl 0 rfl ?_
  refine go_iload_n X dX2_findListing_11 rfl 1 rfl ?_
  refine go_iload_n X dX2_findListing_12 rfl 2 rfl ?_
  refine go_aload_n X dX2_findListing_13 rfl 3 rfl ?_
  refine goI (fun H locs ls r ho hW hL => runV X (ok_X2_find l D base M2 a1 ha1 a2 ha2 r3 hr3 H.size r ho) dX2_findListing_14 lw362 lw363 lw364 lw216 ⟨lw361, cy_X2_find, Nat.le_of_ble_eq_true rfl, Nat.le_of_ble_eq_true rfl⟩ rfl tcn310 tc310 rfl rfl rfl rfl (Nat.le_of_ble_eq_true rfl) hW hL hk0) (fun v4 M3 hv4 => ?_)
  refine go_pop X dX2_findListing_17 rfl ?_
  refine go_aload_n X dX2_findListing_18 rfl 0 rfl ?_
  refine go_iconst (v := 0) X dX2_findListing_19 rfl ?_
  refine go_putz (i := 11) X fc2 dX2_findListing_20 tcn310 tc310 (Nat.le_of_ble_eq_true rfl) rfl lw251 rfl rfl rfl (Or.inl rfl) (fun M5 => ?_)
  exact go_vreturn X hrt hlk dX2_findListing_23
def f_X7_goRound_L11_47 (J115_4 : Int → Mm → Rs) (rc11_9 : Int × Int × Mm → Rs) : Int × Int × Mm → Rs := fun (v6, v7, M8) =>
Lt (M8 283 0) fun v10 =>
Lt (wr (v10 * 6)) fun v11 =>
if v11 ≤ v7 then (
J115_4 v6 M8) else (
Lt (jrem v7 6) fun v13 =>
Cl (f_X5_kindOf v13 M8) fun v15 M14 =>
Lt (fun (v16 : Int) (v17 : Int) (M18 : Mm) => 
Lt (wr (v17 + 1)) fun v20 =>
rc11_9 (v16, v20, M18)) fun J109_19 =>
if v15 = 3 then (
Lt (wr (Int.tdiv v7 6)) fun v22 =>
Lt (jrem v7 6) fun v23 =>
Cl (f_X2_find v22 v23 304 M14) fun v25 M24 =>
Lt (fun (v26 : Int) (v27 : Int) (v28 : Int) (v29 : Int) (M30 : Mm) => 
Cl (f_X11_setEntry 677 v28 v29 M30) fun _ M32 =>
Lt (fun (v33 : Int) (v34 : Int) (M35 : Mm) => 
J109_19 v34 v33 M35) fun J108_36 =>
Lt (fun (v37 : Int) (M38 : Mm) => 
J108_36 v37 1 M38) fun J103_39 =>
if ¬ v26 = 0 then (
J103_39 v27 M32) else (
Cl (f_X11_entryOf 677 v27 M32) fun v42 M41 =>
Cl (f_X7_valueOf v27 M41) fun v44 M43 =>
if v42 = v44 then (
J108_36 v27 0 M43) else (
J103_39 v27 M43))) fun J80_31 =>
if v25 < 1000 then (
J80_31 v6 v7 v7 v25 M24) else (
J80_31 v6 v7 v7 ((-1)) M24)) else (
J109_19 v6 v7 M14))
def f_X7_goRound (M : Mm) : Rs :=
Cl (f_X3_clear 304 M) fun _ M1 =>
Lt (fun (v2 : Int) (M3 : Mm) => 
Cl (f_X11_copyRow 677 309 M3) fun _ M5 =>
some (v2, M5)) fun J115_4 =>
Lp (f_X7_goRound_L11_47 J115_4) FU (0, 0, M1)
theorem cy_X7_goRound : yX7_goRound.cls ≠ "java/lang/invoke/MethodHandle" ∧ yX7_goRound.cls ≠ "java/lang/invoke/VarHandle" ∧ (parseMethodDescriptor yX7_goRound.desc).map (fun d => d.parameters.length) = some 0 := ⟨by decide +kernel, by decide +kernel, by decide +kernel⟩
set_option maxRecDepth 20000 in
theorem ok_X7_goRound (l : Launch) (D : Dd) (base : Nat) (M : Mm) : OkI l D TC 681 base yX7_goRound cX7_goRound 4 (some .boolean) 5 125 [.ref (base + 676)] M bo (f_X7_goRound M) := by
  refine metI (by decide +kernel) [(0, .ref (base + 676))] rfl (Nat.le_of_ble_eq_true rfl) (fun p e s m args below meth c X hrt hlk => ?_)
  have X : Cx p s m args c cX7_goRound D 4 RX7 := X
  unfold f_X7_goRound
  refine go_iconst (v := 0) X dX7_goRound_0 rfl ?_
  refine go_istore_n (i := 1) (L' := [(1, .int (Ii 0)), (0, .ref (base + 676))]) X dX7_goRound_1 rfl (by decide) rfl ?_
  refine go_aload_n X dX7_goRound_2 rfl 1 rfl ?_
  refine go_getc (i := 3) X fc7 dX7_goRound_3 tcn676 tc676 (Nat.le_of_ble_eq_true rfl) rfl lw508 rfl ?_
  refine goV (fun H locs ls r ho hW hL => runV X (ok_X3_clear l D base M 304 isF_304 H.size r ho) dX7_goRound_6 lw514 lw515 lw516 lw245 ⟨lw370, cy_X3_clear, Nat.le_of_ble_eq_true rfl, Nat.le_of_ble_eq_true rfl⟩ rfl tcn304 tc304 rfl rfl rfl rfl (Nat.le_of_ble_eq_true rfl) hW hL hk0) (fun _ M1 => ?_)
  refine go_iconst (v := 0) X dX7_goRound_9 rfl ?_
  refine go_istore_n (i := 2) (L' := [(2, .int (Ii 0)), (1, .int (Ii 0)), (0, .ref (base + 676))]) X dX7_goRound_10 rfl (by decide) rfl ?_
  refine go_lt (fun J => ∀ (v2 : Int) (M3 : Mm), bo v2 → Go p l e (rmO 5 125) s m args below meth c D TC 681 base 4 0 0 (FinI D TC 681 base below args s bo) M3 115 [(0, .ref (base + 676)), (1, .int (Ii v2))] [] (J v2 M3)) (by
      intro v2 M3 hv2
      refine go_aload_n X dX7_goRound_115 rfl 0 rfl ?_
      refine go_getc (i := 5) X fc7 dX7_goRound_116 tcn676 tc676 (Nat.le_of_ble_eq_true rfl) rfl lw504 rfl ?_
      refine go_aload_n X dX7_goRound_119 rfl 0 rfl ?_
      refine go_getc (i := 4) X fc7 dX7_goRound_120 tcn676 tc676 (Nat.le_of_ble_eq_true rfl) rfl lw509 rfl ?_
      refine goV (fun H locs ls r ho hW hL => runSN X (ok_X11_copyRow l D base M3 677 isAC_677 309 isAC_309 H.size r ho) dX7_goRound_123 nl40 lw34 lw19 ⟨lw28, cy_X11_copyRow, Nat.le_of_ble_eq_true rfl, Nat.le_of_ble_eq_true rfl⟩ rfl rfl (Nat.le_of_ble_eq_true rfl) hW hL hk0) (fun _ M5 => ?_)
      refine go_iload_n X dX7_goRound_126 rfl 1 rfl ?_
      exact go_zreturn X hrt hlk dX7_goRound_127 hv2 hv2
      )
      (fun J115_4 hJ115_4 => ?_)
  refine go_sub [2, 1, 0] rfl ?_
  exact go_lp (fun (rc : Int × Int × Mm → Rs) => ∀ (v6 : Int) (v7 : Int) (M8 : Mm), bo v6 → i32 v7 → Go p l e (rmO 5 125) s m args below meth c D TC 681 base 4 0 0 (FinI D TC 681 base below args s bo) M8 11 [(0, .ref (base + 676)), (1, .int (Ii v6)), (2, .int (Ii v7))] [] (rc (v6, v7, M8)))
      (by intro v6 v7 M8 hv6 hv7; exact go_none)
      (by
      intro rc11_9 hrc11_9 v6 v7 M8 hv6 hv7
      unfold f_X7_goRound_L11_47
      dsimp only
      refine go_iload_n X dX7_goRound_11 rfl 2 rfl ?_
      refine go_aload_n X dX7_goRound_12 rfl 0 rfl ?_
      refine go_getc (i := 1) X fc7 dX7_goRound_13 tcn676 tc676 (Nat.le_of_ble_eq_true rfl) rfl lw506 rfl ?_
      refine go_geti (i := 0) X fc8 dX7_goRound_16 tcn283 tc283 (Nat.le_of_ble_eq_true rfl) rfl lw513 rfl (fun v10 hv10 => ?_)
      refine go_bipush (v := 6) X dX7_goRound_19 (by decide) ?_
      refine go_imul X dX7_goRound_21 hv10 kI_6 (fun v11 hv11 => ?_)
      refine go_icmp_ge (tgt := 115) X dX7_goRound_22 rfl hv7 hv11 (fun c12 => ?_) (fun c12 => ?_)
      · refine go_sub [0, 1] rfl ?_
        exact hJ115_4 v6 M8 hv6
      · refine go_aload_n X dX7_goRound_25 rfl 0 rfl ?_
        refine go_getc (i := 0) X fc7 dX7_goRound_26 tcn676 tc676 (Nat.le_of_ble_eq_true rfl) rfl lw505 rfl ?_
        refine go_iload_n X dX7_goRound_29 rfl 2 rfl ?_
        refine go_bipush (v := 6) X dX7_goRound_30 (by decide) ?_
        refine go_irem X dX7_goRound_32 hv7 kI_6 (by decide) (fun v13 hv13 => ?_)
        refine goI (fun H locs ls r ho hW hL => runV X (ok_X5_kindOf l D base M8 v13 hv13 H.size r ho) dX7_goRound_33 lw517 lw222 lw223 lw80 ⟨lw168, cy_X5_kindOf, Nat.le_of_ble_eq_true rfl, Nat.le_of_ble_eq_true rfl⟩ rfl tcn1 tc1 rfl rfl rfl rfl (Nat.le_of_ble_eq_true rfl) hW hL hk0) (fun v15 M14 hv15 => ?_)
        refine go_iconst (v := 3) X dX7_goRound_36 rfl ?_
        refine go_lt (fun J => ∀ (v16 : Int) (v17 : Int) (M18 : Mm), bo v16 → i32 v17 → Go p l e (rmO 5 125) s m args below meth c D TC 681 base 4 0 0 (FinI D TC 681 base below args s bo) M18 109 [(0, .ref (base + 676)), (1, .int (Ii v16)), (2, .int (Ii v17))] [] (J v16 v17 M18)) (by
            intro v16 v17 M18 hv16 hv17
            refine go_iinc (i := 2) (L' := fun v => [(2, .int (Ii v)), (0, .ref (base + 676)), (1, .int (Ii v16))]) X dX7_goRound_109 hv17 kI_1 (j := 2) rfl (by decide) (fun _ => rfl) (fun v20 hv20 => ?_)
            refine go_goto (tgt := 11) X dX7_goRound_112 rfl ?_
            refine go_sub [1, 2, 0] rfl ?_
            exact hrc11_9 v16 v20 M18 hv16 hv20
            )
            (fun J109_19 hJ109_19 => ?_)
        refine go_icmp_eq (tgt := 43) X dX7_goRound_37 rfl hv15 kI_3 (fun c21 => ?_) (fun c21 => ?_)
        · refine go_aload_n X dX7_goRound_43 rfl 0 rfl ?_
          refine go_getc (i := 2) X fc7 dX7_goRound_44 tcn676 tc676 (Nat.le_of_ble_eq_true rfl) rfl lw507 rfl ?_
          refine go_iload_n X dX7_goRound_47 rfl 2 rfl ?_
          refine go_bipush (v := 6) X dX7_goRound_48 (by decide) ?_
          refine go_idiv X dX7_goRound_50 hv7 kI_6 (by decide) (fun v22 hv22 => ?_)
          refine go_iload_n X dX7_goRound_51 rfl 2 rfl ?_
          refine go_bipush (v := 6) X dX7_goRound_52 (by decide) ?_
          refine go_irem X dX7_goRound_54 hv7 kI_6 (by decide) (fun v23 hv23 => ?_)
          refine go_aload_n X dX7_goRound_55 rfl 0 rfl ?_
          refine go_getc (i := 3) X fc7 dX7_goRound_56 tcn676 tc676 (Nat.le_of_ble_eq_true rfl) rfl lw508 rfl ?_
          refine goI (fun H locs ls r ho hW hL => runV X (ok_X2_find l D base M14 v22 hv22 v23 hv23 304 isF_304 H.size r ho) dX7_goRound_59 lw518 lw363 lw364 lw216 ⟨lw361, cy_X2_find, Nat.le_of_ble_eq_true rfl, Nat.le_of_ble_eq_true rfl⟩ rfl tcn310 tc310 rfl rfl rfl rfl (Nat.le_of_ble_eq_true rfl) hW hL hk0) (fun v25 M24 hv25 => ?_)
          refine go_istore_n (i := 3) (L' := [(3, .int (Ii v25)), (0, .ref (base + 676)), (1, .int (Ii v6)), (2, .int (Ii v7))]) X dX7_goRound_62 rfl (by decide) rfl ?_
          refine go_aload_n X dX7_goRound_63 rfl 1 rfl ?_
          refine go_getc (i := 5) X fc7 dX7_goRound_64 tcn676 tc676 (Nat.le_of_ble_eq_true rfl) rfl lw504 rfl ?_
          refine go_iload_n X dX7_goRound_67 rfl 3 rfl ?_
          refine go_iload_n X dX7_goRound_68 rfl 0 rfl ?_
          refine go_sipush (v := 1000) X dX7_goRound_69 (by decide) ?_
          refine go_lt (fun J => ∀ (v26 : Int) (v27 : Int) (v28 : Int) (v29 : Int) (M30 : Mm), bo v26 → i32 v27 → i32 v28 → i32 v29 → Go p l e (rmO 5 125) s m args below meth c D TC 681 base 4 0 0 (FinI D TC 681 base below args s bo) M30 80 [(0, .ref (base + 676)), (1, .int (Ii v26)), (2, .int (Ii v27))] [.int (Ii v29), .int (Ii v28), .ref (base + 677)] (J v26 v27 v28 v29 M30)) (by
              intro v26 v27 v28 v29 M30 hv26 hv27 hv28 hv29
              refine goV (fun H locs ls r ho hW hL => runSN X (ok_X11_setEntry l D base M30 677 isAC_677 v28 hv28 v29 hv29 H.size r ho) dX7_goRound_80 nl38 lw21 lw19 ⟨lw14, cy_X11_setEntry, Nat.le_of_ble_eq_true rfl, Nat.le_of_ble_eq_true rfl⟩ rfl rfl (Nat.le_of_ble_eq_true rfl) hW hL hk0) (fun _ M32 => ?_)
              refine go_iload_n X dX7_goRound_83 rfl 1 rfl ?_
              refine go_lt (fun J => ∀ (v33 : Int) (v34 : Int) (M35 : Mm), i32 v33 → bo v34 → Go p l e (rmO 5 125) s m args below meth c D TC 681 base 4 0 0 (FinI D TC 681 base below args s bo) M35 108 [(0, .ref (base + 676)), (2, .int (Ii v33))] [.int (Ii v34)] (J v33 v34 M35)) (by
                  intro v33 v34 M35 hv33 hv34
                  refine go_istore_n (i := 1) (L' := [(1, .int (Ii v34)), (0, .ref (base + 676)), (2, .int (Ii v33))]) X dX7_goRound_108 rfl (by decide) rfl ?_
                  refine go_sub [1, 0, 2] rfl ?_
                  exact hJ109_19 v34 v33 M35 hv34 hv33
                  )
                  (fun J108_36 hJ108_36 => ?_)
              refine go_lt (fun J => ∀ (v37 : Int) (M38 : Mm), i32 v37 → Go p l e (rmO 5 125) s m args below meth c D TC 681 base 4 0 0 (FinI D TC 681 base below args s bo) M38 103 [(0, .ref (base + 676)), (2, .int (Ii v37))] [] (J v37 M38)) (by
                  intro v37 M38 hv37
                  refine go_iconst (v := 1) X dX7_goRound_103 rfl ?_
                  refine go_goto (tgt := 108) X dX7_goRound_104 rfl ?_
                  exact hJ108_36 v37 1 M38 hv37 (Or.inr rfl)
                  )
                  (fun J103_39 hJ103_39 => ?_)
              refine go_if_ne (tgt := 103) X dX7_goRound_84 rfl (bo_i32 hv26) (fun c40 => ?_) (fun c40 => ?_)
              · refine go_sub [0, 2] rfl ?_
                exact hJ103_39 v27 M32 hv27
              · refine go_aload_n X dX7_goRound_87 rfl 0 rfl ?_
                refine go_getc (i := 5) X fc7 dX7_goRound_88 tcn676 tc676 (Nat.le_of_ble_eq_true rfl) rfl lw504 rfl ?_
                refine go_iload_n X dX7_goRound_91 rfl 2 rfl ?_
                refine goI (fun H locs ls r ho hW hL => runSN X (ok_X11_entryOf l D base M32 677 isAC_677 v27 hv27 H.size r ho) dX7_goRound_92 nl39 lw20 lw19 ⟨lw13, cy_X11_entryOf, Nat.le_of_ble_eq_true rfl, Nat.le_of_ble_eq_true rfl⟩ rfl rfl (Nat.le_of_ble_eq_true rfl) hW hL hk0) (fun v42 M41 hv42 => ?_)
                refine go_aload_n X dX7_goRound_95 rfl 0 rfl ?_
                refine go_iload_n X dX7_goRound_96 rfl 2 rfl ?_
                refine goI (fun H locs ls r ho hW hL => runV X (ok_X7_valueOf l D base M41 v27 hv27 H.size r ho) dX7_goRound_97 lw519 lw520 lw521 lw522 ⟨lw512, cy_X7_valueOf, Nat.le_of_ble_eq_true rfl, Nat.le_of_ble_eq_true rfl⟩ rfl tcn676 tc676 rfl rfl rfl rfl (Nat.le_of_ble_eq_true rfl) hW hL hk0) (fun v44 M43 hv44 => ?_)
                refine go_icmp_eq (tgt := 107) X dX7_goRound_100 rfl hv42 hv44 (fun c45 => ?_) (fun c45 => ?_)
                · refine go_iconst (v := 0) X dX7_goRound_107 rfl ?_
                  refine go_sub [0, 2] rfl ?_
                  exact hJ108_36 v27 0 M43 hv27 (Or.inl rfl)
                · refine go_sub [0, 2] rfl ?_
                  exact hJ103_39 v27 M43 hv27
              )
              (fun J80_31 hJ80_31 => ?_)
          refine go_icmp_lt (tgt := 79) X dX7_goRound_72 rfl hv25 kI_1000 (fun c46 => ?_) (fun c46 => ?_)
          · refine go_iload_n X dX7_goRound_79 rfl 0 rfl ?_
            refine go_sub [1, 2, 3] rfl ?_
            exact hJ80_31 v6 v7 v7 v25 M24 hv6 hv7 hv7 hv25
          · refine go_iconst (v := (-1)) X dX7_goRound_75 rfl ?_
            refine go_goto (tgt := 80) X dX7_goRound_76 rfl ?_
            refine go_sub [1, 2, 3] rfl ?_
            exact hJ80_31 v6 v7 v7 ((-1)) M24 hv6 hv7 hv7 kI_m1
        · refine go_goto (tgt := 109) X dX7_goRound_40 rfl ?_
          exact hJ109_19 v6 v7 M14 hv6 hv7
      )
      FU 0 0 M1 (Or.inl rfl) kI_0
def f_X7_settle_L31_19 (J51_7 : Mm → Rs) (J44_10 : Mm → Rs) (rc31_13 : Int × Mm → Rs) : Int × Mm → Rs := fun (v11, M12) =>
if 30 ≤ v11 then (
J51_7 M12) else (
Cl (f_X7_goRound M12) fun v16 M15 =>
if ¬ v16 = 0 then (
Lt (wr (v11 + 1)) fun v18 =>
rc31_13 (v18, M15)) else (
J44_10 M15))
def f_X7_settle (M : Mm) : Rs :=
Lt (M 676 6) fun v1 =>
if v1 = 0 then (
Lt (up M 676 6 1) fun M3 =>
Cl (f_X11_fillRow 309 0 M3) fun _ M4 =>
Cl (f_X11_fillRow 677 0 M4) fun _ M5 =>
Lt (fun (M6 : Mm) => 
Cl (f_X11_fillRow 309 ((-2)) M6) fun _ M8 =>
some (0, M8)) fun J51_7 =>
Lt (fun (M9 : Mm) => 
some (0, M9)) fun J44_10 =>
Lp (f_X7_settle_L31_19 J51_7 J44_10) FU (0, M5)) else (
some (0, M))
theorem cy_X7_settle : yX7_settle.cls ≠ "java/lang/invoke/MethodHandle" ∧ yX7_settle.cls ≠ "java/lang/invoke/VarHandle" ∧ (parseMethodDescriptor yX7_settle.desc).map (fun d => d.parameters.length) = some 0 := ⟨by decide +kernel, by decide +kernel, by decide +kernel⟩
set_option maxRecDepth 20000 in
theorem ok_X7_settle (l : Launch) (D : Dd) (base : Nat) (M : Mm) : OkV l D TC 681 base yX7_settle cX7_settle 2 none 6 148 [.ref (base + 676)] M (f_X7_settle M) := by
  refine metV (by decide +kernel) [(0, .ref (base + 676))] rfl (Nat.le_of_ble_eq_true rfl) (fun p e s m args below meth c X hrt hlk => ?_)
  have X : Cx p s m args c cX7_settle D 2 RX7 := X
  unfold f_X7_settle
  refine go_aload_n X dX7_settle_0 rfl 0 rfl ?_
  refine go_getz (i := 6) X fc7 dX7_settle_1 tcn676 tc676 (Nat.le_of_ble_eq_true rfl) rfl lw511 rfl (fun v1 hv1 => ?_)
  refine go_if_eq (tgt := 8) X dX7_settle_4 rfl (bo_i32 hv1) (fun c2 => ?_) (fun c2 => ?_)
  · refine go_aload_n X dX7_settle_8 rfl 0 rfl ?_
    refine go_iconst (v := 1) X dX7_settle_9 rfl ?_
    refine go_putz (i := 6) X fc7 dX7_settle_10 tcn676 tc676 (Nat.le_of_ble_eq_true rfl) rfl lw511 rfl rfl rfl (Or.inr rfl) (fun M3 => ?_)
    refine go_aload_n X dX7_settle_13 rfl 0 rfl ?_
    refine go_getc (i := 4) X fc7 dX7_settle_14 tcn676 tc676 (Nat.le_of_ble_eq_true rfl) rfl lw509 rfl ?_
    refine go_iconst (v := 0) X dX7_settle_17 rfl ?_
    refine goV (fun H locs ls r ho hW hL => runSN X (ok_X11_fillRow l D base M3 309 isAC_309 0 kI_0 H.size r ho) dX7_settle_18 nl33 lw93 lw19 ⟨lw66, cy_X11_fillRow, Nat.le_of_ble_eq_true rfl, Nat.le_of_ble_eq_true rfl⟩ rfl rfl (Nat.le_of_ble_eq_true rfl) hW hL hk0) (fun _ M4 => ?_)
    refine go_aload_n X dX7_settle_21 rfl 0 rfl ?_
    refine go_getc (i := 5) X fc7 dX7_settle_22 tcn676 tc676 (Nat.le_of_ble_eq_true rfl) rfl lw504 rfl ?_
    refine go_iconst (v := 0) X dX7_settle_25 rfl ?_
    refine goV (fun H locs ls r ho hW hL => runSN X (ok_X11_fillRow l D base M4 677 isAC_677 0 kI_0 H.size r ho) dX7_settle_26 nl33 lw93 lw19 ⟨lw66, cy_X11_fillRow, Nat.le_of_ble_eq_true rfl, Nat.le_of_ble_eq_true rfl⟩ rfl rfl (Nat.le_of_ble_eq_true rfl) hW hL hk0) (fun _ M5 => ?_)
    refine go_iconst (v := 0) X dX7_settle_29 rfl ?_
    refine go_istore_n (i := 1) (L' := [(1, .int (Ii 0)), (0, .ref (base + 676))]) X dX7_settle_30 rfl (by decide) rfl ?_
    refine go_lt (fun J => ∀ (M6 : Mm), Go p l e (rmO 6 148) s m args below meth c D TC 681 base 2 0 0 (FinV D TC 681 base below args s) M6 51 [(0, .ref (base + 676))] [] (J M6)) (by
        intro M6
        refine go_aload_n X dX7_settle_51 rfl 0 rfl ?_
        refine go_getc (i := 4) X fc7 dX7_settle_52 tcn676 tc676 (Nat.le_of_ble_eq_true rfl) rfl lw509 rfl ?_
        refine go_bipush (v := (-2)) X dX7_settle_55 (by decide) ?_
        refine goV (fun H locs ls r ho hW hL => runSN X (ok_X11_fillRow l D base M6 309 isAC_309 ((-2)) kI_m2 H.size r ho) dX7_settle_57 nl33 lw93 lw19 ⟨lw66, cy_X11_fillRow, Nat.le_of_ble_eq_true rfl, Nat.le_of_ble_eq_true rfl⟩ rfl rfl (Nat.le_of_ble_eq_true rfl) hW hL hk0) (fun _ M8 => ?_)
        exact go_vreturn X hrt hlk dX7_settle_60
        )
        (fun J51_7 hJ51_7 => ?_)
    refine go_lt (fun J => ∀ (M9 : Mm), Go p l e (rmO 6 148) s m args below meth c D TC 681 base 2 0 0 (FinV D TC 681 base below args s) M9 44 [] [] (J M9)) (by
        intro M9
        exact go_vreturn X hrt hlk dX7_settle_44
        )
        (fun J44_10 hJ44_10 => ?_)
    refine go_sub [1, 0] rfl ?_
    exact go_lp (fun (rc : Int × Mm → Rs) => ∀ (v11 : Int) (M12 : Mm), i32 v11 → Go p l e (rmO 6 148) s m args below meth c D TC 681 base 2 0 0 (FinV D TC 681 base below args s) M12 31 [(0, .ref (base + 676)), (1, .int (Ii v11))] [] (rc (v11, M12)))
        (by intro v11 M12 hv11; exact go_none)
        (by
        intro rc31_13 hrc31_13 v11 M12 hv11
        unfold f_X7_settle_L31_19
        dsimp only
        refine go_iload_n X dX7_settle_31 rfl 1 rfl ?_
        refine go_bipush (v := 30) X dX7_settle_32 (by decide) ?_
        refine go_icmp_ge (tgt := 51) X dX7_settle_34 rfl hv11 kI_30 (fun c14 => ?_) (fun c14 => ?_)
        · refine go_sub [0] rfl ?_
          exact hJ51_7 M12
        · refine go_aload_n X dX7_settle_37 rfl 0 rfl ?_
          refine goI (fun H locs ls r ho hW hL => runV X (ok_X7_goRound l D base M12  H.size r ho) dX7_settle_38 lw524 lw525 lw526 lw522 ⟨lw523, cy_X7_goRound, Nat.le_of_ble_eq_true rfl, Nat.le_of_ble_eq_true rfl⟩ rfl tcn676 tc676 rfl rfl rfl rfl (Nat.le_of_ble_eq_true rfl) hW hL hk0) (fun v16 M15 hv16 => ?_)
          refine go_if_ne (tgt := 45) X dX7_settle_41 rfl (bo_i32 hv16) (fun c17 => ?_) (fun c17 => ?_)
          · refine go_iinc (i := 1) (L' := fun v => [(1, .int (Ii v)), (0, .ref (base + 676))]) X dX7_settle_45 hv11 kI_1 (j := 1) rfl (by decide) (fun _ => rfl) (fun v18 hv18 => ?_)
            refine go_goto (tgt := 31) X dX7_settle_48 rfl ?_
            refine go_sub [1, 0] rfl ?_
            exact hrc31_13 v18 M15 hv18
          · refine go_sub [] rfl ?_
            exact hJ44_10 M15
        )
        FU 0 M5 kI_0
  · exact go_vreturn X hrt hlk dX7_settle_7
