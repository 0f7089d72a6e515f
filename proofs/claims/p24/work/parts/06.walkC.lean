def f_X0_clear (h : Nat) (M : Mm) : Rs :=
Lt (up M h 4 0) fun M1 =>
Lt (up M1 h 5 0) fun M2 =>
some (0, M2)
theorem cy_X0_clear : yX0_clear.cls ≠ "java/lang/invoke/MethodHandle" ∧ yX0_clear.cls ≠ "java/lang/invoke/VarHandle" ∧ (parseMethodDescriptor yX0_clear.desc).map (fun d => d.parameters.length) = some 0 := ⟨by decide +kernel, by decide +kernel, by decide +kernel⟩
set_option maxRecDepth 20000 in
theorem ok_X0_clear (l : Launch) (D : Dd) (base : Nat) (M : Mm) (h : Nat) (hh : isE h) : OkV l D TC 681 base yX0_clear cX0_clear 1 none 0 0 [.ref (base + h)] M (f_X0_clear h M) := by
  refine metV (by decide +kernel) [(0, .ref (base + h))] rfl (Nat.le_of_ble_eq_true rfl) (fun p e s m args below meth c X hrt hlk => ?_)
  have X : Cx p s m args c cX0_clear D 1 RX0 := X
  unfold f_X0_clear
  refine go_aload_n X dX0_clear_0 rfl 0 rfl ?_
  refine go_iconst (v := 0) X dX0_clear_1 rfl ?_
  refine go_puti (i := 4) X fc0 dX0_clear_2 (nE hh) (tE hh) (Nat.le_of_ble_eq_true rfl) rfl lw16 rfl rfl rfl kI_0 (fun M1 => ?_)
  refine go_aload_n X dX0_clear_5 rfl 0 rfl ?_
  refine go_iconst (v := 0) X dX0_clear_6 rfl ?_
  refine go_puti (i := 5) X fc0 dX0_clear_7 (nE hh) (tE hh) (Nat.le_of_ble_eq_true rfl) rfl lw17 rfl rfl rfl kI_0 (fun M2 => ?_)
  exact go_vreturn X hrt hlk dX0_clear_10
def f_X11_dropSteps (M : Mm) : Rs :=
Lt (M 14 4) fun v1 =>
Cl (f_X0_clear 14 M) fun _ M2 =>
some (v1, M2)
theorem cy_X11_dropSteps : yX11_dropSteps.cls ≠ "java/lang/invoke/MethodHandle" ∧ yX11_dropSteps.cls ≠ "java/lang/invoke/VarHandle" ∧ (parseMethodDescriptor yX11_dropSteps.desc).map (fun d => d.parameters.length) = some 0 := ⟨by decide +kernel, by decide +kernel, by decide +kernel⟩
set_option maxRecDepth 20000 in
theorem ok_X11_dropSteps (l : Launch) (D : Dd) (base : Nat) (M : Mm) : OkI l D TC 681 base yX11_dropSteps cX11_dropSteps 2 (some .int) 1 20 [.ref (base + 0)] M i32 (f_X11_dropSteps M) := by
  refine metI (by decide +kernel) [(0, .ref (base + 0))] rfl (Nat.le_of_ble_eq_true rfl) (fun p e s m args below meth c X hrt hlk => ?_)
  have X : Cx p s m args c cX11_dropSteps D 2 RX11 := X
  unfold f_X11_dropSteps
  refine go_aload_n X dX11_dropSteps_0 rfl 0 rfl ?_
  refine go_getc (i := 1) X fc11 dX11_dropSteps_1 tcn0 tc0 (Nat.le_of_ble_eq_true rfl) rfl lw641 rfl ?_
  refine go_geti (i := 4) X fc0 dX11_dropSteps_4 tcn14 tc14 (Nat.le_of_ble_eq_true rfl) rfl lw750 rfl (fun v1 hv1 => ?_)
  refine go_istore_n (i := 1) (L' := [(1, .int (Ii v1)), (0, .ref (base + 0))]) X dX11_dropSteps_7 rfl (by decide) rfl ?_
  refine go_aload_n X dX11_dropSteps_8 rfl 1 rfl ?_
  refine go_getc (i := 1) X fc11 dX11_dropSteps_9 tcn0 tc0 (Nat.le_of_ble_eq_true rfl) rfl lw641 rfl ?_
  refine goV (fun H locs ls r ho hW hL => runV X (ok_X0_clear l D base M 14 isE_14 H.size r ho) dX11_dropSteps_12 lw762 lw763 lw764 lw33 ⟨lw22, cy_X0_clear, Nat.le_of_ble_eq_true rfl, Nat.le_of_ble_eq_true rfl⟩ rfl tcn14 tc14 rfl rfl rfl rfl (Nat.le_of_ble_eq_true rfl) hW hL hk0) (fun _ M2 => ?_)
  refine go_iload_n X dX11_dropSteps_15 rfl 0 rfl ?_
  exact go_ireturn X hrt hlk dX11_dropSteps_16 hv1
def f_X1_rowOf (a1 : Int) (M : Mm) : Rs :=
Lt (fun (v1 : Int) (M2 : Mm) => 
some (v1, M2)) fun J31_3 =>
Lt (fun (M4 : Mm) => 
J31_3 ((-1)) M4) fun J30_5 =>
if a1 < 0 then (
J30_5 M) else (
Lt (M 25 0) fun v7 =>
if v7 ≤ a1 then (
J30_5 M) else (
if 30 ≤ a1 then (
J30_5 M) else (
gd (0 ≤ a1 ∧ a1 < 30) <|
J31_3 (((33 + 8 * a1.toNat : Nat) : Int)) M)))
theorem cy_X1_rowOf : yX1_rowOf.cls ≠ "java/lang/invoke/MethodHandle" ∧ yX1_rowOf.cls ≠ "java/lang/invoke/VarHandle" ∧ (parseMethodDescriptor yX1_rowOf.desc).map (fun d => d.parameters.length) = some 1 := ⟨by decide +kernel, by decide +kernel, by decide +kernel⟩
set_option maxRecDepth 20000 in
theorem ok_X1_rowOf (l : Launch) (D : Dd) (base : Nat) (M : Mm) (a1 : Int) (ha1 : i32 a1) : OkR l D TC 681 base yX1_rowOf cX1_rowOf 2 (some (.object "AttribArbor$Equation")) 0 0 [.ref (base + 25), .int (Ii a1)] M (f_X1_rowOf a1 M) := by
  refine metR (by decide +kernel) [(0, .ref (base + 25)), (1, .int (Ii a1))] rfl (Nat.le_of_ble_eq_true rfl) (fun p e s m args below meth c X hrt hlk => ?_)
  have X : Cx p s m args c cX1_rowOf D 2 RX1 := X
  unfold f_X1_rowOf
  refine go_iload_n X dX1_rowOf_0 rfl 1 rfl ?_
  refine go_lt (fun J => ∀ (v1 : Int) (M2 : Mm), Go p l e (rmO 0 0) s m args below meth c D TC 681 base 2 0 0 (FinR D TC 681 base below args s) M2 31 [] [rv base v1] (J v1 M2)) (by
      intro v1 M2
      exact go_areturn X hrt hlk dX1_rowOf_31 rfl
      )
      (fun J31_3 hJ31_3 => ?_)
  refine go_lt (fun J => ∀ (M4 : Mm), Go p l e (rmO 0 0) s m args below meth c D TC 681 base 2 0 0 (FinR D TC 681 base below args s) M4 30 [] [] (J M4)) (by
      intro M4
      refine go_anull X dX1_rowOf_30 ?_
      exact hJ31_3 ((-1)) M4
      )
      (fun J30_5 hJ30_5 => ?_)
  refine go_if_lt (tgt := 30) X dX1_rowOf_1 rfl ha1 (fun c6 => ?_) (fun c6 => ?_)
  · refine go_sub [] rfl ?_
    exact hJ30_5 M
  · refine go_iload_n X dX1_rowOf_4 rfl 1 rfl ?_
    refine go_aload_n X dX1_rowOf_5 rfl 0 rfl ?_
    refine go_geti (i := 0) X fc1 dX1_rowOf_6 tcn25 tc25 (Nat.le_of_ble_eq_true rfl) rfl lw57 rfl (fun v7 hv7 => ?_)
    refine go_icmp_ge (tgt := 30) X dX1_rowOf_9 rfl ha1 hv7 (fun c8 => ?_) (fun c8 => ?_)
    · refine go_sub [] rfl ?_
      exact hJ30_5 M
    · refine go_iload_n X dX1_rowOf_12 rfl 1 rfl ?_
      refine go_aload_n X dX1_rowOf_13 rfl 0 rfl ?_
      refine go_getc (i := 1) X fc1 dX1_rowOf_14 tcn25 tc25 (Nat.le_of_ble_eq_true rfl) rfl lw44 rfl ?_
      refine go_alen X dX1_rowOf_17 tcn26 tc26 (by decide) ?_
      refine go_icmp_ge (tgt := 30) X dX1_rowOf_18 rfl ha1 kI_30 (fun c9 => ?_) (fun c9 => ?_)
      · refine go_sub [] rfl ?_
        exact hJ30_5 M
      · refine go_aload_n X dX1_rowOf_21 rfl 0 rfl ?_
        refine go_getc (i := 1) X fc1 dX1_rowOf_22 tcn25 tc25 (Nat.le_of_ble_eq_true rfl) rfl lw44 rfl ?_
        refine go_iload_n X dX1_rowOf_25 rfl 1 rfl ?_
        refine go_aaloadE X dX1_rowOf_26 tcn26 tc26 ha1 (fun g10 => ?_)
        refine go_goto (tgt := 31) X dX1_rowOf_27 rfl ?_
        refine go_sub [] rfl ?_
        refine go_r2q ?_
        exact hJ31_3 (((33 + 8 * a1.toNat : Nat) : Int)) M
def f_X1_counts (r1 : Nat) (M : Mm) : Rs :=
Lt (M r1 3) fun v1 =>
Lt (fun (v2 : Int) (M3 : Mm) => 
some (v2, M3)) fun J32_4 =>
Lt (fun (M5 : Mm) => 
J32_4 0 M5) fun J31_6 =>
if v1 < 0 then (
J31_6 M) else (
if 4 ≤ v1 then (
J31_6 M) else (
gd (0 ≤ v1 ∧ v1 < 4) <|
Lt (M 27 v1.toNat) fun v9 =>
if ¬ v9 = 0 then (
J31_6 M) else (
J32_4 1 M)))
theorem cy_X1_counts : yX1_counts.cls ≠ "java/lang/invoke/MethodHandle" ∧ yX1_counts.cls ≠ "java/lang/invoke/VarHandle" ∧ (parseMethodDescriptor yX1_counts.desc).map (fun d => d.parameters.length) = some 1 := ⟨by decide +kernel, by decide +kernel, by decide +kernel⟩
set_option maxRecDepth 20000 in
theorem ok_X1_counts (l : Launch) (D : Dd) (base : Nat) (M : Mm) (r1 : Nat) (hr1 : isE r1) : OkI l D TC 681 base yX1_counts cX1_counts 3 (some .boolean) 0 0 [.ref (base + 25), .ref (base + r1)] M bo (f_X1_counts r1 M) := by
  refine metI (by decide +kernel) [(0, .ref (base + 25)), (1, .ref (base + r1))] rfl (Nat.le_of_ble_eq_true rfl) (fun p e s m args below meth c X hrt hlk => ?_)
  have X : Cx p s m args c cX1_counts D 3 RX1 := X
  unfold f_X1_counts
  refine go_aload_n X dX1_counts_0 rfl 1 rfl ?_
  refine go_geti (i := 3) X fc0 dX1_counts_1 (nE hr1) (tE hr1) (Nat.le_of_ble_eq_true rfl) rfl lw65 rfl (fun v1 hv1 => ?_)
  refine go_istore_n (i := 2) (L' := [(2, .int (Ii v1)), (0, .ref (base + 25)), (1, .ref (base + r1))]) X dX1_counts_4 rfl (by decide) rfl ?_
  refine go_iload_n X dX1_counts_5 rfl 0 rfl ?_
  refine go_lt (fun J => ∀ (v2 : Int) (M3 : Mm), bo v2 → Go p l e (rmO 0 0) s m args below meth c D TC 681 base 3 0 0 (FinI D TC 681 base below args s bo) M3 32 [] [.int (Ii v2)] (J v2 M3)) (by
      intro v2 M3 hv2
      exact go_zreturn X hrt hlk dX1_counts_32 hv2 hv2
      )
      (fun J32_4 hJ32_4 => ?_)
  refine go_lt (fun J => ∀ (M5 : Mm), Go p l e (rmO 0 0) s m args below meth c D TC 681 base 3 0 0 (FinI D TC 681 base below args s bo) M5 31 [] [] (J M5)) (by
      intro M5
      refine go_iconst (v := 0) X dX1_counts_31 rfl ?_
      exact hJ32_4 0 M5 (Or.inl rfl)
      )
      (fun J31_6 hJ31_6 => ?_)
  refine go_if_lt (tgt := 31) X dX1_counts_6 rfl hv1 (fun c7 => ?_) (fun c7 => ?_)
  · refine go_sub [] rfl ?_
    exact hJ31_6 M
  · refine go_iload_n X dX1_counts_9 rfl 0 rfl ?_
    refine go_aload_n X dX1_counts_10 rfl 1 rfl ?_
    refine go_getc (i := 2) X fc1 dX1_counts_11 tcn25 tc25 (Nat.le_of_ble_eq_true rfl) rfl lw46 rfl ?_
    refine go_alen X dX1_counts_14 tcn27 tc27 (by decide) ?_
    refine go_icmp_ge (tgt := 31) X dX1_counts_15 rfl hv1 kI_4 (fun c8 => ?_) (fun c8 => ?_)
    · refine go_sub [] rfl ?_
      exact hJ31_6 M
    · refine go_aload_n X dX1_counts_18 rfl 1 rfl ?_
      refine go_getc (i := 2) X fc1 dX1_counts_19 tcn25 tc25 (Nat.le_of_ble_eq_true rfl) rfl lw46 rfl ?_
      refine go_iload_n X dX1_counts_22 rfl 0 rfl ?_
      refine go_zaload X dX1_counts_23 tcn27 tc27 hv1 (fun v9 hv9 => ?_)
      refine go_if_ne (tgt := 31) X dX1_counts_24 rfl (bo_i32 hv9) (fun c10 => ?_) (fun c10 => ?_)
      · refine go_sub [] rfl ?_
        exact hJ31_6 M
      · refine go_iconst (v := 1) X dX1_counts_27 rfl ?_
        refine go_goto (tgt := 32) X dX1_counts_28 rfl ?_
        refine go_sub [] rfl ?_
        exact hJ32_4 1 M (Or.inr rfl)
def f_X1_placeOf (a1 : Int) (a2 : Int) (a3 : Int) (M : Mm) : Rs :=
Lt (fun (M1 : Mm) => 
some ((-1), M1)) fun J18_2 =>
if a1 < 0 then (
J18_2 M) else (
if a2 < 0 then (
J18_2 M) else (
if a3 < ((-1)) then (
J18_2 M) else (
if a3 < 3 then (
Lt (wr (a1 * 6)) fun v7 =>
Lt (wr (v7 + a2)) fun v8 =>
Lt (wr (v8 * 4)) fun v9 =>
Lt (wr (v9 + a3)) fun v10 =>
Lt (wr (v10 + 1)) fun v11 =>
some (v11, M)) else (
J18_2 M))))
theorem cy_X1_placeOf : yX1_placeOf.cls ≠ "java/lang/invoke/MethodHandle" ∧ yX1_placeOf.cls ≠ "java/lang/invoke/VarHandle" ∧ (parseMethodDescriptor yX1_placeOf.desc).map (fun d => d.parameters.length) = some 3 := ⟨by decide +kernel, by decide +kernel, by decide +kernel⟩
set_option maxRecDepth 20000 in
theorem ok_X1_placeOf (l : Launch) (D : Dd) (base : Nat) (M : Mm) (a1 : Int) (ha1 : i32 a1) (a2 : Int) (ha2 : i32 a2) (a3 : Int) (ha3 : i32 a3) : OkI l D TC 681 base yX1_placeOf cX1_placeOf 3 (some .int) 0 0 [.int (Ii a1), .int (Ii a2), .int (Ii a3)] M i32 (f_X1_placeOf a1 a2 a3 M) := by
  refine metI (by decide +kernel) [(0, .int (Ii a1)), (1, .int (Ii a2)), (2, .int (Ii a3))] rfl (Nat.le_of_ble_eq_true rfl) (fun p e s m args below meth c X hrt hlk => ?_)
  have X : Cx p s m args c cX1_placeOf D 3 RX1 := X
  unfold f_X1_placeOf
  refine go_iload_n X dX1_placeOf_0 rfl 0 rfl ?_
  refine go_lt (fun J => ∀ (M1 : Mm), Go p l e (rmO 0 0) s m args below meth c D TC 681 base 3 0 0 (FinI D TC 681 base below args s i32) M1 18 [] [] (J M1)) (by
      intro M1
      refine go_iconst (v := (-1)) X dX1_placeOf_18 rfl ?_
      exact go_ireturn X hrt hlk dX1_placeOf_19 kI_m1
      )
      (fun J18_2 hJ18_2 => ?_)
  refine go_if_lt (tgt := 18) X dX1_placeOf_1 rfl ha1 (fun c3 => ?_) (fun c3 => ?_)
  · refine go_sub [] rfl ?_
    exact hJ18_2 M
  · refine go_iload_n X dX1_placeOf_4 rfl 1 rfl ?_
    refine go_if_lt (tgt := 18) X dX1_placeOf_5 rfl ha2 (fun c4 => ?_) (fun c4 => ?_)
    · refine go_sub [] rfl ?_
      exact hJ18_2 M
    · refine go_iload_n X dX1_placeOf_8 rfl 2 rfl ?_
      refine go_iconst (v := (-1)) X dX1_placeOf_9 rfl ?_
      refine go_icmp_lt (tgt := 18) X dX1_placeOf_10 rfl ha3 kI_m1 (fun c5 => ?_) (fun c5 => ?_)
      · refine go_sub [] rfl ?_
        exact hJ18_2 M
      · refine go_iload_n X dX1_placeOf_13 rfl 2 rfl ?_
        refine go_iconst (v := 3) X dX1_placeOf_14 rfl ?_
        refine go_icmp_lt (tgt := 20) X dX1_placeOf_15 rfl ha3 kI_3 (fun c6 => ?_) (fun c6 => ?_)
        · refine go_iload_n X dX1_placeOf_20 rfl 0 rfl ?_
          refine go_bipush (v := 6) X dX1_placeOf_21 (by decide) ?_
          refine go_imul X dX1_placeOf_23 ha1 kI_6 (fun v7 hv7 => ?_)
          refine go_iload_n X dX1_placeOf_24 rfl 1 rfl ?_
          refine go_iadd X dX1_placeOf_25 hv7 ha2 (fun v8 hv8 => ?_)
          refine go_iconst (v := 4) X dX1_placeOf_26 rfl ?_
          refine go_imul X dX1_placeOf_27 hv8 kI_4 (fun v9 hv9 => ?_)
          refine go_iload_n X dX1_placeOf_28 rfl 2 rfl ?_
          refine go_iadd X dX1_placeOf_29 hv9 ha3 (fun v10 hv10 => ?_)
          refine go_iconst (v := 1) X dX1_placeOf_30 rfl ?_
          refine go_iadd X dX1_placeOf_31 hv10 kI_1 (fun v11 hv11 => ?_)
          exact go_ireturn X hrt hlk dX1_placeOf_32 hv11
        · refine go_sub [] rfl ?_
          exact hJ18_2 M
def f_X11_entryOf (r1 : Nat) (a2 : Int) (M : Mm) : Rs :=
Lt (fun (v1 : Int) (M2 : Mm) => 
some (v1, M2)) fun J17_3 =>
Lt (fun (M4 : Mm) => 
J17_3 ((-1)) M4) fun J16_5 =>
if a2 < 0 then (
J16_5 M) else (
if (((alenC r1 : Nat) : Int)) ≤ a2 then (
J16_5 M) else (
gd (0 ≤ a2 ∧ a2 < ((alenC r1 : Nat) : Int)) <|
Lt (M r1 a2.toNat) fun v8 =>
J17_3 v8 M))
theorem cy_X11_entryOf : yX11_entryOf.cls ≠ "java/lang/invoke/MethodHandle" ∧ yX11_entryOf.cls ≠ "java/lang/invoke/VarHandle" ∧ (parseMethodDescriptor yX11_entryOf.desc).map (fun d => d.parameters.length) = some 2 := ⟨by decide +kernel, by decide +kernel, by decide +kernel⟩
set_option maxRecDepth 20000 in
theorem ok_X11_entryOf (l : Launch) (D : Dd) (base : Nat) (M : Mm) (r1 : Nat) (hr1 : isAC r1) (a2 : Int) (ha2 : i32 a2) : OkI l D TC 681 base yX11_entryOf cX11_entryOf 2 (some .int) 0 0 [.ref (base + r1), .int (Ii a2)] M i32 (f_X11_entryOf r1 a2 M) := by
  refine metI (by decide +kernel) [(0, .ref (base + r1)), (1, .int (Ii a2))] rfl (Nat.le_of_ble_eq_true rfl) (fun p e s m args below meth c X hrt hlk => ?_)
  have X : Cx p s m args c cX11_entryOf D 2 RX11 := X
  unfold f_X11_entryOf
  refine go_iload_n X dX11_entryOf_0 rfl 1 rfl ?_
  refine go_lt (fun J => ∀ (v1 : Int) (M2 : Mm), i32 v1 → Go p l e (rmO 0 0) s m args below meth c D TC 681 base 2 0 0 (FinI D TC 681 base below args s i32) M2 17 [] [.int (Ii v1)] (J v1 M2)) (by
      intro v1 M2 hv1
      exact go_ireturn X hrt hlk dX11_entryOf_17 hv1
      )
      (fun J17_3 hJ17_3 => ?_)
  refine go_lt (fun J => ∀ (M4 : Mm), Go p l e (rmO 0 0) s m args below meth c D TC 681 base 2 0 0 (FinI D TC 681 base below args s i32) M4 16 [] [] (J M4)) (by
      intro M4
      refine go_iconst (v := (-1)) X dX11_entryOf_16 rfl ?_
      exact hJ17_3 ((-1)) M4 kI_m1
      )
      (fun J16_5 hJ16_5 => ?_)
  refine go_if_lt (tgt := 16) X dX11_entryOf_1 rfl ha2 (fun c6 => ?_) (fun c6 => ?_)
  · refine go_sub [] rfl ?_
    exact hJ16_5 M
  · refine go_iload_n X dX11_entryOf_4 rfl 1 rfl ?_
    refine go_aload_n X dX11_entryOf_5 rfl 0 rfl ?_
    refine go_alen X dX11_entryOf_6 hr1.1 hr1.2 (by decide) ?_
    refine go_icmp_ge (tgt := 16) X dX11_entryOf_7 rfl ha2 (i32_alenC _) (fun c7 => ?_) (fun c7 => ?_)
    · refine go_sub [] rfl ?_
      exact hJ16_5 M
    · refine go_aload_n X dX11_entryOf_10 rfl 0 rfl ?_
      refine go_iload_n X dX11_entryOf_11 rfl 1 rfl ?_
      refine go_iaload X dX11_entryOf_12 hr1.1 hr1.2 ha2 (fun v8 hv8 => ?_)
      refine go_goto (tgt := 17) X dX11_entryOf_13 rfl ?_
      refine go_sub [] rfl ?_
      exact hJ17_3 v8 M hv8
def f_X1_isInConflict (r1 : Nat) (M : Mm) : Rs :=
Lt (M r1 0) fun v1 =>
Lt (M r1 1) fun v2 =>
Lt (M r1 2) fun v3 =>
Cl (f_X1_placeOf v1 v2 v3 M) fun v5 M4 =>
Cl (f_X11_entryOf 28 v5 M4) fun v7 M6 =>
Lt (fun (v8 : Int) (M9 : Mm) => 
some (v8, M9)) fun J34_10 =>
if ¬ v7 = ((-3)) then (
J34_10 0 M6) else (
J34_10 1 M6)
theorem cy_X1_isInConflict : yX1_isInConflict.cls ≠ "java/lang/invoke/MethodHandle" ∧ yX1_isInConflict.cls ≠ "java/lang/invoke/VarHandle" ∧ (parseMethodDescriptor yX1_isInConflict.desc).map (fun d => d.parameters.length) = some 1 := ⟨by decide +kernel, by decide +kernel, by decide +kernel⟩
set_option maxRecDepth 20000 in
theorem ok_X1_isInConflict (l : Launch) (D : Dd) (base : Nat) (M : Mm) (r1 : Nat) (hr1 : isE r1) : OkI l D TC 681 base yX1_isInConflict cX1_isInConflict 3 (some .boolean) 1 22 [.ref (base + 25), .ref (base + r1)] M bo (f_X1_isInConflict r1 M) := by
  refine metI (by decide +kernel) [(0, .ref (base + 25)), (1, .ref (base + r1))] rfl (Nat.le_of_ble_eq_true rfl) (fun p e s m args below meth c X hrt hlk => ?_)
  have X : Cx p s m args c cX1_isInConflict D 3 RX1 := X
  unfold f_X1_isInConflict
  refine go_aload_n X dX1_isInConflict_0 rfl 1 rfl ?_
  refine go_geti (i := 0) X fc0 dX1_isInConflict_1 (nE hr1) (tE hr1) (Nat.le_of_ble_eq_true rfl) rfl lw100 rfl (fun v1 hv1 => ?_)
  refine go_aload_n X dX1_isInConflict_4 rfl 1 rfl ?_
  refine go_geti (i := 1) X fc0 dX1_isInConflict_5 (nE hr1) (tE hr1) (Nat.le_of_ble_eq_true rfl) rfl lw101 rfl (fun v2 hv2 => ?_)
  refine go_aload_n X dX1_isInConflict_8 rfl 1 rfl ?_
  refine go_geti (i := 2) X fc0 dX1_isInConflict_9 (nE hr1) (tE hr1) (Nat.le_of_ble_eq_true rfl) rfl lw102 rfl (fun v3 hv3 => ?_)
  refine goI (fun H locs ls r ho hW hL => runS X (ok_X1_placeOf l D base M v1 hv1 v2 hv2 v3 hv3 H.size r ho) dX1_isInConflict_12 lw103 lw104 lw105 ⟨lw98, cy_X1_placeOf, Nat.le_of_ble_eq_true rfl, Nat.le_of_ble_eq_true rfl⟩ rfl rfl (Nat.le_of_ble_eq_true rfl) hW hL hk0) (fun v5 M4 hv5 => ?_)
  refine go_istore_n (i := 2) (L' := [(2, .int (Ii v5)), (0, .ref (base + 25)), (1, .ref (base + r1))]) X dX1_isInConflict_15 rfl (by decide) rfl ?_
  refine go_aload_n X dX1_isInConflict_16 rfl 1 rfl ?_
  refine go_getc (i := 5) X fc1 dX1_isInConflict_17 tcn25 tc25 (Nat.le_of_ble_eq_true rfl) rfl lw47 rfl ?_
  refine go_iload_n X dX1_isInConflict_20 rfl 0 rfl ?_
  refine goI (fun H locs ls r ho hW hL => runSN X (ok_X11_entryOf l D base M4 28 isAC_28 v5 hv5 H.size r ho) dX1_isInConflict_21 nl6 lw20 lw19 ⟨lw13, cy_X11_entryOf, Nat.le_of_ble_eq_true rfl, Nat.le_of_ble_eq_true rfl⟩ rfl rfl (Nat.le_of_ble_eq_true rfl) hW hL hk0) (fun v7 M6 hv7 => ?_)
  refine go_bipush (v := (-3)) X dX1_isInConflict_24 (by decide) ?_
  refine go_lt (fun J => ∀ (v8 : Int) (M9 : Mm), bo v8 → Go p l e (rmO 1 22) s m args below meth c D TC 681 base 3 0 0 (FinI D TC 681 base below args s bo) M9 34 [] [.int (Ii v8)] (J v8 M9)) (by
      intro v8 M9 hv8
      exact go_zreturn X hrt hlk dX1_isInConflict_34 hv8 hv8
      )
      (fun J34_10 hJ34_10 => ?_)
  refine go_icmp_ne (tgt := 33) X dX1_isInConflict_26 rfl hv7 kI_m3 (fun c11 => ?_) (fun c11 => ?_)
  · refine go_iconst (v := 0) X dX1_isInConflict_33 rfl ?_
    refine go_sub [] rfl ?_
    exact hJ34_10 0 M6 (Or.inl rfl)
  · refine go_iconst (v := 1) X dX1_isInConflict_29 rfl ?_
    refine go_goto (tgt := 34) X dX1_isInConflict_30 rfl ?_
    refine go_sub [] rfl ?_
    exact hJ34_10 1 M6 (Or.inr rfl)
def f_X1_countConflicts_L4_26 (J47_3 : Int → Mm → Rs) (rc4_7 : Int × Int × Mm → Rs) : Int × Int × Mm → Rs := fun (v4, v5, M6) =>
Lt (M6 25 0) fun v8 =>
if v8 ≤ v5 then (
J47_3 v4 M6) else (
Cl (f_X1_rowOf v5 M6) fun v11 M10 =>
Lt (fun (v12 : Int) (v13 : Int) (M14 : Mm) => 
Lt (wr (v13 + 1)) fun v16 =>
rc4_7 (v12, v16, M14)) fun J41_15 =>
if v11 < 0 then (
J41_15 v4 v5 M10) else (
gd (¬ v11 < 0 ∧ isE v11.toNat) <|
Cl (f_X1_counts v11.toNat M10) fun v20 M19 =>
if v20 = 0 then (
J41_15 v4 v5 M19) else (
Cl (f_X1_isInConflict v11.toNat M19) fun v23 M22 =>
if v23 = 0 then (
J41_15 v4 v5 M22) else (
Lt (wr (v4 + 1)) fun v25 =>
J41_15 v25 v5 M22))))
def f_X1_countConflicts (M : Mm) : Rs :=
Lt (fun (v1 : Int) (M2 : Mm) => 
some (v1, M2)) fun J47_3 =>
Lp (f_X1_countConflicts_L4_26 J47_3) FU (0, 0, M)
theorem cy_X1_countConflicts : yX1_countConflicts.cls ≠ "java/lang/invoke/MethodHandle" ∧ yX1_countConflicts.cls ≠ "java/lang/invoke/VarHandle" ∧ (parseMethodDescriptor yX1_countConflicts.desc).map (fun d => d.parameters.length) = some 0 := ⟨by decide +kernel, by decide +kernel, by decide +kernel⟩
set_option maxRecDepth 20000 in
theorem ok_X1_countConflicts (l : Launch) (D : Dd) (base : Nat) (M : Mm) : OkI l D TC 681 base yX1_countConflicts cX1_countConflicts 4 (some .int) 2 44 [.ref (base + 25)] M i32 (f_X1_countConflicts M) := by
  refine metI (by decide +kernel) [(0, .ref (base + 25))] rfl (Nat.le_of_ble_eq_true rfl) (fun p e s m args below meth c X hrt hlk => ?_)
  have X : Cx p s m args c cX1_countConflicts D 4 RX1 := X
  unfold f_X1_countConflicts
  refine go_iconst (v := 0) X dX1_countConflicts_0 rfl ?_
  refine go_istore_n (i := 1) (L' := [(1, .int (Ii 0)), (0, .ref (base + 25))]) X dX1_countConflicts_1 rfl (by decide) rfl ?_
  refine go_iconst (v := 0) X dX1_countConflicts_2 rfl ?_
  refine go_istore_n (i := 2) (L' := [(2, .int (Ii 0)), (1, .int (Ii 0)), (0, .ref (base + 25))]) X dX1_countConflicts_3 rfl (by decide) rfl ?_
  refine go_lt (fun J => ∀ (v1 : Int) (M2 : Mm), i32 v1 → Go p l e (rmO 2 44) s m args below meth c D TC 681 base 4 0 0 (FinI D TC 681 base below args s i32) M2 47 [(1, .int (Ii v1))] [] (J v1 M2)) (by
      intro v1 M2 hv1
      refine go_iload_n X dX1_countConflicts_47 rfl 0 rfl ?_
      exact go_ireturn X hrt hlk dX1_countConflicts_48 hv1
      )
      (fun J47_3 hJ47_3 => ?_)
  refine go_sub [2, 1, 0] rfl ?_
  exact go_lp (fun (rc : Int × Int × Mm → Rs) => ∀ (v4 : Int) (v5 : Int) (M6 : Mm), i32 v4 → i32 v5 → Go p l e (rmO 2 44) s m args below meth c D TC 681 base 4 0 0 (FinI D TC 681 base below args s i32) M6 4 [(0, .ref (base + 25)), (1, .int (Ii v4)), (2, .int (Ii v5))] [] (rc (v4, v5, M6)))
      (by intro v4 v5 M6 hv4 hv5; exact go_none)
      (by
      intro rc4_7 hrc4_7 v4 v5 M6 hv4 hv5
      unfold f_X1_countConflicts_L4_26
      dsimp only
      refine go_iload_n X dX1_countConflicts_4 rfl 2 rfl ?_
      refine go_aload_n X dX1_countConflicts_5 rfl 0 rfl ?_
      refine go_geti (i := 0) X fc1 dX1_countConflicts_6 tcn25 tc25 (Nat.le_of_ble_eq_true rfl) rfl lw57 rfl (fun v8 hv8 => ?_)
      refine go_icmp_ge (tgt := 47) X dX1_countConflicts_9 rfl hv5 hv8 (fun c9 => ?_) (fun c9 => ?_)
      · refine go_sub [1] rfl ?_
        exact hJ47_3 v4 M6 hv4
      · refine go_aload_n X dX1_countConflicts_12 rfl 0 rfl ?_
        refine go_iload_n X dX1_countConflicts_13 rfl 2 rfl ?_
        refine goR (fun H locs ls r ho hW hL => runV X (ok_X1_rowOf l D base M6 v5 hv5 H.size r ho) dX1_countConflicts_14 lw120 lw121 lw122 lw105 ⟨lw63, cy_X1_rowOf, Nat.le_of_ble_eq_true rfl, Nat.le_of_ble_eq_true rfl⟩ rfl tcn25 tc25 rfl rfl rfl rfl (Nat.le_of_ble_eq_true rfl) hW hL hk0) (fun v11 M10 => ?_)
        refine go_astore_nQ (i := 3) (L' := [(3, rv base v11), (0, .ref (base + 25)), (1, .int (Ii v4)), (2, .int (Ii v5))]) X dX1_countConflicts_17 rfl (by decide) rfl ?_
        refine go_aload_nQ X dX1_countConflicts_18 rfl 0 rfl ?_
        refine go_lt (fun J => ∀ (v12 : Int) (v13 : Int) (M14 : Mm), i32 v12 → i32 v13 → Go p l e (rmO 2 44) s m args below meth c D TC 681 base 4 0 0 (FinI D TC 681 base below args s i32) M14 41 [(0, .ref (base + 25)), (1, .int (Ii v12)), (2, .int (Ii v13))] [] (J v12 v13 M14)) (by
            intro v12 v13 M14 hv12 hv13
            refine go_iinc (i := 2) (L' := fun v => [(2, .int (Ii v)), (0, .ref (base + 25)), (1, .int (Ii v12))]) X dX1_countConflicts_41 hv13 kI_1 (j := 2) rfl (by decide) (fun _ => rfl) (fun v16 hv16 => ?_)
            refine go_goto (tgt := 4) X dX1_countConflicts_44 rfl ?_
            refine go_sub [1, 2, 0] rfl ?_
            exact hrc4_7 v12 v16 M14 hv12 hv16
            )
            (fun J41_15 hJ41_15 => ?_)
        refine go_ifnull (tgt := 41) X dX1_countConflicts_19 rfl (fun c17 => ?_) (fun c17 => ?_)
        · refine go_sub [1, 2, 3] rfl ?_
          exact hJ41_15 v4 v5 M10 hv4 hv5
        · refine go_aload_n X dX1_countConflicts_22 rfl 1 rfl ?_
          refine go_gd (fun g18 => ?_)
          refine go_aload_nP X dX1_countConflicts_23 rfl 0 rfl g18.1 ?_
          refine goI (fun H locs ls r ho hW hL => runV X (ok_X1_counts l D base M10 v11.toNat g18.2 H.size r ho) dX1_countConflicts_24 lw123 lw124 lw125 lw105 ⟨lw64, cy_X1_counts, Nat.le_of_ble_eq_true rfl, Nat.le_of_ble_eq_true rfl⟩ rfl tcn25 tc25 rfl rfl rfl rfl (Nat.le_of_ble_eq_true rfl) hW hL hk0) (fun v20 M19 hv20 => ?_)
          refine go_if_eq (tgt := 41) X dX1_countConflicts_27 rfl (bo_i32 hv20) (fun c21 => ?_) (fun c21 => ?_)
          · refine go_sub [1, 2, 3] rfl ?_
            exact hJ41_15 v4 v5 M19 hv4 hv5
          · refine go_aload_n X dX1_countConflicts_30 rfl 1 rfl ?_
            refine go_aload_nP X dX1_countConflicts_31 rfl 0 rfl g18.1 ?_
            refine goI (fun H locs ls r ho hW hL => runV X (ok_X1_isInConflict l D base M19 v11.toNat g18.2 H.size r ho) dX1_countConflicts_32 lw138 lw139 lw140 lw105 ⟨lw137, cy_X1_isInConflict, Nat.le_of_ble_eq_true rfl, Nat.le_of_ble_eq_true rfl⟩ rfl tcn25 tc25 rfl rfl rfl rfl (Nat.le_of_ble_eq_true rfl) hW hL hk0) (fun v23 M22 hv23 => ?_)
            refine go_if_eq (tgt := 41) X dX1_countConflicts_35 rfl (bo_i32 hv23) (fun c24 => ?_) (fun c24 => ?_)
            · refine go_sub [1, 2, 3] rfl ?_
              exact hJ41_15 v4 v5 M22 hv4 hv5
            · refine go_iinc (i := 1) (L' := fun v => [(1, .int (Ii v)), (3, rv base v11), (0, .ref (base + 25)), (2, .int (Ii v5))]) X dX1_countConflicts_38 hv4 kI_1 (j := 2) rfl (by decide) (fun _ => rfl) (fun v25 hv25 => ?_)
              refine go_sub [2, 0, 3] rfl ?_
              exact hJ41_15 v25 v5 M22 hv25 hv5
      )
      FU 0 0 M kI_0 kI_0
def f_X11_conflicts (M : Mm) : Rs :=
Cl (f_X1_countConflicts M) fun v2 M1 =>
some (v2, M1)
theorem cy_X11_conflicts : yX11_conflicts.cls ≠ "java/lang/invoke/MethodHandle" ∧ yX11_conflicts.cls ≠ "java/lang/invoke/VarHandle" ∧ (parseMethodDescriptor yX11_conflicts.desc).map (fun d => d.parameters.length) = some 0 := ⟨by decide +kernel, by decide +kernel, by decide +kernel⟩
set_option maxRecDepth 20000 in
theorem ok_X11_conflicts (l : Launch) (D : Dd) (base : Nat) (M : Mm) : OkI l D TC 681 base yX11_conflicts cX11_conflicts 1 (some .int) 3 67 [.ref (base + 0)] M i32 (f_X11_conflicts M) := by
  refine metI (by decide +kernel) [(0, .ref (base + 0))] rfl (Nat.le_of_ble_eq_true rfl) (fun p e s m args below meth c X hrt hlk => ?_)
  have X : Cx p s m args c cX11_conflicts D 1 RX11 := X
  unfold f_X11_conflicts
  refine go_aload_n X dX11_conflicts_0 rfl 0 rfl ?_
  refine go_getc (i := 2) X fc11 dX11_conflicts_1 tcn0 tc0 (Nat.le_of_ble_eq_true rfl) rfl lw646 rfl ?_
  refine goI (fun H locs ls r ho hW hL => runV X (ok_X1_countConflicts l D base M  H.size r ho) dX11_conflicts_4 lw783 lw784 lw785 lw105 ⟨lw141, cy_X1_countConflicts, Nat.le_of_ble_eq_true rfl, Nat.le_of_ble_eq_true rfl⟩ rfl tcn25 tc25 rfl rfl rfl rfl (Nat.le_of_ble_eq_true rfl) hW hL hk0) (fun v2 M1 hv2 => ?_)
  exact go_ireturn X hrt hlk dX11_conflicts_7 hv2
def f_X11_fillRow_L2_9 (r1 : Nat) (a2 : Int) (J18_2 : Mm → Rs) (rc2_5 : Int × Mm → Rs) : Int × Mm → Rs := fun (v3, M4) =>
if (((alenC r1 : Nat) : Int)) ≤ v3 then (
J18_2 M4) else (
gd (0 ≤ v3 ∧ v3 < ((alenC r1 : Nat) : Int)) <|
Lt (up M4 r1 v3.toNat a2) fun M7 =>
Lt (wr (v3 + 1)) fun v8 =>
rc2_5 (v8, M7))
def f_X11_fillRow (r1 : Nat) (a2 : Int) (M : Mm) : Rs :=
Lt (fun (M1 : Mm) => 
some (0, M1)) fun J18_2 =>
Lp (f_X11_fillRow_L2_9 r1 a2 J18_2) FU (0, M)
theorem cy_X11_fillRow : yX11_fillRow.cls ≠ "java/lang/invoke/MethodHandle" ∧ yX11_fillRow.cls ≠ "java/lang/invoke/VarHandle" ∧ (parseMethodDescriptor yX11_fillRow.desc).map (fun d => d.parameters.length) = some 2 := ⟨by decide +kernel, by decide +kernel, by decide +kernel⟩
set_option maxRecDepth 20000 in
theorem ok_X11_fillRow (l : Launch) (D : Dd) (base : Nat) (M : Mm) (r1 : Nat) (hr1 : isAC r1) (a2 : Int) (ha2 : i32 a2) : OkV l D TC 681 base yX11_fillRow cX11_fillRow 3 none 0 0 [.ref (base + r1), .int (Ii a2)] M (f_X11_fillRow r1 a2 M) := by
  refine metV (by decide +kernel) [(0, .ref (base + r1)), (1, .int (Ii a2))] rfl (Nat.le_of_ble_eq_true rfl) (fun p e s m args below meth c X hrt hlk => ?_)
  have X : Cx p s m args c cX11_fillRow D 3 RX11 := X
  unfold f_X11_fillRow
  refine go_iconst (v := 0) X dX11_fillRow_0 rfl ?_
  refine go_istore_n (i := 2) (L' := [(2, .int (Ii 0)), (0, .ref (base + r1)), (1, .int (Ii a2))]) X dX11_fillRow_1 rfl (by decide) rfl ?_
  refine go_lt (fun J => ∀ (M1 : Mm), Go p l e (rmO 0 0) s m args below meth c D TC 681 base 3 0 0 (FinV D TC 681 base below args s) M1 18 [] [] (J M1)) (by
      intro M1
      exact go_vreturn X hrt hlk dX11_fillRow_18
      )
      (fun J18_2 hJ18_2 => ?_)
  refine go_sub [1, 2, 0] rfl ?_
  exact go_lp (fun (rc : Int × Mm → Rs) => ∀ (v3 : Int) (M4 : Mm), i32 v3 → Go p l e (rmO 0 0) s m args below meth c D TC 681 base 3 0 0 (FinV D TC 681 base below args s) M4 2 [(0, .ref (base + r1)), (1, .int (Ii a2)), (2, .int (Ii v3))] [] (rc (v3, M4)))
      (by intro v3 M4 hv3; exact go_none)
      (by
      intro rc2_5 hrc2_5 v3 M4 hv3
      unfold f_X11_fillRow_L2_9
      dsimp only
      refine go_iload_n X dX11_fillRow_2 rfl 2 rfl ?_
      refine go_aload_n X dX11_fillRow_3 rfl 0 rfl ?_
      refine go_alen X dX11_fillRow_4 hr1.1 hr1.2 (by decide) ?_
      refine go_icmp_ge (tgt := 18) X dX11_fillRow_5 rfl hv3 (i32_alenC _) (fun c6 => ?_) (fun c6 => ?_)
      · refine go_sub [] rfl ?_
        exact hJ18_2 M4
      · refine go_aload_n X dX11_fillRow_8 rfl 0 rfl ?_
        refine go_iload_n X dX11_fillRow_9 rfl 2 rfl ?_
        refine go_iload_n X dX11_fillRow_10 rfl 1 rfl ?_
        refine go_iastore X dX11_fillRow_11 hr1.1 hr1.2 hv3 ha2 (fun M7 => ?_)
        refine go_iinc (i := 2) (L' := fun v => [(2, .int (Ii v)), (0, .ref (base + r1)), (1, .int (Ii a2))]) X dX11_fillRow_12 hv3 kI_1 (j := 2) rfl (by decide) (fun _ => rfl) (fun v8 hv8 => ?_)
        refine go_goto (tgt := 2) X dX11_fillRow_15 rfl ?_
        refine go_sub [1, 2, 0] rfl ?_
        exact hrc2_5 v8 M7 hv8
      )
      FU 0 M kI_0
def f_X5_kindOf (a1 : Int) (M : Mm) : Rs :=
Lt (fun (v1 : Int) (M2 : Mm) => 
some (v1, M2)) fun J28_3 =>
Lt (fun (M4 : Mm) => 
J28_3 ((-1)) M4) fun J27_5 =>
if a1 < 0 then (
J27_5 M) else (
Lt (M 1 1) fun v7 =>
if v7 ≤ a1 then (
J27_5 M) else (
if 6 ≤ a1 then (
J27_5 M) else (
gd (0 ≤ a1 ∧ a1 < 6) <|
Lt (M 13 a1.toNat) fun v10 =>
J28_3 v10 M)))
theorem cy_X5_kindOf : yX5_kindOf.cls ≠ "java/lang/invoke/MethodHandle" ∧ yX5_kindOf.cls ≠ "java/lang/invoke/VarHandle" ∧ (parseMethodDescriptor yX5_kindOf.desc).map (fun d => d.parameters.length) = some 1 := ⟨by decide +kernel, by decide +kernel, by decide +kernel⟩
set_option maxRecDepth 20000 in
theorem ok_X5_kindOf (l : Launch) (D : Dd) (base : Nat) (M : Mm) (a1 : Int) (ha1 : i32 a1) : OkI l D TC 681 base yX5_kindOf cX5_kindOf 2 (some .int) 0 0 [.ref (base + 1), .int (Ii a1)] M i32 (f_X5_kindOf a1 M) := by
  refine metI (by decide +kernel) [(0, .ref (base + 1)), (1, .int (Ii a1))] rfl (Nat.le_of_ble_eq_true rfl) (fun p e s m args below meth c X hrt hlk => ?_)
  have X : Cx p s m args c cX5_kindOf D 2 RX5 := X
  unfold f_X5_kindOf
  refine go_iload_n X dX5_kindOf_0 rfl 1 rfl ?_
  refine go_lt (fun J => ∀ (v1 : Int) (M2 : Mm), i32 v1 → Go p l e (rmO 0 0) s m args below meth c D TC 681 base 2 0 0 (FinI D TC 681 base below args s i32) M2 28 [] [.int (Ii v1)] (J v1 M2)) (by
      intro v1 M2 hv1
      exact go_ireturn X hrt hlk dX5_kindOf_28 hv1
      )
      (fun J28_3 hJ28_3 => ?_)
  refine go_lt (fun J => ∀ (M4 : Mm), Go p l e (rmO 0 0) s m args below meth c D TC 681 base 2 0 0 (FinI D TC 681 base below args s i32) M4 27 [] [] (J M4)) (by
      intro M4
      refine go_iconst (v := (-1)) X dX5_kindOf_27 rfl ?_
      exact hJ28_3 ((-1)) M4 kI_m1
      )
      (fun J27_5 hJ27_5 => ?_)
  refine go_if_lt (tgt := 27) X dX5_kindOf_1 rfl ha1 (fun c6 => ?_) (fun c6 => ?_)
  · refine go_sub [] rfl ?_
    exact hJ27_5 M
  · refine go_iload_n X dX5_kindOf_4 rfl 1 rfl ?_
    refine go_aload_n X dX5_kindOf_5 rfl 0 rfl ?_
    refine go_geti (i := 1) X fc5 dX5_kindOf_6 tcn1 tc1 (Nat.le_of_ble_eq_true rfl) rfl lw169 rfl (fun v7 hv7 => ?_)
    refine go_icmp_ge (tgt := 27) X dX5_kindOf_9 rfl ha1 hv7 (fun c8 => ?_) (fun c8 => ?_)
    · refine go_sub [] rfl ?_
      exact hJ27_5 M
    · refine go_iload_n X dX5_kindOf_12 rfl 1 rfl ?_
      refine go_bipush (v := 6) X dX5_kindOf_13 (by decide) ?_
      refine go_icmp_ge (tgt := 27) X dX5_kindOf_15 rfl ha1 kI_6 (fun c9 => ?_) (fun c9 => ?_)
      · refine go_sub [] rfl ?_
        exact hJ27_5 M
      · refine go_aload_n X dX5_kindOf_18 rfl 0 rfl ?_
        refine go_getc (i := 13) X fc5 dX5_kindOf_19 tcn1 tc1 (Nat.le_of_ble_eq_true rfl) rfl lw170 rfl ?_
        refine go_iload_n X dX5_kindOf_22 rfl 1 rfl ?_
        refine go_iaload X dX5_kindOf_23 tcn13 tc13 ha1 (fun v10 hv10 => ?_)
        refine go_goto (tgt := 28) X dX5_kindOf_24 rfl ?_
        refine go_sub [] rfl ?_
        exact hJ28_3 v10 M hv10
def f_X6_isOfKind (a1 : Int) (a2 : Int) (M : Mm) : Rs :=
Cl (f_X5_kindOf a1 M) fun v2 M1 =>
Lt (fun (v3 : Int) (M4 : Mm) => 
some (v3, M4)) fun J17_5 =>
if ¬ v2 = a2 then (
J17_5 0 M1) else (
J17_5 1 M1)
theorem cy_X6_isOfKind : yX6_isOfKind.cls ≠ "java/lang/invoke/MethodHandle" ∧ yX6_isOfKind.cls ≠ "java/lang/invoke/VarHandle" ∧ (parseMethodDescriptor yX6_isOfKind.desc).map (fun d => d.parameters.length) = some 2 := ⟨by decide +kernel, by decide +kernel, by decide +kernel⟩
set_option maxRecDepth 20000 in
theorem ok_X6_isOfKind (l : Launch) (D : Dd) (base : Nat) (M : Mm) (a1 : Int) (ha1 : i32 a1) (a2 : Int) (ha2 : i32 a2) : OkI l D TC 681 base yX6_isOfKind cX6_isOfKind 3 (some .boolean) 1 21 [.ref (base + 678), .int (Ii a1), .int (Ii a2)] M bo (f_X6_isOfKind a1 a2 M) := by
  refine metI (by decide +kernel) [(0, .ref (base + 678)), (1, .int (Ii a1)), (2, .int (Ii a2))] rfl (Nat.le_of_ble_eq_true rfl) (fun p e s m args below meth c X hrt hlk => ?_)
  have X : Cx p s m args c cX6_isOfKind D 3 RX6 := X
  unfold f_X6_isOfKind
  refine go_aload_n X dX6_isOfKind_0 rfl 0 rfl ?_
  refine go_getc (i := 0) X fc6 dX6_isOfKind_1 tcn678 tc678 (Nat.le_of_ble_eq_true rfl) rfl lw435 rfl ?_
  refine go_iload_n X dX6_isOfKind_4 rfl 1 rfl ?_
  refine goI (fun H locs ls r ho hW hL => runV X (ok_X5_kindOf l D base M a1 ha1 H.size r ho) dX6_isOfKind_5 lw439 lw222 lw223 lw80 ⟨lw168, cy_X5_kindOf, Nat.le_of_ble_eq_true rfl, Nat.le_of_ble_eq_true rfl⟩ rfl tcn1 tc1 rfl rfl rfl rfl (Nat.le_of_ble_eq_true rfl) hW hL hk0) (fun v2 M1 hv2 => ?_)
  refine go_iload_n X dX6_isOfKind_8 rfl 2 rfl ?_
  refine go_lt (fun J => ∀ (v3 : Int) (M4 : Mm), bo v3 → Go p l e (rmO 1 21) s m args below meth c D TC 681 base 3 0 0 (FinI D TC 681 base below args s bo) M4 17 [] [.int (Ii v3)] (J v3 M4)) (by
      intro v3 M4 hv3
      exact go_zreturn X hrt hlk dX6_isOfKind_17 hv3 hv3
      )
      (fun J17_5 hJ17_5 => ?_)
  refine go_icmp_ne (tgt := 16) X dX6_isOfKind_9 rfl hv2 ha2 (fun c6 => ?_) (fun c6 => ?_)
  · refine go_iconst (v := 0) X dX6_isOfKind_16 rfl ?_
    refine go_sub [] rfl ?_
    exact hJ17_5 0 M1 (Or.inl rfl)
  · refine go_iconst (v := 1) X dX6_isOfKind_12 rfl ?_
    refine go_goto (tgt := 17) X dX6_isOfKind_13 rfl ?_
    refine go_sub [] rfl ?_
    exact hJ17_5 1 M1 (Or.inr rfl)
def f_X1_resolvedFor (a1 : Int) (a2 : Int) (a3 : Int) (M : Mm) : Rs :=
Cl (f_X1_placeOf a1 a2 a3 M) fun v2 M1 =>
Cl (f_X11_entryOf 29 v2 M1) fun v4 M3 =>
some (v4, M3)
theorem cy_X1_resolvedFor : yX1_resolvedFor.cls ≠ "java/lang/invoke/MethodHandle" ∧ yX1_resolvedFor.cls ≠ "java/lang/invoke/VarHandle" ∧ (parseMethodDescriptor yX1_resolvedFor.desc).map (fun d => d.parameters.length) = some 3 := ⟨by decide +kernel, by decide +kernel, by decide +kernel⟩
set_option maxRecDepth 20000 in
theorem ok_X1_resolvedFor (l : Launch) (D : Dd) (base : Nat) (M : Mm) (a1 : Int) (ha1 : i32 a1) (a2 : Int) (ha2 : i32 a2) (a3 : Int) (ha3 : i32 a3) : OkI l D TC 681 base yX1_resolvedFor cX1_resolvedFor 4 (some .int) 1 22 [.ref (base + 25), .int (Ii a1), .int (Ii a2), .int (Ii a3)] M i32 (f_X1_resolvedFor a1 a2 a3 M) := by
  refine metI (by decide +kernel) [(0, .ref (base + 25)), (1, .int (Ii a1)), (2, .int (Ii a2)), (3, .int (Ii a3))] rfl (Nat.le_of_ble_eq_true rfl) (fun p e s m args below meth c X hrt hlk => ?_)
  have X : Cx p s m args c cX1_resolvedFor D 4 RX1 := X
  unfold f_X1_resolvedFor
  refine go_aload_n X dX1_resolvedFor_0 rfl 0 rfl ?_
  refine go_getc (i := 6) X fc1 dX1_resolvedFor_1 tcn25 tc25 (Nat.le_of_ble_eq_true rfl) rfl lw48 rfl ?_
  refine go_iload_n X dX1_resolvedFor_4 rfl 1 rfl ?_
  refine go_iload_n X dX1_resolvedFor_5 rfl 2 rfl ?_
  refine go_iload_n X dX1_resolvedFor_6 rfl 3 rfl ?_
  refine goI (fun H locs ls r ho hW hL => runS X (ok_X1_placeOf l D base M a1 ha1 a2 ha2 a3 ha3 H.size r ho) dX1_resolvedFor_7 lw103 lw104 lw105 ⟨lw98, cy_X1_placeOf, Nat.le_of_ble_eq_true rfl, Nat.le_of_ble_eq_true rfl⟩ rfl rfl (Nat.le_of_ble_eq_true rfl) hW hL hk0) (fun v2 M1 hv2 => ?_)
  refine goI (fun H locs ls r ho hW hL => runSN X (ok_X11_entryOf l D base M1 29 isAC_29 v2 hv2 H.size r ho) dX1_resolvedFor_10 nl6 lw20 lw19 ⟨lw13, cy_X11_entryOf, Nat.le_of_ble_eq_true rfl, Nat.le_of_ble_eq_true rfl⟩ rfl rfl (Nat.le_of_ble_eq_true rfl) hW hL hk0) (fun v4 M3 hv4 => ?_)
  exact go_ireturn X hrt hlk dX1_resolvedFor_13 hv4
def f_X1_hopsFor (a1 : Int) (a2 : Int) (a3 : Int) (M : Mm) : Rs :=
Cl (f_X1_placeOf a1 a2 a3 M) fun v2 M1 =>
Cl (f_X11_entryOf 30 v2 M1) fun v4 M3 =>
some (v4, M3)
theorem cy_X1_hopsFor : yX1_hopsFor.cls ≠ "java/lang/invoke/MethodHandle" ∧ yX1_hopsFor.cls ≠ "java/lang/invoke/VarHandle" ∧ (parseMethodDescriptor yX1_hopsFor.desc).map (fun d => d.parameters.length) = some 3 := ⟨by decide +kernel, by decide +kernel, by decide +kernel⟩
set_option maxRecDepth 20000 in
theorem ok_X1_hopsFor (l : Launch) (D : Dd) (base : Nat) (M : Mm) (a1 : Int) (ha1 : i32 a1) (a2 : Int) (ha2 : i32 a2) (a3 : Int) (ha3 : i32 a3) : OkI l D TC 681 base yX1_hopsFor cX1_hopsFor 4 (some .int) 1 22 [.ref (base + 25), .int (Ii a1), .int (Ii a2), .int (Ii a3)] M i32 (f_X1_hopsFor a1 a2 a3 M) := by
  refine metI (by decide +kernel) [(0, .ref (base + 25)), (1, .int (Ii a1)), (2, .int (Ii a2)), (3, .int (Ii a3))] rfl (Nat.le_of_ble_eq_true rfl) (fun p e s m args below meth c X hrt hlk => ?_)
  have X : Cx p s m args c cX1_hopsFor D 4 RX1 := X
  unfold f_X1_hopsFor
  refine go_aload_n X dX1_hopsFor_0 rfl 0 rfl ?_
  refine go_getc (i := 7) X fc1 dX1_hopsFor_1 tcn25 tc25 (Nat.le_of_ble_eq_true rfl) rfl lw49 rfl ?_
  refine go_iload_n X dX1_hopsFor_4 rfl 1 rfl ?_
  refine go_iload_n X dX1_hopsFor_5 rfl 2 rfl ?_
  refine go_iload_n X dX1_hopsFor_6 rfl 3 rfl ?_
  refine goI (fun H locs ls r ho hW hL => runS X (ok_X1_placeOf l D base M a1 ha1 a2 ha2 a3 ha3 H.size r ho) dX1_hopsFor_7 lw103 lw104 lw105 ⟨lw98, cy_X1_placeOf, Nat.le_of_ble_eq_true rfl, Nat.le_of_ble_eq_true rfl⟩ rfl rfl (Nat.le_of_ble_eq_true rfl) hW hL hk0) (fun v2 M1 hv2 => ?_)
  refine goI (fun H locs ls r ho hW hL => runSN X (ok_X11_entryOf l D base M1 30 isAC_30 v2 hv2 H.size r ho) dX1_hopsFor_10 nl6 lw20 lw19 ⟨lw13, cy_X11_entryOf, Nat.le_of_ble_eq_true rfl, Nat.le_of_ble_eq_true rfl⟩ rfl rfl (Nat.le_of_ble_eq_true rfl) hW hL hk0) (fun v4 M3 hv4 => ?_)
  exact go_ireturn X hrt hlk dX1_hopsFor_13 hv4
def f_X10_productionAt (a1 : Int) (a2 : Int) (M : Mm) : Rs :=
Lt (wr (a1 * 4)) fun v1 =>
Lt (wr (v1 + a2)) fun v2 =>
Lt (fun (v3 : Int) (M4 : Mm) => 
Lt (fun (v6 : Int) (M7 : Mm) => 
some (v6, M7)) fun J50_8 =>
if v3 = 0 then (
J50_8 ((-1)) M4) else (
gd (0 ≤ v2 ∧ v2 < 40) <|
Lt (M4 23 v2.toNat) fun v10 =>
J50_8 v10 M4)) fun J33_5 =>
Lt (fun (M11 : Mm) => 
J33_5 0 M11) fun J32_12 =>
if a2 < 0 then (
J32_12 M) else (
if 4 ≤ a2 then (
J32_12 M) else (
if v2 < 0 then (
J32_12 M) else (
if 40 ≤ v2 then (
J32_12 M) else (
J33_5 1 M))))
theorem cy_X10_productionAt : yX10_productionAt.cls ≠ "java/lang/invoke/MethodHandle" ∧ yX10_productionAt.cls ≠ "java/lang/invoke/VarHandle" ∧ (parseMethodDescriptor yX10_productionAt.desc).map (fun d => d.parameters.length) = some 2 := ⟨by decide +kernel, by decide +kernel, by decide +kernel⟩
set_option maxRecDepth 20000 in
theorem ok_X10_productionAt (l : Launch) (D : Dd) (base : Nat) (M : Mm) (a1 : Int) (ha1 : i32 a1) (a2 : Int) (ha2 : i32 a2) : OkI l D TC 681 base yX10_productionAt cX10_productionAt 5 (some .int) 0 0 [.ref (base + 22), .int (Ii a1), .int (Ii a2)] M i32 (f_X10_productionAt a1 a2 M) := by
  refine metI (by decide +kernel) [(0, .ref (base + 22)), (1, .int (Ii a1)), (2, .int (Ii a2))] rfl (Nat.le_of_ble_eq_true rfl) (fun p e s m args below meth c X hrt hlk => ?_)
  have X : Cx p s m args c cX10_productionAt D 5 RX10 := X
  unfold f_X10_productionAt
  refine go_iload_n X dX10_productionAt_0 rfl 1 rfl ?_
  refine go_iconst (v := 4) X dX10_productionAt_1 rfl ?_
  refine go_imul X dX10_productionAt_2 ha1 kI_4 (fun v1 hv1 => ?_)
  refine go_iload_n X dX10_productionAt_3 rfl 2 rfl ?_
  refine go_iadd X dX10_productionAt_4 hv1 ha2 (fun v2 hv2 => ?_)
  refine go_istore_n (i := 3) (L' := [(3, .int (Ii v2)), (0, .ref (base + 22)), (1, .int (Ii a1)), (2, .int (Ii a2))]) X dX10_productionAt_5 rfl (by decide) rfl ?_
  refine go_iload_n X dX10_productionAt_6 rfl 3 rfl ?_
  refine go_lt (fun J => ∀ (v3 : Int) (M4 : Mm), bo v3 → Go p l e (rmO 0 0) s m args below meth c D TC 681 base 5 0 0 (FinI D TC 681 base below args s i32) M4 33 [(0, .ref (base + 22)), (3, .int (Ii v2))] [.int (Ii v3)] (J v3 M4)) (by
      intro v3 M4 hv3
      refine go_istore (i := 4) (L' := [(4, .int (Ii v3)), (0, .ref (base + 22)), (3, .int (Ii v2))]) X dX10_productionAt_33 (by decide) rfl ?_
      refine go_iload X dX10_productionAt_35 0 rfl ?_
      refine go_lt (fun J => ∀ (v6 : Int) (M7 : Mm), i32 v6 → Go p l e (rmO 0 0) s m args below meth c D TC 681 base 5 0 0 (FinI D TC 681 base below args s i32) M7 50 [] [.int (Ii v6)] (J v6 M7)) (by
          intro v6 M7 hv6
          exact go_ireturn X hrt hlk dX10_productionAt_50 hv6
          )
          (fun J50_8 hJ50_8 => ?_)
      refine go_if_eq (tgt := 49) X dX10_productionAt_37 rfl (bo_i32 hv3) (fun c9 => ?_) (fun c9 => ?_)
      · refine go_iconst (v := (-1)) X dX10_productionAt_49 rfl ?_
        refine go_sub [] rfl ?_
        exact hJ50_8 ((-1)) M4 kI_m1
      · refine go_aload_n X dX10_productionAt_40 rfl 1 rfl ?_
        refine go_getc (i := 1) X fc10 dX10_productionAt_41 tcn22 tc22 (Nat.le_of_ble_eq_true rfl) rfl lw75 rfl ?_
        refine go_iload_n X dX10_productionAt_44 rfl 2 rfl ?_
        refine go_iaload X dX10_productionAt_45 tcn23 tc23 hv2 (fun v10 hv10 => ?_)
        refine go_goto (tgt := 50) X dX10_productionAt_46 rfl ?_
        refine go_sub [] rfl ?_
        exact hJ50_8 v10 M4 hv10
      )
      (fun J33_5 hJ33_5 => ?_)
  refine go_lt (fun J => ∀ (M11 : Mm), Go p l e (rmO 0 0) s m args below meth c D TC 681 base 5 0 0 (FinI D TC 681 base below args s i32) M11 32 [(0, .ref (base + 22)), (3, .int (Ii v2))] [] (J M11)) (by
      intro M11
      refine go_iconst (v := 0) X dX10_productionAt_32 rfl ?_
      exact hJ33_5 0 M11 (Or.inl rfl)
      )
      (fun J32_12 hJ32_12 => ?_)
  refine go_if_lt (tgt := 32) X dX10_productionAt_7 rfl ha2 (fun c13 => ?_) (fun c13 => ?_)
  · refine go_sub [1, 0] rfl ?_
    exact hJ32_12 M
  · refine go_iload_n X dX10_productionAt_10 rfl 3 rfl ?_
    refine go_iconst (v := 4) X dX10_productionAt_11 rfl ?_
    refine go_icmp_ge (tgt := 32) X dX10_productionAt_12 rfl ha2 kI_4 (fun c14 => ?_) (fun c14 => ?_)
    · refine go_sub [1, 0] rfl ?_
      exact hJ32_12 M
    · refine go_iload_n X dX10_productionAt_15 rfl 0 rfl ?_
      refine go_if_lt (tgt := 32) X dX10_productionAt_16 rfl hv2 (fun c15 => ?_) (fun c15 => ?_)
      · refine go_sub [1, 0] rfl ?_
        exact hJ32_12 M
      · refine go_iload_n X dX10_productionAt_19 rfl 0 rfl ?_
        refine go_aload_n X dX10_productionAt_20 rfl 1 rfl ?_
        refine go_getc (i := 1) X fc10 dX10_productionAt_21 tcn22 tc22 (Nat.le_of_ble_eq_true rfl) rfl lw75 rfl ?_
        refine go_alen X dX10_productionAt_24 tcn23 tc23 (by decide) ?_
        refine go_icmp_ge (tgt := 32) X dX10_productionAt_25 rfl hv2 kI_40 (fun c16 => ?_) (fun c16 => ?_)
        · refine go_sub [1, 0] rfl ?_
          exact hJ32_12 M
        · refine go_iconst (v := 1) X dX10_productionAt_28 rfl ?_
          refine go_goto (tgt := 33) X dX10_productionAt_29 rfl ?_
          refine go_sub [1, 0] rfl ?_
          exact hJ33_5 1 M (Or.inr rfl)
def f_X10_childAt (a1 : Int) (a2 : Int) (a3 : Int) (M : Mm) : Rs :=
Lt (wr (a1 * 4)) fun v1 =>
Lt (wr (v1 + a2)) fun v2 =>
Lt (wr (v2 * 3)) fun v3 =>
Lt (wr (v3 + a3)) fun v4 =>
Lt (fun (v5 : Int) (M6 : Mm) => 
Lt (fun (v8 : Int) (M9 : Mm) => 
some (v8, M9)) fun J67_10 =>
Lt (fun (M11 : Mm) => 
J67_10 ((-1)) M11) fun J66_12 =>
if v5 = 0 then (
J66_12 M6) else (
if v4 < 0 then (
J66_12 M6) else (
if 120 ≤ v4 then (
J66_12 M6) else (
gd (0 ≤ v4 ∧ v4 < 120) <|
Lt (M6 24 v4.toNat) fun v16 =>
J67_10 v16 M6)))) fun J34_7 =>
Lt (fun (M17 : Mm) => 
J34_7 0 M17) fun J33_18 =>
if a2 < 0 then (
J33_18 M) else (
if 4 ≤ a2 then (
J33_18 M) else (
if a3 < 0 then (
J33_18 M) else (
if 3 ≤ a3 then (
J33_18 M) else (
J34_7 1 M))))
theorem cy_X10_childAt : yX10_childAt.cls ≠ "java/lang/invoke/MethodHandle" ∧ yX10_childAt.cls ≠ "java/lang/invoke/VarHandle" ∧ (parseMethodDescriptor yX10_childAt.desc).map (fun d => d.parameters.length) = some 3 := ⟨by decide +kernel, by decide +kernel, by decide +kernel⟩
set_option maxRecDepth 20000 in
theorem ok_X10_childAt (l : Launch) (D : Dd) (base : Nat) (M : Mm) (a1 : Int) (ha1 : i32 a1) (a2 : Int) (ha2 : i32 a2) (a3 : Int) (ha3 : i32 a3) : OkI l D TC 681 base yX10_childAt cX10_childAt 6 (some .int) 0 0 [.ref (base + 22), .int (Ii a1), .int (Ii a2), .int (Ii a3)] M i32 (f_X10_childAt a1 a2 a3 M) := by
  refine metI (by decide +kernel) [(0, .ref (base + 22)), (1, .int (Ii a1)), (2, .int (Ii a2)), (3, .int (Ii a3))] rfl (Nat.le_of_ble_eq_true rfl) (fun p e s m args below meth c X hrt hlk => ?_)
  have X : Cx p s m args c cX10_childAt D 6 RX10 := X
  unfold f_X10_childAt
  refine go_iload_n X dX10_childAt_0 rfl 1 rfl ?_
  refine go_iconst (v := 4) X dX10_childAt_1 rfl ?_
  refine go_imul X dX10_childAt_2 ha1 kI_4 (fun v1 hv1 => ?_)
  refine go_iload_n X dX10_childAt_3 rfl 2 rfl ?_
  refine go_iadd X dX10_childAt_4 hv1 ha2 (fun v2 hv2 => ?_)
  refine go_iconst (v := 3) X dX10_childAt_5 rfl ?_
  refine go_imul X dX10_childAt_6 hv2 kI_3 (fun v3 hv3 => ?_)
  refine go_iload_n X dX10_childAt_7 rfl 3 rfl ?_
  refine go_iadd X dX10_childAt_8 hv3 ha3 (fun v4 hv4 => ?_)
  refine go_istore (i := 4) (L' := [(4, .int (Ii v4)), (0, .ref (base + 22)), (1, .int (Ii a1)), (2, .int (Ii a2)), (3, .int (Ii a3))]) X dX10_childAt_9 (by decide) rfl ?_
  refine go_iload_n X dX10_childAt_11 rfl 3 rfl ?_
  refine go_lt (fun J => ∀ (v5 : Int) (M6 : Mm), bo v5 → Go p l e (rmO 0 0) s m args below meth c D TC 681 base 6 0 0 (FinI D TC 681 base below args s i32) M6 34 [(0, .ref (base + 22)), (4, .int (Ii v4))] [.int (Ii v5)] (J v5 M6)) (by
      intro v5 M6 hv5
      refine go_istore (i := 5) (L' := [(5, .int (Ii v5)), (0, .ref (base + 22)), (4, .int (Ii v4))]) X dX10_childAt_34 (by decide) rfl ?_
      refine go_iload X dX10_childAt_36 0 rfl ?_
      refine go_lt (fun J => ∀ (v8 : Int) (M9 : Mm), i32 v8 → Go p l e (rmO 0 0) s m args below meth c D TC 681 base 6 0 0 (FinI D TC 681 base below args s i32) M9 67 [] [.int (Ii v8)] (J v8 M9)) (by
          intro v8 M9 hv8
          exact go_ireturn X hrt hlk dX10_childAt_67 hv8
          )
          (fun J67_10 hJ67_10 => ?_)
      refine go_lt (fun J => ∀ (M11 : Mm), Go p l e (rmO 0 0) s m args below meth c D TC 681 base 6 0 0 (FinI D TC 681 base below args s i32) M11 66 [] [] (J M11)) (by
          intro M11
          refine go_iconst (v := (-1)) X dX10_childAt_66 rfl ?_
          exact hJ67_10 ((-1)) M11 kI_m1
          )
          (fun J66_12 hJ66_12 => ?_)
      refine go_if_eq (tgt := 66) X dX10_childAt_38 rfl (bo_i32 hv5) (fun c13 => ?_) (fun c13 => ?_)
      · refine go_sub [] rfl ?_
        exact hJ66_12 M6
      · refine go_iload X dX10_childAt_41 2 rfl ?_
        refine go_if_lt (tgt := 66) X dX10_childAt_43 rfl hv4 (fun c14 => ?_) (fun c14 => ?_)
        · refine go_sub [] rfl ?_
          exact hJ66_12 M6
        · refine go_iload X dX10_childAt_46 2 rfl ?_
          refine go_aload_n X dX10_childAt_48 rfl 1 rfl ?_
          refine go_getc (i := 2) X fc10 dX10_childAt_49 tcn22 tc22 (Nat.le_of_ble_eq_true rfl) rfl lw72 rfl ?_
          refine go_alen X dX10_childAt_52 tcn24 tc24 (by decide) ?_
          refine go_icmp_ge (tgt := 66) X dX10_childAt_53 rfl hv4 kI_120 (fun c15 => ?_) (fun c15 => ?_)
          · refine go_sub [] rfl ?_
            exact hJ66_12 M6
          · refine go_aload_n X dX10_childAt_56 rfl 1 rfl ?_
            refine go_getc (i := 2) X fc10 dX10_childAt_57 tcn22 tc22 (Nat.le_of_ble_eq_true rfl) rfl lw72 rfl ?_
            refine go_iload X dX10_childAt_60 2 rfl ?_
            refine go_iaload X dX10_childAt_62 tcn24 tc24 hv4 (fun v16 hv16 => ?_)
            refine go_goto (tgt := 67) X dX10_childAt_63 rfl ?_
            refine go_sub [] rfl ?_
            exact hJ67_10 v16 M6 hv16
      )
      (fun J34_7 hJ34_7 => ?_)
  refine go_lt (fun J => ∀ (M17 : Mm), Go p l e (rmO 0 0) s m args below meth c D TC 681 base 6 0 0 (FinI D TC 681 base below args s i32) M17 33 [(0, .ref (base + 22)), (4, .int (Ii v4))] [] (J M17)) (by
      intro M17
      refine go_iconst (v := 0) X dX10_childAt_33 rfl ?_
      exact hJ34_7 0 M17 (Or.inl rfl)
      )
      (fun J33_18 hJ33_18 => ?_)
  refine go_if_lt (tgt := 33) X dX10_childAt_12 rfl ha2 (fun c19 => ?_) (fun c19 => ?_)
  · refine go_sub [1, 0] rfl ?_
    exact hJ33_18 M
  · refine go_iload_n X dX10_childAt_15 rfl 3 rfl ?_
    refine go_iconst (v := 4) X dX10_childAt_16 rfl ?_
    refine go_icmp_ge (tgt := 33) X dX10_childAt_17 rfl ha2 kI_4 (fun c20 => ?_) (fun c20 => ?_)
    · refine go_sub [1, 0] rfl ?_
      exact hJ33_18 M
    · refine go_iload_n X dX10_childAt_20 rfl 4 rfl ?_
      refine go_if_lt (tgt := 33) X dX10_childAt_21 rfl ha3 (fun c21 => ?_) (fun c21 => ?_)
      · refine go_sub [1, 0] rfl ?_
        exact hJ33_18 M
      · refine go_iload_n X dX10_childAt_24 rfl 4 rfl ?_
        refine go_iconst (v := 3) X dX10_childAt_25 rfl ?_
        refine go_icmp_ge (tgt := 33) X dX10_childAt_26 rfl ha3 kI_3 (fun c22 => ?_) (fun c22 => ?_)
        · refine go_sub [1, 0] rfl ?_
          exact hJ33_18 M
        · refine go_iconst (v := 1) X dX10_childAt_29 rfl ?_
          refine go_goto (tgt := 34) X dX10_childAt_30 rfl ?_
          refine go_sub [1, 0] rfl ?_
          exact hJ34_7 1 M (Or.inr rfl)
def f_X10_targetAt_L9_15 (a1 : Int) (a2 : Int) (a3 : Int) (J36_3 : Mm → Rs) (J27_6 : Int → Mm → Rs) (rc9_9 : Int × Mm → Rs) : Int × Mm → Rs := fun (v7, M8) =>
if 3 ≤ v7 then (
J36_3 M8) else (
Cl (f_X10_childAt a1 a2 v7 M8) fun v12 M11 =>
if ¬ v12 = a3 then (
Lt (wr (v7 + 1)) fun v14 =>
rc9_9 (v14, M11)) else (
J27_6 v7 M11))
def f_X10_targetAt (a1 : Int) (a2 : Int) (a3 : Int) (M : Mm) : Rs :=
if 0 ≤ a3 then (
Lt (fun (M2 : Mm) => 
some ((-9), M2)) fun J36_3 =>
Lt (fun (v4 : Int) (M5 : Mm) => 
some (v4, M5)) fun J27_6 =>
Lp (f_X10_targetAt_L9_15 a1 a2 a3 J36_3 J27_6) FU (0, M)) else (
some (a3, M))
theorem cy_X10_targetAt : yX10_targetAt.cls ≠ "java/lang/invoke/MethodHandle" ∧ yX10_targetAt.cls ≠ "java/lang/invoke/VarHandle" ∧ (parseMethodDescriptor yX10_targetAt.desc).map (fun d => d.parameters.length) = some 3 := ⟨by decide +kernel, by decide +kernel, by decide +kernel⟩
set_option maxRecDepth 20000 in
theorem ok_X10_targetAt (l : Launch) (D : Dd) (base : Nat) (M : Mm) (a1 : Int) (ha1 : i32 a1) (a2 : Int) (ha2 : i32 a2) (a3 : Int) (ha3 : i32 a3) : OkI l D TC 681 base yX10_targetAt cX10_targetAt 5 (some .int) 1 25 [.ref (base + 22), .int (Ii a1), .int (Ii a2), .int (Ii a3)] M i32 (f_X10_targetAt a1 a2 a3 M) := by
  refine metI (by decide +kernel) [(0, .ref (base + 22)), (1, .int (Ii a1)), (2, .int (Ii a2)), (3, .int (Ii a3))] rfl (Nat.le_of_ble_eq_true rfl) (fun p e s m args below meth c X hrt hlk => ?_)
  have X : Cx p s m args c cX10_targetAt D 5 RX10 := X
  unfold f_X10_targetAt
  refine go_iload_n X dX10_targetAt_0 rfl 3 rfl ?_
  refine go_if_ge (tgt := 6) X dX10_targetAt_1 rfl ha3 (fun c1 => ?_) (fun c1 => ?_)
  · refine go_iconst (v := 0) X dX10_targetAt_6 rfl ?_
    refine go_istore (i := 4) (L' := [(4, .int (Ii 0)), (0, .ref (base + 22)), (1, .int (Ii a1)), (2, .int (Ii a2)), (3, .int (Ii a3))]) X dX10_targetAt_7 (by decide) rfl ?_
    refine go_lt (fun J => ∀ (M2 : Mm), Go p l e (rmO 1 25) s m args below meth c D TC 681 base 5 0 0 (FinI D TC 681 base below args s i32) M2 36 [] [] (J M2)) (by
        intro M2
        refine go_bipush (v := (-9)) X dX10_targetAt_36 (by decide) ?_
        exact go_ireturn X hrt hlk dX10_targetAt_38 kI_m9
        )
        (fun J36_3 hJ36_3 => ?_)
    refine go_lt (fun J => ∀ (v4 : Int) (M5 : Mm), i32 v4 → Go p l e (rmO 1 25) s m args below meth c D TC 681 base 5 0 0 (FinI D TC 681 base below args s i32) M5 27 [(4, .int (Ii v4))] [] (J v4 M5)) (by
        intro v4 M5 hv4
        refine go_iload X dX10_targetAt_27 0 rfl ?_
        exact go_ireturn X hrt hlk dX10_targetAt_29 hv4
        )
        (fun J27_6 hJ27_6 => ?_)
    refine go_sub [1, 2, 3, 4, 0] rfl ?_
    exact go_lp (fun (rc : Int × Mm → Rs) => ∀ (v7 : Int) (M8 : Mm), i32 v7 → Go p l e (rmO 1 25) s m args below meth c D TC 681 base 5 0 0 (FinI D TC 681 base below args s i32) M8 9 [(0, .ref (base + 22)), (1, .int (Ii a1)), (2, .int (Ii a2)), (3, .int (Ii a3)), (4, .int (Ii v7))] [] (rc (v7, M8)))
        (by intro v7 M8 hv7; exact go_none)
        (by
        intro rc9_9 hrc9_9 v7 M8 hv7
        unfold f_X10_targetAt_L9_15
        dsimp only
        refine go_iload X dX10_targetAt_9 4 rfl ?_
        refine go_iconst (v := 3) X dX10_targetAt_11 rfl ?_
        refine go_icmp_ge (tgt := 36) X dX10_targetAt_12 rfl hv7 kI_3 (fun c10 => ?_) (fun c10 => ?_)
        · refine go_sub [] rfl ?_
          exact hJ36_3 M8
        · refine go_aload_n X dX10_targetAt_15 rfl 0 rfl ?_
          refine go_iload_n X dX10_targetAt_16 rfl 1 rfl ?_
          refine go_iload_n X dX10_targetAt_17 rfl 2 rfl ?_
          refine go_iload X dX10_targetAt_18 4 rfl ?_
          refine goI (fun H locs ls r ho hW hL => runV X (ok_X10_childAt l D base M8 a1 ha1 a2 ha2 v7 hv7 H.size r ho) dX10_targetAt_20 lw84 lw85 lw86 lw87 ⟨lw71, cy_X10_childAt, Nat.le_of_ble_eq_true rfl, Nat.le_of_ble_eq_true rfl⟩ rfl tcn22 tc22 rfl rfl rfl rfl (Nat.le_of_ble_eq_true rfl) hW hL hk0) (fun v12 M11 hv12 => ?_)
          refine go_iload_n X dX10_targetAt_23 rfl 3 rfl ?_
          refine go_icmp_ne (tgt := 30) X dX10_targetAt_24 rfl hv12 ha3 (fun c13 => ?_) (fun c13 => ?_)
          · refine go_iinc (i := 4) (L' := fun v => [(4, .int (Ii v)), (0, .ref (base + 22)), (1, .int (Ii a1)), (2, .int (Ii a2)), (3, .int (Ii a3))]) X dX10_targetAt_30 hv7 kI_1 (j := 4) rfl (by decide) (fun _ => rfl) (fun v14 hv14 => ?_)
            refine go_goto (tgt := 9) X dX10_targetAt_33 rfl ?_
            refine go_sub [1, 2, 3, 4, 0] rfl ?_
            exact hrc9_9 v14 M11 hv14
          · refine go_sub [4] rfl ?_
            exact hJ27_6 v7 M11 hv7
        )
        FU 0 M kI_0
  · refine go_iload_n X dX10_targetAt_4 rfl 3 rfl ?_
    exact go_ireturn X hrt hlk dX10_targetAt_5 ha3
def f_X0_isFor (h : Nat) (a1 : Int) (a2 : Int) (a3 : Int) (M : Mm) : Rs :=
Lt (M h 0) fun v1 =>
Lt (fun (v2 : Int) (M3 : Mm) => 
some (v2, M3)) fun J29_4 =>
Lt (fun (M5 : Mm) => 
J29_4 0 M5) fun J28_6 =>
if ¬ v1 = a1 then (
J28_6 M) else (
Lt (M h 1) fun v8 =>
if ¬ v8 = a2 then (
J28_6 M) else (
Lt (M h 2) fun v10 =>
if ¬ v10 = a3 then (
J28_6 M) else (
J29_4 1 M)))
theorem cy_X0_isFor : yX0_isFor.cls ≠ "java/lang/invoke/MethodHandle" ∧ yX0_isFor.cls ≠ "java/lang/invoke/VarHandle" ∧ (parseMethodDescriptor yX0_isFor.desc).map (fun d => d.parameters.length) = some 3 := ⟨by decide +kernel, by decide +kernel, by decide +kernel⟩
set_option maxRecDepth 20000 in
theorem ok_X0_isFor (l : Launch) (D : Dd) (base : Nat) (M : Mm) (h : Nat) (hh : isE h) (a1 : Int) (ha1 : i32 a1) (a2 : Int) (ha2 : i32 a2) (a3 : Int) (ha3 : i32 a3) : OkI l D TC 681 base yX0_isFor cX0_isFor 4 (some .boolean) 0 0 [.ref (base + h), .int (Ii a1), .int (Ii a2), .int (Ii a3)] M bo (f_X0_isFor h a1 a2 a3 M) := by
  refine metI (by decide +kernel) [(0, .ref (base + h)), (1, .int (Ii a1)), (2, .int (Ii a2)), (3, .int (Ii a3))] rfl (Nat.le_of_ble_eq_true rfl) (fun p e s m args below meth c X hrt hlk => ?_)
  have X : Cx p s m args c cX0_isFor D 4 RX0 := X
  unfold f_X0_isFor
  refine go_aload_n X dX0_isFor_0 rfl 0 rfl ?_
  refine go_geti (i := 0) X fc0 dX0_isFor_1 (nE hh) (tE hh) (Nat.le_of_ble_eq_true rfl) rfl lw24 rfl (fun v1 hv1 => ?_)
  refine go_iload_n X dX0_isFor_4 rfl 1 rfl ?_
  refine go_lt (fun J => ∀ (v2 : Int) (M3 : Mm), bo v2 → Go p l e (rmO 0 0) s m args below meth c D TC 681 base 4 0 0 (FinI D TC 681 base below args s bo) M3 29 [] [.int (Ii v2)] (J v2 M3)) (by
      intro v2 M3 hv2
      exact go_zreturn X hrt hlk dX0_isFor_29 hv2 hv2
      )
      (fun J29_4 hJ29_4 => ?_)
  refine go_lt (fun J => ∀ (M5 : Mm), Go p l e (rmO 0 0) s m args below meth c D TC 681 base 4 0 0 (FinI D TC 681 base below args s bo) M5 28 [] [] (J M5)) (by
      intro M5
      refine go_iconst (v := 0) X dX0_isFor_28 rfl ?_
      exact hJ29_4 0 M5 (Or.inl rfl)
      )
      (fun J28_6 hJ28_6 => ?_)
  refine go_icmp_ne (tgt := 28) X dX0_isFor_5 rfl hv1 ha1 (fun c7 => ?_) (fun c7 => ?_)
  · refine go_sub [] rfl ?_
    exact hJ28_6 M
  · refine go_aload_n X dX0_isFor_8 rfl 0 rfl ?_
    refine go_geti (i := 1) X fc0 dX0_isFor_9 (nE hh) (tE hh) (Nat.le_of_ble_eq_true rfl) rfl lw25 rfl (fun v8 hv8 => ?_)
    refine go_iload_n X dX0_isFor_12 rfl 2 rfl ?_
    refine go_icmp_ne (tgt := 28) X dX0_isFor_13 rfl hv8 ha2 (fun c9 => ?_) (fun c9 => ?_)
    · refine go_sub [] rfl ?_
      exact hJ28_6 M
    · refine go_aload_n X dX0_isFor_16 rfl 0 rfl ?_
      refine go_geti (i := 2) X fc0 dX0_isFor_17 (nE hh) (tE hh) (Nat.le_of_ble_eq_true rfl) rfl lw26 rfl (fun v10 hv10 => ?_)
      refine go_iload_n X dX0_isFor_20 rfl 3 rfl ?_
      refine go_icmp_ne (tgt := 28) X dX0_isFor_21 rfl hv10 ha3 (fun c11 => ?_) (fun c11 => ?_)
      · refine go_sub [] rfl ?_
        exact hJ28_6 M
      · refine go_iconst (v := 1) X dX0_isFor_24 rfl ?_
        refine go_goto (tgt := 29) X dX0_isFor_25 rfl ?_
        refine go_sub [] rfl ?_
        exact hJ29_4 1 M (Or.inr rfl)
def f_X6_cornerOf (a1 : Int) (a2 : Int) (M : Mm) : Rs :=
Lt (wr (a1 + 1)) fun v1 =>
Lt (wr (v1 * 6)) fun v2 =>
Lt (wr (v2 + a2)) fun v3 =>
some (v3, M)
theorem cy_X6_cornerOf : yX6_cornerOf.cls ≠ "java/lang/invoke/MethodHandle" ∧ yX6_cornerOf.cls ≠ "java/lang/invoke/VarHandle" ∧ (parseMethodDescriptor yX6_cornerOf.desc).map (fun d => d.parameters.length) = some 2 := ⟨by decide +kernel, by decide +kernel, by decide +kernel⟩
set_option maxRecDepth 20000 in
theorem ok_X6_cornerOf (l : Launch) (D : Dd) (base : Nat) (M : Mm) (a1 : Int) (ha1 : i32 a1) (a2 : Int) (ha2 : i32 a2) : OkI l D TC 681 base yX6_cornerOf cX6_cornerOf 2 (some .int) 0 0 [.int (Ii a1), .int (Ii a2)] M i32 (f_X6_cornerOf a1 a2 M) := by
  refine metI (by decide +kernel) [(0, .int (Ii a1)), (1, .int (Ii a2))] rfl (Nat.le_of_ble_eq_true rfl) (fun p e s m args below meth c X hrt hlk => ?_)
  have X : Cx p s m args c cX6_cornerOf D 2 RX6 := X
  unfold f_X6_cornerOf
  refine go_iload_n X dX6_cornerOf_0 rfl 0 rfl ?_
  refine go_iconst (v := 1) X dX6_cornerOf_1 rfl ?_
  refine go_iadd X dX6_cornerOf_2 ha1 kI_1 (fun v1 hv1 => ?_)
  refine go_bipush (v := 6) X dX6_cornerOf_3 (by decide) ?_
  refine go_imul X dX6_cornerOf_5 hv1 kI_6 (fun v2 hv2 => ?_)
  refine go_iload_n X dX6_cornerOf_6 rfl 1 rfl ?_
  refine go_iadd X dX6_cornerOf_7 hv2 ha2 (fun v3 hv3 => ?_)
  exact go_ireturn X hrt hlk dX6_cornerOf_8 hv3
def f_X0_kindOf (h : Nat) (a1 : Int) (M : Mm) : Rs :=
Lt (fun (v1 : Int) (M2 : Mm) => 
some (v1, M2)) fun J20_3 =>
Lt (fun (M4 : Mm) => 
J20_3 ((-1)) M4) fun J19_5 =>
if a1 < 0 then (
J19_5 M) else (
if 8 ≤ a1 then (
J19_5 M) else (
gd (0 ≤ a1 ∧ a1 < 8) <|
Lt (M (h + 1) a1.toNat) fun v8 =>
J20_3 v8 M))
theorem cy_X0_kindOf : yX0_kindOf.cls ≠ "java/lang/invoke/MethodHandle" ∧ yX0_kindOf.cls ≠ "java/lang/invoke/VarHandle" ∧ (parseMethodDescriptor yX0_kindOf.desc).map (fun d => d.parameters.length) = some 1 := ⟨by decide +kernel, by decide +kernel, by decide +kernel⟩
set_option maxRecDepth 20000 in
theorem ok_X0_kindOf (l : Launch) (D : Dd) (base : Nat) (M : Mm) (h : Nat) (hh : isE h) (a1 : Int) (ha1 : i32 a1) : OkI l D TC 681 base yX0_kindOf cX0_kindOf 2 (some .int) 0 0 [.ref (base + h), .int (Ii a1)] M i32 (f_X0_kindOf h a1 M) := by
  refine metI (by decide +kernel) [(0, .ref (base + h)), (1, .int (Ii a1))] rfl (Nat.le_of_ble_eq_true rfl) (fun p e s m args below meth c X hrt hlk => ?_)
  have X : Cx p s m args c cX0_kindOf D 2 RX0 := X
  unfold f_X0_kindOf
  refine go_iload_n X dX0_kindOf_0 rfl 1 rfl ?_
  refine go_lt (fun J => ∀ (v1 : Int) (M2 : Mm), i32 v1 → Go p l e (rmO 0 0) s m args below meth c D TC 681 base 2 0 0 (FinI D TC 681 base below args s i32) M2 20 [] [.int (Ii v1)] (J v1 M2)) (by
      intro v1 M2 hv1
      exact go_ireturn X hrt hlk dX0_kindOf_20 hv1
      )
      (fun J20_3 hJ20_3 => ?_)
  refine go_lt (fun J => ∀ (M4 : Mm), Go p l e (rmO 0 0) s m args below meth c D TC 681 base 2 0 0 (FinI D TC 681 base below args s i32) M4 19 [] [] (J M4)) (by
      intro M4
      refine go_iconst (v := (-1)) X dX0_kindOf_19 rfl ?_
      exact hJ20_3 ((-1)) M4 kI_m1
      )
      (fun J19_5 hJ19_5 => ?_)
  refine go_if_lt (tgt := 19) X dX0_kindOf_1 rfl ha1 (fun c6 => ?_) (fun c6 => ?_)
  · refine go_sub [] rfl ?_
    exact hJ19_5 M
  · refine go_iload_n X dX0_kindOf_4 rfl 1 rfl ?_
    refine go_bipush (v := 8) X dX0_kindOf_5 (by decide) ?_
    refine go_icmp_ge (tgt := 19) X dX0_kindOf_7 rfl ha1 kI_8 (fun c7 => ?_) (fun c7 => ?_)
    · refine go_sub [] rfl ?_
      exact hJ19_5 M
    · refine go_aload_n X dX0_kindOf_10 rfl 0 rfl ?_
      refine go_getc (i := 6) X fc0 dX0_kindOf_11 (nE hh) (tE hh) (Nat.le_of_ble_eq_true rfl) rfl lw5 rfl ?_
      refine go_iload_n X dX0_kindOf_14 rfl 1 rfl ?_
      refine go_iaload X dX0_kindOf_15 (nEa1 hh) (tEa1 hh) ha1 (fun v8 hv8 => ?_)
      refine go_goto (tgt := 20) X dX0_kindOf_16 rfl ?_
      refine go_sub [] rfl ?_
      exact hJ20_3 v8 M hv8
def f_X0_numberOf (h : Nat) (a1 : Int) (M : Mm) : Rs :=
Lt (fun (v1 : Int) (M2 : Mm) => 
some (v1, M2)) fun J20_3 =>
Lt (fun (M4 : Mm) => 
J20_3 ((-1)) M4) fun J19_5 =>
if a1 < 0 then (
J19_5 M) else (
if 8 ≤ a1 then (
J19_5 M) else (
gd (0 ≤ a1 ∧ a1 < 8) <|
Lt (M (h + 2) a1.toNat) fun v8 =>
J20_3 v8 M))
theorem cy_X0_numberOf : yX0_numberOf.cls ≠ "java/lang/invoke/MethodHandle" ∧ yX0_numberOf.cls ≠ "java/lang/invoke/VarHandle" ∧ (parseMethodDescriptor yX0_numberOf.desc).map (fun d => d.parameters.length) = some 1 := ⟨by decide +kernel, by decide +kernel, by decide +kernel⟩
set_option maxRecDepth 20000 in
theorem ok_X0_numberOf (l : Launch) (D : Dd) (base : Nat) (M : Mm) (h : Nat) (hh : isE h) (a1 : Int) (ha1 : i32 a1) : OkI l D TC 681 base yX0_numberOf cX0_numberOf 2 (some .int) 0 0 [.ref (base + h), .int (Ii a1)] M i32 (f_X0_numberOf h a1 M) := by
  refine metI (by decide +kernel) [(0, .ref (base + h)), (1, .int (Ii a1))] rfl (Nat.le_of_ble_eq_true rfl) (fun p e s m args below meth c X hrt hlk => ?_)
  have X : Cx p s m args c cX0_numberOf D 2 RX0 := X
  unfold f_X0_numberOf
  refine go_iload_n X dX0_numberOf_0 rfl 1 rfl ?_
  refine go_lt (fun J => ∀ (v1 : Int) (M2 : Mm), i32 v1 → Go p l e (rmO 0 0) s m args below meth c D TC 681 base 2 0 0 (FinI D TC 681 base below args s i32) M2 20 [] [.int (Ii v1)] (J v1 M2)) (by
      intro v1 M2 hv1
      exact go_ireturn X hrt hlk dX0_numberOf_20 hv1
      )
      (fun J20_3 hJ20_3 => ?_)
  refine go_lt (fun J => ∀ (M4 : Mm), Go p l e (rmO 0 0) s m args below meth c D TC 681 base 2 0 0 (FinI D TC 681 base below args s i32) M4 19 [] [] (J M4)) (by
      intro M4
      refine go_iconst (v := (-1)) X dX0_numberOf_19 rfl ?_
      exact hJ20_3 ((-1)) M4 kI_m1
      )
      (fun J19_5 hJ19_5 => ?_)
  refine go_if_lt (tgt := 19) X dX0_numberOf_1 rfl ha1 (fun c6 => ?_) (fun c6 => ?_)
  · refine go_sub [] rfl ?_
    exact hJ19_5 M
  · refine go_iload_n X dX0_numberOf_4 rfl 1 rfl ?_
    refine go_bipush (v := 8) X dX0_numberOf_5 (by decide) ?_
    refine go_icmp_ge (tgt := 19) X dX0_numberOf_7 rfl ha1 kI_8 (fun c7 => ?_) (fun c7 => ?_)
    · refine go_sub [] rfl ?_
      exact hJ19_5 M
    · refine go_aload_n X dX0_numberOf_10 rfl 0 rfl ?_
      refine go_getc (i := 7) X fc0 dX0_numberOf_11 (nE hh) (tE hh) (Nat.le_of_ble_eq_true rfl) rfl lw6 rfl ?_
      refine go_iload_n X dX0_numberOf_14 rfl 1 rfl ?_
      refine go_iaload X dX0_numberOf_15 (nEa2 hh) (tEa2 hh) ha1 (fun v8 hv8 => ?_)
      refine go_goto (tgt := 20) X dX0_numberOf_16 rfl ?_
      refine go_sub [] rfl ?_
      exact hJ20_3 v8 M hv8
def f_X0_childOf (h : Nat) (a1 : Int) (M : Mm) : Rs :=
Lt (fun (v1 : Int) (M2 : Mm) => 
some (v1, M2)) fun J20_3 =>
Lt (fun (M4 : Mm) => 
J20_3 ((-1)) M4) fun J19_5 =>
if a1 < 0 then (
J19_5 M) else (
if 8 ≤ a1 then (
J19_5 M) else (
gd (0 ≤ a1 ∧ a1 < 8) <|
Lt (M (h + 3) a1.toNat) fun v8 =>
J20_3 v8 M))
theorem cy_X0_childOf : yX0_childOf.cls ≠ "java/lang/invoke/MethodHandle" ∧ yX0_childOf.cls ≠ "java/lang/invoke/VarHandle" ∧ (parseMethodDescriptor yX0_childOf.desc).map (fun d => d.parameters.length) = some 1 := ⟨by decide +kernel, by decide +kernel, by decide +kernel⟩
set_option maxRecDepth 20000 in
theorem ok_X0_childOf (l : Launch) (D : Dd) (base : Nat) (M : Mm) (h : Nat) (hh : isE h) (a1 : Int) (ha1 : i32 a1) : OkI l D TC 681 base yX0_childOf cX0_childOf 2 (some .int) 0 0 [.ref (base + h), .int (Ii a1)] M i32 (f_X0_childOf h a1 M) := by
  refine metI (by decide +kernel) [(0, .ref (base + h)), (1, .int (Ii a1))] rfl (Nat.le_of_ble_eq_true rfl) (fun p e s m args below meth c X hrt hlk => ?_)
  have X : Cx p s m args c cX0_childOf D 2 RX0 := X
  unfold f_X0_childOf
  refine go_iload_n X dX0_childOf_0 rfl 1 rfl ?_
  refine go_lt (fun J => ∀ (v1 : Int) (M2 : Mm), i32 v1 → Go p l e (rmO 0 0) s m args below meth c D TC 681 base 2 0 0 (FinI D TC 681 base below args s i32) M2 20 [] [.int (Ii v1)] (J v1 M2)) (by
      intro v1 M2 hv1
      exact go_ireturn X hrt hlk dX0_childOf_20 hv1
      )
      (fun J20_3 hJ20_3 => ?_)
  refine go_lt (fun J => ∀ (M4 : Mm), Go p l e (rmO 0 0) s m args below meth c D TC 681 base 2 0 0 (FinI D TC 681 base below args s i32) M4 19 [] [] (J M4)) (by
      intro M4
      refine go_iconst (v := (-1)) X dX0_childOf_19 rfl ?_
      exact hJ20_3 ((-1)) M4 kI_m1
      )
      (fun J19_5 hJ19_5 => ?_)
  refine go_if_lt (tgt := 19) X dX0_childOf_1 rfl ha1 (fun c6 => ?_) (fun c6 => ?_)
  · refine go_sub [] rfl ?_
    exact hJ19_5 M
  · refine go_iload_n X dX0_childOf_4 rfl 1 rfl ?_
    refine go_bipush (v := 8) X dX0_childOf_5 (by decide) ?_
    refine go_icmp_ge (tgt := 19) X dX0_childOf_7 rfl ha1 kI_8 (fun c7 => ?_) (fun c7 => ?_)
    · refine go_sub [] rfl ?_
      exact hJ19_5 M
    · refine go_aload_n X dX0_childOf_10 rfl 0 rfl ?_
      refine go_getc (i := 8) X fc0 dX0_childOf_11 (nE hh) (tE hh) (Nat.le_of_ble_eq_true rfl) rfl lw7 rfl ?_
      refine go_iload_n X dX0_childOf_14 rfl 1 rfl ?_
      refine go_iaload X dX0_childOf_15 (nEa3 hh) (tEa3 hh) ha1 (fun v8 hv8 => ?_)
      refine go_goto (tgt := 20) X dX0_childOf_16 rfl ?_
      refine go_sub [] rfl ?_
      exact hJ20_3 v8 M hv8
def f_X11_setEntry (r1 : Nat) (a2 : Int) (a3 : Int) (M : Mm) : Rs :=
Lt (fun (M1 : Mm) => 
some (0, M1)) fun J14_2 =>
if a2 < 0 then (
J14_2 M) else (
if (((alenC r1 : Nat) : Int)) ≤ a2 then (
J14_2 M) else (
gd (0 ≤ a2 ∧ a2 < ((alenC r1 : Nat) : Int)) <|
Lt (up M r1 a2.toNat a3) fun M5 =>
J14_2 M5))
theorem cy_X11_setEntry : yX11_setEntry.cls ≠ "java/lang/invoke/MethodHandle" ∧ yX11_setEntry.cls ≠ "java/lang/invoke/VarHandle" ∧ (parseMethodDescriptor yX11_setEntry.desc).map (fun d => d.parameters.length) = some 3 := ⟨by decide +kernel, by decide +kernel, by decide +kernel⟩
set_option maxRecDepth 20000 in
theorem ok_X11_setEntry (l : Launch) (D : Dd) (base : Nat) (M : Mm) (r1 : Nat) (hr1 : isAC r1) (a2 : Int) (ha2 : i32 a2) (a3 : Int) (ha3 : i32 a3) : OkV l D TC 681 base yX11_setEntry cX11_setEntry 3 none 0 0 [.ref (base + r1), .int (Ii a2), .int (Ii a3)] M (f_X11_setEntry r1 a2 a3 M) := by
  refine metV (by decide +kernel) [(0, .ref (base + r1)), (1, .int (Ii a2)), (2, .int (Ii a3))] rfl (Nat.le_of_ble_eq_true rfl) (fun p e s m args below meth c X hrt hlk => ?_)
  have X : Cx p s m args c cX11_setEntry D 3 RX11 := X
  unfold f_X11_setEntry
  refine go_iload_n X dX11_setEntry_0 rfl 1 rfl ?_
  refine go_lt (fun J => ∀ (M1 : Mm), Go p l e (rmO 0 0) s m args below meth c D TC 681 base 3 0 0 (FinV D TC 681 base below args s) M1 14 [] [] (J M1)) (by
      intro M1
      exact go_vreturn X hrt hlk dX11_setEntry_14
      )
      (fun J14_2 hJ14_2 => ?_)
  refine go_if_lt (tgt := 14) X dX11_setEntry_1 rfl ha2 (fun c3 => ?_) (fun c3 => ?_)
  · refine go_sub [] rfl ?_
    exact hJ14_2 M
  · refine go_iload_n X dX11_setEntry_4 rfl 1 rfl ?_
    refine go_aload_n X dX11_setEntry_5 rfl 0 rfl ?_
    refine go_alen X dX11_setEntry_6 hr1.1 hr1.2 (by decide) ?_
    refine go_icmp_ge (tgt := 14) X dX11_setEntry_7 rfl ha2 (i32_alenC _) (fun c4 => ?_) (fun c4 => ?_)
    · refine go_sub [] rfl ?_
      exact hJ14_2 M
    · refine go_aload_n X dX11_setEntry_10 rfl 0 rfl ?_
      refine go_iload_n X dX11_setEntry_11 rfl 1 rfl ?_
      refine go_iload_n X dX11_setEntry_12 rfl 2 rfl ?_
      refine go_iastore X dX11_setEntry_13 hr1.1 hr1.2 ha2 ha3 (fun M5 => ?_)
      refine go_sub [] rfl ?_
      exact hJ14_2 M5
def f_X6_hang (a1 : Int) (a2 : Int) (M : Mm) : Rs :=
Lt (fun (M1 : Mm) => 
some (0, M1)) fun J30_2 =>
if a2 < 0 then (
J30_2 M) else (
if 24 ≤ a2 then (
J30_2 M) else (
Cl (f_X11_entryOf 679 a1 M) fun v6 M5 =>
Lt (jshl 1 a2) fun v7 =>
Lt (jor v6 v7) fun v8 =>
Cl (f_X11_setEntry 679 a1 v8 M5) fun _ M9 =>
J30_2 M9))
theorem cy_X6_hang : yX6_hang.cls ≠ "java/lang/invoke/MethodHandle" ∧ yX6_hang.cls ≠ "java/lang/invoke/VarHandle" ∧ (parseMethodDescriptor yX6_hang.desc).map (fun d => d.parameters.length) = some 2 := ⟨by decide +kernel, by decide +kernel, by decide +kernel⟩
set_option maxRecDepth 20000 in
theorem ok_X6_hang (l : Launch) (D : Dd) (base : Nat) (M : Mm) (a1 : Int) (ha1 : i32 a1) (a2 : Int) (ha2 : i32 a2) : OkV l D TC 681 base yX6_hang cX6_hang 3 none 1 22 [.ref (base + 678), .int (Ii a1), .int (Ii a2)] M (f_X6_hang a1 a2 M) := by
  refine metV (by decide +kernel) [(0, .ref (base + 678)), (1, .int (Ii a1)), (2, .int (Ii a2))] rfl (Nat.le_of_ble_eq_true rfl) (fun p e s m args below meth c X hrt hlk => ?_)
  have X : Cx p s m args c cX6_hang D 3 RX6 := X
  unfold f_X6_hang
  refine go_iload_n X dX6_hang_0 rfl 2 rfl ?_
  refine go_lt (fun J => ∀ (M1 : Mm), Go p l e (rmO 1 22) s m args below meth c D TC 681 base 3 0 0 (FinV D TC 681 base below args s) M1 30 [] [] (J M1)) (by
      intro M1
      exact go_vreturn X hrt hlk dX6_hang_30
      )
      (fun J30_2 hJ30_2 => ?_)
  refine go_if_lt (tgt := 30) X dX6_hang_1 rfl ha2 (fun c3 => ?_) (fun c3 => ?_)
  · refine go_sub [] rfl ?_
    exact hJ30_2 M
  · refine go_iload_n X dX6_hang_4 rfl 2 rfl ?_
    refine go_bipush (v := 24) X dX6_hang_5 (by decide) ?_
    refine go_icmp_ge (tgt := 30) X dX6_hang_7 rfl ha2 kI_24 (fun c4 => ?_) (fun c4 => ?_)
    · refine go_sub [] rfl ?_
      exact hJ30_2 M
    · refine go_aload_n X dX6_hang_10 rfl 0 rfl ?_
      refine go_getc (i := 3) X fc6 dX6_hang_11 tcn678 tc678 (Nat.le_of_ble_eq_true rfl) rfl lw433 rfl ?_
      refine go_iload_n X dX6_hang_14 rfl 1 rfl ?_
      refine go_aload_n X dX6_hang_15 rfl 0 rfl ?_
      refine go_getc (i := 3) X fc6 dX6_hang_16 tcn678 tc678 (Nat.le_of_ble_eq_true rfl) rfl lw433 rfl ?_
      refine go_iload_n X dX6_hang_19 rfl 1 rfl ?_
      refine goI (fun H locs ls r ho hW hL => runSN X (ok_X11_entryOf l D base M 679 isAC_679 a1 ha1 H.size r ho) dX6_hang_20 nl8 lw20 lw19 ⟨lw13, cy_X11_entryOf, Nat.le_of_ble_eq_true rfl, Nat.le_of_ble_eq_true rfl⟩ rfl rfl (Nat.le_of_ble_eq_true rfl) hW hL hk0) (fun v6 M5 hv6 => ?_)
      refine go_iconst (v := 1) X dX6_hang_23 rfl ?_
      refine go_iload_n X dX6_hang_24 rfl 2 rfl ?_
      refine go_ishl X dX6_hang_25 kI_1 ha2 (fun v7 hv7 => ?_)
      refine go_ior X dX6_hang_26 hv6 hv7 (fun v8 hv8 => ?_)
      refine goV (fun H locs ls r ho hW hL => runSN X (ok_X11_setEntry l D base M5 679 isAC_679 a1 ha1 v8 hv8 H.size r ho) dX6_hang_27 nl9 lw21 lw19 ⟨lw14, cy_X11_setEntry, Nat.le_of_ble_eq_true rfl, Nat.le_of_ble_eq_true rfl⟩ rfl rfl (Nat.le_of_ble_eq_true rfl) hW hL hk0) (fun _ M9 => ?_)
      refine go_sub [] rfl ?_
      exact hJ30_2 M9
def f_X6_drawSteps_L3_51 (r1 : Nat) (a2 : Int) (a3 : Int) (a4 : Int) (J124_2 : Mm → Rs) (rc3_5 : Int × Mm → Rs) : Int × Mm → Rs := fun (v3, M4) =>
Lt (M4 r1 4) fun v6 =>
if v6 ≤ v3 then (
J124_2 M4) else (
Cl (f_X0_kindOf r1 v3 M4) fun v9 M8 =>
Cl (f_X0_numberOf r1 v3 M8) fun v11 M10 =>
Lt (fun (v12 : Int) (v13 : Int) (M14 : Mm) => 
Lt (fun (v16 : Int) (v17 : Int) (M18 : Mm) => 
Lt (fun (v20 : Int) (M21 : Mm) => 
Lt (wr (v20 + 1)) fun v23 =>
rc3_5 (v23, M21)) fun J118_22 =>
if v17 = 0 then (
J118_22 v16 M18) else (
Cl (f_X6_isOfKind v11 0 M18) fun v26 M25 =>
Lt (fun (v27 : Int) (M28 : Mm) => 
Cl (f_X6_cornerOf v13 v11 M28) fun v31 M30 =>
Cl (f_X6_hang a4 v31 M30) fun _ M32 =>
J118_22 v27 M32) fun J105_29 =>
if ¬ v26 = 0 then (
J105_29 v16 M25) else (
Cl (f_X6_isOfKind v11 1 M25) fun v35 M34 =>
if v35 = 0 then (
J118_22 v16 M34) else (
J105_29 v16 M34)))) fun J78_19 =>
Lt (fun (v37 : Int) (M38 : Mm) => 
J78_19 v37 1 M38) fun J73_39 =>
if v9 = 1 then (
J73_39 v12 M14) else (
Lt (fun (v41 : Int) (M42 : Mm) => 
J78_19 v41 0 M42) fun J77_43 =>
if ¬ v9 = 2 then (
J77_43 v12 M14) else (
if v13 = ((-1)) then (
J77_43 v12 M14) else (
J73_39 v12 M14)))) fun J53_15 =>
if ¬ v9 = 2 then (
J53_15 v3 ((-1)) M10) else (
Cl (f_X0_childOf r1 v3 M10) fun v48 M47 =>
Cl (f_X10_childAt a2 a3 v48 M47) fun v50 M49 =>
J53_15 v3 v50 M49))
def f_X6_drawSteps (r1 : Nat) (a2 : Int) (a3 : Int) (a4 : Int) (M : Mm) : Rs :=
Lt (fun (M1 : Mm) => 
some (0, M1)) fun J124_2 =>
Lp (f_X6_drawSteps_L3_51 r1 a2 a3 a4 J124_2) FU (0, M)
theorem cy_X6_drawSteps : yX6_drawSteps.cls ≠ "java/lang/invoke/MethodHandle" ∧ yX6_drawSteps.cls ≠ "java/lang/invoke/VarHandle" ∧ (parseMethodDescriptor yX6_drawSteps.desc).map (fun d => d.parameters.length) = some 4 := ⟨by decide +kernel, by decide +kernel, by decide +kernel⟩
set_option maxRecDepth 20000 in
theorem ok_X6_drawSteps (l : Launch) (D : Dd) (base : Nat) (M : Mm) (r1 : Nat) (hr1 : isE r1) (a2 : Int) (ha2 : i32 a2) (a3 : Int) (ha3 : i32 a3) (a4 : Int) (ha4 : i32 a4) : OkV l D TC 681 base yX6_drawSteps cX6_drawSteps 10 none 2 44 [.ref (base + 678), .ref (base + r1), .int (Ii a2), .int (Ii a3), .int (Ii a4)] M (f_X6_drawSteps r1 a2 a3 a4 M) := by
  refine metV (by decide +kernel) [(0, .ref (base + 678)), (1, .ref (base + r1)), (2, .int (Ii a2)), (3, .int (Ii a3)), (4, .int (Ii a4))] rfl (Nat.le_of_ble_eq_true rfl) (fun p e s m args below meth c X hrt hlk => ?_)
  have X : Cx p s m args c cX6_drawSteps D 10 RX6 := X
  unfold f_X6_drawSteps
  refine go_iconst (v := 0) X dX6_drawSteps_0 rfl ?_
  refine go_istore (i := 5) (L' := [(5, .int (Ii 0)), (0, .ref (base + 678)), (1, .ref (base + r1)), (2, .int (Ii a2)), (3, .int (Ii a3)), (4, .int (Ii a4))]) X dX6_drawSteps_1 (by decide) rfl ?_
  refine go_lt (fun J => ∀ (M1 : Mm), Go p l e (rmO 2 44) s m args below meth c D TC 681 base 10 0 0 (FinV D TC 681 base below args s) M1 124 [] [] (J M1)) (by
      intro M1
      exact go_vreturn X hrt hlk dX6_drawSteps_124
      )
      (fun J124_2 hJ124_2 => ?_)
  refine go_sub [1, 2, 3, 4, 5, 0] rfl ?_
  exact go_lp (fun (rc : Int × Mm → Rs) => ∀ (v3 : Int) (M4 : Mm), i32 v3 → Go p l e (rmO 2 44) s m args below meth c D TC 681 base 10 0 0 (FinV D TC 681 base below args s) M4 3 [(0, .ref (base + 678)), (1, .ref (base + r1)), (2, .int (Ii a2)), (3, .int (Ii a3)), (4, .int (Ii a4)), (5, .int (Ii v3))] [] (rc (v3, M4)))
      (by intro v3 M4 hv3; exact go_none)
      (by
      intro rc3_5 hrc3_5 v3 M4 hv3
      unfold f_X6_drawSteps_L3_51
      dsimp only
      refine go_iload X dX6_drawSteps_3 5 rfl ?_
      refine go_aload_n X dX6_drawSteps_5 rfl 1 rfl ?_
      refine go_geti (i := 4) X fc0 dX6_drawSteps_6 (nE hr1) (tE hr1) (Nat.le_of_ble_eq_true rfl) rfl lw442 rfl (fun v6 hv6 => ?_)
      refine go_icmp_ge (tgt := 124) X dX6_drawSteps_9 rfl hv3 hv6 (fun c7 => ?_) (fun c7 => ?_)
      · refine go_sub [] rfl ?_
        exact hJ124_2 M4
      · refine go_aload_n X dX6_drawSteps_12 rfl 1 rfl ?_
        refine go_iload X dX6_drawSteps_13 5 rfl ?_
        refine goI (fun H locs ls r ho hW hL => runV X (ok_X0_kindOf l D base M4 r1 hr1 v3 hv3 H.size r ho) dX6_drawSteps_15 lw443 lw296 lw297 lw33 ⟨lw36, cy_X0_kindOf, Nat.le_of_ble_eq_true rfl, Nat.le_of_ble_eq_true rfl⟩ rfl (nE hr1) (tE hr1) rfl rfl rfl rfl (Nat.le_of_ble_eq_true rfl) hW hL hk0) (fun v9 M8 hv9 => ?_)
        refine go_istore (i := 6) (L' := [(6, .int (Ii v9)), (0, .ref (base + 678)), (1, .ref (base + r1)), (2, .int (Ii a2)), (3, .int (Ii a3)), (4, .int (Ii a4)), (5, .int (Ii v3))]) X dX6_drawSteps_18 (by decide) rfl ?_
        refine go_aload_n X dX6_drawSteps_20 rfl 2 rfl ?_
        refine go_iload X dX6_drawSteps_21 6 rfl ?_
        refine goI (fun H locs ls r ho hW hL => runV X (ok_X0_numberOf l D base M8 r1 hr1 v3 hv3 H.size r ho) dX6_drawSteps_23 lw444 lw293 lw294 lw33 ⟨lw37, cy_X0_numberOf, Nat.le_of_ble_eq_true rfl, Nat.le_of_ble_eq_true rfl⟩ rfl (nE hr1) (tE hr1) rfl rfl rfl rfl (Nat.le_of_ble_eq_true rfl) hW hL hk0) (fun v11 M10 hv11 => ?_)
        refine go_istore (i := 7) (L' := [(7, .int (Ii v11)), (6, .int (Ii v9)), (0, .ref (base + 678)), (1, .ref (base + r1)), (2, .int (Ii a2)), (3, .int (Ii a3)), (4, .int (Ii a4)), (5, .int (Ii v3))]) X dX6_drawSteps_26 (by decide) rfl ?_
        refine go_iload X dX6_drawSteps_28 1 rfl ?_
        refine go_iconst (v := 2) X dX6_drawSteps_30 rfl ?_
        refine go_lt (fun J => ∀ (v12 : Int) (v13 : Int) (M14 : Mm), i32 v12 → i32 v13 → Go p l e (rmO 2 44) s m args below meth c D TC 681 base 10 0 0 (FinV D TC 681 base below args s) M14 53 [(0, .ref (base + 678)), (1, .ref (base + r1)), (2, .int (Ii a2)), (3, .int (Ii a3)), (4, .int (Ii a4)), (5, .int (Ii v12)), (6, .int (Ii v9)), (7, .int (Ii v11))] [.int (Ii v13)] (J v12 v13 M14)) (by
            intro v12 v13 M14 hv12 hv13
            refine go_istore (i := 8) (L' := [(8, .int (Ii v13)), (0, .ref (base + 678)), (1, .ref (base + r1)), (2, .int (Ii a2)), (3, .int (Ii a3)), (4, .int (Ii a4)), (5, .int (Ii v12)), (6, .int (Ii v9)), (7, .int (Ii v11))]) X dX6_drawSteps_53 (by decide) rfl ?_
            refine go_iload X dX6_drawSteps_55 7 rfl ?_
            refine go_iconst (v := 1) X dX6_drawSteps_57 rfl ?_
            refine go_lt (fun J => ∀ (v16 : Int) (v17 : Int) (M18 : Mm), i32 v16 → bo v17 → Go p l e (rmO 2 44) s m args below meth c D TC 681 base 10 0 0 (FinV D TC 681 base below args s) M18 78 [(0, .ref (base + 678)), (1, .ref (base + r1)), (2, .int (Ii a2)), (3, .int (Ii a3)), (4, .int (Ii a4)), (5, .int (Ii v16)), (7, .int (Ii v11)), (8, .int (Ii v13))] [.int (Ii v17)] (J v16 v17 M18)) (by
                intro v16 v17 M18 hv16 hv17
                refine go_istore (i := 9) (L' := [(9, .int (Ii v17)), (0, .ref (base + 678)), (1, .ref (base + r1)), (2, .int (Ii a2)), (3, .int (Ii a3)), (4, .int (Ii a4)), (5, .int (Ii v16)), (7, .int (Ii v11)), (8, .int (Ii v13))]) X dX6_drawSteps_78 (by decide) rfl ?_
                refine go_iload X dX6_drawSteps_80 0 rfl ?_
                refine go_lt (fun J => ∀ (v20 : Int) (M21 : Mm), i32 v20 → Go p l e (rmO 2 44) s m args below meth c D TC 681 base 10 0 0 (FinV D TC 681 base below args s) M21 118 [(0, .ref (base + 678)), (1, .ref (base + r1)), (2, .int (Ii a2)), (3, .int (Ii a3)), (4, .int (Ii a4)), (5, .int (Ii v20))] [] (J v20 M21)) (by
                    intro v20 M21 hv20
                    refine go_iinc (i := 5) (L' := fun v => [(5, .int (Ii v)), (0, .ref (base + 678)), (1, .ref (base + r1)), (2, .int (Ii a2)), (3, .int (Ii a3)), (4, .int (Ii a4))]) X dX6_drawSteps_118 hv20 kI_1 (j := 5) rfl (by decide) (fun _ => rfl) (fun v23 hv23 => ?_)
                    refine go_goto (tgt := 3) X dX6_drawSteps_121 rfl ?_
                    refine go_sub [1, 2, 3, 4, 5, 0] rfl ?_
                    exact hrc3_5 v23 M21 hv23
                    )
                    (fun J118_22 hJ118_22 => ?_)
                refine go_if_eq (tgt := 118) X dX6_drawSteps_82 rfl (bo_i32 hv17) (fun c24 => ?_) (fun c24 => ?_)
                · refine go_sub [1, 2, 3, 4, 5, 6] rfl ?_
                  exact hJ118_22 v16 M18 hv16
                · refine go_aload_n X dX6_drawSteps_85 rfl 1 rfl ?_
                  refine go_iload X dX6_drawSteps_86 7 rfl ?_
                  refine go_iconst (v := 0) X dX6_drawSteps_88 rfl ?_
                  refine goI (fun H locs ls r ho hW hL => runV X (ok_X6_isOfKind l D base M18 v11 hv11 0 kI_0 H.size r ho) dX6_drawSteps_89 lw447 lw448 lw449 lw450 ⟨lw438, cy_X6_isOfKind, Nat.le_of_ble_eq_true rfl, Nat.le_of_ble_eq_true rfl⟩ rfl tcn678 tc678 rfl rfl rfl rfl (Nat.le_of_ble_eq_true rfl) hW hL hk0) (fun v26 M25 hv26 => ?_)
                  refine go_lt (fun J => ∀ (v27 : Int) (M28 : Mm), i32 v27 → Go p l e (rmO 2 44) s m args below meth c D TC 681 base 10 0 0 (FinV D TC 681 base below args s) M28 105 [(0, .ref (base + 678)), (1, .ref (base + r1)), (2, .int (Ii a2)), (3, .int (Ii a3)), (4, .int (Ii a4)), (5, .int (Ii v27)), (7, .int (Ii v11)), (8, .int (Ii v13))] [] (J v27 M28)) (by
                      intro v27 M28 hv27
                      refine go_aload_n X dX6_drawSteps_105 rfl 0 rfl ?_
                      refine go_iload X dX6_drawSteps_106 4 rfl ?_
                      refine go_iload X dX6_drawSteps_108 7 rfl ?_
                      refine go_iload X dX6_drawSteps_110 6 rfl ?_
                      refine goI (fun H locs ls r ho hW hL => runS X (ok_X6_cornerOf l D base M28 v13 hv13 v11 hv11 H.size r ho) dX6_drawSteps_112 lw451 lw452 lw450 ⟨lw440, cy_X6_cornerOf, Nat.le_of_ble_eq_true rfl, Nat.le_of_ble_eq_true rfl⟩ rfl rfl (Nat.le_of_ble_eq_true rfl) hW hL hk0) (fun v31 M30 hv31 => ?_)
                      refine goV (fun H locs ls r ho hW hL => runV X (ok_X6_hang l D base M30 a4 ha4 v31 hv31 H.size r ho) dX6_drawSteps_115 lw453 lw454 lw455 lw450 ⟨lw441, cy_X6_hang, Nat.le_of_ble_eq_true rfl, Nat.le_of_ble_eq_true rfl⟩ rfl tcn678 tc678 rfl rfl rfl rfl (Nat.le_of_ble_eq_true rfl) hW hL hk0) (fun _ M32 => ?_)
                      refine go_sub [0, 1, 2, 3, 4, 5] rfl ?_
                      exact hJ118_22 v27 M32 hv27
                      )
                      (fun J105_29 hJ105_29 => ?_)
                  refine go_if_ne (tgt := 105) X dX6_drawSteps_92 rfl (bo_i32 hv26) (fun c33 => ?_) (fun c33 => ?_)
                  · refine go_sub [1, 2, 3, 4, 5, 6, 7, 8] rfl ?_
                    exact hJ105_29 v16 M25 hv16
                  · refine go_aload_n X dX6_drawSteps_95 rfl 1 rfl ?_
                    refine go_iload X dX6_drawSteps_96 7 rfl ?_
                    refine go_iconst (v := 1) X dX6_drawSteps_98 rfl ?_
                    refine goI (fun H locs ls r ho hW hL => runV X (ok_X6_isOfKind l D base M25 v11 hv11 1 kI_1 H.size r ho) dX6_drawSteps_99 lw447 lw448 lw449 lw450 ⟨lw438, cy_X6_isOfKind, Nat.le_of_ble_eq_true rfl, Nat.le_of_ble_eq_true rfl⟩ rfl tcn678 tc678 rfl rfl rfl rfl (Nat.le_of_ble_eq_true rfl) hW hL hk0) (fun v35 M34 hv35 => ?_)
                    refine go_if_eq (tgt := 118) X dX6_drawSteps_102 rfl (bo_i32 hv35) (fun c36 => ?_) (fun c36 => ?_)
                    · refine go_sub [1, 2, 3, 4, 5, 6] rfl ?_
                      exact hJ118_22 v16 M34 hv16
                    · refine go_sub [1, 2, 3, 4, 5, 6, 7, 8] rfl ?_
                      exact hJ105_29 v16 M34 hv16
                )
                (fun J78_19 hJ78_19 => ?_)
            refine go_lt (fun J => ∀ (v37 : Int) (M38 : Mm), i32 v37 → Go p l e (rmO 2 44) s m args below meth c D TC 681 base 10 0 0 (FinV D TC 681 base below args s) M38 73 [(0, .ref (base + 678)), (1, .ref (base + r1)), (2, .int (Ii a2)), (3, .int (Ii a3)), (4, .int (Ii a4)), (5, .int (Ii v37)), (7, .int (Ii v11)), (8, .int (Ii v13))] [] (J v37 M38)) (by
                intro v37 M38 hv37
                refine go_iconst (v := 1) X dX6_drawSteps_73 rfl ?_
                refine go_goto (tgt := 78) X dX6_drawSteps_74 rfl ?_
                exact hJ78_19 v37 1 M38 hv37 (Or.inr rfl)
                )
                (fun J73_39 hJ73_39 => ?_)
            refine go_icmp_eq (tgt := 73) X dX6_drawSteps_58 rfl hv9 kI_1 (fun c40 => ?_) (fun c40 => ?_)
            · refine go_sub [1, 2, 3, 4, 5, 6, 8, 0] rfl ?_
              exact hJ73_39 v12 M14 hv12
            · refine go_iload X dX6_drawSteps_61 7 rfl ?_
              refine go_iconst (v := 2) X dX6_drawSteps_63 rfl ?_
              refine go_lt (fun J => ∀ (v41 : Int) (M42 : Mm), i32 v41 → Go p l e (rmO 2 44) s m args below meth c D TC 681 base 10 0 0 (FinV D TC 681 base below args s) M42 77 [(0, .ref (base + 678)), (1, .ref (base + r1)), (2, .int (Ii a2)), (3, .int (Ii a3)), (4, .int (Ii a4)), (5, .int (Ii v41)), (7, .int (Ii v11)), (8, .int (Ii v13))] [] (J v41 M42)) (by
                  intro v41 M42 hv41
                  refine go_iconst (v := 0) X dX6_drawSteps_77 rfl ?_
                  exact hJ78_19 v41 0 M42 hv41 (Or.inl rfl)
                  )
                  (fun J77_43 hJ77_43 => ?_)
              refine go_icmp_ne (tgt := 77) X dX6_drawSteps_64 rfl hv9 kI_2 (fun c44 => ?_) (fun c44 => ?_)
              · refine go_sub [1, 2, 3, 4, 5, 6, 8, 0] rfl ?_
                exact hJ77_43 v12 M14 hv12
              · refine go_iload X dX6_drawSteps_67 0 rfl ?_
                refine go_iconst (v := (-1)) X dX6_drawSteps_69 rfl ?_
                refine go_icmp_eq (tgt := 77) X dX6_drawSteps_70 rfl hv13 kI_m1 (fun c45 => ?_) (fun c45 => ?_)
                · refine go_sub [1, 2, 3, 4, 5, 6, 8, 0] rfl ?_
                  exact hJ77_43 v12 M14 hv12
                · refine go_sub [1, 2, 3, 4, 5, 6, 8, 0] rfl ?_
                  exact hJ73_39 v12 M14 hv12
            )
            (fun J53_15 hJ53_15 => ?_)
        refine go_icmp_ne (tgt := 52) X dX6_drawSteps_31 rfl hv9 kI_2 (fun c46 => ?_) (fun c46 => ?_)
        · refine go_iconst (v := (-1)) X dX6_drawSteps_52 rfl ?_
          refine go_sub [2, 3, 4, 5, 6, 7, 1, 0] rfl ?_
          exact hJ53_15 v3 ((-1)) M10 hv3 kI_m1
        · refine go_aload_n X dX6_drawSteps_34 rfl 2 rfl ?_
          refine go_getc (i := 2) X fc6 dX6_drawSteps_35 tcn678 tc678 (Nat.le_of_ble_eq_true rfl) rfl lw437 rfl ?_
          refine go_iload_n X dX6_drawSteps_38 rfl 4 rfl ?_
          refine go_iload_n X dX6_drawSteps_39 rfl 5 rfl ?_
          refine go_aload_n X dX6_drawSteps_40 rfl 3 rfl ?_
          refine go_iload X dX6_drawSteps_41 7 rfl ?_
          refine goI (fun H locs ls r ho hW hL => runV X (ok_X0_childOf l D base M10 r1 hr1 v3 hv3 H.size r ho) dX6_drawSteps_43 lw445 lw302 lw303 lw33 ⟨lw38, cy_X0_childOf, Nat.le_of_ble_eq_true rfl, Nat.le_of_ble_eq_true rfl⟩ rfl (nE hr1) (tE hr1) rfl rfl rfl rfl (Nat.le_of_ble_eq_true rfl) hW hL hk0) (fun v48 M47 hv48 => ?_)
          refine goI (fun H locs ls r ho hW hL => runV X (ok_X10_childAt l D base M47 a2 ha2 a3 ha3 v48 hv48 H.size r ho) dX6_drawSteps_46 lw446 lw85 lw86 lw87 ⟨lw71, cy_X10_childAt, Nat.le_of_ble_eq_true rfl, Nat.le_of_ble_eq_true rfl⟩ rfl tcn22 tc22 rfl rfl rfl rfl (Nat.le_of_ble_eq_true rfl) hW hL hk0) (fun v50 M49 hv50 => ?_)
          refine go_goto (tgt := 53) X dX6_drawSteps_49 rfl ?_
          refine go_sub [2, 3, 4, 5, 6, 7, 1, 0] rfl ?_
          exact hJ53_15 v3 v50 M49 hv3 hv50
      )
      FU 0 M kI_0
def f_X6_drawEquations_L56_34 (a1 : Int) (a2 : Int) (a3 : Int) (v5 : Int) (v7 : Int) (v9 : Int) (J129_11 : Mm → Rs) (rc56_14 : Int × Mm → Rs) : Int × Mm → Rs := fun (v12, M13) =>
Lt (M13 25 0) fun v15 =>
if v15 ≤ v12 then (
J129_11 M13) else (
Cl (f_X1_rowOf v12 M13) fun v18 M17 =>
Lt (fun (v19 : Int) (M20 : Mm) => 
Lt (wr (v19 + 1)) fun v22 =>
rc56_14 (v22, M20)) fun J123_21 =>
if v18 < 0 then (
J123_21 v12 M17) else (
gd (¬ v18 < 0 ∧ isE v18.toNat) <|
Cl (f_X1_counts v18.toNat M17) fun v26 M25 =>
if v26 = 0 then (
J123_21 v12 M25) else (
Cl (f_X0_isFor v18.toNat v7 a2 v9 M25) fun v29 M28 =>
if v29 = 0 then (
J123_21 v12 M28) else (
Cl (f_X6_cornerOf a3 a2 M28) fun v32 M31 =>
Cl (f_X6_drawSteps v18.toNat a1 v5 v32 M31) fun _ M33 =>
J123_21 v12 M33))))
def f_X6_drawEquations (a1 : Int) (a2 : Int) (a3 : Int) (M : Mm) : Rs :=
Cl (f_X1_resolvedFor a1 a2 a3 M) fun v2 M1 =>
if ¬ v2 = ((-1)) then (
Cl (f_X1_hopsFor a1 a2 a3 M1) fun v5 M4 =>
Cl (f_X10_productionAt a1 v5 M4) fun v7 M6 =>
Cl (f_X10_targetAt a1 v5 a3 M6) fun v9 M8 =>
Lt (fun (M10 : Mm) => 
some (1, M10)) fun J129_11 =>
Lp (f_X6_drawEquations_L56_34 a1 a2 a3 v5 v7 v9 J129_11) FU (0, M8)) else (
some (0, M1))
theorem cy_X6_drawEquations : yX6_drawEquations.cls ≠ "java/lang/invoke/MethodHandle" ∧ yX6_drawEquations.cls ≠ "java/lang/invoke/VarHandle" ∧ (parseMethodDescriptor yX6_drawEquations.desc).map (fun d => d.parameters.length) = some 3 := ⟨by decide +kernel, by decide +kernel, by decide +kernel⟩
set_option maxRecDepth 20000 in
theorem ok_X6_drawEquations (l : Launch) (D : Dd) (base : Nat) (M : Mm) (a1 : Int) (ha1 : i32 a1) (a2 : Int) (ha2 : i32 a2) (a3 : Int) (ha3 : i32 a3) : OkI l D TC 681 base yX6_drawEquations cX6_drawEquations 9 (some .boolean) 3 73 [.ref (base + 678), .int (Ii a1), .int (Ii a2), .int (Ii a3)] M bo (f_X6_drawEquations a1 a2 a3 M) := by
  refine metI (by decide +kernel) [(0, .ref (base + 678)), (1, .int (Ii a1)), (2, .int (Ii a2)), (3, .int (Ii a3))] rfl (Nat.le_of_ble_eq_true rfl) (fun p e s m args below meth c X hrt hlk => ?_)
  have X : Cx p s m args c cX6_drawEquations D 9 RX6 := X
  unfold f_X6_drawEquations
  refine go_aload_n X dX6_drawEquations_0 rfl 0 rfl ?_
  refine go_getc (i := 1) X fc6 dX6_drawEquations_1 tcn678 tc678 (Nat.le_of_ble_eq_true rfl) rfl lw436 rfl ?_
  refine go_iload_n X dX6_drawEquations_4 rfl 1 rfl ?_
  refine go_iload_n X dX6_drawEquations_5 rfl 2 rfl ?_
  refine go_iload_n X dX6_drawEquations_6 rfl 3 rfl ?_
  refine goI (fun H locs ls r ho hW hL => runV X (ok_X1_resolvedFor l D base M a1 ha1 a2 ha2 a3 ha3 H.size r ho) dX6_drawEquations_7 lw458 lw203 lw204 lw105 ⟨lw133, cy_X1_resolvedFor, Nat.le_of_ble_eq_true rfl, Nat.le_of_ble_eq_true rfl⟩ rfl tcn25 tc25 rfl rfl rfl rfl (Nat.le_of_ble_eq_true rfl) hW hL hk0) (fun v2 M1 hv2 => ?_)
  refine go_iconst (v := (-1)) X dX6_drawEquations_10 rfl ?_
  refine go_icmp_ne (tgt := 16) X dX6_drawEquations_11 rfl hv2 kI_m1 (fun c3 => ?_) (fun c3 => ?_)
  · refine go_aload_n X dX6_drawEquations_16 rfl 0 rfl ?_
    refine go_getc (i := 1) X fc6 dX6_drawEquations_17 tcn678 tc678 (Nat.le_of_ble_eq_true rfl) rfl lw436 rfl ?_
    refine go_iload_n X dX6_drawEquations_20 rfl 1 rfl ?_
    refine go_iload_n X dX6_drawEquations_21 rfl 2 rfl ?_
    refine go_iload_n X dX6_drawEquations_22 rfl 3 rfl ?_
    refine goI (fun H locs ls r ho hW hL => runV X (ok_X1_hopsFor l D base M1 a1 ha1 a2 ha2 a3 ha3 H.size r ho) dX6_drawEquations_23 lw459 lw206 lw207 lw105 ⟨lw134, cy_X1_hopsFor, Nat.le_of_ble_eq_true rfl, Nat.le_of_ble_eq_true rfl⟩ rfl tcn25 tc25 rfl rfl rfl rfl (Nat.le_of_ble_eq_true rfl) hW hL hk0) (fun v5 M4 hv5 => ?_)
    refine go_istore (i := 4) (L' := [(4, .int (Ii v5)), (0, .ref (base + 678)), (1, .int (Ii a1)), (2, .int (Ii a2)), (3, .int (Ii a3))]) X dX6_drawEquations_26 (by decide) rfl ?_
    refine go_aload_n X dX6_drawEquations_28 rfl 1 rfl ?_
    refine go_getc (i := 2) X fc6 dX6_drawEquations_29 tcn678 tc678 (Nat.le_of_ble_eq_true rfl) rfl lw437 rfl ?_
    refine go_iload_n X dX6_drawEquations_32 rfl 2 rfl ?_
    refine go_iload X dX6_drawEquations_33 0 rfl ?_
    refine goI (fun H locs ls r ho hW hL => runV X (ok_X10_productionAt l D base M4 a1 ha1 v5 hv5 H.size r ho) dX6_drawEquations_35 lw460 lw109 lw110 lw87 ⟨lw106, cy_X10_productionAt, Nat.le_of_ble_eq_true rfl, Nat.le_of_ble_eq_true rfl⟩ rfl tcn22 tc22 rfl rfl rfl rfl (Nat.le_of_ble_eq_true rfl) hW hL hk0) (fun v7 M6 hv7 => ?_)
    refine go_istore (i := 5) (L' := [(5, .int (Ii v7)), (4, .int (Ii v5)), (0, .ref (base + 678)), (1, .int (Ii a1)), (2, .int (Ii a2)), (3, .int (Ii a3))]) X dX6_drawEquations_38 (by decide) rfl ?_
    refine go_aload_n X dX6_drawEquations_40 rfl 2 rfl ?_
    refine go_getc (i := 2) X fc6 dX6_drawEquations_41 tcn678 tc678 (Nat.le_of_ble_eq_true rfl) rfl lw437 rfl ?_
    refine go_iload_n X dX6_drawEquations_44 rfl 3 rfl ?_
    refine go_iload X dX6_drawEquations_45 1 rfl ?_
    refine go_iload_n X dX6_drawEquations_47 rfl 5 rfl ?_
    refine goI (fun H locs ls r ho hW hL => runV X (ok_X10_targetAt l D base M6 a1 ha1 v5 hv5 a3 ha3 H.size r ho) dX6_drawEquations_48 lw461 lw112 lw113 lw87 ⟨lw107, cy_X10_targetAt, Nat.le_of_ble_eq_true rfl, Nat.le_of_ble_eq_true rfl⟩ rfl tcn22 tc22 rfl rfl rfl rfl (Nat.le_of_ble_eq_true rfl) hW hL hk0) (fun v9 M8 hv9 => ?_)
    refine go_istore (i := 6) (L' := [(6, .int (Ii v9)), (5, .int (Ii v7)), (4, .int (Ii v5)), (0, .ref (base + 678)), (1, .int (Ii a1)), (2, .int (Ii a2)), (3, .int (Ii a3))]) X dX6_drawEquations_51 (by decide) rfl ?_
    refine go_iconst (v := 0) X dX6_drawEquations_53 rfl ?_
    refine go_istore (i := 7) (L' := [(7, .int (Ii 0)), (6, .int (Ii v9)), (5, .int (Ii v7)), (4, .int (Ii v5)), (0, .ref (base + 678)), (1, .int (Ii a1)), (2, .int (Ii a2)), (3, .int (Ii a3))]) X dX6_drawEquations_54 (by decide) rfl ?_
    refine go_lt (fun J => ∀ (M10 : Mm), Go p l e (rmO 3 73) s m args below meth c D TC 681 base 9 0 0 (FinI D TC 681 base below args s bo) M10 129 [] [] (J M10)) (by
        intro M10
        refine go_iconst (v := 1) X dX6_drawEquations_129 rfl ?_
        exact go_zreturn X hrt hlk dX6_drawEquations_130 (Or.inr rfl) (Or.inr rfl)
        )
        (fun J129_11 hJ129_11 => ?_)
    refine go_sub [4, 5, 6, 7, 3, 2, 1, 0] rfl ?_
    exact go_lp (fun (rc : Int × Mm → Rs) => ∀ (v12 : Int) (M13 : Mm), i32 v12 → Go p l e (rmO 3 73) s m args below meth c D TC 681 base 9 0 0 (FinI D TC 681 base below args s bo) M13 56 [(0, .ref (base + 678)), (1, .int (Ii a1)), (2, .int (Ii a2)), (3, .int (Ii a3)), (4, .int (Ii v5)), (5, .int (Ii v7)), (6, .int (Ii v9)), (7, .int (Ii v12))] [] (rc (v12, M13)))
        (by intro v12 M13 hv12; exact go_none)
        (by
        intro rc56_14 hrc56_14 v12 M13 hv12
        unfold f_X6_drawEquations_L56_34
        dsimp only
        refine go_iload X dX6_drawEquations_56 7 rfl ?_
        refine go_aload_n X dX6_drawEquations_58 rfl 0 rfl ?_
        refine go_getc (i := 1) X fc6 dX6_drawEquations_59 tcn678 tc678 (Nat.le_of_ble_eq_true rfl) rfl lw436 rfl ?_
        refine go_geti (i := 0) X fc1 dX6_drawEquations_62 tcn25 tc25 (Nat.le_of_ble_eq_true rfl) rfl lw457 rfl (fun v15 hv15 => ?_)
        refine go_icmp_ge (tgt := 129) X dX6_drawEquations_65 rfl hv12 hv15 (fun c16 => ?_) (fun c16 => ?_)
        · refine go_sub [] rfl ?_
          exact hJ129_11 M13
        · refine go_aload_n X dX6_drawEquations_68 rfl 0 rfl ?_
          refine go_getc (i := 1) X fc6 dX6_drawEquations_69 tcn678 tc678 (Nat.le_of_ble_eq_true rfl) rfl lw436 rfl ?_
          refine go_iload X dX6_drawEquations_72 7 rfl ?_
          refine goR (fun H locs ls r ho hW hL => runV X (ok_X1_rowOf l D base M13 v12 hv12 H.size r ho) dX6_drawEquations_74 lw462 lw121 lw122 lw105 ⟨lw63, cy_X1_rowOf, Nat.le_of_ble_eq_true rfl, Nat.le_of_ble_eq_true rfl⟩ rfl tcn25 tc25 rfl rfl rfl rfl (Nat.le_of_ble_eq_true rfl) hW hL hk0) (fun v18 M17 => ?_)
          refine go_astoreQ (i := 8) (L' := [(8, rv base v18), (0, .ref (base + 678)), (1, .int (Ii a1)), (2, .int (Ii a2)), (3, .int (Ii a3)), (4, .int (Ii v5)), (5, .int (Ii v7)), (6, .int (Ii v9)), (7, .int (Ii v12))]) X dX6_drawEquations_77 (by decide) rfl ?_
          refine go_aloadQ X dX6_drawEquations_79 0 rfl ?_
          refine go_lt (fun J => ∀ (v19 : Int) (M20 : Mm), i32 v19 → Go p l e (rmO 3 73) s m args below meth c D TC 681 base 9 0 0 (FinI D TC 681 base below args s bo) M20 123 [(0, .ref (base + 678)), (1, .int (Ii a1)), (2, .int (Ii a2)), (3, .int (Ii a3)), (4, .int (Ii v5)), (5, .int (Ii v7)), (6, .int (Ii v9)), (7, .int (Ii v19))] [] (J v19 M20)) (by
              intro v19 M20 hv19
              refine go_iinc (i := 7) (L' := fun v => [(7, .int (Ii v)), (0, .ref (base + 678)), (1, .int (Ii a1)), (2, .int (Ii a2)), (3, .int (Ii a3)), (4, .int (Ii v5)), (5, .int (Ii v7)), (6, .int (Ii v9))]) X dX6_drawEquations_123 hv19 kI_1 (j := 7) rfl (by decide) (fun _ => rfl) (fun v22 hv22 => ?_)
              refine go_goto (tgt := 56) X dX6_drawEquations_126 rfl ?_
              refine go_sub [1, 2, 3, 4, 5, 6, 7, 0] rfl ?_
              exact hrc56_14 v22 M20 hv22
              )
              (fun J123_21 hJ123_21 => ?_)
          refine go_ifnull (tgt := 123) X dX6_drawEquations_81 rfl (fun c23 => ?_) (fun c23 => ?_)
          · refine go_sub [1, 2, 3, 4, 5, 6, 7, 8] rfl ?_
            exact hJ123_21 v12 M17 hv12
          · refine go_aload_n X dX6_drawEquations_84 rfl 1 rfl ?_
            refine go_getc (i := 1) X fc6 dX6_drawEquations_85 tcn678 tc678 (Nat.le_of_ble_eq_true rfl) rfl lw436 rfl ?_
            refine go_gd (fun g24 => ?_)
            refine go_aloadP X dX6_drawEquations_88 0 rfl g24.1 ?_
            refine goI (fun H locs ls r ho hW hL => runV X (ok_X1_counts l D base M17 v18.toNat g24.2 H.size r ho) dX6_drawEquations_90 lw463 lw124 lw125 lw105 ⟨lw64, cy_X1_counts, Nat.le_of_ble_eq_true rfl, Nat.le_of_ble_eq_true rfl⟩ rfl tcn25 tc25 rfl rfl rfl rfl (Nat.le_of_ble_eq_true rfl) hW hL hk0) (fun v26 M25 hv26 => ?_)
            refine go_if_eq (tgt := 123) X dX6_drawEquations_93 rfl (bo_i32 hv26) (fun c27 => ?_) (fun c27 => ?_)
            · refine go_sub [1, 2, 3, 4, 5, 6, 7, 8] rfl ?_
              exact hJ123_21 v12 M25 hv12
            · refine go_aloadP X dX6_drawEquations_96 0 rfl g24.1 ?_
              refine go_iload X dX6_drawEquations_98 6 rfl ?_
              refine go_iload_n X dX6_drawEquations_100 rfl 3 rfl ?_
              refine go_iload X dX6_drawEquations_101 7 rfl ?_
              refine goI (fun H locs ls r ho hW hL => runV X (ok_X0_isFor l D base M25 v18.toNat g24.2 v7 hv7 a2 ha2 v9 hv9 H.size r ho) dX6_drawEquations_103 lw464 lw465 lw466 lw33 ⟨lw35, cy_X0_isFor, Nat.le_of_ble_eq_true rfl, Nat.le_of_ble_eq_true rfl⟩ rfl (nE g24.2) (tE g24.2) rfl rfl rfl rfl (Nat.le_of_ble_eq_true rfl) hW hL hk0) (fun v29 M28 hv29 => ?_)
              refine go_if_eq (tgt := 123) X dX6_drawEquations_106 rfl (bo_i32 hv29) (fun c30 => ?_) (fun c30 => ?_)
              · refine go_sub [1, 2, 3, 4, 5, 6, 7, 8] rfl ?_
                exact hJ123_21 v12 M28 hv12
              · refine go_aload_n X dX6_drawEquations_109 rfl 1 rfl ?_
                refine go_aloadP X dX6_drawEquations_110 0 rfl g24.1 ?_
                refine go_iload_n X dX6_drawEquations_112 rfl 2 rfl ?_
                refine go_iload X dX6_drawEquations_113 5 rfl ?_
                refine go_iload_n X dX6_drawEquations_115 rfl 4 rfl ?_
                refine go_iload_n X dX6_drawEquations_116 rfl 3 rfl ?_
                refine goI (fun H locs ls r ho hW hL => runS X (ok_X6_cornerOf l D base M28 a3 ha3 a2 ha2 H.size r ho) dX6_drawEquations_117 lw451 lw452 lw450 ⟨lw440, cy_X6_cornerOf, Nat.le_of_ble_eq_true rfl, Nat.le_of_ble_eq_true rfl⟩ rfl rfl (Nat.le_of_ble_eq_true rfl) hW hL hk0) (fun v32 M31 hv32 => ?_)
                refine goV (fun H locs ls r ho hW hL => runV X (ok_X6_drawSteps l D base M31 v18.toNat g24.2 a1 ha1 v5 hv5 v32 hv32 H.size r ho) dX6_drawEquations_120 lw467 lw468 lw469 lw450 ⟨lw456, cy_X6_drawSteps, Nat.le_of_ble_eq_true rfl, Nat.le_of_ble_eq_true rfl⟩ rfl tcn678 tc678 rfl rfl rfl rfl (Nat.le_of_ble_eq_true rfl) hW hL hk0) (fun _ M33 => ?_)
                refine go_sub [1, 2, 3, 4, 5, 6, 7, 8] rfl ?_
                exact hJ123_21 v12 M33 hv12
        )
        FU 0 M8 kI_0
  · refine go_iconst (v := 0) X dX6_drawEquations_14 rfl ?_
    exact go_zreturn X hrt hlk dX6_drawEquations_15 (Or.inl rfl) (Or.inl rfl)
def f_X5_childCountOf (a1 : Int) (M : Mm) : Rs :=
Lt (fun (v1 : Int) (M2 : Mm) => 
some (v1, M2)) fun J20_3 =>
Lt (fun (M4 : Mm) => 
J20_3 0 M4) fun J19_5 =>
if a1 < 0 then (
J19_5 M) else (
if 10 ≤ a1 then (
J19_5 M) else (
gd (0 ≤ a1 ∧ a1 < 10) <|
Lt (M 5 a1.toNat) fun v8 =>
J20_3 v8 M))
theorem cy_X5_childCountOf : yX5_childCountOf.cls ≠ "java/lang/invoke/MethodHandle" ∧ yX5_childCountOf.cls ≠ "java/lang/invoke/VarHandle" ∧ (parseMethodDescriptor yX5_childCountOf.desc).map (fun d => d.parameters.length) = some 1 := ⟨by decide +kernel, by decide +kernel, by decide +kernel⟩
set_option maxRecDepth 20000 in
theorem ok_X5_childCountOf (l : Launch) (D : Dd) (base : Nat) (M : Mm) (a1 : Int) (ha1 : i32 a1) : OkI l D TC 681 base yX5_childCountOf cX5_childCountOf 2 (some .int) 0 0 [.ref (base + 1), .int (Ii a1)] M i32 (f_X5_childCountOf a1 M) := by
  refine metI (by decide +kernel) [(0, .ref (base + 1)), (1, .int (Ii a1))] rfl (Nat.le_of_ble_eq_true rfl) (fun p e s m args below meth c X hrt hlk => ?_)
  have X : Cx p s m args c cX5_childCountOf D 2 RX5 := X
  unfold f_X5_childCountOf
  refine go_iload_n X dX5_childCountOf_0 rfl 1 rfl ?_
  refine go_lt (fun J => ∀ (v1 : Int) (M2 : Mm), i32 v1 → Go p l e (rmO 0 0) s m args below meth c D TC 681 base 2 0 0 (FinI D TC 681 base below args s i32) M2 20 [] [.int (Ii v1)] (J v1 M2)) (by
      intro v1 M2 hv1
      exact go_ireturn X hrt hlk dX5_childCountOf_20 hv1
      )
      (fun J20_3 hJ20_3 => ?_)
  refine go_lt (fun J => ∀ (M4 : Mm), Go p l e (rmO 0 0) s m args below meth c D TC 681 base 2 0 0 (FinI D TC 681 base below args s i32) M4 19 [] [] (J M4)) (by
      intro M4
      refine go_iconst (v := 0) X dX5_childCountOf_19 rfl ?_
      exact hJ20_3 0 M4 kI_0
      )
      (fun J19_5 hJ19_5 => ?_)
  refine go_if_lt (tgt := 19) X dX5_childCountOf_1 rfl ha1 (fun c6 => ?_) (fun c6 => ?_)
  · refine go_sub [] rfl ?_
    exact hJ19_5 M
  · refine go_iload_n X dX5_childCountOf_4 rfl 1 rfl ?_
    refine go_bipush (v := 10) X dX5_childCountOf_5 (by decide) ?_
    refine go_icmp_ge (tgt := 19) X dX5_childCountOf_7 rfl ha1 kI_10 (fun c7 => ?_) (fun c7 => ?_)
    · refine go_sub [] rfl ?_
      exact hJ19_5 M
    · refine go_aload_n X dX5_childCountOf_10 rfl 0 rfl ?_
      refine go_getc (i := 5) X fc5 dX5_childCountOf_11 tcn1 tc1 (Nat.le_of_ble_eq_true rfl) rfl lw68 rfl ?_
      refine go_iload_n X dX5_childCountOf_14 rfl 1 rfl ?_
      refine go_iaload X dX5_childCountOf_15 tcn5 tc5 ha1 (fun v8 hv8 => ?_)
      refine go_goto (tgt := 20) X dX5_childCountOf_16 rfl ?_
      refine go_sub [] rfl ?_
      exact hJ20_3 v8 M hv8
def f_X5_childHeadOf (a1 : Int) (a2 : Int) (M : Mm) : Rs :=
Lt (fun (v1 : Int) (M2 : Mm) => 
Lt (fun (v4 : Int) (M5 : Mm) => 
some (v4, M5)) fun J39_6 =>
if v1 = 0 then (
J39_6 ((-1)) M2) else (
Lt (wr (a1 * 3)) fun v8 =>
Lt (wr (v8 + a2)) fun v9 =>
Cl (f_X11_entryOf 6 v9 M2) fun v11 M10 =>
J39_6 v11 M10)) fun J18_3 =>
Lt (fun (M12 : Mm) => 
J18_3 0 M12) fun J17_13 =>
if a2 < 0 then (
J17_13 M) else (
Cl (f_X5_childCountOf a1 M) fun v16 M15 =>
if v16 ≤ a2 then (
J17_13 M15) else (
J18_3 1 M15))
theorem cy_X5_childHeadOf : yX5_childHeadOf.cls ≠ "java/lang/invoke/MethodHandle" ∧ yX5_childHeadOf.cls ≠ "java/lang/invoke/VarHandle" ∧ (parseMethodDescriptor yX5_childHeadOf.desc).map (fun d => d.parameters.length) = some 2 := ⟨by decide +kernel, by decide +kernel, by decide +kernel⟩
set_option maxRecDepth 20000 in
theorem ok_X5_childHeadOf (l : Launch) (D : Dd) (base : Nat) (M : Mm) (a1 : Int) (ha1 : i32 a1) (a2 : Int) (ha2 : i32 a2) : OkI l D TC 681 base yX5_childHeadOf cX5_childHeadOf 4 (some .int) 1 21 [.ref (base + 1), .int (Ii a1), .int (Ii a2)] M i32 (f_X5_childHeadOf a1 a2 M) := by
  refine metI (by decide +kernel) [(0, .ref (base + 1)), (1, .int (Ii a1)), (2, .int (Ii a2))] rfl (Nat.le_of_ble_eq_true rfl) (fun p e s m args below meth c X hrt hlk => ?_)
  have X : Cx p s m args c cX5_childHeadOf D 4 RX5 := X
  unfold f_X5_childHeadOf
  refine go_iload_n X dX5_childHeadOf_0 rfl 2 rfl ?_
  refine go_lt (fun J => ∀ (v1 : Int) (M2 : Mm), bo v1 → Go p l e (rmO 1 21) s m args below meth c D TC 681 base 4 0 0 (FinI D TC 681 base below args s i32) M2 18 [(0, .ref (base + 1)), (1, .int (Ii a1)), (2, .int (Ii a2))] [.int (Ii v1)] (J v1 M2)) (by
      intro v1 M2 hv1
      refine go_istore_n (i := 3) (L' := [(3, .int (Ii v1)), (0, .ref (base + 1)), (1, .int (Ii a1)), (2, .int (Ii a2))]) X dX5_childHeadOf_18 rfl (by decide) rfl ?_
      refine go_iload_n X dX5_childHeadOf_19 rfl 0 rfl ?_
      refine go_lt (fun J => ∀ (v4 : Int) (M5 : Mm), i32 v4 → Go p l e (rmO 1 21) s m args below meth c D TC 681 base 4 0 0 (FinI D TC 681 base below args s i32) M5 39 [] [.int (Ii v4)] (J v4 M5)) (by
          intro v4 M5 hv4
          exact go_ireturn X hrt hlk dX5_childHeadOf_39 hv4
          )
          (fun J39_6 hJ39_6 => ?_)
      refine go_if_eq (tgt := 38) X dX5_childHeadOf_20 rfl (bo_i32 hv1) (fun c7 => ?_) (fun c7 => ?_)
      · refine go_iconst (v := (-1)) X dX5_childHeadOf_38 rfl ?_
        refine go_sub [] rfl ?_
        exact hJ39_6 ((-1)) M2 kI_m1
      · refine go_aload_n X dX5_childHeadOf_23 rfl 1 rfl ?_
        refine go_getc (i := 6) X fc5 dX5_childHeadOf_24 tcn1 tc1 (Nat.le_of_ble_eq_true rfl) rfl lw396 rfl ?_
        refine go_iload_n X dX5_childHeadOf_27 rfl 2 rfl ?_
        refine go_iconst (v := 3) X dX5_childHeadOf_28 rfl ?_
        refine go_imul X dX5_childHeadOf_29 ha1 kI_3 (fun v8 hv8 => ?_)
        refine go_iload_n X dX5_childHeadOf_30 rfl 3 rfl ?_
        refine go_iadd X dX5_childHeadOf_31 hv8 ha2 (fun v9 hv9 => ?_)
        refine goI (fun H locs ls r ho hW hL => runSN X (ok_X11_entryOf l D base M2 6 isAC_6 v9 hv9 H.size r ho) dX5_childHeadOf_32 nl10 lw20 lw19 ⟨lw13, cy_X11_entryOf, Nat.le_of_ble_eq_true rfl, Nat.le_of_ble_eq_true rfl⟩ rfl rfl (Nat.le_of_ble_eq_true rfl) hW hL hk0) (fun v11 M10 hv11 => ?_)
        refine go_goto (tgt := 39) X dX5_childHeadOf_35 rfl ?_
        refine go_sub [] rfl ?_
        exact hJ39_6 v11 M10 hv11
      )
      (fun J18_3 hJ18_3 => ?_)
  refine go_lt (fun J => ∀ (M12 : Mm), Go p l e (rmO 1 21) s m args below meth c D TC 681 base 4 0 0 (FinI D TC 681 base below args s i32) M12 17 [(0, .ref (base + 1)), (1, .int (Ii a1)), (2, .int (Ii a2))] [] (J M12)) (by
      intro M12
      refine go_iconst (v := 0) X dX5_childHeadOf_17 rfl ?_
      exact hJ18_3 0 M12 (Or.inl rfl)
      )
      (fun J17_13 hJ17_13 => ?_)
  refine go_if_lt (tgt := 17) X dX5_childHeadOf_1 rfl ha2 (fun c14 => ?_) (fun c14 => ?_)
  · exact hJ17_13 M
  · refine go_iload_n X dX5_childHeadOf_4 rfl 2 rfl ?_
    refine go_aload_n X dX5_childHeadOf_5 rfl 0 rfl ?_
    refine go_iload_n X dX5_childHeadOf_6 rfl 1 rfl ?_
    refine goI (fun H locs ls r ho hW hL => runV X (ok_X5_childCountOf l D base M a1 ha1 H.size r ho) dX5_childHeadOf_7 lw422 lw78 lw79 lw80 ⟨lw67, cy_X5_childCountOf, Nat.le_of_ble_eq_true rfl, Nat.le_of_ble_eq_true rfl⟩ rfl tcn1 tc1 rfl rfl rfl rfl (Nat.le_of_ble_eq_true rfl) hW hL hk0) (fun v16 M15 hv16 => ?_)
    refine go_icmp_ge (tgt := 17) X dX5_childHeadOf_10 rfl ha2 hv16 (fun c17 => ?_) (fun c17 => ?_)
    · exact hJ17_13 M15
    · refine go_iconst (v := 1) X dX5_childHeadOf_13 rfl ?_
      refine go_goto (tgt := 18) X dX5_childHeadOf_14 rfl ?_
      exact hJ18_3 1 M15 (Or.inr rfl)
def f_X6_hasBit (a1 : Int) (a2 : Int) (M : Mm) : Rs :=
Lt (fun (v1 : Int) (M2 : Mm) => 
some (v1, M2)) fun J23_3 =>
Lt (fun (M4 : Mm) => 
J23_3 0 M4) fun J22_5 =>
if a2 < 0 then (
J22_5 M) else (
if 24 ≤ a2 then (
J22_5 M) else (
Lt (jshr a1 a2) fun v8 =>
Lt (jand v8 1) fun v9 =>
if v9 = 0 then (
J22_5 M) else (
J23_3 1 M)))
theorem cy_X6_hasBit : yX6_hasBit.cls ≠ "java/lang/invoke/MethodHandle" ∧ yX6_hasBit.cls ≠ "java/lang/invoke/VarHandle" ∧ (parseMethodDescriptor yX6_hasBit.desc).map (fun d => d.parameters.length) = some 2 := ⟨by decide +kernel, by decide +kernel, by decide +kernel⟩
set_option maxRecDepth 20000 in
theorem ok_X6_hasBit (l : Launch) (D : Dd) (base : Nat) (M : Mm) (a1 : Int) (ha1 : i32 a1) (a2 : Int) (ha2 : i32 a2) : OkI l D TC 681 base yX6_hasBit cX6_hasBit 2 (some .boolean) 0 0 [.int (Ii a1), .int (Ii a2)] M bo (f_X6_hasBit a1 a2 M) := by
  refine metI (by decide +kernel) [(0, .int (Ii a1)), (1, .int (Ii a2))] rfl (Nat.le_of_ble_eq_true rfl) (fun p e s m args below meth c X hrt hlk => ?_)
  have X : Cx p s m args c cX6_hasBit D 2 RX6 := X
  unfold f_X6_hasBit
  refine go_iload_n X dX6_hasBit_0 rfl 1 rfl ?_
  refine go_lt (fun J => ∀ (v1 : Int) (M2 : Mm), bo v1 → Go p l e (rmO 0 0) s m args below meth c D TC 681 base 2 0 0 (FinI D TC 681 base below args s bo) M2 23 [] [.int (Ii v1)] (J v1 M2)) (by
      intro v1 M2 hv1
      exact go_zreturn X hrt hlk dX6_hasBit_23 hv1 hv1
      )
      (fun J23_3 hJ23_3 => ?_)
  refine go_lt (fun J => ∀ (M4 : Mm), Go p l e (rmO 0 0) s m args below meth c D TC 681 base 2 0 0 (FinI D TC 681 base below args s bo) M4 22 [] [] (J M4)) (by
      intro M4
      refine go_iconst (v := 0) X dX6_hasBit_22 rfl ?_
      exact hJ23_3 0 M4 (Or.inl rfl)
      )
      (fun J22_5 hJ22_5 => ?_)
  refine go_if_lt (tgt := 22) X dX6_hasBit_1 rfl ha2 (fun c6 => ?_) (fun c6 => ?_)
  · refine go_sub [] rfl ?_
    exact hJ22_5 M
  · refine go_iload_n X dX6_hasBit_4 rfl 1 rfl ?_
    refine go_bipush (v := 24) X dX6_hasBit_5 (by decide) ?_
    refine go_icmp_ge (tgt := 22) X dX6_hasBit_7 rfl ha2 kI_24 (fun c7 => ?_) (fun c7 => ?_)
    · refine go_sub [] rfl ?_
      exact hJ22_5 M
    · refine go_iload_n X dX6_hasBit_10 rfl 0 rfl ?_
      refine go_iload_n X dX6_hasBit_11 rfl 1 rfl ?_
      refine go_ishr X dX6_hasBit_12 ha1 ha2 (fun v8 hv8 => ?_)
      refine go_iconst (v := 1) X dX6_hasBit_13 rfl ?_
      refine go_iand X dX6_hasBit_14 hv8 kI_1 (fun v9 hv9 => ?_)
      refine go_if_eq (tgt := 22) X dX6_hasBit_15 rfl hv9 (fun c10 => ?_) (fun c10 => ?_)
      · refine go_sub [] rfl ?_
        exact hJ22_5 M
      · refine go_iconst (v := 1) X dX6_hasBit_18 rfl ?_
        refine go_goto (tgt := 23) X dX6_hasBit_19 rfl ?_
        refine go_sub [] rfl ?_
        exact hJ23_3 1 M (Or.inr rfl)
def f_X6_drawChild_L76_32 (a3 : Int) (v2 : Int) (J111_10 : Mm → Rs) (v17 : Int) (rc76_20 : Int × Mm → Rs) : Int × Mm → Rs := fun (v18, M19) =>
if 6 ≤ v18 then (
J111_10 M19) else (
Cl (f_X6_hasBit v17 v18 M19) fun v23 M22 =>
Lt (fun (v24 : Int) (M25 : Mm) => 
Lt (wr (v24 + 1)) fun v27 =>
rc76_20 (v27, M25)) fun J105_26 =>
if v23 = 0 then (
J105_26 v18 M22) else (
Cl (f_X6_cornerOf a3 v18 M22) fun v30 M29 =>
Cl (f_X6_hang v2 v30 M29) fun _ M31 =>
J105_26 v18 M31))
def f_X6_drawChild (a1 : Int) (a2 : Int) (a3 : Int) (M : Mm) : Rs :=
Cl (f_X6_cornerOf a3 a2 M) fun v2 M1 =>
Cl (f_X6_isOfKind a2 1 M1) fun v4 M3 =>
Lt (fun (M5 : Mm) => 
Cl (f_X6_isOfKind a2 0 M5) fun v8 M7 =>
Lt (fun (M9 : Mm) => 
some (0, M9)) fun J111_10 =>
if v8 = 0 then (
J111_10 M7) else (
Cl (f_X5_childHeadOf a1 a3 M7) fun v13 M12 =>
Lt (wr (v13 * 6)) fun v14 =>
Lt (wr (v14 + a2)) fun v15 =>
Cl (f_X11_entryOf 680 v15 M12) fun v17 M16 =>
Lp (f_X6_drawChild_L76_32 a3 v2 J111_10 v17) FU (0, M16))) fun J37_6 =>
if v4 = 0 then (
J37_6 M3) else (
Cl (f_X6_drawEquations a1 a2 a3 M3) fun v35 M34 =>
if ¬ v35 = 0 then (
J37_6 M34) else (
Cl (f_X6_cornerOf ((-1)) a2 M34) fun v38 M37 =>
Cl (f_X6_hang v2 v38 M37) fun _ M39 =>
J37_6 M39))
theorem cy_X6_drawChild : yX6_drawChild.cls ≠ "java/lang/invoke/MethodHandle" ∧ yX6_drawChild.cls ≠ "java/lang/invoke/VarHandle" ∧ (parseMethodDescriptor yX6_drawChild.desc).map (fun d => d.parameters.length) = some 3 := ⟨by decide +kernel, by decide +kernel, by decide +kernel⟩
set_option maxRecDepth 20000 in
theorem ok_X6_drawChild (l : Launch) (D : Dd) (base : Nat) (M : Mm) (a1 : Int) (ha1 : i32 a1) (a2 : Int) (ha2 : i32 a2) (a3 : Int) (ha3 : i32 a3) : OkV l D TC 681 base yX6_drawChild cX6_drawChild 8 none 4 101 [.ref (base + 678), .int (Ii a1), .int (Ii a2), .int (Ii a3)] M (f_X6_drawChild a1 a2 a3 M) := by
  refine metV (by decide +kernel) [(0, .ref (base + 678)), (1, .int (Ii a1)), (2, .int (Ii a2)), (3, .int (Ii a3))] rfl (Nat.le_of_ble_eq_true rfl) (fun p e s m args below meth c X hrt hlk => ?_)
  have X : Cx p s m args c cX6_drawChild D 8 RX6 := X
  unfold f_X6_drawChild
  refine go_iload_n X dX6_drawChild_0 rfl 3 rfl ?_
  refine go_iload_n X dX6_drawChild_1 rfl 2 rfl ?_
  refine goI (fun H locs ls r ho hW hL => runS X (ok_X6_cornerOf l D base M a3 ha3 a2 ha2 H.size r ho) dX6_drawChild_2 lw451 lw452 lw450 ⟨lw440, cy_X6_cornerOf, Nat.le_of_ble_eq_true rfl, Nat.le_of_ble_eq_true rfl⟩ rfl rfl (Nat.le_of_ble_eq_true rfl) hW hL hk0) (fun v2 M1 hv2 => ?_)
  refine go_istore (i := 4) (L' := [(4, .int (Ii v2)), (0, .ref (base + 678)), (1, .int (Ii a1)), (2, .int (Ii a2)), (3, .int (Ii a3))]) X dX6_drawChild_5 (by decide) rfl ?_
  refine go_aload_n X dX6_drawChild_7 rfl 1 rfl ?_
  refine go_iload_n X dX6_drawChild_8 rfl 3 rfl ?_
  refine go_iconst (v := 1) X dX6_drawChild_9 rfl ?_
  refine goI (fun H locs ls r ho hW hL => runV X (ok_X6_isOfKind l D base M1 a2 ha2 1 kI_1 H.size r ho) dX6_drawChild_10 lw447 lw448 lw449 lw450 ⟨lw438, cy_X6_isOfKind, Nat.le_of_ble_eq_true rfl, Nat.le_of_ble_eq_true rfl⟩ rfl tcn678 tc678 rfl rfl rfl rfl (Nat.le_of_ble_eq_true rfl) hW hL hk0) (fun v4 M3 hv4 => ?_)
  refine go_lt (fun J => ∀ (M5 : Mm), Go p l e (rmO 4 101) s m args below meth c D TC 681 base 8 0 0 (FinV D TC 681 base below args s) M5 37 [(0, .ref (base + 678)), (1, .int (Ii a1)), (2, .int (Ii a2)), (3, .int (Ii a3)), (4, .int (Ii v2))] [] (J M5)) (by
      intro M5
      refine go_aload_n X dX6_drawChild_37 rfl 0 rfl ?_
      refine go_iload_n X dX6_drawChild_38 rfl 2 rfl ?_
      refine go_iconst (v := 0) X dX6_drawChild_39 rfl ?_
      refine goI (fun H locs ls r ho hW hL => runV X (ok_X6_isOfKind l D base M5 a2 ha2 0 kI_0 H.size r ho) dX6_drawChild_40 lw447 lw448 lw449 lw450 ⟨lw438, cy_X6_isOfKind, Nat.le_of_ble_eq_true rfl, Nat.le_of_ble_eq_true rfl⟩ rfl tcn678 tc678 rfl rfl rfl rfl (Nat.le_of_ble_eq_true rfl) hW hL hk0) (fun v8 M7 hv8 => ?_)
      refine go_lt (fun J => ∀ (M9 : Mm), Go p l e (rmO 4 101) s m args below meth c D TC 681 base 8 0 0 (FinV D TC 681 base below args s) M9 111 [] [] (J M9)) (by
          intro M9
          exact go_vreturn X hrt hlk dX6_drawChild_111
          )
          (fun J111_10 hJ111_10 => ?_)
      refine go_if_eq (tgt := 111) X dX6_drawChild_43 rfl (bo_i32 hv8) (fun c11 => ?_) (fun c11 => ?_)
      · refine go_sub [] rfl ?_
        exact hJ111_10 M7
      · refine go_aload_n X dX6_drawChild_46 rfl 0 rfl ?_
        refine go_getc (i := 0) X fc6 dX6_drawChild_47 tcn678 tc678 (Nat.le_of_ble_eq_true rfl) rfl lw435 rfl ?_
        refine go_iload_n X dX6_drawChild_50 rfl 1 rfl ?_
        refine go_iload_n X dX6_drawChild_51 rfl 3 rfl ?_
        refine goI (fun H locs ls r ho hW hL => runV X (ok_X5_childHeadOf l D base M7 a1 ha1 a3 ha3 H.size r ho) dX6_drawChild_52 lw475 lw429 lw430 lw80 ⟨lw421, cy_X5_childHeadOf, Nat.le_of_ble_eq_true rfl, Nat.le_of_ble_eq_true rfl⟩ rfl tcn1 tc1 rfl rfl rfl rfl (Nat.le_of_ble_eq_true rfl) hW hL hk0) (fun v13 M12 hv13 => ?_)
        refine go_istore (i := 5) (L' := [(5, .int (Ii v13)), (0, .ref (base + 678)), (1, .int (Ii a1)), (2, .int (Ii a2)), (3, .int (Ii a3)), (4, .int (Ii v2))]) X dX6_drawChild_55 (by decide) rfl ?_
        refine go_aload_n X dX6_drawChild_57 rfl 1 rfl ?_
        refine go_getc (i := 4) X fc6 dX6_drawChild_58 tcn678 tc678 (Nat.le_of_ble_eq_true rfl) rfl lw434 rfl ?_
        refine go_iload X dX6_drawChild_61 0 rfl ?_
        refine go_bipush (v := 6) X dX6_drawChild_63 (by decide) ?_
        refine go_imul X dX6_drawChild_65 hv13 kI_6 (fun v14 hv14 => ?_)
        refine go_iload_n X dX6_drawChild_66 rfl 3 rfl ?_
        refine go_iadd X dX6_drawChild_67 hv14 ha2 (fun v15 hv15 => ?_)
        refine goI (fun H locs ls r ho hW hL => runSN X (ok_X11_entryOf l D base M12 680 isAC_680 v15 hv15 H.size r ho) dX6_drawChild_68 nl8 lw20 lw19 ⟨lw13, cy_X11_entryOf, Nat.le_of_ble_eq_true rfl, Nat.le_of_ble_eq_true rfl⟩ rfl rfl (Nat.le_of_ble_eq_true rfl) hW hL hk0) (fun v17 M16 hv17 => ?_)
        refine go_istore (i := 6) (L' := [(6, .int (Ii v17)), (5, .int (Ii v13)), (0, .ref (base + 678)), (1, .int (Ii a1)), (2, .int (Ii a2)), (3, .int (Ii a3)), (4, .int (Ii v2))]) X dX6_drawChild_71 (by decide) rfl ?_
        refine go_iconst (v := 0) X dX6_drawChild_73 rfl ?_
        refine go_istore (i := 7) (L' := [(7, .int (Ii 0)), (6, .int (Ii v17)), (5, .int (Ii v13)), (0, .ref (base + 678)), (1, .int (Ii a1)), (2, .int (Ii a2)), (3, .int (Ii a3)), (4, .int (Ii v2))]) X dX6_drawChild_74 (by decide) rfl ?_
        refine go_sub [3, 6, 7, 1, 0] rfl ?_
        exact go_lp (fun (rc : Int × Mm → Rs) => ∀ (v18 : Int) (M19 : Mm), i32 v18 → Go p l e (rmO 4 101) s m args below meth c D TC 681 base 8 0 0 (FinV D TC 681 base below args s) M19 76 [(0, .ref (base + 678)), (3, .int (Ii a3)), (4, .int (Ii v2)), (6, .int (Ii v17)), (7, .int (Ii v18))] [] (rc (v18, M19)))
            (by intro v18 M19 hv18; exact go_none)
            (by
            intro rc76_20 hrc76_20 v18 M19 hv18
            unfold f_X6_drawChild_L76_32
            dsimp only
            refine go_iload X dX6_drawChild_76 4 rfl ?_
            refine go_bipush (v := 6) X dX6_drawChild_78 (by decide) ?_
            refine go_icmp_ge (tgt := 111) X dX6_drawChild_80 rfl hv18 kI_6 (fun c21 => ?_) (fun c21 => ?_)
            · refine go_sub [] rfl ?_
              exact hJ111_10 M19
            · refine go_iload X dX6_drawChild_83 3 rfl ?_
              refine go_iload X dX6_drawChild_85 4 rfl ?_
              refine goI (fun H locs ls r ho hW hL => runS X (ok_X6_hasBit l D base M19 v17 hv17 v18 hv18 H.size r ho) dX6_drawChild_87 lw476 lw477 lw450 ⟨lw471, cy_X6_hasBit, Nat.le_of_ble_eq_true rfl, Nat.le_of_ble_eq_true rfl⟩ rfl rfl (Nat.le_of_ble_eq_true rfl) hW hL hk0) (fun v23 M22 hv23 => ?_)
              refine go_lt (fun J => ∀ (v24 : Int) (M25 : Mm), i32 v24 → Go p l e (rmO 4 101) s m args below meth c D TC 681 base 8 0 0 (FinV D TC 681 base below args s) M25 105 [(0, .ref (base + 678)), (3, .int (Ii a3)), (4, .int (Ii v2)), (6, .int (Ii v17)), (7, .int (Ii v24))] [] (J v24 M25)) (by
                  intro v24 M25 hv24
                  refine go_iinc (i := 7) (L' := fun v => [(7, .int (Ii v)), (0, .ref (base + 678)), (3, .int (Ii a3)), (4, .int (Ii v2)), (6, .int (Ii v17))]) X dX6_drawChild_105 hv24 kI_1 (j := 4) rfl (by decide) (fun _ => rfl) (fun v27 hv27 => ?_)
                  refine go_goto (tgt := 76) X dX6_drawChild_108 rfl ?_
                  refine go_sub [1, 2, 3, 4, 0] rfl ?_
                  exact hrc76_20 v27 M25 hv27
                  )
                  (fun J105_26 hJ105_26 => ?_)
              refine go_if_eq (tgt := 105) X dX6_drawChild_90 rfl (bo_i32 hv23) (fun c28 => ?_) (fun c28 => ?_)
              · exact hJ105_26 v18 M22 hv18
              · refine go_aload_n X dX6_drawChild_93 rfl 0 rfl ?_
                refine go_iload X dX6_drawChild_94 2 rfl ?_
                refine go_iload_n X dX6_drawChild_96 rfl 1 rfl ?_
                refine go_iload X dX6_drawChild_97 4 rfl ?_
                refine goI (fun H locs ls r ho hW hL => runS X (ok_X6_cornerOf l D base M22 a3 ha3 v18 hv18 H.size r ho) dX6_drawChild_99 lw451 lw452 lw450 ⟨lw440, cy_X6_cornerOf, Nat.le_of_ble_eq_true rfl, Nat.le_of_ble_eq_true rfl⟩ rfl rfl (Nat.le_of_ble_eq_true rfl) hW hL hk0) (fun v30 M29 hv30 => ?_)
                refine goV (fun H locs ls r ho hW hL => runV X (ok_X6_hang l D base M29 v2 hv2 v30 hv30 H.size r ho) dX6_drawChild_102 lw453 lw454 lw455 lw450 ⟨lw441, cy_X6_hang, Nat.le_of_ble_eq_true rfl, Nat.le_of_ble_eq_true rfl⟩ rfl tcn678 tc678 rfl rfl rfl rfl (Nat.le_of_ble_eq_true rfl) hW hL hk0) (fun _ M31 => ?_)
                exact hJ105_26 v18 M31 hv18
            )
            FU 0 M16 kI_0
      )
      (fun J37_6 hJ37_6 => ?_)
  refine go_if_eq (tgt := 37) X dX6_drawChild_13 rfl (bo_i32 hv4) (fun c33 => ?_) (fun c33 => ?_)
  · refine go_sub [1, 2, 3, 4, 0] rfl ?_
    exact hJ37_6 M3
  · refine go_aload_n X dX6_drawChild_16 rfl 1 rfl ?_
    refine go_iload_n X dX6_drawChild_17 rfl 2 rfl ?_
    refine go_iload_n X dX6_drawChild_18 rfl 3 rfl ?_
    refine go_iload_n X dX6_drawChild_19 rfl 4 rfl ?_
    refine goI (fun H locs ls r ho hW hL => runV X (ok_X6_drawEquations l D base M3 a1 ha1 a2 ha2 a3 ha3 H.size r ho) dX6_drawChild_20 lw472 lw473 lw474 lw450 ⟨lw470, cy_X6_drawEquations, Nat.le_of_ble_eq_true rfl, Nat.le_of_ble_eq_true rfl⟩ rfl tcn678 tc678 rfl rfl rfl rfl (Nat.le_of_ble_eq_true rfl) hW hL hk0) (fun v35 M34 hv35 => ?_)
    refine go_if_ne (tgt := 37) X dX6_drawChild_23 rfl (bo_i32 hv35) (fun c36 => ?_) (fun c36 => ?_)
    · refine go_sub [1, 2, 3, 4, 0] rfl ?_
      exact hJ37_6 M34
    · refine go_aload_n X dX6_drawChild_26 rfl 1 rfl ?_
      refine go_iload X dX6_drawChild_27 0 rfl ?_
      refine go_iconst (v := (-1)) X dX6_drawChild_29 rfl ?_
      refine go_iload_n X dX6_drawChild_30 rfl 3 rfl ?_
      refine goI (fun H locs ls r ho hW hL => runS X (ok_X6_cornerOf l D base M34 ((-1)) kI_m1 a2 ha2 H.size r ho) dX6_drawChild_31 lw451 lw452 lw450 ⟨lw440, cy_X6_cornerOf, Nat.le_of_ble_eq_true rfl, Nat.le_of_ble_eq_true rfl⟩ rfl rfl (Nat.le_of_ble_eq_true rfl) hW hL hk0) (fun v38 M37 hv38 => ?_)
      refine goV (fun H locs ls r ho hW hL => runV X (ok_X6_hang l D base M37 v2 hv2 v38 hv38 H.size r ho) dX6_drawChild_34 lw453 lw454 lw455 lw450 ⟨lw441, cy_X6_hang, Nat.le_of_ble_eq_true rfl, Nat.le_of_ble_eq_true rfl⟩ rfl tcn678 tc678 rfl rfl rfl rfl (Nat.le_of_ble_eq_true rfl) hW hL hk0) (fun _ M39 => ?_)
      refine go_sub [1, 2, 3, 4, 0] rfl ?_
      exact hJ37_6 M39
def f_X6_draw_L76_35 (J128_12 : Int → Mm → Rs) (rc76_17 : Int × Int × Mm → Rs) : Int × Int × Mm → Rs := fun (v14, v15, M16) =>
if 24 ≤ v15 then (
J128_12 v14 M16) else (
Cl (f_X11_entryOf 679 v15 M16) fun v20 M19 =>
Cl (f_X6_hasBit v20 v14 M19) fun v22 M21 =>
Lt (fun (v23 : Int) (v24 : Int) (M25 : Mm) => 
Lt (wr (v24 + 1)) fun v27 =>
rc76_17 (v23, v27, M25)) fun J122_26 =>
if v22 = 0 then (
J122_26 v14 v15 M21) else (
Cl (f_X11_entryOf 679 v15 M21) fun v30 M29 =>
Cl (f_X11_entryOf 679 v14 M29) fun v32 M31 =>
Lt (jor v30 v32) fun v33 =>
Cl (f_X11_setEntry 679 v15 v33 M31) fun _ M34 =>
J122_26 v14 v15 M34))
def f_X6_draw_L68_36 (J134_5 : Mm → Rs) (rc68_8 : Int × Mm → Rs) : Int × Mm → Rs := fun (v6, M7) =>
if 24 ≤ v6 then (
J134_5 M7) else (
Lt (fun (v10 : Int) (M11 : Mm) => 
Lt (wr (v10 + 1)) fun v13 =>
rc68_8 (v13, M11)) fun J128_12 =>
Lp (f_X6_draw_L76_35 J128_12) FU (v6, 0, M7))
def f_X6_draw_L35_59 (a1 : Int) (J60_48 : Int → Mm → Rs) (rc35_53 : Int × Int × Mm → Rs) : Int × Int × Mm → Rs := fun (v50, v51, M52) =>
Cl (f_X5_childCountOf a1 M52) fun v55 M54 =>
if v55 ≤ v51 then (
J60_48 v50 M54) else (
Cl (f_X6_drawChild a1 v50 v51 M54) fun _ M57 =>
Lt (wr (v51 + 1)) fun v58 =>
rc35_53 (v50, v58, M57))
def f_X6_draw_L10_63 (a1 : Int) (J66_3 : Mm → Rs) (rc10_39 : Int × Mm → Rs) : Int × Mm → Rs := fun (v37, M38) =>
if 6 ≤ v37 then (
J66_3 M38) else (
Cl (f_X6_isOfKind v37 0 M38) fun v42 M41 =>
Lt (fun (v43 : Int) (M44 : Mm) => 
Lt (fun (v46 : Int) (M47 : Mm) => 
Lt (wr (v46 + 1)) fun v49 =>
rc10_39 (v49, M47)) fun J60_48 =>
Lp (f_X6_draw_L35_59 a1 J60_48) FU (v43, 0, M44)) fun J33_45 =>
if v42 = 0 then (
J33_45 v37 M41) else (
Cl (f_X6_drawEquations a1 v37 ((-1)) M41) fun v62 M61 =>
J33_45 v37 M61))
def f_X6_draw (a1 : Int) (M : Mm) : Rs :=
Cl (f_X11_fillRow 679 0 M) fun _ M1 =>
Lt (fun (M2 : Mm) => 
Lt (fun (M4 : Mm) => 
some (0, M4)) fun J134_5 =>
Lp (f_X6_draw_L68_36 J134_5) FU (0, M2)) fun J66_3 =>
Lp (f_X6_draw_L10_63 a1 J66_3) FU (0, M1)
theorem cy_X6_draw : yX6_draw.cls ≠ "java/lang/invoke/MethodHandle" ∧ yX6_draw.cls ≠ "java/lang/invoke/VarHandle" ∧ (parseMethodDescriptor yX6_draw.desc).map (fun d => d.parameters.length) = some 1 := ⟨by decide +kernel, by decide +kernel, by decide +kernel⟩
set_option maxRecDepth 20000 in
theorem ok_X6_draw (l : Launch) (D : Dd) (base : Nat) (M : Mm) (a1 : Int) (ha1 : i32 a1) : OkV l D TC 681 base yX6_draw cX6_draw 4 none 5 128 [.ref (base + 678), .int (Ii a1)] M (f_X6_draw a1 M) := by
  refine metV (by decide +kernel) [(0, .ref (base + 678)), (1, .int (Ii a1))] rfl (Nat.le_of_ble_eq_true rfl) (fun p e s m args below meth c X hrt hlk => ?_)
  have X : Cx p s m args c cX6_draw D 4 RX6 := X
  unfold f_X6_draw
  refine go_aload_n X dX6_draw_0 rfl 0 rfl ?_
  refine go_getc (i := 3) X fc6 dX6_draw_1 tcn678 tc678 (Nat.le_of_ble_eq_true rfl) rfl lw433 rfl ?_
  refine go_iconst (v := 0) X dX6_draw_4 rfl ?_
  refine goV (fun H locs ls r ho hW hL => runSN X (ok_X11_fillRow l D base M 679 isAC_679 0 kI_0 H.size r ho) dX6_draw_5 nl7 lw93 lw19 ⟨lw66, cy_X11_fillRow, Nat.le_of_ble_eq_true rfl, Nat.le_of_ble_eq_true rfl⟩ rfl rfl (Nat.le_of_ble_eq_true rfl) hW hL hk0) (fun _ M1 => ?_)
  refine go_iconst (v := 0) X dX6_draw_8 rfl ?_
  refine go_istore_n (i := 2) (L' := [(2, .int (Ii 0)), (0, .ref (base + 678)), (1, .int (Ii a1))]) X dX6_draw_9 rfl (by decide) rfl ?_
  refine go_lt (fun J => ∀ (M2 : Mm), Go p l e (rmO 5 128) s m args below meth c D TC 681 base 4 0 0 (FinV D TC 681 base below args s) M2 66 [(0, .ref (base + 678))] [] (J M2)) (by
      intro M2
      refine go_iconst (v := 0) X dX6_draw_66 rfl ?_
      refine go_istore_n (i := 2) (L' := [(2, .int (Ii 0)), (0, .ref (base + 678))]) X dX6_draw_67 rfl (by decide) rfl ?_
      refine go_lt (fun J => ∀ (M4 : Mm), Go p l e (rmO 5 128) s m args below meth c D TC 681 base 4 0 0 (FinV D TC 681 base below args s) M4 134 [] [] (J M4)) (by
          intro M4
          exact go_vreturn X hrt hlk dX6_draw_134
          )
          (fun J134_5 hJ134_5 => ?_)
      refine go_sub [1, 0] rfl ?_
      exact go_lp (fun (rc : Int × Mm → Rs) => ∀ (v6 : Int) (M7 : Mm), i32 v6 → Go p l e (rmO 5 128) s m args below meth c D TC 681 base 4 0 0 (FinV D TC 681 base below args s) M7 68 [(0, .ref (base + 678)), (2, .int (Ii v6))] [] (rc (v6, M7)))
          (by intro v6 M7 hv6; exact go_none)
          (by
          intro rc68_8 hrc68_8 v6 M7 hv6
          unfold f_X6_draw_L68_36
          dsimp only
          refine go_iload_n X dX6_draw_68 rfl 1 rfl ?_
          refine go_bipush (v := 24) X dX6_draw_69 (by decide) ?_
          refine go_icmp_ge (tgt := 134) X dX6_draw_71 rfl hv6 kI_24 (fun c9 => ?_) (fun c9 => ?_)
          · refine go_sub [] rfl ?_
            exact hJ134_5 M7
          · refine go_iconst (v := 0) X dX6_draw_74 rfl ?_
            refine go_istore_n (i := 3) (L' := [(3, .int (Ii 0)), (0, .ref (base + 678)), (2, .int (Ii v6))]) X dX6_draw_75 rfl (by decide) rfl ?_
            refine go_lt (fun J => ∀ (v10 : Int) (M11 : Mm), i32 v10 → Go p l e (rmO 5 128) s m args below meth c D TC 681 base 4 0 0 (FinV D TC 681 base below args s) M11 128 [(0, .ref (base + 678)), (2, .int (Ii v10))] [] (J v10 M11)) (by
                intro v10 M11 hv10
                refine go_iinc (i := 2) (L' := fun v => [(2, .int (Ii v)), (0, .ref (base + 678))]) X dX6_draw_128 hv10 kI_1 (j := 1) rfl (by decide) (fun _ => rfl) (fun v13 hv13 => ?_)
                refine go_goto (tgt := 68) X dX6_draw_131 rfl ?_
                refine go_sub [1, 0] rfl ?_
                exact hrc68_8 v13 M11 hv13
                )
                (fun J128_12 hJ128_12 => ?_)
            refine go_sub [1, 2, 0] rfl ?_
            exact go_lp (fun (rc : Int × Int × Mm → Rs) => ∀ (v14 : Int) (v15 : Int) (M16 : Mm), i32 v14 → i32 v15 → Go p l e (rmO 5 128) s m args below meth c D TC 681 base 4 0 0 (FinV D TC 681 base below args s) M16 76 [(0, .ref (base + 678)), (2, .int (Ii v14)), (3, .int (Ii v15))] [] (rc (v14, v15, M16)))
                (by intro v14 v15 M16 hv14 hv15; exact go_none)
                (by
                intro rc76_17 hrc76_17 v14 v15 M16 hv14 hv15
                unfold f_X6_draw_L76_35
                dsimp only
                refine go_iload_n X dX6_draw_76 rfl 2 rfl ?_
                refine go_bipush (v := 24) X dX6_draw_77 (by decide) ?_
                refine go_icmp_ge (tgt := 128) X dX6_draw_79 rfl hv15 kI_24 (fun c18 => ?_) (fun c18 => ?_)
                · refine go_sub [0, 1] rfl ?_
                  exact hJ128_12 v14 M16 hv14
                · refine go_aload_n X dX6_draw_82 rfl 0 rfl ?_
                  refine go_getc (i := 3) X fc6 dX6_draw_83 tcn678 tc678 (Nat.le_of_ble_eq_true rfl) rfl lw433 rfl ?_
                  refine go_iload_n X dX6_draw_86 rfl 2 rfl ?_
                  refine goI (fun H locs ls r ho hW hL => runSN X (ok_X11_entryOf l D base M16 679 isAC_679 v15 hv15 H.size r ho) dX6_draw_87 nl8 lw20 lw19 ⟨lw13, cy_X11_entryOf, Nat.le_of_ble_eq_true rfl, Nat.le_of_ble_eq_true rfl⟩ rfl rfl (Nat.le_of_ble_eq_true rfl) hW hL hk0) (fun v20 M19 hv20 => ?_)
                  refine go_iload_n X dX6_draw_90 rfl 1 rfl ?_
                  refine goI (fun H locs ls r ho hW hL => runS X (ok_X6_hasBit l D base M19 v20 hv20 v14 hv14 H.size r ho) dX6_draw_91 lw476 lw477 lw450 ⟨lw471, cy_X6_hasBit, Nat.le_of_ble_eq_true rfl, Nat.le_of_ble_eq_true rfl⟩ rfl rfl (Nat.le_of_ble_eq_true rfl) hW hL hk0) (fun v22 M21 hv22 => ?_)
                  refine go_lt (fun J => ∀ (v23 : Int) (v24 : Int) (M25 : Mm), i32 v23 → i32 v24 → Go p l e (rmO 5 128) s m args below meth c D TC 681 base 4 0 0 (FinV D TC 681 base below args s) M25 122 [(0, .ref (base + 678)), (2, .int (Ii v23)), (3, .int (Ii v24))] [] (J v23 v24 M25)) (by
                      intro v23 v24 M25 hv23 hv24
                      refine go_iinc (i := 3) (L' := fun v => [(3, .int (Ii v)), (0, .ref (base + 678)), (2, .int (Ii v23))]) X dX6_draw_122 hv24 kI_1 (j := 2) rfl (by decide) (fun _ => rfl) (fun v27 hv27 => ?_)
                      refine go_goto (tgt := 76) X dX6_draw_125 rfl ?_
                      refine go_sub [1, 2, 0] rfl ?_
                      exact hrc76_17 v23 v27 M25 hv23 hv27
                      )
                      (fun J122_26 hJ122_26 => ?_)
                  refine go_if_eq (tgt := 122) X dX6_draw_94 rfl (bo_i32 hv22) (fun c28 => ?_) (fun c28 => ?_)
                  · exact hJ122_26 v14 v15 M21 hv14 hv15
                  · refine go_aload_n X dX6_draw_97 rfl 0 rfl ?_
                    refine go_getc (i := 3) X fc6 dX6_draw_98 tcn678 tc678 (Nat.le_of_ble_eq_true rfl) rfl lw433 rfl ?_
                    refine go_iload_n X dX6_draw_101 rfl 2 rfl ?_
                    refine go_aload_n X dX6_draw_102 rfl 0 rfl ?_
                    refine go_getc (i := 3) X fc6 dX6_draw_103 tcn678 tc678 (Nat.le_of_ble_eq_true rfl) rfl lw433 rfl ?_
                    refine go_iload_n X dX6_draw_106 rfl 2 rfl ?_
                    refine goI (fun H locs ls r ho hW hL => runSN X (ok_X11_entryOf l D base M21 679 isAC_679 v15 hv15 H.size r ho) dX6_draw_107 nl8 lw20 lw19 ⟨lw13, cy_X11_entryOf, Nat.le_of_ble_eq_true rfl, Nat.le_of_ble_eq_true rfl⟩ rfl rfl (Nat.le_of_ble_eq_true rfl) hW hL hk0) (fun v30 M29 hv30 => ?_)
                    refine go_aload_n X dX6_draw_110 rfl 0 rfl ?_
                    refine go_getc (i := 3) X fc6 dX6_draw_111 tcn678 tc678 (Nat.le_of_ble_eq_true rfl) rfl lw433 rfl ?_
                    refine go_iload_n X dX6_draw_114 rfl 1 rfl ?_
                    refine goI (fun H locs ls r ho hW hL => runSN X (ok_X11_entryOf l D base M29 679 isAC_679 v14 hv14 H.size r ho) dX6_draw_115 nl8 lw20 lw19 ⟨lw13, cy_X11_entryOf, Nat.le_of_ble_eq_true rfl, Nat.le_of_ble_eq_true rfl⟩ rfl rfl (Nat.le_of_ble_eq_true rfl) hW hL hk0) (fun v32 M31 hv32 => ?_)
                    refine go_ior X dX6_draw_118 hv30 hv32 (fun v33 hv33 => ?_)
                    refine goV (fun H locs ls r ho hW hL => runSN X (ok_X11_setEntry l D base M31 679 isAC_679 v15 hv15 v33 hv33 H.size r ho) dX6_draw_119 nl9 lw21 lw19 ⟨lw14, cy_X11_setEntry, Nat.le_of_ble_eq_true rfl, Nat.le_of_ble_eq_true rfl⟩ rfl rfl (Nat.le_of_ble_eq_true rfl) hW hL hk0) (fun _ M34 => ?_)
                    exact hJ122_26 v14 v15 M34 hv14 hv15
                )
                FU v6 0 M7 hv6 kI_0
          )
          FU 0 M2 kI_0
      )
      (fun J66_3 hJ66_3 => ?_)
  refine go_sub [1, 2, 0] rfl ?_
  exact go_lp (fun (rc : Int × Mm → Rs) => ∀ (v37 : Int) (M38 : Mm), i32 v37 → Go p l e (rmO 5 128) s m args below meth c D TC 681 base 4 0 0 (FinV D TC 681 base below args s) M38 10 [(0, .ref (base + 678)), (1, .int (Ii a1)), (2, .int (Ii v37))] [] (rc (v37, M38)))
      (by intro v37 M38 hv37; exact go_none)
      (by
      intro rc10_39 hrc10_39 v37 M38 hv37
      unfold f_X6_draw_L10_63
      dsimp only
      refine go_iload_n X dX6_draw_10 rfl 2 rfl ?_
      refine go_bipush (v := 6) X dX6_draw_11 (by decide) ?_
      refine go_icmp_ge (tgt := 66) X dX6_draw_13 rfl hv37 kI_6 (fun c40 => ?_) (fun c40 => ?_)
      · refine go_sub [0] rfl ?_
        exact hJ66_3 M38
      · refine go_aload_n X dX6_draw_16 rfl 0 rfl ?_
        refine go_iload_n X dX6_draw_17 rfl 2 rfl ?_
        refine go_iconst (v := 0) X dX6_draw_18 rfl ?_
        refine goI (fun H locs ls r ho hW hL => runV X (ok_X6_isOfKind l D base M38 v37 hv37 0 kI_0 H.size r ho) dX6_draw_19 lw447 lw448 lw449 lw450 ⟨lw438, cy_X6_isOfKind, Nat.le_of_ble_eq_true rfl, Nat.le_of_ble_eq_true rfl⟩ rfl tcn678 tc678 rfl rfl rfl rfl (Nat.le_of_ble_eq_true rfl) hW hL hk0) (fun v42 M41 hv42 => ?_)
        refine go_lt (fun J => ∀ (v43 : Int) (M44 : Mm), i32 v43 → Go p l e (rmO 5 128) s m args below meth c D TC 681 base 4 0 0 (FinV D TC 681 base below args s) M44 33 [(0, .ref (base + 678)), (1, .int (Ii a1)), (2, .int (Ii v43))] [] (J v43 M44)) (by
            intro v43 M44 hv43
            refine go_iconst (v := 0) X dX6_draw_33 rfl ?_
            refine go_istore_n (i := 3) (L' := [(3, .int (Ii 0)), (0, .ref (base + 678)), (1, .int (Ii a1)), (2, .int (Ii v43))]) X dX6_draw_34 rfl (by decide) rfl ?_
            refine go_lt (fun J => ∀ (v46 : Int) (M47 : Mm), i32 v46 → Go p l e (rmO 5 128) s m args below meth c D TC 681 base 4 0 0 (FinV D TC 681 base below args s) M47 60 [(0, .ref (base + 678)), (1, .int (Ii a1)), (2, .int (Ii v46))] [] (J v46 M47)) (by
                intro v46 M47 hv46
                refine go_iinc (i := 2) (L' := fun v => [(2, .int (Ii v)), (0, .ref (base + 678)), (1, .int (Ii a1))]) X dX6_draw_60 hv46 kI_1 (j := 2) rfl (by decide) (fun _ => rfl) (fun v49 hv49 => ?_)
                refine go_goto (tgt := 10) X dX6_draw_63 rfl ?_
                refine go_sub [1, 2, 0] rfl ?_
                exact hrc10_39 v49 M47 hv49
                )
                (fun J60_48 hJ60_48 => ?_)
            refine go_sub [1, 2, 3, 0] rfl ?_
            exact go_lp (fun (rc : Int × Int × Mm → Rs) => ∀ (v50 : Int) (v51 : Int) (M52 : Mm), i32 v50 → i32 v51 → Go p l e (rmO 5 128) s m args below meth c D TC 681 base 4 0 0 (FinV D TC 681 base below args s) M52 35 [(0, .ref (base + 678)), (1, .int (Ii a1)), (2, .int (Ii v50)), (3, .int (Ii v51))] [] (rc (v50, v51, M52)))
                (by intro v50 v51 M52 hv50 hv51; exact go_none)
                (by
                intro rc35_53 hrc35_53 v50 v51 M52 hv50 hv51
                unfold f_X6_draw_L35_59
                dsimp only
                refine go_iload_n X dX6_draw_35 rfl 3 rfl ?_
                refine go_aload_n X dX6_draw_36 rfl 0 rfl ?_
                refine go_getc (i := 0) X fc6 dX6_draw_37 tcn678 tc678 (Nat.le_of_ble_eq_true rfl) rfl lw435 rfl ?_
                refine go_iload_n X dX6_draw_40 rfl 1 rfl ?_
                refine goI (fun H locs ls r ho hW hL => runV X (ok_X5_childCountOf l D base M52 a1 ha1 H.size r ho) dX6_draw_41 lw479 lw78 lw79 lw80 ⟨lw67, cy_X5_childCountOf, Nat.le_of_ble_eq_true rfl, Nat.le_of_ble_eq_true rfl⟩ rfl tcn1 tc1 rfl rfl rfl rfl (Nat.le_of_ble_eq_true rfl) hW hL hk0) (fun v55 M54 hv55 => ?_)
                refine go_icmp_ge (tgt := 60) X dX6_draw_44 rfl hv51 hv55 (fun c56 => ?_) (fun c56 => ?_)
                · refine go_sub [0, 1, 2] rfl ?_
                  exact hJ60_48 v50 M54 hv50
                · refine go_aload_n X dX6_draw_47 rfl 0 rfl ?_
                  refine go_iload_n X dX6_draw_48 rfl 1 rfl ?_
                  refine go_iload_n X dX6_draw_49 rfl 2 rfl ?_
                  refine go_iload_n X dX6_draw_50 rfl 3 rfl ?_
                  refine goV (fun H locs ls r ho hW hL => runV X (ok_X6_drawChild l D base M54 a1 ha1 v50 hv50 v51 hv51 H.size r ho) dX6_draw_51 lw480 lw481 lw482 lw450 ⟨lw478, cy_X6_drawChild, Nat.le_of_ble_eq_true rfl, Nat.le_of_ble_eq_true rfl⟩ rfl tcn678 tc678 rfl rfl rfl rfl (Nat.le_of_ble_eq_true rfl) hW hL hk0) (fun _ M57 => ?_)
                  refine go_iinc (i := 3) (L' := fun v => [(3, .int (Ii v)), (0, .ref (base + 678)), (1, .int (Ii a1)), (2, .int (Ii v50))]) X dX6_draw_54 hv51 kI_1 (j := 3) rfl (by decide) (fun _ => rfl) (fun v58 hv58 => ?_)
                  refine go_goto (tgt := 35) X dX6_draw_57 rfl ?_
                  refine go_sub [1, 2, 3, 0] rfl ?_
                  exact hrc35_53 v50 v58 M57 hv50 hv58
                )
                FU v43 0 M44 hv43 kI_0
            )
            (fun J33_45 hJ33_45 => ?_)
        refine go_if_eq (tgt := 33) X dX6_draw_22 rfl (bo_i32 hv42) (fun c60 => ?_) (fun c60 => ?_)
        · exact hJ33_45 v37 M41 hv37
        · refine go_aload_n X dX6_draw_25 rfl 0 rfl ?_
          refine go_iload_n X dX6_draw_26 rfl 1 rfl ?_
          refine go_iload_n X dX6_draw_27 rfl 2 rfl ?_
          refine go_iconst (v := (-1)) X dX6_draw_28 rfl ?_
          refine goI (fun H locs ls r ho hW hL => runV X (ok_X6_drawEquations l D base M41 a1 ha1 v37 hv37 ((-1)) kI_m1 H.size r ho) dX6_draw_29 lw472 lw473 lw474 lw450 ⟨lw470, cy_X6_drawEquations, Nat.le_of_ble_eq_true rfl, Nat.le_of_ble_eq_true rfl⟩ rfl tcn678 tc678 rfl rfl rfl rfl (Nat.le_of_ble_eq_true rfl) hW hL hk0) (fun v62 M61 hv62 => ?_)
          refine go_pop X dX6_draw_32 rfl ?_
          exact hJ33_45 v37 M61 hv37
      )
      FU 0 M1 kI_0
def f_X5_headOf (a1 : Int) (M : Mm) : Rs :=
Lt (fun (v1 : Int) (M2 : Mm) => 
some (v1, M2)) fun J20_3 =>
Lt (fun (M4 : Mm) => 
J20_3 ((-1)) M4) fun J19_5 =>
if a1 < 0 then (
J19_5 M) else (
if 10 ≤ a1 then (
J19_5 M) else (
gd (0 ≤ a1 ∧ a1 < 10) <|
Lt (M 2 a1.toNat) fun v8 =>
J20_3 v8 M))
theorem cy_X5_headOf : yX5_headOf.cls ≠ "java/lang/invoke/MethodHandle" ∧ yX5_headOf.cls ≠ "java/lang/invoke/VarHandle" ∧ (parseMethodDescriptor yX5_headOf.desc).map (fun d => d.parameters.length) = some 1 := ⟨by decide +kernel, by decide +kernel, by decide +kernel⟩
set_option maxRecDepth 20000 in
theorem ok_X5_headOf (l : Launch) (D : Dd) (base : Nat) (M : Mm) (a1 : Int) (ha1 : i32 a1) : OkI l D TC 681 base yX5_headOf cX5_headOf 2 (some .int) 0 0 [.ref (base + 1), .int (Ii a1)] M i32 (f_X5_headOf a1 M) := by
  refine metI (by decide +kernel) [(0, .ref (base + 1)), (1, .int (Ii a1))] rfl (Nat.le_of_ble_eq_true rfl) (fun p e s m args below meth c X hrt hlk => ?_)
  have X : Cx p s m args c cX5_headOf D 2 RX5 := X
  unfold f_X5_headOf
  refine go_iload_n X dX5_headOf_0 rfl 1 rfl ?_
  refine go_lt (fun J => ∀ (v1 : Int) (M2 : Mm), i32 v1 → Go p l e (rmO 0 0) s m args below meth c D TC 681 base 2 0 0 (FinI D TC 681 base below args s i32) M2 20 [] [.int (Ii v1)] (J v1 M2)) (by
      intro v1 M2 hv1
      exact go_ireturn X hrt hlk dX5_headOf_20 hv1
      )
      (fun J20_3 hJ20_3 => ?_)
  refine go_lt (fun J => ∀ (M4 : Mm), Go p l e (rmO 0 0) s m args below meth c D TC 681 base 2 0 0 (FinI D TC 681 base below args s i32) M4 19 [] [] (J M4)) (by
      intro M4
      refine go_iconst (v := (-1)) X dX5_headOf_19 rfl ?_
      exact hJ20_3 ((-1)) M4 kI_m1
      )
      (fun J19_5 hJ19_5 => ?_)
  refine go_if_lt (tgt := 19) X dX5_headOf_1 rfl ha1 (fun c6 => ?_) (fun c6 => ?_)
  · refine go_sub [] rfl ?_
    exact hJ19_5 M
  · refine go_iload_n X dX5_headOf_4 rfl 1 rfl ?_
    refine go_bipush (v := 10) X dX5_headOf_5 (by decide) ?_
    refine go_icmp_ge (tgt := 19) X dX5_headOf_7 rfl ha1 kI_10 (fun c7 => ?_) (fun c7 => ?_)
    · refine go_sub [] rfl ?_
      exact hJ19_5 M
    · refine go_aload_n X dX5_headOf_10 rfl 0 rfl ?_
      refine go_getc (i := 2) X fc5 dX5_headOf_11 tcn1 tc1 (Nat.le_of_ble_eq_true rfl) rfl lw393 rfl ?_
      refine go_iload_n X dX5_headOf_14 rfl 1 rfl ?_
      refine go_iaload X dX5_headOf_15 tcn2 tc2 ha1 (fun v8 hv8 => ?_)
      refine go_goto (tgt := 20) X dX5_headOf_16 rfl ?_
      refine go_sub [] rfl ?_
      exact hJ20_3 v8 M hv8
def f_X6_downsOf_L4_21 (a1 : Int) (J37_3 : Int → Mm → Rs) (rc4_7 : Int × Int × Mm → Rs) : Int × Int × Mm → Rs := fun (v4, v5, M6) =>
if 6 ≤ v5 then (
J37_3 v4 M6) else (
Cl (f_X6_isOfKind v5 1 M6) fun v10 M9 =>
Lt (fun (v11 : Int) (v12 : Int) (v13 : Int) (M14 : Mm) => 
Lt (jor v12 v13) fun v16 =>
Lt (wr (v11 + 1)) fun v17 =>
rc4_7 (v16, v17, M14)) fun J29_15 =>
if v10 = 0 then (
J29_15 v5 v4 0 M9) else (
Lt (jshl 1 v5) fun v19 =>
Lt (jand a1 v19) fun v20 =>
J29_15 v5 v4 v20 M9))
def f_X6_downsOf (a1 : Int) (M : Mm) : Rs :=
Lt (fun (v1 : Int) (M2 : Mm) => 
some (v1, M2)) fun J37_3 =>
Lp (f_X6_downsOf_L4_21 a1 J37_3) FU (0, 0, M)
theorem cy_X6_downsOf : yX6_downsOf.cls ≠ "java/lang/invoke/MethodHandle" ∧ yX6_downsOf.cls ≠ "java/lang/invoke/VarHandle" ∧ (parseMethodDescriptor yX6_downsOf.desc).map (fun d => d.parameters.length) = some 1 := ⟨by decide +kernel, by decide +kernel, by decide +kernel⟩
set_option maxRecDepth 20000 in
theorem ok_X6_downsOf (l : Launch) (D : Dd) (base : Nat) (M : Mm) (a1 : Int) (ha1 : i32 a1) : OkI l D TC 681 base yX6_downsOf cX6_downsOf 4 (some .int) 2 43 [.ref (base + 678), .int (Ii a1)] M i32 (f_X6_downsOf a1 M) := by
  refine metI (by decide +kernel) [(0, .ref (base + 678)), (1, .int (Ii a1))] rfl (Nat.le_of_ble_eq_true rfl) (fun p e s m args below meth c X hrt hlk => ?_)
  have X : Cx p s m args c cX6_downsOf D 4 RX6 := X
  unfold f_X6_downsOf
  refine go_iconst (v := 0) X dX6_downsOf_0 rfl ?_
  refine go_istore_n (i := 2) (L' := [(2, .int (Ii 0)), (0, .ref (base + 678)), (1, .int (Ii a1))]) X dX6_downsOf_1 rfl (by decide) rfl ?_
  refine go_iconst (v := 0) X dX6_downsOf_2 rfl ?_
  refine go_istore_n (i := 3) (L' := [(3, .int (Ii 0)), (2, .int (Ii 0)), (0, .ref (base + 678)), (1, .int (Ii a1))]) X dX6_downsOf_3 rfl (by decide) rfl ?_
  refine go_lt (fun J => ∀ (v1 : Int) (M2 : Mm), i32 v1 → Go p l e (rmO 2 43) s m args below meth c D TC 681 base 4 0 0 (FinI D TC 681 base below args s i32) M2 37 [(2, .int (Ii v1))] [] (J v1 M2)) (by
      intro v1 M2 hv1
      refine go_iload_n X dX6_downsOf_37 rfl 0 rfl ?_
      exact go_ireturn X hrt hlk dX6_downsOf_38 hv1
      )
      (fun J37_3 hJ37_3 => ?_)
  refine go_sub [2, 3, 1, 0] rfl ?_
  exact go_lp (fun (rc : Int × Int × Mm → Rs) => ∀ (v4 : Int) (v5 : Int) (M6 : Mm), i32 v4 → i32 v5 → Go p l e (rmO 2 43) s m args below meth c D TC 681 base 4 0 0 (FinI D TC 681 base below args s i32) M6 4 [(0, .ref (base + 678)), (1, .int (Ii a1)), (2, .int (Ii v4)), (3, .int (Ii v5))] [] (rc (v4, v5, M6)))
      (by intro v4 v5 M6 hv4 hv5; exact go_none)
      (by
      intro rc4_7 hrc4_7 v4 v5 M6 hv4 hv5
      unfold f_X6_downsOf_L4_21
      dsimp only
      refine go_iload_n X dX6_downsOf_4 rfl 3 rfl ?_
      refine go_bipush (v := 6) X dX6_downsOf_5 (by decide) ?_
      refine go_icmp_ge (tgt := 37) X dX6_downsOf_7 rfl hv5 kI_6 (fun c8 => ?_) (fun c8 => ?_)
      · refine go_sub [2] rfl ?_
        exact hJ37_3 v4 M6 hv4
      · refine go_iload_n X dX6_downsOf_10 rfl 2 rfl ?_
        refine go_aload_n X dX6_downsOf_11 rfl 0 rfl ?_
        refine go_iload_n X dX6_downsOf_12 rfl 3 rfl ?_
        refine go_iconst (v := 1) X dX6_downsOf_13 rfl ?_
        refine goI (fun H locs ls r ho hW hL => runV X (ok_X6_isOfKind l D base M6 v5 hv5 1 kI_1 H.size r ho) dX6_downsOf_14 lw447 lw448 lw449 lw450 ⟨lw438, cy_X6_isOfKind, Nat.le_of_ble_eq_true rfl, Nat.le_of_ble_eq_true rfl⟩ rfl tcn678 tc678 rfl rfl rfl rfl (Nat.le_of_ble_eq_true rfl) hW hL hk0) (fun v10 M9 hv10 => ?_)
        refine go_lt (fun J => ∀ (v11 : Int) (v12 : Int) (v13 : Int) (M14 : Mm), i32 v11 → i32 v12 → i32 v13 → Go p l e (rmO 2 43) s m args below meth c D TC 681 base 4 0 0 (FinI D TC 681 base below args s i32) M14 29 [(0, .ref (base + 678)), (1, .int (Ii a1)), (3, .int (Ii v11))] [.int (Ii v13), .int (Ii v12)] (J v11 v12 v13 M14)) (by
            intro v11 v12 v13 M14 hv11 hv12 hv13
            refine go_ior X dX6_downsOf_29 hv12 hv13 (fun v16 hv16 => ?_)
            refine go_istore_n (i := 2) (L' := [(2, .int (Ii v16)), (0, .ref (base + 678)), (1, .int (Ii a1)), (3, .int (Ii v11))]) X dX6_downsOf_30 rfl (by decide) rfl ?_
            refine go_iinc (i := 3) (L' := fun v => [(3, .int (Ii v)), (2, .int (Ii v16)), (0, .ref (base + 678)), (1, .int (Ii a1))]) X dX6_downsOf_31 hv11 kI_1 (j := 3) rfl (by decide) (fun _ => rfl) (fun v17 hv17 => ?_)
            refine go_goto (tgt := 4) X dX6_downsOf_34 rfl ?_
            refine go_sub [2, 3, 1, 0] rfl ?_
            exact hrc4_7 v16 v17 M14 hv16 hv17
            )
            (fun J29_15 hJ29_15 => ?_)
        refine go_if_eq (tgt := 28) X dX6_downsOf_17 rfl (bo_i32 hv10) (fun c18 => ?_) (fun c18 => ?_)
        · refine go_iconst (v := 0) X dX6_downsOf_28 rfl ?_
          refine go_sub [0, 1, 3] rfl ?_
          exact hJ29_15 v5 v4 0 M9 hv5 hv4 kI_0
        · refine go_iload_n X dX6_downsOf_20 rfl 1 rfl ?_
          refine go_iconst (v := 1) X dX6_downsOf_21 rfl ?_
          refine go_iload_n X dX6_downsOf_22 rfl 3 rfl ?_
          refine go_ishl X dX6_downsOf_23 kI_1 hv5 (fun v19 hv19 => ?_)
          refine go_iand X dX6_downsOf_24 ha1 hv19 (fun v20 hv20 => ?_)
          refine go_goto (tgt := 29) X dX6_downsOf_25 rfl ?_
          refine go_sub [0, 1, 3] rfl ?_
          exact hJ29_15 v5 v4 v20 M9 hv5 hv4 hv20
      )
      FU 0 0 M kI_0 kI_0
def f_X6_tellRelations_L14_40 (v2 : Int) (J110_5 : Int → Mm → Rs) (rc14_9 : Int × Int × Mm → Rs) : Int × Int × Mm → Rs := fun (v6, v7, M8) =>
if 6 ≤ v7 then (
J110_5 v6 M8) else (
Lt (wr (v2 * 6)) fun v11 =>
Lt (wr (v11 + v7)) fun v12 =>
Cl (f_X11_entryOf 680 v12 M8) fun v14 M13 =>
Cl (f_X6_isOfKind v7 0 M13) fun v16 M15 =>
Lt (fun (v17 : Int) (v18 : Int) (v19 : Int) (M20 : Mm) => 
Lt (jor v14 v19) fun v22 =>
Cl (f_X11_setEntry 680 v12 v22 M20) fun _ M23 =>
Lt (fun (v24 : Int) (v25 : Int) (M26 : Mm) => 
Lt (wr (v24 + 1)) fun v28 =>
rc14_9 (v25, v28, M26)) fun J103_27 =>
Lt (fun (v29 : Int) (M30 : Mm) => 
J103_27 v29 1 M30) fun J98_31 =>
if ¬ v17 = 0 then (
J98_31 v18 M23) else (
Lt (jor v14 v19) fun v33 =>
if v33 = v14 then (
J103_27 v18 0 M23) else (
J98_31 v18 M23))) fun J68_21 =>
if v16 = 0 then (
J68_21 v6 v7 0 M15) else (
Cl (f_X11_entryOf 679 v7 M15) fun v37 M36 =>
Cl (f_X6_downsOf v37 M36) fun v39 M38 =>
J68_21 v6 v7 v39 M38))
def f_X6_tellRelations (a1 : Int) (M : Mm) : Rs :=
Cl (f_X5_headOf a1 M) fun v2 M1 =>
Lt (fun (v3 : Int) (M4 : Mm) => 
some (v3, M4)) fun J110_5 =>
Lp (f_X6_tellRelations_L14_40 v2 J110_5) FU (0, 0, M1)
theorem cy_X6_tellRelations : yX6_tellRelations.cls ≠ "java/lang/invoke/MethodHandle" ∧ yX6_tellRelations.cls ≠ "java/lang/invoke/VarHandle" ∧ (parseMethodDescriptor yX6_tellRelations.desc).map (fun d => d.parameters.length) = some 1 := ⟨by decide +kernel, by decide +kernel, by decide +kernel⟩
set_option maxRecDepth 20000 in
theorem ok_X6_tellRelations (l : Launch) (D : Dd) (base : Nat) (M : Mm) (a1 : Int) (ha1 : i32 a1) : OkI l D TC 681 base yX6_tellRelations cX6_tellRelations 8 (some .boolean) 3 66 [.ref (base + 678), .int (Ii a1)] M bo (f_X6_tellRelations a1 M) := by
  refine metI (by decide +kernel) [(0, .ref (base + 678)), (1, .int (Ii a1))] rfl (Nat.le_of_ble_eq_true rfl) (fun p e s m args below meth c X hrt hlk => ?_)
  have X : Cx p s m args c cX6_tellRelations D 8 RX6 := X
  unfold f_X6_tellRelations
  refine go_aload_n X dX6_tellRelations_0 rfl 0 rfl ?_
  refine go_getc (i := 0) X fc6 dX6_tellRelations_1 tcn678 tc678 (Nat.le_of_ble_eq_true rfl) rfl lw435 rfl ?_
  refine go_iload_n X dX6_tellRelations_4 rfl 1 rfl ?_
  refine goI (fun H locs ls r ho hW hL => runV X (ok_X5_headOf l D base M a1 ha1 H.size r ho) dX6_tellRelations_5 lw485 lw426 lw427 lw80 ⟨lw418, cy_X5_headOf, Nat.le_of_ble_eq_true rfl, Nat.le_of_ble_eq_true rfl⟩ rfl tcn1 tc1 rfl rfl rfl rfl (Nat.le_of_ble_eq_true rfl) hW hL hk0) (fun v2 M1 hv2 => ?_)
  refine go_istore_n (i := 2) (L' := [(2, .int (Ii v2)), (0, .ref (base + 678)), (1, .int (Ii a1))]) X dX6_tellRelations_8 rfl (by decide) rfl ?_
  refine go_iconst (v := 0) X dX6_tellRelations_9 rfl ?_
  refine go_istore_n (i := 3) (L' := [(3, .int (Ii 0)), (2, .int (Ii v2)), (0, .ref (base + 678)), (1, .int (Ii a1))]) X dX6_tellRelations_10 rfl (by decide) rfl ?_
  refine go_iconst (v := 0) X dX6_tellRelations_11 rfl ?_
  refine go_istore (i := 4) (L' := [(4, .int (Ii 0)), (3, .int (Ii 0)), (2, .int (Ii v2)), (0, .ref (base + 678)), (1, .int (Ii a1))]) X dX6_tellRelations_12 (by decide) rfl ?_
  refine go_lt (fun J => ∀ (v3 : Int) (M4 : Mm), bo v3 → Go p l e (rmO 3 66) s m args below meth c D TC 681 base 8 0 0 (FinI D TC 681 base below args s bo) M4 110 [(3, .int (Ii v3))] [] (J v3 M4)) (by
      intro v3 M4 hv3
      refine go_iload_n X dX6_tellRelations_110 rfl 0 rfl ?_
      exact go_zreturn X hrt hlk dX6_tellRelations_111 hv3 hv3
      )
      (fun J110_5 hJ110_5 => ?_)
  refine go_sub [3, 2, 1, 0] rfl ?_
  exact go_lp (fun (rc : Int × Int × Mm → Rs) => ∀ (v6 : Int) (v7 : Int) (M8 : Mm), bo v6 → i32 v7 → Go p l e (rmO 3 66) s m args below meth c D TC 681 base 8 0 0 (FinI D TC 681 base below args s bo) M8 14 [(0, .ref (base + 678)), (2, .int (Ii v2)), (3, .int (Ii v6)), (4, .int (Ii v7))] [] (rc (v6, v7, M8)))
      (by intro v6 v7 M8 hv6 hv7; exact go_none)
      (by
      intro rc14_9 hrc14_9 v6 v7 M8 hv6 hv7
      unfold f_X6_tellRelations_L14_40
      dsimp only
      refine go_iload X dX6_tellRelations_14 3 rfl ?_
      refine go_bipush (v := 6) X dX6_tellRelations_16 (by decide) ?_
      refine go_icmp_ge (tgt := 110) X dX6_tellRelations_18 rfl hv7 kI_6 (fun c10 => ?_) (fun c10 => ?_)
      · refine go_sub [2] rfl ?_
        exact hJ110_5 v6 M8 hv6
      · refine go_iload_n X dX6_tellRelations_21 rfl 1 rfl ?_
        refine go_bipush (v := 6) X dX6_tellRelations_22 (by decide) ?_
        refine go_imul X dX6_tellRelations_24 hv2 kI_6 (fun v11 hv11 => ?_)
        refine go_iload X dX6_tellRelations_25 3 rfl ?_
        refine go_iadd X dX6_tellRelations_27 hv11 hv7 (fun v12 hv12 => ?_)
        refine go_istore (i := 5) (L' := [(5, .int (Ii v12)), (0, .ref (base + 678)), (2, .int (Ii v2)), (3, .int (Ii v6)), (4, .int (Ii v7))]) X dX6_tellRelations_28 (by decide) rfl ?_
        refine go_aload_n X dX6_tellRelations_30 rfl 1 rfl ?_
        refine go_getc (i := 4) X fc6 dX6_tellRelations_31 tcn678 tc678 (Nat.le_of_ble_eq_true rfl) rfl lw434 rfl ?_
        refine go_iload X dX6_tellRelations_34 0 rfl ?_
        refine goI (fun H locs ls r ho hW hL => runSN X (ok_X11_entryOf l D base M8 680 isAC_680 v12 hv12 H.size r ho) dX6_tellRelations_36 nl8 lw20 lw19 ⟨lw13, cy_X11_entryOf, Nat.le_of_ble_eq_true rfl, Nat.le_of_ble_eq_true rfl⟩ rfl rfl (Nat.le_of_ble_eq_true rfl) hW hL hk0) (fun v14 M13 hv14 => ?_)
        refine go_istore (i := 6) (L' := [(6, .int (Ii v14)), (5, .int (Ii v12)), (0, .ref (base + 678)), (2, .int (Ii v2)), (3, .int (Ii v6)), (4, .int (Ii v7))]) X dX6_tellRelations_39 (by decide) rfl ?_
        refine go_aload_n X dX6_tellRelations_41 rfl 2 rfl ?_
        refine go_iload X dX6_tellRelations_42 5 rfl ?_
        refine go_iconst (v := 0) X dX6_tellRelations_44 rfl ?_
        refine goI (fun H locs ls r ho hW hL => runV X (ok_X6_isOfKind l D base M13 v7 hv7 0 kI_0 H.size r ho) dX6_tellRelations_45 lw447 lw448 lw449 lw450 ⟨lw438, cy_X6_isOfKind, Nat.le_of_ble_eq_true rfl, Nat.le_of_ble_eq_true rfl⟩ rfl tcn678 tc678 rfl rfl rfl rfl (Nat.le_of_ble_eq_true rfl) hW hL hk0) (fun v16 M15 hv16 => ?_)
        refine go_lt (fun J => ∀ (v17 : Int) (v18 : Int) (v19 : Int) (M20 : Mm), bo v17 → i32 v18 → i32 v19 → Go p l e (rmO 3 66) s m args below meth c D TC 681 base 8 0 0 (FinI D TC 681 base below args s bo) M20 68 [(0, .ref (base + 678)), (2, .int (Ii v2)), (3, .int (Ii v17)), (4, .int (Ii v18)), (5, .int (Ii v12)), (6, .int (Ii v14))] [.int (Ii v19)] (J v17 v18 v19 M20)) (by
            intro v17 v18 v19 M20 hv17 hv18 hv19
            refine go_istore (i := 7) (L' := [(7, .int (Ii v19)), (0, .ref (base + 678)), (2, .int (Ii v2)), (3, .int (Ii v17)), (4, .int (Ii v18)), (5, .int (Ii v12)), (6, .int (Ii v14))]) X dX6_tellRelations_68 (by decide) rfl ?_
            refine go_aload_n X dX6_tellRelations_70 rfl 1 rfl ?_
            refine go_getc (i := 4) X fc6 dX6_tellRelations_71 tcn678 tc678 (Nat.le_of_ble_eq_true rfl) rfl lw434 rfl ?_
            refine go_iload X dX6_tellRelations_74 5 rfl ?_
            refine go_iload X dX6_tellRelations_76 6 rfl ?_
            refine go_iload X dX6_tellRelations_78 0 rfl ?_
            refine go_ior X dX6_tellRelations_80 hv14 hv19 (fun v22 hv22 => ?_)
            refine goV (fun H locs ls r ho hW hL => runSN X (ok_X11_setEntry l D base M20 680 isAC_680 v12 hv12 v22 hv22 H.size r ho) dX6_tellRelations_81 nl9 lw21 lw19 ⟨lw14, cy_X11_setEntry, Nat.le_of_ble_eq_true rfl, Nat.le_of_ble_eq_true rfl⟩ rfl rfl (Nat.le_of_ble_eq_true rfl) hW hL hk0) (fun _ M23 => ?_)
            refine go_iload_n X dX6_tellRelations_84 rfl 3 rfl ?_
            refine go_lt (fun J => ∀ (v24 : Int) (v25 : Int) (M26 : Mm), i32 v24 → bo v25 → Go p l e (rmO 3 66) s m args below meth c D TC 681 base 8 0 0 (FinI D TC 681 base below args s bo) M26 103 [(0, .ref (base + 678)), (2, .int (Ii v2)), (4, .int (Ii v24))] [.int (Ii v25)] (J v24 v25 M26)) (by
                intro v24 v25 M26 hv24 hv25
                refine go_istore_n (i := 3) (L' := [(3, .int (Ii v25)), (0, .ref (base + 678)), (2, .int (Ii v2)), (4, .int (Ii v24))]) X dX6_tellRelations_103 rfl (by decide) rfl ?_
                refine go_iinc (i := 4) (L' := fun v => [(4, .int (Ii v)), (3, .int (Ii v25)), (0, .ref (base + 678)), (2, .int (Ii v2))]) X dX6_tellRelations_104 hv24 kI_1 (j := 3) rfl (by decide) (fun _ => rfl) (fun v28 hv28 => ?_)
                refine go_goto (tgt := 14) X dX6_tellRelations_107 rfl ?_
                refine go_sub [2, 3, 1, 0] rfl ?_
                exact hrc14_9 v25 v28 M26 hv25 hv28
                )
                (fun J103_27 hJ103_27 => ?_)
            refine go_lt (fun J => ∀ (v29 : Int) (M30 : Mm), i32 v29 → Go p l e (rmO 3 66) s m args below meth c D TC 681 base 8 0 0 (FinI D TC 681 base below args s bo) M30 98 [(0, .ref (base + 678)), (2, .int (Ii v2)), (4, .int (Ii v29))] [] (J v29 M30)) (by
                intro v29 M30 hv29
                refine go_iconst (v := 1) X dX6_tellRelations_98 rfl ?_
                refine go_goto (tgt := 103) X dX6_tellRelations_99 rfl ?_
                exact hJ103_27 v29 1 M30 hv29 (Or.inr rfl)
                )
                (fun J98_31 hJ98_31 => ?_)
            refine go_if_ne (tgt := 98) X dX6_tellRelations_85 rfl (bo_i32 hv17) (fun c32 => ?_) (fun c32 => ?_)
            · refine go_sub [1, 2, 4] rfl ?_
              exact hJ98_31 v18 M23 hv18
            · refine go_iload X dX6_tellRelations_88 6 rfl ?_
              refine go_iload X dX6_tellRelations_90 0 rfl ?_
              refine go_ior X dX6_tellRelations_92 hv14 hv19 (fun v33 hv33 => ?_)
              refine go_iload X dX6_tellRelations_93 6 rfl ?_
              refine go_icmp_eq (tgt := 102) X dX6_tellRelations_95 rfl hv33 hv14 (fun c34 => ?_) (fun c34 => ?_)
              · refine go_iconst (v := 0) X dX6_tellRelations_102 rfl ?_
                refine go_sub [1, 2, 4] rfl ?_
                exact hJ103_27 v18 0 M23 hv18 (Or.inl rfl)
              · refine go_sub [1, 2, 4] rfl ?_
                exact hJ98_31 v18 M23 hv18
            )
            (fun J68_21 hJ68_21 => ?_)
        refine go_if_eq (tgt := 67) X dX6_tellRelations_48 rfl (bo_i32 hv16) (fun c35 => ?_) (fun c35 => ?_)
        · refine go_iconst (v := 0) X dX6_tellRelations_67 rfl ?_
          refine go_sub [2, 3, 4, 5, 1, 0] rfl ?_
          exact hJ68_21 v6 v7 0 M15 hv6 hv7 kI_0
        · refine go_aload_n X dX6_tellRelations_51 rfl 2 rfl ?_
          refine go_aload_n X dX6_tellRelations_52 rfl 2 rfl ?_
          refine go_getc (i := 3) X fc6 dX6_tellRelations_53 tcn678 tc678 (Nat.le_of_ble_eq_true rfl) rfl lw433 rfl ?_
          refine go_iload X dX6_tellRelations_56 5 rfl ?_
          refine goI (fun H locs ls r ho hW hL => runSN X (ok_X11_entryOf l D base M15 679 isAC_679 v7 hv7 H.size r ho) dX6_tellRelations_58 nl8 lw20 lw19 ⟨lw13, cy_X11_entryOf, Nat.le_of_ble_eq_true rfl, Nat.le_of_ble_eq_true rfl⟩ rfl rfl (Nat.le_of_ble_eq_true rfl) hW hL hk0) (fun v37 M36 hv37 => ?_)
          refine goI (fun H locs ls r ho hW hL => runV X (ok_X6_downsOf l D base M36 v37 hv37 H.size r ho) dX6_tellRelations_61 lw486 lw487 lw488 lw450 ⟨lw484, cy_X6_downsOf, Nat.le_of_ble_eq_true rfl, Nat.le_of_ble_eq_true rfl⟩ rfl tcn678 tc678 rfl rfl rfl rfl (Nat.le_of_ble_eq_true rfl) hW hL hk0) (fun v39 M38 hv39 => ?_)
          refine go_goto (tgt := 68) X dX6_tellRelations_64 rfl ?_
          refine go_sub [2, 3, 4, 5, 1, 0] rfl ?_
          exact hJ68_21 v6 v7 v39 M38 hv6 hv7 hv39
      )
      FU 0 0 M1 (Or.inl rfl) kI_0
def f_X6_hasRing_L2_15 (J31_2 : Mm → Rs) (J23_4 : Mm → Rs) (rc2_7 : Int × Mm → Rs) : Int × Mm → Rs := fun (v5, M6) =>
if 24 ≤ v5 then (
J31_2 M6) else (
Cl (f_X11_entryOf 679 v5 M6) fun v10 M9 =>
Cl (f_X6_hasBit v10 v5 M9) fun v12 M11 =>
if v12 = 0 then (
Lt (wr (v5 + 1)) fun v14 =>
rc2_7 (v14, M11)) else (
J23_4 M11))
def f_X6_hasRing (M : Mm) : Rs :=
Lt (fun (M1 : Mm) => 
some (0, M1)) fun J31_2 =>
Lt (fun (M3 : Mm) => 
some (1, M3)) fun J23_4 =>
Lp (f_X6_hasRing_L2_15 J31_2 J23_4) FU (0, M)
theorem cy_X6_hasRing : yX6_hasRing.cls ≠ "java/lang/invoke/MethodHandle" ∧ yX6_hasRing.cls ≠ "java/lang/invoke/VarHandle" ∧ (parseMethodDescriptor yX6_hasRing.desc).map (fun d => d.parameters.length) = some 0 := ⟨by decide +kernel, by decide +kernel, by decide +kernel⟩
set_option maxRecDepth 20000 in
theorem ok_X6_hasRing (l : Launch) (D : Dd) (base : Nat) (M : Mm) : OkI l D TC 681 base yX6_hasRing cX6_hasRing 2 (some .boolean) 1 21 [.ref (base + 678)] M bo (f_X6_hasRing M) := by
  refine metI (by decide +kernel) [(0, .ref (base + 678))] rfl (Nat.le_of_ble_eq_true rfl) (fun p e s m args below meth c X hrt hlk => ?_)
  have X : Cx p s m args c cX6_hasRing D 2 RX6 := X
  unfold f_X6_hasRing
  refine go_iconst (v := 0) X dX6_hasRing_0 rfl ?_
  refine go_istore_n (i := 1) (L' := [(1, .int (Ii 0)), (0, .ref (base + 678))]) X dX6_hasRing_1 rfl (by decide) rfl ?_
  refine go_lt (fun J => ∀ (M1 : Mm), Go p l e (rmO 1 21) s m args below meth c D TC 681 base 2 0 0 (FinI D TC 681 base below args s bo) M1 31 [] [] (J M1)) (by
      intro M1
      refine go_iconst (v := 0) X dX6_hasRing_31 rfl ?_
      exact go_zreturn X hrt hlk dX6_hasRing_32 (Or.inl rfl) (Or.inl rfl)
      )
      (fun J31_2 hJ31_2 => ?_)
  refine go_lt (fun J => ∀ (M3 : Mm), Go p l e (rmO 1 21) s m args below meth c D TC 681 base 2 0 0 (FinI D TC 681 base below args s bo) M3 23 [] [] (J M3)) (by
      intro M3
      refine go_iconst (v := 1) X dX6_hasRing_23 rfl ?_
      exact go_zreturn X hrt hlk dX6_hasRing_24 (Or.inr rfl) (Or.inr rfl)
      )
      (fun J23_4 hJ23_4 => ?_)
  refine go_sub [1, 0] rfl ?_
  exact go_lp (fun (rc : Int × Mm → Rs) => ∀ (v5 : Int) (M6 : Mm), i32 v5 → Go p l e (rmO 1 21) s m args below meth c D TC 681 base 2 0 0 (FinI D TC 681 base below args s bo) M6 2 [(0, .ref (base + 678)), (1, .int (Ii v5))] [] (rc (v5, M6)))
      (by intro v5 M6 hv5; exact go_none)
      (by
      intro rc2_7 hrc2_7 v5 M6 hv5
      unfold f_X6_hasRing_L2_15
      dsimp only
      refine go_iload_n X dX6_hasRing_2 rfl 1 rfl ?_
      refine go_bipush (v := 24) X dX6_hasRing_3 (by decide) ?_
      refine go_icmp_ge (tgt := 31) X dX6_hasRing_5 rfl hv5 kI_24 (fun c8 => ?_) (fun c8 => ?_)
      · refine go_sub [] rfl ?_
        exact hJ31_2 M6
      · refine go_aload_n X dX6_hasRing_8 rfl 0 rfl ?_
        refine go_getc (i := 3) X fc6 dX6_hasRing_9 tcn678 tc678 (Nat.le_of_ble_eq_true rfl) rfl lw433 rfl ?_
        refine go_iload_n X dX6_hasRing_12 rfl 1 rfl ?_
        refine goI (fun H locs ls r ho hW hL => runSN X (ok_X11_entryOf l D base M6 679 isAC_679 v5 hv5 H.size r ho) dX6_hasRing_13 nl8 lw20 lw19 ⟨lw13, cy_X11_entryOf, Nat.le_of_ble_eq_true rfl, Nat.le_of_ble_eq_true rfl⟩ rfl rfl (Nat.le_of_ble_eq_true rfl) hW hL hk0) (fun v10 M9 hv10 => ?_)
        refine go_iload_n X dX6_hasRing_16 rfl 1 rfl ?_
        refine goI (fun H locs ls r ho hW hL => runS X (ok_X6_hasBit l D base M9 v10 hv10 v5 hv5 H.size r ho) dX6_hasRing_17 lw476 lw477 lw450 ⟨lw471, cy_X6_hasBit, Nat.le_of_ble_eq_true rfl, Nat.le_of_ble_eq_true rfl⟩ rfl rfl (Nat.le_of_ble_eq_true rfl) hW hL hk0) (fun v12 M11 hv12 => ?_)
        refine go_if_eq (tgt := 25) X dX6_hasRing_20 rfl (bo_i32 hv12) (fun c13 => ?_) (fun c13 => ?_)
        · refine go_iinc (i := 1) (L' := fun v => [(1, .int (Ii v)), (0, .ref (base + 678))]) X dX6_hasRing_25 hv5 kI_1 (j := 1) rfl (by decide) (fun _ => rfl) (fun v14 hv14 => ?_)
          refine go_goto (tgt := 2) X dX6_hasRing_28 rfl ?_
          refine go_sub [1, 0] rfl ?_
          exact hrc2_7 v14 M11 hv14
        · refine go_sub [] rfl ?_
          exact hJ23_4 M11
      )
      FU 0 M kI_0
def f_X6_firstRing_L75_19 (J106_5 : Mm → Rs) (J98_8 : Int → Mm → Rs) (rc75_11 : Int × Mm → Rs) : Int × Mm → Rs := fun (v9, M10) =>
Lt (M10 1 0) fun v12 =>
if v12 ≤ v9 then (
J106_5 M10) else (
Cl (f_X6_draw v9 M10) fun _ M14 =>
Cl (f_X6_hasRing M14) fun v16 M15 =>
if v16 = 0 then (
Lt (wr (v9 + 1)) fun v18 =>
rc75_11 (v18, M15)) else (
J98_8 v9 M15))
def f_X6_firstRing_L27_53 (J67_29 : Int → Int → Mm → Rs) (rc27_35 : Int × Int × Int × Mm → Rs) : Int × Int × Int × Mm → Rs := fun (v31, v32, v33, M34) =>
Lt (M34 1 0) fun v36 =>
if v36 ≤ v33 then (
J67_29 v31 v32 M34) else (
Cl (f_X6_draw v33 M34) fun _ M38 =>
Cl (f_X6_tellRelations v33 M38) fun v40 M39 =>
Lt (fun (v41 : Int) (v42 : Int) (v43 : Int) (M44 : Mm) => 
Lt (wr (v42 + 1)) fun v46 =>
rc27_35 (v43, v41, v46, M44)) fun J60_45 =>
Lt (fun (v47 : Int) (v48 : Int) (M49 : Mm) => 
J60_45 v47 v48 1 M49) fun J55_50 =>
if ¬ v40 = 0 then (
J55_50 v32 v33 M39) else (
if v31 = 0 then (
J60_45 v32 v33 0 M39) else (
J55_50 v32 v33 M39)))
def f_X6_firstRing_L12_54 (J73_3 : Mm → Rs) (rc12_23 : Int × Int × Mm → Rs) : Int × Int × Mm → Rs := fun (v20, v21, M22) =>
if 200 ≤ v21 then (
J73_3 M22) else (
if v20 = 0 then (
J73_3 M22) else (
Lt (fun (v26 : Int) (v27 : Int) (M28 : Mm) => 
Lt (wr (v27 + 1)) fun v30 =>
rc12_23 (v26, v30, M28)) fun J67_29 =>
Lp (f_X6_firstRing_L27_53 J67_29) FU (0, v21, 0, M22)))
def f_X6_firstRing (M : Mm) : Rs :=
Cl (f_X11_fillRow 680 0 M) fun _ M1 =>
Lt (fun (M2 : Mm) => 
Lt (fun (M4 : Mm) => 
some ((-1), M4)) fun J106_5 =>
Lt (fun (v6 : Int) (M7 : Mm) => 
some (v6, M7)) fun J98_8 =>
Lp (f_X6_firstRing_L75_19 J106_5 J98_8) FU (0, M2)) fun J73_3 =>
Lp (f_X6_firstRing_L12_54 J73_3) FU (1, 0, M1)
theorem cy_X6_firstRing : yX6_firstRing.cls ≠ "java/lang/invoke/MethodHandle" ∧ yX6_firstRing.cls ≠ "java/lang/invoke/VarHandle" ∧ (parseMethodDescriptor yX6_firstRing.desc).map (fun d => d.parameters.length) = some 0 := ⟨by decide +kernel, by decide +kernel, by decide +kernel⟩
set_option maxRecDepth 20000 in
theorem ok_X6_firstRing (l : Launch) (D : Dd) (base : Nat) (M : Mm) : OkI l D TC 681 base yX6_firstRing cX6_firstRing 4 (some .int) 6 151 [.ref (base + 678)] M i32 (f_X6_firstRing M) := by
  refine metI (by decide +kernel) [(0, .ref (base + 678))] rfl (Nat.le_of_ble_eq_true rfl) (fun p e s m args below meth c X hrt hlk => ?_)
  have X : Cx p s m args c cX6_firstRing D 4 RX6 := X
  unfold f_X6_firstRing
  refine go_aload_n X dX6_firstRing_0 rfl 0 rfl ?_
  refine go_getc (i := 4) X fc6 dX6_firstRing_1 tcn678 tc678 (Nat.le_of_ble_eq_true rfl) rfl lw434 rfl ?_
  refine go_iconst (v := 0) X dX6_firstRing_4 rfl ?_
  refine goV (fun H locs ls r ho hW hL => runSN X (ok_X11_fillRow l D base M 680 isAC_680 0 kI_0 H.size r ho) dX6_firstRing_5 nl7 lw93 lw19 ⟨lw66, cy_X11_fillRow, Nat.le_of_ble_eq_true rfl, Nat.le_of_ble_eq_true rfl⟩ rfl rfl (Nat.le_of_ble_eq_true rfl) hW hL hk0) (fun _ M1 => ?_)
  refine go_iconst (v := 1) X dX6_firstRing_8 rfl ?_
  refine go_istore_n (i := 1) (L' := [(1, .int (Ii 1)), (0, .ref (base + 678))]) X dX6_firstRing_9 rfl (by decide) rfl ?_
  refine go_iconst (v := 0) X dX6_firstRing_10 rfl ?_
  refine go_istore_n (i := 2) (L' := [(2, .int (Ii 0)), (1, .int (Ii 1)), (0, .ref (base + 678))]) X dX6_firstRing_11 rfl (by decide) rfl ?_
  refine go_lt (fun J => ∀ (M2 : Mm), Go p l e (rmO 6 151) s m args below meth c D TC 681 base 4 0 0 (FinI D TC 681 base below args s i32) M2 73 [(0, .ref (base + 678))] [] (J M2)) (by
      intro M2
      refine go_iconst (v := 0) X dX6_firstRing_73 rfl ?_
      refine go_istore_n (i := 2) (L' := [(2, .int (Ii 0)), (0, .ref (base + 678))]) X dX6_firstRing_74 rfl (by decide) rfl ?_
      refine go_lt (fun J => ∀ (M4 : Mm), Go p l e (rmO 6 151) s m args below meth c D TC 681 base 4 0 0 (FinI D TC 681 base below args s i32) M4 106 [] [] (J M4)) (by
          intro M4
          refine go_iconst (v := (-1)) X dX6_firstRing_106 rfl ?_
          exact go_ireturn X hrt hlk dX6_firstRing_107 kI_m1
          )
          (fun J106_5 hJ106_5 => ?_)
      refine go_lt (fun J => ∀ (v6 : Int) (M7 : Mm), i32 v6 → Go p l e (rmO 6 151) s m args below meth c D TC 681 base 4 0 0 (FinI D TC 681 base below args s i32) M7 98 [(2, .int (Ii v6))] [] (J v6 M7)) (by
          intro v6 M7 hv6
          refine go_iload_n X dX6_firstRing_98 rfl 0 rfl ?_
          exact go_ireturn X hrt hlk dX6_firstRing_99 hv6
          )
          (fun J98_8 hJ98_8 => ?_)
      refine go_sub [1, 0] rfl ?_
      exact go_lp (fun (rc : Int × Mm → Rs) => ∀ (v9 : Int) (M10 : Mm), i32 v9 → Go p l e (rmO 6 151) s m args below meth c D TC 681 base 4 0 0 (FinI D TC 681 base below args s i32) M10 75 [(0, .ref (base + 678)), (2, .int (Ii v9))] [] (rc (v9, M10)))
          (by intro v9 M10 hv9; exact go_none)
          (by
          intro rc75_11 hrc75_11 v9 M10 hv9
          unfold f_X6_firstRing_L75_19
          dsimp only
          refine go_iload_n X dX6_firstRing_75 rfl 1 rfl ?_
          refine go_aload_n X dX6_firstRing_76 rfl 0 rfl ?_
          refine go_getc (i := 0) X fc6 dX6_firstRing_77 tcn678 tc678 (Nat.le_of_ble_eq_true rfl) rfl lw435 rfl ?_
          refine go_geti (i := 0) X fc5 dX6_firstRing_80 tcn1 tc1 (Nat.le_of_ble_eq_true rfl) rfl lw491 rfl (fun v12 hv12 => ?_)
          refine go_icmp_ge (tgt := 106) X dX6_firstRing_83 rfl hv9 hv12 (fun c13 => ?_) (fun c13 => ?_)
          · refine go_sub [] rfl ?_
            exact hJ106_5 M10
          · refine go_aload_n X dX6_firstRing_86 rfl 0 rfl ?_
            refine go_iload_n X dX6_firstRing_87 rfl 1 rfl ?_
            refine goV (fun H locs ls r ho hW hL => runV X (ok_X6_draw l D base M10 v9 hv9 H.size r ho) dX6_firstRing_88 lw492 lw493 lw494 lw450 ⟨lw483, cy_X6_draw, Nat.le_of_ble_eq_true rfl, Nat.le_of_ble_eq_true rfl⟩ rfl tcn678 tc678 rfl rfl rfl rfl (Nat.le_of_ble_eq_true rfl) hW hL hk0) (fun _ M14 => ?_)
            refine go_aload_n X dX6_firstRing_91 rfl 0 rfl ?_
            refine goI (fun H locs ls r ho hW hL => runV X (ok_X6_hasRing l D base M14  H.size r ho) dX6_firstRing_92 lw498 lw499 lw500 lw450 ⟨lw490, cy_X6_hasRing, Nat.le_of_ble_eq_true rfl, Nat.le_of_ble_eq_true rfl⟩ rfl tcn678 tc678 rfl rfl rfl rfl (Nat.le_of_ble_eq_true rfl) hW hL hk0) (fun v16 M15 hv16 => ?_)
            refine go_if_eq (tgt := 100) X dX6_firstRing_95 rfl (bo_i32 hv16) (fun c17 => ?_) (fun c17 => ?_)
            · refine go_iinc (i := 2) (L' := fun v => [(2, .int (Ii v)), (0, .ref (base + 678))]) X dX6_firstRing_100 hv9 kI_1 (j := 1) rfl (by decide) (fun _ => rfl) (fun v18 hv18 => ?_)
              refine go_goto (tgt := 75) X dX6_firstRing_103 rfl ?_
              refine go_sub [1, 0] rfl ?_
              exact hrc75_11 v18 M15 hv18
            · refine go_sub [1] rfl ?_
              exact hJ98_8 v9 M15 hv9
          )
          FU 0 M2 kI_0
      )
      (fun J73_3 hJ73_3 => ?_)
  refine go_sub [2, 1, 0] rfl ?_
  exact go_lp (fun (rc : Int × Int × Mm → Rs) => ∀ (v20 : Int) (v21 : Int) (M22 : Mm), bo v20 → i32 v21 → Go p l e (rmO 6 151) s m args below meth c D TC 681 base 4 0 0 (FinI D TC 681 base below args s i32) M22 12 [(0, .ref (base + 678)), (1, .int (Ii v20)), (2, .int (Ii v21))] [] (rc (v20, v21, M22)))
      (by intro v20 v21 M22 hv20 hv21; exact go_none)
      (by
      intro rc12_23 hrc12_23 v20 v21 M22 hv20 hv21
      unfold f_X6_firstRing_L12_54
      dsimp only
      refine go_iload_n X dX6_firstRing_12 rfl 2 rfl ?_
      refine go_sipush (v := 200) X dX6_firstRing_13 (by decide) ?_
      refine go_icmp_ge (tgt := 73) X dX6_firstRing_16 rfl hv21 kI_200 (fun c24 => ?_) (fun c24 => ?_)
      · refine go_sub [0] rfl ?_
        exact hJ73_3 M22
      · refine go_iload_n X dX6_firstRing_19 rfl 1 rfl ?_
        refine go_if_eq (tgt := 73) X dX6_firstRing_20 rfl (bo_i32 hv20) (fun c25 => ?_) (fun c25 => ?_)
        · refine go_sub [0] rfl ?_
          exact hJ73_3 M22
        · refine go_iconst (v := 0) X dX6_firstRing_23 rfl ?_
          refine go_istore_n (i := 1) (L' := [(1, .int (Ii 0)), (0, .ref (base + 678)), (2, .int (Ii v21))]) X dX6_firstRing_24 rfl (by decide) rfl ?_
          refine go_iconst (v := 0) X dX6_firstRing_25 rfl ?_
          refine go_istore_n (i := 3) (L' := [(3, .int (Ii 0)), (1, .int (Ii 0)), (0, .ref (base + 678)), (2, .int (Ii v21))]) X dX6_firstRing_26 rfl (by decide) rfl ?_
          refine go_lt (fun J => ∀ (v26 : Int) (v27 : Int) (M28 : Mm), bo v26 → i32 v27 → Go p l e (rmO 6 151) s m args below meth c D TC 681 base 4 0 0 (FinI D TC 681 base below args s i32) M28 67 [(0, .ref (base + 678)), (1, .int (Ii v26)), (2, .int (Ii v27))] [] (J v26 v27 M28)) (by
              intro v26 v27 M28 hv26 hv27
              refine go_iinc (i := 2) (L' := fun v => [(2, .int (Ii v)), (0, .ref (base + 678)), (1, .int (Ii v26))]) X dX6_firstRing_67 hv27 kI_1 (j := 2) rfl (by decide) (fun _ => rfl) (fun v30 hv30 => ?_)
              refine go_goto (tgt := 12) X dX6_firstRing_70 rfl ?_
              refine go_sub [1, 2, 0] rfl ?_
              exact hrc12_23 v26 v30 M28 hv26 hv30
              )
              (fun J67_29 hJ67_29 => ?_)
          refine go_sub [2, 1, 3, 0] rfl ?_
          exact go_lp (fun (rc : Int × Int × Int × Mm → Rs) => ∀ (v31 : Int) (v32 : Int) (v33 : Int) (M34 : Mm), bo v31 → i32 v32 → i32 v33 → Go p l e (rmO 6 151) s m args below meth c D TC 681 base 4 0 0 (FinI D TC 681 base below args s i32) M34 27 [(0, .ref (base + 678)), (1, .int (Ii v31)), (2, .int (Ii v32)), (3, .int (Ii v33))] [] (rc (v31, v32, v33, M34)))
              (by intro v31 v32 v33 M34 hv31 hv32 hv33; exact go_none)
              (by
              intro rc27_35 hrc27_35 v31 v32 v33 M34 hv31 hv32 hv33
              unfold f_X6_firstRing_L27_53
              dsimp only
              refine go_iload_n X dX6_firstRing_27 rfl 3 rfl ?_
              refine go_aload_n X dX6_firstRing_28 rfl 0 rfl ?_
              refine go_getc (i := 0) X fc6 dX6_firstRing_29 tcn678 tc678 (Nat.le_of_ble_eq_true rfl) rfl lw435 rfl ?_
              refine go_geti (i := 0) X fc5 dX6_firstRing_32 tcn1 tc1 (Nat.le_of_ble_eq_true rfl) rfl lw491 rfl (fun v36 hv36 => ?_)
              refine go_icmp_ge (tgt := 67) X dX6_firstRing_35 rfl hv33 hv36 (fun c37 => ?_) (fun c37 => ?_)
              · refine go_sub [0, 1, 2] rfl ?_
                exact hJ67_29 v31 v32 M34 hv31 hv32
              · refine go_aload_n X dX6_firstRing_38 rfl 0 rfl ?_
                refine go_iload_n X dX6_firstRing_39 rfl 3 rfl ?_
                refine goV (fun H locs ls r ho hW hL => runV X (ok_X6_draw l D base M34 v33 hv33 H.size r ho) dX6_firstRing_40 lw492 lw493 lw494 lw450 ⟨lw483, cy_X6_draw, Nat.le_of_ble_eq_true rfl, Nat.le_of_ble_eq_true rfl⟩ rfl tcn678 tc678 rfl rfl rfl rfl (Nat.le_of_ble_eq_true rfl) hW hL hk0) (fun _ M38 => ?_)
                refine go_aload_n X dX6_firstRing_43 rfl 0 rfl ?_
                refine go_iload_n X dX6_firstRing_44 rfl 3 rfl ?_
                refine goI (fun H locs ls r ho hW hL => runV X (ok_X6_tellRelations l D base M38 v33 hv33 H.size r ho) dX6_firstRing_45 lw495 lw496 lw497 lw450 ⟨lw489, cy_X6_tellRelations, Nat.le_of_ble_eq_true rfl, Nat.le_of_ble_eq_true rfl⟩ rfl tcn678 tc678 rfl rfl rfl rfl (Nat.le_of_ble_eq_true rfl) hW hL hk0) (fun v40 M39 hv40 => ?_)
                refine go_lt (fun J => ∀ (v41 : Int) (v42 : Int) (v43 : Int) (M44 : Mm), i32 v41 → i32 v42 → bo v43 → Go p l e (rmO 6 151) s m args below meth c D TC 681 base 4 0 0 (FinI D TC 681 base below args s i32) M44 60 [(0, .ref (base + 678)), (2, .int (Ii v41)), (3, .int (Ii v42))] [.int (Ii v43)] (J v41 v42 v43 M44)) (by
                    intro v41 v42 v43 M44 hv41 hv42 hv43
                    refine go_istore_n (i := 1) (L' := [(1, .int (Ii v43)), (0, .ref (base + 678)), (2, .int (Ii v41)), (3, .int (Ii v42))]) X dX6_firstRing_60 rfl (by decide) rfl ?_
                    refine go_iinc (i := 3) (L' := fun v => [(3, .int (Ii v)), (1, .int (Ii v43)), (0, .ref (base + 678)), (2, .int (Ii v41))]) X dX6_firstRing_61 hv42 kI_1 (j := 3) rfl (by decide) (fun _ => rfl) (fun v46 hv46 => ?_)
                    refine go_goto (tgt := 27) X dX6_firstRing_64 rfl ?_
                    refine go_sub [2, 1, 3, 0] rfl ?_
                    exact hrc27_35 v43 v41 v46 M44 hv43 hv41 hv46
                    )
                    (fun J60_45 hJ60_45 => ?_)
                refine go_lt (fun J => ∀ (v47 : Int) (v48 : Int) (M49 : Mm), i32 v47 → i32 v48 → Go p l e (rmO 6 151) s m args below meth c D TC 681 base 4 0 0 (FinI D TC 681 base below args s i32) M49 55 [(0, .ref (base + 678)), (2, .int (Ii v47)), (3, .int (Ii v48))] [] (J v47 v48 M49)) (by
                    intro v47 v48 M49 hv47 hv48
                    refine go_iconst (v := 1) X dX6_firstRing_55 rfl ?_
                    refine go_goto (tgt := 60) X dX6_firstRing_56 rfl ?_
                    exact hJ60_45 v47 v48 1 M49 hv47 hv48 (Or.inr rfl)
                    )
                    (fun J55_50 hJ55_50 => ?_)
                refine go_if_ne (tgt := 55) X dX6_firstRing_48 rfl (bo_i32 hv40) (fun c51 => ?_) (fun c51 => ?_)
                · refine go_sub [0, 2, 3] rfl ?_
                  exact hJ55_50 v32 v33 M39 hv32 hv33
                · refine go_iload_n X dX6_firstRing_51 rfl 1 rfl ?_
                  refine go_if_eq (tgt := 59) X dX6_firstRing_52 rfl (bo_i32 hv31) (fun c52 => ?_) (fun c52 => ?_)
                  · refine go_iconst (v := 0) X dX6_firstRing_59 rfl ?_
                    refine go_sub [0, 2, 3] rfl ?_
                    exact hJ60_45 v32 v33 0 M39 hv32 hv33 (Or.inl rfl)
                  · refine go_sub [0, 2, 3] rfl ?_
                    exact hJ55_50 v32 v33 M39 hv32 hv33
              )
              FU 0 v21 0 M22 (Or.inl rfl) hv21 kI_0
      )
      FU 1 0 M1 (Or.inr rfl) kI_0
def f_X11_ringIn (M : Mm) : Rs :=
Cl (f_X6_firstRing M) fun v2 M1 =>
some (v2, M1)
theorem cy_X11_ringIn : yX11_ringIn.cls ≠ "java/lang/invoke/MethodHandle" ∧ yX11_ringIn.cls ≠ "java/lang/invoke/VarHandle" ∧ (parseMethodDescriptor yX11_ringIn.desc).map (fun d => d.parameters.length) = some 0 := ⟨by decide +kernel, by decide +kernel, by decide +kernel⟩
set_option maxRecDepth 20000 in
theorem ok_X11_ringIn (l : Launch) (D : Dd) (base : Nat) (M : Mm) : OkI l D TC 681 base yX11_ringIn cX11_ringIn 1 (some .int) 7 174 [.ref (base + 0)] M i32 (f_X11_ringIn M) := by
  refine metI (by decide +kernel) [(0, .ref (base + 0))] rfl (Nat.le_of_ble_eq_true rfl) (fun p e s m args below meth c X hrt hlk => ?_)
  have X : Cx p s m args c cX11_ringIn D 1 RX11 := X
  unfold f_X11_ringIn
  refine go_aload_n X dX11_ringIn_0 rfl 0 rfl ?_
  refine go_getc (i := 10) X fc11 dX11_ringIn_1 tcn0 tc0 (Nat.le_of_ble_eq_true rfl) rfl lw666 rfl ?_
  refine goI (fun H locs ls r ho hW hL => runV X (ok_X6_firstRing l D base M  H.size r ho) dX11_ringIn_4 lw787 lw788 lw789 lw450 ⟨lw501, cy_X6_firstRing, Nat.le_of_ble_eq_true rfl, Nat.le_of_ble_eq_true rfl⟩ rfl tcn678 tc678 rfl rfl rfl rfl (Nat.le_of_ble_eq_true rfl) hW hL hk0) (fun v2 M1 hv2 => ?_)
  exact go_ireturn X hrt hlk dX11_ringIn_7 hv2
def f_X11_cost (M : Mm) : Rs :=
Lt (M 283 0) fun v1 =>
Lt (fun (v2 : Int) (M3 : Mm) => 
some (v2, M3)) fun J21_4 =>
if ¬ v1 = 0 then (
Lt (M 283 1) fun v6 =>
J21_4 v6 M) else (
J21_4 ((-1)) M)
theorem cy_X11_cost : yX11_cost.cls ≠ "java/lang/invoke/MethodHandle" ∧ yX11_cost.cls ≠ "java/lang/invoke/VarHandle" ∧ (parseMethodDescriptor yX11_cost.desc).map (fun d => d.parameters.length) = some 0 := ⟨by decide +kernel, by decide +kernel, by decide +kernel⟩
set_option maxRecDepth 20000 in
theorem ok_X11_cost (l : Launch) (D : Dd) (base : Nat) (M : Mm) : OkI l D TC 681 base yX11_cost cX11_cost 1 (some .int) 0 0 [.ref (base + 0)] M i32 (f_X11_cost M) := by
  refine metI (by decide +kernel) [(0, .ref (base + 0))] rfl (Nat.le_of_ble_eq_true rfl) (fun p e s m args below meth c X hrt hlk => ?_)
  have X : Cx p s m args c cX11_cost D 1 RX11 := X
  unfold f_X11_cost
  refine go_aload_n X dX11_cost_0 rfl 0 rfl ?_
  refine go_getc (i := 4) X fc11 dX11_cost_1 tcn0 tc0 (Nat.le_of_ble_eq_true rfl) rfl lw652 rfl ?_
  refine go_geti (i := 0) X fc8 dX11_cost_4 tcn283 tc283 (Nat.le_of_ble_eq_true rfl) rfl lw791 rfl (fun v1 hv1 => ?_)
  refine go_lt (fun J => ∀ (v2 : Int) (M3 : Mm), i32 v2 → Go p l e (rmO 0 0) s m args below meth c D TC 681 base 1 0 0 (FinI D TC 681 base below args s i32) M3 21 [] [.int (Ii v2)] (J v2 M3)) (by
      intro v2 M3 hv2
      exact go_ireturn X hrt hlk dX11_cost_21 hv2
      )
      (fun J21_4 hJ21_4 => ?_)
  refine go_if_ne (tgt := 14) X dX11_cost_7 rfl hv1 (fun c5 => ?_) (fun c5 => ?_)
  · refine go_aload_n X dX11_cost_14 rfl 0 rfl ?_
    refine go_getc (i := 4) X fc11 dX11_cost_15 tcn0 tc0 (Nat.le_of_ble_eq_true rfl) rfl lw652 rfl ?_
    refine go_geti (i := 1) X fc8 dX11_cost_18 tcn283 tc283 (Nat.le_of_ble_eq_true rfl) rfl lw826 rfl (fun v6 hv6 => ?_)
    refine go_sub [] rfl ?_
    exact hJ21_4 v6 M hv6
  · refine go_iconst (v := (-1)) X dX11_cost_10 rfl ?_
    refine go_goto (tgt := 21) X dX11_cost_11 rfl ?_
    refine go_sub [] rfl ?_
    exact hJ21_4 ((-1)) M kI_m1
def f_X11_found (M : Mm) : Rs :=
Lt (M 299 0) fun v1 =>
some (v1, M)
theorem cy_X11_found : yX11_found.cls ≠ "java/lang/invoke/MethodHandle" ∧ yX11_found.cls ≠ "java/lang/invoke/VarHandle" ∧ (parseMethodDescriptor yX11_found.desc).map (fun d => d.parameters.length) = some 0 := ⟨by decide +kernel, by decide +kernel, by decide +kernel⟩
set_option maxRecDepth 20000 in
theorem ok_X11_found (l : Launch) (D : Dd) (base : Nat) (M : Mm) : OkI l D TC 681 base yX11_found cX11_found 1 (some .int) 0 0 [.ref (base + 0)] M i32 (f_X11_found M) := by
  refine metI (by decide +kernel) [(0, .ref (base + 0))] rfl (Nat.le_of_ble_eq_true rfl) (fun p e s m args below meth c X hrt hlk => ?_)
  have X : Cx p s m args c cX11_found D 1 RX11 := X
  unfold f_X11_found
  refine go_aload_n X dX11_found_0 rfl 0 rfl ?_
  refine go_getc (i := 6) X fc11 dX11_found_1 tcn0 tc0 (Nat.le_of_ble_eq_true rfl) rfl lw656 rfl ?_
  refine go_geti (i := 0) X fc3 dX11_found_4 tcn299 tc299 (Nat.le_of_ble_eq_true rfl) rfl lw855 rfl (fun v1 hv1 => ?_)
  exact go_ireturn X hrt hlk dX11_found_7 hv1
def f_X5_standInOf (a1 : Int) (a2 : Int) (M : Mm) : Rs :=
Lt (fun (v1 : Int) (M2 : Mm) => 
Lt (fun (v4 : Int) (M5 : Mm) => 
some (v4, M5)) fun J35_6 =>
if v1 = 0 then (
J35_6 ((-1)) M2) else (
Lt (wr (a1 * 3)) fun v8 =>
Lt (wr (v8 + a2)) fun v9 =>
Cl (f_X11_entryOf 10 v9 M2) fun v11 M10 =>
J35_6 v11 M10)) fun J14_3 =>
Lt (fun (M12 : Mm) => 
J14_3 0 M12) fun J13_13 =>
if a2 < 0 then (
J13_13 M) else (
if 3 ≤ a2 then (
J13_13 M) else (
J14_3 1 M))
theorem cy_X5_standInOf : yX5_standInOf.cls ≠ "java/lang/invoke/MethodHandle" ∧ yX5_standInOf.cls ≠ "java/lang/invoke/VarHandle" ∧ (parseMethodDescriptor yX5_standInOf.desc).map (fun d => d.parameters.length) = some 2 := ⟨by decide +kernel, by decide +kernel, by decide +kernel⟩
set_option maxRecDepth 20000 in
theorem ok_X5_standInOf (l : Launch) (D : Dd) (base : Nat) (M : Mm) (a1 : Int) (ha1 : i32 a1) (a2 : Int) (ha2 : i32 a2) : OkI l D TC 681 base yX5_standInOf cX5_standInOf 4 (some .int) 1 21 [.ref (base + 1), .int (Ii a1), .int (Ii a2)] M i32 (f_X5_standInOf a1 a2 M) := by
  refine metI (by decide +kernel) [(0, .ref (base + 1)), (1, .int (Ii a1)), (2, .int (Ii a2))] rfl (Nat.le_of_ble_eq_true rfl) (fun p e s m args below meth c X hrt hlk => ?_)
  have X : Cx p s m args c cX5_standInOf D 4 RX5 := X
  unfold f_X5_standInOf
  refine go_iload_n X dX5_standInOf_0 rfl 2 rfl ?_
  refine go_lt (fun J => ∀ (v1 : Int) (M2 : Mm), bo v1 → Go p l e (rmO 1 21) s m args below meth c D TC 681 base 4 0 0 (FinI D TC 681 base below args s i32) M2 14 [(0, .ref (base + 1)), (1, .int (Ii a1)), (2, .int (Ii a2))] [.int (Ii v1)] (J v1 M2)) (by
      intro v1 M2 hv1
      refine go_istore_n (i := 3) (L' := [(3, .int (Ii v1)), (0, .ref (base + 1)), (1, .int (Ii a1)), (2, .int (Ii a2))]) X dX5_standInOf_14 rfl (by decide) rfl ?_
      refine go_iload_n X dX5_standInOf_15 rfl 0 rfl ?_
      refine go_lt (fun J => ∀ (v4 : Int) (M5 : Mm), i32 v4 → Go p l e (rmO 1 21) s m args below meth c D TC 681 base 4 0 0 (FinI D TC 681 base below args s i32) M5 35 [] [.int (Ii v4)] (J v4 M5)) (by
          intro v4 M5 hv4
          exact go_ireturn X hrt hlk dX5_standInOf_35 hv4
          )
          (fun J35_6 hJ35_6 => ?_)
      refine go_if_eq (tgt := 34) X dX5_standInOf_16 rfl (bo_i32 hv1) (fun c7 => ?_) (fun c7 => ?_)
      · refine go_iconst (v := (-1)) X dX5_standInOf_34 rfl ?_
        refine go_sub [] rfl ?_
        exact hJ35_6 ((-1)) M2 kI_m1
      · refine go_aload_n X dX5_standInOf_19 rfl 1 rfl ?_
        refine go_getc (i := 10) X fc5 dX5_standInOf_20 tcn1 tc1 (Nat.le_of_ble_eq_true rfl) rfl lw70 rfl ?_
        refine go_iload_n X dX5_standInOf_23 rfl 2 rfl ?_
        refine go_iconst (v := 3) X dX5_standInOf_24 rfl ?_
        refine go_imul X dX5_standInOf_25 ha1 kI_3 (fun v8 hv8 => ?_)
        refine go_iload_n X dX5_standInOf_26 rfl 3 rfl ?_
        refine go_iadd X dX5_standInOf_27 hv8 ha2 (fun v9 hv9 => ?_)
        refine goI (fun H locs ls r ho hW hL => runSN X (ok_X11_entryOf l D base M2 10 isAC_10 v9 hv9 H.size r ho) dX5_standInOf_28 nl10 lw20 lw19 ⟨lw13, cy_X11_entryOf, Nat.le_of_ble_eq_true rfl, Nat.le_of_ble_eq_true rfl⟩ rfl rfl (Nat.le_of_ble_eq_true rfl) hW hL hk0) (fun v11 M10 hv11 => ?_)
        refine go_goto (tgt := 35) X dX5_standInOf_31 rfl ?_
        refine go_sub [] rfl ?_
        exact hJ35_6 v11 M10 hv11
      )
      (fun J14_3 hJ14_3 => ?_)
  refine go_lt (fun J => ∀ (M12 : Mm), Go p l e (rmO 1 21) s m args below meth c D TC 681 base 4 0 0 (FinI D TC 681 base below args s i32) M12 13 [(0, .ref (base + 1)), (1, .int (Ii a1)), (2, .int (Ii a2))] [] (J M12)) (by
      intro M12
      refine go_iconst (v := 0) X dX5_standInOf_13 rfl ?_
      exact hJ14_3 0 M12 (Or.inl rfl)
      )
      (fun J13_13 hJ13_13 => ?_)
  refine go_if_lt (tgt := 13) X dX5_standInOf_1 rfl ha2 (fun c14 => ?_) (fun c14 => ?_)
  · exact hJ13_13 M
  · refine go_iload_n X dX5_standInOf_4 rfl 2 rfl ?_
    refine go_iconst (v := 3) X dX5_standInOf_5 rfl ?_
    refine go_icmp_ge (tgt := 13) X dX5_standInOf_6 rfl ha2 kI_3 (fun c15 => ?_) (fun c15 => ?_)
    · exact hJ13_13 M
    · refine go_iconst (v := 1) X dX5_standInOf_9 rfl ?_
      refine go_goto (tgt := 14) X dX5_standInOf_10 rfl ?_
      exact hJ14_3 1 M (Or.inr rfl)
def f_X5_forwardOf (a1 : Int) (M : Mm) : Rs :=
Lt (fun (v1 : Int) (M2 : Mm) => 
some (v1, M2)) fun J20_3 =>
Lt (fun (M4 : Mm) => 
J20_3 ((-1)) M4) fun J19_5 =>
if a1 < 0 then (
J19_5 M) else (
if 10 ≤ a1 then (
J19_5 M) else (
gd (0 ≤ a1 ∧ a1 < 10) <|
Lt (M 9 a1.toNat) fun v8 =>
J20_3 v8 M))
theorem cy_X5_forwardOf : yX5_forwardOf.cls ≠ "java/lang/invoke/MethodHandle" ∧ yX5_forwardOf.cls ≠ "java/lang/invoke/VarHandle" ∧ (parseMethodDescriptor yX5_forwardOf.desc).map (fun d => d.parameters.length) = some 1 := ⟨by decide +kernel, by decide +kernel, by decide +kernel⟩
set_option maxRecDepth 20000 in
theorem ok_X5_forwardOf (l : Launch) (D : Dd) (base : Nat) (M : Mm) (a1 : Int) (ha1 : i32 a1) : OkI l D TC 681 base yX5_forwardOf cX5_forwardOf 2 (some .int) 0 0 [.ref (base + 1), .int (Ii a1)] M i32 (f_X5_forwardOf a1 M) := by
  refine metI (by decide +kernel) [(0, .ref (base + 1)), (1, .int (Ii a1))] rfl (Nat.le_of_ble_eq_true rfl) (fun p e s m args below meth c X hrt hlk => ?_)
  have X : Cx p s m args c cX5_forwardOf D 2 RX5 := X
  unfold f_X5_forwardOf
  refine go_iload_n X dX5_forwardOf_0 rfl 1 rfl ?_
  refine go_lt (fun J => ∀ (v1 : Int) (M2 : Mm), i32 v1 → Go p l e (rmO 0 0) s m args below meth c D TC 681 base 2 0 0 (FinI D TC 681 base below args s i32) M2 20 [] [.int (Ii v1)] (J v1 M2)) (by
      intro v1 M2 hv1
      exact go_ireturn X hrt hlk dX5_forwardOf_20 hv1
      )
      (fun J20_3 hJ20_3 => ?_)
  refine go_lt (fun J => ∀ (M4 : Mm), Go p l e (rmO 0 0) s m args below meth c D TC 681 base 2 0 0 (FinI D TC 681 base below args s i32) M4 19 [] [] (J M4)) (by
      intro M4
      refine go_iconst (v := (-1)) X dX5_forwardOf_19 rfl ?_
      exact hJ20_3 ((-1)) M4 kI_m1
      )
      (fun J19_5 hJ19_5 => ?_)
  refine go_if_lt (tgt := 19) X dX5_forwardOf_1 rfl ha1 (fun c6 => ?_) (fun c6 => ?_)
  · refine go_sub [] rfl ?_
    exact hJ19_5 M
  · refine go_iload_n X dX5_forwardOf_4 rfl 1 rfl ?_
    refine go_bipush (v := 10) X dX5_forwardOf_5 (by decide) ?_
    refine go_icmp_ge (tgt := 19) X dX5_forwardOf_7 rfl ha1 kI_10 (fun c7 => ?_) (fun c7 => ?_)
    · refine go_sub [] rfl ?_
      exact hJ19_5 M
    · refine go_aload_n X dX5_forwardOf_10 rfl 0 rfl ?_
      refine go_getc (i := 9) X fc5 dX5_forwardOf_11 tcn1 tc1 (Nat.le_of_ble_eq_true rfl) rfl lw74 rfl ?_
      refine go_iload_n X dX5_forwardOf_14 rfl 1 rfl ?_
      refine go_iaload X dX5_forwardOf_15 tcn9 tc9 ha1 (fun v8 hv8 => ?_)
      refine go_goto (tgt := 20) X dX5_forwardOf_16 rfl ?_
      refine go_sub [] rfl ?_
      exact hJ20_3 v8 M hv8
