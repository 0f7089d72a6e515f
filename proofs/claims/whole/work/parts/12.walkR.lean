def f_X12_toggle (a1 : Int) (M : Mm) : Rs :=
Cl (f_X12_isIn a1 0 3 M) fun v2 M1 =>
Lt (fun (v3 : Int) (M4 : Mm) => 
Cl (f_X12_fails v3 M4) fun v7 M6 =>
if v7 = 0 then (
gd (0 ≤ a1 ∧ a1 < 4) <|
Lt (M6 27 a1.toNat) fun v9 =>
Lt (fun (v10 : Int) (M11 : Mm) => 
gd (0 ≤ a1 ∧ a1 < 4) <|
Lt (up M11 27 a1.toNat v10) fun M13 =>
Cl (f_X12_dropsAll M13) fun _ M14 =>
gd (0 ≤ a1 ∧ a1 < 4) <|
Lt (M14 27 a1.toNat) fun v15 =>
Lt (fun (v16 : Int) (M17 : Mm) => 
some (v16, M17)) fun J61_18 =>
if ¬ v15 = 0 then (
J61_18 0 M14) else (
J61_18 1 M14)) fun J42_12 =>
if ¬ v9 = 0 then (
J42_12 0 M6) else (
J42_12 1 M6)) else (
some (0, M6))) fun J15_5 =>
if v2 = 0 then (
J15_5 1 M1) else (
J15_5 0 M1)
theorem cy_X12_toggle : yX12_toggle.cls ≠ "java/lang/invoke/MethodHandle" ∧ yX12_toggle.cls ≠ "java/lang/invoke/VarHandle" ∧ (parseMethodDescriptor yX12_toggle.desc).map (fun d => d.parameters.length) = some 1 := ⟨by decide +kernel, by decide +kernel, by decide +kernel⟩
set_option maxRecDepth 20000 in
theorem ok_X12_toggle (l : Launch) (D : Dd) (base : Nat) (M : Mm) (a1 : Int) (ha1 : i32 a1) : OkI l D TR 67 base yX12_toggle cX12_toggle 2 (some .boolean) 1 22 [.ref (base + 0), .int (Ii a1)] M bo (f_X12_toggle a1 M) := by
  refine metI (by decide +kernel) [(0, .ref (base + 0)), (1, .int (Ii a1))] rfl (Nat.le_of_ble_eq_true rfl) (fun p e s m args below meth c X hrt hlk => ?_)
  have X : Cx p s m args c cX12_toggle D 2 RX12 := X
  unfold f_X12_toggle
  refine go_aload_n X dX12_toggle_0 rfl 0 rfl ?_
  refine go_iload_n X dX12_toggle_1 rfl 1 rfl ?_
  refine go_iconst (v := 0) X dX12_toggle_2 rfl ?_
  refine go_iconst (v := 3) X dX12_toggle_3 rfl ?_
  refine goI (fun H locs ls r ho hW hL => runS X (ok_X12_isIn l D base M a1 ha1 0 kI_0 3 kI_3 H.size r ho) dX12_toggle_4 lw942 lw943 lw944 ⟨lw939, cy_X12_isIn, Nat.le_of_ble_eq_true rfl, Nat.le_of_ble_eq_true rfl⟩ rfl rfl (Nat.le_of_ble_eq_true rfl) hW hL hk0) (fun v2 M1 hv2 => ?_)
  refine go_lt (fun J => ∀ (v3 : Int) (M4 : Mm), bo v3 → Go p l e (rmO 1 22) s m args below meth c D TR 67 base 2 0 0 (FinI D TR 67 base below args s bo) M4 15 [(0, .ref (base + 0)), (1, .int (Ii a1))] [.int (Ii v3), .ref (base + 0)] (J v3 M4)) (by
      intro v3 M4 hv3
      refine goI (fun H locs ls r ho hW hL => runV X (ok_X12_fails l D base M4 v3 (bo_i32 hv3) H.size r ho) dX12_toggle_15 lw954 lw955 lw956 lw944 ⟨lw937, cy_X12_fails, Nat.le_of_ble_eq_true rfl, Nat.le_of_ble_eq_true rfl⟩ rfl trn0 tr0 rfl rfl rfl rfl (Nat.le_of_ble_eq_true rfl) hW hL hk0) (fun v7 M6 hv7 => ?_)
      refine go_if_eq (tgt := 23) X dX12_toggle_18 rfl (bo_i32 hv7) (fun c8 => ?_) (fun c8 => ?_)
      · refine go_aload_n X dX12_toggle_23 rfl 0 rfl ?_
        refine go_getc (i := 31) X fc12 dX12_toggle_24 trn0 tr0 (Nat.le_of_ble_eq_true rfl) rfl lw892 rfl ?_
        refine go_iload_n X dX12_toggle_27 rfl 1 rfl ?_
        refine go_aload_n X dX12_toggle_28 rfl 0 rfl ?_
        refine go_getc (i := 31) X fc12 dX12_toggle_29 trn0 tr0 (Nat.le_of_ble_eq_true rfl) rfl lw892 rfl ?_
        refine go_iload_n X dX12_toggle_32 rfl 1 rfl ?_
        refine go_zaload X dX12_toggle_33 trn27 tr27 ha1 (fun v9 hv9 => ?_)
        refine go_lt (fun J => ∀ (v10 : Int) (M11 : Mm), bo v10 → Go p l e (rmO 1 22) s m args below meth c D TR 67 base 2 0 0 (FinI D TR 67 base below args s bo) M11 42 [(0, .ref (base + 0)), (1, .int (Ii a1))] [.int (Ii v10), .int (Ii a1), .ref (base + 27)] (J v10 M11)) (by
            intro v10 M11 hv10
            refine go_zastore X dX12_toggle_42 trn27 tr27 ha1 hv10 (fun M13 => ?_)
            refine go_aload_n X dX12_toggle_43 rfl 0 rfl ?_
            refine goV (fun H locs ls r ho hW hL => runV X (ok_X12_dropsAll l D base M13  H.size r ho) dX12_toggle_44 lw960 lw961 lw962 lw944 ⟨lw949, cy_X12_dropsAll, Nat.le_of_ble_eq_true rfl, Nat.le_of_ble_eq_true rfl⟩ rfl trn0 tr0 rfl rfl rfl rfl (Nat.le_of_ble_eq_true rfl) hW hL hk0) (fun _ M14 => ?_)
            refine go_aload_n X dX12_toggle_47 rfl 0 rfl ?_
            refine go_getc (i := 31) X fc12 dX12_toggle_48 trn0 tr0 (Nat.le_of_ble_eq_true rfl) rfl lw892 rfl ?_
            refine go_iload_n X dX12_toggle_51 rfl 1 rfl ?_
            refine go_zaload X dX12_toggle_52 trn27 tr27 ha1 (fun v15 hv15 => ?_)
            refine go_lt (fun J => ∀ (v16 : Int) (M17 : Mm), bo v16 → Go p l e (rmO 1 22) s m args below meth c D TR 67 base 2 0 0 (FinI D TR 67 base below args s bo) M17 61 [] [.int (Ii v16)] (J v16 M17)) (by
                intro v16 M17 hv16
                exact go_zreturn X hrt hlk dX12_toggle_61 hv16 hv16
                )
                (fun J61_18 hJ61_18 => ?_)
            refine go_if_ne (tgt := 60) X dX12_toggle_53 rfl (bo_i32 hv15) (fun c19 => ?_) (fun c19 => ?_)
            · refine go_iconst (v := 0) X dX12_toggle_60 rfl ?_
              refine go_sub [] rfl ?_
              exact hJ61_18 0 M14 (Or.inl rfl)
            · refine go_iconst (v := 1) X dX12_toggle_56 rfl ?_
              refine go_goto (tgt := 61) X dX12_toggle_57 rfl ?_
              refine go_sub [] rfl ?_
              exact hJ61_18 1 M14 (Or.inr rfl)
            )
            (fun J42_12 hJ42_12 => ?_)
        refine go_if_ne (tgt := 41) X dX12_toggle_34 rfl (bo_i32 hv9) (fun c20 => ?_) (fun c20 => ?_)
        · refine go_iconst (v := 0) X dX12_toggle_41 rfl ?_
          exact hJ42_12 0 M6 (Or.inl rfl)
        · refine go_iconst (v := 1) X dX12_toggle_37 rfl ?_
          refine go_goto (tgt := 42) X dX12_toggle_38 rfl ?_
          exact hJ42_12 1 M6 (Or.inr rfl)
      · refine go_iconst (v := 0) X dX12_toggle_21 rfl ?_
        exact go_zreturn X hrt hlk dX12_toggle_22 (Or.inl rfl) (Or.inl rfl)
      )
      (fun J15_5 hJ15_5 => ?_)
  refine go_if_eq (tgt := 14) X dX12_toggle_7 rfl (bo_i32 hv2) (fun c21 => ?_) (fun c21 => ?_)
  · refine go_iconst (v := 1) X dX12_toggle_14 rfl ?_
    exact hJ15_5 1 M1 (Or.inr rfl)
  · refine go_iconst (v := 0) X dX12_toggle_10 rfl ?_
    refine go_goto (tgt := 15) X dX12_toggle_11 rfl ?_
    exact hJ15_5 0 M1 (Or.inl rfl)
def f_X12_counts (a1 : Int) (a2 : Int) (a3 : Int) (a4 : Int) (M : Mm) : Rs :=
gd (0 ≤ a1 ∧ a1 < 30) <|
Lt (M 16 a1.toNat) fun v1 =>
Lt (fun (v2 : Int) (M3 : Mm) => 
some (v2, M3)) fun J50_4 =>
Lt (fun (M5 : Mm) => 
J50_4 0 M5) fun J49_6 =>
if ¬ v1 = a2 then (
J49_6 M) else (
gd (0 ≤ a1 ∧ a1 < 30) <|
Lt (M 17 a1.toNat) fun v8 =>
if ¬ v8 = a3 then (
J49_6 M) else (
gd (0 ≤ a1 ∧ a1 < 30) <|
Lt (M 18 a1.toNat) fun v10 =>
if ¬ v10 = a4 then (
J49_6 M) else (
gd (0 ≤ a1 ∧ a1 < 30) <|
Lt (M 19 a1.toNat) fun v12 =>
gd (0 ≤ v12 ∧ v12 < 4) <|
Lt (M 27 v12.toNat) fun v13 =>
if ¬ v13 = 0 then (
J49_6 M) else (
J50_4 1 M))))
theorem cy_X12_counts : yX12_counts.cls ≠ "java/lang/invoke/MethodHandle" ∧ yX12_counts.cls ≠ "java/lang/invoke/VarHandle" ∧ (parseMethodDescriptor yX12_counts.desc).map (fun d => d.parameters.length) = some 4 := ⟨by decide +kernel, by decide +kernel, by decide +kernel⟩
set_option maxRecDepth 20000 in
theorem ok_X12_counts (l : Launch) (D : Dd) (base : Nat) (M : Mm) (a1 : Int) (ha1 : i32 a1) (a2 : Int) (ha2 : i32 a2) (a3 : Int) (ha3 : i32 a3) (a4 : Int) (ha4 : i32 a4) : OkI l D TR 67 base yX12_counts cX12_counts 5 (some .boolean) 0 0 [.ref (base + 0), .int (Ii a1), .int (Ii a2), .int (Ii a3), .int (Ii a4)] M bo (f_X12_counts a1 a2 a3 a4 M) := by
  refine metI (by decide +kernel) [(0, .ref (base + 0)), (1, .int (Ii a1)), (2, .int (Ii a2)), (3, .int (Ii a3)), (4, .int (Ii a4))] rfl (Nat.le_of_ble_eq_true rfl) (fun p e s m args below meth c X hrt hlk => ?_)
  have X : Cx p s m args c cX12_counts D 5 RX12 := X
  unfold f_X12_counts
  refine go_aload_n X dX12_counts_0 rfl 0 rfl ?_
  refine go_getc (i := 20) X fc12 dX12_counts_1 trn0 tr0 (Nat.le_of_ble_eq_true rfl) rfl lw881 rfl ?_
  refine go_iload_n X dX12_counts_4 rfl 1 rfl ?_
  refine go_iaload X dX12_counts_5 trn16 tr16 ha1 (fun v1 hv1 => ?_)
  refine go_iload_n X dX12_counts_6 rfl 2 rfl ?_
  refine go_lt (fun J => ∀ (v2 : Int) (M3 : Mm), bo v2 → Go p l e (rmO 0 0) s m args below meth c D TR 67 base 5 0 0 (FinI D TR 67 base below args s bo) M3 50 [] [.int (Ii v2)] (J v2 M3)) (by
      intro v2 M3 hv2
      exact go_zreturn X hrt hlk dX12_counts_50 hv2 hv2
      )
      (fun J50_4 hJ50_4 => ?_)
  refine go_lt (fun J => ∀ (M5 : Mm), Go p l e (rmO 0 0) s m args below meth c D TR 67 base 5 0 0 (FinI D TR 67 base below args s bo) M5 49 [] [] (J M5)) (by
      intro M5
      refine go_iconst (v := 0) X dX12_counts_49 rfl ?_
      exact hJ50_4 0 M5 (Or.inl rfl)
      )
      (fun J49_6 hJ49_6 => ?_)
  refine go_icmp_ne (tgt := 49) X dX12_counts_7 rfl hv1 ha2 (fun c7 => ?_) (fun c7 => ?_)
  · refine go_sub [] rfl ?_
    exact hJ49_6 M
  · refine go_aload_n X dX12_counts_10 rfl 0 rfl ?_
    refine go_getc (i := 21) X fc12 dX12_counts_11 trn0 tr0 (Nat.le_of_ble_eq_true rfl) rfl lw882 rfl ?_
    refine go_iload_n X dX12_counts_14 rfl 1 rfl ?_
    refine go_iaload X dX12_counts_15 trn17 tr17 ha1 (fun v8 hv8 => ?_)
    refine go_iload_n X dX12_counts_16 rfl 3 rfl ?_
    refine go_icmp_ne (tgt := 49) X dX12_counts_17 rfl hv8 ha3 (fun c9 => ?_) (fun c9 => ?_)
    · refine go_sub [] rfl ?_
      exact hJ49_6 M
    · refine go_aload_n X dX12_counts_20 rfl 0 rfl ?_
      refine go_getc (i := 22) X fc12 dX12_counts_21 trn0 tr0 (Nat.le_of_ble_eq_true rfl) rfl lw883 rfl ?_
      refine go_iload_n X dX12_counts_24 rfl 1 rfl ?_
      refine go_iaload X dX12_counts_25 trn18 tr18 ha1 (fun v10 hv10 => ?_)
      refine go_iload X dX12_counts_26 4 rfl ?_
      refine go_icmp_ne (tgt := 49) X dX12_counts_28 rfl hv10 ha4 (fun c11 => ?_) (fun c11 => ?_)
      · refine go_sub [] rfl ?_
        exact hJ49_6 M
      · refine go_aload_n X dX12_counts_31 rfl 0 rfl ?_
        refine go_getc (i := 31) X fc12 dX12_counts_32 trn0 tr0 (Nat.le_of_ble_eq_true rfl) rfl lw892 rfl ?_
        refine go_aload_n X dX12_counts_35 rfl 0 rfl ?_
        refine go_getc (i := 23) X fc12 dX12_counts_36 trn0 tr0 (Nat.le_of_ble_eq_true rfl) rfl lw884 rfl ?_
        refine go_iload_n X dX12_counts_39 rfl 1 rfl ?_
        refine go_iaload X dX12_counts_40 trn19 tr19 ha1 (fun v12 hv12 => ?_)
        refine go_zaload X dX12_counts_41 trn27 tr27 hv12 (fun v13 hv13 => ?_)
        refine go_if_ne (tgt := 49) X dX12_counts_42 rfl (bo_i32 hv13) (fun c14 => ?_) (fun c14 => ?_)
        · refine go_sub [] rfl ?_
          exact hJ49_6 M
        · refine go_iconst (v := 1) X dX12_counts_45 rfl ?_
          refine go_goto (tgt := 50) X dX12_counts_46 rfl ?_
          refine go_sub [] rfl ?_
          exact hJ50_4 1 M (Or.inr rfl)
def f_X12_conflicts_L17_63 (J100_16 : Int → Int → Int → Mm → Rs) (rc17_30 : Int × Int × Int × Int × Mm → Rs) : Int × Int × Int × Int × Mm → Rs := fun (v25, v26, v27, v28, M29) =>
Lt (M29 0 19) fun v31 =>
if v31 ≤ v28 then (
J100_16 v25 v26 v27 M29) else (
Lt (fun (v33 : Int) (v34 : Int) (v35 : Int) (v36 : Int) (M37 : Mm) => 
Lt (wr (v35 + 1)) fun v39 =>
rc17_30 (v33, v34, v36, v39, M37)) fun J93_38 =>
Lt (fun (v40 : Int) (v41 : Int) (v42 : Int) (M43 : Mm) => 
J93_38 v40 v41 v42 1 M43) fun J88_44 =>
if ¬ v27 = 0 then (
J88_44 v25 v26 v28 M29) else (
Lt (fun (v46 : Int) (v47 : Int) (v48 : Int) (M49 : Mm) => 
J93_38 v46 v47 v48 0 M49) fun J92_50 =>
if v28 = v26 then (
J92_50 v25 v26 v28 M29) else (
gd (0 ≤ v26 ∧ v26 < 30) <|
Lt (M29 18 v26.toNat) fun v52 =>
if v52 = ((-2)) then (
J92_50 v25 v26 v28 M29) else (
gd (0 ≤ v26 ∧ v26 < 30) <|
Lt (M29 19 v26.toNat) fun v54 =>
gd (0 ≤ v54 ∧ v54 < 4) <|
Lt (M29 27 v54.toNat) fun v55 =>
if ¬ v55 = 0 then (
J92_50 v25 v26 v28 M29) else (
gd (0 ≤ v26 ∧ v26 < 30) <|
Lt (M29 16 v26.toNat) fun v57 =>
gd (0 ≤ v26 ∧ v26 < 30) <|
Lt (M29 17 v26.toNat) fun v58 =>
gd (0 ≤ v26 ∧ v26 < 30) <|
Lt (M29 18 v26.toNat) fun v59 =>
Cl (f_X12_counts v28 v57 v58 v59 M29) fun v61 M60 =>
if v61 = 0 then (
J92_50 v25 v26 v28 M60) else (
J88_44 v25 v26 v28 M60))))))
def f_X12_conflicts_L4_64 (J118_3 : Int → Mm → Rs) (rc4_9 : Int × Int × Mm → Rs) : Int × Int × Mm → Rs := fun (v6, v7, M8) =>
Lt (M8 0 19) fun v10 =>
if v10 ≤ v7 then (
J118_3 v6 M8) else (
Lt (fun (v12 : Int) (v13 : Int) (v14 : Int) (M15 : Mm) => 
Lt (fun (v17 : Int) (v18 : Int) (v19 : Int) (M20 : Mm) => 
Lt (wr (v18 + v19)) fun v22 =>
Lt (wr (v17 + 1)) fun v23 =>
rc4_9 (v22, v23, M20)) fun J110_21 =>
if v14 = 0 then (
J110_21 v13 v12 0 M15) else (
J110_21 v13 v12 1 M15)) fun J100_16 =>
Lp (f_X12_conflicts_L17_63 J100_16) FU (v6, v7, 0, 0, M8))
def f_X12_conflicts (M : Mm) : Rs :=
Lt (fun (v1 : Int) (M2 : Mm) => 
Cl (f_X12_tells v1 M2) fun v5 M4 =>
some (v5, M4)) fun J118_3 =>
Lp (f_X12_conflicts_L4_64 J118_3) FU (0, 0, M)
theorem cy_X12_conflicts : yX12_conflicts.cls ≠ "java/lang/invoke/MethodHandle" ∧ yX12_conflicts.cls ≠ "java/lang/invoke/VarHandle" ∧ (parseMethodDescriptor yX12_conflicts.desc).map (fun d => d.parameters.length) = some 0 := ⟨by decide +kernel, by decide +kernel, by decide +kernel⟩
set_option maxRecDepth 20000 in
theorem ok_X12_conflicts (l : Launch) (D : Dd) (base : Nat) (M : Mm) : OkI l D TR 67 base yX12_conflicts cX12_conflicts 5 (some .int) 1 24 [.ref (base + 0)] M i32 (f_X12_conflicts M) := by
  refine metI (by decide +kernel) [(0, .ref (base + 0))] rfl (Nat.le_of_ble_eq_true rfl) (fun p e s m args below meth c X hrt hlk => ?_)
  have X : Cx p s m args c cX12_conflicts D 5 RX12 := X
  unfold f_X12_conflicts
  refine go_iconst (v := 0) X dX12_conflicts_0 rfl ?_
  refine go_istore_n (i := 1) (L' := [(1, .int (Ii 0)), (0, .ref (base + 0))]) X dX12_conflicts_1 rfl (by decide) rfl ?_
  refine go_iconst (v := 0) X dX12_conflicts_2 rfl ?_
  refine go_istore_n (i := 2) (L' := [(2, .int (Ii 0)), (1, .int (Ii 0)), (0, .ref (base + 0))]) X dX12_conflicts_3 rfl (by decide) rfl ?_
  refine go_lt (fun J => ∀ (v1 : Int) (M2 : Mm), i32 v1 → Go p l e (rmO 1 24) s m args below meth c D TR 67 base 5 0 0 (FinI D TR 67 base below args s i32) M2 118 [(0, .ref (base + 0)), (1, .int (Ii v1))] [] (J v1 M2)) (by
      intro v1 M2 hv1
      refine go_aload_n X dX12_conflicts_118 rfl 0 rfl ?_
      refine go_iload_n X dX12_conflicts_119 rfl 1 rfl ?_
      refine goI (fun H locs ls r ho hW hL => runV X (ok_X12_tells l D base M2 v1 hv1 H.size r ho) dX12_conflicts_120 lw998 lw999 lw1000 lw944 ⟨lw938, cy_X12_tells, Nat.le_of_ble_eq_true rfl, Nat.le_of_ble_eq_true rfl⟩ rfl trn0 tr0 rfl rfl rfl rfl (Nat.le_of_ble_eq_true rfl) hW hL hk0) (fun v5 M4 hv5 => ?_)
      exact go_ireturn X hrt hlk dX12_conflicts_123 hv5
      )
      (fun J118_3 hJ118_3 => ?_)
  refine go_sub [2, 1, 0] rfl ?_
  exact go_lp (fun (rc : Int × Int × Mm → Rs) => ∀ (v6 : Int) (v7 : Int) (M8 : Mm), i32 v6 → i32 v7 → Go p l e (rmO 1 24) s m args below meth c D TR 67 base 5 0 0 (FinI D TR 67 base below args s i32) M8 4 [(0, .ref (base + 0)), (1, .int (Ii v6)), (2, .int (Ii v7))] [] (rc (v6, v7, M8)))
      (by intro v6 v7 M8 hv6 hv7; exact go_none)
      (by
      intro rc4_9 hrc4_9 v6 v7 M8 hv6 hv7
      unfold f_X12_conflicts_L4_64
      dsimp only
      refine go_iload_n X dX12_conflicts_4 rfl 2 rfl ?_
      refine go_aload_n X dX12_conflicts_5 rfl 0 rfl ?_
      refine go_geti (i := 19) X fc12 dX12_conflicts_6 trn0 tr0 (Nat.le_of_ble_eq_true rfl) rfl lw987 rfl (fun v10 hv10 => ?_)
      refine go_icmp_ge (tgt := 118) X dX12_conflicts_9 rfl hv7 hv10 (fun c11 => ?_) (fun c11 => ?_)
      · refine go_sub [0, 1] rfl ?_
        exact hJ118_3 v6 M8 hv6
      · refine go_iconst (v := 0) X dX12_conflicts_12 rfl ?_
        refine go_istore_n (i := 3) (L' := [(3, .int (Ii 0)), (0, .ref (base + 0)), (1, .int (Ii v6)), (2, .int (Ii v7))]) X dX12_conflicts_13 rfl (by decide) rfl ?_
        refine go_iconst (v := 0) X dX12_conflicts_14 rfl ?_
        refine go_istore (i := 4) (L' := [(4, .int (Ii 0)), (3, .int (Ii 0)), (0, .ref (base + 0)), (1, .int (Ii v6)), (2, .int (Ii v7))]) X dX12_conflicts_15 (by decide) rfl ?_
        refine go_lt (fun J => ∀ (v12 : Int) (v13 : Int) (v14 : Int) (M15 : Mm), i32 v12 → i32 v13 → bo v14 → Go p l e (rmO 1 24) s m args below meth c D TR 67 base 5 0 0 (FinI D TR 67 base below args s i32) M15 100 [(0, .ref (base + 0)), (1, .int (Ii v12)), (2, .int (Ii v13)), (3, .int (Ii v14))] [] (J v12 v13 v14 M15)) (by
            intro v12 v13 v14 M15 hv12 hv13 hv14
            refine go_iload_n X dX12_conflicts_100 rfl 1 rfl ?_
            refine go_iload_n X dX12_conflicts_101 rfl 3 rfl ?_
            refine go_lt (fun J => ∀ (v17 : Int) (v18 : Int) (v19 : Int) (M20 : Mm), i32 v17 → i32 v18 → bo v19 → Go p l e (rmO 1 24) s m args below meth c D TR 67 base 5 0 0 (FinI D TR 67 base below args s i32) M20 110 [(0, .ref (base + 0)), (2, .int (Ii v17))] [.int (Ii v19), .int (Ii v18)] (J v17 v18 v19 M20)) (by
                intro v17 v18 v19 M20 hv17 hv18 hv19
                refine go_iadd X dX12_conflicts_110 hv18 (bo_i32 hv19) (fun v22 hv22 => ?_)
                refine go_istore_n (i := 1) (L' := [(1, .int (Ii v22)), (0, .ref (base + 0)), (2, .int (Ii v17))]) X dX12_conflicts_111 rfl (by decide) rfl ?_
                refine go_iinc (i := 2) (L' := fun v => [(2, .int (Ii v)), (1, .int (Ii v22)), (0, .ref (base + 0))]) X dX12_conflicts_112 hv17 kI_1 (j := 2) rfl (by decide) (fun _ => rfl) (fun v23 hv23 => ?_)
                refine go_goto (tgt := 4) X dX12_conflicts_115 rfl ?_
                refine go_sub [2, 1, 0] rfl ?_
                exact hrc4_9 v22 v23 M20 hv22 hv23
                )
                (fun J110_21 hJ110_21 => ?_)
            refine go_if_eq (tgt := 109) X dX12_conflicts_102 rfl (bo_i32 hv14) (fun c24 => ?_) (fun c24 => ?_)
            · refine go_iconst (v := 0) X dX12_conflicts_109 rfl ?_
              refine go_sub [0, 2] rfl ?_
              exact hJ110_21 v13 v12 0 M15 hv13 hv12 (Or.inl rfl)
            · refine go_iconst (v := 1) X dX12_conflicts_105 rfl ?_
              refine go_goto (tgt := 110) X dX12_conflicts_106 rfl ?_
              refine go_sub [0, 2] rfl ?_
              exact hJ110_21 v13 v12 1 M15 hv13 hv12 (Or.inr rfl)
            )
            (fun J100_16 hJ100_16 => ?_)
        refine go_sub [2, 3, 4, 1, 0] rfl ?_
        exact go_lp (fun (rc : Int × Int × Int × Int × Mm → Rs) => ∀ (v25 : Int) (v26 : Int) (v27 : Int) (v28 : Int) (M29 : Mm), i32 v25 → i32 v26 → bo v27 → i32 v28 → Go p l e (rmO 1 24) s m args below meth c D TR 67 base 5 0 0 (FinI D TR 67 base below args s i32) M29 17 [(0, .ref (base + 0)), (1, .int (Ii v25)), (2, .int (Ii v26)), (3, .int (Ii v27)), (4, .int (Ii v28))] [] (rc (v25, v26, v27, v28, M29)))
            (by intro v25 v26 v27 v28 M29 hv25 hv26 hv27 hv28; exact go_none)
            (by
            intro rc17_30 hrc17_30 v25 v26 v27 v28 M29 hv25 hv26 hv27 hv28
            unfold f_X12_conflicts_L17_63
            dsimp only
            refine go_iload X dX12_conflicts_17 4 rfl ?_
            refine go_aload_n X dX12_conflicts_19 rfl 0 rfl ?_
            refine go_geti (i := 19) X fc12 dX12_conflicts_20 trn0 tr0 (Nat.le_of_ble_eq_true rfl) rfl lw987 rfl (fun v31 hv31 => ?_)
            refine go_icmp_ge (tgt := 100) X dX12_conflicts_23 rfl hv28 hv31 (fun c32 => ?_) (fun c32 => ?_)
            · refine go_sub [0, 1, 2, 3] rfl ?_
              exact hJ100_16 v25 v26 v27 M29 hv25 hv26 hv27
            · refine go_iload_n X dX12_conflicts_26 rfl 3 rfl ?_
              refine go_lt (fun J => ∀ (v33 : Int) (v34 : Int) (v35 : Int) (v36 : Int) (M37 : Mm), i32 v33 → i32 v34 → i32 v35 → bo v36 → Go p l e (rmO 1 24) s m args below meth c D TR 67 base 5 0 0 (FinI D TR 67 base below args s i32) M37 93 [(0, .ref (base + 0)), (1, .int (Ii v33)), (2, .int (Ii v34)), (4, .int (Ii v35))] [.int (Ii v36)] (J v33 v34 v35 v36 M37)) (by
                  intro v33 v34 v35 v36 M37 hv33 hv34 hv35 hv36
                  refine go_istore_n (i := 3) (L' := [(3, .int (Ii v36)), (0, .ref (base + 0)), (1, .int (Ii v33)), (2, .int (Ii v34)), (4, .int (Ii v35))]) X dX12_conflicts_93 rfl (by decide) rfl ?_
                  refine go_iinc (i := 4) (L' := fun v => [(4, .int (Ii v)), (3, .int (Ii v36)), (0, .ref (base + 0)), (1, .int (Ii v33)), (2, .int (Ii v34))]) X dX12_conflicts_94 hv35 kI_1 (j := 4) rfl (by decide) (fun _ => rfl) (fun v39 hv39 => ?_)
                  refine go_goto (tgt := 17) X dX12_conflicts_97 rfl ?_
                  refine go_sub [2, 3, 4, 1, 0] rfl ?_
                  exact hrc17_30 v33 v34 v36 v39 M37 hv33 hv34 hv36 hv39
                  )
                  (fun J93_38 hJ93_38 => ?_)
              refine go_lt (fun J => ∀ (v40 : Int) (v41 : Int) (v42 : Int) (M43 : Mm), i32 v40 → i32 v41 → i32 v42 → Go p l e (rmO 1 24) s m args below meth c D TR 67 base 5 0 0 (FinI D TR 67 base below args s i32) M43 88 [(0, .ref (base + 0)), (1, .int (Ii v40)), (2, .int (Ii v41)), (4, .int (Ii v42))] [] (J v40 v41 v42 M43)) (by
                  intro v40 v41 v42 M43 hv40 hv41 hv42
                  refine go_iconst (v := 1) X dX12_conflicts_88 rfl ?_
                  refine go_goto (tgt := 93) X dX12_conflicts_89 rfl ?_
                  exact hJ93_38 v40 v41 v42 1 M43 hv40 hv41 hv42 (Or.inr rfl)
                  )
                  (fun J88_44 hJ88_44 => ?_)
              refine go_if_ne (tgt := 88) X dX12_conflicts_27 rfl (bo_i32 hv27) (fun c45 => ?_) (fun c45 => ?_)
              · refine go_sub [0, 1, 2, 4] rfl ?_
                exact hJ88_44 v25 v26 v28 M29 hv25 hv26 hv28
              · refine go_iload X dX12_conflicts_30 4 rfl ?_
                refine go_iload_n X dX12_conflicts_32 rfl 2 rfl ?_
                refine go_lt (fun J => ∀ (v46 : Int) (v47 : Int) (v48 : Int) (M49 : Mm), i32 v46 → i32 v47 → i32 v48 → Go p l e (rmO 1 24) s m args below meth c D TR 67 base 5 0 0 (FinI D TR 67 base below args s i32) M49 92 [(0, .ref (base + 0)), (1, .int (Ii v46)), (2, .int (Ii v47)), (4, .int (Ii v48))] [] (J v46 v47 v48 M49)) (by
                    intro v46 v47 v48 M49 hv46 hv47 hv48
                    refine go_iconst (v := 0) X dX12_conflicts_92 rfl ?_
                    exact hJ93_38 v46 v47 v48 0 M49 hv46 hv47 hv48 (Or.inl rfl)
                    )
                    (fun J92_50 hJ92_50 => ?_)
                refine go_icmp_eq (tgt := 92) X dX12_conflicts_33 rfl hv28 hv26 (fun c51 => ?_) (fun c51 => ?_)
                · refine go_sub [0, 1, 2, 4] rfl ?_
                  exact hJ92_50 v25 v26 v28 M29 hv25 hv26 hv28
                · refine go_aload_n X dX12_conflicts_36 rfl 0 rfl ?_
                  refine go_getc (i := 22) X fc12 dX12_conflicts_37 trn0 tr0 (Nat.le_of_ble_eq_true rfl) rfl lw883 rfl ?_
                  refine go_iload_n X dX12_conflicts_40 rfl 2 rfl ?_
                  refine go_iaload X dX12_conflicts_41 trn18 tr18 hv26 (fun v52 hv52 => ?_)
                  refine go_bipush (v := (-2)) X dX12_conflicts_42 (by decide) ?_
                  refine go_icmp_eq (tgt := 92) X dX12_conflicts_44 rfl hv52 kI_m2 (fun c53 => ?_) (fun c53 => ?_)
                  · refine go_sub [0, 1, 2, 4] rfl ?_
                    exact hJ92_50 v25 v26 v28 M29 hv25 hv26 hv28
                  · refine go_aload_n X dX12_conflicts_47 rfl 0 rfl ?_
                    refine go_getc (i := 31) X fc12 dX12_conflicts_48 trn0 tr0 (Nat.le_of_ble_eq_true rfl) rfl lw892 rfl ?_
                    refine go_aload_n X dX12_conflicts_51 rfl 0 rfl ?_
                    refine go_getc (i := 23) X fc12 dX12_conflicts_52 trn0 tr0 (Nat.le_of_ble_eq_true rfl) rfl lw884 rfl ?_
                    refine go_iload_n X dX12_conflicts_55 rfl 2 rfl ?_
                    refine go_iaload X dX12_conflicts_56 trn19 tr19 hv26 (fun v54 hv54 => ?_)
                    refine go_zaload X dX12_conflicts_57 trn27 tr27 hv54 (fun v55 hv55 => ?_)
                    refine go_if_ne (tgt := 92) X dX12_conflicts_58 rfl (bo_i32 hv55) (fun c56 => ?_) (fun c56 => ?_)
                    · refine go_sub [0, 1, 2, 4] rfl ?_
                      exact hJ92_50 v25 v26 v28 M29 hv25 hv26 hv28
                    · refine go_aload_n X dX12_conflicts_61 rfl 0 rfl ?_
                      refine go_iload X dX12_conflicts_62 4 rfl ?_
                      refine go_aload_n X dX12_conflicts_64 rfl 0 rfl ?_
                      refine go_getc (i := 20) X fc12 dX12_conflicts_65 trn0 tr0 (Nat.le_of_ble_eq_true rfl) rfl lw881 rfl ?_
                      refine go_iload_n X dX12_conflicts_68 rfl 2 rfl ?_
                      refine go_iaload X dX12_conflicts_69 trn16 tr16 hv26 (fun v57 hv57 => ?_)
                      refine go_aload_n X dX12_conflicts_70 rfl 0 rfl ?_
                      refine go_getc (i := 21) X fc12 dX12_conflicts_71 trn0 tr0 (Nat.le_of_ble_eq_true rfl) rfl lw882 rfl ?_
                      refine go_iload_n X dX12_conflicts_74 rfl 2 rfl ?_
                      refine go_iaload X dX12_conflicts_75 trn17 tr17 hv26 (fun v58 hv58 => ?_)
                      refine go_aload_n X dX12_conflicts_76 rfl 0 rfl ?_
                      refine go_getc (i := 22) X fc12 dX12_conflicts_77 trn0 tr0 (Nat.le_of_ble_eq_true rfl) rfl lw883 rfl ?_
                      refine go_iload_n X dX12_conflicts_80 rfl 2 rfl ?_
                      refine go_iaload X dX12_conflicts_81 trn18 tr18 hv26 (fun v59 hv59 => ?_)
                      refine goI (fun H locs ls r ho hW hL => runV X (ok_X12_counts l D base M29 v28 hv28 v57 hv57 v58 hv58 v59 hv59 H.size r ho) dX12_conflicts_82 lw995 lw996 lw997 lw944 ⟨lw993, cy_X12_counts, Nat.le_of_ble_eq_true rfl, Nat.le_of_ble_eq_true rfl⟩ rfl trn0 tr0 rfl rfl rfl rfl (Nat.le_of_ble_eq_true rfl) hW hL hk0) (fun v61 M60 hv61 => ?_)
                      refine go_if_eq (tgt := 92) X dX12_conflicts_85 rfl (bo_i32 hv61) (fun c62 => ?_) (fun c62 => ?_)
                      · refine go_sub [0, 1, 2, 4] rfl ?_
                        exact hJ92_50 v25 v26 v28 M60 hv25 hv26 hv28
                      · refine go_sub [0, 1, 2, 4] rfl ?_
                        exact hJ88_44 v25 v26 v28 M60 hv25 hv26 hv28
            )
            FU v6 v7 0 0 M8 hv6 hv7 (Or.inl rfl) kI_0
      )
      FU 0 0 M kI_0 kI_0
def f_X12_childThere_L9_15 (a1 : Int) (a2 : Int) (J37_3 : Mm → Rs) (J29_6 : Int → Mm → Rs) (rc9_9 : Int × Mm → Rs) : Int × Mm → Rs := fun (v7, M8) =>
gd (0 ≤ a1 ∧ a1 < 10) <|
Lt (M8 4 a1.toNat) fun v10 =>
if v10 ≤ v7 then (
J37_3 M8) else (
gd (0 ≤ v7 ∧ v7 < 3) <|
Lt (M8 59 v7.toNat) fun v12 =>
if ¬ v12 = a2 then (
Lt (wr (v7 + 1)) fun v14 =>
rc9_9 (v14, M8)) else (
J29_6 v7 M8))
def f_X12_childThere (a1 : Int) (a2 : Int) (M : Mm) : Rs :=
if ¬ a2 = ((-1)) then (
Lt (fun (M2 : Mm) => 
some (99999, M2)) fun J37_3 =>
Lt (fun (v4 : Int) (M5 : Mm) => 
some (v4, M5)) fun J29_6 =>
Lp (f_X12_childThere_L9_15 a1 a2 J37_3 J29_6) FU (0, M)) else (
some ((-1), M))
theorem cy_X12_childThere : yX12_childThere.cls ≠ "java/lang/invoke/MethodHandle" ∧ yX12_childThere.cls ≠ "java/lang/invoke/VarHandle" ∧ (parseMethodDescriptor yX12_childThere.desc).map (fun d => d.parameters.length) = some 2 := ⟨by decide +kernel, by decide +kernel, by decide +kernel⟩
set_option maxRecDepth 20000 in
theorem ok_X12_childThere (l : Launch) (D : Dd) (base : Nat) (M : Mm) (a1 : Int) (ha1 : i32 a1) (a2 : Int) (ha2 : i32 a2) : OkI l D TR 67 base yX12_childThere cX12_childThere 4 (some .int) 0 0 [.ref (base + 0), .int (Ii a1), .int (Ii a2)] M i32 (f_X12_childThere a1 a2 M) := by
  refine metI (by decide +kernel) [(0, .ref (base + 0)), (1, .int (Ii a1)), (2, .int (Ii a2))] rfl (Nat.le_of_ble_eq_true rfl) (fun p e s m args below meth c X hrt hlk => ?_)
  have X : Cx p s m args c cX12_childThere D 4 RX12 := X
  unfold f_X12_childThere
  refine go_iload_n X dX12_childThere_0 rfl 2 rfl ?_
  refine go_iconst (v := (-1)) X dX12_childThere_1 rfl ?_
  refine go_icmp_ne (tgt := 7) X dX12_childThere_2 rfl ha2 kI_m1 (fun c1 => ?_) (fun c1 => ?_)
  · refine go_iconst (v := 0) X dX12_childThere_7 rfl ?_
    refine go_istore_n (i := 3) (L' := [(3, .int (Ii 0)), (0, .ref (base + 0)), (1, .int (Ii a1)), (2, .int (Ii a2))]) X dX12_childThere_8 rfl (by decide) rfl ?_
    refine go_lt (fun J => ∀ (M2 : Mm), Go p l e (rmO 0 0) s m args below meth c D TR 67 base 4 0 0 (FinI D TR 67 base below args s i32) M2 37 [] [] (J M2)) (by
        intro M2
        refine go_ldcw (v := 99999) X dX12_childThere_37 lw1002 rfl ?_
        exact go_ireturn X hrt hlk dX12_childThere_40 kI_99999
        )
        (fun J37_3 hJ37_3 => ?_)
    refine go_lt (fun J => ∀ (v4 : Int) (M5 : Mm), i32 v4 → Go p l e (rmO 0 0) s m args below meth c D TR 67 base 4 0 0 (FinI D TR 67 base below args s i32) M5 29 [(3, .int (Ii v4))] [] (J v4 M5)) (by
        intro v4 M5 hv4
        refine go_iload_n X dX12_childThere_29 rfl 0 rfl ?_
        exact go_ireturn X hrt hlk dX12_childThere_30 hv4
        )
        (fun J29_6 hJ29_6 => ?_)
    refine go_sub [1, 2, 3, 0] rfl ?_
    exact go_lp (fun (rc : Int × Mm → Rs) => ∀ (v7 : Int) (M8 : Mm), i32 v7 → Go p l e (rmO 0 0) s m args below meth c D TR 67 base 4 0 0 (FinI D TR 67 base below args s i32) M8 9 [(0, .ref (base + 0)), (1, .int (Ii a1)), (2, .int (Ii a2)), (3, .int (Ii v7))] [] (rc (v7, M8)))
        (by intro v7 M8 hv7; exact go_none)
        (by
        intro rc9_9 hrc9_9 v7 M8 hv7
        unfold f_X12_childThere_L9_15
        dsimp only
        refine go_iload_n X dX12_childThere_9 rfl 3 rfl ?_
        refine go_aload_n X dX12_childThere_10 rfl 0 rfl ?_
        refine go_getc (i := 4) X fc12 dX12_childThere_11 trn0 tr0 (Nat.le_of_ble_eq_true rfl) rfl lw869 rfl ?_
        refine go_iload_n X dX12_childThere_14 rfl 1 rfl ?_
        refine go_iaload X dX12_childThere_15 trn4 tr4 ha1 (fun v10 hv10 => ?_)
        refine go_icmp_ge (tgt := 37) X dX12_childThere_16 rfl hv7 hv10 (fun c11 => ?_) (fun c11 => ?_)
        · refine go_sub [] rfl ?_
          exact hJ37_3 M8
        · refine go_aload_n X dX12_childThere_19 rfl 0 rfl ?_
          refine go_getc (i := 77) X fc12 dX12_childThere_20 trn0 tr0 (Nat.le_of_ble_eq_true rfl) rfl lw926 rfl ?_
          refine go_iload_n X dX12_childThere_23 rfl 3 rfl ?_
          refine go_iaload X dX12_childThere_24 trn59 tr59 hv7 (fun v12 hv12 => ?_)
          refine go_iload_n X dX12_childThere_25 rfl 2 rfl ?_
          refine go_icmp_ne (tgt := 31) X dX12_childThere_26 rfl hv12 ha2 (fun c13 => ?_) (fun c13 => ?_)
          · refine go_iinc (i := 3) (L' := fun v => [(3, .int (Ii v)), (0, .ref (base + 0)), (1, .int (Ii a1)), (2, .int (Ii a2))]) X dX12_childThere_31 hv7 kI_1 (j := 3) rfl (by decide) (fun _ => rfl) (fun v14 hv14 => ?_)
            refine go_goto (tgt := 9) X dX12_childThere_34 rfl ?_
            refine go_sub [1, 2, 3, 0] rfl ?_
            exact hrc9_9 v14 M8 hv14
          · refine go_sub [3] rfl ?_
            exact hJ29_6 v7 M8 hv7
        )
        FU 0 M kI_0
  · refine go_iconst (v := (-1)) X dX12_childThere_5 rfl ?_
    exact go_ireturn X hrt hlk dX12_childThere_6 kI_m1
def f_X12_tellersOf_L6_20 (a1 : Int) (a2 : Int) (a3 : Int) (J43_3 : Int → Mm → Rs) (rc6_7 : Int × Int × Mm → Rs) : Int × Int × Mm → Rs := fun (v4, v5, M6) =>
Lt (M6 0 19) fun v8 =>
if v8 ≤ v5 then (
J43_3 v4 M6) else (
Cl (f_X12_counts v5 a1 a2 a3 M6) fun v11 M10 =>
Lt (fun (v12 : Int) (v13 : Int) (v14 : Int) (M15 : Mm) => 
Lt (wr (v13 + v14)) fun v17 =>
Lt (wr (v12 + 1)) fun v18 =>
rc6_7 (v17, v18, M15)) fun J34_16 =>
if v11 = 0 then (
J34_16 v5 v4 0 M10) else (
J34_16 v5 v4 1 M10))
def f_X12_tellersOf (a1 : Int) (a2 : Int) (a3 : Int) (M : Mm) : Rs :=
Lt (fun (v1 : Int) (M2 : Mm) => 
some (v1, M2)) fun J43_3 =>
Lp (f_X12_tellersOf_L6_20 a1 a2 a3 J43_3) FU (0, 0, M)
theorem cy_X12_tellersOf : yX12_tellersOf.cls ≠ "java/lang/invoke/MethodHandle" ∧ yX12_tellersOf.cls ≠ "java/lang/invoke/VarHandle" ∧ (parseMethodDescriptor yX12_tellersOf.desc).map (fun d => d.parameters.length) = some 3 := ⟨by decide +kernel, by decide +kernel, by decide +kernel⟩
set_option maxRecDepth 20000 in
theorem ok_X12_tellersOf (l : Launch) (D : Dd) (base : Nat) (M : Mm) (a1 : Int) (ha1 : i32 a1) (a2 : Int) (ha2 : i32 a2) (a3 : Int) (ha3 : i32 a3) : OkI l D TR 67 base yX12_tellersOf cX12_tellersOf 6 (some .int) 1 24 [.ref (base + 0), .int (Ii a1), .int (Ii a2), .int (Ii a3)] M i32 (f_X12_tellersOf a1 a2 a3 M) := by
  refine metI (by decide +kernel) [(0, .ref (base + 0)), (1, .int (Ii a1)), (2, .int (Ii a2)), (3, .int (Ii a3))] rfl (Nat.le_of_ble_eq_true rfl) (fun p e s m args below meth c X hrt hlk => ?_)
  have X : Cx p s m args c cX12_tellersOf D 6 RX12 := X
  unfold f_X12_tellersOf
  refine go_iconst (v := 0) X dX12_tellersOf_0 rfl ?_
  refine go_istore (i := 4) (L' := [(4, .int (Ii 0)), (0, .ref (base + 0)), (1, .int (Ii a1)), (2, .int (Ii a2)), (3, .int (Ii a3))]) X dX12_tellersOf_1 (by decide) rfl ?_
  refine go_iconst (v := 0) X dX12_tellersOf_3 rfl ?_
  refine go_istore (i := 5) (L' := [(5, .int (Ii 0)), (4, .int (Ii 0)), (0, .ref (base + 0)), (1, .int (Ii a1)), (2, .int (Ii a2)), (3, .int (Ii a3))]) X dX12_tellersOf_4 (by decide) rfl ?_
  refine go_lt (fun J => ∀ (v1 : Int) (M2 : Mm), i32 v1 → Go p l e (rmO 1 24) s m args below meth c D TR 67 base 6 0 0 (FinI D TR 67 base below args s i32) M2 43 [(4, .int (Ii v1))] [] (J v1 M2)) (by
      intro v1 M2 hv1
      refine go_iload X dX12_tellersOf_43 0 rfl ?_
      exact go_ireturn X hrt hlk dX12_tellersOf_45 hv1
      )
      (fun J43_3 hJ43_3 => ?_)
  refine go_sub [2, 3, 4, 5, 1, 0] rfl ?_
  exact go_lp (fun (rc : Int × Int × Mm → Rs) => ∀ (v4 : Int) (v5 : Int) (M6 : Mm), i32 v4 → i32 v5 → Go p l e (rmO 1 24) s m args below meth c D TR 67 base 6 0 0 (FinI D TR 67 base below args s i32) M6 6 [(0, .ref (base + 0)), (1, .int (Ii a1)), (2, .int (Ii a2)), (3, .int (Ii a3)), (4, .int (Ii v4)), (5, .int (Ii v5))] [] (rc (v4, v5, M6)))
      (by intro v4 v5 M6 hv4 hv5; exact go_none)
      (by
      intro rc6_7 hrc6_7 v4 v5 M6 hv4 hv5
      unfold f_X12_tellersOf_L6_20
      dsimp only
      refine go_iload X dX12_tellersOf_6 5 rfl ?_
      refine go_aload_n X dX12_tellersOf_8 rfl 0 rfl ?_
      refine go_geti (i := 19) X fc12 dX12_tellersOf_9 trn0 tr0 (Nat.le_of_ble_eq_true rfl) rfl lw987 rfl (fun v8 hv8 => ?_)
      refine go_icmp_ge (tgt := 43) X dX12_tellersOf_12 rfl hv5 hv8 (fun c9 => ?_) (fun c9 => ?_)
      · refine go_sub [4] rfl ?_
        exact hJ43_3 v4 M6 hv4
      · refine go_iload X dX12_tellersOf_15 4 rfl ?_
        refine go_aload_n X dX12_tellersOf_17 rfl 0 rfl ?_
        refine go_iload X dX12_tellersOf_18 5 rfl ?_
        refine go_iload_n X dX12_tellersOf_20 rfl 1 rfl ?_
        refine go_iload_n X dX12_tellersOf_21 rfl 2 rfl ?_
        refine go_iload_n X dX12_tellersOf_22 rfl 3 rfl ?_
        refine goI (fun H locs ls r ho hW hL => runV X (ok_X12_counts l D base M6 v5 hv5 a1 ha1 a2 ha2 a3 ha3 H.size r ho) dX12_tellersOf_23 lw995 lw996 lw997 lw944 ⟨lw993, cy_X12_counts, Nat.le_of_ble_eq_true rfl, Nat.le_of_ble_eq_true rfl⟩ rfl trn0 tr0 rfl rfl rfl rfl (Nat.le_of_ble_eq_true rfl) hW hL hk0) (fun v11 M10 hv11 => ?_)
        refine go_lt (fun J => ∀ (v12 : Int) (v13 : Int) (v14 : Int) (M15 : Mm), i32 v12 → i32 v13 → bo v14 → Go p l e (rmO 1 24) s m args below meth c D TR 67 base 6 0 0 (FinI D TR 67 base below args s i32) M15 34 [(0, .ref (base + 0)), (1, .int (Ii a1)), (2, .int (Ii a2)), (3, .int (Ii a3)), (5, .int (Ii v12))] [.int (Ii v14), .int (Ii v13)] (J v12 v13 v14 M15)) (by
            intro v12 v13 v14 M15 hv12 hv13 hv14
            refine go_iadd X dX12_tellersOf_34 hv13 (bo_i32 hv14) (fun v17 hv17 => ?_)
            refine go_istore (i := 4) (L' := [(4, .int (Ii v17)), (0, .ref (base + 0)), (1, .int (Ii a1)), (2, .int (Ii a2)), (3, .int (Ii a3)), (5, .int (Ii v12))]) X dX12_tellersOf_35 (by decide) rfl ?_
            refine go_iinc (i := 5) (L' := fun v => [(5, .int (Ii v)), (4, .int (Ii v17)), (0, .ref (base + 0)), (1, .int (Ii a1)), (2, .int (Ii a2)), (3, .int (Ii a3))]) X dX12_tellersOf_37 hv12 kI_1 (j := 5) rfl (by decide) (fun _ => rfl) (fun v18 hv18 => ?_)
            refine go_goto (tgt := 6) X dX12_tellersOf_40 rfl ?_
            refine go_sub [2, 3, 4, 5, 1, 0] rfl ?_
            exact hrc6_7 v17 v18 M15 hv17 hv18
            )
            (fun J34_16 hJ34_16 => ?_)
        refine go_if_eq (tgt := 33) X dX12_tellersOf_26 rfl (bo_i32 hv11) (fun c19 => ?_) (fun c19 => ?_)
        · refine go_iconst (v := 0) X dX12_tellersOf_33 rfl ?_
          refine go_sub [0, 1, 2, 3, 5] rfl ?_
          exact hJ34_16 v5 v4 0 M10 hv5 hv4 (Or.inl rfl)
        · refine go_iconst (v := 1) X dX12_tellersOf_29 rfl ?_
          refine go_goto (tgt := 34) X dX12_tellersOf_30 rfl ?_
          refine go_sub [0, 1, 2, 3, 5] rfl ?_
          exact hJ34_16 v5 v4 1 M10 hv5 hv4 (Or.inr rfl)
      )
      FU 0 0 M kI_0 kI_0
def f_X12_teller_L140_38 (v20 : Int) (J172_26 : Int → Mm → Rs) (rc140_32 : Int × Int × Mm → Rs) : Int × Int × Mm → Rs := fun (v29, v30, M31) =>
if 3 ≤ v30 then (
J172_26 v29 M31) else (
if v20 = ((-1)) then (
J172_26 v29 M31) else (
gd (0 ≤ v30 ∧ v30 < 3) <|
Lt (M31 60 v30.toNat) fun v35 =>
gd (0 ≤ v30 ∧ v30 < 3) <|
Lt (up M31 59 v30.toNat v35) fun M36 =>
Lt (wr (v30 + 1)) fun v37 =>
rc140_32 (v29, v37, M36)))
def f_X12_teller_L79_61 (v20 : Int) (J137_23 : Int → Mm → Rs) (rc79_43 : Int × Int × Int × Mm → Rs) : Int × Int × Int × Mm → Rs := fun (v39, v40, v41, M42) =>
if 3 ≤ v41 then (
J137_23 v40 M42) else (
if v20 = ((-1)) then (
J137_23 v40 M42) else (
gd (0 ≤ v20 ∧ v20 < 10) <|
Lt (M42 4 v20.toNat) fun v46 =>
Lt (fun (v47 : Int) (v48 : Int) (v49 : Int) (v50 : Int) (v51 : Int) (M52 : Mm) => 
gd (0 ≤ v50 ∧ v50 < 3) <|
Lt (up M52 60 v50.toNat v51) fun M54 =>
Lt (wr (v49 + 1)) fun v55 =>
rc79_43 (v47, v48, v55, M54)) fun J130_53 =>
if v46 ≤ v41 then (
J130_53 v39 v40 v41 v41 ((-1)) M42) else (
Lt (wr (3 * v39)) fun v57 =>
Lt (wr (v57 + v41)) fun v58 =>
gd (0 ≤ v58 ∧ v58 < 30) <|
Lt (M42 9 v58.toNat) fun v59 =>
gd (0 ≤ v59 ∧ v59 < 3) <|
Lt (M42 59 v59.toNat) fun v60 =>
J130_53 v39 v40 v41 v41 v60 M42)))
def f_X12_teller_L35_62 (a2 : Int) (a3 : Int) (J187_5 : Mm → Rs) (J64_8 : Int → Mm → Rs) (rc35_12 : Int × Int × Mm → Rs) : Int × Int × Mm → Rs := fun (v9, v10, M11) =>
if 3 < v10 then (
J187_5 M11) else (
if v9 = ((-1)) then (
J187_5 M11) else (
Cl (f_X12_childThere v9 a3 M11) fun v16 M15 =>
Cl (f_X12_tellersOf v9 a2 v16 M15) fun v18 M17 =>
if v18 ≤ 0 then (
gd (0 ≤ v9 ∧ v9 < 10) <|
Lt (M17 8 v9.toNat) fun v20 =>
Lt (fun (v21 : Int) (M22 : Mm) => 
Lt (fun (v24 : Int) (M25 : Mm) => 
Lt (up M25 0 76 1) fun M27 =>
Lt (wr (v24 + 1)) fun v28 =>
rc35_12 (v20, v28, M27)) fun J172_26 =>
Lp (f_X12_teller_L140_38 v20 J172_26) FU (v21, 0, M22)) fun J137_23 =>
Lp (f_X12_teller_L79_61 v20 J137_23) FU (v9, v10, 0, M17)) else (
J64_8 v9 M17)))
def f_X12_teller_L8_69 (J29_3 : Mm → Rs) (rc8_65 : Int × Mm → Rs) : Int × Mm → Rs := fun (v63, M64) =>
if 3 ≤ v63 then (
J29_3 M64) else (
gd (0 ≤ v63 ∧ v63 < 3) <|
Lt (up M64 59 v63.toNat v63) fun M67 =>
Lt (wr (v63 + 1)) fun v68 =>
rc8_65 (v68, M67))
def f_X12_teller (a1 : Int) (a2 : Int) (a3 : Int) (M : Mm) : Rs :=
Lt (up M 0 76 0) fun M1 =>
Lt (fun (M2 : Mm) => 
Lt (fun (M4 : Mm) => 
some ((-1), M4)) fun J187_5 =>
Lt (fun (v6 : Int) (M7 : Mm) => 
some (v6, M7)) fun J64_8 =>
Lp (f_X12_teller_L35_62 a2 a3 J187_5 J64_8) FU (a1, 0, M2)) fun J29_3 =>
Lp (f_X12_teller_L8_69 J29_3) FU (0, M1)
theorem cy_X12_teller : yX12_teller.cls ≠ "java/lang/invoke/MethodHandle" ∧ yX12_teller.cls ≠ "java/lang/invoke/VarHandle" ∧ (parseMethodDescriptor yX12_teller.desc).map (fun d => d.parameters.length) = some 3 := ⟨by decide +kernel, by decide +kernel, by decide +kernel⟩
set_option maxRecDepth 20000 in
theorem ok_X12_teller (l : Launch) (D : Dd) (base : Nat) (M : Mm) (a1 : Int) (ha1 : i32 a1) (a2 : Int) (ha2 : i32 a2) (a3 : Int) (ha3 : i32 a3) : OkI l D TR 67 base yX12_teller cX12_teller 8 (some .int) 2 49 [.ref (base + 0), .int (Ii a1), .int (Ii a2), .int (Ii a3)] M i32 (f_X12_teller a1 a2 a3 M) := by
  refine metI (by decide +kernel) [(0, .ref (base + 0)), (1, .int (Ii a1)), (2, .int (Ii a2)), (3, .int (Ii a3))] rfl (Nat.le_of_ble_eq_true rfl) (fun p e s m args below meth c X hrt hlk => ?_)
  have X : Cx p s m args c cX12_teller D 8 RX12 := X
  unfold f_X12_teller
  refine go_aload_n X dX12_teller_0 rfl 0 rfl ?_
  refine go_iconst (v := 0) X dX12_teller_1 rfl ?_
  refine go_putz (i := 76) X fc12 dX12_teller_2 trn0 tr0 (Nat.le_of_ble_eq_true rfl) rfl lw1004 rfl rfl rfl (Or.inl rfl) (fun M1 => ?_)
  refine go_iconst (v := 0) X dX12_teller_5 rfl ?_
  refine go_istore (i := 4) (L' := [(4, .int (Ii 0)), (0, .ref (base + 0)), (1, .int (Ii a1)), (2, .int (Ii a2)), (3, .int (Ii a3))]) X dX12_teller_6 (by decide) rfl ?_
  refine go_lt (fun J => ∀ (M2 : Mm), Go p l e (rmO 2 49) s m args below meth c D TR 67 base 8 0 0 (FinI D TR 67 base below args s i32) M2 29 [(0, .ref (base + 0)), (1, .int (Ii a1)), (2, .int (Ii a2)), (3, .int (Ii a3))] [] (J M2)) (by
      intro M2
      refine go_iload_n X dX12_teller_29 rfl 1 rfl ?_
      refine go_istore (i := 4) (L' := [(4, .int (Ii a1)), (0, .ref (base + 0)), (1, .int (Ii a1)), (2, .int (Ii a2)), (3, .int (Ii a3))]) X dX12_teller_30 (by decide) rfl ?_
      refine go_iconst (v := 0) X dX12_teller_32 rfl ?_
      refine go_istore (i := 5) (L' := [(5, .int (Ii 0)), (4, .int (Ii a1)), (0, .ref (base + 0)), (1, .int (Ii a1)), (2, .int (Ii a2)), (3, .int (Ii a3))]) X dX12_teller_33 (by decide) rfl ?_
      refine go_lt (fun J => ∀ (M4 : Mm), Go p l e (rmO 2 49) s m args below meth c D TR 67 base 8 0 0 (FinI D TR 67 base below args s i32) M4 187 [] [] (J M4)) (by
          intro M4
          refine go_iconst (v := (-1)) X dX12_teller_187 rfl ?_
          exact go_ireturn X hrt hlk dX12_teller_188 kI_m1
          )
          (fun J187_5 hJ187_5 => ?_)
      refine go_lt (fun J => ∀ (v6 : Int) (M7 : Mm), i32 v6 → Go p l e (rmO 2 49) s m args below meth c D TR 67 base 8 0 0 (FinI D TR 67 base below args s i32) M7 64 [(4, .int (Ii v6))] [] (J v6 M7)) (by
          intro v6 M7 hv6
          refine go_iload X dX12_teller_64 0 rfl ?_
          exact go_ireturn X hrt hlk dX12_teller_66 hv6
          )
          (fun J64_8 hJ64_8 => ?_)
      refine go_sub [2, 4, 5, 1, 0] rfl ?_
      exact go_lp (fun (rc : Int × Int × Mm → Rs) => ∀ (v9 : Int) (v10 : Int) (M11 : Mm), i32 v9 → i32 v10 → Go p l e (rmO 2 49) s m args below meth c D TR 67 base 8 0 0 (FinI D TR 67 base below args s i32) M11 35 [(0, .ref (base + 0)), (2, .int (Ii a2)), (3, .int (Ii a3)), (4, .int (Ii v9)), (5, .int (Ii v10))] [] (rc (v9, v10, M11)))
          (by intro v9 v10 M11 hv9 hv10; exact go_none)
          (by
          intro rc35_12 hrc35_12 v9 v10 M11 hv9 hv10
          unfold f_X12_teller_L35_62
          dsimp only
          refine go_iload X dX12_teller_35 4 rfl ?_
          refine go_iconst (v := 3) X dX12_teller_37 rfl ?_
          refine go_icmp_gt (tgt := 187) X dX12_teller_38 rfl hv10 kI_3 (fun c13 => ?_) (fun c13 => ?_)
          · refine go_sub [] rfl ?_
            exact hJ187_5 M11
          · refine go_iload X dX12_teller_41 3 rfl ?_
            refine go_iconst (v := (-1)) X dX12_teller_43 rfl ?_
            refine go_icmp_eq (tgt := 187) X dX12_teller_44 rfl hv9 kI_m1 (fun c14 => ?_) (fun c14 => ?_)
            · refine go_sub [] rfl ?_
              exact hJ187_5 M11
            · refine go_aload_n X dX12_teller_47 rfl 0 rfl ?_
              refine go_iload X dX12_teller_48 3 rfl ?_
              refine go_iload_n X dX12_teller_50 rfl 1 rfl ?_
              refine go_aload_n X dX12_teller_51 rfl 0 rfl ?_
              refine go_iload X dX12_teller_52 3 rfl ?_
              refine go_iload_n X dX12_teller_54 rfl 2 rfl ?_
              refine goI (fun H locs ls r ho hW hL => runV X (ok_X12_childThere l D base M11 v9 hv9 a3 ha3 H.size r ho) dX12_teller_55 lw1005 lw1006 lw1007 lw944 ⟨lw1001, cy_X12_childThere, Nat.le_of_ble_eq_true rfl, Nat.le_of_ble_eq_true rfl⟩ rfl trn0 tr0 rfl rfl rfl rfl (Nat.le_of_ble_eq_true rfl) hW hL hk0) (fun v16 M15 hv16 => ?_)
              refine goI (fun H locs ls r ho hW hL => runV X (ok_X12_tellersOf l D base M15 v9 hv9 a2 ha2 v16 hv16 H.size r ho) dX12_teller_58 lw1008 lw1009 lw1010 lw944 ⟨lw1003, cy_X12_tellersOf, Nat.le_of_ble_eq_true rfl, Nat.le_of_ble_eq_true rfl⟩ rfl trn0 tr0 rfl rfl rfl rfl (Nat.le_of_ble_eq_true rfl) hW hL hk0) (fun v18 M17 hv18 => ?_)
              refine go_if_le (tgt := 67) X dX12_teller_61 rfl hv18 (fun c19 => ?_) (fun c19 => ?_)
              · refine go_aload_n X dX12_teller_67 rfl 0 rfl ?_
                refine go_getc (i := 8) X fc12 dX12_teller_68 trn0 tr0 (Nat.le_of_ble_eq_true rfl) rfl lw873 rfl ?_
                refine go_iload X dX12_teller_71 3 rfl ?_
                refine go_iaload X dX12_teller_73 trn8 tr8 hv9 (fun v20 hv20 => ?_)
                refine go_istore (i := 6) (L' := [(6, .int (Ii v20)), (0, .ref (base + 0)), (2, .int (Ii a2)), (3, .int (Ii a3)), (4, .int (Ii v9)), (5, .int (Ii v10))]) X dX12_teller_74 (by decide) rfl ?_
                refine go_iconst (v := 0) X dX12_teller_76 rfl ?_
                refine go_istore (i := 7) (L' := [(7, .int (Ii 0)), (6, .int (Ii v20)), (0, .ref (base + 0)), (2, .int (Ii a2)), (3, .int (Ii a3)), (4, .int (Ii v9)), (5, .int (Ii v10))]) X dX12_teller_77 (by decide) rfl ?_
                refine go_lt (fun J => ∀ (v21 : Int) (M22 : Mm), i32 v21 → Go p l e (rmO 2 49) s m args below meth c D TR 67 base 8 0 0 (FinI D TR 67 base below args s i32) M22 137 [(0, .ref (base + 0)), (2, .int (Ii a2)), (3, .int (Ii a3)), (5, .int (Ii v21)), (6, .int (Ii v20))] [] (J v21 M22)) (by
                    intro v21 M22 hv21
                    refine go_iconst (v := 0) X dX12_teller_137 rfl ?_
                    refine go_istore (i := 7) (L' := [(7, .int (Ii 0)), (0, .ref (base + 0)), (2, .int (Ii a2)), (3, .int (Ii a3)), (5, .int (Ii v21)), (6, .int (Ii v20))]) X dX12_teller_138 (by decide) rfl ?_
                    refine go_lt (fun J => ∀ (v24 : Int) (M25 : Mm), i32 v24 → Go p l e (rmO 2 49) s m args below meth c D TR 67 base 8 0 0 (FinI D TR 67 base below args s i32) M25 172 [(0, .ref (base + 0)), (2, .int (Ii a2)), (3, .int (Ii a3)), (5, .int (Ii v24)), (6, .int (Ii v20))] [] (J v24 M25)) (by
                        intro v24 M25 hv24
                        refine go_aload_n X dX12_teller_172 rfl 0 rfl ?_
                        refine go_iconst (v := 1) X dX12_teller_173 rfl ?_
                        refine go_putz (i := 76) X fc12 dX12_teller_174 trn0 tr0 (Nat.le_of_ble_eq_true rfl) rfl lw1004 rfl rfl rfl (Or.inr rfl) (fun M27 => ?_)
                        refine go_iload X dX12_teller_177 4 rfl ?_
                        refine go_istore (i := 4) (L' := [(4, .int (Ii v20)), (0, .ref (base + 0)), (2, .int (Ii a2)), (3, .int (Ii a3)), (5, .int (Ii v24)), (6, .int (Ii v20))]) X dX12_teller_179 (by decide) rfl ?_
                        refine go_iinc (i := 5) (L' := fun v => [(5, .int (Ii v)), (4, .int (Ii v20)), (0, .ref (base + 0)), (2, .int (Ii a2)), (3, .int (Ii a3)), (6, .int (Ii v20))]) X dX12_teller_181 hv24 kI_1 (j := 4) rfl (by decide) (fun _ => rfl) (fun v28 hv28 => ?_)
                        refine go_goto (tgt := 35) X dX12_teller_184 rfl ?_
                        refine go_sub [2, 3, 4, 1, 0] rfl ?_
                        exact hrc35_12 v20 v28 M27 hv20 hv28
                        )
                        (fun J172_26 hJ172_26 => ?_)
                    refine go_sub [1, 2, 3, 4, 5, 0] rfl ?_
                    exact go_lp (fun (rc : Int × Int × Mm → Rs) => ∀ (v29 : Int) (v30 : Int) (M31 : Mm), i32 v29 → i32 v30 → Go p l e (rmO 2 49) s m args below meth c D TR 67 base 8 0 0 (FinI D TR 67 base below args s i32) M31 140 [(0, .ref (base + 0)), (2, .int (Ii a2)), (3, .int (Ii a3)), (5, .int (Ii v29)), (6, .int (Ii v20)), (7, .int (Ii v30))] [] (rc (v29, v30, M31)))
                        (by intro v29 v30 M31 hv29 hv30; exact go_none)
                        (by
                        intro rc140_32 hrc140_32 v29 v30 M31 hv29 hv30
                        unfold f_X12_teller_L140_38
                        dsimp only
                        refine go_iload X dX12_teller_140 5 rfl ?_
                        refine go_iconst (v := 3) X dX12_teller_142 rfl ?_
                        refine go_icmp_ge (tgt := 172) X dX12_teller_143 rfl hv30 kI_3 (fun c33 => ?_) (fun c33 => ?_)
                        · refine go_sub [0, 1, 2, 3, 4] rfl ?_
                          exact hJ172_26 v29 M31 hv29
                        · refine go_iload X dX12_teller_146 4 rfl ?_
                          refine go_iconst (v := (-1)) X dX12_teller_148 rfl ?_
                          refine go_icmp_eq (tgt := 172) X dX12_teller_149 rfl hv20 kI_m1 (fun c34 => ?_) (fun c34 => ?_)
                          · refine go_sub [0, 1, 2, 3, 4] rfl ?_
                            exact hJ172_26 v29 M31 hv29
                          · refine go_aload_n X dX12_teller_152 rfl 0 rfl ?_
                            refine go_getc (i := 77) X fc12 dX12_teller_153 trn0 tr0 (Nat.le_of_ble_eq_true rfl) rfl lw926 rfl ?_
                            refine go_iload X dX12_teller_156 5 rfl ?_
                            refine go_aload_n X dX12_teller_158 rfl 0 rfl ?_
                            refine go_getc (i := 78) X fc12 dX12_teller_159 trn0 tr0 (Nat.le_of_ble_eq_true rfl) rfl lw927 rfl ?_
                            refine go_iload X dX12_teller_162 5 rfl ?_
                            refine go_iaload X dX12_teller_164 trn60 tr60 hv30 (fun v35 hv35 => ?_)
                            refine go_iastore X dX12_teller_165 trn59 tr59 hv30 hv35 (fun M36 => ?_)
                            refine go_iinc (i := 7) (L' := fun v => [(7, .int (Ii v)), (0, .ref (base + 0)), (2, .int (Ii a2)), (3, .int (Ii a3)), (5, .int (Ii v29)), (6, .int (Ii v20))]) X dX12_teller_166 hv30 kI_1 (j := 5) rfl (by decide) (fun _ => rfl) (fun v37 hv37 => ?_)
                            refine go_goto (tgt := 140) X dX12_teller_169 rfl ?_
                            refine go_sub [1, 2, 3, 4, 5, 0] rfl ?_
                            exact hrc140_32 v29 v37 M36 hv29 hv37
                        )
                        FU v21 0 M22 hv21 kI_0
                    )
                    (fun J137_23 hJ137_23 => ?_)
                refine go_sub [2, 3, 4, 5, 6, 1, 0] rfl ?_
                exact go_lp (fun (rc : Int × Int × Int × Mm → Rs) => ∀ (v39 : Int) (v40 : Int) (v41 : Int) (M42 : Mm), i32 v39 → i32 v40 → i32 v41 → Go p l e (rmO 2 49) s m args below meth c D TR 67 base 8 0 0 (FinI D TR 67 base below args s i32) M42 79 [(0, .ref (base + 0)), (2, .int (Ii a2)), (3, .int (Ii a3)), (4, .int (Ii v39)), (5, .int (Ii v40)), (6, .int (Ii v20)), (7, .int (Ii v41))] [] (rc (v39, v40, v41, M42)))
                    (by intro v39 v40 v41 M42 hv39 hv40 hv41; exact go_none)
                    (by
                    intro rc79_43 hrc79_43 v39 v40 v41 M42 hv39 hv40 hv41
                    unfold f_X12_teller_L79_61
                    dsimp only
                    refine go_iload X dX12_teller_79 6 rfl ?_
                    refine go_iconst (v := 3) X dX12_teller_81 rfl ?_
                    refine go_icmp_ge (tgt := 137) X dX12_teller_82 rfl hv41 kI_3 (fun c44 => ?_) (fun c44 => ?_)
                    · refine go_sub [0, 1, 2, 4, 5] rfl ?_
                      exact hJ137_23 v40 M42 hv40
                    · refine go_iload X dX12_teller_85 5 rfl ?_
                      refine go_iconst (v := (-1)) X dX12_teller_87 rfl ?_
                      refine go_icmp_eq (tgt := 137) X dX12_teller_88 rfl hv20 kI_m1 (fun c45 => ?_) (fun c45 => ?_)
                      · refine go_sub [0, 1, 2, 4, 5] rfl ?_
                        exact hJ137_23 v40 M42 hv40
                      · refine go_aload_n X dX12_teller_91 rfl 0 rfl ?_
                        refine go_getc (i := 78) X fc12 dX12_teller_92 trn0 tr0 (Nat.le_of_ble_eq_true rfl) rfl lw927 rfl ?_
                        refine go_iload X dX12_teller_95 6 rfl ?_
                        refine go_iload X dX12_teller_97 6 rfl ?_
                        refine go_aload_n X dX12_teller_99 rfl 0 rfl ?_
                        refine go_getc (i := 4) X fc12 dX12_teller_100 trn0 tr0 (Nat.le_of_ble_eq_true rfl) rfl lw869 rfl ?_
                        refine go_iload X dX12_teller_103 5 rfl ?_
                        refine go_iaload X dX12_teller_105 trn4 tr4 hv20 (fun v46 hv46 => ?_)
                        refine go_lt (fun J => ∀ (v47 : Int) (v48 : Int) (v49 : Int) (v50 : Int) (v51 : Int) (M52 : Mm), i32 v47 → i32 v48 → i32 v49 → i32 v50 → i32 v51 → Go p l e (rmO 2 49) s m args below meth c D TR 67 base 8 0 0 (FinI D TR 67 base below args s i32) M52 130 [(0, .ref (base + 0)), (2, .int (Ii a2)), (3, .int (Ii a3)), (4, .int (Ii v47)), (5, .int (Ii v48)), (6, .int (Ii v20)), (7, .int (Ii v49))] [.int (Ii v51), .int (Ii v50), .ref (base + 60)] (J v47 v48 v49 v50 v51 M52)) (by
                            intro v47 v48 v49 v50 v51 M52 hv47 hv48 hv49 hv50 hv51
                            refine go_iastore X dX12_teller_130 trn60 tr60 hv50 hv51 (fun M54 => ?_)
                            refine go_iinc (i := 7) (L' := fun v => [(7, .int (Ii v)), (0, .ref (base + 0)), (2, .int (Ii a2)), (3, .int (Ii a3)), (4, .int (Ii v47)), (5, .int (Ii v48)), (6, .int (Ii v20))]) X dX12_teller_131 hv49 kI_1 (j := 6) rfl (by decide) (fun _ => rfl) (fun v55 hv55 => ?_)
                            refine go_goto (tgt := 79) X dX12_teller_134 rfl ?_
                            refine go_sub [1, 2, 3, 4, 5, 6, 0] rfl ?_
                            exact hrc79_43 v47 v48 v55 M54 hv47 hv48 hv55
                            )
                            (fun J130_53 hJ130_53 => ?_)
                        refine go_icmp_ge (tgt := 129) X dX12_teller_106 rfl hv41 hv46 (fun c56 => ?_) (fun c56 => ?_)
                        · refine go_iconst (v := (-1)) X dX12_teller_129 rfl ?_
                          exact hJ130_53 v39 v40 v41 v41 ((-1)) M42 hv39 hv40 hv41 hv41 kI_m1
                        · refine go_aload_n X dX12_teller_109 rfl 0 rfl ?_
                          refine go_getc (i := 77) X fc12 dX12_teller_110 trn0 tr0 (Nat.le_of_ble_eq_true rfl) rfl lw926 rfl ?_
                          refine go_aload_n X dX12_teller_113 rfl 0 rfl ?_
                          refine go_getc (i := 9) X fc12 dX12_teller_114 trn0 tr0 (Nat.le_of_ble_eq_true rfl) rfl lw874 rfl ?_
                          refine go_iconst (v := 3) X dX12_teller_117 rfl ?_
                          refine go_iload X dX12_teller_118 3 rfl ?_
                          refine go_imul X dX12_teller_120 kI_3 hv39 (fun v57 hv57 => ?_)
                          refine go_iload X dX12_teller_121 6 rfl ?_
                          refine go_iadd X dX12_teller_123 hv57 hv41 (fun v58 hv58 => ?_)
                          refine go_iaload X dX12_teller_124 trn9 tr9 hv58 (fun v59 hv59 => ?_)
                          refine go_iaload X dX12_teller_125 trn59 tr59 hv59 (fun v60 hv60 => ?_)
                          refine go_goto (tgt := 130) X dX12_teller_126 rfl ?_
                          exact hJ130_53 v39 v40 v41 v41 v60 M42 hv39 hv40 hv41 hv41 hv60
                    )
                    FU v9 v10 0 M17 hv9 hv10 kI_0
              · refine go_sub [3] rfl ?_
                exact hJ64_8 v9 M17 hv9
          )
          FU a1 0 M2 ha1 kI_0
      )
      (fun J29_3 hJ29_3 => ?_)
  refine go_sub [1, 2, 3, 4, 0] rfl ?_
  exact go_lp (fun (rc : Int × Mm → Rs) => ∀ (v63 : Int) (M64 : Mm), i32 v63 → Go p l e (rmO 2 49) s m args below meth c D TR 67 base 8 0 0 (FinI D TR 67 base below args s i32) M64 8 [(0, .ref (base + 0)), (1, .int (Ii a1)), (2, .int (Ii a2)), (3, .int (Ii a3)), (4, .int (Ii v63))] [] (rc (v63, M64)))
      (by intro v63 M64 hv63; exact go_none)
      (by
      intro rc8_65 hrc8_65 v63 M64 hv63
      unfold f_X12_teller_L8_69
      dsimp only
      refine go_iload X dX12_teller_8 4 rfl ?_
      refine go_iconst (v := 3) X dX12_teller_10 rfl ?_
      refine go_icmp_ge (tgt := 29) X dX12_teller_11 rfl hv63 kI_3 (fun c66 => ?_) (fun c66 => ?_)
      · refine go_sub [0, 1, 2, 3] rfl ?_
        exact hJ29_3 M64
      · refine go_aload_n X dX12_teller_14 rfl 0 rfl ?_
        refine go_getc (i := 77) X fc12 dX12_teller_15 trn0 tr0 (Nat.le_of_ble_eq_true rfl) rfl lw926 rfl ?_
        refine go_iload X dX12_teller_18 4 rfl ?_
        refine go_iload X dX12_teller_20 4 rfl ?_
        refine go_iastore X dX12_teller_22 trn59 tr59 hv63 hv63 (fun M67 => ?_)
        refine go_iinc (i := 4) (L' := fun v => [(4, .int (Ii v)), (0, .ref (base + 0)), (1, .int (Ii a1)), (2, .int (Ii a2)), (3, .int (Ii a3))]) X dX12_teller_23 hv63 kI_1 (j := 4) rfl (by decide) (fun _ => rfl) (fun v68 hv68 => ?_)
        refine go_goto (tgt := 8) X dX12_teller_26 rfl ?_
        refine go_sub [1, 2, 3, 4, 0] rfl ?_
        exact hrc8_65 v68 M67 hv68
      )
      FU 0 M1 kI_0
def f_X12_equationFor_L48_26 (a2 : Int) (v2 : Int) (v5 : Int) (J86_11 : Int → Mm → Rs) (rc48_15 : Int × Int × Mm → Rs) : Int × Int × Mm → Rs := fun (v12, v13, M14) =>
Lt (M14 0 19) fun v16 =>
if v16 ≤ v13 then (
J86_11 v12 M14) else (
Cl (f_X12_counts v13 v2 a2 v5 M14) fun v19 M18 =>
Lt (fun (v20 : Int) (v21 : Int) (M22 : Mm) => 
Lt (wr (v20 + 1)) fun v24 =>
rc48_15 (v21, v24, M22)) fun J78_23 =>
if v19 = 0 then (
J78_23 v13 v12 M18) else (
J78_23 v13 v13 M18))
def f_X12_equationFor (a1 : Int) (a2 : Int) (a3 : Int) (M : Mm) : Rs :=
Cl (f_X12_teller a1 a2 a3 M) fun v2 M1 =>
if ¬ v2 = ((-1)) then (
Cl (f_X12_childThere v2 a3 M1) fun v5 M4 =>
Cl (f_X12_tellersOf v2 a2 v5 M4) fun v7 M6 =>
if v7 ≤ 1 then (
Lt (fun (v9 : Int) (M10 : Mm) => 
some (v9, M10)) fun J86_11 =>
Lp (f_X12_equationFor_L48_26 a2 v2 v5 J86_11) FU ((-1), 0, M6)) else (
some ((-3), M6))) else (
some ((-1), M1))
theorem cy_X12_equationFor : yX12_equationFor.cls ≠ "java/lang/invoke/MethodHandle" ∧ yX12_equationFor.cls ≠ "java/lang/invoke/VarHandle" ∧ (parseMethodDescriptor yX12_equationFor.desc).map (fun d => d.parameters.length) = some 3 := ⟨by decide +kernel, by decide +kernel, by decide +kernel⟩
set_option maxRecDepth 20000 in
theorem ok_X12_equationFor (l : Launch) (D : Dd) (base : Nat) (M : Mm) (a1 : Int) (ha1 : i32 a1) (a2 : Int) (ha2 : i32 a2) (a3 : Int) (ha3 : i32 a3) : OkI l D TR 67 base yX12_equationFor cX12_equationFor 8 (some .int) 3 76 [.ref (base + 0), .int (Ii a1), .int (Ii a2), .int (Ii a3)] M i32 (f_X12_equationFor a1 a2 a3 M) := by
  refine metI (by decide +kernel) [(0, .ref (base + 0)), (1, .int (Ii a1)), (2, .int (Ii a2)), (3, .int (Ii a3))] rfl (Nat.le_of_ble_eq_true rfl) (fun p e s m args below meth c X hrt hlk => ?_)
  have X : Cx p s m args c cX12_equationFor D 8 RX12 := X
  unfold f_X12_equationFor
  refine go_aload_n X dX12_equationFor_0 rfl 0 rfl ?_
  refine go_iload_n X dX12_equationFor_1 rfl 1 rfl ?_
  refine go_iload_n X dX12_equationFor_2 rfl 2 rfl ?_
  refine go_iload_n X dX12_equationFor_3 rfl 3 rfl ?_
  refine goI (fun H locs ls r ho hW hL => runV X (ok_X12_teller l D base M a1 ha1 a2 ha2 a3 ha3 H.size r ho) dX12_equationFor_4 lw1012 lw1013 lw1014 lw944 ⟨lw1011, cy_X12_teller, Nat.le_of_ble_eq_true rfl, Nat.le_of_ble_eq_true rfl⟩ rfl trn0 tr0 rfl rfl rfl rfl (Nat.le_of_ble_eq_true rfl) hW hL hk0) (fun v2 M1 hv2 => ?_)
  refine go_istore (i := 4) (L' := [(4, .int (Ii v2)), (0, .ref (base + 0)), (1, .int (Ii a1)), (2, .int (Ii a2)), (3, .int (Ii a3))]) X dX12_equationFor_7 (by decide) rfl ?_
  refine go_iload X dX12_equationFor_9 0 rfl ?_
  refine go_iconst (v := (-1)) X dX12_equationFor_11 rfl ?_
  refine go_icmp_ne (tgt := 17) X dX12_equationFor_12 rfl hv2 kI_m1 (fun c3 => ?_) (fun c3 => ?_)
  · refine go_aload_n X dX12_equationFor_17 rfl 1 rfl ?_
    refine go_iload X dX12_equationFor_18 0 rfl ?_
    refine go_iload_n X dX12_equationFor_20 rfl 4 rfl ?_
    refine goI (fun H locs ls r ho hW hL => runV X (ok_X12_childThere l D base M1 v2 hv2 a3 ha3 H.size r ho) dX12_equationFor_21 lw1005 lw1006 lw1007 lw944 ⟨lw1001, cy_X12_childThere, Nat.le_of_ble_eq_true rfl, Nat.le_of_ble_eq_true rfl⟩ rfl trn0 tr0 rfl rfl rfl rfl (Nat.le_of_ble_eq_true rfl) hW hL hk0) (fun v5 M4 hv5 => ?_)
    refine go_istore (i := 5) (L' := [(5, .int (Ii v5)), (4, .int (Ii v2)), (0, .ref (base + 0)), (1, .int (Ii a1)), (2, .int (Ii a2)), (3, .int (Ii a3))]) X dX12_equationFor_24 (by decide) rfl ?_
    refine go_aload_n X dX12_equationFor_26 rfl 2 rfl ?_
    refine go_iload X dX12_equationFor_27 1 rfl ?_
    refine go_iload_n X dX12_equationFor_29 rfl 4 rfl ?_
    refine go_iload X dX12_equationFor_30 0 rfl ?_
    refine goI (fun H locs ls r ho hW hL => runV X (ok_X12_tellersOf l D base M4 v2 hv2 a2 ha2 v5 hv5 H.size r ho) dX12_equationFor_32 lw1008 lw1009 lw1010 lw944 ⟨lw1003, cy_X12_tellersOf, Nat.le_of_ble_eq_true rfl, Nat.le_of_ble_eq_true rfl⟩ rfl trn0 tr0 rfl rfl rfl rfl (Nat.le_of_ble_eq_true rfl) hW hL hk0) (fun v7 M6 hv7 => ?_)
    refine go_iconst (v := 1) X dX12_equationFor_35 rfl ?_
    refine go_icmp_le (tgt := 42) X dX12_equationFor_36 rfl hv7 kI_1 (fun c8 => ?_) (fun c8 => ?_)
    · refine go_iconst (v := (-1)) X dX12_equationFor_42 rfl ?_
      refine go_istore (i := 6) (L' := [(6, .int (Ii ((-1)))), (5, .int (Ii v5)), (4, .int (Ii v2)), (0, .ref (base + 0)), (1, .int (Ii a1)), (2, .int (Ii a2)), (3, .int (Ii a3))]) X dX12_equationFor_43 (by decide) rfl ?_
      refine go_iconst (v := 0) X dX12_equationFor_45 rfl ?_
      refine go_istore (i := 7) (L' := [(7, .int (Ii 0)), (6, .int (Ii ((-1)))), (5, .int (Ii v5)), (4, .int (Ii v2)), (0, .ref (base + 0)), (1, .int (Ii a1)), (2, .int (Ii a2)), (3, .int (Ii a3))]) X dX12_equationFor_46 (by decide) rfl ?_
      refine go_lt (fun J => ∀ (v9 : Int) (M10 : Mm), i32 v9 → Go p l e (rmO 3 76) s m args below meth c D TR 67 base 8 0 0 (FinI D TR 67 base below args s i32) M10 86 [(6, .int (Ii v9))] [] (J v9 M10)) (by
          intro v9 M10 hv9
          refine go_iload X dX12_equationFor_86 0 rfl ?_
          exact go_ireturn X hrt hlk dX12_equationFor_88 hv9
          )
          (fun J86_11 hJ86_11 => ?_)
      refine go_sub [4, 6, 3, 2, 1, 0] rfl ?_
      exact go_lp (fun (rc : Int × Int × Mm → Rs) => ∀ (v12 : Int) (v13 : Int) (M14 : Mm), i32 v12 → i32 v13 → Go p l e (rmO 3 76) s m args below meth c D TR 67 base 8 0 0 (FinI D TR 67 base below args s i32) M14 48 [(0, .ref (base + 0)), (2, .int (Ii a2)), (4, .int (Ii v2)), (5, .int (Ii v5)), (6, .int (Ii v12)), (7, .int (Ii v13))] [] (rc (v12, v13, M14)))
          (by intro v12 v13 M14 hv12 hv13; exact go_none)
          (by
          intro rc48_15 hrc48_15 v12 v13 M14 hv12 hv13
          unfold f_X12_equationFor_L48_26
          dsimp only
          refine go_iload X dX12_equationFor_48 5 rfl ?_
          refine go_aload_n X dX12_equationFor_50 rfl 0 rfl ?_
          refine go_geti (i := 19) X fc12 dX12_equationFor_51 trn0 tr0 (Nat.le_of_ble_eq_true rfl) rfl lw987 rfl (fun v16 hv16 => ?_)
          refine go_icmp_ge (tgt := 86) X dX12_equationFor_54 rfl hv13 hv16 (fun c17 => ?_) (fun c17 => ?_)
          · refine go_sub [4] rfl ?_
            exact hJ86_11 v12 M14 hv12
          · refine go_aload_n X dX12_equationFor_57 rfl 0 rfl ?_
            refine go_iload X dX12_equationFor_58 5 rfl ?_
            refine go_iload X dX12_equationFor_60 2 rfl ?_
            refine go_iload_n X dX12_equationFor_62 rfl 1 rfl ?_
            refine go_iload X dX12_equationFor_63 3 rfl ?_
            refine goI (fun H locs ls r ho hW hL => runV X (ok_X12_counts l D base M14 v13 hv13 v2 hv2 a2 ha2 v5 hv5 H.size r ho) dX12_equationFor_65 lw995 lw996 lw997 lw944 ⟨lw993, cy_X12_counts, Nat.le_of_ble_eq_true rfl, Nat.le_of_ble_eq_true rfl⟩ rfl trn0 tr0 rfl rfl rfl rfl (Nat.le_of_ble_eq_true rfl) hW hL hk0) (fun v19 M18 hv19 => ?_)
            refine go_lt (fun J => ∀ (v20 : Int) (v21 : Int) (M22 : Mm), i32 v20 → i32 v21 → Go p l e (rmO 3 76) s m args below meth c D TR 67 base 8 0 0 (FinI D TR 67 base below args s i32) M22 78 [(0, .ref (base + 0)), (2, .int (Ii a2)), (4, .int (Ii v2)), (5, .int (Ii v5)), (7, .int (Ii v20))] [.int (Ii v21)] (J v20 v21 M22)) (by
                intro v20 v21 M22 hv20 hv21
                refine go_istore (i := 6) (L' := [(6, .int (Ii v21)), (0, .ref (base + 0)), (2, .int (Ii a2)), (4, .int (Ii v2)), (5, .int (Ii v5)), (7, .int (Ii v20))]) X dX12_equationFor_78 (by decide) rfl ?_
                refine go_iinc (i := 7) (L' := fun v => [(7, .int (Ii v)), (6, .int (Ii v21)), (0, .ref (base + 0)), (2, .int (Ii a2)), (4, .int (Ii v2)), (5, .int (Ii v5))]) X dX12_equationFor_80 hv20 kI_1 (j := 5) rfl (by decide) (fun _ => rfl) (fun v24 hv24 => ?_)
                refine go_goto (tgt := 48) X dX12_equationFor_83 rfl ?_
                refine go_sub [2, 3, 4, 5, 1, 0] rfl ?_
                exact hrc48_15 v21 v24 M22 hv21 hv24
                )
                (fun J78_23 hJ78_23 => ?_)
            refine go_if_eq (tgt := 76) X dX12_equationFor_68 rfl (bo_i32 hv19) (fun c25 => ?_) (fun c25 => ?_)
            · refine go_iload X dX12_equationFor_76 4 rfl ?_
              refine go_sub [0, 1, 2, 3, 5] rfl ?_
              exact hJ78_23 v13 v12 M18 hv13 hv12
            · refine go_iload X dX12_equationFor_71 5 rfl ?_
              refine go_goto (tgt := 78) X dX12_equationFor_73 rfl ?_
              refine go_sub [0, 1, 2, 3, 5] rfl ?_
              exact hJ78_23 v13 v13 M18 hv13 hv13
          )
          FU ((-1)) 0 M6 kI_m1 kI_0
    · refine go_bipush (v := (-3)) X dX12_equationFor_39 (by decide) ?_
      exact go_ireturn X hrt hlk dX12_equationFor_41 kI_m3
  · refine go_iconst (v := (-1)) X dX12_equationFor_15 rfl ?_
    exact go_ireturn X hrt hlk dX12_equationFor_16 kI_m1
def f_X12_vertex (a1 : Int) (a2 : Int) (M : Mm) : Rs :=
Lt (fun (v1 : Int) (M2 : Mm) => 
some (v1, M2)) fun J18_3 =>
if ¬ a1 = ((-1)) then (
Lt (wr (6 * a1)) fun v5 =>
Lt (wr (6 + v5)) fun v6 =>
Lt (wr (v6 + a2)) fun v7 =>
J18_3 v7 M) else (
J18_3 a2 M)
theorem cy_X12_vertex : yX12_vertex.cls ≠ "java/lang/invoke/MethodHandle" ∧ yX12_vertex.cls ≠ "java/lang/invoke/VarHandle" ∧ (parseMethodDescriptor yX12_vertex.desc).map (fun d => d.parameters.length) = some 2 := ⟨by decide +kernel, by decide +kernel, by decide +kernel⟩
set_option maxRecDepth 20000 in
theorem ok_X12_vertex (l : Launch) (D : Dd) (base : Nat) (M : Mm) (a1 : Int) (ha1 : i32 a1) (a2 : Int) (ha2 : i32 a2) : OkI l D TR 67 base yX12_vertex cX12_vertex 2 (some .int) 0 0 [.int (Ii a1), .int (Ii a2)] M i32 (f_X12_vertex a1 a2 M) := by
  refine metI (by decide +kernel) [(0, .int (Ii a1)), (1, .int (Ii a2))] rfl (Nat.le_of_ble_eq_true rfl) (fun p e s m args below meth c X hrt hlk => ?_)
  have X : Cx p s m args c cX12_vertex D 2 RX12 := X
  unfold f_X12_vertex
  refine go_iload_n X dX12_vertex_0 rfl 0 rfl ?_
  refine go_iconst (v := (-1)) X dX12_vertex_1 rfl ?_
  refine go_lt (fun J => ∀ (v1 : Int) (M2 : Mm), i32 v1 → Go p l e (rmO 0 0) s m args below meth c D TR 67 base 2 0 0 (FinI D TR 67 base below args s i32) M2 18 [] [.int (Ii v1)] (J v1 M2)) (by
      intro v1 M2 hv1
      exact go_ireturn X hrt hlk dX12_vertex_18 hv1
      )
      (fun J18_3 hJ18_3 => ?_)
  refine go_icmp_ne (tgt := 9) X dX12_vertex_2 rfl ha1 kI_m1 (fun c4 => ?_) (fun c4 => ?_)
  · refine go_bipush (v := 6) X dX12_vertex_9 (by decide) ?_
    refine go_bipush (v := 6) X dX12_vertex_11 (by decide) ?_
    refine go_iload_n X dX12_vertex_13 rfl 0 rfl ?_
    refine go_imul X dX12_vertex_14 kI_6 ha1 (fun v5 hv5 => ?_)
    refine go_iadd X dX12_vertex_15 kI_6 hv5 (fun v6 hv6 => ?_)
    refine go_iload_n X dX12_vertex_16 rfl 1 rfl ?_
    refine go_iadd X dX12_vertex_17 hv6 ha2 (fun v7 hv7 => ?_)
    refine go_sub [] rfl ?_
    exact hJ18_3 v7 M hv7
  · refine go_iload_n X dX12_vertex_5 rfl 1 rfl ?_
    refine go_goto (tgt := 18) X dX12_vertex_6 rfl ?_
    refine go_sub [] rfl ?_
    exact hJ18_3 a2 M ha2
def f_X12_isStill (a1 : Int) (M : Mm) : Rs :=
gd (0 ≤ a1 ∧ a1 < 6) <|
Lt (M 12 a1.toNat) fun v1 =>
Lt (fun (v2 : Int) (M3 : Mm) => 
some (v2, M3)) fun J15_4 =>
if 1 < v1 then (
J15_4 0 M) else (
J15_4 1 M)
theorem cy_X12_isStill : yX12_isStill.cls ≠ "java/lang/invoke/MethodHandle" ∧ yX12_isStill.cls ≠ "java/lang/invoke/VarHandle" ∧ (parseMethodDescriptor yX12_isStill.desc).map (fun d => d.parameters.length) = some 1 := ⟨by decide +kernel, by decide +kernel, by decide +kernel⟩
set_option maxRecDepth 20000 in
theorem ok_X12_isStill (l : Launch) (D : Dd) (base : Nat) (M : Mm) (a1 : Int) (ha1 : i32 a1) : OkI l D TR 67 base yX12_isStill cX12_isStill 2 (some .boolean) 0 0 [.ref (base + 0), .int (Ii a1)] M bo (f_X12_isStill a1 M) := by
  refine metI (by decide +kernel) [(0, .ref (base + 0)), (1, .int (Ii a1))] rfl (Nat.le_of_ble_eq_true rfl) (fun p e s m args below meth c X hrt hlk => ?_)
  have X : Cx p s m args c cX12_isStill D 2 RX12 := X
  unfold f_X12_isStill
  refine go_aload_n X dX12_isStill_0 rfl 0 rfl ?_
  refine go_getc (i := 13) X fc12 dX12_isStill_1 trn0 tr0 (Nat.le_of_ble_eq_true rfl) rfl lw877 rfl ?_
  refine go_iload_n X dX12_isStill_4 rfl 1 rfl ?_
  refine go_iaload X dX12_isStill_5 trn12 tr12 ha1 (fun v1 hv1 => ?_)
  refine go_iconst (v := 1) X dX12_isStill_6 rfl ?_
  refine go_lt (fun J => ∀ (v2 : Int) (M3 : Mm), bo v2 → Go p l e (rmO 0 0) s m args below meth c D TR 67 base 2 0 0 (FinI D TR 67 base below args s bo) M3 15 [] [.int (Ii v2)] (J v2 M3)) (by
      intro v2 M3 hv2
      exact go_zreturn X hrt hlk dX12_isStill_15 hv2 hv2
      )
      (fun J15_4 hJ15_4 => ?_)
  refine go_icmp_gt (tgt := 14) X dX12_isStill_7 rfl hv1 kI_1 (fun c5 => ?_) (fun c5 => ?_)
  · refine go_iconst (v := 0) X dX12_isStill_14 rfl ?_
    refine go_sub [] rfl ?_
    exact hJ15_4 0 M (Or.inl rfl)
  · refine go_iconst (v := 1) X dX12_isStill_10 rfl ?_
    refine go_goto (tgt := 15) X dX12_isStill_11 rfl ?_
    refine go_sub [] rfl ?_
    exact hJ15_4 1 M (Or.inr rfl)
def f_X12_addsEdges_L5_44 (a1 : Int) (a2 : Int) (J135_3 : Mm → Rs) (rc5_6 : Int × Mm → Rs) : Int × Mm → Rs := fun (v4, M5) =>
Lt (wr (8 * a1)) fun v7 =>
gd (0 ≤ a1 ∧ a1 < 30) <|
Lt (M5 20 a1.toNat) fun v8 =>
Lt (wr (v7 + v8)) fun v9 =>
if v9 ≤ v4 then (
J135_3 M5) else (
gd (0 ≤ v4 ∧ v4 < 240) <|
Lt (M5 22 v4.toNat) fun v11 =>
gd (0 ≤ v4 ∧ v4 < 240) <|
Lt (M5 23 v4.toNat) fun v12 =>
gd (0 ≤ v4 ∧ v4 < 240) <|
Lt (M5 21 v4.toNat) fun v13 =>
Lt (fun (v14 : Int) (M15 : Mm) => 
Lt (wr (v14 + 1)) fun v17 =>
rc5_6 (v17, M15)) fun J129_16 =>
Lt (fun (v18 : Int) (M19 : Mm) => 
gd (0 ≤ v18 ∧ v18 < 240) <|
Lt (M19 21 v18.toNat) fun v21 =>
if ¬ v21 = 2 then (
J129_16 v18 M19) else (
Cl (f_X12_isStill v11 M19) fun v24 M23 =>
if v24 = 0 then (
J129_16 v18 M23) else (
gd (0 ≤ a1 ∧ a1 < 30) <|
Lt (M23 16 a1.toNat) fun v26 =>
gd (0 ≤ v26 ∧ v26 < 10) <|
Lt (M23 4 v26.toNat) fun v27 =>
if v27 ≤ v12 then (
J129_16 v18 M23) else (
gd (0 ≤ a2 ∧ a2 < 24) <|
Lt (M23 65 a2.toNat) fun v29 =>
gd (0 ≤ v12 ∧ v12 < 3) <|
Lt (M23 59 v12.toNat) fun v30 =>
Cl (f_X12_vertex v30 v11 M23) fun v32 M31 =>
Lt (jshl 1 v32) fun v33 =>
Lt (jor v29 v33) fun v34 =>
gd (0 ≤ a2 ∧ a2 < 24) <|
Lt (up M31 65 a2.toNat v34) fun M35 =>
J129_16 v18 M35)))) fun J71_20 =>
if ¬ v13 = 1 then (
J71_20 v4 M5) else (
Cl (f_X12_isStill v11 M5) fun v38 M37 =>
if v38 = 0 then (
J71_20 v4 M37) else (
gd (0 ≤ a2 ∧ a2 < 24) <|
Lt (M37 65 a2.toNat) fun v40 =>
Lt (jshl 1 v11) fun v41 =>
Lt (jor v40 v41) fun v42 =>
gd (0 ≤ a2 ∧ a2 < 24) <|
Lt (up M37 65 a2.toNat v42) fun M43 =>
J129_16 v4 M43)))
def f_X12_addsEdges (a1 : Int) (a2 : Int) (M : Mm) : Rs :=
Lt (wr (8 * a1)) fun v1 =>
Lt (fun (M2 : Mm) => 
some (0, M2)) fun J135_3 =>
Lp (f_X12_addsEdges_L5_44 a1 a2 J135_3) FU (v1, M)
theorem cy_X12_addsEdges : yX12_addsEdges.cls ≠ "java/lang/invoke/MethodHandle" ∧ yX12_addsEdges.cls ≠ "java/lang/invoke/VarHandle" ∧ (parseMethodDescriptor yX12_addsEdges.desc).map (fun d => d.parameters.length) = some 2 := ⟨by decide +kernel, by decide +kernel, by decide +kernel⟩
set_option maxRecDepth 20000 in
theorem ok_X12_addsEdges (l : Launch) (D : Dd) (base : Nat) (M : Mm) (a1 : Int) (ha1 : i32 a1) (a2 : Int) (ha2 : i32 a2) : OkV l D TR 67 base yX12_addsEdges cX12_addsEdges 6 none 1 21 [.ref (base + 0), .int (Ii a1), .int (Ii a2)] M (f_X12_addsEdges a1 a2 M) := by
  refine metV (by decide +kernel) [(0, .ref (base + 0)), (1, .int (Ii a1)), (2, .int (Ii a2))] rfl (Nat.le_of_ble_eq_true rfl) (fun p e s m args below meth c X hrt hlk => ?_)
  have X : Cx p s m args c cX12_addsEdges D 6 RX12 := X
  unfold f_X12_addsEdges
  refine go_bipush (v := 8) X dX12_addsEdges_0 (by decide) ?_
  refine go_iload_n X dX12_addsEdges_2 rfl 1 rfl ?_
  refine go_imul X dX12_addsEdges_3 kI_8 ha1 (fun v1 hv1 => ?_)
  refine go_istore_n (i := 3) (L' := [(3, .int (Ii v1)), (0, .ref (base + 0)), (1, .int (Ii a1)), (2, .int (Ii a2))]) X dX12_addsEdges_4 rfl (by decide) rfl ?_
  refine go_lt (fun J => ∀ (M2 : Mm), Go p l e (rmO 1 21) s m args below meth c D TR 67 base 6 0 0 (FinV D TR 67 base below args s) M2 135 [] [] (J M2)) (by
      intro M2
      exact go_vreturn X hrt hlk dX12_addsEdges_135
      )
      (fun J135_3 hJ135_3 => ?_)
  refine go_sub [1, 2, 3, 0] rfl ?_
  exact go_lp (fun (rc : Int × Mm → Rs) => ∀ (v4 : Int) (M5 : Mm), i32 v4 → Go p l e (rmO 1 21) s m args below meth c D TR 67 base 6 0 0 (FinV D TR 67 base below args s) M5 5 [(0, .ref (base + 0)), (1, .int (Ii a1)), (2, .int (Ii a2)), (3, .int (Ii v4))] [] (rc (v4, M5)))
      (by intro v4 M5 hv4; exact go_none)
      (by
      intro rc5_6 hrc5_6 v4 M5 hv4
      unfold f_X12_addsEdges_L5_44
      dsimp only
      refine go_iload_n X dX12_addsEdges_5 rfl 3 rfl ?_
      refine go_bipush (v := 8) X dX12_addsEdges_6 (by decide) ?_
      refine go_iload_n X dX12_addsEdges_8 rfl 1 rfl ?_
      refine go_imul X dX12_addsEdges_9 kI_8 ha1 (fun v7 hv7 => ?_)
      refine go_aload_n X dX12_addsEdges_10 rfl 0 rfl ?_
      refine go_getc (i := 24) X fc12 dX12_addsEdges_11 trn0 tr0 (Nat.le_of_ble_eq_true rfl) rfl lw885 rfl ?_
      refine go_iload_n X dX12_addsEdges_14 rfl 1 rfl ?_
      refine go_iaload X dX12_addsEdges_15 trn20 tr20 ha1 (fun v8 hv8 => ?_)
      refine go_iadd X dX12_addsEdges_16 hv7 hv8 (fun v9 hv9 => ?_)
      refine go_icmp_ge (tgt := 135) X dX12_addsEdges_17 rfl hv4 hv9 (fun c10 => ?_) (fun c10 => ?_)
      · refine go_sub [] rfl ?_
        exact hJ135_3 M5
      · refine go_aload_n X dX12_addsEdges_20 rfl 0 rfl ?_
        refine go_getc (i := 26) X fc12 dX12_addsEdges_21 trn0 tr0 (Nat.le_of_ble_eq_true rfl) rfl lw887 rfl ?_
        refine go_iload_n X dX12_addsEdges_24 rfl 3 rfl ?_
        refine go_iaload X dX12_addsEdges_25 trn22 tr22 hv4 (fun v11 hv11 => ?_)
        refine go_istore (i := 4) (L' := [(4, .int (Ii v11)), (0, .ref (base + 0)), (1, .int (Ii a1)), (2, .int (Ii a2)), (3, .int (Ii v4))]) X dX12_addsEdges_26 (by decide) rfl ?_
        refine go_aload_n X dX12_addsEdges_28 rfl 1 rfl ?_
        refine go_getc (i := 27) X fc12 dX12_addsEdges_29 trn0 tr0 (Nat.le_of_ble_eq_true rfl) rfl lw888 rfl ?_
        refine go_iload_n X dX12_addsEdges_32 rfl 4 rfl ?_
        refine go_iaload X dX12_addsEdges_33 trn23 tr23 hv4 (fun v12 hv12 => ?_)
        refine go_istore (i := 5) (L' := [(5, .int (Ii v12)), (4, .int (Ii v11)), (0, .ref (base + 0)), (1, .int (Ii a1)), (2, .int (Ii a2)), (3, .int (Ii v4))]) X dX12_addsEdges_34 (by decide) rfl ?_
        refine go_aload_n X dX12_addsEdges_36 rfl 2 rfl ?_
        refine go_getc (i := 25) X fc12 dX12_addsEdges_37 trn0 tr0 (Nat.le_of_ble_eq_true rfl) rfl lw886 rfl ?_
        refine go_iload_n X dX12_addsEdges_40 rfl 5 rfl ?_
        refine go_iaload X dX12_addsEdges_41 trn21 tr21 hv4 (fun v13 hv13 => ?_)
        refine go_iconst (v := 1) X dX12_addsEdges_42 rfl ?_
        refine go_lt (fun J => ∀ (v14 : Int) (M15 : Mm), i32 v14 → Go p l e (rmO 1 21) s m args below meth c D TR 67 base 6 0 0 (FinV D TR 67 base below args s) M15 129 [(0, .ref (base + 0)), (1, .int (Ii a1)), (2, .int (Ii a2)), (3, .int (Ii v14))] [] (J v14 M15)) (by
            intro v14 M15 hv14
            refine go_iinc (i := 3) (L' := fun v => [(3, .int (Ii v)), (0, .ref (base + 0)), (1, .int (Ii a1)), (2, .int (Ii a2))]) X dX12_addsEdges_129 hv14 kI_1 (j := 3) rfl (by decide) (fun _ => rfl) (fun v17 hv17 => ?_)
            refine go_goto (tgt := 5) X dX12_addsEdges_132 rfl ?_
            refine go_sub [1, 2, 3, 0] rfl ?_
            exact hrc5_6 v17 M15 hv17
            )
            (fun J129_16 hJ129_16 => ?_)
        refine go_lt (fun J => ∀ (v18 : Int) (M19 : Mm), i32 v18 → Go p l e (rmO 1 21) s m args below meth c D TR 67 base 6 0 0 (FinV D TR 67 base below args s) M19 71 [(0, .ref (base + 0)), (1, .int (Ii a1)), (2, .int (Ii a2)), (3, .int (Ii v18)), (4, .int (Ii v11)), (5, .int (Ii v12))] [] (J v18 M19)) (by
            intro v18 M19 hv18
            refine go_aload_n X dX12_addsEdges_71 rfl 0 rfl ?_
            refine go_getc (i := 25) X fc12 dX12_addsEdges_72 trn0 tr0 (Nat.le_of_ble_eq_true rfl) rfl lw886 rfl ?_
            refine go_iload_n X dX12_addsEdges_75 rfl 3 rfl ?_
            refine go_iaload X dX12_addsEdges_76 trn21 tr21 hv18 (fun v21 hv21 => ?_)
            refine go_iconst (v := 2) X dX12_addsEdges_77 rfl ?_
            refine go_icmp_ne (tgt := 129) X dX12_addsEdges_78 rfl hv21 kI_2 (fun c22 => ?_) (fun c22 => ?_)
            · refine go_sub [0, 1, 2, 3] rfl ?_
              exact hJ129_16 v18 M19 hv18
            · refine go_aload_n X dX12_addsEdges_81 rfl 0 rfl ?_
              refine go_iload X dX12_addsEdges_82 4 rfl ?_
              refine goI (fun H locs ls r ho hW hL => runV X (ok_X12_isStill l D base M19 v11 hv11 H.size r ho) dX12_addsEdges_84 lw1019 lw1020 lw1021 lw944 ⟨lw1017, cy_X12_isStill, Nat.le_of_ble_eq_true rfl, Nat.le_of_ble_eq_true rfl⟩ rfl trn0 tr0 rfl rfl rfl rfl (Nat.le_of_ble_eq_true rfl) hW hL hk0) (fun v24 M23 hv24 => ?_)
              refine go_if_eq (tgt := 129) X dX12_addsEdges_87 rfl (bo_i32 hv24) (fun c25 => ?_) (fun c25 => ?_)
              · refine go_sub [0, 1, 2, 3] rfl ?_
                exact hJ129_16 v18 M23 hv18
              · refine go_iload X dX12_addsEdges_90 5 rfl ?_
                refine go_aload_n X dX12_addsEdges_92 rfl 0 rfl ?_
                refine go_getc (i := 4) X fc12 dX12_addsEdges_93 trn0 tr0 (Nat.le_of_ble_eq_true rfl) rfl lw869 rfl ?_
                refine go_aload_n X dX12_addsEdges_96 rfl 0 rfl ?_
                refine go_getc (i := 20) X fc12 dX12_addsEdges_97 trn0 tr0 (Nat.le_of_ble_eq_true rfl) rfl lw881 rfl ?_
                refine go_iload_n X dX12_addsEdges_100 rfl 1 rfl ?_
                refine go_iaload X dX12_addsEdges_101 trn16 tr16 ha1 (fun v26 hv26 => ?_)
                refine go_iaload X dX12_addsEdges_102 trn4 tr4 hv26 (fun v27 hv27 => ?_)
                refine go_icmp_ge (tgt := 129) X dX12_addsEdges_103 rfl hv12 hv27 (fun c28 => ?_) (fun c28 => ?_)
                · refine go_sub [0, 1, 2, 3] rfl ?_
                  exact hJ129_16 v18 M23 hv18
                · refine go_aload_n X dX12_addsEdges_106 rfl 0 rfl ?_
                  refine go_getc (i := 85) X fc12 dX12_addsEdges_107 trn0 tr0 (Nat.le_of_ble_eq_true rfl) rfl lw932 rfl ?_
                  refine go_iload_n X dX12_addsEdges_110 rfl 2 rfl ?_
                  refine go_dup2 X dX12_addsEdges_111 rfl rfl ?_
                  refine go_iaload X dX12_addsEdges_112 trn65 tr65 ha2 (fun v29 hv29 => ?_)
                  refine go_iconst (v := 1) X dX12_addsEdges_113 rfl ?_
                  refine go_aload_n X dX12_addsEdges_114 rfl 0 rfl ?_
                  refine go_getc (i := 77) X fc12 dX12_addsEdges_115 trn0 tr0 (Nat.le_of_ble_eq_true rfl) rfl lw926 rfl ?_
                  refine go_iload X dX12_addsEdges_118 5 rfl ?_
                  refine go_iaload X dX12_addsEdges_120 trn59 tr59 hv12 (fun v30 hv30 => ?_)
                  refine go_iload X dX12_addsEdges_121 4 rfl ?_
                  refine goI (fun H locs ls r ho hW hL => runS X (ok_X12_vertex l D base M23 v30 hv30 v11 hv11 H.size r ho) dX12_addsEdges_123 lw1022 lw1023 lw944 ⟨lw1016, cy_X12_vertex, Nat.le_of_ble_eq_true rfl, Nat.le_of_ble_eq_true rfl⟩ rfl rfl (Nat.le_of_ble_eq_true rfl) hW hL hk0) (fun v32 M31 hv32 => ?_)
                  refine go_ishl X dX12_addsEdges_126 kI_1 hv32 (fun v33 hv33 => ?_)
                  refine go_ior X dX12_addsEdges_127 hv29 hv33 (fun v34 hv34 => ?_)
                  refine go_iastore X dX12_addsEdges_128 trn65 tr65 ha2 hv34 (fun M35 => ?_)
                  refine go_sub [0, 1, 2, 3] rfl ?_
                  exact hJ129_16 v18 M35 hv18
            )
            (fun J71_20 hJ71_20 => ?_)
        refine go_icmp_ne (tgt := 71) X dX12_addsEdges_43 rfl hv13 kI_1 (fun c36 => ?_) (fun c36 => ?_)
        · refine go_sub [2, 3, 4, 5, 1, 0] rfl ?_
          exact hJ71_20 v4 M5 hv4
        · refine go_aload_n X dX12_addsEdges_46 rfl 2 rfl ?_
          refine go_iload X dX12_addsEdges_47 1 rfl ?_
          refine goI (fun H locs ls r ho hW hL => runV X (ok_X12_isStill l D base M5 v11 hv11 H.size r ho) dX12_addsEdges_49 lw1019 lw1020 lw1021 lw944 ⟨lw1017, cy_X12_isStill, Nat.le_of_ble_eq_true rfl, Nat.le_of_ble_eq_true rfl⟩ rfl trn0 tr0 rfl rfl rfl rfl (Nat.le_of_ble_eq_true rfl) hW hL hk0) (fun v38 M37 hv38 => ?_)
          refine go_if_eq (tgt := 71) X dX12_addsEdges_52 rfl (bo_i32 hv38) (fun c39 => ?_) (fun c39 => ?_)
          · refine go_sub [2, 3, 4, 5, 1, 0] rfl ?_
            exact hJ71_20 v4 M37 hv4
          · refine go_aload_n X dX12_addsEdges_55 rfl 2 rfl ?_
            refine go_getc (i := 85) X fc12 dX12_addsEdges_56 trn0 tr0 (Nat.le_of_ble_eq_true rfl) rfl lw932 rfl ?_
            refine go_iload_n X dX12_addsEdges_59 rfl 4 rfl ?_
            refine go_dup2 X dX12_addsEdges_60 rfl rfl ?_
            refine go_iaload X dX12_addsEdges_61 trn65 tr65 ha2 (fun v40 hv40 => ?_)
            refine go_iconst (v := 1) X dX12_addsEdges_62 rfl ?_
            refine go_iload X dX12_addsEdges_63 1 rfl ?_
            refine go_ishl X dX12_addsEdges_65 kI_1 hv11 (fun v41 hv41 => ?_)
            refine go_ior X dX12_addsEdges_66 hv40 hv41 (fun v42 hv42 => ?_)
            refine go_iastore X dX12_addsEdges_67 trn65 tr65 ha2 hv42 (fun M43 => ?_)
            refine go_goto (tgt := 129) X dX12_addsEdges_68 rfl ?_
            refine go_sub [2, 3, 4, 5] rfl ?_
            exact hJ129_16 v4 M43 hv4
      )
      FU v1 M hv1
def f_X12_addsAll_L40_32 (a2 : Int) (v2 : Int) (v4 : Int) (v5 : Int) (J83_9 : Mm → Rs) (rc40_20 : Int × Mm → Rs) : Int × Mm → Rs := fun (v18, M19) =>
Lt (M19 0 19) fun v21 =>
if v21 ≤ v18 then (
J83_9 M19) else (
if v4 = ((-1)) then (
J83_9 M19) else (
Cl (f_X12_counts v18 v4 a2 v5 M19) fun v25 M24 =>
Lt (fun (v26 : Int) (M27 : Mm) => 
Lt (wr (v26 + 1)) fun v29 =>
rc40_20 (v29, M27)) fun J77_28 =>
if v25 = 0 then (
J77_28 v18 M24) else (
Cl (f_X12_addsEdges v18 v2 M24) fun _ M31 =>
J77_28 v18 M31)))
def f_X12_addsAll (a1 : Int) (a2 : Int) (a3 : Int) (M : Mm) : Rs :=
Cl (f_X12_vertex a3 a2 M) fun v2 M1 =>
Cl (f_X12_teller a1 a2 a3 M1) fun v4 M3 =>
Lt (fun (v5 : Int) (M6 : Mm) => 
Lt (fun (M8 : Mm) => 
Lt (fun (M10 : Mm) => 
some (0, M10)) fun J107_11 =>
if ¬ v4 = ((-1)) then (
J107_11 M8) else (
if a3 = ((-1)) then (
J107_11 M8) else (
gd (0 ≤ v2 ∧ v2 < 24) <|
Lt (M8 65 v2.toNat) fun v14 =>
Lt (jshl 1 a2) fun v15 =>
Lt (jor v14 v15) fun v16 =>
gd (0 ≤ v2 ∧ v2 < 24) <|
Lt (up M8 65 v2.toNat v16) fun M17 =>
J107_11 M17))) fun J83_9 =>
Lp (f_X12_addsAll_L40_32 a2 v2 v4 v5 J83_9) FU (0, M6)) fun J35_7 =>
if ¬ v4 = ((-1)) then (
Cl (f_X12_childThere v4 a3 M3) fun v35 M34 =>
J35_7 v35 M34) else (
J35_7 99999 M3)
theorem cy_X12_addsAll : yX12_addsAll.cls ≠ "java/lang/invoke/MethodHandle" ∧ yX12_addsAll.cls ≠ "java/lang/invoke/VarHandle" ∧ (parseMethodDescriptor yX12_addsAll.desc).map (fun d => d.parameters.length) = some 3 := ⟨by decide +kernel, by decide +kernel, by decide +kernel⟩
set_option maxRecDepth 20000 in
theorem ok_X12_addsAll (l : Launch) (D : Dd) (base : Nat) (M : Mm) (a1 : Int) (ha1 : i32 a1) (a2 : Int) (ha2 : i32 a2) (a3 : Int) (ha3 : i32 a3) : OkV l D TR 67 base yX12_addsAll cX12_addsAll 8 none 3 76 [.ref (base + 0), .int (Ii a1), .int (Ii a2), .int (Ii a3)] M (f_X12_addsAll a1 a2 a3 M) := by
  refine metV (by decide +kernel) [(0, .ref (base + 0)), (1, .int (Ii a1)), (2, .int (Ii a2)), (3, .int (Ii a3))] rfl (Nat.le_of_ble_eq_true rfl) (fun p e s m args below meth c X hrt hlk => ?_)
  have X : Cx p s m args c cX12_addsAll D 8 RX12 := X
  unfold f_X12_addsAll
  refine go_iload_n X dX12_addsAll_0 rfl 3 rfl ?_
  refine go_iload_n X dX12_addsAll_1 rfl 2 rfl ?_
  refine goI (fun H locs ls r ho hW hL => runS X (ok_X12_vertex l D base M a3 ha3 a2 ha2 H.size r ho) dX12_addsAll_2 lw1022 lw1023 lw944 ⟨lw1016, cy_X12_vertex, Nat.le_of_ble_eq_true rfl, Nat.le_of_ble_eq_true rfl⟩ rfl rfl (Nat.le_of_ble_eq_true rfl) hW hL hk0) (fun v2 M1 hv2 => ?_)
  refine go_istore (i := 4) (L' := [(4, .int (Ii v2)), (0, .ref (base + 0)), (1, .int (Ii a1)), (2, .int (Ii a2)), (3, .int (Ii a3))]) X dX12_addsAll_5 (by decide) rfl ?_
  refine go_aload_n X dX12_addsAll_7 rfl 1 rfl ?_
  refine go_iload_n X dX12_addsAll_8 rfl 2 rfl ?_
  refine go_iload_n X dX12_addsAll_9 rfl 3 rfl ?_
  refine go_iload_n X dX12_addsAll_10 rfl 4 rfl ?_
  refine goI (fun H locs ls r ho hW hL => runV X (ok_X12_teller l D base M1 a1 ha1 a2 ha2 a3 ha3 H.size r ho) dX12_addsAll_11 lw1012 lw1013 lw1014 lw944 ⟨lw1011, cy_X12_teller, Nat.le_of_ble_eq_true rfl, Nat.le_of_ble_eq_true rfl⟩ rfl trn0 tr0 rfl rfl rfl rfl (Nat.le_of_ble_eq_true rfl) hW hL hk0) (fun v4 M3 hv4 => ?_)
  refine go_istore (i := 5) (L' := [(5, .int (Ii v4)), (4, .int (Ii v2)), (0, .ref (base + 0)), (1, .int (Ii a1)), (2, .int (Ii a2)), (3, .int (Ii a3))]) X dX12_addsAll_14 (by decide) rfl ?_
  refine go_iload X dX12_addsAll_16 0 rfl ?_
  refine go_iconst (v := (-1)) X dX12_addsAll_18 rfl ?_
  refine go_lt (fun J => ∀ (v5 : Int) (M6 : Mm), i32 v5 → Go p l e (rmO 3 76) s m args below meth c D TR 67 base 8 0 0 (FinV D TR 67 base below args s) M6 35 [(0, .ref (base + 0)), (2, .int (Ii a2)), (3, .int (Ii a3)), (4, .int (Ii v2)), (5, .int (Ii v4))] [.int (Ii v5)] (J v5 M6)) (by
      intro v5 M6 hv5
      refine go_istore (i := 6) (L' := [(6, .int (Ii v5)), (0, .ref (base + 0)), (2, .int (Ii a2)), (3, .int (Ii a3)), (4, .int (Ii v2)), (5, .int (Ii v4))]) X dX12_addsAll_35 (by decide) rfl ?_
      refine go_iconst (v := 0) X dX12_addsAll_37 rfl ?_
      refine go_istore (i := 7) (L' := [(7, .int (Ii 0)), (6, .int (Ii v5)), (0, .ref (base + 0)), (2, .int (Ii a2)), (3, .int (Ii a3)), (4, .int (Ii v2)), (5, .int (Ii v4))]) X dX12_addsAll_38 (by decide) rfl ?_
      refine go_lt (fun J => ∀ (M8 : Mm), Go p l e (rmO 3 76) s m args below meth c D TR 67 base 8 0 0 (FinV D TR 67 base below args s) M8 83 [(0, .ref (base + 0)), (2, .int (Ii a2)), (3, .int (Ii a3)), (4, .int (Ii v2)), (5, .int (Ii v4))] [] (J M8)) (by
          intro M8
          refine go_iload X dX12_addsAll_83 4 rfl ?_
          refine go_iconst (v := (-1)) X dX12_addsAll_85 rfl ?_
          refine go_lt (fun J => ∀ (M10 : Mm), Go p l e (rmO 3 76) s m args below meth c D TR 67 base 8 0 0 (FinV D TR 67 base below args s) M10 107 [] [] (J M10)) (by
              intro M10
              exact go_vreturn X hrt hlk dX12_addsAll_107
              )
              (fun J107_11 hJ107_11 => ?_)
          refine go_icmp_ne (tgt := 107) X dX12_addsAll_86 rfl hv4 kI_m1 (fun c12 => ?_) (fun c12 => ?_)
          · refine go_sub [] rfl ?_
            exact hJ107_11 M8
          · refine go_iload_n X dX12_addsAll_89 rfl 2 rfl ?_
            refine go_iconst (v := (-1)) X dX12_addsAll_90 rfl ?_
            refine go_icmp_eq (tgt := 107) X dX12_addsAll_91 rfl ha3 kI_m1 (fun c13 => ?_) (fun c13 => ?_)
            · refine go_sub [] rfl ?_
              exact hJ107_11 M8
            · refine go_aload_n X dX12_addsAll_94 rfl 0 rfl ?_
              refine go_getc (i := 85) X fc12 dX12_addsAll_95 trn0 tr0 (Nat.le_of_ble_eq_true rfl) rfl lw932 rfl ?_
              refine go_iload X dX12_addsAll_98 3 rfl ?_
              refine go_dup2 X dX12_addsAll_100 rfl rfl ?_
              refine go_iaload X dX12_addsAll_101 trn65 tr65 hv2 (fun v14 hv14 => ?_)
              refine go_iconst (v := 1) X dX12_addsAll_102 rfl ?_
              refine go_iload_n X dX12_addsAll_103 rfl 1 rfl ?_
              refine go_ishl X dX12_addsAll_104 kI_1 ha2 (fun v15 hv15 => ?_)
              refine go_ior X dX12_addsAll_105 hv14 hv15 (fun v16 hv16 => ?_)
              refine go_iastore X dX12_addsAll_106 trn65 tr65 hv2 hv16 (fun M17 => ?_)
              refine go_sub [] rfl ?_
              exact hJ107_11 M17
          )
          (fun J83_9 hJ83_9 => ?_)
      refine go_sub [2, 3, 4, 5, 6, 1, 0] rfl ?_
      exact go_lp (fun (rc : Int × Mm → Rs) => ∀ (v18 : Int) (M19 : Mm), i32 v18 → Go p l e (rmO 3 76) s m args below meth c D TR 67 base 8 0 0 (FinV D TR 67 base below args s) M19 40 [(0, .ref (base + 0)), (2, .int (Ii a2)), (3, .int (Ii a3)), (4, .int (Ii v2)), (5, .int (Ii v4)), (6, .int (Ii v5)), (7, .int (Ii v18))] [] (rc (v18, M19)))
          (by intro v18 M19 hv18; exact go_none)
          (by
          intro rc40_20 hrc40_20 v18 M19 hv18
          unfold f_X12_addsAll_L40_32
          dsimp only
          refine go_iload X dX12_addsAll_40 6 rfl ?_
          refine go_aload_n X dX12_addsAll_42 rfl 0 rfl ?_
          refine go_geti (i := 19) X fc12 dX12_addsAll_43 trn0 tr0 (Nat.le_of_ble_eq_true rfl) rfl lw987 rfl (fun v21 hv21 => ?_)
          refine go_icmp_ge (tgt := 83) X dX12_addsAll_46 rfl hv18 hv21 (fun c22 => ?_) (fun c22 => ?_)
          · refine go_sub [0, 1, 2, 3, 4] rfl ?_
            exact hJ83_9 M19
          · refine go_iload X dX12_addsAll_49 4 rfl ?_
            refine go_iconst (v := (-1)) X dX12_addsAll_51 rfl ?_
            refine go_icmp_eq (tgt := 83) X dX12_addsAll_52 rfl hv4 kI_m1 (fun c23 => ?_) (fun c23 => ?_)
            · refine go_sub [0, 1, 2, 3, 4] rfl ?_
              exact hJ83_9 M19
            · refine go_aload_n X dX12_addsAll_55 rfl 0 rfl ?_
              refine go_iload X dX12_addsAll_56 6 rfl ?_
              refine go_iload X dX12_addsAll_58 4 rfl ?_
              refine go_iload_n X dX12_addsAll_60 rfl 1 rfl ?_
              refine go_iload X dX12_addsAll_61 5 rfl ?_
              refine goI (fun H locs ls r ho hW hL => runV X (ok_X12_counts l D base M19 v18 hv18 v4 hv4 a2 ha2 v5 hv5 H.size r ho) dX12_addsAll_63 lw995 lw996 lw997 lw944 ⟨lw993, cy_X12_counts, Nat.le_of_ble_eq_true rfl, Nat.le_of_ble_eq_true rfl⟩ rfl trn0 tr0 rfl rfl rfl rfl (Nat.le_of_ble_eq_true rfl) hW hL hk0) (fun v25 M24 hv25 => ?_)
              refine go_lt (fun J => ∀ (v26 : Int) (M27 : Mm), i32 v26 → Go p l e (rmO 3 76) s m args below meth c D TR 67 base 8 0 0 (FinV D TR 67 base below args s) M27 77 [(0, .ref (base + 0)), (2, .int (Ii a2)), (3, .int (Ii a3)), (4, .int (Ii v2)), (5, .int (Ii v4)), (6, .int (Ii v5)), (7, .int (Ii v26))] [] (J v26 M27)) (by
                  intro v26 M27 hv26
                  refine go_iinc (i := 7) (L' := fun v => [(7, .int (Ii v)), (0, .ref (base + 0)), (2, .int (Ii a2)), (3, .int (Ii a3)), (4, .int (Ii v2)), (5, .int (Ii v4)), (6, .int (Ii v5))]) X dX12_addsAll_77 hv26 kI_1 (j := 6) rfl (by decide) (fun _ => rfl) (fun v29 hv29 => ?_)
                  refine go_goto (tgt := 40) X dX12_addsAll_80 rfl ?_
                  refine go_sub [1, 2, 3, 4, 5, 6, 0] rfl ?_
                  exact hrc40_20 v29 M27 hv29
                  )
                  (fun J77_28 hJ77_28 => ?_)
              refine go_if_eq (tgt := 77) X dX12_addsAll_66 rfl (bo_i32 hv25) (fun c30 => ?_) (fun c30 => ?_)
              · exact hJ77_28 v18 M24 hv18
              · refine go_aload_n X dX12_addsAll_69 rfl 0 rfl ?_
                refine go_iload X dX12_addsAll_70 6 rfl ?_
                refine go_iload X dX12_addsAll_72 3 rfl ?_
                refine goV (fun H locs ls r ho hW hL => runV X (ok_X12_addsEdges l D base M24 v18 hv18 v2 hv2 H.size r ho) dX12_addsAll_74 lw1024 lw1025 lw1026 lw944 ⟨lw1018, cy_X12_addsEdges, Nat.le_of_ble_eq_true rfl, Nat.le_of_ble_eq_true rfl⟩ rfl trn0 tr0 rfl rfl rfl rfl (Nat.le_of_ble_eq_true rfl) hW hL hk0) (fun _ M31 => ?_)
                exact hJ77_28 v18 M31 hv18
          )
          FU 0 M6 kI_0
      )
      (fun J35_7 hJ35_7 => ?_)
  refine go_icmp_ne (tgt := 28) X dX12_addsAll_19 rfl hv4 kI_m1 (fun c33 => ?_) (fun c33 => ?_)
  · refine go_aload_n X dX12_addsAll_28 rfl 2 rfl ?_
    refine go_iload X dX12_addsAll_29 0 rfl ?_
    refine go_iload_n X dX12_addsAll_31 rfl 5 rfl ?_
    refine goI (fun H locs ls r ho hW hL => runV X (ok_X12_childThere l D base M3 v4 hv4 a3 ha3 H.size r ho) dX12_addsAll_32 lw1005 lw1006 lw1007 lw944 ⟨lw1001, cy_X12_childThere, Nat.le_of_ble_eq_true rfl, Nat.le_of_ble_eq_true rfl⟩ rfl trn0 tr0 rfl rfl rfl rfl (Nat.le_of_ble_eq_true rfl) hW hL hk0) (fun v35 M34 hv35 => ?_)
    refine go_sub [2, 4, 5, 1, 0] rfl ?_
    exact hJ35_7 v35 M34 hv35
  · refine go_ldcw (v := 99999) X dX12_addsAll_22 lw1002 rfl ?_
    refine go_goto (tgt := 35) X dX12_addsAll_25 rfl ?_
    refine go_sub [2, 4, 5, 1, 0] rfl ?_
    exact hJ35_7 99999 M3 kI_99999
def f_X12_findsEdges_L149_35 (J194_13 : Int → Mm → Rs) (rc149_18 : Int × Int × Mm → Rs) : Int × Int × Mm → Rs := fun (v15, v16, M17) =>
if 24 ≤ v16 then (
J194_13 v15 M17) else (
gd (0 ≤ v16 ∧ v16 < 24) <|
Lt (M17 65 v16.toNat) fun v20 =>
gd (0 ≤ v16 ∧ v16 < 24) <|
Lt (M17 65 v16.toNat) fun v21 =>
Lt (jshr v21 v15) fun v22 =>
Lt (jand v22 1) fun v23 =>
Lt (fun (v24 : Int) (v25 : Int) (v26 : Int) (v27 : Int) (M28 : Mm) => 
Lt (jor v20 v27) fun v30 =>
gd (0 ≤ v26 ∧ v26 < 24) <|
Lt (up M28 65 v26.toNat v30) fun M31 =>
Lt (wr (v25 + 1)) fun v32 =>
rc149_18 (v24, v32, M31)) fun J186_29 =>
if ¬ v23 = 1 then (
J186_29 v15 v16 v16 0 M17) else (
gd (0 ≤ v15 ∧ v15 < 24) <|
Lt (M17 65 v15.toNat) fun v34 =>
J186_29 v15 v16 v16 v34 M17))
def f_X12_findsEdges_L141_36 (J200_6 : Mm → Rs) (rc141_9 : Int × Mm → Rs) : Int × Mm → Rs := fun (v7, M8) =>
if 24 ≤ v7 then (
J200_6 M8) else (
Lt (fun (v11 : Int) (M12 : Mm) => 
Lt (wr (v11 + 1)) fun v14 =>
rc141_9 (v14, M12)) fun J194_13 =>
Lp (f_X12_findsEdges_L149_35 J194_13) FU (v7, 0, M8))
def f_X12_findsEdges_L49_80 (a1 : Int) (J133_48 : Int → Mm → Rs) (rc49_53 : Int × Int × Mm → Rs) : Int × Int × Mm → Rs := fun (v50, v51, M52) =>
gd (0 ≤ a1 ∧ a1 < 10) <|
Lt (M52 4 a1.toNat) fun v54 =>
if v54 ≤ v51 then (
J133_48 v50 M52) else (
gd (0 ≤ v50 ∧ v50 < 6) <|
Lt (M52 12 v50.toNat) fun v56 =>
Lt (fun (v57 : Int) (v58 : Int) (M59 : Mm) => 
Lt (wr (v58 + 1)) fun v61 =>
rc49_53 (v57, v61, M59)) fun J127_60 =>
if ¬ v56 = 1 then (
gd (0 ≤ v50 ∧ v50 < 6) <|
Lt (M52 12 v50.toNat) fun v63 =>
if ¬ v63 = 0 then (
J127_60 v50 v51 M52) else (
Cl (f_X12_vertex v51 v50 M52) fun v66 M65 =>
gd (0 ≤ v66 ∧ v66 < 24) <|
Lt (M65 65 v66.toNat) fun v67 =>
Lt (wr (3 * a1)) fun v68 =>
Lt (wr (v68 + v51)) fun v69 =>
gd (0 ≤ v69 ∧ v69 < 30) <|
Lt (M65 5 v69.toNat) fun v70 =>
Lt (wr (6 * v70)) fun v71 =>
Lt (wr (v71 + v50)) fun v72 =>
gd (0 ≤ v72 ∧ v72 < 24) <|
Lt (M65 66 v72.toNat) fun v73 =>
Cl (f_X12_vertex v51 0 M65) fun v75 M74 =>
Lt (jshl v73 v75) fun v76 =>
Lt (jor v67 v76) fun v77 =>
gd (0 ≤ v66 ∧ v66 < 24) <|
Lt (up M74 65 v66.toNat v77) fun M78 =>
J127_60 v50 v51 M78)) else (
Cl (f_X12_addsAll a1 v50 v51 M52) fun _ M79 =>
J127_60 v50 v51 M79))
def f_X12_findsEdges_L23_83 (a1 : Int) (J139_4 : Mm → Rs) (rc23_39 : Int × Mm → Rs) : Int × Mm → Rs := fun (v37, M38) =>
Lt (M38 0 12) fun v40 =>
if v40 ≤ v37 then (
J139_4 M38) else (
gd (0 ≤ v37 ∧ v37 < 6) <|
Lt (M38 12 v37.toNat) fun v42 =>
Lt (fun (v43 : Int) (M44 : Mm) => 
Lt (fun (v46 : Int) (M47 : Mm) => 
Lt (wr (v46 + 1)) fun v49 =>
rc23_39 (v49, M47)) fun J133_48 =>
Lp (f_X12_findsEdges_L49_80 a1 J133_48) FU (v43, 0, M44)) fun J47_45 =>
if ¬ v42 = 0 then (
J47_45 v37 M38) else (
Cl (f_X12_addsAll a1 v37 ((-1)) M38) fun _ M82 =>
J47_45 v37 M82))
def f_X12_findsEdges_L2_90 (J21_2 : Mm → Rs) (rc2_86 : Int × Mm → Rs) : Int × Mm → Rs := fun (v84, M85) =>
if 24 ≤ v84 then (
J21_2 M85) else (
gd (0 ≤ v84 ∧ v84 < 24) <|
Lt (up M85 65 v84.toNat 0) fun M88 =>
Lt (wr (v84 + 1)) fun v89 =>
rc2_86 (v89, M88))
def f_X12_findsEdges (a1 : Int) (M : Mm) : Rs :=
Lt (fun (M1 : Mm) => 
Lt (fun (M3 : Mm) => 
Lt (fun (M5 : Mm) => 
some (0, M5)) fun J200_6 =>
Lp (f_X12_findsEdges_L141_36 J200_6) FU (0, M3)) fun J139_4 =>
Lp (f_X12_findsEdges_L23_83 a1 J139_4) FU (0, M1)) fun J21_2 =>
Lp (f_X12_findsEdges_L2_90 J21_2) FU (0, M)
theorem cy_X12_findsEdges : yX12_findsEdges.cls ≠ "java/lang/invoke/MethodHandle" ∧ yX12_findsEdges.cls ≠ "java/lang/invoke/VarHandle" ∧ (parseMethodDescriptor yX12_findsEdges.desc).map (fun d => d.parameters.length) = some 1 := ⟨by decide +kernel, by decide +kernel, by decide +kernel⟩
set_option maxRecDepth 20000 in
theorem ok_X12_findsEdges (l : Launch) (D : Dd) (base : Nat) (M : Mm) (a1 : Int) (ha1 : i32 a1) : OkV l D TR 67 base yX12_findsEdges cX12_findsEdges 4 none 4 103 [.ref (base + 0), .int (Ii a1)] M (f_X12_findsEdges a1 M) := by
  refine metV (by decide +kernel) [(0, .ref (base + 0)), (1, .int (Ii a1))] rfl (Nat.le_of_ble_eq_true rfl) (fun p e s m args below meth c X hrt hlk => ?_)
  have X : Cx p s m args c cX12_findsEdges D 4 RX12 := X
  unfold f_X12_findsEdges
  refine go_iconst (v := 0) X dX12_findsEdges_0 rfl ?_
  refine go_istore_n (i := 2) (L' := [(2, .int (Ii 0)), (0, .ref (base + 0)), (1, .int (Ii a1))]) X dX12_findsEdges_1 rfl (by decide) rfl ?_
  refine go_lt (fun J => ∀ (M1 : Mm), Go p l e (rmO 4 103) s m args below meth c D TR 67 base 4 0 0 (FinV D TR 67 base below args s) M1 21 [(0, .ref (base + 0)), (1, .int (Ii a1))] [] (J M1)) (by
      intro M1
      refine go_iconst (v := 0) X dX12_findsEdges_21 rfl ?_
      refine go_istore_n (i := 2) (L' := [(2, .int (Ii 0)), (0, .ref (base + 0)), (1, .int (Ii a1))]) X dX12_findsEdges_22 rfl (by decide) rfl ?_
      refine go_lt (fun J => ∀ (M3 : Mm), Go p l e (rmO 4 103) s m args below meth c D TR 67 base 4 0 0 (FinV D TR 67 base below args s) M3 139 [(0, .ref (base + 0))] [] (J M3)) (by
          intro M3
          refine go_iconst (v := 0) X dX12_findsEdges_139 rfl ?_
          refine go_istore_n (i := 2) (L' := [(2, .int (Ii 0)), (0, .ref (base + 0))]) X dX12_findsEdges_140 rfl (by decide) rfl ?_
          refine go_lt (fun J => ∀ (M5 : Mm), Go p l e (rmO 4 103) s m args below meth c D TR 67 base 4 0 0 (FinV D TR 67 base below args s) M5 200 [] [] (J M5)) (by
              intro M5
              exact go_vreturn X hrt hlk dX12_findsEdges_200
              )
              (fun J200_6 hJ200_6 => ?_)
          refine go_sub [1, 0] rfl ?_
          exact go_lp (fun (rc : Int × Mm → Rs) => ∀ (v7 : Int) (M8 : Mm), i32 v7 → Go p l e (rmO 4 103) s m args below meth c D TR 67 base 4 0 0 (FinV D TR 67 base below args s) M8 141 [(0, .ref (base + 0)), (2, .int (Ii v7))] [] (rc (v7, M8)))
              (by intro v7 M8 hv7; exact go_none)
              (by
              intro rc141_9 hrc141_9 v7 M8 hv7
              unfold f_X12_findsEdges_L141_36
              dsimp only
              refine go_iload_n X dX12_findsEdges_141 rfl 1 rfl ?_
              refine go_bipush (v := 24) X dX12_findsEdges_142 (by decide) ?_
              refine go_icmp_ge (tgt := 200) X dX12_findsEdges_144 rfl hv7 kI_24 (fun c10 => ?_) (fun c10 => ?_)
              · refine go_sub [] rfl ?_
                exact hJ200_6 M8
              · refine go_iconst (v := 0) X dX12_findsEdges_147 rfl ?_
                refine go_istore_n (i := 3) (L' := [(3, .int (Ii 0)), (0, .ref (base + 0)), (2, .int (Ii v7))]) X dX12_findsEdges_148 rfl (by decide) rfl ?_
                refine go_lt (fun J => ∀ (v11 : Int) (M12 : Mm), i32 v11 → Go p l e (rmO 4 103) s m args below meth c D TR 67 base 4 0 0 (FinV D TR 67 base below args s) M12 194 [(0, .ref (base + 0)), (2, .int (Ii v11))] [] (J v11 M12)) (by
                    intro v11 M12 hv11
                    refine go_iinc (i := 2) (L' := fun v => [(2, .int (Ii v)), (0, .ref (base + 0))]) X dX12_findsEdges_194 hv11 kI_1 (j := 1) rfl (by decide) (fun _ => rfl) (fun v14 hv14 => ?_)
                    refine go_goto (tgt := 141) X dX12_findsEdges_197 rfl ?_
                    refine go_sub [1, 0] rfl ?_
                    exact hrc141_9 v14 M12 hv14
                    )
                    (fun J194_13 hJ194_13 => ?_)
                refine go_sub [1, 2, 0] rfl ?_
                exact go_lp (fun (rc : Int × Int × Mm → Rs) => ∀ (v15 : Int) (v16 : Int) (M17 : Mm), i32 v15 → i32 v16 → Go p l e (rmO 4 103) s m args below meth c D TR 67 base 4 0 0 (FinV D TR 67 base below args s) M17 149 [(0, .ref (base + 0)), (2, .int (Ii v15)), (3, .int (Ii v16))] [] (rc (v15, v16, M17)))
                    (by intro v15 v16 M17 hv15 hv16; exact go_none)
                    (by
                    intro rc149_18 hrc149_18 v15 v16 M17 hv15 hv16
                    unfold f_X12_findsEdges_L149_35
                    dsimp only
                    refine go_iload_n X dX12_findsEdges_149 rfl 2 rfl ?_
                    refine go_bipush (v := 24) X dX12_findsEdges_150 (by decide) ?_
                    refine go_icmp_ge (tgt := 194) X dX12_findsEdges_152 rfl hv16 kI_24 (fun c19 => ?_) (fun c19 => ?_)
                    · refine go_sub [0, 1] rfl ?_
                      exact hJ194_13 v15 M17 hv15
                    · refine go_aload_n X dX12_findsEdges_155 rfl 0 rfl ?_
                      refine go_getc (i := 85) X fc12 dX12_findsEdges_156 trn0 tr0 (Nat.le_of_ble_eq_true rfl) rfl lw932 rfl ?_
                      refine go_iload_n X dX12_findsEdges_159 rfl 2 rfl ?_
                      refine go_dup2 X dX12_findsEdges_160 rfl rfl ?_
                      refine go_iaload X dX12_findsEdges_161 trn65 tr65 hv16 (fun v20 hv20 => ?_)
                      refine go_aload_n X dX12_findsEdges_162 rfl 0 rfl ?_
                      refine go_getc (i := 85) X fc12 dX12_findsEdges_163 trn0 tr0 (Nat.le_of_ble_eq_true rfl) rfl lw932 rfl ?_
                      refine go_iload_n X dX12_findsEdges_166 rfl 2 rfl ?_
                      refine go_iaload X dX12_findsEdges_167 trn65 tr65 hv16 (fun v21 hv21 => ?_)
                      refine go_iload_n X dX12_findsEdges_168 rfl 1 rfl ?_
                      refine go_ishr X dX12_findsEdges_169 hv21 hv15 (fun v22 hv22 => ?_)
                      refine go_iconst (v := 1) X dX12_findsEdges_170 rfl ?_
                      refine go_iand X dX12_findsEdges_171 hv22 kI_1 (fun v23 hv23 => ?_)
                      refine go_iconst (v := 1) X dX12_findsEdges_172 rfl ?_
                      refine go_lt (fun J => ∀ (v24 : Int) (v25 : Int) (v26 : Int) (v27 : Int) (M28 : Mm), i32 v24 → i32 v25 → i32 v26 → i32 v27 → Go p l e (rmO 4 103) s m args below meth c D TR 67 base 4 0 0 (FinV D TR 67 base below args s) M28 186 [(0, .ref (base + 0)), (2, .int (Ii v24)), (3, .int (Ii v25))] [.int (Ii v27), .int (Ii v20), .int (Ii v26), .ref (base + 65)] (J v24 v25 v26 v27 M28)) (by
                          intro v24 v25 v26 v27 M28 hv24 hv25 hv26 hv27
                          refine go_ior X dX12_findsEdges_186 hv20 hv27 (fun v30 hv30 => ?_)
                          refine go_iastore X dX12_findsEdges_187 trn65 tr65 hv26 hv30 (fun M31 => ?_)
                          refine go_iinc (i := 3) (L' := fun v => [(3, .int (Ii v)), (0, .ref (base + 0)), (2, .int (Ii v24))]) X dX12_findsEdges_188 hv25 kI_1 (j := 2) rfl (by decide) (fun _ => rfl) (fun v32 hv32 => ?_)
                          refine go_goto (tgt := 149) X dX12_findsEdges_191 rfl ?_
                          refine go_sub [1, 2, 0] rfl ?_
                          exact hrc149_18 v24 v32 M31 hv24 hv32
                          )
                          (fun J186_29 hJ186_29 => ?_)
                      refine go_icmp_ne (tgt := 185) X dX12_findsEdges_173 rfl hv23 kI_1 (fun c33 => ?_) (fun c33 => ?_)
                      · refine go_iconst (v := 0) X dX12_findsEdges_185 rfl ?_
                        exact hJ186_29 v15 v16 v16 0 M17 hv15 hv16 hv16 kI_0
                      · refine go_aload_n X dX12_findsEdges_176 rfl 0 rfl ?_
                        refine go_getc (i := 85) X fc12 dX12_findsEdges_177 trn0 tr0 (Nat.le_of_ble_eq_true rfl) rfl lw932 rfl ?_
                        refine go_iload_n X dX12_findsEdges_180 rfl 1 rfl ?_
                        refine go_iaload X dX12_findsEdges_181 trn65 tr65 hv15 (fun v34 hv34 => ?_)
                        refine go_goto (tgt := 186) X dX12_findsEdges_182 rfl ?_
                        exact hJ186_29 v15 v16 v16 v34 M17 hv15 hv16 hv16 hv34
                    )
                    FU v7 0 M8 hv7 kI_0
              )
              FU 0 M3 kI_0
          )
          (fun J139_4 hJ139_4 => ?_)
      refine go_sub [1, 2, 0] rfl ?_
      exact go_lp (fun (rc : Int × Mm → Rs) => ∀ (v37 : Int) (M38 : Mm), i32 v37 → Go p l e (rmO 4 103) s m args below meth c D TR 67 base 4 0 0 (FinV D TR 67 base below args s) M38 23 [(0, .ref (base + 0)), (1, .int (Ii a1)), (2, .int (Ii v37))] [] (rc (v37, M38)))
          (by intro v37 M38 hv37; exact go_none)
          (by
          intro rc23_39 hrc23_39 v37 M38 hv37
          unfold f_X12_findsEdges_L23_83
          dsimp only
          refine go_iload_n X dX12_findsEdges_23 rfl 2 rfl ?_
          refine go_aload_n X dX12_findsEdges_24 rfl 0 rfl ?_
          refine go_geti (i := 12) X fc12 dX12_findsEdges_25 trn0 tr0 (Nat.le_of_ble_eq_true rfl) rfl lw946 rfl (fun v40 hv40 => ?_)
          refine go_icmp_ge (tgt := 139) X dX12_findsEdges_28 rfl hv37 hv40 (fun c41 => ?_) (fun c41 => ?_)
          · refine go_sub [0] rfl ?_
            exact hJ139_4 M38
          · refine go_aload_n X dX12_findsEdges_31 rfl 0 rfl ?_
            refine go_getc (i := 13) X fc12 dX12_findsEdges_32 trn0 tr0 (Nat.le_of_ble_eq_true rfl) rfl lw877 rfl ?_
            refine go_iload_n X dX12_findsEdges_35 rfl 2 rfl ?_
            refine go_iaload X dX12_findsEdges_36 trn12 tr12 hv37 (fun v42 hv42 => ?_)
            refine go_lt (fun J => ∀ (v43 : Int) (M44 : Mm), i32 v43 → Go p l e (rmO 4 103) s m args below meth c D TR 67 base 4 0 0 (FinV D TR 67 base below args s) M44 47 [(0, .ref (base + 0)), (1, .int (Ii a1)), (2, .int (Ii v43))] [] (J v43 M44)) (by
                intro v43 M44 hv43
                refine go_iconst (v := 0) X dX12_findsEdges_47 rfl ?_
                refine go_istore_n (i := 3) (L' := [(3, .int (Ii 0)), (0, .ref (base + 0)), (1, .int (Ii a1)), (2, .int (Ii v43))]) X dX12_findsEdges_48 rfl (by decide) rfl ?_
                refine go_lt (fun J => ∀ (v46 : Int) (M47 : Mm), i32 v46 → Go p l e (rmO 4 103) s m args below meth c D TR 67 base 4 0 0 (FinV D TR 67 base below args s) M47 133 [(0, .ref (base + 0)), (1, .int (Ii a1)), (2, .int (Ii v46))] [] (J v46 M47)) (by
                    intro v46 M47 hv46
                    refine go_iinc (i := 2) (L' := fun v => [(2, .int (Ii v)), (0, .ref (base + 0)), (1, .int (Ii a1))]) X dX12_findsEdges_133 hv46 kI_1 (j := 2) rfl (by decide) (fun _ => rfl) (fun v49 hv49 => ?_)
                    refine go_goto (tgt := 23) X dX12_findsEdges_136 rfl ?_
                    refine go_sub [1, 2, 0] rfl ?_
                    exact hrc23_39 v49 M47 hv49
                    )
                    (fun J133_48 hJ133_48 => ?_)
                refine go_sub [1, 2, 3, 0] rfl ?_
                exact go_lp (fun (rc : Int × Int × Mm → Rs) => ∀ (v50 : Int) (v51 : Int) (M52 : Mm), i32 v50 → i32 v51 → Go p l e (rmO 4 103) s m args below meth c D TR 67 base 4 0 0 (FinV D TR 67 base below args s) M52 49 [(0, .ref (base + 0)), (1, .int (Ii a1)), (2, .int (Ii v50)), (3, .int (Ii v51))] [] (rc (v50, v51, M52)))
                    (by intro v50 v51 M52 hv50 hv51; exact go_none)
                    (by
                    intro rc49_53 hrc49_53 v50 v51 M52 hv50 hv51
                    unfold f_X12_findsEdges_L49_80
                    dsimp only
                    refine go_iload_n X dX12_findsEdges_49 rfl 3 rfl ?_
                    refine go_aload_n X dX12_findsEdges_50 rfl 0 rfl ?_
                    refine go_getc (i := 4) X fc12 dX12_findsEdges_51 trn0 tr0 (Nat.le_of_ble_eq_true rfl) rfl lw869 rfl ?_
                    refine go_iload_n X dX12_findsEdges_54 rfl 1 rfl ?_
                    refine go_iaload X dX12_findsEdges_55 trn4 tr4 ha1 (fun v54 hv54 => ?_)
                    refine go_icmp_ge (tgt := 133) X dX12_findsEdges_56 rfl hv51 hv54 (fun c55 => ?_) (fun c55 => ?_)
                    · refine go_sub [0, 1, 2] rfl ?_
                      exact hJ133_48 v50 M52 hv50
                    · refine go_aload_n X dX12_findsEdges_59 rfl 0 rfl ?_
                      refine go_getc (i := 13) X fc12 dX12_findsEdges_60 trn0 tr0 (Nat.le_of_ble_eq_true rfl) rfl lw877 rfl ?_
                      refine go_iload_n X dX12_findsEdges_63 rfl 2 rfl ?_
                      refine go_iaload X dX12_findsEdges_64 trn12 tr12 hv50 (fun v56 hv56 => ?_)
                      refine go_iconst (v := 1) X dX12_findsEdges_65 rfl ?_
                      refine go_lt (fun J => ∀ (v57 : Int) (v58 : Int) (M59 : Mm), i32 v57 → i32 v58 → Go p l e (rmO 4 103) s m args below meth c D TR 67 base 4 0 0 (FinV D TR 67 base below args s) M59 127 [(0, .ref (base + 0)), (1, .int (Ii a1)), (2, .int (Ii v57)), (3, .int (Ii v58))] [] (J v57 v58 M59)) (by
                          intro v57 v58 M59 hv57 hv58
                          refine go_iinc (i := 3) (L' := fun v => [(3, .int (Ii v)), (0, .ref (base + 0)), (1, .int (Ii a1)), (2, .int (Ii v57))]) X dX12_findsEdges_127 hv58 kI_1 (j := 3) rfl (by decide) (fun _ => rfl) (fun v61 hv61 => ?_)
                          refine go_goto (tgt := 49) X dX12_findsEdges_130 rfl ?_
                          refine go_sub [1, 2, 3, 0] rfl ?_
                          exact hrc49_53 v57 v61 M59 hv57 hv61
                          )
                          (fun J127_60 hJ127_60 => ?_)
                      refine go_icmp_ne (tgt := 79) X dX12_findsEdges_66 rfl hv56 kI_1 (fun c62 => ?_) (fun c62 => ?_)
                      · refine go_aload_n X dX12_findsEdges_79 rfl 0 rfl ?_
                        refine go_getc (i := 13) X fc12 dX12_findsEdges_80 trn0 tr0 (Nat.le_of_ble_eq_true rfl) rfl lw877 rfl ?_
                        refine go_iload_n X dX12_findsEdges_83 rfl 2 rfl ?_
                        refine go_iaload X dX12_findsEdges_84 trn12 tr12 hv50 (fun v63 hv63 => ?_)
                        refine go_if_ne (tgt := 127) X dX12_findsEdges_85 rfl hv63 (fun c64 => ?_) (fun c64 => ?_)
                        · exact hJ127_60 v50 v51 M52 hv50 hv51
                        · refine go_aload_n X dX12_findsEdges_88 rfl 0 rfl ?_
                          refine go_getc (i := 85) X fc12 dX12_findsEdges_89 trn0 tr0 (Nat.le_of_ble_eq_true rfl) rfl lw932 rfl ?_
                          refine go_iload_n X dX12_findsEdges_92 rfl 3 rfl ?_
                          refine go_iload_n X dX12_findsEdges_93 rfl 2 rfl ?_
                          refine goI (fun H locs ls r ho hW hL => runS X (ok_X12_vertex l D base M52 v51 hv51 v50 hv50 H.size r ho) dX12_findsEdges_94 lw1022 lw1023 lw944 ⟨lw1016, cy_X12_vertex, Nat.le_of_ble_eq_true rfl, Nat.le_of_ble_eq_true rfl⟩ rfl rfl (Nat.le_of_ble_eq_true rfl) hW hL hk0) (fun v66 M65 hv66 => ?_)
                          refine go_dup2 X dX12_findsEdges_97 rfl rfl ?_
                          refine go_iaload X dX12_findsEdges_98 trn65 tr65 hv66 (fun v67 hv67 => ?_)
                          refine go_aload_n X dX12_findsEdges_99 rfl 0 rfl ?_
                          refine go_getc (i := 86) X fc12 dX12_findsEdges_100 trn0 tr0 (Nat.le_of_ble_eq_true rfl) rfl lw933 rfl ?_
                          refine go_bipush (v := 6) X dX12_findsEdges_103 (by decide) ?_
                          refine go_aload_n X dX12_findsEdges_105 rfl 0 rfl ?_
                          refine go_getc (i := 5) X fc12 dX12_findsEdges_106 trn0 tr0 (Nat.le_of_ble_eq_true rfl) rfl lw870 rfl ?_
                          refine go_iconst (v := 3) X dX12_findsEdges_109 rfl ?_
                          refine go_iload_n X dX12_findsEdges_110 rfl 1 rfl ?_
                          refine go_imul X dX12_findsEdges_111 kI_3 ha1 (fun v68 hv68 => ?_)
                          refine go_iload_n X dX12_findsEdges_112 rfl 3 rfl ?_
                          refine go_iadd X dX12_findsEdges_113 hv68 hv51 (fun v69 hv69 => ?_)
                          refine go_iaload X dX12_findsEdges_114 trn5 tr5 hv69 (fun v70 hv70 => ?_)
                          refine go_imul X dX12_findsEdges_115 kI_6 hv70 (fun v71 hv71 => ?_)
                          refine go_iload_n X dX12_findsEdges_116 rfl 2 rfl ?_
                          refine go_iadd X dX12_findsEdges_117 hv71 hv50 (fun v72 hv72 => ?_)
                          refine go_iaload X dX12_findsEdges_118 trn66 tr66 hv72 (fun v73 hv73 => ?_)
                          refine go_iload_n X dX12_findsEdges_119 rfl 3 rfl ?_
                          refine go_iconst (v := 0) X dX12_findsEdges_120 rfl ?_
                          refine goI (fun H locs ls r ho hW hL => runS X (ok_X12_vertex l D base M65 v51 hv51 0 kI_0 H.size r ho) dX12_findsEdges_121 lw1022 lw1023 lw944 ⟨lw1016, cy_X12_vertex, Nat.le_of_ble_eq_true rfl, Nat.le_of_ble_eq_true rfl⟩ rfl rfl (Nat.le_of_ble_eq_true rfl) hW hL hk0) (fun v75 M74 hv75 => ?_)
                          refine go_ishl X dX12_findsEdges_124 hv73 hv75 (fun v76 hv76 => ?_)
                          refine go_ior X dX12_findsEdges_125 hv67 hv76 (fun v77 hv77 => ?_)
                          refine go_iastore X dX12_findsEdges_126 trn65 tr65 hv66 hv77 (fun M78 => ?_)
                          exact hJ127_60 v50 v51 M78 hv50 hv51
                      · refine go_aload_n X dX12_findsEdges_69 rfl 0 rfl ?_
                        refine go_iload_n X dX12_findsEdges_70 rfl 1 rfl ?_
                        refine go_iload_n X dX12_findsEdges_71 rfl 2 rfl ?_
                        refine go_iload_n X dX12_findsEdges_72 rfl 3 rfl ?_
                        refine goV (fun H locs ls r ho hW hL => runV X (ok_X12_addsAll l D base M52 a1 ha1 v50 hv50 v51 hv51 H.size r ho) dX12_findsEdges_73 lw1028 lw1029 lw1030 lw944 ⟨lw1027, cy_X12_addsAll, Nat.le_of_ble_eq_true rfl, Nat.le_of_ble_eq_true rfl⟩ rfl trn0 tr0 rfl rfl rfl rfl (Nat.le_of_ble_eq_true rfl) hW hL hk0) (fun _ M79 => ?_)
                        refine go_goto (tgt := 127) X dX12_findsEdges_76 rfl ?_
                        exact hJ127_60 v50 v51 M79 hv50 hv51
                    )
                    FU v43 0 M44 hv43 kI_0
                )
                (fun J47_45 hJ47_45 => ?_)
            refine go_if_ne (tgt := 47) X dX12_findsEdges_37 rfl hv42 (fun c81 => ?_) (fun c81 => ?_)
            · exact hJ47_45 v37 M38 hv37
            · refine go_aload_n X dX12_findsEdges_40 rfl 0 rfl ?_
              refine go_iload_n X dX12_findsEdges_41 rfl 1 rfl ?_
              refine go_iload_n X dX12_findsEdges_42 rfl 2 rfl ?_
              refine go_iconst (v := (-1)) X dX12_findsEdges_43 rfl ?_
              refine goV (fun H locs ls r ho hW hL => runV X (ok_X12_addsAll l D base M38 a1 ha1 v37 hv37 ((-1)) kI_m1 H.size r ho) dX12_findsEdges_44 lw1028 lw1029 lw1030 lw944 ⟨lw1027, cy_X12_addsAll, Nat.le_of_ble_eq_true rfl, Nat.le_of_ble_eq_true rfl⟩ rfl trn0 tr0 rfl rfl rfl rfl (Nat.le_of_ble_eq_true rfl) hW hL hk0) (fun _ M82 => ?_)
              exact hJ47_45 v37 M82 hv37
          )
          FU 0 M1 kI_0
      )
      (fun J21_2 hJ21_2 => ?_)
  refine go_sub [1, 2, 0] rfl ?_
  exact go_lp (fun (rc : Int × Mm → Rs) => ∀ (v84 : Int) (M85 : Mm), i32 v84 → Go p l e (rmO 4 103) s m args below meth c D TR 67 base 4 0 0 (FinV D TR 67 base below args s) M85 2 [(0, .ref (base + 0)), (1, .int (Ii a1)), (2, .int (Ii v84))] [] (rc (v84, M85)))
      (by intro v84 M85 hv84; exact go_none)
      (by
      intro rc2_86 hrc2_86 v84 M85 hv84
      unfold f_X12_findsEdges_L2_90
      dsimp only
      refine go_iload_n X dX12_findsEdges_2 rfl 2 rfl ?_
      refine go_bipush (v := 24) X dX12_findsEdges_3 (by decide) ?_
      refine go_icmp_ge (tgt := 21) X dX12_findsEdges_5 rfl hv84 kI_24 (fun c87 => ?_) (fun c87 => ?_)
      · refine go_sub [0, 1] rfl ?_
        exact hJ21_2 M85
      · refine go_aload_n X dX12_findsEdges_8 rfl 0 rfl ?_
        refine go_getc (i := 85) X fc12 dX12_findsEdges_9 trn0 tr0 (Nat.le_of_ble_eq_true rfl) rfl lw932 rfl ?_
        refine go_iload_n X dX12_findsEdges_12 rfl 2 rfl ?_
        refine go_iconst (v := 0) X dX12_findsEdges_13 rfl ?_
        refine go_iastore X dX12_findsEdges_14 trn65 tr65 hv84 kI_0 (fun M88 => ?_)
        refine go_iinc (i := 2) (L' := fun v => [(2, .int (Ii v)), (0, .ref (base + 0)), (1, .int (Ii a1))]) X dX12_findsEdges_15 hv84 kI_1 (j := 2) rfl (by decide) (fun _ => rfl) (fun v89 hv89 => ?_)
        refine go_goto (tgt := 2) X dX12_findsEdges_18 rfl ?_
        refine go_sub [1, 2, 0] rfl ?_
        exact hrc2_86 v89 M88 hv89
      )
      FU 0 M kI_0
def f_X12_downs_L4_20 (J38_3 : Int → Mm → Rs) (rc4_7 : Int × Int × Mm → Rs) : Int × Int × Mm → Rs := fun (v4, v5, M6) =>
Lt (M6 0 12) fun v8 =>
if v8 ≤ v5 then (
J38_3 v4 M6) else (
gd (0 ≤ v5 ∧ v5 < 6) <|
Lt (M6 12 v5.toNat) fun v10 =>
Lt (fun (v11 : Int) (v12 : Int) (v13 : Int) (M14 : Mm) => 
Lt (jor v12 v13) fun v16 =>
Lt (wr (v11 + 1)) fun v17 =>
rc4_7 (v16, v17, M14)) fun J30_15 =>
if ¬ v10 = 1 then (
J30_15 v5 v4 0 M6) else (
Lt (jshl 1 v5) fun v19 =>
J30_15 v5 v4 v19 M6))
def f_X12_downs (M : Mm) : Rs :=
Lt (fun (v1 : Int) (M2 : Mm) => 
some (v1, M2)) fun J38_3 =>
Lp (f_X12_downs_L4_20 J38_3) FU (0, 0, M)
theorem cy_X12_downs : yX12_downs.cls ≠ "java/lang/invoke/MethodHandle" ∧ yX12_downs.cls ≠ "java/lang/invoke/VarHandle" ∧ (parseMethodDescriptor yX12_downs.desc).map (fun d => d.parameters.length) = some 0 := ⟨by decide +kernel, by decide +kernel, by decide +kernel⟩
set_option maxRecDepth 20000 in
theorem ok_X12_downs (l : Launch) (D : Dd) (base : Nat) (M : Mm) : OkI l D TR 67 base yX12_downs cX12_downs 3 (some .int) 0 0 [.ref (base + 0)] M i32 (f_X12_downs M) := by
  refine metI (by decide +kernel) [(0, .ref (base + 0))] rfl (Nat.le_of_ble_eq_true rfl) (fun p e s m args below meth c X hrt hlk => ?_)
  have X : Cx p s m args c cX12_downs D 3 RX12 := X
  unfold f_X12_downs
  refine go_iconst (v := 0) X dX12_downs_0 rfl ?_
  refine go_istore_n (i := 1) (L' := [(1, .int (Ii 0)), (0, .ref (base + 0))]) X dX12_downs_1 rfl (by decide) rfl ?_
  refine go_iconst (v := 0) X dX12_downs_2 rfl ?_
  refine go_istore_n (i := 2) (L' := [(2, .int (Ii 0)), (1, .int (Ii 0)), (0, .ref (base + 0))]) X dX12_downs_3 rfl (by decide) rfl ?_
  refine go_lt (fun J => ∀ (v1 : Int) (M2 : Mm), i32 v1 → Go p l e (rmO 0 0) s m args below meth c D TR 67 base 3 0 0 (FinI D TR 67 base below args s i32) M2 38 [(1, .int (Ii v1))] [] (J v1 M2)) (by
      intro v1 M2 hv1
      refine go_iload_n X dX12_downs_38 rfl 0 rfl ?_
      exact go_ireturn X hrt hlk dX12_downs_39 hv1
      )
      (fun J38_3 hJ38_3 => ?_)
  refine go_sub [2, 1, 0] rfl ?_
  exact go_lp (fun (rc : Int × Int × Mm → Rs) => ∀ (v4 : Int) (v5 : Int) (M6 : Mm), i32 v4 → i32 v5 → Go p l e (rmO 0 0) s m args below meth c D TR 67 base 3 0 0 (FinI D TR 67 base below args s i32) M6 4 [(0, .ref (base + 0)), (1, .int (Ii v4)), (2, .int (Ii v5))] [] (rc (v4, v5, M6)))
      (by intro v4 v5 M6 hv4 hv5; exact go_none)
      (by
      intro rc4_7 hrc4_7 v4 v5 M6 hv4 hv5
      unfold f_X12_downs_L4_20
      dsimp only
      refine go_iload_n X dX12_downs_4 rfl 2 rfl ?_
      refine go_aload_n X dX12_downs_5 rfl 0 rfl ?_
      refine go_geti (i := 12) X fc12 dX12_downs_6 trn0 tr0 (Nat.le_of_ble_eq_true rfl) rfl lw946 rfl (fun v8 hv8 => ?_)
      refine go_icmp_ge (tgt := 38) X dX12_downs_9 rfl hv5 hv8 (fun c9 => ?_) (fun c9 => ?_)
      · refine go_sub [1] rfl ?_
        exact hJ38_3 v4 M6 hv4
      · refine go_iload_n X dX12_downs_12 rfl 1 rfl ?_
        refine go_aload_n X dX12_downs_13 rfl 0 rfl ?_
        refine go_getc (i := 13) X fc12 dX12_downs_14 trn0 tr0 (Nat.le_of_ble_eq_true rfl) rfl lw877 rfl ?_
        refine go_iload_n X dX12_downs_17 rfl 2 rfl ?_
        refine go_iaload X dX12_downs_18 trn12 tr12 hv5 (fun v10 hv10 => ?_)
        refine go_iconst (v := 1) X dX12_downs_19 rfl ?_
        refine go_lt (fun J => ∀ (v11 : Int) (v12 : Int) (v13 : Int) (M14 : Mm), i32 v11 → i32 v12 → i32 v13 → Go p l e (rmO 0 0) s m args below meth c D TR 67 base 3 0 0 (FinI D TR 67 base below args s i32) M14 30 [(0, .ref (base + 0)), (2, .int (Ii v11))] [.int (Ii v13), .int (Ii v12)] (J v11 v12 v13 M14)) (by
            intro v11 v12 v13 M14 hv11 hv12 hv13
            refine go_ior X dX12_downs_30 hv12 hv13 (fun v16 hv16 => ?_)
            refine go_istore_n (i := 1) (L' := [(1, .int (Ii v16)), (0, .ref (base + 0)), (2, .int (Ii v11))]) X dX12_downs_31 rfl (by decide) rfl ?_
            refine go_iinc (i := 2) (L' := fun v => [(2, .int (Ii v)), (1, .int (Ii v16)), (0, .ref (base + 0))]) X dX12_downs_32 hv11 kI_1 (j := 2) rfl (by decide) (fun _ => rfl) (fun v17 hv17 => ?_)
            refine go_goto (tgt := 4) X dX12_downs_35 rfl ?_
            refine go_sub [2, 1, 0] rfl ?_
            exact hrc4_7 v16 v17 M14 hv16 hv17
            )
            (fun J30_15 hJ30_15 => ?_)
        refine go_icmp_ne (tgt := 29) X dX12_downs_20 rfl hv10 kI_1 (fun c18 => ?_) (fun c18 => ?_)
        · refine go_iconst (v := 0) X dX12_downs_29 rfl ?_
          refine go_sub [0, 2] rfl ?_
          exact hJ30_15 v5 v4 0 M6 hv5 hv4 kI_0
        · refine go_iconst (v := 1) X dX12_downs_23 rfl ?_
          refine go_iload_n X dX12_downs_24 rfl 2 rfl ?_
          refine go_ishl X dX12_downs_25 kI_1 hv5 (fun v19 hv19 => ?_)
          refine go_goto (tgt := 30) X dX12_downs_26 rfl ?_
          refine go_sub [0, 2] rfl ?_
          exact hJ30_15 v5 v4 v19 M6 hv5 hv4 hv19
      )
      FU 0 0 M kI_0 kI_0
def f_X12_ringIn_L167_31 (J187_10 : Int → Mm → Rs) (J195_19 : Int → Mm → Rs) (rc167_24 : Int × Int × Mm → Rs) : Int × Int × Mm → Rs := fun (v21, v22, M23) =>
if 24 ≤ v22 then (
J195_19 v21 M23) else (
gd (0 ≤ v22 ∧ v22 < 24) <|
Lt (M23 65 v22.toNat) fun v26 =>
Lt (jshr v26 v22) fun v27 =>
Lt (jand v27 1) fun v28 =>
if ¬ v28 = 1 then (
Lt (wr (v22 + 1)) fun v30 =>
rc167_24 (v21, v30, M23)) else (
J187_10 v21 M23))
def f_X12_ringIn_L152_32 (J201_7 : Mm → Rs) (J187_10 : Int → Mm → Rs) (rc152_13 : Int × Mm → Rs) : Int × Mm → Rs := fun (v11, M12) =>
Lt (M12 0 0) fun v14 =>
if v14 ≤ v11 then (
J201_7 M12) else (
Cl (f_X12_findsEdges v11 M12) fun _ M16 =>
Lt (fun (v17 : Int) (M18 : Mm) => 
Lt (wr (v17 + 1)) fun v20 =>
rc152_13 (v20, M18)) fun J195_19 =>
Lp (f_X12_ringIn_L167_31 J187_10 J195_19) FU (v11, 0, M16))
def f_X12_ringIn_L51_92 (J141_50 : Int → Int → Mm → Rs) (rc51_56 : Int × Int × Int × Mm → Rs) : Int × Int × Int × Mm → Rs := fun (v52, v53, v54, M55) =>
Lt (M55 0 12) fun v57 =>
if v57 ≤ v54 then (
J141_50 v52 v53 M55) else (
gd (0 ≤ v53 ∧ v53 < 10) <|
Lt (M55 1 v53.toNat) fun v59 =>
Lt (wr (6 * v59)) fun v60 =>
Lt (wr (v60 + v54)) fun v61 =>
gd (0 ≤ v54 ∧ v54 < 6) <|
Lt (M55 12 v54.toNat) fun v62 =>
Lt (fun (v63 : Int) (v64 : Int) (v65 : Int) (v66 : Int) (M67 : Mm) => 
Lt (fun (v69 : Int) (v70 : Int) (v71 : Int) (M72 : Mm) => 
gd (0 ≤ v61 ∧ v61 < 24) <|
Lt (M72 66 v61.toNat) fun v74 =>
Lt (jor v74 v66) fun v75 =>
gd (0 ≤ v61 ∧ v61 < 24) <|
Lt (up M72 66 v61.toNat v75) fun M76 =>
Lt (wr (v70 + 1)) fun v77 =>
rc51_56 (v71, v69, v77, M76)) fun J122_73 =>
Lt (fun (v78 : Int) (v79 : Int) (M80 : Mm) => 
J122_73 v78 v79 1 M80) fun J117_81 =>
if ¬ v63 = 0 then (
J117_81 v64 v65 M67) else (
gd (0 ≤ v61 ∧ v61 < 24) <|
Lt (M67 66 v61.toNat) fun v83 =>
Lt (jxor v83 ((-1))) fun v84 =>
Lt (jand v66 v84) fun v85 =>
if v85 = 0 then (
J122_73 v64 v65 0 M67) else (
J117_81 v64 v65 M67))) fun J96_68 =>
if ¬ v62 = 0 then (
J96_68 v52 v53 v54 0 M55) else (
gd (0 ≤ v54 ∧ v54 < 24) <|
Lt (M55 65 v54.toNat) fun v88 =>
Cl (f_X12_downs M55) fun v90 M89 =>
Lt (jand v88 v90) fun v91 =>
J96_68 v52 v53 v54 v91 M89))
def f_X12_ringIn_L36_93 (J147_39 : Int → Mm → Rs) (rc36_43 : Int × Int × Mm → Rs) : Int × Int × Mm → Rs := fun (v40, v41, M42) =>
Lt (M42 0 0) fun v44 =>
if v44 ≤ v41 then (
J147_39 v40 M42) else (
Cl (f_X12_findsEdges v41 M42) fun _ M46 =>
Lt (fun (v47 : Int) (v48 : Int) (M49 : Mm) => 
Lt (wr (v48 + 1)) fun v51 =>
rc36_43 (v47, v51, M49)) fun J141_50 =>
Lp (f_X12_ringIn_L51_92 J141_50) FU (v40, v41, 0, M46))
def f_X12_ringIn_L28_94 (J150_5 : Mm → Rs) (rc28_35 : Int × Mm → Rs) : Int × Mm → Rs := fun (v33, M34) =>
if v33 = 0 then (
J150_5 M34) else (
Lt (fun (v37 : Int) (M38 : Mm) => 
rc28_35 (v37, M38)) fun J147_39 =>
Lp (f_X12_ringIn_L36_93 J147_39) FU (0, 0, M34))
def f_X12_ringIn_L7_101 (J26_3 : Mm → Rs) (rc7_97 : Int × Mm → Rs) : Int × Mm → Rs := fun (v95, M96) =>
if 24 ≤ v95 then (
J26_3 M96) else (
gd (0 ≤ v95 ∧ v95 < 24) <|
Lt (up M96 66 v95.toNat 0) fun M99 =>
Lt (wr (v95 + 1)) fun v100 =>
rc7_97 (v100, M99))
def f_X12_ringIn (M : Mm) : Rs :=
Lt (up M 0 87 0) fun M1 =>
Lt (fun (M2 : Mm) => 
Lt (fun (M4 : Mm) => 
Lt (fun (M6 : Mm) => 
some ((-1), M6)) fun J201_7 =>
Lt (fun (v8 : Int) (M9 : Mm) => 
some (v8, M9)) fun J187_10 =>
Lp (f_X12_ringIn_L152_32 J201_7 J187_10) FU (0, M4)) fun J150_5 =>
Lp (f_X12_ringIn_L28_94 J150_5) FU (1, M2)) fun J26_3 =>
Lp (f_X12_ringIn_L7_101 J26_3) FU (0, M1)
theorem cy_X12_ringIn : yX12_ringIn.cls ≠ "java/lang/invoke/MethodHandle" ∧ yX12_ringIn.cls ≠ "java/lang/invoke/VarHandle" ∧ (parseMethodDescriptor yX12_ringIn.desc).map (fun d => d.parameters.length) = some 0 := ⟨by decide +kernel, by decide +kernel, by decide +kernel⟩
set_option maxRecDepth 20000 in
theorem ok_X12_ringIn (l : Launch) (D : Dd) (base : Nat) (M : Mm) : OkI l D TR 67 base yX12_ringIn cX12_ringIn 6 (some .int) 5 126 [.ref (base + 0)] M i32 (f_X12_ringIn M) := by
  refine metI (by decide +kernel) [(0, .ref (base + 0))] rfl (Nat.le_of_ble_eq_true rfl) (fun p e s m args below meth c X hrt hlk => ?_)
  have X : Cx p s m args c cX12_ringIn D 6 RX12 := X
  unfold f_X12_ringIn
  refine go_aload_n X dX12_ringIn_0 rfl 0 rfl ?_
  refine go_iconst (v := 0) X dX12_ringIn_1 rfl ?_
  refine go_puti (i := 87) X fc12 dX12_ringIn_2 trn0 tr0 (Nat.le_of_ble_eq_true rfl) rfl lw936 rfl rfl rfl kI_0 (fun M1 => ?_)
  refine go_iconst (v := 0) X dX12_ringIn_5 rfl ?_
  refine go_istore_n (i := 1) (L' := [(1, .int (Ii 0)), (0, .ref (base + 0))]) X dX12_ringIn_6 rfl (by decide) rfl ?_
  refine go_lt (fun J => ∀ (M2 : Mm), Go p l e (rmO 5 126) s m args below meth c D TR 67 base 6 0 0 (FinI D TR 67 base below args s i32) M2 26 [(0, .ref (base + 0))] [] (J M2)) (by
      intro M2
      refine go_iconst (v := 1) X dX12_ringIn_26 rfl ?_
      refine go_istore_n (i := 1) (L' := [(1, .int (Ii 1)), (0, .ref (base + 0))]) X dX12_ringIn_27 rfl (by decide) rfl ?_
      refine go_lt (fun J => ∀ (M4 : Mm), Go p l e (rmO 5 126) s m args below meth c D TR 67 base 6 0 0 (FinI D TR 67 base below args s i32) M4 150 [(0, .ref (base + 0))] [] (J M4)) (by
          intro M4
          refine go_iconst (v := 0) X dX12_ringIn_150 rfl ?_
          refine go_istore_n (i := 2) (L' := [(2, .int (Ii 0)), (0, .ref (base + 0))]) X dX12_ringIn_151 rfl (by decide) rfl ?_
          refine go_lt (fun J => ∀ (M6 : Mm), Go p l e (rmO 5 126) s m args below meth c D TR 67 base 6 0 0 (FinI D TR 67 base below args s i32) M6 201 [] [] (J M6)) (by
              intro M6
              refine go_iconst (v := (-1)) X dX12_ringIn_201 rfl ?_
              exact go_ireturn X hrt hlk dX12_ringIn_202 kI_m1
              )
              (fun J201_7 hJ201_7 => ?_)
          refine go_lt (fun J => ∀ (v8 : Int) (M9 : Mm), i32 v8 → Go p l e (rmO 5 126) s m args below meth c D TR 67 base 6 0 0 (FinI D TR 67 base below args s i32) M9 187 [(2, .int (Ii v8))] [] (J v8 M9)) (by
              intro v8 M9 hv8
              refine go_iload_n X dX12_ringIn_187 rfl 0 rfl ?_
              exact go_ireturn X hrt hlk dX12_ringIn_188 hv8
              )
              (fun J187_10 hJ187_10 => ?_)
          refine go_sub [1, 0] rfl ?_
          exact go_lp (fun (rc : Int × Mm → Rs) => ∀ (v11 : Int) (M12 : Mm), i32 v11 → Go p l e (rmO 5 126) s m args below meth c D TR 67 base 6 0 0 (FinI D TR 67 base below args s i32) M12 152 [(0, .ref (base + 0)), (2, .int (Ii v11))] [] (rc (v11, M12)))
              (by intro v11 M12 hv11; exact go_none)
              (by
              intro rc152_13 hrc152_13 v11 M12 hv11
              unfold f_X12_ringIn_L152_32
              dsimp only
              refine go_iload_n X dX12_ringIn_152 rfl 1 rfl ?_
              refine go_aload_n X dX12_ringIn_153 rfl 0 rfl ?_
              refine go_geti (i := 0) X fc12 dX12_ringIn_154 trn0 tr0 (Nat.le_of_ble_eq_true rfl) rfl lw941 rfl (fun v14 hv14 => ?_)
              refine go_icmp_ge (tgt := 201) X dX12_ringIn_157 rfl hv11 hv14 (fun c15 => ?_) (fun c15 => ?_)
              · refine go_sub [] rfl ?_
                exact hJ201_7 M12
              · refine go_aload_n X dX12_ringIn_160 rfl 0 rfl ?_
                refine go_iload_n X dX12_ringIn_161 rfl 1 rfl ?_
                refine goV (fun H locs ls r ho hW hL => runV X (ok_X12_findsEdges l D base M12 v11 hv11 H.size r ho) dX12_ringIn_162 lw1033 lw1034 lw1035 lw944 ⟨lw1031, cy_X12_findsEdges, Nat.le_of_ble_eq_true rfl, Nat.le_of_ble_eq_true rfl⟩ rfl trn0 tr0 rfl rfl rfl rfl (Nat.le_of_ble_eq_true rfl) hW hL hk0) (fun _ M16 => ?_)
                refine go_iconst (v := 0) X dX12_ringIn_165 rfl ?_
                refine go_istore_n (i := 3) (L' := [(3, .int (Ii 0)), (0, .ref (base + 0)), (2, .int (Ii v11))]) X dX12_ringIn_166 rfl (by decide) rfl ?_
                refine go_lt (fun J => ∀ (v17 : Int) (M18 : Mm), i32 v17 → Go p l e (rmO 5 126) s m args below meth c D TR 67 base 6 0 0 (FinI D TR 67 base below args s i32) M18 195 [(0, .ref (base + 0)), (2, .int (Ii v17))] [] (J v17 M18)) (by
                    intro v17 M18 hv17
                    refine go_iinc (i := 2) (L' := fun v => [(2, .int (Ii v)), (0, .ref (base + 0))]) X dX12_ringIn_195 hv17 kI_1 (j := 1) rfl (by decide) (fun _ => rfl) (fun v20 hv20 => ?_)
                    refine go_goto (tgt := 152) X dX12_ringIn_198 rfl ?_
                    refine go_sub [1, 0] rfl ?_
                    exact hrc152_13 v20 M18 hv20
                    )
                    (fun J195_19 hJ195_19 => ?_)
                refine go_sub [1, 2, 0] rfl ?_
                exact go_lp (fun (rc : Int × Int × Mm → Rs) => ∀ (v21 : Int) (v22 : Int) (M23 : Mm), i32 v21 → i32 v22 → Go p l e (rmO 5 126) s m args below meth c D TR 67 base 6 0 0 (FinI D TR 67 base below args s i32) M23 167 [(0, .ref (base + 0)), (2, .int (Ii v21)), (3, .int (Ii v22))] [] (rc (v21, v22, M23)))
                    (by intro v21 v22 M23 hv21 hv22; exact go_none)
                    (by
                    intro rc167_24 hrc167_24 v21 v22 M23 hv21 hv22
                    unfold f_X12_ringIn_L167_31
                    dsimp only
                    refine go_iload_n X dX12_ringIn_167 rfl 2 rfl ?_
                    refine go_bipush (v := 24) X dX12_ringIn_168 (by decide) ?_
                    refine go_icmp_ge (tgt := 195) X dX12_ringIn_170 rfl hv22 kI_24 (fun c25 => ?_) (fun c25 => ?_)
                    · refine go_sub [0, 1] rfl ?_
                      exact hJ195_19 v21 M23 hv21
                    · refine go_aload_n X dX12_ringIn_173 rfl 0 rfl ?_
                      refine go_getc (i := 85) X fc12 dX12_ringIn_174 trn0 tr0 (Nat.le_of_ble_eq_true rfl) rfl lw932 rfl ?_
                      refine go_iload_n X dX12_ringIn_177 rfl 2 rfl ?_
                      refine go_iaload X dX12_ringIn_178 trn65 tr65 hv22 (fun v26 hv26 => ?_)
                      refine go_iload_n X dX12_ringIn_179 rfl 2 rfl ?_
                      refine go_ishr X dX12_ringIn_180 hv26 hv22 (fun v27 hv27 => ?_)
                      refine go_iconst (v := 1) X dX12_ringIn_181 rfl ?_
                      refine go_iand X dX12_ringIn_182 hv27 kI_1 (fun v28 hv28 => ?_)
                      refine go_iconst (v := 1) X dX12_ringIn_183 rfl ?_
                      refine go_icmp_ne (tgt := 189) X dX12_ringIn_184 rfl hv28 kI_1 (fun c29 => ?_) (fun c29 => ?_)
                      · refine go_iinc (i := 3) (L' := fun v => [(3, .int (Ii v)), (0, .ref (base + 0)), (2, .int (Ii v21))]) X dX12_ringIn_189 hv22 kI_1 (j := 2) rfl (by decide) (fun _ => rfl) (fun v30 hv30 => ?_)
                        refine go_goto (tgt := 167) X dX12_ringIn_192 rfl ?_
                        refine go_sub [1, 2, 0] rfl ?_
                        exact hrc167_24 v21 v30 M23 hv21 hv30
                      · refine go_sub [1] rfl ?_
                        exact hJ187_10 v21 M23 hv21
                    )
                    FU v11 0 M16 hv11 kI_0
              )
              FU 0 M4 kI_0
          )
          (fun J150_5 hJ150_5 => ?_)
      refine go_sub [1, 0] rfl ?_
      exact go_lp (fun (rc : Int × Mm → Rs) => ∀ (v33 : Int) (M34 : Mm), bo v33 → Go p l e (rmO 5 126) s m args below meth c D TR 67 base 6 0 0 (FinI D TR 67 base below args s i32) M34 28 [(0, .ref (base + 0)), (1, .int (Ii v33))] [] (rc (v33, M34)))
          (by intro v33 M34 hv33; exact go_none)
          (by
          intro rc28_35 hrc28_35 v33 M34 hv33
          unfold f_X12_ringIn_L28_94
          dsimp only
          refine go_iload_n X dX12_ringIn_28 rfl 1 rfl ?_
          refine go_if_eq (tgt := 150) X dX12_ringIn_29 rfl (bo_i32 hv33) (fun c36 => ?_) (fun c36 => ?_)
          · refine go_sub [0] rfl ?_
            exact hJ150_5 M34
          · refine go_iconst (v := 0) X dX12_ringIn_32 rfl ?_
            refine go_istore_n (i := 1) (L' := [(1, .int (Ii 0)), (0, .ref (base + 0))]) X dX12_ringIn_33 rfl (by decide) rfl ?_
            refine go_iconst (v := 0) X dX12_ringIn_34 rfl ?_
            refine go_istore_n (i := 2) (L' := [(2, .int (Ii 0)), (1, .int (Ii 0)), (0, .ref (base + 0))]) X dX12_ringIn_35 rfl (by decide) rfl ?_
            refine go_lt (fun J => ∀ (v37 : Int) (M38 : Mm), bo v37 → Go p l e (rmO 5 126) s m args below meth c D TR 67 base 6 0 0 (FinI D TR 67 base below args s i32) M38 147 [(0, .ref (base + 0)), (1, .int (Ii v37))] [] (J v37 M38)) (by
                intro v37 M38 hv37
                refine go_goto (tgt := 28) X dX12_ringIn_147 rfl ?_
                exact hrc28_35 v37 M38 hv37
                )
                (fun J147_39 hJ147_39 => ?_)
            refine go_sub [2, 1, 0] rfl ?_
            exact go_lp (fun (rc : Int × Int × Mm → Rs) => ∀ (v40 : Int) (v41 : Int) (M42 : Mm), bo v40 → i32 v41 → Go p l e (rmO 5 126) s m args below meth c D TR 67 base 6 0 0 (FinI D TR 67 base below args s i32) M42 36 [(0, .ref (base + 0)), (1, .int (Ii v40)), (2, .int (Ii v41))] [] (rc (v40, v41, M42)))
                (by intro v40 v41 M42 hv40 hv41; exact go_none)
                (by
                intro rc36_43 hrc36_43 v40 v41 M42 hv40 hv41
                unfold f_X12_ringIn_L36_93
                dsimp only
                refine go_iload_n X dX12_ringIn_36 rfl 2 rfl ?_
                refine go_aload_n X dX12_ringIn_37 rfl 0 rfl ?_
                refine go_geti (i := 0) X fc12 dX12_ringIn_38 trn0 tr0 (Nat.le_of_ble_eq_true rfl) rfl lw941 rfl (fun v44 hv44 => ?_)
                refine go_icmp_ge (tgt := 147) X dX12_ringIn_41 rfl hv41 hv44 (fun c45 => ?_) (fun c45 => ?_)
                · refine go_sub [0, 1] rfl ?_
                  exact hJ147_39 v40 M42 hv40
                · refine go_aload_n X dX12_ringIn_44 rfl 0 rfl ?_
                  refine go_iload_n X dX12_ringIn_45 rfl 2 rfl ?_
                  refine goV (fun H locs ls r ho hW hL => runV X (ok_X12_findsEdges l D base M42 v41 hv41 H.size r ho) dX12_ringIn_46 lw1033 lw1034 lw1035 lw944 ⟨lw1031, cy_X12_findsEdges, Nat.le_of_ble_eq_true rfl, Nat.le_of_ble_eq_true rfl⟩ rfl trn0 tr0 rfl rfl rfl rfl (Nat.le_of_ble_eq_true rfl) hW hL hk0) (fun _ M46 => ?_)
                  refine go_iconst (v := 0) X dX12_ringIn_49 rfl ?_
                  refine go_istore_n (i := 3) (L' := [(3, .int (Ii 0)), (0, .ref (base + 0)), (1, .int (Ii v40)), (2, .int (Ii v41))]) X dX12_ringIn_50 rfl (by decide) rfl ?_
                  refine go_lt (fun J => ∀ (v47 : Int) (v48 : Int) (M49 : Mm), bo v47 → i32 v48 → Go p l e (rmO 5 126) s m args below meth c D TR 67 base 6 0 0 (FinI D TR 67 base below args s i32) M49 141 [(0, .ref (base + 0)), (1, .int (Ii v47)), (2, .int (Ii v48))] [] (J v47 v48 M49)) (by
                      intro v47 v48 M49 hv47 hv48
                      refine go_iinc (i := 2) (L' := fun v => [(2, .int (Ii v)), (0, .ref (base + 0)), (1, .int (Ii v47))]) X dX12_ringIn_141 hv48 kI_1 (j := 2) rfl (by decide) (fun _ => rfl) (fun v51 hv51 => ?_)
                      refine go_goto (tgt := 36) X dX12_ringIn_144 rfl ?_
                      refine go_sub [1, 2, 0] rfl ?_
                      exact hrc36_43 v47 v51 M49 hv47 hv51
                      )
                      (fun J141_50 hJ141_50 => ?_)
                  refine go_sub [1, 2, 3, 0] rfl ?_
                  exact go_lp (fun (rc : Int × Int × Int × Mm → Rs) => ∀ (v52 : Int) (v53 : Int) (v54 : Int) (M55 : Mm), bo v52 → i32 v53 → i32 v54 → Go p l e (rmO 5 126) s m args below meth c D TR 67 base 6 0 0 (FinI D TR 67 base below args s i32) M55 51 [(0, .ref (base + 0)), (1, .int (Ii v52)), (2, .int (Ii v53)), (3, .int (Ii v54))] [] (rc (v52, v53, v54, M55)))
                      (by intro v52 v53 v54 M55 hv52 hv53 hv54; exact go_none)
                      (by
                      intro rc51_56 hrc51_56 v52 v53 v54 M55 hv52 hv53 hv54
                      unfold f_X12_ringIn_L51_92
                      dsimp only
                      refine go_iload_n X dX12_ringIn_51 rfl 3 rfl ?_
                      refine go_aload_n X dX12_ringIn_52 rfl 0 rfl ?_
                      refine go_geti (i := 12) X fc12 dX12_ringIn_53 trn0 tr0 (Nat.le_of_ble_eq_true rfl) rfl lw946 rfl (fun v57 hv57 => ?_)
                      refine go_icmp_ge (tgt := 141) X dX12_ringIn_56 rfl hv54 hv57 (fun c58 => ?_) (fun c58 => ?_)
                      · refine go_sub [0, 1, 2] rfl ?_
                        exact hJ141_50 v52 v53 M55 hv52 hv53
                      · refine go_bipush (v := 6) X dX12_ringIn_59 (by decide) ?_
                        refine go_aload_n X dX12_ringIn_61 rfl 0 rfl ?_
                        refine go_getc (i := 1) X fc12 dX12_ringIn_62 trn0 tr0 (Nat.le_of_ble_eq_true rfl) rfl lw866 rfl ?_
                        refine go_iload_n X dX12_ringIn_65 rfl 2 rfl ?_
                        refine go_iaload X dX12_ringIn_66 trn1 tr1 hv53 (fun v59 hv59 => ?_)
                        refine go_imul X dX12_ringIn_67 kI_6 hv59 (fun v60 hv60 => ?_)
                        refine go_iload_n X dX12_ringIn_68 rfl 3 rfl ?_
                        refine go_iadd X dX12_ringIn_69 hv60 hv54 (fun v61 hv61 => ?_)
                        refine go_istore (i := 4) (L' := [(4, .int (Ii v61)), (0, .ref (base + 0)), (1, .int (Ii v52)), (2, .int (Ii v53)), (3, .int (Ii v54))]) X dX12_ringIn_70 (by decide) rfl ?_
                        refine go_aload_n X dX12_ringIn_72 rfl 1 rfl ?_
                        refine go_getc (i := 13) X fc12 dX12_ringIn_73 trn0 tr0 (Nat.le_of_ble_eq_true rfl) rfl lw877 rfl ?_
                        refine go_iload_n X dX12_ringIn_76 rfl 4 rfl ?_
                        refine go_iaload X dX12_ringIn_77 trn12 tr12 hv54 (fun v62 hv62 => ?_)
                        refine go_lt (fun J => ∀ (v63 : Int) (v64 : Int) (v65 : Int) (v66 : Int) (M67 : Mm), bo v63 → i32 v64 → i32 v65 → i32 v66 → Go p l e (rmO 5 126) s m args below meth c D TR 67 base 6 0 0 (FinI D TR 67 base below args s i32) M67 96 [(0, .ref (base + 0)), (1, .int (Ii v63)), (2, .int (Ii v64)), (3, .int (Ii v65)), (4, .int (Ii v61))] [.int (Ii v66)] (J v63 v64 v65 v66 M67)) (by
                            intro v63 v64 v65 v66 M67 hv63 hv64 hv65 hv66
                            refine go_istore (i := 5) (L' := [(5, .int (Ii v66)), (0, .ref (base + 0)), (1, .int (Ii v63)), (2, .int (Ii v64)), (3, .int (Ii v65)), (4, .int (Ii v61))]) X dX12_ringIn_96 (by decide) rfl ?_
                            refine go_iload_n X dX12_ringIn_98 rfl 2 rfl ?_
                            refine go_lt (fun J => ∀ (v69 : Int) (v70 : Int) (v71 : Int) (M72 : Mm), i32 v69 → i32 v70 → bo v71 → Go p l e (rmO 5 126) s m args below meth c D TR 67 base 6 0 0 (FinI D TR 67 base below args s i32) M72 122 [(0, .ref (base + 0)), (2, .int (Ii v69)), (3, .int (Ii v70)), (4, .int (Ii v61)), (5, .int (Ii v66))] [.int (Ii v71)] (J v69 v70 v71 M72)) (by
                                intro v69 v70 v71 M72 hv69 hv70 hv71
                                refine go_istore_n (i := 1) (L' := [(1, .int (Ii v71)), (0, .ref (base + 0)), (2, .int (Ii v69)), (3, .int (Ii v70)), (4, .int (Ii v61)), (5, .int (Ii v66))]) X dX12_ringIn_122 rfl (by decide) rfl ?_
                                refine go_aload_n X dX12_ringIn_123 rfl 1 rfl ?_
                                refine go_getc (i := 86) X fc12 dX12_ringIn_124 trn0 tr0 (Nat.le_of_ble_eq_true rfl) rfl lw933 rfl ?_
                                refine go_iload X dX12_ringIn_127 4 rfl ?_
                                refine go_dup2 X dX12_ringIn_129 rfl rfl ?_
                                refine go_iaload X dX12_ringIn_130 trn66 tr66 hv61 (fun v74 hv74 => ?_)
                                refine go_iload X dX12_ringIn_131 5 rfl ?_
                                refine go_ior X dX12_ringIn_133 hv74 hv66 (fun v75 hv75 => ?_)
                                refine go_iastore X dX12_ringIn_134 trn66 tr66 hv61 hv75 (fun M76 => ?_)
                                refine go_iinc (i := 3) (L' := fun v => [(3, .int (Ii v)), (1, .int (Ii v71)), (0, .ref (base + 0)), (2, .int (Ii v69)), (4, .int (Ii v61)), (5, .int (Ii v66))]) X dX12_ringIn_135 hv70 kI_1 (j := 3) rfl (by decide) (fun _ => rfl) (fun v77 hv77 => ?_)
                                refine go_goto (tgt := 51) X dX12_ringIn_138 rfl ?_
                                refine go_sub [2, 1, 3, 0] rfl ?_
                                exact hrc51_56 v71 v69 v77 M76 hv71 hv69 hv77
                                )
                                (fun J122_73 hJ122_73 => ?_)
                            refine go_lt (fun J => ∀ (v78 : Int) (v79 : Int) (M80 : Mm), i32 v78 → i32 v79 → Go p l e (rmO 5 126) s m args below meth c D TR 67 base 6 0 0 (FinI D TR 67 base below args s i32) M80 117 [(0, .ref (base + 0)), (2, .int (Ii v78)), (3, .int (Ii v79)), (4, .int (Ii v61)), (5, .int (Ii v66))] [] (J v78 v79 M80)) (by
                                intro v78 v79 M80 hv78 hv79
                                refine go_iconst (v := 1) X dX12_ringIn_117 rfl ?_
                                refine go_goto (tgt := 122) X dX12_ringIn_118 rfl ?_
                                exact hJ122_73 v78 v79 1 M80 hv78 hv79 (Or.inr rfl)
                                )
                                (fun J117_81 hJ117_81 => ?_)
                            refine go_if_ne (tgt := 117) X dX12_ringIn_99 rfl (bo_i32 hv63) (fun c82 => ?_) (fun c82 => ?_)
                            · refine go_sub [1, 3, 4, 5, 0] rfl ?_
                              exact hJ117_81 v64 v65 M67 hv64 hv65
                            · refine go_iload X dX12_ringIn_102 0 rfl ?_
                              refine go_aload_n X dX12_ringIn_104 rfl 1 rfl ?_
                              refine go_getc (i := 86) X fc12 dX12_ringIn_105 trn0 tr0 (Nat.le_of_ble_eq_true rfl) rfl lw933 rfl ?_
                              refine go_iload X dX12_ringIn_108 5 rfl ?_
                              refine go_iaload X dX12_ringIn_110 trn66 tr66 hv61 (fun v83 hv83 => ?_)
                              refine go_iconst (v := (-1)) X dX12_ringIn_111 rfl ?_
                              refine go_ixor X dX12_ringIn_112 hv83 kI_m1 (fun v84 hv84 => ?_)
                              refine go_iand X dX12_ringIn_113 hv66 hv84 (fun v85 hv85 => ?_)
                              refine go_if_eq (tgt := 121) X dX12_ringIn_114 rfl hv85 (fun c86 => ?_) (fun c86 => ?_)
                              · refine go_iconst (v := 0) X dX12_ringIn_121 rfl ?_
                                refine go_sub [1, 3, 4, 5, 0] rfl ?_
                                exact hJ122_73 v64 v65 0 M67 hv64 hv65 (Or.inl rfl)
                              · refine go_sub [1, 3, 4, 5, 0] rfl ?_
                                exact hJ117_81 v64 v65 M67 hv64 hv65
                            )
                            (fun J96_68 hJ96_68 => ?_)
                        refine go_if_ne (tgt := 95) X dX12_ringIn_78 rfl hv62 (fun c87 => ?_) (fun c87 => ?_)
                        · refine go_iconst (v := 0) X dX12_ringIn_95 rfl ?_
                          refine go_sub [1, 2, 3, 4, 0] rfl ?_
                          exact hJ96_68 v52 v53 v54 0 M55 hv52 hv53 hv54 kI_0
                        · refine go_aload_n X dX12_ringIn_81 rfl 1 rfl ?_
                          refine go_getc (i := 85) X fc12 dX12_ringIn_82 trn0 tr0 (Nat.le_of_ble_eq_true rfl) rfl lw932 rfl ?_
                          refine go_iload_n X dX12_ringIn_85 rfl 4 rfl ?_
                          refine go_iaload X dX12_ringIn_86 trn65 tr65 hv54 (fun v88 hv88 => ?_)
                          refine go_aload_n X dX12_ringIn_87 rfl 1 rfl ?_
                          refine goI (fun H locs ls r ho hW hL => runV X (ok_X12_downs l D base M55  H.size r ho) dX12_ringIn_88 lw1036 lw1037 lw1038 lw944 ⟨lw1032, cy_X12_downs, Nat.le_of_ble_eq_true rfl, Nat.le_of_ble_eq_true rfl⟩ rfl trn0 tr0 rfl rfl rfl rfl (Nat.le_of_ble_eq_true rfl) hW hL hk0) (fun v90 M89 hv90 => ?_)
                          refine go_iand X dX12_ringIn_91 hv88 hv90 (fun v91 hv91 => ?_)
                          refine go_goto (tgt := 96) X dX12_ringIn_92 rfl ?_
                          refine go_sub [1, 2, 3, 4, 0] rfl ?_
                          exact hJ96_68 v52 v53 v54 v91 M89 hv52 hv53 hv54 hv91
                      )
                      FU v40 v41 0 M46 hv40 hv41 kI_0
                )
                FU 0 0 M34 (Or.inl rfl) kI_0
          )
          FU 1 M2 (Or.inr rfl)
      )
      (fun J26_3 hJ26_3 => ?_)
  refine go_sub [1, 0] rfl ?_
  exact go_lp (fun (rc : Int × Mm → Rs) => ∀ (v95 : Int) (M96 : Mm), i32 v95 → Go p l e (rmO 5 126) s m args below meth c D TR 67 base 6 0 0 (FinI D TR 67 base below args s i32) M96 7 [(0, .ref (base + 0)), (1, .int (Ii v95))] [] (rc (v95, M96)))
      (by intro v95 M96 hv95; exact go_none)
      (by
      intro rc7_97 hrc7_97 v95 M96 hv95
      unfold f_X12_ringIn_L7_101
      dsimp only
      refine go_iload_n X dX12_ringIn_7 rfl 1 rfl ?_
      refine go_bipush (v := 24) X dX12_ringIn_8 (by decide) ?_
      refine go_icmp_ge (tgt := 26) X dX12_ringIn_10 rfl hv95 kI_24 (fun c98 => ?_) (fun c98 => ?_)
      · refine go_sub [0] rfl ?_
        exact hJ26_3 M96
      · refine go_aload_n X dX12_ringIn_13 rfl 0 rfl ?_
        refine go_getc (i := 86) X fc12 dX12_ringIn_14 trn0 tr0 (Nat.le_of_ble_eq_true rfl) rfl lw933 rfl ?_
        refine go_iload_n X dX12_ringIn_17 rfl 1 rfl ?_
        refine go_iconst (v := 0) X dX12_ringIn_18 rfl ?_
        refine go_iastore X dX12_ringIn_19 trn66 tr66 hv95 kI_0 (fun M99 => ?_)
        refine go_iinc (i := 1) (L' := fun v => [(1, .int (Ii v)), (0, .ref (base + 0))]) X dX12_ringIn_20 hv95 kI_1 (j := 1) rfl (by decide) (fun _ => rfl) (fun v100 hv100 => ?_)
        refine go_goto (tgt := 7) X dX12_ringIn_23 rfl ?_
        refine go_sub [1, 0] rfl ?_
        exact hrc7_97 v100 M99 hv100
      )
      FU 0 M1 kI_0
def f_X12_stretch (a1 : Int) (a2 : Int) (a3 : Int) (M : Mm) : Rs :=
Lt (wr (169 * a1)) fun v1 =>
Lt (wr (13 * a2)) fun v2 =>
Lt (wr (v1 + v2)) fun v3 =>
Lt (wr (v3 + a3)) fun v4 =>
some (v4, M)
theorem cy_X12_stretch : yX12_stretch.cls ≠ "java/lang/invoke/MethodHandle" ∧ yX12_stretch.cls ≠ "java/lang/invoke/VarHandle" ∧ (parseMethodDescriptor yX12_stretch.desc).map (fun d => d.parameters.length) = some 3 := ⟨by decide +kernel, by decide +kernel, by decide +kernel⟩
set_option maxRecDepth 20000 in
theorem ok_X12_stretch (l : Launch) (D : Dd) (base : Nat) (M : Mm) (a1 : Int) (ha1 : i32 a1) (a2 : Int) (ha2 : i32 a2) (a3 : Int) (ha3 : i32 a3) : OkI l D TR 67 base yX12_stretch cX12_stretch 3 (some .int) 0 0 [.int (Ii a1), .int (Ii a2), .int (Ii a3)] M i32 (f_X12_stretch a1 a2 a3 M) := by
  refine metI (by decide +kernel) [(0, .int (Ii a1)), (1, .int (Ii a2)), (2, .int (Ii a3))] rfl (Nat.le_of_ble_eq_true rfl) (fun p e s m args below meth c X hrt hlk => ?_)
  have X : Cx p s m args c cX12_stretch D 3 RX12 := X
  unfold f_X12_stretch
  refine go_sipush (v := 169) X dX12_stretch_0 (by decide) ?_
  refine go_iload_n X dX12_stretch_3 rfl 0 rfl ?_
  refine go_imul X dX12_stretch_4 kI_169 ha1 (fun v1 hv1 => ?_)
  refine go_bipush (v := 13) X dX12_stretch_5 (by decide) ?_
  refine go_iload_n X dX12_stretch_7 rfl 1 rfl ?_
  refine go_imul X dX12_stretch_8 kI_13 ha2 (fun v2 hv2 => ?_)
  refine go_iadd X dX12_stretch_9 hv1 hv2 (fun v3 hv3 => ?_)
  refine go_iload_n X dX12_stretch_10 rfl 2 rfl ?_
  refine go_iadd X dX12_stretch_11 hv3 ha3 (fun v4 hv4 => ?_)
  exact go_ireturn X hrt hlk dX12_stretch_12 hv4
def f_X12_hasLetter_L6_21 (a1 : Int) (a3 : Int) (J44_3 : Int → Mm → Rs) (rc6_7 : Int × Int × Mm → Rs) : Int × Int × Mm → Rs := fun (v4, v5, M6) =>
if a3 ≤ v5 then (
J44_3 v4 M6) else (
Lt (fun (v9 : Int) (v10 : Int) (M11 : Mm) => 
Lt (wr (v9 + 1)) fun v13 =>
rc6_7 (v10, v13, M11)) fun J36_12 =>
Lt (fun (v14 : Int) (M15 : Mm) => 
J36_12 v14 1 M15) fun J31_16 =>
if ¬ v4 = 0 then (
J31_16 v5 M6) else (
gd (0 ≤ v5 ∧ v5 < 12) <|
Lt (M6 29 v5.toNat) fun v18 =>
Lt (wr (a1 + 93)) fun v19 =>
if ¬ v18 = v19 then (
J36_12 v5 0 M6) else (
J31_16 v5 M6)))
def f_X12_hasLetter (a1 : Int) (a2 : Int) (a3 : Int) (M : Mm) : Rs :=
Lt (fun (v1 : Int) (M2 : Mm) => 
some (v1, M2)) fun J44_3 =>
Lp (f_X12_hasLetter_L6_21 a1 a3 J44_3) FU (0, a2, M)
theorem cy_X12_hasLetter : yX12_hasLetter.cls ≠ "java/lang/invoke/MethodHandle" ∧ yX12_hasLetter.cls ≠ "java/lang/invoke/VarHandle" ∧ (parseMethodDescriptor yX12_hasLetter.desc).map (fun d => d.parameters.length) = some 3 := ⟨by decide +kernel, by decide +kernel, by decide +kernel⟩
set_option maxRecDepth 20000 in
theorem ok_X12_hasLetter (l : Launch) (D : Dd) (base : Nat) (M : Mm) (a1 : Int) (ha1 : i32 a1) (a2 : Int) (ha2 : i32 a2) (a3 : Int) (ha3 : i32 a3) : OkI l D TR 67 base yX12_hasLetter cX12_hasLetter 6 (some .boolean) 0 0 [.ref (base + 0), .int (Ii a1), .int (Ii a2), .int (Ii a3)] M bo (f_X12_hasLetter a1 a2 a3 M) := by
  refine metI (by decide +kernel) [(0, .ref (base + 0)), (1, .int (Ii a1)), (2, .int (Ii a2)), (3, .int (Ii a3))] rfl (Nat.le_of_ble_eq_true rfl) (fun p e s m args below meth c X hrt hlk => ?_)
  have X : Cx p s m args c cX12_hasLetter D 6 RX12 := X
  unfold f_X12_hasLetter
  refine go_iconst (v := 0) X dX12_hasLetter_0 rfl ?_
  refine go_istore (i := 4) (L' := [(4, .int (Ii 0)), (0, .ref (base + 0)), (1, .int (Ii a1)), (2, .int (Ii a2)), (3, .int (Ii a3))]) X dX12_hasLetter_1 (by decide) rfl ?_
  refine go_iload_n X dX12_hasLetter_3 rfl 3 rfl ?_
  refine go_istore (i := 5) (L' := [(5, .int (Ii a2)), (4, .int (Ii 0)), (0, .ref (base + 0)), (1, .int (Ii a1)), (2, .int (Ii a2)), (3, .int (Ii a3))]) X dX12_hasLetter_4 (by decide) rfl ?_
  refine go_lt (fun J => ∀ (v1 : Int) (M2 : Mm), bo v1 → Go p l e (rmO 0 0) s m args below meth c D TR 67 base 6 0 0 (FinI D TR 67 base below args s bo) M2 44 [(4, .int (Ii v1))] [] (J v1 M2)) (by
      intro v1 M2 hv1
      refine go_iload X dX12_hasLetter_44 0 rfl ?_
      exact go_zreturn X hrt hlk dX12_hasLetter_46 hv1 hv1
      )
      (fun J44_3 hJ44_3 => ?_)
  refine go_sub [2, 3, 5, 1, 0] rfl ?_
  exact go_lp (fun (rc : Int × Int × Mm → Rs) => ∀ (v4 : Int) (v5 : Int) (M6 : Mm), bo v4 → i32 v5 → Go p l e (rmO 0 0) s m args below meth c D TR 67 base 6 0 0 (FinI D TR 67 base below args s bo) M6 6 [(0, .ref (base + 0)), (1, .int (Ii a1)), (3, .int (Ii a3)), (4, .int (Ii v4)), (5, .int (Ii v5))] [] (rc (v4, v5, M6)))
      (by intro v4 v5 M6 hv4 hv5; exact go_none)
      (by
      intro rc6_7 hrc6_7 v4 v5 M6 hv4 hv5
      unfold f_X12_hasLetter_L6_21
      dsimp only
      refine go_iload X dX12_hasLetter_6 4 rfl ?_
      refine go_iload_n X dX12_hasLetter_8 rfl 2 rfl ?_
      refine go_icmp_ge (tgt := 44) X dX12_hasLetter_9 rfl hv5 ha3 (fun c8 => ?_) (fun c8 => ?_)
      · refine go_sub [3] rfl ?_
        exact hJ44_3 v4 M6 hv4
      · refine go_iload X dX12_hasLetter_12 3 rfl ?_
        refine go_lt (fun J => ∀ (v9 : Int) (v10 : Int) (M11 : Mm), i32 v9 → bo v10 → Go p l e (rmO 0 0) s m args below meth c D TR 67 base 6 0 0 (FinI D TR 67 base below args s bo) M11 36 [(0, .ref (base + 0)), (1, .int (Ii a1)), (3, .int (Ii a3)), (5, .int (Ii v9))] [.int (Ii v10)] (J v9 v10 M11)) (by
            intro v9 v10 M11 hv9 hv10
            refine go_istore (i := 4) (L' := [(4, .int (Ii v10)), (0, .ref (base + 0)), (1, .int (Ii a1)), (3, .int (Ii a3)), (5, .int (Ii v9))]) X dX12_hasLetter_36 (by decide) rfl ?_
            refine go_iinc (i := 5) (L' := fun v => [(5, .int (Ii v)), (4, .int (Ii v10)), (0, .ref (base + 0)), (1, .int (Ii a1)), (3, .int (Ii a3))]) X dX12_hasLetter_38 hv9 kI_1 (j := 4) rfl (by decide) (fun _ => rfl) (fun v13 hv13 => ?_)
            refine go_goto (tgt := 6) X dX12_hasLetter_41 rfl ?_
            refine go_sub [2, 3, 4, 1, 0] rfl ?_
            exact hrc6_7 v10 v13 M11 hv10 hv13
            )
            (fun J36_12 hJ36_12 => ?_)
        refine go_lt (fun J => ∀ (v14 : Int) (M15 : Mm), i32 v14 → Go p l e (rmO 0 0) s m args below meth c D TR 67 base 6 0 0 (FinI D TR 67 base below args s bo) M15 31 [(0, .ref (base + 0)), (1, .int (Ii a1)), (3, .int (Ii a3)), (5, .int (Ii v14))] [] (J v14 M15)) (by
            intro v14 M15 hv14
            refine go_iconst (v := 1) X dX12_hasLetter_31 rfl ?_
            refine go_goto (tgt := 36) X dX12_hasLetter_32 rfl ?_
            exact hJ36_12 v14 1 M15 hv14 (Or.inr rfl)
            )
            (fun J31_16 hJ31_16 => ?_)
        refine go_if_ne (tgt := 31) X dX12_hasLetter_14 rfl (bo_i32 hv4) (fun c17 => ?_) (fun c17 => ?_)
        · refine go_sub [0, 1, 2, 4] rfl ?_
          exact hJ31_16 v5 M6 hv5
        · refine go_aload_n X dX12_hasLetter_17 rfl 0 rfl ?_
          refine go_getc (i := 34) X fc12 dX12_hasLetter_18 trn0 tr0 (Nat.le_of_ble_eq_true rfl) rfl lw894 rfl ?_
          refine go_iload X dX12_hasLetter_21 4 rfl ?_
          refine go_iaload X dX12_hasLetter_23 trn29 tr29 hv5 (fun v18 hv18 => ?_)
          refine go_iload_n X dX12_hasLetter_24 rfl 1 rfl ?_
          refine go_bipush (v := 93) X dX12_hasLetter_25 (by decide) ?_
          refine go_iadd X dX12_hasLetter_27 ha1 kI_93 (fun v19 hv19 => ?_)
          refine go_icmp_ne (tgt := 35) X dX12_hasLetter_28 rfl hv18 hv19 (fun c20 => ?_) (fun c20 => ?_)
          · refine go_iconst (v := 0) X dX12_hasLetter_35 rfl ?_
            refine go_sub [0, 1, 2, 4] rfl ?_
            exact hJ36_12 v5 0 M6 hv5 (Or.inl rfl)
          · refine go_sub [0, 1, 2, 4] rfl ?_
            exact hJ31_16 v5 M6 hv5
      )
      FU 0 a2 M (Or.inl rfl) ha2
def f_X12_costOf (a1 : Int) (a2 : Int) (a3 : Int) (M : Mm) : Rs :=
if 4 ≤ a1 then (
Lt (wr (a3 - a2)) fun v2 =>
Cl (f_X12_hasLetter a1 a2 a3 M) fun v4 M3 =>
Lt (fun (v5 : Int) (M6 : Mm) => 
Lt (wr (v2 + v5)) fun v8 =>
some (v8, M6)) fun J35_7 =>
if v4 = 0 then (
J35_7 1 M3) else (
J35_7 ((-1)) M3)) else (
Cl (f_X12_stretch a1 a2 a3 M) fun v11 M10 =>
gd (0 ≤ v11 ∧ v11 < 676) <|
Lt (M10 43 v11.toNat) fun v12 =>
some (v12, M10))
theorem cy_X12_costOf : yX12_costOf.cls ≠ "java/lang/invoke/MethodHandle" ∧ yX12_costOf.cls ≠ "java/lang/invoke/VarHandle" ∧ (parseMethodDescriptor yX12_costOf.desc).map (fun d => d.parameters.length) = some 3 := ⟨by decide +kernel, by decide +kernel, by decide +kernel⟩
set_option maxRecDepth 20000 in
theorem ok_X12_costOf (l : Launch) (D : Dd) (base : Nat) (M : Mm) (a1 : Int) (ha1 : i32 a1) (a2 : Int) (ha2 : i32 a2) (a3 : Int) (ha3 : i32 a3) : OkI l D TR 67 base yX12_costOf cX12_costOf 4 (some .int) 1 25 [.ref (base + 0), .int (Ii a1), .int (Ii a2), .int (Ii a3)] M i32 (f_X12_costOf a1 a2 a3 M) := by
  refine metI (by decide +kernel) [(0, .ref (base + 0)), (1, .int (Ii a1)), (2, .int (Ii a2)), (3, .int (Ii a3))] rfl (Nat.le_of_ble_eq_true rfl) (fun p e s m args below meth c X hrt hlk => ?_)
  have X : Cx p s m args c cX12_costOf D 4 RX12 := X
  unfold f_X12_costOf
  refine go_iload_n X dX12_costOf_0 rfl 1 rfl ?_
  refine go_iconst (v := 4) X dX12_costOf_1 rfl ?_
  refine go_icmp_ge (tgt := 17) X dX12_costOf_2 rfl ha1 kI_4 (fun c1 => ?_) (fun c1 => ?_)
  · refine go_iload_n X dX12_costOf_17 rfl 3 rfl ?_
    refine go_iload_n X dX12_costOf_18 rfl 2 rfl ?_
    refine go_isub X dX12_costOf_19 ha3 ha2 (fun v2 hv2 => ?_)
    refine go_aload_n X dX12_costOf_20 rfl 0 rfl ?_
    refine go_iload_n X dX12_costOf_21 rfl 1 rfl ?_
    refine go_iload_n X dX12_costOf_22 rfl 2 rfl ?_
    refine go_iload_n X dX12_costOf_23 rfl 3 rfl ?_
    refine goI (fun H locs ls r ho hW hL => runV X (ok_X12_hasLetter l D base M a1 ha1 a2 ha2 a3 ha3 H.size r ho) dX12_costOf_24 lw1045 lw1046 lw1047 lw944 ⟨lw1041, cy_X12_hasLetter, Nat.le_of_ble_eq_true rfl, Nat.le_of_ble_eq_true rfl⟩ rfl trn0 tr0 rfl rfl rfl rfl (Nat.le_of_ble_eq_true rfl) hW hL hk0) (fun v4 M3 hv4 => ?_)
    refine go_lt (fun J => ∀ (v5 : Int) (M6 : Mm), i32 v5 → Go p l e (rmO 1 25) s m args below meth c D TR 67 base 4 0 0 (FinI D TR 67 base below args s i32) M6 35 [] [.int (Ii v5), .int (Ii v2)] (J v5 M6)) (by
        intro v5 M6 hv5
        refine go_iadd X dX12_costOf_35 hv2 hv5 (fun v8 hv8 => ?_)
        exact go_ireturn X hrt hlk dX12_costOf_36 hv8
        )
        (fun J35_7 hJ35_7 => ?_)
    refine go_if_eq (tgt := 34) X dX12_costOf_27 rfl (bo_i32 hv4) (fun c9 => ?_) (fun c9 => ?_)
    · refine go_iconst (v := 1) X dX12_costOf_34 rfl ?_
      refine go_sub [] rfl ?_
      exact hJ35_7 1 M3 kI_1
    · refine go_iconst (v := (-1)) X dX12_costOf_30 rfl ?_
      refine go_goto (tgt := 35) X dX12_costOf_31 rfl ?_
      refine go_sub [] rfl ?_
      exact hJ35_7 ((-1)) M3 kI_m1
  · refine go_aload_n X dX12_costOf_5 rfl 0 rfl ?_
    refine go_getc (i := 51) X fc12 dX12_costOf_6 trn0 tr0 (Nat.le_of_ble_eq_true rfl) rfl lw909 rfl ?_
    refine go_iload_n X dX12_costOf_9 rfl 1 rfl ?_
    refine go_iload_n X dX12_costOf_10 rfl 2 rfl ?_
    refine go_iload_n X dX12_costOf_11 rfl 3 rfl ?_
    refine goI (fun H locs ls r ho hW hL => runS X (ok_X12_stretch l D base M a1 ha1 a2 ha2 a3 ha3 H.size r ho) dX12_costOf_12 lw1043 lw1044 lw944 ⟨lw1040, cy_X12_stretch, Nat.le_of_ble_eq_true rfl, Nat.le_of_ble_eq_true rfl⟩ rfl rfl (Nat.le_of_ble_eq_true rfl) hW hL hk0) (fun v11 M10 hv11 => ?_)
    refine go_iaload X dX12_costOf_15 trn43 tr43 hv11 (fun v12 hv12 => ?_)
    exact go_ireturn X hrt hlk dX12_costOf_16 hv12
def f_X12_nodesOf (a1 : Int) (a2 : Int) (a3 : Int) (M : Mm) : Rs :=
Lt (fun (v1 : Int) (M2 : Mm) => 
some (v1, M2)) fun J20_3 =>
if 4 ≤ a1 then (
J20_3 0 M) else (
Cl (f_X12_stretch a1 a2 a3 M) fun v6 M5 =>
gd (0 ≤ v6 ∧ v6 < 676) <|
Lt (M5 44 v6.toNat) fun v7 =>
J20_3 v7 M5)
theorem cy_X12_nodesOf : yX12_nodesOf.cls ≠ "java/lang/invoke/MethodHandle" ∧ yX12_nodesOf.cls ≠ "java/lang/invoke/VarHandle" ∧ (parseMethodDescriptor yX12_nodesOf.desc).map (fun d => d.parameters.length) = some 3 := ⟨by decide +kernel, by decide +kernel, by decide +kernel⟩
set_option maxRecDepth 20000 in
theorem ok_X12_nodesOf (l : Launch) (D : Dd) (base : Nat) (M : Mm) (a1 : Int) (ha1 : i32 a1) (a2 : Int) (ha2 : i32 a2) (a3 : Int) (ha3 : i32 a3) : OkI l D TR 67 base yX12_nodesOf cX12_nodesOf 4 (some .int) 1 22 [.ref (base + 0), .int (Ii a1), .int (Ii a2), .int (Ii a3)] M i32 (f_X12_nodesOf a1 a2 a3 M) := by
  refine metI (by decide +kernel) [(0, .ref (base + 0)), (1, .int (Ii a1)), (2, .int (Ii a2)), (3, .int (Ii a3))] rfl (Nat.le_of_ble_eq_true rfl) (fun p e s m args below meth c X hrt hlk => ?_)
  have X : Cx p s m args c cX12_nodesOf D 4 RX12 := X
  unfold f_X12_nodesOf
  refine go_iload_n X dX12_nodesOf_0 rfl 1 rfl ?_
  refine go_iconst (v := 4) X dX12_nodesOf_1 rfl ?_
  refine go_lt (fun J => ∀ (v1 : Int) (M2 : Mm), i32 v1 → Go p l e (rmO 1 22) s m args below meth c D TR 67 base 4 0 0 (FinI D TR 67 base below args s i32) M2 20 [] [.int (Ii v1)] (J v1 M2)) (by
      intro v1 M2 hv1
      exact go_ireturn X hrt hlk dX12_nodesOf_20 hv1
      )
      (fun J20_3 hJ20_3 => ?_)
  refine go_icmp_ge (tgt := 19) X dX12_nodesOf_2 rfl ha1 kI_4 (fun c4 => ?_) (fun c4 => ?_)
  · refine go_iconst (v := 0) X dX12_nodesOf_19 rfl ?_
    refine go_sub [] rfl ?_
    exact hJ20_3 0 M kI_0
  · refine go_aload_n X dX12_nodesOf_5 rfl 0 rfl ?_
    refine go_getc (i := 52) X fc12 dX12_nodesOf_6 trn0 tr0 (Nat.le_of_ble_eq_true rfl) rfl lw910 rfl ?_
    refine go_iload_n X dX12_nodesOf_9 rfl 1 rfl ?_
    refine go_iload_n X dX12_nodesOf_10 rfl 2 rfl ?_
    refine go_iload_n X dX12_nodesOf_11 rfl 3 rfl ?_
    refine goI (fun H locs ls r ho hW hL => runS X (ok_X12_stretch l D base M a1 ha1 a2 ha2 a3 ha3 H.size r ho) dX12_nodesOf_12 lw1043 lw1044 lw944 ⟨lw1040, cy_X12_stretch, Nat.le_of_ble_eq_true rfl, Nat.le_of_ble_eq_true rfl⟩ rfl rfl (Nat.le_of_ble_eq_true rfl) hW hL hk0) (fun v6 M5 hv6 => ?_)
    refine go_iaload X dX12_nodesOf_15 trn44 tr44 hv6 (fun v7 hv7 => ?_)
    refine go_goto (tgt := 20) X dX12_nodesOf_16 rfl ?_
    refine go_sub [] rfl ?_
    exact hJ20_3 v7 M5 hv7
def f_X12_weight (a1 : Int) (a2 : Int) (a3 : Int) (a4 : Int) (a5 : Int) (M : Mm) : Rs :=
Lt (wr (3 * a1)) fun v1 =>
gd (0 ≤ a1 ∧ a1 < 10) <|
Lt (M 2 a1.toNat) fun v2 =>
if ¬ v2 = 0 then (
Lt (fun (v4 : Int) (M5 : Mm) => 
Lt (fun (v7 : Int) (M8 : Mm) => 
gd (0 ≤ v1 ∧ v1 < 30) <|
Lt (M8 3 v1.toNat) fun v10 =>
Cl (f_X12_costOf v10 a2 v4 M8) fun v12 M11 =>
Lt (fun (v13 : Int) (M14 : Mm) => 
Lt (wr (v12 + v13)) fun v16 =>
Lt (fun (v17 : Int) (M18 : Mm) => 
Lt (wr (v16 + v17)) fun v20 =>
gd (0 ≤ v1 ∧ v1 < 30) <|
Lt (M18 3 v1.toNat) fun v21 =>
Cl (f_X12_nodesOf v21 a2 v4 M18) fun v23 M22 =>
Lt (wr (1 + v23)) fun v24 =>
Lt (fun (v25 : Int) (M26 : Mm) => 
Lt (wr (v24 + v25)) fun v28 =>
Lt (fun (v29 : Int) (M30 : Mm) => 
Lt (wr (v28 + v29)) fun v32 =>
Lt (fun (v33 : Int) (M34 : Mm) => 
some (v33, M34)) fun J227_35 =>
if v20 < 99999 then (
Lt (wr (10000 * v20)) fun v37 =>
Lt (wr (v37 + v32)) fun v38 =>
J227_35 v38 M30) else (
J227_35 999990000 M30)) fun J201_31 =>
if v2 ≤ 2 then (
J201_31 0 M26) else (
Lt (wr (v1 + 2)) fun v40 =>
gd (0 ≤ v40 ∧ v40 < 30) <|
Lt (M26 3 v40.toNat) fun v41 =>
Cl (f_X12_nodesOf v41 v7 a5 M26) fun v43 M42 =>
J201_31 v43 M42)) fun J173_27 =>
if v2 ≤ 1 then (
J173_27 0 M22) else (
Lt (wr (v1 + 1)) fun v45 =>
gd (0 ≤ v45 ∧ v45 < 30) <|
Lt (M22 3 v45.toNat) fun v46 =>
Cl (f_X12_nodesOf v46 v4 v7 M22) fun v48 M47 =>
J173_27 v48 M47)) fun J127_19 =>
if v2 ≤ 2 then (
J127_19 0 M14) else (
Lt (wr (v1 + 2)) fun v50 =>
gd (0 ≤ v50 ∧ v50 < 30) <|
Lt (M14 3 v50.toNat) fun v51 =>
Cl (f_X12_costOf v51 v7 a5 M14) fun v53 M52 =>
J127_19 v53 M52)) fun J99_15 =>
if v2 ≤ 1 then (
J99_15 0 M11) else (
Lt (wr (v1 + 1)) fun v55 =>
gd (0 ≤ v55 ∧ v55 < 30) <|
Lt (M11 3 v55.toNat) fun v56 =>
Cl (f_X12_costOf v56 v4 v7 M11) fun v58 M57 =>
J99_15 v58 M57)) fun J56_9 =>
if 3 ≤ v2 then (
J56_9 a4 M5) else (
J56_9 a5 M5)) fun J41_6 =>
if ¬ v2 = 1 then (
J41_6 a3 M) else (
J41_6 a5 M)) else (
Lt (wr (a5 - a2)) fun v61 =>
Lt (wr (10000 * v61)) fun v62 =>
Lt (wr (v62 + 1)) fun v63 =>
some (v63, M))
theorem cy_X12_weight : yX12_weight.cls ≠ "java/lang/invoke/MethodHandle" ∧ yX12_weight.cls ≠ "java/lang/invoke/VarHandle" ∧ (parseMethodDescriptor yX12_weight.desc).map (fun d => d.parameters.length) = some 5 := ⟨by decide +kernel, by decide +kernel, by decide +kernel⟩
set_option maxRecDepth 20000 in
theorem ok_X12_weight (l : Launch) (D : Dd) (base : Nat) (M : Mm) (a1 : Int) (ha1 : i32 a1) (a2 : Int) (ha2 : i32 a2) (a3 : Int) (ha3 : i32 a3) (a4 : Int) (ha4 : i32 a4) (a5 : Int) (ha5 : i32 a5) : OkI l D TR 67 base yX12_weight cX12_weight 12 (some .int) 2 48 [.ref (base + 0), .int (Ii a1), .int (Ii a2), .int (Ii a3), .int (Ii a4), .int (Ii a5)] M i32 (f_X12_weight a1 a2 a3 a4 a5 M) := by
  refine metI (by decide +kernel) [(0, .ref (base + 0)), (1, .int (Ii a1)), (2, .int (Ii a2)), (3, .int (Ii a3)), (4, .int (Ii a4)), (5, .int (Ii a5))] rfl (Nat.le_of_ble_eq_true rfl) (fun p e s m args below meth c X hrt hlk => ?_)
  have X : Cx p s m args c cX12_weight D 12 RX12 := X
  unfold f_X12_weight
  refine go_iconst (v := 3) X dX12_weight_0 rfl ?_
  refine go_iload_n X dX12_weight_1 rfl 1 rfl ?_
  refine go_imul X dX12_weight_2 kI_3 ha1 (fun v1 hv1 => ?_)
  refine go_istore (i := 6) (L' := [(6, .int (Ii v1)), (0, .ref (base + 0)), (1, .int (Ii a1)), (2, .int (Ii a2)), (3, .int (Ii a3)), (4, .int (Ii a4)), (5, .int (Ii a5))]) X dX12_weight_3 (by decide) rfl ?_
  refine go_aload_n X dX12_weight_5 rfl 1 rfl ?_
  refine go_getc (i := 2) X fc12 dX12_weight_6 trn0 tr0 (Nat.le_of_ble_eq_true rfl) rfl lw867 rfl ?_
  refine go_iload_n X dX12_weight_9 rfl 2 rfl ?_
  refine go_iaload X dX12_weight_10 trn2 tr2 ha1 (fun v2 hv2 => ?_)
  refine go_istore (i := 7) (L' := [(7, .int (Ii v2)), (6, .int (Ii v1)), (0, .ref (base + 0)), (1, .int (Ii a1)), (2, .int (Ii a2)), (3, .int (Ii a3)), (4, .int (Ii a4)), (5, .int (Ii a5))]) X dX12_weight_11 (by decide) rfl ?_
  refine go_iload X dX12_weight_13 0 rfl ?_
  refine go_if_ne (tgt := 29) X dX12_weight_15 rfl hv2 (fun c3 => ?_) (fun c3 => ?_)
  · refine go_iload X dX12_weight_29 0 rfl ?_
    refine go_iconst (v := 1) X dX12_weight_31 rfl ?_
    refine go_lt (fun J => ∀ (v4 : Int) (M5 : Mm), i32 v4 → Go p l e (rmO 2 48) s m args below meth c D TR 67 base 12 0 0 (FinI D TR 67 base below args s i32) M5 41 [(0, .ref (base + 0)), (2, .int (Ii a2)), (4, .int (Ii a4)), (5, .int (Ii a5)), (6, .int (Ii v1)), (7, .int (Ii v2))] [.int (Ii v4)] (J v4 M5)) (by
        intro v4 M5 hv4
        refine go_istore (i := 8) (L' := [(8, .int (Ii v4)), (0, .ref (base + 0)), (2, .int (Ii a2)), (4, .int (Ii a4)), (5, .int (Ii a5)), (6, .int (Ii v1)), (7, .int (Ii v2))]) X dX12_weight_41 (by decide) rfl ?_
        refine go_iload X dX12_weight_43 6 rfl ?_
        refine go_iconst (v := 3) X dX12_weight_45 rfl ?_
        refine go_lt (fun J => ∀ (v7 : Int) (M8 : Mm), i32 v7 → Go p l e (rmO 2 48) s m args below meth c D TR 67 base 12 0 0 (FinI D TR 67 base below args s i32) M8 56 [(0, .ref (base + 0)), (2, .int (Ii a2)), (5, .int (Ii a5)), (6, .int (Ii v1)), (7, .int (Ii v2)), (8, .int (Ii v4))] [.int (Ii v7)] (J v7 M8)) (by
            intro v7 M8 hv7
            refine go_istore (i := 9) (L' := [(9, .int (Ii v7)), (0, .ref (base + 0)), (2, .int (Ii a2)), (5, .int (Ii a5)), (6, .int (Ii v1)), (7, .int (Ii v2)), (8, .int (Ii v4))]) X dX12_weight_56 (by decide) rfl ?_
            refine go_aload_n X dX12_weight_58 rfl 1 rfl ?_
            refine go_aload_n X dX12_weight_59 rfl 1 rfl ?_
            refine go_getc (i := 3) X fc12 dX12_weight_60 trn0 tr0 (Nat.le_of_ble_eq_true rfl) rfl lw868 rfl ?_
            refine go_iload X dX12_weight_63 4 rfl ?_
            refine go_iaload X dX12_weight_65 trn3 tr3 hv1 (fun v10 hv10 => ?_)
            refine go_iload_n X dX12_weight_66 rfl 2 rfl ?_
            refine go_iload X dX12_weight_67 6 rfl ?_
            refine goI (fun H locs ls r ho hW hL => runV X (ok_X12_costOf l D base M8 v10 hv10 a2 ha2 v4 hv4 H.size r ho) dX12_weight_69 lw1051 lw1052 lw1053 lw944 ⟨lw1042, cy_X12_costOf, Nat.le_of_ble_eq_true rfl, Nat.le_of_ble_eq_true rfl⟩ rfl trn0 tr0 rfl rfl rfl rfl (Nat.le_of_ble_eq_true rfl) hW hL hk0) (fun v12 M11 hv12 => ?_)
            refine go_iload X dX12_weight_72 5 rfl ?_
            refine go_iconst (v := 1) X dX12_weight_74 rfl ?_
            refine go_lt (fun J => ∀ (v13 : Int) (M14 : Mm), i32 v13 → Go p l e (rmO 2 48) s m args below meth c D TR 67 base 12 0 0 (FinI D TR 67 base below args s i32) M14 99 [(0, .ref (base + 0)), (2, .int (Ii a2)), (5, .int (Ii a5)), (6, .int (Ii v1)), (7, .int (Ii v2)), (8, .int (Ii v4)), (9, .int (Ii v7))] [.int (Ii v13), .int (Ii v12)] (J v13 M14)) (by
                intro v13 M14 hv13
                refine go_iadd X dX12_weight_99 hv12 hv13 (fun v16 hv16 => ?_)
                refine go_iload X dX12_weight_100 4 rfl ?_
                refine go_iconst (v := 2) X dX12_weight_102 rfl ?_
                refine go_lt (fun J => ∀ (v17 : Int) (M18 : Mm), i32 v17 → Go p l e (rmO 2 48) s m args below meth c D TR 67 base 12 0 0 (FinI D TR 67 base below args s i32) M18 127 [(0, .ref (base + 0)), (2, .int (Ii a2)), (5, .int (Ii a5)), (6, .int (Ii v1)), (7, .int (Ii v2)), (8, .int (Ii v4)), (9, .int (Ii v7))] [.int (Ii v17), .int (Ii v16)] (J v17 M18)) (by
                    intro v17 M18 hv17
                    refine go_iadd X dX12_weight_127 hv16 hv17 (fun v20 hv20 => ?_)
                    refine go_istore (i := 10) (L' := [(10, .int (Ii v20)), (0, .ref (base + 0)), (2, .int (Ii a2)), (5, .int (Ii a5)), (6, .int (Ii v1)), (7, .int (Ii v2)), (8, .int (Ii v4)), (9, .int (Ii v7))]) X dX12_weight_128 (by decide) rfl ?_
                    refine go_iconst (v := 1) X dX12_weight_130 rfl ?_
                    refine go_aload_n X dX12_weight_131 rfl 1 rfl ?_
                    refine go_aload_n X dX12_weight_132 rfl 1 rfl ?_
                    refine go_getc (i := 3) X fc12 dX12_weight_133 trn0 tr0 (Nat.le_of_ble_eq_true rfl) rfl lw868 rfl ?_
                    refine go_iload X dX12_weight_136 4 rfl ?_
                    refine go_iaload X dX12_weight_138 trn3 tr3 hv1 (fun v21 hv21 => ?_)
                    refine go_iload_n X dX12_weight_139 rfl 2 rfl ?_
                    refine go_iload X dX12_weight_140 6 rfl ?_
                    refine goI (fun H locs ls r ho hW hL => runV X (ok_X12_nodesOf l D base M18 v21 hv21 a2 ha2 v4 hv4 H.size r ho) dX12_weight_142 lw1054 lw1055 lw1056 lw944 ⟨lw1048, cy_X12_nodesOf, Nat.le_of_ble_eq_true rfl, Nat.le_of_ble_eq_true rfl⟩ rfl trn0 tr0 rfl rfl rfl rfl (Nat.le_of_ble_eq_true rfl) hW hL hk0) (fun v23 M22 hv23 => ?_)
                    refine go_iadd X dX12_weight_145 kI_1 hv23 (fun v24 hv24 => ?_)
                    refine go_iload X dX12_weight_146 5 rfl ?_
                    refine go_iconst (v := 1) X dX12_weight_148 rfl ?_
                    refine go_lt (fun J => ∀ (v25 : Int) (M26 : Mm), i32 v25 → Go p l e (rmO 2 48) s m args below meth c D TR 67 base 12 0 0 (FinI D TR 67 base below args s i32) M26 173 [(0, .ref (base + 0)), (5, .int (Ii a5)), (6, .int (Ii v1)), (7, .int (Ii v2)), (9, .int (Ii v7)), (10, .int (Ii v20))] [.int (Ii v25), .int (Ii v24)] (J v25 M26)) (by
                        intro v25 M26 hv25
                        refine go_iadd X dX12_weight_173 hv24 hv25 (fun v28 hv28 => ?_)
                        refine go_iload X dX12_weight_174 3 rfl ?_
                        refine go_iconst (v := 2) X dX12_weight_176 rfl ?_
                        refine go_lt (fun J => ∀ (v29 : Int) (M30 : Mm), i32 v29 → Go p l e (rmO 2 48) s m args below meth c D TR 67 base 12 0 0 (FinI D TR 67 base below args s i32) M30 201 [(10, .int (Ii v20))] [.int (Ii v29), .int (Ii v28)] (J v29 M30)) (by
                            intro v29 M30 hv29
                            refine go_iadd X dX12_weight_201 hv28 hv29 (fun v32 hv32 => ?_)
                            refine go_istore (i := 11) (L' := [(11, .int (Ii v32)), (10, .int (Ii v20))]) X dX12_weight_202 (by decide) rfl ?_
                            refine go_iload X dX12_weight_204 1 rfl ?_
                            refine go_ldcw (v := 99999) X dX12_weight_206 lw1002 rfl ?_
                            refine go_lt (fun J => ∀ (v33 : Int) (M34 : Mm), i32 v33 → Go p l e (rmO 2 48) s m args below meth c D TR 67 base 12 0 0 (FinI D TR 67 base below args s i32) M34 227 [] [.int (Ii v33)] (J v33 M34)) (by
                                intro v33 M34 hv33
                                exact go_ireturn X hrt hlk dX12_weight_227 hv33
                                )
                                (fun J227_35 hJ227_35 => ?_)
                            refine go_icmp_lt (tgt := 218) X dX12_weight_209 rfl hv20 kI_99999 (fun c36 => ?_) (fun c36 => ?_)
                            · refine go_sipush (v := 10000) X dX12_weight_218 (by decide) ?_
                              refine go_iload X dX12_weight_221 1 rfl ?_
                              refine go_imul X dX12_weight_223 kI_10000 hv20 (fun v37 hv37 => ?_)
                              refine go_iload X dX12_weight_224 0 rfl ?_
                              refine go_iadd X dX12_weight_226 hv37 hv32 (fun v38 hv38 => ?_)
                              refine go_sub [] rfl ?_
                              exact hJ227_35 v38 M30 hv38
                            · refine go_ldcw (v := 999990000) X dX12_weight_212 lw1050 rfl ?_
                              refine go_goto (tgt := 227) X dX12_weight_215 rfl ?_
                              refine go_sub [] rfl ?_
                              exact hJ227_35 999990000 M30 kI_999990000
                            )
                            (fun J201_31 hJ201_31 => ?_)
                        refine go_icmp_le (tgt := 200) X dX12_weight_177 rfl hv2 kI_2 (fun c39 => ?_) (fun c39 => ?_)
                        · refine go_iconst (v := 0) X dX12_weight_200 rfl ?_
                          refine go_sub [5] rfl ?_
                          exact hJ201_31 0 M26 kI_0
                        · refine go_aload_n X dX12_weight_180 rfl 0 rfl ?_
                          refine go_aload_n X dX12_weight_181 rfl 0 rfl ?_
                          refine go_getc (i := 3) X fc12 dX12_weight_182 trn0 tr0 (Nat.le_of_ble_eq_true rfl) rfl lw868 rfl ?_
                          refine go_iload X dX12_weight_185 2 rfl ?_
                          refine go_iconst (v := 2) X dX12_weight_187 rfl ?_
                          refine go_iadd X dX12_weight_188 hv1 kI_2 (fun v40 hv40 => ?_)
                          refine go_iaload X dX12_weight_189 trn3 tr3 hv40 (fun v41 hv41 => ?_)
                          refine go_iload X dX12_weight_190 4 rfl ?_
                          refine go_iload X dX12_weight_192 1 rfl ?_
                          refine goI (fun H locs ls r ho hW hL => runV X (ok_X12_nodesOf l D base M26 v41 hv41 v7 hv7 a5 ha5 H.size r ho) dX12_weight_194 lw1054 lw1055 lw1056 lw944 ⟨lw1048, cy_X12_nodesOf, Nat.le_of_ble_eq_true rfl, Nat.le_of_ble_eq_true rfl⟩ rfl trn0 tr0 rfl rfl rfl rfl (Nat.le_of_ble_eq_true rfl) hW hL hk0) (fun v43 M42 hv43 => ?_)
                          refine go_goto (tgt := 201) X dX12_weight_197 rfl ?_
                          refine go_sub [5] rfl ?_
                          exact hJ201_31 v43 M42 hv43
                        )
                        (fun J173_27 hJ173_27 => ?_)
                    refine go_icmp_le (tgt := 172) X dX12_weight_149 rfl hv2 kI_1 (fun c44 => ?_) (fun c44 => ?_)
                    · refine go_iconst (v := 0) X dX12_weight_172 rfl ?_
                      refine go_sub [1, 3, 4, 5, 7, 0] rfl ?_
                      exact hJ173_27 0 M22 kI_0
                    · refine go_aload_n X dX12_weight_152 rfl 1 rfl ?_
                      refine go_aload_n X dX12_weight_153 rfl 1 rfl ?_
                      refine go_getc (i := 3) X fc12 dX12_weight_154 trn0 tr0 (Nat.le_of_ble_eq_true rfl) rfl lw868 rfl ?_
                      refine go_iload X dX12_weight_157 4 rfl ?_
                      refine go_iconst (v := 1) X dX12_weight_159 rfl ?_
                      refine go_iadd X dX12_weight_160 hv1 kI_1 (fun v45 hv45 => ?_)
                      refine go_iaload X dX12_weight_161 trn3 tr3 hv45 (fun v46 hv46 => ?_)
                      refine go_iload X dX12_weight_162 6 rfl ?_
                      refine go_iload X dX12_weight_164 7 rfl ?_
                      refine goI (fun H locs ls r ho hW hL => runV X (ok_X12_nodesOf l D base M22 v46 hv46 v4 hv4 v7 hv7 H.size r ho) dX12_weight_166 lw1054 lw1055 lw1056 lw944 ⟨lw1048, cy_X12_nodesOf, Nat.le_of_ble_eq_true rfl, Nat.le_of_ble_eq_true rfl⟩ rfl trn0 tr0 rfl rfl rfl rfl (Nat.le_of_ble_eq_true rfl) hW hL hk0) (fun v48 M47 hv48 => ?_)
                      refine go_goto (tgt := 173) X dX12_weight_169 rfl ?_
                      refine go_sub [1, 3, 4, 5, 7, 0] rfl ?_
                      exact hJ173_27 v48 M47 hv48
                    )
                    (fun J127_19 hJ127_19 => ?_)
                refine go_icmp_le (tgt := 126) X dX12_weight_103 rfl hv2 kI_2 (fun c49 => ?_) (fun c49 => ?_)
                · refine go_iconst (v := 0) X dX12_weight_126 rfl ?_
                  exact hJ127_19 0 M14 kI_0
                · refine go_aload_n X dX12_weight_106 rfl 0 rfl ?_
                  refine go_aload_n X dX12_weight_107 rfl 0 rfl ?_
                  refine go_getc (i := 3) X fc12 dX12_weight_108 trn0 tr0 (Nat.le_of_ble_eq_true rfl) rfl lw868 rfl ?_
                  refine go_iload X dX12_weight_111 3 rfl ?_
                  refine go_iconst (v := 2) X dX12_weight_113 rfl ?_
                  refine go_iadd X dX12_weight_114 hv1 kI_2 (fun v50 hv50 => ?_)
                  refine go_iaload X dX12_weight_115 trn3 tr3 hv50 (fun v51 hv51 => ?_)
                  refine go_iload X dX12_weight_116 6 rfl ?_
                  refine go_iload X dX12_weight_118 2 rfl ?_
                  refine goI (fun H locs ls r ho hW hL => runV X (ok_X12_costOf l D base M14 v51 hv51 v7 hv7 a5 ha5 H.size r ho) dX12_weight_120 lw1051 lw1052 lw1053 lw944 ⟨lw1042, cy_X12_costOf, Nat.le_of_ble_eq_true rfl, Nat.le_of_ble_eq_true rfl⟩ rfl trn0 tr0 rfl rfl rfl rfl (Nat.le_of_ble_eq_true rfl) hW hL hk0) (fun v53 M52 hv53 => ?_)
                  refine go_goto (tgt := 127) X dX12_weight_123 rfl ?_
                  exact hJ127_19 v53 M52 hv53
                )
                (fun J99_15 hJ99_15 => ?_)
            refine go_icmp_le (tgt := 98) X dX12_weight_75 rfl hv2 kI_1 (fun c54 => ?_) (fun c54 => ?_)
            · refine go_iconst (v := 0) X dX12_weight_98 rfl ?_
              refine go_sub [1, 2, 3, 4, 5, 6, 0] rfl ?_
              exact hJ99_15 0 M11 kI_0
            · refine go_aload_n X dX12_weight_78 rfl 1 rfl ?_
              refine go_aload_n X dX12_weight_79 rfl 1 rfl ?_
              refine go_getc (i := 3) X fc12 dX12_weight_80 trn0 tr0 (Nat.le_of_ble_eq_true rfl) rfl lw868 rfl ?_
              refine go_iload X dX12_weight_83 4 rfl ?_
              refine go_iconst (v := 1) X dX12_weight_85 rfl ?_
              refine go_iadd X dX12_weight_86 hv1 kI_1 (fun v55 hv55 => ?_)
              refine go_iaload X dX12_weight_87 trn3 tr3 hv55 (fun v56 hv56 => ?_)
              refine go_iload X dX12_weight_88 6 rfl ?_
              refine go_iload X dX12_weight_90 0 rfl ?_
              refine goI (fun H locs ls r ho hW hL => runV X (ok_X12_costOf l D base M11 v56 hv56 v4 hv4 v7 hv7 H.size r ho) dX12_weight_92 lw1051 lw1052 lw1053 lw944 ⟨lw1042, cy_X12_costOf, Nat.le_of_ble_eq_true rfl, Nat.le_of_ble_eq_true rfl⟩ rfl trn0 tr0 rfl rfl rfl rfl (Nat.le_of_ble_eq_true rfl) hW hL hk0) (fun v58 M57 hv58 => ?_)
              refine go_goto (tgt := 99) X dX12_weight_95 rfl ?_
              refine go_sub [1, 2, 3, 4, 5, 6, 0] rfl ?_
              exact hJ99_15 v58 M57 hv58
            )
            (fun J56_9 hJ56_9 => ?_)
        refine go_icmp_ge (tgt := 54) X dX12_weight_46 rfl hv2 kI_3 (fun c59 => ?_) (fun c59 => ?_)
        · refine go_iload X dX12_weight_54 3 rfl ?_
          refine go_sub [1, 2, 4, 5, 6, 0] rfl ?_
          exact hJ56_9 a4 M5 ha4
        · refine go_iload X dX12_weight_49 4 rfl ?_
          refine go_goto (tgt := 56) X dX12_weight_51 rfl ?_
          refine go_sub [1, 2, 4, 5, 6, 0] rfl ?_
          exact hJ56_9 a5 M5 ha5
        )
        (fun J41_6 hJ41_6 => ?_)
    refine go_icmp_ne (tgt := 40) X dX12_weight_32 rfl hv2 kI_1 (fun c60 => ?_) (fun c60 => ?_)
    · refine go_iload_n X dX12_weight_40 rfl 5 rfl ?_
      refine go_sub [2, 4, 6, 7, 1, 0] rfl ?_
      exact hJ41_6 a3 M ha3
    · refine go_iload X dX12_weight_35 7 rfl ?_
      refine go_goto (tgt := 41) X dX12_weight_37 rfl ?_
      refine go_sub [2, 4, 6, 7, 1, 0] rfl ?_
      exact hJ41_6 a5 M ha5
  · refine go_sipush (v := 10000) X dX12_weight_18 (by decide) ?_
    refine go_iload X dX12_weight_21 7 rfl ?_
    refine go_iload_n X dX12_weight_23 rfl 4 rfl ?_
    refine go_isub X dX12_weight_24 ha5 ha2 (fun v61 hv61 => ?_)
    refine go_imul X dX12_weight_25 kI_10000 hv61 (fun v62 hv62 => ?_)
    refine go_iconst (v := 1) X dX12_weight_26 rfl ?_
    refine go_iadd X dX12_weight_27 hv62 kI_1 (fun v63 hv63 => ?_)
    exact go_ireturn X hrt hlk dX12_weight_28 hv63
