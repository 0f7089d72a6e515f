def f_X10_arrangeOne_L39_46 (a1 : Int) (v11 : Int) (J109_16 : Int → Int → Mm → Rs) (rc39_25 : Int × Int × Int × Int × Mm → Rs) : Int × Int × Int × Int × Mm → Rs := fun (v20, v21, v22, v23, M24) =>
Cl (f_X5_childCountOf v21 M24) fun v27 M26 =>
if v27 ≤ v23 then (
J109_16 v21 v22 M26) else (
Cl (f_X5_standInOf v20 v23 M26) fun v30 M29 =>
Lt (fun (v31 : Int) (v32 : Int) (v33 : Int) (v34 : Int) (v35 : Int) (M36 : Mm) => 
Lt (wr (v11 * 3)) fun v38 =>
Lt (wr (v38 + v34)) fun v39 =>
Cl (f_X11_setEntry 24 v39 v35 M36) fun _ M40 =>
Lt (wr (v34 + 1)) fun v41 =>
rc39_25 (v31, v32, v33, v41, M40)) fun J85_37 =>
if ¬ v22 = 0 then (
Lt (wr (v22 - 1)) fun v43 =>
Cl (f_X10_childAt a1 v43 v30 M29) fun v45 M44 =>
J85_37 v20 v21 v22 v23 v45 M44) else (
J85_37 v20 v21 v22 v23 v23 M29))
def f_X10_arrangeOne_L7_47 (a1 : Int) (J126_2 : Mm → Rs) (rc7_7 : Int × Int × Int × Mm → Rs) : Int × Int × Int × Mm → Rs := fun (v3, v4, v5, M6) =>
if 4 ≤ v5 then (
J126_2 M6) else (
if v4 = ((-1)) then (
J126_2 M6) else (
Lt (wr (a1 * 4)) fun v10 =>
Lt (wr (v10 + v5)) fun v11 =>
Cl (f_X11_setEntry 23 v11 v4 M6) fun _ M12 =>
Lt (fun (v13 : Int) (v14 : Int) (M15 : Mm) => 
Cl (f_X5_forwardOf v13 M15) fun v18 M17 =>
Lt (wr (v14 + 1)) fun v19 =>
rc7_7 (v13, v18, v19, M17)) fun J109_16 =>
Lp (f_X10_arrangeOne_L39_46 a1 v11 J109_16) FU (v3, v4, v5, 0, M12)))
def f_X10_arrangeOne (a1 : Int) (M : Mm) : Rs :=
Lt (fun (M1 : Mm) => 
some (0, M1)) fun J126_2 =>
Lp (f_X10_arrangeOne_L7_47 a1 J126_2) FU ((-1), a1, 0, M)
theorem cy_X10_arrangeOne : yX10_arrangeOne.cls ≠ "java/lang/invoke/MethodHandle" ∧ yX10_arrangeOne.cls ≠ "java/lang/invoke/VarHandle" ∧ (parseMethodDescriptor yX10_arrangeOne.desc).map (fun d => d.parameters.length) = some 1 := ⟨by decide +kernel, by decide +kernel, by decide +kernel⟩
set_option maxRecDepth 20000 in
theorem ok_X10_arrangeOne (l : Launch) (D : Dd) (base : Nat) (M : Mm) (a1 : Int) (ha1 : i32 a1) : OkV l D TC 681 base yX10_arrangeOne cX10_arrangeOne 9 none 2 44 [.ref (base + 22), .int (Ii a1)] M (f_X10_arrangeOne a1 M) := by
  refine metV (by decide +kernel) [(0, .ref (base + 22)), (1, .int (Ii a1))] rfl (Nat.le_of_ble_eq_true rfl) (fun p e s m args below meth c X hrt hlk => ?_)
  have X : Cx p s m args c cX10_arrangeOne D 9 RX10 := X
  unfold f_X10_arrangeOne
  refine go_iconst (v := (-1)) X dX10_arrangeOne_0 rfl ?_
  refine go_istore_n (i := 2) (L' := [(2, .int (Ii ((-1)))), (0, .ref (base + 22)), (1, .int (Ii a1))]) X dX10_arrangeOne_1 rfl (by decide) rfl ?_
  refine go_iload_n X dX10_arrangeOne_2 rfl 2 rfl ?_
  refine go_istore_n (i := 3) (L' := [(3, .int (Ii a1)), (2, .int (Ii ((-1)))), (0, .ref (base + 22)), (1, .int (Ii a1))]) X dX10_arrangeOne_3 rfl (by decide) rfl ?_
  refine go_iconst (v := 0) X dX10_arrangeOne_4 rfl ?_
  refine go_istore (i := 4) (L' := [(4, .int (Ii 0)), (3, .int (Ii a1)), (2, .int (Ii ((-1)))), (0, .ref (base + 22)), (1, .int (Ii a1))]) X dX10_arrangeOne_5 (by decide) rfl ?_
  refine go_lt (fun J => ∀ (M1 : Mm), Go p l e (rmO 2 44) s m args below meth c D TC 681 base 9 0 0 (FinV D TC 681 base below args s) M1 126 [] [] (J M1)) (by
      intro M1
      exact go_vreturn X hrt hlk dX10_arrangeOne_126
      )
      (fun J126_2 hJ126_2 => ?_)
  refine go_sub [3, 4, 2, 1, 0] rfl ?_
  exact go_lp (fun (rc : Int × Int × Int × Mm → Rs) => ∀ (v3 : Int) (v4 : Int) (v5 : Int) (M6 : Mm), i32 v3 → i32 v4 → i32 v5 → Go p l e (rmO 2 44) s m args below meth c D TC 681 base 9 0 0 (FinV D TC 681 base below args s) M6 7 [(0, .ref (base + 22)), (1, .int (Ii a1)), (2, .int (Ii v3)), (3, .int (Ii v4)), (4, .int (Ii v5))] [] (rc (v3, v4, v5, M6)))
      (by intro v3 v4 v5 M6 hv3 hv4 hv5; exact go_none)
      (by
      intro rc7_7 hrc7_7 v3 v4 v5 M6 hv3 hv4 hv5
      unfold f_X10_arrangeOne_L7_47
      dsimp only
      refine go_iload X dX10_arrangeOne_7 4 rfl ?_
      refine go_iconst (v := 4) X dX10_arrangeOne_9 rfl ?_
      refine go_icmp_ge (tgt := 126) X dX10_arrangeOne_10 rfl hv5 kI_4 (fun c8 => ?_) (fun c8 => ?_)
      · refine go_sub [] rfl ?_
        exact hJ126_2 M6
      · refine go_iload_n X dX10_arrangeOne_13 rfl 3 rfl ?_
        refine go_iconst (v := (-1)) X dX10_arrangeOne_14 rfl ?_
        refine go_icmp_eq (tgt := 126) X dX10_arrangeOne_15 rfl hv4 kI_m1 (fun c9 => ?_) (fun c9 => ?_)
        · refine go_sub [] rfl ?_
          exact hJ126_2 M6
        · refine go_iload_n X dX10_arrangeOne_18 rfl 1 rfl ?_
          refine go_iconst (v := 4) X dX10_arrangeOne_19 rfl ?_
          refine go_imul X dX10_arrangeOne_20 ha1 kI_4 (fun v10 hv10 => ?_)
          refine go_iload X dX10_arrangeOne_21 4 rfl ?_
          refine go_iadd X dX10_arrangeOne_23 hv10 hv5 (fun v11 hv11 => ?_)
          refine go_istore (i := 5) (L' := [(5, .int (Ii v11)), (0, .ref (base + 22)), (1, .int (Ii a1)), (2, .int (Ii v3)), (3, .int (Ii v4)), (4, .int (Ii v5))]) X dX10_arrangeOne_24 (by decide) rfl ?_
          refine go_aload_n X dX10_arrangeOne_26 rfl 1 rfl ?_
          refine go_getc (i := 1) X fc10 dX10_arrangeOne_27 tcn22 tc22 (Nat.le_of_ble_eq_true rfl) rfl lw75 rfl ?_
          refine go_iload X dX10_arrangeOne_30 0 rfl ?_
          refine go_iload_n X dX10_arrangeOne_32 rfl 4 rfl ?_
          refine goV (fun H locs ls r ho hW hL => runSN X (ok_X11_setEntry l D base M6 23 isAC_23 v11 hv11 v4 hv4 H.size r ho) dX10_arrangeOne_33 nl13 lw21 lw19 ⟨lw14, cy_X11_setEntry, Nat.le_of_ble_eq_true rfl, Nat.le_of_ble_eq_true rfl⟩ rfl rfl (Nat.le_of_ble_eq_true rfl) hW hL hk0) (fun _ M12 => ?_)
          refine go_iconst (v := 0) X dX10_arrangeOne_36 rfl ?_
          refine go_istore (i := 6) (L' := [(6, .int (Ii 0)), (5, .int (Ii v11)), (0, .ref (base + 22)), (1, .int (Ii a1)), (2, .int (Ii v3)), (3, .int (Ii v4)), (4, .int (Ii v5))]) X dX10_arrangeOne_37 (by decide) rfl ?_
          refine go_lt (fun J => ∀ (v13 : Int) (v14 : Int) (M15 : Mm), i32 v13 → i32 v14 → Go p l e (rmO 2 44) s m args below meth c D TC 681 base 9 0 0 (FinV D TC 681 base below args s) M15 109 [(0, .ref (base + 22)), (1, .int (Ii a1)), (3, .int (Ii v13)), (4, .int (Ii v14))] [] (J v13 v14 M15)) (by
              intro v13 v14 M15 hv13 hv14
              refine go_iload_n X dX10_arrangeOne_109 rfl 2 rfl ?_
              refine go_istore_n (i := 2) (L' := [(2, .int (Ii v13)), (0, .ref (base + 22)), (1, .int (Ii a1)), (3, .int (Ii v13)), (4, .int (Ii v14))]) X dX10_arrangeOne_110 rfl (by decide) rfl ?_
              refine go_aload_n X dX10_arrangeOne_111 rfl 1 rfl ?_
              refine go_getc (i := 0) X fc10 dX10_arrangeOne_112 tcn22 tc22 (Nat.le_of_ble_eq_true rfl) rfl lw76 rfl ?_
              refine go_iload_n X dX10_arrangeOne_115 rfl 3 rfl ?_
              refine goI (fun H locs ls r ho hW hL => runV X (ok_X5_forwardOf l D base M15 v13 hv13 H.size r ho) dX10_arrangeOne_116 lw88 lw89 lw90 lw80 ⟨lw73, cy_X5_forwardOf, Nat.le_of_ble_eq_true rfl, Nat.le_of_ble_eq_true rfl⟩ rfl tcn1 tc1 rfl rfl rfl rfl (Nat.le_of_ble_eq_true rfl) hW hL hk0) (fun v18 M17 hv18 => ?_)
              refine go_istore_n (i := 3) (L' := [(3, .int (Ii v18)), (2, .int (Ii v13)), (0, .ref (base + 22)), (1, .int (Ii a1)), (4, .int (Ii v14))]) X dX10_arrangeOne_119 rfl (by decide) rfl ?_
              refine go_iinc (i := 4) (L' := fun v => [(4, .int (Ii v)), (3, .int (Ii v18)), (2, .int (Ii v13)), (0, .ref (base + 22)), (1, .int (Ii a1))]) X dX10_arrangeOne_120 hv14 kI_1 (j := 4) rfl (by decide) (fun _ => rfl) (fun v19 hv19 => ?_)
              refine go_goto (tgt := 7) X dX10_arrangeOne_123 rfl ?_
              refine go_sub [3, 4, 2, 1, 0] rfl ?_
              exact hrc7_7 v13 v18 v19 M17 hv13 hv18 hv19
              )
              (fun J109_16 hJ109_16 => ?_)
          refine go_sub [2, 3, 4, 5, 6, 1, 0] rfl ?_
          exact go_lp (fun (rc : Int × Int × Int × Int × Mm → Rs) => ∀ (v20 : Int) (v21 : Int) (v22 : Int) (v23 : Int) (M24 : Mm), i32 v20 → i32 v21 → i32 v22 → i32 v23 → Go p l e (rmO 2 44) s m args below meth c D TC 681 base 9 0 0 (FinV D TC 681 base below args s) M24 39 [(0, .ref (base + 22)), (1, .int (Ii a1)), (2, .int (Ii v20)), (3, .int (Ii v21)), (4, .int (Ii v22)), (5, .int (Ii v11)), (6, .int (Ii v23))] [] (rc (v20, v21, v22, v23, M24)))
              (by intro v20 v21 v22 v23 M24 hv20 hv21 hv22 hv23; exact go_none)
              (by
              intro rc39_25 hrc39_25 v20 v21 v22 v23 M24 hv20 hv21 hv22 hv23
              unfold f_X10_arrangeOne_L39_46
              dsimp only
              refine go_iload X dX10_arrangeOne_39 6 rfl ?_
              refine go_aload_n X dX10_arrangeOne_41 rfl 0 rfl ?_
              refine go_getc (i := 0) X fc10 dX10_arrangeOne_42 tcn22 tc22 (Nat.le_of_ble_eq_true rfl) rfl lw76 rfl ?_
              refine go_iload_n X dX10_arrangeOne_45 rfl 3 rfl ?_
              refine goI (fun H locs ls r ho hW hL => runV X (ok_X5_childCountOf l D base M24 v21 hv21 H.size r ho) dX10_arrangeOne_46 lw77 lw78 lw79 lw80 ⟨lw67, cy_X5_childCountOf, Nat.le_of_ble_eq_true rfl, Nat.le_of_ble_eq_true rfl⟩ rfl tcn1 tc1 rfl rfl rfl rfl (Nat.le_of_ble_eq_true rfl) hW hL hk0) (fun v27 M26 hv27 => ?_)
              refine go_icmp_ge (tgt := 109) X dX10_arrangeOne_49 rfl hv23 hv27 (fun c28 => ?_) (fun c28 => ?_)
              · refine go_sub [0, 1, 3, 4] rfl ?_
                exact hJ109_16 v21 v22 M26 hv21 hv22
              · refine go_aload_n X dX10_arrangeOne_52 rfl 0 rfl ?_
                refine go_getc (i := 0) X fc10 dX10_arrangeOne_53 tcn22 tc22 (Nat.le_of_ble_eq_true rfl) rfl lw76 rfl ?_
                refine go_iload_n X dX10_arrangeOne_56 rfl 2 rfl ?_
                refine go_iload X dX10_arrangeOne_57 6 rfl ?_
                refine goI (fun H locs ls r ho hW hL => runV X (ok_X5_standInOf l D base M26 v20 hv20 v23 hv23 H.size r ho) dX10_arrangeOne_59 lw81 lw82 lw83 lw80 ⟨lw69, cy_X5_standInOf, Nat.le_of_ble_eq_true rfl, Nat.le_of_ble_eq_true rfl⟩ rfl tcn1 tc1 rfl rfl rfl rfl (Nat.le_of_ble_eq_true rfl) hW hL hk0) (fun v30 M29 hv30 => ?_)
                refine go_istore (i := 7) (L' := [(7, .int (Ii v30)), (0, .ref (base + 22)), (1, .int (Ii a1)), (2, .int (Ii v20)), (3, .int (Ii v21)), (4, .int (Ii v22)), (5, .int (Ii v11)), (6, .int (Ii v23))]) X dX10_arrangeOne_62 (by decide) rfl ?_
                refine go_iload X dX10_arrangeOne_64 5 rfl ?_
                refine go_lt (fun J => ∀ (v31 : Int) (v32 : Int) (v33 : Int) (v34 : Int) (v35 : Int) (M36 : Mm), i32 v31 → i32 v32 → i32 v33 → i32 v34 → i32 v35 → Go p l e (rmO 2 44) s m args below meth c D TC 681 base 9 0 0 (FinV D TC 681 base below args s) M36 85 [(0, .ref (base + 22)), (1, .int (Ii a1)), (2, .int (Ii v31)), (3, .int (Ii v32)), (4, .int (Ii v33)), (5, .int (Ii v11)), (6, .int (Ii v34))] [.int (Ii v35)] (J v31 v32 v33 v34 v35 M36)) (by
                    intro v31 v32 v33 v34 v35 M36 hv31 hv32 hv33 hv34 hv35
                    refine go_istore (i := 8) (L' := [(8, .int (Ii v35)), (0, .ref (base + 22)), (1, .int (Ii a1)), (2, .int (Ii v31)), (3, .int (Ii v32)), (4, .int (Ii v33)), (5, .int (Ii v11)), (6, .int (Ii v34))]) X dX10_arrangeOne_85 (by decide) rfl ?_
                    refine go_aload_n X dX10_arrangeOne_87 rfl 1 rfl ?_
                    refine go_getc (i := 2) X fc10 dX10_arrangeOne_88 tcn22 tc22 (Nat.le_of_ble_eq_true rfl) rfl lw72 rfl ?_
                    refine go_iload X dX10_arrangeOne_91 6 rfl ?_
                    refine go_iconst (v := 3) X dX10_arrangeOne_93 rfl ?_
                    refine go_imul X dX10_arrangeOne_94 hv11 kI_3 (fun v38 hv38 => ?_)
                    refine go_iload X dX10_arrangeOne_95 7 rfl ?_
                    refine go_iadd X dX10_arrangeOne_97 hv38 hv34 (fun v39 hv39 => ?_)
                    refine go_iload X dX10_arrangeOne_98 0 rfl ?_
                    refine goV (fun H locs ls r ho hW hL => runSN X (ok_X11_setEntry l D base M36 24 isAC_24 v39 hv39 v35 hv35 H.size r ho) dX10_arrangeOne_100 nl13 lw21 lw19 ⟨lw14, cy_X11_setEntry, Nat.le_of_ble_eq_true rfl, Nat.le_of_ble_eq_true rfl⟩ rfl rfl (Nat.le_of_ble_eq_true rfl) hW hL hk0) (fun _ M40 => ?_)
                    refine go_iinc (i := 6) (L' := fun v => [(6, .int (Ii v)), (8, .int (Ii v35)), (0, .ref (base + 22)), (1, .int (Ii a1)), (2, .int (Ii v31)), (3, .int (Ii v32)), (4, .int (Ii v33)), (5, .int (Ii v11))]) X dX10_arrangeOne_103 hv34 kI_1 (j := 7) rfl (by decide) (fun _ => rfl) (fun v41 hv41 => ?_)
                    refine go_goto (tgt := 39) X dX10_arrangeOne_106 rfl ?_
                    refine go_sub [2, 3, 4, 5, 6, 7, 0] rfl ?_
                    exact hrc39_25 v31 v32 v33 v41 M40 hv31 hv32 hv33 hv41
                    )
                    (fun J85_37 hJ85_37 => ?_)
                refine go_if_ne (tgt := 74) X dX10_arrangeOne_66 rfl hv22 (fun c42 => ?_) (fun c42 => ?_)
                · refine go_aload_n X dX10_arrangeOne_74 rfl 1 rfl ?_
                  refine go_iload_n X dX10_arrangeOne_75 rfl 2 rfl ?_
                  refine go_iload X dX10_arrangeOne_76 5 rfl ?_
                  refine go_iconst (v := 1) X dX10_arrangeOne_78 rfl ?_
                  refine go_isub X dX10_arrangeOne_79 hv22 kI_1 (fun v43 hv43 => ?_)
                  refine go_iload X dX10_arrangeOne_80 0 rfl ?_
                  refine goI (fun H locs ls r ho hW hL => runV X (ok_X10_childAt l D base M29 a1 ha1 v43 hv43 v30 hv30 H.size r ho) dX10_arrangeOne_82 lw84 lw85 lw86 lw87 ⟨lw71, cy_X10_childAt, Nat.le_of_ble_eq_true rfl, Nat.le_of_ble_eq_true rfl⟩ rfl tcn22 tc22 rfl rfl rfl rfl (Nat.le_of_ble_eq_true rfl) hW hL hk0) (fun v45 M44 hv45 => ?_)
                  refine go_sub [1, 2, 3, 4, 5, 6, 7] rfl ?_
                  exact hJ85_37 v20 v21 v22 v23 v45 M44 hv20 hv21 hv22 hv23 hv45
                · refine go_iload X dX10_arrangeOne_69 7 rfl ?_
                  refine go_goto (tgt := 85) X dX10_arrangeOne_71 rfl ?_
                  refine go_sub [1, 2, 3, 4, 5, 6, 7] rfl ?_
                  exact hJ85_37 v20 v21 v22 v23 v23 M29 hv20 hv21 hv22 hv23 hv23
              )
              FU v3 v4 v5 0 M12 hv3 hv4 hv5 kI_0
      )
      FU ((-1)) a1 0 M kI_m1 ha1 kI_0
def f_X10_arrange_L18_12 (J40_4 : Mm → Rs) (rc18_7 : Int × Mm → Rs) : Int × Mm → Rs := fun (v5, M6) =>
Lt (M6 1 0) fun v8 =>
if v8 ≤ v5 then (
J40_4 M6) else (
Cl (f_X10_arrangeOne v5 M6) fun _ M10 =>
Lt (wr (v5 + 1)) fun v11 =>
rc18_7 (v11, M10))
def f_X10_arrange (M : Mm) : Rs :=
Cl (f_X11_fillRow 23 ((-1)) M) fun _ M1 =>
Cl (f_X11_fillRow 24 ((-1)) M1) fun _ M2 =>
Lt (fun (M3 : Mm) => 
some (0, M3)) fun J40_4 =>
Lp (f_X10_arrange_L18_12 J40_4) FU (0, M2)
theorem cy_X10_arrange : yX10_arrange.cls ≠ "java/lang/invoke/MethodHandle" ∧ yX10_arrange.cls ≠ "java/lang/invoke/VarHandle" ∧ (parseMethodDescriptor yX10_arrange.desc).map (fun d => d.parameters.length) = some 0 := ⟨by decide +kernel, by decide +kernel, by decide +kernel⟩
set_option maxRecDepth 20000 in
theorem ok_X10_arrange (l : Launch) (D : Dd) (base : Nat) (M : Mm) : OkV l D TC 681 base yX10_arrange cX10_arrange 2 none 3 72 [.ref (base + 22)] M (f_X10_arrange M) := by
  refine metV (by decide +kernel) [(0, .ref (base + 22))] rfl (Nat.le_of_ble_eq_true rfl) (fun p e s m args below meth c X hrt hlk => ?_)
  have X : Cx p s m args c cX10_arrange D 2 RX10 := X
  unfold f_X10_arrange
  refine go_aload_n X dX10_arrange_0 rfl 0 rfl ?_
  refine go_getc (i := 1) X fc10 dX10_arrange_1 tcn22 tc22 (Nat.le_of_ble_eq_true rfl) rfl lw75 rfl ?_
  refine go_iconst (v := (-1)) X dX10_arrange_4 rfl ?_
  refine goV (fun H locs ls r ho hW hL => runSN X (ok_X11_fillRow l D base M 23 isAC_23 ((-1)) kI_m1 H.size r ho) dX10_arrange_5 nl12 lw93 lw19 ⟨lw66, cy_X11_fillRow, Nat.le_of_ble_eq_true rfl, Nat.le_of_ble_eq_true rfl⟩ rfl rfl (Nat.le_of_ble_eq_true rfl) hW hL hk0) (fun _ M1 => ?_)
  refine go_aload_n X dX10_arrange_8 rfl 0 rfl ?_
  refine go_getc (i := 2) X fc10 dX10_arrange_9 tcn22 tc22 (Nat.le_of_ble_eq_true rfl) rfl lw72 rfl ?_
  refine go_iconst (v := (-1)) X dX10_arrange_12 rfl ?_
  refine goV (fun H locs ls r ho hW hL => runSN X (ok_X11_fillRow l D base M1 24 isAC_24 ((-1)) kI_m1 H.size r ho) dX10_arrange_13 nl12 lw93 lw19 ⟨lw66, cy_X11_fillRow, Nat.le_of_ble_eq_true rfl, Nat.le_of_ble_eq_true rfl⟩ rfl rfl (Nat.le_of_ble_eq_true rfl) hW hL hk0) (fun _ M2 => ?_)
  refine go_iconst (v := 0) X dX10_arrange_16 rfl ?_
  refine go_istore_n (i := 1) (L' := [(1, .int (Ii 0)), (0, .ref (base + 22))]) X dX10_arrange_17 rfl (by decide) rfl ?_
  refine go_lt (fun J => ∀ (M3 : Mm), Go p l e (rmO 3 72) s m args below meth c D TC 681 base 2 0 0 (FinV D TC 681 base below args s) M3 40 [] [] (J M3)) (by
      intro M3
      exact go_vreturn X hrt hlk dX10_arrange_40
      )
      (fun J40_4 hJ40_4 => ?_)
  refine go_sub [1, 0] rfl ?_
  exact go_lp (fun (rc : Int × Mm → Rs) => ∀ (v5 : Int) (M6 : Mm), i32 v5 → Go p l e (rmO 3 72) s m args below meth c D TC 681 base 2 0 0 (FinV D TC 681 base below args s) M6 18 [(0, .ref (base + 22)), (1, .int (Ii v5))] [] (rc (v5, M6)))
      (by intro v5 M6 hv5; exact go_none)
      (by
      intro rc18_7 hrc18_7 v5 M6 hv5
      unfold f_X10_arrange_L18_12
      dsimp only
      refine go_iload_n X dX10_arrange_18 rfl 1 rfl ?_
      refine go_aload_n X dX10_arrange_19 rfl 0 rfl ?_
      refine go_getc (i := 0) X fc10 dX10_arrange_20 tcn22 tc22 (Nat.le_of_ble_eq_true rfl) rfl lw76 rfl ?_
      refine go_geti (i := 0) X fc5 dX10_arrange_23 tcn1 tc1 (Nat.le_of_ble_eq_true rfl) rfl lw92 rfl (fun v8 hv8 => ?_)
      refine go_icmp_ge (tgt := 40) X dX10_arrange_26 rfl hv5 hv8 (fun c9 => ?_) (fun c9 => ?_)
      · refine go_sub [] rfl ?_
        exact hJ40_4 M6
      · refine go_aload_n X dX10_arrange_29 rfl 0 rfl ?_
        refine go_iload_n X dX10_arrange_30 rfl 1 rfl ?_
        refine goV (fun H locs ls r ho hW hL => runV X (ok_X10_arrangeOne l D base M6 v5 hv5 H.size r ho) dX10_arrange_31 lw94 lw95 lw96 lw87 ⟨lw91, cy_X10_arrangeOne, Nat.le_of_ble_eq_true rfl, Nat.le_of_ble_eq_true rfl⟩ rfl tcn22 tc22 rfl rfl rfl rfl (Nat.le_of_ble_eq_true rfl) hW hL hk0) (fun _ M10 => ?_)
        refine go_iinc (i := 1) (L' := fun v => [(1, .int (Ii v)), (0, .ref (base + 22))]) X dX10_arrange_34 hv5 kI_1 (j := 1) rfl (by decide) (fun _ => rfl) (fun v11 hv11 => ?_)
        refine go_goto (tgt := 18) X dX10_arrange_37 rfl ?_
        refine go_sub [1, 0] rfl ?_
        exact hrc18_7 v11 M10 hv11
      )
      FU 0 M2 kI_0
def f_X1_arrangeOne (r1 : Nat) (a2 : Int) (M : Mm) : Rs :=
Lt (M r1 0) fun v1 =>
Lt (wr (v1 * 6)) fun v2 =>
Lt (M r1 1) fun v3 =>
Lt (wr (v2 + v3)) fun v4 =>
Lt (M r1 2) fun v5 =>
if ¬ v5 = ((-2)) then (
Lt (M r1 0) fun v7 =>
Lt (M r1 1) fun v8 =>
Lt (M r1 2) fun v9 =>
Cl (f_X1_placeOf v7 v8 v9 M) fun v11 M10 =>
Cl (f_X11_entryOf 28 v11 M10) fun v13 M12 =>
Lt (fun (v14 : Int) (M15 : Mm) => 
Cl (f_X11_setEntry 28 v11 v14 M15) fun _ M17 =>
some (0, M17)) fun J90_16 =>
if ¬ v13 = ((-1)) then (
J90_16 ((-3)) M12) else (
J90_16 a2 M12)) else (
Cl (f_X11_entryOf 31 v4 M) fun v20 M19 =>
Cl (f_X11_setEntry 32 a2 v20 M19) fun _ M21 =>
Cl (f_X11_setEntry 31 v4 a2 M21) fun _ M22 =>
some (0, M22))
theorem cy_X1_arrangeOne : yX1_arrangeOne.cls ≠ "java/lang/invoke/MethodHandle" ∧ yX1_arrangeOne.cls ≠ "java/lang/invoke/VarHandle" ∧ (parseMethodDescriptor yX1_arrangeOne.desc).map (fun d => d.parameters.length) = some 2 := ⟨by decide +kernel, by decide +kernel, by decide +kernel⟩
set_option maxRecDepth 20000 in
theorem ok_X1_arrangeOne (l : Launch) (D : Dd) (base : Nat) (M : Mm) (r1 : Nat) (hr1 : isE r1) (a2 : Int) (ha2 : i32 a2) : OkV l D TC 681 base yX1_arrangeOne cX1_arrangeOne 5 none 1 22 [.ref (base + 25), .ref (base + r1), .int (Ii a2)] M (f_X1_arrangeOne r1 a2 M) := by
  refine metV (by decide +kernel) [(0, .ref (base + 25)), (1, .ref (base + r1)), (2, .int (Ii a2))] rfl (Nat.le_of_ble_eq_true rfl) (fun p e s m args below meth c X hrt hlk => ?_)
  have X : Cx p s m args c cX1_arrangeOne D 5 RX1 := X
  unfold f_X1_arrangeOne
  refine go_aload_n X dX1_arrangeOne_0 rfl 1 rfl ?_
  refine go_geti (i := 0) X fc0 dX1_arrangeOne_1 (nE hr1) (tE hr1) (Nat.le_of_ble_eq_true rfl) rfl lw100 rfl (fun v1 hv1 => ?_)
  refine go_bipush (v := 6) X dX1_arrangeOne_4 (by decide) ?_
  refine go_imul X dX1_arrangeOne_6 hv1 kI_6 (fun v2 hv2 => ?_)
  refine go_aload_n X dX1_arrangeOne_7 rfl 1 rfl ?_
  refine go_geti (i := 1) X fc0 dX1_arrangeOne_8 (nE hr1) (tE hr1) (Nat.le_of_ble_eq_true rfl) rfl lw101 rfl (fun v3 hv3 => ?_)
  refine go_iadd X dX1_arrangeOne_11 hv2 hv3 (fun v4 hv4 => ?_)
  refine go_istore_n (i := 3) (L' := [(3, .int (Ii v4)), (0, .ref (base + 25)), (1, .ref (base + r1)), (2, .int (Ii a2))]) X dX1_arrangeOne_12 rfl (by decide) rfl ?_
  refine go_aload_n X dX1_arrangeOne_13 rfl 2 rfl ?_
  refine go_geti (i := 2) X fc0 dX1_arrangeOne_14 (nE hr1) (tE hr1) (Nat.le_of_ble_eq_true rfl) rfl lw102 rfl (fun v5 hv5 => ?_)
  refine go_bipush (v := (-2)) X dX1_arrangeOne_17 (by decide) ?_
  refine go_icmp_ne (tgt := 48) X dX1_arrangeOne_19 rfl hv5 kI_m2 (fun c6 => ?_) (fun c6 => ?_)
  · refine go_aload_n X dX1_arrangeOne_48 rfl 2 rfl ?_
    refine go_geti (i := 0) X fc0 dX1_arrangeOne_49 (nE hr1) (tE hr1) (Nat.le_of_ble_eq_true rfl) rfl lw100 rfl (fun v7 hv7 => ?_)
    refine go_aload_n X dX1_arrangeOne_52 rfl 2 rfl ?_
    refine go_geti (i := 1) X fc0 dX1_arrangeOne_53 (nE hr1) (tE hr1) (Nat.le_of_ble_eq_true rfl) rfl lw101 rfl (fun v8 hv8 => ?_)
    refine go_aload_n X dX1_arrangeOne_56 rfl 2 rfl ?_
    refine go_geti (i := 2) X fc0 dX1_arrangeOne_57 (nE hr1) (tE hr1) (Nat.le_of_ble_eq_true rfl) rfl lw102 rfl (fun v9 hv9 => ?_)
    refine goI (fun H locs ls r ho hW hL => runS X (ok_X1_placeOf l D base M v7 hv7 v8 hv8 v9 hv9 H.size r ho) dX1_arrangeOne_60 lw103 lw104 lw105 ⟨lw98, cy_X1_placeOf, Nat.le_of_ble_eq_true rfl, Nat.le_of_ble_eq_true rfl⟩ rfl rfl (Nat.le_of_ble_eq_true rfl) hW hL hk0) (fun v11 M10 hv11 => ?_)
    refine go_istore (i := 4) (L' := [(4, .int (Ii v11)), (3, .int (Ii v4)), (0, .ref (base + 25)), (1, .ref (base + r1)), (2, .int (Ii a2))]) X dX1_arrangeOne_63 (by decide) rfl ?_
    refine go_aload_n X dX1_arrangeOne_65 rfl 2 rfl ?_
    refine go_getc (i := 5) X fc1 dX1_arrangeOne_66 tcn25 tc25 (Nat.le_of_ble_eq_true rfl) rfl lw47 rfl ?_
    refine go_iload X dX1_arrangeOne_69 0 rfl ?_
    refine go_aload_n X dX1_arrangeOne_71 rfl 2 rfl ?_
    refine go_getc (i := 5) X fc1 dX1_arrangeOne_72 tcn25 tc25 (Nat.le_of_ble_eq_true rfl) rfl lw47 rfl ?_
    refine go_iload X dX1_arrangeOne_75 0 rfl ?_
    refine goI (fun H locs ls r ho hW hL => runSN X (ok_X11_entryOf l D base M10 28 isAC_28 v11 hv11 H.size r ho) dX1_arrangeOne_77 nl6 lw20 lw19 ⟨lw13, cy_X11_entryOf, Nat.le_of_ble_eq_true rfl, Nat.le_of_ble_eq_true rfl⟩ rfl rfl (Nat.le_of_ble_eq_true rfl) hW hL hk0) (fun v13 M12 hv13 => ?_)
    refine go_iconst (v := (-1)) X dX1_arrangeOne_80 rfl ?_
    refine go_lt (fun J => ∀ (v14 : Int) (M15 : Mm), i32 v14 → Go p l e (rmO 1 22) s m args below meth c D TC 681 base 5 0 0 (FinV D TC 681 base below args s) M15 90 [] [.int (Ii v14), .int (Ii v11), .ref (base + 28)] (J v14 M15)) (by
        intro v14 M15 hv14
        refine goV (fun H locs ls r ho hW hL => runSN X (ok_X11_setEntry l D base M15 28 isAC_28 v11 hv11 v14 hv14 H.size r ho) dX1_arrangeOne_90 nl15 lw21 lw19 ⟨lw14, cy_X11_setEntry, Nat.le_of_ble_eq_true rfl, Nat.le_of_ble_eq_true rfl⟩ rfl rfl (Nat.le_of_ble_eq_true rfl) hW hL hk0) (fun _ M17 => ?_)
        exact go_vreturn X hrt hlk dX1_arrangeOne_93
        )
        (fun J90_16 hJ90_16 => ?_)
    refine go_icmp_ne (tgt := 88) X dX1_arrangeOne_81 rfl hv13 kI_m1 (fun c18 => ?_) (fun c18 => ?_)
    · refine go_bipush (v := (-3)) X dX1_arrangeOne_88 (by decide) ?_
      refine go_sub [] rfl ?_
      exact hJ90_16 ((-3)) M12 kI_m3
    · refine go_iload_n X dX1_arrangeOne_84 rfl 4 rfl ?_
      refine go_goto (tgt := 90) X dX1_arrangeOne_85 rfl ?_
      refine go_sub [] rfl ?_
      exact hJ90_16 a2 M12 ha2
  · refine go_aload_n X dX1_arrangeOne_22 rfl 1 rfl ?_
    refine go_getc (i := 9) X fc1 dX1_arrangeOne_23 tcn25 tc25 (Nat.le_of_ble_eq_true rfl) rfl lw51 rfl ?_
    refine go_iload_n X dX1_arrangeOne_26 rfl 3 rfl ?_
    refine go_aload_n X dX1_arrangeOne_27 rfl 1 rfl ?_
    refine go_getc (i := 8) X fc1 dX1_arrangeOne_28 tcn25 tc25 (Nat.le_of_ble_eq_true rfl) rfl lw50 rfl ?_
    refine go_iload_n X dX1_arrangeOne_31 rfl 0 rfl ?_
    refine goI (fun H locs ls r ho hW hL => runSN X (ok_X11_entryOf l D base M 31 isAC_31 v4 hv4 H.size r ho) dX1_arrangeOne_32 nl6 lw20 lw19 ⟨lw13, cy_X11_entryOf, Nat.le_of_ble_eq_true rfl, Nat.le_of_ble_eq_true rfl⟩ rfl rfl (Nat.le_of_ble_eq_true rfl) hW hL hk0) (fun v20 M19 hv20 => ?_)
    refine goV (fun H locs ls r ho hW hL => runSN X (ok_X11_setEntry l D base M19 32 isAC_32 a2 ha2 v20 hv20 H.size r ho) dX1_arrangeOne_35 nl15 lw21 lw19 ⟨lw14, cy_X11_setEntry, Nat.le_of_ble_eq_true rfl, Nat.le_of_ble_eq_true rfl⟩ rfl rfl (Nat.le_of_ble_eq_true rfl) hW hL hk0) (fun _ M21 => ?_)
    refine go_aload_n X dX1_arrangeOne_38 rfl 1 rfl ?_
    refine go_getc (i := 8) X fc1 dX1_arrangeOne_39 tcn25 tc25 (Nat.le_of_ble_eq_true rfl) rfl lw50 rfl ?_
    refine go_iload_n X dX1_arrangeOne_42 rfl 0 rfl ?_
    refine go_iload_n X dX1_arrangeOne_43 rfl 3 rfl ?_
    refine goV (fun H locs ls r ho hW hL => runSN X (ok_X11_setEntry l D base M21 31 isAC_31 v4 hv4 a2 ha2 H.size r ho) dX1_arrangeOne_44 nl15 lw21 lw19 ⟨lw14, cy_X11_setEntry, Nat.le_of_ble_eq_true rfl, Nat.le_of_ble_eq_true rfl⟩ rfl rfl (Nat.le_of_ble_eq_true rfl) hW hL hk0) (fun _ M22 => ?_)
    exact go_vreturn X hrt hlk dX1_arrangeOne_47
def f_X1_resolve_L21_26 (a1 : Int) (a2 : Int) (a3 : Int) (J104_5 : Mm → Rs) (J75_9 : Int → Int → Mm → Rs) (rc21_14 : Int × Mm → Rs) : Int × Mm → Rs := fun (v12, M13) =>
if 3 < v12 then (
J104_5 M13) else (
Cl (f_X10_productionAt a1 v12 M13) fun v17 M16 =>
Cl (f_X10_targetAt a1 v12 a3 M16) fun v19 M18 =>
Cl (f_X1_placeOf v17 a2 v19 M18) fun v21 M20 =>
Cl (f_X11_entryOf 28 v21 M20) fun v23 M22 =>
if v23 = ((-1)) then (
Lt (wr (v12 + 1)) fun v25 =>
rc21_14 (v25, M22)) else (
J75_9 v12 v23 M22))
def f_X1_resolve (a1 : Int) (a2 : Int) (a3 : Int) (M : Mm) : Rs :=
Cl (f_X1_placeOf a1 a2 a3 M) fun v2 M1 =>
Cl (f_X11_setEntry 29 v2 ((-1)) M1) fun _ M3 =>
Lt (fun (M4 : Mm) => 
some (0, M4)) fun J104_5 =>
Lt (fun (v6 : Int) (v7 : Int) (M8 : Mm) => 
Cl (f_X11_setEntry 29 v2 v7 M8) fun _ M10 =>
Cl (f_X11_setEntry 30 v2 v6 M10) fun _ M11 =>
some (0, M11)) fun J75_9 =>
Lp (f_X1_resolve_L21_26 a1 a2 a3 J104_5 J75_9) FU (0, M3)
theorem cy_X1_resolve : yX1_resolve.cls ≠ "java/lang/invoke/MethodHandle" ∧ yX1_resolve.cls ≠ "java/lang/invoke/VarHandle" ∧ (parseMethodDescriptor yX1_resolve.desc).map (fun d => d.parameters.length) = some 3 := ⟨by decide +kernel, by decide +kernel, by decide +kernel⟩
set_option maxRecDepth 20000 in
theorem ok_X1_resolve (l : Launch) (D : Dd) (base : Nat) (M : Mm) (a1 : Int) (ha1 : i32 a1) (a2 : Int) (ha2 : i32 a2) (a3 : Int) (ha3 : i32 a3) : OkV l D TC 681 base yX1_resolve cX1_resolve 9 none 2 49 [.ref (base + 25), .int (Ii a1), .int (Ii a2), .int (Ii a3)] M (f_X1_resolve a1 a2 a3 M) := by
  refine metV (by decide +kernel) [(0, .ref (base + 25)), (1, .int (Ii a1)), (2, .int (Ii a2)), (3, .int (Ii a3))] rfl (Nat.le_of_ble_eq_true rfl) (fun p e s m args below meth c X hrt hlk => ?_)
  have X : Cx p s m args c cX1_resolve D 9 RX1 := X
  unfold f_X1_resolve
  refine go_iload_n X dX1_resolve_0 rfl 1 rfl ?_
  refine go_iload_n X dX1_resolve_1 rfl 2 rfl ?_
  refine go_iload_n X dX1_resolve_2 rfl 3 rfl ?_
  refine goI (fun H locs ls r ho hW hL => runS X (ok_X1_placeOf l D base M a1 ha1 a2 ha2 a3 ha3 H.size r ho) dX1_resolve_3 lw103 lw104 lw105 ⟨lw98, cy_X1_placeOf, Nat.le_of_ble_eq_true rfl, Nat.le_of_ble_eq_true rfl⟩ rfl rfl (Nat.le_of_ble_eq_true rfl) hW hL hk0) (fun v2 M1 hv2 => ?_)
  refine go_istore (i := 4) (L' := [(4, .int (Ii v2)), (0, .ref (base + 25)), (1, .int (Ii a1)), (2, .int (Ii a2)), (3, .int (Ii a3))]) X dX1_resolve_6 (by decide) rfl ?_
  refine go_aload_n X dX1_resolve_8 rfl 1 rfl ?_
  refine go_getc (i := 6) X fc1 dX1_resolve_9 tcn25 tc25 (Nat.le_of_ble_eq_true rfl) rfl lw48 rfl ?_
  refine go_iload X dX1_resolve_12 0 rfl ?_
  refine go_iconst (v := (-1)) X dX1_resolve_14 rfl ?_
  refine goV (fun H locs ls r ho hW hL => runSN X (ok_X11_setEntry l D base M1 29 isAC_29 v2 hv2 ((-1)) kI_m1 H.size r ho) dX1_resolve_15 nl15 lw21 lw19 ⟨lw14, cy_X11_setEntry, Nat.le_of_ble_eq_true rfl, Nat.le_of_ble_eq_true rfl⟩ rfl rfl (Nat.le_of_ble_eq_true rfl) hW hL hk0) (fun _ M3 => ?_)
  refine go_iconst (v := 0) X dX1_resolve_18 rfl ?_
  refine go_istore (i := 5) (L' := [(5, .int (Ii 0)), (4, .int (Ii v2)), (0, .ref (base + 25)), (1, .int (Ii a1)), (2, .int (Ii a2)), (3, .int (Ii a3))]) X dX1_resolve_19 (by decide) rfl ?_
  refine go_lt (fun J => ∀ (M4 : Mm), Go p l e (rmO 2 49) s m args below meth c D TC 681 base 9 0 0 (FinV D TC 681 base below args s) M4 104 [] [] (J M4)) (by
      intro M4
      exact go_vreturn X hrt hlk dX1_resolve_104
      )
      (fun J104_5 hJ104_5 => ?_)
  refine go_lt (fun J => ∀ (v6 : Int) (v7 : Int) (M8 : Mm), i32 v6 → i32 v7 → Go p l e (rmO 2 49) s m args below meth c D TC 681 base 9 0 0 (FinV D TC 681 base below args s) M8 75 [(0, .ref (base + 25)), (4, .int (Ii v2)), (5, .int (Ii v6)), (8, .int (Ii v7))] [] (J v6 v7 M8)) (by
      intro v6 v7 M8 hv6 hv7
      refine go_aload_n X dX1_resolve_75 rfl 0 rfl ?_
      refine go_getc (i := 6) X fc1 dX1_resolve_76 tcn25 tc25 (Nat.le_of_ble_eq_true rfl) rfl lw48 rfl ?_
      refine go_iload X dX1_resolve_79 1 rfl ?_
      refine go_iload X dX1_resolve_81 3 rfl ?_
      refine goV (fun H locs ls r ho hW hL => runSN X (ok_X11_setEntry l D base M8 29 isAC_29 v2 hv2 v7 hv7 H.size r ho) dX1_resolve_83 nl15 lw21 lw19 ⟨lw14, cy_X11_setEntry, Nat.le_of_ble_eq_true rfl, Nat.le_of_ble_eq_true rfl⟩ rfl rfl (Nat.le_of_ble_eq_true rfl) hW hL hk0) (fun _ M10 => ?_)
      refine go_aload_n X dX1_resolve_86 rfl 0 rfl ?_
      refine go_getc (i := 7) X fc1 dX1_resolve_87 tcn25 tc25 (Nat.le_of_ble_eq_true rfl) rfl lw49 rfl ?_
      refine go_iload X dX1_resolve_90 1 rfl ?_
      refine go_iload X dX1_resolve_92 2 rfl ?_
      refine goV (fun H locs ls r ho hW hL => runSN X (ok_X11_setEntry l D base M10 30 isAC_30 v2 hv2 v6 hv6 H.size r ho) dX1_resolve_94 nl15 lw21 lw19 ⟨lw14, cy_X11_setEntry, Nat.le_of_ble_eq_true rfl, Nat.le_of_ble_eq_true rfl⟩ rfl rfl (Nat.le_of_ble_eq_true rfl) hW hL hk0) (fun _ M11 => ?_)
      exact go_vreturn X hrt hlk dX1_resolve_97
      )
      (fun J75_9 hJ75_9 => ?_)
  refine go_sub [2, 3, 4, 5, 1, 0] rfl ?_
  exact go_lp (fun (rc : Int × Mm → Rs) => ∀ (v12 : Int) (M13 : Mm), i32 v12 → Go p l e (rmO 2 49) s m args below meth c D TC 681 base 9 0 0 (FinV D TC 681 base below args s) M13 21 [(0, .ref (base + 25)), (1, .int (Ii a1)), (2, .int (Ii a2)), (3, .int (Ii a3)), (4, .int (Ii v2)), (5, .int (Ii v12))] [] (rc (v12, M13)))
      (by intro v12 M13 hv12; exact go_none)
      (by
      intro rc21_14 hrc21_14 v12 M13 hv12
      unfold f_X1_resolve_L21_26
      dsimp only
      refine go_iload X dX1_resolve_21 5 rfl ?_
      refine go_iconst (v := 3) X dX1_resolve_23 rfl ?_
      refine go_icmp_gt (tgt := 104) X dX1_resolve_24 rfl hv12 kI_3 (fun c15 => ?_) (fun c15 => ?_)
      · refine go_sub [] rfl ?_
        exact hJ104_5 M13
      · refine go_aload_n X dX1_resolve_27 rfl 0 rfl ?_
        refine go_getc (i := 4) X fc1 dX1_resolve_28 tcn25 tc25 (Nat.le_of_ble_eq_true rfl) rfl lw53 rfl ?_
        refine go_iload_n X dX1_resolve_31 rfl 1 rfl ?_
        refine go_iload X dX1_resolve_32 5 rfl ?_
        refine goI (fun H locs ls r ho hW hL => runV X (ok_X10_productionAt l D base M13 a1 ha1 v12 hv12 H.size r ho) dX1_resolve_34 lw108 lw109 lw110 lw87 ⟨lw106, cy_X10_productionAt, Nat.le_of_ble_eq_true rfl, Nat.le_of_ble_eq_true rfl⟩ rfl tcn22 tc22 rfl rfl rfl rfl (Nat.le_of_ble_eq_true rfl) hW hL hk0) (fun v17 M16 hv17 => ?_)
        refine go_istore (i := 6) (L' := [(6, .int (Ii v17)), (0, .ref (base + 25)), (1, .int (Ii a1)), (2, .int (Ii a2)), (3, .int (Ii a3)), (4, .int (Ii v2)), (5, .int (Ii v12))]) X dX1_resolve_37 (by decide) rfl ?_
        refine go_aload_n X dX1_resolve_39 rfl 1 rfl ?_
        refine go_getc (i := 4) X fc1 dX1_resolve_40 tcn25 tc25 (Nat.le_of_ble_eq_true rfl) rfl lw53 rfl ?_
        refine go_iload_n X dX1_resolve_43 rfl 2 rfl ?_
        refine go_iload X dX1_resolve_44 6 rfl ?_
        refine go_iload_n X dX1_resolve_46 rfl 4 rfl ?_
        refine goI (fun H locs ls r ho hW hL => runV X (ok_X10_targetAt l D base M16 a1 ha1 v12 hv12 a3 ha3 H.size r ho) dX1_resolve_47 lw111 lw112 lw113 lw87 ⟨lw107, cy_X10_targetAt, Nat.le_of_ble_eq_true rfl, Nat.le_of_ble_eq_true rfl⟩ rfl tcn22 tc22 rfl rfl rfl rfl (Nat.le_of_ble_eq_true rfl) hW hL hk0) (fun v19 M18 hv19 => ?_)
        refine go_istore (i := 7) (L' := [(7, .int (Ii v19)), (6, .int (Ii v17)), (0, .ref (base + 25)), (1, .int (Ii a1)), (2, .int (Ii a2)), (3, .int (Ii a3)), (4, .int (Ii v2)), (5, .int (Ii v12))]) X dX1_resolve_50 (by decide) rfl ?_
        refine go_aload_n X dX1_resolve_52 rfl 2 rfl ?_
        refine go_getc (i := 5) X fc1 dX1_resolve_53 tcn25 tc25 (Nat.le_of_ble_eq_true rfl) rfl lw47 rfl ?_
        refine go_iload X dX1_resolve_56 1 rfl ?_
        refine go_iload_n X dX1_resolve_58 rfl 4 rfl ?_
        refine go_iload X dX1_resolve_59 0 rfl ?_
        refine goI (fun H locs ls r ho hW hL => runS X (ok_X1_placeOf l D base M18 v17 hv17 a2 ha2 v19 hv19 H.size r ho) dX1_resolve_61 lw103 lw104 lw105 ⟨lw98, cy_X1_placeOf, Nat.le_of_ble_eq_true rfl, Nat.le_of_ble_eq_true rfl⟩ rfl rfl (Nat.le_of_ble_eq_true rfl) hW hL hk0) (fun v21 M20 hv21 => ?_)
        refine goI (fun H locs ls r ho hW hL => runSN X (ok_X11_entryOf l D base M20 28 isAC_28 v21 hv21 H.size r ho) dX1_resolve_64 nl6 lw20 lw19 ⟨lw13, cy_X11_entryOf, Nat.le_of_ble_eq_true rfl, Nat.le_of_ble_eq_true rfl⟩ rfl rfl (Nat.le_of_ble_eq_true rfl) hW hL hk0) (fun v23 M22 hv23 => ?_)
        refine go_istore (i := 8) (L' := [(8, .int (Ii v23)), (7, .int (Ii v19)), (6, .int (Ii v17)), (0, .ref (base + 25)), (1, .int (Ii a1)), (2, .int (Ii a2)), (3, .int (Ii a3)), (4, .int (Ii v2)), (5, .int (Ii v12))]) X dX1_resolve_67 (by decide) rfl ?_
        refine go_iload X dX1_resolve_69 0 rfl ?_
        refine go_iconst (v := (-1)) X dX1_resolve_71 rfl ?_
        refine go_icmp_eq (tgt := 98) X dX1_resolve_72 rfl hv23 kI_m1 (fun c24 => ?_) (fun c24 => ?_)
        · refine go_iinc (i := 5) (L' := fun v => [(5, .int (Ii v)), (8, .int (Ii v23)), (7, .int (Ii v19)), (6, .int (Ii v17)), (0, .ref (base + 25)), (1, .int (Ii a1)), (2, .int (Ii a2)), (3, .int (Ii a3)), (4, .int (Ii v2))]) X dX1_resolve_98 hv12 kI_1 (j := 8) rfl (by decide) (fun _ => rfl) (fun v25 hv25 => ?_)
          refine go_goto (tgt := 21) X dX1_resolve_101 rfl ?_
          refine go_sub [4, 5, 6, 7, 8, 0] rfl ?_
          exact hrc21_14 v25 M22 hv25
        · refine go_sub [3, 7, 8, 0] rfl ?_
          exact hJ75_9 v12 v23 M22 hv12 hv23
      )
      FU 0 M3 kI_0
def f_X1_arrange_L92_38 (J110_28 : Int → Int → Mm → Rs) (rc92_34 : Int × Int × Int × Mm → Rs) : Int × Int × Int × Mm → Rs := fun (v30, v31, v32, M33) =>
if 3 ≤ v32 then (
J110_28 v30 v31 M33) else (
Cl (f_X1_resolve v30 v31 v32 M33) fun _ M36 =>
Lt (wr (v32 + 1)) fun v37 =>
rc92_34 (v30, v31, v37, M36))
def f_X1_arrange_L79_39 (J116_17 : Int → Mm → Rs) (rc79_22 : Int × Int × Mm → Rs) : Int × Int × Mm → Rs := fun (v19, v20, M21) =>
Lt (M21 1 1) fun v23 =>
if v23 ≤ v20 then (
J116_17 v19 M21) else (
Lt (fun (v25 : Int) (v26 : Int) (M27 : Mm) => 
Lt (wr (v26 + 1)) fun v29 =>
rc79_22 (v25, v29, M27)) fun J110_28 =>
Lp (f_X1_arrange_L92_38 J110_28) FU (v19, v20, (-1), M21))
def f_X1_arrange_L66_40 (J122_9 : Mm → Rs) (rc66_12 : Int × Mm → Rs) : Int × Mm → Rs := fun (v10, M11) =>
Lt (M11 1 0) fun v13 =>
if v13 ≤ v10 then (
J122_9 M11) else (
Lt (fun (v15 : Int) (M16 : Mm) => 
Lt (wr (v15 + 1)) fun v18 =>
rc66_12 (v18, M16)) fun J116_17 =>
Lp (f_X1_arrange_L79_39 J116_17) FU (v10, 0, M11))
def f_X1_arrange_L30_57 (J64_7 : Mm → Rs) (rc30_43 : Int × Mm → Rs) : Int × Mm → Rs := fun (v41, M42) =>
if v41 < 0 then (
J64_7 M42) else (
Cl (f_X1_rowOf v41 M42) fun v46 M45 =>
Lt (fun (v47 : Int) (M48 : Mm) => 
Lt (wr (v47 + (-1))) fun v50 =>
rc30_43 (v50, M48)) fun J58_49 =>
if v46 < 0 then (
J58_49 v41 M45) else (
gd (¬ v46 < 0 ∧ isE v46.toNat) <|
Cl (f_X1_counts v46.toNat M45) fun v54 M53 =>
if v54 = 0 then (
J58_49 v41 M53) else (
Cl (f_X1_arrangeOne v46.toNat v41 M53) fun _ M56 =>
J58_49 v41 M56)))
def f_X1_arrange (M : Mm) : Rs :=
Cl (f_X10_arrange M) fun _ M1 =>
Cl (f_X11_fillRow 28 ((-1)) M1) fun _ M2 =>
Cl (f_X11_fillRow 31 ((-1)) M2) fun _ M3 =>
Lt (M3 25 0) fun v4 =>
Lt (wr (v4 - 1)) fun v5 =>
Lt (fun (M6 : Mm) => 
Lt (fun (M8 : Mm) => 
some (0, M8)) fun J122_9 =>
Lp (f_X1_arrange_L66_40 J122_9) FU (0, M6)) fun J64_7 =>
Lp (f_X1_arrange_L30_57 J64_7) FU (v5, M3)
theorem cy_X1_arrange : yX1_arrange.cls ≠ "java/lang/invoke/MethodHandle" ∧ yX1_arrange.cls ≠ "java/lang/invoke/VarHandle" ∧ (parseMethodDescriptor yX1_arrange.desc).map (fun d => d.parameters.length) = some 0 := ⟨by decide +kernel, by decide +kernel, by decide +kernel⟩
set_option maxRecDepth 20000 in
theorem ok_X1_arrange (l : Launch) (D : Dd) (base : Nat) (M : Mm) : OkV l D TC 681 base yX1_arrange cX1_arrange 4 none 4 93 [.ref (base + 25)] M (f_X1_arrange M) := by
  refine metV (by decide +kernel) [(0, .ref (base + 25))] rfl (Nat.le_of_ble_eq_true rfl) (fun p e s m args below meth c X hrt hlk => ?_)
  have X : Cx p s m args c cX1_arrange D 4 RX1 := X
  unfold f_X1_arrange
  refine go_aload_n X dX1_arrange_0 rfl 0 rfl ?_
  refine go_getc (i := 4) X fc1 dX1_arrange_1 tcn25 tc25 (Nat.le_of_ble_eq_true rfl) rfl lw53 rfl ?_
  refine goV (fun H locs ls r ho hW hL => runV X (ok_X10_arrange l D base M  H.size r ho) dX1_arrange_4 lw117 lw118 lw119 lw87 ⟨lw97, cy_X10_arrange, Nat.le_of_ble_eq_true rfl, Nat.le_of_ble_eq_true rfl⟩ rfl tcn22 tc22 rfl rfl rfl rfl (Nat.le_of_ble_eq_true rfl) hW hL hk0) (fun _ M1 => ?_)
  refine go_aload_n X dX1_arrange_7 rfl 0 rfl ?_
  refine go_getc (i := 5) X fc1 dX1_arrange_8 tcn25 tc25 (Nat.le_of_ble_eq_true rfl) rfl lw47 rfl ?_
  refine go_iconst (v := (-1)) X dX1_arrange_11 rfl ?_
  refine goV (fun H locs ls r ho hW hL => runSN X (ok_X11_fillRow l D base M1 28 isAC_28 ((-1)) kI_m1 H.size r ho) dX1_arrange_12 nl14 lw93 lw19 ⟨lw66, cy_X11_fillRow, Nat.le_of_ble_eq_true rfl, Nat.le_of_ble_eq_true rfl⟩ rfl rfl (Nat.le_of_ble_eq_true rfl) hW hL hk0) (fun _ M2 => ?_)
  refine go_aload_n X dX1_arrange_15 rfl 0 rfl ?_
  refine go_getc (i := 8) X fc1 dX1_arrange_16 tcn25 tc25 (Nat.le_of_ble_eq_true rfl) rfl lw50 rfl ?_
  refine go_iconst (v := (-1)) X dX1_arrange_19 rfl ?_
  refine goV (fun H locs ls r ho hW hL => runSN X (ok_X11_fillRow l D base M2 31 isAC_31 ((-1)) kI_m1 H.size r ho) dX1_arrange_20 nl14 lw93 lw19 ⟨lw66, cy_X11_fillRow, Nat.le_of_ble_eq_true rfl, Nat.le_of_ble_eq_true rfl⟩ rfl rfl (Nat.le_of_ble_eq_true rfl) hW hL hk0) (fun _ M3 => ?_)
  refine go_aload_n X dX1_arrange_23 rfl 0 rfl ?_
  refine go_geti (i := 0) X fc1 dX1_arrange_24 tcn25 tc25 (Nat.le_of_ble_eq_true rfl) rfl lw57 rfl (fun v4 hv4 => ?_)
  refine go_iconst (v := 1) X dX1_arrange_27 rfl ?_
  refine go_isub X dX1_arrange_28 hv4 kI_1 (fun v5 hv5 => ?_)
  refine go_istore_n (i := 1) (L' := [(1, .int (Ii v5)), (0, .ref (base + 25))]) X dX1_arrange_29 rfl (by decide) rfl ?_
  refine go_lt (fun J => ∀ (M6 : Mm), Go p l e (rmO 4 93) s m args below meth c D TC 681 base 4 0 0 (FinV D TC 681 base below args s) M6 64 [(0, .ref (base + 25))] [] (J M6)) (by
      intro M6
      refine go_iconst (v := 0) X dX1_arrange_64 rfl ?_
      refine go_istore_n (i := 1) (L' := [(1, .int (Ii 0)), (0, .ref (base + 25))]) X dX1_arrange_65 rfl (by decide) rfl ?_
      refine go_lt (fun J => ∀ (M8 : Mm), Go p l e (rmO 4 93) s m args below meth c D TC 681 base 4 0 0 (FinV D TC 681 base below args s) M8 122 [] [] (J M8)) (by
          intro M8
          exact go_vreturn X hrt hlk dX1_arrange_122
          )
          (fun J122_9 hJ122_9 => ?_)
      refine go_sub [1, 0] rfl ?_
      exact go_lp (fun (rc : Int × Mm → Rs) => ∀ (v10 : Int) (M11 : Mm), i32 v10 → Go p l e (rmO 4 93) s m args below meth c D TC 681 base 4 0 0 (FinV D TC 681 base below args s) M11 66 [(0, .ref (base + 25)), (1, .int (Ii v10))] [] (rc (v10, M11)))
          (by intro v10 M11 hv10; exact go_none)
          (by
          intro rc66_12 hrc66_12 v10 M11 hv10
          unfold f_X1_arrange_L66_40
          dsimp only
          refine go_iload_n X dX1_arrange_66 rfl 1 rfl ?_
          refine go_aload_n X dX1_arrange_67 rfl 0 rfl ?_
          refine go_getc (i := 3) X fc1 dX1_arrange_68 tcn25 tc25 (Nat.le_of_ble_eq_true rfl) rfl lw52 rfl ?_
          refine go_geti (i := 0) X fc5 dX1_arrange_71 tcn1 tc1 (Nat.le_of_ble_eq_true rfl) rfl lw115 rfl (fun v13 hv13 => ?_)
          refine go_icmp_ge (tgt := 122) X dX1_arrange_74 rfl hv10 hv13 (fun c14 => ?_) (fun c14 => ?_)
          · refine go_sub [] rfl ?_
            exact hJ122_9 M11
          · refine go_iconst (v := 0) X dX1_arrange_77 rfl ?_
            refine go_istore_n (i := 2) (L' := [(2, .int (Ii 0)), (0, .ref (base + 25)), (1, .int (Ii v10))]) X dX1_arrange_78 rfl (by decide) rfl ?_
            refine go_lt (fun J => ∀ (v15 : Int) (M16 : Mm), i32 v15 → Go p l e (rmO 4 93) s m args below meth c D TC 681 base 4 0 0 (FinV D TC 681 base below args s) M16 116 [(0, .ref (base + 25)), (1, .int (Ii v15))] [] (J v15 M16)) (by
                intro v15 M16 hv15
                refine go_iinc (i := 1) (L' := fun v => [(1, .int (Ii v)), (0, .ref (base + 25))]) X dX1_arrange_116 hv15 kI_1 (j := 1) rfl (by decide) (fun _ => rfl) (fun v18 hv18 => ?_)
                refine go_goto (tgt := 66) X dX1_arrange_119 rfl ?_
                refine go_sub [1, 0] rfl ?_
                exact hrc66_12 v18 M16 hv18
                )
                (fun J116_17 hJ116_17 => ?_)
            refine go_sub [1, 2, 0] rfl ?_
            exact go_lp (fun (rc : Int × Int × Mm → Rs) => ∀ (v19 : Int) (v20 : Int) (M21 : Mm), i32 v19 → i32 v20 → Go p l e (rmO 4 93) s m args below meth c D TC 681 base 4 0 0 (FinV D TC 681 base below args s) M21 79 [(0, .ref (base + 25)), (1, .int (Ii v19)), (2, .int (Ii v20))] [] (rc (v19, v20, M21)))
                (by intro v19 v20 M21 hv19 hv20; exact go_none)
                (by
                intro rc79_22 hrc79_22 v19 v20 M21 hv19 hv20
                unfold f_X1_arrange_L79_39
                dsimp only
                refine go_iload_n X dX1_arrange_79 rfl 2 rfl ?_
                refine go_aload_n X dX1_arrange_80 rfl 0 rfl ?_
                refine go_getc (i := 3) X fc1 dX1_arrange_81 tcn25 tc25 (Nat.le_of_ble_eq_true rfl) rfl lw52 rfl ?_
                refine go_geti (i := 1) X fc5 dX1_arrange_84 tcn1 tc1 (Nat.le_of_ble_eq_true rfl) rfl lw116 rfl (fun v23 hv23 => ?_)
                refine go_icmp_ge (tgt := 116) X dX1_arrange_87 rfl hv20 hv23 (fun c24 => ?_) (fun c24 => ?_)
                · refine go_sub [0, 1] rfl ?_
                  exact hJ116_17 v19 M21 hv19
                · refine go_iconst (v := (-1)) X dX1_arrange_90 rfl ?_
                  refine go_istore_n (i := 3) (L' := [(3, .int (Ii ((-1)))), (0, .ref (base + 25)), (1, .int (Ii v19)), (2, .int (Ii v20))]) X dX1_arrange_91 rfl (by decide) rfl ?_
                  refine go_lt (fun J => ∀ (v25 : Int) (v26 : Int) (M27 : Mm), i32 v25 → i32 v26 → Go p l e (rmO 4 93) s m args below meth c D TC 681 base 4 0 0 (FinV D TC 681 base below args s) M27 110 [(0, .ref (base + 25)), (1, .int (Ii v25)), (2, .int (Ii v26))] [] (J v25 v26 M27)) (by
                      intro v25 v26 M27 hv25 hv26
                      refine go_iinc (i := 2) (L' := fun v => [(2, .int (Ii v)), (0, .ref (base + 25)), (1, .int (Ii v25))]) X dX1_arrange_110 hv26 kI_1 (j := 2) rfl (by decide) (fun _ => rfl) (fun v29 hv29 => ?_)
                      refine go_goto (tgt := 79) X dX1_arrange_113 rfl ?_
                      refine go_sub [1, 2, 0] rfl ?_
                      exact hrc79_22 v25 v29 M27 hv25 hv29
                      )
                      (fun J110_28 hJ110_28 => ?_)
                  refine go_sub [1, 2, 3, 0] rfl ?_
                  exact go_lp (fun (rc : Int × Int × Int × Mm → Rs) => ∀ (v30 : Int) (v31 : Int) (v32 : Int) (M33 : Mm), i32 v30 → i32 v31 → i32 v32 → Go p l e (rmO 4 93) s m args below meth c D TC 681 base 4 0 0 (FinV D TC 681 base below args s) M33 92 [(0, .ref (base + 25)), (1, .int (Ii v30)), (2, .int (Ii v31)), (3, .int (Ii v32))] [] (rc (v30, v31, v32, M33)))
                      (by intro v30 v31 v32 M33 hv30 hv31 hv32; exact go_none)
                      (by
                      intro rc92_34 hrc92_34 v30 v31 v32 M33 hv30 hv31 hv32
                      unfold f_X1_arrange_L92_38
                      dsimp only
                      refine go_iload_n X dX1_arrange_92 rfl 3 rfl ?_
                      refine go_iconst (v := 3) X dX1_arrange_93 rfl ?_
                      refine go_icmp_ge (tgt := 110) X dX1_arrange_94 rfl hv32 kI_3 (fun c35 => ?_) (fun c35 => ?_)
                      · refine go_sub [0, 1, 2] rfl ?_
                        exact hJ110_28 v30 v31 M33 hv30 hv31
                      · refine go_aload_n X dX1_arrange_97 rfl 0 rfl ?_
                        refine go_iload_n X dX1_arrange_98 rfl 1 rfl ?_
                        refine go_iload_n X dX1_arrange_99 rfl 2 rfl ?_
                        refine go_iload_n X dX1_arrange_100 rfl 3 rfl ?_
                        refine goV (fun H locs ls r ho hW hL => runV X (ok_X1_resolve l D base M33 v30 hv30 v31 hv31 v32 hv32 H.size r ho) dX1_arrange_101 lw129 lw130 lw131 lw105 ⟨lw114, cy_X1_resolve, Nat.le_of_ble_eq_true rfl, Nat.le_of_ble_eq_true rfl⟩ rfl tcn25 tc25 rfl rfl rfl rfl (Nat.le_of_ble_eq_true rfl) hW hL hk0) (fun _ M36 => ?_)
                        refine go_iinc (i := 3) (L' := fun v => [(3, .int (Ii v)), (0, .ref (base + 25)), (1, .int (Ii v30)), (2, .int (Ii v31))]) X dX1_arrange_104 hv32 kI_1 (j := 3) rfl (by decide) (fun _ => rfl) (fun v37 hv37 => ?_)
                        refine go_goto (tgt := 92) X dX1_arrange_107 rfl ?_
                        refine go_sub [1, 2, 3, 0] rfl ?_
                        exact hrc92_34 v30 v31 v37 M36 hv30 hv31 hv37
                      )
                      FU v19 v20 ((-1)) M21 hv19 hv20 kI_m1
                )
                FU v10 0 M11 hv10 kI_0
          )
          FU 0 M6 kI_0
      )
      (fun J64_7 hJ64_7 => ?_)
  refine go_sub [1, 0] rfl ?_
  exact go_lp (fun (rc : Int × Mm → Rs) => ∀ (v41 : Int) (M42 : Mm), i32 v41 → Go p l e (rmO 4 93) s m args below meth c D TC 681 base 4 0 0 (FinV D TC 681 base below args s) M42 30 [(0, .ref (base + 25)), (1, .int (Ii v41))] [] (rc (v41, M42)))
      (by intro v41 M42 hv41; exact go_none)
      (by
      intro rc30_43 hrc30_43 v41 M42 hv41
      unfold f_X1_arrange_L30_57
      dsimp only
      refine go_iload_n X dX1_arrange_30 rfl 1 rfl ?_
      refine go_if_lt (tgt := 64) X dX1_arrange_31 rfl hv41 (fun c44 => ?_) (fun c44 => ?_)
      · refine go_sub [0] rfl ?_
        exact hJ64_7 M42
      · refine go_aload_n X dX1_arrange_34 rfl 0 rfl ?_
        refine go_iload_n X dX1_arrange_35 rfl 1 rfl ?_
        refine goR (fun H locs ls r ho hW hL => runV X (ok_X1_rowOf l D base M42 v41 hv41 H.size r ho) dX1_arrange_36 lw120 lw121 lw122 lw105 ⟨lw63, cy_X1_rowOf, Nat.le_of_ble_eq_true rfl, Nat.le_of_ble_eq_true rfl⟩ rfl tcn25 tc25 rfl rfl rfl rfl (Nat.le_of_ble_eq_true rfl) hW hL hk0) (fun v46 M45 => ?_)
        refine go_astore_nQ (i := 2) (L' := [(2, rv base v46), (0, .ref (base + 25)), (1, .int (Ii v41))]) X dX1_arrange_39 rfl (by decide) rfl ?_
        refine go_aload_nQ X dX1_arrange_40 rfl 0 rfl ?_
        refine go_lt (fun J => ∀ (v47 : Int) (M48 : Mm), i32 v47 → Go p l e (rmO 4 93) s m args below meth c D TC 681 base 4 0 0 (FinV D TC 681 base below args s) M48 58 [(0, .ref (base + 25)), (1, .int (Ii v47))] [] (J v47 M48)) (by
            intro v47 M48 hv47
            refine go_iinc (i := 1) (L' := fun v => [(1, .int (Ii v)), (0, .ref (base + 25))]) X dX1_arrange_58 hv47 kI_m1 (j := 1) rfl (by decide) (fun _ => rfl) (fun v50 hv50 => ?_)
            refine go_goto (tgt := 30) X dX1_arrange_61 rfl ?_
            refine go_sub [1, 0] rfl ?_
            exact hrc30_43 v50 M48 hv50
            )
            (fun J58_49 hJ58_49 => ?_)
        refine go_ifnull (tgt := 58) X dX1_arrange_41 rfl (fun c51 => ?_) (fun c51 => ?_)
        · refine go_sub [1, 2] rfl ?_
          exact hJ58_49 v41 M45 hv41
        · refine go_aload_n X dX1_arrange_44 rfl 1 rfl ?_
          refine go_gd (fun g52 => ?_)
          refine go_aload_nP X dX1_arrange_45 rfl 0 rfl g52.1 ?_
          refine goI (fun H locs ls r ho hW hL => runV X (ok_X1_counts l D base M45 v46.toNat g52.2 H.size r ho) dX1_arrange_46 lw123 lw124 lw125 lw105 ⟨lw64, cy_X1_counts, Nat.le_of_ble_eq_true rfl, Nat.le_of_ble_eq_true rfl⟩ rfl tcn25 tc25 rfl rfl rfl rfl (Nat.le_of_ble_eq_true rfl) hW hL hk0) (fun v54 M53 hv54 => ?_)
          refine go_if_eq (tgt := 58) X dX1_arrange_49 rfl (bo_i32 hv54) (fun c55 => ?_) (fun c55 => ?_)
          · refine go_sub [1, 2] rfl ?_
            exact hJ58_49 v41 M53 hv41
          · refine go_aload_n X dX1_arrange_52 rfl 1 rfl ?_
            refine go_aload_nP X dX1_arrange_53 rfl 0 rfl g52.1 ?_
            refine go_iload_n X dX1_arrange_54 rfl 2 rfl ?_
            refine goV (fun H locs ls r ho hW hL => runV X (ok_X1_arrangeOne l D base M53 v46.toNat g52.2 v41 hv41 H.size r ho) dX1_arrange_55 lw126 lw127 lw128 lw105 ⟨lw99, cy_X1_arrangeOne, Nat.le_of_ble_eq_true rfl, Nat.le_of_ble_eq_true rfl⟩ rfl tcn25 tc25 rfl rfl rfl rfl (Nat.le_of_ble_eq_true rfl) hW hL hk0) (fun _ M56 => ?_)
            refine go_sub [1, 2] rfl ?_
            exact hJ58_49 v41 M56 hv41
      )
      FU v5 M3 hv5
def f_X3_clear (h : Nat) (M : Mm) : Rs :=
Cl (f_X11_fillRow (h + 2) 0 M) fun _ M1 =>
some (0, M1)
theorem cy_X3_clear : yX3_clear.cls ≠ "java/lang/invoke/MethodHandle" ∧ yX3_clear.cls ≠ "java/lang/invoke/VarHandle" ∧ (parseMethodDescriptor yX3_clear.desc).map (fun d => d.parameters.length) = some 0 := ⟨by decide +kernel, by decide +kernel, by decide +kernel⟩
set_option maxRecDepth 20000 in
theorem ok_X3_clear (l : Launch) (D : Dd) (base : Nat) (M : Mm) (h : Nat) (hh : isF h) : OkV l D TC 681 base yX3_clear cX3_clear 1 none 1 22 [.ref (base + h)] M (f_X3_clear h M) := by
  refine metV (by decide +kernel) [(0, .ref (base + h))] rfl (Nat.le_of_ble_eq_true rfl) (fun p e s m args below meth c X hrt hlk => ?_)
  have X : Cx p s m args c cX3_clear D 1 RX3 := X
  unfold f_X3_clear
  refine go_aload_n X dX3_clear_0 rfl 0 rfl ?_
  refine go_getc (i := 2) X fc3 dX3_clear_1 (nF hh) (tF hh) (Nat.le_of_ble_eq_true rfl) rfl lw161 rfl ?_
  refine go_iconst (v := 0) X dX3_clear_4 rfl ?_
  refine goV (fun H locs ls r ho hW hL => runSN X (ok_X11_fillRow l D base M (h + 2) (isAFa2 hh) 0 kI_0 H.size r ho) dX3_clear_5 nl16 lw93 lw19 ⟨lw66, cy_X11_fillRow, Nat.le_of_ble_eq_true rfl, Nat.le_of_ble_eq_true rfl⟩ rfl rfl (Nat.le_of_ble_eq_true rfl) hW hL hk0) (fun _ M1 => ?_)
  exact go_vreturn X hrt hlk dX3_clear_8
def f_X7_forget (M : Mm) : Rs :=
Lt (up M 676 6 0) fun M1 =>
some (0, M1)
theorem cy_X7_forget : yX7_forget.cls ≠ "java/lang/invoke/MethodHandle" ∧ yX7_forget.cls ≠ "java/lang/invoke/VarHandle" ∧ (parseMethodDescriptor yX7_forget.desc).map (fun d => d.parameters.length) = some 0 := ⟨by decide +kernel, by decide +kernel, by decide +kernel⟩
set_option maxRecDepth 20000 in
theorem ok_X7_forget (l : Launch) (D : Dd) (base : Nat) (M : Mm) : OkV l D TC 681 base yX7_forget cX7_forget 1 none 0 0 [.ref (base + 676)] M (f_X7_forget M) := by
  refine metV (by decide +kernel) [(0, .ref (base + 676))] rfl (Nat.le_of_ble_eq_true rfl) (fun p e s m args below meth c X hrt hlk => ?_)
  have X : Cx p s m args c cX7_forget D 1 RX7 := X
  unfold f_X7_forget
  refine go_aload_n X dX7_forget_0 rfl 0 rfl ?_
  refine go_iconst (v := 0) X dX7_forget_1 rfl ?_
  refine go_putz (i := 6) X fc7 dX7_forget_2 tcn676 tc676 (Nat.le_of_ble_eq_true rfl) rfl lw511 rfl rfl rfl (Or.inl rfl) (fun M1 => ?_)
  exact go_vreturn X hrt hlk dX7_forget_5
def f_X11_followGrammar (M : Mm) : Rs :=
Cl (f_X1_arrange M) fun _ M1 =>
Cl (f_X3_clear 299 M1) fun _ M2 =>
Cl (f_X7_forget M2) fun _ M3 =>
some (0, M3)
theorem cy_X11_followGrammar : yX11_followGrammar.cls ≠ "java/lang/invoke/MethodHandle" ∧ yX11_followGrammar.cls ≠ "java/lang/invoke/VarHandle" ∧ (parseMethodDescriptor yX11_followGrammar.desc).map (fun d => d.parameters.length) = some 0 := ⟨by decide +kernel, by decide +kernel, by decide +kernel⟩
set_option maxRecDepth 20000 in
theorem ok_X11_followGrammar (l : Launch) (D : Dd) (base : Nat) (M : Mm) : OkV l D TC 681 base yX11_followGrammar cX11_followGrammar 1 none 5 116 [.ref (base + 0)] M (f_X11_followGrammar M) := by
  refine metV (by decide +kernel) [(0, .ref (base + 0))] rfl (Nat.le_of_ble_eq_true rfl) (fun p e s m args below meth c X hrt hlk => ?_)
  have X : Cx p s m args c cX11_followGrammar D 1 RX11 := X
  unfold f_X11_followGrammar
  refine go_aload_n X dX11_followGrammar_0 rfl 0 rfl ?_
  refine go_getc (i := 2) X fc11 dX11_followGrammar_1 tcn0 tc0 (Nat.le_of_ble_eq_true rfl) rfl lw646 rfl ?_
  refine goV (fun H locs ls r ho hW hL => runV X (ok_X1_arrange l D base M  H.size r ho) dX11_followGrammar_4 lw684 lw685 lw686 lw105 ⟨lw132, cy_X1_arrange, Nat.le_of_ble_eq_true rfl, Nat.le_of_ble_eq_true rfl⟩ rfl tcn25 tc25 rfl rfl rfl rfl (Nat.le_of_ble_eq_true rfl) hW hL hk0) (fun _ M1 => ?_)
  refine go_aload_n X dX11_followGrammar_7 rfl 0 rfl ?_
  refine go_getc (i := 6) X fc11 dX11_followGrammar_8 tcn0 tc0 (Nat.le_of_ble_eq_true rfl) rfl lw656 rfl ?_
  refine goV (fun H locs ls r ho hW hL => runV X (ok_X3_clear l D base M1 299 isF_299 H.size r ho) dX11_followGrammar_11 lw687 lw515 lw516 lw245 ⟨lw370, cy_X3_clear, Nat.le_of_ble_eq_true rfl, Nat.le_of_ble_eq_true rfl⟩ rfl tcn299 tc299 rfl rfl rfl rfl (Nat.le_of_ble_eq_true rfl) hW hL hk0) (fun _ M2 => ?_)
  refine go_aload_n X dX11_followGrammar_14 rfl 0 rfl ?_
  refine go_getc (i := 9) X fc11 dX11_followGrammar_15 tcn0 tc0 (Nat.le_of_ble_eq_true rfl) rfl lw663 rfl ?_
  refine goV (fun H locs ls r ho hW hL => runV X (ok_X7_forget l D base M2  H.size r ho) dX11_followGrammar_18 lw688 lw689 lw690 lw522 ⟨lw510, cy_X7_forget, Nat.le_of_ble_eq_true rfl, Nat.le_of_ble_eq_true rfl⟩ rfl tcn676 tc676 rfl rfl rfl rfl (Nat.le_of_ble_eq_true rfl) hW hL hk0) (fun _ M3 => ?_)
  exact go_vreturn X hrt hlk dX11_followGrammar_21
def f_X11_slotOf (a1 : Int) (a2 : Int) (M : Mm) : Rs :=
Lt (wr (a1 * 6)) fun v1 =>
Lt (wr (v1 + a2)) fun v2 =>
some (v2, M)
theorem cy_X11_slotOf : yX11_slotOf.cls ≠ "java/lang/invoke/MethodHandle" ∧ yX11_slotOf.cls ≠ "java/lang/invoke/VarHandle" ∧ (parseMethodDescriptor yX11_slotOf.desc).map (fun d => d.parameters.length) = some 2 := ⟨by decide +kernel, by decide +kernel, by decide +kernel⟩
set_option maxRecDepth 20000 in
theorem ok_X11_slotOf (l : Launch) (D : Dd) (base : Nat) (M : Mm) (a1 : Int) (ha1 : i32 a1) (a2 : Int) (ha2 : i32 a2) : OkI l D TC 681 base yX11_slotOf cX11_slotOf 2 (some .int) 0 0 [.int (Ii a1), .int (Ii a2)] M i32 (f_X11_slotOf a1 a2 M) := by
  refine metI (by decide +kernel) [(0, .int (Ii a1)), (1, .int (Ii a2))] rfl (Nat.le_of_ble_eq_true rfl) (fun p e s m args below meth c X hrt hlk => ?_)
  have X : Cx p s m args c cX11_slotOf D 2 RX11 := X
  unfold f_X11_slotOf
  refine go_iload_n X dX11_slotOf_0 rfl 0 rfl ?_
  refine go_bipush (v := 6) X dX11_slotOf_1 (by decide) ?_
  refine go_imul X dX11_slotOf_3 ha1 kI_6 (fun v1 hv1 => ?_)
  refine go_iload_n X dX11_slotOf_4 rfl 1 rfl ?_
  refine go_iadd X dX11_slotOf_5 hv1 ha2 (fun v2 hv2 => ?_)
  exact go_ireturn X hrt hlk dX11_slotOf_6 hv2
def f_X7_valueOf (a1 : Int) (M : Mm) : Rs :=
Cl (f_X11_entryOf 309 a1 M) fun v2 M1 =>
some (v2, M1)
theorem cy_X7_valueOf : yX7_valueOf.cls ≠ "java/lang/invoke/MethodHandle" ∧ yX7_valueOf.cls ≠ "java/lang/invoke/VarHandle" ∧ (parseMethodDescriptor yX7_valueOf.desc).map (fun d => d.parameters.length) = some 1 := ⟨by decide +kernel, by decide +kernel, by decide +kernel⟩
set_option maxRecDepth 20000 in
theorem ok_X7_valueOf (l : Launch) (D : Dd) (base : Nat) (M : Mm) (a1 : Int) (ha1 : i32 a1) : OkI l D TC 681 base yX7_valueOf cX7_valueOf 2 (some .int) 1 21 [.ref (base + 676), .int (Ii a1)] M i32 (f_X7_valueOf a1 M) := by
  refine metI (by decide +kernel) [(0, .ref (base + 676)), (1, .int (Ii a1))] rfl (Nat.le_of_ble_eq_true rfl) (fun p e s m args below meth c X hrt hlk => ?_)
  have X : Cx p s m args c cX7_valueOf D 2 RX7 := X
  unfold f_X7_valueOf
  refine go_aload_n X dX7_valueOf_0 rfl 0 rfl ?_
  refine go_getc (i := 4) X fc7 dX7_valueOf_1 tcn676 tc676 (Nat.le_of_ble_eq_true rfl) rfl lw509 rfl ?_
  refine go_iload_n X dX7_valueOf_4 rfl 1 rfl ?_
  refine goI (fun H locs ls r ho hW hL => runSN X (ok_X11_entryOf l D base M 309 isAC_309 a1 ha1 H.size r ho) dX7_valueOf_5 nl39 lw20 lw19 ⟨lw13, cy_X11_entryOf, Nat.le_of_ble_eq_true rfl, Nat.le_of_ble_eq_true rfl⟩ rfl rfl (Nat.le_of_ble_eq_true rfl) hW hL hk0) (fun v2 M1 hv2 => ?_)
  exact go_ireturn X hrt hlk dX7_valueOf_8 hv2
def f_X3_has (h : Nat) (a1 : Int) (M : Mm) : Rs :=
Lt (fun (v1 : Int) (M2 : Mm) => 
some (v1, M2)) fun J25_3 =>
Lt (fun (M4 : Mm) => 
J25_3 0 M4) fun J24_5 =>
if a1 < 0 then (
J24_5 M) else (
if 180 ≤ a1 then (
J24_5 M) else (
gd (0 ≤ a1 ∧ a1 < 180) <|
Lt (M (h + 2) a1.toNat) fun v8 =>
if v8 = 0 then (
J24_5 M) else (
J25_3 1 M)))
theorem cy_X3_has : yX3_has.cls ≠ "java/lang/invoke/MethodHandle" ∧ yX3_has.cls ≠ "java/lang/invoke/VarHandle" ∧ (parseMethodDescriptor yX3_has.desc).map (fun d => d.parameters.length) = some 1 := ⟨by decide +kernel, by decide +kernel, by decide +kernel⟩
set_option maxRecDepth 20000 in
theorem ok_X3_has (l : Launch) (D : Dd) (base : Nat) (M : Mm) (h : Nat) (hh : isF h) (a1 : Int) (ha1 : i32 a1) : OkI l D TC 681 base yX3_has cX3_has 2 (some .boolean) 0 0 [.ref (base + h), .int (Ii a1)] M bo (f_X3_has h a1 M) := by
  refine metI (by decide +kernel) [(0, .ref (base + h)), (1, .int (Ii a1))] rfl (Nat.le_of_ble_eq_true rfl) (fun p e s m args below meth c X hrt hlk => ?_)
  have X : Cx p s m args c cX3_has D 2 RX3 := X
  unfold f_X3_has
  refine go_iload_n X dX3_has_0 rfl 1 rfl ?_
  refine go_lt (fun J => ∀ (v1 : Int) (M2 : Mm), bo v1 → Go p l e (rmO 0 0) s m args below meth c D TC 681 base 2 0 0 (FinI D TC 681 base below args s bo) M2 25 [] [.int (Ii v1)] (J v1 M2)) (by
      intro v1 M2 hv1
      exact go_zreturn X hrt hlk dX3_has_25 hv1 hv1
      )
      (fun J25_3 hJ25_3 => ?_)
  refine go_lt (fun J => ∀ (M4 : Mm), Go p l e (rmO 0 0) s m args below meth c D TC 681 base 2 0 0 (FinI D TC 681 base below args s bo) M4 24 [] [] (J M4)) (by
      intro M4
      refine go_iconst (v := 0) X dX3_has_24 rfl ?_
      exact hJ25_3 0 M4 (Or.inl rfl)
      )
      (fun J24_5 hJ24_5 => ?_)
  refine go_if_lt (tgt := 24) X dX3_has_1 rfl ha1 (fun c6 => ?_) (fun c6 => ?_)
  · refine go_sub [] rfl ?_
    exact hJ24_5 M
  · refine go_iload_n X dX3_has_4 rfl 1 rfl ?_
    refine go_sipush (v := 180) X dX3_has_5 (by decide) ?_
    refine go_icmp_ge (tgt := 24) X dX3_has_8 rfl ha1 kI_180 (fun c7 => ?_) (fun c7 => ?_)
    · refine go_sub [] rfl ?_
      exact hJ24_5 M
    · refine go_aload_n X dX3_has_11 rfl 0 rfl ?_
      refine go_getc (i := 2) X fc3 dX3_has_12 (nF hh) (tF hh) (Nat.le_of_ble_eq_true rfl) rfl lw161 rfl ?_
      refine go_iload_n X dX3_has_15 rfl 1 rfl ?_
      refine go_iaload X dX3_has_16 (nFa2 hh) (tFa2 hh) ha1 (fun v8 hv8 => ?_)
      refine go_if_eq (tgt := 24) X dX3_has_17 rfl hv8 (fun c9 => ?_) (fun c9 => ?_)
      · refine go_sub [] rfl ?_
        exact hJ24_5 M
      · refine go_iconst (v := 1) X dX3_has_20 rfl ?_
        refine go_goto (tgt := 25) X dX3_has_21 rfl ?_
        refine go_sub [] rfl ?_
        exact hJ25_3 1 M (Or.inr rfl)
def f_X3_valueOf (h : Nat) (a1 : Int) (M : Mm) : Rs :=
Lt (fun (v1 : Int) (M2 : Mm) => 
some (v1, M2)) fun J21_3 =>
Lt (fun (M4 : Mm) => 
J21_3 ((-1)) M4) fun J20_5 =>
if a1 < 0 then (
J20_5 M) else (
if 180 ≤ a1 then (
J20_5 M) else (
gd (0 ≤ a1 ∧ a1 < 180) <|
Lt (M (h + 1) a1.toNat) fun v8 =>
J21_3 v8 M))
theorem cy_X3_valueOf : yX3_valueOf.cls ≠ "java/lang/invoke/MethodHandle" ∧ yX3_valueOf.cls ≠ "java/lang/invoke/VarHandle" ∧ (parseMethodDescriptor yX3_valueOf.desc).map (fun d => d.parameters.length) = some 1 := ⟨by decide +kernel, by decide +kernel, by decide +kernel⟩
set_option maxRecDepth 20000 in
theorem ok_X3_valueOf (l : Launch) (D : Dd) (base : Nat) (M : Mm) (h : Nat) (hh : isF h) (a1 : Int) (ha1 : i32 a1) : OkI l D TC 681 base yX3_valueOf cX3_valueOf 2 (some .int) 0 0 [.ref (base + h), .int (Ii a1)] M i32 (f_X3_valueOf h a1 M) := by
  refine metI (by decide +kernel) [(0, .ref (base + h)), (1, .int (Ii a1))] rfl (Nat.le_of_ble_eq_true rfl) (fun p e s m args below meth c X hrt hlk => ?_)
  have X : Cx p s m args c cX3_valueOf D 2 RX3 := X
  unfold f_X3_valueOf
  refine go_iload_n X dX3_valueOf_0 rfl 1 rfl ?_
  refine go_lt (fun J => ∀ (v1 : Int) (M2 : Mm), i32 v1 → Go p l e (rmO 0 0) s m args below meth c D TC 681 base 2 0 0 (FinI D TC 681 base below args s i32) M2 21 [] [.int (Ii v1)] (J v1 M2)) (by
      intro v1 M2 hv1
      exact go_ireturn X hrt hlk dX3_valueOf_21 hv1
      )
      (fun J21_3 hJ21_3 => ?_)
  refine go_lt (fun J => ∀ (M4 : Mm), Go p l e (rmO 0 0) s m args below meth c D TC 681 base 2 0 0 (FinI D TC 681 base below args s i32) M4 20 [] [] (J M4)) (by
      intro M4
      refine go_iconst (v := (-1)) X dX3_valueOf_20 rfl ?_
      exact hJ21_3 ((-1)) M4 kI_m1
      )
      (fun J20_5 hJ20_5 => ?_)
  refine go_if_lt (tgt := 20) X dX3_valueOf_1 rfl ha1 (fun c6 => ?_) (fun c6 => ?_)
  · refine go_sub [] rfl ?_
    exact hJ20_5 M
  · refine go_iload_n X dX3_valueOf_4 rfl 1 rfl ?_
    refine go_sipush (v := 180) X dX3_valueOf_5 (by decide) ?_
    refine go_icmp_ge (tgt := 20) X dX3_valueOf_8 rfl ha1 kI_180 (fun c7 => ?_) (fun c7 => ?_)
    · refine go_sub [] rfl ?_
      exact hJ20_5 M
    · refine go_aload_n X dX3_valueOf_11 rfl 0 rfl ?_
      refine go_getc (i := 1) X fc3 dX3_valueOf_12 (nF hh) (tF hh) (Nat.le_of_ble_eq_true rfl) rfl lw163 rfl ?_
      refine go_iload_n X dX3_valueOf_15 rfl 1 rfl ?_
      refine go_iaload X dX3_valueOf_16 (nFa1 hh) (tFa1 hh) ha1 (fun v8 hv8 => ?_)
      refine go_goto (tgt := 21) X dX3_valueOf_17 rfl ?_
      refine go_sub [] rfl ?_
      exact hJ21_3 v8 M hv8
def f_X2_topFrame (M : Mm) : Rs :=
Lt (M 310 9) fun v1 =>
Lt (wr (v1 - 1)) fun v2 =>
Lt (fun (v3 : Int) (M4 : Mm) => 
some (v3, M4)) fun J30_5 =>
Lt (fun (M6 : Mm) => 
J30_5 ((-1)) M6) fun J29_7 =>
if v2 < 0 then (
J29_7 M) else (
if 181 ≤ v2 then (
J29_7 M) else (
gd (0 ≤ v2 ∧ v2 < 181) <|
J30_5 (((314 + 2 * v2.toNat : Nat) : Int)) M))
theorem cy_X2_topFrame : yX2_topFrame.cls ≠ "java/lang/invoke/MethodHandle" ∧ yX2_topFrame.cls ≠ "java/lang/invoke/VarHandle" ∧ (parseMethodDescriptor yX2_topFrame.desc).map (fun d => d.parameters.length) = some 0 := ⟨by decide +kernel, by decide +kernel, by decide +kernel⟩
set_option maxRecDepth 20000 in
theorem ok_X2_topFrame (l : Launch) (D : Dd) (base : Nat) (M : Mm) : OkR l D TC 681 base yX2_topFrame cX2_topFrame 2 (some (.object "AttribArbor$Frame")) 0 0 [.ref (base + 310)] M (f_X2_topFrame M) := by
  refine metR (by decide +kernel) [(0, .ref (base + 310))] rfl (Nat.le_of_ble_eq_true rfl) (fun p e s m args below meth c X hrt hlk => ?_)
  have X : Cx p s m args c cX2_topFrame D 2 RX2 := X
  unfold f_X2_topFrame
  refine go_aload_n X dX2_topFrame_0 rfl 0 rfl ?_
  refine go_geti (i := 9) X fc2 dX2_topFrame_1 tcn310 tc310 (Nat.le_of_ble_eq_true rfl) rfl lw165 rfl (fun v1 hv1 => ?_)
  refine go_iconst (v := 1) X dX2_topFrame_4 rfl ?_
  refine go_isub X dX2_topFrame_5 hv1 kI_1 (fun v2 hv2 => ?_)
  refine go_istore_n (i := 1) (L' := [(1, .int (Ii v2)), (0, .ref (base + 310))]) X dX2_topFrame_6 rfl (by decide) rfl ?_
  refine go_iload_n X dX2_topFrame_7 rfl 0 rfl ?_
  refine go_lt (fun J => ∀ (v3 : Int) (M4 : Mm), Go p l e (rmO 0 0) s m args below meth c D TC 681 base 2 0 0 (FinR D TC 681 base below args s) M4 30 [] [rv base v3] (J v3 M4)) (by
      intro v3 M4
      exact go_areturn X hrt hlk dX2_topFrame_30 rfl
      )
      (fun J30_5 hJ30_5 => ?_)
  refine go_lt (fun J => ∀ (M6 : Mm), Go p l e (rmO 0 0) s m args below meth c D TC 681 base 2 0 0 (FinR D TC 681 base below args s) M6 29 [] [] (J M6)) (by
      intro M6
      refine go_anull X dX2_topFrame_29 ?_
      exact hJ30_5 ((-1)) M6
      )
      (fun J29_7 hJ29_7 => ?_)
  refine go_if_lt (tgt := 29) X dX2_topFrame_8 rfl hv2 (fun c8 => ?_) (fun c8 => ?_)
  · refine go_sub [] rfl ?_
    exact hJ29_7 M
  · refine go_iload_n X dX2_topFrame_11 rfl 0 rfl ?_
    refine go_aload_n X dX2_topFrame_12 rfl 1 rfl ?_
    refine go_getc (i := 7) X fc2 dX2_topFrame_13 tcn310 tc310 (Nat.le_of_ble_eq_true rfl) rfl lw149 rfl ?_
    refine go_alen X dX2_topFrame_16 tcn312 tc312 (by decide) ?_
    refine go_icmp_ge (tgt := 29) X dX2_topFrame_17 rfl hv2 kI_181 (fun c9 => ?_) (fun c9 => ?_)
    · refine go_sub [] rfl ?_
      exact hJ29_7 M
    · refine go_aload_n X dX2_topFrame_20 rfl 1 rfl ?_
      refine go_getc (i := 7) X fc2 dX2_topFrame_21 tcn310 tc310 (Nat.le_of_ble_eq_true rfl) rfl lw149 rfl ?_
      refine go_iload_n X dX2_topFrame_24 rfl 0 rfl ?_
      refine go_aaloadF X dX2_topFrame_25 tcn312 tc312 hv2 (fun g10 => ?_)
      refine go_goto (tgt := 30) X dX2_topFrame_26 rfl ?_
      refine go_sub [] rfl ?_
      refine go_r2q ?_
      exact hJ30_5 (((314 + 2 * v2.toNat : Nat) : Int)) M
def f_X2_setOpen (a1 : Int) (a2 : Int) (M : Mm) : Rs :=
Lt (fun (M1 : Mm) => 
some (0, M1)) fun J20_2 =>
if a1 < 0 then (
J20_2 M) else (
if 180 ≤ a1 then (
J20_2 M) else (
gd (0 ≤ a1 ∧ a1 < 180) <|
Lt (up M 313 a1.toNat a2) fun M5 =>
J20_2 M5))
theorem cy_X2_setOpen : yX2_setOpen.cls ≠ "java/lang/invoke/MethodHandle" ∧ yX2_setOpen.cls ≠ "java/lang/invoke/VarHandle" ∧ (parseMethodDescriptor yX2_setOpen.desc).map (fun d => d.parameters.length) = some 2 := ⟨by decide +kernel, by decide +kernel, by decide +kernel⟩
set_option maxRecDepth 20000 in
theorem ok_X2_setOpen (l : Launch) (D : Dd) (base : Nat) (M : Mm) (a1 : Int) (ha1 : i32 a1) (a2 : Int) (ha2 : bo a2) : OkV l D TC 681 base yX2_setOpen cX2_setOpen 3 none 0 0 [.ref (base + 310), .int (Ii a1), .int (Ii a2)] M (f_X2_setOpen a1 a2 M) := by
  refine metV (by decide +kernel) [(0, .ref (base + 310)), (1, .int (Ii a1)), (2, .int (Ii a2))] rfl (Nat.le_of_ble_eq_true rfl) (fun p e s m args below meth c X hrt hlk => ?_)
  have X : Cx p s m args c cX2_setOpen D 3 RX2 := X
  unfold f_X2_setOpen
  refine go_iload_n X dX2_setOpen_0 rfl 1 rfl ?_
  refine go_lt (fun J => ∀ (M1 : Mm), Go p l e (rmO 0 0) s m args below meth c D TC 681 base 3 0 0 (FinV D TC 681 base below args s) M1 20 [] [] (J M1)) (by
      intro M1
      exact go_vreturn X hrt hlk dX2_setOpen_20
      )
      (fun J20_2 hJ20_2 => ?_)
  refine go_if_lt (tgt := 20) X dX2_setOpen_1 rfl ha1 (fun c3 => ?_) (fun c3 => ?_)
  · refine go_sub [] rfl ?_
    exact hJ20_2 M
  · refine go_iload_n X dX2_setOpen_4 rfl 1 rfl ?_
    refine go_aload_n X dX2_setOpen_5 rfl 0 rfl ?_
    refine go_getc (i := 8) X fc2 dX2_setOpen_6 tcn310 tc310 (Nat.le_of_ble_eq_true rfl) rfl lw150 rfl ?_
    refine go_alen X dX2_setOpen_9 tcn313 tc313 (by decide) ?_
    refine go_icmp_ge (tgt := 20) X dX2_setOpen_10 rfl ha1 kI_180 (fun c4 => ?_) (fun c4 => ?_)
    · refine go_sub [] rfl ?_
      exact hJ20_2 M
    · refine go_aload_n X dX2_setOpen_13 rfl 0 rfl ?_
      refine go_getc (i := 8) X fc2 dX2_setOpen_14 tcn310 tc310 (Nat.le_of_ble_eq_true rfl) rfl lw150 rfl ?_
      refine go_iload_n X dX2_setOpen_17 rfl 1 rfl ?_
      refine go_iload_n X dX2_setOpen_18 rfl 2 rfl ?_
      refine go_zastore X dX2_setOpen_19 tcn313 tc313 ha1 ha2 (fun M5 => ?_)
      refine go_sub [] rfl ?_
      exact hJ20_2 M5
def f_X11_bitOf (a1 : Int) (M : Mm) : Rs :=
Lt (fun (v1 : Int) (M2 : Mm) => 
some (v1, M2)) fun J17_3 =>
Lt (fun (M4 : Mm) => 
J17_3 0 M4) fun J16_5 =>
if a1 < 0 then (
J16_5 M) else (
if 30 ≤ a1 then (
J16_5 M) else (
Lt (jshl 1 a1) fun v8 =>
J17_3 v8 M))
theorem cy_X11_bitOf : yX11_bitOf.cls ≠ "java/lang/invoke/MethodHandle" ∧ yX11_bitOf.cls ≠ "java/lang/invoke/VarHandle" ∧ (parseMethodDescriptor yX11_bitOf.desc).map (fun d => d.parameters.length) = some 1 := ⟨by decide +kernel, by decide +kernel, by decide +kernel⟩
set_option maxRecDepth 20000 in
theorem ok_X11_bitOf (l : Launch) (D : Dd) (base : Nat) (M : Mm) (a1 : Int) (ha1 : i32 a1) : OkI l D TC 681 base yX11_bitOf cX11_bitOf 1 (some .int) 0 0 [.int (Ii a1)] M i32 (f_X11_bitOf a1 M) := by
  refine metI (by decide +kernel) [(0, .int (Ii a1))] rfl (Nat.le_of_ble_eq_true rfl) (fun p e s m args below meth c X hrt hlk => ?_)
  have X : Cx p s m args c cX11_bitOf D 1 RX11 := X
  unfold f_X11_bitOf
  refine go_iload_n X dX11_bitOf_0 rfl 0 rfl ?_
  refine go_lt (fun J => ∀ (v1 : Int) (M2 : Mm), i32 v1 → Go p l e (rmO 0 0) s m args below meth c D TC 681 base 1 0 0 (FinI D TC 681 base below args s i32) M2 17 [] [.int (Ii v1)] (J v1 M2)) (by
      intro v1 M2 hv1
      exact go_ireturn X hrt hlk dX11_bitOf_17 hv1
      )
      (fun J17_3 hJ17_3 => ?_)
  refine go_lt (fun J => ∀ (M4 : Mm), Go p l e (rmO 0 0) s m args below meth c D TC 681 base 1 0 0 (FinI D TC 681 base below args s i32) M4 16 [] [] (J M4)) (by
      intro M4
      refine go_iconst (v := 0) X dX11_bitOf_16 rfl ?_
      exact hJ17_3 0 M4 kI_0
      )
      (fun J16_5 hJ16_5 => ?_)
  refine go_if_lt (tgt := 16) X dX11_bitOf_1 rfl ha1 (fun c6 => ?_) (fun c6 => ?_)
  · refine go_sub [] rfl ?_
    exact hJ16_5 M
  · refine go_iload_n X dX11_bitOf_4 rfl 0 rfl ?_
    refine go_bipush (v := 30) X dX11_bitOf_5 (by decide) ?_
    refine go_icmp_ge (tgt := 16) X dX11_bitOf_7 rfl ha1 kI_30 (fun c7 => ?_) (fun c7 => ?_)
    · refine go_sub [] rfl ?_
      exact hJ16_5 M
    · refine go_iconst (v := 1) X dX11_bitOf_10 rfl ?_
      refine go_iload_n X dX11_bitOf_11 rfl 0 rfl ?_
      refine go_ishl X dX11_bitOf_12 kI_1 ha1 (fun v8 hv8 => ?_)
      refine go_goto (tgt := 17) X dX11_bitOf_13 rfl ?_
      refine go_sub [] rfl ?_
      exact hJ17_3 v8 M hv8
def f_X8_nowOf (h : Nat) (a1 : Int) (M : Mm) : Rs :=
Lt (fun (v1 : Int) (M2 : Mm) => 
some (v1, M2)) fun J20_3 =>
Lt (fun (M4 : Mm) => 
J20_3 ((-1)) M4) fun J19_5 =>
if a1 < 0 then (
J19_5 M) else (
if 30 ≤ a1 then (
J19_5 M) else (
gd (0 ≤ a1 ∧ a1 < 30) <|
Lt (M (h + 4) a1.toNat) fun v8 =>
J20_3 v8 M))
theorem cy_X8_nowOf : yX8_nowOf.cls ≠ "java/lang/invoke/MethodHandle" ∧ yX8_nowOf.cls ≠ "java/lang/invoke/VarHandle" ∧ (parseMethodDescriptor yX8_nowOf.desc).map (fun d => d.parameters.length) = some 1 := ⟨by decide +kernel, by decide +kernel, by decide +kernel⟩
set_option maxRecDepth 20000 in
theorem ok_X8_nowOf (l : Launch) (D : Dd) (base : Nat) (M : Mm) (h : Nat) (hh : isT h) (a1 : Int) (ha1 : i32 a1) : OkI l D TC 681 base yX8_nowOf cX8_nowOf 2 (some .int) 0 0 [.ref (base + h), .int (Ii a1)] M i32 (f_X8_nowOf h a1 M) := by
  refine metI (by decide +kernel) [(0, .ref (base + h)), (1, .int (Ii a1))] rfl (Nat.le_of_ble_eq_true rfl) (fun p e s m args below meth c X hrt hlk => ?_)
  have X : Cx p s m args c cX8_nowOf D 2 RX8 := X
  unfold f_X8_nowOf
  refine go_iload_n X dX8_nowOf_0 rfl 1 rfl ?_
  refine go_lt (fun J => ∀ (v1 : Int) (M2 : Mm), i32 v1 → Go p l e (rmO 0 0) s m args below meth c D TC 681 base 2 0 0 (FinI D TC 681 base below args s i32) M2 20 [] [.int (Ii v1)] (J v1 M2)) (by
      intro v1 M2 hv1
      exact go_ireturn X hrt hlk dX8_nowOf_20 hv1
      )
      (fun J20_3 hJ20_3 => ?_)
  refine go_lt (fun J => ∀ (M4 : Mm), Go p l e (rmO 0 0) s m args below meth c D TC 681 base 2 0 0 (FinI D TC 681 base below args s i32) M4 19 [] [] (J M4)) (by
      intro M4
      refine go_iconst (v := (-1)) X dX8_nowOf_19 rfl ?_
      exact hJ20_3 ((-1)) M4 kI_m1
      )
      (fun J19_5 hJ19_5 => ?_)
  refine go_if_lt (tgt := 19) X dX8_nowOf_1 rfl ha1 (fun c6 => ?_) (fun c6 => ?_)
  · refine go_sub [] rfl ?_
    exact hJ19_5 M
  · refine go_iload_n X dX8_nowOf_4 rfl 1 rfl ?_
    refine go_bipush (v := 30) X dX8_nowOf_5 (by decide) ?_
    refine go_icmp_ge (tgt := 19) X dX8_nowOf_7 rfl ha1 kI_30 (fun c7 => ?_) (fun c7 => ?_)
    · refine go_sub [] rfl ?_
      exact hJ19_5 M
    · refine go_aload_n X dX8_nowOf_10 rfl 0 rfl ?_
      refine go_getc (i := 5) X fc8 dX8_nowOf_11 (nT hh) (tT hh) (Nat.le_of_ble_eq_true rfl) rfl lw172 rfl ?_
      refine go_iload_n X dX8_nowOf_14 rfl 1 rfl ?_
      refine go_iaload X dX8_nowOf_15 (nTa4 hh) (tTa4 hh) ha1 (fun v8 hv8 => ?_)
      refine go_goto (tgt := 20) X dX8_nowOf_16 rfl ?_
      refine go_sub [] rfl ?_
      exact hJ20_3 v8 M hv8
def f_X1_firstGiftOf (a1 : Int) (a2 : Int) (M : Mm) : Rs :=
Lt (wr (a1 * 6)) fun v1 =>
Lt (wr (v1 + a2)) fun v2 =>
Lt (fun (v3 : Int) (M4 : Mm) => 
some (v3, M4)) fun J30_5 =>
Lt (fun (M6 : Mm) => 
J30_5 ((-1)) M6) fun J29_7 =>
if v2 < 0 then (
J29_7 M) else (
if 60 ≤ v2 then (
J29_7 M) else (
gd (0 ≤ v2 ∧ v2 < 60) <|
Lt (M 31 v2.toNat) fun v10 =>
J30_5 v10 M))
theorem cy_X1_firstGiftOf : yX1_firstGiftOf.cls ≠ "java/lang/invoke/MethodHandle" ∧ yX1_firstGiftOf.cls ≠ "java/lang/invoke/VarHandle" ∧ (parseMethodDescriptor yX1_firstGiftOf.desc).map (fun d => d.parameters.length) = some 2 := ⟨by decide +kernel, by decide +kernel, by decide +kernel⟩
set_option maxRecDepth 20000 in
theorem ok_X1_firstGiftOf (l : Launch) (D : Dd) (base : Nat) (M : Mm) (a1 : Int) (ha1 : i32 a1) (a2 : Int) (ha2 : i32 a2) : OkI l D TC 681 base yX1_firstGiftOf cX1_firstGiftOf 4 (some .int) 0 0 [.ref (base + 25), .int (Ii a1), .int (Ii a2)] M i32 (f_X1_firstGiftOf a1 a2 M) := by
  refine metI (by decide +kernel) [(0, .ref (base + 25)), (1, .int (Ii a1)), (2, .int (Ii a2))] rfl (Nat.le_of_ble_eq_true rfl) (fun p e s m args below meth c X hrt hlk => ?_)
  have X : Cx p s m args c cX1_firstGiftOf D 4 RX1 := X
  unfold f_X1_firstGiftOf
  refine go_iload_n X dX1_firstGiftOf_0 rfl 1 rfl ?_
  refine go_bipush (v := 6) X dX1_firstGiftOf_1 (by decide) ?_
  refine go_imul X dX1_firstGiftOf_3 ha1 kI_6 (fun v1 hv1 => ?_)
  refine go_iload_n X dX1_firstGiftOf_4 rfl 2 rfl ?_
  refine go_iadd X dX1_firstGiftOf_5 hv1 ha2 (fun v2 hv2 => ?_)
  refine go_istore_n (i := 3) (L' := [(3, .int (Ii v2)), (0, .ref (base + 25)), (1, .int (Ii a1)), (2, .int (Ii a2))]) X dX1_firstGiftOf_6 rfl (by decide) rfl ?_
  refine go_iload_n X dX1_firstGiftOf_7 rfl 0 rfl ?_
  refine go_lt (fun J => ∀ (v3 : Int) (M4 : Mm), i32 v3 → Go p l e (rmO 0 0) s m args below meth c D TC 681 base 4 0 0 (FinI D TC 681 base below args s i32) M4 30 [] [.int (Ii v3)] (J v3 M4)) (by
      intro v3 M4 hv3
      exact go_ireturn X hrt hlk dX1_firstGiftOf_30 hv3
      )
      (fun J30_5 hJ30_5 => ?_)
  refine go_lt (fun J => ∀ (M6 : Mm), Go p l e (rmO 0 0) s m args below meth c D TC 681 base 4 0 0 (FinI D TC 681 base below args s i32) M6 29 [] [] (J M6)) (by
      intro M6
      refine go_iconst (v := (-1)) X dX1_firstGiftOf_29 rfl ?_
      exact hJ30_5 ((-1)) M6 kI_m1
      )
      (fun J29_7 hJ29_7 => ?_)
  refine go_if_lt (tgt := 29) X dX1_firstGiftOf_8 rfl hv2 (fun c8 => ?_) (fun c8 => ?_)
  · refine go_sub [] rfl ?_
    exact hJ29_7 M
  · refine go_iload_n X dX1_firstGiftOf_11 rfl 0 rfl ?_
    refine go_aload_n X dX1_firstGiftOf_12 rfl 1 rfl ?_
    refine go_getc (i := 8) X fc1 dX1_firstGiftOf_13 tcn25 tc25 (Nat.le_of_ble_eq_true rfl) rfl lw50 rfl ?_
    refine go_alen X dX1_firstGiftOf_16 tcn31 tc31 (by decide) ?_
    refine go_icmp_ge (tgt := 29) X dX1_firstGiftOf_17 rfl hv2 kI_60 (fun c9 => ?_) (fun c9 => ?_)
    · refine go_sub [] rfl ?_
      exact hJ29_7 M
    · refine go_aload_n X dX1_firstGiftOf_20 rfl 1 rfl ?_
      refine go_getc (i := 8) X fc1 dX1_firstGiftOf_21 tcn25 tc25 (Nat.le_of_ble_eq_true rfl) rfl lw50 rfl ?_
      refine go_iload_n X dX1_firstGiftOf_24 rfl 0 rfl ?_
      refine go_iaload X dX1_firstGiftOf_25 tcn31 tc31 hv2 (fun v10 hv10 => ?_)
      refine go_goto (tgt := 30) X dX1_firstGiftOf_26 rfl ?_
      refine go_sub [] rfl ?_
      exact hJ30_5 v10 M hv10
def f_X4_settle (h : Nat) (a1 : Int) (M : Mm) : Rs :=
Lt (up M h 8 a1) fun M1 =>
Lt (up M1 h 9 1) fun M2 =>
some (0, M2)
theorem cy_X4_settle : yX4_settle.cls ≠ "java/lang/invoke/MethodHandle" ∧ yX4_settle.cls ≠ "java/lang/invoke/VarHandle" ∧ (parseMethodDescriptor yX4_settle.desc).map (fun d => d.parameters.length) = some 1 := ⟨by decide +kernel, by decide +kernel, by decide +kernel⟩
set_option maxRecDepth 20000 in
theorem ok_X4_settle (l : Launch) (D : Dd) (base : Nat) (M : Mm) (h : Nat) (hh : isR h) (a1 : Int) (ha1 : i32 a1) : OkV l D TC 681 base yX4_settle cX4_settle 2 none 0 0 [.ref (base + h), .int (Ii a1)] M (f_X4_settle h a1 M) := by
  refine metV (by decide +kernel) [(0, .ref (base + h)), (1, .int (Ii a1))] rfl (Nat.le_of_ble_eq_true rfl) (fun p e s m args below meth c X hrt hlk => ?_)
  have X : Cx p s m args c cX4_settle D 2 RX4 := X
  unfold f_X4_settle
  refine go_aload_n X dX4_settle_0 rfl 0 rfl ?_
  refine go_iload_n X dX4_settle_1 rfl 1 rfl ?_
  refine go_puti (i := 8) X fc4 dX4_settle_2 (nR hh) (tR hh) (Nat.le_of_ble_eq_true rfl) rfl lw174 rfl rfl rfl ha1 (fun M1 => ?_)
  refine go_aload_n X dX4_settle_5 rfl 0 rfl ?_
  refine go_iconst (v := 1) X dX4_settle_6 rfl ?_
  refine go_putz (i := 9) X fc4 dX4_settle_7 (nR hh) (tR hh) (Nat.le_of_ble_eq_true rfl) rfl lw175 rfl rfl rfl (Or.inr rfl) (fun M2 => ?_)
  exact go_vreturn X hrt hlk dX4_settle_10
def f_X2_beginGift_L5_39 (r1 : Nat) (J85_3 : Int → Mm → Rs) (rc5_19 : Int × Int × Mm → Rs) : Int × Int × Mm → Rs := fun (v16, v17, M18) =>
if 30 ≤ v17 then (
J85_3 v16 M18) else (
if ¬ v16 = ((-1)) then (
J85_3 v16 M18) else (
Lt (M18 r1 2) fun v22 =>
Lt (wr (v22 + 1)) fun v23 =>
Lt (M18 283 0) fun v24 =>
if v24 ≤ v23 then (
J85_3 v16 M18) else (
Lt (M18 r1 2) fun v26 =>
Lt (wr (v26 + 1)) fun v27 =>
Lt (up M18 r1 2 v27) fun M28 =>
Lt (M28 r1 2) fun v29 =>
Cl (f_X8_nowOf 283 v29 M28) fun v31 M30 =>
Lt (up M30 r1 3 v31) fun M32 =>
Lt (up M32 r1 4 0) fun M33 =>
Lt (M33 r1 3) fun v34 =>
Lt (M33 r1 1) fun v35 =>
Cl (f_X1_firstGiftOf v34 v35 M33) fun v37 M36 =>
Lt (wr (v17 + 1)) fun v38 =>
rc5_19 (v37, v38, M36))))
def f_X2_beginGift (r1 : Nat) (a2 : Int) (M : Mm) : Rs :=
Lt (fun (v1 : Int) (M2 : Mm) => 
Lt (up M2 r1 10 v1) fun M4 =>
Lt (up M4 r1 11 0) fun M5 =>
Lt (up M5 r1 6 0) fun M6 =>
Cl (f_X1_rowOf v1 M6) fun v8 M7 =>
Lt (up M7 r1 5 v8) fun M10 =>
Lt (fun (M11 : Mm) => 
some (0, M11)) fun J125_12 =>
if ¬ v1 = ((-1)) then (
J125_12 M10) else (
Lt (M10 r1 12) fun v14 =>
Cl (f_X4_settle r1 v14 M10) fun _ M15 =>
J125_12 M15)) fun J85_3 =>
Lp (f_X2_beginGift_L5_39 r1 J85_3) FU (a2, 0, M)
theorem cy_X2_beginGift : yX2_beginGift.cls ≠ "java/lang/invoke/MethodHandle" ∧ yX2_beginGift.cls ≠ "java/lang/invoke/VarHandle" ∧ (parseMethodDescriptor yX2_beginGift.desc).map (fun d => d.parameters.length) = some 2 := ⟨by decide +kernel, by decide +kernel, by decide +kernel⟩
set_option maxRecDepth 20000 in
theorem ok_X2_beginGift (l : Launch) (D : Dd) (base : Nat) (M : Mm) (r1 : Nat) (hr1 : isR r1) (a2 : Int) (ha2 : i32 a2) : OkV l D TC 681 base yX2_beginGift cX2_beginGift 5 none 1 23 [.ref (base + 310), .ref (base + r1), .int (Ii a2)] M (f_X2_beginGift r1 a2 M) := by
  refine metV (by decide +kernel) [(0, .ref (base + 310)), (1, .ref (base + r1)), (2, .int (Ii a2))] rfl (Nat.le_of_ble_eq_true rfl) (fun p e s m args below meth c X hrt hlk => ?_)
  have X : Cx p s m args c cX2_beginGift D 5 RX2 := X
  unfold f_X2_beginGift
  refine go_iload_n X dX2_beginGift_0 rfl 2 rfl ?_
  refine go_istore_n (i := 3) (L' := [(3, .int (Ii a2)), (0, .ref (base + 310)), (1, .ref (base + r1)), (2, .int (Ii a2))]) X dX2_beginGift_1 rfl (by decide) rfl ?_
  refine go_iconst (v := 0) X dX2_beginGift_2 rfl ?_
  refine go_istore (i := 4) (L' := [(4, .int (Ii 0)), (3, .int (Ii a2)), (0, .ref (base + 310)), (1, .ref (base + r1)), (2, .int (Ii a2))]) X dX2_beginGift_3 (by decide) rfl ?_
  refine go_lt (fun J => ∀ (v1 : Int) (M2 : Mm), i32 v1 → Go p l e (rmO 1 23) s m args below meth c D TC 681 base 5 0 0 (FinV D TC 681 base below args s) M2 85 [(0, .ref (base + 310)), (1, .ref (base + r1)), (3, .int (Ii v1))] [] (J v1 M2)) (by
      intro v1 M2 hv1
      refine go_aload_n X dX2_beginGift_85 rfl 1 rfl ?_
      refine go_iload_n X dX2_beginGift_86 rfl 2 rfl ?_
      refine go_puti (i := 10) X fc4 dX2_beginGift_87 (nR hr1) (tR hr1) (Nat.le_of_ble_eq_true rfl) rfl lw181 rfl rfl rfl hv1 (fun M4 => ?_)
      refine go_aload_n X dX2_beginGift_90 rfl 1 rfl ?_
      refine go_iconst (v := 0) X dX2_beginGift_91 rfl ?_
      refine go_putz (i := 11) X fc4 dX2_beginGift_92 (nR hr1) (tR hr1) (Nat.le_of_ble_eq_true rfl) rfl lw182 rfl rfl rfl (Or.inl rfl) (fun M5 => ?_)
      refine go_aload_n X dX2_beginGift_95 rfl 1 rfl ?_
      refine go_iconst (v := 0) X dX2_beginGift_96 rfl ?_
      refine go_puti (i := 6) X fc4 dX2_beginGift_97 (nR hr1) (tR hr1) (Nat.le_of_ble_eq_true rfl) rfl lw183 rfl rfl rfl kI_0 (fun M6 => ?_)
      refine go_aload_n X dX2_beginGift_100 rfl 1 rfl ?_
      refine go_aload_n X dX2_beginGift_101 rfl 0 rfl ?_
      refine go_getc (i := 3) X fc2 dX2_beginGift_102 tcn310 tc310 (Nat.le_of_ble_eq_true rfl) rfl lw152 rfl ?_
      refine go_iload_n X dX2_beginGift_105 rfl 2 rfl ?_
      refine goR (fun H locs ls r ho hW hL => runV X (ok_X1_rowOf l D base M6 v1 hv1 H.size r ho) dX2_beginGift_106 lw193 lw121 lw122 lw105 ⟨lw63, cy_X1_rowOf, Nat.le_of_ble_eq_true rfl, Nat.le_of_ble_eq_true rfl⟩ rfl tcn25 tc25 rfl rfl rfl rfl (Nat.le_of_ble_eq_true rfl) hW hL hk0) (fun v8 M7 => ?_)
      refine go_putq (i := 5) X fc4 dX2_beginGift_109 (nR hr1) (tR hr1) (Nat.le_of_ble_eq_true rfl) rfl lw184 rfl rfl rfl rfl (fun M10 => ?_)
      refine go_iload_n X dX2_beginGift_112 rfl 2 rfl ?_
      refine go_iconst (v := (-1)) X dX2_beginGift_113 rfl ?_
      refine go_lt (fun J => ∀ (M11 : Mm), Go p l e (rmO 1 23) s m args below meth c D TC 681 base 5 0 0 (FinV D TC 681 base below args s) M11 125 [] [] (J M11)) (by
          intro M11
          exact go_vreturn X hrt hlk dX2_beginGift_125
          )
          (fun J125_12 hJ125_12 => ?_)
      refine go_icmp_ne (tgt := 125) X dX2_beginGift_114 rfl hv1 kI_m1 (fun c13 => ?_) (fun c13 => ?_)
      · refine go_sub [] rfl ?_
        exact hJ125_12 M10
      · refine go_aload_n X dX2_beginGift_117 rfl 1 rfl ?_
        refine go_aload_n X dX2_beginGift_118 rfl 1 rfl ?_
        refine go_geti (i := 12) X fc4 dX2_beginGift_119 (nR hr1) (tR hr1) (Nat.le_of_ble_eq_true rfl) rfl lw185 rfl (fun v14 hv14 => ?_)
        refine goV (fun H locs ls r ho hW hL => runV X (ok_X4_settle l D base M10 r1 hr1 v14 hv14 H.size r ho) dX2_beginGift_122 lw194 lw195 lw196 lw157 ⟨lw173, cy_X4_settle, Nat.le_of_ble_eq_true rfl, Nat.le_of_ble_eq_true rfl⟩ rfl (nR hr1) (tR hr1) rfl rfl rfl rfl (Nat.le_of_ble_eq_true rfl) hW hL hk0) (fun _ M15 => ?_)
        refine go_sub [] rfl ?_
        exact hJ125_12 M15
      )
      (fun J85_3 hJ85_3 => ?_)
  refine go_sub [2, 3, 1, 0] rfl ?_
  exact go_lp (fun (rc : Int × Int × Mm → Rs) => ∀ (v16 : Int) (v17 : Int) (M18 : Mm), i32 v16 → i32 v17 → Go p l e (rmO 1 23) s m args below meth c D TC 681 base 5 0 0 (FinV D TC 681 base below args s) M18 5 [(0, .ref (base + 310)), (1, .ref (base + r1)), (3, .int (Ii v16)), (4, .int (Ii v17))] [] (rc (v16, v17, M18)))
      (by intro v16 v17 M18 hv16 hv17; exact go_none)
      (by
      intro rc5_19 hrc5_19 v16 v17 M18 hv16 hv17
      unfold f_X2_beginGift_L5_39
      dsimp only
      refine go_iload X dX2_beginGift_5 3 rfl ?_
      refine go_bipush (v := 30) X dX2_beginGift_7 (by decide) ?_
      refine go_icmp_ge (tgt := 85) X dX2_beginGift_9 rfl hv17 kI_30 (fun c20 => ?_) (fun c20 => ?_)
      · refine go_sub [0, 1, 2] rfl ?_
        exact hJ85_3 v16 M18 hv16
      · refine go_iload_n X dX2_beginGift_12 rfl 2 rfl ?_
        refine go_iconst (v := (-1)) X dX2_beginGift_13 rfl ?_
        refine go_icmp_ne (tgt := 85) X dX2_beginGift_14 rfl hv16 kI_m1 (fun c21 => ?_) (fun c21 => ?_)
        · refine go_sub [0, 1, 2] rfl ?_
          exact hJ85_3 v16 M18 hv16
        · refine go_aload_n X dX2_beginGift_17 rfl 1 rfl ?_
          refine go_geti (i := 2) X fc4 dX2_beginGift_18 (nR hr1) (tR hr1) (Nat.le_of_ble_eq_true rfl) rfl lw176 rfl (fun v22 hv22 => ?_)
          refine go_iconst (v := 1) X dX2_beginGift_21 rfl ?_
          refine go_iadd X dX2_beginGift_22 hv22 kI_1 (fun v23 hv23 => ?_)
          refine go_aload_n X dX2_beginGift_23 rfl 0 rfl ?_
          refine go_getc (i := 5) X fc2 dX2_beginGift_24 tcn310 tc310 (Nat.le_of_ble_eq_true rfl) rfl lw154 rfl ?_
          refine go_geti (i := 0) X fc8 dX2_beginGift_27 tcn283 tc283 (Nat.le_of_ble_eq_true rfl) rfl lw177 rfl (fun v24 hv24 => ?_)
          refine go_icmp_ge (tgt := 85) X dX2_beginGift_30 rfl hv23 hv24 (fun c25 => ?_) (fun c25 => ?_)
          · refine go_sub [0, 1, 2] rfl ?_
            exact hJ85_3 v16 M18 hv16
          · refine go_aload_n X dX2_beginGift_33 rfl 1 rfl ?_
            refine go_dup X dX2_beginGift_34 rfl ?_
            refine go_geti (i := 2) X fc4 dX2_beginGift_35 (nR hr1) (tR hr1) (Nat.le_of_ble_eq_true rfl) rfl lw176 rfl (fun v26 hv26 => ?_)
            refine go_iconst (v := 1) X dX2_beginGift_38 rfl ?_
            refine go_iadd X dX2_beginGift_39 hv26 kI_1 (fun v27 hv27 => ?_)
            refine go_puti (i := 2) X fc4 dX2_beginGift_40 (nR hr1) (tR hr1) (Nat.le_of_ble_eq_true rfl) rfl lw176 rfl rfl rfl hv27 (fun M28 => ?_)
            refine go_aload_n X dX2_beginGift_43 rfl 1 rfl ?_
            refine go_aload_n X dX2_beginGift_44 rfl 0 rfl ?_
            refine go_getc (i := 5) X fc2 dX2_beginGift_45 tcn310 tc310 (Nat.le_of_ble_eq_true rfl) rfl lw154 rfl ?_
            refine go_aload_n X dX2_beginGift_48 rfl 1 rfl ?_
            refine go_geti (i := 2) X fc4 dX2_beginGift_49 (nR hr1) (tR hr1) (Nat.le_of_ble_eq_true rfl) rfl lw176 rfl (fun v29 hv29 => ?_)
            refine goI (fun H locs ls r ho hW hL => runV X (ok_X8_nowOf l D base M28 283 isT_283 v29 hv29 H.size r ho) dX2_beginGift_52 lw186 lw187 lw188 lw189 ⟨lw171, cy_X8_nowOf, Nat.le_of_ble_eq_true rfl, Nat.le_of_ble_eq_true rfl⟩ rfl tcn283 tc283 rfl rfl rfl rfl (Nat.le_of_ble_eq_true rfl) hW hL hk0) (fun v31 M30 hv31 => ?_)
            refine go_puti (i := 3) X fc4 dX2_beginGift_55 (nR hr1) (tR hr1) (Nat.le_of_ble_eq_true rfl) rfl lw178 rfl rfl rfl hv31 (fun M32 => ?_)
            refine go_aload_n X dX2_beginGift_58 rfl 1 rfl ?_
            refine go_iconst (v := 0) X dX2_beginGift_59 rfl ?_
            refine go_puti (i := 4) X fc4 dX2_beginGift_60 (nR hr1) (tR hr1) (Nat.le_of_ble_eq_true rfl) rfl lw179 rfl rfl rfl kI_0 (fun M33 => ?_)
            refine go_aload_n X dX2_beginGift_63 rfl 0 rfl ?_
            refine go_getc (i := 3) X fc2 dX2_beginGift_64 tcn310 tc310 (Nat.le_of_ble_eq_true rfl) rfl lw152 rfl ?_
            refine go_aload_n X dX2_beginGift_67 rfl 1 rfl ?_
            refine go_geti (i := 3) X fc4 dX2_beginGift_68 (nR hr1) (tR hr1) (Nat.le_of_ble_eq_true rfl) rfl lw178 rfl (fun v34 hv34 => ?_)
            refine go_aload_n X dX2_beginGift_71 rfl 1 rfl ?_
            refine go_geti (i := 1) X fc4 dX2_beginGift_72 (nR hr1) (tR hr1) (Nat.le_of_ble_eq_true rfl) rfl lw180 rfl (fun v35 hv35 => ?_)
            refine goI (fun H locs ls r ho hW hL => runV X (ok_X1_firstGiftOf l D base M33 v34 hv34 v35 hv35 H.size r ho) dX2_beginGift_75 lw190 lw191 lw192 lw105 ⟨lw135, cy_X1_firstGiftOf, Nat.le_of_ble_eq_true rfl, Nat.le_of_ble_eq_true rfl⟩ rfl tcn25 tc25 rfl rfl rfl rfl (Nat.le_of_ble_eq_true rfl) hW hL hk0) (fun v37 M36 hv37 => ?_)
            refine go_istore_n (i := 3) (L' := [(3, .int (Ii v37)), (0, .ref (base + 310)), (1, .ref (base + r1)), (4, .int (Ii v17))]) X dX2_beginGift_78 rfl (by decide) rfl ?_
            refine go_iinc (i := 4) (L' := fun v => [(4, .int (Ii v)), (3, .int (Ii v37)), (0, .ref (base + 310)), (1, .ref (base + r1))]) X dX2_beginGift_79 hv17 kI_1 (j := 3) rfl (by decide) (fun _ => rfl) (fun v38 hv38 => ?_)
            refine go_goto (tgt := 5) X dX2_beginGift_82 rfl ?_
            refine go_sub [2, 3, 1, 0] rfl ?_
            exact hrc5_19 v37 v38 M36 hv37 hv38
      )
      FU a2 0 M ha2 kI_0
def f_X8_parentOf (h : Nat) (a1 : Int) (M : Mm) : Rs :=
Lt (fun (v1 : Int) (M2 : Mm) => 
some (v1, M2)) fun J20_3 =>
Lt (fun (M4 : Mm) => 
J20_3 ((-1)) M4) fun J19_5 =>
if a1 < 0 then (
J19_5 M) else (
if 30 ≤ a1 then (
J19_5 M) else (
gd (0 ≤ a1 ∧ a1 < 30) <|
Lt (M (h + 1) a1.toNat) fun v8 =>
J20_3 v8 M))
theorem cy_X8_parentOf : yX8_parentOf.cls ≠ "java/lang/invoke/MethodHandle" ∧ yX8_parentOf.cls ≠ "java/lang/invoke/VarHandle" ∧ (parseMethodDescriptor yX8_parentOf.desc).map (fun d => d.parameters.length) = some 1 := ⟨by decide +kernel, by decide +kernel, by decide +kernel⟩
set_option maxRecDepth 20000 in
theorem ok_X8_parentOf (l : Launch) (D : Dd) (base : Nat) (M : Mm) (h : Nat) (hh : isT h) (a1 : Int) (ha1 : i32 a1) : OkI l D TC 681 base yX8_parentOf cX8_parentOf 2 (some .int) 0 0 [.ref (base + h), .int (Ii a1)] M i32 (f_X8_parentOf h a1 M) := by
  refine metI (by decide +kernel) [(0, .ref (base + h)), (1, .int (Ii a1))] rfl (Nat.le_of_ble_eq_true rfl) (fun p e s m args below meth c X hrt hlk => ?_)
  have X : Cx p s m args c cX8_parentOf D 2 RX8 := X
  unfold f_X8_parentOf
  refine go_iload_n X dX8_parentOf_0 rfl 1 rfl ?_
  refine go_lt (fun J => ∀ (v1 : Int) (M2 : Mm), i32 v1 → Go p l e (rmO 0 0) s m args below meth c D TC 681 base 2 0 0 (FinI D TC 681 base below args s i32) M2 20 [] [.int (Ii v1)] (J v1 M2)) (by
      intro v1 M2 hv1
      exact go_ireturn X hrt hlk dX8_parentOf_20 hv1
      )
      (fun J20_3 hJ20_3 => ?_)
  refine go_lt (fun J => ∀ (M4 : Mm), Go p l e (rmO 0 0) s m args below meth c D TC 681 base 2 0 0 (FinI D TC 681 base below args s i32) M4 19 [] [] (J M4)) (by
      intro M4
      refine go_iconst (v := (-1)) X dX8_parentOf_19 rfl ?_
      exact hJ20_3 ((-1)) M4 kI_m1
      )
      (fun J19_5 hJ19_5 => ?_)
  refine go_if_lt (tgt := 19) X dX8_parentOf_1 rfl ha1 (fun c6 => ?_) (fun c6 => ?_)
  · refine go_sub [] rfl ?_
    exact hJ19_5 M
  · refine go_iload_n X dX8_parentOf_4 rfl 1 rfl ?_
    refine go_bipush (v := 30) X dX8_parentOf_5 (by decide) ?_
    refine go_icmp_ge (tgt := 19) X dX8_parentOf_7 rfl ha1 kI_30 (fun c7 => ?_) (fun c7 => ?_)
    · refine go_sub [] rfl ?_
      exact hJ19_5 M
    · refine go_aload_n X dX8_parentOf_10 rfl 0 rfl ?_
      refine go_getc (i := 2) X fc8 dX8_parentOf_11 (nT hh) (tT hh) (Nat.le_of_ble_eq_true rfl) rfl lw199 rfl ?_
      refine go_iload_n X dX8_parentOf_14 rfl 1 rfl ?_
      refine go_iaload X dX8_parentOf_15 (nTa1 hh) (tTa1 hh) ha1 (fun v8 hv8 => ?_)
      refine go_goto (tgt := 20) X dX8_parentOf_16 rfl ?_
      refine go_sub [] rfl ?_
      exact hJ20_3 v8 M hv8
def f_X8_placeOf (h : Nat) (a1 : Int) (M : Mm) : Rs :=
Lt (fun (v1 : Int) (M2 : Mm) => 
some (v1, M2)) fun J20_3 =>
Lt (fun (M4 : Mm) => 
J20_3 ((-1)) M4) fun J19_5 =>
if a1 < 0 then (
J19_5 M) else (
if 30 ≤ a1 then (
J19_5 M) else (
gd (0 ≤ a1 ∧ a1 < 30) <|
Lt (M (h + 2) a1.toNat) fun v8 =>
J20_3 v8 M))
theorem cy_X8_placeOf : yX8_placeOf.cls ≠ "java/lang/invoke/MethodHandle" ∧ yX8_placeOf.cls ≠ "java/lang/invoke/VarHandle" ∧ (parseMethodDescriptor yX8_placeOf.desc).map (fun d => d.parameters.length) = some 1 := ⟨by decide +kernel, by decide +kernel, by decide +kernel⟩
set_option maxRecDepth 20000 in
theorem ok_X8_placeOf (l : Launch) (D : Dd) (base : Nat) (M : Mm) (h : Nat) (hh : isT h) (a1 : Int) (ha1 : i32 a1) : OkI l D TC 681 base yX8_placeOf cX8_placeOf 2 (some .int) 0 0 [.ref (base + h), .int (Ii a1)] M i32 (f_X8_placeOf h a1 M) := by
  refine metI (by decide +kernel) [(0, .ref (base + h)), (1, .int (Ii a1))] rfl (Nat.le_of_ble_eq_true rfl) (fun p e s m args below meth c X hrt hlk => ?_)
  have X : Cx p s m args c cX8_placeOf D 2 RX8 := X
  unfold f_X8_placeOf
  refine go_iload_n X dX8_placeOf_0 rfl 1 rfl ?_
  refine go_lt (fun J => ∀ (v1 : Int) (M2 : Mm), i32 v1 → Go p l e (rmO 0 0) s m args below meth c D TC 681 base 2 0 0 (FinI D TC 681 base below args s i32) M2 20 [] [.int (Ii v1)] (J v1 M2)) (by
      intro v1 M2 hv1
      exact go_ireturn X hrt hlk dX8_placeOf_20 hv1
      )
      (fun J20_3 hJ20_3 => ?_)
  refine go_lt (fun J => ∀ (M4 : Mm), Go p l e (rmO 0 0) s m args below meth c D TC 681 base 2 0 0 (FinI D TC 681 base below args s i32) M4 19 [] [] (J M4)) (by
      intro M4
      refine go_iconst (v := (-1)) X dX8_placeOf_19 rfl ?_
      exact hJ20_3 ((-1)) M4 kI_m1
      )
      (fun J19_5 hJ19_5 => ?_)
  refine go_if_lt (tgt := 19) X dX8_placeOf_1 rfl ha1 (fun c6 => ?_) (fun c6 => ?_)
  · refine go_sub [] rfl ?_
    exact hJ19_5 M
  · refine go_iload_n X dX8_placeOf_4 rfl 1 rfl ?_
    refine go_bipush (v := 30) X dX8_placeOf_5 (by decide) ?_
    refine go_icmp_ge (tgt := 19) X dX8_placeOf_7 rfl ha1 kI_30 (fun c7 => ?_) (fun c7 => ?_)
    · refine go_sub [] rfl ?_
      exact hJ19_5 M
    · refine go_aload_n X dX8_placeOf_10 rfl 0 rfl ?_
      refine go_getc (i := 3) X fc8 dX8_placeOf_11 (nT hh) (tT hh) (Nat.le_of_ble_eq_true rfl) rfl lw201 rfl ?_
      refine go_iload_n X dX8_placeOf_14 rfl 1 rfl ?_
      refine go_iaload X dX8_placeOf_15 (nTa2 hh) (tTa2 hh) ha1 (fun v8 hv8 => ?_)
      refine go_goto (tgt := 20) X dX8_placeOf_16 rfl ?_
      refine go_sub [] rfl ?_
      exact hJ20_3 v8 M hv8
def f_X2_beginEquation (r1 : Nat) (a2 : Int) (a3 : Int) (M : Mm) : Rs :=
Lt (up M r1 2 a2) fun M1 =>
Cl (f_X8_nowOf 283 a2 M1) fun v3 M2 =>
Lt (up M2 r1 3 v3) fun M4 =>
Lt (M4 r1 3) fun v5 =>
Lt (M4 r1 1) fun v6 =>
Cl (f_X1_resolvedFor v5 v6 a3 M4) fun v8 M7 =>
Lt (M7 r1 3) fun v9 =>
Lt (M7 r1 1) fun v10 =>
Cl (f_X1_hopsFor v9 v10 a3 M7) fun v12 M11 =>
Lt (up M11 r1 4 v12) fun M13 =>
Cl (f_X1_rowOf v8 M13) fun v15 M14 =>
Lt (up M14 r1 5 v15) fun M17 =>
Lt (up M17 r1 6 0) fun M18 =>
Lt (fun (v19 : Int) (M20 : Mm) => 
Lt (fun (M22 : Mm) => 
some (0, M22)) fun J114_23 =>
Lt (fun (M24 : Mm) => 
Cl (f_X4_settle r1 v8 M24) fun _ M26 =>
J114_23 M26) fun J108_25 =>
if v8 = ((-3)) then (
J108_25 M20) else (
if ¬ v8 = ((-1)) then (
J114_23 M20) else (
if ¬ v19 = 0 then (
J114_23 M20) else (
J108_25 M20)))) fun J88_21 =>
Lt (fun (M30 : Mm) => 
J88_21 0 M30) fun J87_31 =>
if a2 = ((-1)) then (
J87_31 M18) else (
if a3 = ((-1)) then (
J87_31 M18) else (
J88_21 1 M18))
theorem cy_X2_beginEquation : yX2_beginEquation.cls ≠ "java/lang/invoke/MethodHandle" ∧ yX2_beginEquation.cls ≠ "java/lang/invoke/VarHandle" ∧ (parseMethodDescriptor yX2_beginEquation.desc).map (fun d => d.parameters.length) = some 3 := ⟨by decide +kernel, by decide +kernel, by decide +kernel⟩
set_option maxRecDepth 20000 in
theorem ok_X2_beginEquation (l : Launch) (D : Dd) (base : Nat) (M : Mm) (r1 : Nat) (hr1 : isR r1) (a2 : Int) (ha2 : i32 a2) (a3 : Int) (ha3 : i32 a3) : OkV l D TC 681 base yX2_beginEquation cX2_beginEquation 6 none 2 45 [.ref (base + 310), .ref (base + r1), .int (Ii a2), .int (Ii a3)] M (f_X2_beginEquation r1 a2 a3 M) := by
  refine metV (by decide +kernel) [(0, .ref (base + 310)), (1, .ref (base + r1)), (2, .int (Ii a2)), (3, .int (Ii a3))] rfl (Nat.le_of_ble_eq_true rfl) (fun p e s m args below meth c X hrt hlk => ?_)
  have X : Cx p s m args c cX2_beginEquation D 6 RX2 := X
  unfold f_X2_beginEquation
  refine go_aload_n X dX2_beginEquation_0 rfl 1 rfl ?_
  refine go_iload_n X dX2_beginEquation_1 rfl 2 rfl ?_
  refine go_puti (i := 2) X fc4 dX2_beginEquation_2 (nR hr1) (tR hr1) (Nat.le_of_ble_eq_true rfl) rfl lw176 rfl rfl rfl ha2 (fun M1 => ?_)
  refine go_aload_n X dX2_beginEquation_5 rfl 1 rfl ?_
  refine go_aload_n X dX2_beginEquation_6 rfl 0 rfl ?_
  refine go_getc (i := 5) X fc2 dX2_beginEquation_7 tcn310 tc310 (Nat.le_of_ble_eq_true rfl) rfl lw154 rfl ?_
  refine go_iload_n X dX2_beginEquation_10 rfl 2 rfl ?_
  refine goI (fun H locs ls r ho hW hL => runV X (ok_X8_nowOf l D base M1 283 isT_283 a2 ha2 H.size r ho) dX2_beginEquation_11 lw186 lw187 lw188 lw189 ⟨lw171, cy_X8_nowOf, Nat.le_of_ble_eq_true rfl, Nat.le_of_ble_eq_true rfl⟩ rfl tcn283 tc283 rfl rfl rfl rfl (Nat.le_of_ble_eq_true rfl) hW hL hk0) (fun v3 M2 hv3 => ?_)
  refine go_puti (i := 3) X fc4 dX2_beginEquation_14 (nR hr1) (tR hr1) (Nat.le_of_ble_eq_true rfl) rfl lw178 rfl rfl rfl hv3 (fun M4 => ?_)
  refine go_aload_n X dX2_beginEquation_17 rfl 0 rfl ?_
  refine go_getc (i := 3) X fc2 dX2_beginEquation_18 tcn310 tc310 (Nat.le_of_ble_eq_true rfl) rfl lw152 rfl ?_
  refine go_aload_n X dX2_beginEquation_21 rfl 1 rfl ?_
  refine go_geti (i := 3) X fc4 dX2_beginEquation_22 (nR hr1) (tR hr1) (Nat.le_of_ble_eq_true rfl) rfl lw178 rfl (fun v5 hv5 => ?_)
  refine go_aload_n X dX2_beginEquation_25 rfl 1 rfl ?_
  refine go_geti (i := 1) X fc4 dX2_beginEquation_26 (nR hr1) (tR hr1) (Nat.le_of_ble_eq_true rfl) rfl lw180 rfl (fun v6 hv6 => ?_)
  refine go_iload_n X dX2_beginEquation_29 rfl 3 rfl ?_
  refine goI (fun H locs ls r ho hW hL => runV X (ok_X1_resolvedFor l D base M4 v5 hv5 v6 hv6 a3 ha3 H.size r ho) dX2_beginEquation_30 lw202 lw203 lw204 lw105 ⟨lw133, cy_X1_resolvedFor, Nat.le_of_ble_eq_true rfl, Nat.le_of_ble_eq_true rfl⟩ rfl tcn25 tc25 rfl rfl rfl rfl (Nat.le_of_ble_eq_true rfl) hW hL hk0) (fun v8 M7 hv8 => ?_)
  refine go_istore (i := 4) (L' := [(4, .int (Ii v8)), (0, .ref (base + 310)), (1, .ref (base + r1)), (2, .int (Ii a2)), (3, .int (Ii a3))]) X dX2_beginEquation_33 (by decide) rfl ?_
  refine go_aload_n X dX2_beginEquation_35 rfl 2 rfl ?_
  refine go_aload_n X dX2_beginEquation_36 rfl 1 rfl ?_
  refine go_getc (i := 3) X fc2 dX2_beginEquation_37 tcn310 tc310 (Nat.le_of_ble_eq_true rfl) rfl lw152 rfl ?_
  refine go_aload_n X dX2_beginEquation_40 rfl 2 rfl ?_
  refine go_geti (i := 3) X fc4 dX2_beginEquation_41 (nR hr1) (tR hr1) (Nat.le_of_ble_eq_true rfl) rfl lw178 rfl (fun v9 hv9 => ?_)
  refine go_aload_n X dX2_beginEquation_44 rfl 2 rfl ?_
  refine go_geti (i := 1) X fc4 dX2_beginEquation_45 (nR hr1) (tR hr1) (Nat.le_of_ble_eq_true rfl) rfl lw180 rfl (fun v10 hv10 => ?_)
  refine go_iload_n X dX2_beginEquation_48 rfl 4 rfl ?_
  refine goI (fun H locs ls r ho hW hL => runV X (ok_X1_hopsFor l D base M7 v9 hv9 v10 hv10 a3 ha3 H.size r ho) dX2_beginEquation_49 lw205 lw206 lw207 lw105 ⟨lw134, cy_X1_hopsFor, Nat.le_of_ble_eq_true rfl, Nat.le_of_ble_eq_true rfl⟩ rfl tcn25 tc25 rfl rfl rfl rfl (Nat.le_of_ble_eq_true rfl) hW hL hk0) (fun v12 M11 hv12 => ?_)
  refine go_puti (i := 4) X fc4 dX2_beginEquation_52 (nR hr1) (tR hr1) (Nat.le_of_ble_eq_true rfl) rfl lw179 rfl rfl rfl hv12 (fun M13 => ?_)
  refine go_aload_n X dX2_beginEquation_55 rfl 2 rfl ?_
  refine go_aload_n X dX2_beginEquation_56 rfl 1 rfl ?_
  refine go_getc (i := 3) X fc2 dX2_beginEquation_57 tcn310 tc310 (Nat.le_of_ble_eq_true rfl) rfl lw152 rfl ?_
  refine go_iload X dX2_beginEquation_60 0 rfl ?_
  refine goR (fun H locs ls r ho hW hL => runV X (ok_X1_rowOf l D base M13 v8 hv8 H.size r ho) dX2_beginEquation_62 lw193 lw121 lw122 lw105 ⟨lw63, cy_X1_rowOf, Nat.le_of_ble_eq_true rfl, Nat.le_of_ble_eq_true rfl⟩ rfl tcn25 tc25 rfl rfl rfl rfl (Nat.le_of_ble_eq_true rfl) hW hL hk0) (fun v15 M14 => ?_)
  refine go_putq (i := 5) X fc4 dX2_beginEquation_65 (nR hr1) (tR hr1) (Nat.le_of_ble_eq_true rfl) rfl lw184 rfl rfl rfl rfl (fun M17 => ?_)
  refine go_aload_n X dX2_beginEquation_68 rfl 2 rfl ?_
  refine go_iconst (v := 0) X dX2_beginEquation_69 rfl ?_
  refine go_puti (i := 6) X fc4 dX2_beginEquation_70 (nR hr1) (tR hr1) (Nat.le_of_ble_eq_true rfl) rfl lw183 rfl rfl rfl kI_0 (fun M18 => ?_)
  refine go_iload_n X dX2_beginEquation_73 rfl 3 rfl ?_
  refine go_iconst (v := (-1)) X dX2_beginEquation_74 rfl ?_
  refine go_lt (fun J => ∀ (v19 : Int) (M20 : Mm), bo v19 → Go p l e (rmO 2 45) s m args below meth c D TC 681 base 6 0 0 (FinV D TC 681 base below args s) M20 88 [(1, .ref (base + r1)), (4, .int (Ii v8))] [.int (Ii v19)] (J v19 M20)) (by
      intro v19 M20 hv19
      refine go_istore (i := 5) (L' := [(5, .int (Ii v19)), (1, .ref (base + r1)), (4, .int (Ii v8))]) X dX2_beginEquation_88 (by decide) rfl ?_
      refine go_iload X dX2_beginEquation_90 2 rfl ?_
      refine go_bipush (v := (-3)) X dX2_beginEquation_92 (by decide) ?_
      refine go_lt (fun J => ∀ (M22 : Mm), Go p l e (rmO 2 45) s m args below meth c D TC 681 base 6 0 0 (FinV D TC 681 base below args s) M22 114 [] [] (J M22)) (by
          intro M22
          exact go_vreturn X hrt hlk dX2_beginEquation_114
          )
          (fun J114_23 hJ114_23 => ?_)
      refine go_lt (fun J => ∀ (M24 : Mm), Go p l e (rmO 2 45) s m args below meth c D TC 681 base 6 0 0 (FinV D TC 681 base below args s) M24 108 [(1, .ref (base + r1)), (4, .int (Ii v8))] [] (J M24)) (by
          intro M24
          refine go_aload_n X dX2_beginEquation_108 rfl 0 rfl ?_
          refine go_iload X dX2_beginEquation_109 1 rfl ?_
          refine goV (fun H locs ls r ho hW hL => runV X (ok_X4_settle l D base M24 r1 hr1 v8 hv8 H.size r ho) dX2_beginEquation_111 lw194 lw195 lw196 lw157 ⟨lw173, cy_X4_settle, Nat.le_of_ble_eq_true rfl, Nat.le_of_ble_eq_true rfl⟩ rfl (nR hr1) (tR hr1) rfl rfl rfl rfl (Nat.le_of_ble_eq_true rfl) hW hL hk0) (fun _ M26 => ?_)
          refine go_sub [] rfl ?_
          exact hJ114_23 M26
          )
          (fun J108_25 hJ108_25 => ?_)
      refine go_icmp_eq (tgt := 108) X dX2_beginEquation_94 rfl hv8 kI_m3 (fun c27 => ?_) (fun c27 => ?_)
      · refine go_sub [1, 2] rfl ?_
        exact hJ108_25 M20
      · refine go_iload X dX2_beginEquation_97 2 rfl ?_
        refine go_iconst (v := (-1)) X dX2_beginEquation_99 rfl ?_
        refine go_icmp_ne (tgt := 114) X dX2_beginEquation_100 rfl hv8 kI_m1 (fun c28 => ?_) (fun c28 => ?_)
        · refine go_sub [] rfl ?_
          exact hJ114_23 M20
        · refine go_iload X dX2_beginEquation_103 0 rfl ?_
          refine go_if_ne (tgt := 114) X dX2_beginEquation_105 rfl (bo_i32 hv19) (fun c29 => ?_) (fun c29 => ?_)
          · refine go_sub [] rfl ?_
            exact hJ114_23 M20
          · refine go_sub [1, 2] rfl ?_
            exact hJ108_25 M20
      )
      (fun J88_21 hJ88_21 => ?_)
  refine go_lt (fun J => ∀ (M30 : Mm), Go p l e (rmO 2 45) s m args below meth c D TC 681 base 6 0 0 (FinV D TC 681 base below args s) M30 87 [(1, .ref (base + r1)), (4, .int (Ii v8))] [] (J M30)) (by
      intro M30
      refine go_iconst (v := 0) X dX2_beginEquation_87 rfl ?_
      exact hJ88_21 0 M30 (Or.inl rfl)
      )
      (fun J87_31 hJ87_31 => ?_)
  refine go_icmp_eq (tgt := 87) X dX2_beginEquation_75 rfl ha2 kI_m1 (fun c32 => ?_) (fun c32 => ?_)
  · refine go_sub [2, 0] rfl ?_
    exact hJ87_31 M18
  · refine go_iload_n X dX2_beginEquation_78 rfl 4 rfl ?_
    refine go_iconst (v := (-1)) X dX2_beginEquation_79 rfl ?_
    refine go_icmp_eq (tgt := 87) X dX2_beginEquation_80 rfl ha3 kI_m1 (fun c33 => ?_) (fun c33 => ?_)
    · refine go_sub [2, 0] rfl ?_
      exact hJ87_31 M18
    · refine go_iconst (v := 1) X dX2_beginEquation_83 rfl ?_
      refine go_goto (tgt := 88) X dX2_beginEquation_84 rfl ?_
      refine go_sub [2, 0] rfl ?_
      exact hJ88_21 1 M18 (Or.inr rfl)
def f_X2_begin (a1 : Int) (M : Mm) : Rs :=
Lt (M 310 9) fun v1 =>
Lt (wr (v1 + 1)) fun v2 =>
Lt (up M 310 9 v2) fun M3 =>
Cl (f_X2_topFrame M3) fun v5 M4 =>
if ¬ v5 < 0 then (
Cl (f_X2_setOpen a1 1 M4) fun _ M7 =>
gd (¬ v5 < 0 ∧ isR v5.toNat) <|
Lt (wr (Int.tdiv a1 6)) fun v9 =>
Lt (up M7 v5.toNat 0 v9) fun M10 =>
Lt (jrem a1 6) fun v11 =>
Lt (up M10 v5.toNat 1 v11) fun M12 =>
Lt (M12 v5.toNat 0) fun v13 =>
Cl (f_X11_bitOf v13 M12) fun v15 M14 =>
Lt (up M14 v5.toNat 7 v15) fun M16 =>
Lt (up M16 v5.toNat 9 0) fun M17 =>
Lt (up M17 v5.toNat 5 ((-1))) fun M18 =>
Lt (M18 v5.toNat 1) fun v19 =>
Cl (f_X5_kindOf v19 M18) fun v21 M20 =>
Lt (fun (M22 : Mm) => 
some (0, M22)) fun J188_23 =>
if ¬ v21 = 2 then (
if ¬ v21 = 1 then (
Lt (M20 v5.toNat 0) fun v26 =>
Cl (f_X2_beginEquation v5.toNat v26 ((-1)) M20) fun _ M27 =>
J188_23 M27) else (
Lt (M20 v5.toNat 7) fun v28 =>
Lt (M20 v5.toNat 0) fun v29 =>
Cl (f_X8_parentOf 283 v29 M20) fun v31 M30 =>
Cl (f_X11_bitOf v31 M30) fun v33 M32 =>
Lt (jor v28 v33) fun v34 =>
Lt (up M32 v5.toNat 7 v34) fun M35 =>
Lt (M35 v5.toNat 0) fun v36 =>
Cl (f_X8_parentOf 283 v36 M35) fun v38 M37 =>
Lt (M37 v5.toNat 0) fun v39 =>
Cl (f_X8_placeOf 283 v39 M37) fun v41 M40 =>
Cl (f_X2_beginEquation v5.toNat v38 v41 M40) fun _ M42 =>
J188_23 M42)) else (
Lt (M20 v5.toNat 7) fun v43 =>
Lt (jor v43 1073741824) fun v44 =>
Lt (up M20 v5.toNat 7 v44) fun M45 =>
Lt (up M45 v5.toNat 12 0) fun M46 =>
Lt (up M46 v5.toNat 2 ((-1))) fun M47 =>
Cl (f_X2_beginGift v5.toNat ((-1)) M47) fun _ M48 =>
J188_23 M48)) else (
Lt (M4 310 9) fun v49 =>
Lt (wr (v49 - 1)) fun v50 =>
Lt (up M4 310 9 v50) fun M51 =>
some (0, M51))
theorem cy_X2_begin : yX2_begin.cls ≠ "java/lang/invoke/MethodHandle" ∧ yX2_begin.cls ≠ "java/lang/invoke/VarHandle" ∧ (parseMethodDescriptor yX2_begin.desc).map (fun d => d.parameters.length) = some 1 := ⟨by decide +kernel, by decide +kernel, by decide +kernel⟩
set_option maxRecDepth 20000 in
theorem ok_X2_begin (l : Launch) (D : Dd) (base : Nat) (M : Mm) (a1 : Int) (ha1 : i32 a1) : OkV l D TC 681 base yX2_begin cX2_begin 4 none 3 70 [.ref (base + 310), .int (Ii a1)] M (f_X2_begin a1 M) := by
  refine metV (by decide +kernel) [(0, .ref (base + 310)), (1, .int (Ii a1))] rfl (Nat.le_of_ble_eq_true rfl) (fun p e s m args below meth c X hrt hlk => ?_)
  have X : Cx p s m args c cX2_begin D 4 RX2 := X
  unfold f_X2_begin
  refine go_aload_n X dX2_begin_0 rfl 0 rfl ?_
  refine go_dup X dX2_begin_1 rfl ?_
  refine go_geti (i := 9) X fc2 dX2_begin_2 tcn310 tc310 (Nat.le_of_ble_eq_true rfl) rfl lw165 rfl (fun v1 hv1 => ?_)
  refine go_iconst (v := 1) X dX2_begin_5 rfl ?_
  refine go_iadd X dX2_begin_6 hv1 kI_1 (fun v2 hv2 => ?_)
  refine go_puti (i := 9) X fc2 dX2_begin_7 tcn310 tc310 (Nat.le_of_ble_eq_true rfl) rfl lw165 rfl rfl rfl hv2 (fun M3 => ?_)
  refine go_aload_n X dX2_begin_10 rfl 0 rfl ?_
  refine goR (fun H locs ls r ho hW hL => runV X (ok_X2_topFrame l D base M3  H.size r ho) dX2_begin_11 lw213 lw214 lw215 lw216 ⟨lw164, cy_X2_topFrame, Nat.le_of_ble_eq_true rfl, Nat.le_of_ble_eq_true rfl⟩ rfl tcn310 tc310 rfl rfl rfl rfl (Nat.le_of_ble_eq_true rfl) hW hL hk0) (fun v5 M4 => ?_)
  refine go_astore_nQ (i := 2) (L' := [(2, rv base v5), (0, .ref (base + 310)), (1, .int (Ii a1))]) X dX2_begin_14 rfl (by decide) rfl ?_
  refine go_aload_nQ X dX2_begin_15 rfl 0 rfl ?_
  refine go_ifnonnull (tgt := 30) X dX2_begin_16 rfl (fun c6 => ?_) (fun c6 => ?_)
  · refine go_aload_n X dX2_begin_30 rfl 1 rfl ?_
    refine go_iload_n X dX2_begin_31 rfl 2 rfl ?_
    refine go_iconst (v := 1) X dX2_begin_32 rfl ?_
    refine goV (fun H locs ls r ho hW hL => runV X (ok_X2_setOpen l D base M4 a1 ha1 1 (Or.inr rfl) H.size r ho) dX2_begin_33 lw217 lw218 lw219 lw216 ⟨lw166, cy_X2_setOpen, Nat.le_of_ble_eq_true rfl, Nat.le_of_ble_eq_true rfl⟩ rfl tcn310 tc310 rfl rfl rfl rfl (Nat.le_of_ble_eq_true rfl) hW hL hk0) (fun _ M7 => ?_)
    refine go_gd (fun g8 => ?_)
    refine go_aload_nP X dX2_begin_36 rfl 0 rfl g8.1 ?_
    refine go_iload_n X dX2_begin_37 rfl 2 rfl ?_
    refine go_bipush (v := 6) X dX2_begin_38 (by decide) ?_
    refine go_idiv X dX2_begin_40 ha1 kI_6 (by decide) (fun v9 hv9 => ?_)
    refine go_puti (i := 0) X fc4 dX2_begin_41 (nR g8.2) (tR g8.2) (Nat.le_of_ble_eq_true rfl) rfl lw209 rfl rfl rfl hv9 (fun M10 => ?_)
    refine go_aload_nP X dX2_begin_44 rfl 0 rfl g8.1 ?_
    refine go_iload_n X dX2_begin_45 rfl 2 rfl ?_
    refine go_bipush (v := 6) X dX2_begin_46 (by decide) ?_
    refine go_irem X dX2_begin_48 ha1 kI_6 (by decide) (fun v11 hv11 => ?_)
    refine go_puti (i := 1) X fc4 dX2_begin_49 (nR g8.2) (tR g8.2) (Nat.le_of_ble_eq_true rfl) rfl lw180 rfl rfl rfl hv11 (fun M12 => ?_)
    refine go_aload_nP X dX2_begin_52 rfl 0 rfl g8.1 ?_
    refine go_aload_nP X dX2_begin_53 rfl 0 rfl g8.1 ?_
    refine go_geti (i := 0) X fc4 dX2_begin_54 (nR g8.2) (tR g8.2) (Nat.le_of_ble_eq_true rfl) rfl lw209 rfl (fun v13 hv13 => ?_)
    refine goI (fun H locs ls r ho hW hL => runSN X (ok_X11_bitOf l D base M12 v13 hv13 H.size r ho) dX2_begin_57 nl35 lw220 lw19 ⟨lw167, cy_X11_bitOf, Nat.le_of_ble_eq_true rfl, Nat.le_of_ble_eq_true rfl⟩ rfl rfl (Nat.le_of_ble_eq_true rfl) hW hL hk0) (fun v15 M14 hv15 => ?_)
    refine go_puti (i := 7) X fc4 dX2_begin_60 (nR g8.2) (tR g8.2) (Nat.le_of_ble_eq_true rfl) rfl lw210 rfl rfl rfl hv15 (fun M16 => ?_)
    refine go_aload_nP X dX2_begin_63 rfl 0 rfl g8.1 ?_
    refine go_iconst (v := 0) X dX2_begin_64 rfl ?_
    refine go_putz (i := 9) X fc4 dX2_begin_65 (nR g8.2) (tR g8.2) (Nat.le_of_ble_eq_true rfl) rfl lw211 rfl rfl rfl (Or.inl rfl) (fun M17 => ?_)
    refine go_aload_nP X dX2_begin_68 rfl 0 rfl g8.1 ?_
    refine go_anull X dX2_begin_69 ?_
    refine go_putq (i := 5) X fc4 dX2_begin_70 (nR g8.2) (tR g8.2) (Nat.le_of_ble_eq_true rfl) rfl lw184 rfl rfl rfl rfl (fun M18 => ?_)
    refine go_aload_n X dX2_begin_73 rfl 1 rfl ?_
    refine go_getc (i := 2) X fc2 dX2_begin_74 tcn310 tc310 (Nat.le_of_ble_eq_true rfl) rfl lw151 rfl ?_
    refine go_aload_nP X dX2_begin_77 rfl 0 rfl g8.1 ?_
    refine go_geti (i := 1) X fc4 dX2_begin_78 (nR g8.2) (tR g8.2) (Nat.le_of_ble_eq_true rfl) rfl lw180 rfl (fun v19 hv19 => ?_)
    refine goI (fun H locs ls r ho hW hL => runV X (ok_X5_kindOf l D base M18 v19 hv19 H.size r ho) dX2_begin_81 lw221 lw222 lw223 lw80 ⟨lw168, cy_X5_kindOf, Nat.le_of_ble_eq_true rfl, Nat.le_of_ble_eq_true rfl⟩ rfl tcn1 tc1 rfl rfl rfl rfl (Nat.le_of_ble_eq_true rfl) hW hL hk0) (fun v21 M20 hv21 => ?_)
    refine go_istore_n (i := 3) (L' := [(3, .int (Ii v21)), (2, rv base v5), (0, .ref (base + 310)), (1, .int (Ii a1))]) X dX2_begin_84 rfl (by decide) (by simp [rv_cat, cat_i, cat_r, cat_l]) ?_
    refine go_iload_n X dX2_begin_85 rfl 0 rfl ?_
    refine go_iconst (v := 2) X dX2_begin_86 rfl ?_
    refine go_lt (fun J => ∀ (M22 : Mm), Go p l e (rmO 3 70) s m args below meth c D TC 681 base 4 0 0 (FinV D TC 681 base below args s) M22 188 [] [] (J M22)) (by
        intro M22
        exact go_vreturn X hrt hlk dX2_begin_188
        )
        (fun J188_23 hJ188_23 => ?_)
    refine go_icmp_ne (tgt := 120) X dX2_begin_87 rfl hv21 kI_2 (fun c24 => ?_) (fun c24 => ?_)
    · refine go_iload_n X dX2_begin_120 rfl 0 rfl ?_
      refine go_iconst (v := 1) X dX2_begin_121 rfl ?_
      refine go_icmp_ne (tgt := 178) X dX2_begin_122 rfl hv21 kI_1 (fun c25 => ?_) (fun c25 => ?_)
      · refine go_aload_n X dX2_begin_178 rfl 2 rfl ?_
        refine go_aload_nP X dX2_begin_179 rfl 1 rfl g8.1 ?_
        refine go_aload_nP X dX2_begin_180 rfl 1 rfl g8.1 ?_
        refine go_geti (i := 0) X fc4 dX2_begin_181 (nR g8.2) (tR g8.2) (Nat.le_of_ble_eq_true rfl) rfl lw209 rfl (fun v26 hv26 => ?_)
        refine go_iconst (v := (-1)) X dX2_begin_184 rfl ?_
        refine goV (fun H locs ls r ho hW hL => runV X (ok_X2_beginEquation l D base M20 v5.toNat g8.2 v26 hv26 ((-1)) kI_m1 H.size r ho) dX2_begin_185 lw233 lw234 lw235 lw216 ⟨lw208, cy_X2_beginEquation, Nat.le_of_ble_eq_true rfl, Nat.le_of_ble_eq_true rfl⟩ rfl tcn310 tc310 rfl rfl rfl rfl (Nat.le_of_ble_eq_true rfl) hW hL hk0) (fun _ M27 => ?_)
        refine go_sub [] rfl ?_
        exact hJ188_23 M27
      · refine go_aload_nP X dX2_begin_125 rfl 1 rfl g8.1 ?_
        refine go_dup X dX2_begin_126 rfl ?_
        refine go_geti (i := 7) X fc4 dX2_begin_127 (nR g8.2) (tR g8.2) (Nat.le_of_ble_eq_true rfl) rfl lw210 rfl (fun v28 hv28 => ?_)
        refine go_aload_n X dX2_begin_130 rfl 2 rfl ?_
        refine go_getc (i := 5) X fc2 dX2_begin_131 tcn310 tc310 (Nat.le_of_ble_eq_true rfl) rfl lw154 rfl ?_
        refine go_aload_nP X dX2_begin_134 rfl 1 rfl g8.1 ?_
        refine go_geti (i := 0) X fc4 dX2_begin_135 (nR g8.2) (tR g8.2) (Nat.le_of_ble_eq_true rfl) rfl lw209 rfl (fun v29 hv29 => ?_)
        refine goI (fun H locs ls r ho hW hL => runV X (ok_X8_parentOf l D base M20 283 isT_283 v29 hv29 H.size r ho) dX2_begin_138 lw227 lw228 lw229 lw189 ⟨lw198, cy_X8_parentOf, Nat.le_of_ble_eq_true rfl, Nat.le_of_ble_eq_true rfl⟩ rfl tcn283 tc283 rfl rfl rfl rfl (Nat.le_of_ble_eq_true rfl) hW hL hk0) (fun v31 M30 hv31 => ?_)
        refine goI (fun H locs ls r ho hW hL => runSN X (ok_X11_bitOf l D base M30 v31 hv31 H.size r ho) dX2_begin_141 nl35 lw220 lw19 ⟨lw167, cy_X11_bitOf, Nat.le_of_ble_eq_true rfl, Nat.le_of_ble_eq_true rfl⟩ rfl rfl (Nat.le_of_ble_eq_true rfl) hW hL hk0) (fun v33 M32 hv33 => ?_)
        refine go_ior X dX2_begin_144 hv28 hv33 (fun v34 hv34 => ?_)
        refine go_puti (i := 7) X fc4 dX2_begin_145 (nR g8.2) (tR g8.2) (Nat.le_of_ble_eq_true rfl) rfl lw210 rfl rfl rfl hv34 (fun M35 => ?_)
        refine go_aload_n X dX2_begin_148 rfl 2 rfl ?_
        refine go_aload_nP X dX2_begin_149 rfl 1 rfl g8.1 ?_
        refine go_aload_n X dX2_begin_150 rfl 2 rfl ?_
        refine go_getc (i := 5) X fc2 dX2_begin_151 tcn310 tc310 (Nat.le_of_ble_eq_true rfl) rfl lw154 rfl ?_
        refine go_aload_nP X dX2_begin_154 rfl 1 rfl g8.1 ?_
        refine go_geti (i := 0) X fc4 dX2_begin_155 (nR g8.2) (tR g8.2) (Nat.le_of_ble_eq_true rfl) rfl lw209 rfl (fun v36 hv36 => ?_)
        refine goI (fun H locs ls r ho hW hL => runV X (ok_X8_parentOf l D base M35 283 isT_283 v36 hv36 H.size r ho) dX2_begin_158 lw227 lw228 lw229 lw189 ⟨lw198, cy_X8_parentOf, Nat.le_of_ble_eq_true rfl, Nat.le_of_ble_eq_true rfl⟩ rfl tcn283 tc283 rfl rfl rfl rfl (Nat.le_of_ble_eq_true rfl) hW hL hk0) (fun v38 M37 hv38 => ?_)
        refine go_aload_n X dX2_begin_161 rfl 2 rfl ?_
        refine go_getc (i := 5) X fc2 dX2_begin_162 tcn310 tc310 (Nat.le_of_ble_eq_true rfl) rfl lw154 rfl ?_
        refine go_aload_nP X dX2_begin_165 rfl 1 rfl g8.1 ?_
        refine go_geti (i := 0) X fc4 dX2_begin_166 (nR g8.2) (tR g8.2) (Nat.le_of_ble_eq_true rfl) rfl lw209 rfl (fun v39 hv39 => ?_)
        refine goI (fun H locs ls r ho hW hL => runV X (ok_X8_placeOf l D base M37 283 isT_283 v39 hv39 H.size r ho) dX2_begin_169 lw230 lw231 lw232 lw189 ⟨lw200, cy_X8_placeOf, Nat.le_of_ble_eq_true rfl, Nat.le_of_ble_eq_true rfl⟩ rfl tcn283 tc283 rfl rfl rfl rfl (Nat.le_of_ble_eq_true rfl) hW hL hk0) (fun v41 M40 hv41 => ?_)
        refine goV (fun H locs ls r ho hW hL => runV X (ok_X2_beginEquation l D base M40 v5.toNat g8.2 v38 hv38 v41 hv41 H.size r ho) dX2_begin_172 lw233 lw234 lw235 lw216 ⟨lw208, cy_X2_beginEquation, Nat.le_of_ble_eq_true rfl, Nat.le_of_ble_eq_true rfl⟩ rfl tcn310 tc310 rfl rfl rfl rfl (Nat.le_of_ble_eq_true rfl) hW hL hk0) (fun _ M42 => ?_)
        refine go_goto (tgt := 188) X dX2_begin_175 rfl ?_
        refine go_sub [] rfl ?_
        exact hJ188_23 M42
    · refine go_aload_nP X dX2_begin_90 rfl 1 rfl g8.1 ?_
      refine go_dup X dX2_begin_91 rfl ?_
      refine go_geti (i := 7) X fc4 dX2_begin_92 (nR g8.2) (tR g8.2) (Nat.le_of_ble_eq_true rfl) rfl lw210 rfl (fun v43 hv43 => ?_)
      refine go_ldc (v := 1073741824) X dX2_begin_95 lw212 rfl ?_
      refine go_ior X dX2_begin_97 hv43 kI_1073741824 (fun v44 hv44 => ?_)
      refine go_puti (i := 7) X fc4 dX2_begin_98 (nR g8.2) (tR g8.2) (Nat.le_of_ble_eq_true rfl) rfl lw210 rfl rfl rfl hv44 (fun M45 => ?_)
      refine go_aload_nP X dX2_begin_101 rfl 1 rfl g8.1 ?_
      refine go_iconst (v := 0) X dX2_begin_102 rfl ?_
      refine go_puti (i := 12) X fc4 dX2_begin_103 (nR g8.2) (tR g8.2) (Nat.le_of_ble_eq_true rfl) rfl lw185 rfl rfl rfl kI_0 (fun M46 => ?_)
      refine go_aload_nP X dX2_begin_106 rfl 1 rfl g8.1 ?_
      refine go_iconst (v := (-1)) X dX2_begin_107 rfl ?_
      refine go_puti (i := 2) X fc4 dX2_begin_108 (nR g8.2) (tR g8.2) (Nat.le_of_ble_eq_true rfl) rfl lw176 rfl rfl rfl kI_m1 (fun M47 => ?_)
      refine go_aload_n X dX2_begin_111 rfl 2 rfl ?_
      refine go_aload_nP X dX2_begin_112 rfl 1 rfl g8.1 ?_
      refine go_iconst (v := (-1)) X dX2_begin_113 rfl ?_
      refine goV (fun H locs ls r ho hW hL => runV X (ok_X2_beginGift l D base M47 v5.toNat g8.2 ((-1)) kI_m1 H.size r ho) dX2_begin_114 lw224 lw225 lw226 lw216 ⟨lw197, cy_X2_beginGift, Nat.le_of_ble_eq_true rfl, Nat.le_of_ble_eq_true rfl⟩ rfl tcn310 tc310 rfl rfl rfl rfl (Nat.le_of_ble_eq_true rfl) hW hL hk0) (fun _ M48 => ?_)
      refine go_goto (tgt := 188) X dX2_begin_117 rfl ?_
      refine go_sub [] rfl ?_
      exact hJ188_23 M48
  · refine go_aload_n X dX2_begin_19 rfl 1 rfl ?_
    refine go_dup X dX2_begin_20 rfl ?_
    refine go_geti (i := 9) X fc2 dX2_begin_21 tcn310 tc310 (Nat.le_of_ble_eq_true rfl) rfl lw165 rfl (fun v49 hv49 => ?_)
    refine go_iconst (v := 1) X dX2_begin_24 rfl ?_
    refine go_isub X dX2_begin_25 hv49 kI_1 (fun v50 hv50 => ?_)
    refine go_puti (i := 9) X fc2 dX2_begin_26 tcn310 tc310 (Nat.le_of_ble_eq_true rfl) rfl lw165 rfl rfl rfl hv50 (fun M51 => ?_)
    exact go_vreturn X hrt hlk dX2_begin_29
def f_X3_keep (h : Nat) (a1 : Int) (a2 : Int) (a3 : Int) (M : Mm) : Rs :=
Cl (f_X11_setEntry (h + 1) a1 a2 M) fun _ M1 =>
Cl (f_X11_setEntry (h + 2) a1 a3 M1) fun _ M2 =>
Lt (M2 h 0) fun v3 =>
Lt (wr (v3 + 1)) fun v4 =>
Lt (up M2 h 0 v4) fun M5 =>
some (0, M5)
theorem cy_X3_keep : yX3_keep.cls ≠ "java/lang/invoke/MethodHandle" ∧ yX3_keep.cls ≠ "java/lang/invoke/VarHandle" ∧ (parseMethodDescriptor yX3_keep.desc).map (fun d => d.parameters.length) = some 3 := ⟨by decide +kernel, by decide +kernel, by decide +kernel⟩
set_option maxRecDepth 20000 in
theorem ok_X3_keep (l : Launch) (D : Dd) (base : Nat) (M : Mm) (h : Nat) (hh : isF h) (a1 : Int) (ha1 : i32 a1) (a2 : Int) (ha2 : i32 a2) (a3 : Int) (ha3 : i32 a3) : OkV l D TC 681 base yX3_keep cX3_keep 4 none 1 22 [.ref (base + h), .int (Ii a1), .int (Ii a2), .int (Ii a3)] M (f_X3_keep h a1 a2 a3 M) := by
  refine metV (by decide +kernel) [(0, .ref (base + h)), (1, .int (Ii a1)), (2, .int (Ii a2)), (3, .int (Ii a3))] rfl (Nat.le_of_ble_eq_true rfl) (fun p e s m args below meth c X hrt hlk => ?_)
  have X : Cx p s m args c cX3_keep D 4 RX3 := X
  unfold f_X3_keep
  refine go_aload_n X dX3_keep_0 rfl 0 rfl ?_
  refine go_getc (i := 1) X fc3 dX3_keep_1 (nF hh) (tF hh) (Nat.le_of_ble_eq_true rfl) rfl lw163 rfl ?_
  refine go_iload_n X dX3_keep_4 rfl 1 rfl ?_
  refine go_iload_n X dX3_keep_5 rfl 2 rfl ?_
  refine goV (fun H locs ls r ho hW hL => runSN X (ok_X11_setEntry l D base M (h + 1) (isAFa1 hh) a1 ha1 a2 ha2 H.size r ho) dX3_keep_6 nl28 lw21 lw19 ⟨lw14, cy_X11_setEntry, Nat.le_of_ble_eq_true rfl, Nat.le_of_ble_eq_true rfl⟩ rfl rfl (Nat.le_of_ble_eq_true rfl) hW hL hk0) (fun _ M1 => ?_)
  refine go_aload_n X dX3_keep_9 rfl 0 rfl ?_
  refine go_getc (i := 2) X fc3 dX3_keep_10 (nF hh) (tF hh) (Nat.le_of_ble_eq_true rfl) rfl lw161 rfl ?_
  refine go_iload_n X dX3_keep_13 rfl 1 rfl ?_
  refine go_iload_n X dX3_keep_14 rfl 3 rfl ?_
  refine goV (fun H locs ls r ho hW hL => runSN X (ok_X11_setEntry l D base M1 (h + 2) (isAFa2 hh) a1 ha1 a3 ha3 H.size r ho) dX3_keep_15 nl28 lw21 lw19 ⟨lw14, cy_X11_setEntry, Nat.le_of_ble_eq_true rfl, Nat.le_of_ble_eq_true rfl⟩ rfl rfl (Nat.le_of_ble_eq_true rfl) hW hL hk0) (fun _ M2 => ?_)
  refine go_aload_n X dX3_keep_18 rfl 0 rfl ?_
  refine go_dup X dX3_keep_19 rfl ?_
  refine go_geti (i := 0) X fc3 dX3_keep_20 (nF hh) (tF hh) (Nat.le_of_ble_eq_true rfl) rfl lw238 rfl (fun v3 hv3 => ?_)
  refine go_iconst (v := 1) X dX3_keep_23 rfl ?_
  refine go_iadd X dX3_keep_24 hv3 kI_1 (fun v4 hv4 => ?_)
  refine go_puti (i := 0) X fc3 dX3_keep_25 (nF hh) (tF hh) (Nat.le_of_ble_eq_true rfl) rfl lw238 rfl rfl rfl hv4 (fun M5 => ?_)
  exact go_vreturn X hrt hlk dX3_keep_28
def f_X2_close (r1 : Nat) (M : Mm) : Rs :=
Lt (M r1 0) fun v1 =>
Lt (M r1 1) fun v2 =>
Cl (f_X11_slotOf v1 v2 M) fun v4 M3 =>
Lt (M3 r1 8) fun v5 =>
Lt (fun (v6 : Int) (M7 : Mm) => 
Lt (M7 310 12) fun v9 =>
gd (¬ v9 < 0 ∧ isF v9.toNat) <|
Lt (M7 r1 8) fun v11 =>
Cl (f_X3_keep v9.toNat v4 v11 v6 M7) fun _ M12 =>
Cl (f_X2_setOpen v4 0 M12) fun _ M13 =>
Lt (M13 310 9) fun v14 =>
Lt (wr (v14 - 1)) fun v15 =>
Lt (up M13 310 9 v15) fun M16 =>
some (0, M16)) fun J35_8 =>
if ¬ v5 = ((-2)) then (
Lt (M3 r1 7) fun v18 =>
J35_8 v18 M3) else (
Lt (M3 r1 7) fun v19 =>
Lt (jor v19 1073741824) fun v20 =>
J35_8 v20 M3)
theorem cy_X2_close : yX2_close.cls ≠ "java/lang/invoke/MethodHandle" ∧ yX2_close.cls ≠ "java/lang/invoke/VarHandle" ∧ (parseMethodDescriptor yX2_close.desc).map (fun d => d.parameters.length) = some 1 := ⟨by decide +kernel, by decide +kernel, by decide +kernel⟩
set_option maxRecDepth 20000 in
theorem ok_X2_close (l : Launch) (D : Dd) (base : Nat) (M : Mm) (r1 : Nat) (hr1 : isR r1) : OkV l D TC 681 base yX2_close cX2_close 4 none 2 45 [.ref (base + 310), .ref (base + r1)] M (f_X2_close r1 M) := by
  refine metV (by decide +kernel) [(0, .ref (base + 310)), (1, .ref (base + r1))] rfl (Nat.le_of_ble_eq_true rfl) (fun p e s m args below meth c X hrt hlk => ?_)
  have X : Cx p s m args c cX2_close D 4 RX2 := X
  unfold f_X2_close
  refine go_aload_n X dX2_close_0 rfl 1 rfl ?_
  refine go_geti (i := 0) X fc4 dX2_close_1 (nR hr1) (tR hr1) (Nat.le_of_ble_eq_true rfl) rfl lw209 rfl (fun v1 hv1 => ?_)
  refine go_aload_n X dX2_close_4 rfl 1 rfl ?_
  refine go_geti (i := 1) X fc4 dX2_close_5 (nR hr1) (tR hr1) (Nat.le_of_ble_eq_true rfl) rfl lw180 rfl (fun v2 hv2 => ?_)
  refine goI (fun H locs ls r ho hW hL => runSN X (ok_X11_slotOf l D base M v1 hv1 v2 hv2 H.size r ho) dX2_close_8 nl34 lw241 lw19 ⟨lw159, cy_X11_slotOf, Nat.le_of_ble_eq_true rfl, Nat.le_of_ble_eq_true rfl⟩ rfl rfl (Nat.le_of_ble_eq_true rfl) hW hL hk0) (fun v4 M3 hv4 => ?_)
  refine go_istore_n (i := 2) (L' := [(2, .int (Ii v4)), (0, .ref (base + 310)), (1, .ref (base + r1))]) X dX2_close_11 rfl (by decide) rfl ?_
  refine go_aload_n X dX2_close_12 rfl 2 rfl ?_
  refine go_geti (i := 8) X fc4 dX2_close_13 (nR hr1) (tR hr1) (Nat.le_of_ble_eq_true rfl) rfl lw239 rfl (fun v5 hv5 => ?_)
  refine go_bipush (v := (-2)) X dX2_close_16 (by decide) ?_
  refine go_lt (fun J => ∀ (v6 : Int) (M7 : Mm), i32 v6 → Go p l e (rmO 2 45) s m args below meth c D TC 681 base 4 0 0 (FinV D TC 681 base below args s) M7 35 [(0, .ref (base + 310)), (1, .ref (base + r1)), (2, .int (Ii v4))] [.int (Ii v6)] (J v6 M7)) (by
      intro v6 M7 hv6
      refine go_istore_n (i := 3) (L' := [(3, .int (Ii v6)), (0, .ref (base + 310)), (1, .ref (base + r1)), (2, .int (Ii v4))]) X dX2_close_35 rfl (by decide) rfl ?_
      refine go_aload_n X dX2_close_36 rfl 1 rfl ?_
      refine go_getq (i := 12) X fc2 dX2_close_37 tcn310 tc310 (Nat.le_of_ble_eq_true rfl) rfl lw240 rfl (fun v9 => ?_)
      refine go_gd (fun g10 => ?_)
      refine go_q2r g10.1 ?_
      refine go_iload_n X dX2_close_40 rfl 3 rfl ?_
      refine go_aload_n X dX2_close_41 rfl 2 rfl ?_
      refine go_geti (i := 8) X fc4 dX2_close_42 (nR hr1) (tR hr1) (Nat.le_of_ble_eq_true rfl) rfl lw239 rfl (fun v11 hv11 => ?_)
      refine go_iload_n X dX2_close_45 rfl 0 rfl ?_
      refine goV (fun H locs ls r ho hW hL => runV X (ok_X3_keep l D base M7 v9.toNat g10.2 v4 hv4 v11 hv11 v6 hv6 H.size r ho) dX2_close_46 lw242 lw243 lw244 lw245 ⟨lw237, cy_X3_keep, Nat.le_of_ble_eq_true rfl, Nat.le_of_ble_eq_true rfl⟩ rfl (nF g10.2) (tF g10.2) rfl rfl rfl rfl (Nat.le_of_ble_eq_true rfl) hW hL hk0) (fun _ M12 => ?_)
      refine go_aload_n X dX2_close_49 rfl 1 rfl ?_
      refine go_iload_n X dX2_close_50 rfl 3 rfl ?_
      refine go_iconst (v := 0) X dX2_close_51 rfl ?_
      refine goV (fun H locs ls r ho hW hL => runV X (ok_X2_setOpen l D base M12 v4 hv4 0 (Or.inl rfl) H.size r ho) dX2_close_52 lw217 lw218 lw219 lw216 ⟨lw166, cy_X2_setOpen, Nat.le_of_ble_eq_true rfl, Nat.le_of_ble_eq_true rfl⟩ rfl tcn310 tc310 rfl rfl rfl rfl (Nat.le_of_ble_eq_true rfl) hW hL hk0) (fun _ M13 => ?_)
      refine go_aload_n X dX2_close_55 rfl 1 rfl ?_
      refine go_dup X dX2_close_56 rfl ?_
      refine go_geti (i := 9) X fc2 dX2_close_57 tcn310 tc310 (Nat.le_of_ble_eq_true rfl) rfl lw165 rfl (fun v14 hv14 => ?_)
      refine go_iconst (v := 1) X dX2_close_60 rfl ?_
      refine go_isub X dX2_close_61 hv14 kI_1 (fun v15 hv15 => ?_)
      refine go_puti (i := 9) X fc2 dX2_close_62 tcn310 tc310 (Nat.le_of_ble_eq_true rfl) rfl lw165 rfl rfl rfl hv15 (fun M16 => ?_)
      exact go_vreturn X hrt hlk dX2_close_65
      )
      (fun J35_8 hJ35_8 => ?_)
  refine go_icmp_ne (tgt := 31) X dX2_close_18 rfl hv5 kI_m2 (fun c17 => ?_) (fun c17 => ?_)
  · refine go_aload_n X dX2_close_31 rfl 2 rfl ?_
    refine go_geti (i := 7) X fc4 dX2_close_32 (nR hr1) (tR hr1) (Nat.le_of_ble_eq_true rfl) rfl lw210 rfl (fun v18 hv18 => ?_)
    refine go_sub [1, 2, 0] rfl ?_
    exact hJ35_8 v18 M3 hv18
  · refine go_aload_n X dX2_close_21 rfl 2 rfl ?_
    refine go_geti (i := 7) X fc4 dX2_close_22 (nR hr1) (tR hr1) (Nat.le_of_ble_eq_true rfl) rfl lw210 rfl (fun v19 hv19 => ?_)
    refine go_ldc (v := 1073741824) X dX2_close_25 lw212 rfl ?_
    refine go_ior X dX2_close_27 hv19 kI_1073741824 (fun v20 hv20 => ?_)
    refine go_goto (tgt := 35) X dX2_close_28 rfl ?_
    refine go_sub [1, 2, 0] rfl ?_
    exact hJ35_8 v20 M3 hv20
def f_X2_enlist_L2_23 (a1 : Int) (J36_2 : Mm → Rs) (J29_13 : Mm → Rs) (rc2_16 : Int × Mm → Rs) : Int × Mm → Rs := fun (v14, M15) =>
Lt (M15 310 0) fun v17 =>
if v17 ≤ v14 then (
J36_2 M15) else (
if 180 ≤ v14 then (
J36_2 M15) else (
gd (0 ≤ v14 ∧ v14 < 180) <|
Lt (M15 311 v14.toNat) fun v20 =>
if ¬ v20 = a1 then (
Lt (wr (v14 + 1)) fun v22 =>
rc2_16 (v22, M15)) else (
J29_13 M15)))
def f_X2_enlist (a1 : Int) (M : Mm) : Rs :=
Lt (fun (M1 : Mm) => 
Lt (M1 310 0) fun v3 =>
Lt (fun (M4 : Mm) => 
some (0, M4)) fun J68_5 =>
if 180 ≤ v3 then (
J68_5 M1) else (
Lt (M1 310 0) fun v7 =>
gd (0 ≤ v7 ∧ v7 < 180) <|
Lt (up M1 311 v7.toNat a1) fun M8 =>
Lt (M8 310 0) fun v9 =>
Lt (wr (v9 + 1)) fun v10 =>
Lt (up M8 310 0 v10) fun M11 =>
J68_5 M11)) fun J36_2 =>
Lt (fun (M12 : Mm) => 
some (0, M12)) fun J29_13 =>
Lp (f_X2_enlist_L2_23 a1 J36_2 J29_13) FU (0, M)
theorem cy_X2_enlist : yX2_enlist.cls ≠ "java/lang/invoke/MethodHandle" ∧ yX2_enlist.cls ≠ "java/lang/invoke/VarHandle" ∧ (parseMethodDescriptor yX2_enlist.desc).map (fun d => d.parameters.length) = some 1 := ⟨by decide +kernel, by decide +kernel, by decide +kernel⟩
set_option maxRecDepth 20000 in
theorem ok_X2_enlist (l : Launch) (D : Dd) (base : Nat) (M : Mm) (a1 : Int) (ha1 : i32 a1) : OkV l D TC 681 base yX2_enlist cX2_enlist 3 none 0 0 [.ref (base + 310), .int (Ii a1)] M (f_X2_enlist a1 M) := by
  refine metV (by decide +kernel) [(0, .ref (base + 310)), (1, .int (Ii a1))] rfl (Nat.le_of_ble_eq_true rfl) (fun p e s m args below meth c X hrt hlk => ?_)
  have X : Cx p s m args c cX2_enlist D 3 RX2 := X
  unfold f_X2_enlist
  refine go_iconst (v := 0) X dX2_enlist_0 rfl ?_
  refine go_istore_n (i := 2) (L' := [(2, .int (Ii 0)), (0, .ref (base + 310)), (1, .int (Ii a1))]) X dX2_enlist_1 rfl (by decide) rfl ?_
  refine go_lt (fun J => ∀ (M1 : Mm), Go p l e (rmO 0 0) s m args below meth c D TC 681 base 3 0 0 (FinV D TC 681 base below args s) M1 36 [(0, .ref (base + 310)), (1, .int (Ii a1))] [] (J M1)) (by
      intro M1
      refine go_aload_n X dX2_enlist_36 rfl 0 rfl ?_
      refine go_geti (i := 0) X fc2 dX2_enlist_37 tcn310 tc310 (Nat.le_of_ble_eq_true rfl) rfl lw248 rfl (fun v3 hv3 => ?_)
      refine go_aload_n X dX2_enlist_40 rfl 0 rfl ?_
      refine go_getc (i := 1) X fc2 dX2_enlist_41 tcn310 tc310 (Nat.le_of_ble_eq_true rfl) rfl lw147 rfl ?_
      refine go_alen X dX2_enlist_44 tcn311 tc311 (by decide) ?_
      refine go_lt (fun J => ∀ (M4 : Mm), Go p l e (rmO 0 0) s m args below meth c D TC 681 base 3 0 0 (FinV D TC 681 base below args s) M4 68 [] [] (J M4)) (by
          intro M4
          exact go_vreturn X hrt hlk dX2_enlist_68
          )
          (fun J68_5 hJ68_5 => ?_)
      refine go_icmp_ge (tgt := 68) X dX2_enlist_45 rfl hv3 kI_180 (fun c6 => ?_) (fun c6 => ?_)
      · refine go_sub [] rfl ?_
        exact hJ68_5 M1
      · refine go_aload_n X dX2_enlist_48 rfl 0 rfl ?_
        refine go_getc (i := 1) X fc2 dX2_enlist_49 tcn310 tc310 (Nat.le_of_ble_eq_true rfl) rfl lw147 rfl ?_
        refine go_aload_n X dX2_enlist_52 rfl 0 rfl ?_
        refine go_geti (i := 0) X fc2 dX2_enlist_53 tcn310 tc310 (Nat.le_of_ble_eq_true rfl) rfl lw248 rfl (fun v7 hv7 => ?_)
        refine go_iload_n X dX2_enlist_56 rfl 1 rfl ?_
        refine go_iastore X dX2_enlist_57 tcn311 tc311 hv7 ha1 (fun M8 => ?_)
        refine go_aload_n X dX2_enlist_58 rfl 0 rfl ?_
        refine go_dup X dX2_enlist_59 rfl ?_
        refine go_geti (i := 0) X fc2 dX2_enlist_60 tcn310 tc310 (Nat.le_of_ble_eq_true rfl) rfl lw248 rfl (fun v9 hv9 => ?_)
        refine go_iconst (v := 1) X dX2_enlist_63 rfl ?_
        refine go_iadd X dX2_enlist_64 hv9 kI_1 (fun v10 hv10 => ?_)
        refine go_puti (i := 0) X fc2 dX2_enlist_65 tcn310 tc310 (Nat.le_of_ble_eq_true rfl) rfl lw248 rfl rfl rfl hv10 (fun M11 => ?_)
        refine go_sub [] rfl ?_
        exact hJ68_5 M11
      )
      (fun J36_2 hJ36_2 => ?_)
  refine go_lt (fun J => ∀ (M12 : Mm), Go p l e (rmO 0 0) s m args below meth c D TC 681 base 3 0 0 (FinV D TC 681 base below args s) M12 29 [] [] (J M12)) (by
      intro M12
      exact go_vreturn X hrt hlk dX2_enlist_29
      )
      (fun J29_13 hJ29_13 => ?_)
  refine go_sub [1, 2, 0] rfl ?_
  exact go_lp (fun (rc : Int × Mm → Rs) => ∀ (v14 : Int) (M15 : Mm), i32 v14 → Go p l e (rmO 0 0) s m args below meth c D TC 681 base 3 0 0 (FinV D TC 681 base below args s) M15 2 [(0, .ref (base + 310)), (1, .int (Ii a1)), (2, .int (Ii v14))] [] (rc (v14, M15)))
      (by intro v14 M15 hv14; exact go_none)
      (by
      intro rc2_16 hrc2_16 v14 M15 hv14
      unfold f_X2_enlist_L2_23
      dsimp only
      refine go_iload_n X dX2_enlist_2 rfl 2 rfl ?_
      refine go_aload_n X dX2_enlist_3 rfl 0 rfl ?_
      refine go_geti (i := 0) X fc2 dX2_enlist_4 tcn310 tc310 (Nat.le_of_ble_eq_true rfl) rfl lw248 rfl (fun v17 hv17 => ?_)
      refine go_icmp_ge (tgt := 36) X dX2_enlist_7 rfl hv14 hv17 (fun c18 => ?_) (fun c18 => ?_)
      · refine go_sub [0, 1] rfl ?_
        exact hJ36_2 M15
      · refine go_iload_n X dX2_enlist_10 rfl 2 rfl ?_
        refine go_aload_n X dX2_enlist_11 rfl 0 rfl ?_
        refine go_getc (i := 1) X fc2 dX2_enlist_12 tcn310 tc310 (Nat.le_of_ble_eq_true rfl) rfl lw147 rfl ?_
        refine go_alen X dX2_enlist_15 tcn311 tc311 (by decide) ?_
        refine go_icmp_ge (tgt := 36) X dX2_enlist_16 rfl hv14 kI_180 (fun c19 => ?_) (fun c19 => ?_)
        · refine go_sub [0, 1] rfl ?_
          exact hJ36_2 M15
        · refine go_aload_n X dX2_enlist_19 rfl 0 rfl ?_
          refine go_getc (i := 1) X fc2 dX2_enlist_20 tcn310 tc310 (Nat.le_of_ble_eq_true rfl) rfl lw147 rfl ?_
          refine go_iload_n X dX2_enlist_23 rfl 2 rfl ?_
          refine go_iaload X dX2_enlist_24 tcn311 tc311 hv14 (fun v20 hv20 => ?_)
          refine go_iload_n X dX2_enlist_25 rfl 1 rfl ?_
          refine go_icmp_ne (tgt := 30) X dX2_enlist_26 rfl hv20 ha1 (fun c21 => ?_) (fun c21 => ?_)
          · refine go_iinc (i := 2) (L' := fun v => [(2, .int (Ii v)), (0, .ref (base + 310)), (1, .int (Ii a1))]) X dX2_enlist_30 hv14 kI_1 (j := 2) rfl (by decide) (fun _ => rfl) (fun v22 hv22 => ?_)
            refine go_goto (tgt := 2) X dX2_enlist_33 rfl ?_
            refine go_sub [1, 2, 0] rfl ?_
            exact hrc2_16 v22 M15 hv22
          · refine go_sub [] rfl ?_
            exact hJ29_13 M15
      )
      FU 0 M kI_0
def f_X3_hangsOf (h : Nat) (a1 : Int) (M : Mm) : Rs :=
Lt (fun (v1 : Int) (M2 : Mm) => 
some (v1, M2)) fun J21_3 =>
Lt (fun (M4 : Mm) => 
J21_3 0 M4) fun J20_5 =>
if a1 < 0 then (
J20_5 M) else (
if 180 ≤ a1 then (
J20_5 M) else (
gd (0 ≤ a1 ∧ a1 < 180) <|
Lt (M (h + 2) a1.toNat) fun v8 =>
J21_3 v8 M))
theorem cy_X3_hangsOf : yX3_hangsOf.cls ≠ "java/lang/invoke/MethodHandle" ∧ yX3_hangsOf.cls ≠ "java/lang/invoke/VarHandle" ∧ (parseMethodDescriptor yX3_hangsOf.desc).map (fun d => d.parameters.length) = some 1 := ⟨by decide +kernel, by decide +kernel, by decide +kernel⟩
set_option maxRecDepth 20000 in
theorem ok_X3_hangsOf (l : Launch) (D : Dd) (base : Nat) (M : Mm) (h : Nat) (hh : isF h) (a1 : Int) (ha1 : i32 a1) : OkI l D TC 681 base yX3_hangsOf cX3_hangsOf 2 (some .int) 0 0 [.ref (base + h), .int (Ii a1)] M i32 (f_X3_hangsOf h a1 M) := by
  refine metI (by decide +kernel) [(0, .ref (base + h)), (1, .int (Ii a1))] rfl (Nat.le_of_ble_eq_true rfl) (fun p e s m args below meth c X hrt hlk => ?_)
  have X : Cx p s m args c cX3_hangsOf D 2 RX3 := X
  unfold f_X3_hangsOf
  refine go_iload_n X dX3_hangsOf_0 rfl 1 rfl ?_
  refine go_lt (fun J => ∀ (v1 : Int) (M2 : Mm), i32 v1 → Go p l e (rmO 0 0) s m args below meth c D TC 681 base 2 0 0 (FinI D TC 681 base below args s i32) M2 21 [] [.int (Ii v1)] (J v1 M2)) (by
      intro v1 M2 hv1
      exact go_ireturn X hrt hlk dX3_hangsOf_21 hv1
      )
      (fun J21_3 hJ21_3 => ?_)
  refine go_lt (fun J => ∀ (M4 : Mm), Go p l e (rmO 0 0) s m args below meth c D TC 681 base 2 0 0 (FinI D TC 681 base below args s i32) M4 20 [] [] (J M4)) (by
      intro M4
      refine go_iconst (v := 0) X dX3_hangsOf_20 rfl ?_
      exact hJ21_3 0 M4 kI_0
      )
      (fun J20_5 hJ20_5 => ?_)
  refine go_if_lt (tgt := 20) X dX3_hangsOf_1 rfl ha1 (fun c6 => ?_) (fun c6 => ?_)
  · refine go_sub [] rfl ?_
    exact hJ20_5 M
  · refine go_iload_n X dX3_hangsOf_4 rfl 1 rfl ?_
    refine go_sipush (v := 180) X dX3_hangsOf_5 (by decide) ?_
    refine go_icmp_ge (tgt := 20) X dX3_hangsOf_8 rfl ha1 kI_180 (fun c7 => ?_) (fun c7 => ?_)
    · refine go_sub [] rfl ?_
      exact hJ20_5 M
    · refine go_aload_n X dX3_hangsOf_11 rfl 0 rfl ?_
      refine go_getc (i := 2) X fc3 dX3_hangsOf_12 (nF hh) (tF hh) (Nat.le_of_ble_eq_true rfl) rfl lw161 rfl ?_
      refine go_iload_n X dX3_hangsOf_15 rfl 1 rfl ?_
      refine go_iaload X dX3_hangsOf_16 (nFa2 hh) (tFa2 hh) ha1 (fun v8 hv8 => ?_)
      refine go_goto (tgt := 21) X dX3_hangsOf_17 rfl ?_
      refine go_sub [] rfl ?_
      exact hJ21_3 v8 M hv8
def f_X2_isOpen (a1 : Int) (M : Mm) : Rs :=
Lt (fun (v1 : Int) (M2 : Mm) => 
some (v1, M2)) fun J27_3 =>
Lt (fun (M4 : Mm) => 
J27_3 0 M4) fun J26_5 =>
if a1 < 0 then (
J26_5 M) else (
if 180 ≤ a1 then (
J26_5 M) else (
gd (0 ≤ a1 ∧ a1 < 180) <|
Lt (M 313 a1.toNat) fun v8 =>
if v8 = 0 then (
J26_5 M) else (
J27_3 1 M)))
theorem cy_X2_isOpen : yX2_isOpen.cls ≠ "java/lang/invoke/MethodHandle" ∧ yX2_isOpen.cls ≠ "java/lang/invoke/VarHandle" ∧ (parseMethodDescriptor yX2_isOpen.desc).map (fun d => d.parameters.length) = some 1 := ⟨by decide +kernel, by decide +kernel, by decide +kernel⟩
set_option maxRecDepth 20000 in
theorem ok_X2_isOpen (l : Launch) (D : Dd) (base : Nat) (M : Mm) (a1 : Int) (ha1 : i32 a1) : OkI l D TC 681 base yX2_isOpen cX2_isOpen 2 (some .boolean) 0 0 [.ref (base + 310), .int (Ii a1)] M bo (f_X2_isOpen a1 M) := by
  refine metI (by decide +kernel) [(0, .ref (base + 310)), (1, .int (Ii a1))] rfl (Nat.le_of_ble_eq_true rfl) (fun p e s m args below meth c X hrt hlk => ?_)
  have X : Cx p s m args c cX2_isOpen D 2 RX2 := X
  unfold f_X2_isOpen
  refine go_iload_n X dX2_isOpen_0 rfl 1 rfl ?_
  refine go_lt (fun J => ∀ (v1 : Int) (M2 : Mm), bo v1 → Go p l e (rmO 0 0) s m args below meth c D TC 681 base 2 0 0 (FinI D TC 681 base below args s bo) M2 27 [] [.int (Ii v1)] (J v1 M2)) (by
      intro v1 M2 hv1
      exact go_zreturn X hrt hlk dX2_isOpen_27 hv1 hv1
      )
      (fun J27_3 hJ27_3 => ?_)
  refine go_lt (fun J => ∀ (M4 : Mm), Go p l e (rmO 0 0) s m args below meth c D TC 681 base 2 0 0 (FinI D TC 681 base below args s bo) M4 26 [] [] (J M4)) (by
      intro M4
      refine go_iconst (v := 0) X dX2_isOpen_26 rfl ?_
      exact hJ27_3 0 M4 (Or.inl rfl)
      )
      (fun J26_5 hJ26_5 => ?_)
  refine go_if_lt (tgt := 26) X dX2_isOpen_1 rfl ha1 (fun c6 => ?_) (fun c6 => ?_)
  · refine go_sub [] rfl ?_
    exact hJ26_5 M
  · refine go_iload_n X dX2_isOpen_4 rfl 1 rfl ?_
    refine go_aload_n X dX2_isOpen_5 rfl 0 rfl ?_
    refine go_getc (i := 8) X fc2 dX2_isOpen_6 tcn310 tc310 (Nat.le_of_ble_eq_true rfl) rfl lw150 rfl ?_
    refine go_alen X dX2_isOpen_9 tcn313 tc313 (by decide) ?_
    refine go_icmp_ge (tgt := 26) X dX2_isOpen_10 rfl ha1 kI_180 (fun c7 => ?_) (fun c7 => ?_)
    · refine go_sub [] rfl ?_
      exact hJ26_5 M
    · refine go_aload_n X dX2_isOpen_13 rfl 0 rfl ?_
      refine go_getc (i := 8) X fc2 dX2_isOpen_14 tcn310 tc310 (Nat.le_of_ble_eq_true rfl) rfl lw150 rfl ?_
      refine go_iload_n X dX2_isOpen_17 rfl 1 rfl ?_
      refine go_zaload X dX2_isOpen_18 tcn313 tc313 ha1 (fun v8 hv8 => ?_)
      refine go_if_eq (tgt := 26) X dX2_isOpen_19 rfl (bo_i32 hv8) (fun c9 => ?_) (fun c9 => ?_)
      · refine go_sub [] rfl ?_
        exact hJ26_5 M
      · refine go_iconst (v := 1) X dX2_isOpen_22 rfl ?_
        refine go_goto (tgt := 27) X dX2_isOpen_23 rfl ?_
        refine go_sub [] rfl ?_
        exact hJ27_3 1 M (Or.inr rfl)
def f_X2_lookAt (r1 : Nat) (a2 : Int) (a3 : Int) (M : Mm) : Rs :=
Cl (f_X11_slotOf a2 a3 M) fun v2 M1 =>
Lt (M1 310 11) fun v3 =>
Lt (fun (M4 : Mm) => 
Cl (f_X5_kindOf a3 M4) fun v7 M6 =>
if ¬ v7 = 3 then (
Lt (M6 310 12) fun v9 =>
gd (¬ v9 < 0 ∧ isF v9.toNat) <|
Cl (f_X3_has v9.toNat v2 M6) fun v12 M11 =>
if v12 = 0 then (
Cl (f_X2_isOpen v2 M11) fun v15 M14 =>
if v15 = 0 then (
Lt (up M14 310 10 v2) fun M17 =>
some ((-8), M17)) else (
some ((-2), M14))) else (
Lt (M11 r1 7) fun v18 =>
Lt (M11 310 12) fun v19 =>
gd (¬ v19 < 0 ∧ isF v19.toNat) <|
Cl (f_X3_hangsOf v19.toNat v2 M11) fun v22 M21 =>
Lt (jor v18 v22) fun v23 =>
Lt (up M21 r1 7 v23) fun M24 =>
Lt (M24 310 12) fun v25 =>
gd (¬ v25 < 0 ∧ isF v25.toNat) <|
Cl (f_X3_valueOf v25.toNat v2 M24) fun v28 M27 =>
some (v28, M27))) else (
Lt (M6 r1 7) fun v29 =>
Lt (jor v29 1073741824) fun v30 =>
Lt (up M6 r1 7 v30) fun M31 =>
Cl (f_X11_entryOf 309 v2 M31) fun v33 M32 =>
some (v33, M32))) fun J28_5 =>
if v3 = 0 then (
J28_5 M1) else (
Lt (M1 310 9) fun v35 =>
if ¬ v35 = 1 then (
J28_5 M1) else (
Cl (f_X2_enlist v2 M1) fun _ M37 =>
J28_5 M37))
theorem cy_X2_lookAt : yX2_lookAt.cls ≠ "java/lang/invoke/MethodHandle" ∧ yX2_lookAt.cls ≠ "java/lang/invoke/VarHandle" ∧ (parseMethodDescriptor yX2_lookAt.desc).map (fun d => d.parameters.length) = some 3 := ⟨by decide +kernel, by decide +kernel, by decide +kernel⟩
set_option maxRecDepth 20000 in
theorem ok_X2_lookAt (l : Launch) (D : Dd) (base : Nat) (M : Mm) (r1 : Nat) (hr1 : isR r1) (a2 : Int) (ha2 : i32 a2) (a3 : Int) (ha3 : i32 a3) : OkI l D TC 681 base yX2_lookAt cX2_lookAt 5 (some .int) 1 22 [.ref (base + 310), .ref (base + r1), .int (Ii a2), .int (Ii a3)] M i32 (f_X2_lookAt r1 a2 a3 M) := by
  refine metI (by decide +kernel) [(0, .ref (base + 310)), (1, .ref (base + r1)), (2, .int (Ii a2)), (3, .int (Ii a3))] rfl (Nat.le_of_ble_eq_true rfl) (fun p e s m args below meth c X hrt hlk => ?_)
  have X : Cx p s m args c cX2_lookAt D 5 RX2 := X
  unfold f_X2_lookAt
  refine go_iload_n X dX2_lookAt_0 rfl 2 rfl ?_
  refine go_iload_n X dX2_lookAt_1 rfl 3 rfl ?_
  refine goI (fun H locs ls r ho hW hL => runSN X (ok_X11_slotOf l D base M a2 ha2 a3 ha3 H.size r ho) dX2_lookAt_2 nl34 lw241 lw19 ⟨lw159, cy_X11_slotOf, Nat.le_of_ble_eq_true rfl, Nat.le_of_ble_eq_true rfl⟩ rfl rfl (Nat.le_of_ble_eq_true rfl) hW hL hk0) (fun v2 M1 hv2 => ?_)
  refine go_istore (i := 4) (L' := [(4, .int (Ii v2)), (0, .ref (base + 310)), (1, .ref (base + r1)), (2, .int (Ii a2)), (3, .int (Ii a3))]) X dX2_lookAt_5 (by decide) rfl ?_
  refine go_aload_n X dX2_lookAt_7 rfl 1 rfl ?_
  refine go_getz (i := 11) X fc2 dX2_lookAt_8 tcn310 tc310 (Nat.le_of_ble_eq_true rfl) rfl lw251 rfl (fun v3 hv3 => ?_)
  refine go_lt (fun J => ∀ (M4 : Mm), Go p l e (rmO 1 22) s m args below meth c D TC 681 base 5 0 0 (FinI D TC 681 base below args s i32) M4 28 [(0, .ref (base + 310)), (1, .ref (base + r1)), (3, .int (Ii a3)), (4, .int (Ii v2))] [] (J M4)) (by
      intro M4
      refine go_aload_n X dX2_lookAt_28 rfl 0 rfl ?_
      refine go_getc (i := 2) X fc2 dX2_lookAt_29 tcn310 tc310 (Nat.le_of_ble_eq_true rfl) rfl lw151 rfl ?_
      refine go_iload_n X dX2_lookAt_32 rfl 2 rfl ?_
      refine goI (fun H locs ls r ho hW hL => runV X (ok_X5_kindOf l D base M4 a3 ha3 H.size r ho) dX2_lookAt_33 lw221 lw222 lw223 lw80 ⟨lw168, cy_X5_kindOf, Nat.le_of_ble_eq_true rfl, Nat.le_of_ble_eq_true rfl⟩ rfl tcn1 tc1 rfl rfl rfl rfl (Nat.le_of_ble_eq_true rfl) hW hL hk0) (fun v7 M6 hv7 => ?_)
      refine go_iconst (v := 3) X dX2_lookAt_36 rfl ?_
      refine go_icmp_ne (tgt := 61) X dX2_lookAt_37 rfl hv7 kI_3 (fun c8 => ?_) (fun c8 => ?_)
      · refine go_aload_n X dX2_lookAt_61 rfl 0 rfl ?_
        refine go_getq (i := 12) X fc2 dX2_lookAt_62 tcn310 tc310 (Nat.le_of_ble_eq_true rfl) rfl lw240 rfl (fun v9 => ?_)
        refine go_gd (fun g10 => ?_)
        refine go_q2r g10.1 ?_
        refine go_iload X dX2_lookAt_65 3 rfl ?_
        refine goI (fun H locs ls r ho hW hL => runV X (ok_X3_has l D base M6 v9.toNat g10.2 v2 hv2 H.size r ho) dX2_lookAt_67 lw256 lw257 lw258 lw245 ⟨lw160, cy_X3_has, Nat.le_of_ble_eq_true rfl, Nat.le_of_ble_eq_true rfl⟩ rfl (nF g10.2) (tF g10.2) rfl rfl rfl rfl (Nat.le_of_ble_eq_true rfl) hW hL hk0) (fun v12 M11 hv12 => ?_)
        refine go_if_eq (tgt := 101) X dX2_lookAt_70 rfl (bo_i32 hv12) (fun c13 => ?_) (fun c13 => ?_)
        · refine go_aload_n X dX2_lookAt_101 rfl 0 rfl ?_
          refine go_iload X dX2_lookAt_102 3 rfl ?_
          refine goI (fun H locs ls r ho hW hL => runV X (ok_X2_isOpen l D base M11 v2 hv2 H.size r ho) dX2_lookAt_104 lw265 lw266 lw267 lw216 ⟨lw250, cy_X2_isOpen, Nat.le_of_ble_eq_true rfl, Nat.le_of_ble_eq_true rfl⟩ rfl tcn310 tc310 rfl rfl rfl rfl (Nat.le_of_ble_eq_true rfl) hW hL hk0) (fun v15 M14 hv15 => ?_)
          refine go_if_eq (tgt := 113) X dX2_lookAt_107 rfl (bo_i32 hv15) (fun c16 => ?_) (fun c16 => ?_)
          · refine go_aload_n X dX2_lookAt_113 rfl 0 rfl ?_
            refine go_iload X dX2_lookAt_114 3 rfl ?_
            refine go_puti (i := 10) X fc2 dX2_lookAt_116 tcn310 tc310 (Nat.le_of_ble_eq_true rfl) rfl lw252 rfl rfl rfl hv2 (fun M17 => ?_)
            refine go_bipush (v := (-8)) X dX2_lookAt_119 (by decide) ?_
            exact go_ireturn X hrt hlk dX2_lookAt_121 kI_m8
          · refine go_bipush (v := (-2)) X dX2_lookAt_110 (by decide) ?_
            exact go_ireturn X hrt hlk dX2_lookAt_112 kI_m2
        · refine go_aload_n X dX2_lookAt_73 rfl 1 rfl ?_
          refine go_dup X dX2_lookAt_74 rfl ?_
          refine go_geti (i := 7) X fc4 dX2_lookAt_75 (nR hr1) (tR hr1) (Nat.le_of_ble_eq_true rfl) rfl lw210 rfl (fun v18 hv18 => ?_)
          refine go_aload_n X dX2_lookAt_78 rfl 0 rfl ?_
          refine go_getq (i := 12) X fc2 dX2_lookAt_79 tcn310 tc310 (Nat.le_of_ble_eq_true rfl) rfl lw240 rfl (fun v19 => ?_)
          refine go_gd (fun g20 => ?_)
          refine go_q2r g20.1 ?_
          refine go_iload X dX2_lookAt_82 3 rfl ?_
          refine goI (fun H locs ls r ho hW hL => runV X (ok_X3_hangsOf l D base M11 v19.toNat g20.2 v2 hv2 H.size r ho) dX2_lookAt_84 lw259 lw260 lw261 lw245 ⟨lw249, cy_X3_hangsOf, Nat.le_of_ble_eq_true rfl, Nat.le_of_ble_eq_true rfl⟩ rfl (nF g20.2) (tF g20.2) rfl rfl rfl rfl (Nat.le_of_ble_eq_true rfl) hW hL hk0) (fun v22 M21 hv22 => ?_)
          refine go_ior X dX2_lookAt_87 hv18 hv22 (fun v23 hv23 => ?_)
          refine go_puti (i := 7) X fc4 dX2_lookAt_88 (nR hr1) (tR hr1) (Nat.le_of_ble_eq_true rfl) rfl lw210 rfl rfl rfl hv23 (fun M24 => ?_)
          refine go_aload_n X dX2_lookAt_91 rfl 0 rfl ?_
          refine go_getq (i := 12) X fc2 dX2_lookAt_92 tcn310 tc310 (Nat.le_of_ble_eq_true rfl) rfl lw240 rfl (fun v25 => ?_)
          refine go_gd (fun g26 => ?_)
          refine go_q2r g26.1 ?_
          refine go_iload X dX2_lookAt_95 3 rfl ?_
          refine goI (fun H locs ls r ho hW hL => runV X (ok_X3_valueOf l D base M24 v25.toNat g26.2 v2 hv2 H.size r ho) dX2_lookAt_97 lw262 lw263 lw264 lw245 ⟨lw162, cy_X3_valueOf, Nat.le_of_ble_eq_true rfl, Nat.le_of_ble_eq_true rfl⟩ rfl (nF g26.2) (tF g26.2) rfl rfl rfl rfl (Nat.le_of_ble_eq_true rfl) hW hL hk0) (fun v28 M27 hv28 => ?_)
          exact go_ireturn X hrt hlk dX2_lookAt_100 hv28
      · refine go_aload_n X dX2_lookAt_40 rfl 1 rfl ?_
        refine go_dup X dX2_lookAt_41 rfl ?_
        refine go_geti (i := 7) X fc4 dX2_lookAt_42 (nR hr1) (tR hr1) (Nat.le_of_ble_eq_true rfl) rfl lw210 rfl (fun v29 hv29 => ?_)
        refine go_ldc (v := 1073741824) X dX2_lookAt_45 lw212 rfl ?_
        refine go_ior X dX2_lookAt_47 hv29 kI_1073741824 (fun v30 hv30 => ?_)
        refine go_puti (i := 7) X fc4 dX2_lookAt_48 (nR hr1) (tR hr1) (Nat.le_of_ble_eq_true rfl) rfl lw210 rfl rfl rfl hv30 (fun M31 => ?_)
        refine go_aload_n X dX2_lookAt_51 rfl 0 rfl ?_
        refine go_getc (i := 6) X fc2 dX2_lookAt_52 tcn310 tc310 (Nat.le_of_ble_eq_true rfl) rfl lw155 rfl ?_
        refine go_iload X dX2_lookAt_55 3 rfl ?_
        refine goI (fun H locs ls r ho hW hL => runSN X (ok_X11_entryOf l D base M31 309 isAC_309 v2 hv2 H.size r ho) dX2_lookAt_57 nl36 lw20 lw19 ⟨lw13, cy_X11_entryOf, Nat.le_of_ble_eq_true rfl, Nat.le_of_ble_eq_true rfl⟩ rfl rfl (Nat.le_of_ble_eq_true rfl) hW hL hk0) (fun v33 M32 hv33 => ?_)
        exact go_ireturn X hrt hlk dX2_lookAt_60 hv33
      )
      (fun J28_5 hJ28_5 => ?_)
  refine go_if_eq (tgt := 28) X dX2_lookAt_11 rfl (bo_i32 hv3) (fun c34 => ?_) (fun c34 => ?_)
  · refine go_sub [1, 2, 4, 0] rfl ?_
    exact hJ28_5 M1
  · refine go_aload_n X dX2_lookAt_14 rfl 1 rfl ?_
    refine go_geti (i := 9) X fc2 dX2_lookAt_15 tcn310 tc310 (Nat.le_of_ble_eq_true rfl) rfl lw165 rfl (fun v35 hv35 => ?_)
    refine go_iconst (v := 1) X dX2_lookAt_18 rfl ?_
    refine go_icmp_ne (tgt := 28) X dX2_lookAt_19 rfl hv35 kI_1 (fun c36 => ?_) (fun c36 => ?_)
    · refine go_sub [1, 2, 4, 0] rfl ?_
      exact hJ28_5 M1
    · refine go_aload_n X dX2_lookAt_22 rfl 1 rfl ?_
      refine go_iload X dX2_lookAt_23 0 rfl ?_
      refine goV (fun H locs ls r ho hW hL => runV X (ok_X2_enlist l D base M1 v2 hv2 H.size r ho) dX2_lookAt_25 lw253 lw254 lw255 lw216 ⟨lw247, cy_X2_enlist, Nat.le_of_ble_eq_true rfl, Nat.le_of_ble_eq_true rfl⟩ rfl tcn310 tc310 rfl rfl rfl rfl (Nat.le_of_ble_eq_true rfl) hW hL hk0) (fun _ M37 => ?_)
      refine go_sub [1, 2, 4, 0] rfl ?_
      exact hJ28_5 M37
def f_X8_childOf (h : Nat) (a1 : Int) (a2 : Int) (M : Mm) : Rs :=
Lt (fun (M1 : Mm) => 
some ((-1), M1)) fun J21_2 =>
if a1 < 0 then (
J21_2 M) else (
Lt (M h 0) fun v4 =>
if v4 ≤ a1 then (
J21_2 M) else (
if a2 < 0 then (
J21_2 M) else (
if a2 < 3 then (
Lt (wr (a1 * 3)) fun v8 =>
Lt (wr (v8 + a2)) fun v9 =>
Lt (fun (v10 : Int) (M11 : Mm) => 
some (v10, M11)) fun J48_12 =>
if 90 ≤ v9 then (
J48_12 ((-1)) M) else (
gd (0 ≤ v9 ∧ v9 < 90) <|
Lt (M (h + 5) v9.toNat) fun v14 =>
J48_12 v14 M)) else (
J21_2 M))))
theorem cy_X8_childOf : yX8_childOf.cls ≠ "java/lang/invoke/MethodHandle" ∧ yX8_childOf.cls ≠ "java/lang/invoke/VarHandle" ∧ (parseMethodDescriptor yX8_childOf.desc).map (fun d => d.parameters.length) = some 2 := ⟨by decide +kernel, by decide +kernel, by decide +kernel⟩
set_option maxRecDepth 20000 in
theorem ok_X8_childOf (l : Launch) (D : Dd) (base : Nat) (M : Mm) (h : Nat) (hh : isT h) (a1 : Int) (ha1 : i32 a1) (a2 : Int) (ha2 : i32 a2) : OkI l D TC 681 base yX8_childOf cX8_childOf 4 (some .int) 0 0 [.ref (base + h), .int (Ii a1), .int (Ii a2)] M i32 (f_X8_childOf h a1 a2 M) := by
  refine metI (by decide +kernel) [(0, .ref (base + h)), (1, .int (Ii a1)), (2, .int (Ii a2))] rfl (Nat.le_of_ble_eq_true rfl) (fun p e s m args below meth c X hrt hlk => ?_)
  have X : Cx p s m args c cX8_childOf D 4 RX8 := X
  unfold f_X8_childOf
  refine go_iload_n X dX8_childOf_0 rfl 1 rfl ?_
  refine go_lt (fun J => ∀ (M1 : Mm), Go p l e (rmO 0 0) s m args below meth c D TC 681 base 4 0 0 (FinI D TC 681 base below args s i32) M1 21 [] [] (J M1)) (by
      intro M1
      refine go_iconst (v := (-1)) X dX8_childOf_21 rfl ?_
      exact go_ireturn X hrt hlk dX8_childOf_22 kI_m1
      )
      (fun J21_2 hJ21_2 => ?_)
  refine go_if_lt (tgt := 21) X dX8_childOf_1 rfl ha1 (fun c3 => ?_) (fun c3 => ?_)
  · refine go_sub [] rfl ?_
    exact hJ21_2 M
  · refine go_iload_n X dX8_childOf_4 rfl 1 rfl ?_
    refine go_aload_n X dX8_childOf_5 rfl 0 rfl ?_
    refine go_geti (i := 0) X fc8 dX8_childOf_6 (nT hh) (tT hh) (Nat.le_of_ble_eq_true rfl) rfl lw270 rfl (fun v4 hv4 => ?_)
    refine go_icmp_ge (tgt := 21) X dX8_childOf_9 rfl ha1 hv4 (fun c5 => ?_) (fun c5 => ?_)
    · refine go_sub [] rfl ?_
      exact hJ21_2 M
    · refine go_iload_n X dX8_childOf_12 rfl 2 rfl ?_
      refine go_if_lt (tgt := 21) X dX8_childOf_13 rfl ha2 (fun c6 => ?_) (fun c6 => ?_)
      · refine go_sub [] rfl ?_
        exact hJ21_2 M
      · refine go_iload_n X dX8_childOf_16 rfl 2 rfl ?_
        refine go_iconst (v := 3) X dX8_childOf_17 rfl ?_
        refine go_icmp_lt (tgt := 23) X dX8_childOf_18 rfl ha2 kI_3 (fun c7 => ?_) (fun c7 => ?_)
        · refine go_iload_n X dX8_childOf_23 rfl 1 rfl ?_
          refine go_iconst (v := 3) X dX8_childOf_24 rfl ?_
          refine go_imul X dX8_childOf_25 ha1 kI_3 (fun v8 hv8 => ?_)
          refine go_iload_n X dX8_childOf_26 rfl 2 rfl ?_
          refine go_iadd X dX8_childOf_27 hv8 ha2 (fun v9 hv9 => ?_)
          refine go_istore_n (i := 3) (L' := [(3, .int (Ii v9)), (0, .ref (base + h)), (1, .int (Ii a1)), (2, .int (Ii a2))]) X dX8_childOf_28 rfl (by decide) rfl ?_
          refine go_iload_n X dX8_childOf_29 rfl 0 rfl ?_
          refine go_aload_n X dX8_childOf_30 rfl 1 rfl ?_
          refine go_getc (i := 6) X fc8 dX8_childOf_31 (nT hh) (tT hh) (Nat.le_of_ble_eq_true rfl) rfl lw271 rfl ?_
          refine go_alen X dX8_childOf_34 (nTa5 hh) (tTa5 hh) (by decide) ?_
          refine go_lt (fun J => ∀ (v10 : Int) (M11 : Mm), i32 v10 → Go p l e (rmO 0 0) s m args below meth c D TC 681 base 4 0 0 (FinI D TC 681 base below args s i32) M11 48 [] [.int (Ii v10)] (J v10 M11)) (by
              intro v10 M11 hv10
              exact go_ireturn X hrt hlk dX8_childOf_48 hv10
              )
              (fun J48_12 hJ48_12 => ?_)
          refine go_icmp_ge (tgt := 47) X dX8_childOf_35 rfl hv9 kI_90 (fun c13 => ?_) (fun c13 => ?_)
          · refine go_iconst (v := (-1)) X dX8_childOf_47 rfl ?_
            refine go_sub [] rfl ?_
            exact hJ48_12 ((-1)) M kI_m1
          · refine go_aload_n X dX8_childOf_38 rfl 1 rfl ?_
            refine go_getc (i := 6) X fc8 dX8_childOf_39 (nT hh) (tT hh) (Nat.le_of_ble_eq_true rfl) rfl lw271 rfl ?_
            refine go_iload_n X dX8_childOf_42 rfl 0 rfl ?_
            refine go_iaload X dX8_childOf_43 (nTa5 hh) (tTa5 hh) hv9 (fun v14 hv14 => ?_)
            refine go_goto (tgt := 48) X dX8_childOf_44 rfl ?_
            refine go_sub [] rfl ?_
            exact hJ48_12 v14 M hv14
        · refine go_sub [] rfl ?_
          exact hJ21_2 M
def f_X2_childFor (r1 : Nat) (a2 : Int) (M : Mm) : Rs :=
Lt (M r1 2) fun v1 =>
Lt (M r1 3) fun v2 =>
Lt (M r1 4) fun v3 =>
Cl (f_X10_childAt v2 v3 a2 M) fun v5 M4 =>
Cl (f_X8_childOf 283 v1 v5 M4) fun v7 M6 =>
some (v7, M6)
theorem cy_X2_childFor : yX2_childFor.cls ≠ "java/lang/invoke/MethodHandle" ∧ yX2_childFor.cls ≠ "java/lang/invoke/VarHandle" ∧ (parseMethodDescriptor yX2_childFor.desc).map (fun d => d.parameters.length) = some 2 := ⟨by decide +kernel, by decide +kernel, by decide +kernel⟩
set_option maxRecDepth 20000 in
theorem ok_X2_childFor (l : Launch) (D : Dd) (base : Nat) (M : Mm) (r1 : Nat) (hr1 : isR r1) (a2 : Int) (ha2 : i32 a2) : OkI l D TC 681 base yX2_childFor cX2_childFor 3 (some .int) 1 25 [.ref (base + 310), .ref (base + r1), .int (Ii a2)] M i32 (f_X2_childFor r1 a2 M) := by
  refine metI (by decide +kernel) [(0, .ref (base + 310)), (1, .ref (base + r1)), (2, .int (Ii a2))] rfl (Nat.le_of_ble_eq_true rfl) (fun p e s m args below meth c X hrt hlk => ?_)
  have X : Cx p s m args c cX2_childFor D 3 RX2 := X
  unfold f_X2_childFor
  refine go_aload_n X dX2_childFor_0 rfl 0 rfl ?_
  refine go_getc (i := 5) X fc2 dX2_childFor_1 tcn310 tc310 (Nat.le_of_ble_eq_true rfl) rfl lw154 rfl ?_
  refine go_aload_n X dX2_childFor_4 rfl 1 rfl ?_
  refine go_geti (i := 2) X fc4 dX2_childFor_5 (nR hr1) (tR hr1) (Nat.le_of_ble_eq_true rfl) rfl lw176 rfl (fun v1 hv1 => ?_)
  refine go_aload_n X dX2_childFor_8 rfl 0 rfl ?_
  refine go_getc (i := 4) X fc2 dX2_childFor_9 tcn310 tc310 (Nat.le_of_ble_eq_true rfl) rfl lw153 rfl ?_
  refine go_aload_n X dX2_childFor_12 rfl 1 rfl ?_
  refine go_geti (i := 3) X fc4 dX2_childFor_13 (nR hr1) (tR hr1) (Nat.le_of_ble_eq_true rfl) rfl lw178 rfl (fun v2 hv2 => ?_)
  refine go_aload_n X dX2_childFor_16 rfl 1 rfl ?_
  refine go_geti (i := 4) X fc4 dX2_childFor_17 (nR hr1) (tR hr1) (Nat.le_of_ble_eq_true rfl) rfl lw179 rfl (fun v3 hv3 => ?_)
  refine go_iload_n X dX2_childFor_20 rfl 2 rfl ?_
  refine goI (fun H locs ls r ho hW hL => runV X (ok_X10_childAt l D base M v2 hv2 v3 hv3 a2 ha2 H.size r ho) dX2_childFor_21 lw273 lw85 lw86 lw87 ⟨lw71, cy_X10_childAt, Nat.le_of_ble_eq_true rfl, Nat.le_of_ble_eq_true rfl⟩ rfl tcn22 tc22 rfl rfl rfl rfl (Nat.le_of_ble_eq_true rfl) hW hL hk0) (fun v5 M4 hv5 => ?_)
  refine goI (fun H locs ls r ho hW hL => runV X (ok_X8_childOf l D base M4 283 isT_283 v1 hv1 v5 hv5 H.size r ho) dX2_childFor_24 lw274 lw275 lw276 lw189 ⟨lw269, cy_X8_childOf, Nat.le_of_ble_eq_true rfl, Nat.le_of_ble_eq_true rfl⟩ rfl tcn283 tc283 rfl rfl rfl rfl (Nat.le_of_ble_eq_true rfl) hW hL hk0) (fun v7 M6 hv7 => ?_)
  exact go_ireturn X hrt hlk dX2_childFor_27 hv7
def f_X8_readAsOf (h : Nat) (a1 : Int) (M : Mm) : Rs :=
Lt (fun (v1 : Int) (M2 : Mm) => 
some (v1, M2)) fun J20_3 =>
Lt (fun (M4 : Mm) => 
J20_3 ((-1)) M4) fun J19_5 =>
if a1 < 0 then (
J19_5 M) else (
if 30 ≤ a1 then (
J19_5 M) else (
gd (0 ≤ a1 ∧ a1 < 30) <|
Lt (M (h + 3) a1.toNat) fun v8 =>
J20_3 v8 M))
theorem cy_X8_readAsOf : yX8_readAsOf.cls ≠ "java/lang/invoke/MethodHandle" ∧ yX8_readAsOf.cls ≠ "java/lang/invoke/VarHandle" ∧ (parseMethodDescriptor yX8_readAsOf.desc).map (fun d => d.parameters.length) = some 1 := ⟨by decide +kernel, by decide +kernel, by decide +kernel⟩
set_option maxRecDepth 20000 in
theorem ok_X8_readAsOf (l : Launch) (D : Dd) (base : Nat) (M : Mm) (h : Nat) (hh : isT h) (a1 : Int) (ha1 : i32 a1) : OkI l D TC 681 base yX8_readAsOf cX8_readAsOf 2 (some .int) 0 0 [.ref (base + h), .int (Ii a1)] M i32 (f_X8_readAsOf h a1 M) := by
  refine metI (by decide +kernel) [(0, .ref (base + h)), (1, .int (Ii a1))] rfl (Nat.le_of_ble_eq_true rfl) (fun p e s m args below meth c X hrt hlk => ?_)
  have X : Cx p s m args c cX8_readAsOf D 2 RX8 := X
  unfold f_X8_readAsOf
  refine go_iload_n X dX8_readAsOf_0 rfl 1 rfl ?_
  refine go_lt (fun J => ∀ (v1 : Int) (M2 : Mm), i32 v1 → Go p l e (rmO 0 0) s m args below meth c D TC 681 base 2 0 0 (FinI D TC 681 base below args s i32) M2 20 [] [.int (Ii v1)] (J v1 M2)) (by
      intro v1 M2 hv1
      exact go_ireturn X hrt hlk dX8_readAsOf_20 hv1
      )
      (fun J20_3 hJ20_3 => ?_)
  refine go_lt (fun J => ∀ (M4 : Mm), Go p l e (rmO 0 0) s m args below meth c D TC 681 base 2 0 0 (FinI D TC 681 base below args s i32) M4 19 [] [] (J M4)) (by
      intro M4
      refine go_iconst (v := (-1)) X dX8_readAsOf_19 rfl ?_
      exact hJ20_3 ((-1)) M4 kI_m1
      )
      (fun J19_5 hJ19_5 => ?_)
  refine go_if_lt (tgt := 19) X dX8_readAsOf_1 rfl ha1 (fun c6 => ?_) (fun c6 => ?_)
  · refine go_sub [] rfl ?_
    exact hJ19_5 M
  · refine go_iload_n X dX8_readAsOf_4 rfl 1 rfl ?_
    refine go_bipush (v := 30) X dX8_readAsOf_5 (by decide) ?_
    refine go_icmp_ge (tgt := 19) X dX8_readAsOf_7 rfl ha1 kI_30 (fun c7 => ?_) (fun c7 => ?_)
    · refine go_sub [] rfl ?_
      exact hJ19_5 M
    · refine go_aload_n X dX8_readAsOf_10 rfl 0 rfl ?_
      refine go_getc (i := 4) X fc8 dX8_readAsOf_11 (nT hh) (tT hh) (Nat.le_of_ble_eq_true rfl) rfl lw278 rfl ?_
      refine go_iload_n X dX8_readAsOf_14 rfl 1 rfl ?_
      refine go_iaload X dX8_readAsOf_15 (nTa3 hh) (tTa3 hh) ha1 (fun v8 hv8 => ?_)
      refine go_goto (tgt := 20) X dX8_readAsOf_16 rfl ?_
      refine go_sub [] rfl ?_
      exact hJ20_3 v8 M hv8
def f_X5_letterOf (a1 : Int) (a2 : Int) (M : Mm) : Rs :=
Lt (fun (M1 : Mm) => 
some ((-1), M1)) fun J24_2 =>
if a1 < 0 then (
J24_2 M) else (
if 10 ≤ a1 then (
J24_2 M) else (
if a2 < 0 then (
J24_2 M) else (
gd (0 ≤ a1 ∧ a1 < 10) <|
Lt (M 7 a1.toNat) fun v6 =>
if a2 < v6 then (
Lt (wr (a1 * 3)) fun v8 =>
Lt (wr (v8 + a2)) fun v9 =>
Lt (fun (v10 : Int) (M11 : Mm) => 
some (v10, M11)) fun J51_12 =>
if 30 ≤ v9 then (
J51_12 ((-1)) M) else (
gd (0 ≤ v9 ∧ v9 < 30) <|
Lt (M 8 v9.toNat) fun v14 =>
J51_12 v14 M)) else (
J24_2 M))))
theorem cy_X5_letterOf : yX5_letterOf.cls ≠ "java/lang/invoke/MethodHandle" ∧ yX5_letterOf.cls ≠ "java/lang/invoke/VarHandle" ∧ (parseMethodDescriptor yX5_letterOf.desc).map (fun d => d.parameters.length) = some 2 := ⟨by decide +kernel, by decide +kernel, by decide +kernel⟩
set_option maxRecDepth 20000 in
theorem ok_X5_letterOf (l : Launch) (D : Dd) (base : Nat) (M : Mm) (a1 : Int) (ha1 : i32 a1) (a2 : Int) (ha2 : i32 a2) : OkI l D TC 681 base yX5_letterOf cX5_letterOf 4 (some .int) 0 0 [.ref (base + 1), .int (Ii a1), .int (Ii a2)] M i32 (f_X5_letterOf a1 a2 M) := by
  refine metI (by decide +kernel) [(0, .ref (base + 1)), (1, .int (Ii a1)), (2, .int (Ii a2))] rfl (Nat.le_of_ble_eq_true rfl) (fun p e s m args below meth c X hrt hlk => ?_)
  have X : Cx p s m args c cX5_letterOf D 4 RX5 := X
  unfold f_X5_letterOf
  refine go_iload_n X dX5_letterOf_0 rfl 1 rfl ?_
  refine go_lt (fun J => ∀ (M1 : Mm), Go p l e (rmO 0 0) s m args below meth c D TC 681 base 4 0 0 (FinI D TC 681 base below args s i32) M1 24 [] [] (J M1)) (by
      intro M1
      refine go_iconst (v := (-1)) X dX5_letterOf_24 rfl ?_
      exact go_ireturn X hrt hlk dX5_letterOf_25 kI_m1
      )
      (fun J24_2 hJ24_2 => ?_)
  refine go_if_lt (tgt := 24) X dX5_letterOf_1 rfl ha1 (fun c3 => ?_) (fun c3 => ?_)
  · refine go_sub [] rfl ?_
    exact hJ24_2 M
  · refine go_iload_n X dX5_letterOf_4 rfl 1 rfl ?_
    refine go_bipush (v := 10) X dX5_letterOf_5 (by decide) ?_
    refine go_icmp_ge (tgt := 24) X dX5_letterOf_7 rfl ha1 kI_10 (fun c4 => ?_) (fun c4 => ?_)
    · refine go_sub [] rfl ?_
      exact hJ24_2 M
    · refine go_iload_n X dX5_letterOf_10 rfl 2 rfl ?_
      refine go_if_lt (tgt := 24) X dX5_letterOf_11 rfl ha2 (fun c5 => ?_) (fun c5 => ?_)
      · refine go_sub [] rfl ?_
        exact hJ24_2 M
      · refine go_iload_n X dX5_letterOf_14 rfl 2 rfl ?_
        refine go_aload_n X dX5_letterOf_15 rfl 0 rfl ?_
        refine go_getc (i := 7) X fc5 dX5_letterOf_16 tcn1 tc1 (Nat.le_of_ble_eq_true rfl) rfl lw280 rfl ?_
        refine go_iload_n X dX5_letterOf_19 rfl 1 rfl ?_
        refine go_iaload X dX5_letterOf_20 tcn7 tc7 ha1 (fun v6 hv6 => ?_)
        refine go_icmp_lt (tgt := 26) X dX5_letterOf_21 rfl ha2 hv6 (fun c7 => ?_) (fun c7 => ?_)
        · refine go_iload_n X dX5_letterOf_26 rfl 1 rfl ?_
          refine go_iconst (v := 3) X dX5_letterOf_27 rfl ?_
          refine go_imul X dX5_letterOf_28 ha1 kI_3 (fun v8 hv8 => ?_)
          refine go_iload_n X dX5_letterOf_29 rfl 2 rfl ?_
          refine go_iadd X dX5_letterOf_30 hv8 ha2 (fun v9 hv9 => ?_)
          refine go_istore_n (i := 3) (L' := [(3, .int (Ii v9)), (0, .ref (base + 1)), (1, .int (Ii a1)), (2, .int (Ii a2))]) X dX5_letterOf_31 rfl (by decide) rfl ?_
          refine go_iload_n X dX5_letterOf_32 rfl 0 rfl ?_
          refine go_aload_n X dX5_letterOf_33 rfl 1 rfl ?_
          refine go_getc (i := 8) X fc5 dX5_letterOf_34 tcn1 tc1 (Nat.le_of_ble_eq_true rfl) rfl lw281 rfl ?_
          refine go_alen X dX5_letterOf_37 tcn8 tc8 (by decide) ?_
          refine go_lt (fun J => ∀ (v10 : Int) (M11 : Mm), i32 v10 → Go p l e (rmO 0 0) s m args below meth c D TC 681 base 4 0 0 (FinI D TC 681 base below args s i32) M11 51 [] [.int (Ii v10)] (J v10 M11)) (by
              intro v10 M11 hv10
              exact go_ireturn X hrt hlk dX5_letterOf_51 hv10
              )
              (fun J51_12 hJ51_12 => ?_)
          refine go_icmp_ge (tgt := 50) X dX5_letterOf_38 rfl hv9 kI_30 (fun c13 => ?_) (fun c13 => ?_)
          · refine go_iconst (v := (-1)) X dX5_letterOf_50 rfl ?_
            refine go_sub [] rfl ?_
            exact hJ51_12 ((-1)) M kI_m1
          · refine go_aload_n X dX5_letterOf_41 rfl 1 rfl ?_
            refine go_getc (i := 8) X fc5 dX5_letterOf_42 tcn1 tc1 (Nat.le_of_ble_eq_true rfl) rfl lw281 rfl ?_
            refine go_iload_n X dX5_letterOf_45 rfl 0 rfl ?_
            refine go_iaload X dX5_letterOf_46 tcn8 tc8 hv9 (fun v14 hv14 => ?_)
            refine go_goto (tgt := 51) X dX5_letterOf_47 rfl ?_
            refine go_sub [] rfl ?_
            exact hJ51_12 v14 M hv14
        · refine go_sub [] rfl ?_
          exact hJ24_2 M
