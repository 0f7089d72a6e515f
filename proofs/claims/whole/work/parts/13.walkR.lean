def f_X12_betters_L65_57 (a1 : Int) (a2 : Int) (a3 : Int) (v3 : Int) (v19 : Int) (J165_25 : Int → Int → Mm → Rs) (rc65_31 : Int × Int × Int × Mm → Rs) : Int × Int × Int × Mm → Rs := fun (v27, v28, v29, M30) =>
if v19 < v29 then (
J165_25 v27 v28 M30) else (
Cl (f_X12_weight a1 a2 v28 v29 a3 M30) fun v34 M33 =>
Lt (fun (v35 : Int) (v36 : Int) (v37 : Int) (M38 : Mm) => 
Lt (wr (v37 + 1)) fun v40 =>
rc65_31 (v35, v36, v40, M38)) fun J159_39 =>
if 999990000 ≤ v34 then (
J159_39 v27 v28 v29 M33) else (
gd (0 ≤ v3 ∧ v3 < 676) <|
Lt (M33 43 v3.toNat) fun v42 =>
Lt (fun (v43 : Int) (v44 : Int) (M45 : Mm) => 
Lt (wr (Int.tdiv v34 10000)) fun v47 =>
gd (0 ≤ v3 ∧ v3 < 676) <|
Lt (up M45 43 v3.toNat v47) fun M48 =>
Lt (jrem v34 10000) fun v49 =>
gd (0 ≤ v3 ∧ v3 < 676) <|
Lt (up M48 44 v3.toNat v49) fun M50 =>
J159_39 1 v43 v44 M50) fun J130_46 =>
if v42 = 99999 then (
J130_46 v28 v29 M33) else (
gd (0 ≤ v3 ∧ v3 < 676) <|
Lt (M33 43 v3.toNat) fun v52 =>
Lt (wr (10000 * v52)) fun v53 =>
gd (0 ≤ v3 ∧ v3 < 676) <|
Lt (M33 44 v3.toNat) fun v54 =>
Lt (wr (v53 + v54)) fun v55 =>
if v55 ≤ v34 then (
J159_39 v27 v28 v29 M33) else (
J130_46 v28 v29 M33))))
def f_X12_betters_L36_59 (a1 : Int) (a2 : Int) (a3 : Int) (v3 : Int) (v5 : Int) (J171_10 : Int → Mm → Rs) (rc36_14 : Int × Int × Mm → Rs) : Int × Int × Mm → Rs := fun (v11, v12, M13) =>
if v5 < v12 then (
J171_10 v11 M13) else (
gd (0 ≤ a1 ∧ a1 < 10) <|
Lt (M13 2 a1.toNat) fun v16 =>
Lt (fun (v17 : Int) (v18 : Int) (v19 : Int) (M20 : Mm) => 
Lt (fun (v22 : Int) (v23 : Int) (M24 : Mm) => 
Lt (wr (v23 + 1)) fun v26 =>
rc36_14 (v22, v26, M24)) fun J165_25 =>
Lp (f_X12_betters_L65_57 a1 a2 a3 v3 v19 J165_25) FU (v17, v18, v18, M20)) fun J59_21 =>
if v16 ≤ 2 then (
J59_21 v11 v12 v12 M13) else (
J59_21 v11 v12 a3 M13))
def f_X12_betters (a1 : Int) (a2 : Int) (a3 : Int) (M : Mm) : Rs :=
gd (0 ≤ a1 ∧ a1 < 10) <|
Lt (M 1 a1.toNat) fun v1 =>
Cl (f_X12_stretch v1 a2 a3 M) fun v3 M2 =>
gd (0 ≤ a1 ∧ a1 < 10) <|
Lt (M2 2 a1.toNat) fun v4 =>
Lt (fun (v5 : Int) (M6 : Mm) => 
Lt (fun (v8 : Int) (M9 : Mm) => 
some (v8, M9)) fun J171_10 =>
Lp (f_X12_betters_L36_59 a1 a2 a3 v3 v5 J171_10) FU (0, a2, M6)) fun J31_7 =>
if v4 ≤ 1 then (
J31_7 a2 M2) else (
J31_7 a3 M2)
theorem cy_X12_betters : yX12_betters.cls ≠ "java/lang/invoke/MethodHandle" ∧ yX12_betters.cls ≠ "java/lang/invoke/VarHandle" ∧ (parseMethodDescriptor yX12_betters.desc).map (fun d => d.parameters.length) = some 3 := ⟨by decide +kernel, by decide +kernel, by decide +kernel⟩
set_option maxRecDepth 20000 in
theorem ok_X12_betters (l : Launch) (D : Dd) (base : Nat) (M : Mm) (a1 : Int) (ha1 : i32 a1) (a2 : Int) (ha2 : i32 a2) (a3 : Int) (ha3 : i32 a3) : OkI l D TR 67 base yX12_betters cX12_betters 11 (some .boolean) 3 79 [.ref (base + 0), .int (Ii a1), .int (Ii a2), .int (Ii a3)] M bo (f_X12_betters a1 a2 a3 M) := by
  refine metI (by decide +kernel) [(0, .ref (base + 0)), (1, .int (Ii a1)), (2, .int (Ii a2)), (3, .int (Ii a3))] rfl (Nat.le_of_ble_eq_true rfl) (fun p e s m args below meth c X hrt hlk => ?_)
  have X : Cx p s m args c cX12_betters D 11 RX12 := X
  unfold f_X12_betters
  refine go_aload_n X dX12_betters_0 rfl 0 rfl ?_
  refine go_getc (i := 1) X fc12 dX12_betters_1 trn0 tr0 (Nat.le_of_ble_eq_true rfl) rfl lw866 rfl ?_
  refine go_iload_n X dX12_betters_4 rfl 1 rfl ?_
  refine go_iaload X dX12_betters_5 trn1 tr1 ha1 (fun v1 hv1 => ?_)
  refine go_iload_n X dX12_betters_6 rfl 2 rfl ?_
  refine go_iload_n X dX12_betters_7 rfl 3 rfl ?_
  refine goI (fun H locs ls r ho hW hL => runS X (ok_X12_stretch l D base M v1 hv1 a2 ha2 a3 ha3 H.size r ho) dX12_betters_8 lw1043 lw1044 lw944 ⟨lw1040, cy_X12_stretch, Nat.le_of_ble_eq_true rfl, Nat.le_of_ble_eq_true rfl⟩ rfl rfl (Nat.le_of_ble_eq_true rfl) hW hL hk0) (fun v3 M2 hv3 => ?_)
  refine go_istore (i := 4) (L' := [(4, .int (Ii v3)), (0, .ref (base + 0)), (1, .int (Ii a1)), (2, .int (Ii a2)), (3, .int (Ii a3))]) X dX12_betters_11 (by decide) rfl ?_
  refine go_iconst (v := 0) X dX12_betters_13 rfl ?_
  refine go_istore (i := 5) (L' := [(5, .int (Ii 0)), (4, .int (Ii v3)), (0, .ref (base + 0)), (1, .int (Ii a1)), (2, .int (Ii a2)), (3, .int (Ii a3))]) X dX12_betters_14 (by decide) rfl ?_
  refine go_aload_n X dX12_betters_16 rfl 2 rfl ?_
  refine go_getc (i := 2) X fc12 dX12_betters_17 trn0 tr0 (Nat.le_of_ble_eq_true rfl) rfl lw867 rfl ?_
  refine go_iload_n X dX12_betters_20 rfl 3 rfl ?_
  refine go_iaload X dX12_betters_21 trn2 tr2 ha1 (fun v4 hv4 => ?_)
  refine go_iconst (v := 1) X dX12_betters_22 rfl ?_
  refine go_lt (fun J => ∀ (v5 : Int) (M6 : Mm), i32 v5 → Go p l e (rmO 3 79) s m args below meth c D TR 67 base 11 0 0 (FinI D TR 67 base below args s bo) M6 31 [(0, .ref (base + 0)), (1, .int (Ii a1)), (2, .int (Ii a2)), (3, .int (Ii a3)), (4, .int (Ii v3)), (5, .int (Ii 0))] [.int (Ii v5)] (J v5 M6)) (by
      intro v5 M6 hv5
      refine go_istore (i := 6) (L' := [(6, .int (Ii v5)), (0, .ref (base + 0)), (1, .int (Ii a1)), (2, .int (Ii a2)), (3, .int (Ii a3)), (4, .int (Ii v3)), (5, .int (Ii 0))]) X dX12_betters_31 (by decide) rfl ?_
      refine go_iload_n X dX12_betters_33 rfl 3 rfl ?_
      refine go_istore (i := 7) (L' := [(7, .int (Ii a2)), (6, .int (Ii v5)), (0, .ref (base + 0)), (1, .int (Ii a1)), (2, .int (Ii a2)), (3, .int (Ii a3)), (4, .int (Ii v3)), (5, .int (Ii 0))]) X dX12_betters_34 (by decide) rfl ?_
      refine go_lt (fun J => ∀ (v8 : Int) (M9 : Mm), bo v8 → Go p l e (rmO 3 79) s m args below meth c D TR 67 base 11 0 0 (FinI D TR 67 base below args s bo) M9 171 [(5, .int (Ii v8))] [] (J v8 M9)) (by
          intro v8 M9 hv8
          refine go_iload X dX12_betters_171 0 rfl ?_
          exact go_zreturn X hrt hlk dX12_betters_173 hv8 hv8
          )
          (fun J171_10 hJ171_10 => ?_)
      refine go_sub [2, 3, 4, 5, 6, 7, 1, 0] rfl ?_
      exact go_lp (fun (rc : Int × Int × Mm → Rs) => ∀ (v11 : Int) (v12 : Int) (M13 : Mm), bo v11 → i32 v12 → Go p l e (rmO 3 79) s m args below meth c D TR 67 base 11 0 0 (FinI D TR 67 base below args s bo) M13 36 [(0, .ref (base + 0)), (1, .int (Ii a1)), (2, .int (Ii a2)), (3, .int (Ii a3)), (4, .int (Ii v3)), (5, .int (Ii v11)), (6, .int (Ii v5)), (7, .int (Ii v12))] [] (rc (v11, v12, M13)))
          (by intro v11 v12 M13 hv11 hv12; exact go_none)
          (by
          intro rc36_14 hrc36_14 v11 v12 M13 hv11 hv12
          unfold f_X12_betters_L36_59
          dsimp only
          refine go_iload X dX12_betters_36 7 rfl ?_
          refine go_iload X dX12_betters_38 6 rfl ?_
          refine go_icmp_gt (tgt := 171) X dX12_betters_40 rfl hv12 hv5 (fun c15 => ?_) (fun c15 => ?_)
          · refine go_sub [5] rfl ?_
            exact hJ171_10 v11 M13 hv11
          · refine go_aload_n X dX12_betters_43 rfl 0 rfl ?_
            refine go_getc (i := 2) X fc12 dX12_betters_44 trn0 tr0 (Nat.le_of_ble_eq_true rfl) rfl lw867 rfl ?_
            refine go_iload_n X dX12_betters_47 rfl 1 rfl ?_
            refine go_iaload X dX12_betters_48 trn2 tr2 ha1 (fun v16 hv16 => ?_)
            refine go_iconst (v := 2) X dX12_betters_49 rfl ?_
            refine go_lt (fun J => ∀ (v17 : Int) (v18 : Int) (v19 : Int) (M20 : Mm), bo v17 → i32 v18 → i32 v19 → Go p l e (rmO 3 79) s m args below meth c D TR 67 base 11 0 0 (FinI D TR 67 base below args s bo) M20 59 [(0, .ref (base + 0)), (1, .int (Ii a1)), (2, .int (Ii a2)), (3, .int (Ii a3)), (4, .int (Ii v3)), (5, .int (Ii v17)), (6, .int (Ii v5)), (7, .int (Ii v18))] [.int (Ii v19)] (J v17 v18 v19 M20)) (by
                intro v17 v18 v19 M20 hv17 hv18 hv19
                refine go_istore (i := 8) (L' := [(8, .int (Ii v19)), (0, .ref (base + 0)), (1, .int (Ii a1)), (2, .int (Ii a2)), (3, .int (Ii a3)), (4, .int (Ii v3)), (5, .int (Ii v17)), (6, .int (Ii v5)), (7, .int (Ii v18))]) X dX12_betters_59 (by decide) rfl ?_
                refine go_iload X dX12_betters_61 8 rfl ?_
                refine go_istore (i := 9) (L' := [(9, .int (Ii v18)), (8, .int (Ii v19)), (0, .ref (base + 0)), (1, .int (Ii a1)), (2, .int (Ii a2)), (3, .int (Ii a3)), (4, .int (Ii v3)), (5, .int (Ii v17)), (6, .int (Ii v5)), (7, .int (Ii v18))]) X dX12_betters_63 (by decide) rfl ?_
                refine go_lt (fun J => ∀ (v22 : Int) (v23 : Int) (M24 : Mm), bo v22 → i32 v23 → Go p l e (rmO 3 79) s m args below meth c D TR 67 base 11 0 0 (FinI D TR 67 base below args s bo) M24 165 [(0, .ref (base + 0)), (1, .int (Ii a1)), (2, .int (Ii a2)), (3, .int (Ii a3)), (4, .int (Ii v3)), (5, .int (Ii v22)), (6, .int (Ii v5)), (7, .int (Ii v23))] [] (J v22 v23 M24)) (by
                    intro v22 v23 M24 hv22 hv23
                    refine go_iinc (i := 7) (L' := fun v => [(7, .int (Ii v)), (0, .ref (base + 0)), (1, .int (Ii a1)), (2, .int (Ii a2)), (3, .int (Ii a3)), (4, .int (Ii v3)), (5, .int (Ii v22)), (6, .int (Ii v5))]) X dX12_betters_165 hv23 kI_1 (j := 7) rfl (by decide) (fun _ => rfl) (fun v26 hv26 => ?_)
                    refine go_goto (tgt := 36) X dX12_betters_168 rfl ?_
                    refine go_sub [1, 2, 3, 4, 5, 6, 7, 0] rfl ?_
                    exact hrc36_14 v22 v26 M24 hv22 hv26
                    )
                    (fun J165_25 hJ165_25 => ?_)
                refine go_sub [2, 3, 4, 5, 6, 7, 8, 9, 1, 0] rfl ?_
                exact go_lp (fun (rc : Int × Int × Int × Mm → Rs) => ∀ (v27 : Int) (v28 : Int) (v29 : Int) (M30 : Mm), bo v27 → i32 v28 → i32 v29 → Go p l e (rmO 3 79) s m args below meth c D TR 67 base 11 0 0 (FinI D TR 67 base below args s bo) M30 65 [(0, .ref (base + 0)), (1, .int (Ii a1)), (2, .int (Ii a2)), (3, .int (Ii a3)), (4, .int (Ii v3)), (5, .int (Ii v27)), (6, .int (Ii v5)), (7, .int (Ii v28)), (8, .int (Ii v19)), (9, .int (Ii v29))] [] (rc (v27, v28, v29, M30)))
                    (by intro v27 v28 v29 M30 hv27 hv28 hv29; exact go_none)
                    (by
                    intro rc65_31 hrc65_31 v27 v28 v29 M30 hv27 hv28 hv29
                    unfold f_X12_betters_L65_57
                    dsimp only
                    refine go_iload X dX12_betters_65 9 rfl ?_
                    refine go_iload X dX12_betters_67 8 rfl ?_
                    refine go_icmp_gt (tgt := 165) X dX12_betters_69 rfl hv29 hv19 (fun c32 => ?_) (fun c32 => ?_)
                    · refine go_sub [0, 1, 2, 3, 4, 5, 6, 7] rfl ?_
                      exact hJ165_25 v27 v28 M30 hv27 hv28
                    · refine go_aload_n X dX12_betters_72 rfl 0 rfl ?_
                      refine go_iload_n X dX12_betters_73 rfl 1 rfl ?_
                      refine go_iload_n X dX12_betters_74 rfl 2 rfl ?_
                      refine go_iload X dX12_betters_75 7 rfl ?_
                      refine go_iload X dX12_betters_77 9 rfl ?_
                      refine go_iload_n X dX12_betters_79 rfl 3 rfl ?_
                      refine goI (fun H locs ls r ho hW hL => runV X (ok_X12_weight l D base M30 a1 ha1 a2 ha2 v28 hv28 v29 hv29 a3 ha3 H.size r ho) dX12_betters_80 lw1057 lw1058 lw1059 lw944 ⟨lw1049, cy_X12_weight, Nat.le_of_ble_eq_true rfl, Nat.le_of_ble_eq_true rfl⟩ rfl trn0 tr0 rfl rfl rfl rfl (Nat.le_of_ble_eq_true rfl) hW hL hk0) (fun v34 M33 hv34 => ?_)
                      refine go_istore (i := 10) (L' := [(10, .int (Ii v34)), (0, .ref (base + 0)), (1, .int (Ii a1)), (2, .int (Ii a2)), (3, .int (Ii a3)), (4, .int (Ii v3)), (5, .int (Ii v27)), (6, .int (Ii v5)), (7, .int (Ii v28)), (8, .int (Ii v19)), (9, .int (Ii v29))]) X dX12_betters_83 (by decide) rfl ?_
                      refine go_iload X dX12_betters_85 0 rfl ?_
                      refine go_ldcw (v := 999990000) X dX12_betters_87 lw1050 rfl ?_
                      refine go_lt (fun J => ∀ (v35 : Int) (v36 : Int) (v37 : Int) (M38 : Mm), bo v35 → i32 v36 → i32 v37 → Go p l e (rmO 3 79) s m args below meth c D TR 67 base 11 0 0 (FinI D TR 67 base below args s bo) M38 159 [(0, .ref (base + 0)), (1, .int (Ii a1)), (2, .int (Ii a2)), (3, .int (Ii a3)), (4, .int (Ii v3)), (5, .int (Ii v35)), (6, .int (Ii v5)), (7, .int (Ii v36)), (8, .int (Ii v19)), (9, .int (Ii v37))] [] (J v35 v36 v37 M38)) (by
                          intro v35 v36 v37 M38 hv35 hv36 hv37
                          refine go_iinc (i := 9) (L' := fun v => [(9, .int (Ii v)), (0, .ref (base + 0)), (1, .int (Ii a1)), (2, .int (Ii a2)), (3, .int (Ii a3)), (4, .int (Ii v3)), (5, .int (Ii v35)), (6, .int (Ii v5)), (7, .int (Ii v36)), (8, .int (Ii v19))]) X dX12_betters_159 hv37 kI_1 (j := 9) rfl (by decide) (fun _ => rfl) (fun v40 hv40 => ?_)
                          refine go_goto (tgt := 65) X dX12_betters_162 rfl ?_
                          refine go_sub [1, 2, 3, 4, 5, 6, 7, 8, 9, 0] rfl ?_
                          exact hrc65_31 v35 v36 v40 M38 hv35 hv36 hv40
                          )
                          (fun J159_39 hJ159_39 => ?_)
                      refine go_icmp_ge (tgt := 159) X dX12_betters_90 rfl hv34 kI_999990000 (fun c41 => ?_) (fun c41 => ?_)
                      · refine go_sub [1, 2, 3, 4, 5, 6, 7, 8, 9, 10] rfl ?_
                        exact hJ159_39 v27 v28 v29 M33 hv27 hv28 hv29
                      · refine go_aload_n X dX12_betters_93 rfl 1 rfl ?_
                        refine go_getc (i := 51) X fc12 dX12_betters_94 trn0 tr0 (Nat.le_of_ble_eq_true rfl) rfl lw909 rfl ?_
                        refine go_iload X dX12_betters_97 5 rfl ?_
                        refine go_iaload X dX12_betters_99 trn43 tr43 hv3 (fun v42 hv42 => ?_)
                        refine go_ldcw (v := 99999) X dX12_betters_100 lw1002 rfl ?_
                        refine go_lt (fun J => ∀ (v43 : Int) (v44 : Int) (M45 : Mm), i32 v43 → i32 v44 → Go p l e (rmO 3 79) s m args below meth c D TR 67 base 11 0 0 (FinI D TR 67 base below args s bo) M45 130 [(0, .ref (base + 0)), (1, .int (Ii a1)), (2, .int (Ii a2)), (3, .int (Ii a3)), (4, .int (Ii v3)), (6, .int (Ii v5)), (7, .int (Ii v43)), (8, .int (Ii v19)), (9, .int (Ii v44)), (10, .int (Ii v34))] [] (J v43 v44 M45)) (by
                            intro v43 v44 M45 hv43 hv44
                            refine go_aload_n X dX12_betters_130 rfl 0 rfl ?_
                            refine go_getc (i := 51) X fc12 dX12_betters_131 trn0 tr0 (Nat.le_of_ble_eq_true rfl) rfl lw909 rfl ?_
                            refine go_iload X dX12_betters_134 4 rfl ?_
                            refine go_iload X dX12_betters_136 9 rfl ?_
                            refine go_sipush (v := 10000) X dX12_betters_138 (by decide) ?_
                            refine go_idiv X dX12_betters_141 hv34 kI_10000 (by decide) (fun v47 hv47 => ?_)
                            refine go_iastore X dX12_betters_142 trn43 tr43 hv3 hv47 (fun M48 => ?_)
                            refine go_aload_n X dX12_betters_143 rfl 0 rfl ?_
                            refine go_getc (i := 52) X fc12 dX12_betters_144 trn0 tr0 (Nat.le_of_ble_eq_true rfl) rfl lw910 rfl ?_
                            refine go_iload X dX12_betters_147 4 rfl ?_
                            refine go_iload X dX12_betters_149 9 rfl ?_
                            refine go_sipush (v := 10000) X dX12_betters_151 (by decide) ?_
                            refine go_irem X dX12_betters_154 hv34 kI_10000 (by decide) (fun v49 hv49 => ?_)
                            refine go_iastore X dX12_betters_155 trn44 tr44 hv3 hv49 (fun M50 => ?_)
                            refine go_iconst (v := 1) X dX12_betters_156 rfl ?_
                            refine go_istore (i := 5) (L' := [(5, .int (Ii 1)), (0, .ref (base + 0)), (1, .int (Ii a1)), (2, .int (Ii a2)), (3, .int (Ii a3)), (4, .int (Ii v3)), (6, .int (Ii v5)), (7, .int (Ii v43)), (8, .int (Ii v19)), (9, .int (Ii v44)), (10, .int (Ii v34))]) X dX12_betters_157 (by decide) rfl ?_
                            refine go_sub [1, 2, 3, 4, 5, 0, 6, 7, 8, 9] rfl ?_
                            exact hJ159_39 1 v43 v44 M50 (Or.inr rfl) hv43 hv44
                            )
                            (fun J130_46 hJ130_46 => ?_)
                        refine go_icmp_eq (tgt := 130) X dX12_betters_103 rfl hv42 kI_99999 (fun c51 => ?_) (fun c51 => ?_)
                        · refine go_sub [1, 2, 3, 4, 5, 7, 8, 9, 10, 0] rfl ?_
                          exact hJ130_46 v28 v29 M33 hv28 hv29
                        · refine go_iload X dX12_betters_106 0 rfl ?_
                          refine go_sipush (v := 10000) X dX12_betters_108 (by decide) ?_
                          refine go_aload_n X dX12_betters_111 rfl 1 rfl ?_
                          refine go_getc (i := 51) X fc12 dX12_betters_112 trn0 tr0 (Nat.le_of_ble_eq_true rfl) rfl lw909 rfl ?_
                          refine go_iload X dX12_betters_115 5 rfl ?_
                          refine go_iaload X dX12_betters_117 trn43 tr43 hv3 (fun v52 hv52 => ?_)
                          refine go_imul X dX12_betters_118 kI_10000 hv52 (fun v53 hv53 => ?_)
                          refine go_aload_n X dX12_betters_119 rfl 1 rfl ?_
                          refine go_getc (i := 52) X fc12 dX12_betters_120 trn0 tr0 (Nat.le_of_ble_eq_true rfl) rfl lw910 rfl ?_
                          refine go_iload X dX12_betters_123 5 rfl ?_
                          refine go_iaload X dX12_betters_125 trn44 tr44 hv3 (fun v54 hv54 => ?_)
                          refine go_iadd X dX12_betters_126 hv53 hv54 (fun v55 hv55 => ?_)
                          refine go_icmp_ge (tgt := 159) X dX12_betters_127 rfl hv34 hv55 (fun c56 => ?_) (fun c56 => ?_)
                          · refine go_sub [1, 2, 3, 4, 5, 6, 7, 8, 9, 10] rfl ?_
                            exact hJ159_39 v27 v28 v29 M33 hv27 hv28 hv29
                          · refine go_sub [1, 2, 3, 4, 5, 7, 8, 9, 10, 0] rfl ?_
                            exact hJ130_46 v28 v29 M33 hv28 hv29
                    )
                    FU v17 v18 v18 M20 hv17 hv18 hv18
                )
                (fun J59_21 hJ59_21 => ?_)
            refine go_icmp_le (tgt := 57) X dX12_betters_50 rfl hv16 kI_2 (fun c58 => ?_) (fun c58 => ?_)
            · refine go_iload X dX12_betters_57 7 rfl ?_
              exact hJ59_21 v11 v12 v12 M13 hv11 hv12 hv12
            · refine go_iload_n X dX12_betters_53 rfl 3 rfl ?_
              refine go_goto (tgt := 59) X dX12_betters_54 rfl ?_
              exact hJ59_21 v11 v12 a3 M13 hv11 hv12 ha3
          )
          FU 0 a2 M6 (Or.inl rfl) ha2
      )
      (fun J31_7 hJ31_7 => ?_)
  refine go_icmp_le (tgt := 30) X dX12_betters_23 rfl hv4 kI_1 (fun c60 => ?_) (fun c60 => ?_)
  · refine go_iload_n X dX12_betters_30 rfl 4 rfl ?_
    refine go_sub [2, 3, 4, 5, 1, 0] rfl ?_
    exact hJ31_7 a2 M2 ha2
  · refine go_iload_n X dX12_betters_26 rfl 5 rfl ?_
    refine go_goto (tgt := 31) X dX12_betters_27 rfl ?_
    refine go_sub [2, 3, 4, 5, 1, 0] rfl ?_
    exact hJ31_7 a3 M2 ha3
def f_X12_findsBest_L64_62 (J102_35 : Int → Int → Int → Mm → Rs) (rc64_42 : Int × Int × Int × Int × Mm → Rs) : Int × Int × Int × Int × Mm → Rs := fun (v37, v38, v39, v40, M41) =>
Lt (M41 0 0) fun v43 =>
if v43 ≤ v40 then (
J102_35 v37 v38 v39 M41) else (
Lt (wr (v39 + v38)) fun v45 =>
Cl (f_X12_betters v40 v39 v45 M41) fun v47 M46 =>
Lt (fun (v48 : Int) (v49 : Int) (v50 : Int) (v51 : Int) (M52 : Mm) => 
Lt (wr (v50 + 1)) fun v54 =>
rc64_42 (v51, v48, v49, v54, M52)) fun J95_53 =>
Lt (fun (v55 : Int) (v56 : Int) (v57 : Int) (M58 : Mm) => 
J95_53 v55 v56 v57 1 M58) fun J90_59 =>
if ¬ v47 = 0 then (
J90_59 v38 v39 v40 M46) else (
if v37 = 0 then (
J95_53 v38 v39 v40 0 M46) else (
J90_59 v38 v39 v40 M46)))
def f_X12_findsBest_L51_63 (J108_21 : Int → Int → Mm → Rs) (rc51_27 : Int × Int × Int × Mm → Rs) : Int × Int × Int × Mm → Rs := fun (v23, v24, v25, M26) =>
Lt (wr (v25 + v24)) fun v28 =>
Lt (M26 0 33) fun v29 =>
if v29 < v28 then (
J108_21 v23 v24 M26) else (
Lt (fun (v31 : Int) (v32 : Int) (v33 : Int) (M34 : Mm) => 
Lt (wr (v33 + 1)) fun v36 =>
rc51_27 (v31, v32, v36, M34)) fun J102_35 =>
Lp (f_X12_findsBest_L64_62 J102_35) FU (v23, v24, v25, 0, M26))
def f_X12_findsBest_L41_64 (J114_11 : Int → Mm → Rs) (rc41_15 : Int × Int × Mm → Rs) : Int × Int × Mm → Rs := fun (v12, v13, M14) =>
Lt (M14 0 33) fun v16 =>
if v16 < v13 then (
J114_11 v12 M14) else (
Lt (fun (v18 : Int) (v19 : Int) (M20 : Mm) => 
Lt (wr (v19 + 1)) fun v22 =>
rc41_15 (v18, v22, M20)) fun J108_21 =>
Lp (f_X12_findsBest_L51_63 J108_21) FU (v12, v13, 0, M14))
def f_X12_findsBest_L33_65 (J117_4 : Mm → Rs) (rc33_7 : Int × Mm → Rs) : Int × Mm → Rs := fun (v5, M6) =>
if v5 = 0 then (
J117_4 M6) else (
Lt (fun (v9 : Int) (M10 : Mm) => 
rc33_7 (v9, M10)) fun J114_11 =>
Lp (f_X12_findsBest_L41_64 J114_11) FU (0, 0, M6))
def f_X12_findsBest_L2_73 (J31_2 : Mm → Rs) (rc2_68 : Int × Mm → Rs) : Int × Mm → Rs := fun (v66, M67) =>
if 676 ≤ v66 then (
J31_2 M67) else (
gd (0 ≤ v66 ∧ v66 < 676) <|
Lt (up M67 43 v66.toNat 99999) fun M70 =>
gd (0 ≤ v66 ∧ v66 < 676) <|
Lt (up M70 44 v66.toNat 0) fun M71 =>
Lt (wr (v66 + 1)) fun v72 =>
rc2_68 (v72, M71))
def f_X12_findsBest (M : Mm) : Rs :=
Lt (fun (M1 : Mm) => 
Lt (fun (M3 : Mm) => 
some (0, M3)) fun J117_4 =>
Lp (f_X12_findsBest_L33_65 J117_4) FU (1, M1)) fun J31_2 =>
Lp (f_X12_findsBest_L2_73 J31_2) FU (0, M)
theorem cy_X12_findsBest : yX12_findsBest.cls ≠ "java/lang/invoke/MethodHandle" ∧ yX12_findsBest.cls ≠ "java/lang/invoke/VarHandle" ∧ (parseMethodDescriptor yX12_findsBest.desc).map (fun d => d.parameters.length) = some 0 := ⟨by decide +kernel, by decide +kernel, by decide +kernel⟩
set_option maxRecDepth 20000 in
theorem ok_X12_findsBest (l : Launch) (D : Dd) (base : Nat) (M : Mm) : OkV l D TR 67 base yX12_findsBest cX12_findsBest 5 none 4 109 [.ref (base + 0)] M (f_X12_findsBest M) := by
  refine metV (by decide +kernel) [(0, .ref (base + 0))] rfl (Nat.le_of_ble_eq_true rfl) (fun p e s m args below meth c X hrt hlk => ?_)
  have X : Cx p s m args c cX12_findsBest D 5 RX12 := X
  unfold f_X12_findsBest
  refine go_iconst (v := 0) X dX12_findsBest_0 rfl ?_
  refine go_istore_n (i := 1) (L' := [(1, .int (Ii 0)), (0, .ref (base + 0))]) X dX12_findsBest_1 rfl (by decide) rfl ?_
  refine go_lt (fun J => ∀ (M1 : Mm), Go p l e (rmO 4 109) s m args below meth c D TR 67 base 5 0 0 (FinV D TR 67 base below args s) M1 31 [(0, .ref (base + 0))] [] (J M1)) (by
      intro M1
      refine go_iconst (v := 1) X dX12_findsBest_31 rfl ?_
      refine go_istore_n (i := 1) (L' := [(1, .int (Ii 1)), (0, .ref (base + 0))]) X dX12_findsBest_32 rfl (by decide) rfl ?_
      refine go_lt (fun J => ∀ (M3 : Mm), Go p l e (rmO 4 109) s m args below meth c D TR 67 base 5 0 0 (FinV D TR 67 base below args s) M3 117 [] [] (J M3)) (by
          intro M3
          exact go_vreturn X hrt hlk dX12_findsBest_117
          )
          (fun J117_4 hJ117_4 => ?_)
      refine go_sub [1, 0] rfl ?_
      exact go_lp (fun (rc : Int × Mm → Rs) => ∀ (v5 : Int) (M6 : Mm), bo v5 → Go p l e (rmO 4 109) s m args below meth c D TR 67 base 5 0 0 (FinV D TR 67 base below args s) M6 33 [(0, .ref (base + 0)), (1, .int (Ii v5))] [] (rc (v5, M6)))
          (by intro v5 M6 hv5; exact go_none)
          (by
          intro rc33_7 hrc33_7 v5 M6 hv5
          unfold f_X12_findsBest_L33_65
          dsimp only
          refine go_iload_n X dX12_findsBest_33 rfl 1 rfl ?_
          refine go_if_eq (tgt := 117) X dX12_findsBest_34 rfl (bo_i32 hv5) (fun c8 => ?_) (fun c8 => ?_)
          · refine go_sub [] rfl ?_
            exact hJ117_4 M6
          · refine go_iconst (v := 0) X dX12_findsBest_37 rfl ?_
            refine go_istore_n (i := 1) (L' := [(1, .int (Ii 0)), (0, .ref (base + 0))]) X dX12_findsBest_38 rfl (by decide) rfl ?_
            refine go_iconst (v := 0) X dX12_findsBest_39 rfl ?_
            refine go_istore_n (i := 2) (L' := [(2, .int (Ii 0)), (1, .int (Ii 0)), (0, .ref (base + 0))]) X dX12_findsBest_40 rfl (by decide) rfl ?_
            refine go_lt (fun J => ∀ (v9 : Int) (M10 : Mm), bo v9 → Go p l e (rmO 4 109) s m args below meth c D TR 67 base 5 0 0 (FinV D TR 67 base below args s) M10 114 [(0, .ref (base + 0)), (1, .int (Ii v9))] [] (J v9 M10)) (by
                intro v9 M10 hv9
                refine go_goto (tgt := 33) X dX12_findsBest_114 rfl ?_
                exact hrc33_7 v9 M10 hv9
                )
                (fun J114_11 hJ114_11 => ?_)
            refine go_sub [2, 1, 0] rfl ?_
            exact go_lp (fun (rc : Int × Int × Mm → Rs) => ∀ (v12 : Int) (v13 : Int) (M14 : Mm), bo v12 → i32 v13 → Go p l e (rmO 4 109) s m args below meth c D TR 67 base 5 0 0 (FinV D TR 67 base below args s) M14 41 [(0, .ref (base + 0)), (1, .int (Ii v12)), (2, .int (Ii v13))] [] (rc (v12, v13, M14)))
                (by intro v12 v13 M14 hv12 hv13; exact go_none)
                (by
                intro rc41_15 hrc41_15 v12 v13 M14 hv12 hv13
                unfold f_X12_findsBest_L41_64
                dsimp only
                refine go_iload_n X dX12_findsBest_41 rfl 2 rfl ?_
                refine go_aload_n X dX12_findsBest_42 rfl 0 rfl ?_
                refine go_geti (i := 33) X fc12 dX12_findsBest_43 trn0 tr0 (Nat.le_of_ble_eq_true rfl) rfl lw1061 rfl (fun v16 hv16 => ?_)
                refine go_icmp_gt (tgt := 114) X dX12_findsBest_46 rfl hv13 hv16 (fun c17 => ?_) (fun c17 => ?_)
                · refine go_sub [0, 1] rfl ?_
                  exact hJ114_11 v12 M14 hv12
                · refine go_iconst (v := 0) X dX12_findsBest_49 rfl ?_
                  refine go_istore_n (i := 3) (L' := [(3, .int (Ii 0)), (0, .ref (base + 0)), (1, .int (Ii v12)), (2, .int (Ii v13))]) X dX12_findsBest_50 rfl (by decide) rfl ?_
                  refine go_lt (fun J => ∀ (v18 : Int) (v19 : Int) (M20 : Mm), bo v18 → i32 v19 → Go p l e (rmO 4 109) s m args below meth c D TR 67 base 5 0 0 (FinV D TR 67 base below args s) M20 108 [(0, .ref (base + 0)), (1, .int (Ii v18)), (2, .int (Ii v19))] [] (J v18 v19 M20)) (by
                      intro v18 v19 M20 hv18 hv19
                      refine go_iinc (i := 2) (L' := fun v => [(2, .int (Ii v)), (0, .ref (base + 0)), (1, .int (Ii v18))]) X dX12_findsBest_108 hv19 kI_1 (j := 2) rfl (by decide) (fun _ => rfl) (fun v22 hv22 => ?_)
                      refine go_goto (tgt := 41) X dX12_findsBest_111 rfl ?_
                      refine go_sub [1, 2, 0] rfl ?_
                      exact hrc41_15 v18 v22 M20 hv18 hv22
                      )
                      (fun J108_21 hJ108_21 => ?_)
                  refine go_sub [1, 2, 3, 0] rfl ?_
                  exact go_lp (fun (rc : Int × Int × Int × Mm → Rs) => ∀ (v23 : Int) (v24 : Int) (v25 : Int) (M26 : Mm), bo v23 → i32 v24 → i32 v25 → Go p l e (rmO 4 109) s m args below meth c D TR 67 base 5 0 0 (FinV D TR 67 base below args s) M26 51 [(0, .ref (base + 0)), (1, .int (Ii v23)), (2, .int (Ii v24)), (3, .int (Ii v25))] [] (rc (v23, v24, v25, M26)))
                      (by intro v23 v24 v25 M26 hv23 hv24 hv25; exact go_none)
                      (by
                      intro rc51_27 hrc51_27 v23 v24 v25 M26 hv23 hv24 hv25
                      unfold f_X12_findsBest_L51_63
                      dsimp only
                      refine go_iload_n X dX12_findsBest_51 rfl 3 rfl ?_
                      refine go_iload_n X dX12_findsBest_52 rfl 2 rfl ?_
                      refine go_iadd X dX12_findsBest_53 hv25 hv24 (fun v28 hv28 => ?_)
                      refine go_aload_n X dX12_findsBest_54 rfl 0 rfl ?_
                      refine go_geti (i := 33) X fc12 dX12_findsBest_55 trn0 tr0 (Nat.le_of_ble_eq_true rfl) rfl lw1061 rfl (fun v29 hv29 => ?_)
                      refine go_icmp_gt (tgt := 108) X dX12_findsBest_58 rfl hv28 hv29 (fun c30 => ?_) (fun c30 => ?_)
                      · refine go_sub [0, 1, 2] rfl ?_
                        exact hJ108_21 v23 v24 M26 hv23 hv24
                      · refine go_iconst (v := 0) X dX12_findsBest_61 rfl ?_
                        refine go_istore (i := 4) (L' := [(4, .int (Ii 0)), (0, .ref (base + 0)), (1, .int (Ii v23)), (2, .int (Ii v24)), (3, .int (Ii v25))]) X dX12_findsBest_62 (by decide) rfl ?_
                        refine go_lt (fun J => ∀ (v31 : Int) (v32 : Int) (v33 : Int) (M34 : Mm), bo v31 → i32 v32 → i32 v33 → Go p l e (rmO 4 109) s m args below meth c D TR 67 base 5 0 0 (FinV D TR 67 base below args s) M34 102 [(0, .ref (base + 0)), (1, .int (Ii v31)), (2, .int (Ii v32)), (3, .int (Ii v33))] [] (J v31 v32 v33 M34)) (by
                            intro v31 v32 v33 M34 hv31 hv32 hv33
                            refine go_iinc (i := 3) (L' := fun v => [(3, .int (Ii v)), (0, .ref (base + 0)), (1, .int (Ii v31)), (2, .int (Ii v32))]) X dX12_findsBest_102 hv33 kI_1 (j := 3) rfl (by decide) (fun _ => rfl) (fun v36 hv36 => ?_)
                            refine go_goto (tgt := 51) X dX12_findsBest_105 rfl ?_
                            refine go_sub [1, 2, 3, 0] rfl ?_
                            exact hrc51_27 v31 v32 v36 M34 hv31 hv32 hv36
                            )
                            (fun J102_35 hJ102_35 => ?_)
                        refine go_sub [1, 2, 3, 4, 0] rfl ?_
                        exact go_lp (fun (rc : Int × Int × Int × Int × Mm → Rs) => ∀ (v37 : Int) (v38 : Int) (v39 : Int) (v40 : Int) (M41 : Mm), bo v37 → i32 v38 → i32 v39 → i32 v40 → Go p l e (rmO 4 109) s m args below meth c D TR 67 base 5 0 0 (FinV D TR 67 base below args s) M41 64 [(0, .ref (base + 0)), (1, .int (Ii v37)), (2, .int (Ii v38)), (3, .int (Ii v39)), (4, .int (Ii v40))] [] (rc (v37, v38, v39, v40, M41)))
                            (by intro v37 v38 v39 v40 M41 hv37 hv38 hv39 hv40; exact go_none)
                            (by
                            intro rc64_42 hrc64_42 v37 v38 v39 v40 M41 hv37 hv38 hv39 hv40
                            unfold f_X12_findsBest_L64_62
                            dsimp only
                            refine go_iload X dX12_findsBest_64 4 rfl ?_
                            refine go_aload_n X dX12_findsBest_66 rfl 0 rfl ?_
                            refine go_geti (i := 0) X fc12 dX12_findsBest_67 trn0 tr0 (Nat.le_of_ble_eq_true rfl) rfl lw941 rfl (fun v43 hv43 => ?_)
                            refine go_icmp_ge (tgt := 102) X dX12_findsBest_70 rfl hv40 hv43 (fun c44 => ?_) (fun c44 => ?_)
                            · refine go_sub [0, 1, 2, 3] rfl ?_
                              exact hJ102_35 v37 v38 v39 M41 hv37 hv38 hv39
                            · refine go_aload_n X dX12_findsBest_73 rfl 0 rfl ?_
                              refine go_iload X dX12_findsBest_74 4 rfl ?_
                              refine go_iload_n X dX12_findsBest_76 rfl 3 rfl ?_
                              refine go_iload_n X dX12_findsBest_77 rfl 3 rfl ?_
                              refine go_iload_n X dX12_findsBest_78 rfl 2 rfl ?_
                              refine go_iadd X dX12_findsBest_79 hv39 hv38 (fun v45 hv45 => ?_)
                              refine goI (fun H locs ls r ho hW hL => runV X (ok_X12_betters l D base M41 v40 hv40 v39 hv39 v45 hv45 H.size r ho) dX12_findsBest_80 lw1062 lw1063 lw1064 lw944 ⟨lw1060, cy_X12_betters, Nat.le_of_ble_eq_true rfl, Nat.le_of_ble_eq_true rfl⟩ rfl trn0 tr0 rfl rfl rfl rfl (Nat.le_of_ble_eq_true rfl) hW hL hk0) (fun v47 M46 hv47 => ?_)
                              refine go_lt (fun J => ∀ (v48 : Int) (v49 : Int) (v50 : Int) (v51 : Int) (M52 : Mm), i32 v48 → i32 v49 → i32 v50 → bo v51 → Go p l e (rmO 4 109) s m args below meth c D TR 67 base 5 0 0 (FinV D TR 67 base below args s) M52 95 [(0, .ref (base + 0)), (2, .int (Ii v48)), (3, .int (Ii v49)), (4, .int (Ii v50))] [.int (Ii v51)] (J v48 v49 v50 v51 M52)) (by
                                  intro v48 v49 v50 v51 M52 hv48 hv49 hv50 hv51
                                  refine go_istore_n (i := 1) (L' := [(1, .int (Ii v51)), (0, .ref (base + 0)), (2, .int (Ii v48)), (3, .int (Ii v49)), (4, .int (Ii v50))]) X dX12_findsBest_95 rfl (by decide) rfl ?_
                                  refine go_iinc (i := 4) (L' := fun v => [(4, .int (Ii v)), (1, .int (Ii v51)), (0, .ref (base + 0)), (2, .int (Ii v48)), (3, .int (Ii v49))]) X dX12_findsBest_96 hv50 kI_1 (j := 4) rfl (by decide) (fun _ => rfl) (fun v54 hv54 => ?_)
                                  refine go_goto (tgt := 64) X dX12_findsBest_99 rfl ?_
                                  refine go_sub [2, 1, 3, 4, 0] rfl ?_
                                  exact hrc64_42 v51 v48 v49 v54 M52 hv51 hv48 hv49 hv54
                                  )
                                  (fun J95_53 hJ95_53 => ?_)
                              refine go_lt (fun J => ∀ (v55 : Int) (v56 : Int) (v57 : Int) (M58 : Mm), i32 v55 → i32 v56 → i32 v57 → Go p l e (rmO 4 109) s m args below meth c D TR 67 base 5 0 0 (FinV D TR 67 base below args s) M58 90 [(0, .ref (base + 0)), (2, .int (Ii v55)), (3, .int (Ii v56)), (4, .int (Ii v57))] [] (J v55 v56 v57 M58)) (by
                                  intro v55 v56 v57 M58 hv55 hv56 hv57
                                  refine go_iconst (v := 1) X dX12_findsBest_90 rfl ?_
                                  refine go_goto (tgt := 95) X dX12_findsBest_91 rfl ?_
                                  exact hJ95_53 v55 v56 v57 1 M58 hv55 hv56 hv57 (Or.inr rfl)
                                  )
                                  (fun J90_59 hJ90_59 => ?_)
                              refine go_if_ne (tgt := 90) X dX12_findsBest_83 rfl (bo_i32 hv47) (fun c60 => ?_) (fun c60 => ?_)
                              · refine go_sub [0, 2, 3, 4] rfl ?_
                                exact hJ90_59 v38 v39 v40 M46 hv38 hv39 hv40
                              · refine go_iload_n X dX12_findsBest_86 rfl 1 rfl ?_
                                refine go_if_eq (tgt := 94) X dX12_findsBest_87 rfl (bo_i32 hv37) (fun c61 => ?_) (fun c61 => ?_)
                                · refine go_iconst (v := 0) X dX12_findsBest_94 rfl ?_
                                  refine go_sub [0, 2, 3, 4] rfl ?_
                                  exact hJ95_53 v38 v39 v40 0 M46 hv38 hv39 hv40 (Or.inl rfl)
                                · refine go_sub [0, 2, 3, 4] rfl ?_
                                  exact hJ90_59 v38 v39 v40 M46 hv38 hv39 hv40
                            )
                            FU v23 v24 v25 0 M26 hv23 hv24 hv25 kI_0
                      )
                      FU v12 v13 0 M14 hv12 hv13 kI_0
                )
                FU 0 0 M6 (Or.inl rfl) kI_0
          )
          FU 1 M1 (Or.inr rfl)
      )
      (fun J31_2 hJ31_2 => ?_)
  refine go_sub [1, 0] rfl ?_
  exact go_lp (fun (rc : Int × Mm → Rs) => ∀ (v66 : Int) (M67 : Mm), i32 v66 → Go p l e (rmO 4 109) s m args below meth c D TR 67 base 5 0 0 (FinV D TR 67 base below args s) M67 2 [(0, .ref (base + 0)), (1, .int (Ii v66))] [] (rc (v66, M67)))
      (by intro v66 M67 hv66; exact go_none)
      (by
      intro rc2_68 hrc2_68 v66 M67 hv66
      unfold f_X12_findsBest_L2_73
      dsimp only
      refine go_iload_n X dX12_findsBest_2 rfl 1 rfl ?_
      refine go_sipush (v := 676) X dX12_findsBest_3 (by decide) ?_
      refine go_icmp_ge (tgt := 31) X dX12_findsBest_6 rfl hv66 kI_676 (fun c69 => ?_) (fun c69 => ?_)
      · refine go_sub [0] rfl ?_
        exact hJ31_2 M67
      · refine go_aload_n X dX12_findsBest_9 rfl 0 rfl ?_
        refine go_getc (i := 51) X fc12 dX12_findsBest_10 trn0 tr0 (Nat.le_of_ble_eq_true rfl) rfl lw909 rfl ?_
        refine go_iload_n X dX12_findsBest_13 rfl 1 rfl ?_
        refine go_ldcw (v := 99999) X dX12_findsBest_14 lw1002 rfl ?_
        refine go_iastore X dX12_findsBest_17 trn43 tr43 hv66 kI_99999 (fun M70 => ?_)
        refine go_aload_n X dX12_findsBest_18 rfl 0 rfl ?_
        refine go_getc (i := 52) X fc12 dX12_findsBest_19 trn0 tr0 (Nat.le_of_ble_eq_true rfl) rfl lw910 rfl ?_
        refine go_iload_n X dX12_findsBest_22 rfl 1 rfl ?_
        refine go_iconst (v := 0) X dX12_findsBest_23 rfl ?_
        refine go_iastore X dX12_findsBest_24 trn44 tr44 hv66 kI_0 (fun M71 => ?_)
        refine go_iinc (i := 1) (L' := fun v => [(1, .int (Ii v)), (0, .ref (base + 0))]) X dX12_findsBest_25 hv66 kI_1 (j := 1) rfl (by decide) (fun _ => rfl) (fun v72 hv72 => ?_)
        refine go_goto (tgt := 2) X dX12_findsBest_28 rfl ?_
        refine go_sub [1, 0] rfl ?_
        exact hrc2_68 v72 M71 hv72
      )
      FU 0 M kI_0
def f_X12_chosen_L103_71 (a2 : Int) (a3 : Int) (v6 : Int) (J127_13 : Int → Int → Int → Mm → Rs) (v53 : Int) (J178_59 : Int → Int → Mm → Rs) (rc103_65 : Int × Int × Int × Mm → Rs) : Int × Int × Int × Mm → Rs := fun (v61, v62, v63, M64) =>
if v53 < v63 then (
J178_59 v61 v62 M64) else (
Cl (f_X12_weight v61 a2 v62 v63 a3 M64) fun v68 M67 =>
if ¬ v68 = v6 then (
Lt (wr (v63 + 1)) fun v70 =>
rc103_65 (v61, v62, v70, M67)) else (
J127_13 v61 v62 v63 M67))
def f_X12_chosen_L62_73 (a1 : Int) (a2 : Int) (a3 : Int) (v6 : Int) (J127_13 : Int → Int → Int → Mm → Rs) (v36 : Int) (J184_41 : Int → Mm → Rs) (rc62_46 : Int × Int × Mm → Rs) : Int × Int × Mm → Rs := fun (v43, v44, M45) =>
if v36 < v44 then (
J184_41 v43 M45) else (
gd (0 ≤ v43 ∧ v43 < 10) <|
Lt (M45 1 v43.toNat) fun v48 =>
if ¬ v48 = a1 then (
J184_41 v43 M45) else (
gd (0 ≤ v43 ∧ v43 < 10) <|
Lt (M45 2 v43.toNat) fun v50 =>
Lt (fun (v51 : Int) (v52 : Int) (v53 : Int) (M54 : Mm) => 
Lt (fun (v56 : Int) (v57 : Int) (M58 : Mm) => 
Lt (wr (v57 + 1)) fun v60 =>
rc62_46 (v56, v60, M58)) fun J178_59 =>
Lp (f_X12_chosen_L103_71 a2 a3 v6 J127_13 v53 J178_59) FU (v51, v52, v52, M54)) fun J97_55 =>
if v50 ≤ 2 then (
J97_55 v43 v44 v44 M45) else (
J97_55 v43 v44 a3 M45)))
def f_X12_chosen_L32_75 (a1 : Int) (a2 : Int) (a3 : Int) (v6 : Int) (J190_8 : Mm → Rs) (J127_13 : Int → Int → Int → Mm → Rs) (rc32_31 : Int × Mm → Rs) : Int × Mm → Rs := fun (v29, M30) =>
Lt (M30 0 0) fun v32 =>
if v32 ≤ v29 then (
J190_8 M30) else (
gd (0 ≤ v29 ∧ v29 < 10) <|
Lt (M30 2 v29.toNat) fun v34 =>
Lt (fun (v35 : Int) (v36 : Int) (M37 : Mm) => 
Lt (fun (v39 : Int) (M40 : Mm) => 
Lt (wr (v39 + 1)) fun v42 =>
rc32_31 (v42, M40)) fun J184_41 =>
Lp (f_X12_chosen_L62_73 a1 a2 a3 v6 J127_13 v36 J184_41) FU (v35, a2, M37)) fun J57_38 =>
if v34 ≤ 1 then (
J57_38 v29 a2 M30) else (
J57_38 v29 a3 M30))
def f_X12_chosen (a1 : Int) (a2 : Int) (a3 : Int) (M : Mm) : Rs :=
Cl (f_X12_stretch a1 a2 a3 M) fun v2 M1 =>
gd (0 ≤ v2 ∧ v2 < 676) <|
Lt (M1 43 v2.toNat) fun v3 =>
Lt (wr (10000 * v3)) fun v4 =>
gd (0 ≤ v2 ∧ v2 < 676) <|
Lt (M1 44 v2.toNat) fun v5 =>
Lt (wr (v4 + v5)) fun v6 =>
Lt (fun (M7 : Mm) => 
some ((-1), M7)) fun J190_8 =>
Lt (fun (v9 : Int) (v10 : Int) (v11 : Int) (M12 : Mm) => 
gd (0 ≤ v9 ∧ v9 < 10) <|
Lt (M12 2 v9.toNat) fun v14 =>
Lt (fun (v15 : Int) (v16 : Int) (v17 : Int) (M18 : Mm) => 
Lt (up M18 0 58 v17) fun M20 =>
gd (0 ≤ v15 ∧ v15 < 10) <|
Lt (M20 2 v15.toNat) fun v21 =>
Lt (fun (v22 : Int) (v23 : Int) (M24 : Mm) => 
Lt (up M24 0 59 v23) fun M26 =>
some (v22, M26)) fun J166_25 =>
if v21 ≤ 2 then (
J166_25 v15 a3 M20) else (
J166_25 v15 v16 M20)) fun J145_19 =>
if v14 ≤ 1 then (
J145_19 v9 v11 a3 M12) else (
J145_19 v9 v11 v10 M12)) fun J127_13 =>
Lp (f_X12_chosen_L32_75 a1 a2 a3 v6 J190_8 J127_13) FU (0, M1)
theorem cy_X12_chosen : yX12_chosen.cls ≠ "java/lang/invoke/MethodHandle" ∧ yX12_chosen.cls ≠ "java/lang/invoke/VarHandle" ∧ (parseMethodDescriptor yX12_chosen.desc).map (fun d => d.parameters.length) = some 3 := ⟨by decide +kernel, by decide +kernel, by decide +kernel⟩
set_option maxRecDepth 20000 in
theorem ok_X12_chosen (l : Launch) (D : Dd) (base : Nat) (M : Mm) (a1 : Int) (ha1 : i32 a1) (a2 : Int) (ha2 : i32 a2) (a3 : Int) (ha3 : i32 a3) : OkI l D TR 67 base yX12_chosen cX12_chosen 11 (some .int) 3 79 [.ref (base + 0), .int (Ii a1), .int (Ii a2), .int (Ii a3)] M i32 (f_X12_chosen a1 a2 a3 M) := by
  refine metI (by decide +kernel) [(0, .ref (base + 0)), (1, .int (Ii a1)), (2, .int (Ii a2)), (3, .int (Ii a3))] rfl (Nat.le_of_ble_eq_true rfl) (fun p e s m args below meth c X hrt hlk => ?_)
  have X : Cx p s m args c cX12_chosen D 11 RX12 := X
  unfold f_X12_chosen
  refine go_iload_n X dX12_chosen_0 rfl 1 rfl ?_
  refine go_iload_n X dX12_chosen_1 rfl 2 rfl ?_
  refine go_iload_n X dX12_chosen_2 rfl 3 rfl ?_
  refine goI (fun H locs ls r ho hW hL => runS X (ok_X12_stretch l D base M a1 ha1 a2 ha2 a3 ha3 H.size r ho) dX12_chosen_3 lw1043 lw1044 lw944 ⟨lw1040, cy_X12_stretch, Nat.le_of_ble_eq_true rfl, Nat.le_of_ble_eq_true rfl⟩ rfl rfl (Nat.le_of_ble_eq_true rfl) hW hL hk0) (fun v2 M1 hv2 => ?_)
  refine go_istore (i := 4) (L' := [(4, .int (Ii v2)), (0, .ref (base + 0)), (1, .int (Ii a1)), (2, .int (Ii a2)), (3, .int (Ii a3))]) X dX12_chosen_6 (by decide) rfl ?_
  refine go_sipush (v := 10000) X dX12_chosen_8 (by decide) ?_
  refine go_aload_n X dX12_chosen_11 rfl 1 rfl ?_
  refine go_getc (i := 51) X fc12 dX12_chosen_12 trn0 tr0 (Nat.le_of_ble_eq_true rfl) rfl lw909 rfl ?_
  refine go_iload X dX12_chosen_15 0 rfl ?_
  refine go_iaload X dX12_chosen_17 trn43 tr43 hv2 (fun v3 hv3 => ?_)
  refine go_imul X dX12_chosen_18 kI_10000 hv3 (fun v4 hv4 => ?_)
  refine go_aload_n X dX12_chosen_19 rfl 1 rfl ?_
  refine go_getc (i := 52) X fc12 dX12_chosen_20 trn0 tr0 (Nat.le_of_ble_eq_true rfl) rfl lw910 rfl ?_
  refine go_iload X dX12_chosen_23 0 rfl ?_
  refine go_iaload X dX12_chosen_25 trn44 tr44 hv2 (fun v5 hv5 => ?_)
  refine go_iadd X dX12_chosen_26 hv4 hv5 (fun v6 hv6 => ?_)
  refine go_istore (i := 5) (L' := [(5, .int (Ii v6)), (4, .int (Ii v2)), (0, .ref (base + 0)), (1, .int (Ii a1)), (2, .int (Ii a2)), (3, .int (Ii a3))]) X dX12_chosen_27 (by decide) rfl ?_
  refine go_iconst (v := 0) X dX12_chosen_29 rfl ?_
  refine go_istore (i := 6) (L' := [(6, .int (Ii 0)), (5, .int (Ii v6)), (4, .int (Ii v2)), (0, .ref (base + 0)), (1, .int (Ii a1)), (2, .int (Ii a2)), (3, .int (Ii a3))]) X dX12_chosen_30 (by decide) rfl ?_
  refine go_lt (fun J => ∀ (M7 : Mm), Go p l e (rmO 3 79) s m args below meth c D TR 67 base 11 0 0 (FinI D TR 67 base below args s i32) M7 190 [] [] (J M7)) (by
      intro M7
      refine go_iconst (v := (-1)) X dX12_chosen_190 rfl ?_
      exact go_ireturn X hrt hlk dX12_chosen_191 kI_m1
      )
      (fun J190_8 hJ190_8 => ?_)
  refine go_lt (fun J => ∀ (v9 : Int) (v10 : Int) (v11 : Int) (M12 : Mm), i32 v9 → i32 v10 → i32 v11 → Go p l e (rmO 3 79) s m args below meth c D TR 67 base 11 0 0 (FinI D TR 67 base below args s i32) M12 127 [(0, .ref (base + 0)), (3, .int (Ii a3)), (6, .int (Ii v9)), (8, .int (Ii v10)), (10, .int (Ii v11))] [] (J v9 v10 v11 M12)) (by
      intro v9 v10 v11 M12 hv9 hv10 hv11
      refine go_aload_n X dX12_chosen_127 rfl 0 rfl ?_
      refine go_aload_n X dX12_chosen_128 rfl 0 rfl ?_
      refine go_getc (i := 2) X fc12 dX12_chosen_129 trn0 tr0 (Nat.le_of_ble_eq_true rfl) rfl lw867 rfl ?_
      refine go_iload X dX12_chosen_132 2 rfl ?_
      refine go_iaload X dX12_chosen_134 trn2 tr2 hv9 (fun v14 hv14 => ?_)
      refine go_iconst (v := 1) X dX12_chosen_135 rfl ?_
      refine go_lt (fun J => ∀ (v15 : Int) (v16 : Int) (v17 : Int) (M18 : Mm), i32 v15 → i32 v16 → i32 v17 → Go p l e (rmO 3 79) s m args below meth c D TR 67 base 11 0 0 (FinI D TR 67 base below args s i32) M18 145 [(0, .ref (base + 0)), (3, .int (Ii a3)), (6, .int (Ii v15)), (10, .int (Ii v16))] [.int (Ii v17), .ref (base + 0)] (J v15 v16 v17 M18)) (by
          intro v15 v16 v17 M18 hv15 hv16 hv17
          refine go_puti (i := 58) X fc12 dX12_chosen_145 trn0 tr0 (Nat.le_of_ble_eq_true rfl) rfl lw1066 rfl rfl rfl hv17 (fun M20 => ?_)
          refine go_aload_n X dX12_chosen_148 rfl 0 rfl ?_
          refine go_aload_n X dX12_chosen_149 rfl 0 rfl ?_
          refine go_getc (i := 2) X fc12 dX12_chosen_150 trn0 tr0 (Nat.le_of_ble_eq_true rfl) rfl lw867 rfl ?_
          refine go_iload X dX12_chosen_153 2 rfl ?_
          refine go_iaload X dX12_chosen_155 trn2 tr2 hv15 (fun v21 hv21 => ?_)
          refine go_iconst (v := 2) X dX12_chosen_156 rfl ?_
          refine go_lt (fun J => ∀ (v22 : Int) (v23 : Int) (M24 : Mm), i32 v22 → i32 v23 → Go p l e (rmO 3 79) s m args below meth c D TR 67 base 11 0 0 (FinI D TR 67 base below args s i32) M24 166 [(6, .int (Ii v22))] [.int (Ii v23), .ref (base + 0)] (J v22 v23 M24)) (by
              intro v22 v23 M24 hv22 hv23
              refine go_puti (i := 59) X fc12 dX12_chosen_166 trn0 tr0 (Nat.le_of_ble_eq_true rfl) rfl lw1067 rfl rfl rfl hv23 (fun M26 => ?_)
              refine go_iload X dX12_chosen_169 0 rfl ?_
              exact go_ireturn X hrt hlk dX12_chosen_171 hv22
              )
              (fun J166_25 hJ166_25 => ?_)
          refine go_icmp_le (tgt := 165) X dX12_chosen_157 rfl hv21 kI_2 (fun c27 => ?_) (fun c27 => ?_)
          · refine go_iload_n X dX12_chosen_165 rfl 1 rfl ?_
            refine go_sub [2] rfl ?_
            exact hJ166_25 v15 a3 M20 hv15 ha3
          · refine go_iload X dX12_chosen_160 3 rfl ?_
            refine go_goto (tgt := 166) X dX12_chosen_162 rfl ?_
            refine go_sub [2] rfl ?_
            exact hJ166_25 v15 v16 M20 hv15 hv16
          )
          (fun J145_19 hJ145_19 => ?_)
      refine go_icmp_le (tgt := 144) X dX12_chosen_136 rfl hv14 kI_1 (fun c28 => ?_) (fun c28 => ?_)
      · refine go_iload_n X dX12_chosen_144 rfl 1 rfl ?_
        refine go_sub [0, 1, 2, 4] rfl ?_
        exact hJ145_19 v9 v11 a3 M12 hv9 hv11 ha3
      · refine go_iload X dX12_chosen_139 3 rfl ?_
        refine go_goto (tgt := 145) X dX12_chosen_141 rfl ?_
        refine go_sub [0, 1, 2, 4] rfl ?_
        exact hJ145_19 v9 v11 v10 M12 hv9 hv11 hv10
      )
      (fun J127_13 hJ127_13 => ?_)
  refine go_sub [3, 4, 5, 6, 1, 0] rfl ?_
  exact go_lp (fun (rc : Int × Mm → Rs) => ∀ (v29 : Int) (M30 : Mm), i32 v29 → Go p l e (rmO 3 79) s m args below meth c D TR 67 base 11 0 0 (FinI D TR 67 base below args s i32) M30 32 [(0, .ref (base + 0)), (1, .int (Ii a1)), (2, .int (Ii a2)), (3, .int (Ii a3)), (5, .int (Ii v6)), (6, .int (Ii v29))] [] (rc (v29, M30)))
      (by intro v29 M30 hv29; exact go_none)
      (by
      intro rc32_31 hrc32_31 v29 M30 hv29
      unfold f_X12_chosen_L32_75
      dsimp only
      refine go_iload X dX12_chosen_32 5 rfl ?_
      refine go_aload_n X dX12_chosen_34 rfl 0 rfl ?_
      refine go_geti (i := 0) X fc12 dX12_chosen_35 trn0 tr0 (Nat.le_of_ble_eq_true rfl) rfl lw941 rfl (fun v32 hv32 => ?_)
      refine go_icmp_ge (tgt := 190) X dX12_chosen_38 rfl hv29 hv32 (fun c33 => ?_) (fun c33 => ?_)
      · refine go_sub [] rfl ?_
        exact hJ190_8 M30
      · refine go_aload_n X dX12_chosen_41 rfl 0 rfl ?_
        refine go_getc (i := 2) X fc12 dX12_chosen_42 trn0 tr0 (Nat.le_of_ble_eq_true rfl) rfl lw867 rfl ?_
        refine go_iload X dX12_chosen_45 5 rfl ?_
        refine go_iaload X dX12_chosen_47 trn2 tr2 hv29 (fun v34 hv34 => ?_)
        refine go_iconst (v := 1) X dX12_chosen_48 rfl ?_
        refine go_lt (fun J => ∀ (v35 : Int) (v36 : Int) (M37 : Mm), i32 v35 → i32 v36 → Go p l e (rmO 3 79) s m args below meth c D TR 67 base 11 0 0 (FinI D TR 67 base below args s i32) M37 57 [(0, .ref (base + 0)), (1, .int (Ii a1)), (2, .int (Ii a2)), (3, .int (Ii a3)), (5, .int (Ii v6)), (6, .int (Ii v35))] [.int (Ii v36)] (J v35 v36 M37)) (by
            intro v35 v36 M37 hv35 hv36
            refine go_istore (i := 7) (L' := [(7, .int (Ii v36)), (0, .ref (base + 0)), (1, .int (Ii a1)), (2, .int (Ii a2)), (3, .int (Ii a3)), (5, .int (Ii v6)), (6, .int (Ii v35))]) X dX12_chosen_57 (by decide) rfl ?_
            refine go_iload_n X dX12_chosen_59 rfl 3 rfl ?_
            refine go_istore (i := 8) (L' := [(8, .int (Ii a2)), (7, .int (Ii v36)), (0, .ref (base + 0)), (1, .int (Ii a1)), (2, .int (Ii a2)), (3, .int (Ii a3)), (5, .int (Ii v6)), (6, .int (Ii v35))]) X dX12_chosen_60 (by decide) rfl ?_
            refine go_lt (fun J => ∀ (v39 : Int) (M40 : Mm), i32 v39 → Go p l e (rmO 3 79) s m args below meth c D TR 67 base 11 0 0 (FinI D TR 67 base below args s i32) M40 184 [(0, .ref (base + 0)), (1, .int (Ii a1)), (2, .int (Ii a2)), (3, .int (Ii a3)), (5, .int (Ii v6)), (6, .int (Ii v39))] [] (J v39 M40)) (by
                intro v39 M40 hv39
                refine go_iinc (i := 6) (L' := fun v => [(6, .int (Ii v)), (0, .ref (base + 0)), (1, .int (Ii a1)), (2, .int (Ii a2)), (3, .int (Ii a3)), (5, .int (Ii v6))]) X dX12_chosen_184 hv39 kI_1 (j := 5) rfl (by decide) (fun _ => rfl) (fun v42 hv42 => ?_)
                refine go_goto (tgt := 32) X dX12_chosen_187 rfl ?_
                refine go_sub [1, 2, 3, 4, 5, 0] rfl ?_
                exact hrc32_31 v42 M40 hv42
                )
                (fun J184_41 hJ184_41 => ?_)
            refine go_sub [2, 3, 4, 5, 6, 7, 1, 0] rfl ?_
            exact go_lp (fun (rc : Int × Int × Mm → Rs) => ∀ (v43 : Int) (v44 : Int) (M45 : Mm), i32 v43 → i32 v44 → Go p l e (rmO 3 79) s m args below meth c D TR 67 base 11 0 0 (FinI D TR 67 base below args s i32) M45 62 [(0, .ref (base + 0)), (1, .int (Ii a1)), (2, .int (Ii a2)), (3, .int (Ii a3)), (5, .int (Ii v6)), (6, .int (Ii v43)), (7, .int (Ii v36)), (8, .int (Ii v44))] [] (rc (v43, v44, M45)))
                (by intro v43 v44 M45 hv43 hv44; exact go_none)
                (by
                intro rc62_46 hrc62_46 v43 v44 M45 hv43 hv44
                unfold f_X12_chosen_L62_73
                dsimp only
                refine go_iload X dX12_chosen_62 7 rfl ?_
                refine go_iload X dX12_chosen_64 6 rfl ?_
                refine go_icmp_gt (tgt := 184) X dX12_chosen_66 rfl hv44 hv36 (fun c47 => ?_) (fun c47 => ?_)
                · refine go_sub [0, 1, 2, 3, 4, 5] rfl ?_
                  exact hJ184_41 v43 M45 hv43
                · refine go_aload_n X dX12_chosen_69 rfl 0 rfl ?_
                  refine go_getc (i := 1) X fc12 dX12_chosen_70 trn0 tr0 (Nat.le_of_ble_eq_true rfl) rfl lw866 rfl ?_
                  refine go_iload X dX12_chosen_73 5 rfl ?_
                  refine go_iaload X dX12_chosen_75 trn1 tr1 hv43 (fun v48 hv48 => ?_)
                  refine go_iload_n X dX12_chosen_76 rfl 1 rfl ?_
                  refine go_icmp_ne (tgt := 184) X dX12_chosen_77 rfl hv48 ha1 (fun c49 => ?_) (fun c49 => ?_)
                  · refine go_sub [0, 1, 2, 3, 4, 5] rfl ?_
                    exact hJ184_41 v43 M45 hv43
                  · refine go_aload_n X dX12_chosen_80 rfl 0 rfl ?_
                    refine go_getc (i := 2) X fc12 dX12_chosen_81 trn0 tr0 (Nat.le_of_ble_eq_true rfl) rfl lw867 rfl ?_
                    refine go_iload X dX12_chosen_84 5 rfl ?_
                    refine go_iaload X dX12_chosen_86 trn2 tr2 hv43 (fun v50 hv50 => ?_)
                    refine go_iconst (v := 2) X dX12_chosen_87 rfl ?_
                    refine go_lt (fun J => ∀ (v51 : Int) (v52 : Int) (v53 : Int) (M54 : Mm), i32 v51 → i32 v52 → i32 v53 → Go p l e (rmO 3 79) s m args below meth c D TR 67 base 11 0 0 (FinI D TR 67 base below args s i32) M54 97 [(0, .ref (base + 0)), (1, .int (Ii a1)), (2, .int (Ii a2)), (3, .int (Ii a3)), (5, .int (Ii v6)), (6, .int (Ii v51)), (7, .int (Ii v36)), (8, .int (Ii v52))] [.int (Ii v53)] (J v51 v52 v53 M54)) (by
                        intro v51 v52 v53 M54 hv51 hv52 hv53
                        refine go_istore (i := 9) (L' := [(9, .int (Ii v53)), (0, .ref (base + 0)), (1, .int (Ii a1)), (2, .int (Ii a2)), (3, .int (Ii a3)), (5, .int (Ii v6)), (6, .int (Ii v51)), (7, .int (Ii v36)), (8, .int (Ii v52))]) X dX12_chosen_97 (by decide) rfl ?_
                        refine go_iload X dX12_chosen_99 8 rfl ?_
                        refine go_istore (i := 10) (L' := [(10, .int (Ii v52)), (9, .int (Ii v53)), (0, .ref (base + 0)), (1, .int (Ii a1)), (2, .int (Ii a2)), (3, .int (Ii a3)), (5, .int (Ii v6)), (6, .int (Ii v51)), (7, .int (Ii v36)), (8, .int (Ii v52))]) X dX12_chosen_101 (by decide) rfl ?_
                        refine go_lt (fun J => ∀ (v56 : Int) (v57 : Int) (M58 : Mm), i32 v56 → i32 v57 → Go p l e (rmO 3 79) s m args below meth c D TR 67 base 11 0 0 (FinI D TR 67 base below args s i32) M58 178 [(0, .ref (base + 0)), (1, .int (Ii a1)), (2, .int (Ii a2)), (3, .int (Ii a3)), (5, .int (Ii v6)), (6, .int (Ii v56)), (7, .int (Ii v36)), (8, .int (Ii v57))] [] (J v56 v57 M58)) (by
                            intro v56 v57 M58 hv56 hv57
                            refine go_iinc (i := 8) (L' := fun v => [(8, .int (Ii v)), (0, .ref (base + 0)), (1, .int (Ii a1)), (2, .int (Ii a2)), (3, .int (Ii a3)), (5, .int (Ii v6)), (6, .int (Ii v56)), (7, .int (Ii v36))]) X dX12_chosen_178 hv57 kI_1 (j := 7) rfl (by decide) (fun _ => rfl) (fun v60 hv60 => ?_)
                            refine go_goto (tgt := 62) X dX12_chosen_181 rfl ?_
                            refine go_sub [1, 2, 3, 4, 5, 6, 7, 0] rfl ?_
                            exact hrc62_46 v56 v60 M58 hv56 hv60
                            )
                            (fun J178_59 hJ178_59 => ?_)
                        refine go_sub [2, 3, 4, 5, 6, 7, 8, 9, 1, 0] rfl ?_
                        exact go_lp (fun (rc : Int × Int × Int × Mm → Rs) => ∀ (v61 : Int) (v62 : Int) (v63 : Int) (M64 : Mm), i32 v61 → i32 v62 → i32 v63 → Go p l e (rmO 3 79) s m args below meth c D TR 67 base 11 0 0 (FinI D TR 67 base below args s i32) M64 103 [(0, .ref (base + 0)), (1, .int (Ii a1)), (2, .int (Ii a2)), (3, .int (Ii a3)), (5, .int (Ii v6)), (6, .int (Ii v61)), (7, .int (Ii v36)), (8, .int (Ii v62)), (9, .int (Ii v53)), (10, .int (Ii v63))] [] (rc (v61, v62, v63, M64)))
                            (by intro v61 v62 v63 M64 hv61 hv62 hv63; exact go_none)
                            (by
                            intro rc103_65 hrc103_65 v61 v62 v63 M64 hv61 hv62 hv63
                            unfold f_X12_chosen_L103_71
                            dsimp only
                            refine go_iload X dX12_chosen_103 9 rfl ?_
                            refine go_iload X dX12_chosen_105 8 rfl ?_
                            refine go_icmp_gt (tgt := 178) X dX12_chosen_107 rfl hv63 hv53 (fun c66 => ?_) (fun c66 => ?_)
                            · refine go_sub [0, 1, 2, 3, 4, 5, 6, 7] rfl ?_
                              exact hJ178_59 v61 v62 M64 hv61 hv62
                            · refine go_aload_n X dX12_chosen_110 rfl 0 rfl ?_
                              refine go_iload X dX12_chosen_111 5 rfl ?_
                              refine go_iload_n X dX12_chosen_113 rfl 2 rfl ?_
                              refine go_iload X dX12_chosen_114 7 rfl ?_
                              refine go_iload X dX12_chosen_116 9 rfl ?_
                              refine go_iload_n X dX12_chosen_118 rfl 3 rfl ?_
                              refine goI (fun H locs ls r ho hW hL => runV X (ok_X12_weight l D base M64 v61 hv61 a2 ha2 v62 hv62 v63 hv63 a3 ha3 H.size r ho) dX12_chosen_119 lw1057 lw1058 lw1059 lw944 ⟨lw1049, cy_X12_weight, Nat.le_of_ble_eq_true rfl, Nat.le_of_ble_eq_true rfl⟩ rfl trn0 tr0 rfl rfl rfl rfl (Nat.le_of_ble_eq_true rfl) hW hL hk0) (fun v68 M67 hv68 => ?_)
                              refine go_iload X dX12_chosen_122 4 rfl ?_
                              refine go_icmp_ne (tgt := 172) X dX12_chosen_124 rfl hv68 hv6 (fun c69 => ?_) (fun c69 => ?_)
                              · refine go_iinc (i := 10) (L' := fun v => [(10, .int (Ii v)), (0, .ref (base + 0)), (1, .int (Ii a1)), (2, .int (Ii a2)), (3, .int (Ii a3)), (5, .int (Ii v6)), (6, .int (Ii v61)), (7, .int (Ii v36)), (8, .int (Ii v62)), (9, .int (Ii v53))]) X dX12_chosen_172 hv63 kI_1 (j := 9) rfl (by decide) (fun _ => rfl) (fun v70 hv70 => ?_)
                                refine go_goto (tgt := 103) X dX12_chosen_175 rfl ?_
                                refine go_sub [1, 2, 3, 4, 5, 6, 7, 8, 9, 0] rfl ?_
                                exact hrc103_65 v61 v62 v70 M67 hv61 hv62 hv70
                              · refine go_sub [0, 3, 5, 7, 9] rfl ?_
                                exact hJ127_13 v61 v62 v63 M67 hv61 hv62 hv63
                            )
                            FU v51 v52 v52 M54 hv51 hv52 hv52
                        )
                        (fun J97_55 hJ97_55 => ?_)
                    refine go_icmp_le (tgt := 95) X dX12_chosen_88 rfl hv50 kI_2 (fun c72 => ?_) (fun c72 => ?_)
                    · refine go_iload X dX12_chosen_95 7 rfl ?_
                      exact hJ97_55 v43 v44 v44 M45 hv43 hv44 hv44
                    · refine go_iload_n X dX12_chosen_91 rfl 3 rfl ?_
                      refine go_goto (tgt := 97) X dX12_chosen_92 rfl ?_
                      exact hJ97_55 v43 v44 a3 M45 hv43 hv44 ha3
                )
                FU v35 a2 M37 hv35 ha2
            )
            (fun J57_38 hJ57_38 => ?_)
        refine go_icmp_le (tgt := 56) X dX12_chosen_49 rfl hv34 kI_1 (fun c74 => ?_) (fun c74 => ?_)
        · refine go_iload_n X dX12_chosen_56 rfl 2 rfl ?_
          exact hJ57_38 v29 a2 M30 hv29 ha2
        · refine go_iload_n X dX12_chosen_52 rfl 3 rfl ?_
          refine go_goto (tgt := 57) X dX12_chosen_53 rfl ?_
          exact hJ57_38 v29 a3 M30 hv29 ha3
      )
      FU 0 M1 kI_0
def f_X12_makes_L216_100 (v15 : Int) (v19 : Int) (v20 : Int) (v23 : Int) (v34 : Int) (v35 : Int) (J377_42 : Int → Mm → Rs) (rc216_48 : Int × Int × Int × Int × Mm → Rs) : Int × Int × Int × Int × Mm → Rs := fun (v43, v44, v45, v46, M47) =>
if v46 < 0 then (
J377_42 v43 M47) else (
Lt (wr (3 * v23)) fun v50 =>
Lt (wr (v50 + v46)) fun v51 =>
gd (0 ≤ v51 ∧ v51 < 30) <|
Lt (M47 3 v51.toNat) fun v52 =>
Lt (fun (v53 : Int) (v54 : Int) (v55 : Int) (v56 : Int) (v57 : Int) (M58 : Mm) => 
Lt (fun (v60 : Int) (v61 : Int) (v62 : Int) (v63 : Int) (v64 : Int) (M65 : Mm) => 
Lt (fun (v67 : Int) (v68 : Int) (v69 : Int) (v70 : Int) (M71 : Mm) => 
Lt (wr (v70 + (-1))) fun v73 =>
rc216_48 (v67, v68, v69, v73, M71)) fun J371_72 =>
if 4 ≤ v52 then (
Lt (wr (v62 + (-1))) fun v75 =>
gd (0 ≤ v15 ∧ v15 < 30) <|
Lt (M65 35 v15.toNat) fun v76 =>
Cl (f_X12_hasLetter v52 v57 v64 M65) fun v78 M77 =>
Lt (fun (v79 : Int) (v80 : Int) (v81 : Int) (v82 : Int) (M83 : Mm) => 
Lt (jor v76 v82) fun v85 =>
gd (0 ≤ v15 ∧ v15 < 30) <|
Lt (up M83 35 v15.toNat v85) fun M86 =>
J371_72 v79 v80 v75 v81 M86) fun J369_84 =>
if v78 = 0 then (
Lt (jshl 1 v75) fun v88 =>
J369_84 v60 v61 v63 v88 M77) else (
J369_84 v60 v61 v63 0 M77)) else (
Lt (wr (v61 + (-1))) fun v89 =>
gd (0 ≤ v60 ∧ v60 < 64) <|
Lt (up M65 45 v60.toNat v52) fun M90 =>
gd (0 ≤ v60 ∧ v60 < 64) <|
Lt (up M90 46 v60.toNat v57) fun M91 =>
gd (0 ≤ v60 ∧ v60 < 64) <|
Lt (up M91 47 v60.toNat v64) fun M92 =>
gd (0 ≤ v60 ∧ v60 < 64) <|
Lt (up M92 48 v60.toNat v15) fun M93 =>
gd (0 ≤ v60 ∧ v60 < 64) <|
Lt (up M93 49 v60.toNat v89) fun M94 =>
Lt (wr (v60 + 1)) fun v95 =>
J371_72 v95 v89 v62 v63 M94)) fun J282_66 =>
if ¬ v56 = 0 then (
if ¬ v56 = 1 then (
J282_66 v53 v54 v55 v56 v20 M58) else (
J282_66 v53 v54 v55 v56 v35 M58)) else (
J282_66 v53 v54 v55 v56 v34 M58)) fun J257_59 =>
if ¬ v46 = 0 then (
if ¬ v46 = 1 then (
J257_59 v43 v44 v45 v46 v35 M47) else (
J257_59 v43 v44 v45 v46 v34 M47)) else (
J257_59 v43 v44 v45 v46 v19 M47))
def f_X12_makes_L45_107 (J380_9 : Mm → Rs) (rc45_12 : Int × Mm → Rs) : Int × Mm → Rs := fun (v10, M11) =>
if v10 ≤ 0 then (
J380_9 M11) else (
Lt (wr (v10 + (-1))) fun v14 =>
Lt (M11 0 35) fun v15 =>
Lt (M11 0 35) fun v16 =>
Lt (wr (v16 + 1)) fun v17 =>
Lt (up M11 0 35 v17) fun M18 =>
gd (0 ≤ v14 ∧ v14 < 64) <|
Lt (M18 46 v14.toNat) fun v19 =>
gd (0 ≤ v14 ∧ v14 < 64) <|
Lt (M18 47 v14.toNat) fun v20 =>
gd (0 ≤ v14 ∧ v14 < 64) <|
Lt (M18 45 v14.toNat) fun v21 =>
Cl (f_X12_chosen v21 v19 v20 M18) fun v23 M22 =>
gd (0 ≤ v15 ∧ v15 < 30) <|
Lt (up M22 30 v15.toNat v23) fun M24 =>
gd (0 ≤ v15 ∧ v15 < 30) <|
Lt (up M24 31 v15.toNat v23) fun M25 =>
gd (0 ≤ v14 ∧ v14 < 64) <|
Lt (M25 48 v14.toNat) fun v26 =>
gd (0 ≤ v15 ∧ v15 < 30) <|
Lt (up M25 32 v15.toNat v26) fun M27 =>
gd (0 ≤ v14 ∧ v14 < 64) <|
Lt (M27 49 v14.toNat) fun v28 =>
gd (0 ≤ v15 ∧ v15 < 30) <|
Lt (up M27 33 v15.toNat v28) fun M29 =>
gd (0 ≤ v15 ∧ v15 < 30) <|
Lt (up M29 35 v15.toNat 0) fun M30 =>
gd (0 ≤ v15 ∧ v15 < 30) <|
Lt (M30 32 v15.toNat) fun v31 =>
Lt (fun (M32 : Mm) => 
Lt (M32 0 58) fun v34 =>
Lt (M32 0 59) fun v35 =>
gd (0 ≤ v23 ∧ v23 < 10) <|
Lt (M32 4 v23.toNat) fun v36 =>
gd (0 ≤ v23 ∧ v23 < 10) <|
Lt (M32 6 v23.toNat) fun v37 =>
gd (0 ≤ v23 ∧ v23 < 10) <|
Lt (M32 2 v23.toNat) fun v38 =>
Lt (wr (v38 - 1)) fun v39 =>
Lt (fun (v40 : Int) (M41 : Mm) => 
rc45_12 (v40, M41)) fun J377_42 =>
Lp (f_X12_makes_L216_100 v15 v19 v20 v23 v34 v35 J377_42) FU (v14, v36, v37, v39, M32)) fun J175_33 =>
if v31 = ((-1)) then (
J175_33 M30) else (
gd (0 ≤ v15 ∧ v15 < 30) <|
Lt (M30 32 v15.toNat) fun v102 =>
Lt (wr (3 * v102)) fun v103 =>
gd (0 ≤ v15 ∧ v15 < 30) <|
Lt (M30 33 v15.toNat) fun v104 =>
Lt (wr (v103 + v104)) fun v105 =>
gd (0 ≤ v105 ∧ v105 < 90) <|
Lt (up M30 34 v105.toNat v15) fun M106 =>
J175_33 M106))
def f_X12_makes (M : Mm) : Rs :=
Lt (up M 0 35 0) fun M1 =>
gd (0 ≤ 0 ∧ 0 < 64) <|
Lt (up M1 45 0 0) fun M2 =>
gd (0 ≤ 0 ∧ 0 < 64) <|
Lt (up M2 46 0 0) fun M3 =>
Lt (M3 0 33) fun v4 =>
gd (0 ≤ 0 ∧ 0 < 64) <|
Lt (up M3 47 0 v4) fun M5 =>
gd (0 ≤ 0 ∧ 0 < 64) <|
Lt (up M5 48 0 ((-1))) fun M6 =>
gd (0 ≤ 0 ∧ 0 < 64) <|
Lt (up M6 49 0 0) fun M7 =>
Lt (fun (M8 : Mm) => 
some (0, M8)) fun J380_9 =>
Lp (f_X12_makes_L45_107 J380_9) FU (1, M7)
theorem cy_X12_makes : yX12_makes.cls ≠ "java/lang/invoke/MethodHandle" ∧ yX12_makes.cls ≠ "java/lang/invoke/VarHandle" ∧ (parseMethodDescriptor yX12_makes.desc).map (fun d => d.parameters.length) = some 0 := ⟨by decide +kernel, by decide +kernel, by decide +kernel⟩
set_option maxRecDepth 20000 in
theorem ok_X12_makes (l : Launch) (D : Dd) (base : Nat) (M : Mm) : OkV l D TR 67 base yX12_makes cX12_makes 14 none 4 109 [.ref (base + 0)] M (f_X12_makes M) := by
  refine metV (by decide +kernel) [(0, .ref (base + 0))] rfl (Nat.le_of_ble_eq_true rfl) (fun p e s m args below meth c X hrt hlk => ?_)
  have X : Cx p s m args c cX12_makes D 14 RX12 := X
  unfold f_X12_makes
  refine go_aload_n X dX12_makes_0 rfl 0 rfl ?_
  refine go_iconst (v := 0) X dX12_makes_1 rfl ?_
  refine go_puti (i := 35) X fc12 dX12_makes_2 trn0 tr0 (Nat.le_of_ble_eq_true rfl) rfl lw948 rfl rfl rfl kI_0 (fun M1 => ?_)
  refine go_iconst (v := 1) X dX12_makes_5 rfl ?_
  refine go_istore_n (i := 1) (L' := [(1, .int (Ii 1)), (0, .ref (base + 0))]) X dX12_makes_6 rfl (by decide) rfl ?_
  refine go_aload_n X dX12_makes_7 rfl 1 rfl ?_
  refine go_getc (i := 53) X fc12 dX12_makes_8 trn0 tr0 (Nat.le_of_ble_eq_true rfl) rfl lw911 rfl ?_
  refine go_iconst (v := 0) X dX12_makes_11 rfl ?_
  refine go_iconst (v := 0) X dX12_makes_12 rfl ?_
  refine go_iastore X dX12_makes_13 trn45 tr45 kI_0 kI_0 (fun M2 => ?_)
  refine go_aload_n X dX12_makes_14 rfl 1 rfl ?_
  refine go_getc (i := 54) X fc12 dX12_makes_15 trn0 tr0 (Nat.le_of_ble_eq_true rfl) rfl lw912 rfl ?_
  refine go_iconst (v := 0) X dX12_makes_18 rfl ?_
  refine go_iconst (v := 0) X dX12_makes_19 rfl ?_
  refine go_iastore X dX12_makes_20 trn46 tr46 kI_0 kI_0 (fun M3 => ?_)
  refine go_aload_n X dX12_makes_21 rfl 1 rfl ?_
  refine go_getc (i := 55) X fc12 dX12_makes_22 trn0 tr0 (Nat.le_of_ble_eq_true rfl) rfl lw913 rfl ?_
  refine go_iconst (v := 0) X dX12_makes_25 rfl ?_
  refine go_aload_n X dX12_makes_26 rfl 1 rfl ?_
  refine go_geti (i := 33) X fc12 dX12_makes_27 trn0 tr0 (Nat.le_of_ble_eq_true rfl) rfl lw1061 rfl (fun v4 hv4 => ?_)
  refine go_iastore X dX12_makes_30 trn47 tr47 kI_0 hv4 (fun M5 => ?_)
  refine go_aload_n X dX12_makes_31 rfl 1 rfl ?_
  refine go_getc (i := 56) X fc12 dX12_makes_32 trn0 tr0 (Nat.le_of_ble_eq_true rfl) rfl lw914 rfl ?_
  refine go_iconst (v := 0) X dX12_makes_35 rfl ?_
  refine go_iconst (v := (-1)) X dX12_makes_36 rfl ?_
  refine go_iastore X dX12_makes_37 trn48 tr48 kI_0 kI_m1 (fun M6 => ?_)
  refine go_aload_n X dX12_makes_38 rfl 1 rfl ?_
  refine go_getc (i := 57) X fc12 dX12_makes_39 trn0 tr0 (Nat.le_of_ble_eq_true rfl) rfl lw915 rfl ?_
  refine go_iconst (v := 0) X dX12_makes_42 rfl ?_
  refine go_iconst (v := 0) X dX12_makes_43 rfl ?_
  refine go_iastore X dX12_makes_44 trn49 tr49 kI_0 kI_0 (fun M7 => ?_)
  refine go_lt (fun J => ∀ (M8 : Mm), Go p l e (rmO 4 109) s m args below meth c D TR 67 base 14 0 0 (FinV D TR 67 base below args s) M8 380 [] [] (J M8)) (by
      intro M8
      exact go_vreturn X hrt hlk dX12_makes_380
      )
      (fun J380_9 hJ380_9 => ?_)
  refine go_sub [1, 0] rfl ?_
  exact go_lp (fun (rc : Int × Mm → Rs) => ∀ (v10 : Int) (M11 : Mm), i32 v10 → Go p l e (rmO 4 109) s m args below meth c D TR 67 base 14 0 0 (FinV D TR 67 base below args s) M11 45 [(0, .ref (base + 0)), (1, .int (Ii v10))] [] (rc (v10, M11)))
      (by intro v10 M11 hv10; exact go_none)
      (by
      intro rc45_12 hrc45_12 v10 M11 hv10
      unfold f_X12_makes_L45_107
      dsimp only
      refine go_iload_n X dX12_makes_45 rfl 1 rfl ?_
      refine go_if_le (tgt := 380) X dX12_makes_46 rfl hv10 (fun c13 => ?_) (fun c13 => ?_)
      · refine go_sub [] rfl ?_
        exact hJ380_9 M11
      · refine go_iinc (i := 1) (L' := fun v => [(1, .int (Ii v)), (0, .ref (base + 0))]) X dX12_makes_49 hv10 kI_m1 (j := 1) rfl (by decide) (fun _ => rfl) (fun v14 hv14 => ?_)
        refine go_aload_n X dX12_makes_52 rfl 1 rfl ?_
        refine go_geti (i := 35) X fc12 dX12_makes_53 trn0 tr0 (Nat.le_of_ble_eq_true rfl) rfl lw948 rfl (fun v15 hv15 => ?_)
        refine go_istore_n (i := 2) (L' := [(2, .int (Ii v15)), (1, .int (Ii v14)), (0, .ref (base + 0))]) X dX12_makes_56 rfl (by decide) rfl ?_
        refine go_aload_n X dX12_makes_57 rfl 2 rfl ?_
        refine go_dup X dX12_makes_58 rfl ?_
        refine go_geti (i := 35) X fc12 dX12_makes_59 trn0 tr0 (Nat.le_of_ble_eq_true rfl) rfl lw948 rfl (fun v16 hv16 => ?_)
        refine go_iconst (v := 1) X dX12_makes_62 rfl ?_
        refine go_iadd X dX12_makes_63 hv16 kI_1 (fun v17 hv17 => ?_)
        refine go_puti (i := 35) X fc12 dX12_makes_64 trn0 tr0 (Nat.le_of_ble_eq_true rfl) rfl lw948 rfl rfl rfl hv17 (fun M18 => ?_)
        refine go_aload_n X dX12_makes_67 rfl 2 rfl ?_
        refine go_getc (i := 54) X fc12 dX12_makes_68 trn0 tr0 (Nat.le_of_ble_eq_true rfl) rfl lw912 rfl ?_
        refine go_iload_n X dX12_makes_71 rfl 1 rfl ?_
        refine go_iaload X dX12_makes_72 trn46 tr46 hv14 (fun v19 hv19 => ?_)
        refine go_istore_n (i := 3) (L' := [(3, .int (Ii v19)), (2, .int (Ii v15)), (1, .int (Ii v14)), (0, .ref (base + 0))]) X dX12_makes_73 rfl (by decide) rfl ?_
        refine go_aload_n X dX12_makes_74 rfl 3 rfl ?_
        refine go_getc (i := 55) X fc12 dX12_makes_75 trn0 tr0 (Nat.le_of_ble_eq_true rfl) rfl lw913 rfl ?_
        refine go_iload_n X dX12_makes_78 rfl 2 rfl ?_
        refine go_iaload X dX12_makes_79 trn47 tr47 hv14 (fun v20 hv20 => ?_)
        refine go_istore (i := 4) (L' := [(4, .int (Ii v20)), (3, .int (Ii v19)), (2, .int (Ii v15)), (1, .int (Ii v14)), (0, .ref (base + 0))]) X dX12_makes_80 (by decide) rfl ?_
        refine go_aload_n X dX12_makes_82 rfl 4 rfl ?_
        refine go_aload_n X dX12_makes_83 rfl 4 rfl ?_
        refine go_getc (i := 53) X fc12 dX12_makes_84 trn0 tr0 (Nat.le_of_ble_eq_true rfl) rfl lw911 rfl ?_
        refine go_iload_n X dX12_makes_87 rfl 3 rfl ?_
        refine go_iaload X dX12_makes_88 trn45 tr45 hv14 (fun v21 hv21 => ?_)
        refine go_iload_n X dX12_makes_89 rfl 1 rfl ?_
        refine go_iload X dX12_makes_90 0 rfl ?_
        refine goI (fun H locs ls r ho hW hL => runV X (ok_X12_chosen l D base M18 v21 hv21 v19 hv19 v20 hv20 H.size r ho) dX12_makes_92 lw1069 lw1070 lw1071 lw944 ⟨lw1068, cy_X12_chosen, Nat.le_of_ble_eq_true rfl, Nat.le_of_ble_eq_true rfl⟩ rfl trn0 tr0 rfl rfl rfl rfl (Nat.le_of_ble_eq_true rfl) hW hL hk0) (fun v23 M22 hv23 => ?_)
        refine go_istore (i := 5) (L' := [(5, .int (Ii v23)), (4, .int (Ii v20)), (3, .int (Ii v19)), (2, .int (Ii v15)), (1, .int (Ii v14)), (0, .ref (base + 0))]) X dX12_makes_95 (by decide) rfl ?_
        refine go_aload_n X dX12_makes_97 rfl 5 rfl ?_
        refine go_getc (i := 37) X fc12 dX12_makes_98 trn0 tr0 (Nat.le_of_ble_eq_true rfl) rfl lw896 rfl ?_
        refine go_iload_n X dX12_makes_101 rfl 3 rfl ?_
        refine go_iload X dX12_makes_102 0 rfl ?_
        refine go_iastore X dX12_makes_104 trn30 tr30 hv15 hv23 (fun M24 => ?_)
        refine go_aload_n X dX12_makes_105 rfl 5 rfl ?_
        refine go_getc (i := 38) X fc12 dX12_makes_106 trn0 tr0 (Nat.le_of_ble_eq_true rfl) rfl lw897 rfl ?_
        refine go_iload_n X dX12_makes_109 rfl 3 rfl ?_
        refine go_iload X dX12_makes_110 0 rfl ?_
        refine go_iastore X dX12_makes_112 trn31 tr31 hv15 hv23 (fun M25 => ?_)
        refine go_aload_n X dX12_makes_113 rfl 5 rfl ?_
        refine go_getc (i := 39) X fc12 dX12_makes_114 trn0 tr0 (Nat.le_of_ble_eq_true rfl) rfl lw898 rfl ?_
        refine go_iload_n X dX12_makes_117 rfl 3 rfl ?_
        refine go_aload_n X dX12_makes_118 rfl 5 rfl ?_
        refine go_getc (i := 56) X fc12 dX12_makes_119 trn0 tr0 (Nat.le_of_ble_eq_true rfl) rfl lw914 rfl ?_
        refine go_iload_n X dX12_makes_122 rfl 4 rfl ?_
        refine go_iaload X dX12_makes_123 trn48 tr48 hv14 (fun v26 hv26 => ?_)
        refine go_iastore X dX12_makes_124 trn32 tr32 hv15 hv26 (fun M27 => ?_)
        refine go_aload_n X dX12_makes_125 rfl 5 rfl ?_
        refine go_getc (i := 40) X fc12 dX12_makes_126 trn0 tr0 (Nat.le_of_ble_eq_true rfl) rfl lw899 rfl ?_
        refine go_iload_n X dX12_makes_129 rfl 3 rfl ?_
        refine go_aload_n X dX12_makes_130 rfl 5 rfl ?_
        refine go_getc (i := 57) X fc12 dX12_makes_131 trn0 tr0 (Nat.le_of_ble_eq_true rfl) rfl lw915 rfl ?_
        refine go_iload_n X dX12_makes_134 rfl 4 rfl ?_
        refine go_iaload X dX12_makes_135 trn49 tr49 hv14 (fun v28 hv28 => ?_)
        refine go_iastore X dX12_makes_136 trn33 tr33 hv15 hv28 (fun M29 => ?_)
        refine go_aload_n X dX12_makes_137 rfl 5 rfl ?_
        refine go_getc (i := 42) X fc12 dX12_makes_138 trn0 tr0 (Nat.le_of_ble_eq_true rfl) rfl lw901 rfl ?_
        refine go_iload_n X dX12_makes_141 rfl 3 rfl ?_
        refine go_iconst (v := 0) X dX12_makes_142 rfl ?_
        refine go_iastore X dX12_makes_143 trn35 tr35 hv15 kI_0 (fun M30 => ?_)
        refine go_aload_n X dX12_makes_144 rfl 5 rfl ?_
        refine go_getc (i := 39) X fc12 dX12_makes_145 trn0 tr0 (Nat.le_of_ble_eq_true rfl) rfl lw898 rfl ?_
        refine go_iload_n X dX12_makes_148 rfl 3 rfl ?_
        refine go_iaload X dX12_makes_149 trn32 tr32 hv15 (fun v31 hv31 => ?_)
        refine go_iconst (v := (-1)) X dX12_makes_150 rfl ?_
        refine go_lt (fun J => ∀ (M32 : Mm), Go p l e (rmO 4 109) s m args below meth c D TR 67 base 14 0 0 (FinV D TR 67 base below args s) M32 175 [(0, .ref (base + 0)), (1, .int (Ii v14)), (2, .int (Ii v15)), (3, .int (Ii v19)), (4, .int (Ii v20)), (5, .int (Ii v23))] [] (J M32)) (by
            intro M32
            refine go_aload_n X dX12_makes_175 rfl 0 rfl ?_
            refine go_geti (i := 58) X fc12 dX12_makes_176 trn0 tr0 (Nat.le_of_ble_eq_true rfl) rfl lw1066 rfl (fun v34 hv34 => ?_)
            refine go_istore (i := 6) (L' := [(6, .int (Ii v34)), (0, .ref (base + 0)), (1, .int (Ii v14)), (2, .int (Ii v15)), (3, .int (Ii v19)), (4, .int (Ii v20)), (5, .int (Ii v23))]) X dX12_makes_179 (by decide) rfl ?_
            refine go_aload_n X dX12_makes_181 rfl 1 rfl ?_
            refine go_geti (i := 59) X fc12 dX12_makes_182 trn0 tr0 (Nat.le_of_ble_eq_true rfl) rfl lw1067 rfl (fun v35 hv35 => ?_)
            refine go_istore (i := 7) (L' := [(7, .int (Ii v35)), (6, .int (Ii v34)), (0, .ref (base + 0)), (1, .int (Ii v14)), (2, .int (Ii v15)), (3, .int (Ii v19)), (4, .int (Ii v20)), (5, .int (Ii v23))]) X dX12_makes_185 (by decide) rfl ?_
            refine go_aload_n X dX12_makes_187 rfl 2 rfl ?_
            refine go_getc (i := 4) X fc12 dX12_makes_188 trn0 tr0 (Nat.le_of_ble_eq_true rfl) rfl lw869 rfl ?_
            refine go_iload X dX12_makes_191 7 rfl ?_
            refine go_iaload X dX12_makes_193 trn4 tr4 hv23 (fun v36 hv36 => ?_)
            refine go_istore (i := 8) (L' := [(8, .int (Ii v36)), (7, .int (Ii v35)), (6, .int (Ii v34)), (0, .ref (base + 0)), (1, .int (Ii v14)), (2, .int (Ii v15)), (3, .int (Ii v19)), (4, .int (Ii v20)), (5, .int (Ii v23))]) X dX12_makes_194 (by decide) rfl ?_
            refine go_aload_n X dX12_makes_196 rfl 3 rfl ?_
            refine go_getc (i := 6) X fc12 dX12_makes_197 trn0 tr0 (Nat.le_of_ble_eq_true rfl) rfl lw871 rfl ?_
            refine go_iload X dX12_makes_200 8 rfl ?_
            refine go_iaload X dX12_makes_202 trn6 tr6 hv23 (fun v37 hv37 => ?_)
            refine go_istore (i := 9) (L' := [(9, .int (Ii v37)), (8, .int (Ii v36)), (7, .int (Ii v35)), (6, .int (Ii v34)), (0, .ref (base + 0)), (1, .int (Ii v14)), (2, .int (Ii v15)), (3, .int (Ii v19)), (4, .int (Ii v20)), (5, .int (Ii v23))]) X dX12_makes_203 (by decide) rfl ?_
            refine go_aload_n X dX12_makes_205 rfl 4 rfl ?_
            refine go_getc (i := 2) X fc12 dX12_makes_206 trn0 tr0 (Nat.le_of_ble_eq_true rfl) rfl lw867 rfl ?_
            refine go_iload X dX12_makes_209 9 rfl ?_
            refine go_iaload X dX12_makes_211 trn2 tr2 hv23 (fun v38 hv38 => ?_)
            refine go_iconst (v := 1) X dX12_makes_212 rfl ?_
            refine go_isub X dX12_makes_213 hv38 kI_1 (fun v39 hv39 => ?_)
            refine go_istore (i := 10) (L' := [(10, .int (Ii v39)), (9, .int (Ii v37)), (8, .int (Ii v36)), (7, .int (Ii v35)), (6, .int (Ii v34)), (0, .ref (base + 0)), (1, .int (Ii v14)), (2, .int (Ii v15)), (3, .int (Ii v19)), (4, .int (Ii v20)), (5, .int (Ii v23))]) X dX12_makes_214 (by decide) rfl ?_
            refine go_lt (fun J => ∀ (v40 : Int) (M41 : Mm), i32 v40 → Go p l e (rmO 4 109) s m args below meth c D TR 67 base 14 0 0 (FinV D TR 67 base below args s) M41 377 [(0, .ref (base + 0)), (1, .int (Ii v40))] [] (J v40 M41)) (by
                intro v40 M41 hv40
                refine go_goto (tgt := 45) X dX12_makes_377 rfl ?_
                exact hrc45_12 v40 M41 hv40
                )
                (fun J377_42 hJ377_42 => ?_)
            refine go_sub [5, 6, 7, 8, 9, 10, 4, 3, 2, 1, 0] rfl ?_
            exact go_lp (fun (rc : Int × Int × Int × Int × Mm → Rs) => ∀ (v43 : Int) (v44 : Int) (v45 : Int) (v46 : Int) (M47 : Mm), i32 v43 → i32 v44 → i32 v45 → i32 v46 → Go p l e (rmO 4 109) s m args below meth c D TR 67 base 14 0 0 (FinV D TR 67 base below args s) M47 216 [(0, .ref (base + 0)), (1, .int (Ii v43)), (2, .int (Ii v15)), (3, .int (Ii v19)), (4, .int (Ii v20)), (5, .int (Ii v23)), (6, .int (Ii v34)), (7, .int (Ii v35)), (8, .int (Ii v44)), (9, .int (Ii v45)), (10, .int (Ii v46))] [] (rc (v43, v44, v45, v46, M47)))
                (by intro v43 v44 v45 v46 M47 hv43 hv44 hv45 hv46; exact go_none)
                (by
                intro rc216_48 hrc216_48 v43 v44 v45 v46 M47 hv43 hv44 hv45 hv46
                unfold f_X12_makes_L216_100
                dsimp only
                refine go_iload X dX12_makes_216 10 rfl ?_
                refine go_if_lt (tgt := 377) X dX12_makes_218 rfl hv46 (fun c49 => ?_) (fun c49 => ?_)
                · refine go_sub [0, 1] rfl ?_
                  exact hJ377_42 v43 M47 hv43
                · refine go_aload_n X dX12_makes_221 rfl 0 rfl ?_
                  refine go_getc (i := 3) X fc12 dX12_makes_222 trn0 tr0 (Nat.le_of_ble_eq_true rfl) rfl lw868 rfl ?_
                  refine go_iconst (v := 3) X dX12_makes_225 rfl ?_
                  refine go_iload X dX12_makes_226 5 rfl ?_
                  refine go_imul X dX12_makes_228 kI_3 hv23 (fun v50 hv50 => ?_)
                  refine go_iload X dX12_makes_229 10 rfl ?_
                  refine go_iadd X dX12_makes_231 hv50 hv46 (fun v51 hv51 => ?_)
                  refine go_iaload X dX12_makes_232 trn3 tr3 hv51 (fun v52 hv52 => ?_)
                  refine go_istore (i := 11) (L' := [(11, .int (Ii v52)), (0, .ref (base + 0)), (1, .int (Ii v43)), (2, .int (Ii v15)), (3, .int (Ii v19)), (4, .int (Ii v20)), (5, .int (Ii v23)), (6, .int (Ii v34)), (7, .int (Ii v35)), (8, .int (Ii v44)), (9, .int (Ii v45)), (10, .int (Ii v46))]) X dX12_makes_233 (by decide) rfl ?_
                  refine go_iload X dX12_makes_235 11 rfl ?_
                  refine go_lt (fun J => ∀ (v53 : Int) (v54 : Int) (v55 : Int) (v56 : Int) (v57 : Int) (M58 : Mm), i32 v53 → i32 v54 → i32 v55 → i32 v56 → i32 v57 → Go p l e (rmO 4 109) s m args below meth c D TR 67 base 14 0 0 (FinV D TR 67 base below args s) M58 257 [(0, .ref (base + 0)), (1, .int (Ii v53)), (2, .int (Ii v15)), (3, .int (Ii v19)), (4, .int (Ii v20)), (5, .int (Ii v23)), (6, .int (Ii v34)), (7, .int (Ii v35)), (8, .int (Ii v54)), (9, .int (Ii v55)), (10, .int (Ii v56)), (11, .int (Ii v52))] [.int (Ii v57)] (J v53 v54 v55 v56 v57 M58)) (by
                      intro v53 v54 v55 v56 v57 M58 hv53 hv54 hv55 hv56 hv57
                      refine go_istore (i := 12) (L' := [(12, .int (Ii v57)), (0, .ref (base + 0)), (1, .int (Ii v53)), (2, .int (Ii v15)), (3, .int (Ii v19)), (4, .int (Ii v20)), (5, .int (Ii v23)), (6, .int (Ii v34)), (7, .int (Ii v35)), (8, .int (Ii v54)), (9, .int (Ii v55)), (10, .int (Ii v56)), (11, .int (Ii v52))]) X dX12_makes_257 (by decide) rfl ?_
                      refine go_iload X dX12_makes_259 11 rfl ?_
                      refine go_lt (fun J => ∀ (v60 : Int) (v61 : Int) (v62 : Int) (v63 : Int) (v64 : Int) (M65 : Mm), i32 v60 → i32 v61 → i32 v62 → i32 v63 → i32 v64 → Go p l e (rmO 4 109) s m args below meth c D TR 67 base 14 0 0 (FinV D TR 67 base below args s) M65 282 [(0, .ref (base + 0)), (1, .int (Ii v60)), (2, .int (Ii v15)), (3, .int (Ii v19)), (4, .int (Ii v20)), (5, .int (Ii v23)), (6, .int (Ii v34)), (7, .int (Ii v35)), (8, .int (Ii v61)), (9, .int (Ii v62)), (10, .int (Ii v63)), (11, .int (Ii v52)), (12, .int (Ii v57))] [.int (Ii v64)] (J v60 v61 v62 v63 v64 M65)) (by
                          intro v60 v61 v62 v63 v64 M65 hv60 hv61 hv62 hv63 hv64
                          refine go_istore (i := 13) (L' := [(13, .int (Ii v64)), (0, .ref (base + 0)), (1, .int (Ii v60)), (2, .int (Ii v15)), (3, .int (Ii v19)), (4, .int (Ii v20)), (5, .int (Ii v23)), (6, .int (Ii v34)), (7, .int (Ii v35)), (8, .int (Ii v61)), (9, .int (Ii v62)), (10, .int (Ii v63)), (11, .int (Ii v52)), (12, .int (Ii v57))]) X dX12_makes_282 (by decide) rfl ?_
                          refine go_iload X dX12_makes_284 12 rfl ?_
                          refine go_iconst (v := 4) X dX12_makes_286 rfl ?_
                          refine go_lt (fun J => ∀ (v67 : Int) (v68 : Int) (v69 : Int) (v70 : Int) (M71 : Mm), i32 v67 → i32 v68 → i32 v69 → i32 v70 → Go p l e (rmO 4 109) s m args below meth c D TR 67 base 14 0 0 (FinV D TR 67 base below args s) M71 371 [(0, .ref (base + 0)), (1, .int (Ii v67)), (2, .int (Ii v15)), (3, .int (Ii v19)), (4, .int (Ii v20)), (5, .int (Ii v23)), (6, .int (Ii v34)), (7, .int (Ii v35)), (8, .int (Ii v68)), (9, .int (Ii v69)), (10, .int (Ii v70))] [] (J v67 v68 v69 v70 M71)) (by
                              intro v67 v68 v69 v70 M71 hv67 hv68 hv69 hv70
                              refine go_iinc (i := 10) (L' := fun v => [(10, .int (Ii v)), (0, .ref (base + 0)), (1, .int (Ii v67)), (2, .int (Ii v15)), (3, .int (Ii v19)), (4, .int (Ii v20)), (5, .int (Ii v23)), (6, .int (Ii v34)), (7, .int (Ii v35)), (8, .int (Ii v68)), (9, .int (Ii v69))]) X dX12_makes_371 hv70 kI_m1 (j := 10) rfl (by decide) (fun _ => rfl) (fun v73 hv73 => ?_)
                              refine go_goto (tgt := 216) X dX12_makes_374 rfl ?_
                              refine go_sub [1, 2, 3, 4, 5, 6, 7, 8, 9, 10, 0] rfl ?_
                              exact hrc216_48 v67 v68 v69 v73 M71 hv67 hv68 hv69 hv73
                              )
                              (fun J371_72 hJ371_72 => ?_)
                          refine go_icmp_ge (tgt := 338) X dX12_makes_287 rfl hv52 kI_4 (fun c74 => ?_) (fun c74 => ?_)
                          · refine go_iinc (i := 9) (L' := fun v => [(9, .int (Ii v)), (13, .int (Ii v64)), (0, .ref (base + 0)), (1, .int (Ii v60)), (2, .int (Ii v15)), (3, .int (Ii v19)), (4, .int (Ii v20)), (5, .int (Ii v23)), (6, .int (Ii v34)), (7, .int (Ii v35)), (8, .int (Ii v61)), (10, .int (Ii v63)), (11, .int (Ii v52)), (12, .int (Ii v57))]) X dX12_makes_338 hv62 kI_m1 (j := 10) rfl (by decide) (fun _ => rfl) (fun v75 hv75 => ?_)
                            refine go_aload_n X dX12_makes_341 rfl 2 rfl ?_
                            refine go_getc (i := 42) X fc12 dX12_makes_342 trn0 tr0 (Nat.le_of_ble_eq_true rfl) rfl lw901 rfl ?_
                            refine go_iload_n X dX12_makes_345 rfl 4 rfl ?_
                            refine go_dup2 X dX12_makes_346 rfl rfl ?_
                            refine go_iaload X dX12_makes_347 trn35 tr35 hv15 (fun v76 hv76 => ?_)
                            refine go_aload_n X dX12_makes_348 rfl 2 rfl ?_
                            refine go_iload X dX12_makes_349 12 rfl ?_
                            refine go_iload X dX12_makes_351 13 rfl ?_
                            refine go_iload X dX12_makes_353 1 rfl ?_
                            refine goI (fun H locs ls r ho hW hL => runV X (ok_X12_hasLetter l D base M65 v52 hv52 v57 hv57 v64 hv64 H.size r ho) dX12_makes_355 lw1045 lw1046 lw1047 lw944 ⟨lw1041, cy_X12_hasLetter, Nat.le_of_ble_eq_true rfl, Nat.le_of_ble_eq_true rfl⟩ rfl trn0 tr0 rfl rfl rfl rfl (Nat.le_of_ble_eq_true rfl) hW hL hk0) (fun v78 M77 hv78 => ?_)
                            refine go_lt (fun J => ∀ (v79 : Int) (v80 : Int) (v81 : Int) (v82 : Int) (M83 : Mm), i32 v79 → i32 v80 → i32 v81 → i32 v82 → Go p l e (rmO 4 109) s m args below meth c D TR 67 base 14 0 0 (FinV D TR 67 base below args s) M83 369 [(0, .ref (base + 0)), (1, .int (Ii v79)), (2, .int (Ii v15)), (3, .int (Ii v19)), (4, .int (Ii v20)), (5, .int (Ii v23)), (6, .int (Ii v34)), (7, .int (Ii v35)), (8, .int (Ii v80)), (9, .int (Ii v75)), (10, .int (Ii v81))] [.int (Ii v82), .int (Ii v76), .int (Ii v15), .ref (base + 35)] (J v79 v80 v81 v82 M83)) (by
                                intro v79 v80 v81 v82 M83 hv79 hv80 hv81 hv82
                                refine go_ior X dX12_makes_369 hv76 hv82 (fun v85 hv85 => ?_)
                                refine go_iastore X dX12_makes_370 trn35 tr35 hv15 hv85 (fun M86 => ?_)
                                exact hJ371_72 v79 v80 v75 v81 M86 hv79 hv80 hv75 hv81
                                )
                                (fun J369_84 hJ369_84 => ?_)
                            refine go_if_eq (tgt := 365) X dX12_makes_358 rfl (bo_i32 hv78) (fun c87 => ?_) (fun c87 => ?_)
                            · refine go_iconst (v := 1) X dX12_makes_365 rfl ?_
                              refine go_iload X dX12_makes_366 0 rfl ?_
                              refine go_ishl X dX12_makes_368 kI_1 hv75 (fun v88 hv88 => ?_)
                              refine go_sub [2, 3, 4, 5, 6, 7, 8, 9, 10, 0, 11] rfl ?_
                              exact hJ369_84 v60 v61 v63 v88 M77 hv60 hv61 hv63 hv88
                            · refine go_iconst (v := 0) X dX12_makes_361 rfl ?_
                              refine go_goto (tgt := 369) X dX12_makes_362 rfl ?_
                              refine go_sub [2, 3, 4, 5, 6, 7, 8, 9, 10, 0, 11] rfl ?_
                              exact hJ369_84 v60 v61 v63 0 M77 hv60 hv61 hv63 kI_0
                          · refine go_iinc (i := 8) (L' := fun v => [(8, .int (Ii v)), (13, .int (Ii v64)), (0, .ref (base + 0)), (1, .int (Ii v60)), (2, .int (Ii v15)), (3, .int (Ii v19)), (4, .int (Ii v20)), (5, .int (Ii v23)), (6, .int (Ii v34)), (7, .int (Ii v35)), (9, .int (Ii v62)), (10, .int (Ii v63)), (11, .int (Ii v52)), (12, .int (Ii v57))]) X dX12_makes_290 hv61 kI_m1 (j := 9) rfl (by decide) (fun _ => rfl) (fun v89 hv89 => ?_)
                            refine go_aload_n X dX12_makes_293 rfl 2 rfl ?_
                            refine go_getc (i := 53) X fc12 dX12_makes_294 trn0 tr0 (Nat.le_of_ble_eq_true rfl) rfl lw911 rfl ?_
                            refine go_iload_n X dX12_makes_297 rfl 3 rfl ?_
                            refine go_iload X dX12_makes_298 12 rfl ?_
                            refine go_iastore X dX12_makes_300 trn45 tr45 hv60 hv52 (fun M90 => ?_)
                            refine go_aload_n X dX12_makes_301 rfl 2 rfl ?_
                            refine go_getc (i := 54) X fc12 dX12_makes_302 trn0 tr0 (Nat.le_of_ble_eq_true rfl) rfl lw912 rfl ?_
                            refine go_iload_n X dX12_makes_305 rfl 3 rfl ?_
                            refine go_iload X dX12_makes_306 13 rfl ?_
                            refine go_iastore X dX12_makes_308 trn46 tr46 hv60 hv57 (fun M91 => ?_)
                            refine go_aload_n X dX12_makes_309 rfl 2 rfl ?_
                            refine go_getc (i := 55) X fc12 dX12_makes_310 trn0 tr0 (Nat.le_of_ble_eq_true rfl) rfl lw913 rfl ?_
                            refine go_iload_n X dX12_makes_313 rfl 3 rfl ?_
                            refine go_iload X dX12_makes_314 1 rfl ?_
                            refine go_iastore X dX12_makes_316 trn47 tr47 hv60 hv64 (fun M92 => ?_)
                            refine go_aload_n X dX12_makes_317 rfl 2 rfl ?_
                            refine go_getc (i := 56) X fc12 dX12_makes_318 trn0 tr0 (Nat.le_of_ble_eq_true rfl) rfl lw914 rfl ?_
                            refine go_iload_n X dX12_makes_321 rfl 3 rfl ?_
                            refine go_iload_n X dX12_makes_322 rfl 4 rfl ?_
                            refine go_iastore X dX12_makes_323 trn48 tr48 hv60 hv15 (fun M93 => ?_)
                            refine go_aload_n X dX12_makes_324 rfl 2 rfl ?_
                            refine go_getc (i := 57) X fc12 dX12_makes_325 trn0 tr0 (Nat.le_of_ble_eq_true rfl) rfl lw915 rfl ?_
                            refine go_iload_n X dX12_makes_328 rfl 3 rfl ?_
                            refine go_iload X dX12_makes_329 0 rfl ?_
                            refine go_iastore X dX12_makes_331 trn49 tr49 hv60 hv89 (fun M94 => ?_)
                            refine go_iinc (i := 1) (L' := fun v => [(1, .int (Ii v)), (8, .int (Ii v89)), (13, .int (Ii v64)), (0, .ref (base + 0)), (2, .int (Ii v15)), (3, .int (Ii v19)), (4, .int (Ii v20)), (5, .int (Ii v23)), (6, .int (Ii v34)), (7, .int (Ii v35)), (9, .int (Ii v62)), (10, .int (Ii v63)), (11, .int (Ii v52)), (12, .int (Ii v57))]) X dX12_makes_332 hv60 kI_1 (j := 3) rfl (by decide) (fun _ => rfl) (fun v95 hv95 => ?_)
                            refine go_goto (tgt := 371) X dX12_makes_335 rfl ?_
                            refine go_sub [3, 0, 4, 5, 6, 7, 8, 9, 1, 10, 11] rfl ?_
                            exact hJ371_72 v95 v89 v62 v63 M94 hv95 hv89 hv62 hv63
                          )
                          (fun J282_66 hJ282_66 => ?_)
                      refine go_if_ne (tgt := 269) X dX12_makes_261 rfl hv56 (fun c96 => ?_) (fun c96 => ?_)
                      · refine go_iload X dX12_makes_269 11 rfl ?_
                        refine go_iconst (v := 1) X dX12_makes_271 rfl ?_
                        refine go_icmp_ne (tgt := 280) X dX12_makes_272 rfl hv56 kI_1 (fun c97 => ?_) (fun c97 => ?_)
                        · refine go_iload X dX12_makes_280 5 rfl ?_
                          refine go_sub [1, 2, 3, 4, 5, 6, 7, 8, 9, 10, 11, 12, 0] rfl ?_
                          exact hJ282_66 v53 v54 v55 v56 v20 M58 hv53 hv54 hv55 hv56 hv20
                        · refine go_iload X dX12_makes_275 8 rfl ?_
                          refine go_goto (tgt := 282) X dX12_makes_277 rfl ?_
                          refine go_sub [1, 2, 3, 4, 5, 6, 7, 8, 9, 10, 11, 12, 0] rfl ?_
                          exact hJ282_66 v53 v54 v55 v56 v35 M58 hv53 hv54 hv55 hv56 hv35
                      · refine go_iload X dX12_makes_264 7 rfl ?_
                        refine go_goto (tgt := 282) X dX12_makes_266 rfl ?_
                        refine go_sub [1, 2, 3, 4, 5, 6, 7, 8, 9, 10, 11, 12, 0] rfl ?_
                        exact hJ282_66 v53 v54 v55 v56 v34 M58 hv53 hv54 hv55 hv56 hv34
                      )
                      (fun J257_59 hJ257_59 => ?_)
                  refine go_if_ne (tgt := 244) X dX12_makes_237 rfl hv46 (fun c98 => ?_) (fun c98 => ?_)
                  · refine go_iload X dX12_makes_244 11 rfl ?_
                    refine go_iconst (v := 1) X dX12_makes_246 rfl ?_
                    refine go_icmp_ne (tgt := 255) X dX12_makes_247 rfl hv46 kI_1 (fun c99 => ?_) (fun c99 => ?_)
                    · refine go_iload X dX12_makes_255 8 rfl ?_
                      refine go_sub [1, 2, 3, 4, 5, 6, 7, 8, 9, 10, 11, 0] rfl ?_
                      exact hJ257_59 v43 v44 v45 v46 v35 M47 hv43 hv44 hv45 hv46 hv35
                    · refine go_iload X dX12_makes_250 7 rfl ?_
                      refine go_goto (tgt := 257) X dX12_makes_252 rfl ?_
                      refine go_sub [1, 2, 3, 4, 5, 6, 7, 8, 9, 10, 11, 0] rfl ?_
                      exact hJ257_59 v43 v44 v45 v46 v34 M47 hv43 hv44 hv45 hv46 hv34
                  · refine go_iload_n X dX12_makes_240 rfl 4 rfl ?_
                    refine go_goto (tgt := 257) X dX12_makes_241 rfl ?_
                    refine go_sub [1, 2, 3, 4, 5, 6, 7, 8, 9, 10, 11, 0] rfl ?_
                    exact hJ257_59 v43 v44 v45 v46 v19 M47 hv43 hv44 hv45 hv46 hv19
                )
                FU v14 v36 v37 v39 M32 hv14 hv36 hv37 hv39
            )
            (fun J175_33 hJ175_33 => ?_)
        refine go_icmp_eq (tgt := 175) X dX12_makes_151 rfl hv31 kI_m1 (fun c101 => ?_) (fun c101 => ?_)
        · refine go_sub [5, 4, 3, 2, 1, 0] rfl ?_
          exact hJ175_33 M30
        · refine go_aload_n X dX12_makes_154 rfl 5 rfl ?_
          refine go_getc (i := 41) X fc12 dX12_makes_155 trn0 tr0 (Nat.le_of_ble_eq_true rfl) rfl lw900 rfl ?_
          refine go_iconst (v := 3) X dX12_makes_158 rfl ?_
          refine go_aload_n X dX12_makes_159 rfl 5 rfl ?_
          refine go_getc (i := 39) X fc12 dX12_makes_160 trn0 tr0 (Nat.le_of_ble_eq_true rfl) rfl lw898 rfl ?_
          refine go_iload_n X dX12_makes_163 rfl 3 rfl ?_
          refine go_iaload X dX12_makes_164 trn32 tr32 hv15 (fun v102 hv102 => ?_)
          refine go_imul X dX12_makes_165 kI_3 hv102 (fun v103 hv103 => ?_)
          refine go_aload_n X dX12_makes_166 rfl 5 rfl ?_
          refine go_getc (i := 40) X fc12 dX12_makes_167 trn0 tr0 (Nat.le_of_ble_eq_true rfl) rfl lw899 rfl ?_
          refine go_iload_n X dX12_makes_170 rfl 3 rfl ?_
          refine go_iaload X dX12_makes_171 trn33 tr33 hv15 (fun v104 hv104 => ?_)
          refine go_iadd X dX12_makes_172 hv103 hv104 (fun v105 hv105 => ?_)
          refine go_iload_n X dX12_makes_173 rfl 3 rfl ?_
          refine go_iastore X dX12_makes_174 trn34 tr34 hv105 hv15 (fun M106 => ?_)
          refine go_sub [5, 4, 3, 2, 1, 0] rfl ?_
          exact hJ175_33 M106
      )
      FU 1 M7 kI_1
def f_X12_drops_L3_43 (a1 : Int) (a2 : Int) (a3 : Int) (J94_2 : Mm → Rs) (rc3_5 : Int × Mm → Rs) : Int × Mm → Rs := fun (v3, M4) =>
if 360 ≤ v3 then (
J94_2 M4) else (
gd (0 ≤ v3 ∧ v3 < 720) <|
Lt (M4 53 v3.toNat) fun v7 =>
Lt (land_ v7 a1) fun v8 =>
Lt (lcmp_ v8 0) fun v9 =>
Lt (fun (v10 : Int) (v11 : Int) (M12 : Mm) => 
gd (0 ≤ v10 ∧ v10 < 720) <|
Lt (M12 50 v10.toNat) fun v14 =>
Lt (fun (v15 : Int) (v16 : Int) (v17 : Int) (M18 : Mm) => 
gd (0 ≤ v16 ∧ v16 < 720) <|
Lt (up M18 50 v16.toNat v17) fun M20 =>
Lt (wr (v15 + 1)) fun v21 =>
rc3_5 (v21, M20)) fun J87_19 =>
Lt (fun (v22 : Int) (v23 : Int) (M24 : Mm) => 
J87_19 v22 v23 0 M24) fun J86_25 =>
if v14 = 0 then (
J86_25 v10 v10 M12) else (
if ¬ v11 = 0 then (
J86_25 v10 v10 M12) else (
J87_19 v10 v10 1 M12))) fun J59_13 =>
Lt (fun (v28 : Int) (M29 : Mm) => 
J59_13 v28 1 M29) fun J54_30 =>
if ¬ v9 = 0 then (
J54_30 v3 M4) else (
Lt (wr (Int.tdiv v3 6)) fun v32 =>
Lt (lshr_ a2 v32) fun v33 =>
Lt (land_ v33 1) fun v34 =>
Lt (lcmp_ v34 1) fun v35 =>
if v35 = 0 then (
J54_30 v3 M4) else (
gd (0 ≤ v3 ∧ v3 < 720) <|
Lt (M4 54 v3.toNat) fun v37 =>
Lt (fun (v38 : Int) (M39 : Mm) => 
J59_13 v38 0 M39) fun J58_40 =>
if v37 = 0 then (
J58_40 v3 M4) else (
if a3 = 0 then (
J58_40 v3 M4) else (
J54_30 v3 M4)))))
def f_X12_drops (a1 : Int) (a2 : Int) (a3 : Int) (M : Mm) : Rs :=
Lt (fun (M1 : Mm) => 
some (0, M1)) fun J94_2 =>
Lp (f_X12_drops_L3_43 a1 a2 a3 J94_2) FU (0, M)
theorem cy_X12_drops : yX12_drops.cls ≠ "java/lang/invoke/MethodHandle" ∧ yX12_drops.cls ≠ "java/lang/invoke/VarHandle" ∧ (parseMethodDescriptor yX12_drops.desc).map (fun d => d.parameters.length) = some 3 := ⟨by decide +kernel, by decide +kernel, by decide +kernel⟩
set_option maxRecDepth 20000 in
theorem ok_X12_drops (l : Launch) (D : Dd) (base : Nat) (M : Mm) (a1 : Int) (ha1 : i64 a1) (a2 : Int) (ha2 : i64 a2) (a3 : Int) (ha3 : bo a3) : OkV l D TR 67 base yX12_drops cX12_drops 8 none 0 0 [.ref (base + 0), .long (Ll a1), .long (Ll a2), .int (Ii a3)] M (f_X12_drops a1 a2 a3 M) := by
  refine metV (by decide +kernel) [(0, .ref (base + 0)), (1, .long (Ll a1)), (3, .long (Ll a2)), (5, .int (Ii a3))] rfl (Nat.le_of_ble_eq_true rfl) (fun p e s m args below meth c X hrt hlk => ?_)
  have X : Cx p s m args c cX12_drops D 8 RX12 := X
  unfold f_X12_drops
  refine go_iconst (v := 0) X dX12_drops_0 rfl ?_
  refine go_istore (i := 6) (L' := [(6, .int (Ii 0)), (0, .ref (base + 0)), (1, .long (Ll a1)), (3, .long (Ll a2)), (5, .int (Ii a3))]) X dX12_drops_1 (by decide) rfl ?_
  refine go_lt (fun J => ∀ (M1 : Mm), Go p l e (rmO 0 0) s m args below meth c D TR 67 base 8 0 0 (FinV D TR 67 base below args s) M1 94 [] [] (J M1)) (by
      intro M1
      exact go_vreturn X hrt hlk dX12_drops_94
      )
      (fun J94_2 hJ94_2 => ?_)
  refine go_sub [1, 2, 3, 4, 0] rfl ?_
  exact go_lp (fun (rc : Int × Mm → Rs) => ∀ (v3 : Int) (M4 : Mm), i32 v3 → Go p l e (rmO 0 0) s m args below meth c D TR 67 base 8 0 0 (FinV D TR 67 base below args s) M4 3 [(0, .ref (base + 0)), (1, .long (Ll a1)), (3, .long (Ll a2)), (5, .int (Ii a3)), (6, .int (Ii v3))] [] (rc (v3, M4)))
      (by intro v3 M4 hv3; exact go_none)
      (by
      intro rc3_5 hrc3_5 v3 M4 hv3
      unfold f_X12_drops_L3_43
      dsimp only
      refine go_iload X dX12_drops_3 4 rfl ?_
      refine go_sipush (v := 360) X dX12_drops_5 (by decide) ?_
      refine go_icmp_ge (tgt := 94) X dX12_drops_8 rfl hv3 kI_360 (fun c6 => ?_) (fun c6 => ?_)
      · refine go_sub [] rfl ?_
        exact hJ94_2 M4
      · refine go_aload_n X dX12_drops_11 rfl 0 rfl ?_
        refine go_getc (i := 63) X fc12 dX12_drops_12 trn0 tr0 (Nat.le_of_ble_eq_true rfl) rfl lw920 rfl ?_
        refine go_iload X dX12_drops_15 4 rfl ?_
        refine go_laload X dX12_drops_17 trn53 tr53 hv3 (fun v7 hv7 => ?_)
        refine go_lload_n X dX12_drops_18 rfl 1 rfl ?_
        refine go_land X dX12_drops_19 hv7 ha1 (fun v8 hv8 => ?_)
        refine go_lconst (v := 0) X dX12_drops_20 rfl ?_
        refine go_lcmp X dX12_drops_21 hv8 (by decide) (fun v9 hv9 => ?_)
        refine go_lt (fun J => ∀ (v10 : Int) (v11 : Int) (M12 : Mm), i32 v10 → bo v11 → Go p l e (rmO 0 0) s m args below meth c D TR 67 base 8 0 0 (FinV D TR 67 base below args s) M12 59 [(0, .ref (base + 0)), (1, .long (Ll a1)), (3, .long (Ll a2)), (5, .int (Ii a3)), (6, .int (Ii v10))] [.int (Ii v11)] (J v10 v11 M12)) (by
            intro v10 v11 M12 hv10 hv11
            refine go_istore (i := 7) (L' := [(7, .int (Ii v11)), (0, .ref (base + 0)), (1, .long (Ll a1)), (3, .long (Ll a2)), (5, .int (Ii a3)), (6, .int (Ii v10))]) X dX12_drops_59 (by decide) rfl ?_
            refine go_aload_n X dX12_drops_61 rfl 1 rfl ?_
            refine go_getc (i := 60) X fc12 dX12_drops_62 trn0 tr0 (Nat.le_of_ble_eq_true rfl) rfl lw916 rfl ?_
            refine go_iload X dX12_drops_65 5 rfl ?_
            refine go_aload_n X dX12_drops_67 rfl 1 rfl ?_
            refine go_getc (i := 60) X fc12 dX12_drops_68 trn0 tr0 (Nat.le_of_ble_eq_true rfl) rfl lw916 rfl ?_
            refine go_iload X dX12_drops_71 5 rfl ?_
            refine go_zaload X dX12_drops_73 trn50 tr50 hv10 (fun v14 hv14 => ?_)
            refine go_lt (fun J => ∀ (v15 : Int) (v16 : Int) (v17 : Int) (M18 : Mm), i32 v15 → i32 v16 → bo v17 → Go p l e (rmO 0 0) s m args below meth c D TR 67 base 8 0 0 (FinV D TR 67 base below args s) M18 87 [(0, .ref (base + 0)), (1, .long (Ll a1)), (3, .long (Ll a2)), (5, .int (Ii a3)), (6, .int (Ii v15))] [.int (Ii v17), .int (Ii v16), .ref (base + 50)] (J v15 v16 v17 M18)) (by
                intro v15 v16 v17 M18 hv15 hv16 hv17
                refine go_zastore X dX12_drops_87 trn50 tr50 hv16 hv17 (fun M20 => ?_)
                refine go_iinc (i := 6) (L' := fun v => [(6, .int (Ii v)), (0, .ref (base + 0)), (1, .long (Ll a1)), (3, .long (Ll a2)), (5, .int (Ii a3))]) X dX12_drops_88 hv15 kI_1 (j := 4) rfl (by decide) (fun _ => rfl) (fun v21 hv21 => ?_)
                refine go_goto (tgt := 3) X dX12_drops_91 rfl ?_
                refine go_sub [1, 2, 3, 4, 0] rfl ?_
                exact hrc3_5 v21 M20 hv21
                )
                (fun J87_19 hJ87_19 => ?_)
            refine go_lt (fun J => ∀ (v22 : Int) (v23 : Int) (M24 : Mm), i32 v22 → i32 v23 → Go p l e (rmO 0 0) s m args below meth c D TR 67 base 8 0 0 (FinV D TR 67 base below args s) M24 86 [(0, .ref (base + 0)), (1, .long (Ll a1)), (3, .long (Ll a2)), (5, .int (Ii a3)), (6, .int (Ii v22))] [.int (Ii v23), .ref (base + 50)] (J v22 v23 M24)) (by
                intro v22 v23 M24 hv22 hv23
                refine go_iconst (v := 0) X dX12_drops_86 rfl ?_
                exact hJ87_19 v22 v23 0 M24 hv22 hv23 (Or.inl rfl)
                )
                (fun J86_25 hJ86_25 => ?_)
            refine go_if_eq (tgt := 86) X dX12_drops_74 rfl (bo_i32 hv14) (fun c26 => ?_) (fun c26 => ?_)
            · refine go_sub [1, 2, 3, 4, 5] rfl ?_
              exact hJ86_25 v10 v10 M12 hv10 hv10
            · refine go_iload X dX12_drops_77 0 rfl ?_
              refine go_if_ne (tgt := 86) X dX12_drops_79 rfl (bo_i32 hv11) (fun c27 => ?_) (fun c27 => ?_)
              · refine go_sub [1, 2, 3, 4, 5] rfl ?_
                exact hJ86_25 v10 v10 M12 hv10 hv10
              · refine go_iconst (v := 1) X dX12_drops_82 rfl ?_
                refine go_goto (tgt := 87) X dX12_drops_83 rfl ?_
                refine go_sub [1, 2, 3, 4, 5] rfl ?_
                exact hJ87_19 v10 v10 1 M12 hv10 hv10 (Or.inr rfl)
            )
            (fun J59_13 hJ59_13 => ?_)
        refine go_lt (fun J => ∀ (v28 : Int) (M29 : Mm), i32 v28 → Go p l e (rmO 0 0) s m args below meth c D TR 67 base 8 0 0 (FinV D TR 67 base below args s) M29 54 [(0, .ref (base + 0)), (1, .long (Ll a1)), (3, .long (Ll a2)), (5, .int (Ii a3)), (6, .int (Ii v28))] [] (J v28 M29)) (by
            intro v28 M29 hv28
            refine go_iconst (v := 1) X dX12_drops_54 rfl ?_
            refine go_goto (tgt := 59) X dX12_drops_55 rfl ?_
            exact hJ59_13 v28 1 M29 hv28 (Or.inr rfl)
            )
            (fun J54_30 hJ54_30 => ?_)
        refine go_if_ne (tgt := 54) X dX12_drops_22 rfl hv9 (fun c31 => ?_) (fun c31 => ?_)
        · exact hJ54_30 v3 M4 hv3
        · refine go_lload_n X dX12_drops_25 rfl 2 rfl ?_
          refine go_iload X dX12_drops_26 4 rfl ?_
          refine go_bipush (v := 6) X dX12_drops_28 (by decide) ?_
          refine go_idiv X dX12_drops_30 hv3 kI_6 (by decide) (fun v32 hv32 => ?_)
          refine go_lshr X dX12_drops_31 ha2 hv32 (fun v33 hv33 => ?_)
          refine go_lconst (v := 1) X dX12_drops_32 rfl ?_
          refine go_land X dX12_drops_33 hv33 (by decide) (fun v34 hv34 => ?_)
          refine go_lconst (v := 1) X dX12_drops_34 rfl ?_
          refine go_lcmp X dX12_drops_35 hv34 (by decide) (fun v35 hv35 => ?_)
          refine go_if_eq (tgt := 54) X dX12_drops_36 rfl hv35 (fun c36 => ?_) (fun c36 => ?_)
          · exact hJ54_30 v3 M4 hv3
          · refine go_aload_n X dX12_drops_39 rfl 0 rfl ?_
            refine go_getc (i := 64) X fc12 dX12_drops_40 trn0 tr0 (Nat.le_of_ble_eq_true rfl) rfl lw921 rfl ?_
            refine go_iload X dX12_drops_43 4 rfl ?_
            refine go_zaload X dX12_drops_45 trn54 tr54 hv3 (fun v37 hv37 => ?_)
            refine go_lt (fun J => ∀ (v38 : Int) (M39 : Mm), i32 v38 → Go p l e (rmO 0 0) s m args below meth c D TR 67 base 8 0 0 (FinV D TR 67 base below args s) M39 58 [(0, .ref (base + 0)), (1, .long (Ll a1)), (3, .long (Ll a2)), (5, .int (Ii a3)), (6, .int (Ii v38))] [] (J v38 M39)) (by
                intro v38 M39 hv38
                refine go_iconst (v := 0) X dX12_drops_58 rfl ?_
                exact hJ59_13 v38 0 M39 hv38 (Or.inl rfl)
                )
                (fun J58_40 hJ58_40 => ?_)
            refine go_if_eq (tgt := 58) X dX12_drops_46 rfl (bo_i32 hv37) (fun c41 => ?_) (fun c41 => ?_)
            · exact hJ58_40 v3 M4 hv3
            · refine go_iload X dX12_drops_49 3 rfl ?_
              refine go_if_eq (tgt := 58) X dX12_drops_51 rfl (bo_i32 ha3) (fun c42 => ?_) (fun c42 => ?_)
              · exact hJ58_40 v3 M4 hv3
              · exact hJ54_30 v3 M4 hv3
      )
      FU 0 M kI_0
def f_X12_keepsNodes_L285_95 (v11 : Int) (J314_60 : Int → Int → Int → Int → Int → Mm → Rs) (rc285_78 : Int × Int × Int × Int × Int × Mm → Rs) : Int × Int × Int × Int × Int × Mm → Rs := fun (v72, v73, v74, v75, v76, M77) =>
Lt (lshr_ v72 v75) fun v79 =>
Lt (land_ v79 1) fun v80 =>
Lt (lcmp_ v80 1) fun v81 =>
Lt (fun (v82 : Int) (v83 : Int) (v84 : Int) (v85 : Int) (v86 : Int) (M87 : Mm) => 
Lt (wr (v85 + 1)) fun v89 =>
rc285_78 (v82, v83, v84, v89, v86, M87)) fun J308_88 =>
if v81 = 0 then (
J308_88 v72 v73 v74 v75 v76 M77) else (
Lt (lshr_ v11 v75) fun v91 =>
Lt (land_ v91 1) fun v92 =>
Lt (lcmp_ v92 1) fun v93 =>
if ¬ v93 = 0 then (
J314_60 v72 v73 v74 v75 v76 M77) else (
J308_88 v72 v73 v74 v75 v76 M77))
def f_X12_keepsNodes_L262_96 (v11 : Int) (J378_16 : Int → Int → Int → Mm → Rs) (rc262_40 : Int × Int × Int × Int × Int × Int × Mm → Rs) : Int × Int × Int × Int × Int × Int × Mm → Rs := fun (v33, v34, v35, v36, v37, v38, M39) =>
Lt (M39 0 35) fun v41 =>
if v41 ≤ v38 then (
J378_16 v34 v35 v36 M39) else (
gd (0 ≤ v38 ∧ v38 < 30) <|
Lt (M39 42 v38.toNat) fun v43 =>
Lt (fun (v44 : Int) (v45 : Int) (v46 : Int) (v47 : Int) (v48 : Int) (v49 : Int) (M50 : Mm) => 
Lt (wr (v49 + 1)) fun v52 =>
rc262_40 (v44, v45, v46, v47, v48, v52, M50)) fun J372_51 =>
if ¬ v43 = ((-1)) then (
J372_51 v33 v34 v35 v36 v37 v38 M39) else (
Lt (fun (v54 : Int) (v55 : Int) (v56 : Int) (v57 : Int) (v58 : Int) (M59 : Mm) => 
gd (0 ≤ v58 ∧ v58 < 30) <|
Lt (up M59 36 v58.toNat v57) fun M61 =>
Lt (wr (v57 + 1)) fun v62 =>
gd (0 ≤ v58 ∧ v58 < 30) <|
Lt (M61 32 v58.toNat) fun v63 =>
if v63 = ((-1)) then (
J372_51 v54 v55 v56 1 v62 v58 M61) else (
gd (0 ≤ v58 ∧ v58 < 30) <|
Lt (M61 32 v58.toNat) fun v65 =>
gd (0 ≤ v65 ∧ v65 < 30) <|
Lt (M61 42 v65.toNat) fun v66 =>
if v66 = ((-1)) then (
J372_51 v54 v55 v56 1 v62 v58 M61) else (
gd (0 ≤ v58 ∧ v58 < 30) <|
Lt (M61 32 v58.toNat) fun v68 =>
gd (0 ≤ v68 ∧ v68 < 30) <|
Lt (M61 36 v68.toNat) fun v69 =>
Lt (lshl_ 1 v69) fun v70 =>
Lt (lor_ v56 v70) fun v71 =>
J372_51 v54 v55 v71 1 v62 v58 M61))) fun J314_60 =>
Lp (f_X12_keepsNodes_L285_95 v11 J314_60) FU (v33, v34, v35, v37, v38, M39)))
def f_X12_keepsNodes_L210_109 (J239_9 : Int → Int → Int → Mm → Rs) (rc210_102 : Int × Int × Int × Int × Mm → Rs) : Int × Int × Int × Int × Mm → Rs := fun (v97, v98, v99, v100, M101) =>
Lt (M101 0 44) fun v103 =>
if v103 ≤ v100 then (
J239_9 v97 v98 v99 M101) else (
gd (0 ≤ v100 ∧ v100 < 30) <|
Lt (M101 41 v100.toNat) fun v105 =>
Lt (lshl_ 1 v105) fun v106 =>
Lt (lor_ v99 v106) fun v107 =>
Lt (wr (v100 + 1)) fun v108 =>
rc210_102 (v97, v98, v107, v108, M101))
def f_X12_keepsNodes_L7_176 (J204_4 : Int → Int → Mm → Rs) (rc7_114 : Int × Int × Int × Mm → Rs) : Int × Int × Int × Mm → Rs := fun (v110, v111, v112, M113) =>
Lt (M113 0 35) fun v115 =>
if v115 ≤ v112 then (
J204_4 v110 v111 M113) else (
gd (0 ≤ v112 ∧ v112 < 30) <|
Lt (M113 32 v112.toNat) fun v117 =>
Lt (fun (v118 : Int) (v119 : Int) (v120 : Int) (v121 : Int) (M122 : Mm) => 
Lt (fun (v124 : Int) (v125 : Int) (v126 : Int) (v127 : Int) (M128 : Mm) => 
Lt (fun (v130 : Int) (v131 : Int) (v132 : Int) (v133 : Int) (v134 : Int) (M135 : Mm) => 
gd (0 ≤ v133 ∧ v133 < 30) <|
Lt (up M135 42 v133.toNat v134) fun M137 =>
Lt (fun (v138 : Int) (v139 : Int) (v140 : Int) (M141 : Mm) => 
Lt (wr (v140 + 1)) fun v143 =>
rc7_114 (v138, v139, v143, M141)) fun J198_142 =>
if v127 = 0 then (
J198_142 v130 v131 v132 M137) else (
gd (0 ≤ v121 ∧ v121 < 30) <|
Lt (M137 38 v121.toNat) fun v145 =>
gd (0 ≤ v132 ∧ v132 < 30) <|
Lt (up M137 31 v132.toNat v145) fun M146 =>
gd (0 ≤ v121 ∧ v121 < 30) <|
Lt (M146 41 v121.toNat) fun v147 =>
gd (0 ≤ v132 ∧ v132 < 30) <|
Lt (up M146 36 v132.toNat v147) fun M148 =>
gd (0 ≤ v132 ∧ v132 < 30) <|
Lt (M148 36 v132.toNat) fun v149 =>
Lt (lshl_ 1 v149) fun v150 =>
Lt (lor_ v130 v150) fun v151 =>
Lt (wr (v131 + 1)) fun v152 =>
J198_142 v151 v152 v132 M148)) fun J149_136 =>
if v127 = 0 then (
J149_136 v124 v125 v126 v126 ((-1)) M128) else (
J149_136 v124 v125 v126 v126 v121 M128)) fun J130_129 =>
Lt (fun (v154 : Int) (v155 : Int) (v156 : Int) (M157 : Mm) => 
J130_129 v154 v155 v156 0 M157) fun J129_158 =>
if v121 = ((-1)) then (
J129_158 v118 v119 v120 M122) else (
gd (0 ≤ v121 ∧ v121 < 30) <|
Lt (M122 37 v121.toNat) fun v160 =>
gd (0 ≤ v120 ∧ v120 < 30) <|
Lt (M122 30 v120.toNat) fun v161 =>
if ¬ v160 = v161 then (
J129_158 v118 v119 v120 M122) else (
gd (0 ≤ v121 ∧ v121 < 30) <|
Lt (M122 40 v121.toNat) fun v163 =>
gd (0 ≤ v120 ∧ v120 < 30) <|
Lt (M122 35 v120.toNat) fun v164 =>
if ¬ v163 = v164 then (
J129_158 v118 v119 v120 M122) else (
J130_129 v118 v119 v120 1 M122)))) fun J83_123 =>
if ¬ v117 = ((-1)) then (
gd (0 ≤ v117 ∧ v117 < 30) <|
Lt (M113 42 v117.toNat) fun v167 =>
if ¬ v167 = ((-1)) then (
gd (0 ≤ v117 ∧ v117 < 30) <|
Lt (M113 42 v117.toNat) fun v169 =>
Lt (wr (3 * v169)) fun v170 =>
gd (0 ≤ v112 ∧ v112 < 30) <|
Lt (M113 33 v112.toNat) fun v171 =>
Lt (wr (v170 + v171)) fun v172 =>
gd (0 ≤ v172 ∧ v172 < 90) <|
Lt (M113 39 v172.toNat) fun v173 =>
J83_123 v110 v111 v112 v173 M113) else (
J83_123 v110 v111 v112 ((-1)) M113)) else (
Lt (M113 0 44) fun v174 =>
if v174 ≤ 0 then (
J83_123 v110 v111 v112 ((-1)) M113) else (
J83_123 v110 v111 v112 0 M113)))
def f_X12_keepsNodes (M : Mm) : Rs :=
Lt (fun (v1 : Int) (v2 : Int) (M3 : Mm) => 
Lt (fun (v5 : Int) (v6 : Int) (v7 : Int) (M8 : Mm) => 
Lt (lxor_ v5 ((-1))) fun v10 =>
Lt (land_ v7 v10) fun v11 =>
Lt (fun (v12 : Int) (v13 : Int) (v14 : Int) (M15 : Mm) => 
Lt (fun (v17 : Int) (v18 : Int) (v19 : Int) (M20 : Mm) => 
Cl (f_X12_drops v18 v11 v19 M20) fun _ M22 =>
Lt (M22 0 35) fun v23 =>
Lt (wr (100 * v23)) fun v24 =>
Lt (wr (v24 + v17)) fun v25 =>
some (v25, M22)) fun J400_21 =>
Lt (fun (v26 : Int) (v27 : Int) (M28 : Mm) => 
J400_21 v26 v27 1 M28) fun J395_29 =>
if ¬ v14 = 0 then (
J395_29 v12 v13 M15) else (
Lt (lcmp_ v13 0) fun v31 =>
if v31 = 0 then (
J400_21 v12 v13 0 M15) else (
J395_29 v12 v13 M15))) fun J378_16 =>
Lp (f_X12_keepsNodes_L262_96 v11 J378_16) FU (v5, v6, v11, 0, 0, 0, M8)) fun J239_9 =>
Lp (f_X12_keepsNodes_L210_109 J239_9) FU (v1, v2, 0, 0, M3)) fun J204_4 =>
Lp (f_X12_keepsNodes_L7_176 J204_4) FU (0, 0, 0, M)
theorem cy_X12_keepsNodes : yX12_keepsNodes.cls ≠ "java/lang/invoke/MethodHandle" ∧ yX12_keepsNodes.cls ≠ "java/lang/invoke/VarHandle" ∧ (parseMethodDescriptor yX12_keepsNodes.desc).map (fun d => d.parameters.length) = some 0 := ⟨by decide +kernel, by decide +kernel, by decide +kernel⟩
set_option maxRecDepth 20000 in
theorem ok_X12_keepsNodes (l : Launch) (D : Dd) (base : Nat) (M : Mm) : OkI l D TR 67 base yX12_keepsNodes cX12_keepsNodes 11 (some .int) 1 27 [.ref (base + 0)] M i32 (f_X12_keepsNodes M) := by
  refine metI (by decide +kernel) [(0, .ref (base + 0))] rfl (Nat.le_of_ble_eq_true rfl) (fun p e s m args below meth c X hrt hlk => ?_)
  have X : Cx p s m args c cX12_keepsNodes D 11 RX12 := X
  unfold f_X12_keepsNodes
  refine go_lconst (v := 0) X dX12_keepsNodes_0 rfl ?_
  refine go_lstore_n (i := 1) (L' := [(1, .long (Ll 0)), (0, .ref (base + 0))]) X dX12_keepsNodes_1 rfl (by decide) rfl ?_
  refine go_iconst (v := 0) X dX12_keepsNodes_2 rfl ?_
  refine go_istore_n (i := 3) (L' := [(3, .int (Ii 0)), (1, .long (Ll 0)), (0, .ref (base + 0))]) X dX12_keepsNodes_3 rfl (by decide) rfl ?_
  refine go_iconst (v := 0) X dX12_keepsNodes_4 rfl ?_
  refine go_istore (i := 4) (L' := [(4, .int (Ii 0)), (3, .int (Ii 0)), (1, .long (Ll 0)), (0, .ref (base + 0))]) X dX12_keepsNodes_5 (by decide) rfl ?_
  refine go_lt (fun J => ∀ (v1 : Int) (v2 : Int) (M3 : Mm), i64 v1 → i32 v2 → Go p l e (rmO 1 27) s m args below meth c D TR 67 base 11 0 0 (FinI D TR 67 base below args s i32) M3 204 [(0, .ref (base + 0)), (1, .long (Ll v1)), (3, .int (Ii v2))] [] (J v1 v2 M3)) (by
      intro v1 v2 M3 hv1 hv2
      refine go_lconst (v := 0) X dX12_keepsNodes_204 rfl ?_
      refine go_lstore (i := 4) (L' := [(4, .long (Ll 0)), (0, .ref (base + 0)), (1, .long (Ll v1)), (3, .int (Ii v2))]) X dX12_keepsNodes_205 (by decide) rfl ?_
      refine go_iconst (v := 0) X dX12_keepsNodes_207 rfl ?_
      refine go_istore (i := 6) (L' := [(6, .int (Ii 0)), (4, .long (Ll 0)), (0, .ref (base + 0)), (1, .long (Ll v1)), (3, .int (Ii v2))]) X dX12_keepsNodes_208 (by decide) rfl ?_
      refine go_lt (fun J => ∀ (v5 : Int) (v6 : Int) (v7 : Int) (M8 : Mm), i64 v5 → i32 v6 → i64 v7 → Go p l e (rmO 1 27) s m args below meth c D TR 67 base 11 0 0 (FinI D TR 67 base below args s i32) M8 239 [(0, .ref (base + 0)), (1, .long (Ll v5)), (3, .int (Ii v6)), (4, .long (Ll v7))] [] (J v5 v6 v7 M8)) (by
          intro v5 v6 v7 M8 hv5 hv6 hv7
          refine go_lload X dX12_keepsNodes_239 3 rfl ?_
          refine go_lload_n X dX12_keepsNodes_241 rfl 1 rfl ?_
          refine go_ldc2 (v := (-1)) X dX12_keepsNodes_242 lw1076 rfl ?_
          refine go_lxor X dX12_keepsNodes_245 hv5 (by decide) (fun v10 hv10 => ?_)
          refine go_land X dX12_keepsNodes_246 hv7 hv10 (fun v11 hv11 => ?_)
          refine go_lstore (i := 4) (L' := [(4, .long (Ll v11)), (0, .ref (base + 0)), (1, .long (Ll v5)), (3, .int (Ii v6))]) X dX12_keepsNodes_247 (by decide) rfl ?_
          refine go_lload X dX12_keepsNodes_249 0 rfl ?_
          refine go_lstore (i := 6) (L' := [(6, .long (Ll v11)), (4, .long (Ll v11)), (0, .ref (base + 0)), (1, .long (Ll v5)), (3, .int (Ii v6))]) X dX12_keepsNodes_251 (by decide) rfl ?_
          refine go_iconst (v := 0) X dX12_keepsNodes_253 rfl ?_
          refine go_istore (i := 8) (L' := [(8, .int (Ii 0)), (6, .long (Ll v11)), (4, .long (Ll v11)), (0, .ref (base + 0)), (1, .long (Ll v5)), (3, .int (Ii v6))]) X dX12_keepsNodes_254 (by decide) rfl ?_
          refine go_iconst (v := 0) X dX12_keepsNodes_256 rfl ?_
          refine go_istore (i := 9) (L' := [(9, .int (Ii 0)), (8, .int (Ii 0)), (6, .long (Ll v11)), (4, .long (Ll v11)), (0, .ref (base + 0)), (1, .long (Ll v5)), (3, .int (Ii v6))]) X dX12_keepsNodes_257 (by decide) rfl ?_
          refine go_iconst (v := 0) X dX12_keepsNodes_259 rfl ?_
          refine go_istore (i := 10) (L' := [(10, .int (Ii 0)), (9, .int (Ii 0)), (8, .int (Ii 0)), (6, .long (Ll v11)), (4, .long (Ll v11)), (0, .ref (base + 0)), (1, .long (Ll v5)), (3, .int (Ii v6))]) X dX12_keepsNodes_260 (by decide) rfl ?_
          refine go_lt (fun J => ∀ (v12 : Int) (v13 : Int) (v14 : Int) (M15 : Mm), i32 v12 → i64 v13 → bo v14 → Go p l e (rmO 1 27) s m args below meth c D TR 67 base 11 0 0 (FinI D TR 67 base below args s i32) M15 378 [(0, .ref (base + 0)), (3, .int (Ii v12)), (4, .long (Ll v11)), (6, .long (Ll v13)), (8, .int (Ii v14))] [] (J v12 v13 v14 M15)) (by
              intro v12 v13 v14 M15 hv12 hv13 hv14
              refine go_aload_n X dX12_keepsNodes_378 rfl 0 rfl ?_
              refine go_lload X dX12_keepsNodes_379 3 rfl ?_
              refine go_lload X dX12_keepsNodes_381 2 rfl ?_
              refine go_iload X dX12_keepsNodes_383 4 rfl ?_
              refine go_lt (fun J => ∀ (v17 : Int) (v18 : Int) (v19 : Int) (M20 : Mm), i32 v17 → i64 v18 → bo v19 → Go p l e (rmO 1 27) s m args below meth c D TR 67 base 11 0 0 (FinI D TR 67 base below args s i32) M20 400 [(0, .ref (base + 0)), (3, .int (Ii v17))] [.int (Ii v19), .long (Ll v11), .long (Ll v18), .ref (base + 0)] (J v17 v18 v19 M20)) (by
                  intro v17 v18 v19 M20 hv17 hv18 hv19
                  refine goV (fun H locs ls r ho hW hL => runV X (ok_X12_drops l D base M20 v18 hv18 v11 hv11 v19 hv19 H.size r ho) dX12_keepsNodes_400 lw1077 lw1078 lw1079 lw944 ⟨lw1073, cy_X12_drops, Nat.le_of_ble_eq_true rfl, Nat.le_of_ble_eq_true rfl⟩ rfl trn0 tr0 rfl rfl rfl rfl (Nat.le_of_ble_eq_true rfl) hW hL hk0) (fun _ M22 => ?_)
                  refine go_bipush (v := 100) X dX12_keepsNodes_403 (by decide) ?_
                  refine go_aload_n X dX12_keepsNodes_405 rfl 0 rfl ?_
                  refine go_geti (i := 35) X fc12 dX12_keepsNodes_406 trn0 tr0 (Nat.le_of_ble_eq_true rfl) rfl lw948 rfl (fun v23 hv23 => ?_)
                  refine go_imul X dX12_keepsNodes_409 kI_100 hv23 (fun v24 hv24 => ?_)
                  refine go_iload_n X dX12_keepsNodes_410 rfl 1 rfl ?_
                  refine go_iadd X dX12_keepsNodes_411 hv24 hv17 (fun v25 hv25 => ?_)
                  exact go_ireturn X hrt hlk dX12_keepsNodes_412 hv25
                  )
                  (fun J400_21 hJ400_21 => ?_)
              refine go_lt (fun J => ∀ (v26 : Int) (v27 : Int) (M28 : Mm), i32 v26 → i64 v27 → Go p l e (rmO 1 27) s m args below meth c D TR 67 base 11 0 0 (FinI D TR 67 base below args s i32) M28 395 [(0, .ref (base + 0)), (3, .int (Ii v26))] [.long (Ll v11), .long (Ll v27), .ref (base + 0)] (J v26 v27 M28)) (by
                  intro v26 v27 M28 hv26 hv27
                  refine go_iconst (v := 1) X dX12_keepsNodes_395 rfl ?_
                  refine go_goto (tgt := 400) X dX12_keepsNodes_396 rfl ?_
                  exact hJ400_21 v26 v27 1 M28 hv26 hv27 (Or.inr rfl)
                  )
                  (fun J395_29 hJ395_29 => ?_)
              refine go_if_ne (tgt := 395) X dX12_keepsNodes_385 rfl (bo_i32 hv14) (fun c30 => ?_) (fun c30 => ?_)
              · refine go_sub [0, 1] rfl ?_
                exact hJ395_29 v12 v13 M15 hv12 hv13
              · refine go_lload X dX12_keepsNodes_388 3 rfl ?_
                refine go_lconst (v := 0) X dX12_keepsNodes_390 rfl ?_
                refine go_lcmp X dX12_keepsNodes_391 hv13 (by decide) (fun v31 hv31 => ?_)
                refine go_if_eq (tgt := 399) X dX12_keepsNodes_392 rfl hv31 (fun c32 => ?_) (fun c32 => ?_)
                · refine go_iconst (v := 0) X dX12_keepsNodes_399 rfl ?_
                  refine go_sub [0, 1] rfl ?_
                  exact hJ400_21 v12 v13 0 M15 hv12 hv13 (Or.inl rfl)
                · refine go_sub [0, 1] rfl ?_
                  exact hJ395_29 v12 v13 M15 hv12 hv13
              )
              (fun J378_16 hJ378_16 => ?_)
          refine go_sub [5, 6, 7, 4, 3, 2, 1, 0] rfl ?_
          exact go_lp (fun (rc : Int × Int × Int × Int × Int × Int × Mm → Rs) => ∀ (v33 : Int) (v34 : Int) (v35 : Int) (v36 : Int) (v37 : Int) (v38 : Int) (M39 : Mm), i64 v33 → i32 v34 → i64 v35 → bo v36 → i32 v37 → i32 v38 → Go p l e (rmO 1 27) s m args below meth c D TR 67 base 11 0 0 (FinI D TR 67 base below args s i32) M39 262 [(0, .ref (base + 0)), (1, .long (Ll v33)), (3, .int (Ii v34)), (4, .long (Ll v11)), (6, .long (Ll v35)), (8, .int (Ii v36)), (9, .int (Ii v37)), (10, .int (Ii v38))] [] (rc (v33, v34, v35, v36, v37, v38, M39)))
              (by intro v33 v34 v35 v36 v37 v38 M39 hv33 hv34 hv35 hv36 hv37 hv38; exact go_none)
              (by
              intro rc262_40 hrc262_40 v33 v34 v35 v36 v37 v38 M39 hv33 hv34 hv35 hv36 hv37 hv38
              unfold f_X12_keepsNodes_L262_96
              dsimp only
              refine go_iload X dX12_keepsNodes_262 7 rfl ?_
              refine go_aload_n X dX12_keepsNodes_264 rfl 0 rfl ?_
              refine go_geti (i := 35) X fc12 dX12_keepsNodes_265 trn0 tr0 (Nat.le_of_ble_eq_true rfl) rfl lw948 rfl (fun v41 hv41 => ?_)
              refine go_icmp_ge (tgt := 378) X dX12_keepsNodes_268 rfl hv38 hv41 (fun c42 => ?_) (fun c42 => ?_)
              · refine go_sub [0, 2, 3, 4, 5] rfl ?_
                exact hJ378_16 v34 v35 v36 M39 hv34 hv35 hv36
              · refine go_aload_n X dX12_keepsNodes_271 rfl 0 rfl ?_
                refine go_getc (i := 50) X fc12 dX12_keepsNodes_272 trn0 tr0 (Nat.le_of_ble_eq_true rfl) rfl lw908 rfl ?_
                refine go_iload X dX12_keepsNodes_275 7 rfl ?_
                refine go_iaload X dX12_keepsNodes_277 trn42 tr42 hv38 (fun v43 hv43 => ?_)
                refine go_iconst (v := (-1)) X dX12_keepsNodes_278 rfl ?_
                refine go_lt (fun J => ∀ (v44 : Int) (v45 : Int) (v46 : Int) (v47 : Int) (v48 : Int) (v49 : Int) (M50 : Mm), i64 v44 → i32 v45 → i64 v46 → bo v47 → i32 v48 → i32 v49 → Go p l e (rmO 1 27) s m args below meth c D TR 67 base 11 0 0 (FinI D TR 67 base below args s i32) M50 372 [(0, .ref (base + 0)), (1, .long (Ll v44)), (3, .int (Ii v45)), (4, .long (Ll v11)), (6, .long (Ll v46)), (8, .int (Ii v47)), (9, .int (Ii v48)), (10, .int (Ii v49))] [] (J v44 v45 v46 v47 v48 v49 M50)) (by
                    intro v44 v45 v46 v47 v48 v49 M50 hv44 hv45 hv46 hv47 hv48 hv49
                    refine go_iinc (i := 10) (L' := fun v => [(10, .int (Ii v)), (0, .ref (base + 0)), (1, .long (Ll v44)), (3, .int (Ii v45)), (4, .long (Ll v11)), (6, .long (Ll v46)), (8, .int (Ii v47)), (9, .int (Ii v48))]) X dX12_keepsNodes_372 hv49 kI_1 (j := 7) rfl (by decide) (fun _ => rfl) (fun v52 hv52 => ?_)
                    refine go_goto (tgt := 262) X dX12_keepsNodes_375 rfl ?_
                    refine go_sub [1, 2, 3, 4, 5, 6, 7, 0] rfl ?_
                    exact hrc262_40 v44 v45 v46 v47 v48 v52 M50 hv44 hv45 hv46 hv47 hv48 hv52
                    )
                    (fun J372_51 hJ372_51 => ?_)
                refine go_icmp_ne (tgt := 372) X dX12_keepsNodes_279 rfl hv43 kI_m1 (fun c53 => ?_) (fun c53 => ?_)
                · exact hJ372_51 v33 v34 v35 v36 v37 v38 M39 hv33 hv34 hv35 hv36 hv37 hv38
                · refine go_iconst (v := 1) X dX12_keepsNodes_282 rfl ?_
                  refine go_istore (i := 8) (L' := [(8, .int (Ii 1)), (0, .ref (base + 0)), (1, .long (Ll v33)), (3, .int (Ii v34)), (4, .long (Ll v11)), (6, .long (Ll v35)), (9, .int (Ii v37)), (10, .int (Ii v38))]) X dX12_keepsNodes_283 (by decide) rfl ?_
                  refine go_lt (fun J => ∀ (v54 : Int) (v55 : Int) (v56 : Int) (v57 : Int) (v58 : Int) (M59 : Mm), i64 v54 → i32 v55 → i64 v56 → i32 v57 → i32 v58 → Go p l e (rmO 1 27) s m args below meth c D TR 67 base 11 0 0 (FinI D TR 67 base below args s i32) M59 314 [(0, .ref (base + 0)), (1, .long (Ll v54)), (3, .int (Ii v55)), (4, .long (Ll v11)), (6, .long (Ll v56)), (8, .int (Ii 1)), (9, .int (Ii v57)), (10, .int (Ii v58))] [] (J v54 v55 v56 v57 v58 M59)) (by
                      intro v54 v55 v56 v57 v58 M59 hv54 hv55 hv56 hv57 hv58
                      refine go_aload_n X dX12_keepsNodes_314 rfl 0 rfl ?_
                      refine go_getc (i := 43) X fc12 dX12_keepsNodes_315 trn0 tr0 (Nat.le_of_ble_eq_true rfl) rfl lw902 rfl ?_
                      refine go_iload X dX12_keepsNodes_318 7 rfl ?_
                      refine go_iload X dX12_keepsNodes_320 6 rfl ?_
                      refine go_iastore X dX12_keepsNodes_322 trn36 tr36 hv58 hv57 (fun M61 => ?_)
                      refine go_iinc (i := 9) (L' := fun v => [(9, .int (Ii v)), (0, .ref (base + 0)), (1, .long (Ll v54)), (3, .int (Ii v55)), (4, .long (Ll v11)), (6, .long (Ll v56)), (8, .int (Ii 1)), (10, .int (Ii v58))]) X dX12_keepsNodes_323 hv57 kI_1 (j := 6) rfl (by decide) (fun _ => rfl) (fun v62 hv62 => ?_)
                      refine go_aload_n X dX12_keepsNodes_326 rfl 1 rfl ?_
                      refine go_getc (i := 39) X fc12 dX12_keepsNodes_327 trn0 tr0 (Nat.le_of_ble_eq_true rfl) rfl lw898 rfl ?_
                      refine go_iload X dX12_keepsNodes_330 7 rfl ?_
                      refine go_iaload X dX12_keepsNodes_332 trn32 tr32 hv58 (fun v63 hv63 => ?_)
                      refine go_iconst (v := (-1)) X dX12_keepsNodes_333 rfl ?_
                      refine go_icmp_eq (tgt := 372) X dX12_keepsNodes_334 rfl hv63 kI_m1 (fun c64 => ?_) (fun c64 => ?_)
                      · refine go_sub [1, 2, 3, 4, 5, 6, 0, 7] rfl ?_
                        exact hJ372_51 v54 v55 v56 1 v62 v58 M61 hv54 hv55 hv56 (Or.inr rfl) hv62 hv58
                      · refine go_aload_n X dX12_keepsNodes_337 rfl 1 rfl ?_
                        refine go_getc (i := 50) X fc12 dX12_keepsNodes_338 trn0 tr0 (Nat.le_of_ble_eq_true rfl) rfl lw908 rfl ?_
                        refine go_aload_n X dX12_keepsNodes_341 rfl 1 rfl ?_
                        refine go_getc (i := 39) X fc12 dX12_keepsNodes_342 trn0 tr0 (Nat.le_of_ble_eq_true rfl) rfl lw898 rfl ?_
                        refine go_iload X dX12_keepsNodes_345 7 rfl ?_
                        refine go_iaload X dX12_keepsNodes_347 trn32 tr32 hv58 (fun v65 hv65 => ?_)
                        refine go_iaload X dX12_keepsNodes_348 trn42 tr42 hv65 (fun v66 hv66 => ?_)
                        refine go_iconst (v := (-1)) X dX12_keepsNodes_349 rfl ?_
                        refine go_icmp_eq (tgt := 372) X dX12_keepsNodes_350 rfl hv66 kI_m1 (fun c67 => ?_) (fun c67 => ?_)
                        · refine go_sub [1, 2, 3, 4, 5, 6, 0, 7] rfl ?_
                          exact hJ372_51 v54 v55 v56 1 v62 v58 M61 hv54 hv55 hv56 (Or.inr rfl) hv62 hv58
                        · refine go_lload X dX12_keepsNodes_353 5 rfl ?_
                          refine go_lconst (v := 1) X dX12_keepsNodes_355 rfl ?_
                          refine go_aload_n X dX12_keepsNodes_356 rfl 1 rfl ?_
                          refine go_getc (i := 43) X fc12 dX12_keepsNodes_357 trn0 tr0 (Nat.le_of_ble_eq_true rfl) rfl lw902 rfl ?_
                          refine go_aload_n X dX12_keepsNodes_360 rfl 1 rfl ?_
                          refine go_getc (i := 39) X fc12 dX12_keepsNodes_361 trn0 tr0 (Nat.le_of_ble_eq_true rfl) rfl lw898 rfl ?_
                          refine go_iload X dX12_keepsNodes_364 7 rfl ?_
                          refine go_iaload X dX12_keepsNodes_366 trn32 tr32 hv58 (fun v68 hv68 => ?_)
                          refine go_iaload X dX12_keepsNodes_367 trn36 tr36 hv68 (fun v69 hv69 => ?_)
                          refine go_lshl X dX12_keepsNodes_368 (by decide) hv69 (fun v70 hv70 => ?_)
                          refine go_lor X dX12_keepsNodes_369 hv56 hv70 (fun v71 hv71 => ?_)
                          refine go_lstore (i := 6) (L' := [(6, .long (Ll v71)), (9, .int (Ii v62)), (0, .ref (base + 0)), (1, .long (Ll v54)), (3, .int (Ii v55)), (4, .long (Ll v11)), (8, .int (Ii 1)), (10, .int (Ii v58))]) X dX12_keepsNodes_370 (by decide) rfl ?_
                          refine go_sub [2, 3, 4, 5, 0, 6, 1, 7] rfl ?_
                          exact hJ372_51 v54 v55 v71 1 v62 v58 M61 hv54 hv55 hv71 (Or.inr rfl) hv62 hv58
                      )
                      (fun J314_60 hJ314_60 => ?_)
                  refine go_sub [1, 2, 3, 4, 5, 0, 6, 7] rfl ?_
                  exact go_lp (fun (rc : Int × Int × Int × Int × Int × Mm → Rs) => ∀ (v72 : Int) (v73 : Int) (v74 : Int) (v75 : Int) (v76 : Int) (M77 : Mm), i64 v72 → i32 v73 → i64 v74 → i32 v75 → i32 v76 → Go p l e (rmO 1 27) s m args below meth c D TR 67 base 11 0 0 (FinI D TR 67 base below args s i32) M77 285 [(0, .ref (base + 0)), (1, .long (Ll v72)), (3, .int (Ii v73)), (4, .long (Ll v11)), (6, .long (Ll v74)), (8, .int (Ii 1)), (9, .int (Ii v75)), (10, .int (Ii v76))] [] (rc (v72, v73, v74, v75, v76, M77)))
                      (by intro v72 v73 v74 v75 v76 M77 hv72 hv73 hv74 hv75 hv76; exact go_none)
                      (by
                      intro rc285_78 hrc285_78 v72 v73 v74 v75 v76 M77 hv72 hv73 hv74 hv75 hv76
                      unfold f_X12_keepsNodes_L285_95
                      dsimp only
                      refine go_lload_n X dX12_keepsNodes_285 rfl 1 rfl ?_
                      refine go_iload X dX12_keepsNodes_286 6 rfl ?_
                      refine go_lshr X dX12_keepsNodes_288 hv72 hv75 (fun v79 hv79 => ?_)
                      refine go_lconst (v := 1) X dX12_keepsNodes_289 rfl ?_
                      refine go_land X dX12_keepsNodes_290 hv79 (by decide) (fun v80 hv80 => ?_)
                      refine go_lconst (v := 1) X dX12_keepsNodes_291 rfl ?_
                      refine go_lcmp X dX12_keepsNodes_292 hv80 (by decide) (fun v81 hv81 => ?_)
                      refine go_lt (fun J => ∀ (v82 : Int) (v83 : Int) (v84 : Int) (v85 : Int) (v86 : Int) (M87 : Mm), i64 v82 → i32 v83 → i64 v84 → i32 v85 → i32 v86 → Go p l e (rmO 1 27) s m args below meth c D TR 67 base 11 0 0 (FinI D TR 67 base below args s i32) M87 308 [(0, .ref (base + 0)), (1, .long (Ll v82)), (3, .int (Ii v83)), (4, .long (Ll v11)), (6, .long (Ll v84)), (8, .int (Ii 1)), (9, .int (Ii v85)), (10, .int (Ii v86))] [] (J v82 v83 v84 v85 v86 M87)) (by
                          intro v82 v83 v84 v85 v86 M87 hv82 hv83 hv84 hv85 hv86
                          refine go_iinc (i := 9) (L' := fun v => [(9, .int (Ii v)), (0, .ref (base + 0)), (1, .long (Ll v82)), (3, .int (Ii v83)), (4, .long (Ll v11)), (6, .long (Ll v84)), (8, .int (Ii 1)), (10, .int (Ii v86))]) X dX12_keepsNodes_308 hv85 kI_1 (j := 6) rfl (by decide) (fun _ => rfl) (fun v89 hv89 => ?_)
                          refine go_goto (tgt := 285) X dX12_keepsNodes_311 rfl ?_
                          refine go_sub [1, 2, 3, 4, 5, 6, 0, 7] rfl ?_
                          exact hrc285_78 v82 v83 v84 v89 v86 M87 hv82 hv83 hv84 hv89 hv86
                          )
                          (fun J308_88 hJ308_88 => ?_)
                      refine go_if_eq (tgt := 308) X dX12_keepsNodes_293 rfl hv81 (fun c90 => ?_) (fun c90 => ?_)
                      · exact hJ308_88 v72 v73 v74 v75 v76 M77 hv72 hv73 hv74 hv75 hv76
                      · refine go_lload X dX12_keepsNodes_296 3 rfl ?_
                        refine go_iload X dX12_keepsNodes_298 6 rfl ?_
                        refine go_lshr X dX12_keepsNodes_300 hv11 hv75 (fun v91 hv91 => ?_)
                        refine go_lconst (v := 1) X dX12_keepsNodes_301 rfl ?_
                        refine go_land X dX12_keepsNodes_302 hv91 (by decide) (fun v92 hv92 => ?_)
                        refine go_lconst (v := 1) X dX12_keepsNodes_303 rfl ?_
                        refine go_lcmp X dX12_keepsNodes_304 hv92 (by decide) (fun v93 hv93 => ?_)
                        refine go_if_ne (tgt := 314) X dX12_keepsNodes_305 rfl hv93 (fun c94 => ?_) (fun c94 => ?_)
                        · exact hJ314_60 v72 v73 v74 v75 v76 M77 hv72 hv73 hv74 hv75 hv76
                        · exact hJ308_88 v72 v73 v74 v75 v76 M77 hv72 hv73 hv74 hv75 hv76
                      )
                      FU v33 v34 v35 v37 v38 M39 hv33 hv34 hv35 hv37 hv38
              )
              FU v5 v6 v11 0 0 0 M8 hv5 hv6 hv11 (Or.inl rfl) kI_0 kI_0
          )
          (fun J239_9 hJ239_9 => ?_)
      refine go_sub [2, 3, 4, 1, 0] rfl ?_
      exact go_lp (fun (rc : Int × Int × Int × Int × Mm → Rs) => ∀ (v97 : Int) (v98 : Int) (v99 : Int) (v100 : Int) (M101 : Mm), i64 v97 → i32 v98 → i64 v99 → i32 v100 → Go p l e (rmO 1 27) s m args below meth c D TR 67 base 11 0 0 (FinI D TR 67 base below args s i32) M101 210 [(0, .ref (base + 0)), (1, .long (Ll v97)), (3, .int (Ii v98)), (4, .long (Ll v99)), (6, .int (Ii v100))] [] (rc (v97, v98, v99, v100, M101)))
          (by intro v97 v98 v99 v100 M101 hv97 hv98 hv99 hv100; exact go_none)
          (by
          intro rc210_102 hrc210_102 v97 v98 v99 v100 M101 hv97 hv98 hv99 hv100
          unfold f_X12_keepsNodes_L210_109
          dsimp only
          refine go_iload X dX12_keepsNodes_210 4 rfl ?_
          refine go_aload_n X dX12_keepsNodes_212 rfl 0 rfl ?_
          refine go_geti (i := 44) X fc12 dX12_keepsNodes_213 trn0 tr0 (Nat.le_of_ble_eq_true rfl) rfl lw1075 rfl (fun v103 hv103 => ?_)
          refine go_icmp_ge (tgt := 239) X dX12_keepsNodes_216 rfl hv100 hv103 (fun c104 => ?_) (fun c104 => ?_)
          · refine go_sub [0, 1, 2, 3] rfl ?_
            exact hJ239_9 v97 v98 v99 M101 hv97 hv98 hv99
          · refine go_lload X dX12_keepsNodes_219 3 rfl ?_
            refine go_lconst (v := 1) X dX12_keepsNodes_221 rfl ?_
            refine go_aload_n X dX12_keepsNodes_222 rfl 0 rfl ?_
            refine go_getc (i := 49) X fc12 dX12_keepsNodes_223 trn0 tr0 (Nat.le_of_ble_eq_true rfl) rfl lw907 rfl ?_
            refine go_iload X dX12_keepsNodes_226 4 rfl ?_
            refine go_iaload X dX12_keepsNodes_228 trn41 tr41 hv100 (fun v105 hv105 => ?_)
            refine go_lshl X dX12_keepsNodes_229 (by decide) hv105 (fun v106 hv106 => ?_)
            refine go_lor X dX12_keepsNodes_230 hv99 hv106 (fun v107 hv107 => ?_)
            refine go_lstore (i := 4) (L' := [(4, .long (Ll v107)), (0, .ref (base + 0)), (1, .long (Ll v97)), (3, .int (Ii v98)), (6, .int (Ii v100))]) X dX12_keepsNodes_231 (by decide) rfl ?_
            refine go_iinc (i := 6) (L' := fun v => [(6, .int (Ii v)), (4, .long (Ll v107)), (0, .ref (base + 0)), (1, .long (Ll v97)), (3, .int (Ii v98))]) X dX12_keepsNodes_233 hv100 kI_1 (j := 4) rfl (by decide) (fun _ => rfl) (fun v108 hv108 => ?_)
            refine go_goto (tgt := 210) X dX12_keepsNodes_236 rfl ?_
            refine go_sub [2, 3, 4, 1, 0] rfl ?_
            exact hrc210_102 v97 v98 v107 v108 M101 hv97 hv98 hv107 hv108
          )
          FU v1 v2 0 0 M3 hv1 hv2 (by decide) kI_0
      )
      (fun J204_4 hJ204_4 => ?_)
  refine go_sub [3, 2, 1, 0] rfl ?_
  exact go_lp (fun (rc : Int × Int × Int × Mm → Rs) => ∀ (v110 : Int) (v111 : Int) (v112 : Int) (M113 : Mm), i64 v110 → i32 v111 → i32 v112 → Go p l e (rmO 1 27) s m args below meth c D TR 67 base 11 0 0 (FinI D TR 67 base below args s i32) M113 7 [(0, .ref (base + 0)), (1, .long (Ll v110)), (3, .int (Ii v111)), (4, .int (Ii v112))] [] (rc (v110, v111, v112, M113)))
      (by intro v110 v111 v112 M113 hv110 hv111 hv112; exact go_none)
      (by
      intro rc7_114 hrc7_114 v110 v111 v112 M113 hv110 hv111 hv112
      unfold f_X12_keepsNodes_L7_176
      dsimp only
      refine go_iload X dX12_keepsNodes_7 3 rfl ?_
      refine go_aload_n X dX12_keepsNodes_9 rfl 0 rfl ?_
      refine go_geti (i := 35) X fc12 dX12_keepsNodes_10 trn0 tr0 (Nat.le_of_ble_eq_true rfl) rfl lw948 rfl (fun v115 hv115 => ?_)
      refine go_icmp_ge (tgt := 204) X dX12_keepsNodes_13 rfl hv112 hv115 (fun c116 => ?_) (fun c116 => ?_)
      · refine go_sub [0, 1, 2] rfl ?_
        exact hJ204_4 v110 v111 M113 hv110 hv111
      · refine go_aload_n X dX12_keepsNodes_16 rfl 0 rfl ?_
        refine go_getc (i := 39) X fc12 dX12_keepsNodes_17 trn0 tr0 (Nat.le_of_ble_eq_true rfl) rfl lw898 rfl ?_
        refine go_iload X dX12_keepsNodes_20 3 rfl ?_
        refine go_iaload X dX12_keepsNodes_22 trn32 tr32 hv112 (fun v117 hv117 => ?_)
        refine go_istore (i := 5) (L' := [(5, .int (Ii v117)), (0, .ref (base + 0)), (1, .long (Ll v110)), (3, .int (Ii v111)), (4, .int (Ii v112))]) X dX12_keepsNodes_23 (by decide) rfl ?_
        refine go_iload X dX12_keepsNodes_25 0 rfl ?_
        refine go_iconst (v := (-1)) X dX12_keepsNodes_27 rfl ?_
        refine go_lt (fun J => ∀ (v118 : Int) (v119 : Int) (v120 : Int) (v121 : Int) (M122 : Mm), i64 v118 → i32 v119 → i32 v120 → i32 v121 → Go p l e (rmO 1 27) s m args below meth c D TR 67 base 11 0 0 (FinI D TR 67 base below args s i32) M122 83 [(0, .ref (base + 0)), (1, .long (Ll v118)), (3, .int (Ii v119)), (4, .int (Ii v120))] [.int (Ii v121)] (J v118 v119 v120 v121 M122)) (by
            intro v118 v119 v120 v121 M122 hv118 hv119 hv120 hv121
            refine go_istore (i := 6) (L' := [(6, .int (Ii v121)), (0, .ref (base + 0)), (1, .long (Ll v118)), (3, .int (Ii v119)), (4, .int (Ii v120))]) X dX12_keepsNodes_83 (by decide) rfl ?_
            refine go_iload X dX12_keepsNodes_85 0 rfl ?_
            refine go_iconst (v := (-1)) X dX12_keepsNodes_87 rfl ?_
            refine go_lt (fun J => ∀ (v124 : Int) (v125 : Int) (v126 : Int) (v127 : Int) (M128 : Mm), i64 v124 → i32 v125 → i32 v126 → bo v127 → Go p l e (rmO 1 27) s m args below meth c D TR 67 base 11 0 0 (FinI D TR 67 base below args s i32) M128 130 [(0, .ref (base + 0)), (1, .long (Ll v124)), (3, .int (Ii v125)), (4, .int (Ii v126)), (6, .int (Ii v121))] [.int (Ii v127)] (J v124 v125 v126 v127 M128)) (by
                intro v124 v125 v126 v127 M128 hv124 hv125 hv126 hv127
                refine go_istore (i := 7) (L' := [(7, .int (Ii v127)), (0, .ref (base + 0)), (1, .long (Ll v124)), (3, .int (Ii v125)), (4, .int (Ii v126)), (6, .int (Ii v121))]) X dX12_keepsNodes_130 (by decide) rfl ?_
                refine go_aload_n X dX12_keepsNodes_132 rfl 1 rfl ?_
                refine go_getc (i := 50) X fc12 dX12_keepsNodes_133 trn0 tr0 (Nat.le_of_ble_eq_true rfl) rfl lw908 rfl ?_
                refine go_iload X dX12_keepsNodes_136 4 rfl ?_
                refine go_iload X dX12_keepsNodes_138 0 rfl ?_
                refine go_lt (fun J => ∀ (v130 : Int) (v131 : Int) (v132 : Int) (v133 : Int) (v134 : Int) (M135 : Mm), i64 v130 → i32 v131 → i32 v132 → i32 v133 → i32 v134 → Go p l e (rmO 1 27) s m args below meth c D TR 67 base 11 0 0 (FinI D TR 67 base below args s i32) M135 149 [(0, .ref (base + 0)), (1, .long (Ll v130)), (3, .int (Ii v131)), (4, .int (Ii v132)), (6, .int (Ii v121)), (7, .int (Ii v127))] [.int (Ii v134), .int (Ii v133), .ref (base + 42)] (J v130 v131 v132 v133 v134 M135)) (by
                    intro v130 v131 v132 v133 v134 M135 hv130 hv131 hv132 hv133 hv134
                    refine go_iastore X dX12_keepsNodes_149 trn42 tr42 hv133 hv134 (fun M137 => ?_)
                    refine go_iload X dX12_keepsNodes_150 5 rfl ?_
                    refine go_lt (fun J => ∀ (v138 : Int) (v139 : Int) (v140 : Int) (M141 : Mm), i64 v138 → i32 v139 → i32 v140 → Go p l e (rmO 1 27) s m args below meth c D TR 67 base 11 0 0 (FinI D TR 67 base below args s i32) M141 198 [(0, .ref (base + 0)), (1, .long (Ll v138)), (3, .int (Ii v139)), (4, .int (Ii v140))] [] (J v138 v139 v140 M141)) (by
                        intro v138 v139 v140 M141 hv138 hv139 hv140
                        refine go_iinc (i := 4) (L' := fun v => [(4, .int (Ii v)), (0, .ref (base + 0)), (1, .long (Ll v138)), (3, .int (Ii v139))]) X dX12_keepsNodes_198 hv140 kI_1 (j := 3) rfl (by decide) (fun _ => rfl) (fun v143 hv143 => ?_)
                        refine go_goto (tgt := 7) X dX12_keepsNodes_201 rfl ?_
                        refine go_sub [1, 2, 3, 0] rfl ?_
                        exact hrc7_114 v138 v139 v143 M141 hv138 hv139 hv143
                        )
                        (fun J198_142 hJ198_142 => ?_)
                    refine go_if_eq (tgt := 198) X dX12_keepsNodes_152 rfl (bo_i32 hv127) (fun c144 => ?_) (fun c144 => ?_)
                    · refine go_sub [0, 1, 2, 3] rfl ?_
                      exact hJ198_142 v130 v131 v132 M137 hv130 hv131 hv132
                    · refine go_aload_n X dX12_keepsNodes_155 rfl 0 rfl ?_
                      refine go_getc (i := 38) X fc12 dX12_keepsNodes_156 trn0 tr0 (Nat.le_of_ble_eq_true rfl) rfl lw897 rfl ?_
                      refine go_iload X dX12_keepsNodes_159 3 rfl ?_
                      refine go_aload_n X dX12_keepsNodes_161 rfl 0 rfl ?_
                      refine go_getc (i := 46) X fc12 dX12_keepsNodes_162 trn0 tr0 (Nat.le_of_ble_eq_true rfl) rfl lw904 rfl ?_
                      refine go_iload X dX12_keepsNodes_165 4 rfl ?_
                      refine go_iaload X dX12_keepsNodes_167 trn38 tr38 hv121 (fun v145 hv145 => ?_)
                      refine go_iastore X dX12_keepsNodes_168 trn31 tr31 hv132 hv145 (fun M146 => ?_)
                      refine go_aload_n X dX12_keepsNodes_169 rfl 0 rfl ?_
                      refine go_getc (i := 43) X fc12 dX12_keepsNodes_170 trn0 tr0 (Nat.le_of_ble_eq_true rfl) rfl lw902 rfl ?_
                      refine go_iload X dX12_keepsNodes_173 3 rfl ?_
                      refine go_aload_n X dX12_keepsNodes_175 rfl 0 rfl ?_
                      refine go_getc (i := 49) X fc12 dX12_keepsNodes_176 trn0 tr0 (Nat.le_of_ble_eq_true rfl) rfl lw907 rfl ?_
                      refine go_iload X dX12_keepsNodes_179 4 rfl ?_
                      refine go_iaload X dX12_keepsNodes_181 trn41 tr41 hv121 (fun v147 hv147 => ?_)
                      refine go_iastore X dX12_keepsNodes_182 trn36 tr36 hv132 hv147 (fun M148 => ?_)
                      refine go_lload_n X dX12_keepsNodes_183 rfl 1 rfl ?_
                      refine go_lconst (v := 1) X dX12_keepsNodes_184 rfl ?_
                      refine go_aload_n X dX12_keepsNodes_185 rfl 0 rfl ?_
                      refine go_getc (i := 43) X fc12 dX12_keepsNodes_186 trn0 tr0 (Nat.le_of_ble_eq_true rfl) rfl lw902 rfl ?_
                      refine go_iload X dX12_keepsNodes_189 3 rfl ?_
                      refine go_iaload X dX12_keepsNodes_191 trn36 tr36 hv132 (fun v149 hv149 => ?_)
                      refine go_lshl X dX12_keepsNodes_192 (by decide) hv149 (fun v150 hv150 => ?_)
                      refine go_lor X dX12_keepsNodes_193 hv130 hv150 (fun v151 hv151 => ?_)
                      refine go_lstore_n (i := 1) (L' := [(1, .long (Ll v151)), (0, .ref (base + 0)), (3, .int (Ii v131)), (4, .int (Ii v132)), (6, .int (Ii v121)), (7, .int (Ii v127))]) X dX12_keepsNodes_194 rfl (by decide) rfl ?_
                      refine go_iinc (i := 3) (L' := fun v => [(3, .int (Ii v)), (1, .long (Ll v151)), (0, .ref (base + 0)), (4, .int (Ii v132)), (6, .int (Ii v121)), (7, .int (Ii v127))]) X dX12_keepsNodes_195 hv131 kI_1 (j := 2) rfl (by decide) (fun _ => rfl) (fun v152 hv152 => ?_)
                      refine go_sub [2, 1, 0, 3] rfl ?_
                      exact hJ198_142 v151 v152 v132 M148 hv151 hv152 hv132
                    )
                    (fun J149_136 hJ149_136 => ?_)
                refine go_if_eq (tgt := 148) X dX12_keepsNodes_140 rfl (bo_i32 hv127) (fun c153 => ?_) (fun c153 => ?_)
                · refine go_iconst (v := (-1)) X dX12_keepsNodes_148 rfl ?_
                  refine go_sub [1, 2, 3, 4, 5, 0] rfl ?_
                  exact hJ149_136 v124 v125 v126 v126 ((-1)) M128 hv124 hv125 hv126 hv126 kI_m1
                · refine go_iload X dX12_keepsNodes_143 5 rfl ?_
                  refine go_goto (tgt := 149) X dX12_keepsNodes_145 rfl ?_
                  refine go_sub [1, 2, 3, 4, 5, 0] rfl ?_
                  exact hJ149_136 v124 v125 v126 v126 v121 M128 hv124 hv125 hv126 hv126 hv121
                )
                (fun J130_129 hJ130_129 => ?_)
            refine go_lt (fun J => ∀ (v154 : Int) (v155 : Int) (v156 : Int) (M157 : Mm), i64 v154 → i32 v155 → i32 v156 → Go p l e (rmO 1 27) s m args below meth c D TR 67 base 11 0 0 (FinI D TR 67 base below args s i32) M157 129 [(0, .ref (base + 0)), (1, .long (Ll v154)), (3, .int (Ii v155)), (4, .int (Ii v156)), (6, .int (Ii v121))] [] (J v154 v155 v156 M157)) (by
                intro v154 v155 v156 M157 hv154 hv155 hv156
                refine go_iconst (v := 0) X dX12_keepsNodes_129 rfl ?_
                exact hJ130_129 v154 v155 v156 0 M157 hv154 hv155 hv156 (Or.inl rfl)
                )
                (fun J129_158 hJ129_158 => ?_)
            refine go_icmp_eq (tgt := 129) X dX12_keepsNodes_88 rfl hv121 kI_m1 (fun c159 => ?_) (fun c159 => ?_)
            · refine go_sub [1, 2, 3, 4, 0] rfl ?_
              exact hJ129_158 v118 v119 v120 M122 hv118 hv119 hv120
            · refine go_aload_n X dX12_keepsNodes_91 rfl 1 rfl ?_
              refine go_getc (i := 45) X fc12 dX12_keepsNodes_92 trn0 tr0 (Nat.le_of_ble_eq_true rfl) rfl lw903 rfl ?_
              refine go_iload X dX12_keepsNodes_95 0 rfl ?_
              refine go_iaload X dX12_keepsNodes_97 trn37 tr37 hv121 (fun v160 hv160 => ?_)
              refine go_aload_n X dX12_keepsNodes_98 rfl 1 rfl ?_
              refine go_getc (i := 37) X fc12 dX12_keepsNodes_99 trn0 tr0 (Nat.le_of_ble_eq_true rfl) rfl lw896 rfl ?_
              refine go_iload X dX12_keepsNodes_102 4 rfl ?_
              refine go_iaload X dX12_keepsNodes_104 trn30 tr30 hv120 (fun v161 hv161 => ?_)
              refine go_icmp_ne (tgt := 129) X dX12_keepsNodes_105 rfl hv160 hv161 (fun c162 => ?_) (fun c162 => ?_)
              · refine go_sub [1, 2, 3, 4, 0] rfl ?_
                exact hJ129_158 v118 v119 v120 M122 hv118 hv119 hv120
              · refine go_aload_n X dX12_keepsNodes_108 rfl 1 rfl ?_
                refine go_getc (i := 48) X fc12 dX12_keepsNodes_109 trn0 tr0 (Nat.le_of_ble_eq_true rfl) rfl lw906 rfl ?_
                refine go_iload X dX12_keepsNodes_112 0 rfl ?_
                refine go_iaload X dX12_keepsNodes_114 trn40 tr40 hv121 (fun v163 hv163 => ?_)
                refine go_aload_n X dX12_keepsNodes_115 rfl 1 rfl ?_
                refine go_getc (i := 42) X fc12 dX12_keepsNodes_116 trn0 tr0 (Nat.le_of_ble_eq_true rfl) rfl lw901 rfl ?_
                refine go_iload X dX12_keepsNodes_119 4 rfl ?_
                refine go_iaload X dX12_keepsNodes_121 trn35 tr35 hv120 (fun v164 hv164 => ?_)
                refine go_icmp_ne (tgt := 129) X dX12_keepsNodes_122 rfl hv163 hv164 (fun c165 => ?_) (fun c165 => ?_)
                · refine go_sub [1, 2, 3, 4, 0] rfl ?_
                  exact hJ129_158 v118 v119 v120 M122 hv118 hv119 hv120
                · refine go_iconst (v := 1) X dX12_keepsNodes_125 rfl ?_
                  refine go_goto (tgt := 130) X dX12_keepsNodes_126 rfl ?_
                  refine go_sub [1, 2, 3, 4, 0] rfl ?_
                  exact hJ130_129 v118 v119 v120 1 M122 hv118 hv119 hv120 (Or.inr rfl)
            )
            (fun J83_123 hJ83_123 => ?_)
        refine go_icmp_ne (tgt := 46) X dX12_keepsNodes_28 rfl hv117 kI_m1 (fun c166 => ?_) (fun c166 => ?_)
        · refine go_aload_n X dX12_keepsNodes_46 rfl 1 rfl ?_
          refine go_getc (i := 50) X fc12 dX12_keepsNodes_47 trn0 tr0 (Nat.le_of_ble_eq_true rfl) rfl lw908 rfl ?_
          refine go_iload X dX12_keepsNodes_50 0 rfl ?_
          refine go_iaload X dX12_keepsNodes_52 trn42 tr42 hv117 (fun v167 hv167 => ?_)
          refine go_iconst (v := (-1)) X dX12_keepsNodes_53 rfl ?_
          refine go_icmp_ne (tgt := 61) X dX12_keepsNodes_54 rfl hv167 kI_m1 (fun c168 => ?_) (fun c168 => ?_)
          · refine go_aload_n X dX12_keepsNodes_61 rfl 1 rfl ?_
            refine go_getc (i := 47) X fc12 dX12_keepsNodes_62 trn0 tr0 (Nat.le_of_ble_eq_true rfl) rfl lw905 rfl ?_
            refine go_iconst (v := 3) X dX12_keepsNodes_65 rfl ?_
            refine go_aload_n X dX12_keepsNodes_66 rfl 1 rfl ?_
            refine go_getc (i := 50) X fc12 dX12_keepsNodes_67 trn0 tr0 (Nat.le_of_ble_eq_true rfl) rfl lw908 rfl ?_
            refine go_iload X dX12_keepsNodes_70 0 rfl ?_
            refine go_iaload X dX12_keepsNodes_72 trn42 tr42 hv117 (fun v169 hv169 => ?_)
            refine go_imul X dX12_keepsNodes_73 kI_3 hv169 (fun v170 hv170 => ?_)
            refine go_aload_n X dX12_keepsNodes_74 rfl 1 rfl ?_
            refine go_getc (i := 40) X fc12 dX12_keepsNodes_75 trn0 tr0 (Nat.le_of_ble_eq_true rfl) rfl lw899 rfl ?_
            refine go_iload X dX12_keepsNodes_78 4 rfl ?_
            refine go_iaload X dX12_keepsNodes_80 trn33 tr33 hv112 (fun v171 hv171 => ?_)
            refine go_iadd X dX12_keepsNodes_81 hv170 hv171 (fun v172 hv172 => ?_)
            refine go_iaload X dX12_keepsNodes_82 trn39 tr39 hv172 (fun v173 hv173 => ?_)
            refine go_sub [1, 2, 3, 4] rfl ?_
            exact hJ83_123 v110 v111 v112 v173 M113 hv110 hv111 hv112 hv173
          · refine go_iconst (v := (-1)) X dX12_keepsNodes_57 rfl ?_
            refine go_goto (tgt := 83) X dX12_keepsNodes_58 rfl ?_
            refine go_sub [1, 2, 3, 4] rfl ?_
            exact hJ83_123 v110 v111 v112 ((-1)) M113 hv110 hv111 hv112 kI_m1
        · refine go_aload_n X dX12_keepsNodes_31 rfl 1 rfl ?_
          refine go_geti (i := 44) X fc12 dX12_keepsNodes_32 trn0 tr0 (Nat.le_of_ble_eq_true rfl) rfl lw1075 rfl (fun v174 hv174 => ?_)
          refine go_if_le (tgt := 42) X dX12_keepsNodes_35 rfl hv174 (fun c175 => ?_) (fun c175 => ?_)
          · refine go_iconst (v := (-1)) X dX12_keepsNodes_42 rfl ?_
            refine go_goto (tgt := 83) X dX12_keepsNodes_43 rfl ?_
            refine go_sub [1, 2, 3, 4] rfl ?_
            exact hJ83_123 v110 v111 v112 ((-1)) M113 hv110 hv111 hv112 kI_m1
          · refine go_iconst (v := 0) X dX12_keepsNodes_38 rfl ?_
            refine go_goto (tgt := 83) X dX12_keepsNodes_39 rfl ?_
            refine go_sub [1, 2, 3, 4] rfl ?_
            exact hJ83_123 v110 v111 v112 0 M113 hv110 hv111 hv112 kI_0
      )
      FU 0 0 0 M (by decide) kI_0 kI_0
def f_X12_reads_L68_60 (J99_46 : Int → Mm → Rs) (rc68_51 : Int × Int × Mm → Rs) : Int × Int × Mm → Rs := fun (v48, v49, M50) =>
if 3 ≤ v49 then (
J99_46 v48 M50) else (
Lt (wr (3 * v48)) fun v53 =>
Lt (wr (v53 + v49)) fun v54 =>
Lt (wr (3 * v48)) fun v55 =>
Lt (wr (v55 + v49)) fun v56 =>
gd (0 ≤ v56 ∧ v56 < 90) <|
Lt (M50 34 v56.toNat) fun v57 =>
gd (0 ≤ v54 ∧ v54 < 90) <|
Lt (up M50 39 v54.toNat v57) fun M58 =>
Lt (wr (v49 + 1)) fun v59 =>
rc68_51 (v48, v59, M58))
def f_X12_reads_L10_61 (J105_4 : Mm → Rs) (rc10_33 : Int × Mm → Rs) : Int × Mm → Rs := fun (v31, M32) =>
Lt (M32 0 35) fun v34 =>
if v34 ≤ v31 then (
J105_4 M32) else (
gd (0 ≤ v31 ∧ v31 < 30) <|
Lt (M32 30 v31.toNat) fun v36 =>
gd (0 ≤ v31 ∧ v31 < 30) <|
Lt (up M32 37 v31.toNat v36) fun M37 =>
gd (0 ≤ v31 ∧ v31 < 30) <|
Lt (M37 31 v31.toNat) fun v38 =>
gd (0 ≤ v31 ∧ v31 < 30) <|
Lt (up M37 38 v31.toNat v38) fun M39 =>
gd (0 ≤ v31 ∧ v31 < 30) <|
Lt (M39 35 v31.toNat) fun v40 =>
gd (0 ≤ v31 ∧ v31 < 30) <|
Lt (up M39 40 v31.toNat v40) fun M41 =>
gd (0 ≤ v31 ∧ v31 < 30) <|
Lt (M41 36 v31.toNat) fun v42 =>
gd (0 ≤ v31 ∧ v31 < 30) <|
Lt (up M41 41 v31.toNat v42) fun M43 =>
Lt (fun (v44 : Int) (M45 : Mm) => 
Lt (wr (v44 + 1)) fun v47 =>
rc10_33 (v47, M45)) fun J99_46 =>
Lp (f_X12_reads_L68_60 J99_46) FU (v31, 0, M43))
def f_X12_reads (M : Mm) : Rs :=
Lt (M 0 35) fun v1 =>
Lt (up M 0 44 v1) fun M2 =>
Lt (fun (M3 : Mm) => 
Cl (f_X12_findsBest M3) fun _ M5 =>
Lt (M5 0 33) fun v6 =>
Cl (f_X12_stretch 0 0 v6 M5) fun v8 M7 =>
gd (0 ≤ v8 ∧ v8 < 676) <|
Lt (M7 43 v8.toNat) fun v9 =>
Lt (fun (v10 : Int) (M11 : Mm) => 
Lt (up M11 0 35 0) fun M13 =>
Lt (fun (v14 : Int) (M15 : Mm) => 
Lt (up M15 0 36 v14) fun M17 =>
Lt (fun (M18 : Mm) => 
Cl (f_X12_keepsNodes M18) fun v21 M20 =>
some (v21, M20)) fun J179_19 =>
if v10 = 0 then (
J179_19 M17) else (
Cl (f_X12_makes M17) fun _ M23 =>
J179_19 M23)) fun J168_16 =>
if v10 = 0 then (
J168_16 ((-1)) M13) else (
gd (0 ≤ v8 ∧ v8 < 676) <|
Lt (M13 43 v8.toNat) fun v25 =>
J168_16 v25 M13)) fun J147_12 =>
Lt (fun (M26 : Mm) => 
J147_12 0 M26) fun J146_27 =>
if 99999 ≤ v9 then (
J146_27 M7) else (
gd (0 ≤ v8 ∧ v8 < 676) <|
Lt (M7 44 v8.toNat) fun v29 =>
if 30 < v29 then (
J146_27 M7) else (
J147_12 1 M7))) fun J105_4 =>
Lp (f_X12_reads_L10_61 J105_4) FU (0, M2)
theorem cy_X12_reads : yX12_reads.cls ≠ "java/lang/invoke/MethodHandle" ∧ yX12_reads.cls ≠ "java/lang/invoke/VarHandle" ∧ (parseMethodDescriptor yX12_reads.desc).map (fun d => d.parameters.length) = some 0 := ⟨by decide +kernel, by decide +kernel, by decide +kernel⟩
set_option maxRecDepth 20000 in
theorem ok_X12_reads (l : Launch) (D : Dd) (base : Nat) (M : Mm) : OkI l D TR 67 base yX12_reads cX12_reads 3 (some .int) 5 142 [.ref (base + 0)] M i32 (f_X12_reads M) := by
  refine metI (by decide +kernel) [(0, .ref (base + 0))] rfl (Nat.le_of_ble_eq_true rfl) (fun p e s m args below meth c X hrt hlk => ?_)
  have X : Cx p s m args c cX12_reads D 3 RX12 := X
  unfold f_X12_reads
  refine go_aload_n X dX12_reads_0 rfl 0 rfl ?_
  refine go_aload_n X dX12_reads_1 rfl 0 rfl ?_
  refine go_geti (i := 35) X fc12 dX12_reads_2 trn0 tr0 (Nat.le_of_ble_eq_true rfl) rfl lw948 rfl (fun v1 hv1 => ?_)
  refine go_puti (i := 44) X fc12 dX12_reads_5 trn0 tr0 (Nat.le_of_ble_eq_true rfl) rfl lw1075 rfl rfl rfl hv1 (fun M2 => ?_)
  refine go_iconst (v := 0) X dX12_reads_8 rfl ?_
  refine go_istore_n (i := 1) (L' := [(1, .int (Ii 0)), (0, .ref (base + 0))]) X dX12_reads_9 rfl (by decide) rfl ?_
  refine go_lt (fun J => ∀ (M3 : Mm), Go p l e (rmO 5 142) s m args below meth c D TR 67 base 3 0 0 (FinI D TR 67 base below args s i32) M3 105 [(0, .ref (base + 0))] [] (J M3)) (by
      intro M3
      refine go_aload_n X dX12_reads_105 rfl 0 rfl ?_
      refine goV (fun H locs ls r ho hW hL => runV X (ok_X12_findsBest l D base M3  H.size r ho) dX12_reads_106 lw1080 lw1081 lw1082 lw944 ⟨lw1065, cy_X12_findsBest, Nat.le_of_ble_eq_true rfl, Nat.le_of_ble_eq_true rfl⟩ rfl trn0 tr0 rfl rfl rfl rfl (Nat.le_of_ble_eq_true rfl) hW hL hk0) (fun _ M5 => ?_)
      refine go_iconst (v := 0) X dX12_reads_109 rfl ?_
      refine go_iconst (v := 0) X dX12_reads_110 rfl ?_
      refine go_aload_n X dX12_reads_111 rfl 0 rfl ?_
      refine go_geti (i := 33) X fc12 dX12_reads_112 trn0 tr0 (Nat.le_of_ble_eq_true rfl) rfl lw1061 rfl (fun v6 hv6 => ?_)
      refine goI (fun H locs ls r ho hW hL => runS X (ok_X12_stretch l D base M5 0 kI_0 0 kI_0 v6 hv6 H.size r ho) dX12_reads_115 lw1043 lw1044 lw944 ⟨lw1040, cy_X12_stretch, Nat.le_of_ble_eq_true rfl, Nat.le_of_ble_eq_true rfl⟩ rfl rfl (Nat.le_of_ble_eq_true rfl) hW hL hk0) (fun v8 M7 hv8 => ?_)
      refine go_istore_n (i := 1) (L' := [(1, .int (Ii v8)), (0, .ref (base + 0))]) X dX12_reads_118 rfl (by decide) rfl ?_
      refine go_aload_n X dX12_reads_119 rfl 1 rfl ?_
      refine go_getc (i := 51) X fc12 dX12_reads_120 trn0 tr0 (Nat.le_of_ble_eq_true rfl) rfl lw909 rfl ?_
      refine go_iload_n X dX12_reads_123 rfl 0 rfl ?_
      refine go_iaload X dX12_reads_124 trn43 tr43 hv8 (fun v9 hv9 => ?_)
      refine go_ldcw (v := 99999) X dX12_reads_125 lw1002 rfl ?_
      refine go_lt (fun J => ∀ (v10 : Int) (M11 : Mm), bo v10 → Go p l e (rmO 5 142) s m args below meth c D TR 67 base 3 0 0 (FinI D TR 67 base below args s i32) M11 147 [(0, .ref (base + 0)), (1, .int (Ii v8))] [.int (Ii v10)] (J v10 M11)) (by
          intro v10 M11 hv10
          refine go_istore_n (i := 2) (L' := [(2, .int (Ii v10)), (0, .ref (base + 0)), (1, .int (Ii v8))]) X dX12_reads_147 rfl (by decide) rfl ?_
          refine go_aload_n X dX12_reads_148 rfl 1 rfl ?_
          refine go_iconst (v := 0) X dX12_reads_149 rfl ?_
          refine go_puti (i := 35) X fc12 dX12_reads_150 trn0 tr0 (Nat.le_of_ble_eq_true rfl) rfl lw948 rfl rfl rfl kI_0 (fun M13 => ?_)
          refine go_aload_n X dX12_reads_153 rfl 1 rfl ?_
          refine go_iload_n X dX12_reads_154 rfl 0 rfl ?_
          refine go_lt (fun J => ∀ (v14 : Int) (M15 : Mm), i32 v14 → Go p l e (rmO 5 142) s m args below meth c D TR 67 base 3 0 0 (FinI D TR 67 base below args s i32) M15 168 [(0, .ref (base + 0)), (2, .int (Ii v10))] [.int (Ii v14), .ref (base + 0)] (J v14 M15)) (by
              intro v14 M15 hv14
              refine go_puti (i := 36) X fc12 dX12_reads_168 trn0 tr0 (Nat.le_of_ble_eq_true rfl) rfl lw895 rfl rfl rfl hv14 (fun M17 => ?_)
              refine go_iload_n X dX12_reads_171 rfl 1 rfl ?_
              refine go_lt (fun J => ∀ (M18 : Mm), Go p l e (rmO 5 142) s m args below meth c D TR 67 base 3 0 0 (FinI D TR 67 base below args s i32) M18 179 [(0, .ref (base + 0))] [] (J M18)) (by
                  intro M18
                  refine go_aload_n X dX12_reads_179 rfl 0 rfl ?_
                  refine goI (fun H locs ls r ho hW hL => runV X (ok_X12_keepsNodes l D base M18  H.size r ho) dX12_reads_180 lw1086 lw1087 lw1088 lw944 ⟨lw1074, cy_X12_keepsNodes, Nat.le_of_ble_eq_true rfl, Nat.le_of_ble_eq_true rfl⟩ rfl trn0 tr0 rfl rfl rfl rfl (Nat.le_of_ble_eq_true rfl) hW hL hk0) (fun v21 M20 hv21 => ?_)
                  exact go_ireturn X hrt hlk dX12_reads_183 hv21
                  )
                  (fun J179_19 hJ179_19 => ?_)
              refine go_if_eq (tgt := 179) X dX12_reads_172 rfl (bo_i32 hv10) (fun c22 => ?_) (fun c22 => ?_)
              · refine go_sub [0] rfl ?_
                exact hJ179_19 M17
              · refine go_aload_n X dX12_reads_175 rfl 0 rfl ?_
                refine goV (fun H locs ls r ho hW hL => runV X (ok_X12_makes l D base M17  H.size r ho) dX12_reads_176 lw1083 lw1084 lw1085 lw944 ⟨lw1072, cy_X12_makes, Nat.le_of_ble_eq_true rfl, Nat.le_of_ble_eq_true rfl⟩ rfl trn0 tr0 rfl rfl rfl rfl (Nat.le_of_ble_eq_true rfl) hW hL hk0) (fun _ M23 => ?_)
                refine go_sub [0] rfl ?_
                exact hJ179_19 M23
              )
              (fun J168_16 hJ168_16 => ?_)
          refine go_if_eq (tgt := 167) X dX12_reads_155 rfl (bo_i32 hv10) (fun c24 => ?_) (fun c24 => ?_)
          · refine go_iconst (v := (-1)) X dX12_reads_167 rfl ?_
            refine go_sub [1, 0] rfl ?_
            exact hJ168_16 ((-1)) M13 kI_m1
          · refine go_aload_n X dX12_reads_158 rfl 1 rfl ?_
            refine go_getc (i := 51) X fc12 dX12_reads_159 trn0 tr0 (Nat.le_of_ble_eq_true rfl) rfl lw909 rfl ?_
            refine go_iload_n X dX12_reads_162 rfl 2 rfl ?_
            refine go_iaload X dX12_reads_163 trn43 tr43 hv8 (fun v25 hv25 => ?_)
            refine go_goto (tgt := 168) X dX12_reads_164 rfl ?_
            refine go_sub [1, 0] rfl ?_
            exact hJ168_16 v25 M13 hv25
          )
          (fun J147_12 hJ147_12 => ?_)
      refine go_lt (fun J => ∀ (M26 : Mm), Go p l e (rmO 5 142) s m args below meth c D TR 67 base 3 0 0 (FinI D TR 67 base below args s i32) M26 146 [(0, .ref (base + 0)), (1, .int (Ii v8))] [] (J M26)) (by
          intro M26
          refine go_iconst (v := 0) X dX12_reads_146 rfl ?_
          exact hJ147_12 0 M26 (Or.inl rfl)
          )
          (fun J146_27 hJ146_27 => ?_)
      refine go_icmp_ge (tgt := 146) X dX12_reads_128 rfl hv9 kI_99999 (fun c28 => ?_) (fun c28 => ?_)
      · refine go_sub [1, 0] rfl ?_
        exact hJ146_27 M7
      · refine go_aload_n X dX12_reads_131 rfl 1 rfl ?_
        refine go_getc (i := 52) X fc12 dX12_reads_132 trn0 tr0 (Nat.le_of_ble_eq_true rfl) rfl lw910 rfl ?_
        refine go_iload_n X dX12_reads_135 rfl 0 rfl ?_
        refine go_iaload X dX12_reads_136 trn44 tr44 hv8 (fun v29 hv29 => ?_)
        refine go_bipush (v := 30) X dX12_reads_137 (by decide) ?_
        refine go_icmp_gt (tgt := 146) X dX12_reads_139 rfl hv29 kI_30 (fun c30 => ?_) (fun c30 => ?_)
        · refine go_sub [1, 0] rfl ?_
          exact hJ146_27 M7
        · refine go_iconst (v := 1) X dX12_reads_142 rfl ?_
          refine go_goto (tgt := 147) X dX12_reads_143 rfl ?_
          refine go_sub [1, 0] rfl ?_
          exact hJ147_12 1 M7 (Or.inr rfl)
      )
      (fun J105_4 hJ105_4 => ?_)
  refine go_sub [1, 0] rfl ?_
  exact go_lp (fun (rc : Int × Mm → Rs) => ∀ (v31 : Int) (M32 : Mm), i32 v31 → Go p l e (rmO 5 142) s m args below meth c D TR 67 base 3 0 0 (FinI D TR 67 base below args s i32) M32 10 [(0, .ref (base + 0)), (1, .int (Ii v31))] [] (rc (v31, M32)))
      (by intro v31 M32 hv31; exact go_none)
      (by
      intro rc10_33 hrc10_33 v31 M32 hv31
      unfold f_X12_reads_L10_61
      dsimp only
      refine go_iload_n X dX12_reads_10 rfl 1 rfl ?_
      refine go_aload_n X dX12_reads_11 rfl 0 rfl ?_
      refine go_geti (i := 35) X fc12 dX12_reads_12 trn0 tr0 (Nat.le_of_ble_eq_true rfl) rfl lw948 rfl (fun v34 hv34 => ?_)
      refine go_icmp_ge (tgt := 105) X dX12_reads_15 rfl hv31 hv34 (fun c35 => ?_) (fun c35 => ?_)
      · refine go_sub [0] rfl ?_
        exact hJ105_4 M32
      · refine go_aload_n X dX12_reads_18 rfl 0 rfl ?_
        refine go_getc (i := 45) X fc12 dX12_reads_19 trn0 tr0 (Nat.le_of_ble_eq_true rfl) rfl lw903 rfl ?_
        refine go_iload_n X dX12_reads_22 rfl 1 rfl ?_
        refine go_aload_n X dX12_reads_23 rfl 0 rfl ?_
        refine go_getc (i := 37) X fc12 dX12_reads_24 trn0 tr0 (Nat.le_of_ble_eq_true rfl) rfl lw896 rfl ?_
        refine go_iload_n X dX12_reads_27 rfl 1 rfl ?_
        refine go_iaload X dX12_reads_28 trn30 tr30 hv31 (fun v36 hv36 => ?_)
        refine go_iastore X dX12_reads_29 trn37 tr37 hv31 hv36 (fun M37 => ?_)
        refine go_aload_n X dX12_reads_30 rfl 0 rfl ?_
        refine go_getc (i := 46) X fc12 dX12_reads_31 trn0 tr0 (Nat.le_of_ble_eq_true rfl) rfl lw904 rfl ?_
        refine go_iload_n X dX12_reads_34 rfl 1 rfl ?_
        refine go_aload_n X dX12_reads_35 rfl 0 rfl ?_
        refine go_getc (i := 38) X fc12 dX12_reads_36 trn0 tr0 (Nat.le_of_ble_eq_true rfl) rfl lw897 rfl ?_
        refine go_iload_n X dX12_reads_39 rfl 1 rfl ?_
        refine go_iaload X dX12_reads_40 trn31 tr31 hv31 (fun v38 hv38 => ?_)
        refine go_iastore X dX12_reads_41 trn38 tr38 hv31 hv38 (fun M39 => ?_)
        refine go_aload_n X dX12_reads_42 rfl 0 rfl ?_
        refine go_getc (i := 48) X fc12 dX12_reads_43 trn0 tr0 (Nat.le_of_ble_eq_true rfl) rfl lw906 rfl ?_
        refine go_iload_n X dX12_reads_46 rfl 1 rfl ?_
        refine go_aload_n X dX12_reads_47 rfl 0 rfl ?_
        refine go_getc (i := 42) X fc12 dX12_reads_48 trn0 tr0 (Nat.le_of_ble_eq_true rfl) rfl lw901 rfl ?_
        refine go_iload_n X dX12_reads_51 rfl 1 rfl ?_
        refine go_iaload X dX12_reads_52 trn35 tr35 hv31 (fun v40 hv40 => ?_)
        refine go_iastore X dX12_reads_53 trn40 tr40 hv31 hv40 (fun M41 => ?_)
        refine go_aload_n X dX12_reads_54 rfl 0 rfl ?_
        refine go_getc (i := 49) X fc12 dX12_reads_55 trn0 tr0 (Nat.le_of_ble_eq_true rfl) rfl lw907 rfl ?_
        refine go_iload_n X dX12_reads_58 rfl 1 rfl ?_
        refine go_aload_n X dX12_reads_59 rfl 0 rfl ?_
        refine go_getc (i := 43) X fc12 dX12_reads_60 trn0 tr0 (Nat.le_of_ble_eq_true rfl) rfl lw902 rfl ?_
        refine go_iload_n X dX12_reads_63 rfl 1 rfl ?_
        refine go_iaload X dX12_reads_64 trn36 tr36 hv31 (fun v42 hv42 => ?_)
        refine go_iastore X dX12_reads_65 trn41 tr41 hv31 hv42 (fun M43 => ?_)
        refine go_iconst (v := 0) X dX12_reads_66 rfl ?_
        refine go_istore_n (i := 2) (L' := [(2, .int (Ii 0)), (0, .ref (base + 0)), (1, .int (Ii v31))]) X dX12_reads_67 rfl (by decide) rfl ?_
        refine go_lt (fun J => ∀ (v44 : Int) (M45 : Mm), i32 v44 → Go p l e (rmO 5 142) s m args below meth c D TR 67 base 3 0 0 (FinI D TR 67 base below args s i32) M45 99 [(0, .ref (base + 0)), (1, .int (Ii v44))] [] (J v44 M45)) (by
            intro v44 M45 hv44
            refine go_iinc (i := 1) (L' := fun v => [(1, .int (Ii v)), (0, .ref (base + 0))]) X dX12_reads_99 hv44 kI_1 (j := 1) rfl (by decide) (fun _ => rfl) (fun v47 hv47 => ?_)
            refine go_goto (tgt := 10) X dX12_reads_102 rfl ?_
            refine go_sub [1, 0] rfl ?_
            exact hrc10_33 v47 M45 hv47
            )
            (fun J99_46 hJ99_46 => ?_)
        refine go_sub [1, 2, 0] rfl ?_
        exact go_lp (fun (rc : Int × Int × Mm → Rs) => ∀ (v48 : Int) (v49 : Int) (M50 : Mm), i32 v48 → i32 v49 → Go p l e (rmO 5 142) s m args below meth c D TR 67 base 3 0 0 (FinI D TR 67 base below args s i32) M50 68 [(0, .ref (base + 0)), (1, .int (Ii v48)), (2, .int (Ii v49))] [] (rc (v48, v49, M50)))
            (by intro v48 v49 M50 hv48 hv49; exact go_none)
            (by
            intro rc68_51 hrc68_51 v48 v49 M50 hv48 hv49
            unfold f_X12_reads_L68_60
            dsimp only
            refine go_iload_n X dX12_reads_68 rfl 2 rfl ?_
            refine go_iconst (v := 3) X dX12_reads_69 rfl ?_
            refine go_icmp_ge (tgt := 99) X dX12_reads_70 rfl hv49 kI_3 (fun c52 => ?_) (fun c52 => ?_)
            · refine go_sub [0, 1] rfl ?_
              exact hJ99_46 v48 M50 hv48
            · refine go_aload_n X dX12_reads_73 rfl 0 rfl ?_
              refine go_getc (i := 47) X fc12 dX12_reads_74 trn0 tr0 (Nat.le_of_ble_eq_true rfl) rfl lw905 rfl ?_
              refine go_iconst (v := 3) X dX12_reads_77 rfl ?_
              refine go_iload_n X dX12_reads_78 rfl 1 rfl ?_
              refine go_imul X dX12_reads_79 kI_3 hv48 (fun v53 hv53 => ?_)
              refine go_iload_n X dX12_reads_80 rfl 2 rfl ?_
              refine go_iadd X dX12_reads_81 hv53 hv49 (fun v54 hv54 => ?_)
              refine go_aload_n X dX12_reads_82 rfl 0 rfl ?_
              refine go_getc (i := 41) X fc12 dX12_reads_83 trn0 tr0 (Nat.le_of_ble_eq_true rfl) rfl lw900 rfl ?_
              refine go_iconst (v := 3) X dX12_reads_86 rfl ?_
              refine go_iload_n X dX12_reads_87 rfl 1 rfl ?_
              refine go_imul X dX12_reads_88 kI_3 hv48 (fun v55 hv55 => ?_)
              refine go_iload_n X dX12_reads_89 rfl 2 rfl ?_
              refine go_iadd X dX12_reads_90 hv55 hv49 (fun v56 hv56 => ?_)
              refine go_iaload X dX12_reads_91 trn34 tr34 hv56 (fun v57 hv57 => ?_)
              refine go_iastore X dX12_reads_92 trn39 tr39 hv54 hv57 (fun M58 => ?_)
              refine go_iinc (i := 2) (L' := fun v => [(2, .int (Ii v)), (0, .ref (base + 0)), (1, .int (Ii v48))]) X dX12_reads_93 hv49 kI_1 (j := 2) rfl (by decide) (fun _ => rfl) (fun v59 hv59 => ?_)
              refine go_goto (tgt := 68) X dX12_reads_96 rfl ?_
              refine go_sub [1, 2, 0] rfl ?_
              exact hrc68_51 v48 v59 M58 hv48 hv59
            )
            FU v31 0 M43 hv31 kI_0
      )
      FU 0 M2 kI_0
def f_X12_insert_L69_27 (a1 : Int) (J97_12 : Mm → Rs) (rc69_21 : Int × Mm → Rs) : Int × Mm → Rs := fun (v19, M20) =>
if v19 ≤ a1 then (
J97_12 M20) else (
Lt (wr (v19 - 1)) fun v23 =>
gd (0 ≤ v23 ∧ v23 < 12) <|
Lt (M20 29 v23.toNat) fun v24 =>
gd (0 ≤ v19 ∧ v19 < 12) <|
Lt (up M20 29 v19.toNat v24) fun M25 =>
Lt (wr (v19 + (-1))) fun v26 =>
rc69_21 (v26, M25))
def f_X12_insert (a1 : Int) (a2 : Int) (M : Mm) : Rs :=
Lt (M 0 33) fun v1 =>
Cl (f_X12_isIn a1 0 v1 M) fun v3 M2 =>
Lt (fun (v4 : Int) (M5 : Mm) => 
Cl (f_X12_fails v4 M5) fun v8 M7 =>
if v8 = 0 then (
Lt (M7 0 33) fun v10 =>
Lt (fun (M11 : Mm) => 
gd (0 ≤ a1 ∧ a1 < 12) <|
Lt (up M11 29 a1.toNat a2) fun M13 =>
Lt (M13 0 33) fun v14 =>
Lt (wr (v14 + 1)) fun v15 =>
Lt (up M13 0 33 v15) fun M16 =>
Cl (f_X12_reads M16) fun v18 M17 =>
some (v18, M17)) fun J97_12 =>
Lp (f_X12_insert_L69_27 a1 J97_12) FU (v10, M7)) else (
some (0, M7))) fun J55_6 =>
if ¬ v3 = 0 then (
Cl (f_X12_isIn a2 97 102 M2) fun v30 M29 =>
if ¬ v30 = 0 then (
Lt (M29 0 33) fun v32 =>
Lt (fun (M33 : Mm) => 
J55_6 3 M33) fun J50_34 =>
if v32 = 12 then (
J50_34 M29) else (
Lt (M29 0 0) fun v36 =>
if ¬ v36 = 0 then (
J55_6 0 M29) else (
J50_34 M29))) else (
J55_6 2 M29)) else (
J55_6 1 M2)
theorem cy_X12_insert : yX12_insert.cls ≠ "java/lang/invoke/MethodHandle" ∧ yX12_insert.cls ≠ "java/lang/invoke/VarHandle" ∧ (parseMethodDescriptor yX12_insert.desc).map (fun d => d.parameters.length) = some 2 := ⟨by decide +kernel, by decide +kernel, by decide +kernel⟩
set_option maxRecDepth 20000 in
theorem ok_X12_insert (l : Launch) (D : Dd) (base : Nat) (M : Mm) (a1 : Int) (ha1 : i32 a1) (a2 : Int) (ha2 : i32 a2) : OkI l D TR 67 base yX12_insert cX12_insert 5 (some .int) 6 164 [.ref (base + 0), .int (Ii a1), .int (Ii a2)] M i32 (f_X12_insert a1 a2 M) := by
  refine metI (by decide +kernel) [(0, .ref (base + 0)), (1, .int (Ii a1)), (2, .int (Ii a2))] rfl (Nat.le_of_ble_eq_true rfl) (fun p e s m args below meth c X hrt hlk => ?_)
  have X : Cx p s m args c cX12_insert D 5 RX12 := X
  unfold f_X12_insert
  refine go_iload_n X dX12_insert_0 rfl 1 rfl ?_
  refine go_iconst (v := 0) X dX12_insert_1 rfl ?_
  refine go_aload_n X dX12_insert_2 rfl 0 rfl ?_
  refine go_geti (i := 33) X fc12 dX12_insert_3 trn0 tr0 (Nat.le_of_ble_eq_true rfl) rfl lw1061 rfl (fun v1 hv1 => ?_)
  refine goI (fun H locs ls r ho hW hL => runS X (ok_X12_isIn l D base M a1 ha1 0 kI_0 v1 hv1 H.size r ho) dX12_insert_6 lw942 lw943 lw944 ⟨lw939, cy_X12_isIn, Nat.le_of_ble_eq_true rfl, Nat.le_of_ble_eq_true rfl⟩ rfl rfl (Nat.le_of_ble_eq_true rfl) hW hL hk0) (fun v3 M2 hv3 => ?_)
  refine go_istore_n (i := 3) (L' := [(3, .int (Ii v3)), (0, .ref (base + 0)), (1, .int (Ii a1)), (2, .int (Ii a2))]) X dX12_insert_9 rfl (by decide) rfl ?_
  refine go_aload_n X dX12_insert_10 rfl 1 rfl ?_
  refine go_iload_n X dX12_insert_11 rfl 0 rfl ?_
  refine go_lt (fun J => ∀ (v4 : Int) (M5 : Mm), i32 v4 → Go p l e (rmO 6 164) s m args below meth c D TR 67 base 5 0 0 (FinI D TR 67 base below args s i32) M5 55 [(0, .ref (base + 0)), (1, .int (Ii a1)), (2, .int (Ii a2))] [.int (Ii v4), .ref (base + 0)] (J v4 M5)) (by
      intro v4 M5 hv4
      refine goI (fun H locs ls r ho hW hL => runV X (ok_X12_fails l D base M5 v4 hv4 H.size r ho) dX12_insert_55 lw954 lw955 lw956 lw944 ⟨lw937, cy_X12_fails, Nat.le_of_ble_eq_true rfl, Nat.le_of_ble_eq_true rfl⟩ rfl trn0 tr0 rfl rfl rfl rfl (Nat.le_of_ble_eq_true rfl) hW hL hk0) (fun v8 M7 hv8 => ?_)
      refine go_if_eq (tgt := 63) X dX12_insert_58 rfl (bo_i32 hv8) (fun c9 => ?_) (fun c9 => ?_)
      · refine go_aload_n X dX12_insert_63 rfl 0 rfl ?_
        refine go_geti (i := 33) X fc12 dX12_insert_64 trn0 tr0 (Nat.le_of_ble_eq_true rfl) rfl lw1061 rfl (fun v10 hv10 => ?_)
        refine go_istore (i := 4) (L' := [(4, .int (Ii v10)), (0, .ref (base + 0)), (1, .int (Ii a1)), (2, .int (Ii a2))]) X dX12_insert_67 (by decide) rfl ?_
        refine go_lt (fun J => ∀ (M11 : Mm), Go p l e (rmO 6 164) s m args below meth c D TR 67 base 5 0 0 (FinI D TR 67 base below args s i32) M11 97 [(0, .ref (base + 0)), (1, .int (Ii a1)), (2, .int (Ii a2))] [] (J M11)) (by
            intro M11
            refine go_aload_n X dX12_insert_97 rfl 0 rfl ?_
            refine go_getc (i := 34) X fc12 dX12_insert_98 trn0 tr0 (Nat.le_of_ble_eq_true rfl) rfl lw894 rfl ?_
            refine go_iload_n X dX12_insert_101 rfl 1 rfl ?_
            refine go_iload_n X dX12_insert_102 rfl 2 rfl ?_
            refine go_iastore X dX12_insert_103 trn29 tr29 ha1 ha2 (fun M13 => ?_)
            refine go_aload_n X dX12_insert_104 rfl 0 rfl ?_
            refine go_dup X dX12_insert_105 rfl ?_
            refine go_geti (i := 33) X fc12 dX12_insert_106 trn0 tr0 (Nat.le_of_ble_eq_true rfl) rfl lw1061 rfl (fun v14 hv14 => ?_)
            refine go_iconst (v := 1) X dX12_insert_109 rfl ?_
            refine go_iadd X dX12_insert_110 hv14 kI_1 (fun v15 hv15 => ?_)
            refine go_puti (i := 33) X fc12 dX12_insert_111 trn0 tr0 (Nat.le_of_ble_eq_true rfl) rfl lw1061 rfl rfl rfl hv15 (fun M16 => ?_)
            refine go_aload_n X dX12_insert_114 rfl 0 rfl ?_
            refine goI (fun H locs ls r ho hW hL => runV X (ok_X12_reads l D base M16  H.size r ho) dX12_insert_115 lw1090 lw1091 lw1092 lw944 ⟨lw1089, cy_X12_reads, Nat.le_of_ble_eq_true rfl, Nat.le_of_ble_eq_true rfl⟩ rfl trn0 tr0 rfl rfl rfl rfl (Nat.le_of_ble_eq_true rfl) hW hL hk0) (fun v18 M17 hv18 => ?_)
            exact go_ireturn X hrt hlk dX12_insert_118 hv18
            )
            (fun J97_12 hJ97_12 => ?_)
        refine go_sub [1, 2, 3, 0] rfl ?_
        exact go_lp (fun (rc : Int × Mm → Rs) => ∀ (v19 : Int) (M20 : Mm), i32 v19 → Go p l e (rmO 6 164) s m args below meth c D TR 67 base 5 0 0 (FinI D TR 67 base below args s i32) M20 69 [(0, .ref (base + 0)), (1, .int (Ii a1)), (2, .int (Ii a2)), (4, .int (Ii v19))] [] (rc (v19, M20)))
            (by intro v19 M20 hv19; exact go_none)
            (by
            intro rc69_21 hrc69_21 v19 M20 hv19
            unfold f_X12_insert_L69_27
            dsimp only
            refine go_iload X dX12_insert_69 3 rfl ?_
            refine go_iload_n X dX12_insert_71 rfl 1 rfl ?_
            refine go_icmp_le (tgt := 97) X dX12_insert_72 rfl hv19 ha1 (fun c22 => ?_) (fun c22 => ?_)
            · refine go_sub [0, 1, 2] rfl ?_
              exact hJ97_12 M20
            · refine go_aload_n X dX12_insert_75 rfl 0 rfl ?_
              refine go_getc (i := 34) X fc12 dX12_insert_76 trn0 tr0 (Nat.le_of_ble_eq_true rfl) rfl lw894 rfl ?_
              refine go_iload X dX12_insert_79 3 rfl ?_
              refine go_aload_n X dX12_insert_81 rfl 0 rfl ?_
              refine go_getc (i := 34) X fc12 dX12_insert_82 trn0 tr0 (Nat.le_of_ble_eq_true rfl) rfl lw894 rfl ?_
              refine go_iload X dX12_insert_85 3 rfl ?_
              refine go_iconst (v := 1) X dX12_insert_87 rfl ?_
              refine go_isub X dX12_insert_88 hv19 kI_1 (fun v23 hv23 => ?_)
              refine go_iaload X dX12_insert_89 trn29 tr29 hv23 (fun v24 hv24 => ?_)
              refine go_iastore X dX12_insert_90 trn29 tr29 hv19 hv24 (fun M25 => ?_)
              refine go_iinc (i := 4) (L' := fun v => [(4, .int (Ii v)), (0, .ref (base + 0)), (1, .int (Ii a1)), (2, .int (Ii a2))]) X dX12_insert_91 hv19 kI_m1 (j := 3) rfl (by decide) (fun _ => rfl) (fun v26 hv26 => ?_)
              refine go_goto (tgt := 69) X dX12_insert_94 rfl ?_
              refine go_sub [1, 2, 3, 0] rfl ?_
              exact hrc69_21 v26 M25 hv26
            )
            FU v10 M7 hv10
      · refine go_iconst (v := 0) X dX12_insert_61 rfl ?_
        exact go_ireturn X hrt hlk dX12_insert_62 kI_0
      )
      (fun J55_6 hJ55_6 => ?_)
  refine go_if_ne (tgt := 19) X dX12_insert_12 rfl (bo_i32 hv3) (fun c28 => ?_) (fun c28 => ?_)
  · refine go_iload_n X dX12_insert_19 rfl 3 rfl ?_
    refine go_bipush (v := 97) X dX12_insert_20 (by decide) ?_
    refine go_bipush (v := 102) X dX12_insert_22 (by decide) ?_
    refine goI (fun H locs ls r ho hW hL => runS X (ok_X12_isIn l D base M2 a2 ha2 97 kI_97 102 kI_102 H.size r ho) dX12_insert_24 lw942 lw943 lw944 ⟨lw939, cy_X12_isIn, Nat.le_of_ble_eq_true rfl, Nat.le_of_ble_eq_true rfl⟩ rfl rfl (Nat.le_of_ble_eq_true rfl) hW hL hk0) (fun v30 M29 hv30 => ?_)
    refine go_if_ne (tgt := 34) X dX12_insert_27 rfl (bo_i32 hv30) (fun c31 => ?_) (fun c31 => ?_)
    · refine go_aload_n X dX12_insert_34 rfl 1 rfl ?_
      refine go_geti (i := 33) X fc12 dX12_insert_35 trn0 tr0 (Nat.le_of_ble_eq_true rfl) rfl lw1061 rfl (fun v32 hv32 => ?_)
      refine go_bipush (v := 12) X dX12_insert_38 (by decide) ?_
      refine go_lt (fun J => ∀ (M33 : Mm), Go p l e (rmO 6 164) s m args below meth c D TR 67 base 5 0 0 (FinI D TR 67 base below args s i32) M33 50 [(0, .ref (base + 0)), (1, .int (Ii a1)), (2, .int (Ii a2))] [.ref (base + 0)] (J M33)) (by
          intro M33
          refine go_iconst (v := 3) X dX12_insert_50 rfl ?_
          refine go_goto (tgt := 55) X dX12_insert_51 rfl ?_
          exact hJ55_6 3 M33 kI_3
          )
          (fun J50_34 hJ50_34 => ?_)
      refine go_icmp_eq (tgt := 50) X dX12_insert_40 rfl hv32 kI_12 (fun c35 => ?_) (fun c35 => ?_)
      · refine go_sub [1, 2, 3] rfl ?_
        exact hJ50_34 M29
      · refine go_aload_n X dX12_insert_43 rfl 1 rfl ?_
        refine go_geti (i := 0) X fc12 dX12_insert_44 trn0 tr0 (Nat.le_of_ble_eq_true rfl) rfl lw941 rfl (fun v36 hv36 => ?_)
        refine go_if_ne (tgt := 54) X dX12_insert_47 rfl hv36 (fun c37 => ?_) (fun c37 => ?_)
        · refine go_iconst (v := 0) X dX12_insert_54 rfl ?_
          refine go_sub [1, 2, 3] rfl ?_
          exact hJ55_6 0 M29 kI_0
        · refine go_sub [1, 2, 3] rfl ?_
          exact hJ50_34 M29
    · refine go_iconst (v := 2) X dX12_insert_30 rfl ?_
      refine go_goto (tgt := 55) X dX12_insert_31 rfl ?_
      refine go_sub [1, 2, 3] rfl ?_
      exact hJ55_6 2 M29 kI_2
  · refine go_iconst (v := 1) X dX12_insert_15 rfl ?_
    refine go_goto (tgt := 55) X dX12_insert_16 rfl ?_
    refine go_sub [1, 2, 3] rfl ?_
    exact hJ55_6 1 M2 kI_1
